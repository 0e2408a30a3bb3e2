section
-- ===== PART A: goes FIRST, ahead of the names: the tables' words, and 'selects' of the private methods out of them =====
/-- a private method of a class that the tables say can be made, by its rows of tables_1 -/
def lw_okq (q : MethodName × Nat) : Prop := (q.1.cls ≠ "java/lang/invoke/MethodHandle" ∧ q.1.cls ≠ "java/lang/invoke/VarHandle") ∧ Cond.instantiable q.1.cls q.2 ∈ tables_1 ∧ Cond.privateMethod q.1 ∈ tables_1 ∧ Cond.instanceMethod q.1 ∈ tables_1
theorem lw_p0 : lw_okq (⟨"ShootDown", "startAgain", "(I)V"⟩, 15) := ⟨⟨by decide +kernel, by decide +kernel⟩, List.mem_of_getElem? (i := 13) (by decide +kernel), List.mem_of_getElem? (i := 141) (by decide +kernel), List.mem_of_getElem? (i := 142) (by decide +kernel)⟩
theorem lw_p1 : lw_okq (⟨"ShootDown$Tables", "startAgain", "()V"⟩, 4) := ⟨⟨by decide +kernel, by decide +kernel⟩, List.mem_of_getElem? (i := 21) (by decide +kernel), List.mem_of_getElem? (i := 145) (by decide +kernel), List.mem_of_getElem? (i := 146) (by decide +kernel)⟩
theorem lw_p2 : lw_okq (⟨"ShootDown$Crew", "startAgain", "()V"⟩, 4) := ⟨⟨by decide +kernel, by decide +kernel⟩, List.mem_of_getElem? (i := 42) (by decide +kernel), List.mem_of_getElem? (i := 152) (by decide +kernel), List.mem_of_getElem? (i := 153) (by decide +kernel)⟩
theorem lw_p3 : lw_okq (⟨"ShootDown$Memories", "startAgain", "()V"⟩, 5) := ⟨⟨by decide +kernel, by decide +kernel⟩, List.mem_of_getElem? (i := 65) (by decide +kernel), List.mem_of_getElem? (i := 160) (by decide +kernel), List.mem_of_getElem? (i := 161) (by decide +kernel)⟩
theorem lw_p4 : lw_okq (⟨"ShootDown$Queues", "startAgain", "()V"⟩, 2) := ⟨⟨by decide +kernel, by decide +kernel⟩, List.mem_of_getElem? (i := 88) (by decide +kernel), List.mem_of_getElem? (i := 165) (by decide +kernel), List.mem_of_getElem? (i := 166) (by decide +kernel)⟩
theorem lw_p5 : lw_okq (⟨"ShootDown$Shoots", "startAgain", "()V"⟩, 8) := ⟨⟨by decide +kernel, by decide +kernel⟩, List.mem_of_getElem? (i := 102) (by decide +kernel), List.mem_of_getElem? (i := 170) (by decide +kernel), List.mem_of_getElem? (i := 171) (by decide +kernel)⟩
theorem lw_p6 : lw_okq (⟨"ShootDown$Tables", "entryNow", "(II)I"⟩, 4) := ⟨⟨by decide +kernel, by decide +kernel⟩, List.mem_of_getElem? (i := 21) (by decide +kernel), List.mem_of_getElem? (i := 237) (by decide +kernel), List.mem_of_getElem? (i := 238) (by decide +kernel)⟩
theorem lw_p7 : lw_okq (⟨"ShootDown$Tables", "entryKept", "(III)I"⟩, 4) := ⟨⟨by decide +kernel, by decide +kernel⟩, List.mem_of_getElem? (i := 21) (by decide +kernel), List.mem_of_getElem? (i := 244) (by decide +kernel), List.mem_of_getElem? (i := 245) (by decide +kernel)⟩
theorem lw_p8 : lw_okq (⟨"ShootDown$Tables", "change", "(IIII)V"⟩, 4) := ⟨⟨by decide +kernel, by decide +kernel⟩, List.mem_of_getElem? (i := 21) (by decide +kernel), List.mem_of_getElem? (i := 251) (by decide +kernel), List.mem_of_getElem? (i := 252) (by decide +kernel)⟩
theorem lw_p9 : lw_okq (⟨"ShootDown", "isCore", "(I)Z"⟩, 15) := ⟨⟨by decide +kernel, by decide +kernel⟩, List.mem_of_getElem? (i := 13) (by decide +kernel), List.mem_of_getElem? (i := 266) (by decide +kernel), List.mem_of_getElem? (i := 267) (by decide +kernel)⟩
theorem lw_p10 : lw_okq (⟨"ShootDown", "isFree", "(I)Z"⟩, 15) := ⟨⟨by decide +kernel, by decide +kernel⟩, List.mem_of_getElem? (i := 13) (by decide +kernel), List.mem_of_getElem? (i := 270) (by decide +kernel), List.mem_of_getElem? (i := 271) (by decide +kernel)⟩
theorem lw_p11 : lw_okq (⟨"ShootDown", "takeAllCalls", "(I)I"⟩, 15) := ⟨⟨by decide +kernel, by decide +kernel⟩, List.mem_of_getElem? (i := 13) (by decide +kernel), List.mem_of_getElem? (i := 274) (by decide +kernel), List.mem_of_getElem? (i := 275) (by decide +kernel)⟩
theorem lw_p12 : lw_okq (⟨"ShootDown", "takeFirstCall", "(I)I"⟩, 15) := ⟨⟨by decide +kernel, by decide +kernel⟩, List.mem_of_getElem? (i := 13) (by decide +kernel), List.mem_of_getElem? (i := 278) (by decide +kernel), List.mem_of_getElem? (i := 279) (by decide +kernel)⟩
theorem lw_p13 : lw_okq (⟨"ShootDown$Queues", "removeFirst", "(I)I"⟩, 2) := ⟨⟨by decide +kernel, by decide +kernel⟩, List.mem_of_getElem? (i := 88) (by decide +kernel), List.mem_of_getElem? (i := 282) (by decide +kernel), List.mem_of_getElem? (i := 283) (by decide +kernel)⟩
theorem lw_p14 : lw_okq (⟨"ShootDown$Shoots", "isBegun", "(I)Z"⟩, 8) := ⟨⟨by decide +kernel, by decide +kernel⟩, List.mem_of_getElem? (i := 102) (by decide +kernel), List.mem_of_getElem? (i := 287) (by decide +kernel), List.mem_of_getElem? (i := 288) (by decide +kernel)⟩
theorem lw_p15 : lw_okq (⟨"ShootDown$Memories", "forget", "(III)I"⟩, 5) := ⟨⟨by decide +kernel, by decide +kernel⟩, List.mem_of_getElem? (i := 65) (by decide +kernel), List.mem_of_getElem? (i := 291) (by decide +kernel), List.mem_of_getElem? (i := 292) (by decide +kernel)⟩
def lw_privs_1 : List (MethodName × Nat) := [(⟨"ShootDown", "startAgain", "(I)V"⟩, 15), (⟨"ShootDown$Tables", "startAgain", "()V"⟩, 4), (⟨"ShootDown$Crew", "startAgain", "()V"⟩, 4), (⟨"ShootDown$Memories", "startAgain", "()V"⟩, 5), (⟨"ShootDown$Queues", "startAgain", "()V"⟩, 2), (⟨"ShootDown$Shoots", "startAgain", "()V"⟩, 8), (⟨"ShootDown$Tables", "entryNow", "(II)I"⟩, 4), (⟨"ShootDown$Tables", "entryKept", "(III)I"⟩, 4), (⟨"ShootDown$Tables", "change", "(IIII)V"⟩, 4), (⟨"ShootDown", "isCore", "(I)Z"⟩, 15), (⟨"ShootDown", "isFree", "(I)Z"⟩, 15), (⟨"ShootDown", "takeAllCalls", "(I)I"⟩, 15), (⟨"ShootDown", "takeFirstCall", "(I)I"⟩, 15), (⟨"ShootDown$Queues", "removeFirst", "(I)I"⟩, 2), (⟨"ShootDown$Shoots", "isBegun", "(I)Z"⟩, 8), (⟨"ShootDown$Memories", "forget", "(III)I"⟩, 5)]
theorem lw_r1 : ∀ q ∈ lw_privs_1, lw_okq q := List.forall_mem_cons.mpr ⟨lw_p0, List.forall_mem_cons.mpr ⟨lw_p1, List.forall_mem_cons.mpr ⟨lw_p2, List.forall_mem_cons.mpr ⟨lw_p3, List.forall_mem_cons.mpr ⟨lw_p4, List.forall_mem_cons.mpr ⟨lw_p5, List.forall_mem_cons.mpr ⟨lw_p6, List.forall_mem_cons.mpr ⟨lw_p7, List.forall_mem_cons.mpr ⟨lw_p8, List.forall_mem_cons.mpr ⟨lw_p9, List.forall_mem_cons.mpr ⟨lw_p10, List.forall_mem_cons.mpr ⟨lw_p11, List.forall_mem_cons.mpr ⟨lw_p12, List.forall_mem_cons.mpr ⟨lw_p13, List.forall_mem_cons.mpr ⟨lw_p14, List.forall_mem_cons.mpr ⟨lw_p15, fun _ h => absurd h List.not_mem_nil⟩⟩⟩⟩⟩⟩⟩⟩⟩⟩⟩⟩⟩⟩⟩⟩
theorem lw_p16 : lw_okq (⟨"ShootDown$Memories", "isOf", "(IIII)Z"⟩, 5) := ⟨⟨by decide +kernel, by decide +kernel⟩, List.mem_of_getElem? (i := 65) (by decide +kernel), List.mem_of_getElem? (i := 295) (by decide +kernel), List.mem_of_getElem? (i := 296) (by decide +kernel)⟩
theorem lw_p17 : lw_okq (⟨"ShootDown$Memories", "spaceNoted", "(II)I"⟩, 5) := ⟨⟨by decide +kernel, by decide +kernel⟩, List.mem_of_getElem? (i := 65) (by decide +kernel), List.mem_of_getElem? (i := 299) (by decide +kernel), List.mem_of_getElem? (i := 300) (by decide +kernel)⟩
theorem lw_p18 : lw_okq (⟨"ShootDown$Memories", "pageNoted", "(II)I"⟩, 5) := ⟨⟨by decide +kernel, by decide +kernel⟩, List.mem_of_getElem? (i := 65) (by decide +kernel), List.mem_of_getElem? (i := 303) (by decide +kernel), List.mem_of_getElem? (i := 304) (by decide +kernel)⟩
theorem lw_p19 : lw_okq (⟨"ShootDown$Memories", "move", "(III)V"⟩, 5) := ⟨⟨by decide +kernel, by decide +kernel⟩, List.mem_of_getElem? (i := 65) (by decide +kernel), List.mem_of_getElem? (i := 307) (by decide +kernel), List.mem_of_getElem? (i := 308) (by decide +kernel)⟩
theorem lw_p20 : lw_okq (⟨"ShootDown$Crew", "raiseGeneration", "(III)V"⟩, 4) := ⟨⟨by decide +kernel, by decide +kernel⟩, List.mem_of_getElem? (i := 42) (by decide +kernel), List.mem_of_getElem? (i := 311) (by decide +kernel), List.mem_of_getElem? (i := 312) (by decide +kernel)⟩
theorem lw_p21 : lw_okq (⟨"ShootDown$Shoots", "waitNoMore", "(II)V"⟩, 8) := ⟨⟨by decide +kernel, by decide +kernel⟩, List.mem_of_getElem? (i := 102) (by decide +kernel), List.mem_of_getElem? (i := 318) (by decide +kernel), List.mem_of_getElem? (i := 319) (by decide +kernel)⟩
theorem lw_p22 : lw_okq (⟨"ShootDown$Shoots", "isDone", "(I)Z"⟩, 8) := ⟨⟨by decide +kernel, by decide +kernel⟩, List.mem_of_getElem? (i := 102) (by decide +kernel), List.mem_of_getElem? (i := 322) (by decide +kernel), List.mem_of_getElem? (i := 323) (by decide +kernel)⟩
theorem lw_p23 : lw_okq (⟨"ShootDown", "catchUp", "(I)I"⟩, 15) := ⟨⟨by decide +kernel, by decide +kernel⟩, List.mem_of_getElem? (i := 13) (by decide +kernel), List.mem_of_getElem? (i := 326) (by decide +kernel), List.mem_of_getElem? (i := 327) (by decide +kernel)⟩
theorem lw_p24 : lw_okq (⟨"ShootDown", "isBehind", "(II)Z"⟩, 15) := ⟨⟨by decide +kernel, by decide +kernel⟩, List.mem_of_getElem? (i := 13) (by decide +kernel), List.mem_of_getElem? (i := 330) (by decide +kernel), List.mem_of_getElem? (i := 331) (by decide +kernel)⟩
theorem lw_p25 : lw_okq (⟨"ShootDown$Crew", "generation", "(II)I"⟩, 4) := ⟨⟨by decide +kernel, by decide +kernel⟩, List.mem_of_getElem? (i := 42) (by decide +kernel), List.mem_of_getElem? (i := 334) (by decide +kernel), List.mem_of_getElem? (i := 335) (by decide +kernel)⟩
theorem lw_p26 : lw_okq (⟨"ShootDown$Memories", "find", "(III)I"⟩, 5) := ⟨⟨by decide +kernel, by decide +kernel⟩, List.mem_of_getElem? (i := 65) (by decide +kernel), List.mem_of_getElem? (i := 350) (by decide +kernel), List.mem_of_getElem? (i := 351) (by decide +kernel)⟩
theorem lw_p27 : lw_okq (⟨"ShootDown", "walkTable", "(IIIZ)I"⟩, 15) := ⟨⟨by decide +kernel, by decide +kernel⟩, List.mem_of_getElem? (i := 13) (by decide +kernel), List.mem_of_getElem? (i := 354) (by decide +kernel), List.mem_of_getElem? (i := 355) (by decide +kernel)⟩
theorem lw_p28 : lw_okq (⟨"ShootDown$Memories", "keep", "(IIIII)V"⟩, 5) := ⟨⟨by decide +kernel, by decide +kernel⟩, List.mem_of_getElem? (i := 65) (by decide +kernel), List.mem_of_getElem? (i := 361) (by decide +kernel), List.mem_of_getElem? (i := 362) (by decide +kernel)⟩
theorem lw_p29 : lw_okq (⟨"ShootDown$Memories", "entryNoted", "(II)I"⟩, 5) := ⟨⟨by decide +kernel, by decide +kernel⟩, List.mem_of_getElem? (i := 65) (by decide +kernel), List.mem_of_getElem? (i := 369) (by decide +kernel), List.mem_of_getElem? (i := 370) (by decide +kernel)⟩
theorem lw_p30 : lw_okq (⟨"ShootDown", "goByNote", "(II)I"⟩, 15) := ⟨⟨by decide +kernel, by decide +kernel⟩, List.mem_of_getElem? (i := 13) (by decide +kernel), List.mem_of_getElem? (i := 373) (by decide +kernel), List.mem_of_getElem? (i := 374) (by decide +kernel)⟩
theorem lw_p31 : lw_okq (⟨"ShootDown", "isStale", "(II)Z"⟩, 15) := ⟨⟨by decide +kernel, by decide +kernel⟩, List.mem_of_getElem? (i := 13) (by decide +kernel), List.mem_of_getElem? (i := 377) (by decide +kernel), List.mem_of_getElem? (i := 378) (by decide +kernel)⟩
def lw_privs_2 : List (MethodName × Nat) := [(⟨"ShootDown$Memories", "isOf", "(IIII)Z"⟩, 5), (⟨"ShootDown$Memories", "spaceNoted", "(II)I"⟩, 5), (⟨"ShootDown$Memories", "pageNoted", "(II)I"⟩, 5), (⟨"ShootDown$Memories", "move", "(III)V"⟩, 5), (⟨"ShootDown$Crew", "raiseGeneration", "(III)V"⟩, 4), (⟨"ShootDown$Shoots", "waitNoMore", "(II)V"⟩, 8), (⟨"ShootDown$Shoots", "isDone", "(I)Z"⟩, 8), (⟨"ShootDown", "catchUp", "(I)I"⟩, 15), (⟨"ShootDown", "isBehind", "(II)Z"⟩, 15), (⟨"ShootDown$Crew", "generation", "(II)I"⟩, 4), (⟨"ShootDown$Memories", "find", "(III)I"⟩, 5), (⟨"ShootDown", "walkTable", "(IIIZ)I"⟩, 15), (⟨"ShootDown$Memories", "keep", "(IIIII)V"⟩, 5), (⟨"ShootDown$Memories", "entryNoted", "(II)I"⟩, 5), (⟨"ShootDown", "goByNote", "(II)I"⟩, 15), (⟨"ShootDown", "isStale", "(II)Z"⟩, 15)]
theorem lw_r2 : ∀ q ∈ lw_privs_2, lw_okq q := List.forall_mem_cons.mpr ⟨lw_p16, List.forall_mem_cons.mpr ⟨lw_p17, List.forall_mem_cons.mpr ⟨lw_p18, List.forall_mem_cons.mpr ⟨lw_p19, List.forall_mem_cons.mpr ⟨lw_p20, List.forall_mem_cons.mpr ⟨lw_p21, List.forall_mem_cons.mpr ⟨lw_p22, List.forall_mem_cons.mpr ⟨lw_p23, List.forall_mem_cons.mpr ⟨lw_p24, List.forall_mem_cons.mpr ⟨lw_p25, List.forall_mem_cons.mpr ⟨lw_p26, List.forall_mem_cons.mpr ⟨lw_p27, List.forall_mem_cons.mpr ⟨lw_p28, List.forall_mem_cons.mpr ⟨lw_p29, List.forall_mem_cons.mpr ⟨lw_p30, List.forall_mem_cons.mpr ⟨lw_p31, fun _ h => absurd h List.not_mem_nil⟩⟩⟩⟩⟩⟩⟩⟩⟩⟩⟩⟩⟩⟩⟩⟩
theorem lw_p32 : lw_okq (⟨"ShootDown", "isNote", "(II)Z"⟩, 15) := ⟨⟨by decide +kernel, by decide +kernel⟩, List.mem_of_getElem? (i := 13) (by decide +kernel), List.mem_of_getElem? (i := 391) (by decide +kernel), List.mem_of_getElem? (i := 392) (by decide +kernel)⟩
theorem lw_p33 : lw_okq (⟨"ShootDown$Memories", "timeNoted", "(II)I"⟩, 5) := ⟨⟨by decide +kernel, by decide +kernel⟩, List.mem_of_getElem? (i := 65) (by decide +kernel), List.mem_of_getElem? (i := 398) (by decide +kernel), List.mem_of_getElem? (i := 399) (by decide +kernel)⟩
theorem lw_p34 : lw_okq (⟨"ShootDown$Tables", "heldFrom", "(IIII)Z"⟩, 4) := ⟨⟨by decide +kernel, by decide +kernel⟩, List.mem_of_getElem? (i := 21) (by decide +kernel), List.mem_of_getElem? (i := 406) (by decide +kernel), List.mem_of_getElem? (i := 407) (by decide +kernel)⟩
theorem lw_p35 : lw_okq (⟨"ShootDown$Tables", "timeKept", "(III)I"⟩, 4) := ⟨⟨by decide +kernel, by decide +kernel⟩, List.mem_of_getElem? (i := 21) (by decide +kernel), List.mem_of_getElem? (i := 410) (by decide +kernel), List.mem_of_getElem? (i := 411) (by decide +kernel)⟩
theorem lw_p36 : lw_okq (⟨"ShootDown", "shootPage", "(IIII)I"⟩, 15) := ⟨⟨by decide +kernel, by decide +kernel⟩, List.mem_of_getElem? (i := 13) (by decide +kernel), List.mem_of_getElem? (i := 418) (by decide +kernel), List.mem_of_getElem? (i := 419) (by decide +kernel)⟩
theorem lw_p37 : lw_okq (⟨"ShootDown$Shoots", "isFull", "()Z"⟩, 8) := ⟨⟨by decide +kernel, by decide +kernel⟩, List.mem_of_getElem? (i := 102) (by decide +kernel), List.mem_of_getElem? (i := 422) (by decide +kernel), List.mem_of_getElem? (i := 423) (by decide +kernel)⟩
theorem lw_p38 : lw_okq (⟨"ShootDown", "beginShoot", "(III)I"⟩, 15) := ⟨⟨by decide +kernel, by decide +kernel⟩, List.mem_of_getElem? (i := 13) (by decide +kernel), List.mem_of_getElem? (i := 426) (by decide +kernel), List.mem_of_getElem? (i := 427) (by decide +kernel)⟩
theorem lw_p39 : lw_okq (⟨"ShootDown$Shoots", "begin", "(IIIII)I"⟩, 8) := ⟨⟨by decide +kernel, by decide +kernel⟩, List.mem_of_getElem? (i := 102) (by decide +kernel), List.mem_of_getElem? (i := 430) (by decide +kernel), List.mem_of_getElem? (i := 431) (by decide +kernel)⟩
theorem lw_p40 : lw_okq (⟨"ShootDown$Crew", "isAwakeIn", "(II)Z"⟩, 4) := ⟨⟨by decide +kernel, by decide +kernel⟩, List.mem_of_getElem? (i := 42) (by decide +kernel), List.mem_of_getElem? (i := 434) (by decide +kernel), List.mem_of_getElem? (i := 435) (by decide +kernel)⟩
theorem lw_p41 : lw_okq (⟨"ShootDown$Queues", "append", "(II)V"⟩, 2) := ⟨⟨by decide +kernel, by decide +kernel⟩, List.mem_of_getElem? (i := 88) (by decide +kernel), List.mem_of_getElem? (i := 438) (by decide +kernel), List.mem_of_getElem? (i := 439) (by decide +kernel)⟩
theorem lw_p42 : lw_okq (⟨"ShootDown$Shoots", "waitFor", "(II)V"⟩, 8) := ⟨⟨by decide +kernel, by decide +kernel⟩, List.mem_of_getElem? (i := 102) (by decide +kernel), List.mem_of_getElem? (i := 442) (by decide +kernel), List.mem_of_getElem? (i := 443) (by decide +kernel)⟩
theorem lw_p43 : lw_okq (⟨"ShootDown$Tables", "isAllNone", "(I)Z"⟩, 4) := ⟨⟨by decide +kernel, by decide +kernel⟩, List.mem_of_getElem? (i := 21) (by decide +kernel), List.mem_of_getElem? (i := 454) (by decide +kernel), List.mem_of_getElem? (i := 455) (by decide +kernel)⟩
theorem lw_p44 : lw_okq (⟨"ShootDown$Tables", "changeAllToNone", "(II)V"⟩, 4) := ⟨⟨by decide +kernel, by decide +kernel⟩, List.mem_of_getElem? (i := 21) (by decide +kernel), List.mem_of_getElem? (i := 459) (by decide +kernel), List.mem_of_getElem? (i := 460) (by decide +kernel)⟩
theorem lw_p45 : lw_okq (⟨"ShootDown$Shoots", "waitsFor", "(II)Z"⟩, 8) := ⟨⟨by decide +kernel, by decide +kernel⟩, List.mem_of_getElem? (i := 102) (by decide +kernel), List.mem_of_getElem? (i := 482) (by decide +kernel), List.mem_of_getElem? (i := 483) (by decide +kernel)⟩
theorem lw_p46 : lw_okq (⟨"ShootDown$Tables", "isKept", "(III)Z"⟩, 4) := ⟨⟨by decide +kernel, by decide +kernel⟩, List.mem_of_getElem? (i := 21) (by decide +kernel), List.mem_of_getElem? (i := 498) (by decide +kernel), List.mem_of_getElem? (i := 499) (by decide +kernel)⟩
theorem lw_p47 : lw_okq (⟨"ShootDown$Shoots", "howManyDone", "()I"⟩, 8) := ⟨⟨by decide +kernel, by decide +kernel⟩, List.mem_of_getElem? (i := 102) (by decide +kernel), List.mem_of_getElem? (i := 516) (by decide +kernel), List.mem_of_getElem? (i := 517) (by decide +kernel)⟩
def lw_privs_3 : List (MethodName × Nat) := [(⟨"ShootDown", "isNote", "(II)Z"⟩, 15), (⟨"ShootDown$Memories", "timeNoted", "(II)I"⟩, 5), (⟨"ShootDown$Tables", "heldFrom", "(IIII)Z"⟩, 4), (⟨"ShootDown$Tables", "timeKept", "(III)I"⟩, 4), (⟨"ShootDown", "shootPage", "(IIII)I"⟩, 15), (⟨"ShootDown$Shoots", "isFull", "()Z"⟩, 8), (⟨"ShootDown", "beginShoot", "(III)I"⟩, 15), (⟨"ShootDown$Shoots", "begin", "(IIIII)I"⟩, 8), (⟨"ShootDown$Crew", "isAwakeIn", "(II)Z"⟩, 4), (⟨"ShootDown$Queues", "append", "(II)V"⟩, 2), (⟨"ShootDown$Shoots", "waitFor", "(II)V"⟩, 8), (⟨"ShootDown$Tables", "isAllNone", "(I)Z"⟩, 4), (⟨"ShootDown$Tables", "changeAllToNone", "(II)V"⟩, 4), (⟨"ShootDown$Shoots", "waitsFor", "(II)Z"⟩, 8), (⟨"ShootDown$Tables", "isKept", "(III)Z"⟩, 4), (⟨"ShootDown$Shoots", "howManyDone", "()I"⟩, 8)]
theorem lw_r3 : ∀ q ∈ lw_privs_3, lw_okq q := List.forall_mem_cons.mpr ⟨lw_p32, List.forall_mem_cons.mpr ⟨lw_p33, List.forall_mem_cons.mpr ⟨lw_p34, List.forall_mem_cons.mpr ⟨lw_p35, List.forall_mem_cons.mpr ⟨lw_p36, List.forall_mem_cons.mpr ⟨lw_p37, List.forall_mem_cons.mpr ⟨lw_p38, List.forall_mem_cons.mpr ⟨lw_p39, List.forall_mem_cons.mpr ⟨lw_p40, List.forall_mem_cons.mpr ⟨lw_p41, List.forall_mem_cons.mpr ⟨lw_p42, List.forall_mem_cons.mpr ⟨lw_p43, List.forall_mem_cons.mpr ⟨lw_p44, List.forall_mem_cons.mpr ⟨lw_p45, List.forall_mem_cons.mpr ⟨lw_p46, List.forall_mem_cons.mpr ⟨lw_p47, fun _ h => absurd h List.not_mem_nil⟩⟩⟩⟩⟩⟩⟩⟩⟩⟩⟩⟩⟩⟩⟩⟩
theorem lw_p48 : lw_okq (⟨"ShootDown", "digestOfCore", "(JI)J"⟩, 15) := ⟨⟨by decide +kernel, by decide +kernel⟩, List.mem_of_getElem? (i := 13) (by decide +kernel), List.mem_of_getElem? (i := 528) (by decide +kernel), List.mem_of_getElem? (i := 529) (by decide +kernel)⟩
theorem lw_p49 : lw_okq (⟨"ShootDownModel", "begin", "(I)V"⟩, 30) := ⟨⟨by decide +kernel, by decide +kernel⟩, List.mem_of_getElem? (i := 535) (by decide +kernel), List.mem_of_getElem? (i := 541) (by decide +kernel), List.mem_of_getElem? (i := 542) (by decide +kernel)⟩
theorem lw_p50 : lw_okq (⟨"ShootDownModel", "become", "(II)V"⟩, 30) := ⟨⟨by decide +kernel, by decide +kernel⟩, List.mem_of_getElem? (i := 535) (by decide +kernel), List.mem_of_getElem? (i := 653) (by decide +kernel), List.mem_of_getElem? (i := 654) (by decide +kernel)⟩
theorem lw_p51 : lw_okq (⟨"ShootDownModel", "isCore", "(I)Z"⟩, 30) := ⟨⟨by decide +kernel, by decide +kernel⟩, List.mem_of_getElem? (i := 535) (by decide +kernel), List.mem_of_getElem? (i := 668) (by decide +kernel), List.mem_of_getElem? (i := 669) (by decide +kernel)⟩
theorem lw_p52 : lw_okq (⟨"ShootDownModel", "shootOf", "(I)I"⟩, 30) := ⟨⟨by decide +kernel, by decide +kernel⟩, List.mem_of_getElem? (i := 535) (by decide +kernel), List.mem_of_getElem? (i := 672) (by decide +kernel), List.mem_of_getElem? (i := 673) (by decide +kernel)⟩
theorem lw_p53 : lw_okq (⟨"ShootDownModel", "takeAll", "(I)I"⟩, 30) := ⟨⟨by decide +kernel, by decide +kernel⟩, List.mem_of_getElem? (i := 535) (by decide +kernel), List.mem_of_getElem? (i := 676) (by decide +kernel), List.mem_of_getElem? (i := 677) (by decide +kernel)⟩
theorem lw_p54 : lw_okq (⟨"ShootDownModel", "takeCall", "(I)I"⟩, 30) := ⟨⟨by decide +kernel, by decide +kernel⟩, List.mem_of_getElem? (i := 535) (by decide +kernel), List.mem_of_getElem? (i := 680) (by decide +kernel), List.mem_of_getElem? (i := 681) (by decide +kernel)⟩
theorem lw_p55 : lw_okq (⟨"ShootDownModel", "forget", "(III)I"⟩, 30) := ⟨⟨by decide +kernel, by decide +kernel⟩, List.mem_of_getElem? (i := 535) (by decide +kernel), List.mem_of_getElem? (i := 684) (by decide +kernel), List.mem_of_getElem? (i := 685) (by decide +kernel)⟩
theorem lw_p56 : lw_okq (⟨"ShootDownModel", "dropNote", "(II)V"⟩, 30) := ⟨⟨by decide +kernel, by decide +kernel⟩, List.mem_of_getElem? (i := 535) (by decide +kernel), List.mem_of_getElem? (i := 688) (by decide +kernel), List.mem_of_getElem? (i := 689) (by decide +kernel)⟩
theorem lw_p57 : lw_okq (⟨"ShootDownModel", "settle", "(I)V"⟩, 30) := ⟨⟨by decide +kernel, by decide +kernel⟩, List.mem_of_getElem? (i := 535) (by decide +kernel), List.mem_of_getElem? (i := 692) (by decide +kernel), List.mem_of_getElem? (i := 693) (by decide +kernel)⟩
theorem lw_p58 : lw_okq (⟨"ShootDownModel", "catchUp", "(I)I"⟩, 30) := ⟨⟨by decide +kernel, by decide +kernel⟩, List.mem_of_getElem? (i := 535) (by decide +kernel), List.mem_of_getElem? (i := 696) (by decide +kernel), List.mem_of_getElem? (i := 697) (by decide +kernel)⟩
theorem lw_p59 : lw_okq (⟨"ShootDownModel", "noteOf", "(III)I"⟩, 30) := ⟨⟨by decide +kernel, by decide +kernel⟩, List.mem_of_getElem? (i := 535) (by decide +kernel), List.mem_of_getElem? (i := 712) (by decide +kernel), List.mem_of_getElem? (i := 713) (by decide +kernel)⟩
theorem lw_p60 : lw_okq (⟨"ShootDownModel", "isStale", "(II)Z"⟩, 30) := ⟨⟨by decide +kernel, by decide +kernel⟩, List.mem_of_getElem? (i := 535) (by decide +kernel), List.mem_of_getElem? (i := 716) (by decide +kernel), List.mem_of_getElem? (i := 717) (by decide +kernel)⟩
theorem lw_p61 : lw_okq (⟨"ShootDownModel", "takeNote", "(IIII)V"⟩, 30) := ⟨⟨by decide +kernel, by decide +kernel⟩, List.mem_of_getElem? (i := 535) (by decide +kernel), List.mem_of_getElem? (i := 720) (by decide +kernel), List.mem_of_getElem? (i := 721) (by decide +kernel)⟩
theorem lw_p62 : lw_okq (⟨"ShootDownModel", "isNote", "(II)Z"⟩, 30) := ⟨⟨by decide +kernel, by decide +kernel⟩, List.mem_of_getElem? (i := 535) (by decide +kernel), List.mem_of_getElem? (i := 732) (by decide +kernel), List.mem_of_getElem? (i := 733) (by decide +kernel)⟩
theorem lw_p63 : lw_okq (⟨"ShootDownModel", "mayShoot", "(I)Z"⟩, 30) := ⟨⟨by decide +kernel, by decide +kernel⟩, List.mem_of_getElem? (i := 535) (by decide +kernel), List.mem_of_getElem? (i := 744) (by decide +kernel), List.mem_of_getElem? (i := 745) (by decide +kernel)⟩
def lw_privs_4 : List (MethodName × Nat) := [(⟨"ShootDown", "digestOfCore", "(JI)J"⟩, 15), (⟨"ShootDownModel", "begin", "(I)V"⟩, 30), (⟨"ShootDownModel", "become", "(II)V"⟩, 30), (⟨"ShootDownModel", "isCore", "(I)Z"⟩, 30), (⟨"ShootDownModel", "shootOf", "(I)I"⟩, 30), (⟨"ShootDownModel", "takeAll", "(I)I"⟩, 30), (⟨"ShootDownModel", "takeCall", "(I)I"⟩, 30), (⟨"ShootDownModel", "forget", "(III)I"⟩, 30), (⟨"ShootDownModel", "dropNote", "(II)V"⟩, 30), (⟨"ShootDownModel", "settle", "(I)V"⟩, 30), (⟨"ShootDownModel", "catchUp", "(I)I"⟩, 30), (⟨"ShootDownModel", "noteOf", "(III)I"⟩, 30), (⟨"ShootDownModel", "isStale", "(II)Z"⟩, 30), (⟨"ShootDownModel", "takeNote", "(IIII)V"⟩, 30), (⟨"ShootDownModel", "isNote", "(II)Z"⟩, 30), (⟨"ShootDownModel", "mayShoot", "(I)Z"⟩, 30)]
theorem lw_r4 : ∀ q ∈ lw_privs_4, lw_okq q := List.forall_mem_cons.mpr ⟨lw_p48, List.forall_mem_cons.mpr ⟨lw_p49, List.forall_mem_cons.mpr ⟨lw_p50, List.forall_mem_cons.mpr ⟨lw_p51, List.forall_mem_cons.mpr ⟨lw_p52, List.forall_mem_cons.mpr ⟨lw_p53, List.forall_mem_cons.mpr ⟨lw_p54, List.forall_mem_cons.mpr ⟨lw_p55, List.forall_mem_cons.mpr ⟨lw_p56, List.forall_mem_cons.mpr ⟨lw_p57, List.forall_mem_cons.mpr ⟨lw_p58, List.forall_mem_cons.mpr ⟨lw_p59, List.forall_mem_cons.mpr ⟨lw_p60, List.forall_mem_cons.mpr ⟨lw_p61, List.forall_mem_cons.mpr ⟨lw_p62, List.forall_mem_cons.mpr ⟨lw_p63, fun _ h => absurd h List.not_mem_nil⟩⟩⟩⟩⟩⟩⟩⟩⟩⟩⟩⟩⟩⟩⟩⟩
theorem lw_p64 : lw_okq (⟨"ShootDownModel", "begins", "(IIII)I"⟩, 30) := ⟨⟨by decide +kernel, by decide +kernel⟩, List.mem_of_getElem? (i := 535) (by decide +kernel), List.mem_of_getElem? (i := 748) (by decide +kernel), List.mem_of_getElem? (i := 749) (by decide +kernel)⟩
theorem lw_p65 : lw_okq (⟨"ShootDownModel", "waited", "(I)I"⟩, 30) := ⟨⟨by decide +kernel, by decide +kernel⟩, List.mem_of_getElem? (i := 535) (by decide +kernel), List.mem_of_getElem? (i := 772) (by decide +kernel), List.mem_of_getElem? (i := 773) (by decide +kernel)⟩
def lw_privs_5 : List (MethodName × Nat) := [(⟨"ShootDownModel", "begins", "(IIII)I"⟩, 30), (⟨"ShootDownModel", "waited", "(I)I"⟩, 30)]
theorem lw_r5 : ∀ q ∈ lw_privs_5, lw_okq q := List.forall_mem_cons.mpr ⟨lw_p64, List.forall_mem_cons.mpr ⟨lw_p65, fun _ h => absurd h List.not_mem_nil⟩⟩
def lw_privs : List (MethodName × Nat) := lw_privs_1 ++ (lw_privs_2 ++ (lw_privs_3 ++ (lw_privs_4 ++ (lw_privs_5))))
def lw_tbl : List Cond := k2_sels lw_privs ++ tables_1
theorem lw_privs_ok : ∀ q ∈ lw_privs, lw_okq q := by
  show ∀ q ∈ lw_privs_1 ++ (lw_privs_2 ++ (lw_privs_3 ++ (lw_privs_4 ++ (lw_privs_5)))), lw_okq q
  exact List.forall_mem_append.mpr ⟨lw_r1, List.forall_mem_append.mpr ⟨lw_r2, List.forall_mem_append.mpr ⟨lw_r3, List.forall_mem_append.mpr ⟨lw_r4, lw_r5⟩⟩⟩⟩
-- ===== names, by the kit's own printer =====
def RX0 : String := "ShootDown$Crew"
def TX0 : u_T := fun k => match k with
  | 0 => ("ShootDown$Crew", "spaces", "[I", true)
  | 1 => ("ShootDown$Crew", "awake", "[Z", true)
  | 2 => ("ShootDown$Crew", "shootsUnderWay", "[I", true)
  | _ => ("ShootDown$Crew", "generations", "[I", true)
def tyX0 : Nat → FieldType := fun k => match k with
  | 0 => .array .int
  | 1 => .array .boolean
  | 2 => .array .int
  | _ => .array .int
abbrev wsX00 : List Cond := u_ws RX0 TX0 4
theorem nmX0 : ∀ a, a < 4 → ∀ b, b < 4 → a ≠ b → (TX0 a).2.1 ≠ (TX0 b).2.1 := by decide +kernel
theorem tyX0_ok : ∀ k, k < 4 → parseFieldDescriptor (TX0 k).2.2.1 = some (tyX0 k) := by decide +kernel
abbrev cX0_init : ByteArray := prog_2_method_1_code
def yX0_init : MethodName := ⟨RX0, "<init>", "()V"⟩
abbrev cX0_startAgain : ByteArray := prog_2_method_2_code
def yX0_startAgain : MethodName := ⟨RX0, "startAgain", "()V"⟩
abbrev cX0_isAwakeIn : ByteArray := prog_2_method_3_code
def yX0_isAwakeIn : MethodName := ⟨RX0, "isAwakeIn", "(II)Z"⟩
abbrev cX0_generation : ByteArray := prog_2_method_4_code
def yX0_generation : MethodName := ⟨RX0, "generation", "(II)I"⟩
abbrev cX0_raiseGeneration : ByteArray := prog_2_method_5_code
def yX0_raiseGeneration : MethodName := ⟨RX0, "raiseGeneration", "(III)V"⟩
def RX1 : String := "ShootDown$Memories"
def TX1 : u_T := fun k => match k with
  | 0 => ("ShootDown$Memories", "held", "[I", true)
  | 1 => ("ShootDown$Memories", "spaces", "[I", true)
  | 2 => ("ShootDown$Memories", "pages", "[I", true)
  | 3 => ("ShootDown$Memories", "entries", "[I", true)
  | _ => ("ShootDown$Memories", "times", "[I", true)
def tyX1 : Nat → FieldType := fun k => match k with
  | 0 => .array .int
  | 1 => .array .int
  | 2 => .array .int
  | 3 => .array .int
  | _ => .array .int
abbrev wsX10 : List Cond := u_ws RX1 TX1 5
theorem nmX1 : ∀ a, a < 5 → ∀ b, b < 5 → a ≠ b → (TX1 a).2.1 ≠ (TX1 b).2.1 := by decide +kernel
theorem tyX1_ok : ∀ k, k < 5 → parseFieldDescriptor (TX1 k).2.2.1 = some (tyX1 k) := by decide +kernel
abbrev cX1_init : ByteArray := prog_3_method_1_code
def yX1_init : MethodName := ⟨RX1, "<init>", "()V"⟩
abbrev cX1_startAgain : ByteArray := prog_3_method_2_code
def yX1_startAgain : MethodName := ⟨RX1, "startAgain", "()V"⟩
abbrev cX1_spaceNoted : ByteArray := prog_3_method_3_code
def yX1_spaceNoted : MethodName := ⟨RX1, "spaceNoted", "(II)I"⟩
abbrev cX1_pageNoted : ByteArray := prog_3_method_4_code
def yX1_pageNoted : MethodName := ⟨RX1, "pageNoted", "(II)I"⟩
abbrev cX1_entryNoted : ByteArray := prog_3_method_5_code
def yX1_entryNoted : MethodName := ⟨RX1, "entryNoted", "(II)I"⟩
abbrev cX1_timeNoted : ByteArray := prog_3_method_6_code
def yX1_timeNoted : MethodName := ⟨RX1, "timeNoted", "(II)I"⟩
abbrev cX1_find : ByteArray := prog_3_method_7_code
def yX1_find : MethodName := ⟨RX1, "find", "(III)I"⟩
abbrev cX1_keep : ByteArray := prog_3_method_8_code
def yX1_keep : MethodName := ⟨RX1, "keep", "(IIIII)V"⟩
abbrev cX1_forget : ByteArray := prog_3_method_9_code
def yX1_forget : MethodName := ⟨RX1, "forget", "(III)I"⟩
abbrev cX1_isOf : ByteArray := prog_3_method_10_code
def yX1_isOf : MethodName := ⟨RX1, "isOf", "(IIII)Z"⟩
abbrev cX1_move : ByteArray := prog_3_method_11_code
def yX1_move : MethodName := ⟨RX1, "move", "(III)V"⟩
def RX2 : String := "ShootDown$Queues"
def TX2 : u_T := fun k => match k with
  | 0 => ("ShootDown$Queues", "lengths", "[I", true)
  | _ => ("ShootDown$Queues", "calls", "[I", true)
def tyX2 : Nat → FieldType := fun k => match k with
  | 0 => .array .int
  | _ => .array .int
abbrev wsX20 : List Cond := u_ws RX2 TX2 2
theorem nmX2 : ∀ a, a < 2 → ∀ b, b < 2 → a ≠ b → (TX2 a).2.1 ≠ (TX2 b).2.1 := by decide +kernel
theorem tyX2_ok : ∀ k, k < 2 → parseFieldDescriptor (TX2 k).2.2.1 = some (tyX2 k) := by decide +kernel
abbrev cX2_init : ByteArray := prog_4_method_1_code
def yX2_init : MethodName := ⟨RX2, "<init>", "()V"⟩
abbrev cX2_startAgain : ByteArray := prog_4_method_2_code
def yX2_startAgain : MethodName := ⟨RX2, "startAgain", "()V"⟩
abbrev cX2_append : ByteArray := prog_4_method_3_code
def yX2_append : MethodName := ⟨RX2, "append", "(II)V"⟩
abbrev cX2_removeFirst : ByteArray := prog_4_method_4_code
def yX2_removeFirst : MethodName := ⟨RX2, "removeFirst", "(I)I"⟩
def RX3 : String := "ShootDown$Shoots"
def TX3 : u_T := fun k => match k with
  | 0 => ("ShootDown$Shoots", "begun", "I", false)
  | 1 => ("ShootDown$Shoots", "beganBy", "[I", true)
  | 2 => ("ShootDown$Shoots", "spaces", "[I", true)
  | 3 => ("ShootDown$Shoots", "pages", "[I", true)
  | 4 => ("ShootDown$Shoots", "generations", "[I", true)
  | 5 => ("ShootDown$Shoots", "begunAt", "[I", true)
  | 6 => ("ShootDown$Shoots", "doneAt", "[I", true)
  | _ => ("ShootDown$Shoots", "waitedFor", "[I", true)
def tyX3 : Nat → FieldType := fun k => match k with
  | 0 => .int
  | 1 => .array .int
  | 2 => .array .int
  | 3 => .array .int
  | 4 => .array .int
  | 5 => .array .int
  | 6 => .array .int
  | _ => .array .int
abbrev wsX30 : List Cond := u_ws RX3 TX3 8
theorem nmX3 : ∀ a, a < 8 → ∀ b, b < 8 → a ≠ b → (TX3 a).2.1 ≠ (TX3 b).2.1 := by decide +kernel
theorem tyX3_ok : ∀ k, k < 8 → parseFieldDescriptor (TX3 k).2.2.1 = some (tyX3 k) := by decide +kernel
abbrev cX3_init : ByteArray := prog_5_method_1_code
def yX3_init : MethodName := ⟨RX3, "<init>", "()V"⟩
abbrev cX3_startAgain : ByteArray := prog_5_method_2_code
def yX3_startAgain : MethodName := ⟨RX3, "startAgain", "()V"⟩
abbrev cX3_isFull : ByteArray := prog_5_method_3_code
def yX3_isFull : MethodName := ⟨RX3, "isFull", "()Z"⟩
abbrev cX3_isBegun : ByteArray := prog_5_method_4_code
def yX3_isBegun : MethodName := ⟨RX3, "isBegun", "(I)Z"⟩
abbrev cX3_isDone : ByteArray := prog_5_method_5_code
def yX3_isDone : MethodName := ⟨RX3, "isDone", "(I)Z"⟩
abbrev cX3_waitsFor : ByteArray := prog_5_method_6_code
def yX3_waitsFor : MethodName := ⟨RX3, "waitsFor", "(II)Z"⟩
abbrev cX3_howManyDone : ByteArray := prog_5_method_7_code
def yX3_howManyDone : MethodName := ⟨RX3, "howManyDone", "()I"⟩
abbrev cX3_begin : ByteArray := prog_5_method_8_code
def yX3_begin : MethodName := ⟨RX3, "begin", "(IIIII)I"⟩
abbrev cX3_waitFor : ByteArray := prog_5_method_9_code
def yX3_waitFor : MethodName := ⟨RX3, "waitFor", "(II)V"⟩
abbrev cX3_waitNoMore : ByteArray := prog_5_method_10_code
def yX3_waitNoMore : MethodName := ⟨RX3, "waitNoMore", "(II)V"⟩
def RX4 : String := "ShootDown$Tables"
def TX4 : u_T := fun k => match k with
  | 0 => ("ShootDown$Tables", "generations", "[I", true)
  | 1 => ("ShootDown$Tables", "kept", "[I", true)
  | 2 => ("ShootDown$Tables", "entries", "[I", true)
  | _ => ("ShootDown$Tables", "times", "[I", true)
def tyX4 : Nat → FieldType := fun k => match k with
  | 0 => .array .int
  | 1 => .array .int
  | 2 => .array .int
  | _ => .array .int
abbrev wsX40 : List Cond := u_ws RX4 TX4 4
theorem nmX4 : ∀ a, a < 4 → ∀ b, b < 4 → a ≠ b → (TX4 a).2.1 ≠ (TX4 b).2.1 := by decide +kernel
theorem tyX4_ok : ∀ k, k < 4 → parseFieldDescriptor (TX4 k).2.2.1 = some (tyX4 k) := by decide +kernel
abbrev cX4_init : ByteArray := prog_6_method_1_code
def yX4_init : MethodName := ⟨RX4, "<init>", "()V"⟩
abbrev cX4_startAgain : ByteArray := prog_6_method_2_code
def yX4_startAgain : MethodName := ⟨RX4, "startAgain", "()V"⟩
abbrev cX4_isKept : ByteArray := prog_6_method_3_code
def yX4_isKept : MethodName := ⟨RX4, "isKept", "(III)Z"⟩
abbrev cX4_entryKept : ByteArray := prog_6_method_4_code
def yX4_entryKept : MethodName := ⟨RX4, "entryKept", "(III)I"⟩
abbrev cX4_timeKept : ByteArray := prog_6_method_5_code
def yX4_timeKept : MethodName := ⟨RX4, "timeKept", "(III)I"⟩
abbrev cX4_entryNow : ByteArray := prog_6_method_6_code
def yX4_entryNow : MethodName := ⟨RX4, "entryNow", "(II)I"⟩
abbrev cX4_isAllNone : ByteArray := prog_6_method_7_code
def yX4_isAllNone : MethodName := ⟨RX4, "isAllNone", "(I)Z"⟩
abbrev cX4_change : ByteArray := prog_6_method_8_code
def yX4_change : MethodName := ⟨RX4, "change", "(IIII)V"⟩
abbrev cX4_changeAllToNone : ByteArray := prog_6_method_9_code
def yX4_changeAllToNone : MethodName := ⟨RX4, "changeAllToNone", "(II)V"⟩
abbrev cX4_heldFrom : ByteArray := prog_6_method_10_code
def yX4_heldFrom : MethodName := ⟨RX4, "heldFrom", "(IIII)Z"⟩
abbrev cX4_rowOf : ByteArray := prog_6_method_11_code
def yX4_rowOf : MethodName := ⟨RX4, "rowOf", "(II)I"⟩
def RX5 : String := "ShootDown"
def TX5 : u_T := fun k => match k with
  | 0 => ("ShootDown", "tables", "LShootDown$Tables;", true)
  | 1 => ("ShootDown", "crew", "LShootDown$Crew;", true)
  | 2 => ("ShootDown", "memories", "LShootDown$Memories;", true)
  | 3 => ("ShootDown", "queues", "LShootDown$Queues;", true)
  | 4 => ("ShootDown", "shoots", "LShootDown$Shoots;", true)
  | 5 => ("ShootDown", "coreCount", "I", false)
  | 6 => ("ShootDown", "time", "I", false)
  | 7 => ("ShootDown", "lookWent", "I", false)
  | 8 => ("ShootDown", "seenEntry", "I", false)
  | 9 => ("ShootDown", "hits", "I", false)
  | 10 => ("ShootDown", "oldHits", "I", false)
  | 11 => ("ShootDown", "walks", "I", false)
  | 12 => ("ShootDown", "faults", "I", false)
  | 13 => ("ShootDown", "callsTaken", "I", false)
  | _ => ("ShootDown", "notesForgotten", "I", false)
def tyX5 : Nat → FieldType := fun k => match k with
  | 0 => .object "ShootDown$Tables"
  | 1 => .object "ShootDown$Crew"
  | 2 => .object "ShootDown$Memories"
  | 3 => .object "ShootDown$Queues"
  | 4 => .object "ShootDown$Shoots"
  | 5 => .int
  | 6 => .int
  | 7 => .int
  | 8 => .int
  | 9 => .int
  | 10 => .int
  | 11 => .int
  | 12 => .int
  | 13 => .int
  | _ => .int
abbrev wsX50 : List Cond := u_ws RX5 TX5 15
theorem nmX5 : ∀ a, a < 15 → ∀ b, b < 15 → a ≠ b → (TX5 a).2.1 ≠ (TX5 b).2.1 := by decide +kernel
theorem tyX5_ok : ∀ k, k < 15 → parseFieldDescriptor (TX5 k).2.2.1 = some (tyX5 k) := by decide +kernel
abbrev cX5_init : ByteArray := prog_1_method_1_code
def yX5_init : MethodName := ⟨RX5, "<init>", "()V"⟩
abbrev cX5_cores : ByteArray := prog_1_method_2_code
def yX5_cores : MethodName := ⟨RX5, "cores", "(I)I"⟩
abbrev cX5_map : ByteArray := prog_1_method_3_code
def yX5_map : MethodName := ⟨RX5, "map", "(IIIZ)I"⟩
abbrev cX5_entry : ByteArray := prog_1_method_4_code
def yX5_entry : MethodName := ⟨RX5, "entry", "(II)I"⟩
abbrev cX5_enter : ByteArray := prog_1_method_5_code
def yX5_enter : MethodName := ⟨RX5, "enter", "(II)I"⟩
abbrev cX5_sleep : ByteArray := prog_1_method_6_code
def yX5_sleep : MethodName := ⟨RX5, "sleep", "(I)I"⟩
abbrev cX5_wake : ByteArray := prog_1_method_7_code
def yX5_wake : MethodName := ⟨RX5, "wake", "(I)I"⟩
abbrev cX5_look : ByteArray := prog_1_method_8_code
def yX5_look : MethodName := ⟨RX5, "look", "(IIZ)I"⟩
abbrev cX5_how : ByteArray := prog_1_method_9_code
def yX5_how : MethodName := ⟨RX5, "how", "()I"⟩
abbrev cX5_note : ByteArray := prog_1_method_10_code
def yX5_note : MethodName := ⟨RX5, "note", "(III)I"⟩
abbrev cX5_wasSo : ByteArray := prog_1_method_11_code
def yX5_wasSo : MethodName := ⟨RX5, "wasSo", "(II)I"⟩
abbrev cX5_unmap : ByteArray := prog_1_method_12_code
def yX5_unmap : MethodName := ⟨RX5, "unmap", "(III)I"⟩
abbrev cX5_remap : ByteArray := prog_1_method_13_code
def yX5_remap : MethodName := ⟨RX5, "remap", "(IIIIZ)I"⟩
abbrev cX5_clear : ByteArray := prog_1_method_14_code
def yX5_clear : MethodName := ⟨RX5, "clear", "(II)I"⟩
abbrev cX5_take : ByteArray := prog_1_method_15_code
def yX5_take : MethodName := ⟨RX5, "take", "(I)I"⟩
abbrev cX5_rounds : ByteArray := prog_1_method_16_code
def yX5_rounds : MethodName := ⟨RX5, "rounds", "(II)I"⟩
abbrev cX5_shoot : ByteArray := prog_1_method_17_code
def yX5_shoot : MethodName := ⟨RX5, "shoot", "(II)I"⟩
abbrev cX5_underWay : ByteArray := prog_1_method_18_code
def yX5_underWay : MethodName := ⟨RX5, "underWay", "(I)I"⟩
abbrev cX5_core : ByteArray := prog_1_method_19_code
def yX5_core : MethodName := ⟨RX5, "core", "(II)I"⟩
abbrev cX5_history : ByteArray := prog_1_method_20_code
def yX5_history : MethodName := ⟨RX5, "history", "(III)I"⟩
abbrev cX5_seen : ByteArray := prog_1_method_21_code
def yX5_seen : MethodName := ⟨RX5, "seen", "()I"⟩
abbrev cX5_danger : ByteArray := prog_1_method_22_code
def yX5_danger : MethodName := ⟨RX5, "danger", "(II)I"⟩
abbrev cX5_count : ByteArray := prog_1_method_23_code
def yX5_count : MethodName := ⟨RX5, "count", "(I)I"⟩
abbrev cX5_digest : ByteArray := prog_1_method_24_code
def yX5_digest : MethodName := ⟨RX5, "digest", "()J"⟩
abbrev cX5_startAgain : ByteArray := prog_1_method_25_code
def yX5_startAgain : MethodName := ⟨RX5, "startAgain", "(I)V"⟩
abbrev cX5_isCore : ByteArray := prog_1_method_26_code
def yX5_isCore : MethodName := ⟨RX5, "isCore", "(I)Z"⟩
abbrev cX5_isFree : ByteArray := prog_1_method_27_code
def yX5_isFree : MethodName := ⟨RX5, "isFree", "(I)Z"⟩
abbrev cX5_isBehind : ByteArray := prog_1_method_28_code
def yX5_isBehind : MethodName := ⟨RX5, "isBehind", "(II)Z"⟩
abbrev cX5_isNote : ByteArray := prog_1_method_29_code
def yX5_isNote : MethodName := ⟨RX5, "isNote", "(II)Z"⟩
abbrev cX5_isStale : ByteArray := prog_1_method_30_code
def yX5_isStale : MethodName := ⟨RX5, "isStale", "(II)Z"⟩
abbrev cX5_goByNote : ByteArray := prog_1_method_31_code
def yX5_goByNote : MethodName := ⟨RX5, "goByNote", "(II)I"⟩
abbrev cX5_walkTable : ByteArray := prog_1_method_32_code
def yX5_walkTable : MethodName := ⟨RX5, "walkTable", "(IIIZ)I"⟩
abbrev cX5_shootPage : ByteArray := prog_1_method_33_code
def yX5_shootPage : MethodName := ⟨RX5, "shootPage", "(IIII)I"⟩
abbrev cX5_beginShoot : ByteArray := prog_1_method_34_code
def yX5_beginShoot : MethodName := ⟨RX5, "beginShoot", "(III)I"⟩
abbrev cX5_takeFirstCall : ByteArray := prog_1_method_35_code
def yX5_takeFirstCall : MethodName := ⟨RX5, "takeFirstCall", "(I)I"⟩
abbrev cX5_takeAllCalls : ByteArray := prog_1_method_36_code
def yX5_takeAllCalls : MethodName := ⟨RX5, "takeAllCalls", "(I)I"⟩
abbrev cX5_catchUp : ByteArray := prog_1_method_37_code
def yX5_catchUp : MethodName := ⟨RX5, "catchUp", "(I)I"⟩
abbrev cX5_digestOfCore : ByteArray := prog_1_method_38_code
def yX5_digestOfCore : MethodName := ⟨RX5, "digestOfCore", "(JI)J"⟩
abbrev cX5_isSpace : ByteArray := prog_1_method_39_code
def yX5_isSpace : MethodName := ⟨RX5, "isSpace", "(I)Z"⟩
abbrev cX5_isPage : ByteArray := prog_1_method_40_code
def yX5_isPage : MethodName := ⟨RX5, "isPage", "(I)Z"⟩
abbrev cX5_isFrame : ByteArray := prog_1_method_41_code
def yX5_isFrame : MethodName := ⟨RX5, "isFrame", "(I)Z"⟩
abbrev cX5_entryOf : ByteArray := prog_1_method_42_code
def yX5_entryOf : MethodName := ⟨RX5, "entryOf", "(IZ)I"⟩
abbrev cX5_frameOf : ByteArray := prog_1_method_43_code
def yX5_frameOf : MethodName := ⟨RX5, "frameOf", "(I)I"⟩
abbrev cX5_isWritable : ByteArray := prog_1_method_44_code
def yX5_isWritable : MethodName := ⟨RX5, "isWritable", "(I)Z"⟩
abbrev cX5_oneIf : ByteArray := prog_1_method_45_code
def yX5_oneIf : MethodName := ⟨RX5, "oneIf", "(Z)I"⟩
def RX6 : String := "ShootDownModel"
def TX6 : u_T := fun k => match k with
  | 0 => ("ShootDownModel", "cores", "I", false)
  | 1 => ("ShootDownModel", "time", "I", false)
  | 2 => ("ShootDownModel", "seen", "I", false)
  | 3 => ("ShootDownModel", "how", "I", false)
  | 4 => ("ShootDownModel", "entry", "[I", true)
  | 5 => ("ShootDownModel", "generation", "[I", true)
  | 6 => ("ShootDownModel", "historyMany", "[I", true)
  | 7 => ("ShootDownModel", "historyTime", "[I", true)
  | 8 => ("ShootDownModel", "historyWas", "[I", true)
  | 9 => ("ShootDownModel", "space", "[I", true)
  | 10 => ("ShootDownModel", "awake", "[Z", true)
  | 11 => ("ShootDownModel", "notes", "[I", true)
  | 12 => ("ShootDownModel", "note", "[I", true)
  | 13 => ("ShootDownModel", "calls", "[I", true)
  | 14 => ("ShootDownModel", "queue", "[I", true)
  | 15 => ("ShootDownModel", "forgot", "[I", true)
  | 16 => ("ShootDownModel", "shoots", "I", false)
  | 17 => ("ShootDownModel", "byCore", "[I", true)
  | 18 => ("ShootDownModel", "ofSpace", "[I", true)
  | 19 => ("ShootDownModel", "ofPage", "[I", true)
  | 20 => ("ShootDownModel", "toGeneration", "[I", true)
  | 21 => ("ShootDownModel", "begunAt", "[I", true)
  | 22 => ("ShootDownModel", "doneAt", "[I", true)
  | 23 => ("ShootDownModel", "waits", "[Z", true)
  | 24 => ("ShootDownModel", "hits", "I", false)
  | 25 => ("ShootDownModel", "old", "I", false)
  | 26 => ("ShootDownModel", "walks", "I", false)
  | 27 => ("ShootDownModel", "faults", "I", false)
  | 28 => ("ShootDownModel", "taken", "I", false)
  | _ => ("ShootDownModel", "cleared", "I", false)
def tyX6 : Nat → FieldType := fun k => match k with
  | 0 => .int
  | 1 => .int
  | 2 => .int
  | 3 => .int
  | 4 => .array .int
  | 5 => .array .int
  | 6 => .array .int
  | 7 => .array .int
  | 8 => .array .int
  | 9 => .array .int
  | 10 => .array .boolean
  | 11 => .array .int
  | 12 => .array .int
  | 13 => .array .int
  | 14 => .array .int
  | 15 => .array .int
  | 16 => .int
  | 17 => .array .int
  | 18 => .array .int
  | 19 => .array .int
  | 20 => .array .int
  | 21 => .array .int
  | 22 => .array .int
  | 23 => .array .boolean
  | 24 => .int
  | 25 => .int
  | 26 => .int
  | 27 => .int
  | 28 => .int
  | _ => .int
abbrev wsX60 : List Cond := u_ws RX6 TX6 30
theorem nmX6 : ∀ a, a < 30 → ∀ b, b < 30 → a ≠ b → (TX6 a).2.1 ≠ (TX6 b).2.1 := by decide +kernel
theorem tyX6_ok : ∀ k, k < 30 → parseFieldDescriptor (TX6 k).2.2.1 = some (tyX6 k) := by decide +kernel
abbrev cX6_init : ByteArray := prog_8_method_1_code
def yX6_init : MethodName := ⟨RX6, "<init>", "()V"⟩
abbrev cX6_in : ByteArray := prog_8_method_2_code
def yX6_in : MethodName := ⟨RX6, "in", "(III)Z"⟩
abbrev cX6_begin : ByteArray := prog_8_method_3_code
def yX6_begin : MethodName := ⟨RX6, "begin", "(I)V"⟩
abbrev cX6_isCore : ByteArray := prog_8_method_4_code
def yX6_isCore : MethodName := ⟨RX6, "isCore", "(I)Z"⟩
abbrev cX6_isPage : ByteArray := prog_8_method_5_code
def yX6_isPage : MethodName := ⟨RX6, "isPage", "(II)Z"⟩
abbrev cX6_cores : ByteArray := prog_8_method_6_code
def yX6_cores : MethodName := ⟨RX6, "cores", "(I)I"⟩
abbrev cX6_become : ByteArray := prog_8_method_7_code
def yX6_become : MethodName := ⟨RX6, "become", "(II)V"⟩
abbrev cX6_entryOf : ByteArray := prog_8_method_8_code
def yX6_entryOf : MethodName := ⟨RX6, "entryOf", "(IZ)I"⟩
abbrev cX6_told : ByteArray := prog_8_method_9_code
def yX6_told : MethodName := ⟨RX6, "told", "(I)I"⟩
abbrev cX6_map : ByteArray := prog_8_method_10_code
def yX6_map : MethodName := ⟨RX6, "map", "(IIIZ)I"⟩
abbrev cX6_entry : ByteArray := prog_8_method_11_code
def yX6_entry : MethodName := ⟨RX6, "entry", "(II)I"⟩
abbrev cX6_dropNote : ByteArray := prog_8_method_12_code
def yX6_dropNote : MethodName := ⟨RX6, "dropNote", "(II)V"⟩
abbrev cX6_noteOf : ByteArray := prog_8_method_13_code
def yX6_noteOf : MethodName := ⟨RX6, "noteOf", "(III)I"⟩
abbrev cX6_forget : ByteArray := prog_8_method_14_code
def yX6_forget : MethodName := ⟨RX6, "forget", "(III)I"⟩
abbrev cX6_takeNote : ByteArray := prog_8_method_15_code
def yX6_takeNote : MethodName := ⟨RX6, "takeNote", "(IIII)V"⟩
abbrev cX6_takeCall : ByteArray := prog_8_method_16_code
def yX6_takeCall : MethodName := ⟨RX6, "takeCall", "(I)I"⟩
abbrev cX6_settle : ByteArray := prog_8_method_17_code
def yX6_settle : MethodName := ⟨RX6, "settle", "(I)V"⟩
abbrev cX6_takeAll : ByteArray := prog_8_method_18_code
def yX6_takeAll : MethodName := ⟨RX6, "takeAll", "(I)I"⟩
abbrev cX6_shootOf : ByteArray := prog_8_method_19_code
def yX6_shootOf : MethodName := ⟨RX6, "shootOf", "(I)I"⟩
abbrev cX6_catchUp : ByteArray := prog_8_method_20_code
def yX6_catchUp : MethodName := ⟨RX6, "catchUp", "(I)I"⟩
abbrev cX6_enter : ByteArray := prog_8_method_21_code
def yX6_enter : MethodName := ⟨RX6, "enter", "(II)I"⟩
abbrev cX6_sleep : ByteArray := prog_8_method_22_code
def yX6_sleep : MethodName := ⟨RX6, "sleep", "(I)I"⟩
abbrev cX6_wake : ByteArray := prog_8_method_23_code
def yX6_wake : MethodName := ⟨RX6, "wake", "(I)I"⟩
abbrev cX6_isStale : ByteArray := prog_8_method_24_code
def yX6_isStale : MethodName := ⟨RX6, "isStale", "(II)Z"⟩
abbrev cX6_look : ByteArray := prog_8_method_25_code
def yX6_look : MethodName := ⟨RX6, "look", "(IIZ)I"⟩
abbrev cX6_how : ByteArray := prog_8_method_26_code
def yX6_how : MethodName := ⟨RX6, "how", "()I"⟩
abbrev cX6_isNote : ByteArray := prog_8_method_27_code
def yX6_isNote : MethodName := ⟨RX6, "isNote", "(II)Z"⟩
abbrev cX6_note : ByteArray := prog_8_method_28_code
def yX6_note : MethodName := ⟨RX6, "note", "(III)I"⟩
abbrev cX6_wasSo : ByteArray := prog_8_method_29_code
def yX6_wasSo : MethodName := ⟨RX6, "wasSo", "(II)I"⟩
abbrev cX6_mayShoot : ByteArray := prog_8_method_30_code
def yX6_mayShoot : MethodName := ⟨RX6, "mayShoot", "(I)Z"⟩
abbrev cX6_begins : ByteArray := prog_8_method_31_code
def yX6_begins : MethodName := ⟨RX6, "begins", "(IIII)I"⟩
abbrev cX6_unmap : ByteArray := prog_8_method_32_code
def yX6_unmap : MethodName := ⟨RX6, "unmap", "(III)I"⟩
abbrev cX6_remap : ByteArray := prog_8_method_33_code
def yX6_remap : MethodName := ⟨RX6, "remap", "(IIIIZ)I"⟩
abbrev cX6_clear : ByteArray := prog_8_method_34_code
def yX6_clear : MethodName := ⟨RX6, "clear", "(II)I"⟩
abbrev cX6_take : ByteArray := prog_8_method_35_code
def yX6_take : MethodName := ⟨RX6, "take", "(I)I"⟩
abbrev cX6_rounds : ByteArray := prog_8_method_36_code
def yX6_rounds : MethodName := ⟨RX6, "rounds", "(II)I"⟩
abbrev cX6_waited : ByteArray := prog_8_method_37_code
def yX6_waited : MethodName := ⟨RX6, "waited", "(I)I"⟩
abbrev cX6_shoot : ByteArray := prog_8_method_38_code
def yX6_shoot : MethodName := ⟨RX6, "shoot", "(II)I"⟩
abbrev cX6_underWay : ByteArray := prog_8_method_39_code
def yX6_underWay : MethodName := ⟨RX6, "underWay", "(I)I"⟩
abbrev cX6_core : ByteArray := prog_8_method_40_code
def yX6_core : MethodName := ⟨RX6, "core", "(II)I"⟩
abbrev cX6_history : ByteArray := prog_8_method_41_code
def yX6_history : MethodName := ⟨RX6, "history", "(III)I"⟩
abbrev cX6_seen : ByteArray := prog_8_method_42_code
def yX6_seen : MethodName := ⟨RX6, "seen", "()I"⟩
abbrev cX6_danger : ByteArray := prog_8_method_43_code
def yX6_danger : MethodName := ⟨RX6, "danger", "(II)I"⟩
abbrev cX6_count : ByteArray := prog_8_method_44_code
def yX6_count : MethodName := ⟨RX6, "count", "(I)I"⟩
abbrev cX6_digest : ByteArray := prog_8_method_45_code
def yX6_digest : MethodName := ⟨RX6, "digest", "()J"⟩
def RJ6 : String := "java/lang/Integer"
def TJ6 : u_T := fun k => match k with
  | _ => ("", "", "", false)
def tyJ6 : Nat → FieldType := fun k => match k with
  | _ => .int
theorem nmJ6 : ∀ a, a < 0 → ∀ b, b < 0 → a ≠ b → (TJ6 a).2.1 ≠ (TJ6 b).2.1 := by decide +kernel
theorem tyJ6_ok : ∀ k, k < 0 → parseFieldDescriptor (TJ6 k).2.2.1 = some (tyJ6 k) := by decide +kernel
abbrev cJ6_bitCount_0f7a4 : ByteArray := prog_9_method_49_code
def yJ6_bitCount_0f7a4 : MethodName := ⟨RJ6, "bitCount", "(I)I"⟩
def RJ9 : String := "java/lang/Math"
def TJ9 : u_T := fun k => match k with
  | _ => ("", "", "", false)
def tyJ9 : Nat → FieldType := fun k => match k with
  | _ => .int
theorem nmJ9 : ∀ a, a < 0 → ∀ b, b < 0 → a ≠ b → (TJ9 a).2.1 ≠ (TJ9 b).2.1 := by decide +kernel
theorem tyJ9_ok : ∀ k, k < 0 → parseFieldDescriptor (TJ9 k).2.2.1 = some (tyJ9 k) := by decide +kernel
abbrev cJ9_max_7cf53 : ByteArray := prog_10_method_65_code
def yJ9_max_7cf53 : MethodName := ⟨RJ9, "max", "(II)I"⟩
def RJ10 : String := "java/lang/System"
def TJ10 : u_T := fun k => match k with
  | _ => ("", "", "", false)
def tyJ10 : Nat → FieldType := fun k => match k with
  | _ => .int
theorem nmJ10 : ∀ a, a < 0 → ∀ b, b < 0 → a ≠ b → (TJ10 a).2.1 ≠ (TJ10 b).2.1 := by decide +kernel
theorem tyJ10_ok : ∀ k, k < 0 → parseFieldDescriptor (TJ10 k).2.2.1 = some (tyJ10 k) := by decide +kernel
def RJ7 : String := "java/util/Arrays"
def TJ7 : u_T := fun k => match k with
  | _ => ("", "", "", false)
def tyJ7 : Nat → FieldType := fun k => match k with
  | _ => .int
theorem nmJ7 : ∀ a, a < 0 → ∀ b, b < 0 → a ≠ b → (TJ7 a).2.1 ≠ (TJ7 b).2.1 := by decide +kernel
theorem tyJ7_ok : ∀ k, k < 0 → parseFieldDescriptor (TJ7 k).2.2.1 = some (tyJ7 k) := by decide +kernel
abbrev cJ7_fill_53178 : ByteArray := prog_12_method_103_code
def yJ7_fill_53178 : MethodName := ⟨RJ7, "fill", "([II)V"⟩
abbrev cJ7_fill_49daa : ByteArray := prog_12_method_111_code
def yJ7_fill_49daa : MethodName := ⟨RJ7, "fill", "([ZZ)V"⟩
def RL : String := "ShootDownLaw"
abbrev cL_law : ByteArray := code
abbrev vwCl : List vw_C := [(RX0, TX0, 4), (RX1, TX1, 5), (RX2, TX2, 2), (RX3, TX3, 8), (RX4, TX4, 4), (RX5, TX5, 15), (RX6, TX6, 30)]
-- ===== tables of links (a program of mine, out of the statement's tables) =====
def zNames : List String := ["ShootDown$Crew", "ShootDown$Memories", "ShootDown$Queues", "ShootDown$Shoots", "ShootDown$Tables", "ShootDown", "ShootDownModel"]
/-- a field link: class and index; the class of the object, the field's place, whether it is an int that may be written, whether the link is a nest mate's -/
def zfT : List ((String × Nat) × Nat × Nat × Bool × Bool) := [
  ((RX4, 9), 4, 0, false, false),
  ((RX5, 255), 4, 0, false, true),
  ((RX4, 15), 4, 1, false, false),
  ((RX4, 18), 4, 2, false, false),
  ((RX4, 21), 4, 3, false, false),
  ((RX0, 9), 0, 0, false, false),
  ((RX5, 83), 0, 0, false, true),
  ((RX0, 15), 0, 1, false, false),
  ((RX5, 94), 0, 1, false, true),
  ((RX0, 19), 0, 2, false, false),
  ((RX5, 202), 0, 2, false, true),
  ((RX0, 22), 0, 3, false, false),
  ((RX1, 9), 1, 0, false, false),
  ((RX5, 205), 1, 0, false, true),
  ((RX1, 15), 1, 1, false, false),
  ((RX1, 18), 1, 2, false, false),
  ((RX1, 21), 1, 3, false, false),
  ((RX1, 24), 1, 4, false, false),
  ((RX2, 9), 2, 0, false, false),
  ((RX5, 208), 2, 0, false, true),
  ((RX2, 15), 2, 1, false, false),
  ((RX3, 33), 3, 0, true, false),
  ((RX5, 230), 3, 0, true, true),
  ((RX3, 9), 3, 1, false, false),
  ((RX5, 172), 3, 1, false, true),
  ((RX3, 15), 3, 2, false, false),
  ((RX5, 175), 3, 2, false, true),
  ((RX3, 18), 3, 3, false, false),
  ((RX5, 176), 3, 3, false, true),
  ((RX3, 21), 3, 4, false, false),
  ((RX5, 179), 3, 4, false, true),
  ((RX3, 24), 3, 5, false, false),
  ((RX5, 182), 3, 5, false, true),
  ((RX3, 27), 3, 6, false, false),
  ((RX5, 188), 3, 6, false, true),
  ((RX3, 30), 3, 7, false, false),
  ((RX5, 191), 3, 7, false, true),
  ((RX5, 10), 5, 0, false, false),
  ((RX5, 19), 5, 1, false, false),
  ((RX5, 26), 5, 2, false, false),
  ((RX5, 33), 5, 3, false, false),
  ((RX5, 40), 5, 4, false, false),
  ((RX5, 48), 5, 5, true, false),
  ((RX5, 66), 5, 6, true, false),
  ((RX5, 118), 5, 7, true, false),
  ((RX5, 221), 5, 8, true, false),
  ((RX5, 237), 5, 9, true, false),
  ((RX5, 240), 5, 10, true, false),
  ((RX5, 243), 5, 11, true, false),
  ((RX5, 246), 5, 12, true, false),
  ((RX5, 249), 5, 13, true, false),
  ((RX5, 252), 5, 14, true, false),
  ((RX6, 72), 6, 0, true, false),
  ((RX6, 76), 6, 1, true, false),
  ((RX6, 79), 6, 2, true, false),
  ((RX6, 82), 6, 3, true, false),
  ((RX6, 7), 6, 4, false, false),
  ((RX6, 13), 6, 5, false, false),
  ((RX6, 16), 6, 6, false, false),
  ((RX6, 19), 6, 7, false, false),
  ((RX6, 22), 6, 8, false, false),
  ((RX6, 25), 6, 9, false, false),
  ((RX6, 28), 6, 10, false, false),
  ((RX6, 32), 6, 11, false, false),
  ((RX6, 35), 6, 12, false, false),
  ((RX6, 38), 6, 13, false, false),
  ((RX6, 41), 6, 14, false, false),
  ((RX6, 44), 6, 15, false, false),
  ((RX6, 85), 6, 16, true, false),
  ((RX6, 47), 6, 17, false, false),
  ((RX6, 50), 6, 18, false, false),
  ((RX6, 53), 6, 19, false, false),
  ((RX6, 56), 6, 20, false, false),
  ((RX6, 59), 6, 21, false, false),
  ((RX6, 62), 6, 22, false, false),
  ((RX6, 65), 6, 23, false, false),
  ((RX6, 88), 6, 24, true, false),
  ((RX6, 91), 6, 25, true, false),
  ((RX6, 94), 6, 26, true, false),
  ((RX6, 97), 6, 27, true, false),
  ((RX6, 100), 6, 28, true, false),
  ((RX6, 103), 6, 29, true, false)]
/-- a method link: class and index; the method, how many arguments, the kind (0 selected, 1 a nest mate's private one, 2 static, 3 System.arraycopy) -/
def zmT : List ((String × Nat) × MethodName × Nat × Nat) := [
  ((RX5, 44), yX5_startAgain, 1, 0),
  ((RX5, 270), yX4_startAgain, 0, 1),
  ((RX4, 24), yJ7_fill_53178, 2, 2),
  ((RX5, 272), yX0_startAgain, 0, 1),
  ((RX0, 25), yJ7_fill_53178, 2, 2),
  ((RX0, 31), yJ7_fill_49daa, 2, 2),
  ((RX5, 273), yX1_startAgain, 0, 1),
  ((RX1, 27), yJ7_fill_53178, 2, 2),
  ((RX5, 274), yX2_startAgain, 0, 1),
  ((RX2, 18), yJ7_fill_53178, 2, 2),
  ((RX5, 275), yX3_startAgain, 0, 1),
  ((RL, 13), yX5_cores, 1, 0),
  ((RL, 18), yX5_map, 4, 0),
  ((RX5, 52), yX5_isSpace, 1, 2),
  ((RX5, 56), yX5_isPage, 1, 2),
  ((RX5, 59), yX5_isFrame, 1, 2),
  ((RX5, 62), yX4_entryNow, 2, 1),
  ((RX4, 30), yX4_rowOf, 2, 2),
  ((RX4, 34), yX4_entryKept, 3, 0),
  ((RX5, 69), yX5_entryOf, 2, 2),
  ((RX5, 73), yX4_change, 4, 1),
  ((RX4, 41), ⟨"java/lang/System", "arraycopy", "(Ljava/lang/Object;ILjava/lang/Object;II)V"⟩, 5, 3),
  ((RL, 23), yX5_entry, 2, 0),
  ((RL, 28), yX5_enter, 2, 0),
  ((RX5, 77), yX5_isCore, 1, 0),
  ((RX5, 80), yX5_isFree, 1, 0),
  ((RX5, 87), yX5_takeAllCalls, 1, 0),
  ((RX5, 166), yX5_takeFirstCall, 1, 0),
  ((RX5, 297), yX2_removeFirst, 1, 1),
  ((RX2, 24), ⟨"java/lang/System", "arraycopy", "(Ljava/lang/Object;ILjava/lang/Object;II)V"⟩, 5, 3),
  ((RX5, 169), yX3_isBegun, 1, 1),
  ((RX5, 112), yX1_forget, 3, 1),
  ((RX1, 33), yX1_isOf, 4, 0),
  ((RX1, 37), yX1_spaceNoted, 2, 0),
  ((RX1, 41), yX1_pageNoted, 2, 0),
  ((RX1, 48), yX1_move, 3, 0),
  ((RX5, 283), yX0_raiseGeneration, 3, 1),
  ((RX0, 34), yJ9_max_7cf53, 2, 4),
  ((RX5, 300), yX3_waitNoMore, 2, 1),
  ((RX5, 185), yX3_isDone, 1, 1),
  ((RX5, 91), yX5_catchUp, 1, 0),
  ((RX5, 280), yX5_isBehind, 2, 0),
  ((RX5, 211), yX0_generation, 2, 1),
  ((RL, 32), yX5_sleep, 1, 0),
  ((RL, 36), yX5_wake, 1, 0),
  ((RL, 40), yX5_look, 3, 0),
  ((RX5, 98), yX1_find, 3, 1),
  ((RX5, 102), yX5_walkTable, 4, 0),
  ((RX5, 109), yX5_isWritable, 1, 2),
  ((RX5, 276), yX1_keep, 5, 1),
  ((RX1, 44), yX1_forget, 3, 0),
  ((RX5, 131), yX5_frameOf, 1, 2),
  ((RX5, 106), yX1_entryNoted, 2, 1),
  ((RX5, 115), yX5_goByNote, 2, 0),
  ((RX5, 141), yX5_isStale, 2, 0),
  ((RX5, 125), yX1_spaceNoted, 2, 1),
  ((RX5, 128), yX1_pageNoted, 2, 1),
  ((RL, 45), yX5_how, 0, 0),
  ((RL, 50), yX5_note, 3, 0),
  ((RX5, 121), yX5_isNote, 2, 0),
  ((RX5, 134), yX5_oneIf, 1, 2),
  ((RX5, 138), yX1_timeNoted, 2, 1),
  ((RL, 55), yX5_wasSo, 2, 0),
  ((RX5, 144), yX4_heldFrom, 4, 1),
  ((RX4, 51), yX4_timeKept, 3, 0),
  ((RL, 59), yX5_unmap, 3, 0),
  ((RX5, 148), yX5_shootPage, 4, 0),
  ((RX5, 155), yX3_isFull, 0, 1),
  ((RX5, 163), yX5_beginShoot, 3, 0),
  ((RX5, 287), yX3_begin, 5, 1),
  ((RX5, 227), yX0_isAwakeIn, 2, 1),
  ((RX5, 291), yX2_append, 2, 1),
  ((RX5, 294), yX3_waitFor, 2, 1),
  ((RL, 63), yX5_remap, 5, 0),
  ((RL, 68), yX5_clear, 2, 0),
  ((RX5, 152), yX4_isAllNone, 1, 1),
  ((RX4, 38), yX4_entryNow, 2, 0),
  ((RX5, 159), yX4_changeAllToNone, 2, 1),
  ((RX4, 47), yX4_change, 4, 0),
  ((RL, 72), yX5_take, 1, 0),
  ((RL, 76), yX5_rounds, 2, 0),
  ((RL, 80), yX5_shoot, 2, 0),
  ((RX5, 194), yJ6_bitCount_0f7a4, 1, 2),
  ((RX5, 199), yX3_waitsFor, 2, 1),
  ((RL, 84), yX5_underWay, 1, 0),
  ((RL, 88), yX5_core, 2, 0),
  ((RL, 92), yX5_history, 3, 0),
  ((RX5, 214), yX4_isKept, 3, 1),
  ((RX5, 218), yX4_entryKept, 3, 1),
  ((RX5, 224), yX4_timeKept, 3, 1),
  ((RL, 96), yX5_seen, 0, 0),
  ((RL, 100), yX5_danger, 2, 0),
  ((RL, 104), yX5_count, 1, 0),
  ((RX5, 233), yX3_howManyDone, 0, 1),
  ((RX3, 37), yX3_isDone, 1, 0),
  ((RL, 108), yX5_digest, 0, 0),
  ((RX5, 260), yX5_entry, 2, 0),
  ((RX5, 263), yX5_digestOfCore, 2, 0),
  ((RX5, 303), yX5_core, 2, 0),
  ((RX5, 306), yX5_note, 3, 0),
  ((RX5, 267), yX5_shoot, 2, 0),
  ((RX6, 68), yX6_begin, 1, 0),
  ((RL, 17), yX6_cores, 1, 0),
  ((RX6, 106), yX6_in, 3, 2),
  ((RL, 22), yX6_map, 4, 0),
  ((RX6, 110), yX6_isPage, 2, 2),
  ((RX6, 114), yX6_entryOf, 2, 2),
  ((RX6, 118), yX6_become, 2, 0),
  ((RL, 27), yX6_entry, 2, 0),
  ((RX6, 122), yX6_told, 1, 2),
  ((RL, 31), yX6_enter, 2, 0),
  ((RX6, 139), yX6_isCore, 1, 0),
  ((RX6, 143), yX6_shootOf, 1, 0),
  ((RX6, 146), yX6_takeAll, 1, 0),
  ((RX6, 136), yX6_takeCall, 1, 0),
  ((RX6, 129), yX6_forget, 3, 0),
  ((RX6, 126), yX6_dropNote, 2, 0),
  ((RX6, 133), yX6_settle, 1, 0),
  ((RX6, 149), yX6_catchUp, 1, 0),
  ((RL, 35), yX6_sleep, 1, 0),
  ((RL, 39), yX6_wake, 1, 0),
  ((RL, 44), yX6_look, 3, 0),
  ((RX6, 152), yX6_noteOf, 3, 0),
  ((RX6, 155), yX6_isStale, 2, 0),
  ((RX6, 158), yX6_takeNote, 4, 0),
  ((RL, 49), yX6_how, 0, 0),
  ((RL, 54), yX6_note, 3, 0),
  ((RX6, 162), yX6_isNote, 2, 0),
  ((RL, 58), yX6_wasSo, 2, 0),
  ((RL, 62), yX6_unmap, 3, 0),
  ((RX6, 165), yX6_mayShoot, 1, 0),
  ((RX6, 168), yX6_begins, 4, 0),
  ((RL, 67), yX6_remap, 5, 0),
  ((RL, 71), yX6_clear, 2, 0),
  ((RL, 75), yX6_take, 1, 0),
  ((RL, 79), yX6_rounds, 2, 0),
  ((RL, 83), yX6_shoot, 2, 0),
  ((RX6, 172), yX6_waited, 1, 0),
  ((RL, 87), yX6_underWay, 1, 0),
  ((RL, 91), yX6_core, 2, 0),
  ((RL, 95), yX6_history, 3, 0),
  ((RL, 99), yX6_seen, 0, 0),
  ((RL, 103), yX6_danger, 2, 0),
  ((RL, 107), yX6_count, 1, 0),
  ((RL, 112), yX6_digest, 0, 0),
  ((RX6, 179), yX6_core, 2, 0),
  ((RX6, 183), yX6_note, 3, 0),
  ((RX6, 185), yX6_shoot, 2, 0)]
/-- the methods: bytes, locals, what they return -/
def zkT : List (MethodName × ByteArray × Nat × Option FieldType) := [
  (yX5_beginShoot, prog_1_method_34_code, 6, some .int),
  (yX5_catchUp, prog_1_method_37_code, 4, some .int),
  (yX5_clear, prog_1_method_14_code, 3, some .int),
  (yX5_core, prog_1_method_19_code, 3, some .int),
  (yX5_cores, prog_1_method_2_code, 3, some .int),
  (yX5_count, prog_1_method_23_code, 2, some .int),
  (yX5_danger, prog_1_method_22_code, 5, some .int),
  (yX5_digest, prog_1_method_24_code, 5, some .long),
  (yX5_digestOfCore, prog_1_method_38_code, 8, some .long),
  (yX5_enter, prog_1_method_5_code, 3, some .int),
  (yX5_entry, prog_1_method_4_code, 3, some .int),
  (yX5_entryOf, prog_1_method_42_code, 2, some .int),
  (yX5_frameOf, prog_1_method_43_code, 1, some .int),
  (yX5_goByNote, prog_1_method_31_code, 3, some .int),
  (yX5_history, prog_1_method_20_code, 4, some .int),
  (yX5_how, prog_1_method_9_code, 1, some .int),
  (yX5_isBehind, prog_1_method_28_code, 3, some .boolean),
  (yX5_isCore, prog_1_method_26_code, 2, some .boolean),
  (yX5_isFrame, prog_1_method_41_code, 1, some .boolean),
  (yX5_isFree, prog_1_method_27_code, 2, some .boolean),
  (yX5_isNote, prog_1_method_29_code, 3, some .boolean),
  (yX5_isPage, prog_1_method_40_code, 1, some .boolean),
  (yX5_isSpace, prog_1_method_39_code, 1, some .boolean),
  (yX5_isStale, prog_1_method_30_code, 3, some .boolean),
  (yX5_isWritable, prog_1_method_44_code, 1, some .boolean),
  (yX5_look, prog_1_method_8_code, 6, some .int),
  (yX5_map, prog_1_method_3_code, 5, some .int),
  (yX5_note, prog_1_method_10_code, 4, some .int),
  (yX5_oneIf, prog_1_method_45_code, 1, some .int),
  (yX5_remap, prog_1_method_13_code, 6, some .int),
  (yX5_rounds, prog_1_method_16_code, 6, some .int),
  (yX5_seen, prog_1_method_21_code, 1, some .int),
  (yX5_shoot, prog_1_method_17_code, 3, some .int),
  (yX5_shootPage, prog_1_method_33_code, 5, some .int),
  (yX5_sleep, prog_1_method_6_code, 3, some .int),
  (yX5_startAgain, prog_1_method_25_code, 2, none),
  (yX5_take, prog_1_method_15_code, 2, some .int),
  (yX5_takeAllCalls, prog_1_method_36_code, 4, some .int),
  (yX5_takeFirstCall, prog_1_method_35_code, 3, some .int),
  (yX5_underWay, prog_1_method_18_code, 2, some .int),
  (yX5_unmap, prog_1_method_12_code, 4, some .int),
  (yX5_wake, prog_1_method_7_code, 2, some .int),
  (yX5_walkTable, prog_1_method_32_code, 6, some .int),
  (yX5_wasSo, prog_1_method_11_code, 5, some .int),
  (yX0_generation, prog_2_method_4_code, 3, some .int),
  (yX0_isAwakeIn, prog_2_method_3_code, 3, some .boolean),
  (yX0_raiseGeneration, prog_2_method_5_code, 4, none),
  (yX0_startAgain, prog_2_method_2_code, 1, none),
  (yX1_entryNoted, prog_3_method_5_code, 3, some .int),
  (yX1_find, prog_3_method_7_code, 5, some .int),
  (yX1_forget, prog_3_method_9_code, 7, some .int),
  (yX1_isOf, prog_3_method_10_code, 5, some .boolean),
  (yX1_keep, prog_3_method_8_code, 7, none),
  (yX1_move, prog_3_method_11_code, 6, none),
  (yX1_pageNoted, prog_3_method_4_code, 3, some .int),
  (yX1_spaceNoted, prog_3_method_3_code, 3, some .int),
  (yX1_startAgain, prog_3_method_2_code, 1, none),
  (yX1_timeNoted, prog_3_method_6_code, 3, some .int),
  (yX2_append, prog_4_method_3_code, 3, none),
  (yX2_removeFirst, prog_4_method_4_code, 4, some .int),
  (yX2_startAgain, prog_4_method_2_code, 1, none),
  (yX3_begin, prog_5_method_8_code, 7, some .int),
  (yX3_howManyDone, prog_5_method_7_code, 3, some .int),
  (yX3_isBegun, prog_5_method_4_code, 2, some .boolean),
  (yX3_isDone, prog_5_method_5_code, 2, some .boolean),
  (yX3_isFull, prog_5_method_3_code, 1, some .boolean),
  (yX3_startAgain, prog_5_method_2_code, 1, none),
  (yX3_waitFor, prog_5_method_9_code, 3, none),
  (yX3_waitNoMore, prog_5_method_10_code, 3, none),
  (yX3_waitsFor, prog_5_method_6_code, 3, some .boolean),
  (yX4_change, prog_6_method_8_code, 7, none),
  (yX4_changeAllToNone, prog_6_method_9_code, 4, none),
  (yX4_entryKept, prog_6_method_4_code, 4, some .int),
  (yX4_entryNow, prog_6_method_6_code, 3, some .int),
  (yX4_heldFrom, prog_6_method_10_code, 8, some .boolean),
  (yX4_isAllNone, prog_6_method_7_code, 3, some .boolean),
  (yX4_isKept, prog_6_method_3_code, 4, some .boolean),
  (yX4_rowOf, prog_6_method_11_code, 2, some .int),
  (yX4_startAgain, prog_6_method_2_code, 1, none),
  (yX4_timeKept, prog_6_method_5_code, 4, some .int),
  (yX6_become, prog_8_method_7_code, 5, none),
  (yX6_begin, prog_8_method_3_code, 3, none),
  (yX6_begins, prog_8_method_31_code, 10, some .int),
  (yX6_catchUp, prog_8_method_20_code, 4, some .int),
  (yX6_clear, prog_8_method_34_code, 5, some .int),
  (yX6_core, prog_8_method_40_code, 3, some .int),
  (yX6_cores, prog_8_method_6_code, 3, some .int),
  (yX6_count, prog_8_method_44_code, 4, some .int),
  (yX6_danger, prog_8_method_43_code, 6, some .int),
  (yX6_digest, prog_8_method_45_code, 6, some .long),
  (yX6_dropNote, prog_8_method_12_code, 4, none),
  (yX6_enter, prog_8_method_21_code, 4, some .int),
  (yX6_entry, prog_8_method_11_code, 3, some .int),
  (yX6_entryOf, prog_8_method_8_code, 2, some .int),
  (yX6_forget, prog_8_method_14_code, 6, some .int),
  (yX6_history, prog_8_method_41_code, 5, some .int),
  (yX6_how, prog_8_method_26_code, 1, some .int),
  (yX6_in, prog_8_method_2_code, 3, some .boolean),
  (yX6_isCore, prog_8_method_4_code, 2, some .boolean),
  (yX6_isNote, prog_8_method_27_code, 3, some .boolean),
  (yX6_isPage, prog_8_method_5_code, 2, some .boolean),
  (yX6_isStale, prog_8_method_24_code, 4, some .boolean),
  (yX6_look, prog_8_method_25_code, 7, some .int),
  (yX6_map, prog_8_method_10_code, 5, some .int),
  (yX6_mayShoot, prog_8_method_30_code, 2, some .boolean),
  (yX6_note, prog_8_method_28_code, 5, some .int),
  (yX6_noteOf, prog_8_method_13_code, 5, some .int),
  (yX6_remap, prog_8_method_33_code, 6, some .int),
  (yX6_rounds, prog_8_method_36_code, 6, some .int),
  (yX6_seen, prog_8_method_42_code, 1, some .int),
  (yX6_settle, prog_8_method_17_code, 4, none),
  (yX6_shoot, prog_8_method_38_code, 3, some .int),
  (yX6_shootOf, prog_8_method_19_code, 3, some .int),
  (yX6_sleep, prog_8_method_22_code, 3, some .int),
  (yX6_take, prog_8_method_35_code, 2, some .int),
  (yX6_takeAll, prog_8_method_18_code, 4, some .int),
  (yX6_takeCall, prog_8_method_16_code, 5, some .int),
  (yX6_takeNote, prog_8_method_15_code, 6, none),
  (yX6_told, prog_8_method_9_code, 1, some .int),
  (yX6_underWay, prog_8_method_39_code, 2, some .int),
  (yX6_unmap, prog_8_method_32_code, 4, some .int),
  (yX6_waited, prog_8_method_37_code, 4, some .int),
  (yX6_wake, prog_8_method_23_code, 2, some .int),
  (yX6_wasSo, prog_8_method_29_code, 7, some .int),
  (yJ6_bitCount_0f7a4, prog_9_method_49_code, 1, some .int),
  (yJ7_fill_53178, prog_12_method_103_code, 4, none),
  (yJ7_fill_49daa, prog_12_method_111_code, 4, none)]
def zcT : List ((String × Nat) × Int32) := [(("java/lang/Integer", 265), 1431655765), (("java/lang/Integer", 266), 858993459), (("java/lang/Integer", 267), 252645135)]
def zlT : List ((String × Nat) × Int64) := [(("ShootDown", 256), 67), (("ShootDown", 258), 31), (("ShootDownModel", 175), 67), (("ShootDownModel", 177), 31)]
def zfW : List Nat := [92, 93, 94, 95, 96, 113, 114, 115, 116, 117, 118, 119, 136, 137, 138, 139, 140, 141, 159, 160, 161, 173, 174, 175, 176, 177, 178, 179, 180, 181, 182, 183, 184, 185, 186, 187, 188, 239, 240, 241, 242, 243, 244, 245, 246, 247, 248, 249, 250, 251, 252, 253, 610, 611, 612, 613, 614, 615, 616, 617, 618, 619, 620, 621, 622, 623, 624, 625, 626, 627, 628, 629, 630, 631, 632, 633, 634, 635, 636, 637, 638, 639]
def zmW : List (Nat × Nat × Nat × Nat) := [(206, 208, 0, 67), (210, 212, 1, 68), (214, 215, 0, 73), (217, 219, 2, 69), (221, 215, 0, 73), (222, 223, 0, 73), (225, 227, 3, 70), (229, 215, 0, 73), (230, 232, 4, 71), (234, 215, 0, 73), (235, 237, 5, 72), (285, 286, 287, 67), (289, 290, 291, 67), (293, 294, 0, 67), (296, 297, 0, 67), (299, 300, 0, 67), (302, 304, 6, 68), (306, 307, 0, 68), (309, 311, 7, 68), (313, 314, 0, 67), (316, 318, 8, 68), (320, 321, 322, 75), (323, 324, 325, 67), (327, 328, 329, 67), (331, 333, 9, 67), (335, 337, 10, 67), (339, 341, 11, 67), (343, 345, 12, 67), (347, 349, 13, 71), (351, 321, 322, 75), (352, 354, 14, 72), (356, 358, 15, 70), (360, 362, 16, 70), (364, 366, 17, 70), (368, 370, 18, 70), (372, 374, 19, 70), (376, 378, 20, 69), (380, 381, 382, 76), (383, 385, 21, 72), (387, 389, 22, 72), (391, 393, 23, 67), (395, 397, 24, 67), (399, 401, 25, 69), (403, 404, 405, 67), (407, 408, 409, 67), (411, 412, 413, 67), (415, 417, 26, 70), (419, 421, 27, 67), (423, 424, 0, 67), (426, 428, 28, 70), (430, 358, 15, 70), (431, 432, 0, 67), (434, 436, 29, 70), (438, 440, 30, 67), (442, 444, 31, 67), (446, 366, 17, 70), (447, 370, 18, 70), (448, 449, 450, 67), (452, 453, 454, 67), (456, 458, 32, 67), (460, 461, 0, 67), (463, 465, 33, 70), (467, 468, 469, 67), (471, 473, 34, 68), (475, 477, 35, 68), (479, 480, 481, 67), (483, 485, 36, 67), (487, 489, 37, 72), (491, 493, 38, 67), (495, 497, 39, 72), (499, 501, 40, 69), (503, 505, 41, 71), (507, 509, 42, 72), (511, 512, 513, 67), (515, 516, 517, 67), (519, 521, 43, 68), (523, 304, 6, 68), (524, 526, 44, 68), (528, 318, 8, 68), (529, 530, 531, 67), (533, 534, 535, 67), (537, 538, 539, 67), (541, 542, 0, 77), (547, 549, 45, 72), (551, 552, 553, 67), (555, 556, 557, 67), (559, 560, 561, 67), (563, 565, 46, 68), (567, 311, 7, 68), (568, 477, 35, 68), (569, 570, 571, 67), (573, 574, 575, 67), (577, 578, 579, 67), (581, 583, 47, 72), (585, 389, 22, 72), (586, 587, 588, 67), (592, 324, 325, 67), (593, 595, 48, 67), (597, 556, 557, 67), (598, 453, 454, 67), (599, 538, 539, 67), (606, 608, 49, 74), (701, 702, 703, 74), (705, 706, 0, 74), (708, 709, 710, 74), (712, 713, 0, 74), (715, 716, 0, 74), (718, 720, 50, 74), (722, 723, 724, 74), (726, 727, 0, 74), (729, 730, 731, 74), (733, 735, 51, 74), (737, 739, 52, 74), (741, 743, 53, 74), (745, 747, 54, 74), (749, 751, 55, 74), (753, 755, 56, 74), (757, 759, 57, 74), (761, 763, 58, 74), (765, 766, 767, 74), (769, 770, 771, 74), (773, 774, 775, 74), (777, 779, 59, 74), (781, 783, 60, 74), (785, 787, 61, 74), (789, 790, 791, 74), (793, 794, 795, 74), (797, 799, 62, 74), (801, 802, 803, 74), (805, 806, 807, 74), (809, 811, 63, 74), (813, 815, 64, 74), (817, 818, 819, 74), (821, 822, 823, 74), (825, 826, 827, 74), (829, 830, 831, 74), (833, 834, 835, 74), (837, 839, 65, 74), (841, 842, 843, 74), (845, 846, 847, 74), (849, 850, 851, 74), (853, 854, 855, 74), (857, 858, 859, 74), (861, 862, 863, 74), (865, 866, 867, 74), (871, 846, 847, 74), (872, 794, 795, 74), (873, 834, 835, 74)]
def zkW : List Nat := [494, 394, 518, 558, 288, 580, 576, 589, 596, 330, 326, 315, 433, 441, 562, 451, 398, 334, 301, 338, 459, 298, 295, 445, 425, 414, 292, 455, 462, 514, 536, 572, 540, 486, 406, 209, 532, 342, 346, 554, 482, 410, 422, 470, 402, 502, 379, 220, 437, 418, 359, 363, 429, 375, 371, 367, 228, 466, 506, 350, 233, 498, 584, 355, 390, 490, 238, 510, 386, 550, 319, 527, 312, 305, 474, 522, 566, 308, 213, 478, 721, 609, 816, 764, 824, 848, 704, 864, 860, 868, 756, 732, 725, 717, 752, 852, 792, 707, 736, 800, 714, 784, 776, 711, 812, 796, 780, 820, 832, 856, 760, 836, 740, 768, 828, 744, 748, 788, 728, 844, 808, 840, 772, 804, 543, 216, 224]
def zcW : List Nat := [544, 545, 546]
def zlW : List Nat := [590, 591, 869, 870]
end
section
/-! look-ups in the tables of links, and what a found row gives: words of lw_tbl -/
def zfG (own : String) (i : Nat) : Option (Nat × Nat × Bool × Bool) := (zfT.find? (fun e => e.1 == (own, i))).map (fun e => e.2)
def zmG (own : String) (i : Nat) : Option (MethodName × Nat × Nat) := (zmT.find? (fun e => e.1 == (own, i))).map (fun e => e.2)
def zcG (own : String) (i : Nat) : Option Int32 := (zcT.find? (fun e => e.1 == (own, i))).map (fun e => e.2)
def zlG (own : String) (i : Nat) : Option Int64 := (zlT.find? (fun e => e.1 == (own, i))).map (fun e => e.2)
def zTs : List Cond := lw_tbl.filter goodWord
def zisN : Cond → Bool
  | .fieldLinkNest _ _ _ _ _ _ => true
  | .methodLinkNest _ _ _ _ => true
  | _ => false
theorem zTs_good : GoodIn zTs zTs := fun w h => ⟨h, good_of_word (List.mem_filter.mp h).2⟩
theorem zTs_of {i : Nat} {w : Cond} (h : (decide (lw_tbl[i]? = some w) && goodWord w) = true) : w ∈ zTs := by
  simp only [Bool.and_eq_true, decide_eq_true_eq] at h
  exact List.mem_filter.mpr ⟨List.mem_of_getElem? h.1, h.2⟩
theorem zTn_of {i : Nat} {w : Cond} (h : decide (lw_tbl[i]? = some w) = true) : w ∈ lw_tbl := List.mem_of_getElem? (of_decide_eq_true h)
def zgw (i : Nat) (w : Cond) : Bool := decide (lw_tbl[i]? = some w) && goodWord w
def zfOk (e : (String × Nat) × Nat × Nat × Bool × Bool) (i : Nat) : Bool := match vwCl[e.2.1]? with
  | some (C, T, N) => decide (e.2.2.1 < N) && (if e.2.2.2.2 = true then decide (lw_tbl[i]? = some (.fieldLinkNest e.1.1 e.1.2 (T e.2.2.1).1 (T e.2.2.1).2.1 (T e.2.2.1).2.2.1 "ShootDown")) else zgw i (.fieldLink e.1.1 e.1.2 (T e.2.2.1).1 (T e.2.2.1).2.1 (T e.2.2.1).2.2.1)) && (!e.2.2.2.1 || (decide ((T e.2.2.1).2.2.1 = "I") && decide ((T e.2.2.1).2.2.2 = false)))
  | none => false
def zmOk (e : (String × Nat) × MethodName × Nat × Nat) (i : Nat × Nat × Nat × Nat) : Bool :=
  (decide (e.2.1.cls ≠ "java/lang/invoke/MethodHandle") && decide (e.2.1.cls ≠ "java/lang/invoke/VarHandle")) && (decide ((parseMethodDescriptor e.2.1.desc).map (fun d => d.parameters.length) = some e.2.2.1) && zgw i.2.2.2 (.initialized e.2.1.cls)) &&
  (match e.2.2.2 with
  | 0 => zgw i.1 (.methodLink e.1.1 e.1.2 e.2.1) && zgw i.2.1 (.instanceMethod e.2.1) && zgw i.2.2.1 (.selects e.2.1.cls e.2.1 e.2.1)
  | 1 => decide (lw_tbl[i.1]? = some (.methodLinkNest e.1.1 e.1.2 e.2.1 "ShootDown")) && zgw i.2.1 (.instanceMethod e.2.1) && zgw i.2.2.1 (.selects e.2.1.cls e.2.1 e.2.1)
  | 2 => zgw i.1 (.methodLink e.1.1 e.1.2 e.2.1) && zgw i.2.1 (.static e.2.1)
  | 3 => decide (e.2.1 = arraycopyName) && zgw i.1 (.methodLink e.1.1 e.1.2 arraycopyName) && zgw i.2.1 (.static arraycopyName) && zgw i.2.2.1 (.native arraycopyName)
  | 4 => decide (e.2.1 = Lib.Math.max.name) && zgw i.1 (.methodLink e.1.1 e.1.2 Lib.Math.max.name) && zgw i.2.1 (.static Lib.Math.max.name) && zgw i.2.2.1 (.code Lib.Math.max.name Lib.Math.max.code 2 (some .int))
  | _ => false)
def zkF (y : MethodName) (w : Cond) : Option (ByteArray × Nat × Option FieldType) := match w with
  | .code y' cc nL ret => if y' = y ∧ goodWord w = true ∧ plainName y.cls = true ∧ nL ≤ 16 then some (cc, nL, ret) else none
  | _ => none
theorem zfT_ok : (zfT.zip zfW).all (fun p => zfOk p.1 p.2) = true := by decide +kernel
theorem zmT_ok : (zmT.zip zmW).all (fun p => zmOk p.1 p.2) = true := by decide +kernel
def zkG (y : MethodName) : Option (ByteArray × Nat × Option FieldType) := lw_tbl.findSome? (zkF y)
theorem zcT_ok : (zcT.zip zcW).all (fun p => zgw p.2 (.constant p.1.1.1 p.1.1.2 p.1.2)) = true := by decide +kernel
theorem zlT_ok : (zlT.zip zlW).all (fun p => zgw p.2 (.constantLong p.1.1.1 p.1.1.2 p.1.2)) = true := by decide +kernel
theorem zzip {α β : Type} {l : List α} {r : List β} (hl : l.length ≤ r.length) {f : α × β → Bool} (h : (l.zip r).all f = true) {a : α} (ha : a ∈ l) : ∃ b, f (a, b) = true := by
  obtain ⟨i, hi⟩ := List.getElem?_of_mem ha
  have hlt : i < l.length := (List.getElem?_eq_some_iff.mp hi).1
  have h2 : (l.zip r)[i]? = some (a, r[i]'(Nat.lt_of_lt_of_le hlt hl)) := by
    rw [List.getElem?_zip_eq_some]
    exact ⟨hi, List.getElem?_eq_getElem _⟩
  exact ⟨_, List.all_eq_true.mp h _ (List.mem_of_getElem? h2)⟩
theorem zfind {κ α : Type} {l : List (κ × α)} {t : κ × α → Bool} {x : α} (h : (l.find? t).map (fun e => e.2) = some x) : ∃ k, t (k, x) = true ∧ (k, x) ∈ l := by
  cases hf : l.find? t with
  | none => rw [hf] at h; cases h
  | some e =>
    rw [hf] at h
    obtain ⟨k, y⟩ := e
    cases h
    exact ⟨k, List.find?_some hf, List.mem_of_find?_eq_some hf⟩
theorem zfG_ok {own : String} {idx : Nat} {x : Nat × Nat × Bool × Bool} (h : zfG own idx = some x) : ∃ i, zfOk ((own, idx), x) i = true := by
  obtain ⟨k, h1, h2⟩ := zfind h
  have hk : k = (own, idx) := by simpa using h1
  subst hk
  exact zzip (by decide +kernel) zfT_ok h2
theorem zmG_ok {own : String} {idx : Nat} {x : MethodName × Nat × Nat} (h : zmG own idx = some x) : ∃ i, zmOk ((own, idx), x) i = true := by
  obtain ⟨k, h1, h2⟩ := zfind h
  have hk : k = (own, idx) := by simpa using h1
  subst hk
  exact zzip (by decide +kernel) zmT_ok h2
theorem zkG_ok {y : MethodName} {cc : ByteArray} {nL : Nat} {ret : Option FieldType} (h : zkG y = some (cc, nL, ret)) : .code y cc nL ret ∈ zTs ∧ plainName y.cls = true ∧ nL ≤ 16 := by
  obtain ⟨w, h1, h2⟩ := List.exists_of_findSome?_eq_some h
  unfold zkF at h2
  split at h2
  · rename_i y' cc' nL' ret'
    split at h2
    · rename_i hy
      cases h2
      obtain ⟨hy, h3, h4, h5⟩ := hy
      subst hy
      exact ⟨List.mem_filter.mpr ⟨h1, h3⟩, h4, h5⟩
    · cases h2
  · cases h2
theorem zcG_ok {own : String} {idx : Nat} {x : Int32} (h : zcG own idx = some x) : .constant own idx x ∈ zTs := by
  obtain ⟨k, h1, h2⟩ := zfind h
  have hk : k = (own, idx) := by simpa using h1
  subst hk
  obtain ⟨i, hi⟩ := zzip (by decide +kernel) zcT_ok h2
  exact zTs_of hi
theorem zlG_ok {own : String} {idx : Nat} {x : Int64} (h : zlG own idx = some x) : .constantLong own idx x ∈ zTs := by
  obtain ⟨k, h1, h2⟩ := zfind h
  have hk : k = (own, idx) := by simpa using h1
  subst hk
  obtain ⟨i, hi⟩ := zzip (by decide +kernel) zlT_ok h2
  exact zTs_of hi
theorem zinX (c : Nat) (x : vw_C) (h : vwCl[c]? = some x) : ∀ w ∈ u_ws x.1 x.2.1 x.2.2, w ∈ zTs := by
  have key : (vwCl.all fun x => (u_ws x.1 x.2.1 x.2.2).all fun w => decide (w ∈ lw_tbl) && goodWord w) = true := by decide +kernel
  intro w hw
  have h2 := List.all_eq_true.mp (List.all_eq_true.mp key x (List.mem_of_getElem? h)) w hw
  simp only [Bool.and_eq_true, decide_eq_true_eq] at h2
  exact List.mem_filter.mpr h2
end
section
theorem kX5_beginShoot : zkG yX5_beginShoot = some (cX5_beginShoot, 6, some .int) := by decide +kernel
theorem kX5_catchUp : zkG yX5_catchUp = some (cX5_catchUp, 4, some .int) := by decide +kernel
theorem kX5_clear : zkG yX5_clear = some (cX5_clear, 3, some .int) := by decide +kernel
theorem kX5_core : zkG yX5_core = some (cX5_core, 3, some .int) := by decide +kernel
theorem kX5_cores : zkG yX5_cores = some (cX5_cores, 3, some .int) := by decide +kernel
theorem kX5_count : zkG yX5_count = some (cX5_count, 2, some .int) := by decide +kernel
theorem kX5_danger : zkG yX5_danger = some (cX5_danger, 5, some .int) := by decide +kernel
theorem kX5_digest : zkG yX5_digest = some (cX5_digest, 5, some .long) := by decide +kernel
theorem kX5_digestOfCore : zkG yX5_digestOfCore = some (cX5_digestOfCore, 8, some .long) := by decide +kernel
theorem kX5_enter : zkG yX5_enter = some (cX5_enter, 3, some .int) := by decide +kernel
theorem kX5_entry : zkG yX5_entry = some (cX5_entry, 3, some .int) := by decide +kernel
theorem kX5_entryOf : zkG yX5_entryOf = some (cX5_entryOf, 2, some .int) := by decide +kernel
theorem kX5_frameOf : zkG yX5_frameOf = some (cX5_frameOf, 1, some .int) := by decide +kernel
theorem kX5_goByNote : zkG yX5_goByNote = some (cX5_goByNote, 3, some .int) := by decide +kernel
theorem kX5_history : zkG yX5_history = some (cX5_history, 4, some .int) := by decide +kernel
theorem kX5_how : zkG yX5_how = some (cX5_how, 1, some .int) := by decide +kernel
theorem kX5_isBehind : zkG yX5_isBehind = some (cX5_isBehind, 3, some .boolean) := by decide +kernel
theorem kX5_isCore : zkG yX5_isCore = some (cX5_isCore, 2, some .boolean) := by decide +kernel
theorem kX5_isFrame : zkG yX5_isFrame = some (cX5_isFrame, 1, some .boolean) := by decide +kernel
theorem kX5_isFree : zkG yX5_isFree = some (cX5_isFree, 2, some .boolean) := by decide +kernel
theorem kX5_isNote : zkG yX5_isNote = some (cX5_isNote, 3, some .boolean) := by decide +kernel
theorem kX5_isPage : zkG yX5_isPage = some (cX5_isPage, 1, some .boolean) := by decide +kernel
theorem kX5_isSpace : zkG yX5_isSpace = some (cX5_isSpace, 1, some .boolean) := by decide +kernel
theorem kX5_isStale : zkG yX5_isStale = some (cX5_isStale, 3, some .boolean) := by decide +kernel
theorem kX5_isWritable : zkG yX5_isWritable = some (cX5_isWritable, 1, some .boolean) := by decide +kernel
theorem kX5_look : zkG yX5_look = some (cX5_look, 6, some .int) := by decide +kernel
theorem kX5_map : zkG yX5_map = some (cX5_map, 5, some .int) := by decide +kernel
theorem kX5_note : zkG yX5_note = some (cX5_note, 4, some .int) := by decide +kernel
theorem kX5_oneIf : zkG yX5_oneIf = some (cX5_oneIf, 1, some .int) := by decide +kernel
theorem kX5_remap : zkG yX5_remap = some (cX5_remap, 6, some .int) := by decide +kernel
theorem kX5_rounds : zkG yX5_rounds = some (cX5_rounds, 6, some .int) := by decide +kernel
theorem kX5_seen : zkG yX5_seen = some (cX5_seen, 1, some .int) := by decide +kernel
theorem kX5_shoot : zkG yX5_shoot = some (cX5_shoot, 3, some .int) := by decide +kernel
theorem kX5_shootPage : zkG yX5_shootPage = some (cX5_shootPage, 5, some .int) := by decide +kernel
theorem kX5_sleep : zkG yX5_sleep = some (cX5_sleep, 3, some .int) := by decide +kernel
theorem kX5_startAgain : zkG yX5_startAgain = some (cX5_startAgain, 2, none) := by decide +kernel
theorem kX5_take : zkG yX5_take = some (cX5_take, 2, some .int) := by decide +kernel
theorem kX5_takeAllCalls : zkG yX5_takeAllCalls = some (cX5_takeAllCalls, 4, some .int) := by decide +kernel
theorem kX5_takeFirstCall : zkG yX5_takeFirstCall = some (cX5_takeFirstCall, 3, some .int) := by decide +kernel
theorem kX5_underWay : zkG yX5_underWay = some (cX5_underWay, 2, some .int) := by decide +kernel
theorem kX5_unmap : zkG yX5_unmap = some (cX5_unmap, 4, some .int) := by decide +kernel
theorem kX5_wake : zkG yX5_wake = some (cX5_wake, 2, some .int) := by decide +kernel
theorem kX5_walkTable : zkG yX5_walkTable = some (cX5_walkTable, 6, some .int) := by decide +kernel
theorem kX5_wasSo : zkG yX5_wasSo = some (cX5_wasSo, 5, some .int) := by decide +kernel
theorem kX0_generation : zkG yX0_generation = some (cX0_generation, 3, some .int) := by decide +kernel
theorem kX0_isAwakeIn : zkG yX0_isAwakeIn = some (cX0_isAwakeIn, 3, some .boolean) := by decide +kernel
theorem kX0_raiseGeneration : zkG yX0_raiseGeneration = some (cX0_raiseGeneration, 4, none) := by decide +kernel
theorem kX0_startAgain : zkG yX0_startAgain = some (cX0_startAgain, 1, none) := by decide +kernel
theorem kX1_entryNoted : zkG yX1_entryNoted = some (cX1_entryNoted, 3, some .int) := by decide +kernel
theorem kX1_find : zkG yX1_find = some (cX1_find, 5, some .int) := by decide +kernel
theorem kX1_forget : zkG yX1_forget = some (cX1_forget, 7, some .int) := by decide +kernel
theorem kX1_isOf : zkG yX1_isOf = some (cX1_isOf, 5, some .boolean) := by decide +kernel
theorem kX1_keep : zkG yX1_keep = some (cX1_keep, 7, none) := by decide +kernel
theorem kX1_move : zkG yX1_move = some (cX1_move, 6, none) := by decide +kernel
theorem kX1_pageNoted : zkG yX1_pageNoted = some (cX1_pageNoted, 3, some .int) := by decide +kernel
theorem kX1_spaceNoted : zkG yX1_spaceNoted = some (cX1_spaceNoted, 3, some .int) := by decide +kernel
theorem kX1_startAgain : zkG yX1_startAgain = some (cX1_startAgain, 1, none) := by decide +kernel
theorem kX1_timeNoted : zkG yX1_timeNoted = some (cX1_timeNoted, 3, some .int) := by decide +kernel
theorem kX2_append : zkG yX2_append = some (cX2_append, 3, none) := by decide +kernel
theorem kX2_removeFirst : zkG yX2_removeFirst = some (cX2_removeFirst, 4, some .int) := by decide +kernel
theorem kX2_startAgain : zkG yX2_startAgain = some (cX2_startAgain, 1, none) := by decide +kernel
theorem kX3_begin : zkG yX3_begin = some (cX3_begin, 7, some .int) := by decide +kernel
theorem kX3_howManyDone : zkG yX3_howManyDone = some (cX3_howManyDone, 3, some .int) := by decide +kernel
theorem kX3_isBegun : zkG yX3_isBegun = some (cX3_isBegun, 2, some .boolean) := by decide +kernel
theorem kX3_isDone : zkG yX3_isDone = some (cX3_isDone, 2, some .boolean) := by decide +kernel
theorem kX3_isFull : zkG yX3_isFull = some (cX3_isFull, 1, some .boolean) := by decide +kernel
theorem kX3_startAgain : zkG yX3_startAgain = some (cX3_startAgain, 1, none) := by decide +kernel
theorem kX3_waitFor : zkG yX3_waitFor = some (cX3_waitFor, 3, none) := by decide +kernel
theorem kX3_waitNoMore : zkG yX3_waitNoMore = some (cX3_waitNoMore, 3, none) := by decide +kernel
theorem kX3_waitsFor : zkG yX3_waitsFor = some (cX3_waitsFor, 3, some .boolean) := by decide +kernel
theorem kX4_change : zkG yX4_change = some (cX4_change, 7, none) := by decide +kernel
theorem kX4_changeAllToNone : zkG yX4_changeAllToNone = some (cX4_changeAllToNone, 4, none) := by decide +kernel
theorem kX4_entryKept : zkG yX4_entryKept = some (cX4_entryKept, 4, some .int) := by decide +kernel
theorem kX4_entryNow : zkG yX4_entryNow = some (cX4_entryNow, 3, some .int) := by decide +kernel
theorem kX4_heldFrom : zkG yX4_heldFrom = some (cX4_heldFrom, 8, some .boolean) := by decide +kernel
theorem kX4_isAllNone : zkG yX4_isAllNone = some (cX4_isAllNone, 3, some .boolean) := by decide +kernel
theorem kX4_isKept : zkG yX4_isKept = some (cX4_isKept, 4, some .boolean) := by decide +kernel
theorem kX4_rowOf : zkG yX4_rowOf = some (cX4_rowOf, 2, some .int) := by decide +kernel
theorem kX4_startAgain : zkG yX4_startAgain = some (cX4_startAgain, 1, none) := by decide +kernel
theorem kX4_timeKept : zkG yX4_timeKept = some (cX4_timeKept, 4, some .int) := by decide +kernel
theorem kX6_become : zkG yX6_become = some (cX6_become, 5, none) := by decide +kernel
theorem kX6_begin : zkG yX6_begin = some (cX6_begin, 3, none) := by decide +kernel
theorem kX6_begins : zkG yX6_begins = some (cX6_begins, 10, some .int) := by decide +kernel
theorem kX6_catchUp : zkG yX6_catchUp = some (cX6_catchUp, 4, some .int) := by decide +kernel
theorem kX6_clear : zkG yX6_clear = some (cX6_clear, 5, some .int) := by decide +kernel
theorem kX6_core : zkG yX6_core = some (cX6_core, 3, some .int) := by decide +kernel
theorem kX6_cores : zkG yX6_cores = some (cX6_cores, 3, some .int) := by decide +kernel
theorem kX6_count : zkG yX6_count = some (cX6_count, 4, some .int) := by decide +kernel
theorem kX6_danger : zkG yX6_danger = some (cX6_danger, 6, some .int) := by decide +kernel
theorem kX6_digest : zkG yX6_digest = some (cX6_digest, 6, some .long) := by decide +kernel
theorem kX6_dropNote : zkG yX6_dropNote = some (cX6_dropNote, 4, none) := by decide +kernel
theorem kX6_enter : zkG yX6_enter = some (cX6_enter, 4, some .int) := by decide +kernel
theorem kX6_entry : zkG yX6_entry = some (cX6_entry, 3, some .int) := by decide +kernel
theorem kX6_entryOf : zkG yX6_entryOf = some (cX6_entryOf, 2, some .int) := by decide +kernel
theorem kX6_forget : zkG yX6_forget = some (cX6_forget, 6, some .int) := by decide +kernel
theorem kX6_history : zkG yX6_history = some (cX6_history, 5, some .int) := by decide +kernel
theorem kX6_how : zkG yX6_how = some (cX6_how, 1, some .int) := by decide +kernel
theorem kX6_in : zkG yX6_in = some (cX6_in, 3, some .boolean) := by decide +kernel
theorem kX6_isCore : zkG yX6_isCore = some (cX6_isCore, 2, some .boolean) := by decide +kernel
theorem kX6_isNote : zkG yX6_isNote = some (cX6_isNote, 3, some .boolean) := by decide +kernel
theorem kX6_isPage : zkG yX6_isPage = some (cX6_isPage, 2, some .boolean) := by decide +kernel
theorem kX6_isStale : zkG yX6_isStale = some (cX6_isStale, 4, some .boolean) := by decide +kernel
theorem kX6_look : zkG yX6_look = some (cX6_look, 7, some .int) := by decide +kernel
theorem kX6_map : zkG yX6_map = some (cX6_map, 5, some .int) := by decide +kernel
theorem kX6_mayShoot : zkG yX6_mayShoot = some (cX6_mayShoot, 2, some .boolean) := by decide +kernel
theorem kX6_note : zkG yX6_note = some (cX6_note, 5, some .int) := by decide +kernel
theorem kX6_noteOf : zkG yX6_noteOf = some (cX6_noteOf, 5, some .int) := by decide +kernel
theorem kX6_remap : zkG yX6_remap = some (cX6_remap, 6, some .int) := by decide +kernel
theorem kX6_rounds : zkG yX6_rounds = some (cX6_rounds, 6, some .int) := by decide +kernel
theorem kX6_seen : zkG yX6_seen = some (cX6_seen, 1, some .int) := by decide +kernel
theorem kX6_settle : zkG yX6_settle = some (cX6_settle, 4, none) := by decide +kernel
theorem kX6_shoot : zkG yX6_shoot = some (cX6_shoot, 3, some .int) := by decide +kernel
theorem kX6_shootOf : zkG yX6_shootOf = some (cX6_shootOf, 3, some .int) := by decide +kernel
theorem kX6_sleep : zkG yX6_sleep = some (cX6_sleep, 3, some .int) := by decide +kernel
theorem kX6_take : zkG yX6_take = some (cX6_take, 2, some .int) := by decide +kernel
theorem kX6_takeAll : zkG yX6_takeAll = some (cX6_takeAll, 4, some .int) := by decide +kernel
theorem kX6_takeCall : zkG yX6_takeCall = some (cX6_takeCall, 5, some .int) := by decide +kernel
theorem kX6_takeNote : zkG yX6_takeNote = some (cX6_takeNote, 6, none) := by decide +kernel
theorem kX6_told : zkG yX6_told = some (cX6_told, 1, some .int) := by decide +kernel
theorem kX6_underWay : zkG yX6_underWay = some (cX6_underWay, 2, some .int) := by decide +kernel
theorem kX6_unmap : zkG yX6_unmap = some (cX6_unmap, 4, some .int) := by decide +kernel
theorem kX6_waited : zkG yX6_waited = some (cX6_waited, 4, some .int) := by decide +kernel
theorem kX6_wake : zkG yX6_wake = some (cX6_wake, 2, some .int) := by decide +kernel
theorem kX6_wasSo : zkG yX6_wasSo = some (cX6_wasSo, 7, some .int) := by decide +kernel
theorem kJ6_bitCount_0f7a4 : zkG yJ6_bitCount_0f7a4 = some (cJ6_bitCount_0f7a4, 1, some .int) := by decide +kernel
theorem kJ7_fill_53178 : zkG yJ7_fill_53178 = some (cJ7_fill_53178, 4, none) := by decide +kernel
theorem kJ7_fill_49daa : zkG yJ7_fill_49daa = some (cJ7_fill_49daa, 4, none) := by decide +kernel
end
section
/-! the abstract world, one step, what a run comes to (a least fixed point), calls by depth -/
abbrev zV : Type := Nat → Nat → Int32
abbrev zD : Type := (Bool × Nat) ⊕ (Nat × List (Option Nat))
abbrev zU : Type := List zD
abbrev zQ : Type := Option Value → zV → Prop
abbrev zC : Type := MethodName → List Value → zV → zQ → Prop
abbrev zS : Type := Option (Nat × Nat × (Nat → Int32))
abbrev zP : Type := Nat → List Value → List Value → zV → Prop
def zif (c : Jvm.ClassFile.Cond) (x y : Int32) : Prop := match c with
  | .eq => x = y
  | .ne => ¬ x = y
  | .lt => x < y
  | .ge => y ≤ x
  | .gt => y < x
  | .le => x ≤ y
def zok1 (ls : List Value) (k : Nat) : Prop := match k with
  | 0 => True
  | j + 1 => ∀ v, ls[j]? = some v → v.category = 1
def zput (σ : zV) (a k : Nat) (x : Int32) : zV := va_up σ a (upd (σ a) k x)
def zcat (r : List Value) : Prop := (r.map fun v => v.category).sum ≤ 8
def zstep (U : zU) (call : zC) (own : String) (nL : Nat) (ret : Option FieldType) (scr : zS) (Q : zQ) (P : zP) (i : Instr) (len pc : Nat) (ls st : List Value) (σ : zV) : Prop := match i with
  | .iload_n k => len = 1 ∧ ∃ x, ls[(k : Nat)]? = some (.int x) ∧ P (pc + 1) ls (.int x :: st) σ
  | .iload k => len = 2 ∧ ∃ x, ls[k]? = some (.int x) ∧ P (pc + 2) ls (.int x :: st) σ
  | .lload_n k => len = 1 ∧ ∃ x, ls[(k : Nat)]? = some (.long x) ∧ P (pc + 1) ls (.long x :: st) σ
  | .lload k => len = 2 ∧ ∃ x, ls[k]? = some (.long x) ∧ P (pc + 2) ls (.long x :: st) σ
  | .aload_n k => len = 1 ∧ ∃ x, ls[(k : Nat)]? = some (.ref x) ∧ P (pc + 1) ls (.ref x :: st) σ
  | .istore_n k => len = 1 ∧ ∃ x r, st = .int x :: r ∧ (k : Nat) < nL ∧ zok1 ls k ∧ P (pc + 1) (ls.set k (.int x)) r σ
  | .istore k => len = 2 ∧ ∃ x r, st = .int x :: r ∧ k < nL ∧ zok1 ls k ∧ P (pc + 2) (ls.set k (.int x)) r σ
  | .lstore_n k => len = 1 ∧ ∃ x r, st = .long x :: r ∧ (k : Nat) + 1 < nL ∧ zok1 ls k ∧ P (pc + 1) ((ls.set k (.long x)).set (k + 1) .null) r σ
  | .lstore k => len = 2 ∧ ∃ x r, st = .long x :: r ∧ k + 1 < nL ∧ zok1 ls k ∧ P (pc + 2) ((ls.set k (.long x)).set (k + 1) .null) r σ
  | .iinc k n => len = 3 ∧ ∃ x, ls[k]? = some (.int x) ∧ k < nL ∧ zok1 ls k ∧ P (pc + 3) (ls.set k (.int (x + Int32.ofInt n))) st σ
  | .iconst n => len = 1 ∧ P (pc + 1) ls (.int (Int32.ofInt n) :: st) σ
  | .bipush n => len = 2 ∧ P (pc + 2) ls (.int (Int8.ofInt n).toInt32 :: st) σ
  | .sipush n => len = 3 ∧ P (pc + 3) ls (.int (Int16.ofInt n).toInt32 :: st) σ
  | .ldc_w idx => len = 3 ∧ ∃ v, zcG own idx = some v ∧ P (pc + 3) ls (.int v :: st) σ
  | .ldc2_w idx => len = 3 ∧ ∃ v, zlG own idx = some v ∧ P (pc + 3) ls (.long v :: st) σ
  | .iadd => len = 1 ∧ ∃ x y r, st = .int y :: .int x :: r ∧ P (pc + 1) ls (.int (x + y) :: r) σ
  | .isub => len = 1 ∧ ∃ x y r, st = .int y :: .int x :: r ∧ P (pc + 1) ls (.int (x - y) :: r) σ
  | .imul => len = 1 ∧ ∃ x y r, st = .int y :: .int x :: r ∧ P (pc + 1) ls (.int (x * y) :: r) σ
  | .iand => len = 1 ∧ ∃ x y r, st = .int y :: .int x :: r ∧ P (pc + 1) ls (.int (x &&& y) :: r) σ
  | .ior => len = 1 ∧ ∃ x y r, st = .int y :: .int x :: r ∧ P (pc + 1) ls (.int (x ||| y) :: r) σ
  | .ixor => len = 1 ∧ ∃ x y r, st = .int y :: .int x :: r ∧ P (pc + 1) ls (.int (x ^^^ y) :: r) σ
  | .ishl => len = 1 ∧ ∃ x y r, st = .int y :: .int x :: r ∧ P (pc + 1) ls (.int (x <<< (y &&& 31)) :: r) σ
  | .iushr => len = 1 ∧ ∃ x y r, st = .int y :: .int x :: r ∧ P (pc + 1) ls (.int (x.toUInt32 >>> (y.toUInt32 &&& Int32.toUInt32 31)).toInt32 :: r) σ
  | .ladd => len = 1 ∧ ∃ x y r, st = .long y :: .long x :: r ∧ P (pc + 1) ls (.long (x + y) :: r) σ
  | .lmul => len = 1 ∧ ∃ x y r, st = .long y :: .long x :: r ∧ P (pc + 1) ls (.long (x * y) :: r) σ
  | .lcmp => len = 1 ∧ ∃ x y r, st = .long y :: .long x :: r ∧ P (pc + 1) ls (.int (lg_cmp x y) :: r) σ
  | .i2l => len = 1 ∧ ∃ x r, st = .int x :: r ∧ P (pc + 1) ls (.long x.toInt64 :: r) σ
  | .dup => len = 1 ∧ ∃ v r, st = v :: r ∧ v.category = 1 ∧ P (pc + 1) ls (v :: v :: r) σ
  | .dup2 => len = 1 ∧ ∃ v w r, st = v :: w :: r ∧ v.category = 1 ∧ w.category = 1 ∧ P (pc + 1) ls (v :: w :: v :: w :: r) σ
  | .pop => len = 1 ∧ ∃ v r, st = v :: r ∧ v.category = 1 ∧ P (pc + 1) ls r σ
  | .goto off => len = 3 ∧ ∃ t : Nat, (pc : Int) + off = (t : Int) ∧ P t ls st σ
  | .ifCond c off => len = 3 ∧ ∃ (x : Int32) (r : List Value) (t : Nat), st = .int x :: r ∧ (pc : Int) + off = (t : Int) ∧ (zif c x 0 → P t ls r σ) ∧ (¬ zif c x 0 → P (pc + 3) ls r σ)
  | .if_icmp c off => len = 3 ∧ ∃ (x y : Int32) (r : List Value) (t : Nat), st = .int y :: .int x :: r ∧ (pc : Int) + off = (t : Int) ∧ (zif c x y → P t ls r σ) ∧ (¬ zif c x y → P (pc + 3) ls r σ)
  | .tableswitch dflt lo hi offs => ∃ (x : Int32) (r : List Value) (t : Nat), st = .int x :: r ∧ (pc : Int) + dflt = (t : Int) ∧ ((x.toInt < lo ∨ hi < x.toInt) → P t ls r σ) ∧ (¬ x.toInt < lo → ¬ hi < x.toInt → ∃ (off : Int) (t : Nat), offs[(x.toInt - lo).toNat]? = some off ∧ (pc : Int) + off = (t : Int) ∧ P t ls r σ)
  | .getfield idx => len = 3 ∧ ∃ a r ci k w n fs, st = .ref a :: r ∧ zfG own idx = some (ci, k, w, n) ∧ U[a]? = some (.inr (ci, fs)) ∧ ((∃ b, fs[k]? = some (some b) ∧ P (pc + 3) ls (.ref b :: r) σ) ∨ (fs[k]? = some none ∧ P (pc + 3) ls (.int (σ a k) :: r) σ))
  | .putfield idx => len = 3 ∧ ∃ x a r ci k fs, st = .int x :: .ref a :: r ∧ zfG own idx = some (ci, k, true, false) ∧ U[a]? = some (.inr (ci, fs)) ∧ fs[k]? = some none ∧ P (pc + 3) ls r (zput σ a k x)
  | .iaload => len = 1 ∧ ∃ j a r, st = .int j :: .ref a :: r ∧ ((∃ n, U[a]? = some (.inl (false, n)) ∧ vp_in j n ∧ P (pc + 1) ls (.int (σ a j.toNatClampNeg) :: r) σ) ∨ (∃ L xs, U[a]? = none ∧ scr = some (a, L, xs) ∧ vp_in j L ∧ P (pc + 1) ls (.int (xs j.toNatClampNeg) :: r) σ))
  | .baload => len = 1 ∧ ∃ j a r n, st = .int j :: .ref a :: r ∧ U[a]? = some (.inl (true, n)) ∧ vp_in j n ∧ P (pc + 1) ls (.int (σ a j.toNatClampNeg) :: r) σ
  | .iastore => len = 1 ∧ ∃ x j a r n, st = .int x :: .int j :: .ref a :: r ∧ U[a]? = some (.inl (false, n)) ∧ vp_in j n ∧ P (pc + 1) ls r (zput σ a j.toNatClampNeg x)
  | .bastore => len = 1 ∧ ∃ x j a r n, st = .int x :: .int j :: .ref a :: r ∧ U[a]? = some (.inl (true, n)) ∧ vp_in j n ∧ P (pc + 1) ls r (zput σ a j.toNatClampNeg (vp_nar .boolean x))
  | .arraylength => len = 1 ∧ ∃ a r, st = .ref a :: r ∧ ((∃ b n, U[a]? = some (.inl (b, n)) ∧ P (pc + 1) ls (.int (nI n) :: r) σ) ∨ (∃ L xs, U[a]? = none ∧ scr = some (a, L, xs) ∧ P (pc + 1) ls (.int (nI L) :: r) σ))
  | .ireturn => len = 1 ∧ ∃ v ty, st = [.int v] ∧ ret = some ty ∧ narrow ty (.int v) = .int v ∧ Q (some (.int v)) σ
  | .lreturn => len = 1 ∧ ∃ v, st = [.long v] ∧ ret = some .long ∧ Q (some (.long v)) σ
  | .return_ => len = 1 ∧ st = [] ∧ ret = none ∧ Q none σ
  | .invokevirtual idx => len = 3 ∧ ∃ y k a r As ci fs, zmG own idx = some (y, As.length, k) ∧ k < 2 ∧ st = As.reverse ++ .ref a :: r ∧ U[a]? = some (.inr (ci, fs)) ∧ zNames[ci]? = some y.cls ∧ zcat r ∧ call y (.ref a :: As) σ (fun v σ' => P (pc + 3) ls (v.toList ++ r) σ')
  | .invokestatic idx => len = 3 ∧ ((∃ y r As, zmG own idx = some (y, As.length, 2) ∧ st = As.reverse ++ r ∧ zcat r ∧ call y As σ (fun v σ' => P (pc + 3) ls (v.toList ++ r) σ')) ∨
      (∃ y a a0 n0 n1 sp dp n r, zmG own idx = some (y, 5, 3) ∧ st = .int n :: .int dp :: .ref a :: .int sp :: .ref a0 :: r ∧ zcat r ∧ U[a0]? = some (.inl (false, n0)) ∧ U[a]? = some (.inl (false, n1)) ∧ ¬ sp < 0 ∧ ¬ dp < 0 ∧ ¬ n < 0 ∧ sp.toNatClampNeg + n.toNatClampNeg ≤ n0 ∧ dp.toNatClampNeg + n.toNatClampNeg ≤ n1 ∧ P (pc + 3) ls r (va_up σ a (va_cpy (σ a0) (σ a) sp.toNatClampNeg dp.toNatClampNeg n.toNatClampNeg))) ∨
      (∃ m x y r, zmG own idx = some (m, 2, 4) ∧ st = .int y :: .int x :: r ∧ zcat r ∧ P (pc + 3) ls (.int (if x < y then y else x) :: r) σ))
  | _ => False
def zD1 (U : zU) (call : zC) (own : String) (cc : ByteArray) (nL : Nat) (ret : Option FieldType) (scr : zS) (Q : zQ) (P : zP) (pc : Nat) (ls st : List Value) (σ : zV) : Prop := ∃ i len, decode cc pc = .ok (i, len) ∧ zstep U call own nL ret scr Q P i len pc ls st σ
def zEv (U : zU) (call : zC) (own : String) (cc : ByteArray) (nL : Nat) (ret : Option FieldType) (scr : zS) (Q : zQ) (pc : Nat) (ls st : List Value) (σ : zV) : Prop := ∀ P : zP, (∀ pc ls st σ, zD1 U call own cc nL ret scr Q P pc ls st σ → P pc ls st σ) → P pc ls st σ
def zia : List Value → List Value
  | [] => []
  | v :: t => if v.category = 2 then v :: .null :: zia t else v :: zia t
def zin (nL : Nat) (as : List Value) : List Value := zia as ++ List.replicate (nL - (zia as).length) .null
def zCall (U : zU) : Nat → zC
  | 0 => fun _ _ _ _ => False
  | d + 1 => fun y as σ Q => ∃ cc nL ret, zkG y = some (cc, nL, ret) ∧ (zia as).length ≤ nL ∧ zEv U (zCall U d) y.cls cc nL ret none Q 0 (zin nL as) [] σ
def zMono (call : zC) : Prop := ∀ y as σ (Q Q' : zQ), (∀ v σ, Q v σ → Q' v σ) → call y as σ Q → call y as σ Q'
theorem zimp {a b c : Prop} (h : b → c) (g : a → b) : a → c := fun x => h (g x)
set_option maxHeartbeats 4000000 in
theorem zstep_mono {U : zU} {call : zC} {own : String} {nL : Nat} {ret : Option FieldType} {scr : zS} {Q Q' : zQ} {P P' : zP} (hc : zMono call) (hQ : ∀ v σ, Q v σ → Q' v σ) (hP : ∀ pc ls st σ, P pc ls st σ → P' pc ls st σ) {i : Instr} {len pc : Nat} {ls st : List Value} {σ : zV} (h : zstep U call own nL ret scr Q P i len pc ls st σ) : zstep U call own nL ret scr Q' P' i len pc ls st σ := by
  unfold zstep at h ⊢
  split at h <;> revert h <;> repeat' (first | exact id | exact hP _ _ _ _ | exact hQ _ _ | exact hc _ _ _ _ _ (fun _ _ => hP _ _ _ _) | refine And.imp ?_ ?_ | refine Or.imp ?_ ?_ | refine Exists.imp (fun _ => ?_) | refine zimp ?_)
theorem zD1_mono {U : zU} {call : zC} {own : String} {cc : ByteArray} {nL : Nat} {ret : Option FieldType} {scr : zS} {Q Q' : zQ} {P P' : zP} (hc : zMono call) (hQ : ∀ v σ, Q v σ → Q' v σ) (hP : ∀ pc ls st σ, P pc ls st σ → P' pc ls st σ) {pc : Nat} {ls st : List Value} {σ : zV} (h : zD1 U call own cc nL ret scr Q P pc ls st σ) : zD1 U call own cc nL ret scr Q' P' pc ls st σ := by
  obtain ⟨i, len, h1, h2⟩ := h
  exact ⟨i, len, h1, zstep_mono hc hQ hP h2⟩
theorem zEv_in {U : zU} {call : zC} {own : String} {cc : ByteArray} {nL : Nat} {ret : Option FieldType} {scr : zS} {Q : zQ} (hc : zMono call) {pc : Nat} {ls st : List Value} {σ : zV} (h : zD1 U call own cc nL ret scr Q (zEv U call own cc nL ret scr Q) pc ls st σ) : zEv U call own cc nL ret scr Q pc ls st σ := by
  intro P hP
  exact hP _ _ _ _ (zD1_mono hc (fun _ _ h => h) (fun pc ls st σ h => h P hP) h)
theorem zEv_eq {U : zU} {call : zC} {own : String} {cc : ByteArray} {nL : Nat} {ret : Option FieldType} {scr : zS} {Q : zQ} (hc : zMono call) {pc : Nat} {ls st : List Value} {σ : zV} : zEv U call own cc nL ret scr Q pc ls st σ = zD1 U call own cc nL ret scr Q (zEv U call own cc nL ret scr Q) pc ls st σ := by
  refine propext ⟨fun h => h _ (fun pc ls st σ g => zD1_mono hc (fun _ _ h => h) (fun _ _ _ _ h => zEv_in hc h) g), zEv_in hc⟩
theorem zEv_mono {U : zU} {call : zC} {own : String} {cc : ByteArray} {nL : Nat} {ret : Option FieldType} {scr : zS} {Q Q' : zQ} (hc : zMono call) (hQ : ∀ v σ, Q v σ → Q' v σ) {pc : Nat} {ls st : List Value} {σ : zV} (h : zEv U call own cc nL ret scr Q pc ls st σ) : zEv U call own cc nL ret scr Q' pc ls st σ := by
  intro P hP
  exact h P (fun pc ls st σ g => hP _ _ _ _ (zD1_mono hc hQ (fun _ _ _ _ h => h) g))
theorem zCall_mono (U : zU) (d : Nat) : zMono (zCall U d) := by
  induction d with
  | zero => intro y as σ Q Q' _ h; exact h
  | succ d ih =>
    intro y as σ Q Q' hQ h
    obtain ⟨cc, nL, ret, h1, h2, h3⟩ := h
    exact ⟨cc, nL, ret, h1, h2, zEv_mono ih hQ h3⟩
/-! the abstract world in the heap -/
def zc (q : Nat → Nat) (v : Value) : Value := match v with
  | .ref a => .ref (q a)
  | w => w
theorem zc_cat (q : Nat → Nat) (v : Value) : (zc q v).category = v.category := by cases v <;> rfl
def zE (q : Nat → Nat) (cI cZ : ClassId) (σ : zV) (k : Nat) (d : zD) : va_E := match d with
  | .inl (b, n) => .inl (if b = true then cZ else cI, n, .inl (σ k))
  | .inr (ci, fs) => .inr (ci, fs.mapIdx fun j f => match f with
    | some r => .ref (q r)
    | none => .int (σ k j))
def zW (q : Nat → Nat) (cI cZ : ClassId) (U : zU) (σ : zV) : va_W := U.mapIdx fun k d => (q k, zE q cI cZ σ k d)
abbrev zTy (cI cZ : ClassId) : List (ClassId × FieldType) := [(cI, .int), (cZ, .boolean)]
theorem zW_get {q : Nat → Nat} {cI cZ : ClassId} {U : zU} {σ : zV} {k : Nat} {d : zD} (h : U[k]? = some d) : (zW q cI cZ U σ)[k]? = some (q k, zE q cI cZ σ k d) := by
  simp [zW, List.getElem?_mapIdx, h]
theorem zE_off {q : Nat → Nat} {cI cZ : ClassId} {σ σ' : zV} {k : Nat} (h : σ' k = σ k) (d : zD) : zE q cI cZ σ' k d = zE q cI cZ σ k d := by
  unfold zE
  split <;> simp [h]
theorem zW_set {q : Nat → Nat} {cI cZ : ClassId} {U : zU} {σ σ' : zV} {k : Nat} {d : zD} (h : U[k]? = some d) (hs : ∀ j, j ≠ k → σ' j = σ j) : (zW q cI cZ U σ).set k (q k, zE q cI cZ σ' k d) = zW q cI cZ U σ' := by
  have hk : k < U.length := (List.getElem?_eq_some_iff.mp h).1
  apply List.ext_getElem?
  intro i
  by_cases hi : i = k
  · subst hi
    rw [List.getElem?_set_self (by simp [zW]; exact hk), zW_get h]
  · rw [List.getElem?_set_ne (Ne.symm hi)]
    cases hu : U[i]? with
    | none =>
      have := List.getElem?_eq_none_iff.mp hu
      rw [List.getElem?_eq_none (by simp [zW]; omega), List.getElem?_eq_none (by simp [zW]; omega)]
    | some x => rw [zW_get hu, zW_get hu, zE_off (hs i hi)]
theorem zput_off {σ : zV} {a k : Nat} {x : Int32} : ∀ j, j ≠ a → zput σ a k x j = σ j := fun j h => by simp [zput, va_up, h]
theorem zput_at {σ : zV} {a k : Nat} {x : Int32} : zput σ a k x a = upd (σ a) k x := by simp [zput, va_up]
theorem zE_put_a {q : Nat → Nat} {cI cZ : ClassId} {σ : zV} {a k n : Nat} {b : Bool} {x : Int32} : zE q cI cZ (zput σ a k x) a (.inl (b, n)) = .inl (if b = true then cZ else cI, n, .inl (upd (σ a) k x)) := by
  simp [zE, zput_at]
theorem zE_put_f {q : Nat → Nat} {cI cZ : ClassId} {σ : zV} {a k ci : Nat} {fs : List (Option Nat)} {x : Int32} (h : fs[k]? = some none) : zE q cI cZ (zput σ a k x) a (.inr (ci, fs)) = .inr (ci, (fs.mapIdx fun j f => match f with
    | some r => Value.ref (q r)
    | none => Value.int (σ a j)).set k (.int x)) := by
  have hk : k < fs.length := (List.getElem?_eq_some_iff.mp h).1
  simp only [zE, zput_at]
  congr 2
  apply List.ext_getElem?
  intro i
  by_cases hi : i = k
  · subst hi
    rw [List.getElem?_set_self (by simpa using hk), List.getElem?_mapIdx, h]
    simp [upd]
  · rw [List.getElem?_set_ne (Ne.symm hi), List.getElem?_mapIdx, List.getElem?_mapIdx]
    cases fs[i]? with
    | none => rfl
    | some f => cases f <;> simp [upd, hi]
/-! the locals -/
def zl (q : Nat → Nat) : Nat → List Value → List (Nat × Value)
  | _, [] => []
  | i, v :: t => match v with
    | .null => zl q (i + 1) t
    | w => (i, zc q w) :: zl q (i + 1) t
theorem zl_mem {q : Nat → Nat} {ls : List Value} : ∀ {i : Nat} {x : Nat × Value}, x ∈ zl q i ls ↔ ∃ (j : Nat) (v : Value), ls[j]? = some v ∧ v ≠ .null ∧ x = (i + j, zc q v) := by
  induction ls with
  | nil => intro i x; simp [zl]
  | cons v t ih =>
    intro i x
    have hs : (∃ (j : Nat) (w : Value), (v :: t)[j]? = some w ∧ w ≠ .null ∧ x = (i + j, zc q w)) ↔ ((v ≠ .null ∧ x = (i, zc q v)) ∨ ∃ (j : Nat) (w : Value), t[j]? = some w ∧ w ≠ .null ∧ x = (i + 1 + j, zc q w)) := by
      constructor
      · rintro ⟨j, w, h1, h2, h3⟩
        cases j with
        | zero => cases h1; exact Or.inl ⟨h2, h3⟩
        | succ j => exact Or.inr ⟨j, w, by simpa using h1, h2, by rw [h3]; congr 1; omega⟩
      · rintro (⟨h2, h3⟩ | ⟨j, w, h1, h2, h3⟩)
        · exact ⟨0, v, rfl, h2, h3⟩
        · exact ⟨j + 1, w, by simpa using h1, h2, by rw [h3]; congr 1; omega⟩
    have e : zl q i (v :: t) = if v = .null then zl q (i + 1) t else (i, zc q v) :: zl q (i + 1) t := by cases v <;> simp [zl]
    rw [hs, ← ih, e]
    by_cases hv : v = .null
    · rw [if_pos hv]
      exact ⟨fun h => Or.inr h, fun h => h.elim (fun z => absurd hv z.1) id⟩
    · rw [if_neg hv, List.mem_cons]
      exact ⟨Or.imp_left (fun z => ⟨hv, z⟩), Or.imp_left And.right⟩
theorem zl_at {q : Nat → Nat} {lsA : Array Slot} {nL : Nat} {ls : List Value} (h : lv_has lsA nL (zl q 0 ls)) {i : Nat} {v : Value} (hi : ls[i]? = some v) (hv : v ≠ .null) : lsA[i]? = some (.val (zc q v)) :=
  h.2.2 (i, zc q v) (zl_mem.mpr ⟨i, v, hi, hv, by simp⟩)
theorem zl_less {lsA : Array Slot} {nL : Nat} {l l' : List (Nat × Value)} (h : lv_has lsA nL l) (hs : ∀ x ∈ l', x ∈ l) : lv_has lsA nL l' := ⟨h.1, h.2.1, fun x hx => h.2.2 x (hs x hx)⟩
theorem zl_set1 {q : Nat → Nat} {lsA : Array Slot} {nL k : Nat} {ls : List Value} {w : Value} (hw : w ≠ .null) (hk : zok1 ls k) (h : lv_has lsA nL ((k, zc q w) :: (zl q 0 ls).filter (fun q => !(q.1 == k) && !(q.1 + 1 == k && q.2.category == 2)))) : lv_has lsA nL (zl q 0 (ls.set k w)) := by
  refine zl_less h (fun x hx => ?_)
  obtain ⟨j, v, h1, h2, rfl⟩ := zl_mem.mp hx
  simp only [Nat.zero_add]
  by_cases hj : j = k
  · subst hj
    have hl : j < ls.length := by
      have := (List.getElem?_eq_some_iff.mp h1).1
      simpa using this
    rw [List.getElem?_set_self hl] at h1
    cases h1
    exact List.mem_cons_self
  · rw [List.getElem?_set_ne (Ne.symm hj)] at h1
    refine List.mem_cons_of_mem _ (List.mem_filter.mpr ⟨zl_mem.mpr ⟨j, v, h1, h2, by simp⟩, ?_⟩)
    simp only [beq_iff_eq, Bool.and_eq_true, Bool.not_eq_true', Bool.and_eq_false_iff, beq_eq_false_iff_ne, ne_eq]
    refine ⟨hj, ?_⟩
    by_cases hjk : j + 1 = k
    · subst hjk
      right
      rw [zc_cat, hk v h1]
      decide
    · exact Or.inl hjk
theorem zl_set2 {q : Nat → Nat} {lsA : Array Slot} {nL k : Nat} {ls : List Value} {w : Value} (hw : w ≠ .null) (hk : zok1 ls k) (h : lv_has lsA nL ((k, zc q w) :: (zl q 0 ls).filter (fun q => !(q.1 == k) && (!(q.1 == k + 1) && !(q.1 + 1 == k && q.2.category == 2))))) : lv_has lsA nL (zl q 0 ((ls.set k w).set (k + 1) .null)) := by
  refine zl_less h (fun x hx => ?_)
  obtain ⟨j, v, h1, h2, rfl⟩ := zl_mem.mp hx
  simp only [Nat.zero_add]
  have hj1 : j ≠ k + 1 := by
    intro e
    subst e
    have hl : k + 1 < (ls.set k w).length := by
      have := (List.getElem?_eq_some_iff.mp h1).1
      simpa using this
    rw [List.getElem?_set_self hl] at h1
    cases h1
    exact h2 rfl
  rw [List.getElem?_set_ne (Ne.symm hj1)] at h1
  by_cases hj : j = k
  · subst hj
    have hl : j < ls.length := by
      have := (List.getElem?_eq_some_iff.mp h1).1
      simpa using this
    rw [List.getElem?_set_self hl] at h1
    cases h1
    exact List.mem_cons_self
  · rw [List.getElem?_set_ne (Ne.symm hj)] at h1
    refine List.mem_cons_of_mem _ (List.mem_filter.mpr ⟨zl_mem.mpr ⟨j, v, h1, h2, by simp⟩, ?_⟩)
    simp only [beq_iff_eq, Bool.and_eq_true, Bool.not_eq_true', Bool.and_eq_false_iff, beq_eq_false_iff_ne, ne_eq]
    refine ⟨hj, hj1, ?_⟩
    by_cases hjk : j + 1 = k
    · subst hjk
      right
      rw [zc_cat, hk v h1]
      decide
    · exact Or.inl hjk
theorem zia_args (q : Nat → Nat) : ∀ (as : List Value) (i j : Nat) (v : Value), (zia as)[j]? = some v → v ≠ .null → (i + j, zc q v) ∈ lv_args i (as.map (zc q)) := by
  intro as
  induction as with
  | nil => intro i j v h; simp [zia] at h
  | cons a t ih =>
    intro i j v h hv
    simp only [zia] at h
    simp only [List.map_cons, lv_args, zc_cat]
    by_cases hc : a.category = 2
    · rw [if_pos hc] at h
      rw [if_pos hc]
      match j, h with
      | 0, h => cases h; exact List.mem_cons_self
      | 1, h => exact absurd (by simpa using h.symm) hv
      | j + 2, h =>
        have := ih (i + 2) j v (by simpa using h) hv
        rw [show i + 2 + j = i + (j + 2) by omega] at this
        exact List.mem_cons_of_mem _ this
    · rw [if_neg hc] at h
      rw [if_neg hc]
      match j, h with
      | 0, h => cases h; exact List.mem_cons_self
      | j + 1, h =>
        have := ih (i + 1) j v (by simpa using h) hv
        rw [show i + 1 + j = i + (j + 1) by omega] at this
        exact List.mem_cons_of_mem _ this
theorem zia_len (q : Nat → Nat) (as : List Value) : (lg_sl (as.map (zc q))).length = (zia as).length := by
  induction as with
  | nil => rfl
  | cons a t ih =>
    simp only [lg_sl, List.map_cons, List.flatMap_cons, List.length_append, zia, zc_cat] at ih ⊢
    by_cases hc : a.category = 2 <;> simp [hc, ih] <;> omega
theorem zin_has {q : Nat → Nat} {lsA : Array Slot} {nL : Nat} {as : List Value} (h : lv_has lsA nL (lv_args 0 (as.map (zc q)))) : lv_has lsA nL (zl q 0 (zin nL as)) := by
  refine zl_less h (fun x hx => ?_)
  obtain ⟨j, v, h1, h2, rfl⟩ := zl_mem.mp hx
  unfold zin at h1
  by_cases hl : j < (zia as).length
  · rw [List.getElem?_append_left hl] at h1
    exact zia_args q as 0 j v h1 h2
  · rw [List.getElem?_append_right (by omega)] at h1
    exact absurd (List.eq_of_mem_replicate (List.mem_of_getElem? h1)) h2
end
section
/-! a run that comes to an end does so on the machine -/
def zNw (s : State) : Prop := ∀ w ∈ lw_tbl, zisN w = true → va_Nw w s
theorem zisN_on {w : Cond} (h : zisN w = true) : w.onTables = true := by cases w <;> first | rfl | (simp [zisN] at h)
theorem zNw_warm {s U : State} (h : zNw s) (hW : s.WarmedH U.vm) : zNw U := by
  intro w hw hn
  have h1 := h w hw hn
  cases w <;> first | exact va_Nw.warmF hW h1 | exact va_Nw.warmM hW h1 | (simp [zisN] at hn)
def zB (D : va_G) (q : Nat → Nat) (cI cZ : ClassId) (U : zU) (σ : zV) (A : Nat → Prop) (t : State) : Prop := va_P D vwCl (zW q cI cZ U σ) t.heap ∧ va_K D vwCl (zTy cI cZ) t ∧ va_D A (zW q cI cZ U σ) ∧ zNw t
def zPost (D : va_G) (q : Nat → Nat) (cI cZ : ClassId) (U : zU) (Q : zQ) (A : Nat → Prop) : Array Value → State → Outcome → State → Prop := fun _ st oc t => (∃ v σ', oc = .returned (v.map (zc q)) ∧ Q v σ' ∧ va_P D vwCl (zW q cI cZ U σ') t.heap ∧ va_D A (zW q cI cZ U σ')) ∧ va_F A st t
def zPre (D : va_G) (q : Nat → Nat) (cI cZ : ClassId) (U : zU) (as : List Value) (σ : zV) (sz : Nat) : Array Value → State → Prop := va_Pc (as.map (zc q)) (fun T => T.heap.size = sz ∧ zB D q cI cZ U σ (fun _ => True) T)
def zCalls (l : Launch) (D : va_G) (q : Nat → Nat) (cI cZ : ClassId) (U : zU) (R : Room) (call : zC) : Prop := ∀ y as σ Q, call y as σ Q → ∃ cc nL ret rm, zkG y = some (cc, nL, ret) ∧ rm.frames + 1 ≤ R.frames ∧ 8 + (nL + 11) + rm.locals ≤ R.locals ∧ rm.cells = 0 ∧ rm.slots = 0 ∧
  ∀ sz, Met l y (.code y cc nL ret :: zTs) rm (zPre D q cI cZ U as σ sz) (zPost D q cI cZ U Q (va_A (zW q cI cZ U σ) sz)) 0 0 (va_A (zW q cI cZ U σ) sz)
theorem zPre_blind {D : va_G} {q : Nat → Nat} {cI cZ : ClassId} {U : zU} {as : List Value} {σ : zV} {sz : Nat} : FrameBlind (zPre D q cI cZ U as σ sz) := by
  intro a V g mk h
  obtain ⟨h1, h2, h3, h4, h5, h6⟩ := h
  exact ⟨h1, h2, h3, va_K.moved (u := V) (U := V.calling g mk a) (Vm.Alike.refl V.vm) h4, h5, fun w hw hn => va_Nw.same (zisN_on hn) (u := V) (U := V.calling g mk a) rfl (h6 w hw hn)⟩
theorem zNames_ok : vwCl.map (fun x => x.1) = zNames := by decide +kernel
theorem zNames_at {ci : Nat} {C : String} (h : zNames[ci]? = some C) : ∃ x, vwCl[ci]? = some x ∧ x.1 = C := by
  rw [← zNames_ok, List.getElem?_map] at h
  cases hx : vwCl[ci]? with
  | none => rw [hx] at h; cases h
  | some x => rw [hx] at h; exact ⟨x, rfl, Option.some.inj h⟩
theorem zty (ci : Nat) (x : vw_C) (h : vwCl[ci]? = some x) : ∃ ty0 : Nat → FieldType, (∀ k, k < x.2.2 → parseFieldDescriptor (x.2.1 k).2.2.1 = some (ty0 k)) ∧ (∀ a, a < x.2.2 → ∀ b, b < x.2.2 → a ≠ b → (x.2.1 a).2.1 ≠ (x.2.1 b).2.1) := by
  match ci, h with
  | 0, h => cases h; exact ⟨tyX0, tyX0_ok, nmX0⟩
  | 1, h => cases h; exact ⟨tyX1, tyX1_ok, nmX1⟩
  | 2, h => cases h; exact ⟨tyX2, tyX2_ok, nmX2⟩
  | 3, h => cases h; exact ⟨tyX3, tyX3_ok, nmX3⟩
  | 4, h => cases h; exact ⟨tyX4, tyX4_ok, nmX4⟩
  | 5, h => cases h; exact ⟨tyX5, tyX5_ok, nmX5⟩
  | 6, h => cases h; exact ⟨tyX6, tyX6_ok, nmX6⟩
  | k + 7, h => simp [vwCl] at h
section ZS
variable {p : Program} {l : Launch} {e : Env} {R : Room} {s : State} {m : MethodId} {args : Array Value} {below : List Frame} {meth : Method} {c : Code} {H : Heap} {locs : List Loc} {cells slots : Nat} {Z : State → Prop}
variable {cc : ByteArray} {nL : Nat} {ret : Option FieldType} {own : String} {D : va_G} {q : Nat → Nat} {cI cZ : ClassId} {A : Nat → Prop} {U : zU} {scr : zS} {call : zC} {Q : zQ}
/-- behind a call -/
theorem zback {pc : Nat} {lsA : Array Slot} {st0 rest : List Value} {σ : zV} {Q1 : zQ} {a : Array Value} (hr : va_Run p l e R s m args below meth c H locs cells slots 0 0 (F0 m pc lsA st0) rest (zPost D q cI cZ U Q1 (va_A (zW q cI cZ U σ) H.size) a) (va_A (zW q cI cZ U σ) H.size))
    (hD : va_D A (zW q cI cZ U σ)) (hS : va_S A s.heap H locs) (hA : ∀ q, s.heap.size ≤ q → A q)
    (kk : ∀ (v : Option Value) (σ' : zV) (H1 : Heap) (locs1 : List Loc), Q1 v σ' → va_P D vwCl (zW q cI cZ U σ') H1 → va_D A (zW q cI cZ U σ') → va_S A s.heap H1 locs1 → W p l e R s m args below meth c H1 locs1 cells slots Z (F0 m (pc + 3) lsA ((v.map (zc q)).toList ++ rest))) : W p l e R s m args below meth c H locs cells slots Z (F0 m pc lsA st0) := by
  have hf : ∀ x, va_A (zW q cI cZ U σ) H.size x → A x := by
    intro x h
    rcases h with ⟨k, e, h⟩ | h
    · exact hD.2 k (x, e) h
    · exact hA x (Nat.le_trans hS.1 h)
  intro T hT X
  obtain ⟨v, st₀, t, T', L, h0, X', hL, e1, e2, ⟨⟨v', σ', hv, hq, hP, hD1⟩, hz, hk⟩, st⟩ := hr T hT X
  cases hv
  rw [h0] at hz hk
  obtain ⟨t2, a1, b1⟩ := kk v' σ' T'.heap (locs ++ L) hq (by rw [e1]; exact hP) (hD1.weaken (fun _ _ _ h => hf _ h))
    ⟨Nat.le_trans hS.1 (by rw [e1]; exact hz), fun x h1 h2 => by rw [e1, hk x (Nat.lt_of_lt_of_le h1 hS.1) (fun z => h2 (hf x z))]; exact hS.2.1 x h1 h2, fun x hx => by
      rcases List.mem_append.mp hx with h | h
      · exact hS.2.2 x h
      · exact hf _ (hL x h)⟩ T' rfl X'
  exact ⟨t2, st t2 a1, b1⟩
/-- what stays the same in a method -/
def zFix (p : Program) (l : Launch) (R : Room) (s : State) (m : MethodId) (args : Array Value) (c : Code) (cells slots : Nat) (cc : ByteArray) (nL : Nat) (own : String) (D : va_G) (q : Nat → Nat) (cI cZ : ClassId) (A : Nat → Prop) (U : zU) (scr : zS) (call : zC) : Prop :=
  p.tables.exec = Jvm.exec ∧ c.code = cc ∧ c.maxLocals = nL ∧ s.vm.findClass own = some m.cls ∧ (∀ w ∈ zTs, w.before args s = true) ∧ zNw s ∧ va_K D vwCl (zTy cI cZ) s ∧ (∀ q, s.heap.size ≤ q → A q) ∧ cells ≤ R.cells ∧ slots ≤ R.slots ∧ 1 ≤ R.frames ∧ 36 ≤ R.locals ∧ zCalls l D q cI cZ U R call ∧ (∀ k L xs, scr = some (k, L, xs) → va_X (q k) L xs s s.heap ∧ q k < s.heap.size ∧ ¬ A (q k))
def zEnd (p : Program) (l : Launch) (e : Env) (R : Room) (s : State) (m : MethodId) (args : Array Value) (below : List Frame) (meth : Method) (c : Code) (cells slots : Nat) (Z : State → Prop) (cc : ByteArray) (ret : Option FieldType) (D : va_G) (q : Nat → Nat) (cI cZ : ClassId) (A : Nat → Prop) (U : zU) (Q : zQ) : Prop :=
  ∀ (H : Heap) (locs : List Loc) (pc : Nat) (lsA : Array Slot) (σ : zV), va_P D vwCl (zW q cI cZ U σ) H → va_D A (zW q cI cZ U σ) → va_S A s.heap H locs →
    (∀ v ty, decode cc pc = .ok (.ireturn, 1) → ret = some ty → narrow ty (.int v) = .int v → Q (some (.int v)) σ → W p l e R s m args below meth c H locs cells slots Z (F0 m pc lsA [.int v])) ∧
    (∀ v, decode cc pc = .ok (.lreturn, 1) → ret = some .long → Q (some (.long v)) σ → W p l e R s m args below meth c H locs cells slots Z (F0 m pc lsA [.long v])) ∧
    (decode cc pc = .ok (.return_, 1) → ret = none → Q none σ → W p l e R s m args below meth c H locs cells slots Z (F0 m pc lsA []))
theorem zcat_q {r : List Value} (h : zcat r) : ((r.map (zc q)).map fun v => v.category).sum ≤ 8 := by
  rw [List.map_map]
  have : ((fun v : Value => v.category) ∘ zc q) = fun v => v.category := funext fun v => zc_cat q v
  rw [this]
  exact h
theorem zPre_of {as : List Value} {σ : zV} (hP : va_P D vwCl (zW q cI cZ U σ) H) (hD : va_D A (zW q cI cZ U σ)) (hK : va_K D vwCl (zTy cI cZ) s) (hN : zNw s) : ∀ T : State, T.heap = H → s.WarmedH T.vm → zPre D q cI cZ U as σ H.size (as.map (zc q)).toArray T :=
  fun T hT hW => ⟨rfl, by rw [hT], by rw [hT]; exact hP, va_K.moved hW.alike hK, hD.weaken (fun _ _ _ _ => trivial), zNw_warm hN hW⟩
theorem zgood {y : MethodName} {cc' : ByteArray} {nL' : Nat} {ret' : Option FieldType} (h : .code y cc' nL' ret' ∈ zTs) : GoodIn zTs (.code y cc' nL' ret' :: zTs) := by
  intro w hw
  rcases List.mem_cons.mp hw with rfl | hw
  · exact zTs_good _ h
  · exact zTs_good _ hw
theorem zgoodA {a b : List Jvm.Cond} (ha : GoodIn zTs a) (hb : GoodIn zTs b) : GoodIn zTs (a ++ b) := fun w h => (List.mem_append.mp h).elim (ha w) (hb w)
theorem zgoodL {ws : List Cond} (h : ∀ w ∈ ws, w ∈ zTs) : GoodIn zTs ws := fun w hw => zTs_good _ (h w hw)
set_option maxHeartbeats 8000000 in
set_option maxRecDepth 100000 in
theorem zsound (F : zFix p l R s m args c cells slots cc nL own D q cI cZ A U scr call) (E : zEnd p l e R s m args below meth c cells slots Z cc ret D q cI cZ A U Q) : ∀ pc ls st σ, zEv U call own cc nL ret scr Q pc ls st σ → ∀ (lsA : Array Slot) (H : Heap) (locs : List Loc), lv_has lsA nL (zl q 0 ls) → va_P D vwCl (zW q cI cZ U σ) H → va_D A (zW q cI cZ U σ) → va_S A s.heap H locs → W p l e R s m args below meth c H locs cells slots Z (F0 m pc lsA (st.map (zc q))) := by
  intro pc ls st σ h
  refine h (fun pc ls st σ => ∀ (lsA : Array Slot) (H : Heap) (locs : List Loc), lv_has lsA nL (zl q 0 ls) → va_P D vwCl (zW q cI cZ U σ) H → va_D A (zW q cI cZ U σ) → va_S A s.heap H locs → W p l e R s m args below meth c H locs cells slots Z (F0 m pc lsA (st.map (zc q)))) ?_
  clear h
  intro pc ls st σ hstep lsA H locs hl hP hD hS
  obtain ⟨hx, hb, hml, hown, hts, hN, hK, hA, hcl, hsl, hfr, hlo, hC, hX⟩ := id F
  obtain ⟨i, len, hd, hz⟩ := hstep
  cases i with
  | iload_n k =>
    obtain ⟨rfl, x, h1, h2⟩ := hz
    exact lv_iload_n hx hb hd rfl (zl_at hl h1 (by simp)) (h2 lsA H locs hl hP hD hS)
  | iload k =>
    obtain ⟨rfl, x, h1, h2⟩ := hz
    exact lv_iload hx hb hd (zl_at hl h1 (by simp)) (h2 lsA H locs hl hP hD hS)
  | lload_n k =>
    obtain ⟨rfl, x, h1, h2⟩ := hz
    exact lv_lload_n hx hb hd rfl (zl_at hl h1 (by simp)) (h2 lsA H locs hl hP hD hS)
  | lload k =>
    obtain ⟨rfl, x, h1, h2⟩ := hz
    exact lv_lload hx hb hd (zl_at hl h1 (by simp)) (h2 lsA H locs hl hP hD hS)
  | aload_n k =>
    obtain ⟨rfl, x, h1, h2⟩ := hz
    exact lv_aload_n hx hb hd rfl (zl_at hl h1 (by simp)) (h2 lsA H locs hl hP hD hS)
  | istore_n k =>
    obtain ⟨rfl, x, r, rfl, h1, h2, h3⟩ := hz
    exact lv_istore_n hx hb hd rfl hl h1 rfl (fun ls' hl' => h3 ls' H locs (zl_set1 (by simp) h2 hl') hP hD hS)
  | istore k =>
    obtain ⟨rfl, x, r, rfl, h1, h2, h3⟩ := hz
    exact lv_istore hx hb hd hl h1 rfl (fun ls' hl' => h3 ls' H locs (zl_set1 (by simp) h2 hl') hP hD hS)
  | lstore_n k =>
    obtain ⟨rfl, x, r, rfl, h1, h2, h3⟩ := hz
    exact lv_lstore_n hx hb hd rfl hl h1 rfl (fun ls' hl' => h3 ls' H locs (zl_set2 (by simp) h2 hl') hP hD hS)
  | lstore k =>
    obtain ⟨rfl, x, r, rfl, h1, h2, h3⟩ := hz
    exact lv_lstore hx hb hd hl h1 rfl (fun ls' hl' => h3 ls' H locs (zl_set2 (by simp) h2 hl') hP hD hS)
  | iinc k n =>
    obtain ⟨rfl, x, h0, h1, h2, h3⟩ := hz
    obtain ⟨j, hj⟩ := List.getElem?_of_mem (zl_mem.mpr ⟨k, .int x, h0, by simp, rfl⟩ : ((0 + k, zc q (.int x)) : Nat × Value) ∈ zl q 0 ls)
    rw [Nat.zero_add] at hj
    exact lv_iinc hx hb hd hl hj rfl h1 rfl (fun ls' hl' => h3 ls' H locs (zl_set1 (by simp) h2 hl') hP hD hS)
  | iconst n =>
    obtain ⟨rfl, h2⟩ := hz
    exact lv_iconst hx hb hd rfl (h2 lsA H locs hl hP hD hS)
  | bipush n =>
    obtain ⟨rfl, h2⟩ := hz
    exact lv_bipush hx hb hd rfl (h2 lsA H locs hl hP hD hS)
  | sipush n =>
    obtain ⟨rfl, h2⟩ := hz
    exact lv_sipush hx hb hd rfl (h2 lsA H locs hl hP hD hS)
  | ldc_w idx =>
    obtain ⟨rfl, v, h1, h2⟩ := hz
    exact lv_ldcw hx hb hown (hts _ (zcG_ok h1)) hd (h2 lsA H locs hl hP hD hS)
  | ldc2_w idx =>
    obtain ⟨rfl, v, h1, h2⟩ := hz
    exact lv_ldc2 hx hb hown (hts _ (zlG_ok h1)) hd (h2 lsA H locs hl hP hD hS)
  | iadd =>
    obtain ⟨rfl, x, y, r, rfl, h2⟩ := hz
    exact lv_iadd hx hb hd (h2 lsA H locs hl hP hD hS)
  | isub =>
    obtain ⟨rfl, x, y, r, rfl, h2⟩ := hz
    exact lv_isub hx hb hd (h2 lsA H locs hl hP hD hS)
  | imul =>
    obtain ⟨rfl, x, y, r, rfl, h2⟩ := hz
    exact lv_imul hx hb hd (h2 lsA H locs hl hP hD hS)
  | iand =>
    obtain ⟨rfl, x, y, r, rfl, h2⟩ := hz
    exact lv_iand hx hb hd (h2 lsA H locs hl hP hD hS)
  | ior =>
    obtain ⟨rfl, x, y, r, rfl, h2⟩ := hz
    exact lv_ior hx hb hd (h2 lsA H locs hl hP hD hS)
  | ixor =>
    obtain ⟨rfl, x, y, r, rfl, h2⟩ := hz
    exact lv_ixor hx hb hd (h2 lsA H locs hl hP hD hS)
  | ishl =>
    obtain ⟨rfl, x, y, r, rfl, h2⟩ := hz
    exact lv_ishl hx hb hd (h2 lsA H locs hl hP hD hS)
  | ladd =>
    obtain ⟨rfl, x, y, r, rfl, h2⟩ := hz
    exact lv_ladd hx hb hd (h2 lsA H locs hl hP hD hS)
  | lmul =>
    obtain ⟨rfl, x, y, r, rfl, h2⟩ := hz
    exact lv_lmul hx hb hd (h2 lsA H locs hl hP hD hS)
  | iushr =>
    obtain ⟨rfl, x, y, r, rfl, h2⟩ := hz
    exact lv_iushr hx hb hd rfl (h2 lsA H locs hl hP hD hS)
  | lcmp =>
    obtain ⟨rfl, x, y, r, rfl, h2⟩ := hz
    exact W.lcmp hx hb hd (h2 lsA H locs hl hP hD hS)
  | i2l =>
    obtain ⟨rfl, x, r, rfl, h2⟩ := hz
    exact lv_i2l hx hb hd rfl (h2 lsA H locs hl hP hD hS)
  | dup =>
    obtain ⟨rfl, v, r, rfl, h1, h2⟩ := hz
    exact lv_dup hx hb hd (by rw [zc_cat]; exact h1) (h2 lsA H locs hl hP hD hS)
  | dup2 =>
    obtain ⟨rfl, v, w, r, rfl, h1, h1', h2⟩ := hz
    exact lv_dup2_11 hx hb hd (by rw [zc_cat]; exact h1) (by rw [zc_cat]; exact h1') (h2 lsA H locs hl hP hD hS)
  | pop =>
    obtain ⟨rfl, v, r, rfl, h1, h2⟩ := hz
    exact lv_pop hx hb hd (by rw [zc_cat]; exact h1) (h2 lsA H locs hl hP hD hS)
  | goto off =>
    obtain ⟨rfl, t, ht, h2⟩ := hz
    exact lv_goto hx hb hd ht (h2 lsA H locs hl hP hD hS)
  | ifCond cd off =>
    obtain ⟨rfl, x, r, t, rfl, ht, h1, h2⟩ := hz
    cases cd with
    | eq => exact lv_if_eq hx hb hd ht (fun z => h1 z lsA H locs hl hP hD hS) (fun z => h2 (z) lsA H locs hl hP hD hS)
    | ne => exact lv_if_ne hx hb hd ht (fun z => h1 z lsA H locs hl hP hD hS) (fun z => h2 (fun w => w z) lsA H locs hl hP hD hS)
    | lt => exact lv_if_lt hx hb hd ht (fun z => h1 z lsA H locs hl hP hD hS) (fun z => h2 (z) lsA H locs hl hP hD hS)
    | ge => exact lv_if_ge hx hb hd ht (fun z => h1 z lsA H locs hl hP hD hS) (fun z => h2 (z) lsA H locs hl hP hD hS)
    | gt => exact lv_if_gt hx hb hd ht (fun z => h1 z lsA H locs hl hP hD hS) (fun z => h2 (z) lsA H locs hl hP hD hS)
    | le => exact lv_if_le hx hb hd ht (fun z => h1 z lsA H locs hl hP hD hS) (fun z => h2 (z) lsA H locs hl hP hD hS)
  | if_icmp cd off =>
    obtain ⟨rfl, x, y, r, t, rfl, ht, h1, h2⟩ := hz
    cases cd with
    | eq => exact lv_icmp_eq hx hb hd ht (fun z => h1 z lsA H locs hl hP hD hS) (fun z => h2 (z) lsA H locs hl hP hD hS)
    | ne => exact lv_icmp_ne hx hb hd ht (fun z => h1 z lsA H locs hl hP hD hS) (fun z => h2 (fun w => w z) lsA H locs hl hP hD hS)
    | lt => exact lv_icmp_lt hx hb hd ht (fun z => h1 z lsA H locs hl hP hD hS) (fun z => h2 (z) lsA H locs hl hP hD hS)
    | ge => exact lv_icmp_ge hx hb hd ht (fun z => h1 z lsA H locs hl hP hD hS) (fun z => h2 (z) lsA H locs hl hP hD hS)
    | gt => exact lv_icmp_gt hx hb hd ht (fun z => h1 z lsA H locs hl hP hD hS) (fun z => h2 (z) lsA H locs hl hP hD hS)
    | le => exact lv_icmp_le hx hb hd ht (fun z => h1 z lsA H locs hl hP hD hS) (fun z => h2 (z) lsA H locs hl hP hD hS)
  | tableswitch dflt lo hi offs =>
    obtain ⟨x, r, t, rfl, ht, h1, h2⟩ := hz
    by_cases h3 : x.toInt < lo
    · exact lv_tableOut hx hb hd (Or.inl h3) ht (h1 (Or.inl h3) lsA H locs hl hP hD hS)
    · by_cases h4 : hi < x.toInt
      · exact lv_tableOut hx hb hd (Or.inr h4) ht (h1 (Or.inr h4) lsA H locs hl hP hD hS)
      · obtain ⟨off, t2, h5, h6, h7⟩ := h2 h3 h4
        exact lv_tableIn hx hb hd h3 h4 h5 h6 (h7 lsA H locs hl hP hD hS)
  | getfield idx =>
    obtain ⟨rfl, a, r, ci, k, w, n, fs, rfl, hf, hU, h2⟩ := hz
    obtain ⟨pi, hok⟩ := zfG_ok hf
    unfold zfOk at hok
    dsimp only at hok
    split at hok
    · rename_i C T N hcl
      simp only [Bool.and_eq_true, decide_eq_true_eq] at hok
      obtain ⟨⟨hkN, hlink⟩, -⟩ := hok
      have he := zW_get (q := q) (cI := cI) (cZ := cZ) (σ := σ) hU
      have go : ∀ v : Value, ((fs.mapIdx fun j f => match f with
        | some r => Value.ref (q r)
        | none => Value.int (σ a j))[k]? = some v) → W p l e R s m args below meth c H locs cells slots Z (F0 m (pc + 3) lsA (v :: r.map (zc q))) → W p l e R s m args below meth c H locs cells slots Z (F0 m pc lsA (.ref (q a) :: r.map (zc q))) := by
        intro v hv kk
        cases n with
        | true =>
          rw [if_pos rfl] at hlink
          exact va_getN hx hb hts (zinX ci _ hcl) hown hK hP a he hcl k hkN (va_Nw.use rfl (hN _ (zTn_of (by simpa using hlink)) rfl)) (fun x h => h) hv hd kk
        | false =>
          rw [if_neg (by decide)] at hlink
          exact va_get hx hb hts (zinX ci _ hcl) hown hK hP a he hcl k hkN (hts _ (zTs_of hlink)) (fun x h => h) hv hd kk
      rcases h2 with ⟨b, h3, h4⟩ | ⟨h3, h4⟩
      · exact go (.ref (q b)) (by rw [List.getElem?_mapIdx, h3]; rfl) (h4 lsA H locs hl hP hD hS)
      · exact go (.int (σ a k)) (by rw [List.getElem?_mapIdx, h3]; rfl) (h4 lsA H locs hl hP hD hS)
    · cases hok
  | putfield idx =>
    obtain ⟨rfl, x, a, r, ci, k, fs, rfl, hf, hU, h3, h2⟩ := hz
    obtain ⟨pi, hok⟩ := zfG_ok hf
    unfold zfOk at hok
    dsimp only at hok
    split at hok
    · rename_i C T N hcl
      simp only [Bool.and_eq_true, decide_eq_true_eq, Bool.not_true, Bool.false_or] at hok
      obtain ⟨⟨hkN, hlink⟩, hI, hfin⟩ := hok
      rw [if_neg (by decide)] at hlink
      have he := zW_get (q := q) (cI := cI) (cZ := cZ) (σ := σ) hU
      obtain ⟨ty0, hty, hnm⟩ := zty ci _ hcl
      have e1 := zW_set (q := q) (cI := cI) (cZ := cZ) (σ' := zput σ a k x) hU (fun j hj => zput_off j hj)
      rw [zE_put_f h3] at e1
      refine va_put hx hb hts (zinX ci _ hcl) ty0 hty hnm hown hK hP hD hS a he hcl k hkN (hts _ (zTs_of hlink)) (fun x h => h) hfin (ty := .int) (by rw [hI]; decide +kernel) rfl rfl (by rw [List.length_mapIdx]; exact (List.getElem?_eq_some_iff.mp h3).1) hd (fun H1 locs1 hP1 hD1 hS1 => ?_)
      rw [show zc q (.int x) = .int x from rfl, e1] at hP1 hD1
      exact h2 lsA H1 locs1 hl hP1 hD1 hS1
    · cases hok
  | iaload =>
    obtain ⟨rfl, j, a, r, rfl, h2⟩ := hz
    rcases h2 with ⟨n, hU, hin, h3⟩ | ⟨L, xs, hU, hsc, hin, h3⟩
    · have he : (zW q cI cZ U σ)[a]? = some (q a, .inl (cI, n, .inl (σ a))) := zW_get hU
      exact va_iald hx hb hK hP a 0 he rfl hin hd (h3 lsA H locs hl hP hD hS)
    · obtain ⟨g1, g2, g3⟩ := hX _ _ _ hsc
      exact va_sld hx hb g1 g2 g3 hS hin hd (h3 lsA H locs hl hP hD hS)
  | baload =>
    obtain ⟨rfl, j, a, r, n, rfl, hU, hin, h3⟩ := hz
    have he : (zW q cI cZ U σ)[a]? = some (q a, .inl (cZ, n, .inl (σ a))) := zW_get hU
    exact va_zald hx hb hK hP a 1 he rfl hin hd (h3 lsA H locs hl hP hD hS)
  | iastore =>
    obtain ⟨rfl, x, j, a, r, n, rfl, hU, hin, h3⟩ := hz
    have he : (zW q cI cZ U σ)[a]? = some (q a, .inl (cI, n, .inl (σ a))) := zW_get hU
    have e1 := zW_set (q := q) (cI := cI) (cZ := cZ) (σ' := zput σ a j.toNatClampNeg x) hU (fun j hj => zput_off j hj)
    rw [zE_put_a] at e1
    refine va_iast hx hb hK hP hD hS a 0 he rfl hin hd (fun H1 locs1 hP1 hD1 hS1 => ?_)
    rw [show (zW q cI cZ U σ).set a (q a, .inl (cI, n, .inl (upd (σ a) j.toNatClampNeg x))) = zW q cI cZ U (zput σ a j.toNatClampNeg x) from e1] at hP1 hD1
    exact h3 lsA H1 locs1 hl hP1 hD1 hS1
  | bastore =>
    obtain ⟨rfl, x, j, a, r, n, rfl, hU, hin, h3⟩ := hz
    have he : (zW q cI cZ U σ)[a]? = some (q a, .inl (cZ, n, .inl (σ a))) := zW_get hU
    have e1 := zW_set (q := q) (cI := cI) (cZ := cZ) (σ' := zput σ a j.toNatClampNeg (vp_nar .boolean x)) hU (fun j hj => zput_off j hj)
    rw [zE_put_a] at e1
    refine va_zast hx hb hK hP hD hS a 1 he rfl hin hd (fun H1 locs1 hP1 hD1 hS1 => ?_)
    rw [show (zW q cI cZ U σ).set a (q a, .inl (cZ, n, .inl (upd (σ a) j.toNatClampNeg (vp_nar .boolean x)))) = zW q cI cZ U (zput σ a j.toNatClampNeg (vp_nar .boolean x)) from e1] at hP1 hD1
    exact h3 lsA H1 locs1 hl hP1 hD1 hS1
  | arraylength =>
    obtain ⟨rfl, a, r, rfl, h2⟩ := hz
    rcases h2 with ⟨b, n, hU, h3⟩ | ⟨L, xs, hU, hsc, h3⟩
    · cases b with
      | true =>
        have he : (zW q cI cZ U σ)[a]? = some (q a, .inl (cZ, n, .inl (σ a))) := zW_get hU
        exact va_alen hx hb hK hP a 1 he rfl rfl hd (h3 lsA H locs hl hP hD hS)
      | false =>
        have he : (zW q cI cZ U σ)[a]? = some (q a, .inl (cI, n, .inl (σ a))) := zW_get hU
        exact va_alen hx hb hK hP a 0 he rfl rfl hd (h3 lsA H locs hl hP hD hS)
    · obtain ⟨g1, g2, g3⟩ := hX _ _ _ hsc
      exact va_slen hx hb g1 g2 g3 hS hd (h3 lsA H locs hl hP hD hS)
  | ireturn =>
    obtain ⟨rfl, v, ty, rfl, h1, h2, h3⟩ := hz
    exact (E H locs pc lsA σ hP hD hS).1 v ty hd h1 h2 h3
  | lreturn =>
    obtain ⟨rfl, v, rfl, h1, h3⟩ := hz
    exact (E H locs pc lsA σ hP hD hS).2.1 v hd h1 h3
  | return_ =>
    obtain ⟨rfl, rfl, h1, h3⟩ := hz
    exact (E H locs pc lsA σ hP hD hS).2.2 hd h1 h3
  | invokevirtual idx =>
    obtain ⟨rfl, y, k, a, r, As, ci, fs, hm, hk, rfl, hU, hnm, hcat, hcall⟩ := hz
    obtain ⟨pi, hok⟩ := zmG_ok hm
    obtain ⟨cc', nL', ret', rm, hkG, r1, r2, r3, r4, hM⟩ := hC y _ σ _ hcall
    obtain ⟨hcw, hpl, hn16⟩ := zkG_ok hkG
    obtain ⟨x, hcl', hxn⟩ := zNames_at hnm
    have hrecv := va_recv hK hP hcl' (zW_get (q := q) (cI := cI) (cZ := cZ) (σ := σ) hU)
    rw [hxn] at hrecv
    have hpre : PreV s H y.cls (q a) (zPre D q cI cZ U (.ref a :: As) σ H.size) (As.map (zc q)) := ⟨zPre_blind, hrecv, zPre_of hP hD hK hN⟩
    have hst : (F0 m pc lsA ((As.reverse ++ Value.ref a :: r).map (zc q))).stack = (As.map (zc q)).reverse ++ .ref (q a) :: r.map (zc q) := by simp [zc]
    have hlast : ∀ (v : Option Value) (σ' : zV) (H1 : Heap) (locs1 : List Loc), (∀ (lsA : Array Slot) (H : Heap) (locs : List Loc), lv_has lsA nL (zl q 0 ls) → va_P D vwCl (zW q cI cZ U σ') H → va_D A (zW q cI cZ U σ') → va_S A s.heap H locs → W p l e R s m args below meth c H locs cells slots Z (F0 m (pc + 3) lsA ((v.toList ++ r).map (zc q)))) → va_P D vwCl (zW q cI cZ U σ') H1 → va_D A (zW q cI cZ U σ') → va_S A s.heap H1 locs1 → W p l e R s m args below meth c H1 locs1 cells slots Z (F0 m (pc + 3) lsA ((v.map (zc q)).toList ++ r.map (zc q))) := by
      intro v σ' H1 locs1 h hP1 hD1 hS1
      have h1 := h lsA H1 locs1 hl hP1 hD1 hS1
      cases v <;> exact h1
    unfold zmOk at hok
    dsimp only at hok
    simp only [Bool.and_eq_true, decide_eq_true_eq] at hok
    obtain ⟨⟨⟨hy1, hy2⟩, hpd, hini⟩, hok⟩ := hok
    have hini' := zTs_of hini
    match k, hk, hok with
    | 0, _, hok =>
      simp only [Bool.and_eq_true] at hok
      obtain ⟨⟨g1, g2⟩, g3⟩ := hok
      have hG : GoodIn zTs (wsV own idx y.cls y (.code y cc' nL' ret' :: zTs)) := zgoodA (zgoodL (by
        intro w hw
        simp only [List.mem_cons, List.not_mem_nil, or_false] at hw
        rcases hw with rfl | rfl | rfl | rfl
        · exact zTs_of g1
        · exact zTs_of g2
        · exact zTs_of g3
        · exact hini')) (zgood hcw)
      exact zback (va_runV (As := As.map (zc q)) (rest := r.map (zc q)) ⟨hx, hb, hml, hown, hts⟩ (hM H.size) (cwV As.length hts hG rfl r3 r4 ⟨rfl, hy1, hy2, hpd⟩ ⟨r1, r2⟩) hpre rfl (by simp) hl.1 hst (lv_room (zcat_q hcat)) hd ⟨hcl, hsl⟩) hD hS hA hlast
    | 1, _, hok =>
      simp only [Bool.and_eq_true] at hok
      obtain ⟨⟨g1, g2⟩, g3⟩ := hok
      exact zback (va_runVN (As := As.map (zc q)) (rest := r.map (zc q)) ⟨hx, hb, hml, hown, hts⟩ (hM H.size) ⟨va_cnB As.length hts (zgood hcw) rfl r3 r4 (hN _ (zTn_of g1) rfl) (hts _ hini') ⟨hy1, hy2, hpd⟩ ⟨r1, r2⟩, hts _ (zTs_of g2), hts _ (zTs_of g3)⟩ hpre rfl (by simp) hl.1 hst (lv_room (zcat_q hcat)) hd ⟨hcl, hsl⟩) hD hS hA hlast
  | invokestatic idx =>
    obtain ⟨rfl, h2⟩ := hz
    rcases h2 with ⟨y, r, As, hm, rfl, hcat, hcall⟩ | ⟨y, a, a0, n0, n1, sp, dp, n, r, hm, rfl, hcat, hU0, hU1, z1, z2, z3, z4, z5, h3⟩ | ⟨y, x1, x2, r, hm, rfl, hcat, h3⟩
    · obtain ⟨pi, hok⟩ := zmG_ok hm
      obtain ⟨cc', nL', ret', rm, hkG, r1, r2, r3, r4, hM⟩ := hC y _ σ _ hcall
      obtain ⟨hcw, hpl, hn16⟩ := zkG_ok hkG
      have hpre : PreS s H (zPre D q cI cZ U As σ H.size) (As.map (zc q)) := ⟨zPre_blind, zPre_of hP hD hK hN⟩
      have hst : (F0 m pc lsA ((As.reverse ++ r).map (zc q))).stack = (As.map (zc q)).reverse ++ r.map (zc q) := by simp
      have hlast : ∀ (v : Option Value) (σ' : zV) (H1 : Heap) (locs1 : List Loc), (∀ (lsA : Array Slot) (H : Heap) (locs : List Loc), lv_has lsA nL (zl q 0 ls) → va_P D vwCl (zW q cI cZ U σ') H → va_D A (zW q cI cZ U σ') → va_S A s.heap H locs → W p l e R s m args below meth c H locs cells slots Z (F0 m (pc + 3) lsA ((v.toList ++ r).map (zc q)))) → va_P D vwCl (zW q cI cZ U σ') H1 → va_D A (zW q cI cZ U σ') → va_S A s.heap H1 locs1 → W p l e R s m args below meth c H1 locs1 cells slots Z (F0 m (pc + 3) lsA ((v.map (zc q)).toList ++ r.map (zc q))) := by
        intro v σ' H1 locs1 h hP1 hD1 hS1
        have h1 := h lsA H1 locs1 hl hP1 hD1 hS1
        cases v <;> exact h1
      unfold zmOk at hok
      dsimp only at hok
      simp only [Bool.and_eq_true, decide_eq_true_eq] at hok
      obtain ⟨⟨⟨hy1, hy2⟩, hpd, hini⟩, g1, g2⟩ := hok
      have hini' := zTs_of hini
      have hG : GoodIn zTs (va_wsS own idx y (.code y cc' nL' ret' :: zTs)) := zgoodA (zgoodL (by
        intro w hw
        simp only [List.mem_cons, List.not_mem_nil, or_false] at hw
        rcases hw with rfl | rfl | rfl
        · exact zTs_of g1
        · exact zTs_of g2
        · exact hini')) (zgood hcw)
      exact zback (va_runS (As := As.map (zc q)) (rest := r.map (zc q)) ⟨hx, hb, hml, hown, hts⟩ (hM H.size) (va_cwS As.length hts hG rfl r3 r4 ⟨hy1, hy2, hpd⟩ ⟨r1, r2⟩) hpre rfl (by simp) hl.1 hst (lv_room (zcat_q hcat)) hd ⟨hcl, hsl⟩) hD hS hA hlast
    · obtain ⟨pi, hok⟩ := zmG_ok hm
      unfold zmOk at hok
      dsimp only at hok
      simp only [Bool.and_eq_true, decide_eq_true_eq] at hok
      obtain ⟨⟨⟨hy1, hy2⟩, hpd, hini⟩, ⟨⟨g0, g1⟩, g2⟩, g3⟩ := hok
      subst g0
      have he0 : (zW q cI cZ U σ)[a0]? = some (q a0, .inl (cI, n0, .inl (σ a0))) := zW_get hU0
      have he1 : (zW q cI cZ U σ)[a]? = some (q a, .inl (cI, n1, .inl (σ a))) := zW_get hU1
      have e1 := zW_set (q := q) (cI := cI) (cZ := cZ) (σ := σ) (σ' := va_up σ a (va_cpy (σ a0) (σ a) sp.toNatClampNeg dp.toNatClampNeg n.toNatClampNeg)) hU1 (fun j hj => by simp [va_up, hj])
      have e2 : zE q cI cZ (va_up σ a (va_cpy (σ a0) (σ a) sp.toNatClampNeg dp.toNatClampNeg n.toNatClampNeg)) a (.inl (false, n1)) = .inl (cI, n1, .inl (va_cpy (σ a0) (σ a) sp.toNatClampNeg dp.toNatClampNeg n.toNatClampNeg)) := by simp [zE, va_up]
      rw [e2] at e1
      have hroom : nativeFrameWords "java/lang/System" "arraycopy" 5 = 7 := by decide +kernel
      have hz8 : ((r.map (zc q)).map fun v => v.category).sum ≤ 8 := zcat_q hcat
      refine va_copyi hx hb (hml.trans hl.1.symm) hown (hts _ (zTs_of g1)) (hts _ (zTs_of g3)) (hts _ (zTs_of g2)) (hts _ (zTs_of hini)) hK hP hD hS a0 a 0 0 he0 he1 rfl rfl rfl z1 z2 z3 z4 z5 (fun _ _ => rfl) hfr (by rw [hroom]; omega) hd (fun H1 locs1 hP1 hD1 hS1 => ?_)
      rw [e1] at hP1 hD1
      exact h3 lsA H1 locs1 hl hP1 hD1 hS1
    · obtain ⟨pi, hok⟩ := zmG_ok hm
      unfold zmOk at hok
      dsimp only at hok
      simp only [Bool.and_eq_true, decide_eq_true_eq] at hok
      obtain ⟨⟨⟨hy1, hy2⟩, hpd, hini⟩, ⟨⟨g0, g1⟩, g2⟩, g3⟩ := hok
      subst g0
      have hz8 : ((r.map (zc q)).map fun v => v.category).sum ≤ 8 := zcat_q hcat
      exact va_mmax hx hb (hml.trans hl.1.symm) hown (hts _ (zTs_of g1)) (hts _ (zTs_of g2)) (hts _ (zTs_of hini)) (hts _ (zTs_of g3)) hfr (by omega) hcl hsl hd (h3 lsA H locs hl hP hD hS)
  | _ => exact False.elim hz
end ZS
/-- a method's call, as a contract -/
def zRm (d : Nat) : Room := { frames := d, cells := 0, slots := 0, locals := 36 * d }
set_option maxHeartbeats 4000000 in
theorem zmet (l : Launch) (D : va_G) (q : Nat → Nat) (cI cZ : ClassId) (U : zU) (d : Nat) : ∀ y as σ Q, zCall U d y as σ Q → ∃ cc nL ret, zkG y = some (cc, nL, ret) ∧ nL ≤ 16 ∧ ∀ sz, Met l y (.code y cc nL ret :: zTs) (zRm d) (zPre D q cI cZ U as σ sz) (zPost D q cI cZ U Q (va_A (zW q cI cZ U σ) sz)) 0 0 (va_A (zW q cI cZ U σ) sz) := by
  induction d with
  | zero => intro y as σ Q h; exact False.elim h
  | succ d ih =>
    intro y as σ Q h
    obtain ⟨cc, nL, ret, hk, hlen, hEv⟩ := h
    obtain ⟨hcw, hpl, hn16⟩ := zkG_ok hk
    refine ⟨cc, nL, ret, hk, hn16, fun sz => ?_⟩
    refine Met.ofW (cc := cc) (maxL := nL) (ret := ret) hpl rfl ?_
    intro p e s m args below meth c s₁ B hml hv
    obtain ⟨rfl, hsz, hP, hK, hD0, hN⟩ := hv
    have hts := atoms_spec (ws := .code y cc nL ret :: zTs) B.pre
    have hown : s.vm.findClass y.cls = some m.cls := findClass_of_methodNamed B.named
    subst hsz
    have hD := hD0.self (sz := s.heap.size)
    generalize hAe : va_A (zW q cI cZ U σ) s.heap.size = A at hD ⊢
    have hA : ∀ q : Nat, s.heap.size ≤ q → A q := fun q h => by rw [← hAe]; exact Or.inr h
    have hl := lv_entry (as.map (zc q)) (n := nL) (by rw [zia_len]; exact hlen)
    rw [lg_entry_eq]
    generalize (lg_sl (as.map (zc q)) ++ List.replicate (nL - (lg_sl (as.map (zc q))).length) Slot.unset).toArray = ls at hl ⊢
    have F : zFix p l (zRm (d + 1)) s m (as.map (zc q)).toArray c 0 0 cc nL y.cls D q cI cZ A U none (zCall U d) := by
      refine ⟨B.exec, B.bytes, hml, hown, fun w hw => hts w (List.mem_cons_of_mem _ hw), hN, hK, hA, Nat.le_refl _, Nat.le_refl _, ?_, ?_, ?_, fun k L xs h => by cases h⟩
      · show 1 ≤ d + 1
        omega
      · show 36 ≤ 36 * (d + 1)
        omega
      · intro y' as' σ' Q' h'
        obtain ⟨cc', nL', ret', g1, g2, g3⟩ := ih y' as' σ' Q' h'
        refine ⟨cc', nL', ret', zRm d, g1, Nat.le_refl _, ?_, rfl, rfl, g3⟩
        show 8 + (nL' + 11) + 36 * d ≤ 36 * (d + 1)
        omega
    have E : zEnd p l e (zRm (d + 1)) s m (as.map (zc q)).toArray below meth c 0 0 (MQ below (zPost D q cI cZ U Q A) (as.map (zc q)).toArray s 0 0 A) cc ret D q cI cZ A U Q := by
      intro H locs pc lsA σ' hP' hD' hS'
      have hlocks := B.notSynchronized
      refine ⟨fun v ty hd h1 h2 h3 => ?_, fun v hd h1 h3 => ?_, fun hd h1 h3 => ?_⟩
      · exact W.zret B.exec B.bytes (by rw [B.returns]; exact h1) h2 (fun t ht hW => ⟨⟨some (.int v), σ', rfl, h3, by rw [ht]; exact hP', hD'⟩, hS'.F ht⟩) hS'.2.2 hd
      · exact W.lret B.exec B.bytes (by rw [B.returns]; exact h1) (fun t ht hW => ⟨⟨some (.long v), σ', rfl, h3, by rw [ht]; exact hP', hD'⟩, hS'.F ht⟩) hS'.2.2 hd
      · exact W.vret B.exec B.bytes (by rw [B.returns]; exact h1) (fun t ht hW => ⟨⟨none, σ', rfl, h3, by rw [ht]; exact hP', hD'⟩, hS'.F ht⟩) hS'.2.2 hd
    exact zsound F E 0 (zin nL as) [] σ hEv ls s.heap [] (zin_has hl) hP hD va_S.rf
end
section
/-! one instruction as an equation -/
section ZQ
variable {U : zU} {call : zC} {own : String} {cc : ByteArray} {nL : Nat} {ret : Option FieldType} {scr : zS} {Q : zQ} {pc : Nat} {ls st r : List Value} {σ : zV}
theorem zEv_step (hc : zMono call) {i : Instr} {len : Nat} (hd : decode cc pc = .ok (i, len)) : zEv U call own cc nL ret scr Q pc ls st σ = zstep U call own nL ret scr Q (zEv U call own cc nL ret scr Q) i len pc ls st σ := by
  rw [zEv_eq hc]
  exact propext ⟨fun ⟨i', len', h1, h2⟩ => by rw [hd] at h1; cases h1; exact h2, fun h => ⟨_, _, hd, h⟩⟩
theorem q_iload_n (hc : zMono call) {k : Fin 4} {x : Int32} (hd : decode cc pc = .ok (.iload_n k, 1)) (h : ls[(k : Nat)]? = some (.int x)) : zEv U call own cc nL ret scr Q pc ls st σ = zEv U call own cc nL ret scr Q (pc + 1) ls (.int x :: st) σ := by
  rw [zEv_step hc hd]
  exact propext ⟨fun ⟨_, x', h1, h2⟩ => by rw [h] at h1; cases h1; exact h2, fun g => ⟨rfl, x, h, g⟩⟩
theorem q_iload (hc : zMono call) {k : Nat} {x : Int32} (hd : decode cc pc = .ok (.iload k, 2)) (h : ls[k]? = some (.int x)) : zEv U call own cc nL ret scr Q pc ls st σ = zEv U call own cc nL ret scr Q (pc + 2) ls (.int x :: st) σ := by
  rw [zEv_step hc hd]
  exact propext ⟨fun ⟨_, x', h1, h2⟩ => by rw [h] at h1; cases h1; exact h2, fun g => ⟨rfl, x, h, g⟩⟩
theorem q_lload_n (hc : zMono call) {k : Fin 4} {x : Int64} (hd : decode cc pc = .ok (.lload_n k, 1)) (h : ls[(k : Nat)]? = some (.long x)) : zEv U call own cc nL ret scr Q pc ls st σ = zEv U call own cc nL ret scr Q (pc + 1) ls (.long x :: st) σ := by
  rw [zEv_step hc hd]
  exact propext ⟨fun ⟨_, x', h1, h2⟩ => by rw [h] at h1; cases h1; exact h2, fun g => ⟨rfl, x, h, g⟩⟩
theorem q_lload (hc : zMono call) {k : Nat} {x : Int64} (hd : decode cc pc = .ok (.lload k, 2)) (h : ls[k]? = some (.long x)) : zEv U call own cc nL ret scr Q pc ls st σ = zEv U call own cc nL ret scr Q (pc + 2) ls (.long x :: st) σ := by
  rw [zEv_step hc hd]
  exact propext ⟨fun ⟨_, x', h1, h2⟩ => by rw [h] at h1; cases h1; exact h2, fun g => ⟨rfl, x, h, g⟩⟩
theorem q_aload_n (hc : zMono call) {k : Fin 4} {x : Nat} (hd : decode cc pc = .ok (.aload_n k, 1)) (h : ls[(k : Nat)]? = some (.ref x)) : zEv U call own cc nL ret scr Q pc ls st σ = zEv U call own cc nL ret scr Q (pc + 1) ls (.ref x :: st) σ := by
  rw [zEv_step hc hd]
  exact propext ⟨fun ⟨_, x', h1, h2⟩ => by rw [h] at h1; cases h1; exact h2, fun g => ⟨rfl, x, h, g⟩⟩
theorem q_istore_n (hc : zMono call) {k : Fin 4} {x : Int32} {ls' : List Value} (hd : decode cc pc = .ok (.istore_n k, 1)) (hn : (k : Nat) < nL) (hk : zok1 ls k) (hl : ls.set k (.int x) = ls') : zEv U call own cc nL ret scr Q pc ls (.int x :: r) σ = zEv U call own cc nL ret scr Q (pc + 1) ls' r σ := by
  rw [zEv_step hc hd, ← hl]
  exact propext ⟨fun ⟨_, x', r', h1, _, _, h2⟩ => by cases h1; exact h2, fun g => ⟨rfl, x, r, rfl, hn, hk, g⟩⟩
theorem q_istore (hc : zMono call) {k : Nat} {x : Int32} {ls' : List Value} (hd : decode cc pc = .ok (.istore k, 2)) (hn : k < nL) (hk : zok1 ls k) (hl : ls.set k (.int x) = ls') : zEv U call own cc nL ret scr Q pc ls (.int x :: r) σ = zEv U call own cc nL ret scr Q (pc + 2) ls' r σ := by
  rw [zEv_step hc hd, ← hl]
  exact propext ⟨fun ⟨_, x', r', h1, _, _, h2⟩ => by cases h1; exact h2, fun g => ⟨rfl, x, r, rfl, hn, hk, g⟩⟩
theorem q_lstore_n (hc : zMono call) {k : Fin 4} {x : Int64} {ls' : List Value} (hd : decode cc pc = .ok (.lstore_n k, 1)) (hn : (k : Nat) + 1 < nL) (hk : zok1 ls k) (hl : (ls.set k (.long x)).set (k + 1) .null = ls') : zEv U call own cc nL ret scr Q pc ls (.long x :: r) σ = zEv U call own cc nL ret scr Q (pc + 1) ls' r σ := by
  rw [zEv_step hc hd, ← hl]
  exact propext ⟨fun ⟨_, x', r', h1, _, _, h2⟩ => by cases h1; exact h2, fun g => ⟨rfl, x, r, rfl, hn, hk, g⟩⟩
theorem q_lstore (hc : zMono call) {k : Nat} {x : Int64} {ls' : List Value} (hd : decode cc pc = .ok (.lstore k, 2)) (hn : k + 1 < nL) (hk : zok1 ls k) (hl : (ls.set k (.long x)).set (k + 1) .null = ls') : zEv U call own cc nL ret scr Q pc ls (.long x :: r) σ = zEv U call own cc nL ret scr Q (pc + 2) ls' r σ := by
  rw [zEv_step hc hd, ← hl]
  exact propext ⟨fun ⟨_, x', r', h1, _, _, h2⟩ => by cases h1; exact h2, fun g => ⟨rfl, x, r, rfl, hn, hk, g⟩⟩
theorem q_iinc (hc : zMono call) {k : Nat} {n : Int} {x v : Int32} {ls' : List Value} (hd : decode cc pc = .ok (.iinc k n, 3)) (h : ls[k]? = some (.int x)) (hn : k < nL) (hk : zok1 ls k) (hv : Int32.ofInt n = v) (hl : ls.set k (.int (x + v)) = ls') : zEv U call own cc nL ret scr Q pc ls st σ = zEv U call own cc nL ret scr Q (pc + 3) ls' st σ := by
  rw [zEv_step hc hd, ← hl, ← hv]
  exact propext ⟨fun ⟨_, x', h1, _, _, h2⟩ => by rw [h] at h1; cases h1; exact h2, fun g => ⟨rfl, x, h, hn, hk, g⟩⟩
theorem q_iconst (hc : zMono call) {n : Int} {v : Int32} (hd : decode cc pc = .ok (.iconst n, 1)) (hv : Int32.ofInt n = v) : zEv U call own cc nL ret scr Q pc ls st σ = zEv U call own cc nL ret scr Q (pc + 1) ls (.int v :: st) σ := by
  rw [zEv_step hc hd, ← hv]
  exact propext ⟨fun h => h.2, fun g => ⟨rfl, g⟩⟩
theorem q_bipush (hc : zMono call) {n : Int} {v : Int32} (hd : decode cc pc = .ok (.bipush n, 2)) (hv : (Int8.ofInt n).toInt32 = v) : zEv U call own cc nL ret scr Q pc ls st σ = zEv U call own cc nL ret scr Q (pc + 2) ls (.int v :: st) σ := by
  rw [zEv_step hc hd, ← hv]
  exact propext ⟨fun h => h.2, fun g => ⟨rfl, g⟩⟩
theorem q_sipush (hc : zMono call) {n : Int} {v : Int32} (hd : decode cc pc = .ok (.sipush n, 3)) (hv : (Int16.ofInt n).toInt32 = v) : zEv U call own cc nL ret scr Q pc ls st σ = zEv U call own cc nL ret scr Q (pc + 3) ls (.int v :: st) σ := by
  rw [zEv_step hc hd, ← hv]
  exact propext ⟨fun h => h.2, fun g => ⟨rfl, g⟩⟩
theorem q_ldc_w (hc : zMono call) {idx : Nat} {v : Int32} (hd : decode cc pc = .ok (.ldc_w idx, 3)) (hv : zcG own idx = some v) : zEv U call own cc nL ret scr Q pc ls st σ = zEv U call own cc nL ret scr Q (pc + 3) ls (.int v :: st) σ := by
  rw [zEv_step hc hd]
  exact propext ⟨fun ⟨_, v', h1, h2⟩ => by rw [hv] at h1; cases h1; exact h2, fun g => ⟨rfl, v, hv, g⟩⟩
theorem q_ldc2_w (hc : zMono call) {idx : Nat} {v : Int64} (hd : decode cc pc = .ok (.ldc2_w idx, 3)) (hv : zlG own idx = some v) : zEv U call own cc nL ret scr Q pc ls st σ = zEv U call own cc nL ret scr Q (pc + 3) ls (.long v :: st) σ := by
  rw [zEv_step hc hd]
  exact propext ⟨fun ⟨_, v', h1, h2⟩ => by rw [hv] at h1; cases h1; exact h2, fun g => ⟨rfl, v, hv, g⟩⟩
theorem q_iadd (hc : zMono call) {x y : Int32} (hd : decode cc pc = .ok (.iadd, 1)) : zEv U call own cc nL ret scr Q pc ls (.int y :: .int x :: r) σ = zEv U call own cc nL ret scr Q (pc + 1) ls (.int (x + y) :: r) σ := by
  rw [zEv_step hc hd]
  exact propext ⟨fun ⟨_, x', y', r', h1, h2⟩ => by cases h1; exact h2, fun g => ⟨rfl, x, y, r, rfl, g⟩⟩
theorem q_isub (hc : zMono call) {x y : Int32} (hd : decode cc pc = .ok (.isub, 1)) : zEv U call own cc nL ret scr Q pc ls (.int y :: .int x :: r) σ = zEv U call own cc nL ret scr Q (pc + 1) ls (.int (x - y) :: r) σ := by
  rw [zEv_step hc hd]
  exact propext ⟨fun ⟨_, x', y', r', h1, h2⟩ => by cases h1; exact h2, fun g => ⟨rfl, x, y, r, rfl, g⟩⟩
theorem q_imul (hc : zMono call) {x y : Int32} (hd : decode cc pc = .ok (.imul, 1)) : zEv U call own cc nL ret scr Q pc ls (.int y :: .int x :: r) σ = zEv U call own cc nL ret scr Q (pc + 1) ls (.int (x * y) :: r) σ := by
  rw [zEv_step hc hd]
  exact propext ⟨fun ⟨_, x', y', r', h1, h2⟩ => by cases h1; exact h2, fun g => ⟨rfl, x, y, r, rfl, g⟩⟩
theorem q_iand (hc : zMono call) {x y : Int32} (hd : decode cc pc = .ok (.iand, 1)) : zEv U call own cc nL ret scr Q pc ls (.int y :: .int x :: r) σ = zEv U call own cc nL ret scr Q (pc + 1) ls (.int (x &&& y) :: r) σ := by
  rw [zEv_step hc hd]
  exact propext ⟨fun ⟨_, x', y', r', h1, h2⟩ => by cases h1; exact h2, fun g => ⟨rfl, x, y, r, rfl, g⟩⟩
theorem q_ior (hc : zMono call) {x y : Int32} (hd : decode cc pc = .ok (.ior, 1)) : zEv U call own cc nL ret scr Q pc ls (.int y :: .int x :: r) σ = zEv U call own cc nL ret scr Q (pc + 1) ls (.int (x ||| y) :: r) σ := by
  rw [zEv_step hc hd]
  exact propext ⟨fun ⟨_, x', y', r', h1, h2⟩ => by cases h1; exact h2, fun g => ⟨rfl, x, y, r, rfl, g⟩⟩
theorem q_ixor (hc : zMono call) {x y : Int32} (hd : decode cc pc = .ok (.ixor, 1)) : zEv U call own cc nL ret scr Q pc ls (.int y :: .int x :: r) σ = zEv U call own cc nL ret scr Q (pc + 1) ls (.int (x ^^^ y) :: r) σ := by
  rw [zEv_step hc hd]
  exact propext ⟨fun ⟨_, x', y', r', h1, h2⟩ => by cases h1; exact h2, fun g => ⟨rfl, x, y, r, rfl, g⟩⟩
theorem q_ishl (hc : zMono call) {x y : Int32} (hd : decode cc pc = .ok (.ishl, 1)) : zEv U call own cc nL ret scr Q pc ls (.int y :: .int x :: r) σ = zEv U call own cc nL ret scr Q (pc + 1) ls (.int (x <<< (y &&& 31)) :: r) σ := by
  rw [zEv_step hc hd]
  exact propext ⟨fun ⟨_, x', y', r', h1, h2⟩ => by cases h1; exact h2, fun g => ⟨rfl, x, y, r, rfl, g⟩⟩
theorem q_iushr (hc : zMono call) {x y : Int32} (hd : decode cc pc = .ok (.iushr, 1)) : zEv U call own cc nL ret scr Q pc ls (.int y :: .int x :: r) σ = zEv U call own cc nL ret scr Q (pc + 1) ls (.int (x.toUInt32 >>> (y.toUInt32 &&& Int32.toUInt32 31)).toInt32 :: r) σ := by
  rw [zEv_step hc hd]
  exact propext ⟨fun ⟨_, x', y', r', h1, h2⟩ => by cases h1; exact h2, fun g => ⟨rfl, x, y, r, rfl, g⟩⟩
theorem q_ladd (hc : zMono call) {x y : Int64} (hd : decode cc pc = .ok (.ladd, 1)) : zEv U call own cc nL ret scr Q pc ls (.long y :: .long x :: r) σ = zEv U call own cc nL ret scr Q (pc + 1) ls (.long (x + y) :: r) σ := by
  rw [zEv_step hc hd]
  exact propext ⟨fun ⟨_, x', y', r', h1, h2⟩ => by cases h1; exact h2, fun g => ⟨rfl, x, y, r, rfl, g⟩⟩
theorem q_lmul (hc : zMono call) {x y : Int64} (hd : decode cc pc = .ok (.lmul, 1)) : zEv U call own cc nL ret scr Q pc ls (.long y :: .long x :: r) σ = zEv U call own cc nL ret scr Q (pc + 1) ls (.long (x * y) :: r) σ := by
  rw [zEv_step hc hd]
  exact propext ⟨fun ⟨_, x', y', r', h1, h2⟩ => by cases h1; exact h2, fun g => ⟨rfl, x, y, r, rfl, g⟩⟩
theorem q_lcmp (hc : zMono call) {x y : Int64} (hd : decode cc pc = .ok (.lcmp, 1)) : zEv U call own cc nL ret scr Q pc ls (.long y :: .long x :: r) σ = zEv U call own cc nL ret scr Q (pc + 1) ls (.int (lg_cmp x y) :: r) σ := by
  rw [zEv_step hc hd]
  exact propext ⟨fun ⟨_, x', y', r', h1, h2⟩ => by cases h1; exact h2, fun g => ⟨rfl, x, y, r, rfl, g⟩⟩
theorem q_i2l (hc : zMono call) {x : Int32} (hd : decode cc pc = .ok (.i2l, 1)) : zEv U call own cc nL ret scr Q pc ls (.int x :: r) σ = zEv U call own cc nL ret scr Q (pc + 1) ls (.long x.toInt64 :: r) σ := by
  rw [zEv_step hc hd]
  exact propext ⟨fun ⟨_, x', r', h1, h2⟩ => by cases h1; exact h2, fun g => ⟨rfl, x, r, rfl, g⟩⟩
theorem q_dup (hc : zMono call) {v : Value} (hd : decode cc pc = .ok (.dup, 1)) (hv : v.category = 1) : zEv U call own cc nL ret scr Q pc ls (v :: r) σ = zEv U call own cc nL ret scr Q (pc + 1) ls (v :: v :: r) σ := by
  rw [zEv_step hc hd]
  exact propext ⟨fun ⟨_, x', r', h1, _, h2⟩ => by cases h1; exact h2, fun g => ⟨rfl, v, r, rfl, hv, g⟩⟩
theorem q_dup2 (hc : zMono call) {v w : Value} (hd : decode cc pc = .ok (.dup2, 1)) (hv : v.category = 1) (hw : w.category = 1) : zEv U call own cc nL ret scr Q pc ls (v :: w :: r) σ = zEv U call own cc nL ret scr Q (pc + 1) ls (v :: w :: v :: w :: r) σ := by
  rw [zEv_step hc hd]
  exact propext ⟨fun ⟨_, x', y', r', h1, _, _, h2⟩ => by cases h1; exact h2, fun g => ⟨rfl, v, w, r, rfl, hv, hw, g⟩⟩
theorem q_pop (hc : zMono call) {v : Value} (hd : decode cc pc = .ok (.pop, 1)) (hv : v.category = 1) : zEv U call own cc nL ret scr Q pc ls (v :: r) σ = zEv U call own cc nL ret scr Q (pc + 1) ls r σ := by
  rw [zEv_step hc hd]
  exact propext ⟨fun ⟨_, x', r', h1, _, h2⟩ => by cases h1; exact h2, fun g => ⟨rfl, v, r, rfl, hv, g⟩⟩
theorem q_goto (hc : zMono call) {off : Int} {t : Nat} (hd : decode cc pc = .ok (.goto off, 3)) (ht : (pc : Int) + off = (t : Int)) : zEv U call own cc nL ret scr Q pc ls st σ = zEv U call own cc nL ret scr Q t ls st σ := by
  rw [zEv_step hc hd]
  exact propext ⟨fun ⟨_, t', h1, h2⟩ => by rw [ht] at h1; cases h1; exact h2, fun g => ⟨rfl, t, ht, g⟩⟩
theorem q_if (hc : zMono call) {cd : Jvm.ClassFile.Cond} {off : Int} {t : Nat} {x : Int32} (hd : decode cc pc = .ok (.ifCond cd off, 3)) (ht : (pc : Int) + off = (t : Int)) : zEv U call own cc nL ret scr Q pc ls (.int x :: r) σ = ((zif cd x 0 → zEv U call own cc nL ret scr Q t ls r σ) ∧ (¬ zif cd x 0 → zEv U call own cc nL ret scr Q (pc + 3) ls r σ)) := by
  rw [zEv_step hc hd]
  exact propext ⟨fun ⟨_, x', r', t', h1, h2, h3, h4⟩ => by rw [ht] at h2; cases h2; cases h1; exact ⟨h3, h4⟩, fun g => ⟨rfl, x, r, t, rfl, ht, g.1, g.2⟩⟩
theorem q_icmp (hc : zMono call) {cd : Jvm.ClassFile.Cond} {off : Int} {t : Nat} {x y : Int32} (hd : decode cc pc = .ok (.if_icmp cd off, 3)) (ht : (pc : Int) + off = (t : Int)) : zEv U call own cc nL ret scr Q pc ls (.int y :: .int x :: r) σ = ((zif cd x y → zEv U call own cc nL ret scr Q t ls r σ) ∧ (¬ zif cd x y → zEv U call own cc nL ret scr Q (pc + 3) ls r σ)) := by
  rw [zEv_step hc hd]
  exact propext ⟨fun ⟨_, x', y', r', t', h1, h2, h3, h4⟩ => by rw [ht] at h2; cases h2; cases h1; exact ⟨h3, h4⟩, fun g => ⟨rfl, x, y, r, t, rfl, ht, g.1, g.2⟩⟩
theorem q_getI (hc : zMono call) {idx a ci k : Nat} {w n : Bool} {fs : List (Option Nat)} (hd : decode cc pc = .ok (.getfield idx, 3)) (hf : zfG own idx = some (ci, k, w, n)) (hU : U[a]? = some (.inr (ci, fs))) (hk : fs[k]? = some none) : zEv U call own cc nL ret scr Q pc ls (.ref a :: r) σ = zEv U call own cc nL ret scr Q (pc + 3) ls (.int (σ a k) :: r) σ := by
  rw [zEv_step hc hd]
  refine propext ⟨fun ⟨_, a', r', ci', k', w', n', fs', h1, h2, h3, h4⟩ => ?_, fun g => ⟨rfl, a, r, ci, k, w, n, fs, rfl, hf, hU, Or.inr ⟨hk, g⟩⟩⟩
  cases h1
  rw [hf] at h2; cases h2
  rw [hU] at h3; cases h3
  rcases h4 with ⟨b, h5, h6⟩ | ⟨h5, h6⟩
  · rw [hk] at h5; cases h5
  · exact h6
theorem q_getR (hc : zMono call) {idx a ci k b : Nat} {w n : Bool} {fs : List (Option Nat)} (hd : decode cc pc = .ok (.getfield idx, 3)) (hf : zfG own idx = some (ci, k, w, n)) (hU : U[a]? = some (.inr (ci, fs))) (hk : fs[k]? = some (some b)) : zEv U call own cc nL ret scr Q pc ls (.ref a :: r) σ = zEv U call own cc nL ret scr Q (pc + 3) ls (.ref b :: r) σ := by
  rw [zEv_step hc hd]
  refine propext ⟨fun ⟨_, a', r', ci', k', w', n', fs', h1, h2, h3, h4⟩ => ?_, fun g => ⟨rfl, a, r, ci, k, w, n, fs, rfl, hf, hU, Or.inl ⟨b, hk, g⟩⟩⟩
  cases h1
  rw [hf] at h2; cases h2
  rw [hU] at h3; cases h3
  rcases h4 with ⟨b, h5, h6⟩ | ⟨h5, h6⟩
  · rw [hk] at h5; cases h5; exact h6
  · rw [hk] at h5; cases h5
theorem q_put (hc : zMono call) {idx a ci k : Nat} {x : Int32} {fs : List (Option Nat)} (hd : decode cc pc = .ok (.putfield idx, 3)) (hf : zfG own idx = some (ci, k, true, false)) (hU : U[a]? = some (.inr (ci, fs))) (hk : fs[k]? = some none) : zEv U call own cc nL ret scr Q pc ls (.int x :: .ref a :: r) σ = zEv U call own cc nL ret scr Q (pc + 3) ls r (zput σ a k x) := by
  rw [zEv_step hc hd]
  refine propext ⟨fun ⟨_, x', a', r', ci', k', fs', h1, h2, h3, h4, h5⟩ => ?_, fun g => ⟨rfl, x, a, r, ci, k, fs, rfl, hf, hU, hk, g⟩⟩
  cases h1
  rw [hf] at h2; cases h2
  exact h5
theorem q_iald (hc : zMono call) {a n : Nat} {j : Int32} (hd : decode cc pc = .ok (.iaload, 1)) (hU : U[a]? = some (.inl (false, n))) : zEv U call own cc nL ret scr Q pc ls (.int j :: .ref a :: r) σ = (vp_in j n ∧ zEv U call own cc nL ret scr Q (pc + 1) ls (.int (σ a j.toNatClampNeg) :: r) σ) := by
  rw [zEv_step hc hd]
  refine propext ⟨fun ⟨_, j', a', r', h1, h2⟩ => ?_, fun g => ⟨rfl, j, a, r, rfl, Or.inl ⟨n, hU, g⟩⟩⟩
  cases h1
  rcases h2 with ⟨n', h3, h4⟩ | ⟨L, xs, h3, h4⟩
  · rw [hU] at h3; cases h3; exact h4
  · rw [hU] at h3; cases h3
theorem q_bald (hc : zMono call) {a n : Nat} {j : Int32} (hd : decode cc pc = .ok (.baload, 1)) (hU : U[a]? = some (.inl (true, n))) : zEv U call own cc nL ret scr Q pc ls (.int j :: .ref a :: r) σ = (vp_in j n ∧ zEv U call own cc nL ret scr Q (pc + 1) ls (.int (σ a j.toNatClampNeg) :: r) σ) := by
  rw [zEv_step hc hd]
  refine propext ⟨fun ⟨_, j', a', r', n', h1, h2, h3, h4⟩ => ?_, fun g => ⟨rfl, j, a, r, n, rfl, hU, g.1, g.2⟩⟩
  cases h1
  rw [hU] at h2; cases h2; exact ⟨h3, h4⟩
theorem q_iast (hc : zMono call) {a n : Nat} {j x : Int32} (hd : decode cc pc = .ok (.iastore, 1)) (hU : U[a]? = some (.inl (false, n))) : zEv U call own cc nL ret scr Q pc ls (.int x :: .int j :: .ref a :: r) σ = (vp_in j n ∧ zEv U call own cc nL ret scr Q (pc + 1) ls r (zput σ a j.toNatClampNeg x)) := by
  rw [zEv_step hc hd]
  refine propext ⟨fun ⟨_, x', j', a', r', n', h1, h2, h3, h4⟩ => ?_, fun g => ⟨rfl, x, j, a, r, n, rfl, hU, g.1, g.2⟩⟩
  cases h1
  rw [hU] at h2; cases h2; exact ⟨h3, h4⟩
theorem q_bast (hc : zMono call) {a n : Nat} {j x : Int32} (hd : decode cc pc = .ok (.bastore, 1)) (hU : U[a]? = some (.inl (true, n))) : zEv U call own cc nL ret scr Q pc ls (.int x :: .int j :: .ref a :: r) σ = (vp_in j n ∧ zEv U call own cc nL ret scr Q (pc + 1) ls r (zput σ a j.toNatClampNeg (vp_nar .boolean x))) := by
  rw [zEv_step hc hd]
  refine propext ⟨fun ⟨_, x', j', a', r', n', h1, h2, h3, h4⟩ => ?_, fun g => ⟨rfl, x, j, a, r, n, rfl, hU, g.1, g.2⟩⟩
  cases h1
  rw [hU] at h2; cases h2; exact ⟨h3, h4⟩
theorem q_alen (hc : zMono call) {a n : Nat} {b : Bool} (hd : decode cc pc = .ok (.arraylength, 1)) (hU : U[a]? = some (.inl (b, n))) : zEv U call own cc nL ret scr Q pc ls (.ref a :: r) σ = zEv U call own cc nL ret scr Q (pc + 1) ls (.int (nI n) :: r) σ := by
  rw [zEv_step hc hd]
  refine propext ⟨fun ⟨_, a', r', h1, h2⟩ => ?_, fun g => ⟨rfl, a, r, rfl, Or.inl ⟨b, n, hU, g⟩⟩⟩
  cases h1
  rcases h2 with ⟨b', n', h3, h4⟩ | ⟨L, xs, h3, h4⟩
  · rw [hU] at h3; cases h3; exact h4
  · rw [hU] at h3; cases h3
theorem q_iret (hc : zMono call) {v : Int32} (hd : decode cc pc = .ok (.ireturn, 1)) (hr : ret = some .int) : zEv U call own cc nL ret scr Q pc ls [.int v] σ = Q (some (.int v)) σ := by
  rw [zEv_step hc hd]
  exact propext ⟨fun ⟨_, v', ty, h1, _, _, h2⟩ => by cases h1; exact h2, fun g => ⟨rfl, v, .int, rfl, hr, rfl, g⟩⟩
theorem q_zret (hc : zMono call) {v : Int32} (hd : decode cc pc = .ok (.ireturn, 1)) (hr : ret = some .boolean) : zEv U call own cc nL ret scr Q pc ls [.int v] σ = (narrow .boolean (.int v) = .int v ∧ Q (some (.int v)) σ) := by
  rw [zEv_step hc hd]
  exact propext ⟨fun ⟨_, v', ty, h1, h3, h4, h2⟩ => by cases h1; rw [hr] at h3; cases h3; exact ⟨h4, h2⟩, fun g => ⟨rfl, v, .boolean, rfl, hr, g.1, g.2⟩⟩
theorem q_lret (hc : zMono call) {v : Int64} (hd : decode cc pc = .ok (.lreturn, 1)) (hr : ret = some .long) : zEv U call own cc nL ret scr Q pc ls [.long v] σ = Q (some (.long v)) σ := by
  rw [zEv_step hc hd]
  exact propext ⟨fun ⟨_, v', h1, _, h2⟩ => by cases h1; exact h2, fun g => ⟨rfl, v, rfl, hr, g⟩⟩
theorem q_vret (hc : zMono call) (hd : decode cc pc = .ok (.return_, 1)) (hr : ret = none) : zEv U call own cc nL ret scr Q pc ls [] σ = Q none σ := by
  rw [zEv_step hc hd]
  exact propext ⟨fun h => h.2.2.2, fun g => ⟨rfl, rfl, hr, g⟩⟩
theorem q_inv (hc : zMono call) {idx k a ci : Nat} {y : MethodName} {As : List Value} {fs : List (Option Nat)} {st' : List Value} (hd : decode cc pc = .ok (.invokevirtual idx, 3)) (hm : zmG own idx = some (y, As.length, k)) (hk : k < 2) (hU : U[a]? = some (.inr (ci, fs))) (hn : zNames[ci]? = some y.cls) (hr : zcat r) (hst : st' = As.reverse ++ .ref a :: r) : zEv U call own cc nL ret scr Q pc ls st' σ = call y (.ref a :: As) σ (fun v σ' => zEv U call own cc nL ret scr Q (pc + 3) ls (v.toList ++ r) σ') := by
  subst hst
  rw [zEv_step hc hd]
  refine propext ⟨fun ⟨_, y', k', a', r', As', ci', fs', h1, h2, h3, h4, h5, h6, h7⟩ => ?_, fun g => ⟨rfl, y, k, a, r, As, ci, fs, hm, hk, rfl, hU, hn, hr, g⟩⟩
  rw [hm] at h1
  simp only [Option.some.injEq, Prod.mk.injEq] at h1
  obtain ⟨rfl, hl, rfl⟩ := h1
  obtain ⟨e1, e2⟩ := List.append_inj h3 (by simpa using hl)
  have e3 := List.reverse_inj.mp e1
  subst e3
  cases e2
  exact h7
theorem q_ins (hc : zMono call) {idx : Nat} {y : MethodName} {As : List Value} {st' : List Value} (hd : decode cc pc = .ok (.invokestatic idx, 3)) (hm : zmG own idx = some (y, As.length, 2)) (hr : zcat r) (hst : st' = As.reverse ++ r) : zEv U call own cc nL ret scr Q pc ls st' σ = call y As σ (fun v σ' => zEv U call own cc nL ret scr Q (pc + 3) ls (v.toList ++ r) σ') := by
  subst hst
  rw [zEv_step hc hd]
  refine propext ⟨fun ⟨_, h⟩ => ?_, fun g => ⟨rfl, Or.inl ⟨y, r, As, hm, rfl, hr, g⟩⟩⟩
  rcases h with ⟨y', r', As', h1, h3, h6, h7⟩ | ⟨y', a, a0, n0, n1, sp, dp, n, r', h1, -⟩ | ⟨y', x1, x2, r', h1, -⟩
  · rw [hm] at h1
    simp only [Option.some.injEq, Prod.mk.injEq] at h1
    obtain ⟨rfl, hl, -⟩ := h1
    obtain ⟨e1, e2⟩ := List.append_inj h3 (by simpa using hl)
    have e3 := List.reverse_inj.mp e1
    subst e3
    subst e2
    exact h7
  · rw [hm] at h1
    simp at h1
  · rw [hm] at h1
    simp at h1
theorem q_max (hc : zMono call) {idx : Nat} {m : MethodName} {x y : Int32} (hd : decode cc pc = .ok (.invokestatic idx, 3)) (hm : zmG own idx = some (m, 2, 4)) (hr : zcat r) : zEv U call own cc nL ret scr Q pc ls (.int y :: .int x :: r) σ = zEv U call own cc nL ret scr Q (pc + 3) ls (.int (if x < y then y else x) :: r) σ := by
  rw [zEv_step hc hd]
  refine propext ⟨fun ⟨_, h⟩ => ?_, fun g => ⟨rfl, Or.inr (Or.inr ⟨m, x, y, r, hm, rfl, hr, g⟩)⟩⟩
  rcases h with ⟨y', r', As', h1, h3, h6, h7⟩ | ⟨y', a, a0, n0, n1, sp, dp, n, r', h1, -⟩ | ⟨y', x1, x2, r', h1, h2, h3, h4⟩
  · rw [hm] at h1
    simp at h1
  · rw [hm] at h1
    simp at h1
  · cases h2
    exact h4
theorem q_copy (hc : zMono call) {idx a a0 n0 n1 : Nat} {m : MethodName} {sp dp n : Int32} (hd : decode cc pc = .ok (.invokestatic idx, 3)) (hm : zmG own idx = some (m, 5, 3)) (hr : zcat r) (hU0 : U[a0]? = some (.inl (false, n0))) (hU1 : U[a]? = some (.inl (false, n1))) : zEv U call own cc nL ret scr Q pc ls (.int n :: .int dp :: .ref a :: .int sp :: .ref a0 :: r) σ = (¬ sp < 0 ∧ ¬ dp < 0 ∧ ¬ n < 0 ∧ sp.toNatClampNeg + n.toNatClampNeg ≤ n0 ∧ dp.toNatClampNeg + n.toNatClampNeg ≤ n1 ∧ zEv U call own cc nL ret scr Q (pc + 3) ls r (va_up σ a (va_cpy (σ a0) (σ a) sp.toNatClampNeg dp.toNatClampNeg n.toNatClampNeg))) := by
  rw [zEv_step hc hd]
  refine propext ⟨fun ⟨_, h⟩ => ?_, fun g => ⟨rfl, Or.inr (Or.inl ⟨m, a, a0, n0, n1, sp, dp, n, r, hm, rfl, hr, hU0, hU1, g⟩)⟩⟩
  rcases h with ⟨y', r', As', h1, h3, h6, h7⟩ | ⟨y', b, b0, m0, m1, sp', dp', n', r', h1, h2, h3, h4, h5, h6⟩ | ⟨y', x1, x2, r', h1, -⟩
  · rw [hm] at h1
    simp at h1
  · cases h2
    rw [hU0] at h4; cases h4
    rw [hU1] at h5; cases h5
    exact h6
  · rw [hm] at h1
    simp at h1
theorem q_tsw (hc : zMono call) {dflt lo hi : Int} {offs : Array Int} {len t : Nat} {x : Int32} (hd : decode cc pc = .ok (.tableswitch dflt lo hi offs, len)) (ht : (pc : Int) + dflt = (t : Int)) : zEv U call own cc nL ret scr Q pc ls (.int x :: r) σ = (((x.toInt < lo ∨ hi < x.toInt) → zEv U call own cc nL ret scr Q t ls r σ) ∧ (¬ x.toInt < lo → ¬ hi < x.toInt → ∃ (off : Int) (t : Nat), offs[(x.toInt - lo).toNat]? = some off ∧ (pc : Int) + off = (t : Int) ∧ zEv U call own cc nL ret scr Q t ls r σ)) := by
  rw [zEv_step hc hd]
  exact propext ⟨fun ⟨x', r', t', h1, h2, h3, h4⟩ => by rw [ht] at h2; cases h2; cases h1; exact ⟨h3, h4⟩, fun g => ⟨x, r, t, rfl, ht, g.1, g.2⟩⟩
theorem z_ne {p A B : Prop} : ((¬ p → A) ∧ (¬ ¬ p → B)) = ((¬ p → A) ∧ (p → B)) := propext ⟨fun h => ⟨h.1, fun g => h.2 (fun z => z g)⟩, fun h => ⟨h.1, fun g => h.2 (Classical.not_not.mp g)⟩⟩
theorem q_call {d : Nat} {y : MethodName} {as : List Value} {cc : ByteArray} {nL : Nat} {ret : Option FieldType} (hk : zkG y = some (cc, nL, ret)) (hl : (zia as).length ≤ nL) : zCall U (d + 1) y as σ Q = zEv U (zCall U d) y.cls cc nL ret none Q 0 (zin nL as) [] σ := by
  refine propext ⟨fun ⟨cc', nL', ret', h1, h2, h3⟩ => by rw [hk] at h1; cases h1; exact h3, fun g => ⟨cc, nL, ret, hk, hl, g⟩⟩
end ZQ
end
section
/-! the cells: 0 to 27 the class, 28 to 47 the model -/
def zUX : zU := [.inr (5, [some 1, some 6, some 11, some 17, some 20, none, none, none, none, none, none, none, none, none, none]), .inr (4, [some 2, some 3, some 4, some 5]), .inl (false, 3), .inl (false, 48), .inl (false, 960), .inl (false, 960), .inr (0, [some 7, some 8, some 9, some 10]), .inl (false, 4), .inl (true, 4), .inl (false, 4), .inl (false, 12), .inr (1, [some 12, some 13, some 14, some 15, some 16]), .inl (false, 4), .inl (false, 16), .inl (false, 16), .inl (false, 16), .inl (false, 16), .inr (2, [some 18, some 19]), .inl (false, 4), .inl (false, 160), .inr (3, [none, some 21, some 22, some 23, some 24, some 25, some 26, some 27]), .inl (false, 40), .inl (false, 40), .inl (false, 40), .inl (false, 40), .inl (false, 40), .inl (false, 40), .inl (false, 40)]
def zUM : zU := [.inr (6, [none, none, none, none, some 29, some 30, some 31, some 32, some 33, some 34, some 35, some 36, some 37, some 38, some 39, some 40, none, some 41, some 42, some 43, some 44, some 45, some 46, some 47, none, none, none, none, none, none]), .inl (false, 48), .inl (false, 3), .inl (false, 48), .inl (false, 960), .inl (false, 960), .inl (false, 4), .inl (true, 4), .inl (false, 4), .inl (false, 80), .inl (false, 4), .inl (false, 160), .inl (false, 12), .inl (false, 40), .inl (false, 40), .inl (false, 40), .inl (false, 40), .inl (false, 40), .inl (false, 40), .inl (true, 160)]
def zUn (b : Bool) : zU := if b = true then zUX ++ zUM else zUX
theorem u_0 (b : Bool) : (zUn b)[0]? = some (.inr (5, [some 1, some 6, some 11, some 17, some 20, none, none, none, none, none, none, none, none, none, none])) := by cases b <;> rfl
theorem u_1 (b : Bool) : (zUn b)[1]? = some (.inr (4, [some 2, some 3, some 4, some 5])) := by cases b <;> rfl
theorem u_2 (b : Bool) : (zUn b)[2]? = some (.inl (false, 3)) := by cases b <;> rfl
theorem u_3 (b : Bool) : (zUn b)[3]? = some (.inl (false, 48)) := by cases b <;> rfl
theorem u_4 (b : Bool) : (zUn b)[4]? = some (.inl (false, 960)) := by cases b <;> rfl
theorem u_5 (b : Bool) : (zUn b)[5]? = some (.inl (false, 960)) := by cases b <;> rfl
theorem u_6 (b : Bool) : (zUn b)[6]? = some (.inr (0, [some 7, some 8, some 9, some 10])) := by cases b <;> rfl
theorem u_7 (b : Bool) : (zUn b)[7]? = some (.inl (false, 4)) := by cases b <;> rfl
theorem u_8 (b : Bool) : (zUn b)[8]? = some (.inl (true, 4)) := by cases b <;> rfl
theorem u_9 (b : Bool) : (zUn b)[9]? = some (.inl (false, 4)) := by cases b <;> rfl
theorem u_10 (b : Bool) : (zUn b)[10]? = some (.inl (false, 12)) := by cases b <;> rfl
theorem u_11 (b : Bool) : (zUn b)[11]? = some (.inr (1, [some 12, some 13, some 14, some 15, some 16])) := by cases b <;> rfl
theorem u_12 (b : Bool) : (zUn b)[12]? = some (.inl (false, 4)) := by cases b <;> rfl
theorem u_13 (b : Bool) : (zUn b)[13]? = some (.inl (false, 16)) := by cases b <;> rfl
theorem u_14 (b : Bool) : (zUn b)[14]? = some (.inl (false, 16)) := by cases b <;> rfl
theorem u_15 (b : Bool) : (zUn b)[15]? = some (.inl (false, 16)) := by cases b <;> rfl
theorem u_16 (b : Bool) : (zUn b)[16]? = some (.inl (false, 16)) := by cases b <;> rfl
theorem u_17 (b : Bool) : (zUn b)[17]? = some (.inr (2, [some 18, some 19])) := by cases b <;> rfl
theorem u_18 (b : Bool) : (zUn b)[18]? = some (.inl (false, 4)) := by cases b <;> rfl
theorem u_19 (b : Bool) : (zUn b)[19]? = some (.inl (false, 160)) := by cases b <;> rfl
theorem u_20 (b : Bool) : (zUn b)[20]? = some (.inr (3, [none, some 21, some 22, some 23, some 24, some 25, some 26, some 27])) := by cases b <;> rfl
theorem u_21 (b : Bool) : (zUn b)[21]? = some (.inl (false, 40)) := by cases b <;> rfl
theorem u_22 (b : Bool) : (zUn b)[22]? = some (.inl (false, 40)) := by cases b <;> rfl
theorem u_23 (b : Bool) : (zUn b)[23]? = some (.inl (false, 40)) := by cases b <;> rfl
theorem u_24 (b : Bool) : (zUn b)[24]? = some (.inl (false, 40)) := by cases b <;> rfl
theorem u_25 (b : Bool) : (zUn b)[25]? = some (.inl (false, 40)) := by cases b <;> rfl
theorem u_26 (b : Bool) : (zUn b)[26]? = some (.inl (false, 40)) := by cases b <;> rfl
theorem u_27 (b : Bool) : (zUn b)[27]? = some (.inl (false, 40)) := by cases b <;> rfl
theorem u_28 : (zUn true)[28]? = some (.inr (6, [none, none, none, none, some 29, some 30, some 31, some 32, some 33, some 34, some 35, some 36, some 37, some 38, some 39, some 40, none, some 41, some 42, some 43, some 44, some 45, some 46, some 47, none, none, none, none, none, none])) := rfl
theorem u_29 : (zUn true)[29]? = some (.inl (false, 48)) := rfl
theorem u_30 : (zUn true)[30]? = some (.inl (false, 3)) := rfl
theorem u_31 : (zUn true)[31]? = some (.inl (false, 48)) := rfl
theorem u_32 : (zUn true)[32]? = some (.inl (false, 960)) := rfl
theorem u_33 : (zUn true)[33]? = some (.inl (false, 960)) := rfl
theorem u_34 : (zUn true)[34]? = some (.inl (false, 4)) := rfl
theorem u_35 : (zUn true)[35]? = some (.inl (true, 4)) := rfl
theorem u_36 : (zUn true)[36]? = some (.inl (false, 4)) := rfl
theorem u_37 : (zUn true)[37]? = some (.inl (false, 80)) := rfl
theorem u_38 : (zUn true)[38]? = some (.inl (false, 4)) := rfl
theorem u_39 : (zUn true)[39]? = some (.inl (false, 160)) := rfl
theorem u_40 : (zUn true)[40]? = some (.inl (false, 12)) := rfl
theorem u_41 : (zUn true)[41]? = some (.inl (false, 40)) := rfl
theorem u_42 : (zUn true)[42]? = some (.inl (false, 40)) := rfl
theorem u_43 : (zUn true)[43]? = some (.inl (false, 40)) := rfl
theorem u_44 : (zUn true)[44]? = some (.inl (false, 40)) := rfl
theorem u_45 : (zUn true)[45]? = some (.inl (false, 40)) := rfl
theorem u_46 : (zUn true)[46]? = some (.inl (false, 40)) := rfl
theorem u_47 : (zUn true)[47]? = some (.inl (true, 160)) := rfl
theorem zn_0 : zNames[0]? = some RX0 := rfl
theorem zn_1 : zNames[1]? = some RX1 := rfl
theorem zn_2 : zNames[2]? = some RX2 := rfl
theorem zn_3 : zNames[3]? = some RX3 := rfl
theorem zn_4 : zNames[4]? = some RX4 := rfl
theorem zn_5 : zNames[5]? = some RX5 := rfl
theorem zn_6 : zNames[6]? = some RX6 := rfl
theorem zf_RX4_9 : zfG RX4 9 = some (4, 0, false, false) := by decide +kernel
theorem zf_RX5_255 : zfG RX5 255 = some (4, 0, false, true) := by decide +kernel
theorem zf_RX4_15 : zfG RX4 15 = some (4, 1, false, false) := by decide +kernel
theorem zf_RX4_18 : zfG RX4 18 = some (4, 2, false, false) := by decide +kernel
theorem zf_RX4_21 : zfG RX4 21 = some (4, 3, false, false) := by decide +kernel
theorem zf_RX0_9 : zfG RX0 9 = some (0, 0, false, false) := by decide +kernel
theorem zf_RX5_83 : zfG RX5 83 = some (0, 0, false, true) := by decide +kernel
theorem zf_RX0_15 : zfG RX0 15 = some (0, 1, false, false) := by decide +kernel
theorem zf_RX5_94 : zfG RX5 94 = some (0, 1, false, true) := by decide +kernel
theorem zf_RX0_19 : zfG RX0 19 = some (0, 2, false, false) := by decide +kernel
theorem zf_RX5_202 : zfG RX5 202 = some (0, 2, false, true) := by decide +kernel
theorem zf_RX0_22 : zfG RX0 22 = some (0, 3, false, false) := by decide +kernel
theorem zf_RX1_9 : zfG RX1 9 = some (1, 0, false, false) := by decide +kernel
theorem zf_RX5_205 : zfG RX5 205 = some (1, 0, false, true) := by decide +kernel
theorem zf_RX1_15 : zfG RX1 15 = some (1, 1, false, false) := by decide +kernel
theorem zf_RX1_18 : zfG RX1 18 = some (1, 2, false, false) := by decide +kernel
theorem zf_RX1_21 : zfG RX1 21 = some (1, 3, false, false) := by decide +kernel
theorem zf_RX1_24 : zfG RX1 24 = some (1, 4, false, false) := by decide +kernel
theorem zf_RX2_9 : zfG RX2 9 = some (2, 0, false, false) := by decide +kernel
theorem zf_RX5_208 : zfG RX5 208 = some (2, 0, false, true) := by decide +kernel
theorem zf_RX2_15 : zfG RX2 15 = some (2, 1, false, false) := by decide +kernel
theorem zf_RX3_33 : zfG RX3 33 = some (3, 0, true, false) := by decide +kernel
theorem zf_RX5_230 : zfG RX5 230 = some (3, 0, true, true) := by decide +kernel
theorem zf_RX3_9 : zfG RX3 9 = some (3, 1, false, false) := by decide +kernel
theorem zf_RX5_172 : zfG RX5 172 = some (3, 1, false, true) := by decide +kernel
theorem zf_RX3_15 : zfG RX3 15 = some (3, 2, false, false) := by decide +kernel
theorem zf_RX5_175 : zfG RX5 175 = some (3, 2, false, true) := by decide +kernel
theorem zf_RX3_18 : zfG RX3 18 = some (3, 3, false, false) := by decide +kernel
theorem zf_RX5_176 : zfG RX5 176 = some (3, 3, false, true) := by decide +kernel
theorem zf_RX3_21 : zfG RX3 21 = some (3, 4, false, false) := by decide +kernel
theorem zf_RX5_179 : zfG RX5 179 = some (3, 4, false, true) := by decide +kernel
theorem zf_RX3_24 : zfG RX3 24 = some (3, 5, false, false) := by decide +kernel
theorem zf_RX5_182 : zfG RX5 182 = some (3, 5, false, true) := by decide +kernel
theorem zf_RX3_27 : zfG RX3 27 = some (3, 6, false, false) := by decide +kernel
theorem zf_RX5_188 : zfG RX5 188 = some (3, 6, false, true) := by decide +kernel
theorem zf_RX3_30 : zfG RX3 30 = some (3, 7, false, false) := by decide +kernel
theorem zf_RX5_191 : zfG RX5 191 = some (3, 7, false, true) := by decide +kernel
theorem zf_RX5_10 : zfG RX5 10 = some (5, 0, false, false) := by decide +kernel
theorem zf_RX5_19 : zfG RX5 19 = some (5, 1, false, false) := by decide +kernel
theorem zf_RX5_26 : zfG RX5 26 = some (5, 2, false, false) := by decide +kernel
theorem zf_RX5_33 : zfG RX5 33 = some (5, 3, false, false) := by decide +kernel
theorem zf_RX5_40 : zfG RX5 40 = some (5, 4, false, false) := by decide +kernel
theorem zf_RX5_48 : zfG RX5 48 = some (5, 5, true, false) := by decide +kernel
theorem zf_RX5_66 : zfG RX5 66 = some (5, 6, true, false) := by decide +kernel
theorem zf_RX5_118 : zfG RX5 118 = some (5, 7, true, false) := by decide +kernel
theorem zf_RX5_221 : zfG RX5 221 = some (5, 8, true, false) := by decide +kernel
theorem zf_RX5_237 : zfG RX5 237 = some (5, 9, true, false) := by decide +kernel
theorem zf_RX5_240 : zfG RX5 240 = some (5, 10, true, false) := by decide +kernel
theorem zf_RX5_243 : zfG RX5 243 = some (5, 11, true, false) := by decide +kernel
theorem zf_RX5_246 : zfG RX5 246 = some (5, 12, true, false) := by decide +kernel
theorem zf_RX5_249 : zfG RX5 249 = some (5, 13, true, false) := by decide +kernel
theorem zf_RX5_252 : zfG RX5 252 = some (5, 14, true, false) := by decide +kernel
theorem zf_RX6_72 : zfG RX6 72 = some (6, 0, true, false) := by decide +kernel
theorem zf_RX6_76 : zfG RX6 76 = some (6, 1, true, false) := by decide +kernel
theorem zf_RX6_79 : zfG RX6 79 = some (6, 2, true, false) := by decide +kernel
theorem zf_RX6_82 : zfG RX6 82 = some (6, 3, true, false) := by decide +kernel
theorem zf_RX6_7 : zfG RX6 7 = some (6, 4, false, false) := by decide +kernel
theorem zf_RX6_13 : zfG RX6 13 = some (6, 5, false, false) := by decide +kernel
theorem zf_RX6_16 : zfG RX6 16 = some (6, 6, false, false) := by decide +kernel
theorem zf_RX6_19 : zfG RX6 19 = some (6, 7, false, false) := by decide +kernel
theorem zf_RX6_22 : zfG RX6 22 = some (6, 8, false, false) := by decide +kernel
theorem zf_RX6_25 : zfG RX6 25 = some (6, 9, false, false) := by decide +kernel
theorem zf_RX6_28 : zfG RX6 28 = some (6, 10, false, false) := by decide +kernel
theorem zf_RX6_32 : zfG RX6 32 = some (6, 11, false, false) := by decide +kernel
theorem zf_RX6_35 : zfG RX6 35 = some (6, 12, false, false) := by decide +kernel
theorem zf_RX6_38 : zfG RX6 38 = some (6, 13, false, false) := by decide +kernel
theorem zf_RX6_41 : zfG RX6 41 = some (6, 14, false, false) := by decide +kernel
theorem zf_RX6_44 : zfG RX6 44 = some (6, 15, false, false) := by decide +kernel
theorem zf_RX6_85 : zfG RX6 85 = some (6, 16, true, false) := by decide +kernel
theorem zf_RX6_47 : zfG RX6 47 = some (6, 17, false, false) := by decide +kernel
theorem zf_RX6_50 : zfG RX6 50 = some (6, 18, false, false) := by decide +kernel
theorem zf_RX6_53 : zfG RX6 53 = some (6, 19, false, false) := by decide +kernel
theorem zf_RX6_56 : zfG RX6 56 = some (6, 20, false, false) := by decide +kernel
theorem zf_RX6_59 : zfG RX6 59 = some (6, 21, false, false) := by decide +kernel
theorem zf_RX6_62 : zfG RX6 62 = some (6, 22, false, false) := by decide +kernel
theorem zf_RX6_65 : zfG RX6 65 = some (6, 23, false, false) := by decide +kernel
theorem zf_RX6_88 : zfG RX6 88 = some (6, 24, true, false) := by decide +kernel
theorem zf_RX6_91 : zfG RX6 91 = some (6, 25, true, false) := by decide +kernel
theorem zf_RX6_94 : zfG RX6 94 = some (6, 26, true, false) := by decide +kernel
theorem zf_RX6_97 : zfG RX6 97 = some (6, 27, true, false) := by decide +kernel
theorem zf_RX6_100 : zfG RX6 100 = some (6, 28, true, false) := by decide +kernel
theorem zf_RX6_103 : zfG RX6 103 = some (6, 29, true, false) := by decide +kernel
theorem zm_RX5_44 : zmG RX5 44 = some (yX5_startAgain, 1, 0) := by decide +kernel
theorem zm_RX5_270 : zmG RX5 270 = some (yX4_startAgain, 0, 1) := by decide +kernel
theorem zm_RX4_24 : zmG RX4 24 = some (yJ7_fill_53178, 2, 2) := by decide +kernel
theorem zm_RX5_272 : zmG RX5 272 = some (yX0_startAgain, 0, 1) := by decide +kernel
theorem zm_RX0_25 : zmG RX0 25 = some (yJ7_fill_53178, 2, 2) := by decide +kernel
theorem zm_RX0_31 : zmG RX0 31 = some (yJ7_fill_49daa, 2, 2) := by decide +kernel
theorem zm_RX5_273 : zmG RX5 273 = some (yX1_startAgain, 0, 1) := by decide +kernel
theorem zm_RX1_27 : zmG RX1 27 = some (yJ7_fill_53178, 2, 2) := by decide +kernel
theorem zm_RX5_274 : zmG RX5 274 = some (yX2_startAgain, 0, 1) := by decide +kernel
theorem zm_RX2_18 : zmG RX2 18 = some (yJ7_fill_53178, 2, 2) := by decide +kernel
theorem zm_RX5_275 : zmG RX5 275 = some (yX3_startAgain, 0, 1) := by decide +kernel
theorem zm_RL_13 : zmG RL 13 = some (yX5_cores, 1, 0) := by decide +kernel
theorem zm_RL_18 : zmG RL 18 = some (yX5_map, 4, 0) := by decide +kernel
theorem zm_RX5_52 : zmG RX5 52 = some (yX5_isSpace, 1, 2) := by decide +kernel
theorem zm_RX5_56 : zmG RX5 56 = some (yX5_isPage, 1, 2) := by decide +kernel
theorem zm_RX5_59 : zmG RX5 59 = some (yX5_isFrame, 1, 2) := by decide +kernel
theorem zm_RX5_62 : zmG RX5 62 = some (yX4_entryNow, 2, 1) := by decide +kernel
theorem zm_RX4_30 : zmG RX4 30 = some (yX4_rowOf, 2, 2) := by decide +kernel
theorem zm_RX4_34 : zmG RX4 34 = some (yX4_entryKept, 3, 0) := by decide +kernel
theorem zm_RX5_69 : zmG RX5 69 = some (yX5_entryOf, 2, 2) := by decide +kernel
theorem zm_RX5_73 : zmG RX5 73 = some (yX4_change, 4, 1) := by decide +kernel
theorem zm_RX4_41 : zmG RX4 41 = some (⟨"java/lang/System", "arraycopy", "(Ljava/lang/Object;ILjava/lang/Object;II)V"⟩, 5, 3) := by decide +kernel
theorem zm_RL_23 : zmG RL 23 = some (yX5_entry, 2, 0) := by decide +kernel
theorem zm_RL_28 : zmG RL 28 = some (yX5_enter, 2, 0) := by decide +kernel
theorem zm_RX5_77 : zmG RX5 77 = some (yX5_isCore, 1, 0) := by decide +kernel
theorem zm_RX5_80 : zmG RX5 80 = some (yX5_isFree, 1, 0) := by decide +kernel
theorem zm_RX5_87 : zmG RX5 87 = some (yX5_takeAllCalls, 1, 0) := by decide +kernel
theorem zm_RX5_166 : zmG RX5 166 = some (yX5_takeFirstCall, 1, 0) := by decide +kernel
theorem zm_RX5_297 : zmG RX5 297 = some (yX2_removeFirst, 1, 1) := by decide +kernel
theorem zm_RX2_24 : zmG RX2 24 = some (⟨"java/lang/System", "arraycopy", "(Ljava/lang/Object;ILjava/lang/Object;II)V"⟩, 5, 3) := by decide +kernel
theorem zm_RX5_169 : zmG RX5 169 = some (yX3_isBegun, 1, 1) := by decide +kernel
theorem zm_RX5_112 : zmG RX5 112 = some (yX1_forget, 3, 1) := by decide +kernel
theorem zm_RX1_33 : zmG RX1 33 = some (yX1_isOf, 4, 0) := by decide +kernel
theorem zm_RX1_37 : zmG RX1 37 = some (yX1_spaceNoted, 2, 0) := by decide +kernel
theorem zm_RX1_41 : zmG RX1 41 = some (yX1_pageNoted, 2, 0) := by decide +kernel
theorem zm_RX1_48 : zmG RX1 48 = some (yX1_move, 3, 0) := by decide +kernel
theorem zm_RX5_283 : zmG RX5 283 = some (yX0_raiseGeneration, 3, 1) := by decide +kernel
theorem zm_RX0_34 : zmG RX0 34 = some (⟨"java/lang/Math", "max", "(II)I"⟩, 2, 4) := by decide +kernel
theorem zm_RX5_300 : zmG RX5 300 = some (yX3_waitNoMore, 2, 1) := by decide +kernel
theorem zm_RX5_185 : zmG RX5 185 = some (yX3_isDone, 1, 1) := by decide +kernel
theorem zm_RX5_91 : zmG RX5 91 = some (yX5_catchUp, 1, 0) := by decide +kernel
theorem zm_RX5_280 : zmG RX5 280 = some (yX5_isBehind, 2, 0) := by decide +kernel
theorem zm_RX5_211 : zmG RX5 211 = some (yX0_generation, 2, 1) := by decide +kernel
theorem zm_RL_32 : zmG RL 32 = some (yX5_sleep, 1, 0) := by decide +kernel
theorem zm_RL_36 : zmG RL 36 = some (yX5_wake, 1, 0) := by decide +kernel
theorem zm_RL_40 : zmG RL 40 = some (yX5_look, 3, 0) := by decide +kernel
theorem zm_RX5_98 : zmG RX5 98 = some (yX1_find, 3, 1) := by decide +kernel
theorem zm_RX5_102 : zmG RX5 102 = some (yX5_walkTable, 4, 0) := by decide +kernel
theorem zm_RX5_109 : zmG RX5 109 = some (yX5_isWritable, 1, 2) := by decide +kernel
theorem zm_RX5_276 : zmG RX5 276 = some (yX1_keep, 5, 1) := by decide +kernel
theorem zm_RX1_44 : zmG RX1 44 = some (yX1_forget, 3, 0) := by decide +kernel
theorem zm_RX5_131 : zmG RX5 131 = some (yX5_frameOf, 1, 2) := by decide +kernel
theorem zm_RX5_106 : zmG RX5 106 = some (yX1_entryNoted, 2, 1) := by decide +kernel
theorem zm_RX5_115 : zmG RX5 115 = some (yX5_goByNote, 2, 0) := by decide +kernel
theorem zm_RX5_141 : zmG RX5 141 = some (yX5_isStale, 2, 0) := by decide +kernel
theorem zm_RX5_125 : zmG RX5 125 = some (yX1_spaceNoted, 2, 1) := by decide +kernel
theorem zm_RX5_128 : zmG RX5 128 = some (yX1_pageNoted, 2, 1) := by decide +kernel
theorem zm_RL_45 : zmG RL 45 = some (yX5_how, 0, 0) := by decide +kernel
theorem zm_RL_50 : zmG RL 50 = some (yX5_note, 3, 0) := by decide +kernel
theorem zm_RX5_121 : zmG RX5 121 = some (yX5_isNote, 2, 0) := by decide +kernel
theorem zm_RX5_134 : zmG RX5 134 = some (yX5_oneIf, 1, 2) := by decide +kernel
theorem zm_RX5_138 : zmG RX5 138 = some (yX1_timeNoted, 2, 1) := by decide +kernel
theorem zm_RL_55 : zmG RL 55 = some (yX5_wasSo, 2, 0) := by decide +kernel
theorem zm_RX5_144 : zmG RX5 144 = some (yX4_heldFrom, 4, 1) := by decide +kernel
theorem zm_RX4_51 : zmG RX4 51 = some (yX4_timeKept, 3, 0) := by decide +kernel
theorem zm_RL_59 : zmG RL 59 = some (yX5_unmap, 3, 0) := by decide +kernel
theorem zm_RX5_148 : zmG RX5 148 = some (yX5_shootPage, 4, 0) := by decide +kernel
theorem zm_RX5_155 : zmG RX5 155 = some (yX3_isFull, 0, 1) := by decide +kernel
theorem zm_RX5_163 : zmG RX5 163 = some (yX5_beginShoot, 3, 0) := by decide +kernel
theorem zm_RX5_287 : zmG RX5 287 = some (yX3_begin, 5, 1) := by decide +kernel
theorem zm_RX5_227 : zmG RX5 227 = some (yX0_isAwakeIn, 2, 1) := by decide +kernel
theorem zm_RX5_291 : zmG RX5 291 = some (yX2_append, 2, 1) := by decide +kernel
theorem zm_RX5_294 : zmG RX5 294 = some (yX3_waitFor, 2, 1) := by decide +kernel
theorem zm_RL_63 : zmG RL 63 = some (yX5_remap, 5, 0) := by decide +kernel
theorem zm_RL_68 : zmG RL 68 = some (yX5_clear, 2, 0) := by decide +kernel
theorem zm_RX5_152 : zmG RX5 152 = some (yX4_isAllNone, 1, 1) := by decide +kernel
theorem zm_RX4_38 : zmG RX4 38 = some (yX4_entryNow, 2, 0) := by decide +kernel
theorem zm_RX5_159 : zmG RX5 159 = some (yX4_changeAllToNone, 2, 1) := by decide +kernel
theorem zm_RX4_47 : zmG RX4 47 = some (yX4_change, 4, 0) := by decide +kernel
theorem zm_RL_72 : zmG RL 72 = some (yX5_take, 1, 0) := by decide +kernel
theorem zm_RL_76 : zmG RL 76 = some (yX5_rounds, 2, 0) := by decide +kernel
theorem zm_RL_80 : zmG RL 80 = some (yX5_shoot, 2, 0) := by decide +kernel
theorem zm_RX5_194 : zmG RX5 194 = some (yJ6_bitCount_0f7a4, 1, 2) := by decide +kernel
theorem zm_RX5_199 : zmG RX5 199 = some (yX3_waitsFor, 2, 1) := by decide +kernel
theorem zm_RL_84 : zmG RL 84 = some (yX5_underWay, 1, 0) := by decide +kernel
theorem zm_RL_88 : zmG RL 88 = some (yX5_core, 2, 0) := by decide +kernel
theorem zm_RL_92 : zmG RL 92 = some (yX5_history, 3, 0) := by decide +kernel
theorem zm_RX5_214 : zmG RX5 214 = some (yX4_isKept, 3, 1) := by decide +kernel
theorem zm_RX5_218 : zmG RX5 218 = some (yX4_entryKept, 3, 1) := by decide +kernel
theorem zm_RX5_224 : zmG RX5 224 = some (yX4_timeKept, 3, 1) := by decide +kernel
theorem zm_RL_96 : zmG RL 96 = some (yX5_seen, 0, 0) := by decide +kernel
theorem zm_RL_100 : zmG RL 100 = some (yX5_danger, 2, 0) := by decide +kernel
theorem zm_RL_104 : zmG RL 104 = some (yX5_count, 1, 0) := by decide +kernel
theorem zm_RX5_233 : zmG RX5 233 = some (yX3_howManyDone, 0, 1) := by decide +kernel
theorem zm_RX3_37 : zmG RX3 37 = some (yX3_isDone, 1, 0) := by decide +kernel
theorem zm_RL_108 : zmG RL 108 = some (yX5_digest, 0, 0) := by decide +kernel
theorem zm_RX5_260 : zmG RX5 260 = some (yX5_entry, 2, 0) := by decide +kernel
theorem zm_RX5_263 : zmG RX5 263 = some (yX5_digestOfCore, 2, 0) := by decide +kernel
theorem zm_RX5_303 : zmG RX5 303 = some (yX5_core, 2, 0) := by decide +kernel
theorem zm_RX5_306 : zmG RX5 306 = some (yX5_note, 3, 0) := by decide +kernel
theorem zm_RX5_267 : zmG RX5 267 = some (yX5_shoot, 2, 0) := by decide +kernel
theorem zm_RX6_68 : zmG RX6 68 = some (yX6_begin, 1, 0) := by decide +kernel
theorem zm_RL_17 : zmG RL 17 = some (yX6_cores, 1, 0) := by decide +kernel
theorem zm_RX6_106 : zmG RX6 106 = some (yX6_in, 3, 2) := by decide +kernel
theorem zm_RL_22 : zmG RL 22 = some (yX6_map, 4, 0) := by decide +kernel
theorem zm_RX6_110 : zmG RX6 110 = some (yX6_isPage, 2, 2) := by decide +kernel
theorem zm_RX6_114 : zmG RX6 114 = some (yX6_entryOf, 2, 2) := by decide +kernel
theorem zm_RX6_118 : zmG RX6 118 = some (yX6_become, 2, 0) := by decide +kernel
theorem zm_RL_27 : zmG RL 27 = some (yX6_entry, 2, 0) := by decide +kernel
theorem zm_RX6_122 : zmG RX6 122 = some (yX6_told, 1, 2) := by decide +kernel
theorem zm_RL_31 : zmG RL 31 = some (yX6_enter, 2, 0) := by decide +kernel
theorem zm_RX6_139 : zmG RX6 139 = some (yX6_isCore, 1, 0) := by decide +kernel
theorem zm_RX6_143 : zmG RX6 143 = some (yX6_shootOf, 1, 0) := by decide +kernel
theorem zm_RX6_146 : zmG RX6 146 = some (yX6_takeAll, 1, 0) := by decide +kernel
theorem zm_RX6_136 : zmG RX6 136 = some (yX6_takeCall, 1, 0) := by decide +kernel
theorem zm_RX6_129 : zmG RX6 129 = some (yX6_forget, 3, 0) := by decide +kernel
theorem zm_RX6_126 : zmG RX6 126 = some (yX6_dropNote, 2, 0) := by decide +kernel
theorem zm_RX6_133 : zmG RX6 133 = some (yX6_settle, 1, 0) := by decide +kernel
theorem zm_RX6_149 : zmG RX6 149 = some (yX6_catchUp, 1, 0) := by decide +kernel
theorem zm_RL_35 : zmG RL 35 = some (yX6_sleep, 1, 0) := by decide +kernel
theorem zm_RL_39 : zmG RL 39 = some (yX6_wake, 1, 0) := by decide +kernel
theorem zm_RL_44 : zmG RL 44 = some (yX6_look, 3, 0) := by decide +kernel
theorem zm_RX6_152 : zmG RX6 152 = some (yX6_noteOf, 3, 0) := by decide +kernel
theorem zm_RX6_155 : zmG RX6 155 = some (yX6_isStale, 2, 0) := by decide +kernel
theorem zm_RX6_158 : zmG RX6 158 = some (yX6_takeNote, 4, 0) := by decide +kernel
theorem zm_RL_49 : zmG RL 49 = some (yX6_how, 0, 0) := by decide +kernel
theorem zm_RL_54 : zmG RL 54 = some (yX6_note, 3, 0) := by decide +kernel
theorem zm_RX6_162 : zmG RX6 162 = some (yX6_isNote, 2, 0) := by decide +kernel
theorem zm_RL_58 : zmG RL 58 = some (yX6_wasSo, 2, 0) := by decide +kernel
theorem zm_RL_62 : zmG RL 62 = some (yX6_unmap, 3, 0) := by decide +kernel
theorem zm_RX6_165 : zmG RX6 165 = some (yX6_mayShoot, 1, 0) := by decide +kernel
theorem zm_RX6_168 : zmG RX6 168 = some (yX6_begins, 4, 0) := by decide +kernel
theorem zm_RL_67 : zmG RL 67 = some (yX6_remap, 5, 0) := by decide +kernel
theorem zm_RL_71 : zmG RL 71 = some (yX6_clear, 2, 0) := by decide +kernel
theorem zm_RL_75 : zmG RL 75 = some (yX6_take, 1, 0) := by decide +kernel
theorem zm_RL_79 : zmG RL 79 = some (yX6_rounds, 2, 0) := by decide +kernel
theorem zm_RL_83 : zmG RL 83 = some (yX6_shoot, 2, 0) := by decide +kernel
theorem zm_RX6_172 : zmG RX6 172 = some (yX6_waited, 1, 0) := by decide +kernel
theorem zm_RL_87 : zmG RL 87 = some (yX6_underWay, 1, 0) := by decide +kernel
theorem zm_RL_91 : zmG RL 91 = some (yX6_core, 2, 0) := by decide +kernel
theorem zm_RL_95 : zmG RL 95 = some (yX6_history, 3, 0) := by decide +kernel
theorem zm_RL_99 : zmG RL 99 = some (yX6_seen, 0, 0) := by decide +kernel
theorem zm_RL_103 : zmG RL 103 = some (yX6_danger, 2, 0) := by decide +kernel
theorem zm_RL_107 : zmG RL 107 = some (yX6_count, 1, 0) := by decide +kernel
theorem zm_RL_112 : zmG RL 112 = some (yX6_digest, 0, 0) := by decide +kernel
theorem zm_RX6_179 : zmG RX6 179 = some (yX6_core, 2, 0) := by decide +kernel
theorem zm_RX6_183 : zmG RX6 183 = some (yX6_note, 3, 0) := by decide +kernel
theorem zm_RX6_185 : zmG RX6 185 = some (yX6_shoot, 2, 0) := by decide +kernel
theorem zc_265 : zcG RJ6 265 = some 1431655765 := by decide +kernel
theorem zc_266 : zcG RJ6 266 = some 858993459 := by decide +kernel
theorem zc_267 : zcG RJ6 267 = some 252645135 := by decide +kernel
theorem zl_256 : zlG RX5 256 = some 67 := by decide +kernel
theorem zl_258 : zlG RX5 258 = some 31 := by decide +kernel
theorem zl_175 : zlG RX6 175 = some 67 := by decide +kernel
theorem zl_177 : zlG RX6 177 = some 31 := by decide +kernel
end
section
def eJ6_bitCount_0f7a4 (b : Bool) (d : Nat) (Q : zQ) : zP := zEv (zUn b) (zCall (zUn b) d) RJ6 cJ6_bitCount_0f7a4 1 (some .int) none Q
theorem eJ6_bitCount_0f7a4_0 {b : Bool} {d : Nat} {Q : zQ} {σ : zV} {v0 : Int32} : eJ6_bitCount_0f7a4 b d Q 0 [.int v0] [] σ = eJ6_bitCount_0f7a4 b d Q 1 [.int v0] [.int v0] σ := q_iload_n (zCall_mono (zUn b) d) (by decide +kernel : decode cJ6_bitCount_0f7a4 0 = .ok (.iload_n 0, 1)) rfl
theorem eJ6_bitCount_0f7a4_1 {b : Bool} {d : Nat} {Q : zQ} {σ : zV} {v0 : Int32} {s0 : Int32} : eJ6_bitCount_0f7a4 b d Q 1 [.int v0] [.int s0] σ = eJ6_bitCount_0f7a4 b d Q 2 [.int v0] [.int v0, .int s0] σ := q_iload_n (zCall_mono (zUn b) d) (by decide +kernel : decode cJ6_bitCount_0f7a4 1 = .ok (.iload_n 0, 1)) rfl
theorem eJ6_bitCount_0f7a4_2 {b : Bool} {d : Nat} {Q : zQ} {σ : zV} {v0 : Int32} {s0 : Int32} {s1 : Int32} : eJ6_bitCount_0f7a4 b d Q 2 [.int v0] [.int s0, .int s1] σ = eJ6_bitCount_0f7a4 b d Q 3 [.int v0] [.int 1, .int s0, .int s1] σ := q_iconst (zCall_mono (zUn b) d) (by decide +kernel : decode cJ6_bitCount_0f7a4 2 = .ok (.iconst 1, 1)) (by decide +kernel)
theorem eJ6_bitCount_0f7a4_3 {b : Bool} {d : Nat} {Q : zQ} {σ : zV} {v0 : Int32} {s0 : Int32} {s1 : Int32} {s2 : Int32} : eJ6_bitCount_0f7a4 b d Q 3 [.int v0] [.int s0, .int s1, .int s2] σ = eJ6_bitCount_0f7a4 b d Q 4 [.int v0] [.int (s1.toUInt32 >>> (s0.toUInt32 &&& Int32.toUInt32 31)).toInt32, .int s2] σ := q_iushr (zCall_mono (zUn b) d) (by decide +kernel : decode cJ6_bitCount_0f7a4 3 = .ok (.iushr, 1))
theorem eJ6_bitCount_0f7a4_4 {b : Bool} {d : Nat} {Q : zQ} {σ : zV} {v0 : Int32} {s0 : Int32} {s1 : Int32} : eJ6_bitCount_0f7a4 b d Q 4 [.int v0] [.int s0, .int s1] σ = eJ6_bitCount_0f7a4 b d Q 7 [.int v0] [.int 1431655765, .int s0, .int s1] σ := q_ldc_w (zCall_mono (zUn b) d) (by decide +kernel : decode cJ6_bitCount_0f7a4 4 = .ok (.ldc_w 265, 3)) zc_265
theorem eJ6_bitCount_0f7a4_7 {b : Bool} {d : Nat} {Q : zQ} {σ : zV} {v0 : Int32} {s0 : Int32} {s1 : Int32} {s2 : Int32} : eJ6_bitCount_0f7a4 b d Q 7 [.int v0] [.int s0, .int s1, .int s2] σ = eJ6_bitCount_0f7a4 b d Q 8 [.int v0] [.int (s1 &&& s0), .int s2] σ := q_iand (zCall_mono (zUn b) d) (by decide +kernel : decode cJ6_bitCount_0f7a4 7 = .ok (.iand, 1))
theorem eJ6_bitCount_0f7a4_8 {b : Bool} {d : Nat} {Q : zQ} {σ : zV} {v0 : Int32} {s0 : Int32} {s1 : Int32} : eJ6_bitCount_0f7a4 b d Q 8 [.int v0] [.int s0, .int s1] σ = eJ6_bitCount_0f7a4 b d Q 9 [.int v0] [.int (s1 - s0)] σ := q_isub (zCall_mono (zUn b) d) (by decide +kernel : decode cJ6_bitCount_0f7a4 8 = .ok (.isub, 1))
theorem eJ6_bitCount_0f7a4_9 {b : Bool} {d : Nat} {Q : zQ} {σ : zV} {v0 : Int32} {s0 : Int32} : eJ6_bitCount_0f7a4 b d Q 9 [.int v0] [.int s0] σ = eJ6_bitCount_0f7a4 b d Q 10 [.int s0] [] σ := q_istore_n (zCall_mono (zUn b) d) (by decide +kernel : decode cJ6_bitCount_0f7a4 9 = .ok (.istore_n 0, 1)) (Nat.le_of_ble_eq_true rfl) trivial rfl
theorem eJ6_bitCount_0f7a4_10 {b : Bool} {d : Nat} {Q : zQ} {σ : zV} {v0 : Int32} : eJ6_bitCount_0f7a4 b d Q 10 [.int v0] [] σ = eJ6_bitCount_0f7a4 b d Q 11 [.int v0] [.int v0] σ := q_iload_n (zCall_mono (zUn b) d) (by decide +kernel : decode cJ6_bitCount_0f7a4 10 = .ok (.iload_n 0, 1)) rfl
theorem eJ6_bitCount_0f7a4_11 {b : Bool} {d : Nat} {Q : zQ} {σ : zV} {v0 : Int32} {s0 : Int32} : eJ6_bitCount_0f7a4 b d Q 11 [.int v0] [.int s0] σ = eJ6_bitCount_0f7a4 b d Q 14 [.int v0] [.int 858993459, .int s0] σ := q_ldc_w (zCall_mono (zUn b) d) (by decide +kernel : decode cJ6_bitCount_0f7a4 11 = .ok (.ldc_w 266, 3)) zc_266
theorem eJ6_bitCount_0f7a4_14 {b : Bool} {d : Nat} {Q : zQ} {σ : zV} {v0 : Int32} {s0 : Int32} {s1 : Int32} : eJ6_bitCount_0f7a4 b d Q 14 [.int v0] [.int s0, .int s1] σ = eJ6_bitCount_0f7a4 b d Q 15 [.int v0] [.int (s1 &&& s0)] σ := q_iand (zCall_mono (zUn b) d) (by decide +kernel : decode cJ6_bitCount_0f7a4 14 = .ok (.iand, 1))
theorem eJ6_bitCount_0f7a4_15 {b : Bool} {d : Nat} {Q : zQ} {σ : zV} {v0 : Int32} {s0 : Int32} : eJ6_bitCount_0f7a4 b d Q 15 [.int v0] [.int s0] σ = eJ6_bitCount_0f7a4 b d Q 16 [.int v0] [.int v0, .int s0] σ := q_iload_n (zCall_mono (zUn b) d) (by decide +kernel : decode cJ6_bitCount_0f7a4 15 = .ok (.iload_n 0, 1)) rfl
theorem eJ6_bitCount_0f7a4_16 {b : Bool} {d : Nat} {Q : zQ} {σ : zV} {v0 : Int32} {s0 : Int32} {s1 : Int32} : eJ6_bitCount_0f7a4 b d Q 16 [.int v0] [.int s0, .int s1] σ = eJ6_bitCount_0f7a4 b d Q 17 [.int v0] [.int 2, .int s0, .int s1] σ := q_iconst (zCall_mono (zUn b) d) (by decide +kernel : decode cJ6_bitCount_0f7a4 16 = .ok (.iconst 2, 1)) (by decide +kernel)
theorem eJ6_bitCount_0f7a4_17 {b : Bool} {d : Nat} {Q : zQ} {σ : zV} {v0 : Int32} {s0 : Int32} {s1 : Int32} {s2 : Int32} : eJ6_bitCount_0f7a4 b d Q 17 [.int v0] [.int s0, .int s1, .int s2] σ = eJ6_bitCount_0f7a4 b d Q 18 [.int v0] [.int (s1.toUInt32 >>> (s0.toUInt32 &&& Int32.toUInt32 31)).toInt32, .int s2] σ := q_iushr (zCall_mono (zUn b) d) (by decide +kernel : decode cJ6_bitCount_0f7a4 17 = .ok (.iushr, 1))
theorem eJ6_bitCount_0f7a4_18 {b : Bool} {d : Nat} {Q : zQ} {σ : zV} {v0 : Int32} {s0 : Int32} {s1 : Int32} : eJ6_bitCount_0f7a4 b d Q 18 [.int v0] [.int s0, .int s1] σ = eJ6_bitCount_0f7a4 b d Q 21 [.int v0] [.int 858993459, .int s0, .int s1] σ := q_ldc_w (zCall_mono (zUn b) d) (by decide +kernel : decode cJ6_bitCount_0f7a4 18 = .ok (.ldc_w 266, 3)) zc_266
theorem eJ6_bitCount_0f7a4_21 {b : Bool} {d : Nat} {Q : zQ} {σ : zV} {v0 : Int32} {s0 : Int32} {s1 : Int32} {s2 : Int32} : eJ6_bitCount_0f7a4 b d Q 21 [.int v0] [.int s0, .int s1, .int s2] σ = eJ6_bitCount_0f7a4 b d Q 22 [.int v0] [.int (s1 &&& s0), .int s2] σ := q_iand (zCall_mono (zUn b) d) (by decide +kernel : decode cJ6_bitCount_0f7a4 21 = .ok (.iand, 1))
theorem eJ6_bitCount_0f7a4_22 {b : Bool} {d : Nat} {Q : zQ} {σ : zV} {v0 : Int32} {s0 : Int32} {s1 : Int32} : eJ6_bitCount_0f7a4 b d Q 22 [.int v0] [.int s0, .int s1] σ = eJ6_bitCount_0f7a4 b d Q 23 [.int v0] [.int (s1 + s0)] σ := q_iadd (zCall_mono (zUn b) d) (by decide +kernel : decode cJ6_bitCount_0f7a4 22 = .ok (.iadd, 1))
theorem eJ6_bitCount_0f7a4_23 {b : Bool} {d : Nat} {Q : zQ} {σ : zV} {v0 : Int32} {s0 : Int32} : eJ6_bitCount_0f7a4 b d Q 23 [.int v0] [.int s0] σ = eJ6_bitCount_0f7a4 b d Q 24 [.int s0] [] σ := q_istore_n (zCall_mono (zUn b) d) (by decide +kernel : decode cJ6_bitCount_0f7a4 23 = .ok (.istore_n 0, 1)) (Nat.le_of_ble_eq_true rfl) trivial rfl
theorem eJ6_bitCount_0f7a4_24 {b : Bool} {d : Nat} {Q : zQ} {σ : zV} {v0 : Int32} : eJ6_bitCount_0f7a4 b d Q 24 [.int v0] [] σ = eJ6_bitCount_0f7a4 b d Q 25 [.int v0] [.int v0] σ := q_iload_n (zCall_mono (zUn b) d) (by decide +kernel : decode cJ6_bitCount_0f7a4 24 = .ok (.iload_n 0, 1)) rfl
theorem eJ6_bitCount_0f7a4_25 {b : Bool} {d : Nat} {Q : zQ} {σ : zV} {v0 : Int32} {s0 : Int32} : eJ6_bitCount_0f7a4 b d Q 25 [.int v0] [.int s0] σ = eJ6_bitCount_0f7a4 b d Q 26 [.int v0] [.int v0, .int s0] σ := q_iload_n (zCall_mono (zUn b) d) (by decide +kernel : decode cJ6_bitCount_0f7a4 25 = .ok (.iload_n 0, 1)) rfl
theorem eJ6_bitCount_0f7a4_26 {b : Bool} {d : Nat} {Q : zQ} {σ : zV} {v0 : Int32} {s0 : Int32} {s1 : Int32} : eJ6_bitCount_0f7a4 b d Q 26 [.int v0] [.int s0, .int s1] σ = eJ6_bitCount_0f7a4 b d Q 27 [.int v0] [.int 4, .int s0, .int s1] σ := q_iconst (zCall_mono (zUn b) d) (by decide +kernel : decode cJ6_bitCount_0f7a4 26 = .ok (.iconst 4, 1)) (by decide +kernel)
theorem eJ6_bitCount_0f7a4_27 {b : Bool} {d : Nat} {Q : zQ} {σ : zV} {v0 : Int32} {s0 : Int32} {s1 : Int32} {s2 : Int32} : eJ6_bitCount_0f7a4 b d Q 27 [.int v0] [.int s0, .int s1, .int s2] σ = eJ6_bitCount_0f7a4 b d Q 28 [.int v0] [.int (s1.toUInt32 >>> (s0.toUInt32 &&& Int32.toUInt32 31)).toInt32, .int s2] σ := q_iushr (zCall_mono (zUn b) d) (by decide +kernel : decode cJ6_bitCount_0f7a4 27 = .ok (.iushr, 1))
theorem eJ6_bitCount_0f7a4_28 {b : Bool} {d : Nat} {Q : zQ} {σ : zV} {v0 : Int32} {s0 : Int32} {s1 : Int32} : eJ6_bitCount_0f7a4 b d Q 28 [.int v0] [.int s0, .int s1] σ = eJ6_bitCount_0f7a4 b d Q 29 [.int v0] [.int (s1 + s0)] σ := q_iadd (zCall_mono (zUn b) d) (by decide +kernel : decode cJ6_bitCount_0f7a4 28 = .ok (.iadd, 1))
theorem eJ6_bitCount_0f7a4_29 {b : Bool} {d : Nat} {Q : zQ} {σ : zV} {v0 : Int32} {s0 : Int32} : eJ6_bitCount_0f7a4 b d Q 29 [.int v0] [.int s0] σ = eJ6_bitCount_0f7a4 b d Q 32 [.int v0] [.int 252645135, .int s0] σ := q_ldc_w (zCall_mono (zUn b) d) (by decide +kernel : decode cJ6_bitCount_0f7a4 29 = .ok (.ldc_w 267, 3)) zc_267
theorem eJ6_bitCount_0f7a4_32 {b : Bool} {d : Nat} {Q : zQ} {σ : zV} {v0 : Int32} {s0 : Int32} {s1 : Int32} : eJ6_bitCount_0f7a4 b d Q 32 [.int v0] [.int s0, .int s1] σ = eJ6_bitCount_0f7a4 b d Q 33 [.int v0] [.int (s1 &&& s0)] σ := q_iand (zCall_mono (zUn b) d) (by decide +kernel : decode cJ6_bitCount_0f7a4 32 = .ok (.iand, 1))
theorem eJ6_bitCount_0f7a4_33 {b : Bool} {d : Nat} {Q : zQ} {σ : zV} {v0 : Int32} {s0 : Int32} : eJ6_bitCount_0f7a4 b d Q 33 [.int v0] [.int s0] σ = eJ6_bitCount_0f7a4 b d Q 34 [.int s0] [] σ := q_istore_n (zCall_mono (zUn b) d) (by decide +kernel : decode cJ6_bitCount_0f7a4 33 = .ok (.istore_n 0, 1)) (Nat.le_of_ble_eq_true rfl) trivial rfl
theorem eJ6_bitCount_0f7a4_34 {b : Bool} {d : Nat} {Q : zQ} {σ : zV} {v0 : Int32} : eJ6_bitCount_0f7a4 b d Q 34 [.int v0] [] σ = eJ6_bitCount_0f7a4 b d Q 35 [.int v0] [.int v0] σ := q_iload_n (zCall_mono (zUn b) d) (by decide +kernel : decode cJ6_bitCount_0f7a4 34 = .ok (.iload_n 0, 1)) rfl
theorem eJ6_bitCount_0f7a4_35 {b : Bool} {d : Nat} {Q : zQ} {σ : zV} {v0 : Int32} {s0 : Int32} : eJ6_bitCount_0f7a4 b d Q 35 [.int v0] [.int s0] σ = eJ6_bitCount_0f7a4 b d Q 36 [.int v0] [.int v0, .int s0] σ := q_iload_n (zCall_mono (zUn b) d) (by decide +kernel : decode cJ6_bitCount_0f7a4 35 = .ok (.iload_n 0, 1)) rfl
theorem eJ6_bitCount_0f7a4_36 {b : Bool} {d : Nat} {Q : zQ} {σ : zV} {v0 : Int32} {s0 : Int32} {s1 : Int32} : eJ6_bitCount_0f7a4 b d Q 36 [.int v0] [.int s0, .int s1] σ = eJ6_bitCount_0f7a4 b d Q 38 [.int v0] [.int 8, .int s0, .int s1] σ := q_bipush (zCall_mono (zUn b) d) (by decide +kernel : decode cJ6_bitCount_0f7a4 36 = .ok (.bipush 8, 2)) (by decide +kernel)
theorem eJ6_bitCount_0f7a4_38 {b : Bool} {d : Nat} {Q : zQ} {σ : zV} {v0 : Int32} {s0 : Int32} {s1 : Int32} {s2 : Int32} : eJ6_bitCount_0f7a4 b d Q 38 [.int v0] [.int s0, .int s1, .int s2] σ = eJ6_bitCount_0f7a4 b d Q 39 [.int v0] [.int (s1.toUInt32 >>> (s0.toUInt32 &&& Int32.toUInt32 31)).toInt32, .int s2] σ := q_iushr (zCall_mono (zUn b) d) (by decide +kernel : decode cJ6_bitCount_0f7a4 38 = .ok (.iushr, 1))
theorem eJ6_bitCount_0f7a4_39 {b : Bool} {d : Nat} {Q : zQ} {σ : zV} {v0 : Int32} {s0 : Int32} {s1 : Int32} : eJ6_bitCount_0f7a4 b d Q 39 [.int v0] [.int s0, .int s1] σ = eJ6_bitCount_0f7a4 b d Q 40 [.int v0] [.int (s1 + s0)] σ := q_iadd (zCall_mono (zUn b) d) (by decide +kernel : decode cJ6_bitCount_0f7a4 39 = .ok (.iadd, 1))
theorem eJ6_bitCount_0f7a4_40 {b : Bool} {d : Nat} {Q : zQ} {σ : zV} {v0 : Int32} {s0 : Int32} : eJ6_bitCount_0f7a4 b d Q 40 [.int v0] [.int s0] σ = eJ6_bitCount_0f7a4 b d Q 41 [.int s0] [] σ := q_istore_n (zCall_mono (zUn b) d) (by decide +kernel : decode cJ6_bitCount_0f7a4 40 = .ok (.istore_n 0, 1)) (Nat.le_of_ble_eq_true rfl) trivial rfl
theorem eJ6_bitCount_0f7a4_41 {b : Bool} {d : Nat} {Q : zQ} {σ : zV} {v0 : Int32} : eJ6_bitCount_0f7a4 b d Q 41 [.int v0] [] σ = eJ6_bitCount_0f7a4 b d Q 42 [.int v0] [.int v0] σ := q_iload_n (zCall_mono (zUn b) d) (by decide +kernel : decode cJ6_bitCount_0f7a4 41 = .ok (.iload_n 0, 1)) rfl
theorem eJ6_bitCount_0f7a4_42 {b : Bool} {d : Nat} {Q : zQ} {σ : zV} {v0 : Int32} {s0 : Int32} : eJ6_bitCount_0f7a4 b d Q 42 [.int v0] [.int s0] σ = eJ6_bitCount_0f7a4 b d Q 43 [.int v0] [.int v0, .int s0] σ := q_iload_n (zCall_mono (zUn b) d) (by decide +kernel : decode cJ6_bitCount_0f7a4 42 = .ok (.iload_n 0, 1)) rfl
theorem eJ6_bitCount_0f7a4_43 {b : Bool} {d : Nat} {Q : zQ} {σ : zV} {v0 : Int32} {s0 : Int32} {s1 : Int32} : eJ6_bitCount_0f7a4 b d Q 43 [.int v0] [.int s0, .int s1] σ = eJ6_bitCount_0f7a4 b d Q 45 [.int v0] [.int 16, .int s0, .int s1] σ := q_bipush (zCall_mono (zUn b) d) (by decide +kernel : decode cJ6_bitCount_0f7a4 43 = .ok (.bipush 16, 2)) (by decide +kernel)
theorem eJ6_bitCount_0f7a4_45 {b : Bool} {d : Nat} {Q : zQ} {σ : zV} {v0 : Int32} {s0 : Int32} {s1 : Int32} {s2 : Int32} : eJ6_bitCount_0f7a4 b d Q 45 [.int v0] [.int s0, .int s1, .int s2] σ = eJ6_bitCount_0f7a4 b d Q 46 [.int v0] [.int (s1.toUInt32 >>> (s0.toUInt32 &&& Int32.toUInt32 31)).toInt32, .int s2] σ := q_iushr (zCall_mono (zUn b) d) (by decide +kernel : decode cJ6_bitCount_0f7a4 45 = .ok (.iushr, 1))
theorem eJ6_bitCount_0f7a4_46 {b : Bool} {d : Nat} {Q : zQ} {σ : zV} {v0 : Int32} {s0 : Int32} {s1 : Int32} : eJ6_bitCount_0f7a4 b d Q 46 [.int v0] [.int s0, .int s1] σ = eJ6_bitCount_0f7a4 b d Q 47 [.int v0] [.int (s1 + s0)] σ := q_iadd (zCall_mono (zUn b) d) (by decide +kernel : decode cJ6_bitCount_0f7a4 46 = .ok (.iadd, 1))
theorem eJ6_bitCount_0f7a4_47 {b : Bool} {d : Nat} {Q : zQ} {σ : zV} {v0 : Int32} {s0 : Int32} : eJ6_bitCount_0f7a4 b d Q 47 [.int v0] [.int s0] σ = eJ6_bitCount_0f7a4 b d Q 48 [.int s0] [] σ := q_istore_n (zCall_mono (zUn b) d) (by decide +kernel : decode cJ6_bitCount_0f7a4 47 = .ok (.istore_n 0, 1)) (Nat.le_of_ble_eq_true rfl) trivial rfl
theorem eJ6_bitCount_0f7a4_48 {b : Bool} {d : Nat} {Q : zQ} {σ : zV} {v0 : Int32} : eJ6_bitCount_0f7a4 b d Q 48 [.int v0] [] σ = eJ6_bitCount_0f7a4 b d Q 49 [.int v0] [.int v0] σ := q_iload_n (zCall_mono (zUn b) d) (by decide +kernel : decode cJ6_bitCount_0f7a4 48 = .ok (.iload_n 0, 1)) rfl
theorem eJ6_bitCount_0f7a4_49 {b : Bool} {d : Nat} {Q : zQ} {σ : zV} {v0 : Int32} {s0 : Int32} : eJ6_bitCount_0f7a4 b d Q 49 [.int v0] [.int s0] σ = eJ6_bitCount_0f7a4 b d Q 51 [.int v0] [.int 63, .int s0] σ := q_bipush (zCall_mono (zUn b) d) (by decide +kernel : decode cJ6_bitCount_0f7a4 49 = .ok (.bipush 63, 2)) (by decide +kernel)
theorem eJ6_bitCount_0f7a4_51 {b : Bool} {d : Nat} {Q : zQ} {σ : zV} {v0 : Int32} {s0 : Int32} {s1 : Int32} : eJ6_bitCount_0f7a4 b d Q 51 [.int v0] [.int s0, .int s1] σ = eJ6_bitCount_0f7a4 b d Q 52 [.int v0] [.int (s1 &&& s0)] σ := q_iand (zCall_mono (zUn b) d) (by decide +kernel : decode cJ6_bitCount_0f7a4 51 = .ok (.iand, 1))
theorem eJ6_bitCount_0f7a4_52 {b : Bool} {d : Nat} {Q : zQ} {σ : zV} {v0 : Int32} {s0 : Int32} : eJ6_bitCount_0f7a4 b d Q 52 [.int v0] [.int s0] σ = Q (some (.int s0)) σ := q_iret (zCall_mono (zUn b) d) (by decide +kernel : decode cJ6_bitCount_0f7a4 52 = .ok (.ireturn, 1)) rfl
theorem nJ6_bitCount_0f7a4 {b : Bool} {d : Nat} {Q : zQ} {σ : zV} {v0 : Int32} : zCall (zUn b) (d + 1) yJ6_bitCount_0f7a4 [.int v0] σ Q = eJ6_bitCount_0f7a4 b d Q 0 [.int v0] [] σ := (q_call kJ6_bitCount_0f7a4 (Nat.le_of_ble_eq_true rfl)).trans rfl
def eJ7_fill_49daa (b : Bool) (d : Nat) (Q : zQ) : zP := zEv (zUn b) (zCall (zUn b) d) RJ7 cJ7_fill_49daa 4 none none Q
theorem eJ7_fill_49daa_0 {b : Bool} {d : Nat} {Q : zQ} {σ : zV} {a : Nat} {v1 : Int32} : eJ7_fill_49daa b d Q 0 [.ref a, .int v1, .null, .null] [] σ = eJ7_fill_49daa b d Q 1 [.ref a, .int v1, .null, .null] [.int 0] σ := q_iconst (zCall_mono (zUn b) d) (by decide +kernel : decode cJ7_fill_49daa 0 = .ok (.iconst 0, 1)) (by decide +kernel)
theorem eJ7_fill_49daa_1 {b : Bool} {d : Nat} {Q : zQ} {σ : zV} {a : Nat} {v1 : Int32} {s0 : Int32} : eJ7_fill_49daa b d Q 1 [.ref a, .int v1, .null, .null] [.int s0] σ = eJ7_fill_49daa b d Q 2 [.ref a, .int v1, .int s0, .null] [] σ := q_istore_n (zCall_mono (zUn b) d) (by decide +kernel : decode cJ7_fill_49daa 1 = .ok (.istore_n 2, 1)) (Nat.le_of_ble_eq_true rfl) (fun v h => by cases h; rfl) rfl
theorem eJ7_fill_49daa_2 {b : Bool} {d : Nat} {Q : zQ} {σ : zV} {a : Nat} {v1 : Int32} {v2 : Int32} : eJ7_fill_49daa b d Q 2 [.ref a, .int v1, .int v2, .null] [] σ = eJ7_fill_49daa b d Q 3 [.ref a, .int v1, .int v2, .null] [.ref a] σ := q_aload_n (zCall_mono (zUn b) d) (by decide +kernel : decode cJ7_fill_49daa 2 = .ok (.aload_n 0, 1)) rfl
theorem eJ7_fill_49daa_3 {b : Bool} {d : Nat} {Q : zQ} {σ : zV} {a : Nat} {v1 : Int32} {v2 : Int32} {n : Nat} {bz : Bool} (ha : (zUn b)[a]? = some (.inl (bz, n))) : eJ7_fill_49daa b d Q 3 [.ref a, .int v1, .int v2, .null] [.ref a] σ = eJ7_fill_49daa b d Q 4 [.ref a, .int v1, .int v2, .null] [.int (nI n)] σ := q_alen (zCall_mono (zUn b) d) (by decide +kernel : decode cJ7_fill_49daa 3 = .ok (.arraylength, 1)) ha
theorem eJ7_fill_49daa_4 {b : Bool} {d : Nat} {Q : zQ} {σ : zV} {a : Nat} {v1 : Int32} {v2 : Int32} {s0 : Int32} : eJ7_fill_49daa b d Q 4 [.ref a, .int v1, .int v2, .null] [.int s0] σ = eJ7_fill_49daa b d Q 5 [.ref a, .int v1, .int v2, .int s0] [] σ := q_istore_n (zCall_mono (zUn b) d) (by decide +kernel : decode cJ7_fill_49daa 4 = .ok (.istore_n 3, 1)) (Nat.le_of_ble_eq_true rfl) (fun v h => by cases h; rfl) rfl
theorem eJ7_fill_49daa_5 {b : Bool} {d : Nat} {Q : zQ} {σ : zV} {a : Nat} {v1 : Int32} {v2 : Int32} {v3 : Int32} : eJ7_fill_49daa b d Q 5 [.ref a, .int v1, .int v2, .int v3] [] σ = eJ7_fill_49daa b d Q 6 [.ref a, .int v1, .int v2, .int v3] [.int v2] σ := q_iload_n (zCall_mono (zUn b) d) (by decide +kernel : decode cJ7_fill_49daa 5 = .ok (.iload_n 2, 1)) rfl
theorem eJ7_fill_49daa_6 {b : Bool} {d : Nat} {Q : zQ} {σ : zV} {a : Nat} {v1 : Int32} {v2 : Int32} {v3 : Int32} {s0 : Int32} : eJ7_fill_49daa b d Q 6 [.ref a, .int v1, .int v2, .int v3] [.int s0] σ = eJ7_fill_49daa b d Q 7 [.ref a, .int v1, .int v2, .int v3] [.int v3, .int s0] σ := q_iload_n (zCall_mono (zUn b) d) (by decide +kernel : decode cJ7_fill_49daa 6 = .ok (.iload_n 3, 1)) rfl
theorem eJ7_fill_49daa_7 {b : Bool} {d : Nat} {Q : zQ} {σ : zV} {a : Nat} {v1 : Int32} {v2 : Int32} {v3 : Int32} {s0 : Int32} {s1 : Int32} : eJ7_fill_49daa b d Q 7 [.ref a, .int v1, .int v2, .int v3] [.int s0, .int s1] σ = ((s0 ≤ s1 → eJ7_fill_49daa b d Q 20 [.ref a, .int v1, .int v2, .int v3] [] σ) ∧ (¬ s0 ≤ s1 → eJ7_fill_49daa b d Q 10 [.ref a, .int v1, .int v2, .int v3] [] σ)) := q_icmp (zCall_mono (zUn b) d) (by decide +kernel : decode cJ7_fill_49daa 7 = .ok (.if_icmp .ge 13, 3)) (by decide)
theorem eJ7_fill_49daa_10 {b : Bool} {d : Nat} {Q : zQ} {σ : zV} {a : Nat} {v1 : Int32} {v2 : Int32} {v3 : Int32} : eJ7_fill_49daa b d Q 10 [.ref a, .int v1, .int v2, .int v3] [] σ = eJ7_fill_49daa b d Q 11 [.ref a, .int v1, .int v2, .int v3] [.ref a] σ := q_aload_n (zCall_mono (zUn b) d) (by decide +kernel : decode cJ7_fill_49daa 10 = .ok (.aload_n 0, 1)) rfl
theorem eJ7_fill_49daa_11 {b : Bool} {d : Nat} {Q : zQ} {σ : zV} {a : Nat} {v1 : Int32} {v2 : Int32} {v3 : Int32} : eJ7_fill_49daa b d Q 11 [.ref a, .int v1, .int v2, .int v3] [.ref a] σ = eJ7_fill_49daa b d Q 12 [.ref a, .int v1, .int v2, .int v3] [.int v2, .ref a] σ := q_iload_n (zCall_mono (zUn b) d) (by decide +kernel : decode cJ7_fill_49daa 11 = .ok (.iload_n 2, 1)) rfl
theorem eJ7_fill_49daa_12 {b : Bool} {d : Nat} {Q : zQ} {σ : zV} {a : Nat} {v1 : Int32} {v2 : Int32} {v3 : Int32} {s0 : Int32} : eJ7_fill_49daa b d Q 12 [.ref a, .int v1, .int v2, .int v3] [.int s0, .ref a] σ = eJ7_fill_49daa b d Q 13 [.ref a, .int v1, .int v2, .int v3] [.int v1, .int s0, .ref a] σ := q_iload_n (zCall_mono (zUn b) d) (by decide +kernel : decode cJ7_fill_49daa 12 = .ok (.iload_n 1, 1)) rfl
theorem eJ7_fill_49daa_13 {b : Bool} {d : Nat} {Q : zQ} {σ : zV} {a : Nat} {v1 : Int32} {v2 : Int32} {v3 : Int32} {s0 : Int32} {s1 : Int32} {n : Nat} (ha : (zUn b)[a]? = some (.inl (true, n))) : eJ7_fill_49daa b d Q 13 [.ref a, .int v1, .int v2, .int v3] [.int s0, .int s1, .ref a] σ = (vp_in s1 n ∧ eJ7_fill_49daa b d Q 14 [.ref a, .int v1, .int v2, .int v3] [] (zput σ a s1.toNatClampNeg (vp_nar .boolean s0))) := q_bast (zCall_mono (zUn b) d) (by decide +kernel : decode cJ7_fill_49daa 13 = .ok (.bastore, 1)) ha
theorem eJ7_fill_49daa_14 {b : Bool} {d : Nat} {Q : zQ} {σ : zV} {a : Nat} {v1 : Int32} {v2 : Int32} {v3 : Int32} : eJ7_fill_49daa b d Q 14 [.ref a, .int v1, .int v2, .int v3] [] σ = eJ7_fill_49daa b d Q 17 [.ref a, .int v1, .int (v2 + 1), .int v3] [] σ := q_iinc (zCall_mono (zUn b) d) (by decide +kernel : decode cJ7_fill_49daa 14 = .ok (.iinc 2 1, 3)) rfl (Nat.le_of_ble_eq_true rfl) (fun v h => by cases h; rfl) (by decide +kernel) rfl
theorem eJ7_fill_49daa_17 {b : Bool} {d : Nat} {Q : zQ} {σ : zV} {a : Nat} {v1 : Int32} {v2 : Int32} {v3 : Int32} : eJ7_fill_49daa b d Q 17 [.ref a, .int v1, .int v2, .int v3] [] σ = eJ7_fill_49daa b d Q 5 [.ref a, .int v1, .int v2, .int v3] [] σ := q_goto (zCall_mono (zUn b) d) (by decide +kernel : decode cJ7_fill_49daa 17 = .ok (.goto (-12), 3)) (by decide)
theorem eJ7_fill_49daa_20 {b : Bool} {d : Nat} {Q : zQ} {σ : zV} {a : Nat} {v1 : Int32} {v2 : Int32} {v3 : Int32} : eJ7_fill_49daa b d Q 20 [.ref a, .int v1, .int v2, .int v3] [] σ = Q none σ := q_vret (zCall_mono (zUn b) d) (by decide +kernel : decode cJ7_fill_49daa 20 = .ok (.return_, 1)) rfl
theorem nJ7_fill_49daa {b : Bool} {d : Nat} {Q : zQ} {σ : zV} {a : Nat} {v1 : Int32} : zCall (zUn b) (d + 1) yJ7_fill_49daa [.ref a, .int v1] σ Q = eJ7_fill_49daa b d Q 0 [.ref a, .int v1, .null, .null] [] σ := (q_call kJ7_fill_49daa (Nat.le_of_ble_eq_true rfl)).trans rfl
def eJ7_fill_53178 (b : Bool) (d : Nat) (Q : zQ) : zP := zEv (zUn b) (zCall (zUn b) d) RJ7 cJ7_fill_53178 4 none none Q
theorem eJ7_fill_53178_0 {b : Bool} {d : Nat} {Q : zQ} {σ : zV} {a : Nat} {v1 : Int32} : eJ7_fill_53178 b d Q 0 [.ref a, .int v1, .null, .null] [] σ = eJ7_fill_53178 b d Q 1 [.ref a, .int v1, .null, .null] [.int 0] σ := q_iconst (zCall_mono (zUn b) d) (by decide +kernel : decode cJ7_fill_53178 0 = .ok (.iconst 0, 1)) (by decide +kernel)
theorem eJ7_fill_53178_1 {b : Bool} {d : Nat} {Q : zQ} {σ : zV} {a : Nat} {v1 : Int32} {s0 : Int32} : eJ7_fill_53178 b d Q 1 [.ref a, .int v1, .null, .null] [.int s0] σ = eJ7_fill_53178 b d Q 2 [.ref a, .int v1, .int s0, .null] [] σ := q_istore_n (zCall_mono (zUn b) d) (by decide +kernel : decode cJ7_fill_53178 1 = .ok (.istore_n 2, 1)) (Nat.le_of_ble_eq_true rfl) (fun v h => by cases h; rfl) rfl
theorem eJ7_fill_53178_2 {b : Bool} {d : Nat} {Q : zQ} {σ : zV} {a : Nat} {v1 : Int32} {v2 : Int32} : eJ7_fill_53178 b d Q 2 [.ref a, .int v1, .int v2, .null] [] σ = eJ7_fill_53178 b d Q 3 [.ref a, .int v1, .int v2, .null] [.ref a] σ := q_aload_n (zCall_mono (zUn b) d) (by decide +kernel : decode cJ7_fill_53178 2 = .ok (.aload_n 0, 1)) rfl
theorem eJ7_fill_53178_3 {b : Bool} {d : Nat} {Q : zQ} {σ : zV} {a : Nat} {v1 : Int32} {v2 : Int32} {n : Nat} {bz : Bool} (ha : (zUn b)[a]? = some (.inl (bz, n))) : eJ7_fill_53178 b d Q 3 [.ref a, .int v1, .int v2, .null] [.ref a] σ = eJ7_fill_53178 b d Q 4 [.ref a, .int v1, .int v2, .null] [.int (nI n)] σ := q_alen (zCall_mono (zUn b) d) (by decide +kernel : decode cJ7_fill_53178 3 = .ok (.arraylength, 1)) ha
theorem eJ7_fill_53178_4 {b : Bool} {d : Nat} {Q : zQ} {σ : zV} {a : Nat} {v1 : Int32} {v2 : Int32} {s0 : Int32} : eJ7_fill_53178 b d Q 4 [.ref a, .int v1, .int v2, .null] [.int s0] σ = eJ7_fill_53178 b d Q 5 [.ref a, .int v1, .int v2, .int s0] [] σ := q_istore_n (zCall_mono (zUn b) d) (by decide +kernel : decode cJ7_fill_53178 4 = .ok (.istore_n 3, 1)) (Nat.le_of_ble_eq_true rfl) (fun v h => by cases h; rfl) rfl
theorem eJ7_fill_53178_5 {b : Bool} {d : Nat} {Q : zQ} {σ : zV} {a : Nat} {v1 : Int32} {v2 : Int32} {v3 : Int32} : eJ7_fill_53178 b d Q 5 [.ref a, .int v1, .int v2, .int v3] [] σ = eJ7_fill_53178 b d Q 6 [.ref a, .int v1, .int v2, .int v3] [.int v2] σ := q_iload_n (zCall_mono (zUn b) d) (by decide +kernel : decode cJ7_fill_53178 5 = .ok (.iload_n 2, 1)) rfl
theorem eJ7_fill_53178_6 {b : Bool} {d : Nat} {Q : zQ} {σ : zV} {a : Nat} {v1 : Int32} {v2 : Int32} {v3 : Int32} {s0 : Int32} : eJ7_fill_53178 b d Q 6 [.ref a, .int v1, .int v2, .int v3] [.int s0] σ = eJ7_fill_53178 b d Q 7 [.ref a, .int v1, .int v2, .int v3] [.int v3, .int s0] σ := q_iload_n (zCall_mono (zUn b) d) (by decide +kernel : decode cJ7_fill_53178 6 = .ok (.iload_n 3, 1)) rfl
theorem eJ7_fill_53178_7 {b : Bool} {d : Nat} {Q : zQ} {σ : zV} {a : Nat} {v1 : Int32} {v2 : Int32} {v3 : Int32} {s0 : Int32} {s1 : Int32} : eJ7_fill_53178 b d Q 7 [.ref a, .int v1, .int v2, .int v3] [.int s0, .int s1] σ = ((s0 ≤ s1 → eJ7_fill_53178 b d Q 20 [.ref a, .int v1, .int v2, .int v3] [] σ) ∧ (¬ s0 ≤ s1 → eJ7_fill_53178 b d Q 10 [.ref a, .int v1, .int v2, .int v3] [] σ)) := q_icmp (zCall_mono (zUn b) d) (by decide +kernel : decode cJ7_fill_53178 7 = .ok (.if_icmp .ge 13, 3)) (by decide)
theorem eJ7_fill_53178_10 {b : Bool} {d : Nat} {Q : zQ} {σ : zV} {a : Nat} {v1 : Int32} {v2 : Int32} {v3 : Int32} : eJ7_fill_53178 b d Q 10 [.ref a, .int v1, .int v2, .int v3] [] σ = eJ7_fill_53178 b d Q 11 [.ref a, .int v1, .int v2, .int v3] [.ref a] σ := q_aload_n (zCall_mono (zUn b) d) (by decide +kernel : decode cJ7_fill_53178 10 = .ok (.aload_n 0, 1)) rfl
theorem eJ7_fill_53178_11 {b : Bool} {d : Nat} {Q : zQ} {σ : zV} {a : Nat} {v1 : Int32} {v2 : Int32} {v3 : Int32} : eJ7_fill_53178 b d Q 11 [.ref a, .int v1, .int v2, .int v3] [.ref a] σ = eJ7_fill_53178 b d Q 12 [.ref a, .int v1, .int v2, .int v3] [.int v2, .ref a] σ := q_iload_n (zCall_mono (zUn b) d) (by decide +kernel : decode cJ7_fill_53178 11 = .ok (.iload_n 2, 1)) rfl
theorem eJ7_fill_53178_12 {b : Bool} {d : Nat} {Q : zQ} {σ : zV} {a : Nat} {v1 : Int32} {v2 : Int32} {v3 : Int32} {s0 : Int32} : eJ7_fill_53178 b d Q 12 [.ref a, .int v1, .int v2, .int v3] [.int s0, .ref a] σ = eJ7_fill_53178 b d Q 13 [.ref a, .int v1, .int v2, .int v3] [.int v1, .int s0, .ref a] σ := q_iload_n (zCall_mono (zUn b) d) (by decide +kernel : decode cJ7_fill_53178 12 = .ok (.iload_n 1, 1)) rfl
theorem eJ7_fill_53178_13 {b : Bool} {d : Nat} {Q : zQ} {σ : zV} {a : Nat} {v1 : Int32} {v2 : Int32} {v3 : Int32} {s0 : Int32} {s1 : Int32} {n : Nat} (ha : (zUn b)[a]? = some (.inl (false, n))) : eJ7_fill_53178 b d Q 13 [.ref a, .int v1, .int v2, .int v3] [.int s0, .int s1, .ref a] σ = (vp_in s1 n ∧ eJ7_fill_53178 b d Q 14 [.ref a, .int v1, .int v2, .int v3] [] (zput σ a s1.toNatClampNeg s0)) := q_iast (zCall_mono (zUn b) d) (by decide +kernel : decode cJ7_fill_53178 13 = .ok (.iastore, 1)) ha
theorem eJ7_fill_53178_14 {b : Bool} {d : Nat} {Q : zQ} {σ : zV} {a : Nat} {v1 : Int32} {v2 : Int32} {v3 : Int32} : eJ7_fill_53178 b d Q 14 [.ref a, .int v1, .int v2, .int v3] [] σ = eJ7_fill_53178 b d Q 17 [.ref a, .int v1, .int (v2 + 1), .int v3] [] σ := q_iinc (zCall_mono (zUn b) d) (by decide +kernel : decode cJ7_fill_53178 14 = .ok (.iinc 2 1, 3)) rfl (Nat.le_of_ble_eq_true rfl) (fun v h => by cases h; rfl) (by decide +kernel) rfl
theorem eJ7_fill_53178_17 {b : Bool} {d : Nat} {Q : zQ} {σ : zV} {a : Nat} {v1 : Int32} {v2 : Int32} {v3 : Int32} : eJ7_fill_53178 b d Q 17 [.ref a, .int v1, .int v2, .int v3] [] σ = eJ7_fill_53178 b d Q 5 [.ref a, .int v1, .int v2, .int v3] [] σ := q_goto (zCall_mono (zUn b) d) (by decide +kernel : decode cJ7_fill_53178 17 = .ok (.goto (-12), 3)) (by decide)
theorem eJ7_fill_53178_20 {b : Bool} {d : Nat} {Q : zQ} {σ : zV} {a : Nat} {v1 : Int32} {v2 : Int32} {v3 : Int32} : eJ7_fill_53178 b d Q 20 [.ref a, .int v1, .int v2, .int v3] [] σ = Q none σ := q_vret (zCall_mono (zUn b) d) (by decide +kernel : decode cJ7_fill_53178 20 = .ok (.return_, 1)) rfl
theorem nJ7_fill_53178 {b : Bool} {d : Nat} {Q : zQ} {σ : zV} {a : Nat} {v1 : Int32} : zCall (zUn b) (d + 1) yJ7_fill_53178 [.ref a, .int v1] σ Q = eJ7_fill_53178 b d Q 0 [.ref a, .int v1, .null, .null] [] σ := (q_call kJ7_fill_53178 (Nat.le_of_ble_eq_true rfl)).trans rfl
def eX0_generation (b : Bool) (d : Nat) (Q : zQ) : zP := zEv (zUn b) (zCall (zUn b) d) RX0 cX0_generation 3 (some .int) none Q
theorem eX0_generation_0 {b : Bool} {d : Nat} {Q : zQ} {σ : zV} {v1 : Int32} {v2 : Int32} : eX0_generation b d Q 0 [.ref 6, .int v1, .int v2] [] σ = eX0_generation b d Q 1 [.ref 6, .int v1, .int v2] [.ref 6] σ := q_aload_n (zCall_mono (zUn b) d) (by decide +kernel : decode cX0_generation 0 = .ok (.aload_n 0, 1)) rfl
theorem eX0_generation_1 {b : Bool} {d : Nat} {Q : zQ} {σ : zV} {v1 : Int32} {v2 : Int32} : eX0_generation b d Q 1 [.ref 6, .int v1, .int v2] [.ref 6] σ = eX0_generation b d Q 4 [.ref 6, .int v1, .int v2] [.ref 10] σ := q_getR (zCall_mono (zUn b) d) (by decide +kernel : decode cX0_generation 1 = .ok (.getfield 22, 3)) zf_RX0_22 (u_6 b) rfl
theorem eX0_generation_4 {b : Bool} {d : Nat} {Q : zQ} {σ : zV} {v1 : Int32} {v2 : Int32} : eX0_generation b d Q 4 [.ref 6, .int v1, .int v2] [.ref 10] σ = eX0_generation b d Q 5 [.ref 6, .int v1, .int v2] [.int v1, .ref 10] σ := q_iload_n (zCall_mono (zUn b) d) (by decide +kernel : decode cX0_generation 4 = .ok (.iload_n 1, 1)) rfl
theorem eX0_generation_5 {b : Bool} {d : Nat} {Q : zQ} {σ : zV} {v1 : Int32} {v2 : Int32} {s0 : Int32} : eX0_generation b d Q 5 [.ref 6, .int v1, .int v2] [.int s0, .ref 10] σ = eX0_generation b d Q 6 [.ref 6, .int v1, .int v2] [.int 3, .int s0, .ref 10] σ := q_iconst (zCall_mono (zUn b) d) (by decide +kernel : decode cX0_generation 5 = .ok (.iconst 3, 1)) (by decide +kernel)
theorem eX0_generation_6 {b : Bool} {d : Nat} {Q : zQ} {σ : zV} {v1 : Int32} {v2 : Int32} {s0 : Int32} {s1 : Int32} : eX0_generation b d Q 6 [.ref 6, .int v1, .int v2] [.int s0, .int s1, .ref 10] σ = eX0_generation b d Q 7 [.ref 6, .int v1, .int v2] [.int (s1 * s0), .ref 10] σ := q_imul (zCall_mono (zUn b) d) (by decide +kernel : decode cX0_generation 6 = .ok (.imul, 1))
theorem eX0_generation_7 {b : Bool} {d : Nat} {Q : zQ} {σ : zV} {v1 : Int32} {v2 : Int32} {s0 : Int32} : eX0_generation b d Q 7 [.ref 6, .int v1, .int v2] [.int s0, .ref 10] σ = eX0_generation b d Q 8 [.ref 6, .int v1, .int v2] [.int v2, .int s0, .ref 10] σ := q_iload_n (zCall_mono (zUn b) d) (by decide +kernel : decode cX0_generation 7 = .ok (.iload_n 2, 1)) rfl
theorem eX0_generation_8 {b : Bool} {d : Nat} {Q : zQ} {σ : zV} {v1 : Int32} {v2 : Int32} {s0 : Int32} {s1 : Int32} : eX0_generation b d Q 8 [.ref 6, .int v1, .int v2] [.int s0, .int s1, .ref 10] σ = eX0_generation b d Q 9 [.ref 6, .int v1, .int v2] [.int (s1 + s0), .ref 10] σ := q_iadd (zCall_mono (zUn b) d) (by decide +kernel : decode cX0_generation 8 = .ok (.iadd, 1))
theorem eX0_generation_9 {b : Bool} {d : Nat} {Q : zQ} {σ : zV} {v1 : Int32} {v2 : Int32} {s0 : Int32} : eX0_generation b d Q 9 [.ref 6, .int v1, .int v2] [.int s0, .ref 10] σ = (vp_in s0 12 ∧ eX0_generation b d Q 10 [.ref 6, .int v1, .int v2] [.int (σ 10 s0.toNatClampNeg)] σ) := q_iald (zCall_mono (zUn b) d) (by decide +kernel : decode cX0_generation 9 = .ok (.iaload, 1)) (u_10 b)
theorem eX0_generation_10 {b : Bool} {d : Nat} {Q : zQ} {σ : zV} {v1 : Int32} {v2 : Int32} {s0 : Int32} : eX0_generation b d Q 10 [.ref 6, .int v1, .int v2] [.int s0] σ = Q (some (.int s0)) σ := q_iret (zCall_mono (zUn b) d) (by decide +kernel : decode cX0_generation 10 = .ok (.ireturn, 1)) rfl
theorem nX0_generation {b : Bool} {d : Nat} {Q : zQ} {σ : zV} {v1 : Int32} {v2 : Int32} : zCall (zUn b) (d + 1) yX0_generation [.ref 6, .int v1, .int v2] σ Q = eX0_generation b d Q 0 [.ref 6, .int v1, .int v2] [] σ := (q_call kX0_generation (Nat.le_of_ble_eq_true rfl)).trans rfl
def eX0_isAwakeIn (b : Bool) (d : Nat) (Q : zQ) : zP := zEv (zUn b) (zCall (zUn b) d) RX0 cX0_isAwakeIn 3 (some .boolean) none Q
theorem eX0_isAwakeIn_0 {b : Bool} {d : Nat} {Q : zQ} {σ : zV} {v1 : Int32} {v2 : Int32} : eX0_isAwakeIn b d Q 0 [.ref 6, .int v1, .int v2] [] σ = eX0_isAwakeIn b d Q 1 [.ref 6, .int v1, .int v2] [.ref 6] σ := q_aload_n (zCall_mono (zUn b) d) (by decide +kernel : decode cX0_isAwakeIn 0 = .ok (.aload_n 0, 1)) rfl
theorem eX0_isAwakeIn_1 {b : Bool} {d : Nat} {Q : zQ} {σ : zV} {v1 : Int32} {v2 : Int32} : eX0_isAwakeIn b d Q 1 [.ref 6, .int v1, .int v2] [.ref 6] σ = eX0_isAwakeIn b d Q 4 [.ref 6, .int v1, .int v2] [.ref 8] σ := q_getR (zCall_mono (zUn b) d) (by decide +kernel : decode cX0_isAwakeIn 1 = .ok (.getfield 15, 3)) zf_RX0_15 (u_6 b) rfl
theorem eX0_isAwakeIn_4 {b : Bool} {d : Nat} {Q : zQ} {σ : zV} {v1 : Int32} {v2 : Int32} : eX0_isAwakeIn b d Q 4 [.ref 6, .int v1, .int v2] [.ref 8] σ = eX0_isAwakeIn b d Q 5 [.ref 6, .int v1, .int v2] [.int v1, .ref 8] σ := q_iload_n (zCall_mono (zUn b) d) (by decide +kernel : decode cX0_isAwakeIn 4 = .ok (.iload_n 1, 1)) rfl
theorem eX0_isAwakeIn_5 {b : Bool} {d : Nat} {Q : zQ} {σ : zV} {v1 : Int32} {v2 : Int32} {s0 : Int32} : eX0_isAwakeIn b d Q 5 [.ref 6, .int v1, .int v2] [.int s0, .ref 8] σ = (vp_in s0 4 ∧ eX0_isAwakeIn b d Q 6 [.ref 6, .int v1, .int v2] [.int (σ 8 s0.toNatClampNeg)] σ) := q_bald (zCall_mono (zUn b) d) (by decide +kernel : decode cX0_isAwakeIn 5 = .ok (.baload, 1)) (u_8 b)
theorem eX0_isAwakeIn_6 {b : Bool} {d : Nat} {Q : zQ} {σ : zV} {v1 : Int32} {v2 : Int32} {s0 : Int32} : eX0_isAwakeIn b d Q 6 [.ref 6, .int v1, .int v2] [.int s0] σ = ((s0 = 0 → eX0_isAwakeIn b d Q 23 [.ref 6, .int v1, .int v2] [] σ) ∧ (¬ s0 = 0 → eX0_isAwakeIn b d Q 9 [.ref 6, .int v1, .int v2] [] σ)) := q_if (zCall_mono (zUn b) d) (by decide +kernel : decode cX0_isAwakeIn 6 = .ok (.ifCond .eq 17, 3)) (by decide)
theorem eX0_isAwakeIn_9 {b : Bool} {d : Nat} {Q : zQ} {σ : zV} {v1 : Int32} {v2 : Int32} : eX0_isAwakeIn b d Q 9 [.ref 6, .int v1, .int v2] [] σ = eX0_isAwakeIn b d Q 10 [.ref 6, .int v1, .int v2] [.ref 6] σ := q_aload_n (zCall_mono (zUn b) d) (by decide +kernel : decode cX0_isAwakeIn 9 = .ok (.aload_n 0, 1)) rfl
theorem eX0_isAwakeIn_10 {b : Bool} {d : Nat} {Q : zQ} {σ : zV} {v1 : Int32} {v2 : Int32} : eX0_isAwakeIn b d Q 10 [.ref 6, .int v1, .int v2] [.ref 6] σ = eX0_isAwakeIn b d Q 13 [.ref 6, .int v1, .int v2] [.ref 7] σ := q_getR (zCall_mono (zUn b) d) (by decide +kernel : decode cX0_isAwakeIn 10 = .ok (.getfield 9, 3)) zf_RX0_9 (u_6 b) rfl
theorem eX0_isAwakeIn_13 {b : Bool} {d : Nat} {Q : zQ} {σ : zV} {v1 : Int32} {v2 : Int32} : eX0_isAwakeIn b d Q 13 [.ref 6, .int v1, .int v2] [.ref 7] σ = eX0_isAwakeIn b d Q 14 [.ref 6, .int v1, .int v2] [.int v1, .ref 7] σ := q_iload_n (zCall_mono (zUn b) d) (by decide +kernel : decode cX0_isAwakeIn 13 = .ok (.iload_n 1, 1)) rfl
theorem eX0_isAwakeIn_14 {b : Bool} {d : Nat} {Q : zQ} {σ : zV} {v1 : Int32} {v2 : Int32} {s0 : Int32} : eX0_isAwakeIn b d Q 14 [.ref 6, .int v1, .int v2] [.int s0, .ref 7] σ = (vp_in s0 4 ∧ eX0_isAwakeIn b d Q 15 [.ref 6, .int v1, .int v2] [.int (σ 7 s0.toNatClampNeg)] σ) := q_iald (zCall_mono (zUn b) d) (by decide +kernel : decode cX0_isAwakeIn 14 = .ok (.iaload, 1)) (u_7 b)
theorem eX0_isAwakeIn_15 {b : Bool} {d : Nat} {Q : zQ} {σ : zV} {v1 : Int32} {v2 : Int32} {s0 : Int32} : eX0_isAwakeIn b d Q 15 [.ref 6, .int v1, .int v2] [.int s0] σ = eX0_isAwakeIn b d Q 16 [.ref 6, .int v1, .int v2] [.int v2, .int s0] σ := q_iload_n (zCall_mono (zUn b) d) (by decide +kernel : decode cX0_isAwakeIn 15 = .ok (.iload_n 2, 1)) rfl
theorem eX0_isAwakeIn_16 {b : Bool} {d : Nat} {Q : zQ} {σ : zV} {v1 : Int32} {v2 : Int32} {s0 : Int32} {s1 : Int32} : eX0_isAwakeIn b d Q 16 [.ref 6, .int v1, .int v2] [.int s0, .int s1] σ = ((¬ s1 = s0 → eX0_isAwakeIn b d Q 23 [.ref 6, .int v1, .int v2] [] σ) ∧ (s1 = s0 → eX0_isAwakeIn b d Q 19 [.ref 6, .int v1, .int v2] [] σ)) := (q_icmp (zCall_mono (zUn b) d) (by decide +kernel : decode cX0_isAwakeIn 16 = .ok (.if_icmp .ne 7, 3)) (by decide)).trans z_ne
theorem eX0_isAwakeIn_19 {b : Bool} {d : Nat} {Q : zQ} {σ : zV} {v1 : Int32} {v2 : Int32} : eX0_isAwakeIn b d Q 19 [.ref 6, .int v1, .int v2] [] σ = eX0_isAwakeIn b d Q 20 [.ref 6, .int v1, .int v2] [.int 1] σ := q_iconst (zCall_mono (zUn b) d) (by decide +kernel : decode cX0_isAwakeIn 19 = .ok (.iconst 1, 1)) (by decide +kernel)
theorem eX0_isAwakeIn_20 {b : Bool} {d : Nat} {Q : zQ} {σ : zV} {v1 : Int32} {v2 : Int32} {s0 : Int32} : eX0_isAwakeIn b d Q 20 [.ref 6, .int v1, .int v2] [.int s0] σ = eX0_isAwakeIn b d Q 24 [.ref 6, .int v1, .int v2] [.int s0] σ := q_goto (zCall_mono (zUn b) d) (by decide +kernel : decode cX0_isAwakeIn 20 = .ok (.goto 4, 3)) (by decide)
theorem eX0_isAwakeIn_23 {b : Bool} {d : Nat} {Q : zQ} {σ : zV} {v1 : Int32} {v2 : Int32} : eX0_isAwakeIn b d Q 23 [.ref 6, .int v1, .int v2] [] σ = eX0_isAwakeIn b d Q 24 [.ref 6, .int v1, .int v2] [.int 0] σ := q_iconst (zCall_mono (zUn b) d) (by decide +kernel : decode cX0_isAwakeIn 23 = .ok (.iconst 0, 1)) (by decide +kernel)
theorem eX0_isAwakeIn_24 {b : Bool} {d : Nat} {Q : zQ} {σ : zV} {v1 : Int32} {v2 : Int32} {s0 : Int32} : eX0_isAwakeIn b d Q 24 [.ref 6, .int v1, .int v2] [.int s0] σ = (narrow .boolean (.int s0) = .int s0 ∧ Q (some (.int s0)) σ) := q_zret (zCall_mono (zUn b) d) (by decide +kernel : decode cX0_isAwakeIn 24 = .ok (.ireturn, 1)) rfl
theorem nX0_isAwakeIn {b : Bool} {d : Nat} {Q : zQ} {σ : zV} {v1 : Int32} {v2 : Int32} : zCall (zUn b) (d + 1) yX0_isAwakeIn [.ref 6, .int v1, .int v2] σ Q = eX0_isAwakeIn b d Q 0 [.ref 6, .int v1, .int v2] [] σ := (q_call kX0_isAwakeIn (Nat.le_of_ble_eq_true rfl)).trans rfl
def eX0_raiseGeneration (b : Bool) (d : Nat) (Q : zQ) : zP := zEv (zUn b) (zCall (zUn b) d) RX0 cX0_raiseGeneration 4 none none Q
theorem eX0_raiseGeneration_0 {b : Bool} {d : Nat} {Q : zQ} {σ : zV} {v1 : Int32} {v2 : Int32} {v3 : Int32} : eX0_raiseGeneration b d Q 0 [.ref 6, .int v1, .int v2, .int v3] [] σ = eX0_raiseGeneration b d Q 1 [.ref 6, .int v1, .int v2, .int v3] [.ref 6] σ := q_aload_n (zCall_mono (zUn b) d) (by decide +kernel : decode cX0_raiseGeneration 0 = .ok (.aload_n 0, 1)) rfl
theorem eX0_raiseGeneration_1 {b : Bool} {d : Nat} {Q : zQ} {σ : zV} {v1 : Int32} {v2 : Int32} {v3 : Int32} : eX0_raiseGeneration b d Q 1 [.ref 6, .int v1, .int v2, .int v3] [.ref 6] σ = eX0_raiseGeneration b d Q 4 [.ref 6, .int v1, .int v2, .int v3] [.ref 10] σ := q_getR (zCall_mono (zUn b) d) (by decide +kernel : decode cX0_raiseGeneration 1 = .ok (.getfield 22, 3)) zf_RX0_22 (u_6 b) rfl
theorem eX0_raiseGeneration_4 {b : Bool} {d : Nat} {Q : zQ} {σ : zV} {v1 : Int32} {v2 : Int32} {v3 : Int32} : eX0_raiseGeneration b d Q 4 [.ref 6, .int v1, .int v2, .int v3] [.ref 10] σ = eX0_raiseGeneration b d Q 5 [.ref 6, .int v1, .int v2, .int v3] [.int v1, .ref 10] σ := q_iload_n (zCall_mono (zUn b) d) (by decide +kernel : decode cX0_raiseGeneration 4 = .ok (.iload_n 1, 1)) rfl
theorem eX0_raiseGeneration_5 {b : Bool} {d : Nat} {Q : zQ} {σ : zV} {v1 : Int32} {v2 : Int32} {v3 : Int32} {s0 : Int32} : eX0_raiseGeneration b d Q 5 [.ref 6, .int v1, .int v2, .int v3] [.int s0, .ref 10] σ = eX0_raiseGeneration b d Q 6 [.ref 6, .int v1, .int v2, .int v3] [.int 3, .int s0, .ref 10] σ := q_iconst (zCall_mono (zUn b) d) (by decide +kernel : decode cX0_raiseGeneration 5 = .ok (.iconst 3, 1)) (by decide +kernel)
theorem eX0_raiseGeneration_6 {b : Bool} {d : Nat} {Q : zQ} {σ : zV} {v1 : Int32} {v2 : Int32} {v3 : Int32} {s0 : Int32} {s1 : Int32} : eX0_raiseGeneration b d Q 6 [.ref 6, .int v1, .int v2, .int v3] [.int s0, .int s1, .ref 10] σ = eX0_raiseGeneration b d Q 7 [.ref 6, .int v1, .int v2, .int v3] [.int (s1 * s0), .ref 10] σ := q_imul (zCall_mono (zUn b) d) (by decide +kernel : decode cX0_raiseGeneration 6 = .ok (.imul, 1))
theorem eX0_raiseGeneration_7 {b : Bool} {d : Nat} {Q : zQ} {σ : zV} {v1 : Int32} {v2 : Int32} {v3 : Int32} {s0 : Int32} : eX0_raiseGeneration b d Q 7 [.ref 6, .int v1, .int v2, .int v3] [.int s0, .ref 10] σ = eX0_raiseGeneration b d Q 8 [.ref 6, .int v1, .int v2, .int v3] [.int v2, .int s0, .ref 10] σ := q_iload_n (zCall_mono (zUn b) d) (by decide +kernel : decode cX0_raiseGeneration 7 = .ok (.iload_n 2, 1)) rfl
theorem eX0_raiseGeneration_8 {b : Bool} {d : Nat} {Q : zQ} {σ : zV} {v1 : Int32} {v2 : Int32} {v3 : Int32} {s0 : Int32} {s1 : Int32} : eX0_raiseGeneration b d Q 8 [.ref 6, .int v1, .int v2, .int v3] [.int s0, .int s1, .ref 10] σ = eX0_raiseGeneration b d Q 9 [.ref 6, .int v1, .int v2, .int v3] [.int (s1 + s0), .ref 10] σ := q_iadd (zCall_mono (zUn b) d) (by decide +kernel : decode cX0_raiseGeneration 8 = .ok (.iadd, 1))
theorem eX0_raiseGeneration_9 {b : Bool} {d : Nat} {Q : zQ} {σ : zV} {v1 : Int32} {v2 : Int32} {v3 : Int32} {s0 : Int32} : eX0_raiseGeneration b d Q 9 [.ref 6, .int v1, .int v2, .int v3] [.int s0, .ref 10] σ = eX0_raiseGeneration b d Q 10 [.ref 6, .int v1, .int v2, .int v3] [.ref 6, .int s0, .ref 10] σ := q_aload_n (zCall_mono (zUn b) d) (by decide +kernel : decode cX0_raiseGeneration 9 = .ok (.aload_n 0, 1)) rfl
theorem eX0_raiseGeneration_10 {b : Bool} {d : Nat} {Q : zQ} {σ : zV} {v1 : Int32} {v2 : Int32} {v3 : Int32} {s1 : Int32} : eX0_raiseGeneration b d Q 10 [.ref 6, .int v1, .int v2, .int v3] [.ref 6, .int s1, .ref 10] σ = eX0_raiseGeneration b d Q 13 [.ref 6, .int v1, .int v2, .int v3] [.ref 10, .int s1, .ref 10] σ := q_getR (zCall_mono (zUn b) d) (by decide +kernel : decode cX0_raiseGeneration 10 = .ok (.getfield 22, 3)) zf_RX0_22 (u_6 b) rfl
theorem eX0_raiseGeneration_13 {b : Bool} {d : Nat} {Q : zQ} {σ : zV} {v1 : Int32} {v2 : Int32} {v3 : Int32} {s1 : Int32} : eX0_raiseGeneration b d Q 13 [.ref 6, .int v1, .int v2, .int v3] [.ref 10, .int s1, .ref 10] σ = eX0_raiseGeneration b d Q 14 [.ref 6, .int v1, .int v2, .int v3] [.int v1, .ref 10, .int s1, .ref 10] σ := q_iload_n (zCall_mono (zUn b) d) (by decide +kernel : decode cX0_raiseGeneration 13 = .ok (.iload_n 1, 1)) rfl
theorem eX0_raiseGeneration_14 {b : Bool} {d : Nat} {Q : zQ} {σ : zV} {v1 : Int32} {v2 : Int32} {v3 : Int32} {s0 : Int32} {s2 : Int32} : eX0_raiseGeneration b d Q 14 [.ref 6, .int v1, .int v2, .int v3] [.int s0, .ref 10, .int s2, .ref 10] σ = eX0_raiseGeneration b d Q 15 [.ref 6, .int v1, .int v2, .int v3] [.int 3, .int s0, .ref 10, .int s2, .ref 10] σ := q_iconst (zCall_mono (zUn b) d) (by decide +kernel : decode cX0_raiseGeneration 14 = .ok (.iconst 3, 1)) (by decide +kernel)
theorem eX0_raiseGeneration_15 {b : Bool} {d : Nat} {Q : zQ} {σ : zV} {v1 : Int32} {v2 : Int32} {v3 : Int32} {s0 : Int32} {s1 : Int32} {s3 : Int32} : eX0_raiseGeneration b d Q 15 [.ref 6, .int v1, .int v2, .int v3] [.int s0, .int s1, .ref 10, .int s3, .ref 10] σ = eX0_raiseGeneration b d Q 16 [.ref 6, .int v1, .int v2, .int v3] [.int (s1 * s0), .ref 10, .int s3, .ref 10] σ := q_imul (zCall_mono (zUn b) d) (by decide +kernel : decode cX0_raiseGeneration 15 = .ok (.imul, 1))
theorem eX0_raiseGeneration_16 {b : Bool} {d : Nat} {Q : zQ} {σ : zV} {v1 : Int32} {v2 : Int32} {v3 : Int32} {s0 : Int32} {s2 : Int32} : eX0_raiseGeneration b d Q 16 [.ref 6, .int v1, .int v2, .int v3] [.int s0, .ref 10, .int s2, .ref 10] σ = eX0_raiseGeneration b d Q 17 [.ref 6, .int v1, .int v2, .int v3] [.int v2, .int s0, .ref 10, .int s2, .ref 10] σ := q_iload_n (zCall_mono (zUn b) d) (by decide +kernel : decode cX0_raiseGeneration 16 = .ok (.iload_n 2, 1)) rfl
theorem eX0_raiseGeneration_17 {b : Bool} {d : Nat} {Q : zQ} {σ : zV} {v1 : Int32} {v2 : Int32} {v3 : Int32} {s0 : Int32} {s1 : Int32} {s3 : Int32} : eX0_raiseGeneration b d Q 17 [.ref 6, .int v1, .int v2, .int v3] [.int s0, .int s1, .ref 10, .int s3, .ref 10] σ = eX0_raiseGeneration b d Q 18 [.ref 6, .int v1, .int v2, .int v3] [.int (s1 + s0), .ref 10, .int s3, .ref 10] σ := q_iadd (zCall_mono (zUn b) d) (by decide +kernel : decode cX0_raiseGeneration 17 = .ok (.iadd, 1))
theorem eX0_raiseGeneration_18 {b : Bool} {d : Nat} {Q : zQ} {σ : zV} {v1 : Int32} {v2 : Int32} {v3 : Int32} {s0 : Int32} {s2 : Int32} : eX0_raiseGeneration b d Q 18 [.ref 6, .int v1, .int v2, .int v3] [.int s0, .ref 10, .int s2, .ref 10] σ = (vp_in s0 12 ∧ eX0_raiseGeneration b d Q 19 [.ref 6, .int v1, .int v2, .int v3] [.int (σ 10 s0.toNatClampNeg), .int s2, .ref 10] σ) := q_iald (zCall_mono (zUn b) d) (by decide +kernel : decode cX0_raiseGeneration 18 = .ok (.iaload, 1)) (u_10 b)
theorem eX0_raiseGeneration_19 {b : Bool} {d : Nat} {Q : zQ} {σ : zV} {v1 : Int32} {v2 : Int32} {v3 : Int32} {s0 : Int32} {s1 : Int32} : eX0_raiseGeneration b d Q 19 [.ref 6, .int v1, .int v2, .int v3] [.int s0, .int s1, .ref 10] σ = eX0_raiseGeneration b d Q 20 [.ref 6, .int v1, .int v2, .int v3] [.int v3, .int s0, .int s1, .ref 10] σ := q_iload_n (zCall_mono (zUn b) d) (by decide +kernel : decode cX0_raiseGeneration 19 = .ok (.iload_n 3, 1)) rfl
theorem eX0_raiseGeneration_20 {b : Bool} {d : Nat} {Q : zQ} {σ : zV} {v1 : Int32} {v2 : Int32} {v3 : Int32} {s0 : Int32} {s1 : Int32} {s2 : Int32} : eX0_raiseGeneration b d Q 20 [.ref 6, .int v1, .int v2, .int v3] [.int s0, .int s1, .int s2, .ref 10] σ = eX0_raiseGeneration b d Q 23 [.ref 6, .int v1, .int v2, .int v3] [.int (if s1 < s0 then s0 else s1), .int s2, .ref 10] σ := q_max (zCall_mono (zUn b) d) (by decide +kernel : decode cX0_raiseGeneration 20 = .ok (.invokestatic 34, 3)) zm_RX0_34 (Nat.le_of_ble_eq_true rfl)
theorem eX0_raiseGeneration_23 {b : Bool} {d : Nat} {Q : zQ} {σ : zV} {v1 : Int32} {v2 : Int32} {v3 : Int32} {s0 : Int32} {s1 : Int32} : eX0_raiseGeneration b d Q 23 [.ref 6, .int v1, .int v2, .int v3] [.int s0, .int s1, .ref 10] σ = (vp_in s1 12 ∧ eX0_raiseGeneration b d Q 24 [.ref 6, .int v1, .int v2, .int v3] [] (zput σ 10 s1.toNatClampNeg s0)) := q_iast (zCall_mono (zUn b) d) (by decide +kernel : decode cX0_raiseGeneration 23 = .ok (.iastore, 1)) (u_10 b)
theorem eX0_raiseGeneration_24 {b : Bool} {d : Nat} {Q : zQ} {σ : zV} {v1 : Int32} {v2 : Int32} {v3 : Int32} : eX0_raiseGeneration b d Q 24 [.ref 6, .int v1, .int v2, .int v3] [] σ = Q none σ := q_vret (zCall_mono (zUn b) d) (by decide +kernel : decode cX0_raiseGeneration 24 = .ok (.return_, 1)) rfl
theorem nX0_raiseGeneration {b : Bool} {d : Nat} {Q : zQ} {σ : zV} {v1 : Int32} {v2 : Int32} {v3 : Int32} : zCall (zUn b) (d + 1) yX0_raiseGeneration [.ref 6, .int v1, .int v2, .int v3] σ Q = eX0_raiseGeneration b d Q 0 [.ref 6, .int v1, .int v2, .int v3] [] σ := (q_call kX0_raiseGeneration (Nat.le_of_ble_eq_true rfl)).trans rfl
def eX0_startAgain (b : Bool) (d : Nat) (Q : zQ) : zP := zEv (zUn b) (zCall (zUn b) d) RX0 cX0_startAgain 1 none none Q
theorem eX0_startAgain_0 {b : Bool} {d : Nat} {Q : zQ} {σ : zV}  : eX0_startAgain b d Q 0 [.ref 6] [] σ = eX0_startAgain b d Q 1 [.ref 6] [.ref 6] σ := q_aload_n (zCall_mono (zUn b) d) (by decide +kernel : decode cX0_startAgain 0 = .ok (.aload_n 0, 1)) rfl
theorem eX0_startAgain_1 {b : Bool} {d : Nat} {Q : zQ} {σ : zV}  : eX0_startAgain b d Q 1 [.ref 6] [.ref 6] σ = eX0_startAgain b d Q 4 [.ref 6] [.ref 7] σ := q_getR (zCall_mono (zUn b) d) (by decide +kernel : decode cX0_startAgain 1 = .ok (.getfield 9, 3)) zf_RX0_9 (u_6 b) rfl
theorem eX0_startAgain_4 {b : Bool} {d : Nat} {Q : zQ} {σ : zV}  : eX0_startAgain b d Q 4 [.ref 6] [.ref 7] σ = eX0_startAgain b d Q 5 [.ref 6] [.int 0, .ref 7] σ := q_iconst (zCall_mono (zUn b) d) (by decide +kernel : decode cX0_startAgain 4 = .ok (.iconst 0, 1)) (by decide +kernel)
theorem eX0_startAgain_5 {b : Bool} {d : Nat} {Q : zQ} {σ : zV} {s0 : Int32} : eX0_startAgain b d Q 5 [.ref 6] [.int s0, .ref 7] σ = zCall (zUn b) d yJ7_fill_53178 [.ref 7, .int s0] σ (fun v σ' => eX0_startAgain b d Q 8 [.ref 6] (v.toList ++ []) σ') := q_ins (As := [.ref 7, .int s0]) (r := []) (zCall_mono (zUn b) d) (by decide +kernel : decode cX0_startAgain 5 = .ok (.invokestatic 25, 3)) zm_RX0_25 (Nat.le_of_ble_eq_true rfl) rfl
theorem eX0_startAgain_8 {b : Bool} {d : Nat} {Q : zQ} {σ : zV}  : eX0_startAgain b d Q 8 [.ref 6] [] σ = eX0_startAgain b d Q 9 [.ref 6] [.ref 6] σ := q_aload_n (zCall_mono (zUn b) d) (by decide +kernel : decode cX0_startAgain 8 = .ok (.aload_n 0, 1)) rfl
theorem eX0_startAgain_9 {b : Bool} {d : Nat} {Q : zQ} {σ : zV}  : eX0_startAgain b d Q 9 [.ref 6] [.ref 6] σ = eX0_startAgain b d Q 12 [.ref 6] [.ref 8] σ := q_getR (zCall_mono (zUn b) d) (by decide +kernel : decode cX0_startAgain 9 = .ok (.getfield 15, 3)) zf_RX0_15 (u_6 b) rfl
theorem eX0_startAgain_12 {b : Bool} {d : Nat} {Q : zQ} {σ : zV}  : eX0_startAgain b d Q 12 [.ref 6] [.ref 8] σ = eX0_startAgain b d Q 13 [.ref 6] [.int 1, .ref 8] σ := q_iconst (zCall_mono (zUn b) d) (by decide +kernel : decode cX0_startAgain 12 = .ok (.iconst 1, 1)) (by decide +kernel)
theorem eX0_startAgain_13 {b : Bool} {d : Nat} {Q : zQ} {σ : zV} {s0 : Int32} : eX0_startAgain b d Q 13 [.ref 6] [.int s0, .ref 8] σ = zCall (zUn b) d yJ7_fill_49daa [.ref 8, .int s0] σ (fun v σ' => eX0_startAgain b d Q 16 [.ref 6] (v.toList ++ []) σ') := q_ins (As := [.ref 8, .int s0]) (r := []) (zCall_mono (zUn b) d) (by decide +kernel : decode cX0_startAgain 13 = .ok (.invokestatic 31, 3)) zm_RX0_31 (Nat.le_of_ble_eq_true rfl) rfl
theorem eX0_startAgain_16 {b : Bool} {d : Nat} {Q : zQ} {σ : zV}  : eX0_startAgain b d Q 16 [.ref 6] [] σ = eX0_startAgain b d Q 17 [.ref 6] [.ref 6] σ := q_aload_n (zCall_mono (zUn b) d) (by decide +kernel : decode cX0_startAgain 16 = .ok (.aload_n 0, 1)) rfl
theorem eX0_startAgain_17 {b : Bool} {d : Nat} {Q : zQ} {σ : zV}  : eX0_startAgain b d Q 17 [.ref 6] [.ref 6] σ = eX0_startAgain b d Q 20 [.ref 6] [.ref 9] σ := q_getR (zCall_mono (zUn b) d) (by decide +kernel : decode cX0_startAgain 17 = .ok (.getfield 19, 3)) zf_RX0_19 (u_6 b) rfl
theorem eX0_startAgain_20 {b : Bool} {d : Nat} {Q : zQ} {σ : zV}  : eX0_startAgain b d Q 20 [.ref 6] [.ref 9] σ = eX0_startAgain b d Q 21 [.ref 6] [.int (-1), .ref 9] σ := q_iconst (zCall_mono (zUn b) d) (by decide +kernel : decode cX0_startAgain 20 = .ok (.iconst (-1), 1)) (by decide +kernel)
theorem eX0_startAgain_21 {b : Bool} {d : Nat} {Q : zQ} {σ : zV} {s0 : Int32} : eX0_startAgain b d Q 21 [.ref 6] [.int s0, .ref 9] σ = zCall (zUn b) d yJ7_fill_53178 [.ref 9, .int s0] σ (fun v σ' => eX0_startAgain b d Q 24 [.ref 6] (v.toList ++ []) σ') := q_ins (As := [.ref 9, .int s0]) (r := []) (zCall_mono (zUn b) d) (by decide +kernel : decode cX0_startAgain 21 = .ok (.invokestatic 25, 3)) zm_RX0_25 (Nat.le_of_ble_eq_true rfl) rfl
theorem eX0_startAgain_24 {b : Bool} {d : Nat} {Q : zQ} {σ : zV}  : eX0_startAgain b d Q 24 [.ref 6] [] σ = eX0_startAgain b d Q 25 [.ref 6] [.ref 6] σ := q_aload_n (zCall_mono (zUn b) d) (by decide +kernel : decode cX0_startAgain 24 = .ok (.aload_n 0, 1)) rfl
theorem eX0_startAgain_25 {b : Bool} {d : Nat} {Q : zQ} {σ : zV}  : eX0_startAgain b d Q 25 [.ref 6] [.ref 6] σ = eX0_startAgain b d Q 28 [.ref 6] [.ref 10] σ := q_getR (zCall_mono (zUn b) d) (by decide +kernel : decode cX0_startAgain 25 = .ok (.getfield 22, 3)) zf_RX0_22 (u_6 b) rfl
theorem eX0_startAgain_28 {b : Bool} {d : Nat} {Q : zQ} {σ : zV}  : eX0_startAgain b d Q 28 [.ref 6] [.ref 10] σ = eX0_startAgain b d Q 29 [.ref 6] [.int 0, .ref 10] σ := q_iconst (zCall_mono (zUn b) d) (by decide +kernel : decode cX0_startAgain 28 = .ok (.iconst 0, 1)) (by decide +kernel)
theorem eX0_startAgain_29 {b : Bool} {d : Nat} {Q : zQ} {σ : zV} {s0 : Int32} : eX0_startAgain b d Q 29 [.ref 6] [.int s0, .ref 10] σ = zCall (zUn b) d yJ7_fill_53178 [.ref 10, .int s0] σ (fun v σ' => eX0_startAgain b d Q 32 [.ref 6] (v.toList ++ []) σ') := q_ins (As := [.ref 10, .int s0]) (r := []) (zCall_mono (zUn b) d) (by decide +kernel : decode cX0_startAgain 29 = .ok (.invokestatic 25, 3)) zm_RX0_25 (Nat.le_of_ble_eq_true rfl) rfl
theorem eX0_startAgain_32 {b : Bool} {d : Nat} {Q : zQ} {σ : zV}  : eX0_startAgain b d Q 32 [.ref 6] [] σ = Q none σ := q_vret (zCall_mono (zUn b) d) (by decide +kernel : decode cX0_startAgain 32 = .ok (.return_, 1)) rfl
theorem nX0_startAgain {b : Bool} {d : Nat} {Q : zQ} {σ : zV}  : zCall (zUn b) (d + 1) yX0_startAgain [.ref 6] σ Q = eX0_startAgain b d Q 0 [.ref 6] [] σ := (q_call kX0_startAgain (Nat.le_of_ble_eq_true rfl)).trans rfl
def eX1_entryNoted (b : Bool) (d : Nat) (Q : zQ) : zP := zEv (zUn b) (zCall (zUn b) d) RX1 cX1_entryNoted 3 (some .int) none Q
theorem eX1_entryNoted_0 {b : Bool} {d : Nat} {Q : zQ} {σ : zV} {v1 : Int32} {v2 : Int32} : eX1_entryNoted b d Q 0 [.ref 11, .int v1, .int v2] [] σ = eX1_entryNoted b d Q 1 [.ref 11, .int v1, .int v2] [.ref 11] σ := q_aload_n (zCall_mono (zUn b) d) (by decide +kernel : decode cX1_entryNoted 0 = .ok (.aload_n 0, 1)) rfl
theorem eX1_entryNoted_1 {b : Bool} {d : Nat} {Q : zQ} {σ : zV} {v1 : Int32} {v2 : Int32} : eX1_entryNoted b d Q 1 [.ref 11, .int v1, .int v2] [.ref 11] σ = eX1_entryNoted b d Q 4 [.ref 11, .int v1, .int v2] [.ref 15] σ := q_getR (zCall_mono (zUn b) d) (by decide +kernel : decode cX1_entryNoted 1 = .ok (.getfield 21, 3)) zf_RX1_21 (u_11 b) rfl
theorem eX1_entryNoted_4 {b : Bool} {d : Nat} {Q : zQ} {σ : zV} {v1 : Int32} {v2 : Int32} : eX1_entryNoted b d Q 4 [.ref 11, .int v1, .int v2] [.ref 15] σ = eX1_entryNoted b d Q 5 [.ref 11, .int v1, .int v2] [.int v1, .ref 15] σ := q_iload_n (zCall_mono (zUn b) d) (by decide +kernel : decode cX1_entryNoted 4 = .ok (.iload_n 1, 1)) rfl
theorem eX1_entryNoted_5 {b : Bool} {d : Nat} {Q : zQ} {σ : zV} {v1 : Int32} {v2 : Int32} {s0 : Int32} : eX1_entryNoted b d Q 5 [.ref 11, .int v1, .int v2] [.int s0, .ref 15] σ = eX1_entryNoted b d Q 6 [.ref 11, .int v1, .int v2] [.int 4, .int s0, .ref 15] σ := q_iconst (zCall_mono (zUn b) d) (by decide +kernel : decode cX1_entryNoted 5 = .ok (.iconst 4, 1)) (by decide +kernel)
theorem eX1_entryNoted_6 {b : Bool} {d : Nat} {Q : zQ} {σ : zV} {v1 : Int32} {v2 : Int32} {s0 : Int32} {s1 : Int32} : eX1_entryNoted b d Q 6 [.ref 11, .int v1, .int v2] [.int s0, .int s1, .ref 15] σ = eX1_entryNoted b d Q 7 [.ref 11, .int v1, .int v2] [.int (s1 * s0), .ref 15] σ := q_imul (zCall_mono (zUn b) d) (by decide +kernel : decode cX1_entryNoted 6 = .ok (.imul, 1))
theorem eX1_entryNoted_7 {b : Bool} {d : Nat} {Q : zQ} {σ : zV} {v1 : Int32} {v2 : Int32} {s0 : Int32} : eX1_entryNoted b d Q 7 [.ref 11, .int v1, .int v2] [.int s0, .ref 15] σ = eX1_entryNoted b d Q 8 [.ref 11, .int v1, .int v2] [.int v2, .int s0, .ref 15] σ := q_iload_n (zCall_mono (zUn b) d) (by decide +kernel : decode cX1_entryNoted 7 = .ok (.iload_n 2, 1)) rfl
theorem eX1_entryNoted_8 {b : Bool} {d : Nat} {Q : zQ} {σ : zV} {v1 : Int32} {v2 : Int32} {s0 : Int32} {s1 : Int32} : eX1_entryNoted b d Q 8 [.ref 11, .int v1, .int v2] [.int s0, .int s1, .ref 15] σ = eX1_entryNoted b d Q 9 [.ref 11, .int v1, .int v2] [.int (s1 + s0), .ref 15] σ := q_iadd (zCall_mono (zUn b) d) (by decide +kernel : decode cX1_entryNoted 8 = .ok (.iadd, 1))
theorem eX1_entryNoted_9 {b : Bool} {d : Nat} {Q : zQ} {σ : zV} {v1 : Int32} {v2 : Int32} {s0 : Int32} : eX1_entryNoted b d Q 9 [.ref 11, .int v1, .int v2] [.int s0, .ref 15] σ = (vp_in s0 16 ∧ eX1_entryNoted b d Q 10 [.ref 11, .int v1, .int v2] [.int (σ 15 s0.toNatClampNeg)] σ) := q_iald (zCall_mono (zUn b) d) (by decide +kernel : decode cX1_entryNoted 9 = .ok (.iaload, 1)) (u_15 b)
theorem eX1_entryNoted_10 {b : Bool} {d : Nat} {Q : zQ} {σ : zV} {v1 : Int32} {v2 : Int32} {s0 : Int32} : eX1_entryNoted b d Q 10 [.ref 11, .int v1, .int v2] [.int s0] σ = Q (some (.int s0)) σ := q_iret (zCall_mono (zUn b) d) (by decide +kernel : decode cX1_entryNoted 10 = .ok (.ireturn, 1)) rfl
theorem nX1_entryNoted {b : Bool} {d : Nat} {Q : zQ} {σ : zV} {v1 : Int32} {v2 : Int32} : zCall (zUn b) (d + 1) yX1_entryNoted [.ref 11, .int v1, .int v2] σ Q = eX1_entryNoted b d Q 0 [.ref 11, .int v1, .int v2] [] σ := (q_call kX1_entryNoted (Nat.le_of_ble_eq_true rfl)).trans rfl
def eX1_find (b : Bool) (d : Nat) (Q : zQ) : zP := zEv (zUn b) (zCall (zUn b) d) RX1 cX1_find 5 (some .int) none Q
theorem eX1_find_0 {b : Bool} {d : Nat} {Q : zQ} {σ : zV} {v1 : Int32} {v2 : Int32} {v3 : Int32} : eX1_find b d Q 0 [.ref 11, .int v1, .int v2, .int v3, .null] [] σ = eX1_find b d Q 1 [.ref 11, .int v1, .int v2, .int v3, .null] [.int 0] σ := q_iconst (zCall_mono (zUn b) d) (by decide +kernel : decode cX1_find 0 = .ok (.iconst 0, 1)) (by decide +kernel)
theorem eX1_find_1 {b : Bool} {d : Nat} {Q : zQ} {σ : zV} {v1 : Int32} {v2 : Int32} {v3 : Int32} {s0 : Int32} : eX1_find b d Q 1 [.ref 11, .int v1, .int v2, .int v3, .null] [.int s0] σ = eX1_find b d Q 3 [.ref 11, .int v1, .int v2, .int v3, .int s0] [] σ := q_istore (zCall_mono (zUn b) d) (by decide +kernel : decode cX1_find 1 = .ok (.istore 4, 2)) (Nat.le_of_ble_eq_true rfl) (fun v h => by cases h; rfl) rfl
theorem eX1_find_3 {b : Bool} {d : Nat} {Q : zQ} {σ : zV} {v1 : Int32} {v2 : Int32} {v3 : Int32} {v4 : Int32} : eX1_find b d Q 3 [.ref 11, .int v1, .int v2, .int v3, .int v4] [] σ = eX1_find b d Q 5 [.ref 11, .int v1, .int v2, .int v3, .int v4] [.int v4] σ := q_iload (zCall_mono (zUn b) d) (by decide +kernel : decode cX1_find 3 = .ok (.iload 4, 2)) rfl
theorem eX1_find_5 {b : Bool} {d : Nat} {Q : zQ} {σ : zV} {v1 : Int32} {v2 : Int32} {v3 : Int32} {v4 : Int32} {s0 : Int32} : eX1_find b d Q 5 [.ref 11, .int v1, .int v2, .int v3, .int v4] [.int s0] σ = eX1_find b d Q 6 [.ref 11, .int v1, .int v2, .int v3, .int v4] [.ref 11, .int s0] σ := q_aload_n (zCall_mono (zUn b) d) (by decide +kernel : decode cX1_find 5 = .ok (.aload_n 0, 1)) rfl
theorem eX1_find_6 {b : Bool} {d : Nat} {Q : zQ} {σ : zV} {v1 : Int32} {v2 : Int32} {v3 : Int32} {v4 : Int32} {s1 : Int32} : eX1_find b d Q 6 [.ref 11, .int v1, .int v2, .int v3, .int v4] [.ref 11, .int s1] σ = eX1_find b d Q 9 [.ref 11, .int v1, .int v2, .int v3, .int v4] [.ref 12, .int s1] σ := q_getR (zCall_mono (zUn b) d) (by decide +kernel : decode cX1_find 6 = .ok (.getfield 9, 3)) zf_RX1_9 (u_11 b) rfl
theorem eX1_find_9 {b : Bool} {d : Nat} {Q : zQ} {σ : zV} {v1 : Int32} {v2 : Int32} {v3 : Int32} {v4 : Int32} {s1 : Int32} : eX1_find b d Q 9 [.ref 11, .int v1, .int v2, .int v3, .int v4] [.ref 12, .int s1] σ = eX1_find b d Q 10 [.ref 11, .int v1, .int v2, .int v3, .int v4] [.int v1, .ref 12, .int s1] σ := q_iload_n (zCall_mono (zUn b) d) (by decide +kernel : decode cX1_find 9 = .ok (.iload_n 1, 1)) rfl
theorem eX1_find_10 {b : Bool} {d : Nat} {Q : zQ} {σ : zV} {v1 : Int32} {v2 : Int32} {v3 : Int32} {v4 : Int32} {s0 : Int32} {s2 : Int32} : eX1_find b d Q 10 [.ref 11, .int v1, .int v2, .int v3, .int v4] [.int s0, .ref 12, .int s2] σ = (vp_in s0 4 ∧ eX1_find b d Q 11 [.ref 11, .int v1, .int v2, .int v3, .int v4] [.int (σ 12 s0.toNatClampNeg), .int s2] σ) := q_iald (zCall_mono (zUn b) d) (by decide +kernel : decode cX1_find 10 = .ok (.iaload, 1)) (u_12 b)
theorem eX1_find_11 {b : Bool} {d : Nat} {Q : zQ} {σ : zV} {v1 : Int32} {v2 : Int32} {v3 : Int32} {v4 : Int32} {s0 : Int32} {s1 : Int32} : eX1_find b d Q 11 [.ref 11, .int v1, .int v2, .int v3, .int v4] [.int s0, .int s1] σ = ((s0 ≤ s1 → eX1_find b d Q 35 [.ref 11, .int v1, .int v2, .int v3, .int v4] [] σ) ∧ (¬ s0 ≤ s1 → eX1_find b d Q 14 [.ref 11, .int v1, .int v2, .int v3, .int v4] [] σ)) := q_icmp (zCall_mono (zUn b) d) (by decide +kernel : decode cX1_find 11 = .ok (.if_icmp .ge 24, 3)) (by decide)
theorem eX1_find_14 {b : Bool} {d : Nat} {Q : zQ} {σ : zV} {v1 : Int32} {v2 : Int32} {v3 : Int32} {v4 : Int32} : eX1_find b d Q 14 [.ref 11, .int v1, .int v2, .int v3, .int v4] [] σ = eX1_find b d Q 15 [.ref 11, .int v1, .int v2, .int v3, .int v4] [.ref 11] σ := q_aload_n (zCall_mono (zUn b) d) (by decide +kernel : decode cX1_find 14 = .ok (.aload_n 0, 1)) rfl
theorem eX1_find_15 {b : Bool} {d : Nat} {Q : zQ} {σ : zV} {v1 : Int32} {v2 : Int32} {v3 : Int32} {v4 : Int32} : eX1_find b d Q 15 [.ref 11, .int v1, .int v2, .int v3, .int v4] [.ref 11] σ = eX1_find b d Q 16 [.ref 11, .int v1, .int v2, .int v3, .int v4] [.int v1, .ref 11] σ := q_iload_n (zCall_mono (zUn b) d) (by decide +kernel : decode cX1_find 15 = .ok (.iload_n 1, 1)) rfl
theorem eX1_find_16 {b : Bool} {d : Nat} {Q : zQ} {σ : zV} {v1 : Int32} {v2 : Int32} {v3 : Int32} {v4 : Int32} {s0 : Int32} : eX1_find b d Q 16 [.ref 11, .int v1, .int v2, .int v3, .int v4] [.int s0, .ref 11] σ = eX1_find b d Q 18 [.ref 11, .int v1, .int v2, .int v3, .int v4] [.int v4, .int s0, .ref 11] σ := q_iload (zCall_mono (zUn b) d) (by decide +kernel : decode cX1_find 16 = .ok (.iload 4, 2)) rfl
theorem eX1_find_18 {b : Bool} {d : Nat} {Q : zQ} {σ : zV} {v1 : Int32} {v2 : Int32} {v3 : Int32} {v4 : Int32} {s0 : Int32} {s1 : Int32} : eX1_find b d Q 18 [.ref 11, .int v1, .int v2, .int v3, .int v4] [.int s0, .int s1, .ref 11] σ = eX1_find b d Q 19 [.ref 11, .int v1, .int v2, .int v3, .int v4] [.int v2, .int s0, .int s1, .ref 11] σ := q_iload_n (zCall_mono (zUn b) d) (by decide +kernel : decode cX1_find 18 = .ok (.iload_n 2, 1)) rfl
theorem eX1_find_19 {b : Bool} {d : Nat} {Q : zQ} {σ : zV} {v1 : Int32} {v2 : Int32} {v3 : Int32} {v4 : Int32} {s0 : Int32} {s1 : Int32} {s2 : Int32} : eX1_find b d Q 19 [.ref 11, .int v1, .int v2, .int v3, .int v4] [.int s0, .int s1, .int s2, .ref 11] σ = eX1_find b d Q 20 [.ref 11, .int v1, .int v2, .int v3, .int v4] [.int v3, .int s0, .int s1, .int s2, .ref 11] σ := q_iload_n (zCall_mono (zUn b) d) (by decide +kernel : decode cX1_find 19 = .ok (.iload_n 3, 1)) rfl
theorem eX1_find_20 {b : Bool} {d : Nat} {Q : zQ} {σ : zV} {v1 : Int32} {v2 : Int32} {v3 : Int32} {v4 : Int32} {s0 : Int32} {s1 : Int32} {s2 : Int32} {s3 : Int32} : eX1_find b d Q 20 [.ref 11, .int v1, .int v2, .int v3, .int v4] [.int s0, .int s1, .int s2, .int s3, .ref 11] σ = zCall (zUn b) d yX1_isOf [.ref 11, .int s3, .int s2, .int s1, .int s0] σ (fun v σ' => eX1_find b d Q 23 [.ref 11, .int v1, .int v2, .int v3, .int v4] (v.toList ++ []) σ') := q_inv (As := [.int s3, .int s2, .int s1, .int s0]) (r := []) (zCall_mono (zUn b) d) (by decide +kernel : decode cX1_find 20 = .ok (.invokevirtual 33, 3)) zm_RX1_33 (Nat.le_of_ble_eq_true rfl) (u_11 b) zn_1 (Nat.le_of_ble_eq_true rfl) rfl
theorem eX1_find_23 {b : Bool} {d : Nat} {Q : zQ} {σ : zV} {v1 : Int32} {v2 : Int32} {v3 : Int32} {v4 : Int32} {s0 : Int32} : eX1_find b d Q 23 [.ref 11, .int v1, .int v2, .int v3, .int v4] [.int s0] σ = ((s0 = 0 → eX1_find b d Q 29 [.ref 11, .int v1, .int v2, .int v3, .int v4] [] σ) ∧ (¬ s0 = 0 → eX1_find b d Q 26 [.ref 11, .int v1, .int v2, .int v3, .int v4] [] σ)) := q_if (zCall_mono (zUn b) d) (by decide +kernel : decode cX1_find 23 = .ok (.ifCond .eq 6, 3)) (by decide)
theorem eX1_find_26 {b : Bool} {d : Nat} {Q : zQ} {σ : zV} {v1 : Int32} {v2 : Int32} {v3 : Int32} {v4 : Int32} : eX1_find b d Q 26 [.ref 11, .int v1, .int v2, .int v3, .int v4] [] σ = eX1_find b d Q 28 [.ref 11, .int v1, .int v2, .int v3, .int v4] [.int v4] σ := q_iload (zCall_mono (zUn b) d) (by decide +kernel : decode cX1_find 26 = .ok (.iload 4, 2)) rfl
theorem eX1_find_28 {b : Bool} {d : Nat} {Q : zQ} {σ : zV} {v1 : Int32} {v2 : Int32} {v3 : Int32} {v4 : Int32} {s0 : Int32} : eX1_find b d Q 28 [.ref 11, .int v1, .int v2, .int v3, .int v4] [.int s0] σ = Q (some (.int s0)) σ := q_iret (zCall_mono (zUn b) d) (by decide +kernel : decode cX1_find 28 = .ok (.ireturn, 1)) rfl
theorem eX1_find_29 {b : Bool} {d : Nat} {Q : zQ} {σ : zV} {v1 : Int32} {v2 : Int32} {v3 : Int32} {v4 : Int32} : eX1_find b d Q 29 [.ref 11, .int v1, .int v2, .int v3, .int v4] [] σ = eX1_find b d Q 32 [.ref 11, .int v1, .int v2, .int v3, .int (v4 + 1)] [] σ := q_iinc (zCall_mono (zUn b) d) (by decide +kernel : decode cX1_find 29 = .ok (.iinc 4 1, 3)) rfl (Nat.le_of_ble_eq_true rfl) (fun v h => by cases h; rfl) (by decide +kernel) rfl
theorem eX1_find_32 {b : Bool} {d : Nat} {Q : zQ} {σ : zV} {v1 : Int32} {v2 : Int32} {v3 : Int32} {v4 : Int32} : eX1_find b d Q 32 [.ref 11, .int v1, .int v2, .int v3, .int v4] [] σ = eX1_find b d Q 3 [.ref 11, .int v1, .int v2, .int v3, .int v4] [] σ := q_goto (zCall_mono (zUn b) d) (by decide +kernel : decode cX1_find 32 = .ok (.goto (-29), 3)) (by decide)
theorem eX1_find_35 {b : Bool} {d : Nat} {Q : zQ} {σ : zV} {v1 : Int32} {v2 : Int32} {v3 : Int32} {v4 : Int32} : eX1_find b d Q 35 [.ref 11, .int v1, .int v2, .int v3, .int v4] [] σ = eX1_find b d Q 36 [.ref 11, .int v1, .int v2, .int v3, .int v4] [.int (-1)] σ := q_iconst (zCall_mono (zUn b) d) (by decide +kernel : decode cX1_find 35 = .ok (.iconst (-1), 1)) (by decide +kernel)
theorem eX1_find_36 {b : Bool} {d : Nat} {Q : zQ} {σ : zV} {v1 : Int32} {v2 : Int32} {v3 : Int32} {v4 : Int32} {s0 : Int32} : eX1_find b d Q 36 [.ref 11, .int v1, .int v2, .int v3, .int v4] [.int s0] σ = Q (some (.int s0)) σ := q_iret (zCall_mono (zUn b) d) (by decide +kernel : decode cX1_find 36 = .ok (.ireturn, 1)) rfl
theorem nX1_find {b : Bool} {d : Nat} {Q : zQ} {σ : zV} {v1 : Int32} {v2 : Int32} {v3 : Int32} : zCall (zUn b) (d + 1) yX1_find [.ref 11, .int v1, .int v2, .int v3] σ Q = eX1_find b d Q 0 [.ref 11, .int v1, .int v2, .int v3, .null] [] σ := (q_call kX1_find (Nat.le_of_ble_eq_true rfl)).trans rfl
def eX1_forget (b : Bool) (d : Nat) (Q : zQ) : zP := zEv (zUn b) (zCall (zUn b) d) RX1 cX1_forget 7 (some .int) none Q
theorem eX1_forget_0 {b : Bool} {d : Nat} {Q : zQ} {σ : zV} {v1 : Int32} {v2 : Int32} {v3 : Int32} : eX1_forget b d Q 0 [.ref 11, .int v1, .int v2, .int v3, .null, .null, .null] [] σ = eX1_forget b d Q 1 [.ref 11, .int v1, .int v2, .int v3, .null, .null, .null] [.ref 11] σ := q_aload_n (zCall_mono (zUn b) d) (by decide +kernel : decode cX1_forget 0 = .ok (.aload_n 0, 1)) rfl
theorem eX1_forget_1 {b : Bool} {d : Nat} {Q : zQ} {σ : zV} {v1 : Int32} {v2 : Int32} {v3 : Int32} : eX1_forget b d Q 1 [.ref 11, .int v1, .int v2, .int v3, .null, .null, .null] [.ref 11] σ = eX1_forget b d Q 4 [.ref 11, .int v1, .int v2, .int v3, .null, .null, .null] [.ref 12] σ := q_getR (zCall_mono (zUn b) d) (by decide +kernel : decode cX1_forget 1 = .ok (.getfield 9, 3)) zf_RX1_9 (u_11 b) rfl
theorem eX1_forget_4 {b : Bool} {d : Nat} {Q : zQ} {σ : zV} {v1 : Int32} {v2 : Int32} {v3 : Int32} : eX1_forget b d Q 4 [.ref 11, .int v1, .int v2, .int v3, .null, .null, .null] [.ref 12] σ = eX1_forget b d Q 5 [.ref 11, .int v1, .int v2, .int v3, .null, .null, .null] [.int v1, .ref 12] σ := q_iload_n (zCall_mono (zUn b) d) (by decide +kernel : decode cX1_forget 4 = .ok (.iload_n 1, 1)) rfl
theorem eX1_forget_5 {b : Bool} {d : Nat} {Q : zQ} {σ : zV} {v1 : Int32} {v2 : Int32} {v3 : Int32} {s0 : Int32} : eX1_forget b d Q 5 [.ref 11, .int v1, .int v2, .int v3, .null, .null, .null] [.int s0, .ref 12] σ = (vp_in s0 4 ∧ eX1_forget b d Q 6 [.ref 11, .int v1, .int v2, .int v3, .null, .null, .null] [.int (σ 12 s0.toNatClampNeg)] σ) := q_iald (zCall_mono (zUn b) d) (by decide +kernel : decode cX1_forget 5 = .ok (.iaload, 1)) (u_12 b)
theorem eX1_forget_6 {b : Bool} {d : Nat} {Q : zQ} {σ : zV} {v1 : Int32} {v2 : Int32} {v3 : Int32} {s0 : Int32} : eX1_forget b d Q 6 [.ref 11, .int v1, .int v2, .int v3, .null, .null, .null] [.int s0] σ = eX1_forget b d Q 8 [.ref 11, .int v1, .int v2, .int v3, .int s0, .null, .null] [] σ := q_istore (zCall_mono (zUn b) d) (by decide +kernel : decode cX1_forget 6 = .ok (.istore 4, 2)) (Nat.le_of_ble_eq_true rfl) (fun v h => by cases h; rfl) rfl
theorem eX1_forget_8 {b : Bool} {d : Nat} {Q : zQ} {σ : zV} {v1 : Int32} {v2 : Int32} {v3 : Int32} {v4 : Int32} : eX1_forget b d Q 8 [.ref 11, .int v1, .int v2, .int v3, .int v4, .null, .null] [] σ = eX1_forget b d Q 9 [.ref 11, .int v1, .int v2, .int v3, .int v4, .null, .null] [.int 0] σ := q_iconst (zCall_mono (zUn b) d) (by decide +kernel : decode cX1_forget 8 = .ok (.iconst 0, 1)) (by decide +kernel)
theorem eX1_forget_9 {b : Bool} {d : Nat} {Q : zQ} {σ : zV} {v1 : Int32} {v2 : Int32} {v3 : Int32} {v4 : Int32} {s0 : Int32} : eX1_forget b d Q 9 [.ref 11, .int v1, .int v2, .int v3, .int v4, .null, .null] [.int s0] σ = eX1_forget b d Q 11 [.ref 11, .int v1, .int v2, .int v3, .int v4, .int s0, .null] [] σ := q_istore (zCall_mono (zUn b) d) (by decide +kernel : decode cX1_forget 9 = .ok (.istore 5, 2)) (Nat.le_of_ble_eq_true rfl) (fun v h => by cases h; rfl) rfl
theorem eX1_forget_11 {b : Bool} {d : Nat} {Q : zQ} {σ : zV} {v1 : Int32} {v2 : Int32} {v3 : Int32} {v4 : Int32} {v5 : Int32} : eX1_forget b d Q 11 [.ref 11, .int v1, .int v2, .int v3, .int v4, .int v5, .null] [] σ = eX1_forget b d Q 12 [.ref 11, .int v1, .int v2, .int v3, .int v4, .int v5, .null] [.int 0] σ := q_iconst (zCall_mono (zUn b) d) (by decide +kernel : decode cX1_forget 11 = .ok (.iconst 0, 1)) (by decide +kernel)
theorem eX1_forget_12 {b : Bool} {d : Nat} {Q : zQ} {σ : zV} {v1 : Int32} {v2 : Int32} {v3 : Int32} {v4 : Int32} {v5 : Int32} {s0 : Int32} : eX1_forget b d Q 12 [.ref 11, .int v1, .int v2, .int v3, .int v4, .int v5, .null] [.int s0] σ = eX1_forget b d Q 14 [.ref 11, .int v1, .int v2, .int v3, .int v4, .int v5, .int s0] [] σ := q_istore (zCall_mono (zUn b) d) (by decide +kernel : decode cX1_forget 12 = .ok (.istore 6, 2)) (Nat.le_of_ble_eq_true rfl) (fun v h => by cases h; rfl) rfl
theorem eX1_forget_14 {b : Bool} {d : Nat} {Q : zQ} {σ : zV} {v1 : Int32} {v2 : Int32} {v3 : Int32} {v4 : Int32} {v5 : Int32} {v6 : Int32} : eX1_forget b d Q 14 [.ref 11, .int v1, .int v2, .int v3, .int v4, .int v5, .int v6] [] σ = eX1_forget b d Q 16 [.ref 11, .int v1, .int v2, .int v3, .int v4, .int v5, .int v6] [.int v6] σ := q_iload (zCall_mono (zUn b) d) (by decide +kernel : decode cX1_forget 14 = .ok (.iload 6, 2)) rfl
theorem eX1_forget_16 {b : Bool} {d : Nat} {Q : zQ} {σ : zV} {v1 : Int32} {v2 : Int32} {v3 : Int32} {v4 : Int32} {v5 : Int32} {v6 : Int32} {s0 : Int32} : eX1_forget b d Q 16 [.ref 11, .int v1, .int v2, .int v3, .int v4, .int v5, .int v6] [.int s0] σ = eX1_forget b d Q 18 [.ref 11, .int v1, .int v2, .int v3, .int v4, .int v5, .int v6] [.int v4, .int s0] σ := q_iload (zCall_mono (zUn b) d) (by decide +kernel : decode cX1_forget 16 = .ok (.iload 4, 2)) rfl
theorem eX1_forget_18 {b : Bool} {d : Nat} {Q : zQ} {σ : zV} {v1 : Int32} {v2 : Int32} {v3 : Int32} {v4 : Int32} {v5 : Int32} {v6 : Int32} {s0 : Int32} {s1 : Int32} : eX1_forget b d Q 18 [.ref 11, .int v1, .int v2, .int v3, .int v4, .int v5, .int v6] [.int s0, .int s1] σ = ((s0 ≤ s1 → eX1_forget b d Q 51 [.ref 11, .int v1, .int v2, .int v3, .int v4, .int v5, .int v6] [] σ) ∧ (¬ s0 ≤ s1 → eX1_forget b d Q 21 [.ref 11, .int v1, .int v2, .int v3, .int v4, .int v5, .int v6] [] σ)) := q_icmp (zCall_mono (zUn b) d) (by decide +kernel : decode cX1_forget 18 = .ok (.if_icmp .ge 33, 3)) (by decide)
theorem eX1_forget_21 {b : Bool} {d : Nat} {Q : zQ} {σ : zV} {v1 : Int32} {v2 : Int32} {v3 : Int32} {v4 : Int32} {v5 : Int32} {v6 : Int32} : eX1_forget b d Q 21 [.ref 11, .int v1, .int v2, .int v3, .int v4, .int v5, .int v6] [] σ = eX1_forget b d Q 22 [.ref 11, .int v1, .int v2, .int v3, .int v4, .int v5, .int v6] [.ref 11] σ := q_aload_n (zCall_mono (zUn b) d) (by decide +kernel : decode cX1_forget 21 = .ok (.aload_n 0, 1)) rfl
theorem eX1_forget_22 {b : Bool} {d : Nat} {Q : zQ} {σ : zV} {v1 : Int32} {v2 : Int32} {v3 : Int32} {v4 : Int32} {v5 : Int32} {v6 : Int32} : eX1_forget b d Q 22 [.ref 11, .int v1, .int v2, .int v3, .int v4, .int v5, .int v6] [.ref 11] σ = eX1_forget b d Q 23 [.ref 11, .int v1, .int v2, .int v3, .int v4, .int v5, .int v6] [.int v1, .ref 11] σ := q_iload_n (zCall_mono (zUn b) d) (by decide +kernel : decode cX1_forget 22 = .ok (.iload_n 1, 1)) rfl
theorem eX1_forget_23 {b : Bool} {d : Nat} {Q : zQ} {σ : zV} {v1 : Int32} {v2 : Int32} {v3 : Int32} {v4 : Int32} {v5 : Int32} {v6 : Int32} {s0 : Int32} : eX1_forget b d Q 23 [.ref 11, .int v1, .int v2, .int v3, .int v4, .int v5, .int v6] [.int s0, .ref 11] σ = eX1_forget b d Q 25 [.ref 11, .int v1, .int v2, .int v3, .int v4, .int v5, .int v6] [.int v6, .int s0, .ref 11] σ := q_iload (zCall_mono (zUn b) d) (by decide +kernel : decode cX1_forget 23 = .ok (.iload 6, 2)) rfl
theorem eX1_forget_25 {b : Bool} {d : Nat} {Q : zQ} {σ : zV} {v1 : Int32} {v2 : Int32} {v3 : Int32} {v4 : Int32} {v5 : Int32} {v6 : Int32} {s0 : Int32} {s1 : Int32} : eX1_forget b d Q 25 [.ref 11, .int v1, .int v2, .int v3, .int v4, .int v5, .int v6] [.int s0, .int s1, .ref 11] σ = eX1_forget b d Q 26 [.ref 11, .int v1, .int v2, .int v3, .int v4, .int v5, .int v6] [.int v2, .int s0, .int s1, .ref 11] σ := q_iload_n (zCall_mono (zUn b) d) (by decide +kernel : decode cX1_forget 25 = .ok (.iload_n 2, 1)) rfl
theorem eX1_forget_26 {b : Bool} {d : Nat} {Q : zQ} {σ : zV} {v1 : Int32} {v2 : Int32} {v3 : Int32} {v4 : Int32} {v5 : Int32} {v6 : Int32} {s0 : Int32} {s1 : Int32} {s2 : Int32} : eX1_forget b d Q 26 [.ref 11, .int v1, .int v2, .int v3, .int v4, .int v5, .int v6] [.int s0, .int s1, .int s2, .ref 11] σ = eX1_forget b d Q 27 [.ref 11, .int v1, .int v2, .int v3, .int v4, .int v5, .int v6] [.int v3, .int s0, .int s1, .int s2, .ref 11] σ := q_iload_n (zCall_mono (zUn b) d) (by decide +kernel : decode cX1_forget 26 = .ok (.iload_n 3, 1)) rfl
theorem eX1_forget_27 {b : Bool} {d : Nat} {Q : zQ} {σ : zV} {v1 : Int32} {v2 : Int32} {v3 : Int32} {v4 : Int32} {v5 : Int32} {v6 : Int32} {s0 : Int32} {s1 : Int32} {s2 : Int32} {s3 : Int32} : eX1_forget b d Q 27 [.ref 11, .int v1, .int v2, .int v3, .int v4, .int v5, .int v6] [.int s0, .int s1, .int s2, .int s3, .ref 11] σ = zCall (zUn b) d yX1_isOf [.ref 11, .int s3, .int s2, .int s1, .int s0] σ (fun v σ' => eX1_forget b d Q 30 [.ref 11, .int v1, .int v2, .int v3, .int v4, .int v5, .int v6] (v.toList ++ []) σ') := q_inv (As := [.int s3, .int s2, .int s1, .int s0]) (r := []) (zCall_mono (zUn b) d) (by decide +kernel : decode cX1_forget 27 = .ok (.invokevirtual 33, 3)) zm_RX1_33 (Nat.le_of_ble_eq_true rfl) (u_11 b) zn_1 (Nat.le_of_ble_eq_true rfl) rfl
theorem eX1_forget_30 {b : Bool} {d : Nat} {Q : zQ} {σ : zV} {v1 : Int32} {v2 : Int32} {v3 : Int32} {v4 : Int32} {v5 : Int32} {v6 : Int32} {s0 : Int32} : eX1_forget b d Q 30 [.ref 11, .int v1, .int v2, .int v3, .int v4, .int v5, .int v6] [.int s0] σ = ((¬ s0 = 0 → eX1_forget b d Q 45 [.ref 11, .int v1, .int v2, .int v3, .int v4, .int v5, .int v6] [] σ) ∧ (s0 = 0 → eX1_forget b d Q 33 [.ref 11, .int v1, .int v2, .int v3, .int v4, .int v5, .int v6] [] σ)) := (q_if (zCall_mono (zUn b) d) (by decide +kernel : decode cX1_forget 30 = .ok (.ifCond .ne 15, 3)) (by decide)).trans z_ne
theorem eX1_forget_33 {b : Bool} {d : Nat} {Q : zQ} {σ : zV} {v1 : Int32} {v2 : Int32} {v3 : Int32} {v4 : Int32} {v5 : Int32} {v6 : Int32} : eX1_forget b d Q 33 [.ref 11, .int v1, .int v2, .int v3, .int v4, .int v5, .int v6] [] σ = eX1_forget b d Q 34 [.ref 11, .int v1, .int v2, .int v3, .int v4, .int v5, .int v6] [.ref 11] σ := q_aload_n (zCall_mono (zUn b) d) (by decide +kernel : decode cX1_forget 33 = .ok (.aload_n 0, 1)) rfl
theorem eX1_forget_34 {b : Bool} {d : Nat} {Q : zQ} {σ : zV} {v1 : Int32} {v2 : Int32} {v3 : Int32} {v4 : Int32} {v5 : Int32} {v6 : Int32} : eX1_forget b d Q 34 [.ref 11, .int v1, .int v2, .int v3, .int v4, .int v5, .int v6] [.ref 11] σ = eX1_forget b d Q 35 [.ref 11, .int v1, .int v2, .int v3, .int v4, .int v5, .int v6] [.int v1, .ref 11] σ := q_iload_n (zCall_mono (zUn b) d) (by decide +kernel : decode cX1_forget 34 = .ok (.iload_n 1, 1)) rfl
theorem eX1_forget_35 {b : Bool} {d : Nat} {Q : zQ} {σ : zV} {v1 : Int32} {v2 : Int32} {v3 : Int32} {v4 : Int32} {v5 : Int32} {v6 : Int32} {s0 : Int32} : eX1_forget b d Q 35 [.ref 11, .int v1, .int v2, .int v3, .int v4, .int v5, .int v6] [.int s0, .ref 11] σ = eX1_forget b d Q 37 [.ref 11, .int v1, .int v2, .int v3, .int v4, .int v5, .int v6] [.int v6, .int s0, .ref 11] σ := q_iload (zCall_mono (zUn b) d) (by decide +kernel : decode cX1_forget 35 = .ok (.iload 6, 2)) rfl
theorem eX1_forget_37 {b : Bool} {d : Nat} {Q : zQ} {σ : zV} {v1 : Int32} {v2 : Int32} {v3 : Int32} {v4 : Int32} {v5 : Int32} {v6 : Int32} {s0 : Int32} {s1 : Int32} : eX1_forget b d Q 37 [.ref 11, .int v1, .int v2, .int v3, .int v4, .int v5, .int v6] [.int s0, .int s1, .ref 11] σ = eX1_forget b d Q 39 [.ref 11, .int v1, .int v2, .int v3, .int v4, .int v5, .int v6] [.int v5, .int s0, .int s1, .ref 11] σ := q_iload (zCall_mono (zUn b) d) (by decide +kernel : decode cX1_forget 37 = .ok (.iload 5, 2)) rfl
theorem eX1_forget_39 {b : Bool} {d : Nat} {Q : zQ} {σ : zV} {v1 : Int32} {v2 : Int32} {v3 : Int32} {v4 : Int32} {v5 : Int32} {v6 : Int32} {s0 : Int32} {s1 : Int32} {s2 : Int32} : eX1_forget b d Q 39 [.ref 11, .int v1, .int v2, .int v3, .int v4, .int v5, .int v6] [.int s0, .int s1, .int s2, .ref 11] σ = zCall (zUn b) d yX1_move [.ref 11, .int s2, .int s1, .int s0] σ (fun v σ' => eX1_forget b d Q 42 [.ref 11, .int v1, .int v2, .int v3, .int v4, .int v5, .int v6] (v.toList ++ []) σ') := q_inv (As := [.int s2, .int s1, .int s0]) (r := []) (zCall_mono (zUn b) d) (by decide +kernel : decode cX1_forget 39 = .ok (.invokevirtual 48, 3)) zm_RX1_48 (Nat.le_of_ble_eq_true rfl) (u_11 b) zn_1 (Nat.le_of_ble_eq_true rfl) rfl
theorem eX1_forget_42 {b : Bool} {d : Nat} {Q : zQ} {σ : zV} {v1 : Int32} {v2 : Int32} {v3 : Int32} {v4 : Int32} {v5 : Int32} {v6 : Int32} : eX1_forget b d Q 42 [.ref 11, .int v1, .int v2, .int v3, .int v4, .int v5, .int v6] [] σ = eX1_forget b d Q 45 [.ref 11, .int v1, .int v2, .int v3, .int v4, .int (v5 + 1), .int v6] [] σ := q_iinc (zCall_mono (zUn b) d) (by decide +kernel : decode cX1_forget 42 = .ok (.iinc 5 1, 3)) rfl (Nat.le_of_ble_eq_true rfl) (fun v h => by cases h; rfl) (by decide +kernel) rfl
theorem eX1_forget_45 {b : Bool} {d : Nat} {Q : zQ} {σ : zV} {v1 : Int32} {v2 : Int32} {v3 : Int32} {v4 : Int32} {v5 : Int32} {v6 : Int32} : eX1_forget b d Q 45 [.ref 11, .int v1, .int v2, .int v3, .int v4, .int v5, .int v6] [] σ = eX1_forget b d Q 48 [.ref 11, .int v1, .int v2, .int v3, .int v4, .int v5, .int (v6 + 1)] [] σ := q_iinc (zCall_mono (zUn b) d) (by decide +kernel : decode cX1_forget 45 = .ok (.iinc 6 1, 3)) rfl (Nat.le_of_ble_eq_true rfl) (fun v h => by cases h; rfl) (by decide +kernel) rfl
theorem eX1_forget_48 {b : Bool} {d : Nat} {Q : zQ} {σ : zV} {v1 : Int32} {v2 : Int32} {v3 : Int32} {v4 : Int32} {v5 : Int32} {v6 : Int32} : eX1_forget b d Q 48 [.ref 11, .int v1, .int v2, .int v3, .int v4, .int v5, .int v6] [] σ = eX1_forget b d Q 14 [.ref 11, .int v1, .int v2, .int v3, .int v4, .int v5, .int v6] [] σ := q_goto (zCall_mono (zUn b) d) (by decide +kernel : decode cX1_forget 48 = .ok (.goto (-34), 3)) (by decide)
theorem eX1_forget_51 {b : Bool} {d : Nat} {Q : zQ} {σ : zV} {v1 : Int32} {v2 : Int32} {v3 : Int32} {v4 : Int32} {v5 : Int32} {v6 : Int32} : eX1_forget b d Q 51 [.ref 11, .int v1, .int v2, .int v3, .int v4, .int v5, .int v6] [] σ = eX1_forget b d Q 52 [.ref 11, .int v1, .int v2, .int v3, .int v4, .int v5, .int v6] [.ref 11] σ := q_aload_n (zCall_mono (zUn b) d) (by decide +kernel : decode cX1_forget 51 = .ok (.aload_n 0, 1)) rfl
theorem eX1_forget_52 {b : Bool} {d : Nat} {Q : zQ} {σ : zV} {v1 : Int32} {v2 : Int32} {v3 : Int32} {v4 : Int32} {v5 : Int32} {v6 : Int32} : eX1_forget b d Q 52 [.ref 11, .int v1, .int v2, .int v3, .int v4, .int v5, .int v6] [.ref 11] σ = eX1_forget b d Q 55 [.ref 11, .int v1, .int v2, .int v3, .int v4, .int v5, .int v6] [.ref 12] σ := q_getR (zCall_mono (zUn b) d) (by decide +kernel : decode cX1_forget 52 = .ok (.getfield 9, 3)) zf_RX1_9 (u_11 b) rfl
theorem eX1_forget_55 {b : Bool} {d : Nat} {Q : zQ} {σ : zV} {v1 : Int32} {v2 : Int32} {v3 : Int32} {v4 : Int32} {v5 : Int32} {v6 : Int32} : eX1_forget b d Q 55 [.ref 11, .int v1, .int v2, .int v3, .int v4, .int v5, .int v6] [.ref 12] σ = eX1_forget b d Q 56 [.ref 11, .int v1, .int v2, .int v3, .int v4, .int v5, .int v6] [.int v1, .ref 12] σ := q_iload_n (zCall_mono (zUn b) d) (by decide +kernel : decode cX1_forget 55 = .ok (.iload_n 1, 1)) rfl
theorem eX1_forget_56 {b : Bool} {d : Nat} {Q : zQ} {σ : zV} {v1 : Int32} {v2 : Int32} {v3 : Int32} {v4 : Int32} {v5 : Int32} {v6 : Int32} {s0 : Int32} : eX1_forget b d Q 56 [.ref 11, .int v1, .int v2, .int v3, .int v4, .int v5, .int v6] [.int s0, .ref 12] σ = eX1_forget b d Q 58 [.ref 11, .int v1, .int v2, .int v3, .int v4, .int v5, .int v6] [.int v5, .int s0, .ref 12] σ := q_iload (zCall_mono (zUn b) d) (by decide +kernel : decode cX1_forget 56 = .ok (.iload 5, 2)) rfl
theorem eX1_forget_58 {b : Bool} {d : Nat} {Q : zQ} {σ : zV} {v1 : Int32} {v2 : Int32} {v3 : Int32} {v4 : Int32} {v5 : Int32} {v6 : Int32} {s0 : Int32} {s1 : Int32} : eX1_forget b d Q 58 [.ref 11, .int v1, .int v2, .int v3, .int v4, .int v5, .int v6] [.int s0, .int s1, .ref 12] σ = (vp_in s1 4 ∧ eX1_forget b d Q 59 [.ref 11, .int v1, .int v2, .int v3, .int v4, .int v5, .int v6] [] (zput σ 12 s1.toNatClampNeg s0)) := q_iast (zCall_mono (zUn b) d) (by decide +kernel : decode cX1_forget 58 = .ok (.iastore, 1)) (u_12 b)
theorem eX1_forget_59 {b : Bool} {d : Nat} {Q : zQ} {σ : zV} {v1 : Int32} {v2 : Int32} {v3 : Int32} {v4 : Int32} {v5 : Int32} {v6 : Int32} : eX1_forget b d Q 59 [.ref 11, .int v1, .int v2, .int v3, .int v4, .int v5, .int v6] [] σ = eX1_forget b d Q 61 [.ref 11, .int v1, .int v2, .int v3, .int v4, .int v5, .int v6] [.int v4] σ := q_iload (zCall_mono (zUn b) d) (by decide +kernel : decode cX1_forget 59 = .ok (.iload 4, 2)) rfl
theorem eX1_forget_61 {b : Bool} {d : Nat} {Q : zQ} {σ : zV} {v1 : Int32} {v2 : Int32} {v3 : Int32} {v4 : Int32} {v5 : Int32} {v6 : Int32} {s0 : Int32} : eX1_forget b d Q 61 [.ref 11, .int v1, .int v2, .int v3, .int v4, .int v5, .int v6] [.int s0] σ = eX1_forget b d Q 63 [.ref 11, .int v1, .int v2, .int v3, .int v4, .int v5, .int v6] [.int v5, .int s0] σ := q_iload (zCall_mono (zUn b) d) (by decide +kernel : decode cX1_forget 61 = .ok (.iload 5, 2)) rfl
theorem eX1_forget_63 {b : Bool} {d : Nat} {Q : zQ} {σ : zV} {v1 : Int32} {v2 : Int32} {v3 : Int32} {v4 : Int32} {v5 : Int32} {v6 : Int32} {s0 : Int32} {s1 : Int32} : eX1_forget b d Q 63 [.ref 11, .int v1, .int v2, .int v3, .int v4, .int v5, .int v6] [.int s0, .int s1] σ = eX1_forget b d Q 64 [.ref 11, .int v1, .int v2, .int v3, .int v4, .int v5, .int v6] [.int (s1 - s0)] σ := q_isub (zCall_mono (zUn b) d) (by decide +kernel : decode cX1_forget 63 = .ok (.isub, 1))
theorem eX1_forget_64 {b : Bool} {d : Nat} {Q : zQ} {σ : zV} {v1 : Int32} {v2 : Int32} {v3 : Int32} {v4 : Int32} {v5 : Int32} {v6 : Int32} {s0 : Int32} : eX1_forget b d Q 64 [.ref 11, .int v1, .int v2, .int v3, .int v4, .int v5, .int v6] [.int s0] σ = Q (some (.int s0)) σ := q_iret (zCall_mono (zUn b) d) (by decide +kernel : decode cX1_forget 64 = .ok (.ireturn, 1)) rfl
theorem nX1_forget {b : Bool} {d : Nat} {Q : zQ} {σ : zV} {v1 : Int32} {v2 : Int32} {v3 : Int32} : zCall (zUn b) (d + 1) yX1_forget [.ref 11, .int v1, .int v2, .int v3] σ Q = eX1_forget b d Q 0 [.ref 11, .int v1, .int v2, .int v3, .null, .null, .null] [] σ := (q_call kX1_forget (Nat.le_of_ble_eq_true rfl)).trans rfl
def eX1_isOf (b : Bool) (d : Nat) (Q : zQ) : zP := zEv (zUn b) (zCall (zUn b) d) RX1 cX1_isOf 5 (some .boolean) none Q
theorem eX1_isOf_0 {b : Bool} {d : Nat} {Q : zQ} {σ : zV} {v1 : Int32} {v2 : Int32} {v3 : Int32} {v4 : Int32} : eX1_isOf b d Q 0 [.ref 11, .int v1, .int v2, .int v3, .int v4] [] σ = eX1_isOf b d Q 1 [.ref 11, .int v1, .int v2, .int v3, .int v4] [.ref 11] σ := q_aload_n (zCall_mono (zUn b) d) (by decide +kernel : decode cX1_isOf 0 = .ok (.aload_n 0, 1)) rfl
theorem eX1_isOf_1 {b : Bool} {d : Nat} {Q : zQ} {σ : zV} {v1 : Int32} {v2 : Int32} {v3 : Int32} {v4 : Int32} : eX1_isOf b d Q 1 [.ref 11, .int v1, .int v2, .int v3, .int v4] [.ref 11] σ = eX1_isOf b d Q 2 [.ref 11, .int v1, .int v2, .int v3, .int v4] [.int v1, .ref 11] σ := q_iload_n (zCall_mono (zUn b) d) (by decide +kernel : decode cX1_isOf 1 = .ok (.iload_n 1, 1)) rfl
theorem eX1_isOf_2 {b : Bool} {d : Nat} {Q : zQ} {σ : zV} {v1 : Int32} {v2 : Int32} {v3 : Int32} {v4 : Int32} {s0 : Int32} : eX1_isOf b d Q 2 [.ref 11, .int v1, .int v2, .int v3, .int v4] [.int s0, .ref 11] σ = eX1_isOf b d Q 3 [.ref 11, .int v1, .int v2, .int v3, .int v4] [.int v2, .int s0, .ref 11] σ := q_iload_n (zCall_mono (zUn b) d) (by decide +kernel : decode cX1_isOf 2 = .ok (.iload_n 2, 1)) rfl
theorem eX1_isOf_3 {b : Bool} {d : Nat} {Q : zQ} {σ : zV} {v1 : Int32} {v2 : Int32} {v3 : Int32} {v4 : Int32} {s0 : Int32} {s1 : Int32} : eX1_isOf b d Q 3 [.ref 11, .int v1, .int v2, .int v3, .int v4] [.int s0, .int s1, .ref 11] σ = zCall (zUn b) d yX1_spaceNoted [.ref 11, .int s1, .int s0] σ (fun v σ' => eX1_isOf b d Q 6 [.ref 11, .int v1, .int v2, .int v3, .int v4] (v.toList ++ []) σ') := q_inv (As := [.int s1, .int s0]) (r := []) (zCall_mono (zUn b) d) (by decide +kernel : decode cX1_isOf 3 = .ok (.invokevirtual 37, 3)) zm_RX1_37 (Nat.le_of_ble_eq_true rfl) (u_11 b) zn_1 (Nat.le_of_ble_eq_true rfl) rfl
theorem eX1_isOf_6 {b : Bool} {d : Nat} {Q : zQ} {σ : zV} {v1 : Int32} {v2 : Int32} {v3 : Int32} {v4 : Int32} {s0 : Int32} : eX1_isOf b d Q 6 [.ref 11, .int v1, .int v2, .int v3, .int v4] [.int s0] σ = eX1_isOf b d Q 7 [.ref 11, .int v1, .int v2, .int v3, .int v4] [.int v3, .int s0] σ := q_iload_n (zCall_mono (zUn b) d) (by decide +kernel : decode cX1_isOf 6 = .ok (.iload_n 3, 1)) rfl
theorem eX1_isOf_7 {b : Bool} {d : Nat} {Q : zQ} {σ : zV} {v1 : Int32} {v2 : Int32} {v3 : Int32} {v4 : Int32} {s0 : Int32} {s1 : Int32} : eX1_isOf b d Q 7 [.ref 11, .int v1, .int v2, .int v3, .int v4] [.int s0, .int s1] σ = ((¬ s1 = s0 → eX1_isOf b d Q 31 [.ref 11, .int v1, .int v2, .int v3, .int v4] [] σ) ∧ (s1 = s0 → eX1_isOf b d Q 10 [.ref 11, .int v1, .int v2, .int v3, .int v4] [] σ)) := (q_icmp (zCall_mono (zUn b) d) (by decide +kernel : decode cX1_isOf 7 = .ok (.if_icmp .ne 24, 3)) (by decide)).trans z_ne
theorem eX1_isOf_10 {b : Bool} {d : Nat} {Q : zQ} {σ : zV} {v1 : Int32} {v2 : Int32} {v3 : Int32} {v4 : Int32} : eX1_isOf b d Q 10 [.ref 11, .int v1, .int v2, .int v3, .int v4] [] σ = eX1_isOf b d Q 12 [.ref 11, .int v1, .int v2, .int v3, .int v4] [.int v4] σ := q_iload (zCall_mono (zUn b) d) (by decide +kernel : decode cX1_isOf 10 = .ok (.iload 4, 2)) rfl
theorem eX1_isOf_12 {b : Bool} {d : Nat} {Q : zQ} {σ : zV} {v1 : Int32} {v2 : Int32} {v3 : Int32} {v4 : Int32} {s0 : Int32} : eX1_isOf b d Q 12 [.ref 11, .int v1, .int v2, .int v3, .int v4] [.int s0] σ = eX1_isOf b d Q 13 [.ref 11, .int v1, .int v2, .int v3, .int v4] [.int (-1), .int s0] σ := q_iconst (zCall_mono (zUn b) d) (by decide +kernel : decode cX1_isOf 12 = .ok (.iconst (-1), 1)) (by decide +kernel)
theorem eX1_isOf_13 {b : Bool} {d : Nat} {Q : zQ} {σ : zV} {v1 : Int32} {v2 : Int32} {v3 : Int32} {v4 : Int32} {s0 : Int32} {s1 : Int32} : eX1_isOf b d Q 13 [.ref 11, .int v1, .int v2, .int v3, .int v4] [.int s0, .int s1] σ = ((s1 = s0 → eX1_isOf b d Q 27 [.ref 11, .int v1, .int v2, .int v3, .int v4] [] σ) ∧ (¬ s1 = s0 → eX1_isOf b d Q 16 [.ref 11, .int v1, .int v2, .int v3, .int v4] [] σ)) := q_icmp (zCall_mono (zUn b) d) (by decide +kernel : decode cX1_isOf 13 = .ok (.if_icmp .eq 14, 3)) (by decide)
theorem eX1_isOf_16 {b : Bool} {d : Nat} {Q : zQ} {σ : zV} {v1 : Int32} {v2 : Int32} {v3 : Int32} {v4 : Int32} : eX1_isOf b d Q 16 [.ref 11, .int v1, .int v2, .int v3, .int v4] [] σ = eX1_isOf b d Q 17 [.ref 11, .int v1, .int v2, .int v3, .int v4] [.ref 11] σ := q_aload_n (zCall_mono (zUn b) d) (by decide +kernel : decode cX1_isOf 16 = .ok (.aload_n 0, 1)) rfl
theorem eX1_isOf_17 {b : Bool} {d : Nat} {Q : zQ} {σ : zV} {v1 : Int32} {v2 : Int32} {v3 : Int32} {v4 : Int32} : eX1_isOf b d Q 17 [.ref 11, .int v1, .int v2, .int v3, .int v4] [.ref 11] σ = eX1_isOf b d Q 18 [.ref 11, .int v1, .int v2, .int v3, .int v4] [.int v1, .ref 11] σ := q_iload_n (zCall_mono (zUn b) d) (by decide +kernel : decode cX1_isOf 17 = .ok (.iload_n 1, 1)) rfl
theorem eX1_isOf_18 {b : Bool} {d : Nat} {Q : zQ} {σ : zV} {v1 : Int32} {v2 : Int32} {v3 : Int32} {v4 : Int32} {s0 : Int32} : eX1_isOf b d Q 18 [.ref 11, .int v1, .int v2, .int v3, .int v4] [.int s0, .ref 11] σ = eX1_isOf b d Q 19 [.ref 11, .int v1, .int v2, .int v3, .int v4] [.int v2, .int s0, .ref 11] σ := q_iload_n (zCall_mono (zUn b) d) (by decide +kernel : decode cX1_isOf 18 = .ok (.iload_n 2, 1)) rfl
theorem eX1_isOf_19 {b : Bool} {d : Nat} {Q : zQ} {σ : zV} {v1 : Int32} {v2 : Int32} {v3 : Int32} {v4 : Int32} {s0 : Int32} {s1 : Int32} : eX1_isOf b d Q 19 [.ref 11, .int v1, .int v2, .int v3, .int v4] [.int s0, .int s1, .ref 11] σ = zCall (zUn b) d yX1_pageNoted [.ref 11, .int s1, .int s0] σ (fun v σ' => eX1_isOf b d Q 22 [.ref 11, .int v1, .int v2, .int v3, .int v4] (v.toList ++ []) σ') := q_inv (As := [.int s1, .int s0]) (r := []) (zCall_mono (zUn b) d) (by decide +kernel : decode cX1_isOf 19 = .ok (.invokevirtual 41, 3)) zm_RX1_41 (Nat.le_of_ble_eq_true rfl) (u_11 b) zn_1 (Nat.le_of_ble_eq_true rfl) rfl
theorem eX1_isOf_22 {b : Bool} {d : Nat} {Q : zQ} {σ : zV} {v1 : Int32} {v2 : Int32} {v3 : Int32} {v4 : Int32} {s0 : Int32} : eX1_isOf b d Q 22 [.ref 11, .int v1, .int v2, .int v3, .int v4] [.int s0] σ = eX1_isOf b d Q 24 [.ref 11, .int v1, .int v2, .int v3, .int v4] [.int v4, .int s0] σ := q_iload (zCall_mono (zUn b) d) (by decide +kernel : decode cX1_isOf 22 = .ok (.iload 4, 2)) rfl
theorem eX1_isOf_24 {b : Bool} {d : Nat} {Q : zQ} {σ : zV} {v1 : Int32} {v2 : Int32} {v3 : Int32} {v4 : Int32} {s0 : Int32} {s1 : Int32} : eX1_isOf b d Q 24 [.ref 11, .int v1, .int v2, .int v3, .int v4] [.int s0, .int s1] σ = ((¬ s1 = s0 → eX1_isOf b d Q 31 [.ref 11, .int v1, .int v2, .int v3, .int v4] [] σ) ∧ (s1 = s0 → eX1_isOf b d Q 27 [.ref 11, .int v1, .int v2, .int v3, .int v4] [] σ)) := (q_icmp (zCall_mono (zUn b) d) (by decide +kernel : decode cX1_isOf 24 = .ok (.if_icmp .ne 7, 3)) (by decide)).trans z_ne
theorem eX1_isOf_27 {b : Bool} {d : Nat} {Q : zQ} {σ : zV} {v1 : Int32} {v2 : Int32} {v3 : Int32} {v4 : Int32} : eX1_isOf b d Q 27 [.ref 11, .int v1, .int v2, .int v3, .int v4] [] σ = eX1_isOf b d Q 28 [.ref 11, .int v1, .int v2, .int v3, .int v4] [.int 1] σ := q_iconst (zCall_mono (zUn b) d) (by decide +kernel : decode cX1_isOf 27 = .ok (.iconst 1, 1)) (by decide +kernel)
theorem eX1_isOf_28 {b : Bool} {d : Nat} {Q : zQ} {σ : zV} {v1 : Int32} {v2 : Int32} {v3 : Int32} {v4 : Int32} {s0 : Int32} : eX1_isOf b d Q 28 [.ref 11, .int v1, .int v2, .int v3, .int v4] [.int s0] σ = eX1_isOf b d Q 32 [.ref 11, .int v1, .int v2, .int v3, .int v4] [.int s0] σ := q_goto (zCall_mono (zUn b) d) (by decide +kernel : decode cX1_isOf 28 = .ok (.goto 4, 3)) (by decide)
theorem eX1_isOf_31 {b : Bool} {d : Nat} {Q : zQ} {σ : zV} {v1 : Int32} {v2 : Int32} {v3 : Int32} {v4 : Int32} : eX1_isOf b d Q 31 [.ref 11, .int v1, .int v2, .int v3, .int v4] [] σ = eX1_isOf b d Q 32 [.ref 11, .int v1, .int v2, .int v3, .int v4] [.int 0] σ := q_iconst (zCall_mono (zUn b) d) (by decide +kernel : decode cX1_isOf 31 = .ok (.iconst 0, 1)) (by decide +kernel)
theorem eX1_isOf_32 {b : Bool} {d : Nat} {Q : zQ} {σ : zV} {v1 : Int32} {v2 : Int32} {v3 : Int32} {v4 : Int32} {s0 : Int32} : eX1_isOf b d Q 32 [.ref 11, .int v1, .int v2, .int v3, .int v4] [.int s0] σ = (narrow .boolean (.int s0) = .int s0 ∧ Q (some (.int s0)) σ) := q_zret (zCall_mono (zUn b) d) (by decide +kernel : decode cX1_isOf 32 = .ok (.ireturn, 1)) rfl
theorem nX1_isOf {b : Bool} {d : Nat} {Q : zQ} {σ : zV} {v1 : Int32} {v2 : Int32} {v3 : Int32} {v4 : Int32} : zCall (zUn b) (d + 1) yX1_isOf [.ref 11, .int v1, .int v2, .int v3, .int v4] σ Q = eX1_isOf b d Q 0 [.ref 11, .int v1, .int v2, .int v3, .int v4] [] σ := (q_call kX1_isOf (Nat.le_of_ble_eq_true rfl)).trans rfl
def eX1_keep (b : Bool) (d : Nat) (Q : zQ) : zP := zEv (zUn b) (zCall (zUn b) d) RX1 cX1_keep 7 none none Q
theorem eX1_keep_0 {b : Bool} {d : Nat} {Q : zQ} {σ : zV} {v1 : Int32} {v2 : Int32} {v3 : Int32} {v4 : Int32} {v5 : Int32} : eX1_keep b d Q 0 [.ref 11, .int v1, .int v2, .int v3, .int v4, .int v5, .null] [] σ = eX1_keep b d Q 1 [.ref 11, .int v1, .int v2, .int v3, .int v4, .int v5, .null] [.ref 11] σ := q_aload_n (zCall_mono (zUn b) d) (by decide +kernel : decode cX1_keep 0 = .ok (.aload_n 0, 1)) rfl
theorem eX1_keep_1 {b : Bool} {d : Nat} {Q : zQ} {σ : zV} {v1 : Int32} {v2 : Int32} {v3 : Int32} {v4 : Int32} {v5 : Int32} : eX1_keep b d Q 1 [.ref 11, .int v1, .int v2, .int v3, .int v4, .int v5, .null] [.ref 11] σ = eX1_keep b d Q 4 [.ref 11, .int v1, .int v2, .int v3, .int v4, .int v5, .null] [.ref 12] σ := q_getR (zCall_mono (zUn b) d) (by decide +kernel : decode cX1_keep 1 = .ok (.getfield 9, 3)) zf_RX1_9 (u_11 b) rfl
theorem eX1_keep_4 {b : Bool} {d : Nat} {Q : zQ} {σ : zV} {v1 : Int32} {v2 : Int32} {v3 : Int32} {v4 : Int32} {v5 : Int32} : eX1_keep b d Q 4 [.ref 11, .int v1, .int v2, .int v3, .int v4, .int v5, .null] [.ref 12] σ = eX1_keep b d Q 5 [.ref 11, .int v1, .int v2, .int v3, .int v4, .int v5, .null] [.int v1, .ref 12] σ := q_iload_n (zCall_mono (zUn b) d) (by decide +kernel : decode cX1_keep 4 = .ok (.iload_n 1, 1)) rfl
theorem eX1_keep_5 {b : Bool} {d : Nat} {Q : zQ} {σ : zV} {v1 : Int32} {v2 : Int32} {v3 : Int32} {v4 : Int32} {v5 : Int32} {s0 : Int32} : eX1_keep b d Q 5 [.ref 11, .int v1, .int v2, .int v3, .int v4, .int v5, .null] [.int s0, .ref 12] σ = (vp_in s0 4 ∧ eX1_keep b d Q 6 [.ref 11, .int v1, .int v2, .int v3, .int v4, .int v5, .null] [.int (σ 12 s0.toNatClampNeg)] σ) := q_iald (zCall_mono (zUn b) d) (by decide +kernel : decode cX1_keep 5 = .ok (.iaload, 1)) (u_12 b)
theorem eX1_keep_6 {b : Bool} {d : Nat} {Q : zQ} {σ : zV} {v1 : Int32} {v2 : Int32} {v3 : Int32} {v4 : Int32} {v5 : Int32} {s0 : Int32} : eX1_keep b d Q 6 [.ref 11, .int v1, .int v2, .int v3, .int v4, .int v5, .null] [.int s0] σ = eX1_keep b d Q 7 [.ref 11, .int v1, .int v2, .int v3, .int v4, .int v5, .null] [.int 4, .int s0] σ := q_iconst (zCall_mono (zUn b) d) (by decide +kernel : decode cX1_keep 6 = .ok (.iconst 4, 1)) (by decide +kernel)
theorem eX1_keep_7 {b : Bool} {d : Nat} {Q : zQ} {σ : zV} {v1 : Int32} {v2 : Int32} {v3 : Int32} {v4 : Int32} {v5 : Int32} {s0 : Int32} {s1 : Int32} : eX1_keep b d Q 7 [.ref 11, .int v1, .int v2, .int v3, .int v4, .int v5, .null] [.int s0, .int s1] σ = ((¬ s1 = s0 → eX1_keep b d Q 28 [.ref 11, .int v1, .int v2, .int v3, .int v4, .int v5, .null] [] σ) ∧ (s1 = s0 → eX1_keep b d Q 10 [.ref 11, .int v1, .int v2, .int v3, .int v4, .int v5, .null] [] σ)) := (q_icmp (zCall_mono (zUn b) d) (by decide +kernel : decode cX1_keep 7 = .ok (.if_icmp .ne 21, 3)) (by decide)).trans z_ne
theorem eX1_keep_10 {b : Bool} {d : Nat} {Q : zQ} {σ : zV} {v1 : Int32} {v2 : Int32} {v3 : Int32} {v4 : Int32} {v5 : Int32} : eX1_keep b d Q 10 [.ref 11, .int v1, .int v2, .int v3, .int v4, .int v5, .null] [] σ = eX1_keep b d Q 11 [.ref 11, .int v1, .int v2, .int v3, .int v4, .int v5, .null] [.ref 11] σ := q_aload_n (zCall_mono (zUn b) d) (by decide +kernel : decode cX1_keep 10 = .ok (.aload_n 0, 1)) rfl
theorem eX1_keep_11 {b : Bool} {d : Nat} {Q : zQ} {σ : zV} {v1 : Int32} {v2 : Int32} {v3 : Int32} {v4 : Int32} {v5 : Int32} : eX1_keep b d Q 11 [.ref 11, .int v1, .int v2, .int v3, .int v4, .int v5, .null] [.ref 11] σ = eX1_keep b d Q 12 [.ref 11, .int v1, .int v2, .int v3, .int v4, .int v5, .null] [.int v1, .ref 11] σ := q_iload_n (zCall_mono (zUn b) d) (by decide +kernel : decode cX1_keep 11 = .ok (.iload_n 1, 1)) rfl
theorem eX1_keep_12 {b : Bool} {d : Nat} {Q : zQ} {σ : zV} {v1 : Int32} {v2 : Int32} {v3 : Int32} {v4 : Int32} {v5 : Int32} {s0 : Int32} : eX1_keep b d Q 12 [.ref 11, .int v1, .int v2, .int v3, .int v4, .int v5, .null] [.int s0, .ref 11] σ = eX1_keep b d Q 13 [.ref 11, .int v1, .int v2, .int v3, .int v4, .int v5, .null] [.ref 11, .int s0, .ref 11] σ := q_aload_n (zCall_mono (zUn b) d) (by decide +kernel : decode cX1_keep 12 = .ok (.aload_n 0, 1)) rfl
theorem eX1_keep_13 {b : Bool} {d : Nat} {Q : zQ} {σ : zV} {v1 : Int32} {v2 : Int32} {v3 : Int32} {v4 : Int32} {v5 : Int32} {s1 : Int32} : eX1_keep b d Q 13 [.ref 11, .int v1, .int v2, .int v3, .int v4, .int v5, .null] [.ref 11, .int s1, .ref 11] σ = eX1_keep b d Q 14 [.ref 11, .int v1, .int v2, .int v3, .int v4, .int v5, .null] [.int v1, .ref 11, .int s1, .ref 11] σ := q_iload_n (zCall_mono (zUn b) d) (by decide +kernel : decode cX1_keep 13 = .ok (.iload_n 1, 1)) rfl
theorem eX1_keep_14 {b : Bool} {d : Nat} {Q : zQ} {σ : zV} {v1 : Int32} {v2 : Int32} {v3 : Int32} {v4 : Int32} {v5 : Int32} {s0 : Int32} {s2 : Int32} : eX1_keep b d Q 14 [.ref 11, .int v1, .int v2, .int v3, .int v4, .int v5, .null] [.int s0, .ref 11, .int s2, .ref 11] σ = eX1_keep b d Q 15 [.ref 11, .int v1, .int v2, .int v3, .int v4, .int v5, .null] [.int 0, .int s0, .ref 11, .int s2, .ref 11] σ := q_iconst (zCall_mono (zUn b) d) (by decide +kernel : decode cX1_keep 14 = .ok (.iconst 0, 1)) (by decide +kernel)
theorem eX1_keep_15 {b : Bool} {d : Nat} {Q : zQ} {σ : zV} {v1 : Int32} {v2 : Int32} {v3 : Int32} {v4 : Int32} {v5 : Int32} {s0 : Int32} {s1 : Int32} {s3 : Int32} : eX1_keep b d Q 15 [.ref 11, .int v1, .int v2, .int v3, .int v4, .int v5, .null] [.int s0, .int s1, .ref 11, .int s3, .ref 11] σ = zCall (zUn b) d yX1_spaceNoted [.ref 11, .int s1, .int s0] σ (fun v σ' => eX1_keep b d Q 18 [.ref 11, .int v1, .int v2, .int v3, .int v4, .int v5, .null] (v.toList ++ [.int s3, .ref 11]) σ') := q_inv (As := [.int s1, .int s0]) (r := [.int s3, .ref 11]) (zCall_mono (zUn b) d) (by decide +kernel : decode cX1_keep 15 = .ok (.invokevirtual 37, 3)) zm_RX1_37 (Nat.le_of_ble_eq_true rfl) (u_11 b) zn_1 (Nat.le_of_ble_eq_true rfl) rfl
theorem eX1_keep_18 {b : Bool} {d : Nat} {Q : zQ} {σ : zV} {v1 : Int32} {v2 : Int32} {v3 : Int32} {v4 : Int32} {v5 : Int32} {s0 : Int32} {s1 : Int32} : eX1_keep b d Q 18 [.ref 11, .int v1, .int v2, .int v3, .int v4, .int v5, .null] [.int s0, .int s1, .ref 11] σ = eX1_keep b d Q 19 [.ref 11, .int v1, .int v2, .int v3, .int v4, .int v5, .null] [.ref 11, .int s0, .int s1, .ref 11] σ := q_aload_n (zCall_mono (zUn b) d) (by decide +kernel : decode cX1_keep 18 = .ok (.aload_n 0, 1)) rfl
theorem eX1_keep_19 {b : Bool} {d : Nat} {Q : zQ} {σ : zV} {v1 : Int32} {v2 : Int32} {v3 : Int32} {v4 : Int32} {v5 : Int32} {s1 : Int32} {s2 : Int32} : eX1_keep b d Q 19 [.ref 11, .int v1, .int v2, .int v3, .int v4, .int v5, .null] [.ref 11, .int s1, .int s2, .ref 11] σ = eX1_keep b d Q 20 [.ref 11, .int v1, .int v2, .int v3, .int v4, .int v5, .null] [.int v1, .ref 11, .int s1, .int s2, .ref 11] σ := q_iload_n (zCall_mono (zUn b) d) (by decide +kernel : decode cX1_keep 19 = .ok (.iload_n 1, 1)) rfl
theorem eX1_keep_20 {b : Bool} {d : Nat} {Q : zQ} {σ : zV} {v1 : Int32} {v2 : Int32} {v3 : Int32} {v4 : Int32} {v5 : Int32} {s0 : Int32} {s2 : Int32} {s3 : Int32} : eX1_keep b d Q 20 [.ref 11, .int v1, .int v2, .int v3, .int v4, .int v5, .null] [.int s0, .ref 11, .int s2, .int s3, .ref 11] σ = eX1_keep b d Q 21 [.ref 11, .int v1, .int v2, .int v3, .int v4, .int v5, .null] [.int 0, .int s0, .ref 11, .int s2, .int s3, .ref 11] σ := q_iconst (zCall_mono (zUn b) d) (by decide +kernel : decode cX1_keep 20 = .ok (.iconst 0, 1)) (by decide +kernel)
theorem eX1_keep_21 {b : Bool} {d : Nat} {Q : zQ} {σ : zV} {v1 : Int32} {v2 : Int32} {v3 : Int32} {v4 : Int32} {v5 : Int32} {s0 : Int32} {s1 : Int32} {s3 : Int32} {s4 : Int32} : eX1_keep b d Q 21 [.ref 11, .int v1, .int v2, .int v3, .int v4, .int v5, .null] [.int s0, .int s1, .ref 11, .int s3, .int s4, .ref 11] σ = zCall (zUn b) d yX1_pageNoted [.ref 11, .int s1, .int s0] σ (fun v σ' => eX1_keep b d Q 24 [.ref 11, .int v1, .int v2, .int v3, .int v4, .int v5, .null] (v.toList ++ [.int s3, .int s4, .ref 11]) σ') := q_inv (As := [.int s1, .int s0]) (r := [.int s3, .int s4, .ref 11]) (zCall_mono (zUn b) d) (by decide +kernel : decode cX1_keep 21 = .ok (.invokevirtual 41, 3)) zm_RX1_41 (Nat.le_of_ble_eq_true rfl) (u_11 b) zn_1 (Nat.le_of_ble_eq_true rfl) rfl
theorem eX1_keep_24 {b : Bool} {d : Nat} {Q : zQ} {σ : zV} {v1 : Int32} {v2 : Int32} {v3 : Int32} {v4 : Int32} {v5 : Int32} {s0 : Int32} {s1 : Int32} {s2 : Int32} : eX1_keep b d Q 24 [.ref 11, .int v1, .int v2, .int v3, .int v4, .int v5, .null] [.int s0, .int s1, .int s2, .ref 11] σ = zCall (zUn b) d yX1_forget [.ref 11, .int s2, .int s1, .int s0] σ (fun v σ' => eX1_keep b d Q 27 [.ref 11, .int v1, .int v2, .int v3, .int v4, .int v5, .null] (v.toList ++ []) σ') := q_inv (As := [.int s2, .int s1, .int s0]) (r := []) (zCall_mono (zUn b) d) (by decide +kernel : decode cX1_keep 24 = .ok (.invokevirtual 44, 3)) zm_RX1_44 (Nat.le_of_ble_eq_true rfl) (u_11 b) zn_1 (Nat.le_of_ble_eq_true rfl) rfl
theorem eX1_keep_27 {b : Bool} {d : Nat} {Q : zQ} {σ : zV} {v1 : Int32} {v2 : Int32} {v3 : Int32} {v4 : Int32} {v5 : Int32} {s0 : Int32} : eX1_keep b d Q 27 [.ref 11, .int v1, .int v2, .int v3, .int v4, .int v5, .null] [.int s0] σ = eX1_keep b d Q 28 [.ref 11, .int v1, .int v2, .int v3, .int v4, .int v5, .null] [] σ := q_pop (zCall_mono (zUn b) d) (by decide +kernel : decode cX1_keep 27 = .ok (.pop, 1)) rfl
theorem eX1_keep_28 {b : Bool} {d : Nat} {Q : zQ} {σ : zV} {v1 : Int32} {v2 : Int32} {v3 : Int32} {v4 : Int32} {v5 : Int32} : eX1_keep b d Q 28 [.ref 11, .int v1, .int v2, .int v3, .int v4, .int v5, .null] [] σ = eX1_keep b d Q 29 [.ref 11, .int v1, .int v2, .int v3, .int v4, .int v5, .null] [.int v1] σ := q_iload_n (zCall_mono (zUn b) d) (by decide +kernel : decode cX1_keep 28 = .ok (.iload_n 1, 1)) rfl
theorem eX1_keep_29 {b : Bool} {d : Nat} {Q : zQ} {σ : zV} {v1 : Int32} {v2 : Int32} {v3 : Int32} {v4 : Int32} {v5 : Int32} {s0 : Int32} : eX1_keep b d Q 29 [.ref 11, .int v1, .int v2, .int v3, .int v4, .int v5, .null] [.int s0] σ = eX1_keep b d Q 30 [.ref 11, .int v1, .int v2, .int v3, .int v4, .int v5, .null] [.int 4, .int s0] σ := q_iconst (zCall_mono (zUn b) d) (by decide +kernel : decode cX1_keep 29 = .ok (.iconst 4, 1)) (by decide +kernel)
theorem eX1_keep_30 {b : Bool} {d : Nat} {Q : zQ} {σ : zV} {v1 : Int32} {v2 : Int32} {v3 : Int32} {v4 : Int32} {v5 : Int32} {s0 : Int32} {s1 : Int32} : eX1_keep b d Q 30 [.ref 11, .int v1, .int v2, .int v3, .int v4, .int v5, .null] [.int s0, .int s1] σ = eX1_keep b d Q 31 [.ref 11, .int v1, .int v2, .int v3, .int v4, .int v5, .null] [.int (s1 * s0)] σ := q_imul (zCall_mono (zUn b) d) (by decide +kernel : decode cX1_keep 30 = .ok (.imul, 1))
theorem eX1_keep_31 {b : Bool} {d : Nat} {Q : zQ} {σ : zV} {v1 : Int32} {v2 : Int32} {v3 : Int32} {v4 : Int32} {v5 : Int32} {s0 : Int32} : eX1_keep b d Q 31 [.ref 11, .int v1, .int v2, .int v3, .int v4, .int v5, .null] [.int s0] σ = eX1_keep b d Q 32 [.ref 11, .int v1, .int v2, .int v3, .int v4, .int v5, .null] [.ref 11, .int s0] σ := q_aload_n (zCall_mono (zUn b) d) (by decide +kernel : decode cX1_keep 31 = .ok (.aload_n 0, 1)) rfl
theorem eX1_keep_32 {b : Bool} {d : Nat} {Q : zQ} {σ : zV} {v1 : Int32} {v2 : Int32} {v3 : Int32} {v4 : Int32} {v5 : Int32} {s1 : Int32} : eX1_keep b d Q 32 [.ref 11, .int v1, .int v2, .int v3, .int v4, .int v5, .null] [.ref 11, .int s1] σ = eX1_keep b d Q 35 [.ref 11, .int v1, .int v2, .int v3, .int v4, .int v5, .null] [.ref 12, .int s1] σ := q_getR (zCall_mono (zUn b) d) (by decide +kernel : decode cX1_keep 32 = .ok (.getfield 9, 3)) zf_RX1_9 (u_11 b) rfl
theorem eX1_keep_35 {b : Bool} {d : Nat} {Q : zQ} {σ : zV} {v1 : Int32} {v2 : Int32} {v3 : Int32} {v4 : Int32} {v5 : Int32} {s1 : Int32} : eX1_keep b d Q 35 [.ref 11, .int v1, .int v2, .int v3, .int v4, .int v5, .null] [.ref 12, .int s1] σ = eX1_keep b d Q 36 [.ref 11, .int v1, .int v2, .int v3, .int v4, .int v5, .null] [.int v1, .ref 12, .int s1] σ := q_iload_n (zCall_mono (zUn b) d) (by decide +kernel : decode cX1_keep 35 = .ok (.iload_n 1, 1)) rfl
theorem eX1_keep_36 {b : Bool} {d : Nat} {Q : zQ} {σ : zV} {v1 : Int32} {v2 : Int32} {v3 : Int32} {v4 : Int32} {v5 : Int32} {s0 : Int32} {s2 : Int32} : eX1_keep b d Q 36 [.ref 11, .int v1, .int v2, .int v3, .int v4, .int v5, .null] [.int s0, .ref 12, .int s2] σ = (vp_in s0 4 ∧ eX1_keep b d Q 37 [.ref 11, .int v1, .int v2, .int v3, .int v4, .int v5, .null] [.int (σ 12 s0.toNatClampNeg), .int s2] σ) := q_iald (zCall_mono (zUn b) d) (by decide +kernel : decode cX1_keep 36 = .ok (.iaload, 1)) (u_12 b)
theorem eX1_keep_37 {b : Bool} {d : Nat} {Q : zQ} {σ : zV} {v1 : Int32} {v2 : Int32} {v3 : Int32} {v4 : Int32} {v5 : Int32} {s0 : Int32} {s1 : Int32} : eX1_keep b d Q 37 [.ref 11, .int v1, .int v2, .int v3, .int v4, .int v5, .null] [.int s0, .int s1] σ = eX1_keep b d Q 38 [.ref 11, .int v1, .int v2, .int v3, .int v4, .int v5, .null] [.int (s1 + s0)] σ := q_iadd (zCall_mono (zUn b) d) (by decide +kernel : decode cX1_keep 37 = .ok (.iadd, 1))
theorem eX1_keep_38 {b : Bool} {d : Nat} {Q : zQ} {σ : zV} {v1 : Int32} {v2 : Int32} {v3 : Int32} {v4 : Int32} {v5 : Int32} {s0 : Int32} : eX1_keep b d Q 38 [.ref 11, .int v1, .int v2, .int v3, .int v4, .int v5, .null] [.int s0] σ = eX1_keep b d Q 40 [.ref 11, .int v1, .int v2, .int v3, .int v4, .int v5, .int s0] [] σ := q_istore (zCall_mono (zUn b) d) (by decide +kernel : decode cX1_keep 38 = .ok (.istore 6, 2)) (Nat.le_of_ble_eq_true rfl) (fun v h => by cases h; rfl) rfl
theorem eX1_keep_40 {b : Bool} {d : Nat} {Q : zQ} {σ : zV} {v1 : Int32} {v2 : Int32} {v3 : Int32} {v4 : Int32} {v5 : Int32} {v6 : Int32} : eX1_keep b d Q 40 [.ref 11, .int v1, .int v2, .int v3, .int v4, .int v5, .int v6] [] σ = eX1_keep b d Q 41 [.ref 11, .int v1, .int v2, .int v3, .int v4, .int v5, .int v6] [.ref 11] σ := q_aload_n (zCall_mono (zUn b) d) (by decide +kernel : decode cX1_keep 40 = .ok (.aload_n 0, 1)) rfl
theorem eX1_keep_41 {b : Bool} {d : Nat} {Q : zQ} {σ : zV} {v1 : Int32} {v2 : Int32} {v3 : Int32} {v4 : Int32} {v5 : Int32} {v6 : Int32} : eX1_keep b d Q 41 [.ref 11, .int v1, .int v2, .int v3, .int v4, .int v5, .int v6] [.ref 11] σ = eX1_keep b d Q 44 [.ref 11, .int v1, .int v2, .int v3, .int v4, .int v5, .int v6] [.ref 13] σ := q_getR (zCall_mono (zUn b) d) (by decide +kernel : decode cX1_keep 41 = .ok (.getfield 15, 3)) zf_RX1_15 (u_11 b) rfl
theorem eX1_keep_44 {b : Bool} {d : Nat} {Q : zQ} {σ : zV} {v1 : Int32} {v2 : Int32} {v3 : Int32} {v4 : Int32} {v5 : Int32} {v6 : Int32} : eX1_keep b d Q 44 [.ref 11, .int v1, .int v2, .int v3, .int v4, .int v5, .int v6] [.ref 13] σ = eX1_keep b d Q 46 [.ref 11, .int v1, .int v2, .int v3, .int v4, .int v5, .int v6] [.int v6, .ref 13] σ := q_iload (zCall_mono (zUn b) d) (by decide +kernel : decode cX1_keep 44 = .ok (.iload 6, 2)) rfl
theorem eX1_keep_46 {b : Bool} {d : Nat} {Q : zQ} {σ : zV} {v1 : Int32} {v2 : Int32} {v3 : Int32} {v4 : Int32} {v5 : Int32} {v6 : Int32} {s0 : Int32} : eX1_keep b d Q 46 [.ref 11, .int v1, .int v2, .int v3, .int v4, .int v5, .int v6] [.int s0, .ref 13] σ = eX1_keep b d Q 47 [.ref 11, .int v1, .int v2, .int v3, .int v4, .int v5, .int v6] [.int v2, .int s0, .ref 13] σ := q_iload_n (zCall_mono (zUn b) d) (by decide +kernel : decode cX1_keep 46 = .ok (.iload_n 2, 1)) rfl
theorem eX1_keep_47 {b : Bool} {d : Nat} {Q : zQ} {σ : zV} {v1 : Int32} {v2 : Int32} {v3 : Int32} {v4 : Int32} {v5 : Int32} {v6 : Int32} {s0 : Int32} {s1 : Int32} : eX1_keep b d Q 47 [.ref 11, .int v1, .int v2, .int v3, .int v4, .int v5, .int v6] [.int s0, .int s1, .ref 13] σ = (vp_in s1 16 ∧ eX1_keep b d Q 48 [.ref 11, .int v1, .int v2, .int v3, .int v4, .int v5, .int v6] [] (zput σ 13 s1.toNatClampNeg s0)) := q_iast (zCall_mono (zUn b) d) (by decide +kernel : decode cX1_keep 47 = .ok (.iastore, 1)) (u_13 b)
theorem eX1_keep_48 {b : Bool} {d : Nat} {Q : zQ} {σ : zV} {v1 : Int32} {v2 : Int32} {v3 : Int32} {v4 : Int32} {v5 : Int32} {v6 : Int32} : eX1_keep b d Q 48 [.ref 11, .int v1, .int v2, .int v3, .int v4, .int v5, .int v6] [] σ = eX1_keep b d Q 49 [.ref 11, .int v1, .int v2, .int v3, .int v4, .int v5, .int v6] [.ref 11] σ := q_aload_n (zCall_mono (zUn b) d) (by decide +kernel : decode cX1_keep 48 = .ok (.aload_n 0, 1)) rfl
theorem eX1_keep_49 {b : Bool} {d : Nat} {Q : zQ} {σ : zV} {v1 : Int32} {v2 : Int32} {v3 : Int32} {v4 : Int32} {v5 : Int32} {v6 : Int32} : eX1_keep b d Q 49 [.ref 11, .int v1, .int v2, .int v3, .int v4, .int v5, .int v6] [.ref 11] σ = eX1_keep b d Q 52 [.ref 11, .int v1, .int v2, .int v3, .int v4, .int v5, .int v6] [.ref 14] σ := q_getR (zCall_mono (zUn b) d) (by decide +kernel : decode cX1_keep 49 = .ok (.getfield 18, 3)) zf_RX1_18 (u_11 b) rfl
theorem eX1_keep_52 {b : Bool} {d : Nat} {Q : zQ} {σ : zV} {v1 : Int32} {v2 : Int32} {v3 : Int32} {v4 : Int32} {v5 : Int32} {v6 : Int32} : eX1_keep b d Q 52 [.ref 11, .int v1, .int v2, .int v3, .int v4, .int v5, .int v6] [.ref 14] σ = eX1_keep b d Q 54 [.ref 11, .int v1, .int v2, .int v3, .int v4, .int v5, .int v6] [.int v6, .ref 14] σ := q_iload (zCall_mono (zUn b) d) (by decide +kernel : decode cX1_keep 52 = .ok (.iload 6, 2)) rfl
theorem eX1_keep_54 {b : Bool} {d : Nat} {Q : zQ} {σ : zV} {v1 : Int32} {v2 : Int32} {v3 : Int32} {v4 : Int32} {v5 : Int32} {v6 : Int32} {s0 : Int32} : eX1_keep b d Q 54 [.ref 11, .int v1, .int v2, .int v3, .int v4, .int v5, .int v6] [.int s0, .ref 14] σ = eX1_keep b d Q 55 [.ref 11, .int v1, .int v2, .int v3, .int v4, .int v5, .int v6] [.int v3, .int s0, .ref 14] σ := q_iload_n (zCall_mono (zUn b) d) (by decide +kernel : decode cX1_keep 54 = .ok (.iload_n 3, 1)) rfl
theorem eX1_keep_55 {b : Bool} {d : Nat} {Q : zQ} {σ : zV} {v1 : Int32} {v2 : Int32} {v3 : Int32} {v4 : Int32} {v5 : Int32} {v6 : Int32} {s0 : Int32} {s1 : Int32} : eX1_keep b d Q 55 [.ref 11, .int v1, .int v2, .int v3, .int v4, .int v5, .int v6] [.int s0, .int s1, .ref 14] σ = (vp_in s1 16 ∧ eX1_keep b d Q 56 [.ref 11, .int v1, .int v2, .int v3, .int v4, .int v5, .int v6] [] (zput σ 14 s1.toNatClampNeg s0)) := q_iast (zCall_mono (zUn b) d) (by decide +kernel : decode cX1_keep 55 = .ok (.iastore, 1)) (u_14 b)
theorem eX1_keep_56 {b : Bool} {d : Nat} {Q : zQ} {σ : zV} {v1 : Int32} {v2 : Int32} {v3 : Int32} {v4 : Int32} {v5 : Int32} {v6 : Int32} : eX1_keep b d Q 56 [.ref 11, .int v1, .int v2, .int v3, .int v4, .int v5, .int v6] [] σ = eX1_keep b d Q 57 [.ref 11, .int v1, .int v2, .int v3, .int v4, .int v5, .int v6] [.ref 11] σ := q_aload_n (zCall_mono (zUn b) d) (by decide +kernel : decode cX1_keep 56 = .ok (.aload_n 0, 1)) rfl
theorem eX1_keep_57 {b : Bool} {d : Nat} {Q : zQ} {σ : zV} {v1 : Int32} {v2 : Int32} {v3 : Int32} {v4 : Int32} {v5 : Int32} {v6 : Int32} : eX1_keep b d Q 57 [.ref 11, .int v1, .int v2, .int v3, .int v4, .int v5, .int v6] [.ref 11] σ = eX1_keep b d Q 60 [.ref 11, .int v1, .int v2, .int v3, .int v4, .int v5, .int v6] [.ref 15] σ := q_getR (zCall_mono (zUn b) d) (by decide +kernel : decode cX1_keep 57 = .ok (.getfield 21, 3)) zf_RX1_21 (u_11 b) rfl
theorem eX1_keep_60 {b : Bool} {d : Nat} {Q : zQ} {σ : zV} {v1 : Int32} {v2 : Int32} {v3 : Int32} {v4 : Int32} {v5 : Int32} {v6 : Int32} : eX1_keep b d Q 60 [.ref 11, .int v1, .int v2, .int v3, .int v4, .int v5, .int v6] [.ref 15] σ = eX1_keep b d Q 62 [.ref 11, .int v1, .int v2, .int v3, .int v4, .int v5, .int v6] [.int v6, .ref 15] σ := q_iload (zCall_mono (zUn b) d) (by decide +kernel : decode cX1_keep 60 = .ok (.iload 6, 2)) rfl
theorem eX1_keep_62 {b : Bool} {d : Nat} {Q : zQ} {σ : zV} {v1 : Int32} {v2 : Int32} {v3 : Int32} {v4 : Int32} {v5 : Int32} {v6 : Int32} {s0 : Int32} : eX1_keep b d Q 62 [.ref 11, .int v1, .int v2, .int v3, .int v4, .int v5, .int v6] [.int s0, .ref 15] σ = eX1_keep b d Q 64 [.ref 11, .int v1, .int v2, .int v3, .int v4, .int v5, .int v6] [.int v4, .int s0, .ref 15] σ := q_iload (zCall_mono (zUn b) d) (by decide +kernel : decode cX1_keep 62 = .ok (.iload 4, 2)) rfl
theorem eX1_keep_64 {b : Bool} {d : Nat} {Q : zQ} {σ : zV} {v1 : Int32} {v2 : Int32} {v3 : Int32} {v4 : Int32} {v5 : Int32} {v6 : Int32} {s0 : Int32} {s1 : Int32} : eX1_keep b d Q 64 [.ref 11, .int v1, .int v2, .int v3, .int v4, .int v5, .int v6] [.int s0, .int s1, .ref 15] σ = (vp_in s1 16 ∧ eX1_keep b d Q 65 [.ref 11, .int v1, .int v2, .int v3, .int v4, .int v5, .int v6] [] (zput σ 15 s1.toNatClampNeg s0)) := q_iast (zCall_mono (zUn b) d) (by decide +kernel : decode cX1_keep 64 = .ok (.iastore, 1)) (u_15 b)
theorem eX1_keep_65 {b : Bool} {d : Nat} {Q : zQ} {σ : zV} {v1 : Int32} {v2 : Int32} {v3 : Int32} {v4 : Int32} {v5 : Int32} {v6 : Int32} : eX1_keep b d Q 65 [.ref 11, .int v1, .int v2, .int v3, .int v4, .int v5, .int v6] [] σ = eX1_keep b d Q 66 [.ref 11, .int v1, .int v2, .int v3, .int v4, .int v5, .int v6] [.ref 11] σ := q_aload_n (zCall_mono (zUn b) d) (by decide +kernel : decode cX1_keep 65 = .ok (.aload_n 0, 1)) rfl
theorem eX1_keep_66 {b : Bool} {d : Nat} {Q : zQ} {σ : zV} {v1 : Int32} {v2 : Int32} {v3 : Int32} {v4 : Int32} {v5 : Int32} {v6 : Int32} : eX1_keep b d Q 66 [.ref 11, .int v1, .int v2, .int v3, .int v4, .int v5, .int v6] [.ref 11] σ = eX1_keep b d Q 69 [.ref 11, .int v1, .int v2, .int v3, .int v4, .int v5, .int v6] [.ref 16] σ := q_getR (zCall_mono (zUn b) d) (by decide +kernel : decode cX1_keep 66 = .ok (.getfield 24, 3)) zf_RX1_24 (u_11 b) rfl
theorem eX1_keep_69 {b : Bool} {d : Nat} {Q : zQ} {σ : zV} {v1 : Int32} {v2 : Int32} {v3 : Int32} {v4 : Int32} {v5 : Int32} {v6 : Int32} : eX1_keep b d Q 69 [.ref 11, .int v1, .int v2, .int v3, .int v4, .int v5, .int v6] [.ref 16] σ = eX1_keep b d Q 71 [.ref 11, .int v1, .int v2, .int v3, .int v4, .int v5, .int v6] [.int v6, .ref 16] σ := q_iload (zCall_mono (zUn b) d) (by decide +kernel : decode cX1_keep 69 = .ok (.iload 6, 2)) rfl
theorem eX1_keep_71 {b : Bool} {d : Nat} {Q : zQ} {σ : zV} {v1 : Int32} {v2 : Int32} {v3 : Int32} {v4 : Int32} {v5 : Int32} {v6 : Int32} {s0 : Int32} : eX1_keep b d Q 71 [.ref 11, .int v1, .int v2, .int v3, .int v4, .int v5, .int v6] [.int s0, .ref 16] σ = eX1_keep b d Q 73 [.ref 11, .int v1, .int v2, .int v3, .int v4, .int v5, .int v6] [.int v5, .int s0, .ref 16] σ := q_iload (zCall_mono (zUn b) d) (by decide +kernel : decode cX1_keep 71 = .ok (.iload 5, 2)) rfl
theorem eX1_keep_73 {b : Bool} {d : Nat} {Q : zQ} {σ : zV} {v1 : Int32} {v2 : Int32} {v3 : Int32} {v4 : Int32} {v5 : Int32} {v6 : Int32} {s0 : Int32} {s1 : Int32} : eX1_keep b d Q 73 [.ref 11, .int v1, .int v2, .int v3, .int v4, .int v5, .int v6] [.int s0, .int s1, .ref 16] σ = (vp_in s1 16 ∧ eX1_keep b d Q 74 [.ref 11, .int v1, .int v2, .int v3, .int v4, .int v5, .int v6] [] (zput σ 16 s1.toNatClampNeg s0)) := q_iast (zCall_mono (zUn b) d) (by decide +kernel : decode cX1_keep 73 = .ok (.iastore, 1)) (u_16 b)
theorem eX1_keep_74 {b : Bool} {d : Nat} {Q : zQ} {σ : zV} {v1 : Int32} {v2 : Int32} {v3 : Int32} {v4 : Int32} {v5 : Int32} {v6 : Int32} : eX1_keep b d Q 74 [.ref 11, .int v1, .int v2, .int v3, .int v4, .int v5, .int v6] [] σ = eX1_keep b d Q 75 [.ref 11, .int v1, .int v2, .int v3, .int v4, .int v5, .int v6] [.ref 11] σ := q_aload_n (zCall_mono (zUn b) d) (by decide +kernel : decode cX1_keep 74 = .ok (.aload_n 0, 1)) rfl
theorem eX1_keep_75 {b : Bool} {d : Nat} {Q : zQ} {σ : zV} {v1 : Int32} {v2 : Int32} {v3 : Int32} {v4 : Int32} {v5 : Int32} {v6 : Int32} : eX1_keep b d Q 75 [.ref 11, .int v1, .int v2, .int v3, .int v4, .int v5, .int v6] [.ref 11] σ = eX1_keep b d Q 78 [.ref 11, .int v1, .int v2, .int v3, .int v4, .int v5, .int v6] [.ref 12] σ := q_getR (zCall_mono (zUn b) d) (by decide +kernel : decode cX1_keep 75 = .ok (.getfield 9, 3)) zf_RX1_9 (u_11 b) rfl
theorem eX1_keep_78 {b : Bool} {d : Nat} {Q : zQ} {σ : zV} {v1 : Int32} {v2 : Int32} {v3 : Int32} {v4 : Int32} {v5 : Int32} {v6 : Int32} : eX1_keep b d Q 78 [.ref 11, .int v1, .int v2, .int v3, .int v4, .int v5, .int v6] [.ref 12] σ = eX1_keep b d Q 79 [.ref 11, .int v1, .int v2, .int v3, .int v4, .int v5, .int v6] [.int v1, .ref 12] σ := q_iload_n (zCall_mono (zUn b) d) (by decide +kernel : decode cX1_keep 78 = .ok (.iload_n 1, 1)) rfl
theorem eX1_keep_79 {b : Bool} {d : Nat} {Q : zQ} {σ : zV} {v1 : Int32} {v2 : Int32} {v3 : Int32} {v4 : Int32} {v5 : Int32} {v6 : Int32} {s0 : Int32} : eX1_keep b d Q 79 [.ref 11, .int v1, .int v2, .int v3, .int v4, .int v5, .int v6] [.int s0, .ref 12] σ = eX1_keep b d Q 80 [.ref 11, .int v1, .int v2, .int v3, .int v4, .int v5, .int v6] [.int s0, .ref 12, .int s0, .ref 12] σ := q_dup2 (zCall_mono (zUn b) d) (by decide +kernel : decode cX1_keep 79 = .ok (.dup2, 1)) rfl rfl
theorem eX1_keep_80 {b : Bool} {d : Nat} {Q : zQ} {σ : zV} {v1 : Int32} {v2 : Int32} {v3 : Int32} {v4 : Int32} {v5 : Int32} {v6 : Int32} {s0 : Int32} {s2 : Int32} : eX1_keep b d Q 80 [.ref 11, .int v1, .int v2, .int v3, .int v4, .int v5, .int v6] [.int s0, .ref 12, .int s2, .ref 12] σ = (vp_in s0 4 ∧ eX1_keep b d Q 81 [.ref 11, .int v1, .int v2, .int v3, .int v4, .int v5, .int v6] [.int (σ 12 s0.toNatClampNeg), .int s2, .ref 12] σ) := q_iald (zCall_mono (zUn b) d) (by decide +kernel : decode cX1_keep 80 = .ok (.iaload, 1)) (u_12 b)
theorem eX1_keep_81 {b : Bool} {d : Nat} {Q : zQ} {σ : zV} {v1 : Int32} {v2 : Int32} {v3 : Int32} {v4 : Int32} {v5 : Int32} {v6 : Int32} {s0 : Int32} {s1 : Int32} : eX1_keep b d Q 81 [.ref 11, .int v1, .int v2, .int v3, .int v4, .int v5, .int v6] [.int s0, .int s1, .ref 12] σ = eX1_keep b d Q 82 [.ref 11, .int v1, .int v2, .int v3, .int v4, .int v5, .int v6] [.int 1, .int s0, .int s1, .ref 12] σ := q_iconst (zCall_mono (zUn b) d) (by decide +kernel : decode cX1_keep 81 = .ok (.iconst 1, 1)) (by decide +kernel)
theorem eX1_keep_82 {b : Bool} {d : Nat} {Q : zQ} {σ : zV} {v1 : Int32} {v2 : Int32} {v3 : Int32} {v4 : Int32} {v5 : Int32} {v6 : Int32} {s0 : Int32} {s1 : Int32} {s2 : Int32} : eX1_keep b d Q 82 [.ref 11, .int v1, .int v2, .int v3, .int v4, .int v5, .int v6] [.int s0, .int s1, .int s2, .ref 12] σ = eX1_keep b d Q 83 [.ref 11, .int v1, .int v2, .int v3, .int v4, .int v5, .int v6] [.int (s1 + s0), .int s2, .ref 12] σ := q_iadd (zCall_mono (zUn b) d) (by decide +kernel : decode cX1_keep 82 = .ok (.iadd, 1))
theorem eX1_keep_83 {b : Bool} {d : Nat} {Q : zQ} {σ : zV} {v1 : Int32} {v2 : Int32} {v3 : Int32} {v4 : Int32} {v5 : Int32} {v6 : Int32} {s0 : Int32} {s1 : Int32} : eX1_keep b d Q 83 [.ref 11, .int v1, .int v2, .int v3, .int v4, .int v5, .int v6] [.int s0, .int s1, .ref 12] σ = (vp_in s1 4 ∧ eX1_keep b d Q 84 [.ref 11, .int v1, .int v2, .int v3, .int v4, .int v5, .int v6] [] (zput σ 12 s1.toNatClampNeg s0)) := q_iast (zCall_mono (zUn b) d) (by decide +kernel : decode cX1_keep 83 = .ok (.iastore, 1)) (u_12 b)
theorem eX1_keep_84 {b : Bool} {d : Nat} {Q : zQ} {σ : zV} {v1 : Int32} {v2 : Int32} {v3 : Int32} {v4 : Int32} {v5 : Int32} {v6 : Int32} : eX1_keep b d Q 84 [.ref 11, .int v1, .int v2, .int v3, .int v4, .int v5, .int v6] [] σ = Q none σ := q_vret (zCall_mono (zUn b) d) (by decide +kernel : decode cX1_keep 84 = .ok (.return_, 1)) rfl
theorem nX1_keep {b : Bool} {d : Nat} {Q : zQ} {σ : zV} {v1 : Int32} {v2 : Int32} {v3 : Int32} {v4 : Int32} {v5 : Int32} : zCall (zUn b) (d + 1) yX1_keep [.ref 11, .int v1, .int v2, .int v3, .int v4, .int v5] σ Q = eX1_keep b d Q 0 [.ref 11, .int v1, .int v2, .int v3, .int v4, .int v5, .null] [] σ := (q_call kX1_keep (Nat.le_of_ble_eq_true rfl)).trans rfl
def eX1_move (b : Bool) (d : Nat) (Q : zQ) : zP := zEv (zUn b) (zCall (zUn b) d) RX1 cX1_move 6 none none Q
theorem eX1_move_0 {b : Bool} {d : Nat} {Q : zQ} {σ : zV} {v1 : Int32} {v2 : Int32} {v3 : Int32} : eX1_move b d Q 0 [.ref 11, .int v1, .int v2, .int v3, .null, .null] [] σ = eX1_move b d Q 1 [.ref 11, .int v1, .int v2, .int v3, .null, .null] [.int v1] σ := q_iload_n (zCall_mono (zUn b) d) (by decide +kernel : decode cX1_move 0 = .ok (.iload_n 1, 1)) rfl
theorem eX1_move_1 {b : Bool} {d : Nat} {Q : zQ} {σ : zV} {v1 : Int32} {v2 : Int32} {v3 : Int32} {s0 : Int32} : eX1_move b d Q 1 [.ref 11, .int v1, .int v2, .int v3, .null, .null] [.int s0] σ = eX1_move b d Q 2 [.ref 11, .int v1, .int v2, .int v3, .null, .null] [.int 4, .int s0] σ := q_iconst (zCall_mono (zUn b) d) (by decide +kernel : decode cX1_move 1 = .ok (.iconst 4, 1)) (by decide +kernel)
theorem eX1_move_2 {b : Bool} {d : Nat} {Q : zQ} {σ : zV} {v1 : Int32} {v2 : Int32} {v3 : Int32} {s0 : Int32} {s1 : Int32} : eX1_move b d Q 2 [.ref 11, .int v1, .int v2, .int v3, .null, .null] [.int s0, .int s1] σ = eX1_move b d Q 3 [.ref 11, .int v1, .int v2, .int v3, .null, .null] [.int (s1 * s0)] σ := q_imul (zCall_mono (zUn b) d) (by decide +kernel : decode cX1_move 2 = .ok (.imul, 1))
theorem eX1_move_3 {b : Bool} {d : Nat} {Q : zQ} {σ : zV} {v1 : Int32} {v2 : Int32} {v3 : Int32} {s0 : Int32} : eX1_move b d Q 3 [.ref 11, .int v1, .int v2, .int v3, .null, .null] [.int s0] σ = eX1_move b d Q 4 [.ref 11, .int v1, .int v2, .int v3, .null, .null] [.int v2, .int s0] σ := q_iload_n (zCall_mono (zUn b) d) (by decide +kernel : decode cX1_move 3 = .ok (.iload_n 2, 1)) rfl
theorem eX1_move_4 {b : Bool} {d : Nat} {Q : zQ} {σ : zV} {v1 : Int32} {v2 : Int32} {v3 : Int32} {s0 : Int32} {s1 : Int32} : eX1_move b d Q 4 [.ref 11, .int v1, .int v2, .int v3, .null, .null] [.int s0, .int s1] σ = eX1_move b d Q 5 [.ref 11, .int v1, .int v2, .int v3, .null, .null] [.int (s1 + s0)] σ := q_iadd (zCall_mono (zUn b) d) (by decide +kernel : decode cX1_move 4 = .ok (.iadd, 1))
theorem eX1_move_5 {b : Bool} {d : Nat} {Q : zQ} {σ : zV} {v1 : Int32} {v2 : Int32} {v3 : Int32} {s0 : Int32} : eX1_move b d Q 5 [.ref 11, .int v1, .int v2, .int v3, .null, .null] [.int s0] σ = eX1_move b d Q 7 [.ref 11, .int v1, .int v2, .int v3, .int s0, .null] [] σ := q_istore (zCall_mono (zUn b) d) (by decide +kernel : decode cX1_move 5 = .ok (.istore 4, 2)) (Nat.le_of_ble_eq_true rfl) (fun v h => by cases h; rfl) rfl
theorem eX1_move_7 {b : Bool} {d : Nat} {Q : zQ} {σ : zV} {v1 : Int32} {v2 : Int32} {v3 : Int32} {v4 : Int32} : eX1_move b d Q 7 [.ref 11, .int v1, .int v2, .int v3, .int v4, .null] [] σ = eX1_move b d Q 8 [.ref 11, .int v1, .int v2, .int v3, .int v4, .null] [.int v1] σ := q_iload_n (zCall_mono (zUn b) d) (by decide +kernel : decode cX1_move 7 = .ok (.iload_n 1, 1)) rfl
theorem eX1_move_8 {b : Bool} {d : Nat} {Q : zQ} {σ : zV} {v1 : Int32} {v2 : Int32} {v3 : Int32} {v4 : Int32} {s0 : Int32} : eX1_move b d Q 8 [.ref 11, .int v1, .int v2, .int v3, .int v4, .null] [.int s0] σ = eX1_move b d Q 9 [.ref 11, .int v1, .int v2, .int v3, .int v4, .null] [.int 4, .int s0] σ := q_iconst (zCall_mono (zUn b) d) (by decide +kernel : decode cX1_move 8 = .ok (.iconst 4, 1)) (by decide +kernel)
theorem eX1_move_9 {b : Bool} {d : Nat} {Q : zQ} {σ : zV} {v1 : Int32} {v2 : Int32} {v3 : Int32} {v4 : Int32} {s0 : Int32} {s1 : Int32} : eX1_move b d Q 9 [.ref 11, .int v1, .int v2, .int v3, .int v4, .null] [.int s0, .int s1] σ = eX1_move b d Q 10 [.ref 11, .int v1, .int v2, .int v3, .int v4, .null] [.int (s1 * s0)] σ := q_imul (zCall_mono (zUn b) d) (by decide +kernel : decode cX1_move 9 = .ok (.imul, 1))
theorem eX1_move_10 {b : Bool} {d : Nat} {Q : zQ} {σ : zV} {v1 : Int32} {v2 : Int32} {v3 : Int32} {v4 : Int32} {s0 : Int32} : eX1_move b d Q 10 [.ref 11, .int v1, .int v2, .int v3, .int v4, .null] [.int s0] σ = eX1_move b d Q 11 [.ref 11, .int v1, .int v2, .int v3, .int v4, .null] [.int v3, .int s0] σ := q_iload_n (zCall_mono (zUn b) d) (by decide +kernel : decode cX1_move 10 = .ok (.iload_n 3, 1)) rfl
theorem eX1_move_11 {b : Bool} {d : Nat} {Q : zQ} {σ : zV} {v1 : Int32} {v2 : Int32} {v3 : Int32} {v4 : Int32} {s0 : Int32} {s1 : Int32} : eX1_move b d Q 11 [.ref 11, .int v1, .int v2, .int v3, .int v4, .null] [.int s0, .int s1] σ = eX1_move b d Q 12 [.ref 11, .int v1, .int v2, .int v3, .int v4, .null] [.int (s1 + s0)] σ := q_iadd (zCall_mono (zUn b) d) (by decide +kernel : decode cX1_move 11 = .ok (.iadd, 1))
theorem eX1_move_12 {b : Bool} {d : Nat} {Q : zQ} {σ : zV} {v1 : Int32} {v2 : Int32} {v3 : Int32} {v4 : Int32} {s0 : Int32} : eX1_move b d Q 12 [.ref 11, .int v1, .int v2, .int v3, .int v4, .null] [.int s0] σ = eX1_move b d Q 14 [.ref 11, .int v1, .int v2, .int v3, .int v4, .int s0] [] σ := q_istore (zCall_mono (zUn b) d) (by decide +kernel : decode cX1_move 12 = .ok (.istore 5, 2)) (Nat.le_of_ble_eq_true rfl) (fun v h => by cases h; rfl) rfl
theorem eX1_move_14 {b : Bool} {d : Nat} {Q : zQ} {σ : zV} {v1 : Int32} {v2 : Int32} {v3 : Int32} {v4 : Int32} {v5 : Int32} : eX1_move b d Q 14 [.ref 11, .int v1, .int v2, .int v3, .int v4, .int v5] [] σ = eX1_move b d Q 15 [.ref 11, .int v1, .int v2, .int v3, .int v4, .int v5] [.ref 11] σ := q_aload_n (zCall_mono (zUn b) d) (by decide +kernel : decode cX1_move 14 = .ok (.aload_n 0, 1)) rfl
theorem eX1_move_15 {b : Bool} {d : Nat} {Q : zQ} {σ : zV} {v1 : Int32} {v2 : Int32} {v3 : Int32} {v4 : Int32} {v5 : Int32} : eX1_move b d Q 15 [.ref 11, .int v1, .int v2, .int v3, .int v4, .int v5] [.ref 11] σ = eX1_move b d Q 18 [.ref 11, .int v1, .int v2, .int v3, .int v4, .int v5] [.ref 13] σ := q_getR (zCall_mono (zUn b) d) (by decide +kernel : decode cX1_move 15 = .ok (.getfield 15, 3)) zf_RX1_15 (u_11 b) rfl
theorem eX1_move_18 {b : Bool} {d : Nat} {Q : zQ} {σ : zV} {v1 : Int32} {v2 : Int32} {v3 : Int32} {v4 : Int32} {v5 : Int32} : eX1_move b d Q 18 [.ref 11, .int v1, .int v2, .int v3, .int v4, .int v5] [.ref 13] σ = eX1_move b d Q 20 [.ref 11, .int v1, .int v2, .int v3, .int v4, .int v5] [.int v5, .ref 13] σ := q_iload (zCall_mono (zUn b) d) (by decide +kernel : decode cX1_move 18 = .ok (.iload 5, 2)) rfl
theorem eX1_move_20 {b : Bool} {d : Nat} {Q : zQ} {σ : zV} {v1 : Int32} {v2 : Int32} {v3 : Int32} {v4 : Int32} {v5 : Int32} {s0 : Int32} : eX1_move b d Q 20 [.ref 11, .int v1, .int v2, .int v3, .int v4, .int v5] [.int s0, .ref 13] σ = eX1_move b d Q 21 [.ref 11, .int v1, .int v2, .int v3, .int v4, .int v5] [.ref 11, .int s0, .ref 13] σ := q_aload_n (zCall_mono (zUn b) d) (by decide +kernel : decode cX1_move 20 = .ok (.aload_n 0, 1)) rfl
theorem eX1_move_21 {b : Bool} {d : Nat} {Q : zQ} {σ : zV} {v1 : Int32} {v2 : Int32} {v3 : Int32} {v4 : Int32} {v5 : Int32} {s1 : Int32} : eX1_move b d Q 21 [.ref 11, .int v1, .int v2, .int v3, .int v4, .int v5] [.ref 11, .int s1, .ref 13] σ = eX1_move b d Q 24 [.ref 11, .int v1, .int v2, .int v3, .int v4, .int v5] [.ref 13, .int s1, .ref 13] σ := q_getR (zCall_mono (zUn b) d) (by decide +kernel : decode cX1_move 21 = .ok (.getfield 15, 3)) zf_RX1_15 (u_11 b) rfl
theorem eX1_move_24 {b : Bool} {d : Nat} {Q : zQ} {σ : zV} {v1 : Int32} {v2 : Int32} {v3 : Int32} {v4 : Int32} {v5 : Int32} {s1 : Int32} : eX1_move b d Q 24 [.ref 11, .int v1, .int v2, .int v3, .int v4, .int v5] [.ref 13, .int s1, .ref 13] σ = eX1_move b d Q 26 [.ref 11, .int v1, .int v2, .int v3, .int v4, .int v5] [.int v4, .ref 13, .int s1, .ref 13] σ := q_iload (zCall_mono (zUn b) d) (by decide +kernel : decode cX1_move 24 = .ok (.iload 4, 2)) rfl
theorem eX1_move_26 {b : Bool} {d : Nat} {Q : zQ} {σ : zV} {v1 : Int32} {v2 : Int32} {v3 : Int32} {v4 : Int32} {v5 : Int32} {s0 : Int32} {s2 : Int32} : eX1_move b d Q 26 [.ref 11, .int v1, .int v2, .int v3, .int v4, .int v5] [.int s0, .ref 13, .int s2, .ref 13] σ = (vp_in s0 16 ∧ eX1_move b d Q 27 [.ref 11, .int v1, .int v2, .int v3, .int v4, .int v5] [.int (σ 13 s0.toNatClampNeg), .int s2, .ref 13] σ) := q_iald (zCall_mono (zUn b) d) (by decide +kernel : decode cX1_move 26 = .ok (.iaload, 1)) (u_13 b)
theorem eX1_move_27 {b : Bool} {d : Nat} {Q : zQ} {σ : zV} {v1 : Int32} {v2 : Int32} {v3 : Int32} {v4 : Int32} {v5 : Int32} {s0 : Int32} {s1 : Int32} : eX1_move b d Q 27 [.ref 11, .int v1, .int v2, .int v3, .int v4, .int v5] [.int s0, .int s1, .ref 13] σ = (vp_in s1 16 ∧ eX1_move b d Q 28 [.ref 11, .int v1, .int v2, .int v3, .int v4, .int v5] [] (zput σ 13 s1.toNatClampNeg s0)) := q_iast (zCall_mono (zUn b) d) (by decide +kernel : decode cX1_move 27 = .ok (.iastore, 1)) (u_13 b)
theorem eX1_move_28 {b : Bool} {d : Nat} {Q : zQ} {σ : zV} {v1 : Int32} {v2 : Int32} {v3 : Int32} {v4 : Int32} {v5 : Int32} : eX1_move b d Q 28 [.ref 11, .int v1, .int v2, .int v3, .int v4, .int v5] [] σ = eX1_move b d Q 29 [.ref 11, .int v1, .int v2, .int v3, .int v4, .int v5] [.ref 11] σ := q_aload_n (zCall_mono (zUn b) d) (by decide +kernel : decode cX1_move 28 = .ok (.aload_n 0, 1)) rfl
theorem eX1_move_29 {b : Bool} {d : Nat} {Q : zQ} {σ : zV} {v1 : Int32} {v2 : Int32} {v3 : Int32} {v4 : Int32} {v5 : Int32} : eX1_move b d Q 29 [.ref 11, .int v1, .int v2, .int v3, .int v4, .int v5] [.ref 11] σ = eX1_move b d Q 32 [.ref 11, .int v1, .int v2, .int v3, .int v4, .int v5] [.ref 14] σ := q_getR (zCall_mono (zUn b) d) (by decide +kernel : decode cX1_move 29 = .ok (.getfield 18, 3)) zf_RX1_18 (u_11 b) rfl
theorem eX1_move_32 {b : Bool} {d : Nat} {Q : zQ} {σ : zV} {v1 : Int32} {v2 : Int32} {v3 : Int32} {v4 : Int32} {v5 : Int32} : eX1_move b d Q 32 [.ref 11, .int v1, .int v2, .int v3, .int v4, .int v5] [.ref 14] σ = eX1_move b d Q 34 [.ref 11, .int v1, .int v2, .int v3, .int v4, .int v5] [.int v5, .ref 14] σ := q_iload (zCall_mono (zUn b) d) (by decide +kernel : decode cX1_move 32 = .ok (.iload 5, 2)) rfl
theorem eX1_move_34 {b : Bool} {d : Nat} {Q : zQ} {σ : zV} {v1 : Int32} {v2 : Int32} {v3 : Int32} {v4 : Int32} {v5 : Int32} {s0 : Int32} : eX1_move b d Q 34 [.ref 11, .int v1, .int v2, .int v3, .int v4, .int v5] [.int s0, .ref 14] σ = eX1_move b d Q 35 [.ref 11, .int v1, .int v2, .int v3, .int v4, .int v5] [.ref 11, .int s0, .ref 14] σ := q_aload_n (zCall_mono (zUn b) d) (by decide +kernel : decode cX1_move 34 = .ok (.aload_n 0, 1)) rfl
theorem eX1_move_35 {b : Bool} {d : Nat} {Q : zQ} {σ : zV} {v1 : Int32} {v2 : Int32} {v3 : Int32} {v4 : Int32} {v5 : Int32} {s1 : Int32} : eX1_move b d Q 35 [.ref 11, .int v1, .int v2, .int v3, .int v4, .int v5] [.ref 11, .int s1, .ref 14] σ = eX1_move b d Q 38 [.ref 11, .int v1, .int v2, .int v3, .int v4, .int v5] [.ref 14, .int s1, .ref 14] σ := q_getR (zCall_mono (zUn b) d) (by decide +kernel : decode cX1_move 35 = .ok (.getfield 18, 3)) zf_RX1_18 (u_11 b) rfl
theorem eX1_move_38 {b : Bool} {d : Nat} {Q : zQ} {σ : zV} {v1 : Int32} {v2 : Int32} {v3 : Int32} {v4 : Int32} {v5 : Int32} {s1 : Int32} : eX1_move b d Q 38 [.ref 11, .int v1, .int v2, .int v3, .int v4, .int v5] [.ref 14, .int s1, .ref 14] σ = eX1_move b d Q 40 [.ref 11, .int v1, .int v2, .int v3, .int v4, .int v5] [.int v4, .ref 14, .int s1, .ref 14] σ := q_iload (zCall_mono (zUn b) d) (by decide +kernel : decode cX1_move 38 = .ok (.iload 4, 2)) rfl
theorem eX1_move_40 {b : Bool} {d : Nat} {Q : zQ} {σ : zV} {v1 : Int32} {v2 : Int32} {v3 : Int32} {v4 : Int32} {v5 : Int32} {s0 : Int32} {s2 : Int32} : eX1_move b d Q 40 [.ref 11, .int v1, .int v2, .int v3, .int v4, .int v5] [.int s0, .ref 14, .int s2, .ref 14] σ = (vp_in s0 16 ∧ eX1_move b d Q 41 [.ref 11, .int v1, .int v2, .int v3, .int v4, .int v5] [.int (σ 14 s0.toNatClampNeg), .int s2, .ref 14] σ) := q_iald (zCall_mono (zUn b) d) (by decide +kernel : decode cX1_move 40 = .ok (.iaload, 1)) (u_14 b)
theorem eX1_move_41 {b : Bool} {d : Nat} {Q : zQ} {σ : zV} {v1 : Int32} {v2 : Int32} {v3 : Int32} {v4 : Int32} {v5 : Int32} {s0 : Int32} {s1 : Int32} : eX1_move b d Q 41 [.ref 11, .int v1, .int v2, .int v3, .int v4, .int v5] [.int s0, .int s1, .ref 14] σ = (vp_in s1 16 ∧ eX1_move b d Q 42 [.ref 11, .int v1, .int v2, .int v3, .int v4, .int v5] [] (zput σ 14 s1.toNatClampNeg s0)) := q_iast (zCall_mono (zUn b) d) (by decide +kernel : decode cX1_move 41 = .ok (.iastore, 1)) (u_14 b)
theorem eX1_move_42 {b : Bool} {d : Nat} {Q : zQ} {σ : zV} {v1 : Int32} {v2 : Int32} {v3 : Int32} {v4 : Int32} {v5 : Int32} : eX1_move b d Q 42 [.ref 11, .int v1, .int v2, .int v3, .int v4, .int v5] [] σ = eX1_move b d Q 43 [.ref 11, .int v1, .int v2, .int v3, .int v4, .int v5] [.ref 11] σ := q_aload_n (zCall_mono (zUn b) d) (by decide +kernel : decode cX1_move 42 = .ok (.aload_n 0, 1)) rfl
theorem eX1_move_43 {b : Bool} {d : Nat} {Q : zQ} {σ : zV} {v1 : Int32} {v2 : Int32} {v3 : Int32} {v4 : Int32} {v5 : Int32} : eX1_move b d Q 43 [.ref 11, .int v1, .int v2, .int v3, .int v4, .int v5] [.ref 11] σ = eX1_move b d Q 46 [.ref 11, .int v1, .int v2, .int v3, .int v4, .int v5] [.ref 15] σ := q_getR (zCall_mono (zUn b) d) (by decide +kernel : decode cX1_move 43 = .ok (.getfield 21, 3)) zf_RX1_21 (u_11 b) rfl
theorem eX1_move_46 {b : Bool} {d : Nat} {Q : zQ} {σ : zV} {v1 : Int32} {v2 : Int32} {v3 : Int32} {v4 : Int32} {v5 : Int32} : eX1_move b d Q 46 [.ref 11, .int v1, .int v2, .int v3, .int v4, .int v5] [.ref 15] σ = eX1_move b d Q 48 [.ref 11, .int v1, .int v2, .int v3, .int v4, .int v5] [.int v5, .ref 15] σ := q_iload (zCall_mono (zUn b) d) (by decide +kernel : decode cX1_move 46 = .ok (.iload 5, 2)) rfl
theorem eX1_move_48 {b : Bool} {d : Nat} {Q : zQ} {σ : zV} {v1 : Int32} {v2 : Int32} {v3 : Int32} {v4 : Int32} {v5 : Int32} {s0 : Int32} : eX1_move b d Q 48 [.ref 11, .int v1, .int v2, .int v3, .int v4, .int v5] [.int s0, .ref 15] σ = eX1_move b d Q 49 [.ref 11, .int v1, .int v2, .int v3, .int v4, .int v5] [.ref 11, .int s0, .ref 15] σ := q_aload_n (zCall_mono (zUn b) d) (by decide +kernel : decode cX1_move 48 = .ok (.aload_n 0, 1)) rfl
theorem eX1_move_49 {b : Bool} {d : Nat} {Q : zQ} {σ : zV} {v1 : Int32} {v2 : Int32} {v3 : Int32} {v4 : Int32} {v5 : Int32} {s1 : Int32} : eX1_move b d Q 49 [.ref 11, .int v1, .int v2, .int v3, .int v4, .int v5] [.ref 11, .int s1, .ref 15] σ = eX1_move b d Q 52 [.ref 11, .int v1, .int v2, .int v3, .int v4, .int v5] [.ref 15, .int s1, .ref 15] σ := q_getR (zCall_mono (zUn b) d) (by decide +kernel : decode cX1_move 49 = .ok (.getfield 21, 3)) zf_RX1_21 (u_11 b) rfl
theorem eX1_move_52 {b : Bool} {d : Nat} {Q : zQ} {σ : zV} {v1 : Int32} {v2 : Int32} {v3 : Int32} {v4 : Int32} {v5 : Int32} {s1 : Int32} : eX1_move b d Q 52 [.ref 11, .int v1, .int v2, .int v3, .int v4, .int v5] [.ref 15, .int s1, .ref 15] σ = eX1_move b d Q 54 [.ref 11, .int v1, .int v2, .int v3, .int v4, .int v5] [.int v4, .ref 15, .int s1, .ref 15] σ := q_iload (zCall_mono (zUn b) d) (by decide +kernel : decode cX1_move 52 = .ok (.iload 4, 2)) rfl
theorem eX1_move_54 {b : Bool} {d : Nat} {Q : zQ} {σ : zV} {v1 : Int32} {v2 : Int32} {v3 : Int32} {v4 : Int32} {v5 : Int32} {s0 : Int32} {s2 : Int32} : eX1_move b d Q 54 [.ref 11, .int v1, .int v2, .int v3, .int v4, .int v5] [.int s0, .ref 15, .int s2, .ref 15] σ = (vp_in s0 16 ∧ eX1_move b d Q 55 [.ref 11, .int v1, .int v2, .int v3, .int v4, .int v5] [.int (σ 15 s0.toNatClampNeg), .int s2, .ref 15] σ) := q_iald (zCall_mono (zUn b) d) (by decide +kernel : decode cX1_move 54 = .ok (.iaload, 1)) (u_15 b)
theorem eX1_move_55 {b : Bool} {d : Nat} {Q : zQ} {σ : zV} {v1 : Int32} {v2 : Int32} {v3 : Int32} {v4 : Int32} {v5 : Int32} {s0 : Int32} {s1 : Int32} : eX1_move b d Q 55 [.ref 11, .int v1, .int v2, .int v3, .int v4, .int v5] [.int s0, .int s1, .ref 15] σ = (vp_in s1 16 ∧ eX1_move b d Q 56 [.ref 11, .int v1, .int v2, .int v3, .int v4, .int v5] [] (zput σ 15 s1.toNatClampNeg s0)) := q_iast (zCall_mono (zUn b) d) (by decide +kernel : decode cX1_move 55 = .ok (.iastore, 1)) (u_15 b)
theorem eX1_move_56 {b : Bool} {d : Nat} {Q : zQ} {σ : zV} {v1 : Int32} {v2 : Int32} {v3 : Int32} {v4 : Int32} {v5 : Int32} : eX1_move b d Q 56 [.ref 11, .int v1, .int v2, .int v3, .int v4, .int v5] [] σ = eX1_move b d Q 57 [.ref 11, .int v1, .int v2, .int v3, .int v4, .int v5] [.ref 11] σ := q_aload_n (zCall_mono (zUn b) d) (by decide +kernel : decode cX1_move 56 = .ok (.aload_n 0, 1)) rfl
theorem eX1_move_57 {b : Bool} {d : Nat} {Q : zQ} {σ : zV} {v1 : Int32} {v2 : Int32} {v3 : Int32} {v4 : Int32} {v5 : Int32} : eX1_move b d Q 57 [.ref 11, .int v1, .int v2, .int v3, .int v4, .int v5] [.ref 11] σ = eX1_move b d Q 60 [.ref 11, .int v1, .int v2, .int v3, .int v4, .int v5] [.ref 16] σ := q_getR (zCall_mono (zUn b) d) (by decide +kernel : decode cX1_move 57 = .ok (.getfield 24, 3)) zf_RX1_24 (u_11 b) rfl
theorem eX1_move_60 {b : Bool} {d : Nat} {Q : zQ} {σ : zV} {v1 : Int32} {v2 : Int32} {v3 : Int32} {v4 : Int32} {v5 : Int32} : eX1_move b d Q 60 [.ref 11, .int v1, .int v2, .int v3, .int v4, .int v5] [.ref 16] σ = eX1_move b d Q 62 [.ref 11, .int v1, .int v2, .int v3, .int v4, .int v5] [.int v5, .ref 16] σ := q_iload (zCall_mono (zUn b) d) (by decide +kernel : decode cX1_move 60 = .ok (.iload 5, 2)) rfl
theorem eX1_move_62 {b : Bool} {d : Nat} {Q : zQ} {σ : zV} {v1 : Int32} {v2 : Int32} {v3 : Int32} {v4 : Int32} {v5 : Int32} {s0 : Int32} : eX1_move b d Q 62 [.ref 11, .int v1, .int v2, .int v3, .int v4, .int v5] [.int s0, .ref 16] σ = eX1_move b d Q 63 [.ref 11, .int v1, .int v2, .int v3, .int v4, .int v5] [.ref 11, .int s0, .ref 16] σ := q_aload_n (zCall_mono (zUn b) d) (by decide +kernel : decode cX1_move 62 = .ok (.aload_n 0, 1)) rfl
theorem eX1_move_63 {b : Bool} {d : Nat} {Q : zQ} {σ : zV} {v1 : Int32} {v2 : Int32} {v3 : Int32} {v4 : Int32} {v5 : Int32} {s1 : Int32} : eX1_move b d Q 63 [.ref 11, .int v1, .int v2, .int v3, .int v4, .int v5] [.ref 11, .int s1, .ref 16] σ = eX1_move b d Q 66 [.ref 11, .int v1, .int v2, .int v3, .int v4, .int v5] [.ref 16, .int s1, .ref 16] σ := q_getR (zCall_mono (zUn b) d) (by decide +kernel : decode cX1_move 63 = .ok (.getfield 24, 3)) zf_RX1_24 (u_11 b) rfl
theorem eX1_move_66 {b : Bool} {d : Nat} {Q : zQ} {σ : zV} {v1 : Int32} {v2 : Int32} {v3 : Int32} {v4 : Int32} {v5 : Int32} {s1 : Int32} : eX1_move b d Q 66 [.ref 11, .int v1, .int v2, .int v3, .int v4, .int v5] [.ref 16, .int s1, .ref 16] σ = eX1_move b d Q 68 [.ref 11, .int v1, .int v2, .int v3, .int v4, .int v5] [.int v4, .ref 16, .int s1, .ref 16] σ := q_iload (zCall_mono (zUn b) d) (by decide +kernel : decode cX1_move 66 = .ok (.iload 4, 2)) rfl
theorem eX1_move_68 {b : Bool} {d : Nat} {Q : zQ} {σ : zV} {v1 : Int32} {v2 : Int32} {v3 : Int32} {v4 : Int32} {v5 : Int32} {s0 : Int32} {s2 : Int32} : eX1_move b d Q 68 [.ref 11, .int v1, .int v2, .int v3, .int v4, .int v5] [.int s0, .ref 16, .int s2, .ref 16] σ = (vp_in s0 16 ∧ eX1_move b d Q 69 [.ref 11, .int v1, .int v2, .int v3, .int v4, .int v5] [.int (σ 16 s0.toNatClampNeg), .int s2, .ref 16] σ) := q_iald (zCall_mono (zUn b) d) (by decide +kernel : decode cX1_move 68 = .ok (.iaload, 1)) (u_16 b)
theorem eX1_move_69 {b : Bool} {d : Nat} {Q : zQ} {σ : zV} {v1 : Int32} {v2 : Int32} {v3 : Int32} {v4 : Int32} {v5 : Int32} {s0 : Int32} {s1 : Int32} : eX1_move b d Q 69 [.ref 11, .int v1, .int v2, .int v3, .int v4, .int v5] [.int s0, .int s1, .ref 16] σ = (vp_in s1 16 ∧ eX1_move b d Q 70 [.ref 11, .int v1, .int v2, .int v3, .int v4, .int v5] [] (zput σ 16 s1.toNatClampNeg s0)) := q_iast (zCall_mono (zUn b) d) (by decide +kernel : decode cX1_move 69 = .ok (.iastore, 1)) (u_16 b)
theorem eX1_move_70 {b : Bool} {d : Nat} {Q : zQ} {σ : zV} {v1 : Int32} {v2 : Int32} {v3 : Int32} {v4 : Int32} {v5 : Int32} : eX1_move b d Q 70 [.ref 11, .int v1, .int v2, .int v3, .int v4, .int v5] [] σ = Q none σ := q_vret (zCall_mono (zUn b) d) (by decide +kernel : decode cX1_move 70 = .ok (.return_, 1)) rfl
theorem nX1_move {b : Bool} {d : Nat} {Q : zQ} {σ : zV} {v1 : Int32} {v2 : Int32} {v3 : Int32} : zCall (zUn b) (d + 1) yX1_move [.ref 11, .int v1, .int v2, .int v3] σ Q = eX1_move b d Q 0 [.ref 11, .int v1, .int v2, .int v3, .null, .null] [] σ := (q_call kX1_move (Nat.le_of_ble_eq_true rfl)).trans rfl
def eX1_pageNoted (b : Bool) (d : Nat) (Q : zQ) : zP := zEv (zUn b) (zCall (zUn b) d) RX1 cX1_pageNoted 3 (some .int) none Q
theorem eX1_pageNoted_0 {b : Bool} {d : Nat} {Q : zQ} {σ : zV} {v1 : Int32} {v2 : Int32} : eX1_pageNoted b d Q 0 [.ref 11, .int v1, .int v2] [] σ = eX1_pageNoted b d Q 1 [.ref 11, .int v1, .int v2] [.ref 11] σ := q_aload_n (zCall_mono (zUn b) d) (by decide +kernel : decode cX1_pageNoted 0 = .ok (.aload_n 0, 1)) rfl
theorem eX1_pageNoted_1 {b : Bool} {d : Nat} {Q : zQ} {σ : zV} {v1 : Int32} {v2 : Int32} : eX1_pageNoted b d Q 1 [.ref 11, .int v1, .int v2] [.ref 11] σ = eX1_pageNoted b d Q 4 [.ref 11, .int v1, .int v2] [.ref 14] σ := q_getR (zCall_mono (zUn b) d) (by decide +kernel : decode cX1_pageNoted 1 = .ok (.getfield 18, 3)) zf_RX1_18 (u_11 b) rfl
theorem eX1_pageNoted_4 {b : Bool} {d : Nat} {Q : zQ} {σ : zV} {v1 : Int32} {v2 : Int32} : eX1_pageNoted b d Q 4 [.ref 11, .int v1, .int v2] [.ref 14] σ = eX1_pageNoted b d Q 5 [.ref 11, .int v1, .int v2] [.int v1, .ref 14] σ := q_iload_n (zCall_mono (zUn b) d) (by decide +kernel : decode cX1_pageNoted 4 = .ok (.iload_n 1, 1)) rfl
theorem eX1_pageNoted_5 {b : Bool} {d : Nat} {Q : zQ} {σ : zV} {v1 : Int32} {v2 : Int32} {s0 : Int32} : eX1_pageNoted b d Q 5 [.ref 11, .int v1, .int v2] [.int s0, .ref 14] σ = eX1_pageNoted b d Q 6 [.ref 11, .int v1, .int v2] [.int 4, .int s0, .ref 14] σ := q_iconst (zCall_mono (zUn b) d) (by decide +kernel : decode cX1_pageNoted 5 = .ok (.iconst 4, 1)) (by decide +kernel)
theorem eX1_pageNoted_6 {b : Bool} {d : Nat} {Q : zQ} {σ : zV} {v1 : Int32} {v2 : Int32} {s0 : Int32} {s1 : Int32} : eX1_pageNoted b d Q 6 [.ref 11, .int v1, .int v2] [.int s0, .int s1, .ref 14] σ = eX1_pageNoted b d Q 7 [.ref 11, .int v1, .int v2] [.int (s1 * s0), .ref 14] σ := q_imul (zCall_mono (zUn b) d) (by decide +kernel : decode cX1_pageNoted 6 = .ok (.imul, 1))
theorem eX1_pageNoted_7 {b : Bool} {d : Nat} {Q : zQ} {σ : zV} {v1 : Int32} {v2 : Int32} {s0 : Int32} : eX1_pageNoted b d Q 7 [.ref 11, .int v1, .int v2] [.int s0, .ref 14] σ = eX1_pageNoted b d Q 8 [.ref 11, .int v1, .int v2] [.int v2, .int s0, .ref 14] σ := q_iload_n (zCall_mono (zUn b) d) (by decide +kernel : decode cX1_pageNoted 7 = .ok (.iload_n 2, 1)) rfl
theorem eX1_pageNoted_8 {b : Bool} {d : Nat} {Q : zQ} {σ : zV} {v1 : Int32} {v2 : Int32} {s0 : Int32} {s1 : Int32} : eX1_pageNoted b d Q 8 [.ref 11, .int v1, .int v2] [.int s0, .int s1, .ref 14] σ = eX1_pageNoted b d Q 9 [.ref 11, .int v1, .int v2] [.int (s1 + s0), .ref 14] σ := q_iadd (zCall_mono (zUn b) d) (by decide +kernel : decode cX1_pageNoted 8 = .ok (.iadd, 1))
theorem eX1_pageNoted_9 {b : Bool} {d : Nat} {Q : zQ} {σ : zV} {v1 : Int32} {v2 : Int32} {s0 : Int32} : eX1_pageNoted b d Q 9 [.ref 11, .int v1, .int v2] [.int s0, .ref 14] σ = (vp_in s0 16 ∧ eX1_pageNoted b d Q 10 [.ref 11, .int v1, .int v2] [.int (σ 14 s0.toNatClampNeg)] σ) := q_iald (zCall_mono (zUn b) d) (by decide +kernel : decode cX1_pageNoted 9 = .ok (.iaload, 1)) (u_14 b)
theorem eX1_pageNoted_10 {b : Bool} {d : Nat} {Q : zQ} {σ : zV} {v1 : Int32} {v2 : Int32} {s0 : Int32} : eX1_pageNoted b d Q 10 [.ref 11, .int v1, .int v2] [.int s0] σ = Q (some (.int s0)) σ := q_iret (zCall_mono (zUn b) d) (by decide +kernel : decode cX1_pageNoted 10 = .ok (.ireturn, 1)) rfl
theorem nX1_pageNoted {b : Bool} {d : Nat} {Q : zQ} {σ : zV} {v1 : Int32} {v2 : Int32} : zCall (zUn b) (d + 1) yX1_pageNoted [.ref 11, .int v1, .int v2] σ Q = eX1_pageNoted b d Q 0 [.ref 11, .int v1, .int v2] [] σ := (q_call kX1_pageNoted (Nat.le_of_ble_eq_true rfl)).trans rfl
def eX1_spaceNoted (b : Bool) (d : Nat) (Q : zQ) : zP := zEv (zUn b) (zCall (zUn b) d) RX1 cX1_spaceNoted 3 (some .int) none Q
theorem eX1_spaceNoted_0 {b : Bool} {d : Nat} {Q : zQ} {σ : zV} {v1 : Int32} {v2 : Int32} : eX1_spaceNoted b d Q 0 [.ref 11, .int v1, .int v2] [] σ = eX1_spaceNoted b d Q 1 [.ref 11, .int v1, .int v2] [.ref 11] σ := q_aload_n (zCall_mono (zUn b) d) (by decide +kernel : decode cX1_spaceNoted 0 = .ok (.aload_n 0, 1)) rfl
theorem eX1_spaceNoted_1 {b : Bool} {d : Nat} {Q : zQ} {σ : zV} {v1 : Int32} {v2 : Int32} : eX1_spaceNoted b d Q 1 [.ref 11, .int v1, .int v2] [.ref 11] σ = eX1_spaceNoted b d Q 4 [.ref 11, .int v1, .int v2] [.ref 13] σ := q_getR (zCall_mono (zUn b) d) (by decide +kernel : decode cX1_spaceNoted 1 = .ok (.getfield 15, 3)) zf_RX1_15 (u_11 b) rfl
theorem eX1_spaceNoted_4 {b : Bool} {d : Nat} {Q : zQ} {σ : zV} {v1 : Int32} {v2 : Int32} : eX1_spaceNoted b d Q 4 [.ref 11, .int v1, .int v2] [.ref 13] σ = eX1_spaceNoted b d Q 5 [.ref 11, .int v1, .int v2] [.int v1, .ref 13] σ := q_iload_n (zCall_mono (zUn b) d) (by decide +kernel : decode cX1_spaceNoted 4 = .ok (.iload_n 1, 1)) rfl
theorem eX1_spaceNoted_5 {b : Bool} {d : Nat} {Q : zQ} {σ : zV} {v1 : Int32} {v2 : Int32} {s0 : Int32} : eX1_spaceNoted b d Q 5 [.ref 11, .int v1, .int v2] [.int s0, .ref 13] σ = eX1_spaceNoted b d Q 6 [.ref 11, .int v1, .int v2] [.int 4, .int s0, .ref 13] σ := q_iconst (zCall_mono (zUn b) d) (by decide +kernel : decode cX1_spaceNoted 5 = .ok (.iconst 4, 1)) (by decide +kernel)
theorem eX1_spaceNoted_6 {b : Bool} {d : Nat} {Q : zQ} {σ : zV} {v1 : Int32} {v2 : Int32} {s0 : Int32} {s1 : Int32} : eX1_spaceNoted b d Q 6 [.ref 11, .int v1, .int v2] [.int s0, .int s1, .ref 13] σ = eX1_spaceNoted b d Q 7 [.ref 11, .int v1, .int v2] [.int (s1 * s0), .ref 13] σ := q_imul (zCall_mono (zUn b) d) (by decide +kernel : decode cX1_spaceNoted 6 = .ok (.imul, 1))
theorem eX1_spaceNoted_7 {b : Bool} {d : Nat} {Q : zQ} {σ : zV} {v1 : Int32} {v2 : Int32} {s0 : Int32} : eX1_spaceNoted b d Q 7 [.ref 11, .int v1, .int v2] [.int s0, .ref 13] σ = eX1_spaceNoted b d Q 8 [.ref 11, .int v1, .int v2] [.int v2, .int s0, .ref 13] σ := q_iload_n (zCall_mono (zUn b) d) (by decide +kernel : decode cX1_spaceNoted 7 = .ok (.iload_n 2, 1)) rfl
theorem eX1_spaceNoted_8 {b : Bool} {d : Nat} {Q : zQ} {σ : zV} {v1 : Int32} {v2 : Int32} {s0 : Int32} {s1 : Int32} : eX1_spaceNoted b d Q 8 [.ref 11, .int v1, .int v2] [.int s0, .int s1, .ref 13] σ = eX1_spaceNoted b d Q 9 [.ref 11, .int v1, .int v2] [.int (s1 + s0), .ref 13] σ := q_iadd (zCall_mono (zUn b) d) (by decide +kernel : decode cX1_spaceNoted 8 = .ok (.iadd, 1))
theorem eX1_spaceNoted_9 {b : Bool} {d : Nat} {Q : zQ} {σ : zV} {v1 : Int32} {v2 : Int32} {s0 : Int32} : eX1_spaceNoted b d Q 9 [.ref 11, .int v1, .int v2] [.int s0, .ref 13] σ = (vp_in s0 16 ∧ eX1_spaceNoted b d Q 10 [.ref 11, .int v1, .int v2] [.int (σ 13 s0.toNatClampNeg)] σ) := q_iald (zCall_mono (zUn b) d) (by decide +kernel : decode cX1_spaceNoted 9 = .ok (.iaload, 1)) (u_13 b)
theorem eX1_spaceNoted_10 {b : Bool} {d : Nat} {Q : zQ} {σ : zV} {v1 : Int32} {v2 : Int32} {s0 : Int32} : eX1_spaceNoted b d Q 10 [.ref 11, .int v1, .int v2] [.int s0] σ = Q (some (.int s0)) σ := q_iret (zCall_mono (zUn b) d) (by decide +kernel : decode cX1_spaceNoted 10 = .ok (.ireturn, 1)) rfl
theorem nX1_spaceNoted {b : Bool} {d : Nat} {Q : zQ} {σ : zV} {v1 : Int32} {v2 : Int32} : zCall (zUn b) (d + 1) yX1_spaceNoted [.ref 11, .int v1, .int v2] σ Q = eX1_spaceNoted b d Q 0 [.ref 11, .int v1, .int v2] [] σ := (q_call kX1_spaceNoted (Nat.le_of_ble_eq_true rfl)).trans rfl
def eX1_startAgain (b : Bool) (d : Nat) (Q : zQ) : zP := zEv (zUn b) (zCall (zUn b) d) RX1 cX1_startAgain 1 none none Q
theorem eX1_startAgain_0 {b : Bool} {d : Nat} {Q : zQ} {σ : zV}  : eX1_startAgain b d Q 0 [.ref 11] [] σ = eX1_startAgain b d Q 1 [.ref 11] [.ref 11] σ := q_aload_n (zCall_mono (zUn b) d) (by decide +kernel : decode cX1_startAgain 0 = .ok (.aload_n 0, 1)) rfl
theorem eX1_startAgain_1 {b : Bool} {d : Nat} {Q : zQ} {σ : zV}  : eX1_startAgain b d Q 1 [.ref 11] [.ref 11] σ = eX1_startAgain b d Q 4 [.ref 11] [.ref 12] σ := q_getR (zCall_mono (zUn b) d) (by decide +kernel : decode cX1_startAgain 1 = .ok (.getfield 9, 3)) zf_RX1_9 (u_11 b) rfl
theorem eX1_startAgain_4 {b : Bool} {d : Nat} {Q : zQ} {σ : zV}  : eX1_startAgain b d Q 4 [.ref 11] [.ref 12] σ = eX1_startAgain b d Q 5 [.ref 11] [.int 0, .ref 12] σ := q_iconst (zCall_mono (zUn b) d) (by decide +kernel : decode cX1_startAgain 4 = .ok (.iconst 0, 1)) (by decide +kernel)
theorem eX1_startAgain_5 {b : Bool} {d : Nat} {Q : zQ} {σ : zV} {s0 : Int32} : eX1_startAgain b d Q 5 [.ref 11] [.int s0, .ref 12] σ = zCall (zUn b) d yJ7_fill_53178 [.ref 12, .int s0] σ (fun v σ' => eX1_startAgain b d Q 8 [.ref 11] (v.toList ++ []) σ') := q_ins (As := [.ref 12, .int s0]) (r := []) (zCall_mono (zUn b) d) (by decide +kernel : decode cX1_startAgain 5 = .ok (.invokestatic 27, 3)) zm_RX1_27 (Nat.le_of_ble_eq_true rfl) rfl
theorem eX1_startAgain_8 {b : Bool} {d : Nat} {Q : zQ} {σ : zV}  : eX1_startAgain b d Q 8 [.ref 11] [] σ = Q none σ := q_vret (zCall_mono (zUn b) d) (by decide +kernel : decode cX1_startAgain 8 = .ok (.return_, 1)) rfl
theorem nX1_startAgain {b : Bool} {d : Nat} {Q : zQ} {σ : zV}  : zCall (zUn b) (d + 1) yX1_startAgain [.ref 11] σ Q = eX1_startAgain b d Q 0 [.ref 11] [] σ := (q_call kX1_startAgain (Nat.le_of_ble_eq_true rfl)).trans rfl
def eX1_timeNoted (b : Bool) (d : Nat) (Q : zQ) : zP := zEv (zUn b) (zCall (zUn b) d) RX1 cX1_timeNoted 3 (some .int) none Q
theorem eX1_timeNoted_0 {b : Bool} {d : Nat} {Q : zQ} {σ : zV} {v1 : Int32} {v2 : Int32} : eX1_timeNoted b d Q 0 [.ref 11, .int v1, .int v2] [] σ = eX1_timeNoted b d Q 1 [.ref 11, .int v1, .int v2] [.ref 11] σ := q_aload_n (zCall_mono (zUn b) d) (by decide +kernel : decode cX1_timeNoted 0 = .ok (.aload_n 0, 1)) rfl
theorem eX1_timeNoted_1 {b : Bool} {d : Nat} {Q : zQ} {σ : zV} {v1 : Int32} {v2 : Int32} : eX1_timeNoted b d Q 1 [.ref 11, .int v1, .int v2] [.ref 11] σ = eX1_timeNoted b d Q 4 [.ref 11, .int v1, .int v2] [.ref 16] σ := q_getR (zCall_mono (zUn b) d) (by decide +kernel : decode cX1_timeNoted 1 = .ok (.getfield 24, 3)) zf_RX1_24 (u_11 b) rfl
theorem eX1_timeNoted_4 {b : Bool} {d : Nat} {Q : zQ} {σ : zV} {v1 : Int32} {v2 : Int32} : eX1_timeNoted b d Q 4 [.ref 11, .int v1, .int v2] [.ref 16] σ = eX1_timeNoted b d Q 5 [.ref 11, .int v1, .int v2] [.int v1, .ref 16] σ := q_iload_n (zCall_mono (zUn b) d) (by decide +kernel : decode cX1_timeNoted 4 = .ok (.iload_n 1, 1)) rfl
theorem eX1_timeNoted_5 {b : Bool} {d : Nat} {Q : zQ} {σ : zV} {v1 : Int32} {v2 : Int32} {s0 : Int32} : eX1_timeNoted b d Q 5 [.ref 11, .int v1, .int v2] [.int s0, .ref 16] σ = eX1_timeNoted b d Q 6 [.ref 11, .int v1, .int v2] [.int 4, .int s0, .ref 16] σ := q_iconst (zCall_mono (zUn b) d) (by decide +kernel : decode cX1_timeNoted 5 = .ok (.iconst 4, 1)) (by decide +kernel)
theorem eX1_timeNoted_6 {b : Bool} {d : Nat} {Q : zQ} {σ : zV} {v1 : Int32} {v2 : Int32} {s0 : Int32} {s1 : Int32} : eX1_timeNoted b d Q 6 [.ref 11, .int v1, .int v2] [.int s0, .int s1, .ref 16] σ = eX1_timeNoted b d Q 7 [.ref 11, .int v1, .int v2] [.int (s1 * s0), .ref 16] σ := q_imul (zCall_mono (zUn b) d) (by decide +kernel : decode cX1_timeNoted 6 = .ok (.imul, 1))
theorem eX1_timeNoted_7 {b : Bool} {d : Nat} {Q : zQ} {σ : zV} {v1 : Int32} {v2 : Int32} {s0 : Int32} : eX1_timeNoted b d Q 7 [.ref 11, .int v1, .int v2] [.int s0, .ref 16] σ = eX1_timeNoted b d Q 8 [.ref 11, .int v1, .int v2] [.int v2, .int s0, .ref 16] σ := q_iload_n (zCall_mono (zUn b) d) (by decide +kernel : decode cX1_timeNoted 7 = .ok (.iload_n 2, 1)) rfl
theorem eX1_timeNoted_8 {b : Bool} {d : Nat} {Q : zQ} {σ : zV} {v1 : Int32} {v2 : Int32} {s0 : Int32} {s1 : Int32} : eX1_timeNoted b d Q 8 [.ref 11, .int v1, .int v2] [.int s0, .int s1, .ref 16] σ = eX1_timeNoted b d Q 9 [.ref 11, .int v1, .int v2] [.int (s1 + s0), .ref 16] σ := q_iadd (zCall_mono (zUn b) d) (by decide +kernel : decode cX1_timeNoted 8 = .ok (.iadd, 1))
theorem eX1_timeNoted_9 {b : Bool} {d : Nat} {Q : zQ} {σ : zV} {v1 : Int32} {v2 : Int32} {s0 : Int32} : eX1_timeNoted b d Q 9 [.ref 11, .int v1, .int v2] [.int s0, .ref 16] σ = (vp_in s0 16 ∧ eX1_timeNoted b d Q 10 [.ref 11, .int v1, .int v2] [.int (σ 16 s0.toNatClampNeg)] σ) := q_iald (zCall_mono (zUn b) d) (by decide +kernel : decode cX1_timeNoted 9 = .ok (.iaload, 1)) (u_16 b)
theorem eX1_timeNoted_10 {b : Bool} {d : Nat} {Q : zQ} {σ : zV} {v1 : Int32} {v2 : Int32} {s0 : Int32} : eX1_timeNoted b d Q 10 [.ref 11, .int v1, .int v2] [.int s0] σ = Q (some (.int s0)) σ := q_iret (zCall_mono (zUn b) d) (by decide +kernel : decode cX1_timeNoted 10 = .ok (.ireturn, 1)) rfl
theorem nX1_timeNoted {b : Bool} {d : Nat} {Q : zQ} {σ : zV} {v1 : Int32} {v2 : Int32} : zCall (zUn b) (d + 1) yX1_timeNoted [.ref 11, .int v1, .int v2] σ Q = eX1_timeNoted b d Q 0 [.ref 11, .int v1, .int v2] [] σ := (q_call kX1_timeNoted (Nat.le_of_ble_eq_true rfl)).trans rfl
def eX2_append (b : Bool) (d : Nat) (Q : zQ) : zP := zEv (zUn b) (zCall (zUn b) d) RX2 cX2_append 3 none none Q
theorem eX2_append_0 {b : Bool} {d : Nat} {Q : zQ} {σ : zV} {v1 : Int32} {v2 : Int32} : eX2_append b d Q 0 [.ref 17, .int v1, .int v2] [] σ = eX2_append b d Q 1 [.ref 17, .int v1, .int v2] [.ref 17] σ := q_aload_n (zCall_mono (zUn b) d) (by decide +kernel : decode cX2_append 0 = .ok (.aload_n 0, 1)) rfl
theorem eX2_append_1 {b : Bool} {d : Nat} {Q : zQ} {σ : zV} {v1 : Int32} {v2 : Int32} : eX2_append b d Q 1 [.ref 17, .int v1, .int v2] [.ref 17] σ = eX2_append b d Q 4 [.ref 17, .int v1, .int v2] [.ref 18] σ := q_getR (zCall_mono (zUn b) d) (by decide +kernel : decode cX2_append 1 = .ok (.getfield 9, 3)) zf_RX2_9 (u_17 b) rfl
theorem eX2_append_4 {b : Bool} {d : Nat} {Q : zQ} {σ : zV} {v1 : Int32} {v2 : Int32} : eX2_append b d Q 4 [.ref 17, .int v1, .int v2] [.ref 18] σ = eX2_append b d Q 5 [.ref 17, .int v1, .int v2] [.int v1, .ref 18] σ := q_iload_n (zCall_mono (zUn b) d) (by decide +kernel : decode cX2_append 4 = .ok (.iload_n 1, 1)) rfl
theorem eX2_append_5 {b : Bool} {d : Nat} {Q : zQ} {σ : zV} {v1 : Int32} {v2 : Int32} {s0 : Int32} : eX2_append b d Q 5 [.ref 17, .int v1, .int v2] [.int s0, .ref 18] σ = (vp_in s0 4 ∧ eX2_append b d Q 6 [.ref 17, .int v1, .int v2] [.int (σ 18 s0.toNatClampNeg)] σ) := q_iald (zCall_mono (zUn b) d) (by decide +kernel : decode cX2_append 5 = .ok (.iaload, 1)) (u_18 b)
theorem eX2_append_6 {b : Bool} {d : Nat} {Q : zQ} {σ : zV} {v1 : Int32} {v2 : Int32} {s0 : Int32} : eX2_append b d Q 6 [.ref 17, .int v1, .int v2] [.int s0] σ = eX2_append b d Q 8 [.ref 17, .int v1, .int v2] [.int 40, .int s0] σ := q_bipush (zCall_mono (zUn b) d) (by decide +kernel : decode cX2_append 6 = .ok (.bipush 40, 2)) (by decide +kernel)
theorem eX2_append_8 {b : Bool} {d : Nat} {Q : zQ} {σ : zV} {v1 : Int32} {v2 : Int32} {s0 : Int32} {s1 : Int32} : eX2_append b d Q 8 [.ref 17, .int v1, .int v2] [.int s0, .int s1] σ = ((s0 ≤ s1 → eX2_append b d Q 38 [.ref 17, .int v1, .int v2] [] σ) ∧ (¬ s0 ≤ s1 → eX2_append b d Q 11 [.ref 17, .int v1, .int v2] [] σ)) := q_icmp (zCall_mono (zUn b) d) (by decide +kernel : decode cX2_append 8 = .ok (.if_icmp .ge 30, 3)) (by decide)
theorem eX2_append_11 {b : Bool} {d : Nat} {Q : zQ} {σ : zV} {v1 : Int32} {v2 : Int32} : eX2_append b d Q 11 [.ref 17, .int v1, .int v2] [] σ = eX2_append b d Q 12 [.ref 17, .int v1, .int v2] [.ref 17] σ := q_aload_n (zCall_mono (zUn b) d) (by decide +kernel : decode cX2_append 11 = .ok (.aload_n 0, 1)) rfl
theorem eX2_append_12 {b : Bool} {d : Nat} {Q : zQ} {σ : zV} {v1 : Int32} {v2 : Int32} : eX2_append b d Q 12 [.ref 17, .int v1, .int v2] [.ref 17] σ = eX2_append b d Q 15 [.ref 17, .int v1, .int v2] [.ref 19] σ := q_getR (zCall_mono (zUn b) d) (by decide +kernel : decode cX2_append 12 = .ok (.getfield 15, 3)) zf_RX2_15 (u_17 b) rfl
theorem eX2_append_15 {b : Bool} {d : Nat} {Q : zQ} {σ : zV} {v1 : Int32} {v2 : Int32} : eX2_append b d Q 15 [.ref 17, .int v1, .int v2] [.ref 19] σ = eX2_append b d Q 16 [.ref 17, .int v1, .int v2] [.int v1, .ref 19] σ := q_iload_n (zCall_mono (zUn b) d) (by decide +kernel : decode cX2_append 15 = .ok (.iload_n 1, 1)) rfl
theorem eX2_append_16 {b : Bool} {d : Nat} {Q : zQ} {σ : zV} {v1 : Int32} {v2 : Int32} {s0 : Int32} : eX2_append b d Q 16 [.ref 17, .int v1, .int v2] [.int s0, .ref 19] σ = eX2_append b d Q 18 [.ref 17, .int v1, .int v2] [.int 40, .int s0, .ref 19] σ := q_bipush (zCall_mono (zUn b) d) (by decide +kernel : decode cX2_append 16 = .ok (.bipush 40, 2)) (by decide +kernel)
theorem eX2_append_18 {b : Bool} {d : Nat} {Q : zQ} {σ : zV} {v1 : Int32} {v2 : Int32} {s0 : Int32} {s1 : Int32} : eX2_append b d Q 18 [.ref 17, .int v1, .int v2] [.int s0, .int s1, .ref 19] σ = eX2_append b d Q 19 [.ref 17, .int v1, .int v2] [.int (s1 * s0), .ref 19] σ := q_imul (zCall_mono (zUn b) d) (by decide +kernel : decode cX2_append 18 = .ok (.imul, 1))
theorem eX2_append_19 {b : Bool} {d : Nat} {Q : zQ} {σ : zV} {v1 : Int32} {v2 : Int32} {s0 : Int32} : eX2_append b d Q 19 [.ref 17, .int v1, .int v2] [.int s0, .ref 19] σ = eX2_append b d Q 20 [.ref 17, .int v1, .int v2] [.ref 17, .int s0, .ref 19] σ := q_aload_n (zCall_mono (zUn b) d) (by decide +kernel : decode cX2_append 19 = .ok (.aload_n 0, 1)) rfl
theorem eX2_append_20 {b : Bool} {d : Nat} {Q : zQ} {σ : zV} {v1 : Int32} {v2 : Int32} {s1 : Int32} : eX2_append b d Q 20 [.ref 17, .int v1, .int v2] [.ref 17, .int s1, .ref 19] σ = eX2_append b d Q 23 [.ref 17, .int v1, .int v2] [.ref 18, .int s1, .ref 19] σ := q_getR (zCall_mono (zUn b) d) (by decide +kernel : decode cX2_append 20 = .ok (.getfield 9, 3)) zf_RX2_9 (u_17 b) rfl
theorem eX2_append_23 {b : Bool} {d : Nat} {Q : zQ} {σ : zV} {v1 : Int32} {v2 : Int32} {s1 : Int32} : eX2_append b d Q 23 [.ref 17, .int v1, .int v2] [.ref 18, .int s1, .ref 19] σ = eX2_append b d Q 24 [.ref 17, .int v1, .int v2] [.int v1, .ref 18, .int s1, .ref 19] σ := q_iload_n (zCall_mono (zUn b) d) (by decide +kernel : decode cX2_append 23 = .ok (.iload_n 1, 1)) rfl
theorem eX2_append_24 {b : Bool} {d : Nat} {Q : zQ} {σ : zV} {v1 : Int32} {v2 : Int32} {s0 : Int32} {s2 : Int32} : eX2_append b d Q 24 [.ref 17, .int v1, .int v2] [.int s0, .ref 18, .int s2, .ref 19] σ = (vp_in s0 4 ∧ eX2_append b d Q 25 [.ref 17, .int v1, .int v2] [.int (σ 18 s0.toNatClampNeg), .int s2, .ref 19] σ) := q_iald (zCall_mono (zUn b) d) (by decide +kernel : decode cX2_append 24 = .ok (.iaload, 1)) (u_18 b)
theorem eX2_append_25 {b : Bool} {d : Nat} {Q : zQ} {σ : zV} {v1 : Int32} {v2 : Int32} {s0 : Int32} {s1 : Int32} : eX2_append b d Q 25 [.ref 17, .int v1, .int v2] [.int s0, .int s1, .ref 19] σ = eX2_append b d Q 26 [.ref 17, .int v1, .int v2] [.int (s1 + s0), .ref 19] σ := q_iadd (zCall_mono (zUn b) d) (by decide +kernel : decode cX2_append 25 = .ok (.iadd, 1))
theorem eX2_append_26 {b : Bool} {d : Nat} {Q : zQ} {σ : zV} {v1 : Int32} {v2 : Int32} {s0 : Int32} : eX2_append b d Q 26 [.ref 17, .int v1, .int v2] [.int s0, .ref 19] σ = eX2_append b d Q 27 [.ref 17, .int v1, .int v2] [.int v2, .int s0, .ref 19] σ := q_iload_n (zCall_mono (zUn b) d) (by decide +kernel : decode cX2_append 26 = .ok (.iload_n 2, 1)) rfl
theorem eX2_append_27 {b : Bool} {d : Nat} {Q : zQ} {σ : zV} {v1 : Int32} {v2 : Int32} {s0 : Int32} {s1 : Int32} : eX2_append b d Q 27 [.ref 17, .int v1, .int v2] [.int s0, .int s1, .ref 19] σ = (vp_in s1 160 ∧ eX2_append b d Q 28 [.ref 17, .int v1, .int v2] [] (zput σ 19 s1.toNatClampNeg s0)) := q_iast (zCall_mono (zUn b) d) (by decide +kernel : decode cX2_append 27 = .ok (.iastore, 1)) (u_19 b)
theorem eX2_append_28 {b : Bool} {d : Nat} {Q : zQ} {σ : zV} {v1 : Int32} {v2 : Int32} : eX2_append b d Q 28 [.ref 17, .int v1, .int v2] [] σ = eX2_append b d Q 29 [.ref 17, .int v1, .int v2] [.ref 17] σ := q_aload_n (zCall_mono (zUn b) d) (by decide +kernel : decode cX2_append 28 = .ok (.aload_n 0, 1)) rfl
theorem eX2_append_29 {b : Bool} {d : Nat} {Q : zQ} {σ : zV} {v1 : Int32} {v2 : Int32} : eX2_append b d Q 29 [.ref 17, .int v1, .int v2] [.ref 17] σ = eX2_append b d Q 32 [.ref 17, .int v1, .int v2] [.ref 18] σ := q_getR (zCall_mono (zUn b) d) (by decide +kernel : decode cX2_append 29 = .ok (.getfield 9, 3)) zf_RX2_9 (u_17 b) rfl
theorem eX2_append_32 {b : Bool} {d : Nat} {Q : zQ} {σ : zV} {v1 : Int32} {v2 : Int32} : eX2_append b d Q 32 [.ref 17, .int v1, .int v2] [.ref 18] σ = eX2_append b d Q 33 [.ref 17, .int v1, .int v2] [.int v1, .ref 18] σ := q_iload_n (zCall_mono (zUn b) d) (by decide +kernel : decode cX2_append 32 = .ok (.iload_n 1, 1)) rfl
theorem eX2_append_33 {b : Bool} {d : Nat} {Q : zQ} {σ : zV} {v1 : Int32} {v2 : Int32} {s0 : Int32} : eX2_append b d Q 33 [.ref 17, .int v1, .int v2] [.int s0, .ref 18] σ = eX2_append b d Q 34 [.ref 17, .int v1, .int v2] [.int s0, .ref 18, .int s0, .ref 18] σ := q_dup2 (zCall_mono (zUn b) d) (by decide +kernel : decode cX2_append 33 = .ok (.dup2, 1)) rfl rfl
theorem eX2_append_34 {b : Bool} {d : Nat} {Q : zQ} {σ : zV} {v1 : Int32} {v2 : Int32} {s0 : Int32} {s2 : Int32} : eX2_append b d Q 34 [.ref 17, .int v1, .int v2] [.int s0, .ref 18, .int s2, .ref 18] σ = (vp_in s0 4 ∧ eX2_append b d Q 35 [.ref 17, .int v1, .int v2] [.int (σ 18 s0.toNatClampNeg), .int s2, .ref 18] σ) := q_iald (zCall_mono (zUn b) d) (by decide +kernel : decode cX2_append 34 = .ok (.iaload, 1)) (u_18 b)
theorem eX2_append_35 {b : Bool} {d : Nat} {Q : zQ} {σ : zV} {v1 : Int32} {v2 : Int32} {s0 : Int32} {s1 : Int32} : eX2_append b d Q 35 [.ref 17, .int v1, .int v2] [.int s0, .int s1, .ref 18] σ = eX2_append b d Q 36 [.ref 17, .int v1, .int v2] [.int 1, .int s0, .int s1, .ref 18] σ := q_iconst (zCall_mono (zUn b) d) (by decide +kernel : decode cX2_append 35 = .ok (.iconst 1, 1)) (by decide +kernel)
theorem eX2_append_36 {b : Bool} {d : Nat} {Q : zQ} {σ : zV} {v1 : Int32} {v2 : Int32} {s0 : Int32} {s1 : Int32} {s2 : Int32} : eX2_append b d Q 36 [.ref 17, .int v1, .int v2] [.int s0, .int s1, .int s2, .ref 18] σ = eX2_append b d Q 37 [.ref 17, .int v1, .int v2] [.int (s1 + s0), .int s2, .ref 18] σ := q_iadd (zCall_mono (zUn b) d) (by decide +kernel : decode cX2_append 36 = .ok (.iadd, 1))
theorem eX2_append_37 {b : Bool} {d : Nat} {Q : zQ} {σ : zV} {v1 : Int32} {v2 : Int32} {s0 : Int32} {s1 : Int32} : eX2_append b d Q 37 [.ref 17, .int v1, .int v2] [.int s0, .int s1, .ref 18] σ = (vp_in s1 4 ∧ eX2_append b d Q 38 [.ref 17, .int v1, .int v2] [] (zput σ 18 s1.toNatClampNeg s0)) := q_iast (zCall_mono (zUn b) d) (by decide +kernel : decode cX2_append 37 = .ok (.iastore, 1)) (u_18 b)
theorem eX2_append_38 {b : Bool} {d : Nat} {Q : zQ} {σ : zV} {v1 : Int32} {v2 : Int32} : eX2_append b d Q 38 [.ref 17, .int v1, .int v2] [] σ = Q none σ := q_vret (zCall_mono (zUn b) d) (by decide +kernel : decode cX2_append 38 = .ok (.return_, 1)) rfl
theorem nX2_append {b : Bool} {d : Nat} {Q : zQ} {σ : zV} {v1 : Int32} {v2 : Int32} : zCall (zUn b) (d + 1) yX2_append [.ref 17, .int v1, .int v2] σ Q = eX2_append b d Q 0 [.ref 17, .int v1, .int v2] [] σ := (q_call kX2_append (Nat.le_of_ble_eq_true rfl)).trans rfl
def eX2_removeFirst (b : Bool) (d : Nat) (Q : zQ) : zP := zEv (zUn b) (zCall (zUn b) d) RX2 cX2_removeFirst 4 (some .int) none Q
theorem eX2_removeFirst_0 {b : Bool} {d : Nat} {Q : zQ} {σ : zV} {v1 : Int32} : eX2_removeFirst b d Q 0 [.ref 17, .int v1, .null, .null] [] σ = eX2_removeFirst b d Q 1 [.ref 17, .int v1, .null, .null] [.ref 17] σ := q_aload_n (zCall_mono (zUn b) d) (by decide +kernel : decode cX2_removeFirst 0 = .ok (.aload_n 0, 1)) rfl
theorem eX2_removeFirst_1 {b : Bool} {d : Nat} {Q : zQ} {σ : zV} {v1 : Int32} : eX2_removeFirst b d Q 1 [.ref 17, .int v1, .null, .null] [.ref 17] σ = eX2_removeFirst b d Q 4 [.ref 17, .int v1, .null, .null] [.ref 18] σ := q_getR (zCall_mono (zUn b) d) (by decide +kernel : decode cX2_removeFirst 1 = .ok (.getfield 9, 3)) zf_RX2_9 (u_17 b) rfl
theorem eX2_removeFirst_4 {b : Bool} {d : Nat} {Q : zQ} {σ : zV} {v1 : Int32} : eX2_removeFirst b d Q 4 [.ref 17, .int v1, .null, .null] [.ref 18] σ = eX2_removeFirst b d Q 5 [.ref 17, .int v1, .null, .null] [.int v1, .ref 18] σ := q_iload_n (zCall_mono (zUn b) d) (by decide +kernel : decode cX2_removeFirst 4 = .ok (.iload_n 1, 1)) rfl
theorem eX2_removeFirst_5 {b : Bool} {d : Nat} {Q : zQ} {σ : zV} {v1 : Int32} {s0 : Int32} : eX2_removeFirst b d Q 5 [.ref 17, .int v1, .null, .null] [.int s0, .ref 18] σ = (vp_in s0 4 ∧ eX2_removeFirst b d Q 6 [.ref 17, .int v1, .null, .null] [.int (σ 18 s0.toNatClampNeg)] σ) := q_iald (zCall_mono (zUn b) d) (by decide +kernel : decode cX2_removeFirst 5 = .ok (.iaload, 1)) (u_18 b)
theorem eX2_removeFirst_6 {b : Bool} {d : Nat} {Q : zQ} {σ : zV} {v1 : Int32} {s0 : Int32} : eX2_removeFirst b d Q 6 [.ref 17, .int v1, .null, .null] [.int s0] σ = ((¬ s0 = 0 → eX2_removeFirst b d Q 11 [.ref 17, .int v1, .null, .null] [] σ) ∧ (s0 = 0 → eX2_removeFirst b d Q 9 [.ref 17, .int v1, .null, .null] [] σ)) := (q_if (zCall_mono (zUn b) d) (by decide +kernel : decode cX2_removeFirst 6 = .ok (.ifCond .ne 5, 3)) (by decide)).trans z_ne
theorem eX2_removeFirst_9 {b : Bool} {d : Nat} {Q : zQ} {σ : zV} {v1 : Int32} : eX2_removeFirst b d Q 9 [.ref 17, .int v1, .null, .null] [] σ = eX2_removeFirst b d Q 10 [.ref 17, .int v1, .null, .null] [.int (-1)] σ := q_iconst (zCall_mono (zUn b) d) (by decide +kernel : decode cX2_removeFirst 9 = .ok (.iconst (-1), 1)) (by decide +kernel)
theorem eX2_removeFirst_10 {b : Bool} {d : Nat} {Q : zQ} {σ : zV} {v1 : Int32} {s0 : Int32} : eX2_removeFirst b d Q 10 [.ref 17, .int v1, .null, .null] [.int s0] σ = Q (some (.int s0)) σ := q_iret (zCall_mono (zUn b) d) (by decide +kernel : decode cX2_removeFirst 10 = .ok (.ireturn, 1)) rfl
theorem eX2_removeFirst_11 {b : Bool} {d : Nat} {Q : zQ} {σ : zV} {v1 : Int32} : eX2_removeFirst b d Q 11 [.ref 17, .int v1, .null, .null] [] σ = eX2_removeFirst b d Q 12 [.ref 17, .int v1, .null, .null] [.int v1] σ := q_iload_n (zCall_mono (zUn b) d) (by decide +kernel : decode cX2_removeFirst 11 = .ok (.iload_n 1, 1)) rfl
theorem eX2_removeFirst_12 {b : Bool} {d : Nat} {Q : zQ} {σ : zV} {v1 : Int32} {s0 : Int32} : eX2_removeFirst b d Q 12 [.ref 17, .int v1, .null, .null] [.int s0] σ = eX2_removeFirst b d Q 14 [.ref 17, .int v1, .null, .null] [.int 40, .int s0] σ := q_bipush (zCall_mono (zUn b) d) (by decide +kernel : decode cX2_removeFirst 12 = .ok (.bipush 40, 2)) (by decide +kernel)
theorem eX2_removeFirst_14 {b : Bool} {d : Nat} {Q : zQ} {σ : zV} {v1 : Int32} {s0 : Int32} {s1 : Int32} : eX2_removeFirst b d Q 14 [.ref 17, .int v1, .null, .null] [.int s0, .int s1] σ = eX2_removeFirst b d Q 15 [.ref 17, .int v1, .null, .null] [.int (s1 * s0)] σ := q_imul (zCall_mono (zUn b) d) (by decide +kernel : decode cX2_removeFirst 14 = .ok (.imul, 1))
theorem eX2_removeFirst_15 {b : Bool} {d : Nat} {Q : zQ} {σ : zV} {v1 : Int32} {s0 : Int32} : eX2_removeFirst b d Q 15 [.ref 17, .int v1, .null, .null] [.int s0] σ = eX2_removeFirst b d Q 16 [.ref 17, .int v1, .int s0, .null] [] σ := q_istore_n (zCall_mono (zUn b) d) (by decide +kernel : decode cX2_removeFirst 15 = .ok (.istore_n 2, 1)) (Nat.le_of_ble_eq_true rfl) (fun v h => by cases h; rfl) rfl
theorem eX2_removeFirst_16 {b : Bool} {d : Nat} {Q : zQ} {σ : zV} {v1 : Int32} {v2 : Int32} : eX2_removeFirst b d Q 16 [.ref 17, .int v1, .int v2, .null] [] σ = eX2_removeFirst b d Q 17 [.ref 17, .int v1, .int v2, .null] [.ref 17] σ := q_aload_n (zCall_mono (zUn b) d) (by decide +kernel : decode cX2_removeFirst 16 = .ok (.aload_n 0, 1)) rfl
theorem eX2_removeFirst_17 {b : Bool} {d : Nat} {Q : zQ} {σ : zV} {v1 : Int32} {v2 : Int32} : eX2_removeFirst b d Q 17 [.ref 17, .int v1, .int v2, .null] [.ref 17] σ = eX2_removeFirst b d Q 20 [.ref 17, .int v1, .int v2, .null] [.ref 19] σ := q_getR (zCall_mono (zUn b) d) (by decide +kernel : decode cX2_removeFirst 17 = .ok (.getfield 15, 3)) zf_RX2_15 (u_17 b) rfl
theorem eX2_removeFirst_20 {b : Bool} {d : Nat} {Q : zQ} {σ : zV} {v1 : Int32} {v2 : Int32} : eX2_removeFirst b d Q 20 [.ref 17, .int v1, .int v2, .null] [.ref 19] σ = eX2_removeFirst b d Q 21 [.ref 17, .int v1, .int v2, .null] [.int v2, .ref 19] σ := q_iload_n (zCall_mono (zUn b) d) (by decide +kernel : decode cX2_removeFirst 20 = .ok (.iload_n 2, 1)) rfl
theorem eX2_removeFirst_21 {b : Bool} {d : Nat} {Q : zQ} {σ : zV} {v1 : Int32} {v2 : Int32} {s0 : Int32} : eX2_removeFirst b d Q 21 [.ref 17, .int v1, .int v2, .null] [.int s0, .ref 19] σ = (vp_in s0 160 ∧ eX2_removeFirst b d Q 22 [.ref 17, .int v1, .int v2, .null] [.int (σ 19 s0.toNatClampNeg)] σ) := q_iald (zCall_mono (zUn b) d) (by decide +kernel : decode cX2_removeFirst 21 = .ok (.iaload, 1)) (u_19 b)
theorem eX2_removeFirst_22 {b : Bool} {d : Nat} {Q : zQ} {σ : zV} {v1 : Int32} {v2 : Int32} {s0 : Int32} : eX2_removeFirst b d Q 22 [.ref 17, .int v1, .int v2, .null] [.int s0] σ = eX2_removeFirst b d Q 23 [.ref 17, .int v1, .int v2, .int s0] [] σ := q_istore_n (zCall_mono (zUn b) d) (by decide +kernel : decode cX2_removeFirst 22 = .ok (.istore_n 3, 1)) (Nat.le_of_ble_eq_true rfl) (fun v h => by cases h; rfl) rfl
theorem eX2_removeFirst_23 {b : Bool} {d : Nat} {Q : zQ} {σ : zV} {v1 : Int32} {v2 : Int32} {v3 : Int32} : eX2_removeFirst b d Q 23 [.ref 17, .int v1, .int v2, .int v3] [] σ = eX2_removeFirst b d Q 24 [.ref 17, .int v1, .int v2, .int v3] [.ref 17] σ := q_aload_n (zCall_mono (zUn b) d) (by decide +kernel : decode cX2_removeFirst 23 = .ok (.aload_n 0, 1)) rfl
theorem eX2_removeFirst_24 {b : Bool} {d : Nat} {Q : zQ} {σ : zV} {v1 : Int32} {v2 : Int32} {v3 : Int32} : eX2_removeFirst b d Q 24 [.ref 17, .int v1, .int v2, .int v3] [.ref 17] σ = eX2_removeFirst b d Q 27 [.ref 17, .int v1, .int v2, .int v3] [.ref 18] σ := q_getR (zCall_mono (zUn b) d) (by decide +kernel : decode cX2_removeFirst 24 = .ok (.getfield 9, 3)) zf_RX2_9 (u_17 b) rfl
theorem eX2_removeFirst_27 {b : Bool} {d : Nat} {Q : zQ} {σ : zV} {v1 : Int32} {v2 : Int32} {v3 : Int32} : eX2_removeFirst b d Q 27 [.ref 17, .int v1, .int v2, .int v3] [.ref 18] σ = eX2_removeFirst b d Q 28 [.ref 17, .int v1, .int v2, .int v3] [.int v1, .ref 18] σ := q_iload_n (zCall_mono (zUn b) d) (by decide +kernel : decode cX2_removeFirst 27 = .ok (.iload_n 1, 1)) rfl
theorem eX2_removeFirst_28 {b : Bool} {d : Nat} {Q : zQ} {σ : zV} {v1 : Int32} {v2 : Int32} {v3 : Int32} {s0 : Int32} : eX2_removeFirst b d Q 28 [.ref 17, .int v1, .int v2, .int v3] [.int s0, .ref 18] σ = eX2_removeFirst b d Q 29 [.ref 17, .int v1, .int v2, .int v3] [.int s0, .ref 18, .int s0, .ref 18] σ := q_dup2 (zCall_mono (zUn b) d) (by decide +kernel : decode cX2_removeFirst 28 = .ok (.dup2, 1)) rfl rfl
theorem eX2_removeFirst_29 {b : Bool} {d : Nat} {Q : zQ} {σ : zV} {v1 : Int32} {v2 : Int32} {v3 : Int32} {s0 : Int32} {s2 : Int32} : eX2_removeFirst b d Q 29 [.ref 17, .int v1, .int v2, .int v3] [.int s0, .ref 18, .int s2, .ref 18] σ = (vp_in s0 4 ∧ eX2_removeFirst b d Q 30 [.ref 17, .int v1, .int v2, .int v3] [.int (σ 18 s0.toNatClampNeg), .int s2, .ref 18] σ) := q_iald (zCall_mono (zUn b) d) (by decide +kernel : decode cX2_removeFirst 29 = .ok (.iaload, 1)) (u_18 b)
theorem eX2_removeFirst_30 {b : Bool} {d : Nat} {Q : zQ} {σ : zV} {v1 : Int32} {v2 : Int32} {v3 : Int32} {s0 : Int32} {s1 : Int32} : eX2_removeFirst b d Q 30 [.ref 17, .int v1, .int v2, .int v3] [.int s0, .int s1, .ref 18] σ = eX2_removeFirst b d Q 31 [.ref 17, .int v1, .int v2, .int v3] [.int 1, .int s0, .int s1, .ref 18] σ := q_iconst (zCall_mono (zUn b) d) (by decide +kernel : decode cX2_removeFirst 30 = .ok (.iconst 1, 1)) (by decide +kernel)
theorem eX2_removeFirst_31 {b : Bool} {d : Nat} {Q : zQ} {σ : zV} {v1 : Int32} {v2 : Int32} {v3 : Int32} {s0 : Int32} {s1 : Int32} {s2 : Int32} : eX2_removeFirst b d Q 31 [.ref 17, .int v1, .int v2, .int v3] [.int s0, .int s1, .int s2, .ref 18] σ = eX2_removeFirst b d Q 32 [.ref 17, .int v1, .int v2, .int v3] [.int (s1 - s0), .int s2, .ref 18] σ := q_isub (zCall_mono (zUn b) d) (by decide +kernel : decode cX2_removeFirst 31 = .ok (.isub, 1))
theorem eX2_removeFirst_32 {b : Bool} {d : Nat} {Q : zQ} {σ : zV} {v1 : Int32} {v2 : Int32} {v3 : Int32} {s0 : Int32} {s1 : Int32} : eX2_removeFirst b d Q 32 [.ref 17, .int v1, .int v2, .int v3] [.int s0, .int s1, .ref 18] σ = (vp_in s1 4 ∧ eX2_removeFirst b d Q 33 [.ref 17, .int v1, .int v2, .int v3] [] (zput σ 18 s1.toNatClampNeg s0)) := q_iast (zCall_mono (zUn b) d) (by decide +kernel : decode cX2_removeFirst 32 = .ok (.iastore, 1)) (u_18 b)
theorem eX2_removeFirst_33 {b : Bool} {d : Nat} {Q : zQ} {σ : zV} {v1 : Int32} {v2 : Int32} {v3 : Int32} : eX2_removeFirst b d Q 33 [.ref 17, .int v1, .int v2, .int v3] [] σ = eX2_removeFirst b d Q 34 [.ref 17, .int v1, .int v2, .int v3] [.ref 17] σ := q_aload_n (zCall_mono (zUn b) d) (by decide +kernel : decode cX2_removeFirst 33 = .ok (.aload_n 0, 1)) rfl
theorem eX2_removeFirst_34 {b : Bool} {d : Nat} {Q : zQ} {σ : zV} {v1 : Int32} {v2 : Int32} {v3 : Int32} : eX2_removeFirst b d Q 34 [.ref 17, .int v1, .int v2, .int v3] [.ref 17] σ = eX2_removeFirst b d Q 37 [.ref 17, .int v1, .int v2, .int v3] [.ref 19] σ := q_getR (zCall_mono (zUn b) d) (by decide +kernel : decode cX2_removeFirst 34 = .ok (.getfield 15, 3)) zf_RX2_15 (u_17 b) rfl
theorem eX2_removeFirst_37 {b : Bool} {d : Nat} {Q : zQ} {σ : zV} {v1 : Int32} {v2 : Int32} {v3 : Int32} : eX2_removeFirst b d Q 37 [.ref 17, .int v1, .int v2, .int v3] [.ref 19] σ = eX2_removeFirst b d Q 38 [.ref 17, .int v1, .int v2, .int v3] [.int v2, .ref 19] σ := q_iload_n (zCall_mono (zUn b) d) (by decide +kernel : decode cX2_removeFirst 37 = .ok (.iload_n 2, 1)) rfl
theorem eX2_removeFirst_38 {b : Bool} {d : Nat} {Q : zQ} {σ : zV} {v1 : Int32} {v2 : Int32} {v3 : Int32} {s0 : Int32} : eX2_removeFirst b d Q 38 [.ref 17, .int v1, .int v2, .int v3] [.int s0, .ref 19] σ = eX2_removeFirst b d Q 39 [.ref 17, .int v1, .int v2, .int v3] [.int 1, .int s0, .ref 19] σ := q_iconst (zCall_mono (zUn b) d) (by decide +kernel : decode cX2_removeFirst 38 = .ok (.iconst 1, 1)) (by decide +kernel)
theorem eX2_removeFirst_39 {b : Bool} {d : Nat} {Q : zQ} {σ : zV} {v1 : Int32} {v2 : Int32} {v3 : Int32} {s0 : Int32} {s1 : Int32} : eX2_removeFirst b d Q 39 [.ref 17, .int v1, .int v2, .int v3] [.int s0, .int s1, .ref 19] σ = eX2_removeFirst b d Q 40 [.ref 17, .int v1, .int v2, .int v3] [.int (s1 + s0), .ref 19] σ := q_iadd (zCall_mono (zUn b) d) (by decide +kernel : decode cX2_removeFirst 39 = .ok (.iadd, 1))
theorem eX2_removeFirst_40 {b : Bool} {d : Nat} {Q : zQ} {σ : zV} {v1 : Int32} {v2 : Int32} {v3 : Int32} {s0 : Int32} : eX2_removeFirst b d Q 40 [.ref 17, .int v1, .int v2, .int v3] [.int s0, .ref 19] σ = eX2_removeFirst b d Q 41 [.ref 17, .int v1, .int v2, .int v3] [.ref 17, .int s0, .ref 19] σ := q_aload_n (zCall_mono (zUn b) d) (by decide +kernel : decode cX2_removeFirst 40 = .ok (.aload_n 0, 1)) rfl
theorem eX2_removeFirst_41 {b : Bool} {d : Nat} {Q : zQ} {σ : zV} {v1 : Int32} {v2 : Int32} {v3 : Int32} {s1 : Int32} : eX2_removeFirst b d Q 41 [.ref 17, .int v1, .int v2, .int v3] [.ref 17, .int s1, .ref 19] σ = eX2_removeFirst b d Q 44 [.ref 17, .int v1, .int v2, .int v3] [.ref 19, .int s1, .ref 19] σ := q_getR (zCall_mono (zUn b) d) (by decide +kernel : decode cX2_removeFirst 41 = .ok (.getfield 15, 3)) zf_RX2_15 (u_17 b) rfl
theorem eX2_removeFirst_44 {b : Bool} {d : Nat} {Q : zQ} {σ : zV} {v1 : Int32} {v2 : Int32} {v3 : Int32} {s1 : Int32} : eX2_removeFirst b d Q 44 [.ref 17, .int v1, .int v2, .int v3] [.ref 19, .int s1, .ref 19] σ = eX2_removeFirst b d Q 45 [.ref 17, .int v1, .int v2, .int v3] [.int v2, .ref 19, .int s1, .ref 19] σ := q_iload_n (zCall_mono (zUn b) d) (by decide +kernel : decode cX2_removeFirst 44 = .ok (.iload_n 2, 1)) rfl
theorem eX2_removeFirst_45 {b : Bool} {d : Nat} {Q : zQ} {σ : zV} {v1 : Int32} {v2 : Int32} {v3 : Int32} {s0 : Int32} {s2 : Int32} : eX2_removeFirst b d Q 45 [.ref 17, .int v1, .int v2, .int v3] [.int s0, .ref 19, .int s2, .ref 19] σ = eX2_removeFirst b d Q 46 [.ref 17, .int v1, .int v2, .int v3] [.ref 17, .int s0, .ref 19, .int s2, .ref 19] σ := q_aload_n (zCall_mono (zUn b) d) (by decide +kernel : decode cX2_removeFirst 45 = .ok (.aload_n 0, 1)) rfl
theorem eX2_removeFirst_46 {b : Bool} {d : Nat} {Q : zQ} {σ : zV} {v1 : Int32} {v2 : Int32} {v3 : Int32} {s1 : Int32} {s3 : Int32} : eX2_removeFirst b d Q 46 [.ref 17, .int v1, .int v2, .int v3] [.ref 17, .int s1, .ref 19, .int s3, .ref 19] σ = eX2_removeFirst b d Q 49 [.ref 17, .int v1, .int v2, .int v3] [.ref 18, .int s1, .ref 19, .int s3, .ref 19] σ := q_getR (zCall_mono (zUn b) d) (by decide +kernel : decode cX2_removeFirst 46 = .ok (.getfield 9, 3)) zf_RX2_9 (u_17 b) rfl
theorem eX2_removeFirst_49 {b : Bool} {d : Nat} {Q : zQ} {σ : zV} {v1 : Int32} {v2 : Int32} {v3 : Int32} {s1 : Int32} {s3 : Int32} : eX2_removeFirst b d Q 49 [.ref 17, .int v1, .int v2, .int v3] [.ref 18, .int s1, .ref 19, .int s3, .ref 19] σ = eX2_removeFirst b d Q 50 [.ref 17, .int v1, .int v2, .int v3] [.int v1, .ref 18, .int s1, .ref 19, .int s3, .ref 19] σ := q_iload_n (zCall_mono (zUn b) d) (by decide +kernel : decode cX2_removeFirst 49 = .ok (.iload_n 1, 1)) rfl
theorem eX2_removeFirst_50 {b : Bool} {d : Nat} {Q : zQ} {σ : zV} {v1 : Int32} {v2 : Int32} {v3 : Int32} {s0 : Int32} {s2 : Int32} {s4 : Int32} : eX2_removeFirst b d Q 50 [.ref 17, .int v1, .int v2, .int v3] [.int s0, .ref 18, .int s2, .ref 19, .int s4, .ref 19] σ = (vp_in s0 4 ∧ eX2_removeFirst b d Q 51 [.ref 17, .int v1, .int v2, .int v3] [.int (σ 18 s0.toNatClampNeg), .int s2, .ref 19, .int s4, .ref 19] σ) := q_iald (zCall_mono (zUn b) d) (by decide +kernel : decode cX2_removeFirst 50 = .ok (.iaload, 1)) (u_18 b)
theorem eX2_removeFirst_51 {b : Bool} {d : Nat} {Q : zQ} {σ : zV} {v1 : Int32} {v2 : Int32} {v3 : Int32} {s0 : Int32} {s1 : Int32} {s3 : Int32} : eX2_removeFirst b d Q 51 [.ref 17, .int v1, .int v2, .int v3] [.int s0, .int s1, .ref 19, .int s3, .ref 19] σ = (¬ s3 < 0 ∧ ¬ s1 < 0 ∧ ¬ s0 < 0 ∧ s3.toNatClampNeg + s0.toNatClampNeg ≤ 160 ∧ s1.toNatClampNeg + s0.toNatClampNeg ≤ 160 ∧ eX2_removeFirst b d Q 54 [.ref 17, .int v1, .int v2, .int v3] [] (va_up σ 19 (va_cpy (σ 19) (σ 19) s3.toNatClampNeg s1.toNatClampNeg s0.toNatClampNeg))) := q_copy (zCall_mono (zUn b) d) (by decide +kernel : decode cX2_removeFirst 51 = .ok (.invokestatic 24, 3)) zm_RX2_24 (Nat.le_of_ble_eq_true rfl) (u_19 b) (u_19 b)
theorem eX2_removeFirst_54 {b : Bool} {d : Nat} {Q : zQ} {σ : zV} {v1 : Int32} {v2 : Int32} {v3 : Int32} : eX2_removeFirst b d Q 54 [.ref 17, .int v1, .int v2, .int v3] [] σ = eX2_removeFirst b d Q 55 [.ref 17, .int v1, .int v2, .int v3] [.int v3] σ := q_iload_n (zCall_mono (zUn b) d) (by decide +kernel : decode cX2_removeFirst 54 = .ok (.iload_n 3, 1)) rfl
theorem eX2_removeFirst_55 {b : Bool} {d : Nat} {Q : zQ} {σ : zV} {v1 : Int32} {v2 : Int32} {v3 : Int32} {s0 : Int32} : eX2_removeFirst b d Q 55 [.ref 17, .int v1, .int v2, .int v3] [.int s0] σ = Q (some (.int s0)) σ := q_iret (zCall_mono (zUn b) d) (by decide +kernel : decode cX2_removeFirst 55 = .ok (.ireturn, 1)) rfl
theorem nX2_removeFirst {b : Bool} {d : Nat} {Q : zQ} {σ : zV} {v1 : Int32} : zCall (zUn b) (d + 1) yX2_removeFirst [.ref 17, .int v1] σ Q = eX2_removeFirst b d Q 0 [.ref 17, .int v1, .null, .null] [] σ := (q_call kX2_removeFirst (Nat.le_of_ble_eq_true rfl)).trans rfl
def eX2_startAgain (b : Bool) (d : Nat) (Q : zQ) : zP := zEv (zUn b) (zCall (zUn b) d) RX2 cX2_startAgain 1 none none Q
theorem eX2_startAgain_0 {b : Bool} {d : Nat} {Q : zQ} {σ : zV}  : eX2_startAgain b d Q 0 [.ref 17] [] σ = eX2_startAgain b d Q 1 [.ref 17] [.ref 17] σ := q_aload_n (zCall_mono (zUn b) d) (by decide +kernel : decode cX2_startAgain 0 = .ok (.aload_n 0, 1)) rfl
theorem eX2_startAgain_1 {b : Bool} {d : Nat} {Q : zQ} {σ : zV}  : eX2_startAgain b d Q 1 [.ref 17] [.ref 17] σ = eX2_startAgain b d Q 4 [.ref 17] [.ref 18] σ := q_getR (zCall_mono (zUn b) d) (by decide +kernel : decode cX2_startAgain 1 = .ok (.getfield 9, 3)) zf_RX2_9 (u_17 b) rfl
theorem eX2_startAgain_4 {b : Bool} {d : Nat} {Q : zQ} {σ : zV}  : eX2_startAgain b d Q 4 [.ref 17] [.ref 18] σ = eX2_startAgain b d Q 5 [.ref 17] [.int 0, .ref 18] σ := q_iconst (zCall_mono (zUn b) d) (by decide +kernel : decode cX2_startAgain 4 = .ok (.iconst 0, 1)) (by decide +kernel)
theorem eX2_startAgain_5 {b : Bool} {d : Nat} {Q : zQ} {σ : zV} {s0 : Int32} : eX2_startAgain b d Q 5 [.ref 17] [.int s0, .ref 18] σ = zCall (zUn b) d yJ7_fill_53178 [.ref 18, .int s0] σ (fun v σ' => eX2_startAgain b d Q 8 [.ref 17] (v.toList ++ []) σ') := q_ins (As := [.ref 18, .int s0]) (r := []) (zCall_mono (zUn b) d) (by decide +kernel : decode cX2_startAgain 5 = .ok (.invokestatic 18, 3)) zm_RX2_18 (Nat.le_of_ble_eq_true rfl) rfl
theorem eX2_startAgain_8 {b : Bool} {d : Nat} {Q : zQ} {σ : zV}  : eX2_startAgain b d Q 8 [.ref 17] [] σ = Q none σ := q_vret (zCall_mono (zUn b) d) (by decide +kernel : decode cX2_startAgain 8 = .ok (.return_, 1)) rfl
theorem nX2_startAgain {b : Bool} {d : Nat} {Q : zQ} {σ : zV}  : zCall (zUn b) (d + 1) yX2_startAgain [.ref 17] σ Q = eX2_startAgain b d Q 0 [.ref 17] [] σ := (q_call kX2_startAgain (Nat.le_of_ble_eq_true rfl)).trans rfl
def eX3_begin (b : Bool) (d : Nat) (Q : zQ) : zP := zEv (zUn b) (zCall (zUn b) d) RX3 cX3_begin 7 (some .int) none Q
theorem eX3_begin_0 {b : Bool} {d : Nat} {Q : zQ} {σ : zV} {v1 : Int32} {v2 : Int32} {v3 : Int32} {v4 : Int32} {v5 : Int32} : eX3_begin b d Q 0 [.ref 20, .int v1, .int v2, .int v3, .int v4, .int v5, .null] [] σ = eX3_begin b d Q 1 [.ref 20, .int v1, .int v2, .int v3, .int v4, .int v5, .null] [.ref 20] σ := q_aload_n (zCall_mono (zUn b) d) (by decide +kernel : decode cX3_begin 0 = .ok (.aload_n 0, 1)) rfl
theorem eX3_begin_1 {b : Bool} {d : Nat} {Q : zQ} {σ : zV} {v1 : Int32} {v2 : Int32} {v3 : Int32} {v4 : Int32} {v5 : Int32} : eX3_begin b d Q 1 [.ref 20, .int v1, .int v2, .int v3, .int v4, .int v5, .null] [.ref 20] σ = eX3_begin b d Q 4 [.ref 20, .int v1, .int v2, .int v3, .int v4, .int v5, .null] [.int (σ 20 0)] σ := q_getI (zCall_mono (zUn b) d) (by decide +kernel : decode cX3_begin 1 = .ok (.getfield 33, 3)) zf_RX3_33 (u_20 b) rfl
theorem eX3_begin_4 {b : Bool} {d : Nat} {Q : zQ} {σ : zV} {v1 : Int32} {v2 : Int32} {v3 : Int32} {v4 : Int32} {v5 : Int32} {s0 : Int32} : eX3_begin b d Q 4 [.ref 20, .int v1, .int v2, .int v3, .int v4, .int v5, .null] [.int s0] σ = eX3_begin b d Q 6 [.ref 20, .int v1, .int v2, .int v3, .int v4, .int v5, .int s0] [] σ := q_istore (zCall_mono (zUn b) d) (by decide +kernel : decode cX3_begin 4 = .ok (.istore 6, 2)) (Nat.le_of_ble_eq_true rfl) (fun v h => by cases h; rfl) rfl
theorem eX3_begin_6 {b : Bool} {d : Nat} {Q : zQ} {σ : zV} {v1 : Int32} {v2 : Int32} {v3 : Int32} {v4 : Int32} {v5 : Int32} {v6 : Int32} : eX3_begin b d Q 6 [.ref 20, .int v1, .int v2, .int v3, .int v4, .int v5, .int v6] [] σ = eX3_begin b d Q 7 [.ref 20, .int v1, .int v2, .int v3, .int v4, .int v5, .int v6] [.ref 20] σ := q_aload_n (zCall_mono (zUn b) d) (by decide +kernel : decode cX3_begin 6 = .ok (.aload_n 0, 1)) rfl
theorem eX3_begin_7 {b : Bool} {d : Nat} {Q : zQ} {σ : zV} {v1 : Int32} {v2 : Int32} {v3 : Int32} {v4 : Int32} {v5 : Int32} {v6 : Int32} : eX3_begin b d Q 7 [.ref 20, .int v1, .int v2, .int v3, .int v4, .int v5, .int v6] [.ref 20] σ = eX3_begin b d Q 10 [.ref 20, .int v1, .int v2, .int v3, .int v4, .int v5, .int v6] [.ref 21] σ := q_getR (zCall_mono (zUn b) d) (by decide +kernel : decode cX3_begin 7 = .ok (.getfield 9, 3)) zf_RX3_9 (u_20 b) rfl
theorem eX3_begin_10 {b : Bool} {d : Nat} {Q : zQ} {σ : zV} {v1 : Int32} {v2 : Int32} {v3 : Int32} {v4 : Int32} {v5 : Int32} {v6 : Int32} : eX3_begin b d Q 10 [.ref 20, .int v1, .int v2, .int v3, .int v4, .int v5, .int v6] [.ref 21] σ = eX3_begin b d Q 12 [.ref 20, .int v1, .int v2, .int v3, .int v4, .int v5, .int v6] [.int v6, .ref 21] σ := q_iload (zCall_mono (zUn b) d) (by decide +kernel : decode cX3_begin 10 = .ok (.iload 6, 2)) rfl
theorem eX3_begin_12 {b : Bool} {d : Nat} {Q : zQ} {σ : zV} {v1 : Int32} {v2 : Int32} {v3 : Int32} {v4 : Int32} {v5 : Int32} {v6 : Int32} {s0 : Int32} : eX3_begin b d Q 12 [.ref 20, .int v1, .int v2, .int v3, .int v4, .int v5, .int v6] [.int s0, .ref 21] σ = eX3_begin b d Q 13 [.ref 20, .int v1, .int v2, .int v3, .int v4, .int v5, .int v6] [.int v1, .int s0, .ref 21] σ := q_iload_n (zCall_mono (zUn b) d) (by decide +kernel : decode cX3_begin 12 = .ok (.iload_n 1, 1)) rfl
theorem eX3_begin_13 {b : Bool} {d : Nat} {Q : zQ} {σ : zV} {v1 : Int32} {v2 : Int32} {v3 : Int32} {v4 : Int32} {v5 : Int32} {v6 : Int32} {s0 : Int32} {s1 : Int32} : eX3_begin b d Q 13 [.ref 20, .int v1, .int v2, .int v3, .int v4, .int v5, .int v6] [.int s0, .int s1, .ref 21] σ = (vp_in s1 40 ∧ eX3_begin b d Q 14 [.ref 20, .int v1, .int v2, .int v3, .int v4, .int v5, .int v6] [] (zput σ 21 s1.toNatClampNeg s0)) := q_iast (zCall_mono (zUn b) d) (by decide +kernel : decode cX3_begin 13 = .ok (.iastore, 1)) (u_21 b)
theorem eX3_begin_14 {b : Bool} {d : Nat} {Q : zQ} {σ : zV} {v1 : Int32} {v2 : Int32} {v3 : Int32} {v4 : Int32} {v5 : Int32} {v6 : Int32} : eX3_begin b d Q 14 [.ref 20, .int v1, .int v2, .int v3, .int v4, .int v5, .int v6] [] σ = eX3_begin b d Q 15 [.ref 20, .int v1, .int v2, .int v3, .int v4, .int v5, .int v6] [.ref 20] σ := q_aload_n (zCall_mono (zUn b) d) (by decide +kernel : decode cX3_begin 14 = .ok (.aload_n 0, 1)) rfl
theorem eX3_begin_15 {b : Bool} {d : Nat} {Q : zQ} {σ : zV} {v1 : Int32} {v2 : Int32} {v3 : Int32} {v4 : Int32} {v5 : Int32} {v6 : Int32} : eX3_begin b d Q 15 [.ref 20, .int v1, .int v2, .int v3, .int v4, .int v5, .int v6] [.ref 20] σ = eX3_begin b d Q 18 [.ref 20, .int v1, .int v2, .int v3, .int v4, .int v5, .int v6] [.ref 22] σ := q_getR (zCall_mono (zUn b) d) (by decide +kernel : decode cX3_begin 15 = .ok (.getfield 15, 3)) zf_RX3_15 (u_20 b) rfl
theorem eX3_begin_18 {b : Bool} {d : Nat} {Q : zQ} {σ : zV} {v1 : Int32} {v2 : Int32} {v3 : Int32} {v4 : Int32} {v5 : Int32} {v6 : Int32} : eX3_begin b d Q 18 [.ref 20, .int v1, .int v2, .int v3, .int v4, .int v5, .int v6] [.ref 22] σ = eX3_begin b d Q 20 [.ref 20, .int v1, .int v2, .int v3, .int v4, .int v5, .int v6] [.int v6, .ref 22] σ := q_iload (zCall_mono (zUn b) d) (by decide +kernel : decode cX3_begin 18 = .ok (.iload 6, 2)) rfl
theorem eX3_begin_20 {b : Bool} {d : Nat} {Q : zQ} {σ : zV} {v1 : Int32} {v2 : Int32} {v3 : Int32} {v4 : Int32} {v5 : Int32} {v6 : Int32} {s0 : Int32} : eX3_begin b d Q 20 [.ref 20, .int v1, .int v2, .int v3, .int v4, .int v5, .int v6] [.int s0, .ref 22] σ = eX3_begin b d Q 21 [.ref 20, .int v1, .int v2, .int v3, .int v4, .int v5, .int v6] [.int v2, .int s0, .ref 22] σ := q_iload_n (zCall_mono (zUn b) d) (by decide +kernel : decode cX3_begin 20 = .ok (.iload_n 2, 1)) rfl
theorem eX3_begin_21 {b : Bool} {d : Nat} {Q : zQ} {σ : zV} {v1 : Int32} {v2 : Int32} {v3 : Int32} {v4 : Int32} {v5 : Int32} {v6 : Int32} {s0 : Int32} {s1 : Int32} : eX3_begin b d Q 21 [.ref 20, .int v1, .int v2, .int v3, .int v4, .int v5, .int v6] [.int s0, .int s1, .ref 22] σ = (vp_in s1 40 ∧ eX3_begin b d Q 22 [.ref 20, .int v1, .int v2, .int v3, .int v4, .int v5, .int v6] [] (zput σ 22 s1.toNatClampNeg s0)) := q_iast (zCall_mono (zUn b) d) (by decide +kernel : decode cX3_begin 21 = .ok (.iastore, 1)) (u_22 b)
theorem eX3_begin_22 {b : Bool} {d : Nat} {Q : zQ} {σ : zV} {v1 : Int32} {v2 : Int32} {v3 : Int32} {v4 : Int32} {v5 : Int32} {v6 : Int32} : eX3_begin b d Q 22 [.ref 20, .int v1, .int v2, .int v3, .int v4, .int v5, .int v6] [] σ = eX3_begin b d Q 23 [.ref 20, .int v1, .int v2, .int v3, .int v4, .int v5, .int v6] [.ref 20] σ := q_aload_n (zCall_mono (zUn b) d) (by decide +kernel : decode cX3_begin 22 = .ok (.aload_n 0, 1)) rfl
theorem eX3_begin_23 {b : Bool} {d : Nat} {Q : zQ} {σ : zV} {v1 : Int32} {v2 : Int32} {v3 : Int32} {v4 : Int32} {v5 : Int32} {v6 : Int32} : eX3_begin b d Q 23 [.ref 20, .int v1, .int v2, .int v3, .int v4, .int v5, .int v6] [.ref 20] σ = eX3_begin b d Q 26 [.ref 20, .int v1, .int v2, .int v3, .int v4, .int v5, .int v6] [.ref 23] σ := q_getR (zCall_mono (zUn b) d) (by decide +kernel : decode cX3_begin 23 = .ok (.getfield 18, 3)) zf_RX3_18 (u_20 b) rfl
theorem eX3_begin_26 {b : Bool} {d : Nat} {Q : zQ} {σ : zV} {v1 : Int32} {v2 : Int32} {v3 : Int32} {v4 : Int32} {v5 : Int32} {v6 : Int32} : eX3_begin b d Q 26 [.ref 20, .int v1, .int v2, .int v3, .int v4, .int v5, .int v6] [.ref 23] σ = eX3_begin b d Q 28 [.ref 20, .int v1, .int v2, .int v3, .int v4, .int v5, .int v6] [.int v6, .ref 23] σ := q_iload (zCall_mono (zUn b) d) (by decide +kernel : decode cX3_begin 26 = .ok (.iload 6, 2)) rfl
theorem eX3_begin_28 {b : Bool} {d : Nat} {Q : zQ} {σ : zV} {v1 : Int32} {v2 : Int32} {v3 : Int32} {v4 : Int32} {v5 : Int32} {v6 : Int32} {s0 : Int32} : eX3_begin b d Q 28 [.ref 20, .int v1, .int v2, .int v3, .int v4, .int v5, .int v6] [.int s0, .ref 23] σ = eX3_begin b d Q 29 [.ref 20, .int v1, .int v2, .int v3, .int v4, .int v5, .int v6] [.int v3, .int s0, .ref 23] σ := q_iload_n (zCall_mono (zUn b) d) (by decide +kernel : decode cX3_begin 28 = .ok (.iload_n 3, 1)) rfl
theorem eX3_begin_29 {b : Bool} {d : Nat} {Q : zQ} {σ : zV} {v1 : Int32} {v2 : Int32} {v3 : Int32} {v4 : Int32} {v5 : Int32} {v6 : Int32} {s0 : Int32} {s1 : Int32} : eX3_begin b d Q 29 [.ref 20, .int v1, .int v2, .int v3, .int v4, .int v5, .int v6] [.int s0, .int s1, .ref 23] σ = (vp_in s1 40 ∧ eX3_begin b d Q 30 [.ref 20, .int v1, .int v2, .int v3, .int v4, .int v5, .int v6] [] (zput σ 23 s1.toNatClampNeg s0)) := q_iast (zCall_mono (zUn b) d) (by decide +kernel : decode cX3_begin 29 = .ok (.iastore, 1)) (u_23 b)
theorem eX3_begin_30 {b : Bool} {d : Nat} {Q : zQ} {σ : zV} {v1 : Int32} {v2 : Int32} {v3 : Int32} {v4 : Int32} {v5 : Int32} {v6 : Int32} : eX3_begin b d Q 30 [.ref 20, .int v1, .int v2, .int v3, .int v4, .int v5, .int v6] [] σ = eX3_begin b d Q 31 [.ref 20, .int v1, .int v2, .int v3, .int v4, .int v5, .int v6] [.ref 20] σ := q_aload_n (zCall_mono (zUn b) d) (by decide +kernel : decode cX3_begin 30 = .ok (.aload_n 0, 1)) rfl
theorem eX3_begin_31 {b : Bool} {d : Nat} {Q : zQ} {σ : zV} {v1 : Int32} {v2 : Int32} {v3 : Int32} {v4 : Int32} {v5 : Int32} {v6 : Int32} : eX3_begin b d Q 31 [.ref 20, .int v1, .int v2, .int v3, .int v4, .int v5, .int v6] [.ref 20] σ = eX3_begin b d Q 34 [.ref 20, .int v1, .int v2, .int v3, .int v4, .int v5, .int v6] [.ref 24] σ := q_getR (zCall_mono (zUn b) d) (by decide +kernel : decode cX3_begin 31 = .ok (.getfield 21, 3)) zf_RX3_21 (u_20 b) rfl
theorem eX3_begin_34 {b : Bool} {d : Nat} {Q : zQ} {σ : zV} {v1 : Int32} {v2 : Int32} {v3 : Int32} {v4 : Int32} {v5 : Int32} {v6 : Int32} : eX3_begin b d Q 34 [.ref 20, .int v1, .int v2, .int v3, .int v4, .int v5, .int v6] [.ref 24] σ = eX3_begin b d Q 36 [.ref 20, .int v1, .int v2, .int v3, .int v4, .int v5, .int v6] [.int v6, .ref 24] σ := q_iload (zCall_mono (zUn b) d) (by decide +kernel : decode cX3_begin 34 = .ok (.iload 6, 2)) rfl
theorem eX3_begin_36 {b : Bool} {d : Nat} {Q : zQ} {σ : zV} {v1 : Int32} {v2 : Int32} {v3 : Int32} {v4 : Int32} {v5 : Int32} {v6 : Int32} {s0 : Int32} : eX3_begin b d Q 36 [.ref 20, .int v1, .int v2, .int v3, .int v4, .int v5, .int v6] [.int s0, .ref 24] σ = eX3_begin b d Q 38 [.ref 20, .int v1, .int v2, .int v3, .int v4, .int v5, .int v6] [.int v4, .int s0, .ref 24] σ := q_iload (zCall_mono (zUn b) d) (by decide +kernel : decode cX3_begin 36 = .ok (.iload 4, 2)) rfl
theorem eX3_begin_38 {b : Bool} {d : Nat} {Q : zQ} {σ : zV} {v1 : Int32} {v2 : Int32} {v3 : Int32} {v4 : Int32} {v5 : Int32} {v6 : Int32} {s0 : Int32} {s1 : Int32} : eX3_begin b d Q 38 [.ref 20, .int v1, .int v2, .int v3, .int v4, .int v5, .int v6] [.int s0, .int s1, .ref 24] σ = (vp_in s1 40 ∧ eX3_begin b d Q 39 [.ref 20, .int v1, .int v2, .int v3, .int v4, .int v5, .int v6] [] (zput σ 24 s1.toNatClampNeg s0)) := q_iast (zCall_mono (zUn b) d) (by decide +kernel : decode cX3_begin 38 = .ok (.iastore, 1)) (u_24 b)
theorem eX3_begin_39 {b : Bool} {d : Nat} {Q : zQ} {σ : zV} {v1 : Int32} {v2 : Int32} {v3 : Int32} {v4 : Int32} {v5 : Int32} {v6 : Int32} : eX3_begin b d Q 39 [.ref 20, .int v1, .int v2, .int v3, .int v4, .int v5, .int v6] [] σ = eX3_begin b d Q 40 [.ref 20, .int v1, .int v2, .int v3, .int v4, .int v5, .int v6] [.ref 20] σ := q_aload_n (zCall_mono (zUn b) d) (by decide +kernel : decode cX3_begin 39 = .ok (.aload_n 0, 1)) rfl
theorem eX3_begin_40 {b : Bool} {d : Nat} {Q : zQ} {σ : zV} {v1 : Int32} {v2 : Int32} {v3 : Int32} {v4 : Int32} {v5 : Int32} {v6 : Int32} : eX3_begin b d Q 40 [.ref 20, .int v1, .int v2, .int v3, .int v4, .int v5, .int v6] [.ref 20] σ = eX3_begin b d Q 43 [.ref 20, .int v1, .int v2, .int v3, .int v4, .int v5, .int v6] [.ref 25] σ := q_getR (zCall_mono (zUn b) d) (by decide +kernel : decode cX3_begin 40 = .ok (.getfield 24, 3)) zf_RX3_24 (u_20 b) rfl
theorem eX3_begin_43 {b : Bool} {d : Nat} {Q : zQ} {σ : zV} {v1 : Int32} {v2 : Int32} {v3 : Int32} {v4 : Int32} {v5 : Int32} {v6 : Int32} : eX3_begin b d Q 43 [.ref 20, .int v1, .int v2, .int v3, .int v4, .int v5, .int v6] [.ref 25] σ = eX3_begin b d Q 45 [.ref 20, .int v1, .int v2, .int v3, .int v4, .int v5, .int v6] [.int v6, .ref 25] σ := q_iload (zCall_mono (zUn b) d) (by decide +kernel : decode cX3_begin 43 = .ok (.iload 6, 2)) rfl
theorem eX3_begin_45 {b : Bool} {d : Nat} {Q : zQ} {σ : zV} {v1 : Int32} {v2 : Int32} {v3 : Int32} {v4 : Int32} {v5 : Int32} {v6 : Int32} {s0 : Int32} : eX3_begin b d Q 45 [.ref 20, .int v1, .int v2, .int v3, .int v4, .int v5, .int v6] [.int s0, .ref 25] σ = eX3_begin b d Q 47 [.ref 20, .int v1, .int v2, .int v3, .int v4, .int v5, .int v6] [.int v5, .int s0, .ref 25] σ := q_iload (zCall_mono (zUn b) d) (by decide +kernel : decode cX3_begin 45 = .ok (.iload 5, 2)) rfl
theorem eX3_begin_47 {b : Bool} {d : Nat} {Q : zQ} {σ : zV} {v1 : Int32} {v2 : Int32} {v3 : Int32} {v4 : Int32} {v5 : Int32} {v6 : Int32} {s0 : Int32} {s1 : Int32} : eX3_begin b d Q 47 [.ref 20, .int v1, .int v2, .int v3, .int v4, .int v5, .int v6] [.int s0, .int s1, .ref 25] σ = (vp_in s1 40 ∧ eX3_begin b d Q 48 [.ref 20, .int v1, .int v2, .int v3, .int v4, .int v5, .int v6] [] (zput σ 25 s1.toNatClampNeg s0)) := q_iast (zCall_mono (zUn b) d) (by decide +kernel : decode cX3_begin 47 = .ok (.iastore, 1)) (u_25 b)
theorem eX3_begin_48 {b : Bool} {d : Nat} {Q : zQ} {σ : zV} {v1 : Int32} {v2 : Int32} {v3 : Int32} {v4 : Int32} {v5 : Int32} {v6 : Int32} : eX3_begin b d Q 48 [.ref 20, .int v1, .int v2, .int v3, .int v4, .int v5, .int v6] [] σ = eX3_begin b d Q 49 [.ref 20, .int v1, .int v2, .int v3, .int v4, .int v5, .int v6] [.ref 20] σ := q_aload_n (zCall_mono (zUn b) d) (by decide +kernel : decode cX3_begin 48 = .ok (.aload_n 0, 1)) rfl
theorem eX3_begin_49 {b : Bool} {d : Nat} {Q : zQ} {σ : zV} {v1 : Int32} {v2 : Int32} {v3 : Int32} {v4 : Int32} {v5 : Int32} {v6 : Int32} : eX3_begin b d Q 49 [.ref 20, .int v1, .int v2, .int v3, .int v4, .int v5, .int v6] [.ref 20] σ = eX3_begin b d Q 52 [.ref 20, .int v1, .int v2, .int v3, .int v4, .int v5, .int v6] [.ref 26] σ := q_getR (zCall_mono (zUn b) d) (by decide +kernel : decode cX3_begin 49 = .ok (.getfield 27, 3)) zf_RX3_27 (u_20 b) rfl
theorem eX3_begin_52 {b : Bool} {d : Nat} {Q : zQ} {σ : zV} {v1 : Int32} {v2 : Int32} {v3 : Int32} {v4 : Int32} {v5 : Int32} {v6 : Int32} : eX3_begin b d Q 52 [.ref 20, .int v1, .int v2, .int v3, .int v4, .int v5, .int v6] [.ref 26] σ = eX3_begin b d Q 54 [.ref 20, .int v1, .int v2, .int v3, .int v4, .int v5, .int v6] [.int v6, .ref 26] σ := q_iload (zCall_mono (zUn b) d) (by decide +kernel : decode cX3_begin 52 = .ok (.iload 6, 2)) rfl
theorem eX3_begin_54 {b : Bool} {d : Nat} {Q : zQ} {σ : zV} {v1 : Int32} {v2 : Int32} {v3 : Int32} {v4 : Int32} {v5 : Int32} {v6 : Int32} {s0 : Int32} : eX3_begin b d Q 54 [.ref 20, .int v1, .int v2, .int v3, .int v4, .int v5, .int v6] [.int s0, .ref 26] σ = eX3_begin b d Q 55 [.ref 20, .int v1, .int v2, .int v3, .int v4, .int v5, .int v6] [.int (-1), .int s0, .ref 26] σ := q_iconst (zCall_mono (zUn b) d) (by decide +kernel : decode cX3_begin 54 = .ok (.iconst (-1), 1)) (by decide +kernel)
theorem eX3_begin_55 {b : Bool} {d : Nat} {Q : zQ} {σ : zV} {v1 : Int32} {v2 : Int32} {v3 : Int32} {v4 : Int32} {v5 : Int32} {v6 : Int32} {s0 : Int32} {s1 : Int32} : eX3_begin b d Q 55 [.ref 20, .int v1, .int v2, .int v3, .int v4, .int v5, .int v6] [.int s0, .int s1, .ref 26] σ = (vp_in s1 40 ∧ eX3_begin b d Q 56 [.ref 20, .int v1, .int v2, .int v3, .int v4, .int v5, .int v6] [] (zput σ 26 s1.toNatClampNeg s0)) := q_iast (zCall_mono (zUn b) d) (by decide +kernel : decode cX3_begin 55 = .ok (.iastore, 1)) (u_26 b)
theorem eX3_begin_56 {b : Bool} {d : Nat} {Q : zQ} {σ : zV} {v1 : Int32} {v2 : Int32} {v3 : Int32} {v4 : Int32} {v5 : Int32} {v6 : Int32} : eX3_begin b d Q 56 [.ref 20, .int v1, .int v2, .int v3, .int v4, .int v5, .int v6] [] σ = eX3_begin b d Q 57 [.ref 20, .int v1, .int v2, .int v3, .int v4, .int v5, .int v6] [.ref 20] σ := q_aload_n (zCall_mono (zUn b) d) (by decide +kernel : decode cX3_begin 56 = .ok (.aload_n 0, 1)) rfl
theorem eX3_begin_57 {b : Bool} {d : Nat} {Q : zQ} {σ : zV} {v1 : Int32} {v2 : Int32} {v3 : Int32} {v4 : Int32} {v5 : Int32} {v6 : Int32} : eX3_begin b d Q 57 [.ref 20, .int v1, .int v2, .int v3, .int v4, .int v5, .int v6] [.ref 20] σ = eX3_begin b d Q 60 [.ref 20, .int v1, .int v2, .int v3, .int v4, .int v5, .int v6] [.ref 27] σ := q_getR (zCall_mono (zUn b) d) (by decide +kernel : decode cX3_begin 57 = .ok (.getfield 30, 3)) zf_RX3_30 (u_20 b) rfl
theorem eX3_begin_60 {b : Bool} {d : Nat} {Q : zQ} {σ : zV} {v1 : Int32} {v2 : Int32} {v3 : Int32} {v4 : Int32} {v5 : Int32} {v6 : Int32} : eX3_begin b d Q 60 [.ref 20, .int v1, .int v2, .int v3, .int v4, .int v5, .int v6] [.ref 27] σ = eX3_begin b d Q 62 [.ref 20, .int v1, .int v2, .int v3, .int v4, .int v5, .int v6] [.int v6, .ref 27] σ := q_iload (zCall_mono (zUn b) d) (by decide +kernel : decode cX3_begin 60 = .ok (.iload 6, 2)) rfl
theorem eX3_begin_62 {b : Bool} {d : Nat} {Q : zQ} {σ : zV} {v1 : Int32} {v2 : Int32} {v3 : Int32} {v4 : Int32} {v5 : Int32} {v6 : Int32} {s0 : Int32} : eX3_begin b d Q 62 [.ref 20, .int v1, .int v2, .int v3, .int v4, .int v5, .int v6] [.int s0, .ref 27] σ = eX3_begin b d Q 63 [.ref 20, .int v1, .int v2, .int v3, .int v4, .int v5, .int v6] [.int 0, .int s0, .ref 27] σ := q_iconst (zCall_mono (zUn b) d) (by decide +kernel : decode cX3_begin 62 = .ok (.iconst 0, 1)) (by decide +kernel)
theorem eX3_begin_63 {b : Bool} {d : Nat} {Q : zQ} {σ : zV} {v1 : Int32} {v2 : Int32} {v3 : Int32} {v4 : Int32} {v5 : Int32} {v6 : Int32} {s0 : Int32} {s1 : Int32} : eX3_begin b d Q 63 [.ref 20, .int v1, .int v2, .int v3, .int v4, .int v5, .int v6] [.int s0, .int s1, .ref 27] σ = (vp_in s1 40 ∧ eX3_begin b d Q 64 [.ref 20, .int v1, .int v2, .int v3, .int v4, .int v5, .int v6] [] (zput σ 27 s1.toNatClampNeg s0)) := q_iast (zCall_mono (zUn b) d) (by decide +kernel : decode cX3_begin 63 = .ok (.iastore, 1)) (u_27 b)
theorem eX3_begin_64 {b : Bool} {d : Nat} {Q : zQ} {σ : zV} {v1 : Int32} {v2 : Int32} {v3 : Int32} {v4 : Int32} {v5 : Int32} {v6 : Int32} : eX3_begin b d Q 64 [.ref 20, .int v1, .int v2, .int v3, .int v4, .int v5, .int v6] [] σ = eX3_begin b d Q 65 [.ref 20, .int v1, .int v2, .int v3, .int v4, .int v5, .int v6] [.ref 20] σ := q_aload_n (zCall_mono (zUn b) d) (by decide +kernel : decode cX3_begin 64 = .ok (.aload_n 0, 1)) rfl
theorem eX3_begin_65 {b : Bool} {d : Nat} {Q : zQ} {σ : zV} {v1 : Int32} {v2 : Int32} {v3 : Int32} {v4 : Int32} {v5 : Int32} {v6 : Int32} : eX3_begin b d Q 65 [.ref 20, .int v1, .int v2, .int v3, .int v4, .int v5, .int v6] [.ref 20] σ = eX3_begin b d Q 66 [.ref 20, .int v1, .int v2, .int v3, .int v4, .int v5, .int v6] [.ref 20, .ref 20] σ := q_dup (zCall_mono (zUn b) d) (by decide +kernel : decode cX3_begin 65 = .ok (.dup, 1)) rfl
theorem eX3_begin_66 {b : Bool} {d : Nat} {Q : zQ} {σ : zV} {v1 : Int32} {v2 : Int32} {v3 : Int32} {v4 : Int32} {v5 : Int32} {v6 : Int32} : eX3_begin b d Q 66 [.ref 20, .int v1, .int v2, .int v3, .int v4, .int v5, .int v6] [.ref 20, .ref 20] σ = eX3_begin b d Q 69 [.ref 20, .int v1, .int v2, .int v3, .int v4, .int v5, .int v6] [.int (σ 20 0), .ref 20] σ := q_getI (zCall_mono (zUn b) d) (by decide +kernel : decode cX3_begin 66 = .ok (.getfield 33, 3)) zf_RX3_33 (u_20 b) rfl
theorem eX3_begin_69 {b : Bool} {d : Nat} {Q : zQ} {σ : zV} {v1 : Int32} {v2 : Int32} {v3 : Int32} {v4 : Int32} {v5 : Int32} {v6 : Int32} {s0 : Int32} : eX3_begin b d Q 69 [.ref 20, .int v1, .int v2, .int v3, .int v4, .int v5, .int v6] [.int s0, .ref 20] σ = eX3_begin b d Q 70 [.ref 20, .int v1, .int v2, .int v3, .int v4, .int v5, .int v6] [.int 1, .int s0, .ref 20] σ := q_iconst (zCall_mono (zUn b) d) (by decide +kernel : decode cX3_begin 69 = .ok (.iconst 1, 1)) (by decide +kernel)
theorem eX3_begin_70 {b : Bool} {d : Nat} {Q : zQ} {σ : zV} {v1 : Int32} {v2 : Int32} {v3 : Int32} {v4 : Int32} {v5 : Int32} {v6 : Int32} {s0 : Int32} {s1 : Int32} : eX3_begin b d Q 70 [.ref 20, .int v1, .int v2, .int v3, .int v4, .int v5, .int v6] [.int s0, .int s1, .ref 20] σ = eX3_begin b d Q 71 [.ref 20, .int v1, .int v2, .int v3, .int v4, .int v5, .int v6] [.int (s1 + s0), .ref 20] σ := q_iadd (zCall_mono (zUn b) d) (by decide +kernel : decode cX3_begin 70 = .ok (.iadd, 1))
theorem eX3_begin_71 {b : Bool} {d : Nat} {Q : zQ} {σ : zV} {v1 : Int32} {v2 : Int32} {v3 : Int32} {v4 : Int32} {v5 : Int32} {v6 : Int32} {s0 : Int32} : eX3_begin b d Q 71 [.ref 20, .int v1, .int v2, .int v3, .int v4, .int v5, .int v6] [.int s0, .ref 20] σ = eX3_begin b d Q 74 [.ref 20, .int v1, .int v2, .int v3, .int v4, .int v5, .int v6] [] (zput σ 20 0 s0) := q_put (zCall_mono (zUn b) d) (by decide +kernel : decode cX3_begin 71 = .ok (.putfield 33, 3)) zf_RX3_33 (u_20 b) rfl
theorem eX3_begin_74 {b : Bool} {d : Nat} {Q : zQ} {σ : zV} {v1 : Int32} {v2 : Int32} {v3 : Int32} {v4 : Int32} {v5 : Int32} {v6 : Int32} : eX3_begin b d Q 74 [.ref 20, .int v1, .int v2, .int v3, .int v4, .int v5, .int v6] [] σ = eX3_begin b d Q 76 [.ref 20, .int v1, .int v2, .int v3, .int v4, .int v5, .int v6] [.int v6] σ := q_iload (zCall_mono (zUn b) d) (by decide +kernel : decode cX3_begin 74 = .ok (.iload 6, 2)) rfl
theorem eX3_begin_76 {b : Bool} {d : Nat} {Q : zQ} {σ : zV} {v1 : Int32} {v2 : Int32} {v3 : Int32} {v4 : Int32} {v5 : Int32} {v6 : Int32} {s0 : Int32} : eX3_begin b d Q 76 [.ref 20, .int v1, .int v2, .int v3, .int v4, .int v5, .int v6] [.int s0] σ = Q (some (.int s0)) σ := q_iret (zCall_mono (zUn b) d) (by decide +kernel : decode cX3_begin 76 = .ok (.ireturn, 1)) rfl
theorem nX3_begin {b : Bool} {d : Nat} {Q : zQ} {σ : zV} {v1 : Int32} {v2 : Int32} {v3 : Int32} {v4 : Int32} {v5 : Int32} : zCall (zUn b) (d + 1) yX3_begin [.ref 20, .int v1, .int v2, .int v3, .int v4, .int v5] σ Q = eX3_begin b d Q 0 [.ref 20, .int v1, .int v2, .int v3, .int v4, .int v5, .null] [] σ := (q_call kX3_begin (Nat.le_of_ble_eq_true rfl)).trans rfl
def eX3_howManyDone (b : Bool) (d : Nat) (Q : zQ) : zP := zEv (zUn b) (zCall (zUn b) d) RX3 cX3_howManyDone 3 (some .int) none Q
theorem eX3_howManyDone_0 {b : Bool} {d : Nat} {Q : zQ} {σ : zV}  : eX3_howManyDone b d Q 0 [.ref 20, .null, .null] [] σ = eX3_howManyDone b d Q 1 [.ref 20, .null, .null] [.int 0] σ := q_iconst (zCall_mono (zUn b) d) (by decide +kernel : decode cX3_howManyDone 0 = .ok (.iconst 0, 1)) (by decide +kernel)
theorem eX3_howManyDone_1 {b : Bool} {d : Nat} {Q : zQ} {σ : zV} {s0 : Int32} : eX3_howManyDone b d Q 1 [.ref 20, .null, .null] [.int s0] σ = eX3_howManyDone b d Q 2 [.ref 20, .int s0, .null] [] σ := q_istore_n (zCall_mono (zUn b) d) (by decide +kernel : decode cX3_howManyDone 1 = .ok (.istore_n 1, 1)) (Nat.le_of_ble_eq_true rfl) (fun v h => by cases h; rfl) rfl
theorem eX3_howManyDone_2 {b : Bool} {d : Nat} {Q : zQ} {σ : zV} {v1 : Int32} : eX3_howManyDone b d Q 2 [.ref 20, .int v1, .null] [] σ = eX3_howManyDone b d Q 3 [.ref 20, .int v1, .null] [.int 0] σ := q_iconst (zCall_mono (zUn b) d) (by decide +kernel : decode cX3_howManyDone 2 = .ok (.iconst 0, 1)) (by decide +kernel)
theorem eX3_howManyDone_3 {b : Bool} {d : Nat} {Q : zQ} {σ : zV} {v1 : Int32} {s0 : Int32} : eX3_howManyDone b d Q 3 [.ref 20, .int v1, .null] [.int s0] σ = eX3_howManyDone b d Q 4 [.ref 20, .int v1, .int s0] [] σ := q_istore_n (zCall_mono (zUn b) d) (by decide +kernel : decode cX3_howManyDone 3 = .ok (.istore_n 2, 1)) (Nat.le_of_ble_eq_true rfl) (fun v h => by cases h; rfl) rfl
theorem eX3_howManyDone_4 {b : Bool} {d : Nat} {Q : zQ} {σ : zV} {v1 : Int32} {v2 : Int32} : eX3_howManyDone b d Q 4 [.ref 20, .int v1, .int v2] [] σ = eX3_howManyDone b d Q 5 [.ref 20, .int v1, .int v2] [.int v2] σ := q_iload_n (zCall_mono (zUn b) d) (by decide +kernel : decode cX3_howManyDone 4 = .ok (.iload_n 2, 1)) rfl
theorem eX3_howManyDone_5 {b : Bool} {d : Nat} {Q : zQ} {σ : zV} {v1 : Int32} {v2 : Int32} {s0 : Int32} : eX3_howManyDone b d Q 5 [.ref 20, .int v1, .int v2] [.int s0] σ = eX3_howManyDone b d Q 6 [.ref 20, .int v1, .int v2] [.ref 20, .int s0] σ := q_aload_n (zCall_mono (zUn b) d) (by decide +kernel : decode cX3_howManyDone 5 = .ok (.aload_n 0, 1)) rfl
theorem eX3_howManyDone_6 {b : Bool} {d : Nat} {Q : zQ} {σ : zV} {v1 : Int32} {v2 : Int32} {s1 : Int32} : eX3_howManyDone b d Q 6 [.ref 20, .int v1, .int v2] [.ref 20, .int s1] σ = eX3_howManyDone b d Q 9 [.ref 20, .int v1, .int v2] [.int (σ 20 0), .int s1] σ := q_getI (zCall_mono (zUn b) d) (by decide +kernel : decode cX3_howManyDone 6 = .ok (.getfield 33, 3)) zf_RX3_33 (u_20 b) rfl
theorem eX3_howManyDone_9 {b : Bool} {d : Nat} {Q : zQ} {σ : zV} {v1 : Int32} {v2 : Int32} {s0 : Int32} {s1 : Int32} : eX3_howManyDone b d Q 9 [.ref 20, .int v1, .int v2] [.int s0, .int s1] σ = ((s0 ≤ s1 → eX3_howManyDone b d Q 29 [.ref 20, .int v1, .int v2] [] σ) ∧ (¬ s0 ≤ s1 → eX3_howManyDone b d Q 12 [.ref 20, .int v1, .int v2] [] σ)) := q_icmp (zCall_mono (zUn b) d) (by decide +kernel : decode cX3_howManyDone 9 = .ok (.if_icmp .ge 20, 3)) (by decide)
theorem eX3_howManyDone_12 {b : Bool} {d : Nat} {Q : zQ} {σ : zV} {v1 : Int32} {v2 : Int32} : eX3_howManyDone b d Q 12 [.ref 20, .int v1, .int v2] [] σ = eX3_howManyDone b d Q 13 [.ref 20, .int v1, .int v2] [.ref 20] σ := q_aload_n (zCall_mono (zUn b) d) (by decide +kernel : decode cX3_howManyDone 12 = .ok (.aload_n 0, 1)) rfl
theorem eX3_howManyDone_13 {b : Bool} {d : Nat} {Q : zQ} {σ : zV} {v1 : Int32} {v2 : Int32} : eX3_howManyDone b d Q 13 [.ref 20, .int v1, .int v2] [.ref 20] σ = eX3_howManyDone b d Q 14 [.ref 20, .int v1, .int v2] [.int v2, .ref 20] σ := q_iload_n (zCall_mono (zUn b) d) (by decide +kernel : decode cX3_howManyDone 13 = .ok (.iload_n 2, 1)) rfl
theorem eX3_howManyDone_14 {b : Bool} {d : Nat} {Q : zQ} {σ : zV} {v1 : Int32} {v2 : Int32} {s0 : Int32} : eX3_howManyDone b d Q 14 [.ref 20, .int v1, .int v2] [.int s0, .ref 20] σ = zCall (zUn b) d yX3_isDone [.ref 20, .int s0] σ (fun v σ' => eX3_howManyDone b d Q 17 [.ref 20, .int v1, .int v2] (v.toList ++ []) σ') := q_inv (As := [.int s0]) (r := []) (zCall_mono (zUn b) d) (by decide +kernel : decode cX3_howManyDone 14 = .ok (.invokevirtual 37, 3)) zm_RX3_37 (Nat.le_of_ble_eq_true rfl) (u_20 b) zn_3 (Nat.le_of_ble_eq_true rfl) rfl
theorem eX3_howManyDone_17 {b : Bool} {d : Nat} {Q : zQ} {σ : zV} {v1 : Int32} {v2 : Int32} {s0 : Int32} : eX3_howManyDone b d Q 17 [.ref 20, .int v1, .int v2] [.int s0] σ = ((s0 = 0 → eX3_howManyDone b d Q 23 [.ref 20, .int v1, .int v2] [] σ) ∧ (¬ s0 = 0 → eX3_howManyDone b d Q 20 [.ref 20, .int v1, .int v2] [] σ)) := q_if (zCall_mono (zUn b) d) (by decide +kernel : decode cX3_howManyDone 17 = .ok (.ifCond .eq 6, 3)) (by decide)
theorem eX3_howManyDone_20 {b : Bool} {d : Nat} {Q : zQ} {σ : zV} {v1 : Int32} {v2 : Int32} : eX3_howManyDone b d Q 20 [.ref 20, .int v1, .int v2] [] σ = eX3_howManyDone b d Q 23 [.ref 20, .int (v1 + 1), .int v2] [] σ := q_iinc (zCall_mono (zUn b) d) (by decide +kernel : decode cX3_howManyDone 20 = .ok (.iinc 1 1, 3)) rfl (Nat.le_of_ble_eq_true rfl) (fun v h => by cases h; rfl) (by decide +kernel) rfl
theorem eX3_howManyDone_23 {b : Bool} {d : Nat} {Q : zQ} {σ : zV} {v1 : Int32} {v2 : Int32} : eX3_howManyDone b d Q 23 [.ref 20, .int v1, .int v2] [] σ = eX3_howManyDone b d Q 26 [.ref 20, .int v1, .int (v2 + 1)] [] σ := q_iinc (zCall_mono (zUn b) d) (by decide +kernel : decode cX3_howManyDone 23 = .ok (.iinc 2 1, 3)) rfl (Nat.le_of_ble_eq_true rfl) (fun v h => by cases h; rfl) (by decide +kernel) rfl
theorem eX3_howManyDone_26 {b : Bool} {d : Nat} {Q : zQ} {σ : zV} {v1 : Int32} {v2 : Int32} : eX3_howManyDone b d Q 26 [.ref 20, .int v1, .int v2] [] σ = eX3_howManyDone b d Q 4 [.ref 20, .int v1, .int v2] [] σ := q_goto (zCall_mono (zUn b) d) (by decide +kernel : decode cX3_howManyDone 26 = .ok (.goto (-22), 3)) (by decide)
theorem eX3_howManyDone_29 {b : Bool} {d : Nat} {Q : zQ} {σ : zV} {v1 : Int32} {v2 : Int32} : eX3_howManyDone b d Q 29 [.ref 20, .int v1, .int v2] [] σ = eX3_howManyDone b d Q 30 [.ref 20, .int v1, .int v2] [.int v1] σ := q_iload_n (zCall_mono (zUn b) d) (by decide +kernel : decode cX3_howManyDone 29 = .ok (.iload_n 1, 1)) rfl
theorem eX3_howManyDone_30 {b : Bool} {d : Nat} {Q : zQ} {σ : zV} {v1 : Int32} {v2 : Int32} {s0 : Int32} : eX3_howManyDone b d Q 30 [.ref 20, .int v1, .int v2] [.int s0] σ = Q (some (.int s0)) σ := q_iret (zCall_mono (zUn b) d) (by decide +kernel : decode cX3_howManyDone 30 = .ok (.ireturn, 1)) rfl
theorem nX3_howManyDone {b : Bool} {d : Nat} {Q : zQ} {σ : zV}  : zCall (zUn b) (d + 1) yX3_howManyDone [.ref 20] σ Q = eX3_howManyDone b d Q 0 [.ref 20, .null, .null] [] σ := (q_call kX3_howManyDone (Nat.le_of_ble_eq_true rfl)).trans rfl
def eX3_isBegun (b : Bool) (d : Nat) (Q : zQ) : zP := zEv (zUn b) (zCall (zUn b) d) RX3 cX3_isBegun 2 (some .boolean) none Q
theorem eX3_isBegun_0 {b : Bool} {d : Nat} {Q : zQ} {σ : zV} {v1 : Int32} : eX3_isBegun b d Q 0 [.ref 20, .int v1] [] σ = eX3_isBegun b d Q 1 [.ref 20, .int v1] [.int v1] σ := q_iload_n (zCall_mono (zUn b) d) (by decide +kernel : decode cX3_isBegun 0 = .ok (.iload_n 1, 1)) rfl
theorem eX3_isBegun_1 {b : Bool} {d : Nat} {Q : zQ} {σ : zV} {v1 : Int32} {s0 : Int32} : eX3_isBegun b d Q 1 [.ref 20, .int v1] [.int s0] σ = ((s0 < 0 → eX3_isBegun b d Q 16 [.ref 20, .int v1] [] σ) ∧ (¬ s0 < 0 → eX3_isBegun b d Q 4 [.ref 20, .int v1] [] σ)) := q_if (zCall_mono (zUn b) d) (by decide +kernel : decode cX3_isBegun 1 = .ok (.ifCond .lt 15, 3)) (by decide)
theorem eX3_isBegun_4 {b : Bool} {d : Nat} {Q : zQ} {σ : zV} {v1 : Int32} : eX3_isBegun b d Q 4 [.ref 20, .int v1] [] σ = eX3_isBegun b d Q 5 [.ref 20, .int v1] [.int v1] σ := q_iload_n (zCall_mono (zUn b) d) (by decide +kernel : decode cX3_isBegun 4 = .ok (.iload_n 1, 1)) rfl
theorem eX3_isBegun_5 {b : Bool} {d : Nat} {Q : zQ} {σ : zV} {v1 : Int32} {s0 : Int32} : eX3_isBegun b d Q 5 [.ref 20, .int v1] [.int s0] σ = eX3_isBegun b d Q 6 [.ref 20, .int v1] [.ref 20, .int s0] σ := q_aload_n (zCall_mono (zUn b) d) (by decide +kernel : decode cX3_isBegun 5 = .ok (.aload_n 0, 1)) rfl
theorem eX3_isBegun_6 {b : Bool} {d : Nat} {Q : zQ} {σ : zV} {v1 : Int32} {s1 : Int32} : eX3_isBegun b d Q 6 [.ref 20, .int v1] [.ref 20, .int s1] σ = eX3_isBegun b d Q 9 [.ref 20, .int v1] [.int (σ 20 0), .int s1] σ := q_getI (zCall_mono (zUn b) d) (by decide +kernel : decode cX3_isBegun 6 = .ok (.getfield 33, 3)) zf_RX3_33 (u_20 b) rfl
theorem eX3_isBegun_9 {b : Bool} {d : Nat} {Q : zQ} {σ : zV} {v1 : Int32} {s0 : Int32} {s1 : Int32} : eX3_isBegun b d Q 9 [.ref 20, .int v1] [.int s0, .int s1] σ = ((s0 ≤ s1 → eX3_isBegun b d Q 16 [.ref 20, .int v1] [] σ) ∧ (¬ s0 ≤ s1 → eX3_isBegun b d Q 12 [.ref 20, .int v1] [] σ)) := q_icmp (zCall_mono (zUn b) d) (by decide +kernel : decode cX3_isBegun 9 = .ok (.if_icmp .ge 7, 3)) (by decide)
theorem eX3_isBegun_12 {b : Bool} {d : Nat} {Q : zQ} {σ : zV} {v1 : Int32} : eX3_isBegun b d Q 12 [.ref 20, .int v1] [] σ = eX3_isBegun b d Q 13 [.ref 20, .int v1] [.int 1] σ := q_iconst (zCall_mono (zUn b) d) (by decide +kernel : decode cX3_isBegun 12 = .ok (.iconst 1, 1)) (by decide +kernel)
theorem eX3_isBegun_13 {b : Bool} {d : Nat} {Q : zQ} {σ : zV} {v1 : Int32} {s0 : Int32} : eX3_isBegun b d Q 13 [.ref 20, .int v1] [.int s0] σ = eX3_isBegun b d Q 17 [.ref 20, .int v1] [.int s0] σ := q_goto (zCall_mono (zUn b) d) (by decide +kernel : decode cX3_isBegun 13 = .ok (.goto 4, 3)) (by decide)
theorem eX3_isBegun_16 {b : Bool} {d : Nat} {Q : zQ} {σ : zV} {v1 : Int32} : eX3_isBegun b d Q 16 [.ref 20, .int v1] [] σ = eX3_isBegun b d Q 17 [.ref 20, .int v1] [.int 0] σ := q_iconst (zCall_mono (zUn b) d) (by decide +kernel : decode cX3_isBegun 16 = .ok (.iconst 0, 1)) (by decide +kernel)
theorem eX3_isBegun_17 {b : Bool} {d : Nat} {Q : zQ} {σ : zV} {v1 : Int32} {s0 : Int32} : eX3_isBegun b d Q 17 [.ref 20, .int v1] [.int s0] σ = (narrow .boolean (.int s0) = .int s0 ∧ Q (some (.int s0)) σ) := q_zret (zCall_mono (zUn b) d) (by decide +kernel : decode cX3_isBegun 17 = .ok (.ireturn, 1)) rfl
theorem nX3_isBegun {b : Bool} {d : Nat} {Q : zQ} {σ : zV} {v1 : Int32} : zCall (zUn b) (d + 1) yX3_isBegun [.ref 20, .int v1] σ Q = eX3_isBegun b d Q 0 [.ref 20, .int v1] [] σ := (q_call kX3_isBegun (Nat.le_of_ble_eq_true rfl)).trans rfl
def eX3_isDone (b : Bool) (d : Nat) (Q : zQ) : zP := zEv (zUn b) (zCall (zUn b) d) RX3 cX3_isDone 2 (some .boolean) none Q
theorem eX3_isDone_0 {b : Bool} {d : Nat} {Q : zQ} {σ : zV} {v1 : Int32} : eX3_isDone b d Q 0 [.ref 20, .int v1] [] σ = eX3_isDone b d Q 1 [.ref 20, .int v1] [.ref 20] σ := q_aload_n (zCall_mono (zUn b) d) (by decide +kernel : decode cX3_isDone 0 = .ok (.aload_n 0, 1)) rfl
theorem eX3_isDone_1 {b : Bool} {d : Nat} {Q : zQ} {σ : zV} {v1 : Int32} : eX3_isDone b d Q 1 [.ref 20, .int v1] [.ref 20] σ = eX3_isDone b d Q 4 [.ref 20, .int v1] [.ref 27] σ := q_getR (zCall_mono (zUn b) d) (by decide +kernel : decode cX3_isDone 1 = .ok (.getfield 30, 3)) zf_RX3_30 (u_20 b) rfl
theorem eX3_isDone_4 {b : Bool} {d : Nat} {Q : zQ} {σ : zV} {v1 : Int32} : eX3_isDone b d Q 4 [.ref 20, .int v1] [.ref 27] σ = eX3_isDone b d Q 5 [.ref 20, .int v1] [.int v1, .ref 27] σ := q_iload_n (zCall_mono (zUn b) d) (by decide +kernel : decode cX3_isDone 4 = .ok (.iload_n 1, 1)) rfl
theorem eX3_isDone_5 {b : Bool} {d : Nat} {Q : zQ} {σ : zV} {v1 : Int32} {s0 : Int32} : eX3_isDone b d Q 5 [.ref 20, .int v1] [.int s0, .ref 27] σ = (vp_in s0 40 ∧ eX3_isDone b d Q 6 [.ref 20, .int v1] [.int (σ 27 s0.toNatClampNeg)] σ) := q_iald (zCall_mono (zUn b) d) (by decide +kernel : decode cX3_isDone 5 = .ok (.iaload, 1)) (u_27 b)
theorem eX3_isDone_6 {b : Bool} {d : Nat} {Q : zQ} {σ : zV} {v1 : Int32} {s0 : Int32} : eX3_isDone b d Q 6 [.ref 20, .int v1] [.int s0] σ = ((¬ s0 = 0 → eX3_isDone b d Q 13 [.ref 20, .int v1] [] σ) ∧ (s0 = 0 → eX3_isDone b d Q 9 [.ref 20, .int v1] [] σ)) := (q_if (zCall_mono (zUn b) d) (by decide +kernel : decode cX3_isDone 6 = .ok (.ifCond .ne 7, 3)) (by decide)).trans z_ne
theorem eX3_isDone_9 {b : Bool} {d : Nat} {Q : zQ} {σ : zV} {v1 : Int32} : eX3_isDone b d Q 9 [.ref 20, .int v1] [] σ = eX3_isDone b d Q 10 [.ref 20, .int v1] [.int 1] σ := q_iconst (zCall_mono (zUn b) d) (by decide +kernel : decode cX3_isDone 9 = .ok (.iconst 1, 1)) (by decide +kernel)
theorem eX3_isDone_10 {b : Bool} {d : Nat} {Q : zQ} {σ : zV} {v1 : Int32} {s0 : Int32} : eX3_isDone b d Q 10 [.ref 20, .int v1] [.int s0] σ = eX3_isDone b d Q 14 [.ref 20, .int v1] [.int s0] σ := q_goto (zCall_mono (zUn b) d) (by decide +kernel : decode cX3_isDone 10 = .ok (.goto 4, 3)) (by decide)
theorem eX3_isDone_13 {b : Bool} {d : Nat} {Q : zQ} {σ : zV} {v1 : Int32} : eX3_isDone b d Q 13 [.ref 20, .int v1] [] σ = eX3_isDone b d Q 14 [.ref 20, .int v1] [.int 0] σ := q_iconst (zCall_mono (zUn b) d) (by decide +kernel : decode cX3_isDone 13 = .ok (.iconst 0, 1)) (by decide +kernel)
theorem eX3_isDone_14 {b : Bool} {d : Nat} {Q : zQ} {σ : zV} {v1 : Int32} {s0 : Int32} : eX3_isDone b d Q 14 [.ref 20, .int v1] [.int s0] σ = (narrow .boolean (.int s0) = .int s0 ∧ Q (some (.int s0)) σ) := q_zret (zCall_mono (zUn b) d) (by decide +kernel : decode cX3_isDone 14 = .ok (.ireturn, 1)) rfl
theorem nX3_isDone {b : Bool} {d : Nat} {Q : zQ} {σ : zV} {v1 : Int32} : zCall (zUn b) (d + 1) yX3_isDone [.ref 20, .int v1] σ Q = eX3_isDone b d Q 0 [.ref 20, .int v1] [] σ := (q_call kX3_isDone (Nat.le_of_ble_eq_true rfl)).trans rfl
def eX3_isFull (b : Bool) (d : Nat) (Q : zQ) : zP := zEv (zUn b) (zCall (zUn b) d) RX3 cX3_isFull 1 (some .boolean) none Q
theorem eX3_isFull_0 {b : Bool} {d : Nat} {Q : zQ} {σ : zV}  : eX3_isFull b d Q 0 [.ref 20] [] σ = eX3_isFull b d Q 1 [.ref 20] [.ref 20] σ := q_aload_n (zCall_mono (zUn b) d) (by decide +kernel : decode cX3_isFull 0 = .ok (.aload_n 0, 1)) rfl
theorem eX3_isFull_1 {b : Bool} {d : Nat} {Q : zQ} {σ : zV}  : eX3_isFull b d Q 1 [.ref 20] [.ref 20] σ = eX3_isFull b d Q 4 [.ref 20] [.int (σ 20 0)] σ := q_getI (zCall_mono (zUn b) d) (by decide +kernel : decode cX3_isFull 1 = .ok (.getfield 33, 3)) zf_RX3_33 (u_20 b) rfl
theorem eX3_isFull_4 {b : Bool} {d : Nat} {Q : zQ} {σ : zV} {s0 : Int32} : eX3_isFull b d Q 4 [.ref 20] [.int s0] σ = eX3_isFull b d Q 6 [.ref 20] [.int 40, .int s0] σ := q_bipush (zCall_mono (zUn b) d) (by decide +kernel : decode cX3_isFull 4 = .ok (.bipush 40, 2)) (by decide +kernel)
theorem eX3_isFull_6 {b : Bool} {d : Nat} {Q : zQ} {σ : zV} {s0 : Int32} {s1 : Int32} : eX3_isFull b d Q 6 [.ref 20] [.int s0, .int s1] σ = ((s1 < s0 → eX3_isFull b d Q 13 [.ref 20] [] σ) ∧ (¬ s1 < s0 → eX3_isFull b d Q 9 [.ref 20] [] σ)) := q_icmp (zCall_mono (zUn b) d) (by decide +kernel : decode cX3_isFull 6 = .ok (.if_icmp .lt 7, 3)) (by decide)
theorem eX3_isFull_9 {b : Bool} {d : Nat} {Q : zQ} {σ : zV}  : eX3_isFull b d Q 9 [.ref 20] [] σ = eX3_isFull b d Q 10 [.ref 20] [.int 1] σ := q_iconst (zCall_mono (zUn b) d) (by decide +kernel : decode cX3_isFull 9 = .ok (.iconst 1, 1)) (by decide +kernel)
theorem eX3_isFull_10 {b : Bool} {d : Nat} {Q : zQ} {σ : zV} {s0 : Int32} : eX3_isFull b d Q 10 [.ref 20] [.int s0] σ = eX3_isFull b d Q 14 [.ref 20] [.int s0] σ := q_goto (zCall_mono (zUn b) d) (by decide +kernel : decode cX3_isFull 10 = .ok (.goto 4, 3)) (by decide)
theorem eX3_isFull_13 {b : Bool} {d : Nat} {Q : zQ} {σ : zV}  : eX3_isFull b d Q 13 [.ref 20] [] σ = eX3_isFull b d Q 14 [.ref 20] [.int 0] σ := q_iconst (zCall_mono (zUn b) d) (by decide +kernel : decode cX3_isFull 13 = .ok (.iconst 0, 1)) (by decide +kernel)
theorem eX3_isFull_14 {b : Bool} {d : Nat} {Q : zQ} {σ : zV} {s0 : Int32} : eX3_isFull b d Q 14 [.ref 20] [.int s0] σ = (narrow .boolean (.int s0) = .int s0 ∧ Q (some (.int s0)) σ) := q_zret (zCall_mono (zUn b) d) (by decide +kernel : decode cX3_isFull 14 = .ok (.ireturn, 1)) rfl
theorem nX3_isFull {b : Bool} {d : Nat} {Q : zQ} {σ : zV}  : zCall (zUn b) (d + 1) yX3_isFull [.ref 20] σ Q = eX3_isFull b d Q 0 [.ref 20] [] σ := (q_call kX3_isFull (Nat.le_of_ble_eq_true rfl)).trans rfl
def eX3_startAgain (b : Bool) (d : Nat) (Q : zQ) : zP := zEv (zUn b) (zCall (zUn b) d) RX3 cX3_startAgain 1 none none Q
theorem eX3_startAgain_0 {b : Bool} {d : Nat} {Q : zQ} {σ : zV}  : eX3_startAgain b d Q 0 [.ref 20] [] σ = eX3_startAgain b d Q 1 [.ref 20] [.ref 20] σ := q_aload_n (zCall_mono (zUn b) d) (by decide +kernel : decode cX3_startAgain 0 = .ok (.aload_n 0, 1)) rfl
theorem eX3_startAgain_1 {b : Bool} {d : Nat} {Q : zQ} {σ : zV}  : eX3_startAgain b d Q 1 [.ref 20] [.ref 20] σ = eX3_startAgain b d Q 2 [.ref 20] [.int 0, .ref 20] σ := q_iconst (zCall_mono (zUn b) d) (by decide +kernel : decode cX3_startAgain 1 = .ok (.iconst 0, 1)) (by decide +kernel)
theorem eX3_startAgain_2 {b : Bool} {d : Nat} {Q : zQ} {σ : zV} {s0 : Int32} : eX3_startAgain b d Q 2 [.ref 20] [.int s0, .ref 20] σ = eX3_startAgain b d Q 5 [.ref 20] [] (zput σ 20 0 s0) := q_put (zCall_mono (zUn b) d) (by decide +kernel : decode cX3_startAgain 2 = .ok (.putfield 33, 3)) zf_RX3_33 (u_20 b) rfl
theorem eX3_startAgain_5 {b : Bool} {d : Nat} {Q : zQ} {σ : zV}  : eX3_startAgain b d Q 5 [.ref 20] [] σ = Q none σ := q_vret (zCall_mono (zUn b) d) (by decide +kernel : decode cX3_startAgain 5 = .ok (.return_, 1)) rfl
theorem nX3_startAgain {b : Bool} {d : Nat} {Q : zQ} {σ : zV}  : zCall (zUn b) (d + 1) yX3_startAgain [.ref 20] σ Q = eX3_startAgain b d Q 0 [.ref 20] [] σ := (q_call kX3_startAgain (Nat.le_of_ble_eq_true rfl)).trans rfl
def eX3_waitFor (b : Bool) (d : Nat) (Q : zQ) : zP := zEv (zUn b) (zCall (zUn b) d) RX3 cX3_waitFor 3 none none Q
theorem eX3_waitFor_0 {b : Bool} {d : Nat} {Q : zQ} {σ : zV} {v1 : Int32} {v2 : Int32} : eX3_waitFor b d Q 0 [.ref 20, .int v1, .int v2] [] σ = eX3_waitFor b d Q 1 [.ref 20, .int v1, .int v2] [.ref 20] σ := q_aload_n (zCall_mono (zUn b) d) (by decide +kernel : decode cX3_waitFor 0 = .ok (.aload_n 0, 1)) rfl
theorem eX3_waitFor_1 {b : Bool} {d : Nat} {Q : zQ} {σ : zV} {v1 : Int32} {v2 : Int32} : eX3_waitFor b d Q 1 [.ref 20, .int v1, .int v2] [.ref 20] σ = eX3_waitFor b d Q 4 [.ref 20, .int v1, .int v2] [.ref 27] σ := q_getR (zCall_mono (zUn b) d) (by decide +kernel : decode cX3_waitFor 1 = .ok (.getfield 30, 3)) zf_RX3_30 (u_20 b) rfl
theorem eX3_waitFor_4 {b : Bool} {d : Nat} {Q : zQ} {σ : zV} {v1 : Int32} {v2 : Int32} : eX3_waitFor b d Q 4 [.ref 20, .int v1, .int v2] [.ref 27] σ = eX3_waitFor b d Q 5 [.ref 20, .int v1, .int v2] [.int v1, .ref 27] σ := q_iload_n (zCall_mono (zUn b) d) (by decide +kernel : decode cX3_waitFor 4 = .ok (.iload_n 1, 1)) rfl
theorem eX3_waitFor_5 {b : Bool} {d : Nat} {Q : zQ} {σ : zV} {v1 : Int32} {v2 : Int32} {s0 : Int32} : eX3_waitFor b d Q 5 [.ref 20, .int v1, .int v2] [.int s0, .ref 27] σ = eX3_waitFor b d Q 6 [.ref 20, .int v1, .int v2] [.int s0, .ref 27, .int s0, .ref 27] σ := q_dup2 (zCall_mono (zUn b) d) (by decide +kernel : decode cX3_waitFor 5 = .ok (.dup2, 1)) rfl rfl
theorem eX3_waitFor_6 {b : Bool} {d : Nat} {Q : zQ} {σ : zV} {v1 : Int32} {v2 : Int32} {s0 : Int32} {s2 : Int32} : eX3_waitFor b d Q 6 [.ref 20, .int v1, .int v2] [.int s0, .ref 27, .int s2, .ref 27] σ = (vp_in s0 40 ∧ eX3_waitFor b d Q 7 [.ref 20, .int v1, .int v2] [.int (σ 27 s0.toNatClampNeg), .int s2, .ref 27] σ) := q_iald (zCall_mono (zUn b) d) (by decide +kernel : decode cX3_waitFor 6 = .ok (.iaload, 1)) (u_27 b)
theorem eX3_waitFor_7 {b : Bool} {d : Nat} {Q : zQ} {σ : zV} {v1 : Int32} {v2 : Int32} {s0 : Int32} {s1 : Int32} : eX3_waitFor b d Q 7 [.ref 20, .int v1, .int v2] [.int s0, .int s1, .ref 27] σ = eX3_waitFor b d Q 8 [.ref 20, .int v1, .int v2] [.int 1, .int s0, .int s1, .ref 27] σ := q_iconst (zCall_mono (zUn b) d) (by decide +kernel : decode cX3_waitFor 7 = .ok (.iconst 1, 1)) (by decide +kernel)
theorem eX3_waitFor_8 {b : Bool} {d : Nat} {Q : zQ} {σ : zV} {v1 : Int32} {v2 : Int32} {s0 : Int32} {s1 : Int32} {s2 : Int32} : eX3_waitFor b d Q 8 [.ref 20, .int v1, .int v2] [.int s0, .int s1, .int s2, .ref 27] σ = eX3_waitFor b d Q 9 [.ref 20, .int v1, .int v2] [.int v2, .int s0, .int s1, .int s2, .ref 27] σ := q_iload_n (zCall_mono (zUn b) d) (by decide +kernel : decode cX3_waitFor 8 = .ok (.iload_n 2, 1)) rfl
theorem eX3_waitFor_9 {b : Bool} {d : Nat} {Q : zQ} {σ : zV} {v1 : Int32} {v2 : Int32} {s0 : Int32} {s1 : Int32} {s2 : Int32} {s3 : Int32} : eX3_waitFor b d Q 9 [.ref 20, .int v1, .int v2] [.int s0, .int s1, .int s2, .int s3, .ref 27] σ = eX3_waitFor b d Q 10 [.ref 20, .int v1, .int v2] [.int (s1 <<< (s0 &&& 31)), .int s2, .int s3, .ref 27] σ := q_ishl (zCall_mono (zUn b) d) (by decide +kernel : decode cX3_waitFor 9 = .ok (.ishl, 1))
theorem eX3_waitFor_10 {b : Bool} {d : Nat} {Q : zQ} {σ : zV} {v1 : Int32} {v2 : Int32} {s0 : Int32} {s1 : Int32} {s2 : Int32} : eX3_waitFor b d Q 10 [.ref 20, .int v1, .int v2] [.int s0, .int s1, .int s2, .ref 27] σ = eX3_waitFor b d Q 11 [.ref 20, .int v1, .int v2] [.int (s1 ||| s0), .int s2, .ref 27] σ := q_ior (zCall_mono (zUn b) d) (by decide +kernel : decode cX3_waitFor 10 = .ok (.ior, 1))
theorem eX3_waitFor_11 {b : Bool} {d : Nat} {Q : zQ} {σ : zV} {v1 : Int32} {v2 : Int32} {s0 : Int32} {s1 : Int32} : eX3_waitFor b d Q 11 [.ref 20, .int v1, .int v2] [.int s0, .int s1, .ref 27] σ = (vp_in s1 40 ∧ eX3_waitFor b d Q 12 [.ref 20, .int v1, .int v2] [] (zput σ 27 s1.toNatClampNeg s0)) := q_iast (zCall_mono (zUn b) d) (by decide +kernel : decode cX3_waitFor 11 = .ok (.iastore, 1)) (u_27 b)
theorem eX3_waitFor_12 {b : Bool} {d : Nat} {Q : zQ} {σ : zV} {v1 : Int32} {v2 : Int32} : eX3_waitFor b d Q 12 [.ref 20, .int v1, .int v2] [] σ = Q none σ := q_vret (zCall_mono (zUn b) d) (by decide +kernel : decode cX3_waitFor 12 = .ok (.return_, 1)) rfl
theorem nX3_waitFor {b : Bool} {d : Nat} {Q : zQ} {σ : zV} {v1 : Int32} {v2 : Int32} : zCall (zUn b) (d + 1) yX3_waitFor [.ref 20, .int v1, .int v2] σ Q = eX3_waitFor b d Q 0 [.ref 20, .int v1, .int v2] [] σ := (q_call kX3_waitFor (Nat.le_of_ble_eq_true rfl)).trans rfl
def eX3_waitNoMore (b : Bool) (d : Nat) (Q : zQ) : zP := zEv (zUn b) (zCall (zUn b) d) RX3 cX3_waitNoMore 3 none none Q
theorem eX3_waitNoMore_0 {b : Bool} {d : Nat} {Q : zQ} {σ : zV} {v1 : Int32} {v2 : Int32} : eX3_waitNoMore b d Q 0 [.ref 20, .int v1, .int v2] [] σ = eX3_waitNoMore b d Q 1 [.ref 20, .int v1, .int v2] [.ref 20] σ := q_aload_n (zCall_mono (zUn b) d) (by decide +kernel : decode cX3_waitNoMore 0 = .ok (.aload_n 0, 1)) rfl
theorem eX3_waitNoMore_1 {b : Bool} {d : Nat} {Q : zQ} {σ : zV} {v1 : Int32} {v2 : Int32} : eX3_waitNoMore b d Q 1 [.ref 20, .int v1, .int v2] [.ref 20] σ = eX3_waitNoMore b d Q 4 [.ref 20, .int v1, .int v2] [.ref 27] σ := q_getR (zCall_mono (zUn b) d) (by decide +kernel : decode cX3_waitNoMore 1 = .ok (.getfield 30, 3)) zf_RX3_30 (u_20 b) rfl
theorem eX3_waitNoMore_4 {b : Bool} {d : Nat} {Q : zQ} {σ : zV} {v1 : Int32} {v2 : Int32} : eX3_waitNoMore b d Q 4 [.ref 20, .int v1, .int v2] [.ref 27] σ = eX3_waitNoMore b d Q 5 [.ref 20, .int v1, .int v2] [.int v1, .ref 27] σ := q_iload_n (zCall_mono (zUn b) d) (by decide +kernel : decode cX3_waitNoMore 4 = .ok (.iload_n 1, 1)) rfl
theorem eX3_waitNoMore_5 {b : Bool} {d : Nat} {Q : zQ} {σ : zV} {v1 : Int32} {v2 : Int32} {s0 : Int32} : eX3_waitNoMore b d Q 5 [.ref 20, .int v1, .int v2] [.int s0, .ref 27] σ = eX3_waitNoMore b d Q 6 [.ref 20, .int v1, .int v2] [.int s0, .ref 27, .int s0, .ref 27] σ := q_dup2 (zCall_mono (zUn b) d) (by decide +kernel : decode cX3_waitNoMore 5 = .ok (.dup2, 1)) rfl rfl
theorem eX3_waitNoMore_6 {b : Bool} {d : Nat} {Q : zQ} {σ : zV} {v1 : Int32} {v2 : Int32} {s0 : Int32} {s2 : Int32} : eX3_waitNoMore b d Q 6 [.ref 20, .int v1, .int v2] [.int s0, .ref 27, .int s2, .ref 27] σ = (vp_in s0 40 ∧ eX3_waitNoMore b d Q 7 [.ref 20, .int v1, .int v2] [.int (σ 27 s0.toNatClampNeg), .int s2, .ref 27] σ) := q_iald (zCall_mono (zUn b) d) (by decide +kernel : decode cX3_waitNoMore 6 = .ok (.iaload, 1)) (u_27 b)
theorem eX3_waitNoMore_7 {b : Bool} {d : Nat} {Q : zQ} {σ : zV} {v1 : Int32} {v2 : Int32} {s0 : Int32} {s1 : Int32} : eX3_waitNoMore b d Q 7 [.ref 20, .int v1, .int v2] [.int s0, .int s1, .ref 27] σ = eX3_waitNoMore b d Q 8 [.ref 20, .int v1, .int v2] [.int 1, .int s0, .int s1, .ref 27] σ := q_iconst (zCall_mono (zUn b) d) (by decide +kernel : decode cX3_waitNoMore 7 = .ok (.iconst 1, 1)) (by decide +kernel)
theorem eX3_waitNoMore_8 {b : Bool} {d : Nat} {Q : zQ} {σ : zV} {v1 : Int32} {v2 : Int32} {s0 : Int32} {s1 : Int32} {s2 : Int32} : eX3_waitNoMore b d Q 8 [.ref 20, .int v1, .int v2] [.int s0, .int s1, .int s2, .ref 27] σ = eX3_waitNoMore b d Q 9 [.ref 20, .int v1, .int v2] [.int v2, .int s0, .int s1, .int s2, .ref 27] σ := q_iload_n (zCall_mono (zUn b) d) (by decide +kernel : decode cX3_waitNoMore 8 = .ok (.iload_n 2, 1)) rfl
theorem eX3_waitNoMore_9 {b : Bool} {d : Nat} {Q : zQ} {σ : zV} {v1 : Int32} {v2 : Int32} {s0 : Int32} {s1 : Int32} {s2 : Int32} {s3 : Int32} : eX3_waitNoMore b d Q 9 [.ref 20, .int v1, .int v2] [.int s0, .int s1, .int s2, .int s3, .ref 27] σ = eX3_waitNoMore b d Q 10 [.ref 20, .int v1, .int v2] [.int (s1 <<< (s0 &&& 31)), .int s2, .int s3, .ref 27] σ := q_ishl (zCall_mono (zUn b) d) (by decide +kernel : decode cX3_waitNoMore 9 = .ok (.ishl, 1))
theorem eX3_waitNoMore_10 {b : Bool} {d : Nat} {Q : zQ} {σ : zV} {v1 : Int32} {v2 : Int32} {s0 : Int32} {s1 : Int32} {s2 : Int32} : eX3_waitNoMore b d Q 10 [.ref 20, .int v1, .int v2] [.int s0, .int s1, .int s2, .ref 27] σ = eX3_waitNoMore b d Q 11 [.ref 20, .int v1, .int v2] [.int (-1), .int s0, .int s1, .int s2, .ref 27] σ := q_iconst (zCall_mono (zUn b) d) (by decide +kernel : decode cX3_waitNoMore 10 = .ok (.iconst (-1), 1)) (by decide +kernel)
theorem eX3_waitNoMore_11 {b : Bool} {d : Nat} {Q : zQ} {σ : zV} {v1 : Int32} {v2 : Int32} {s0 : Int32} {s1 : Int32} {s2 : Int32} {s3 : Int32} : eX3_waitNoMore b d Q 11 [.ref 20, .int v1, .int v2] [.int s0, .int s1, .int s2, .int s3, .ref 27] σ = eX3_waitNoMore b d Q 12 [.ref 20, .int v1, .int v2] [.int (s1 ^^^ s0), .int s2, .int s3, .ref 27] σ := q_ixor (zCall_mono (zUn b) d) (by decide +kernel : decode cX3_waitNoMore 11 = .ok (.ixor, 1))
theorem eX3_waitNoMore_12 {b : Bool} {d : Nat} {Q : zQ} {σ : zV} {v1 : Int32} {v2 : Int32} {s0 : Int32} {s1 : Int32} {s2 : Int32} : eX3_waitNoMore b d Q 12 [.ref 20, .int v1, .int v2] [.int s0, .int s1, .int s2, .ref 27] σ = eX3_waitNoMore b d Q 13 [.ref 20, .int v1, .int v2] [.int (s1 &&& s0), .int s2, .ref 27] σ := q_iand (zCall_mono (zUn b) d) (by decide +kernel : decode cX3_waitNoMore 12 = .ok (.iand, 1))
theorem eX3_waitNoMore_13 {b : Bool} {d : Nat} {Q : zQ} {σ : zV} {v1 : Int32} {v2 : Int32} {s0 : Int32} {s1 : Int32} : eX3_waitNoMore b d Q 13 [.ref 20, .int v1, .int v2] [.int s0, .int s1, .ref 27] σ = (vp_in s1 40 ∧ eX3_waitNoMore b d Q 14 [.ref 20, .int v1, .int v2] [] (zput σ 27 s1.toNatClampNeg s0)) := q_iast (zCall_mono (zUn b) d) (by decide +kernel : decode cX3_waitNoMore 13 = .ok (.iastore, 1)) (u_27 b)
theorem eX3_waitNoMore_14 {b : Bool} {d : Nat} {Q : zQ} {σ : zV} {v1 : Int32} {v2 : Int32} : eX3_waitNoMore b d Q 14 [.ref 20, .int v1, .int v2] [] σ = Q none σ := q_vret (zCall_mono (zUn b) d) (by decide +kernel : decode cX3_waitNoMore 14 = .ok (.return_, 1)) rfl
theorem nX3_waitNoMore {b : Bool} {d : Nat} {Q : zQ} {σ : zV} {v1 : Int32} {v2 : Int32} : zCall (zUn b) (d + 1) yX3_waitNoMore [.ref 20, .int v1, .int v2] σ Q = eX3_waitNoMore b d Q 0 [.ref 20, .int v1, .int v2] [] σ := (q_call kX3_waitNoMore (Nat.le_of_ble_eq_true rfl)).trans rfl
def eX3_waitsFor (b : Bool) (d : Nat) (Q : zQ) : zP := zEv (zUn b) (zCall (zUn b) d) RX3 cX3_waitsFor 3 (some .boolean) none Q
theorem eX3_waitsFor_0 {b : Bool} {d : Nat} {Q : zQ} {σ : zV} {v1 : Int32} {v2 : Int32} : eX3_waitsFor b d Q 0 [.ref 20, .int v1, .int v2] [] σ = eX3_waitsFor b d Q 1 [.ref 20, .int v1, .int v2] [.ref 20] σ := q_aload_n (zCall_mono (zUn b) d) (by decide +kernel : decode cX3_waitsFor 0 = .ok (.aload_n 0, 1)) rfl
theorem eX3_waitsFor_1 {b : Bool} {d : Nat} {Q : zQ} {σ : zV} {v1 : Int32} {v2 : Int32} : eX3_waitsFor b d Q 1 [.ref 20, .int v1, .int v2] [.ref 20] σ = eX3_waitsFor b d Q 4 [.ref 20, .int v1, .int v2] [.ref 27] σ := q_getR (zCall_mono (zUn b) d) (by decide +kernel : decode cX3_waitsFor 1 = .ok (.getfield 30, 3)) zf_RX3_30 (u_20 b) rfl
theorem eX3_waitsFor_4 {b : Bool} {d : Nat} {Q : zQ} {σ : zV} {v1 : Int32} {v2 : Int32} : eX3_waitsFor b d Q 4 [.ref 20, .int v1, .int v2] [.ref 27] σ = eX3_waitsFor b d Q 5 [.ref 20, .int v1, .int v2] [.int v1, .ref 27] σ := q_iload_n (zCall_mono (zUn b) d) (by decide +kernel : decode cX3_waitsFor 4 = .ok (.iload_n 1, 1)) rfl
theorem eX3_waitsFor_5 {b : Bool} {d : Nat} {Q : zQ} {σ : zV} {v1 : Int32} {v2 : Int32} {s0 : Int32} : eX3_waitsFor b d Q 5 [.ref 20, .int v1, .int v2] [.int s0, .ref 27] σ = (vp_in s0 40 ∧ eX3_waitsFor b d Q 6 [.ref 20, .int v1, .int v2] [.int (σ 27 s0.toNatClampNeg)] σ) := q_iald (zCall_mono (zUn b) d) (by decide +kernel : decode cX3_waitsFor 5 = .ok (.iaload, 1)) (u_27 b)
theorem eX3_waitsFor_6 {b : Bool} {d : Nat} {Q : zQ} {σ : zV} {v1 : Int32} {v2 : Int32} {s0 : Int32} : eX3_waitsFor b d Q 6 [.ref 20, .int v1, .int v2] [.int s0] σ = eX3_waitsFor b d Q 7 [.ref 20, .int v1, .int v2] [.int 1, .int s0] σ := q_iconst (zCall_mono (zUn b) d) (by decide +kernel : decode cX3_waitsFor 6 = .ok (.iconst 1, 1)) (by decide +kernel)
theorem eX3_waitsFor_7 {b : Bool} {d : Nat} {Q : zQ} {σ : zV} {v1 : Int32} {v2 : Int32} {s0 : Int32} {s1 : Int32} : eX3_waitsFor b d Q 7 [.ref 20, .int v1, .int v2] [.int s0, .int s1] σ = eX3_waitsFor b d Q 8 [.ref 20, .int v1, .int v2] [.int v2, .int s0, .int s1] σ := q_iload_n (zCall_mono (zUn b) d) (by decide +kernel : decode cX3_waitsFor 7 = .ok (.iload_n 2, 1)) rfl
theorem eX3_waitsFor_8 {b : Bool} {d : Nat} {Q : zQ} {σ : zV} {v1 : Int32} {v2 : Int32} {s0 : Int32} {s1 : Int32} {s2 : Int32} : eX3_waitsFor b d Q 8 [.ref 20, .int v1, .int v2] [.int s0, .int s1, .int s2] σ = eX3_waitsFor b d Q 9 [.ref 20, .int v1, .int v2] [.int (s1 <<< (s0 &&& 31)), .int s2] σ := q_ishl (zCall_mono (zUn b) d) (by decide +kernel : decode cX3_waitsFor 8 = .ok (.ishl, 1))
theorem eX3_waitsFor_9 {b : Bool} {d : Nat} {Q : zQ} {σ : zV} {v1 : Int32} {v2 : Int32} {s0 : Int32} {s1 : Int32} : eX3_waitsFor b d Q 9 [.ref 20, .int v1, .int v2] [.int s0, .int s1] σ = eX3_waitsFor b d Q 10 [.ref 20, .int v1, .int v2] [.int (s1 &&& s0)] σ := q_iand (zCall_mono (zUn b) d) (by decide +kernel : decode cX3_waitsFor 9 = .ok (.iand, 1))
theorem eX3_waitsFor_10 {b : Bool} {d : Nat} {Q : zQ} {σ : zV} {v1 : Int32} {v2 : Int32} {s0 : Int32} : eX3_waitsFor b d Q 10 [.ref 20, .int v1, .int v2] [.int s0] σ = ((s0 = 0 → eX3_waitsFor b d Q 17 [.ref 20, .int v1, .int v2] [] σ) ∧ (¬ s0 = 0 → eX3_waitsFor b d Q 13 [.ref 20, .int v1, .int v2] [] σ)) := q_if (zCall_mono (zUn b) d) (by decide +kernel : decode cX3_waitsFor 10 = .ok (.ifCond .eq 7, 3)) (by decide)
theorem eX3_waitsFor_13 {b : Bool} {d : Nat} {Q : zQ} {σ : zV} {v1 : Int32} {v2 : Int32} : eX3_waitsFor b d Q 13 [.ref 20, .int v1, .int v2] [] σ = eX3_waitsFor b d Q 14 [.ref 20, .int v1, .int v2] [.int 1] σ := q_iconst (zCall_mono (zUn b) d) (by decide +kernel : decode cX3_waitsFor 13 = .ok (.iconst 1, 1)) (by decide +kernel)
theorem eX3_waitsFor_14 {b : Bool} {d : Nat} {Q : zQ} {σ : zV} {v1 : Int32} {v2 : Int32} {s0 : Int32} : eX3_waitsFor b d Q 14 [.ref 20, .int v1, .int v2] [.int s0] σ = eX3_waitsFor b d Q 18 [.ref 20, .int v1, .int v2] [.int s0] σ := q_goto (zCall_mono (zUn b) d) (by decide +kernel : decode cX3_waitsFor 14 = .ok (.goto 4, 3)) (by decide)
theorem eX3_waitsFor_17 {b : Bool} {d : Nat} {Q : zQ} {σ : zV} {v1 : Int32} {v2 : Int32} : eX3_waitsFor b d Q 17 [.ref 20, .int v1, .int v2] [] σ = eX3_waitsFor b d Q 18 [.ref 20, .int v1, .int v2] [.int 0] σ := q_iconst (zCall_mono (zUn b) d) (by decide +kernel : decode cX3_waitsFor 17 = .ok (.iconst 0, 1)) (by decide +kernel)
theorem eX3_waitsFor_18 {b : Bool} {d : Nat} {Q : zQ} {σ : zV} {v1 : Int32} {v2 : Int32} {s0 : Int32} : eX3_waitsFor b d Q 18 [.ref 20, .int v1, .int v2] [.int s0] σ = (narrow .boolean (.int s0) = .int s0 ∧ Q (some (.int s0)) σ) := q_zret (zCall_mono (zUn b) d) (by decide +kernel : decode cX3_waitsFor 18 = .ok (.ireturn, 1)) rfl
theorem nX3_waitsFor {b : Bool} {d : Nat} {Q : zQ} {σ : zV} {v1 : Int32} {v2 : Int32} : zCall (zUn b) (d + 1) yX3_waitsFor [.ref 20, .int v1, .int v2] σ Q = eX3_waitsFor b d Q 0 [.ref 20, .int v1, .int v2] [] σ := (q_call kX3_waitsFor (Nat.le_of_ble_eq_true rfl)).trans rfl
def eX4_change (b : Bool) (d : Nat) (Q : zQ) : zP := zEv (zUn b) (zCall (zUn b) d) RX4 cX4_change 7 none none Q
theorem eX4_change_0 {b : Bool} {d : Nat} {Q : zQ} {σ : zV} {v1 : Int32} {v2 : Int32} {v3 : Int32} {v4 : Int32} : eX4_change b d Q 0 [.ref 1, .int v1, .int v2, .int v3, .int v4, .null, .null] [] σ = eX4_change b d Q 1 [.ref 1, .int v1, .int v2, .int v3, .int v4, .null, .null] [.int v1] σ := q_iload_n (zCall_mono (zUn b) d) (by decide +kernel : decode cX4_change 0 = .ok (.iload_n 1, 1)) rfl
theorem eX4_change_1 {b : Bool} {d : Nat} {Q : zQ} {σ : zV} {v1 : Int32} {v2 : Int32} {v3 : Int32} {v4 : Int32} {s0 : Int32} : eX4_change b d Q 1 [.ref 1, .int v1, .int v2, .int v3, .int v4, .null, .null] [.int s0] σ = eX4_change b d Q 2 [.ref 1, .int v1, .int v2, .int v3, .int v4, .null, .null] [.int v2, .int s0] σ := q_iload_n (zCall_mono (zUn b) d) (by decide +kernel : decode cX4_change 1 = .ok (.iload_n 2, 1)) rfl
theorem eX4_change_2 {b : Bool} {d : Nat} {Q : zQ} {σ : zV} {v1 : Int32} {v2 : Int32} {v3 : Int32} {v4 : Int32} {s0 : Int32} {s1 : Int32} : eX4_change b d Q 2 [.ref 1, .int v1, .int v2, .int v3, .int v4, .null, .null] [.int s0, .int s1] σ = zCall (zUn b) d yX4_rowOf [.int s1, .int s0] σ (fun v σ' => eX4_change b d Q 5 [.ref 1, .int v1, .int v2, .int v3, .int v4, .null, .null] (v.toList ++ []) σ') := q_ins (As := [.int s1, .int s0]) (r := []) (zCall_mono (zUn b) d) (by decide +kernel : decode cX4_change 2 = .ok (.invokestatic 30, 3)) zm_RX4_30 (Nat.le_of_ble_eq_true rfl) rfl
theorem eX4_change_5 {b : Bool} {d : Nat} {Q : zQ} {σ : zV} {v1 : Int32} {v2 : Int32} {v3 : Int32} {v4 : Int32} {s0 : Int32} : eX4_change b d Q 5 [.ref 1, .int v1, .int v2, .int v3, .int v4, .null, .null] [.int s0] σ = eX4_change b d Q 7 [.ref 1, .int v1, .int v2, .int v3, .int v4, .int s0, .null] [] σ := q_istore (zCall_mono (zUn b) d) (by decide +kernel : decode cX4_change 5 = .ok (.istore 5, 2)) (Nat.le_of_ble_eq_true rfl) (fun v h => by cases h; rfl) rfl
theorem eX4_change_7 {b : Bool} {d : Nat} {Q : zQ} {σ : zV} {v1 : Int32} {v2 : Int32} {v3 : Int32} {v4 : Int32} {v5 : Int32} : eX4_change b d Q 7 [.ref 1, .int v1, .int v2, .int v3, .int v4, .int v5, .null] [] σ = eX4_change b d Q 9 [.ref 1, .int v1, .int v2, .int v3, .int v4, .int v5, .null] [.int v5] σ := q_iload (zCall_mono (zUn b) d) (by decide +kernel : decode cX4_change 7 = .ok (.iload 5, 2)) rfl
theorem eX4_change_9 {b : Bool} {d : Nat} {Q : zQ} {σ : zV} {v1 : Int32} {v2 : Int32} {v3 : Int32} {v4 : Int32} {v5 : Int32} {s0 : Int32} : eX4_change b d Q 9 [.ref 1, .int v1, .int v2, .int v3, .int v4, .int v5, .null] [.int s0] σ = eX4_change b d Q 11 [.ref 1, .int v1, .int v2, .int v3, .int v4, .int v5, .null] [.int 20, .int s0] σ := q_bipush (zCall_mono (zUn b) d) (by decide +kernel : decode cX4_change 9 = .ok (.bipush 20, 2)) (by decide +kernel)
theorem eX4_change_11 {b : Bool} {d : Nat} {Q : zQ} {σ : zV} {v1 : Int32} {v2 : Int32} {v3 : Int32} {v4 : Int32} {v5 : Int32} {s0 : Int32} {s1 : Int32} : eX4_change b d Q 11 [.ref 1, .int v1, .int v2, .int v3, .int v4, .int v5, .null] [.int s0, .int s1] σ = eX4_change b d Q 12 [.ref 1, .int v1, .int v2, .int v3, .int v4, .int v5, .null] [.int (s1 * s0)] σ := q_imul (zCall_mono (zUn b) d) (by decide +kernel : decode cX4_change 11 = .ok (.imul, 1))
theorem eX4_change_12 {b : Bool} {d : Nat} {Q : zQ} {σ : zV} {v1 : Int32} {v2 : Int32} {v3 : Int32} {v4 : Int32} {v5 : Int32} {s0 : Int32} : eX4_change b d Q 12 [.ref 1, .int v1, .int v2, .int v3, .int v4, .int v5, .null] [.int s0] σ = eX4_change b d Q 14 [.ref 1, .int v1, .int v2, .int v3, .int v4, .int v5, .int s0] [] σ := q_istore (zCall_mono (zUn b) d) (by decide +kernel : decode cX4_change 12 = .ok (.istore 6, 2)) (Nat.le_of_ble_eq_true rfl) (fun v h => by cases h; rfl) rfl
theorem eX4_change_14 {b : Bool} {d : Nat} {Q : zQ} {σ : zV} {v1 : Int32} {v2 : Int32} {v3 : Int32} {v4 : Int32} {v5 : Int32} {v6 : Int32} : eX4_change b d Q 14 [.ref 1, .int v1, .int v2, .int v3, .int v4, .int v5, .int v6] [] σ = eX4_change b d Q 15 [.ref 1, .int v1, .int v2, .int v3, .int v4, .int v5, .int v6] [.ref 1] σ := q_aload_n (zCall_mono (zUn b) d) (by decide +kernel : decode cX4_change 14 = .ok (.aload_n 0, 1)) rfl
theorem eX4_change_15 {b : Bool} {d : Nat} {Q : zQ} {σ : zV} {v1 : Int32} {v2 : Int32} {v3 : Int32} {v4 : Int32} {v5 : Int32} {v6 : Int32} : eX4_change b d Q 15 [.ref 1, .int v1, .int v2, .int v3, .int v4, .int v5, .int v6] [.ref 1] σ = eX4_change b d Q 18 [.ref 1, .int v1, .int v2, .int v3, .int v4, .int v5, .int v6] [.ref 3] σ := q_getR (zCall_mono (zUn b) d) (by decide +kernel : decode cX4_change 15 = .ok (.getfield 15, 3)) zf_RX4_15 (u_1 b) rfl
theorem eX4_change_18 {b : Bool} {d : Nat} {Q : zQ} {σ : zV} {v1 : Int32} {v2 : Int32} {v3 : Int32} {v4 : Int32} {v5 : Int32} {v6 : Int32} : eX4_change b d Q 18 [.ref 1, .int v1, .int v2, .int v3, .int v4, .int v5, .int v6] [.ref 3] σ = eX4_change b d Q 20 [.ref 1, .int v1, .int v2, .int v3, .int v4, .int v5, .int v6] [.int v5, .ref 3] σ := q_iload (zCall_mono (zUn b) d) (by decide +kernel : decode cX4_change 18 = .ok (.iload 5, 2)) rfl
theorem eX4_change_20 {b : Bool} {d : Nat} {Q : zQ} {σ : zV} {v1 : Int32} {v2 : Int32} {v3 : Int32} {v4 : Int32} {v5 : Int32} {v6 : Int32} {s0 : Int32} : eX4_change b d Q 20 [.ref 1, .int v1, .int v2, .int v3, .int v4, .int v5, .int v6] [.int s0, .ref 3] σ = (vp_in s0 48 ∧ eX4_change b d Q 21 [.ref 1, .int v1, .int v2, .int v3, .int v4, .int v5, .int v6] [.int (σ 3 s0.toNatClampNeg)] σ) := q_iald (zCall_mono (zUn b) d) (by decide +kernel : decode cX4_change 20 = .ok (.iaload, 1)) (u_3 b)
theorem eX4_change_21 {b : Bool} {d : Nat} {Q : zQ} {σ : zV} {v1 : Int32} {v2 : Int32} {v3 : Int32} {v4 : Int32} {v5 : Int32} {v6 : Int32} {s0 : Int32} : eX4_change b d Q 21 [.ref 1, .int v1, .int v2, .int v3, .int v4, .int v5, .int v6] [.int s0] σ = eX4_change b d Q 23 [.ref 1, .int v1, .int v2, .int v3, .int v4, .int v5, .int v6] [.int 20, .int s0] σ := q_bipush (zCall_mono (zUn b) d) (by decide +kernel : decode cX4_change 21 = .ok (.bipush 20, 2)) (by decide +kernel)
theorem eX4_change_23 {b : Bool} {d : Nat} {Q : zQ} {σ : zV} {v1 : Int32} {v2 : Int32} {v3 : Int32} {v4 : Int32} {v5 : Int32} {v6 : Int32} {s0 : Int32} {s1 : Int32} : eX4_change b d Q 23 [.ref 1, .int v1, .int v2, .int v3, .int v4, .int v5, .int v6] [.int s0, .int s1] σ = ((¬ s1 = s0 → eX4_change b d Q 75 [.ref 1, .int v1, .int v2, .int v3, .int v4, .int v5, .int v6] [] σ) ∧ (s1 = s0 → eX4_change b d Q 26 [.ref 1, .int v1, .int v2, .int v3, .int v4, .int v5, .int v6] [] σ)) := (q_icmp (zCall_mono (zUn b) d) (by decide +kernel : decode cX4_change 23 = .ok (.if_icmp .ne 52, 3)) (by decide)).trans z_ne
theorem eX4_change_26 {b : Bool} {d : Nat} {Q : zQ} {σ : zV} {v1 : Int32} {v2 : Int32} {v3 : Int32} {v4 : Int32} {v5 : Int32} {v6 : Int32} : eX4_change b d Q 26 [.ref 1, .int v1, .int v2, .int v3, .int v4, .int v5, .int v6] [] σ = eX4_change b d Q 27 [.ref 1, .int v1, .int v2, .int v3, .int v4, .int v5, .int v6] [.ref 1] σ := q_aload_n (zCall_mono (zUn b) d) (by decide +kernel : decode cX4_change 26 = .ok (.aload_n 0, 1)) rfl
theorem eX4_change_27 {b : Bool} {d : Nat} {Q : zQ} {σ : zV} {v1 : Int32} {v2 : Int32} {v3 : Int32} {v4 : Int32} {v5 : Int32} {v6 : Int32} : eX4_change b d Q 27 [.ref 1, .int v1, .int v2, .int v3, .int v4, .int v5, .int v6] [.ref 1] σ = eX4_change b d Q 30 [.ref 1, .int v1, .int v2, .int v3, .int v4, .int v5, .int v6] [.ref 4] σ := q_getR (zCall_mono (zUn b) d) (by decide +kernel : decode cX4_change 27 = .ok (.getfield 18, 3)) zf_RX4_18 (u_1 b) rfl
theorem eX4_change_30 {b : Bool} {d : Nat} {Q : zQ} {σ : zV} {v1 : Int32} {v2 : Int32} {v3 : Int32} {v4 : Int32} {v5 : Int32} {v6 : Int32} : eX4_change b d Q 30 [.ref 1, .int v1, .int v2, .int v3, .int v4, .int v5, .int v6] [.ref 4] σ = eX4_change b d Q 32 [.ref 1, .int v1, .int v2, .int v3, .int v4, .int v5, .int v6] [.int v6, .ref 4] σ := q_iload (zCall_mono (zUn b) d) (by decide +kernel : decode cX4_change 30 = .ok (.iload 6, 2)) rfl
theorem eX4_change_32 {b : Bool} {d : Nat} {Q : zQ} {σ : zV} {v1 : Int32} {v2 : Int32} {v3 : Int32} {v4 : Int32} {v5 : Int32} {v6 : Int32} {s0 : Int32} : eX4_change b d Q 32 [.ref 1, .int v1, .int v2, .int v3, .int v4, .int v5, .int v6] [.int s0, .ref 4] σ = eX4_change b d Q 33 [.ref 1, .int v1, .int v2, .int v3, .int v4, .int v5, .int v6] [.int 1, .int s0, .ref 4] σ := q_iconst (zCall_mono (zUn b) d) (by decide +kernel : decode cX4_change 32 = .ok (.iconst 1, 1)) (by decide +kernel)
theorem eX4_change_33 {b : Bool} {d : Nat} {Q : zQ} {σ : zV} {v1 : Int32} {v2 : Int32} {v3 : Int32} {v4 : Int32} {v5 : Int32} {v6 : Int32} {s0 : Int32} {s1 : Int32} : eX4_change b d Q 33 [.ref 1, .int v1, .int v2, .int v3, .int v4, .int v5, .int v6] [.int s0, .int s1, .ref 4] σ = eX4_change b d Q 34 [.ref 1, .int v1, .int v2, .int v3, .int v4, .int v5, .int v6] [.int (s1 + s0), .ref 4] σ := q_iadd (zCall_mono (zUn b) d) (by decide +kernel : decode cX4_change 33 = .ok (.iadd, 1))
theorem eX4_change_34 {b : Bool} {d : Nat} {Q : zQ} {σ : zV} {v1 : Int32} {v2 : Int32} {v3 : Int32} {v4 : Int32} {v5 : Int32} {v6 : Int32} {s0 : Int32} : eX4_change b d Q 34 [.ref 1, .int v1, .int v2, .int v3, .int v4, .int v5, .int v6] [.int s0, .ref 4] σ = eX4_change b d Q 35 [.ref 1, .int v1, .int v2, .int v3, .int v4, .int v5, .int v6] [.ref 1, .int s0, .ref 4] σ := q_aload_n (zCall_mono (zUn b) d) (by decide +kernel : decode cX4_change 34 = .ok (.aload_n 0, 1)) rfl
theorem eX4_change_35 {b : Bool} {d : Nat} {Q : zQ} {σ : zV} {v1 : Int32} {v2 : Int32} {v3 : Int32} {v4 : Int32} {v5 : Int32} {v6 : Int32} {s1 : Int32} : eX4_change b d Q 35 [.ref 1, .int v1, .int v2, .int v3, .int v4, .int v5, .int v6] [.ref 1, .int s1, .ref 4] σ = eX4_change b d Q 38 [.ref 1, .int v1, .int v2, .int v3, .int v4, .int v5, .int v6] [.ref 4, .int s1, .ref 4] σ := q_getR (zCall_mono (zUn b) d) (by decide +kernel : decode cX4_change 35 = .ok (.getfield 18, 3)) zf_RX4_18 (u_1 b) rfl
theorem eX4_change_38 {b : Bool} {d : Nat} {Q : zQ} {σ : zV} {v1 : Int32} {v2 : Int32} {v3 : Int32} {v4 : Int32} {v5 : Int32} {v6 : Int32} {s1 : Int32} : eX4_change b d Q 38 [.ref 1, .int v1, .int v2, .int v3, .int v4, .int v5, .int v6] [.ref 4, .int s1, .ref 4] σ = eX4_change b d Q 40 [.ref 1, .int v1, .int v2, .int v3, .int v4, .int v5, .int v6] [.int v6, .ref 4, .int s1, .ref 4] σ := q_iload (zCall_mono (zUn b) d) (by decide +kernel : decode cX4_change 38 = .ok (.iload 6, 2)) rfl
theorem eX4_change_40 {b : Bool} {d : Nat} {Q : zQ} {σ : zV} {v1 : Int32} {v2 : Int32} {v3 : Int32} {v4 : Int32} {v5 : Int32} {v6 : Int32} {s0 : Int32} {s2 : Int32} : eX4_change b d Q 40 [.ref 1, .int v1, .int v2, .int v3, .int v4, .int v5, .int v6] [.int s0, .ref 4, .int s2, .ref 4] σ = eX4_change b d Q 42 [.ref 1, .int v1, .int v2, .int v3, .int v4, .int v5, .int v6] [.int 19, .int s0, .ref 4, .int s2, .ref 4] σ := q_bipush (zCall_mono (zUn b) d) (by decide +kernel : decode cX4_change 40 = .ok (.bipush 19, 2)) (by decide +kernel)
theorem eX4_change_42 {b : Bool} {d : Nat} {Q : zQ} {σ : zV} {v1 : Int32} {v2 : Int32} {v3 : Int32} {v4 : Int32} {v5 : Int32} {v6 : Int32} {s0 : Int32} {s1 : Int32} {s3 : Int32} : eX4_change b d Q 42 [.ref 1, .int v1, .int v2, .int v3, .int v4, .int v5, .int v6] [.int s0, .int s1, .ref 4, .int s3, .ref 4] σ = (¬ s3 < 0 ∧ ¬ s1 < 0 ∧ ¬ s0 < 0 ∧ s3.toNatClampNeg + s0.toNatClampNeg ≤ 960 ∧ s1.toNatClampNeg + s0.toNatClampNeg ≤ 960 ∧ eX4_change b d Q 45 [.ref 1, .int v1, .int v2, .int v3, .int v4, .int v5, .int v6] [] (va_up σ 4 (va_cpy (σ 4) (σ 4) s3.toNatClampNeg s1.toNatClampNeg s0.toNatClampNeg))) := q_copy (zCall_mono (zUn b) d) (by decide +kernel : decode cX4_change 42 = .ok (.invokestatic 41, 3)) zm_RX4_41 (Nat.le_of_ble_eq_true rfl) (u_4 b) (u_4 b)
theorem eX4_change_45 {b : Bool} {d : Nat} {Q : zQ} {σ : zV} {v1 : Int32} {v2 : Int32} {v3 : Int32} {v4 : Int32} {v5 : Int32} {v6 : Int32} : eX4_change b d Q 45 [.ref 1, .int v1, .int v2, .int v3, .int v4, .int v5, .int v6] [] σ = eX4_change b d Q 46 [.ref 1, .int v1, .int v2, .int v3, .int v4, .int v5, .int v6] [.ref 1] σ := q_aload_n (zCall_mono (zUn b) d) (by decide +kernel : decode cX4_change 45 = .ok (.aload_n 0, 1)) rfl
theorem eX4_change_46 {b : Bool} {d : Nat} {Q : zQ} {σ : zV} {v1 : Int32} {v2 : Int32} {v3 : Int32} {v4 : Int32} {v5 : Int32} {v6 : Int32} : eX4_change b d Q 46 [.ref 1, .int v1, .int v2, .int v3, .int v4, .int v5, .int v6] [.ref 1] σ = eX4_change b d Q 49 [.ref 1, .int v1, .int v2, .int v3, .int v4, .int v5, .int v6] [.ref 5] σ := q_getR (zCall_mono (zUn b) d) (by decide +kernel : decode cX4_change 46 = .ok (.getfield 21, 3)) zf_RX4_21 (u_1 b) rfl
theorem eX4_change_49 {b : Bool} {d : Nat} {Q : zQ} {σ : zV} {v1 : Int32} {v2 : Int32} {v3 : Int32} {v4 : Int32} {v5 : Int32} {v6 : Int32} : eX4_change b d Q 49 [.ref 1, .int v1, .int v2, .int v3, .int v4, .int v5, .int v6] [.ref 5] σ = eX4_change b d Q 51 [.ref 1, .int v1, .int v2, .int v3, .int v4, .int v5, .int v6] [.int v6, .ref 5] σ := q_iload (zCall_mono (zUn b) d) (by decide +kernel : decode cX4_change 49 = .ok (.iload 6, 2)) rfl
theorem eX4_change_51 {b : Bool} {d : Nat} {Q : zQ} {σ : zV} {v1 : Int32} {v2 : Int32} {v3 : Int32} {v4 : Int32} {v5 : Int32} {v6 : Int32} {s0 : Int32} : eX4_change b d Q 51 [.ref 1, .int v1, .int v2, .int v3, .int v4, .int v5, .int v6] [.int s0, .ref 5] σ = eX4_change b d Q 52 [.ref 1, .int v1, .int v2, .int v3, .int v4, .int v5, .int v6] [.int 1, .int s0, .ref 5] σ := q_iconst (zCall_mono (zUn b) d) (by decide +kernel : decode cX4_change 51 = .ok (.iconst 1, 1)) (by decide +kernel)
theorem eX4_change_52 {b : Bool} {d : Nat} {Q : zQ} {σ : zV} {v1 : Int32} {v2 : Int32} {v3 : Int32} {v4 : Int32} {v5 : Int32} {v6 : Int32} {s0 : Int32} {s1 : Int32} : eX4_change b d Q 52 [.ref 1, .int v1, .int v2, .int v3, .int v4, .int v5, .int v6] [.int s0, .int s1, .ref 5] σ = eX4_change b d Q 53 [.ref 1, .int v1, .int v2, .int v3, .int v4, .int v5, .int v6] [.int (s1 + s0), .ref 5] σ := q_iadd (zCall_mono (zUn b) d) (by decide +kernel : decode cX4_change 52 = .ok (.iadd, 1))
theorem eX4_change_53 {b : Bool} {d : Nat} {Q : zQ} {σ : zV} {v1 : Int32} {v2 : Int32} {v3 : Int32} {v4 : Int32} {v5 : Int32} {v6 : Int32} {s0 : Int32} : eX4_change b d Q 53 [.ref 1, .int v1, .int v2, .int v3, .int v4, .int v5, .int v6] [.int s0, .ref 5] σ = eX4_change b d Q 54 [.ref 1, .int v1, .int v2, .int v3, .int v4, .int v5, .int v6] [.ref 1, .int s0, .ref 5] σ := q_aload_n (zCall_mono (zUn b) d) (by decide +kernel : decode cX4_change 53 = .ok (.aload_n 0, 1)) rfl
theorem eX4_change_54 {b : Bool} {d : Nat} {Q : zQ} {σ : zV} {v1 : Int32} {v2 : Int32} {v3 : Int32} {v4 : Int32} {v5 : Int32} {v6 : Int32} {s1 : Int32} : eX4_change b d Q 54 [.ref 1, .int v1, .int v2, .int v3, .int v4, .int v5, .int v6] [.ref 1, .int s1, .ref 5] σ = eX4_change b d Q 57 [.ref 1, .int v1, .int v2, .int v3, .int v4, .int v5, .int v6] [.ref 5, .int s1, .ref 5] σ := q_getR (zCall_mono (zUn b) d) (by decide +kernel : decode cX4_change 54 = .ok (.getfield 21, 3)) zf_RX4_21 (u_1 b) rfl
theorem eX4_change_57 {b : Bool} {d : Nat} {Q : zQ} {σ : zV} {v1 : Int32} {v2 : Int32} {v3 : Int32} {v4 : Int32} {v5 : Int32} {v6 : Int32} {s1 : Int32} : eX4_change b d Q 57 [.ref 1, .int v1, .int v2, .int v3, .int v4, .int v5, .int v6] [.ref 5, .int s1, .ref 5] σ = eX4_change b d Q 59 [.ref 1, .int v1, .int v2, .int v3, .int v4, .int v5, .int v6] [.int v6, .ref 5, .int s1, .ref 5] σ := q_iload (zCall_mono (zUn b) d) (by decide +kernel : decode cX4_change 57 = .ok (.iload 6, 2)) rfl
theorem eX4_change_59 {b : Bool} {d : Nat} {Q : zQ} {σ : zV} {v1 : Int32} {v2 : Int32} {v3 : Int32} {v4 : Int32} {v5 : Int32} {v6 : Int32} {s0 : Int32} {s2 : Int32} : eX4_change b d Q 59 [.ref 1, .int v1, .int v2, .int v3, .int v4, .int v5, .int v6] [.int s0, .ref 5, .int s2, .ref 5] σ = eX4_change b d Q 61 [.ref 1, .int v1, .int v2, .int v3, .int v4, .int v5, .int v6] [.int 19, .int s0, .ref 5, .int s2, .ref 5] σ := q_bipush (zCall_mono (zUn b) d) (by decide +kernel : decode cX4_change 59 = .ok (.bipush 19, 2)) (by decide +kernel)
theorem eX4_change_61 {b : Bool} {d : Nat} {Q : zQ} {σ : zV} {v1 : Int32} {v2 : Int32} {v3 : Int32} {v4 : Int32} {v5 : Int32} {v6 : Int32} {s0 : Int32} {s1 : Int32} {s3 : Int32} : eX4_change b d Q 61 [.ref 1, .int v1, .int v2, .int v3, .int v4, .int v5, .int v6] [.int s0, .int s1, .ref 5, .int s3, .ref 5] σ = (¬ s3 < 0 ∧ ¬ s1 < 0 ∧ ¬ s0 < 0 ∧ s3.toNatClampNeg + s0.toNatClampNeg ≤ 960 ∧ s1.toNatClampNeg + s0.toNatClampNeg ≤ 960 ∧ eX4_change b d Q 64 [.ref 1, .int v1, .int v2, .int v3, .int v4, .int v5, .int v6] [] (va_up σ 5 (va_cpy (σ 5) (σ 5) s3.toNatClampNeg s1.toNatClampNeg s0.toNatClampNeg))) := q_copy (zCall_mono (zUn b) d) (by decide +kernel : decode cX4_change 61 = .ok (.invokestatic 41, 3)) zm_RX4_41 (Nat.le_of_ble_eq_true rfl) (u_5 b) (u_5 b)
theorem eX4_change_64 {b : Bool} {d : Nat} {Q : zQ} {σ : zV} {v1 : Int32} {v2 : Int32} {v3 : Int32} {v4 : Int32} {v5 : Int32} {v6 : Int32} : eX4_change b d Q 64 [.ref 1, .int v1, .int v2, .int v3, .int v4, .int v5, .int v6] [] σ = eX4_change b d Q 65 [.ref 1, .int v1, .int v2, .int v3, .int v4, .int v5, .int v6] [.ref 1] σ := q_aload_n (zCall_mono (zUn b) d) (by decide +kernel : decode cX4_change 64 = .ok (.aload_n 0, 1)) rfl
theorem eX4_change_65 {b : Bool} {d : Nat} {Q : zQ} {σ : zV} {v1 : Int32} {v2 : Int32} {v3 : Int32} {v4 : Int32} {v5 : Int32} {v6 : Int32} : eX4_change b d Q 65 [.ref 1, .int v1, .int v2, .int v3, .int v4, .int v5, .int v6] [.ref 1] σ = eX4_change b d Q 68 [.ref 1, .int v1, .int v2, .int v3, .int v4, .int v5, .int v6] [.ref 3] σ := q_getR (zCall_mono (zUn b) d) (by decide +kernel : decode cX4_change 65 = .ok (.getfield 15, 3)) zf_RX4_15 (u_1 b) rfl
theorem eX4_change_68 {b : Bool} {d : Nat} {Q : zQ} {σ : zV} {v1 : Int32} {v2 : Int32} {v3 : Int32} {v4 : Int32} {v5 : Int32} {v6 : Int32} : eX4_change b d Q 68 [.ref 1, .int v1, .int v2, .int v3, .int v4, .int v5, .int v6] [.ref 3] σ = eX4_change b d Q 70 [.ref 1, .int v1, .int v2, .int v3, .int v4, .int v5, .int v6] [.int v5, .ref 3] σ := q_iload (zCall_mono (zUn b) d) (by decide +kernel : decode cX4_change 68 = .ok (.iload 5, 2)) rfl
theorem eX4_change_70 {b : Bool} {d : Nat} {Q : zQ} {σ : zV} {v1 : Int32} {v2 : Int32} {v3 : Int32} {v4 : Int32} {v5 : Int32} {v6 : Int32} {s0 : Int32} : eX4_change b d Q 70 [.ref 1, .int v1, .int v2, .int v3, .int v4, .int v5, .int v6] [.int s0, .ref 3] σ = eX4_change b d Q 71 [.ref 1, .int v1, .int v2, .int v3, .int v4, .int v5, .int v6] [.int s0, .ref 3, .int s0, .ref 3] σ := q_dup2 (zCall_mono (zUn b) d) (by decide +kernel : decode cX4_change 70 = .ok (.dup2, 1)) rfl rfl
theorem eX4_change_71 {b : Bool} {d : Nat} {Q : zQ} {σ : zV} {v1 : Int32} {v2 : Int32} {v3 : Int32} {v4 : Int32} {v5 : Int32} {v6 : Int32} {s0 : Int32} {s2 : Int32} : eX4_change b d Q 71 [.ref 1, .int v1, .int v2, .int v3, .int v4, .int v5, .int v6] [.int s0, .ref 3, .int s2, .ref 3] σ = (vp_in s0 48 ∧ eX4_change b d Q 72 [.ref 1, .int v1, .int v2, .int v3, .int v4, .int v5, .int v6] [.int (σ 3 s0.toNatClampNeg), .int s2, .ref 3] σ) := q_iald (zCall_mono (zUn b) d) (by decide +kernel : decode cX4_change 71 = .ok (.iaload, 1)) (u_3 b)
theorem eX4_change_72 {b : Bool} {d : Nat} {Q : zQ} {σ : zV} {v1 : Int32} {v2 : Int32} {v3 : Int32} {v4 : Int32} {v5 : Int32} {v6 : Int32} {s0 : Int32} {s1 : Int32} : eX4_change b d Q 72 [.ref 1, .int v1, .int v2, .int v3, .int v4, .int v5, .int v6] [.int s0, .int s1, .ref 3] σ = eX4_change b d Q 73 [.ref 1, .int v1, .int v2, .int v3, .int v4, .int v5, .int v6] [.int 1, .int s0, .int s1, .ref 3] σ := q_iconst (zCall_mono (zUn b) d) (by decide +kernel : decode cX4_change 72 = .ok (.iconst 1, 1)) (by decide +kernel)
theorem eX4_change_73 {b : Bool} {d : Nat} {Q : zQ} {σ : zV} {v1 : Int32} {v2 : Int32} {v3 : Int32} {v4 : Int32} {v5 : Int32} {v6 : Int32} {s0 : Int32} {s1 : Int32} {s2 : Int32} : eX4_change b d Q 73 [.ref 1, .int v1, .int v2, .int v3, .int v4, .int v5, .int v6] [.int s0, .int s1, .int s2, .ref 3] σ = eX4_change b d Q 74 [.ref 1, .int v1, .int v2, .int v3, .int v4, .int v5, .int v6] [.int (s1 - s0), .int s2, .ref 3] σ := q_isub (zCall_mono (zUn b) d) (by decide +kernel : decode cX4_change 73 = .ok (.isub, 1))
theorem eX4_change_74 {b : Bool} {d : Nat} {Q : zQ} {σ : zV} {v1 : Int32} {v2 : Int32} {v3 : Int32} {v4 : Int32} {v5 : Int32} {v6 : Int32} {s0 : Int32} {s1 : Int32} : eX4_change b d Q 74 [.ref 1, .int v1, .int v2, .int v3, .int v4, .int v5, .int v6] [.int s0, .int s1, .ref 3] σ = (vp_in s1 48 ∧ eX4_change b d Q 75 [.ref 1, .int v1, .int v2, .int v3, .int v4, .int v5, .int v6] [] (zput σ 3 s1.toNatClampNeg s0)) := q_iast (zCall_mono (zUn b) d) (by decide +kernel : decode cX4_change 74 = .ok (.iastore, 1)) (u_3 b)
theorem eX4_change_75 {b : Bool} {d : Nat} {Q : zQ} {σ : zV} {v1 : Int32} {v2 : Int32} {v3 : Int32} {v4 : Int32} {v5 : Int32} {v6 : Int32} : eX4_change b d Q 75 [.ref 1, .int v1, .int v2, .int v3, .int v4, .int v5, .int v6] [] σ = eX4_change b d Q 76 [.ref 1, .int v1, .int v2, .int v3, .int v4, .int v5, .int v6] [.ref 1] σ := q_aload_n (zCall_mono (zUn b) d) (by decide +kernel : decode cX4_change 75 = .ok (.aload_n 0, 1)) rfl
theorem eX4_change_76 {b : Bool} {d : Nat} {Q : zQ} {σ : zV} {v1 : Int32} {v2 : Int32} {v3 : Int32} {v4 : Int32} {v5 : Int32} {v6 : Int32} : eX4_change b d Q 76 [.ref 1, .int v1, .int v2, .int v3, .int v4, .int v5, .int v6] [.ref 1] σ = eX4_change b d Q 79 [.ref 1, .int v1, .int v2, .int v3, .int v4, .int v5, .int v6] [.ref 4] σ := q_getR (zCall_mono (zUn b) d) (by decide +kernel : decode cX4_change 76 = .ok (.getfield 18, 3)) zf_RX4_18 (u_1 b) rfl
theorem eX4_change_79 {b : Bool} {d : Nat} {Q : zQ} {σ : zV} {v1 : Int32} {v2 : Int32} {v3 : Int32} {v4 : Int32} {v5 : Int32} {v6 : Int32} : eX4_change b d Q 79 [.ref 1, .int v1, .int v2, .int v3, .int v4, .int v5, .int v6] [.ref 4] σ = eX4_change b d Q 81 [.ref 1, .int v1, .int v2, .int v3, .int v4, .int v5, .int v6] [.int v6, .ref 4] σ := q_iload (zCall_mono (zUn b) d) (by decide +kernel : decode cX4_change 79 = .ok (.iload 6, 2)) rfl
theorem eX4_change_81 {b : Bool} {d : Nat} {Q : zQ} {σ : zV} {v1 : Int32} {v2 : Int32} {v3 : Int32} {v4 : Int32} {v5 : Int32} {v6 : Int32} {s0 : Int32} : eX4_change b d Q 81 [.ref 1, .int v1, .int v2, .int v3, .int v4, .int v5, .int v6] [.int s0, .ref 4] σ = eX4_change b d Q 82 [.ref 1, .int v1, .int v2, .int v3, .int v4, .int v5, .int v6] [.ref 1, .int s0, .ref 4] σ := q_aload_n (zCall_mono (zUn b) d) (by decide +kernel : decode cX4_change 81 = .ok (.aload_n 0, 1)) rfl
theorem eX4_change_82 {b : Bool} {d : Nat} {Q : zQ} {σ : zV} {v1 : Int32} {v2 : Int32} {v3 : Int32} {v4 : Int32} {v5 : Int32} {v6 : Int32} {s1 : Int32} : eX4_change b d Q 82 [.ref 1, .int v1, .int v2, .int v3, .int v4, .int v5, .int v6] [.ref 1, .int s1, .ref 4] σ = eX4_change b d Q 85 [.ref 1, .int v1, .int v2, .int v3, .int v4, .int v5, .int v6] [.ref 3, .int s1, .ref 4] σ := q_getR (zCall_mono (zUn b) d) (by decide +kernel : decode cX4_change 82 = .ok (.getfield 15, 3)) zf_RX4_15 (u_1 b) rfl
theorem eX4_change_85 {b : Bool} {d : Nat} {Q : zQ} {σ : zV} {v1 : Int32} {v2 : Int32} {v3 : Int32} {v4 : Int32} {v5 : Int32} {v6 : Int32} {s1 : Int32} : eX4_change b d Q 85 [.ref 1, .int v1, .int v2, .int v3, .int v4, .int v5, .int v6] [.ref 3, .int s1, .ref 4] σ = eX4_change b d Q 87 [.ref 1, .int v1, .int v2, .int v3, .int v4, .int v5, .int v6] [.int v5, .ref 3, .int s1, .ref 4] σ := q_iload (zCall_mono (zUn b) d) (by decide +kernel : decode cX4_change 85 = .ok (.iload 5, 2)) rfl
theorem eX4_change_87 {b : Bool} {d : Nat} {Q : zQ} {σ : zV} {v1 : Int32} {v2 : Int32} {v3 : Int32} {v4 : Int32} {v5 : Int32} {v6 : Int32} {s0 : Int32} {s2 : Int32} : eX4_change b d Q 87 [.ref 1, .int v1, .int v2, .int v3, .int v4, .int v5, .int v6] [.int s0, .ref 3, .int s2, .ref 4] σ = (vp_in s0 48 ∧ eX4_change b d Q 88 [.ref 1, .int v1, .int v2, .int v3, .int v4, .int v5, .int v6] [.int (σ 3 s0.toNatClampNeg), .int s2, .ref 4] σ) := q_iald (zCall_mono (zUn b) d) (by decide +kernel : decode cX4_change 87 = .ok (.iaload, 1)) (u_3 b)
theorem eX4_change_88 {b : Bool} {d : Nat} {Q : zQ} {σ : zV} {v1 : Int32} {v2 : Int32} {v3 : Int32} {v4 : Int32} {v5 : Int32} {v6 : Int32} {s0 : Int32} {s1 : Int32} : eX4_change b d Q 88 [.ref 1, .int v1, .int v2, .int v3, .int v4, .int v5, .int v6] [.int s0, .int s1, .ref 4] σ = eX4_change b d Q 89 [.ref 1, .int v1, .int v2, .int v3, .int v4, .int v5, .int v6] [.int (s1 + s0), .ref 4] σ := q_iadd (zCall_mono (zUn b) d) (by decide +kernel : decode cX4_change 88 = .ok (.iadd, 1))
theorem eX4_change_89 {b : Bool} {d : Nat} {Q : zQ} {σ : zV} {v1 : Int32} {v2 : Int32} {v3 : Int32} {v4 : Int32} {v5 : Int32} {v6 : Int32} {s0 : Int32} : eX4_change b d Q 89 [.ref 1, .int v1, .int v2, .int v3, .int v4, .int v5, .int v6] [.int s0, .ref 4] σ = eX4_change b d Q 90 [.ref 1, .int v1, .int v2, .int v3, .int v4, .int v5, .int v6] [.int v3, .int s0, .ref 4] σ := q_iload_n (zCall_mono (zUn b) d) (by decide +kernel : decode cX4_change 89 = .ok (.iload_n 3, 1)) rfl
theorem eX4_change_90 {b : Bool} {d : Nat} {Q : zQ} {σ : zV} {v1 : Int32} {v2 : Int32} {v3 : Int32} {v4 : Int32} {v5 : Int32} {v6 : Int32} {s0 : Int32} {s1 : Int32} : eX4_change b d Q 90 [.ref 1, .int v1, .int v2, .int v3, .int v4, .int v5, .int v6] [.int s0, .int s1, .ref 4] σ = (vp_in s1 960 ∧ eX4_change b d Q 91 [.ref 1, .int v1, .int v2, .int v3, .int v4, .int v5, .int v6] [] (zput σ 4 s1.toNatClampNeg s0)) := q_iast (zCall_mono (zUn b) d) (by decide +kernel : decode cX4_change 90 = .ok (.iastore, 1)) (u_4 b)
theorem eX4_change_91 {b : Bool} {d : Nat} {Q : zQ} {σ : zV} {v1 : Int32} {v2 : Int32} {v3 : Int32} {v4 : Int32} {v5 : Int32} {v6 : Int32} : eX4_change b d Q 91 [.ref 1, .int v1, .int v2, .int v3, .int v4, .int v5, .int v6] [] σ = eX4_change b d Q 92 [.ref 1, .int v1, .int v2, .int v3, .int v4, .int v5, .int v6] [.ref 1] σ := q_aload_n (zCall_mono (zUn b) d) (by decide +kernel : decode cX4_change 91 = .ok (.aload_n 0, 1)) rfl
theorem eX4_change_92 {b : Bool} {d : Nat} {Q : zQ} {σ : zV} {v1 : Int32} {v2 : Int32} {v3 : Int32} {v4 : Int32} {v5 : Int32} {v6 : Int32} : eX4_change b d Q 92 [.ref 1, .int v1, .int v2, .int v3, .int v4, .int v5, .int v6] [.ref 1] σ = eX4_change b d Q 95 [.ref 1, .int v1, .int v2, .int v3, .int v4, .int v5, .int v6] [.ref 5] σ := q_getR (zCall_mono (zUn b) d) (by decide +kernel : decode cX4_change 92 = .ok (.getfield 21, 3)) zf_RX4_21 (u_1 b) rfl
theorem eX4_change_95 {b : Bool} {d : Nat} {Q : zQ} {σ : zV} {v1 : Int32} {v2 : Int32} {v3 : Int32} {v4 : Int32} {v5 : Int32} {v6 : Int32} : eX4_change b d Q 95 [.ref 1, .int v1, .int v2, .int v3, .int v4, .int v5, .int v6] [.ref 5] σ = eX4_change b d Q 97 [.ref 1, .int v1, .int v2, .int v3, .int v4, .int v5, .int v6] [.int v6, .ref 5] σ := q_iload (zCall_mono (zUn b) d) (by decide +kernel : decode cX4_change 95 = .ok (.iload 6, 2)) rfl
theorem eX4_change_97 {b : Bool} {d : Nat} {Q : zQ} {σ : zV} {v1 : Int32} {v2 : Int32} {v3 : Int32} {v4 : Int32} {v5 : Int32} {v6 : Int32} {s0 : Int32} : eX4_change b d Q 97 [.ref 1, .int v1, .int v2, .int v3, .int v4, .int v5, .int v6] [.int s0, .ref 5] σ = eX4_change b d Q 98 [.ref 1, .int v1, .int v2, .int v3, .int v4, .int v5, .int v6] [.ref 1, .int s0, .ref 5] σ := q_aload_n (zCall_mono (zUn b) d) (by decide +kernel : decode cX4_change 97 = .ok (.aload_n 0, 1)) rfl
theorem eX4_change_98 {b : Bool} {d : Nat} {Q : zQ} {σ : zV} {v1 : Int32} {v2 : Int32} {v3 : Int32} {v4 : Int32} {v5 : Int32} {v6 : Int32} {s1 : Int32} : eX4_change b d Q 98 [.ref 1, .int v1, .int v2, .int v3, .int v4, .int v5, .int v6] [.ref 1, .int s1, .ref 5] σ = eX4_change b d Q 101 [.ref 1, .int v1, .int v2, .int v3, .int v4, .int v5, .int v6] [.ref 3, .int s1, .ref 5] σ := q_getR (zCall_mono (zUn b) d) (by decide +kernel : decode cX4_change 98 = .ok (.getfield 15, 3)) zf_RX4_15 (u_1 b) rfl
theorem eX4_change_101 {b : Bool} {d : Nat} {Q : zQ} {σ : zV} {v1 : Int32} {v2 : Int32} {v3 : Int32} {v4 : Int32} {v5 : Int32} {v6 : Int32} {s1 : Int32} : eX4_change b d Q 101 [.ref 1, .int v1, .int v2, .int v3, .int v4, .int v5, .int v6] [.ref 3, .int s1, .ref 5] σ = eX4_change b d Q 103 [.ref 1, .int v1, .int v2, .int v3, .int v4, .int v5, .int v6] [.int v5, .ref 3, .int s1, .ref 5] σ := q_iload (zCall_mono (zUn b) d) (by decide +kernel : decode cX4_change 101 = .ok (.iload 5, 2)) rfl
theorem eX4_change_103 {b : Bool} {d : Nat} {Q : zQ} {σ : zV} {v1 : Int32} {v2 : Int32} {v3 : Int32} {v4 : Int32} {v5 : Int32} {v6 : Int32} {s0 : Int32} {s2 : Int32} : eX4_change b d Q 103 [.ref 1, .int v1, .int v2, .int v3, .int v4, .int v5, .int v6] [.int s0, .ref 3, .int s2, .ref 5] σ = (vp_in s0 48 ∧ eX4_change b d Q 104 [.ref 1, .int v1, .int v2, .int v3, .int v4, .int v5, .int v6] [.int (σ 3 s0.toNatClampNeg), .int s2, .ref 5] σ) := q_iald (zCall_mono (zUn b) d) (by decide +kernel : decode cX4_change 103 = .ok (.iaload, 1)) (u_3 b)
theorem eX4_change_104 {b : Bool} {d : Nat} {Q : zQ} {σ : zV} {v1 : Int32} {v2 : Int32} {v3 : Int32} {v4 : Int32} {v5 : Int32} {v6 : Int32} {s0 : Int32} {s1 : Int32} : eX4_change b d Q 104 [.ref 1, .int v1, .int v2, .int v3, .int v4, .int v5, .int v6] [.int s0, .int s1, .ref 5] σ = eX4_change b d Q 105 [.ref 1, .int v1, .int v2, .int v3, .int v4, .int v5, .int v6] [.int (s1 + s0), .ref 5] σ := q_iadd (zCall_mono (zUn b) d) (by decide +kernel : decode cX4_change 104 = .ok (.iadd, 1))
theorem eX4_change_105 {b : Bool} {d : Nat} {Q : zQ} {σ : zV} {v1 : Int32} {v2 : Int32} {v3 : Int32} {v4 : Int32} {v5 : Int32} {v6 : Int32} {s0 : Int32} : eX4_change b d Q 105 [.ref 1, .int v1, .int v2, .int v3, .int v4, .int v5, .int v6] [.int s0, .ref 5] σ = eX4_change b d Q 107 [.ref 1, .int v1, .int v2, .int v3, .int v4, .int v5, .int v6] [.int v4, .int s0, .ref 5] σ := q_iload (zCall_mono (zUn b) d) (by decide +kernel : decode cX4_change 105 = .ok (.iload 4, 2)) rfl
theorem eX4_change_107 {b : Bool} {d : Nat} {Q : zQ} {σ : zV} {v1 : Int32} {v2 : Int32} {v3 : Int32} {v4 : Int32} {v5 : Int32} {v6 : Int32} {s0 : Int32} {s1 : Int32} : eX4_change b d Q 107 [.ref 1, .int v1, .int v2, .int v3, .int v4, .int v5, .int v6] [.int s0, .int s1, .ref 5] σ = (vp_in s1 960 ∧ eX4_change b d Q 108 [.ref 1, .int v1, .int v2, .int v3, .int v4, .int v5, .int v6] [] (zput σ 5 s1.toNatClampNeg s0)) := q_iast (zCall_mono (zUn b) d) (by decide +kernel : decode cX4_change 107 = .ok (.iastore, 1)) (u_5 b)
theorem eX4_change_108 {b : Bool} {d : Nat} {Q : zQ} {σ : zV} {v1 : Int32} {v2 : Int32} {v3 : Int32} {v4 : Int32} {v5 : Int32} {v6 : Int32} : eX4_change b d Q 108 [.ref 1, .int v1, .int v2, .int v3, .int v4, .int v5, .int v6] [] σ = eX4_change b d Q 109 [.ref 1, .int v1, .int v2, .int v3, .int v4, .int v5, .int v6] [.ref 1] σ := q_aload_n (zCall_mono (zUn b) d) (by decide +kernel : decode cX4_change 108 = .ok (.aload_n 0, 1)) rfl
theorem eX4_change_109 {b : Bool} {d : Nat} {Q : zQ} {σ : zV} {v1 : Int32} {v2 : Int32} {v3 : Int32} {v4 : Int32} {v5 : Int32} {v6 : Int32} : eX4_change b d Q 109 [.ref 1, .int v1, .int v2, .int v3, .int v4, .int v5, .int v6] [.ref 1] σ = eX4_change b d Q 112 [.ref 1, .int v1, .int v2, .int v3, .int v4, .int v5, .int v6] [.ref 3] σ := q_getR (zCall_mono (zUn b) d) (by decide +kernel : decode cX4_change 109 = .ok (.getfield 15, 3)) zf_RX4_15 (u_1 b) rfl
theorem eX4_change_112 {b : Bool} {d : Nat} {Q : zQ} {σ : zV} {v1 : Int32} {v2 : Int32} {v3 : Int32} {v4 : Int32} {v5 : Int32} {v6 : Int32} : eX4_change b d Q 112 [.ref 1, .int v1, .int v2, .int v3, .int v4, .int v5, .int v6] [.ref 3] σ = eX4_change b d Q 114 [.ref 1, .int v1, .int v2, .int v3, .int v4, .int v5, .int v6] [.int v5, .ref 3] σ := q_iload (zCall_mono (zUn b) d) (by decide +kernel : decode cX4_change 112 = .ok (.iload 5, 2)) rfl
theorem eX4_change_114 {b : Bool} {d : Nat} {Q : zQ} {σ : zV} {v1 : Int32} {v2 : Int32} {v3 : Int32} {v4 : Int32} {v5 : Int32} {v6 : Int32} {s0 : Int32} : eX4_change b d Q 114 [.ref 1, .int v1, .int v2, .int v3, .int v4, .int v5, .int v6] [.int s0, .ref 3] σ = eX4_change b d Q 115 [.ref 1, .int v1, .int v2, .int v3, .int v4, .int v5, .int v6] [.int s0, .ref 3, .int s0, .ref 3] σ := q_dup2 (zCall_mono (zUn b) d) (by decide +kernel : decode cX4_change 114 = .ok (.dup2, 1)) rfl rfl
theorem eX4_change_115 {b : Bool} {d : Nat} {Q : zQ} {σ : zV} {v1 : Int32} {v2 : Int32} {v3 : Int32} {v4 : Int32} {v5 : Int32} {v6 : Int32} {s0 : Int32} {s2 : Int32} : eX4_change b d Q 115 [.ref 1, .int v1, .int v2, .int v3, .int v4, .int v5, .int v6] [.int s0, .ref 3, .int s2, .ref 3] σ = (vp_in s0 48 ∧ eX4_change b d Q 116 [.ref 1, .int v1, .int v2, .int v3, .int v4, .int v5, .int v6] [.int (σ 3 s0.toNatClampNeg), .int s2, .ref 3] σ) := q_iald (zCall_mono (zUn b) d) (by decide +kernel : decode cX4_change 115 = .ok (.iaload, 1)) (u_3 b)
theorem eX4_change_116 {b : Bool} {d : Nat} {Q : zQ} {σ : zV} {v1 : Int32} {v2 : Int32} {v3 : Int32} {v4 : Int32} {v5 : Int32} {v6 : Int32} {s0 : Int32} {s1 : Int32} : eX4_change b d Q 116 [.ref 1, .int v1, .int v2, .int v3, .int v4, .int v5, .int v6] [.int s0, .int s1, .ref 3] σ = eX4_change b d Q 117 [.ref 1, .int v1, .int v2, .int v3, .int v4, .int v5, .int v6] [.int 1, .int s0, .int s1, .ref 3] σ := q_iconst (zCall_mono (zUn b) d) (by decide +kernel : decode cX4_change 116 = .ok (.iconst 1, 1)) (by decide +kernel)
theorem eX4_change_117 {b : Bool} {d : Nat} {Q : zQ} {σ : zV} {v1 : Int32} {v2 : Int32} {v3 : Int32} {v4 : Int32} {v5 : Int32} {v6 : Int32} {s0 : Int32} {s1 : Int32} {s2 : Int32} : eX4_change b d Q 117 [.ref 1, .int v1, .int v2, .int v3, .int v4, .int v5, .int v6] [.int s0, .int s1, .int s2, .ref 3] σ = eX4_change b d Q 118 [.ref 1, .int v1, .int v2, .int v3, .int v4, .int v5, .int v6] [.int (s1 + s0), .int s2, .ref 3] σ := q_iadd (zCall_mono (zUn b) d) (by decide +kernel : decode cX4_change 117 = .ok (.iadd, 1))
theorem eX4_change_118 {b : Bool} {d : Nat} {Q : zQ} {σ : zV} {v1 : Int32} {v2 : Int32} {v3 : Int32} {v4 : Int32} {v5 : Int32} {v6 : Int32} {s0 : Int32} {s1 : Int32} : eX4_change b d Q 118 [.ref 1, .int v1, .int v2, .int v3, .int v4, .int v5, .int v6] [.int s0, .int s1, .ref 3] σ = (vp_in s1 48 ∧ eX4_change b d Q 119 [.ref 1, .int v1, .int v2, .int v3, .int v4, .int v5, .int v6] [] (zput σ 3 s1.toNatClampNeg s0)) := q_iast (zCall_mono (zUn b) d) (by decide +kernel : decode cX4_change 118 = .ok (.iastore, 1)) (u_3 b)
theorem eX4_change_119 {b : Bool} {d : Nat} {Q : zQ} {σ : zV} {v1 : Int32} {v2 : Int32} {v3 : Int32} {v4 : Int32} {v5 : Int32} {v6 : Int32} : eX4_change b d Q 119 [.ref 1, .int v1, .int v2, .int v3, .int v4, .int v5, .int v6] [] σ = Q none σ := q_vret (zCall_mono (zUn b) d) (by decide +kernel : decode cX4_change 119 = .ok (.return_, 1)) rfl
theorem nX4_change {b : Bool} {d : Nat} {Q : zQ} {σ : zV} {v1 : Int32} {v2 : Int32} {v3 : Int32} {v4 : Int32} : zCall (zUn b) (d + 1) yX4_change [.ref 1, .int v1, .int v2, .int v3, .int v4] σ Q = eX4_change b d Q 0 [.ref 1, .int v1, .int v2, .int v3, .int v4, .null, .null] [] σ := (q_call kX4_change (Nat.le_of_ble_eq_true rfl)).trans rfl
def eX4_changeAllToNone (b : Bool) (d : Nat) (Q : zQ) : zP := zEv (zUn b) (zCall (zUn b) d) RX4 cX4_changeAllToNone 4 none none Q
theorem eX4_changeAllToNone_0 {b : Bool} {d : Nat} {Q : zQ} {σ : zV} {v1 : Int32} {v2 : Int32} : eX4_changeAllToNone b d Q 0 [.ref 1, .int v1, .int v2, .null] [] σ = eX4_changeAllToNone b d Q 1 [.ref 1, .int v1, .int v2, .null] [.int 0] σ := q_iconst (zCall_mono (zUn b) d) (by decide +kernel : decode cX4_changeAllToNone 0 = .ok (.iconst 0, 1)) (by decide +kernel)
theorem eX4_changeAllToNone_1 {b : Bool} {d : Nat} {Q : zQ} {σ : zV} {v1 : Int32} {v2 : Int32} {s0 : Int32} : eX4_changeAllToNone b d Q 1 [.ref 1, .int v1, .int v2, .null] [.int s0] σ = eX4_changeAllToNone b d Q 2 [.ref 1, .int v1, .int v2, .int s0] [] σ := q_istore_n (zCall_mono (zUn b) d) (by decide +kernel : decode cX4_changeAllToNone 1 = .ok (.istore_n 3, 1)) (Nat.le_of_ble_eq_true rfl) (fun v h => by cases h; rfl) rfl
theorem eX4_changeAllToNone_2 {b : Bool} {d : Nat} {Q : zQ} {σ : zV} {v1 : Int32} {v2 : Int32} {v3 : Int32} : eX4_changeAllToNone b d Q 2 [.ref 1, .int v1, .int v2, .int v3] [] σ = eX4_changeAllToNone b d Q 3 [.ref 1, .int v1, .int v2, .int v3] [.int v3] σ := q_iload_n (zCall_mono (zUn b) d) (by decide +kernel : decode cX4_changeAllToNone 2 = .ok (.iload_n 3, 1)) rfl
theorem eX4_changeAllToNone_3 {b : Bool} {d : Nat} {Q : zQ} {σ : zV} {v1 : Int32} {v2 : Int32} {v3 : Int32} {s0 : Int32} : eX4_changeAllToNone b d Q 3 [.ref 1, .int v1, .int v2, .int v3] [.int s0] σ = eX4_changeAllToNone b d Q 5 [.ref 1, .int v1, .int v2, .int v3] [.int 16, .int s0] σ := q_bipush (zCall_mono (zUn b) d) (by decide +kernel : decode cX4_changeAllToNone 3 = .ok (.bipush 16, 2)) (by decide +kernel)
theorem eX4_changeAllToNone_5 {b : Bool} {d : Nat} {Q : zQ} {σ : zV} {v1 : Int32} {v2 : Int32} {v3 : Int32} {s0 : Int32} {s1 : Int32} : eX4_changeAllToNone b d Q 5 [.ref 1, .int v1, .int v2, .int v3] [.int s0, .int s1] σ = ((s0 ≤ s1 → eX4_changeAllToNone b d Q 32 [.ref 1, .int v1, .int v2, .int v3] [] σ) ∧ (¬ s0 ≤ s1 → eX4_changeAllToNone b d Q 8 [.ref 1, .int v1, .int v2, .int v3] [] σ)) := q_icmp (zCall_mono (zUn b) d) (by decide +kernel : decode cX4_changeAllToNone 5 = .ok (.if_icmp .ge 27, 3)) (by decide)
theorem eX4_changeAllToNone_8 {b : Bool} {d : Nat} {Q : zQ} {σ : zV} {v1 : Int32} {v2 : Int32} {v3 : Int32} : eX4_changeAllToNone b d Q 8 [.ref 1, .int v1, .int v2, .int v3] [] σ = eX4_changeAllToNone b d Q 9 [.ref 1, .int v1, .int v2, .int v3] [.ref 1] σ := q_aload_n (zCall_mono (zUn b) d) (by decide +kernel : decode cX4_changeAllToNone 8 = .ok (.aload_n 0, 1)) rfl
theorem eX4_changeAllToNone_9 {b : Bool} {d : Nat} {Q : zQ} {σ : zV} {v1 : Int32} {v2 : Int32} {v3 : Int32} : eX4_changeAllToNone b d Q 9 [.ref 1, .int v1, .int v2, .int v3] [.ref 1] σ = eX4_changeAllToNone b d Q 10 [.ref 1, .int v1, .int v2, .int v3] [.int v1, .ref 1] σ := q_iload_n (zCall_mono (zUn b) d) (by decide +kernel : decode cX4_changeAllToNone 9 = .ok (.iload_n 1, 1)) rfl
theorem eX4_changeAllToNone_10 {b : Bool} {d : Nat} {Q : zQ} {σ : zV} {v1 : Int32} {v2 : Int32} {v3 : Int32} {s0 : Int32} : eX4_changeAllToNone b d Q 10 [.ref 1, .int v1, .int v2, .int v3] [.int s0, .ref 1] σ = eX4_changeAllToNone b d Q 11 [.ref 1, .int v1, .int v2, .int v3] [.int v3, .int s0, .ref 1] σ := q_iload_n (zCall_mono (zUn b) d) (by decide +kernel : decode cX4_changeAllToNone 10 = .ok (.iload_n 3, 1)) rfl
theorem eX4_changeAllToNone_11 {b : Bool} {d : Nat} {Q : zQ} {σ : zV} {v1 : Int32} {v2 : Int32} {v3 : Int32} {s0 : Int32} {s1 : Int32} : eX4_changeAllToNone b d Q 11 [.ref 1, .int v1, .int v2, .int v3] [.int s0, .int s1, .ref 1] σ = zCall (zUn b) d yX4_entryNow [.ref 1, .int s1, .int s0] σ (fun v σ' => eX4_changeAllToNone b d Q 14 [.ref 1, .int v1, .int v2, .int v3] (v.toList ++ []) σ') := q_inv (As := [.int s1, .int s0]) (r := []) (zCall_mono (zUn b) d) (by decide +kernel : decode cX4_changeAllToNone 11 = .ok (.invokevirtual 38, 3)) zm_RX4_38 (Nat.le_of_ble_eq_true rfl) (u_1 b) zn_4 (Nat.le_of_ble_eq_true rfl) rfl
theorem eX4_changeAllToNone_14 {b : Bool} {d : Nat} {Q : zQ} {σ : zV} {v1 : Int32} {v2 : Int32} {v3 : Int32} {s0 : Int32} : eX4_changeAllToNone b d Q 14 [.ref 1, .int v1, .int v2, .int v3] [.int s0] σ = eX4_changeAllToNone b d Q 15 [.ref 1, .int v1, .int v2, .int v3] [.int (-1), .int s0] σ := q_iconst (zCall_mono (zUn b) d) (by decide +kernel : decode cX4_changeAllToNone 14 = .ok (.iconst (-1), 1)) (by decide +kernel)
theorem eX4_changeAllToNone_15 {b : Bool} {d : Nat} {Q : zQ} {σ : zV} {v1 : Int32} {v2 : Int32} {v3 : Int32} {s0 : Int32} {s1 : Int32} : eX4_changeAllToNone b d Q 15 [.ref 1, .int v1, .int v2, .int v3] [.int s0, .int s1] σ = ((s1 = s0 → eX4_changeAllToNone b d Q 26 [.ref 1, .int v1, .int v2, .int v3] [] σ) ∧ (¬ s1 = s0 → eX4_changeAllToNone b d Q 18 [.ref 1, .int v1, .int v2, .int v3] [] σ)) := q_icmp (zCall_mono (zUn b) d) (by decide +kernel : decode cX4_changeAllToNone 15 = .ok (.if_icmp .eq 11, 3)) (by decide)
theorem eX4_changeAllToNone_18 {b : Bool} {d : Nat} {Q : zQ} {σ : zV} {v1 : Int32} {v2 : Int32} {v3 : Int32} : eX4_changeAllToNone b d Q 18 [.ref 1, .int v1, .int v2, .int v3] [] σ = eX4_changeAllToNone b d Q 19 [.ref 1, .int v1, .int v2, .int v3] [.ref 1] σ := q_aload_n (zCall_mono (zUn b) d) (by decide +kernel : decode cX4_changeAllToNone 18 = .ok (.aload_n 0, 1)) rfl
theorem eX4_changeAllToNone_19 {b : Bool} {d : Nat} {Q : zQ} {σ : zV} {v1 : Int32} {v2 : Int32} {v3 : Int32} : eX4_changeAllToNone b d Q 19 [.ref 1, .int v1, .int v2, .int v3] [.ref 1] σ = eX4_changeAllToNone b d Q 20 [.ref 1, .int v1, .int v2, .int v3] [.int v1, .ref 1] σ := q_iload_n (zCall_mono (zUn b) d) (by decide +kernel : decode cX4_changeAllToNone 19 = .ok (.iload_n 1, 1)) rfl
theorem eX4_changeAllToNone_20 {b : Bool} {d : Nat} {Q : zQ} {σ : zV} {v1 : Int32} {v2 : Int32} {v3 : Int32} {s0 : Int32} : eX4_changeAllToNone b d Q 20 [.ref 1, .int v1, .int v2, .int v3] [.int s0, .ref 1] σ = eX4_changeAllToNone b d Q 21 [.ref 1, .int v1, .int v2, .int v3] [.int v3, .int s0, .ref 1] σ := q_iload_n (zCall_mono (zUn b) d) (by decide +kernel : decode cX4_changeAllToNone 20 = .ok (.iload_n 3, 1)) rfl
theorem eX4_changeAllToNone_21 {b : Bool} {d : Nat} {Q : zQ} {σ : zV} {v1 : Int32} {v2 : Int32} {v3 : Int32} {s0 : Int32} {s1 : Int32} : eX4_changeAllToNone b d Q 21 [.ref 1, .int v1, .int v2, .int v3] [.int s0, .int s1, .ref 1] σ = eX4_changeAllToNone b d Q 22 [.ref 1, .int v1, .int v2, .int v3] [.int (-1), .int s0, .int s1, .ref 1] σ := q_iconst (zCall_mono (zUn b) d) (by decide +kernel : decode cX4_changeAllToNone 21 = .ok (.iconst (-1), 1)) (by decide +kernel)
theorem eX4_changeAllToNone_22 {b : Bool} {d : Nat} {Q : zQ} {σ : zV} {v1 : Int32} {v2 : Int32} {v3 : Int32} {s0 : Int32} {s1 : Int32} {s2 : Int32} : eX4_changeAllToNone b d Q 22 [.ref 1, .int v1, .int v2, .int v3] [.int s0, .int s1, .int s2, .ref 1] σ = eX4_changeAllToNone b d Q 23 [.ref 1, .int v1, .int v2, .int v3] [.int v2, .int s0, .int s1, .int s2, .ref 1] σ := q_iload_n (zCall_mono (zUn b) d) (by decide +kernel : decode cX4_changeAllToNone 22 = .ok (.iload_n 2, 1)) rfl
theorem eX4_changeAllToNone_23 {b : Bool} {d : Nat} {Q : zQ} {σ : zV} {v1 : Int32} {v2 : Int32} {v3 : Int32} {s0 : Int32} {s1 : Int32} {s2 : Int32} {s3 : Int32} : eX4_changeAllToNone b d Q 23 [.ref 1, .int v1, .int v2, .int v3] [.int s0, .int s1, .int s2, .int s3, .ref 1] σ = zCall (zUn b) d yX4_change [.ref 1, .int s3, .int s2, .int s1, .int s0] σ (fun v σ' => eX4_changeAllToNone b d Q 26 [.ref 1, .int v1, .int v2, .int v3] (v.toList ++ []) σ') := q_inv (As := [.int s3, .int s2, .int s1, .int s0]) (r := []) (zCall_mono (zUn b) d) (by decide +kernel : decode cX4_changeAllToNone 23 = .ok (.invokevirtual 47, 3)) zm_RX4_47 (Nat.le_of_ble_eq_true rfl) (u_1 b) zn_4 (Nat.le_of_ble_eq_true rfl) rfl
theorem eX4_changeAllToNone_26 {b : Bool} {d : Nat} {Q : zQ} {σ : zV} {v1 : Int32} {v2 : Int32} {v3 : Int32} : eX4_changeAllToNone b d Q 26 [.ref 1, .int v1, .int v2, .int v3] [] σ = eX4_changeAllToNone b d Q 29 [.ref 1, .int v1, .int v2, .int (v3 + 1)] [] σ := q_iinc (zCall_mono (zUn b) d) (by decide +kernel : decode cX4_changeAllToNone 26 = .ok (.iinc 3 1, 3)) rfl (Nat.le_of_ble_eq_true rfl) (fun v h => by cases h; rfl) (by decide +kernel) rfl
theorem eX4_changeAllToNone_29 {b : Bool} {d : Nat} {Q : zQ} {σ : zV} {v1 : Int32} {v2 : Int32} {v3 : Int32} : eX4_changeAllToNone b d Q 29 [.ref 1, .int v1, .int v2, .int v3] [] σ = eX4_changeAllToNone b d Q 2 [.ref 1, .int v1, .int v2, .int v3] [] σ := q_goto (zCall_mono (zUn b) d) (by decide +kernel : decode cX4_changeAllToNone 29 = .ok (.goto (-27), 3)) (by decide)
theorem eX4_changeAllToNone_32 {b : Bool} {d : Nat} {Q : zQ} {σ : zV} {v1 : Int32} {v2 : Int32} {v3 : Int32} : eX4_changeAllToNone b d Q 32 [.ref 1, .int v1, .int v2, .int v3] [] σ = Q none σ := q_vret (zCall_mono (zUn b) d) (by decide +kernel : decode cX4_changeAllToNone 32 = .ok (.return_, 1)) rfl
theorem nX4_changeAllToNone {b : Bool} {d : Nat} {Q : zQ} {σ : zV} {v1 : Int32} {v2 : Int32} : zCall (zUn b) (d + 1) yX4_changeAllToNone [.ref 1, .int v1, .int v2] σ Q = eX4_changeAllToNone b d Q 0 [.ref 1, .int v1, .int v2, .null] [] σ := (q_call kX4_changeAllToNone (Nat.le_of_ble_eq_true rfl)).trans rfl
def eX4_entryKept (b : Bool) (d : Nat) (Q : zQ) : zP := zEv (zUn b) (zCall (zUn b) d) RX4 cX4_entryKept 4 (some .int) none Q
theorem eX4_entryKept_0 {b : Bool} {d : Nat} {Q : zQ} {σ : zV} {v1 : Int32} {v2 : Int32} {v3 : Int32} : eX4_entryKept b d Q 0 [.ref 1, .int v1, .int v2, .int v3] [] σ = eX4_entryKept b d Q 1 [.ref 1, .int v1, .int v2, .int v3] [.ref 1] σ := q_aload_n (zCall_mono (zUn b) d) (by decide +kernel : decode cX4_entryKept 0 = .ok (.aload_n 0, 1)) rfl
theorem eX4_entryKept_1 {b : Bool} {d : Nat} {Q : zQ} {σ : zV} {v1 : Int32} {v2 : Int32} {v3 : Int32} : eX4_entryKept b d Q 1 [.ref 1, .int v1, .int v2, .int v3] [.ref 1] σ = eX4_entryKept b d Q 4 [.ref 1, .int v1, .int v2, .int v3] [.ref 4] σ := q_getR (zCall_mono (zUn b) d) (by decide +kernel : decode cX4_entryKept 1 = .ok (.getfield 18, 3)) zf_RX4_18 (u_1 b) rfl
theorem eX4_entryKept_4 {b : Bool} {d : Nat} {Q : zQ} {σ : zV} {v1 : Int32} {v2 : Int32} {v3 : Int32} : eX4_entryKept b d Q 4 [.ref 1, .int v1, .int v2, .int v3] [.ref 4] σ = eX4_entryKept b d Q 5 [.ref 1, .int v1, .int v2, .int v3] [.int v1, .ref 4] σ := q_iload_n (zCall_mono (zUn b) d) (by decide +kernel : decode cX4_entryKept 4 = .ok (.iload_n 1, 1)) rfl
theorem eX4_entryKept_5 {b : Bool} {d : Nat} {Q : zQ} {σ : zV} {v1 : Int32} {v2 : Int32} {v3 : Int32} {s0 : Int32} : eX4_entryKept b d Q 5 [.ref 1, .int v1, .int v2, .int v3] [.int s0, .ref 4] σ = eX4_entryKept b d Q 6 [.ref 1, .int v1, .int v2, .int v3] [.int v2, .int s0, .ref 4] σ := q_iload_n (zCall_mono (zUn b) d) (by decide +kernel : decode cX4_entryKept 5 = .ok (.iload_n 2, 1)) rfl
theorem eX4_entryKept_6 {b : Bool} {d : Nat} {Q : zQ} {σ : zV} {v1 : Int32} {v2 : Int32} {v3 : Int32} {s0 : Int32} {s1 : Int32} : eX4_entryKept b d Q 6 [.ref 1, .int v1, .int v2, .int v3] [.int s0, .int s1, .ref 4] σ = zCall (zUn b) d yX4_rowOf [.int s1, .int s0] σ (fun v σ' => eX4_entryKept b d Q 9 [.ref 1, .int v1, .int v2, .int v3] (v.toList ++ [.ref 4]) σ') := q_ins (As := [.int s1, .int s0]) (r := [.ref 4]) (zCall_mono (zUn b) d) (by decide +kernel : decode cX4_entryKept 6 = .ok (.invokestatic 30, 3)) zm_RX4_30 (Nat.le_of_ble_eq_true rfl) rfl
theorem eX4_entryKept_9 {b : Bool} {d : Nat} {Q : zQ} {σ : zV} {v1 : Int32} {v2 : Int32} {v3 : Int32} {s0 : Int32} : eX4_entryKept b d Q 9 [.ref 1, .int v1, .int v2, .int v3] [.int s0, .ref 4] σ = eX4_entryKept b d Q 11 [.ref 1, .int v1, .int v2, .int v3] [.int 20, .int s0, .ref 4] σ := q_bipush (zCall_mono (zUn b) d) (by decide +kernel : decode cX4_entryKept 9 = .ok (.bipush 20, 2)) (by decide +kernel)
theorem eX4_entryKept_11 {b : Bool} {d : Nat} {Q : zQ} {σ : zV} {v1 : Int32} {v2 : Int32} {v3 : Int32} {s0 : Int32} {s1 : Int32} : eX4_entryKept b d Q 11 [.ref 1, .int v1, .int v2, .int v3] [.int s0, .int s1, .ref 4] σ = eX4_entryKept b d Q 12 [.ref 1, .int v1, .int v2, .int v3] [.int (s1 * s0), .ref 4] σ := q_imul (zCall_mono (zUn b) d) (by decide +kernel : decode cX4_entryKept 11 = .ok (.imul, 1))
theorem eX4_entryKept_12 {b : Bool} {d : Nat} {Q : zQ} {σ : zV} {v1 : Int32} {v2 : Int32} {v3 : Int32} {s0 : Int32} : eX4_entryKept b d Q 12 [.ref 1, .int v1, .int v2, .int v3] [.int s0, .ref 4] σ = eX4_entryKept b d Q 13 [.ref 1, .int v1, .int v2, .int v3] [.int v3, .int s0, .ref 4] σ := q_iload_n (zCall_mono (zUn b) d) (by decide +kernel : decode cX4_entryKept 12 = .ok (.iload_n 3, 1)) rfl
theorem eX4_entryKept_13 {b : Bool} {d : Nat} {Q : zQ} {σ : zV} {v1 : Int32} {v2 : Int32} {v3 : Int32} {s0 : Int32} {s1 : Int32} : eX4_entryKept b d Q 13 [.ref 1, .int v1, .int v2, .int v3] [.int s0, .int s1, .ref 4] σ = eX4_entryKept b d Q 14 [.ref 1, .int v1, .int v2, .int v3] [.int (s1 + s0), .ref 4] σ := q_iadd (zCall_mono (zUn b) d) (by decide +kernel : decode cX4_entryKept 13 = .ok (.iadd, 1))
theorem eX4_entryKept_14 {b : Bool} {d : Nat} {Q : zQ} {σ : zV} {v1 : Int32} {v2 : Int32} {v3 : Int32} {s0 : Int32} : eX4_entryKept b d Q 14 [.ref 1, .int v1, .int v2, .int v3] [.int s0, .ref 4] σ = (vp_in s0 960 ∧ eX4_entryKept b d Q 15 [.ref 1, .int v1, .int v2, .int v3] [.int (σ 4 s0.toNatClampNeg)] σ) := q_iald (zCall_mono (zUn b) d) (by decide +kernel : decode cX4_entryKept 14 = .ok (.iaload, 1)) (u_4 b)
theorem eX4_entryKept_15 {b : Bool} {d : Nat} {Q : zQ} {σ : zV} {v1 : Int32} {v2 : Int32} {v3 : Int32} {s0 : Int32} : eX4_entryKept b d Q 15 [.ref 1, .int v1, .int v2, .int v3] [.int s0] σ = Q (some (.int s0)) σ := q_iret (zCall_mono (zUn b) d) (by decide +kernel : decode cX4_entryKept 15 = .ok (.ireturn, 1)) rfl
theorem nX4_entryKept {b : Bool} {d : Nat} {Q : zQ} {σ : zV} {v1 : Int32} {v2 : Int32} {v3 : Int32} : zCall (zUn b) (d + 1) yX4_entryKept [.ref 1, .int v1, .int v2, .int v3] σ Q = eX4_entryKept b d Q 0 [.ref 1, .int v1, .int v2, .int v3] [] σ := (q_call kX4_entryKept (Nat.le_of_ble_eq_true rfl)).trans rfl
def eX4_entryNow (b : Bool) (d : Nat) (Q : zQ) : zP := zEv (zUn b) (zCall (zUn b) d) RX4 cX4_entryNow 3 (some .int) none Q
theorem eX4_entryNow_0 {b : Bool} {d : Nat} {Q : zQ} {σ : zV} {v1 : Int32} {v2 : Int32} : eX4_entryNow b d Q 0 [.ref 1, .int v1, .int v2] [] σ = eX4_entryNow b d Q 1 [.ref 1, .int v1, .int v2] [.ref 1] σ := q_aload_n (zCall_mono (zUn b) d) (by decide +kernel : decode cX4_entryNow 0 = .ok (.aload_n 0, 1)) rfl
theorem eX4_entryNow_1 {b : Bool} {d : Nat} {Q : zQ} {σ : zV} {v1 : Int32} {v2 : Int32} : eX4_entryNow b d Q 1 [.ref 1, .int v1, .int v2] [.ref 1] σ = eX4_entryNow b d Q 2 [.ref 1, .int v1, .int v2] [.int v1, .ref 1] σ := q_iload_n (zCall_mono (zUn b) d) (by decide +kernel : decode cX4_entryNow 1 = .ok (.iload_n 1, 1)) rfl
theorem eX4_entryNow_2 {b : Bool} {d : Nat} {Q : zQ} {σ : zV} {v1 : Int32} {v2 : Int32} {s0 : Int32} : eX4_entryNow b d Q 2 [.ref 1, .int v1, .int v2] [.int s0, .ref 1] σ = eX4_entryNow b d Q 3 [.ref 1, .int v1, .int v2] [.int v2, .int s0, .ref 1] σ := q_iload_n (zCall_mono (zUn b) d) (by decide +kernel : decode cX4_entryNow 2 = .ok (.iload_n 2, 1)) rfl
theorem eX4_entryNow_3 {b : Bool} {d : Nat} {Q : zQ} {σ : zV} {v1 : Int32} {v2 : Int32} {s0 : Int32} {s1 : Int32} : eX4_entryNow b d Q 3 [.ref 1, .int v1, .int v2] [.int s0, .int s1, .ref 1] σ = eX4_entryNow b d Q 4 [.ref 1, .int v1, .int v2] [.ref 1, .int s0, .int s1, .ref 1] σ := q_aload_n (zCall_mono (zUn b) d) (by decide +kernel : decode cX4_entryNow 3 = .ok (.aload_n 0, 1)) rfl
theorem eX4_entryNow_4 {b : Bool} {d : Nat} {Q : zQ} {σ : zV} {v1 : Int32} {v2 : Int32} {s1 : Int32} {s2 : Int32} : eX4_entryNow b d Q 4 [.ref 1, .int v1, .int v2] [.ref 1, .int s1, .int s2, .ref 1] σ = eX4_entryNow b d Q 7 [.ref 1, .int v1, .int v2] [.ref 3, .int s1, .int s2, .ref 1] σ := q_getR (zCall_mono (zUn b) d) (by decide +kernel : decode cX4_entryNow 4 = .ok (.getfield 15, 3)) zf_RX4_15 (u_1 b) rfl
theorem eX4_entryNow_7 {b : Bool} {d : Nat} {Q : zQ} {σ : zV} {v1 : Int32} {v2 : Int32} {s1 : Int32} {s2 : Int32} : eX4_entryNow b d Q 7 [.ref 1, .int v1, .int v2] [.ref 3, .int s1, .int s2, .ref 1] σ = eX4_entryNow b d Q 8 [.ref 1, .int v1, .int v2] [.int v1, .ref 3, .int s1, .int s2, .ref 1] σ := q_iload_n (zCall_mono (zUn b) d) (by decide +kernel : decode cX4_entryNow 7 = .ok (.iload_n 1, 1)) rfl
theorem eX4_entryNow_8 {b : Bool} {d : Nat} {Q : zQ} {σ : zV} {v1 : Int32} {v2 : Int32} {s0 : Int32} {s2 : Int32} {s3 : Int32} : eX4_entryNow b d Q 8 [.ref 1, .int v1, .int v2] [.int s0, .ref 3, .int s2, .int s3, .ref 1] σ = eX4_entryNow b d Q 9 [.ref 1, .int v1, .int v2] [.int v2, .int s0, .ref 3, .int s2, .int s3, .ref 1] σ := q_iload_n (zCall_mono (zUn b) d) (by decide +kernel : decode cX4_entryNow 8 = .ok (.iload_n 2, 1)) rfl
theorem eX4_entryNow_9 {b : Bool} {d : Nat} {Q : zQ} {σ : zV} {v1 : Int32} {v2 : Int32} {s0 : Int32} {s1 : Int32} {s3 : Int32} {s4 : Int32} : eX4_entryNow b d Q 9 [.ref 1, .int v1, .int v2] [.int s0, .int s1, .ref 3, .int s3, .int s4, .ref 1] σ = zCall (zUn b) d yX4_rowOf [.int s1, .int s0] σ (fun v σ' => eX4_entryNow b d Q 12 [.ref 1, .int v1, .int v2] (v.toList ++ [.ref 3, .int s3, .int s4, .ref 1]) σ') := q_ins (As := [.int s1, .int s0]) (r := [.ref 3, .int s3, .int s4, .ref 1]) (zCall_mono (zUn b) d) (by decide +kernel : decode cX4_entryNow 9 = .ok (.invokestatic 30, 3)) zm_RX4_30 (Nat.le_of_ble_eq_true rfl) rfl
theorem eX4_entryNow_12 {b : Bool} {d : Nat} {Q : zQ} {σ : zV} {v1 : Int32} {v2 : Int32} {s0 : Int32} {s2 : Int32} {s3 : Int32} : eX4_entryNow b d Q 12 [.ref 1, .int v1, .int v2] [.int s0, .ref 3, .int s2, .int s3, .ref 1] σ = (vp_in s0 48 ∧ eX4_entryNow b d Q 13 [.ref 1, .int v1, .int v2] [.int (σ 3 s0.toNatClampNeg), .int s2, .int s3, .ref 1] σ) := q_iald (zCall_mono (zUn b) d) (by decide +kernel : decode cX4_entryNow 12 = .ok (.iaload, 1)) (u_3 b)
theorem eX4_entryNow_13 {b : Bool} {d : Nat} {Q : zQ} {σ : zV} {v1 : Int32} {v2 : Int32} {s0 : Int32} {s1 : Int32} {s2 : Int32} : eX4_entryNow b d Q 13 [.ref 1, .int v1, .int v2] [.int s0, .int s1, .int s2, .ref 1] σ = eX4_entryNow b d Q 14 [.ref 1, .int v1, .int v2] [.int 1, .int s0, .int s1, .int s2, .ref 1] σ := q_iconst (zCall_mono (zUn b) d) (by decide +kernel : decode cX4_entryNow 13 = .ok (.iconst 1, 1)) (by decide +kernel)
theorem eX4_entryNow_14 {b : Bool} {d : Nat} {Q : zQ} {σ : zV} {v1 : Int32} {v2 : Int32} {s0 : Int32} {s1 : Int32} {s2 : Int32} {s3 : Int32} : eX4_entryNow b d Q 14 [.ref 1, .int v1, .int v2] [.int s0, .int s1, .int s2, .int s3, .ref 1] σ = eX4_entryNow b d Q 15 [.ref 1, .int v1, .int v2] [.int (s1 - s0), .int s2, .int s3, .ref 1] σ := q_isub (zCall_mono (zUn b) d) (by decide +kernel : decode cX4_entryNow 14 = .ok (.isub, 1))
theorem eX4_entryNow_15 {b : Bool} {d : Nat} {Q : zQ} {σ : zV} {v1 : Int32} {v2 : Int32} {s0 : Int32} {s1 : Int32} {s2 : Int32} : eX4_entryNow b d Q 15 [.ref 1, .int v1, .int v2] [.int s0, .int s1, .int s2, .ref 1] σ = zCall (zUn b) d yX4_entryKept [.ref 1, .int s2, .int s1, .int s0] σ (fun v σ' => eX4_entryNow b d Q 18 [.ref 1, .int v1, .int v2] (v.toList ++ []) σ') := q_inv (As := [.int s2, .int s1, .int s0]) (r := []) (zCall_mono (zUn b) d) (by decide +kernel : decode cX4_entryNow 15 = .ok (.invokevirtual 34, 3)) zm_RX4_34 (Nat.le_of_ble_eq_true rfl) (u_1 b) zn_4 (Nat.le_of_ble_eq_true rfl) rfl
theorem eX4_entryNow_18 {b : Bool} {d : Nat} {Q : zQ} {σ : zV} {v1 : Int32} {v2 : Int32} {s0 : Int32} : eX4_entryNow b d Q 18 [.ref 1, .int v1, .int v2] [.int s0] σ = Q (some (.int s0)) σ := q_iret (zCall_mono (zUn b) d) (by decide +kernel : decode cX4_entryNow 18 = .ok (.ireturn, 1)) rfl
theorem nX4_entryNow {b : Bool} {d : Nat} {Q : zQ} {σ : zV} {v1 : Int32} {v2 : Int32} : zCall (zUn b) (d + 1) yX4_entryNow [.ref 1, .int v1, .int v2] σ Q = eX4_entryNow b d Q 0 [.ref 1, .int v1, .int v2] [] σ := (q_call kX4_entryNow (Nat.le_of_ble_eq_true rfl)).trans rfl
def eX4_heldFrom (b : Bool) (d : Nat) (Q : zQ) : zP := zEv (zUn b) (zCall (zUn b) d) RX4 cX4_heldFrom 8 (some .boolean) none Q
theorem eX4_heldFrom_0 {b : Bool} {d : Nat} {Q : zQ} {σ : zV} {v1 : Int32} {v2 : Int32} {v3 : Int32} {v4 : Int32} : eX4_heldFrom b d Q 0 [.ref 1, .int v1, .int v2, .int v3, .int v4, .null, .null, .null] [] σ = eX4_heldFrom b d Q 1 [.ref 1, .int v1, .int v2, .int v3, .int v4, .null, .null, .null] [.ref 1] σ := q_aload_n (zCall_mono (zUn b) d) (by decide +kernel : decode cX4_heldFrom 0 = .ok (.aload_n 0, 1)) rfl
theorem eX4_heldFrom_1 {b : Bool} {d : Nat} {Q : zQ} {σ : zV} {v1 : Int32} {v2 : Int32} {v3 : Int32} {v4 : Int32} : eX4_heldFrom b d Q 1 [.ref 1, .int v1, .int v2, .int v3, .int v4, .null, .null, .null] [.ref 1] σ = eX4_heldFrom b d Q 4 [.ref 1, .int v1, .int v2, .int v3, .int v4, .null, .null, .null] [.ref 3] σ := q_getR (zCall_mono (zUn b) d) (by decide +kernel : decode cX4_heldFrom 1 = .ok (.getfield 15, 3)) zf_RX4_15 (u_1 b) rfl
theorem eX4_heldFrom_4 {b : Bool} {d : Nat} {Q : zQ} {σ : zV} {v1 : Int32} {v2 : Int32} {v3 : Int32} {v4 : Int32} : eX4_heldFrom b d Q 4 [.ref 1, .int v1, .int v2, .int v3, .int v4, .null, .null, .null] [.ref 3] σ = eX4_heldFrom b d Q 5 [.ref 1, .int v1, .int v2, .int v3, .int v4, .null, .null, .null] [.int v1, .ref 3] σ := q_iload_n (zCall_mono (zUn b) d) (by decide +kernel : decode cX4_heldFrom 4 = .ok (.iload_n 1, 1)) rfl
theorem eX4_heldFrom_5 {b : Bool} {d : Nat} {Q : zQ} {σ : zV} {v1 : Int32} {v2 : Int32} {v3 : Int32} {v4 : Int32} {s0 : Int32} : eX4_heldFrom b d Q 5 [.ref 1, .int v1, .int v2, .int v3, .int v4, .null, .null, .null] [.int s0, .ref 3] σ = eX4_heldFrom b d Q 6 [.ref 1, .int v1, .int v2, .int v3, .int v4, .null, .null, .null] [.int v2, .int s0, .ref 3] σ := q_iload_n (zCall_mono (zUn b) d) (by decide +kernel : decode cX4_heldFrom 5 = .ok (.iload_n 2, 1)) rfl
theorem eX4_heldFrom_6 {b : Bool} {d : Nat} {Q : zQ} {σ : zV} {v1 : Int32} {v2 : Int32} {v3 : Int32} {v4 : Int32} {s0 : Int32} {s1 : Int32} : eX4_heldFrom b d Q 6 [.ref 1, .int v1, .int v2, .int v3, .int v4, .null, .null, .null] [.int s0, .int s1, .ref 3] σ = zCall (zUn b) d yX4_rowOf [.int s1, .int s0] σ (fun v σ' => eX4_heldFrom b d Q 9 [.ref 1, .int v1, .int v2, .int v3, .int v4, .null, .null, .null] (v.toList ++ [.ref 3]) σ') := q_ins (As := [.int s1, .int s0]) (r := [.ref 3]) (zCall_mono (zUn b) d) (by decide +kernel : decode cX4_heldFrom 6 = .ok (.invokestatic 30, 3)) zm_RX4_30 (Nat.le_of_ble_eq_true rfl) rfl
theorem eX4_heldFrom_9 {b : Bool} {d : Nat} {Q : zQ} {σ : zV} {v1 : Int32} {v2 : Int32} {v3 : Int32} {v4 : Int32} {s0 : Int32} : eX4_heldFrom b d Q 9 [.ref 1, .int v1, .int v2, .int v3, .int v4, .null, .null, .null] [.int s0, .ref 3] σ = (vp_in s0 48 ∧ eX4_heldFrom b d Q 10 [.ref 1, .int v1, .int v2, .int v3, .int v4, .null, .null, .null] [.int (σ 3 s0.toNatClampNeg)] σ) := q_iald (zCall_mono (zUn b) d) (by decide +kernel : decode cX4_heldFrom 9 = .ok (.iaload, 1)) (u_3 b)
theorem eX4_heldFrom_10 {b : Bool} {d : Nat} {Q : zQ} {σ : zV} {v1 : Int32} {v2 : Int32} {v3 : Int32} {v4 : Int32} {s0 : Int32} : eX4_heldFrom b d Q 10 [.ref 1, .int v1, .int v2, .int v3, .int v4, .null, .null, .null] [.int s0] σ = eX4_heldFrom b d Q 11 [.ref 1, .int v1, .int v2, .int v3, .int v4, .null, .null, .null] [.int 1, .int s0] σ := q_iconst (zCall_mono (zUn b) d) (by decide +kernel : decode cX4_heldFrom 10 = .ok (.iconst 1, 1)) (by decide +kernel)
theorem eX4_heldFrom_11 {b : Bool} {d : Nat} {Q : zQ} {σ : zV} {v1 : Int32} {v2 : Int32} {v3 : Int32} {v4 : Int32} {s0 : Int32} {s1 : Int32} : eX4_heldFrom b d Q 11 [.ref 1, .int v1, .int v2, .int v3, .int v4, .null, .null, .null] [.int s0, .int s1] σ = eX4_heldFrom b d Q 12 [.ref 1, .int v1, .int v2, .int v3, .int v4, .null, .null, .null] [.int (s1 - s0)] σ := q_isub (zCall_mono (zUn b) d) (by decide +kernel : decode cX4_heldFrom 11 = .ok (.isub, 1))
theorem eX4_heldFrom_12 {b : Bool} {d : Nat} {Q : zQ} {σ : zV} {v1 : Int32} {v2 : Int32} {v3 : Int32} {v4 : Int32} {s0 : Int32} : eX4_heldFrom b d Q 12 [.ref 1, .int v1, .int v2, .int v3, .int v4, .null, .null, .null] [.int s0] σ = eX4_heldFrom b d Q 14 [.ref 1, .int v1, .int v2, .int v3, .int v4, .int s0, .null, .null] [] σ := q_istore (zCall_mono (zUn b) d) (by decide +kernel : decode cX4_heldFrom 12 = .ok (.istore 5, 2)) (Nat.le_of_ble_eq_true rfl) (fun v h => by cases h; rfl) rfl
theorem eX4_heldFrom_14 {b : Bool} {d : Nat} {Q : zQ} {σ : zV} {v1 : Int32} {v2 : Int32} {v3 : Int32} {v4 : Int32} {v5 : Int32} : eX4_heldFrom b d Q 14 [.ref 1, .int v1, .int v2, .int v3, .int v4, .int v5, .null, .null] [] σ = eX4_heldFrom b d Q 15 [.ref 1, .int v1, .int v2, .int v3, .int v4, .int v5, .null, .null] [.int 0] σ := q_iconst (zCall_mono (zUn b) d) (by decide +kernel : decode cX4_heldFrom 14 = .ok (.iconst 0, 1)) (by decide +kernel)
theorem eX4_heldFrom_15 {b : Bool} {d : Nat} {Q : zQ} {σ : zV} {v1 : Int32} {v2 : Int32} {v3 : Int32} {v4 : Int32} {v5 : Int32} {s0 : Int32} : eX4_heldFrom b d Q 15 [.ref 1, .int v1, .int v2, .int v3, .int v4, .int v5, .null, .null] [.int s0] σ = eX4_heldFrom b d Q 17 [.ref 1, .int v1, .int v2, .int v3, .int v4, .int v5, .int s0, .null] [] σ := q_istore (zCall_mono (zUn b) d) (by decide +kernel : decode cX4_heldFrom 15 = .ok (.istore 6, 2)) (Nat.le_of_ble_eq_true rfl) (fun v h => by cases h; rfl) rfl
theorem eX4_heldFrom_17 {b : Bool} {d : Nat} {Q : zQ} {σ : zV} {v1 : Int32} {v2 : Int32} {v3 : Int32} {v4 : Int32} {v5 : Int32} {v6 : Int32} {v7 : Value} : eX4_heldFrom b d Q 17 [.ref 1, .int v1, .int v2, .int v3, .int v4, .int v5, .int v6, v7] [] σ = eX4_heldFrom b d Q 19 [.ref 1, .int v1, .int v2, .int v3, .int v4, .int v5, .int v6, v7] [.int v6] σ := q_iload (zCall_mono (zUn b) d) (by decide +kernel : decode cX4_heldFrom 17 = .ok (.iload 6, 2)) rfl
theorem eX4_heldFrom_19 {b : Bool} {d : Nat} {Q : zQ} {σ : zV} {v1 : Int32} {v2 : Int32} {v3 : Int32} {v4 : Int32} {v5 : Int32} {v6 : Int32} {v7 : Value} {s0 : Int32} : eX4_heldFrom b d Q 19 [.ref 1, .int v1, .int v2, .int v3, .int v4, .int v5, .int v6, v7] [.int s0] σ = eX4_heldFrom b d Q 21 [.ref 1, .int v1, .int v2, .int v3, .int v4, .int v5, .int v6, v7] [.int v5, .int s0] σ := q_iload (zCall_mono (zUn b) d) (by decide +kernel : decode cX4_heldFrom 19 = .ok (.iload 5, 2)) rfl
theorem eX4_heldFrom_21 {b : Bool} {d : Nat} {Q : zQ} {σ : zV} {v1 : Int32} {v2 : Int32} {v3 : Int32} {v4 : Int32} {v5 : Int32} {v6 : Int32} {v7 : Value} {s0 : Int32} {s1 : Int32} : eX4_heldFrom b d Q 21 [.ref 1, .int v1, .int v2, .int v3, .int v4, .int v5, .int v6, v7] [.int s0, .int s1] σ = ((s0 < s1 → eX4_heldFrom b d Q 78 [.ref 1, .int v1, .int v2, .int v3, .int v4, .int v5, .int v6, v7] [] σ) ∧ (¬ s0 < s1 → eX4_heldFrom b d Q 24 [.ref 1, .int v1, .int v2, .int v3, .int v4, .int v5, .int v6, v7] [] σ)) := q_icmp (zCall_mono (zUn b) d) (by decide +kernel : decode cX4_heldFrom 21 = .ok (.if_icmp .gt 57, 3)) (by decide)
theorem eX4_heldFrom_24 {b : Bool} {d : Nat} {Q : zQ} {σ : zV} {v1 : Int32} {v2 : Int32} {v3 : Int32} {v4 : Int32} {v5 : Int32} {v6 : Int32} {v7 : Value} : eX4_heldFrom b d Q 24 [.ref 1, .int v1, .int v2, .int v3, .int v4, .int v5, .int v6, v7] [] σ = eX4_heldFrom b d Q 26 [.ref 1, .int v1, .int v2, .int v3, .int v4, .int v5, .int v6, v7] [.int v6] σ := q_iload (zCall_mono (zUn b) d) (by decide +kernel : decode cX4_heldFrom 24 = .ok (.iload 6, 2)) rfl
theorem eX4_heldFrom_26 {b : Bool} {d : Nat} {Q : zQ} {σ : zV} {v1 : Int32} {v2 : Int32} {v3 : Int32} {v4 : Int32} {v5 : Int32} {v6 : Int32} {v7 : Value} {s0 : Int32} : eX4_heldFrom b d Q 26 [.ref 1, .int v1, .int v2, .int v3, .int v4, .int v5, .int v6, v7] [.int s0] σ = eX4_heldFrom b d Q 28 [.ref 1, .int v1, .int v2, .int v3, .int v4, .int v5, .int v6, v7] [.int v5, .int s0] σ := q_iload (zCall_mono (zUn b) d) (by decide +kernel : decode cX4_heldFrom 26 = .ok (.iload 5, 2)) rfl
theorem eX4_heldFrom_28 {b : Bool} {d : Nat} {Q : zQ} {σ : zV} {v1 : Int32} {v2 : Int32} {v3 : Int32} {v4 : Int32} {v5 : Int32} {v6 : Int32} {v7 : Value} {s0 : Int32} {s1 : Int32} : eX4_heldFrom b d Q 28 [.ref 1, .int v1, .int v2, .int v3, .int v4, .int v5, .int v6, v7] [.int s0, .int s1] σ = ((s0 ≤ s1 → eX4_heldFrom b d Q 50 [.ref 1, .int v1, .int v2, .int v3, .int v4, .int v5, .int v6, v7] [] σ) ∧ (¬ s0 ≤ s1 → eX4_heldFrom b d Q 31 [.ref 1, .int v1, .int v2, .int v3, .int v4, .int v5, .int v6, v7] [] σ)) := q_icmp (zCall_mono (zUn b) d) (by decide +kernel : decode cX4_heldFrom 28 = .ok (.if_icmp .ge 22, 3)) (by decide)
theorem eX4_heldFrom_31 {b : Bool} {d : Nat} {Q : zQ} {σ : zV} {v1 : Int32} {v2 : Int32} {v3 : Int32} {v4 : Int32} {v5 : Int32} {v6 : Int32} {v7 : Value} : eX4_heldFrom b d Q 31 [.ref 1, .int v1, .int v2, .int v3, .int v4, .int v5, .int v6, v7] [] σ = eX4_heldFrom b d Q 32 [.ref 1, .int v1, .int v2, .int v3, .int v4, .int v5, .int v6, v7] [.ref 1] σ := q_aload_n (zCall_mono (zUn b) d) (by decide +kernel : decode cX4_heldFrom 31 = .ok (.aload_n 0, 1)) rfl
theorem eX4_heldFrom_32 {b : Bool} {d : Nat} {Q : zQ} {σ : zV} {v1 : Int32} {v2 : Int32} {v3 : Int32} {v4 : Int32} {v5 : Int32} {v6 : Int32} {v7 : Value} : eX4_heldFrom b d Q 32 [.ref 1, .int v1, .int v2, .int v3, .int v4, .int v5, .int v6, v7] [.ref 1] σ = eX4_heldFrom b d Q 33 [.ref 1, .int v1, .int v2, .int v3, .int v4, .int v5, .int v6, v7] [.int v1, .ref 1] σ := q_iload_n (zCall_mono (zUn b) d) (by decide +kernel : decode cX4_heldFrom 32 = .ok (.iload_n 1, 1)) rfl
theorem eX4_heldFrom_33 {b : Bool} {d : Nat} {Q : zQ} {σ : zV} {v1 : Int32} {v2 : Int32} {v3 : Int32} {v4 : Int32} {v5 : Int32} {v6 : Int32} {v7 : Value} {s0 : Int32} : eX4_heldFrom b d Q 33 [.ref 1, .int v1, .int v2, .int v3, .int v4, .int v5, .int v6, v7] [.int s0, .ref 1] σ = eX4_heldFrom b d Q 34 [.ref 1, .int v1, .int v2, .int v3, .int v4, .int v5, .int v6, v7] [.int v2, .int s0, .ref 1] σ := q_iload_n (zCall_mono (zUn b) d) (by decide +kernel : decode cX4_heldFrom 33 = .ok (.iload_n 2, 1)) rfl
theorem eX4_heldFrom_34 {b : Bool} {d : Nat} {Q : zQ} {σ : zV} {v1 : Int32} {v2 : Int32} {v3 : Int32} {v4 : Int32} {v5 : Int32} {v6 : Int32} {v7 : Value} {s0 : Int32} {s1 : Int32} : eX4_heldFrom b d Q 34 [.ref 1, .int v1, .int v2, .int v3, .int v4, .int v5, .int v6, v7] [.int s0, .int s1, .ref 1] σ = eX4_heldFrom b d Q 36 [.ref 1, .int v1, .int v2, .int v3, .int v4, .int v5, .int v6, v7] [.int v6, .int s0, .int s1, .ref 1] σ := q_iload (zCall_mono (zUn b) d) (by decide +kernel : decode cX4_heldFrom 34 = .ok (.iload 6, 2)) rfl
theorem eX4_heldFrom_36 {b : Bool} {d : Nat} {Q : zQ} {σ : zV} {v1 : Int32} {v2 : Int32} {v3 : Int32} {v4 : Int32} {v5 : Int32} {v6 : Int32} {v7 : Value} {s0 : Int32} {s1 : Int32} {s2 : Int32} : eX4_heldFrom b d Q 36 [.ref 1, .int v1, .int v2, .int v3, .int v4, .int v5, .int v6, v7] [.int s0, .int s1, .int s2, .ref 1] σ = eX4_heldFrom b d Q 37 [.ref 1, .int v1, .int v2, .int v3, .int v4, .int v5, .int v6, v7] [.int 1, .int s0, .int s1, .int s2, .ref 1] σ := q_iconst (zCall_mono (zUn b) d) (by decide +kernel : decode cX4_heldFrom 36 = .ok (.iconst 1, 1)) (by decide +kernel)
theorem eX4_heldFrom_37 {b : Bool} {d : Nat} {Q : zQ} {σ : zV} {v1 : Int32} {v2 : Int32} {v3 : Int32} {v4 : Int32} {v5 : Int32} {v6 : Int32} {v7 : Value} {s0 : Int32} {s1 : Int32} {s2 : Int32} {s3 : Int32} : eX4_heldFrom b d Q 37 [.ref 1, .int v1, .int v2, .int v3, .int v4, .int v5, .int v6, v7] [.int s0, .int s1, .int s2, .int s3, .ref 1] σ = eX4_heldFrom b d Q 38 [.ref 1, .int v1, .int v2, .int v3, .int v4, .int v5, .int v6, v7] [.int (s1 + s0), .int s2, .int s3, .ref 1] σ := q_iadd (zCall_mono (zUn b) d) (by decide +kernel : decode cX4_heldFrom 37 = .ok (.iadd, 1))
theorem eX4_heldFrom_38 {b : Bool} {d : Nat} {Q : zQ} {σ : zV} {v1 : Int32} {v2 : Int32} {v3 : Int32} {v4 : Int32} {v5 : Int32} {v6 : Int32} {v7 : Value} {s0 : Int32} {s1 : Int32} {s2 : Int32} : eX4_heldFrom b d Q 38 [.ref 1, .int v1, .int v2, .int v3, .int v4, .int v5, .int v6, v7] [.int s0, .int s1, .int s2, .ref 1] σ = zCall (zUn b) d yX4_timeKept [.ref 1, .int s2, .int s1, .int s0] σ (fun v σ' => eX4_heldFrom b d Q 41 [.ref 1, .int v1, .int v2, .int v3, .int v4, .int v5, .int v6, v7] (v.toList ++ []) σ') := q_inv (As := [.int s2, .int s1, .int s0]) (r := []) (zCall_mono (zUn b) d) (by decide +kernel : decode cX4_heldFrom 38 = .ok (.invokevirtual 51, 3)) zm_RX4_51 (Nat.le_of_ble_eq_true rfl) (u_1 b) zn_4 (Nat.le_of_ble_eq_true rfl) rfl
theorem eX4_heldFrom_41 {b : Bool} {d : Nat} {Q : zQ} {σ : zV} {v1 : Int32} {v2 : Int32} {v3 : Int32} {v4 : Int32} {v5 : Int32} {v6 : Int32} {v7 : Value} {s0 : Int32} : eX4_heldFrom b d Q 41 [.ref 1, .int v1, .int v2, .int v3, .int v4, .int v5, .int v6, v7] [.int s0] σ = eX4_heldFrom b d Q 43 [.ref 1, .int v1, .int v2, .int v3, .int v4, .int v5, .int v6, v7] [.int v4, .int s0] σ := q_iload (zCall_mono (zUn b) d) (by decide +kernel : decode cX4_heldFrom 41 = .ok (.iload 4, 2)) rfl
theorem eX4_heldFrom_43 {b : Bool} {d : Nat} {Q : zQ} {σ : zV} {v1 : Int32} {v2 : Int32} {v3 : Int32} {v4 : Int32} {v5 : Int32} {v6 : Int32} {v7 : Value} {s0 : Int32} {s1 : Int32} : eX4_heldFrom b d Q 43 [.ref 1, .int v1, .int v2, .int v3, .int v4, .int v5, .int v6, v7] [.int s0, .int s1] σ = ((s0 < s1 → eX4_heldFrom b d Q 50 [.ref 1, .int v1, .int v2, .int v3, .int v4, .int v5, .int v6, v7] [] σ) ∧ (¬ s0 < s1 → eX4_heldFrom b d Q 46 [.ref 1, .int v1, .int v2, .int v3, .int v4, .int v5, .int v6, v7] [] σ)) := q_icmp (zCall_mono (zUn b) d) (by decide +kernel : decode cX4_heldFrom 43 = .ok (.if_icmp .gt 7, 3)) (by decide)
theorem eX4_heldFrom_46 {b : Bool} {d : Nat} {Q : zQ} {σ : zV} {v1 : Int32} {v2 : Int32} {v3 : Int32} {v4 : Int32} {v5 : Int32} {v6 : Int32} {v7 : Value} : eX4_heldFrom b d Q 46 [.ref 1, .int v1, .int v2, .int v3, .int v4, .int v5, .int v6, v7] [] σ = eX4_heldFrom b d Q 47 [.ref 1, .int v1, .int v2, .int v3, .int v4, .int v5, .int v6, v7] [.int 1] σ := q_iconst (zCall_mono (zUn b) d) (by decide +kernel : decode cX4_heldFrom 46 = .ok (.iconst 1, 1)) (by decide +kernel)
theorem eX4_heldFrom_47 {b : Bool} {d : Nat} {Q : zQ} {σ : zV} {v1 : Int32} {v2 : Int32} {v3 : Int32} {v4 : Int32} {v5 : Int32} {v6 : Int32} {v7 : Value} {s0 : Int32} : eX4_heldFrom b d Q 47 [.ref 1, .int v1, .int v2, .int v3, .int v4, .int v5, .int v6, v7] [.int s0] σ = eX4_heldFrom b d Q 51 [.ref 1, .int v1, .int v2, .int v3, .int v4, .int v5, .int v6, v7] [.int s0] σ := q_goto (zCall_mono (zUn b) d) (by decide +kernel : decode cX4_heldFrom 47 = .ok (.goto 4, 3)) (by decide)
theorem eX4_heldFrom_50 {b : Bool} {d : Nat} {Q : zQ} {σ : zV} {v1 : Int32} {v2 : Int32} {v3 : Int32} {v4 : Int32} {v5 : Int32} {v6 : Int32} {v7 : Value} : eX4_heldFrom b d Q 50 [.ref 1, .int v1, .int v2, .int v3, .int v4, .int v5, .int v6, v7] [] σ = eX4_heldFrom b d Q 51 [.ref 1, .int v1, .int v2, .int v3, .int v4, .int v5, .int v6, v7] [.int 0] σ := q_iconst (zCall_mono (zUn b) d) (by decide +kernel : decode cX4_heldFrom 50 = .ok (.iconst 0, 1)) (by decide +kernel)
theorem eX4_heldFrom_51 {b : Bool} {d : Nat} {Q : zQ} {σ : zV} {v1 : Int32} {v2 : Int32} {v3 : Int32} {v4 : Int32} {v5 : Int32} {v6 : Int32} {v7 : Value} {s0 : Int32} : eX4_heldFrom b d Q 51 [.ref 1, .int v1, .int v2, .int v3, .int v4, .int v5, .int v6, v7] [.int s0] σ = eX4_heldFrom b d Q 53 [.ref 1, .int v1, .int v2, .int v3, .int v4, .int v5, .int v6, .int s0] [] σ := q_istore (zCall_mono (zUn b) d) (by decide +kernel : decode cX4_heldFrom 51 = .ok (.istore 7, 2)) (Nat.le_of_ble_eq_true rfl) (fun v h => by cases h; rfl) rfl
theorem eX4_heldFrom_53 {b : Bool} {d : Nat} {Q : zQ} {σ : zV} {v1 : Int32} {v2 : Int32} {v3 : Int32} {v4 : Int32} {v5 : Int32} {v6 : Int32} {v7 : Int32} : eX4_heldFrom b d Q 53 [.ref 1, .int v1, .int v2, .int v3, .int v4, .int v5, .int v6, .int v7] [] σ = eX4_heldFrom b d Q 55 [.ref 1, .int v1, .int v2, .int v3, .int v4, .int v5, .int v6, .int v7] [.int v7] σ := q_iload (zCall_mono (zUn b) d) (by decide +kernel : decode cX4_heldFrom 53 = .ok (.iload 7, 2)) rfl
theorem eX4_heldFrom_55 {b : Bool} {d : Nat} {Q : zQ} {σ : zV} {v1 : Int32} {v2 : Int32} {v3 : Int32} {v4 : Int32} {v5 : Int32} {v6 : Int32} {v7 : Int32} {s0 : Int32} : eX4_heldFrom b d Q 55 [.ref 1, .int v1, .int v2, .int v3, .int v4, .int v5, .int v6, .int v7] [.int s0] σ = ((¬ s0 = 0 → eX4_heldFrom b d Q 72 [.ref 1, .int v1, .int v2, .int v3, .int v4, .int v5, .int v6, .int v7] [] σ) ∧ (s0 = 0 → eX4_heldFrom b d Q 58 [.ref 1, .int v1, .int v2, .int v3, .int v4, .int v5, .int v6, .int v7] [] σ)) := (q_if (zCall_mono (zUn b) d) (by decide +kernel : decode cX4_heldFrom 55 = .ok (.ifCond .ne 17, 3)) (by decide)).trans z_ne
theorem eX4_heldFrom_58 {b : Bool} {d : Nat} {Q : zQ} {σ : zV} {v1 : Int32} {v2 : Int32} {v3 : Int32} {v4 : Int32} {v5 : Int32} {v6 : Int32} {v7 : Int32} : eX4_heldFrom b d Q 58 [.ref 1, .int v1, .int v2, .int v3, .int v4, .int v5, .int v6, .int v7] [] σ = eX4_heldFrom b d Q 59 [.ref 1, .int v1, .int v2, .int v3, .int v4, .int v5, .int v6, .int v7] [.ref 1] σ := q_aload_n (zCall_mono (zUn b) d) (by decide +kernel : decode cX4_heldFrom 58 = .ok (.aload_n 0, 1)) rfl
theorem eX4_heldFrom_59 {b : Bool} {d : Nat} {Q : zQ} {σ : zV} {v1 : Int32} {v2 : Int32} {v3 : Int32} {v4 : Int32} {v5 : Int32} {v6 : Int32} {v7 : Int32} : eX4_heldFrom b d Q 59 [.ref 1, .int v1, .int v2, .int v3, .int v4, .int v5, .int v6, .int v7] [.ref 1] σ = eX4_heldFrom b d Q 60 [.ref 1, .int v1, .int v2, .int v3, .int v4, .int v5, .int v6, .int v7] [.int v1, .ref 1] σ := q_iload_n (zCall_mono (zUn b) d) (by decide +kernel : decode cX4_heldFrom 59 = .ok (.iload_n 1, 1)) rfl
theorem eX4_heldFrom_60 {b : Bool} {d : Nat} {Q : zQ} {σ : zV} {v1 : Int32} {v2 : Int32} {v3 : Int32} {v4 : Int32} {v5 : Int32} {v6 : Int32} {v7 : Int32} {s0 : Int32} : eX4_heldFrom b d Q 60 [.ref 1, .int v1, .int v2, .int v3, .int v4, .int v5, .int v6, .int v7] [.int s0, .ref 1] σ = eX4_heldFrom b d Q 61 [.ref 1, .int v1, .int v2, .int v3, .int v4, .int v5, .int v6, .int v7] [.int v2, .int s0, .ref 1] σ := q_iload_n (zCall_mono (zUn b) d) (by decide +kernel : decode cX4_heldFrom 60 = .ok (.iload_n 2, 1)) rfl
theorem eX4_heldFrom_61 {b : Bool} {d : Nat} {Q : zQ} {σ : zV} {v1 : Int32} {v2 : Int32} {v3 : Int32} {v4 : Int32} {v5 : Int32} {v6 : Int32} {v7 : Int32} {s0 : Int32} {s1 : Int32} : eX4_heldFrom b d Q 61 [.ref 1, .int v1, .int v2, .int v3, .int v4, .int v5, .int v6, .int v7] [.int s0, .int s1, .ref 1] σ = eX4_heldFrom b d Q 63 [.ref 1, .int v1, .int v2, .int v3, .int v4, .int v5, .int v6, .int v7] [.int v6, .int s0, .int s1, .ref 1] σ := q_iload (zCall_mono (zUn b) d) (by decide +kernel : decode cX4_heldFrom 61 = .ok (.iload 6, 2)) rfl
theorem eX4_heldFrom_63 {b : Bool} {d : Nat} {Q : zQ} {σ : zV} {v1 : Int32} {v2 : Int32} {v3 : Int32} {v4 : Int32} {v5 : Int32} {v6 : Int32} {v7 : Int32} {s0 : Int32} {s1 : Int32} {s2 : Int32} : eX4_heldFrom b d Q 63 [.ref 1, .int v1, .int v2, .int v3, .int v4, .int v5, .int v6, .int v7] [.int s0, .int s1, .int s2, .ref 1] σ = zCall (zUn b) d yX4_entryKept [.ref 1, .int s2, .int s1, .int s0] σ (fun v σ' => eX4_heldFrom b d Q 66 [.ref 1, .int v1, .int v2, .int v3, .int v4, .int v5, .int v6, .int v7] (v.toList ++ []) σ') := q_inv (As := [.int s2, .int s1, .int s0]) (r := []) (zCall_mono (zUn b) d) (by decide +kernel : decode cX4_heldFrom 63 = .ok (.invokevirtual 34, 3)) zm_RX4_34 (Nat.le_of_ble_eq_true rfl) (u_1 b) zn_4 (Nat.le_of_ble_eq_true rfl) rfl
theorem eX4_heldFrom_66 {b : Bool} {d : Nat} {Q : zQ} {σ : zV} {v1 : Int32} {v2 : Int32} {v3 : Int32} {v4 : Int32} {v5 : Int32} {v6 : Int32} {v7 : Int32} {s0 : Int32} : eX4_heldFrom b d Q 66 [.ref 1, .int v1, .int v2, .int v3, .int v4, .int v5, .int v6, .int v7] [.int s0] σ = eX4_heldFrom b d Q 67 [.ref 1, .int v1, .int v2, .int v3, .int v4, .int v5, .int v6, .int v7] [.int v3, .int s0] σ := q_iload_n (zCall_mono (zUn b) d) (by decide +kernel : decode cX4_heldFrom 66 = .ok (.iload_n 3, 1)) rfl
theorem eX4_heldFrom_67 {b : Bool} {d : Nat} {Q : zQ} {σ : zV} {v1 : Int32} {v2 : Int32} {v3 : Int32} {v4 : Int32} {v5 : Int32} {v6 : Int32} {v7 : Int32} {s0 : Int32} {s1 : Int32} : eX4_heldFrom b d Q 67 [.ref 1, .int v1, .int v2, .int v3, .int v4, .int v5, .int v6, .int v7] [.int s0, .int s1] σ = ((¬ s1 = s0 → eX4_heldFrom b d Q 72 [.ref 1, .int v1, .int v2, .int v3, .int v4, .int v5, .int v6, .int v7] [] σ) ∧ (s1 = s0 → eX4_heldFrom b d Q 70 [.ref 1, .int v1, .int v2, .int v3, .int v4, .int v5, .int v6, .int v7] [] σ)) := (q_icmp (zCall_mono (zUn b) d) (by decide +kernel : decode cX4_heldFrom 67 = .ok (.if_icmp .ne 5, 3)) (by decide)).trans z_ne
theorem eX4_heldFrom_70 {b : Bool} {d : Nat} {Q : zQ} {σ : zV} {v1 : Int32} {v2 : Int32} {v3 : Int32} {v4 : Int32} {v5 : Int32} {v6 : Int32} {v7 : Int32} : eX4_heldFrom b d Q 70 [.ref 1, .int v1, .int v2, .int v3, .int v4, .int v5, .int v6, .int v7] [] σ = eX4_heldFrom b d Q 71 [.ref 1, .int v1, .int v2, .int v3, .int v4, .int v5, .int v6, .int v7] [.int 1] σ := q_iconst (zCall_mono (zUn b) d) (by decide +kernel : decode cX4_heldFrom 70 = .ok (.iconst 1, 1)) (by decide +kernel)
theorem eX4_heldFrom_71 {b : Bool} {d : Nat} {Q : zQ} {σ : zV} {v1 : Int32} {v2 : Int32} {v3 : Int32} {v4 : Int32} {v5 : Int32} {v6 : Int32} {v7 : Int32} {s0 : Int32} : eX4_heldFrom b d Q 71 [.ref 1, .int v1, .int v2, .int v3, .int v4, .int v5, .int v6, .int v7] [.int s0] σ = (narrow .boolean (.int s0) = .int s0 ∧ Q (some (.int s0)) σ) := q_zret (zCall_mono (zUn b) d) (by decide +kernel : decode cX4_heldFrom 71 = .ok (.ireturn, 1)) rfl
theorem eX4_heldFrom_72 {b : Bool} {d : Nat} {Q : zQ} {σ : zV} {v1 : Int32} {v2 : Int32} {v3 : Int32} {v4 : Int32} {v5 : Int32} {v6 : Int32} {v7 : Int32} : eX4_heldFrom b d Q 72 [.ref 1, .int v1, .int v2, .int v3, .int v4, .int v5, .int v6, .int v7] [] σ = eX4_heldFrom b d Q 75 [.ref 1, .int v1, .int v2, .int v3, .int v4, .int v5, .int (v6 + 1), .int v7] [] σ := q_iinc (zCall_mono (zUn b) d) (by decide +kernel : decode cX4_heldFrom 72 = .ok (.iinc 6 1, 3)) rfl (Nat.le_of_ble_eq_true rfl) (fun v h => by cases h; rfl) (by decide +kernel) rfl
theorem eX4_heldFrom_75 {b : Bool} {d : Nat} {Q : zQ} {σ : zV} {v1 : Int32} {v2 : Int32} {v3 : Int32} {v4 : Int32} {v5 : Int32} {v6 : Int32} {v7 : Int32} : eX4_heldFrom b d Q 75 [.ref 1, .int v1, .int v2, .int v3, .int v4, .int v5, .int v6, .int v7] [] σ = eX4_heldFrom b d Q 17 [.ref 1, .int v1, .int v2, .int v3, .int v4, .int v5, .int v6, .int v7] [] σ := q_goto (zCall_mono (zUn b) d) (by decide +kernel : decode cX4_heldFrom 75 = .ok (.goto (-58), 3)) (by decide)
theorem eX4_heldFrom_78 {b : Bool} {d : Nat} {Q : zQ} {σ : zV} {v1 : Int32} {v2 : Int32} {v3 : Int32} {v4 : Int32} {v5 : Int32} {v6 : Int32} {v7 : Value} : eX4_heldFrom b d Q 78 [.ref 1, .int v1, .int v2, .int v3, .int v4, .int v5, .int v6, v7] [] σ = eX4_heldFrom b d Q 79 [.ref 1, .int v1, .int v2, .int v3, .int v4, .int v5, .int v6, v7] [.int 0] σ := q_iconst (zCall_mono (zUn b) d) (by decide +kernel : decode cX4_heldFrom 78 = .ok (.iconst 0, 1)) (by decide +kernel)
theorem eX4_heldFrom_79 {b : Bool} {d : Nat} {Q : zQ} {σ : zV} {v1 : Int32} {v2 : Int32} {v3 : Int32} {v4 : Int32} {v5 : Int32} {v6 : Int32} {v7 : Value} {s0 : Int32} : eX4_heldFrom b d Q 79 [.ref 1, .int v1, .int v2, .int v3, .int v4, .int v5, .int v6, v7] [.int s0] σ = (narrow .boolean (.int s0) = .int s0 ∧ Q (some (.int s0)) σ) := q_zret (zCall_mono (zUn b) d) (by decide +kernel : decode cX4_heldFrom 79 = .ok (.ireturn, 1)) rfl
theorem nX4_heldFrom {b : Bool} {d : Nat} {Q : zQ} {σ : zV} {v1 : Int32} {v2 : Int32} {v3 : Int32} {v4 : Int32} : zCall (zUn b) (d + 1) yX4_heldFrom [.ref 1, .int v1, .int v2, .int v3, .int v4] σ Q = eX4_heldFrom b d Q 0 [.ref 1, .int v1, .int v2, .int v3, .int v4, .null, .null, .null] [] σ := (q_call kX4_heldFrom (Nat.le_of_ble_eq_true rfl)).trans rfl
def eX4_isAllNone (b : Bool) (d : Nat) (Q : zQ) : zP := zEv (zUn b) (zCall (zUn b) d) RX4 cX4_isAllNone 3 (some .boolean) none Q
theorem eX4_isAllNone_0 {b : Bool} {d : Nat} {Q : zQ} {σ : zV} {v1 : Int32} : eX4_isAllNone b d Q 0 [.ref 1, .int v1, .null] [] σ = eX4_isAllNone b d Q 1 [.ref 1, .int v1, .null] [.int 0] σ := q_iconst (zCall_mono (zUn b) d) (by decide +kernel : decode cX4_isAllNone 0 = .ok (.iconst 0, 1)) (by decide +kernel)
theorem eX4_isAllNone_1 {b : Bool} {d : Nat} {Q : zQ} {σ : zV} {v1 : Int32} {s0 : Int32} : eX4_isAllNone b d Q 1 [.ref 1, .int v1, .null] [.int s0] σ = eX4_isAllNone b d Q 2 [.ref 1, .int v1, .int s0] [] σ := q_istore_n (zCall_mono (zUn b) d) (by decide +kernel : decode cX4_isAllNone 1 = .ok (.istore_n 2, 1)) (Nat.le_of_ble_eq_true rfl) (fun v h => by cases h; rfl) rfl
theorem eX4_isAllNone_2 {b : Bool} {d : Nat} {Q : zQ} {σ : zV} {v1 : Int32} {v2 : Int32} : eX4_isAllNone b d Q 2 [.ref 1, .int v1, .int v2] [] σ = eX4_isAllNone b d Q 3 [.ref 1, .int v1, .int v2] [.int v2] σ := q_iload_n (zCall_mono (zUn b) d) (by decide +kernel : decode cX4_isAllNone 2 = .ok (.iload_n 2, 1)) rfl
theorem eX4_isAllNone_3 {b : Bool} {d : Nat} {Q : zQ} {σ : zV} {v1 : Int32} {v2 : Int32} {s0 : Int32} : eX4_isAllNone b d Q 3 [.ref 1, .int v1, .int v2] [.int s0] σ = eX4_isAllNone b d Q 5 [.ref 1, .int v1, .int v2] [.int 16, .int s0] σ := q_bipush (zCall_mono (zUn b) d) (by decide +kernel : decode cX4_isAllNone 3 = .ok (.bipush 16, 2)) (by decide +kernel)
theorem eX4_isAllNone_5 {b : Bool} {d : Nat} {Q : zQ} {σ : zV} {v1 : Int32} {v2 : Int32} {s0 : Int32} {s1 : Int32} : eX4_isAllNone b d Q 5 [.ref 1, .int v1, .int v2] [.int s0, .int s1] σ = ((s0 ≤ s1 → eX4_isAllNone b d Q 26 [.ref 1, .int v1, .int v2] [] σ) ∧ (¬ s0 ≤ s1 → eX4_isAllNone b d Q 8 [.ref 1, .int v1, .int v2] [] σ)) := q_icmp (zCall_mono (zUn b) d) (by decide +kernel : decode cX4_isAllNone 5 = .ok (.if_icmp .ge 21, 3)) (by decide)
theorem eX4_isAllNone_8 {b : Bool} {d : Nat} {Q : zQ} {σ : zV} {v1 : Int32} {v2 : Int32} : eX4_isAllNone b d Q 8 [.ref 1, .int v1, .int v2] [] σ = eX4_isAllNone b d Q 9 [.ref 1, .int v1, .int v2] [.ref 1] σ := q_aload_n (zCall_mono (zUn b) d) (by decide +kernel : decode cX4_isAllNone 8 = .ok (.aload_n 0, 1)) rfl
theorem eX4_isAllNone_9 {b : Bool} {d : Nat} {Q : zQ} {σ : zV} {v1 : Int32} {v2 : Int32} : eX4_isAllNone b d Q 9 [.ref 1, .int v1, .int v2] [.ref 1] σ = eX4_isAllNone b d Q 10 [.ref 1, .int v1, .int v2] [.int v1, .ref 1] σ := q_iload_n (zCall_mono (zUn b) d) (by decide +kernel : decode cX4_isAllNone 9 = .ok (.iload_n 1, 1)) rfl
theorem eX4_isAllNone_10 {b : Bool} {d : Nat} {Q : zQ} {σ : zV} {v1 : Int32} {v2 : Int32} {s0 : Int32} : eX4_isAllNone b d Q 10 [.ref 1, .int v1, .int v2] [.int s0, .ref 1] σ = eX4_isAllNone b d Q 11 [.ref 1, .int v1, .int v2] [.int v2, .int s0, .ref 1] σ := q_iload_n (zCall_mono (zUn b) d) (by decide +kernel : decode cX4_isAllNone 10 = .ok (.iload_n 2, 1)) rfl
theorem eX4_isAllNone_11 {b : Bool} {d : Nat} {Q : zQ} {σ : zV} {v1 : Int32} {v2 : Int32} {s0 : Int32} {s1 : Int32} : eX4_isAllNone b d Q 11 [.ref 1, .int v1, .int v2] [.int s0, .int s1, .ref 1] σ = zCall (zUn b) d yX4_entryNow [.ref 1, .int s1, .int s0] σ (fun v σ' => eX4_isAllNone b d Q 14 [.ref 1, .int v1, .int v2] (v.toList ++ []) σ') := q_inv (As := [.int s1, .int s0]) (r := []) (zCall_mono (zUn b) d) (by decide +kernel : decode cX4_isAllNone 11 = .ok (.invokevirtual 38, 3)) zm_RX4_38 (Nat.le_of_ble_eq_true rfl) (u_1 b) zn_4 (Nat.le_of_ble_eq_true rfl) rfl
theorem eX4_isAllNone_14 {b : Bool} {d : Nat} {Q : zQ} {σ : zV} {v1 : Int32} {v2 : Int32} {s0 : Int32} : eX4_isAllNone b d Q 14 [.ref 1, .int v1, .int v2] [.int s0] σ = eX4_isAllNone b d Q 15 [.ref 1, .int v1, .int v2] [.int (-1), .int s0] σ := q_iconst (zCall_mono (zUn b) d) (by decide +kernel : decode cX4_isAllNone 14 = .ok (.iconst (-1), 1)) (by decide +kernel)
theorem eX4_isAllNone_15 {b : Bool} {d : Nat} {Q : zQ} {σ : zV} {v1 : Int32} {v2 : Int32} {s0 : Int32} {s1 : Int32} : eX4_isAllNone b d Q 15 [.ref 1, .int v1, .int v2] [.int s0, .int s1] σ = ((s1 = s0 → eX4_isAllNone b d Q 20 [.ref 1, .int v1, .int v2] [] σ) ∧ (¬ s1 = s0 → eX4_isAllNone b d Q 18 [.ref 1, .int v1, .int v2] [] σ)) := q_icmp (zCall_mono (zUn b) d) (by decide +kernel : decode cX4_isAllNone 15 = .ok (.if_icmp .eq 5, 3)) (by decide)
theorem eX4_isAllNone_18 {b : Bool} {d : Nat} {Q : zQ} {σ : zV} {v1 : Int32} {v2 : Int32} : eX4_isAllNone b d Q 18 [.ref 1, .int v1, .int v2] [] σ = eX4_isAllNone b d Q 19 [.ref 1, .int v1, .int v2] [.int 0] σ := q_iconst (zCall_mono (zUn b) d) (by decide +kernel : decode cX4_isAllNone 18 = .ok (.iconst 0, 1)) (by decide +kernel)
theorem eX4_isAllNone_19 {b : Bool} {d : Nat} {Q : zQ} {σ : zV} {v1 : Int32} {v2 : Int32} {s0 : Int32} : eX4_isAllNone b d Q 19 [.ref 1, .int v1, .int v2] [.int s0] σ = (narrow .boolean (.int s0) = .int s0 ∧ Q (some (.int s0)) σ) := q_zret (zCall_mono (zUn b) d) (by decide +kernel : decode cX4_isAllNone 19 = .ok (.ireturn, 1)) rfl
theorem eX4_isAllNone_20 {b : Bool} {d : Nat} {Q : zQ} {σ : zV} {v1 : Int32} {v2 : Int32} : eX4_isAllNone b d Q 20 [.ref 1, .int v1, .int v2] [] σ = eX4_isAllNone b d Q 23 [.ref 1, .int v1, .int (v2 + 1)] [] σ := q_iinc (zCall_mono (zUn b) d) (by decide +kernel : decode cX4_isAllNone 20 = .ok (.iinc 2 1, 3)) rfl (Nat.le_of_ble_eq_true rfl) (fun v h => by cases h; rfl) (by decide +kernel) rfl
theorem eX4_isAllNone_23 {b : Bool} {d : Nat} {Q : zQ} {σ : zV} {v1 : Int32} {v2 : Int32} : eX4_isAllNone b d Q 23 [.ref 1, .int v1, .int v2] [] σ = eX4_isAllNone b d Q 2 [.ref 1, .int v1, .int v2] [] σ := q_goto (zCall_mono (zUn b) d) (by decide +kernel : decode cX4_isAllNone 23 = .ok (.goto (-21), 3)) (by decide)
theorem eX4_isAllNone_26 {b : Bool} {d : Nat} {Q : zQ} {σ : zV} {v1 : Int32} {v2 : Int32} : eX4_isAllNone b d Q 26 [.ref 1, .int v1, .int v2] [] σ = eX4_isAllNone b d Q 27 [.ref 1, .int v1, .int v2] [.int 1] σ := q_iconst (zCall_mono (zUn b) d) (by decide +kernel : decode cX4_isAllNone 26 = .ok (.iconst 1, 1)) (by decide +kernel)
theorem eX4_isAllNone_27 {b : Bool} {d : Nat} {Q : zQ} {σ : zV} {v1 : Int32} {v2 : Int32} {s0 : Int32} : eX4_isAllNone b d Q 27 [.ref 1, .int v1, .int v2] [.int s0] σ = (narrow .boolean (.int s0) = .int s0 ∧ Q (some (.int s0)) σ) := q_zret (zCall_mono (zUn b) d) (by decide +kernel : decode cX4_isAllNone 27 = .ok (.ireturn, 1)) rfl
theorem nX4_isAllNone {b : Bool} {d : Nat} {Q : zQ} {σ : zV} {v1 : Int32} : zCall (zUn b) (d + 1) yX4_isAllNone [.ref 1, .int v1] σ Q = eX4_isAllNone b d Q 0 [.ref 1, .int v1, .null] [] σ := (q_call kX4_isAllNone (Nat.le_of_ble_eq_true rfl)).trans rfl
def eX4_isKept (b : Bool) (d : Nat) (Q : zQ) : zP := zEv (zUn b) (zCall (zUn b) d) RX4 cX4_isKept 4 (some .boolean) none Q
theorem eX4_isKept_0 {b : Bool} {d : Nat} {Q : zQ} {σ : zV} {v1 : Int32} {v2 : Int32} {v3 : Int32} : eX4_isKept b d Q 0 [.ref 1, .int v1, .int v2, .int v3] [] σ = eX4_isKept b d Q 1 [.ref 1, .int v1, .int v2, .int v3] [.int v3] σ := q_iload_n (zCall_mono (zUn b) d) (by decide +kernel : decode cX4_isKept 0 = .ok (.iload_n 3, 1)) rfl
theorem eX4_isKept_1 {b : Bool} {d : Nat} {Q : zQ} {σ : zV} {v1 : Int32} {v2 : Int32} {v3 : Int32} {s0 : Int32} : eX4_isKept b d Q 1 [.ref 1, .int v1, .int v2, .int v3] [.int s0] σ = ((s0 < 0 → eX4_isKept b d Q 22 [.ref 1, .int v1, .int v2, .int v3] [] σ) ∧ (¬ s0 < 0 → eX4_isKept b d Q 4 [.ref 1, .int v1, .int v2, .int v3] [] σ)) := q_if (zCall_mono (zUn b) d) (by decide +kernel : decode cX4_isKept 1 = .ok (.ifCond .lt 21, 3)) (by decide)
theorem eX4_isKept_4 {b : Bool} {d : Nat} {Q : zQ} {σ : zV} {v1 : Int32} {v2 : Int32} {v3 : Int32} : eX4_isKept b d Q 4 [.ref 1, .int v1, .int v2, .int v3] [] σ = eX4_isKept b d Q 5 [.ref 1, .int v1, .int v2, .int v3] [.int v3] σ := q_iload_n (zCall_mono (zUn b) d) (by decide +kernel : decode cX4_isKept 4 = .ok (.iload_n 3, 1)) rfl
theorem eX4_isKept_5 {b : Bool} {d : Nat} {Q : zQ} {σ : zV} {v1 : Int32} {v2 : Int32} {v3 : Int32} {s0 : Int32} : eX4_isKept b d Q 5 [.ref 1, .int v1, .int v2, .int v3] [.int s0] σ = eX4_isKept b d Q 6 [.ref 1, .int v1, .int v2, .int v3] [.ref 1, .int s0] σ := q_aload_n (zCall_mono (zUn b) d) (by decide +kernel : decode cX4_isKept 5 = .ok (.aload_n 0, 1)) rfl
theorem eX4_isKept_6 {b : Bool} {d : Nat} {Q : zQ} {σ : zV} {v1 : Int32} {v2 : Int32} {v3 : Int32} {s1 : Int32} : eX4_isKept b d Q 6 [.ref 1, .int v1, .int v2, .int v3] [.ref 1, .int s1] σ = eX4_isKept b d Q 9 [.ref 1, .int v1, .int v2, .int v3] [.ref 3, .int s1] σ := q_getR (zCall_mono (zUn b) d) (by decide +kernel : decode cX4_isKept 6 = .ok (.getfield 15, 3)) zf_RX4_15 (u_1 b) rfl
theorem eX4_isKept_9 {b : Bool} {d : Nat} {Q : zQ} {σ : zV} {v1 : Int32} {v2 : Int32} {v3 : Int32} {s1 : Int32} : eX4_isKept b d Q 9 [.ref 1, .int v1, .int v2, .int v3] [.ref 3, .int s1] σ = eX4_isKept b d Q 10 [.ref 1, .int v1, .int v2, .int v3] [.int v1, .ref 3, .int s1] σ := q_iload_n (zCall_mono (zUn b) d) (by decide +kernel : decode cX4_isKept 9 = .ok (.iload_n 1, 1)) rfl
theorem eX4_isKept_10 {b : Bool} {d : Nat} {Q : zQ} {σ : zV} {v1 : Int32} {v2 : Int32} {v3 : Int32} {s0 : Int32} {s2 : Int32} : eX4_isKept b d Q 10 [.ref 1, .int v1, .int v2, .int v3] [.int s0, .ref 3, .int s2] σ = eX4_isKept b d Q 11 [.ref 1, .int v1, .int v2, .int v3] [.int v2, .int s0, .ref 3, .int s2] σ := q_iload_n (zCall_mono (zUn b) d) (by decide +kernel : decode cX4_isKept 10 = .ok (.iload_n 2, 1)) rfl
theorem eX4_isKept_11 {b : Bool} {d : Nat} {Q : zQ} {σ : zV} {v1 : Int32} {v2 : Int32} {v3 : Int32} {s0 : Int32} {s1 : Int32} {s3 : Int32} : eX4_isKept b d Q 11 [.ref 1, .int v1, .int v2, .int v3] [.int s0, .int s1, .ref 3, .int s3] σ = zCall (zUn b) d yX4_rowOf [.int s1, .int s0] σ (fun v σ' => eX4_isKept b d Q 14 [.ref 1, .int v1, .int v2, .int v3] (v.toList ++ [.ref 3, .int s3]) σ') := q_ins (As := [.int s1, .int s0]) (r := [.ref 3, .int s3]) (zCall_mono (zUn b) d) (by decide +kernel : decode cX4_isKept 11 = .ok (.invokestatic 30, 3)) zm_RX4_30 (Nat.le_of_ble_eq_true rfl) rfl
theorem eX4_isKept_14 {b : Bool} {d : Nat} {Q : zQ} {σ : zV} {v1 : Int32} {v2 : Int32} {v3 : Int32} {s0 : Int32} {s2 : Int32} : eX4_isKept b d Q 14 [.ref 1, .int v1, .int v2, .int v3] [.int s0, .ref 3, .int s2] σ = (vp_in s0 48 ∧ eX4_isKept b d Q 15 [.ref 1, .int v1, .int v2, .int v3] [.int (σ 3 s0.toNatClampNeg), .int s2] σ) := q_iald (zCall_mono (zUn b) d) (by decide +kernel : decode cX4_isKept 14 = .ok (.iaload, 1)) (u_3 b)
theorem eX4_isKept_15 {b : Bool} {d : Nat} {Q : zQ} {σ : zV} {v1 : Int32} {v2 : Int32} {v3 : Int32} {s0 : Int32} {s1 : Int32} : eX4_isKept b d Q 15 [.ref 1, .int v1, .int v2, .int v3] [.int s0, .int s1] σ = ((s0 ≤ s1 → eX4_isKept b d Q 22 [.ref 1, .int v1, .int v2, .int v3] [] σ) ∧ (¬ s0 ≤ s1 → eX4_isKept b d Q 18 [.ref 1, .int v1, .int v2, .int v3] [] σ)) := q_icmp (zCall_mono (zUn b) d) (by decide +kernel : decode cX4_isKept 15 = .ok (.if_icmp .ge 7, 3)) (by decide)
theorem eX4_isKept_18 {b : Bool} {d : Nat} {Q : zQ} {σ : zV} {v1 : Int32} {v2 : Int32} {v3 : Int32} : eX4_isKept b d Q 18 [.ref 1, .int v1, .int v2, .int v3] [] σ = eX4_isKept b d Q 19 [.ref 1, .int v1, .int v2, .int v3] [.int 1] σ := q_iconst (zCall_mono (zUn b) d) (by decide +kernel : decode cX4_isKept 18 = .ok (.iconst 1, 1)) (by decide +kernel)
theorem eX4_isKept_19 {b : Bool} {d : Nat} {Q : zQ} {σ : zV} {v1 : Int32} {v2 : Int32} {v3 : Int32} {s0 : Int32} : eX4_isKept b d Q 19 [.ref 1, .int v1, .int v2, .int v3] [.int s0] σ = eX4_isKept b d Q 23 [.ref 1, .int v1, .int v2, .int v3] [.int s0] σ := q_goto (zCall_mono (zUn b) d) (by decide +kernel : decode cX4_isKept 19 = .ok (.goto 4, 3)) (by decide)
theorem eX4_isKept_22 {b : Bool} {d : Nat} {Q : zQ} {σ : zV} {v1 : Int32} {v2 : Int32} {v3 : Int32} : eX4_isKept b d Q 22 [.ref 1, .int v1, .int v2, .int v3] [] σ = eX4_isKept b d Q 23 [.ref 1, .int v1, .int v2, .int v3] [.int 0] σ := q_iconst (zCall_mono (zUn b) d) (by decide +kernel : decode cX4_isKept 22 = .ok (.iconst 0, 1)) (by decide +kernel)
theorem eX4_isKept_23 {b : Bool} {d : Nat} {Q : zQ} {σ : zV} {v1 : Int32} {v2 : Int32} {v3 : Int32} {s0 : Int32} : eX4_isKept b d Q 23 [.ref 1, .int v1, .int v2, .int v3] [.int s0] σ = (narrow .boolean (.int s0) = .int s0 ∧ Q (some (.int s0)) σ) := q_zret (zCall_mono (zUn b) d) (by decide +kernel : decode cX4_isKept 23 = .ok (.ireturn, 1)) rfl
theorem nX4_isKept {b : Bool} {d : Nat} {Q : zQ} {σ : zV} {v1 : Int32} {v2 : Int32} {v3 : Int32} : zCall (zUn b) (d + 1) yX4_isKept [.ref 1, .int v1, .int v2, .int v3] σ Q = eX4_isKept b d Q 0 [.ref 1, .int v1, .int v2, .int v3] [] σ := (q_call kX4_isKept (Nat.le_of_ble_eq_true rfl)).trans rfl
def eX4_rowOf (b : Bool) (d : Nat) (Q : zQ) : zP := zEv (zUn b) (zCall (zUn b) d) RX4 cX4_rowOf 2 (some .int) none Q
theorem eX4_rowOf_0 {b : Bool} {d : Nat} {Q : zQ} {σ : zV} {v0 : Int32} {v1 : Int32} : eX4_rowOf b d Q 0 [.int v0, .int v1] [] σ = eX4_rowOf b d Q 1 [.int v0, .int v1] [.int v0] σ := q_iload_n (zCall_mono (zUn b) d) (by decide +kernel : decode cX4_rowOf 0 = .ok (.iload_n 0, 1)) rfl
theorem eX4_rowOf_1 {b : Bool} {d : Nat} {Q : zQ} {σ : zV} {v0 : Int32} {v1 : Int32} {s0 : Int32} : eX4_rowOf b d Q 1 [.int v0, .int v1] [.int s0] σ = eX4_rowOf b d Q 3 [.int v0, .int v1] [.int 16, .int s0] σ := q_bipush (zCall_mono (zUn b) d) (by decide +kernel : decode cX4_rowOf 1 = .ok (.bipush 16, 2)) (by decide +kernel)
theorem eX4_rowOf_3 {b : Bool} {d : Nat} {Q : zQ} {σ : zV} {v0 : Int32} {v1 : Int32} {s0 : Int32} {s1 : Int32} : eX4_rowOf b d Q 3 [.int v0, .int v1] [.int s0, .int s1] σ = eX4_rowOf b d Q 4 [.int v0, .int v1] [.int (s1 * s0)] σ := q_imul (zCall_mono (zUn b) d) (by decide +kernel : decode cX4_rowOf 3 = .ok (.imul, 1))
theorem eX4_rowOf_4 {b : Bool} {d : Nat} {Q : zQ} {σ : zV} {v0 : Int32} {v1 : Int32} {s0 : Int32} : eX4_rowOf b d Q 4 [.int v0, .int v1] [.int s0] σ = eX4_rowOf b d Q 5 [.int v0, .int v1] [.int v1, .int s0] σ := q_iload_n (zCall_mono (zUn b) d) (by decide +kernel : decode cX4_rowOf 4 = .ok (.iload_n 1, 1)) rfl
theorem eX4_rowOf_5 {b : Bool} {d : Nat} {Q : zQ} {σ : zV} {v0 : Int32} {v1 : Int32} {s0 : Int32} {s1 : Int32} : eX4_rowOf b d Q 5 [.int v0, .int v1] [.int s0, .int s1] σ = eX4_rowOf b d Q 6 [.int v0, .int v1] [.int (s1 + s0)] σ := q_iadd (zCall_mono (zUn b) d) (by decide +kernel : decode cX4_rowOf 5 = .ok (.iadd, 1))
theorem eX4_rowOf_6 {b : Bool} {d : Nat} {Q : zQ} {σ : zV} {v0 : Int32} {v1 : Int32} {s0 : Int32} : eX4_rowOf b d Q 6 [.int v0, .int v1] [.int s0] σ = Q (some (.int s0)) σ := q_iret (zCall_mono (zUn b) d) (by decide +kernel : decode cX4_rowOf 6 = .ok (.ireturn, 1)) rfl
theorem nX4_rowOf {b : Bool} {d : Nat} {Q : zQ} {σ : zV} {v0 : Int32} {v1 : Int32} : zCall (zUn b) (d + 1) yX4_rowOf [.int v0, .int v1] σ Q = eX4_rowOf b d Q 0 [.int v0, .int v1] [] σ := (q_call kX4_rowOf (Nat.le_of_ble_eq_true rfl)).trans rfl
def eX4_startAgain (b : Bool) (d : Nat) (Q : zQ) : zP := zEv (zUn b) (zCall (zUn b) d) RX4 cX4_startAgain 1 none none Q
theorem eX4_startAgain_0 {b : Bool} {d : Nat} {Q : zQ} {σ : zV}  : eX4_startAgain b d Q 0 [.ref 1] [] σ = eX4_startAgain b d Q 1 [.ref 1] [.ref 1] σ := q_aload_n (zCall_mono (zUn b) d) (by decide +kernel : decode cX4_startAgain 0 = .ok (.aload_n 0, 1)) rfl
theorem eX4_startAgain_1 {b : Bool} {d : Nat} {Q : zQ} {σ : zV}  : eX4_startAgain b d Q 1 [.ref 1] [.ref 1] σ = eX4_startAgain b d Q 4 [.ref 1] [.ref 2] σ := q_getR (zCall_mono (zUn b) d) (by decide +kernel : decode cX4_startAgain 1 = .ok (.getfield 9, 3)) zf_RX4_9 (u_1 b) rfl
theorem eX4_startAgain_4 {b : Bool} {d : Nat} {Q : zQ} {σ : zV}  : eX4_startAgain b d Q 4 [.ref 1] [.ref 2] σ = eX4_startAgain b d Q 5 [.ref 1] [.int 0, .ref 2] σ := q_iconst (zCall_mono (zUn b) d) (by decide +kernel : decode cX4_startAgain 4 = .ok (.iconst 0, 1)) (by decide +kernel)
theorem eX4_startAgain_5 {b : Bool} {d : Nat} {Q : zQ} {σ : zV} {s0 : Int32} : eX4_startAgain b d Q 5 [.ref 1] [.int s0, .ref 2] σ = zCall (zUn b) d yJ7_fill_53178 [.ref 2, .int s0] σ (fun v σ' => eX4_startAgain b d Q 8 [.ref 1] (v.toList ++ []) σ') := q_ins (As := [.ref 2, .int s0]) (r := []) (zCall_mono (zUn b) d) (by decide +kernel : decode cX4_startAgain 5 = .ok (.invokestatic 24, 3)) zm_RX4_24 (Nat.le_of_ble_eq_true rfl) rfl
theorem eX4_startAgain_8 {b : Bool} {d : Nat} {Q : zQ} {σ : zV}  : eX4_startAgain b d Q 8 [.ref 1] [] σ = eX4_startAgain b d Q 9 [.ref 1] [.ref 1] σ := q_aload_n (zCall_mono (zUn b) d) (by decide +kernel : decode cX4_startAgain 8 = .ok (.aload_n 0, 1)) rfl
theorem eX4_startAgain_9 {b : Bool} {d : Nat} {Q : zQ} {σ : zV}  : eX4_startAgain b d Q 9 [.ref 1] [.ref 1] σ = eX4_startAgain b d Q 12 [.ref 1] [.ref 3] σ := q_getR (zCall_mono (zUn b) d) (by decide +kernel : decode cX4_startAgain 9 = .ok (.getfield 15, 3)) zf_RX4_15 (u_1 b) rfl
theorem eX4_startAgain_12 {b : Bool} {d : Nat} {Q : zQ} {σ : zV}  : eX4_startAgain b d Q 12 [.ref 1] [.ref 3] σ = eX4_startAgain b d Q 13 [.ref 1] [.int 1, .ref 3] σ := q_iconst (zCall_mono (zUn b) d) (by decide +kernel : decode cX4_startAgain 12 = .ok (.iconst 1, 1)) (by decide +kernel)
theorem eX4_startAgain_13 {b : Bool} {d : Nat} {Q : zQ} {σ : zV} {s0 : Int32} : eX4_startAgain b d Q 13 [.ref 1] [.int s0, .ref 3] σ = zCall (zUn b) d yJ7_fill_53178 [.ref 3, .int s0] σ (fun v σ' => eX4_startAgain b d Q 16 [.ref 1] (v.toList ++ []) σ') := q_ins (As := [.ref 3, .int s0]) (r := []) (zCall_mono (zUn b) d) (by decide +kernel : decode cX4_startAgain 13 = .ok (.invokestatic 24, 3)) zm_RX4_24 (Nat.le_of_ble_eq_true rfl) rfl
theorem eX4_startAgain_16 {b : Bool} {d : Nat} {Q : zQ} {σ : zV}  : eX4_startAgain b d Q 16 [.ref 1] [] σ = eX4_startAgain b d Q 17 [.ref 1] [.ref 1] σ := q_aload_n (zCall_mono (zUn b) d) (by decide +kernel : decode cX4_startAgain 16 = .ok (.aload_n 0, 1)) rfl
theorem eX4_startAgain_17 {b : Bool} {d : Nat} {Q : zQ} {σ : zV}  : eX4_startAgain b d Q 17 [.ref 1] [.ref 1] σ = eX4_startAgain b d Q 20 [.ref 1] [.ref 4] σ := q_getR (zCall_mono (zUn b) d) (by decide +kernel : decode cX4_startAgain 17 = .ok (.getfield 18, 3)) zf_RX4_18 (u_1 b) rfl
theorem eX4_startAgain_20 {b : Bool} {d : Nat} {Q : zQ} {σ : zV}  : eX4_startAgain b d Q 20 [.ref 1] [.ref 4] σ = eX4_startAgain b d Q 21 [.ref 1] [.int (-1), .ref 4] σ := q_iconst (zCall_mono (zUn b) d) (by decide +kernel : decode cX4_startAgain 20 = .ok (.iconst (-1), 1)) (by decide +kernel)
theorem eX4_startAgain_21 {b : Bool} {d : Nat} {Q : zQ} {σ : zV} {s0 : Int32} : eX4_startAgain b d Q 21 [.ref 1] [.int s0, .ref 4] σ = zCall (zUn b) d yJ7_fill_53178 [.ref 4, .int s0] σ (fun v σ' => eX4_startAgain b d Q 24 [.ref 1] (v.toList ++ []) σ') := q_ins (As := [.ref 4, .int s0]) (r := []) (zCall_mono (zUn b) d) (by decide +kernel : decode cX4_startAgain 21 = .ok (.invokestatic 24, 3)) zm_RX4_24 (Nat.le_of_ble_eq_true rfl) rfl
theorem eX4_startAgain_24 {b : Bool} {d : Nat} {Q : zQ} {σ : zV}  : eX4_startAgain b d Q 24 [.ref 1] [] σ = eX4_startAgain b d Q 25 [.ref 1] [.ref 1] σ := q_aload_n (zCall_mono (zUn b) d) (by decide +kernel : decode cX4_startAgain 24 = .ok (.aload_n 0, 1)) rfl
theorem eX4_startAgain_25 {b : Bool} {d : Nat} {Q : zQ} {σ : zV}  : eX4_startAgain b d Q 25 [.ref 1] [.ref 1] σ = eX4_startAgain b d Q 28 [.ref 1] [.ref 5] σ := q_getR (zCall_mono (zUn b) d) (by decide +kernel : decode cX4_startAgain 25 = .ok (.getfield 21, 3)) zf_RX4_21 (u_1 b) rfl
theorem eX4_startAgain_28 {b : Bool} {d : Nat} {Q : zQ} {σ : zV}  : eX4_startAgain b d Q 28 [.ref 1] [.ref 5] σ = eX4_startAgain b d Q 29 [.ref 1] [.int 0, .ref 5] σ := q_iconst (zCall_mono (zUn b) d) (by decide +kernel : decode cX4_startAgain 28 = .ok (.iconst 0, 1)) (by decide +kernel)
theorem eX4_startAgain_29 {b : Bool} {d : Nat} {Q : zQ} {σ : zV} {s0 : Int32} : eX4_startAgain b d Q 29 [.ref 1] [.int s0, .ref 5] σ = zCall (zUn b) d yJ7_fill_53178 [.ref 5, .int s0] σ (fun v σ' => eX4_startAgain b d Q 32 [.ref 1] (v.toList ++ []) σ') := q_ins (As := [.ref 5, .int s0]) (r := []) (zCall_mono (zUn b) d) (by decide +kernel : decode cX4_startAgain 29 = .ok (.invokestatic 24, 3)) zm_RX4_24 (Nat.le_of_ble_eq_true rfl) rfl
theorem eX4_startAgain_32 {b : Bool} {d : Nat} {Q : zQ} {σ : zV}  : eX4_startAgain b d Q 32 [.ref 1] [] σ = Q none σ := q_vret (zCall_mono (zUn b) d) (by decide +kernel : decode cX4_startAgain 32 = .ok (.return_, 1)) rfl
theorem nX4_startAgain {b : Bool} {d : Nat} {Q : zQ} {σ : zV}  : zCall (zUn b) (d + 1) yX4_startAgain [.ref 1] σ Q = eX4_startAgain b d Q 0 [.ref 1] [] σ := (q_call kX4_startAgain (Nat.le_of_ble_eq_true rfl)).trans rfl
def eX4_timeKept (b : Bool) (d : Nat) (Q : zQ) : zP := zEv (zUn b) (zCall (zUn b) d) RX4 cX4_timeKept 4 (some .int) none Q
theorem eX4_timeKept_0 {b : Bool} {d : Nat} {Q : zQ} {σ : zV} {v1 : Int32} {v2 : Int32} {v3 : Int32} : eX4_timeKept b d Q 0 [.ref 1, .int v1, .int v2, .int v3] [] σ = eX4_timeKept b d Q 1 [.ref 1, .int v1, .int v2, .int v3] [.ref 1] σ := q_aload_n (zCall_mono (zUn b) d) (by decide +kernel : decode cX4_timeKept 0 = .ok (.aload_n 0, 1)) rfl
theorem eX4_timeKept_1 {b : Bool} {d : Nat} {Q : zQ} {σ : zV} {v1 : Int32} {v2 : Int32} {v3 : Int32} : eX4_timeKept b d Q 1 [.ref 1, .int v1, .int v2, .int v3] [.ref 1] σ = eX4_timeKept b d Q 4 [.ref 1, .int v1, .int v2, .int v3] [.ref 5] σ := q_getR (zCall_mono (zUn b) d) (by decide +kernel : decode cX4_timeKept 1 = .ok (.getfield 21, 3)) zf_RX4_21 (u_1 b) rfl
theorem eX4_timeKept_4 {b : Bool} {d : Nat} {Q : zQ} {σ : zV} {v1 : Int32} {v2 : Int32} {v3 : Int32} : eX4_timeKept b d Q 4 [.ref 1, .int v1, .int v2, .int v3] [.ref 5] σ = eX4_timeKept b d Q 5 [.ref 1, .int v1, .int v2, .int v3] [.int v1, .ref 5] σ := q_iload_n (zCall_mono (zUn b) d) (by decide +kernel : decode cX4_timeKept 4 = .ok (.iload_n 1, 1)) rfl
theorem eX4_timeKept_5 {b : Bool} {d : Nat} {Q : zQ} {σ : zV} {v1 : Int32} {v2 : Int32} {v3 : Int32} {s0 : Int32} : eX4_timeKept b d Q 5 [.ref 1, .int v1, .int v2, .int v3] [.int s0, .ref 5] σ = eX4_timeKept b d Q 6 [.ref 1, .int v1, .int v2, .int v3] [.int v2, .int s0, .ref 5] σ := q_iload_n (zCall_mono (zUn b) d) (by decide +kernel : decode cX4_timeKept 5 = .ok (.iload_n 2, 1)) rfl
theorem eX4_timeKept_6 {b : Bool} {d : Nat} {Q : zQ} {σ : zV} {v1 : Int32} {v2 : Int32} {v3 : Int32} {s0 : Int32} {s1 : Int32} : eX4_timeKept b d Q 6 [.ref 1, .int v1, .int v2, .int v3] [.int s0, .int s1, .ref 5] σ = zCall (zUn b) d yX4_rowOf [.int s1, .int s0] σ (fun v σ' => eX4_timeKept b d Q 9 [.ref 1, .int v1, .int v2, .int v3] (v.toList ++ [.ref 5]) σ') := q_ins (As := [.int s1, .int s0]) (r := [.ref 5]) (zCall_mono (zUn b) d) (by decide +kernel : decode cX4_timeKept 6 = .ok (.invokestatic 30, 3)) zm_RX4_30 (Nat.le_of_ble_eq_true rfl) rfl
theorem eX4_timeKept_9 {b : Bool} {d : Nat} {Q : zQ} {σ : zV} {v1 : Int32} {v2 : Int32} {v3 : Int32} {s0 : Int32} : eX4_timeKept b d Q 9 [.ref 1, .int v1, .int v2, .int v3] [.int s0, .ref 5] σ = eX4_timeKept b d Q 11 [.ref 1, .int v1, .int v2, .int v3] [.int 20, .int s0, .ref 5] σ := q_bipush (zCall_mono (zUn b) d) (by decide +kernel : decode cX4_timeKept 9 = .ok (.bipush 20, 2)) (by decide +kernel)
theorem eX4_timeKept_11 {b : Bool} {d : Nat} {Q : zQ} {σ : zV} {v1 : Int32} {v2 : Int32} {v3 : Int32} {s0 : Int32} {s1 : Int32} : eX4_timeKept b d Q 11 [.ref 1, .int v1, .int v2, .int v3] [.int s0, .int s1, .ref 5] σ = eX4_timeKept b d Q 12 [.ref 1, .int v1, .int v2, .int v3] [.int (s1 * s0), .ref 5] σ := q_imul (zCall_mono (zUn b) d) (by decide +kernel : decode cX4_timeKept 11 = .ok (.imul, 1))
theorem eX4_timeKept_12 {b : Bool} {d : Nat} {Q : zQ} {σ : zV} {v1 : Int32} {v2 : Int32} {v3 : Int32} {s0 : Int32} : eX4_timeKept b d Q 12 [.ref 1, .int v1, .int v2, .int v3] [.int s0, .ref 5] σ = eX4_timeKept b d Q 13 [.ref 1, .int v1, .int v2, .int v3] [.int v3, .int s0, .ref 5] σ := q_iload_n (zCall_mono (zUn b) d) (by decide +kernel : decode cX4_timeKept 12 = .ok (.iload_n 3, 1)) rfl
theorem eX4_timeKept_13 {b : Bool} {d : Nat} {Q : zQ} {σ : zV} {v1 : Int32} {v2 : Int32} {v3 : Int32} {s0 : Int32} {s1 : Int32} : eX4_timeKept b d Q 13 [.ref 1, .int v1, .int v2, .int v3] [.int s0, .int s1, .ref 5] σ = eX4_timeKept b d Q 14 [.ref 1, .int v1, .int v2, .int v3] [.int (s1 + s0), .ref 5] σ := q_iadd (zCall_mono (zUn b) d) (by decide +kernel : decode cX4_timeKept 13 = .ok (.iadd, 1))
theorem eX4_timeKept_14 {b : Bool} {d : Nat} {Q : zQ} {σ : zV} {v1 : Int32} {v2 : Int32} {v3 : Int32} {s0 : Int32} : eX4_timeKept b d Q 14 [.ref 1, .int v1, .int v2, .int v3] [.int s0, .ref 5] σ = (vp_in s0 960 ∧ eX4_timeKept b d Q 15 [.ref 1, .int v1, .int v2, .int v3] [.int (σ 5 s0.toNatClampNeg)] σ) := q_iald (zCall_mono (zUn b) d) (by decide +kernel : decode cX4_timeKept 14 = .ok (.iaload, 1)) (u_5 b)
theorem eX4_timeKept_15 {b : Bool} {d : Nat} {Q : zQ} {σ : zV} {v1 : Int32} {v2 : Int32} {v3 : Int32} {s0 : Int32} : eX4_timeKept b d Q 15 [.ref 1, .int v1, .int v2, .int v3] [.int s0] σ = Q (some (.int s0)) σ := q_iret (zCall_mono (zUn b) d) (by decide +kernel : decode cX4_timeKept 15 = .ok (.ireturn, 1)) rfl
theorem nX4_timeKept {b : Bool} {d : Nat} {Q : zQ} {σ : zV} {v1 : Int32} {v2 : Int32} {v3 : Int32} : zCall (zUn b) (d + 1) yX4_timeKept [.ref 1, .int v1, .int v2, .int v3] σ Q = eX4_timeKept b d Q 0 [.ref 1, .int v1, .int v2, .int v3] [] σ := (q_call kX4_timeKept (Nat.le_of_ble_eq_true rfl)).trans rfl
end
