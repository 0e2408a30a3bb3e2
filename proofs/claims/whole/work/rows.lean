section
-- ===== PART A: goes FIRST, ahead of the names: the tables' words, and 'selects' of the private methods out of them =====
/-- a private method of a class that the tables say can be made, by its rows of tables_1 -/
def lw_okq (q : MethodName × Nat) : Prop := (q.1.cls ≠ "java/lang/invoke/MethodHandle" ∧ q.1.cls ≠ "java/lang/invoke/VarHandle") ∧ Cond.instantiable q.1.cls q.2 ∈ tables_1 ∧ Cond.privateMethod q.1 ∈ tables_1 ∧ Cond.instanceMethod q.1 ∈ tables_1
theorem lw_p0 : lw_okq (⟨"ShootDown", "startAgain", "(I)V"⟩, 15) := ⟨⟨by decide +kernel, by decide +kernel⟩, List.mem_of_getElem? (i := 13) (by decide +kernel), List.mem_of_getElem? (i := 141) (by decide +kernel), List.mem_of_getElem? (i := 142) (by decide +kernel)⟩
theorem lw_p1 : lw_okq (⟨"ShootDown$Tables", "startAgain", "()V"⟩, 4) := ⟨⟨by decide +kernel, by decide +kernel⟩, List.mem_of_getElem? (i := 21) (by decide +kernel), List.mem_of_getElem? (i := 145) (by decide +kernel), List.mem_of_getElem? (i := 146) (by decide +kernel)⟩
theorem lw_p2 : lw_okq (⟨"ShootDown$Crew", "startAgain", "()V"⟩, 4) := ⟨⟨by decide +kernel, by decide +kernel⟩, List.mem_of_getElem? (i := 42) (by decide +kernel), List.mem_of_getElem? (i := 152) (by decide +kernel), List.mem_of_getElem? (i := 153) (by decide +kernel)⟩
theorem lw_p3 : lw_okq (⟨"ShootDown$Memories", "startAgain", "()V"⟩, 5) := ⟨⟨by decide +kernel, by decide +kernel⟩, List.mem_of_getElem? (i := 65) (by decide +kernel), List.mem_of_getElem? (i := 160) (by decide +kernel), List.mem_of_getElem? (i := 161) (by decide +kernel)⟩
theorem lw_p4 : lw_okq (⟨"ShootDown$Queues", "startAgain", "()V"⟩, 2) := ⟨⟨by decide +kernel, by decide +kernel⟩, List.mem_of_getElem? (i := 88) (by decide +kernel), List.mem_of_getElem? (i := 165) (by decide +kernel), List.mem_of_getElem? (i := 166) (by decide +kernel)⟩
theorem lw_p5 : lw_okq (⟨"ShootDown$Shoots", "startAgain", "()V"⟩, 8) := ⟨⟨by decide +kernel, by decide +kernel⟩, List.mem_of_getElem? (i := 102) (by decide +kernel), List.mem_of_getElem? (i := 170) (by decide +kernel), List.mem_of_getElem? (i := 171) (by decide +kernel)⟩
theorem lw_p6 : lw_okq (⟨"ShootDown$Tables", "entryNow", "(II)I"⟩, 4) := ⟨⟨by decide +kernel, by decide +kernel⟩, List.mem_of_getElem? (i := 21) (by decide +kernel), List.mem_of_getElem? (i := 237) (by decide +kernel), List.mem_of_getElem? (i := 238) (by decide +kernel)⟩
theorem lw_p7 : lw_okq (⟨"ShootDown$Tables", "entryKept", "(III)I"⟩, 4) := ⟨⟨by decide +kernel, by decide +kernel⟩, List.mem_of_getElem? (i := 21) (by decide +kernel), List.mem_of_getElem? (i := 244) (by decide +kernel), List.mem_of_getElem? (i := 245) (by decide +kernel)⟩
theorem lw_p8 : lw_okq (⟨"ShootDown$Tables", "change", "(IIII)V"⟩, 4) := ⟨⟨by decide +kernel, by decide +kernel⟩, List.mem_of_getElem? (i := 21) (by decide +kernel), List.mem_of_getElem? (i := 251) (by decide +kernel), List.mem_of_getElem? (i := 252) (by decide +kernel)⟩
theorem lw_p9 : lw_okq (⟨"ShootDown", "isCore", "(I)Z"⟩, 15) := ⟨⟨by decide +kernel, by decide +kernel⟩, List.mem_of_getElem? (i := 13) (by decide +kernel), List.mem_of_getElem? (i := 266) (by decide +kernel), List.mem_of_getElem? (i := 267) (by decide +kernel)⟩
theorem lw_p10 : lw_okq (⟨"ShootDown", "isFree", "(I)Z"⟩, 15) := ⟨⟨by decide +kernel, by decide +kernel⟩, List.mem_of_getElem? (i := 13) (by decide +kernel), List.mem_of_getElem? (i := 270) (by decide +kernel), List.mem_of_getElem? (i := 271) (by decide +kernel)⟩
theorem lw_p11 : lw_okq (⟨"ShootDown", "takeAllCalls", "(I)I"⟩, 15) := ⟨⟨by decide +kernel, by decide +kernel⟩, List.mem_of_getElem? (i := 13) (by decide +kernel), List.mem_of_getElem? (i := 274) (by decide +kernel), List.mem_of_getElem? (i := 275) (by decide +kernel)⟩
theorem lw_p12 : lw_okq (⟨"ShootDown", "takeFirstCall", "(I)I"⟩, 15) := ⟨⟨by decide +kernel, by decide +kernel⟩, List.mem_of_getElem? (i := 13) (by decide +kernel), List.mem_of_getElem? (i := 278) (by decide +kernel), List.mem_of_getElem? (i := 279) (by decide +kernel)⟩
theorem lw_p13 : lw_okq (⟨"ShootDown$Queues", "removeFirst", "(I)I"⟩, 2) := ⟨⟨by decide +kernel, by decide +kernel⟩, List.mem_of_getElem? (i := 88) (by decide +kernel), List.mem_of_getElem? (i := 282) (by decide +kernel), List.mem_of_getElem? (i := 283) (by decide +kernel)⟩
theorem lw_p14 : lw_okq (⟨"ShootDown$Shoots", "isBegun", "(I)Z"⟩, 8) := ⟨⟨by decide +kernel, by decide +kernel⟩, List.mem_of_getElem? (i := 102) (by decide +kernel), List.mem_of_getElem? (i := 287) (by decide +kernel), List.mem_of_getElem? (i := 288) (by decide +kernel)⟩
theorem lw_p15 : lw_okq (⟨"ShootDown$Memories", "forget", "(III)I"⟩, 5) := ⟨⟨by decide +kernel, by decide +kernel⟩, List.mem_of_getElem? (i := 65) (by decide +kernel), List.mem_of_getElem? (i := 291) (by decide +kernel), List.mem_of_getElem? (i := 292) (by decide +kernel)⟩
def lw_privs_1 : List (MethodName × Nat) := [(⟨"ShootDown", "startAgain", "(I)V"⟩, 15), (⟨"ShootDown$Tables", "startAgain", "()V"⟩, 4), (⟨"ShootDown$Crew", "startAgain", "()V"⟩, 4), (⟨"ShootDown$Memories", "startAgain", "()V"⟩, 5), (⟨"ShootDown$Queues", "startAgain", "()V"⟩, 2), (⟨"ShootDown$Shoots", "startAgain", "()V"⟩, 8), (⟨"ShootDown$Tables", "entryNow", "(II)I"⟩, 4), (⟨"ShootDown$Tables", "entryKept", "(III)I"⟩, 4), (⟨"ShootDown$Tables", "change", "(IIII)V"⟩, 4), (⟨"ShootDown", "isCore", "(I)Z"⟩, 15), (⟨"ShootDown", "isFree", "(I)Z"⟩, 15), (⟨"ShootDown", "takeAllCalls", "(I)I"⟩, 15), (⟨"ShootDown", "takeFirstCall", "(I)I"⟩, 15), (⟨"ShootDown$Queues", "removeFirst", "(I)I"⟩, 2), (⟨"ShootDown$Shoots", "isBegun", "(I)Z"⟩, 8), (⟨"ShootDown$Memories", "forget", "(III)I"⟩, 5)]
theorem lw_r1 : ∀ q ∈ lw_privs_1, lw_okq q := List.forall_mem_cons.mpr ⟨lw_p0, List.forall_mem_cons.mpr ⟨lw_p1, List.forall_mem_cons.mpr ⟨lw_p2, List.forall_mem_cons.mpr ⟨lw_p3, List.forall_mem_cons.mpr ⟨lw_p4, List.forall_mem_cons.mpr ⟨lw_p5, List.forall_mem_cons.mpr ⟨lw_p6, List.forall_mem_cons.mpr ⟨lw_p7, List.forall_mem_cons.mpr ⟨lw_p8, List.forall_mem_cons.mpr ⟨lw_p9, List.forall_mem_cons.mpr ⟨lw_p10, List.forall_mem_cons.mpr ⟨lw_p11, List.forall_mem_cons.mpr ⟨lw_p12, List.forall_mem_cons.mpr ⟨lw_p13, List.forall_mem_cons.mpr ⟨lw_p14, List.forall_mem_cons.mpr ⟨lw_p15, fun _ h => absurd h List.not_mem_nil⟩⟩⟩⟩⟩⟩⟩⟩⟩⟩⟩⟩⟩⟩⟩⟩
theorem lw_p16 : lw_okq (⟨"ShootDown$Memories", "isOf", "(IIII)Z"⟩, 5) := ⟨⟨by decide +kernel, by decide +kernel⟩, List.mem_of_getElem? (i := 65) (by decide +kernel), List.mem_of_getElem? (i := 295) (by decide +kernel), List.mem_of_getElem? (i := 296) (by decide +kernel)⟩
theorem lw_p17 : lw_okq (⟨"ShootDown$Memories", "spaceNoted", "(II)I"⟩, 5) := ⟨⟨by decide +kernel, by decide +kernel⟩, List.mem_of_getElem? (i := 65) (by decide +kernel), List.mem_of_getElem? (i := 299) (by decide +kernel), List.mem_of_getElem? (i := 300) (by decide +kernel)⟩
theorem lw_p18 : lw_okq (⟨"ShootDown$Memories", "pageNoted", "(II)I"⟩, 5) := ⟨⟨by decide +kernel, by decide +kernel⟩, List.mem_of_getElem? (i := 65) (by decide +kernel), List.mem_of_getElem? (i := 303) (by decide +kernel), List.mem_of_getElem? (i := 304) (by decide +kernel)⟩
theorem lw_p19 : lw_okq (⟨"ShootDown$Memories", "move", "(III)V"⟩, 5) := ⟨⟨by decide +kernel, by decide +kernel⟩, List.mem_of_getElem? (i := 65) (by decide +kernel), List.mem_of_getElem? (i := 307) (by decide +kernel), List.mem_of_getElem? (i := 308) (by decide +kernel)⟩
theorem lw_p20 : lw_okq (⟨"ShootDown$Crew", "raiseGeneration", "(III)V"⟩, 4) := ⟨⟨by decide +kernel, by decide +kernel⟩, List.mem_of_getElem? (i := 42) (by decide +kernel), List.mem_of_getElem? (i := 311) (by decide +kernel), List.mem_of_getElem? (i := 312) (by decide +kernel)⟩
theorem lw_p21 : lw_okq (⟨"ShootDown$Shoots", "waitNoMore", "(II)V"⟩, 8) := ⟨⟨by decide +kernel, by decide +kernel⟩, List.mem_of_getElem? (i := 102) (by decide +kernel), List.mem_of_getElem? (i := 318) (by decide +kernel), List.mem_of_getElem? (i := 319) (by decide +kernel)⟩
theorem lw_p22 : lw_okq (⟨"ShootDown$Shoots", "isDone", "(I)Z"⟩, 8) := ⟨⟨by decide +kernel, by decide +kernel⟩, List.mem_of_getElem? (i := 102) (by decide +kernel), List.mem_of_getElem? (i := 322) (by decide +kernel), List.mem_of_getElem? (i := 323) (by decide +kernel)⟩
theorem lw_p23 : lw_okq (⟨"ShootDown", "catchUp", "(I)I"⟩, 15) := ⟨⟨by decide +kernel, by decide +kernel⟩, List.mem_of_getElem? (i := 13) (by decide +kernel), List.mem_of_getElem? (i := 326) (by decide +kernel), List.mem_of_getElem? (i := 327) (by decide +kernel)⟩
theorem lw_p24 : lw_okq (⟨"ShootDown", "isBehind", "(II)Z"⟩, 15) := ⟨⟨by decide +kernel, by decide +kernel⟩, List.mem_of_getElem? (i := 13) (by decide +kernel), List.mem_of_getElem? (i := 330) (by decide +kernel), List.mem_of_getElem? (i := 331) (by decide +kernel)⟩
theorem lw_p25 : lw_okq (⟨"ShootDown$Crew", "generation", "(II)I"⟩, 4) := ⟨⟨by decide +kernel, by decide +kernel⟩, List.mem_of_getElem? (i := 42) (by decide +kernel), List.mem_of_getElem? (i := 334) (by decide +kernel), List.mem_of_getElem? (i := 335) (by decide +kernel)⟩
theorem lw_p26 : lw_okq (⟨"ShootDown$Memories", "find", "(III)I"⟩, 5) := ⟨⟨by decide +kernel, by decide +kernel⟩, List.mem_of_getElem? (i := 65) (by decide +kernel), List.mem_of_getElem? (i := 350) (by decide +kernel), List.mem_of_getElem? (i := 351) (by decide +kernel)⟩
theorem lw_p27 : lw_okq (⟨"ShootDown", "walkTable", "(IIIZ)I"⟩, 15) := ⟨⟨by decide +kernel, by decide +kernel⟩, List.mem_of_getElem? (i := 13) (by decide +kernel), List.mem_of_getElem? (i := 354) (by decide +kernel), List.mem_of_getElem? (i := 355) (by decide +kernel)⟩
theorem lw_p28 : lw_okq (⟨"ShootDown$Memories", "keep", "(IIIII)V"⟩, 5) := ⟨⟨by decide +kernel, by decide +kernel⟩, List.mem_of_getElem? (i := 65) (by decide +kernel), List.mem_of_getElem? (i := 361) (by decide +kernel), List.mem_of_getElem? (i := 362) (by decide +kernel)⟩
theorem lw_p29 : lw_okq (⟨"ShootDown$Memories", "entryNoted", "(II)I"⟩, 5) := ⟨⟨by decide +kernel, by decide +kernel⟩, List.mem_of_getElem? (i := 65) (by decide +kernel), List.mem_of_getElem? (i := 369) (by decide +kernel), List.mem_of_getElem? (i := 370) (by decide +kernel)⟩
theorem lw_p30 : lw_okq (⟨"ShootDown", "goByNote", "(II)I"⟩, 15) := ⟨⟨by decide +kernel, by decide +kernel⟩, List.mem_of_getElem? (i := 13) (by decide +kernel), List.mem_of_getElem? (i := 373) (by decide +kernel), List.mem_of_getElem? (i := 374) (by decide +kernel)⟩
theorem lw_p31 : lw_okq (⟨"ShootDown", "isStale", "(II)Z"⟩, 15) := ⟨⟨by decide +kernel, by decide +kernel⟩, List.mem_of_getElem? (i := 13) (by decide +kernel), List.mem_of_getElem? (i := 377) (by decide +kernel), List.mem_of_getElem? (i := 378) (by decide +kernel)⟩
def lw_privs_2 : List (MethodName × Nat) := [(⟨"ShootDown$Memories", "isOf", "(IIII)Z"⟩, 5), (⟨"ShootDown$Memories", "spaceNoted", "(II)I"⟩, 5), (⟨"ShootDown$Memories", "pageNoted", "(II)I"⟩, 5), (⟨"ShootDown$Memories", "move", "(III)V"⟩, 5), (⟨"ShootDown$Crew", "raiseGeneration", "(III)V"⟩, 4), (⟨"ShootDown$Shoots", "waitNoMore", "(II)V"⟩, 8), (⟨"ShootDown$Shoots", "isDone", "(I)Z"⟩, 8), (⟨"ShootDown", "catchUp", "(I)I"⟩, 15), (⟨"ShootDown", "isBehind", "(II)Z"⟩, 15), (⟨"ShootDown$Crew", "generation", "(II)I"⟩, 4), (⟨"ShootDown$Memories", "find", "(III)I"⟩, 5), (⟨"ShootDown", "walkTable", "(IIIZ)I"⟩, 15), (⟨"ShootDown$Memories", "keep", "(IIIII)V"⟩, 5), (⟨"ShootDown$Memories", "entryNoted", "(II)I"⟩, 5), (⟨"ShootDown", "goByNote", "(II)I"⟩, 15), (⟨"ShootDown", "isStale", "(II)Z"⟩, 15)]
theorem lw_r2 : ∀ q ∈ lw_privs_2, lw_okq q := List.forall_mem_cons.mpr ⟨lw_p16, List.forall_mem_cons.mpr ⟨lw_p17, List.forall_mem_cons.mpr ⟨lw_p18, List.forall_mem_cons.mpr ⟨lw_p19, List.forall_mem_cons.mpr ⟨lw_p20, List.forall_mem_cons.mpr ⟨lw_p21, List.forall_mem_cons.mpr ⟨lw_p22, List.forall_mem_cons.mpr ⟨lw_p23, List.forall_mem_cons.mpr ⟨lw_p24, List.forall_mem_cons.mpr ⟨lw_p25, List.forall_mem_cons.mpr ⟨lw_p26, List.forall_mem_cons.mpr ⟨lw_p27, List.forall_mem_cons.mpr ⟨lw_p28, List.forall_mem_cons.mpr ⟨lw_p29, List.forall_mem_cons.mpr ⟨lw_p30, List.forall_mem_cons.mpr ⟨lw_p31, fun _ h => absurd h List.not_mem_nil⟩⟩⟩⟩⟩⟩⟩⟩⟩⟩⟩⟩⟩⟩⟩⟩
theorem lw_p32 : lw_okq (⟨"ShootDown", "isNote", "(II)Z"⟩, 15) := ⟨⟨by decide +kernel, by decide +kernel⟩, List.mem_of_getElem? (i := 13) (by decide +kernel), List.mem_of_getElem? (i := 391) (by decide +kernel), List.mem_of_getElem? (i := 392) (by decide +kernel)⟩
theorem lw_p33 : lw_okq (⟨"ShootDown$Memories", "timeNoted", "(II)I"⟩, 5) := ⟨⟨by decide +kernel, by decide +kernel⟩, List.mem_of_getElem? (i := 65) (by decide +kernel), List.mem_of_getElem? (i := 398) (by decide +kernel), List.mem_of_getElem? (i := 399) (by decide +kernel)⟩
theorem lw_p34 : lw_okq (⟨"ShootDown$Tables", "heldFrom", "(IIII)Z"⟩, 4) := ⟨⟨by decide +kernel, by decide +kernel⟩, List.mem_of_getElem? (i := 21) (by decide +kernel), List.mem_of_getElem? (i := 406) (by decide +kernel), List.mem_of_getElem? (i := 407) (by decide +kernel)⟩
theorem lw_p35 : lw_okq (⟨"ShootDown$Tables", "timeKept", "(III)I"⟩, 4) := ⟨⟨by decide +kernel, by decide +kernel⟩, List.mem_of_getElem? (i := 21) (by decide +kernel), List.mem_of_getElem? (i := 410) (by decide +kernel), List.mem_of_getElem? (i := 411) (by decide +kernel)⟩
theorem lw_p36 : lw_okq (⟨"ShootDown", "shootPage", "(IIII)I"⟩, 15) := ⟨⟨by decide +kernel, by decide +kernel⟩, List.mem_of_getElem? (i := 13) (by decide +kernel), List.mem_of_getElem? (i := 418) (by decide +kernel), List.mem_of_getElem? (i := 419) (by decide +kernel)⟩
theorem lw_p37 : lw_okq (⟨"ShootDown$Shoots", "isFull", "()Z"⟩, 8) := ⟨⟨by decide +kernel, by decide +kernel⟩, List.mem_of_getElem? (i := 102) (by decide +kernel), List.mem_of_getElem? (i := 422) (by decide +kernel), List.mem_of_getElem? (i := 423) (by decide +kernel)⟩
theorem lw_p38 : lw_okq (⟨"ShootDown", "beginShoot", "(III)I"⟩, 15) := ⟨⟨by decide +kernel, by decide +kernel⟩, List.mem_of_getElem? (i := 13) (by decide +kernel), List.mem_of_getElem? (i := 426) (by decide +kernel), List.mem_of_getElem? (i := 427) (by decide +kernel)⟩
theorem lw_p39 : lw_okq (⟨"ShootDown$Shoots", "begin", "(IIIII)I"⟩, 8) := ⟨⟨by decide +kernel, by decide +kernel⟩, List.mem_of_getElem? (i := 102) (by decide +kernel), List.mem_of_getElem? (i := 430) (by decide +kernel), List.mem_of_getElem? (i := 431) (by decide +kernel)⟩
theorem lw_p40 : lw_okq (⟨"ShootDown$Crew", "isAwakeIn", "(II)Z"⟩, 4) := ⟨⟨by decide +kernel, by decide +kernel⟩, List.mem_of_getElem? (i := 42) (by decide +kernel), List.mem_of_getElem? (i := 434) (by decide +kernel), List.mem_of_getElem? (i := 435) (by decide +kernel)⟩
theorem lw_p41 : lw_okq (⟨"ShootDown$Queues", "append", "(II)V"⟩, 2) := ⟨⟨by decide +kernel, by decide +kernel⟩, List.mem_of_getElem? (i := 88) (by decide +kernel), List.mem_of_getElem? (i := 438) (by decide +kernel), List.mem_of_getElem? (i := 439) (by decide +kernel)⟩
theorem lw_p42 : lw_okq (⟨"ShootDown$Shoots", "waitFor", "(II)V"⟩, 8) := ⟨⟨by decide +kernel, by decide +kernel⟩, List.mem_of_getElem? (i := 102) (by decide +kernel), List.mem_of_getElem? (i := 442) (by decide +kernel), List.mem_of_getElem? (i := 443) (by decide +kernel)⟩
theorem lw_p43 : lw_okq (⟨"ShootDown$Tables", "isAllNone", "(I)Z"⟩, 4) := ⟨⟨by decide +kernel, by decide +kernel⟩, List.mem_of_getElem? (i := 21) (by decide +kernel), List.mem_of_getElem? (i := 454) (by decide +kernel), List.mem_of_getElem? (i := 455) (by decide +kernel)⟩
theorem lw_p44 : lw_okq (⟨"ShootDown$Tables", "changeAllToNone", "(II)V"⟩, 4) := ⟨⟨by decide +kernel, by decide +kernel⟩, List.mem_of_getElem? (i := 21) (by decide +kernel), List.mem_of_getElem? (i := 459) (by decide +kernel), List.mem_of_getElem? (i := 460) (by decide +kernel)⟩
theorem lw_p45 : lw_okq (⟨"ShootDown$Shoots", "waitsFor", "(II)Z"⟩, 8) := ⟨⟨by decide +kernel, by decide +kernel⟩, List.mem_of_getElem? (i := 102) (by decide +kernel), List.mem_of_getElem? (i := 482) (by decide +kernel), List.mem_of_getElem? (i := 483) (by decide +kernel)⟩
theorem lw_p46 : lw_okq (⟨"ShootDown$Tables", "isKept", "(III)Z"⟩, 4) := ⟨⟨by decide +kernel, by decide +kernel⟩, List.mem_of_getElem? (i := 21) (by decide +kernel), List.mem_of_getElem? (i := 498) (by decide +kernel), List.mem_of_getElem? (i := 499) (by decide +kernel)⟩
theorem lw_p47 : lw_okq (⟨"ShootDown$Shoots", "howManyDone", "()I"⟩, 8) := ⟨⟨by decide +kernel, by decide +kernel⟩, List.mem_of_getElem? (i := 102) (by decide +kernel), List.mem_of_getElem? (i := 516) (by decide +kernel), List.mem_of_getElem? (i := 517) (by decide +kernel)⟩
def lw_privs_3 : List (MethodName × Nat) := [(⟨"ShootDown", "isNote", "(II)Z"⟩, 15), (⟨"ShootDown$Memories", "timeNoted", "(II)I"⟩, 5), (⟨"ShootDown$Tables", "heldFrom", "(IIII)Z"⟩, 4), (⟨"ShootDown$Tables", "timeKept", "(III)I"⟩, 4), (⟨"ShootDown", "shootPage", "(IIII)I"⟩, 15), (⟨"ShootDown$Shoots", "isFull", "()Z"⟩, 8), (⟨"ShootDown", "beginShoot", "(III)I"⟩, 15), (⟨"ShootDown$Shoots", "begin", "(IIIII)I"⟩, 8), (⟨"ShootDown$Crew", "isAwakeIn", "(II)Z"⟩, 4), (⟨"ShootDown$Queues", "append", "(II)V"⟩, 2), (⟨"ShootDown$Shoots", "waitFor", "(II)V"⟩, 8), (⟨"ShootDown$Tables", "isAllNone", "(I)Z"⟩, 4), (⟨"ShootDown$Tables", "changeAllToNone", "(II)V"⟩, 4), (⟨"ShootDown$Shoots", "waitsFor", "(II)Z"⟩, 8), (⟨"ShootDown$Tables", "isKept", "(III)Z"⟩, 4), (⟨"ShootDown$Shoots", "howManyDone", "()I"⟩, 8)]
theorem lw_r3 : ∀ q ∈ lw_privs_3, lw_okq q := List.forall_mem_cons.mpr ⟨lw_p32, List.forall_mem_cons.mpr ⟨lw_p33, List.forall_mem_cons.mpr ⟨lw_p34, List.forall_mem_cons.mpr ⟨lw_p35, List.forall_mem_cons.mpr ⟨lw_p36, List.forall_mem_cons.mpr ⟨lw_p37, List.forall_mem_cons.mpr ⟨lw_p38, List.forall_mem_cons.mpr ⟨lw_p39, List.forall_mem_cons.mpr ⟨lw_p40, List.forall_mem_cons.mpr ⟨lw_p41, List.forall_mem_cons.mpr ⟨lw_p42, List.forall_mem_cons.mpr ⟨lw_p43, List.forall_mem_cons.mpr ⟨lw_p44, List.forall_mem_cons.mpr ⟨lw_p45, List.forall_mem_cons.mpr ⟨lw_p46, List.forall_mem_cons.mpr ⟨lw_p47, fun _ h => absurd h List.not_mem_nil⟩⟩⟩⟩⟩⟩⟩⟩⟩⟩⟩⟩⟩⟩⟩⟩
theorem lw_p48 : lw_okq (⟨"ShootDown", "digestOfCore", "(JI)J"⟩, 15) := ⟨⟨by decide +kernel, by decide +kernel⟩, List.mem_of_getElem? (i := 13) (by decide +kernel), List.mem_of_getElem? (i := 528) (by decide +kernel), List.mem_of_getElem? (i := 529) (by decide +kernel)⟩
theorem lw_p49 : lw_okq (⟨"ShootDownModel", "begin", "(I)V"⟩, 30) := ⟨⟨by decide +kernel, by decide +kernel⟩, List.mem_of_getElem? (i := 535) (by decide +kernel), List.mem_of_getElem? (i := 541) (by decide +kernel), List.mem_of_getElem? (i := 542) (by decide +kernel)⟩
theorem lw_p50 : lw_okq (⟨"ShootDownModel", "become", "(II)V"⟩, 30) := ⟨⟨by decide +kernel, by decide +kernel⟩, List.mem_of_getElem? (i := 535) (by decide +kernel), List.mem_of_getElem? (i := 653) (by decide +kernel), List.mem_of_getElem? (i := 654) (by decide +kernel)⟩
theorem lw_p51 : lw_okq (⟨"ShootDownModel", "isCore", "(I)Z"⟩, 30) := ⟨⟨by decide +kernel, by decide +kernel⟩, List.mem_of_getElem? (i := 535) (by decide +kernel), List.mem_of_getElem? (i := 668) (by decide +kernel), List.mem_of_getElem? (i := 669) (by decide +kernel)⟩
theorem lw_p52 : lw_okq (⟨"ShootDownModel", "shootOf", "(I)I"⟩, 30) := ⟨⟨by decide +kernel, by decide +kernel⟩, List.mem_of_getElem? (i := 535) (by decide +kernel), List.mem_of_getElem? (i := 672) (by decide +kernel), List.mem_of_getElem? (i := 673) (by decide +kernel)⟩
theorem lw_p53 : lw_okq (⟨"ShootDownModel", "takeAll", "(I)I"⟩, 30) := ⟨⟨by decide +kernel, by decide +kernel⟩, List.mem_of_getElem? (i := 535) (by decide +kernel), List.mem_of_getElem? (i := 676) (by decide +kernel), List.mem_of_getElem? (i := 677) (by decide +kernel)⟩
theorem lw_p54 : lw_okq (⟨"ShootDownModel", "takeCall", "(I)I"⟩, 30) := ⟨⟨by decide +kernel, by decide +kernel⟩, List.mem_of_getElem? (i := 535) (by decide +kernel), List.mem_of_getElem? (i := 680) (by decide +kernel), List.mem_of_getElem? (i := 681) (by decide +kernel)⟩
theorem lw_p55 : lw_okq (⟨"ShootDownModel", "forget", "(III)I"⟩, 30) := ⟨⟨by decide +kernel, by decide +kernel⟩, List.mem_of_getElem? (i := 535) (by decide +kernel), List.mem_of_getElem? (i := 684) (by decide +kernel), List.mem_of_getElem? (i := 685) (by decide +kernel)⟩
theorem lw_p56 : lw_okq (⟨"ShootDownModel", "dropNote", "(II)V"⟩, 30) := ⟨⟨by decide +kernel, by decide +kernel⟩, List.mem_of_getElem? (i := 535) (by decide +kernel), List.mem_of_getElem? (i := 688) (by decide +kernel), List.mem_of_getElem? (i := 689) (by decide +kernel)⟩
theorem lw_p57 : lw_okq (⟨"ShootDownModel", "settle", "(I)V"⟩, 30) := ⟨⟨by decide +kernel, by decide +kernel⟩, List.mem_of_getElem? (i := 535) (by decide +kernel), List.mem_of_getElem? (i := 692) (by decide +kernel), List.mem_of_getElem? (i := 693) (by decide +kernel)⟩
theorem lw_p58 : lw_okq (⟨"ShootDownModel", "catchUp", "(I)I"⟩, 30) := ⟨⟨by decide +kernel, by decide +kernel⟩, List.mem_of_getElem? (i := 535) (by decide +kernel), List.mem_of_getElem? (i := 696) (by decide +kernel), List.mem_of_getElem? (i := 697) (by decide +kernel)⟩
theorem lw_p59 : lw_okq (⟨"ShootDownModel", "noteOf", "(III)I"⟩, 30) := ⟨⟨by decide +kernel, by decide +kernel⟩, List.mem_of_getElem? (i := 535) (by decide +kernel), List.mem_of_getElem? (i := 712) (by decide +kernel), List.mem_of_getElem? (i := 713) (by decide +kernel)⟩
theorem lw_p60 : lw_okq (⟨"ShootDownModel", "isStale", "(II)Z"⟩, 30) := ⟨⟨by decide +kernel, by decide +kernel⟩, List.mem_of_getElem? (i := 535) (by decide +kernel), List.mem_of_getElem? (i := 716) (by decide +kernel), List.mem_of_getElem? (i := 717) (by decide +kernel)⟩
theorem lw_p61 : lw_okq (⟨"ShootDownModel", "takeNote", "(IIII)V"⟩, 30) := ⟨⟨by decide +kernel, by decide +kernel⟩, List.mem_of_getElem? (i := 535) (by decide +kernel), List.mem_of_getElem? (i := 720) (by decide +kernel), List.mem_of_getElem? (i := 721) (by decide +kernel)⟩
theorem lw_p62 : lw_okq (⟨"ShootDownModel", "isNote", "(II)Z"⟩, 30) := ⟨⟨by decide +kernel, by decide +kernel⟩, List.mem_of_getElem? (i := 535) (by decide +kernel), List.mem_of_getElem? (i := 732) (by decide +kernel), List.mem_of_getElem? (i := 733) (by decide +kernel)⟩
theorem lw_p63 : lw_okq (⟨"ShootDownModel", "mayShoot", "(I)Z"⟩, 30) := ⟨⟨by decide +kernel, by decide +kernel⟩, List.mem_of_getElem? (i := 535) (by decide +kernel), List.mem_of_getElem? (i := 744) (by decide +kernel), List.mem_of_getElem? (i := 745) (by decide +kernel)⟩
def lw_privs_4 : List (MethodName × Nat) := [(⟨"ShootDown", "digestOfCore", "(JI)J"⟩, 15), (⟨"ShootDownModel", "begin", "(I)V"⟩, 30), (⟨"ShootDownModel", "become", "(II)V"⟩, 30), (⟨"ShootDownModel", "isCore", "(I)Z"⟩, 30), (⟨"ShootDownModel", "shootOf", "(I)I"⟩, 30), (⟨"ShootDownModel", "takeAll", "(I)I"⟩, 30), (⟨"ShootDownModel", "takeCall", "(I)I"⟩, 30), (⟨"ShootDownModel", "forget", "(III)I"⟩, 30), (⟨"ShootDownModel", "dropNote", "(II)V"⟩, 30), (⟨"ShootDownModel", "settle", "(I)V"⟩, 30), (⟨"ShootDownModel", "catchUp", "(I)I"⟩, 30), (⟨"ShootDownModel", "noteOf", "(III)I"⟩, 30), (⟨"ShootDownModel", "isStale", "(II)Z"⟩, 30), (⟨"ShootDownModel", "takeNote", "(IIII)V"⟩, 30), (⟨"ShootDownModel", "isNote", "(II)Z"⟩, 30), (⟨"ShootDownModel", "mayShoot", "(I)Z"⟩, 30)]
theorem lw_r4 : ∀ q ∈ lw_privs_4, lw_okq q := List.forall_mem_cons.mpr ⟨lw_p48, List.forall_mem_cons.mpr ⟨lw_p49, List.forall_mem_cons.mpr ⟨lw_p50, List.forall_mem_cons.mpr ⟨lw_p51, List.forall_mem_cons.mpr ⟨lw_p52, List.forall_mem_cons.mpr ⟨lw_p53, List.forall_mem_cons.mpr ⟨lw_p54, List.forall_mem_cons.mpr ⟨lw_p55, List.forall_mem_cons.mpr ⟨lw_p56, List.forall_mem_cons.mpr ⟨lw_p57, List.forall_mem_cons.mpr ⟨lw_p58, List.forall_mem_cons.mpr ⟨lw_p59, List.forall_mem_cons.mpr ⟨lw_p60, List.forall_mem_cons.mpr ⟨lw_p61, List.forall_mem_cons.mpr ⟨lw_p62, List.forall_mem_cons.mpr ⟨lw_p63, fun _ h => absurd h List.not_mem_nil⟩⟩⟩⟩⟩⟩⟩⟩⟩⟩⟩⟩⟩⟩⟩⟩
theorem lw_p64 : lw_okq (⟨"ShootDownModel", "begins", "(IIII)I"⟩, 30) := ⟨⟨by decide +kernel, by decide +kernel⟩, List.mem_of_getElem? (i := 535) (by decide +kernel), List.mem_of_getElem? (i := 748) (by decide +kernel), List.mem_of_getElem? (i := 749) (by decide +kernel)⟩
theorem lw_p65 : lw_okq (⟨"ShootDownModel", "waited", "(I)I"⟩, 30) := ⟨⟨by decide +kernel, by decide +kernel⟩, List.mem_of_getElem? (i := 535) (by decide +kernel), List.mem_of_getElem? (i := 772) (by decide +kernel), List.mem_of_getElem? (i := 773) (by decide +kernel)⟩
def lw_privs_5 : List (MethodName × Nat) := [(⟨"ShootDownModel", "begins", "(IIII)I"⟩, 30), (⟨"ShootDownModel", "waited", "(I)I"⟩, 30)]
theorem lw_r5 : ∀ q ∈ lw_privs_5, lw_okq q := List.forall_mem_cons.mpr ⟨lw_p64, List.forall_mem_cons.mpr ⟨lw_p65, fun _ h => absurd h List.not_mem_nil⟩⟩
def lw_privs : List (MethodName × Nat) := lw_privs_1 ++ (lw_privs_2 ++ (lw_privs_3 ++ (lw_privs_4 ++ (lw_privs_5))))
def lw_tbl : List Cond := k2_sels lw_privs ++ tables_1
theorem lw_privs_ok : ∀ q ∈ lw_privs, lw_okq q := by
  show ∀ q ∈ lw_privs_1 ++ (lw_privs_2 ++ (lw_privs_3 ++ (lw_privs_4 ++ (lw_privs_5)))), lw_okq q
  exact List.forall_mem_append.mpr ⟨lw_r1, List.forall_mem_append.mpr ⟨lw_r2, List.forall_mem_append.mpr ⟨lw_r3, List.forall_mem_append.mpr ⟨lw_r4, lw_r5⟩⟩⟩⟩
-- ===== names, by the kit's own printer =====
def RX0 : String := "ShootDown$Crew"
def TX0 : u_T := fun k => match k with
  | 0 => ("ShootDown$Crew", "spaces", "[I", true)
  | 1 => ("ShootDown$Crew", "awake", "[Z", true)
  | 2 => ("ShootDown$Crew", "shootsUnderWay", "[I", true)
  | _ => ("ShootDown$Crew", "generations", "[I", true)
def tyX0 : Nat → FieldType := fun k => match k with
  | 0 => .array .int
  | 1 => .array .boolean
  | 2 => .array .int
  | _ => .array .int
abbrev wsX00 : List Cond := u_ws RX0 TX0 4
theorem nmX0 : ∀ a, a < 4 → ∀ b, b < 4 → a ≠ b → (TX0 a).2.1 ≠ (TX0 b).2.1 := by decide +kernel
theorem tyX0_ok : ∀ k, k < 4 → parseFieldDescriptor (TX0 k).2.2.1 = some (tyX0 k) := by decide +kernel
abbrev cX0_init : ByteArray := prog_2_method_1_code
def yX0_init : MethodName := ⟨RX0, "<init>", "()V"⟩
abbrev cX0_startAgain : ByteArray := prog_2_method_2_code
def yX0_startAgain : MethodName := ⟨RX0, "startAgain", "()V"⟩
abbrev cX0_isAwakeIn : ByteArray := prog_2_method_3_code
def yX0_isAwakeIn : MethodName := ⟨RX0, "isAwakeIn", "(II)Z"⟩
abbrev cX0_generation : ByteArray := prog_2_method_4_code
def yX0_generation : MethodName := ⟨RX0, "generation", "(II)I"⟩
abbrev cX0_raiseGeneration : ByteArray := prog_2_method_5_code
def yX0_raiseGeneration : MethodName := ⟨RX0, "raiseGeneration", "(III)V"⟩
def RX1 : String := "ShootDown$Memories"
def TX1 : u_T := fun k => match k with
  | 0 => ("ShootDown$Memories", "held", "[I", true)
  | 1 => ("ShootDown$Memories", "spaces", "[I", true)
  | 2 => ("ShootDown$Memories", "pages", "[I", true)
  | 3 => ("ShootDown$Memories", "entries", "[I", true)
  | _ => ("ShootDown$Memories", "times", "[I", true)
def tyX1 : Nat → FieldType := fun k => match k with
  | 0 => .array .int
  | 1 => .array .int
  | 2 => .array .int
  | 3 => .array .int
  | _ => .array .int
abbrev wsX10 : List Cond := u_ws RX1 TX1 5
theorem nmX1 : ∀ a, a < 5 → ∀ b, b < 5 → a ≠ b → (TX1 a).2.1 ≠ (TX1 b).2.1 := by decide +kernel
theorem tyX1_ok : ∀ k, k < 5 → parseFieldDescriptor (TX1 k).2.2.1 = some (tyX1 k) := by decide +kernel
abbrev cX1_init : ByteArray := prog_3_method_1_code
def yX1_init : MethodName := ⟨RX1, "<init>", "()V"⟩
abbrev cX1_startAgain : ByteArray := prog_3_method_2_code
def yX1_startAgain : MethodName := ⟨RX1, "startAgain", "()V"⟩
abbrev cX1_spaceNoted : ByteArray := prog_3_method_3_code
def yX1_spaceNoted : MethodName := ⟨RX1, "spaceNoted", "(II)I"⟩
abbrev cX1_pageNoted : ByteArray := prog_3_method_4_code
def yX1_pageNoted : MethodName := ⟨RX1, "pageNoted", "(II)I"⟩
abbrev cX1_entryNoted : ByteArray := prog_3_method_5_code
def yX1_entryNoted : MethodName := ⟨RX1, "entryNoted", "(II)I"⟩
abbrev cX1_timeNoted : ByteArray := prog_3_method_6_code
def yX1_timeNoted : MethodName := ⟨RX1, "timeNoted", "(II)I"⟩
abbrev cX1_find : ByteArray := prog_3_method_7_code
def yX1_find : MethodName := ⟨RX1, "find", "(III)I"⟩
abbrev cX1_keep : ByteArray := prog_3_method_8_code
def yX1_keep : MethodName := ⟨RX1, "keep", "(IIIII)V"⟩
abbrev cX1_forget : ByteArray := prog_3_method_9_code
def yX1_forget : MethodName := ⟨RX1, "forget", "(III)I"⟩
abbrev cX1_isOf : ByteArray := prog_3_method_10_code
def yX1_isOf : MethodName := ⟨RX1, "isOf", "(IIII)Z"⟩
abbrev cX1_move : ByteArray := prog_3_method_11_code
def yX1_move : MethodName := ⟨RX1, "move", "(III)V"⟩
def RX2 : String := "ShootDown$Queues"
def TX2 : u_T := fun k => match k with
  | 0 => ("ShootDown$Queues", "lengths", "[I", true)
  | _ => ("ShootDown$Queues", "calls", "[I", true)
def tyX2 : Nat → FieldType := fun k => match k with
  | 0 => .array .int
  | _ => .array .int
abbrev wsX20 : List Cond := u_ws RX2 TX2 2
theorem nmX2 : ∀ a, a < 2 → ∀ b, b < 2 → a ≠ b → (TX2 a).2.1 ≠ (TX2 b).2.1 := by decide +kernel
theorem tyX2_ok : ∀ k, k < 2 → parseFieldDescriptor (TX2 k).2.2.1 = some (tyX2 k) := by decide +kernel
abbrev cX2_init : ByteArray := prog_4_method_1_code
def yX2_init : MethodName := ⟨RX2, "<init>", "()V"⟩
abbrev cX2_startAgain : ByteArray := prog_4_method_2_code
def yX2_startAgain : MethodName := ⟨RX2, "startAgain", "()V"⟩
abbrev cX2_append : ByteArray := prog_4_method_3_code
def yX2_append : MethodName := ⟨RX2, "append", "(II)V"⟩
abbrev cX2_removeFirst : ByteArray := prog_4_method_4_code
def yX2_removeFirst : MethodName := ⟨RX2, "removeFirst", "(I)I"⟩
def RX3 : String := "ShootDown$Shoots"
def TX3 : u_T := fun k => match k with
  | 0 => ("ShootDown$Shoots", "begun", "I", false)
  | 1 => ("ShootDown$Shoots", "beganBy", "[I", true)
  | 2 => ("ShootDown$Shoots", "spaces", "[I", true)
  | 3 => ("ShootDown$Shoots", "pages", "[I", true)
  | 4 => ("ShootDown$Shoots", "generations", "[I", true)
  | 5 => ("ShootDown$Shoots", "begunAt", "[I", true)
  | 6 => ("ShootDown$Shoots", "doneAt", "[I", true)
  | _ => ("ShootDown$Shoots", "waitedFor", "[I", true)
def tyX3 : Nat → FieldType := fun k => match k with
  | 0 => .int
  | 1 => .array .int
  | 2 => .array .int
  | 3 => .array .int
  | 4 => .array .int
  | 5 => .array .int
  | 6 => .array .int
  | _ => .array .int
abbrev wsX30 : List Cond := u_ws RX3 TX3 8
theorem nmX3 : ∀ a, a < 8 → ∀ b, b < 8 → a ≠ b → (TX3 a).2.1 ≠ (TX3 b).2.1 := by decide +kernel
theorem tyX3_ok : ∀ k, k < 8 → parseFieldDescriptor (TX3 k).2.2.1 = some (tyX3 k) := by decide +kernel
abbrev cX3_init : ByteArray := prog_5_method_1_code
def yX3_init : MethodName := ⟨RX3, "<init>", "()V"⟩
abbrev cX3_startAgain : ByteArray := prog_5_method_2_code
def yX3_startAgain : MethodName := ⟨RX3, "startAgain", "()V"⟩
abbrev cX3_isFull : ByteArray := prog_5_method_3_code
def yX3_isFull : MethodName := ⟨RX3, "isFull", "()Z"⟩
abbrev cX3_isBegun : ByteArray := prog_5_method_4_code
def yX3_isBegun : MethodName := ⟨RX3, "isBegun", "(I)Z"⟩
abbrev cX3_isDone : ByteArray := prog_5_method_5_code
def yX3_isDone : MethodName := ⟨RX3, "isDone", "(I)Z"⟩
abbrev cX3_waitsFor : ByteArray := prog_5_method_6_code
def yX3_waitsFor : MethodName := ⟨RX3, "waitsFor", "(II)Z"⟩
abbrev cX3_howManyDone : ByteArray := prog_5_method_7_code
def yX3_howManyDone : MethodName := ⟨RX3, "howManyDone", "()I"⟩
abbrev cX3_begin : ByteArray := prog_5_method_8_code
def yX3_begin : MethodName := ⟨RX3, "begin", "(IIIII)I"⟩
abbrev cX3_waitFor : ByteArray := prog_5_method_9_code
def yX3_waitFor : MethodName := ⟨RX3, "waitFor", "(II)V"⟩
abbrev cX3_waitNoMore : ByteArray := prog_5_method_10_code
def yX3_waitNoMore : MethodName := ⟨RX3, "waitNoMore", "(II)V"⟩
def RX4 : String := "ShootDown$Tables"
def TX4 : u_T := fun k => match k with
  | 0 => ("ShootDown$Tables", "generations", "[I", true)
  | 1 => ("ShootDown$Tables", "kept", "[I", true)
  | 2 => ("ShootDown$Tables", "entries", "[I", true)
  | _ => ("ShootDown$Tables", "times", "[I", true)
def tyX4 : Nat → FieldType := fun k => match k with
  | 0 => .array .int
  | 1 => .array .int
  | 2 => .array .int
  | _ => .array .int
abbrev wsX40 : List Cond := u_ws RX4 TX4 4
theorem nmX4 : ∀ a, a < 4 → ∀ b, b < 4 → a ≠ b → (TX4 a).2.1 ≠ (TX4 b).2.1 := by decide +kernel
theorem tyX4_ok : ∀ k, k < 4 → parseFieldDescriptor (TX4 k).2.2.1 = some (tyX4 k) := by decide +kernel
abbrev cX4_init : ByteArray := prog_6_method_1_code
def yX4_init : MethodName := ⟨RX4, "<init>", "()V"⟩
abbrev cX4_startAgain : ByteArray := prog_6_method_2_code
def yX4_startAgain : MethodName := ⟨RX4, "startAgain", "()V"⟩
abbrev cX4_isKept : ByteArray := prog_6_method_3_code
def yX4_isKept : MethodName := ⟨RX4, "isKept", "(III)Z"⟩
abbrev cX4_entryKept : ByteArray := prog_6_method_4_code
def yX4_entryKept : MethodName := ⟨RX4, "entryKept", "(III)I"⟩
abbrev cX4_timeKept : ByteArray := prog_6_method_5_code
def yX4_timeKept : MethodName := ⟨RX4, "timeKept", "(III)I"⟩
abbrev cX4_entryNow : ByteArray := prog_6_method_6_code
def yX4_entryNow : MethodName := ⟨RX4, "entryNow", "(II)I"⟩
abbrev cX4_isAllNone : ByteArray := prog_6_method_7_code
def yX4_isAllNone : MethodName := ⟨RX4, "isAllNone", "(I)Z"⟩
abbrev cX4_change : ByteArray := prog_6_method_8_code
def yX4_change : MethodName := ⟨RX4, "change", "(IIII)V"⟩
abbrev cX4_changeAllToNone : ByteArray := prog_6_method_9_code
def yX4_changeAllToNone : MethodName := ⟨RX4, "changeAllToNone", "(II)V"⟩
abbrev cX4_heldFrom : ByteArray := prog_6_method_10_code
def yX4_heldFrom : MethodName := ⟨RX4, "heldFrom", "(IIII)Z"⟩
abbrev cX4_rowOf : ByteArray := prog_6_method_11_code
def yX4_rowOf : MethodName := ⟨RX4, "rowOf", "(II)I"⟩
def RX5 : String := "ShootDown"
def TX5 : u_T := fun k => match k with
  | 0 => ("ShootDown", "tables", "LShootDown$Tables;", true)
  | 1 => ("ShootDown", "crew", "LShootDown$Crew;", true)
  | 2 => ("ShootDown", "memories", "LShootDown$Memories;", true)
  | 3 => ("ShootDown", "queues", "LShootDown$Queues;", true)
  | 4 => ("ShootDown", "shoots", "LShootDown$Shoots;", true)
  | 5 => ("ShootDown", "coreCount", "I", false)
  | 6 => ("ShootDown", "time", "I", false)
  | 7 => ("ShootDown", "lookWent", "I", false)
  | 8 => ("ShootDown", "seenEntry", "I", false)
  | 9 => ("ShootDown", "hits", "I", false)
  | 10 => ("ShootDown", "oldHits", "I", false)
  | 11 => ("ShootDown", "walks", "I", false)
  | 12 => ("ShootDown", "faults", "I", false)
  | 13 => ("ShootDown", "callsTaken", "I", false)
  | _ => ("ShootDown", "notesForgotten", "I", false)
def tyX5 : Nat → FieldType := fun k => match k with
  | 0 => .object "ShootDown$Tables"
  | 1 => .object "ShootDown$Crew"
  | 2 => .object "ShootDown$Memories"
  | 3 => .object "ShootDown$Queues"
  | 4 => .object "ShootDown$Shoots"
  | 5 => .int
  | 6 => .int
  | 7 => .int
  | 8 => .int
  | 9 => .int
  | 10 => .int
  | 11 => .int
  | 12 => .int
  | 13 => .int
  | _ => .int
abbrev wsX50 : List Cond := u_ws RX5 TX5 15
theorem nmX5 : ∀ a, a < 15 → ∀ b, b < 15 → a ≠ b → (TX5 a).2.1 ≠ (TX5 b).2.1 := by decide +kernel
theorem tyX5_ok : ∀ k, k < 15 → parseFieldDescriptor (TX5 k).2.2.1 = some (tyX5 k) := by decide +kernel
abbrev cX5_init : ByteArray := prog_1_method_1_code
def yX5_init : MethodName := ⟨RX5, "<init>", "()V"⟩
abbrev cX5_cores : ByteArray := prog_1_method_2_code
def yX5_cores : MethodName := ⟨RX5, "cores", "(I)I"⟩
abbrev cX5_map : ByteArray := prog_1_method_3_code
def yX5_map : MethodName := ⟨RX5, "map", "(IIIZ)I"⟩
abbrev cX5_entry : ByteArray := prog_1_method_4_code
def yX5_entry : MethodName := ⟨RX5, "entry", "(II)I"⟩
abbrev cX5_enter : ByteArray := prog_1_method_5_code
def yX5_enter : MethodName := ⟨RX5, "enter", "(II)I"⟩
abbrev cX5_sleep : ByteArray := prog_1_method_6_code
def yX5_sleep : MethodName := ⟨RX5, "sleep", "(I)I"⟩
abbrev cX5_wake : ByteArray := prog_1_method_7_code
def yX5_wake : MethodName := ⟨RX5, "wake", "(I)I"⟩
abbrev cX5_look : ByteArray := prog_1_method_8_code
def yX5_look : MethodName := ⟨RX5, "look", "(IIZ)I"⟩
abbrev cX5_how : ByteArray := prog_1_method_9_code
def yX5_how : MethodName := ⟨RX5, "how", "()I"⟩
abbrev cX5_note : ByteArray := prog_1_method_10_code
def yX5_note : MethodName := ⟨RX5, "note", "(III)I"⟩
abbrev cX5_wasSo : ByteArray := prog_1_method_11_code
def yX5_wasSo : MethodName := ⟨RX5, "wasSo", "(II)I"⟩
abbrev cX5_unmap : ByteArray := prog_1_method_12_code
def yX5_unmap : MethodName := ⟨RX5, "unmap", "(III)I"⟩
abbrev cX5_remap : ByteArray := prog_1_method_13_code
def yX5_remap : MethodName := ⟨RX5, "remap", "(IIIIZ)I"⟩
abbrev cX5_clear : ByteArray := prog_1_method_14_code
def yX5_clear : MethodName := ⟨RX5, "clear", "(II)I"⟩
abbrev cX5_take : ByteArray := prog_1_method_15_code
def yX5_take : MethodName := ⟨RX5, "take", "(I)I"⟩
abbrev cX5_rounds : ByteArray := prog_1_method_16_code
def yX5_rounds : MethodName := ⟨RX5, "rounds", "(II)I"⟩
abbrev cX5_shoot : ByteArray := prog_1_method_17_code
def yX5_shoot : MethodName := ⟨RX5, "shoot", "(II)I"⟩
abbrev cX5_underWay : ByteArray := prog_1_method_18_code
def yX5_underWay : MethodName := ⟨RX5, "underWay", "(I)I"⟩
abbrev cX5_core : ByteArray := prog_1_method_19_code
def yX5_core : MethodName := ⟨RX5, "core", "(II)I"⟩
abbrev cX5_history : ByteArray := prog_1_method_20_code
def yX5_history : MethodName := ⟨RX5, "history", "(III)I"⟩
abbrev cX5_seen : ByteArray := prog_1_method_21_code
def yX5_seen : MethodName := ⟨RX5, "seen", "()I"⟩
abbrev cX5_danger : ByteArray := prog_1_method_22_code
def yX5_danger : MethodName := ⟨RX5, "danger", "(II)I"⟩
abbrev cX5_count : ByteArray := prog_1_method_23_code
def yX5_count : MethodName := ⟨RX5, "count", "(I)I"⟩
abbrev cX5_digest : ByteArray := prog_1_method_24_code
def yX5_digest : MethodName := ⟨RX5, "digest", "()J"⟩
abbrev cX5_startAgain : ByteArray := prog_1_method_25_code
def yX5_startAgain : MethodName := ⟨RX5, "startAgain", "(I)V"⟩
abbrev cX5_isCore : ByteArray := prog_1_method_26_code
def yX5_isCore : MethodName := ⟨RX5, "isCore", "(I)Z"⟩
abbrev cX5_isFree : ByteArray := prog_1_method_27_code
def yX5_isFree : MethodName := ⟨RX5, "isFree", "(I)Z"⟩
abbrev cX5_isBehind : ByteArray := prog_1_method_28_code
def yX5_isBehind : MethodName := ⟨RX5, "isBehind", "(II)Z"⟩
abbrev cX5_isNote : ByteArray := prog_1_method_29_code
def yX5_isNote : MethodName := ⟨RX5, "isNote", "(II)Z"⟩
abbrev cX5_isStale : ByteArray := prog_1_method_30_code
def yX5_isStale : MethodName := ⟨RX5, "isStale", "(II)Z"⟩
abbrev cX5_goByNote : ByteArray := prog_1_method_31_code
def yX5_goByNote : MethodName := ⟨RX5, "goByNote", "(II)I"⟩
abbrev cX5_walkTable : ByteArray := prog_1_method_32_code
def yX5_walkTable : MethodName := ⟨RX5, "walkTable", "(IIIZ)I"⟩
abbrev cX5_shootPage : ByteArray := prog_1_method_33_code
def yX5_shootPage : MethodName := ⟨RX5, "shootPage", "(IIII)I"⟩
abbrev cX5_beginShoot : ByteArray := prog_1_method_34_code
def yX5_beginShoot : MethodName := ⟨RX5, "beginShoot", "(III)I"⟩
abbrev cX5_takeFirstCall : ByteArray := prog_1_method_35_code
def yX5_takeFirstCall : MethodName := ⟨RX5, "takeFirstCall", "(I)I"⟩
abbrev cX5_takeAllCalls : ByteArray := prog_1_method_36_code
def yX5_takeAllCalls : MethodName := ⟨RX5, "takeAllCalls", "(I)I"⟩
abbrev cX5_catchUp : ByteArray := prog_1_method_37_code
def yX5_catchUp : MethodName := ⟨RX5, "catchUp", "(I)I"⟩
abbrev cX5_digestOfCore : ByteArray := prog_1_method_38_code
def yX5_digestOfCore : MethodName := ⟨RX5, "digestOfCore", "(JI)J"⟩
abbrev cX5_isSpace : ByteArray := prog_1_method_39_code
def yX5_isSpace : MethodName := ⟨RX5, "isSpace", "(I)Z"⟩
abbrev cX5_isPage : ByteArray := prog_1_method_40_code
def yX5_isPage : MethodName := ⟨RX5, "isPage", "(I)Z"⟩
abbrev cX5_isFrame : ByteArray := prog_1_method_41_code
def yX5_isFrame : MethodName := ⟨RX5, "isFrame", "(I)Z"⟩
abbrev cX5_entryOf : ByteArray := prog_1_method_42_code
def yX5_entryOf : MethodName := ⟨RX5, "entryOf", "(IZ)I"⟩
abbrev cX5_frameOf : ByteArray := prog_1_method_43_code
def yX5_frameOf : MethodName := ⟨RX5, "frameOf", "(I)I"⟩
abbrev cX5_isWritable : ByteArray := prog_1_method_44_code
def yX5_isWritable : MethodName := ⟨RX5, "isWritable", "(I)Z"⟩
abbrev cX5_oneIf : ByteArray := prog_1_method_45_code
def yX5_oneIf : MethodName := ⟨RX5, "oneIf", "(Z)I"⟩
def RX6 : String := "ShootDownModel"
def TX6 : u_T := fun k => match k with
  | 0 => ("ShootDownModel", "cores", "I", false)
  | 1 => ("ShootDownModel", "time", "I", false)
  | 2 => ("ShootDownModel", "seen", "I", false)
  | 3 => ("ShootDownModel", "how", "I", false)
  | 4 => ("ShootDownModel", "entry", "[I", true)
  | 5 => ("ShootDownModel", "generation", "[I", true)
  | 6 => ("ShootDownModel", "historyMany", "[I", true)
  | 7 => ("ShootDownModel", "historyTime", "[I", true)
  | 8 => ("ShootDownModel", "historyWas", "[I", true)
  | 9 => ("ShootDownModel", "space", "[I", true)
  | 10 => ("ShootDownModel", "awake", "[Z", true)
  | 11 => ("ShootDownModel", "notes", "[I", true)
  | 12 => ("ShootDownModel", "note", "[I", true)
  | 13 => ("ShootDownModel", "calls", "[I", true)
  | 14 => ("ShootDownModel", "queue", "[I", true)
  | 15 => ("ShootDownModel", "forgot", "[I", true)
  | 16 => ("ShootDownModel", "shoots", "I", false)
  | 17 => ("ShootDownModel", "byCore", "[I", true)
  | 18 => ("ShootDownModel", "ofSpace", "[I", true)
  | 19 => ("ShootDownModel", "ofPage", "[I", true)
  | 20 => ("ShootDownModel", "toGeneration", "[I", true)
  | 21 => ("ShootDownModel", "begunAt", "[I", true)
  | 22 => ("ShootDownModel", "doneAt", "[I", true)
  | 23 => ("ShootDownModel", "waits", "[Z", true)
  | 24 => ("ShootDownModel", "hits", "I", false)
  | 25 => ("ShootDownModel", "old", "I", false)
  | 26 => ("ShootDownModel", "walks", "I", false)
  | 27 => ("ShootDownModel", "faults", "I", false)
  | 28 => ("ShootDownModel", "taken", "I", false)
  | _ => ("ShootDownModel", "cleared", "I", false)
def tyX6 : Nat → FieldType := fun k => match k with
  | 0 => .int
  | 1 => .int
  | 2 => .int
  | 3 => .int
  | 4 => .array .int
  | 5 => .array .int
  | 6 => .array .int
  | 7 => .array .int
  | 8 => .array .int
  | 9 => .array .int
  | 10 => .array .boolean
  | 11 => .array .int
  | 12 => .array .int
  | 13 => .array .int
  | 14 => .array .int
  | 15 => .array .int
  | 16 => .int
  | 17 => .array .int
  | 18 => .array .int
  | 19 => .array .int
  | 20 => .array .int
  | 21 => .array .int
  | 22 => .array .int
  | 23 => .array .boolean
  | 24 => .int
  | 25 => .int
  | 26 => .int
  | 27 => .int
  | 28 => .int
  | _ => .int
abbrev wsX60 : List Cond := u_ws RX6 TX6 30
theorem nmX6 : ∀ a, a < 30 → ∀ b, b < 30 → a ≠ b → (TX6 a).2.1 ≠ (TX6 b).2.1 := by decide +kernel
theorem tyX6_ok : ∀ k, k < 30 → parseFieldDescriptor (TX6 k).2.2.1 = some (tyX6 k) := by decide +kernel
abbrev cX6_init : ByteArray := prog_8_method_1_code
def yX6_init : MethodName := ⟨RX6, "<init>", "()V"⟩
abbrev cX6_in : ByteArray := prog_8_method_2_code
def yX6_in : MethodName := ⟨RX6, "in", "(III)Z"⟩
abbrev cX6_begin : ByteArray := prog_8_method_3_code
def yX6_begin : MethodName := ⟨RX6, "begin", "(I)V"⟩
abbrev cX6_isCore : ByteArray := prog_8_method_4_code
def yX6_isCore : MethodName := ⟨RX6, "isCore", "(I)Z"⟩
abbrev cX6_isPage : ByteArray := prog_8_method_5_code
def yX6_isPage : MethodName := ⟨RX6, "isPage", "(II)Z"⟩
abbrev cX6_cores : ByteArray := prog_8_method_6_code
def yX6_cores : MethodName := ⟨RX6, "cores", "(I)I"⟩
abbrev cX6_become : ByteArray := prog_8_method_7_code
def yX6_become : MethodName := ⟨RX6, "become", "(II)V"⟩
abbrev cX6_entryOf : ByteArray := prog_8_method_8_code
def yX6_entryOf : MethodName := ⟨RX6, "entryOf", "(IZ)I"⟩
abbrev cX6_told : ByteArray := prog_8_method_9_code
def yX6_told : MethodName := ⟨RX6, "told", "(I)I"⟩
abbrev cX6_map : ByteArray := prog_8_method_10_code
def yX6_map : MethodName := ⟨RX6, "map", "(IIIZ)I"⟩
abbrev cX6_entry : ByteArray := prog_8_method_11_code
def yX6_entry : MethodName := ⟨RX6, "entry", "(II)I"⟩
abbrev cX6_dropNote : ByteArray := prog_8_method_12_code
def yX6_dropNote : MethodName := ⟨RX6, "dropNote", "(II)V"⟩
abbrev cX6_noteOf : ByteArray := prog_8_method_13_code
def yX6_noteOf : MethodName := ⟨RX6, "noteOf", "(III)I"⟩
abbrev cX6_forget : ByteArray := prog_8_method_14_code
def yX6_forget : MethodName := ⟨RX6, "forget", "(III)I"⟩
abbrev cX6_takeNote : ByteArray := prog_8_method_15_code
def yX6_takeNote : MethodName := ⟨RX6, "takeNote", "(IIII)V"⟩
abbrev cX6_takeCall : ByteArray := prog_8_method_16_code
def yX6_takeCall : MethodName := ⟨RX6, "takeCall", "(I)I"⟩
abbrev cX6_settle : ByteArray := prog_8_method_17_code
def yX6_settle : MethodName := ⟨RX6, "settle", "(I)V"⟩
abbrev cX6_takeAll : ByteArray := prog_8_method_18_code
def yX6_takeAll : MethodName := ⟨RX6, "takeAll", "(I)I"⟩
abbrev cX6_shootOf : ByteArray := prog_8_method_19_code
def yX6_shootOf : MethodName := ⟨RX6, "shootOf", "(I)I"⟩
abbrev cX6_catchUp : ByteArray := prog_8_method_20_code
def yX6_catchUp : MethodName := ⟨RX6, "catchUp", "(I)I"⟩
abbrev cX6_enter : ByteArray := prog_8_method_21_code
def yX6_enter : MethodName := ⟨RX6, "enter", "(II)I"⟩
abbrev cX6_sleep : ByteArray := prog_8_method_22_code
def yX6_sleep : MethodName := ⟨RX6, "sleep", "(I)I"⟩
abbrev cX6_wake : ByteArray := prog_8_method_23_code
def yX6_wake : MethodName := ⟨RX6, "wake", "(I)I"⟩
abbrev cX6_isStale : ByteArray := prog_8_method_24_code
def yX6_isStale : MethodName := ⟨RX6, "isStale", "(II)Z"⟩
abbrev cX6_look : ByteArray := prog_8_method_25_code
def yX6_look : MethodName := ⟨RX6, "look", "(IIZ)I"⟩
abbrev cX6_how : ByteArray := prog_8_method_26_code
def yX6_how : MethodName := ⟨RX6, "how", "()I"⟩
abbrev cX6_isNote : ByteArray := prog_8_method_27_code
def yX6_isNote : MethodName := ⟨RX6, "isNote", "(II)Z"⟩
abbrev cX6_note : ByteArray := prog_8_method_28_code
def yX6_note : MethodName := ⟨RX6, "note", "(III)I"⟩
abbrev cX6_wasSo : ByteArray := prog_8_method_29_code
def yX6_wasSo : MethodName := ⟨RX6, "wasSo", "(II)I"⟩
abbrev cX6_mayShoot : ByteArray := prog_8_method_30_code
def yX6_mayShoot : MethodName := ⟨RX6, "mayShoot", "(I)Z"⟩
abbrev cX6_begins : ByteArray := prog_8_method_31_code
def yX6_begins : MethodName := ⟨RX6, "begins", "(IIII)I"⟩
abbrev cX6_unmap : ByteArray := prog_8_method_32_code
def yX6_unmap : MethodName := ⟨RX6, "unmap", "(III)I"⟩
abbrev cX6_remap : ByteArray := prog_8_method_33_code
def yX6_remap : MethodName := ⟨RX6, "remap", "(IIIIZ)I"⟩
abbrev cX6_clear : ByteArray := prog_8_method_34_code
def yX6_clear : MethodName := ⟨RX6, "clear", "(II)I"⟩
abbrev cX6_take : ByteArray := prog_8_method_35_code
def yX6_take : MethodName := ⟨RX6, "take", "(I)I"⟩
abbrev cX6_rounds : ByteArray := prog_8_method_36_code
def yX6_rounds : MethodName := ⟨RX6, "rounds", "(II)I"⟩
abbrev cX6_waited : ByteArray := prog_8_method_37_code
def yX6_waited : MethodName := ⟨RX6, "waited", "(I)I"⟩
abbrev cX6_shoot : ByteArray := prog_8_method_38_code
def yX6_shoot : MethodName := ⟨RX6, "shoot", "(II)I"⟩
abbrev cX6_underWay : ByteArray := prog_8_method_39_code
def yX6_underWay : MethodName := ⟨RX6, "underWay", "(I)I"⟩
abbrev cX6_core : ByteArray := prog_8_method_40_code
def yX6_core : MethodName := ⟨RX6, "core", "(II)I"⟩
abbrev cX6_history : ByteArray := prog_8_method_41_code
def yX6_history : MethodName := ⟨RX6, "history", "(III)I"⟩
abbrev cX6_seen : ByteArray := prog_8_method_42_code
def yX6_seen : MethodName := ⟨RX6, "seen", "()I"⟩
abbrev cX6_danger : ByteArray := prog_8_method_43_code
def yX6_danger : MethodName := ⟨RX6, "danger", "(II)I"⟩
abbrev cX6_count : ByteArray := prog_8_method_44_code
def yX6_count : MethodName := ⟨RX6, "count", "(I)I"⟩
abbrev cX6_digest : ByteArray := prog_8_method_45_code
def yX6_digest : MethodName := ⟨RX6, "digest", "()J"⟩
def RJ6 : String := "java/lang/Integer"
def TJ6 : u_T := fun k => match k with
  | _ => ("", "", "", false)
def tyJ6 : Nat → FieldType := fun k => match k with
  | _ => .int
theorem nmJ6 : ∀ a, a < 0 → ∀ b, b < 0 → a ≠ b → (TJ6 a).2.1 ≠ (TJ6 b).2.1 := by decide +kernel
theorem tyJ6_ok : ∀ k, k < 0 → parseFieldDescriptor (TJ6 k).2.2.1 = some (tyJ6 k) := by decide +kernel
abbrev cJ6_bitCount_0f7a4 : ByteArray := prog_9_method_49_code
def yJ6_bitCount_0f7a4 : MethodName := ⟨RJ6, "bitCount", "(I)I"⟩
def RJ9 : String := "java/lang/Math"
def TJ9 : u_T := fun k => match k with
  | _ => ("", "", "", false)
def tyJ9 : Nat → FieldType := fun k => match k with
  | _ => .int
theorem nmJ9 : ∀ a, a < 0 → ∀ b, b < 0 → a ≠ b → (TJ9 a).2.1 ≠ (TJ9 b).2.1 := by decide +kernel
theorem tyJ9_ok : ∀ k, k < 0 → parseFieldDescriptor (TJ9 k).2.2.1 = some (tyJ9 k) := by decide +kernel
abbrev cJ9_max_7cf53 : ByteArray := prog_10_method_65_code
def yJ9_max_7cf53 : MethodName := ⟨RJ9, "max", "(II)I"⟩
def RJ10 : String := "java/lang/System"
def TJ10 : u_T := fun k => match k with
  | _ => ("", "", "", false)
def tyJ10 : Nat → FieldType := fun k => match k with
  | _ => .int
theorem nmJ10 : ∀ a, a < 0 → ∀ b, b < 0 → a ≠ b → (TJ10 a).2.1 ≠ (TJ10 b).2.1 := by decide +kernel
theorem tyJ10_ok : ∀ k, k < 0 → parseFieldDescriptor (TJ10 k).2.2.1 = some (tyJ10 k) := by decide +kernel
def RJ7 : String := "java/util/Arrays"
def TJ7 : u_T := fun k => match k with
  | _ => ("", "", "", false)
def tyJ7 : Nat → FieldType := fun k => match k with
  | _ => .int
theorem nmJ7 : ∀ a, a < 0 → ∀ b, b < 0 → a ≠ b → (TJ7 a).2.1 ≠ (TJ7 b).2.1 := by decide +kernel
theorem tyJ7_ok : ∀ k, k < 0 → parseFieldDescriptor (TJ7 k).2.2.1 = some (tyJ7 k) := by decide +kernel
abbrev cJ7_fill_53178 : ByteArray := prog_12_method_103_code
def yJ7_fill_53178 : MethodName := ⟨RJ7, "fill", "([II)V"⟩
abbrev cJ7_fill_49daa : ByteArray := prog_12_method_111_code
def yJ7_fill_49daa : MethodName := ⟨RJ7, "fill", "([ZZ)V"⟩
def RL : String := "ShootDownLaw"
abbrev cL_law : ByteArray := code
abbrev vwCl : List vw_C := [(RX0, TX0, 4), (RX1, TX1, 5), (RX2, TX2, 2), (RX3, TX3, 8), (RX4, TX4, 4), (RX5, TX5, 15), (RX6, TX6, 30)]
-- ===== tables of links (a program of mine, out of the statement's tables) =====
def zNames : List String := ["ShootDown$Crew", "ShootDown$Memories", "ShootDown$Queues", "ShootDown$Shoots", "ShootDown$Tables", "ShootDown", "ShootDownModel"]
/-- a field link: class and index; the class of the object, the field's place, whether it is an int that may be written, whether the link is a nest mate's -/
def zfT : List ((String × Nat) × Nat × Nat × Bool × Bool) := [
  ((RX4, 9), 4, 0, false, false),
  ((RX5, 255), 4, 0, false, true),
  ((RX4, 15), 4, 1, false, false),
  ((RX4, 18), 4, 2, false, false),
  ((RX4, 21), 4, 3, false, false),
  ((RX0, 9), 0, 0, false, false),
  ((RX5, 83), 0, 0, false, true),
  ((RX0, 15), 0, 1, false, false),
  ((RX5, 94), 0, 1, false, true),
  ((RX0, 19), 0, 2, false, false),
  ((RX5, 202), 0, 2, false, true),
  ((RX0, 22), 0, 3, false, false),
  ((RX1, 9), 1, 0, false, false),
  ((RX5, 205), 1, 0, false, true),
  ((RX1, 15), 1, 1, false, false),
  ((RX1, 18), 1, 2, false, false),
  ((RX1, 21), 1, 3, false, false),
  ((RX1, 24), 1, 4, false, false),
  ((RX2, 9), 2, 0, false, false),
  ((RX5, 208), 2, 0, false, true),
  ((RX2, 15), 2, 1, false, false),
  ((RX3, 33), 3, 0, true, false),
  ((RX5, 230), 3, 0, true, true),
  ((RX3, 9), 3, 1, false, false),
  ((RX5, 172), 3, 1, false, true),
  ((RX3, 15), 3, 2, false, false),
  ((RX5, 175), 3, 2, false, true),
  ((RX3, 18), 3, 3, false, false),
  ((RX5, 176), 3, 3, false, true),
  ((RX3, 21), 3, 4, false, false),
  ((RX5, 179), 3, 4, false, true),
  ((RX3, 24), 3, 5, false, false),
  ((RX5, 182), 3, 5, false, true),
  ((RX3, 27), 3, 6, false, false),
  ((RX5, 188), 3, 6, false, true),
  ((RX3, 30), 3, 7, false, false),
  ((RX5, 191), 3, 7, false, true),
  ((RX5, 10), 5, 0, false, false),
  ((RX5, 19), 5, 1, false, false),
  ((RX5, 26), 5, 2, false, false),
  ((RX5, 33), 5, 3, false, false),
  ((RX5, 40), 5, 4, false, false),
  ((RX5, 48), 5, 5, true, false),
  ((RX5, 66), 5, 6, true, false),
  ((RX5, 118), 5, 7, true, false),
  ((RX5, 221), 5, 8, true, false),
  ((RX5, 237), 5, 9, true, false),
  ((RX5, 240), 5, 10, true, false),
  ((RX5, 243), 5, 11, true, false),
  ((RX5, 246), 5, 12, true, false),
  ((RX5, 249), 5, 13, true, false),
  ((RX5, 252), 5, 14, true, false),
  ((RX6, 72), 6, 0, true, false),
  ((RX6, 76), 6, 1, true, false),
  ((RX6, 79), 6, 2, true, false),
  ((RX6, 82), 6, 3, true, false),
  ((RX6, 7), 6, 4, false, false),
  ((RX6, 13), 6, 5, false, false),
  ((RX6, 16), 6, 6, false, false),
  ((RX6, 19), 6, 7, false, false),
  ((RX6, 22), 6, 8, false, false),
  ((RX6, 25), 6, 9, false, false),
  ((RX6, 28), 6, 10, false, false),
  ((RX6, 32), 6, 11, false, false),
  ((RX6, 35), 6, 12, false, false),
  ((RX6, 38), 6, 13, false, false),
  ((RX6, 41), 6, 14, false, false),
  ((RX6, 44), 6, 15, false, false),
  ((RX6, 85), 6, 16, true, false),
  ((RX6, 47), 6, 17, false, false),
  ((RX6, 50), 6, 18, false, false),
  ((RX6, 53), 6, 19, false, false),
  ((RX6, 56), 6, 20, false, false),
  ((RX6, 59), 6, 21, false, false),
  ((RX6, 62), 6, 22, false, false),
  ((RX6, 65), 6, 23, false, false),
  ((RX6, 88), 6, 24, true, false),
  ((RX6, 91), 6, 25, true, false),
  ((RX6, 94), 6, 26, true, false),
  ((RX6, 97), 6, 27, true, false),
  ((RX6, 100), 6, 28, true, false),
  ((RX6, 103), 6, 29, true, false)]
/-- a method link: class and index; the method, how many arguments, the kind (0 selected, 1 a nest mate's private one, 2 static, 3 System.arraycopy) -/
def zmT : List ((String × Nat) × MethodName × Nat × Nat) := [
  ((RX5, 44), yX5_startAgain, 1, 0),
  ((RX5, 270), yX4_startAgain, 0, 1),
  ((RX4, 24), yJ7_fill_53178, 2, 2),
  ((RX5, 272), yX0_startAgain, 0, 1),
  ((RX0, 25), yJ7_fill_53178, 2, 2),
  ((RX0, 31), yJ7_fill_49daa, 2, 2),
  ((RX5, 273), yX1_startAgain, 0, 1),
  ((RX1, 27), yJ7_fill_53178, 2, 2),
  ((RX5, 274), yX2_startAgain, 0, 1),
  ((RX2, 18), yJ7_fill_53178, 2, 2),
  ((RX5, 275), yX3_startAgain, 0, 1),
  ((RL, 13), yX5_cores, 1, 0),
  ((RL, 18), yX5_map, 4, 0),
  ((RX5, 52), yX5_isSpace, 1, 2),
  ((RX5, 56), yX5_isPage, 1, 2),
  ((RX5, 59), yX5_isFrame, 1, 2),
  ((RX5, 62), yX4_entryNow, 2, 1),
  ((RX4, 30), yX4_rowOf, 2, 2),
  ((RX4, 34), yX4_entryKept, 3, 0),
  ((RX5, 69), yX5_entryOf, 2, 2),
  ((RX5, 73), yX4_change, 4, 1),
  ((RX4, 41), ⟨"java/lang/System", "arraycopy", "(Ljava/lang/Object;ILjava/lang/Object;II)V"⟩, 5, 3),
  ((RL, 23), yX5_entry, 2, 0),
  ((RL, 28), yX5_enter, 2, 0),
  ((RX5, 77), yX5_isCore, 1, 0),
  ((RX5, 80), yX5_isFree, 1, 0),
  ((RX5, 87), yX5_takeAllCalls, 1, 0),
  ((RX5, 166), yX5_takeFirstCall, 1, 0),
  ((RX5, 297), yX2_removeFirst, 1, 1),
  ((RX2, 24), ⟨"java/lang/System", "arraycopy", "(Ljava/lang/Object;ILjava/lang/Object;II)V"⟩, 5, 3),
  ((RX5, 169), yX3_isBegun, 1, 1),
  ((RX5, 112), yX1_forget, 3, 1),
  ((RX1, 33), yX1_isOf, 4, 0),
  ((RX1, 37), yX1_spaceNoted, 2, 0),
  ((RX1, 41), yX1_pageNoted, 2, 0),
  ((RX1, 48), yX1_move, 3, 0),
  ((RX5, 283), yX0_raiseGeneration, 3, 1),
  ((RX0, 34), yJ9_max_7cf53, 2, 4),
  ((RX5, 300), yX3_waitNoMore, 2, 1),
  ((RX5, 185), yX3_isDone, 1, 1),
  ((RX5, 91), yX5_catchUp, 1, 0),
  ((RX5, 280), yX5_isBehind, 2, 0),
  ((RX5, 211), yX0_generation, 2, 1),
  ((RL, 32), yX5_sleep, 1, 0),
  ((RL, 36), yX5_wake, 1, 0),
  ((RL, 40), yX5_look, 3, 0),
  ((RX5, 98), yX1_find, 3, 1),
  ((RX5, 102), yX5_walkTable, 4, 0),
  ((RX5, 109), yX5_isWritable, 1, 2),
  ((RX5, 276), yX1_keep, 5, 1),
  ((RX1, 44), yX1_forget, 3, 0),
  ((RX5, 131), yX5_frameOf, 1, 2),
  ((RX5, 106), yX1_entryNoted, 2, 1),
  ((RX5, 115), yX5_goByNote, 2, 0),
  ((RX5, 141), yX5_isStale, 2, 0),
  ((RX5, 125), yX1_spaceNoted, 2, 1),
  ((RX5, 128), yX1_pageNoted, 2, 1),
  ((RL, 45), yX5_how, 0, 0),
  ((RL, 50), yX5_note, 3, 0),
  ((RX5, 121), yX5_isNote, 2, 0),
  ((RX5, 134), yX5_oneIf, 1, 2),
  ((RX5, 138), yX1_timeNoted, 2, 1),
  ((RL, 55), yX5_wasSo, 2, 0),
  ((RX5, 144), yX4_heldFrom, 4, 1),
  ((RX4, 51), yX4_timeKept, 3, 0),
  ((RL, 59), yX5_unmap, 3, 0),
  ((RX5, 148), yX5_shootPage, 4, 0),
  ((RX5, 155), yX3_isFull, 0, 1),
  ((RX5, 163), yX5_beginShoot, 3, 0),
  ((RX5, 287), yX3_begin, 5, 1),
  ((RX5, 227), yX0_isAwakeIn, 2, 1),
  ((RX5, 291), yX2_append, 2, 1),
  ((RX5, 294), yX3_waitFor, 2, 1),
  ((RL, 63), yX5_remap, 5, 0),
  ((RL, 68), yX5_clear, 2, 0),
  ((RX5, 152), yX4_isAllNone, 1, 1),
  ((RX4, 38), yX4_entryNow, 2, 0),
  ((RX5, 159), yX4_changeAllToNone, 2, 1),
  ((RX4, 47), yX4_change, 4, 0),
  ((RL, 72), yX5_take, 1, 0),
  ((RL, 76), yX5_rounds, 2, 0),
  ((RL, 80), yX5_shoot, 2, 0),
  ((RX5, 194), yJ6_bitCount_0f7a4, 1, 2),
  ((RX5, 199), yX3_waitsFor, 2, 1),
  ((RL, 84), yX5_underWay, 1, 0),
  ((RL, 88), yX5_core, 2, 0),
  ((RL, 92), yX5_history, 3, 0),
  ((RX5, 214), yX4_isKept, 3, 1),
  ((RX5, 218), yX4_entryKept, 3, 1),
  ((RX5, 224), yX4_timeKept, 3, 1),
  ((RL, 96), yX5_seen, 0, 0),
  ((RL, 100), yX5_danger, 2, 0),
  ((RL, 104), yX5_count, 1, 0),
  ((RX5, 233), yX3_howManyDone, 0, 1),
  ((RX3, 37), yX3_isDone, 1, 0),
  ((RL, 108), yX5_digest, 0, 0),
  ((RX5, 260), yX5_entry, 2, 0),
  ((RX5, 263), yX5_digestOfCore, 2, 0),
  ((RX5, 303), yX5_core, 2, 0),
  ((RX5, 306), yX5_note, 3, 0),
  ((RX5, 267), yX5_shoot, 2, 0),
  ((RX6, 68), yX6_begin, 1, 0),
  ((RL, 17), yX6_cores, 1, 0),
  ((RX6, 106), yX6_in, 3, 2),
  ((RL, 22), yX6_map, 4, 0),
  ((RX6, 110), yX6_isPage, 2, 2),
  ((RX6, 114), yX6_entryOf, 2, 2),
  ((RX6, 118), yX6_become, 2, 0),
  ((RL, 27), yX6_entry, 2, 0),
  ((RX6, 122), yX6_told, 1, 2),
  ((RL, 31), yX6_enter, 2, 0),
  ((RX6, 139), yX6_isCore, 1, 0),
  ((RX6, 143), yX6_shootOf, 1, 0),
  ((RX6, 146), yX6_takeAll, 1, 0),
  ((RX6, 136), yX6_takeCall, 1, 0),
  ((RX6, 129), yX6_forget, 3, 0),
  ((RX6, 126), yX6_dropNote, 2, 0),
  ((RX6, 133), yX6_settle, 1, 0),
  ((RX6, 149), yX6_catchUp, 1, 0),
  ((RL, 35), yX6_sleep, 1, 0),
  ((RL, 39), yX6_wake, 1, 0),
  ((RL, 44), yX6_look, 3, 0),
  ((RX6, 152), yX6_noteOf, 3, 0),
  ((RX6, 155), yX6_isStale, 2, 0),
  ((RX6, 158), yX6_takeNote, 4, 0),
  ((RL, 49), yX6_how, 0, 0),
  ((RL, 54), yX6_note, 3, 0),
  ((RX6, 162), yX6_isNote, 2, 0),
  ((RL, 58), yX6_wasSo, 2, 0),
  ((RL, 62), yX6_unmap, 3, 0),
  ((RX6, 165), yX6_mayShoot, 1, 0),
  ((RX6, 168), yX6_begins, 4, 0),
  ((RL, 67), yX6_remap, 5, 0),
  ((RL, 71), yX6_clear, 2, 0),
  ((RL, 75), yX6_take, 1, 0),
  ((RL, 79), yX6_rounds, 2, 0),
  ((RL, 83), yX6_shoot, 2, 0),
  ((RX6, 172), yX6_waited, 1, 0),
  ((RL, 87), yX6_underWay, 1, 0),
  ((RL, 91), yX6_core, 2, 0),
  ((RL, 95), yX6_history, 3, 0),
  ((RL, 99), yX6_seen, 0, 0),
  ((RL, 103), yX6_danger, 2, 0),
  ((RL, 107), yX6_count, 1, 0),
  ((RL, 112), yX6_digest, 0, 0),
  ((RX6, 179), yX6_core, 2, 0),
  ((RX6, 183), yX6_note, 3, 0),
  ((RX6, 185), yX6_shoot, 2, 0)]
/-- the methods: bytes, locals, what they return -/
def zkT : List (MethodName × ByteArray × Nat × Option FieldType) := [
  (yX5_beginShoot, prog_1_method_34_code, 6, some .int),
  (yX5_catchUp, prog_1_method_37_code, 4, some .int),
  (yX5_clear, prog_1_method_14_code, 3, some .int),
  (yX5_core, prog_1_method_19_code, 3, some .int),
  (yX5_cores, prog_1_method_2_code, 3, some .int),
  (yX5_count, prog_1_method_23_code, 2, some .int),
  (yX5_danger, prog_1_method_22_code, 5, some .int),
  (yX5_digest, prog_1_method_24_code, 5, some .long),
  (yX5_digestOfCore, prog_1_method_38_code, 8, some .long),
  (yX5_enter, prog_1_method_5_code, 3, some .int),
  (yX5_entry, prog_1_method_4_code, 3, some .int),
  (yX5_entryOf, prog_1_method_42_code, 2, some .int),
  (yX5_frameOf, prog_1_method_43_code, 1, some .int),
  (yX5_goByNote, prog_1_method_31_code, 3, some .int),
  (yX5_history, prog_1_method_20_code, 4, some .int),
  (yX5_how, prog_1_method_9_code, 1, some .int),
  (yX5_isBehind, prog_1_method_28_code, 3, some .boolean),
  (yX5_isCore, prog_1_method_26_code, 2, some .boolean),
  (yX5_isFrame, prog_1_method_41_code, 1, some .boolean),
  (yX5_isFree, prog_1_method_27_code, 2, some .boolean),
  (yX5_isNote, prog_1_method_29_code, 3, some .boolean),
  (yX5_isPage, prog_1_method_40_code, 1, some .boolean),
  (yX5_isSpace, prog_1_method_39_code, 1, some .boolean),
  (yX5_isStale, prog_1_method_30_code, 3, some .boolean),
  (yX5_isWritable, prog_1_method_44_code, 1, some .boolean),
  (yX5_look, prog_1_method_8_code, 6, some .int),
  (yX5_map, prog_1_method_3_code, 5, some .int),
  (yX5_note, prog_1_method_10_code, 4, some .int),
  (yX5_oneIf, prog_1_method_45_code, 1, some .int),
  (yX5_remap, prog_1_method_13_code, 6, some .int),
  (yX5_rounds, prog_1_method_16_code, 6, some .int),
  (yX5_seen, prog_1_method_21_code, 1, some .int),
  (yX5_shoot, prog_1_method_17_code, 3, some .int),
  (yX5_shootPage, prog_1_method_33_code, 5, some .int),
  (yX5_sleep, prog_1_method_6_code, 3, some .int),
  (yX5_startAgain, prog_1_method_25_code, 2, none),
  (yX5_take, prog_1_method_15_code, 2, some .int),
  (yX5_takeAllCalls, prog_1_method_36_code, 4, some .int),
  (yX5_takeFirstCall, prog_1_method_35_code, 3, some .int),
  (yX5_underWay, prog_1_method_18_code, 2, some .int),
  (yX5_unmap, prog_1_method_12_code, 4, some .int),
  (yX5_wake, prog_1_method_7_code, 2, some .int),
  (yX5_walkTable, prog_1_method_32_code, 6, some .int),
  (yX5_wasSo, prog_1_method_11_code, 5, some .int),
  (yX0_generation, prog_2_method_4_code, 3, some .int),
  (yX0_isAwakeIn, prog_2_method_3_code, 3, some .boolean),
  (yX0_raiseGeneration, prog_2_method_5_code, 4, none),
  (yX0_startAgain, prog_2_method_2_code, 1, none),
  (yX1_entryNoted, prog_3_method_5_code, 3, some .int),
  (yX1_find, prog_3_method_7_code, 5, some .int),
  (yX1_forget, prog_3_method_9_code, 7, some .int),
  (yX1_isOf, prog_3_method_10_code, 5, some .boolean),
  (yX1_keep, prog_3_method_8_code, 7, none),
  (yX1_move, prog_3_method_11_code, 6, none),
  (yX1_pageNoted, prog_3_method_4_code, 3, some .int),
  (yX1_spaceNoted, prog_3_method_3_code, 3, some .int),
  (yX1_startAgain, prog_3_method_2_code, 1, none),
  (yX1_timeNoted, prog_3_method_6_code, 3, some .int),
  (yX2_append, prog_4_method_3_code, 3, none),
  (yX2_removeFirst, prog_4_method_4_code, 4, some .int),
  (yX2_startAgain, prog_4_method_2_code, 1, none),
  (yX3_begin, prog_5_method_8_code, 7, some .int),
  (yX3_howManyDone, prog_5_method_7_code, 3, some .int),
  (yX3_isBegun, prog_5_method_4_code, 2, some .boolean),
  (yX3_isDone, prog_5_method_5_code, 2, some .boolean),
  (yX3_isFull, prog_5_method_3_code, 1, some .boolean),
  (yX3_startAgain, prog_5_method_2_code, 1, none),
  (yX3_waitFor, prog_5_method_9_code, 3, none),
  (yX3_waitNoMore, prog_5_method_10_code, 3, none),
  (yX3_waitsFor, prog_5_method_6_code, 3, some .boolean),
  (yX4_change, prog_6_method_8_code, 7, none),
  (yX4_changeAllToNone, prog_6_method_9_code, 4, none),
  (yX4_entryKept, prog_6_method_4_code, 4, some .int),
  (yX4_entryNow, prog_6_method_6_code, 3, some .int),
  (yX4_heldFrom, prog_6_method_10_code, 8, some .boolean),
  (yX4_isAllNone, prog_6_method_7_code, 3, some .boolean),
  (yX4_isKept, prog_6_method_3_code, 4, some .boolean),
  (yX4_rowOf, prog_6_method_11_code, 2, some .int),
  (yX4_startAgain, prog_6_method_2_code, 1, none),
  (yX4_timeKept, prog_6_method_5_code, 4, some .int),
  (yX6_become, prog_8_method_7_code, 5, none),
  (yX6_begin, prog_8_method_3_code, 3, none),
  (yX6_begins, prog_8_method_31_code, 10, some .int),
  (yX6_catchUp, prog_8_method_20_code, 4, some .int),
  (yX6_clear, prog_8_method_34_code, 5, some .int),
  (yX6_core, prog_8_method_40_code, 3, some .int),
  (yX6_cores, prog_8_method_6_code, 3, some .int),
  (yX6_count, prog_8_method_44_code, 4, some .int),
  (yX6_danger, prog_8_method_43_code, 6, some .int),
  (yX6_digest, prog_8_method_45_code, 6, some .long),
  (yX6_dropNote, prog_8_method_12_code, 4, none),
  (yX6_enter, prog_8_method_21_code, 4, some .int),
  (yX6_entry, prog_8_method_11_code, 3, some .int),
  (yX6_entryOf, prog_8_method_8_code, 2, some .int),
  (yX6_forget, prog_8_method_14_code, 6, some .int),
  (yX6_history, prog_8_method_41_code, 5, some .int),
  (yX6_how, prog_8_method_26_code, 1, some .int),
  (yX6_in, prog_8_method_2_code, 3, some .boolean),
  (yX6_isCore, prog_8_method_4_code, 2, some .boolean),
  (yX6_isNote, prog_8_method_27_code, 3, some .boolean),
  (yX6_isPage, prog_8_method_5_code, 2, some .boolean),
  (yX6_isStale, prog_8_method_24_code, 4, some .boolean),
  (yX6_look, prog_8_method_25_code, 7, some .int),
  (yX6_map, prog_8_method_10_code, 5, some .int),
  (yX6_mayShoot, prog_8_method_30_code, 2, some .boolean),
  (yX6_note, prog_8_method_28_code, 5, some .int),
  (yX6_noteOf, prog_8_method_13_code, 5, some .int),
  (yX6_remap, prog_8_method_33_code, 6, some .int),
  (yX6_rounds, prog_8_method_36_code, 6, some .int),
  (yX6_seen, prog_8_method_42_code, 1, some .int),
  (yX6_settle, prog_8_method_17_code, 4, none),
  (yX6_shoot, prog_8_method_38_code, 3, some .int),
  (yX6_shootOf, prog_8_method_19_code, 3, some .int),
  (yX6_sleep, prog_8_method_22_code, 3, some .int),
  (yX6_take, prog_8_method_35_code, 2, some .int),
  (yX6_takeAll, prog_8_method_18_code, 4, some .int),
  (yX6_takeCall, prog_8_method_16_code, 5, some .int),
  (yX6_takeNote, prog_8_method_15_code, 6, none),
  (yX6_told, prog_8_method_9_code, 1, some .int),
  (yX6_underWay, prog_8_method_39_code, 2, some .int),
  (yX6_unmap, prog_8_method_32_code, 4, some .int),
  (yX6_waited, prog_8_method_37_code, 4, some .int),
  (yX6_wake, prog_8_method_23_code, 2, some .int),
  (yX6_wasSo, prog_8_method_29_code, 7, some .int),
  (yJ6_bitCount_0f7a4, prog_9_method_49_code, 1, some .int),
  (yJ7_fill_53178, prog_12_method_103_code, 4, none),
  (yJ7_fill_49daa, prog_12_method_111_code, 4, none)]
def zcT : List ((String × Nat) × Int32) := [(("java/lang/Integer", 265), 1431655765), (("java/lang/Integer", 266), 858993459), (("java/lang/Integer", 267), 252645135)]
def zlT : List ((String × Nat) × Int64) := [(("ShootDown", 256), 67), (("ShootDown", 258), 31), (("ShootDownModel", 175), 67), (("ShootDownModel", 177), 31)]
def zfW : List Nat := [92, 93, 94, 95, 96, 113, 114, 115, 116, 117, 118, 119, 136, 137, 138, 139, 140, 141, 159, 160, 161, 173, 174, 175, 176, 177, 178, 179, 180, 181, 182, 183, 184, 185, 186, 187, 188, 239, 240, 241, 242, 243, 244, 245, 246, 247, 248, 249, 250, 251, 252, 253, 610, 611, 612, 613, 614, 615, 616, 617, 618, 619, 620, 621, 622, 623, 624, 625, 626, 627, 628, 629, 630, 631, 632, 633, 634, 635, 636, 637, 638, 639]
def zmW : List (Nat × Nat × Nat × Nat) := [(206, 208, 0, 67), (210, 212, 1, 68), (214, 215, 0, 73), (217, 219, 2, 69), (221, 215, 0, 73), (222, 223, 0, 73), (225, 227, 3, 70), (229, 215, 0, 73), (230, 232, 4, 71), (234, 215, 0, 73), (235, 237, 5, 72), (285, 286, 287, 67), (289, 290, 291, 67), (293, 294, 0, 67), (296, 297, 0, 67), (299, 300, 0, 67), (302, 304, 6, 68), (306, 307, 0, 68), (309, 311, 7, 68), (313, 314, 0, 67), (316, 318, 8, 68), (320, 321, 322, 75), (323, 324, 325, 67), (327, 328, 329, 67), (331, 333, 9, 67), (335, 337, 10, 67), (339, 341, 11, 67), (343, 345, 12, 67), (347, 349, 13, 71), (351, 321, 322, 75), (352, 354, 14, 72), (356, 358, 15, 70), (360, 362, 16, 70), (364, 366, 17, 70), (368, 370, 18, 70), (372, 374, 19, 70), (376, 378, 20, 69), (380, 381, 382, 76), (383, 385, 21, 72), (387, 389, 22, 72), (391, 393, 23, 67), (395, 397, 24, 67), (399, 401, 25, 69), (403, 404, 405, 67), (407, 408, 409, 67), (411, 412, 413, 67), (415, 417, 26, 70), (419, 421, 27, 67), (423, 424, 0, 67), (426, 428, 28, 70), (430, 358, 15, 70), (431, 432, 0, 67), (434, 436, 29, 70), (438, 440, 30, 67), (442, 444, 31, 67), (446, 366, 17, 70), (447, 370, 18, 70), (448, 449, 450, 67), (452, 453, 454, 67), (456, 458, 32, 67), (460, 461, 0, 67), (463, 465, 33, 70), (467, 468, 469, 67), (471, 473, 34, 68), (475, 477, 35, 68), (479, 480, 481, 67), (483, 485, 36, 67), (487, 489, 37, 72), (491, 493, 38, 67), (495, 497, 39, 72), (499, 501, 40, 69), (503, 505, 41, 71), (507, 509, 42, 72), (511, 512, 513, 67), (515, 516, 517, 67), (519, 521, 43, 68), (523, 304, 6, 68), (524, 526, 44, 68), (528, 318, 8, 68), (529, 530, 531, 67), (533, 534, 535, 67), (537, 538, 539, 67), (541, 542, 0, 77), (547, 549, 45, 72), (551, 552, 553, 67), (555, 556, 557, 67), (559, 560, 561, 67), (563, 565, 46, 68), (567, 311, 7, 68), (568, 477, 35, 68), (569, 570, 571, 67), (573, 574, 575, 67), (577, 578, 579, 67), (581, 583, 47, 72), (585, 389, 22, 72), (586, 587, 588, 67), (592, 324, 325, 67), (593, 595, 48, 67), (597, 556, 557, 67), (598, 453, 454, 67), (599, 538, 539, 67), (606, 608, 49, 74), (701, 702, 703, 74), (705, 706, 0, 74), (708, 709, 710, 74), (712, 713, 0, 74), (715, 716, 0, 74), (718, 720, 50, 74), (722, 723, 724, 74), (726, 727, 0, 74), (729, 730, 731, 74), (733, 735, 51, 74), (737, 739, 52, 74), (741, 743, 53, 74), (745, 747, 54, 74), (749, 751, 55, 74), (753, 755, 56, 74), (757, 759, 57, 74), (761, 763, 58, 74), (765, 766, 767, 74), (769, 770, 771, 74), (773, 774, 775, 74), (777, 779, 59, 74), (781, 783, 60, 74), (785, 787, 61, 74), (789, 790, 791, 74), (793, 794, 795, 74), (797, 799, 62, 74), (801, 802, 803, 74), (805, 806, 807, 74), (809, 811, 63, 74), (813, 815, 64, 74), (817, 818, 819, 74), (821, 822, 823, 74), (825, 826, 827, 74), (829, 830, 831, 74), (833, 834, 835, 74), (837, 839, 65, 74), (841, 842, 843, 74), (845, 846, 847, 74), (849, 850, 851, 74), (853, 854, 855, 74), (857, 858, 859, 74), (861, 862, 863, 74), (865, 866, 867, 74), (871, 846, 847, 74), (872, 794, 795, 74), (873, 834, 835, 74)]
def zkW : List Nat := [494, 394, 518, 558, 288, 580, 576, 589, 596, 330, 326, 315, 433, 441, 562, 451, 398, 334, 301, 338, 459, 298, 295, 445, 425, 414, 292, 455, 462, 514, 536, 572, 540, 486, 406, 209, 532, 342, 346, 554, 482, 410, 422, 470, 402, 502, 379, 220, 437, 418, 359, 363, 429, 375, 371, 367, 228, 466, 506, 350, 233, 498, 584, 355, 390, 490, 238, 510, 386, 550, 319, 527, 312, 305, 474, 522, 566, 308, 213, 478, 721, 609, 816, 764, 824, 848, 704, 864, 860, 868, 756, 732, 725, 717, 752, 852, 792, 707, 736, 800, 714, 784, 776, 711, 812, 796, 780, 820, 832, 856, 760, 836, 740, 768, 828, 744, 748, 788, 728, 844, 808, 840, 772, 804, 543, 216, 224]
def zcW : List Nat := [544, 545, 546]
def zlW : List Nat := [590, 591, 869, 870]
end
section
/-! look-ups in the tables of links, and what a found row gives: words of lw_tbl -/
def zfG (own : String) (i : Nat) : Option (Nat × Nat × Bool × Bool) := (zfT.find? (fun e => e.1 == (own, i))).map (fun e => e.2)
def zmG (own : String) (i : Nat) : Option (MethodName × Nat × Nat) := (zmT.find? (fun e => e.1 == (own, i))).map (fun e => e.2)
def zcG (own : String) (i : Nat) : Option Int32 := (zcT.find? (fun e => e.1 == (own, i))).map (fun e => e.2)
def zlG (own : String) (i : Nat) : Option Int64 := (zlT.find? (fun e => e.1 == (own, i))).map (fun e => e.2)
def zTs : List Cond := lw_tbl.filter goodWord
def zisN : Cond → Bool
  | .fieldLinkNest _ _ _ _ _ _ => true
  | .methodLinkNest _ _ _ _ => true
  | _ => false
theorem zTs_good : GoodIn zTs zTs := fun w h => ⟨h, good_of_word (List.mem_filter.mp h).2⟩
theorem zTs_of {i : Nat} {w : Cond} (h : (decide (lw_tbl[i]? = some w) && goodWord w) = true) : w ∈ zTs := by
  simp only [Bool.and_eq_true, decide_eq_true_eq] at h
  exact List.mem_filter.mpr ⟨List.mem_of_getElem? h.1, h.2⟩
theorem zTn_of {i : Nat} {w : Cond} (h : decide (lw_tbl[i]? = some w) = true) : w ∈ lw_tbl := List.mem_of_getElem? (of_decide_eq_true h)
def zgw (i : Nat) (w : Cond) : Bool := decide (lw_tbl[i]? = some w) && goodWord w
def zfOk (e : (String × Nat) × Nat × Nat × Bool × Bool) (i : Nat) : Bool := match vwCl[e.2.1]? with
  | some (C, T, N) => decide (e.2.2.1 < N) && (if e.2.2.2.2 = true then decide (lw_tbl[i]? = some (.fieldLinkNest e.1.1 e.1.2 (T e.2.2.1).1 (T e.2.2.1).2.1 (T e.2.2.1).2.2.1 "ShootDown")) else zgw i (.fieldLink e.1.1 e.1.2 (T e.2.2.1).1 (T e.2.2.1).2.1 (T e.2.2.1).2.2.1)) && (!e.2.2.2.1 || (decide ((T e.2.2.1).2.2.1 = "I") && decide ((T e.2.2.1).2.2.2 = false)))
  | none => false
def zmOk (e : (String × Nat) × MethodName × Nat × Nat) (i : Nat × Nat × Nat × Nat) : Bool :=
  (decide (e.2.1.cls ≠ "java/lang/invoke/MethodHandle") && decide (e.2.1.cls ≠ "java/lang/invoke/VarHandle")) && (decide ((parseMethodDescriptor e.2.1.desc).map (fun d => d.parameters.length) = some e.2.2.1) && zgw i.2.2.2 (.initialized e.2.1.cls)) &&
  (match e.2.2.2 with
  | 0 => zgw i.1 (.methodLink e.1.1 e.1.2 e.2.1) && zgw i.2.1 (.instanceMethod e.2.1) && zgw i.2.2.1 (.selects e.2.1.cls e.2.1 e.2.1)
  | 1 => decide (lw_tbl[i.1]? = some (.methodLinkNest e.1.1 e.1.2 e.2.1 "ShootDown")) && zgw i.2.1 (.instanceMethod e.2.1) && zgw i.2.2.1 (.selects e.2.1.cls e.2.1 e.2.1)
  | 2 => zgw i.1 (.methodLink e.1.1 e.1.2 e.2.1) && zgw i.2.1 (.static e.2.1)
  | 3 => decide (e.2.1 = arraycopyName) && zgw i.1 (.methodLink e.1.1 e.1.2 arraycopyName) && zgw i.2.1 (.static arraycopyName) && zgw i.2.2.1 (.native arraycopyName)
  | 4 => decide (e.2.1 = Lib.Math.max.name) && zgw i.1 (.methodLink e.1.1 e.1.2 Lib.Math.max.name) && zgw i.2.1 (.static Lib.Math.max.name) && zgw i.2.2.1 (.code Lib.Math.max.name Lib.Math.max.code 2 (some .int))
  | _ => false)
def zkF (y : MethodName) (w : Cond) : Option (ByteArray × Nat × Option FieldType) := match w with
  | .code y' cc nL ret => if y' = y ∧ goodWord w = true ∧ plainName y.cls = true ∧ nL ≤ 16 then some (cc, nL, ret) else none
  | _ => none
theorem zfT_ok : (zfT.zip zfW).all (fun p => zfOk p.1 p.2) = true := by decide +kernel
theorem zmT_ok : (zmT.zip zmW).all (fun p => zmOk p.1 p.2) = true := by decide +kernel
def zkG (y : MethodName) : Option (ByteArray × Nat × Option FieldType) := lw_tbl.findSome? (zkF y)
theorem zcT_ok : (zcT.zip zcW).all (fun p => zgw p.2 (.constant p.1.1.1 p.1.1.2 p.1.2)) = true := by decide +kernel
theorem zlT_ok : (zlT.zip zlW).all (fun p => zgw p.2 (.constantLong p.1.1.1 p.1.1.2 p.1.2)) = true := by decide +kernel
theorem zzip {α β : Type} {l : List α} {r : List β} (hl : l.length ≤ r.length) {f : α × β → Bool} (h : (l.zip r).all f = true) {a : α} (ha : a ∈ l) : ∃ b, f (a, b) = true := by
  obtain ⟨i, hi⟩ := List.getElem?_of_mem ha
  have hlt : i < l.length := (List.getElem?_eq_some_iff.mp hi).1
  have h2 : (l.zip r)[i]? = some (a, r[i]'(Nat.lt_of_lt_of_le hlt hl)) := by
    rw [List.getElem?_zip_eq_some]
    exact ⟨hi, List.getElem?_eq_getElem _⟩
  exact ⟨_, List.all_eq_true.mp h _ (List.mem_of_getElem? h2)⟩
theorem zfind {κ α : Type} {l : List (κ × α)} {t : κ × α → Bool} {x : α} (h : (l.find? t).map (fun e => e.2) = some x) : ∃ k, t (k, x) = true ∧ (k, x) ∈ l := by
  cases hf : l.find? t with
  | none => rw [hf] at h; cases h
  | some e =>
    rw [hf] at h
    obtain ⟨k, y⟩ := e
    cases h
    exact ⟨k, List.find?_some hf, List.mem_of_find?_eq_some hf⟩
theorem zfG_ok {own : String} {idx : Nat} {x : Nat × Nat × Bool × Bool} (h : zfG own idx = some x) : ∃ i, zfOk ((own, idx), x) i = true := by
  obtain ⟨k, h1, h2⟩ := zfind h
  have hk : k = (own, idx) := by simpa using h1
  subst hk
  exact zzip (by decide +kernel) zfT_ok h2
theorem zmG_ok {own : String} {idx : Nat} {x : MethodName × Nat × Nat} (h : zmG own idx = some x) : ∃ i, zmOk ((own, idx), x) i = true := by
  obtain ⟨k, h1, h2⟩ := zfind h
  have hk : k = (own, idx) := by simpa using h1
  subst hk
  exact zzip (by decide +kernel) zmT_ok h2
theorem zkG_ok {y : MethodName} {cc : ByteArray} {nL : Nat} {ret : Option FieldType} (h : zkG y = some (cc, nL, ret)) : .code y cc nL ret ∈ zTs ∧ plainName y.cls = true ∧ nL ≤ 16 := by
  obtain ⟨w, h1, h2⟩ := List.exists_of_findSome?_eq_some h
  unfold zkF at h2
  split at h2
  · rename_i y' cc' nL' ret'
    split at h2
    · rename_i hy
      cases h2
      obtain ⟨hy, h3, h4, h5⟩ := hy
      subst hy
      exact ⟨List.mem_filter.mpr ⟨h1, h3⟩, h4, h5⟩
    · cases h2
  · cases h2
theorem zcG_ok {own : String} {idx : Nat} {x : Int32} (h : zcG own idx = some x) : .constant own idx x ∈ zTs := by
  obtain ⟨k, h1, h2⟩ := zfind h
  have hk : k = (own, idx) := by simpa using h1
  subst hk
  obtain ⟨i, hi⟩ := zzip (by decide +kernel) zcT_ok h2
  exact zTs_of hi
theorem zlG_ok {own : String} {idx : Nat} {x : Int64} (h : zlG own idx = some x) : .constantLong own idx x ∈ zTs := by
  obtain ⟨k, h1, h2⟩ := zfind h
  have hk : k = (own, idx) := by simpa using h1
  subst hk
  obtain ⟨i, hi⟩ := zzip (by decide +kernel) zlT_ok h2
  exact zTs_of hi
theorem zinX (c : Nat) (x : vw_C) (h : vwCl[c]? = some x) : ∀ w ∈ u_ws x.1 x.2.1 x.2.2, w ∈ zTs := by
  have key : (vwCl.all fun x => (u_ws x.1 x.2.1 x.2.2).all fun w => decide (w ∈ lw_tbl) && goodWord w) = true := by decide +kernel
  intro w hw
  have h2 := List.all_eq_true.mp (List.all_eq_true.mp key x (List.mem_of_getElem? h)) w hw
  simp only [Bool.and_eq_true, decide_eq_true_eq] at h2
  exact List.mem_filter.mpr h2
end
section
theorem kX5_beginShoot : zkG yX5_beginShoot = some (cX5_beginShoot, 6, some .int) := by decide +kernel
theorem kX5_catchUp : zkG yX5_catchUp = some (cX5_catchUp, 4, some .int) := by decide +kernel
theorem kX5_clear : zkG yX5_clear = some (cX5_clear, 3, some .int) := by decide +kernel
theorem kX5_core : zkG yX5_core = some (cX5_core, 3, some .int) := by decide +kernel
theorem kX5_cores : zkG yX5_cores = some (cX5_cores, 3, some .int) := by decide +kernel
theorem kX5_count : zkG yX5_count = some (cX5_count, 2, some .int) := by decide +kernel
theorem kX5_danger : zkG yX5_danger = some (cX5_danger, 5, some .int) := by decide +kernel
theorem kX5_digest : zkG yX5_digest = some (cX5_digest, 5, some .long) := by decide +kernel
theorem kX5_digestOfCore : zkG yX5_digestOfCore = some (cX5_digestOfCore, 8, some .long) := by decide +kernel
theorem kX5_enter : zkG yX5_enter = some (cX5_enter, 3, some .int) := by decide +kernel
theorem kX5_entry : zkG yX5_entry = some (cX5_entry, 3, some .int) := by decide +kernel
theorem kX5_entryOf : zkG yX5_entryOf = some (cX5_entryOf, 2, some .int) := by decide +kernel
theorem kX5_frameOf : zkG yX5_frameOf = some (cX5_frameOf, 1, some .int) := by decide +kernel
theorem kX5_goByNote : zkG yX5_goByNote = some (cX5_goByNote, 3, some .int) := by decide +kernel
theorem kX5_history : zkG yX5_history = some (cX5_history, 4, some .int) := by decide +kernel
theorem kX5_how : zkG yX5_how = some (cX5_how, 1, some .int) := by decide +kernel
theorem kX5_isBehind : zkG yX5_isBehind = some (cX5_isBehind, 3, some .boolean) := by decide +kernel
theorem kX5_isCore : zkG yX5_isCore = some (cX5_isCore, 2, some .boolean) := by decide +kernel
theorem kX5_isFrame : zkG yX5_isFrame = some (cX5_isFrame, 1, some .boolean) := by decide +kernel
theorem kX5_isFree : zkG yX5_isFree = some (cX5_isFree, 2, some .boolean) := by decide +kernel
theorem kX5_isNote : zkG yX5_isNote = some (cX5_isNote, 3, some .boolean) := by decide +kernel
theorem kX5_isPage : zkG yX5_isPage = some (cX5_isPage, 1, some .boolean) := by decide +kernel
theorem kX5_isSpace : zkG yX5_isSpace = some (cX5_isSpace, 1, some .boolean) := by decide +kernel
theorem kX5_isStale : zkG yX5_isStale = some (cX5_isStale, 3, some .boolean) := by decide +kernel
theorem kX5_isWritable : zkG yX5_isWritable = some (cX5_isWritable, 1, some .boolean) := by decide +kernel
theorem kX5_look : zkG yX5_look = some (cX5_look, 6, some .int) := by decide +kernel
theorem kX5_map : zkG yX5_map = some (cX5_map, 5, some .int) := by decide +kernel
theorem kX5_note : zkG yX5_note = some (cX5_note, 4, some .int) := by decide +kernel
theorem kX5_oneIf : zkG yX5_oneIf = some (cX5_oneIf, 1, some .int) := by decide +kernel
theorem kX5_remap : zkG yX5_remap = some (cX5_remap, 6, some .int) := by decide +kernel
theorem kX5_rounds : zkG yX5_rounds = some (cX5_rounds, 6, some .int) := by decide +kernel
theorem kX5_seen : zkG yX5_seen = some (cX5_seen, 1, some .int) := by decide +kernel
theorem kX5_shoot : zkG yX5_shoot = some (cX5_shoot, 3, some .int) := by decide +kernel
theorem kX5_shootPage : zkG yX5_shootPage = some (cX5_shootPage, 5, some .int) := by decide +kernel
theorem kX5_sleep : zkG yX5_sleep = some (cX5_sleep, 3, some .int) := by decide +kernel
theorem kX5_startAgain : zkG yX5_startAgain = some (cX5_startAgain, 2, none) := by decide +kernel
theorem kX5_take : zkG yX5_take = some (cX5_take, 2, some .int) := by decide +kernel
theorem kX5_takeAllCalls : zkG yX5_takeAllCalls = some (cX5_takeAllCalls, 4, some .int) := by decide +kernel
theorem kX5_takeFirstCall : zkG yX5_takeFirstCall = some (cX5_takeFirstCall, 3, some .int) := by decide +kernel
theorem kX5_underWay : zkG yX5_underWay = some (cX5_underWay, 2, some .int) := by decide +kernel
theorem kX5_unmap : zkG yX5_unmap = some (cX5_unmap, 4, some .int) := by decide +kernel
theorem kX5_wake : zkG yX5_wake = some (cX5_wake, 2, some .int) := by decide +kernel
theorem kX5_walkTable : zkG yX5_walkTable = some (cX5_walkTable, 6, some .int) := by decide +kernel
theorem kX5_wasSo : zkG yX5_wasSo = some (cX5_wasSo, 5, some .int) := by decide +kernel
theorem kX0_generation : zkG yX0_generation = some (cX0_generation, 3, some .int) := by decide +kernel
theorem kX0_isAwakeIn : zkG yX0_isAwakeIn = some (cX0_isAwakeIn, 3, some .boolean) := by decide +kernel
theorem kX0_raiseGeneration : zkG yX0_raiseGeneration = some (cX0_raiseGeneration, 4, none) := by decide +kernel
theorem kX0_startAgain : zkG yX0_startAgain = some (cX0_startAgain, 1, none) := by decide +kernel
theorem kX1_entryNoted : zkG yX1_entryNoted = some (cX1_entryNoted, 3, some .int) := by decide +kernel
theorem kX1_find : zkG yX1_find = some (cX1_find, 5, some .int) := by decide +kernel
theorem kX1_forget : zkG yX1_forget = some (cX1_forget, 7, some .int) := by decide +kernel
theorem kX1_isOf : zkG yX1_isOf = some (cX1_isOf, 5, some .boolean) := by decide +kernel
theorem kX1_keep : zkG yX1_keep = some (cX1_keep, 7, none) := by decide +kernel
theorem kX1_move : zkG yX1_move = some (cX1_move, 6, none) := by decide +kernel
theorem kX1_pageNoted : zkG yX1_pageNoted = some (cX1_pageNoted, 3, some .int) := by decide +kernel
theorem kX1_spaceNoted : zkG yX1_spaceNoted = some (cX1_spaceNoted, 3, some .int) := by decide +kernel
theorem kX1_startAgain : zkG yX1_startAgain = some (cX1_startAgain, 1, none) := by decide +kernel
theorem kX1_timeNoted : zkG yX1_timeNoted = some (cX1_timeNoted, 3, some .int) := by decide +kernel
theorem kX2_append : zkG yX2_append = some (cX2_append, 3, none) := by decide +kernel
theorem kX2_removeFirst : zkG yX2_removeFirst = some (cX2_removeFirst, 4, some .int) := by decide +kernel
theorem kX2_startAgain : zkG yX2_startAgain = some (cX2_startAgain, 1, none) := by decide +kernel
theorem kX3_begin : zkG yX3_begin = some (cX3_begin, 7, some .int) := by decide +kernel
theorem kX3_howManyDone : zkG yX3_howManyDone = some (cX3_howManyDone, 3, some .int) := by decide +kernel
theorem kX3_isBegun : zkG yX3_isBegun = some (cX3_isBegun, 2, some .boolean) := by decide +kernel
theorem kX3_isDone : zkG yX3_isDone = some (cX3_isDone, 2, some .boolean) := by decide +kernel
theorem kX3_isFull : zkG yX3_isFull = some (cX3_isFull, 1, some .boolean) := by decide +kernel
theorem kX3_startAgain : zkG yX3_startAgain = some (cX3_startAgain, 1, none) := by decide +kernel
theorem kX3_waitFor : zkG yX3_waitFor = some (cX3_waitFor, 3, none) := by decide +kernel
theorem kX3_waitNoMore : zkG yX3_waitNoMore = some (cX3_waitNoMore, 3, none) := by decide +kernel
theorem kX3_waitsFor : zkG yX3_waitsFor = some (cX3_waitsFor, 3, some .boolean) := by decide +kernel
theorem kX4_change : zkG yX4_change = some (cX4_change, 7, none) := by decide +kernel
theorem kX4_changeAllToNone : zkG yX4_changeAllToNone = some (cX4_changeAllToNone, 4, none) := by decide +kernel
theorem kX4_entryKept : zkG yX4_entryKept = some (cX4_entryKept, 4, some .int) := by decide +kernel
theorem kX4_entryNow : zkG yX4_entryNow = some (cX4_entryNow, 3, some .int) := by decide +kernel
theorem kX4_heldFrom : zkG yX4_heldFrom = some (cX4_heldFrom, 8, some .boolean) := by decide +kernel
theorem kX4_isAllNone : zkG yX4_isAllNone = some (cX4_isAllNone, 3, some .boolean) := by decide +kernel
theorem kX4_isKept : zkG yX4_isKept = some (cX4_isKept, 4, some .boolean) := by decide +kernel
theorem kX4_rowOf : zkG yX4_rowOf = some (cX4_rowOf, 2, some .int) := by decide +kernel
theorem kX4_startAgain : zkG yX4_startAgain = some (cX4_startAgain, 1, none) := by decide +kernel
theorem kX4_timeKept : zkG yX4_timeKept = some (cX4_timeKept, 4, some .int) := by decide +kernel
theorem kX6_become : zkG yX6_become = some (cX6_become, 5, none) := by decide +kernel
theorem kX6_begin : zkG yX6_begin = some (cX6_begin, 3, none) := by decide +kernel
theorem kX6_begins : zkG yX6_begins = some (cX6_begins, 10, some .int) := by decide +kernel
theorem kX6_catchUp : zkG yX6_catchUp = some (cX6_catchUp, 4, some .int) := by decide +kernel
theorem kX6_clear : zkG yX6_clear = some (cX6_clear, 5, some .int) := by decide +kernel
theorem kX6_core : zkG yX6_core = some (cX6_core, 3, some .int) := by decide +kernel
theorem kX6_cores : zkG yX6_cores = some (cX6_cores, 3, some .int) := by decide +kernel
theorem kX6_count : zkG yX6_count = some (cX6_count, 4, some .int) := by decide +kernel
theorem kX6_danger : zkG yX6_danger = some (cX6_danger, 6, some .int) := by decide +kernel
theorem kX6_digest : zkG yX6_digest = some (cX6_digest, 6, some .long) := by decide +kernel
theorem kX6_dropNote : zkG yX6_dropNote = some (cX6_dropNote, 4, none) := by decide +kernel
theorem kX6_enter : zkG yX6_enter = some (cX6_enter, 4, some .int) := by decide +kernel
theorem kX6_entry : zkG yX6_entry = some (cX6_entry, 3, some .int) := by decide +kernel
theorem kX6_entryOf : zkG yX6_entryOf = some (cX6_entryOf, 2, some .int) := by decide +kernel
theorem kX6_forget : zkG yX6_forget = some (cX6_forget, 6, some .int) := by decide +kernel
theorem kX6_history : zkG yX6_history = some (cX6_history, 5, some .int) := by decide +kernel
theorem kX6_how : zkG yX6_how = some (cX6_how, 1, some .int) := by decide +kernel
theorem kX6_in : zkG yX6_in = some (cX6_in, 3, some .boolean) := by decide +kernel
theorem kX6_isCore : zkG yX6_isCore = some (cX6_isCore, 2, some .boolean) := by decide +kernel
theorem kX6_isNote : zkG yX6_isNote = some (cX6_isNote, 3, some .boolean) := by decide +kernel
theorem kX6_isPage : zkG yX6_isPage = some (cX6_isPage, 2, some .boolean) := by decide +kernel
theorem kX6_isStale : zkG yX6_isStale = some (cX6_isStale, 4, some .boolean) := by decide +kernel
theorem kX6_look : zkG yX6_look = some (cX6_look, 7, some .int) := by decide +kernel
theorem kX6_map : zkG yX6_map = some (cX6_map, 5, some .int) := by decide +kernel
theorem kX6_mayShoot : zkG yX6_mayShoot = some (cX6_mayShoot, 2, some .boolean) := by decide +kernel
theorem kX6_note : zkG yX6_note = some (cX6_note, 5, some .int) := by decide +kernel
theorem kX6_noteOf : zkG yX6_noteOf = some (cX6_noteOf, 5, some .int) := by decide +kernel
theorem kX6_remap : zkG yX6_remap = some (cX6_remap, 6, some .int) := by decide +kernel
theorem kX6_rounds : zkG yX6_rounds = some (cX6_rounds, 6, some .int) := by decide +kernel
theorem kX6_seen : zkG yX6_seen = some (cX6_seen, 1, some .int) := by decide +kernel
theorem kX6_settle : zkG yX6_settle = some (cX6_settle, 4, none) := by decide +kernel
theorem kX6_shoot : zkG yX6_shoot = some (cX6_shoot, 3, some .int) := by decide +kernel
theorem kX6_shootOf : zkG yX6_shootOf = some (cX6_shootOf, 3, some .int) := by decide +kernel
theorem kX6_sleep : zkG yX6_sleep = some (cX6_sleep, 3, some .int) := by decide +kernel
theorem kX6_take : zkG yX6_take = some (cX6_take, 2, some .int) := by decide +kernel
theorem kX6_takeAll : zkG yX6_takeAll = some (cX6_takeAll, 4, some .int) := by decide +kernel
theorem kX6_takeCall : zkG yX6_takeCall = some (cX6_takeCall, 5, some .int) := by decide +kernel
theorem kX6_takeNote : zkG yX6_takeNote = some (cX6_takeNote, 6, none) := by decide +kernel
theorem kX6_told : zkG yX6_told = some (cX6_told, 1, some .int) := by decide +kernel
theorem kX6_underWay : zkG yX6_underWay = some (cX6_underWay, 2, some .int) := by decide +kernel
theorem kX6_unmap : zkG yX6_unmap = some (cX6_unmap, 4, some .int) := by decide +kernel
theorem kX6_waited : zkG yX6_waited = some (cX6_waited, 4, some .int) := by decide +kernel
theorem kX6_wake : zkG yX6_wake = some (cX6_wake, 2, some .int) := by decide +kernel
theorem kX6_wasSo : zkG yX6_wasSo = some (cX6_wasSo, 7, some .int) := by decide +kernel
theorem kJ6_bitCount_0f7a4 : zkG yJ6_bitCount_0f7a4 = some (cJ6_bitCount_0f7a4, 1, some .int) := by decide +kernel
theorem kJ7_fill_53178 : zkG yJ7_fill_53178 = some (cJ7_fill_53178, 4, none) := by decide +kernel
theorem kJ7_fill_49daa : zkG yJ7_fill_49daa = some (cJ7_fill_49daa, 4, none) := by decide +kernel
end
section
/-! the abstract world, one step, what a run comes to (a least fixed point), calls by depth -/
abbrev zV : Type := Nat → Nat → Int32
abbrev zD : Type := (Bool × Nat) ⊕ (Nat × List (Option Nat))
abbrev zU : Type := List zD
abbrev zQ : Type := Option Value → zV → Prop
abbrev zC : Type := MethodName → List Value → zV → zQ → Prop
abbrev zS : Type := Option (Nat × Nat × (Nat → Int32))
abbrev zP : Type := Nat → List Value → List Value → zV → Prop
def zif (c : Jvm.ClassFile.Cond) (x y : Int32) : Prop := match c with
  | .eq => x = y
  | .ne => ¬ x = y
  | .lt => x < y
  | .ge => y ≤ x
  | .gt => y < x
  | .le => x ≤ y
def zok1 (ls : List Value) (k : Nat) : Prop := match k with
  | 0 => True
  | j + 1 => ∀ v, ls[j]? = some v → v.category = 1
def zput (σ : zV) (a k : Nat) (x : Int32) : zV := va_up σ a (upd (σ a) k x)
def zcat (r : List Value) : Prop := (r.map fun v => v.category).sum ≤ 8
def zstep (U : zU) (call : zC) (own : String) (nL : Nat) (ret : Option FieldType) (scr : zS) (Q : zQ) (P : zP) (i : Instr) (len pc : Nat) (ls st : List Value) (σ : zV) : Prop := match i with
  | .iload_n k => len = 1 ∧ ∃ x, ls[(k : Nat)]? = some (.int x) ∧ P (pc + 1) ls (.int x :: st) σ
  | .iload k => len = 2 ∧ ∃ x, ls[k]? = some (.int x) ∧ P (pc + 2) ls (.int x :: st) σ
  | .lload_n k => len = 1 ∧ ∃ x, ls[(k : Nat)]? = some (.long x) ∧ P (pc + 1) ls (.long x :: st) σ
  | .lload k => len = 2 ∧ ∃ x, ls[k]? = some (.long x) ∧ P (pc + 2) ls (.long x :: st) σ
  | .aload_n k => len = 1 ∧ ∃ x, ls[(k : Nat)]? = some (.ref x) ∧ P (pc + 1) ls (.ref x :: st) σ
  | .istore_n k => len = 1 ∧ ∃ x r, st = .int x :: r ∧ (k : Nat) < nL ∧ zok1 ls k ∧ P (pc + 1) (ls.set k (.int x)) r σ
  | .istore k => len = 2 ∧ ∃ x r, st = .int x :: r ∧ k < nL ∧ zok1 ls k ∧ P (pc + 2) (ls.set k (.int x)) r σ
  | .lstore_n k => len = 1 ∧ ∃ x r, st = .long x :: r ∧ (k : Nat) + 1 < nL ∧ zok1 ls k ∧ P (pc + 1) ((ls.set k (.long x)).set (k + 1) .null) r σ
  | .lstore k => len = 2 ∧ ∃ x r, st = .long x :: r ∧ k + 1 < nL ∧ zok1 ls k ∧ P (pc + 2) ((ls.set k (.long x)).set (k + 1) .null) r σ
  | .iinc k n => len = 3 ∧ ∃ x, ls[k]? = some (.int x) ∧ k < nL ∧ zok1 ls k ∧ P (pc + 3) (ls.set k (.int (x + Int32.ofInt n))) st σ
  | .iconst n => len = 1 ∧ P (pc + 1) ls (.int (Int32.ofInt n) :: st) σ
  | .bipush n => len = 2 ∧ P (pc + 2) ls (.int (Int8.ofInt n).toInt32 :: st) σ
  | .sipush n => len = 3 ∧ P (pc + 3) ls (.int (Int16.ofInt n).toInt32 :: st) σ
  | .ldc_w idx => len = 3 ∧ ∃ v, zcG own idx = some v ∧ P (pc + 3) ls (.int v :: st) σ
  | .ldc2_w idx => len = 3 ∧ ∃ v, zlG own idx = some v ∧ P (pc + 3) ls (.long v :: st) σ
  | .iadd => len = 1 ∧ ∃ x y r, st = .int y :: .int x :: r ∧ P (pc + 1) ls (.int (x + y) :: r) σ
  | .isub => len = 1 ∧ ∃ x y r, st = .int y :: .int x :: r ∧ P (pc + 1) ls (.int (x - y) :: r) σ
  | .imul => len = 1 ∧ ∃ x y r, st = .int y :: .int x :: r ∧ P (pc + 1) ls (.int (x * y) :: r) σ
  | .iand => len = 1 ∧ ∃ x y r, st = .int y :: .int x :: r ∧ P (pc + 1) ls (.int (x &&& y) :: r) σ
  | .ior => len = 1 ∧ ∃ x y r, st = .int y :: .int x :: r ∧ P (pc + 1) ls (.int (x ||| y) :: r) σ
  | .ixor => len = 1 ∧ ∃ x y r, st = .int y :: .int x :: r ∧ P (pc + 1) ls (.int (x ^^^ y) :: r) σ
  | .ishl => len = 1 ∧ ∃ x y r, st = .int y :: .int x :: r ∧ P (pc + 1) ls (.int (x <<< (y &&& 31)) :: r) σ
  | .iushr => len = 1 ∧ ∃ x y r, st = .int y :: .int x :: r ∧ P (pc + 1) ls (.int (x.toUInt32 >>> (y.toUInt32 &&& Int32.toUInt32 31)).toInt32 :: r) σ
  | .ladd => len = 1 ∧ ∃ x y r, st = .long y :: .long x :: r ∧ P (pc + 1) ls (.long (x + y) :: r) σ
  | .lmul => len = 1 ∧ ∃ x y r, st = .long y :: .long x :: r ∧ P (pc + 1) ls (.long (x * y) :: r) σ
  | .lcmp => len = 1 ∧ ∃ x y r, st = .long y :: .long x :: r ∧ P (pc + 1) ls (.int (lg_cmp x y) :: r) σ
  | .i2l => len = 1 ∧ ∃ x r, st = .int x :: r ∧ P (pc + 1) ls (.long x.toInt64 :: r) σ
  | .dup => len = 1 ∧ ∃ v r, st = v :: r ∧ v.category = 1 ∧ P (pc + 1) ls (v :: v :: r) σ
  | .dup2 => len = 1 ∧ ∃ v w r, st = v :: w :: r ∧ v.category = 1 ∧ w.category = 1 ∧ P (pc + 1) ls (v :: w :: v :: w :: r) σ
  | .pop => len = 1 ∧ ∃ v r, st = v :: r ∧ v.category = 1 ∧ P (pc + 1) ls r σ
  | .goto off => len = 3 ∧ ∃ t : Nat, (pc : Int) + off = (t : Int) ∧ P t ls st σ
  | .ifCond c off => len = 3 ∧ ∃ (x : Int32) (r : List Value) (t : Nat), st = .int x :: r ∧ (pc : Int) + off = (t : Int) ∧ (zif c x 0 → P t ls r σ) ∧ (¬ zif c x 0 → P (pc + 3) ls r σ)
  | .if_icmp c off => len = 3 ∧ ∃ (x y : Int32) (r : List Value) (t : Nat), st = .int y :: .int x :: r ∧ (pc : Int) + off = (t : Int) ∧ (zif c x y → P t ls r σ) ∧ (¬ zif c x y → P (pc + 3) ls r σ)
  | .tableswitch dflt lo hi offs => ∃ (x : Int32) (r : List Value) (t : Nat), st = .int x :: r ∧ (pc : Int) + dflt = (t : Int) ∧ ((x.toInt < lo ∨ hi < x.toInt) → P t ls r σ) ∧ (¬ x.toInt < lo → ¬ hi < x.toInt → ∃ (off : Int) (t : Nat), offs[(x.toInt - lo).toNat]? = some off ∧ (pc : Int) + off = (t : Int) ∧ P t ls r σ)
  | .getfield idx => len = 3 ∧ ∃ a r ci k w n fs, st = .ref a :: r ∧ zfG own idx = some (ci, k, w, n) ∧ U[a]? = some (.inr (ci, fs)) ∧ ((∃ b, fs[k]? = some (some b) ∧ P (pc + 3) ls (.ref b :: r) σ) ∨ (fs[k]? = some none ∧ P (pc + 3) ls (.int (σ a k) :: r) σ))
  | .putfield idx => len = 3 ∧ ∃ x a r ci k fs, st = .int x :: .ref a :: r ∧ zfG own idx = some (ci, k, true, false) ∧ U[a]? = some (.inr (ci, fs)) ∧ fs[k]? = some none ∧ P (pc + 3) ls r (zput σ a k x)
  | .iaload => len = 1 ∧ ∃ j a r, st = .int j :: .ref a :: r ∧ ((∃ n, U[a]? = some (.inl (false, n)) ∧ vp_in j n ∧ P (pc + 1) ls (.int (σ a j.toNatClampNeg) :: r) σ) ∨ (∃ L xs, U[a]? = none ∧ scr = some (a, L, xs) ∧ vp_in j L ∧ P (pc + 1) ls (.int (xs j.toNatClampNeg) :: r) σ))
  | .baload => len = 1 ∧ ∃ j a r n, st = .int j :: .ref a :: r ∧ U[a]? = some (.inl (true, n)) ∧ vp_in j n ∧ P (pc + 1) ls (.int (σ a j.toNatClampNeg) :: r) σ
  | .iastore => len = 1 ∧ ∃ x j a r n, st = .int x :: .int j :: .ref a :: r ∧ U[a]? = some (.inl (false, n)) ∧ vp_in j n ∧ P (pc + 1) ls r (zput σ a j.toNatClampNeg x)
  | .bastore => len = 1 ∧ ∃ x j a r n, st = .int x :: .int j :: .ref a :: r ∧ U[a]? = some (.inl (true, n)) ∧ vp_in j n ∧ P (pc + 1) ls r (zput σ a j.toNatClampNeg (vp_nar .boolean x))
  | .arraylength => len = 1 ∧ ∃ a r, st = .ref a :: r ∧ ((∃ b n, U[a]? = some (.inl (b, n)) ∧ P (pc + 1) ls (.int (nI n) :: r) σ) ∨ (∃ L xs, U[a]? = none ∧ scr = some (a, L, xs) ∧ P (pc + 1) ls (.int (nI L) :: r) σ))
  | .ireturn => len = 1 ∧ ∃ v ty, st = [.int v] ∧ ret = some ty ∧ narrow ty (.int v) = .int v ∧ Q (some (.int v)) σ
  | .lreturn => len = 1 ∧ ∃ v, st = [.long v] ∧ ret = some .long ∧ Q (some (.long v)) σ
  | .return_ => len = 1 ∧ st = [] ∧ ret = none ∧ Q none σ
  | .invokevirtual idx => len = 3 ∧ ∃ y k a r As ci fs, zmG own idx = some (y, As.length, k) ∧ k < 2 ∧ st = As.reverse ++ .ref a :: r ∧ U[a]? = some (.inr (ci, fs)) ∧ zNames[ci]? = some y.cls ∧ zcat r ∧ call y (.ref a :: As) σ (fun v σ' => P (pc + 3) ls (v.toList ++ r) σ')
  | .invokestatic idx => len = 3 ∧ ((∃ y r As, zmG own idx = some (y, As.length, 2) ∧ st = As.reverse ++ r ∧ zcat r ∧ call y As σ (fun v σ' => P (pc + 3) ls (v.toList ++ r) σ')) ∨
      (∃ y a a0 n0 n1 sp dp n r, zmG own idx = some (y, 5, 3) ∧ st = .int n :: .int dp :: .ref a :: .int sp :: .ref a0 :: r ∧ zcat r ∧ U[a0]? = some (.inl (false, n0)) ∧ U[a]? = some (.inl (false, n1)) ∧ ¬ sp < 0 ∧ ¬ dp < 0 ∧ ¬ n < 0 ∧ sp.toNatClampNeg + n.toNatClampNeg ≤ n0 ∧ dp.toNatClampNeg + n.toNatClampNeg ≤ n1 ∧ P (pc + 3) ls r (va_up σ a (va_cpy (σ a0) (σ a) sp.toNatClampNeg dp.toNatClampNeg n.toNatClampNeg))) ∨
      (∃ m x y r, zmG own idx = some (m, 2, 4) ∧ st = .int y :: .int x :: r ∧ zcat r ∧ P (pc + 3) ls (.int (if x < y then y else x) :: r) σ))
  | _ => False
def zD1 (U : zU) (call : zC) (own : String) (cc : ByteArray) (nL : Nat) (ret : Option FieldType) (scr : zS) (Q : zQ) (P : zP) (pc : Nat) (ls st : List Value) (σ : zV) : Prop := ∃ i len, decode cc pc = .ok (i, len) ∧ zstep U call own nL ret scr Q P i len pc ls st σ
def zEv (U : zU) (call : zC) (own : String) (cc : ByteArray) (nL : Nat) (ret : Option FieldType) (scr : zS) (Q : zQ) (pc : Nat) (ls st : List Value) (σ : zV) : Prop := ∀ P : zP, (∀ pc ls st σ, zD1 U call own cc nL ret scr Q P pc ls st σ → P pc ls st σ) → P pc ls st σ
def zia : List Value → List Value
  | [] => []
  | v :: t => if v.category = 2 then v :: .null :: zia t else v :: zia t
def zin (nL : Nat) (as : List Value) : List Value := zia as ++ List.replicate (nL - (zia as).length) .null
def zCall (U : zU) : Nat → zC
  | 0 => fun _ _ _ _ => False
  | d + 1 => fun y as σ Q => ∃ cc nL ret, zkG y = some (cc, nL, ret) ∧ (zia as).length ≤ nL ∧ zEv U (zCall U d) y.cls cc nL ret none Q 0 (zin nL as) [] σ
def zMono (call : zC) : Prop := ∀ y as σ (Q Q' : zQ), (∀ v σ, Q v σ → Q' v σ) → call y as σ Q → call y as σ Q'
theorem zimp {a b c : Prop} (h : b → c) (g : a → b) : a → c := fun x => h (g x)
set_option maxHeartbeats 4000000 in
theorem zstep_mono {U : zU} {call : zC} {own : String} {nL : Nat} {ret : Option FieldType} {scr : zS} {Q Q' : zQ} {P P' : zP} (hc : zMono call) (hQ : ∀ v σ, Q v σ → Q' v σ) (hP : ∀ pc ls st σ, P pc ls st σ → P' pc ls st σ) {i : Instr} {len pc : Nat} {ls st : List Value} {σ : zV} (h : zstep U call own nL ret scr Q P i len pc ls st σ) : zstep U call own nL ret scr Q' P' i len pc ls st σ := by
  unfold zstep at h ⊢
  split at h <;> revert h <;> repeat' (first | exact id | exact hP _ _ _ _ | exact hQ _ _ | exact hc _ _ _ _ _ (fun _ _ => hP _ _ _ _) | refine And.imp ?_ ?_ | refine Or.imp ?_ ?_ | refine Exists.imp (fun _ => ?_) | refine zimp ?_)
theorem zD1_mono {U : zU} {call : zC} {own : String} {cc : ByteArray} {nL : Nat} {ret : Option FieldType} {scr : zS} {Q Q' : zQ} {P P' : zP} (hc : zMono call) (hQ : ∀ v σ, Q v σ → Q' v σ) (hP : ∀ pc ls st σ, P pc ls st σ → P' pc ls st σ) {pc : Nat} {ls st : List Value} {σ : zV} (h : zD1 U call own cc nL ret scr Q P pc ls st σ) : zD1 U call own cc nL ret scr Q' P' pc ls st σ := by
  obtain ⟨i, len, h1, h2⟩ := h
  exact ⟨i, len, h1, zstep_mono hc hQ hP h2⟩
theorem zEv_in {U : zU} {call : zC} {own : String} {cc : ByteArray} {nL : Nat} {ret : Option FieldType} {scr : zS} {Q : zQ} (hc : zMono call) {pc : Nat} {ls st : List Value} {σ : zV} (h : zD1 U call own cc nL ret scr Q (zEv U call own cc nL ret scr Q) pc ls st σ) : zEv U call own cc nL ret scr Q pc ls st σ := by
  intro P hP
  exact hP _ _ _ _ (zD1_mono hc (fun _ _ h => h) (fun pc ls st σ h => h P hP) h)
theorem zEv_eq {U : zU} {call : zC} {own : String} {cc : ByteArray} {nL : Nat} {ret : Option FieldType} {scr : zS} {Q : zQ} (hc : zMono call) {pc : Nat} {ls st : List Value} {σ : zV} : zEv U call own cc nL ret scr Q pc ls st σ = zD1 U call own cc nL ret scr Q (zEv U call own cc nL ret scr Q) pc ls st σ := by
  refine propext ⟨fun h => h _ (fun pc ls st σ g => zD1_mono hc (fun _ _ h => h) (fun _ _ _ _ h => zEv_in hc h) g), zEv_in hc⟩
theorem zEv_mono {U : zU} {call : zC} {own : String} {cc : ByteArray} {nL : Nat} {ret : Option FieldType} {scr : zS} {Q Q' : zQ} (hc : zMono call) (hQ : ∀ v σ, Q v σ → Q' v σ) {pc : Nat} {ls st : List Value} {σ : zV} (h : zEv U call own cc nL ret scr Q pc ls st σ) : zEv U call own cc nL ret scr Q' pc ls st σ := by
  intro P hP
  exact h P (fun pc ls st σ g => hP _ _ _ _ (zD1_mono hc hQ (fun _ _ _ _ h => h) g))
theorem zCall_mono (U : zU) (d : Nat) : zMono (zCall U d) := by
  induction d with
  | zero => intro y as σ Q Q' _ h; exact h
  | succ d ih =>
    intro y as σ Q Q' hQ h
    obtain ⟨cc, nL, ret, h1, h2, h3⟩ := h
    exact ⟨cc, nL, ret, h1, h2, zEv_mono ih hQ h3⟩
/-! the abstract world in the heap -/
def zc (q : Nat → Nat) (v : Value) : Value := match v with
  | .ref a => .ref (q a)
  | w => w
theorem zc_cat (q : Nat → Nat) (v : Value) : (zc q v).category = v.category := by cases v <;> rfl
def zE (q : Nat → Nat) (cI cZ : ClassId) (σ : zV) (k : Nat) (d : zD) : va_E := match d with
  | .inl (b, n) => .inl (if b = true then cZ else cI, n, .inl (σ k))
  | .inr (ci, fs) => .inr (ci, fs.mapIdx fun j f => match f with
    | some r => .ref (q r)
    | none => .int (σ k j))
def zW (q : Nat → Nat) (cI cZ : ClassId) (U : zU) (σ : zV) : va_W := U.mapIdx fun k d => (q k, zE q cI cZ σ k d)
abbrev zTy (cI cZ : ClassId) : List (ClassId × FieldType) := [(cI, .int), (cZ, .boolean)]
theorem zW_get {q : Nat → Nat} {cI cZ : ClassId} {U : zU} {σ : zV} {k : Nat} {d : zD} (h : U[k]? = some d) : (zW q cI cZ U σ)[k]? = some (q k, zE q cI cZ σ k d) := by
  simp [zW, List.getElem?_mapIdx, h]
theorem zE_off {q : Nat → Nat} {cI cZ : ClassId} {σ σ' : zV} {k : Nat} (h : σ' k = σ k) (d : zD) : zE q cI cZ σ' k d = zE q cI cZ σ k d := by
  unfold zE
  split <;> simp [h]
theorem zW_set {q : Nat → Nat} {cI cZ : ClassId} {U : zU} {σ σ' : zV} {k : Nat} {d : zD} (h : U[k]? = some d) (hs : ∀ j, j ≠ k → σ' j = σ j) : (zW q cI cZ U σ).set k (q k, zE q cI cZ σ' k d) = zW q cI cZ U σ' := by
  have hk : k < U.length := (List.getElem?_eq_some_iff.mp h).1
  apply List.ext_getElem?
  intro i
  by_cases hi : i = k
  · subst hi
    rw [List.getElem?_set_self (by simp [zW]; exact hk), zW_get h]
  · rw [List.getElem?_set_ne (Ne.symm hi)]
    cases hu : U[i]? with
    | none =>
      have := List.getElem?_eq_none_iff.mp hu
      rw [List.getElem?_eq_none (by simp [zW]; omega), List.getElem?_eq_none (by simp [zW]; omega)]
    | some x => rw [zW_get hu, zW_get hu, zE_off (hs i hi)]
theorem zput_off {σ : zV} {a k : Nat} {x : Int32} : ∀ j, j ≠ a → zput σ a k x j = σ j := fun j h => by simp [zput, va_up, h]
theorem zput_at {σ : zV} {a k : Nat} {x : Int32} : zput σ a k x a = upd (σ a) k x := by simp [zput, va_up]
theorem zE_put_a {q : Nat → Nat} {cI cZ : ClassId} {σ : zV} {a k n : Nat} {b : Bool} {x : Int32} : zE q cI cZ (zput σ a k x) a (.inl (b, n)) = .inl (if b = true then cZ else cI, n, .inl (upd (σ a) k x)) := by
  simp [zE, zput_at]
theorem zE_put_f {q : Nat → Nat} {cI cZ : ClassId} {σ : zV} {a k ci : Nat} {fs : List (Option Nat)} {x : Int32} (h : fs[k]? = some none) : zE q cI cZ (zput σ a k x) a (.inr (ci, fs)) = .inr (ci, (fs.mapIdx fun j f => match f with
    | some r => Value.ref (q r)
    | none => Value.int (σ a j)).set k (.int x)) := by
  have hk : k < fs.length := (List.getElem?_eq_some_iff.mp h).1
  simp only [zE, zput_at]
  congr 2
  apply List.ext_getElem?
  intro i
  by_cases hi : i = k
  · subst hi
    rw [List.getElem?_set_self (by simpa using hk), List.getElem?_mapIdx, h]
    simp [upd]
  · rw [List.getElem?_set_ne (Ne.symm hi), List.getElem?_mapIdx, List.getElem?_mapIdx]
    cases fs[i]? with
    | none => rfl
    | some f => cases f <;> simp [upd, hi]
/-! the locals -/
def zl (q : Nat → Nat) : Nat → List Value → List (Nat × Value)
  | _, [] => []
  | i, v :: t => match v with
    | .null => zl q (i + 1) t
    | w => (i, zc q w) :: zl q (i + 1) t
theorem zl_mem {q : Nat → Nat} {ls : List Value} : ∀ {i : Nat} {x : Nat × Value}, x ∈ zl q i ls ↔ ∃ (j : Nat) (v : Value), ls[j]? = some v ∧ v ≠ .null ∧ x = (i + j, zc q v) := by
  induction ls with
  | nil => intro i x; simp [zl]
  | cons v t ih =>
    intro i x
    have hs : (∃ (j : Nat) (w : Value), (v :: t)[j]? = some w ∧ w ≠ .null ∧ x = (i + j, zc q w)) ↔ ((v ≠ .null ∧ x = (i, zc q v)) ∨ ∃ (j : Nat) (w : Value), t[j]? = some w ∧ w ≠ .null ∧ x = (i + 1 + j, zc q w)) := by
      constructor
      · rintro ⟨j, w, h1, h2, h3⟩
        cases j with
        | zero => cases h1; exact Or.inl ⟨h2, h3⟩
        | succ j => exact Or.inr ⟨j, w, by simpa using h1, h2, by rw [h3]; congr 1; omega⟩
      · rintro (⟨h2, h3⟩ | ⟨j, w, h1, h2, h3⟩)
        · exact ⟨0, v, rfl, h2, h3⟩
        · exact ⟨j + 1, w, by simpa using h1, h2, by rw [h3]; congr 1; omega⟩
    have e : zl q i (v :: t) = if v = .null then zl q (i + 1) t else (i, zc q v) :: zl q (i + 1) t := by cases v <;> simp [zl]
    rw [hs, ← ih, e]
    by_cases hv : v = .null
    · rw [if_pos hv]
      exact ⟨fun h => Or.inr h, fun h => h.elim (fun z => absurd hv z.1) id⟩
    · rw [if_neg hv, List.mem_cons]
      exact ⟨Or.imp_left (fun z => ⟨hv, z⟩), Or.imp_left And.right⟩
theorem zl_at {q : Nat → Nat} {lsA : Array Slot} {nL : Nat} {ls : List Value} (h : lv_has lsA nL (zl q 0 ls)) {i : Nat} {v : Value} (hi : ls[i]? = some v) (hv : v ≠ .null) : lsA[i]? = some (.val (zc q v)) :=
  h.2.2 (i, zc q v) (zl_mem.mpr ⟨i, v, hi, hv, by simp⟩)
theorem zl_less {lsA : Array Slot} {nL : Nat} {l l' : List (Nat × Value)} (h : lv_has lsA nL l) (hs : ∀ x ∈ l', x ∈ l) : lv_has lsA nL l' := ⟨h.1, h.2.1, fun x hx => h.2.2 x (hs x hx)⟩
theorem zl_set1 {q : Nat → Nat} {lsA : Array Slot} {nL k : Nat} {ls : List Value} {w : Value} (hw : w ≠ .null) (hk : zok1 ls k) (h : lv_has lsA nL ((k, zc q w) :: (zl q 0 ls).filter (fun q => !(q.1 == k) && !(q.1 + 1 == k && q.2.category == 2)))) : lv_has lsA nL (zl q 0 (ls.set k w)) := by
  refine zl_less h (fun x hx => ?_)
  obtain ⟨j, v, h1, h2, rfl⟩ := zl_mem.mp hx
  simp only [Nat.zero_add]
  by_cases hj : j = k
  · subst hj
    have hl : j < ls.length := by
      have := (List.getElem?_eq_some_iff.mp h1).1
      simpa using this
    rw [List.getElem?_set_self hl] at h1
    cases h1
    exact List.mem_cons_self
  · rw [List.getElem?_set_ne (Ne.symm hj)] at h1
    refine List.mem_cons_of_mem _ (List.mem_filter.mpr ⟨zl_mem.mpr ⟨j, v, h1, h2, by simp⟩, ?_⟩)
    simp only [beq_iff_eq, Bool.and_eq_true, Bool.not_eq_true', Bool.and_eq_false_iff, beq_eq_false_iff_ne, ne_eq]
    refine ⟨hj, ?_⟩
    by_cases hjk : j + 1 = k
    · subst hjk
      right
      rw [zc_cat, hk v h1]
      decide
    · exact Or.inl hjk
theorem zl_set2 {q : Nat → Nat} {lsA : Array Slot} {nL k : Nat} {ls : List Value} {w : Value} (hw : w ≠ .null) (hk : zok1 ls k) (h : lv_has lsA nL ((k, zc q w) :: (zl q 0 ls).filter (fun q => !(q.1 == k) && (!(q.1 == k + 1) && !(q.1 + 1 == k && q.2.category == 2))))) : lv_has lsA nL (zl q 0 ((ls.set k w).set (k + 1) .null)) := by
  refine zl_less h (fun x hx => ?_)
  obtain ⟨j, v, h1, h2, rfl⟩ := zl_mem.mp hx
  simp only [Nat.zero_add]
  have hj1 : j ≠ k + 1 := by
    intro e
    subst e
    have hl : k + 1 < (ls.set k w).length := by
      have := (List.getElem?_eq_some_iff.mp h1).1
      simpa using this
    rw [List.getElem?_set_self hl] at h1
    cases h1
    exact h2 rfl
  rw [List.getElem?_set_ne (Ne.symm hj1)] at h1
  by_cases hj : j = k
  · subst hj
    have hl : j < ls.length := by
      have := (List.getElem?_eq_some_iff.mp h1).1
      simpa using this
    rw [List.getElem?_set_self hl] at h1
    cases h1
    exact List.mem_cons_self
  · rw [List.getElem?_set_ne (Ne.symm hj)] at h1
    refine List.mem_cons_of_mem _ (List.mem_filter.mpr ⟨zl_mem.mpr ⟨j, v, h1, h2, by simp⟩, ?_⟩)
    simp only [beq_iff_eq, Bool.and_eq_true, Bool.not_eq_true', Bool.and_eq_false_iff, beq_eq_false_iff_ne, ne_eq]
    refine ⟨hj, hj1, ?_⟩
    by_cases hjk : j + 1 = k
    · subst hjk
      right
      rw [zc_cat, hk v h1]
      decide
    · exact Or.inl hjk
theorem zia_args (q : Nat → Nat) : ∀ (as : List Value) (i j : Nat) (v : Value), (zia as)[j]? = some v → v ≠ .null → (i + j, zc q v) ∈ lv_args i (as.map (zc q)) := by
  intro as
  induction as with
  | nil => intro i j v h; simp [zia] at h
  | cons a t ih =>
    intro i j v h hv
    simp only [zia] at h
    simp only [List.map_cons, lv_args, zc_cat]
    by_cases hc : a.category = 2
    · rw [if_pos hc] at h
      rw [if_pos hc]
      match j, h with
      | 0, h => cases h; exact List.mem_cons_self
      | 1, h => exact absurd (by simpa using h.symm) hv
      | j + 2, h =>
        have := ih (i + 2) j v (by simpa using h) hv
        rw [show i + 2 + j = i + (j + 2) by omega] at this
        exact List.mem_cons_of_mem _ this
    · rw [if_neg hc] at h
      rw [if_neg hc]
      match j, h with
      | 0, h => cases h; exact List.mem_cons_self
      | j + 1, h =>
        have := ih (i + 1) j v (by simpa using h) hv
        rw [show i + 1 + j = i + (j + 1) by omega] at this
        exact List.mem_cons_of_mem _ this
theorem zia_len (q : Nat → Nat) (as : List Value) : (lg_sl (as.map (zc q))).length = (zia as).length := by
  induction as with
  | nil => rfl
  | cons a t ih =>
    simp only [lg_sl, List.map_cons, List.flatMap_cons, List.length_append, zia, zc_cat] at ih ⊢
    by_cases hc : a.category = 2 <;> simp [hc, ih] <;> omega
theorem zin_has {q : Nat → Nat} {lsA : Array Slot} {nL : Nat} {as : List Value} (h : lv_has lsA nL (lv_args 0 (as.map (zc q)))) : lv_has lsA nL (zl q 0 (zin nL as)) := by
  refine zl_less h (fun x hx => ?_)
  obtain ⟨j, v, h1, h2, rfl⟩ := zl_mem.mp hx
  unfold zin at h1
  by_cases hl : j < (zia as).length
  · rw [List.getElem?_append_left hl] at h1
    exact zia_args q as 0 j v h1 h2
  · rw [List.getElem?_append_right (by omega)] at h1
    exact absurd (List.eq_of_mem_replicate (List.mem_of_getElem? h1)) h2
end
section
/-! a run that comes to an end does so on the machine -/
def zNw (s : State) : Prop := ∀ w ∈ lw_tbl, zisN w = true → va_Nw w s
theorem zisN_on {w : Cond} (h : zisN w = true) : w.onTables = true := by cases w <;> first | rfl | (simp [zisN] at h)
theorem zNw_warm {s U : State} (h : zNw s) (hW : s.WarmedH U.vm) : zNw U := by
  intro w hw hn
  have h1 := h w hw hn
  cases w <;> first | exact va_Nw.warmF hW h1 | exact va_Nw.warmM hW h1 | (simp [zisN] at hn)
def zB (D : va_G) (q : Nat → Nat) (cI cZ : ClassId) (U : zU) (σ : zV) (A : Nat → Prop) (t : State) : Prop := va_P D vwCl (zW q cI cZ U σ) t.heap ∧ va_K D vwCl (zTy cI cZ) t ∧ va_D A (zW q cI cZ U σ) ∧ zNw t
def zPost (D : va_G) (q : Nat → Nat) (cI cZ : ClassId) (U : zU) (Q : zQ) (A : Nat → Prop) : Array Value → State → Outcome → State → Prop := fun _ st oc t => (∃ v σ', oc = .returned (v.map (zc q)) ∧ Q v σ' ∧ va_P D vwCl (zW q cI cZ U σ') t.heap ∧ va_D A (zW q cI cZ U σ')) ∧ va_F A st t
def zPre (D : va_G) (q : Nat → Nat) (cI cZ : ClassId) (U : zU) (as : List Value) (σ : zV) (sz : Nat) : Array Value → State → Prop := va_Pc (as.map (zc q)) (fun T => T.heap.size = sz ∧ zB D q cI cZ U σ (fun _ => True) T)
def zCalls (l : Launch) (D : va_G) (q : Nat → Nat) (cI cZ : ClassId) (U : zU) (R : Room) (call : zC) : Prop := ∀ y as σ Q, call y as σ Q → ∃ cc nL ret rm, zkG y = some (cc, nL, ret) ∧ rm.frames + 1 ≤ R.frames ∧ 8 + (nL + 11) + rm.locals ≤ R.locals ∧ rm.cells = 0 ∧ rm.slots = 0 ∧
  ∀ sz, Met l y (.code y cc nL ret :: zTs) rm (zPre D q cI cZ U as σ sz) (zPost D q cI cZ U Q (va_A (zW q cI cZ U σ) sz)) 0 0 (va_A (zW q cI cZ U σ) sz)
theorem zPre_blind {D : va_G} {q : Nat → Nat} {cI cZ : ClassId} {U : zU} {as : List Value} {σ : zV} {sz : Nat} : FrameBlind (zPre D q cI cZ U as σ sz) := by
  intro a V g mk h
  obtain ⟨h1, h2, h3, h4, h5, h6⟩ := h
  exact ⟨h1, h2, h3, va_K.moved (u := V) (U := V.calling g mk a) (Vm.Alike.refl V.vm) h4, h5, fun w hw hn => va_Nw.same (zisN_on hn) (u := V) (U := V.calling g mk a) rfl (h6 w hw hn)⟩
theorem zNames_ok : vwCl.map (fun x => x.1) = zNames := by decide +kernel
theorem zNames_at {ci : Nat} {C : String} (h : zNames[ci]? = some C) : ∃ x, vwCl[ci]? = some x ∧ x.1 = C := by
  rw [← zNames_ok, List.getElem?_map] at h
  cases hx : vwCl[ci]? with
  | none => rw [hx] at h; cases h
  | some x => rw [hx] at h; exact ⟨x, rfl, Option.some.inj h⟩
theorem zty (ci : Nat) (x : vw_C) (h : vwCl[ci]? = some x) : ∃ ty0 : Nat → FieldType, (∀ k, k < x.2.2 → parseFieldDescriptor (x.2.1 k).2.2.1 = some (ty0 k)) ∧ (∀ a, a < x.2.2 → ∀ b, b < x.2.2 → a ≠ b → (x.2.1 a).2.1 ≠ (x.2.1 b).2.1) := by
  match ci, h with
  | 0, h => cases h; exact ⟨tyX0, tyX0_ok, nmX0⟩
  | 1, h => cases h; exact ⟨tyX1, tyX1_ok, nmX1⟩
  | 2, h => cases h; exact ⟨tyX2, tyX2_ok, nmX2⟩
  | 3, h => cases h; exact ⟨tyX3, tyX3_ok, nmX3⟩
  | 4, h => cases h; exact ⟨tyX4, tyX4_ok, nmX4⟩
  | 5, h => cases h; exact ⟨tyX5, tyX5_ok, nmX5⟩
  | 6, h => cases h; exact ⟨tyX6, tyX6_ok, nmX6⟩
  | k + 7, h => simp [vwCl] at h
section ZS
variable {p : Program} {l : Launch} {e : Env} {R : Room} {s : State} {m : MethodId} {args : Array Value} {below : List Frame} {meth : Method} {c : Code} {H : Heap} {locs : List Loc} {cells slots : Nat} {Z : State → Prop}
variable {cc : ByteArray} {nL : Nat} {ret : Option FieldType} {own : String} {D : va_G} {q : Nat → Nat} {cI cZ : ClassId} {A : Nat → Prop} {U : zU} {scr : zS} {call : zC} {Q : zQ}
/-- behind a call -/
theorem zback {pc : Nat} {lsA : Array Slot} {st0 rest : List Value} {σ : zV} {Q1 : zQ} {a : Array Value} (hr : va_Run p l e R s m args below meth c H locs cells slots 0 0 (F0 m pc lsA st0) rest (zPost D q cI cZ U Q1 (va_A (zW q cI cZ U σ) H.size) a) (va_A (zW q cI cZ U σ) H.size))
    (hD : va_D A (zW q cI cZ U σ)) (hS : va_S A s.heap H locs) (hA : ∀ q, s.heap.size ≤ q → A q)
    (kk : ∀ (v : Option Value) (σ' : zV) (H1 : Heap) (locs1 : List Loc), Q1 v σ' → va_P D vwCl (zW q cI cZ U σ') H1 → va_D A (zW q cI cZ U σ') → va_S A s.heap H1 locs1 → W p l e R s m args below meth c H1 locs1 cells slots Z (F0 m (pc + 3) lsA ((v.map (zc q)).toList ++ rest))) : W p l e R s m args below meth c H locs cells slots Z (F0 m pc lsA st0) := by
  have hf : ∀ x, va_A (zW q cI cZ U σ) H.size x → A x := by
    intro x h
    rcases h with ⟨k, e, h⟩ | h
    · exact hD.2 k (x, e) h
    · exact hA x (Nat.le_trans hS.1 h)
  intro T hT X
  obtain ⟨v, st₀, t, T', L, h0, X', hL, e1, e2, ⟨⟨v', σ', hv, hq, hP, hD1⟩, hz, hk⟩, st⟩ := hr T hT X
  cases hv
  rw [h0] at hz hk
  obtain ⟨t2, a1, b1⟩ := kk v' σ' T'.heap (locs ++ L) hq (by rw [e1]; exact hP) (hD1.weaken (fun _ _ _ h => hf _ h))
    ⟨Nat.le_trans hS.1 (by rw [e1]; exact hz), fun x h1 h2 => by rw [e1, hk x (Nat.lt_of_lt_of_le h1 hS.1) (fun z => h2 (hf x z))]; exact hS.2.1 x h1 h2, fun x hx => by
      rcases List.mem_append.mp hx with h | h
      · exact hS.2.2 x h
      · exact hf _ (hL x h)⟩ T' rfl X'
  exact ⟨t2, st t2 a1, b1⟩
/-- what stays the same in a method -/
def zFix (p : Program) (l : Launch) (R : Room) (s : State) (m : MethodId) (args : Array Value) (c : Code) (cells slots : Nat) (cc : ByteArray) (nL : Nat) (own : String) (D : va_G) (q : Nat → Nat) (cI cZ : ClassId) (A : Nat → Prop) (U : zU) (scr : zS) (call : zC) : Prop :=
  p.tables.exec = Jvm.exec ∧ c.code = cc ∧ c.maxLocals = nL ∧ s.vm.findClass own = some m.cls ∧ (∀ w ∈ zTs, w.before args s = true) ∧ zNw s ∧ va_K D vwCl (zTy cI cZ) s ∧ (∀ q, s.heap.size ≤ q → A q) ∧ cells ≤ R.cells ∧ slots ≤ R.slots ∧ 1 ≤ R.frames ∧ 36 ≤ R.locals ∧ zCalls l D q cI cZ U R call ∧ (∀ k L xs, scr = some (k, L, xs) → va_X (q k) L xs s s.heap ∧ q k < s.heap.size ∧ ¬ A (q k))
def zEnd (p : Program) (l : Launch) (e : Env) (R : Room) (s : State) (m : MethodId) (args : Array Value) (below : List Frame) (meth : Method) (c : Code) (cells slots : Nat) (Z : State → Prop) (cc : ByteArray) (ret : Option FieldType) (D : va_G) (q : Nat → Nat) (cI cZ : ClassId) (A : Nat → Prop) (U : zU) (Q : zQ) : Prop :=
  ∀ (H : Heap) (locs : List Loc) (pc : Nat) (lsA : Array Slot) (σ : zV), va_P D vwCl (zW q cI cZ U σ) H → va_D A (zW q cI cZ U σ) → va_S A s.heap H locs →
    (∀ v ty, decode cc pc = .ok (.ireturn, 1) → ret = some ty → narrow ty (.int v) = .int v → Q (some (.int v)) σ → W p l e R s m args below meth c H locs cells slots Z (F0 m pc lsA [.int v])) ∧
    (∀ v, decode cc pc = .ok (.lreturn, 1) → ret = some .long → Q (some (.long v)) σ → W p l e R s m args below meth c H locs cells slots Z (F0 m pc lsA [.long v])) ∧
    (decode cc pc = .ok (.return_, 1) → ret = none → Q none σ → W p l e R s m args below meth c H locs cells slots Z (F0 m pc lsA []))
theorem zcat_q {r : List Value} (h : zcat r) : ((r.map (zc q)).map fun v => v.category).sum ≤ 8 := by
  rw [List.map_map]
  have : ((fun v : Value => v.category) ∘ zc q) = fun v => v.category := funext fun v => zc_cat q v
  rw [this]
  exact h
theorem zPre_of {as : List Value} {σ : zV} (hP : va_P D vwCl (zW q cI cZ U σ) H) (hD : va_D A (zW q cI cZ U σ)) (hK : va_K D vwCl (zTy cI cZ) s) (hN : zNw s) : ∀ T : State, T.heap = H → s.WarmedH T.vm → zPre D q cI cZ U as σ H.size (as.map (zc q)).toArray T :=
  fun T hT hW => ⟨rfl, by rw [hT], by rw [hT]; exact hP, va_K.moved hW.alike hK, hD.weaken (fun _ _ _ _ => trivial), zNw_warm hN hW⟩
theorem zgood {y : MethodName} {cc' : ByteArray} {nL' : Nat} {ret' : Option FieldType} (h : .code y cc' nL' ret' ∈ zTs) : GoodIn zTs (.code y cc' nL' ret' :: zTs) := by
  intro w hw
  rcases List.mem_cons.mp hw with rfl | hw
  · exact zTs_good _ h
  · exact zTs_good _ hw
theorem zgoodA {a b : List Jvm.Cond} (ha : GoodIn zTs a) (hb : GoodIn zTs b) : GoodIn zTs (a ++ b) := fun w h => (List.mem_append.mp h).elim (ha w) (hb w)
theorem zgoodL {ws : List Cond} (h : ∀ w ∈ ws, w ∈ zTs) : GoodIn zTs ws := fun w hw => zTs_good _ (h w hw)
set_option maxHeartbeats 8000000 in
set_option maxRecDepth 100000 in
theorem zsound (F : zFix p l R s m args c cells slots cc nL own D q cI cZ A U scr call) (E : zEnd p l e R s m args below meth c cells slots Z cc ret D q cI cZ A U Q) : ∀ pc ls st σ, zEv U call own cc nL ret scr Q pc ls st σ → ∀ (lsA : Array Slot) (H : Heap) (locs : List Loc), lv_has lsA nL (zl q 0 ls) → va_P D vwCl (zW q cI cZ U σ) H → va_D A (zW q cI cZ U σ) → va_S A s.heap H locs → W p l e R s m args below meth c H locs cells slots Z (F0 m pc lsA (st.map (zc q))) := by
  intro pc ls st σ h
  refine h (fun pc ls st σ => ∀ (lsA : Array Slot) (H : Heap) (locs : List Loc), lv_has lsA nL (zl q 0 ls) → va_P D vwCl (zW q cI cZ U σ) H → va_D A (zW q cI cZ U σ) → va_S A s.heap H locs → W p l e R s m args below meth c H locs cells slots Z (F0 m pc lsA (st.map (zc q)))) ?_
  clear h
  intro pc ls st σ hstep lsA H locs hl hP hD hS
  obtain ⟨hx, hb, hml, hown, hts, hN, hK, hA, hcl, hsl, hfr, hlo, hC, hX⟩ := id F
  obtain ⟨i, len, hd, hz⟩ := hstep
  cases i with
  | iload_n k =>
    obtain ⟨rfl, x, h1, h2⟩ := hz
    exact lv_iload_n hx hb hd rfl (zl_at hl h1 (by simp)) (h2 lsA H locs hl hP hD hS)
  | iload k =>
    obtain ⟨rfl, x, h1, h2⟩ := hz
    exact lv_iload hx hb hd (zl_at hl h1 (by simp)) (h2 lsA H locs hl hP hD hS)
  | lload_n k =>
    obtain ⟨rfl, x, h1, h2⟩ := hz
    exact lv_lload_n hx hb hd rfl (zl_at hl h1 (by simp)) (h2 lsA H locs hl hP hD hS)
  | lload k =>
    obtain ⟨rfl, x, h1, h2⟩ := hz
    exact lv_lload hx hb hd (zl_at hl h1 (by simp)) (h2 lsA H locs hl hP hD hS)
  | aload_n k =>
    obtain ⟨rfl, x, h1, h2⟩ := hz
    exact lv_aload_n hx hb hd rfl (zl_at hl h1 (by simp)) (h2 lsA H locs hl hP hD hS)
  | istore_n k =>
    obtain ⟨rfl, x, r, rfl, h1, h2, h3⟩ := hz
    exact lv_istore_n hx hb hd rfl hl h1 rfl (fun ls' hl' => h3 ls' H locs (zl_set1 (by simp) h2 hl') hP hD hS)
  | istore k =>
    obtain ⟨rfl, x, r, rfl, h1, h2, h3⟩ := hz
    exact lv_istore hx hb hd hl h1 rfl (fun ls' hl' => h3 ls' H locs (zl_set1 (by simp) h2 hl') hP hD hS)
  | lstore_n k =>
    obtain ⟨rfl, x, r, rfl, h1, h2, h3⟩ := hz
    exact lv_lstore_n hx hb hd rfl hl h1 rfl (fun ls' hl' => h3 ls' H locs (zl_set2 (by simp) h2 hl') hP hD hS)
  | lstore k =>
    obtain ⟨rfl, x, r, rfl, h1, h2, h3⟩ := hz
    exact lv_lstore hx hb hd hl h1 rfl (fun ls' hl' => h3 ls' H locs (zl_set2 (by simp) h2 hl') hP hD hS)
  | iinc k n =>
    obtain ⟨rfl, x, h0, h1, h2, h3⟩ := hz
    obtain ⟨j, hj⟩ := List.getElem?_of_mem (zl_mem.mpr ⟨k, .int x, h0, by simp, rfl⟩ : ((0 + k, zc q (.int x)) : Nat × Value) ∈ zl q 0 ls)
    rw [Nat.zero_add] at hj
    exact lv_iinc hx hb hd hl hj rfl h1 rfl (fun ls' hl' => h3 ls' H locs (zl_set1 (by simp) h2 hl') hP hD hS)
  | iconst n =>
    obtain ⟨rfl, h2⟩ := hz
    exact lv_iconst hx hb hd rfl (h2 lsA H locs hl hP hD hS)
  | bipush n =>
    obtain ⟨rfl, h2⟩ := hz
    exact lv_bipush hx hb hd rfl (h2 lsA H locs hl hP hD hS)
  | sipush n =>
    obtain ⟨rfl, h2⟩ := hz
    exact lv_sipush hx hb hd rfl (h2 lsA H locs hl hP hD hS)
  | ldc_w idx =>
    obtain ⟨rfl, v, h1, h2⟩ := hz
    exact lv_ldcw hx hb hown (hts _ (zcG_ok h1)) hd (h2 lsA H locs hl hP hD hS)
  | ldc2_w idx =>
    obtain ⟨rfl, v, h1, h2⟩ := hz
    exact lv_ldc2 hx hb hown (hts _ (zlG_ok h1)) hd (h2 lsA H locs hl hP hD hS)
  | iadd =>
    obtain ⟨rfl, x, y, r, rfl, h2⟩ := hz
    exact lv_iadd hx hb hd (h2 lsA H locs hl hP hD hS)
  | isub =>
    obtain ⟨rfl, x, y, r, rfl, h2⟩ := hz
    exact lv_isub hx hb hd (h2 lsA H locs hl hP hD hS)
  | imul =>
    obtain ⟨rfl, x, y, r, rfl, h2⟩ := hz
    exact lv_imul hx hb hd (h2 lsA H locs hl hP hD hS)
  | iand =>
    obtain ⟨rfl, x, y, r, rfl, h2⟩ := hz
    exact lv_iand hx hb hd (h2 lsA H locs hl hP hD hS)
  | ior =>
    obtain ⟨rfl, x, y, r, rfl, h2⟩ := hz
    exact lv_ior hx hb hd (h2 lsA H locs hl hP hD hS)
  | ixor =>
    obtain ⟨rfl, x, y, r, rfl, h2⟩ := hz
    exact lv_ixor hx hb hd (h2 lsA H locs hl hP hD hS)
  | ishl =>
    obtain ⟨rfl, x, y, r, rfl, h2⟩ := hz
    exact lv_ishl hx hb hd (h2 lsA H locs hl hP hD hS)
  | ladd =>
    obtain ⟨rfl, x, y, r, rfl, h2⟩ := hz
    exact lv_ladd hx hb hd (h2 lsA H locs hl hP hD hS)
  | lmul =>
    obtain ⟨rfl, x, y, r, rfl, h2⟩ := hz
    exact lv_lmul hx hb hd (h2 lsA H locs hl hP hD hS)
  | iushr =>
    obtain ⟨rfl, x, y, r, rfl, h2⟩ := hz
    exact lv_iushr hx hb hd rfl (h2 lsA H locs hl hP hD hS)
  | lcmp =>
    obtain ⟨rfl, x, y, r, rfl, h2⟩ := hz
    exact W.lcmp hx hb hd (h2 lsA H locs hl hP hD hS)
  | i2l =>
    obtain ⟨rfl, x, r, rfl, h2⟩ := hz
    exact lv_i2l hx hb hd rfl (h2 lsA H locs hl hP hD hS)
  | dup =>
    obtain ⟨rfl, v, r, rfl, h1, h2⟩ := hz
    exact lv_dup hx hb hd (by rw [zc_cat]; exact h1) (h2 lsA H locs hl hP hD hS)
  | dup2 =>
    obtain ⟨rfl, v, w, r, rfl, h1, h1', h2⟩ := hz
    exact lv_dup2_11 hx hb hd (by rw [zc_cat]; exact h1) (by rw [zc_cat]; exact h1') (h2 lsA H locs hl hP hD hS)
  | pop =>
    obtain ⟨rfl, v, r, rfl, h1, h2⟩ := hz
    exact lv_pop hx hb hd (by rw [zc_cat]; exact h1) (h2 lsA H locs hl hP hD hS)
  | goto off =>
    obtain ⟨rfl, t, ht, h2⟩ := hz
    exact lv_goto hx hb hd ht (h2 lsA H locs hl hP hD hS)
  | ifCond cd off =>
    obtain ⟨rfl, x, r, t, rfl, ht, h1, h2⟩ := hz
    cases cd with
    | eq => exact lv_if_eq hx hb hd ht (fun z => h1 z lsA H locs hl hP hD hS) (fun z => h2 (z) lsA H locs hl hP hD hS)
    | ne => exact lv_if_ne hx hb hd ht (fun z => h1 z lsA H locs hl hP hD hS) (fun z => h2 (fun w => w z) lsA H locs hl hP hD hS)
    | lt => exact lv_if_lt hx hb hd ht (fun z => h1 z lsA H locs hl hP hD hS) (fun z => h2 (z) lsA H locs hl hP hD hS)
    | ge => exact lv_if_ge hx hb hd ht (fun z => h1 z lsA H locs hl hP hD hS) (fun z => h2 (z) lsA H locs hl hP hD hS)
    | gt => exact lv_if_gt hx hb hd ht (fun z => h1 z lsA H locs hl hP hD hS) (fun z => h2 (z) lsA H locs hl hP hD hS)
    | le => exact lv_if_le hx hb hd ht (fun z => h1 z lsA H locs hl hP hD hS) (fun z => h2 (z) lsA H locs hl hP hD hS)
  | if_icmp cd off =>
    obtain ⟨rfl, x, y, r, t, rfl, ht, h1, h2⟩ := hz
    cases cd with
    | eq => exact lv_icmp_eq hx hb hd ht (fun z => h1 z lsA H locs hl hP hD hS) (fun z => h2 (z) lsA H locs hl hP hD hS)
    | ne => exact lv_icmp_ne hx hb hd ht (fun z => h1 z lsA H locs hl hP hD hS) (fun z => h2 (fun w => w z) lsA H locs hl hP hD hS)
    | lt => exact lv_icmp_lt hx hb hd ht (fun z => h1 z lsA H locs hl hP hD hS) (fun z => h2 (z) lsA H locs hl hP hD hS)
    | ge => exact lv_icmp_ge hx hb hd ht (fun z => h1 z lsA H locs hl hP hD hS) (fun z => h2 (z) lsA H locs hl hP hD hS)
    | gt => exact lv_icmp_gt hx hb hd ht (fun z => h1 z lsA H locs hl hP hD hS) (fun z => h2 (z) lsA H locs hl hP hD hS)
    | le => exact lv_icmp_le hx hb hd ht (fun z => h1 z lsA H locs hl hP hD hS) (fun z => h2 (z) lsA H locs hl hP hD hS)
  | tableswitch dflt lo hi offs =>
    obtain ⟨x, r, t, rfl, ht, h1, h2⟩ := hz
    by_cases h3 : x.toInt < lo
    · exact lv_tableOut hx hb hd (Or.inl h3) ht (h1 (Or.inl h3) lsA H locs hl hP hD hS)
    · by_cases h4 : hi < x.toInt
      · exact lv_tableOut hx hb hd (Or.inr h4) ht (h1 (Or.inr h4) lsA H locs hl hP hD hS)
      · obtain ⟨off, t2, h5, h6, h7⟩ := h2 h3 h4
        exact lv_tableIn hx hb hd h3 h4 h5 h6 (h7 lsA H locs hl hP hD hS)
  | getfield idx =>
    obtain ⟨rfl, a, r, ci, k, w, n, fs, rfl, hf, hU, h2⟩ := hz
    obtain ⟨pi, hok⟩ := zfG_ok hf
    unfold zfOk at hok
    dsimp only at hok
    split at hok
    · rename_i C T N hcl
      simp only [Bool.and_eq_true, decide_eq_true_eq] at hok
      obtain ⟨⟨hkN, hlink⟩, -⟩ := hok
      have he := zW_get (q := q) (cI := cI) (cZ := cZ) (σ := σ) hU
      have go : ∀ v : Value, ((fs.mapIdx fun j f => match f with
        | some r => Value.ref (q r)
        | none => Value.int (σ a j))[k]? = some v) → W p l e R s m args below meth c H locs cells slots Z (F0 m (pc + 3) lsA (v :: r.map (zc q))) → W p l e R s m args below meth c H locs cells slots Z (F0 m pc lsA (.ref (q a) :: r.map (zc q))) := by
        intro v hv kk
        cases n with
        | true =>
          rw [if_pos rfl] at hlink
          exact va_getN hx hb hts (zinX ci _ hcl) hown hK hP a he hcl k hkN (va_Nw.use rfl (hN _ (zTn_of (by simpa using hlink)) rfl)) (fun x h => h) hv hd kk
        | false =>
          rw [if_neg (by decide)] at hlink
          exact va_get hx hb hts (zinX ci _ hcl) hown hK hP a he hcl k hkN (hts _ (zTs_of hlink)) (fun x h => h) hv hd kk
      rcases h2 with ⟨b, h3, h4⟩ | ⟨h3, h4⟩
      · exact go (.ref (q b)) (by rw [List.getElem?_mapIdx, h3]; rfl) (h4 lsA H locs hl hP hD hS)
      · exact go (.int (σ a k)) (by rw [List.getElem?_mapIdx, h3]; rfl) (h4 lsA H locs hl hP hD hS)
    · cases hok
  | putfield idx =>
    obtain ⟨rfl, x, a, r, ci, k, fs, rfl, hf, hU, h3, h2⟩ := hz
    obtain ⟨pi, hok⟩ := zfG_ok hf
    unfold zfOk at hok
    dsimp only at hok
    split at hok
    · rename_i C T N hcl
      simp only [Bool.and_eq_true, decide_eq_true_eq, Bool.not_true, Bool.false_or] at hok
      obtain ⟨⟨hkN, hlink⟩, hI, hfin⟩ := hok
      rw [if_neg (by decide)] at hlink
      have he := zW_get (q := q) (cI := cI) (cZ := cZ) (σ := σ) hU
      obtain ⟨ty0, hty, hnm⟩ := zty ci _ hcl
      have e1 := zW_set (q := q) (cI := cI) (cZ := cZ) (σ' := zput σ a k x) hU (fun j hj => zput_off j hj)
      rw [zE_put_f h3] at e1
      refine va_put hx hb hts (zinX ci _ hcl) ty0 hty hnm hown hK hP hD hS a he hcl k hkN (hts _ (zTs_of hlink)) (fun x h => h) hfin (ty := .int) (by rw [hI]; decide +kernel) rfl rfl (by rw [List.length_mapIdx]; exact (List.getElem?_eq_some_iff.mp h3).1) hd (fun H1 locs1 hP1 hD1 hS1 => ?_)
      rw [show zc q (.int x) = .int x from rfl, e1] at hP1 hD1
      exact h2 lsA H1 locs1 hl hP1 hD1 hS1
    · cases hok
  | iaload =>
    obtain ⟨rfl, j, a, r, rfl, h2⟩ := hz
    rcases h2 with ⟨n, hU, hin, h3⟩ | ⟨L, xs, hU, hsc, hin, h3⟩
    · have he : (zW q cI cZ U σ)[a]? = some (q a, .inl (cI, n, .inl (σ a))) := zW_get hU
      exact va_iald hx hb hK hP a 0 he rfl hin hd (h3 lsA H locs hl hP hD hS)
    · obtain ⟨g1, g2, g3⟩ := hX _ _ _ hsc
      exact va_sld hx hb g1 g2 g3 hS hin hd (h3 lsA H locs hl hP hD hS)
  | baload =>
    obtain ⟨rfl, j, a, r, n, rfl, hU, hin, h3⟩ := hz
    have he : (zW q cI cZ U σ)[a]? = some (q a, .inl (cZ, n, .inl (σ a))) := zW_get hU
    exact va_zald hx hb hK hP a 1 he rfl hin hd (h3 lsA H locs hl hP hD hS)
  | iastore =>
    obtain ⟨rfl, x, j, a, r, n, rfl, hU, hin, h3⟩ := hz
    have he : (zW q cI cZ U σ)[a]? = some (q a, .inl (cI, n, .inl (σ a))) := zW_get hU
    have e1 := zW_set (q := q) (cI := cI) (cZ := cZ) (σ' := zput σ a j.toNatClampNeg x) hU (fun j hj => zput_off j hj)
    rw [zE_put_a] at e1
    refine va_iast hx hb hK hP hD hS a 0 he rfl hin hd (fun H1 locs1 hP1 hD1 hS1 => ?_)
    rw [show (zW q cI cZ U σ).set a (q a, .inl (cI, n, .inl (upd (σ a) j.toNatClampNeg x))) = zW q cI cZ U (zput σ a j.toNatClampNeg x) from e1] at hP1 hD1
    exact h3 lsA H1 locs1 hl hP1 hD1 hS1
  | bastore =>
    obtain ⟨rfl, x, j, a, r, n, rfl, hU, hin, h3⟩ := hz
    have he : (zW q cI cZ U σ)[a]? = some (q a, .inl (cZ, n, .inl (σ a))) := zW_get hU
    have e1 := zW_set (q := q) (cI := cI) (cZ := cZ) (σ' := zput σ a j.toNatClampNeg (vp_nar .boolean x)) hU (fun j hj => zput_off j hj)
    rw [zE_put_a] at e1
    refine va_zast hx hb hK hP hD hS a 1 he rfl hin hd (fun H1 locs1 hP1 hD1 hS1 => ?_)
    rw [show (zW q cI cZ U σ).set a (q a, .inl (cZ, n, .inl (upd (σ a) j.toNatClampNeg (vp_nar .boolean x)))) = zW q cI cZ U (zput σ a j.toNatClampNeg (vp_nar .boolean x)) from e1] at hP1 hD1
    exact h3 lsA H1 locs1 hl hP1 hD1 hS1
  | arraylength =>
    obtain ⟨rfl, a, r, rfl, h2⟩ := hz
    rcases h2 with ⟨b, n, hU, h3⟩ | ⟨L, xs, hU, hsc, h3⟩
    · cases b with
      | true =>
        have he : (zW q cI cZ U σ)[a]? = some (q a, .inl (cZ, n, .inl (σ a))) := zW_get hU
        exact va_alen hx hb hK hP a 1 he rfl rfl hd (h3 lsA H locs hl hP hD hS)
      | false =>
        have he : (zW q cI cZ U σ)[a]? = some (q a, .inl (cI, n, .inl (σ a))) := zW_get hU
        exact va_alen hx hb hK hP a 0 he rfl rfl hd (h3 lsA H locs hl hP hD hS)
    · obtain ⟨g1, g2, g3⟩ := hX _ _ _ hsc
      exact va_slen hx hb g1 g2 g3 hS hd (h3 lsA H locs hl hP hD hS)
  | ireturn =>
    obtain ⟨rfl, v, ty, rfl, h1, h2, h3⟩ := hz
    exact (E H locs pc lsA σ hP hD hS).1 v ty hd h1 h2 h3
  | lreturn =>
    obtain ⟨rfl, v, rfl, h1, h3⟩ := hz
    exact (E H locs pc lsA σ hP hD hS).2.1 v hd h1 h3
  | return_ =>
    obtain ⟨rfl, rfl, h1, h3⟩ := hz
    exact (E H locs pc lsA σ hP hD hS).2.2 hd h1 h3
  | invokevirtual idx =>
    obtain ⟨rfl, y, k, a, r, As, ci, fs, hm, hk, rfl, hU, hnm, hcat, hcall⟩ := hz
    obtain ⟨pi, hok⟩ := zmG_ok hm
    obtain ⟨cc', nL', ret', rm, hkG, r1, r2, r3, r4, hM⟩ := hC y _ σ _ hcall
    obtain ⟨hcw, hpl, hn16⟩ := zkG_ok hkG
    obtain ⟨x, hcl', hxn⟩ := zNames_at hnm
    have hrecv := va_recv hK hP hcl' (zW_get (q := q) (cI := cI) (cZ := cZ) (σ := σ) hU)
    rw [hxn] at hrecv
    have hpre : PreV s H y.cls (q a) (zPre D q cI cZ U (.ref a :: As) σ H.size) (As.map (zc q)) := ⟨zPre_blind, hrecv, zPre_of hP hD hK hN⟩
    have hst : (F0 m pc lsA ((As.reverse ++ Value.ref a :: r).map (zc q))).stack = (As.map (zc q)).reverse ++ .ref (q a) :: r.map (zc q) := by simp [zc]
    have hlast : ∀ (v : Option Value) (σ' : zV) (H1 : Heap) (locs1 : List Loc), (∀ (lsA : Array Slot) (H : Heap) (locs : List Loc), lv_has lsA nL (zl q 0 ls) → va_P D vwCl (zW q cI cZ U σ') H → va_D A (zW q cI cZ U σ') → va_S A s.heap H locs → W p l e R s m args below meth c H locs cells slots Z (F0 m (pc + 3) lsA ((v.toList ++ r).map (zc q)))) → va_P D vwCl (zW q cI cZ U σ') H1 → va_D A (zW q cI cZ U σ') → va_S A s.heap H1 locs1 → W p l e R s m args below meth c H1 locs1 cells slots Z (F0 m (pc + 3) lsA ((v.map (zc q)).toList ++ r.map (zc q))) := by
      intro v σ' H1 locs1 h hP1 hD1 hS1
      have h1 := h lsA H1 locs1 hl hP1 hD1 hS1
      cases v <;> exact h1
    unfold zmOk at hok
    dsimp only at hok
    simp only [Bool.and_eq_true, decide_eq_true_eq] at hok
    obtain ⟨⟨⟨hy1, hy2⟩, hpd, hini⟩, hok⟩ := hok
    have hini' := zTs_of hini
    match k, hk, hok with
    | 0, _, hok =>
      simp only [Bool.and_eq_true] at hok
      obtain ⟨⟨g1, g2⟩, g3⟩ := hok
      have hG : GoodIn zTs (wsV own idx y.cls y (.code y cc' nL' ret' :: zTs)) := zgoodA (zgoodL (by
        intro w hw
        simp only [List.mem_cons, List.not_mem_nil, or_false] at hw
        rcases hw with rfl | rfl | rfl | rfl
        · exact zTs_of g1
        · exact zTs_of g2
        · exact zTs_of g3
        · exact hini')) (zgood hcw)
      exact zback (va_runV (As := As.map (zc q)) (rest := r.map (zc q)) ⟨hx, hb, hml, hown, hts⟩ (hM H.size) (cwV As.length hts hG rfl r3 r4 ⟨rfl, hy1, hy2, hpd⟩ ⟨r1, r2⟩) hpre rfl (by simp) hl.1 hst (lv_room (zcat_q hcat)) hd ⟨hcl, hsl⟩) hD hS hA hlast
    | 1, _, hok =>
      simp only [Bool.and_eq_true] at hok
      obtain ⟨⟨g1, g2⟩, g3⟩ := hok
      exact zback (va_runVN (As := As.map (zc q)) (rest := r.map (zc q)) ⟨hx, hb, hml, hown, hts⟩ (hM H.size) ⟨va_cnB As.length hts (zgood hcw) rfl r3 r4 (hN _ (zTn_of g1) rfl) (hts _ hini') ⟨hy1, hy2, hpd⟩ ⟨r1, r2⟩, hts _ (zTs_of g2), hts _ (zTs_of g3)⟩ hpre rfl (by simp) hl.1 hst (lv_room (zcat_q hcat)) hd ⟨hcl, hsl⟩) hD hS hA hlast
  | invokestatic idx =>
    obtain ⟨rfl, h2⟩ := hz
    rcases h2 with ⟨y, r, As, hm, rfl, hcat, hcall⟩ | ⟨y, a, a0, n0, n1, sp, dp, n, r, hm, rfl, hcat, hU0, hU1, z1, z2, z3, z4, z5, h3⟩ | ⟨y, x1, x2, r, hm, rfl, hcat, h3⟩
    · obtain ⟨pi, hok⟩ := zmG_ok hm
      obtain ⟨cc', nL', ret', rm, hkG, r1, r2, r3, r4, hM⟩ := hC y _ σ _ hcall
      obtain ⟨hcw, hpl, hn16⟩ := zkG_ok hkG
      have hpre : PreS s H (zPre D q cI cZ U As σ H.size) (As.map (zc q)) := ⟨zPre_blind, zPre_of hP hD hK hN⟩
      have hst : (F0 m pc lsA ((As.reverse ++ r).map (zc q))).stack = (As.map (zc q)).reverse ++ r.map (zc q) := by simp
      have hlast : ∀ (v : Option Value) (σ' : zV) (H1 : Heap) (locs1 : List Loc), (∀ (lsA : Array Slot) (H : Heap) (locs : List Loc), lv_has lsA nL (zl q 0 ls) → va_P D vwCl (zW q cI cZ U σ') H → va_D A (zW q cI cZ U σ') → va_S A s.heap H locs → W p l e R s m args below meth c H locs cells slots Z (F0 m (pc + 3) lsA ((v.toList ++ r).map (zc q)))) → va_P D vwCl (zW q cI cZ U σ') H1 → va_D A (zW q cI cZ U σ') → va_S A s.heap H1 locs1 → W p l e R s m args below meth c H1 locs1 cells slots Z (F0 m (pc + 3) lsA ((v.map (zc q)).toList ++ r.map (zc q))) := by
        intro v σ' H1 locs1 h hP1 hD1 hS1
        have h1 := h lsA H1 locs1 hl hP1 hD1 hS1
        cases v <;> exact h1
      unfold zmOk at hok
      dsimp only at hok
      simp only [Bool.and_eq_true, decide_eq_true_eq] at hok
      obtain ⟨⟨⟨hy1, hy2⟩, hpd, hini⟩, g1, g2⟩ := hok
      have hini' := zTs_of hini
      have hG : GoodIn zTs (va_wsS own idx y (.code y cc' nL' ret' :: zTs)) := zgoodA (zgoodL (by
        intro w hw
        simp only [List.mem_cons, List.not_mem_nil, or_false] at hw
        rcases hw with rfl | rfl | rfl
        · exact zTs_of g1
        · exact zTs_of g2
        · exact hini')) (zgood hcw)
      exact zback (va_runS (As := As.map (zc q)) (rest := r.map (zc q)) ⟨hx, hb, hml, hown, hts⟩ (hM H.size) (va_cwS As.length hts hG rfl r3 r4 ⟨hy1, hy2, hpd⟩ ⟨r1, r2⟩) hpre rfl (by simp) hl.1 hst (lv_room (zcat_q hcat)) hd ⟨hcl, hsl⟩) hD hS hA hlast
    · obtain ⟨pi, hok⟩ := zmG_ok hm
      unfold zmOk at hok
      dsimp only at hok
      simp only [Bool.and_eq_true, decide_eq_true_eq] at hok
      obtain ⟨⟨⟨hy1, hy2⟩, hpd, hini⟩, ⟨⟨g0, g1⟩, g2⟩, g3⟩ := hok
      subst g0
      have he0 : (zW q cI cZ U σ)[a0]? = some (q a0, .inl (cI, n0, .inl (σ a0))) := zW_get hU0
      have he1 : (zW q cI cZ U σ)[a]? = some (q a, .inl (cI, n1, .inl (σ a))) := zW_get hU1
      have e1 := zW_set (q := q) (cI := cI) (cZ := cZ) (σ := σ) (σ' := va_up σ a (va_cpy (σ a0) (σ a) sp.toNatClampNeg dp.toNatClampNeg n.toNatClampNeg)) hU1 (fun j hj => by simp [va_up, hj])
      have e2 : zE q cI cZ (va_up σ a (va_cpy (σ a0) (σ a) sp.toNatClampNeg dp.toNatClampNeg n.toNatClampNeg)) a (.inl (false, n1)) = .inl (cI, n1, .inl (va_cpy (σ a0) (σ a) sp.toNatClampNeg dp.toNatClampNeg n.toNatClampNeg)) := by simp [zE, va_up]
      rw [e2] at e1
      have hroom : nativeFrameWords "java/lang/System" "arraycopy" 5 = 7 := by decide +kernel
      have hz8 : ((r.map (zc q)).map fun v => v.category).sum ≤ 8 := zcat_q hcat
      refine va_copyi hx hb (hml.trans hl.1.symm) hown (hts _ (zTs_of g1)) (hts _ (zTs_of g3)) (hts _ (zTs_of g2)) (hts _ (zTs_of hini)) hK hP hD hS a0 a 0 0 he0 he1 rfl rfl rfl z1 z2 z3 z4 z5 (fun _ _ => rfl) hfr (by rw [hroom]; omega) hd (fun H1 locs1 hP1 hD1 hS1 => ?_)
      rw [e1] at hP1 hD1
      exact h3 lsA H1 locs1 hl hP1 hD1 hS1
    · obtain ⟨pi, hok⟩ := zmG_ok hm
      unfold zmOk at hok
      dsimp only at hok
      simp only [Bool.and_eq_true, decide_eq_true_eq] at hok
      obtain ⟨⟨⟨hy1, hy2⟩, hpd, hini⟩, ⟨⟨g0, g1⟩, g2⟩, g3⟩ := hok
      subst g0
      have hz8 : ((r.map (zc q)).map fun v => v.category).sum ≤ 8 := zcat_q hcat
      exact va_mmax hx hb (hml.trans hl.1.symm) hown (hts _ (zTs_of g1)) (hts _ (zTs_of g2)) (hts _ (zTs_of hini)) (hts _ (zTs_of g3)) hfr (by omega) hcl hsl hd (h3 lsA H locs hl hP hD hS)
  | _ => exact False.elim hz
end ZS
/-- a method's call, as a contract -/
def zRm (d : Nat) : Room := { frames := d, cells := 0, slots := 0, locals := 36 * d }
set_option maxHeartbeats 4000000 in
theorem zmet (l : Launch) (D : va_G) (q : Nat → Nat) (cI cZ : ClassId) (U : zU) (d : Nat) : ∀ y as σ Q, zCall U d y as σ Q → ∃ cc nL ret, zkG y = some (cc, nL, ret) ∧ nL ≤ 16 ∧ ∀ sz, Met l y (.code y cc nL ret :: zTs) (zRm d) (zPre D q cI cZ U as σ sz) (zPost D q cI cZ U Q (va_A (zW q cI cZ U σ) sz)) 0 0 (va_A (zW q cI cZ U σ) sz) := by
  induction d with
  | zero => intro y as σ Q h; exact False.elim h
  | succ d ih =>
    intro y as σ Q h
    obtain ⟨cc, nL, ret, hk, hlen, hEv⟩ := h
    obtain ⟨hcw, hpl, hn16⟩ := zkG_ok hk
    refine ⟨cc, nL, ret, hk, hn16, fun sz => ?_⟩
    refine Met.ofW (cc := cc) (maxL := nL) (ret := ret) hpl rfl ?_
    intro p e s m args below meth c s₁ B hml hv
    obtain ⟨rfl, hsz, hP, hK, hD0, hN⟩ := hv
    have hts := atoms_spec (ws := .code y cc nL ret :: zTs) B.pre
    have hown : s.vm.findClass y.cls = some m.cls := findClass_of_methodNamed B.named
    subst hsz
    have hD := hD0.self (sz := s.heap.size)
    generalize hAe : va_A (zW q cI cZ U σ) s.heap.size = A at hD ⊢
    have hA : ∀ q : Nat, s.heap.size ≤ q → A q := fun q h => by rw [← hAe]; exact Or.inr h
    have hl := lv_entry (as.map (zc q)) (n := nL) (by rw [zia_len]; exact hlen)
    rw [lg_entry_eq]
    generalize (lg_sl (as.map (zc q)) ++ List.replicate (nL - (lg_sl (as.map (zc q))).length) Slot.unset).toArray = ls at hl ⊢
    have F : zFix p l (zRm (d + 1)) s m (as.map (zc q)).toArray c 0 0 cc nL y.cls D q cI cZ A U none (zCall U d) := by
      refine ⟨B.exec, B.bytes, hml, hown, fun w hw => hts w (List.mem_cons_of_mem _ hw), hN, hK, hA, Nat.le_refl _, Nat.le_refl _, ?_, ?_, ?_, fun k L xs h => by cases h⟩
      · show 1 ≤ d + 1
        omega
      · show 36 ≤ 36 * (d + 1)
        omega
      · intro y' as' σ' Q' h'
        obtain ⟨cc', nL', ret', g1, g2, g3⟩ := ih y' as' σ' Q' h'
        refine ⟨cc', nL', ret', zRm d, g1, Nat.le_refl _, ?_, rfl, rfl, g3⟩
        show 8 + (nL' + 11) + 36 * d ≤ 36 * (d + 1)
        omega
    have E : zEnd p l e (zRm (d + 1)) s m (as.map (zc q)).toArray below meth c 0 0 (MQ below (zPost D q cI cZ U Q A) (as.map (zc q)).toArray s 0 0 A) cc ret D q cI cZ A U Q := by
      intro H locs pc lsA σ' hP' hD' hS'
      have hlocks := B.notSynchronized
      refine ⟨fun v ty hd h1 h2 h3 => ?_, fun v hd h1 h3 => ?_, fun hd h1 h3 => ?_⟩
      · exact W.zret B.exec B.bytes (by rw [B.returns]; exact h1) h2 (fun t ht hW => ⟨⟨some (.int v), σ', rfl, h3, by rw [ht]; exact hP', hD'⟩, hS'.F ht⟩) hS'.2.2 hd
      · exact W.lret B.exec B.bytes (by rw [B.returns]; exact h1) (fun t ht hW => ⟨⟨some (.long v), σ', rfl, h3, by rw [ht]; exact hP', hD'⟩, hS'.F ht⟩) hS'.2.2 hd
      · exact W.vret B.exec B.bytes (by rw [B.returns]; exact h1) (fun t ht hW => ⟨⟨none, σ', rfl, h3, by rw [ht]; exact hP', hD'⟩, hS'.F ht⟩) hS'.2.2 hd
    exact zsound F E 0 (zin nL as) [] σ hEv ls s.heap [] (zin_has hl) hP hD va_S.rf
end
