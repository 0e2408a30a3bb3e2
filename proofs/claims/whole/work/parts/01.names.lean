-- ===== PART A: goes FIRST, ahead of the names: the tables' words, and 'selects' of the private methods out of them =====
/-- a private method of a class that the tables say can be made, by its rows of tables_1 -/
def lw_okq (q : MethodName × Nat) : Prop := (q.1.cls ≠ "java/lang/invoke/MethodHandle" ∧ q.1.cls ≠ "java/lang/invoke/VarHandle") ∧ Cond.instantiable q.1.cls q.2 ∈ tables_1 ∧ Cond.privateMethod q.1 ∈ tables_1 ∧ Cond.instanceMethod q.1 ∈ tables_1
theorem lw_p0 : lw_okq (⟨"ShootDown", "startAgain", "(I)V"⟩, 15) := ⟨⟨by decide +kernel, by decide +kernel⟩, List.mem_of_getElem? (i := 13) (by decide +kernel), List.mem_of_getElem? (i := 141) (by decide +kernel), List.mem_of_getElem? (i := 142) (by decide +kernel)⟩
theorem lw_p1 : lw_okq (⟨"ShootDown$Tables", "startAgain", "()V"⟩, 4) := ⟨⟨by decide +kernel, by decide +kernel⟩, List.mem_of_getElem? (i := 21) (by decide +kernel), List.mem_of_getElem? (i := 145) (by decide +kernel), List.mem_of_getElem? (i := 146) (by decide +kernel)⟩
theorem lw_p2 : lw_okq (⟨"ShootDown$Crew", "startAgain", "()V"⟩, 4) := ⟨⟨by decide +kernel, by decide +kernel⟩, List.mem_of_getElem? (i := 42) (by decide +kernel), List.mem_of_getElem? (i := 152) (by decide +kernel), List.mem_of_getElem? (i := 153) (by decide +kernel)⟩
theorem lw_p3 : lw_okq (⟨"ShootDown$Memories", "startAgain", "()V"⟩, 5) := ⟨⟨by decide +kernel, by decide +kernel⟩, List.mem_of_getElem? (i := 65) (by decide +kernel), List.mem_of_getElem? (i := 157) (by decide +kernel), List.mem_of_getElem? (i := 158) (by decide +kernel)⟩
theorem lw_p4 : lw_okq (⟨"ShootDown$Queues", "startAgain", "()V"⟩, 2) := ⟨⟨by decide +kernel, by decide +kernel⟩, List.mem_of_getElem? (i := 88) (by decide +kernel), List.mem_of_getElem? (i := 162) (by decide +kernel), List.mem_of_getElem? (i := 163) (by decide +kernel)⟩
theorem lw_p5 : lw_okq (⟨"ShootDown$Shoots", "startAgain", "()V"⟩, 8) := ⟨⟨by decide +kernel, by decide +kernel⟩, List.mem_of_getElem? (i := 102) (by decide +kernel), List.mem_of_getElem? (i := 167) (by decide +kernel), List.mem_of_getElem? (i := 168) (by decide +kernel)⟩
theorem lw_p6 : lw_okq (⟨"ShootDown$Tables", "entryNow", "(II)I"⟩, 4) := ⟨⟨by decide +kernel, by decide +kernel⟩, List.mem_of_getElem? (i := 21) (by decide +kernel), List.mem_of_getElem? (i := 234) (by decide +kernel), List.mem_of_getElem? (i := 235) (by decide +kernel)⟩
theorem lw_p7 : lw_okq (⟨"ShootDown$Tables", "entryKept", "(III)I"⟩, 4) := ⟨⟨by decide +kernel, by decide +kernel⟩, List.mem_of_getElem? (i := 21) (by decide +kernel), List.mem_of_getElem? (i := 241) (by decide +kernel), List.mem_of_getElem? (i := 242) (by decide +kernel)⟩
theorem lw_p8 : lw_okq (⟨"ShootDown$Tables", "change", "(IIII)V"⟩, 4) := ⟨⟨by decide +kernel, by decide +kernel⟩, List.mem_of_getElem? (i := 21) (by decide +kernel), List.mem_of_getElem? (i := 248) (by decide +kernel), List.mem_of_getElem? (i := 249) (by decide +kernel)⟩
theorem lw_p9 : lw_okq (⟨"ShootDown", "isCore", "(I)Z"⟩, 15) := ⟨⟨by decide +kernel, by decide +kernel⟩, List.mem_of_getElem? (i := 13) (by decide +kernel), List.mem_of_getElem? (i := 263) (by decide +kernel), List.mem_of_getElem? (i := 264) (by decide +kernel)⟩
theorem lw_p10 : lw_okq (⟨"ShootDown", "isFree", "(I)Z"⟩, 15) := ⟨⟨by decide +kernel, by decide +kernel⟩, List.mem_of_getElem? (i := 13) (by decide +kernel), List.mem_of_getElem? (i := 267) (by decide +kernel), List.mem_of_getElem? (i := 268) (by decide +kernel)⟩
theorem lw_p11 : lw_okq (⟨"ShootDown", "takeAllCalls", "(I)I"⟩, 15) := ⟨⟨by decide +kernel, by decide +kernel⟩, List.mem_of_getElem? (i := 13) (by decide +kernel), List.mem_of_getElem? (i := 271) (by decide +kernel), List.mem_of_getElem? (i := 272) (by decide +kernel)⟩
theorem lw_p12 : lw_okq (⟨"ShootDown", "takeFirstCall", "(I)I"⟩, 15) := ⟨⟨by decide +kernel, by decide +kernel⟩, List.mem_of_getElem? (i := 13) (by decide +kernel), List.mem_of_getElem? (i := 275) (by decide +kernel), List.mem_of_getElem? (i := 276) (by decide +kernel)⟩
theorem lw_p13 : lw_okq (⟨"ShootDown$Queues", "removeFirst", "(I)I"⟩, 2) := ⟨⟨by decide +kernel, by decide +kernel⟩, List.mem_of_getElem? (i := 88) (by decide +kernel), List.mem_of_getElem? (i := 279) (by decide +kernel), List.mem_of_getElem? (i := 280) (by decide +kernel)⟩
theorem lw_p14 : lw_okq (⟨"ShootDown$Shoots", "isBegun", "(I)Z"⟩, 8) := ⟨⟨by decide +kernel, by decide +kernel⟩, List.mem_of_getElem? (i := 102) (by decide +kernel), List.mem_of_getElem? (i := 284) (by decide +kernel), List.mem_of_getElem? (i := 285) (by decide +kernel)⟩
theorem lw_p15 : lw_okq (⟨"ShootDown$Memories", "forget", "(III)I"⟩, 5) := ⟨⟨by decide +kernel, by decide +kernel⟩, List.mem_of_getElem? (i := 65) (by decide +kernel), List.mem_of_getElem? (i := 288) (by decide +kernel), List.mem_of_getElem? (i := 289) (by decide +kernel)⟩
def lw_privs_1 : List (MethodName × Nat) := [(⟨"ShootDown", "startAgain", "(I)V"⟩, 15), (⟨"ShootDown$Tables", "startAgain", "()V"⟩, 4), (⟨"ShootDown$Crew", "startAgain", "()V"⟩, 4), (⟨"ShootDown$Memories", "startAgain", "()V"⟩, 5), (⟨"ShootDown$Queues", "startAgain", "()V"⟩, 2), (⟨"ShootDown$Shoots", "startAgain", "()V"⟩, 8), (⟨"ShootDown$Tables", "entryNow", "(II)I"⟩, 4), (⟨"ShootDown$Tables", "entryKept", "(III)I"⟩, 4), (⟨"ShootDown$Tables", "change", "(IIII)V"⟩, 4), (⟨"ShootDown", "isCore", "(I)Z"⟩, 15), (⟨"ShootDown", "isFree", "(I)Z"⟩, 15), (⟨"ShootDown", "takeAllCalls", "(I)I"⟩, 15), (⟨"ShootDown", "takeFirstCall", "(I)I"⟩, 15), (⟨"ShootDown$Queues", "removeFirst", "(I)I"⟩, 2), (⟨"ShootDown$Shoots", "isBegun", "(I)Z"⟩, 8), (⟨"ShootDown$Memories", "forget", "(III)I"⟩, 5)]
theorem lw_r1 : ∀ q ∈ lw_privs_1, lw_okq q := List.forall_mem_cons.mpr ⟨lw_p0, List.forall_mem_cons.mpr ⟨lw_p1, List.forall_mem_cons.mpr ⟨lw_p2, List.forall_mem_cons.mpr ⟨lw_p3, List.forall_mem_cons.mpr ⟨lw_p4, List.forall_mem_cons.mpr ⟨lw_p5, List.forall_mem_cons.mpr ⟨lw_p6, List.forall_mem_cons.mpr ⟨lw_p7, List.forall_mem_cons.mpr ⟨lw_p8, List.forall_mem_cons.mpr ⟨lw_p9, List.forall_mem_cons.mpr ⟨lw_p10, List.forall_mem_cons.mpr ⟨lw_p11, List.forall_mem_cons.mpr ⟨lw_p12, List.forall_mem_cons.mpr ⟨lw_p13, List.forall_mem_cons.mpr ⟨lw_p14, List.forall_mem_cons.mpr ⟨lw_p15, fun _ h => absurd h List.not_mem_nil⟩⟩⟩⟩⟩⟩⟩⟩⟩⟩⟩⟩⟩⟩⟩⟩
theorem lw_p16 : lw_okq (⟨"ShootDown$Memories", "isOf", "(IIII)Z"⟩, 5) := ⟨⟨by decide +kernel, by decide +kernel⟩, List.mem_of_getElem? (i := 65) (by decide +kernel), List.mem_of_getElem? (i := 292) (by decide +kernel), List.mem_of_getElem? (i := 293) (by decide +kernel)⟩
theorem lw_p17 : lw_okq (⟨"ShootDown$Memories", "spaceNoted", "(II)I"⟩, 5) := ⟨⟨by decide +kernel, by decide +kernel⟩, List.mem_of_getElem? (i := 65) (by decide +kernel), List.mem_of_getElem? (i := 296) (by decide +kernel), List.mem_of_getElem? (i := 297) (by decide +kernel)⟩
theorem lw_p18 : lw_okq (⟨"ShootDown$Memories", "pageNoted", "(II)I"⟩, 5) := ⟨⟨by decide +kernel, by decide +kernel⟩, List.mem_of_getElem? (i := 65) (by decide +kernel), List.mem_of_getElem? (i := 300) (by decide +kernel), List.mem_of_getElem? (i := 301) (by decide +kernel)⟩
theorem lw_p19 : lw_okq (⟨"ShootDown$Memories", "move", "(III)V"⟩, 5) := ⟨⟨by decide +kernel, by decide +kernel⟩, List.mem_of_getElem? (i := 65) (by decide +kernel), List.mem_of_getElem? (i := 304) (by decide +kernel), List.mem_of_getElem? (i := 305) (by decide +kernel)⟩
theorem lw_p20 : lw_okq (⟨"ShootDown$Crew", "raiseGeneration", "(III)V"⟩, 4) := ⟨⟨by decide +kernel, by decide +kernel⟩, List.mem_of_getElem? (i := 42) (by decide +kernel), List.mem_of_getElem? (i := 308) (by decide +kernel), List.mem_of_getElem? (i := 309) (by decide +kernel)⟩
theorem lw_p21 : lw_okq (⟨"ShootDown$Shoots", "waitNoMore", "(II)V"⟩, 8) := ⟨⟨by decide +kernel, by decide +kernel⟩, List.mem_of_getElem? (i := 102) (by decide +kernel), List.mem_of_getElem? (i := 315) (by decide +kernel), List.mem_of_getElem? (i := 316) (by decide +kernel)⟩
theorem lw_p22 : lw_okq (⟨"ShootDown$Shoots", "isDone", "(I)Z"⟩, 8) := ⟨⟨by decide +kernel, by decide +kernel⟩, List.mem_of_getElem? (i := 102) (by decide +kernel), List.mem_of_getElem? (i := 319) (by decide +kernel), List.mem_of_getElem? (i := 320) (by decide +kernel)⟩
theorem lw_p23 : lw_okq (⟨"ShootDown", "catchUp", "(I)I"⟩, 15) := ⟨⟨by decide +kernel, by decide +kernel⟩, List.mem_of_getElem? (i := 13) (by decide +kernel), List.mem_of_getElem? (i := 323) (by decide +kernel), List.mem_of_getElem? (i := 324) (by decide +kernel)⟩
theorem lw_p24 : lw_okq (⟨"ShootDown", "isBehind", "(II)Z"⟩, 15) := ⟨⟨by decide +kernel, by decide +kernel⟩, List.mem_of_getElem? (i := 13) (by decide +kernel), List.mem_of_getElem? (i := 327) (by decide +kernel), List.mem_of_getElem? (i := 328) (by decide +kernel)⟩
theorem lw_p25 : lw_okq (⟨"ShootDown$Crew", "generation", "(II)I"⟩, 4) := ⟨⟨by decide +kernel, by decide +kernel⟩, List.mem_of_getElem? (i := 42) (by decide +kernel), List.mem_of_getElem? (i := 331) (by decide +kernel), List.mem_of_getElem? (i := 332) (by decide +kernel)⟩
theorem lw_p26 : lw_okq (⟨"ShootDown$Memories", "find", "(III)I"⟩, 5) := ⟨⟨by decide +kernel, by decide +kernel⟩, List.mem_of_getElem? (i := 65) (by decide +kernel), List.mem_of_getElem? (i := 347) (by decide +kernel), List.mem_of_getElem? (i := 348) (by decide +kernel)⟩
theorem lw_p27 : lw_okq (⟨"ShootDown", "walkTable", "(IIIZ)I"⟩, 15) := ⟨⟨by decide +kernel, by decide +kernel⟩, List.mem_of_getElem? (i := 13) (by decide +kernel), List.mem_of_getElem? (i := 351) (by decide +kernel), List.mem_of_getElem? (i := 352) (by decide +kernel)⟩
theorem lw_p28 : lw_okq (⟨"ShootDown$Memories", "keep", "(IIIII)V"⟩, 5) := ⟨⟨by decide +kernel, by decide +kernel⟩, List.mem_of_getElem? (i := 65) (by decide +kernel), List.mem_of_getElem? (i := 358) (by decide +kernel), List.mem_of_getElem? (i := 359) (by decide +kernel)⟩
theorem lw_p29 : lw_okq (⟨"ShootDown$Memories", "entryNoted", "(II)I"⟩, 5) := ⟨⟨by decide +kernel, by decide +kernel⟩, List.mem_of_getElem? (i := 65) (by decide +kernel), List.mem_of_getElem? (i := 366) (by decide +kernel), List.mem_of_getElem? (i := 367) (by decide +kernel)⟩
theorem lw_p30 : lw_okq (⟨"ShootDown", "goByNote", "(II)I"⟩, 15) := ⟨⟨by decide +kernel, by decide +kernel⟩, List.mem_of_getElem? (i := 13) (by decide +kernel), List.mem_of_getElem? (i := 370) (by decide +kernel), List.mem_of_getElem? (i := 371) (by decide +kernel)⟩
theorem lw_p31 : lw_okq (⟨"ShootDown", "isStale", "(II)Z"⟩, 15) := ⟨⟨by decide +kernel, by decide +kernel⟩, List.mem_of_getElem? (i := 13) (by decide +kernel), List.mem_of_getElem? (i := 374) (by decide +kernel), List.mem_of_getElem? (i := 375) (by decide +kernel)⟩
def lw_privs_2 : List (MethodName × Nat) := [(⟨"ShootDown$Memories", "isOf", "(IIII)Z"⟩, 5), (⟨"ShootDown$Memories", "spaceNoted", "(II)I"⟩, 5), (⟨"ShootDown$Memories", "pageNoted", "(II)I"⟩, 5), (⟨"ShootDown$Memories", "move", "(III)V"⟩, 5), (⟨"ShootDown$Crew", "raiseGeneration", "(III)V"⟩, 4), (⟨"ShootDown$Shoots", "waitNoMore", "(II)V"⟩, 8), (⟨"ShootDown$Shoots", "isDone", "(I)Z"⟩, 8), (⟨"ShootDown", "catchUp", "(I)I"⟩, 15), (⟨"ShootDown", "isBehind", "(II)Z"⟩, 15), (⟨"ShootDown$Crew", "generation", "(II)I"⟩, 4), (⟨"ShootDown$Memories", "find", "(III)I"⟩, 5), (⟨"ShootDown", "walkTable", "(IIIZ)I"⟩, 15), (⟨"ShootDown$Memories", "keep", "(IIIII)V"⟩, 5), (⟨"ShootDown$Memories", "entryNoted", "(II)I"⟩, 5), (⟨"ShootDown", "goByNote", "(II)I"⟩, 15), (⟨"ShootDown", "isStale", "(II)Z"⟩, 15)]
theorem lw_r2 : ∀ q ∈ lw_privs_2, lw_okq q := List.forall_mem_cons.mpr ⟨lw_p16, List.forall_mem_cons.mpr ⟨lw_p17, List.forall_mem_cons.mpr ⟨lw_p18, List.forall_mem_cons.mpr ⟨lw_p19, List.forall_mem_cons.mpr ⟨lw_p20, List.forall_mem_cons.mpr ⟨lw_p21, List.forall_mem_cons.mpr ⟨lw_p22, List.forall_mem_cons.mpr ⟨lw_p23, List.forall_mem_cons.mpr ⟨lw_p24, List.forall_mem_cons.mpr ⟨lw_p25, List.forall_mem_cons.mpr ⟨lw_p26, List.forall_mem_cons.mpr ⟨lw_p27, List.forall_mem_cons.mpr ⟨lw_p28, List.forall_mem_cons.mpr ⟨lw_p29, List.forall_mem_cons.mpr ⟨lw_p30, List.forall_mem_cons.mpr ⟨lw_p31, fun _ h => absurd h List.not_mem_nil⟩⟩⟩⟩⟩⟩⟩⟩⟩⟩⟩⟩⟩⟩⟩⟩
theorem lw_p32 : lw_okq (⟨"ShootDown", "isNote", "(II)Z"⟩, 15) := ⟨⟨by decide +kernel, by decide +kernel⟩, List.mem_of_getElem? (i := 13) (by decide +kernel), List.mem_of_getElem? (i := 388) (by decide +kernel), List.mem_of_getElem? (i := 389) (by decide +kernel)⟩
theorem lw_p33 : lw_okq (⟨"ShootDown$Memories", "timeNoted", "(II)I"⟩, 5) := ⟨⟨by decide +kernel, by decide +kernel⟩, List.mem_of_getElem? (i := 65) (by decide +kernel), List.mem_of_getElem? (i := 395) (by decide +kernel), List.mem_of_getElem? (i := 396) (by decide +kernel)⟩
theorem lw_p34 : lw_okq (⟨"ShootDown$Tables", "heldFrom", "(IIII)Z"⟩, 4) := ⟨⟨by decide +kernel, by decide +kernel⟩, List.mem_of_getElem? (i := 21) (by decide +kernel), List.mem_of_getElem? (i := 403) (by decide +kernel), List.mem_of_getElem? (i := 404) (by decide +kernel)⟩
theorem lw_p35 : lw_okq (⟨"ShootDown$Tables", "timeKept", "(III)I"⟩, 4) := ⟨⟨by decide +kernel, by decide +kernel⟩, List.mem_of_getElem? (i := 21) (by decide +kernel), List.mem_of_getElem? (i := 407) (by decide +kernel), List.mem_of_getElem? (i := 408) (by decide +kernel)⟩
theorem lw_p36 : lw_okq (⟨"ShootDown", "shootPage", "(IIII)I"⟩, 15) := ⟨⟨by decide +kernel, by decide +kernel⟩, List.mem_of_getElem? (i := 13) (by decide +kernel), List.mem_of_getElem? (i := 415) (by decide +kernel), List.mem_of_getElem? (i := 416) (by decide +kernel)⟩
theorem lw_p37 : lw_okq (⟨"ShootDown$Shoots", "isFull", "()Z"⟩, 8) := ⟨⟨by decide +kernel, by decide +kernel⟩, List.mem_of_getElem? (i := 102) (by decide +kernel), List.mem_of_getElem? (i := 419) (by decide +kernel), List.mem_of_getElem? (i := 420) (by decide +kernel)⟩
theorem lw_p38 : lw_okq (⟨"ShootDown", "beginShoot", "(III)I"⟩, 15) := ⟨⟨by decide +kernel, by decide +kernel⟩, List.mem_of_getElem? (i := 13) (by decide +kernel), List.mem_of_getElem? (i := 423) (by decide +kernel), List.mem_of_getElem? (i := 424) (by decide +kernel)⟩
theorem lw_p39 : lw_okq (⟨"ShootDown$Shoots", "begin", "(IIIII)I"⟩, 8) := ⟨⟨by decide +kernel, by decide +kernel⟩, List.mem_of_getElem? (i := 102) (by decide +kernel), List.mem_of_getElem? (i := 427) (by decide +kernel), List.mem_of_getElem? (i := 428) (by decide +kernel)⟩
theorem lw_p40 : lw_okq (⟨"ShootDown$Crew", "isAwakeIn", "(II)Z"⟩, 4) := ⟨⟨by decide +kernel, by decide +kernel⟩, List.mem_of_getElem? (i := 42) (by decide +kernel), List.mem_of_getElem? (i := 431) (by decide +kernel), List.mem_of_getElem? (i := 432) (by decide +kernel)⟩
theorem lw_p41 : lw_okq (⟨"ShootDown$Queues", "append", "(II)V"⟩, 2) := ⟨⟨by decide +kernel, by decide +kernel⟩, List.mem_of_getElem? (i := 88) (by decide +kernel), List.mem_of_getElem? (i := 435) (by decide +kernel), List.mem_of_getElem? (i := 436) (by decide +kernel)⟩
theorem lw_p42 : lw_okq (⟨"ShootDown$Shoots", "waitFor", "(II)V"⟩, 8) := ⟨⟨by decide +kernel, by decide +kernel⟩, List.mem_of_getElem? (i := 102) (by decide +kernel), List.mem_of_getElem? (i := 439) (by decide +kernel), List.mem_of_getElem? (i := 440) (by decide +kernel)⟩
theorem lw_p43 : lw_okq (⟨"ShootDown$Tables", "isAllNone", "(I)Z"⟩, 4) := ⟨⟨by decide +kernel, by decide +kernel⟩, List.mem_of_getElem? (i := 21) (by decide +kernel), List.mem_of_getElem? (i := 451) (by decide +kernel), List.mem_of_getElem? (i := 452) (by decide +kernel)⟩
theorem lw_p44 : lw_okq (⟨"ShootDown$Tables", "changeAllToNone", "(II)V"⟩, 4) := ⟨⟨by decide +kernel, by decide +kernel⟩, List.mem_of_getElem? (i := 21) (by decide +kernel), List.mem_of_getElem? (i := 456) (by decide +kernel), List.mem_of_getElem? (i := 457) (by decide +kernel)⟩
theorem lw_p45 : lw_okq (⟨"ShootDown$Shoots", "waitsFor", "(II)Z"⟩, 8) := ⟨⟨by decide +kernel, by decide +kernel⟩, List.mem_of_getElem? (i := 102) (by decide +kernel), List.mem_of_getElem? (i := 479) (by decide +kernel), List.mem_of_getElem? (i := 480) (by decide +kernel)⟩
theorem lw_p46 : lw_okq (⟨"ShootDown$Tables", "isKept", "(III)Z"⟩, 4) := ⟨⟨by decide +kernel, by decide +kernel⟩, List.mem_of_getElem? (i := 21) (by decide +kernel), List.mem_of_getElem? (i := 495) (by decide +kernel), List.mem_of_getElem? (i := 496) (by decide +kernel)⟩
theorem lw_p47 : lw_okq (⟨"ShootDown$Shoots", "howManyDone", "()I"⟩, 8) := ⟨⟨by decide +kernel, by decide +kernel⟩, List.mem_of_getElem? (i := 102) (by decide +kernel), List.mem_of_getElem? (i := 513) (by decide +kernel), List.mem_of_getElem? (i := 514) (by decide +kernel)⟩
def lw_privs_3 : List (MethodName × Nat) := [(⟨"ShootDown", "isNote", "(II)Z"⟩, 15), (⟨"ShootDown$Memories", "timeNoted", "(II)I"⟩, 5), (⟨"ShootDown$Tables", "heldFrom", "(IIII)Z"⟩, 4), (⟨"ShootDown$Tables", "timeKept", "(III)I"⟩, 4), (⟨"ShootDown", "shootPage", "(IIII)I"⟩, 15), (⟨"ShootDown$Shoots", "isFull", "()Z"⟩, 8), (⟨"ShootDown", "beginShoot", "(III)I"⟩, 15), (⟨"ShootDown$Shoots", "begin", "(IIIII)I"⟩, 8), (⟨"ShootDown$Crew", "isAwakeIn", "(II)Z"⟩, 4), (⟨"ShootDown$Queues", "append", "(II)V"⟩, 2), (⟨"ShootDown$Shoots", "waitFor", "(II)V"⟩, 8), (⟨"ShootDown$Tables", "isAllNone", "(I)Z"⟩, 4), (⟨"ShootDown$Tables", "changeAllToNone", "(II)V"⟩, 4), (⟨"ShootDown$Shoots", "waitsFor", "(II)Z"⟩, 8), (⟨"ShootDown$Tables", "isKept", "(III)Z"⟩, 4), (⟨"ShootDown$Shoots", "howManyDone", "()I"⟩, 8)]
theorem lw_r3 : ∀ q ∈ lw_privs_3, lw_okq q := List.forall_mem_cons.mpr ⟨lw_p32, List.forall_mem_cons.mpr ⟨lw_p33, List.forall_mem_cons.mpr ⟨lw_p34, List.forall_mem_cons.mpr ⟨lw_p35, List.forall_mem_cons.mpr ⟨lw_p36, List.forall_mem_cons.mpr ⟨lw_p37, List.forall_mem_cons.mpr ⟨lw_p38, List.forall_mem_cons.mpr ⟨lw_p39, List.forall_mem_cons.mpr ⟨lw_p40, List.forall_mem_cons.mpr ⟨lw_p41, List.forall_mem_cons.mpr ⟨lw_p42, List.forall_mem_cons.mpr ⟨lw_p43, List.forall_mem_cons.mpr ⟨lw_p44, List.forall_mem_cons.mpr ⟨lw_p45, List.forall_mem_cons.mpr ⟨lw_p46, List.forall_mem_cons.mpr ⟨lw_p47, fun _ h => absurd h List.not_mem_nil⟩⟩⟩⟩⟩⟩⟩⟩⟩⟩⟩⟩⟩⟩⟩⟩
theorem lw_p48 : lw_okq (⟨"ShootDown", "digestOfCore", "(JI)J"⟩, 15) := ⟨⟨by decide +kernel, by decide +kernel⟩, List.mem_of_getElem? (i := 13) (by decide +kernel), List.mem_of_getElem? (i := 525) (by decide +kernel), List.mem_of_getElem? (i := 526) (by decide +kernel)⟩
theorem lw_p49 : lw_okq (⟨"ShootDownModel", "begin", "(I)V"⟩, 30) := ⟨⟨by decide +kernel, by decide +kernel⟩, List.mem_of_getElem? (i := 532) (by decide +kernel), List.mem_of_getElem? (i := 538) (by decide +kernel), List.mem_of_getElem? (i := 539) (by decide +kernel)⟩
theorem lw_p50 : lw_okq (⟨"ShootDownModel", "become", "(II)V"⟩, 30) := ⟨⟨by decide +kernel, by decide +kernel⟩, List.mem_of_getElem? (i := 532) (by decide +kernel), List.mem_of_getElem? (i := 650) (by decide +kernel), List.mem_of_getElem? (i := 651) (by decide +kernel)⟩
theorem lw_p51 : lw_okq (⟨"ShootDownModel", "isCore", "(I)Z"⟩, 30) := ⟨⟨by decide +kernel, by decide +kernel⟩, List.mem_of_getElem? (i := 532) (by decide +kernel), List.mem_of_getElem? (i := 665) (by decide +kernel), List.mem_of_getElem? (i := 666) (by decide +kernel)⟩
theorem lw_p52 : lw_okq (⟨"ShootDownModel", "shootOf", "(I)I"⟩, 30) := ⟨⟨by decide +kernel, by decide +kernel⟩, List.mem_of_getElem? (i := 532) (by decide +kernel), List.mem_of_getElem? (i := 669) (by decide +kernel), List.mem_of_getElem? (i := 670) (by decide +kernel)⟩
theorem lw_p53 : lw_okq (⟨"ShootDownModel", "takeAll", "(I)I"⟩, 30) := ⟨⟨by decide +kernel, by decide +kernel⟩, List.mem_of_getElem? (i := 532) (by decide +kernel), List.mem_of_getElem? (i := 673) (by decide +kernel), List.mem_of_getElem? (i := 674) (by decide +kernel)⟩
theorem lw_p54 : lw_okq (⟨"ShootDownModel", "takeCall", "(I)I"⟩, 30) := ⟨⟨by decide +kernel, by decide +kernel⟩, List.mem_of_getElem? (i := 532) (by decide +kernel), List.mem_of_getElem? (i := 677) (by decide +kernel), List.mem_of_getElem? (i := 678) (by decide +kernel)⟩
theorem lw_p55 : lw_okq (⟨"ShootDownModel", "forget", "(III)I"⟩, 30) := ⟨⟨by decide +kernel, by decide +kernel⟩, List.mem_of_getElem? (i := 532) (by decide +kernel), List.mem_of_getElem? (i := 681) (by decide +kernel), List.mem_of_getElem? (i := 682) (by decide +kernel)⟩
theorem lw_p56 : lw_okq (⟨"ShootDownModel", "dropNote", "(II)V"⟩, 30) := ⟨⟨by decide +kernel, by decide +kernel⟩, List.mem_of_getElem? (i := 532) (by decide +kernel), List.mem_of_getElem? (i := 685) (by decide +kernel), List.mem_of_getElem? (i := 686) (by decide +kernel)⟩
theorem lw_p57 : lw_okq (⟨"ShootDownModel", "settle", "(I)V"⟩, 30) := ⟨⟨by decide +kernel, by decide +kernel⟩, List.mem_of_getElem? (i := 532) (by decide +kernel), List.mem_of_getElem? (i := 689) (by decide +kernel), List.mem_of_getElem? (i := 690) (by decide +kernel)⟩
theorem lw_p58 : lw_okq (⟨"ShootDownModel", "catchUp", "(I)I"⟩, 30) := ⟨⟨by decide +kernel, by decide +kernel⟩, List.mem_of_getElem? (i := 532) (by decide +kernel), List.mem_of_getElem? (i := 693) (by decide +kernel), List.mem_of_getElem? (i := 694) (by decide +kernel)⟩
theorem lw_p59 : lw_okq (⟨"ShootDownModel", "noteOf", "(III)I"⟩, 30) := ⟨⟨by decide +kernel, by decide +kernel⟩, List.mem_of_getElem? (i := 532) (by decide +kernel), List.mem_of_getElem? (i := 709) (by decide +kernel), List.mem_of_getElem? (i := 710) (by decide +kernel)⟩
theorem lw_p60 : lw_okq (⟨"ShootDownModel", "isStale", "(II)Z"⟩, 30) := ⟨⟨by decide +kernel, by decide +kernel⟩, List.mem_of_getElem? (i := 532) (by decide +kernel), List.mem_of_getElem? (i := 713) (by decide +kernel), List.mem_of_getElem? (i := 714) (by decide +kernel)⟩
theorem lw_p61 : lw_okq (⟨"ShootDownModel", "takeNote", "(IIII)V"⟩, 30) := ⟨⟨by decide +kernel, by decide +kernel⟩, List.mem_of_getElem? (i := 532) (by decide +kernel), List.mem_of_getElem? (i := 717) (by decide +kernel), List.mem_of_getElem? (i := 718) (by decide +kernel)⟩
theorem lw_p62 : lw_okq (⟨"ShootDownModel", "isNote", "(II)Z"⟩, 30) := ⟨⟨by decide +kernel, by decide +kernel⟩, List.mem_of_getElem? (i := 532) (by decide +kernel), List.mem_of_getElem? (i := 729) (by decide +kernel), List.mem_of_getElem? (i := 730) (by decide +kernel)⟩
theorem lw_p63 : lw_okq (⟨"ShootDownModel", "mayShoot", "(I)Z"⟩, 30) := ⟨⟨by decide +kernel, by decide +kernel⟩, List.mem_of_getElem? (i := 532) (by decide +kernel), List.mem_of_getElem? (i := 741) (by decide +kernel), List.mem_of_getElem? (i := 742) (by decide +kernel)⟩
def lw_privs_4 : List (MethodName × Nat) := [(⟨"ShootDown", "digestOfCore", "(JI)J"⟩, 15), (⟨"ShootDownModel", "begin", "(I)V"⟩, 30), (⟨"ShootDownModel", "become", "(II)V"⟩, 30), (⟨"ShootDownModel", "isCore", "(I)Z"⟩, 30), (⟨"ShootDownModel", "shootOf", "(I)I"⟩, 30), (⟨"ShootDownModel", "takeAll", "(I)I"⟩, 30), (⟨"ShootDownModel", "takeCall", "(I)I"⟩, 30), (⟨"ShootDownModel", "forget", "(III)I"⟩, 30), (⟨"ShootDownModel", "dropNote", "(II)V"⟩, 30), (⟨"ShootDownModel", "settle", "(I)V"⟩, 30), (⟨"ShootDownModel", "catchUp", "(I)I"⟩, 30), (⟨"ShootDownModel", "noteOf", "(III)I"⟩, 30), (⟨"ShootDownModel", "isStale", "(II)Z"⟩, 30), (⟨"ShootDownModel", "takeNote", "(IIII)V"⟩, 30), (⟨"ShootDownModel", "isNote", "(II)Z"⟩, 30), (⟨"ShootDownModel", "mayShoot", "(I)Z"⟩, 30)]
theorem lw_r4 : ∀ q ∈ lw_privs_4, lw_okq q := List.forall_mem_cons.mpr ⟨lw_p48, List.forall_mem_cons.mpr ⟨lw_p49, List.forall_mem_cons.mpr ⟨lw_p50, List.forall_mem_cons.mpr ⟨lw_p51, List.forall_mem_cons.mpr ⟨lw_p52, List.forall_mem_cons.mpr ⟨lw_p53, List.forall_mem_cons.mpr ⟨lw_p54, List.forall_mem_cons.mpr ⟨lw_p55, List.forall_mem_cons.mpr ⟨lw_p56, List.forall_mem_cons.mpr ⟨lw_p57, List.forall_mem_cons.mpr ⟨lw_p58, List.forall_mem_cons.mpr ⟨lw_p59, List.forall_mem_cons.mpr ⟨lw_p60, List.forall_mem_cons.mpr ⟨lw_p61, List.forall_mem_cons.mpr ⟨lw_p62, List.forall_mem_cons.mpr ⟨lw_p63, fun _ h => absurd h List.not_mem_nil⟩⟩⟩⟩⟩⟩⟩⟩⟩⟩⟩⟩⟩⟩⟩⟩
theorem lw_p64 : lw_okq (⟨"ShootDownModel", "begins", "(IIII)I"⟩, 30) := ⟨⟨by decide +kernel, by decide +kernel⟩, List.mem_of_getElem? (i := 532) (by decide +kernel), List.mem_of_getElem? (i := 745) (by decide +kernel), List.mem_of_getElem? (i := 746) (by decide +kernel)⟩
theorem lw_p65 : lw_okq (⟨"ShootDownModel", "waited", "(I)I"⟩, 30) := ⟨⟨by decide +kernel, by decide +kernel⟩, List.mem_of_getElem? (i := 532) (by decide +kernel), List.mem_of_getElem? (i := 769) (by decide +kernel), List.mem_of_getElem? (i := 770) (by decide +kernel)⟩
def lw_privs_5 : List (MethodName × Nat) := [(⟨"ShootDownModel", "begins", "(IIII)I"⟩, 30), (⟨"ShootDownModel", "waited", "(I)I"⟩, 30)]
theorem lw_r5 : ∀ q ∈ lw_privs_5, lw_okq q := List.forall_mem_cons.mpr ⟨lw_p64, List.forall_mem_cons.mpr ⟨lw_p65, fun _ h => absurd h List.not_mem_nil⟩⟩
def lw_privs : List (MethodName × Nat) := lw_privs_1 ++ (lw_privs_2 ++ (lw_privs_3 ++ (lw_privs_4 ++ (lw_privs_5))))
def lw_tbl : List Cond := k2_sels lw_privs ++ tables_1
theorem lw_privs_ok : ∀ q ∈ lw_privs, lw_okq q := by
  show ∀ q ∈ lw_privs_1 ++ (lw_privs_2 ++ (lw_privs_3 ++ (lw_privs_4 ++ (lw_privs_5)))), lw_okq q
  exact List.forall_mem_append.mpr ⟨lw_r1, List.forall_mem_append.mpr ⟨lw_r2, List.forall_mem_append.mpr ⟨lw_r3, List.forall_mem_append.mpr ⟨lw_r4, lw_r5⟩⟩⟩⟩
-- ===== names, by the kit's own printer =====
def RX0 : String := "ShootDown$Crew"
def TX0 : u_T := fun k => match k with
  | 0 => ("ShootDown$Crew", "spaces", "[I", true)
  | 1 => ("ShootDown$Crew", "awake", "[Z", true)
  | 2 => ("ShootDown$Crew", "shootsUnderWay", "[I", true)
  | _ => ("ShootDown$Crew", "generations", "[I", true)
def tyX0 : Nat → FieldType := fun k => match k with
  | 0 => .array .int
  | 1 => .array .boolean
  | 2 => .array .int
  | _ => .array .int
abbrev wsX00 : List Cond := u_ws RX0 TX0 4
theorem nmX0 : ∀ a, a < 4 → ∀ b, b < 4 → a ≠ b → (TX0 a).2.1 ≠ (TX0 b).2.1 := by decide +kernel
theorem tyX0_ok : ∀ k, k < 4 → parseFieldDescriptor (TX0 k).2.2.1 = some (tyX0 k) := by decide +kernel
abbrev cX0_init : ByteArray := prog_2_method_1_code
def yX0_init : MethodName := ⟨RX0, "<init>", "()V"⟩
abbrev cX0_startAgain : ByteArray := prog_2_method_2_code
def yX0_startAgain : MethodName := ⟨RX0, "startAgain", "()V"⟩
abbrev cX0_isAwakeIn : ByteArray := prog_2_method_3_code
def yX0_isAwakeIn : MethodName := ⟨RX0, "isAwakeIn", "(II)Z"⟩
abbrev cX0_generation : ByteArray := prog_2_method_4_code
def yX0_generation : MethodName := ⟨RX0, "generation", "(II)I"⟩
abbrev cX0_raiseGeneration : ByteArray := prog_2_method_5_code
def yX0_raiseGeneration : MethodName := ⟨RX0, "raiseGeneration", "(III)V"⟩
def RX1 : String := "ShootDown$Memories"
def TX1 : u_T := fun k => match k with
  | 0 => ("ShootDown$Memories", "held", "[I", true)
  | 1 => ("ShootDown$Memories", "spaces", "[I", true)
  | 2 => ("ShootDown$Memories", "pages", "[I", true)
  | 3 => ("ShootDown$Memories", "entries", "[I", true)
  | _ => ("ShootDown$Memories", "times", "[I", true)
def tyX1 : Nat → FieldType := fun k => match k with
  | 0 => .array .int
  | 1 => .array .int
  | 2 => .array .int
  | 3 => .array .int
  | _ => .array .int
abbrev wsX10 : List Cond := u_ws RX1 TX1 5
theorem nmX1 : ∀ a, a < 5 → ∀ b, b < 5 → a ≠ b → (TX1 a).2.1 ≠ (TX1 b).2.1 := by decide +kernel
theorem tyX1_ok : ∀ k, k < 5 → parseFieldDescriptor (TX1 k).2.2.1 = some (tyX1 k) := by decide +kernel
abbrev cX1_init : ByteArray := prog_3_method_1_code
def yX1_init : MethodName := ⟨RX1, "<init>", "()V"⟩
abbrev cX1_startAgain : ByteArray := prog_3_method_2_code
def yX1_startAgain : MethodName := ⟨RX1, "startAgain", "()V"⟩
abbrev cX1_spaceNoted : ByteArray := prog_3_method_3_code
def yX1_spaceNoted : MethodName := ⟨RX1, "spaceNoted", "(II)I"⟩
abbrev cX1_pageNoted : ByteArray := prog_3_method_4_code
def yX1_pageNoted : MethodName := ⟨RX1, "pageNoted", "(II)I"⟩
abbrev cX1_entryNoted : ByteArray := prog_3_method_5_code
def yX1_entryNoted : MethodName := ⟨RX1, "entryNoted", "(II)I"⟩
abbrev cX1_timeNoted : ByteArray := prog_3_method_6_code
def yX1_timeNoted : MethodName := ⟨RX1, "timeNoted", "(II)I"⟩
abbrev cX1_find : ByteArray := prog_3_method_7_code
def yX1_find : MethodName := ⟨RX1, "find", "(III)I"⟩
abbrev cX1_keep : ByteArray := prog_3_method_8_code
def yX1_keep : MethodName := ⟨RX1, "keep", "(IIIII)V"⟩
abbrev cX1_forget : ByteArray := prog_3_method_9_code
def yX1_forget : MethodName := ⟨RX1, "forget", "(III)I"⟩
abbrev cX1_isOf : ByteArray := prog_3_method_10_code
def yX1_isOf : MethodName := ⟨RX1, "isOf", "(IIII)Z"⟩
abbrev cX1_move : ByteArray := prog_3_method_11_code
def yX1_move : MethodName := ⟨RX1, "move", "(III)V"⟩
def RX2 : String := "ShootDown$Queues"
def TX2 : u_T := fun k => match k with
  | 0 => ("ShootDown$Queues", "lengths", "[I", true)
  | _ => ("ShootDown$Queues", "calls", "[I", true)
def tyX2 : Nat → FieldType := fun k => match k with
  | 0 => .array .int
  | _ => .array .int
abbrev wsX20 : List Cond := u_ws RX2 TX2 2
theorem nmX2 : ∀ a, a < 2 → ∀ b, b < 2 → a ≠ b → (TX2 a).2.1 ≠ (TX2 b).2.1 := by decide +kernel
theorem tyX2_ok : ∀ k, k < 2 → parseFieldDescriptor (TX2 k).2.2.1 = some (tyX2 k) := by decide +kernel
abbrev cX2_init : ByteArray := prog_4_method_1_code
def yX2_init : MethodName := ⟨RX2, "<init>", "()V"⟩
abbrev cX2_startAgain : ByteArray := prog_4_method_2_code
def yX2_startAgain : MethodName := ⟨RX2, "startAgain", "()V"⟩
abbrev cX2_append : ByteArray := prog_4_method_3_code
def yX2_append : MethodName := ⟨RX2, "append", "(II)V"⟩
abbrev cX2_removeFirst : ByteArray := prog_4_method_4_code
def yX2_removeFirst : MethodName := ⟨RX2, "removeFirst", "(I)I"⟩
def RX3 : String := "ShootDown$Shoots"
def TX3 : u_T := fun k => match k with
  | 0 => ("ShootDown$Shoots", "begun", "I", false)
  | 1 => ("ShootDown$Shoots", "beganBy", "[I", true)
  | 2 => ("ShootDown$Shoots", "spaces", "[I", true)
  | 3 => ("ShootDown$Shoots", "pages", "[I", true)
  | 4 => ("ShootDown$Shoots", "generations", "[I", true)
  | 5 => ("ShootDown$Shoots", "begunAt", "[I", true)
  | 6 => ("ShootDown$Shoots", "doneAt", "[I", true)
  | _ => ("ShootDown$Shoots", "waitedFor", "[I", true)
def tyX3 : Nat → FieldType := fun k => match k with
  | 0 => .int
  | 1 => .array .int
  | 2 => .array .int
  | 3 => .array .int
  | 4 => .array .int
  | 5 => .array .int
  | 6 => .array .int
  | _ => .array .int
abbrev wsX30 : List Cond := u_ws RX3 TX3 8
theorem nmX3 : ∀ a, a < 8 → ∀ b, b < 8 → a ≠ b → (TX3 a).2.1 ≠ (TX3 b).2.1 := by decide +kernel
theorem tyX3_ok : ∀ k, k < 8 → parseFieldDescriptor (TX3 k).2.2.1 = some (tyX3 k) := by decide +kernel
abbrev cX3_init : ByteArray := prog_5_method_1_code
def yX3_init : MethodName := ⟨RX3, "<init>", "()V"⟩
abbrev cX3_startAgain : ByteArray := prog_5_method_2_code
def yX3_startAgain : MethodName := ⟨RX3, "startAgain", "()V"⟩
abbrev cX3_isFull : ByteArray := prog_5_method_3_code
def yX3_isFull : MethodName := ⟨RX3, "isFull", "()Z"⟩
abbrev cX3_isBegun : ByteArray := prog_5_method_4_code
def yX3_isBegun : MethodName := ⟨RX3, "isBegun", "(I)Z"⟩
abbrev cX3_isDone : ByteArray := prog_5_method_5_code
def yX3_isDone : MethodName := ⟨RX3, "isDone", "(I)Z"⟩
abbrev cX3_waitsFor : ByteArray := prog_5_method_6_code
def yX3_waitsFor : MethodName := ⟨RX3, "waitsFor", "(II)Z"⟩
abbrev cX3_howManyDone : ByteArray := prog_5_method_7_code
def yX3_howManyDone : MethodName := ⟨RX3, "howManyDone", "()I"⟩
abbrev cX3_begin : ByteArray := prog_5_method_8_code
def yX3_begin : MethodName := ⟨RX3, "begin", "(IIIII)I"⟩
abbrev cX3_waitFor : ByteArray := prog_5_method_9_code
def yX3_waitFor : MethodName := ⟨RX3, "waitFor", "(II)V"⟩
abbrev cX3_waitNoMore : ByteArray := prog_5_method_10_code
def yX3_waitNoMore : MethodName := ⟨RX3, "waitNoMore", "(II)V"⟩
def RX4 : String := "ShootDown$Tables"
def TX4 : u_T := fun k => match k with
  | 0 => ("ShootDown$Tables", "generations", "[I", true)
  | 1 => ("ShootDown$Tables", "kept", "[I", true)
  | 2 => ("ShootDown$Tables", "entries", "[I", true)
  | _ => ("ShootDown$Tables", "times", "[I", true)
def tyX4 : Nat → FieldType := fun k => match k with
  | 0 => .array .int
  | 1 => .array .int
  | 2 => .array .int
  | _ => .array .int
abbrev wsX40 : List Cond := u_ws RX4 TX4 4
theorem nmX4 : ∀ a, a < 4 → ∀ b, b < 4 → a ≠ b → (TX4 a).2.1 ≠ (TX4 b).2.1 := by decide +kernel
theorem tyX4_ok : ∀ k, k < 4 → parseFieldDescriptor (TX4 k).2.2.1 = some (tyX4 k) := by decide +kernel
abbrev cX4_init : ByteArray := prog_6_method_1_code
def yX4_init : MethodName := ⟨RX4, "<init>", "()V"⟩
abbrev cX4_startAgain : ByteArray := prog_6_method_2_code
def yX4_startAgain : MethodName := ⟨RX4, "startAgain", "()V"⟩
abbrev cX4_isKept : ByteArray := prog_6_method_3_code
def yX4_isKept : MethodName := ⟨RX4, "isKept", "(III)Z"⟩
abbrev cX4_entryKept : ByteArray := prog_6_method_4_code
def yX4_entryKept : MethodName := ⟨RX4, "entryKept", "(III)I"⟩
abbrev cX4_timeKept : ByteArray := prog_6_method_5_code
def yX4_timeKept : MethodName := ⟨RX4, "timeKept", "(III)I"⟩
abbrev cX4_entryNow : ByteArray := prog_6_method_6_code
def yX4_entryNow : MethodName := ⟨RX4, "entryNow", "(II)I"⟩
abbrev cX4_isAllNone : ByteArray := prog_6_method_7_code
def yX4_isAllNone : MethodName := ⟨RX4, "isAllNone", "(I)Z"⟩
abbrev cX4_change : ByteArray := prog_6_method_8_code
def yX4_change : MethodName := ⟨RX4, "change", "(IIII)V"⟩
abbrev cX4_changeAllToNone : ByteArray := prog_6_method_9_code
def yX4_changeAllToNone : MethodName := ⟨RX4, "changeAllToNone", "(II)V"⟩
abbrev cX4_heldFrom : ByteArray := prog_6_method_10_code
def yX4_heldFrom : MethodName := ⟨RX4, "heldFrom", "(IIII)Z"⟩
abbrev cX4_rowOf : ByteArray := prog_6_method_11_code
def yX4_rowOf : MethodName := ⟨RX4, "rowOf", "(II)I"⟩
def RX5 : String := "ShootDown"
def TX5 : u_T := fun k => match k with
  | 0 => ("ShootDown", "tables", "LShootDown$Tables;", true)
  | 1 => ("ShootDown", "crew", "LShootDown$Crew;", true)
  | 2 => ("ShootDown", "memories", "LShootDown$Memories;", true)
  | 3 => ("ShootDown", "queues", "LShootDown$Queues;", true)
  | 4 => ("ShootDown", "shoots", "LShootDown$Shoots;", true)
  | 5 => ("ShootDown", "coreCount", "I", false)
  | 6 => ("ShootDown", "time", "I", false)
  | 7 => ("ShootDown", "lookWent", "I", false)
  | 8 => ("ShootDown", "seenEntry", "I", false)
  | 9 => ("ShootDown", "hits", "I", false)
  | 10 => ("ShootDown", "oldHits", "I", false)
  | 11 => ("ShootDown", "walks", "I", false)
  | 12 => ("ShootDown", "faults", "I", false)
  | 13 => ("ShootDown", "callsTaken", "I", false)
  | _ => ("ShootDown", "notesForgotten", "I", false)
def tyX5 : Nat → FieldType := fun k => match k with
  | 0 => .object "ShootDown$Tables"
  | 1 => .object "ShootDown$Crew"
  | 2 => .object "ShootDown$Memories"
  | 3 => .object "ShootDown$Queues"
  | 4 => .object "ShootDown$Shoots"
  | 5 => .int
  | 6 => .int
  | 7 => .int
  | 8 => .int
  | 9 => .int
  | 10 => .int
  | 11 => .int
  | 12 => .int
  | 13 => .int
  | _ => .int
abbrev wsX50 : List Cond := u_ws RX5 TX5 15
theorem nmX5 : ∀ a, a < 15 → ∀ b, b < 15 → a ≠ b → (TX5 a).2.1 ≠ (TX5 b).2.1 := by decide +kernel
theorem tyX5_ok : ∀ k, k < 15 → parseFieldDescriptor (TX5 k).2.2.1 = some (tyX5 k) := by decide +kernel
abbrev cX5_init : ByteArray := prog_1_method_1_code
def yX5_init : MethodName := ⟨RX5, "<init>", "()V"⟩
abbrev cX5_cores : ByteArray := prog_1_method_2_code
def yX5_cores : MethodName := ⟨RX5, "cores", "(I)I"⟩
abbrev cX5_map : ByteArray := prog_1_method_3_code
def yX5_map : MethodName := ⟨RX5, "map", "(IIIZ)I"⟩
abbrev cX5_entry : ByteArray := prog_1_method_4_code
def yX5_entry : MethodName := ⟨RX5, "entry", "(II)I"⟩
abbrev cX5_enter : ByteArray := prog_1_method_5_code
def yX5_enter : MethodName := ⟨RX5, "enter", "(II)I"⟩
abbrev cX5_sleep : ByteArray := prog_1_method_6_code
def yX5_sleep : MethodName := ⟨RX5, "sleep", "(I)I"⟩
abbrev cX5_wake : ByteArray := prog_1_method_7_code
def yX5_wake : MethodName := ⟨RX5, "wake", "(I)I"⟩
abbrev cX5_look : ByteArray := prog_1_method_8_code
def yX5_look : MethodName := ⟨RX5, "look", "(IIZ)I"⟩
abbrev cX5_how : ByteArray := prog_1_method_9_code
def yX5_how : MethodName := ⟨RX5, "how", "()I"⟩
abbrev cX5_note : ByteArray := prog_1_method_10_code
def yX5_note : MethodName := ⟨RX5, "note", "(III)I"⟩
abbrev cX5_wasSo : ByteArray := prog_1_method_11_code
def yX5_wasSo : MethodName := ⟨RX5, "wasSo", "(II)I"⟩
abbrev cX5_unmap : ByteArray := prog_1_method_12_code
def yX5_unmap : MethodName := ⟨RX5, "unmap", "(III)I"⟩
abbrev cX5_remap : ByteArray := prog_1_method_13_code
def yX5_remap : MethodName := ⟨RX5, "remap", "(IIIIZ)I"⟩
abbrev cX5_clear : ByteArray := prog_1_method_14_code
def yX5_clear : MethodName := ⟨RX5, "clear", "(II)I"⟩
abbrev cX5_take : ByteArray := prog_1_method_15_code
def yX5_take : MethodName := ⟨RX5, "take", "(I)I"⟩
abbrev cX5_rounds : ByteArray := prog_1_method_16_code
def yX5_rounds : MethodName := ⟨RX5, "rounds", "(II)I"⟩
abbrev cX5_shoot : ByteArray := prog_1_method_17_code
def yX5_shoot : MethodName := ⟨RX5, "shoot", "(II)I"⟩
abbrev cX5_underWay : ByteArray := prog_1_method_18_code
def yX5_underWay : MethodName := ⟨RX5, "underWay", "(I)I"⟩
abbrev cX5_core : ByteArray := prog_1_method_19_code
def yX5_core : MethodName := ⟨RX5, "core", "(II)I"⟩
abbrev cX5_history : ByteArray := prog_1_method_20_code
def yX5_history : MethodName := ⟨RX5, "history", "(III)I"⟩
abbrev cX5_seen : ByteArray := prog_1_method_21_code
def yX5_seen : MethodName := ⟨RX5, "seen", "()I"⟩
abbrev cX5_danger : ByteArray := prog_1_method_22_code
def yX5_danger : MethodName := ⟨RX5, "danger", "(II)I"⟩
abbrev cX5_count : ByteArray := prog_1_method_23_code
def yX5_count : MethodName := ⟨RX5, "count", "(I)I"⟩
abbrev cX5_digest : ByteArray := prog_1_method_24_code
def yX5_digest : MethodName := ⟨RX5, "digest", "()J"⟩
abbrev cX5_startAgain : ByteArray := prog_1_method_25_code
def yX5_startAgain : MethodName := ⟨RX5, "startAgain", "(I)V"⟩
abbrev cX5_isCore : ByteArray := prog_1_method_26_code
def yX5_isCore : MethodName := ⟨RX5, "isCore", "(I)Z"⟩
abbrev cX5_isFree : ByteArray := prog_1_method_27_code
def yX5_isFree : MethodName := ⟨RX5, "isFree", "(I)Z"⟩
abbrev cX5_isBehind : ByteArray := prog_1_method_28_code
def yX5_isBehind : MethodName := ⟨RX5, "isBehind", "(II)Z"⟩
abbrev cX5_isNote : ByteArray := prog_1_method_29_code
def yX5_isNote : MethodName := ⟨RX5, "isNote", "(II)Z"⟩
abbrev cX5_isStale : ByteArray := prog_1_method_30_code
def yX5_isStale : MethodName := ⟨RX5, "isStale", "(II)Z"⟩
abbrev cX5_goByNote : ByteArray := prog_1_method_31_code
def yX5_goByNote : MethodName := ⟨RX5, "goByNote", "(II)I"⟩
abbrev cX5_walkTable : ByteArray := prog_1_method_32_code
def yX5_walkTable : MethodName := ⟨RX5, "walkTable", "(IIIZ)I"⟩
abbrev cX5_shootPage : ByteArray := prog_1_method_33_code
def yX5_shootPage : MethodName := ⟨RX5, "shootPage", "(IIII)I"⟩
abbrev cX5_beginShoot : ByteArray := prog_1_method_34_code
def yX5_beginShoot : MethodName := ⟨RX5, "beginShoot", "(III)I"⟩
abbrev cX5_takeFirstCall : ByteArray := prog_1_method_35_code
def yX5_takeFirstCall : MethodName := ⟨RX5, "takeFirstCall", "(I)I"⟩
abbrev cX5_takeAllCalls : ByteArray := prog_1_method_36_code
def yX5_takeAllCalls : MethodName := ⟨RX5, "takeAllCalls", "(I)I"⟩
abbrev cX5_catchUp : ByteArray := prog_1_method_37_code
def yX5_catchUp : MethodName := ⟨RX5, "catchUp", "(I)I"⟩
abbrev cX5_digestOfCore : ByteArray := prog_1_method_38_code
def yX5_digestOfCore : MethodName := ⟨RX5, "digestOfCore", "(JI)J"⟩
abbrev cX5_isSpace : ByteArray := prog_1_method_39_code
def yX5_isSpace : MethodName := ⟨RX5, "isSpace", "(I)Z"⟩
abbrev cX5_isPage : ByteArray := prog_1_method_40_code
def yX5_isPage : MethodName := ⟨RX5, "isPage", "(I)Z"⟩
abbrev cX5_isFrame : ByteArray := prog_1_method_41_code
def yX5_isFrame : MethodName := ⟨RX5, "isFrame", "(I)Z"⟩
abbrev cX5_entryOf : ByteArray := prog_1_method_42_code
def yX5_entryOf : MethodName := ⟨RX5, "entryOf", "(IZ)I"⟩
abbrev cX5_frameOf : ByteArray := prog_1_method_43_code
def yX5_frameOf : MethodName := ⟨RX5, "frameOf", "(I)I"⟩
abbrev cX5_isWritable : ByteArray := prog_1_method_44_code
def yX5_isWritable : MethodName := ⟨RX5, "isWritable", "(I)Z"⟩
abbrev cX5_oneIf : ByteArray := prog_1_method_45_code
def yX5_oneIf : MethodName := ⟨RX5, "oneIf", "(Z)I"⟩
def RX6 : String := "ShootDownModel"
def TX6 : u_T := fun k => match k with
  | 0 => ("ShootDownModel", "cores", "I", false)
  | 1 => ("ShootDownModel", "time", "I", false)
  | 2 => ("ShootDownModel", "seen", "I", false)
  | 3 => ("ShootDownModel", "how", "I", false)
  | 4 => ("ShootDownModel", "entry", "[I", true)
  | 5 => ("ShootDownModel", "generation", "[I", true)
  | 6 => ("ShootDownModel", "historyMany", "[I", true)
  | 7 => ("ShootDownModel", "historyTime", "[I", true)
  | 8 => ("ShootDownModel", "historyWas", "[I", true)
  | 9 => ("ShootDownModel", "space", "[I", true)
  | 10 => ("ShootDownModel", "awake", "[Z", true)
  | 11 => ("ShootDownModel", "notes", "[I", true)
  | 12 => ("ShootDownModel", "note", "[I", true)
  | 13 => ("ShootDownModel", "calls", "[I", true)
  | 14 => ("ShootDownModel", "queue", "[I", true)
  | 15 => ("ShootDownModel", "forgot", "[I", true)
  | 16 => ("ShootDownModel", "shoots", "I", false)
  | 17 => ("ShootDownModel", "byCore", "[I", true)
  | 18 => ("ShootDownModel", "ofSpace", "[I", true)
  | 19 => ("ShootDownModel", "ofPage", "[I", true)
  | 20 => ("ShootDownModel", "toGeneration", "[I", true)
  | 21 => ("ShootDownModel", "begunAt", "[I", true)
  | 22 => ("ShootDownModel", "doneAt", "[I", true)
  | 23 => ("ShootDownModel", "waits", "[Z", true)
  | 24 => ("ShootDownModel", "hits", "I", false)
  | 25 => ("ShootDownModel", "old", "I", false)
  | 26 => ("ShootDownModel", "walks", "I", false)
  | 27 => ("ShootDownModel", "faults", "I", false)
  | 28 => ("ShootDownModel", "taken", "I", false)
  | _ => ("ShootDownModel", "cleared", "I", false)
def tyX6 : Nat → FieldType := fun k => match k with
  | 0 => .int
  | 1 => .int
  | 2 => .int
  | 3 => .int
  | 4 => .array .int
  | 5 => .array .int
  | 6 => .array .int
  | 7 => .array .int
  | 8 => .array .int
  | 9 => .array .int
  | 10 => .array .boolean
  | 11 => .array .int
  | 12 => .array .int
  | 13 => .array .int
  | 14 => .array .int
  | 15 => .array .int
  | 16 => .int
  | 17 => .array .int
  | 18 => .array .int
  | 19 => .array .int
  | 20 => .array .int
  | 21 => .array .int
  | 22 => .array .int
  | 23 => .array .boolean
  | 24 => .int
  | 25 => .int
  | 26 => .int
  | 27 => .int
  | 28 => .int
  | _ => .int
abbrev wsX60 : List Cond := u_ws RX6 TX6 30
theorem nmX6 : ∀ a, a < 30 → ∀ b, b < 30 → a ≠ b → (TX6 a).2.1 ≠ (TX6 b).2.1 := by decide +kernel
theorem tyX6_ok : ∀ k, k < 30 → parseFieldDescriptor (TX6 k).2.2.1 = some (tyX6 k) := by decide +kernel
abbrev cX6_init : ByteArray := prog_8_method_1_code
def yX6_init : MethodName := ⟨RX6, "<init>", "()V"⟩
abbrev cX6_in : ByteArray := prog_8_method_2_code
def yX6_in : MethodName := ⟨RX6, "in", "(III)Z"⟩
abbrev cX6_begin : ByteArray := prog_8_method_3_code
def yX6_begin : MethodName := ⟨RX6, "begin", "(I)V"⟩
abbrev cX6_isCore : ByteArray := prog_8_method_4_code
def yX6_isCore : MethodName := ⟨RX6, "isCore", "(I)Z"⟩
abbrev cX6_isPage : ByteArray := prog_8_method_5_code
def yX6_isPage : MethodName := ⟨RX6, "isPage", "(II)Z"⟩
abbrev cX6_cores : ByteArray := prog_8_method_6_code
def yX6_cores : MethodName := ⟨RX6, "cores", "(I)I"⟩
abbrev cX6_become : ByteArray := prog_8_method_7_code
def yX6_become : MethodName := ⟨RX6, "become", "(II)V"⟩
abbrev cX6_entryOf : ByteArray := prog_8_method_8_code
def yX6_entryOf : MethodName := ⟨RX6, "entryOf", "(IZ)I"⟩
abbrev cX6_told : ByteArray := prog_8_method_9_code
def yX6_told : MethodName := ⟨RX6, "told", "(I)I"⟩
abbrev cX6_map : ByteArray := prog_8_method_10_code
def yX6_map : MethodName := ⟨RX6, "map", "(IIIZ)I"⟩
abbrev cX6_entry : ByteArray := prog_8_method_11_code
def yX6_entry : MethodName := ⟨RX6, "entry", "(II)I"⟩
abbrev cX6_dropNote : ByteArray := prog_8_method_12_code
def yX6_dropNote : MethodName := ⟨RX6, "dropNote", "(II)V"⟩
abbrev cX6_noteOf : ByteArray := prog_8_method_13_code
def yX6_noteOf : MethodName := ⟨RX6, "noteOf", "(III)I"⟩
abbrev cX6_forget : ByteArray := prog_8_method_14_code
def yX6_forget : MethodName := ⟨RX6, "forget", "(III)I"⟩
abbrev cX6_takeNote : ByteArray := prog_8_method_15_code
def yX6_takeNote : MethodName := ⟨RX6, "takeNote", "(IIII)V"⟩
abbrev cX6_takeCall : ByteArray := prog_8_method_16_code
def yX6_takeCall : MethodName := ⟨RX6, "takeCall", "(I)I"⟩
abbrev cX6_settle : ByteArray := prog_8_method_17_code
def yX6_settle : MethodName := ⟨RX6, "settle", "(I)V"⟩
abbrev cX6_takeAll : ByteArray := prog_8_method_18_code
def yX6_takeAll : MethodName := ⟨RX6, "takeAll", "(I)I"⟩
abbrev cX6_shootOf : ByteArray := prog_8_method_19_code
def yX6_shootOf : MethodName := ⟨RX6, "shootOf", "(I)I"⟩
abbrev cX6_catchUp : ByteArray := prog_8_method_20_code
def yX6_catchUp : MethodName := ⟨RX6, "catchUp", "(I)I"⟩
abbrev cX6_enter : ByteArray := prog_8_method_21_code
def yX6_enter : MethodName := ⟨RX6, "enter", "(II)I"⟩
abbrev cX6_sleep : ByteArray := prog_8_method_22_code
def yX6_sleep : MethodName := ⟨RX6, "sleep", "(I)I"⟩
abbrev cX6_wake : ByteArray := prog_8_method_23_code
def yX6_wake : MethodName := ⟨RX6, "wake", "(I)I"⟩
abbrev cX6_isStale : ByteArray := prog_8_method_24_code
def yX6_isStale : MethodName := ⟨RX6, "isStale", "(II)Z"⟩
abbrev cX6_look : ByteArray := prog_8_method_25_code
def yX6_look : MethodName := ⟨RX6, "look", "(IIZ)I"⟩
abbrev cX6_how : ByteArray := prog_8_method_26_code
def yX6_how : MethodName := ⟨RX6, "how", "()I"⟩
abbrev cX6_isNote : ByteArray := prog_8_method_27_code
def yX6_isNote : MethodName := ⟨RX6, "isNote", "(II)Z"⟩
abbrev cX6_note : ByteArray := prog_8_method_28_code
def yX6_note : MethodName := ⟨RX6, "note", "(III)I"⟩
abbrev cX6_wasSo : ByteArray := prog_8_method_29_code
def yX6_wasSo : MethodName := ⟨RX6, "wasSo", "(II)I"⟩
abbrev cX6_mayShoot : ByteArray := prog_8_method_30_code
def yX6_mayShoot : MethodName := ⟨RX6, "mayShoot", "(I)Z"⟩
abbrev cX6_begins : ByteArray := prog_8_method_31_code
def yX6_begins : MethodName := ⟨RX6, "begins", "(IIII)I"⟩
abbrev cX6_unmap : ByteArray := prog_8_method_32_code
def yX6_unmap : MethodName := ⟨RX6, "unmap", "(III)I"⟩
abbrev cX6_remap : ByteArray := prog_8_method_33_code
def yX6_remap : MethodName := ⟨RX6, "remap", "(IIIIZ)I"⟩
abbrev cX6_clear : ByteArray := prog_8_method_34_code
def yX6_clear : MethodName := ⟨RX6, "clear", "(II)I"⟩
abbrev cX6_take : ByteArray := prog_8_method_35_code
def yX6_take : MethodName := ⟨RX6, "take", "(I)I"⟩
abbrev cX6_rounds : ByteArray := prog_8_method_36_code
def yX6_rounds : MethodName := ⟨RX6, "rounds", "(II)I"⟩
abbrev cX6_waited : ByteArray := prog_8_method_37_code
def yX6_waited : MethodName := ⟨RX6, "waited", "(I)I"⟩
abbrev cX6_shoot : ByteArray := prog_8_method_38_code
def yX6_shoot : MethodName := ⟨RX6, "shoot", "(II)I"⟩
abbrev cX6_underWay : ByteArray := prog_8_method_39_code
def yX6_underWay : MethodName := ⟨RX6, "underWay", "(I)I"⟩
abbrev cX6_core : ByteArray := prog_8_method_40_code
def yX6_core : MethodName := ⟨RX6, "core", "(II)I"⟩
abbrev cX6_history : ByteArray := prog_8_method_41_code
def yX6_history : MethodName := ⟨RX6, "history", "(III)I"⟩
abbrev cX6_seen : ByteArray := prog_8_method_42_code
def yX6_seen : MethodName := ⟨RX6, "seen", "()I"⟩
abbrev cX6_danger : ByteArray := prog_8_method_43_code
def yX6_danger : MethodName := ⟨RX6, "danger", "(II)I"⟩
abbrev cX6_count : ByteArray := prog_8_method_44_code
def yX6_count : MethodName := ⟨RX6, "count", "(I)I"⟩
abbrev cX6_digest : ByteArray := prog_8_method_45_code
def yX6_digest : MethodName := ⟨RX6, "digest", "()J"⟩
def RJ6 : String := "java/lang/Integer"
def TJ6 : u_T := fun k => match k with
  | _ => ("", "", "", false)
def tyJ6 : Nat → FieldType := fun k => match k with
  | _ => .int
theorem nmJ6 : ∀ a, a < 0 → ∀ b, b < 0 → a ≠ b → (TJ6 a).2.1 ≠ (TJ6 b).2.1 := by decide +kernel
theorem tyJ6_ok : ∀ k, k < 0 → parseFieldDescriptor (TJ6 k).2.2.1 = some (tyJ6 k) := by decide +kernel
abbrev cJ6_bitCount_0f7a4 : ByteArray := prog_9_method_49_code
def yJ6_bitCount_0f7a4 : MethodName := ⟨RJ6, "bitCount", "(I)I"⟩
def RJ9 : String := "java/lang/Math"
def TJ9 : u_T := fun k => match k with
  | _ => ("", "", "", false)
def tyJ9 : Nat → FieldType := fun k => match k with
  | _ => .int
theorem nmJ9 : ∀ a, a < 0 → ∀ b, b < 0 → a ≠ b → (TJ9 a).2.1 ≠ (TJ9 b).2.1 := by decide +kernel
theorem tyJ9_ok : ∀ k, k < 0 → parseFieldDescriptor (TJ9 k).2.2.1 = some (tyJ9 k) := by decide +kernel
abbrev cJ9_max_7cf53 : ByteArray := prog_10_method_65_code
def yJ9_max_7cf53 : MethodName := ⟨RJ9, "max", "(II)I"⟩
def RJ10 : String := "java/lang/System"
def TJ10 : u_T := fun k => match k with
  | _ => ("", "", "", false)
def tyJ10 : Nat → FieldType := fun k => match k with
  | _ => .int
theorem nmJ10 : ∀ a, a < 0 → ∀ b, b < 0 → a ≠ b → (TJ10 a).2.1 ≠ (TJ10 b).2.1 := by decide +kernel
theorem tyJ10_ok : ∀ k, k < 0 → parseFieldDescriptor (TJ10 k).2.2.1 = some (tyJ10 k) := by decide +kernel
def RJ7 : String := "java/util/Arrays"
def TJ7 : u_T := fun k => match k with
  | _ => ("", "", "", false)
def tyJ7 : Nat → FieldType := fun k => match k with
  | _ => .int
theorem nmJ7 : ∀ a, a < 0 → ∀ b, b < 0 → a ≠ b → (TJ7 a).2.1 ≠ (TJ7 b).2.1 := by decide +kernel
theorem tyJ7_ok : ∀ k, k < 0 → parseFieldDescriptor (TJ7 k).2.2.1 = some (tyJ7 k) := by decide +kernel
abbrev cJ7_fill_53178 : ByteArray := prog_12_method_103_code
def yJ7_fill_53178 : MethodName := ⟨RJ7, "fill", "([II)V"⟩
def RL : String := "ShootDownLaw"
abbrev cL_law : ByteArray := code
abbrev vwCl : List vw_C := [(RX0, TX0, 4), (RX1, TX1, 5), (RX2, TX2, 2), (RX3, TX3, 8), (RX4, TX4, 4), (RX5, TX5, 15), (RX6, TX6, 30)]
-- ===== tables of links (a program of mine, out of the statement's tables) =====
def zNames : List String := ["ShootDown$Crew", "ShootDown$Memories", "ShootDown$Queues", "ShootDown$Shoots", "ShootDown$Tables", "ShootDown", "ShootDownModel"]
/-- a field link: class and index; the class of the object, the field's place, whether it is an int that may be written, whether the link is a nest mate's -/
def zfT : List ((String × Nat) × Nat × Nat × Bool × Bool) := [
  ((RX4, 9), 4, 0, false, false),
  ((RX5, 255), 4, 0, false, true),
  ((RX4, 15), 4, 1, false, false),
  ((RX4, 18), 4, 2, false, false),
  ((RX4, 21), 4, 3, false, false),
  ((RX0, 9), 0, 0, false, false),
  ((RX5, 83), 0, 0, false, true),
  ((RX0, 15), 0, 1, false, false),
  ((RX5, 94), 0, 1, false, true),
  ((RX0, 19), 0, 2, false, false),
  ((RX5, 202), 0, 2, false, true),
  ((RX0, 22), 0, 3, false, false),
  ((RX1, 9), 1, 0, false, false),
  ((RX5, 205), 1, 0, false, true),
  ((RX1, 15), 1, 1, false, false),
  ((RX1, 18), 1, 2, false, false),
  ((RX1, 21), 1, 3, false, false),
  ((RX1, 24), 1, 4, false, false),
  ((RX2, 9), 2, 0, false, false),
  ((RX5, 208), 2, 0, false, true),
  ((RX2, 15), 2, 1, false, false),
  ((RX3, 33), 3, 0, true, false),
  ((RX5, 230), 3, 0, true, true),
  ((RX3, 9), 3, 1, false, false),
  ((RX5, 172), 3, 1, false, true),
  ((RX3, 15), 3, 2, false, false),
  ((RX5, 175), 3, 2, false, true),
  ((RX3, 18), 3, 3, false, false),
  ((RX5, 176), 3, 3, false, true),
  ((RX3, 21), 3, 4, false, false),
  ((RX5, 179), 3, 4, false, true),
  ((RX3, 24), 3, 5, false, false),
  ((RX5, 182), 3, 5, false, true),
  ((RX3, 27), 3, 6, false, false),
  ((RX5, 188), 3, 6, false, true),
  ((RX3, 30), 3, 7, false, false),
  ((RX5, 191), 3, 7, false, true),
  ((RX5, 10), 5, 0, false, false),
  ((RX5, 19), 5, 1, false, false),
  ((RX5, 26), 5, 2, false, false),
  ((RX5, 33), 5, 3, false, false),
  ((RX5, 40), 5, 4, false, false),
  ((RX5, 48), 5, 5, true, false),
  ((RX5, 66), 5, 6, true, false),
  ((RX5, 118), 5, 7, true, false),
  ((RX5, 221), 5, 8, true, false),
  ((RX5, 237), 5, 9, true, false),
  ((RX5, 240), 5, 10, true, false),
  ((RX5, 243), 5, 11, true, false),
  ((RX5, 246), 5, 12, true, false),
  ((RX5, 249), 5, 13, true, false),
  ((RX5, 252), 5, 14, true, false),
  ((RX6, 72), 6, 0, true, false),
  ((RX6, 76), 6, 1, true, false),
  ((RX6, 79), 6, 2, true, false),
  ((RX6, 82), 6, 3, true, false),
  ((RX6, 7), 6, 4, false, false),
  ((RX6, 13), 6, 5, false, false),
  ((RX6, 16), 6, 6, false, false),
  ((RX6, 19), 6, 7, false, false),
  ((RX6, 22), 6, 8, false, false),
  ((RX6, 25), 6, 9, false, false),
  ((RX6, 28), 6, 10, false, false),
  ((RX6, 32), 6, 11, false, false),
  ((RX6, 35), 6, 12, false, false),
  ((RX6, 38), 6, 13, false, false),
  ((RX6, 41), 6, 14, false, false),
  ((RX6, 44), 6, 15, false, false),
  ((RX6, 85), 6, 16, true, false),
  ((RX6, 47), 6, 17, false, false),
  ((RX6, 50), 6, 18, false, false),
  ((RX6, 53), 6, 19, false, false),
  ((RX6, 56), 6, 20, false, false),
  ((RX6, 59), 6, 21, false, false),
  ((RX6, 62), 6, 22, false, false),
  ((RX6, 65), 6, 23, false, false),
  ((RX6, 88), 6, 24, true, false),
  ((RX6, 91), 6, 25, true, false),
  ((RX6, 94), 6, 26, true, false),
  ((RX6, 97), 6, 27, true, false),
  ((RX6, 100), 6, 28, true, false),
  ((RX6, 103), 6, 29, true, false)]
/-- a method link: class and index; the method, how many arguments, the kind (0 selected, 1 a nest mate's private one, 2 static, 3 System.arraycopy) -/
def zmT : List ((String × Nat) × MethodName × Nat × Nat) := [
  ((RX5, 44), yX5_startAgain, 1, 0),
  ((RX5, 270), yX4_startAgain, 0, 1),
  ((RX4, 24), yJ7_fill_53178, 2, 2),
  ((RX5, 272), yX0_startAgain, 0, 1),
  ((RX0, 25), yJ7_fill_53178, 2, 2),
  ((RX5, 273), yX1_startAgain, 0, 1),
  ((RX1, 27), yJ7_fill_53178, 2, 2),
  ((RX5, 274), yX2_startAgain, 0, 1),
  ((RX2, 18), yJ7_fill_53178, 2, 2),
  ((RX5, 275), yX3_startAgain, 0, 1),
  ((RL, 13), yX5_cores, 1, 0),
  ((RL, 18), yX5_map, 4, 0),
  ((RX5, 52), yX5_isSpace, 1, 2),
  ((RX5, 56), yX5_isPage, 1, 2),
  ((RX5, 59), yX5_isFrame, 1, 2),
  ((RX5, 62), yX4_entryNow, 2, 1),
  ((RX4, 30), yX4_rowOf, 2, 2),
  ((RX4, 34), yX4_entryKept, 3, 0),
  ((RX5, 69), yX5_entryOf, 2, 2),
  ((RX5, 73), yX4_change, 4, 1),
  ((RX4, 41), ⟨"java/lang/System", "arraycopy", "(Ljava/lang/Object;ILjava/lang/Object;II)V"⟩, 5, 3),
  ((RL, 23), yX5_entry, 2, 0),
  ((RL, 28), yX5_enter, 2, 0),
  ((RX5, 77), yX5_isCore, 1, 0),
  ((RX5, 80), yX5_isFree, 1, 0),
  ((RX5, 87), yX5_takeAllCalls, 1, 0),
  ((RX5, 166), yX5_takeFirstCall, 1, 0),
  ((RX5, 297), yX2_removeFirst, 1, 1),
  ((RX2, 24), ⟨"java/lang/System", "arraycopy", "(Ljava/lang/Object;ILjava/lang/Object;II)V"⟩, 5, 3),
  ((RX5, 169), yX3_isBegun, 1, 1),
  ((RX5, 112), yX1_forget, 3, 1),
  ((RX1, 33), yX1_isOf, 4, 0),
  ((RX1, 37), yX1_spaceNoted, 2, 0),
  ((RX1, 41), yX1_pageNoted, 2, 0),
  ((RX1, 48), yX1_move, 3, 0),
  ((RX5, 283), yX0_raiseGeneration, 3, 1),
  ((RX0, 31), yJ9_max_7cf53, 2, 4),
  ((RX5, 300), yX3_waitNoMore, 2, 1),
  ((RX5, 185), yX3_isDone, 1, 1),
  ((RX5, 91), yX5_catchUp, 1, 0),
  ((RX5, 280), yX5_isBehind, 2, 0),
  ((RX5, 211), yX0_generation, 2, 1),
  ((RL, 32), yX5_sleep, 1, 0),
  ((RL, 36), yX5_wake, 1, 0),
  ((RL, 40), yX5_look, 3, 0),
  ((RX5, 98), yX1_find, 3, 1),
  ((RX5, 102), yX5_walkTable, 4, 0),
  ((RX5, 109), yX5_isWritable, 1, 2),
  ((RX5, 276), yX1_keep, 5, 1),
  ((RX1, 44), yX1_forget, 3, 0),
  ((RX5, 131), yX5_frameOf, 1, 2),
  ((RX5, 106), yX1_entryNoted, 2, 1),
  ((RX5, 115), yX5_goByNote, 2, 0),
  ((RX5, 141), yX5_isStale, 2, 0),
  ((RX5, 125), yX1_spaceNoted, 2, 1),
  ((RX5, 128), yX1_pageNoted, 2, 1),
  ((RL, 45), yX5_how, 0, 0),
  ((RL, 50), yX5_note, 3, 0),
  ((RX5, 121), yX5_isNote, 2, 0),
  ((RX5, 134), yX5_oneIf, 1, 2),
  ((RX5, 138), yX1_timeNoted, 2, 1),
  ((RL, 55), yX5_wasSo, 2, 0),
  ((RX5, 144), yX4_heldFrom, 4, 1),
  ((RX4, 51), yX4_timeKept, 3, 0),
  ((RL, 59), yX5_unmap, 3, 0),
  ((RX5, 148), yX5_shootPage, 4, 0),
  ((RX5, 155), yX3_isFull, 0, 1),
  ((RX5, 163), yX5_beginShoot, 3, 0),
  ((RX5, 287), yX3_begin, 5, 1),
  ((RX5, 227), yX0_isAwakeIn, 2, 1),
  ((RX5, 291), yX2_append, 2, 1),
  ((RX5, 294), yX3_waitFor, 2, 1),
  ((RL, 63), yX5_remap, 5, 0),
  ((RL, 68), yX5_clear, 2, 0),
  ((RX5, 152), yX4_isAllNone, 1, 1),
  ((RX4, 38), yX4_entryNow, 2, 0),
  ((RX5, 159), yX4_changeAllToNone, 2, 1),
  ((RX4, 47), yX4_change, 4, 0),
  ((RL, 72), yX5_take, 1, 0),
  ((RL, 76), yX5_rounds, 2, 0),
  ((RL, 80), yX5_shoot, 2, 0),
  ((RX5, 194), yJ6_bitCount_0f7a4, 1, 2),
  ((RX5, 199), yX3_waitsFor, 2, 1),
  ((RL, 84), yX5_underWay, 1, 0),
  ((RL, 88), yX5_core, 2, 0),
  ((RL, 92), yX5_history, 3, 0),
  ((RX5, 214), yX4_isKept, 3, 1),
  ((RX5, 218), yX4_entryKept, 3, 1),
  ((RX5, 224), yX4_timeKept, 3, 1),
  ((RL, 96), yX5_seen, 0, 0),
  ((RL, 100), yX5_danger, 2, 0),
  ((RL, 104), yX5_count, 1, 0),
  ((RX5, 233), yX3_howManyDone, 0, 1),
  ((RX3, 37), yX3_isDone, 1, 0),
  ((RL, 108), yX5_digest, 0, 0),
  ((RX5, 260), yX5_entry, 2, 0),
  ((RX5, 263), yX5_digestOfCore, 2, 0),
  ((RX5, 303), yX5_core, 2, 0),
  ((RX5, 306), yX5_note, 3, 0),
  ((RX5, 267), yX5_shoot, 2, 0),
  ((RX6, 68), yX6_begin, 1, 0),
  ((RL, 17), yX6_cores, 1, 0),
  ((RX6, 106), yX6_in, 3, 2),
  ((RL, 22), yX6_map, 4, 0),
  ((RX6, 110), yX6_isPage, 2, 2),
  ((RX6, 114), yX6_entryOf, 2, 2),
  ((RX6, 118), yX6_become, 2, 0),
  ((RL, 27), yX6_entry, 2, 0),
  ((RX6, 122), yX6_told, 1, 2),
  ((RL, 31), yX6_enter, 2, 0),
  ((RX6, 139), yX6_isCore, 1, 0),
  ((RX6, 143), yX6_shootOf, 1, 0),
  ((RX6, 146), yX6_takeAll, 1, 0),
  ((RX6, 136), yX6_takeCall, 1, 0),
  ((RX6, 129), yX6_forget, 3, 0),
  ((RX6, 126), yX6_dropNote, 2, 0),
  ((RX6, 133), yX6_settle, 1, 0),
  ((RX6, 149), yX6_catchUp, 1, 0),
  ((RL, 35), yX6_sleep, 1, 0),
  ((RL, 39), yX6_wake, 1, 0),
  ((RL, 44), yX6_look, 3, 0),
  ((RX6, 152), yX6_noteOf, 3, 0),
  ((RX6, 155), yX6_isStale, 2, 0),
  ((RX6, 158), yX6_takeNote, 4, 0),
  ((RL, 49), yX6_how, 0, 0),
  ((RL, 54), yX6_note, 3, 0),
  ((RX6, 162), yX6_isNote, 2, 0),
  ((RL, 58), yX6_wasSo, 2, 0),
  ((RL, 62), yX6_unmap, 3, 0),
  ((RX6, 165), yX6_mayShoot, 1, 0),
  ((RX6, 168), yX6_begins, 4, 0),
  ((RL, 67), yX6_remap, 5, 0),
  ((RL, 71), yX6_clear, 2, 0),
  ((RL, 75), yX6_take, 1, 0),
  ((RL, 79), yX6_rounds, 2, 0),
  ((RL, 83), yX6_shoot, 2, 0),
  ((RX6, 172), yX6_waited, 1, 0),
  ((RL, 87), yX6_underWay, 1, 0),
  ((RL, 91), yX6_core, 2, 0),
  ((RL, 95), yX6_history, 3, 0),
  ((RL, 99), yX6_seen, 0, 0),
  ((RL, 103), yX6_danger, 2, 0),
  ((RL, 107), yX6_count, 1, 0),
  ((RL, 112), yX6_digest, 0, 0),
  ((RX6, 179), yX6_core, 2, 0),
  ((RX6, 183), yX6_note, 3, 0),
  ((RX6, 185), yX6_shoot, 2, 0)]
/-- the methods: bytes, locals, what they return -/
def zkT : List (MethodName × ByteArray × Nat × Option FieldType) := [
  (yX5_beginShoot, prog_1_method_34_code, 6, some .int),
  (yX5_catchUp, prog_1_method_37_code, 4, some .int),
  (yX5_clear, prog_1_method_14_code, 3, some .int),
  (yX5_core, prog_1_method_19_code, 3, some .int),
  (yX5_cores, prog_1_method_2_code, 3, some .int),
  (yX5_count, prog_1_method_23_code, 2, some .int),
  (yX5_danger, prog_1_method_22_code, 5, some .int),
  (yX5_digest, prog_1_method_24_code, 5, some .long),
  (yX5_digestOfCore, prog_1_method_38_code, 8, some .long),
  (yX5_enter, prog_1_method_5_code, 3, some .int),
  (yX5_entry, prog_1_method_4_code, 3, some .int),
  (yX5_entryOf, prog_1_method_42_code, 2, some .int),
  (yX5_frameOf, prog_1_method_43_code, 1, some .int),
  (yX5_goByNote, prog_1_method_31_code, 3, some .int),
  (yX5_history, prog_1_method_20_code, 4, some .int),
  (yX5_how, prog_1_method_9_code, 1, some .int),
  (yX5_isBehind, prog_1_method_28_code, 3, some .boolean),
  (yX5_isCore, prog_1_method_26_code, 2, some .boolean),
  (yX5_isFrame, prog_1_method_41_code, 1, some .boolean),
  (yX5_isFree, prog_1_method_27_code, 2, some .boolean),
  (yX5_isNote, prog_1_method_29_code, 3, some .boolean),
  (yX5_isPage, prog_1_method_40_code, 1, some .boolean),
  (yX5_isSpace, prog_1_method_39_code, 1, some .boolean),
  (yX5_isStale, prog_1_method_30_code, 3, some .boolean),
  (yX5_isWritable, prog_1_method_44_code, 1, some .boolean),
  (yX5_look, prog_1_method_8_code, 6, some .int),
  (yX5_map, prog_1_method_3_code, 5, some .int),
  (yX5_note, prog_1_method_10_code, 4, some .int),
  (yX5_oneIf, prog_1_method_45_code, 1, some .int),
  (yX5_remap, prog_1_method_13_code, 6, some .int),
  (yX5_rounds, prog_1_method_16_code, 6, some .int),
  (yX5_seen, prog_1_method_21_code, 1, some .int),
  (yX5_shoot, prog_1_method_17_code, 3, some .int),
  (yX5_shootPage, prog_1_method_33_code, 5, some .int),
  (yX5_sleep, prog_1_method_6_code, 3, some .int),
  (yX5_startAgain, prog_1_method_25_code, 2, none),
  (yX5_take, prog_1_method_15_code, 2, some .int),
  (yX5_takeAllCalls, prog_1_method_36_code, 4, some .int),
  (yX5_takeFirstCall, prog_1_method_35_code, 3, some .int),
  (yX5_underWay, prog_1_method_18_code, 2, some .int),
  (yX5_unmap, prog_1_method_12_code, 4, some .int),
  (yX5_wake, prog_1_method_7_code, 2, some .int),
  (yX5_walkTable, prog_1_method_32_code, 6, some .int),
  (yX5_wasSo, prog_1_method_11_code, 5, some .int),
  (yX0_generation, prog_2_method_4_code, 3, some .int),
  (yX0_isAwakeIn, prog_2_method_3_code, 3, some .boolean),
  (yX0_raiseGeneration, prog_2_method_5_code, 4, none),
  (yX0_startAgain, prog_2_method_2_code, 2, none),
  (yX1_entryNoted, prog_3_method_5_code, 3, some .int),
  (yX1_find, prog_3_method_7_code, 5, some .int),
  (yX1_forget, prog_3_method_9_code, 7, some .int),
  (yX1_isOf, prog_3_method_10_code, 5, some .boolean),
  (yX1_keep, prog_3_method_8_code, 7, none),
  (yX1_move, prog_3_method_11_code, 6, none),
  (yX1_pageNoted, prog_3_method_4_code, 3, some .int),
  (yX1_spaceNoted, prog_3_method_3_code, 3, some .int),
  (yX1_startAgain, prog_3_method_2_code, 1, none),
  (yX1_timeNoted, prog_3_method_6_code, 3, some .int),
  (yX2_append, prog_4_method_3_code, 3, none),
  (yX2_removeFirst, prog_4_method_4_code, 4, some .int),
  (yX2_startAgain, prog_4_method_2_code, 1, none),
  (yX3_begin, prog_5_method_8_code, 7, some .int),
  (yX3_howManyDone, prog_5_method_7_code, 3, some .int),
  (yX3_isBegun, prog_5_method_4_code, 2, some .boolean),
  (yX3_isDone, prog_5_method_5_code, 2, some .boolean),
  (yX3_isFull, prog_5_method_3_code, 1, some .boolean),
  (yX3_startAgain, prog_5_method_2_code, 1, none),
  (yX3_waitFor, prog_5_method_9_code, 3, none),
  (yX3_waitNoMore, prog_5_method_10_code, 3, none),
  (yX3_waitsFor, prog_5_method_6_code, 3, some .boolean),
  (yX4_change, prog_6_method_8_code, 7, none),
  (yX4_changeAllToNone, prog_6_method_9_code, 4, none),
  (yX4_entryKept, prog_6_method_4_code, 4, some .int),
  (yX4_entryNow, prog_6_method_6_code, 3, some .int),
  (yX4_heldFrom, prog_6_method_10_code, 8, some .boolean),
  (yX4_isAllNone, prog_6_method_7_code, 3, some .boolean),
  (yX4_isKept, prog_6_method_3_code, 4, some .boolean),
  (yX4_rowOf, prog_6_method_11_code, 2, some .int),
  (yX4_startAgain, prog_6_method_2_code, 1, none),
  (yX4_timeKept, prog_6_method_5_code, 4, some .int),
  (yX6_become, prog_8_method_7_code, 5, none),
  (yX6_begin, prog_8_method_3_code, 3, none),
  (yX6_begins, prog_8_method_31_code, 10, some .int),
  (yX6_catchUp, prog_8_method_20_code, 4, some .int),
  (yX6_clear, prog_8_method_34_code, 5, some .int),
  (yX6_core, prog_8_method_40_code, 3, some .int),
  (yX6_cores, prog_8_method_6_code, 3, some .int),
  (yX6_count, prog_8_method_44_code, 4, some .int),
  (yX6_danger, prog_8_method_43_code, 6, some .int),
  (yX6_digest, prog_8_method_45_code, 6, some .long),
  (yX6_dropNote, prog_8_method_12_code, 4, none),
  (yX6_enter, prog_8_method_21_code, 4, some .int),
  (yX6_entry, prog_8_method_11_code, 3, some .int),
  (yX6_entryOf, prog_8_method_8_code, 2, some .int),
  (yX6_forget, prog_8_method_14_code, 6, some .int),
  (yX6_history, prog_8_method_41_code, 5, some .int),
  (yX6_how, prog_8_method_26_code, 1, some .int),
  (yX6_in, prog_8_method_2_code, 3, some .boolean),
  (yX6_isCore, prog_8_method_4_code, 2, some .boolean),
  (yX6_isNote, prog_8_method_27_code, 3, some .boolean),
  (yX6_isPage, prog_8_method_5_code, 2, some .boolean),
  (yX6_isStale, prog_8_method_24_code, 4, some .boolean),
  (yX6_look, prog_8_method_25_code, 7, some .int),
  (yX6_map, prog_8_method_10_code, 5, some .int),
  (yX6_mayShoot, prog_8_method_30_code, 2, some .boolean),
  (yX6_note, prog_8_method_28_code, 5, some .int),
  (yX6_noteOf, prog_8_method_13_code, 5, some .int),
  (yX6_remap, prog_8_method_33_code, 6, some .int),
  (yX6_rounds, prog_8_method_36_code, 6, some .int),
  (yX6_seen, prog_8_method_42_code, 1, some .int),
  (yX6_settle, prog_8_method_17_code, 4, none),
  (yX6_shoot, prog_8_method_38_code, 3, some .int),
  (yX6_shootOf, prog_8_method_19_code, 3, some .int),
  (yX6_sleep, prog_8_method_22_code, 3, some .int),
  (yX6_take, prog_8_method_35_code, 2, some .int),
  (yX6_takeAll, prog_8_method_18_code, 4, some .int),
  (yX6_takeCall, prog_8_method_16_code, 5, some .int),
  (yX6_takeNote, prog_8_method_15_code, 6, none),
  (yX6_told, prog_8_method_9_code, 1, some .int),
  (yX6_underWay, prog_8_method_39_code, 2, some .int),
  (yX6_unmap, prog_8_method_32_code, 4, some .int),
  (yX6_waited, prog_8_method_37_code, 4, some .int),
  (yX6_wake, prog_8_method_23_code, 2, some .int),
  (yX6_wasSo, prog_8_method_29_code, 7, some .int),
  (yJ6_bitCount_0f7a4, prog_9_method_49_code, 1, some .int),
  (yJ7_fill_53178, prog_12_method_103_code, 4, none)]
def zcT : List ((String × Nat) × Int32) := [(("java/lang/Integer", 265), 1431655765), (("java/lang/Integer", 266), 858993459), (("java/lang/Integer", 267), 252645135)]
def zlT : List ((String × Nat) × Int64) := [(("ShootDown", 256), 67), (("ShootDown", 258), 31), (("ShootDownModel", 175), 67), (("ShootDownModel", 177), 31)]
def zfW : List Nat := [92, 93, 94, 95, 96, 113, 114, 115, 116, 117, 118, 119, 136, 137, 138, 139, 140, 141, 159, 160, 161, 173, 174, 175, 176, 177, 178, 179, 180, 181, 182, 183, 184, 185, 186, 187, 188, 236, 237, 238, 239, 240, 241, 242, 243, 244, 245, 246, 247, 248, 249, 250, 607, 608, 609, 610, 611, 612, 613, 614, 615, 616, 617, 618, 619, 620, 621, 622, 623, 624, 625, 626, 627, 628, 629, 630, 631, 632, 633, 634, 635, 636]
def zmW : List (Nat × Nat × Nat × Nat) := [(206, 208, 0, 67), (210, 212, 1, 68), (214, 215, 0, 73), (217, 219, 2, 69), (221, 215, 0, 73), (222, 224, 3, 70), (226, 215, 0, 73), (227, 229, 4, 71), (231, 215, 0, 73), (232, 234, 5, 72), (282, 283, 284, 67), (286, 287, 288, 67), (290, 291, 0, 67), (293, 294, 0, 67), (296, 297, 0, 67), (299, 301, 6, 68), (303, 304, 0, 68), (306, 308, 7, 68), (310, 311, 0, 67), (313, 315, 8, 68), (317, 318, 319, 75), (320, 321, 322, 67), (324, 325, 326, 67), (328, 330, 9, 67), (332, 334, 10, 67), (336, 338, 11, 67), (340, 342, 12, 67), (344, 346, 13, 71), (348, 318, 319, 75), (349, 351, 14, 72), (353, 355, 15, 70), (357, 359, 16, 70), (361, 363, 17, 70), (365, 367, 18, 70), (369, 371, 19, 70), (373, 375, 20, 69), (377, 378, 379, 76), (380, 382, 21, 72), (384, 386, 22, 72), (388, 390, 23, 67), (392, 394, 24, 67), (396, 398, 25, 69), (400, 401, 402, 67), (404, 405, 406, 67), (408, 409, 410, 67), (412, 414, 26, 70), (416, 418, 27, 67), (420, 421, 0, 67), (423, 425, 28, 70), (427, 355, 15, 70), (428, 429, 0, 67), (431, 433, 29, 70), (435, 437, 30, 67), (439, 441, 31, 67), (443, 363, 17, 70), (444, 367, 18, 70), (445, 446, 447, 67), (449, 450, 451, 67), (453, 455, 32, 67), (457, 458, 0, 67), (460, 462, 33, 70), (464, 465, 466, 67), (468, 470, 34, 68), (472, 474, 35, 68), (476, 477, 478, 67), (480, 482, 36, 67), (484, 486, 37, 72), (488, 490, 38, 67), (492, 494, 39, 72), (496, 498, 40, 69), (500, 502, 41, 71), (504, 506, 42, 72), (508, 509, 510, 67), (512, 513, 514, 67), (516, 518, 43, 68), (520, 301, 6, 68), (521, 523, 44, 68), (525, 315, 8, 68), (526, 527, 528, 67), (530, 531, 532, 67), (534, 535, 536, 67), (538, 539, 0, 77), (544, 546, 45, 72), (548, 549, 550, 67), (552, 553, 554, 67), (556, 557, 558, 67), (560, 562, 46, 68), (564, 308, 7, 68), (565, 474, 35, 68), (566, 567, 568, 67), (570, 571, 572, 67), (574, 575, 576, 67), (578, 580, 47, 72), (582, 386, 22, 72), (583, 584, 585, 67), (589, 321, 322, 67), (590, 592, 48, 67), (594, 553, 554, 67), (595, 450, 451, 67), (596, 535, 536, 67), (603, 605, 49, 74), (698, 699, 700, 74), (702, 703, 0, 74), (705, 706, 707, 74), (709, 710, 0, 74), (712, 713, 0, 74), (715, 717, 50, 74), (719, 720, 721, 74), (723, 724, 0, 74), (726, 727, 728, 74), (730, 732, 51, 74), (734, 736, 52, 74), (738, 740, 53, 74), (742, 744, 54, 74), (746, 748, 55, 74), (750, 752, 56, 74), (754, 756, 57, 74), (758, 760, 58, 74), (762, 763, 764, 74), (766, 767, 768, 74), (770, 771, 772, 74), (774, 776, 59, 74), (778, 780, 60, 74), (782, 784, 61, 74), (786, 787, 788, 74), (790, 791, 792, 74), (794, 796, 62, 74), (798, 799, 800, 74), (802, 803, 804, 74), (806, 808, 63, 74), (810, 812, 64, 74), (814, 815, 816, 74), (818, 819, 820, 74), (822, 823, 824, 74), (826, 827, 828, 74), (830, 831, 832, 74), (834, 836, 65, 74), (838, 839, 840, 74), (842, 843, 844, 74), (846, 847, 848, 74), (850, 851, 852, 74), (854, 855, 856, 74), (858, 859, 860, 74), (862, 863, 864, 74), (868, 843, 844, 74), (869, 791, 792, 74), (870, 831, 832, 74)]
def zkW : List Nat := [491, 391, 515, 555, 285, 577, 573, 586, 593, 327, 323, 312, 430, 438, 559, 448, 395, 331, 298, 335, 456, 295, 292, 442, 422, 411, 289, 452, 459, 511, 533, 569, 537, 483, 403, 209, 529, 339, 343, 551, 479, 407, 419, 467, 399, 499, 376, 220, 434, 415, 356, 360, 426, 372, 368, 364, 225, 463, 503, 347, 230, 495, 581, 352, 387, 487, 235, 507, 383, 547, 316, 524, 309, 302, 471, 519, 563, 305, 213, 475, 718, 606, 813, 761, 821, 845, 701, 861, 857, 865, 753, 729, 722, 714, 749, 849, 789, 704, 733, 797, 711, 781, 773, 708, 809, 793, 777, 817, 829, 853, 757, 833, 737, 765, 825, 741, 745, 785, 725, 841, 805, 837, 769, 801, 540, 216]
def zcW : List Nat := [541, 542, 543]
def zlW : List Nat := [587, 588, 866, 867]
