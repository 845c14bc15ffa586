section
-- ===== PART A: goes FIRST, ahead of the names: the tables' words, and 'selects' of the private methods out of them =====
/-- a private method of a class that the tables say can be made, by its rows of tables_1 -/
def lw_okq (q : MethodName × Nat) : Prop := (q.1.cls ≠ "java/lang/invoke/MethodHandle" ∧ q.1.cls ≠ "java/lang/invoke/VarHandle") ∧ Cond.instantiable q.1.cls q.2 ∈ tables_1 ∧ Cond.privateMethod q.1 ∈ tables_1 ∧ Cond.instanceMethod q.1 ∈ tables_1
theorem lw_p0 : lw_okq (⟨"PokerEvening$Text", "append", "(I)Z"⟩, 4) := ⟨⟨by decide +kernel, by decide +kernel⟩, List.mem_of_getElem? (i := 27) (by decide +kernel), List.mem_of_getElem? (i := 261) (by decide +kernel), List.mem_of_getElem? (i := 262) (by decide +kernel)⟩
theorem lw_p1 : lw_okq (⟨"PokerEvening$Text", "readInto", "(LPokerEvening$Room;)I"⟩, 4) := ⟨⟨by decide +kernel, by decide +kernel⟩, List.mem_of_getElem? (i := 27) (by decide +kernel), List.mem_of_getElem? (i := 268) (by decide +kernel), List.mem_of_getElem? (i := 269) (by decide +kernel)⟩
theorem lw_p2 : lw_okq (⟨"PokerEvening$Room", "clear", "()V"⟩, 10) := ⟨⟨by decide +kernel, by decide +kernel⟩, List.mem_of_getElem? (i := 48) (by decide +kernel), List.mem_of_getElem? (i := 272) (by decide +kernel), List.mem_of_getElem? (i := 273) (by decide +kernel)⟩
theorem lw_p3 : lw_okq (⟨"PokerEvening$Text", "readItem", "(LPokerEvening$Room;)Z"⟩, 4) := ⟨⟨by decide +kernel, by decide +kernel⟩, List.mem_of_getElem? (i := 27) (by decide +kernel), List.mem_of_getElem? (i := 276) (by decide +kernel), List.mem_of_getElem? (i := 277) (by decide +kernel)⟩
theorem lw_p4 : lw_okq (⟨"PokerEvening$Text", "take", "()I"⟩, 4) := ⟨⟨by decide +kernel, by decide +kernel⟩, List.mem_of_getElem? (i := 27) (by decide +kernel), List.mem_of_getElem? (i := 280) (by decide +kernel), List.mem_of_getElem? (i := 281) (by decide +kernel)⟩
theorem lw_p5 : lw_okq (⟨"PokerEvening$Text", "peek", "()I"⟩, 4) := ⟨⟨by decide +kernel, by decide +kernel⟩, List.mem_of_getElem? (i := 27) (by decide +kernel), List.mem_of_getElem? (i := 284) (by decide +kernel), List.mem_of_getElem? (i := 285) (by decide +kernel)⟩
theorem lw_p6 : lw_okq (⟨"PokerEvening$Text", "readNumbers", "(I)Z"⟩, 4) := ⟨⟨by decide +kernel, by decide +kernel⟩, List.mem_of_getElem? (i := 27) (by decide +kernel), List.mem_of_getElem? (i := 291) (by decide +kernel), List.mem_of_getElem? (i := 292) (by decide +kernel)⟩
theorem lw_p7 : lw_okq (⟨"PokerEvening$Room", "addTeller", "(II)Z"⟩, 10) := ⟨⟨by decide +kernel, by decide +kernel⟩, List.mem_of_getElem? (i := 48) (by decide +kernel), List.mem_of_getElem? (i := 298) (by decide +kernel), List.mem_of_getElem? (i := 299) (by decide +kernel)⟩
theorem lw_p8 : lw_okq (⟨"PokerEvening$Room", "addFact", "(I)Z"⟩, 10) := ⟨⟨by decide +kernel, by decide +kernel⟩, List.mem_of_getElem? (i := 48) (by decide +kernel), List.mem_of_getElem? (i := 306) (by decide +kernel), List.mem_of_getElem? (i := 307) (by decide +kernel)⟩
theorem lw_p9 : lw_okq (⟨"PokerEvening$Room", "addClaim", "(IIII)Z"⟩, 10) := ⟨⟨by decide +kernel, by decide +kernel⟩, List.mem_of_getElem? (i := 48) (by decide +kernel), List.mem_of_getElem? (i := 310) (by decide +kernel), List.mem_of_getElem? (i := 311) (by decide +kernel)⟩
theorem lw_p10 : lw_okq (⟨"PokerEvening$Room", "allowsClaim", "(IIII)Z"⟩, 10) := ⟨⟨by decide +kernel, by decide +kernel⟩, List.mem_of_getElem? (i := 48) (by decide +kernel), List.mem_of_getElem? (i := 314) (by decide +kernel), List.mem_of_getElem? (i := 315) (by decide +kernel)⟩
theorem lw_p11 : lw_okq (⟨"PokerEvening$Room", "isTeller", "(I)Z"⟩, 10) := ⟨⟨by decide +kernel, by decide +kernel⟩, List.mem_of_getElem? (i := 48) (by decide +kernel), List.mem_of_getElem? (i := 318) (by decide +kernel), List.mem_of_getElem? (i := 319) (by decide +kernel)⟩
theorem lw_p12 : lw_okq (⟨"PokerEvening$Room", "isFact", "(I)Z"⟩, 10) := ⟨⟨by decide +kernel, by decide +kernel⟩, List.mem_of_getElem? (i := 48) (by decide +kernel), List.mem_of_getElem? (i := 322) (by decide +kernel), List.mem_of_getElem? (i := 323) (by decide +kernel)⟩
theorem lw_p13 : lw_okq (⟨"PokerEvening$Text", "clear", "()V"⟩, 4) := ⟨⟨by decide +kernel, by decide +kernel⟩, List.mem_of_getElem? (i := 27) (by decide +kernel), List.mem_of_getElem? (i := 326) (by decide +kernel), List.mem_of_getElem? (i := 327) (by decide +kernel)⟩
theorem lw_p14 : lw_okq (⟨"PokerEvening$Room", "copyFrom", "(LPokerEvening$Room;)V"⟩, 10) := ⟨⟨by decide +kernel, by decide +kernel⟩, List.mem_of_getElem? (i := 48) (by decide +kernel), List.mem_of_getElem? (i := 373) (by decide +kernel), List.mem_of_getElem? (i := 374) (by decide +kernel)⟩
theorem lw_p15 : lw_okq (⟨"PokerEvening$Sights", "clear", "()V"⟩, 3) := ⟨⟨by decide +kernel, by decide +kernel⟩, List.mem_of_getElem? (i := 175) (by decide +kernel), List.mem_of_getElem? (i := 386) (by decide +kernel), List.mem_of_getElem? (i := 387) (by decide +kernel)⟩
def lw_privs_1 : List (MethodName × Nat) := [(⟨"PokerEvening$Text", "append", "(I)Z"⟩, 4), (⟨"PokerEvening$Text", "readInto", "(LPokerEvening$Room;)I"⟩, 4), (⟨"PokerEvening$Room", "clear", "()V"⟩, 10), (⟨"PokerEvening$Text", "readItem", "(LPokerEvening$Room;)Z"⟩, 4), (⟨"PokerEvening$Text", "take", "()I"⟩, 4), (⟨"PokerEvening$Text", "peek", "()I"⟩, 4), (⟨"PokerEvening$Text", "readNumbers", "(I)Z"⟩, 4), (⟨"PokerEvening$Room", "addTeller", "(II)Z"⟩, 10), (⟨"PokerEvening$Room", "addFact", "(I)Z"⟩, 10), (⟨"PokerEvening$Room", "addClaim", "(IIII)Z"⟩, 10), (⟨"PokerEvening$Room", "allowsClaim", "(IIII)Z"⟩, 10), (⟨"PokerEvening$Room", "isTeller", "(I)Z"⟩, 10), (⟨"PokerEvening$Room", "isFact", "(I)Z"⟩, 10), (⟨"PokerEvening$Text", "clear", "()V"⟩, 4), (⟨"PokerEvening$Room", "copyFrom", "(LPokerEvening$Room;)V"⟩, 10), (⟨"PokerEvening$Sights", "clear", "()V"⟩, 3)]
theorem lw_r1 : ∀ q ∈ lw_privs_1, lw_okq q := List.forall_mem_cons.mpr ⟨lw_p0, List.forall_mem_cons.mpr ⟨lw_p1, List.forall_mem_cons.mpr ⟨lw_p2, List.forall_mem_cons.mpr ⟨lw_p3, List.forall_mem_cons.mpr ⟨lw_p4, List.forall_mem_cons.mpr ⟨lw_p5, List.forall_mem_cons.mpr ⟨lw_p6, List.forall_mem_cons.mpr ⟨lw_p7, List.forall_mem_cons.mpr ⟨lw_p8, List.forall_mem_cons.mpr ⟨lw_p9, List.forall_mem_cons.mpr ⟨lw_p10, List.forall_mem_cons.mpr ⟨lw_p11, List.forall_mem_cons.mpr ⟨lw_p12, List.forall_mem_cons.mpr ⟨lw_p13, List.forall_mem_cons.mpr ⟨lw_p14, List.forall_mem_cons.mpr ⟨lw_p15, fun _ h => absurd h List.not_mem_nil⟩⟩⟩⟩⟩⟩⟩⟩⟩⟩⟩⟩⟩⟩⟩⟩
theorem lw_p16 : lw_okq (⟨"PokerEvening$Shelf", "clear", "()V"⟩, 2) := ⟨⟨by decide +kernel, by decide +kernel⟩, List.mem_of_getElem? (i := 192) (by decide +kernel), List.mem_of_getElem? (i := 390) (by decide +kernel), List.mem_of_getElem? (i := 391) (by decide +kernel)⟩
theorem lw_p17 : lw_okq (⟨"PokerEvening$Room", "isClaim", "(I)Z"⟩, 10) := ⟨⟨by decide +kernel, by decide +kernel⟩, List.mem_of_getElem? (i := 48) (by decide +kernel), List.mem_of_getElem? (i := 412) (by decide +kernel), List.mem_of_getElem? (i := 413) (by decide +kernel)⟩
theorem lw_p18 : lw_okq (⟨"PokerEvening$Room", "isFalse", "(I)Z"⟩, 10) := ⟨⟨by decide +kernel, by decide +kernel⟩, List.mem_of_getElem? (i := 48) (by decide +kernel), List.mem_of_getElem? (i := 416) (by decide +kernel), List.mem_of_getElem? (i := 417) (by decide +kernel)⟩
theorem lw_p19 : lw_okq (⟨"PokerEvening$Shelf", "push", "(LPokerEvening$Room;)V"⟩, 2) := ⟨⟨by decide +kernel, by decide +kernel⟩, List.mem_of_getElem? (i := 192) (by decide +kernel), List.mem_of_getElem? (i := 426) (by decide +kernel), List.mem_of_getElem? (i := 427) (by decide +kernel)⟩
theorem lw_p20 : lw_okq (⟨"PokerEvening$Shelf", "dropOldest", "()V"⟩, 2) := ⟨⟨by decide +kernel, by decide +kernel⟩, List.mem_of_getElem? (i := 192) (by decide +kernel), List.mem_of_getElem? (i := 430) (by decide +kernel), List.mem_of_getElem? (i := 431) (by decide +kernel)⟩
theorem lw_p21 : lw_okq (⟨"PokerEvening$Shelf", "roomAt", "(I)LPokerEvening$Room;"⟩, 2) := ⟨⟨by decide +kernel, by decide +kernel⟩, List.mem_of_getElem? (i := 192) (by decide +kernel), List.mem_of_getElem? (i := 434) (by decide +kernel), List.mem_of_getElem? (i := 435) (by decide +kernel)⟩
theorem lw_p22 : lw_okq (⟨"PokerEvening$Room", "turnFact", "(I)V"⟩, 10) := ⟨⟨by decide +kernel, by decide +kernel⟩, List.mem_of_getElem? (i := 48) (by decide +kernel), List.mem_of_getElem? (i := 439) (by decide +kernel), List.mem_of_getElem? (i := 440) (by decide +kernel)⟩
theorem lw_p23 : lw_okq (⟨"PokerEvening$Room", "removeClaim", "(I)V"⟩, 10) := ⟨⟨by decide +kernel, by decide +kernel⟩, List.mem_of_getElem? (i := 48) (by decide +kernel), List.mem_of_getElem? (i := 453) (by decide +kernel), List.mem_of_getElem? (i := 454) (by decide +kernel)⟩
theorem lw_p24 : lw_okq (⟨"PokerEvening$Room", "moveClaim", "(II)V"⟩, 10) := ⟨⟨by decide +kernel, by decide +kernel⟩, List.mem_of_getElem? (i := 48) (by decide +kernel), List.mem_of_getElem? (i := 457) (by decide +kernel), List.mem_of_getElem? (i := 458) (by decide +kernel)⟩
theorem lw_p25 : lw_okq (⟨"PokerEvening$Shelf", "popInto", "(LPokerEvening$Room;)Z"⟩, 2) := ⟨⟨by decide +kernel, by decide +kernel⟩, List.mem_of_getElem? (i := 192) (by decide +kernel), List.mem_of_getElem? (i := 478) (by decide +kernel), List.mem_of_getElem? (i := 479) (by decide +kernel)⟩
theorem lw_p26 : lw_okq (⟨"PokerEvening$Evening", "hold", "(LPokerEvening$Room;)V"⟩, 4) := ⟨⟨by decide +kernel, by decide +kernel⟩, List.mem_of_getElem? (i := 103) (by decide +kernel), List.mem_of_getElem? (i := 486) (by decide +kernel), List.mem_of_getElem? (i := 487) (by decide +kernel)⟩
theorem lw_p27 : lw_okq (⟨"PokerEvening$Evening", "begin", "()V"⟩, 4) := ⟨⟨by decide +kernel, by decide +kernel⟩, List.mem_of_getElem? (i := 103) (by decide +kernel), List.mem_of_getElem? (i := 490) (by decide +kernel), List.mem_of_getElem? (i := 491) (by decide +kernel)⟩
theorem lw_p28 : lw_okq (⟨"PokerEvening$Iron", "cool", "()V"⟩, 4) := ⟨⟨by decide +kernel, by decide +kernel⟩, List.mem_of_getElem? (i := 109) (by decide +kernel), List.mem_of_getElem? (i := 494) (by decide +kernel), List.mem_of_getElem? (i := 495) (by decide +kernel)⟩
theorem lw_p29 : lw_okq (⟨"PokerEvening$Iron", "take", "(LPokerEvening$Room;I)I"⟩, 4) := ⟨⟨by decide +kernel, by decide +kernel⟩, List.mem_of_getElem? (i := 109) (by decide +kernel), List.mem_of_getElem? (i := 499) (by decide +kernel), List.mem_of_getElem? (i := 500) (by decide +kernel)⟩
theorem lw_p30 : lw_okq (⟨"PokerEvening$Search", "run", "(LPokerEvening$Room;)V"⟩, 4) := ⟨⟨by decide +kernel, by decide +kernel⟩, List.mem_of_getElem? (i := 151) (by decide +kernel), List.mem_of_getElem? (i := 527) (by decide +kernel), List.mem_of_getElem? (i := 528) (by decide +kernel)⟩
theorem lw_p31 : lw_okq (⟨"PokerEvening$Search", "stageAt", "(I)LPokerEvening$Iron;"⟩, 4) := ⟨⟨by decide +kernel, by decide +kernel⟩, List.mem_of_getElem? (i := 151) (by decide +kernel), List.mem_of_getElem? (i := 531) (by decide +kernel), List.mem_of_getElem? (i := 532) (by decide +kernel)⟩
def lw_privs_2 : List (MethodName × Nat) := [(⟨"PokerEvening$Shelf", "clear", "()V"⟩, 2), (⟨"PokerEvening$Room", "isClaim", "(I)Z"⟩, 10), (⟨"PokerEvening$Room", "isFalse", "(I)Z"⟩, 10), (⟨"PokerEvening$Shelf", "push", "(LPokerEvening$Room;)V"⟩, 2), (⟨"PokerEvening$Shelf", "dropOldest", "()V"⟩, 2), (⟨"PokerEvening$Shelf", "roomAt", "(I)LPokerEvening$Room;"⟩, 2), (⟨"PokerEvening$Room", "turnFact", "(I)V"⟩, 10), (⟨"PokerEvening$Room", "removeClaim", "(I)V"⟩, 10), (⟨"PokerEvening$Room", "moveClaim", "(II)V"⟩, 10), (⟨"PokerEvening$Shelf", "popInto", "(LPokerEvening$Room;)Z"⟩, 2), (⟨"PokerEvening$Evening", "hold", "(LPokerEvening$Room;)V"⟩, 4), (⟨"PokerEvening$Evening", "begin", "()V"⟩, 4), (⟨"PokerEvening$Iron", "cool", "()V"⟩, 4), (⟨"PokerEvening$Iron", "take", "(LPokerEvening$Room;I)I"⟩, 4), (⟨"PokerEvening$Search", "run", "(LPokerEvening$Room;)V"⟩, 4), (⟨"PokerEvening$Search", "stageAt", "(I)LPokerEvening$Iron;"⟩, 4)]
theorem lw_r2 : ∀ q ∈ lw_privs_2, lw_okq q := List.forall_mem_cons.mpr ⟨lw_p16, List.forall_mem_cons.mpr ⟨lw_p17, List.forall_mem_cons.mpr ⟨lw_p18, List.forall_mem_cons.mpr ⟨lw_p19, List.forall_mem_cons.mpr ⟨lw_p20, List.forall_mem_cons.mpr ⟨lw_p21, List.forall_mem_cons.mpr ⟨lw_p22, List.forall_mem_cons.mpr ⟨lw_p23, List.forall_mem_cons.mpr ⟨lw_p24, List.forall_mem_cons.mpr ⟨lw_p25, List.forall_mem_cons.mpr ⟨lw_p26, List.forall_mem_cons.mpr ⟨lw_p27, List.forall_mem_cons.mpr ⟨lw_p28, List.forall_mem_cons.mpr ⟨lw_p29, List.forall_mem_cons.mpr ⟨lw_p30, List.forall_mem_cons.mpr ⟨lw_p31, fun _ h => absurd h List.not_mem_nil⟩⟩⟩⟩⟩⟩⟩⟩⟩⟩⟩⟩⟩⟩⟩⟩
theorem lw_p32 : lw_okq (⟨"PokerEvening$Search", "look", "(LPokerEvening$Room;II)V"⟩, 4) := ⟨⟨by decide +kernel, by decide +kernel⟩, List.mem_of_getElem? (i := 151) (by decide +kernel), List.mem_of_getElem? (i := 536) (by decide +kernel), List.mem_of_getElem? (i := 537) (by decide +kernel)⟩
theorem lw_p33 : lw_okq (⟨"PokerEvening$Iron", "copyFrom", "(LPokerEvening$Iron;)V"⟩, 4) := ⟨⟨by decide +kernel, by decide +kernel⟩, List.mem_of_getElem? (i := 109) (by decide +kernel), List.mem_of_getElem? (i := 553) (by decide +kernel), List.mem_of_getElem? (i := 554) (by decide +kernel)⟩
theorem lw_p34 : lw_okq (⟨"PokerEvening", "fewestLeft", "(I)I"⟩, 8) := ⟨⟨by decide +kernel, by decide +kernel⟩, List.mem_of_getElem? (i := 19) (by decide +kernel), List.mem_of_getElem? (i := 562) (by decide +kernel), List.mem_of_getElem? (i := 563) (by decide +kernel)⟩
theorem lw_p35 : lw_okq (⟨"PokerEvening", "letsGoWithout", "(II)Z"⟩, 8) := ⟨⟨by decide +kernel, by decide +kernel⟩, List.mem_of_getElem? (i := 19) (by decide +kernel), List.mem_of_getElem? (i := 567) (by decide +kernel), List.mem_of_getElem? (i := 568) (by decide +kernel)⟩
theorem lw_p36 : lw_okq (⟨"PokerEvening", "goneIfHeldBy", "(II)I"⟩, 8) := ⟨⟨by decide +kernel, by decide +kernel⟩, List.mem_of_getElem? (i := 19) (by decide +kernel), List.mem_of_getElem? (i := 577) (by decide +kernel), List.mem_of_getElem? (i := 578) (by decide +kernel)⟩
theorem lw_p37 : lw_okq (⟨"PokerEvening$Sights", "note", "(II)Z"⟩, 3) := ⟨⟨by decide +kernel, by decide +kernel⟩, List.mem_of_getElem? (i := 175) (by decide +kernel), List.mem_of_getElem? (i := 585) (by decide +kernel), List.mem_of_getElem? (i := 586) (by decide +kernel)⟩
theorem lw_p38 : lw_okq (⟨"PokerEvening", "fittingWorlds", "()J"⟩, 8) := ⟨⟨by decide +kernel, by decide +kernel⟩, List.mem_of_getElem? (i := 19) (by decide +kernel), List.mem_of_getElem? (i := 598) (by decide +kernel), List.mem_of_getElem? (i := 599) (by decide +kernel)⟩
theorem lw_p39 : lw_okq (⟨"PokerEvening$Room", "worldCount", "()I"⟩, 10) := ⟨⟨by decide +kernel, by decide +kernel⟩, List.mem_of_getElem? (i := 48) (by decide +kernel), List.mem_of_getElem? (i := 602) (by decide +kernel), List.mem_of_getElem? (i := 603) (by decide +kernel)⟩
theorem lw_p40 : lw_okq (⟨"PokerEvening", "fits", "(LPokerEvening$Room;)Z"⟩, 8) := ⟨⟨by decide +kernel, by decide +kernel⟩, List.mem_of_getElem? (i := 19) (by decide +kernel), List.mem_of_getElem? (i := 606) (by decide +kernel), List.mem_of_getElem? (i := 607) (by decide +kernel)⟩
theorem lw_p41 : lw_okq (⟨"PokerEvening$Sights", "agreeWith", "(LPokerEvening$Evening;)Z"⟩, 3) := ⟨⟨by decide +kernel, by decide +kernel⟩, List.mem_of_getElem? (i := 175) (by decide +kernel), List.mem_of_getElem? (i := 610) (by decide +kernel), List.mem_of_getElem? (i := 611) (by decide +kernel)⟩
theorem lw_p42 : lw_okq (⟨"PokerEvening", "lowestWorld", "(J)I"⟩, 8) := ⟨⟨by decide +kernel, by decide +kernel⟩, List.mem_of_getElem? (i := 19) (by decide +kernel), List.mem_of_getElem? (i := 621) (by decide +kernel), List.mem_of_getElem? (i := 622) (by decide +kernel)⟩
theorem lw_p43 : lw_okq (⟨"PokerEvening", "sureFacts", "(JI)I"⟩, 8) := ⟨⟨by decide +kernel, by decide +kernel⟩, List.mem_of_getElem? (i := 19) (by decide +kernel), List.mem_of_getElem? (i := 628) (by decide +kernel), List.mem_of_getElem? (i := 629) (by decide +kernel)⟩
theorem lw_p44 : lw_okq (⟨"PokerEvening", "worldsOfDrop", "(JIII)I"⟩, 8) := ⟨⟨by decide +kernel, by decide +kernel⟩, List.mem_of_getElem? (i := 19) (by decide +kernel), List.mem_of_getElem? (i := 636) (by decide +kernel), List.mem_of_getElem? (i := 637) (by decide +kernel)⟩
theorem lw_p45 : lw_okq (⟨"PokerEvening", "chanceOf", "(II)I"⟩, 8) := ⟨⟨by decide +kernel, by decide +kernel⟩, List.mem_of_getElem? (i := 19) (by decide +kernel), List.mem_of_getElem? (i := 653) (by decide +kernel), List.mem_of_getElem? (i := 654) (by decide +kernel)⟩
theorem lw_p46 : lw_okq (⟨"PokerEvening$Room", "falseClaims", "()I"⟩, 10) := ⟨⟨by decide +kernel, by decide +kernel⟩, List.mem_of_getElem? (i := 48) (by decide +kernel), List.mem_of_getElem? (i := 686) (by decide +kernel), List.mem_of_getElem? (i := 687) (by decide +kernel)⟩
theorem lw_p47 : lw_okq (⟨"PokerEvening", "goneTonight", "()I"⟩, 8) := ⟨⟨by decide +kernel, by decide +kernel⟩, List.mem_of_getElem? (i := 19) (by decide +kernel), List.mem_of_getElem? (i := 692) (by decide +kernel), List.mem_of_getElem? (i := 693) (by decide +kernel)⟩
def lw_privs_3 : List (MethodName × Nat) := [(⟨"PokerEvening$Search", "look", "(LPokerEvening$Room;II)V"⟩, 4), (⟨"PokerEvening$Iron", "copyFrom", "(LPokerEvening$Iron;)V"⟩, 4), (⟨"PokerEvening", "fewestLeft", "(I)I"⟩, 8), (⟨"PokerEvening", "letsGoWithout", "(II)Z"⟩, 8), (⟨"PokerEvening", "goneIfHeldBy", "(II)I"⟩, 8), (⟨"PokerEvening$Sights", "note", "(II)Z"⟩, 3), (⟨"PokerEvening", "fittingWorlds", "()J"⟩, 8), (⟨"PokerEvening$Room", "worldCount", "()I"⟩, 10), (⟨"PokerEvening", "fits", "(LPokerEvening$Room;)Z"⟩, 8), (⟨"PokerEvening$Sights", "agreeWith", "(LPokerEvening$Evening;)Z"⟩, 3), (⟨"PokerEvening", "lowestWorld", "(J)I"⟩, 8), (⟨"PokerEvening", "sureFacts", "(JI)I"⟩, 8), (⟨"PokerEvening", "worldsOfDrop", "(JIII)I"⟩, 8), (⟨"PokerEvening", "chanceOf", "(II)I"⟩, 8), (⟨"PokerEvening$Room", "falseClaims", "()I"⟩, 10), (⟨"PokerEvening", "goneTonight", "()I"⟩, 8)]
theorem lw_r3 : ∀ q ∈ lw_privs_3, lw_okq q := List.forall_mem_cons.mpr ⟨lw_p32, List.forall_mem_cons.mpr ⟨lw_p33, List.forall_mem_cons.mpr ⟨lw_p34, List.forall_mem_cons.mpr ⟨lw_p35, List.forall_mem_cons.mpr ⟨lw_p36, List.forall_mem_cons.mpr ⟨lw_p37, List.forall_mem_cons.mpr ⟨lw_p38, List.forall_mem_cons.mpr ⟨lw_p39, List.forall_mem_cons.mpr ⟨lw_p40, List.forall_mem_cons.mpr ⟨lw_p41, List.forall_mem_cons.mpr ⟨lw_p42, List.forall_mem_cons.mpr ⟨lw_p43, List.forall_mem_cons.mpr ⟨lw_p44, List.forall_mem_cons.mpr ⟨lw_p45, List.forall_mem_cons.mpr ⟨lw_p46, List.forall_mem_cons.mpr ⟨lw_p47, fun _ h => absurd h List.not_mem_nil⟩⟩⟩⟩⟩⟩⟩⟩⟩⟩⟩⟩⟩⟩⟩⟩
theorem lw_p48 : lw_okq (⟨"PokerEveningModel", "firstTeller", "(II)V"⟩, 35) := ⟨⟨by decide +kernel, by decide +kernel⟩, List.mem_of_getElem? (i := 696) (by decide +kernel), List.mem_of_getElem? (i := 702) (by decide +kernel), List.mem_of_getElem? (i := 703) (by decide +kernel)⟩
theorem lw_p49 : lw_okq (⟨"PokerEveningModel", "sets", "(IIIII)V"⟩, 35) := ⟨⟨by decide +kernel, by decide +kernel⟩, List.mem_of_getElem? (i := 696) (by decide +kernel), List.mem_of_getElem? (i := 706) (by decide +kernel), List.mem_of_getElem? (i := 707) (by decide +kernel)⟩
theorem lw_p50 : lw_okq (⟨"PokerEveningModel", "readsItem", "()Z"⟩, 35) := ⟨⟨by decide +kernel, by decide +kernel⟩, List.mem_of_getElem? (i := 696) (by decide +kernel), List.mem_of_getElem? (i := 831) (by decide +kernel), List.mem_of_getElem? (i := 832) (by decide +kernel)⟩
theorem lw_p51 : lw_okq (⟨"PokerEveningModel", "here", "()I"⟩, 35) := ⟨⟨by decide +kernel, by decide +kernel⟩, List.mem_of_getElem? (i := 696) (by decide +kernel), List.mem_of_getElem? (i := 835) (by decide +kernel), List.mem_of_getElem? (i := 836) (by decide +kernel)⟩
theorem lw_p52 : lw_okq (⟨"PokerEveningModel", "readsTeller", "()Z"⟩, 35) := ⟨⟨by decide +kernel, by decide +kernel⟩, List.mem_of_getElem? (i := 696) (by decide +kernel), List.mem_of_getElem? (i := 839) (by decide +kernel), List.mem_of_getElem? (i := 840) (by decide +kernel)⟩
theorem lw_p53 : lw_okq (⟨"PokerEveningModel", "number", "(III)Z"⟩, 35) := ⟨⟨by decide +kernel, by decide +kernel⟩, List.mem_of_getElem? (i := 696) (by decide +kernel), List.mem_of_getElem? (i := 843) (by decide +kernel), List.mem_of_getElem? (i := 844) (by decide +kernel)⟩
theorem lw_p54 : lw_okq (⟨"PokerEveningModel", "isFigure", "()Z"⟩, 35) := ⟨⟨by decide +kernel, by decide +kernel⟩, List.mem_of_getElem? (i := 696) (by decide +kernel), List.mem_of_getElem? (i := 847) (by decide +kernel), List.mem_of_getElem? (i := 848) (by decide +kernel)⟩
theorem lw_p55 : lw_okq (⟨"PokerEveningModel", "readsFact", "()Z"⟩, 35) := ⟨⟨by decide +kernel, by decide +kernel⟩, List.mem_of_getElem? (i := 696) (by decide +kernel), List.mem_of_getElem? (i := 851) (by decide +kernel), List.mem_of_getElem? (i := 852) (by decide +kernel)⟩
theorem lw_p56 : lw_okq (⟨"PokerEveningModel", "readsClaim", "()Z"⟩, 35) := ⟨⟨by decide +kernel, by decide +kernel⟩, List.mem_of_getElem? (i := 696) (by decide +kernel), List.mem_of_getElem? (i := 855) (by decide +kernel), List.mem_of_getElem? (i := 856) (by decide +kernel)⟩
theorem lw_p57 : lw_okq (⟨"PokerEveningModel", "isTeller", "(I)Z"⟩, 35) := ⟨⟨by decide +kernel, by decide +kernel⟩, List.mem_of_getElem? (i := 696) (by decide +kernel), List.mem_of_getElem? (i := 868) (by decide +kernel), List.mem_of_getElem? (i := 869) (by decide +kernel)⟩
theorem lw_p58 : lw_okq (⟨"PokerEveningModel", "isFact", "(I)Z"⟩, 35) := ⟨⟨by decide +kernel, by decide +kernel⟩, List.mem_of_getElem? (i := 696) (by decide +kernel), List.mem_of_getElem? (i := 876) (by decide +kernel), List.mem_of_getElem? (i := 877) (by decide +kernel)⟩
theorem lw_p59 : lw_okq (⟨"PokerEveningModel", "isClaim", "(I)Z"⟩, 35) := ⟨⟨by decide +kernel, by decide +kernel⟩, List.mem_of_getElem? (i := 696) (by decide +kernel), List.mem_of_getElem? (i := 884) (by decide +kernel), List.mem_of_getElem? (i := 885) (by decide +kernel)⟩
theorem lw_p60 : lw_okq (⟨"PokerEveningModel", "isFalse", "(I)Z"⟩, 35) := ⟨⟨by decide +kernel, by decide +kernel⟩, List.mem_of_getElem? (i := 696) (by decide +kernel), List.mem_of_getElem? (i := 888) (by decide +kernel), List.mem_of_getElem? (i := 889) (by decide +kernel)⟩
theorem lw_p61 : lw_okq (⟨"PokerEveningModel", "notes", "()V"⟩, 35) := ⟨⟨by decide +kernel, by decide +kernel⟩, List.mem_of_getElem? (i := 696) (by decide +kernel), List.mem_of_getElem? (i := 896) (by decide +kernel), List.mem_of_getElem? (i := 897) (by decide +kernel)⟩
theorem lw_p62 : lw_okq (⟨"PokerEveningModel", "lays", "([II)V"⟩, 35) := ⟨⟨by decide +kernel, by decide +kernel⟩, List.mem_of_getElem? (i := 696) (by decide +kernel), List.mem_of_getElem? (i := 900) (by decide +kernel), List.mem_of_getElem? (i := 901) (by decide +kernel)⟩
theorem lw_p63 : lw_okq (⟨"PokerEveningModel", "copies", "(II)V"⟩, 35) := ⟨⟨by decide +kernel, by decide +kernel⟩, List.mem_of_getElem? (i := 696) (by decide +kernel), List.mem_of_getElem? (i := 912) (by decide +kernel), List.mem_of_getElem? (i := 913) (by decide +kernel)⟩
def lw_privs_4 : List (MethodName × Nat) := [(⟨"PokerEveningModel", "firstTeller", "(II)V"⟩, 35), (⟨"PokerEveningModel", "sets", "(IIIII)V"⟩, 35), (⟨"PokerEveningModel", "readsItem", "()Z"⟩, 35), (⟨"PokerEveningModel", "here", "()I"⟩, 35), (⟨"PokerEveningModel", "readsTeller", "()Z"⟩, 35), (⟨"PokerEveningModel", "number", "(III)Z"⟩, 35), (⟨"PokerEveningModel", "isFigure", "()Z"⟩, 35), (⟨"PokerEveningModel", "readsFact", "()Z"⟩, 35), (⟨"PokerEveningModel", "readsClaim", "()Z"⟩, 35), (⟨"PokerEveningModel", "isTeller", "(I)Z"⟩, 35), (⟨"PokerEveningModel", "isFact", "(I)Z"⟩, 35), (⟨"PokerEveningModel", "isClaim", "(I)Z"⟩, 35), (⟨"PokerEveningModel", "isFalse", "(I)Z"⟩, 35), (⟨"PokerEveningModel", "notes", "()V"⟩, 35), (⟨"PokerEveningModel", "lays", "([II)V"⟩, 35), (⟨"PokerEveningModel", "copies", "(II)V"⟩, 35)]
theorem lw_r4 : ∀ q ∈ lw_privs_4, lw_okq q := List.forall_mem_cons.mpr ⟨lw_p48, List.forall_mem_cons.mpr ⟨lw_p49, List.forall_mem_cons.mpr ⟨lw_p50, List.forall_mem_cons.mpr ⟨lw_p51, List.forall_mem_cons.mpr ⟨lw_p52, List.forall_mem_cons.mpr ⟨lw_p53, List.forall_mem_cons.mpr ⟨lw_p54, List.forall_mem_cons.mpr ⟨lw_p55, List.forall_mem_cons.mpr ⟨lw_p56, List.forall_mem_cons.mpr ⟨lw_p57, List.forall_mem_cons.mpr ⟨lw_p58, List.forall_mem_cons.mpr ⟨lw_p59, List.forall_mem_cons.mpr ⟨lw_p60, List.forall_mem_cons.mpr ⟨lw_p61, List.forall_mem_cons.mpr ⟨lw_p62, List.forall_mem_cons.mpr ⟨lw_p63, fun _ h => absurd h List.not_mem_nil⟩⟩⟩⟩⟩⟩⟩⟩⟩⟩⟩⟩⟩⟩⟩⟩
theorem lw_p64 : lw_okq (⟨"PokerEveningModel", "shifts", "(II)V"⟩, 35) := ⟨⟨by decide +kernel, by decide +kernel⟩, List.mem_of_getElem? (i := 696) (by decide +kernel), List.mem_of_getElem? (i := 920) (by decide +kernel), List.mem_of_getElem? (i := 921) (by decide +kernel)⟩
theorem lw_p65 : lw_okq (⟨"PokerEveningModel", "takes", "([II)V"⟩, 35) := ⟨⟨by decide +kernel, by decide +kernel⟩, List.mem_of_getElem? (i := 696) (by decide +kernel), List.mem_of_getElem? (i := 932) (by decide +kernel), List.mem_of_getElem? (i := 933) (by decide +kernel)⟩
theorem lw_p66 : lw_okq (⟨"PokerEveningModel", "without", "(I)V"⟩, 35) := ⟨⟨by decide +kernel, by decide +kernel⟩, List.mem_of_getElem? (i := 696) (by decide +kernel), List.mem_of_getElem? (i := 940) (by decide +kernel), List.mem_of_getElem? (i := 941) (by decide +kernel)⟩
theorem lw_p67 : lw_okq (⟨"PokerEveningModel", "evening", "(I)V"⟩, 35) := ⟨⟨by decide +kernel, by decide +kernel⟩, List.mem_of_getElem? (i := 696) (by decide +kernel), List.mem_of_getElem? (i := 947) (by decide +kernel), List.mem_of_getElem? (i := 948) (by decide +kernel)⟩
theorem lw_p68 : lw_okq (⟨"PokerEveningModel", "nextRow", "()Z"⟩, 35) := ⟨⟨by decide +kernel, by decide +kernel⟩, List.mem_of_getElem? (i := 696) (by decide +kernel), List.mem_of_getElem? (i := 973) (by decide +kernel), List.mem_of_getElem? (i := 974) (by decide +kernel)⟩
theorem lw_p69 : lw_okq (⟨"PokerEveningModel", "goneBy", "(II)I"⟩, 35) := ⟨⟨by decide +kernel, by decide +kernel⟩, List.mem_of_getElem? (i := 696) (by decide +kernel), List.mem_of_getElem? (i := 986) (by decide +kernel), List.mem_of_getElem? (i := 987) (by decide +kernel)⟩
theorem lw_p70 : lw_okq (⟨"PokerEveningModel", "gone", "()I"⟩, 35) := ⟨⟨by decide +kernel, by decide +kernel⟩, List.mem_of_getElem? (i := 696) (by decide +kernel), List.mem_of_getElem? (i := 990) (by decide +kernel), List.mem_of_getElem? (i := 991) (by decide +kernel)⟩
theorem lw_p71 : lw_okq (⟨"PokerEveningModel", "isSo", "()Z"⟩, 35) := ⟨⟨by decide +kernel, by decide +kernel⟩, List.mem_of_getElem? (i := 696) (by decide +kernel), List.mem_of_getElem? (i := 1006) (by decide +kernel), List.mem_of_getElem? (i := 1007) (by decide +kernel)⟩
theorem lw_p72 : lw_okq (⟨"PokerEveningModel", "falseMany", "()I"⟩, 35) := ⟨⟨by decide +kernel, by decide +kernel⟩, List.mem_of_getElem? (i := 696) (by decide +kernel), List.mem_of_getElem? (i := 1050) (by decide +kernel), List.mem_of_getElem? (i := 1051) (by decide +kernel)⟩
def lw_privs_5 : List (MethodName × Nat) := [(⟨"PokerEveningModel", "shifts", "(II)V"⟩, 35), (⟨"PokerEveningModel", "takes", "([II)V"⟩, 35), (⟨"PokerEveningModel", "without", "(I)V"⟩, 35), (⟨"PokerEveningModel", "evening", "(I)V"⟩, 35), (⟨"PokerEveningModel", "nextRow", "()Z"⟩, 35), (⟨"PokerEveningModel", "goneBy", "(II)I"⟩, 35), (⟨"PokerEveningModel", "gone", "()I"⟩, 35), (⟨"PokerEveningModel", "isSo", "()Z"⟩, 35), (⟨"PokerEveningModel", "falseMany", "()I"⟩, 35)]
theorem lw_r5 : ∀ q ∈ lw_privs_5, lw_okq q := List.forall_mem_cons.mpr ⟨lw_p64, List.forall_mem_cons.mpr ⟨lw_p65, List.forall_mem_cons.mpr ⟨lw_p66, List.forall_mem_cons.mpr ⟨lw_p67, List.forall_mem_cons.mpr ⟨lw_p68, List.forall_mem_cons.mpr ⟨lw_p69, List.forall_mem_cons.mpr ⟨lw_p70, List.forall_mem_cons.mpr ⟨lw_p71, List.forall_mem_cons.mpr ⟨lw_p72, fun _ h => absurd h List.not_mem_nil⟩⟩⟩⟩⟩⟩⟩⟩⟩
def lw_privs : List (MethodName × Nat) := lw_privs_1 ++ (lw_privs_2 ++ (lw_privs_3 ++ (lw_privs_4 ++ (lw_privs_5))))
def lw_tbl : List Cond := k2_sels lw_privs ++ tables_1
theorem lw_privs_ok : ∀ q ∈ lw_privs, lw_okq q := by
  show ∀ q ∈ lw_privs_1 ++ (lw_privs_2 ++ (lw_privs_3 ++ (lw_privs_4 ++ (lw_privs_5)))), lw_okq q
  exact List.forall_mem_append.mpr ⟨lw_r1, List.forall_mem_append.mpr ⟨lw_r2, List.forall_mem_append.mpr ⟨lw_r3, List.forall_mem_append.mpr ⟨lw_r4, lw_r5⟩⟩⟩⟩
end
section
/-! ===== BEGIN words of one list among another's, by their places ===== -/
theorem goodIn_r {big : List Cond} (ws : List Cond) (ps : List Nat) (hp : ws = ps.filterMap (fun i => big[i]?)) (h : ws.all goodWord = true) : GoodIn big ws := by
  intro w hw
  have h1 := List.all_eq_true.mp h w hw
  rw [hp] at hw
  obtain ⟨i, -, hi⟩ := List.mem_filterMap.mp hw
  have hm : w ∈ big := by first | exact List.mem_of_getElem? hi | exact List.getElem?_mem hi
  exact ⟨hm, good_of_word h1⟩
theorem goodIn_app {big a b : List Cond} (ha : GoodIn big a) (hb : GoodIn big b) : GoodIn big (a ++ b) := fun w h => (List.mem_append.mp h).elim (ha w) (hb w)
theorem goodIn_ca {big a b : List Cond} {c : Cond} (ha : GoodIn big (c :: a)) (hb : GoodIn big b) : GoodIn big (c :: (a ++ b)) := fun w h => (List.mem_cons.mp h).elim (fun e => ha w (List.mem_cons.mpr (Or.inl e))) (fun h => (List.mem_append.mp h).elim (fun h => ha w (List.mem_cons.mpr (Or.inr h))) (hb w))
theorem goodIn_sub {big ws : List Cond} (hm : ∀ w ∈ ws, w ∈ big) (h : ws.all goodWord = true) : GoodIn big ws := fun w hw => ⟨hm w hw, good_of_word (List.all_eq_true.mp h w hw)⟩
/-! ===== END ===== -/

/-! ===== BEGIN printed: names, fields, word lists, decode rows ===== -/
def RX0 : String := "PokerEvening$Evening"
def TX0 : u_T := fun k => match k with
  | 0 => ("PokerEvening$Evening", "iron", "LPokerEvening$Iron;", true)
  | 1 => ("PokerEvening$Evening", "hotOf", "[I", true)
  | 2 => ("PokerEvening$Evening", "dropOf", "[I", true)
  | _ => ("PokerEvening$Evening", "most", "I", false)
def tyX0 : Nat → FieldType := fun k => match k with
  | 0 => .object "PokerEvening$Iron"
  | 1 => .array .int
  | 2 => .array .int
  | _ => .int
abbrev wsX00 : List Cond := u_ws RX0 TX0 4
theorem nmX0 : ∀ a, a < 4 → ∀ b, b < 4 → a ≠ b → (TX0 a).2.1 ≠ (TX0 b).2.1 := by decide +kernel
theorem tyX0_ok : ∀ k, k < 4 → parseFieldDescriptor (TX0 k).2.2.1 = some (tyX0 k) := by decide +kernel
abbrev cX0_init : ByteArray := prog_2_method_1_code
def yX0_init : MethodName := ⟨RX0, "<init>", "()V"⟩
abbrev cX0_hold : ByteArray := prog_2_method_2_code
def yX0_hold : MethodName := ⟨RX0, "hold", "(LPokerEvening$Room;)V"⟩
abbrev cX0_begin : ByteArray := prog_2_method_3_code
def yX0_begin : MethodName := ⟨RX0, "begin", "()V"⟩
def RX1 : String := "PokerEvening$Iron"
def TX1 : u_T := fun k => match k with
  | 0 => ("PokerEvening$Iron", "heat", "I", false)
  | 1 => ("PokerEvening$Iron", "holder", "I", false)
  | 2 => ("PokerEvening$Iron", "told", "I", false)
  | _ => ("PokerEvening$Iron", "gone", "I", false)
def tyX1 : Nat → FieldType := fun k => match k with
  | 0 => .int
  | 1 => .int
  | 2 => .int
  | _ => .int
abbrev wsX10 : List Cond := u_ws RX1 TX1 4
theorem nmX1 : ∀ a, a < 4 → ∀ b, b < 4 → a ≠ b → (TX1 a).2.1 ≠ (TX1 b).2.1 := by decide +kernel
theorem tyX1_ok : ∀ k, k < 4 → parseFieldDescriptor (TX1 k).2.2.1 = some (tyX1 k) := by decide +kernel
abbrev cX1_init : ByteArray := prog_3_method_1_code
def yX1_init : MethodName := ⟨RX1, "<init>", "()V"⟩
abbrev cX1_cool : ByteArray := prog_3_method_2_code
def yX1_cool : MethodName := ⟨RX1, "cool", "()V"⟩
abbrev cX1_copyFrom : ByteArray := prog_3_method_3_code
def yX1_copyFrom : MethodName := ⟨RX1, "copyFrom", "(LPokerEvening$Iron;)V"⟩
abbrev cX1_take : ByteArray := prog_3_method_4_code
def yX1_take : MethodName := ⟨RX1, "take", "(LPokerEvening$Room;I)I"⟩
abbrev cX1_heating : ByteArray := prog_3_method_5_code
def yX1_heating : MethodName := ⟨RX1, "heating", "(IZI)I"⟩
def RX2 : String := "PokerEvening$Room"
def TX2 : u_T := fun k => match k with
  | 0 => ("PokerEvening$Room", "kindOf", "[I", true)
  | 1 => ("PokerEvening$Room", "gripOf", "[I", true)
  | 2 => ("PokerEvening$Room", "tellerOf", "[I", true)
  | 3 => ("PokerEvening$Room", "factOf", "[I", true)
  | 4 => ("PokerEvening$Room", "valueOf", "[I", true)
  | 5 => ("PokerEvening$Room", "weightOf", "[I", true)
  | 6 => ("PokerEvening$Room", "tellerCount", "I", false)
  | 7 => ("PokerEvening$Room", "factCount", "I", false)
  | 8 => ("PokerEvening$Room", "claimCount", "I", false)
  | _ => ("PokerEvening$Room", "truth", "I", false)
def tyX2 : Nat → FieldType := fun k => match k with
  | 0 => .array .int
  | 1 => .array .int
  | 2 => .array .int
  | 3 => .array .int
  | 4 => .array .int
  | 5 => .array .int
  | 6 => .int
  | 7 => .int
  | 8 => .int
  | _ => .int
abbrev wsX20 : List Cond := u_ws RX2 TX2 10
theorem nmX2 : ∀ a, a < 10 → ∀ b, b < 10 → a ≠ b → (TX2 a).2.1 ≠ (TX2 b).2.1 := by decide +kernel
theorem tyX2_ok : ∀ k, k < 10 → parseFieldDescriptor (TX2 k).2.2.1 = some (tyX2 k) := by decide +kernel
abbrev cX2_init : ByteArray := prog_4_method_1_code
def yX2_init : MethodName := ⟨RX2, "<init>", "()V"⟩
abbrev cX2_clear : ByteArray := prog_4_method_2_code
def yX2_clear : MethodName := ⟨RX2, "clear", "()V"⟩
abbrev cX2_copyFrom : ByteArray := prog_4_method_3_code
def yX2_copyFrom : MethodName := ⟨RX2, "copyFrom", "(LPokerEvening$Room;)V"⟩
abbrev cX2_isTeller : ByteArray := prog_4_method_4_code
def yX2_isTeller : MethodName := ⟨RX2, "isTeller", "(I)Z"⟩
abbrev cX2_isFact : ByteArray := prog_4_method_5_code
def yX2_isFact : MethodName := ⟨RX2, "isFact", "(I)Z"⟩
abbrev cX2_isClaim : ByteArray := prog_4_method_6_code
def yX2_isClaim : MethodName := ⟨RX2, "isClaim", "(I)Z"⟩
abbrev cX2_allowsClaim : ByteArray := prog_4_method_7_code
def yX2_allowsClaim : MethodName := ⟨RX2, "allowsClaim", "(IIII)Z"⟩
abbrev cX2_worldCount : ByteArray := prog_4_method_8_code
def yX2_worldCount : MethodName := ⟨RX2, "worldCount", "()I"⟩
abbrev cX2_addTeller : ByteArray := prog_4_method_9_code
def yX2_addTeller : MethodName := ⟨RX2, "addTeller", "(II)Z"⟩
abbrev cX2_addFact : ByteArray := prog_4_method_10_code
def yX2_addFact : MethodName := ⟨RX2, "addFact", "(I)Z"⟩
abbrev cX2_addClaim : ByteArray := prog_4_method_11_code
def yX2_addClaim : MethodName := ⟨RX2, "addClaim", "(IIII)Z"⟩
abbrev cX2_turnFact : ByteArray := prog_4_method_12_code
def yX2_turnFact : MethodName := ⟨RX2, "turnFact", "(I)V"⟩
abbrev cX2_moveClaim : ByteArray := prog_4_method_13_code
def yX2_moveClaim : MethodName := ⟨RX2, "moveClaim", "(II)V"⟩
abbrev cX2_removeClaim : ByteArray := prog_4_method_14_code
def yX2_removeClaim : MethodName := ⟨RX2, "removeClaim", "(I)V"⟩
abbrev cX2_isFalse : ByteArray := prog_4_method_15_code
def yX2_isFalse : MethodName := ⟨RX2, "isFalse", "(I)Z"⟩
abbrev cX2_falseClaims : ByteArray := prog_4_method_16_code
def yX2_falseClaims : MethodName := ⟨RX2, "falseClaims", "()I"⟩
def RX3 : String := "PokerEvening$Search"
def TX3 : u_T := fun k => match k with
  | 0 => ("PokerEvening$Search", "stages", "[LPokerEvening$Iron;", true)
  | 1 => ("PokerEvening$Search", "path", "[I", true)
  | 2 => ("PokerEvening$Search", "best", "[I", true)
  | _ => ("PokerEvening$Search", "most", "I", false)
def tyX3 : Nat → FieldType := fun k => match k with
  | 0 => .array (.object "PokerEvening$Iron")
  | 1 => .array .int
  | 2 => .array .int
  | _ => .int
abbrev wsX30 : List Cond := u_ws RX3 TX3 4
theorem nmX3 : ∀ a, a < 4 → ∀ b, b < 4 → a ≠ b → (TX3 a).2.1 ≠ (TX3 b).2.1 := by decide +kernel
theorem tyX3_ok : ∀ k, k < 4 → parseFieldDescriptor (TX3 k).2.2.1 = some (tyX3 k) := by decide +kernel
abbrev cX3_init : ByteArray := prog_5_method_1_code
def yX3_init : MethodName := ⟨RX3, "<init>", "()V"⟩
abbrev cX3_run : ByteArray := prog_5_method_2_code
def yX3_run : MethodName := ⟨RX3, "run", "(LPokerEvening$Room;)V"⟩
abbrev cX3_look : ByteArray := prog_5_method_3_code
def yX3_look : MethodName := ⟨RX3, "look", "(LPokerEvening$Room;II)V"⟩
abbrev cX3_tellable : ByteArray := prog_5_method_4_code
def yX3_tellable : MethodName := ⟨RX3, "tellable", "(LPokerEvening$Room;II)I"⟩
abbrev cX3_stageAt : ByteArray := prog_5_method_5_code
def yX3_stageAt : MethodName := ⟨RX3, "stageAt", "(I)LPokerEvening$Iron;"⟩
def RX4 : String := "PokerEvening$Shelf"
def TX4 : u_T := fun k => match k with
  | 0 => ("PokerEvening$Shelf", "rooms", "[LPokerEvening$Room;", true)
  | _ => ("PokerEvening$Shelf", "size", "I", false)
def tyX4 : Nat → FieldType := fun k => match k with
  | 0 => .array (.object "PokerEvening$Room")
  | _ => .int
abbrev wsX40 : List Cond := u_ws RX4 TX4 2
theorem nmX4 : ∀ a, a < 2 → ∀ b, b < 2 → a ≠ b → (TX4 a).2.1 ≠ (TX4 b).2.1 := by decide +kernel
theorem tyX4_ok : ∀ k, k < 2 → parseFieldDescriptor (TX4 k).2.2.1 = some (tyX4 k) := by decide +kernel
abbrev cX4_init : ByteArray := prog_6_method_1_code
def yX4_init : MethodName := ⟨RX4, "<init>", "(I)V"⟩
abbrev cX4_clear : ByteArray := prog_6_method_2_code
def yX4_clear : MethodName := ⟨RX4, "clear", "()V"⟩
abbrev cX4_push : ByteArray := prog_6_method_3_code
def yX4_push : MethodName := ⟨RX4, "push", "(LPokerEvening$Room;)V"⟩
abbrev cX4_popInto : ByteArray := prog_6_method_4_code
def yX4_popInto : MethodName := ⟨RX4, "popInto", "(LPokerEvening$Room;)Z"⟩
abbrev cX4_dropOldest : ByteArray := prog_6_method_5_code
def yX4_dropOldest : MethodName := ⟨RX4, "dropOldest", "()V"⟩
abbrev cX4_roomAt : ByteArray := prog_6_method_6_code
def yX4_roomAt : MethodName := ⟨RX4, "roomAt", "(I)LPokerEvening$Room;"⟩
def RX5 : String := "PokerEvening$Sights"
def TX5 : u_T := fun k => match k with
  | 0 => ("PokerEvening$Sights", "tellerOf", "[I", true)
  | 1 => ("PokerEvening$Sights", "dropOf", "[I", true)
  | _ => ("PokerEvening$Sights", "size", "I", false)
def tyX5 : Nat → FieldType := fun k => match k with
  | 0 => .array .int
  | 1 => .array .int
  | _ => .int
abbrev wsX50 : List Cond := u_ws RX5 TX5 3
theorem nmX5 : ∀ a, a < 3 → ∀ b, b < 3 → a ≠ b → (TX5 a).2.1 ≠ (TX5 b).2.1 := by decide +kernel
theorem tyX5_ok : ∀ k, k < 3 → parseFieldDescriptor (TX5 k).2.2.1 = some (tyX5 k) := by decide +kernel
abbrev cX5_init : ByteArray := prog_7_method_1_code
def yX5_init : MethodName := ⟨RX5, "<init>", "()V"⟩
abbrev cX5_clear : ByteArray := prog_7_method_2_code
def yX5_clear : MethodName := ⟨RX5, "clear", "()V"⟩
abbrev cX5_note : ByteArray := prog_7_method_3_code
def yX5_note : MethodName := ⟨RX5, "note", "(II)Z"⟩
abbrev cX5_agreeWith : ByteArray := prog_7_method_4_code
def yX5_agreeWith : MethodName := ⟨RX5, "agreeWith", "(LPokerEvening$Evening;)Z"⟩
def RX6 : String := "PokerEvening$Text"
def TX6 : u_T := fun k => match k with
  | 0 => ("PokerEvening$Text", "letters", "[I", true)
  | 1 => ("PokerEvening$Text", "numbers", "[I", true)
  | 2 => ("PokerEvening$Text", "length", "I", false)
  | _ => ("PokerEvening$Text", "place", "I", false)
def tyX6 : Nat → FieldType := fun k => match k with
  | 0 => .array .int
  | 1 => .array .int
  | 2 => .int
  | _ => .int
abbrev wsX60 : List Cond := u_ws RX6 TX6 4
theorem nmX6 : ∀ a, a < 4 → ∀ b, b < 4 → a ≠ b → (TX6 a).2.1 ≠ (TX6 b).2.1 := by decide +kernel
theorem tyX6_ok : ∀ k, k < 4 → parseFieldDescriptor (TX6 k).2.2.1 = some (tyX6 k) := by decide +kernel
abbrev cX6_init : ByteArray := prog_8_method_1_code
def yX6_init : MethodName := ⟨RX6, "<init>", "()V"⟩
abbrev cX6_clear : ByteArray := prog_8_method_2_code
def yX6_clear : MethodName := ⟨RX6, "clear", "()V"⟩
abbrev cX6_append : ByteArray := prog_8_method_3_code
def yX6_append : MethodName := ⟨RX6, "append", "(I)Z"⟩
abbrev cX6_readInto : ByteArray := prog_8_method_4_code
def yX6_readInto : MethodName := ⟨RX6, "readInto", "(LPokerEvening$Room;)I"⟩
abbrev cX6_readItem : ByteArray := prog_8_method_5_code
def yX6_readItem : MethodName := ⟨RX6, "readItem", "(LPokerEvening$Room;)Z"⟩
abbrev cX6_readNumbers : ByteArray := prog_8_method_6_code
def yX6_readNumbers : MethodName := ⟨RX6, "readNumbers", "(I)Z"⟩
abbrev cX6_isFigure : ByteArray := prog_8_method_7_code
def yX6_isFigure : MethodName := ⟨RX6, "isFigure", "(I)Z"⟩
abbrev cX6_peek : ByteArray := prog_8_method_8_code
def yX6_peek : MethodName := ⟨RX6, "peek", "()I"⟩
abbrev cX6_take : ByteArray := prog_8_method_9_code
def yX6_take : MethodName := ⟨RX6, "take", "()I"⟩
def RX7 : String := "PokerEvening"
def TX7 : u_T := fun k => match k with
  | 0 => ("PokerEvening", "text", "LPokerEvening$Text;", true)
  | 1 => ("PokerEvening", "room", "LPokerEvening$Room;", true)
  | 2 => ("PokerEvening", "trial", "LPokerEvening$Room;", true)
  | 3 => ("PokerEvening", "evening", "LPokerEvening$Evening;", true)
  | 4 => ("PokerEvening", "search", "LPokerEvening$Search;", true)
  | 5 => ("PokerEvening", "sights", "LPokerEvening$Sights;", true)
  | 6 => ("PokerEvening", "past", "LPokerEvening$Shelf;", true)
  | _ => ("PokerEvening", "kept", "LPokerEvening$Shelf;", true)
def tyX7 : Nat → FieldType := fun k => match k with
  | 0 => .object "PokerEvening$Text"
  | 1 => .object "PokerEvening$Room"
  | 2 => .object "PokerEvening$Room"
  | 3 => .object "PokerEvening$Evening"
  | 4 => .object "PokerEvening$Search"
  | 5 => .object "PokerEvening$Sights"
  | 6 => .object "PokerEvening$Shelf"
  | _ => .object "PokerEvening$Shelf"
abbrev wsX70 : List Cond := u_ws RX7 TX7 8
theorem nmX7 : ∀ a, a < 8 → ∀ b, b < 8 → a ≠ b → (TX7 a).2.1 ≠ (TX7 b).2.1 := by decide +kernel
theorem tyX7_ok : ∀ k, k < 8 → parseFieldDescriptor (TX7 k).2.2.1 = some (tyX7 k) := by decide +kernel
abbrev cX7_init : ByteArray := prog_1_method_1_code
def yX7_init : MethodName := ⟨RX7, "<init>", "()V"⟩
abbrev cX7_write : ByteArray := prog_1_method_2_code
def yX7_write : MethodName := ⟨RX7, "write", "(I)I"⟩
abbrev cX7_wipe : ByteArray := prog_1_method_3_code
def yX7_wipe : MethodName := ⟨RX7, "wipe", "()I"⟩
abbrev cX7_fault : ByteArray := prog_1_method_4_code
def yX7_fault : MethodName := ⟨RX7, "fault", "()I"⟩
abbrev cX7_lay : ByteArray := prog_1_method_5_code
def yX7_lay : MethodName := ⟨RX7, "lay", "()I"⟩
abbrev cX7_teller : ByteArray := prog_1_method_6_code
def yX7_teller : MethodName := ⟨RX7, "teller", "(II)I"⟩
abbrev cX7_fact : ByteArray := prog_1_method_7_code
def yX7_fact : MethodName := ⟨RX7, "fact", "(I)I"⟩
abbrev cX7_claim : ByteArray := prog_1_method_8_code
def yX7_claim : MethodName := ⟨RX7, "claim", "(II)I"⟩
abbrev cX7_turn : ByteArray := prog_1_method_9_code
def yX7_turn : MethodName := ⟨RX7, "turn", "(I)I"⟩
abbrev cX7_add : ByteArray := prog_1_method_10_code
def yX7_add : MethodName := ⟨RX7, "add", "(IIII)I"⟩
abbrev cX7_strike : ByteArray := prog_1_method_11_code
def yX7_strike : MethodName := ⟨RX7, "strike", "(I)I"⟩
abbrev cX7_shift : ByteArray := prog_1_method_12_code
def yX7_shift : MethodName := ⟨RX7, "shift", "(II)I"⟩
abbrev cX7_grip : ByteArray := prog_1_method_13_code
def yX7_grip : MethodName := ⟨RX7, "grip", "(II)I"⟩
abbrev cX7_undo : ByteArray := prog_1_method_14_code
def yX7_undo : MethodName := ⟨RX7, "undo", "()I"⟩
abbrev cX7_drops : ByteArray := prog_1_method_15_code
def yX7_drops : MethodName := ⟨RX7, "drops", "(I)I"⟩
abbrev cX7_told : ByteArray := prog_1_method_16_code
def yX7_told : MethodName := ⟨RX7, "told", "()I"⟩
abbrev cX7_hot : ByteArray := prog_1_method_17_code
def yX7_hot : MethodName := ⟨RX7, "hot", "(I)I"⟩
abbrev cX7_hottest : ByteArray := prog_1_method_18_code
def yX7_hottest : MethodName := ⟨RX7, "hottest", "()I"⟩
abbrev cX7_order : ByteArray := prog_1_method_19_code
def yX7_order : MethodName := ⟨RX7, "order", "(I)I"⟩
abbrev cX7_leave : ByteArray := prog_1_method_20_code
def yX7_leave : MethodName := ⟨RX7, "leave", "(II)I"⟩
abbrev cX7_holds : ByteArray := prog_1_method_21_code
def yX7_holds : MethodName := ⟨RX7, "holds", "(II)I"⟩
abbrev cX7_seen : ByteArray := prog_1_method_22_code
def yX7_seen : MethodName := ⟨RX7, "seen", "(II)I"⟩
abbrev cX7_forget : ByteArray := prog_1_method_23_code
def yX7_forget : MethodName := ⟨RX7, "forget", "()I"⟩
abbrev cX7_worlds : ByteArray := prog_1_method_24_code
def yX7_worlds : MethodName := ⟨RX7, "worlds", "(I)I"⟩
abbrev cX7_next : ByteArray := prog_1_method_25_code
def yX7_next : MethodName := ⟨RX7, "next", "(II)I"⟩
abbrev cX7_kinds : ByteArray := prog_1_method_26_code
def yX7_kinds : MethodName := ⟨RX7, "kinds", "(I)I"⟩
abbrev cX7_grips : ByteArray := prog_1_method_27_code
def yX7_grips : MethodName := ⟨RX7, "grips", "(II)I"⟩
abbrev cX7_likely : ByteArray := prog_1_method_28_code
def yX7_likely : MethodName := ⟨RX7, "likely", "(III)I"⟩
abbrev cX7_evenings : ByteArray := prog_1_method_29_code
def yX7_evenings : MethodName := ⟨RX7, "evenings", "(III)I"⟩
abbrev cX7_keep : ByteArray := prog_1_method_30_code
def yX7_keep : MethodName := ⟨RX7, "keep", "()I"⟩
abbrev cX7_back : ByteArray := prog_1_method_31_code
def yX7_back : MethodName := ⟨RX7, "back", "()I"⟩
abbrev cX7_count : ByteArray := prog_1_method_32_code
def yX7_count : MethodName := ⟨RX7, "count", "(I)I"⟩
abbrev cX7_goneTonight : ByteArray := prog_1_method_33_code
def yX7_goneTonight : MethodName := ⟨RX7, "goneTonight", "()I"⟩
abbrev cX7_fewestLeft : ByteArray := prog_1_method_34_code
def yX7_fewestLeft : MethodName := ⟨RX7, "fewestLeft", "(I)I"⟩
abbrev cX7_letsGoWithout : ByteArray := prog_1_method_35_code
def yX7_letsGoWithout : MethodName := ⟨RX7, "letsGoWithout", "(II)Z"⟩
abbrev cX7_goneIfHeldBy : ByteArray := prog_1_method_36_code
def yX7_goneIfHeldBy : MethodName := ⟨RX7, "goneIfHeldBy", "(II)I"⟩
abbrev cX7_fits : ByteArray := prog_1_method_37_code
def yX7_fits : MethodName := ⟨RX7, "fits", "(LPokerEvening$Room;)Z"⟩
abbrev cX7_fittingWorlds : ByteArray := prog_1_method_38_code
def yX7_fittingWorlds : MethodName := ⟨RX7, "fittingWorlds", "()J"⟩
abbrev cX7_lowestWorld : ByteArray := prog_1_method_39_code
def yX7_lowestWorld : MethodName := ⟨RX7, "lowestWorld", "(J)I"⟩
abbrev cX7_isIn : ByteArray := prog_1_method_40_code
def yX7_isIn : MethodName := ⟨RX7, "isIn", "(JI)Z"⟩
abbrev cX7_sureFacts : ByteArray := prog_1_method_41_code
def yX7_sureFacts : MethodName := ⟨RX7, "sureFacts", "(JI)I"⟩
abbrev cX7_worldsOfDrop : ByteArray := prog_1_method_42_code
def yX7_worldsOfDrop : MethodName := ⟨RX7, "worldsOfDrop", "(JIII)I"⟩
abbrev cX7_chanceOf : ByteArray := prog_1_method_43_code
def yX7_chanceOf : MethodName := ⟨RX7, "chanceOf", "(II)I"⟩
abbrev cX7_draw : ByteArray := prog_1_method_44_code
def yX7_draw : MethodName := ⟨RX7, "draw", "(II)I"⟩
abbrev cX7_stir : ByteArray := prog_1_method_45_code
def yX7_stir : MethodName := ⟨RX7, "stir", "(LPokerEvening$Room;I)V"⟩
abbrev cX7_greatestDivisor : ByteArray := prog_1_method_46_code
def yX7_greatestDivisor : MethodName := ⟨RX7, "greatestDivisor", "(II)I"⟩
abbrev cX7_within : ByteArray := prog_1_method_47_code
def yX7_within : MethodName := ⟨RX7, "within", "(III)Z"⟩
abbrev cX7_bit : ByteArray := prog_1_method_48_code
def yX7_bit : MethodName := ⟨RX7, "bit", "(II)I"⟩
abbrev cX7_at : ByteArray := prog_1_method_49_code
def yX7_at : MethodName := ⟨RX7, "at", "([II)I"⟩
abbrev cX7_put : ByteArray := prog_1_method_50_code
def yX7_put : MethodName := ⟨RX7, "put", "([III)V"⟩
abbrev cX7_copyRow : ByteArray := prog_1_method_51_code
def yX7_copyRow : MethodName := ⟨RX7, "copyRow", "([I[I)V"⟩
abbrev cX7_slide : ByteArray := prog_1_method_52_code
def yX7_slide : MethodName := ⟨RX7, "slide", "([III)V"⟩
def RX8 : String := "PokerEveningModel"
def TX8 : u_T := fun k => match k with
  | 0 => ("PokerEveningModel", "tellers", "I", false)
  | 1 => ("PokerEveningModel", "factMany", "I", false)
  | 2 => ("PokerEveningModel", "claims", "I", false)
  | 3 => ("PokerEveningModel", "facts", "I", false)
  | 4 => ("PokerEveningModel", "kindOf", "[I", true)
  | 5 => ("PokerEveningModel", "gripOf", "[I", true)
  | 6 => ("PokerEveningModel", "who", "[I", true)
  | 7 => ("PokerEveningModel", "what", "[I", true)
  | 8 => ("PokerEveningModel", "side", "[I", true)
  | 9 => ("PokerEveningModel", "weight", "[I", true)
  | 10 => ("PokerEveningModel", "seenMany", "I", false)
  | 11 => ("PokerEveningModel", "seenWho", "[I", true)
  | 12 => ("PokerEveningModel", "seenAt", "[I", true)
  | 13 => ("PokerEveningModel", "text", "[I", true)
  | 14 => ("PokerEveningModel", "size", "I", false)
  | 15 => ("PokerEveningModel", "readAt", "I", false)
  | 16 => ("PokerEveningModel", "readTellers", "I", false)
  | 17 => ("PokerEveningModel", "readFacts", "I", false)
  | 18 => ("PokerEveningModel", "readClaims", "I", false)
  | 19 => ("PokerEveningModel", "readKinds", "[I", true)
  | 20 => ("PokerEveningModel", "readGrips", "[I", true)
  | 21 => ("PokerEveningModel", "readSo", "[I", true)
  | 22 => ("PokerEveningModel", "readClaim", "[I", true)
  | 23 => ("PokerEveningModel", "readNumber", "I", false)
  | 24 => ("PokerEveningModel", "row", "[I", true)
  | 25 => ("PokerEveningModel", "letsGo", "[I", true)
  | 26 => ("PokerEveningModel", "hotOf", "[I", true)
  | 27 => ("PokerEveningModel", "toldSet", "I", false)
  | 28 => ("PokerEveningModel", "most", "I", false)
  | 29 => ("PokerEveningModel", "ahead", "[I", true)
  | 30 => ("PokerEveningModel", "undoMany", "I", false)
  | 31 => ("PokerEveningModel", "bestRow", "[I", true)
  | 32 => ("PokerEveningModel", "aside", "[I", true)
  | 33 => ("PokerEveningModel", "kept", "[I", true)
  | _ => ("PokerEveningModel", "keptMany", "I", false)
def tyX8 : Nat → FieldType := fun k => match k with
  | 0 => .int
  | 1 => .int
  | 2 => .int
  | 3 => .int
  | 4 => .array .int
  | 5 => .array .int
  | 6 => .array .int
  | 7 => .array .int
  | 8 => .array .int
  | 9 => .array .int
  | 10 => .int
  | 11 => .array .int
  | 12 => .array .int
  | 13 => .array .int
  | 14 => .int
  | 15 => .int
  | 16 => .int
  | 17 => .int
  | 18 => .int
  | 19 => .array .int
  | 20 => .array .int
  | 21 => .array .int
  | 22 => .array .int
  | 23 => .int
  | 24 => .array .int
  | 25 => .array .int
  | 26 => .array .int
  | 27 => .int
  | 28 => .int
  | 29 => .array .int
  | 30 => .int
  | 31 => .array .int
  | 32 => .array .int
  | 33 => .array .int
  | _ => .int
abbrev wsX80 : List Cond := u_ws RX8 TX8 35
theorem nmX8 : ∀ a, a < 35 → ∀ b, b < 35 → a ≠ b → (TX8 a).2.1 ≠ (TX8 b).2.1 := by decide +kernel
theorem tyX8_ok : ∀ k, k < 35 → parseFieldDescriptor (TX8 k).2.2.1 = some (tyX8 k) := by decide +kernel
abbrev cX8_in : ByteArray := prog_10_method_1_code
def yX8_in : MethodName := ⟨RX8, "in", "(III)Z"⟩
abbrev cX8_has : ByteArray := prog_10_method_2_code
def yX8_has : MethodName := ⟨RX8, "has", "(II)Z"⟩
abbrev cX8_bits : ByteArray := prog_10_method_3_code
def yX8_bits : MethodName := ⟨RX8, "bits", "(I)I"⟩
abbrev cX8_init : ByteArray := prog_10_method_4_code
def yX8_init : MethodName := ⟨RX8, "<init>", "()V"⟩
abbrev cX8_firstTeller : ByteArray := prog_10_method_5_code
def yX8_firstTeller : MethodName := ⟨RX8, "firstTeller", "(II)V"⟩
abbrev cX8_sets : ByteArray := prog_10_method_6_code
def yX8_sets : MethodName := ⟨RX8, "sets", "(IIIII)V"⟩
abbrev cX8_copies : ByteArray := prog_10_method_7_code
def yX8_copies : MethodName := ⟨RX8, "copies", "(II)V"⟩
abbrev cX8_isTeller : ByteArray := prog_10_method_8_code
def yX8_isTeller : MethodName := ⟨RX8, "isTeller", "(I)Z"⟩
abbrev cX8_isFact : ByteArray := prog_10_method_9_code
def yX8_isFact : MethodName := ⟨RX8, "isFact", "(I)Z"⟩
abbrev cX8_isClaim : ByteArray := prog_10_method_10_code
def yX8_isClaim : MethodName := ⟨RX8, "isClaim", "(I)Z"⟩
abbrev cX8_write : ByteArray := prog_10_method_11_code
def yX8_write : MethodName := ⟨RX8, "write", "(I)I"⟩
abbrev cX8_wipe : ByteArray := prog_10_method_12_code
def yX8_wipe : MethodName := ⟨RX8, "wipe", "()I"⟩
abbrev cX8_here : ByteArray := prog_10_method_13_code
def yX8_here : MethodName := ⟨RX8, "here", "()I"⟩
abbrev cX8_isFigure : ByteArray := prog_10_method_14_code
def yX8_isFigure : MethodName := ⟨RX8, "isFigure", "()Z"⟩
abbrev cX8_number : ByteArray := prog_10_method_15_code
def yX8_number : MethodName := ⟨RX8, "number", "(III)Z"⟩
abbrev cX8_readsTeller : ByteArray := prog_10_method_16_code
def yX8_readsTeller : MethodName := ⟨RX8, "readsTeller", "()Z"⟩
abbrev cX8_readsFact : ByteArray := prog_10_method_17_code
def yX8_readsFact : MethodName := ⟨RX8, "readsFact", "()Z"⟩
abbrev cX8_readsClaim : ByteArray := prog_10_method_18_code
def yX8_readsClaim : MethodName := ⟨RX8, "readsClaim", "()Z"⟩
abbrev cX8_readsItem : ByteArray := prog_10_method_19_code
def yX8_readsItem : MethodName := ⟨RX8, "readsItem", "()Z"⟩
abbrev cX8_fault : ByteArray := prog_10_method_20_code
def yX8_fault : MethodName := ⟨RX8, "fault", "()I"⟩
abbrev cX8_lay : ByteArray := prog_10_method_21_code
def yX8_lay : MethodName := ⟨RX8, "lay", "()I"⟩
abbrev cX8_isFalse : ByteArray := prog_10_method_22_code
def yX8_isFalse : MethodName := ⟨RX8, "isFalse", "(I)Z"⟩
abbrev cX8_hotter : ByteArray := prog_10_method_23_code
def yX8_hotter : MethodName := ⟨RX8, "hotter", "(IZI)I"⟩
abbrev cX8_evening : ByteArray := prog_10_method_24_code
def yX8_evening : MethodName := ⟨RX8, "evening", "(I)V"⟩
abbrev cX8_without : ByteArray := prog_10_method_25_code
def yX8_without : MethodName := ⟨RX8, "without", "(I)V"⟩
abbrev cX8_gone : ByteArray := prog_10_method_26_code
def yX8_gone : MethodName := ⟨RX8, "gone", "()I"⟩
abbrev cX8_teller : ByteArray := prog_10_method_27_code
def yX8_teller : MethodName := ⟨RX8, "teller", "(II)I"⟩
abbrev cX8_fact : ByteArray := prog_10_method_28_code
def yX8_fact : MethodName := ⟨RX8, "fact", "(I)I"⟩
abbrev cX8_claim : ByteArray := prog_10_method_29_code
def yX8_claim : MethodName := ⟨RX8, "claim", "(II)I"⟩
abbrev cX8_lays : ByteArray := prog_10_method_30_code
def yX8_lays : MethodName := ⟨RX8, "lays", "([II)V"⟩
abbrev cX8_takes : ByteArray := prog_10_method_31_code
def yX8_takes : MethodName := ⟨RX8, "takes", "([II)V"⟩
abbrev cX8_notes : ByteArray := prog_10_method_32_code
def yX8_notes : MethodName := ⟨RX8, "notes", "()V"⟩
abbrev cX8_turn : ByteArray := prog_10_method_33_code
def yX8_turn : MethodName := ⟨RX8, "turn", "(I)I"⟩
abbrev cX8_add : ByteArray := prog_10_method_34_code
def yX8_add : MethodName := ⟨RX8, "add", "(IIII)I"⟩
abbrev cX8_strike : ByteArray := prog_10_method_35_code
def yX8_strike : MethodName := ⟨RX8, "strike", "(I)I"⟩
abbrev cX8_shifts : ByteArray := prog_10_method_36_code
def yX8_shifts : MethodName := ⟨RX8, "shifts", "(II)V"⟩
abbrev cX8_shift : ByteArray := prog_10_method_37_code
def yX8_shift : MethodName := ⟨RX8, "shift", "(II)I"⟩
abbrev cX8_grip : ByteArray := prog_10_method_38_code
def yX8_grip : MethodName := ⟨RX8, "grip", "(II)I"⟩
abbrev cX8_undo : ByteArray := prog_10_method_39_code
def yX8_undo : MethodName := ⟨RX8, "undo", "()I"⟩
abbrev cX8_drops : ByteArray := prog_10_method_40_code
def yX8_drops : MethodName := ⟨RX8, "drops", "(I)I"⟩
abbrev cX8_told : ByteArray := prog_10_method_41_code
def yX8_told : MethodName := ⟨RX8, "told", "()I"⟩
abbrev cX8_hot : ByteArray := prog_10_method_42_code
def yX8_hot : MethodName := ⟨RX8, "hot", "(I)I"⟩
abbrev cX8_hottest : ByteArray := prog_10_method_43_code
def yX8_hottest : MethodName := ⟨RX8, "hottest", "()I"⟩
abbrev cX8_nextRow : ByteArray := prog_10_method_44_code
def yX8_nextRow : MethodName := ⟨RX8, "nextRow", "()Z"⟩
abbrev cX8_order : ByteArray := prog_10_method_45_code
def yX8_order : MethodName := ⟨RX8, "order", "(I)I"⟩
abbrev cX8_leave : ByteArray := prog_10_method_46_code
def yX8_leave : MethodName := ⟨RX8, "leave", "(II)I"⟩
abbrev cX8_goneBy : ByteArray := prog_10_method_47_code
def yX8_goneBy : MethodName := ⟨RX8, "goneBy", "(II)I"⟩
abbrev cX8_holds : ByteArray := prog_10_method_48_code
def yX8_holds : MethodName := ⟨RX8, "holds", "(II)I"⟩
abbrev cX8_seen : ByteArray := prog_10_method_49_code
def yX8_seen : MethodName := ⟨RX8, "seen", "(II)I"⟩
abbrev cX8_forget : ByteArray := prog_10_method_50_code
def yX8_forget : MethodName := ⟨RX8, "forget", "()I"⟩
abbrev cX8_isSo : ByteArray := prog_10_method_51_code
def yX8_isSo : MethodName := ⟨RX8, "isSo", "()Z"⟩
abbrev cX8_worlds : ByteArray := prog_10_method_52_code
def yX8_worlds : MethodName := ⟨RX8, "worlds", "(I)I"⟩
abbrev cX8_next : ByteArray := prog_10_method_53_code
def yX8_next : MethodName := ⟨RX8, "next", "(II)I"⟩
abbrev cX8_kinds : ByteArray := prog_10_method_54_code
def yX8_kinds : MethodName := ⟨RX8, "kinds", "(I)I"⟩
abbrev cX8_grips : ByteArray := prog_10_method_55_code
def yX8_grips : MethodName := ⟨RX8, "grips", "(II)I"⟩
abbrev cX8_common : ByteArray := prog_10_method_56_code
def yX8_common : MethodName := ⟨RX8, "common", "(JJ)J"⟩
abbrev cX8_likely : ByteArray := prog_10_method_57_code
def yX8_likely : MethodName := ⟨RX8, "likely", "(III)I"⟩
abbrev cX8_evenings : ByteArray := prog_10_method_58_code
def yX8_evenings : MethodName := ⟨RX8, "evenings", "(III)I"⟩
abbrev cX8_keep : ByteArray := prog_10_method_59_code
def yX8_keep : MethodName := ⟨RX8, "keep", "()I"⟩
abbrev cX8_back : ByteArray := prog_10_method_60_code
def yX8_back : MethodName := ⟨RX8, "back", "()I"⟩
abbrev cX8_falseMany : ByteArray := prog_10_method_61_code
def yX8_falseMany : MethodName := ⟨RX8, "falseMany", "()I"⟩
abbrev cX8_count : ByteArray := prog_10_method_62_code
def yX8_count : MethodName := ⟨RX8, "count", "(I)I"⟩
def RJ6 : String := "java/lang/Integer"
def TJ6 : u_T := fun k => match k with
  | _ => ("", "", "", false)
def tyJ6 : Nat → FieldType := fun k => match k with
  | _ => .int
abbrev wsJ60 : List Cond := u_ws RJ6 TJ6 0
theorem nmJ6 : ∀ a, a < 0 → ∀ b, b < 0 → a ≠ b → (TJ6 a).2.1 ≠ (TJ6 b).2.1 := by decide +kernel
theorem tyJ6_ok : ∀ k, k < 0 → parseFieldDescriptor (TJ6 k).2.2.1 = some (tyJ6 k) := by decide +kernel
abbrev cJ6_bitCount_0f7a4 : ByteArray := prog_11_method_49_code
def yJ6_bitCount_0f7a4 : MethodName := ⟨RJ6, "bitCount", "(I)I"⟩
def RJ13 : String := "java/lang/Long"
def TJ13 : u_T := fun k => match k with
  | _ => ("", "", "", false)
def tyJ13 : Nat → FieldType := fun k => match k with
  | _ => .int
abbrev wsJ130 : List Cond := u_ws RJ13 TJ13 0
theorem nmJ13 : ∀ a, a < 0 → ∀ b, b < 0 → a ≠ b → (TJ13 a).2.1 ≠ (TJ13 b).2.1 := by decide +kernel
theorem tyJ13_ok : ∀ k, k < 0 → parseFieldDescriptor (TJ13 k).2.2.1 = some (tyJ13 k) := by decide +kernel
abbrev cJ13_bitCount_95d88 : ByteArray := prog_12_method_50_code
def yJ13_bitCount_95d88 : MethodName := ⟨RJ13, "bitCount", "(J)I"⟩
def RJ9 : String := "java/lang/Math"
def TJ9 : u_T := fun k => match k with
  | _ => ("", "", "", false)
def tyJ9 : Nat → FieldType := fun k => match k with
  | _ => .int
abbrev wsJ90 : List Cond := u_ws RJ9 TJ9 0
theorem nmJ9 : ∀ a, a < 0 → ∀ b, b < 0 → a ≠ b → (TJ9 a).2.1 ≠ (TJ9 b).2.1 := by decide +kernel
theorem tyJ9_ok : ∀ k, k < 0 → parseFieldDescriptor (TJ9 k).2.2.1 = some (tyJ9 k) := by decide +kernel
abbrev cJ9_max_7cf53 : ByteArray := prog_13_method_65_code
def yJ9_max_7cf53 : MethodName := ⟨RJ9, "max", "(II)I"⟩
abbrev cJ9_min_7cf53 : ByteArray := prog_13_method_69_code
def yJ9_min_7cf53 : MethodName := ⟨RJ9, "min", "(II)I"⟩
def RJ0 : String := "java/lang/String"
def TJ0 : u_T := fun k => match k with
  | _ => ("", "", "", false)
def tyJ0 : Nat → FieldType := fun k => match k with
  | _ => .int
abbrev wsJ00 : List Cond := u_ws RJ0 TJ0 0
theorem nmJ0 : ∀ a, a < 0 → ∀ b, b < 0 → a ≠ b → (TJ0 a).2.1 ≠ (TJ0 b).2.1 := by decide +kernel
theorem tyJ0_ok : ∀ k, k < 0 → parseFieldDescriptor (TJ0 k).2.2.1 = some (tyJ0 k) := by decide +kernel
abbrev cJ0_length_8abf5 : ByteArray := prog_14_method_54_code
def yJ0_length_8abf5 : MethodName := ⟨RJ0, "length", "()I"⟩
abbrev cJ0_charAt_5068e : ByteArray := prog_14_method_56_code
def yJ0_charAt_5068e : MethodName := ⟨RJ0, "charAt", "(I)C"⟩
abbrev cJ0_coder_7d493 : ByteArray := prog_14_method_152_code
def yJ0_coder_7d493 : MethodName := ⟨RJ0, "coder", "()B"⟩
abbrev cJ0_isLatin1_aae02 : ByteArray := prog_14_method_154_code
def yJ0_isLatin1_aae02 : MethodName := ⟨RJ0, "isLatin1", "()Z"⟩
abbrev cJ0_checkIndex_df160 : ByteArray := prog_14_method_155_code
def yJ0_checkIndex_df160 : MethodName := ⟨RJ0, "checkIndex", "(II)V"⟩
def RJ1 : String := "java/lang/StringLatin1"
def TJ1 : u_T := fun k => match k with
  | _ => ("", "", "", false)
def tyJ1 : Nat → FieldType := fun k => match k with
  | _ => .int
abbrev wsJ10 : List Cond := u_ws RJ1 TJ1 0
theorem nmJ1 : ∀ a, a < 0 → ∀ b, b < 0 → a ≠ b → (TJ1 a).2.1 ≠ (TJ1 b).2.1 := by decide +kernel
theorem tyJ1_ok : ∀ k, k < 0 → parseFieldDescriptor (TJ1 k).2.2.1 = some (tyJ1 k) := by decide +kernel
abbrev cJ1_charAt_3b067 : ByteArray := prog_15_method_2_code
def yJ1_charAt_3b067 : MethodName := ⟨RJ1, "charAt", "([BI)C"⟩
def RJ2 : String := "java/lang/StringUTF16"
def TJ2 : u_T := fun k => match k with
  | _ => ("", "", "", false)
def tyJ2 : Nat → FieldType := fun k => match k with
  | _ => .int
abbrev wsJ20 : List Cond := u_ws RJ2 TJ2 0
theorem nmJ2 : ∀ a, a < 0 → ∀ b, b < 0 → a ≠ b → (TJ2 a).2.1 ≠ (TJ2 b).2.1 := by decide +kernel
theorem tyJ2_ok : ∀ k, k < 0 → parseFieldDescriptor (TJ2 k).2.2.1 = some (tyJ2 k) := by decide +kernel
abbrev cJ2_getChar_3b067 : ByteArray := prog_16_method_5_code
def yJ2_getChar_3b067 : MethodName := ⟨RJ2, "getChar", "([BI)C"⟩
abbrev cJ2_length_9d52b : ByteArray := prog_16_method_6_code
def yJ2_length_9d52b : MethodName := ⟨RJ2, "length", "([B)I"⟩
abbrev cJ2_charAt_3b067 : ByteArray := prog_16_method_83_code
def yJ2_charAt_3b067 : MethodName := ⟨RJ2, "charAt", "([BI)C"⟩
abbrev cJ2_checkIndex_2214a : ByteArray := prog_16_method_91_code
def yJ2_checkIndex_2214a : MethodName := ⟨RJ2, "checkIndex", "(I[B)V"⟩
def RJ10 : String := "java/lang/System"
def TJ10 : u_T := fun k => match k with
  | _ => ("", "", "", false)
def tyJ10 : Nat → FieldType := fun k => match k with
  | _ => .int
abbrev wsJ100 : List Cond := u_ws RJ10 TJ10 0
theorem nmJ10 : ∀ a, a < 0 → ∀ b, b < 0 → a ≠ b → (TJ10 a).2.1 ≠ (TJ10 b).2.1 := by decide +kernel
theorem tyJ10_ok : ∀ k, k < 0 → parseFieldDescriptor (TJ10 k).2.2.1 = some (tyJ10 k) := by decide +kernel
def RJ3 : String := "jdk/internal/util/Preconditions"
def TJ3 : u_T := fun k => match k with
  | _ => ("", "", "", false)
def tyJ3 : Nat → FieldType := fun k => match k with
  | _ => .int
abbrev wsJ30 : List Cond := u_ws RJ3 TJ3 0
theorem nmJ3 : ∀ a, a < 0 → ∀ b, b < 0 → a ≠ b → (TJ3 a).2.1 ≠ (TJ3 b).2.1 := by decide +kernel
theorem tyJ3_ok : ∀ k, k < 0 → parseFieldDescriptor (TJ3 k).2.2.1 = some (tyJ3 k) := by decide +kernel
abbrev cJ3_checkIndex_8e157 : ByteArray := prog_18_method_11_code
def yJ3_checkIndex_8e157 : MethodName := ⟨RJ3, "checkIndex", "(IILjava/util/function/BiFunction;)I"⟩
def RL : String := "PokerEveningLaw"
abbrev cL_law : ByteArray := code
def yL_law : MethodName := ⟨RL, "law", "([I)Z"⟩
abbrev vwCl : List vw_C := [(RX0, TX0, 4), (RX1, TX1, 4), (RX2, TX2, 10), (RX3, TX3, 4), (RX4, TX4, 2), (RX5, TX5, 3), (RX6, TX6, 4), (RX7, TX7, 8), (RX8, TX8, 35)]
/-- the tables' words that stay true -/
def p_T : List Cond := lw_tbl.filter goodWord
theorem p_in {w : Cond} (i : Nat) (h : lw_tbl[i]? = some w) (hg : goodWord w = true) : w ∈ p_T := List.mem_filter.mpr ⟨List.mem_of_getElem? h, hg⟩
theorem inX0 : ∀ w ∈ wsX00, w ∈ p_T := by decide +kernel
theorem inX1 : ∀ w ∈ wsX10, w ∈ p_T := by decide +kernel
theorem inX2 : ∀ w ∈ wsX20, w ∈ p_T := by decide +kernel
theorem inX3 : ∀ w ∈ wsX30, w ∈ p_T := by decide +kernel
theorem inX4 : ∀ w ∈ wsX40, w ∈ p_T := by decide +kernel
theorem inX5 : ∀ w ∈ wsX50, w ∈ p_T := by decide +kernel
theorem inX6 : ∀ w ∈ wsX60, w ∈ p_T := by decide +kernel
theorem inX7 : ∀ w ∈ wsX70, w ∈ p_T := by decide +kernel
theorem inX8 : ∀ w ∈ wsX80, w ∈ p_T := by decide +kernel
end
section
theorem dX0_hold_0 : decode cX0_hold 0 = .ok (.aload_n 0, 1) := by decide +kernel
theorem dX0_hold_1 : decode cX0_hold 1 = .ok (.invokevirtual 25, 3) := by decide +kernel
theorem dX0_hold_4 : decode cX0_hold 4 = .ok (.iconst 0, 1) := by decide +kernel
theorem dX0_hold_5 : decode cX0_hold 5 = .ok (.istore_n 2, 1) := by decide +kernel
theorem dX0_hold_6 : decode cX0_hold 6 = .ok (.iload_n 2, 1) := by decide +kernel
theorem dX0_hold_7 : decode cX0_hold 7 = .ok (.aload_n 1, 1) := by decide +kernel
theorem dX0_hold_8 : decode cX0_hold 8 = .ok (.getfield 28, 3) := by decide +kernel
theorem dX0_hold_11 : decode cX0_hold 11 = .ok (.if_icmp .ge 78, 3) := by decide +kernel
theorem dX0_hold_14 : decode cX0_hold 14 = .ok (.aload_n 0, 1) := by decide +kernel
theorem dX0_hold_15 : decode cX0_hold 15 = .ok (.getfield 12, 3) := by decide +kernel
theorem dX0_hold_18 : decode cX0_hold 18 = .ok (.getfield 34, 3) := by decide +kernel
theorem dX0_hold_21 : decode cX0_hold 21 = .ok (.istore_n 3, 1) := by decide +kernel
theorem dX0_hold_22 : decode cX0_hold 22 = .ok (.aload_n 0, 1) := by decide +kernel
theorem dX0_hold_23 : decode cX0_hold 23 = .ok (.getfield 12, 3) := by decide +kernel
theorem dX0_hold_26 : decode cX0_hold 26 = .ok (.aload_n 1, 1) := by decide +kernel
theorem dX0_hold_27 : decode cX0_hold 27 = .ok (.iload_n 2, 1) := by decide +kernel
theorem dX0_hold_28 : decode cX0_hold 28 = .ok (.invokevirtual 37, 3) := by decide +kernel
theorem dX0_hold_31 : decode cX0_hold 31 = .ok (.istore 4, 2) := by decide +kernel
theorem dX0_hold_33 : decode cX0_hold 33 = .ok (.aload_n 0, 1) := by decide +kernel
theorem dX0_hold_34 : decode cX0_hold 34 = .ok (.getfield 18, 3) := by decide +kernel
theorem dX0_hold_37 : decode cX0_hold 37 = .ok (.iload_n 2, 1) := by decide +kernel
theorem dX0_hold_38 : decode cX0_hold 38 = .ok (.iload 4, 2) := by decide +kernel
theorem dX0_hold_40 : decode cX0_hold 40 = .ok (.invokestatic 41, 3) := by decide +kernel
theorem dX0_hold_43 : decode cX0_hold 43 = .ok (.aload_n 0, 1) := by decide +kernel
theorem dX0_hold_44 : decode cX0_hold 44 = .ok (.aload_n 0, 1) := by decide +kernel
theorem dX0_hold_45 : decode cX0_hold 45 = .ok (.getfield 45, 3) := by decide +kernel
theorem dX0_hold_48 : decode cX0_hold 48 = .ok (.iload 4, 2) := by decide +kernel
theorem dX0_hold_50 : decode cX0_hold 50 = .ok (.invokestatic 48, 3) := by decide +kernel
theorem dX0_hold_53 : decode cX0_hold 53 = .ok (.putfield 45, 3) := by decide +kernel
theorem dX0_hold_56 : decode cX0_hold 56 = .ok (.aload_n 0, 1) := by decide +kernel
theorem dX0_hold_57 : decode cX0_hold 57 = .ok (.getfield 12, 3) := by decide +kernel
theorem dX0_hold_60 : decode cX0_hold 60 = .ok (.getfield 34, 3) := by decide +kernel
theorem dX0_hold_63 : decode cX0_hold 63 = .ok (.iload_n 3, 1) := by decide +kernel
theorem dX0_hold_64 : decode cX0_hold 64 = .ok (.if_icmp .eq 19, 3) := by decide +kernel
theorem dX0_hold_67 : decode cX0_hold 67 = .ok (.aload_n 0, 1) := by decide +kernel
theorem dX0_hold_68 : decode cX0_hold 68 = .ok (.getfield 22, 3) := by decide +kernel
theorem dX0_hold_71 : decode cX0_hold 71 = .ok (.aload_n 1, 1) := by decide +kernel
theorem dX0_hold_72 : decode cX0_hold 72 = .ok (.getfield 54, 3) := by decide +kernel
theorem dX0_hold_75 : decode cX0_hold 75 = .ok (.iload_n 2, 1) := by decide +kernel
theorem dX0_hold_76 : decode cX0_hold 76 = .ok (.invokestatic 57, 3) := by decide +kernel
theorem dX0_hold_79 : decode cX0_hold 79 = .ok (.iload_n 2, 1) := by decide +kernel
theorem dX0_hold_80 : decode cX0_hold 80 = .ok (.invokestatic 41, 3) := by decide +kernel
theorem dX0_hold_83 : decode cX0_hold 83 = .ok (.iinc 2 1, 3) := by decide +kernel
theorem dX0_hold_86 : decode cX0_hold 86 = .ok (.goto (-80), 3) := by decide +kernel
theorem dX0_hold_89 : decode cX0_hold 89 = .ok (.return_, 1) := by decide +kernel
theorem dX0_begin_0 : decode cX0_begin 0 = .ok (.aload_n 0, 1) := by decide +kernel
theorem dX0_begin_1 : decode cX0_begin 1 = .ok (.getfield 12, 3) := by decide +kernel
theorem dX0_begin_4 : decode cX0_begin 4 = .ok (.invokevirtual 61, 3) := by decide +kernel
theorem dX0_begin_7 : decode cX0_begin 7 = .ok (.aload_n 0, 1) := by decide +kernel
theorem dX0_begin_8 : decode cX0_begin 8 = .ok (.iconst 0, 1) := by decide +kernel
theorem dX0_begin_9 : decode cX0_begin 9 = .ok (.putfield 45, 3) := by decide +kernel
theorem dX0_begin_12 : decode cX0_begin 12 = .ok (.iconst 0, 1) := by decide +kernel
theorem dX0_begin_13 : decode cX0_begin 13 = .ok (.istore_n 1, 1) := by decide +kernel
theorem dX0_begin_14 : decode cX0_begin 14 = .ok (.iload_n 1, 1) := by decide +kernel
theorem dX0_begin_15 : decode cX0_begin 15 = .ok (.iconst 5, 1) := by decide +kernel
theorem dX0_begin_16 : decode cX0_begin 16 = .ok (.if_icmp .ge 19, 3) := by decide +kernel
theorem dX0_begin_19 : decode cX0_begin 19 = .ok (.aload_n 0, 1) := by decide +kernel
theorem dX0_begin_20 : decode cX0_begin 20 = .ok (.getfield 22, 3) := by decide +kernel
theorem dX0_begin_23 : decode cX0_begin 23 = .ok (.iload_n 1, 1) := by decide +kernel
theorem dX0_begin_24 : decode cX0_begin 24 = .ok (.bipush 7, 2) := by decide +kernel
theorem dX0_begin_26 : decode cX0_begin 26 = .ok (.invokestatic 41, 3) := by decide +kernel
theorem dX0_begin_29 : decode cX0_begin 29 = .ok (.iinc 1 1, 3) := by decide +kernel
theorem dX0_begin_32 : decode cX0_begin 32 = .ok (.goto (-18), 3) := by decide +kernel
theorem dX0_begin_35 : decode cX0_begin 35 = .ok (.return_, 1) := by decide +kernel
theorem dX1_cool_0 : decode cX1_cool 0 = .ok (.aload_n 0, 1) := by decide +kernel
theorem dX1_cool_1 : decode cX1_cool 1 = .ok (.iconst 0, 1) := by decide +kernel
theorem dX1_cool_2 : decode cX1_cool 2 = .ok (.putfield 9, 3) := by decide +kernel
theorem dX1_cool_5 : decode cX1_cool 5 = .ok (.aload_n 0, 1) := by decide +kernel
theorem dX1_cool_6 : decode cX1_cool 6 = .ok (.iconst (-1), 1) := by decide +kernel
theorem dX1_cool_7 : decode cX1_cool 7 = .ok (.putfield 15, 3) := by decide +kernel
theorem dX1_cool_10 : decode cX1_cool 10 = .ok (.aload_n 0, 1) := by decide +kernel
theorem dX1_cool_11 : decode cX1_cool 11 = .ok (.iconst 0, 1) := by decide +kernel
theorem dX1_cool_12 : decode cX1_cool 12 = .ok (.putfield 18, 3) := by decide +kernel
theorem dX1_cool_15 : decode cX1_cool 15 = .ok (.aload_n 0, 1) := by decide +kernel
theorem dX1_cool_16 : decode cX1_cool 16 = .ok (.iconst 0, 1) := by decide +kernel
theorem dX1_cool_17 : decode cX1_cool 17 = .ok (.putfield 21, 3) := by decide +kernel
theorem dX1_cool_20 : decode cX1_cool 20 = .ok (.return_, 1) := by decide +kernel
theorem dX1_copyFrom_0 : decode cX1_copyFrom 0 = .ok (.aload_n 0, 1) := by decide +kernel
theorem dX1_copyFrom_1 : decode cX1_copyFrom 1 = .ok (.aload_n 1, 1) := by decide +kernel
theorem dX1_copyFrom_2 : decode cX1_copyFrom 2 = .ok (.getfield 9, 3) := by decide +kernel
theorem dX1_copyFrom_5 : decode cX1_copyFrom 5 = .ok (.putfield 9, 3) := by decide +kernel
theorem dX1_copyFrom_8 : decode cX1_copyFrom 8 = .ok (.aload_n 0, 1) := by decide +kernel
theorem dX1_copyFrom_9 : decode cX1_copyFrom 9 = .ok (.aload_n 1, 1) := by decide +kernel
theorem dX1_copyFrom_10 : decode cX1_copyFrom 10 = .ok (.getfield 15, 3) := by decide +kernel
theorem dX1_copyFrom_13 : decode cX1_copyFrom 13 = .ok (.putfield 15, 3) := by decide +kernel
theorem dX1_copyFrom_16 : decode cX1_copyFrom 16 = .ok (.aload_n 0, 1) := by decide +kernel
theorem dX1_copyFrom_17 : decode cX1_copyFrom 17 = .ok (.aload_n 1, 1) := by decide +kernel
theorem dX1_copyFrom_18 : decode cX1_copyFrom 18 = .ok (.getfield 18, 3) := by decide +kernel
theorem dX1_copyFrom_21 : decode cX1_copyFrom 21 = .ok (.putfield 18, 3) := by decide +kernel
theorem dX1_copyFrom_24 : decode cX1_copyFrom 24 = .ok (.aload_n 0, 1) := by decide +kernel
theorem dX1_copyFrom_25 : decode cX1_copyFrom 25 = .ok (.aload_n 1, 1) := by decide +kernel
theorem dX1_copyFrom_26 : decode cX1_copyFrom 26 = .ok (.getfield 21, 3) := by decide +kernel
theorem dX1_copyFrom_29 : decode cX1_copyFrom 29 = .ok (.putfield 21, 3) := by decide +kernel
theorem dX1_copyFrom_32 : decode cX1_copyFrom 32 = .ok (.return_, 1) := by decide +kernel
theorem dX1_take_0 : decode cX1_take 0 = .ok (.aload_n 1, 1) := by decide +kernel
theorem dX1_take_1 : decode cX1_take 1 = .ok (.getfield 24, 3) := by decide +kernel
theorem dX1_take_4 : decode cX1_take 4 = .ok (.iload_n 2, 1) := by decide +kernel
theorem dX1_take_5 : decode cX1_take 5 = .ok (.invokestatic 30, 3) := by decide +kernel
theorem dX1_take_8 : decode cX1_take 8 = .ok (.istore_n 3, 1) := by decide +kernel
theorem dX1_take_9 : decode cX1_take 9 = .ok (.aload_n 0, 1) := by decide +kernel
theorem dX1_take_10 : decode cX1_take 10 = .ok (.getfield 21, 3) := by decide +kernel
theorem dX1_take_13 : decode cX1_take 13 = .ok (.iload_n 3, 1) := by decide +kernel
theorem dX1_take_14 : decode cX1_take 14 = .ok (.invokestatic 34, 3) := by decide +kernel
theorem dX1_take_17 : decode cX1_take 17 = .ok (.iconst 1, 1) := by decide +kernel
theorem dX1_take_18 : decode cX1_take 18 = .ok (.if_icmp .ne 6, 3) := by decide +kernel
theorem dX1_take_21 : decode cX1_take 21 = .ok (.bipush (-4), 2) := by decide +kernel
theorem dX1_take_23 : decode cX1_take 23 = .ok (.ireturn, 1) := by decide +kernel
theorem dX1_take_24 : decode cX1_take 24 = .ok (.aload_n 0, 1) := by decide +kernel
theorem dX1_take_25 : decode cX1_take 25 = .ok (.getfield 15, 3) := by decide +kernel
theorem dX1_take_28 : decode cX1_take 28 = .ok (.iload_n 3, 1) := by decide +kernel
theorem dX1_take_29 : decode cX1_take 29 = .ok (.if_icmp .eq 13, 3) := by decide +kernel
theorem dX1_take_32 : decode cX1_take 32 = .ok (.aload_n 0, 1) := by decide +kernel
theorem dX1_take_33 : decode cX1_take 33 = .ok (.dup, 1) := by decide +kernel
theorem dX1_take_34 : decode cX1_take 34 = .ok (.getfield 9, 3) := by decide +kernel
theorem dX1_take_37 : decode cX1_take 37 = .ok (.iconst 2, 1) := by decide +kernel
theorem dX1_take_38 : decode cX1_take 38 = .ok (.idiv, 1) := by decide +kernel
theorem dX1_take_39 : decode cX1_take 39 = .ok (.putfield 9, 3) := by decide +kernel
theorem dX1_take_42 : decode cX1_take 42 = .ok (.aload_n 0, 1) := by decide +kernel
theorem dX1_take_43 : decode cX1_take 43 = .ok (.dup, 1) := by decide +kernel
theorem dX1_take_44 : decode cX1_take 44 = .ok (.getfield 9, 3) := by decide +kernel
theorem dX1_take_47 : decode cX1_take 47 = .ok (.aload_n 1, 1) := by decide +kernel
theorem dX1_take_48 : decode cX1_take 48 = .ok (.getfield 38, 3) := by decide +kernel
theorem dX1_take_51 : decode cX1_take 51 = .ok (.iload_n 3, 1) := by decide +kernel
theorem dX1_take_52 : decode cX1_take 52 = .ok (.invokestatic 30, 3) := by decide +kernel
theorem dX1_take_55 : decode cX1_take 55 = .ok (.aload_n 1, 1) := by decide +kernel
theorem dX1_take_56 : decode cX1_take 56 = .ok (.iload_n 2, 1) := by decide +kernel
theorem dX1_take_57 : decode cX1_take 57 = .ok (.invokevirtual 41, 3) := by decide +kernel
theorem dX1_take_60 : decode cX1_take 60 = .ok (.aload_n 1, 1) := by decide +kernel
theorem dX1_take_61 : decode cX1_take 61 = .ok (.getfield 45, 3) := by decide +kernel
theorem dX1_take_64 : decode cX1_take 64 = .ok (.iload_n 2, 1) := by decide +kernel
theorem dX1_take_65 : decode cX1_take 65 = .ok (.invokestatic 30, 3) := by decide +kernel
theorem dX1_take_68 : decode cX1_take 68 = .ok (.invokestatic 48, 3) := by decide +kernel
theorem dX1_take_71 : decode cX1_take 71 = .ok (.iadd, 1) := by decide +kernel
theorem dX1_take_72 : decode cX1_take 72 = .ok (.putfield 9, 3) := by decide +kernel
theorem dX1_take_75 : decode cX1_take 75 = .ok (.aload_n 0, 1) := by decide +kernel
theorem dX1_take_76 : decode cX1_take 76 = .ok (.iload_n 3, 1) := by decide +kernel
theorem dX1_take_77 : decode cX1_take 77 = .ok (.putfield 15, 3) := by decide +kernel
theorem dX1_take_80 : decode cX1_take 80 = .ok (.aload_n 0, 1) := by decide +kernel
theorem dX1_take_81 : decode cX1_take 81 = .ok (.dup, 1) := by decide +kernel
theorem dX1_take_82 : decode cX1_take 82 = .ok (.getfield 18, 3) := by decide +kernel
theorem dX1_take_85 : decode cX1_take 85 = .ok (.iconst 1, 1) := by decide +kernel
theorem dX1_take_86 : decode cX1_take 86 = .ok (.iload_n 2, 1) := by decide +kernel
theorem dX1_take_87 : decode cX1_take 87 = .ok (.ishl, 1) := by decide +kernel
theorem dX1_take_88 : decode cX1_take 88 = .ok (.ior, 1) := by decide +kernel
theorem dX1_take_89 : decode cX1_take 89 = .ok (.putfield 18, 3) := by decide +kernel
theorem dX1_take_92 : decode cX1_take 92 = .ok (.aload_n 0, 1) := by decide +kernel
theorem dX1_take_93 : decode cX1_take 93 = .ok (.getfield 9, 3) := by decide +kernel
theorem dX1_take_96 : decode cX1_take 96 = .ok (.istore 4, 2) := by decide +kernel
theorem dX1_take_98 : decode cX1_take 98 = .ok (.iload 4, 2) := by decide +kernel
theorem dX1_take_100 : decode cX1_take 100 = .ok (.aload_n 1, 1) := by decide +kernel
theorem dX1_take_101 : decode cX1_take 101 = .ok (.getfield 52, 3) := by decide +kernel
theorem dX1_take_104 : decode cX1_take 104 = .ok (.iload_n 3, 1) := by decide +kernel
theorem dX1_take_105 : decode cX1_take 105 = .ok (.invokestatic 30, 3) := by decide +kernel
theorem dX1_take_108 : decode cX1_take 108 = .ok (.if_icmp .le 20, 3) := by decide +kernel
theorem dX1_take_111 : decode cX1_take 111 = .ok (.aload_n 0, 1) := by decide +kernel
theorem dX1_take_112 : decode cX1_take 112 = .ok (.dup, 1) := by decide +kernel
theorem dX1_take_113 : decode cX1_take 113 = .ok (.getfield 21, 3) := by decide +kernel
theorem dX1_take_116 : decode cX1_take 116 = .ok (.iconst 1, 1) := by decide +kernel
theorem dX1_take_117 : decode cX1_take 117 = .ok (.iload_n 3, 1) := by decide +kernel
theorem dX1_take_118 : decode cX1_take 118 = .ok (.ishl, 1) := by decide +kernel
theorem dX1_take_119 : decode cX1_take 119 = .ok (.ior, 1) := by decide +kernel
theorem dX1_take_120 : decode cX1_take 120 = .ok (.putfield 21, 3) := by decide +kernel
theorem dX1_take_123 : decode cX1_take 123 = .ok (.aload_n 0, 1) := by decide +kernel
theorem dX1_take_124 : decode cX1_take 124 = .ok (.iconst 0, 1) := by decide +kernel
theorem dX1_take_125 : decode cX1_take 125 = .ok (.putfield 9, 3) := by decide +kernel
theorem dX1_take_128 : decode cX1_take 128 = .ok (.iload 4, 2) := by decide +kernel
theorem dX1_take_130 : decode cX1_take 130 = .ok (.ireturn, 1) := by decide +kernel
theorem dX1_heating_0 : decode cX1_heating 0 = .ok (.iload_n 1, 1) := by decide +kernel
theorem dX1_heating_1 : decode cX1_heating 1 = .ok (.ifCond .eq 7, 3) := by decide +kernel
theorem dX1_heating_4 : decode cX1_heating 4 = .ok (.iload_n 2, 1) := by decide +kernel
theorem dX1_heating_5 : decode cX1_heating 5 = .ok (.goto 4, 3) := by decide +kernel
theorem dX1_heating_8 : decode cX1_heating 8 = .ok (.iconst 1, 1) := by decide +kernel
theorem dX1_heating_9 : decode cX1_heating 9 = .ok (.istore_n 3, 1) := by decide +kernel
theorem dX1_heating_10 : decode cX1_heating 10 = .ok (.iload_n 0, 1) := by decide +kernel
theorem dX1_heating_11 : decode cX1_heating 11 = .ok (.tableswitch 45 1 3 #[25, 29, 41], 25) := by decide +kernel
theorem dX1_heating_36 : decode cX1_heating 36 = .ok (.iload_n 3, 1) := by decide +kernel
theorem dX1_heating_37 : decode cX1_heating 37 = .ok (.iconst 2, 1) := by decide +kernel
theorem dX1_heating_38 : decode cX1_heating 38 = .ok (.idiv, 1) := by decide +kernel
theorem dX1_heating_39 : decode cX1_heating 39 = .ok (.ireturn, 1) := by decide +kernel
theorem dX1_heating_40 : decode cX1_heating 40 = .ok (.iload_n 1, 1) := by decide +kernel
theorem dX1_heating_41 : decode cX1_heating 41 = .ok (.ifCond .eq 9, 3) := by decide +kernel
theorem dX1_heating_44 : decode cX1_heating 44 = .ok (.iconst 2, 1) := by decide +kernel
theorem dX1_heating_45 : decode cX1_heating 45 = .ok (.iload_n 3, 1) := by decide +kernel
theorem dX1_heating_46 : decode cX1_heating 46 = .ok (.imul, 1) := by decide +kernel
theorem dX1_heating_47 : decode cX1_heating 47 = .ok (.goto 4, 3) := by decide +kernel
theorem dX1_heating_50 : decode cX1_heating 50 = .ok (.iload_n 3, 1) := by decide +kernel
theorem dX1_heating_51 : decode cX1_heating 51 = .ok (.ireturn, 1) := by decide +kernel
theorem dX1_heating_52 : decode cX1_heating 52 = .ok (.iload_n 3, 1) := by decide +kernel
theorem dX1_heating_53 : decode cX1_heating 53 = .ok (.iconst 1, 1) := by decide +kernel
theorem dX1_heating_54 : decode cX1_heating 54 = .ok (.iadd, 1) := by decide +kernel
theorem dX1_heating_55 : decode cX1_heating 55 = .ok (.ireturn, 1) := by decide +kernel
theorem dX1_heating_56 : decode cX1_heating 56 = .ok (.iload_n 3, 1) := by decide +kernel
theorem dX1_heating_57 : decode cX1_heating 57 = .ok (.ireturn, 1) := by decide +kernel
theorem dX2_clear_0 : decode cX2_clear 0 = .ok (.aload_n 0, 1) := by decide +kernel
theorem dX2_clear_1 : decode cX2_clear 1 = .ok (.iconst 0, 1) := by decide +kernel
theorem dX2_clear_2 : decode cX2_clear 2 = .ok (.putfield 30, 3) := by decide +kernel
theorem dX2_clear_5 : decode cX2_clear 5 = .ok (.aload_n 0, 1) := by decide +kernel
theorem dX2_clear_6 : decode cX2_clear 6 = .ok (.iconst 0, 1) := by decide +kernel
theorem dX2_clear_7 : decode cX2_clear 7 = .ok (.putfield 34, 3) := by decide +kernel
theorem dX2_clear_10 : decode cX2_clear 10 = .ok (.aload_n 0, 1) := by decide +kernel
theorem dX2_clear_11 : decode cX2_clear 11 = .ok (.iconst 0, 1) := by decide +kernel
theorem dX2_clear_12 : decode cX2_clear 12 = .ok (.putfield 37, 3) := by decide +kernel
theorem dX2_clear_15 : decode cX2_clear 15 = .ok (.aload_n 0, 1) := by decide +kernel
theorem dX2_clear_16 : decode cX2_clear 16 = .ok (.iconst 0, 1) := by decide +kernel
theorem dX2_clear_17 : decode cX2_clear 17 = .ok (.putfield 40, 3) := by decide +kernel
theorem dX2_clear_20 : decode cX2_clear 20 = .ok (.return_, 1) := by decide +kernel
theorem dX2_copyFrom_0 : decode cX2_copyFrom 0 = .ok (.aload_n 1, 1) := by decide +kernel
theorem dX2_copyFrom_1 : decode cX2_copyFrom 1 = .ok (.getfield 9, 3) := by decide +kernel
theorem dX2_copyFrom_4 : decode cX2_copyFrom 4 = .ok (.aload_n 0, 1) := by decide +kernel
theorem dX2_copyFrom_5 : decode cX2_copyFrom 5 = .ok (.getfield 9, 3) := by decide +kernel
theorem dX2_copyFrom_8 : decode cX2_copyFrom 8 = .ok (.invokestatic 43, 3) := by decide +kernel
theorem dX2_copyFrom_11 : decode cX2_copyFrom 11 = .ok (.aload_n 1, 1) := by decide +kernel
theorem dX2_copyFrom_12 : decode cX2_copyFrom 12 = .ok (.getfield 15, 3) := by decide +kernel
theorem dX2_copyFrom_15 : decode cX2_copyFrom 15 = .ok (.aload_n 0, 1) := by decide +kernel
theorem dX2_copyFrom_16 : decode cX2_copyFrom 16 = .ok (.getfield 15, 3) := by decide +kernel
theorem dX2_copyFrom_19 : decode cX2_copyFrom 19 = .ok (.invokestatic 43, 3) := by decide +kernel
theorem dX2_copyFrom_22 : decode cX2_copyFrom 22 = .ok (.aload_n 1, 1) := by decide +kernel
theorem dX2_copyFrom_23 : decode cX2_copyFrom 23 = .ok (.getfield 18, 3) := by decide +kernel
theorem dX2_copyFrom_26 : decode cX2_copyFrom 26 = .ok (.aload_n 0, 1) := by decide +kernel
theorem dX2_copyFrom_27 : decode cX2_copyFrom 27 = .ok (.getfield 18, 3) := by decide +kernel
theorem dX2_copyFrom_30 : decode cX2_copyFrom 30 = .ok (.invokestatic 43, 3) := by decide +kernel
theorem dX2_copyFrom_33 : decode cX2_copyFrom 33 = .ok (.aload_n 1, 1) := by decide +kernel
theorem dX2_copyFrom_34 : decode cX2_copyFrom 34 = .ok (.getfield 21, 3) := by decide +kernel
theorem dX2_copyFrom_37 : decode cX2_copyFrom 37 = .ok (.aload_n 0, 1) := by decide +kernel
theorem dX2_copyFrom_38 : decode cX2_copyFrom 38 = .ok (.getfield 21, 3) := by decide +kernel
theorem dX2_copyFrom_41 : decode cX2_copyFrom 41 = .ok (.invokestatic 43, 3) := by decide +kernel
theorem dX2_copyFrom_44 : decode cX2_copyFrom 44 = .ok (.aload_n 1, 1) := by decide +kernel
theorem dX2_copyFrom_45 : decode cX2_copyFrom 45 = .ok (.getfield 24, 3) := by decide +kernel
theorem dX2_copyFrom_48 : decode cX2_copyFrom 48 = .ok (.aload_n 0, 1) := by decide +kernel
theorem dX2_copyFrom_49 : decode cX2_copyFrom 49 = .ok (.getfield 24, 3) := by decide +kernel
theorem dX2_copyFrom_52 : decode cX2_copyFrom 52 = .ok (.invokestatic 43, 3) := by decide +kernel
theorem dX2_copyFrom_55 : decode cX2_copyFrom 55 = .ok (.aload_n 1, 1) := by decide +kernel
theorem dX2_copyFrom_56 : decode cX2_copyFrom 56 = .ok (.getfield 27, 3) := by decide +kernel
theorem dX2_copyFrom_59 : decode cX2_copyFrom 59 = .ok (.aload_n 0, 1) := by decide +kernel
theorem dX2_copyFrom_60 : decode cX2_copyFrom 60 = .ok (.getfield 27, 3) := by decide +kernel
theorem dX2_copyFrom_63 : decode cX2_copyFrom 63 = .ok (.invokestatic 43, 3) := by decide +kernel
theorem dX2_copyFrom_66 : decode cX2_copyFrom 66 = .ok (.aload_n 0, 1) := by decide +kernel
theorem dX2_copyFrom_67 : decode cX2_copyFrom 67 = .ok (.aload_n 1, 1) := by decide +kernel
theorem dX2_copyFrom_68 : decode cX2_copyFrom 68 = .ok (.getfield 30, 3) := by decide +kernel
theorem dX2_copyFrom_71 : decode cX2_copyFrom 71 = .ok (.putfield 30, 3) := by decide +kernel
theorem dX2_copyFrom_74 : decode cX2_copyFrom 74 = .ok (.aload_n 0, 1) := by decide +kernel
theorem dX2_copyFrom_75 : decode cX2_copyFrom 75 = .ok (.aload_n 1, 1) := by decide +kernel
theorem dX2_copyFrom_76 : decode cX2_copyFrom 76 = .ok (.getfield 34, 3) := by decide +kernel
theorem dX2_copyFrom_79 : decode cX2_copyFrom 79 = .ok (.putfield 34, 3) := by decide +kernel
theorem dX2_copyFrom_82 : decode cX2_copyFrom 82 = .ok (.aload_n 0, 1) := by decide +kernel
theorem dX2_copyFrom_83 : decode cX2_copyFrom 83 = .ok (.aload_n 1, 1) := by decide +kernel
theorem dX2_copyFrom_84 : decode cX2_copyFrom 84 = .ok (.getfield 37, 3) := by decide +kernel
theorem dX2_copyFrom_87 : decode cX2_copyFrom 87 = .ok (.putfield 37, 3) := by decide +kernel
theorem dX2_copyFrom_90 : decode cX2_copyFrom 90 = .ok (.aload_n 0, 1) := by decide +kernel
theorem dX2_copyFrom_91 : decode cX2_copyFrom 91 = .ok (.aload_n 1, 1) := by decide +kernel
theorem dX2_copyFrom_92 : decode cX2_copyFrom 92 = .ok (.getfield 40, 3) := by decide +kernel
theorem dX2_copyFrom_95 : decode cX2_copyFrom 95 = .ok (.putfield 40, 3) := by decide +kernel
theorem dX2_copyFrom_98 : decode cX2_copyFrom 98 = .ok (.return_, 1) := by decide +kernel
theorem dX2_isTeller_0 : decode cX2_isTeller 0 = .ok (.iload_n 1, 1) := by decide +kernel
theorem dX2_isTeller_1 : decode cX2_isTeller 1 = .ok (.ifCond .lt 15, 3) := by decide +kernel
theorem dX2_isTeller_4 : decode cX2_isTeller 4 = .ok (.iload_n 1, 1) := by decide +kernel
theorem dX2_isTeller_5 : decode cX2_isTeller 5 = .ok (.aload_n 0, 1) := by decide +kernel
theorem dX2_isTeller_6 : decode cX2_isTeller 6 = .ok (.getfield 30, 3) := by decide +kernel
theorem dX2_isTeller_9 : decode cX2_isTeller 9 = .ok (.if_icmp .ge 7, 3) := by decide +kernel
theorem dX2_isTeller_12 : decode cX2_isTeller 12 = .ok (.iconst 1, 1) := by decide +kernel
theorem dX2_isTeller_13 : decode cX2_isTeller 13 = .ok (.goto 4, 3) := by decide +kernel
theorem dX2_isTeller_16 : decode cX2_isTeller 16 = .ok (.iconst 0, 1) := by decide +kernel
theorem dX2_isTeller_17 : decode cX2_isTeller 17 = .ok (.ireturn, 1) := by decide +kernel
theorem dX2_isFact_0 : decode cX2_isFact 0 = .ok (.iload_n 1, 1) := by decide +kernel
theorem dX2_isFact_1 : decode cX2_isFact 1 = .ok (.ifCond .lt 15, 3) := by decide +kernel
theorem dX2_isFact_4 : decode cX2_isFact 4 = .ok (.iload_n 1, 1) := by decide +kernel
theorem dX2_isFact_5 : decode cX2_isFact 5 = .ok (.aload_n 0, 1) := by decide +kernel
theorem dX2_isFact_6 : decode cX2_isFact 6 = .ok (.getfield 34, 3) := by decide +kernel
theorem dX2_isFact_9 : decode cX2_isFact 9 = .ok (.if_icmp .ge 7, 3) := by decide +kernel
theorem dX2_isFact_12 : decode cX2_isFact 12 = .ok (.iconst 1, 1) := by decide +kernel
theorem dX2_isFact_13 : decode cX2_isFact 13 = .ok (.goto 4, 3) := by decide +kernel
theorem dX2_isFact_16 : decode cX2_isFact 16 = .ok (.iconst 0, 1) := by decide +kernel
theorem dX2_isFact_17 : decode cX2_isFact 17 = .ok (.ireturn, 1) := by decide +kernel
theorem dX2_isClaim_0 : decode cX2_isClaim 0 = .ok (.iload_n 1, 1) := by decide +kernel
theorem dX2_isClaim_1 : decode cX2_isClaim 1 = .ok (.ifCond .lt 15, 3) := by decide +kernel
theorem dX2_isClaim_4 : decode cX2_isClaim 4 = .ok (.iload_n 1, 1) := by decide +kernel
theorem dX2_isClaim_5 : decode cX2_isClaim 5 = .ok (.aload_n 0, 1) := by decide +kernel
theorem dX2_isClaim_6 : decode cX2_isClaim 6 = .ok (.getfield 37, 3) := by decide +kernel
theorem dX2_isClaim_9 : decode cX2_isClaim 9 = .ok (.if_icmp .ge 7, 3) := by decide +kernel
theorem dX2_isClaim_12 : decode cX2_isClaim 12 = .ok (.iconst 1, 1) := by decide +kernel
theorem dX2_isClaim_13 : decode cX2_isClaim 13 = .ok (.goto 4, 3) := by decide +kernel
theorem dX2_isClaim_16 : decode cX2_isClaim 16 = .ok (.iconst 0, 1) := by decide +kernel
theorem dX2_isClaim_17 : decode cX2_isClaim 17 = .ok (.ireturn, 1) := by decide +kernel
theorem dX2_allowsClaim_0 : decode cX2_allowsClaim 0 = .ok (.aload_n 0, 1) := by decide +kernel
theorem dX2_allowsClaim_1 : decode cX2_allowsClaim 1 = .ok (.iload_n 1, 1) := by decide +kernel
theorem dX2_allowsClaim_2 : decode cX2_allowsClaim 2 = .ok (.invokevirtual 47, 3) := by decide +kernel
theorem dX2_allowsClaim_5 : decode cX2_allowsClaim 5 = .ok (.ifCond .eq 35, 3) := by decide +kernel
theorem dX2_allowsClaim_8 : decode cX2_allowsClaim 8 = .ok (.aload_n 0, 1) := by decide +kernel
theorem dX2_allowsClaim_9 : decode cX2_allowsClaim 9 = .ok (.iload_n 2, 1) := by decide +kernel
theorem dX2_allowsClaim_10 : decode cX2_allowsClaim 10 = .ok (.invokevirtual 51, 3) := by decide +kernel
theorem dX2_allowsClaim_13 : decode cX2_allowsClaim 13 = .ok (.ifCond .eq 27, 3) := by decide +kernel
theorem dX2_allowsClaim_16 : decode cX2_allowsClaim 16 = .ok (.iload_n 3, 1) := by decide +kernel
theorem dX2_allowsClaim_17 : decode cX2_allowsClaim 17 = .ok (.iconst 0, 1) := by decide +kernel
theorem dX2_allowsClaim_18 : decode cX2_allowsClaim 18 = .ok (.iconst 1, 1) := by decide +kernel
theorem dX2_allowsClaim_19 : decode cX2_allowsClaim 19 = .ok (.invokestatic 54, 3) := by decide +kernel
theorem dX2_allowsClaim_22 : decode cX2_allowsClaim 22 = .ok (.ifCond .eq 18, 3) := by decide +kernel
theorem dX2_allowsClaim_25 : decode cX2_allowsClaim 25 = .ok (.iload 4, 2) := by decide +kernel
theorem dX2_allowsClaim_27 : decode cX2_allowsClaim 27 = .ok (.iconst 1, 1) := by decide +kernel
theorem dX2_allowsClaim_28 : decode cX2_allowsClaim 28 = .ok (.bipush 20, 2) := by decide +kernel
theorem dX2_allowsClaim_30 : decode cX2_allowsClaim 30 = .ok (.invokestatic 54, 3) := by decide +kernel
theorem dX2_allowsClaim_33 : decode cX2_allowsClaim 33 = .ok (.ifCond .eq 7, 3) := by decide +kernel
theorem dX2_allowsClaim_36 : decode cX2_allowsClaim 36 = .ok (.iconst 1, 1) := by decide +kernel
theorem dX2_allowsClaim_37 : decode cX2_allowsClaim 37 = .ok (.goto 4, 3) := by decide +kernel
theorem dX2_allowsClaim_40 : decode cX2_allowsClaim 40 = .ok (.iconst 0, 1) := by decide +kernel
theorem dX2_allowsClaim_41 : decode cX2_allowsClaim 41 = .ok (.ireturn, 1) := by decide +kernel
theorem dX2_worldCount_0 : decode cX2_worldCount 0 = .ok (.iconst 1, 1) := by decide +kernel
theorem dX2_worldCount_1 : decode cX2_worldCount 1 = .ok (.aload_n 0, 1) := by decide +kernel
theorem dX2_worldCount_2 : decode cX2_worldCount 2 = .ok (.getfield 34, 3) := by decide +kernel
theorem dX2_worldCount_5 : decode cX2_worldCount 5 = .ok (.ishl, 1) := by decide +kernel
theorem dX2_worldCount_6 : decode cX2_worldCount 6 = .ok (.ireturn, 1) := by decide +kernel
theorem dX2_addTeller_0 : decode cX2_addTeller 0 = .ok (.aload_n 0, 1) := by decide +kernel
theorem dX2_addTeller_1 : decode cX2_addTeller 1 = .ok (.getfield 30, 3) := by decide +kernel
theorem dX2_addTeller_4 : decode cX2_addTeller 4 = .ok (.iconst 5, 1) := by decide +kernel
theorem dX2_addTeller_5 : decode cX2_addTeller 5 = .ok (.if_icmp .ge 22, 3) := by decide +kernel
theorem dX2_addTeller_8 : decode cX2_addTeller 8 = .ok (.iload_n 1, 1) := by decide +kernel
theorem dX2_addTeller_9 : decode cX2_addTeller 9 = .ok (.iconst 0, 1) := by decide +kernel
theorem dX2_addTeller_10 : decode cX2_addTeller 10 = .ok (.iconst 3, 1) := by decide +kernel
theorem dX2_addTeller_11 : decode cX2_addTeller 11 = .ok (.invokestatic 54, 3) := by decide +kernel
theorem dX2_addTeller_14 : decode cX2_addTeller 14 = .ok (.ifCond .eq 13, 3) := by decide +kernel
theorem dX2_addTeller_17 : decode cX2_addTeller 17 = .ok (.iload_n 2, 1) := by decide +kernel
theorem dX2_addTeller_18 : decode cX2_addTeller 18 = .ok (.iconst 1, 1) := by decide +kernel
theorem dX2_addTeller_19 : decode cX2_addTeller 19 = .ok (.bipush 40, 2) := by decide +kernel
theorem dX2_addTeller_21 : decode cX2_addTeller 21 = .ok (.invokestatic 54, 3) := by decide +kernel
theorem dX2_addTeller_24 : decode cX2_addTeller 24 = .ok (.ifCond .ne 5, 3) := by decide +kernel
theorem dX2_addTeller_27 : decode cX2_addTeller 27 = .ok (.iconst 0, 1) := by decide +kernel
theorem dX2_addTeller_28 : decode cX2_addTeller 28 = .ok (.ireturn, 1) := by decide +kernel
theorem dX2_addTeller_29 : decode cX2_addTeller 29 = .ok (.aload_n 0, 1) := by decide +kernel
theorem dX2_addTeller_30 : decode cX2_addTeller 30 = .ok (.getfield 9, 3) := by decide +kernel
theorem dX2_addTeller_33 : decode cX2_addTeller 33 = .ok (.aload_n 0, 1) := by decide +kernel
theorem dX2_addTeller_34 : decode cX2_addTeller 34 = .ok (.getfield 30, 3) := by decide +kernel
theorem dX2_addTeller_37 : decode cX2_addTeller 37 = .ok (.iload_n 1, 1) := by decide +kernel
theorem dX2_addTeller_38 : decode cX2_addTeller 38 = .ok (.invokestatic 58, 3) := by decide +kernel
theorem dX2_addTeller_41 : decode cX2_addTeller 41 = .ok (.aload_n 0, 1) := by decide +kernel
theorem dX2_addTeller_42 : decode cX2_addTeller 42 = .ok (.getfield 15, 3) := by decide +kernel
theorem dX2_addTeller_45 : decode cX2_addTeller 45 = .ok (.aload_n 0, 1) := by decide +kernel
theorem dX2_addTeller_46 : decode cX2_addTeller 46 = .ok (.getfield 30, 3) := by decide +kernel
theorem dX2_addTeller_49 : decode cX2_addTeller 49 = .ok (.iload_n 2, 1) := by decide +kernel
theorem dX2_addTeller_50 : decode cX2_addTeller 50 = .ok (.invokestatic 58, 3) := by decide +kernel
theorem dX2_addTeller_53 : decode cX2_addTeller 53 = .ok (.aload_n 0, 1) := by decide +kernel
theorem dX2_addTeller_54 : decode cX2_addTeller 54 = .ok (.dup, 1) := by decide +kernel
theorem dX2_addTeller_55 : decode cX2_addTeller 55 = .ok (.getfield 30, 3) := by decide +kernel
theorem dX2_addTeller_58 : decode cX2_addTeller 58 = .ok (.iconst 1, 1) := by decide +kernel
theorem dX2_addTeller_59 : decode cX2_addTeller 59 = .ok (.iadd, 1) := by decide +kernel
theorem dX2_addTeller_60 : decode cX2_addTeller 60 = .ok (.putfield 30, 3) := by decide +kernel
theorem dX2_addTeller_63 : decode cX2_addTeller 63 = .ok (.iconst 1, 1) := by decide +kernel
theorem dX2_addTeller_64 : decode cX2_addTeller 64 = .ok (.ireturn, 1) := by decide +kernel
theorem dX2_addFact_0 : decode cX2_addFact 0 = .ok (.aload_n 0, 1) := by decide +kernel
theorem dX2_addFact_1 : decode cX2_addFact 1 = .ok (.getfield 34, 3) := by decide +kernel
theorem dX2_addFact_4 : decode cX2_addFact 4 = .ok (.bipush 6, 2) := by decide +kernel
theorem dX2_addFact_6 : decode cX2_addFact 6 = .ok (.if_icmp .ge 12, 3) := by decide +kernel
theorem dX2_addFact_9 : decode cX2_addFact 9 = .ok (.iload_n 1, 1) := by decide +kernel
theorem dX2_addFact_10 : decode cX2_addFact 10 = .ok (.iconst 0, 1) := by decide +kernel
theorem dX2_addFact_11 : decode cX2_addFact 11 = .ok (.iconst 1, 1) := by decide +kernel
theorem dX2_addFact_12 : decode cX2_addFact 12 = .ok (.invokestatic 54, 3) := by decide +kernel
theorem dX2_addFact_15 : decode cX2_addFact 15 = .ok (.ifCond .ne 5, 3) := by decide +kernel
theorem dX2_addFact_18 : decode cX2_addFact 18 = .ok (.iconst 0, 1) := by decide +kernel
theorem dX2_addFact_19 : decode cX2_addFact 19 = .ok (.ireturn, 1) := by decide +kernel
theorem dX2_addFact_20 : decode cX2_addFact 20 = .ok (.aload_n 0, 1) := by decide +kernel
theorem dX2_addFact_21 : decode cX2_addFact 21 = .ok (.dup, 1) := by decide +kernel
theorem dX2_addFact_22 : decode cX2_addFact 22 = .ok (.getfield 40, 3) := by decide +kernel
theorem dX2_addFact_25 : decode cX2_addFact 25 = .ok (.iload_n 1, 1) := by decide +kernel
theorem dX2_addFact_26 : decode cX2_addFact 26 = .ok (.aload_n 0, 1) := by decide +kernel
theorem dX2_addFact_27 : decode cX2_addFact 27 = .ok (.getfield 34, 3) := by decide +kernel
theorem dX2_addFact_30 : decode cX2_addFact 30 = .ok (.ishl, 1) := by decide +kernel
theorem dX2_addFact_31 : decode cX2_addFact 31 = .ok (.ior, 1) := by decide +kernel
theorem dX2_addFact_32 : decode cX2_addFact 32 = .ok (.putfield 40, 3) := by decide +kernel
theorem dX2_addFact_35 : decode cX2_addFact 35 = .ok (.aload_n 0, 1) := by decide +kernel
theorem dX2_addFact_36 : decode cX2_addFact 36 = .ok (.dup, 1) := by decide +kernel
theorem dX2_addFact_37 : decode cX2_addFact 37 = .ok (.getfield 34, 3) := by decide +kernel
theorem dX2_addFact_40 : decode cX2_addFact 40 = .ok (.iconst 1, 1) := by decide +kernel
theorem dX2_addFact_41 : decode cX2_addFact 41 = .ok (.iadd, 1) := by decide +kernel
theorem dX2_addFact_42 : decode cX2_addFact 42 = .ok (.putfield 34, 3) := by decide +kernel
theorem dX2_addFact_45 : decode cX2_addFact 45 = .ok (.iconst 1, 1) := by decide +kernel
theorem dX2_addFact_46 : decode cX2_addFact 46 = .ok (.ireturn, 1) := by decide +kernel
theorem dX2_addClaim_0 : decode cX2_addClaim 0 = .ok (.aload_n 0, 1) := by decide +kernel
theorem dX2_addClaim_1 : decode cX2_addClaim 1 = .ok (.getfield 37, 3) := by decide +kernel
theorem dX2_addClaim_4 : decode cX2_addClaim 4 = .ok (.bipush 7, 2) := by decide +kernel
theorem dX2_addClaim_6 : decode cX2_addClaim 6 = .ok (.if_icmp .ge 15, 3) := by decide +kernel
theorem dX2_addClaim_9 : decode cX2_addClaim 9 = .ok (.aload_n 0, 1) := by decide +kernel
theorem dX2_addClaim_10 : decode cX2_addClaim 10 = .ok (.iload_n 1, 1) := by decide +kernel
theorem dX2_addClaim_11 : decode cX2_addClaim 11 = .ok (.iload_n 2, 1) := by decide +kernel
theorem dX2_addClaim_12 : decode cX2_addClaim 12 = .ok (.iload_n 3, 1) := by decide +kernel
theorem dX2_addClaim_13 : decode cX2_addClaim 13 = .ok (.iload 4, 2) := by decide +kernel
theorem dX2_addClaim_15 : decode cX2_addClaim 15 = .ok (.invokevirtual 62, 3) := by decide +kernel
theorem dX2_addClaim_18 : decode cX2_addClaim 18 = .ok (.ifCond .ne 5, 3) := by decide +kernel
theorem dX2_addClaim_21 : decode cX2_addClaim 21 = .ok (.iconst 0, 1) := by decide +kernel
theorem dX2_addClaim_22 : decode cX2_addClaim 22 = .ok (.ireturn, 1) := by decide +kernel
theorem dX2_addClaim_23 : decode cX2_addClaim 23 = .ok (.aload_n 0, 1) := by decide +kernel
theorem dX2_addClaim_24 : decode cX2_addClaim 24 = .ok (.getfield 18, 3) := by decide +kernel
theorem dX2_addClaim_27 : decode cX2_addClaim 27 = .ok (.aload_n 0, 1) := by decide +kernel
theorem dX2_addClaim_28 : decode cX2_addClaim 28 = .ok (.getfield 37, 3) := by decide +kernel
theorem dX2_addClaim_31 : decode cX2_addClaim 31 = .ok (.iload_n 1, 1) := by decide +kernel
theorem dX2_addClaim_32 : decode cX2_addClaim 32 = .ok (.invokestatic 58, 3) := by decide +kernel
theorem dX2_addClaim_35 : decode cX2_addClaim 35 = .ok (.aload_n 0, 1) := by decide +kernel
theorem dX2_addClaim_36 : decode cX2_addClaim 36 = .ok (.getfield 21, 3) := by decide +kernel
theorem dX2_addClaim_39 : decode cX2_addClaim 39 = .ok (.aload_n 0, 1) := by decide +kernel
theorem dX2_addClaim_40 : decode cX2_addClaim 40 = .ok (.getfield 37, 3) := by decide +kernel
theorem dX2_addClaim_43 : decode cX2_addClaim 43 = .ok (.iload_n 2, 1) := by decide +kernel
theorem dX2_addClaim_44 : decode cX2_addClaim 44 = .ok (.invokestatic 58, 3) := by decide +kernel
theorem dX2_addClaim_47 : decode cX2_addClaim 47 = .ok (.aload_n 0, 1) := by decide +kernel
theorem dX2_addClaim_48 : decode cX2_addClaim 48 = .ok (.getfield 24, 3) := by decide +kernel
theorem dX2_addClaim_51 : decode cX2_addClaim 51 = .ok (.aload_n 0, 1) := by decide +kernel
theorem dX2_addClaim_52 : decode cX2_addClaim 52 = .ok (.getfield 37, 3) := by decide +kernel
theorem dX2_addClaim_55 : decode cX2_addClaim 55 = .ok (.iload_n 3, 1) := by decide +kernel
theorem dX2_addClaim_56 : decode cX2_addClaim 56 = .ok (.invokestatic 58, 3) := by decide +kernel
theorem dX2_addClaim_59 : decode cX2_addClaim 59 = .ok (.aload_n 0, 1) := by decide +kernel
theorem dX2_addClaim_60 : decode cX2_addClaim 60 = .ok (.getfield 27, 3) := by decide +kernel
theorem dX2_addClaim_63 : decode cX2_addClaim 63 = .ok (.aload_n 0, 1) := by decide +kernel
theorem dX2_addClaim_64 : decode cX2_addClaim 64 = .ok (.getfield 37, 3) := by decide +kernel
theorem dX2_addClaim_67 : decode cX2_addClaim 67 = .ok (.iload 4, 2) := by decide +kernel
theorem dX2_addClaim_69 : decode cX2_addClaim 69 = .ok (.invokestatic 58, 3) := by decide +kernel
theorem dX2_addClaim_72 : decode cX2_addClaim 72 = .ok (.aload_n 0, 1) := by decide +kernel
theorem dX2_addClaim_73 : decode cX2_addClaim 73 = .ok (.dup, 1) := by decide +kernel
theorem dX2_addClaim_74 : decode cX2_addClaim 74 = .ok (.getfield 37, 3) := by decide +kernel
theorem dX2_addClaim_77 : decode cX2_addClaim 77 = .ok (.iconst 1, 1) := by decide +kernel
theorem dX2_addClaim_78 : decode cX2_addClaim 78 = .ok (.iadd, 1) := by decide +kernel
theorem dX2_addClaim_79 : decode cX2_addClaim 79 = .ok (.putfield 37, 3) := by decide +kernel
theorem dX2_addClaim_82 : decode cX2_addClaim 82 = .ok (.iconst 1, 1) := by decide +kernel
theorem dX2_addClaim_83 : decode cX2_addClaim 83 = .ok (.ireturn, 1) := by decide +kernel
theorem dX2_turnFact_0 : decode cX2_turnFact 0 = .ok (.aload_n 0, 1) := by decide +kernel
theorem dX2_turnFact_1 : decode cX2_turnFact 1 = .ok (.dup, 1) := by decide +kernel
theorem dX2_turnFact_2 : decode cX2_turnFact 2 = .ok (.getfield 40, 3) := by decide +kernel
theorem dX2_turnFact_5 : decode cX2_turnFact 5 = .ok (.iconst 1, 1) := by decide +kernel
theorem dX2_turnFact_6 : decode cX2_turnFact 6 = .ok (.iload_n 1, 1) := by decide +kernel
theorem dX2_turnFact_7 : decode cX2_turnFact 7 = .ok (.ishl, 1) := by decide +kernel
theorem dX2_turnFact_8 : decode cX2_turnFact 8 = .ok (.ixor, 1) := by decide +kernel
theorem dX2_turnFact_9 : decode cX2_turnFact 9 = .ok (.putfield 40, 3) := by decide +kernel
theorem dX2_turnFact_12 : decode cX2_turnFact 12 = .ok (.return_, 1) := by decide +kernel
theorem dX2_moveClaim_0 : decode cX2_moveClaim 0 = .ok (.aload_n 0, 1) := by decide +kernel
theorem dX2_moveClaim_1 : decode cX2_moveClaim 1 = .ok (.getfield 18, 3) := by decide +kernel
theorem dX2_moveClaim_4 : decode cX2_moveClaim 4 = .ok (.iload_n 1, 1) := by decide +kernel
theorem dX2_moveClaim_5 : decode cX2_moveClaim 5 = .ok (.iload_n 2, 1) := by decide +kernel
theorem dX2_moveClaim_6 : decode cX2_moveClaim 6 = .ok (.invokestatic 66, 3) := by decide +kernel
theorem dX2_moveClaim_9 : decode cX2_moveClaim 9 = .ok (.aload_n 0, 1) := by decide +kernel
theorem dX2_moveClaim_10 : decode cX2_moveClaim 10 = .ok (.getfield 21, 3) := by decide +kernel
theorem dX2_moveClaim_13 : decode cX2_moveClaim 13 = .ok (.iload_n 1, 1) := by decide +kernel
theorem dX2_moveClaim_14 : decode cX2_moveClaim 14 = .ok (.iload_n 2, 1) := by decide +kernel
theorem dX2_moveClaim_15 : decode cX2_moveClaim 15 = .ok (.invokestatic 66, 3) := by decide +kernel
theorem dX2_moveClaim_18 : decode cX2_moveClaim 18 = .ok (.aload_n 0, 1) := by decide +kernel
theorem dX2_moveClaim_19 : decode cX2_moveClaim 19 = .ok (.getfield 24, 3) := by decide +kernel
theorem dX2_moveClaim_22 : decode cX2_moveClaim 22 = .ok (.iload_n 1, 1) := by decide +kernel
theorem dX2_moveClaim_23 : decode cX2_moveClaim 23 = .ok (.iload_n 2, 1) := by decide +kernel
theorem dX2_moveClaim_24 : decode cX2_moveClaim 24 = .ok (.invokestatic 66, 3) := by decide +kernel
theorem dX2_moveClaim_27 : decode cX2_moveClaim 27 = .ok (.aload_n 0, 1) := by decide +kernel
theorem dX2_moveClaim_28 : decode cX2_moveClaim 28 = .ok (.getfield 27, 3) := by decide +kernel
theorem dX2_moveClaim_31 : decode cX2_moveClaim 31 = .ok (.iload_n 1, 1) := by decide +kernel
theorem dX2_moveClaim_32 : decode cX2_moveClaim 32 = .ok (.iload_n 2, 1) := by decide +kernel
theorem dX2_moveClaim_33 : decode cX2_moveClaim 33 = .ok (.invokestatic 66, 3) := by decide +kernel
theorem dX2_moveClaim_36 : decode cX2_moveClaim 36 = .ok (.return_, 1) := by decide +kernel
theorem dX2_removeClaim_0 : decode cX2_removeClaim 0 = .ok (.aload_n 0, 1) := by decide +kernel
theorem dX2_removeClaim_1 : decode cX2_removeClaim 1 = .ok (.iload_n 1, 1) := by decide +kernel
theorem dX2_removeClaim_2 : decode cX2_removeClaim 2 = .ok (.aload_n 0, 1) := by decide +kernel
theorem dX2_removeClaim_3 : decode cX2_removeClaim 3 = .ok (.getfield 37, 3) := by decide +kernel
theorem dX2_removeClaim_6 : decode cX2_removeClaim 6 = .ok (.iconst 1, 1) := by decide +kernel
theorem dX2_removeClaim_7 : decode cX2_removeClaim 7 = .ok (.isub, 1) := by decide +kernel
theorem dX2_removeClaim_8 : decode cX2_removeClaim 8 = .ok (.invokevirtual 69, 3) := by decide +kernel
theorem dX2_removeClaim_11 : decode cX2_removeClaim 11 = .ok (.aload_n 0, 1) := by decide +kernel
theorem dX2_removeClaim_12 : decode cX2_removeClaim 12 = .ok (.dup, 1) := by decide +kernel
theorem dX2_removeClaim_13 : decode cX2_removeClaim 13 = .ok (.getfield 37, 3) := by decide +kernel
theorem dX2_removeClaim_16 : decode cX2_removeClaim 16 = .ok (.iconst 1, 1) := by decide +kernel
theorem dX2_removeClaim_17 : decode cX2_removeClaim 17 = .ok (.isub, 1) := by decide +kernel
theorem dX2_removeClaim_18 : decode cX2_removeClaim 18 = .ok (.putfield 37, 3) := by decide +kernel
theorem dX2_removeClaim_21 : decode cX2_removeClaim 21 = .ok (.return_, 1) := by decide +kernel
theorem dX2_isFalse_0 : decode cX2_isFalse 0 = .ok (.aload_n 0, 1) := by decide +kernel
theorem dX2_isFalse_1 : decode cX2_isFalse 1 = .ok (.getfield 40, 3) := by decide +kernel
theorem dX2_isFalse_4 : decode cX2_isFalse 4 = .ok (.aload_n 0, 1) := by decide +kernel
theorem dX2_isFalse_5 : decode cX2_isFalse 5 = .ok (.getfield 21, 3) := by decide +kernel
theorem dX2_isFalse_8 : decode cX2_isFalse 8 = .ok (.iload_n 1, 1) := by decide +kernel
theorem dX2_isFalse_9 : decode cX2_isFalse 9 = .ok (.invokestatic 73, 3) := by decide +kernel
theorem dX2_isFalse_12 : decode cX2_isFalse 12 = .ok (.invokestatic 77, 3) := by decide +kernel
theorem dX2_isFalse_15 : decode cX2_isFalse 15 = .ok (.aload_n 0, 1) := by decide +kernel
theorem dX2_isFalse_16 : decode cX2_isFalse 16 = .ok (.getfield 24, 3) := by decide +kernel
theorem dX2_isFalse_19 : decode cX2_isFalse 19 = .ok (.iload_n 1, 1) := by decide +kernel
theorem dX2_isFalse_20 : decode cX2_isFalse 20 = .ok (.invokestatic 73, 3) := by decide +kernel
theorem dX2_isFalse_23 : decode cX2_isFalse 23 = .ok (.if_icmp .eq 7, 3) := by decide +kernel
theorem dX2_isFalse_26 : decode cX2_isFalse 26 = .ok (.iconst 1, 1) := by decide +kernel
theorem dX2_isFalse_27 : decode cX2_isFalse 27 = .ok (.goto 4, 3) := by decide +kernel
theorem dX2_isFalse_30 : decode cX2_isFalse 30 = .ok (.iconst 0, 1) := by decide +kernel
theorem dX2_isFalse_31 : decode cX2_isFalse 31 = .ok (.ireturn, 1) := by decide +kernel
theorem dX2_falseClaims_0 : decode cX2_falseClaims 0 = .ok (.iconst 0, 1) := by decide +kernel
theorem dX2_falseClaims_1 : decode cX2_falseClaims 1 = .ok (.istore_n 1, 1) := by decide +kernel
theorem dX2_falseClaims_2 : decode cX2_falseClaims 2 = .ok (.iconst 0, 1) := by decide +kernel
theorem dX2_falseClaims_3 : decode cX2_falseClaims 3 = .ok (.istore_n 2, 1) := by decide +kernel
theorem dX2_falseClaims_4 : decode cX2_falseClaims 4 = .ok (.iload_n 2, 1) := by decide +kernel
theorem dX2_falseClaims_5 : decode cX2_falseClaims 5 = .ok (.aload_n 0, 1) := by decide +kernel
theorem dX2_falseClaims_6 : decode cX2_falseClaims 6 = .ok (.getfield 37, 3) := by decide +kernel
theorem dX2_falseClaims_9 : decode cX2_falseClaims 9 = .ok (.if_icmp .ge 20, 3) := by decide +kernel
theorem dX2_falseClaims_12 : decode cX2_falseClaims 12 = .ok (.aload_n 0, 1) := by decide +kernel
theorem dX2_falseClaims_13 : decode cX2_falseClaims 13 = .ok (.iload_n 2, 1) := by decide +kernel
theorem dX2_falseClaims_14 : decode cX2_falseClaims 14 = .ok (.invokevirtual 81, 3) := by decide +kernel
theorem dX2_falseClaims_17 : decode cX2_falseClaims 17 = .ok (.ifCond .eq 6, 3) := by decide +kernel
theorem dX2_falseClaims_20 : decode cX2_falseClaims 20 = .ok (.iinc 1 1, 3) := by decide +kernel
theorem dX2_falseClaims_23 : decode cX2_falseClaims 23 = .ok (.iinc 2 1, 3) := by decide +kernel
theorem dX2_falseClaims_26 : decode cX2_falseClaims 26 = .ok (.goto (-22), 3) := by decide +kernel
theorem dX2_falseClaims_29 : decode cX2_falseClaims 29 = .ok (.iload_n 1, 1) := by decide +kernel
theorem dX2_falseClaims_30 : decode cX2_falseClaims 30 = .ok (.ireturn, 1) := by decide +kernel
theorem dX3_run_0 : decode cX3_run 0 = .ok (.aload_n 0, 1) := by decide +kernel
theorem dX3_run_1 : decode cX3_run 1 = .ok (.iconst (-1), 1) := by decide +kernel
theorem dX3_run_2 : decode cX3_run 2 = .ok (.putfield 25, 3) := by decide +kernel
theorem dX3_run_5 : decode cX3_run 5 = .ok (.aload_n 0, 1) := by decide +kernel
theorem dX3_run_6 : decode cX3_run 6 = .ok (.iconst 0, 1) := by decide +kernel
theorem dX3_run_7 : decode cX3_run 7 = .ok (.invokevirtual 29, 3) := by decide +kernel
theorem dX3_run_10 : decode cX3_run 10 = .ok (.astore_n 2, 1) := by decide +kernel
theorem dX3_run_11 : decode cX3_run 11 = .ok (.aload_n 2, 1) := by decide +kernel
theorem dX3_run_12 : decode cX3_run 12 = .ok (.ifnull 14, 3) := by decide +kernel
theorem dX3_run_15 : decode cX3_run 15 = .ok (.aload_n 2, 1) := by decide +kernel
theorem dX3_run_16 : decode cX3_run 16 = .ok (.invokevirtual 33, 3) := by decide +kernel
theorem dX3_run_19 : decode cX3_run 19 = .ok (.aload_n 0, 1) := by decide +kernel
theorem dX3_run_20 : decode cX3_run 20 = .ok (.aload_n 1, 1) := by decide +kernel
theorem dX3_run_21 : decode cX3_run 21 = .ok (.iconst 0, 1) := by decide +kernel
theorem dX3_run_22 : decode cX3_run 22 = .ok (.iconst 0, 1) := by decide +kernel
theorem dX3_run_23 : decode cX3_run 23 = .ok (.invokevirtual 36, 3) := by decide +kernel
theorem dX3_run_26 : decode cX3_run 26 = .ok (.return_, 1) := by decide +kernel
theorem dX3_look_0 : decode cX3_look 0 = .ok (.aload_n 0, 1) := by decide +kernel
theorem dX3_look_1 : decode cX3_look 1 = .ok (.iload_n 2, 1) := by decide +kernel
theorem dX3_look_2 : decode cX3_look 2 = .ok (.invokevirtual 29, 3) := by decide +kernel
theorem dX3_look_5 : decode cX3_look 5 = .ok (.astore 4, 2) := by decide +kernel
theorem dX3_look_7 : decode cX3_look 7 = .ok (.aload 4, 2) := by decide +kernel
theorem dX3_look_9 : decode cX3_look 9 = .ok (.ifnull 29, 3) := by decide +kernel
theorem dX3_look_12 : decode cX3_look 12 = .ok (.aload 4, 2) := by decide +kernel
theorem dX3_look_14 : decode cX3_look 14 = .ok (.getfield 40, 3) := by decide +kernel
theorem dX3_look_17 : decode cX3_look 17 = .ok (.invokestatic 43, 3) := by decide +kernel
theorem dX3_look_20 : decode cX3_look 20 = .ok (.aload_n 1, 1) := by decide +kernel
theorem dX3_look_21 : decode cX3_look 21 = .ok (.iload_n 3, 1) := by decide +kernel
theorem dX3_look_22 : decode cX3_look 22 = .ok (.aload 4, 2) := by decide +kernel
theorem dX3_look_24 : decode cX3_look 24 = .ok (.getfield 49, 3) := by decide +kernel
theorem dX3_look_27 : decode cX3_look 27 = .ok (.invokestatic 52, 3) := by decide +kernel
theorem dX3_look_30 : decode cX3_look 30 = .ok (.iadd, 1) := by decide +kernel
theorem dX3_look_31 : decode cX3_look 31 = .ok (.aload_n 0, 1) := by decide +kernel
theorem dX3_look_32 : decode cX3_look 32 = .ok (.getfield 25, 3) := by decide +kernel
theorem dX3_look_35 : decode cX3_look 35 = .ok (.if_icmp .gt 4, 3) := by decide +kernel
theorem dX3_look_38 : decode cX3_look 38 = .ok (.return_, 1) := by decide +kernel
theorem dX3_look_39 : decode cX3_look 39 = .ok (.iload_n 2, 1) := by decide +kernel
theorem dX3_look_40 : decode cX3_look 40 = .ok (.aload_n 1, 1) := by decide +kernel
theorem dX3_look_41 : decode cX3_look 41 = .ok (.getfield 56, 3) := by decide +kernel
theorem dX3_look_44 : decode cX3_look 44 = .ok (.if_icmp .ne 27, 3) := by decide +kernel
theorem dX3_look_47 : decode cX3_look 47 = .ok (.aload_n 0, 1) := by decide +kernel
theorem dX3_look_48 : decode cX3_look 48 = .ok (.aload 4, 2) := by decide +kernel
theorem dX3_look_50 : decode cX3_look 50 = .ok (.getfield 40, 3) := by decide +kernel
theorem dX3_look_53 : decode cX3_look 53 = .ok (.invokestatic 43, 3) := by decide +kernel
theorem dX3_look_56 : decode cX3_look 56 = .ok (.putfield 25, 3) := by decide +kernel
theorem dX3_look_59 : decode cX3_look 59 = .ok (.aload_n 0, 1) := by decide +kernel
theorem dX3_look_60 : decode cX3_look 60 = .ok (.getfield 17, 3) := by decide +kernel
theorem dX3_look_63 : decode cX3_look 63 = .ok (.aload_n 0, 1) := by decide +kernel
theorem dX3_look_64 : decode cX3_look 64 = .ok (.getfield 21, 3) := by decide +kernel
theorem dX3_look_67 : decode cX3_look 67 = .ok (.invokestatic 61, 3) := by decide +kernel
theorem dX3_look_70 : decode cX3_look 70 = .ok (.return_, 1) := by decide +kernel
theorem dX3_look_71 : decode cX3_look 71 = .ok (.aload_n 0, 1) := by decide +kernel
theorem dX3_look_72 : decode cX3_look 72 = .ok (.iload_n 2, 1) := by decide +kernel
theorem dX3_look_73 : decode cX3_look 73 = .ok (.iconst 1, 1) := by decide +kernel
theorem dX3_look_74 : decode cX3_look 74 = .ok (.iadd, 1) := by decide +kernel
theorem dX3_look_75 : decode cX3_look 75 = .ok (.invokevirtual 29, 3) := by decide +kernel
theorem dX3_look_78 : decode cX3_look 78 = .ok (.astore 5, 2) := by decide +kernel
theorem dX3_look_80 : decode cX3_look 80 = .ok (.iconst 0, 1) := by decide +kernel
theorem dX3_look_81 : decode cX3_look 81 = .ok (.istore 6, 2) := by decide +kernel
theorem dX3_look_83 : decode cX3_look 83 = .ok (.aload 5, 2) := by decide +kernel
theorem dX3_look_85 : decode cX3_look 85 = .ok (.ifnull 67, 3) := by decide +kernel
theorem dX3_look_88 : decode cX3_look 88 = .ok (.iload 6, 2) := by decide +kernel
theorem dX3_look_90 : decode cX3_look 90 = .ok (.aload_n 1, 1) := by decide +kernel
theorem dX3_look_91 : decode cX3_look 91 = .ok (.getfield 56, 3) := by decide +kernel
theorem dX3_look_94 : decode cX3_look 94 = .ok (.if_icmp .ge 58, 3) := by decide +kernel
theorem dX3_look_97 : decode cX3_look 97 = .ok (.iload_n 3, 1) := by decide +kernel
theorem dX3_look_98 : decode cX3_look 98 = .ok (.iload 6, 2) := by decide +kernel
theorem dX3_look_100 : decode cX3_look 100 = .ok (.invokestatic 65, 3) := by decide +kernel
theorem dX3_look_103 : decode cX3_look 103 = .ok (.ifCond .ne 43, 3) := by decide +kernel
theorem dX3_look_106 : decode cX3_look 106 = .ok (.aload_n 0, 1) := by decide +kernel
theorem dX3_look_107 : decode cX3_look 107 = .ok (.getfield 17, 3) := by decide +kernel
theorem dX3_look_110 : decode cX3_look 110 = .ok (.iload_n 2, 1) := by decide +kernel
theorem dX3_look_111 : decode cX3_look 111 = .ok (.iload 6, 2) := by decide +kernel
theorem dX3_look_113 : decode cX3_look 113 = .ok (.invokestatic 69, 3) := by decide +kernel
theorem dX3_look_116 : decode cX3_look 116 = .ok (.aload 5, 2) := by decide +kernel
theorem dX3_look_118 : decode cX3_look 118 = .ok (.aload 4, 2) := by decide +kernel
theorem dX3_look_120 : decode cX3_look 120 = .ok (.invokevirtual 73, 3) := by decide +kernel
theorem dX3_look_123 : decode cX3_look 123 = .ok (.aload 5, 2) := by decide +kernel
theorem dX3_look_125 : decode cX3_look 125 = .ok (.aload_n 1, 1) := by decide +kernel
theorem dX3_look_126 : decode cX3_look 126 = .ok (.iload 6, 2) := by decide +kernel
theorem dX3_look_128 : decode cX3_look 128 = .ok (.invokevirtual 77, 3) := by decide +kernel
theorem dX3_look_131 : decode cX3_look 131 = .ok (.pop, 1) := by decide +kernel
theorem dX3_look_132 : decode cX3_look 132 = .ok (.aload_n 0, 1) := by decide +kernel
theorem dX3_look_133 : decode cX3_look 133 = .ok (.aload_n 1, 1) := by decide +kernel
theorem dX3_look_134 : decode cX3_look 134 = .ok (.iload_n 2, 1) := by decide +kernel
theorem dX3_look_135 : decode cX3_look 135 = .ok (.iconst 1, 1) := by decide +kernel
theorem dX3_look_136 : decode cX3_look 136 = .ok (.iadd, 1) := by decide +kernel
theorem dX3_look_137 : decode cX3_look 137 = .ok (.iload_n 3, 1) := by decide +kernel
theorem dX3_look_138 : decode cX3_look 138 = .ok (.iconst 1, 1) := by decide +kernel
theorem dX3_look_139 : decode cX3_look 139 = .ok (.iload 6, 2) := by decide +kernel
theorem dX3_look_141 : decode cX3_look 141 = .ok (.ishl, 1) := by decide +kernel
theorem dX3_look_142 : decode cX3_look 142 = .ok (.ior, 1) := by decide +kernel
theorem dX3_look_143 : decode cX3_look 143 = .ok (.invokevirtual 36, 3) := by decide +kernel
theorem dX3_look_146 : decode cX3_look 146 = .ok (.iinc 6 1, 3) := by decide +kernel
theorem dX3_look_149 : decode cX3_look 149 = .ok (.goto (-66), 3) := by decide +kernel
theorem dX3_look_152 : decode cX3_look 152 = .ok (.return_, 1) := by decide +kernel
theorem dX3_tellable_0 : decode cX3_tellable 0 = .ok (.iconst 0, 1) := by decide +kernel
theorem dX3_tellable_1 : decode cX3_tellable 1 = .ok (.istore_n 3, 1) := by decide +kernel
theorem dX3_tellable_2 : decode cX3_tellable 2 = .ok (.iconst 0, 1) := by decide +kernel
theorem dX3_tellable_3 : decode cX3_tellable 3 = .ok (.istore 4, 2) := by decide +kernel
theorem dX3_tellable_5 : decode cX3_tellable 5 = .ok (.iload 4, 2) := by decide +kernel
theorem dX3_tellable_7 : decode cX3_tellable 7 = .ok (.aload_n 0, 1) := by decide +kernel
theorem dX3_tellable_8 : decode cX3_tellable 8 = .ok (.getfield 56, 3) := by decide +kernel
theorem dX3_tellable_11 : decode cX3_tellable 11 = .ok (.if_icmp .ge 37, 3) := by decide +kernel
theorem dX3_tellable_14 : decode cX3_tellable 14 = .ok (.iload_n 1, 1) := by decide +kernel
theorem dX3_tellable_15 : decode cX3_tellable 15 = .ok (.iload 4, 2) := by decide +kernel
theorem dX3_tellable_17 : decode cX3_tellable 17 = .ok (.invokestatic 65, 3) := by decide +kernel
theorem dX3_tellable_20 : decode cX3_tellable 20 = .ok (.ifCond .ne 22, 3) := by decide +kernel
theorem dX3_tellable_23 : decode cX3_tellable 23 = .ok (.iload_n 2, 1) := by decide +kernel
theorem dX3_tellable_24 : decode cX3_tellable 24 = .ok (.aload_n 0, 1) := by decide +kernel
theorem dX3_tellable_25 : decode cX3_tellable 25 = .ok (.getfield 81, 3) := by decide +kernel
theorem dX3_tellable_28 : decode cX3_tellable 28 = .ok (.iload 4, 2) := by decide +kernel
theorem dX3_tellable_30 : decode cX3_tellable 30 = .ok (.invokestatic 84, 3) := by decide +kernel
theorem dX3_tellable_33 : decode cX3_tellable 33 = .ok (.invokestatic 65, 3) := by decide +kernel
theorem dX3_tellable_36 : decode cX3_tellable 36 = .ok (.ifCond .ne 6, 3) := by decide +kernel
theorem dX3_tellable_39 : decode cX3_tellable 39 = .ok (.iinc 3 1, 3) := by decide +kernel
theorem dX3_tellable_42 : decode cX3_tellable 42 = .ok (.iinc 4 1, 3) := by decide +kernel
theorem dX3_tellable_45 : decode cX3_tellable 45 = .ok (.goto (-40), 3) := by decide +kernel
theorem dX3_tellable_48 : decode cX3_tellable 48 = .ok (.iload_n 3, 1) := by decide +kernel
theorem dX3_tellable_49 : decode cX3_tellable 49 = .ok (.ireturn, 1) := by decide +kernel
theorem dX3_stageAt_0 : decode cX3_stageAt 0 = .ok (.iload_n 1, 1) := by decide +kernel
theorem dX3_stageAt_1 : decode cX3_stageAt 1 = .ok (.ifCond .lt 21, 3) := by decide +kernel
theorem dX3_stageAt_4 : decode cX3_stageAt 4 = .ok (.iload_n 1, 1) := by decide +kernel
theorem dX3_stageAt_5 : decode cX3_stageAt 5 = .ok (.aload_n 0, 1) := by decide +kernel
theorem dX3_stageAt_6 : decode cX3_stageAt 6 = .ok (.getfield 11, 3) := by decide +kernel
theorem dX3_stageAt_9 : decode cX3_stageAt 9 = .ok (.arraylength, 1) := by decide +kernel
theorem dX3_stageAt_10 : decode cX3_stageAt 10 = .ok (.if_icmp .ge 12, 3) := by decide +kernel
theorem dX3_stageAt_13 : decode cX3_stageAt 13 = .ok (.aload_n 0, 1) := by decide +kernel
theorem dX3_stageAt_14 : decode cX3_stageAt 14 = .ok (.getfield 11, 3) := by decide +kernel
theorem dX3_stageAt_17 : decode cX3_stageAt 17 = .ok (.iload_n 1, 1) := by decide +kernel
theorem dX3_stageAt_18 : decode cX3_stageAt 18 = .ok (.aaload, 1) := by decide +kernel
theorem dX3_stageAt_19 : decode cX3_stageAt 19 = .ok (.goto 4, 3) := by decide +kernel
theorem dX3_stageAt_22 : decode cX3_stageAt 22 = .ok (.aconst_null, 1) := by decide +kernel
theorem dX3_stageAt_23 : decode cX3_stageAt 23 = .ok (.areturn, 1) := by decide +kernel
theorem dX4_clear_0 : decode cX4_clear 0 = .ok (.aload_n 0, 1) := by decide +kernel
theorem dX4_clear_1 : decode cX4_clear 1 = .ok (.iconst 0, 1) := by decide +kernel
theorem dX4_clear_2 : decode cX4_clear 2 = .ok (.putfield 22, 3) := by decide +kernel
theorem dX4_clear_5 : decode cX4_clear 5 = .ok (.return_, 1) := by decide +kernel
theorem dX4_push_0 : decode cX4_push 0 = .ok (.aload_n 0, 1) := by decide +kernel
theorem dX4_push_1 : decode cX4_push 1 = .ok (.getfield 22, 3) := by decide +kernel
theorem dX4_push_4 : decode cX4_push 4 = .ok (.aload_n 0, 1) := by decide +kernel
theorem dX4_push_5 : decode cX4_push 5 = .ok (.getfield 15, 3) := by decide +kernel
theorem dX4_push_8 : decode cX4_push 8 = .ok (.arraylength, 1) := by decide +kernel
theorem dX4_push_9 : decode cX4_push 9 = .ok (.if_icmp .lt 7, 3) := by decide +kernel
theorem dX4_push_12 : decode cX4_push 12 = .ok (.aload_n 0, 1) := by decide +kernel
theorem dX4_push_13 : decode cX4_push 13 = .ok (.invokevirtual 26, 3) := by decide +kernel
theorem dX4_push_16 : decode cX4_push 16 = .ok (.aload_n 0, 1) := by decide +kernel
theorem dX4_push_17 : decode cX4_push 17 = .ok (.aload_n 0, 1) := by decide +kernel
theorem dX4_push_18 : decode cX4_push 18 = .ok (.getfield 22, 3) := by decide +kernel
theorem dX4_push_21 : decode cX4_push 21 = .ok (.invokevirtual 29, 3) := by decide +kernel
theorem dX4_push_24 : decode cX4_push 24 = .ok (.astore_n 2, 1) := by decide +kernel
theorem dX4_push_25 : decode cX4_push 25 = .ok (.aload_n 2, 1) := by decide +kernel
theorem dX4_push_26 : decode cX4_push 26 = .ok (.ifnull 18, 3) := by decide +kernel
theorem dX4_push_29 : decode cX4_push 29 = .ok (.aload_n 2, 1) := by decide +kernel
theorem dX4_push_30 : decode cX4_push 30 = .ok (.aload_n 1, 1) := by decide +kernel
theorem dX4_push_31 : decode cX4_push 31 = .ok (.invokevirtual 33, 3) := by decide +kernel
theorem dX4_push_34 : decode cX4_push 34 = .ok (.aload_n 0, 1) := by decide +kernel
theorem dX4_push_35 : decode cX4_push 35 = .ok (.dup, 1) := by decide +kernel
theorem dX4_push_36 : decode cX4_push 36 = .ok (.getfield 22, 3) := by decide +kernel
theorem dX4_push_39 : decode cX4_push 39 = .ok (.iconst 1, 1) := by decide +kernel
theorem dX4_push_40 : decode cX4_push 40 = .ok (.iadd, 1) := by decide +kernel
theorem dX4_push_41 : decode cX4_push 41 = .ok (.putfield 22, 3) := by decide +kernel
theorem dX4_push_44 : decode cX4_push 44 = .ok (.return_, 1) := by decide +kernel
theorem dX4_popInto_0 : decode cX4_popInto 0 = .ok (.aload_n 0, 1) := by decide +kernel
theorem dX4_popInto_1 : decode cX4_popInto 1 = .ok (.aload_n 0, 1) := by decide +kernel
theorem dX4_popInto_2 : decode cX4_popInto 2 = .ok (.getfield 22, 3) := by decide +kernel
theorem dX4_popInto_5 : decode cX4_popInto 5 = .ok (.iconst 1, 1) := by decide +kernel
theorem dX4_popInto_6 : decode cX4_popInto 6 = .ok (.isub, 1) := by decide +kernel
theorem dX4_popInto_7 : decode cX4_popInto 7 = .ok (.invokevirtual 29, 3) := by decide +kernel
theorem dX4_popInto_10 : decode cX4_popInto 10 = .ok (.astore_n 2, 1) := by decide +kernel
theorem dX4_popInto_11 : decode cX4_popInto 11 = .ok (.aload_n 2, 1) := by decide +kernel
theorem dX4_popInto_12 : decode cX4_popInto 12 = .ok (.ifnonnull 5, 3) := by decide +kernel
theorem dX4_popInto_15 : decode cX4_popInto 15 = .ok (.iconst 0, 1) := by decide +kernel
theorem dX4_popInto_16 : decode cX4_popInto 16 = .ok (.ireturn, 1) := by decide +kernel
theorem dX4_popInto_17 : decode cX4_popInto 17 = .ok (.aload_n 1, 1) := by decide +kernel
theorem dX4_popInto_18 : decode cX4_popInto 18 = .ok (.aload_n 2, 1) := by decide +kernel
theorem dX4_popInto_19 : decode cX4_popInto 19 = .ok (.invokevirtual 33, 3) := by decide +kernel
theorem dX4_popInto_22 : decode cX4_popInto 22 = .ok (.aload_n 0, 1) := by decide +kernel
theorem dX4_popInto_23 : decode cX4_popInto 23 = .ok (.dup, 1) := by decide +kernel
theorem dX4_popInto_24 : decode cX4_popInto 24 = .ok (.getfield 22, 3) := by decide +kernel
theorem dX4_popInto_27 : decode cX4_popInto 27 = .ok (.iconst 1, 1) := by decide +kernel
theorem dX4_popInto_28 : decode cX4_popInto 28 = .ok (.isub, 1) := by decide +kernel
theorem dX4_popInto_29 : decode cX4_popInto 29 = .ok (.putfield 22, 3) := by decide +kernel
theorem dX4_popInto_32 : decode cX4_popInto 32 = .ok (.iconst 1, 1) := by decide +kernel
theorem dX4_popInto_33 : decode cX4_popInto 33 = .ok (.ireturn, 1) := by decide +kernel
theorem dX4_dropOldest_0 : decode cX4_dropOldest 0 = .ok (.aload_n 0, 1) := by decide +kernel
theorem dX4_dropOldest_1 : decode cX4_dropOldest 1 = .ok (.iconst 0, 1) := by decide +kernel
theorem dX4_dropOldest_2 : decode cX4_dropOldest 2 = .ok (.invokevirtual 29, 3) := by decide +kernel
theorem dX4_dropOldest_5 : decode cX4_dropOldest 5 = .ok (.astore_n 1, 1) := by decide +kernel
theorem dX4_dropOldest_6 : decode cX4_dropOldest 6 = .ok (.iconst 1, 1) := by decide +kernel
theorem dX4_dropOldest_7 : decode cX4_dropOldest 7 = .ok (.istore_n 2, 1) := by decide +kernel
theorem dX4_dropOldest_8 : decode cX4_dropOldest 8 = .ok (.iload_n 2, 1) := by decide +kernel
theorem dX4_dropOldest_9 : decode cX4_dropOldest 9 = .ok (.aload_n 0, 1) := by decide +kernel
theorem dX4_dropOldest_10 : decode cX4_dropOldest 10 = .ok (.getfield 15, 3) := by decide +kernel
theorem dX4_dropOldest_13 : decode cX4_dropOldest 13 = .ok (.arraylength, 1) := by decide +kernel
theorem dX4_dropOldest_14 : decode cX4_dropOldest 14 = .ok (.if_icmp .ge 23, 3) := by decide +kernel
theorem dX4_dropOldest_17 : decode cX4_dropOldest 17 = .ok (.aload_n 0, 1) := by decide +kernel
theorem dX4_dropOldest_18 : decode cX4_dropOldest 18 = .ok (.getfield 15, 3) := by decide +kernel
theorem dX4_dropOldest_21 : decode cX4_dropOldest 21 = .ok (.iload_n 2, 1) := by decide +kernel
theorem dX4_dropOldest_22 : decode cX4_dropOldest 22 = .ok (.iconst 1, 1) := by decide +kernel
theorem dX4_dropOldest_23 : decode cX4_dropOldest 23 = .ok (.isub, 1) := by decide +kernel
theorem dX4_dropOldest_24 : decode cX4_dropOldest 24 = .ok (.aload_n 0, 1) := by decide +kernel
theorem dX4_dropOldest_25 : decode cX4_dropOldest 25 = .ok (.getfield 15, 3) := by decide +kernel
theorem dX4_dropOldest_28 : decode cX4_dropOldest 28 = .ok (.iload_n 2, 1) := by decide +kernel
theorem dX4_dropOldest_29 : decode cX4_dropOldest 29 = .ok (.aaload, 1) := by decide +kernel
theorem dX4_dropOldest_30 : decode cX4_dropOldest 30 = .ok (.aastore, 1) := by decide +kernel
theorem dX4_dropOldest_31 : decode cX4_dropOldest 31 = .ok (.iinc 2 1, 3) := by decide +kernel
theorem dX4_dropOldest_34 : decode cX4_dropOldest 34 = .ok (.goto (-26), 3) := by decide +kernel
theorem dX4_dropOldest_37 : decode cX4_dropOldest 37 = .ok (.aload_n 0, 1) := by decide +kernel
theorem dX4_dropOldest_38 : decode cX4_dropOldest 38 = .ok (.getfield 15, 3) := by decide +kernel
theorem dX4_dropOldest_41 : decode cX4_dropOldest 41 = .ok (.arraylength, 1) := by decide +kernel
theorem dX4_dropOldest_42 : decode cX4_dropOldest 42 = .ok (.ifCond .le 16, 3) := by decide +kernel
theorem dX4_dropOldest_45 : decode cX4_dropOldest 45 = .ok (.aload_n 0, 1) := by decide +kernel
theorem dX4_dropOldest_46 : decode cX4_dropOldest 46 = .ok (.getfield 15, 3) := by decide +kernel
theorem dX4_dropOldest_49 : decode cX4_dropOldest 49 = .ok (.aload_n 0, 1) := by decide +kernel
theorem dX4_dropOldest_50 : decode cX4_dropOldest 50 = .ok (.getfield 15, 3) := by decide +kernel
theorem dX4_dropOldest_53 : decode cX4_dropOldest 53 = .ok (.arraylength, 1) := by decide +kernel
theorem dX4_dropOldest_54 : decode cX4_dropOldest 54 = .ok (.iconst 1, 1) := by decide +kernel
theorem dX4_dropOldest_55 : decode cX4_dropOldest 55 = .ok (.isub, 1) := by decide +kernel
theorem dX4_dropOldest_56 : decode cX4_dropOldest 56 = .ok (.aload_n 1, 1) := by decide +kernel
theorem dX4_dropOldest_57 : decode cX4_dropOldest 57 = .ok (.aastore, 1) := by decide +kernel
theorem dX4_dropOldest_58 : decode cX4_dropOldest 58 = .ok (.aload_n 0, 1) := by decide +kernel
theorem dX4_dropOldest_59 : decode cX4_dropOldest 59 = .ok (.dup, 1) := by decide +kernel
theorem dX4_dropOldest_60 : decode cX4_dropOldest 60 = .ok (.getfield 22, 3) := by decide +kernel
theorem dX4_dropOldest_63 : decode cX4_dropOldest 63 = .ok (.iconst 1, 1) := by decide +kernel
theorem dX4_dropOldest_64 : decode cX4_dropOldest 64 = .ok (.isub, 1) := by decide +kernel
theorem dX4_dropOldest_65 : decode cX4_dropOldest 65 = .ok (.putfield 22, 3) := by decide +kernel
theorem dX4_dropOldest_68 : decode cX4_dropOldest 68 = .ok (.return_, 1) := by decide +kernel
theorem dX4_roomAt_0 : decode cX4_roomAt 0 = .ok (.iload_n 1, 1) := by decide +kernel
theorem dX4_roomAt_1 : decode cX4_roomAt 1 = .ok (.ifCond .lt 21, 3) := by decide +kernel
theorem dX4_roomAt_4 : decode cX4_roomAt 4 = .ok (.iload_n 1, 1) := by decide +kernel
theorem dX4_roomAt_5 : decode cX4_roomAt 5 = .ok (.aload_n 0, 1) := by decide +kernel
theorem dX4_roomAt_6 : decode cX4_roomAt 6 = .ok (.getfield 15, 3) := by decide +kernel
theorem dX4_roomAt_9 : decode cX4_roomAt 9 = .ok (.arraylength, 1) := by decide +kernel
theorem dX4_roomAt_10 : decode cX4_roomAt 10 = .ok (.if_icmp .ge 12, 3) := by decide +kernel
theorem dX4_roomAt_13 : decode cX4_roomAt 13 = .ok (.aload_n 0, 1) := by decide +kernel
theorem dX4_roomAt_14 : decode cX4_roomAt 14 = .ok (.getfield 15, 3) := by decide +kernel
theorem dX4_roomAt_17 : decode cX4_roomAt 17 = .ok (.iload_n 1, 1) := by decide +kernel
theorem dX4_roomAt_18 : decode cX4_roomAt 18 = .ok (.aaload, 1) := by decide +kernel
theorem dX4_roomAt_19 : decode cX4_roomAt 19 = .ok (.goto 4, 3) := by decide +kernel
theorem dX4_roomAt_22 : decode cX4_roomAt 22 = .ok (.aconst_null, 1) := by decide +kernel
theorem dX4_roomAt_23 : decode cX4_roomAt 23 = .ok (.areturn, 1) := by decide +kernel
theorem dX5_clear_0 : decode cX5_clear 0 = .ok (.aload_n 0, 1) := by decide +kernel
theorem dX5_clear_1 : decode cX5_clear 1 = .ok (.iconst 0, 1) := by decide +kernel
theorem dX5_clear_2 : decode cX5_clear 2 = .ok (.putfield 18, 3) := by decide +kernel
theorem dX5_clear_5 : decode cX5_clear 5 = .ok (.return_, 1) := by decide +kernel
theorem dX5_note_0 : decode cX5_note 0 = .ok (.aload_n 0, 1) := by decide +kernel
theorem dX5_note_1 : decode cX5_note 1 = .ok (.getfield 18, 3) := by decide +kernel
theorem dX5_note_4 : decode cX5_note 4 = .ok (.bipush 6, 2) := by decide +kernel
theorem dX5_note_6 : decode cX5_note 6 = .ok (.if_icmp .lt 5, 3) := by decide +kernel
theorem dX5_note_9 : decode cX5_note 9 = .ok (.iconst 0, 1) := by decide +kernel
theorem dX5_note_10 : decode cX5_note 10 = .ok (.ireturn, 1) := by decide +kernel
theorem dX5_note_11 : decode cX5_note 11 = .ok (.aload_n 0, 1) := by decide +kernel
theorem dX5_note_12 : decode cX5_note 12 = .ok (.getfield 9, 3) := by decide +kernel
theorem dX5_note_15 : decode cX5_note 15 = .ok (.aload_n 0, 1) := by decide +kernel
theorem dX5_note_16 : decode cX5_note 16 = .ok (.getfield 18, 3) := by decide +kernel
theorem dX5_note_19 : decode cX5_note 19 = .ok (.iload_n 1, 1) := by decide +kernel
theorem dX5_note_20 : decode cX5_note 20 = .ok (.invokestatic 22, 3) := by decide +kernel
theorem dX5_note_23 : decode cX5_note 23 = .ok (.aload_n 0, 1) := by decide +kernel
theorem dX5_note_24 : decode cX5_note 24 = .ok (.getfield 15, 3) := by decide +kernel
theorem dX5_note_27 : decode cX5_note 27 = .ok (.aload_n 0, 1) := by decide +kernel
theorem dX5_note_28 : decode cX5_note 28 = .ok (.getfield 18, 3) := by decide +kernel
theorem dX5_note_31 : decode cX5_note 31 = .ok (.iload_n 2, 1) := by decide +kernel
theorem dX5_note_32 : decode cX5_note 32 = .ok (.invokestatic 22, 3) := by decide +kernel
theorem dX5_note_35 : decode cX5_note 35 = .ok (.aload_n 0, 1) := by decide +kernel
theorem dX5_note_36 : decode cX5_note 36 = .ok (.dup, 1) := by decide +kernel
theorem dX5_note_37 : decode cX5_note 37 = .ok (.getfield 18, 3) := by decide +kernel
theorem dX5_note_40 : decode cX5_note 40 = .ok (.iconst 1, 1) := by decide +kernel
theorem dX5_note_41 : decode cX5_note 41 = .ok (.iadd, 1) := by decide +kernel
theorem dX5_note_42 : decode cX5_note 42 = .ok (.putfield 18, 3) := by decide +kernel
theorem dX5_note_45 : decode cX5_note 45 = .ok (.iconst 1, 1) := by decide +kernel
theorem dX5_note_46 : decode cX5_note 46 = .ok (.ireturn, 1) := by decide +kernel
theorem dX5_agreeWith_0 : decode cX5_agreeWith 0 = .ok (.iconst 0, 1) := by decide +kernel
theorem dX5_agreeWith_1 : decode cX5_agreeWith 1 = .ok (.istore_n 2, 1) := by decide +kernel
theorem dX5_agreeWith_2 : decode cX5_agreeWith 2 = .ok (.iload_n 2, 1) := by decide +kernel
theorem dX5_agreeWith_3 : decode cX5_agreeWith 3 = .ok (.aload_n 0, 1) := by decide +kernel
theorem dX5_agreeWith_4 : decode cX5_agreeWith 4 = .ok (.getfield 18, 3) := by decide +kernel
theorem dX5_agreeWith_7 : decode cX5_agreeWith 7 = .ok (.if_icmp .ge 37, 3) := by decide +kernel
theorem dX5_agreeWith_10 : decode cX5_agreeWith 10 = .ok (.aload_n 1, 1) := by decide +kernel
theorem dX5_agreeWith_11 : decode cX5_agreeWith 11 = .ok (.getfield 26, 3) := by decide +kernel
theorem dX5_agreeWith_14 : decode cX5_agreeWith 14 = .ok (.aload_n 0, 1) := by decide +kernel
theorem dX5_agreeWith_15 : decode cX5_agreeWith 15 = .ok (.getfield 9, 3) := by decide +kernel
theorem dX5_agreeWith_18 : decode cX5_agreeWith 18 = .ok (.iload_n 2, 1) := by decide +kernel
theorem dX5_agreeWith_19 : decode cX5_agreeWith 19 = .ok (.invokestatic 29, 3) := by decide +kernel
theorem dX5_agreeWith_22 : decode cX5_agreeWith 22 = .ok (.invokestatic 29, 3) := by decide +kernel
theorem dX5_agreeWith_25 : decode cX5_agreeWith 25 = .ok (.aload_n 0, 1) := by decide +kernel
theorem dX5_agreeWith_26 : decode cX5_agreeWith 26 = .ok (.getfield 15, 3) := by decide +kernel
theorem dX5_agreeWith_29 : decode cX5_agreeWith 29 = .ok (.iload_n 2, 1) := by decide +kernel
theorem dX5_agreeWith_30 : decode cX5_agreeWith 30 = .ok (.invokestatic 29, 3) := by decide +kernel
theorem dX5_agreeWith_33 : decode cX5_agreeWith 33 = .ok (.if_icmp .eq 5, 3) := by decide +kernel
theorem dX5_agreeWith_36 : decode cX5_agreeWith 36 = .ok (.iconst 0, 1) := by decide +kernel
theorem dX5_agreeWith_37 : decode cX5_agreeWith 37 = .ok (.ireturn, 1) := by decide +kernel
theorem dX5_agreeWith_38 : decode cX5_agreeWith 38 = .ok (.iinc 2 1, 3) := by decide +kernel
theorem dX5_agreeWith_41 : decode cX5_agreeWith 41 = .ok (.goto (-39), 3) := by decide +kernel
theorem dX5_agreeWith_44 : decode cX5_agreeWith 44 = .ok (.iconst 1, 1) := by decide +kernel
theorem dX5_agreeWith_45 : decode cX5_agreeWith 45 = .ok (.ireturn, 1) := by decide +kernel
theorem dX6_clear_0 : decode cX6_clear 0 = .ok (.aload_n 0, 1) := by decide +kernel
theorem dX6_clear_1 : decode cX6_clear 1 = .ok (.iconst 0, 1) := by decide +kernel
theorem dX6_clear_2 : decode cX6_clear 2 = .ok (.putfield 18, 3) := by decide +kernel
theorem dX6_clear_5 : decode cX6_clear 5 = .ok (.return_, 1) := by decide +kernel
theorem dX6_append_0 : decode cX6_append 0 = .ok (.aload_n 0, 1) := by decide +kernel
theorem dX6_append_1 : decode cX6_append 1 = .ok (.getfield 18, 3) := by decide +kernel
theorem dX6_append_4 : decode cX6_append 4 = .ok (.sipush 200, 3) := by decide +kernel
theorem dX6_append_7 : decode cX6_append 7 = .ok (.if_icmp .lt 5, 3) := by decide +kernel
theorem dX6_append_10 : decode cX6_append 10 = .ok (.iconst 0, 1) := by decide +kernel
theorem dX6_append_11 : decode cX6_append 11 = .ok (.ireturn, 1) := by decide +kernel
theorem dX6_append_12 : decode cX6_append 12 = .ok (.aload_n 0, 1) := by decide +kernel
theorem dX6_append_13 : decode cX6_append 13 = .ok (.getfield 9, 3) := by decide +kernel
theorem dX6_append_16 : decode cX6_append 16 = .ok (.aload_n 0, 1) := by decide +kernel
theorem dX6_append_17 : decode cX6_append 17 = .ok (.getfield 18, 3) := by decide +kernel
theorem dX6_append_20 : decode cX6_append 20 = .ok (.iload_n 1, 1) := by decide +kernel
theorem dX6_append_21 : decode cX6_append 21 = .ok (.invokestatic 22, 3) := by decide +kernel
theorem dX6_append_24 : decode cX6_append 24 = .ok (.aload_n 0, 1) := by decide +kernel
theorem dX6_append_25 : decode cX6_append 25 = .ok (.dup, 1) := by decide +kernel
theorem dX6_append_26 : decode cX6_append 26 = .ok (.getfield 18, 3) := by decide +kernel
theorem dX6_append_29 : decode cX6_append 29 = .ok (.iconst 1, 1) := by decide +kernel
theorem dX6_append_30 : decode cX6_append 30 = .ok (.iadd, 1) := by decide +kernel
theorem dX6_append_31 : decode cX6_append 31 = .ok (.putfield 18, 3) := by decide +kernel
theorem dX6_append_34 : decode cX6_append 34 = .ok (.iconst 1, 1) := by decide +kernel
theorem dX6_append_35 : decode cX6_append 35 = .ok (.ireturn, 1) := by decide +kernel
theorem dX6_readInto_0 : decode cX6_readInto 0 = .ok (.aload_n 1, 1) := by decide +kernel
theorem dX6_readInto_1 : decode cX6_readInto 1 = .ok (.invokevirtual 26, 3) := by decide +kernel
theorem dX6_readInto_4 : decode cX6_readInto 4 = .ok (.aload_n 0, 1) := by decide +kernel
theorem dX6_readInto_5 : decode cX6_readInto 5 = .ok (.iconst 0, 1) := by decide +kernel
theorem dX6_readInto_6 : decode cX6_readInto 6 = .ok (.putfield 31, 3) := by decide +kernel
theorem dX6_readInto_9 : decode cX6_readInto 9 = .ok (.iconst 0, 1) := by decide +kernel
theorem dX6_readInto_10 : decode cX6_readInto 10 = .ok (.istore_n 2, 1) := by decide +kernel
theorem dX6_readInto_11 : decode cX6_readInto 11 = .ok (.iload_n 2, 1) := by decide +kernel
theorem dX6_readInto_12 : decode cX6_readInto 12 = .ok (.sipush 200, 3) := by decide +kernel
theorem dX6_readInto_15 : decode cX6_readInto 15 = .ok (.if_icmp .ge 35, 3) := by decide +kernel
theorem dX6_readInto_18 : decode cX6_readInto 18 = .ok (.aload_n 0, 1) := by decide +kernel
theorem dX6_readInto_19 : decode cX6_readInto 19 = .ok (.getfield 31, 3) := by decide +kernel
theorem dX6_readInto_22 : decode cX6_readInto 22 = .ok (.aload_n 0, 1) := by decide +kernel
theorem dX6_readInto_23 : decode cX6_readInto 23 = .ok (.getfield 18, 3) := by decide +kernel
theorem dX6_readInto_26 : decode cX6_readInto 26 = .ok (.if_icmp .ge 24, 3) := by decide +kernel
theorem dX6_readInto_29 : decode cX6_readInto 29 = .ok (.aload_n 0, 1) := by decide +kernel
theorem dX6_readInto_30 : decode cX6_readInto 30 = .ok (.getfield 31, 3) := by decide +kernel
theorem dX6_readInto_33 : decode cX6_readInto 33 = .ok (.istore_n 3, 1) := by decide +kernel
theorem dX6_readInto_34 : decode cX6_readInto 34 = .ok (.aload_n 0, 1) := by decide +kernel
theorem dX6_readInto_35 : decode cX6_readInto 35 = .ok (.aload_n 1, 1) := by decide +kernel
theorem dX6_readInto_36 : decode cX6_readInto 36 = .ok (.invokevirtual 34, 3) := by decide +kernel
theorem dX6_readInto_39 : decode cX6_readInto 39 = .ok (.ifCond .ne 5, 3) := by decide +kernel
theorem dX6_readInto_42 : decode cX6_readInto 42 = .ok (.iload_n 3, 1) := by decide +kernel
theorem dX6_readInto_43 : decode cX6_readInto 43 = .ok (.ireturn, 1) := by decide +kernel
theorem dX6_readInto_44 : decode cX6_readInto 44 = .ok (.iinc 2 1, 3) := by decide +kernel
theorem dX6_readInto_47 : decode cX6_readInto 47 = .ok (.goto (-36), 3) := by decide +kernel
theorem dX6_readInto_50 : decode cX6_readInto 50 = .ok (.bipush (-4), 2) := by decide +kernel
theorem dX6_readInto_52 : decode cX6_readInto 52 = .ok (.ireturn, 1) := by decide +kernel
theorem dX6_readItem_0 : decode cX6_readItem 0 = .ok (.aload_n 0, 1) := by decide +kernel
theorem dX6_readItem_1 : decode cX6_readItem 1 = .ok (.invokevirtual 38, 3) := by decide +kernel
theorem dX6_readItem_4 : decode cX6_readItem 4 = .ok (.lookupswitch 155 #[(99, 102), (102, 73), (116, 36)], 36) := by decide +kernel
theorem dX6_readItem_40 : decode cX6_readItem 40 = .ok (.aload_n 0, 1) := by decide +kernel
theorem dX6_readItem_41 : decode cX6_readItem 41 = .ok (.iconst 2, 1) := by decide +kernel
theorem dX6_readItem_42 : decode cX6_readItem 42 = .ok (.invokevirtual 42, 3) := by decide +kernel
theorem dX6_readItem_45 : decode cX6_readItem 45 = .ok (.ifCond .eq 30, 3) := by decide +kernel
theorem dX6_readItem_48 : decode cX6_readItem 48 = .ok (.aload_n 1, 1) := by decide +kernel
theorem dX6_readItem_49 : decode cX6_readItem 49 = .ok (.aload_n 0, 1) := by decide +kernel
theorem dX6_readItem_50 : decode cX6_readItem 50 = .ok (.getfield 15, 3) := by decide +kernel
theorem dX6_readItem_53 : decode cX6_readItem 53 = .ok (.iconst 0, 1) := by decide +kernel
theorem dX6_readItem_54 : decode cX6_readItem 54 = .ok (.invokestatic 46, 3) := by decide +kernel
theorem dX6_readItem_57 : decode cX6_readItem 57 = .ok (.aload_n 0, 1) := by decide +kernel
theorem dX6_readItem_58 : decode cX6_readItem 58 = .ok (.getfield 15, 3) := by decide +kernel
theorem dX6_readItem_61 : decode cX6_readItem 61 = .ok (.iconst 1, 1) := by decide +kernel
theorem dX6_readItem_62 : decode cX6_readItem 62 = .ok (.invokestatic 46, 3) := by decide +kernel
theorem dX6_readItem_65 : decode cX6_readItem 65 = .ok (.invokevirtual 50, 3) := by decide +kernel
theorem dX6_readItem_68 : decode cX6_readItem 68 = .ok (.ifCond .eq 7, 3) := by decide +kernel
theorem dX6_readItem_71 : decode cX6_readItem 71 = .ok (.iconst 1, 1) := by decide +kernel
theorem dX6_readItem_72 : decode cX6_readItem 72 = .ok (.goto 4, 3) := by decide +kernel
theorem dX6_readItem_75 : decode cX6_readItem 75 = .ok (.iconst 0, 1) := by decide +kernel
theorem dX6_readItem_76 : decode cX6_readItem 76 = .ok (.ireturn, 1) := by decide +kernel
theorem dX6_readItem_77 : decode cX6_readItem 77 = .ok (.aload_n 0, 1) := by decide +kernel
theorem dX6_readItem_78 : decode cX6_readItem 78 = .ok (.iconst 1, 1) := by decide +kernel
theorem dX6_readItem_79 : decode cX6_readItem 79 = .ok (.invokevirtual 42, 3) := by decide +kernel
theorem dX6_readItem_82 : decode cX6_readItem 82 = .ok (.ifCond .eq 22, 3) := by decide +kernel
theorem dX6_readItem_85 : decode cX6_readItem 85 = .ok (.aload_n 1, 1) := by decide +kernel
theorem dX6_readItem_86 : decode cX6_readItem 86 = .ok (.aload_n 0, 1) := by decide +kernel
theorem dX6_readItem_87 : decode cX6_readItem 87 = .ok (.getfield 15, 3) := by decide +kernel
theorem dX6_readItem_90 : decode cX6_readItem 90 = .ok (.iconst 0, 1) := by decide +kernel
theorem dX6_readItem_91 : decode cX6_readItem 91 = .ok (.invokestatic 46, 3) := by decide +kernel
theorem dX6_readItem_94 : decode cX6_readItem 94 = .ok (.invokevirtual 54, 3) := by decide +kernel
theorem dX6_readItem_97 : decode cX6_readItem 97 = .ok (.ifCond .eq 7, 3) := by decide +kernel
theorem dX6_readItem_100 : decode cX6_readItem 100 = .ok (.iconst 1, 1) := by decide +kernel
theorem dX6_readItem_101 : decode cX6_readItem 101 = .ok (.goto 4, 3) := by decide +kernel
theorem dX6_readItem_104 : decode cX6_readItem 104 = .ok (.iconst 0, 1) := by decide +kernel
theorem dX6_readItem_105 : decode cX6_readItem 105 = .ok (.ireturn, 1) := by decide +kernel
theorem dX6_readItem_106 : decode cX6_readItem 106 = .ok (.aload_n 0, 1) := by decide +kernel
theorem dX6_readItem_107 : decode cX6_readItem 107 = .ok (.iconst 4, 1) := by decide +kernel
theorem dX6_readItem_108 : decode cX6_readItem 108 = .ok (.invokevirtual 42, 3) := by decide +kernel
theorem dX6_readItem_111 : decode cX6_readItem 111 = .ok (.ifCond .eq 46, 3) := by decide +kernel
theorem dX6_readItem_114 : decode cX6_readItem 114 = .ok (.aload_n 1, 1) := by decide +kernel
theorem dX6_readItem_115 : decode cX6_readItem 115 = .ok (.aload_n 0, 1) := by decide +kernel
theorem dX6_readItem_116 : decode cX6_readItem 116 = .ok (.getfield 15, 3) := by decide +kernel
theorem dX6_readItem_119 : decode cX6_readItem 119 = .ok (.iconst 0, 1) := by decide +kernel
theorem dX6_readItem_120 : decode cX6_readItem 120 = .ok (.invokestatic 46, 3) := by decide +kernel
theorem dX6_readItem_123 : decode cX6_readItem 123 = .ok (.aload_n 0, 1) := by decide +kernel
theorem dX6_readItem_124 : decode cX6_readItem 124 = .ok (.getfield 15, 3) := by decide +kernel
theorem dX6_readItem_127 : decode cX6_readItem 127 = .ok (.iconst 1, 1) := by decide +kernel
theorem dX6_readItem_128 : decode cX6_readItem 128 = .ok (.invokestatic 46, 3) := by decide +kernel
theorem dX6_readItem_131 : decode cX6_readItem 131 = .ok (.aload_n 0, 1) := by decide +kernel
theorem dX6_readItem_132 : decode cX6_readItem 132 = .ok (.getfield 15, 3) := by decide +kernel
theorem dX6_readItem_135 : decode cX6_readItem 135 = .ok (.iconst 2, 1) := by decide +kernel
theorem dX6_readItem_136 : decode cX6_readItem 136 = .ok (.invokestatic 46, 3) := by decide +kernel
theorem dX6_readItem_139 : decode cX6_readItem 139 = .ok (.aload_n 0, 1) := by decide +kernel
theorem dX6_readItem_140 : decode cX6_readItem 140 = .ok (.getfield 15, 3) := by decide +kernel
theorem dX6_readItem_143 : decode cX6_readItem 143 = .ok (.iconst 3, 1) := by decide +kernel
theorem dX6_readItem_144 : decode cX6_readItem 144 = .ok (.invokestatic 46, 3) := by decide +kernel
theorem dX6_readItem_147 : decode cX6_readItem 147 = .ok (.invokevirtual 57, 3) := by decide +kernel
theorem dX6_readItem_150 : decode cX6_readItem 150 = .ok (.ifCond .eq 7, 3) := by decide +kernel
theorem dX6_readItem_153 : decode cX6_readItem 153 = .ok (.iconst 1, 1) := by decide +kernel
theorem dX6_readItem_154 : decode cX6_readItem 154 = .ok (.goto 4, 3) := by decide +kernel
theorem dX6_readItem_157 : decode cX6_readItem 157 = .ok (.iconst 0, 1) := by decide +kernel
theorem dX6_readItem_158 : decode cX6_readItem 158 = .ok (.ireturn, 1) := by decide +kernel
theorem dX6_readItem_159 : decode cX6_readItem 159 = .ok (.iconst 0, 1) := by decide +kernel
theorem dX6_readItem_160 : decode cX6_readItem 160 = .ok (.ireturn, 1) := by decide +kernel
theorem dX6_readNumbers_0 : decode cX6_readNumbers 0 = .ok (.iconst 0, 1) := by decide +kernel
theorem dX6_readNumbers_1 : decode cX6_readNumbers 1 = .ok (.istore_n 2, 1) := by decide +kernel
theorem dX6_readNumbers_2 : decode cX6_readNumbers 2 = .ok (.iload_n 2, 1) := by decide +kernel
theorem dX6_readNumbers_3 : decode cX6_readNumbers 3 = .ok (.iload_n 1, 1) := by decide +kernel
theorem dX6_readNumbers_4 : decode cX6_readNumbers 4 = .ok (.if_icmp .ge 84, 3) := by decide +kernel
theorem dX6_readNumbers_7 : decode cX6_readNumbers 7 = .ok (.aload_n 0, 1) := by decide +kernel
theorem dX6_readNumbers_8 : decode cX6_readNumbers 8 = .ok (.invokevirtual 61, 3) := by decide +kernel
theorem dX6_readNumbers_11 : decode cX6_readNumbers 11 = .ok (.invokestatic 64, 3) := by decide +kernel
theorem dX6_readNumbers_14 : decode cX6_readNumbers 14 = .ok (.ifCond .ne 5, 3) := by decide +kernel
theorem dX6_readNumbers_17 : decode cX6_readNumbers 17 = .ok (.iconst 0, 1) := by decide +kernel
theorem dX6_readNumbers_18 : decode cX6_readNumbers 18 = .ok (.ireturn, 1) := by decide +kernel
theorem dX6_readNumbers_19 : decode cX6_readNumbers 19 = .ok (.aload_n 0, 1) := by decide +kernel
theorem dX6_readNumbers_20 : decode cX6_readNumbers 20 = .ok (.invokevirtual 38, 3) := by decide +kernel
theorem dX6_readNumbers_23 : decode cX6_readNumbers 23 = .ok (.bipush 48, 2) := by decide +kernel
theorem dX6_readNumbers_25 : decode cX6_readNumbers 25 = .ok (.isub, 1) := by decide +kernel
theorem dX6_readNumbers_26 : decode cX6_readNumbers 26 = .ok (.istore_n 3, 1) := by decide +kernel
theorem dX6_readNumbers_27 : decode cX6_readNumbers 27 = .ok (.aload_n 0, 1) := by decide +kernel
theorem dX6_readNumbers_28 : decode cX6_readNumbers 28 = .ok (.invokevirtual 61, 3) := by decide +kernel
theorem dX6_readNumbers_31 : decode cX6_readNumbers 31 = .ok (.invokestatic 64, 3) := by decide +kernel
theorem dX6_readNumbers_34 : decode cX6_readNumbers 34 = .ok (.ifCond .eq 16, 3) := by decide +kernel
theorem dX6_readNumbers_37 : decode cX6_readNumbers 37 = .ok (.bipush 10, 2) := by decide +kernel
theorem dX6_readNumbers_39 : decode cX6_readNumbers 39 = .ok (.iload_n 3, 1) := by decide +kernel
theorem dX6_readNumbers_40 : decode cX6_readNumbers 40 = .ok (.imul, 1) := by decide +kernel
theorem dX6_readNumbers_41 : decode cX6_readNumbers 41 = .ok (.aload_n 0, 1) := by decide +kernel
theorem dX6_readNumbers_42 : decode cX6_readNumbers 42 = .ok (.invokevirtual 38, 3) := by decide +kernel
theorem dX6_readNumbers_45 : decode cX6_readNumbers 45 = .ok (.iadd, 1) := by decide +kernel
theorem dX6_readNumbers_46 : decode cX6_readNumbers 46 = .ok (.bipush 48, 2) := by decide +kernel
theorem dX6_readNumbers_48 : decode cX6_readNumbers 48 = .ok (.isub, 1) := by decide +kernel
theorem dX6_readNumbers_49 : decode cX6_readNumbers 49 = .ok (.istore_n 3, 1) := by decide +kernel
theorem dX6_readNumbers_50 : decode cX6_readNumbers 50 = .ok (.aload_n 0, 1) := by decide +kernel
theorem dX6_readNumbers_51 : decode cX6_readNumbers 51 = .ok (.getfield 15, 3) := by decide +kernel
theorem dX6_readNumbers_54 : decode cX6_readNumbers 54 = .ok (.iload_n 2, 1) := by decide +kernel
theorem dX6_readNumbers_55 : decode cX6_readNumbers 55 = .ok (.iload_n 3, 1) := by decide +kernel
theorem dX6_readNumbers_56 : decode cX6_readNumbers 56 = .ok (.invokestatic 22, 3) := by decide +kernel
theorem dX6_readNumbers_59 : decode cX6_readNumbers 59 = .ok (.aload_n 0, 1) := by decide +kernel
theorem dX6_readNumbers_60 : decode cX6_readNumbers 60 = .ok (.invokevirtual 38, 3) := by decide +kernel
theorem dX6_readNumbers_63 : decode cX6_readNumbers 63 = .ok (.iload_n 2, 1) := by decide +kernel
theorem dX6_readNumbers_64 : decode cX6_readNumbers 64 = .ok (.iconst 1, 1) := by decide +kernel
theorem dX6_readNumbers_65 : decode cX6_readNumbers 65 = .ok (.iadd, 1) := by decide +kernel
theorem dX6_readNumbers_66 : decode cX6_readNumbers 66 = .ok (.iload_n 1, 1) := by decide +kernel
theorem dX6_readNumbers_67 : decode cX6_readNumbers 67 = .ok (.if_icmp .ge 8, 3) := by decide +kernel
theorem dX6_readNumbers_70 : decode cX6_readNumbers 70 = .ok (.bipush 44, 2) := by decide +kernel
theorem dX6_readNumbers_72 : decode cX6_readNumbers 72 = .ok (.goto 5, 3) := by decide +kernel
theorem dX6_readNumbers_75 : decode cX6_readNumbers 75 = .ok (.bipush 59, 2) := by decide +kernel
theorem dX6_readNumbers_77 : decode cX6_readNumbers 77 = .ok (.if_icmp .eq 5, 3) := by decide +kernel
theorem dX6_readNumbers_80 : decode cX6_readNumbers 80 = .ok (.iconst 0, 1) := by decide +kernel
theorem dX6_readNumbers_81 : decode cX6_readNumbers 81 = .ok (.ireturn, 1) := by decide +kernel
theorem dX6_readNumbers_82 : decode cX6_readNumbers 82 = .ok (.iinc 2 1, 3) := by decide +kernel
theorem dX6_readNumbers_85 : decode cX6_readNumbers 85 = .ok (.goto (-83), 3) := by decide +kernel
theorem dX6_readNumbers_88 : decode cX6_readNumbers 88 = .ok (.iconst 1, 1) := by decide +kernel
theorem dX6_readNumbers_89 : decode cX6_readNumbers 89 = .ok (.ireturn, 1) := by decide +kernel
theorem dX6_isFigure_0 : decode cX6_isFigure 0 = .ok (.iload_n 0, 1) := by decide +kernel
theorem dX6_isFigure_1 : decode cX6_isFigure 1 = .ok (.bipush 48, 2) := by decide +kernel
theorem dX6_isFigure_3 : decode cX6_isFigure 3 = .ok (.if_icmp .lt 13, 3) := by decide +kernel
theorem dX6_isFigure_6 : decode cX6_isFigure 6 = .ok (.iload_n 0, 1) := by decide +kernel
theorem dX6_isFigure_7 : decode cX6_isFigure 7 = .ok (.bipush 57, 2) := by decide +kernel
theorem dX6_isFigure_9 : decode cX6_isFigure 9 = .ok (.if_icmp .gt 7, 3) := by decide +kernel
theorem dX6_isFigure_12 : decode cX6_isFigure 12 = .ok (.iconst 1, 1) := by decide +kernel
theorem dX6_isFigure_13 : decode cX6_isFigure 13 = .ok (.goto 4, 3) := by decide +kernel
theorem dX6_isFigure_16 : decode cX6_isFigure 16 = .ok (.iconst 0, 1) := by decide +kernel
theorem dX6_isFigure_17 : decode cX6_isFigure 17 = .ok (.ireturn, 1) := by decide +kernel
theorem dX6_peek_0 : decode cX6_peek 0 = .ok (.aload_n 0, 1) := by decide +kernel
theorem dX6_peek_1 : decode cX6_peek 1 = .ok (.getfield 31, 3) := by decide +kernel
theorem dX6_peek_4 : decode cX6_peek 4 = .ok (.aload_n 0, 1) := by decide +kernel
theorem dX6_peek_5 : decode cX6_peek 5 = .ok (.getfield 18, 3) := by decide +kernel
theorem dX6_peek_8 : decode cX6_peek 8 = .ok (.if_icmp .ge 17, 3) := by decide +kernel
theorem dX6_peek_11 : decode cX6_peek 11 = .ok (.aload_n 0, 1) := by decide +kernel
theorem dX6_peek_12 : decode cX6_peek 12 = .ok (.getfield 9, 3) := by decide +kernel
theorem dX6_peek_15 : decode cX6_peek 15 = .ok (.aload_n 0, 1) := by decide +kernel
theorem dX6_peek_16 : decode cX6_peek 16 = .ok (.getfield 31, 3) := by decide +kernel
theorem dX6_peek_19 : decode cX6_peek 19 = .ok (.invokestatic 46, 3) := by decide +kernel
theorem dX6_peek_22 : decode cX6_peek 22 = .ok (.goto 4, 3) := by decide +kernel
theorem dX6_peek_25 : decode cX6_peek 25 = .ok (.iconst 0, 1) := by decide +kernel
theorem dX6_peek_26 : decode cX6_peek 26 = .ok (.ireturn, 1) := by decide +kernel
theorem dX6_take_0 : decode cX6_take 0 = .ok (.aload_n 0, 1) := by decide +kernel
theorem dX6_take_1 : decode cX6_take 1 = .ok (.invokevirtual 61, 3) := by decide +kernel
theorem dX6_take_4 : decode cX6_take 4 = .ok (.istore_n 1, 1) := by decide +kernel
theorem dX6_take_5 : decode cX6_take 5 = .ok (.aload_n 0, 1) := by decide +kernel
theorem dX6_take_6 : decode cX6_take 6 = .ok (.dup, 1) := by decide +kernel
theorem dX6_take_7 : decode cX6_take 7 = .ok (.getfield 31, 3) := by decide +kernel
theorem dX6_take_10 : decode cX6_take 10 = .ok (.iconst 1, 1) := by decide +kernel
theorem dX6_take_11 : decode cX6_take 11 = .ok (.iadd, 1) := by decide +kernel
theorem dX6_take_12 : decode cX6_take 12 = .ok (.putfield 31, 3) := by decide +kernel
theorem dX6_take_15 : decode cX6_take 15 = .ok (.iload_n 1, 1) := by decide +kernel
theorem dX6_take_16 : decode cX6_take 16 = .ok (.ireturn, 1) := by decide +kernel
theorem dX7_write_0 : decode cX7_write 0 = .ok (.iload_n 1, 1) := by decide +kernel
theorem dX7_write_1 : decode cX7_write 1 = .ok (.bipush 32, 2) := by decide +kernel
theorem dX7_write_3 : decode cX7_write 3 = .ok (.bipush 126, 2) := by decide +kernel
theorem dX7_write_5 : decode cX7_write 5 = .ok (.invokestatic 82, 3) := by decide +kernel
theorem dX7_write_8 : decode cX7_write 8 = .ok (.ifCond .ne 5, 3) := by decide +kernel
theorem dX7_write_11 : decode cX7_write 11 = .ok (.iconst (-1), 1) := by decide +kernel
theorem dX7_write_12 : decode cX7_write 12 = .ok (.ireturn, 1) := by decide +kernel
theorem dX7_write_13 : decode cX7_write 13 = .ok (.aload_n 0, 1) := by decide +kernel
theorem dX7_write_14 : decode cX7_write 14 = .ok (.getfield 10, 3) := by decide +kernel
theorem dX7_write_17 : decode cX7_write 17 = .ok (.iload_n 1, 1) := by decide +kernel
theorem dX7_write_18 : decode cX7_write 18 = .ok (.invokevirtual 71, 3) := by decide +kernel
theorem dX7_write_21 : decode cX7_write 21 = .ok (.ifCond .eq 13, 3) := by decide +kernel
theorem dX7_write_24 : decode cX7_write 24 = .ok (.aload_n 0, 1) := by decide +kernel
theorem dX7_write_25 : decode cX7_write 25 = .ok (.getfield 10, 3) := by decide +kernel
theorem dX7_write_28 : decode cX7_write 28 = .ok (.getfield 86, 3) := by decide +kernel
theorem dX7_write_31 : decode cX7_write 31 = .ok (.goto 5, 3) := by decide +kernel
theorem dX7_write_34 : decode cX7_write 34 = .ok (.bipush (-3), 2) := by decide +kernel
theorem dX7_write_36 : decode cX7_write 36 = .ok (.ireturn, 1) := by decide +kernel
theorem dX7_wipe_0 : decode cX7_wipe 0 = .ok (.aload_n 0, 1) := by decide +kernel
theorem dX7_wipe_1 : decode cX7_wipe 1 = .ok (.getfield 10, 3) := by decide +kernel
theorem dX7_wipe_4 : decode cX7_wipe 4 = .ok (.getfield 86, 3) := by decide +kernel
theorem dX7_wipe_7 : decode cX7_wipe 7 = .ok (.istore_n 1, 1) := by decide +kernel
theorem dX7_wipe_8 : decode cX7_wipe 8 = .ok (.aload_n 0, 1) := by decide +kernel
theorem dX7_wipe_9 : decode cX7_wipe 9 = .ok (.getfield 10, 3) := by decide +kernel
theorem dX7_wipe_12 : decode cX7_wipe 12 = .ok (.invokevirtual 79, 3) := by decide +kernel
theorem dX7_wipe_15 : decode cX7_wipe 15 = .ok (.iload_n 1, 1) := by decide +kernel
theorem dX7_wipe_16 : decode cX7_wipe 16 = .ok (.ireturn, 1) := by decide +kernel
theorem dX7_fault_0 : decode cX7_fault 0 = .ok (.aload_n 0, 1) := by decide +kernel
theorem dX7_fault_1 : decode cX7_fault 1 = .ok (.getfield 10, 3) := by decide +kernel
theorem dX7_fault_4 : decode cX7_fault 4 = .ok (.aload_n 0, 1) := by decide +kernel
theorem dX7_fault_5 : decode cX7_fault 5 = .ok (.getfield 23, 3) := by decide +kernel
theorem dX7_fault_8 : decode cX7_fault 8 = .ok (.invokevirtual 75, 3) := by decide +kernel
theorem dX7_fault_11 : decode cX7_fault 11 = .ok (.ireturn, 1) := by decide +kernel
theorem dX7_lay_0 : decode cX7_lay 0 = .ok (.aload_n 0, 1) := by decide +kernel
theorem dX7_lay_1 : decode cX7_lay 1 = .ok (.getfield 10, 3) := by decide +kernel
theorem dX7_lay_4 : decode cX7_lay 4 = .ok (.aload_n 0, 1) := by decide +kernel
theorem dX7_lay_5 : decode cX7_lay 5 = .ok (.getfield 23, 3) := by decide +kernel
theorem dX7_lay_8 : decode cX7_lay 8 = .ok (.invokevirtual 75, 3) := by decide +kernel
theorem dX7_lay_11 : decode cX7_lay 11 = .ok (.bipush (-4), 2) := by decide +kernel
theorem dX7_lay_13 : decode cX7_lay 13 = .ok (.if_icmp .ne 23, 3) := by decide +kernel
theorem dX7_lay_16 : decode cX7_lay 16 = .ok (.aload_n 0, 1) := by decide +kernel
theorem dX7_lay_17 : decode cX7_lay 17 = .ok (.getfield 23, 3) := by decide +kernel
theorem dX7_lay_20 : decode cX7_lay 20 = .ok (.getfield 89, 3) := by decide +kernel
theorem dX7_lay_23 : decode cX7_lay 23 = .ok (.ifCond .eq 13, 3) := by decide +kernel
theorem dX7_lay_26 : decode cX7_lay 26 = .ok (.aload_n 0, 1) := by decide +kernel
theorem dX7_lay_27 : decode cX7_lay 27 = .ok (.getfield 23, 3) := by decide +kernel
theorem dX7_lay_30 : decode cX7_lay 30 = .ok (.getfield 92, 3) := by decide +kernel
theorem dX7_lay_33 : decode cX7_lay 33 = .ok (.ifCond .ne 6, 3) := by decide +kernel
theorem dX7_lay_36 : decode cX7_lay 36 = .ok (.bipush (-2), 2) := by decide +kernel
theorem dX7_lay_38 : decode cX7_lay 38 = .ok (.ireturn, 1) := by decide +kernel
theorem dX7_lay_39 : decode cX7_lay 39 = .ok (.aload_n 0, 1) := by decide +kernel
theorem dX7_lay_40 : decode cX7_lay 40 = .ok (.getfield 19, 3) := by decide +kernel
theorem dX7_lay_43 : decode cX7_lay 43 = .ok (.aload_n 0, 1) := by decide +kernel
theorem dX7_lay_44 : decode cX7_lay 44 = .ok (.getfield 23, 3) := by decide +kernel
theorem dX7_lay_47 : decode cX7_lay 47 = .ok (.invokevirtual 95, 3) := by decide +kernel
theorem dX7_lay_50 : decode cX7_lay 50 = .ok (.aload_n 0, 1) := by decide +kernel
theorem dX7_lay_51 : decode cX7_lay 51 = .ok (.getfield 43, 3) := by decide +kernel
theorem dX7_lay_54 : decode cX7_lay 54 = .ok (.invokevirtual 99, 3) := by decide +kernel
theorem dX7_lay_57 : decode cX7_lay 57 = .ok (.aload_n 0, 1) := by decide +kernel
theorem dX7_lay_58 : decode cX7_lay 58 = .ok (.getfield 52, 3) := by decide +kernel
theorem dX7_lay_61 : decode cX7_lay 61 = .ok (.invokevirtual 100, 3) := by decide +kernel
theorem dX7_lay_64 : decode cX7_lay 64 = .ok (.aload_n 0, 1) := by decide +kernel
theorem dX7_lay_65 : decode cX7_lay 65 = .ok (.getfield 56, 3) := by decide +kernel
theorem dX7_lay_68 : decode cX7_lay 68 = .ok (.invokevirtual 100, 3) := by decide +kernel
theorem dX7_lay_71 : decode cX7_lay 71 = .ok (.aload_n 0, 1) := by decide +kernel
theorem dX7_lay_72 : decode cX7_lay 72 = .ok (.getfield 19, 3) := by decide +kernel
theorem dX7_lay_75 : decode cX7_lay 75 = .ok (.getfield 89, 3) := by decide +kernel
theorem dX7_lay_78 : decode cX7_lay 78 = .ok (.ireturn, 1) := by decide +kernel
theorem dX7_teller_0 : decode cX7_teller 0 = .ok (.aload_n 0, 1) := by decide +kernel
theorem dX7_teller_1 : decode cX7_teller 1 = .ok (.getfield 19, 3) := by decide +kernel
theorem dX7_teller_4 : decode cX7_teller 4 = .ok (.iload_n 1, 1) := by decide +kernel
theorem dX7_teller_5 : decode cX7_teller 5 = .ok (.invokevirtual 101, 3) := by decide +kernel
theorem dX7_teller_8 : decode cX7_teller 8 = .ok (.ifCond .ne 5, 3) := by decide +kernel
theorem dX7_teller_11 : decode cX7_teller 11 = .ok (.iconst (-1), 1) := by decide +kernel
theorem dX7_teller_12 : decode cX7_teller 12 = .ok (.ireturn, 1) := by decide +kernel
theorem dX7_teller_13 : decode cX7_teller 13 = .ok (.iload_n 2, 1) := by decide +kernel
theorem dX7_teller_14 : decode cX7_teller 14 = .ok (.lookupswitch 50 #[(0, 26), (1, 38)], 26) := by decide +kernel
theorem dX7_teller_40 : decode cX7_teller 40 = .ok (.aload_n 0, 1) := by decide +kernel
theorem dX7_teller_41 : decode cX7_teller 41 = .ok (.getfield 19, 3) := by decide +kernel
theorem dX7_teller_44 : decode cX7_teller 44 = .ok (.getfield 104, 3) := by decide +kernel
theorem dX7_teller_47 : decode cX7_teller 47 = .ok (.iload_n 1, 1) := by decide +kernel
theorem dX7_teller_48 : decode cX7_teller 48 = .ok (.invokestatic 108, 3) := by decide +kernel
theorem dX7_teller_51 : decode cX7_teller 51 = .ok (.ireturn, 1) := by decide +kernel
theorem dX7_teller_52 : decode cX7_teller 52 = .ok (.aload_n 0, 1) := by decide +kernel
theorem dX7_teller_53 : decode cX7_teller 53 = .ok (.getfield 19, 3) := by decide +kernel
theorem dX7_teller_56 : decode cX7_teller 56 = .ok (.getfield 112, 3) := by decide +kernel
theorem dX7_teller_59 : decode cX7_teller 59 = .ok (.iload_n 1, 1) := by decide +kernel
theorem dX7_teller_60 : decode cX7_teller 60 = .ok (.invokestatic 108, 3) := by decide +kernel
theorem dX7_teller_63 : decode cX7_teller 63 = .ok (.ireturn, 1) := by decide +kernel
theorem dX7_teller_64 : decode cX7_teller 64 = .ok (.iconst (-1), 1) := by decide +kernel
theorem dX7_teller_65 : decode cX7_teller 65 = .ok (.ireturn, 1) := by decide +kernel
theorem dX7_fact_0 : decode cX7_fact 0 = .ok (.aload_n 0, 1) := by decide +kernel
theorem dX7_fact_1 : decode cX7_fact 1 = .ok (.getfield 19, 3) := by decide +kernel
theorem dX7_fact_4 : decode cX7_fact 4 = .ok (.iload_n 1, 1) := by decide +kernel
theorem dX7_fact_5 : decode cX7_fact 5 = .ok (.invokevirtual 115, 3) := by decide +kernel
theorem dX7_fact_8 : decode cX7_fact 8 = .ok (.ifCond .eq 17, 3) := by decide +kernel
theorem dX7_fact_11 : decode cX7_fact 11 = .ok (.aload_n 0, 1) := by decide +kernel
theorem dX7_fact_12 : decode cX7_fact 12 = .ok (.getfield 19, 3) := by decide +kernel
theorem dX7_fact_15 : decode cX7_fact 15 = .ok (.getfield 118, 3) := by decide +kernel
theorem dX7_fact_18 : decode cX7_fact 18 = .ok (.iload_n 1, 1) := by decide +kernel
theorem dX7_fact_19 : decode cX7_fact 19 = .ok (.invokestatic 121, 3) := by decide +kernel
theorem dX7_fact_22 : decode cX7_fact 22 = .ok (.goto 4, 3) := by decide +kernel
theorem dX7_fact_25 : decode cX7_fact 25 = .ok (.iconst (-1), 1) := by decide +kernel
theorem dX7_fact_26 : decode cX7_fact 26 = .ok (.ireturn, 1) := by decide +kernel
theorem dX7_claim_0 : decode cX7_claim 0 = .ok (.aload_n 0, 1) := by decide +kernel
end
section
theorem dX7_claim_1 : decode cX7_claim 1 = .ok (.getfield 19, 3) := by decide +kernel
theorem dX7_claim_4 : decode cX7_claim 4 = .ok (.iload_n 1, 1) := by decide +kernel
theorem dX7_claim_5 : decode cX7_claim 5 = .ok (.invokevirtual 125, 3) := by decide +kernel
theorem dX7_claim_8 : decode cX7_claim 8 = .ok (.ifCond .ne 5, 3) := by decide +kernel
theorem dX7_claim_11 : decode cX7_claim 11 = .ok (.iconst (-1), 1) := by decide +kernel
theorem dX7_claim_12 : decode cX7_claim 12 = .ok (.ireturn, 1) := by decide +kernel
theorem dX7_claim_13 : decode cX7_claim 13 = .ok (.iload_n 2, 1) := by decide +kernel
theorem dX7_claim_14 : decode cX7_claim 14 = .ok (.tableswitch 99 0 4 #[34, 46, 58, 70, 82], 34) := by decide +kernel
theorem dX7_claim_48 : decode cX7_claim 48 = .ok (.aload_n 0, 1) := by decide +kernel
theorem dX7_claim_49 : decode cX7_claim 49 = .ok (.getfield 19, 3) := by decide +kernel
theorem dX7_claim_52 : decode cX7_claim 52 = .ok (.getfield 128, 3) := by decide +kernel
theorem dX7_claim_55 : decode cX7_claim 55 = .ok (.iload_n 1, 1) := by decide +kernel
theorem dX7_claim_56 : decode cX7_claim 56 = .ok (.invokestatic 108, 3) := by decide +kernel
theorem dX7_claim_59 : decode cX7_claim 59 = .ok (.ireturn, 1) := by decide +kernel
theorem dX7_claim_60 : decode cX7_claim 60 = .ok (.aload_n 0, 1) := by decide +kernel
theorem dX7_claim_61 : decode cX7_claim 61 = .ok (.getfield 19, 3) := by decide +kernel
theorem dX7_claim_64 : decode cX7_claim 64 = .ok (.getfield 131, 3) := by decide +kernel
theorem dX7_claim_67 : decode cX7_claim 67 = .ok (.iload_n 1, 1) := by decide +kernel
theorem dX7_claim_68 : decode cX7_claim 68 = .ok (.invokestatic 108, 3) := by decide +kernel
theorem dX7_claim_71 : decode cX7_claim 71 = .ok (.ireturn, 1) := by decide +kernel
theorem dX7_claim_72 : decode cX7_claim 72 = .ok (.aload_n 0, 1) := by decide +kernel
theorem dX7_claim_73 : decode cX7_claim 73 = .ok (.getfield 19, 3) := by decide +kernel
theorem dX7_claim_76 : decode cX7_claim 76 = .ok (.getfield 134, 3) := by decide +kernel
theorem dX7_claim_79 : decode cX7_claim 79 = .ok (.iload_n 1, 1) := by decide +kernel
theorem dX7_claim_80 : decode cX7_claim 80 = .ok (.invokestatic 108, 3) := by decide +kernel
theorem dX7_claim_83 : decode cX7_claim 83 = .ok (.ireturn, 1) := by decide +kernel
theorem dX7_claim_84 : decode cX7_claim 84 = .ok (.aload_n 0, 1) := by decide +kernel
theorem dX7_claim_85 : decode cX7_claim 85 = .ok (.getfield 19, 3) := by decide +kernel
theorem dX7_claim_88 : decode cX7_claim 88 = .ok (.getfield 137, 3) := by decide +kernel
theorem dX7_claim_91 : decode cX7_claim 91 = .ok (.iload_n 1, 1) := by decide +kernel
theorem dX7_claim_92 : decode cX7_claim 92 = .ok (.invokestatic 108, 3) := by decide +kernel
theorem dX7_claim_95 : decode cX7_claim 95 = .ok (.ireturn, 1) := by decide +kernel
theorem dX7_claim_96 : decode cX7_claim 96 = .ok (.aload_n 0, 1) := by decide +kernel
theorem dX7_claim_97 : decode cX7_claim 97 = .ok (.getfield 19, 3) := by decide +kernel
theorem dX7_claim_100 : decode cX7_claim 100 = .ok (.iload_n 1, 1) := by decide +kernel
theorem dX7_claim_101 : decode cX7_claim 101 = .ok (.invokevirtual 140, 3) := by decide +kernel
theorem dX7_claim_104 : decode cX7_claim 104 = .ok (.ifCond .eq 7, 3) := by decide +kernel
theorem dX7_claim_107 : decode cX7_claim 107 = .ok (.iconst 1, 1) := by decide +kernel
theorem dX7_claim_108 : decode cX7_claim 108 = .ok (.goto 4, 3) := by decide +kernel
theorem dX7_claim_111 : decode cX7_claim 111 = .ok (.iconst 0, 1) := by decide +kernel
theorem dX7_claim_112 : decode cX7_claim 112 = .ok (.ireturn, 1) := by decide +kernel
theorem dX7_claim_113 : decode cX7_claim 113 = .ok (.iconst (-1), 1) := by decide +kernel
theorem dX7_claim_114 : decode cX7_claim 114 = .ok (.ireturn, 1) := by decide +kernel
theorem dX7_turn_0 : decode cX7_turn 0 = .ok (.aload_n 0, 1) := by decide +kernel
theorem dX7_turn_1 : decode cX7_turn 1 = .ok (.getfield 19, 3) := by decide +kernel
theorem dX7_turn_4 : decode cX7_turn 4 = .ok (.iload_n 1, 1) := by decide +kernel
theorem dX7_turn_5 : decode cX7_turn 5 = .ok (.invokevirtual 115, 3) := by decide +kernel
theorem dX7_turn_8 : decode cX7_turn 8 = .ok (.ifCond .ne 5, 3) := by decide +kernel
theorem dX7_turn_11 : decode cX7_turn 11 = .ok (.iconst (-1), 1) := by decide +kernel
theorem dX7_turn_12 : decode cX7_turn 12 = .ok (.ireturn, 1) := by decide +kernel
theorem dX7_turn_13 : decode cX7_turn 13 = .ok (.aload_n 0, 1) := by decide +kernel
theorem dX7_turn_14 : decode cX7_turn 14 = .ok (.getfield 52, 3) := by decide +kernel
theorem dX7_turn_17 : decode cX7_turn 17 = .ok (.aload_n 0, 1) := by decide +kernel
theorem dX7_turn_18 : decode cX7_turn 18 = .ok (.getfield 19, 3) := by decide +kernel
theorem dX7_turn_21 : decode cX7_turn 21 = .ok (.invokevirtual 143, 3) := by decide +kernel
theorem dX7_turn_24 : decode cX7_turn 24 = .ok (.aload_n 0, 1) := by decide +kernel
theorem dX7_turn_25 : decode cX7_turn 25 = .ok (.getfield 19, 3) := by decide +kernel
theorem dX7_turn_28 : decode cX7_turn 28 = .ok (.iload_n 1, 1) := by decide +kernel
theorem dX7_turn_29 : decode cX7_turn 29 = .ok (.invokevirtual 146, 3) := by decide +kernel
theorem dX7_turn_32 : decode cX7_turn 32 = .ok (.aload_n 0, 1) := by decide +kernel
theorem dX7_turn_33 : decode cX7_turn 33 = .ok (.getfield 19, 3) := by decide +kernel
theorem dX7_turn_36 : decode cX7_turn 36 = .ok (.getfield 118, 3) := by decide +kernel
theorem dX7_turn_39 : decode cX7_turn 39 = .ok (.iload_n 1, 1) := by decide +kernel
theorem dX7_turn_40 : decode cX7_turn 40 = .ok (.invokestatic 121, 3) := by decide +kernel
theorem dX7_turn_43 : decode cX7_turn 43 = .ok (.ireturn, 1) := by decide +kernel
theorem dX7_add_0 : decode cX7_add 0 = .ok (.aload_n 0, 1) := by decide +kernel
theorem dX7_add_1 : decode cX7_add 1 = .ok (.getfield 19, 3) := by decide +kernel
theorem dX7_add_4 : decode cX7_add 4 = .ok (.iload_n 1, 1) := by decide +kernel
theorem dX7_add_5 : decode cX7_add 5 = .ok (.iload_n 2, 1) := by decide +kernel
theorem dX7_add_6 : decode cX7_add 6 = .ok (.iload_n 3, 1) := by decide +kernel
theorem dX7_add_7 : decode cX7_add 7 = .ok (.iload 4, 2) := by decide +kernel
theorem dX7_add_9 : decode cX7_add 9 = .ok (.invokevirtual 149, 3) := by decide +kernel
theorem dX7_add_12 : decode cX7_add 12 = .ok (.ifCond .ne 5, 3) := by decide +kernel
theorem dX7_add_15 : decode cX7_add 15 = .ok (.iconst (-1), 1) := by decide +kernel
theorem dX7_add_16 : decode cX7_add 16 = .ok (.ireturn, 1) := by decide +kernel
theorem dX7_add_17 : decode cX7_add 17 = .ok (.aload_n 0, 1) := by decide +kernel
theorem dX7_add_18 : decode cX7_add 18 = .ok (.getfield 19, 3) := by decide +kernel
theorem dX7_add_21 : decode cX7_add 21 = .ok (.getfield 153, 3) := by decide +kernel
theorem dX7_add_24 : decode cX7_add 24 = .ok (.bipush 7, 2) := by decide +kernel
theorem dX7_add_26 : decode cX7_add 26 = .ok (.if_icmp .lt 6, 3) := by decide +kernel
theorem dX7_add_29 : decode cX7_add 29 = .ok (.bipush (-3), 2) := by decide +kernel
theorem dX7_add_31 : decode cX7_add 31 = .ok (.ireturn, 1) := by decide +kernel
theorem dX7_add_32 : decode cX7_add 32 = .ok (.aload_n 0, 1) := by decide +kernel
theorem dX7_add_33 : decode cX7_add 33 = .ok (.getfield 52, 3) := by decide +kernel
theorem dX7_add_36 : decode cX7_add 36 = .ok (.aload_n 0, 1) := by decide +kernel
theorem dX7_add_37 : decode cX7_add 37 = .ok (.getfield 19, 3) := by decide +kernel
theorem dX7_add_40 : decode cX7_add 40 = .ok (.invokevirtual 143, 3) := by decide +kernel
theorem dX7_add_43 : decode cX7_add 43 = .ok (.aload_n 0, 1) := by decide +kernel
theorem dX7_add_44 : decode cX7_add 44 = .ok (.getfield 19, 3) := by decide +kernel
theorem dX7_add_47 : decode cX7_add 47 = .ok (.iload_n 1, 1) := by decide +kernel
theorem dX7_add_48 : decode cX7_add 48 = .ok (.iload_n 2, 1) := by decide +kernel
theorem dX7_add_49 : decode cX7_add 49 = .ok (.iload_n 3, 1) := by decide +kernel
theorem dX7_add_50 : decode cX7_add 50 = .ok (.iload 4, 2) := by decide +kernel
theorem dX7_add_52 : decode cX7_add 52 = .ok (.invokevirtual 156, 3) := by decide +kernel
theorem dX7_add_55 : decode cX7_add 55 = .ok (.pop, 1) := by decide +kernel
theorem dX7_add_56 : decode cX7_add 56 = .ok (.aload_n 0, 1) := by decide +kernel
theorem dX7_add_57 : decode cX7_add 57 = .ok (.getfield 19, 3) := by decide +kernel
theorem dX7_add_60 : decode cX7_add 60 = .ok (.getfield 153, 3) := by decide +kernel
theorem dX7_add_63 : decode cX7_add 63 = .ok (.iconst 1, 1) := by decide +kernel
theorem dX7_add_64 : decode cX7_add 64 = .ok (.isub, 1) := by decide +kernel
theorem dX7_add_65 : decode cX7_add 65 = .ok (.ireturn, 1) := by decide +kernel
theorem dX7_strike_0 : decode cX7_strike 0 = .ok (.aload_n 0, 1) := by decide +kernel
theorem dX7_strike_1 : decode cX7_strike 1 = .ok (.getfield 19, 3) := by decide +kernel
theorem dX7_strike_4 : decode cX7_strike 4 = .ok (.iload_n 1, 1) := by decide +kernel
theorem dX7_strike_5 : decode cX7_strike 5 = .ok (.invokevirtual 125, 3) := by decide +kernel
theorem dX7_strike_8 : decode cX7_strike 8 = .ok (.ifCond .ne 5, 3) := by decide +kernel
theorem dX7_strike_11 : decode cX7_strike 11 = .ok (.iconst (-1), 1) := by decide +kernel
theorem dX7_strike_12 : decode cX7_strike 12 = .ok (.ireturn, 1) := by decide +kernel
theorem dX7_strike_13 : decode cX7_strike 13 = .ok (.aload_n 0, 1) := by decide +kernel
theorem dX7_strike_14 : decode cX7_strike 14 = .ok (.getfield 52, 3) := by decide +kernel
theorem dX7_strike_17 : decode cX7_strike 17 = .ok (.aload_n 0, 1) := by decide +kernel
theorem dX7_strike_18 : decode cX7_strike 18 = .ok (.getfield 19, 3) := by decide +kernel
theorem dX7_strike_21 : decode cX7_strike 21 = .ok (.invokevirtual 143, 3) := by decide +kernel
theorem dX7_strike_24 : decode cX7_strike 24 = .ok (.aload_n 0, 1) := by decide +kernel
theorem dX7_strike_25 : decode cX7_strike 25 = .ok (.getfield 19, 3) := by decide +kernel
theorem dX7_strike_28 : decode cX7_strike 28 = .ok (.iload_n 1, 1) := by decide +kernel
theorem dX7_strike_29 : decode cX7_strike 29 = .ok (.invokevirtual 159, 3) := by decide +kernel
theorem dX7_strike_32 : decode cX7_strike 32 = .ok (.aload_n 0, 1) := by decide +kernel
theorem dX7_strike_33 : decode cX7_strike 33 = .ok (.getfield 19, 3) := by decide +kernel
theorem dX7_strike_36 : decode cX7_strike 36 = .ok (.getfield 153, 3) := by decide +kernel
theorem dX7_strike_39 : decode cX7_strike 39 = .ok (.ireturn, 1) := by decide +kernel
theorem dX7_shift_0 : decode cX7_shift 0 = .ok (.aload_n 0, 1) := by decide +kernel
theorem dX7_shift_1 : decode cX7_shift 1 = .ok (.getfield 19, 3) := by decide +kernel
theorem dX7_shift_4 : decode cX7_shift 4 = .ok (.iload_n 1, 1) := by decide +kernel
theorem dX7_shift_5 : decode cX7_shift 5 = .ok (.invokevirtual 125, 3) := by decide +kernel
theorem dX7_shift_8 : decode cX7_shift 8 = .ok (.ifCond .eq 14, 3) := by decide +kernel
theorem dX7_shift_11 : decode cX7_shift 11 = .ok (.aload_n 0, 1) := by decide +kernel
theorem dX7_shift_12 : decode cX7_shift 12 = .ok (.getfield 19, 3) := by decide +kernel
theorem dX7_shift_15 : decode cX7_shift 15 = .ok (.iload_n 2, 1) := by decide +kernel
theorem dX7_shift_16 : decode cX7_shift 16 = .ok (.invokevirtual 125, 3) := by decide +kernel
theorem dX7_shift_19 : decode cX7_shift 19 = .ok (.ifCond .ne 5, 3) := by decide +kernel
theorem dX7_shift_22 : decode cX7_shift 22 = .ok (.iconst (-1), 1) := by decide +kernel
theorem dX7_shift_23 : decode cX7_shift 23 = .ok (.ireturn, 1) := by decide +kernel
theorem dX7_shift_24 : decode cX7_shift 24 = .ok (.iload_n 1, 1) := by decide +kernel
theorem dX7_shift_25 : decode cX7_shift 25 = .ok (.iload_n 2, 1) := by decide +kernel
theorem dX7_shift_26 : decode cX7_shift 26 = .ok (.if_icmp .ne 6, 3) := by decide +kernel
theorem dX7_shift_29 : decode cX7_shift 29 = .ok (.bipush (-2), 2) := by decide +kernel
theorem dX7_shift_31 : decode cX7_shift 31 = .ok (.ireturn, 1) := by decide +kernel
theorem dX7_shift_32 : decode cX7_shift 32 = .ok (.aload_n 0, 1) := by decide +kernel
theorem dX7_shift_33 : decode cX7_shift 33 = .ok (.getfield 52, 3) := by decide +kernel
theorem dX7_shift_36 : decode cX7_shift 36 = .ok (.aload_n 0, 1) := by decide +kernel
theorem dX7_shift_37 : decode cX7_shift 37 = .ok (.getfield 19, 3) := by decide +kernel
theorem dX7_shift_40 : decode cX7_shift 40 = .ok (.invokevirtual 143, 3) := by decide +kernel
theorem dX7_shift_43 : decode cX7_shift 43 = .ok (.aload_n 0, 1) := by decide +kernel
theorem dX7_shift_44 : decode cX7_shift 44 = .ok (.getfield 19, 3) := by decide +kernel
theorem dX7_shift_47 : decode cX7_shift 47 = .ok (.iload_n 1, 1) := by decide +kernel
theorem dX7_shift_48 : decode cX7_shift 48 = .ok (.iload_n 2, 1) := by decide +kernel
theorem dX7_shift_49 : decode cX7_shift 49 = .ok (.invokevirtual 162, 3) := by decide +kernel
theorem dX7_shift_52 : decode cX7_shift 52 = .ok (.iload_n 1, 1) := by decide +kernel
theorem dX7_shift_53 : decode cX7_shift 53 = .ok (.iload_n 2, 1) := by decide +kernel
theorem dX7_shift_54 : decode cX7_shift 54 = .ok (.isub, 1) := by decide +kernel
theorem dX7_shift_55 : decode cX7_shift 55 = .ok (.bipush 10, 2) := by decide +kernel
theorem dX7_shift_57 : decode cX7_shift 57 = .ok (.iadd, 1) := by decide +kernel
theorem dX7_shift_58 : decode cX7_shift 58 = .ok (.ireturn, 1) := by decide +kernel
theorem dX7_grip_0 : decode cX7_grip 0 = .ok (.aload_n 0, 1) := by decide +kernel
theorem dX7_grip_1 : decode cX7_grip 1 = .ok (.getfield 19, 3) := by decide +kernel
theorem dX7_grip_4 : decode cX7_grip 4 = .ok (.iload_n 1, 1) := by decide +kernel
theorem dX7_grip_5 : decode cX7_grip 5 = .ok (.invokevirtual 101, 3) := by decide +kernel
theorem dX7_grip_8 : decode cX7_grip 8 = .ok (.ifCond .eq 13, 3) := by decide +kernel
theorem dX7_grip_11 : decode cX7_grip 11 = .ok (.iload_n 2, 1) := by decide +kernel
theorem dX7_grip_12 : decode cX7_grip 12 = .ok (.iconst 1, 1) := by decide +kernel
theorem dX7_grip_13 : decode cX7_grip 13 = .ok (.bipush 40, 2) := by decide +kernel
theorem dX7_grip_15 : decode cX7_grip 15 = .ok (.invokestatic 82, 3) := by decide +kernel
theorem dX7_grip_18 : decode cX7_grip 18 = .ok (.ifCond .ne 5, 3) := by decide +kernel
theorem dX7_grip_21 : decode cX7_grip 21 = .ok (.iconst (-1), 1) := by decide +kernel
theorem dX7_grip_22 : decode cX7_grip 22 = .ok (.ireturn, 1) := by decide +kernel
theorem dX7_grip_23 : decode cX7_grip 23 = .ok (.aload_n 0, 1) := by decide +kernel
theorem dX7_grip_24 : decode cX7_grip 24 = .ok (.getfield 19, 3) := by decide +kernel
theorem dX7_grip_27 : decode cX7_grip 27 = .ok (.getfield 112, 3) := by decide +kernel
theorem dX7_grip_30 : decode cX7_grip 30 = .ok (.iload_n 1, 1) := by decide +kernel
theorem dX7_grip_31 : decode cX7_grip 31 = .ok (.invokestatic 108, 3) := by decide +kernel
theorem dX7_grip_34 : decode cX7_grip 34 = .ok (.istore_n 3, 1) := by decide +kernel
theorem dX7_grip_35 : decode cX7_grip 35 = .ok (.iload_n 3, 1) := by decide +kernel
theorem dX7_grip_36 : decode cX7_grip 36 = .ok (.iload_n 2, 1) := by decide +kernel
theorem dX7_grip_37 : decode cX7_grip 37 = .ok (.if_icmp .ne 6, 3) := by decide +kernel
theorem dX7_grip_40 : decode cX7_grip 40 = .ok (.bipush (-2), 2) := by decide +kernel
theorem dX7_grip_42 : decode cX7_grip 42 = .ok (.ireturn, 1) := by decide +kernel
theorem dX7_grip_43 : decode cX7_grip 43 = .ok (.aload_n 0, 1) := by decide +kernel
theorem dX7_grip_44 : decode cX7_grip 44 = .ok (.getfield 52, 3) := by decide +kernel
theorem dX7_grip_47 : decode cX7_grip 47 = .ok (.aload_n 0, 1) := by decide +kernel
theorem dX7_grip_48 : decode cX7_grip 48 = .ok (.getfield 19, 3) := by decide +kernel
theorem dX7_grip_51 : decode cX7_grip 51 = .ok (.invokevirtual 143, 3) := by decide +kernel
theorem dX7_grip_54 : decode cX7_grip 54 = .ok (.aload_n 0, 1) := by decide +kernel
theorem dX7_grip_55 : decode cX7_grip 55 = .ok (.getfield 19, 3) := by decide +kernel
theorem dX7_grip_58 : decode cX7_grip 58 = .ok (.getfield 112, 3) := by decide +kernel
theorem dX7_grip_61 : decode cX7_grip 61 = .ok (.iload_n 1, 1) := by decide +kernel
theorem dX7_grip_62 : decode cX7_grip 62 = .ok (.iload_n 2, 1) := by decide +kernel
theorem dX7_grip_63 : decode cX7_grip 63 = .ok (.invokestatic 166, 3) := by decide +kernel
theorem dX7_grip_66 : decode cX7_grip 66 = .ok (.iload_n 3, 1) := by decide +kernel
theorem dX7_grip_67 : decode cX7_grip 67 = .ok (.ireturn, 1) := by decide +kernel
theorem dX7_undo_0 : decode cX7_undo 0 = .ok (.aload_n 0, 1) := by decide +kernel
theorem dX7_undo_1 : decode cX7_undo 1 = .ok (.getfield 52, 3) := by decide +kernel
theorem dX7_undo_4 : decode cX7_undo 4 = .ok (.aload_n 0, 1) := by decide +kernel
theorem dX7_undo_5 : decode cX7_undo 5 = .ok (.getfield 19, 3) := by decide +kernel
theorem dX7_undo_8 : decode cX7_undo 8 = .ok (.invokevirtual 170, 3) := by decide +kernel
theorem dX7_undo_11 : decode cX7_undo 11 = .ok (.ifCond .eq 13, 3) := by decide +kernel
theorem dX7_undo_14 : decode cX7_undo 14 = .ok (.aload_n 0, 1) := by decide +kernel
theorem dX7_undo_15 : decode cX7_undo 15 = .ok (.getfield 52, 3) := by decide +kernel
theorem dX7_undo_18 : decode cX7_undo 18 = .ok (.getfield 174, 3) := by decide +kernel
theorem dX7_undo_21 : decode cX7_undo 21 = .ok (.goto 5, 3) := by decide +kernel
theorem dX7_undo_24 : decode cX7_undo 24 = .ok (.bipush (-2), 2) := by decide +kernel
theorem dX7_undo_26 : decode cX7_undo 26 = .ok (.ireturn, 1) := by decide +kernel
theorem dX7_drops_0 : decode cX7_drops 0 = .ok (.aload_n 0, 1) := by decide +kernel
theorem dX7_drops_1 : decode cX7_drops 1 = .ok (.getfield 19, 3) := by decide +kernel
theorem dX7_drops_4 : decode cX7_drops 4 = .ok (.iload_n 1, 1) := by decide +kernel
theorem dX7_drops_5 : decode cX7_drops 5 = .ok (.invokevirtual 101, 3) := by decide +kernel
theorem dX7_drops_8 : decode cX7_drops 8 = .ok (.ifCond .ne 5, 3) := by decide +kernel
theorem dX7_drops_11 : decode cX7_drops 11 = .ok (.iconst (-1), 1) := by decide +kernel
theorem dX7_drops_12 : decode cX7_drops 12 = .ok (.ireturn, 1) := by decide +kernel
theorem dX7_drops_13 : decode cX7_drops 13 = .ok (.aload_n 0, 1) := by decide +kernel
theorem dX7_drops_14 : decode cX7_drops 14 = .ok (.getfield 29, 3) := by decide +kernel
theorem dX7_drops_17 : decode cX7_drops 17 = .ok (.aload_n 0, 1) := by decide +kernel
theorem dX7_drops_18 : decode cX7_drops 18 = .ok (.getfield 19, 3) := by decide +kernel
theorem dX7_drops_21 : decode cX7_drops 21 = .ok (.invokevirtual 177, 3) := by decide +kernel
theorem dX7_drops_24 : decode cX7_drops 24 = .ok (.aload_n 0, 1) := by decide +kernel
theorem dX7_drops_25 : decode cX7_drops 25 = .ok (.getfield 29, 3) := by decide +kernel
theorem dX7_drops_28 : decode cX7_drops 28 = .ok (.getfield 180, 3) := by decide +kernel
theorem dX7_drops_31 : decode cX7_drops 31 = .ok (.iload_n 1, 1) := by decide +kernel
theorem dX7_drops_32 : decode cX7_drops 32 = .ok (.invokestatic 108, 3) := by decide +kernel
theorem dX7_drops_35 : decode cX7_drops 35 = .ok (.istore_n 2, 1) := by decide +kernel
theorem dX7_drops_36 : decode cX7_drops 36 = .ok (.iload_n 2, 1) := by decide +kernel
theorem dX7_drops_37 : decode cX7_drops 37 = .ok (.bipush 7, 2) := by decide +kernel
theorem dX7_drops_39 : decode cX7_drops 39 = .ok (.if_icmp .ne 8, 3) := by decide +kernel
theorem dX7_drops_42 : decode cX7_drops 42 = .ok (.bipush (-4), 2) := by decide +kernel
theorem dX7_drops_44 : decode cX7_drops 44 = .ok (.goto 4, 3) := by decide +kernel
theorem dX7_drops_47 : decode cX7_drops 47 = .ok (.iload_n 2, 1) := by decide +kernel
theorem dX7_drops_48 : decode cX7_drops 48 = .ok (.ireturn, 1) := by decide +kernel
theorem dX7_told_0 : decode cX7_told 0 = .ok (.aload_n 0, 1) := by decide +kernel
theorem dX7_told_1 : decode cX7_told 1 = .ok (.getfield 29, 3) := by decide +kernel
theorem dX7_told_4 : decode cX7_told 4 = .ok (.aload_n 0, 1) := by decide +kernel
theorem dX7_told_5 : decode cX7_told 5 = .ok (.getfield 19, 3) := by decide +kernel
theorem dX7_told_8 : decode cX7_told 8 = .ok (.invokevirtual 177, 3) := by decide +kernel
theorem dX7_told_11 : decode cX7_told 11 = .ok (.aload_n 0, 1) := by decide +kernel
theorem dX7_told_12 : decode cX7_told 12 = .ok (.getfield 29, 3) := by decide +kernel
theorem dX7_told_15 : decode cX7_told 15 = .ok (.getfield 183, 3) := by decide +kernel
theorem dX7_told_18 : decode cX7_told 18 = .ok (.getfield 187, 3) := by decide +kernel
theorem dX7_told_21 : decode cX7_told 21 = .ok (.ireturn, 1) := by decide +kernel
theorem dX7_hot_0 : decode cX7_hot 0 = .ok (.aload_n 0, 1) := by decide +kernel
theorem dX7_hot_1 : decode cX7_hot 1 = .ok (.getfield 19, 3) := by decide +kernel
theorem dX7_hot_4 : decode cX7_hot 4 = .ok (.iload_n 1, 1) := by decide +kernel
theorem dX7_hot_5 : decode cX7_hot 5 = .ok (.invokevirtual 125, 3) := by decide +kernel
theorem dX7_hot_8 : decode cX7_hot 8 = .ok (.ifCond .ne 5, 3) := by decide +kernel
theorem dX7_hot_11 : decode cX7_hot 11 = .ok (.iconst (-1), 1) := by decide +kernel
theorem dX7_hot_12 : decode cX7_hot 12 = .ok (.ireturn, 1) := by decide +kernel
theorem dX7_hot_13 : decode cX7_hot 13 = .ok (.aload_n 0, 1) := by decide +kernel
theorem dX7_hot_14 : decode cX7_hot 14 = .ok (.getfield 29, 3) := by decide +kernel
theorem dX7_hot_17 : decode cX7_hot 17 = .ok (.aload_n 0, 1) := by decide +kernel
theorem dX7_hot_18 : decode cX7_hot 18 = .ok (.getfield 19, 3) := by decide +kernel
theorem dX7_hot_21 : decode cX7_hot 21 = .ok (.invokevirtual 177, 3) := by decide +kernel
theorem dX7_hot_24 : decode cX7_hot 24 = .ok (.aload_n 0, 1) := by decide +kernel
theorem dX7_hot_25 : decode cX7_hot 25 = .ok (.getfield 29, 3) := by decide +kernel
theorem dX7_hot_28 : decode cX7_hot 28 = .ok (.getfield 192, 3) := by decide +kernel
theorem dX7_hot_31 : decode cX7_hot 31 = .ok (.iload_n 1, 1) := by decide +kernel
theorem dX7_hot_32 : decode cX7_hot 32 = .ok (.invokestatic 108, 3) := by decide +kernel
theorem dX7_hot_35 : decode cX7_hot 35 = .ok (.ireturn, 1) := by decide +kernel
theorem dX7_hottest_0 : decode cX7_hottest 0 = .ok (.aload_n 0, 1) := by decide +kernel
theorem dX7_hottest_1 : decode cX7_hottest 1 = .ok (.getfield 29, 3) := by decide +kernel
theorem dX7_hottest_4 : decode cX7_hottest 4 = .ok (.aload_n 0, 1) := by decide +kernel
theorem dX7_hottest_5 : decode cX7_hottest 5 = .ok (.getfield 19, 3) := by decide +kernel
theorem dX7_hottest_8 : decode cX7_hottest 8 = .ok (.invokevirtual 177, 3) := by decide +kernel
theorem dX7_hottest_11 : decode cX7_hottest 11 = .ok (.aload_n 0, 1) := by decide +kernel
theorem dX7_hottest_12 : decode cX7_hottest 12 = .ok (.getfield 29, 3) := by decide +kernel
theorem dX7_hottest_15 : decode cX7_hottest 15 = .ok (.getfield 195, 3) := by decide +kernel
theorem dX7_hottest_18 : decode cX7_hottest 18 = .ok (.ireturn, 1) := by decide +kernel
theorem dX7_order_0 : decode cX7_order 0 = .ok (.iload_n 1, 1) := by decide +kernel
theorem dX7_order_1 : decode cX7_order 1 = .ok (.iconst (-1), 1) := by decide +kernel
theorem dX7_order_2 : decode cX7_order 2 = .ok (.if_icmp .eq 16, 3) := by decide +kernel
theorem dX7_order_5 : decode cX7_order 5 = .ok (.aload_n 0, 1) := by decide +kernel
theorem dX7_order_6 : decode cX7_order 6 = .ok (.getfield 19, 3) := by decide +kernel
theorem dX7_order_9 : decode cX7_order 9 = .ok (.iload_n 1, 1) := by decide +kernel
theorem dX7_order_10 : decode cX7_order 10 = .ok (.invokevirtual 125, 3) := by decide +kernel
theorem dX7_order_13 : decode cX7_order 13 = .ok (.ifCond .ne 5, 3) := by decide +kernel
theorem dX7_order_16 : decode cX7_order 16 = .ok (.iconst (-1), 1) := by decide +kernel
theorem dX7_order_17 : decode cX7_order 17 = .ok (.ireturn, 1) := by decide +kernel
theorem dX7_order_18 : decode cX7_order 18 = .ok (.aload_n 0, 1) := by decide +kernel
theorem dX7_order_19 : decode cX7_order 19 = .ok (.getfield 36, 3) := by decide +kernel
theorem dX7_order_22 : decode cX7_order 22 = .ok (.aload_n 0, 1) := by decide +kernel
theorem dX7_order_23 : decode cX7_order 23 = .ok (.getfield 19, 3) := by decide +kernel
theorem dX7_order_26 : decode cX7_order 26 = .ok (.invokevirtual 198, 3) := by decide +kernel
theorem dX7_order_29 : decode cX7_order 29 = .ok (.iload_n 1, 1) := by decide +kernel
theorem dX7_order_30 : decode cX7_order 30 = .ok (.iconst (-1), 1) := by decide +kernel
theorem dX7_order_31 : decode cX7_order 31 = .ok (.if_icmp .ne 13, 3) := by decide +kernel
theorem dX7_order_34 : decode cX7_order 34 = .ok (.aload_n 0, 1) := by decide +kernel
theorem dX7_order_35 : decode cX7_order 35 = .ok (.getfield 36, 3) := by decide +kernel
theorem dX7_order_38 : decode cX7_order 38 = .ok (.getfield 201, 3) := by decide +kernel
theorem dX7_order_41 : decode cX7_order 41 = .ok (.goto 14, 3) := by decide +kernel
theorem dX7_order_44 : decode cX7_order 44 = .ok (.aload_n 0, 1) := by decide +kernel
theorem dX7_order_45 : decode cX7_order 45 = .ok (.getfield 36, 3) := by decide +kernel
theorem dX7_order_48 : decode cX7_order 48 = .ok (.getfield 202, 3) := by decide +kernel
theorem dX7_order_51 : decode cX7_order 51 = .ok (.iload_n 1, 1) := by decide +kernel
theorem dX7_order_52 : decode cX7_order 52 = .ok (.invokestatic 108, 3) := by decide +kernel
theorem dX7_order_55 : decode cX7_order 55 = .ok (.ireturn, 1) := by decide +kernel
theorem dX7_leave_0 : decode cX7_leave 0 = .ok (.aload_n 0, 1) := by decide +kernel
theorem dX7_leave_1 : decode cX7_leave 1 = .ok (.getfield 19, 3) := by decide +kernel
theorem dX7_leave_4 : decode cX7_leave 4 = .ok (.iload_n 1, 1) := by decide +kernel
theorem dX7_leave_5 : decode cX7_leave 5 = .ok (.invokevirtual 101, 3) := by decide +kernel
theorem dX7_leave_8 : decode cX7_leave 8 = .ok (.ifCond .eq 12, 3) := by decide +kernel
theorem dX7_leave_11 : decode cX7_leave 11 = .ok (.iload_n 2, 1) := by decide +kernel
theorem dX7_leave_12 : decode cX7_leave 12 = .ok (.iconst 0, 1) := by decide +kernel
theorem dX7_leave_13 : decode cX7_leave 13 = .ok (.iconst 1, 1) := by decide +kernel
theorem dX7_leave_14 : decode cX7_leave 14 = .ok (.invokestatic 82, 3) := by decide +kernel
theorem dX7_leave_17 : decode cX7_leave 17 = .ok (.ifCond .ne 5, 3) := by decide +kernel
theorem dX7_leave_20 : decode cX7_leave 20 = .ok (.iconst (-1), 1) := by decide +kernel
theorem dX7_leave_21 : decode cX7_leave 21 = .ok (.ireturn, 1) := by decide +kernel
theorem dX7_leave_22 : decode cX7_leave 22 = .ok (.aload_n 0, 1) := by decide +kernel
theorem dX7_leave_23 : decode cX7_leave 23 = .ok (.iload_n 1, 1) := by decide +kernel
theorem dX7_leave_24 : decode cX7_leave 24 = .ok (.invokevirtual 205, 3) := by decide +kernel
theorem dX7_leave_27 : decode cX7_leave 27 = .ok (.istore_n 3, 1) := by decide +kernel
theorem dX7_leave_28 : decode cX7_leave 28 = .ok (.iload_n 2, 1) := by decide +kernel
theorem dX7_leave_29 : decode cX7_leave 29 = .ok (.ifCond .ne 10, 3) := by decide +kernel
theorem dX7_leave_32 : decode cX7_leave 32 = .ok (.iload_n 3, 1) := by decide +kernel
theorem dX7_leave_33 : decode cX7_leave 33 = .ok (.invokestatic 209, 3) := by decide +kernel
theorem dX7_leave_36 : decode cX7_leave 36 = .ok (.goto 4, 3) := by decide +kernel
theorem dX7_leave_39 : decode cX7_leave 39 = .ok (.iload_n 3, 1) := by decide +kernel
theorem dX7_leave_40 : decode cX7_leave 40 = .ok (.ireturn, 1) := by decide +kernel
theorem dX7_holds_0 : decode cX7_holds 0 = .ok (.aload_n 0, 1) := by decide +kernel
theorem dX7_holds_1 : decode cX7_holds 1 = .ok (.getfield 19, 3) := by decide +kernel
theorem dX7_holds_4 : decode cX7_holds 4 = .ok (.iload_n 1, 1) := by decide +kernel
theorem dX7_holds_5 : decode cX7_holds 5 = .ok (.invokevirtual 101, 3) := by decide +kernel
theorem dX7_holds_8 : decode cX7_holds 8 = .ok (.ifCond .eq 12, 3) := by decide +kernel
theorem dX7_holds_11 : decode cX7_holds 11 = .ok (.iload_n 2, 1) := by decide +kernel
theorem dX7_holds_12 : decode cX7_holds 12 = .ok (.iconst 0, 1) := by decide +kernel
theorem dX7_holds_13 : decode cX7_holds 13 = .ok (.iconst 1, 1) := by decide +kernel
theorem dX7_holds_14 : decode cX7_holds 14 = .ok (.invokestatic 82, 3) := by decide +kernel
theorem dX7_holds_17 : decode cX7_holds 17 = .ok (.ifCond .ne 5, 3) := by decide +kernel
theorem dX7_holds_20 : decode cX7_holds 20 = .ok (.iconst (-1), 1) := by decide +kernel
theorem dX7_holds_21 : decode cX7_holds 21 = .ok (.ireturn, 1) := by decide +kernel
theorem dX7_holds_22 : decode cX7_holds 22 = .ok (.iconst 0, 1) := by decide +kernel
theorem dX7_holds_23 : decode cX7_holds 23 = .ok (.istore_n 3, 1) := by decide +kernel
theorem dX7_holds_24 : decode cX7_holds 24 = .ok (.bipush 6, 2) := by decide +kernel
theorem dX7_holds_26 : decode cX7_holds 26 = .ok (.istore 4, 2) := by decide +kernel
theorem dX7_holds_28 : decode cX7_holds 28 = .ok (.iconst 0, 1) := by decide +kernel
theorem dX7_holds_29 : decode cX7_holds 29 = .ok (.istore 5, 2) := by decide +kernel
theorem dX7_holds_31 : decode cX7_holds 31 = .ok (.iload 5, 2) := by decide +kernel
theorem dX7_holds_33 : decode cX7_holds 33 = .ok (.aload_n 0, 1) := by decide +kernel
theorem dX7_holds_34 : decode cX7_holds 34 = .ok (.getfield 19, 3) := by decide +kernel
theorem dX7_holds_37 : decode cX7_holds 37 = .ok (.getfield 89, 3) := by decide +kernel
theorem dX7_holds_40 : decode cX7_holds 40 = .ok (.if_icmp .ge 32, 3) := by decide +kernel
theorem dX7_holds_43 : decode cX7_holds 43 = .ok (.aload_n 0, 1) := by decide +kernel
theorem dX7_holds_44 : decode cX7_holds 44 = .ok (.iload_n 1, 1) := by decide +kernel
theorem dX7_holds_45 : decode cX7_holds 45 = .ok (.iload 5, 2) := by decide +kernel
theorem dX7_holds_47 : decode cX7_holds 47 = .ok (.invokevirtual 214, 3) := by decide +kernel
theorem dX7_holds_50 : decode cX7_holds 50 = .ok (.istore 6, 2) := by decide +kernel
theorem dX7_holds_52 : decode cX7_holds 52 = .ok (.iload 6, 2) := by decide +kernel
theorem dX7_holds_54 : decode cX7_holds 54 = .ok (.iload 4, 2) := by decide +kernel
theorem dX7_holds_56 : decode cX7_holds 56 = .ok (.if_icmp .ge 10, 3) := by decide +kernel
theorem dX7_holds_59 : decode cX7_holds 59 = .ok (.iload 5, 2) := by decide +kernel
theorem dX7_holds_61 : decode cX7_holds 61 = .ok (.istore_n 3, 1) := by decide +kernel
theorem dX7_holds_62 : decode cX7_holds 62 = .ok (.iload 6, 2) := by decide +kernel
theorem dX7_holds_64 : decode cX7_holds 64 = .ok (.istore 4, 2) := by decide +kernel
theorem dX7_holds_66 : decode cX7_holds 66 = .ok (.iinc 5 1, 3) := by decide +kernel
theorem dX7_holds_69 : decode cX7_holds 69 = .ok (.goto (-38), 3) := by decide +kernel
theorem dX7_holds_72 : decode cX7_holds 72 = .ok (.iload_n 2, 1) := by decide +kernel
theorem dX7_holds_73 : decode cX7_holds 73 = .ok (.ifCond .ne 7, 3) := by decide +kernel
theorem dX7_holds_76 : decode cX7_holds 76 = .ok (.iload_n 3, 1) := by decide +kernel
theorem dX7_holds_77 : decode cX7_holds 77 = .ok (.goto 5, 3) := by decide +kernel
theorem dX7_holds_80 : decode cX7_holds 80 = .ok (.iload 4, 2) := by decide +kernel
theorem dX7_holds_82 : decode cX7_holds 82 = .ok (.ireturn, 1) := by decide +kernel
theorem dX7_seen_0 : decode cX7_seen 0 = .ok (.aload_n 0, 1) := by decide +kernel
theorem dX7_seen_1 : decode cX7_seen 1 = .ok (.getfield 19, 3) := by decide +kernel
theorem dX7_seen_4 : decode cX7_seen 4 = .ok (.iload_n 1, 1) := by decide +kernel
theorem dX7_seen_5 : decode cX7_seen 5 = .ok (.invokevirtual 101, 3) := by decide +kernel
theorem dX7_seen_8 : decode cX7_seen 8 = .ok (.ifCond .eq 13, 3) := by decide +kernel
theorem dX7_seen_11 : decode cX7_seen 11 = .ok (.iload_n 2, 1) := by decide +kernel
theorem dX7_seen_12 : decode cX7_seen 12 = .ok (.iconst 0, 1) := by decide +kernel
theorem dX7_seen_13 : decode cX7_seen 13 = .ok (.bipush 7, 2) := by decide +kernel
theorem dX7_seen_15 : decode cX7_seen 15 = .ok (.invokestatic 82, 3) := by decide +kernel
theorem dX7_seen_18 : decode cX7_seen 18 = .ok (.ifCond .ne 5, 3) := by decide +kernel
theorem dX7_seen_21 : decode cX7_seen 21 = .ok (.iconst (-1), 1) := by decide +kernel
theorem dX7_seen_22 : decode cX7_seen 22 = .ok (.ireturn, 1) := by decide +kernel
theorem dX7_seen_23 : decode cX7_seen 23 = .ok (.aload_n 0, 1) := by decide +kernel
theorem dX7_seen_24 : decode cX7_seen 24 = .ok (.getfield 43, 3) := by decide +kernel
theorem dX7_seen_27 : decode cX7_seen 27 = .ok (.iload_n 1, 1) := by decide +kernel
theorem dX7_seen_28 : decode cX7_seen 28 = .ok (.iload_n 2, 1) := by decide +kernel
theorem dX7_seen_29 : decode cX7_seen 29 = .ok (.invokevirtual 217, 3) := by decide +kernel
theorem dX7_seen_32 : decode cX7_seen 32 = .ok (.ifCond .eq 13, 3) := by decide +kernel
theorem dX7_seen_35 : decode cX7_seen 35 = .ok (.aload_n 0, 1) := by decide +kernel
theorem dX7_seen_36 : decode cX7_seen 36 = .ok (.getfield 43, 3) := by decide +kernel
theorem dX7_seen_39 : decode cX7_seen 39 = .ok (.getfield 221, 3) := by decide +kernel
theorem dX7_seen_42 : decode cX7_seen 42 = .ok (.goto 5, 3) := by decide +kernel
theorem dX7_seen_45 : decode cX7_seen 45 = .ok (.bipush (-3), 2) := by decide +kernel
theorem dX7_seen_47 : decode cX7_seen 47 = .ok (.ireturn, 1) := by decide +kernel
theorem dX7_forget_0 : decode cX7_forget 0 = .ok (.aload_n 0, 1) := by decide +kernel
theorem dX7_forget_1 : decode cX7_forget 1 = .ok (.getfield 43, 3) := by decide +kernel
theorem dX7_forget_4 : decode cX7_forget 4 = .ok (.getfield 221, 3) := by decide +kernel
theorem dX7_forget_7 : decode cX7_forget 7 = .ok (.istore_n 1, 1) := by decide +kernel
theorem dX7_forget_8 : decode cX7_forget 8 = .ok (.aload_n 0, 1) := by decide +kernel
theorem dX7_forget_9 : decode cX7_forget 9 = .ok (.getfield 43, 3) := by decide +kernel
theorem dX7_forget_12 : decode cX7_forget 12 = .ok (.invokevirtual 99, 3) := by decide +kernel
theorem dX7_forget_15 : decode cX7_forget 15 = .ok (.iload_n 1, 1) := by decide +kernel
theorem dX7_forget_16 : decode cX7_forget 16 = .ok (.ireturn, 1) := by decide +kernel
theorem dX7_worlds_0 : decode cX7_worlds 0 = .ok (.iload_n 1, 1) := by decide +kernel
theorem dX7_worlds_1 : decode cX7_worlds 1 = .ok (.iconst 0, 1) := by decide +kernel
theorem dX7_worlds_2 : decode cX7_worlds 2 = .ok (.iconst 3, 1) := by decide +kernel
theorem dX7_worlds_3 : decode cX7_worlds 3 = .ok (.invokestatic 82, 3) := by decide +kernel
theorem dX7_worlds_6 : decode cX7_worlds 6 = .ok (.ifCond .ne 5, 3) := by decide +kernel
theorem dX7_worlds_9 : decode cX7_worlds 9 = .ok (.iconst (-1), 1) := by decide +kernel
theorem dX7_worlds_10 : decode cX7_worlds 10 = .ok (.ireturn, 1) := by decide +kernel
theorem dX7_worlds_11 : decode cX7_worlds 11 = .ok (.aload_n 0, 1) := by decide +kernel
theorem dX7_worlds_12 : decode cX7_worlds 12 = .ok (.invokevirtual 222, 3) := by decide +kernel
theorem dX7_worlds_15 : decode cX7_worlds 15 = .ok (.lstore_n 2, 1) := by decide +kernel
theorem dX7_worlds_16 : decode cX7_worlds 16 = .ok (.iload_n 1, 1) := by decide +kernel
theorem dX7_worlds_17 : decode cX7_worlds 17 = .ok (.ifCond .ne 8, 3) := by decide +kernel
theorem dX7_worlds_20 : decode cX7_worlds 20 = .ok (.lload_n 2, 1) := by decide +kernel
theorem dX7_worlds_21 : decode cX7_worlds 21 = .ok (.invokestatic 226, 3) := by decide +kernel
theorem dX7_worlds_24 : decode cX7_worlds 24 = .ok (.ireturn, 1) := by decide +kernel
theorem dX7_worlds_25 : decode cX7_worlds 25 = .ok (.lload_n 2, 1) := by decide +kernel
theorem dX7_worlds_26 : decode cX7_worlds 26 = .ok (.lconst 0, 1) := by decide +kernel
theorem dX7_worlds_27 : decode cX7_worlds 27 = .ok (.lcmp, 1) := by decide +kernel
theorem dX7_worlds_28 : decode cX7_worlds 28 = .ok (.ifCond .ne 6, 3) := by decide +kernel
theorem dX7_worlds_31 : decode cX7_worlds 31 = .ok (.bipush (-4), 2) := by decide +kernel
theorem dX7_worlds_33 : decode cX7_worlds 33 = .ok (.ireturn, 1) := by decide +kernel
theorem dX7_worlds_34 : decode cX7_worlds 34 = .ok (.iload_n 1, 1) := by decide +kernel
theorem dX7_worlds_35 : decode cX7_worlds 35 = .ok (.lookupswitch 38 #[(1, 25), (2, 31)], 25) := by decide +kernel
theorem dX7_worlds_60 : decode cX7_worlds 60 = .ok (.aload_n 0, 1) := by decide +kernel
theorem dX7_worlds_61 : decode cX7_worlds 61 = .ok (.lload_n 2, 1) := by decide +kernel
theorem dX7_worlds_62 : decode cX7_worlds 62 = .ok (.invokevirtual 231, 3) := by decide +kernel
theorem dX7_worlds_65 : decode cX7_worlds 65 = .ok (.ireturn, 1) := by decide +kernel
theorem dX7_worlds_66 : decode cX7_worlds 66 = .ok (.aload_n 0, 1) := by decide +kernel
theorem dX7_worlds_67 : decode cX7_worlds 67 = .ok (.lload_n 2, 1) := by decide +kernel
theorem dX7_worlds_68 : decode cX7_worlds 68 = .ok (.iconst 0, 1) := by decide +kernel
theorem dX7_worlds_69 : decode cX7_worlds 69 = .ok (.invokevirtual 234, 3) := by decide +kernel
theorem dX7_worlds_72 : decode cX7_worlds 72 = .ok (.ireturn, 1) := by decide +kernel
theorem dX7_worlds_73 : decode cX7_worlds 73 = .ok (.aload_n 0, 1) := by decide +kernel
theorem dX7_worlds_74 : decode cX7_worlds 74 = .ok (.lload_n 2, 1) := by decide +kernel
theorem dX7_worlds_75 : decode cX7_worlds 75 = .ok (.aload_n 0, 1) := by decide +kernel
theorem dX7_worlds_76 : decode cX7_worlds 76 = .ok (.getfield 19, 3) := by decide +kernel
theorem dX7_worlds_79 : decode cX7_worlds 79 = .ok (.invokevirtual 238, 3) := by decide +kernel
theorem dX7_worlds_82 : decode cX7_worlds 82 = .ok (.iconst 1, 1) := by decide +kernel
theorem dX7_worlds_83 : decode cX7_worlds 83 = .ok (.isub, 1) := by decide +kernel
theorem dX7_worlds_84 : decode cX7_worlds 84 = .ok (.invokevirtual 234, 3) := by decide +kernel
theorem dX7_worlds_87 : decode cX7_worlds 87 = .ok (.ireturn, 1) := by decide +kernel
theorem dX7_next_0 : decode cX7_next 0 = .ok (.aload_n 0, 1) := by decide +kernel
theorem dX7_next_1 : decode cX7_next 1 = .ok (.getfield 19, 3) := by decide +kernel
theorem dX7_next_4 : decode cX7_next 4 = .ok (.iload_n 1, 1) := by decide +kernel
theorem dX7_next_5 : decode cX7_next 5 = .ok (.invokevirtual 101, 3) := by decide +kernel
theorem dX7_next_8 : decode cX7_next 8 = .ok (.ifCond .eq 13, 3) := by decide +kernel
theorem dX7_next_11 : decode cX7_next 11 = .ok (.iload_n 2, 1) := by decide +kernel
theorem dX7_next_12 : decode cX7_next 12 = .ok (.iconst 1, 1) := by decide +kernel
theorem dX7_next_13 : decode cX7_next 13 = .ok (.bipush 20, 2) := by decide +kernel
theorem dX7_next_15 : decode cX7_next 15 = .ok (.invokestatic 82, 3) := by decide +kernel
theorem dX7_next_18 : decode cX7_next 18 = .ok (.ifCond .ne 5, 3) := by decide +kernel
theorem dX7_next_21 : decode cX7_next 21 = .ok (.iconst (-1), 1) := by decide +kernel
theorem dX7_next_22 : decode cX7_next 22 = .ok (.ireturn, 1) := by decide +kernel
theorem dX7_next_23 : decode cX7_next 23 = .ok (.aload_n 0, 1) := by decide +kernel
theorem dX7_next_24 : decode cX7_next 24 = .ok (.invokevirtual 222, 3) := by decide +kernel
theorem dX7_next_27 : decode cX7_next 27 = .ok (.lstore_n 3, 1) := by decide +kernel
theorem dX7_next_28 : decode cX7_next 28 = .ok (.aload_n 0, 1) := by decide +kernel
theorem dX7_next_29 : decode cX7_next 29 = .ok (.getfield 19, 3) := by decide +kernel
theorem dX7_next_32 : decode cX7_next 32 = .ok (.getfield 153, 3) := by decide +kernel
theorem dX7_next_35 : decode cX7_next 35 = .ok (.bipush 7, 2) := by decide +kernel
theorem dX7_next_37 : decode cX7_next 37 = .ok (.if_icmp .ge 9, 3) := by decide +kernel
theorem dX7_next_40 : decode cX7_next 40 = .ok (.lload_n 3, 1) := by decide +kernel
theorem dX7_next_41 : decode cX7_next 41 = .ok (.lconst 0, 1) := by decide +kernel
theorem dX7_next_42 : decode cX7_next 42 = .ok (.lcmp, 1) := by decide +kernel
theorem dX7_next_43 : decode cX7_next 43 = .ok (.ifCond .ne 6, 3) := by decide +kernel
theorem dX7_next_46 : decode cX7_next 46 = .ok (.bipush (-4), 2) := by decide +kernel
theorem dX7_next_48 : decode cX7_next 48 = .ok (.ireturn, 1) := by decide +kernel
theorem dX7_next_49 : decode cX7_next 49 = .ok (.bipush (-4), 2) := by decide +kernel
theorem dX7_next_51 : decode cX7_next 51 = .ok (.istore 5, 2) := by decide +kernel
theorem dX7_next_53 : decode cX7_next 53 = .ok (.aload_n 0, 1) := by decide +kernel
theorem dX7_next_54 : decode cX7_next 54 = .ok (.getfield 19, 3) := by decide +kernel
theorem dX7_next_57 : decode cX7_next 57 = .ok (.invokevirtual 238, 3) := by decide +kernel
theorem dX7_next_60 : decode cX7_next 60 = .ok (.iconst 1, 1) := by decide +kernel
theorem dX7_next_61 : decode cX7_next 61 = .ok (.iadd, 1) := by decide +kernel
theorem dX7_next_62 : decode cX7_next 62 = .ok (.istore 6, 2) := by decide +kernel
theorem dX7_next_64 : decode cX7_next 64 = .ok (.iconst 0, 1) := by decide +kernel
theorem dX7_next_65 : decode cX7_next 65 = .ok (.istore 7, 2) := by decide +kernel
theorem dX7_next_67 : decode cX7_next 67 = .ok (.iload 7, 2) := by decide +kernel
theorem dX7_next_69 : decode cX7_next 69 = .ok (.aload_n 0, 1) := by decide +kernel
theorem dX7_next_70 : decode cX7_next 70 = .ok (.getfield 19, 3) := by decide +kernel
theorem dX7_next_73 : decode cX7_next 73 = .ok (.getfield 92, 3) := by decide +kernel
theorem dX7_next_76 : decode cX7_next 76 = .ok (.if_icmp .ge 49, 3) := by decide +kernel
theorem dX7_next_79 : decode cX7_next 79 = .ok (.aload_n 0, 1) := by decide +kernel
theorem dX7_next_80 : decode cX7_next 80 = .ok (.lload_n 3, 1) := by decide +kernel
theorem dX7_next_81 : decode cX7_next 81 = .ok (.iload_n 1, 1) := by decide +kernel
theorem dX7_next_82 : decode cX7_next 82 = .ok (.iload 7, 2) := by decide +kernel
theorem dX7_next_84 : decode cX7_next 84 = .ok (.iload_n 2, 1) := by decide +kernel
theorem dX7_next_85 : decode cX7_next 85 = .ok (.invokevirtual 241, 3) := by decide +kernel
theorem dX7_next_88 : decode cX7_next 88 = .ok (.istore 8, 2) := by decide +kernel
theorem dX7_next_90 : decode cX7_next 90 = .ok (.iload 8, 2) := by decide +kernel
theorem dX7_next_92 : decode cX7_next 92 = .ok (.lload_n 3, 1) := by decide +kernel
theorem dX7_next_93 : decode cX7_next 93 = .ok (.invokestatic 226, 3) := by decide +kernel
theorem dX7_next_96 : decode cX7_next 96 = .ok (.iload 8, 2) := by decide +kernel
theorem dX7_next_98 : decode cX7_next 98 = .ok (.isub, 1) := by decide +kernel
theorem dX7_next_99 : decode cX7_next 99 = .ok (.invokestatic 245, 3) := by decide +kernel
theorem dX7_next_102 : decode cX7_next 102 = .ok (.istore 9, 2) := by decide +kernel
theorem dX7_next_104 : decode cX7_next 104 = .ok (.iload 9, 2) := by decide +kernel
theorem dX7_next_106 : decode cX7_next 106 = .ok (.iload 6, 2) := by decide +kernel
theorem dX7_next_108 : decode cX7_next 108 = .ok (.if_icmp .ge 11, 3) := by decide +kernel
theorem dX7_next_111 : decode cX7_next 111 = .ok (.iload 7, 2) := by decide +kernel
theorem dX7_next_113 : decode cX7_next 113 = .ok (.istore 5, 2) := by decide +kernel
theorem dX7_next_115 : decode cX7_next 115 = .ok (.iload 9, 2) := by decide +kernel
theorem dX7_next_117 : decode cX7_next 117 = .ok (.istore 6, 2) := by decide +kernel
theorem dX7_next_119 : decode cX7_next 119 = .ok (.iinc 7 1, 3) := by decide +kernel
theorem dX7_next_122 : decode cX7_next 122 = .ok (.goto (-55), 3) := by decide +kernel
theorem dX7_next_125 : decode cX7_next 125 = .ok (.iload 5, 2) := by decide +kernel
theorem dX7_next_127 : decode cX7_next 127 = .ok (.ireturn, 1) := by decide +kernel
theorem dX7_kinds_0 : decode cX7_kinds 0 = .ok (.aload_n 0, 1) := by decide +kernel
theorem dX7_kinds_1 : decode cX7_kinds 1 = .ok (.getfield 19, 3) := by decide +kernel
theorem dX7_kinds_4 : decode cX7_kinds 4 = .ok (.iload_n 1, 1) := by decide +kernel
theorem dX7_kinds_5 : decode cX7_kinds 5 = .ok (.invokevirtual 101, 3) := by decide +kernel
theorem dX7_kinds_8 : decode cX7_kinds 8 = .ok (.ifCond .ne 5, 3) := by decide +kernel
theorem dX7_kinds_11 : decode cX7_kinds 11 = .ok (.iconst (-1), 1) := by decide +kernel
theorem dX7_kinds_12 : decode cX7_kinds 12 = .ok (.ireturn, 1) := by decide +kernel
theorem dX7_kinds_13 : decode cX7_kinds 13 = .ok (.aload_n 0, 1) := by decide +kernel
theorem dX7_kinds_14 : decode cX7_kinds 14 = .ok (.getfield 23, 3) := by decide +kernel
theorem dX7_kinds_17 : decode cX7_kinds 17 = .ok (.aload_n 0, 1) := by decide +kernel
theorem dX7_kinds_18 : decode cX7_kinds 18 = .ok (.getfield 19, 3) := by decide +kernel
theorem dX7_kinds_21 : decode cX7_kinds 21 = .ok (.invokevirtual 95, 3) := by decide +kernel
theorem dX7_kinds_24 : decode cX7_kinds 24 = .ok (.iconst 0, 1) := by decide +kernel
theorem dX7_kinds_25 : decode cX7_kinds 25 = .ok (.istore_n 2, 1) := by decide +kernel
theorem dX7_kinds_26 : decode cX7_kinds 26 = .ok (.iconst 0, 1) := by decide +kernel
theorem dX7_kinds_27 : decode cX7_kinds 27 = .ok (.istore_n 3, 1) := by decide +kernel
theorem dX7_kinds_28 : decode cX7_kinds 28 = .ok (.iload_n 3, 1) := by decide +kernel
theorem dX7_kinds_29 : decode cX7_kinds 29 = .ok (.iconst 3, 1) := by decide +kernel
theorem dX7_kinds_30 : decode cX7_kinds 30 = .ok (.if_icmp .gt 38, 3) := by decide +kernel
theorem dX7_kinds_33 : decode cX7_kinds 33 = .ok (.aload_n 0, 1) := by decide +kernel
theorem dX7_kinds_34 : decode cX7_kinds 34 = .ok (.getfield 23, 3) := by decide +kernel
theorem dX7_kinds_37 : decode cX7_kinds 37 = .ok (.getfield 104, 3) := by decide +kernel
theorem dX7_kinds_40 : decode cX7_kinds 40 = .ok (.iload_n 1, 1) := by decide +kernel
theorem dX7_kinds_41 : decode cX7_kinds 41 = .ok (.iload_n 3, 1) := by decide +kernel
theorem dX7_kinds_42 : decode cX7_kinds 42 = .ok (.invokestatic 166, 3) := by decide +kernel
theorem dX7_kinds_45 : decode cX7_kinds 45 = .ok (.aload_n 0, 1) := by decide +kernel
theorem dX7_kinds_46 : decode cX7_kinds 46 = .ok (.aload_n 0, 1) := by decide +kernel
theorem dX7_kinds_47 : decode cX7_kinds 47 = .ok (.getfield 23, 3) := by decide +kernel
theorem dX7_kinds_50 : decode cX7_kinds 50 = .ok (.invokevirtual 250, 3) := by decide +kernel
theorem dX7_kinds_53 : decode cX7_kinds 53 = .ok (.ifCond .eq 9, 3) := by decide +kernel
theorem dX7_kinds_56 : decode cX7_kinds 56 = .ok (.iload_n 2, 1) := by decide +kernel
theorem dX7_kinds_57 : decode cX7_kinds 57 = .ok (.iconst 1, 1) := by decide +kernel
theorem dX7_kinds_58 : decode cX7_kinds 58 = .ok (.iload_n 3, 1) := by decide +kernel
theorem dX7_kinds_59 : decode cX7_kinds 59 = .ok (.ishl, 1) := by decide +kernel
theorem dX7_kinds_60 : decode cX7_kinds 60 = .ok (.ior, 1) := by decide +kernel
theorem dX7_kinds_61 : decode cX7_kinds 61 = .ok (.istore_n 2, 1) := by decide +kernel
theorem dX7_kinds_62 : decode cX7_kinds 62 = .ok (.iinc 3 1, 3) := by decide +kernel
theorem dX7_kinds_65 : decode cX7_kinds 65 = .ok (.goto (-37), 3) := by decide +kernel
theorem dX7_kinds_68 : decode cX7_kinds 68 = .ok (.iload_n 2, 1) := by decide +kernel
theorem dX7_kinds_69 : decode cX7_kinds 69 = .ok (.ireturn, 1) := by decide +kernel
theorem dX7_grips_0 : decode cX7_grips 0 = .ok (.aload_n 0, 1) := by decide +kernel
theorem dX7_grips_1 : decode cX7_grips 1 = .ok (.getfield 19, 3) := by decide +kernel
theorem dX7_grips_4 : decode cX7_grips 4 = .ok (.iload_n 1, 1) := by decide +kernel
theorem dX7_grips_5 : decode cX7_grips 5 = .ok (.invokevirtual 101, 3) := by decide +kernel
theorem dX7_grips_8 : decode cX7_grips 8 = .ok (.ifCond .eq 12, 3) := by decide +kernel
theorem dX7_grips_11 : decode cX7_grips 11 = .ok (.iload_n 2, 1) := by decide +kernel
theorem dX7_grips_12 : decode cX7_grips 12 = .ok (.iconst 0, 1) := by decide +kernel
theorem dX7_grips_13 : decode cX7_grips 13 = .ok (.iconst 1, 1) := by decide +kernel
theorem dX7_grips_14 : decode cX7_grips 14 = .ok (.invokestatic 82, 3) := by decide +kernel
theorem dX7_grips_17 : decode cX7_grips 17 = .ok (.ifCond .ne 5, 3) := by decide +kernel
theorem dX7_grips_20 : decode cX7_grips 20 = .ok (.iconst (-1), 1) := by decide +kernel
theorem dX7_grips_21 : decode cX7_grips 21 = .ok (.ireturn, 1) := by decide +kernel
theorem dX7_grips_22 : decode cX7_grips 22 = .ok (.aload_n 0, 1) := by decide +kernel
theorem dX7_grips_23 : decode cX7_grips 23 = .ok (.getfield 23, 3) := by decide +kernel
theorem dX7_grips_26 : decode cX7_grips 26 = .ok (.aload_n 0, 1) := by decide +kernel
theorem dX7_grips_27 : decode cX7_grips 27 = .ok (.getfield 19, 3) := by decide +kernel
theorem dX7_grips_30 : decode cX7_grips 30 = .ok (.invokevirtual 95, 3) := by decide +kernel
theorem dX7_grips_33 : decode cX7_grips 33 = .ok (.iconst 0, 1) := by decide +kernel
theorem dX7_grips_34 : decode cX7_grips 34 = .ok (.istore_n 3, 1) := by decide +kernel
theorem dX7_grips_35 : decode cX7_grips 35 = .ok (.bipush (-4), 2) := by decide +kernel
theorem dX7_grips_37 : decode cX7_grips 37 = .ok (.istore 4, 2) := by decide +kernel
theorem dX7_grips_39 : decode cX7_grips 39 = .ok (.bipush 40, 2) := by decide +kernel
theorem dX7_grips_41 : decode cX7_grips 41 = .ok (.istore 5, 2) := by decide +kernel
theorem dX7_grips_43 : decode cX7_grips 43 = .ok (.iload 5, 2) := by decide +kernel
theorem dX7_grips_45 : decode cX7_grips 45 = .ok (.iconst 1, 1) := by decide +kernel
theorem dX7_grips_46 : decode cX7_grips 46 = .ok (.if_icmp .lt 40, 3) := by decide +kernel
theorem dX7_grips_49 : decode cX7_grips 49 = .ok (.aload_n 0, 1) := by decide +kernel
theorem dX7_grips_50 : decode cX7_grips 50 = .ok (.getfield 23, 3) := by decide +kernel
theorem dX7_grips_53 : decode cX7_grips 53 = .ok (.getfield 112, 3) := by decide +kernel
theorem dX7_grips_56 : decode cX7_grips 56 = .ok (.iload_n 1, 1) := by decide +kernel
theorem dX7_grips_57 : decode cX7_grips 57 = .ok (.iload 5, 2) := by decide +kernel
theorem dX7_grips_59 : decode cX7_grips 59 = .ok (.invokestatic 166, 3) := by decide +kernel
theorem dX7_grips_62 : decode cX7_grips 62 = .ok (.aload_n 0, 1) := by decide +kernel
theorem dX7_grips_63 : decode cX7_grips 63 = .ok (.aload_n 0, 1) := by decide +kernel
theorem dX7_grips_64 : decode cX7_grips 64 = .ok (.getfield 23, 3) := by decide +kernel
theorem dX7_grips_67 : decode cX7_grips 67 = .ok (.invokevirtual 250, 3) := by decide +kernel
theorem dX7_grips_70 : decode cX7_grips 70 = .ok (.ifCond .eq 10, 3) := by decide +kernel
theorem dX7_grips_73 : decode cX7_grips 73 = .ok (.iinc 3 1, 3) := by decide +kernel
theorem dX7_grips_76 : decode cX7_grips 76 = .ok (.iload 5, 2) := by decide +kernel
theorem dX7_grips_78 : decode cX7_grips 78 = .ok (.istore 4, 2) := by decide +kernel
theorem dX7_grips_80 : decode cX7_grips 80 = .ok (.iinc 5 (-1), 3) := by decide +kernel
theorem dX7_grips_83 : decode cX7_grips 83 = .ok (.goto (-40), 3) := by decide +kernel
theorem dX7_grips_86 : decode cX7_grips 86 = .ok (.iload_n 2, 1) := by decide +kernel
theorem dX7_grips_87 : decode cX7_grips 87 = .ok (.ifCond .ne 7, 3) := by decide +kernel
theorem dX7_grips_90 : decode cX7_grips 90 = .ok (.iload_n 3, 1) := by decide +kernel
theorem dX7_grips_91 : decode cX7_grips 91 = .ok (.goto 5, 3) := by decide +kernel
theorem dX7_grips_94 : decode cX7_grips 94 = .ok (.iload 4, 2) := by decide +kernel
theorem dX7_grips_96 : decode cX7_grips 96 = .ok (.ireturn, 1) := by decide +kernel
theorem dX7_likely_0 : decode cX7_likely 0 = .ok (.aload_n 0, 1) := by decide +kernel
theorem dX7_likely_1 : decode cX7_likely 1 = .ok (.getfield 19, 3) := by decide +kernel
theorem dX7_likely_4 : decode cX7_likely 4 = .ok (.iload_n 1, 1) := by decide +kernel
theorem dX7_likely_5 : decode cX7_likely 5 = .ok (.invokevirtual 101, 3) := by decide +kernel
theorem dX7_likely_8 : decode cX7_likely 8 = .ok (.ifCond .eq 22, 3) := by decide +kernel
theorem dX7_likely_11 : decode cX7_likely 11 = .ok (.iload_n 2, 1) := by decide +kernel
theorem dX7_likely_12 : decode cX7_likely 12 = .ok (.iconst 0, 1) := by decide +kernel
theorem dX7_likely_13 : decode cX7_likely 13 = .ok (.bipush 10, 2) := by decide +kernel
theorem dX7_likely_15 : decode cX7_likely 15 = .ok (.invokestatic 82, 3) := by decide +kernel
theorem dX7_likely_18 : decode cX7_likely 18 = .ok (.ifCond .eq 12, 3) := by decide +kernel
theorem dX7_likely_21 : decode cX7_likely 21 = .ok (.iload_n 3, 1) := by decide +kernel
theorem dX7_likely_22 : decode cX7_likely 22 = .ok (.iconst 0, 1) := by decide +kernel
theorem dX7_likely_23 : decode cX7_likely 23 = .ok (.iconst 1, 1) := by decide +kernel
theorem dX7_likely_24 : decode cX7_likely 24 = .ok (.invokestatic 82, 3) := by decide +kernel
theorem dX7_likely_27 : decode cX7_likely 27 = .ok (.ifCond .ne 5, 3) := by decide +kernel
theorem dX7_likely_30 : decode cX7_likely 30 = .ok (.iconst (-1), 1) := by decide +kernel
theorem dX7_likely_31 : decode cX7_likely 31 = .ok (.ireturn, 1) := by decide +kernel
theorem dX7_likely_32 : decode cX7_likely 32 = .ok (.iconst 0, 1) := by decide +kernel
theorem dX7_likely_33 : decode cX7_likely 33 = .ok (.istore 4, 2) := by decide +kernel
theorem dX7_likely_35 : decode cX7_likely 35 = .ok (.iconst 0, 1) := by decide +kernel
theorem dX7_likely_36 : decode cX7_likely 36 = .ok (.istore 5, 2) := by decide +kernel
theorem dX7_likely_38 : decode cX7_likely 38 = .ok (.aload_n 0, 1) := by decide +kernel
theorem dX7_likely_39 : decode cX7_likely 39 = .ok (.getfield 23, 3) := by decide +kernel
theorem dX7_likely_42 : decode cX7_likely 42 = .ok (.aload_n 0, 1) := by decide +kernel
theorem dX7_likely_43 : decode cX7_likely 43 = .ok (.getfield 19, 3) := by decide +kernel
theorem dX7_likely_46 : decode cX7_likely 46 = .ok (.invokevirtual 95, 3) := by decide +kernel
theorem dX7_likely_49 : decode cX7_likely 49 = .ok (.iconst 0, 1) := by decide +kernel
theorem dX7_likely_50 : decode cX7_likely 50 = .ok (.istore 6, 2) := by decide +kernel
theorem dX7_likely_52 : decode cX7_likely 52 = .ok (.iload 6, 2) := by decide +kernel
theorem dX7_likely_54 : decode cX7_likely 54 = .ok (.aload_n 0, 1) := by decide +kernel
theorem dX7_likely_55 : decode cX7_likely 55 = .ok (.getfield 19, 3) := by decide +kernel
theorem dX7_likely_58 : decode cX7_likely 58 = .ok (.invokevirtual 238, 3) := by decide +kernel
theorem dX7_likely_61 : decode cX7_likely 61 = .ok (.if_icmp .ge 70, 3) := by decide +kernel
theorem dX7_likely_64 : decode cX7_likely 64 = .ok (.aload_n 0, 1) := by decide +kernel
theorem dX7_likely_65 : decode cX7_likely 65 = .ok (.iload 6, 2) := by decide +kernel
theorem dX7_likely_67 : decode cX7_likely 67 = .ok (.iload_n 2, 1) := by decide +kernel
theorem dX7_likely_68 : decode cX7_likely 68 = .ok (.invokevirtual 253, 3) := by decide +kernel
theorem dX7_likely_71 : decode cX7_likely 71 = .ok (.istore 7, 2) := by decide +kernel
theorem dX7_likely_73 : decode cX7_likely 73 = .ok (.iload 5, 2) := by decide +kernel
theorem dX7_likely_75 : decode cX7_likely 75 = .ok (.iload 7, 2) := by decide +kernel
theorem dX7_likely_77 : decode cX7_likely 77 = .ok (.iadd, 1) := by decide +kernel
theorem dX7_likely_78 : decode cX7_likely 78 = .ok (.istore 5, 2) := by decide +kernel
theorem dX7_likely_80 : decode cX7_likely 80 = .ok (.aload_n 0, 1) := by decide +kernel
theorem dX7_likely_81 : decode cX7_likely 81 = .ok (.getfield 23, 3) := by decide +kernel
theorem dX7_likely_84 : decode cX7_likely 84 = .ok (.iload 6, 2) := by decide +kernel
theorem dX7_likely_86 : decode cX7_likely 86 = .ok (.putfield 118, 3) := by decide +kernel
theorem dX7_likely_89 : decode cX7_likely 89 = .ok (.aload_n 0, 1) := by decide +kernel
theorem dX7_likely_90 : decode cX7_likely 90 = .ok (.getfield 29, 3) := by decide +kernel
theorem dX7_likely_93 : decode cX7_likely 93 = .ok (.aload_n 0, 1) := by decide +kernel
theorem dX7_likely_94 : decode cX7_likely 94 = .ok (.getfield 23, 3) := by decide +kernel
theorem dX7_likely_97 : decode cX7_likely 97 = .ok (.invokevirtual 177, 3) := by decide +kernel
theorem dX7_likely_100 : decode cX7_likely 100 = .ok (.aload_n 0, 1) := by decide +kernel
theorem dX7_likely_101 : decode cX7_likely 101 = .ok (.getfield 29, 3) := by decide +kernel
theorem dX7_likely_104 : decode cX7_likely 104 = .ok (.getfield 183, 3) := by decide +kernel
theorem dX7_likely_107 : decode cX7_likely 107 = .ok (.getfield 256, 3) := by decide +kernel
theorem dX7_likely_110 : decode cX7_likely 110 = .ok (.iload_n 1, 1) := by decide +kernel
theorem dX7_likely_111 : decode cX7_likely 111 = .ok (.invokestatic 121, 3) := by decide +kernel
theorem dX7_likely_114 : decode cX7_likely 114 = .ok (.iconst 1, 1) := by decide +kernel
theorem dX7_likely_115 : decode cX7_likely 115 = .ok (.if_icmp .ne 10, 3) := by decide +kernel
theorem dX7_likely_118 : decode cX7_likely 118 = .ok (.iload 4, 2) := by decide +kernel
theorem dX7_likely_120 : decode cX7_likely 120 = .ok (.iload 7, 2) := by decide +kernel
theorem dX7_likely_122 : decode cX7_likely 122 = .ok (.iadd, 1) := by decide +kernel
theorem dX7_likely_123 : decode cX7_likely 123 = .ok (.istore 4, 2) := by decide +kernel
theorem dX7_likely_125 : decode cX7_likely 125 = .ok (.iinc 6 1, 3) := by decide +kernel
theorem dX7_likely_128 : decode cX7_likely 128 = .ok (.goto (-76), 3) := by decide +kernel
theorem dX7_likely_131 : decode cX7_likely 131 = .ok (.iload 4, 2) := by decide +kernel
theorem dX7_likely_133 : decode cX7_likely 133 = .ok (.iload 5, 2) := by decide +kernel
theorem dX7_likely_135 : decode cX7_likely 135 = .ok (.invokestatic 259, 3) := by decide +kernel
theorem dX7_likely_138 : decode cX7_likely 138 = .ok (.istore 6, 2) := by decide +kernel
theorem dX7_likely_140 : decode cX7_likely 140 = .ok (.iload 6, 2) := by decide +kernel
theorem dX7_likely_142 : decode cX7_likely 142 = .ok (.ifCond .ne 5, 3) := by decide +kernel
theorem dX7_likely_145 : decode cX7_likely 145 = .ok (.iconst (-1), 1) := by decide +kernel
theorem dX7_likely_146 : decode cX7_likely 146 = .ok (.ireturn, 1) := by decide +kernel
theorem dX7_likely_147 : decode cX7_likely 147 = .ok (.iload_n 3, 1) := by decide +kernel
theorem dX7_likely_148 : decode cX7_likely 148 = .ok (.ifCond .ne 11, 3) := by decide +kernel
theorem dX7_likely_151 : decode cX7_likely 151 = .ok (.iload 4, 2) := by decide +kernel
theorem dX7_likely_153 : decode cX7_likely 153 = .ok (.iload 6, 2) := by decide +kernel
theorem dX7_likely_155 : decode cX7_likely 155 = .ok (.idiv, 1) := by decide +kernel
theorem dX7_likely_156 : decode cX7_likely 156 = .ok (.goto 8, 3) := by decide +kernel
theorem dX7_likely_159 : decode cX7_likely 159 = .ok (.iload 5, 2) := by decide +kernel
theorem dX7_likely_161 : decode cX7_likely 161 = .ok (.iload 6, 2) := by decide +kernel
theorem dX7_likely_163 : decode cX7_likely 163 = .ok (.idiv, 1) := by decide +kernel
theorem dX7_likely_164 : decode cX7_likely 164 = .ok (.ireturn, 1) := by decide +kernel
theorem dX7_evenings_0 : decode cX7_evenings 0 = .ok (.iload_n 1, 1) := by decide +kernel
theorem dX7_evenings_1 : decode cX7_evenings 1 = .ok (.iconst 0, 1) := by decide +kernel
theorem dX7_evenings_2 : decode cX7_evenings 2 = .ok (.sipush 9999, 3) := by decide +kernel
theorem dX7_evenings_5 : decode cX7_evenings 5 = .ok (.invokestatic 82, 3) := by decide +kernel
theorem dX7_evenings_8 : decode cX7_evenings 8 = .ok (.ifCond .eq 22, 3) := by decide +kernel
theorem dX7_evenings_11 : decode cX7_evenings 11 = .ok (.iload_n 2, 1) := by decide +kernel
theorem dX7_evenings_12 : decode cX7_evenings 12 = .ok (.iconst 1, 1) := by decide +kernel
theorem dX7_evenings_13 : decode cX7_evenings 13 = .ok (.bipush 60, 2) := by decide +kernel
theorem dX7_evenings_15 : decode cX7_evenings 15 = .ok (.invokestatic 82, 3) := by decide +kernel
theorem dX7_evenings_18 : decode cX7_evenings 18 = .ok (.ifCond .eq 12, 3) := by decide +kernel
theorem dX7_evenings_21 : decode cX7_evenings 21 = .ok (.iload_n 3, 1) := by decide +kernel
theorem dX7_evenings_22 : decode cX7_evenings 22 = .ok (.iconst 0, 1) := by decide +kernel
theorem dX7_evenings_23 : decode cX7_evenings 23 = .ok (.iconst 2, 1) := by decide +kernel
theorem dX7_evenings_24 : decode cX7_evenings 24 = .ok (.invokestatic 82, 3) := by decide +kernel
theorem dX7_evenings_27 : decode cX7_evenings 27 = .ok (.ifCond .ne 5, 3) := by decide +kernel
theorem dX7_evenings_30 : decode cX7_evenings 30 = .ok (.iconst (-1), 1) := by decide +kernel
theorem dX7_evenings_31 : decode cX7_evenings 31 = .ok (.ireturn, 1) := by decide +kernel
theorem dX7_evenings_32 : decode cX7_evenings 32 = .ok (.iconst 0, 1) := by decide +kernel
theorem dX7_evenings_33 : decode cX7_evenings 33 = .ok (.istore 4, 2) := by decide +kernel
theorem dX7_evenings_35 : decode cX7_evenings 35 = .ok (.iconst 0, 1) := by decide +kernel
theorem dX7_evenings_36 : decode cX7_evenings 36 = .ok (.istore 5, 2) := by decide +kernel
theorem dX7_evenings_38 : decode cX7_evenings 38 = .ok (.iconst 0, 1) := by decide +kernel
theorem dX7_evenings_39 : decode cX7_evenings 39 = .ok (.istore 6, 2) := by decide +kernel
theorem dX7_evenings_41 : decode cX7_evenings 41 = .ok (.aload_n 0, 1) := by decide +kernel
theorem dX7_evenings_42 : decode cX7_evenings 42 = .ok (.getfield 23, 3) := by decide +kernel
theorem dX7_evenings_45 : decode cX7_evenings 45 = .ok (.aload_n 0, 1) := by decide +kernel
theorem dX7_evenings_46 : decode cX7_evenings 46 = .ok (.getfield 19, 3) := by decide +kernel
theorem dX7_evenings_49 : decode cX7_evenings 49 = .ok (.invokevirtual 95, 3) := by decide +kernel
theorem dX7_evenings_52 : decode cX7_evenings 52 = .ok (.iconst 0, 1) := by decide +kernel
theorem dX7_evenings_53 : decode cX7_evenings 53 = .ok (.istore 7, 2) := by decide +kernel
theorem dX7_evenings_55 : decode cX7_evenings 55 = .ok (.iload 7, 2) := by decide +kernel
theorem dX7_evenings_57 : decode cX7_evenings 57 = .ok (.iload_n 2, 1) := by decide +kernel
theorem dX7_evenings_58 : decode cX7_evenings 58 = .ok (.if_icmp .ge 83, 3) := by decide +kernel
theorem dX7_evenings_61 : decode cX7_evenings 61 = .ok (.aload_n 0, 1) := by decide +kernel
theorem dX7_evenings_62 : decode cX7_evenings 62 = .ok (.getfield 23, 3) := by decide +kernel
theorem dX7_evenings_65 : decode cX7_evenings 65 = .ok (.iload_n 1, 1) := by decide +kernel
theorem dX7_evenings_66 : decode cX7_evenings 66 = .ok (.iload 7, 2) := by decide +kernel
theorem dX7_evenings_68 : decode cX7_evenings 68 = .ok (.invokestatic 262, 3) := by decide +kernel
theorem dX7_evenings_71 : decode cX7_evenings 71 = .ok (.invokestatic 265, 3) := by decide +kernel
theorem dX7_evenings_74 : decode cX7_evenings 74 = .ok (.aload_n 0, 1) := by decide +kernel
theorem dX7_evenings_75 : decode cX7_evenings 75 = .ok (.getfield 29, 3) := by decide +kernel
theorem dX7_evenings_78 : decode cX7_evenings 78 = .ok (.aload_n 0, 1) := by decide +kernel
theorem dX7_evenings_79 : decode cX7_evenings 79 = .ok (.getfield 23, 3) := by decide +kernel
theorem dX7_evenings_82 : decode cX7_evenings 82 = .ok (.invokevirtual 177, 3) := by decide +kernel
theorem dX7_evenings_85 : decode cX7_evenings 85 = .ok (.iload 4, 2) := by decide +kernel
theorem dX7_evenings_87 : decode cX7_evenings 87 = .ok (.aload_n 0, 1) := by decide +kernel
theorem dX7_evenings_88 : decode cX7_evenings 88 = .ok (.getfield 29, 3) := by decide +kernel
theorem dX7_evenings_91 : decode cX7_evenings 91 = .ok (.getfield 183, 3) := by decide +kernel
theorem dX7_evenings_94 : decode cX7_evenings 94 = .ok (.getfield 256, 3) := by decide +kernel
theorem dX7_evenings_97 : decode cX7_evenings 97 = .ok (.invokestatic 209, 3) := by decide +kernel
theorem dX7_evenings_100 : decode cX7_evenings 100 = .ok (.iadd, 1) := by decide +kernel
theorem dX7_evenings_101 : decode cX7_evenings 101 = .ok (.istore 4, 2) := by decide +kernel
theorem dX7_evenings_103 : decode cX7_evenings 103 = .ok (.iload 5, 2) := by decide +kernel
theorem dX7_evenings_105 : decode cX7_evenings 105 = .ok (.aload_n 0, 1) := by decide +kernel
theorem dX7_evenings_106 : decode cX7_evenings 106 = .ok (.getfield 29, 3) := by decide +kernel
theorem dX7_evenings_109 : decode cX7_evenings 109 = .ok (.getfield 183, 3) := by decide +kernel
theorem dX7_evenings_112 : decode cX7_evenings 112 = .ok (.getfield 187, 3) := by decide +kernel
theorem dX7_evenings_115 : decode cX7_evenings 115 = .ok (.invokestatic 209, 3) := by decide +kernel
theorem dX7_evenings_118 : decode cX7_evenings 118 = .ok (.iadd, 1) := by decide +kernel
theorem dX7_evenings_119 : decode cX7_evenings 119 = .ok (.istore 5, 2) := by decide +kernel
theorem dX7_evenings_121 : decode cX7_evenings 121 = .ok (.iload 6, 2) := by decide +kernel
theorem dX7_evenings_123 : decode cX7_evenings 123 = .ok (.aload_n 0, 1) := by decide +kernel
theorem dX7_evenings_124 : decode cX7_evenings 124 = .ok (.getfield 29, 3) := by decide +kernel
theorem dX7_evenings_127 : decode cX7_evenings 127 = .ok (.getfield 195, 3) := by decide +kernel
theorem dX7_evenings_130 : decode cX7_evenings 130 = .ok (.invokestatic 245, 3) := by decide +kernel
theorem dX7_evenings_133 : decode cX7_evenings 133 = .ok (.istore 6, 2) := by decide +kernel
theorem dX7_evenings_135 : decode cX7_evenings 135 = .ok (.iinc 7 1, 3) := by decide +kernel
theorem dX7_evenings_138 : decode cX7_evenings 138 = .ok (.goto (-83), 3) := by decide +kernel
theorem dX7_evenings_141 : decode cX7_evenings 141 = .ok (.iload_n 3, 1) := by decide +kernel
theorem dX7_evenings_142 : decode cX7_evenings 142 = .ok (.lookupswitch 32 #[(0, 26), (1, 29)], 26) := by decide +kernel
theorem dX7_evenings_168 : decode cX7_evenings 168 = .ok (.iload 4, 2) := by decide +kernel
theorem dX7_evenings_170 : decode cX7_evenings 170 = .ok (.ireturn, 1) := by decide +kernel
theorem dX7_evenings_171 : decode cX7_evenings 171 = .ok (.iload 5, 2) := by decide +kernel
theorem dX7_evenings_173 : decode cX7_evenings 173 = .ok (.ireturn, 1) := by decide +kernel
theorem dX7_evenings_174 : decode cX7_evenings 174 = .ok (.iload 6, 2) := by decide +kernel
theorem dX7_evenings_176 : decode cX7_evenings 176 = .ok (.ireturn, 1) := by decide +kernel
theorem dX7_keep_0 : decode cX7_keep 0 = .ok (.aload_n 0, 1) := by decide +kernel
theorem dX7_keep_1 : decode cX7_keep 1 = .ok (.getfield 56, 3) := by decide +kernel
theorem dX7_keep_4 : decode cX7_keep 4 = .ok (.getfield 174, 3) := by decide +kernel
theorem dX7_keep_7 : decode cX7_keep 7 = .ok (.iconst 2, 1) := by decide +kernel
theorem dX7_keep_8 : decode cX7_keep 8 = .ok (.if_icmp .lt 6, 3) := by decide +kernel
theorem dX7_keep_11 : decode cX7_keep 11 = .ok (.bipush (-3), 2) := by decide +kernel
theorem dX7_keep_13 : decode cX7_keep 13 = .ok (.ireturn, 1) := by decide +kernel
theorem dX7_keep_14 : decode cX7_keep 14 = .ok (.aload_n 0, 1) := by decide +kernel
theorem dX7_keep_15 : decode cX7_keep 15 = .ok (.getfield 56, 3) := by decide +kernel
theorem dX7_keep_18 : decode cX7_keep 18 = .ok (.aload_n 0, 1) := by decide +kernel
theorem dX7_keep_19 : decode cX7_keep 19 = .ok (.getfield 19, 3) := by decide +kernel
theorem dX7_keep_22 : decode cX7_keep 22 = .ok (.invokevirtual 143, 3) := by decide +kernel
theorem dX7_keep_25 : decode cX7_keep 25 = .ok (.aload_n 0, 1) := by decide +kernel
theorem dX7_keep_26 : decode cX7_keep 26 = .ok (.getfield 56, 3) := by decide +kernel
theorem dX7_keep_29 : decode cX7_keep 29 = .ok (.getfield 174, 3) := by decide +kernel
theorem dX7_keep_32 : decode cX7_keep 32 = .ok (.ireturn, 1) := by decide +kernel
theorem dX7_back_0 : decode cX7_back 0 = .ok (.aload_n 0, 1) := by decide +kernel
theorem dX7_back_1 : decode cX7_back 1 = .ok (.getfield 56, 3) := by decide +kernel
theorem dX7_back_4 : decode cX7_back 4 = .ok (.aload_n 0, 1) := by decide +kernel
theorem dX7_back_5 : decode cX7_back 5 = .ok (.getfield 19, 3) := by decide +kernel
theorem dX7_back_8 : decode cX7_back 8 = .ok (.invokevirtual 170, 3) := by decide +kernel
theorem dX7_back_11 : decode cX7_back 11 = .ok (.ifCond .ne 6, 3) := by decide +kernel
theorem dX7_back_14 : decode cX7_back 14 = .ok (.bipush (-2), 2) := by decide +kernel
theorem dX7_back_16 : decode cX7_back 16 = .ok (.ireturn, 1) := by decide +kernel
theorem dX7_back_17 : decode cX7_back 17 = .ok (.aload_n 0, 1) := by decide +kernel
theorem dX7_back_18 : decode cX7_back 18 = .ok (.getfield 52, 3) := by decide +kernel
theorem dX7_back_21 : decode cX7_back 21 = .ok (.invokevirtual 100, 3) := by decide +kernel
theorem dX7_back_24 : decode cX7_back 24 = .ok (.aload_n 0, 1) := by decide +kernel
theorem dX7_back_25 : decode cX7_back 25 = .ok (.getfield 56, 3) := by decide +kernel
theorem dX7_back_28 : decode cX7_back 28 = .ok (.getfield 174, 3) := by decide +kernel
theorem dX7_back_31 : decode cX7_back 31 = .ok (.ireturn, 1) := by decide +kernel
theorem dX7_count_0 : decode cX7_count 0 = .ok (.iload_n 1, 1) := by decide +kernel
theorem dX7_count_1 : decode cX7_count 1 = .ok (.tableswitch 147 0 10 #[59, 67, 75, 83, 94, 102, 110, 115, 123, 131, 139], 59) := by decide +kernel
theorem dX7_count_60 : decode cX7_count 60 = .ok (.aload_n 0, 1) := by decide +kernel
theorem dX7_count_61 : decode cX7_count 61 = .ok (.getfield 19, 3) := by decide +kernel
theorem dX7_count_64 : decode cX7_count 64 = .ok (.getfield 89, 3) := by decide +kernel
theorem dX7_count_67 : decode cX7_count 67 = .ok (.ireturn, 1) := by decide +kernel
theorem dX7_count_68 : decode cX7_count 68 = .ok (.aload_n 0, 1) := by decide +kernel
theorem dX7_count_69 : decode cX7_count 69 = .ok (.getfield 19, 3) := by decide +kernel
theorem dX7_count_72 : decode cX7_count 72 = .ok (.getfield 92, 3) := by decide +kernel
theorem dX7_count_75 : decode cX7_count 75 = .ok (.ireturn, 1) := by decide +kernel
theorem dX7_count_76 : decode cX7_count 76 = .ok (.aload_n 0, 1) := by decide +kernel
theorem dX7_count_77 : decode cX7_count 77 = .ok (.getfield 19, 3) := by decide +kernel
theorem dX7_count_80 : decode cX7_count 80 = .ok (.getfield 153, 3) := by decide +kernel
theorem dX7_count_83 : decode cX7_count 83 = .ok (.ireturn, 1) := by decide +kernel
theorem dX7_count_84 : decode cX7_count 84 = .ok (.aload_n 0, 1) := by decide +kernel
theorem dX7_count_85 : decode cX7_count 85 = .ok (.getfield 19, 3) := by decide +kernel
theorem dX7_count_88 : decode cX7_count 88 = .ok (.getfield 118, 3) := by decide +kernel
theorem dX7_count_91 : decode cX7_count 91 = .ok (.invokestatic 209, 3) := by decide +kernel
theorem dX7_count_94 : decode cX7_count 94 = .ok (.ireturn, 1) := by decide +kernel
theorem dX7_count_95 : decode cX7_count 95 = .ok (.aload_n 0, 1) := by decide +kernel
theorem dX7_count_96 : decode cX7_count 96 = .ok (.getfield 19, 3) := by decide +kernel
theorem dX7_count_99 : decode cX7_count 99 = .ok (.invokevirtual 269, 3) := by decide +kernel
theorem dX7_count_102 : decode cX7_count 102 = .ok (.ireturn, 1) := by decide +kernel
theorem dX7_count_103 : decode cX7_count 103 = .ok (.aload_n 0, 1) := by decide +kernel
theorem dX7_count_104 : decode cX7_count 104 = .ok (.invokevirtual 272, 3) := by decide +kernel
theorem dX7_count_107 : decode cX7_count 107 = .ok (.invokestatic 209, 3) := by decide +kernel
theorem dX7_count_110 : decode cX7_count 110 = .ok (.ireturn, 1) := by decide +kernel
theorem dX7_count_111 : decode cX7_count 111 = .ok (.aload_n 0, 1) := by decide +kernel
theorem dX7_count_112 : decode cX7_count 112 = .ok (.invokevirtual 274, 3) := by decide +kernel
theorem dX7_count_115 : decode cX7_count 115 = .ok (.ireturn, 1) := by decide +kernel
theorem dX7_count_116 : decode cX7_count 116 = .ok (.aload_n 0, 1) := by decide +kernel
theorem dX7_count_117 : decode cX7_count 117 = .ok (.getfield 43, 3) := by decide +kernel
theorem dX7_count_120 : decode cX7_count 120 = .ok (.getfield 221, 3) := by decide +kernel
theorem dX7_count_123 : decode cX7_count 123 = .ok (.ireturn, 1) := by decide +kernel
theorem dX7_count_124 : decode cX7_count 124 = .ok (.aload_n 0, 1) := by decide +kernel
theorem dX7_count_125 : decode cX7_count 125 = .ok (.getfield 52, 3) := by decide +kernel
theorem dX7_count_128 : decode cX7_count 128 = .ok (.getfield 174, 3) := by decide +kernel
theorem dX7_count_131 : decode cX7_count 131 = .ok (.ireturn, 1) := by decide +kernel
theorem dX7_count_132 : decode cX7_count 132 = .ok (.aload_n 0, 1) := by decide +kernel
theorem dX7_count_133 : decode cX7_count 133 = .ok (.getfield 56, 3) := by decide +kernel
theorem dX7_count_136 : decode cX7_count 136 = .ok (.getfield 174, 3) := by decide +kernel
theorem dX7_count_139 : decode cX7_count 139 = .ok (.ireturn, 1) := by decide +kernel
theorem dX7_count_140 : decode cX7_count 140 = .ok (.aload_n 0, 1) := by decide +kernel
theorem dX7_count_141 : decode cX7_count 141 = .ok (.getfield 10, 3) := by decide +kernel
theorem dX7_count_144 : decode cX7_count 144 = .ok (.getfield 86, 3) := by decide +kernel
theorem dX7_count_147 : decode cX7_count 147 = .ok (.ireturn, 1) := by decide +kernel
theorem dX7_count_148 : decode cX7_count 148 = .ok (.iconst (-1), 1) := by decide +kernel
theorem dX7_count_149 : decode cX7_count 149 = .ok (.ireturn, 1) := by decide +kernel
theorem dX7_goneTonight_0 : decode cX7_goneTonight 0 = .ok (.aload_n 0, 1) := by decide +kernel
theorem dX7_goneTonight_1 : decode cX7_goneTonight 1 = .ok (.getfield 29, 3) := by decide +kernel
theorem dX7_goneTonight_4 : decode cX7_goneTonight 4 = .ok (.aload_n 0, 1) := by decide +kernel
theorem dX7_goneTonight_5 : decode cX7_goneTonight 5 = .ok (.getfield 19, 3) := by decide +kernel
theorem dX7_goneTonight_8 : decode cX7_goneTonight 8 = .ok (.invokevirtual 177, 3) := by decide +kernel
theorem dX7_goneTonight_11 : decode cX7_goneTonight 11 = .ok (.aload_n 0, 1) := by decide +kernel
theorem dX7_goneTonight_12 : decode cX7_goneTonight 12 = .ok (.getfield 29, 3) := by decide +kernel
theorem dX7_goneTonight_15 : decode cX7_goneTonight 15 = .ok (.getfield 183, 3) := by decide +kernel
theorem dX7_goneTonight_18 : decode cX7_goneTonight 18 = .ok (.getfield 256, 3) := by decide +kernel
theorem dX7_goneTonight_21 : decode cX7_goneTonight 21 = .ok (.invokestatic 209, 3) := by decide +kernel
theorem dX7_goneTonight_24 : decode cX7_goneTonight 24 = .ok (.ireturn, 1) := by decide +kernel
theorem dX7_fewestLeft_0 : decode cX7_fewestLeft 0 = .ok (.iconst 1, 1) := by decide +kernel
theorem dX7_fewestLeft_1 : decode cX7_fewestLeft 1 = .ok (.aload_n 0, 1) := by decide +kernel
theorem dX7_fewestLeft_2 : decode cX7_fewestLeft 2 = .ok (.getfield 19, 3) := by decide +kernel
theorem dX7_fewestLeft_5 : decode cX7_fewestLeft 5 = .ok (.getfield 153, 3) := by decide +kernel
theorem dX7_fewestLeft_8 : decode cX7_fewestLeft 8 = .ok (.ishl, 1) := by decide +kernel
theorem dX7_fewestLeft_9 : decode cX7_fewestLeft 9 = .ok (.iconst 1, 1) := by decide +kernel
theorem dX7_fewestLeft_10 : decode cX7_fewestLeft 10 = .ok (.isub, 1) := by decide +kernel
theorem dX7_fewestLeft_11 : decode cX7_fewestLeft 11 = .ok (.istore_n 2, 1) := by decide +kernel
theorem dX7_fewestLeft_12 : decode cX7_fewestLeft 12 = .ok (.iload_n 2, 1) := by decide +kernel
theorem dX7_fewestLeft_13 : decode cX7_fewestLeft 13 = .ok (.istore_n 3, 1) := by decide +kernel
theorem dX7_fewestLeft_14 : decode cX7_fewestLeft 14 = .ok (.iconst 0, 1) := by decide +kernel
theorem dX7_fewestLeft_15 : decode cX7_fewestLeft 15 = .ok (.istore 4, 2) := by decide +kernel
theorem dX7_fewestLeft_17 : decode cX7_fewestLeft 17 = .ok (.iload 4, 2) := by decide +kernel
theorem dX7_fewestLeft_19 : decode cX7_fewestLeft 19 = .ok (.iload_n 2, 1) := by decide +kernel
theorem dX7_fewestLeft_20 : decode cX7_fewestLeft 20 = .ok (.if_icmp .ge 34, 3) := by decide +kernel
theorem dX7_fewestLeft_23 : decode cX7_fewestLeft 23 = .ok (.iload 4, 2) := by decide +kernel
theorem dX7_fewestLeft_25 : decode cX7_fewestLeft 25 = .ok (.invokestatic 209, 3) := by decide +kernel
theorem dX7_fewestLeft_28 : decode cX7_fewestLeft 28 = .ok (.iload_n 3, 1) := by decide +kernel
theorem dX7_fewestLeft_29 : decode cX7_fewestLeft 29 = .ok (.invokestatic 209, 3) := by decide +kernel
theorem dX7_fewestLeft_32 : decode cX7_fewestLeft 32 = .ok (.if_icmp .ge 16, 3) := by decide +kernel
theorem dX7_fewestLeft_35 : decode cX7_fewestLeft 35 = .ok (.aload_n 0, 1) := by decide +kernel
theorem dX7_fewestLeft_36 : decode cX7_fewestLeft 36 = .ok (.iload_n 1, 1) := by decide +kernel
theorem dX7_fewestLeft_37 : decode cX7_fewestLeft 37 = .ok (.iload 4, 2) := by decide +kernel
theorem dX7_fewestLeft_39 : decode cX7_fewestLeft 39 = .ok (.invokevirtual 277, 3) := by decide +kernel
theorem dX7_fewestLeft_42 : decode cX7_fewestLeft 42 = .ok (.ifCond .ne 6, 3) := by decide +kernel
theorem dX7_fewestLeft_45 : decode cX7_fewestLeft 45 = .ok (.iload 4, 2) := by decide +kernel
theorem dX7_fewestLeft_47 : decode cX7_fewestLeft 47 = .ok (.istore_n 3, 1) := by decide +kernel
theorem dX7_fewestLeft_48 : decode cX7_fewestLeft 48 = .ok (.iinc 4 1, 3) := by decide +kernel
theorem dX7_fewestLeft_51 : decode cX7_fewestLeft 51 = .ok (.goto (-34), 3) := by decide +kernel
theorem dX7_fewestLeft_54 : decode cX7_fewestLeft 54 = .ok (.iload_n 3, 1) := by decide +kernel
theorem dX7_fewestLeft_55 : decode cX7_fewestLeft 55 = .ok (.ireturn, 1) := by decide +kernel
theorem dX7_letsGoWithout_0 : decode cX7_letsGoWithout 0 = .ok (.aload_n 0, 1) := by decide +kernel
theorem dX7_letsGoWithout_1 : decode cX7_letsGoWithout 1 = .ok (.getfield 29, 3) := by decide +kernel
theorem dX7_letsGoWithout_4 : decode cX7_letsGoWithout 4 = .ok (.getfield 183, 3) := by decide +kernel
theorem dX7_letsGoWithout_7 : decode cX7_letsGoWithout 7 = .ok (.astore_n 3, 1) := by decide +kernel
theorem dX7_letsGoWithout_8 : decode cX7_letsGoWithout 8 = .ok (.aload_n 3, 1) := by decide +kernel
theorem dX7_letsGoWithout_9 : decode cX7_letsGoWithout 9 = .ok (.invokevirtual 280, 3) := by decide +kernel
theorem dX7_letsGoWithout_12 : decode cX7_letsGoWithout 12 = .ok (.iconst 0, 1) := by decide +kernel
theorem dX7_letsGoWithout_13 : decode cX7_letsGoWithout 13 = .ok (.istore 4, 2) := by decide +kernel
theorem dX7_letsGoWithout_15 : decode cX7_letsGoWithout 15 = .ok (.iload 4, 2) := by decide +kernel
theorem dX7_letsGoWithout_17 : decode cX7_letsGoWithout 17 = .ok (.aload_n 0, 1) := by decide +kernel
theorem dX7_letsGoWithout_18 : decode cX7_letsGoWithout 18 = .ok (.getfield 19, 3) := by decide +kernel
theorem dX7_letsGoWithout_21 : decode cX7_letsGoWithout 21 = .ok (.getfield 153, 3) := by decide +kernel
theorem dX7_letsGoWithout_24 : decode cX7_letsGoWithout 24 = .ok (.if_icmp .ge 29, 3) := by decide +kernel
theorem dX7_letsGoWithout_27 : decode cX7_letsGoWithout 27 = .ok (.iload_n 2, 1) := by decide +kernel
theorem dX7_letsGoWithout_28 : decode cX7_letsGoWithout 28 = .ok (.iload 4, 2) := by decide +kernel
theorem dX7_letsGoWithout_30 : decode cX7_letsGoWithout 30 = .ok (.invokestatic 121, 3) := by decide +kernel
theorem dX7_letsGoWithout_33 : decode cX7_letsGoWithout 33 = .ok (.ifCond .ne 14, 3) := by decide +kernel
theorem dX7_letsGoWithout_36 : decode cX7_letsGoWithout 36 = .ok (.aload_n 3, 1) := by decide +kernel
theorem dX7_letsGoWithout_37 : decode cX7_letsGoWithout 37 = .ok (.aload_n 0, 1) := by decide +kernel
theorem dX7_letsGoWithout_38 : decode cX7_letsGoWithout 38 = .ok (.getfield 19, 3) := by decide +kernel
theorem dX7_letsGoWithout_41 : decode cX7_letsGoWithout 41 = .ok (.iload 4, 2) := by decide +kernel
theorem dX7_letsGoWithout_43 : decode cX7_letsGoWithout 43 = .ok (.invokevirtual 283, 3) := by decide +kernel
theorem dX7_letsGoWithout_46 : decode cX7_letsGoWithout 46 = .ok (.pop, 1) := by decide +kernel
theorem dX7_letsGoWithout_47 : decode cX7_letsGoWithout 47 = .ok (.iinc 4 1, 3) := by decide +kernel
theorem dX7_letsGoWithout_50 : decode cX7_letsGoWithout 50 = .ok (.goto (-35), 3) := by decide +kernel
theorem dX7_letsGoWithout_53 : decode cX7_letsGoWithout 53 = .ok (.aload_n 3, 1) := by decide +kernel
theorem dX7_letsGoWithout_54 : decode cX7_letsGoWithout 54 = .ok (.getfield 256, 3) := by decide +kernel
theorem dX7_letsGoWithout_57 : decode cX7_letsGoWithout 57 = .ok (.iload_n 1, 1) := by decide +kernel
theorem dX7_letsGoWithout_58 : decode cX7_letsGoWithout 58 = .ok (.invokestatic 121, 3) := by decide +kernel
theorem dX7_letsGoWithout_61 : decode cX7_letsGoWithout 61 = .ok (.iconst 1, 1) := by decide +kernel
theorem dX7_letsGoWithout_62 : decode cX7_letsGoWithout 62 = .ok (.if_icmp .ne 7, 3) := by decide +kernel
theorem dX7_letsGoWithout_65 : decode cX7_letsGoWithout 65 = .ok (.iconst 1, 1) := by decide +kernel
theorem dX7_letsGoWithout_66 : decode cX7_letsGoWithout 66 = .ok (.goto 4, 3) := by decide +kernel
theorem dX7_letsGoWithout_69 : decode cX7_letsGoWithout 69 = .ok (.iconst 0, 1) := by decide +kernel
theorem dX7_letsGoWithout_70 : decode cX7_letsGoWithout 70 = .ok (.ireturn, 1) := by decide +kernel
theorem dX7_goneIfHeldBy_0 : decode cX7_goneIfHeldBy 0 = .ok (.aload_n 0, 1) := by decide +kernel
theorem dX7_goneIfHeldBy_1 : decode cX7_goneIfHeldBy 1 = .ok (.getfield 23, 3) := by decide +kernel
theorem dX7_goneIfHeldBy_4 : decode cX7_goneIfHeldBy 4 = .ok (.aload_n 0, 1) := by decide +kernel
theorem dX7_goneIfHeldBy_5 : decode cX7_goneIfHeldBy 5 = .ok (.getfield 19, 3) := by decide +kernel
theorem dX7_goneIfHeldBy_8 : decode cX7_goneIfHeldBy 8 = .ok (.invokevirtual 95, 3) := by decide +kernel
theorem dX7_goneIfHeldBy_11 : decode cX7_goneIfHeldBy 11 = .ok (.iconst 0, 1) := by decide +kernel
theorem dX7_goneIfHeldBy_12 : decode cX7_goneIfHeldBy 12 = .ok (.istore_n 3, 1) := by decide +kernel
theorem dX7_goneIfHeldBy_13 : decode cX7_goneIfHeldBy 13 = .ok (.iload_n 3, 1) := by decide +kernel
theorem dX7_goneIfHeldBy_14 : decode cX7_goneIfHeldBy 14 = .ok (.aload_n 0, 1) := by decide +kernel
theorem dX7_goneIfHeldBy_15 : decode cX7_goneIfHeldBy 15 = .ok (.getfield 23, 3) := by decide +kernel
theorem dX7_goneIfHeldBy_18 : decode cX7_goneIfHeldBy 18 = .ok (.getfield 153, 3) := by decide +kernel
theorem dX7_goneIfHeldBy_21 : decode cX7_goneIfHeldBy 21 = .ok (.if_icmp .ge 36, 3) := by decide +kernel
theorem dX7_goneIfHeldBy_24 : decode cX7_goneIfHeldBy 24 = .ok (.aload_n 0, 1) := by decide +kernel
theorem dX7_goneIfHeldBy_25 : decode cX7_goneIfHeldBy 25 = .ok (.getfield 23, 3) := by decide +kernel
theorem dX7_goneIfHeldBy_28 : decode cX7_goneIfHeldBy 28 = .ok (.getfield 128, 3) := by decide +kernel
theorem dX7_goneIfHeldBy_31 : decode cX7_goneIfHeldBy 31 = .ok (.iload_n 3, 1) := by decide +kernel
theorem dX7_goneIfHeldBy_32 : decode cX7_goneIfHeldBy 32 = .ok (.invokestatic 108, 3) := by decide +kernel
theorem dX7_goneIfHeldBy_35 : decode cX7_goneIfHeldBy 35 = .ok (.iload_n 1, 1) := by decide +kernel
theorem dX7_goneIfHeldBy_36 : decode cX7_goneIfHeldBy 36 = .ok (.if_icmp .ne 15, 3) := by decide +kernel
theorem dX7_goneIfHeldBy_39 : decode cX7_goneIfHeldBy 39 = .ok (.aload_n 0, 1) := by decide +kernel
theorem dX7_goneIfHeldBy_40 : decode cX7_goneIfHeldBy 40 = .ok (.getfield 23, 3) := by decide +kernel
theorem dX7_goneIfHeldBy_43 : decode cX7_goneIfHeldBy 43 = .ok (.getfield 128, 3) := by decide +kernel
theorem dX7_goneIfHeldBy_46 : decode cX7_goneIfHeldBy 46 = .ok (.iload_n 3, 1) := by decide +kernel
theorem dX7_goneIfHeldBy_47 : decode cX7_goneIfHeldBy 47 = .ok (.iload_n 2, 1) := by decide +kernel
theorem dX7_goneIfHeldBy_48 : decode cX7_goneIfHeldBy 48 = .ok (.invokestatic 166, 3) := by decide +kernel
theorem dX7_goneIfHeldBy_51 : decode cX7_goneIfHeldBy 51 = .ok (.iinc 3 1, 3) := by decide +kernel
theorem dX7_goneIfHeldBy_54 : decode cX7_goneIfHeldBy 54 = .ok (.goto (-41), 3) := by decide +kernel
theorem dX7_goneIfHeldBy_57 : decode cX7_goneIfHeldBy 57 = .ok (.aload_n 0, 1) := by decide +kernel
theorem dX7_goneIfHeldBy_58 : decode cX7_goneIfHeldBy 58 = .ok (.getfield 29, 3) := by decide +kernel
theorem dX7_goneIfHeldBy_61 : decode cX7_goneIfHeldBy 61 = .ok (.aload_n 0, 1) := by decide +kernel
theorem dX7_goneIfHeldBy_62 : decode cX7_goneIfHeldBy 62 = .ok (.getfield 23, 3) := by decide +kernel
theorem dX7_goneIfHeldBy_65 : decode cX7_goneIfHeldBy 65 = .ok (.invokevirtual 177, 3) := by decide +kernel
theorem dX7_goneIfHeldBy_68 : decode cX7_goneIfHeldBy 68 = .ok (.aload_n 0, 1) := by decide +kernel
theorem dX7_goneIfHeldBy_69 : decode cX7_goneIfHeldBy 69 = .ok (.getfield 29, 3) := by decide +kernel
theorem dX7_goneIfHeldBy_72 : decode cX7_goneIfHeldBy 72 = .ok (.getfield 183, 3) := by decide +kernel
theorem dX7_goneIfHeldBy_75 : decode cX7_goneIfHeldBy 75 = .ok (.getfield 256, 3) := by decide +kernel
theorem dX7_goneIfHeldBy_78 : decode cX7_goneIfHeldBy 78 = .ok (.invokestatic 209, 3) := by decide +kernel
theorem dX7_goneIfHeldBy_81 : decode cX7_goneIfHeldBy 81 = .ok (.ireturn, 1) := by decide +kernel
theorem dX7_fits_0 : decode cX7_fits 0 = .ok (.aload_n 0, 1) := by decide +kernel
theorem dX7_fits_1 : decode cX7_fits 1 = .ok (.getfield 29, 3) := by decide +kernel
theorem dX7_fits_4 : decode cX7_fits 4 = .ok (.aload_n 1, 1) := by decide +kernel
theorem dX7_fits_5 : decode cX7_fits 5 = .ok (.invokevirtual 177, 3) := by decide +kernel
theorem dX7_fits_8 : decode cX7_fits 8 = .ok (.aload_n 0, 1) := by decide +kernel
theorem dX7_fits_9 : decode cX7_fits 9 = .ok (.getfield 43, 3) := by decide +kernel
theorem dX7_fits_12 : decode cX7_fits 12 = .ok (.aload_n 0, 1) := by decide +kernel
theorem dX7_fits_13 : decode cX7_fits 13 = .ok (.getfield 29, 3) := by decide +kernel
theorem dX7_fits_16 : decode cX7_fits 16 = .ok (.invokevirtual 287, 3) := by decide +kernel
theorem dX7_fits_19 : decode cX7_fits 19 = .ok (.ireturn, 1) := by decide +kernel
theorem dX7_fittingWorlds_0 : decode cX7_fittingWorlds 0 = .ok (.aload_n 0, 1) := by decide +kernel
theorem dX7_fittingWorlds_1 : decode cX7_fittingWorlds 1 = .ok (.getfield 23, 3) := by decide +kernel
theorem dX7_fittingWorlds_4 : decode cX7_fittingWorlds 4 = .ok (.aload_n 0, 1) := by decide +kernel
theorem dX7_fittingWorlds_5 : decode cX7_fittingWorlds 5 = .ok (.getfield 19, 3) := by decide +kernel
theorem dX7_fittingWorlds_8 : decode cX7_fittingWorlds 8 = .ok (.invokevirtual 95, 3) := by decide +kernel
theorem dX7_fittingWorlds_11 : decode cX7_fittingWorlds 11 = .ok (.lconst 0, 1) := by decide +kernel
theorem dX7_fittingWorlds_12 : decode cX7_fittingWorlds 12 = .ok (.lstore_n 1, 1) := by decide +kernel
theorem dX7_fittingWorlds_13 : decode cX7_fittingWorlds 13 = .ok (.iconst 0, 1) := by decide +kernel
theorem dX7_fittingWorlds_14 : decode cX7_fittingWorlds 14 = .ok (.istore_n 3, 1) := by decide +kernel
theorem dX7_fittingWorlds_15 : decode cX7_fittingWorlds 15 = .ok (.iload_n 3, 1) := by decide +kernel
theorem dX7_fittingWorlds_16 : decode cX7_fittingWorlds 16 = .ok (.aload_n 0, 1) := by decide +kernel
theorem dX7_fittingWorlds_17 : decode cX7_fittingWorlds 17 = .ok (.getfield 19, 3) := by decide +kernel
theorem dX7_fittingWorlds_20 : decode cX7_fittingWorlds 20 = .ok (.invokevirtual 238, 3) := by decide +kernel
theorem dX7_fittingWorlds_23 : decode cX7_fittingWorlds 23 = .ok (.if_icmp .ge 34, 3) := by decide +kernel
theorem dX7_fittingWorlds_26 : decode cX7_fittingWorlds 26 = .ok (.aload_n 0, 1) := by decide +kernel
theorem dX7_fittingWorlds_27 : decode cX7_fittingWorlds 27 = .ok (.getfield 23, 3) := by decide +kernel
theorem dX7_fittingWorlds_30 : decode cX7_fittingWorlds 30 = .ok (.iload_n 3, 1) := by decide +kernel
theorem dX7_fittingWorlds_31 : decode cX7_fittingWorlds 31 = .ok (.putfield 118, 3) := by decide +kernel
theorem dX7_fittingWorlds_34 : decode cX7_fittingWorlds 34 = .ok (.aload_n 0, 1) := by decide +kernel
theorem dX7_fittingWorlds_35 : decode cX7_fittingWorlds 35 = .ok (.aload_n 0, 1) := by decide +kernel
theorem dX7_fittingWorlds_36 : decode cX7_fittingWorlds 36 = .ok (.getfield 23, 3) := by decide +kernel
theorem dX7_fittingWorlds_39 : decode cX7_fittingWorlds 39 = .ok (.invokevirtual 250, 3) := by decide +kernel
theorem dX7_fittingWorlds_42 : decode cX7_fittingWorlds 42 = .ok (.ifCond .eq 9, 3) := by decide +kernel
theorem dX7_fittingWorlds_45 : decode cX7_fittingWorlds 45 = .ok (.lload_n 1, 1) := by decide +kernel
theorem dX7_fittingWorlds_46 : decode cX7_fittingWorlds 46 = .ok (.lconst 1, 1) := by decide +kernel
theorem dX7_fittingWorlds_47 : decode cX7_fittingWorlds 47 = .ok (.iload_n 3, 1) := by decide +kernel
theorem dX7_fittingWorlds_48 : decode cX7_fittingWorlds 48 = .ok (.lshl, 1) := by decide +kernel
theorem dX7_fittingWorlds_49 : decode cX7_fittingWorlds 49 = .ok (.lor, 1) := by decide +kernel
theorem dX7_fittingWorlds_50 : decode cX7_fittingWorlds 50 = .ok (.lstore_n 1, 1) := by decide +kernel
theorem dX7_fittingWorlds_51 : decode cX7_fittingWorlds 51 = .ok (.iinc 3 1, 3) := by decide +kernel
theorem dX7_fittingWorlds_54 : decode cX7_fittingWorlds 54 = .ok (.goto (-39), 3) := by decide +kernel
theorem dX7_fittingWorlds_57 : decode cX7_fittingWorlds 57 = .ok (.lload_n 1, 1) := by decide +kernel
theorem dX7_fittingWorlds_58 : decode cX7_fittingWorlds 58 = .ok (.lreturn, 1) := by decide +kernel
theorem dX7_lowestWorld_0 : decode cX7_lowestWorld 0 = .ok (.iconst 0, 1) := by decide +kernel
theorem dX7_lowestWorld_1 : decode cX7_lowestWorld 1 = .ok (.istore_n 3, 1) := by decide +kernel
theorem dX7_lowestWorld_2 : decode cX7_lowestWorld 2 = .ok (.iload_n 3, 1) := by decide +kernel
theorem dX7_lowestWorld_3 : decode cX7_lowestWorld 3 = .ok (.aload_n 0, 1) := by decide +kernel
theorem dX7_lowestWorld_4 : decode cX7_lowestWorld 4 = .ok (.getfield 19, 3) := by decide +kernel
theorem dX7_lowestWorld_7 : decode cX7_lowestWorld 7 = .ok (.invokevirtual 238, 3) := by decide +kernel
theorem dX7_lowestWorld_10 : decode cX7_lowestWorld 10 = .ok (.if_icmp .ge 19, 3) := by decide +kernel
theorem dX7_lowestWorld_13 : decode cX7_lowestWorld 13 = .ok (.lload_n 1, 1) := by decide +kernel
theorem dX7_lowestWorld_14 : decode cX7_lowestWorld 14 = .ok (.iload_n 3, 1) := by decide +kernel
theorem dX7_lowestWorld_15 : decode cX7_lowestWorld 15 = .ok (.invokestatic 291, 3) := by decide +kernel
theorem dX7_lowestWorld_18 : decode cX7_lowestWorld 18 = .ok (.ifCond .eq 5, 3) := by decide +kernel
theorem dX7_lowestWorld_21 : decode cX7_lowestWorld 21 = .ok (.iload_n 3, 1) := by decide +kernel
theorem dX7_lowestWorld_22 : decode cX7_lowestWorld 22 = .ok (.ireturn, 1) := by decide +kernel
theorem dX7_lowestWorld_23 : decode cX7_lowestWorld 23 = .ok (.iinc 3 1, 3) := by decide +kernel
theorem dX7_lowestWorld_26 : decode cX7_lowestWorld 26 = .ok (.goto (-24), 3) := by decide +kernel
theorem dX7_lowestWorld_29 : decode cX7_lowestWorld 29 = .ok (.bipush (-4), 2) := by decide +kernel
theorem dX7_lowestWorld_31 : decode cX7_lowestWorld 31 = .ok (.ireturn, 1) := by decide +kernel
theorem dX7_isIn_0 : decode cX7_isIn 0 = .ok (.lload_n 0, 1) := by decide +kernel
theorem dX7_isIn_1 : decode cX7_isIn 1 = .ok (.iload_n 2, 1) := by decide +kernel
theorem dX7_isIn_2 : decode cX7_isIn 2 = .ok (.lshr, 1) := by decide +kernel
theorem dX7_isIn_3 : decode cX7_isIn 3 = .ok (.lconst 1, 1) := by decide +kernel
theorem dX7_isIn_4 : decode cX7_isIn 4 = .ok (.land, 1) := by decide +kernel
theorem dX7_isIn_5 : decode cX7_isIn 5 = .ok (.lconst 1, 1) := by decide +kernel
theorem dX7_isIn_6 : decode cX7_isIn 6 = .ok (.lcmp, 1) := by decide +kernel
theorem dX7_isIn_7 : decode cX7_isIn 7 = .ok (.ifCond .ne 7, 3) := by decide +kernel
theorem dX7_isIn_10 : decode cX7_isIn 10 = .ok (.iconst 1, 1) := by decide +kernel
theorem dX7_isIn_11 : decode cX7_isIn 11 = .ok (.goto 4, 3) := by decide +kernel
theorem dX7_isIn_14 : decode cX7_isIn 14 = .ok (.iconst 0, 1) := by decide +kernel
theorem dX7_isIn_15 : decode cX7_isIn 15 = .ok (.ireturn, 1) := by decide +kernel
theorem dX7_sureFacts_0 : decode cX7_sureFacts 0 = .ok (.aload_n 0, 1) := by decide +kernel
theorem dX7_sureFacts_1 : decode cX7_sureFacts 1 = .ok (.getfield 19, 3) := by decide +kernel
theorem dX7_sureFacts_4 : decode cX7_sureFacts 4 = .ok (.invokevirtual 238, 3) := by decide +kernel
theorem dX7_sureFacts_7 : decode cX7_sureFacts 7 = .ok (.iconst 1, 1) := by decide +kernel
theorem dX7_sureFacts_8 : decode cX7_sureFacts 8 = .ok (.isub, 1) := by decide +kernel
theorem dX7_sureFacts_9 : decode cX7_sureFacts 9 = .ok (.istore 4, 2) := by decide +kernel
theorem dX7_sureFacts_11 : decode cX7_sureFacts 11 = .ok (.iconst 0, 1) := by decide +kernel
theorem dX7_sureFacts_12 : decode cX7_sureFacts 12 = .ok (.istore 5, 2) := by decide +kernel
theorem dX7_sureFacts_14 : decode cX7_sureFacts 14 = .ok (.iload 5, 2) := by decide +kernel
theorem dX7_sureFacts_16 : decode cX7_sureFacts 16 = .ok (.aload_n 0, 1) := by decide +kernel
theorem dX7_sureFacts_17 : decode cX7_sureFacts 17 = .ok (.getfield 19, 3) := by decide +kernel
theorem dX7_sureFacts_20 : decode cX7_sureFacts 20 = .ok (.invokevirtual 238, 3) := by decide +kernel
theorem dX7_sureFacts_23 : decode cX7_sureFacts 23 = .ok (.if_icmp .ge 27, 3) := by decide +kernel
theorem dX7_sureFacts_26 : decode cX7_sureFacts 26 = .ok (.lload_n 1, 1) := by decide +kernel
theorem dX7_sureFacts_27 : decode cX7_sureFacts 27 = .ok (.iload 5, 2) := by decide +kernel
theorem dX7_sureFacts_29 : decode cX7_sureFacts 29 = .ok (.invokestatic 291, 3) := by decide +kernel
theorem dX7_sureFacts_32 : decode cX7_sureFacts 32 = .ok (.ifCond .eq 12, 3) := by decide +kernel
theorem dX7_sureFacts_35 : decode cX7_sureFacts 35 = .ok (.iload 4, 2) := by decide +kernel
theorem dX7_sureFacts_37 : decode cX7_sureFacts 37 = .ok (.iload 5, 2) := by decide +kernel
theorem dX7_sureFacts_39 : decode cX7_sureFacts 39 = .ok (.iload_n 3, 1) := by decide +kernel
theorem dX7_sureFacts_40 : decode cX7_sureFacts 40 = .ok (.ixor, 1) := by decide +kernel
theorem dX7_sureFacts_41 : decode cX7_sureFacts 41 = .ok (.iand, 1) := by decide +kernel
theorem dX7_sureFacts_42 : decode cX7_sureFacts 42 = .ok (.istore 4, 2) := by decide +kernel
theorem dX7_sureFacts_44 : decode cX7_sureFacts 44 = .ok (.iinc 5 1, 3) := by decide +kernel
theorem dX7_sureFacts_47 : decode cX7_sureFacts 47 = .ok (.goto (-33), 3) := by decide +kernel
theorem dX7_sureFacts_50 : decode cX7_sureFacts 50 = .ok (.iload 4, 2) := by decide +kernel
theorem dX7_sureFacts_52 : decode cX7_sureFacts 52 = .ok (.ireturn, 1) := by decide +kernel
theorem dX7_worldsOfDrop_0 : decode cX7_worldsOfDrop 0 = .ok (.aload_n 0, 1) := by decide +kernel
theorem dX7_worldsOfDrop_1 : decode cX7_worldsOfDrop 1 = .ok (.getfield 23, 3) := by decide +kernel
theorem dX7_worldsOfDrop_4 : decode cX7_worldsOfDrop 4 = .ok (.aload_n 0, 1) := by decide +kernel
theorem dX7_worldsOfDrop_5 : decode cX7_worldsOfDrop 5 = .ok (.getfield 19, 3) := by decide +kernel
theorem dX7_worldsOfDrop_8 : decode cX7_worldsOfDrop 8 = .ok (.invokevirtual 95, 3) := by decide +kernel
theorem dX7_worldsOfDrop_11 : decode cX7_worldsOfDrop 11 = .ok (.aload_n 0, 1) := by decide +kernel
theorem dX7_worldsOfDrop_12 : decode cX7_worldsOfDrop 12 = .ok (.getfield 23, 3) := by decide +kernel
theorem dX7_worldsOfDrop_15 : decode cX7_worldsOfDrop 15 = .ok (.iload_n 3, 1) := by decide +kernel
theorem dX7_worldsOfDrop_16 : decode cX7_worldsOfDrop 16 = .ok (.iload 4, 2) := by decide +kernel
theorem dX7_worldsOfDrop_18 : decode cX7_worldsOfDrop 18 = .ok (.iconst 1, 1) := by decide +kernel
theorem dX7_worldsOfDrop_19 : decode cX7_worldsOfDrop 19 = .ok (.iload 5, 2) := by decide +kernel
theorem dX7_worldsOfDrop_21 : decode cX7_worldsOfDrop 21 = .ok (.invokevirtual 156, 3) := by decide +kernel
theorem dX7_worldsOfDrop_24 : decode cX7_worldsOfDrop 24 = .ok (.pop, 1) := by decide +kernel
theorem dX7_worldsOfDrop_25 : decode cX7_worldsOfDrop 25 = .ok (.iconst 0, 1) := by decide +kernel
theorem dX7_worldsOfDrop_26 : decode cX7_worldsOfDrop 26 = .ok (.istore 6, 2) := by decide +kernel
theorem dX7_worldsOfDrop_28 : decode cX7_worldsOfDrop 28 = .ok (.iconst 0, 1) := by decide +kernel
theorem dX7_worldsOfDrop_29 : decode cX7_worldsOfDrop 29 = .ok (.istore 7, 2) := by decide +kernel
theorem dX7_worldsOfDrop_31 : decode cX7_worldsOfDrop 31 = .ok (.iload 7, 2) := by decide +kernel
theorem dX7_worldsOfDrop_33 : decode cX7_worldsOfDrop 33 = .ok (.aload_n 0, 1) := by decide +kernel
theorem dX7_worldsOfDrop_34 : decode cX7_worldsOfDrop 34 = .ok (.getfield 19, 3) := by decide +kernel
theorem dX7_worldsOfDrop_37 : decode cX7_worldsOfDrop 37 = .ok (.invokevirtual 238, 3) := by decide +kernel
theorem dX7_worldsOfDrop_40 : decode cX7_worldsOfDrop 40 = .ok (.if_icmp .ge 62, 3) := by decide +kernel
theorem dX7_worldsOfDrop_43 : decode cX7_worldsOfDrop 43 = .ok (.lload_n 1, 1) := by decide +kernel
theorem dX7_worldsOfDrop_44 : decode cX7_worldsOfDrop 44 = .ok (.iload 7, 2) := by decide +kernel
theorem dX7_worldsOfDrop_46 : decode cX7_worldsOfDrop 46 = .ok (.invokestatic 291, 3) := by decide +kernel
theorem dX7_worldsOfDrop_49 : decode cX7_worldsOfDrop 49 = .ok (.ifCond .eq 47, 3) := by decide +kernel
theorem dX7_worldsOfDrop_52 : decode cX7_worldsOfDrop 52 = .ok (.aload_n 0, 1) := by decide +kernel
theorem dX7_worldsOfDrop_53 : decode cX7_worldsOfDrop 53 = .ok (.getfield 23, 3) := by decide +kernel
theorem dX7_worldsOfDrop_56 : decode cX7_worldsOfDrop 56 = .ok (.iload 7, 2) := by decide +kernel
theorem dX7_worldsOfDrop_58 : decode cX7_worldsOfDrop 58 = .ok (.putfield 118, 3) := by decide +kernel
theorem dX7_worldsOfDrop_61 : decode cX7_worldsOfDrop 61 = .ok (.aload_n 0, 1) := by decide +kernel
theorem dX7_worldsOfDrop_62 : decode cX7_worldsOfDrop 62 = .ok (.getfield 29, 3) := by decide +kernel
theorem dX7_worldsOfDrop_65 : decode cX7_worldsOfDrop 65 = .ok (.aload_n 0, 1) := by decide +kernel
theorem dX7_worldsOfDrop_66 : decode cX7_worldsOfDrop 66 = .ok (.getfield 23, 3) := by decide +kernel
theorem dX7_worldsOfDrop_69 : decode cX7_worldsOfDrop 69 = .ok (.invokevirtual 177, 3) := by decide +kernel
theorem dX7_worldsOfDrop_72 : decode cX7_worldsOfDrop 72 = .ok (.aload_n 0, 1) := by decide +kernel
theorem dX7_worldsOfDrop_73 : decode cX7_worldsOfDrop 73 = .ok (.getfield 29, 3) := by decide +kernel
theorem dX7_worldsOfDrop_76 : decode cX7_worldsOfDrop 76 = .ok (.getfield 180, 3) := by decide +kernel
theorem dX7_worldsOfDrop_79 : decode cX7_worldsOfDrop 79 = .ok (.iload_n 3, 1) := by decide +kernel
theorem dX7_worldsOfDrop_80 : decode cX7_worldsOfDrop 80 = .ok (.invokestatic 108, 3) := by decide +kernel
theorem dX7_worldsOfDrop_83 : decode cX7_worldsOfDrop 83 = .ok (.aload_n 0, 1) := by decide +kernel
theorem dX7_worldsOfDrop_84 : decode cX7_worldsOfDrop 84 = .ok (.getfield 19, 3) := by decide +kernel
theorem dX7_worldsOfDrop_87 : decode cX7_worldsOfDrop 87 = .ok (.getfield 153, 3) := by decide +kernel
theorem dX7_worldsOfDrop_90 : decode cX7_worldsOfDrop 90 = .ok (.if_icmp .ne 6, 3) := by decide +kernel
theorem dX7_worldsOfDrop_93 : decode cX7_worldsOfDrop 93 = .ok (.iinc 6 1, 3) := by decide +kernel
theorem dX7_worldsOfDrop_96 : decode cX7_worldsOfDrop 96 = .ok (.iinc 7 1, 3) := by decide +kernel
theorem dX7_worldsOfDrop_99 : decode cX7_worldsOfDrop 99 = .ok (.goto (-68), 3) := by decide +kernel
theorem dX7_worldsOfDrop_102 : decode cX7_worldsOfDrop 102 = .ok (.iload 6, 2) := by decide +kernel
theorem dX7_worldsOfDrop_104 : decode cX7_worldsOfDrop 104 = .ok (.ireturn, 1) := by decide +kernel
theorem dX7_chanceOf_0 : decode cX7_chanceOf 0 = .ok (.iconst 1, 1) := by decide +kernel
theorem dX7_chanceOf_1 : decode cX7_chanceOf 1 = .ok (.istore_n 3, 1) := by decide +kernel
theorem dX7_chanceOf_2 : decode cX7_chanceOf 2 = .ok (.iconst 0, 1) := by decide +kernel
theorem dX7_chanceOf_3 : decode cX7_chanceOf 3 = .ok (.istore 4, 2) := by decide +kernel
theorem dX7_chanceOf_5 : decode cX7_chanceOf 5 = .ok (.iload 4, 2) := by decide +kernel
theorem dX7_chanceOf_7 : decode cX7_chanceOf 7 = .ok (.aload_n 0, 1) := by decide +kernel
theorem dX7_chanceOf_8 : decode cX7_chanceOf 8 = .ok (.getfield 19, 3) := by decide +kernel
theorem dX7_chanceOf_11 : decode cX7_chanceOf 11 = .ok (.getfield 92, 3) := by decide +kernel
theorem dX7_chanceOf_14 : decode cX7_chanceOf 14 = .ok (.if_icmp .ge 30, 3) := by decide +kernel
theorem dX7_chanceOf_17 : decode cX7_chanceOf 17 = .ok (.iload_n 3, 1) := by decide +kernel
theorem dX7_chanceOf_18 : decode cX7_chanceOf 18 = .ok (.iload_n 1, 1) := by decide +kernel
theorem dX7_chanceOf_19 : decode cX7_chanceOf 19 = .ok (.iload 4, 2) := by decide +kernel
theorem dX7_chanceOf_21 : decode cX7_chanceOf 21 = .ok (.invokestatic 121, 3) := by decide +kernel
end
section
theorem dX7_chanceOf_24 : decode cX7_chanceOf 24 = .ok (.iconst 1, 1) := by decide +kernel
theorem dX7_chanceOf_25 : decode cX7_chanceOf 25 = .ok (.if_icmp .ne 7, 3) := by decide +kernel
theorem dX7_chanceOf_28 : decode cX7_chanceOf 28 = .ok (.iload_n 2, 1) := by decide +kernel
theorem dX7_chanceOf_29 : decode cX7_chanceOf 29 = .ok (.goto 7, 3) := by decide +kernel
theorem dX7_chanceOf_32 : decode cX7_chanceOf 32 = .ok (.bipush 10, 2) := by decide +kernel
theorem dX7_chanceOf_34 : decode cX7_chanceOf 34 = .ok (.iload_n 2, 1) := by decide +kernel
theorem dX7_chanceOf_35 : decode cX7_chanceOf 35 = .ok (.isub, 1) := by decide +kernel
theorem dX7_chanceOf_36 : decode cX7_chanceOf 36 = .ok (.imul, 1) := by decide +kernel
theorem dX7_chanceOf_37 : decode cX7_chanceOf 37 = .ok (.istore_n 3, 1) := by decide +kernel
theorem dX7_chanceOf_38 : decode cX7_chanceOf 38 = .ok (.iinc 4 1, 3) := by decide +kernel
theorem dX7_chanceOf_41 : decode cX7_chanceOf 41 = .ok (.goto (-36), 3) := by decide +kernel
theorem dX7_chanceOf_44 : decode cX7_chanceOf 44 = .ok (.iload_n 3, 1) := by decide +kernel
theorem dX7_chanceOf_45 : decode cX7_chanceOf 45 = .ok (.ireturn, 1) := by decide +kernel
theorem dX7_draw_0 : decode cX7_draw 0 = .ok (.ldc2_w 295, 3) := by decide +kernel
theorem dX7_draw_3 : decode cX7_draw 3 = .ok (.iload_n 0, 1) := by decide +kernel
theorem dX7_draw_4 : decode cX7_draw 4 = .ok (.i2l, 1) := by decide +kernel
theorem dX7_draw_5 : decode cX7_draw 5 = .ok (.lmul, 1) := by decide +kernel
theorem dX7_draw_6 : decode cX7_draw 6 = .ok (.ldc2_w 297, 3) := by decide +kernel
theorem dX7_draw_9 : decode cX7_draw 9 = .ok (.iload_n 1, 1) := by decide +kernel
theorem dX7_draw_10 : decode cX7_draw 10 = .ok (.i2l, 1) := by decide +kernel
theorem dX7_draw_11 : decode cX7_draw 11 = .ok (.lmul, 1) := by decide +kernel
theorem dX7_draw_12 : decode cX7_draw 12 = .ok (.ladd, 1) := by decide +kernel
theorem dX7_draw_13 : decode cX7_draw 13 = .ok (.lconst 1, 1) := by decide +kernel
theorem dX7_draw_14 : decode cX7_draw 14 = .ok (.ladd, 1) := by decide +kernel
theorem dX7_draw_15 : decode cX7_draw 15 = .ok (.lstore_n 2, 1) := by decide +kernel
theorem dX7_draw_16 : decode cX7_draw 16 = .ok (.lload_n 2, 1) := by decide +kernel
theorem dX7_draw_17 : decode cX7_draw 17 = .ok (.lload_n 2, 1) := by decide +kernel
theorem dX7_draw_18 : decode cX7_draw 18 = .ok (.lmul, 1) := by decide +kernel
theorem dX7_draw_19 : decode cX7_draw 19 = .ok (.ldc2_w 299, 3) := by decide +kernel
theorem dX7_draw_22 : decode cX7_draw 22 = .ok (.lrem, 1) := by decide +kernel
theorem dX7_draw_23 : decode cX7_draw 23 = .ok (.ldc2_w 301, 3) := by decide +kernel
theorem dX7_draw_26 : decode cX7_draw 26 = .ok (.ldiv, 1) := by decide +kernel
theorem dX7_draw_27 : decode cX7_draw 27 = .ok (.l2i, 1) := by decide +kernel
theorem dX7_draw_28 : decode cX7_draw 28 = .ok (.ireturn, 1) := by decide +kernel
theorem dX7_stir_0 : decode cX7_stir 0 = .ok (.aload_n 0, 1) := by decide +kernel
theorem dX7_stir_1 : decode cX7_stir 1 = .ok (.getfield 92, 3) := by decide +kernel
theorem dX7_stir_4 : decode cX7_stir 4 = .ok (.ifCond .le 22, 3) := by decide +kernel
theorem dX7_stir_7 : decode cX7_stir 7 = .ok (.iload_n 1, 1) := by decide +kernel
theorem dX7_stir_8 : decode cX7_stir 8 = .ok (.bipush 8, 2) := by decide +kernel
theorem dX7_stir_10 : decode cX7_stir 10 = .ok (.idiv, 1) := by decide +kernel
theorem dX7_stir_11 : decode cX7_stir 11 = .ok (.iconst 2, 1) := by decide +kernel
theorem dX7_stir_12 : decode cX7_stir 12 = .ok (.irem, 1) := by decide +kernel
theorem dX7_stir_13 : decode cX7_stir 13 = .ok (.ifCond .ne 13, 3) := by decide +kernel
theorem dX7_stir_16 : decode cX7_stir 16 = .ok (.aload_n 0, 1) := by decide +kernel
theorem dX7_stir_17 : decode cX7_stir 17 = .ok (.iload_n 1, 1) := by decide +kernel
theorem dX7_stir_18 : decode cX7_stir 18 = .ok (.aload_n 0, 1) := by decide +kernel
theorem dX7_stir_19 : decode cX7_stir 19 = .ok (.getfield 92, 3) := by decide +kernel
theorem dX7_stir_22 : decode cX7_stir 22 = .ok (.irem, 1) := by decide +kernel
theorem dX7_stir_23 : decode cX7_stir 23 = .ok (.invokevirtual 146, 3) := by decide +kernel
theorem dX7_stir_26 : decode cX7_stir 26 = .ok (.iload_n 1, 1) := by decide +kernel
theorem dX7_stir_27 : decode cX7_stir 27 = .ok (.bipush 16, 2) := by decide +kernel
theorem dX7_stir_29 : decode cX7_stir 29 = .ok (.idiv, 1) := by decide +kernel
theorem dX7_stir_30 : decode cX7_stir 30 = .ok (.iconst 4, 1) := by decide +kernel
theorem dX7_stir_31 : decode cX7_stir 31 = .ok (.irem, 1) := by decide +kernel
theorem dX7_stir_32 : decode cX7_stir 32 = .ok (.ifCond .ne 21, 3) := by decide +kernel
theorem dX7_stir_35 : decode cX7_stir 35 = .ok (.aload_n 0, 1) := by decide +kernel
theorem dX7_stir_36 : decode cX7_stir 36 = .ok (.getfield 153, 3) := by decide +kernel
theorem dX7_stir_39 : decode cX7_stir 39 = .ok (.ifCond .le 14, 3) := by decide +kernel
theorem dX7_stir_42 : decode cX7_stir 42 = .ok (.aload_n 0, 1) := by decide +kernel
theorem dX7_stir_43 : decode cX7_stir 43 = .ok (.iconst 0, 1) := by decide +kernel
theorem dX7_stir_44 : decode cX7_stir 44 = .ok (.aload_n 0, 1) := by decide +kernel
theorem dX7_stir_45 : decode cX7_stir 45 = .ok (.getfield 153, 3) := by decide +kernel
theorem dX7_stir_48 : decode cX7_stir 48 = .ok (.iconst 1, 1) := by decide +kernel
theorem dX7_stir_49 : decode cX7_stir 49 = .ok (.isub, 1) := by decide +kernel
theorem dX7_stir_50 : decode cX7_stir 50 = .ok (.invokevirtual 162, 3) := by decide +kernel
theorem dX7_stir_53 : decode cX7_stir 53 = .ok (.return_, 1) := by decide +kernel
theorem dX7_greatestDivisor_0 : decode cX7_greatestDivisor 0 = .ok (.iconst 0, 1) := by decide +kernel
theorem dX7_greatestDivisor_1 : decode cX7_greatestDivisor 1 = .ok (.istore_n 2, 1) := by decide +kernel
theorem dX7_greatestDivisor_2 : decode cX7_greatestDivisor 2 = .ok (.iload_n 2, 1) := by decide +kernel
theorem dX7_greatestDivisor_3 : decode cX7_greatestDivisor 3 = .ok (.bipush 100, 2) := by decide +kernel
theorem dX7_greatestDivisor_5 : decode cX7_greatestDivisor 5 = .ok (.if_icmp .ge 21, 3) := by decide +kernel
theorem dX7_greatestDivisor_8 : decode cX7_greatestDivisor 8 = .ok (.iload_n 1, 1) := by decide +kernel
theorem dX7_greatestDivisor_9 : decode cX7_greatestDivisor 9 = .ok (.ifCond .eq 17, 3) := by decide +kernel
theorem dX7_greatestDivisor_12 : decode cX7_greatestDivisor 12 = .ok (.iload_n 0, 1) := by decide +kernel
theorem dX7_greatestDivisor_13 : decode cX7_greatestDivisor 13 = .ok (.iload_n 1, 1) := by decide +kernel
theorem dX7_greatestDivisor_14 : decode cX7_greatestDivisor 14 = .ok (.irem, 1) := by decide +kernel
theorem dX7_greatestDivisor_15 : decode cX7_greatestDivisor 15 = .ok (.istore_n 3, 1) := by decide +kernel
theorem dX7_greatestDivisor_16 : decode cX7_greatestDivisor 16 = .ok (.iload_n 1, 1) := by decide +kernel
theorem dX7_greatestDivisor_17 : decode cX7_greatestDivisor 17 = .ok (.istore_n 0, 1) := by decide +kernel
theorem dX7_greatestDivisor_18 : decode cX7_greatestDivisor 18 = .ok (.iload_n 3, 1) := by decide +kernel
theorem dX7_greatestDivisor_19 : decode cX7_greatestDivisor 19 = .ok (.istore_n 1, 1) := by decide +kernel
theorem dX7_greatestDivisor_20 : decode cX7_greatestDivisor 20 = .ok (.iinc 2 1, 3) := by decide +kernel
theorem dX7_greatestDivisor_23 : decode cX7_greatestDivisor 23 = .ok (.goto (-21), 3) := by decide +kernel
theorem dX7_greatestDivisor_26 : decode cX7_greatestDivisor 26 = .ok (.iload_n 0, 1) := by decide +kernel
theorem dX7_greatestDivisor_27 : decode cX7_greatestDivisor 27 = .ok (.ireturn, 1) := by decide +kernel
theorem dX7_within_0 : decode cX7_within 0 = .ok (.iload_n 0, 1) := by decide +kernel
theorem dX7_within_1 : decode cX7_within 1 = .ok (.iload_n 1, 1) := by decide +kernel
theorem dX7_within_2 : decode cX7_within 2 = .ok (.if_icmp .lt 12, 3) := by decide +kernel
theorem dX7_within_5 : decode cX7_within 5 = .ok (.iload_n 0, 1) := by decide +kernel
theorem dX7_within_6 : decode cX7_within 6 = .ok (.iload_n 2, 1) := by decide +kernel
theorem dX7_within_7 : decode cX7_within 7 = .ok (.if_icmp .gt 7, 3) := by decide +kernel
theorem dX7_within_10 : decode cX7_within 10 = .ok (.iconst 1, 1) := by decide +kernel
theorem dX7_within_11 : decode cX7_within 11 = .ok (.goto 4, 3) := by decide +kernel
theorem dX7_within_14 : decode cX7_within 14 = .ok (.iconst 0, 1) := by decide +kernel
theorem dX7_within_15 : decode cX7_within 15 = .ok (.ireturn, 1) := by decide +kernel
theorem dX7_bit_0 : decode cX7_bit 0 = .ok (.iload_n 0, 1) := by decide +kernel
theorem dX7_bit_1 : decode cX7_bit 1 = .ok (.iload_n 1, 1) := by decide +kernel
theorem dX7_bit_2 : decode cX7_bit 2 = .ok (.ishr, 1) := by decide +kernel
theorem dX7_bit_3 : decode cX7_bit 3 = .ok (.iconst 1, 1) := by decide +kernel
theorem dX7_bit_4 : decode cX7_bit 4 = .ok (.iand, 1) := by decide +kernel
theorem dX7_bit_5 : decode cX7_bit 5 = .ok (.ireturn, 1) := by decide +kernel
theorem dX7_at_0 : decode cX7_at 0 = .ok (.iload_n 1, 1) := by decide +kernel
theorem dX7_at_1 : decode cX7_at 1 = .ok (.ifCond .lt 15, 3) := by decide +kernel
theorem dX7_at_4 : decode cX7_at 4 = .ok (.iload_n 1, 1) := by decide +kernel
theorem dX7_at_5 : decode cX7_at 5 = .ok (.aload_n 0, 1) := by decide +kernel
theorem dX7_at_6 : decode cX7_at 6 = .ok (.arraylength, 1) := by decide +kernel
theorem dX7_at_7 : decode cX7_at 7 = .ok (.if_icmp .ge 9, 3) := by decide +kernel
theorem dX7_at_10 : decode cX7_at 10 = .ok (.aload_n 0, 1) := by decide +kernel
theorem dX7_at_11 : decode cX7_at 11 = .ok (.iload_n 1, 1) := by decide +kernel
theorem dX7_at_12 : decode cX7_at 12 = .ok (.iaload, 1) := by decide +kernel
theorem dX7_at_13 : decode cX7_at 13 = .ok (.goto 4, 3) := by decide +kernel
theorem dX7_at_16 : decode cX7_at 16 = .ok (.iconst 0, 1) := by decide +kernel
theorem dX7_at_17 : decode cX7_at 17 = .ok (.ireturn, 1) := by decide +kernel
theorem dX7_put_0 : decode cX7_put 0 = .ok (.iload_n 1, 1) := by decide +kernel
theorem dX7_put_1 : decode cX7_put 1 = .ok (.ifCond .lt 13, 3) := by decide +kernel
theorem dX7_put_4 : decode cX7_put 4 = .ok (.iload_n 1, 1) := by decide +kernel
theorem dX7_put_5 : decode cX7_put 5 = .ok (.aload_n 0, 1) := by decide +kernel
theorem dX7_put_6 : decode cX7_put 6 = .ok (.arraylength, 1) := by decide +kernel
theorem dX7_put_7 : decode cX7_put 7 = .ok (.if_icmp .ge 7, 3) := by decide +kernel
theorem dX7_put_10 : decode cX7_put 10 = .ok (.aload_n 0, 1) := by decide +kernel
theorem dX7_put_11 : decode cX7_put 11 = .ok (.iload_n 1, 1) := by decide +kernel
theorem dX7_put_12 : decode cX7_put 12 = .ok (.iload_n 2, 1) := by decide +kernel
theorem dX7_put_13 : decode cX7_put 13 = .ok (.iastore, 1) := by decide +kernel
theorem dX7_put_14 : decode cX7_put 14 = .ok (.return_, 1) := by decide +kernel
theorem dX7_copyRow_0 : decode cX7_copyRow 0 = .ok (.aload_n 0, 1) := by decide +kernel
theorem dX7_copyRow_1 : decode cX7_copyRow 1 = .ok (.iconst 0, 1) := by decide +kernel
theorem dX7_copyRow_2 : decode cX7_copyRow 2 = .ok (.aload_n 1, 1) := by decide +kernel
theorem dX7_copyRow_3 : decode cX7_copyRow 3 = .ok (.iconst 0, 1) := by decide +kernel
theorem dX7_copyRow_4 : decode cX7_copyRow 4 = .ok (.aload_n 0, 1) := by decide +kernel
theorem dX7_copyRow_5 : decode cX7_copyRow 5 = .ok (.arraylength, 1) := by decide +kernel
theorem dX7_copyRow_6 : decode cX7_copyRow 6 = .ok (.aload_n 1, 1) := by decide +kernel
theorem dX7_copyRow_7 : decode cX7_copyRow 7 = .ok (.arraylength, 1) := by decide +kernel
theorem dX7_copyRow_8 : decode cX7_copyRow 8 = .ok (.invokestatic 303, 3) := by decide +kernel
theorem dX7_copyRow_11 : decode cX7_copyRow 11 = .ok (.invokestatic 306, 3) := by decide +kernel
theorem dX7_copyRow_14 : decode cX7_copyRow 14 = .ok (.return_, 1) := by decide +kernel
theorem dX7_slide_0 : decode cX7_slide 0 = .ok (.aload_n 0, 1) := by decide +kernel
theorem dX7_slide_1 : decode cX7_slide 1 = .ok (.iload_n 1, 1) := by decide +kernel
theorem dX7_slide_2 : decode cX7_slide 2 = .ok (.invokestatic 108, 3) := by decide +kernel
theorem dX7_slide_5 : decode cX7_slide 5 = .ok (.istore_n 3, 1) := by decide +kernel
theorem dX7_slide_6 : decode cX7_slide 6 = .ok (.iload_n 1, 1) := by decide +kernel
theorem dX7_slide_7 : decode cX7_slide 7 = .ok (.istore 4, 2) := by decide +kernel
theorem dX7_slide_9 : decode cX7_slide 9 = .ok (.iload 4, 2) := by decide +kernel
theorem dX7_slide_11 : decode cX7_slide 11 = .ok (.iload_n 2, 1) := by decide +kernel
theorem dX7_slide_12 : decode cX7_slide 12 = .ok (.if_icmp .ge 23, 3) := by decide +kernel
theorem dX7_slide_15 : decode cX7_slide 15 = .ok (.aload_n 0, 1) := by decide +kernel
theorem dX7_slide_16 : decode cX7_slide 16 = .ok (.iload 4, 2) := by decide +kernel
theorem dX7_slide_18 : decode cX7_slide 18 = .ok (.aload_n 0, 1) := by decide +kernel
theorem dX7_slide_19 : decode cX7_slide 19 = .ok (.iload 4, 2) := by decide +kernel
theorem dX7_slide_21 : decode cX7_slide 21 = .ok (.iconst 1, 1) := by decide +kernel
theorem dX7_slide_22 : decode cX7_slide 22 = .ok (.iadd, 1) := by decide +kernel
theorem dX7_slide_23 : decode cX7_slide 23 = .ok (.invokestatic 108, 3) := by decide +kernel
theorem dX7_slide_26 : decode cX7_slide 26 = .ok (.invokestatic 166, 3) := by decide +kernel
theorem dX7_slide_29 : decode cX7_slide 29 = .ok (.iinc 4 1, 3) := by decide +kernel
theorem dX7_slide_32 : decode cX7_slide 32 = .ok (.goto (-23), 3) := by decide +kernel
theorem dX7_slide_35 : decode cX7_slide 35 = .ok (.iload_n 1, 1) := by decide +kernel
theorem dX7_slide_36 : decode cX7_slide 36 = .ok (.istore 4, 2) := by decide +kernel
theorem dX7_slide_38 : decode cX7_slide 38 = .ok (.iload 4, 2) := by decide +kernel
theorem dX7_slide_40 : decode cX7_slide 40 = .ok (.iload_n 2, 1) := by decide +kernel
theorem dX7_slide_41 : decode cX7_slide 41 = .ok (.if_icmp .le 23, 3) := by decide +kernel
theorem dX7_slide_44 : decode cX7_slide 44 = .ok (.aload_n 0, 1) := by decide +kernel
theorem dX7_slide_45 : decode cX7_slide 45 = .ok (.iload 4, 2) := by decide +kernel
theorem dX7_slide_47 : decode cX7_slide 47 = .ok (.aload_n 0, 1) := by decide +kernel
theorem dX7_slide_48 : decode cX7_slide 48 = .ok (.iload 4, 2) := by decide +kernel
theorem dX7_slide_50 : decode cX7_slide 50 = .ok (.iconst 1, 1) := by decide +kernel
theorem dX7_slide_51 : decode cX7_slide 51 = .ok (.isub, 1) := by decide +kernel
theorem dX7_slide_52 : decode cX7_slide 52 = .ok (.invokestatic 108, 3) := by decide +kernel
theorem dX7_slide_55 : decode cX7_slide 55 = .ok (.invokestatic 166, 3) := by decide +kernel
theorem dX7_slide_58 : decode cX7_slide 58 = .ok (.iinc 4 (-1), 3) := by decide +kernel
theorem dX7_slide_61 : decode cX7_slide 61 = .ok (.goto (-23), 3) := by decide +kernel
theorem dX7_slide_64 : decode cX7_slide 64 = .ok (.aload_n 0, 1) := by decide +kernel
theorem dX7_slide_65 : decode cX7_slide 65 = .ok (.iload_n 2, 1) := by decide +kernel
theorem dX7_slide_66 : decode cX7_slide 66 = .ok (.iload_n 3, 1) := by decide +kernel
theorem dX7_slide_67 : decode cX7_slide 67 = .ok (.invokestatic 166, 3) := by decide +kernel
theorem dX7_slide_70 : decode cX7_slide 70 = .ok (.return_, 1) := by decide +kernel
theorem dX8_in_0 : decode cX8_in 0 = .ok (.iload_n 0, 1) := by decide +kernel
theorem dX8_in_1 : decode cX8_in 1 = .ok (.iload_n 1, 1) := by decide +kernel
theorem dX8_in_2 : decode cX8_in 2 = .ok (.if_icmp .lt 12, 3) := by decide +kernel
theorem dX8_in_5 : decode cX8_in 5 = .ok (.iload_n 0, 1) := by decide +kernel
theorem dX8_in_6 : decode cX8_in 6 = .ok (.iload_n 2, 1) := by decide +kernel
theorem dX8_in_7 : decode cX8_in 7 = .ok (.if_icmp .gt 7, 3) := by decide +kernel
theorem dX8_in_10 : decode cX8_in 10 = .ok (.iconst 1, 1) := by decide +kernel
theorem dX8_in_11 : decode cX8_in 11 = .ok (.goto 4, 3) := by decide +kernel
theorem dX8_in_14 : decode cX8_in 14 = .ok (.iconst 0, 1) := by decide +kernel
theorem dX8_in_15 : decode cX8_in 15 = .ok (.ireturn, 1) := by decide +kernel
theorem dX8_has_0 : decode cX8_has 0 = .ok (.iload_n 0, 1) := by decide +kernel
theorem dX8_has_1 : decode cX8_has 1 = .ok (.iload_n 1, 1) := by decide +kernel
theorem dX8_has_2 : decode cX8_has 2 = .ok (.ishr, 1) := by decide +kernel
theorem dX8_has_3 : decode cX8_has 3 = .ok (.iconst 1, 1) := by decide +kernel
theorem dX8_has_4 : decode cX8_has 4 = .ok (.iand, 1) := by decide +kernel
theorem dX8_has_5 : decode cX8_has 5 = .ok (.iconst 1, 1) := by decide +kernel
theorem dX8_has_6 : decode cX8_has 6 = .ok (.if_icmp .ne 7, 3) := by decide +kernel
theorem dX8_has_9 : decode cX8_has 9 = .ok (.iconst 1, 1) := by decide +kernel
theorem dX8_has_10 : decode cX8_has 10 = .ok (.goto 4, 3) := by decide +kernel
theorem dX8_has_13 : decode cX8_has 13 = .ok (.iconst 0, 1) := by decide +kernel
theorem dX8_has_14 : decode cX8_has 14 = .ok (.ireturn, 1) := by decide +kernel
theorem dX8_bits_0 : decode cX8_bits 0 = .ok (.iconst 0, 1) := by decide +kernel
theorem dX8_bits_1 : decode cX8_bits 1 = .ok (.istore_n 1, 1) := by decide +kernel
theorem dX8_bits_2 : decode cX8_bits 2 = .ok (.iconst 0, 1) := by decide +kernel
theorem dX8_bits_3 : decode cX8_bits 3 = .ok (.istore_n 2, 1) := by decide +kernel
theorem dX8_bits_4 : decode cX8_bits 4 = .ok (.iload_n 2, 1) := by decide +kernel
theorem dX8_bits_5 : decode cX8_bits 5 = .ok (.bipush 7, 2) := by decide +kernel
theorem dX8_bits_7 : decode cX8_bits 7 = .ok (.if_icmp .ge 17, 3) := by decide +kernel
theorem dX8_bits_10 : decode cX8_bits 10 = .ok (.iload_n 1, 1) := by decide +kernel
theorem dX8_bits_11 : decode cX8_bits 11 = .ok (.iload_n 0, 1) := by decide +kernel
theorem dX8_bits_12 : decode cX8_bits 12 = .ok (.iload_n 2, 1) := by decide +kernel
theorem dX8_bits_13 : decode cX8_bits 13 = .ok (.ishr, 1) := by decide +kernel
theorem dX8_bits_14 : decode cX8_bits 14 = .ok (.iconst 1, 1) := by decide +kernel
theorem dX8_bits_15 : decode cX8_bits 15 = .ok (.iand, 1) := by decide +kernel
theorem dX8_bits_16 : decode cX8_bits 16 = .ok (.iadd, 1) := by decide +kernel
theorem dX8_bits_17 : decode cX8_bits 17 = .ok (.istore_n 1, 1) := by decide +kernel
theorem dX8_bits_18 : decode cX8_bits 18 = .ok (.iinc 2 1, 3) := by decide +kernel
theorem dX8_bits_21 : decode cX8_bits 21 = .ok (.goto (-17), 3) := by decide +kernel
theorem dX8_bits_24 : decode cX8_bits 24 = .ok (.iload_n 1, 1) := by decide +kernel
theorem dX8_bits_25 : decode cX8_bits 25 = .ok (.ireturn, 1) := by decide +kernel
theorem dX8_firstTeller_0 : decode cX8_firstTeller 0 = .ok (.aload_n 0, 1) := by decide +kernel
theorem dX8_firstTeller_1 : decode cX8_firstTeller 1 = .ok (.getfield 9, 3) := by decide +kernel
theorem dX8_firstTeller_4 : decode cX8_firstTeller 4 = .ok (.aload_n 0, 1) := by decide +kernel
theorem dX8_firstTeller_5 : decode cX8_firstTeller 5 = .ok (.getfield 88, 3) := by decide +kernel
theorem dX8_firstTeller_8 : decode cX8_firstTeller 8 = .ok (.iload_n 1, 1) := by decide +kernel
theorem dX8_firstTeller_9 : decode cX8_firstTeller 9 = .ok (.iastore, 1) := by decide +kernel
theorem dX8_firstTeller_10 : decode cX8_firstTeller 10 = .ok (.aload_n 0, 1) := by decide +kernel
theorem dX8_firstTeller_11 : decode cX8_firstTeller 11 = .ok (.getfield 13, 3) := by decide +kernel
theorem dX8_firstTeller_14 : decode cX8_firstTeller 14 = .ok (.aload_n 0, 1) := by decide +kernel
theorem dX8_firstTeller_15 : decode cX8_firstTeller 15 = .ok (.getfield 88, 3) := by decide +kernel
theorem dX8_firstTeller_18 : decode cX8_firstTeller 18 = .ok (.iload_n 2, 1) := by decide +kernel
theorem dX8_firstTeller_19 : decode cX8_firstTeller 19 = .ok (.iastore, 1) := by decide +kernel
theorem dX8_firstTeller_20 : decode cX8_firstTeller 20 = .ok (.aload_n 0, 1) := by decide +kernel
theorem dX8_firstTeller_21 : decode cX8_firstTeller 21 = .ok (.dup, 1) := by decide +kernel
theorem dX8_firstTeller_22 : decode cX8_firstTeller 22 = .ok (.getfield 88, 3) := by decide +kernel
theorem dX8_firstTeller_25 : decode cX8_firstTeller 25 = .ok (.iconst 1, 1) := by decide +kernel
theorem dX8_firstTeller_26 : decode cX8_firstTeller 26 = .ok (.iadd, 1) := by decide +kernel
theorem dX8_firstTeller_27 : decode cX8_firstTeller 27 = .ok (.putfield 88, 3) := by decide +kernel
theorem dX8_firstTeller_30 : decode cX8_firstTeller 30 = .ok (.return_, 1) := by decide +kernel
theorem dX8_sets_0 : decode cX8_sets 0 = .ok (.aload_n 0, 1) := by decide +kernel
theorem dX8_sets_1 : decode cX8_sets 1 = .ok (.getfield 16, 3) := by decide +kernel
theorem dX8_sets_4 : decode cX8_sets 4 = .ok (.iload_n 1, 1) := by decide +kernel
theorem dX8_sets_5 : decode cX8_sets 5 = .ok (.iload_n 2, 1) := by decide +kernel
theorem dX8_sets_6 : decode cX8_sets 6 = .ok (.iastore, 1) := by decide +kernel
theorem dX8_sets_7 : decode cX8_sets 7 = .ok (.aload_n 0, 1) := by decide +kernel
theorem dX8_sets_8 : decode cX8_sets 8 = .ok (.getfield 19, 3) := by decide +kernel
theorem dX8_sets_11 : decode cX8_sets 11 = .ok (.iload_n 1, 1) := by decide +kernel
theorem dX8_sets_12 : decode cX8_sets 12 = .ok (.iload_n 3, 1) := by decide +kernel
theorem dX8_sets_13 : decode cX8_sets 13 = .ok (.iastore, 1) := by decide +kernel
theorem dX8_sets_14 : decode cX8_sets 14 = .ok (.aload_n 0, 1) := by decide +kernel
theorem dX8_sets_15 : decode cX8_sets 15 = .ok (.getfield 22, 3) := by decide +kernel
theorem dX8_sets_18 : decode cX8_sets 18 = .ok (.iload_n 1, 1) := by decide +kernel
theorem dX8_sets_19 : decode cX8_sets 19 = .ok (.iload 4, 2) := by decide +kernel
theorem dX8_sets_21 : decode cX8_sets 21 = .ok (.iastore, 1) := by decide +kernel
theorem dX8_sets_22 : decode cX8_sets 22 = .ok (.aload_n 0, 1) := by decide +kernel
theorem dX8_sets_23 : decode cX8_sets 23 = .ok (.getfield 25, 3) := by decide +kernel
theorem dX8_sets_26 : decode cX8_sets 26 = .ok (.iload_n 1, 1) := by decide +kernel
theorem dX8_sets_27 : decode cX8_sets 27 = .ok (.iload 5, 2) := by decide +kernel
theorem dX8_sets_29 : decode cX8_sets 29 = .ok (.iastore, 1) := by decide +kernel
theorem dX8_sets_30 : decode cX8_sets 30 = .ok (.return_, 1) := by decide +kernel
theorem dX8_copies_0 : decode cX8_copies 0 = .ok (.aload_n 0, 1) := by decide +kernel
theorem dX8_copies_1 : decode cX8_copies 1 = .ok (.iload_n 2, 1) := by decide +kernel
theorem dX8_copies_2 : decode cX8_copies 2 = .ok (.aload_n 0, 1) := by decide +kernel
theorem dX8_copies_3 : decode cX8_copies 3 = .ok (.getfield 16, 3) := by decide +kernel
theorem dX8_copies_6 : decode cX8_copies 6 = .ok (.iload_n 1, 1) := by decide +kernel
theorem dX8_copies_7 : decode cX8_copies 7 = .ok (.iaload, 1) := by decide +kernel
theorem dX8_copies_8 : decode cX8_copies 8 = .ok (.aload_n 0, 1) := by decide +kernel
theorem dX8_copies_9 : decode cX8_copies 9 = .ok (.getfield 19, 3) := by decide +kernel
theorem dX8_copies_12 : decode cX8_copies 12 = .ok (.iload_n 1, 1) := by decide +kernel
theorem dX8_copies_13 : decode cX8_copies 13 = .ok (.iaload, 1) := by decide +kernel
theorem dX8_copies_14 : decode cX8_copies 14 = .ok (.aload_n 0, 1) := by decide +kernel
theorem dX8_copies_15 : decode cX8_copies 15 = .ok (.getfield 22, 3) := by decide +kernel
theorem dX8_copies_18 : decode cX8_copies 18 = .ok (.iload_n 1, 1) := by decide +kernel
theorem dX8_copies_19 : decode cX8_copies 19 = .ok (.iaload, 1) := by decide +kernel
theorem dX8_copies_20 : decode cX8_copies 20 = .ok (.aload_n 0, 1) := by decide +kernel
theorem dX8_copies_21 : decode cX8_copies 21 = .ok (.getfield 25, 3) := by decide +kernel
theorem dX8_copies_24 : decode cX8_copies 24 = .ok (.iload_n 1, 1) := by decide +kernel
theorem dX8_copies_25 : decode cX8_copies 25 = .ok (.iaload, 1) := by decide +kernel
theorem dX8_copies_26 : decode cX8_copies 26 = .ok (.invokevirtual 81, 3) := by decide +kernel
theorem dX8_copies_29 : decode cX8_copies 29 = .ok (.return_, 1) := by decide +kernel
theorem dX8_isTeller_0 : decode cX8_isTeller 0 = .ok (.iload_n 1, 1) := by decide +kernel
theorem dX8_isTeller_1 : decode cX8_isTeller 1 = .ok (.iconst 0, 1) := by decide +kernel
theorem dX8_isTeller_2 : decode cX8_isTeller 2 = .ok (.aload_n 0, 1) := by decide +kernel
theorem dX8_isTeller_3 : decode cX8_isTeller 3 = .ok (.getfield 88, 3) := by decide +kernel
theorem dX8_isTeller_6 : decode cX8_isTeller 6 = .ok (.iconst 1, 1) := by decide +kernel
theorem dX8_isTeller_7 : decode cX8_isTeller 7 = .ok (.isub, 1) := by decide +kernel
theorem dX8_isTeller_8 : decode cX8_isTeller 8 = .ok (.invokestatic 91, 3) := by decide +kernel
theorem dX8_isTeller_11 : decode cX8_isTeller 11 = .ok (.ireturn, 1) := by decide +kernel
theorem dX8_isFact_0 : decode cX8_isFact 0 = .ok (.iload_n 1, 1) := by decide +kernel
theorem dX8_isFact_1 : decode cX8_isFact 1 = .ok (.iconst 0, 1) := by decide +kernel
theorem dX8_isFact_2 : decode cX8_isFact 2 = .ok (.aload_n 0, 1) := by decide +kernel
theorem dX8_isFact_3 : decode cX8_isFact 3 = .ok (.getfield 74, 3) := by decide +kernel
theorem dX8_isFact_6 : decode cX8_isFact 6 = .ok (.iconst 1, 1) := by decide +kernel
theorem dX8_isFact_7 : decode cX8_isFact 7 = .ok (.isub, 1) := by decide +kernel
theorem dX8_isFact_8 : decode cX8_isFact 8 = .ok (.invokestatic 91, 3) := by decide +kernel
theorem dX8_isFact_11 : decode cX8_isFact 11 = .ok (.ireturn, 1) := by decide +kernel
theorem dX8_isClaim_0 : decode cX8_isClaim 0 = .ok (.iload_n 1, 1) := by decide +kernel
theorem dX8_isClaim_1 : decode cX8_isClaim 1 = .ok (.iconst 0, 1) := by decide +kernel
theorem dX8_isClaim_2 : decode cX8_isClaim 2 = .ok (.aload_n 0, 1) := by decide +kernel
theorem dX8_isClaim_3 : decode cX8_isClaim 3 = .ok (.getfield 85, 3) := by decide +kernel
theorem dX8_isClaim_6 : decode cX8_isClaim 6 = .ok (.iconst 1, 1) := by decide +kernel
theorem dX8_isClaim_7 : decode cX8_isClaim 7 = .ok (.isub, 1) := by decide +kernel
theorem dX8_isClaim_8 : decode cX8_isClaim 8 = .ok (.invokestatic 91, 3) := by decide +kernel
theorem dX8_isClaim_11 : decode cX8_isClaim 11 = .ok (.ireturn, 1) := by decide +kernel
theorem dX8_write_0 : decode cX8_write 0 = .ok (.iload_n 1, 1) := by decide +kernel
theorem dX8_write_1 : decode cX8_write 1 = .ok (.bipush 32, 2) := by decide +kernel
theorem dX8_write_3 : decode cX8_write 3 = .ok (.bipush 126, 2) := by decide +kernel
theorem dX8_write_5 : decode cX8_write 5 = .ok (.invokestatic 91, 3) := by decide +kernel
theorem dX8_write_8 : decode cX8_write 8 = .ok (.ifCond .ne 5, 3) := by decide +kernel
theorem dX8_write_11 : decode cX8_write 11 = .ok (.iconst (-1), 1) := by decide +kernel
theorem dX8_write_12 : decode cX8_write 12 = .ok (.ireturn, 1) := by decide +kernel
theorem dX8_write_13 : decode cX8_write 13 = .ok (.aload_n 0, 1) := by decide +kernel
theorem dX8_write_14 : decode cX8_write 14 = .ok (.getfield 95, 3) := by decide +kernel
theorem dX8_write_17 : decode cX8_write 17 = .ok (.sipush 200, 3) := by decide +kernel
theorem dX8_write_20 : decode cX8_write 20 = .ok (.if_icmp .ne 6, 3) := by decide +kernel
theorem dX8_write_23 : decode cX8_write 23 = .ok (.bipush (-3), 2) := by decide +kernel
theorem dX8_write_25 : decode cX8_write 25 = .ok (.ireturn, 1) := by decide +kernel
theorem dX8_write_26 : decode cX8_write 26 = .ok (.aload_n 0, 1) := by decide +kernel
theorem dX8_write_27 : decode cX8_write 27 = .ok (.getfield 34, 3) := by decide +kernel
theorem dX8_write_30 : decode cX8_write 30 = .ok (.aload_n 0, 1) := by decide +kernel
theorem dX8_write_31 : decode cX8_write 31 = .ok (.getfield 95, 3) := by decide +kernel
theorem dX8_write_34 : decode cX8_write 34 = .ok (.iload_n 1, 1) := by decide +kernel
theorem dX8_write_35 : decode cX8_write 35 = .ok (.iastore, 1) := by decide +kernel
theorem dX8_write_36 : decode cX8_write 36 = .ok (.aload_n 0, 1) := by decide +kernel
theorem dX8_write_37 : decode cX8_write 37 = .ok (.dup, 1) := by decide +kernel
theorem dX8_write_38 : decode cX8_write 38 = .ok (.getfield 95, 3) := by decide +kernel
theorem dX8_write_41 : decode cX8_write 41 = .ok (.iconst 1, 1) := by decide +kernel
theorem dX8_write_42 : decode cX8_write 42 = .ok (.iadd, 1) := by decide +kernel
theorem dX8_write_43 : decode cX8_write 43 = .ok (.putfield 95, 3) := by decide +kernel
theorem dX8_write_46 : decode cX8_write 46 = .ok (.aload_n 0, 1) := by decide +kernel
theorem dX8_write_47 : decode cX8_write 47 = .ok (.getfield 95, 3) := by decide +kernel
theorem dX8_write_50 : decode cX8_write 50 = .ok (.ireturn, 1) := by decide +kernel
theorem dX8_wipe_0 : decode cX8_wipe 0 = .ok (.aload_n 0, 1) := by decide +kernel
theorem dX8_wipe_1 : decode cX8_wipe 1 = .ok (.getfield 95, 3) := by decide +kernel
theorem dX8_wipe_4 : decode cX8_wipe 4 = .ok (.istore_n 1, 1) := by decide +kernel
theorem dX8_wipe_5 : decode cX8_wipe 5 = .ok (.aload_n 0, 1) := by decide +kernel
theorem dX8_wipe_6 : decode cX8_wipe 6 = .ok (.iconst 0, 1) := by decide +kernel
theorem dX8_wipe_7 : decode cX8_wipe 7 = .ok (.putfield 95, 3) := by decide +kernel
theorem dX8_wipe_10 : decode cX8_wipe 10 = .ok (.iload_n 1, 1) := by decide +kernel
theorem dX8_wipe_11 : decode cX8_wipe 11 = .ok (.ireturn, 1) := by decide +kernel
theorem dX8_here_0 : decode cX8_here 0 = .ok (.aload_n 0, 1) := by decide +kernel
theorem dX8_here_1 : decode cX8_here 1 = .ok (.getfield 98, 3) := by decide +kernel
theorem dX8_here_4 : decode cX8_here 4 = .ok (.aload_n 0, 1) := by decide +kernel
theorem dX8_here_5 : decode cX8_here 5 = .ok (.getfield 95, 3) := by decide +kernel
theorem dX8_here_8 : decode cX8_here 8 = .ok (.if_icmp .ge 15, 3) := by decide +kernel
theorem dX8_here_11 : decode cX8_here 11 = .ok (.aload_n 0, 1) := by decide +kernel
theorem dX8_here_12 : decode cX8_here 12 = .ok (.getfield 34, 3) := by decide +kernel
theorem dX8_here_15 : decode cX8_here 15 = .ok (.aload_n 0, 1) := by decide +kernel
theorem dX8_here_16 : decode cX8_here 16 = .ok (.getfield 98, 3) := by decide +kernel
theorem dX8_here_19 : decode cX8_here 19 = .ok (.iaload, 1) := by decide +kernel
theorem dX8_here_20 : decode cX8_here 20 = .ok (.goto 4, 3) := by decide +kernel
theorem dX8_here_23 : decode cX8_here 23 = .ok (.iconst 0, 1) := by decide +kernel
theorem dX8_here_24 : decode cX8_here 24 = .ok (.ireturn, 1) := by decide +kernel
theorem dX8_isFigure_0 : decode cX8_isFigure 0 = .ok (.aload_n 0, 1) := by decide +kernel
theorem dX8_isFigure_1 : decode cX8_isFigure 1 = .ok (.invokevirtual 101, 3) := by decide +kernel
theorem dX8_isFigure_4 : decode cX8_isFigure 4 = .ok (.bipush 48, 2) := by decide +kernel
theorem dX8_isFigure_6 : decode cX8_isFigure 6 = .ok (.bipush 57, 2) := by decide +kernel
theorem dX8_isFigure_8 : decode cX8_isFigure 8 = .ok (.invokestatic 91, 3) := by decide +kernel
theorem dX8_isFigure_11 : decode cX8_isFigure 11 = .ok (.ireturn, 1) := by decide +kernel
theorem dX8_number_0 : decode cX8_number 0 = .ok (.aload_n 0, 1) := by decide +kernel
theorem dX8_number_1 : decode cX8_number 1 = .ok (.invokevirtual 105, 3) := by decide +kernel
theorem dX8_number_4 : decode cX8_number 4 = .ok (.ifCond .ne 5, 3) := by decide +kernel
theorem dX8_number_7 : decode cX8_number 7 = .ok (.iconst 0, 1) := by decide +kernel
theorem dX8_number_8 : decode cX8_number 8 = .ok (.ireturn, 1) := by decide +kernel
theorem dX8_number_9 : decode cX8_number 9 = .ok (.aload_n 0, 1) := by decide +kernel
theorem dX8_number_10 : decode cX8_number 10 = .ok (.invokevirtual 101, 3) := by decide +kernel
theorem dX8_number_13 : decode cX8_number 13 = .ok (.bipush 48, 2) := by decide +kernel
theorem dX8_number_15 : decode cX8_number 15 = .ok (.isub, 1) := by decide +kernel
theorem dX8_number_16 : decode cX8_number 16 = .ok (.istore 4, 2) := by decide +kernel
theorem dX8_number_18 : decode cX8_number 18 = .ok (.aload_n 0, 1) := by decide +kernel
theorem dX8_number_19 : decode cX8_number 19 = .ok (.dup, 1) := by decide +kernel
theorem dX8_number_20 : decode cX8_number 20 = .ok (.getfield 98, 3) := by decide +kernel
theorem dX8_number_23 : decode cX8_number 23 = .ok (.iconst 1, 1) := by decide +kernel
theorem dX8_number_24 : decode cX8_number 24 = .ok (.iadd, 1) := by decide +kernel
theorem dX8_number_25 : decode cX8_number 25 = .ok (.putfield 98, 3) := by decide +kernel
theorem dX8_number_28 : decode cX8_number 28 = .ok (.aload_n 0, 1) := by decide +kernel
theorem dX8_number_29 : decode cX8_number 29 = .ok (.invokevirtual 105, 3) := by decide +kernel
theorem dX8_number_32 : decode cX8_number 32 = .ok (.ifCond .eq 28, 3) := by decide +kernel
theorem dX8_number_35 : decode cX8_number 35 = .ok (.bipush 10, 2) := by decide +kernel
theorem dX8_number_37 : decode cX8_number 37 = .ok (.iload 4, 2) := by decide +kernel
theorem dX8_number_39 : decode cX8_number 39 = .ok (.imul, 1) := by decide +kernel
theorem dX8_number_40 : decode cX8_number 40 = .ok (.aload_n 0, 1) := by decide +kernel
theorem dX8_number_41 : decode cX8_number 41 = .ok (.invokevirtual 101, 3) := by decide +kernel
theorem dX8_number_44 : decode cX8_number 44 = .ok (.iadd, 1) := by decide +kernel
theorem dX8_number_45 : decode cX8_number 45 = .ok (.bipush 48, 2) := by decide +kernel
theorem dX8_number_47 : decode cX8_number 47 = .ok (.isub, 1) := by decide +kernel
theorem dX8_number_48 : decode cX8_number 48 = .ok (.istore 4, 2) := by decide +kernel
theorem dX8_number_50 : decode cX8_number 50 = .ok (.aload_n 0, 1) := by decide +kernel
theorem dX8_number_51 : decode cX8_number 51 = .ok (.dup, 1) := by decide +kernel
theorem dX8_number_52 : decode cX8_number 52 = .ok (.getfield 98, 3) := by decide +kernel
theorem dX8_number_55 : decode cX8_number 55 = .ok (.iconst 1, 1) := by decide +kernel
theorem dX8_number_56 : decode cX8_number 56 = .ok (.iadd, 1) := by decide +kernel
theorem dX8_number_57 : decode cX8_number 57 = .ok (.putfield 98, 3) := by decide +kernel
theorem dX8_number_60 : decode cX8_number 60 = .ok (.aload_n 0, 1) := by decide +kernel
theorem dX8_number_61 : decode cX8_number 61 = .ok (.iload 4, 2) := by decide +kernel
theorem dX8_number_63 : decode cX8_number 63 = .ok (.putfield 109, 3) := by decide +kernel
theorem dX8_number_66 : decode cX8_number 66 = .ok (.aload_n 0, 1) := by decide +kernel
theorem dX8_number_67 : decode cX8_number 67 = .ok (.invokevirtual 101, 3) := by decide +kernel
theorem dX8_number_70 : decode cX8_number 70 = .ok (.iload_n 3, 1) := by decide +kernel
theorem dX8_number_71 : decode cX8_number 71 = .ok (.if_icmp .ne 13, 3) := by decide +kernel
theorem dX8_number_74 : decode cX8_number 74 = .ok (.iload 4, 2) := by decide +kernel
theorem dX8_number_76 : decode cX8_number 76 = .ok (.iload_n 1, 1) := by decide +kernel
theorem dX8_number_77 : decode cX8_number 77 = .ok (.iload_n 2, 1) := by decide +kernel
theorem dX8_number_78 : decode cX8_number 78 = .ok (.invokestatic 91, 3) := by decide +kernel
theorem dX8_number_81 : decode cX8_number 81 = .ok (.ifCond .ne 5, 3) := by decide +kernel
theorem dX8_number_84 : decode cX8_number 84 = .ok (.iconst 0, 1) := by decide +kernel
theorem dX8_number_85 : decode cX8_number 85 = .ok (.ireturn, 1) := by decide +kernel
theorem dX8_number_86 : decode cX8_number 86 = .ok (.aload_n 0, 1) := by decide +kernel
theorem dX8_number_87 : decode cX8_number 87 = .ok (.dup, 1) := by decide +kernel
theorem dX8_number_88 : decode cX8_number 88 = .ok (.getfield 98, 3) := by decide +kernel
theorem dX8_number_91 : decode cX8_number 91 = .ok (.iconst 1, 1) := by decide +kernel
theorem dX8_number_92 : decode cX8_number 92 = .ok (.iadd, 1) := by decide +kernel
theorem dX8_number_93 : decode cX8_number 93 = .ok (.putfield 98, 3) := by decide +kernel
theorem dX8_number_96 : decode cX8_number 96 = .ok (.iconst 1, 1) := by decide +kernel
theorem dX8_number_97 : decode cX8_number 97 = .ok (.ireturn, 1) := by decide +kernel
theorem dX8_readsTeller_0 : decode cX8_readsTeller 0 = .ok (.aload_n 0, 1) := by decide +kernel
theorem dX8_readsTeller_1 : decode cX8_readsTeller 1 = .ok (.getfield 112, 3) := by decide +kernel
theorem dX8_readsTeller_4 : decode cX8_readsTeller 4 = .ok (.iconst 5, 1) := by decide +kernel
theorem dX8_readsTeller_5 : decode cX8_readsTeller 5 = .ok (.if_icmp .eq 14, 3) := by decide +kernel
theorem dX8_readsTeller_8 : decode cX8_readsTeller 8 = .ok (.aload_n 0, 1) := by decide +kernel
theorem dX8_readsTeller_9 : decode cX8_readsTeller 9 = .ok (.iconst 0, 1) := by decide +kernel
theorem dX8_readsTeller_10 : decode cX8_readsTeller 10 = .ok (.iconst 3, 1) := by decide +kernel
theorem dX8_readsTeller_11 : decode cX8_readsTeller 11 = .ok (.bipush 44, 2) := by decide +kernel
theorem dX8_readsTeller_13 : decode cX8_readsTeller 13 = .ok (.invokevirtual 115, 3) := by decide +kernel
theorem dX8_readsTeller_16 : decode cX8_readsTeller 16 = .ok (.ifCond .ne 5, 3) := by decide +kernel
theorem dX8_readsTeller_19 : decode cX8_readsTeller 19 = .ok (.iconst 0, 1) := by decide +kernel
theorem dX8_readsTeller_20 : decode cX8_readsTeller 20 = .ok (.ireturn, 1) := by decide +kernel
theorem dX8_readsTeller_21 : decode cX8_readsTeller 21 = .ok (.aload_n 0, 1) := by decide +kernel
theorem dX8_readsTeller_22 : decode cX8_readsTeller 22 = .ok (.getfield 109, 3) := by decide +kernel
theorem dX8_readsTeller_25 : decode cX8_readsTeller 25 = .ok (.istore_n 1, 1) := by decide +kernel
theorem dX8_readsTeller_26 : decode cX8_readsTeller 26 = .ok (.aload_n 0, 1) := by decide +kernel
theorem dX8_readsTeller_27 : decode cX8_readsTeller 27 = .ok (.iconst 1, 1) := by decide +kernel
theorem dX8_readsTeller_28 : decode cX8_readsTeller 28 = .ok (.bipush 40, 2) := by decide +kernel
theorem dX8_readsTeller_30 : decode cX8_readsTeller 30 = .ok (.bipush 59, 2) := by decide +kernel
theorem dX8_readsTeller_32 : decode cX8_readsTeller 32 = .ok (.invokevirtual 115, 3) := by decide +kernel
theorem dX8_readsTeller_35 : decode cX8_readsTeller 35 = .ok (.ifCond .ne 5, 3) := by decide +kernel
theorem dX8_readsTeller_38 : decode cX8_readsTeller 38 = .ok (.iconst 0, 1) := by decide +kernel
theorem dX8_readsTeller_39 : decode cX8_readsTeller 39 = .ok (.ireturn, 1) := by decide +kernel
theorem dX8_readsTeller_40 : decode cX8_readsTeller 40 = .ok (.aload_n 0, 1) := by decide +kernel
theorem dX8_readsTeller_41 : decode cX8_readsTeller 41 = .ok (.getfield 37, 3) := by decide +kernel
theorem dX8_readsTeller_44 : decode cX8_readsTeller 44 = .ok (.aload_n 0, 1) := by decide +kernel
theorem dX8_readsTeller_45 : decode cX8_readsTeller 45 = .ok (.getfield 112, 3) := by decide +kernel
theorem dX8_readsTeller_48 : decode cX8_readsTeller 48 = .ok (.iload_n 1, 1) := by decide +kernel
theorem dX8_readsTeller_49 : decode cX8_readsTeller 49 = .ok (.iastore, 1) := by decide +kernel
theorem dX8_readsTeller_50 : decode cX8_readsTeller 50 = .ok (.aload_n 0, 1) := by decide +kernel
theorem dX8_readsTeller_51 : decode cX8_readsTeller 51 = .ok (.getfield 40, 3) := by decide +kernel
theorem dX8_readsTeller_54 : decode cX8_readsTeller 54 = .ok (.aload_n 0, 1) := by decide +kernel
theorem dX8_readsTeller_55 : decode cX8_readsTeller 55 = .ok (.getfield 112, 3) := by decide +kernel
theorem dX8_readsTeller_58 : decode cX8_readsTeller 58 = .ok (.aload_n 0, 1) := by decide +kernel
theorem dX8_readsTeller_59 : decode cX8_readsTeller 59 = .ok (.getfield 109, 3) := by decide +kernel
theorem dX8_readsTeller_62 : decode cX8_readsTeller 62 = .ok (.iastore, 1) := by decide +kernel
theorem dX8_readsTeller_63 : decode cX8_readsTeller 63 = .ok (.aload_n 0, 1) := by decide +kernel
theorem dX8_readsTeller_64 : decode cX8_readsTeller 64 = .ok (.dup, 1) := by decide +kernel
theorem dX8_readsTeller_65 : decode cX8_readsTeller 65 = .ok (.getfield 112, 3) := by decide +kernel
theorem dX8_readsTeller_68 : decode cX8_readsTeller 68 = .ok (.iconst 1, 1) := by decide +kernel
theorem dX8_readsTeller_69 : decode cX8_readsTeller 69 = .ok (.iadd, 1) := by decide +kernel
theorem dX8_readsTeller_70 : decode cX8_readsTeller 70 = .ok (.putfield 112, 3) := by decide +kernel
theorem dX8_readsTeller_73 : decode cX8_readsTeller 73 = .ok (.iconst 1, 1) := by decide +kernel
theorem dX8_readsTeller_74 : decode cX8_readsTeller 74 = .ok (.ireturn, 1) := by decide +kernel
theorem dX8_readsFact_0 : decode cX8_readsFact 0 = .ok (.aload_n 0, 1) := by decide +kernel
theorem dX8_readsFact_1 : decode cX8_readsFact 1 = .ok (.getfield 118, 3) := by decide +kernel
theorem dX8_readsFact_4 : decode cX8_readsFact 4 = .ok (.bipush 6, 2) := by decide +kernel
theorem dX8_readsFact_6 : decode cX8_readsFact 6 = .ok (.if_icmp .eq 14, 3) := by decide +kernel
theorem dX8_readsFact_9 : decode cX8_readsFact 9 = .ok (.aload_n 0, 1) := by decide +kernel
theorem dX8_readsFact_10 : decode cX8_readsFact 10 = .ok (.iconst 0, 1) := by decide +kernel
theorem dX8_readsFact_11 : decode cX8_readsFact 11 = .ok (.iconst 1, 1) := by decide +kernel
theorem dX8_readsFact_12 : decode cX8_readsFact 12 = .ok (.bipush 59, 2) := by decide +kernel
theorem dX8_readsFact_14 : decode cX8_readsFact 14 = .ok (.invokevirtual 115, 3) := by decide +kernel
theorem dX8_readsFact_17 : decode cX8_readsFact 17 = .ok (.ifCond .ne 5, 3) := by decide +kernel
theorem dX8_readsFact_20 : decode cX8_readsFact 20 = .ok (.iconst 0, 1) := by decide +kernel
theorem dX8_readsFact_21 : decode cX8_readsFact 21 = .ok (.ireturn, 1) := by decide +kernel
theorem dX8_readsFact_22 : decode cX8_readsFact 22 = .ok (.aload_n 0, 1) := by decide +kernel
theorem dX8_readsFact_23 : decode cX8_readsFact 23 = .ok (.getfield 43, 3) := by decide +kernel
theorem dX8_readsFact_26 : decode cX8_readsFact 26 = .ok (.aload_n 0, 1) := by decide +kernel
theorem dX8_readsFact_27 : decode cX8_readsFact 27 = .ok (.getfield 118, 3) := by decide +kernel
theorem dX8_readsFact_30 : decode cX8_readsFact 30 = .ok (.aload_n 0, 1) := by decide +kernel
theorem dX8_readsFact_31 : decode cX8_readsFact 31 = .ok (.getfield 109, 3) := by decide +kernel
theorem dX8_readsFact_34 : decode cX8_readsFact 34 = .ok (.iastore, 1) := by decide +kernel
theorem dX8_readsFact_35 : decode cX8_readsFact 35 = .ok (.aload_n 0, 1) := by decide +kernel
theorem dX8_readsFact_36 : decode cX8_readsFact 36 = .ok (.dup, 1) := by decide +kernel
theorem dX8_readsFact_37 : decode cX8_readsFact 37 = .ok (.getfield 118, 3) := by decide +kernel
theorem dX8_readsFact_40 : decode cX8_readsFact 40 = .ok (.iconst 1, 1) := by decide +kernel
theorem dX8_readsFact_41 : decode cX8_readsFact 41 = .ok (.iadd, 1) := by decide +kernel
theorem dX8_readsFact_42 : decode cX8_readsFact 42 = .ok (.putfield 118, 3) := by decide +kernel
theorem dX8_readsFact_45 : decode cX8_readsFact 45 = .ok (.iconst 1, 1) := by decide +kernel
theorem dX8_readsFact_46 : decode cX8_readsFact 46 = .ok (.ireturn, 1) := by decide +kernel
theorem dX8_readsClaim_0 : decode cX8_readsClaim 0 = .ok (.aload_n 0, 1) := by decide +kernel
theorem dX8_readsClaim_1 : decode cX8_readsClaim 1 = .ok (.getfield 121, 3) := by decide +kernel
theorem dX8_readsClaim_4 : decode cX8_readsClaim 4 = .ok (.bipush 7, 2) := by decide +kernel
theorem dX8_readsClaim_6 : decode cX8_readsClaim 6 = .ok (.if_icmp .eq 19, 3) := by decide +kernel
theorem dX8_readsClaim_9 : decode cX8_readsClaim 9 = .ok (.aload_n 0, 1) := by decide +kernel
theorem dX8_readsClaim_10 : decode cX8_readsClaim 10 = .ok (.iconst 0, 1) := by decide +kernel
theorem dX8_readsClaim_11 : decode cX8_readsClaim 11 = .ok (.aload_n 0, 1) := by decide +kernel
theorem dX8_readsClaim_12 : decode cX8_readsClaim 12 = .ok (.getfield 112, 3) := by decide +kernel
theorem dX8_readsClaim_15 : decode cX8_readsClaim 15 = .ok (.iconst 1, 1) := by decide +kernel
theorem dX8_readsClaim_16 : decode cX8_readsClaim 16 = .ok (.isub, 1) := by decide +kernel
theorem dX8_readsClaim_17 : decode cX8_readsClaim 17 = .ok (.bipush 44, 2) := by decide +kernel
theorem dX8_readsClaim_19 : decode cX8_readsClaim 19 = .ok (.invokevirtual 115, 3) := by decide +kernel
theorem dX8_readsClaim_22 : decode cX8_readsClaim 22 = .ok (.ifCond .ne 5, 3) := by decide +kernel
theorem dX8_readsClaim_25 : decode cX8_readsClaim 25 = .ok (.iconst 0, 1) := by decide +kernel
theorem dX8_readsClaim_26 : decode cX8_readsClaim 26 = .ok (.ireturn, 1) := by decide +kernel
theorem dX8_readsClaim_27 : decode cX8_readsClaim 27 = .ok (.aload_n 0, 1) := by decide +kernel
theorem dX8_readsClaim_28 : decode cX8_readsClaim 28 = .ok (.getfield 46, 3) := by decide +kernel
theorem dX8_readsClaim_31 : decode cX8_readsClaim 31 = .ok (.iconst 4, 1) := by decide +kernel
theorem dX8_readsClaim_32 : decode cX8_readsClaim 32 = .ok (.aload_n 0, 1) := by decide +kernel
theorem dX8_readsClaim_33 : decode cX8_readsClaim 33 = .ok (.getfield 121, 3) := by decide +kernel
theorem dX8_readsClaim_36 : decode cX8_readsClaim 36 = .ok (.imul, 1) := by decide +kernel
theorem dX8_readsClaim_37 : decode cX8_readsClaim 37 = .ok (.aload_n 0, 1) := by decide +kernel
theorem dX8_readsClaim_38 : decode cX8_readsClaim 38 = .ok (.getfield 109, 3) := by decide +kernel
theorem dX8_readsClaim_41 : decode cX8_readsClaim 41 = .ok (.iastore, 1) := by decide +kernel
theorem dX8_readsClaim_42 : decode cX8_readsClaim 42 = .ok (.aload_n 0, 1) := by decide +kernel
theorem dX8_readsClaim_43 : decode cX8_readsClaim 43 = .ok (.iconst 0, 1) := by decide +kernel
theorem dX8_readsClaim_44 : decode cX8_readsClaim 44 = .ok (.aload_n 0, 1) := by decide +kernel
theorem dX8_readsClaim_45 : decode cX8_readsClaim 45 = .ok (.getfield 118, 3) := by decide +kernel
theorem dX8_readsClaim_48 : decode cX8_readsClaim 48 = .ok (.iconst 1, 1) := by decide +kernel
theorem dX8_readsClaim_49 : decode cX8_readsClaim 49 = .ok (.isub, 1) := by decide +kernel
theorem dX8_readsClaim_50 : decode cX8_readsClaim 50 = .ok (.bipush 44, 2) := by decide +kernel
theorem dX8_readsClaim_52 : decode cX8_readsClaim 52 = .ok (.invokevirtual 115, 3) := by decide +kernel
theorem dX8_readsClaim_55 : decode cX8_readsClaim 55 = .ok (.ifCond .ne 5, 3) := by decide +kernel
theorem dX8_readsClaim_58 : decode cX8_readsClaim 58 = .ok (.iconst 0, 1) := by decide +kernel
theorem dX8_readsClaim_59 : decode cX8_readsClaim 59 = .ok (.ireturn, 1) := by decide +kernel
theorem dX8_readsClaim_60 : decode cX8_readsClaim 60 = .ok (.aload_n 0, 1) := by decide +kernel
theorem dX8_readsClaim_61 : decode cX8_readsClaim 61 = .ok (.getfield 46, 3) := by decide +kernel
theorem dX8_readsClaim_64 : decode cX8_readsClaim 64 = .ok (.iconst 4, 1) := by decide +kernel
theorem dX8_readsClaim_65 : decode cX8_readsClaim 65 = .ok (.aload_n 0, 1) := by decide +kernel
theorem dX8_readsClaim_66 : decode cX8_readsClaim 66 = .ok (.getfield 121, 3) := by decide +kernel
theorem dX8_readsClaim_69 : decode cX8_readsClaim 69 = .ok (.imul, 1) := by decide +kernel
theorem dX8_readsClaim_70 : decode cX8_readsClaim 70 = .ok (.iconst 1, 1) := by decide +kernel
theorem dX8_readsClaim_71 : decode cX8_readsClaim 71 = .ok (.iadd, 1) := by decide +kernel
theorem dX8_readsClaim_72 : decode cX8_readsClaim 72 = .ok (.aload_n 0, 1) := by decide +kernel
theorem dX8_readsClaim_73 : decode cX8_readsClaim 73 = .ok (.getfield 109, 3) := by decide +kernel
theorem dX8_readsClaim_76 : decode cX8_readsClaim 76 = .ok (.iastore, 1) := by decide +kernel
theorem dX8_readsClaim_77 : decode cX8_readsClaim 77 = .ok (.aload_n 0, 1) := by decide +kernel
theorem dX8_readsClaim_78 : decode cX8_readsClaim 78 = .ok (.iconst 0, 1) := by decide +kernel
theorem dX8_readsClaim_79 : decode cX8_readsClaim 79 = .ok (.iconst 1, 1) := by decide +kernel
theorem dX8_readsClaim_80 : decode cX8_readsClaim 80 = .ok (.bipush 44, 2) := by decide +kernel
theorem dX8_readsClaim_82 : decode cX8_readsClaim 82 = .ok (.invokevirtual 115, 3) := by decide +kernel
theorem dX8_readsClaim_85 : decode cX8_readsClaim 85 = .ok (.ifCond .ne 5, 3) := by decide +kernel
theorem dX8_readsClaim_88 : decode cX8_readsClaim 88 = .ok (.iconst 0, 1) := by decide +kernel
theorem dX8_readsClaim_89 : decode cX8_readsClaim 89 = .ok (.ireturn, 1) := by decide +kernel
theorem dX8_readsClaim_90 : decode cX8_readsClaim 90 = .ok (.aload_n 0, 1) := by decide +kernel
theorem dX8_readsClaim_91 : decode cX8_readsClaim 91 = .ok (.getfield 46, 3) := by decide +kernel
theorem dX8_readsClaim_94 : decode cX8_readsClaim 94 = .ok (.iconst 4, 1) := by decide +kernel
theorem dX8_readsClaim_95 : decode cX8_readsClaim 95 = .ok (.aload_n 0, 1) := by decide +kernel
theorem dX8_readsClaim_96 : decode cX8_readsClaim 96 = .ok (.getfield 121, 3) := by decide +kernel
theorem dX8_readsClaim_99 : decode cX8_readsClaim 99 = .ok (.imul, 1) := by decide +kernel
theorem dX8_readsClaim_100 : decode cX8_readsClaim 100 = .ok (.iconst 2, 1) := by decide +kernel
theorem dX8_readsClaim_101 : decode cX8_readsClaim 101 = .ok (.iadd, 1) := by decide +kernel
theorem dX8_readsClaim_102 : decode cX8_readsClaim 102 = .ok (.aload_n 0, 1) := by decide +kernel
theorem dX8_readsClaim_103 : decode cX8_readsClaim 103 = .ok (.getfield 109, 3) := by decide +kernel
theorem dX8_readsClaim_106 : decode cX8_readsClaim 106 = .ok (.iastore, 1) := by decide +kernel
theorem dX8_readsClaim_107 : decode cX8_readsClaim 107 = .ok (.aload_n 0, 1) := by decide +kernel
theorem dX8_readsClaim_108 : decode cX8_readsClaim 108 = .ok (.iconst 1, 1) := by decide +kernel
theorem dX8_readsClaim_109 : decode cX8_readsClaim 109 = .ok (.bipush 20, 2) := by decide +kernel
theorem dX8_readsClaim_111 : decode cX8_readsClaim 111 = .ok (.bipush 59, 2) := by decide +kernel
theorem dX8_readsClaim_113 : decode cX8_readsClaim 113 = .ok (.invokevirtual 115, 3) := by decide +kernel
theorem dX8_readsClaim_116 : decode cX8_readsClaim 116 = .ok (.ifCond .ne 5, 3) := by decide +kernel
theorem dX8_readsClaim_119 : decode cX8_readsClaim 119 = .ok (.iconst 0, 1) := by decide +kernel
theorem dX8_readsClaim_120 : decode cX8_readsClaim 120 = .ok (.ireturn, 1) := by decide +kernel
theorem dX8_readsClaim_121 : decode cX8_readsClaim 121 = .ok (.aload_n 0, 1) := by decide +kernel
theorem dX8_readsClaim_122 : decode cX8_readsClaim 122 = .ok (.getfield 46, 3) := by decide +kernel
theorem dX8_readsClaim_125 : decode cX8_readsClaim 125 = .ok (.iconst 4, 1) := by decide +kernel
theorem dX8_readsClaim_126 : decode cX8_readsClaim 126 = .ok (.aload_n 0, 1) := by decide +kernel
theorem dX8_readsClaim_127 : decode cX8_readsClaim 127 = .ok (.getfield 121, 3) := by decide +kernel
theorem dX8_readsClaim_130 : decode cX8_readsClaim 130 = .ok (.imul, 1) := by decide +kernel
theorem dX8_readsClaim_131 : decode cX8_readsClaim 131 = .ok (.iconst 3, 1) := by decide +kernel
theorem dX8_readsClaim_132 : decode cX8_readsClaim 132 = .ok (.iadd, 1) := by decide +kernel
theorem dX8_readsClaim_133 : decode cX8_readsClaim 133 = .ok (.aload_n 0, 1) := by decide +kernel
theorem dX8_readsClaim_134 : decode cX8_readsClaim 134 = .ok (.getfield 109, 3) := by decide +kernel
theorem dX8_readsClaim_137 : decode cX8_readsClaim 137 = .ok (.iastore, 1) := by decide +kernel
theorem dX8_readsClaim_138 : decode cX8_readsClaim 138 = .ok (.aload_n 0, 1) := by decide +kernel
theorem dX8_readsClaim_139 : decode cX8_readsClaim 139 = .ok (.dup, 1) := by decide +kernel
theorem dX8_readsClaim_140 : decode cX8_readsClaim 140 = .ok (.getfield 121, 3) := by decide +kernel
theorem dX8_readsClaim_143 : decode cX8_readsClaim 143 = .ok (.iconst 1, 1) := by decide +kernel
theorem dX8_readsClaim_144 : decode cX8_readsClaim 144 = .ok (.iadd, 1) := by decide +kernel
theorem dX8_readsClaim_145 : decode cX8_readsClaim 145 = .ok (.putfield 121, 3) := by decide +kernel
theorem dX8_readsClaim_148 : decode cX8_readsClaim 148 = .ok (.iconst 1, 1) := by decide +kernel
theorem dX8_readsClaim_149 : decode cX8_readsClaim 149 = .ok (.ireturn, 1) := by decide +kernel
theorem dX8_readsItem_0 : decode cX8_readsItem 0 = .ok (.aload_n 0, 1) := by decide +kernel
theorem dX8_readsItem_1 : decode cX8_readsItem 1 = .ok (.invokevirtual 101, 3) := by decide +kernel
theorem dX8_readsItem_4 : decode cX8_readsItem 4 = .ok (.istore_n 1, 1) := by decide +kernel
theorem dX8_readsItem_5 : decode cX8_readsItem 5 = .ok (.aload_n 0, 1) := by decide +kernel
theorem dX8_readsItem_6 : decode cX8_readsItem 6 = .ok (.dup, 1) := by decide +kernel
theorem dX8_readsItem_7 : decode cX8_readsItem 7 = .ok (.getfield 98, 3) := by decide +kernel
theorem dX8_readsItem_10 : decode cX8_readsItem 10 = .ok (.iconst 1, 1) := by decide +kernel
theorem dX8_readsItem_11 : decode cX8_readsItem 11 = .ok (.iadd, 1) := by decide +kernel
theorem dX8_readsItem_12 : decode cX8_readsItem 12 = .ok (.putfield 98, 3) := by decide +kernel
theorem dX8_readsItem_15 : decode cX8_readsItem 15 = .ok (.iload_n 1, 1) := by decide +kernel
theorem dX8_readsItem_16 : decode cX8_readsItem 16 = .ok (.bipush 116, 2) := by decide +kernel
theorem dX8_readsItem_18 : decode cX8_readsItem 18 = .ok (.if_icmp .ne 10, 3) := by decide +kernel
theorem dX8_readsItem_21 : decode cX8_readsItem 21 = .ok (.aload_n 0, 1) := by decide +kernel
theorem dX8_readsItem_22 : decode cX8_readsItem 22 = .ok (.invokevirtual 124, 3) := by decide +kernel
theorem dX8_readsItem_25 : decode cX8_readsItem 25 = .ok (.goto 34, 3) := by decide +kernel
theorem dX8_readsItem_28 : decode cX8_readsItem 28 = .ok (.iload_n 1, 1) := by decide +kernel
theorem dX8_readsItem_29 : decode cX8_readsItem 29 = .ok (.bipush 102, 2) := by decide +kernel
theorem dX8_readsItem_31 : decode cX8_readsItem 31 = .ok (.if_icmp .ne 10, 3) := by decide +kernel
theorem dX8_readsItem_34 : decode cX8_readsItem 34 = .ok (.aload_n 0, 1) := by decide +kernel
theorem dX8_readsItem_35 : decode cX8_readsItem 35 = .ok (.invokevirtual 127, 3) := by decide +kernel
theorem dX8_readsItem_38 : decode cX8_readsItem 38 = .ok (.goto 21, 3) := by decide +kernel
theorem dX8_readsItem_41 : decode cX8_readsItem 41 = .ok (.iload_n 1, 1) := by decide +kernel
theorem dX8_readsItem_42 : decode cX8_readsItem 42 = .ok (.bipush 99, 2) := by decide +kernel
theorem dX8_readsItem_44 : decode cX8_readsItem 44 = .ok (.if_icmp .ne 14, 3) := by decide +kernel
theorem dX8_readsItem_47 : decode cX8_readsItem 47 = .ok (.aload_n 0, 1) := by decide +kernel
theorem dX8_readsItem_48 : decode cX8_readsItem 48 = .ok (.invokevirtual 130, 3) := by decide +kernel
theorem dX8_readsItem_51 : decode cX8_readsItem 51 = .ok (.ifCond .eq 7, 3) := by decide +kernel
theorem dX8_readsItem_54 : decode cX8_readsItem 54 = .ok (.iconst 1, 1) := by decide +kernel
theorem dX8_readsItem_55 : decode cX8_readsItem 55 = .ok (.goto 4, 3) := by decide +kernel
theorem dX8_readsItem_58 : decode cX8_readsItem 58 = .ok (.iconst 0, 1) := by decide +kernel
theorem dX8_readsItem_59 : decode cX8_readsItem 59 = .ok (.ireturn, 1) := by decide +kernel
theorem dX8_fault_0 : decode cX8_fault 0 = .ok (.aload_n 0, 1) := by decide +kernel
theorem dX8_fault_1 : decode cX8_fault 1 = .ok (.iconst 0, 1) := by decide +kernel
theorem dX8_fault_2 : decode cX8_fault 2 = .ok (.putfield 98, 3) := by decide +kernel
theorem dX8_fault_5 : decode cX8_fault 5 = .ok (.aload_n 0, 1) := by decide +kernel
theorem dX8_fault_6 : decode cX8_fault 6 = .ok (.iconst 0, 1) := by decide +kernel
theorem dX8_fault_7 : decode cX8_fault 7 = .ok (.putfield 112, 3) := by decide +kernel
theorem dX8_fault_10 : decode cX8_fault 10 = .ok (.aload_n 0, 1) := by decide +kernel
theorem dX8_fault_11 : decode cX8_fault 11 = .ok (.iconst 0, 1) := by decide +kernel
theorem dX8_fault_12 : decode cX8_fault 12 = .ok (.putfield 118, 3) := by decide +kernel
theorem dX8_fault_15 : decode cX8_fault 15 = .ok (.aload_n 0, 1) := by decide +kernel
theorem dX8_fault_16 : decode cX8_fault 16 = .ok (.iconst 0, 1) := by decide +kernel
theorem dX8_fault_17 : decode cX8_fault 17 = .ok (.putfield 121, 3) := by decide +kernel
theorem dX8_fault_20 : decode cX8_fault 20 = .ok (.aload_n 0, 1) := by decide +kernel
theorem dX8_fault_21 : decode cX8_fault 21 = .ok (.getfield 98, 3) := by decide +kernel
theorem dX8_fault_24 : decode cX8_fault 24 = .ok (.aload_n 0, 1) := by decide +kernel
theorem dX8_fault_25 : decode cX8_fault 25 = .ok (.getfield 95, 3) := by decide +kernel
theorem dX8_fault_28 : decode cX8_fault 28 = .ok (.if_icmp .ge 20, 3) := by decide +kernel
theorem dX8_fault_31 : decode cX8_fault 31 = .ok (.aload_n 0, 1) := by decide +kernel
theorem dX8_fault_32 : decode cX8_fault 32 = .ok (.getfield 98, 3) := by decide +kernel
theorem dX8_fault_35 : decode cX8_fault 35 = .ok (.istore_n 1, 1) := by decide +kernel
theorem dX8_fault_36 : decode cX8_fault 36 = .ok (.aload_n 0, 1) := by decide +kernel
theorem dX8_fault_37 : decode cX8_fault 37 = .ok (.invokevirtual 133, 3) := by decide +kernel
theorem dX8_fault_40 : decode cX8_fault 40 = .ok (.ifCond .ne 5, 3) := by decide +kernel
theorem dX8_fault_43 : decode cX8_fault 43 = .ok (.iload_n 1, 1) := by decide +kernel
theorem dX8_fault_44 : decode cX8_fault 44 = .ok (.ireturn, 1) := by decide +kernel
theorem dX8_fault_45 : decode cX8_fault 45 = .ok (.goto (-25), 3) := by decide +kernel
theorem dX8_fault_48 : decode cX8_fault 48 = .ok (.bipush (-4), 2) := by decide +kernel
theorem dX8_fault_50 : decode cX8_fault 50 = .ok (.ireturn, 1) := by decide +kernel
theorem dX8_lay_0 : decode cX8_lay 0 = .ok (.aload_n 0, 1) := by decide +kernel
theorem dX8_lay_1 : decode cX8_lay 1 = .ok (.invokevirtual 136, 3) := by decide +kernel
theorem dX8_lay_4 : decode cX8_lay 4 = .ok (.bipush (-4), 2) := by decide +kernel
theorem dX8_lay_6 : decode cX8_lay 6 = .ok (.if_icmp .ne 17, 3) := by decide +kernel
theorem dX8_lay_9 : decode cX8_lay 9 = .ok (.aload_n 0, 1) := by decide +kernel
theorem dX8_lay_10 : decode cX8_lay 10 = .ok (.getfield 112, 3) := by decide +kernel
theorem dX8_lay_13 : decode cX8_lay 13 = .ok (.ifCond .eq 10, 3) := by decide +kernel
theorem dX8_lay_16 : decode cX8_lay 16 = .ok (.aload_n 0, 1) := by decide +kernel
theorem dX8_lay_17 : decode cX8_lay 17 = .ok (.getfield 118, 3) := by decide +kernel
theorem dX8_lay_20 : decode cX8_lay 20 = .ok (.ifCond .ne 6, 3) := by decide +kernel
theorem dX8_lay_23 : decode cX8_lay 23 = .ok (.bipush (-2), 2) := by decide +kernel
theorem dX8_lay_25 : decode cX8_lay 25 = .ok (.ireturn, 1) := by decide +kernel
theorem dX8_lay_26 : decode cX8_lay 26 = .ok (.aload_n 0, 1) := by decide +kernel
theorem dX8_lay_27 : decode cX8_lay 27 = .ok (.aload_n 0, 1) := by decide +kernel
theorem dX8_lay_28 : decode cX8_lay 28 = .ok (.getfield 112, 3) := by decide +kernel
theorem dX8_lay_31 : decode cX8_lay 31 = .ok (.putfield 88, 3) := by decide +kernel
theorem dX8_lay_34 : decode cX8_lay 34 = .ok (.aload_n 0, 1) := by decide +kernel
theorem dX8_lay_35 : decode cX8_lay 35 = .ok (.aload_n 0, 1) := by decide +kernel
theorem dX8_lay_36 : decode cX8_lay 36 = .ok (.getfield 118, 3) := by decide +kernel
theorem dX8_lay_39 : decode cX8_lay 39 = .ok (.putfield 74, 3) := by decide +kernel
theorem dX8_lay_42 : decode cX8_lay 42 = .ok (.aload_n 0, 1) := by decide +kernel
theorem dX8_lay_43 : decode cX8_lay 43 = .ok (.aload_n 0, 1) := by decide +kernel
theorem dX8_lay_44 : decode cX8_lay 44 = .ok (.getfield 121, 3) := by decide +kernel
theorem dX8_lay_47 : decode cX8_lay 47 = .ok (.putfield 85, 3) := by decide +kernel
theorem dX8_lay_50 : decode cX8_lay 50 = .ok (.iconst 0, 1) := by decide +kernel
theorem dX8_lay_51 : decode cX8_lay 51 = .ok (.istore_n 1, 1) := by decide +kernel
theorem dX8_lay_52 : decode cX8_lay 52 = .ok (.iload_n 1, 1) := by decide +kernel
theorem dX8_lay_53 : decode cX8_lay 53 = .ok (.iconst 5, 1) := by decide +kernel
theorem dX8_lay_54 : decode cX8_lay 54 = .ok (.if_icmp .ge 33, 3) := by decide +kernel
theorem dX8_lay_57 : decode cX8_lay 57 = .ok (.aload_n 0, 1) := by decide +kernel
theorem dX8_lay_58 : decode cX8_lay 58 = .ok (.getfield 9, 3) := by decide +kernel
theorem dX8_lay_61 : decode cX8_lay 61 = .ok (.iload_n 1, 1) := by decide +kernel
theorem dX8_lay_62 : decode cX8_lay 62 = .ok (.aload_n 0, 1) := by decide +kernel
theorem dX8_lay_63 : decode cX8_lay 63 = .ok (.getfield 37, 3) := by decide +kernel
theorem dX8_lay_66 : decode cX8_lay 66 = .ok (.iload_n 1, 1) := by decide +kernel
theorem dX8_lay_67 : decode cX8_lay 67 = .ok (.iaload, 1) := by decide +kernel
theorem dX8_lay_68 : decode cX8_lay 68 = .ok (.iastore, 1) := by decide +kernel
theorem dX8_lay_69 : decode cX8_lay 69 = .ok (.aload_n 0, 1) := by decide +kernel
theorem dX8_lay_70 : decode cX8_lay 70 = .ok (.getfield 13, 3) := by decide +kernel
theorem dX8_lay_73 : decode cX8_lay 73 = .ok (.iload_n 1, 1) := by decide +kernel
theorem dX8_lay_74 : decode cX8_lay 74 = .ok (.aload_n 0, 1) := by decide +kernel
theorem dX8_lay_75 : decode cX8_lay 75 = .ok (.getfield 40, 3) := by decide +kernel
theorem dX8_lay_78 : decode cX8_lay 78 = .ok (.iload_n 1, 1) := by decide +kernel
theorem dX8_lay_79 : decode cX8_lay 79 = .ok (.iaload, 1) := by decide +kernel
theorem dX8_lay_80 : decode cX8_lay 80 = .ok (.iastore, 1) := by decide +kernel
theorem dX8_lay_81 : decode cX8_lay 81 = .ok (.iinc 1 1, 3) := by decide +kernel
theorem dX8_lay_84 : decode cX8_lay 84 = .ok (.goto (-32), 3) := by decide +kernel
theorem dX8_lay_87 : decode cX8_lay 87 = .ok (.aload_n 0, 1) := by decide +kernel
theorem dX8_lay_88 : decode cX8_lay 88 = .ok (.iconst 0, 1) := by decide +kernel
theorem dX8_lay_89 : decode cX8_lay 89 = .ok (.putfield 78, 3) := by decide +kernel
theorem dX8_lay_92 : decode cX8_lay 92 = .ok (.iconst 0, 1) := by decide +kernel
theorem dX8_lay_93 : decode cX8_lay 93 = .ok (.istore_n 1, 1) := by decide +kernel
theorem dX8_lay_94 : decode cX8_lay 94 = .ok (.iload_n 1, 1) := by decide +kernel
theorem dX8_lay_95 : decode cX8_lay 95 = .ok (.aload_n 0, 1) := by decide +kernel
theorem dX8_lay_96 : decode cX8_lay 96 = .ok (.getfield 74, 3) := by decide +kernel
theorem dX8_lay_99 : decode cX8_lay 99 = .ok (.if_icmp .ge 26, 3) := by decide +kernel
theorem dX8_lay_102 : decode cX8_lay 102 = .ok (.aload_n 0, 1) := by decide +kernel
theorem dX8_lay_103 : decode cX8_lay 103 = .ok (.dup, 1) := by decide +kernel
theorem dX8_lay_104 : decode cX8_lay 104 = .ok (.getfield 78, 3) := by decide +kernel
theorem dX8_lay_107 : decode cX8_lay 107 = .ok (.aload_n 0, 1) := by decide +kernel
theorem dX8_lay_108 : decode cX8_lay 108 = .ok (.getfield 43, 3) := by decide +kernel
theorem dX8_lay_111 : decode cX8_lay 111 = .ok (.iload_n 1, 1) := by decide +kernel
theorem dX8_lay_112 : decode cX8_lay 112 = .ok (.iaload, 1) := by decide +kernel
theorem dX8_lay_113 : decode cX8_lay 113 = .ok (.iload_n 1, 1) := by decide +kernel
theorem dX8_lay_114 : decode cX8_lay 114 = .ok (.ishl, 1) := by decide +kernel
theorem dX8_lay_115 : decode cX8_lay 115 = .ok (.ior, 1) := by decide +kernel
theorem dX8_lay_116 : decode cX8_lay 116 = .ok (.putfield 78, 3) := by decide +kernel
theorem dX8_lay_119 : decode cX8_lay 119 = .ok (.iinc 1 1, 3) := by decide +kernel
theorem dX8_lay_122 : decode cX8_lay 122 = .ok (.goto (-28), 3) := by decide +kernel
theorem dX8_lay_125 : decode cX8_lay 125 = .ok (.iconst 0, 1) := by decide +kernel
theorem dX8_lay_126 : decode cX8_lay 126 = .ok (.istore_n 1, 1) := by decide +kernel
theorem dX8_lay_127 : decode cX8_lay 127 = .ok (.iload_n 1, 1) := by decide +kernel
theorem dX8_lay_128 : decode cX8_lay 128 = .ok (.aload_n 0, 1) := by decide +kernel
theorem dX8_lay_129 : decode cX8_lay 129 = .ok (.getfield 85, 3) := by decide +kernel
theorem dX8_lay_132 : decode cX8_lay 132 = .ok (.if_icmp .ge 52, 3) := by decide +kernel
theorem dX8_lay_135 : decode cX8_lay 135 = .ok (.aload_n 0, 1) := by decide +kernel
theorem dX8_lay_136 : decode cX8_lay 136 = .ok (.iload_n 1, 1) := by decide +kernel
theorem dX8_lay_137 : decode cX8_lay 137 = .ok (.aload_n 0, 1) := by decide +kernel
theorem dX8_lay_138 : decode cX8_lay 138 = .ok (.getfield 46, 3) := by decide +kernel
theorem dX8_lay_141 : decode cX8_lay 141 = .ok (.iconst 4, 1) := by decide +kernel
theorem dX8_lay_142 : decode cX8_lay 142 = .ok (.iload_n 1, 1) := by decide +kernel
theorem dX8_lay_143 : decode cX8_lay 143 = .ok (.imul, 1) := by decide +kernel
theorem dX8_lay_144 : decode cX8_lay 144 = .ok (.iaload, 1) := by decide +kernel
theorem dX8_lay_145 : decode cX8_lay 145 = .ok (.aload_n 0, 1) := by decide +kernel
theorem dX8_lay_146 : decode cX8_lay 146 = .ok (.getfield 46, 3) := by decide +kernel
theorem dX8_lay_149 : decode cX8_lay 149 = .ok (.iconst 4, 1) := by decide +kernel
theorem dX8_lay_150 : decode cX8_lay 150 = .ok (.iload_n 1, 1) := by decide +kernel
theorem dX8_lay_151 : decode cX8_lay 151 = .ok (.imul, 1) := by decide +kernel
theorem dX8_lay_152 : decode cX8_lay 152 = .ok (.iconst 1, 1) := by decide +kernel
theorem dX8_lay_153 : decode cX8_lay 153 = .ok (.iadd, 1) := by decide +kernel
theorem dX8_lay_154 : decode cX8_lay 154 = .ok (.iaload, 1) := by decide +kernel
theorem dX8_lay_155 : decode cX8_lay 155 = .ok (.aload_n 0, 1) := by decide +kernel
theorem dX8_lay_156 : decode cX8_lay 156 = .ok (.getfield 46, 3) := by decide +kernel
theorem dX8_lay_159 : decode cX8_lay 159 = .ok (.iconst 4, 1) := by decide +kernel
theorem dX8_lay_160 : decode cX8_lay 160 = .ok (.iload_n 1, 1) := by decide +kernel
theorem dX8_lay_161 : decode cX8_lay 161 = .ok (.imul, 1) := by decide +kernel
theorem dX8_lay_162 : decode cX8_lay 162 = .ok (.iconst 2, 1) := by decide +kernel
theorem dX8_lay_163 : decode cX8_lay 163 = .ok (.iadd, 1) := by decide +kernel
theorem dX8_lay_164 : decode cX8_lay 164 = .ok (.iaload, 1) := by decide +kernel
theorem dX8_lay_165 : decode cX8_lay 165 = .ok (.aload_n 0, 1) := by decide +kernel
theorem dX8_lay_166 : decode cX8_lay 166 = .ok (.getfield 46, 3) := by decide +kernel
theorem dX8_lay_169 : decode cX8_lay 169 = .ok (.iconst 4, 1) := by decide +kernel
theorem dX8_lay_170 : decode cX8_lay 170 = .ok (.iload_n 1, 1) := by decide +kernel
theorem dX8_lay_171 : decode cX8_lay 171 = .ok (.imul, 1) := by decide +kernel
theorem dX8_lay_172 : decode cX8_lay 172 = .ok (.iconst 3, 1) := by decide +kernel
theorem dX8_lay_173 : decode cX8_lay 173 = .ok (.iadd, 1) := by decide +kernel
theorem dX8_lay_174 : decode cX8_lay 174 = .ok (.iaload, 1) := by decide +kernel
theorem dX8_lay_175 : decode cX8_lay 175 = .ok (.invokevirtual 81, 3) := by decide +kernel
theorem dX8_lay_178 : decode cX8_lay 178 = .ok (.iinc 1 1, 3) := by decide +kernel
theorem dX8_lay_181 : decode cX8_lay 181 = .ok (.goto (-54), 3) := by decide +kernel
theorem dX8_lay_184 : decode cX8_lay 184 = .ok (.aload_n 0, 1) := by decide +kernel
theorem dX8_lay_185 : decode cX8_lay 185 = .ok (.iconst 0, 1) := by decide +kernel
theorem dX8_lay_186 : decode cX8_lay 186 = .ok (.putfield 139, 3) := by decide +kernel
theorem dX8_lay_189 : decode cX8_lay 189 = .ok (.aload_n 0, 1) := by decide +kernel
theorem dX8_lay_190 : decode cX8_lay 190 = .ok (.iconst 0, 1) := by decide +kernel
theorem dX8_lay_191 : decode cX8_lay 191 = .ok (.putfield 142, 3) := by decide +kernel
theorem dX8_lay_194 : decode cX8_lay 194 = .ok (.aload_n 0, 1) := by decide +kernel
theorem dX8_lay_195 : decode cX8_lay 195 = .ok (.iconst 0, 1) := by decide +kernel
theorem dX8_lay_196 : decode cX8_lay 196 = .ok (.putfield 145, 3) := by decide +kernel
theorem dX8_lay_199 : decode cX8_lay 199 = .ok (.aload_n 0, 1) := by decide +kernel
theorem dX8_lay_200 : decode cX8_lay 200 = .ok (.getfield 88, 3) := by decide +kernel
theorem dX8_lay_203 : decode cX8_lay 203 = .ok (.ireturn, 1) := by decide +kernel
theorem dX8_isFalse_0 : decode cX8_isFalse 0 = .ok (.aload_n 0, 1) := by decide +kernel
theorem dX8_isFalse_1 : decode cX8_isFalse 1 = .ok (.getfield 78, 3) := by decide +kernel
theorem dX8_isFalse_4 : decode cX8_isFalse 4 = .ok (.aload_n 0, 1) := by decide +kernel
theorem dX8_isFalse_5 : decode cX8_isFalse 5 = .ok (.getfield 19, 3) := by decide +kernel
theorem dX8_isFalse_8 : decode cX8_isFalse 8 = .ok (.iload_n 1, 1) := by decide +kernel
theorem dX8_isFalse_9 : decode cX8_isFalse 9 = .ok (.iaload, 1) := by decide +kernel
theorem dX8_isFalse_10 : decode cX8_isFalse 10 = .ok (.ishr, 1) := by decide +kernel
theorem dX8_isFalse_11 : decode cX8_isFalse 11 = .ok (.iconst 1, 1) := by decide +kernel
theorem dX8_isFalse_12 : decode cX8_isFalse 12 = .ok (.iand, 1) := by decide +kernel
theorem dX8_isFalse_13 : decode cX8_isFalse 13 = .ok (.aload_n 0, 1) := by decide +kernel
theorem dX8_isFalse_14 : decode cX8_isFalse 14 = .ok (.getfield 22, 3) := by decide +kernel
theorem dX8_isFalse_17 : decode cX8_isFalse 17 = .ok (.iload_n 1, 1) := by decide +kernel
theorem dX8_isFalse_18 : decode cX8_isFalse 18 = .ok (.iaload, 1) := by decide +kernel
theorem dX8_isFalse_19 : decode cX8_isFalse 19 = .ok (.if_icmp .eq 7, 3) := by decide +kernel
theorem dX8_isFalse_22 : decode cX8_isFalse 22 = .ok (.iconst 1, 1) := by decide +kernel
theorem dX8_isFalse_23 : decode cX8_isFalse 23 = .ok (.goto 4, 3) := by decide +kernel
theorem dX8_isFalse_26 : decode cX8_isFalse 26 = .ok (.iconst 0, 1) := by decide +kernel
theorem dX8_isFalse_27 : decode cX8_isFalse 27 = .ok (.ireturn, 1) := by decide +kernel
theorem dX8_hotter_0 : decode cX8_hotter 0 = .ok (.iload_n 1, 1) := by decide +kernel
theorem dX8_hotter_1 : decode cX8_hotter 1 = .ok (.ifCond .eq 7, 3) := by decide +kernel
theorem dX8_hotter_4 : decode cX8_hotter 4 = .ok (.iload_n 2, 1) := by decide +kernel
theorem dX8_hotter_5 : decode cX8_hotter 5 = .ok (.goto 4, 3) := by decide +kernel
theorem dX8_hotter_8 : decode cX8_hotter 8 = .ok (.iconst 1, 1) := by decide +kernel
theorem dX8_hotter_9 : decode cX8_hotter 9 = .ok (.istore_n 3, 1) := by decide +kernel
theorem dX8_hotter_10 : decode cX8_hotter 10 = .ok (.iload_n 0, 1) := by decide +kernel
theorem dX8_hotter_11 : decode cX8_hotter 11 = .ok (.tableswitch 45 1 3 #[25, 29, 41], 25) := by decide +kernel
theorem dX8_hotter_36 : decode cX8_hotter 36 = .ok (.iload_n 3, 1) := by decide +kernel
theorem dX8_hotter_37 : decode cX8_hotter 37 = .ok (.iconst 2, 1) := by decide +kernel
theorem dX8_hotter_38 : decode cX8_hotter 38 = .ok (.idiv, 1) := by decide +kernel
theorem dX8_hotter_39 : decode cX8_hotter 39 = .ok (.ireturn, 1) := by decide +kernel
theorem dX8_hotter_40 : decode cX8_hotter 40 = .ok (.iload_n 1, 1) := by decide +kernel
theorem dX8_hotter_41 : decode cX8_hotter 41 = .ok (.ifCond .eq 9, 3) := by decide +kernel
theorem dX8_hotter_44 : decode cX8_hotter 44 = .ok (.iconst 2, 1) := by decide +kernel
theorem dX8_hotter_45 : decode cX8_hotter 45 = .ok (.iload_n 2, 1) := by decide +kernel
theorem dX8_hotter_46 : decode cX8_hotter 46 = .ok (.imul, 1) := by decide +kernel
theorem dX8_hotter_47 : decode cX8_hotter 47 = .ok (.goto 4, 3) := by decide +kernel
theorem dX8_hotter_50 : decode cX8_hotter 50 = .ok (.iconst 1, 1) := by decide +kernel
theorem dX8_hotter_51 : decode cX8_hotter 51 = .ok (.ireturn, 1) := by decide +kernel
theorem dX8_hotter_52 : decode cX8_hotter 52 = .ok (.iload_n 3, 1) := by decide +kernel
theorem dX8_hotter_53 : decode cX8_hotter 53 = .ok (.iconst 1, 1) := by decide +kernel
theorem dX8_hotter_54 : decode cX8_hotter 54 = .ok (.iadd, 1) := by decide +kernel
theorem dX8_hotter_55 : decode cX8_hotter 55 = .ok (.ireturn, 1) := by decide +kernel
theorem dX8_hotter_56 : decode cX8_hotter 56 = .ok (.iload_n 3, 1) := by decide +kernel
theorem dX8_hotter_57 : decode cX8_hotter 57 = .ok (.ireturn, 1) := by decide +kernel
theorem dX8_evening_0 : decode cX8_evening 0 = .ok (.iconst 0, 1) := by decide +kernel
theorem dX8_evening_1 : decode cX8_evening 1 = .ok (.istore_n 2, 1) := by decide +kernel
theorem dX8_evening_2 : decode cX8_evening 2 = .ok (.iload_n 2, 1) := by decide +kernel
theorem dX8_evening_3 : decode cX8_evening 3 = .ok (.aload_n 0, 1) := by decide +kernel
theorem dX8_evening_4 : decode cX8_evening 4 = .ok (.getfield 88, 3) := by decide +kernel
theorem dX8_evening_7 : decode cX8_evening 7 = .ok (.if_icmp .ge 17, 3) := by decide +kernel
theorem dX8_evening_10 : decode cX8_evening 10 = .ok (.aload_n 0, 1) := by decide +kernel
theorem dX8_evening_11 : decode cX8_evening 11 = .ok (.getfield 52, 3) := by decide +kernel
theorem dX8_evening_14 : decode cX8_evening 14 = .ok (.iload_n 2, 1) := by decide +kernel
theorem dX8_evening_15 : decode cX8_evening 15 = .ok (.bipush (-4), 2) := by decide +kernel
theorem dX8_evening_17 : decode cX8_evening 17 = .ok (.iastore, 1) := by decide +kernel
theorem dX8_evening_18 : decode cX8_evening 18 = .ok (.iinc 2 1, 3) := by decide +kernel
theorem dX8_evening_21 : decode cX8_evening 21 = .ok (.goto (-19), 3) := by decide +kernel
theorem dX8_evening_24 : decode cX8_evening 24 = .ok (.iconst 0, 1) := by decide +kernel
theorem dX8_evening_25 : decode cX8_evening 25 = .ok (.istore_n 2, 1) := by decide +kernel
theorem dX8_evening_26 : decode cX8_evening 26 = .ok (.iload_n 2, 1) := by decide +kernel
theorem dX8_evening_27 : decode cX8_evening 27 = .ok (.bipush 8, 2) := by decide +kernel
theorem dX8_evening_29 : decode cX8_evening 29 = .ok (.if_icmp .ge 17, 3) := by decide +kernel
theorem dX8_evening_32 : decode cX8_evening 32 = .ok (.aload_n 0, 1) := by decide +kernel
theorem dX8_evening_33 : decode cX8_evening 33 = .ok (.getfield 55, 3) := by decide +kernel
theorem dX8_evening_36 : decode cX8_evening 36 = .ok (.iload_n 2, 1) := by decide +kernel
theorem dX8_evening_37 : decode cX8_evening 37 = .ok (.bipush (-4), 2) := by decide +kernel
theorem dX8_evening_39 : decode cX8_evening 39 = .ok (.iastore, 1) := by decide +kernel
theorem dX8_evening_40 : decode cX8_evening 40 = .ok (.iinc 2 1, 3) := by decide +kernel
theorem dX8_evening_43 : decode cX8_evening 43 = .ok (.goto (-17), 3) := by decide +kernel
theorem dX8_evening_46 : decode cX8_evening 46 = .ok (.aload_n 0, 1) := by decide +kernel
theorem dX8_evening_47 : decode cX8_evening 47 = .ok (.iconst 0, 1) := by decide +kernel
theorem dX8_evening_48 : decode cX8_evening 48 = .ok (.putfield 148, 3) := by decide +kernel
theorem dX8_evening_51 : decode cX8_evening 51 = .ok (.aload_n 0, 1) := by decide +kernel
theorem dX8_evening_52 : decode cX8_evening 52 = .ok (.iconst 0, 1) := by decide +kernel
theorem dX8_evening_53 : decode cX8_evening 53 = .ok (.putfield 151, 3) := by decide +kernel
theorem dX8_evening_56 : decode cX8_evening 56 = .ok (.iconst 0, 1) := by decide +kernel
theorem dX8_evening_57 : decode cX8_evening 57 = .ok (.istore_n 2, 1) := by decide +kernel
theorem dX8_evening_58 : decode cX8_evening 58 = .ok (.bipush (-4), 2) := by decide +kernel
theorem dX8_evening_60 : decode cX8_evening 60 = .ok (.istore_n 3, 1) := by decide +kernel
theorem dX8_evening_61 : decode cX8_evening 61 = .ok (.iconst 0, 1) := by decide +kernel
theorem dX8_evening_62 : decode cX8_evening 62 = .ok (.istore 4, 2) := by decide +kernel
theorem dX8_evening_64 : decode cX8_evening 64 = .ok (.iload 4, 2) := by decide +kernel
theorem dX8_evening_66 : decode cX8_evening 66 = .ok (.iload_n 1, 1) := by decide +kernel
theorem dX8_evening_67 : decode cX8_evening 67 = .ok (.if_icmp .ge 151, 3) := by decide +kernel
theorem dX8_evening_70 : decode cX8_evening 70 = .ok (.aload_n 0, 1) := by decide +kernel
theorem dX8_evening_71 : decode cX8_evening 71 = .ok (.getfield 49, 3) := by decide +kernel
theorem dX8_evening_74 : decode cX8_evening 74 = .ok (.iload 4, 2) := by decide +kernel
theorem dX8_evening_76 : decode cX8_evening 76 = .ok (.iaload, 1) := by decide +kernel
theorem dX8_evening_77 : decode cX8_evening 77 = .ok (.istore 5, 2) := by decide +kernel
theorem dX8_evening_79 : decode cX8_evening 79 = .ok (.aload_n 0, 1) := by decide +kernel
theorem dX8_evening_80 : decode cX8_evening 80 = .ok (.getfield 16, 3) := by decide +kernel
theorem dX8_evening_83 : decode cX8_evening 83 = .ok (.iload 5, 2) := by decide +kernel
theorem dX8_evening_85 : decode cX8_evening 85 = .ok (.iaload, 1) := by decide +kernel
theorem dX8_evening_86 : decode cX8_evening 86 = .ok (.istore 6, 2) := by decide +kernel
theorem dX8_evening_88 : decode cX8_evening 88 = .ok (.aload_n 0, 1) := by decide +kernel
theorem dX8_evening_89 : decode cX8_evening 89 = .ok (.getfield 52, 3) := by decide +kernel
theorem dX8_evening_92 : decode cX8_evening 92 = .ok (.iload 6, 2) := by decide +kernel
theorem dX8_evening_94 : decode cX8_evening 94 = .ok (.iaload, 1) := by decide +kernel
theorem dX8_evening_95 : decode cX8_evening 95 = .ok (.bipush (-4), 2) := by decide +kernel
theorem dX8_evening_97 : decode cX8_evening 97 = .ok (.if_icmp .ne 115, 3) := by decide +kernel
theorem dX8_evening_100 : decode cX8_evening 100 = .ok (.iload_n 3, 1) := by decide +kernel
theorem dX8_evening_101 : decode cX8_evening 101 = .ok (.bipush (-4), 2) := by decide +kernel
theorem dX8_evening_103 : decode cX8_evening 103 = .ok (.if_icmp .eq 15, 3) := by decide +kernel
theorem dX8_evening_106 : decode cX8_evening 106 = .ok (.iload_n 3, 1) := by decide +kernel
theorem dX8_evening_107 : decode cX8_evening 107 = .ok (.iload 6, 2) := by decide +kernel
theorem dX8_evening_109 : decode cX8_evening 109 = .ok (.if_icmp .eq 9, 3) := by decide +kernel
theorem dX8_evening_112 : decode cX8_evening 112 = .ok (.iload_n 2, 1) := by decide +kernel
theorem dX8_evening_113 : decode cX8_evening 113 = .ok (.iconst 2, 1) := by decide +kernel
theorem dX8_evening_114 : decode cX8_evening 114 = .ok (.idiv, 1) := by decide +kernel
theorem dX8_evening_115 : decode cX8_evening 115 = .ok (.goto 4, 3) := by decide +kernel
theorem dX8_evening_118 : decode cX8_evening 118 = .ok (.iload_n 2, 1) := by decide +kernel
theorem dX8_evening_119 : decode cX8_evening 119 = .ok (.istore_n 2, 1) := by decide +kernel
theorem dX8_evening_120 : decode cX8_evening 120 = .ok (.iload_n 2, 1) := by decide +kernel
theorem dX8_evening_121 : decode cX8_evening 121 = .ok (.aload_n 0, 1) := by decide +kernel
theorem dX8_evening_122 : decode cX8_evening 122 = .ok (.getfield 9, 3) := by decide +kernel
theorem dX8_evening_125 : decode cX8_evening 125 = .ok (.iload 6, 2) := by decide +kernel
theorem dX8_evening_127 : decode cX8_evening 127 = .ok (.iaload, 1) := by decide +kernel
theorem dX8_evening_128 : decode cX8_evening 128 = .ok (.aload_n 0, 1) := by decide +kernel
theorem dX8_evening_129 : decode cX8_evening 129 = .ok (.iload 5, 2) := by decide +kernel
theorem dX8_evening_131 : decode cX8_evening 131 = .ok (.invokevirtual 154, 3) := by decide +kernel
theorem dX8_evening_134 : decode cX8_evening 134 = .ok (.aload_n 0, 1) := by decide +kernel
theorem dX8_evening_135 : decode cX8_evening 135 = .ok (.getfield 25, 3) := by decide +kernel
theorem dX8_evening_138 : decode cX8_evening 138 = .ok (.iload 5, 2) := by decide +kernel
theorem dX8_evening_140 : decode cX8_evening 140 = .ok (.iaload, 1) := by decide +kernel
theorem dX8_evening_141 : decode cX8_evening 141 = .ok (.invokestatic 158, 3) := by decide +kernel
theorem dX8_evening_144 : decode cX8_evening 144 = .ok (.iadd, 1) := by decide +kernel
theorem dX8_evening_145 : decode cX8_evening 145 = .ok (.istore_n 2, 1) := by decide +kernel
theorem dX8_evening_146 : decode cX8_evening 146 = .ok (.aload_n 0, 1) := by decide +kernel
theorem dX8_evening_147 : decode cX8_evening 147 = .ok (.getfield 55, 3) := by decide +kernel
theorem dX8_evening_150 : decode cX8_evening 150 = .ok (.iload 5, 2) := by decide +kernel
theorem dX8_evening_152 : decode cX8_evening 152 = .ok (.iload_n 2, 1) := by decide +kernel
theorem dX8_evening_153 : decode cX8_evening 153 = .ok (.iastore, 1) := by decide +kernel
theorem dX8_evening_154 : decode cX8_evening 154 = .ok (.aload_n 0, 1) := by decide +kernel
theorem dX8_evening_155 : decode cX8_evening 155 = .ok (.dup, 1) := by decide +kernel
theorem dX8_evening_156 : decode cX8_evening 156 = .ok (.getfield 148, 3) := by decide +kernel
theorem dX8_evening_159 : decode cX8_evening 159 = .ok (.iconst 1, 1) := by decide +kernel
theorem dX8_evening_160 : decode cX8_evening 160 = .ok (.iload 5, 2) := by decide +kernel
theorem dX8_evening_162 : decode cX8_evening 162 = .ok (.ishl, 1) := by decide +kernel
theorem dX8_evening_163 : decode cX8_evening 163 = .ok (.ior, 1) := by decide +kernel
theorem dX8_evening_164 : decode cX8_evening 164 = .ok (.putfield 148, 3) := by decide +kernel
theorem dX8_evening_167 : decode cX8_evening 167 = .ok (.aload_n 0, 1) := by decide +kernel
theorem dX8_evening_168 : decode cX8_evening 168 = .ok (.iload_n 2, 1) := by decide +kernel
theorem dX8_evening_169 : decode cX8_evening 169 = .ok (.aload_n 0, 1) := by decide +kernel
theorem dX8_evening_170 : decode cX8_evening 170 = .ok (.getfield 151, 3) := by decide +kernel
theorem dX8_evening_173 : decode cX8_evening 173 = .ok (.if_icmp .le 7, 3) := by decide +kernel
theorem dX8_evening_176 : decode cX8_evening 176 = .ok (.iload_n 2, 1) := by decide +kernel
theorem dX8_evening_177 : decode cX8_evening 177 = .ok (.goto 7, 3) := by decide +kernel
theorem dX8_evening_180 : decode cX8_evening 180 = .ok (.aload_n 0, 1) := by decide +kernel
theorem dX8_evening_181 : decode cX8_evening 181 = .ok (.getfield 151, 3) := by decide +kernel
theorem dX8_evening_184 : decode cX8_evening 184 = .ok (.putfield 151, 3) := by decide +kernel
theorem dX8_evening_187 : decode cX8_evening 187 = .ok (.iload 6, 2) := by decide +kernel
theorem dX8_evening_189 : decode cX8_evening 189 = .ok (.istore_n 3, 1) := by decide +kernel
theorem dX8_evening_190 : decode cX8_evening 190 = .ok (.iload_n 2, 1) := by decide +kernel
theorem dX8_evening_191 : decode cX8_evening 191 = .ok (.aload_n 0, 1) := by decide +kernel
theorem dX8_evening_192 : decode cX8_evening 192 = .ok (.getfield 13, 3) := by decide +kernel
theorem dX8_evening_195 : decode cX8_evening 195 = .ok (.iload 6, 2) := by decide +kernel
theorem dX8_evening_197 : decode cX8_evening 197 = .ok (.iaload, 1) := by decide +kernel
theorem dX8_evening_198 : decode cX8_evening 198 = .ok (.if_icmp .le 14, 3) := by decide +kernel
theorem dX8_evening_201 : decode cX8_evening 201 = .ok (.aload_n 0, 1) := by decide +kernel
theorem dX8_evening_202 : decode cX8_evening 202 = .ok (.getfield 52, 3) := by decide +kernel
theorem dX8_evening_205 : decode cX8_evening 205 = .ok (.iload 6, 2) := by decide +kernel
theorem dX8_evening_207 : decode cX8_evening 207 = .ok (.iload 5, 2) := by decide +kernel
theorem dX8_evening_209 : decode cX8_evening 209 = .ok (.iastore, 1) := by decide +kernel
theorem dX8_evening_210 : decode cX8_evening 210 = .ok (.iconst 0, 1) := by decide +kernel
theorem dX8_evening_211 : decode cX8_evening 211 = .ok (.istore_n 2, 1) := by decide +kernel
theorem dX8_evening_212 : decode cX8_evening 212 = .ok (.iinc 4 1, 3) := by decide +kernel
theorem dX8_evening_215 : decode cX8_evening 215 = .ok (.goto (-151), 3) := by decide +kernel
theorem dX8_evening_218 : decode cX8_evening 218 = .ok (.return_, 1) := by decide +kernel
theorem dX8_without_0 : decode cX8_without 0 = .ok (.iconst 0, 1) := by decide +kernel
theorem dX8_without_1 : decode cX8_without 1 = .ok (.istore_n 2, 1) := by decide +kernel
theorem dX8_without_2 : decode cX8_without 2 = .ok (.iconst 0, 1) := by decide +kernel
theorem dX8_without_3 : decode cX8_without 3 = .ok (.istore_n 3, 1) := by decide +kernel
theorem dX8_without_4 : decode cX8_without 4 = .ok (.iload_n 3, 1) := by decide +kernel
theorem dX8_without_5 : decode cX8_without 5 = .ok (.aload_n 0, 1) := by decide +kernel
theorem dX8_without_6 : decode cX8_without 6 = .ok (.getfield 85, 3) := by decide +kernel
theorem dX8_without_9 : decode cX8_without 9 = .ok (.if_icmp .ge 27, 3) := by decide +kernel
theorem dX8_without_12 : decode cX8_without 12 = .ok (.iload_n 1, 1) := by decide +kernel
theorem dX8_without_13 : decode cX8_without 13 = .ok (.iload_n 3, 1) := by decide +kernel
theorem dX8_without_14 : decode cX8_without 14 = .ok (.invokestatic 162, 3) := by decide +kernel
theorem dX8_without_17 : decode cX8_without 17 = .ok (.ifCond .ne 13, 3) := by decide +kernel
theorem dX8_without_20 : decode cX8_without 20 = .ok (.aload_n 0, 1) := by decide +kernel
theorem dX8_without_21 : decode cX8_without 21 = .ok (.getfield 49, 3) := by decide +kernel
theorem dX8_without_24 : decode cX8_without 24 = .ok (.iload_n 2, 1) := by decide +kernel
theorem dX8_without_25 : decode cX8_without 25 = .ok (.iload_n 3, 1) := by decide +kernel
theorem dX8_without_26 : decode cX8_without 26 = .ok (.iastore, 1) := by decide +kernel
theorem dX8_without_27 : decode cX8_without 27 = .ok (.iinc 2 1, 3) := by decide +kernel
theorem dX8_without_30 : decode cX8_without 30 = .ok (.iinc 3 1, 3) := by decide +kernel
theorem dX8_without_33 : decode cX8_without 33 = .ok (.goto (-29), 3) := by decide +kernel
theorem dX8_without_36 : decode cX8_without 36 = .ok (.aload_n 0, 1) := by decide +kernel
theorem dX8_without_37 : decode cX8_without 37 = .ok (.iload_n 2, 1) := by decide +kernel
theorem dX8_without_38 : decode cX8_without 38 = .ok (.invokevirtual 166, 3) := by decide +kernel
theorem dX8_without_41 : decode cX8_without 41 = .ok (.return_, 1) := by decide +kernel
theorem dX8_gone_0 : decode cX8_gone 0 = .ok (.iconst 0, 1) := by decide +kernel
theorem dX8_gone_1 : decode cX8_gone 1 = .ok (.istore_n 1, 1) := by decide +kernel
theorem dX8_gone_2 : decode cX8_gone 2 = .ok (.iconst 0, 1) := by decide +kernel
theorem dX8_gone_3 : decode cX8_gone 3 = .ok (.istore_n 2, 1) := by decide +kernel
theorem dX8_gone_4 : decode cX8_gone 4 = .ok (.iload_n 2, 1) := by decide +kernel
theorem dX8_gone_5 : decode cX8_gone 5 = .ok (.aload_n 0, 1) := by decide +kernel
theorem dX8_gone_6 : decode cX8_gone 6 = .ok (.getfield 88, 3) := by decide +kernel
theorem dX8_gone_9 : decode cX8_gone 9 = .ok (.if_icmp .ge 28, 3) := by decide +kernel
theorem dX8_gone_12 : decode cX8_gone 12 = .ok (.iload_n 1, 1) := by decide +kernel
theorem dX8_gone_13 : decode cX8_gone 13 = .ok (.aload_n 0, 1) := by decide +kernel
theorem dX8_gone_14 : decode cX8_gone 14 = .ok (.getfield 52, 3) := by decide +kernel
theorem dX8_gone_17 : decode cX8_gone 17 = .ok (.iload_n 2, 1) := by decide +kernel
theorem dX8_gone_18 : decode cX8_gone 18 = .ok (.iaload, 1) := by decide +kernel
theorem dX8_gone_19 : decode cX8_gone 19 = .ok (.bipush (-4), 2) := by decide +kernel
theorem dX8_gone_21 : decode cX8_gone 21 = .ok (.if_icmp .ne 7, 3) := by decide +kernel
theorem dX8_gone_24 : decode cX8_gone 24 = .ok (.iconst 0, 1) := by decide +kernel
theorem dX8_gone_25 : decode cX8_gone 25 = .ok (.goto 4, 3) := by decide +kernel
theorem dX8_gone_28 : decode cX8_gone 28 = .ok (.iconst 1, 1) := by decide +kernel
theorem dX8_gone_29 : decode cX8_gone 29 = .ok (.iadd, 1) := by decide +kernel
theorem dX8_gone_30 : decode cX8_gone 30 = .ok (.istore_n 1, 1) := by decide +kernel
theorem dX8_gone_31 : decode cX8_gone 31 = .ok (.iinc 2 1, 3) := by decide +kernel
theorem dX8_gone_34 : decode cX8_gone 34 = .ok (.goto (-30), 3) := by decide +kernel
theorem dX8_gone_37 : decode cX8_gone 37 = .ok (.iload_n 1, 1) := by decide +kernel
theorem dX8_gone_38 : decode cX8_gone 38 = .ok (.ireturn, 1) := by decide +kernel
theorem dX8_teller_0 : decode cX8_teller 0 = .ok (.aload_n 0, 1) := by decide +kernel
theorem dX8_teller_1 : decode cX8_teller 1 = .ok (.iload_n 1, 1) := by decide +kernel
theorem dX8_teller_2 : decode cX8_teller 2 = .ok (.invokevirtual 170, 3) := by decide +kernel
theorem dX8_teller_5 : decode cX8_teller 5 = .ok (.ifCond .eq 12, 3) := by decide +kernel
theorem dX8_teller_8 : decode cX8_teller 8 = .ok (.iload_n 2, 1) := by decide +kernel
theorem dX8_teller_9 : decode cX8_teller 9 = .ok (.iconst 0, 1) := by decide +kernel
theorem dX8_teller_10 : decode cX8_teller 10 = .ok (.iconst 1, 1) := by decide +kernel
theorem dX8_teller_11 : decode cX8_teller 11 = .ok (.invokestatic 91, 3) := by decide +kernel
theorem dX8_teller_14 : decode cX8_teller 14 = .ok (.ifCond .ne 5, 3) := by decide +kernel
theorem dX8_teller_17 : decode cX8_teller 17 = .ok (.iconst (-1), 1) := by decide +kernel
theorem dX8_teller_18 : decode cX8_teller 18 = .ok (.ireturn, 1) := by decide +kernel
theorem dX8_teller_19 : decode cX8_teller 19 = .ok (.iload_n 2, 1) := by decide +kernel
theorem dX8_teller_20 : decode cX8_teller 20 = .ok (.ifCond .ne 12, 3) := by decide +kernel
theorem dX8_teller_23 : decode cX8_teller 23 = .ok (.aload_n 0, 1) := by decide +kernel
theorem dX8_teller_24 : decode cX8_teller 24 = .ok (.getfield 9, 3) := by decide +kernel
theorem dX8_teller_27 : decode cX8_teller 27 = .ok (.iload_n 1, 1) := by decide +kernel
theorem dX8_teller_28 : decode cX8_teller 28 = .ok (.iaload, 1) := by decide +kernel
theorem dX8_teller_29 : decode cX8_teller 29 = .ok (.goto 9, 3) := by decide +kernel
theorem dX8_teller_32 : decode cX8_teller 32 = .ok (.aload_n 0, 1) := by decide +kernel
theorem dX8_teller_33 : decode cX8_teller 33 = .ok (.getfield 13, 3) := by decide +kernel
theorem dX8_teller_36 : decode cX8_teller 36 = .ok (.iload_n 1, 1) := by decide +kernel
theorem dX8_teller_37 : decode cX8_teller 37 = .ok (.iaload, 1) := by decide +kernel
theorem dX8_teller_38 : decode cX8_teller 38 = .ok (.ireturn, 1) := by decide +kernel
theorem dX8_fact_0 : decode cX8_fact 0 = .ok (.aload_n 0, 1) := by decide +kernel
theorem dX8_fact_1 : decode cX8_fact 1 = .ok (.iload_n 1, 1) := by decide +kernel
theorem dX8_fact_2 : decode cX8_fact 2 = .ok (.invokevirtual 173, 3) := by decide +kernel
theorem dX8_fact_5 : decode cX8_fact 5 = .ok (.ifCond .eq 14, 3) := by decide +kernel
theorem dX8_fact_8 : decode cX8_fact 8 = .ok (.aload_n 0, 1) := by decide +kernel
theorem dX8_fact_9 : decode cX8_fact 9 = .ok (.getfield 78, 3) := by decide +kernel
theorem dX8_fact_12 : decode cX8_fact 12 = .ok (.iload_n 1, 1) := by decide +kernel
theorem dX8_fact_13 : decode cX8_fact 13 = .ok (.ishr, 1) := by decide +kernel
theorem dX8_fact_14 : decode cX8_fact 14 = .ok (.iconst 1, 1) := by decide +kernel
theorem dX8_fact_15 : decode cX8_fact 15 = .ok (.iand, 1) := by decide +kernel
theorem dX8_fact_16 : decode cX8_fact 16 = .ok (.goto 4, 3) := by decide +kernel
theorem dX8_fact_19 : decode cX8_fact 19 = .ok (.iconst (-1), 1) := by decide +kernel
theorem dX8_fact_20 : decode cX8_fact 20 = .ok (.ireturn, 1) := by decide +kernel
theorem dX8_claim_0 : decode cX8_claim 0 = .ok (.aload_n 0, 1) := by decide +kernel
theorem dX8_claim_1 : decode cX8_claim 1 = .ok (.iload_n 1, 1) := by decide +kernel
theorem dX8_claim_2 : decode cX8_claim 2 = .ok (.invokevirtual 176, 3) := by decide +kernel
theorem dX8_claim_5 : decode cX8_claim 5 = .ok (.ifCond .eq 12, 3) := by decide +kernel
theorem dX8_claim_8 : decode cX8_claim 8 = .ok (.iload_n 2, 1) := by decide +kernel
theorem dX8_claim_9 : decode cX8_claim 9 = .ok (.iconst 0, 1) := by decide +kernel
theorem dX8_claim_10 : decode cX8_claim 10 = .ok (.iconst 4, 1) := by decide +kernel
theorem dX8_claim_11 : decode cX8_claim 11 = .ok (.invokestatic 91, 3) := by decide +kernel
theorem dX8_claim_14 : decode cX8_claim 14 = .ok (.ifCond .ne 5, 3) := by decide +kernel
theorem dX8_claim_17 : decode cX8_claim 17 = .ok (.iconst (-1), 1) := by decide +kernel
theorem dX8_claim_18 : decode cX8_claim 18 = .ok (.ireturn, 1) := by decide +kernel
theorem dX8_claim_19 : decode cX8_claim 19 = .ok (.iload_n 2, 1) := by decide +kernel
theorem dX8_claim_20 : decode cX8_claim 20 = .ok (.tableswitch 60 0 3 #[32, 39, 46, 53], 32) := by decide +kernel
theorem dX8_claim_52 : decode cX8_claim 52 = .ok (.aload_n 0, 1) := by decide +kernel
theorem dX8_claim_53 : decode cX8_claim 53 = .ok (.getfield 16, 3) := by decide +kernel
theorem dX8_claim_56 : decode cX8_claim 56 = .ok (.iload_n 1, 1) := by decide +kernel
theorem dX8_claim_57 : decode cX8_claim 57 = .ok (.iaload, 1) := by decide +kernel
theorem dX8_claim_58 : decode cX8_claim 58 = .ok (.ireturn, 1) := by decide +kernel
theorem dX8_claim_59 : decode cX8_claim 59 = .ok (.aload_n 0, 1) := by decide +kernel
theorem dX8_claim_60 : decode cX8_claim 60 = .ok (.getfield 19, 3) := by decide +kernel
theorem dX8_claim_63 : decode cX8_claim 63 = .ok (.iload_n 1, 1) := by decide +kernel
theorem dX8_claim_64 : decode cX8_claim 64 = .ok (.iaload, 1) := by decide +kernel
theorem dX8_claim_65 : decode cX8_claim 65 = .ok (.ireturn, 1) := by decide +kernel
theorem dX8_claim_66 : decode cX8_claim 66 = .ok (.aload_n 0, 1) := by decide +kernel
theorem dX8_claim_67 : decode cX8_claim 67 = .ok (.getfield 22, 3) := by decide +kernel
theorem dX8_claim_70 : decode cX8_claim 70 = .ok (.iload_n 1, 1) := by decide +kernel
theorem dX8_claim_71 : decode cX8_claim 71 = .ok (.iaload, 1) := by decide +kernel
theorem dX8_claim_72 : decode cX8_claim 72 = .ok (.ireturn, 1) := by decide +kernel
theorem dX8_claim_73 : decode cX8_claim 73 = .ok (.aload_n 0, 1) := by decide +kernel
theorem dX8_claim_74 : decode cX8_claim 74 = .ok (.getfield 25, 3) := by decide +kernel
theorem dX8_claim_77 : decode cX8_claim 77 = .ok (.iload_n 1, 1) := by decide +kernel
theorem dX8_claim_78 : decode cX8_claim 78 = .ok (.iaload, 1) := by decide +kernel
theorem dX8_claim_79 : decode cX8_claim 79 = .ok (.ireturn, 1) := by decide +kernel
theorem dX8_claim_80 : decode cX8_claim 80 = .ok (.aload_n 0, 1) := by decide +kernel
theorem dX8_claim_81 : decode cX8_claim 81 = .ok (.iload_n 1, 1) := by decide +kernel
theorem dX8_claim_82 : decode cX8_claim 82 = .ok (.invokevirtual 154, 3) := by decide +kernel
theorem dX8_claim_85 : decode cX8_claim 85 = .ok (.ifCond .eq 7, 3) := by decide +kernel
theorem dX8_claim_88 : decode cX8_claim 88 = .ok (.iconst 1, 1) := by decide +kernel
theorem dX8_claim_89 : decode cX8_claim 89 = .ok (.goto 4, 3) := by decide +kernel
theorem dX8_claim_92 : decode cX8_claim 92 = .ok (.iconst 0, 1) := by decide +kernel
theorem dX8_claim_93 : decode cX8_claim 93 = .ok (.ireturn, 1) := by decide +kernel
theorem dX8_lays_0 : decode cX8_lays 0 = .ok (.aload_n 1, 1) := by decide +kernel
theorem dX8_lays_1 : decode cX8_lays 1 = .ok (.iload_n 2, 1) := by decide +kernel
theorem dX8_lays_2 : decode cX8_lays 2 = .ok (.aload_n 0, 1) := by decide +kernel
theorem dX8_lays_3 : decode cX8_lays 3 = .ok (.getfield 78, 3) := by decide +kernel
theorem dX8_lays_6 : decode cX8_lays 6 = .ok (.iastore, 1) := by decide +kernel
theorem dX8_lays_7 : decode cX8_lays 7 = .ok (.aload_n 1, 1) := by decide +kernel
theorem dX8_lays_8 : decode cX8_lays 8 = .ok (.iload_n 2, 1) := by decide +kernel
theorem dX8_lays_9 : decode cX8_lays 9 = .ok (.iconst 1, 1) := by decide +kernel
theorem dX8_lays_10 : decode cX8_lays 10 = .ok (.iadd, 1) := by decide +kernel
theorem dX8_lays_11 : decode cX8_lays 11 = .ok (.aload_n 0, 1) := by decide +kernel
theorem dX8_lays_12 : decode cX8_lays 12 = .ok (.getfield 85, 3) := by decide +kernel
theorem dX8_lays_15 : decode cX8_lays 15 = .ok (.iastore, 1) := by decide +kernel
theorem dX8_lays_16 : decode cX8_lays 16 = .ok (.iconst 0, 1) := by decide +kernel
theorem dX8_lays_17 : decode cX8_lays 17 = .ok (.istore_n 3, 1) := by decide +kernel
theorem dX8_lays_18 : decode cX8_lays 18 = .ok (.iload_n 3, 1) := by decide +kernel
theorem dX8_lays_19 : decode cX8_lays 19 = .ok (.bipush 7, 2) := by decide +kernel
theorem dX8_lays_21 : decode cX8_lays 21 = .ok (.if_icmp .ge 64, 3) := by decide +kernel
theorem dX8_lays_24 : decode cX8_lays 24 = .ok (.aload_n 1, 1) := by decide +kernel
theorem dX8_lays_25 : decode cX8_lays 25 = .ok (.iload_n 2, 1) := by decide +kernel
theorem dX8_lays_26 : decode cX8_lays 26 = .ok (.iconst 2, 1) := by decide +kernel
theorem dX8_lays_27 : decode cX8_lays 27 = .ok (.iadd, 1) := by decide +kernel
theorem dX8_lays_28 : decode cX8_lays 28 = .ok (.iload_n 3, 1) := by decide +kernel
theorem dX8_lays_29 : decode cX8_lays 29 = .ok (.iadd, 1) := by decide +kernel
theorem dX8_lays_30 : decode cX8_lays 30 = .ok (.aload_n 0, 1) := by decide +kernel
theorem dX8_lays_31 : decode cX8_lays 31 = .ok (.getfield 16, 3) := by decide +kernel
theorem dX8_lays_34 : decode cX8_lays 34 = .ok (.iload_n 3, 1) := by decide +kernel
theorem dX8_lays_35 : decode cX8_lays 35 = .ok (.iaload, 1) := by decide +kernel
theorem dX8_lays_36 : decode cX8_lays 36 = .ok (.iastore, 1) := by decide +kernel
theorem dX8_lays_37 : decode cX8_lays 37 = .ok (.aload_n 1, 1) := by decide +kernel
theorem dX8_lays_38 : decode cX8_lays 38 = .ok (.iload_n 2, 1) := by decide +kernel
theorem dX8_lays_39 : decode cX8_lays 39 = .ok (.bipush 9, 2) := by decide +kernel
theorem dX8_lays_41 : decode cX8_lays 41 = .ok (.iadd, 1) := by decide +kernel
theorem dX8_lays_42 : decode cX8_lays 42 = .ok (.iload_n 3, 1) := by decide +kernel
theorem dX8_lays_43 : decode cX8_lays 43 = .ok (.iadd, 1) := by decide +kernel
theorem dX8_lays_44 : decode cX8_lays 44 = .ok (.aload_n 0, 1) := by decide +kernel
theorem dX8_lays_45 : decode cX8_lays 45 = .ok (.getfield 19, 3) := by decide +kernel
theorem dX8_lays_48 : decode cX8_lays 48 = .ok (.iload_n 3, 1) := by decide +kernel
theorem dX8_lays_49 : decode cX8_lays 49 = .ok (.iaload, 1) := by decide +kernel
theorem dX8_lays_50 : decode cX8_lays 50 = .ok (.iastore, 1) := by decide +kernel
theorem dX8_lays_51 : decode cX8_lays 51 = .ok (.aload_n 1, 1) := by decide +kernel
theorem dX8_lays_52 : decode cX8_lays 52 = .ok (.iload_n 2, 1) := by decide +kernel
theorem dX8_lays_53 : decode cX8_lays 53 = .ok (.bipush 16, 2) := by decide +kernel
theorem dX8_lays_55 : decode cX8_lays 55 = .ok (.iadd, 1) := by decide +kernel
theorem dX8_lays_56 : decode cX8_lays 56 = .ok (.iload_n 3, 1) := by decide +kernel
theorem dX8_lays_57 : decode cX8_lays 57 = .ok (.iadd, 1) := by decide +kernel
theorem dX8_lays_58 : decode cX8_lays 58 = .ok (.aload_n 0, 1) := by decide +kernel
theorem dX8_lays_59 : decode cX8_lays 59 = .ok (.getfield 22, 3) := by decide +kernel
theorem dX8_lays_62 : decode cX8_lays 62 = .ok (.iload_n 3, 1) := by decide +kernel
theorem dX8_lays_63 : decode cX8_lays 63 = .ok (.iaload, 1) := by decide +kernel
theorem dX8_lays_64 : decode cX8_lays 64 = .ok (.iastore, 1) := by decide +kernel
theorem dX8_lays_65 : decode cX8_lays 65 = .ok (.aload_n 1, 1) := by decide +kernel
theorem dX8_lays_66 : decode cX8_lays 66 = .ok (.iload_n 2, 1) := by decide +kernel
theorem dX8_lays_67 : decode cX8_lays 67 = .ok (.bipush 23, 2) := by decide +kernel
theorem dX8_lays_69 : decode cX8_lays 69 = .ok (.iadd, 1) := by decide +kernel
end
section
theorem dX8_lays_70 : decode cX8_lays 70 = .ok (.iload_n 3, 1) := by decide +kernel
theorem dX8_lays_71 : decode cX8_lays 71 = .ok (.iadd, 1) := by decide +kernel
theorem dX8_lays_72 : decode cX8_lays 72 = .ok (.aload_n 0, 1) := by decide +kernel
theorem dX8_lays_73 : decode cX8_lays 73 = .ok (.getfield 25, 3) := by decide +kernel
theorem dX8_lays_76 : decode cX8_lays 76 = .ok (.iload_n 3, 1) := by decide +kernel
theorem dX8_lays_77 : decode cX8_lays 77 = .ok (.iaload, 1) := by decide +kernel
theorem dX8_lays_78 : decode cX8_lays 78 = .ok (.iastore, 1) := by decide +kernel
theorem dX8_lays_79 : decode cX8_lays 79 = .ok (.iinc 3 1, 3) := by decide +kernel
theorem dX8_lays_82 : decode cX8_lays 82 = .ok (.goto (-64), 3) := by decide +kernel
theorem dX8_lays_85 : decode cX8_lays 85 = .ok (.iconst 0, 1) := by decide +kernel
theorem dX8_lays_86 : decode cX8_lays 86 = .ok (.istore_n 3, 1) := by decide +kernel
theorem dX8_lays_87 : decode cX8_lays 87 = .ok (.iload_n 3, 1) := by decide +kernel
theorem dX8_lays_88 : decode cX8_lays 88 = .ok (.iconst 5, 1) := by decide +kernel
theorem dX8_lays_89 : decode cX8_lays 89 = .ok (.if_icmp .ge 23, 3) := by decide +kernel
theorem dX8_lays_92 : decode cX8_lays 92 = .ok (.aload_n 1, 1) := by decide +kernel
theorem dX8_lays_93 : decode cX8_lays 93 = .ok (.iload_n 2, 1) := by decide +kernel
theorem dX8_lays_94 : decode cX8_lays 94 = .ok (.bipush 30, 2) := by decide +kernel
theorem dX8_lays_96 : decode cX8_lays 96 = .ok (.iadd, 1) := by decide +kernel
theorem dX8_lays_97 : decode cX8_lays 97 = .ok (.iload_n 3, 1) := by decide +kernel
theorem dX8_lays_98 : decode cX8_lays 98 = .ok (.iadd, 1) := by decide +kernel
theorem dX8_lays_99 : decode cX8_lays 99 = .ok (.aload_n 0, 1) := by decide +kernel
theorem dX8_lays_100 : decode cX8_lays 100 = .ok (.getfield 13, 3) := by decide +kernel
theorem dX8_lays_103 : decode cX8_lays 103 = .ok (.iload_n 3, 1) := by decide +kernel
theorem dX8_lays_104 : decode cX8_lays 104 = .ok (.iaload, 1) := by decide +kernel
theorem dX8_lays_105 : decode cX8_lays 105 = .ok (.iastore, 1) := by decide +kernel
theorem dX8_lays_106 : decode cX8_lays 106 = .ok (.iinc 3 1, 3) := by decide +kernel
theorem dX8_lays_109 : decode cX8_lays 109 = .ok (.goto (-22), 3) := by decide +kernel
theorem dX8_lays_112 : decode cX8_lays 112 = .ok (.return_, 1) := by decide +kernel
theorem dX8_takes_0 : decode cX8_takes 0 = .ok (.aload_n 0, 1) := by decide +kernel
theorem dX8_takes_1 : decode cX8_takes 1 = .ok (.aload_n 1, 1) := by decide +kernel
theorem dX8_takes_2 : decode cX8_takes 2 = .ok (.iload_n 2, 1) := by decide +kernel
theorem dX8_takes_3 : decode cX8_takes 3 = .ok (.iaload, 1) := by decide +kernel
theorem dX8_takes_4 : decode cX8_takes 4 = .ok (.putfield 78, 3) := by decide +kernel
theorem dX8_takes_7 : decode cX8_takes 7 = .ok (.aload_n 0, 1) := by decide +kernel
theorem dX8_takes_8 : decode cX8_takes 8 = .ok (.aload_n 1, 1) := by decide +kernel
theorem dX8_takes_9 : decode cX8_takes 9 = .ok (.iload_n 2, 1) := by decide +kernel
theorem dX8_takes_10 : decode cX8_takes 10 = .ok (.iconst 1, 1) := by decide +kernel
theorem dX8_takes_11 : decode cX8_takes 11 = .ok (.iadd, 1) := by decide +kernel
theorem dX8_takes_12 : decode cX8_takes 12 = .ok (.iaload, 1) := by decide +kernel
theorem dX8_takes_13 : decode cX8_takes 13 = .ok (.putfield 85, 3) := by decide +kernel
theorem dX8_takes_16 : decode cX8_takes 16 = .ok (.iconst 0, 1) := by decide +kernel
theorem dX8_takes_17 : decode cX8_takes 17 = .ok (.istore_n 3, 1) := by decide +kernel
theorem dX8_takes_18 : decode cX8_takes 18 = .ok (.iload_n 3, 1) := by decide +kernel
theorem dX8_takes_19 : decode cX8_takes 19 = .ok (.bipush 7, 2) := by decide +kernel
theorem dX8_takes_21 : decode cX8_takes 21 = .ok (.if_icmp .ge 45, 3) := by decide +kernel
theorem dX8_takes_24 : decode cX8_takes 24 = .ok (.aload_n 0, 1) := by decide +kernel
theorem dX8_takes_25 : decode cX8_takes 25 = .ok (.iload_n 3, 1) := by decide +kernel
theorem dX8_takes_26 : decode cX8_takes 26 = .ok (.aload_n 1, 1) := by decide +kernel
theorem dX8_takes_27 : decode cX8_takes 27 = .ok (.iload_n 2, 1) := by decide +kernel
theorem dX8_takes_28 : decode cX8_takes 28 = .ok (.iconst 2, 1) := by decide +kernel
theorem dX8_takes_29 : decode cX8_takes 29 = .ok (.iadd, 1) := by decide +kernel
theorem dX8_takes_30 : decode cX8_takes 30 = .ok (.iload_n 3, 1) := by decide +kernel
theorem dX8_takes_31 : decode cX8_takes 31 = .ok (.iadd, 1) := by decide +kernel
theorem dX8_takes_32 : decode cX8_takes 32 = .ok (.iaload, 1) := by decide +kernel
theorem dX8_takes_33 : decode cX8_takes 33 = .ok (.aload_n 1, 1) := by decide +kernel
theorem dX8_takes_34 : decode cX8_takes 34 = .ok (.iload_n 2, 1) := by decide +kernel
theorem dX8_takes_35 : decode cX8_takes 35 = .ok (.bipush 9, 2) := by decide +kernel
theorem dX8_takes_37 : decode cX8_takes 37 = .ok (.iadd, 1) := by decide +kernel
theorem dX8_takes_38 : decode cX8_takes 38 = .ok (.iload_n 3, 1) := by decide +kernel
theorem dX8_takes_39 : decode cX8_takes 39 = .ok (.iadd, 1) := by decide +kernel
theorem dX8_takes_40 : decode cX8_takes 40 = .ok (.iaload, 1) := by decide +kernel
theorem dX8_takes_41 : decode cX8_takes 41 = .ok (.aload_n 1, 1) := by decide +kernel
theorem dX8_takes_42 : decode cX8_takes 42 = .ok (.iload_n 2, 1) := by decide +kernel
theorem dX8_takes_43 : decode cX8_takes 43 = .ok (.bipush 16, 2) := by decide +kernel
theorem dX8_takes_45 : decode cX8_takes 45 = .ok (.iadd, 1) := by decide +kernel
theorem dX8_takes_46 : decode cX8_takes 46 = .ok (.iload_n 3, 1) := by decide +kernel
theorem dX8_takes_47 : decode cX8_takes 47 = .ok (.iadd, 1) := by decide +kernel
theorem dX8_takes_48 : decode cX8_takes 48 = .ok (.iaload, 1) := by decide +kernel
theorem dX8_takes_49 : decode cX8_takes 49 = .ok (.aload_n 1, 1) := by decide +kernel
theorem dX8_takes_50 : decode cX8_takes 50 = .ok (.iload_n 2, 1) := by decide +kernel
theorem dX8_takes_51 : decode cX8_takes 51 = .ok (.bipush 23, 2) := by decide +kernel
theorem dX8_takes_53 : decode cX8_takes 53 = .ok (.iadd, 1) := by decide +kernel
theorem dX8_takes_54 : decode cX8_takes 54 = .ok (.iload_n 3, 1) := by decide +kernel
theorem dX8_takes_55 : decode cX8_takes 55 = .ok (.iadd, 1) := by decide +kernel
theorem dX8_takes_56 : decode cX8_takes 56 = .ok (.iaload, 1) := by decide +kernel
theorem dX8_takes_57 : decode cX8_takes 57 = .ok (.invokevirtual 81, 3) := by decide +kernel
theorem dX8_takes_60 : decode cX8_takes 60 = .ok (.iinc 3 1, 3) := by decide +kernel
theorem dX8_takes_63 : decode cX8_takes 63 = .ok (.goto (-45), 3) := by decide +kernel
theorem dX8_takes_66 : decode cX8_takes 66 = .ok (.iconst 0, 1) := by decide +kernel
theorem dX8_takes_67 : decode cX8_takes 67 = .ok (.istore_n 3, 1) := by decide +kernel
theorem dX8_takes_68 : decode cX8_takes 68 = .ok (.iload_n 3, 1) := by decide +kernel
theorem dX8_takes_69 : decode cX8_takes 69 = .ok (.iconst 5, 1) := by decide +kernel
theorem dX8_takes_70 : decode cX8_takes 70 = .ok (.if_icmp .ge 23, 3) := by decide +kernel
theorem dX8_takes_73 : decode cX8_takes 73 = .ok (.aload_n 0, 1) := by decide +kernel
theorem dX8_takes_74 : decode cX8_takes 74 = .ok (.getfield 13, 3) := by decide +kernel
theorem dX8_takes_77 : decode cX8_takes 77 = .ok (.iload_n 3, 1) := by decide +kernel
theorem dX8_takes_78 : decode cX8_takes 78 = .ok (.aload_n 1, 1) := by decide +kernel
theorem dX8_takes_79 : decode cX8_takes 79 = .ok (.iload_n 2, 1) := by decide +kernel
theorem dX8_takes_80 : decode cX8_takes 80 = .ok (.bipush 30, 2) := by decide +kernel
theorem dX8_takes_82 : decode cX8_takes 82 = .ok (.iadd, 1) := by decide +kernel
theorem dX8_takes_83 : decode cX8_takes 83 = .ok (.iload_n 3, 1) := by decide +kernel
theorem dX8_takes_84 : decode cX8_takes 84 = .ok (.iadd, 1) := by decide +kernel
theorem dX8_takes_85 : decode cX8_takes 85 = .ok (.iaload, 1) := by decide +kernel
theorem dX8_takes_86 : decode cX8_takes 86 = .ok (.iastore, 1) := by decide +kernel
theorem dX8_takes_87 : decode cX8_takes 87 = .ok (.iinc 3 1, 3) := by decide +kernel
theorem dX8_takes_90 : decode cX8_takes 90 = .ok (.goto (-22), 3) := by decide +kernel
theorem dX8_takes_93 : decode cX8_takes 93 = .ok (.return_, 1) := by decide +kernel
theorem dX8_notes_0 : decode cX8_notes 0 = .ok (.aload_n 0, 1) := by decide +kernel
theorem dX8_notes_1 : decode cX8_notes 1 = .ok (.getfield 142, 3) := by decide +kernel
theorem dX8_notes_4 : decode cX8_notes 4 = .ok (.bipush 8, 2) := by decide +kernel
theorem dX8_notes_6 : decode cX8_notes 6 = .ok (.if_icmp .ne 43, 3) := by decide +kernel
theorem dX8_notes_9 : decode cX8_notes 9 = .ok (.iconst 0, 1) := by decide +kernel
theorem dX8_notes_10 : decode cX8_notes 10 = .ok (.istore_n 1, 1) := by decide +kernel
theorem dX8_notes_11 : decode cX8_notes 11 = .ok (.iload_n 1, 1) := by decide +kernel
theorem dX8_notes_12 : decode cX8_notes 12 = .ok (.sipush 245, 3) := by decide +kernel
theorem dX8_notes_15 : decode cX8_notes 15 = .ok (.if_icmp .ge 24, 3) := by decide +kernel
theorem dX8_notes_18 : decode cX8_notes 18 = .ok (.aload_n 0, 1) := by decide +kernel
theorem dX8_notes_19 : decode cX8_notes 19 = .ok (.getfield 58, 3) := by decide +kernel
theorem dX8_notes_22 : decode cX8_notes 22 = .ok (.iload_n 1, 1) := by decide +kernel
theorem dX8_notes_23 : decode cX8_notes 23 = .ok (.aload_n 0, 1) := by decide +kernel
theorem dX8_notes_24 : decode cX8_notes 24 = .ok (.getfield 58, 3) := by decide +kernel
theorem dX8_notes_27 : decode cX8_notes 27 = .ok (.iload_n 1, 1) := by decide +kernel
theorem dX8_notes_28 : decode cX8_notes 28 = .ok (.bipush 35, 2) := by decide +kernel
theorem dX8_notes_30 : decode cX8_notes 30 = .ok (.iadd, 1) := by decide +kernel
theorem dX8_notes_31 : decode cX8_notes 31 = .ok (.iaload, 1) := by decide +kernel
theorem dX8_notes_32 : decode cX8_notes 32 = .ok (.iastore, 1) := by decide +kernel
theorem dX8_notes_33 : decode cX8_notes 33 = .ok (.iinc 1 1, 3) := by decide +kernel
theorem dX8_notes_36 : decode cX8_notes 36 = .ok (.goto (-25), 3) := by decide +kernel
theorem dX8_notes_39 : decode cX8_notes 39 = .ok (.aload_n 0, 1) := by decide +kernel
theorem dX8_notes_40 : decode cX8_notes 40 = .ok (.dup, 1) := by decide +kernel
theorem dX8_notes_41 : decode cX8_notes 41 = .ok (.getfield 142, 3) := by decide +kernel
theorem dX8_notes_44 : decode cX8_notes 44 = .ok (.iconst 1, 1) := by decide +kernel
theorem dX8_notes_45 : decode cX8_notes 45 = .ok (.isub, 1) := by decide +kernel
theorem dX8_notes_46 : decode cX8_notes 46 = .ok (.putfield 142, 3) := by decide +kernel
theorem dX8_notes_49 : decode cX8_notes 49 = .ok (.aload_n 0, 1) := by decide +kernel
theorem dX8_notes_50 : decode cX8_notes 50 = .ok (.aload_n 0, 1) := by decide +kernel
theorem dX8_notes_51 : decode cX8_notes 51 = .ok (.getfield 58, 3) := by decide +kernel
theorem dX8_notes_54 : decode cX8_notes 54 = .ok (.bipush 35, 2) := by decide +kernel
theorem dX8_notes_56 : decode cX8_notes 56 = .ok (.aload_n 0, 1) := by decide +kernel
theorem dX8_notes_57 : decode cX8_notes 57 = .ok (.getfield 142, 3) := by decide +kernel
theorem dX8_notes_60 : decode cX8_notes 60 = .ok (.imul, 1) := by decide +kernel
theorem dX8_notes_61 : decode cX8_notes 61 = .ok (.invokevirtual 179, 3) := by decide +kernel
theorem dX8_notes_64 : decode cX8_notes 64 = .ok (.aload_n 0, 1) := by decide +kernel
theorem dX8_notes_65 : decode cX8_notes 65 = .ok (.dup, 1) := by decide +kernel
theorem dX8_notes_66 : decode cX8_notes 66 = .ok (.getfield 142, 3) := by decide +kernel
theorem dX8_notes_69 : decode cX8_notes 69 = .ok (.iconst 1, 1) := by decide +kernel
theorem dX8_notes_70 : decode cX8_notes 70 = .ok (.iadd, 1) := by decide +kernel
theorem dX8_notes_71 : decode cX8_notes 71 = .ok (.putfield 142, 3) := by decide +kernel
theorem dX8_notes_74 : decode cX8_notes 74 = .ok (.return_, 1) := by decide +kernel
theorem dX8_turn_0 : decode cX8_turn 0 = .ok (.aload_n 0, 1) := by decide +kernel
theorem dX8_turn_1 : decode cX8_turn 1 = .ok (.iload_n 1, 1) := by decide +kernel
theorem dX8_turn_2 : decode cX8_turn 2 = .ok (.invokevirtual 173, 3) := by decide +kernel
theorem dX8_turn_5 : decode cX8_turn 5 = .ok (.ifCond .ne 5, 3) := by decide +kernel
theorem dX8_turn_8 : decode cX8_turn 8 = .ok (.iconst (-1), 1) := by decide +kernel
theorem dX8_turn_9 : decode cX8_turn 9 = .ok (.ireturn, 1) := by decide +kernel
theorem dX8_turn_10 : decode cX8_turn 10 = .ok (.aload_n 0, 1) := by decide +kernel
theorem dX8_turn_11 : decode cX8_turn 11 = .ok (.invokevirtual 183, 3) := by decide +kernel
theorem dX8_turn_14 : decode cX8_turn 14 = .ok (.aload_n 0, 1) := by decide +kernel
theorem dX8_turn_15 : decode cX8_turn 15 = .ok (.dup, 1) := by decide +kernel
theorem dX8_turn_16 : decode cX8_turn 16 = .ok (.getfield 78, 3) := by decide +kernel
theorem dX8_turn_19 : decode cX8_turn 19 = .ok (.iconst 1, 1) := by decide +kernel
theorem dX8_turn_20 : decode cX8_turn 20 = .ok (.iload_n 1, 1) := by decide +kernel
theorem dX8_turn_21 : decode cX8_turn 21 = .ok (.ishl, 1) := by decide +kernel
theorem dX8_turn_22 : decode cX8_turn 22 = .ok (.ixor, 1) := by decide +kernel
theorem dX8_turn_23 : decode cX8_turn 23 = .ok (.putfield 78, 3) := by decide +kernel
theorem dX8_turn_26 : decode cX8_turn 26 = .ok (.aload_n 0, 1) := by decide +kernel
theorem dX8_turn_27 : decode cX8_turn 27 = .ok (.getfield 78, 3) := by decide +kernel
theorem dX8_turn_30 : decode cX8_turn 30 = .ok (.iload_n 1, 1) := by decide +kernel
theorem dX8_turn_31 : decode cX8_turn 31 = .ok (.ishr, 1) := by decide +kernel
theorem dX8_turn_32 : decode cX8_turn 32 = .ok (.iconst 1, 1) := by decide +kernel
theorem dX8_turn_33 : decode cX8_turn 33 = .ok (.iand, 1) := by decide +kernel
theorem dX8_turn_34 : decode cX8_turn 34 = .ok (.ireturn, 1) := by decide +kernel
theorem dX8_add_0 : decode cX8_add 0 = .ok (.aload_n 0, 1) := by decide +kernel
theorem dX8_add_1 : decode cX8_add 1 = .ok (.iload_n 1, 1) := by decide +kernel
theorem dX8_add_2 : decode cX8_add 2 = .ok (.invokevirtual 170, 3) := by decide +kernel
theorem dX8_add_5 : decode cX8_add 5 = .ok (.ifCond .eq 31, 3) := by decide +kernel
theorem dX8_add_8 : decode cX8_add 8 = .ok (.aload_n 0, 1) := by decide +kernel
theorem dX8_add_9 : decode cX8_add 9 = .ok (.iload_n 2, 1) := by decide +kernel
theorem dX8_add_10 : decode cX8_add 10 = .ok (.invokevirtual 173, 3) := by decide +kernel
theorem dX8_add_13 : decode cX8_add 13 = .ok (.ifCond .eq 23, 3) := by decide +kernel
theorem dX8_add_16 : decode cX8_add 16 = .ok (.iload_n 3, 1) := by decide +kernel
theorem dX8_add_17 : decode cX8_add 17 = .ok (.iconst 0, 1) := by decide +kernel
theorem dX8_add_18 : decode cX8_add 18 = .ok (.iconst 1, 1) := by decide +kernel
theorem dX8_add_19 : decode cX8_add 19 = .ok (.invokestatic 91, 3) := by decide +kernel
theorem dX8_add_22 : decode cX8_add 22 = .ok (.ifCond .eq 14, 3) := by decide +kernel
theorem dX8_add_25 : decode cX8_add 25 = .ok (.iload 4, 2) := by decide +kernel
theorem dX8_add_27 : decode cX8_add 27 = .ok (.iconst 1, 1) := by decide +kernel
theorem dX8_add_28 : decode cX8_add 28 = .ok (.bipush 20, 2) := by decide +kernel
theorem dX8_add_30 : decode cX8_add 30 = .ok (.invokestatic 91, 3) := by decide +kernel
theorem dX8_add_33 : decode cX8_add 33 = .ok (.ifCond .ne 5, 3) := by decide +kernel
theorem dX8_add_36 : decode cX8_add 36 = .ok (.iconst (-1), 1) := by decide +kernel
theorem dX8_add_37 : decode cX8_add 37 = .ok (.ireturn, 1) := by decide +kernel
theorem dX8_add_38 : decode cX8_add 38 = .ok (.aload_n 0, 1) := by decide +kernel
theorem dX8_add_39 : decode cX8_add 39 = .ok (.getfield 85, 3) := by decide +kernel
theorem dX8_add_42 : decode cX8_add 42 = .ok (.bipush 7, 2) := by decide +kernel
theorem dX8_add_44 : decode cX8_add 44 = .ok (.if_icmp .ne 6, 3) := by decide +kernel
theorem dX8_add_47 : decode cX8_add 47 = .ok (.bipush (-3), 2) := by decide +kernel
theorem dX8_add_49 : decode cX8_add 49 = .ok (.ireturn, 1) := by decide +kernel
theorem dX8_add_50 : decode cX8_add 50 = .ok (.aload_n 0, 1) := by decide +kernel
theorem dX8_add_51 : decode cX8_add 51 = .ok (.invokevirtual 183, 3) := by decide +kernel
theorem dX8_add_54 : decode cX8_add 54 = .ok (.aload_n 0, 1) := by decide +kernel
theorem dX8_add_55 : decode cX8_add 55 = .ok (.aload_n 0, 1) := by decide +kernel
theorem dX8_add_56 : decode cX8_add 56 = .ok (.getfield 85, 3) := by decide +kernel
theorem dX8_add_59 : decode cX8_add 59 = .ok (.iload_n 1, 1) := by decide +kernel
theorem dX8_add_60 : decode cX8_add 60 = .ok (.iload_n 2, 1) := by decide +kernel
theorem dX8_add_61 : decode cX8_add 61 = .ok (.iload_n 3, 1) := by decide +kernel
theorem dX8_add_62 : decode cX8_add 62 = .ok (.iload 4, 2) := by decide +kernel
theorem dX8_add_64 : decode cX8_add 64 = .ok (.invokevirtual 81, 3) := by decide +kernel
theorem dX8_add_67 : decode cX8_add 67 = .ok (.aload_n 0, 1) := by decide +kernel
theorem dX8_add_68 : decode cX8_add 68 = .ok (.dup, 1) := by decide +kernel
theorem dX8_add_69 : decode cX8_add 69 = .ok (.getfield 85, 3) := by decide +kernel
theorem dX8_add_72 : decode cX8_add 72 = .ok (.iconst 1, 1) := by decide +kernel
theorem dX8_add_73 : decode cX8_add 73 = .ok (.iadd, 1) := by decide +kernel
theorem dX8_add_74 : decode cX8_add 74 = .ok (.putfield 85, 3) := by decide +kernel
theorem dX8_add_77 : decode cX8_add 77 = .ok (.aload_n 0, 1) := by decide +kernel
theorem dX8_add_78 : decode cX8_add 78 = .ok (.getfield 85, 3) := by decide +kernel
theorem dX8_add_81 : decode cX8_add 81 = .ok (.iconst 1, 1) := by decide +kernel
theorem dX8_add_82 : decode cX8_add 82 = .ok (.isub, 1) := by decide +kernel
theorem dX8_add_83 : decode cX8_add 83 = .ok (.ireturn, 1) := by decide +kernel
theorem dX8_strike_0 : decode cX8_strike 0 = .ok (.aload_n 0, 1) := by decide +kernel
theorem dX8_strike_1 : decode cX8_strike 1 = .ok (.iload_n 1, 1) := by decide +kernel
theorem dX8_strike_2 : decode cX8_strike 2 = .ok (.invokevirtual 176, 3) := by decide +kernel
theorem dX8_strike_5 : decode cX8_strike 5 = .ok (.ifCond .ne 5, 3) := by decide +kernel
theorem dX8_strike_8 : decode cX8_strike 8 = .ok (.iconst (-1), 1) := by decide +kernel
theorem dX8_strike_9 : decode cX8_strike 9 = .ok (.ireturn, 1) := by decide +kernel
theorem dX8_strike_10 : decode cX8_strike 10 = .ok (.aload_n 0, 1) := by decide +kernel
theorem dX8_strike_11 : decode cX8_strike 11 = .ok (.invokevirtual 183, 3) := by decide +kernel
theorem dX8_strike_14 : decode cX8_strike 14 = .ok (.iload_n 1, 1) := by decide +kernel
theorem dX8_strike_15 : decode cX8_strike 15 = .ok (.iconst 1, 1) := by decide +kernel
theorem dX8_strike_16 : decode cX8_strike 16 = .ok (.iadd, 1) := by decide +kernel
theorem dX8_strike_17 : decode cX8_strike 17 = .ok (.istore_n 2, 1) := by decide +kernel
theorem dX8_strike_18 : decode cX8_strike 18 = .ok (.iload_n 2, 1) := by decide +kernel
theorem dX8_strike_19 : decode cX8_strike 19 = .ok (.aload_n 0, 1) := by decide +kernel
theorem dX8_strike_20 : decode cX8_strike 20 = .ok (.getfield 85, 3) := by decide +kernel
theorem dX8_strike_23 : decode cX8_strike 23 = .ok (.if_icmp .ge 17, 3) := by decide +kernel
theorem dX8_strike_26 : decode cX8_strike 26 = .ok (.aload_n 0, 1) := by decide +kernel
theorem dX8_strike_27 : decode cX8_strike 27 = .ok (.iload_n 2, 1) := by decide +kernel
theorem dX8_strike_28 : decode cX8_strike 28 = .ok (.iload_n 2, 1) := by decide +kernel
theorem dX8_strike_29 : decode cX8_strike 29 = .ok (.iconst 1, 1) := by decide +kernel
theorem dX8_strike_30 : decode cX8_strike 30 = .ok (.isub, 1) := by decide +kernel
theorem dX8_strike_31 : decode cX8_strike 31 = .ok (.invokevirtual 186, 3) := by decide +kernel
theorem dX8_strike_34 : decode cX8_strike 34 = .ok (.iinc 2 1, 3) := by decide +kernel
theorem dX8_strike_37 : decode cX8_strike 37 = .ok (.goto (-19), 3) := by decide +kernel
theorem dX8_strike_40 : decode cX8_strike 40 = .ok (.aload_n 0, 1) := by decide +kernel
theorem dX8_strike_41 : decode cX8_strike 41 = .ok (.dup, 1) := by decide +kernel
theorem dX8_strike_42 : decode cX8_strike 42 = .ok (.getfield 85, 3) := by decide +kernel
theorem dX8_strike_45 : decode cX8_strike 45 = .ok (.iconst 1, 1) := by decide +kernel
theorem dX8_strike_46 : decode cX8_strike 46 = .ok (.isub, 1) := by decide +kernel
theorem dX8_strike_47 : decode cX8_strike 47 = .ok (.putfield 85, 3) := by decide +kernel
theorem dX8_strike_50 : decode cX8_strike 50 = .ok (.aload_n 0, 1) := by decide +kernel
theorem dX8_strike_51 : decode cX8_strike 51 = .ok (.getfield 85, 3) := by decide +kernel
theorem dX8_strike_54 : decode cX8_strike 54 = .ok (.ireturn, 1) := by decide +kernel
theorem dX8_shifts_0 : decode cX8_shifts 0 = .ok (.aload_n 0, 1) := by decide +kernel
theorem dX8_shifts_1 : decode cX8_shifts 1 = .ok (.getfield 16, 3) := by decide +kernel
theorem dX8_shifts_4 : decode cX8_shifts 4 = .ok (.iload_n 1, 1) := by decide +kernel
theorem dX8_shifts_5 : decode cX8_shifts 5 = .ok (.iaload, 1) := by decide +kernel
theorem dX8_shifts_6 : decode cX8_shifts 6 = .ok (.istore_n 3, 1) := by decide +kernel
theorem dX8_shifts_7 : decode cX8_shifts 7 = .ok (.aload_n 0, 1) := by decide +kernel
theorem dX8_shifts_8 : decode cX8_shifts 8 = .ok (.getfield 19, 3) := by decide +kernel
theorem dX8_shifts_11 : decode cX8_shifts 11 = .ok (.iload_n 1, 1) := by decide +kernel
theorem dX8_shifts_12 : decode cX8_shifts 12 = .ok (.iaload, 1) := by decide +kernel
theorem dX8_shifts_13 : decode cX8_shifts 13 = .ok (.istore 4, 2) := by decide +kernel
theorem dX8_shifts_15 : decode cX8_shifts 15 = .ok (.aload_n 0, 1) := by decide +kernel
theorem dX8_shifts_16 : decode cX8_shifts 16 = .ok (.getfield 22, 3) := by decide +kernel
theorem dX8_shifts_19 : decode cX8_shifts 19 = .ok (.iload_n 1, 1) := by decide +kernel
theorem dX8_shifts_20 : decode cX8_shifts 20 = .ok (.iaload, 1) := by decide +kernel
theorem dX8_shifts_21 : decode cX8_shifts 21 = .ok (.istore 5, 2) := by decide +kernel
theorem dX8_shifts_23 : decode cX8_shifts 23 = .ok (.aload_n 0, 1) := by decide +kernel
theorem dX8_shifts_24 : decode cX8_shifts 24 = .ok (.getfield 25, 3) := by decide +kernel
theorem dX8_shifts_27 : decode cX8_shifts 27 = .ok (.iload_n 1, 1) := by decide +kernel
theorem dX8_shifts_28 : decode cX8_shifts 28 = .ok (.iaload, 1) := by decide +kernel
theorem dX8_shifts_29 : decode cX8_shifts 29 = .ok (.istore 6, 2) := by decide +kernel
theorem dX8_shifts_31 : decode cX8_shifts 31 = .ok (.iload_n 1, 1) := by decide +kernel
theorem dX8_shifts_32 : decode cX8_shifts 32 = .ok (.istore 7, 2) := by decide +kernel
theorem dX8_shifts_34 : decode cX8_shifts 34 = .ok (.iload 7, 2) := by decide +kernel
theorem dX8_shifts_36 : decode cX8_shifts 36 = .ok (.iload_n 2, 1) := by decide +kernel
theorem dX8_shifts_37 : decode cX8_shifts 37 = .ok (.if_icmp .ge 19, 3) := by decide +kernel
theorem dX8_shifts_40 : decode cX8_shifts 40 = .ok (.aload_n 0, 1) := by decide +kernel
theorem dX8_shifts_41 : decode cX8_shifts 41 = .ok (.iload 7, 2) := by decide +kernel
theorem dX8_shifts_43 : decode cX8_shifts 43 = .ok (.iconst 1, 1) := by decide +kernel
theorem dX8_shifts_44 : decode cX8_shifts 44 = .ok (.iadd, 1) := by decide +kernel
theorem dX8_shifts_45 : decode cX8_shifts 45 = .ok (.iload 7, 2) := by decide +kernel
theorem dX8_shifts_47 : decode cX8_shifts 47 = .ok (.invokevirtual 186, 3) := by decide +kernel
theorem dX8_shifts_50 : decode cX8_shifts 50 = .ok (.iinc 7 1, 3) := by decide +kernel
theorem dX8_shifts_53 : decode cX8_shifts 53 = .ok (.goto (-19), 3) := by decide +kernel
theorem dX8_shifts_56 : decode cX8_shifts 56 = .ok (.iload_n 1, 1) := by decide +kernel
theorem dX8_shifts_57 : decode cX8_shifts 57 = .ok (.istore 7, 2) := by decide +kernel
theorem dX8_shifts_59 : decode cX8_shifts 59 = .ok (.iload 7, 2) := by decide +kernel
theorem dX8_shifts_61 : decode cX8_shifts 61 = .ok (.iload_n 2, 1) := by decide +kernel
theorem dX8_shifts_62 : decode cX8_shifts 62 = .ok (.if_icmp .le 19, 3) := by decide +kernel
theorem dX8_shifts_65 : decode cX8_shifts 65 = .ok (.aload_n 0, 1) := by decide +kernel
theorem dX8_shifts_66 : decode cX8_shifts 66 = .ok (.iload 7, 2) := by decide +kernel
theorem dX8_shifts_68 : decode cX8_shifts 68 = .ok (.iconst 1, 1) := by decide +kernel
theorem dX8_shifts_69 : decode cX8_shifts 69 = .ok (.isub, 1) := by decide +kernel
theorem dX8_shifts_70 : decode cX8_shifts 70 = .ok (.iload 7, 2) := by decide +kernel
theorem dX8_shifts_72 : decode cX8_shifts 72 = .ok (.invokevirtual 186, 3) := by decide +kernel
theorem dX8_shifts_75 : decode cX8_shifts 75 = .ok (.iinc 7 (-1), 3) := by decide +kernel
theorem dX8_shifts_78 : decode cX8_shifts 78 = .ok (.goto (-19), 3) := by decide +kernel
theorem dX8_shifts_81 : decode cX8_shifts 81 = .ok (.aload_n 0, 1) := by decide +kernel
theorem dX8_shifts_82 : decode cX8_shifts 82 = .ok (.iload_n 2, 1) := by decide +kernel
theorem dX8_shifts_83 : decode cX8_shifts 83 = .ok (.iload_n 3, 1) := by decide +kernel
theorem dX8_shifts_84 : decode cX8_shifts 84 = .ok (.iload 4, 2) := by decide +kernel
theorem dX8_shifts_86 : decode cX8_shifts 86 = .ok (.iload 5, 2) := by decide +kernel
theorem dX8_shifts_88 : decode cX8_shifts 88 = .ok (.iload 6, 2) := by decide +kernel
theorem dX8_shifts_90 : decode cX8_shifts 90 = .ok (.invokevirtual 81, 3) := by decide +kernel
theorem dX8_shifts_93 : decode cX8_shifts 93 = .ok (.return_, 1) := by decide +kernel
theorem dX8_shift_0 : decode cX8_shift 0 = .ok (.aload_n 0, 1) := by decide +kernel
theorem dX8_shift_1 : decode cX8_shift 1 = .ok (.iload_n 1, 1) := by decide +kernel
theorem dX8_shift_2 : decode cX8_shift 2 = .ok (.invokevirtual 176, 3) := by decide +kernel
theorem dX8_shift_5 : decode cX8_shift 5 = .ok (.ifCond .eq 11, 3) := by decide +kernel
theorem dX8_shift_8 : decode cX8_shift 8 = .ok (.aload_n 0, 1) := by decide +kernel
theorem dX8_shift_9 : decode cX8_shift 9 = .ok (.iload_n 2, 1) := by decide +kernel
theorem dX8_shift_10 : decode cX8_shift 10 = .ok (.invokevirtual 176, 3) := by decide +kernel
theorem dX8_shift_13 : decode cX8_shift 13 = .ok (.ifCond .ne 5, 3) := by decide +kernel
theorem dX8_shift_16 : decode cX8_shift 16 = .ok (.iconst (-1), 1) := by decide +kernel
theorem dX8_shift_17 : decode cX8_shift 17 = .ok (.ireturn, 1) := by decide +kernel
theorem dX8_shift_18 : decode cX8_shift 18 = .ok (.iload_n 1, 1) := by decide +kernel
theorem dX8_shift_19 : decode cX8_shift 19 = .ok (.iload_n 2, 1) := by decide +kernel
theorem dX8_shift_20 : decode cX8_shift 20 = .ok (.if_icmp .ne 6, 3) := by decide +kernel
theorem dX8_shift_23 : decode cX8_shift 23 = .ok (.bipush (-2), 2) := by decide +kernel
theorem dX8_shift_25 : decode cX8_shift 25 = .ok (.ireturn, 1) := by decide +kernel
theorem dX8_shift_26 : decode cX8_shift 26 = .ok (.aload_n 0, 1) := by decide +kernel
theorem dX8_shift_27 : decode cX8_shift 27 = .ok (.invokevirtual 183, 3) := by decide +kernel
theorem dX8_shift_30 : decode cX8_shift 30 = .ok (.aload_n 0, 1) := by decide +kernel
theorem dX8_shift_31 : decode cX8_shift 31 = .ok (.iload_n 1, 1) := by decide +kernel
theorem dX8_shift_32 : decode cX8_shift 32 = .ok (.iload_n 2, 1) := by decide +kernel
theorem dX8_shift_33 : decode cX8_shift 33 = .ok (.invokevirtual 189, 3) := by decide +kernel
theorem dX8_shift_36 : decode cX8_shift 36 = .ok (.iload_n 1, 1) := by decide +kernel
theorem dX8_shift_37 : decode cX8_shift 37 = .ok (.iload_n 2, 1) := by decide +kernel
theorem dX8_shift_38 : decode cX8_shift 38 = .ok (.isub, 1) := by decide +kernel
theorem dX8_shift_39 : decode cX8_shift 39 = .ok (.bipush 10, 2) := by decide +kernel
theorem dX8_shift_41 : decode cX8_shift 41 = .ok (.iadd, 1) := by decide +kernel
theorem dX8_shift_42 : decode cX8_shift 42 = .ok (.ireturn, 1) := by decide +kernel
theorem dX8_grip_0 : decode cX8_grip 0 = .ok (.aload_n 0, 1) := by decide +kernel
theorem dX8_grip_1 : decode cX8_grip 1 = .ok (.iload_n 1, 1) := by decide +kernel
theorem dX8_grip_2 : decode cX8_grip 2 = .ok (.invokevirtual 170, 3) := by decide +kernel
theorem dX8_grip_5 : decode cX8_grip 5 = .ok (.ifCond .eq 13, 3) := by decide +kernel
theorem dX8_grip_8 : decode cX8_grip 8 = .ok (.iload_n 2, 1) := by decide +kernel
theorem dX8_grip_9 : decode cX8_grip 9 = .ok (.iconst 1, 1) := by decide +kernel
theorem dX8_grip_10 : decode cX8_grip 10 = .ok (.bipush 40, 2) := by decide +kernel
theorem dX8_grip_12 : decode cX8_grip 12 = .ok (.invokestatic 91, 3) := by decide +kernel
theorem dX8_grip_15 : decode cX8_grip 15 = .ok (.ifCond .ne 5, 3) := by decide +kernel
theorem dX8_grip_18 : decode cX8_grip 18 = .ok (.iconst (-1), 1) := by decide +kernel
theorem dX8_grip_19 : decode cX8_grip 19 = .ok (.ireturn, 1) := by decide +kernel
theorem dX8_grip_20 : decode cX8_grip 20 = .ok (.aload_n 0, 1) := by decide +kernel
theorem dX8_grip_21 : decode cX8_grip 21 = .ok (.getfield 13, 3) := by decide +kernel
theorem dX8_grip_24 : decode cX8_grip 24 = .ok (.iload_n 1, 1) := by decide +kernel
theorem dX8_grip_25 : decode cX8_grip 25 = .ok (.iaload, 1) := by decide +kernel
theorem dX8_grip_26 : decode cX8_grip 26 = .ok (.istore_n 3, 1) := by decide +kernel
theorem dX8_grip_27 : decode cX8_grip 27 = .ok (.iload_n 3, 1) := by decide +kernel
theorem dX8_grip_28 : decode cX8_grip 28 = .ok (.iload_n 2, 1) := by decide +kernel
theorem dX8_grip_29 : decode cX8_grip 29 = .ok (.if_icmp .ne 6, 3) := by decide +kernel
theorem dX8_grip_32 : decode cX8_grip 32 = .ok (.bipush (-2), 2) := by decide +kernel
theorem dX8_grip_34 : decode cX8_grip 34 = .ok (.ireturn, 1) := by decide +kernel
theorem dX8_grip_35 : decode cX8_grip 35 = .ok (.aload_n 0, 1) := by decide +kernel
theorem dX8_grip_36 : decode cX8_grip 36 = .ok (.invokevirtual 183, 3) := by decide +kernel
theorem dX8_grip_39 : decode cX8_grip 39 = .ok (.aload_n 0, 1) := by decide +kernel
theorem dX8_grip_40 : decode cX8_grip 40 = .ok (.getfield 13, 3) := by decide +kernel
theorem dX8_grip_43 : decode cX8_grip 43 = .ok (.iload_n 1, 1) := by decide +kernel
theorem dX8_grip_44 : decode cX8_grip 44 = .ok (.iload_n 2, 1) := by decide +kernel
theorem dX8_grip_45 : decode cX8_grip 45 = .ok (.iastore, 1) := by decide +kernel
theorem dX8_grip_46 : decode cX8_grip 46 = .ok (.iload_n 3, 1) := by decide +kernel
theorem dX8_grip_47 : decode cX8_grip 47 = .ok (.ireturn, 1) := by decide +kernel
theorem dX8_undo_0 : decode cX8_undo 0 = .ok (.aload_n 0, 1) := by decide +kernel
theorem dX8_undo_1 : decode cX8_undo 1 = .ok (.getfield 142, 3) := by decide +kernel
theorem dX8_undo_4 : decode cX8_undo 4 = .ok (.ifCond .ne 6, 3) := by decide +kernel
theorem dX8_undo_7 : decode cX8_undo 7 = .ok (.bipush (-2), 2) := by decide +kernel
theorem dX8_undo_9 : decode cX8_undo 9 = .ok (.ireturn, 1) := by decide +kernel
theorem dX8_undo_10 : decode cX8_undo 10 = .ok (.aload_n 0, 1) := by decide +kernel
theorem dX8_undo_11 : decode cX8_undo 11 = .ok (.dup, 1) := by decide +kernel
theorem dX8_undo_12 : decode cX8_undo 12 = .ok (.getfield 142, 3) := by decide +kernel
theorem dX8_undo_15 : decode cX8_undo 15 = .ok (.iconst 1, 1) := by decide +kernel
theorem dX8_undo_16 : decode cX8_undo 16 = .ok (.isub, 1) := by decide +kernel
theorem dX8_undo_17 : decode cX8_undo 17 = .ok (.putfield 142, 3) := by decide +kernel
theorem dX8_undo_20 : decode cX8_undo 20 = .ok (.aload_n 0, 1) := by decide +kernel
theorem dX8_undo_21 : decode cX8_undo 21 = .ok (.aload_n 0, 1) := by decide +kernel
theorem dX8_undo_22 : decode cX8_undo 22 = .ok (.getfield 58, 3) := by decide +kernel
theorem dX8_undo_25 : decode cX8_undo 25 = .ok (.bipush 35, 2) := by decide +kernel
theorem dX8_undo_27 : decode cX8_undo 27 = .ok (.aload_n 0, 1) := by decide +kernel
theorem dX8_undo_28 : decode cX8_undo 28 = .ok (.getfield 142, 3) := by decide +kernel
theorem dX8_undo_31 : decode cX8_undo 31 = .ok (.imul, 1) := by decide +kernel
theorem dX8_undo_32 : decode cX8_undo 32 = .ok (.invokevirtual 192, 3) := by decide +kernel
theorem dX8_undo_35 : decode cX8_undo 35 = .ok (.aload_n 0, 1) := by decide +kernel
theorem dX8_undo_36 : decode cX8_undo 36 = .ok (.getfield 142, 3) := by decide +kernel
theorem dX8_undo_39 : decode cX8_undo 39 = .ok (.ireturn, 1) := by decide +kernel
theorem dX8_drops_0 : decode cX8_drops 0 = .ok (.aload_n 0, 1) := by decide +kernel
theorem dX8_drops_1 : decode cX8_drops 1 = .ok (.iload_n 1, 1) := by decide +kernel
theorem dX8_drops_2 : decode cX8_drops 2 = .ok (.invokevirtual 170, 3) := by decide +kernel
theorem dX8_drops_5 : decode cX8_drops 5 = .ok (.ifCond .ne 5, 3) := by decide +kernel
theorem dX8_drops_8 : decode cX8_drops 8 = .ok (.iconst (-1), 1) := by decide +kernel
theorem dX8_drops_9 : decode cX8_drops 9 = .ok (.ireturn, 1) := by decide +kernel
theorem dX8_drops_10 : decode cX8_drops 10 = .ok (.aload_n 0, 1) := by decide +kernel
theorem dX8_drops_11 : decode cX8_drops 11 = .ok (.iconst 0, 1) := by decide +kernel
theorem dX8_drops_12 : decode cX8_drops 12 = .ok (.invokevirtual 195, 3) := by decide +kernel
theorem dX8_drops_15 : decode cX8_drops 15 = .ok (.aload_n 0, 1) := by decide +kernel
theorem dX8_drops_16 : decode cX8_drops 16 = .ok (.getfield 52, 3) := by decide +kernel
theorem dX8_drops_19 : decode cX8_drops 19 = .ok (.iload_n 1, 1) := by decide +kernel
theorem dX8_drops_20 : decode cX8_drops 20 = .ok (.iaload, 1) := by decide +kernel
theorem dX8_drops_21 : decode cX8_drops 21 = .ok (.ireturn, 1) := by decide +kernel
theorem dX8_told_0 : decode cX8_told 0 = .ok (.aload_n 0, 1) := by decide +kernel
theorem dX8_told_1 : decode cX8_told 1 = .ok (.iconst 0, 1) := by decide +kernel
theorem dX8_told_2 : decode cX8_told 2 = .ok (.invokevirtual 195, 3) := by decide +kernel
theorem dX8_told_5 : decode cX8_told 5 = .ok (.aload_n 0, 1) := by decide +kernel
theorem dX8_told_6 : decode cX8_told 6 = .ok (.getfield 148, 3) := by decide +kernel
theorem dX8_told_9 : decode cX8_told 9 = .ok (.ireturn, 1) := by decide +kernel
theorem dX8_hot_0 : decode cX8_hot 0 = .ok (.aload_n 0, 1) := by decide +kernel
theorem dX8_hot_1 : decode cX8_hot 1 = .ok (.iload_n 1, 1) := by decide +kernel
theorem dX8_hot_2 : decode cX8_hot 2 = .ok (.invokevirtual 176, 3) := by decide +kernel
theorem dX8_hot_5 : decode cX8_hot 5 = .ok (.ifCond .ne 5, 3) := by decide +kernel
theorem dX8_hot_8 : decode cX8_hot 8 = .ok (.iconst (-1), 1) := by decide +kernel
theorem dX8_hot_9 : decode cX8_hot 9 = .ok (.ireturn, 1) := by decide +kernel
theorem dX8_hot_10 : decode cX8_hot 10 = .ok (.aload_n 0, 1) := by decide +kernel
theorem dX8_hot_11 : decode cX8_hot 11 = .ok (.iconst 0, 1) := by decide +kernel
theorem dX8_hot_12 : decode cX8_hot 12 = .ok (.invokevirtual 195, 3) := by decide +kernel
theorem dX8_hot_15 : decode cX8_hot 15 = .ok (.aload_n 0, 1) := by decide +kernel
theorem dX8_hot_16 : decode cX8_hot 16 = .ok (.getfield 55, 3) := by decide +kernel
theorem dX8_hot_19 : decode cX8_hot 19 = .ok (.iload_n 1, 1) := by decide +kernel
theorem dX8_hot_20 : decode cX8_hot 20 = .ok (.iaload, 1) := by decide +kernel
theorem dX8_hot_21 : decode cX8_hot 21 = .ok (.ireturn, 1) := by decide +kernel
theorem dX8_hottest_0 : decode cX8_hottest 0 = .ok (.aload_n 0, 1) := by decide +kernel
theorem dX8_hottest_1 : decode cX8_hottest 1 = .ok (.iconst 0, 1) := by decide +kernel
theorem dX8_hottest_2 : decode cX8_hottest 2 = .ok (.invokevirtual 195, 3) := by decide +kernel
theorem dX8_hottest_5 : decode cX8_hottest 5 = .ok (.aload_n 0, 1) := by decide +kernel
theorem dX8_hottest_6 : decode cX8_hottest 6 = .ok (.getfield 151, 3) := by decide +kernel
theorem dX8_hottest_9 : decode cX8_hottest 9 = .ok (.ireturn, 1) := by decide +kernel
theorem dX8_nextRow_0 : decode cX8_nextRow 0 = .ok (.aload_n 0, 1) := by decide +kernel
theorem dX8_nextRow_1 : decode cX8_nextRow 1 = .ok (.getfield 85, 3) := by decide +kernel
theorem dX8_nextRow_4 : decode cX8_nextRow 4 = .ok (.iconst 2, 1) := by decide +kernel
theorem dX8_nextRow_5 : decode cX8_nextRow 5 = .ok (.isub, 1) := by decide +kernel
theorem dX8_nextRow_6 : decode cX8_nextRow 6 = .ok (.istore_n 1, 1) := by decide +kernel
theorem dX8_nextRow_7 : decode cX8_nextRow 7 = .ok (.iload_n 1, 1) := by decide +kernel
theorem dX8_nextRow_8 : decode cX8_nextRow 8 = .ok (.ifCond .lt 26, 3) := by decide +kernel
theorem dX8_nextRow_11 : decode cX8_nextRow 11 = .ok (.aload_n 0, 1) := by decide +kernel
theorem dX8_nextRow_12 : decode cX8_nextRow 12 = .ok (.getfield 49, 3) := by decide +kernel
theorem dX8_nextRow_15 : decode cX8_nextRow 15 = .ok (.iload_n 1, 1) := by decide +kernel
theorem dX8_nextRow_16 : decode cX8_nextRow 16 = .ok (.iaload, 1) := by decide +kernel
theorem dX8_nextRow_17 : decode cX8_nextRow 17 = .ok (.aload_n 0, 1) := by decide +kernel
theorem dX8_nextRow_18 : decode cX8_nextRow 18 = .ok (.getfield 49, 3) := by decide +kernel
theorem dX8_nextRow_21 : decode cX8_nextRow 21 = .ok (.iload_n 1, 1) := by decide +kernel
theorem dX8_nextRow_22 : decode cX8_nextRow 22 = .ok (.iconst 1, 1) := by decide +kernel
theorem dX8_nextRow_23 : decode cX8_nextRow 23 = .ok (.iadd, 1) := by decide +kernel
theorem dX8_nextRow_24 : decode cX8_nextRow 24 = .ok (.iaload, 1) := by decide +kernel
theorem dX8_nextRow_25 : decode cX8_nextRow 25 = .ok (.if_icmp .le 9, 3) := by decide +kernel
theorem dX8_nextRow_28 : decode cX8_nextRow 28 = .ok (.iinc 1 (-1), 3) := by decide +kernel
theorem dX8_nextRow_31 : decode cX8_nextRow 31 = .ok (.goto (-24), 3) := by decide +kernel
theorem dX8_nextRow_34 : decode cX8_nextRow 34 = .ok (.iload_n 1, 1) := by decide +kernel
theorem dX8_nextRow_35 : decode cX8_nextRow 35 = .ok (.ifCond .ge 5, 3) := by decide +kernel
theorem dX8_nextRow_38 : decode cX8_nextRow 38 = .ok (.iconst 0, 1) := by decide +kernel
theorem dX8_nextRow_39 : decode cX8_nextRow 39 = .ok (.ireturn, 1) := by decide +kernel
theorem dX8_nextRow_40 : decode cX8_nextRow 40 = .ok (.aload_n 0, 1) := by decide +kernel
theorem dX8_nextRow_41 : decode cX8_nextRow 41 = .ok (.getfield 85, 3) := by decide +kernel
theorem dX8_nextRow_44 : decode cX8_nextRow 44 = .ok (.iconst 1, 1) := by decide +kernel
theorem dX8_nextRow_45 : decode cX8_nextRow 45 = .ok (.isub, 1) := by decide +kernel
theorem dX8_nextRow_46 : decode cX8_nextRow 46 = .ok (.istore_n 2, 1) := by decide +kernel
theorem dX8_nextRow_47 : decode cX8_nextRow 47 = .ok (.aload_n 0, 1) := by decide +kernel
theorem dX8_nextRow_48 : decode cX8_nextRow 48 = .ok (.getfield 49, 3) := by decide +kernel
theorem dX8_nextRow_51 : decode cX8_nextRow 51 = .ok (.iload_n 2, 1) := by decide +kernel
theorem dX8_nextRow_52 : decode cX8_nextRow 52 = .ok (.iaload, 1) := by decide +kernel
theorem dX8_nextRow_53 : decode cX8_nextRow 53 = .ok (.aload_n 0, 1) := by decide +kernel
theorem dX8_nextRow_54 : decode cX8_nextRow 54 = .ok (.getfield 49, 3) := by decide +kernel
theorem dX8_nextRow_57 : decode cX8_nextRow 57 = .ok (.iload_n 1, 1) := by decide +kernel
theorem dX8_nextRow_58 : decode cX8_nextRow 58 = .ok (.iaload, 1) := by decide +kernel
theorem dX8_nextRow_59 : decode cX8_nextRow 59 = .ok (.if_icmp .ge 9, 3) := by decide +kernel
theorem dX8_nextRow_62 : decode cX8_nextRow 62 = .ok (.iinc 2 (-1), 3) := by decide +kernel
theorem dX8_nextRow_65 : decode cX8_nextRow 65 = .ok (.goto (-18), 3) := by decide +kernel
theorem dX8_nextRow_68 : decode cX8_nextRow 68 = .ok (.aload_n 0, 1) := by decide +kernel
theorem dX8_nextRow_69 : decode cX8_nextRow 69 = .ok (.getfield 49, 3) := by decide +kernel
theorem dX8_nextRow_72 : decode cX8_nextRow 72 = .ok (.iload_n 1, 1) := by decide +kernel
theorem dX8_nextRow_73 : decode cX8_nextRow 73 = .ok (.iaload, 1) := by decide +kernel
theorem dX8_nextRow_74 : decode cX8_nextRow 74 = .ok (.istore_n 3, 1) := by decide +kernel
theorem dX8_nextRow_75 : decode cX8_nextRow 75 = .ok (.aload_n 0, 1) := by decide +kernel
theorem dX8_nextRow_76 : decode cX8_nextRow 76 = .ok (.getfield 49, 3) := by decide +kernel
theorem dX8_nextRow_79 : decode cX8_nextRow 79 = .ok (.iload_n 1, 1) := by decide +kernel
theorem dX8_nextRow_80 : decode cX8_nextRow 80 = .ok (.aload_n 0, 1) := by decide +kernel
theorem dX8_nextRow_81 : decode cX8_nextRow 81 = .ok (.getfield 49, 3) := by decide +kernel
theorem dX8_nextRow_84 : decode cX8_nextRow 84 = .ok (.iload_n 2, 1) := by decide +kernel
theorem dX8_nextRow_85 : decode cX8_nextRow 85 = .ok (.iaload, 1) := by decide +kernel
theorem dX8_nextRow_86 : decode cX8_nextRow 86 = .ok (.iastore, 1) := by decide +kernel
theorem dX8_nextRow_87 : decode cX8_nextRow 87 = .ok (.aload_n 0, 1) := by decide +kernel
theorem dX8_nextRow_88 : decode cX8_nextRow 88 = .ok (.getfield 49, 3) := by decide +kernel
theorem dX8_nextRow_91 : decode cX8_nextRow 91 = .ok (.iload_n 2, 1) := by decide +kernel
theorem dX8_nextRow_92 : decode cX8_nextRow 92 = .ok (.iload_n 3, 1) := by decide +kernel
theorem dX8_nextRow_93 : decode cX8_nextRow 93 = .ok (.iastore, 1) := by decide +kernel
theorem dX8_nextRow_94 : decode cX8_nextRow 94 = .ok (.aload_n 0, 1) := by decide +kernel
theorem dX8_nextRow_95 : decode cX8_nextRow 95 = .ok (.getfield 85, 3) := by decide +kernel
theorem dX8_nextRow_98 : decode cX8_nextRow 98 = .ok (.iconst 1, 1) := by decide +kernel
theorem dX8_nextRow_99 : decode cX8_nextRow 99 = .ok (.isub, 1) := by decide +kernel
theorem dX8_nextRow_100 : decode cX8_nextRow 100 = .ok (.istore 4, 2) := by decide +kernel
theorem dX8_nextRow_102 : decode cX8_nextRow 102 = .ok (.iload_n 1, 1) := by decide +kernel
theorem dX8_nextRow_103 : decode cX8_nextRow 103 = .ok (.iconst 1, 1) := by decide +kernel
theorem dX8_nextRow_104 : decode cX8_nextRow 104 = .ok (.iadd, 1) := by decide +kernel
theorem dX8_nextRow_105 : decode cX8_nextRow 105 = .ok (.istore 5, 2) := by decide +kernel
theorem dX8_nextRow_107 : decode cX8_nextRow 107 = .ok (.iload 5, 2) := by decide +kernel
theorem dX8_nextRow_109 : decode cX8_nextRow 109 = .ok (.iload 4, 2) := by decide +kernel
theorem dX8_nextRow_111 : decode cX8_nextRow 111 = .ok (.if_icmp .ge 44, 3) := by decide +kernel
theorem dX8_nextRow_114 : decode cX8_nextRow 114 = .ok (.aload_n 0, 1) := by decide +kernel
theorem dX8_nextRow_115 : decode cX8_nextRow 115 = .ok (.getfield 49, 3) := by decide +kernel
theorem dX8_nextRow_118 : decode cX8_nextRow 118 = .ok (.iload 5, 2) := by decide +kernel
theorem dX8_nextRow_120 : decode cX8_nextRow 120 = .ok (.iaload, 1) := by decide +kernel
theorem dX8_nextRow_121 : decode cX8_nextRow 121 = .ok (.istore 6, 2) := by decide +kernel
theorem dX8_nextRow_123 : decode cX8_nextRow 123 = .ok (.aload_n 0, 1) := by decide +kernel
theorem dX8_nextRow_124 : decode cX8_nextRow 124 = .ok (.getfield 49, 3) := by decide +kernel
theorem dX8_nextRow_127 : decode cX8_nextRow 127 = .ok (.iload 5, 2) := by decide +kernel
theorem dX8_nextRow_129 : decode cX8_nextRow 129 = .ok (.aload_n 0, 1) := by decide +kernel
theorem dX8_nextRow_130 : decode cX8_nextRow 130 = .ok (.getfield 49, 3) := by decide +kernel
theorem dX8_nextRow_133 : decode cX8_nextRow 133 = .ok (.iload 4, 2) := by decide +kernel
theorem dX8_nextRow_135 : decode cX8_nextRow 135 = .ok (.iaload, 1) := by decide +kernel
theorem dX8_nextRow_136 : decode cX8_nextRow 136 = .ok (.iastore, 1) := by decide +kernel
theorem dX8_nextRow_137 : decode cX8_nextRow 137 = .ok (.aload_n 0, 1) := by decide +kernel
theorem dX8_nextRow_138 : decode cX8_nextRow 138 = .ok (.getfield 49, 3) := by decide +kernel
theorem dX8_nextRow_141 : decode cX8_nextRow 141 = .ok (.iload 4, 2) := by decide +kernel
theorem dX8_nextRow_143 : decode cX8_nextRow 143 = .ok (.iload 6, 2) := by decide +kernel
theorem dX8_nextRow_145 : decode cX8_nextRow 145 = .ok (.iastore, 1) := by decide +kernel
theorem dX8_nextRow_146 : decode cX8_nextRow 146 = .ok (.iinc 4 (-1), 3) := by decide +kernel
theorem dX8_nextRow_149 : decode cX8_nextRow 149 = .ok (.iinc 5 1, 3) := by decide +kernel
theorem dX8_nextRow_152 : decode cX8_nextRow 152 = .ok (.goto (-45), 3) := by decide +kernel
theorem dX8_nextRow_155 : decode cX8_nextRow 155 = .ok (.iconst 1, 1) := by decide +kernel
theorem dX8_nextRow_156 : decode cX8_nextRow 156 = .ok (.ireturn, 1) := by decide +kernel
theorem dX8_order_0 : decode cX8_order 0 = .ok (.iload_n 1, 1) := by decide +kernel
theorem dX8_order_1 : decode cX8_order 1 = .ok (.iconst (-1), 1) := by decide +kernel
theorem dX8_order_2 : decode cX8_order 2 = .ok (.aload_n 0, 1) := by decide +kernel
theorem dX8_order_3 : decode cX8_order 3 = .ok (.getfield 85, 3) := by decide +kernel
theorem dX8_order_6 : decode cX8_order 6 = .ok (.iconst 1, 1) := by decide +kernel
theorem dX8_order_7 : decode cX8_order 7 = .ok (.isub, 1) := by decide +kernel
theorem dX8_order_8 : decode cX8_order 8 = .ok (.invokestatic 91, 3) := by decide +kernel
theorem dX8_order_11 : decode cX8_order 11 = .ok (.ifCond .ne 5, 3) := by decide +kernel
theorem dX8_order_14 : decode cX8_order 14 = .ok (.iconst (-1), 1) := by decide +kernel
theorem dX8_order_15 : decode cX8_order 15 = .ok (.ireturn, 1) := by decide +kernel
theorem dX8_order_16 : decode cX8_order 16 = .ok (.iconst 0, 1) := by decide +kernel
theorem dX8_order_17 : decode cX8_order 17 = .ok (.istore_n 2, 1) := by decide +kernel
theorem dX8_order_18 : decode cX8_order 18 = .ok (.iload_n 2, 1) := by decide +kernel
theorem dX8_order_19 : decode cX8_order 19 = .ok (.aload_n 0, 1) := by decide +kernel
theorem dX8_order_20 : decode cX8_order 20 = .ok (.getfield 85, 3) := by decide +kernel
theorem dX8_order_23 : decode cX8_order 23 = .ok (.if_icmp .ge 16, 3) := by decide +kernel
theorem dX8_order_26 : decode cX8_order 26 = .ok (.aload_n 0, 1) := by decide +kernel
theorem dX8_order_27 : decode cX8_order 27 = .ok (.getfield 49, 3) := by decide +kernel
theorem dX8_order_30 : decode cX8_order 30 = .ok (.iload_n 2, 1) := by decide +kernel
theorem dX8_order_31 : decode cX8_order 31 = .ok (.iload_n 2, 1) := by decide +kernel
theorem dX8_order_32 : decode cX8_order 32 = .ok (.iastore, 1) := by decide +kernel
theorem dX8_order_33 : decode cX8_order 33 = .ok (.iinc 2 1, 3) := by decide +kernel
theorem dX8_order_36 : decode cX8_order 36 = .ok (.goto (-18), 3) := by decide +kernel
theorem dX8_order_39 : decode cX8_order 39 = .ok (.iconst (-1), 1) := by decide +kernel
theorem dX8_order_40 : decode cX8_order 40 = .ok (.istore_n 2, 1) := by decide +kernel
theorem dX8_order_41 : decode cX8_order 41 = .ok (.iconst 1, 1) := by decide +kernel
theorem dX8_order_42 : decode cX8_order 42 = .ok (.istore_n 3, 1) := by decide +kernel
theorem dX8_order_43 : decode cX8_order 43 = .ok (.iload_n 3, 1) := by decide +kernel
theorem dX8_order_44 : decode cX8_order 44 = .ok (.ifCond .eq 70, 3) := by decide +kernel
theorem dX8_order_47 : decode cX8_order 47 = .ok (.aload_n 0, 1) := by decide +kernel
theorem dX8_order_48 : decode cX8_order 48 = .ok (.aload_n 0, 1) := by decide +kernel
theorem dX8_order_49 : decode cX8_order 49 = .ok (.getfield 85, 3) := by decide +kernel
theorem dX8_order_52 : decode cX8_order 52 = .ok (.invokevirtual 166, 3) := by decide +kernel
theorem dX8_order_55 : decode cX8_order 55 = .ok (.aload_n 0, 1) := by decide +kernel
theorem dX8_order_56 : decode cX8_order 56 = .ok (.getfield 148, 3) := by decide +kernel
theorem dX8_order_59 : decode cX8_order 59 = .ok (.invokestatic 198, 3) := by decide +kernel
theorem dX8_order_62 : decode cX8_order 62 = .ok (.iload_n 2, 1) := by decide +kernel
theorem dX8_order_63 : decode cX8_order 63 = .ok (.if_icmp .le 43, 3) := by decide +kernel
theorem dX8_order_66 : decode cX8_order 66 = .ok (.aload_n 0, 1) := by decide +kernel
theorem dX8_order_67 : decode cX8_order 67 = .ok (.getfield 148, 3) := by decide +kernel
theorem dX8_order_70 : decode cX8_order 70 = .ok (.invokestatic 198, 3) := by decide +kernel
theorem dX8_order_73 : decode cX8_order 73 = .ok (.istore_n 2, 1) := by decide +kernel
theorem dX8_order_74 : decode cX8_order 74 = .ok (.iconst 0, 1) := by decide +kernel
theorem dX8_order_75 : decode cX8_order 75 = .ok (.istore 4, 2) := by decide +kernel
theorem dX8_order_77 : decode cX8_order 77 = .ok (.iload 4, 2) := by decide +kernel
theorem dX8_order_79 : decode cX8_order 79 = .ok (.aload_n 0, 1) := by decide +kernel
theorem dX8_order_80 : decode cX8_order 80 = .ok (.getfield 85, 3) := by decide +kernel
theorem dX8_order_83 : decode cX8_order 83 = .ok (.if_icmp .ge 23, 3) := by decide +kernel
theorem dX8_order_86 : decode cX8_order 86 = .ok (.aload_n 0, 1) := by decide +kernel
theorem dX8_order_87 : decode cX8_order 87 = .ok (.getfield 61, 3) := by decide +kernel
theorem dX8_order_90 : decode cX8_order 90 = .ok (.iload 4, 2) := by decide +kernel
theorem dX8_order_92 : decode cX8_order 92 = .ok (.aload_n 0, 1) := by decide +kernel
theorem dX8_order_93 : decode cX8_order 93 = .ok (.getfield 49, 3) := by decide +kernel
theorem dX8_order_96 : decode cX8_order 96 = .ok (.iload 4, 2) := by decide +kernel
theorem dX8_order_98 : decode cX8_order 98 = .ok (.iaload, 1) := by decide +kernel
theorem dX8_order_99 : decode cX8_order 99 = .ok (.iastore, 1) := by decide +kernel
theorem dX8_order_100 : decode cX8_order 100 = .ok (.iinc 4 1, 3) := by decide +kernel
theorem dX8_order_103 : decode cX8_order 103 = .ok (.goto (-26), 3) := by decide +kernel
theorem dX8_order_106 : decode cX8_order 106 = .ok (.aload_n 0, 1) := by decide +kernel
theorem dX8_order_107 : decode cX8_order 107 = .ok (.invokevirtual 202, 3) := by decide +kernel
theorem dX8_order_110 : decode cX8_order 110 = .ok (.istore_n 3, 1) := by decide +kernel
theorem dX8_order_111 : decode cX8_order 111 = .ok (.goto (-68), 3) := by decide +kernel
theorem dX8_order_114 : decode cX8_order 114 = .ok (.iload_n 1, 1) := by decide +kernel
theorem dX8_order_115 : decode cX8_order 115 = .ok (.ifCond .ge 7, 3) := by decide +kernel
theorem dX8_order_118 : decode cX8_order 118 = .ok (.iload_n 2, 1) := by decide +kernel
theorem dX8_order_119 : decode cX8_order 119 = .ok (.goto 9, 3) := by decide +kernel
theorem dX8_order_122 : decode cX8_order 122 = .ok (.aload_n 0, 1) := by decide +kernel
theorem dX8_order_123 : decode cX8_order 123 = .ok (.getfield 61, 3) := by decide +kernel
theorem dX8_order_126 : decode cX8_order 126 = .ok (.iload_n 1, 1) := by decide +kernel
theorem dX8_order_127 : decode cX8_order 127 = .ok (.iaload, 1) := by decide +kernel
theorem dX8_order_128 : decode cX8_order 128 = .ok (.ireturn, 1) := by decide +kernel
theorem dX8_leave_0 : decode cX8_leave 0 = .ok (.aload_n 0, 1) := by decide +kernel
theorem dX8_leave_1 : decode cX8_leave 1 = .ok (.iload_n 1, 1) := by decide +kernel
theorem dX8_leave_2 : decode cX8_leave 2 = .ok (.invokevirtual 170, 3) := by decide +kernel
theorem dX8_leave_5 : decode cX8_leave 5 = .ok (.ifCond .eq 12, 3) := by decide +kernel
theorem dX8_leave_8 : decode cX8_leave 8 = .ok (.iload_n 2, 1) := by decide +kernel
theorem dX8_leave_9 : decode cX8_leave 9 = .ok (.iconst 0, 1) := by decide +kernel
theorem dX8_leave_10 : decode cX8_leave 10 = .ok (.iconst 1, 1) := by decide +kernel
theorem dX8_leave_11 : decode cX8_leave 11 = .ok (.invokestatic 91, 3) := by decide +kernel
theorem dX8_leave_14 : decode cX8_leave 14 = .ok (.ifCond .ne 5, 3) := by decide +kernel
theorem dX8_leave_17 : decode cX8_leave 17 = .ok (.iconst (-1), 1) := by decide +kernel
theorem dX8_leave_18 : decode cX8_leave 18 = .ok (.ireturn, 1) := by decide +kernel
theorem dX8_leave_19 : decode cX8_leave 19 = .ok (.bipush (-4), 2) := by decide +kernel
theorem dX8_leave_21 : decode cX8_leave 21 = .ok (.istore_n 3, 1) := by decide +kernel
theorem dX8_leave_22 : decode cX8_leave 22 = .ok (.ldc 205, 2) := by decide +kernel
theorem dX8_leave_24 : decode cX8_leave 24 = .ok (.istore 4, 2) := by decide +kernel
theorem dX8_leave_26 : decode cX8_leave 26 = .ok (.iconst 0, 1) := by decide +kernel
theorem dX8_leave_27 : decode cX8_leave 27 = .ok (.istore 5, 2) := by decide +kernel
theorem dX8_leave_29 : decode cX8_leave 29 = .ok (.iload 5, 2) := by decide +kernel
theorem dX8_leave_31 : decode cX8_leave 31 = .ok (.iconst 1, 1) := by decide +kernel
theorem dX8_leave_32 : decode cX8_leave 32 = .ok (.aload_n 0, 1) := by decide +kernel
theorem dX8_leave_33 : decode cX8_leave 33 = .ok (.getfield 85, 3) := by decide +kernel
theorem dX8_leave_36 : decode cX8_leave 36 = .ok (.ishl, 1) := by decide +kernel
theorem dX8_leave_37 : decode cX8_leave 37 = .ok (.if_icmp .ge 46, 3) := by decide +kernel
theorem dX8_leave_40 : decode cX8_leave 40 = .ok (.iload 5, 2) := by decide +kernel
theorem dX8_leave_42 : decode cX8_leave 42 = .ok (.invokestatic 198, 3) := by decide +kernel
theorem dX8_leave_45 : decode cX8_leave 45 = .ok (.iload 4, 2) := by decide +kernel
theorem dX8_leave_47 : decode cX8_leave 47 = .ok (.if_icmp .ge 30, 3) := by decide +kernel
theorem dX8_leave_50 : decode cX8_leave 50 = .ok (.aload_n 0, 1) := by decide +kernel
theorem dX8_leave_51 : decode cX8_leave 51 = .ok (.iload 5, 2) := by decide +kernel
theorem dX8_leave_53 : decode cX8_leave 53 = .ok (.invokevirtual 195, 3) := by decide +kernel
theorem dX8_leave_56 : decode cX8_leave 56 = .ok (.aload_n 0, 1) := by decide +kernel
theorem dX8_leave_57 : decode cX8_leave 57 = .ok (.getfield 52, 3) := by decide +kernel
theorem dX8_leave_60 : decode cX8_leave 60 = .ok (.iload_n 1, 1) := by decide +kernel
theorem dX8_leave_61 : decode cX8_leave 61 = .ok (.iaload, 1) := by decide +kernel
theorem dX8_leave_62 : decode cX8_leave 62 = .ok (.bipush (-4), 2) := by decide +kernel
theorem dX8_leave_64 : decode cX8_leave 64 = .ok (.if_icmp .ne 13, 3) := by decide +kernel
theorem dX8_leave_67 : decode cX8_leave 67 = .ok (.iload 5, 2) := by decide +kernel
theorem dX8_leave_69 : decode cX8_leave 69 = .ok (.istore_n 3, 1) := by decide +kernel
theorem dX8_leave_70 : decode cX8_leave 70 = .ok (.iload 5, 2) := by decide +kernel
theorem dX8_leave_72 : decode cX8_leave 72 = .ok (.invokestatic 198, 3) := by decide +kernel
theorem dX8_leave_75 : decode cX8_leave 75 = .ok (.istore 4, 2) := by decide +kernel
theorem dX8_leave_77 : decode cX8_leave 77 = .ok (.iinc 5 1, 3) := by decide +kernel
theorem dX8_leave_80 : decode cX8_leave 80 = .ok (.goto (-51), 3) := by decide +kernel
theorem dX8_leave_83 : decode cX8_leave 83 = .ok (.iload_n 2, 1) := by decide +kernel
theorem dX8_leave_84 : decode cX8_leave 84 = .ok (.ifCond .ne 8, 3) := by decide +kernel
theorem dX8_leave_87 : decode cX8_leave 87 = .ok (.iload 4, 2) := by decide +kernel
theorem dX8_leave_89 : decode cX8_leave 89 = .ok (.goto 4, 3) := by decide +kernel
theorem dX8_leave_92 : decode cX8_leave 92 = .ok (.iload_n 3, 1) := by decide +kernel
theorem dX8_leave_93 : decode cX8_leave 93 = .ok (.ireturn, 1) := by decide +kernel
theorem dX8_goneBy_0 : decode cX8_goneBy 0 = .ok (.iconst 0, 1) := by decide +kernel
theorem dX8_goneBy_1 : decode cX8_goneBy 1 = .ok (.istore_n 3, 1) := by decide +kernel
theorem dX8_goneBy_2 : decode cX8_goneBy 2 = .ok (.iconst 0, 1) := by decide +kernel
theorem dX8_goneBy_3 : decode cX8_goneBy 3 = .ok (.istore 4, 2) := by decide +kernel
theorem dX8_goneBy_5 : decode cX8_goneBy 5 = .ok (.iload 4, 2) := by decide +kernel
theorem dX8_goneBy_7 : decode cX8_goneBy 7 = .ok (.aload_n 0, 1) := by decide +kernel
theorem dX8_goneBy_8 : decode cX8_goneBy 8 = .ok (.getfield 85, 3) := by decide +kernel
theorem dX8_goneBy_11 : decode cX8_goneBy 11 = .ok (.if_icmp .ge 35, 3) := by decide +kernel
theorem dX8_goneBy_14 : decode cX8_goneBy 14 = .ok (.aload_n 0, 1) := by decide +kernel
theorem dX8_goneBy_15 : decode cX8_goneBy 15 = .ok (.getfield 16, 3) := by decide +kernel
theorem dX8_goneBy_18 : decode cX8_goneBy 18 = .ok (.iload 4, 2) := by decide +kernel
theorem dX8_goneBy_20 : decode cX8_goneBy 20 = .ok (.iaload, 1) := by decide +kernel
theorem dX8_goneBy_21 : decode cX8_goneBy 21 = .ok (.iload_n 1, 1) := by decide +kernel
theorem dX8_goneBy_22 : decode cX8_goneBy 22 = .ok (.if_icmp .ne 18, 3) := by decide +kernel
theorem dX8_goneBy_25 : decode cX8_goneBy 25 = .ok (.iload_n 3, 1) := by decide +kernel
theorem dX8_goneBy_26 : decode cX8_goneBy 26 = .ok (.iconst 1, 1) := by decide +kernel
theorem dX8_goneBy_27 : decode cX8_goneBy 27 = .ok (.iload 4, 2) := by decide +kernel
theorem dX8_goneBy_29 : decode cX8_goneBy 29 = .ok (.ishl, 1) := by decide +kernel
theorem dX8_goneBy_30 : decode cX8_goneBy 30 = .ok (.ior, 1) := by decide +kernel
theorem dX8_goneBy_31 : decode cX8_goneBy 31 = .ok (.istore_n 3, 1) := by decide +kernel
theorem dX8_goneBy_32 : decode cX8_goneBy 32 = .ok (.aload_n 0, 1) := by decide +kernel
theorem dX8_goneBy_33 : decode cX8_goneBy 33 = .ok (.getfield 16, 3) := by decide +kernel
theorem dX8_goneBy_36 : decode cX8_goneBy 36 = .ok (.iload 4, 2) := by decide +kernel
theorem dX8_goneBy_38 : decode cX8_goneBy 38 = .ok (.iload_n 2, 1) := by decide +kernel
theorem dX8_goneBy_39 : decode cX8_goneBy 39 = .ok (.iastore, 1) := by decide +kernel
theorem dX8_goneBy_40 : decode cX8_goneBy 40 = .ok (.iinc 4 1, 3) := by decide +kernel
theorem dX8_goneBy_43 : decode cX8_goneBy 43 = .ok (.goto (-38), 3) := by decide +kernel
theorem dX8_goneBy_46 : decode cX8_goneBy 46 = .ok (.aload_n 0, 1) := by decide +kernel
theorem dX8_goneBy_47 : decode cX8_goneBy 47 = .ok (.iconst 0, 1) := by decide +kernel
theorem dX8_goneBy_48 : decode cX8_goneBy 48 = .ok (.invokevirtual 195, 3) := by decide +kernel
theorem dX8_goneBy_51 : decode cX8_goneBy 51 = .ok (.iconst 0, 1) := by decide +kernel
theorem dX8_goneBy_52 : decode cX8_goneBy 52 = .ok (.istore 4, 2) := by decide +kernel
theorem dX8_goneBy_54 : decode cX8_goneBy 54 = .ok (.iload 4, 2) := by decide +kernel
theorem dX8_goneBy_56 : decode cX8_goneBy 56 = .ok (.aload_n 0, 1) := by decide +kernel
theorem dX8_goneBy_57 : decode cX8_goneBy 57 = .ok (.getfield 85, 3) := by decide +kernel
theorem dX8_goneBy_60 : decode cX8_goneBy 60 = .ok (.if_icmp .ge 36, 3) := by decide +kernel
theorem dX8_goneBy_63 : decode cX8_goneBy 63 = .ok (.aload_n 0, 1) := by decide +kernel
theorem dX8_goneBy_64 : decode cX8_goneBy 64 = .ok (.getfield 16, 3) := by decide +kernel
theorem dX8_goneBy_67 : decode cX8_goneBy 67 = .ok (.iload 4, 2) := by decide +kernel
theorem dX8_goneBy_69 : decode cX8_goneBy 69 = .ok (.iload_n 3, 1) := by decide +kernel
theorem dX8_goneBy_70 : decode cX8_goneBy 70 = .ok (.iload 4, 2) := by decide +kernel
theorem dX8_goneBy_72 : decode cX8_goneBy 72 = .ok (.invokestatic 162, 3) := by decide +kernel
theorem dX8_goneBy_75 : decode cX8_goneBy 75 = .ok (.ifCond .eq 7, 3) := by decide +kernel
theorem dX8_goneBy_78 : decode cX8_goneBy 78 = .ok (.iload_n 1, 1) := by decide +kernel
theorem dX8_goneBy_79 : decode cX8_goneBy 79 = .ok (.goto 10, 3) := by decide +kernel
theorem dX8_goneBy_82 : decode cX8_goneBy 82 = .ok (.aload_n 0, 1) := by decide +kernel
theorem dX8_goneBy_83 : decode cX8_goneBy 83 = .ok (.getfield 16, 3) := by decide +kernel
theorem dX8_goneBy_86 : decode cX8_goneBy 86 = .ok (.iload 4, 2) := by decide +kernel
theorem dX8_goneBy_88 : decode cX8_goneBy 88 = .ok (.iaload, 1) := by decide +kernel
theorem dX8_goneBy_89 : decode cX8_goneBy 89 = .ok (.iastore, 1) := by decide +kernel
theorem dX8_goneBy_90 : decode cX8_goneBy 90 = .ok (.iinc 4 1, 3) := by decide +kernel
theorem dX8_goneBy_93 : decode cX8_goneBy 93 = .ok (.goto (-39), 3) := by decide +kernel
theorem dX8_goneBy_96 : decode cX8_goneBy 96 = .ok (.aload_n 0, 1) := by decide +kernel
theorem dX8_goneBy_97 : decode cX8_goneBy 97 = .ok (.invokevirtual 206, 3) := by decide +kernel
theorem dX8_goneBy_100 : decode cX8_goneBy 100 = .ok (.ireturn, 1) := by decide +kernel
theorem dX8_holds_0 : decode cX8_holds 0 = .ok (.aload_n 0, 1) := by decide +kernel
theorem dX8_holds_1 : decode cX8_holds 1 = .ok (.iload_n 1, 1) := by decide +kernel
theorem dX8_holds_2 : decode cX8_holds 2 = .ok (.invokevirtual 170, 3) := by decide +kernel
theorem dX8_holds_5 : decode cX8_holds 5 = .ok (.ifCond .eq 12, 3) := by decide +kernel
theorem dX8_holds_8 : decode cX8_holds 8 = .ok (.iload_n 2, 1) := by decide +kernel
theorem dX8_holds_9 : decode cX8_holds 9 = .ok (.iconst 0, 1) := by decide +kernel
theorem dX8_holds_10 : decode cX8_holds 10 = .ok (.iconst 1, 1) := by decide +kernel
theorem dX8_holds_11 : decode cX8_holds 11 = .ok (.invokestatic 91, 3) := by decide +kernel
theorem dX8_holds_14 : decode cX8_holds 14 = .ok (.ifCond .ne 5, 3) := by decide +kernel
theorem dX8_holds_17 : decode cX8_holds 17 = .ok (.iconst (-1), 1) := by decide +kernel
theorem dX8_holds_18 : decode cX8_holds 18 = .ok (.ireturn, 1) := by decide +kernel
theorem dX8_holds_19 : decode cX8_holds 19 = .ok (.bipush (-4), 2) := by decide +kernel
theorem dX8_holds_21 : decode cX8_holds 21 = .ok (.istore_n 3, 1) := by decide +kernel
theorem dX8_holds_22 : decode cX8_holds 22 = .ok (.ldc 205, 2) := by decide +kernel
theorem dX8_holds_24 : decode cX8_holds 24 = .ok (.istore 4, 2) := by decide +kernel
theorem dX8_holds_26 : decode cX8_holds 26 = .ok (.iconst 0, 1) := by decide +kernel
theorem dX8_holds_27 : decode cX8_holds 27 = .ok (.istore 5, 2) := by decide +kernel
theorem dX8_holds_29 : decode cX8_holds 29 = .ok (.iload 5, 2) := by decide +kernel
theorem dX8_holds_31 : decode cX8_holds 31 = .ok (.aload_n 0, 1) := by decide +kernel
theorem dX8_holds_32 : decode cX8_holds 32 = .ok (.getfield 88, 3) := by decide +kernel
theorem dX8_holds_35 : decode cX8_holds 35 = .ok (.if_icmp .ge 48, 3) := by decide +kernel
theorem dX8_holds_38 : decode cX8_holds 38 = .ok (.aload_n 0, 1) := by decide +kernel
theorem dX8_holds_39 : decode cX8_holds 39 = .ok (.iload_n 1, 1) := by decide +kernel
theorem dX8_holds_40 : decode cX8_holds 40 = .ok (.iload 5, 2) := by decide +kernel
theorem dX8_holds_42 : decode cX8_holds 42 = .ok (.invokevirtual 209, 3) := by decide +kernel
theorem dX8_holds_45 : decode cX8_holds 45 = .ok (.istore 6, 2) := by decide +kernel
theorem dX8_holds_47 : decode cX8_holds 47 = .ok (.iload 6, 2) := by decide +kernel
theorem dX8_holds_49 : decode cX8_holds 49 = .ok (.iload 4, 2) := by decide +kernel
theorem dX8_holds_51 : decode cX8_holds 51 = .ok (.if_icmp .ge 8, 3) := by decide +kernel
theorem dX8_holds_54 : decode cX8_holds 54 = .ok (.iload 5, 2) := by decide +kernel
theorem dX8_holds_56 : decode cX8_holds 56 = .ok (.goto 4, 3) := by decide +kernel
theorem dX8_holds_59 : decode cX8_holds 59 = .ok (.iload_n 3, 1) := by decide +kernel
theorem dX8_holds_60 : decode cX8_holds 60 = .ok (.istore_n 3, 1) := by decide +kernel
theorem dX8_holds_61 : decode cX8_holds 61 = .ok (.iload 6, 2) := by decide +kernel
theorem dX8_holds_63 : decode cX8_holds 63 = .ok (.iload 4, 2) := by decide +kernel
theorem dX8_holds_65 : decode cX8_holds 65 = .ok (.if_icmp .ge 8, 3) := by decide +kernel
theorem dX8_holds_68 : decode cX8_holds 68 = .ok (.iload 6, 2) := by decide +kernel
theorem dX8_holds_70 : decode cX8_holds 70 = .ok (.goto 5, 3) := by decide +kernel
theorem dX8_holds_73 : decode cX8_holds 73 = .ok (.iload 4, 2) := by decide +kernel
theorem dX8_holds_75 : decode cX8_holds 75 = .ok (.istore 4, 2) := by decide +kernel
theorem dX8_holds_77 : decode cX8_holds 77 = .ok (.iinc 5 1, 3) := by decide +kernel
theorem dX8_holds_80 : decode cX8_holds 80 = .ok (.goto (-51), 3) := by decide +kernel
theorem dX8_holds_83 : decode cX8_holds 83 = .ok (.iload_n 2, 1) := by decide +kernel
theorem dX8_holds_84 : decode cX8_holds 84 = .ok (.ifCond .ne 7, 3) := by decide +kernel
theorem dX8_holds_87 : decode cX8_holds 87 = .ok (.iload_n 3, 1) := by decide +kernel
theorem dX8_holds_88 : decode cX8_holds 88 = .ok (.goto 5, 3) := by decide +kernel
theorem dX8_holds_91 : decode cX8_holds 91 = .ok (.iload 4, 2) := by decide +kernel
theorem dX8_holds_93 : decode cX8_holds 93 = .ok (.ireturn, 1) := by decide +kernel
theorem dX8_seen_0 : decode cX8_seen 0 = .ok (.aload_n 0, 1) := by decide +kernel
theorem dX8_seen_1 : decode cX8_seen 1 = .ok (.iload_n 1, 1) := by decide +kernel
theorem dX8_seen_2 : decode cX8_seen 2 = .ok (.invokevirtual 170, 3) := by decide +kernel
theorem dX8_seen_5 : decode cX8_seen 5 = .ok (.ifCond .eq 13, 3) := by decide +kernel
theorem dX8_seen_8 : decode cX8_seen 8 = .ok (.iload_n 2, 1) := by decide +kernel
theorem dX8_seen_9 : decode cX8_seen 9 = .ok (.iconst 0, 1) := by decide +kernel
theorem dX8_seen_10 : decode cX8_seen 10 = .ok (.bipush 7, 2) := by decide +kernel
theorem dX8_seen_12 : decode cX8_seen 12 = .ok (.invokestatic 91, 3) := by decide +kernel
theorem dX8_seen_15 : decode cX8_seen 15 = .ok (.ifCond .ne 5, 3) := by decide +kernel
theorem dX8_seen_18 : decode cX8_seen 18 = .ok (.iconst (-1), 1) := by decide +kernel
theorem dX8_seen_19 : decode cX8_seen 19 = .ok (.ireturn, 1) := by decide +kernel
theorem dX8_seen_20 : decode cX8_seen 20 = .ok (.aload_n 0, 1) := by decide +kernel
theorem dX8_seen_21 : decode cX8_seen 21 = .ok (.getfield 139, 3) := by decide +kernel
theorem dX8_seen_24 : decode cX8_seen 24 = .ok (.bipush 6, 2) := by decide +kernel
theorem dX8_seen_26 : decode cX8_seen 26 = .ok (.if_icmp .ne 6, 3) := by decide +kernel
theorem dX8_seen_29 : decode cX8_seen 29 = .ok (.bipush (-3), 2) := by decide +kernel
theorem dX8_seen_31 : decode cX8_seen 31 = .ok (.ireturn, 1) := by decide +kernel
theorem dX8_seen_32 : decode cX8_seen 32 = .ok (.aload_n 0, 1) := by decide +kernel
theorem dX8_seen_33 : decode cX8_seen 33 = .ok (.getfield 28, 3) := by decide +kernel
theorem dX8_seen_36 : decode cX8_seen 36 = .ok (.aload_n 0, 1) := by decide +kernel
theorem dX8_seen_37 : decode cX8_seen 37 = .ok (.getfield 139, 3) := by decide +kernel
theorem dX8_seen_40 : decode cX8_seen 40 = .ok (.iload_n 1, 1) := by decide +kernel
theorem dX8_seen_41 : decode cX8_seen 41 = .ok (.iastore, 1) := by decide +kernel
theorem dX8_seen_42 : decode cX8_seen 42 = .ok (.aload_n 0, 1) := by decide +kernel
theorem dX8_seen_43 : decode cX8_seen 43 = .ok (.getfield 31, 3) := by decide +kernel
theorem dX8_seen_46 : decode cX8_seen 46 = .ok (.aload_n 0, 1) := by decide +kernel
theorem dX8_seen_47 : decode cX8_seen 47 = .ok (.getfield 139, 3) := by decide +kernel
theorem dX8_seen_50 : decode cX8_seen 50 = .ok (.iload_n 2, 1) := by decide +kernel
theorem dX8_seen_51 : decode cX8_seen 51 = .ok (.iastore, 1) := by decide +kernel
theorem dX8_seen_52 : decode cX8_seen 52 = .ok (.aload_n 0, 1) := by decide +kernel
theorem dX8_seen_53 : decode cX8_seen 53 = .ok (.dup, 1) := by decide +kernel
theorem dX8_seen_54 : decode cX8_seen 54 = .ok (.getfield 139, 3) := by decide +kernel
theorem dX8_seen_57 : decode cX8_seen 57 = .ok (.iconst 1, 1) := by decide +kernel
theorem dX8_seen_58 : decode cX8_seen 58 = .ok (.iadd, 1) := by decide +kernel
theorem dX8_seen_59 : decode cX8_seen 59 = .ok (.putfield 139, 3) := by decide +kernel
theorem dX8_seen_62 : decode cX8_seen 62 = .ok (.aload_n 0, 1) := by decide +kernel
theorem dX8_seen_63 : decode cX8_seen 63 = .ok (.getfield 139, 3) := by decide +kernel
theorem dX8_seen_66 : decode cX8_seen 66 = .ok (.ireturn, 1) := by decide +kernel
theorem dX8_forget_0 : decode cX8_forget 0 = .ok (.aload_n 0, 1) := by decide +kernel
theorem dX8_forget_1 : decode cX8_forget 1 = .ok (.getfield 139, 3) := by decide +kernel
theorem dX8_forget_4 : decode cX8_forget 4 = .ok (.istore_n 1, 1) := by decide +kernel
theorem dX8_forget_5 : decode cX8_forget 5 = .ok (.aload_n 0, 1) := by decide +kernel
theorem dX8_forget_6 : decode cX8_forget 6 = .ok (.iconst 0, 1) := by decide +kernel
theorem dX8_forget_7 : decode cX8_forget 7 = .ok (.putfield 139, 3) := by decide +kernel
theorem dX8_forget_10 : decode cX8_forget 10 = .ok (.iload_n 1, 1) := by decide +kernel
theorem dX8_forget_11 : decode cX8_forget 11 = .ok (.ireturn, 1) := by decide +kernel
theorem dX8_isSo_0 : decode cX8_isSo 0 = .ok (.aload_n 0, 1) := by decide +kernel
theorem dX8_isSo_1 : decode cX8_isSo 1 = .ok (.iconst 0, 1) := by decide +kernel
theorem dX8_isSo_2 : decode cX8_isSo 2 = .ok (.invokevirtual 195, 3) := by decide +kernel
theorem dX8_isSo_5 : decode cX8_isSo 5 = .ok (.iconst 1, 1) := by decide +kernel
theorem dX8_isSo_6 : decode cX8_isSo 6 = .ok (.istore_n 1, 1) := by decide +kernel
theorem dX8_isSo_7 : decode cX8_isSo 7 = .ok (.iconst 0, 1) := by decide +kernel
theorem dX8_isSo_8 : decode cX8_isSo 8 = .ok (.istore_n 2, 1) := by decide +kernel
theorem dX8_isSo_9 : decode cX8_isSo 9 = .ok (.iload_n 2, 1) := by decide +kernel
theorem dX8_isSo_10 : decode cX8_isSo 10 = .ok (.aload_n 0, 1) := by decide +kernel
theorem dX8_isSo_11 : decode cX8_isSo 11 = .ok (.getfield 139, 3) := by decide +kernel
theorem dX8_isSo_14 : decode cX8_isSo 14 = .ok (.if_icmp .ge 61, 3) := by decide +kernel
theorem dX8_isSo_17 : decode cX8_isSo 17 = .ok (.aload_n 0, 1) := by decide +kernel
theorem dX8_isSo_18 : decode cX8_isSo 18 = .ok (.getfield 52, 3) := by decide +kernel
theorem dX8_isSo_21 : decode cX8_isSo 21 = .ok (.aload_n 0, 1) := by decide +kernel
theorem dX8_isSo_22 : decode cX8_isSo 22 = .ok (.getfield 28, 3) := by decide +kernel
theorem dX8_isSo_25 : decode cX8_isSo 25 = .ok (.iload_n 2, 1) := by decide +kernel
theorem dX8_isSo_26 : decode cX8_isSo 26 = .ok (.iaload, 1) := by decide +kernel
theorem dX8_isSo_27 : decode cX8_isSo 27 = .ok (.iaload, 1) := by decide +kernel
theorem dX8_isSo_28 : decode cX8_isSo 28 = .ok (.istore_n 3, 1) := by decide +kernel
theorem dX8_isSo_29 : decode cX8_isSo 29 = .ok (.iload_n 1, 1) := by decide +kernel
theorem dX8_isSo_30 : decode cX8_isSo 30 = .ok (.ifCond .eq 37, 3) := by decide +kernel
theorem dX8_isSo_33 : decode cX8_isSo 33 = .ok (.iload_n 3, 1) := by decide +kernel
theorem dX8_isSo_34 : decode cX8_isSo 34 = .ok (.bipush (-4), 2) := by decide +kernel
theorem dX8_isSo_36 : decode cX8_isSo 36 = .ok (.if_icmp .ne 17, 3) := by decide +kernel
theorem dX8_isSo_39 : decode cX8_isSo 39 = .ok (.aload_n 0, 1) := by decide +kernel
theorem dX8_isSo_40 : decode cX8_isSo 40 = .ok (.getfield 31, 3) := by decide +kernel
theorem dX8_isSo_43 : decode cX8_isSo 43 = .ok (.iload_n 2, 1) := by decide +kernel
theorem dX8_isSo_44 : decode cX8_isSo 44 = .ok (.iaload, 1) := by decide +kernel
theorem dX8_isSo_45 : decode cX8_isSo 45 = .ok (.bipush 7, 2) := by decide +kernel
theorem dX8_isSo_47 : decode cX8_isSo 47 = .ok (.if_icmp .ne 20, 3) := by decide +kernel
theorem dX8_isSo_50 : decode cX8_isSo 50 = .ok (.goto 13, 3) := by decide +kernel
theorem dX8_isSo_53 : decode cX8_isSo 53 = .ok (.aload_n 0, 1) := by decide +kernel
theorem dX8_isSo_54 : decode cX8_isSo 54 = .ok (.getfield 31, 3) := by decide +kernel
theorem dX8_isSo_57 : decode cX8_isSo 57 = .ok (.iload_n 2, 1) := by decide +kernel
theorem dX8_isSo_58 : decode cX8_isSo 58 = .ok (.iaload, 1) := by decide +kernel
theorem dX8_isSo_59 : decode cX8_isSo 59 = .ok (.iload_n 3, 1) := by decide +kernel
theorem dX8_isSo_60 : decode cX8_isSo 60 = .ok (.if_icmp .ne 7, 3) := by decide +kernel
theorem dX8_isSo_63 : decode cX8_isSo 63 = .ok (.iconst 1, 1) := by decide +kernel
theorem dX8_isSo_64 : decode cX8_isSo 64 = .ok (.goto 4, 3) := by decide +kernel
theorem dX8_isSo_67 : decode cX8_isSo 67 = .ok (.iconst 0, 1) := by decide +kernel
theorem dX8_isSo_68 : decode cX8_isSo 68 = .ok (.istore_n 1, 1) := by decide +kernel
theorem dX8_isSo_69 : decode cX8_isSo 69 = .ok (.iinc 2 1, 3) := by decide +kernel
theorem dX8_isSo_72 : decode cX8_isSo 72 = .ok (.goto (-63), 3) := by decide +kernel
theorem dX8_isSo_75 : decode cX8_isSo 75 = .ok (.iload_n 1, 1) := by decide +kernel
theorem dX8_isSo_76 : decode cX8_isSo 76 = .ok (.ireturn, 1) := by decide +kernel
theorem dX8_worlds_0 : decode cX8_worlds 0 = .ok (.iload_n 1, 1) := by decide +kernel
theorem dX8_worlds_1 : decode cX8_worlds 1 = .ok (.iconst 0, 1) := by decide +kernel
theorem dX8_worlds_2 : decode cX8_worlds 2 = .ok (.iconst 3, 1) := by decide +kernel
theorem dX8_worlds_3 : decode cX8_worlds 3 = .ok (.invokestatic 91, 3) := by decide +kernel
theorem dX8_worlds_6 : decode cX8_worlds 6 = .ok (.ifCond .ne 5, 3) := by decide +kernel
theorem dX8_worlds_9 : decode cX8_worlds 9 = .ok (.iconst (-1), 1) := by decide +kernel
theorem dX8_worlds_10 : decode cX8_worlds 10 = .ok (.ireturn, 1) := by decide +kernel
theorem dX8_worlds_11 : decode cX8_worlds 11 = .ok (.aload_n 0, 1) := by decide +kernel
theorem dX8_worlds_12 : decode cX8_worlds 12 = .ok (.getfield 78, 3) := by decide +kernel
theorem dX8_worlds_15 : decode cX8_worlds 15 = .ok (.istore_n 2, 1) := by decide +kernel
theorem dX8_worlds_16 : decode cX8_worlds 16 = .ok (.iconst 1, 1) := by decide +kernel
theorem dX8_worlds_17 : decode cX8_worlds 17 = .ok (.aload_n 0, 1) := by decide +kernel
theorem dX8_worlds_18 : decode cX8_worlds 18 = .ok (.getfield 74, 3) := by decide +kernel
theorem dX8_worlds_21 : decode cX8_worlds 21 = .ok (.ishl, 1) := by decide +kernel
theorem dX8_worlds_22 : decode cX8_worlds 22 = .ok (.iconst 1, 1) := by decide +kernel
theorem dX8_worlds_23 : decode cX8_worlds 23 = .ok (.isub, 1) := by decide +kernel
theorem dX8_worlds_24 : decode cX8_worlds 24 = .ok (.istore_n 3, 1) := by decide +kernel
theorem dX8_worlds_25 : decode cX8_worlds 25 = .ok (.iconst 0, 1) := by decide +kernel
theorem dX8_worlds_26 : decode cX8_worlds 26 = .ok (.istore 4, 2) := by decide +kernel
theorem dX8_worlds_28 : decode cX8_worlds 28 = .ok (.bipush (-4), 2) := by decide +kernel
theorem dX8_worlds_30 : decode cX8_worlds 30 = .ok (.istore 5, 2) := by decide +kernel
theorem dX8_worlds_32 : decode cX8_worlds 32 = .ok (.iload_n 3, 1) := by decide +kernel
theorem dX8_worlds_33 : decode cX8_worlds 33 = .ok (.istore 6, 2) := by decide +kernel
theorem dX8_worlds_35 : decode cX8_worlds 35 = .ok (.iconst 0, 1) := by decide +kernel
theorem dX8_worlds_36 : decode cX8_worlds 36 = .ok (.istore 7, 2) := by decide +kernel
theorem dX8_worlds_38 : decode cX8_worlds 38 = .ok (.iconst 0, 1) := by decide +kernel
theorem dX8_worlds_39 : decode cX8_worlds 39 = .ok (.istore 8, 2) := by decide +kernel
theorem dX8_worlds_41 : decode cX8_worlds 41 = .ok (.iload 8, 2) := by decide +kernel
theorem dX8_worlds_43 : decode cX8_worlds 43 = .ok (.iload_n 3, 1) := by decide +kernel
theorem dX8_worlds_44 : decode cX8_worlds 44 = .ok (.if_icmp .gt 53, 3) := by decide +kernel
theorem dX8_worlds_47 : decode cX8_worlds 47 = .ok (.aload_n 0, 1) := by decide +kernel
theorem dX8_worlds_48 : decode cX8_worlds 48 = .ok (.iload 8, 2) := by decide +kernel
theorem dX8_worlds_50 : decode cX8_worlds 50 = .ok (.putfield 78, 3) := by decide +kernel
theorem dX8_worlds_53 : decode cX8_worlds 53 = .ok (.aload_n 0, 1) := by decide +kernel
theorem dX8_worlds_54 : decode cX8_worlds 54 = .ok (.invokevirtual 213, 3) := by decide +kernel
theorem dX8_worlds_57 : decode cX8_worlds 57 = .ok (.ifCond .eq 34, 3) := by decide +kernel
theorem dX8_worlds_60 : decode cX8_worlds 60 = .ok (.iload 4, 2) := by decide +kernel
theorem dX8_worlds_62 : decode cX8_worlds 62 = .ok (.ifCond .ne 8, 3) := by decide +kernel
theorem dX8_worlds_65 : decode cX8_worlds 65 = .ok (.iload 8, 2) := by decide +kernel
theorem dX8_worlds_67 : decode cX8_worlds 67 = .ok (.goto 5, 3) := by decide +kernel
theorem dX8_worlds_70 : decode cX8_worlds 70 = .ok (.iload 5, 2) := by decide +kernel
theorem dX8_worlds_72 : decode cX8_worlds 72 = .ok (.istore 5, 2) := by decide +kernel
theorem dX8_worlds_74 : decode cX8_worlds 74 = .ok (.iinc 4 1, 3) := by decide +kernel
theorem dX8_worlds_77 : decode cX8_worlds 77 = .ok (.iload 6, 2) := by decide +kernel
theorem dX8_worlds_79 : decode cX8_worlds 79 = .ok (.iload 8, 2) := by decide +kernel
theorem dX8_worlds_81 : decode cX8_worlds 81 = .ok (.iand, 1) := by decide +kernel
theorem dX8_worlds_82 : decode cX8_worlds 82 = .ok (.istore 6, 2) := by decide +kernel
theorem dX8_worlds_84 : decode cX8_worlds 84 = .ok (.iload 7, 2) := by decide +kernel
theorem dX8_worlds_86 : decode cX8_worlds 86 = .ok (.iload 8, 2) := by decide +kernel
theorem dX8_worlds_88 : decode cX8_worlds 88 = .ok (.ior, 1) := by decide +kernel
theorem dX8_worlds_89 : decode cX8_worlds 89 = .ok (.istore 7, 2) := by decide +kernel
theorem dX8_worlds_91 : decode cX8_worlds 91 = .ok (.iinc 8 1, 3) := by decide +kernel
theorem dX8_worlds_94 : decode cX8_worlds 94 = .ok (.goto (-53), 3) := by decide +kernel
theorem dX8_worlds_97 : decode cX8_worlds 97 = .ok (.aload_n 0, 1) := by decide +kernel
theorem dX8_worlds_98 : decode cX8_worlds 98 = .ok (.iload_n 2, 1) := by decide +kernel
theorem dX8_worlds_99 : decode cX8_worlds 99 = .ok (.putfield 78, 3) := by decide +kernel
theorem dX8_worlds_102 : decode cX8_worlds 102 = .ok (.iload_n 1, 1) := by decide +kernel
theorem dX8_worlds_103 : decode cX8_worlds 103 = .ok (.ifCond .eq 8, 3) := by decide +kernel
theorem dX8_worlds_106 : decode cX8_worlds 106 = .ok (.iload 4, 2) := by decide +kernel
theorem dX8_worlds_108 : decode cX8_worlds 108 = .ok (.ifCond .ne 15, 3) := by decide +kernel
theorem dX8_worlds_111 : decode cX8_worlds 111 = .ok (.iload_n 1, 1) := by decide +kernel
theorem dX8_worlds_112 : decode cX8_worlds 112 = .ok (.ifCond .ne 8, 3) := by decide +kernel
theorem dX8_worlds_115 : decode cX8_worlds 115 = .ok (.iload 4, 2) := by decide +kernel
theorem dX8_worlds_117 : decode cX8_worlds 117 = .ok (.goto 5, 3) := by decide +kernel
theorem dX8_worlds_120 : decode cX8_worlds 120 = .ok (.bipush (-4), 2) := by decide +kernel
theorem dX8_worlds_122 : decode cX8_worlds 122 = .ok (.ireturn, 1) := by decide +kernel
theorem dX8_worlds_123 : decode cX8_worlds 123 = .ok (.iload_n 1, 1) := by decide +kernel
theorem dX8_worlds_124 : decode cX8_worlds 124 = .ok (.iconst 1, 1) := by decide +kernel
theorem dX8_worlds_125 : decode cX8_worlds 125 = .ok (.if_icmp .ne 8, 3) := by decide +kernel
theorem dX8_worlds_128 : decode cX8_worlds 128 = .ok (.iload 5, 2) := by decide +kernel
theorem dX8_worlds_130 : decode cX8_worlds 130 = .ok (.goto 19, 3) := by decide +kernel
theorem dX8_worlds_133 : decode cX8_worlds 133 = .ok (.iload_n 1, 1) := by decide +kernel
theorem dX8_worlds_134 : decode cX8_worlds 134 = .ok (.iconst 2, 1) := by decide +kernel
theorem dX8_worlds_135 : decode cX8_worlds 135 = .ok (.if_icmp .ne 8, 3) := by decide +kernel
theorem dX8_worlds_138 : decode cX8_worlds 138 = .ok (.iload 6, 2) := by decide +kernel
theorem dX8_worlds_140 : decode cX8_worlds 140 = .ok (.goto 9, 3) := by decide +kernel
theorem dX8_worlds_143 : decode cX8_worlds 143 = .ok (.iload_n 3, 1) := by decide +kernel
theorem dX8_worlds_144 : decode cX8_worlds 144 = .ok (.iload 7, 2) := by decide +kernel
theorem dX8_worlds_146 : decode cX8_worlds 146 = .ok (.iconst (-1), 1) := by decide +kernel
theorem dX8_worlds_147 : decode cX8_worlds 147 = .ok (.ixor, 1) := by decide +kernel
theorem dX8_worlds_148 : decode cX8_worlds 148 = .ok (.iand, 1) := by decide +kernel
theorem dX8_worlds_149 : decode cX8_worlds 149 = .ok (.ireturn, 1) := by decide +kernel
theorem dX8_next_0 : decode cX8_next 0 = .ok (.aload_n 0, 1) := by decide +kernel
theorem dX8_next_1 : decode cX8_next 1 = .ok (.iload_n 1, 1) := by decide +kernel
theorem dX8_next_2 : decode cX8_next 2 = .ok (.invokevirtual 170, 3) := by decide +kernel
theorem dX8_next_5 : decode cX8_next 5 = .ok (.ifCond .eq 13, 3) := by decide +kernel
theorem dX8_next_8 : decode cX8_next 8 = .ok (.iload_n 2, 1) := by decide +kernel
theorem dX8_next_9 : decode cX8_next 9 = .ok (.iconst 1, 1) := by decide +kernel
theorem dX8_next_10 : decode cX8_next 10 = .ok (.bipush 20, 2) := by decide +kernel
theorem dX8_next_12 : decode cX8_next 12 = .ok (.invokestatic 91, 3) := by decide +kernel
theorem dX8_next_15 : decode cX8_next 15 = .ok (.ifCond .ne 5, 3) := by decide +kernel
theorem dX8_next_18 : decode cX8_next 18 = .ok (.iconst (-1), 1) := by decide +kernel
theorem dX8_next_19 : decode cX8_next 19 = .ok (.ireturn, 1) := by decide +kernel
theorem dX8_next_20 : decode cX8_next 20 = .ok (.aload_n 0, 1) := by decide +kernel
theorem dX8_next_21 : decode cX8_next 21 = .ok (.getfield 85, 3) := by decide +kernel
theorem dX8_next_24 : decode cX8_next 24 = .ok (.bipush 7, 2) := by decide +kernel
theorem dX8_next_26 : decode cX8_next 26 = .ok (.if_icmp .ne 6, 3) := by decide +kernel
theorem dX8_next_29 : decode cX8_next 29 = .ok (.bipush (-4), 2) := by decide +kernel
theorem dX8_next_31 : decode cX8_next 31 = .ok (.ireturn, 1) := by decide +kernel
theorem dX8_next_32 : decode cX8_next 32 = .ok (.aload_n 0, 1) := by decide +kernel
theorem dX8_next_33 : decode cX8_next 33 = .ok (.getfield 78, 3) := by decide +kernel
theorem dX8_next_36 : decode cX8_next 36 = .ok (.istore_n 3, 1) := by decide +kernel
theorem dX8_next_37 : decode cX8_next 37 = .ok (.bipush (-4), 2) := by decide +kernel
theorem dX8_next_39 : decode cX8_next 39 = .ok (.istore 4, 2) := by decide +kernel
theorem dX8_next_41 : decode cX8_next 41 = .ok (.ldc 205, 2) := by decide +kernel
theorem dX8_next_43 : decode cX8_next 43 = .ok (.istore 5, 2) := by decide +kernel
theorem dX8_next_45 : decode cX8_next 45 = .ok (.iconst 0, 1) := by decide +kernel
theorem dX8_next_46 : decode cX8_next 46 = .ok (.istore 6, 2) := by decide +kernel
theorem dX8_next_48 : decode cX8_next 48 = .ok (.iload 6, 2) := by decide +kernel
theorem dX8_next_50 : decode cX8_next 50 = .ok (.aload_n 0, 1) := by decide +kernel
theorem dX8_next_51 : decode cX8_next 51 = .ok (.getfield 74, 3) := by decide +kernel
theorem dX8_next_54 : decode cX8_next 54 = .ok (.if_icmp .ge 181, 3) := by decide +kernel
theorem dX8_next_57 : decode cX8_next 57 = .ok (.iconst 0, 1) := by decide +kernel
theorem dX8_next_58 : decode cX8_next 58 = .ok (.istore 7, 2) := by decide +kernel
theorem dX8_next_60 : decode cX8_next 60 = .ok (.iconst 0, 1) := by decide +kernel
theorem dX8_next_61 : decode cX8_next 61 = .ok (.istore 8, 2) := by decide +kernel
theorem dX8_next_63 : decode cX8_next 63 = .ok (.iconst 0, 1) := by decide +kernel
theorem dX8_next_64 : decode cX8_next 64 = .ok (.istore 9, 2) := by decide +kernel
theorem dX8_next_66 : decode cX8_next 66 = .ok (.iload 9, 2) := by decide +kernel
theorem dX8_next_68 : decode cX8_next 68 = .ok (.iconst 1, 1) := by decide +kernel
theorem dX8_next_69 : decode cX8_next 69 = .ok (.aload_n 0, 1) := by decide +kernel
theorem dX8_next_70 : decode cX8_next 70 = .ok (.getfield 74, 3) := by decide +kernel
theorem dX8_next_73 : decode cX8_next 73 = .ok (.ishl, 1) := by decide +kernel
theorem dX8_next_74 : decode cX8_next 74 = .ok (.if_icmp .ge 86, 3) := by decide +kernel
theorem dX8_next_77 : decode cX8_next 77 = .ok (.aload_n 0, 1) := by decide +kernel
theorem dX8_next_78 : decode cX8_next 78 = .ok (.iload 9, 2) := by decide +kernel
theorem dX8_next_80 : decode cX8_next 80 = .ok (.putfield 78, 3) := by decide +kernel
theorem dX8_next_83 : decode cX8_next 83 = .ok (.aload_n 0, 1) := by decide +kernel
theorem dX8_next_84 : decode cX8_next 84 = .ok (.invokevirtual 213, 3) := by decide +kernel
theorem dX8_next_87 : decode cX8_next 87 = .ok (.ifCond .eq 67, 3) := by decide +kernel
theorem dX8_next_90 : decode cX8_next 90 = .ok (.iinc 8 1, 3) := by decide +kernel
theorem dX8_next_93 : decode cX8_next 93 = .ok (.aload_n 0, 1) := by decide +kernel
theorem dX8_next_94 : decode cX8_next 94 = .ok (.aload_n 0, 1) := by decide +kernel
theorem dX8_next_95 : decode cX8_next 95 = .ok (.getfield 85, 3) := by decide +kernel
theorem dX8_next_98 : decode cX8_next 98 = .ok (.iload_n 1, 1) := by decide +kernel
theorem dX8_next_99 : decode cX8_next 99 = .ok (.iload 6, 2) := by decide +kernel
theorem dX8_next_101 : decode cX8_next 101 = .ok (.iconst 1, 1) := by decide +kernel
theorem dX8_next_102 : decode cX8_next 102 = .ok (.iload_n 2, 1) := by decide +kernel
theorem dX8_next_103 : decode cX8_next 103 = .ok (.invokevirtual 81, 3) := by decide +kernel
theorem dX8_next_106 : decode cX8_next 106 = .ok (.aload_n 0, 1) := by decide +kernel
theorem dX8_next_107 : decode cX8_next 107 = .ok (.dup, 1) := by decide +kernel
theorem dX8_next_108 : decode cX8_next 108 = .ok (.getfield 85, 3) := by decide +kernel
theorem dX8_next_111 : decode cX8_next 111 = .ok (.iconst 1, 1) := by decide +kernel
theorem dX8_next_112 : decode cX8_next 112 = .ok (.iadd, 1) := by decide +kernel
theorem dX8_next_113 : decode cX8_next 113 = .ok (.putfield 85, 3) := by decide +kernel
theorem dX8_next_116 : decode cX8_next 116 = .ok (.aload_n 0, 1) := by decide +kernel
theorem dX8_next_117 : decode cX8_next 117 = .ok (.iconst 0, 1) := by decide +kernel
theorem dX8_next_118 : decode cX8_next 118 = .ok (.invokevirtual 195, 3) := by decide +kernel
theorem dX8_next_121 : decode cX8_next 121 = .ok (.aload_n 0, 1) := by decide +kernel
theorem dX8_next_122 : decode cX8_next 122 = .ok (.dup, 1) := by decide +kernel
theorem dX8_next_123 : decode cX8_next 123 = .ok (.getfield 85, 3) := by decide +kernel
theorem dX8_next_126 : decode cX8_next 126 = .ok (.iconst 1, 1) := by decide +kernel
theorem dX8_next_127 : decode cX8_next 127 = .ok (.isub, 1) := by decide +kernel
theorem dX8_next_128 : decode cX8_next 128 = .ok (.putfield 85, 3) := by decide +kernel
theorem dX8_next_131 : decode cX8_next 131 = .ok (.iload 7, 2) := by decide +kernel
theorem dX8_next_133 : decode cX8_next 133 = .ok (.aload_n 0, 1) := by decide +kernel
theorem dX8_next_134 : decode cX8_next 134 = .ok (.getfield 52, 3) := by decide +kernel
theorem dX8_next_137 : decode cX8_next 137 = .ok (.iload_n 1, 1) := by decide +kernel
theorem dX8_next_138 : decode cX8_next 138 = .ok (.iaload, 1) := by decide +kernel
theorem dX8_next_139 : decode cX8_next 139 = .ok (.aload_n 0, 1) := by decide +kernel
theorem dX8_next_140 : decode cX8_next 140 = .ok (.getfield 85, 3) := by decide +kernel
theorem dX8_next_143 : decode cX8_next 143 = .ok (.if_icmp .ne 7, 3) := by decide +kernel
theorem dX8_next_146 : decode cX8_next 146 = .ok (.iconst 1, 1) := by decide +kernel
theorem dX8_next_147 : decode cX8_next 147 = .ok (.goto 4, 3) := by decide +kernel
theorem dX8_next_150 : decode cX8_next 150 = .ok (.iconst 0, 1) := by decide +kernel
theorem dX8_next_151 : decode cX8_next 151 = .ok (.iadd, 1) := by decide +kernel
theorem dX8_next_152 : decode cX8_next 152 = .ok (.istore 7, 2) := by decide +kernel
theorem dX8_next_154 : decode cX8_next 154 = .ok (.iinc 9 1, 3) := by decide +kernel
theorem dX8_next_157 : decode cX8_next 157 = .ok (.goto (-91), 3) := by decide +kernel
theorem dX8_next_160 : decode cX8_next 160 = .ok (.iload 7, 2) := by decide +kernel
theorem dX8_next_162 : decode cX8_next 162 = .ok (.iload 8, 2) := by decide +kernel
theorem dX8_next_164 : decode cX8_next 164 = .ok (.iload 7, 2) := by decide +kernel
theorem dX8_next_166 : decode cX8_next 166 = .ok (.isub, 1) := by decide +kernel
theorem dX8_next_167 : decode cX8_next 167 = .ok (.if_icmp .le 8, 3) := by decide +kernel
theorem dX8_next_170 : decode cX8_next 170 = .ok (.iload 7, 2) := by decide +kernel
theorem dX8_next_172 : decode cX8_next 172 = .ok (.goto 8, 3) := by decide +kernel
theorem dX8_next_175 : decode cX8_next 175 = .ok (.iload 8, 2) := by decide +kernel
theorem dX8_next_177 : decode cX8_next 177 = .ok (.iload 7, 2) := by decide +kernel
theorem dX8_next_179 : decode cX8_next 179 = .ok (.isub, 1) := by decide +kernel
theorem dX8_next_180 : decode cX8_next 180 = .ok (.istore 9, 2) := by decide +kernel
theorem dX8_next_182 : decode cX8_next 182 = .ok (.iload 8, 2) := by decide +kernel
theorem dX8_next_184 : decode cX8_next 184 = .ok (.ifCond .le 14, 3) := by decide +kernel
theorem dX8_next_187 : decode cX8_next 187 = .ok (.iload 9, 2) := by decide +kernel
theorem dX8_next_189 : decode cX8_next 189 = .ok (.iload 5, 2) := by decide +kernel
theorem dX8_next_191 : decode cX8_next 191 = .ok (.if_icmp .ge 7, 3) := by decide +kernel
theorem dX8_next_194 : decode cX8_next 194 = .ok (.iconst 1, 1) := by decide +kernel
theorem dX8_next_195 : decode cX8_next 195 = .ok (.goto 4, 3) := by decide +kernel
theorem dX8_next_198 : decode cX8_next 198 = .ok (.iconst 0, 1) := by decide +kernel
theorem dX8_next_199 : decode cX8_next 199 = .ok (.istore 10, 2) := by decide +kernel
theorem dX8_next_201 : decode cX8_next 201 = .ok (.iload 10, 2) := by decide +kernel
theorem dX8_next_203 : decode cX8_next 203 = .ok (.ifCond .eq 8, 3) := by decide +kernel
theorem dX8_next_206 : decode cX8_next 206 = .ok (.iload 6, 2) := by decide +kernel
theorem dX8_next_208 : decode cX8_next 208 = .ok (.goto 5, 3) := by decide +kernel
theorem dX8_next_211 : decode cX8_next 211 = .ok (.iload 4, 2) := by decide +kernel
theorem dX8_next_213 : decode cX8_next 213 = .ok (.istore 4, 2) := by decide +kernel
theorem dX8_next_215 : decode cX8_next 215 = .ok (.iload 10, 2) := by decide +kernel
theorem dX8_next_217 : decode cX8_next 217 = .ok (.ifCond .eq 8, 3) := by decide +kernel
theorem dX8_next_220 : decode cX8_next 220 = .ok (.iload 9, 2) := by decide +kernel
theorem dX8_next_222 : decode cX8_next 222 = .ok (.goto 5, 3) := by decide +kernel
theorem dX8_next_225 : decode cX8_next 225 = .ok (.iload 5, 2) := by decide +kernel
theorem dX8_next_227 : decode cX8_next 227 = .ok (.istore 5, 2) := by decide +kernel
theorem dX8_next_229 : decode cX8_next 229 = .ok (.iinc 6 1, 3) := by decide +kernel
theorem dX8_next_232 : decode cX8_next 232 = .ok (.goto (-184), 3) := by decide +kernel
theorem dX8_next_235 : decode cX8_next 235 = .ok (.aload_n 0, 1) := by decide +kernel
theorem dX8_next_236 : decode cX8_next 236 = .ok (.iload_n 3, 1) := by decide +kernel
theorem dX8_next_237 : decode cX8_next 237 = .ok (.putfield 78, 3) := by decide +kernel
theorem dX8_next_240 : decode cX8_next 240 = .ok (.iload 4, 2) := by decide +kernel
theorem dX8_next_242 : decode cX8_next 242 = .ok (.ireturn, 1) := by decide +kernel
theorem dX8_kinds_0 : decode cX8_kinds 0 = .ok (.aload_n 0, 1) := by decide +kernel
theorem dX8_kinds_1 : decode cX8_kinds 1 = .ok (.iload_n 1, 1) := by decide +kernel
theorem dX8_kinds_2 : decode cX8_kinds 2 = .ok (.invokevirtual 170, 3) := by decide +kernel
theorem dX8_kinds_5 : decode cX8_kinds 5 = .ok (.ifCond .ne 5, 3) := by decide +kernel
theorem dX8_kinds_8 : decode cX8_kinds 8 = .ok (.iconst (-1), 1) := by decide +kernel
theorem dX8_kinds_9 : decode cX8_kinds 9 = .ok (.ireturn, 1) := by decide +kernel
theorem dX8_kinds_10 : decode cX8_kinds 10 = .ok (.aload_n 0, 1) := by decide +kernel
theorem dX8_kinds_11 : decode cX8_kinds 11 = .ok (.getfield 9, 3) := by decide +kernel
theorem dX8_kinds_14 : decode cX8_kinds 14 = .ok (.iload_n 1, 1) := by decide +kernel
theorem dX8_kinds_15 : decode cX8_kinds 15 = .ok (.iaload, 1) := by decide +kernel
theorem dX8_kinds_16 : decode cX8_kinds 16 = .ok (.istore_n 2, 1) := by decide +kernel
theorem dX8_kinds_17 : decode cX8_kinds 17 = .ok (.iconst 0, 1) := by decide +kernel
theorem dX8_kinds_18 : decode cX8_kinds 18 = .ok (.istore_n 3, 1) := by decide +kernel
theorem dX8_kinds_19 : decode cX8_kinds 19 = .ok (.iconst 0, 1) := by decide +kernel
theorem dX8_kinds_20 : decode cX8_kinds 20 = .ok (.istore 4, 2) := by decide +kernel
theorem dX8_kinds_22 : decode cX8_kinds 22 = .ok (.iload 4, 2) := by decide +kernel
theorem dX8_kinds_24 : decode cX8_kinds 24 = .ok (.iconst 3, 1) := by decide +kernel
theorem dX8_kinds_25 : decode cX8_kinds 25 = .ok (.if_icmp .gt 35, 3) := by decide +kernel
theorem dX8_kinds_28 : decode cX8_kinds 28 = .ok (.aload_n 0, 1) := by decide +kernel
theorem dX8_kinds_29 : decode cX8_kinds 29 = .ok (.getfield 9, 3) := by decide +kernel
theorem dX8_kinds_32 : decode cX8_kinds 32 = .ok (.iload_n 1, 1) := by decide +kernel
theorem dX8_kinds_33 : decode cX8_kinds 33 = .ok (.iload 4, 2) := by decide +kernel
theorem dX8_kinds_35 : decode cX8_kinds 35 = .ok (.iastore, 1) := by decide +kernel
theorem dX8_kinds_36 : decode cX8_kinds 36 = .ok (.iload_n 3, 1) := by decide +kernel
theorem dX8_kinds_37 : decode cX8_kinds 37 = .ok (.aload_n 0, 1) := by decide +kernel
theorem dX8_kinds_38 : decode cX8_kinds 38 = .ok (.invokevirtual 213, 3) := by decide +kernel
theorem dX8_kinds_41 : decode cX8_kinds 41 = .ok (.ifCond .eq 10, 3) := by decide +kernel
theorem dX8_kinds_44 : decode cX8_kinds 44 = .ok (.iconst 1, 1) := by decide +kernel
theorem dX8_kinds_45 : decode cX8_kinds 45 = .ok (.iload 4, 2) := by decide +kernel
theorem dX8_kinds_47 : decode cX8_kinds 47 = .ok (.ishl, 1) := by decide +kernel
theorem dX8_kinds_48 : decode cX8_kinds 48 = .ok (.goto 4, 3) := by decide +kernel
theorem dX8_kinds_51 : decode cX8_kinds 51 = .ok (.iconst 0, 1) := by decide +kernel
theorem dX8_kinds_52 : decode cX8_kinds 52 = .ok (.ior, 1) := by decide +kernel
theorem dX8_kinds_53 : decode cX8_kinds 53 = .ok (.istore_n 3, 1) := by decide +kernel
theorem dX8_kinds_54 : decode cX8_kinds 54 = .ok (.iinc 4 1, 3) := by decide +kernel
theorem dX8_kinds_57 : decode cX8_kinds 57 = .ok (.goto (-35), 3) := by decide +kernel
theorem dX8_kinds_60 : decode cX8_kinds 60 = .ok (.aload_n 0, 1) := by decide +kernel
theorem dX8_kinds_61 : decode cX8_kinds 61 = .ok (.getfield 9, 3) := by decide +kernel
theorem dX8_kinds_64 : decode cX8_kinds 64 = .ok (.iload_n 1, 1) := by decide +kernel
theorem dX8_kinds_65 : decode cX8_kinds 65 = .ok (.iload_n 2, 1) := by decide +kernel
theorem dX8_kinds_66 : decode cX8_kinds 66 = .ok (.iastore, 1) := by decide +kernel
theorem dX8_kinds_67 : decode cX8_kinds 67 = .ok (.iload_n 3, 1) := by decide +kernel
theorem dX8_kinds_68 : decode cX8_kinds 68 = .ok (.ireturn, 1) := by decide +kernel
theorem dX8_grips_0 : decode cX8_grips 0 = .ok (.aload_n 0, 1) := by decide +kernel
theorem dX8_grips_1 : decode cX8_grips 1 = .ok (.iload_n 1, 1) := by decide +kernel
theorem dX8_grips_2 : decode cX8_grips 2 = .ok (.invokevirtual 170, 3) := by decide +kernel
theorem dX8_grips_5 : decode cX8_grips 5 = .ok (.ifCond .eq 12, 3) := by decide +kernel
theorem dX8_grips_8 : decode cX8_grips 8 = .ok (.iload_n 2, 1) := by decide +kernel
theorem dX8_grips_9 : decode cX8_grips 9 = .ok (.iconst 0, 1) := by decide +kernel
theorem dX8_grips_10 : decode cX8_grips 10 = .ok (.iconst 1, 1) := by decide +kernel
theorem dX8_grips_11 : decode cX8_grips 11 = .ok (.invokestatic 91, 3) := by decide +kernel
theorem dX8_grips_14 : decode cX8_grips 14 = .ok (.ifCond .ne 5, 3) := by decide +kernel
theorem dX8_grips_17 : decode cX8_grips 17 = .ok (.iconst (-1), 1) := by decide +kernel
theorem dX8_grips_18 : decode cX8_grips 18 = .ok (.ireturn, 1) := by decide +kernel
theorem dX8_grips_19 : decode cX8_grips 19 = .ok (.aload_n 0, 1) := by decide +kernel
theorem dX8_grips_20 : decode cX8_grips 20 = .ok (.getfield 13, 3) := by decide +kernel
theorem dX8_grips_23 : decode cX8_grips 23 = .ok (.iload_n 1, 1) := by decide +kernel
theorem dX8_grips_24 : decode cX8_grips 24 = .ok (.iaload, 1) := by decide +kernel
theorem dX8_grips_25 : decode cX8_grips 25 = .ok (.istore_n 3, 1) := by decide +kernel
theorem dX8_grips_26 : decode cX8_grips 26 = .ok (.iconst 0, 1) := by decide +kernel
theorem dX8_grips_27 : decode cX8_grips 27 = .ok (.istore 4, 2) := by decide +kernel
theorem dX8_grips_29 : decode cX8_grips 29 = .ok (.bipush (-4), 2) := by decide +kernel
theorem dX8_grips_31 : decode cX8_grips 31 = .ok (.istore 5, 2) := by decide +kernel
theorem dX8_grips_33 : decode cX8_grips 33 = .ok (.iconst 1, 1) := by decide +kernel
theorem dX8_grips_34 : decode cX8_grips 34 = .ok (.istore 6, 2) := by decide +kernel
theorem dX8_grips_36 : decode cX8_grips 36 = .ok (.iload 6, 2) := by decide +kernel
theorem dX8_grips_38 : decode cX8_grips 38 = .ok (.bipush 40, 2) := by decide +kernel
theorem dX8_grips_40 : decode cX8_grips 40 = .ok (.if_icmp .gt 57, 3) := by decide +kernel
theorem dX8_grips_43 : decode cX8_grips 43 = .ok (.aload_n 0, 1) := by decide +kernel
theorem dX8_grips_44 : decode cX8_grips 44 = .ok (.getfield 13, 3) := by decide +kernel
end
section
theorem dX8_grips_47 : decode cX8_grips 47 = .ok (.iload_n 1, 1) := by decide +kernel
theorem dX8_grips_48 : decode cX8_grips 48 = .ok (.iload 6, 2) := by decide +kernel
theorem dX8_grips_50 : decode cX8_grips 50 = .ok (.iastore, 1) := by decide +kernel
theorem dX8_grips_51 : decode cX8_grips 51 = .ok (.aload_n 0, 1) := by decide +kernel
theorem dX8_grips_52 : decode cX8_grips 52 = .ok (.invokevirtual 213, 3) := by decide +kernel
theorem dX8_grips_55 : decode cX8_grips 55 = .ok (.istore 7, 2) := by decide +kernel
theorem dX8_grips_57 : decode cX8_grips 57 = .ok (.iload 7, 2) := by decide +kernel
theorem dX8_grips_59 : decode cX8_grips 59 = .ok (.ifCond .eq 13, 3) := by decide +kernel
theorem dX8_grips_62 : decode cX8_grips 62 = .ok (.iload 4, 2) := by decide +kernel
theorem dX8_grips_64 : decode cX8_grips 64 = .ok (.ifCond .ne 8, 3) := by decide +kernel
theorem dX8_grips_67 : decode cX8_grips 67 = .ok (.iload 6, 2) := by decide +kernel
theorem dX8_grips_69 : decode cX8_grips 69 = .ok (.goto 5, 3) := by decide +kernel
theorem dX8_grips_72 : decode cX8_grips 72 = .ok (.iload 5, 2) := by decide +kernel
theorem dX8_grips_74 : decode cX8_grips 74 = .ok (.istore 5, 2) := by decide +kernel
theorem dX8_grips_76 : decode cX8_grips 76 = .ok (.iload 4, 2) := by decide +kernel
theorem dX8_grips_78 : decode cX8_grips 78 = .ok (.iload 7, 2) := by decide +kernel
theorem dX8_grips_80 : decode cX8_grips 80 = .ok (.ifCond .eq 7, 3) := by decide +kernel
theorem dX8_grips_83 : decode cX8_grips 83 = .ok (.iconst 1, 1) := by decide +kernel
theorem dX8_grips_84 : decode cX8_grips 84 = .ok (.goto 4, 3) := by decide +kernel
theorem dX8_grips_87 : decode cX8_grips 87 = .ok (.iconst 0, 1) := by decide +kernel
theorem dX8_grips_88 : decode cX8_grips 88 = .ok (.iadd, 1) := by decide +kernel
theorem dX8_grips_89 : decode cX8_grips 89 = .ok (.istore 4, 2) := by decide +kernel
theorem dX8_grips_91 : decode cX8_grips 91 = .ok (.iinc 6 1, 3) := by decide +kernel
theorem dX8_grips_94 : decode cX8_grips 94 = .ok (.goto (-58), 3) := by decide +kernel
theorem dX8_grips_97 : decode cX8_grips 97 = .ok (.aload_n 0, 1) := by decide +kernel
theorem dX8_grips_98 : decode cX8_grips 98 = .ok (.getfield 13, 3) := by decide +kernel
theorem dX8_grips_101 : decode cX8_grips 101 = .ok (.iload_n 1, 1) := by decide +kernel
theorem dX8_grips_102 : decode cX8_grips 102 = .ok (.iload_n 3, 1) := by decide +kernel
theorem dX8_grips_103 : decode cX8_grips 103 = .ok (.iastore, 1) := by decide +kernel
theorem dX8_grips_104 : decode cX8_grips 104 = .ok (.iload_n 2, 1) := by decide +kernel
theorem dX8_grips_105 : decode cX8_grips 105 = .ok (.ifCond .ne 8, 3) := by decide +kernel
theorem dX8_grips_108 : decode cX8_grips 108 = .ok (.iload 4, 2) := by decide +kernel
theorem dX8_grips_110 : decode cX8_grips 110 = .ok (.goto 5, 3) := by decide +kernel
theorem dX8_grips_113 : decode cX8_grips 113 = .ok (.iload 5, 2) := by decide +kernel
theorem dX8_grips_115 : decode cX8_grips 115 = .ok (.ireturn, 1) := by decide +kernel
theorem dX8_common_0 : decode cX8_common 0 = .ok (.lload_n 0, 1) := by decide +kernel
theorem dX8_common_1 : decode cX8_common 1 = .ok (.lstore 4, 2) := by decide +kernel
theorem dX8_common_3 : decode cX8_common 3 = .ok (.lload_n 2, 1) := by decide +kernel
theorem dX8_common_4 : decode cX8_common 4 = .ok (.lstore 6, 2) := by decide +kernel
theorem dX8_common_6 : decode cX8_common 6 = .ok (.lload 6, 2) := by decide +kernel
theorem dX8_common_8 : decode cX8_common 8 = .ok (.lconst 0, 1) := by decide +kernel
theorem dX8_common_9 : decode cX8_common 9 = .ok (.lcmp, 1) := by decide +kernel
theorem dX8_common_10 : decode cX8_common 10 = .ok (.ifCond .eq 21, 3) := by decide +kernel
theorem dX8_common_13 : decode cX8_common 13 = .ok (.lload 4, 2) := by decide +kernel
theorem dX8_common_15 : decode cX8_common 15 = .ok (.lload 6, 2) := by decide +kernel
theorem dX8_common_17 : decode cX8_common 17 = .ok (.lrem, 1) := by decide +kernel
theorem dX8_common_18 : decode cX8_common 18 = .ok (.lstore 8, 2) := by decide +kernel
theorem dX8_common_20 : decode cX8_common 20 = .ok (.lload 6, 2) := by decide +kernel
theorem dX8_common_22 : decode cX8_common 22 = .ok (.lstore 4, 2) := by decide +kernel
theorem dX8_common_24 : decode cX8_common 24 = .ok (.lload 8, 2) := by decide +kernel
theorem dX8_common_26 : decode cX8_common 26 = .ok (.lstore 6, 2) := by decide +kernel
theorem dX8_common_28 : decode cX8_common 28 = .ok (.goto (-22), 3) := by decide +kernel
theorem dX8_common_31 : decode cX8_common 31 = .ok (.lload 4, 2) := by decide +kernel
theorem dX8_common_33 : decode cX8_common 33 = .ok (.lreturn, 1) := by decide +kernel
theorem dX8_likely_0 : decode cX8_likely 0 = .ok (.aload_n 0, 1) := by decide +kernel
theorem dX8_likely_1 : decode cX8_likely 1 = .ok (.iload_n 1, 1) := by decide +kernel
theorem dX8_likely_2 : decode cX8_likely 2 = .ok (.invokevirtual 170, 3) := by decide +kernel
theorem dX8_likely_5 : decode cX8_likely 5 = .ok (.ifCond .eq 22, 3) := by decide +kernel
theorem dX8_likely_8 : decode cX8_likely 8 = .ok (.iload_n 2, 1) := by decide +kernel
theorem dX8_likely_9 : decode cX8_likely 9 = .ok (.iconst 0, 1) := by decide +kernel
theorem dX8_likely_10 : decode cX8_likely 10 = .ok (.bipush 10, 2) := by decide +kernel
theorem dX8_likely_12 : decode cX8_likely 12 = .ok (.invokestatic 91, 3) := by decide +kernel
theorem dX8_likely_15 : decode cX8_likely 15 = .ok (.ifCond .eq 12, 3) := by decide +kernel
theorem dX8_likely_18 : decode cX8_likely 18 = .ok (.iload_n 3, 1) := by decide +kernel
theorem dX8_likely_19 : decode cX8_likely 19 = .ok (.iconst 0, 1) := by decide +kernel
theorem dX8_likely_20 : decode cX8_likely 20 = .ok (.iconst 1, 1) := by decide +kernel
theorem dX8_likely_21 : decode cX8_likely 21 = .ok (.invokestatic 91, 3) := by decide +kernel
theorem dX8_likely_24 : decode cX8_likely 24 = .ok (.ifCond .ne 5, 3) := by decide +kernel
theorem dX8_likely_27 : decode cX8_likely 27 = .ok (.iconst (-1), 1) := by decide +kernel
theorem dX8_likely_28 : decode cX8_likely 28 = .ok (.ireturn, 1) := by decide +kernel
theorem dX8_likely_29 : decode cX8_likely 29 = .ok (.aload_n 0, 1) := by decide +kernel
theorem dX8_likely_30 : decode cX8_likely 30 = .ok (.getfield 78, 3) := by decide +kernel
theorem dX8_likely_33 : decode cX8_likely 33 = .ok (.istore 4, 2) := by decide +kernel
theorem dX8_likely_35 : decode cX8_likely 35 = .ok (.lconst 0, 1) := by decide +kernel
theorem dX8_likely_36 : decode cX8_likely 36 = .ok (.lstore 5, 2) := by decide +kernel
theorem dX8_likely_38 : decode cX8_likely 38 = .ok (.lconst 1, 1) := by decide +kernel
theorem dX8_likely_39 : decode cX8_likely 39 = .ok (.lstore 7, 2) := by decide +kernel
theorem dX8_likely_41 : decode cX8_likely 41 = .ok (.iconst 0, 1) := by decide +kernel
theorem dX8_likely_42 : decode cX8_likely 42 = .ok (.istore 9, 2) := by decide +kernel
theorem dX8_likely_44 : decode cX8_likely 44 = .ok (.iload 9, 2) := by decide +kernel
theorem dX8_likely_46 : decode cX8_likely 46 = .ok (.aload_n 0, 1) := by decide +kernel
theorem dX8_likely_47 : decode cX8_likely 47 = .ok (.getfield 74, 3) := by decide +kernel
theorem dX8_likely_50 : decode cX8_likely 50 = .ok (.if_icmp .ge 17, 3) := by decide +kernel
theorem dX8_likely_53 : decode cX8_likely 53 = .ok (.lload 7, 2) := by decide +kernel
theorem dX8_likely_55 : decode cX8_likely 55 = .ok (.ldc2_w 216, 3) := by decide +kernel
theorem dX8_likely_58 : decode cX8_likely 58 = .ok (.lmul, 1) := by decide +kernel
theorem dX8_likely_59 : decode cX8_likely 59 = .ok (.lstore 7, 2) := by decide +kernel
theorem dX8_likely_61 : decode cX8_likely 61 = .ok (.iinc 9 1, 3) := by decide +kernel
theorem dX8_likely_64 : decode cX8_likely 64 = .ok (.goto (-20), 3) := by decide +kernel
theorem dX8_likely_67 : decode cX8_likely 67 = .ok (.iconst 0, 1) := by decide +kernel
theorem dX8_likely_68 : decode cX8_likely 68 = .ok (.istore 9, 2) := by decide +kernel
theorem dX8_likely_70 : decode cX8_likely 70 = .ok (.iload 9, 2) := by decide +kernel
theorem dX8_likely_72 : decode cX8_likely 72 = .ok (.iconst 1, 1) := by decide +kernel
theorem dX8_likely_73 : decode cX8_likely 73 = .ok (.aload_n 0, 1) := by decide +kernel
theorem dX8_likely_74 : decode cX8_likely 74 = .ok (.getfield 74, 3) := by decide +kernel
theorem dX8_likely_77 : decode cX8_likely 77 = .ok (.ishl, 1) := by decide +kernel
theorem dX8_likely_78 : decode cX8_likely 78 = .ok (.if_icmp .ge 88, 3) := by decide +kernel
theorem dX8_likely_81 : decode cX8_likely 81 = .ok (.aload_n 0, 1) := by decide +kernel
theorem dX8_likely_82 : decode cX8_likely 82 = .ok (.iload 9, 2) := by decide +kernel
theorem dX8_likely_84 : decode cX8_likely 84 = .ok (.putfield 78, 3) := by decide +kernel
theorem dX8_likely_87 : decode cX8_likely 87 = .ok (.aload_n 0, 1) := by decide +kernel
theorem dX8_likely_88 : decode cX8_likely 88 = .ok (.iconst 0, 1) := by decide +kernel
theorem dX8_likely_89 : decode cX8_likely 89 = .ok (.invokevirtual 195, 3) := by decide +kernel
theorem dX8_likely_92 : decode cX8_likely 92 = .ok (.lconst 1, 1) := by decide +kernel
theorem dX8_likely_93 : decode cX8_likely 93 = .ok (.lstore 10, 2) := by decide +kernel
theorem dX8_likely_95 : decode cX8_likely 95 = .ok (.iconst 0, 1) := by decide +kernel
theorem dX8_likely_96 : decode cX8_likely 96 = .ok (.istore 12, 2) := by decide +kernel
theorem dX8_likely_98 : decode cX8_likely 98 = .ok (.iload 12, 2) := by decide +kernel
theorem dX8_likely_100 : decode cX8_likely 100 = .ok (.aload_n 0, 1) := by decide +kernel
theorem dX8_likely_101 : decode cX8_likely 101 = .ok (.getfield 74, 3) := by decide +kernel
theorem dX8_likely_104 : decode cX8_likely 104 = .ok (.if_icmp .ge 34, 3) := by decide +kernel
theorem dX8_likely_107 : decode cX8_likely 107 = .ok (.lload 10, 2) := by decide +kernel
theorem dX8_likely_109 : decode cX8_likely 109 = .ok (.iload 9, 2) := by decide +kernel
theorem dX8_likely_111 : decode cX8_likely 111 = .ok (.iload 12, 2) := by decide +kernel
theorem dX8_likely_113 : decode cX8_likely 113 = .ok (.invokestatic 162, 3) := by decide +kernel
theorem dX8_likely_116 : decode cX8_likely 116 = .ok (.ifCond .eq 8, 3) := by decide +kernel
theorem dX8_likely_119 : decode cX8_likely 119 = .ok (.iload_n 2, 1) := by decide +kernel
theorem dX8_likely_120 : decode cX8_likely 120 = .ok (.i2l, 1) := by decide +kernel
theorem dX8_likely_121 : decode cX8_likely 121 = .ok (.goto 8, 3) := by decide +kernel
theorem dX8_likely_124 : decode cX8_likely 124 = .ok (.bipush 10, 2) := by decide +kernel
theorem dX8_likely_126 : decode cX8_likely 126 = .ok (.iload_n 2, 1) := by decide +kernel
theorem dX8_likely_127 : decode cX8_likely 127 = .ok (.isub, 1) := by decide +kernel
theorem dX8_likely_128 : decode cX8_likely 128 = .ok (.i2l, 1) := by decide +kernel
theorem dX8_likely_129 : decode cX8_likely 129 = .ok (.lmul, 1) := by decide +kernel
theorem dX8_likely_130 : decode cX8_likely 130 = .ok (.lstore 10, 2) := by decide +kernel
theorem dX8_likely_132 : decode cX8_likely 132 = .ok (.iinc 12 1, 3) := by decide +kernel
theorem dX8_likely_135 : decode cX8_likely 135 = .ok (.goto (-37), 3) := by decide +kernel
theorem dX8_likely_138 : decode cX8_likely 138 = .ok (.lload 5, 2) := by decide +kernel
theorem dX8_likely_140 : decode cX8_likely 140 = .ok (.aload_n 0, 1) := by decide +kernel
theorem dX8_likely_141 : decode cX8_likely 141 = .ok (.getfield 52, 3) := by decide +kernel
theorem dX8_likely_144 : decode cX8_likely 144 = .ok (.iload_n 1, 1) := by decide +kernel
theorem dX8_likely_145 : decode cX8_likely 145 = .ok (.iaload, 1) := by decide +kernel
theorem dX8_likely_146 : decode cX8_likely 146 = .ok (.bipush (-4), 2) := by decide +kernel
theorem dX8_likely_148 : decode cX8_likely 148 = .ok (.if_icmp .ne 7, 3) := by decide +kernel
theorem dX8_likely_151 : decode cX8_likely 151 = .ok (.lconst 0, 1) := by decide +kernel
theorem dX8_likely_152 : decode cX8_likely 152 = .ok (.goto 5, 3) := by decide +kernel
theorem dX8_likely_155 : decode cX8_likely 155 = .ok (.lload 10, 2) := by decide +kernel
theorem dX8_likely_157 : decode cX8_likely 157 = .ok (.ladd, 1) := by decide +kernel
theorem dX8_likely_158 : decode cX8_likely 158 = .ok (.lstore 5, 2) := by decide +kernel
theorem dX8_likely_160 : decode cX8_likely 160 = .ok (.iinc 9 1, 3) := by decide +kernel
theorem dX8_likely_163 : decode cX8_likely 163 = .ok (.goto (-93), 3) := by decide +kernel
theorem dX8_likely_166 : decode cX8_likely 166 = .ok (.aload_n 0, 1) := by decide +kernel
theorem dX8_likely_167 : decode cX8_likely 167 = .ok (.iload 4, 2) := by decide +kernel
theorem dX8_likely_169 : decode cX8_likely 169 = .ok (.putfield 78, 3) := by decide +kernel
theorem dX8_likely_172 : decode cX8_likely 172 = .ok (.lload 5, 2) := by decide +kernel
theorem dX8_likely_174 : decode cX8_likely 174 = .ok (.lload 7, 2) := by decide +kernel
theorem dX8_likely_176 : decode cX8_likely 176 = .ok (.invokestatic 218, 3) := by decide +kernel
theorem dX8_likely_179 : decode cX8_likely 179 = .ok (.lstore 9, 2) := by decide +kernel
theorem dX8_likely_181 : decode cX8_likely 181 = .ok (.iload_n 3, 1) := by decide +kernel
theorem dX8_likely_182 : decode cX8_likely 182 = .ok (.ifCond .ne 11, 3) := by decide +kernel
theorem dX8_likely_185 : decode cX8_likely 185 = .ok (.lload 5, 2) := by decide +kernel
theorem dX8_likely_187 : decode cX8_likely 187 = .ok (.lload 9, 2) := by decide +kernel
theorem dX8_likely_189 : decode cX8_likely 189 = .ok (.ldiv, 1) := by decide +kernel
theorem dX8_likely_190 : decode cX8_likely 190 = .ok (.goto 8, 3) := by decide +kernel
theorem dX8_likely_193 : decode cX8_likely 193 = .ok (.lload 7, 2) := by decide +kernel
theorem dX8_likely_195 : decode cX8_likely 195 = .ok (.lload 9, 2) := by decide +kernel
theorem dX8_likely_197 : decode cX8_likely 197 = .ok (.ldiv, 1) := by decide +kernel
theorem dX8_likely_198 : decode cX8_likely 198 = .ok (.l2i, 1) := by decide +kernel
theorem dX8_likely_199 : decode cX8_likely 199 = .ok (.ireturn, 1) := by decide +kernel
theorem dX8_evenings_0 : decode cX8_evenings 0 = .ok (.iload_n 1, 1) := by decide +kernel
theorem dX8_evenings_1 : decode cX8_evenings 1 = .ok (.iconst 0, 1) := by decide +kernel
theorem dX8_evenings_2 : decode cX8_evenings 2 = .ok (.sipush 9999, 3) := by decide +kernel
theorem dX8_evenings_5 : decode cX8_evenings 5 = .ok (.invokestatic 91, 3) := by decide +kernel
theorem dX8_evenings_8 : decode cX8_evenings 8 = .ok (.ifCond .eq 22, 3) := by decide +kernel
theorem dX8_evenings_11 : decode cX8_evenings 11 = .ok (.iload_n 2, 1) := by decide +kernel
theorem dX8_evenings_12 : decode cX8_evenings 12 = .ok (.iconst 1, 1) := by decide +kernel
theorem dX8_evenings_13 : decode cX8_evenings 13 = .ok (.bipush 60, 2) := by decide +kernel
theorem dX8_evenings_15 : decode cX8_evenings 15 = .ok (.invokestatic 91, 3) := by decide +kernel
theorem dX8_evenings_18 : decode cX8_evenings 18 = .ok (.ifCond .eq 12, 3) := by decide +kernel
theorem dX8_evenings_21 : decode cX8_evenings 21 = .ok (.iload_n 3, 1) := by decide +kernel
theorem dX8_evenings_22 : decode cX8_evenings 22 = .ok (.iconst 0, 1) := by decide +kernel
theorem dX8_evenings_23 : decode cX8_evenings 23 = .ok (.iconst 2, 1) := by decide +kernel
theorem dX8_evenings_24 : decode cX8_evenings 24 = .ok (.invokestatic 91, 3) := by decide +kernel
theorem dX8_evenings_27 : decode cX8_evenings 27 = .ok (.ifCond .ne 5, 3) := by decide +kernel
theorem dX8_evenings_30 : decode cX8_evenings 30 = .ok (.iconst (-1), 1) := by decide +kernel
theorem dX8_evenings_31 : decode cX8_evenings 31 = .ok (.ireturn, 1) := by decide +kernel
theorem dX8_evenings_32 : decode cX8_evenings 32 = .ok (.aload_n 0, 1) := by decide +kernel
theorem dX8_evenings_33 : decode cX8_evenings 33 = .ok (.aload_n 0, 1) := by decide +kernel
theorem dX8_evenings_34 : decode cX8_evenings 34 = .ok (.getfield 64, 3) := by decide +kernel
theorem dX8_evenings_37 : decode cX8_evenings 37 = .ok (.iconst 0, 1) := by decide +kernel
theorem dX8_evenings_38 : decode cX8_evenings 38 = .ok (.invokevirtual 179, 3) := by decide +kernel
theorem dX8_evenings_41 : decode cX8_evenings 41 = .ok (.iconst 0, 1) := by decide +kernel
theorem dX8_evenings_42 : decode cX8_evenings 42 = .ok (.istore 4, 2) := by decide +kernel
theorem dX8_evenings_44 : decode cX8_evenings 44 = .ok (.iconst 0, 1) := by decide +kernel
theorem dX8_evenings_45 : decode cX8_evenings 45 = .ok (.istore 5, 2) := by decide +kernel
theorem dX8_evenings_47 : decode cX8_evenings 47 = .ok (.iconst 0, 1) := by decide +kernel
theorem dX8_evenings_48 : decode cX8_evenings 48 = .ok (.istore 6, 2) := by decide +kernel
theorem dX8_evenings_50 : decode cX8_evenings 50 = .ok (.iconst 0, 1) := by decide +kernel
theorem dX8_evenings_51 : decode cX8_evenings 51 = .ok (.istore 7, 2) := by decide +kernel
theorem dX8_evenings_53 : decode cX8_evenings 53 = .ok (.iload 7, 2) := by decide +kernel
theorem dX8_evenings_55 : decode cX8_evenings 55 = .ok (.iload_n 2, 1) := by decide +kernel
theorem dX8_evenings_56 : decode cX8_evenings 56 = .ok (.if_icmp .ge 149, 3) := by decide +kernel
theorem dX8_evenings_59 : decode cX8_evenings 59 = .ok (.ldc2_w 222, 3) := by decide +kernel
theorem dX8_evenings_62 : decode cX8_evenings 62 = .ok (.iload_n 1, 1) := by decide +kernel
theorem dX8_evenings_63 : decode cX8_evenings 63 = .ok (.i2l, 1) := by decide +kernel
theorem dX8_evenings_64 : decode cX8_evenings 64 = .ok (.lmul, 1) := by decide +kernel
theorem dX8_evenings_65 : decode cX8_evenings 65 = .ok (.ldc2_w 224, 3) := by decide +kernel
theorem dX8_evenings_68 : decode cX8_evenings 68 = .ok (.iload 7, 2) := by decide +kernel
theorem dX8_evenings_70 : decode cX8_evenings 70 = .ok (.i2l, 1) := by decide +kernel
theorem dX8_evenings_71 : decode cX8_evenings 71 = .ok (.lmul, 1) := by decide +kernel
theorem dX8_evenings_72 : decode cX8_evenings 72 = .ok (.ladd, 1) := by decide +kernel
theorem dX8_evenings_73 : decode cX8_evenings 73 = .ok (.lconst 1, 1) := by decide +kernel
theorem dX8_evenings_74 : decode cX8_evenings 74 = .ok (.ladd, 1) := by decide +kernel
theorem dX8_evenings_75 : decode cX8_evenings 75 = .ok (.lstore 8, 2) := by decide +kernel
theorem dX8_evenings_77 : decode cX8_evenings 77 = .ok (.lload 8, 2) := by decide +kernel
theorem dX8_evenings_79 : decode cX8_evenings 79 = .ok (.lload 8, 2) := by decide +kernel
theorem dX8_evenings_81 : decode cX8_evenings 81 = .ok (.lmul, 1) := by decide +kernel
theorem dX8_evenings_82 : decode cX8_evenings 82 = .ok (.ldc2_w 226, 3) := by decide +kernel
theorem dX8_evenings_85 : decode cX8_evenings 85 = .ok (.lrem, 1) := by decide +kernel
theorem dX8_evenings_86 : decode cX8_evenings 86 = .ok (.ldc2_w 228, 3) := by decide +kernel
theorem dX8_evenings_89 : decode cX8_evenings 89 = .ok (.ldiv, 1) := by decide +kernel
theorem dX8_evenings_90 : decode cX8_evenings 90 = .ok (.l2i, 1) := by decide +kernel
theorem dX8_evenings_91 : decode cX8_evenings 91 = .ok (.istore 10, 2) := by decide +kernel
theorem dX8_evenings_93 : decode cX8_evenings 93 = .ok (.aload_n 0, 1) := by decide +kernel
theorem dX8_evenings_94 : decode cX8_evenings 94 = .ok (.dup, 1) := by decide +kernel
theorem dX8_evenings_95 : decode cX8_evenings 95 = .ok (.getfield 78, 3) := by decide +kernel
theorem dX8_evenings_98 : decode cX8_evenings 98 = .ok (.iload 10, 2) := by decide +kernel
theorem dX8_evenings_100 : decode cX8_evenings 100 = .ok (.bipush 8, 2) := by decide +kernel
theorem dX8_evenings_102 : decode cX8_evenings 102 = .ok (.idiv, 1) := by decide +kernel
theorem dX8_evenings_103 : decode cX8_evenings 103 = .ok (.iconst 2, 1) := by decide +kernel
theorem dX8_evenings_104 : decode cX8_evenings 104 = .ok (.irem, 1) := by decide +kernel
theorem dX8_evenings_105 : decode cX8_evenings 105 = .ok (.ifCond .ne 15, 3) := by decide +kernel
theorem dX8_evenings_108 : decode cX8_evenings 108 = .ok (.iconst 1, 1) := by decide +kernel
theorem dX8_evenings_109 : decode cX8_evenings 109 = .ok (.iload 10, 2) := by decide +kernel
theorem dX8_evenings_111 : decode cX8_evenings 111 = .ok (.aload_n 0, 1) := by decide +kernel
theorem dX8_evenings_112 : decode cX8_evenings 112 = .ok (.getfield 74, 3) := by decide +kernel
theorem dX8_evenings_115 : decode cX8_evenings 115 = .ok (.irem, 1) := by decide +kernel
theorem dX8_evenings_116 : decode cX8_evenings 116 = .ok (.ishl, 1) := by decide +kernel
theorem dX8_evenings_117 : decode cX8_evenings 117 = .ok (.goto 4, 3) := by decide +kernel
theorem dX8_evenings_120 : decode cX8_evenings 120 = .ok (.iconst 0, 1) := by decide +kernel
theorem dX8_evenings_121 : decode cX8_evenings 121 = .ok (.ixor, 1) := by decide +kernel
theorem dX8_evenings_122 : decode cX8_evenings 122 = .ok (.putfield 78, 3) := by decide +kernel
theorem dX8_evenings_125 : decode cX8_evenings 125 = .ok (.iload 10, 2) := by decide +kernel
theorem dX8_evenings_127 : decode cX8_evenings 127 = .ok (.bipush 16, 2) := by decide +kernel
theorem dX8_evenings_129 : decode cX8_evenings 129 = .ok (.idiv, 1) := by decide +kernel
theorem dX8_evenings_130 : decode cX8_evenings 130 = .ok (.iconst 4, 1) := by decide +kernel
theorem dX8_evenings_131 : decode cX8_evenings 131 = .ok (.irem, 1) := by decide +kernel
theorem dX8_evenings_132 : decode cX8_evenings 132 = .ok (.ifCond .ne 21, 3) := by decide +kernel
theorem dX8_evenings_135 : decode cX8_evenings 135 = .ok (.aload_n 0, 1) := by decide +kernel
theorem dX8_evenings_136 : decode cX8_evenings 136 = .ok (.getfield 85, 3) := by decide +kernel
theorem dX8_evenings_139 : decode cX8_evenings 139 = .ok (.ifCond .le 14, 3) := by decide +kernel
theorem dX8_evenings_142 : decode cX8_evenings 142 = .ok (.aload_n 0, 1) := by decide +kernel
theorem dX8_evenings_143 : decode cX8_evenings 143 = .ok (.iconst 0, 1) := by decide +kernel
theorem dX8_evenings_144 : decode cX8_evenings 144 = .ok (.aload_n 0, 1) := by decide +kernel
theorem dX8_evenings_145 : decode cX8_evenings 145 = .ok (.getfield 85, 3) := by decide +kernel
theorem dX8_evenings_148 : decode cX8_evenings 148 = .ok (.iconst 1, 1) := by decide +kernel
theorem dX8_evenings_149 : decode cX8_evenings 149 = .ok (.isub, 1) := by decide +kernel
theorem dX8_evenings_150 : decode cX8_evenings 150 = .ok (.invokevirtual 189, 3) := by decide +kernel
theorem dX8_evenings_153 : decode cX8_evenings 153 = .ok (.aload_n 0, 1) := by decide +kernel
theorem dX8_evenings_154 : decode cX8_evenings 154 = .ok (.iconst 0, 1) := by decide +kernel
theorem dX8_evenings_155 : decode cX8_evenings 155 = .ok (.invokevirtual 195, 3) := by decide +kernel
theorem dX8_evenings_158 : decode cX8_evenings 158 = .ok (.iload 4, 2) := by decide +kernel
theorem dX8_evenings_160 : decode cX8_evenings 160 = .ok (.aload_n 0, 1) := by decide +kernel
theorem dX8_evenings_161 : decode cX8_evenings 161 = .ok (.invokevirtual 206, 3) := by decide +kernel
theorem dX8_evenings_164 : decode cX8_evenings 164 = .ok (.iadd, 1) := by decide +kernel
theorem dX8_evenings_165 : decode cX8_evenings 165 = .ok (.istore 4, 2) := by decide +kernel
theorem dX8_evenings_167 : decode cX8_evenings 167 = .ok (.iload 5, 2) := by decide +kernel
theorem dX8_evenings_169 : decode cX8_evenings 169 = .ok (.aload_n 0, 1) := by decide +kernel
theorem dX8_evenings_170 : decode cX8_evenings 170 = .ok (.getfield 148, 3) := by decide +kernel
theorem dX8_evenings_173 : decode cX8_evenings 173 = .ok (.invokestatic 198, 3) := by decide +kernel
theorem dX8_evenings_176 : decode cX8_evenings 176 = .ok (.iadd, 1) := by decide +kernel
theorem dX8_evenings_177 : decode cX8_evenings 177 = .ok (.istore 5, 2) := by decide +kernel
theorem dX8_evenings_179 : decode cX8_evenings 179 = .ok (.aload_n 0, 1) := by decide +kernel
theorem dX8_evenings_180 : decode cX8_evenings 180 = .ok (.getfield 151, 3) := by decide +kernel
theorem dX8_evenings_183 : decode cX8_evenings 183 = .ok (.iload 6, 2) := by decide +kernel
theorem dX8_evenings_185 : decode cX8_evenings 185 = .ok (.if_icmp .le 10, 3) := by decide +kernel
theorem dX8_evenings_188 : decode cX8_evenings 188 = .ok (.aload_n 0, 1) := by decide +kernel
theorem dX8_evenings_189 : decode cX8_evenings 189 = .ok (.getfield 151, 3) := by decide +kernel
theorem dX8_evenings_192 : decode cX8_evenings 192 = .ok (.goto 5, 3) := by decide +kernel
theorem dX8_evenings_195 : decode cX8_evenings 195 = .ok (.iload 6, 2) := by decide +kernel
theorem dX8_evenings_197 : decode cX8_evenings 197 = .ok (.istore 6, 2) := by decide +kernel
theorem dX8_evenings_199 : decode cX8_evenings 199 = .ok (.iinc 7 1, 3) := by decide +kernel
theorem dX8_evenings_202 : decode cX8_evenings 202 = .ok (.goto (-149), 3) := by decide +kernel
theorem dX8_evenings_205 : decode cX8_evenings 205 = .ok (.aload_n 0, 1) := by decide +kernel
theorem dX8_evenings_206 : decode cX8_evenings 206 = .ok (.aload_n 0, 1) := by decide +kernel
theorem dX8_evenings_207 : decode cX8_evenings 207 = .ok (.getfield 64, 3) := by decide +kernel
theorem dX8_evenings_210 : decode cX8_evenings 210 = .ok (.iconst 0, 1) := by decide +kernel
theorem dX8_evenings_211 : decode cX8_evenings 211 = .ok (.invokevirtual 192, 3) := by decide +kernel
theorem dX8_evenings_214 : decode cX8_evenings 214 = .ok (.iload_n 3, 1) := by decide +kernel
theorem dX8_evenings_215 : decode cX8_evenings 215 = .ok (.ifCond .ne 8, 3) := by decide +kernel
theorem dX8_evenings_218 : decode cX8_evenings 218 = .ok (.iload 4, 2) := by decide +kernel
theorem dX8_evenings_220 : decode cX8_evenings 220 = .ok (.goto 15, 3) := by decide +kernel
theorem dX8_evenings_223 : decode cX8_evenings 223 = .ok (.iload_n 3, 1) := by decide +kernel
theorem dX8_evenings_224 : decode cX8_evenings 224 = .ok (.iconst 1, 1) := by decide +kernel
theorem dX8_evenings_225 : decode cX8_evenings 225 = .ok (.if_icmp .ne 8, 3) := by decide +kernel
theorem dX8_evenings_228 : decode cX8_evenings 228 = .ok (.iload 5, 2) := by decide +kernel
theorem dX8_evenings_230 : decode cX8_evenings 230 = .ok (.goto 5, 3) := by decide +kernel
theorem dX8_evenings_233 : decode cX8_evenings 233 = .ok (.iload 6, 2) := by decide +kernel
theorem dX8_evenings_235 : decode cX8_evenings 235 = .ok (.ireturn, 1) := by decide +kernel
theorem dX8_keep_0 : decode cX8_keep 0 = .ok (.aload_n 0, 1) := by decide +kernel
theorem dX8_keep_1 : decode cX8_keep 1 = .ok (.getfield 145, 3) := by decide +kernel
theorem dX8_keep_4 : decode cX8_keep 4 = .ok (.iconst 2, 1) := by decide +kernel
theorem dX8_keep_5 : decode cX8_keep 5 = .ok (.if_icmp .ne 6, 3) := by decide +kernel
theorem dX8_keep_8 : decode cX8_keep 8 = .ok (.bipush (-3), 2) := by decide +kernel
theorem dX8_keep_10 : decode cX8_keep 10 = .ok (.ireturn, 1) := by decide +kernel
theorem dX8_keep_11 : decode cX8_keep 11 = .ok (.aload_n 0, 1) := by decide +kernel
theorem dX8_keep_12 : decode cX8_keep 12 = .ok (.aload_n 0, 1) := by decide +kernel
theorem dX8_keep_13 : decode cX8_keep 13 = .ok (.getfield 67, 3) := by decide +kernel
theorem dX8_keep_16 : decode cX8_keep 16 = .ok (.bipush 35, 2) := by decide +kernel
theorem dX8_keep_18 : decode cX8_keep 18 = .ok (.aload_n 0, 1) := by decide +kernel
theorem dX8_keep_19 : decode cX8_keep 19 = .ok (.getfield 145, 3) := by decide +kernel
theorem dX8_keep_22 : decode cX8_keep 22 = .ok (.imul, 1) := by decide +kernel
theorem dX8_keep_23 : decode cX8_keep 23 = .ok (.invokevirtual 179, 3) := by decide +kernel
theorem dX8_keep_26 : decode cX8_keep 26 = .ok (.aload_n 0, 1) := by decide +kernel
theorem dX8_keep_27 : decode cX8_keep 27 = .ok (.dup, 1) := by decide +kernel
theorem dX8_keep_28 : decode cX8_keep 28 = .ok (.getfield 145, 3) := by decide +kernel
theorem dX8_keep_31 : decode cX8_keep 31 = .ok (.iconst 1, 1) := by decide +kernel
theorem dX8_keep_32 : decode cX8_keep 32 = .ok (.iadd, 1) := by decide +kernel
theorem dX8_keep_33 : decode cX8_keep 33 = .ok (.putfield 145, 3) := by decide +kernel
theorem dX8_keep_36 : decode cX8_keep 36 = .ok (.aload_n 0, 1) := by decide +kernel
theorem dX8_keep_37 : decode cX8_keep 37 = .ok (.getfield 145, 3) := by decide +kernel
theorem dX8_keep_40 : decode cX8_keep 40 = .ok (.ireturn, 1) := by decide +kernel
theorem dX8_back_0 : decode cX8_back 0 = .ok (.aload_n 0, 1) := by decide +kernel
theorem dX8_back_1 : decode cX8_back 1 = .ok (.getfield 145, 3) := by decide +kernel
theorem dX8_back_4 : decode cX8_back 4 = .ok (.ifCond .ne 6, 3) := by decide +kernel
theorem dX8_back_7 : decode cX8_back 7 = .ok (.bipush (-2), 2) := by decide +kernel
theorem dX8_back_9 : decode cX8_back 9 = .ok (.ireturn, 1) := by decide +kernel
theorem dX8_back_10 : decode cX8_back 10 = .ok (.aload_n 0, 1) := by decide +kernel
theorem dX8_back_11 : decode cX8_back 11 = .ok (.dup, 1) := by decide +kernel
theorem dX8_back_12 : decode cX8_back 12 = .ok (.getfield 145, 3) := by decide +kernel
theorem dX8_back_15 : decode cX8_back 15 = .ok (.iconst 1, 1) := by decide +kernel
theorem dX8_back_16 : decode cX8_back 16 = .ok (.isub, 1) := by decide +kernel
theorem dX8_back_17 : decode cX8_back 17 = .ok (.putfield 145, 3) := by decide +kernel
theorem dX8_back_20 : decode cX8_back 20 = .ok (.aload_n 0, 1) := by decide +kernel
theorem dX8_back_21 : decode cX8_back 21 = .ok (.aload_n 0, 1) := by decide +kernel
theorem dX8_back_22 : decode cX8_back 22 = .ok (.getfield 67, 3) := by decide +kernel
theorem dX8_back_25 : decode cX8_back 25 = .ok (.bipush 35, 2) := by decide +kernel
theorem dX8_back_27 : decode cX8_back 27 = .ok (.aload_n 0, 1) := by decide +kernel
theorem dX8_back_28 : decode cX8_back 28 = .ok (.getfield 145, 3) := by decide +kernel
theorem dX8_back_31 : decode cX8_back 31 = .ok (.imul, 1) := by decide +kernel
theorem dX8_back_32 : decode cX8_back 32 = .ok (.invokevirtual 192, 3) := by decide +kernel
theorem dX8_back_35 : decode cX8_back 35 = .ok (.aload_n 0, 1) := by decide +kernel
theorem dX8_back_36 : decode cX8_back 36 = .ok (.iconst 0, 1) := by decide +kernel
theorem dX8_back_37 : decode cX8_back 37 = .ok (.putfield 142, 3) := by decide +kernel
theorem dX8_back_40 : decode cX8_back 40 = .ok (.aload_n 0, 1) := by decide +kernel
theorem dX8_back_41 : decode cX8_back 41 = .ok (.getfield 145, 3) := by decide +kernel
theorem dX8_back_44 : decode cX8_back 44 = .ok (.ireturn, 1) := by decide +kernel
theorem dX8_falseMany_0 : decode cX8_falseMany 0 = .ok (.iconst 0, 1) := by decide +kernel
theorem dX8_falseMany_1 : decode cX8_falseMany 1 = .ok (.istore_n 1, 1) := by decide +kernel
theorem dX8_falseMany_2 : decode cX8_falseMany 2 = .ok (.iconst 0, 1) := by decide +kernel
theorem dX8_falseMany_3 : decode cX8_falseMany 3 = .ok (.istore_n 2, 1) := by decide +kernel
theorem dX8_falseMany_4 : decode cX8_falseMany 4 = .ok (.iload_n 2, 1) := by decide +kernel
theorem dX8_falseMany_5 : decode cX8_falseMany 5 = .ok (.aload_n 0, 1) := by decide +kernel
theorem dX8_falseMany_6 : decode cX8_falseMany 6 = .ok (.getfield 85, 3) := by decide +kernel
theorem dX8_falseMany_9 : decode cX8_falseMany 9 = .ok (.if_icmp .ge 25, 3) := by decide +kernel
theorem dX8_falseMany_12 : decode cX8_falseMany 12 = .ok (.iload_n 1, 1) := by decide +kernel
theorem dX8_falseMany_13 : decode cX8_falseMany 13 = .ok (.aload_n 0, 1) := by decide +kernel
theorem dX8_falseMany_14 : decode cX8_falseMany 14 = .ok (.iload_n 2, 1) := by decide +kernel
theorem dX8_falseMany_15 : decode cX8_falseMany 15 = .ok (.invokevirtual 154, 3) := by decide +kernel
theorem dX8_falseMany_18 : decode cX8_falseMany 18 = .ok (.ifCond .eq 7, 3) := by decide +kernel
theorem dX8_falseMany_21 : decode cX8_falseMany 21 = .ok (.iconst 1, 1) := by decide +kernel
theorem dX8_falseMany_22 : decode cX8_falseMany 22 = .ok (.goto 4, 3) := by decide +kernel
theorem dX8_falseMany_25 : decode cX8_falseMany 25 = .ok (.iconst 0, 1) := by decide +kernel
theorem dX8_falseMany_26 : decode cX8_falseMany 26 = .ok (.iadd, 1) := by decide +kernel
theorem dX8_falseMany_27 : decode cX8_falseMany 27 = .ok (.istore_n 1, 1) := by decide +kernel
theorem dX8_falseMany_28 : decode cX8_falseMany 28 = .ok (.iinc 2 1, 3) := by decide +kernel
theorem dX8_falseMany_31 : decode cX8_falseMany 31 = .ok (.goto (-27), 3) := by decide +kernel
theorem dX8_falseMany_34 : decode cX8_falseMany 34 = .ok (.iload_n 1, 1) := by decide +kernel
theorem dX8_falseMany_35 : decode cX8_falseMany 35 = .ok (.ireturn, 1) := by decide +kernel
theorem dX8_count_0 : decode cX8_count 0 = .ok (.iload_n 1, 1) := by decide +kernel
theorem dX8_count_1 : decode cX8_count 1 = .ok (.iconst 0, 1) := by decide +kernel
theorem dX8_count_2 : decode cX8_count 2 = .ok (.bipush 10, 2) := by decide +kernel
theorem dX8_count_4 : decode cX8_count 4 = .ok (.invokestatic 91, 3) := by decide +kernel
theorem dX8_count_7 : decode cX8_count 7 = .ok (.ifCond .ne 5, 3) := by decide +kernel
theorem dX8_count_10 : decode cX8_count 10 = .ok (.iconst (-1), 1) := by decide +kernel
theorem dX8_count_11 : decode cX8_count 11 = .ok (.ireturn, 1) := by decide +kernel
theorem dX8_count_12 : decode cX8_count 12 = .ok (.aload_n 0, 1) := by decide +kernel
theorem dX8_count_13 : decode cX8_count 13 = .ok (.iconst 0, 1) := by decide +kernel
theorem dX8_count_14 : decode cX8_count 14 = .ok (.invokevirtual 195, 3) := by decide +kernel
theorem dX8_count_17 : decode cX8_count 17 = .ok (.iload_n 1, 1) := by decide +kernel
theorem dX8_count_18 : decode cX8_count 18 = .ok (.tableswitch 110 0 9 #[54, 59, 64, 69, 77, 82, 90, 95, 100, 105], 54) := by decide +kernel
theorem dX8_count_72 : decode cX8_count 72 = .ok (.aload_n 0, 1) := by decide +kernel
theorem dX8_count_73 : decode cX8_count 73 = .ok (.getfield 88, 3) := by decide +kernel
theorem dX8_count_76 : decode cX8_count 76 = .ok (.ireturn, 1) := by decide +kernel
theorem dX8_count_77 : decode cX8_count 77 = .ok (.aload_n 0, 1) := by decide +kernel
theorem dX8_count_78 : decode cX8_count 78 = .ok (.getfield 74, 3) := by decide +kernel
theorem dX8_count_81 : decode cX8_count 81 = .ok (.ireturn, 1) := by decide +kernel
theorem dX8_count_82 : decode cX8_count 82 = .ok (.aload_n 0, 1) := by decide +kernel
theorem dX8_count_83 : decode cX8_count 83 = .ok (.getfield 85, 3) := by decide +kernel
theorem dX8_count_86 : decode cX8_count 86 = .ok (.ireturn, 1) := by decide +kernel
theorem dX8_count_87 : decode cX8_count 87 = .ok (.aload_n 0, 1) := by decide +kernel
theorem dX8_count_88 : decode cX8_count 88 = .ok (.getfield 78, 3) := by decide +kernel
theorem dX8_count_91 : decode cX8_count 91 = .ok (.invokestatic 198, 3) := by decide +kernel
theorem dX8_count_94 : decode cX8_count 94 = .ok (.ireturn, 1) := by decide +kernel
theorem dX8_count_95 : decode cX8_count 95 = .ok (.aload_n 0, 1) := by decide +kernel
theorem dX8_count_96 : decode cX8_count 96 = .ok (.invokevirtual 230, 3) := by decide +kernel
theorem dX8_count_99 : decode cX8_count 99 = .ok (.ireturn, 1) := by decide +kernel
theorem dX8_count_100 : decode cX8_count 100 = .ok (.aload_n 0, 1) := by decide +kernel
theorem dX8_count_101 : decode cX8_count 101 = .ok (.getfield 148, 3) := by decide +kernel
theorem dX8_count_104 : decode cX8_count 104 = .ok (.invokestatic 198, 3) := by decide +kernel
theorem dX8_count_107 : decode cX8_count 107 = .ok (.ireturn, 1) := by decide +kernel
theorem dX8_count_108 : decode cX8_count 108 = .ok (.aload_n 0, 1) := by decide +kernel
theorem dX8_count_109 : decode cX8_count 109 = .ok (.invokevirtual 206, 3) := by decide +kernel
theorem dX8_count_112 : decode cX8_count 112 = .ok (.ireturn, 1) := by decide +kernel
theorem dX8_count_113 : decode cX8_count 113 = .ok (.aload_n 0, 1) := by decide +kernel
theorem dX8_count_114 : decode cX8_count 114 = .ok (.getfield 139, 3) := by decide +kernel
theorem dX8_count_117 : decode cX8_count 117 = .ok (.ireturn, 1) := by decide +kernel
theorem dX8_count_118 : decode cX8_count 118 = .ok (.aload_n 0, 1) := by decide +kernel
theorem dX8_count_119 : decode cX8_count 119 = .ok (.getfield 142, 3) := by decide +kernel
theorem dX8_count_122 : decode cX8_count 122 = .ok (.ireturn, 1) := by decide +kernel
theorem dX8_count_123 : decode cX8_count 123 = .ok (.aload_n 0, 1) := by decide +kernel
theorem dX8_count_124 : decode cX8_count 124 = .ok (.getfield 145, 3) := by decide +kernel
theorem dX8_count_127 : decode cX8_count 127 = .ok (.ireturn, 1) := by decide +kernel
theorem dX8_count_128 : decode cX8_count 128 = .ok (.aload_n 0, 1) := by decide +kernel
theorem dX8_count_129 : decode cX8_count 129 = .ok (.getfield 95, 3) := by decide +kernel
theorem dX8_count_132 : decode cX8_count 132 = .ok (.ireturn, 1) := by decide +kernel
theorem dJ6_bitCount_0f7a4_0 : decode cJ6_bitCount_0f7a4 0 = .ok (.iload_n 0, 1) := by decide +kernel
theorem dJ6_bitCount_0f7a4_1 : decode cJ6_bitCount_0f7a4 1 = .ok (.iload_n 0, 1) := by decide +kernel
theorem dJ6_bitCount_0f7a4_2 : decode cJ6_bitCount_0f7a4 2 = .ok (.iconst 1, 1) := by decide +kernel
theorem dJ6_bitCount_0f7a4_3 : decode cJ6_bitCount_0f7a4 3 = .ok (.iushr, 1) := by decide +kernel
theorem dJ6_bitCount_0f7a4_4 : decode cJ6_bitCount_0f7a4 4 = .ok (.ldc_w 265, 3) := by decide +kernel
theorem dJ6_bitCount_0f7a4_7 : decode cJ6_bitCount_0f7a4 7 = .ok (.iand, 1) := by decide +kernel
theorem dJ6_bitCount_0f7a4_8 : decode cJ6_bitCount_0f7a4 8 = .ok (.isub, 1) := by decide +kernel
theorem dJ6_bitCount_0f7a4_9 : decode cJ6_bitCount_0f7a4 9 = .ok (.istore_n 0, 1) := by decide +kernel
theorem dJ6_bitCount_0f7a4_10 : decode cJ6_bitCount_0f7a4 10 = .ok (.iload_n 0, 1) := by decide +kernel
theorem dJ6_bitCount_0f7a4_11 : decode cJ6_bitCount_0f7a4 11 = .ok (.ldc_w 266, 3) := by decide +kernel
theorem dJ6_bitCount_0f7a4_14 : decode cJ6_bitCount_0f7a4 14 = .ok (.iand, 1) := by decide +kernel
theorem dJ6_bitCount_0f7a4_15 : decode cJ6_bitCount_0f7a4 15 = .ok (.iload_n 0, 1) := by decide +kernel
theorem dJ6_bitCount_0f7a4_16 : decode cJ6_bitCount_0f7a4 16 = .ok (.iconst 2, 1) := by decide +kernel
theorem dJ6_bitCount_0f7a4_17 : decode cJ6_bitCount_0f7a4 17 = .ok (.iushr, 1) := by decide +kernel
theorem dJ6_bitCount_0f7a4_18 : decode cJ6_bitCount_0f7a4 18 = .ok (.ldc_w 266, 3) := by decide +kernel
theorem dJ6_bitCount_0f7a4_21 : decode cJ6_bitCount_0f7a4 21 = .ok (.iand, 1) := by decide +kernel
theorem dJ6_bitCount_0f7a4_22 : decode cJ6_bitCount_0f7a4 22 = .ok (.iadd, 1) := by decide +kernel
theorem dJ6_bitCount_0f7a4_23 : decode cJ6_bitCount_0f7a4 23 = .ok (.istore_n 0, 1) := by decide +kernel
theorem dJ6_bitCount_0f7a4_24 : decode cJ6_bitCount_0f7a4 24 = .ok (.iload_n 0, 1) := by decide +kernel
theorem dJ6_bitCount_0f7a4_25 : decode cJ6_bitCount_0f7a4 25 = .ok (.iload_n 0, 1) := by decide +kernel
theorem dJ6_bitCount_0f7a4_26 : decode cJ6_bitCount_0f7a4 26 = .ok (.iconst 4, 1) := by decide +kernel
theorem dJ6_bitCount_0f7a4_27 : decode cJ6_bitCount_0f7a4 27 = .ok (.iushr, 1) := by decide +kernel
theorem dJ6_bitCount_0f7a4_28 : decode cJ6_bitCount_0f7a4 28 = .ok (.iadd, 1) := by decide +kernel
theorem dJ6_bitCount_0f7a4_29 : decode cJ6_bitCount_0f7a4 29 = .ok (.ldc_w 267, 3) := by decide +kernel
theorem dJ6_bitCount_0f7a4_32 : decode cJ6_bitCount_0f7a4 32 = .ok (.iand, 1) := by decide +kernel
theorem dJ6_bitCount_0f7a4_33 : decode cJ6_bitCount_0f7a4 33 = .ok (.istore_n 0, 1) := by decide +kernel
theorem dJ6_bitCount_0f7a4_34 : decode cJ6_bitCount_0f7a4 34 = .ok (.iload_n 0, 1) := by decide +kernel
theorem dJ6_bitCount_0f7a4_35 : decode cJ6_bitCount_0f7a4 35 = .ok (.iload_n 0, 1) := by decide +kernel
theorem dJ6_bitCount_0f7a4_36 : decode cJ6_bitCount_0f7a4 36 = .ok (.bipush 8, 2) := by decide +kernel
theorem dJ6_bitCount_0f7a4_38 : decode cJ6_bitCount_0f7a4 38 = .ok (.iushr, 1) := by decide +kernel
theorem dJ6_bitCount_0f7a4_39 : decode cJ6_bitCount_0f7a4 39 = .ok (.iadd, 1) := by decide +kernel
theorem dJ6_bitCount_0f7a4_40 : decode cJ6_bitCount_0f7a4 40 = .ok (.istore_n 0, 1) := by decide +kernel
theorem dJ6_bitCount_0f7a4_41 : decode cJ6_bitCount_0f7a4 41 = .ok (.iload_n 0, 1) := by decide +kernel
theorem dJ6_bitCount_0f7a4_42 : decode cJ6_bitCount_0f7a4 42 = .ok (.iload_n 0, 1) := by decide +kernel
theorem dJ6_bitCount_0f7a4_43 : decode cJ6_bitCount_0f7a4 43 = .ok (.bipush 16, 2) := by decide +kernel
theorem dJ6_bitCount_0f7a4_45 : decode cJ6_bitCount_0f7a4 45 = .ok (.iushr, 1) := by decide +kernel
theorem dJ6_bitCount_0f7a4_46 : decode cJ6_bitCount_0f7a4 46 = .ok (.iadd, 1) := by decide +kernel
theorem dJ6_bitCount_0f7a4_47 : decode cJ6_bitCount_0f7a4 47 = .ok (.istore_n 0, 1) := by decide +kernel
theorem dJ6_bitCount_0f7a4_48 : decode cJ6_bitCount_0f7a4 48 = .ok (.iload_n 0, 1) := by decide +kernel
theorem dJ6_bitCount_0f7a4_49 : decode cJ6_bitCount_0f7a4 49 = .ok (.bipush 63, 2) := by decide +kernel
theorem dJ6_bitCount_0f7a4_51 : decode cJ6_bitCount_0f7a4 51 = .ok (.iand, 1) := by decide +kernel
theorem dJ6_bitCount_0f7a4_52 : decode cJ6_bitCount_0f7a4 52 = .ok (.ireturn, 1) := by decide +kernel
theorem dJ13_bitCount_95d88_0 : decode cJ13_bitCount_95d88 0 = .ok (.lload_n 0, 1) := by decide +kernel
theorem dJ13_bitCount_95d88_1 : decode cJ13_bitCount_95d88 1 = .ok (.lload_n 0, 1) := by decide +kernel
theorem dJ13_bitCount_95d88_2 : decode cJ13_bitCount_95d88 2 = .ok (.iconst 1, 1) := by decide +kernel
theorem dJ13_bitCount_95d88_3 : decode cJ13_bitCount_95d88 3 = .ok (.lushr, 1) := by decide +kernel
theorem dJ13_bitCount_95d88_4 : decode cJ13_bitCount_95d88 4 = .ok (.ldc2_w 314, 3) := by decide +kernel
theorem dJ13_bitCount_95d88_7 : decode cJ13_bitCount_95d88 7 = .ok (.land, 1) := by decide +kernel
theorem dJ13_bitCount_95d88_8 : decode cJ13_bitCount_95d88 8 = .ok (.lsub, 1) := by decide +kernel
theorem dJ13_bitCount_95d88_9 : decode cJ13_bitCount_95d88 9 = .ok (.lstore_n 0, 1) := by decide +kernel
theorem dJ13_bitCount_95d88_10 : decode cJ13_bitCount_95d88 10 = .ok (.lload_n 0, 1) := by decide +kernel
theorem dJ13_bitCount_95d88_11 : decode cJ13_bitCount_95d88 11 = .ok (.ldc2_w 316, 3) := by decide +kernel
theorem dJ13_bitCount_95d88_14 : decode cJ13_bitCount_95d88 14 = .ok (.land, 1) := by decide +kernel
theorem dJ13_bitCount_95d88_15 : decode cJ13_bitCount_95d88 15 = .ok (.lload_n 0, 1) := by decide +kernel
theorem dJ13_bitCount_95d88_16 : decode cJ13_bitCount_95d88 16 = .ok (.iconst 2, 1) := by decide +kernel
theorem dJ13_bitCount_95d88_17 : decode cJ13_bitCount_95d88 17 = .ok (.lushr, 1) := by decide +kernel
theorem dJ13_bitCount_95d88_18 : decode cJ13_bitCount_95d88 18 = .ok (.ldc2_w 316, 3) := by decide +kernel
theorem dJ13_bitCount_95d88_21 : decode cJ13_bitCount_95d88 21 = .ok (.land, 1) := by decide +kernel
theorem dJ13_bitCount_95d88_22 : decode cJ13_bitCount_95d88 22 = .ok (.ladd, 1) := by decide +kernel
theorem dJ13_bitCount_95d88_23 : decode cJ13_bitCount_95d88 23 = .ok (.lstore_n 0, 1) := by decide +kernel
theorem dJ13_bitCount_95d88_24 : decode cJ13_bitCount_95d88 24 = .ok (.lload_n 0, 1) := by decide +kernel
theorem dJ13_bitCount_95d88_25 : decode cJ13_bitCount_95d88 25 = .ok (.lload_n 0, 1) := by decide +kernel
theorem dJ13_bitCount_95d88_26 : decode cJ13_bitCount_95d88 26 = .ok (.iconst 4, 1) := by decide +kernel
theorem dJ13_bitCount_95d88_27 : decode cJ13_bitCount_95d88 27 = .ok (.lushr, 1) := by decide +kernel
theorem dJ13_bitCount_95d88_28 : decode cJ13_bitCount_95d88 28 = .ok (.ladd, 1) := by decide +kernel
theorem dJ13_bitCount_95d88_29 : decode cJ13_bitCount_95d88 29 = .ok (.ldc2_w 318, 3) := by decide +kernel
theorem dJ13_bitCount_95d88_32 : decode cJ13_bitCount_95d88 32 = .ok (.land, 1) := by decide +kernel
theorem dJ13_bitCount_95d88_33 : decode cJ13_bitCount_95d88 33 = .ok (.lstore_n 0, 1) := by decide +kernel
theorem dJ13_bitCount_95d88_34 : decode cJ13_bitCount_95d88 34 = .ok (.lload_n 0, 1) := by decide +kernel
theorem dJ13_bitCount_95d88_35 : decode cJ13_bitCount_95d88 35 = .ok (.lload_n 0, 1) := by decide +kernel
theorem dJ13_bitCount_95d88_36 : decode cJ13_bitCount_95d88 36 = .ok (.bipush 8, 2) := by decide +kernel
theorem dJ13_bitCount_95d88_38 : decode cJ13_bitCount_95d88 38 = .ok (.lushr, 1) := by decide +kernel
theorem dJ13_bitCount_95d88_39 : decode cJ13_bitCount_95d88 39 = .ok (.ladd, 1) := by decide +kernel
theorem dJ13_bitCount_95d88_40 : decode cJ13_bitCount_95d88 40 = .ok (.lstore_n 0, 1) := by decide +kernel
theorem dJ13_bitCount_95d88_41 : decode cJ13_bitCount_95d88 41 = .ok (.lload_n 0, 1) := by decide +kernel
theorem dJ13_bitCount_95d88_42 : decode cJ13_bitCount_95d88 42 = .ok (.lload_n 0, 1) := by decide +kernel
theorem dJ13_bitCount_95d88_43 : decode cJ13_bitCount_95d88 43 = .ok (.bipush 16, 2) := by decide +kernel
theorem dJ13_bitCount_95d88_45 : decode cJ13_bitCount_95d88 45 = .ok (.lushr, 1) := by decide +kernel
theorem dJ13_bitCount_95d88_46 : decode cJ13_bitCount_95d88 46 = .ok (.ladd, 1) := by decide +kernel
theorem dJ13_bitCount_95d88_47 : decode cJ13_bitCount_95d88 47 = .ok (.lstore_n 0, 1) := by decide +kernel
theorem dJ13_bitCount_95d88_48 : decode cJ13_bitCount_95d88 48 = .ok (.lload_n 0, 1) := by decide +kernel
theorem dJ13_bitCount_95d88_49 : decode cJ13_bitCount_95d88 49 = .ok (.lload_n 0, 1) := by decide +kernel
theorem dJ13_bitCount_95d88_50 : decode cJ13_bitCount_95d88 50 = .ok (.bipush 32, 2) := by decide +kernel
theorem dJ13_bitCount_95d88_52 : decode cJ13_bitCount_95d88 52 = .ok (.lushr, 1) := by decide +kernel
theorem dJ13_bitCount_95d88_53 : decode cJ13_bitCount_95d88 53 = .ok (.ladd, 1) := by decide +kernel
theorem dJ13_bitCount_95d88_54 : decode cJ13_bitCount_95d88 54 = .ok (.lstore_n 0, 1) := by decide +kernel
theorem dJ13_bitCount_95d88_55 : decode cJ13_bitCount_95d88 55 = .ok (.lload_n 0, 1) := by decide +kernel
theorem dJ13_bitCount_95d88_56 : decode cJ13_bitCount_95d88 56 = .ok (.l2i, 1) := by decide +kernel
theorem dJ13_bitCount_95d88_57 : decode cJ13_bitCount_95d88 57 = .ok (.bipush 127, 2) := by decide +kernel
theorem dJ13_bitCount_95d88_59 : decode cJ13_bitCount_95d88 59 = .ok (.iand, 1) := by decide +kernel
theorem dJ13_bitCount_95d88_60 : decode cJ13_bitCount_95d88 60 = .ok (.ireturn, 1) := by decide +kernel
theorem dJ9_max_7cf53_0 : decode cJ9_max_7cf53 0 = .ok (.iload_n 0, 1) := by decide +kernel
theorem dJ9_max_7cf53_1 : decode cJ9_max_7cf53 1 = .ok (.iload_n 1, 1) := by decide +kernel
theorem dJ9_max_7cf53_2 : decode cJ9_max_7cf53 2 = .ok (.if_icmp .lt 7, 3) := by decide +kernel
theorem dJ9_max_7cf53_5 : decode cJ9_max_7cf53 5 = .ok (.iload_n 0, 1) := by decide +kernel
theorem dJ9_max_7cf53_6 : decode cJ9_max_7cf53 6 = .ok (.goto 4, 3) := by decide +kernel
theorem dJ9_max_7cf53_9 : decode cJ9_max_7cf53 9 = .ok (.iload_n 1, 1) := by decide +kernel
theorem dJ9_max_7cf53_10 : decode cJ9_max_7cf53 10 = .ok (.ireturn, 1) := by decide +kernel
theorem dJ9_min_7cf53_0 : decode cJ9_min_7cf53 0 = .ok (.iload_n 0, 1) := by decide +kernel
theorem dJ9_min_7cf53_1 : decode cJ9_min_7cf53 1 = .ok (.iload_n 1, 1) := by decide +kernel
theorem dJ9_min_7cf53_2 : decode cJ9_min_7cf53 2 = .ok (.if_icmp .gt 7, 3) := by decide +kernel
theorem dJ9_min_7cf53_5 : decode cJ9_min_7cf53 5 = .ok (.iload_n 0, 1) := by decide +kernel
theorem dJ9_min_7cf53_6 : decode cJ9_min_7cf53 6 = .ok (.goto 4, 3) := by decide +kernel
theorem dJ9_min_7cf53_9 : decode cJ9_min_7cf53 9 = .ok (.iload_n 1, 1) := by decide +kernel
theorem dJ9_min_7cf53_10 : decode cJ9_min_7cf53 10 = .ok (.ireturn, 1) := by decide +kernel
theorem dL_law_0 : decode cL_law 0 = .ok (.new 7, 3) := by decide +kernel
theorem dL_law_3 : decode cL_law 3 = .ok (.dup, 1) := by decide +kernel
theorem dL_law_4 : decode cL_law 4 = .ok (.invokespecial 9, 3) := by decide +kernel
theorem dL_law_7 : decode cL_law 7 = .ok (.astore_n 1, 1) := by decide +kernel
theorem dL_law_8 : decode cL_law 8 = .ok (.new 10, 3) := by decide +kernel
theorem dL_law_11 : decode cL_law 11 = .ok (.dup, 1) := by decide +kernel
theorem dL_law_12 : decode cL_law 12 = .ok (.invokespecial 12, 3) := by decide +kernel
theorem dL_law_15 : decode cL_law 15 = .ok (.astore_n 2, 1) := by decide +kernel
theorem dL_law_16 : decode cL_law 16 = .ok (.iconst 0, 1) := by decide +kernel
theorem dL_law_17 : decode cL_law 17 = .ok (.istore_n 3, 1) := by decide +kernel
theorem dL_law_18 : decode cL_law 18 = .ok (.iload_n 3, 1) := by decide +kernel
theorem dL_law_19 : decode cL_law 19 = .ok (.aload_n 0, 1) := by decide +kernel
theorem dL_law_20 : decode cL_law 20 = .ok (.arraylength, 1) := by decide +kernel
theorem dL_law_21 : decode cL_law 21 = .ok (.iconst 5, 1) := by decide +kernel
theorem dL_law_22 : decode cL_law 22 = .ok (.isub, 1) := by decide +kernel
theorem dL_law_23 : decode cL_law 23 = .ok (.if_icmp .gt 938, 3) := by decide +kernel
theorem dL_law_26 : decode cL_law 26 = .ok (.aload_n 0, 1) := by decide +kernel
theorem dL_law_27 : decode cL_law 27 = .ok (.iload_n 3, 1) := by decide +kernel
theorem dL_law_28 : decode cL_law 28 = .ok (.iaload, 1) := by decide +kernel
theorem dL_law_29 : decode cL_law 29 = .ok (.bipush 31, 2) := by decide +kernel
theorem dL_law_31 : decode cL_law 31 = .ok (.iand, 1) := by decide +kernel
theorem dL_law_32 : decode cL_law 32 = .ok (.tableswitch 923 0 30 #[140, 163, 176, 189, 202, 235, 258, 291, 314, 367, 390, 423, 456, 469, 492, 505, 528, 541, 564, 597, 630, 663, 676, 699, 732, 755, 788, 831, 874, 887, 900], 140) := by decide +kernel
theorem dL_law_172 : decode cL_law 172 = .ok (.aload_n 1, 1) := by decide +kernel
theorem dL_law_173 : decode cL_law 173 = .ok (.aload_n 0, 1) := by decide +kernel
theorem dL_law_174 : decode cL_law 174 = .ok (.iload_n 3, 1) := by decide +kernel
theorem dL_law_175 : decode cL_law 175 = .ok (.iconst 1, 1) := by decide +kernel
theorem dL_law_176 : decode cL_law 176 = .ok (.iadd, 1) := by decide +kernel
theorem dL_law_177 : decode cL_law 177 = .ok (.iaload, 1) := by decide +kernel
theorem dL_law_178 : decode cL_law 178 = .ok (.invokevirtual 13, 3) := by decide +kernel
theorem dL_law_181 : decode cL_law 181 = .ok (.aload_n 2, 1) := by decide +kernel
theorem dL_law_182 : decode cL_law 182 = .ok (.aload_n 0, 1) := by decide +kernel
theorem dL_law_183 : decode cL_law 183 = .ok (.iload_n 3, 1) := by decide +kernel
theorem dL_law_184 : decode cL_law 184 = .ok (.iconst 1, 1) := by decide +kernel
theorem dL_law_185 : decode cL_law 185 = .ok (.iadd, 1) := by decide +kernel
theorem dL_law_186 : decode cL_law 186 = .ok (.iaload, 1) := by decide +kernel
theorem dL_law_187 : decode cL_law 187 = .ok (.invokevirtual 17, 3) := by decide +kernel
theorem dL_law_190 : decode cL_law 190 = .ok (.if_icmp .eq 765, 3) := by decide +kernel
theorem dL_law_193 : decode cL_law 193 = .ok (.iconst 0, 1) := by decide +kernel
theorem dL_law_194 : decode cL_law 194 = .ok (.ireturn, 1) := by decide +kernel
theorem dL_law_195 : decode cL_law 195 = .ok (.aload_n 1, 1) := by decide +kernel
theorem dL_law_196 : decode cL_law 196 = .ok (.invokevirtual 18, 3) := by decide +kernel
theorem dL_law_199 : decode cL_law 199 = .ok (.aload_n 2, 1) := by decide +kernel
theorem dL_law_200 : decode cL_law 200 = .ok (.invokevirtual 22, 3) := by decide +kernel
theorem dL_law_203 : decode cL_law 203 = .ok (.if_icmp .eq 752, 3) := by decide +kernel
theorem dL_law_206 : decode cL_law 206 = .ok (.iconst 0, 1) := by decide +kernel
theorem dL_law_207 : decode cL_law 207 = .ok (.ireturn, 1) := by decide +kernel
theorem dL_law_208 : decode cL_law 208 = .ok (.aload_n 1, 1) := by decide +kernel
theorem dL_law_209 : decode cL_law 209 = .ok (.invokevirtual 23, 3) := by decide +kernel
theorem dL_law_212 : decode cL_law 212 = .ok (.aload_n 2, 1) := by decide +kernel
theorem dL_law_213 : decode cL_law 213 = .ok (.invokevirtual 26, 3) := by decide +kernel
theorem dL_law_216 : decode cL_law 216 = .ok (.if_icmp .eq 739, 3) := by decide +kernel
theorem dL_law_219 : decode cL_law 219 = .ok (.iconst 0, 1) := by decide +kernel
theorem dL_law_220 : decode cL_law 220 = .ok (.ireturn, 1) := by decide +kernel
theorem dL_law_221 : decode cL_law 221 = .ok (.aload_n 1, 1) := by decide +kernel
theorem dL_law_222 : decode cL_law 222 = .ok (.invokevirtual 27, 3) := by decide +kernel
theorem dL_law_225 : decode cL_law 225 = .ok (.aload_n 2, 1) := by decide +kernel
theorem dL_law_226 : decode cL_law 226 = .ok (.invokevirtual 30, 3) := by decide +kernel
theorem dL_law_229 : decode cL_law 229 = .ok (.if_icmp .eq 726, 3) := by decide +kernel
theorem dL_law_232 : decode cL_law 232 = .ok (.iconst 0, 1) := by decide +kernel
theorem dL_law_233 : decode cL_law 233 = .ok (.ireturn, 1) := by decide +kernel
theorem dL_law_234 : decode cL_law 234 = .ok (.aload_n 1, 1) := by decide +kernel
theorem dL_law_235 : decode cL_law 235 = .ok (.aload_n 0, 1) := by decide +kernel
theorem dL_law_236 : decode cL_law 236 = .ok (.iload_n 3, 1) := by decide +kernel
theorem dL_law_237 : decode cL_law 237 = .ok (.iconst 1, 1) := by decide +kernel
theorem dL_law_238 : decode cL_law 238 = .ok (.iadd, 1) := by decide +kernel
theorem dL_law_239 : decode cL_law 239 = .ok (.iaload, 1) := by decide +kernel
theorem dL_law_240 : decode cL_law 240 = .ok (.aload_n 0, 1) := by decide +kernel
theorem dL_law_241 : decode cL_law 241 = .ok (.iload_n 3, 1) := by decide +kernel
theorem dL_law_242 : decode cL_law 242 = .ok (.iconst 2, 1) := by decide +kernel
theorem dL_law_243 : decode cL_law 243 = .ok (.iadd, 1) := by decide +kernel
theorem dL_law_244 : decode cL_law 244 = .ok (.iaload, 1) := by decide +kernel
theorem dL_law_245 : decode cL_law 245 = .ok (.invokevirtual 31, 3) := by decide +kernel
theorem dL_law_248 : decode cL_law 248 = .ok (.aload_n 2, 1) := by decide +kernel
theorem dL_law_249 : decode cL_law 249 = .ok (.aload_n 0, 1) := by decide +kernel
theorem dL_law_250 : decode cL_law 250 = .ok (.iload_n 3, 1) := by decide +kernel
theorem dL_law_251 : decode cL_law 251 = .ok (.iconst 1, 1) := by decide +kernel
theorem dL_law_252 : decode cL_law 252 = .ok (.iadd, 1) := by decide +kernel
theorem dL_law_253 : decode cL_law 253 = .ok (.iaload, 1) := by decide +kernel
theorem dL_law_254 : decode cL_law 254 = .ok (.aload_n 0, 1) := by decide +kernel
theorem dL_law_255 : decode cL_law 255 = .ok (.iload_n 3, 1) := by decide +kernel
theorem dL_law_256 : decode cL_law 256 = .ok (.iconst 2, 1) := by decide +kernel
theorem dL_law_257 : decode cL_law 257 = .ok (.iadd, 1) := by decide +kernel
theorem dL_law_258 : decode cL_law 258 = .ok (.iaload, 1) := by decide +kernel
theorem dL_law_259 : decode cL_law 259 = .ok (.invokevirtual 35, 3) := by decide +kernel
theorem dL_law_262 : decode cL_law 262 = .ok (.if_icmp .eq 693, 3) := by decide +kernel
theorem dL_law_265 : decode cL_law 265 = .ok (.iconst 0, 1) := by decide +kernel
theorem dL_law_266 : decode cL_law 266 = .ok (.ireturn, 1) := by decide +kernel
theorem dL_law_267 : decode cL_law 267 = .ok (.aload_n 1, 1) := by decide +kernel
theorem dL_law_268 : decode cL_law 268 = .ok (.aload_n 0, 1) := by decide +kernel
theorem dL_law_269 : decode cL_law 269 = .ok (.iload_n 3, 1) := by decide +kernel
theorem dL_law_270 : decode cL_law 270 = .ok (.iconst 1, 1) := by decide +kernel
theorem dL_law_271 : decode cL_law 271 = .ok (.iadd, 1) := by decide +kernel
theorem dL_law_272 : decode cL_law 272 = .ok (.iaload, 1) := by decide +kernel
theorem dL_law_273 : decode cL_law 273 = .ok (.invokevirtual 36, 3) := by decide +kernel
theorem dL_law_276 : decode cL_law 276 = .ok (.aload_n 2, 1) := by decide +kernel
theorem dL_law_277 : decode cL_law 277 = .ok (.aload_n 0, 1) := by decide +kernel
theorem dL_law_278 : decode cL_law 278 = .ok (.iload_n 3, 1) := by decide +kernel
theorem dL_law_279 : decode cL_law 279 = .ok (.iconst 1, 1) := by decide +kernel
theorem dL_law_280 : decode cL_law 280 = .ok (.iadd, 1) := by decide +kernel
theorem dL_law_281 : decode cL_law 281 = .ok (.iaload, 1) := by decide +kernel
theorem dL_law_282 : decode cL_law 282 = .ok (.invokevirtual 39, 3) := by decide +kernel
theorem dL_law_285 : decode cL_law 285 = .ok (.if_icmp .eq 670, 3) := by decide +kernel
theorem dL_law_288 : decode cL_law 288 = .ok (.iconst 0, 1) := by decide +kernel
theorem dL_law_289 : decode cL_law 289 = .ok (.ireturn, 1) := by decide +kernel
theorem dL_law_290 : decode cL_law 290 = .ok (.aload_n 1, 1) := by decide +kernel
theorem dL_law_291 : decode cL_law 291 = .ok (.aload_n 0, 1) := by decide +kernel
theorem dL_law_292 : decode cL_law 292 = .ok (.iload_n 3, 1) := by decide +kernel
theorem dL_law_293 : decode cL_law 293 = .ok (.iconst 1, 1) := by decide +kernel
theorem dL_law_294 : decode cL_law 294 = .ok (.iadd, 1) := by decide +kernel
theorem dL_law_295 : decode cL_law 295 = .ok (.iaload, 1) := by decide +kernel
theorem dL_law_296 : decode cL_law 296 = .ok (.aload_n 0, 1) := by decide +kernel
theorem dL_law_297 : decode cL_law 297 = .ok (.iload_n 3, 1) := by decide +kernel
theorem dL_law_298 : decode cL_law 298 = .ok (.iconst 2, 1) := by decide +kernel
theorem dL_law_299 : decode cL_law 299 = .ok (.iadd, 1) := by decide +kernel
theorem dL_law_300 : decode cL_law 300 = .ok (.iaload, 1) := by decide +kernel
theorem dL_law_301 : decode cL_law 301 = .ok (.invokevirtual 40, 3) := by decide +kernel
theorem dL_law_304 : decode cL_law 304 = .ok (.aload_n 2, 1) := by decide +kernel
theorem dL_law_305 : decode cL_law 305 = .ok (.aload_n 0, 1) := by decide +kernel
theorem dL_law_306 : decode cL_law 306 = .ok (.iload_n 3, 1) := by decide +kernel
theorem dL_law_307 : decode cL_law 307 = .ok (.iconst 1, 1) := by decide +kernel
theorem dL_law_308 : decode cL_law 308 = .ok (.iadd, 1) := by decide +kernel
theorem dL_law_309 : decode cL_law 309 = .ok (.iaload, 1) := by decide +kernel
theorem dL_law_310 : decode cL_law 310 = .ok (.aload_n 0, 1) := by decide +kernel
theorem dL_law_311 : decode cL_law 311 = .ok (.iload_n 3, 1) := by decide +kernel
theorem dL_law_312 : decode cL_law 312 = .ok (.iconst 2, 1) := by decide +kernel
theorem dL_law_313 : decode cL_law 313 = .ok (.iadd, 1) := by decide +kernel
theorem dL_law_314 : decode cL_law 314 = .ok (.iaload, 1) := by decide +kernel
theorem dL_law_315 : decode cL_law 315 = .ok (.invokevirtual 43, 3) := by decide +kernel
theorem dL_law_318 : decode cL_law 318 = .ok (.if_icmp .eq 637, 3) := by decide +kernel
theorem dL_law_321 : decode cL_law 321 = .ok (.iconst 0, 1) := by decide +kernel
theorem dL_law_322 : decode cL_law 322 = .ok (.ireturn, 1) := by decide +kernel
theorem dL_law_323 : decode cL_law 323 = .ok (.aload_n 1, 1) := by decide +kernel
theorem dL_law_324 : decode cL_law 324 = .ok (.aload_n 0, 1) := by decide +kernel
theorem dL_law_325 : decode cL_law 325 = .ok (.iload_n 3, 1) := by decide +kernel
theorem dL_law_326 : decode cL_law 326 = .ok (.iconst 1, 1) := by decide +kernel
theorem dL_law_327 : decode cL_law 327 = .ok (.iadd, 1) := by decide +kernel
theorem dL_law_328 : decode cL_law 328 = .ok (.iaload, 1) := by decide +kernel
theorem dL_law_329 : decode cL_law 329 = .ok (.invokevirtual 44, 3) := by decide +kernel
theorem dL_law_332 : decode cL_law 332 = .ok (.aload_n 2, 1) := by decide +kernel
theorem dL_law_333 : decode cL_law 333 = .ok (.aload_n 0, 1) := by decide +kernel
theorem dL_law_334 : decode cL_law 334 = .ok (.iload_n 3, 1) := by decide +kernel
theorem dL_law_335 : decode cL_law 335 = .ok (.iconst 1, 1) := by decide +kernel
theorem dL_law_336 : decode cL_law 336 = .ok (.iadd, 1) := by decide +kernel
theorem dL_law_337 : decode cL_law 337 = .ok (.iaload, 1) := by decide +kernel
theorem dL_law_338 : decode cL_law 338 = .ok (.invokevirtual 47, 3) := by decide +kernel
theorem dL_law_341 : decode cL_law 341 = .ok (.if_icmp .eq 614, 3) := by decide +kernel
theorem dL_law_344 : decode cL_law 344 = .ok (.iconst 0, 1) := by decide +kernel
theorem dL_law_345 : decode cL_law 345 = .ok (.ireturn, 1) := by decide +kernel
theorem dL_law_346 : decode cL_law 346 = .ok (.aload_n 1, 1) := by decide +kernel
theorem dL_law_347 : decode cL_law 347 = .ok (.aload_n 0, 1) := by decide +kernel
theorem dL_law_348 : decode cL_law 348 = .ok (.iload_n 3, 1) := by decide +kernel
theorem dL_law_349 : decode cL_law 349 = .ok (.iconst 1, 1) := by decide +kernel
theorem dL_law_350 : decode cL_law 350 = .ok (.iadd, 1) := by decide +kernel
theorem dL_law_351 : decode cL_law 351 = .ok (.iaload, 1) := by decide +kernel
theorem dL_law_352 : decode cL_law 352 = .ok (.aload_n 0, 1) := by decide +kernel
theorem dL_law_353 : decode cL_law 353 = .ok (.iload_n 3, 1) := by decide +kernel
theorem dL_law_354 : decode cL_law 354 = .ok (.iconst 2, 1) := by decide +kernel
theorem dL_law_355 : decode cL_law 355 = .ok (.iadd, 1) := by decide +kernel
theorem dL_law_356 : decode cL_law 356 = .ok (.iaload, 1) := by decide +kernel
theorem dL_law_357 : decode cL_law 357 = .ok (.aload_n 0, 1) := by decide +kernel
theorem dL_law_358 : decode cL_law 358 = .ok (.iload_n 3, 1) := by decide +kernel
theorem dL_law_359 : decode cL_law 359 = .ok (.iconst 3, 1) := by decide +kernel
theorem dL_law_360 : decode cL_law 360 = .ok (.iadd, 1) := by decide +kernel
theorem dL_law_361 : decode cL_law 361 = .ok (.iaload, 1) := by decide +kernel
theorem dL_law_362 : decode cL_law 362 = .ok (.aload_n 0, 1) := by decide +kernel
theorem dL_law_363 : decode cL_law 363 = .ok (.iload_n 3, 1) := by decide +kernel
theorem dL_law_364 : decode cL_law 364 = .ok (.iconst 4, 1) := by decide +kernel
theorem dL_law_365 : decode cL_law 365 = .ok (.iadd, 1) := by decide +kernel
theorem dL_law_366 : decode cL_law 366 = .ok (.iaload, 1) := by decide +kernel
theorem dL_law_367 : decode cL_law 367 = .ok (.invokevirtual 48, 3) := by decide +kernel
theorem dL_law_370 : decode cL_law 370 = .ok (.aload_n 2, 1) := by decide +kernel
theorem dL_law_371 : decode cL_law 371 = .ok (.aload_n 0, 1) := by decide +kernel
theorem dL_law_372 : decode cL_law 372 = .ok (.iload_n 3, 1) := by decide +kernel
theorem dL_law_373 : decode cL_law 373 = .ok (.iconst 1, 1) := by decide +kernel
theorem dL_law_374 : decode cL_law 374 = .ok (.iadd, 1) := by decide +kernel
theorem dL_law_375 : decode cL_law 375 = .ok (.iaload, 1) := by decide +kernel
theorem dL_law_376 : decode cL_law 376 = .ok (.aload_n 0, 1) := by decide +kernel
theorem dL_law_377 : decode cL_law 377 = .ok (.iload_n 3, 1) := by decide +kernel
theorem dL_law_378 : decode cL_law 378 = .ok (.iconst 2, 1) := by decide +kernel
theorem dL_law_379 : decode cL_law 379 = .ok (.iadd, 1) := by decide +kernel
theorem dL_law_380 : decode cL_law 380 = .ok (.iaload, 1) := by decide +kernel
theorem dL_law_381 : decode cL_law 381 = .ok (.aload_n 0, 1) := by decide +kernel
theorem dL_law_382 : decode cL_law 382 = .ok (.iload_n 3, 1) := by decide +kernel
theorem dL_law_383 : decode cL_law 383 = .ok (.iconst 3, 1) := by decide +kernel
theorem dL_law_384 : decode cL_law 384 = .ok (.iadd, 1) := by decide +kernel
theorem dL_law_385 : decode cL_law 385 = .ok (.iaload, 1) := by decide +kernel
theorem dL_law_386 : decode cL_law 386 = .ok (.aload_n 0, 1) := by decide +kernel
theorem dL_law_387 : decode cL_law 387 = .ok (.iload_n 3, 1) := by decide +kernel
theorem dL_law_388 : decode cL_law 388 = .ok (.iconst 4, 1) := by decide +kernel
theorem dL_law_389 : decode cL_law 389 = .ok (.iadd, 1) := by decide +kernel
theorem dL_law_390 : decode cL_law 390 = .ok (.iaload, 1) := by decide +kernel
theorem dL_law_391 : decode cL_law 391 = .ok (.invokevirtual 52, 3) := by decide +kernel
theorem dL_law_394 : decode cL_law 394 = .ok (.if_icmp .eq 561, 3) := by decide +kernel
theorem dL_law_397 : decode cL_law 397 = .ok (.iconst 0, 1) := by decide +kernel
theorem dL_law_398 : decode cL_law 398 = .ok (.ireturn, 1) := by decide +kernel
theorem dL_law_399 : decode cL_law 399 = .ok (.aload_n 1, 1) := by decide +kernel
theorem dL_law_400 : decode cL_law 400 = .ok (.aload_n 0, 1) := by decide +kernel
theorem dL_law_401 : decode cL_law 401 = .ok (.iload_n 3, 1) := by decide +kernel
theorem dL_law_402 : decode cL_law 402 = .ok (.iconst 1, 1) := by decide +kernel
theorem dL_law_403 : decode cL_law 403 = .ok (.iadd, 1) := by decide +kernel
theorem dL_law_404 : decode cL_law 404 = .ok (.iaload, 1) := by decide +kernel
theorem dL_law_405 : decode cL_law 405 = .ok (.invokevirtual 53, 3) := by decide +kernel
theorem dL_law_408 : decode cL_law 408 = .ok (.aload_n 2, 1) := by decide +kernel
theorem dL_law_409 : decode cL_law 409 = .ok (.aload_n 0, 1) := by decide +kernel
theorem dL_law_410 : decode cL_law 410 = .ok (.iload_n 3, 1) := by decide +kernel
theorem dL_law_411 : decode cL_law 411 = .ok (.iconst 1, 1) := by decide +kernel
theorem dL_law_412 : decode cL_law 412 = .ok (.iadd, 1) := by decide +kernel
theorem dL_law_413 : decode cL_law 413 = .ok (.iaload, 1) := by decide +kernel
theorem dL_law_414 : decode cL_law 414 = .ok (.invokevirtual 56, 3) := by decide +kernel
theorem dL_law_417 : decode cL_law 417 = .ok (.if_icmp .eq 538, 3) := by decide +kernel
theorem dL_law_420 : decode cL_law 420 = .ok (.iconst 0, 1) := by decide +kernel
theorem dL_law_421 : decode cL_law 421 = .ok (.ireturn, 1) := by decide +kernel
theorem dL_law_422 : decode cL_law 422 = .ok (.aload_n 1, 1) := by decide +kernel
theorem dL_law_423 : decode cL_law 423 = .ok (.aload_n 0, 1) := by decide +kernel
theorem dL_law_424 : decode cL_law 424 = .ok (.iload_n 3, 1) := by decide +kernel
theorem dL_law_425 : decode cL_law 425 = .ok (.iconst 1, 1) := by decide +kernel
theorem dL_law_426 : decode cL_law 426 = .ok (.iadd, 1) := by decide +kernel
theorem dL_law_427 : decode cL_law 427 = .ok (.iaload, 1) := by decide +kernel
theorem dL_law_428 : decode cL_law 428 = .ok (.aload_n 0, 1) := by decide +kernel
theorem dL_law_429 : decode cL_law 429 = .ok (.iload_n 3, 1) := by decide +kernel
theorem dL_law_430 : decode cL_law 430 = .ok (.iconst 2, 1) := by decide +kernel
theorem dL_law_431 : decode cL_law 431 = .ok (.iadd, 1) := by decide +kernel
theorem dL_law_432 : decode cL_law 432 = .ok (.iaload, 1) := by decide +kernel
theorem dL_law_433 : decode cL_law 433 = .ok (.invokevirtual 57, 3) := by decide +kernel
theorem dL_law_436 : decode cL_law 436 = .ok (.aload_n 2, 1) := by decide +kernel
theorem dL_law_437 : decode cL_law 437 = .ok (.aload_n 0, 1) := by decide +kernel
theorem dL_law_438 : decode cL_law 438 = .ok (.iload_n 3, 1) := by decide +kernel
theorem dL_law_439 : decode cL_law 439 = .ok (.iconst 1, 1) := by decide +kernel
theorem dL_law_440 : decode cL_law 440 = .ok (.iadd, 1) := by decide +kernel
theorem dL_law_441 : decode cL_law 441 = .ok (.iaload, 1) := by decide +kernel
theorem dL_law_442 : decode cL_law 442 = .ok (.aload_n 0, 1) := by decide +kernel
theorem dL_law_443 : decode cL_law 443 = .ok (.iload_n 3, 1) := by decide +kernel
theorem dL_law_444 : decode cL_law 444 = .ok (.iconst 2, 1) := by decide +kernel
theorem dL_law_445 : decode cL_law 445 = .ok (.iadd, 1) := by decide +kernel
theorem dL_law_446 : decode cL_law 446 = .ok (.iaload, 1) := by decide +kernel
theorem dL_law_447 : decode cL_law 447 = .ok (.invokevirtual 60, 3) := by decide +kernel
theorem dL_law_450 : decode cL_law 450 = .ok (.if_icmp .eq 505, 3) := by decide +kernel
theorem dL_law_453 : decode cL_law 453 = .ok (.iconst 0, 1) := by decide +kernel
theorem dL_law_454 : decode cL_law 454 = .ok (.ireturn, 1) := by decide +kernel
theorem dL_law_455 : decode cL_law 455 = .ok (.aload_n 1, 1) := by decide +kernel
theorem dL_law_456 : decode cL_law 456 = .ok (.aload_n 0, 1) := by decide +kernel
theorem dL_law_457 : decode cL_law 457 = .ok (.iload_n 3, 1) := by decide +kernel
theorem dL_law_458 : decode cL_law 458 = .ok (.iconst 1, 1) := by decide +kernel
theorem dL_law_459 : decode cL_law 459 = .ok (.iadd, 1) := by decide +kernel
theorem dL_law_460 : decode cL_law 460 = .ok (.iaload, 1) := by decide +kernel
theorem dL_law_461 : decode cL_law 461 = .ok (.aload_n 0, 1) := by decide +kernel
theorem dL_law_462 : decode cL_law 462 = .ok (.iload_n 3, 1) := by decide +kernel
theorem dL_law_463 : decode cL_law 463 = .ok (.iconst 2, 1) := by decide +kernel
theorem dL_law_464 : decode cL_law 464 = .ok (.iadd, 1) := by decide +kernel
theorem dL_law_465 : decode cL_law 465 = .ok (.iaload, 1) := by decide +kernel
theorem dL_law_466 : decode cL_law 466 = .ok (.invokevirtual 61, 3) := by decide +kernel
theorem dL_law_469 : decode cL_law 469 = .ok (.aload_n 2, 1) := by decide +kernel
theorem dL_law_470 : decode cL_law 470 = .ok (.aload_n 0, 1) := by decide +kernel
theorem dL_law_471 : decode cL_law 471 = .ok (.iload_n 3, 1) := by decide +kernel
theorem dL_law_472 : decode cL_law 472 = .ok (.iconst 1, 1) := by decide +kernel
theorem dL_law_473 : decode cL_law 473 = .ok (.iadd, 1) := by decide +kernel
theorem dL_law_474 : decode cL_law 474 = .ok (.iaload, 1) := by decide +kernel
theorem dL_law_475 : decode cL_law 475 = .ok (.aload_n 0, 1) := by decide +kernel
theorem dL_law_476 : decode cL_law 476 = .ok (.iload_n 3, 1) := by decide +kernel
theorem dL_law_477 : decode cL_law 477 = .ok (.iconst 2, 1) := by decide +kernel
theorem dL_law_478 : decode cL_law 478 = .ok (.iadd, 1) := by decide +kernel
theorem dL_law_479 : decode cL_law 479 = .ok (.iaload, 1) := by decide +kernel
theorem dL_law_480 : decode cL_law 480 = .ok (.invokevirtual 64, 3) := by decide +kernel
theorem dL_law_483 : decode cL_law 483 = .ok (.if_icmp .eq 472, 3) := by decide +kernel
theorem dL_law_486 : decode cL_law 486 = .ok (.iconst 0, 1) := by decide +kernel
theorem dL_law_487 : decode cL_law 487 = .ok (.ireturn, 1) := by decide +kernel
theorem dL_law_488 : decode cL_law 488 = .ok (.aload_n 1, 1) := by decide +kernel
theorem dL_law_489 : decode cL_law 489 = .ok (.invokevirtual 65, 3) := by decide +kernel
theorem dL_law_492 : decode cL_law 492 = .ok (.aload_n 2, 1) := by decide +kernel
theorem dL_law_493 : decode cL_law 493 = .ok (.invokevirtual 68, 3) := by decide +kernel
theorem dL_law_496 : decode cL_law 496 = .ok (.if_icmp .eq 459, 3) := by decide +kernel
theorem dL_law_499 : decode cL_law 499 = .ok (.iconst 0, 1) := by decide +kernel
theorem dL_law_500 : decode cL_law 500 = .ok (.ireturn, 1) := by decide +kernel
theorem dL_law_501 : decode cL_law 501 = .ok (.aload_n 1, 1) := by decide +kernel
theorem dL_law_502 : decode cL_law 502 = .ok (.aload_n 0, 1) := by decide +kernel
theorem dL_law_503 : decode cL_law 503 = .ok (.iload_n 3, 1) := by decide +kernel
theorem dL_law_504 : decode cL_law 504 = .ok (.iconst 1, 1) := by decide +kernel
theorem dL_law_505 : decode cL_law 505 = .ok (.iadd, 1) := by decide +kernel
theorem dL_law_506 : decode cL_law 506 = .ok (.iaload, 1) := by decide +kernel
theorem dL_law_507 : decode cL_law 507 = .ok (.invokevirtual 69, 3) := by decide +kernel
theorem dL_law_510 : decode cL_law 510 = .ok (.aload_n 2, 1) := by decide +kernel
theorem dL_law_511 : decode cL_law 511 = .ok (.aload_n 0, 1) := by decide +kernel
theorem dL_law_512 : decode cL_law 512 = .ok (.iload_n 3, 1) := by decide +kernel
theorem dL_law_513 : decode cL_law 513 = .ok (.iconst 1, 1) := by decide +kernel
theorem dL_law_514 : decode cL_law 514 = .ok (.iadd, 1) := by decide +kernel
theorem dL_law_515 : decode cL_law 515 = .ok (.iaload, 1) := by decide +kernel
theorem dL_law_516 : decode cL_law 516 = .ok (.invokevirtual 72, 3) := by decide +kernel
theorem dL_law_519 : decode cL_law 519 = .ok (.if_icmp .eq 436, 3) := by decide +kernel
theorem dL_law_522 : decode cL_law 522 = .ok (.iconst 0, 1) := by decide +kernel
theorem dL_law_523 : decode cL_law 523 = .ok (.ireturn, 1) := by decide +kernel
theorem dL_law_524 : decode cL_law 524 = .ok (.aload_n 1, 1) := by decide +kernel
theorem dL_law_525 : decode cL_law 525 = .ok (.invokevirtual 73, 3) := by decide +kernel
theorem dL_law_528 : decode cL_law 528 = .ok (.aload_n 2, 1) := by decide +kernel
theorem dL_law_529 : decode cL_law 529 = .ok (.invokevirtual 76, 3) := by decide +kernel
theorem dL_law_532 : decode cL_law 532 = .ok (.if_icmp .eq 423, 3) := by decide +kernel
theorem dL_law_535 : decode cL_law 535 = .ok (.iconst 0, 1) := by decide +kernel
theorem dL_law_536 : decode cL_law 536 = .ok (.ireturn, 1) := by decide +kernel
theorem dL_law_537 : decode cL_law 537 = .ok (.aload_n 1, 1) := by decide +kernel
theorem dL_law_538 : decode cL_law 538 = .ok (.aload_n 0, 1) := by decide +kernel
theorem dL_law_539 : decode cL_law 539 = .ok (.iload_n 3, 1) := by decide +kernel
theorem dL_law_540 : decode cL_law 540 = .ok (.iconst 1, 1) := by decide +kernel
theorem dL_law_541 : decode cL_law 541 = .ok (.iadd, 1) := by decide +kernel
theorem dL_law_542 : decode cL_law 542 = .ok (.iaload, 1) := by decide +kernel
theorem dL_law_543 : decode cL_law 543 = .ok (.invokevirtual 77, 3) := by decide +kernel
theorem dL_law_546 : decode cL_law 546 = .ok (.aload_n 2, 1) := by decide +kernel
theorem dL_law_547 : decode cL_law 547 = .ok (.aload_n 0, 1) := by decide +kernel
theorem dL_law_548 : decode cL_law 548 = .ok (.iload_n 3, 1) := by decide +kernel
theorem dL_law_549 : decode cL_law 549 = .ok (.iconst 1, 1) := by decide +kernel
theorem dL_law_550 : decode cL_law 550 = .ok (.iadd, 1) := by decide +kernel
theorem dL_law_551 : decode cL_law 551 = .ok (.iaload, 1) := by decide +kernel
theorem dL_law_552 : decode cL_law 552 = .ok (.invokevirtual 80, 3) := by decide +kernel
theorem dL_law_555 : decode cL_law 555 = .ok (.if_icmp .eq 400, 3) := by decide +kernel
theorem dL_law_558 : decode cL_law 558 = .ok (.iconst 0, 1) := by decide +kernel
theorem dL_law_559 : decode cL_law 559 = .ok (.ireturn, 1) := by decide +kernel
theorem dL_law_560 : decode cL_law 560 = .ok (.aload_n 1, 1) := by decide +kernel
theorem dL_law_561 : decode cL_law 561 = .ok (.invokevirtual 81, 3) := by decide +kernel
theorem dL_law_564 : decode cL_law 564 = .ok (.aload_n 2, 1) := by decide +kernel
theorem dL_law_565 : decode cL_law 565 = .ok (.invokevirtual 84, 3) := by decide +kernel
theorem dL_law_568 : decode cL_law 568 = .ok (.if_icmp .eq 387, 3) := by decide +kernel
theorem dL_law_571 : decode cL_law 571 = .ok (.iconst 0, 1) := by decide +kernel
theorem dL_law_572 : decode cL_law 572 = .ok (.ireturn, 1) := by decide +kernel
theorem dL_law_573 : decode cL_law 573 = .ok (.aload_n 1, 1) := by decide +kernel
theorem dL_law_574 : decode cL_law 574 = .ok (.aload_n 0, 1) := by decide +kernel
theorem dL_law_575 : decode cL_law 575 = .ok (.iload_n 3, 1) := by decide +kernel
theorem dL_law_576 : decode cL_law 576 = .ok (.iconst 1, 1) := by decide +kernel
theorem dL_law_577 : decode cL_law 577 = .ok (.iadd, 1) := by decide +kernel
theorem dL_law_578 : decode cL_law 578 = .ok (.iaload, 1) := by decide +kernel
theorem dL_law_579 : decode cL_law 579 = .ok (.invokevirtual 85, 3) := by decide +kernel
theorem dL_law_582 : decode cL_law 582 = .ok (.aload_n 2, 1) := by decide +kernel
theorem dL_law_583 : decode cL_law 583 = .ok (.aload_n 0, 1) := by decide +kernel
theorem dL_law_584 : decode cL_law 584 = .ok (.iload_n 3, 1) := by decide +kernel
theorem dL_law_585 : decode cL_law 585 = .ok (.iconst 1, 1) := by decide +kernel
theorem dL_law_586 : decode cL_law 586 = .ok (.iadd, 1) := by decide +kernel
theorem dL_law_587 : decode cL_law 587 = .ok (.iaload, 1) := by decide +kernel
theorem dL_law_588 : decode cL_law 588 = .ok (.invokevirtual 88, 3) := by decide +kernel
theorem dL_law_591 : decode cL_law 591 = .ok (.if_icmp .eq 364, 3) := by decide +kernel
theorem dL_law_594 : decode cL_law 594 = .ok (.iconst 0, 1) := by decide +kernel
theorem dL_law_595 : decode cL_law 595 = .ok (.ireturn, 1) := by decide +kernel
theorem dL_law_596 : decode cL_law 596 = .ok (.aload_n 1, 1) := by decide +kernel
theorem dL_law_597 : decode cL_law 597 = .ok (.aload_n 0, 1) := by decide +kernel
theorem dL_law_598 : decode cL_law 598 = .ok (.iload_n 3, 1) := by decide +kernel
theorem dL_law_599 : decode cL_law 599 = .ok (.iconst 1, 1) := by decide +kernel
theorem dL_law_600 : decode cL_law 600 = .ok (.iadd, 1) := by decide +kernel
theorem dL_law_601 : decode cL_law 601 = .ok (.iaload, 1) := by decide +kernel
theorem dL_law_602 : decode cL_law 602 = .ok (.aload_n 0, 1) := by decide +kernel
theorem dL_law_603 : decode cL_law 603 = .ok (.iload_n 3, 1) := by decide +kernel
theorem dL_law_604 : decode cL_law 604 = .ok (.iconst 2, 1) := by decide +kernel
theorem dL_law_605 : decode cL_law 605 = .ok (.iadd, 1) := by decide +kernel
theorem dL_law_606 : decode cL_law 606 = .ok (.iaload, 1) := by decide +kernel
theorem dL_law_607 : decode cL_law 607 = .ok (.invokevirtual 89, 3) := by decide +kernel
theorem dL_law_610 : decode cL_law 610 = .ok (.aload_n 2, 1) := by decide +kernel
theorem dL_law_611 : decode cL_law 611 = .ok (.aload_n 0, 1) := by decide +kernel
theorem dL_law_612 : decode cL_law 612 = .ok (.iload_n 3, 1) := by decide +kernel
theorem dL_law_613 : decode cL_law 613 = .ok (.iconst 1, 1) := by decide +kernel
theorem dL_law_614 : decode cL_law 614 = .ok (.iadd, 1) := by decide +kernel
theorem dL_law_615 : decode cL_law 615 = .ok (.iaload, 1) := by decide +kernel
theorem dL_law_616 : decode cL_law 616 = .ok (.aload_n 0, 1) := by decide +kernel
theorem dL_law_617 : decode cL_law 617 = .ok (.iload_n 3, 1) := by decide +kernel
theorem dL_law_618 : decode cL_law 618 = .ok (.iconst 2, 1) := by decide +kernel
theorem dL_law_619 : decode cL_law 619 = .ok (.iadd, 1) := by decide +kernel
theorem dL_law_620 : decode cL_law 620 = .ok (.iaload, 1) := by decide +kernel
theorem dL_law_621 : decode cL_law 621 = .ok (.invokevirtual 92, 3) := by decide +kernel
theorem dL_law_624 : decode cL_law 624 = .ok (.if_icmp .eq 331, 3) := by decide +kernel
theorem dL_law_627 : decode cL_law 627 = .ok (.iconst 0, 1) := by decide +kernel
theorem dL_law_628 : decode cL_law 628 = .ok (.ireturn, 1) := by decide +kernel
theorem dL_law_629 : decode cL_law 629 = .ok (.aload_n 1, 1) := by decide +kernel
theorem dL_law_630 : decode cL_law 630 = .ok (.aload_n 0, 1) := by decide +kernel
theorem dL_law_631 : decode cL_law 631 = .ok (.iload_n 3, 1) := by decide +kernel
theorem dL_law_632 : decode cL_law 632 = .ok (.iconst 1, 1) := by decide +kernel
theorem dL_law_633 : decode cL_law 633 = .ok (.iadd, 1) := by decide +kernel
theorem dL_law_634 : decode cL_law 634 = .ok (.iaload, 1) := by decide +kernel
theorem dL_law_635 : decode cL_law 635 = .ok (.aload_n 0, 1) := by decide +kernel
theorem dL_law_636 : decode cL_law 636 = .ok (.iload_n 3, 1) := by decide +kernel
theorem dL_law_637 : decode cL_law 637 = .ok (.iconst 2, 1) := by decide +kernel
theorem dL_law_638 : decode cL_law 638 = .ok (.iadd, 1) := by decide +kernel
theorem dL_law_639 : decode cL_law 639 = .ok (.iaload, 1) := by decide +kernel
theorem dL_law_640 : decode cL_law 640 = .ok (.invokevirtual 93, 3) := by decide +kernel
theorem dL_law_643 : decode cL_law 643 = .ok (.aload_n 2, 1) := by decide +kernel
theorem dL_law_644 : decode cL_law 644 = .ok (.aload_n 0, 1) := by decide +kernel
theorem dL_law_645 : decode cL_law 645 = .ok (.iload_n 3, 1) := by decide +kernel
theorem dL_law_646 : decode cL_law 646 = .ok (.iconst 1, 1) := by decide +kernel
theorem dL_law_647 : decode cL_law 647 = .ok (.iadd, 1) := by decide +kernel
theorem dL_law_648 : decode cL_law 648 = .ok (.iaload, 1) := by decide +kernel
theorem dL_law_649 : decode cL_law 649 = .ok (.aload_n 0, 1) := by decide +kernel
theorem dL_law_650 : decode cL_law 650 = .ok (.iload_n 3, 1) := by decide +kernel
theorem dL_law_651 : decode cL_law 651 = .ok (.iconst 2, 1) := by decide +kernel
theorem dL_law_652 : decode cL_law 652 = .ok (.iadd, 1) := by decide +kernel
theorem dL_law_653 : decode cL_law 653 = .ok (.iaload, 1) := by decide +kernel
theorem dL_law_654 : decode cL_law 654 = .ok (.invokevirtual 96, 3) := by decide +kernel
theorem dL_law_657 : decode cL_law 657 = .ok (.if_icmp .eq 298, 3) := by decide +kernel
theorem dL_law_660 : decode cL_law 660 = .ok (.iconst 0, 1) := by decide +kernel
theorem dL_law_661 : decode cL_law 661 = .ok (.ireturn, 1) := by decide +kernel
theorem dL_law_662 : decode cL_law 662 = .ok (.aload_n 1, 1) := by decide +kernel
theorem dL_law_663 : decode cL_law 663 = .ok (.aload_n 0, 1) := by decide +kernel
theorem dL_law_664 : decode cL_law 664 = .ok (.iload_n 3, 1) := by decide +kernel
theorem dL_law_665 : decode cL_law 665 = .ok (.iconst 1, 1) := by decide +kernel
theorem dL_law_666 : decode cL_law 666 = .ok (.iadd, 1) := by decide +kernel
theorem dL_law_667 : decode cL_law 667 = .ok (.iaload, 1) := by decide +kernel
theorem dL_law_668 : decode cL_law 668 = .ok (.aload_n 0, 1) := by decide +kernel
theorem dL_law_669 : decode cL_law 669 = .ok (.iload_n 3, 1) := by decide +kernel
theorem dL_law_670 : decode cL_law 670 = .ok (.iconst 2, 1) := by decide +kernel
theorem dL_law_671 : decode cL_law 671 = .ok (.iadd, 1) := by decide +kernel
theorem dL_law_672 : decode cL_law 672 = .ok (.iaload, 1) := by decide +kernel
theorem dL_law_673 : decode cL_law 673 = .ok (.invokevirtual 97, 3) := by decide +kernel
theorem dL_law_676 : decode cL_law 676 = .ok (.aload_n 2, 1) := by decide +kernel
theorem dL_law_677 : decode cL_law 677 = .ok (.aload_n 0, 1) := by decide +kernel
theorem dL_law_678 : decode cL_law 678 = .ok (.iload_n 3, 1) := by decide +kernel
theorem dL_law_679 : decode cL_law 679 = .ok (.iconst 1, 1) := by decide +kernel
theorem dL_law_680 : decode cL_law 680 = .ok (.iadd, 1) := by decide +kernel
theorem dL_law_681 : decode cL_law 681 = .ok (.iaload, 1) := by decide +kernel
theorem dL_law_682 : decode cL_law 682 = .ok (.aload_n 0, 1) := by decide +kernel
theorem dL_law_683 : decode cL_law 683 = .ok (.iload_n 3, 1) := by decide +kernel
theorem dL_law_684 : decode cL_law 684 = .ok (.iconst 2, 1) := by decide +kernel
theorem dL_law_685 : decode cL_law 685 = .ok (.iadd, 1) := by decide +kernel
theorem dL_law_686 : decode cL_law 686 = .ok (.iaload, 1) := by decide +kernel
theorem dL_law_687 : decode cL_law 687 = .ok (.invokevirtual 100, 3) := by decide +kernel
theorem dL_law_690 : decode cL_law 690 = .ok (.if_icmp .eq 265, 3) := by decide +kernel
theorem dL_law_693 : decode cL_law 693 = .ok (.iconst 0, 1) := by decide +kernel
theorem dL_law_694 : decode cL_law 694 = .ok (.ireturn, 1) := by decide +kernel
theorem dL_law_695 : decode cL_law 695 = .ok (.aload_n 1, 1) := by decide +kernel
theorem dL_law_696 : decode cL_law 696 = .ok (.invokevirtual 101, 3) := by decide +kernel
theorem dL_law_699 : decode cL_law 699 = .ok (.aload_n 2, 1) := by decide +kernel
theorem dL_law_700 : decode cL_law 700 = .ok (.invokevirtual 104, 3) := by decide +kernel
theorem dL_law_703 : decode cL_law 703 = .ok (.if_icmp .eq 252, 3) := by decide +kernel
theorem dL_law_706 : decode cL_law 706 = .ok (.iconst 0, 1) := by decide +kernel
theorem dL_law_707 : decode cL_law 707 = .ok (.ireturn, 1) := by decide +kernel
theorem dL_law_708 : decode cL_law 708 = .ok (.aload_n 1, 1) := by decide +kernel
theorem dL_law_709 : decode cL_law 709 = .ok (.aload_n 0, 1) := by decide +kernel
theorem dL_law_710 : decode cL_law 710 = .ok (.iload_n 3, 1) := by decide +kernel
theorem dL_law_711 : decode cL_law 711 = .ok (.iconst 1, 1) := by decide +kernel
theorem dL_law_712 : decode cL_law 712 = .ok (.iadd, 1) := by decide +kernel
theorem dL_law_713 : decode cL_law 713 = .ok (.iaload, 1) := by decide +kernel
theorem dL_law_714 : decode cL_law 714 = .ok (.invokevirtual 105, 3) := by decide +kernel
theorem dL_law_717 : decode cL_law 717 = .ok (.aload_n 2, 1) := by decide +kernel
theorem dL_law_718 : decode cL_law 718 = .ok (.aload_n 0, 1) := by decide +kernel
theorem dL_law_719 : decode cL_law 719 = .ok (.iload_n 3, 1) := by decide +kernel
theorem dL_law_720 : decode cL_law 720 = .ok (.iconst 1, 1) := by decide +kernel
theorem dL_law_721 : decode cL_law 721 = .ok (.iadd, 1) := by decide +kernel
theorem dL_law_722 : decode cL_law 722 = .ok (.iaload, 1) := by decide +kernel
theorem dL_law_723 : decode cL_law 723 = .ok (.invokevirtual 108, 3) := by decide +kernel
theorem dL_law_726 : decode cL_law 726 = .ok (.if_icmp .eq 229, 3) := by decide +kernel
theorem dL_law_729 : decode cL_law 729 = .ok (.iconst 0, 1) := by decide +kernel
theorem dL_law_730 : decode cL_law 730 = .ok (.ireturn, 1) := by decide +kernel
theorem dL_law_731 : decode cL_law 731 = .ok (.aload_n 1, 1) := by decide +kernel
theorem dL_law_732 : decode cL_law 732 = .ok (.aload_n 0, 1) := by decide +kernel
theorem dL_law_733 : decode cL_law 733 = .ok (.iload_n 3, 1) := by decide +kernel
theorem dL_law_734 : decode cL_law 734 = .ok (.iconst 1, 1) := by decide +kernel
theorem dL_law_735 : decode cL_law 735 = .ok (.iadd, 1) := by decide +kernel
theorem dL_law_736 : decode cL_law 736 = .ok (.iaload, 1) := by decide +kernel
theorem dL_law_737 : decode cL_law 737 = .ok (.aload_n 0, 1) := by decide +kernel
theorem dL_law_738 : decode cL_law 738 = .ok (.iload_n 3, 1) := by decide +kernel
theorem dL_law_739 : decode cL_law 739 = .ok (.iconst 2, 1) := by decide +kernel
theorem dL_law_740 : decode cL_law 740 = .ok (.iadd, 1) := by decide +kernel
theorem dL_law_741 : decode cL_law 741 = .ok (.iaload, 1) := by decide +kernel
theorem dL_law_742 : decode cL_law 742 = .ok (.invokevirtual 109, 3) := by decide +kernel
theorem dL_law_745 : decode cL_law 745 = .ok (.aload_n 2, 1) := by decide +kernel
theorem dL_law_746 : decode cL_law 746 = .ok (.aload_n 0, 1) := by decide +kernel
theorem dL_law_747 : decode cL_law 747 = .ok (.iload_n 3, 1) := by decide +kernel
theorem dL_law_748 : decode cL_law 748 = .ok (.iconst 1, 1) := by decide +kernel
theorem dL_law_749 : decode cL_law 749 = .ok (.iadd, 1) := by decide +kernel
theorem dL_law_750 : decode cL_law 750 = .ok (.iaload, 1) := by decide +kernel
theorem dL_law_751 : decode cL_law 751 = .ok (.aload_n 0, 1) := by decide +kernel
theorem dL_law_752 : decode cL_law 752 = .ok (.iload_n 3, 1) := by decide +kernel
theorem dL_law_753 : decode cL_law 753 = .ok (.iconst 2, 1) := by decide +kernel
theorem dL_law_754 : decode cL_law 754 = .ok (.iadd, 1) := by decide +kernel
theorem dL_law_755 : decode cL_law 755 = .ok (.iaload, 1) := by decide +kernel
theorem dL_law_756 : decode cL_law 756 = .ok (.invokevirtual 112, 3) := by decide +kernel
theorem dL_law_759 : decode cL_law 759 = .ok (.if_icmp .eq 196, 3) := by decide +kernel
theorem dL_law_762 : decode cL_law 762 = .ok (.iconst 0, 1) := by decide +kernel
theorem dL_law_763 : decode cL_law 763 = .ok (.ireturn, 1) := by decide +kernel
theorem dL_law_764 : decode cL_law 764 = .ok (.aload_n 1, 1) := by decide +kernel
theorem dL_law_765 : decode cL_law 765 = .ok (.aload_n 0, 1) := by decide +kernel
theorem dL_law_766 : decode cL_law 766 = .ok (.iload_n 3, 1) := by decide +kernel
theorem dL_law_767 : decode cL_law 767 = .ok (.iconst 1, 1) := by decide +kernel
theorem dL_law_768 : decode cL_law 768 = .ok (.iadd, 1) := by decide +kernel
theorem dL_law_769 : decode cL_law 769 = .ok (.iaload, 1) := by decide +kernel
theorem dL_law_770 : decode cL_law 770 = .ok (.invokevirtual 113, 3) := by decide +kernel
theorem dL_law_773 : decode cL_law 773 = .ok (.aload_n 2, 1) := by decide +kernel
theorem dL_law_774 : decode cL_law 774 = .ok (.aload_n 0, 1) := by decide +kernel
theorem dL_law_775 : decode cL_law 775 = .ok (.iload_n 3, 1) := by decide +kernel
theorem dL_law_776 : decode cL_law 776 = .ok (.iconst 1, 1) := by decide +kernel
theorem dL_law_777 : decode cL_law 777 = .ok (.iadd, 1) := by decide +kernel
theorem dL_law_778 : decode cL_law 778 = .ok (.iaload, 1) := by decide +kernel
theorem dL_law_779 : decode cL_law 779 = .ok (.invokevirtual 116, 3) := by decide +kernel
theorem dL_law_782 : decode cL_law 782 = .ok (.if_icmp .eq 173, 3) := by decide +kernel
theorem dL_law_785 : decode cL_law 785 = .ok (.iconst 0, 1) := by decide +kernel
theorem dL_law_786 : decode cL_law 786 = .ok (.ireturn, 1) := by decide +kernel
theorem dL_law_787 : decode cL_law 787 = .ok (.aload_n 1, 1) := by decide +kernel
theorem dL_law_788 : decode cL_law 788 = .ok (.aload_n 0, 1) := by decide +kernel
theorem dL_law_789 : decode cL_law 789 = .ok (.iload_n 3, 1) := by decide +kernel
theorem dL_law_790 : decode cL_law 790 = .ok (.iconst 1, 1) := by decide +kernel
theorem dL_law_791 : decode cL_law 791 = .ok (.iadd, 1) := by decide +kernel
theorem dL_law_792 : decode cL_law 792 = .ok (.iaload, 1) := by decide +kernel
theorem dL_law_793 : decode cL_law 793 = .ok (.aload_n 0, 1) := by decide +kernel
theorem dL_law_794 : decode cL_law 794 = .ok (.iload_n 3, 1) := by decide +kernel
theorem dL_law_795 : decode cL_law 795 = .ok (.iconst 2, 1) := by decide +kernel
theorem dL_law_796 : decode cL_law 796 = .ok (.iadd, 1) := by decide +kernel
theorem dL_law_797 : decode cL_law 797 = .ok (.iaload, 1) := by decide +kernel
theorem dL_law_798 : decode cL_law 798 = .ok (.invokevirtual 117, 3) := by decide +kernel
theorem dL_law_801 : decode cL_law 801 = .ok (.aload_n 2, 1) := by decide +kernel
theorem dL_law_802 : decode cL_law 802 = .ok (.aload_n 0, 1) := by decide +kernel
theorem dL_law_803 : decode cL_law 803 = .ok (.iload_n 3, 1) := by decide +kernel
theorem dL_law_804 : decode cL_law 804 = .ok (.iconst 1, 1) := by decide +kernel
theorem dL_law_805 : decode cL_law 805 = .ok (.iadd, 1) := by decide +kernel
theorem dL_law_806 : decode cL_law 806 = .ok (.iaload, 1) := by decide +kernel
theorem dL_law_807 : decode cL_law 807 = .ok (.aload_n 0, 1) := by decide +kernel
theorem dL_law_808 : decode cL_law 808 = .ok (.iload_n 3, 1) := by decide +kernel
theorem dL_law_809 : decode cL_law 809 = .ok (.iconst 2, 1) := by decide +kernel
theorem dL_law_810 : decode cL_law 810 = .ok (.iadd, 1) := by decide +kernel
theorem dL_law_811 : decode cL_law 811 = .ok (.iaload, 1) := by decide +kernel
theorem dL_law_812 : decode cL_law 812 = .ok (.invokevirtual 120, 3) := by decide +kernel
theorem dL_law_815 : decode cL_law 815 = .ok (.if_icmp .eq 140, 3) := by decide +kernel
theorem dL_law_818 : decode cL_law 818 = .ok (.iconst 0, 1) := by decide +kernel
theorem dL_law_819 : decode cL_law 819 = .ok (.ireturn, 1) := by decide +kernel
theorem dL_law_820 : decode cL_law 820 = .ok (.aload_n 1, 1) := by decide +kernel
theorem dL_law_821 : decode cL_law 821 = .ok (.aload_n 0, 1) := by decide +kernel
theorem dL_law_822 : decode cL_law 822 = .ok (.iload_n 3, 1) := by decide +kernel
theorem dL_law_823 : decode cL_law 823 = .ok (.iconst 1, 1) := by decide +kernel
theorem dL_law_824 : decode cL_law 824 = .ok (.iadd, 1) := by decide +kernel
theorem dL_law_825 : decode cL_law 825 = .ok (.iaload, 1) := by decide +kernel
theorem dL_law_826 : decode cL_law 826 = .ok (.aload_n 0, 1) := by decide +kernel
theorem dL_law_827 : decode cL_law 827 = .ok (.iload_n 3, 1) := by decide +kernel
theorem dL_law_828 : decode cL_law 828 = .ok (.iconst 2, 1) := by decide +kernel
theorem dL_law_829 : decode cL_law 829 = .ok (.iadd, 1) := by decide +kernel
theorem dL_law_830 : decode cL_law 830 = .ok (.iaload, 1) := by decide +kernel
theorem dL_law_831 : decode cL_law 831 = .ok (.aload_n 0, 1) := by decide +kernel
theorem dL_law_832 : decode cL_law 832 = .ok (.iload_n 3, 1) := by decide +kernel
theorem dL_law_833 : decode cL_law 833 = .ok (.iconst 3, 1) := by decide +kernel
theorem dL_law_834 : decode cL_law 834 = .ok (.iadd, 1) := by decide +kernel
theorem dL_law_835 : decode cL_law 835 = .ok (.iaload, 1) := by decide +kernel
theorem dL_law_836 : decode cL_law 836 = .ok (.invokevirtual 121, 3) := by decide +kernel
theorem dL_law_839 : decode cL_law 839 = .ok (.aload_n 2, 1) := by decide +kernel
theorem dL_law_840 : decode cL_law 840 = .ok (.aload_n 0, 1) := by decide +kernel
theorem dL_law_841 : decode cL_law 841 = .ok (.iload_n 3, 1) := by decide +kernel
theorem dL_law_842 : decode cL_law 842 = .ok (.iconst 1, 1) := by decide +kernel
theorem dL_law_843 : decode cL_law 843 = .ok (.iadd, 1) := by decide +kernel
theorem dL_law_844 : decode cL_law 844 = .ok (.iaload, 1) := by decide +kernel
theorem dL_law_845 : decode cL_law 845 = .ok (.aload_n 0, 1) := by decide +kernel
theorem dL_law_846 : decode cL_law 846 = .ok (.iload_n 3, 1) := by decide +kernel
theorem dL_law_847 : decode cL_law 847 = .ok (.iconst 2, 1) := by decide +kernel
theorem dL_law_848 : decode cL_law 848 = .ok (.iadd, 1) := by decide +kernel
theorem dL_law_849 : decode cL_law 849 = .ok (.iaload, 1) := by decide +kernel
theorem dL_law_850 : decode cL_law 850 = .ok (.aload_n 0, 1) := by decide +kernel
theorem dL_law_851 : decode cL_law 851 = .ok (.iload_n 3, 1) := by decide +kernel
theorem dL_law_852 : decode cL_law 852 = .ok (.iconst 3, 1) := by decide +kernel
theorem dL_law_853 : decode cL_law 853 = .ok (.iadd, 1) := by decide +kernel
theorem dL_law_854 : decode cL_law 854 = .ok (.iaload, 1) := by decide +kernel
theorem dL_law_855 : decode cL_law 855 = .ok (.invokevirtual 125, 3) := by decide +kernel
theorem dL_law_858 : decode cL_law 858 = .ok (.if_icmp .eq 97, 3) := by decide +kernel
theorem dL_law_861 : decode cL_law 861 = .ok (.iconst 0, 1) := by decide +kernel
theorem dL_law_862 : decode cL_law 862 = .ok (.ireturn, 1) := by decide +kernel
theorem dL_law_863 : decode cL_law 863 = .ok (.aload_n 1, 1) := by decide +kernel
theorem dL_law_864 : decode cL_law 864 = .ok (.aload_n 0, 1) := by decide +kernel
theorem dL_law_865 : decode cL_law 865 = .ok (.iload_n 3, 1) := by decide +kernel
theorem dL_law_866 : decode cL_law 866 = .ok (.iconst 1, 1) := by decide +kernel
theorem dL_law_867 : decode cL_law 867 = .ok (.iadd, 1) := by decide +kernel
theorem dL_law_868 : decode cL_law 868 = .ok (.iaload, 1) := by decide +kernel
theorem dL_law_869 : decode cL_law 869 = .ok (.aload_n 0, 1) := by decide +kernel
theorem dL_law_870 : decode cL_law 870 = .ok (.iload_n 3, 1) := by decide +kernel
theorem dL_law_871 : decode cL_law 871 = .ok (.iconst 2, 1) := by decide +kernel
theorem dL_law_872 : decode cL_law 872 = .ok (.iadd, 1) := by decide +kernel
theorem dL_law_873 : decode cL_law 873 = .ok (.iaload, 1) := by decide +kernel
theorem dL_law_874 : decode cL_law 874 = .ok (.aload_n 0, 1) := by decide +kernel
theorem dL_law_875 : decode cL_law 875 = .ok (.iload_n 3, 1) := by decide +kernel
theorem dL_law_876 : decode cL_law 876 = .ok (.iconst 3, 1) := by decide +kernel
theorem dL_law_877 : decode cL_law 877 = .ok (.iadd, 1) := by decide +kernel
theorem dL_law_878 : decode cL_law 878 = .ok (.iaload, 1) := by decide +kernel
theorem dL_law_879 : decode cL_law 879 = .ok (.invokevirtual 126, 3) := by decide +kernel
theorem dL_law_882 : decode cL_law 882 = .ok (.aload_n 2, 1) := by decide +kernel
theorem dL_law_883 : decode cL_law 883 = .ok (.aload_n 0, 1) := by decide +kernel
theorem dL_law_884 : decode cL_law 884 = .ok (.iload_n 3, 1) := by decide +kernel
theorem dL_law_885 : decode cL_law 885 = .ok (.iconst 1, 1) := by decide +kernel
theorem dL_law_886 : decode cL_law 886 = .ok (.iadd, 1) := by decide +kernel
theorem dL_law_887 : decode cL_law 887 = .ok (.iaload, 1) := by decide +kernel
theorem dL_law_888 : decode cL_law 888 = .ok (.aload_n 0, 1) := by decide +kernel
theorem dL_law_889 : decode cL_law 889 = .ok (.iload_n 3, 1) := by decide +kernel
theorem dL_law_890 : decode cL_law 890 = .ok (.iconst 2, 1) := by decide +kernel
theorem dL_law_891 : decode cL_law 891 = .ok (.iadd, 1) := by decide +kernel
theorem dL_law_892 : decode cL_law 892 = .ok (.iaload, 1) := by decide +kernel
theorem dL_law_893 : decode cL_law 893 = .ok (.aload_n 0, 1) := by decide +kernel
theorem dL_law_894 : decode cL_law 894 = .ok (.iload_n 3, 1) := by decide +kernel
theorem dL_law_895 : decode cL_law 895 = .ok (.iconst 3, 1) := by decide +kernel
theorem dL_law_896 : decode cL_law 896 = .ok (.iadd, 1) := by decide +kernel
theorem dL_law_897 : decode cL_law 897 = .ok (.iaload, 1) := by decide +kernel
theorem dL_law_898 : decode cL_law 898 = .ok (.invokevirtual 129, 3) := by decide +kernel
theorem dL_law_901 : decode cL_law 901 = .ok (.if_icmp .eq 54, 3) := by decide +kernel
theorem dL_law_904 : decode cL_law 904 = .ok (.iconst 0, 1) := by decide +kernel
theorem dL_law_905 : decode cL_law 905 = .ok (.ireturn, 1) := by decide +kernel
theorem dL_law_906 : decode cL_law 906 = .ok (.aload_n 1, 1) := by decide +kernel
end
section
theorem dL_law_907 : decode cL_law 907 = .ok (.invokevirtual 130, 3) := by decide +kernel
theorem dL_law_910 : decode cL_law 910 = .ok (.aload_n 2, 1) := by decide +kernel
theorem dL_law_911 : decode cL_law 911 = .ok (.invokevirtual 133, 3) := by decide +kernel
theorem dL_law_914 : decode cL_law 914 = .ok (.if_icmp .eq 41, 3) := by decide +kernel
theorem dL_law_917 : decode cL_law 917 = .ok (.iconst 0, 1) := by decide +kernel
theorem dL_law_918 : decode cL_law 918 = .ok (.ireturn, 1) := by decide +kernel
theorem dL_law_919 : decode cL_law 919 = .ok (.aload_n 1, 1) := by decide +kernel
theorem dL_law_920 : decode cL_law 920 = .ok (.invokevirtual 134, 3) := by decide +kernel
theorem dL_law_923 : decode cL_law 923 = .ok (.aload_n 2, 1) := by decide +kernel
theorem dL_law_924 : decode cL_law 924 = .ok (.invokevirtual 137, 3) := by decide +kernel
theorem dL_law_927 : decode cL_law 927 = .ok (.if_icmp .eq 28, 3) := by decide +kernel
theorem dL_law_930 : decode cL_law 930 = .ok (.iconst 0, 1) := by decide +kernel
theorem dL_law_931 : decode cL_law 931 = .ok (.ireturn, 1) := by decide +kernel
theorem dL_law_932 : decode cL_law 932 = .ok (.aload_n 1, 1) := by decide +kernel
theorem dL_law_933 : decode cL_law 933 = .ok (.aload_n 0, 1) := by decide +kernel
theorem dL_law_934 : decode cL_law 934 = .ok (.iload_n 3, 1) := by decide +kernel
theorem dL_law_935 : decode cL_law 935 = .ok (.iconst 1, 1) := by decide +kernel
theorem dL_law_936 : decode cL_law 936 = .ok (.iadd, 1) := by decide +kernel
theorem dL_law_937 : decode cL_law 937 = .ok (.iaload, 1) := by decide +kernel
theorem dL_law_938 : decode cL_law 938 = .ok (.invokevirtual 138, 3) := by decide +kernel
theorem dL_law_941 : decode cL_law 941 = .ok (.aload_n 2, 1) := by decide +kernel
theorem dL_law_942 : decode cL_law 942 = .ok (.aload_n 0, 1) := by decide +kernel
theorem dL_law_943 : decode cL_law 943 = .ok (.iload_n 3, 1) := by decide +kernel
theorem dL_law_944 : decode cL_law 944 = .ok (.iconst 1, 1) := by decide +kernel
theorem dL_law_945 : decode cL_law 945 = .ok (.iadd, 1) := by decide +kernel
theorem dL_law_946 : decode cL_law 946 = .ok (.iaload, 1) := by decide +kernel
theorem dL_law_947 : decode cL_law 947 = .ok (.invokevirtual 141, 3) := by decide +kernel
theorem dL_law_950 : decode cL_law 950 = .ok (.if_icmp .eq 5, 3) := by decide +kernel
theorem dL_law_953 : decode cL_law 953 = .ok (.iconst 0, 1) := by decide +kernel
theorem dL_law_954 : decode cL_law 954 = .ok (.ireturn, 1) := by decide +kernel
theorem dL_law_955 : decode cL_law 955 = .ok (.iinc 3 5, 3) := by decide +kernel
theorem dL_law_958 : decode cL_law 958 = .ok (.goto (-940), 3) := by decide +kernel
theorem dL_law_961 : decode cL_law 961 = .ok (.iconst 1, 1) := by decide +kernel
theorem dL_law_962 : decode cL_law 962 = .ok (.ireturn, 1) := by decide +kernel
end
section
/-! THE LOGIC. All cells are made in the two constructors; behind them the world is fixed: pA are its addresses (single cells; rooms: which, which cell of it; irons), pM its memory (ints; rows of references). An instruction is a predicate transformer (pT); C d k M as Q: method k, called with as at M, with d frames of room, comes back with Q. -/
abbrev pA : Type := Nat ⊕ ((Fin 12 × Nat) ⊕ Fin 9)
abbrev pV : Type := Int32 ⊕ (Int64 ⊕ Option pA)
abbrev pM : Type := (pA → Nat → Int32) × (pA → Nat → Option pA)
abbrev aS (i : Nat) : pA := Sum.inl i
abbrev aR (j : Fin 12) (c : Nat) : pA := Sum.inr (Sum.inl (j, c))
abbrev aI (i : Fin 9) : pA := Sum.inr (Sum.inr i)
abbrev vI (x : Int32) : pV := Sum.inl x
abbrev vL (x : Int64) : pV := Sum.inr (Sum.inl x)
abbrev vR (a : pA) : pV := Sum.inr (Sum.inr (some a))
abbrev vN : pV := Sum.inr (Sum.inr none)
abbrev pLS : Type := List (Option pV)
abbrev pST : Type := List pV
abbrev pQ : Type := pM → Option pV → Prop
abbrev pC : Type := Nat → Nat → pM → pST → pQ → Prop
abbrev pX : Type := Nat → pLS → pST → pM → Prop
abbrev pT : Type := Bool → pC → Nat → pQ → pX → Nat → pLS → pST → pM → Prop
def p_g : List Nat → Nat → Nat
  | [], _ => 99
  | x :: _, 0 => x
  | _ :: l, n + 1 => p_g l n
/-- kinds: 0 Evening, 1 Iron, 2 Room, 3 Search, 4 Shelf, 5 Sights, 6 Text, 7 PokerEvening, 8 Model, 9 ints, 10 irons' row, 11 rooms' row, 12 the script. Singles: 0 PokerEvening, 1 Text, 2 letters, 3 numbers, 4 Evening, 5 hotOf, 6 dropOf, 7 Search, 8 stages, 9 path, 10 best, 11 Sights, 12 tellerOf, 13 dropOf, 14 past, 15 its rooms, 16 kept, 17 its rooms; 18 Model, 19 kindOf, 20 gripOf, 21 who, 22 what, 23 side, 24 weight, 25 seenWho, 26 seenAt, 27 text, 28 readKinds, 29 readGrips, 30 readSo, 31 readClaim, 32 row, 33 letsGo, 34 hotOf, 35 ahead, 36 bestRow, 37 aside, 38 kept; 39 the script -/
def p_kS : List Nat := [7, 6, 9, 9, 0, 9, 9, 3, 10, 9, 9, 5, 9, 9, 4, 11, 4, 11, 8, 9, 9, 9, 9, 9, 9, 9, 9, 9, 9, 9, 9, 9, 9, 9, 9, 9, 9, 9, 9, 12]
def p_lS : List Nat := [0, 0, 200, 4, 0, 7, 5, 0, 8, 7, 7, 0, 6, 6, 0, 8, 0, 2, 0, 5, 5, 8, 8, 8, 8, 6, 6, 200, 5, 5, 6, 28, 8, 5, 8, 280, 8, 35, 70, 0]
def p_lR : List Nat := [0, 5, 5, 7, 7, 7, 7]
def p_kd : pA → Nat
  | .inl s => p_g p_kS s
  | .inr (.inl r) => match Nat.beq r.2 0 with
    | true => 2
    | false => 9
  | .inr (.inr _) => 1
def p_ln : pA → Nat
  | .inl s => p_g p_lS s
  | .inr (.inl r) => p_g p_lR r.2
  | .inr (.inr _) => 0
/-- alive: the class's cells; the model's, once it is made -/
def p_al (b : Bool) : pA → Bool
  | .inl s => Nat.blt s 18 || (b && Nat.blt s 39)
  | .inr (.inl r) => Nat.blt r.2 7
  | .inr (.inr _) => true
def p_is (b : Bool) (a : pA) (kd : Nat) : Bool := Nat.beq (p_kd a) kd && p_al b a
def p_go : List (Option pA) → Nat → Option pA
  | [], _ => none
  | x :: _, 0 => x
  | _ :: l, n + 1 => p_go l n
/-- where the reference of a field points -/
def p_rS : Nat → List (Option pA)
  | 0 => [some (aS 1), some (aR 0 0), some (aR 1 0), some (aS 4), some (aS 7), some (aS 11), some (aS 14), some (aS 16)]
  | 1 => [some (aS 2), some (aS 3)]
  | 4 => [some (aI 0), some (aS 5), some (aS 6)]
  | 7 => [some (aS 8), some (aS 9), some (aS 10)]
  | 11 => [some (aS 12), some (aS 13)]
  | 14 => [some (aS 15)]
  | 16 => [some (aS 17)]
  | 18 => [none, none, none, none, some (aS 19), some (aS 20), some (aS 21), some (aS 22), some (aS 23), some (aS 24), none, some (aS 25), some (aS 26), some (aS 27), none, none, none, none, none, some (aS 28), some (aS 29), some (aS 30), some (aS 31), none, some (aS 32), some (aS 33), some (aS 34), none, none, some (aS 35), none, some (aS 36), some (aS 37), some (aS 38), none]
  | _ => []
def p_rf : pA → Nat → Option pA
  | .inl s, k => p_go (p_rS s) k
  | .inr (.inl r), k => match Nat.beq r.2 0 with
    | true => p_go [some (aR r.1 1), some (aR r.1 2), some (aR r.1 3), some (aR r.1 4), some (aR r.1 5), some (aR r.1 6)] k
    | false => none
  | .inr (.inr _), _ => none
def p_eq : pA → pA → Bool
  | .inl s, .inl t => Nat.beq s t
  | .inr (.inl r), .inr (.inl q) => Nat.beq r.2 q.2 && Nat.beq r.1.val q.1.val
  | .inr (.inr i), .inr (.inr j) => Nat.beq i.val j.val
  | _, _ => false
theorem p_eq_iff {a b : pA} : p_eq a b = true ↔ a = b := by
  rcases a with s | ⟨⟨j, c⟩ | i⟩ <;> rcases b with t | ⟨⟨j', c'⟩ | i'⟩ <;> simp [p_eq, Fin.ext_iff, and_comm]
theorem p_eq_rf (a : pA) : p_eq a a = true := p_eq_iff.mpr rfl
theorem p_eq_ne {a b : pA} (h : a ≠ b) : p_eq a b = false := by
  cases e : p_eq a b
  · rfl
  · exact absurd (p_eq_iff.mp e) h
-- locals
def p_lg : pLS → Nat → Option pV
  | [], _ => none
  | x :: _, 0 => x
  | _ :: l, n + 1 => p_lg l n
def p_ls : pLS → Nat → Option pV → pLS
  | [], _, _ => []
  | _ :: l, 0, v => v :: l
  | x :: l, n + 1, v => x :: p_ls l n v
def p_len : pLS → Nat
  | [] => 0
  | _ :: l => p_len l + 1
/-- a place that can be stored into: it is there, and no long stands just ahead of it -/
def p_lw (ls : pLS) : Nat → Bool
  | 0 => Nat.blt 0 (p_len ls)
  | i + 1 => Nat.blt (i + 1) (p_len ls) && (match p_lg ls i with
    | some (.inr (.inl _)) => false
    | _ => true)
def p_ini : Nat → pST → pLS
  | 0, _ => []
  | n + 1, [] => none :: p_ini n []
  | n + 1, .inr (.inl x) :: l => some (vL x) :: (match n with | 0 => [] | k + 1 => none :: p_ini k l)
  | n + 1, .inl x :: l => some (vI x) :: p_ini n l
  | n + 1, .inr (.inr x) :: l => some (.inr (.inr x)) :: p_ini n l
def p_pop : Nat → pST → pST → Option (pST × pST)
  | 0, st, as => some (as, st)
  | _ + 1, [], _ => none
  | n + 1, v :: st, as => p_pop n st (v :: as)
def p_cat : pST → Nat
  | [] => 0
  | .inr (.inl _) :: l => p_cat l + 2
  | _ :: l => p_cat l + 1
def p_psh : Option pV → pST → pST
  | none, st => st
  | some v, st => v :: st
-- memory
def p_row (M : pM) (a : pA) (r : Nat → Int32) : pM := (fun b => match p_eq b a with
  | true => r
  | false => M.1 b, M.2)
def p_wr (M : pM) (a : pA) (k : Nat) (x : Int32) : pM := p_row M a (upd (M.1 a) k x)
def p_wq (M : pM) (a : pA) (k : Nat) (x : Option pA) : pM := (M.1, fun b => match p_eq b a with
  | true => va_up (M.2 a) k x
  | false => M.2 b)
-- instructions
def o_x : pT := fun _ _ _ _ _ _ _ _ _ => False
def o_ic (v : Int32) (n : Nat) : pT := fun _ _ _ _ X pc ls st M => X (pc + n) ls (.inl v :: st) M
def o_lc (v : Int64) (n : Nat) : pT := fun _ _ _ _ X pc ls st M => X (pc + n) ls (.inr (.inl v) :: st) M
def o_nu : pT := fun _ _ _ _ X pc ls st M => X (pc + 1) ls (.inr (.inr none) :: st) M
def o_il (i n : Nat) : pT := fun _ _ _ _ X pc ls st M => match p_lg ls i with
  | some (.inl x) => X (pc + n) ls (.inl x :: st) M
  | _ => False
def o_ll (i n : Nat) : pT := fun _ _ _ _ X pc ls st M => match p_lg ls i with
  | some (.inr (.inl x)) => X (pc + n) ls (.inr (.inl x) :: st) M
  | _ => False
def o_al (i n : Nat) : pT := fun _ _ _ _ X pc ls st M => match p_lg ls i with
  | some (.inr (.inr x)) => X (pc + n) ls (.inr (.inr x) :: st) M
  | _ => False
def o_is (i n : Nat) : pT := fun _ _ _ _ X pc ls st M => match st with
  | .inl x :: st => match p_lw ls i with
    | true => X (pc + n) (p_ls ls i (some (.inl x))) st M
    | false => False
  | _ => False
def o_as (i n : Nat) : pT := fun _ _ _ _ X pc ls st M => match st with
  | .inr (.inr x) :: st => match p_lw ls i with
    | true => X (pc + n) (p_ls ls i (some (.inr (.inr x)))) st M
    | false => False
  | _ => False
def o_lst (i n : Nat) : pT := fun _ _ _ _ X pc ls st M => match st with
  | .inr (.inl x) :: st => match p_lw ls i && Nat.blt (i + 1) (p_len ls) with
    | true => X (pc + n) (p_ls (p_ls ls i (some (.inr (.inl x)))) (i + 1) none) st M
    | false => False
  | _ => False
def o_ii (i : Nat) (k : Int32) : pT := fun _ _ _ _ X pc ls st M => match p_lg ls i with
  | some (.inl x) => match p_lw ls i with
    | true => X (pc + 3) (p_ls ls i (some (.inl (x + k)))) st M
    | false => False
  | _ => False
def o_add : pT := fun _ _ _ _ X pc ls st M => match st with
  | .inl y :: .inl x :: st => X (pc + 1) ls (.inl (x + y) :: st) M
  | _ => False
def o_sub : pT := fun _ _ _ _ X pc ls st M => match st with
  | .inl y :: .inl x :: st => X (pc + 1) ls (.inl (x - y) :: st) M
  | _ => False
def o_mul : pT := fun _ _ _ _ X pc ls st M => match st with
  | .inl y :: .inl x :: st => X (pc + 1) ls (.inl (x * y) :: st) M
  | _ => False
def o_and : pT := fun _ _ _ _ X pc ls st M => match st with
  | .inl y :: .inl x :: st => X (pc + 1) ls (.inl (x &&& y) :: st) M
  | _ => False
def o_or : pT := fun _ _ _ _ X pc ls st M => match st with
  | .inl y :: .inl x :: st => X (pc + 1) ls (.inl (x ||| y) :: st) M
  | _ => False
def o_xor : pT := fun _ _ _ _ X pc ls st M => match st with
  | .inl y :: .inl x :: st => X (pc + 1) ls (.inl (x ^^^ y) :: st) M
  | _ => False
def o_shl : pT := fun _ _ _ _ X pc ls st M => match st with
  | .inl y :: .inl x :: st => X (pc + 1) ls (.inl (x <<< (y &&& 31)) :: st) M
  | _ => False
def o_shr : pT := fun _ _ _ _ X pc ls st M => match st with
  | .inl y :: .inl x :: st => X (pc + 1) ls (.inl (x >>> (y &&& 31)) :: st) M
  | _ => False
def o_ushr : pT := fun _ _ _ _ X pc ls st M => match st with
  | .inl y :: .inl x :: st => X (pc + 1) ls (.inl ((x.toUInt32 >>> (y.toUInt32 &&& Int32.toUInt32 31)).toInt32) :: st) M
  | _ => False
def o_div : pT := fun _ _ _ _ X pc ls st M => match st with
  | .inl y :: .inl x :: st => ¬ y = 0 ∧ X (pc + 1) ls (.inl (x / y) :: st) M
  | _ => False
def o_rem : pT := fun _ _ _ _ X pc ls st M => match st with
  | .inl y :: .inl x :: st => ¬ y = 0 ∧ X (pc + 1) ls (.inl (x - x / y * y) :: st) M
  | _ => False
def o_ladd : pT := fun _ _ _ _ X pc ls st M => match st with
  | .inr (.inl y) :: .inr (.inl x) :: st => X (pc + 1) ls (.inr (.inl (x + y)) :: st) M
  | _ => False
def o_lsub : pT := fun _ _ _ _ X pc ls st M => match st with
  | .inr (.inl y) :: .inr (.inl x) :: st => X (pc + 1) ls (.inr (.inl (x - y)) :: st) M
  | _ => False
def o_lmul : pT := fun _ _ _ _ X pc ls st M => match st with
  | .inr (.inl y) :: .inr (.inl x) :: st => X (pc + 1) ls (.inr (.inl (x * y)) :: st) M
  | _ => False
def o_land : pT := fun _ _ _ _ X pc ls st M => match st with
  | .inr (.inl y) :: .inr (.inl x) :: st => X (pc + 1) ls (.inr (.inl (x &&& y)) :: st) M
  | _ => False
def o_lor : pT := fun _ _ _ _ X pc ls st M => match st with
  | .inr (.inl y) :: .inr (.inl x) :: st => X (pc + 1) ls (.inr (.inl (x ||| y)) :: st) M
  | _ => False
def o_ldiv : pT := fun _ _ _ _ X pc ls st M => match st with
  | .inr (.inl y) :: .inr (.inl x) :: st => ¬ y = 0 ∧ X (pc + 1) ls (.inr (.inl (x / y)) :: st) M
  | _ => False
def o_lrem : pT := fun _ _ _ _ X pc ls st M => match st with
  | .inr (.inl y) :: .inr (.inl x) :: st => ¬ y = 0 ∧ X (pc + 1) ls (.inr (.inl (x - x / y * y)) :: st) M
  | _ => False
def o_lcmp : pT := fun _ _ _ _ X pc ls st M => match st with
  | .inr (.inl y) :: .inr (.inl x) :: st => X (pc + 1) ls (.inl (lg_cmp x y) :: st) M
  | _ => False
def o_lshl : pT := fun _ _ _ _ X pc ls st M => match st with
  | .inl y :: .inr (.inl x) :: st => X (pc + 1) ls (.inr (.inl (x <<< (y.toInt64 &&& 63))) :: st) M
  | _ => False
def o_lshr : pT := fun _ _ _ _ X pc ls st M => match st with
  | .inl y :: .inr (.inl x) :: st => X (pc + 1) ls (.inr (.inl (x >>> (y.toInt64 &&& 63))) :: st) M
  | _ => False
def o_lushr : pT := fun _ _ _ _ X pc ls st M => match st with
  | .inl y :: .inr (.inl x) :: st => X (pc + 1) ls (.inr (.inl ((x.toUInt64 >>> (y.toInt64.toUInt64 &&& Int64.toUInt64 63)).toInt64)) :: st) M
  | _ => False
def o_i2l : pT := fun _ _ _ _ X pc ls st M => match st with
  | .inl x :: st => X (pc + 1) ls (.inr (.inl x.toInt64) :: st) M
  | _ => False
def o_l2i : pT := fun _ _ _ _ X pc ls st M => match st with
  | .inr (.inl x) :: st => X (pc + 1) ls (.inl x.toInt32 :: st) M
  | _ => False
def o_dup : pT := fun _ _ _ _ X pc ls st M => match st with
  | .inl x :: st => X (pc + 1) ls (.inl x :: .inl x :: st) M
  | .inr (.inr x) :: st => X (pc + 1) ls (.inr (.inr x) :: .inr (.inr x) :: st) M
  | _ => False
def o_pop : pT := fun _ _ _ _ X pc ls st M => match st with
  | .inl _ :: st => X (pc + 1) ls st M
  | .inr (.inr _) :: st => X (pc + 1) ls st M
  | _ => False
def o_goto (t : Nat) : pT := fun _ _ _ _ X _ ls st M => X t ls st M
def o_eq0 (t : Nat) : pT := fun _ _ _ _ X pc ls st M => match st with
  | .inl x :: st => (x = 0 → X t ls st M) ∧ (¬ x = 0 → X (pc + 3) ls st M)
  | _ => False
def o_ieq (t : Nat) : pT := fun _ _ _ _ X pc ls st M => match st with
  | .inl y :: .inl x :: st => (x = y → X t ls st M) ∧ (¬ x = y → X (pc + 3) ls st M)
  | _ => False
def o_ne0 (t : Nat) : pT := fun _ _ _ _ X pc ls st M => match st with
  | .inl x :: st => (¬ x = 0 → X t ls st M) ∧ (x = 0 → X (pc + 3) ls st M)
  | _ => False
def o_ine (t : Nat) : pT := fun _ _ _ _ X pc ls st M => match st with
  | .inl y :: .inl x :: st => (¬ x = y → X t ls st M) ∧ (x = y → X (pc + 3) ls st M)
  | _ => False
def o_lt0 (t : Nat) : pT := fun _ _ _ _ X pc ls st M => match st with
  | .inl x :: st => (x < 0 → X t ls st M) ∧ (¬ x < 0 → X (pc + 3) ls st M)
  | _ => False
def o_ilt (t : Nat) : pT := fun _ _ _ _ X pc ls st M => match st with
  | .inl y :: .inl x :: st => (x < y → X t ls st M) ∧ (¬ x < y → X (pc + 3) ls st M)
  | _ => False
def o_ge0 (t : Nat) : pT := fun _ _ _ _ X pc ls st M => match st with
  | .inl x :: st => (0 ≤ x → X t ls st M) ∧ (¬ 0 ≤ x → X (pc + 3) ls st M)
  | _ => False
def o_ige (t : Nat) : pT := fun _ _ _ _ X pc ls st M => match st with
  | .inl y :: .inl x :: st => (y ≤ x → X t ls st M) ∧ (¬ y ≤ x → X (pc + 3) ls st M)
  | _ => False
def o_gt0 (t : Nat) : pT := fun _ _ _ _ X pc ls st M => match st with
  | .inl x :: st => (0 < x → X t ls st M) ∧ (¬ 0 < x → X (pc + 3) ls st M)
  | _ => False
def o_igt (t : Nat) : pT := fun _ _ _ _ X pc ls st M => match st with
  | .inl y :: .inl x :: st => (y < x → X t ls st M) ∧ (¬ y < x → X (pc + 3) ls st M)
  | _ => False
def o_le0 (t : Nat) : pT := fun _ _ _ _ X pc ls st M => match st with
  | .inl x :: st => (x ≤ 0 → X t ls st M) ∧ (¬ x ≤ 0 → X (pc + 3) ls st M)
  | _ => False
def o_ile (t : Nat) : pT := fun _ _ _ _ X pc ls st M => match st with
  | .inl y :: .inl x :: st => (x ≤ y → X t ls st M) ∧ (¬ x ≤ y → X (pc + 3) ls st M)
  | _ => False
def o_inul (t : Nat) : pT := fun _ _ _ _ X pc ls st M => match st with
  | .inr (.inr none) :: st => X t ls st M
  | .inr (.inr (some _)) :: st => X (pc + 3) ls st M
  | _ => False
def o_inn (t : Nat) : pT := fun _ _ _ _ X pc ls st M => match st with
  | .inr (.inr none) :: st => X (pc + 3) ls st M
  | .inr (.inr (some _)) :: st => X t ls st M
  | _ => False
def p_sw (Y : Nat → Prop) (x : Int32) : List (Int32 × Nat) → Nat → Prop
  | [], d => Y d
  | q :: r, d => (x = q.1 → Y q.2) ∧ (¬ x = q.1 → p_sw Y x r d)
def o_sw (l : List (Int32 × Nat)) (d : Nat) : pT := fun _ _ _ _ X _ ls st M => match st with
  | .inl x :: st => p_sw (fun t => X t ls st M) x l d
  | _ => False
-- cells
def o_gi (c k : Nat) : pT := fun b _ _ _ X pc ls st M => match st with
  | .inr (.inr (some a)) :: st => match p_is b a c with
    | true => match p_rf a k with
      | none => X (pc + 3) ls (.inl (M.1 a k) :: st) M
      | some _ => False
    | false => False
  | _ => False
def o_gr (c k : Nat) : pT := fun b _ _ _ X pc ls st M => match st with
  | .inr (.inr (some a)) :: st => match p_is b a c with
    | true => match p_rf a k with
      | some q => X (pc + 3) ls (.inr (.inr (some q)) :: st) M
      | none => False
    | false => False
  | _ => False
def o_pi (c k : Nat) : pT := fun b _ _ _ X pc ls st M => match st with
  | .inl x :: .inr (.inr (some a)) :: st => match p_is b a c with
    | true => match p_rf a k with
      | none => X (pc + 3) ls st (p_wr M a k x)
      | some _ => False
    | false => False
  | _ => False
def o_len : pT := fun b _ _ _ X pc ls st M => match st with
  | .inr (.inr (some a)) :: st => match Nat.ble 9 (p_kd a) && (Nat.ble (p_kd a) 11 && p_al b a) with
    | true => X (pc + 1) ls (.inl (Int32.ofNat (p_ln a)) :: st) M
    | false => False
  | _ => False
def o_ia : pT := fun b _ _ _ X pc ls st M => match st with
  | .inl i :: .inr (.inr (some a)) :: st => match p_is b a 9 with
    | true => vp_in i (p_ln a) ∧ X (pc + 1) ls (.inl (M.1 a i.toNatClampNeg) :: st) M
    | false => False
  | _ => False
def o_ist : pT := fun b _ _ _ X pc ls st M => match st with
  | .inl x :: .inl i :: .inr (.inr (some a)) :: st => match p_is b a 9 with
    | true => vp_in i (p_ln a) ∧ X (pc + 1) ls st (p_wr M a i.toNatClampNeg x)
    | false => False
  | _ => False
def o_aa (kd : Nat) : pT := fun b _ _ _ X pc ls st M => match st with
  | .inl i :: .inr (.inr (some a)) :: st => match p_is b a kd with
    | true => vp_in i (p_ln a) ∧ X (pc + 1) ls (.inr (.inr (M.2 a i.toNatClampNeg)) :: st) M
    | false => False
  | _ => False
def o_ast (kd ce : Nat) : pT := fun b _ _ _ X pc ls st M => match st with
  | .inr (.inr (some q)) :: .inl i :: .inr (.inr (some a)) :: st => match p_is b a kd && p_is b q ce with
    | true => vp_in i (p_ln a) ∧ X (pc + 1) ls st (p_wq M a i.toNatClampNeg (some q))
    | false => False
  | _ => False
/-- the receiver of a call: a cell of the class; of a static method (99) none -/
def p_rc (b : Bool) (c : Nat) (as : pST) : Bool := match Nat.beq c 99 with
  | true => true
  | false => match as with
    | .inr (.inr (some a)) :: _ => p_is b a c
    | _ => false
def o_call (c k n : Nat) : pT := fun b C d _ X pc ls st M => match p_pop n st [] with
  | some (as, st) => match p_rc b c as && Nat.ble (p_cat st) 8 with
    | true => ∃ d', d = d' + 1 ∧ C d' k M as (fun M v => X (pc + 3) ls (p_psh v st) M)
    | false => False
  | none => False
def o_cp : pT := fun b _ d _ X pc ls st M => match st with
  | .inl n :: .inl dp :: .inr (.inr (some a)) :: .inl sp :: .inr (.inr (some q)) :: st => match p_is b a 9 && (p_is b q 9 && Nat.ble (p_cat st) 8) with
    | true => (0 < d ∧ ¬ sp < 0 ∧ ¬ dp < 0 ∧ ¬ n < 0 ∧ sp.toNatClampNeg + n.toNatClampNeg ≤ p_ln q ∧ dp.toNatClampNeg + n.toNatClampNeg ≤ p_ln a) ∧ X (pc + 3) ls st (p_row M a (va_cpy (M.1 q) (M.1 a) sp.toNatClampNeg dp.toNatClampNeg n.toNatClampNeg))
    | false => False
  | _ => False
-- the script, of the law alone
def o_zl (L : Nat) : pT := fun _ _ _ _ X pc ls st M => match st with
  | .inr (.inr (some a)) :: st => match p_eq a (aS 39) with
    | true => X (pc + 1) ls (.inl (Int32.ofNat L) :: st) M
    | false => False
  | _ => False
def o_za (xs : Nat → Int32) (L : Nat) : pT := fun _ _ _ _ X pc ls st M => match st with
  | .inl i :: .inr (.inr (some a)) :: st => match p_eq a (aS 39) with
    | true => vp_in i L ∧ X (pc + 1) ls (.inl (xs i.toNatClampNeg) :: st) M
    | false => False
  | _ => False
-- returns
def o_vr : pT := fun _ _ _ Q _ _ _ st M => match st with
  | [] => Q M none
  | _ => False
def o_ir : pT := fun _ _ _ Q _ _ _ st M => match st with
  | [.inl x] => Q M (some (.inl x))
  | _ => False
def o_zr : pT := fun _ _ _ Q _ _ _ st M => match st with
  | [.inl x] => (x = 0 ∨ x = 1) ∧ Q M (some (.inl x))
  | _ => False
def o_lr : pT := fun _ _ _ Q _ _ _ st M => match st with
  | [.inr (.inl x)] => Q M (some (.inr (.inl x)))
  | _ => False
def o_ar : pT := fun _ _ _ Q _ _ _ st M => match st with
  | [.inr (.inr x)] => Q M (some (.inr (.inr x)))
  | _ => False
def p_nth : List pT → Nat → pT
  | [], _ => o_x
  | t :: _, 0 => t
  | _ :: l, n + 1 => p_nth l n
/-- a walk of the code tb is closed under its instructions -/
def p_Cl (b : Bool) (C : pC) (tb : List pT) (d : Nat) (Q : pQ) (Z : pX) : Prop := ∀ (pc : Nat) (ls : pLS) (st : pST) (M : pM), p_nth tb pc b C d Q Z pc ls st M → Z pc ls st M
end
section
/-! the code of each method as a list of instructions of the logic, and the methods' numbers: by program (wip/whole/gen_tabs.py) out of the printed decode rows -/
abbrev k_X0_hold : Nat := 0
abbrev k_X0_begin : Nat := 1
abbrev k_X1_cool : Nat := 2
abbrev k_X1_copyFrom : Nat := 3
abbrev k_X1_take : Nat := 4
abbrev k_X1_heating : Nat := 5
abbrev k_X2_clear : Nat := 6
abbrev k_X2_copyFrom : Nat := 7
abbrev k_X2_isTeller : Nat := 8
abbrev k_X2_isFact : Nat := 9
abbrev k_X2_isClaim : Nat := 10
abbrev k_X2_allowsClaim : Nat := 11
abbrev k_X2_worldCount : Nat := 12
abbrev k_X2_addTeller : Nat := 13
abbrev k_X2_addFact : Nat := 14
abbrev k_X2_addClaim : Nat := 15
abbrev k_X2_turnFact : Nat := 16
abbrev k_X2_moveClaim : Nat := 17
abbrev k_X2_removeClaim : Nat := 18
abbrev k_X2_isFalse : Nat := 19
abbrev k_X2_falseClaims : Nat := 20
abbrev k_X3_run : Nat := 21
abbrev k_X3_look : Nat := 22
abbrev k_X3_tellable : Nat := 23
abbrev k_X3_stageAt : Nat := 24
abbrev k_X4_clear : Nat := 25
abbrev k_X4_push : Nat := 26
abbrev k_X4_popInto : Nat := 27
abbrev k_X4_dropOldest : Nat := 28
abbrev k_X4_roomAt : Nat := 29
abbrev k_X5_clear : Nat := 30
abbrev k_X5_note : Nat := 31
abbrev k_X5_agreeWith : Nat := 32
abbrev k_X6_clear : Nat := 33
abbrev k_X6_append : Nat := 34
abbrev k_X6_readInto : Nat := 35
abbrev k_X6_readItem : Nat := 36
abbrev k_X6_readNumbers : Nat := 37
abbrev k_X6_isFigure : Nat := 38
abbrev k_X6_peek : Nat := 39
abbrev k_X6_take : Nat := 40
abbrev k_X7_write : Nat := 41
abbrev k_X7_wipe : Nat := 42
abbrev k_X7_fault : Nat := 43
abbrev k_X7_lay : Nat := 44
abbrev k_X7_teller : Nat := 45
abbrev k_X7_fact : Nat := 46
abbrev k_X7_claim : Nat := 47
abbrev k_X7_turn : Nat := 48
abbrev k_X7_add : Nat := 49
abbrev k_X7_strike : Nat := 50
abbrev k_X7_shift : Nat := 51
abbrev k_X7_grip : Nat := 52
abbrev k_X7_undo : Nat := 53
abbrev k_X7_drops : Nat := 54
abbrev k_X7_told : Nat := 55
abbrev k_X7_hot : Nat := 56
abbrev k_X7_hottest : Nat := 57
abbrev k_X7_order : Nat := 58
abbrev k_X7_leave : Nat := 59
abbrev k_X7_holds : Nat := 60
abbrev k_X7_seen : Nat := 61
abbrev k_X7_forget : Nat := 62
abbrev k_X7_worlds : Nat := 63
abbrev k_X7_next : Nat := 64
abbrev k_X7_kinds : Nat := 65
abbrev k_X7_grips : Nat := 66
abbrev k_X7_likely : Nat := 67
abbrev k_X7_evenings : Nat := 68
abbrev k_X7_keep : Nat := 69
abbrev k_X7_back : Nat := 70
abbrev k_X7_count : Nat := 71
abbrev k_X7_goneTonight : Nat := 72
abbrev k_X7_fewestLeft : Nat := 73
abbrev k_X7_letsGoWithout : Nat := 74
abbrev k_X7_goneIfHeldBy : Nat := 75
abbrev k_X7_fits : Nat := 76
abbrev k_X7_fittingWorlds : Nat := 77
abbrev k_X7_lowestWorld : Nat := 78
abbrev k_X7_isIn : Nat := 79
abbrev k_X7_sureFacts : Nat := 80
abbrev k_X7_worldsOfDrop : Nat := 81
abbrev k_X7_chanceOf : Nat := 82
abbrev k_X7_draw : Nat := 83
abbrev k_X7_stir : Nat := 84
abbrev k_X7_greatestDivisor : Nat := 85
abbrev k_X7_within : Nat := 86
abbrev k_X7_bit : Nat := 87
abbrev k_X7_at : Nat := 88
abbrev k_X7_put : Nat := 89
abbrev k_X7_copyRow : Nat := 90
abbrev k_X7_slide : Nat := 91
abbrev k_X8_in : Nat := 92
abbrev k_X8_has : Nat := 93
abbrev k_X8_bits : Nat := 94
abbrev k_X8_firstTeller : Nat := 95
abbrev k_X8_sets : Nat := 96
abbrev k_X8_copies : Nat := 97
abbrev k_X8_isTeller : Nat := 98
abbrev k_X8_isFact : Nat := 99
abbrev k_X8_isClaim : Nat := 100
abbrev k_X8_write : Nat := 101
abbrev k_X8_wipe : Nat := 102
abbrev k_X8_here : Nat := 103
abbrev k_X8_isFigure : Nat := 104
abbrev k_X8_number : Nat := 105
abbrev k_X8_readsTeller : Nat := 106
abbrev k_X8_readsFact : Nat := 107
abbrev k_X8_readsClaim : Nat := 108
abbrev k_X8_readsItem : Nat := 109
abbrev k_X8_fault : Nat := 110
abbrev k_X8_lay : Nat := 111
abbrev k_X8_isFalse : Nat := 112
abbrev k_X8_hotter : Nat := 113
abbrev k_X8_evening : Nat := 114
abbrev k_X8_without : Nat := 115
abbrev k_X8_gone : Nat := 116
abbrev k_X8_teller : Nat := 117
abbrev k_X8_fact : Nat := 118
abbrev k_X8_claim : Nat := 119
abbrev k_X8_lays : Nat := 120
abbrev k_X8_takes : Nat := 121
abbrev k_X8_notes : Nat := 122
abbrev k_X8_turn : Nat := 123
abbrev k_X8_add : Nat := 124
abbrev k_X8_strike : Nat := 125
abbrev k_X8_shifts : Nat := 126
abbrev k_X8_shift : Nat := 127
abbrev k_X8_grip : Nat := 128
abbrev k_X8_undo : Nat := 129
abbrev k_X8_drops : Nat := 130
abbrev k_X8_told : Nat := 131
abbrev k_X8_hot : Nat := 132
abbrev k_X8_hottest : Nat := 133
abbrev k_X8_nextRow : Nat := 134
abbrev k_X8_order : Nat := 135
abbrev k_X8_leave : Nat := 136
abbrev k_X8_goneBy : Nat := 137
abbrev k_X8_holds : Nat := 138
abbrev k_X8_seen : Nat := 139
abbrev k_X8_forget : Nat := 140
abbrev k_X8_isSo : Nat := 141
abbrev k_X8_worlds : Nat := 142
abbrev k_X8_next : Nat := 143
abbrev k_X8_kinds : Nat := 144
abbrev k_X8_grips : Nat := 145
abbrev k_X8_common : Nat := 146
abbrev k_X8_likely : Nat := 147
abbrev k_X8_evenings : Nat := 148
abbrev k_X8_keep : Nat := 149
abbrev k_X8_back : Nat := 150
abbrev k_X8_falseMany : Nat := 151
abbrev k_X8_count : Nat := 152
abbrev k_J6_bitCount : Nat := 153
abbrev k_J13_bitCount : Nat := 154
abbrev k_J9_max : Nat := 155
abbrev k_J9_min : Nat := 156
/-- PokerEvening$Evening.hold(LPokerEvening$Room;)V -/
def tb_X0_hold : List pT := [o_al 0 1, o_call 0 k_X0_begin 1, o_x, o_x, o_ic 0 1, o_is 2 1, o_il 2 1, o_al 1 1, o_gi 2 8, o_x, o_x, o_ige 89, o_x, o_x, o_al 0 1, o_gr 0 0, o_x, o_x, o_gi 1 3, o_x, o_x, o_is 3 1, o_al 0 1, o_gr 0 0, o_x, o_x, o_al 1 1, o_il 2 1, o_call 1 k_X1_take 3, o_x, o_x, o_is 4 2, o_x, o_al 0 1, o_gr 0 1, o_x, o_x, o_il 2 1, o_il 4 2, o_x, o_call 99 k_X7_put 3, o_x, o_x, o_al 0 1, o_al 0 1, o_gi 0 3, o_x, o_x, o_il 4 2, o_x, o_call 99 k_J9_max 2, o_x, o_x, o_pi 0 3, o_x, o_x, o_al 0 1, o_gr 0 0, o_x, o_x, o_gi 1 3, o_x, o_x, o_il 3 1, o_ieq 83, o_x, o_x, o_al 0 1, o_gr 0 2, o_x, o_x, o_al 1 1, o_gr 2 2, o_x, o_x, o_il 2 1, o_call 99 k_X7_at 2, o_x, o_x, o_il 2 1, o_call 99 k_X7_put 3, o_x, o_x, o_ii 2 1, o_x, o_x, o_goto 6, o_x, o_x, o_vr]
/-- PokerEvening$Evening.begin()V -/
def tb_X0_begin : List pT := [o_al 0 1, o_gr 0 0, o_x, o_x, o_call 1 k_X1_cool 1, o_x, o_x, o_al 0 1, o_ic 0 1, o_pi 0 3, o_x, o_x, o_ic 0 1, o_is 1 1, o_il 1 1, o_ic 5 1, o_ige 35, o_x, o_x, o_al 0 1, o_gr 0 2, o_x, o_x, o_il 1 1, o_ic 7 2, o_x, o_call 99 k_X7_put 3, o_x, o_x, o_ii 1 1, o_x, o_x, o_goto 14, o_x, o_x, o_vr]
/-- PokerEvening$Iron.cool()V -/
def tb_X1_cool : List pT := [o_al 0 1, o_ic 0 1, o_pi 1 0, o_x, o_x, o_al 0 1, o_ic (-1) 1, o_pi 1 1, o_x, o_x, o_al 0 1, o_ic 0 1, o_pi 1 2, o_x, o_x, o_al 0 1, o_ic 0 1, o_pi 1 3, o_x, o_x, o_vr]
/-- PokerEvening$Iron.copyFrom(LPokerEvening$Iron;)V -/
def tb_X1_copyFrom : List pT := [o_al 0 1, o_al 1 1, o_gi 1 0, o_x, o_x, o_pi 1 0, o_x, o_x, o_al 0 1, o_al 1 1, o_gi 1 1, o_x, o_x, o_pi 1 1, o_x, o_x, o_al 0 1, o_al 1 1, o_gi 1 2, o_x, o_x, o_pi 1 2, o_x, o_x, o_al 0 1, o_al 1 1, o_gi 1 3, o_x, o_x, o_pi 1 3, o_x, o_x, o_vr]
/-- PokerEvening$Iron.take(LPokerEvening$Room;I)I -/
def tb_X1_take : List pT := [o_al 1 1, o_gr 2 2, o_x, o_x, o_il 2 1, o_call 99 k_X7_at 2, o_x, o_x, o_is 3 1, o_al 0 1, o_gi 1 3, o_x, o_x, o_il 3 1, o_call 99 k_X7_bit 2, o_x, o_x, o_ic 1 1, o_ine 24, o_x, o_x, o_ic (-4) 2, o_x, o_ir, o_al 0 1, o_gi 1 1, o_x, o_x, o_il 3 1, o_ieq 42, o_x, o_x, o_al 0 1, o_dup, o_gi 1 0, o_x, o_x, o_ic 2 1, o_div, o_pi 1 0, o_x, o_x, o_al 0 1, o_dup, o_gi 1 0, o_x, o_x, o_al 1 1, o_gr 2 0, o_x, o_x, o_il 3 1, o_call 99 k_X7_at 2, o_x, o_x, o_al 1 1, o_il 2 1, o_call 2 k_X2_isFalse 2, o_x, o_x, o_al 1 1, o_gr 2 5, o_x, o_x, o_il 2 1, o_call 99 k_X7_at 2, o_x, o_x, o_call 99 k_X1_heating 3, o_x, o_x, o_add, o_pi 1 0, o_x, o_x, o_al 0 1, o_il 3 1, o_pi 1 1, o_x, o_x, o_al 0 1, o_dup, o_gi 1 2, o_x, o_x, o_ic 1 1, o_il 2 1, o_shl, o_or, o_pi 1 2, o_x, o_x, o_al 0 1, o_gi 1 0, o_x, o_x, o_is 4 2, o_x, o_il 4 2, o_x, o_al 1 1, o_gr 2 1, o_x, o_x, o_il 3 1, o_call 99 k_X7_at 2, o_x, o_x, o_ile 128, o_x, o_x, o_al 0 1, o_dup, o_gi 1 3, o_x, o_x, o_ic 1 1, o_il 3 1, o_shl, o_or, o_pi 1 3, o_x, o_x, o_al 0 1, o_ic 0 1, o_pi 1 0, o_x, o_x, o_il 4 2, o_x, o_ir]
/-- PokerEvening$Iron.heating(IZI)I -/
def tb_X1_heating : List pT := [o_il 1 1, o_eq0 8, o_x, o_x, o_il 2 1, o_goto 9, o_x, o_x, o_ic 1 1, o_is 3 1, o_il 0 1, o_sw [(1, 36), (2, 40), (3, 52)] 56, o_x, o_x, o_x, o_x, o_x, o_x, o_x, o_x, o_x, o_x, o_x, o_x, o_x, o_x, o_x, o_x, o_x, o_x, o_x, o_x, o_x, o_x, o_x, o_x, o_il 3 1, o_ic 2 1, o_div, o_ir, o_il 1 1, o_eq0 50, o_x, o_x, o_ic 2 1, o_il 3 1, o_mul, o_goto 51, o_x, o_x, o_il 3 1, o_ir, o_il 3 1, o_ic 1 1, o_add, o_ir, o_il 3 1, o_ir]
/-- PokerEvening$Room.clear()V -/
def tb_X2_clear : List pT := [o_al 0 1, o_ic 0 1, o_pi 2 6, o_x, o_x, o_al 0 1, o_ic 0 1, o_pi 2 7, o_x, o_x, o_al 0 1, o_ic 0 1, o_pi 2 8, o_x, o_x, o_al 0 1, o_ic 0 1, o_pi 2 9, o_x, o_x, o_vr]
/-- PokerEvening$Room.copyFrom(LPokerEvening$Room;)V -/
def tb_X2_copyFrom : List pT := [o_al 1 1, o_gr 2 0, o_x, o_x, o_al 0 1, o_gr 2 0, o_x, o_x, o_call 99 k_X7_copyRow 2, o_x, o_x, o_al 1 1, o_gr 2 1, o_x, o_x, o_al 0 1, o_gr 2 1, o_x, o_x, o_call 99 k_X7_copyRow 2, o_x, o_x, o_al 1 1, o_gr 2 2, o_x, o_x, o_al 0 1, o_gr 2 2, o_x, o_x, o_call 99 k_X7_copyRow 2, o_x, o_x, o_al 1 1, o_gr 2 3, o_x, o_x, o_al 0 1, o_gr 2 3, o_x, o_x, o_call 99 k_X7_copyRow 2, o_x, o_x, o_al 1 1, o_gr 2 4, o_x, o_x, o_al 0 1, o_gr 2 4, o_x, o_x, o_call 99 k_X7_copyRow 2, o_x, o_x, o_al 1 1, o_gr 2 5, o_x, o_x, o_al 0 1, o_gr 2 5, o_x, o_x, o_call 99 k_X7_copyRow 2, o_x, o_x, o_al 0 1, o_al 1 1, o_gi 2 6, o_x, o_x, o_pi 2 6, o_x, o_x, o_al 0 1, o_al 1 1, o_gi 2 7, o_x, o_x, o_pi 2 7, o_x, o_x, o_al 0 1, o_al 1 1, o_gi 2 8, o_x, o_x, o_pi 2 8, o_x, o_x, o_al 0 1, o_al 1 1, o_gi 2 9, o_x, o_x, o_pi 2 9, o_x, o_x, o_vr]
/-- PokerEvening$Room.isTeller(I)Z -/
def tb_X2_isTeller : List pT := [o_il 1 1, o_lt0 16, o_x, o_x, o_il 1 1, o_al 0 1, o_gi 2 6, o_x, o_x, o_ige 16, o_x, o_x, o_ic 1 1, o_goto 17, o_x, o_x, o_ic 0 1, o_zr]
/-- PokerEvening$Room.isFact(I)Z -/
def tb_X2_isFact : List pT := [o_il 1 1, o_lt0 16, o_x, o_x, o_il 1 1, o_al 0 1, o_gi 2 7, o_x, o_x, o_ige 16, o_x, o_x, o_ic 1 1, o_goto 17, o_x, o_x, o_ic 0 1, o_zr]
/-- PokerEvening$Room.isClaim(I)Z -/
def tb_X2_isClaim : List pT := [o_il 1 1, o_lt0 16, o_x, o_x, o_il 1 1, o_al 0 1, o_gi 2 8, o_x, o_x, o_ige 16, o_x, o_x, o_ic 1 1, o_goto 17, o_x, o_x, o_ic 0 1, o_zr]
/-- PokerEvening$Room.allowsClaim(IIII)Z -/
def tb_X2_allowsClaim : List pT := [o_al 0 1, o_il 1 1, o_call 2 k_X2_isTeller 2, o_x, o_x, o_eq0 40, o_x, o_x, o_al 0 1, o_il 2 1, o_call 2 k_X2_isFact 2, o_x, o_x, o_eq0 40, o_x, o_x, o_il 3 1, o_ic 0 1, o_ic 1 1, o_call 99 k_X7_within 3, o_x, o_x, o_eq0 40, o_x, o_x, o_il 4 2, o_x, o_ic 1 1, o_ic 20 2, o_x, o_call 99 k_X7_within 3, o_x, o_x, o_eq0 40, o_x, o_x, o_ic 1 1, o_goto 41, o_x, o_x, o_ic 0 1, o_zr]
/-- PokerEvening$Room.worldCount()I -/
def tb_X2_worldCount : List pT := [o_ic 1 1, o_al 0 1, o_gi 2 7, o_x, o_x, o_shl, o_ir]
/-- PokerEvening$Room.addTeller(II)Z -/
def tb_X2_addTeller : List pT := [o_al 0 1, o_gi 2 6, o_x, o_x, o_ic 5 1, o_ige 27, o_x, o_x, o_il 1 1, o_ic 0 1, o_ic 3 1, o_call 99 k_X7_within 3, o_x, o_x, o_eq0 27, o_x, o_x, o_il 2 1, o_ic 1 1, o_ic 40 2, o_x, o_call 99 k_X7_within 3, o_x, o_x, o_ne0 29, o_x, o_x, o_ic 0 1, o_zr, o_al 0 1, o_gr 2 0, o_x, o_x, o_al 0 1, o_gi 2 6, o_x, o_x, o_il 1 1, o_call 99 k_X7_put 3, o_x, o_x, o_al 0 1, o_gr 2 1, o_x, o_x, o_al 0 1, o_gi 2 6, o_x, o_x, o_il 2 1, o_call 99 k_X7_put 3, o_x, o_x, o_al 0 1, o_dup, o_gi 2 6, o_x, o_x, o_ic 1 1, o_add, o_pi 2 6, o_x, o_x, o_ic 1 1, o_zr]
/-- PokerEvening$Room.addFact(I)Z -/
def tb_X2_addFact : List pT := [o_al 0 1, o_gi 2 7, o_x, o_x, o_ic 6 2, o_x, o_ige 18, o_x, o_x, o_il 1 1, o_ic 0 1, o_ic 1 1, o_call 99 k_X7_within 3, o_x, o_x, o_ne0 20, o_x, o_x, o_ic 0 1, o_zr, o_al 0 1, o_dup, o_gi 2 9, o_x, o_x, o_il 1 1, o_al 0 1, o_gi 2 7, o_x, o_x, o_shl, o_or, o_pi 2 9, o_x, o_x, o_al 0 1, o_dup, o_gi 2 7, o_x, o_x, o_ic 1 1, o_add, o_pi 2 7, o_x, o_x, o_ic 1 1, o_zr]
/-- PokerEvening$Room.addClaim(IIII)Z -/
def tb_X2_addClaim : List pT := [o_al 0 1, o_gi 2 8, o_x, o_x, o_ic 7 2, o_x, o_ige 21, o_x, o_x, o_al 0 1, o_il 1 1, o_il 2 1, o_il 3 1, o_il 4 2, o_x, o_call 2 k_X2_allowsClaim 5, o_x, o_x, o_ne0 23, o_x, o_x, o_ic 0 1, o_zr, o_al 0 1, o_gr 2 2, o_x, o_x, o_al 0 1, o_gi 2 8, o_x, o_x, o_il 1 1, o_call 99 k_X7_put 3, o_x, o_x, o_al 0 1, o_gr 2 3, o_x, o_x, o_al 0 1, o_gi 2 8, o_x, o_x, o_il 2 1, o_call 99 k_X7_put 3, o_x, o_x, o_al 0 1, o_gr 2 4, o_x, o_x, o_al 0 1, o_gi 2 8, o_x, o_x, o_il 3 1, o_call 99 k_X7_put 3, o_x, o_x, o_al 0 1, o_gr 2 5, o_x, o_x, o_al 0 1, o_gi 2 8, o_x, o_x, o_il 4 2, o_x, o_call 99 k_X7_put 3, o_x, o_x, o_al 0 1, o_dup, o_gi 2 8, o_x, o_x, o_ic 1 1, o_add, o_pi 2 8, o_x, o_x, o_ic 1 1, o_zr]
/-- PokerEvening$Room.turnFact(I)V -/
def tb_X2_turnFact : List pT := [o_al 0 1, o_dup, o_gi 2 9, o_x, o_x, o_ic 1 1, o_il 1 1, o_shl, o_xor, o_pi 2 9, o_x, o_x, o_vr]
/-- PokerEvening$Room.moveClaim(II)V -/
def tb_X2_moveClaim : List pT := [o_al 0 1, o_gr 2 2, o_x, o_x, o_il 1 1, o_il 2 1, o_call 99 k_X7_slide 3, o_x, o_x, o_al 0 1, o_gr 2 3, o_x, o_x, o_il 1 1, o_il 2 1, o_call 99 k_X7_slide 3, o_x, o_x, o_al 0 1, o_gr 2 4, o_x, o_x, o_il 1 1, o_il 2 1, o_call 99 k_X7_slide 3, o_x, o_x, o_al 0 1, o_gr 2 5, o_x, o_x, o_il 1 1, o_il 2 1, o_call 99 k_X7_slide 3, o_x, o_x, o_vr]
/-- PokerEvening$Room.removeClaim(I)V -/
def tb_X2_removeClaim : List pT := [o_al 0 1, o_il 1 1, o_al 0 1, o_gi 2 8, o_x, o_x, o_ic 1 1, o_sub, o_call 2 k_X2_moveClaim 3, o_x, o_x, o_al 0 1, o_dup, o_gi 2 8, o_x, o_x, o_ic 1 1, o_sub, o_pi 2 8, o_x, o_x, o_vr]
/-- PokerEvening$Room.isFalse(I)Z -/
def tb_X2_isFalse : List pT := [o_al 0 1, o_gi 2 9, o_x, o_x, o_al 0 1, o_gr 2 3, o_x, o_x, o_il 1 1, o_call 99 k_X7_at 2, o_x, o_x, o_call 99 k_X7_bit 2, o_x, o_x, o_al 0 1, o_gr 2 4, o_x, o_x, o_il 1 1, o_call 99 k_X7_at 2, o_x, o_x, o_ieq 30, o_x, o_x, o_ic 1 1, o_goto 31, o_x, o_x, o_ic 0 1, o_zr]
/-- PokerEvening$Room.falseClaims()I -/
def tb_X2_falseClaims : List pT := [o_ic 0 1, o_is 1 1, o_ic 0 1, o_is 2 1, o_il 2 1, o_al 0 1, o_gi 2 8, o_x, o_x, o_ige 29, o_x, o_x, o_al 0 1, o_il 2 1, o_call 2 k_X2_isFalse 2, o_x, o_x, o_eq0 23, o_x, o_x, o_ii 1 1, o_x, o_x, o_ii 2 1, o_x, o_x, o_goto 4, o_x, o_x, o_il 1 1, o_ir]
/-- PokerEvening$Search.run(LPokerEvening$Room;)V -/
def tb_X3_run : List pT := [o_al 0 1, o_ic (-1) 1, o_pi 3 3, o_x, o_x, o_al 0 1, o_ic 0 1, o_call 3 k_X3_stageAt 2, o_x, o_x, o_as 2 1, o_al 2 1, o_inul 26, o_x, o_x, o_al 2 1, o_call 1 k_X1_cool 1, o_x, o_x, o_al 0 1, o_al 1 1, o_ic 0 1, o_ic 0 1, o_call 3 k_X3_look 4, o_x, o_x, o_vr]
/-- PokerEvening$Search.look(LPokerEvening$Room;II)V -/
def tb_X3_look : List pT := [o_al 0 1, o_il 2 1, o_call 3 k_X3_stageAt 2, o_x, o_x, o_as 4 2, o_x, o_al 4 2, o_x, o_inul 38, o_x, o_x, o_al 4 2, o_x, o_gi 1 2, o_x, o_x, o_call 99 k_J6_bitCount 1, o_x, o_x, o_al 1 1, o_il 3 1, o_al 4 2, o_x, o_gi 1 3, o_x, o_x, o_call 99 k_X3_tellable 3, o_x, o_x, o_add, o_al 0 1, o_gi 3 3, o_x, o_x, o_igt 39, o_x, o_x, o_vr, o_il 2 1, o_al 1 1, o_gi 2 8, o_x, o_x, o_ine 71, o_x, o_x, o_al 0 1, o_al 4 2, o_x, o_gi 1 2, o_x, o_x, o_call 99 k_J6_bitCount 1, o_x, o_x, o_pi 3 3, o_x, o_x, o_al 0 1, o_gr 3 1, o_x, o_x, o_al 0 1, o_gr 3 2, o_x, o_x, o_call 99 k_X7_copyRow 2, o_x, o_x, o_vr, o_al 0 1, o_il 2 1, o_ic 1 1, o_add, o_call 3 k_X3_stageAt 2, o_x, o_x, o_as 5 2, o_x, o_ic 0 1, o_is 6 2, o_x, o_al 5 2, o_x, o_inul 152, o_x, o_x, o_il 6 2, o_x, o_al 1 1, o_gi 2 8, o_x, o_x, o_ige 152, o_x, o_x, o_il 3 1, o_il 6 2, o_x, o_call 99 k_X7_bit 2, o_x, o_x, o_ne0 146, o_x, o_x, o_al 0 1, o_gr 3 1, o_x, o_x, o_il 2 1, o_il 6 2, o_x, o_call 99 k_X7_put 3, o_x, o_x, o_al 5 2, o_x, o_al 4 2, o_x, o_call 1 k_X1_copyFrom 2, o_x, o_x, o_al 5 2, o_x, o_al 1 1, o_il 6 2, o_x, o_call 1 k_X1_take 3, o_x, o_x, o_pop, o_al 0 1, o_al 1 1, o_il 2 1, o_ic 1 1, o_add, o_il 3 1, o_ic 1 1, o_il 6 2, o_x, o_shl, o_or, o_call 3 k_X3_look 4, o_x, o_x, o_ii 6 1, o_x, o_x, o_goto 83, o_x, o_x, o_vr]
/-- PokerEvening$Search.tellable(LPokerEvening$Room;II)I -/
def tb_X3_tellable : List pT := [o_ic 0 1, o_is 3 1, o_ic 0 1, o_is 4 2, o_x, o_il 4 2, o_x, o_al 0 1, o_gi 2 8, o_x, o_x, o_ige 48, o_x, o_x, o_il 1 1, o_il 4 2, o_x, o_call 99 k_X7_bit 2, o_x, o_x, o_ne0 42, o_x, o_x, o_il 2 1, o_al 0 1, o_gr 2 2, o_x, o_x, o_il 4 2, o_x, o_call 99 k_X7_at 2, o_x, o_x, o_call 99 k_X7_bit 2, o_x, o_x, o_ne0 42, o_x, o_x, o_ii 3 1, o_x, o_x, o_ii 4 1, o_x, o_x, o_goto 5, o_x, o_x, o_il 3 1, o_ir]
/-- PokerEvening$Search.stageAt(I)LPokerEvening$Iron; -/
def tb_X3_stageAt : List pT := [o_il 1 1, o_lt0 22, o_x, o_x, o_il 1 1, o_al 0 1, o_gr 3 0, o_x, o_x, o_len, o_ige 22, o_x, o_x, o_al 0 1, o_gr 3 0, o_x, o_x, o_il 1 1, o_aa 10, o_goto 23, o_x, o_x, o_nu, o_ar]
/-- PokerEvening$Shelf.clear()V -/
def tb_X4_clear : List pT := [o_al 0 1, o_ic 0 1, o_pi 4 1, o_x, o_x, o_vr]
/-- PokerEvening$Shelf.push(LPokerEvening$Room;)V -/
def tb_X4_push : List pT := [o_al 0 1, o_gi 4 1, o_x, o_x, o_al 0 1, o_gr 4 0, o_x, o_x, o_len, o_ilt 16, o_x, o_x, o_al 0 1, o_call 4 k_X4_dropOldest 1, o_x, o_x, o_al 0 1, o_al 0 1, o_gi 4 1, o_x, o_x, o_call 4 k_X4_roomAt 2, o_x, o_x, o_as 2 1, o_al 2 1, o_inul 44, o_x, o_x, o_al 2 1, o_al 1 1, o_call 2 k_X2_copyFrom 2, o_x, o_x, o_al 0 1, o_dup, o_gi 4 1, o_x, o_x, o_ic 1 1, o_add, o_pi 4 1, o_x, o_x, o_vr]
/-- PokerEvening$Shelf.popInto(LPokerEvening$Room;)Z -/
def tb_X4_popInto : List pT := [o_al 0 1, o_al 0 1, o_gi 4 1, o_x, o_x, o_ic 1 1, o_sub, o_call 4 k_X4_roomAt 2, o_x, o_x, o_as 2 1, o_al 2 1, o_inn 17, o_x, o_x, o_ic 0 1, o_zr, o_al 1 1, o_al 2 1, o_call 2 k_X2_copyFrom 2, o_x, o_x, o_al 0 1, o_dup, o_gi 4 1, o_x, o_x, o_ic 1 1, o_sub, o_pi 4 1, o_x, o_x, o_ic 1 1, o_zr]
/-- PokerEvening$Shelf.dropOldest()V -/
def tb_X4_dropOldest : List pT := [o_al 0 1, o_ic 0 1, o_call 4 k_X4_roomAt 2, o_x, o_x, o_as 1 1, o_ic 1 1, o_is 2 1, o_il 2 1, o_al 0 1, o_gr 4 0, o_x, o_x, o_len, o_ige 37, o_x, o_x, o_al 0 1, o_gr 4 0, o_x, o_x, o_il 2 1, o_ic 1 1, o_sub, o_al 0 1, o_gr 4 0, o_x, o_x, o_il 2 1, o_aa 11, o_ast 11 2, o_ii 2 1, o_x, o_x, o_goto 8, o_x, o_x, o_al 0 1, o_gr 4 0, o_x, o_x, o_len, o_le0 58, o_x, o_x, o_al 0 1, o_gr 4 0, o_x, o_x, o_al 0 1, o_gr 4 0, o_x, o_x, o_len, o_ic 1 1, o_sub, o_al 1 1, o_ast 11 2, o_al 0 1, o_dup, o_gi 4 1, o_x, o_x, o_ic 1 1, o_sub, o_pi 4 1, o_x, o_x, o_vr]
/-- PokerEvening$Shelf.roomAt(I)LPokerEvening$Room; -/
def tb_X4_roomAt : List pT := [o_il 1 1, o_lt0 22, o_x, o_x, o_il 1 1, o_al 0 1, o_gr 4 0, o_x, o_x, o_len, o_ige 22, o_x, o_x, o_al 0 1, o_gr 4 0, o_x, o_x, o_il 1 1, o_aa 11, o_goto 23, o_x, o_x, o_nu, o_ar]
/-- PokerEvening$Sights.clear()V -/
def tb_X5_clear : List pT := [o_al 0 1, o_ic 0 1, o_pi 5 2, o_x, o_x, o_vr]
/-- PokerEvening$Sights.note(II)Z -/
def tb_X5_note : List pT := [o_al 0 1, o_gi 5 2, o_x, o_x, o_ic 6 2, o_x, o_ilt 11, o_x, o_x, o_ic 0 1, o_zr, o_al 0 1, o_gr 5 0, o_x, o_x, o_al 0 1, o_gi 5 2, o_x, o_x, o_il 1 1, o_call 99 k_X7_put 3, o_x, o_x, o_al 0 1, o_gr 5 1, o_x, o_x, o_al 0 1, o_gi 5 2, o_x, o_x, o_il 2 1, o_call 99 k_X7_put 3, o_x, o_x, o_al 0 1, o_dup, o_gi 5 2, o_x, o_x, o_ic 1 1, o_add, o_pi 5 2, o_x, o_x, o_ic 1 1, o_zr]
/-- PokerEvening$Sights.agreeWith(LPokerEvening$Evening;)Z -/
def tb_X5_agreeWith : List pT := [o_ic 0 1, o_is 2 1, o_il 2 1, o_al 0 1, o_gi 5 2, o_x, o_x, o_ige 44, o_x, o_x, o_al 1 1, o_gr 0 2, o_x, o_x, o_al 0 1, o_gr 5 0, o_x, o_x, o_il 2 1, o_call 99 k_X7_at 2, o_x, o_x, o_call 99 k_X7_at 2, o_x, o_x, o_al 0 1, o_gr 5 1, o_x, o_x, o_il 2 1, o_call 99 k_X7_at 2, o_x, o_x, o_ieq 38, o_x, o_x, o_ic 0 1, o_zr, o_ii 2 1, o_x, o_x, o_goto 2, o_x, o_x, o_ic 1 1, o_zr]
/-- PokerEvening$Text.clear()V -/
def tb_X6_clear : List pT := [o_al 0 1, o_ic 0 1, o_pi 6 2, o_x, o_x, o_vr]
/-- PokerEvening$Text.append(I)Z -/
def tb_X6_append : List pT := [o_al 0 1, o_gi 6 2, o_x, o_x, o_ic 200 3, o_x, o_x, o_ilt 12, o_x, o_x, o_ic 0 1, o_zr, o_al 0 1, o_gr 6 0, o_x, o_x, o_al 0 1, o_gi 6 2, o_x, o_x, o_il 1 1, o_call 99 k_X7_put 3, o_x, o_x, o_al 0 1, o_dup, o_gi 6 2, o_x, o_x, o_ic 1 1, o_add, o_pi 6 2, o_x, o_x, o_ic 1 1, o_zr]
/-- PokerEvening$Text.readInto(LPokerEvening$Room;)I -/
def tb_X6_readInto : List pT := [o_al 1 1, o_call 2 k_X2_clear 1, o_x, o_x, o_al 0 1, o_ic 0 1, o_pi 6 3, o_x, o_x, o_ic 0 1, o_is 2 1, o_il 2 1, o_ic 200 3, o_x, o_x, o_ige 50, o_x, o_x, o_al 0 1, o_gi 6 3, o_x, o_x, o_al 0 1, o_gi 6 2, o_x, o_x, o_ige 50, o_x, o_x, o_al 0 1, o_gi 6 3, o_x, o_x, o_is 3 1, o_al 0 1, o_al 1 1, o_call 6 k_X6_readItem 2, o_x, o_x, o_ne0 44, o_x, o_x, o_il 3 1, o_ir, o_ii 2 1, o_x, o_x, o_goto 11, o_x, o_x, o_ic (-4) 2, o_x, o_ir]
/-- PokerEvening$Text.readItem(LPokerEvening$Room;)Z -/
def tb_X6_readItem : List pT := [o_al 0 1, o_call 6 k_X6_take 1, o_x, o_x, o_sw [(99, 106), (102, 77), (116, 40)] 159, o_x, o_x, o_x, o_x, o_x, o_x, o_x, o_x, o_x, o_x, o_x, o_x, o_x, o_x, o_x, o_x, o_x, o_x, o_x, o_x, o_x, o_x, o_x, o_x, o_x, o_x, o_x, o_x, o_x, o_x, o_x, o_x, o_x, o_x, o_x, o_al 0 1, o_ic 2 1, o_call 6 k_X6_readNumbers 2, o_x, o_x, o_eq0 75, o_x, o_x, o_al 1 1, o_al 0 1, o_gr 6 1, o_x, o_x, o_ic 0 1, o_call 99 k_X7_at 2, o_x, o_x, o_al 0 1, o_gr 6 1, o_x, o_x, o_ic 1 1, o_call 99 k_X7_at 2, o_x, o_x, o_call 2 k_X2_addTeller 3, o_x, o_x, o_eq0 75, o_x, o_x, o_ic 1 1, o_goto 76, o_x, o_x, o_ic 0 1, o_zr, o_al 0 1, o_ic 1 1, o_call 6 k_X6_readNumbers 2, o_x, o_x, o_eq0 104, o_x, o_x, o_al 1 1, o_al 0 1, o_gr 6 1, o_x, o_x, o_ic 0 1, o_call 99 k_X7_at 2, o_x, o_x, o_call 2 k_X2_addFact 2, o_x, o_x, o_eq0 104, o_x, o_x, o_ic 1 1, o_goto 105, o_x, o_x, o_ic 0 1, o_zr, o_al 0 1, o_ic 4 1, o_call 6 k_X6_readNumbers 2, o_x, o_x, o_eq0 157, o_x, o_x, o_al 1 1, o_al 0 1, o_gr 6 1, o_x, o_x, o_ic 0 1, o_call 99 k_X7_at 2, o_x, o_x, o_al 0 1, o_gr 6 1, o_x, o_x, o_ic 1 1, o_call 99 k_X7_at 2, o_x, o_x, o_al 0 1, o_gr 6 1, o_x, o_x, o_ic 2 1, o_call 99 k_X7_at 2, o_x, o_x, o_al 0 1, o_gr 6 1, o_x, o_x, o_ic 3 1, o_call 99 k_X7_at 2, o_x, o_x, o_call 2 k_X2_addClaim 5, o_x, o_x, o_eq0 157, o_x, o_x, o_ic 1 1, o_goto 158, o_x, o_x, o_ic 0 1, o_zr, o_ic 0 1, o_zr]
/-- PokerEvening$Text.readNumbers(I)Z -/
def tb_X6_readNumbers : List pT := [o_ic 0 1, o_is 2 1, o_il 2 1, o_il 1 1, o_ige 88, o_x, o_x, o_al 0 1, o_call 6 k_X6_peek 1, o_x, o_x, o_call 99 k_X6_isFigure 1, o_x, o_x, o_ne0 19, o_x, o_x, o_ic 0 1, o_zr, o_al 0 1, o_call 6 k_X6_take 1, o_x, o_x, o_ic 48 2, o_x, o_sub, o_is 3 1, o_al 0 1, o_call 6 k_X6_peek 1, o_x, o_x, o_call 99 k_X6_isFigure 1, o_x, o_x, o_eq0 50, o_x, o_x, o_ic 10 2, o_x, o_il 3 1, o_mul, o_al 0 1, o_call 6 k_X6_take 1, o_x, o_x, o_add, o_ic 48 2, o_x, o_sub, o_is 3 1, o_al 0 1, o_gr 6 1, o_x, o_x, o_il 2 1, o_il 3 1, o_call 99 k_X7_put 3, o_x, o_x, o_al 0 1, o_call 6 k_X6_take 1, o_x, o_x, o_il 2 1, o_ic 1 1, o_add, o_il 1 1, o_ige 75, o_x, o_x, o_ic 44 2, o_x, o_goto 77, o_x, o_x, o_ic 59 2, o_x, o_ieq 82, o_x, o_x, o_ic 0 1, o_zr, o_ii 2 1, o_x, o_x, o_goto 2, o_x, o_x, o_ic 1 1, o_zr]
/-- PokerEvening$Text.isFigure(I)Z -/
def tb_X6_isFigure : List pT := [o_il 0 1, o_ic 48 2, o_x, o_ilt 16, o_x, o_x, o_il 0 1, o_ic 57 2, o_x, o_igt 16, o_x, o_x, o_ic 1 1, o_goto 17, o_x, o_x, o_ic 0 1, o_zr]
/-- PokerEvening$Text.peek()I -/
def tb_X6_peek : List pT := [o_al 0 1, o_gi 6 3, o_x, o_x, o_al 0 1, o_gi 6 2, o_x, o_x, o_ige 25, o_x, o_x, o_al 0 1, o_gr 6 0, o_x, o_x, o_al 0 1, o_gi 6 3, o_x, o_x, o_call 99 k_X7_at 2, o_x, o_x, o_goto 26, o_x, o_x, o_ic 0 1, o_ir]
/-- PokerEvening$Text.take()I -/
def tb_X6_take : List pT := [o_al 0 1, o_call 6 k_X6_peek 1, o_x, o_x, o_is 1 1, o_al 0 1, o_dup, o_gi 6 3, o_x, o_x, o_ic 1 1, o_add, o_pi 6 3, o_x, o_x, o_il 1 1, o_ir]
/-- PokerEvening.write(I)I -/
def tb_X7_write : List pT := [o_il 1 1, o_ic 32 2, o_x, o_ic 126 2, o_x, o_call 99 k_X7_within 3, o_x, o_x, o_ne0 13, o_x, o_x, o_ic (-1) 1, o_ir, o_al 0 1, o_gr 7 0, o_x, o_x, o_il 1 1, o_call 6 k_X6_append 2, o_x, o_x, o_eq0 34, o_x, o_x, o_al 0 1, o_gr 7 0, o_x, o_x, o_gi 6 2, o_x, o_x, o_goto 36, o_x, o_x, o_ic (-3) 2, o_x, o_ir]
/-- PokerEvening.wipe()I -/
def tb_X7_wipe : List pT := [o_al 0 1, o_gr 7 0, o_x, o_x, o_gi 6 2, o_x, o_x, o_is 1 1, o_al 0 1, o_gr 7 0, o_x, o_x, o_call 6 k_X6_clear 1, o_x, o_x, o_il 1 1, o_ir]
/-- PokerEvening.fault()I -/
def tb_X7_fault : List pT := [o_al 0 1, o_gr 7 0, o_x, o_x, o_al 0 1, o_gr 7 2, o_x, o_x, o_call 6 k_X6_readInto 2, o_x, o_x, o_ir]
/-- PokerEvening.lay()I -/
def tb_X7_lay : List pT := [o_al 0 1, o_gr 7 0, o_x, o_x, o_al 0 1, o_gr 7 2, o_x, o_x, o_call 6 k_X6_readInto 2, o_x, o_x, o_ic (-4) 2, o_x, o_ine 36, o_x, o_x, o_al 0 1, o_gr 7 2, o_x, o_x, o_gi 2 6, o_x, o_x, o_eq0 36, o_x, o_x, o_al 0 1, o_gr 7 2, o_x, o_x, o_gi 2 7, o_x, o_x, o_ne0 39, o_x, o_x, o_ic (-2) 2, o_x, o_ir, o_al 0 1, o_gr 7 1, o_x, o_x, o_al 0 1, o_gr 7 2, o_x, o_x, o_call 2 k_X2_copyFrom 2, o_x, o_x, o_al 0 1, o_gr 7 5, o_x, o_x, o_call 5 k_X5_clear 1, o_x, o_x, o_al 0 1, o_gr 7 6, o_x, o_x, o_call 4 k_X4_clear 1, o_x, o_x, o_al 0 1, o_gr 7 7, o_x, o_x, o_call 4 k_X4_clear 1, o_x, o_x, o_al 0 1, o_gr 7 1, o_x, o_x, o_gi 2 6, o_x, o_x, o_ir]
/-- PokerEvening.teller(II)I -/
def tb_X7_teller : List pT := [o_al 0 1, o_gr 7 1, o_x, o_x, o_il 1 1, o_call 2 k_X2_isTeller 2, o_x, o_x, o_ne0 13, o_x, o_x, o_ic (-1) 1, o_ir, o_il 2 1, o_sw [(0, 40), (1, 52)] 64, o_x, o_x, o_x, o_x, o_x, o_x, o_x, o_x, o_x, o_x, o_x, o_x, o_x, o_x, o_x, o_x, o_x, o_x, o_x, o_x, o_x, o_x, o_x, o_x, o_x, o_al 0 1, o_gr 7 1, o_x, o_x, o_gr 2 0, o_x, o_x, o_il 1 1, o_call 99 k_X7_at 2, o_x, o_x, o_ir, o_al 0 1, o_gr 7 1, o_x, o_x, o_gr 2 1, o_x, o_x, o_il 1 1, o_call 99 k_X7_at 2, o_x, o_x, o_ir, o_ic (-1) 1, o_ir]
/-- PokerEvening.fact(I)I -/
def tb_X7_fact : List pT := [o_al 0 1, o_gr 7 1, o_x, o_x, o_il 1 1, o_call 2 k_X2_isFact 2, o_x, o_x, o_eq0 25, o_x, o_x, o_al 0 1, o_gr 7 1, o_x, o_x, o_gi 2 9, o_x, o_x, o_il 1 1, o_call 99 k_X7_bit 2, o_x, o_x, o_goto 26, o_x, o_x, o_ic (-1) 1, o_ir]
/-- PokerEvening.claim(II)I -/
def tb_X7_claim : List pT := [o_al 0 1, o_gr 7 1, o_x, o_x, o_il 1 1, o_call 2 k_X2_isClaim 2, o_x, o_x, o_ne0 13, o_x, o_x, o_ic (-1) 1, o_ir, o_il 2 1, o_sw [(0, 48), (1, 60), (2, 72), (3, 84), (4, 96)] 113, o_x, o_x, o_x, o_x, o_x, o_x, o_x, o_x, o_x, o_x, o_x, o_x, o_x, o_x, o_x, o_x, o_x, o_x, o_x, o_x, o_x, o_x, o_x, o_x, o_x, o_x, o_x, o_x, o_x, o_x, o_x, o_x, o_x, o_al 0 1, o_gr 7 1, o_x, o_x, o_gr 2 2, o_x, o_x, o_il 1 1, o_call 99 k_X7_at 2, o_x, o_x, o_ir, o_al 0 1, o_gr 7 1, o_x, o_x, o_gr 2 3, o_x, o_x, o_il 1 1, o_call 99 k_X7_at 2, o_x, o_x, o_ir, o_al 0 1, o_gr 7 1, o_x, o_x, o_gr 2 4, o_x, o_x, o_il 1 1, o_call 99 k_X7_at 2, o_x, o_x, o_ir, o_al 0 1, o_gr 7 1, o_x, o_x, o_gr 2 5, o_x, o_x, o_il 1 1, o_call 99 k_X7_at 2, o_x, o_x, o_ir, o_al 0 1, o_gr 7 1, o_x, o_x, o_il 1 1, o_call 2 k_X2_isFalse 2, o_x, o_x, o_eq0 111, o_x, o_x, o_ic 1 1, o_goto 112, o_x, o_x, o_ic 0 1, o_ir, o_ic (-1) 1, o_ir]
/-- PokerEvening.turn(I)I -/
def tb_X7_turn : List pT := [o_al 0 1, o_gr 7 1, o_x, o_x, o_il 1 1, o_call 2 k_X2_isFact 2, o_x, o_x, o_ne0 13, o_x, o_x, o_ic (-1) 1, o_ir, o_al 0 1, o_gr 7 6, o_x, o_x, o_al 0 1, o_gr 7 1, o_x, o_x, o_call 4 k_X4_push 2, o_x, o_x, o_al 0 1, o_gr 7 1, o_x, o_x, o_il 1 1, o_call 2 k_X2_turnFact 2, o_x, o_x, o_al 0 1, o_gr 7 1, o_x, o_x, o_gi 2 9, o_x, o_x, o_il 1 1, o_call 99 k_X7_bit 2, o_x, o_x, o_ir]
/-- PokerEvening.add(IIII)I -/
def tb_X7_add : List pT := [o_al 0 1, o_gr 7 1, o_x, o_x, o_il 1 1, o_il 2 1, o_il 3 1, o_il 4 2, o_x, o_call 2 k_X2_allowsClaim 5, o_x, o_x, o_ne0 17, o_x, o_x, o_ic (-1) 1, o_ir, o_al 0 1, o_gr 7 1, o_x, o_x, o_gi 2 8, o_x, o_x, o_ic 7 2, o_x, o_ilt 32, o_x, o_x, o_ic (-3) 2, o_x, o_ir, o_al 0 1, o_gr 7 6, o_x, o_x, o_al 0 1, o_gr 7 1, o_x, o_x, o_call 4 k_X4_push 2, o_x, o_x, o_al 0 1, o_gr 7 1, o_x, o_x, o_il 1 1, o_il 2 1, o_il 3 1, o_il 4 2, o_x, o_call 2 k_X2_addClaim 5, o_x, o_x, o_pop, o_al 0 1, o_gr 7 1, o_x, o_x, o_gi 2 8, o_x, o_x, o_ic 1 1, o_sub, o_ir]
/-- PokerEvening.strike(I)I -/
def tb_X7_strike : List pT := [o_al 0 1, o_gr 7 1, o_x, o_x, o_il 1 1, o_call 2 k_X2_isClaim 2, o_x, o_x, o_ne0 13, o_x, o_x, o_ic (-1) 1, o_ir, o_al 0 1, o_gr 7 6, o_x, o_x, o_al 0 1, o_gr 7 1, o_x, o_x, o_call 4 k_X4_push 2, o_x, o_x, o_al 0 1, o_gr 7 1, o_x, o_x, o_il 1 1, o_call 2 k_X2_removeClaim 2, o_x, o_x, o_al 0 1, o_gr 7 1, o_x, o_x, o_gi 2 8, o_x, o_x, o_ir]
/-- PokerEvening.shift(II)I -/
def tb_X7_shift : List pT := [o_al 0 1, o_gr 7 1, o_x, o_x, o_il 1 1, o_call 2 k_X2_isClaim 2, o_x, o_x, o_eq0 22, o_x, o_x, o_al 0 1, o_gr 7 1, o_x, o_x, o_il 2 1, o_call 2 k_X2_isClaim 2, o_x, o_x, o_ne0 24, o_x, o_x, o_ic (-1) 1, o_ir, o_il 1 1, o_il 2 1, o_ine 32, o_x, o_x, o_ic (-2) 2, o_x, o_ir, o_al 0 1, o_gr 7 6, o_x, o_x, o_al 0 1, o_gr 7 1, o_x, o_x, o_call 4 k_X4_push 2, o_x, o_x, o_al 0 1, o_gr 7 1, o_x, o_x, o_il 1 1, o_il 2 1, o_call 2 k_X2_moveClaim 3, o_x, o_x, o_il 1 1, o_il 2 1, o_sub, o_ic 10 2, o_x, o_add, o_ir]
/-- PokerEvening.grip(II)I -/
def tb_X7_grip : List pT := [o_al 0 1, o_gr 7 1, o_x, o_x, o_il 1 1, o_call 2 k_X2_isTeller 2, o_x, o_x, o_eq0 21, o_x, o_x, o_il 2 1, o_ic 1 1, o_ic 40 2, o_x, o_call 99 k_X7_within 3, o_x, o_x, o_ne0 23, o_x, o_x, o_ic (-1) 1, o_ir, o_al 0 1, o_gr 7 1, o_x, o_x, o_gr 2 1, o_x, o_x, o_il 1 1, o_call 99 k_X7_at 2, o_x, o_x, o_is 3 1, o_il 3 1, o_il 2 1, o_ine 43, o_x, o_x, o_ic (-2) 2, o_x, o_ir, o_al 0 1, o_gr 7 6, o_x, o_x, o_al 0 1, o_gr 7 1, o_x, o_x, o_call 4 k_X4_push 2, o_x, o_x, o_al 0 1, o_gr 7 1, o_x, o_x, o_gr 2 1, o_x, o_x, o_il 1 1, o_il 2 1, o_call 99 k_X7_put 3, o_x, o_x, o_il 3 1, o_ir]
/-- PokerEvening.undo()I -/
def tb_X7_undo : List pT := [o_al 0 1, o_gr 7 6, o_x, o_x, o_al 0 1, o_gr 7 1, o_x, o_x, o_call 4 k_X4_popInto 2, o_x, o_x, o_eq0 24, o_x, o_x, o_al 0 1, o_gr 7 6, o_x, o_x, o_gi 4 1, o_x, o_x, o_goto 26, o_x, o_x, o_ic (-2) 2, o_x, o_ir]
/-- PokerEvening.drops(I)I -/
def tb_X7_drops : List pT := [o_al 0 1, o_gr 7 1, o_x, o_x, o_il 1 1, o_call 2 k_X2_isTeller 2, o_x, o_x, o_ne0 13, o_x, o_x, o_ic (-1) 1, o_ir, o_al 0 1, o_gr 7 3, o_x, o_x, o_al 0 1, o_gr 7 1, o_x, o_x, o_call 0 k_X0_hold 2, o_x, o_x, o_al 0 1, o_gr 7 3, o_x, o_x, o_gr 0 2, o_x, o_x, o_il 1 1, o_call 99 k_X7_at 2, o_x, o_x, o_is 2 1, o_il 2 1, o_ic 7 2, o_x, o_ine 47, o_x, o_x, o_ic (-4) 2, o_x, o_goto 48, o_x, o_x, o_il 2 1, o_ir]
/-- PokerEvening.told()I -/
def tb_X7_told : List pT := [o_al 0 1, o_gr 7 3, o_x, o_x, o_al 0 1, o_gr 7 1, o_x, o_x, o_call 0 k_X0_hold 2, o_x, o_x, o_al 0 1, o_gr 7 3, o_x, o_x, o_gr 0 0, o_x, o_x, o_gi 1 2, o_x, o_x, o_ir]
/-- PokerEvening.hot(I)I -/
def tb_X7_hot : List pT := [o_al 0 1, o_gr 7 1, o_x, o_x, o_il 1 1, o_call 2 k_X2_isClaim 2, o_x, o_x, o_ne0 13, o_x, o_x, o_ic (-1) 1, o_ir, o_al 0 1, o_gr 7 3, o_x, o_x, o_al 0 1, o_gr 7 1, o_x, o_x, o_call 0 k_X0_hold 2, o_x, o_x, o_al 0 1, o_gr 7 3, o_x, o_x, o_gr 0 1, o_x, o_x, o_il 1 1, o_call 99 k_X7_at 2, o_x, o_x, o_ir]
/-- PokerEvening.hottest()I -/
def tb_X7_hottest : List pT := [o_al 0 1, o_gr 7 3, o_x, o_x, o_al 0 1, o_gr 7 1, o_x, o_x, o_call 0 k_X0_hold 2, o_x, o_x, o_al 0 1, o_gr 7 3, o_x, o_x, o_gi 0 3, o_x, o_x, o_ir]
/-- PokerEvening.order(I)I -/
def tb_X7_order : List pT := [o_il 1 1, o_ic (-1) 1, o_ieq 18, o_x, o_x, o_al 0 1, o_gr 7 1, o_x, o_x, o_il 1 1, o_call 2 k_X2_isClaim 2, o_x, o_x, o_ne0 18, o_x, o_x, o_ic (-1) 1, o_ir, o_al 0 1, o_gr 7 4, o_x, o_x, o_al 0 1, o_gr 7 1, o_x, o_x, o_call 3 k_X3_run 2, o_x, o_x, o_il 1 1, o_ic (-1) 1, o_ine 44, o_x, o_x, o_al 0 1, o_gr 7 4, o_x, o_x, o_gi 3 3, o_x, o_x, o_goto 55, o_x, o_x, o_al 0 1, o_gr 7 4, o_x, o_x, o_gr 3 2, o_x, o_x, o_il 1 1, o_call 99 k_X7_at 2, o_x, o_x, o_ir]
/-- PokerEvening.leave(II)I -/
def tb_X7_leave : List pT := [o_al 0 1, o_gr 7 1, o_x, o_x, o_il 1 1, o_call 2 k_X2_isTeller 2, o_x, o_x, o_eq0 20, o_x, o_x, o_il 2 1, o_ic 0 1, o_ic 1 1, o_call 99 k_X7_within 3, o_x, o_x, o_ne0 22, o_x, o_x, o_ic (-1) 1, o_ir, o_al 0 1, o_il 1 1, o_call 7 k_X7_fewestLeft 2, o_x, o_x, o_is 3 1, o_il 2 1, o_ne0 39, o_x, o_x, o_il 3 1, o_call 99 k_J6_bitCount 1, o_x, o_x, o_goto 40, o_x, o_x, o_il 3 1, o_ir]
/-- PokerEvening.holds(II)I -/
def tb_X7_holds : List pT := [o_al 0 1, o_gr 7 1, o_x, o_x, o_il 1 1, o_call 2 k_X2_isTeller 2, o_x, o_x, o_eq0 20, o_x, o_x, o_il 2 1, o_ic 0 1, o_ic 1 1, o_call 99 k_X7_within 3, o_x, o_x, o_ne0 22, o_x, o_x, o_ic (-1) 1, o_ir, o_ic 0 1, o_is 3 1, o_ic 6 2, o_x, o_is 4 2, o_x, o_ic 0 1, o_is 5 2, o_x, o_il 5 2, o_x, o_al 0 1, o_gr 7 1, o_x, o_x, o_gi 2 6, o_x, o_x, o_ige 72, o_x, o_x, o_al 0 1, o_il 1 1, o_il 5 2, o_x, o_call 7 k_X7_goneIfHeldBy 3, o_x, o_x, o_is 6 2, o_x, o_il 6 2, o_x, o_il 4 2, o_x, o_ige 66, o_x, o_x, o_il 5 2, o_x, o_is 3 1, o_il 6 2, o_x, o_is 4 2, o_x, o_ii 5 1, o_x, o_x, o_goto 31, o_x, o_x, o_il 2 1, o_ne0 80, o_x, o_x, o_il 3 1, o_goto 82, o_x, o_x, o_il 4 2, o_x, o_ir]
/-- PokerEvening.seen(II)I -/
def tb_X7_seen : List pT := [o_al 0 1, o_gr 7 1, o_x, o_x, o_il 1 1, o_call 2 k_X2_isTeller 2, o_x, o_x, o_eq0 21, o_x, o_x, o_il 2 1, o_ic 0 1, o_ic 7 2, o_x, o_call 99 k_X7_within 3, o_x, o_x, o_ne0 23, o_x, o_x, o_ic (-1) 1, o_ir, o_al 0 1, o_gr 7 5, o_x, o_x, o_il 1 1, o_il 2 1, o_call 5 k_X5_note 3, o_x, o_x, o_eq0 45, o_x, o_x, o_al 0 1, o_gr 7 5, o_x, o_x, o_gi 5 2, o_x, o_x, o_goto 47, o_x, o_x, o_ic (-3) 2, o_x, o_ir]
/-- PokerEvening.forget()I -/
def tb_X7_forget : List pT := [o_al 0 1, o_gr 7 5, o_x, o_x, o_gi 5 2, o_x, o_x, o_is 1 1, o_al 0 1, o_gr 7 5, o_x, o_x, o_call 5 k_X5_clear 1, o_x, o_x, o_il 1 1, o_ir]
/-- PokerEvening.worlds(I)I -/
def tb_X7_worlds : List pT := [o_il 1 1, o_ic 0 1, o_ic 3 1, o_call 99 k_X7_within 3, o_x, o_x, o_ne0 11, o_x, o_x, o_ic (-1) 1, o_ir, o_al 0 1, o_call 7 k_X7_fittingWorlds 1, o_x, o_x, o_lst 2 1, o_il 1 1, o_ne0 25, o_x, o_x, o_ll 2 1, o_call 99 k_J13_bitCount 1, o_x, o_x, o_ir, o_ll 2 1, o_lc 0 1, o_lcmp, o_ne0 34, o_x, o_x, o_ic (-4) 2, o_x, o_ir, o_il 1 1, o_sw [(1, 60), (2, 66)] 73, o_x, o_x, o_x, o_x, o_x, o_x, o_x, o_x, o_x, o_x, o_x, o_x, o_x, o_x, o_x, o_x, o_x, o_x, o_x, o_x, o_x, o_x, o_x, o_x, o_al 0 1, o_ll 2 1, o_call 7 k_X7_lowestWorld 2, o_x, o_x, o_ir, o_al 0 1, o_ll 2 1, o_ic 0 1, o_call 7 k_X7_sureFacts 3, o_x, o_x, o_ir, o_al 0 1, o_ll 2 1, o_al 0 1, o_gr 7 1, o_x, o_x, o_call 2 k_X2_worldCount 1, o_x, o_x, o_ic 1 1, o_sub, o_call 7 k_X7_sureFacts 3, o_x, o_x, o_ir]
/-- PokerEvening.next(II)I -/
def tb_X7_next : List pT := [o_al 0 1, o_gr 7 1, o_x, o_x, o_il 1 1, o_call 2 k_X2_isTeller 2, o_x, o_x, o_eq0 21, o_x, o_x, o_il 2 1, o_ic 1 1, o_ic 20 2, o_x, o_call 99 k_X7_within 3, o_x, o_x, o_ne0 23, o_x, o_x, o_ic (-1) 1, o_ir, o_al 0 1, o_call 7 k_X7_fittingWorlds 1, o_x, o_x, o_lst 3 1, o_al 0 1, o_gr 7 1, o_x, o_x, o_gi 2 8, o_x, o_x, o_ic 7 2, o_x, o_ige 46, o_x, o_x, o_ll 3 1, o_lc 0 1, o_lcmp, o_ne0 49, o_x, o_x, o_ic (-4) 2, o_x, o_ir, o_ic (-4) 2, o_x, o_is 5 2, o_x, o_al 0 1, o_gr 7 1, o_x, o_x, o_call 2 k_X2_worldCount 1, o_x, o_x, o_ic 1 1, o_add, o_is 6 2, o_x, o_ic 0 1, o_is 7 2, o_x, o_il 7 2, o_x, o_al 0 1, o_gr 7 1, o_x, o_x, o_gi 2 7, o_x, o_x, o_ige 125, o_x, o_x, o_al 0 1, o_ll 3 1, o_il 1 1, o_il 7 2, o_x, o_il 2 1, o_call 7 k_X7_worldsOfDrop 5, o_x, o_x, o_is 8 2, o_x, o_il 8 2, o_x, o_ll 3 1, o_call 99 k_J13_bitCount 1, o_x, o_x, o_il 8 2, o_x, o_sub, o_call 99 k_J9_max 2, o_x, o_x, o_is 9 2, o_x, o_il 9 2, o_x, o_il 6 2, o_x, o_ige 119, o_x, o_x, o_il 7 2, o_x, o_is 5 2, o_x, o_il 9 2, o_x, o_is 6 2, o_x, o_ii 7 1, o_x, o_x, o_goto 67, o_x, o_x, o_il 5 2, o_x, o_ir]
/-- PokerEvening.kinds(I)I -/
def tb_X7_kinds : List pT := [o_al 0 1, o_gr 7 1, o_x, o_x, o_il 1 1, o_call 2 k_X2_isTeller 2, o_x, o_x, o_ne0 13, o_x, o_x, o_ic (-1) 1, o_ir, o_al 0 1, o_gr 7 2, o_x, o_x, o_al 0 1, o_gr 7 1, o_x, o_x, o_call 2 k_X2_copyFrom 2, o_x, o_x, o_ic 0 1, o_is 2 1, o_ic 0 1, o_is 3 1, o_il 3 1, o_ic 3 1, o_igt 68, o_x, o_x, o_al 0 1, o_gr 7 2, o_x, o_x, o_gr 2 0, o_x, o_x, o_il 1 1, o_il 3 1, o_call 99 k_X7_put 3, o_x, o_x, o_al 0 1, o_al 0 1, o_gr 7 2, o_x, o_x, o_call 7 k_X7_fits 2, o_x, o_x, o_eq0 62, o_x, o_x, o_il 2 1, o_ic 1 1, o_il 3 1, o_shl, o_or, o_is 2 1, o_ii 3 1, o_x, o_x, o_goto 28, o_x, o_x, o_il 2 1, o_ir]
/-- PokerEvening.grips(II)I -/
def tb_X7_grips : List pT := [o_al 0 1, o_gr 7 1, o_x, o_x, o_il 1 1, o_call 2 k_X2_isTeller 2, o_x, o_x, o_eq0 20, o_x, o_x, o_il 2 1, o_ic 0 1, o_ic 1 1, o_call 99 k_X7_within 3, o_x, o_x, o_ne0 22, o_x, o_x, o_ic (-1) 1, o_ir, o_al 0 1, o_gr 7 2, o_x, o_x, o_al 0 1, o_gr 7 1, o_x, o_x, o_call 2 k_X2_copyFrom 2, o_x, o_x, o_ic 0 1, o_is 3 1, o_ic (-4) 2, o_x, o_is 4 2, o_x, o_ic 40 2, o_x, o_is 5 2, o_x, o_il 5 2, o_x, o_ic 1 1, o_ilt 86, o_x, o_x, o_al 0 1, o_gr 7 2, o_x, o_x, o_gr 2 1, o_x, o_x, o_il 1 1, o_il 5 2, o_x, o_call 99 k_X7_put 3, o_x, o_x, o_al 0 1, o_al 0 1, o_gr 7 2, o_x, o_x, o_call 7 k_X7_fits 2, o_x, o_x, o_eq0 80, o_x, o_x, o_ii 3 1, o_x, o_x, o_il 5 2, o_x, o_is 4 2, o_x, o_ii 5 (-1), o_x, o_x, o_goto 43, o_x, o_x, o_il 2 1, o_ne0 94, o_x, o_x, o_il 3 1, o_goto 96, o_x, o_x, o_il 4 2, o_x, o_ir]
/-- PokerEvening.likely(III)I -/
def tb_X7_likely : List pT := [o_al 0 1, o_gr 7 1, o_x, o_x, o_il 1 1, o_call 2 k_X2_isTeller 2, o_x, o_x, o_eq0 30, o_x, o_x, o_il 2 1, o_ic 0 1, o_ic 10 2, o_x, o_call 99 k_X7_within 3, o_x, o_x, o_eq0 30, o_x, o_x, o_il 3 1, o_ic 0 1, o_ic 1 1, o_call 99 k_X7_within 3, o_x, o_x, o_ne0 32, o_x, o_x, o_ic (-1) 1, o_ir, o_ic 0 1, o_is 4 2, o_x, o_ic 0 1, o_is 5 2, o_x, o_al 0 1, o_gr 7 2, o_x, o_x, o_al 0 1, o_gr 7 1, o_x, o_x, o_call 2 k_X2_copyFrom 2, o_x, o_x, o_ic 0 1, o_is 6 2, o_x, o_il 6 2, o_x, o_al 0 1, o_gr 7 1, o_x, o_x, o_call 2 k_X2_worldCount 1, o_x, o_x, o_ige 131, o_x, o_x, o_al 0 1, o_il 6 2, o_x, o_il 2 1, o_call 7 k_X7_chanceOf 3, o_x, o_x, o_is 7 2, o_x, o_il 5 2, o_x, o_il 7 2, o_x, o_add, o_is 5 2, o_x, o_al 0 1, o_gr 7 2, o_x, o_x, o_il 6 2, o_x, o_pi 2 9, o_x, o_x, o_al 0 1, o_gr 7 3, o_x, o_x, o_al 0 1, o_gr 7 2, o_x, o_x, o_call 0 k_X0_hold 2, o_x, o_x, o_al 0 1, o_gr 7 3, o_x, o_x, o_gr 0 0, o_x, o_x, o_gi 1 3, o_x, o_x, o_il 1 1, o_call 99 k_X7_bit 2, o_x, o_x, o_ic 1 1, o_ine 125, o_x, o_x, o_il 4 2, o_x, o_il 7 2, o_x, o_add, o_is 4 2, o_x, o_ii 6 1, o_x, o_x, o_goto 52, o_x, o_x, o_il 4 2, o_x, o_il 5 2, o_x, o_call 99 k_X7_greatestDivisor 2, o_x, o_x, o_is 6 2, o_x, o_il 6 2, o_x, o_ne0 147, o_x, o_x, o_ic (-1) 1, o_ir, o_il 3 1, o_ne0 159, o_x, o_x, o_il 4 2, o_x, o_il 6 2, o_x, o_div, o_goto 164, o_x, o_x, o_il 5 2, o_x, o_il 6 2, o_x, o_div, o_ir]
/-- PokerEvening.evenings(III)I -/
def tb_X7_evenings : List pT := [o_il 1 1, o_ic 0 1, o_ic 9999 3, o_x, o_x, o_call 99 k_X7_within 3, o_x, o_x, o_eq0 30, o_x, o_x, o_il 2 1, o_ic 1 1, o_ic 60 2, o_x, o_call 99 k_X7_within 3, o_x, o_x, o_eq0 30, o_x, o_x, o_il 3 1, o_ic 0 1, o_ic 2 1, o_call 99 k_X7_within 3, o_x, o_x, o_ne0 32, o_x, o_x, o_ic (-1) 1, o_ir, o_ic 0 1, o_is 4 2, o_x, o_ic 0 1, o_is 5 2, o_x, o_ic 0 1, o_is 6 2, o_x, o_al 0 1, o_gr 7 2, o_x, o_x, o_al 0 1, o_gr 7 1, o_x, o_x, o_call 2 k_X2_copyFrom 2, o_x, o_x, o_ic 0 1, o_is 7 2, o_x, o_il 7 2, o_x, o_il 2 1, o_ige 141, o_x, o_x, o_al 0 1, o_gr 7 2, o_x, o_x, o_il 1 1, o_il 7 2, o_x, o_call 99 k_X7_draw 2, o_x, o_x, o_call 99 k_X7_stir 2, o_x, o_x, o_al 0 1, o_gr 7 3, o_x, o_x, o_al 0 1, o_gr 7 2, o_x, o_x, o_call 0 k_X0_hold 2, o_x, o_x, o_il 4 2, o_x, o_al 0 1, o_gr 7 3, o_x, o_x, o_gr 0 0, o_x, o_x, o_gi 1 3, o_x, o_x, o_call 99 k_J6_bitCount 1, o_x, o_x, o_add, o_is 4 2, o_x, o_il 5 2, o_x, o_al 0 1, o_gr 7 3, o_x, o_x, o_gr 0 0, o_x, o_x, o_gi 1 2, o_x, o_x, o_call 99 k_J6_bitCount 1, o_x, o_x, o_add, o_is 5 2, o_x, o_il 6 2, o_x, o_al 0 1, o_gr 7 3, o_x, o_x, o_gi 0 3, o_x, o_x, o_call 99 k_J9_max 2, o_x, o_x, o_is 6 2, o_x, o_ii 7 1, o_x, o_x, o_goto 55, o_x, o_x, o_il 3 1, o_sw [(0, 168), (1, 171)] 174, o_x, o_x, o_x, o_x, o_x, o_x, o_x, o_x, o_x, o_x, o_x, o_x, o_x, o_x, o_x, o_x, o_x, o_x, o_x, o_x, o_x, o_x, o_x, o_x, o_x, o_il 4 2, o_x, o_ir, o_il 5 2, o_x, o_ir, o_il 6 2, o_x, o_ir]
/-- PokerEvening.keep()I -/
def tb_X7_keep : List pT := [o_al 0 1, o_gr 7 7, o_x, o_x, o_gi 4 1, o_x, o_x, o_ic 2 1, o_ilt 14, o_x, o_x, o_ic (-3) 2, o_x, o_ir, o_al 0 1, o_gr 7 7, o_x, o_x, o_al 0 1, o_gr 7 1, o_x, o_x, o_call 4 k_X4_push 2, o_x, o_x, o_al 0 1, o_gr 7 7, o_x, o_x, o_gi 4 1, o_x, o_x, o_ir]
/-- PokerEvening.back()I -/
def tb_X7_back : List pT := [o_al 0 1, o_gr 7 7, o_x, o_x, o_al 0 1, o_gr 7 1, o_x, o_x, o_call 4 k_X4_popInto 2, o_x, o_x, o_ne0 17, o_x, o_x, o_ic (-2) 2, o_x, o_ir, o_al 0 1, o_gr 7 6, o_x, o_x, o_call 4 k_X4_clear 1, o_x, o_x, o_al 0 1, o_gr 7 7, o_x, o_x, o_gi 4 1, o_x, o_x, o_ir]
/-- PokerEvening.count(I)I -/
def tb_X7_count : List pT := [o_il 1 1, o_sw [(0, 60), (1, 68), (2, 76), (3, 84), (4, 95), (5, 103), (6, 111), (7, 116), (8, 124), (9, 132), (10, 140)] 148, o_x, o_x, o_x, o_x, o_x, o_x, o_x, o_x, o_x, o_x, o_x, o_x, o_x, o_x, o_x, o_x, o_x, o_x, o_x, o_x, o_x, o_x, o_x, o_x, o_x, o_x, o_x, o_x, o_x, o_x, o_x, o_x, o_x, o_x, o_x, o_x, o_x, o_x, o_x, o_x, o_x, o_x, o_x, o_x, o_x, o_x, o_x, o_x, o_x, o_x, o_x, o_x, o_x, o_x, o_x, o_x, o_x, o_x, o_al 0 1, o_gr 7 1, o_x, o_x, o_gi 2 6, o_x, o_x, o_ir, o_al 0 1, o_gr 7 1, o_x, o_x, o_gi 2 7, o_x, o_x, o_ir, o_al 0 1, o_gr 7 1, o_x, o_x, o_gi 2 8, o_x, o_x, o_ir, o_al 0 1, o_gr 7 1, o_x, o_x, o_gi 2 9, o_x, o_x, o_call 99 k_J6_bitCount 1, o_x, o_x, o_ir, o_al 0 1, o_gr 7 1, o_x, o_x, o_call 2 k_X2_falseClaims 1, o_x, o_x, o_ir, o_al 0 1, o_call 7 k_X7_told 1, o_x, o_x, o_call 99 k_J6_bitCount 1, o_x, o_x, o_ir, o_al 0 1, o_call 7 k_X7_goneTonight 1, o_x, o_x, o_ir, o_al 0 1, o_gr 7 5, o_x, o_x, o_gi 5 2, o_x, o_x, o_ir, o_al 0 1, o_gr 7 6, o_x, o_x, o_gi 4 1, o_x, o_x, o_ir, o_al 0 1, o_gr 7 7, o_x, o_x, o_gi 4 1, o_x, o_x, o_ir, o_al 0 1, o_gr 7 0, o_x, o_x, o_gi 6 2, o_x, o_x, o_ir, o_ic (-1) 1, o_ir]
/-- PokerEvening.goneTonight()I -/
def tb_X7_goneTonight : List pT := [o_al 0 1, o_gr 7 3, o_x, o_x, o_al 0 1, o_gr 7 1, o_x, o_x, o_call 0 k_X0_hold 2, o_x, o_x, o_al 0 1, o_gr 7 3, o_x, o_x, o_gr 0 0, o_x, o_x, o_gi 1 3, o_x, o_x, o_call 99 k_J6_bitCount 1, o_x, o_x, o_ir]
/-- PokerEvening.fewestLeft(I)I -/
def tb_X7_fewestLeft : List pT := [o_ic 1 1, o_al 0 1, o_gr 7 1, o_x, o_x, o_gi 2 8, o_x, o_x, o_shl, o_ic 1 1, o_sub, o_is 2 1, o_il 2 1, o_is 3 1, o_ic 0 1, o_is 4 2, o_x, o_il 4 2, o_x, o_il 2 1, o_ige 54, o_x, o_x, o_il 4 2, o_x, o_call 99 k_J6_bitCount 1, o_x, o_x, o_il 3 1, o_call 99 k_J6_bitCount 1, o_x, o_x, o_ige 48, o_x, o_x, o_al 0 1, o_il 1 1, o_il 4 2, o_x, o_call 7 k_X7_letsGoWithout 3, o_x, o_x, o_ne0 48, o_x, o_x, o_il 4 2, o_x, o_is 3 1, o_ii 4 1, o_x, o_x, o_goto 17, o_x, o_x, o_il 3 1, o_ir]
/-- PokerEvening.letsGoWithout(II)Z -/
def tb_X7_letsGoWithout : List pT := [o_al 0 1, o_gr 7 3, o_x, o_x, o_gr 0 0, o_x, o_x, o_as 3 1, o_al 3 1, o_call 1 k_X1_cool 1, o_x, o_x, o_ic 0 1, o_is 4 2, o_x, o_il 4 2, o_x, o_al 0 1, o_gr 7 1, o_x, o_x, o_gi 2 8, o_x, o_x, o_ige 53, o_x, o_x, o_il 2 1, o_il 4 2, o_x, o_call 99 k_X7_bit 2, o_x, o_x, o_ne0 47, o_x, o_x, o_al 3 1, o_al 0 1, o_gr 7 1, o_x, o_x, o_il 4 2, o_x, o_call 1 k_X1_take 3, o_x, o_x, o_pop, o_ii 4 1, o_x, o_x, o_goto 15, o_x, o_x, o_al 3 1, o_gi 1 3, o_x, o_x, o_il 1 1, o_call 99 k_X7_bit 2, o_x, o_x, o_ic 1 1, o_ine 69, o_x, o_x, o_ic 1 1, o_goto 70, o_x, o_x, o_ic 0 1, o_zr]
/-- PokerEvening.goneIfHeldBy(II)I -/
def tb_X7_goneIfHeldBy : List pT := [o_al 0 1, o_gr 7 2, o_x, o_x, o_al 0 1, o_gr 7 1, o_x, o_x, o_call 2 k_X2_copyFrom 2, o_x, o_x, o_ic 0 1, o_is 3 1, o_il 3 1, o_al 0 1, o_gr 7 2, o_x, o_x, o_gi 2 8, o_x, o_x, o_ige 57, o_x, o_x, o_al 0 1, o_gr 7 2, o_x, o_x, o_gr 2 2, o_x, o_x, o_il 3 1, o_call 99 k_X7_at 2, o_x, o_x, o_il 1 1, o_ine 51, o_x, o_x, o_al 0 1, o_gr 7 2, o_x, o_x, o_gr 2 2, o_x, o_x, o_il 3 1, o_il 2 1, o_call 99 k_X7_put 3, o_x, o_x, o_ii 3 1, o_x, o_x, o_goto 13, o_x, o_x, o_al 0 1, o_gr 7 3, o_x, o_x, o_al 0 1, o_gr 7 2, o_x, o_x, o_call 0 k_X0_hold 2, o_x, o_x, o_al 0 1, o_gr 7 3, o_x, o_x, o_gr 0 0, o_x, o_x, o_gi 1 3, o_x, o_x, o_call 99 k_J6_bitCount 1, o_x, o_x, o_ir]
/-- PokerEvening.fits(LPokerEvening$Room;)Z -/
def tb_X7_fits : List pT := [o_al 0 1, o_gr 7 3, o_x, o_x, o_al 1 1, o_call 0 k_X0_hold 2, o_x, o_x, o_al 0 1, o_gr 7 5, o_x, o_x, o_al 0 1, o_gr 7 3, o_x, o_x, o_call 5 k_X5_agreeWith 2, o_x, o_x, o_zr]
/-- PokerEvening.fittingWorlds()J -/
def tb_X7_fittingWorlds : List pT := [o_al 0 1, o_gr 7 2, o_x, o_x, o_al 0 1, o_gr 7 1, o_x, o_x, o_call 2 k_X2_copyFrom 2, o_x, o_x, o_lc 0 1, o_lst 1 1, o_ic 0 1, o_is 3 1, o_il 3 1, o_al 0 1, o_gr 7 1, o_x, o_x, o_call 2 k_X2_worldCount 1, o_x, o_x, o_ige 57, o_x, o_x, o_al 0 1, o_gr 7 2, o_x, o_x, o_il 3 1, o_pi 2 9, o_x, o_x, o_al 0 1, o_al 0 1, o_gr 7 2, o_x, o_x, o_call 7 k_X7_fits 2, o_x, o_x, o_eq0 51, o_x, o_x, o_ll 1 1, o_lc 1 1, o_il 3 1, o_lshl, o_lor, o_lst 1 1, o_ii 3 1, o_x, o_x, o_goto 15, o_x, o_x, o_ll 1 1, o_lr]
/-- PokerEvening.lowestWorld(J)I -/
def tb_X7_lowestWorld : List pT := [o_ic 0 1, o_is 3 1, o_il 3 1, o_al 0 1, o_gr 7 1, o_x, o_x, o_call 2 k_X2_worldCount 1, o_x, o_x, o_ige 29, o_x, o_x, o_ll 1 1, o_il 3 1, o_call 99 k_X7_isIn 2, o_x, o_x, o_eq0 23, o_x, o_x, o_il 3 1, o_ir, o_ii 3 1, o_x, o_x, o_goto 2, o_x, o_x, o_ic (-4) 2, o_x, o_ir]
/-- PokerEvening.isIn(JI)Z -/
def tb_X7_isIn : List pT := [o_ll 0 1, o_il 2 1, o_lshr, o_lc 1 1, o_land, o_lc 1 1, o_lcmp, o_ne0 14, o_x, o_x, o_ic 1 1, o_goto 15, o_x, o_x, o_ic 0 1, o_zr]
/-- PokerEvening.sureFacts(JI)I -/
def tb_X7_sureFacts : List pT := [o_al 0 1, o_gr 7 1, o_x, o_x, o_call 2 k_X2_worldCount 1, o_x, o_x, o_ic 1 1, o_sub, o_is 4 2, o_x, o_ic 0 1, o_is 5 2, o_x, o_il 5 2, o_x, o_al 0 1, o_gr 7 1, o_x, o_x, o_call 2 k_X2_worldCount 1, o_x, o_x, o_ige 50, o_x, o_x, o_ll 1 1, o_il 5 2, o_x, o_call 99 k_X7_isIn 2, o_x, o_x, o_eq0 44, o_x, o_x, o_il 4 2, o_x, o_il 5 2, o_x, o_il 3 1, o_xor, o_and, o_is 4 2, o_x, o_ii 5 1, o_x, o_x, o_goto 14, o_x, o_x, o_il 4 2, o_x, o_ir]
/-- PokerEvening.worldsOfDrop(JIII)I -/
def tb_X7_worldsOfDrop : List pT := [o_al 0 1, o_gr 7 2, o_x, o_x, o_al 0 1, o_gr 7 1, o_x, o_x, o_call 2 k_X2_copyFrom 2, o_x, o_x, o_al 0 1, o_gr 7 2, o_x, o_x, o_il 3 1, o_il 4 2, o_x, o_ic 1 1, o_il 5 2, o_x, o_call 2 k_X2_addClaim 5, o_x, o_x, o_pop, o_ic 0 1, o_is 6 2, o_x, o_ic 0 1, o_is 7 2, o_x, o_il 7 2, o_x, o_al 0 1, o_gr 7 1, o_x, o_x, o_call 2 k_X2_worldCount 1, o_x, o_x, o_ige 102, o_x, o_x, o_ll 1 1, o_il 7 2, o_x, o_call 99 k_X7_isIn 2, o_x, o_x, o_eq0 96, o_x, o_x, o_al 0 1, o_gr 7 2, o_x, o_x, o_il 7 2, o_x, o_pi 2 9, o_x, o_x, o_al 0 1, o_gr 7 3, o_x, o_x, o_al 0 1, o_gr 7 2, o_x, o_x, o_call 0 k_X0_hold 2, o_x, o_x, o_al 0 1, o_gr 7 3, o_x, o_x, o_gr 0 2, o_x, o_x, o_il 3 1, o_call 99 k_X7_at 2, o_x, o_x, o_al 0 1, o_gr 7 1, o_x, o_x, o_gi 2 8, o_x, o_x, o_ine 96, o_x, o_x, o_ii 6 1, o_x, o_x, o_ii 7 1, o_x, o_x, o_goto 31, o_x, o_x, o_il 6 2, o_x, o_ir]
/-- PokerEvening.chanceOf(II)I -/
def tb_X7_chanceOf : List pT := [o_ic 1 1, o_is 3 1, o_ic 0 1, o_is 4 2, o_x, o_il 4 2, o_x, o_al 0 1, o_gr 7 1, o_x, o_x, o_gi 2 7, o_x, o_x, o_ige 44, o_x, o_x, o_il 3 1, o_il 1 1, o_il 4 2, o_x, o_call 99 k_X7_bit 2, o_x, o_x, o_ic 1 1, o_ine 32, o_x, o_x, o_il 2 1, o_goto 36, o_x, o_x, o_ic 10 2, o_x, o_il 2 1, o_sub, o_mul, o_is 3 1, o_ii 4 1, o_x, o_x, o_goto 5, o_x, o_x, o_il 3 1, o_ir]
/-- PokerEvening.draw(II)I -/
def tb_X7_draw : List pT := [o_lc 7919 3, o_x, o_x, o_il 0 1, o_i2l, o_lmul, o_lc 6151 3, o_x, o_x, o_il 1 1, o_i2l, o_lmul, o_ladd, o_lc 1 1, o_ladd, o_lst 2 1, o_ll 2 1, o_ll 2 1, o_lmul, o_lc 65521 3, o_x, o_x, o_lrem, o_lc 2 3, o_x, o_x, o_ldiv, o_l2i, o_ir]
/-- PokerEvening.stir(LPokerEvening$Room;I)V -/
def tb_X7_stir : List pT := [o_al 0 1, o_gi 2 7, o_x, o_x, o_le0 26, o_x, o_x, o_il 1 1, o_ic 8 2, o_x, o_div, o_ic 2 1, o_rem, o_ne0 26, o_x, o_x, o_al 0 1, o_il 1 1, o_al 0 1, o_gi 2 7, o_x, o_x, o_rem, o_call 2 k_X2_turnFact 2, o_x, o_x, o_il 1 1, o_ic 16 2, o_x, o_div, o_ic 4 1, o_rem, o_ne0 53, o_x, o_x, o_al 0 1, o_gi 2 8, o_x, o_x, o_le0 53, o_x, o_x, o_al 0 1, o_ic 0 1, o_al 0 1, o_gi 2 8, o_x, o_x, o_ic 1 1, o_sub, o_call 2 k_X2_moveClaim 3, o_x, o_x, o_vr]
/-- PokerEvening.greatestDivisor(II)I -/
def tb_X7_greatestDivisor : List pT := [o_ic 0 1, o_is 2 1, o_il 2 1, o_ic 100 2, o_x, o_ige 26, o_x, o_x, o_il 1 1, o_eq0 26, o_x, o_x, o_il 0 1, o_il 1 1, o_rem, o_is 3 1, o_il 1 1, o_is 0 1, o_il 3 1, o_is 1 1, o_ii 2 1, o_x, o_x, o_goto 2, o_x, o_x, o_il 0 1, o_ir]
/-- PokerEvening.within(III)Z -/
def tb_X7_within : List pT := [o_il 0 1, o_il 1 1, o_ilt 14, o_x, o_x, o_il 0 1, o_il 2 1, o_igt 14, o_x, o_x, o_ic 1 1, o_goto 15, o_x, o_x, o_ic 0 1, o_zr]
/-- PokerEvening.bit(II)I -/
def tb_X7_bit : List pT := [o_il 0 1, o_il 1 1, o_shr, o_ic 1 1, o_and, o_ir]
/-- PokerEvening.at([II)I -/
def tb_X7_at : List pT := [o_il 1 1, o_lt0 16, o_x, o_x, o_il 1 1, o_al 0 1, o_len, o_ige 16, o_x, o_x, o_al 0 1, o_il 1 1, o_ia, o_goto 17, o_x, o_x, o_ic 0 1, o_ir]
/-- PokerEvening.put([III)V -/
def tb_X7_put : List pT := [o_il 1 1, o_lt0 14, o_x, o_x, o_il 1 1, o_al 0 1, o_len, o_ige 14, o_x, o_x, o_al 0 1, o_il 1 1, o_il 2 1, o_ist, o_vr]
/-- PokerEvening.copyRow([I[I)V -/
def tb_X7_copyRow : List pT := [o_al 0 1, o_ic 0 1, o_al 1 1, o_ic 0 1, o_al 0 1, o_len, o_al 1 1, o_len, o_call 99 k_J9_min 2, o_x, o_x, o_cp, o_x, o_x, o_vr]
/-- PokerEvening.slide([III)V -/
def tb_X7_slide : List pT := [o_al 0 1, o_il 1 1, o_call 99 k_X7_at 2, o_x, o_x, o_is 3 1, o_il 1 1, o_is 4 2, o_x, o_il 4 2, o_x, o_il 2 1, o_ige 35, o_x, o_x, o_al 0 1, o_il 4 2, o_x, o_al 0 1, o_il 4 2, o_x, o_ic 1 1, o_add, o_call 99 k_X7_at 2, o_x, o_x, o_call 99 k_X7_put 3, o_x, o_x, o_ii 4 1, o_x, o_x, o_goto 9, o_x, o_x, o_il 1 1, o_is 4 2, o_x, o_il 4 2, o_x, o_il 2 1, o_ile 64, o_x, o_x, o_al 0 1, o_il 4 2, o_x, o_al 0 1, o_il 4 2, o_x, o_ic 1 1, o_sub, o_call 99 k_X7_at 2, o_x, o_x, o_call 99 k_X7_put 3, o_x, o_x, o_ii 4 (-1), o_x, o_x, o_goto 38, o_x, o_x, o_al 0 1, o_il 2 1, o_il 3 1, o_call 99 k_X7_put 3, o_x, o_x, o_vr]
/-- PokerEveningModel.in(III)Z -/
def tb_X8_in : List pT := [o_il 0 1, o_il 1 1, o_ilt 14, o_x, o_x, o_il 0 1, o_il 2 1, o_igt 14, o_x, o_x, o_ic 1 1, o_goto 15, o_x, o_x, o_ic 0 1, o_zr]
/-- PokerEveningModel.has(II)Z -/
def tb_X8_has : List pT := [o_il 0 1, o_il 1 1, o_shr, o_ic 1 1, o_and, o_ic 1 1, o_ine 13, o_x, o_x, o_ic 1 1, o_goto 14, o_x, o_x, o_ic 0 1, o_zr]
/-- PokerEveningModel.bits(I)I -/
def tb_X8_bits : List pT := [o_ic 0 1, o_is 1 1, o_ic 0 1, o_is 2 1, o_il 2 1, o_ic 7 2, o_x, o_ige 24, o_x, o_x, o_il 1 1, o_il 0 1, o_il 2 1, o_shr, o_ic 1 1, o_and, o_add, o_is 1 1, o_ii 2 1, o_x, o_x, o_goto 4, o_x, o_x, o_il 1 1, o_ir]
/-- PokerEveningModel.firstTeller(II)V -/
def tb_X8_firstTeller : List pT := [o_al 0 1, o_gr 8 4, o_x, o_x, o_al 0 1, o_gi 8 0, o_x, o_x, o_il 1 1, o_ist, o_al 0 1, o_gr 8 5, o_x, o_x, o_al 0 1, o_gi 8 0, o_x, o_x, o_il 2 1, o_ist, o_al 0 1, o_dup, o_gi 8 0, o_x, o_x, o_ic 1 1, o_add, o_pi 8 0, o_x, o_x, o_vr]
/-- PokerEveningModel.sets(IIIII)V -/
def tb_X8_sets : List pT := [o_al 0 1, o_gr 8 6, o_x, o_x, o_il 1 1, o_il 2 1, o_ist, o_al 0 1, o_gr 8 7, o_x, o_x, o_il 1 1, o_il 3 1, o_ist, o_al 0 1, o_gr 8 8, o_x, o_x, o_il 1 1, o_il 4 2, o_x, o_ist, o_al 0 1, o_gr 8 9, o_x, o_x, o_il 1 1, o_il 5 2, o_x, o_ist, o_vr]
/-- PokerEveningModel.copies(II)V -/
def tb_X8_copies : List pT := [o_al 0 1, o_il 2 1, o_al 0 1, o_gr 8 6, o_x, o_x, o_il 1 1, o_ia, o_al 0 1, o_gr 8 7, o_x, o_x, o_il 1 1, o_ia, o_al 0 1, o_gr 8 8, o_x, o_x, o_il 1 1, o_ia, o_al 0 1, o_gr 8 9, o_x, o_x, o_il 1 1, o_ia, o_call 8 k_X8_sets 6, o_x, o_x, o_vr]
/-- PokerEveningModel.isTeller(I)Z -/
def tb_X8_isTeller : List pT := [o_il 1 1, o_ic 0 1, o_al 0 1, o_gi 8 0, o_x, o_x, o_ic 1 1, o_sub, o_call 99 k_X8_in 3, o_x, o_x, o_zr]
/-- PokerEveningModel.isFact(I)Z -/
def tb_X8_isFact : List pT := [o_il 1 1, o_ic 0 1, o_al 0 1, o_gi 8 1, o_x, o_x, o_ic 1 1, o_sub, o_call 99 k_X8_in 3, o_x, o_x, o_zr]
/-- PokerEveningModel.isClaim(I)Z -/
def tb_X8_isClaim : List pT := [o_il 1 1, o_ic 0 1, o_al 0 1, o_gi 8 2, o_x, o_x, o_ic 1 1, o_sub, o_call 99 k_X8_in 3, o_x, o_x, o_zr]
/-- PokerEveningModel.write(I)I -/
def tb_X8_write : List pT := [o_il 1 1, o_ic 32 2, o_x, o_ic 126 2, o_x, o_call 99 k_X8_in 3, o_x, o_x, o_ne0 13, o_x, o_x, o_ic (-1) 1, o_ir, o_al 0 1, o_gi 8 14, o_x, o_x, o_ic 200 3, o_x, o_x, o_ine 26, o_x, o_x, o_ic (-3) 2, o_x, o_ir, o_al 0 1, o_gr 8 13, o_x, o_x, o_al 0 1, o_gi 8 14, o_x, o_x, o_il 1 1, o_ist, o_al 0 1, o_dup, o_gi 8 14, o_x, o_x, o_ic 1 1, o_add, o_pi 8 14, o_x, o_x, o_al 0 1, o_gi 8 14, o_x, o_x, o_ir]
/-- PokerEveningModel.wipe()I -/
def tb_X8_wipe : List pT := [o_al 0 1, o_gi 8 14, o_x, o_x, o_is 1 1, o_al 0 1, o_ic 0 1, o_pi 8 14, o_x, o_x, o_il 1 1, o_ir]
/-- PokerEveningModel.here()I -/
def tb_X8_here : List pT := [o_al 0 1, o_gi 8 15, o_x, o_x, o_al 0 1, o_gi 8 14, o_x, o_x, o_ige 23, o_x, o_x, o_al 0 1, o_gr 8 13, o_x, o_x, o_al 0 1, o_gi 8 15, o_x, o_x, o_ia, o_goto 24, o_x, o_x, o_ic 0 1, o_ir]
/-- PokerEveningModel.isFigure()Z -/
def tb_X8_isFigure : List pT := [o_al 0 1, o_call 8 k_X8_here 1, o_x, o_x, o_ic 48 2, o_x, o_ic 57 2, o_x, o_call 99 k_X8_in 3, o_x, o_x, o_zr]
/-- PokerEveningModel.number(III)Z -/
def tb_X8_number : List pT := [o_al 0 1, o_call 8 k_X8_isFigure 1, o_x, o_x, o_ne0 9, o_x, o_x, o_ic 0 1, o_zr, o_al 0 1, o_call 8 k_X8_here 1, o_x, o_x, o_ic 48 2, o_x, o_sub, o_is 4 2, o_x, o_al 0 1, o_dup, o_gi 8 15, o_x, o_x, o_ic 1 1, o_add, o_pi 8 15, o_x, o_x, o_al 0 1, o_call 8 k_X8_isFigure 1, o_x, o_x, o_eq0 60, o_x, o_x, o_ic 10 2, o_x, o_il 4 2, o_x, o_mul, o_al 0 1, o_call 8 k_X8_here 1, o_x, o_x, o_add, o_ic 48 2, o_x, o_sub, o_is 4 2, o_x, o_al 0 1, o_dup, o_gi 8 15, o_x, o_x, o_ic 1 1, o_add, o_pi 8 15, o_x, o_x, o_al 0 1, o_il 4 2, o_x, o_pi 8 23, o_x, o_x, o_al 0 1, o_call 8 k_X8_here 1, o_x, o_x, o_il 3 1, o_ine 84, o_x, o_x, o_il 4 2, o_x, o_il 1 1, o_il 2 1, o_call 99 k_X8_in 3, o_x, o_x, o_ne0 86, o_x, o_x, o_ic 0 1, o_zr, o_al 0 1, o_dup, o_gi 8 15, o_x, o_x, o_ic 1 1, o_add, o_pi 8 15, o_x, o_x, o_ic 1 1, o_zr]
/-- PokerEveningModel.readsTeller()Z -/
def tb_X8_readsTeller : List pT := [o_al 0 1, o_gi 8 16, o_x, o_x, o_ic 5 1, o_ieq 19, o_x, o_x, o_al 0 1, o_ic 0 1, o_ic 3 1, o_ic 44 2, o_x, o_call 8 k_X8_number 4, o_x, o_x, o_ne0 21, o_x, o_x, o_ic 0 1, o_zr, o_al 0 1, o_gi 8 23, o_x, o_x, o_is 1 1, o_al 0 1, o_ic 1 1, o_ic 40 2, o_x, o_ic 59 2, o_x, o_call 8 k_X8_number 4, o_x, o_x, o_ne0 40, o_x, o_x, o_ic 0 1, o_zr, o_al 0 1, o_gr 8 19, o_x, o_x, o_al 0 1, o_gi 8 16, o_x, o_x, o_il 1 1, o_ist, o_al 0 1, o_gr 8 20, o_x, o_x, o_al 0 1, o_gi 8 16, o_x, o_x, o_al 0 1, o_gi 8 23, o_x, o_x, o_ist, o_al 0 1, o_dup, o_gi 8 16, o_x, o_x, o_ic 1 1, o_add, o_pi 8 16, o_x, o_x, o_ic 1 1, o_zr]
/-- PokerEveningModel.readsFact()Z -/
def tb_X8_readsFact : List pT := [o_al 0 1, o_gi 8 17, o_x, o_x, o_ic 6 2, o_x, o_ieq 20, o_x, o_x, o_al 0 1, o_ic 0 1, o_ic 1 1, o_ic 59 2, o_x, o_call 8 k_X8_number 4, o_x, o_x, o_ne0 22, o_x, o_x, o_ic 0 1, o_zr, o_al 0 1, o_gr 8 21, o_x, o_x, o_al 0 1, o_gi 8 17, o_x, o_x, o_al 0 1, o_gi 8 23, o_x, o_x, o_ist, o_al 0 1, o_dup, o_gi 8 17, o_x, o_x, o_ic 1 1, o_add, o_pi 8 17, o_x, o_x, o_ic 1 1, o_zr]
/-- PokerEveningModel.readsClaim()Z -/
def tb_X8_readsClaim : List pT := [o_al 0 1, o_gi 8 18, o_x, o_x, o_ic 7 2, o_x, o_ieq 25, o_x, o_x, o_al 0 1, o_ic 0 1, o_al 0 1, o_gi 8 16, o_x, o_x, o_ic 1 1, o_sub, o_ic 44 2, o_x, o_call 8 k_X8_number 4, o_x, o_x, o_ne0 27, o_x, o_x, o_ic 0 1, o_zr, o_al 0 1, o_gr 8 22, o_x, o_x, o_ic 4 1, o_al 0 1, o_gi 8 18, o_x, o_x, o_mul, o_al 0 1, o_gi 8 23, o_x, o_x, o_ist, o_al 0 1, o_ic 0 1, o_al 0 1, o_gi 8 17, o_x, o_x, o_ic 1 1, o_sub, o_ic 44 2, o_x, o_call 8 k_X8_number 4, o_x, o_x, o_ne0 60, o_x, o_x, o_ic 0 1, o_zr, o_al 0 1, o_gr 8 22, o_x, o_x, o_ic 4 1, o_al 0 1, o_gi 8 18, o_x, o_x, o_mul, o_ic 1 1, o_add, o_al 0 1, o_gi 8 23, o_x, o_x, o_ist, o_al 0 1, o_ic 0 1, o_ic 1 1, o_ic 44 2, o_x, o_call 8 k_X8_number 4, o_x, o_x, o_ne0 90, o_x, o_x, o_ic 0 1, o_zr, o_al 0 1, o_gr 8 22, o_x, o_x, o_ic 4 1, o_al 0 1, o_gi 8 18, o_x, o_x, o_mul, o_ic 2 1, o_add, o_al 0 1, o_gi 8 23, o_x, o_x, o_ist, o_al 0 1, o_ic 1 1, o_ic 20 2, o_x, o_ic 59 2, o_x, o_call 8 k_X8_number 4, o_x, o_x, o_ne0 121, o_x, o_x, o_ic 0 1, o_zr, o_al 0 1, o_gr 8 22, o_x, o_x, o_ic 4 1, o_al 0 1, o_gi 8 18, o_x, o_x, o_mul, o_ic 3 1, o_add, o_al 0 1, o_gi 8 23, o_x, o_x, o_ist, o_al 0 1, o_dup, o_gi 8 18, o_x, o_x, o_ic 1 1, o_add, o_pi 8 18, o_x, o_x, o_ic 1 1, o_zr]
/-- PokerEveningModel.readsItem()Z -/
def tb_X8_readsItem : List pT := [o_al 0 1, o_call 8 k_X8_here 1, o_x, o_x, o_is 1 1, o_al 0 1, o_dup, o_gi 8 15, o_x, o_x, o_ic 1 1, o_add, o_pi 8 15, o_x, o_x, o_il 1 1, o_ic 116 2, o_x, o_ine 28, o_x, o_x, o_al 0 1, o_call 8 k_X8_readsTeller 1, o_x, o_x, o_goto 59, o_x, o_x, o_il 1 1, o_ic 102 2, o_x, o_ine 41, o_x, o_x, o_al 0 1, o_call 8 k_X8_readsFact 1, o_x, o_x, o_goto 59, o_x, o_x, o_il 1 1, o_ic 99 2, o_x, o_ine 58, o_x, o_x, o_al 0 1, o_call 8 k_X8_readsClaim 1, o_x, o_x, o_eq0 58, o_x, o_x, o_ic 1 1, o_goto 59, o_x, o_x, o_ic 0 1, o_zr]
/-- PokerEveningModel.fault()I -/
def tb_X8_fault : List pT := [o_al 0 1, o_ic 0 1, o_pi 8 15, o_x, o_x, o_al 0 1, o_ic 0 1, o_pi 8 16, o_x, o_x, o_al 0 1, o_ic 0 1, o_pi 8 17, o_x, o_x, o_al 0 1, o_ic 0 1, o_pi 8 18, o_x, o_x, o_al 0 1, o_gi 8 15, o_x, o_x, o_al 0 1, o_gi 8 14, o_x, o_x, o_ige 48, o_x, o_x, o_al 0 1, o_gi 8 15, o_x, o_x, o_is 1 1, o_al 0 1, o_call 8 k_X8_readsItem 1, o_x, o_x, o_ne0 45, o_x, o_x, o_il 1 1, o_ir, o_goto 20, o_x, o_x, o_ic (-4) 2, o_x, o_ir]
/-- PokerEveningModel.lay()I -/
def tb_X8_lay : List pT := [o_al 0 1, o_call 8 k_X8_fault 1, o_x, o_x, o_ic (-4) 2, o_x, o_ine 23, o_x, o_x, o_al 0 1, o_gi 8 16, o_x, o_x, o_eq0 23, o_x, o_x, o_al 0 1, o_gi 8 17, o_x, o_x, o_ne0 26, o_x, o_x, o_ic (-2) 2, o_x, o_ir, o_al 0 1, o_al 0 1, o_gi 8 16, o_x, o_x, o_pi 8 0, o_x, o_x, o_al 0 1, o_al 0 1, o_gi 8 17, o_x, o_x, o_pi 8 1, o_x, o_x, o_al 0 1, o_al 0 1, o_gi 8 18, o_x, o_x, o_pi 8 2, o_x, o_x, o_ic 0 1, o_is 1 1, o_il 1 1, o_ic 5 1, o_ige 87, o_x, o_x, o_al 0 1, o_gr 8 4, o_x, o_x, o_il 1 1, o_al 0 1, o_gr 8 19, o_x, o_x, o_il 1 1, o_ia, o_ist, o_al 0 1, o_gr 8 5, o_x, o_x, o_il 1 1, o_al 0 1, o_gr 8 20, o_x, o_x, o_il 1 1, o_ia, o_ist, o_ii 1 1, o_x, o_x, o_goto 52, o_x, o_x, o_al 0 1, o_ic 0 1, o_pi 8 3, o_x, o_x, o_ic 0 1, o_is 1 1, o_il 1 1, o_al 0 1, o_gi 8 1, o_x, o_x, o_ige 125, o_x, o_x, o_al 0 1, o_dup, o_gi 8 3, o_x, o_x, o_al 0 1, o_gr 8 21, o_x, o_x, o_il 1 1, o_ia, o_il 1 1, o_shl, o_or, o_pi 8 3, o_x, o_x, o_ii 1 1, o_x, o_x, o_goto 94, o_x, o_x, o_ic 0 1, o_is 1 1, o_il 1 1, o_al 0 1, o_gi 8 2, o_x, o_x, o_ige 184, o_x, o_x, o_al 0 1, o_il 1 1, o_al 0 1, o_gr 8 22, o_x, o_x, o_ic 4 1, o_il 1 1, o_mul, o_ia, o_al 0 1, o_gr 8 22, o_x, o_x, o_ic 4 1, o_il 1 1, o_mul, o_ic 1 1, o_add, o_ia, o_al 0 1, o_gr 8 22, o_x, o_x, o_ic 4 1, o_il 1 1, o_mul, o_ic 2 1, o_add, o_ia, o_al 0 1, o_gr 8 22, o_x, o_x, o_ic 4 1, o_il 1 1, o_mul, o_ic 3 1, o_add, o_ia, o_call 8 k_X8_sets 6, o_x, o_x, o_ii 1 1, o_x, o_x, o_goto 127, o_x, o_x, o_al 0 1, o_ic 0 1, o_pi 8 10, o_x, o_x, o_al 0 1, o_ic 0 1, o_pi 8 30, o_x, o_x, o_al 0 1, o_ic 0 1, o_pi 8 34, o_x, o_x, o_al 0 1, o_gi 8 0, o_x, o_x, o_ir]
/-- PokerEveningModel.isFalse(I)Z -/
def tb_X8_isFalse : List pT := [o_al 0 1, o_gi 8 3, o_x, o_x, o_al 0 1, o_gr 8 7, o_x, o_x, o_il 1 1, o_ia, o_shr, o_ic 1 1, o_and, o_al 0 1, o_gr 8 8, o_x, o_x, o_il 1 1, o_ia, o_ieq 26, o_x, o_x, o_ic 1 1, o_goto 27, o_x, o_x, o_ic 0 1, o_zr]
/-- PokerEveningModel.hotter(IZI)I -/
def tb_X8_hotter : List pT := [o_il 1 1, o_eq0 8, o_x, o_x, o_il 2 1, o_goto 9, o_x, o_x, o_ic 1 1, o_is 3 1, o_il 0 1, o_sw [(1, 36), (2, 40), (3, 52)] 56, o_x, o_x, o_x, o_x, o_x, o_x, o_x, o_x, o_x, o_x, o_x, o_x, o_x, o_x, o_x, o_x, o_x, o_x, o_x, o_x, o_x, o_x, o_x, o_x, o_il 3 1, o_ic 2 1, o_div, o_ir, o_il 1 1, o_eq0 50, o_x, o_x, o_ic 2 1, o_il 2 1, o_mul, o_goto 51, o_x, o_x, o_ic 1 1, o_ir, o_il 3 1, o_ic 1 1, o_add, o_ir, o_il 3 1, o_ir]
/-- PokerEveningModel.evening(I)V -/
def tb_X8_evening : List pT := [o_ic 0 1, o_is 2 1, o_il 2 1, o_al 0 1, o_gi 8 0, o_x, o_x, o_ige 24, o_x, o_x, o_al 0 1, o_gr 8 25, o_x, o_x, o_il 2 1, o_ic (-4) 2, o_x, o_ist, o_ii 2 1, o_x, o_x, o_goto 2, o_x, o_x, o_ic 0 1, o_is 2 1, o_il 2 1, o_ic 8 2, o_x, o_ige 46, o_x, o_x, o_al 0 1, o_gr 8 26, o_x, o_x, o_il 2 1, o_ic (-4) 2, o_x, o_ist, o_ii 2 1, o_x, o_x, o_goto 26, o_x, o_x, o_al 0 1, o_ic 0 1, o_pi 8 27, o_x, o_x, o_al 0 1, o_ic 0 1, o_pi 8 28, o_x, o_x, o_ic 0 1, o_is 2 1, o_ic (-4) 2, o_x, o_is 3 1, o_ic 0 1, o_is 4 2, o_x, o_il 4 2, o_x, o_il 1 1, o_ige 218, o_x, o_x, o_al 0 1, o_gr 8 24, o_x, o_x, o_il 4 2, o_x, o_ia, o_is 5 2, o_x, o_al 0 1, o_gr 8 6, o_x, o_x, o_il 5 2, o_x, o_ia, o_is 6 2, o_x, o_al 0 1, o_gr 8 25, o_x, o_x, o_il 6 2, o_x, o_ia, o_ic (-4) 2, o_x, o_ine 212, o_x, o_x, o_il 3 1, o_ic (-4) 2, o_x, o_ieq 118, o_x, o_x, o_il 3 1, o_il 6 2, o_x, o_ieq 118, o_x, o_x, o_il 2 1, o_ic 2 1, o_div, o_goto 119, o_x, o_x, o_il 2 1, o_is 2 1, o_il 2 1, o_al 0 1, o_gr 8 4, o_x, o_x, o_il 6 2, o_x, o_ia, o_al 0 1, o_il 5 2, o_x, o_call 8 k_X8_isFalse 2, o_x, o_x, o_al 0 1, o_gr 8 9, o_x, o_x, o_il 5 2, o_x, o_ia, o_call 99 k_X8_hotter 3, o_x, o_x, o_add, o_is 2 1, o_al 0 1, o_gr 8 26, o_x, o_x, o_il 5 2, o_x, o_il 2 1, o_ist, o_al 0 1, o_dup, o_gi 8 27, o_x, o_x, o_ic 1 1, o_il 5 2, o_x, o_shl, o_or, o_pi 8 27, o_x, o_x, o_al 0 1, o_il 2 1, o_al 0 1, o_gi 8 28, o_x, o_x, o_ile 180, o_x, o_x, o_il 2 1, o_goto 184, o_x, o_x, o_al 0 1, o_gi 8 28, o_x, o_x, o_pi 8 28, o_x, o_x, o_il 6 2, o_x, o_is 3 1, o_il 2 1, o_al 0 1, o_gr 8 5, o_x, o_x, o_il 6 2, o_x, o_ia, o_ile 212, o_x, o_x, o_al 0 1, o_gr 8 25, o_x, o_x, o_il 6 2, o_x, o_il 5 2, o_x, o_ist, o_ic 0 1, o_is 2 1, o_ii 4 1, o_x, o_x, o_goto 64, o_x, o_x, o_vr]
/-- PokerEveningModel.without(I)V -/
def tb_X8_without : List pT := [o_ic 0 1, o_is 2 1, o_ic 0 1, o_is 3 1, o_il 3 1, o_al 0 1, o_gi 8 2, o_x, o_x, o_ige 36, o_x, o_x, o_il 1 1, o_il 3 1, o_call 99 k_X8_has 2, o_x, o_x, o_ne0 30, o_x, o_x, o_al 0 1, o_gr 8 24, o_x, o_x, o_il 2 1, o_il 3 1, o_ist, o_ii 2 1, o_x, o_x, o_ii 3 1, o_x, o_x, o_goto 4, o_x, o_x, o_al 0 1, o_il 2 1, o_call 8 k_X8_evening 2, o_x, o_x, o_vr]
/-- PokerEveningModel.gone()I -/
def tb_X8_gone : List pT := [o_ic 0 1, o_is 1 1, o_ic 0 1, o_is 2 1, o_il 2 1, o_al 0 1, o_gi 8 0, o_x, o_x, o_ige 37, o_x, o_x, o_il 1 1, o_al 0 1, o_gr 8 25, o_x, o_x, o_il 2 1, o_ia, o_ic (-4) 2, o_x, o_ine 28, o_x, o_x, o_ic 0 1, o_goto 29, o_x, o_x, o_ic 1 1, o_add, o_is 1 1, o_ii 2 1, o_x, o_x, o_goto 4, o_x, o_x, o_il 1 1, o_ir]
/-- PokerEveningModel.teller(II)I -/
def tb_X8_teller : List pT := [o_al 0 1, o_il 1 1, o_call 8 k_X8_isTeller 2, o_x, o_x, o_eq0 17, o_x, o_x, o_il 2 1, o_ic 0 1, o_ic 1 1, o_call 99 k_X8_in 3, o_x, o_x, o_ne0 19, o_x, o_x, o_ic (-1) 1, o_ir, o_il 2 1, o_ne0 32, o_x, o_x, o_al 0 1, o_gr 8 4, o_x, o_x, o_il 1 1, o_ia, o_goto 38, o_x, o_x, o_al 0 1, o_gr 8 5, o_x, o_x, o_il 1 1, o_ia, o_ir]
/-- PokerEveningModel.fact(I)I -/
def tb_X8_fact : List pT := [o_al 0 1, o_il 1 1, o_call 8 k_X8_isFact 2, o_x, o_x, o_eq0 19, o_x, o_x, o_al 0 1, o_gi 8 3, o_x, o_x, o_il 1 1, o_shr, o_ic 1 1, o_and, o_goto 20, o_x, o_x, o_ic (-1) 1, o_ir]
/-- PokerEveningModel.claim(II)I -/
def tb_X8_claim : List pT := [o_al 0 1, o_il 1 1, o_call 8 k_X8_isClaim 2, o_x, o_x, o_eq0 17, o_x, o_x, o_il 2 1, o_ic 0 1, o_ic 4 1, o_call 99 k_X8_in 3, o_x, o_x, o_ne0 19, o_x, o_x, o_ic (-1) 1, o_ir, o_il 2 1, o_sw [(0, 52), (1, 59), (2, 66), (3, 73)] 80, o_x, o_x, o_x, o_x, o_x, o_x, o_x, o_x, o_x, o_x, o_x, o_x, o_x, o_x, o_x, o_x, o_x, o_x, o_x, o_x, o_x, o_x, o_x, o_x, o_x, o_x, o_x, o_x, o_x, o_x, o_x, o_al 0 1, o_gr 8 6, o_x, o_x, o_il 1 1, o_ia, o_ir, o_al 0 1, o_gr 8 7, o_x, o_x, o_il 1 1, o_ia, o_ir, o_al 0 1, o_gr 8 8, o_x, o_x, o_il 1 1, o_ia, o_ir, o_al 0 1, o_gr 8 9, o_x, o_x, o_il 1 1, o_ia, o_ir, o_al 0 1, o_il 1 1, o_call 8 k_X8_isFalse 2, o_x, o_x, o_eq0 92, o_x, o_x, o_ic 1 1, o_goto 93, o_x, o_x, o_ic 0 1, o_ir]
/-- PokerEveningModel.lays([II)V -/
def tb_X8_lays : List pT := [o_al 1 1, o_il 2 1, o_al 0 1, o_gi 8 3, o_x, o_x, o_ist, o_al 1 1, o_il 2 1, o_ic 1 1, o_add, o_al 0 1, o_gi 8 2, o_x, o_x, o_ist, o_ic 0 1, o_is 3 1, o_il 3 1, o_ic 7 2, o_x, o_ige 85, o_x, o_x, o_al 1 1, o_il 2 1, o_ic 2 1, o_add, o_il 3 1, o_add, o_al 0 1, o_gr 8 6, o_x, o_x, o_il 3 1, o_ia, o_ist, o_al 1 1, o_il 2 1, o_ic 9 2, o_x, o_add, o_il 3 1, o_add, o_al 0 1, o_gr 8 7, o_x, o_x, o_il 3 1, o_ia, o_ist, o_al 1 1, o_il 2 1, o_ic 16 2, o_x, o_add, o_il 3 1, o_add, o_al 0 1, o_gr 8 8, o_x, o_x, o_il 3 1, o_ia, o_ist, o_al 1 1, o_il 2 1, o_ic 23 2, o_x, o_add, o_il 3 1, o_add, o_al 0 1, o_gr 8 9, o_x, o_x, o_il 3 1, o_ia, o_ist, o_ii 3 1, o_x, o_x, o_goto 18, o_x, o_x, o_ic 0 1, o_is 3 1, o_il 3 1, o_ic 5 1, o_ige 112, o_x, o_x, o_al 1 1, o_il 2 1, o_ic 30 2, o_x, o_add, o_il 3 1, o_add, o_al 0 1, o_gr 8 5, o_x, o_x, o_il 3 1, o_ia, o_ist, o_ii 3 1, o_x, o_x, o_goto 87, o_x, o_x, o_vr]
/-- PokerEveningModel.takes([II)V -/
def tb_X8_takes : List pT := [o_al 0 1, o_al 1 1, o_il 2 1, o_ia, o_pi 8 3, o_x, o_x, o_al 0 1, o_al 1 1, o_il 2 1, o_ic 1 1, o_add, o_ia, o_pi 8 2, o_x, o_x, o_ic 0 1, o_is 3 1, o_il 3 1, o_ic 7 2, o_x, o_ige 66, o_x, o_x, o_al 0 1, o_il 3 1, o_al 1 1, o_il 2 1, o_ic 2 1, o_add, o_il 3 1, o_add, o_ia, o_al 1 1, o_il 2 1, o_ic 9 2, o_x, o_add, o_il 3 1, o_add, o_ia, o_al 1 1, o_il 2 1, o_ic 16 2, o_x, o_add, o_il 3 1, o_add, o_ia, o_al 1 1, o_il 2 1, o_ic 23 2, o_x, o_add, o_il 3 1, o_add, o_ia, o_call 8 k_X8_sets 6, o_x, o_x, o_ii 3 1, o_x, o_x, o_goto 18, o_x, o_x, o_ic 0 1, o_is 3 1, o_il 3 1, o_ic 5 1, o_ige 93, o_x, o_x, o_al 0 1, o_gr 8 5, o_x, o_x, o_il 3 1, o_al 1 1, o_il 2 1, o_ic 30 2, o_x, o_add, o_il 3 1, o_add, o_ia, o_ist, o_ii 3 1, o_x, o_x, o_goto 68, o_x, o_x, o_vr]
/-- PokerEveningModel.notes()V -/
def tb_X8_notes : List pT := [o_al 0 1, o_gi 8 30, o_x, o_x, o_ic 8 2, o_x, o_ine 49, o_x, o_x, o_ic 0 1, o_is 1 1, o_il 1 1, o_ic 245 3, o_x, o_x, o_ige 39, o_x, o_x, o_al 0 1, o_gr 8 29, o_x, o_x, o_il 1 1, o_al 0 1, o_gr 8 29, o_x, o_x, o_il 1 1, o_ic 35 2, o_x, o_add, o_ia, o_ist, o_ii 1 1, o_x, o_x, o_goto 11, o_x, o_x, o_al 0 1, o_dup, o_gi 8 30, o_x, o_x, o_ic 1 1, o_sub, o_pi 8 30, o_x, o_x, o_al 0 1, o_al 0 1, o_gr 8 29, o_x, o_x, o_ic 35 2, o_x, o_al 0 1, o_gi 8 30, o_x, o_x, o_mul, o_call 8 k_X8_lays 3, o_x, o_x, o_al 0 1, o_dup, o_gi 8 30, o_x, o_x, o_ic 1 1, o_add, o_pi 8 30, o_x, o_x, o_vr]
/-- PokerEveningModel.turn(I)I -/
def tb_X8_turn : List pT := [o_al 0 1, o_il 1 1, o_call 8 k_X8_isFact 2, o_x, o_x, o_ne0 10, o_x, o_x, o_ic (-1) 1, o_ir, o_al 0 1, o_call 8 k_X8_notes 1, o_x, o_x, o_al 0 1, o_dup, o_gi 8 3, o_x, o_x, o_ic 1 1, o_il 1 1, o_shl, o_xor, o_pi 8 3, o_x, o_x, o_al 0 1, o_gi 8 3, o_x, o_x, o_il 1 1, o_shr, o_ic 1 1, o_and, o_ir]
/-- PokerEveningModel.add(IIII)I -/
def tb_X8_add : List pT := [o_al 0 1, o_il 1 1, o_call 8 k_X8_isTeller 2, o_x, o_x, o_eq0 36, o_x, o_x, o_al 0 1, o_il 2 1, o_call 8 k_X8_isFact 2, o_x, o_x, o_eq0 36, o_x, o_x, o_il 3 1, o_ic 0 1, o_ic 1 1, o_call 99 k_X8_in 3, o_x, o_x, o_eq0 36, o_x, o_x, o_il 4 2, o_x, o_ic 1 1, o_ic 20 2, o_x, o_call 99 k_X8_in 3, o_x, o_x, o_ne0 38, o_x, o_x, o_ic (-1) 1, o_ir, o_al 0 1, o_gi 8 2, o_x, o_x, o_ic 7 2, o_x, o_ine 50, o_x, o_x, o_ic (-3) 2, o_x, o_ir, o_al 0 1, o_call 8 k_X8_notes 1, o_x, o_x, o_al 0 1, o_al 0 1, o_gi 8 2, o_x, o_x, o_il 1 1, o_il 2 1, o_il 3 1, o_il 4 2, o_x, o_call 8 k_X8_sets 6, o_x, o_x, o_al 0 1, o_dup, o_gi 8 2, o_x, o_x, o_ic 1 1, o_add, o_pi 8 2, o_x, o_x, o_al 0 1, o_gi 8 2, o_x, o_x, o_ic 1 1, o_sub, o_ir]
/-- PokerEveningModel.strike(I)I -/
def tb_X8_strike : List pT := [o_al 0 1, o_il 1 1, o_call 8 k_X8_isClaim 2, o_x, o_x, o_ne0 10, o_x, o_x, o_ic (-1) 1, o_ir, o_al 0 1, o_call 8 k_X8_notes 1, o_x, o_x, o_il 1 1, o_ic 1 1, o_add, o_is 2 1, o_il 2 1, o_al 0 1, o_gi 8 2, o_x, o_x, o_ige 40, o_x, o_x, o_al 0 1, o_il 2 1, o_il 2 1, o_ic 1 1, o_sub, o_call 8 k_X8_copies 3, o_x, o_x, o_ii 2 1, o_x, o_x, o_goto 18, o_x, o_x, o_al 0 1, o_dup, o_gi 8 2, o_x, o_x, o_ic 1 1, o_sub, o_pi 8 2, o_x, o_x, o_al 0 1, o_gi 8 2, o_x, o_x, o_ir]
/-- PokerEveningModel.shifts(II)V -/
def tb_X8_shifts : List pT := [o_al 0 1, o_gr 8 6, o_x, o_x, o_il 1 1, o_ia, o_is 3 1, o_al 0 1, o_gr 8 7, o_x, o_x, o_il 1 1, o_ia, o_is 4 2, o_x, o_al 0 1, o_gr 8 8, o_x, o_x, o_il 1 1, o_ia, o_is 5 2, o_x, o_al 0 1, o_gr 8 9, o_x, o_x, o_il 1 1, o_ia, o_is 6 2, o_x, o_il 1 1, o_is 7 2, o_x, o_il 7 2, o_x, o_il 2 1, o_ige 56, o_x, o_x, o_al 0 1, o_il 7 2, o_x, o_ic 1 1, o_add, o_il 7 2, o_x, o_call 8 k_X8_copies 3, o_x, o_x, o_ii 7 1, o_x, o_x, o_goto 34, o_x, o_x, o_il 1 1, o_is 7 2, o_x, o_il 7 2, o_x, o_il 2 1, o_ile 81, o_x, o_x, o_al 0 1, o_il 7 2, o_x, o_ic 1 1, o_sub, o_il 7 2, o_x, o_call 8 k_X8_copies 3, o_x, o_x, o_ii 7 (-1), o_x, o_x, o_goto 59, o_x, o_x, o_al 0 1, o_il 2 1, o_il 3 1, o_il 4 2, o_x, o_il 5 2, o_x, o_il 6 2, o_x, o_call 8 k_X8_sets 6, o_x, o_x, o_vr]
/-- PokerEveningModel.shift(II)I -/
def tb_X8_shift : List pT := [o_al 0 1, o_il 1 1, o_call 8 k_X8_isClaim 2, o_x, o_x, o_eq0 16, o_x, o_x, o_al 0 1, o_il 2 1, o_call 8 k_X8_isClaim 2, o_x, o_x, o_ne0 18, o_x, o_x, o_ic (-1) 1, o_ir, o_il 1 1, o_il 2 1, o_ine 26, o_x, o_x, o_ic (-2) 2, o_x, o_ir, o_al 0 1, o_call 8 k_X8_notes 1, o_x, o_x, o_al 0 1, o_il 1 1, o_il 2 1, o_call 8 k_X8_shifts 3, o_x, o_x, o_il 1 1, o_il 2 1, o_sub, o_ic 10 2, o_x, o_add, o_ir]
/-- PokerEveningModel.grip(II)I -/
def tb_X8_grip : List pT := [o_al 0 1, o_il 1 1, o_call 8 k_X8_isTeller 2, o_x, o_x, o_eq0 18, o_x, o_x, o_il 2 1, o_ic 1 1, o_ic 40 2, o_x, o_call 99 k_X8_in 3, o_x, o_x, o_ne0 20, o_x, o_x, o_ic (-1) 1, o_ir, o_al 0 1, o_gr 8 5, o_x, o_x, o_il 1 1, o_ia, o_is 3 1, o_il 3 1, o_il 2 1, o_ine 35, o_x, o_x, o_ic (-2) 2, o_x, o_ir, o_al 0 1, o_call 8 k_X8_notes 1, o_x, o_x, o_al 0 1, o_gr 8 5, o_x, o_x, o_il 1 1, o_il 2 1, o_ist, o_il 3 1, o_ir]
/-- PokerEveningModel.undo()I -/
def tb_X8_undo : List pT := [o_al 0 1, o_gi 8 30, o_x, o_x, o_ne0 10, o_x, o_x, o_ic (-2) 2, o_x, o_ir, o_al 0 1, o_dup, o_gi 8 30, o_x, o_x, o_ic 1 1, o_sub, o_pi 8 30, o_x, o_x, o_al 0 1, o_al 0 1, o_gr 8 29, o_x, o_x, o_ic 35 2, o_x, o_al 0 1, o_gi 8 30, o_x, o_x, o_mul, o_call 8 k_X8_takes 3, o_x, o_x, o_al 0 1, o_gi 8 30, o_x, o_x, o_ir]
/-- PokerEveningModel.drops(I)I -/
def tb_X8_drops : List pT := [o_al 0 1, o_il 1 1, o_call 8 k_X8_isTeller 2, o_x, o_x, o_ne0 10, o_x, o_x, o_ic (-1) 1, o_ir, o_al 0 1, o_ic 0 1, o_call 8 k_X8_without 2, o_x, o_x, o_al 0 1, o_gr 8 25, o_x, o_x, o_il 1 1, o_ia, o_ir]
/-- PokerEveningModel.told()I -/
def tb_X8_told : List pT := [o_al 0 1, o_ic 0 1, o_call 8 k_X8_without 2, o_x, o_x, o_al 0 1, o_gi 8 27, o_x, o_x, o_ir]
/-- PokerEveningModel.hot(I)I -/
def tb_X8_hot : List pT := [o_al 0 1, o_il 1 1, o_call 8 k_X8_isClaim 2, o_x, o_x, o_ne0 10, o_x, o_x, o_ic (-1) 1, o_ir, o_al 0 1, o_ic 0 1, o_call 8 k_X8_without 2, o_x, o_x, o_al 0 1, o_gr 8 26, o_x, o_x, o_il 1 1, o_ia, o_ir]
/-- PokerEveningModel.hottest()I -/
def tb_X8_hottest : List pT := [o_al 0 1, o_ic 0 1, o_call 8 k_X8_without 2, o_x, o_x, o_al 0 1, o_gi 8 28, o_x, o_x, o_ir]
/-- PokerEveningModel.nextRow()Z -/
def tb_X8_nextRow : List pT := [o_al 0 1, o_gi 8 2, o_x, o_x, o_ic 2 1, o_sub, o_is 1 1, o_il 1 1, o_lt0 34, o_x, o_x, o_al 0 1, o_gr 8 24, o_x, o_x, o_il 1 1, o_ia, o_al 0 1, o_gr 8 24, o_x, o_x, o_il 1 1, o_ic 1 1, o_add, o_ia, o_ile 34, o_x, o_x, o_ii 1 (-1), o_x, o_x, o_goto 7, o_x, o_x, o_il 1 1, o_ge0 40, o_x, o_x, o_ic 0 1, o_zr, o_al 0 1, o_gi 8 2, o_x, o_x, o_ic 1 1, o_sub, o_is 2 1, o_al 0 1, o_gr 8 24, o_x, o_x, o_il 2 1, o_ia, o_al 0 1, o_gr 8 24, o_x, o_x, o_il 1 1, o_ia, o_ige 68, o_x, o_x, o_ii 2 (-1), o_x, o_x, o_goto 47, o_x, o_x, o_al 0 1, o_gr 8 24, o_x, o_x, o_il 1 1, o_ia, o_is 3 1, o_al 0 1, o_gr 8 24, o_x, o_x, o_il 1 1, o_al 0 1, o_gr 8 24, o_x, o_x, o_il 2 1, o_ia, o_ist, o_al 0 1, o_gr 8 24, o_x, o_x, o_il 2 1, o_il 3 1, o_ist, o_al 0 1, o_gi 8 2, o_x, o_x, o_ic 1 1, o_sub, o_is 4 2, o_x, o_il 1 1, o_ic 1 1, o_add, o_is 5 2, o_x, o_il 5 2, o_x, o_il 4 2, o_x, o_ige 155, o_x, o_x, o_al 0 1, o_gr 8 24, o_x, o_x, o_il 5 2, o_x, o_ia, o_is 6 2, o_x, o_al 0 1, o_gr 8 24, o_x, o_x, o_il 5 2, o_x, o_al 0 1, o_gr 8 24, o_x, o_x, o_il 4 2, o_x, o_ia, o_ist, o_al 0 1, o_gr 8 24, o_x, o_x, o_il 4 2, o_x, o_il 6 2, o_x, o_ist, o_ii 4 (-1), o_x, o_x, o_ii 5 1, o_x, o_x, o_goto 107, o_x, o_x, o_ic 1 1, o_zr]
/-- PokerEveningModel.order(I)I -/
def tb_X8_order : List pT := [o_il 1 1, o_ic (-1) 1, o_al 0 1, o_gi 8 2, o_x, o_x, o_ic 1 1, o_sub, o_call 99 k_X8_in 3, o_x, o_x, o_ne0 16, o_x, o_x, o_ic (-1) 1, o_ir, o_ic 0 1, o_is 2 1, o_il 2 1, o_al 0 1, o_gi 8 2, o_x, o_x, o_ige 39, o_x, o_x, o_al 0 1, o_gr 8 24, o_x, o_x, o_il 2 1, o_il 2 1, o_ist, o_ii 2 1, o_x, o_x, o_goto 18, o_x, o_x, o_ic (-1) 1, o_is 2 1, o_ic 1 1, o_is 3 1, o_il 3 1, o_eq0 114, o_x, o_x, o_al 0 1, o_al 0 1, o_gi 8 2, o_x, o_x, o_call 8 k_X8_evening 2, o_x, o_x, o_al 0 1, o_gi 8 27, o_x, o_x, o_call 99 k_X8_bits 1, o_x, o_x, o_il 2 1, o_ile 106, o_x, o_x, o_al 0 1, o_gi 8 27, o_x, o_x, o_call 99 k_X8_bits 1, o_x, o_x, o_is 2 1, o_ic 0 1, o_is 4 2, o_x, o_il 4 2, o_x, o_al 0 1, o_gi 8 2, o_x, o_x, o_ige 106, o_x, o_x, o_al 0 1, o_gr 8 31, o_x, o_x, o_il 4 2, o_x, o_al 0 1, o_gr 8 24, o_x, o_x, o_il 4 2, o_x, o_ia, o_ist, o_ii 4 1, o_x, o_x, o_goto 77, o_x, o_x, o_al 0 1, o_call 8 k_X8_nextRow 1, o_x, o_x, o_is 3 1, o_goto 43, o_x, o_x, o_il 1 1, o_ge0 122, o_x, o_x, o_il 2 1, o_goto 128, o_x, o_x, o_al 0 1, o_gr 8 31, o_x, o_x, o_il 1 1, o_ia, o_ir]
/-- PokerEveningModel.leave(II)I -/
def tb_X8_leave : List pT := [o_al 0 1, o_il 1 1, o_call 8 k_X8_isTeller 2, o_x, o_x, o_eq0 17, o_x, o_x, o_il 2 1, o_ic 0 1, o_ic 1 1, o_call 99 k_X8_in 3, o_x, o_x, o_ne0 19, o_x, o_x, o_ic (-1) 1, o_ir, o_ic (-4) 2, o_x, o_is 3 1, o_ic 1048576 2, o_x, o_is 4 2, o_x, o_ic 0 1, o_is 5 2, o_x, o_il 5 2, o_x, o_ic 1 1, o_al 0 1, o_gi 8 2, o_x, o_x, o_shl, o_ige 83, o_x, o_x, o_il 5 2, o_x, o_call 99 k_X8_bits 1, o_x, o_x, o_il 4 2, o_x, o_ige 77, o_x, o_x, o_al 0 1, o_il 5 2, o_x, o_call 8 k_X8_without 2, o_x, o_x, o_al 0 1, o_gr 8 25, o_x, o_x, o_il 1 1, o_ia, o_ic (-4) 2, o_x, o_ine 77, o_x, o_x, o_il 5 2, o_x, o_is 3 1, o_il 5 2, o_x, o_call 99 k_X8_bits 1, o_x, o_x, o_is 4 2, o_x, o_ii 5 1, o_x, o_x, o_goto 29, o_x, o_x, o_il 2 1, o_ne0 92, o_x, o_x, o_il 4 2, o_x, o_goto 93, o_x, o_x, o_il 3 1, o_ir]
/-- PokerEveningModel.goneBy(II)I -/
def tb_X8_goneBy : List pT := [o_ic 0 1, o_is 3 1, o_ic 0 1, o_is 4 2, o_x, o_il 4 2, o_x, o_al 0 1, o_gi 8 2, o_x, o_x, o_ige 46, o_x, o_x, o_al 0 1, o_gr 8 6, o_x, o_x, o_il 4 2, o_x, o_ia, o_il 1 1, o_ine 40, o_x, o_x, o_il 3 1, o_ic 1 1, o_il 4 2, o_x, o_shl, o_or, o_is 3 1, o_al 0 1, o_gr 8 6, o_x, o_x, o_il 4 2, o_x, o_il 2 1, o_ist, o_ii 4 1, o_x, o_x, o_goto 5, o_x, o_x, o_al 0 1, o_ic 0 1, o_call 8 k_X8_without 2, o_x, o_x, o_ic 0 1, o_is 4 2, o_x, o_il 4 2, o_x, o_al 0 1, o_gi 8 2, o_x, o_x, o_ige 96, o_x, o_x, o_al 0 1, o_gr 8 6, o_x, o_x, o_il 4 2, o_x, o_il 3 1, o_il 4 2, o_x, o_call 99 k_X8_has 2, o_x, o_x, o_eq0 82, o_x, o_x, o_il 1 1, o_goto 89, o_x, o_x, o_al 0 1, o_gr 8 6, o_x, o_x, o_il 4 2, o_x, o_ia, o_ist, o_ii 4 1, o_x, o_x, o_goto 54, o_x, o_x, o_al 0 1, o_call 8 k_X8_gone 1, o_x, o_x, o_ir]
/-- PokerEveningModel.holds(II)I -/
def tb_X8_holds : List pT := [o_al 0 1, o_il 1 1, o_call 8 k_X8_isTeller 2, o_x, o_x, o_eq0 17, o_x, o_x, o_il 2 1, o_ic 0 1, o_ic 1 1, o_call 99 k_X8_in 3, o_x, o_x, o_ne0 19, o_x, o_x, o_ic (-1) 1, o_ir, o_ic (-4) 2, o_x, o_is 3 1, o_ic 1048576 2, o_x, o_is 4 2, o_x, o_ic 0 1, o_is 5 2, o_x, o_il 5 2, o_x, o_al 0 1, o_gi 8 0, o_x, o_x, o_ige 83, o_x, o_x, o_al 0 1, o_il 1 1, o_il 5 2, o_x, o_call 8 k_X8_goneBy 3, o_x, o_x, o_is 6 2, o_x, o_il 6 2, o_x, o_il 4 2, o_x, o_ige 59, o_x, o_x, o_il 5 2, o_x, o_goto 60, o_x, o_x, o_il 3 1, o_is 3 1, o_il 6 2, o_x, o_il 4 2, o_x, o_ige 73, o_x, o_x, o_il 6 2, o_x, o_goto 75, o_x, o_x, o_il 4 2, o_x, o_is 4 2, o_x, o_ii 5 1, o_x, o_x, o_goto 29, o_x, o_x, o_il 2 1, o_ne0 91, o_x, o_x, o_il 3 1, o_goto 93, o_x, o_x, o_il 4 2, o_x, o_ir]
/-- PokerEveningModel.seen(II)I -/
def tb_X8_seen : List pT := [o_al 0 1, o_il 1 1, o_call 8 k_X8_isTeller 2, o_x, o_x, o_eq0 18, o_x, o_x, o_il 2 1, o_ic 0 1, o_ic 7 2, o_x, o_call 99 k_X8_in 3, o_x, o_x, o_ne0 20, o_x, o_x, o_ic (-1) 1, o_ir, o_al 0 1, o_gi 8 10, o_x, o_x, o_ic 6 2, o_x, o_ine 32, o_x, o_x, o_ic (-3) 2, o_x, o_ir, o_al 0 1, o_gr 8 11, o_x, o_x, o_al 0 1, o_gi 8 10, o_x, o_x, o_il 1 1, o_ist, o_al 0 1, o_gr 8 12, o_x, o_x, o_al 0 1, o_gi 8 10, o_x, o_x, o_il 2 1, o_ist, o_al 0 1, o_dup, o_gi 8 10, o_x, o_x, o_ic 1 1, o_add, o_pi 8 10, o_x, o_x, o_al 0 1, o_gi 8 10, o_x, o_x, o_ir]
/-- PokerEveningModel.forget()I -/
def tb_X8_forget : List pT := [o_al 0 1, o_gi 8 10, o_x, o_x, o_is 1 1, o_al 0 1, o_ic 0 1, o_pi 8 10, o_x, o_x, o_il 1 1, o_ir]
/-- PokerEveningModel.isSo()Z -/
def tb_X8_isSo : List pT := [o_al 0 1, o_ic 0 1, o_call 8 k_X8_without 2, o_x, o_x, o_ic 1 1, o_is 1 1, o_ic 0 1, o_is 2 1, o_il 2 1, o_al 0 1, o_gi 8 10, o_x, o_x, o_ige 75, o_x, o_x, o_al 0 1, o_gr 8 25, o_x, o_x, o_al 0 1, o_gr 8 11, o_x, o_x, o_il 2 1, o_ia, o_ia, o_is 3 1, o_il 1 1, o_eq0 67, o_x, o_x, o_il 3 1, o_ic (-4) 2, o_x, o_ine 53, o_x, o_x, o_al 0 1, o_gr 8 12, o_x, o_x, o_il 2 1, o_ia, o_ic 7 2, o_x, o_ine 67, o_x, o_x, o_goto 63, o_x, o_x, o_al 0 1, o_gr 8 12, o_x, o_x, o_il 2 1, o_ia, o_il 3 1, o_ine 67, o_x, o_x, o_ic 1 1, o_goto 68, o_x, o_x, o_ic 0 1, o_is 1 1, o_ii 2 1, o_x, o_x, o_goto 9, o_x, o_x, o_il 1 1, o_zr]
/-- PokerEveningModel.worlds(I)I -/
def tb_X8_worlds : List pT := [o_il 1 1, o_ic 0 1, o_ic 3 1, o_call 99 k_X8_in 3, o_x, o_x, o_ne0 11, o_x, o_x, o_ic (-1) 1, o_ir, o_al 0 1, o_gi 8 3, o_x, o_x, o_is 2 1, o_ic 1 1, o_al 0 1, o_gi 8 1, o_x, o_x, o_shl, o_ic 1 1, o_sub, o_is 3 1, o_ic 0 1, o_is 4 2, o_x, o_ic (-4) 2, o_x, o_is 5 2, o_x, o_il 3 1, o_is 6 2, o_x, o_ic 0 1, o_is 7 2, o_x, o_ic 0 1, o_is 8 2, o_x, o_il 8 2, o_x, o_il 3 1, o_igt 97, o_x, o_x, o_al 0 1, o_il 8 2, o_x, o_pi 8 3, o_x, o_x, o_al 0 1, o_call 8 k_X8_isSo 1, o_x, o_x, o_eq0 91, o_x, o_x, o_il 4 2, o_x, o_ne0 70, o_x, o_x, o_il 8 2, o_x, o_goto 72, o_x, o_x, o_il 5 2, o_x, o_is 5 2, o_x, o_ii 4 1, o_x, o_x, o_il 6 2, o_x, o_il 8 2, o_x, o_and, o_is 6 2, o_x, o_il 7 2, o_x, o_il 8 2, o_x, o_or, o_is 7 2, o_x, o_ii 8 1, o_x, o_x, o_goto 41, o_x, o_x, o_al 0 1, o_il 2 1, o_pi 8 3, o_x, o_x, o_il 1 1, o_eq0 111, o_x, o_x, o_il 4 2, o_x, o_ne0 123, o_x, o_x, o_il 1 1, o_ne0 120, o_x, o_x, o_il 4 2, o_x, o_goto 122, o_x, o_x, o_ic (-4) 2, o_x, o_ir, o_il 1 1, o_ic 1 1, o_ine 133, o_x, o_x, o_il 5 2, o_x, o_goto 149, o_x, o_x, o_il 1 1, o_ic 2 1, o_ine 143, o_x, o_x, o_il 6 2, o_x, o_goto 149, o_x, o_x, o_il 3 1, o_il 7 2, o_x, o_ic (-1) 1, o_xor, o_and, o_ir]
/-- PokerEveningModel.next(II)I -/
def tb_X8_next : List pT := [o_al 0 1, o_il 1 1, o_call 8 k_X8_isTeller 2, o_x, o_x, o_eq0 18, o_x, o_x, o_il 2 1, o_ic 1 1, o_ic 20 2, o_x, o_call 99 k_X8_in 3, o_x, o_x, o_ne0 20, o_x, o_x, o_ic (-1) 1, o_ir, o_al 0 1, o_gi 8 2, o_x, o_x, o_ic 7 2, o_x, o_ine 32, o_x, o_x, o_ic (-4) 2, o_x, o_ir, o_al 0 1, o_gi 8 3, o_x, o_x, o_is 3 1, o_ic (-4) 2, o_x, o_is 4 2, o_x, o_ic 1048576 2, o_x, o_is 5 2, o_x, o_ic 0 1, o_is 6 2, o_x, o_il 6 2, o_x, o_al 0 1, o_gi 8 1, o_x, o_x, o_ige 235, o_x, o_x, o_ic 0 1, o_is 7 2, o_x, o_ic 0 1, o_is 8 2, o_x, o_ic 0 1, o_is 9 2, o_x, o_il 9 2, o_x, o_ic 1 1, o_al 0 1, o_gi 8 1, o_x, o_x, o_shl, o_ige 160, o_x, o_x, o_al 0 1, o_il 9 2, o_x, o_pi 8 3, o_x, o_x, o_al 0 1, o_call 8 k_X8_isSo 1, o_x, o_x, o_eq0 154, o_x, o_x, o_ii 8 1, o_x, o_x, o_al 0 1, o_al 0 1, o_gi 8 2, o_x, o_x, o_il 1 1, o_il 6 2, o_x, o_ic 1 1, o_il 2 1, o_call 8 k_X8_sets 6, o_x, o_x, o_al 0 1, o_dup, o_gi 8 2, o_x, o_x, o_ic 1 1, o_add, o_pi 8 2, o_x, o_x, o_al 0 1, o_ic 0 1, o_call 8 k_X8_without 2, o_x, o_x, o_al 0 1, o_dup, o_gi 8 2, o_x, o_x, o_ic 1 1, o_sub, o_pi 8 2, o_x, o_x, o_il 7 2, o_x, o_al 0 1, o_gr 8 25, o_x, o_x, o_il 1 1, o_ia, o_al 0 1, o_gi 8 2, o_x, o_x, o_ine 150, o_x, o_x, o_ic 1 1, o_goto 151, o_x, o_x, o_ic 0 1, o_add, o_is 7 2, o_x, o_ii 9 1, o_x, o_x, o_goto 66, o_x, o_x, o_il 7 2, o_x, o_il 8 2, o_x, o_il 7 2, o_x, o_sub, o_ile 175, o_x, o_x, o_il 7 2, o_x, o_goto 180, o_x, o_x, o_il 8 2, o_x, o_il 7 2, o_x, o_sub, o_is 9 2, o_x, o_il 8 2, o_x, o_le0 198, o_x, o_x, o_il 9 2, o_x, o_il 5 2, o_x, o_ige 198, o_x, o_x, o_ic 1 1, o_goto 199, o_x, o_x, o_ic 0 1, o_is 10 2, o_x, o_il 10 2, o_x, o_eq0 211, o_x, o_x, o_il 6 2, o_x, o_goto 213, o_x, o_x, o_il 4 2, o_x, o_is 4 2, o_x, o_il 10 2, o_x, o_eq0 225, o_x, o_x, o_il 9 2, o_x, o_goto 227, o_x, o_x, o_il 5 2, o_x, o_is 5 2, o_x, o_ii 6 1, o_x, o_x, o_goto 48, o_x, o_x, o_al 0 1, o_il 3 1, o_pi 8 3, o_x, o_x, o_il 4 2, o_x, o_ir]
/-- PokerEveningModel.kinds(I)I -/
def tb_X8_kinds : List pT := [o_al 0 1, o_il 1 1, o_call 8 k_X8_isTeller 2, o_x, o_x, o_ne0 10, o_x, o_x, o_ic (-1) 1, o_ir, o_al 0 1, o_gr 8 4, o_x, o_x, o_il 1 1, o_ia, o_is 2 1, o_ic 0 1, o_is 3 1, o_ic 0 1, o_is 4 2, o_x, o_il 4 2, o_x, o_ic 3 1, o_igt 60, o_x, o_x, o_al 0 1, o_gr 8 4, o_x, o_x, o_il 1 1, o_il 4 2, o_x, o_ist, o_il 3 1, o_al 0 1, o_call 8 k_X8_isSo 1, o_x, o_x, o_eq0 51, o_x, o_x, o_ic 1 1, o_il 4 2, o_x, o_shl, o_goto 52, o_x, o_x, o_ic 0 1, o_or, o_is 3 1, o_ii 4 1, o_x, o_x, o_goto 22, o_x, o_x, o_al 0 1, o_gr 8 4, o_x, o_x, o_il 1 1, o_il 2 1, o_ist, o_il 3 1, o_ir]
/-- PokerEveningModel.grips(II)I -/
def tb_X8_grips : List pT := [o_al 0 1, o_il 1 1, o_call 8 k_X8_isTeller 2, o_x, o_x, o_eq0 17, o_x, o_x, o_il 2 1, o_ic 0 1, o_ic 1 1, o_call 99 k_X8_in 3, o_x, o_x, o_ne0 19, o_x, o_x, o_ic (-1) 1, o_ir, o_al 0 1, o_gr 8 5, o_x, o_x, o_il 1 1, o_ia, o_is 3 1, o_ic 0 1, o_is 4 2, o_x, o_ic (-4) 2, o_x, o_is 5 2, o_x, o_ic 1 1, o_is 6 2, o_x, o_il 6 2, o_x, o_ic 40 2, o_x, o_igt 97, o_x, o_x, o_al 0 1, o_gr 8 5, o_x, o_x, o_il 1 1, o_il 6 2, o_x, o_ist, o_al 0 1, o_call 8 k_X8_isSo 1, o_x, o_x, o_is 7 2, o_x, o_il 7 2, o_x, o_eq0 72, o_x, o_x, o_il 4 2, o_x, o_ne0 72, o_x, o_x, o_il 6 2, o_x, o_goto 74, o_x, o_x, o_il 5 2, o_x, o_is 5 2, o_x, o_il 4 2, o_x, o_il 7 2, o_x, o_eq0 87, o_x, o_x, o_ic 1 1, o_goto 88, o_x, o_x, o_ic 0 1, o_add, o_is 4 2, o_x, o_ii 6 1, o_x, o_x, o_goto 36, o_x, o_x, o_al 0 1, o_gr 8 5, o_x, o_x, o_il 1 1, o_il 3 1, o_ist, o_il 2 1, o_ne0 113, o_x, o_x, o_il 4 2, o_x, o_goto 115, o_x, o_x, o_il 5 2, o_x, o_ir]
/-- PokerEveningModel.common(JJ)J -/
def tb_X8_common : List pT := [o_ll 0 1, o_lst 4 2, o_x, o_ll 2 1, o_lst 6 2, o_x, o_ll 6 2, o_x, o_lc 0 1, o_lcmp, o_eq0 31, o_x, o_x, o_ll 4 2, o_x, o_ll 6 2, o_x, o_lrem, o_lst 8 2, o_x, o_ll 6 2, o_x, o_lst 4 2, o_x, o_ll 8 2, o_x, o_lst 6 2, o_x, o_goto 6, o_x, o_x, o_ll 4 2, o_x, o_lr]
/-- PokerEveningModel.likely(III)I -/
def tb_X8_likely : List pT := [o_al 0 1, o_il 1 1, o_call 8 k_X8_isTeller 2, o_x, o_x, o_eq0 27, o_x, o_x, o_il 2 1, o_ic 0 1, o_ic 10 2, o_x, o_call 99 k_X8_in 3, o_x, o_x, o_eq0 27, o_x, o_x, o_il 3 1, o_ic 0 1, o_ic 1 1, o_call 99 k_X8_in 3, o_x, o_x, o_ne0 29, o_x, o_x, o_ic (-1) 1, o_ir, o_al 0 1, o_gi 8 3, o_x, o_x, o_is 4 2, o_x, o_lc 0 1, o_lst 5 2, o_x, o_lc 1 1, o_lst 7 2, o_x, o_ic 0 1, o_is 9 2, o_x, o_il 9 2, o_x, o_al 0 1, o_gi 8 1, o_x, o_x, o_ige 67, o_x, o_x, o_ll 7 2, o_x, o_lc 10 3, o_x, o_x, o_lmul, o_lst 7 2, o_x, o_ii 9 1, o_x, o_x, o_goto 44, o_x, o_x, o_ic 0 1, o_is 9 2, o_x, o_il 9 2, o_x, o_ic 1 1, o_al 0 1, o_gi 8 1, o_x, o_x, o_shl, o_ige 166, o_x, o_x, o_al 0 1, o_il 9 2, o_x, o_pi 8 3, o_x, o_x, o_al 0 1, o_ic 0 1, o_call 8 k_X8_without 2, o_x, o_x, o_lc 1 1, o_lst 10 2, o_x, o_ic 0 1, o_is 12 2, o_x, o_il 12 2, o_x, o_al 0 1, o_gi 8 1, o_x, o_x, o_ige 138, o_x, o_x, o_ll 10 2, o_x, o_il 9 2, o_x, o_il 12 2, o_x, o_call 99 k_X8_has 2, o_x, o_x, o_eq0 124, o_x, o_x, o_il 2 1, o_i2l, o_goto 129, o_x, o_x, o_ic 10 2, o_x, o_il 2 1, o_sub, o_i2l, o_lmul, o_lst 10 2, o_x, o_ii 12 1, o_x, o_x, o_goto 98, o_x, o_x, o_ll 5 2, o_x, o_al 0 1, o_gr 8 25, o_x, o_x, o_il 1 1, o_ia, o_ic (-4) 2, o_x, o_ine 155, o_x, o_x, o_lc 0 1, o_goto 157, o_x, o_x, o_ll 10 2, o_x, o_ladd, o_lst 5 2, o_x, o_ii 9 1, o_x, o_x, o_goto 70, o_x, o_x, o_al 0 1, o_il 4 2, o_x, o_pi 8 3, o_x, o_x, o_ll 5 2, o_x, o_ll 7 2, o_x, o_call 99 k_X8_common 2, o_x, o_x, o_lst 9 2, o_x, o_il 3 1, o_ne0 193, o_x, o_x, o_ll 5 2, o_x, o_ll 9 2, o_x, o_ldiv, o_goto 198, o_x, o_x, o_ll 7 2, o_x, o_ll 9 2, o_x, o_ldiv, o_l2i, o_ir]
/-- PokerEveningModel.evenings(III)I -/
def tb_X8_evenings : List pT := [o_il 1 1, o_ic 0 1, o_ic 9999 3, o_x, o_x, o_call 99 k_X8_in 3, o_x, o_x, o_eq0 30, o_x, o_x, o_il 2 1, o_ic 1 1, o_ic 60 2, o_x, o_call 99 k_X8_in 3, o_x, o_x, o_eq0 30, o_x, o_x, o_il 3 1, o_ic 0 1, o_ic 2 1, o_call 99 k_X8_in 3, o_x, o_x, o_ne0 32, o_x, o_x, o_ic (-1) 1, o_ir, o_al 0 1, o_al 0 1, o_gr 8 32, o_x, o_x, o_ic 0 1, o_call 8 k_X8_lays 3, o_x, o_x, o_ic 0 1, o_is 4 2, o_x, o_ic 0 1, o_is 5 2, o_x, o_ic 0 1, o_is 6 2, o_x, o_ic 0 1, o_is 7 2, o_x, o_il 7 2, o_x, o_il 2 1, o_ige 205, o_x, o_x, o_lc 7919 3, o_x, o_x, o_il 1 1, o_i2l, o_lmul, o_lc 6151 3, o_x, o_x, o_il 7 2, o_x, o_i2l, o_lmul, o_ladd, o_lc 1 1, o_ladd, o_lst 8 2, o_x, o_ll 8 2, o_x, o_ll 8 2, o_x, o_lmul, o_lc 65521 3, o_x, o_x, o_lrem, o_lc 2 3, o_x, o_x, o_ldiv, o_l2i, o_is 10 2, o_x, o_al 0 1, o_dup, o_gi 8 3, o_x, o_x, o_il 10 2, o_x, o_ic 8 2, o_x, o_div, o_ic 2 1, o_rem, o_ne0 120, o_x, o_x, o_ic 1 1, o_il 10 2, o_x, o_al 0 1, o_gi 8 1, o_x, o_x, o_rem, o_shl, o_goto 121, o_x, o_x, o_ic 0 1, o_xor, o_pi 8 3, o_x, o_x, o_il 10 2, o_x, o_ic 16 2, o_x, o_div, o_ic 4 1, o_rem, o_ne0 153, o_x, o_x, o_al 0 1, o_gi 8 2, o_x, o_x, o_le0 153, o_x, o_x, o_al 0 1, o_ic 0 1, o_al 0 1, o_gi 8 2, o_x, o_x, o_ic 1 1, o_sub, o_call 8 k_X8_shifts 3, o_x, o_x, o_al 0 1, o_ic 0 1, o_call 8 k_X8_without 2, o_x, o_x, o_il 4 2, o_x, o_al 0 1, o_call 8 k_X8_gone 1, o_x, o_x, o_add, o_is 4 2, o_x, o_il 5 2, o_x, o_al 0 1, o_gi 8 27, o_x, o_x, o_call 99 k_X8_bits 1, o_x, o_x, o_add, o_is 5 2, o_x, o_al 0 1, o_gi 8 28, o_x, o_x, o_il 6 2, o_x, o_ile 195, o_x, o_x, o_al 0 1, o_gi 8 28, o_x, o_x, o_goto 197, o_x, o_x, o_il 6 2, o_x, o_is 6 2, o_x, o_ii 7 1, o_x, o_x, o_goto 53, o_x, o_x, o_al 0 1, o_al 0 1, o_gr 8 32, o_x, o_x, o_ic 0 1, o_call 8 k_X8_takes 3, o_x, o_x, o_il 3 1, o_ne0 223, o_x, o_x, o_il 4 2, o_x, o_goto 235, o_x, o_x, o_il 3 1, o_ic 1 1, o_ine 233, o_x, o_x, o_il 5 2, o_x, o_goto 235, o_x, o_x, o_il 6 2, o_x, o_ir]
/-- PokerEveningModel.keep()I -/
def tb_X8_keep : List pT := [o_al 0 1, o_gi 8 34, o_x, o_x, o_ic 2 1, o_ine 11, o_x, o_x, o_ic (-3) 2, o_x, o_ir, o_al 0 1, o_al 0 1, o_gr 8 33, o_x, o_x, o_ic 35 2, o_x, o_al 0 1, o_gi 8 34, o_x, o_x, o_mul, o_call 8 k_X8_lays 3, o_x, o_x, o_al 0 1, o_dup, o_gi 8 34, o_x, o_x, o_ic 1 1, o_add, o_pi 8 34, o_x, o_x, o_al 0 1, o_gi 8 34, o_x, o_x, o_ir]
/-- PokerEveningModel.back()I -/
def tb_X8_back : List pT := [o_al 0 1, o_gi 8 34, o_x, o_x, o_ne0 10, o_x, o_x, o_ic (-2) 2, o_x, o_ir, o_al 0 1, o_dup, o_gi 8 34, o_x, o_x, o_ic 1 1, o_sub, o_pi 8 34, o_x, o_x, o_al 0 1, o_al 0 1, o_gr 8 33, o_x, o_x, o_ic 35 2, o_x, o_al 0 1, o_gi 8 34, o_x, o_x, o_mul, o_call 8 k_X8_takes 3, o_x, o_x, o_al 0 1, o_ic 0 1, o_pi 8 30, o_x, o_x, o_al 0 1, o_gi 8 34, o_x, o_x, o_ir]
/-- PokerEveningModel.falseMany()I -/
def tb_X8_falseMany : List pT := [o_ic 0 1, o_is 1 1, o_ic 0 1, o_is 2 1, o_il 2 1, o_al 0 1, o_gi 8 2, o_x, o_x, o_ige 34, o_x, o_x, o_il 1 1, o_al 0 1, o_il 2 1, o_call 8 k_X8_isFalse 2, o_x, o_x, o_eq0 25, o_x, o_x, o_ic 1 1, o_goto 26, o_x, o_x, o_ic 0 1, o_add, o_is 1 1, o_ii 2 1, o_x, o_x, o_goto 4, o_x, o_x, o_il 1 1, o_ir]
/-- PokerEveningModel.count(I)I -/
def tb_X8_count : List pT := [o_il 1 1, o_ic 0 1, o_ic 10 2, o_x, o_call 99 k_X8_in 3, o_x, o_x, o_ne0 12, o_x, o_x, o_ic (-1) 1, o_ir, o_al 0 1, o_ic 0 1, o_call 8 k_X8_without 2, o_x, o_x, o_il 1 1, o_sw [(0, 72), (1, 77), (2, 82), (3, 87), (4, 95), (5, 100), (6, 108), (7, 113), (8, 118), (9, 123)] 128, o_x, o_x, o_x, o_x, o_x, o_x, o_x, o_x, o_x, o_x, o_x, o_x, o_x, o_x, o_x, o_x, o_x, o_x, o_x, o_x, o_x, o_x, o_x, o_x, o_x, o_x, o_x, o_x, o_x, o_x, o_x, o_x, o_x, o_x, o_x, o_x, o_x, o_x, o_x, o_x, o_x, o_x, o_x, o_x, o_x, o_x, o_x, o_x, o_x, o_x, o_x, o_x, o_x, o_al 0 1, o_gi 8 0, o_x, o_x, o_ir, o_al 0 1, o_gi 8 1, o_x, o_x, o_ir, o_al 0 1, o_gi 8 2, o_x, o_x, o_ir, o_al 0 1, o_gi 8 3, o_x, o_x, o_call 99 k_X8_bits 1, o_x, o_x, o_ir, o_al 0 1, o_call 8 k_X8_falseMany 1, o_x, o_x, o_ir, o_al 0 1, o_gi 8 27, o_x, o_x, o_call 99 k_X8_bits 1, o_x, o_x, o_ir, o_al 0 1, o_call 8 k_X8_gone 1, o_x, o_x, o_ir, o_al 0 1, o_gi 8 10, o_x, o_x, o_ir, o_al 0 1, o_gi 8 30, o_x, o_x, o_ir, o_al 0 1, o_gi 8 34, o_x, o_x, o_ir, o_al 0 1, o_gi 8 14, o_x, o_x, o_ir]
/-- java/lang/Integer.bitCount(I)I -/
def tb_J6_bitCount : List pT := [o_il 0 1, o_il 0 1, o_ic 1 1, o_ushr, o_ic 1431655765 3, o_x, o_x, o_and, o_sub, o_is 0 1, o_il 0 1, o_ic 858993459 3, o_x, o_x, o_and, o_il 0 1, o_ic 2 1, o_ushr, o_ic 858993459 3, o_x, o_x, o_and, o_add, o_is 0 1, o_il 0 1, o_il 0 1, o_ic 4 1, o_ushr, o_add, o_ic 252645135 3, o_x, o_x, o_and, o_is 0 1, o_il 0 1, o_il 0 1, o_ic 8 2, o_x, o_ushr, o_add, o_is 0 1, o_il 0 1, o_il 0 1, o_ic 16 2, o_x, o_ushr, o_add, o_is 0 1, o_il 0 1, o_ic 63 2, o_x, o_and, o_ir]
/-- java/lang/Long.bitCount(J)I -/
def tb_J13_bitCount : List pT := [o_ll 0 1, o_ll 0 1, o_ic 1 1, o_lushr, o_lc 6148914691236517205 3, o_x, o_x, o_land, o_lsub, o_lst 0 1, o_ll 0 1, o_lc 3689348814741910323 3, o_x, o_x, o_land, o_ll 0 1, o_ic 2 1, o_lushr, o_lc 3689348814741910323 3, o_x, o_x, o_land, o_ladd, o_lst 0 1, o_ll 0 1, o_ll 0 1, o_ic 4 1, o_lushr, o_ladd, o_lc 1085102592571150095 3, o_x, o_x, o_land, o_lst 0 1, o_ll 0 1, o_ll 0 1, o_ic 8 2, o_x, o_lushr, o_ladd, o_lst 0 1, o_ll 0 1, o_ll 0 1, o_ic 16 2, o_x, o_lushr, o_ladd, o_lst 0 1, o_ll 0 1, o_ll 0 1, o_ic 32 2, o_x, o_lushr, o_ladd, o_lst 0 1, o_ll 0 1, o_l2i, o_ic 127 2, o_x, o_and, o_ir]
/-- java/lang/Math.max(II)I -/
def tb_J9_max : List pT := [o_il 0 1, o_il 1 1, o_ilt 9, o_x, o_x, o_il 0 1, o_goto 10, o_x, o_x, o_il 1 1, o_ir]
/-- java/lang/Math.min(II)I -/
def tb_J9_min : List pT := [o_il 0 1, o_il 1 1, o_igt 9, o_x, o_x, o_il 0 1, o_goto 10, o_x, o_x, o_il 1 1, o_ir]
def tb_law (xs : Nat → Int32) (L : Nat) : List pT := [o_x, o_x, o_x, o_dup, o_x, o_x, o_x, o_as 1 1, o_x, o_x, o_x, o_dup, o_x, o_x, o_x, o_as 2 1, o_ic 0 1, o_is 3 1, o_il 3 1, o_al 0 1, o_zl L, o_ic 5 1, o_sub, o_igt 961, o_x, o_x, o_al 0 1, o_il 3 1, o_za xs L, o_ic 31 2, o_x, o_and, o_sw [(0, 172), (1, 195), (2, 208), (3, 221), (4, 234), (5, 267), (6, 290), (7, 323), (8, 346), (9, 399), (10, 422), (11, 455), (12, 488), (13, 501), (14, 524), (15, 537), (16, 560), (17, 573), (18, 596), (19, 629), (20, 662), (21, 695), (22, 708), (23, 731), (24, 764), (25, 787), (26, 820), (27, 863), (28, 906), (29, 919), (30, 932)] 955, o_x, o_x, o_x, o_x, o_x, o_x, o_x, o_x, o_x, o_x, o_x, o_x, o_x, o_x, o_x, o_x, o_x, o_x, o_x, o_x, o_x, o_x, o_x, o_x, o_x, o_x, o_x, o_x, o_x, o_x, o_x, o_x, o_x, o_x, o_x, o_x, o_x, o_x, o_x, o_x, o_x, o_x, o_x, o_x, o_x, o_x, o_x, o_x, o_x, o_x, o_x, o_x, o_x, o_x, o_x, o_x, o_x, o_x, o_x, o_x, o_x, o_x, o_x, o_x, o_x, o_x, o_x, o_x, o_x, o_x, o_x, o_x, o_x, o_x, o_x, o_x, o_x, o_x, o_x, o_x, o_x, o_x, o_x, o_x, o_x, o_x, o_x, o_x, o_x, o_x, o_x, o_x, o_x, o_x, o_x, o_x, o_x, o_x, o_x, o_x, o_x, o_x, o_x, o_x, o_x, o_x, o_x, o_x, o_x, o_x, o_x, o_x, o_x, o_x, o_x, o_x, o_x, o_x, o_x, o_x, o_x, o_x, o_x, o_x, o_x, o_x, o_x, o_x, o_x, o_x, o_x, o_x, o_x, o_x, o_x, o_x, o_x, o_x, o_x, o_al 1 1, o_al 0 1, o_il 3 1, o_ic 1 1, o_add, o_za xs L, o_call 7 k_X7_write 2, o_x, o_x, o_al 2 1, o_al 0 1, o_il 3 1, o_ic 1 1, o_add, o_za xs L, o_call 8 k_X8_write 2, o_x, o_x, o_ieq 955, o_x, o_x, o_ic 0 1, o_zr, o_al 1 1, o_call 7 k_X7_wipe 1, o_x, o_x, o_al 2 1, o_call 8 k_X8_wipe 1, o_x, o_x, o_ieq 955, o_x, o_x, o_ic 0 1, o_zr, o_al 1 1, o_call 7 k_X7_fault 1, o_x, o_x, o_al 2 1, o_call 8 k_X8_fault 1, o_x, o_x, o_ieq 955, o_x, o_x, o_ic 0 1, o_zr, o_al 1 1, o_call 7 k_X7_lay 1, o_x, o_x, o_al 2 1, o_call 8 k_X8_lay 1, o_x, o_x, o_ieq 955, o_x, o_x, o_ic 0 1, o_zr, o_al 1 1, o_al 0 1, o_il 3 1, o_ic 1 1, o_add, o_za xs L, o_al 0 1, o_il 3 1, o_ic 2 1, o_add, o_za xs L, o_call 7 k_X7_teller 3, o_x, o_x, o_al 2 1, o_al 0 1, o_il 3 1, o_ic 1 1, o_add, o_za xs L, o_al 0 1, o_il 3 1, o_ic 2 1, o_add, o_za xs L, o_call 8 k_X8_teller 3, o_x, o_x, o_ieq 955, o_x, o_x, o_ic 0 1, o_zr, o_al 1 1, o_al 0 1, o_il 3 1, o_ic 1 1, o_add, o_za xs L, o_call 7 k_X7_fact 2, o_x, o_x, o_al 2 1, o_al 0 1, o_il 3 1, o_ic 1 1, o_add, o_za xs L, o_call 8 k_X8_fact 2, o_x, o_x, o_ieq 955, o_x, o_x, o_ic 0 1, o_zr, o_al 1 1, o_al 0 1, o_il 3 1, o_ic 1 1, o_add, o_za xs L, o_al 0 1, o_il 3 1, o_ic 2 1, o_add, o_za xs L, o_call 7 k_X7_claim 3, o_x, o_x, o_al 2 1, o_al 0 1, o_il 3 1, o_ic 1 1, o_add, o_za xs L, o_al 0 1, o_il 3 1, o_ic 2 1, o_add, o_za xs L, o_call 8 k_X8_claim 3, o_x, o_x, o_ieq 955, o_x, o_x, o_ic 0 1, o_zr, o_al 1 1, o_al 0 1, o_il 3 1, o_ic 1 1, o_add, o_za xs L, o_call 7 k_X7_turn 2, o_x, o_x, o_al 2 1, o_al 0 1, o_il 3 1, o_ic 1 1, o_add, o_za xs L, o_call 8 k_X8_turn 2, o_x, o_x, o_ieq 955, o_x, o_x, o_ic 0 1, o_zr, o_al 1 1, o_al 0 1, o_il 3 1, o_ic 1 1, o_add, o_za xs L, o_al 0 1, o_il 3 1, o_ic 2 1, o_add, o_za xs L, o_al 0 1, o_il 3 1, o_ic 3 1, o_add, o_za xs L, o_al 0 1, o_il 3 1, o_ic 4 1, o_add, o_za xs L, o_call 7 k_X7_add 5, o_x, o_x, o_al 2 1, o_al 0 1, o_il 3 1, o_ic 1 1, o_add, o_za xs L, o_al 0 1, o_il 3 1, o_ic 2 1, o_add, o_za xs L, o_al 0 1, o_il 3 1, o_ic 3 1, o_add, o_za xs L, o_al 0 1, o_il 3 1, o_ic 4 1, o_add, o_za xs L, o_call 8 k_X8_add 5, o_x, o_x, o_ieq 955, o_x, o_x, o_ic 0 1, o_zr, o_al 1 1, o_al 0 1, o_il 3 1, o_ic 1 1, o_add, o_za xs L, o_call 7 k_X7_strike 2, o_x, o_x, o_al 2 1, o_al 0 1, o_il 3 1, o_ic 1 1, o_add, o_za xs L, o_call 8 k_X8_strike 2, o_x, o_x, o_ieq 955, o_x, o_x, o_ic 0 1, o_zr, o_al 1 1, o_al 0 1, o_il 3 1, o_ic 1 1, o_add, o_za xs L, o_al 0 1, o_il 3 1, o_ic 2 1, o_add, o_za xs L, o_call 7 k_X7_shift 3, o_x, o_x, o_al 2 1, o_al 0 1, o_il 3 1, o_ic 1 1, o_add, o_za xs L, o_al 0 1, o_il 3 1, o_ic 2 1, o_add, o_za xs L, o_call 8 k_X8_shift 3, o_x, o_x, o_ieq 955, o_x, o_x, o_ic 0 1, o_zr, o_al 1 1, o_al 0 1, o_il 3 1, o_ic 1 1, o_add, o_za xs L, o_al 0 1, o_il 3 1, o_ic 2 1, o_add, o_za xs L, o_call 7 k_X7_grip 3, o_x, o_x, o_al 2 1, o_al 0 1, o_il 3 1, o_ic 1 1, o_add, o_za xs L, o_al 0 1, o_il 3 1, o_ic 2 1, o_add, o_za xs L, o_call 8 k_X8_grip 3, o_x, o_x, o_ieq 955, o_x, o_x, o_ic 0 1, o_zr, o_al 1 1, o_call 7 k_X7_undo 1, o_x, o_x, o_al 2 1, o_call 8 k_X8_undo 1, o_x, o_x, o_ieq 955, o_x, o_x, o_ic 0 1, o_zr, o_al 1 1, o_al 0 1, o_il 3 1, o_ic 1 1, o_add, o_za xs L, o_call 7 k_X7_drops 2, o_x, o_x, o_al 2 1, o_al 0 1, o_il 3 1, o_ic 1 1, o_add, o_za xs L, o_call 8 k_X8_drops 2, o_x, o_x, o_ieq 955, o_x, o_x, o_ic 0 1, o_zr, o_al 1 1, o_call 7 k_X7_told 1, o_x, o_x, o_al 2 1, o_call 8 k_X8_told 1, o_x, o_x, o_ieq 955, o_x, o_x, o_ic 0 1, o_zr, o_al 1 1, o_al 0 1, o_il 3 1, o_ic 1 1, o_add, o_za xs L, o_call 7 k_X7_hot 2, o_x, o_x, o_al 2 1, o_al 0 1, o_il 3 1, o_ic 1 1, o_add, o_za xs L, o_call 8 k_X8_hot 2, o_x, o_x, o_ieq 955, o_x, o_x, o_ic 0 1, o_zr, o_al 1 1, o_call 7 k_X7_hottest 1, o_x, o_x, o_al 2 1, o_call 8 k_X8_hottest 1, o_x, o_x, o_ieq 955, o_x, o_x, o_ic 0 1, o_zr, o_al 1 1, o_al 0 1, o_il 3 1, o_ic 1 1, o_add, o_za xs L, o_call 7 k_X7_order 2, o_x, o_x, o_al 2 1, o_al 0 1, o_il 3 1, o_ic 1 1, o_add, o_za xs L, o_call 8 k_X8_order 2, o_x, o_x, o_ieq 955, o_x, o_x, o_ic 0 1, o_zr, o_al 1 1, o_al 0 1, o_il 3 1, o_ic 1 1, o_add, o_za xs L, o_al 0 1, o_il 3 1, o_ic 2 1, o_add, o_za xs L, o_call 7 k_X7_leave 3, o_x, o_x, o_al 2 1, o_al 0 1, o_il 3 1, o_ic 1 1, o_add, o_za xs L, o_al 0 1, o_il 3 1, o_ic 2 1, o_add, o_za xs L, o_call 8 k_X8_leave 3, o_x, o_x, o_ieq 955, o_x, o_x, o_ic 0 1, o_zr, o_al 1 1, o_al 0 1, o_il 3 1, o_ic 1 1, o_add, o_za xs L, o_al 0 1, o_il 3 1, o_ic 2 1, o_add, o_za xs L, o_call 7 k_X7_holds 3, o_x, o_x, o_al 2 1, o_al 0 1, o_il 3 1, o_ic 1 1, o_add, o_za xs L, o_al 0 1, o_il 3 1, o_ic 2 1, o_add, o_za xs L, o_call 8 k_X8_holds 3, o_x, o_x, o_ieq 955, o_x, o_x, o_ic 0 1, o_zr, o_al 1 1, o_al 0 1, o_il 3 1, o_ic 1 1, o_add, o_za xs L, o_al 0 1, o_il 3 1, o_ic 2 1, o_add, o_za xs L, o_call 7 k_X7_seen 3, o_x, o_x, o_al 2 1, o_al 0 1, o_il 3 1, o_ic 1 1, o_add, o_za xs L, o_al 0 1, o_il 3 1, o_ic 2 1, o_add, o_za xs L, o_call 8 k_X8_seen 3, o_x, o_x, o_ieq 955, o_x, o_x, o_ic 0 1, o_zr, o_al 1 1, o_call 7 k_X7_forget 1, o_x, o_x, o_al 2 1, o_call 8 k_X8_forget 1, o_x, o_x, o_ieq 955, o_x, o_x, o_ic 0 1, o_zr, o_al 1 1, o_al 0 1, o_il 3 1, o_ic 1 1, o_add, o_za xs L, o_call 7 k_X7_worlds 2, o_x, o_x, o_al 2 1, o_al 0 1, o_il 3 1, o_ic 1 1, o_add, o_za xs L, o_call 8 k_X8_worlds 2, o_x, o_x, o_ieq 955, o_x, o_x, o_ic 0 1, o_zr, o_al 1 1, o_al 0 1, o_il 3 1, o_ic 1 1, o_add, o_za xs L, o_al 0 1, o_il 3 1, o_ic 2 1, o_add, o_za xs L, o_call 7 k_X7_next 3, o_x, o_x, o_al 2 1, o_al 0 1, o_il 3 1, o_ic 1 1, o_add, o_za xs L, o_al 0 1, o_il 3 1, o_ic 2 1, o_add, o_za xs L, o_call 8 k_X8_next 3, o_x, o_x, o_ieq 955, o_x, o_x, o_ic 0 1, o_zr, o_al 1 1, o_al 0 1, o_il 3 1, o_ic 1 1, o_add, o_za xs L, o_call 7 k_X7_kinds 2, o_x, o_x, o_al 2 1, o_al 0 1, o_il 3 1, o_ic 1 1, o_add, o_za xs L, o_call 8 k_X8_kinds 2, o_x, o_x, o_ieq 955, o_x, o_x, o_ic 0 1, o_zr, o_al 1 1, o_al 0 1, o_il 3 1, o_ic 1 1, o_add, o_za xs L, o_al 0 1, o_il 3 1, o_ic 2 1, o_add, o_za xs L, o_call 7 k_X7_grips 3, o_x, o_x, o_al 2 1, o_al 0 1, o_il 3 1, o_ic 1 1, o_add, o_za xs L, o_al 0 1, o_il 3 1, o_ic 2 1, o_add, o_za xs L, o_call 8 k_X8_grips 3, o_x, o_x, o_ieq 955, o_x, o_x, o_ic 0 1, o_zr, o_al 1 1, o_al 0 1, o_il 3 1, o_ic 1 1, o_add, o_za xs L, o_al 0 1, o_il 3 1, o_ic 2 1, o_add, o_za xs L, o_al 0 1, o_il 3 1, o_ic 3 1, o_add, o_za xs L, o_call 7 k_X7_likely 4, o_x, o_x, o_al 2 1, o_al 0 1, o_il 3 1, o_ic 1 1, o_add, o_za xs L, o_al 0 1, o_il 3 1, o_ic 2 1, o_add, o_za xs L, o_al 0 1, o_il 3 1, o_ic 3 1, o_add, o_za xs L, o_call 8 k_X8_likely 4, o_x, o_x, o_ieq 955, o_x, o_x, o_ic 0 1, o_zr, o_al 1 1, o_al 0 1, o_il 3 1, o_ic 1 1, o_add, o_za xs L, o_al 0 1, o_il 3 1, o_ic 2 1, o_add, o_za xs L, o_al 0 1, o_il 3 1, o_ic 3 1, o_add, o_za xs L, o_call 7 k_X7_evenings 4, o_x, o_x, o_al 2 1, o_al 0 1, o_il 3 1, o_ic 1 1, o_add, o_za xs L, o_al 0 1, o_il 3 1, o_ic 2 1, o_add, o_za xs L, o_al 0 1, o_il 3 1, o_ic 3 1, o_add, o_za xs L, o_call 8 k_X8_evenings 4, o_x, o_x, o_ieq 955, o_x, o_x, o_ic 0 1, o_zr, o_al 1 1, o_call 7 k_X7_keep 1, o_x, o_x, o_al 2 1, o_call 8 k_X8_keep 1, o_x, o_x, o_ieq 955, o_x, o_x, o_ic 0 1, o_zr, o_al 1 1, o_call 7 k_X7_back 1, o_x, o_x, o_al 2 1, o_call 8 k_X8_back 1, o_x, o_x, o_ieq 955, o_x, o_x, o_ic 0 1, o_zr, o_al 1 1, o_al 0 1, o_il 3 1, o_ic 1 1, o_add, o_za xs L, o_call 7 k_X7_count 2, o_x, o_x, o_al 2 1, o_al 0 1, o_il 3 1, o_ic 1 1, o_add, o_za xs L, o_call 8 k_X8_count 2, o_x, o_x, o_ieq 955, o_x, o_x, o_ic 0 1, o_zr, o_ii 3 5, o_x, o_x, o_goto 18, o_x, o_x, o_ic 1 1, o_zr]
def p_tabs : List (List pT) := [tb_X0_hold, tb_X0_begin, tb_X1_cool, tb_X1_copyFrom, tb_X1_take, tb_X1_heating, tb_X2_clear, tb_X2_copyFrom, tb_X2_isTeller, tb_X2_isFact, tb_X2_isClaim, tb_X2_allowsClaim, tb_X2_worldCount, tb_X2_addTeller, tb_X2_addFact, tb_X2_addClaim, tb_X2_turnFact, tb_X2_moveClaim, tb_X2_removeClaim, tb_X2_isFalse, tb_X2_falseClaims, tb_X3_run, tb_X3_look, tb_X3_tellable, tb_X3_stageAt, tb_X4_clear, tb_X4_push, tb_X4_popInto, tb_X4_dropOldest, tb_X4_roomAt, tb_X5_clear, tb_X5_note, tb_X5_agreeWith, tb_X6_clear, tb_X6_append, tb_X6_readInto, tb_X6_readItem, tb_X6_readNumbers, tb_X6_isFigure, tb_X6_peek, tb_X6_take, tb_X7_write, tb_X7_wipe, tb_X7_fault, tb_X7_lay, tb_X7_teller, tb_X7_fact, tb_X7_claim, tb_X7_turn, tb_X7_add, tb_X7_strike, tb_X7_shift, tb_X7_grip, tb_X7_undo, tb_X7_drops, tb_X7_told, tb_X7_hot, tb_X7_hottest, tb_X7_order, tb_X7_leave, tb_X7_holds, tb_X7_seen, tb_X7_forget, tb_X7_worlds, tb_X7_next, tb_X7_kinds, tb_X7_grips, tb_X7_likely, tb_X7_evenings, tb_X7_keep, tb_X7_back, tb_X7_count, tb_X7_goneTonight, tb_X7_fewestLeft, tb_X7_letsGoWithout, tb_X7_goneIfHeldBy, tb_X7_fits, tb_X7_fittingWorlds, tb_X7_lowestWorld, tb_X7_isIn, tb_X7_sureFacts, tb_X7_worldsOfDrop, tb_X7_chanceOf, tb_X7_draw, tb_X7_stir, tb_X7_greatestDivisor, tb_X7_within, tb_X7_bit, tb_X7_at, tb_X7_put, tb_X7_copyRow, tb_X7_slide, tb_X8_in, tb_X8_has, tb_X8_bits, tb_X8_firstTeller, tb_X8_sets, tb_X8_copies, tb_X8_isTeller, tb_X8_isFact, tb_X8_isClaim, tb_X8_write, tb_X8_wipe, tb_X8_here, tb_X8_isFigure, tb_X8_number, tb_X8_readsTeller, tb_X8_readsFact, tb_X8_readsClaim, tb_X8_readsItem, tb_X8_fault, tb_X8_lay, tb_X8_isFalse, tb_X8_hotter, tb_X8_evening, tb_X8_without, tb_X8_gone, tb_X8_teller, tb_X8_fact, tb_X8_claim, tb_X8_lays, tb_X8_takes, tb_X8_notes, tb_X8_turn, tb_X8_add, tb_X8_strike, tb_X8_shifts, tb_X8_shift, tb_X8_grip, tb_X8_undo, tb_X8_drops, tb_X8_told, tb_X8_hot, tb_X8_hottest, tb_X8_nextRow, tb_X8_order, tb_X8_leave, tb_X8_goneBy, tb_X8_holds, tb_X8_seen, tb_X8_forget, tb_X8_isSo, tb_X8_worlds, tb_X8_next, tb_X8_kinds, tb_X8_grips, tb_X8_common, tb_X8_likely, tb_X8_evenings, tb_X8_keep, tb_X8_back, tb_X8_falseMany, tb_X8_count, tb_J6_bitCount, tb_J13_bitCount, tb_J9_max, tb_J9_min]
def p_nls : List Nat := [5, 2, 1, 2, 5, 4, 1, 2, 2, 2, 2, 5, 1, 3, 2, 5, 2, 3, 2, 2, 3, 3, 7, 5, 2, 1, 3, 3, 3, 2, 1, 3, 3, 1, 2, 4, 2, 4, 1, 1, 2, 2, 2, 1, 1, 3, 2, 3, 2, 5, 2, 3, 4, 1, 3, 1, 2, 1, 2, 4, 7, 3, 2, 4, 10, 4, 6, 8, 8, 1, 1, 2, 1, 5, 5, 4, 2, 4, 4, 3, 6, 8, 5, 4, 2, 4, 3, 2, 2, 3, 2, 5, 3, 2, 3, 3, 6, 3, 2, 2, 2, 2, 2, 1, 1, 5, 2, 1, 1, 2, 2, 2, 2, 4, 7, 4, 3, 3, 2, 3, 4, 4, 2, 2, 5, 3, 8, 3, 4, 1, 2, 1, 2, 1, 7, 5, 6, 5, 7, 3, 2, 4, 9, 11, 5, 8, 10, 13, 11, 1, 1, 3, 2, 1, 2, 2, 2]
def p_gt : List (List pT) → Nat → List pT
  | [], _ => []
  | t :: _, 0 => t
  | _ :: l, n + 1 => p_gt l n
/-- C holds of every call whose code's every closed walk holds -/
def p_Lg (b : Bool) (C : pC) : Prop := ∀ (d k : Nat) (M : pM) (as : pST) (Q : pQ), Nat.ble (p_cat as) (p_g p_nls k) = true → (∀ Z : pX, p_Cl b C (p_gt p_tabs k) d Q Z → Z 0 (p_ini (p_g p_nls k) as) [] M) → C d k M as Q
theorem p_ent {b : Bool} {C : pC} (hC : p_Lg b C) {d k : Nat} {M : pM} {as : pST} {Q : pQ} (tb : List pT) (ls : pLS) (h1 : p_gt p_tabs k = tb) (h2 : p_ini (p_g p_nls k) as = ls) (h3 : Nat.ble (p_cat as) (p_g p_nls k) = true) (h : ∀ Z : pX, p_Cl b C tb d Q Z → Z 0 ls [] M) : C d k M as Q := by
  subst h1
  subst h2
  exact hC d k M as Q h3 h
end
section
/-! SOUNDNESS of the logic over the machine: the world of the cells, the locals, one row an instruction. w: the tables' numbers (classes, slots), the array classes, the address of each cell. -/
abbrev pW : Type := ((Nat → ClassId) × (Nat → Nat → Nat)) × ((Nat → ClassId) × (pA → Nat))
def q_v (w : pW) : pV → Value
  | .inl x => .int x
  | .inr (.inl x) => .long x
  | .inr (.inr r) => va_rf (r.map w.2.2)
def p_nf : List Nat := [4, 4, 10, 4, 2, 3, 4, 8, 35]
def q_f (w : pW) (M : pM) (a : pA) (k : Nat) : Value := match p_rf a k with
  | some q => .ref (w.2.2 q)
  | none => .int (M.1 a k)
def q_E (w : pW) (M : pM) (a : pA) : va_E := match Nat.blt (p_kd a) 9 with
  | true => .inr (p_kd a, (List.range (p_g p_nf (p_kd a))).map (q_f w M a))
  | false => match Nat.beq (p_kd a) 9 with
    | true => .inl (w.2.1 0, p_ln a, .inl (M.1 a))
    | false => .inl (w.2.1 (p_kd a - 9), p_ln a, .inr (.inr (.inr (.inr (fun i => (M.2 a i).map w.2.2)))))
def q_cl : List pA := (List.range 18).map aS ++ ((List.range 84).map (fun n => aR (Fin.ofNat 12 (n / 7)) (n % 7)) ++ (List.range 9).map (fun n => aI (Fin.ofNat 9 n)))
def q_md : List pA := (List.range 21).map (fun n => aS (n + 18))
def q_as (b : Bool) : List pA := q_cl ++ (match b with | true => q_md | false => [])
def q_ix : pA → Nat
  | .inl s => match Nat.blt s 18 with
    | true => s
    | false => s + 93
  | .inr (.inl r) => 18 + (7 * r.1.val + r.2)
  | .inr (.inr i) => 102 + i.val
theorem q_ix_1 : ∀ s, s < 18 → (q_as false)[q_ix (aS s)]? = some (aS s) := by decide +kernel
theorem q_ix_2 : ∀ s, s < 39 → (q_as true)[q_ix (aS s)]? = some (aS s) := by decide +kernel
theorem q_ix_3 : ∀ (b : Bool) (j : Fin 12) (c : Fin 7), (q_as b)[q_ix (aR j c.val)]? = some (aR j c.val) := by decide +kernel
theorem q_ix_4 : ∀ (b : Bool) (i : Fin 9), (q_as b)[q_ix (aI i)]? = some (aI i) := by decide +kernel
theorem q_ix_ok (b : Bool) (a : pA) (h : p_al b a = true) : (q_as b)[q_ix a]? = some a := by
  rcases a with s | ⟨⟨j, c⟩ | i⟩
  · cases b
    · have h' : s < 18 := by simpa [p_al] using h
      exact q_ix_1 s h'
    · have h' : s < 18 ∨ s < 39 := by simpa [p_al] using h
      exact q_ix_2 s (by omega)
  · have h' : c < 7 := by simpa [p_al] using h
    exact q_ix_3 b j ⟨c, h'⟩
  · exact q_ix_4 b i
theorem q_as_1 : ∀ (b : Bool) (k : Fin 132), (match (q_as b)[k.val]? with | some a => p_al b a && Nat.beq (q_ix a) k.val | none => true) = true := by decide +kernel
theorem q_as_2 : ∀ b : Bool, (q_as b).length ≤ 132 := by decide +kernel
theorem q_as_ok {b : Bool} {k : Nat} {a : pA} (h : (q_as b)[k]? = some a) : p_al b a = true ∧ q_ix a = k := by
  have hk : k < 132 := Nat.lt_of_lt_of_le (List.getElem?_eq_some_iff.mp h).1 (q_as_2 b)
  have h1 := q_as_1 b ⟨k, hk⟩
  simp only [h, Bool.and_eq_true] at h1
  exact ⟨h1.1, Nat.eq_of_beq_eq_true h1.2⟩
def q_ws (b : Bool) (w : pW) (M : pM) : va_W := (q_as b).map (fun a => (w.2.2 a, q_E w M a))
/-- the heap holds the memory -/
def q_H (b : Bool) (w : pW) (M : pM) (H : Heap) : Prop := ∀ a, p_al b a = true → va_at w.1 vwCl (w.2.2 a, q_E w M a) H
/-- the addresses are apart -/
def q_J (b : Bool) (w : pW) : Prop := ∀ a a', p_al b a = true → p_al b a' = true → w.2.2 a = w.2.2 a' → a = a'
def q_A (b : Bool) (w : pW) : Nat → Prop := fun q => ∃ a, p_al b a = true ∧ q = w.2.2 a
theorem q_of {b : Bool} {w : pW} {M : pM} {k : Nat} {q : Nat × va_E} (h : (q_ws b w M)[k]? = some q) : ∃ a, p_al b a = true ∧ q_ix a = k ∧ q = (w.2.2 a, q_E w M a) := by
  rw [q_ws, List.getElem?_map] at h
  cases e : (q_as b)[k]? with
  | none => rw [e] at h; cases h
  | some a =>
    rw [e] at h
    exact ⟨a, (q_as_ok e).1, (q_as_ok e).2, (Option.some.inj h).symm⟩
theorem q_H.P {b : Bool} {w : pW} {M : pM} {H : Heap} (h : q_H b w M H) : va_P w.1 vwCl (q_ws b w M) H := by
  intro k q hq
  obtain ⟨a, h1, -, rfl⟩ := q_of hq
  exact h a h1
theorem q_at {b : Bool} {w : pW} (M : pM) {a : pA} (h : p_al b a = true) : (q_ws b w M)[q_ix a]? = some (w.2.2 a, q_E w M a) := by
  rw [q_ws, List.getElem?_map, q_ix_ok b a h]
  rfl
theorem q_ix_inj {b : Bool} {a a' : pA} (h : p_al b a = true) (h' : p_al b a' = true) (e : q_ix a = q_ix a') : a = a' := by
  have h1 := q_ix_ok b a h
  rw [e, q_ix_ok b a' h'] at h1
  exact (Option.some.inj h1).symm
theorem q_D {b : Bool} {w : pW} {M : pM} (hJ : q_J b w) : va_D (q_A b w) (q_ws b w M) := by
  refine ⟨fun i j p q hi hj e => ?_, fun k q hq => ?_⟩
  · obtain ⟨a, h1, h2, rfl⟩ := q_of hi
    obtain ⟨a', h1', h2', rfl⟩ := q_of hj
    have := hJ a a' h1 h1' e
    subst this
    exact h2.symm.trans h2'
  · obtain ⟨a, h1, h2, rfl⟩ := q_of hq
    exact ⟨a, h1, rfl⟩
theorem q_set {b : Bool} {w : pW} {M M' : pM} {H1 : Heap} {a : pA} {E : va_E} (ha : p_al b a = true) (h : va_P w.1 vwCl ((q_ws b w M).set (q_ix a) (w.2.2 a, E)) H1) (hE : q_E w M' a = E) (hM : ∀ a', a' ≠ a → q_E w M' a' = q_E w M a') : q_H b w M' H1 := by
  intro a' ha'
  have hl : q_ix a < (q_ws b w M).length := (List.getElem?_eq_some_iff.mp (q_at (w := w) M ha)).1
  by_cases e : a' = a
  · subst e
    rw [hE]
    exact h (q_ix a') _ (by rw [List.getElem?_set_self hl])
  · rw [hM a' e]
    refine h (q_ix a') _ ?_
    rw [List.getElem?_set_ne (fun q => e (q_ix_inj ha' ha q.symm))]
    exact q_at M ha'
theorem q_E_cg {w : pW} {M M' : pM} {a : pA} (h1 : M'.1 a = M.1 a) (h2 : M'.2 a = M.2 a) : q_E w M' a = q_E w M a := by
  have e : q_f w M' a = q_f w M a := by
    funext k
    simp only [q_f, h1]
  simp only [q_E, e, h1, h2]
theorem p_row_ne {M : pM} {a b : pA} {r : Nat → Int32} (h : b ≠ a) : (p_row M a r).1 b = M.1 b := by
  simp only [p_row, p_eq_ne h]
theorem p_row_eq {M : pM} {a : pA} {r : Nat → Int32} : (p_row M a r).1 a = r := by
  simp only [p_row, p_eq_rf]
theorem p_wq_ne {M : pM} {a b : pA} {k : Nat} {x : Option pA} (h : b ≠ a) : (p_wq M a k x).2 b = M.2 b := by
  simp only [p_wq, p_eq_ne h]
theorem p_wq_eq {M : pM} {a : pA} {k : Nat} {x : Option pA} : (p_wq M a k x).2 a = va_up (M.2 a) k x := by
  simp only [p_wq, p_eq_rf]
theorem q_obj {b : Bool} {w : pW} {a : pA} {ci : Nat} (M : pM) (h : p_is b a ci = true) (hc : ci < 9) : p_al b a = true ∧ q_E w M a = .inr (ci, (List.range (p_g p_nf ci)).map (q_f w M a)) := by
  simp only [p_is, Bool.and_eq_true] at h
  have e : p_kd a = ci := Nat.eq_of_beq_eq_true h.1
  refine ⟨h.2, ?_⟩
  simp only [q_E, e, show Nat.blt ci 9 = true from by simp [hc]]
theorem q_ints {b : Bool} {w : pW} {a : pA} (M : pM) (h : p_is b a 9 = true) : p_al b a = true ∧ q_E w M a = .inl (w.2.1 0, p_ln a, .inl (M.1 a)) := by
  simp only [p_is, Bool.and_eq_true] at h
  have e : p_kd a = 9 := Nat.eq_of_beq_eq_true h.1
  refine ⟨h.2, ?_⟩
  simp only [q_E, e]
  rfl
theorem p_blt_f {n m : Nat} (h : m < n) : Nat.blt n m = false := by
  cases e : Nat.blt n m with
  | false => rfl
  | true =>
    have := Nat.le_of_ble_eq_true e
    omega
theorem p_beq_f {n m : Nat} (h : n ≠ m) : Nat.beq n m = false := by
  cases e : Nat.beq n m with
  | false => rfl
  | true => exact absurd (Nat.eq_of_beq_eq_true e) h
theorem q_refs {b : Bool} {w : pW} {a : pA} {kd : Nat} (M : pM) (h : p_is b a kd = true) (hk : 9 < kd) : p_al b a = true ∧ q_E w M a = .inl (w.2.1 (kd - 9), p_ln a, .inr (.inr (.inr (.inr (fun i => (M.2 a i).map w.2.2))))) := by
  simp only [p_is, Bool.and_eq_true] at h
  have e : p_kd a = kd := Nat.eq_of_beq_eq_true h.1
  refine ⟨h.2, ?_⟩
  simp only [q_E, e, p_blt_f hk, p_beq_f (Nat.ne_of_gt hk)]
-- locals
def q_lv (w : pW) : Nat → pLS → List (Nat × Value)
  | _, [] => []
  | i, none :: l => q_lv w (i + 1) l
  | i, some v :: l => (i, q_v w v) :: q_lv w (i + 1) l
theorem q_lv_mem {w : pW} : ∀ (ls : pLS) (k : Nat) (q : Nat × Value), q ∈ q_lv w k ls ↔ ∃ n u, p_lg ls n = some u ∧ q = (k + n, q_v w u) := by
  intro ls
  induction ls with
  | nil =>
    intro k q
    simp [q_lv, p_lg]
  | cons x l ih =>
    intro k q
    have key : (∃ n u, p_lg (x :: l) n = some u ∧ q = (k + n, q_v w u)) ↔ (∃ u, x = some u ∧ q = (k, q_v w u)) ∨ ∃ n u, p_lg l n = some u ∧ q = (k + 1 + n, q_v w u) := by
      constructor
      · rintro ⟨n, u, h1, h2⟩
        cases n with
        | zero => exact Or.inl ⟨u, h1, h2⟩
        | succ n => exact Or.inr ⟨n, u, h1, by rw [h2]; congr 1; omega⟩
      · rintro (⟨u, h1, h2⟩ | ⟨n, u, h1, h2⟩)
        · exact ⟨0, u, h1, h2⟩
        · exact ⟨n + 1, u, h1, by rw [h2]; congr 1; omega⟩
    rw [key]
    cases x with
    | none => simp [q_lv, ih]
    | some v => simp [q_lv, ih]
theorem q_get {w : pW} {la : Array Slot} {nL : Nat} {ls : pLS} (h : lv_has la nL (q_lv w 0 ls)) {i : Nat} {v : pV} (hi : p_lg ls i = some v) : la[i]? = some (.val (q_v w v)) :=
  h.2.2 (i, q_v w v) ((q_lv_mem ls 0 _).mpr ⟨i, v, hi, by rw [Nat.zero_add]⟩)
theorem p_lg_ls : ∀ (ls : pLS) (i n : Nat) (x : Option pV), p_lg (p_ls ls i x) n = if n = i ∧ i < p_len ls then x else p_lg ls n := by
  intro ls
  induction ls with
  | nil =>
    intro i n x
    simp [p_ls, p_lg, p_len]
  | cons y l ih =>
    intro i n x
    cases i with
    | zero =>
      cases n with
      | zero => simp [p_ls, p_lg, p_len]
      | succ n => simp [p_ls, p_lg]
    | succ i =>
      cases n with
      | zero => simp [p_ls, p_lg]
      | succ n => simp [p_ls, p_lg, p_len, ih]
theorem p_len_ls : ∀ (ls : pLS) (i : Nat) (x : Option pV), p_len (p_ls ls i x) = p_len ls := by
  intro ls
  induction ls with
  | nil => intro i x; rfl
  | cons y l ih =>
    intro i x
    cases i with
    | zero => rfl
    | succ i => simp [p_ls, p_len, ih]
theorem q_cat2 {w : pW} {u : pV} (h : (q_v w u).category = 2) : ∃ x, u = .inr (.inl x) := by
  rcases u with x | x | x
  · cases h
  · exact ⟨x, rfl⟩
  · cases x <;> cases h
theorem p_lw_lt {ls : pLS} {i : Nat} (h : p_lw ls i = true) : i < p_len ls := by
  cases i with
  | zero => simpa [p_lw] using h
  | succ i =>
    simp only [p_lw, Bool.and_eq_true] at h
    simpa using h.1
theorem p_lw_no {ls : pLS} {n : Nat} {x : Int64} (h : p_lw ls (n + 1) = true) (hn : p_lg ls n = some (.inr (.inl x))) : False := by
  simp [p_lw, hn] at h
theorem q_sto {w : pW} {la : Array Slot} {nL i : Nat} {ls : pLS} {v : pV} (hw : p_lw ls i = true) (h : lv_has la nL ((i, q_v w v) :: (q_lv w 0 ls).filter (fun q => !(q.1 == i) && !(q.1 + 1 == i && q.2.category == 2)))) : lv_has la nL (q_lv w 0 (p_ls ls i (some v))) := by
  refine ⟨h.1, h.2.1, fun q hq => h.2.2 q ?_⟩
  obtain ⟨n, u, h1, rfl⟩ := (q_lv_mem _ 0 q).mp hq
  rw [p_lg_ls] at h1
  split at h1
  · rename_i e
    cases h1
    rw [e.1, Nat.zero_add]
    exact List.mem_cons_self
  · rename_i e
    have hne : n ≠ i := fun q => e ⟨q, p_lw_lt hw⟩
    refine List.mem_cons_of_mem _ (List.mem_filter.mpr ⟨(q_lv_mem _ 0 _).mpr ⟨n, u, h1, rfl⟩, ?_⟩)
    rw [Nat.zero_add]
    have : ¬ (n + 1 = i ∧ (q_v w u).category = 2) := by
      rintro ⟨e1, e2⟩
      obtain ⟨x, rfl⟩ := q_cat2 e2
      subst e1
      exact p_lw_no hw h1
    simp only [Bool.and_eq_true, Bool.not_eq_true', beq_eq_false_iff_ne, Bool.and_eq_false_iff]
    refine ⟨hne, ?_⟩
    by_cases e1 : n + 1 = i
    · exact Or.inr fun e2 => this ⟨e1, e2⟩
    · exact Or.inl e1
theorem q_stoL {w : pW} {la : Array Slot} {nL i : Nat} {ls : pLS} {x : Int64} (hw : p_lw ls i = true) (hi : i + 1 < p_len ls) (h : lv_has la nL ((i, Value.long x) :: (q_lv w 0 ls).filter (fun q => !(q.1 == i) && (!(q.1 == i + 1) && !(q.1 + 1 == i && q.2.category == 2))))) : lv_has la nL (q_lv w 0 (p_ls (p_ls ls i (some (.inr (.inl x)))) (i + 1) none)) := by
  refine ⟨h.1, h.2.1, fun q hq => h.2.2 q ?_⟩
  obtain ⟨n, u, h1, rfl⟩ := (q_lv_mem _ 0 q).mp hq
  rw [p_lg_ls, p_lg_ls, p_len_ls] at h1
  split at h1
  · cases h1
  · rename_i e0
    have hne1 : n ≠ i + 1 := fun q => e0 ⟨q, hi⟩
    split at h1
    · rename_i e
      cases h1
      rw [e.1, Nat.zero_add]
      exact List.mem_cons_self
    · rename_i e
      have hne : n ≠ i := fun q => e ⟨q, p_lw_lt hw⟩
      refine List.mem_cons_of_mem _ (List.mem_filter.mpr ⟨(q_lv_mem _ 0 _).mpr ⟨n, u, h1, rfl⟩, ?_⟩)
      rw [Nat.zero_add]
      have : ¬ (n + 1 = i ∧ (q_v w u).category = 2) := by
        rintro ⟨e1, e2⟩
        obtain ⟨x, rfl⟩ := q_cat2 e2
        subst e1
        exact p_lw_no hw h1
      simp only [Bool.and_eq_true, Bool.not_eq_true', beq_eq_false_iff_ne, Bool.and_eq_false_iff]
      refine ⟨hne, hne1, ?_⟩
      by_cases e1 : n + 1 = i
      · exact Or.inr fun e2 => this ⟨e1, e2⟩
      · exact Or.inl e1
theorem q_ini {w : pW} : ∀ (as : pST) (n k : Nat), p_cat as ≤ n → p_len (p_ini n as) = n ∧ ∀ q ∈ q_lv w k (p_ini n as), q ∈ lv_args k (as.map (q_v w)) := by
  intro as
  induction as with
  | nil =>
    intro n
    induction n with
    | zero => intro k _; exact ⟨rfl, fun q hq => by cases hq⟩
    | succ n ih =>
      intro k _
      obtain ⟨h1, h2⟩ := ih (k + 1) (Nat.zero_le _)
      exact ⟨by simp [p_ini, p_len, h1], fun q hq => by have := h2 q hq; simp [lv_args] at this⟩
  | cons v l ih =>
    intro n k h
    rcases v with x | x | x
    · cases n with
      | zero => simp [p_cat] at h
      | succ n =>
        obtain ⟨h1, h2⟩ := ih n (k + 1) (by simp [p_cat] at h; omega)
        refine ⟨by simp [p_ini, p_len, h1], fun q hq => ?_⟩
        simp only [p_ini, q_lv, List.mem_cons] at hq
        rcases hq with rfl | hq
        · exact List.mem_cons_self
        · exact List.mem_cons_of_mem _ (h2 q hq)
    · cases n with
      | zero => simp [p_cat] at h
      | succ n =>
        cases n with
        | zero => simp [p_cat] at h
        | succ n =>
          obtain ⟨h1, h2⟩ := ih n (k + 2) (by simp [p_cat] at h; omega)
          refine ⟨by simp [p_ini, p_len, h1], fun q hq => ?_⟩
          simp only [p_ini, q_lv, List.mem_cons] at hq
          rcases hq with rfl | hq
          · exact List.mem_cons_self
          · exact List.mem_cons_of_mem _ (h2 q hq)
    · cases n with
      | zero => cases x <;> simp [p_cat] at h
      | succ n =>
        obtain ⟨h1, h2⟩ := ih n (k + 1) (by cases x <;> simp [p_cat] at h <;> omega)
        refine ⟨by simp [p_ini, p_len, h1], fun q hq => ?_⟩
        simp only [p_ini, q_lv, List.mem_cons] at hq
        rcases hq with rfl | hq
        · cases x <;> exact List.mem_cons_self
        · cases x <;> exact List.mem_cons_of_mem _ (h2 q hq)
theorem q_cat {w : pW} : ∀ st : pST, ((st.map (q_v w)).map fun v => v.category).sum = p_cat st := by
  intro st
  induction st with
  | nil => rfl
  | cons v l ih =>
    rw [List.map_cons, List.map_cons, List.sum_cons, ih]
    rcases v with x | x | _ | x <;> exact Nat.add_comm _ _
theorem q_sl {w : pW} : ∀ st : pST, (lg_sl (st.map (q_v w))).length = p_cat st := by
  intro st
  induction st with
  | nil => rfl
  | cons v l ih =>
    have e : lg_sl ((v :: l).map (q_v w)) = (if (q_v w v).category = 2 then [.val (q_v w v), .second] else [.val (q_v w v)]) ++ lg_sl (l.map (q_v w)) := rfl
    rw [e, List.length_append, ih]
    rcases v with x | x | _ | x <;> exact Nat.add_comm _ _
theorem p_pop_spec : ∀ (n : Nat) (st acc as st' : pST), p_pop n st acc = some (as, st') → ∃ pre, st = pre ++ st' ∧ pre.length = n ∧ as = pre.reverse ++ acc := by
  intro n
  induction n with
  | zero =>
    intro st acc as st' h
    cases h
    exact ⟨[], rfl, rfl, rfl⟩
  | succ n ih =>
    intro st acc as st' h
    cases st with
    | nil => cases h
    | cons v st =>
      obtain ⟨pre, h1, h2, h3⟩ := ih st (v :: acc) as st' h
      exact ⟨v :: pre, by rw [h1]; rfl, by simp [h2], by rw [h3]; simp⟩

-- the walk's setting
def p_nst : Cond → Bool
  | .fieldLinkNest .. => true
  | .methodLinkNest .. => true
  | _ => false
def p_N : List Cond := lw_tbl.filter p_nst
theorem p_inN {z : Cond} (i : Nat) (h : lw_tbl[i]? = some z) (hg : p_nst z = true) : z ∈ p_N := List.mem_filter.mpr ⟨List.mem_of_getElem? h, hg⟩
theorem p_N_tab {z : Cond} (h : z ∈ p_N) : z.onTables = true := by
  have := (List.mem_filter.mp h).2
  cases z <;> first | rfl | cases this
theorem p_N_warm {z : Cond} (h : z ∈ p_N) {s U : State} (hW : s.WarmedH U.vm) (hz : va_Nw z s) : va_Nw z U := by
  have := (List.mem_filter.mp h).2
  cases z <;> first | exact va_Nw.warmF hW hz | exact va_Nw.warmM hW hz | cases this
def q_K (w : pW) (U : State) : Prop := va_K w.1 vwCl [(w.2.1 0, .int), (w.2.1 1, .object RX1), (w.2.1 2, .object RX2)] U
def q_U (b : Bool) (w : pW) (M : pM) (U : State) : Prop := q_H b w M U.heap ∧ q_K w U ∧ ∀ z ∈ p_N, va_Nw z U
def q_Qc (b : Bool) (w : pW) (Q : pQ) : Array Value → State → Outcome → State → Prop := fun _ st oc t => (∃ M v, oc = .returned (Option.map (q_v w) v) ∧ Q M v ∧ q_H b w M t.heap) ∧ va_F (q_A b w) st t
def p_rm (d : Nat) : Room := { frames := d, cells := 0, slots := 0, locals := 64 * d }
def q_X (b : Bool) (w : pW) (p : Program) (s : State) (m : MethodId) (args : Array Value) (c : Code) (own : String) (cc : ByteArray) (nL : Nat) (R : Room) (d cells slots : Nat) : Prop :=
  p.tables.exec = Jvm.exec ∧ c.code = cc ∧ c.maxLocals = nL ∧ s.vm.findClass own = some m.cls ∧ (∀ z ∈ p_T, z.before args s = true) ∧ (∀ z ∈ p_N, va_Nw z s) ∧ q_K w s ∧ q_J b w ∧ d ≤ R.frames ∧ 64 * d ≤ R.locals ∧ cells ≤ R.cells ∧ slots ≤ R.slots
def q_Z (b : Bool) (w : pW) (p : Program) (l : Launch) (e : Env) (R : Room) (s : State) (m : MethodId) (args : Array Value) (below : List Frame) (meth : Method) (c : Code) (nL cells slots : Nat) (Qw : State → Prop) : pX := fun pc ls st M =>
  ∀ (H : Heap) (locs : List Loc) (la : Array Slot), q_H b w M H → va_S (q_A b w) s.heap H locs → lv_has la nL (q_lv w 0 ls) → p_len ls = nL → W p l e R s m args below meth c H locs cells slots Qw (F0 m pc la (st.map (q_v w)))
def p_sd (b : Bool) (C : pC) (d : Nat) (Q : pQ) (Z : pX) (t : pT) (pc : Nat) : Prop := ∀ (ls : pLS) (st : pST) (M : pM), t b C d Q Z pc ls st M → Z pc ls st M
theorem p_cn {b : Bool} {C : pC} {d : Nat} {Q : pQ} {Z : pX} {n : Nat} : ∀ pc, p_sd b C d Q Z (p_nth [] pc) (n + pc) := fun _ _ _ _ h => False.elim h
theorem p_cc {b : Bool} {C : pC} {d : Nat} {Q : pQ} {Z : pX} {n : Nat} {t : pT} {l : List pT} (h0 : p_sd b C d Q Z t n) (h1 : ∀ pc, p_sd b C d Q Z (p_nth l pc) (n + 1 + pc)) : ∀ pc, p_sd b C d Q Z (p_nth (t :: l) pc) (n + pc) := by
  intro pc
  cases pc with
  | zero => exact h0
  | succ k =>
    have := h1 k
    rw [show n + 1 + k = n + (k + 1) by omega] at this
    exact this
theorem p_c0 {b : Bool} {C : pC} {d : Nat} {Q : pQ} {Z : pX} {tb : List pT} (h : ∀ pc, p_sd b C d Q Z (p_nth tb pc) (0 + pc)) : p_Cl b C tb d Q Z := by
  intro pc ls st M k
  have := h pc
  rw [Nat.zero_add] at this
  exact this ls st M k
section Snd
variable {b : Bool} {w : pW} {p : Program} {l : Launch} {e : Env} {R : Room} {s : State} {m : MethodId} {args : Array Value} {below : List Frame} {meth : Method} {c : Code} {own : String} {cc : ByteArray} {nL cells slots pc : Nat} {Qw : State → Prop} {C : pC} {d : Nat} {Q : pQ}
theorem s_x : p_sd b C d Q (q_Z b w p l e R s m args below meth c nL cells slots Qw) o_x pc := fun _ _ _ h => False.elim h
theorem s_ic1 (K : q_X b w p s m args c own cc nL R d cells slots) {n : Int} {v : Int32} (hd : decode cc pc = .ok (.iconst n, 1)) (hv : Int32.ofInt n = v) : (p_sd b C d Q (q_Z b w p l e R s m args below meth c nL cells slots Qw) (o_ic v 1) pc) := by
  intro ls st M h H locs la hH hS hl hn
  exact lv_iconst K.1 K.2.1 hd hv (h H locs la hH hS hl hn)
theorem s_ic2 (K : q_X b w p s m args c own cc nL R d cells slots) {n : Int} {v : Int32} (hd : decode cc pc = .ok (.bipush n, 2)) (hv : (Int8.ofInt n).toInt32 = v) : (p_sd b C d Q (q_Z b w p l e R s m args below meth c nL cells slots Qw) (o_ic v 2) pc) := by
  intro ls st M h H locs la hH hS hl hn
  exact lv_bipush K.1 K.2.1 hd hv (h H locs la hH hS hl hn)
theorem s_ic3 (K : q_X b w p s m args c own cc nL R d cells slots) {n : Int} {v : Int32} (hd : decode cc pc = .ok (.sipush n, 3)) (hv : (Int16.ofInt n).toInt32 = v) : (p_sd b C d Q (q_Z b w p l e R s m args below meth c nL cells slots Qw) (o_ic v 3) pc) := by
  intro ls st M h H locs la hH hS hl hn
  exact lv_sipush K.1 K.2.1 hd hv (h H locs la hH hS hl hn)
theorem s_ldc (K : q_X b w p s m args c own cc nL R d cells slots) {i : Nat} {v : Int32} (hd : decode cc pc = .ok (.ldc i, 2)) (hw : Cond.constant own i v ∈ p_T) : (p_sd b C d Q (q_Z b w p l e R s m args below meth c nL cells slots Qw) (o_ic v 2) pc) := by
  intro ls st M h H locs la hH hS hl hn
  exact lv_ldc K.1 K.2.1 K.2.2.2.1 (K.2.2.2.2.1 _ hw) hd (h H locs la hH hS hl hn)
theorem s_ldcw (K : q_X b w p s m args c own cc nL R d cells slots) {i : Nat} {v : Int32} (hd : decode cc pc = .ok (.ldc_w i, 3)) (hw : Cond.constant own i v ∈ p_T) : (p_sd b C d Q (q_Z b w p l e R s m args below meth c nL cells slots Qw) (o_ic v 3) pc) := by
  intro ls st M h H locs la hH hS hl hn
  exact lv_ldcw K.1 K.2.1 K.2.2.2.1 (K.2.2.2.2.1 _ hw) hd (h H locs la hH hS hl hn)
theorem s_ldc2 (K : q_X b w p s m args c own cc nL R d cells slots) {i : Nat} {v : Int64} (hd : decode cc pc = .ok (.ldc2_w i, 3)) (hw : Cond.constantLong own i v ∈ p_T) : (p_sd b C d Q (q_Z b w p l e R s m args below meth c nL cells slots Qw) (o_lc v 3) pc) := by
  intro ls st M h H locs la hH hS hl hn
  exact lv_ldc2 K.1 K.2.1 K.2.2.2.1 (K.2.2.2.2.1 _ hw) hd (h H locs la hH hS hl hn)
theorem s_lc (K : q_X b w p s m args c own cc nL R d cells slots) {n : Fin 2} {v : Int64} (hd : decode cc pc = .ok (.lconst n, 1)) (hv : Int64.ofNat (n : Nat) = v) : (p_sd b C d Q (q_Z b w p l e R s m args below meth c nL cells slots Qw) (o_lc v 1) pc) := by
  intro ls st M h H locs la hH hS hl hn
  exact lv_lconst K.1 K.2.1 hd hv (h H locs la hH hS hl hn)
theorem s_nu (K : q_X b w p s m args c own cc nL R d cells slots) (hd : decode cc pc = .ok (.aconst_null, 1)) : (p_sd b C d Q (q_Z b w p l e R s m args below meth c nL cells slots Qw) (o_nu) pc) := by
  intro ls st M h H locs la hH hS hl hn
  exact lv_null K.1 K.2.1 hd (h H locs la hH hS hl hn)
theorem s_il1 (K : q_X b w p s m args c own cc nL R d cells slots) {k : Fin 4} {i : Nat} (hd : decode cc pc = .ok (.iload_n k, 1)) (hi : (k : Nat) = i) : (p_sd b C d Q (q_Z b w p l e R s m args below meth c nL cells slots Qw) (o_il i 1) pc) := by
  intro ls st M h H locs la hH hS hl hn
  dsimp only [o_il] at h
  generalize e1 : p_lg ls i = y at h
  rcases y with _ | x | x | x <;> first | exact False.elim h | exact lv_iload_n K.1 K.2.1 hd hi (q_get hl e1) (h H locs la hH hS hl hn)
theorem s_il2 (K : q_X b w p s m args c own cc nL R d cells slots) {i : Nat} (hd : decode cc pc = .ok (.iload i, 2)) : (p_sd b C d Q (q_Z b w p l e R s m args below meth c nL cells slots Qw) (o_il i 2) pc) := by
  intro ls st M h H locs la hH hS hl hn
  dsimp only [o_il] at h
  generalize e1 : p_lg ls i = y at h
  rcases y with _ | x | x | x <;> first | exact False.elim h | exact lv_iload K.1 K.2.1 hd (q_get hl e1) (h H locs la hH hS hl hn)
theorem s_ll1 (K : q_X b w p s m args c own cc nL R d cells slots) {k : Fin 4} {i : Nat} (hd : decode cc pc = .ok (.lload_n k, 1)) (hi : (k : Nat) = i) : (p_sd b C d Q (q_Z b w p l e R s m args below meth c nL cells slots Qw) (o_ll i 1) pc) := by
  intro ls st M h H locs la hH hS hl hn
  dsimp only [o_ll] at h
  generalize e1 : p_lg ls i = y at h
  rcases y with _ | x | x | x <;> first | exact False.elim h | exact lv_lload_n K.1 K.2.1 hd hi (q_get hl e1) (h H locs la hH hS hl hn)
theorem s_ll2 (K : q_X b w p s m args c own cc nL R d cells slots) {i : Nat} (hd : decode cc pc = .ok (.lload i, 2)) : (p_sd b C d Q (q_Z b w p l e R s m args below meth c nL cells slots Qw) (o_ll i 2) pc) := by
  intro ls st M h H locs la hH hS hl hn
  dsimp only [o_ll] at h
  generalize e1 : p_lg ls i = y at h
  rcases y with _ | x | x | x <;> first | exact False.elim h | exact lv_lload K.1 K.2.1 hd (q_get hl e1) (h H locs la hH hS hl hn)
theorem s_al1 (K : q_X b w p s m args c own cc nL R d cells slots) {k : Fin 4} {i : Nat} (hd : decode cc pc = .ok (.aload_n k, 1)) (hi : (k : Nat) = i) : (p_sd b C d Q (q_Z b w p l e R s m args below meth c nL cells slots Qw) (o_al i 1) pc) := by
  intro ls st M h H locs la hH hS hl hn
  dsimp only [o_al] at h
  generalize e1 : p_lg ls i = y at h
  rcases y with _ | x | x | _ | x <;> first | exact False.elim h | exact lv_aload_nN K.1 K.2.1 hd hi (q_get hl e1) (h H locs la hH hS hl hn) | exact lv_aload_n K.1 K.2.1 hd hi (q_get hl e1) (h H locs la hH hS hl hn)
theorem s_al2 (K : q_X b w p s m args c own cc nL R d cells slots) {i : Nat} (hd : decode cc pc = .ok (.aload i, 2)) : (p_sd b C d Q (q_Z b w p l e R s m args below meth c nL cells slots Qw) (o_al i 2) pc) := by
  intro ls st M h H locs la hH hS hl hn
  dsimp only [o_al] at h
  generalize e1 : p_lg ls i = y at h
  rcases y with _ | x | x | _ | x <;> first | exact False.elim h | exact lv_aloadN K.1 K.2.1 hd (q_get hl e1) (h H locs la hH hS hl hn) | exact lv_aload K.1 K.2.1 hd (q_get hl e1) (h H locs la hH hS hl hn)
theorem s_is1 (K : q_X b w p s m args c own cc nL R d cells slots) {k : Fin 4} {i : Nat} (hd : decode cc pc = .ok (.istore_n k, 1)) (hi : (k : Nat) = i) : (p_sd b C d Q (q_Z b w p l e R s m args below meth c nL cells slots Qw) (o_is i 1) pc) := by
  intro ls st M h H locs la hH hS hl hn
  rcases st with _ | ⟨x | x, st⟩ <;> first | exact False.elim h | skip
  all_goals
    dsimp only [o_is] at h
    generalize e1 : p_lw ls i = y at h
    cases y <;> first | exact False.elim h | skip
    have hi9 : i < nL := by rw [← hn]; exact p_lw_lt e1
    first
      | exact lv_istore_n K.1 K.2.1 hd hi hl hi9 rfl (fun la9 h9 => h H locs la9 hH hS (q_sto e1 h9) (by rw [p_len_ls]; exact hn))
theorem s_is2 (K : q_X b w p s m args c own cc nL R d cells slots) {i : Nat} (hd : decode cc pc = .ok (.istore i, 2)) : (p_sd b C d Q (q_Z b w p l e R s m args below meth c nL cells slots Qw) (o_is i 2) pc) := by
  intro ls st M h H locs la hH hS hl hn
  rcases st with _ | ⟨x | x, st⟩ <;> first | exact False.elim h | skip
  all_goals
    dsimp only [o_is] at h
    generalize e1 : p_lw ls i = y at h
    cases y <;> first | exact False.elim h | skip
    have hi9 : i < nL := by rw [← hn]; exact p_lw_lt e1
    first
      | exact lv_istore K.1 K.2.1 hd hl hi9 rfl (fun la9 h9 => h H locs la9 hH hS (q_sto e1 h9) (by rw [p_len_ls]; exact hn))
theorem s_as1 (K : q_X b w p s m args c own cc nL R d cells slots) {k : Fin 4} {i : Nat} (hd : decode cc pc = .ok (.astore_n k, 1)) (hi : (k : Nat) = i) : (p_sd b C d Q (q_Z b w p l e R s m args below meth c nL cells slots Qw) (o_as i 1) pc) := by
  intro ls st M h H locs la hH hS hl hn
  rcases st with _ | ⟨x | x | _ | x, st⟩ <;> first | exact False.elim h | skip
  all_goals
    dsimp only [o_as] at h
    generalize e1 : p_lw ls i = y at h
    cases y <;> first | exact False.elim h | skip
    have hi9 : i < nL := by rw [← hn]; exact p_lw_lt e1
    first
      | exact lv_astore_nN K.1 K.2.1 hd hi hl hi9 rfl (fun la9 h9 => h H locs la9 hH hS (q_sto e1 h9) (by rw [p_len_ls]; exact hn))
      | exact lv_astore_n K.1 K.2.1 hd hi hl hi9 rfl (fun la9 h9 => h H locs la9 hH hS (q_sto e1 h9) (by rw [p_len_ls]; exact hn))
theorem s_as2 (K : q_X b w p s m args c own cc nL R d cells slots) {i : Nat} (hd : decode cc pc = .ok (.astore i, 2)) : (p_sd b C d Q (q_Z b w p l e R s m args below meth c nL cells slots Qw) (o_as i 2) pc) := by
  intro ls st M h H locs la hH hS hl hn
  rcases st with _ | ⟨x | x | _ | x, st⟩ <;> first | exact False.elim h | skip
  all_goals
    dsimp only [o_as] at h
    generalize e1 : p_lw ls i = y at h
    cases y <;> first | exact False.elim h | skip
    have hi9 : i < nL := by rw [← hn]; exact p_lw_lt e1
    first
      | exact lv_astoreN K.1 K.2.1 hd hl hi9 rfl (fun la9 h9 => h H locs la9 hH hS (q_sto e1 h9) (by rw [p_len_ls]; exact hn))
      | exact lv_astore K.1 K.2.1 hd hl hi9 rfl (fun la9 h9 => h H locs la9 hH hS (q_sto e1 h9) (by rw [p_len_ls]; exact hn))
theorem s_lst1 (K : q_X b w p s m args c own cc nL R d cells slots) {k : Fin 4} {i : Nat} (hd : decode cc pc = .ok (.lstore_n k, 1)) (hi : (k : Nat) = i) : (p_sd b C d Q (q_Z b w p l e R s m args below meth c nL cells slots Qw) (o_lst i 1) pc) := by
  intro ls st M h H locs la hH hS hl hn
  rcases st with _ | ⟨x | x | x, st⟩ <;> first | exact False.elim h | skip
  dsimp only [o_lst] at h
  generalize e1 : (p_lw ls i && Nat.blt (i + 1) (p_len ls)) = y at h
  cases y <;> first | exact False.elim h | skip
  simp only [Bool.and_eq_true] at e1
  have hi8 : i + 1 < p_len ls := by simpa using e1.2
  have hi9 : i + 1 < nL := by rw [← hn]; exact hi8
  exact lv_lstore_n K.1 K.2.1 hd hi hl hi9 rfl (fun la9 h9 => h H locs la9 hH hS (q_stoL e1.1 hi8 h9) (by rw [p_len_ls, p_len_ls]; exact hn))
theorem s_lst2 (K : q_X b w p s m args c own cc nL R d cells slots) {i : Nat} (hd : decode cc pc = .ok (.lstore i, 2)) : (p_sd b C d Q (q_Z b w p l e R s m args below meth c nL cells slots Qw) (o_lst i 2) pc) := by
  intro ls st M h H locs la hH hS hl hn
  rcases st with _ | ⟨x | x | x, st⟩ <;> first | exact False.elim h | skip
  dsimp only [o_lst] at h
  generalize e1 : (p_lw ls i && Nat.blt (i + 1) (p_len ls)) = y at h
  cases y <;> first | exact False.elim h | skip
  simp only [Bool.and_eq_true] at e1
  have hi8 : i + 1 < p_len ls := by simpa using e1.2
  have hi9 : i + 1 < nL := by rw [← hn]; exact hi8
  exact lv_lstore K.1 K.2.1 hd hl hi9 rfl (fun la9 h9 => h H locs la9 hH hS (q_stoL e1.1 hi8 h9) (by rw [p_len_ls, p_len_ls]; exact hn))
theorem s_ii (K : q_X b w p s m args c own cc nL R d cells slots) {i : Nat} {n : Int} {v : Int32} (hd : decode cc pc = .ok (.iinc i n, 3)) (hv : Int32.ofInt n = v) : (p_sd b C d Q (q_Z b w p l e R s m args below meth c nL cells slots Qw) (o_ii i v) pc) := by
  intro ls st M h H locs la hH hS hl hn
  dsimp only [o_ii] at h
  generalize e0 : p_lg ls i = z at h
  rcases z with _ | x | x <;> first | exact False.elim h | skip
  generalize e1 : p_lw ls i = y at h
  cases y <;> first | exact False.elim h | skip
  have hi9 : i < nL := by rw [← hn]; exact p_lw_lt e1
  obtain ⟨k9, hk9⟩ := List.getElem?_of_mem ((q_lv_mem (w := w) ls 0 (i, .int x)).mpr ⟨i, .inl x, e0, by rw [Nat.zero_add]; rfl⟩)
  subst hv
  exact lv_iinc K.1 K.2.1 hd hl hk9 rfl hi9 rfl (fun la9 h9 => h H locs la9 hH hS (q_sto (v := .inl _) e1 h9) (by rw [p_len_ls]; exact hn))
theorem s_add (K : q_X b w p s m args c own cc nL R d cells slots) (hd : decode cc pc = .ok (.iadd, 1)) : (p_sd b C d Q (q_Z b w p l e R s m args below meth c nL cells slots Qw) (o_add) pc) := by
  intro ls st M h H locs la hH hS hl hn
  rcases st with _ | ⟨y | y, _ | ⟨x | x, st⟩⟩ <;> first | exact False.elim h | exact lv_iadd K.1 K.2.1 hd (h H locs la hH hS hl hn)
theorem s_sub (K : q_X b w p s m args c own cc nL R d cells slots) (hd : decode cc pc = .ok (.isub, 1)) : (p_sd b C d Q (q_Z b w p l e R s m args below meth c nL cells slots Qw) (o_sub) pc) := by
  intro ls st M h H locs la hH hS hl hn
  rcases st with _ | ⟨y | y, _ | ⟨x | x, st⟩⟩ <;> first | exact False.elim h | exact lv_isub K.1 K.2.1 hd (h H locs la hH hS hl hn)
theorem s_mul (K : q_X b w p s m args c own cc nL R d cells slots) (hd : decode cc pc = .ok (.imul, 1)) : (p_sd b C d Q (q_Z b w p l e R s m args below meth c nL cells slots Qw) (o_mul) pc) := by
  intro ls st M h H locs la hH hS hl hn
  rcases st with _ | ⟨y | y, _ | ⟨x | x, st⟩⟩ <;> first | exact False.elim h | exact lv_imul K.1 K.2.1 hd (h H locs la hH hS hl hn)
theorem s_and (K : q_X b w p s m args c own cc nL R d cells slots) (hd : decode cc pc = .ok (.iand, 1)) : (p_sd b C d Q (q_Z b w p l e R s m args below meth c nL cells slots Qw) (o_and) pc) := by
  intro ls st M h H locs la hH hS hl hn
  rcases st with _ | ⟨y | y, _ | ⟨x | x, st⟩⟩ <;> first | exact False.elim h | exact lv_iand K.1 K.2.1 hd (h H locs la hH hS hl hn)
theorem s_or (K : q_X b w p s m args c own cc nL R d cells slots) (hd : decode cc pc = .ok (.ior, 1)) : (p_sd b C d Q (q_Z b w p l e R s m args below meth c nL cells slots Qw) (o_or) pc) := by
  intro ls st M h H locs la hH hS hl hn
  rcases st with _ | ⟨y | y, _ | ⟨x | x, st⟩⟩ <;> first | exact False.elim h | exact lv_ior K.1 K.2.1 hd (h H locs la hH hS hl hn)
theorem s_xor (K : q_X b w p s m args c own cc nL R d cells slots) (hd : decode cc pc = .ok (.ixor, 1)) : (p_sd b C d Q (q_Z b w p l e R s m args below meth c nL cells slots Qw) (o_xor) pc) := by
  intro ls st M h H locs la hH hS hl hn
  rcases st with _ | ⟨y | y, _ | ⟨x | x, st⟩⟩ <;> first | exact False.elim h | exact lv_ixor K.1 K.2.1 hd (h H locs la hH hS hl hn)
theorem s_shl (K : q_X b w p s m args c own cc nL R d cells slots) (hd : decode cc pc = .ok (.ishl, 1)) : (p_sd b C d Q (q_Z b w p l e R s m args below meth c nL cells slots Qw) (o_shl) pc) := by
  intro ls st M h H locs la hH hS hl hn
  rcases st with _ | ⟨y | y, _ | ⟨x | x, st⟩⟩ <;> first | exact False.elim h | exact lv_ishl K.1 K.2.1 hd (h H locs la hH hS hl hn)
theorem s_shr (K : q_X b w p s m args c own cc nL R d cells slots) (hd : decode cc pc = .ok (.ishr, 1)) : (p_sd b C d Q (q_Z b w p l e R s m args below meth c nL cells slots Qw) (o_shr) pc) := by
  intro ls st M h H locs la hH hS hl hn
  rcases st with _ | ⟨y | y, _ | ⟨x | x, st⟩⟩ <;> first | exact False.elim h | exact lv_ishr K.1 K.2.1 hd (h H locs la hH hS hl hn)
theorem s_ushr (K : q_X b w p s m args c own cc nL R d cells slots) (hd : decode cc pc = .ok (.iushr, 1)) : (p_sd b C d Q (q_Z b w p l e R s m args below meth c nL cells slots Qw) (o_ushr) pc) := by
  intro ls st M h H locs la hH hS hl hn
  rcases st with _ | ⟨y | y, _ | ⟨x | x, st⟩⟩ <;> first | exact False.elim h | exact lv_iushr K.1 K.2.1 hd rfl (h H locs la hH hS hl hn)
theorem s_div (K : q_X b w p s m args c own cc nL R d cells slots) (hd : decode cc pc = .ok (.idiv, 1)) : (p_sd b C d Q (q_Z b w p l e R s m args below meth c nL cells slots Qw) (o_div) pc) := by
  intro ls st M h H locs la hH hS hl hn
  rcases st with _ | ⟨y | y, _ | ⟨x | x, st⟩⟩ <;> first | exact False.elim h | exact lv_idiv K.1 K.2.1 hd h.1 (h.2 H locs la hH hS hl hn)
theorem s_rem (K : q_X b w p s m args c own cc nL R d cells slots) (hd : decode cc pc = .ok (.irem, 1)) : (p_sd b C d Q (q_Z b w p l e R s m args below meth c nL cells slots Qw) (o_rem) pc) := by
  intro ls st M h H locs la hH hS hl hn
  rcases st with _ | ⟨y | y, _ | ⟨x | x, st⟩⟩ <;> first | exact False.elim h | exact lv_irem K.1 K.2.1 hd h.1 (h.2 H locs la hH hS hl hn)
theorem s_ladd (K : q_X b w p s m args c own cc nL R d cells slots) (hd : decode cc pc = .ok (.ladd, 1)) : (p_sd b C d Q (q_Z b w p l e R s m args below meth c nL cells slots Qw) (o_ladd) pc) := by
  intro ls st M h H locs la hH hS hl hn
  rcases st with _ | ⟨y | y | y, _ | ⟨x | x | x, st⟩⟩ <;> first | exact False.elim h | exact lv_ladd K.1 K.2.1 hd (h H locs la hH hS hl hn)
theorem s_lsub (K : q_X b w p s m args c own cc nL R d cells slots) (hd : decode cc pc = .ok (.lsub, 1)) : (p_sd b C d Q (q_Z b w p l e R s m args below meth c nL cells slots Qw) (o_lsub) pc) := by
  intro ls st M h H locs la hH hS hl hn
  rcases st with _ | ⟨y | y | y, _ | ⟨x | x | x, st⟩⟩ <;> first | exact False.elim h | exact lv_lsub K.1 K.2.1 hd (h H locs la hH hS hl hn)
theorem s_lmul (K : q_X b w p s m args c own cc nL R d cells slots) (hd : decode cc pc = .ok (.lmul, 1)) : (p_sd b C d Q (q_Z b w p l e R s m args below meth c nL cells slots Qw) (o_lmul) pc) := by
  intro ls st M h H locs la hH hS hl hn
  rcases st with _ | ⟨y | y | y, _ | ⟨x | x | x, st⟩⟩ <;> first | exact False.elim h | exact lv_lmul K.1 K.2.1 hd (h H locs la hH hS hl hn)
theorem s_land (K : q_X b w p s m args c own cc nL R d cells slots) (hd : decode cc pc = .ok (.land, 1)) : (p_sd b C d Q (q_Z b w p l e R s m args below meth c nL cells slots Qw) (o_land) pc) := by
  intro ls st M h H locs la hH hS hl hn
  rcases st with _ | ⟨y | y | y, _ | ⟨x | x | x, st⟩⟩ <;> first | exact False.elim h | exact lv_land K.1 K.2.1 hd (h H locs la hH hS hl hn)
theorem s_lor (K : q_X b w p s m args c own cc nL R d cells slots) (hd : decode cc pc = .ok (.lor, 1)) : (p_sd b C d Q (q_Z b w p l e R s m args below meth c nL cells slots Qw) (o_lor) pc) := by
  intro ls st M h H locs la hH hS hl hn
  rcases st with _ | ⟨y | y | y, _ | ⟨x | x | x, st⟩⟩ <;> first | exact False.elim h | exact lv_lor K.1 K.2.1 hd (h H locs la hH hS hl hn)
theorem s_ldiv (K : q_X b w p s m args c own cc nL R d cells slots) (hd : decode cc pc = .ok (.ldiv, 1)) : (p_sd b C d Q (q_Z b w p l e R s m args below meth c nL cells slots Qw) (o_ldiv) pc) := by
  intro ls st M h H locs la hH hS hl hn
  rcases st with _ | ⟨y | y | y, _ | ⟨x | x | x, st⟩⟩ <;> first | exact False.elim h | exact lv_ldiv K.1 K.2.1 hd h.1 (h.2 H locs la hH hS hl hn)
theorem s_lrem (K : q_X b w p s m args c own cc nL R d cells slots) (hd : decode cc pc = .ok (.lrem, 1)) : (p_sd b C d Q (q_Z b w p l e R s m args below meth c nL cells slots Qw) (o_lrem) pc) := by
  intro ls st M h H locs la hH hS hl hn
  rcases st with _ | ⟨y | y | y, _ | ⟨x | x | x, st⟩⟩ <;> first | exact False.elim h | exact lv_lrem K.1 K.2.1 hd h.1 (h.2 H locs la hH hS hl hn)
theorem s_lcmp (K : q_X b w p s m args c own cc nL R d cells slots) (hd : decode cc pc = .ok (.lcmp, 1)) : (p_sd b C d Q (q_Z b w p l e R s m args below meth c nL cells slots Qw) (o_lcmp) pc) := by
  intro ls st M h H locs la hH hS hl hn
  rcases st with _ | ⟨y | y | y, _ | ⟨x | x | x, st⟩⟩ <;> first | exact False.elim h | exact W.lcmp K.1 K.2.1 hd (h H locs la hH hS hl hn)
theorem s_lshl (K : q_X b w p s m args c own cc nL R d cells slots) (hd : decode cc pc = .ok (.lshl, 1)) : (p_sd b C d Q (q_Z b w p l e R s m args below meth c nL cells slots Qw) (o_lshl) pc) := by
  intro ls st M h H locs la hH hS hl hn
  rcases st with _ | ⟨y | y, _ | ⟨x | x | x, st⟩⟩ <;> first | exact False.elim h | exact lv_lshl K.1 K.2.1 hd rfl (h H locs la hH hS hl hn)
theorem s_lshr (K : q_X b w p s m args c own cc nL R d cells slots) (hd : decode cc pc = .ok (.lshr, 1)) : (p_sd b C d Q (q_Z b w p l e R s m args below meth c nL cells slots Qw) (o_lshr) pc) := by
  intro ls st M h H locs la hH hS hl hn
  rcases st with _ | ⟨y | y, _ | ⟨x | x | x, st⟩⟩ <;> first | exact False.elim h | exact lv_lshr K.1 K.2.1 hd rfl (h H locs la hH hS hl hn)
theorem s_lushr (K : q_X b w p s m args c own cc nL R d cells slots) (hd : decode cc pc = .ok (.lushr, 1)) : (p_sd b C d Q (q_Z b w p l e R s m args below meth c nL cells slots Qw) (o_lushr) pc) := by
  intro ls st M h H locs la hH hS hl hn
  rcases st with _ | ⟨y | y, _ | ⟨x | x | x, st⟩⟩ <;> first | exact False.elim h | exact lv_lushr K.1 K.2.1 hd rfl (h H locs la hH hS hl hn)
theorem s_i2l (K : q_X b w p s m args c own cc nL R d cells slots) (hd : decode cc pc = .ok (.i2l, 1)) : (p_sd b C d Q (q_Z b w p l e R s m args below meth c nL cells slots Qw) (o_i2l) pc) := by
  intro ls st M h H locs la hH hS hl hn
  rcases st with _ | ⟨x | x, st⟩ <;> first | exact False.elim h | exact lv_i2l K.1 K.2.1 hd rfl (h H locs la hH hS hl hn)
theorem s_l2i (K : q_X b w p s m args c own cc nL R d cells slots) (hd : decode cc pc = .ok (.l2i, 1)) : (p_sd b C d Q (q_Z b w p l e R s m args below meth c nL cells slots Qw) (o_l2i) pc) := by
  intro ls st M h H locs la hH hS hl hn
  rcases st with _ | ⟨x | x | x, st⟩ <;> first | exact False.elim h | exact lv_l2i K.1 K.2.1 hd rfl (h H locs la hH hS hl hn)
theorem s_dup (K : q_X b w p s m args c own cc nL R d cells slots) (hd : decode cc pc = .ok (.dup, 1)) : (p_sd b C d Q (q_Z b w p l e R s m args below meth c nL cells slots Qw) (o_dup) pc) := by
  intro ls st M h H locs la hH hS hl hn
  rcases st with _ | ⟨x | x | _ | x, st⟩ <;> first | exact False.elim h | exact lv_dup K.1 K.2.1 hd rfl (h H locs la hH hS hl hn)
theorem s_pop (K : q_X b w p s m args c own cc nL R d cells slots) (hd : decode cc pc = .ok (.pop, 1)) : (p_sd b C d Q (q_Z b w p l e R s m args below meth c nL cells slots Qw) (o_pop) pc) := by
  intro ls st M h H locs la hH hS hl hn
  rcases st with _ | ⟨x | x | _ | x, st⟩ <;> first | exact False.elim h | exact lv_pop K.1 K.2.1 hd rfl (h H locs la hH hS hl hn)
theorem s_goto (K : q_X b w p s m args c own cc nL R d cells slots) {off : Int} {t : Nat} (hd : decode cc pc = .ok (.goto off, 3)) (ht : (pc : Int) + off = (t : Int)) : (p_sd b C d Q (q_Z b w p l e R s m args below meth c nL cells slots Qw) (o_goto t) pc) := by
  intro ls st M h H locs la hH hS hl hn
  exact lv_goto K.1 K.2.1 hd ht (h H locs la hH hS hl hn)
theorem s_eq0 (K : q_X b w p s m args c own cc nL R d cells slots) {off : Int} {t : Nat} (hd : decode cc pc = .ok (.ifCond .eq off, 3)) (ht : (pc : Int) + off = (t : Int)) : (p_sd b C d Q (q_Z b w p l e R s m args below meth c nL cells slots Qw) (o_eq0 t) pc) := by
  intro ls st M h H locs la hH hS hl hn
  rcases st with _ | ⟨x | x, st⟩ <;> first | exact False.elim h | exact lv_if_eq K.1 K.2.1 hd ht (fun c9 => h.1 c9 H locs la hH hS hl hn) (fun c9 => h.2 c9 H locs la hH hS hl hn)
theorem s_ieq (K : q_X b w p s m args c own cc nL R d cells slots) {off : Int} {t : Nat} (hd : decode cc pc = .ok (.if_icmp .eq off, 3)) (ht : (pc : Int) + off = (t : Int)) : (p_sd b C d Q (q_Z b w p l e R s m args below meth c nL cells slots Qw) (o_ieq t) pc) := by
  intro ls st M h H locs la hH hS hl hn
  rcases st with _ | ⟨y | y, _ | ⟨x | x, st⟩⟩ <;> first | exact False.elim h | exact lv_icmp_eq K.1 K.2.1 hd ht (fun c9 => h.1 c9 H locs la hH hS hl hn) (fun c9 => h.2 c9 H locs la hH hS hl hn)
theorem s_ne0 (K : q_X b w p s m args c own cc nL R d cells slots) {off : Int} {t : Nat} (hd : decode cc pc = .ok (.ifCond .ne off, 3)) (ht : (pc : Int) + off = (t : Int)) : (p_sd b C d Q (q_Z b w p l e R s m args below meth c nL cells slots Qw) (o_ne0 t) pc) := by
  intro ls st M h H locs la hH hS hl hn
  rcases st with _ | ⟨x | x, st⟩ <;> first | exact False.elim h | exact lv_if_ne K.1 K.2.1 hd ht (fun c9 => h.1 c9 H locs la hH hS hl hn) (fun c9 => h.2 c9 H locs la hH hS hl hn)
theorem s_ine (K : q_X b w p s m args c own cc nL R d cells slots) {off : Int} {t : Nat} (hd : decode cc pc = .ok (.if_icmp .ne off, 3)) (ht : (pc : Int) + off = (t : Int)) : (p_sd b C d Q (q_Z b w p l e R s m args below meth c nL cells slots Qw) (o_ine t) pc) := by
  intro ls st M h H locs la hH hS hl hn
  rcases st with _ | ⟨y | y, _ | ⟨x | x, st⟩⟩ <;> first | exact False.elim h | exact lv_icmp_ne K.1 K.2.1 hd ht (fun c9 => h.1 c9 H locs la hH hS hl hn) (fun c9 => h.2 c9 H locs la hH hS hl hn)
theorem s_lt0 (K : q_X b w p s m args c own cc nL R d cells slots) {off : Int} {t : Nat} (hd : decode cc pc = .ok (.ifCond .lt off, 3)) (ht : (pc : Int) + off = (t : Int)) : (p_sd b C d Q (q_Z b w p l e R s m args below meth c nL cells slots Qw) (o_lt0 t) pc) := by
  intro ls st M h H locs la hH hS hl hn
  rcases st with _ | ⟨x | x, st⟩ <;> first | exact False.elim h | exact lv_if_lt K.1 K.2.1 hd ht (fun c9 => h.1 c9 H locs la hH hS hl hn) (fun c9 => h.2 c9 H locs la hH hS hl hn)
theorem s_ilt (K : q_X b w p s m args c own cc nL R d cells slots) {off : Int} {t : Nat} (hd : decode cc pc = .ok (.if_icmp .lt off, 3)) (ht : (pc : Int) + off = (t : Int)) : (p_sd b C d Q (q_Z b w p l e R s m args below meth c nL cells slots Qw) (o_ilt t) pc) := by
  intro ls st M h H locs la hH hS hl hn
  rcases st with _ | ⟨y | y, _ | ⟨x | x, st⟩⟩ <;> first | exact False.elim h | exact lv_icmp_lt K.1 K.2.1 hd ht (fun c9 => h.1 c9 H locs la hH hS hl hn) (fun c9 => h.2 c9 H locs la hH hS hl hn)
theorem s_ge0 (K : q_X b w p s m args c own cc nL R d cells slots) {off : Int} {t : Nat} (hd : decode cc pc = .ok (.ifCond .ge off, 3)) (ht : (pc : Int) + off = (t : Int)) : (p_sd b C d Q (q_Z b w p l e R s m args below meth c nL cells slots Qw) (o_ge0 t) pc) := by
  intro ls st M h H locs la hH hS hl hn
  rcases st with _ | ⟨x | x, st⟩ <;> first | exact False.elim h | exact lv_if_ge K.1 K.2.1 hd ht (fun c9 => h.1 c9 H locs la hH hS hl hn) (fun c9 => h.2 c9 H locs la hH hS hl hn)
theorem s_ige (K : q_X b w p s m args c own cc nL R d cells slots) {off : Int} {t : Nat} (hd : decode cc pc = .ok (.if_icmp .ge off, 3)) (ht : (pc : Int) + off = (t : Int)) : (p_sd b C d Q (q_Z b w p l e R s m args below meth c nL cells slots Qw) (o_ige t) pc) := by
  intro ls st M h H locs la hH hS hl hn
  rcases st with _ | ⟨y | y, _ | ⟨x | x, st⟩⟩ <;> first | exact False.elim h | exact lv_icmp_ge K.1 K.2.1 hd ht (fun c9 => h.1 c9 H locs la hH hS hl hn) (fun c9 => h.2 c9 H locs la hH hS hl hn)
theorem s_gt0 (K : q_X b w p s m args c own cc nL R d cells slots) {off : Int} {t : Nat} (hd : decode cc pc = .ok (.ifCond .gt off, 3)) (ht : (pc : Int) + off = (t : Int)) : (p_sd b C d Q (q_Z b w p l e R s m args below meth c nL cells slots Qw) (o_gt0 t) pc) := by
  intro ls st M h H locs la hH hS hl hn
  rcases st with _ | ⟨x | x, st⟩ <;> first | exact False.elim h | exact lv_if_gt K.1 K.2.1 hd ht (fun c9 => h.1 c9 H locs la hH hS hl hn) (fun c9 => h.2 c9 H locs la hH hS hl hn)
theorem s_igt (K : q_X b w p s m args c own cc nL R d cells slots) {off : Int} {t : Nat} (hd : decode cc pc = .ok (.if_icmp .gt off, 3)) (ht : (pc : Int) + off = (t : Int)) : (p_sd b C d Q (q_Z b w p l e R s m args below meth c nL cells slots Qw) (o_igt t) pc) := by
  intro ls st M h H locs la hH hS hl hn
  rcases st with _ | ⟨y | y, _ | ⟨x | x, st⟩⟩ <;> first | exact False.elim h | exact lv_icmp_gt K.1 K.2.1 hd ht (fun c9 => h.1 c9 H locs la hH hS hl hn) (fun c9 => h.2 c9 H locs la hH hS hl hn)
theorem s_le0 (K : q_X b w p s m args c own cc nL R d cells slots) {off : Int} {t : Nat} (hd : decode cc pc = .ok (.ifCond .le off, 3)) (ht : (pc : Int) + off = (t : Int)) : (p_sd b C d Q (q_Z b w p l e R s m args below meth c nL cells slots Qw) (o_le0 t) pc) := by
  intro ls st M h H locs la hH hS hl hn
  rcases st with _ | ⟨x | x, st⟩ <;> first | exact False.elim h | exact lv_if_le K.1 K.2.1 hd ht (fun c9 => h.1 c9 H locs la hH hS hl hn) (fun c9 => h.2 c9 H locs la hH hS hl hn)
theorem s_ile (K : q_X b w p s m args c own cc nL R d cells slots) {off : Int} {t : Nat} (hd : decode cc pc = .ok (.if_icmp .le off, 3)) (ht : (pc : Int) + off = (t : Int)) : (p_sd b C d Q (q_Z b w p l e R s m args below meth c nL cells slots Qw) (o_ile t) pc) := by
  intro ls st M h H locs la hH hS hl hn
  rcases st with _ | ⟨y | y, _ | ⟨x | x, st⟩⟩ <;> first | exact False.elim h | exact lv_icmp_le K.1 K.2.1 hd ht (fun c9 => h.1 c9 H locs la hH hS hl hn) (fun c9 => h.2 c9 H locs la hH hS hl hn)
theorem s_inul (K : q_X b w p s m args c own cc nL R d cells slots) {off : Int} {t : Nat} (hd : decode cc pc = .ok (.ifnull off, 3)) (ht : (pc : Int) + off = (t : Int)) : (p_sd b C d Q (q_Z b w p l e R s m args below meth c nL cells slots Qw) (o_inul t) pc) := by
  intro ls st M h H locs la hH hS hl hn
  rcases st with _ | ⟨x | x | _ | x, st⟩ <;> first | exact False.elim h | exact lv_ifnullN K.1 K.2.1 hd ht (h H locs la hH hS hl hn) | exact lv_ifnull K.1 K.2.1 hd (h H locs la hH hS hl hn)
theorem s_inn (K : q_X b w p s m args c own cc nL R d cells slots) {off : Int} {t : Nat} (hd : decode cc pc = .ok (.ifnonnull off, 3)) (ht : (pc : Int) + off = (t : Int)) : (p_sd b C d Q (q_Z b w p l e R s m args below meth c nL cells slots Qw) (o_inn t) pc) := by
  intro ls st M h H locs la hH hS hl hn
  rcases st with _ | ⟨x | x | _ | x, st⟩ <;> first | exact False.elim h | exact lv_ifnonnullN K.1 K.2.1 hd (h H locs la hH hS hl hn) | exact lv_ifnonnull K.1 K.2.1 hd ht (h H locs la hH hS hl hn)
theorem q_look {Y : Nat → Prop} {x : Int32} {dd : Int} {dt : Nat} {P : Prop} : ∀ (ps : List (Int × Int)) (tl : List (Int32 × Nat)), ps.length = tl.length → (∀ i : Nat, ∀ (a : Int × Int) (q : Int32 × Nat), ps[i]? = some a → tl[i]? = some q → q.1.toInt = a.1 ∧ (pc : Int) + a.2 = (q.2 : Int)) → (pc : Int) + dd = (dt : Int) → p_sw Y x tl dt → (∀ (off : Int) (tgt : Nat), Op.lookupswitch.offset ps dd x.toInt = off → (pc : Int) + off = (tgt : Int) → Y tgt → P) → P := by
  intro ps
  induction ps with
  | nil =>
    intro tl hlen _ hd h k
    cases tl with
    | nil => exact k dd dt rfl hd h
    | cons _ _ => cases hlen
  | cons a ps ih =>
    intro tl hlen hq hd h k
    cases tl with
    | nil => cases hlen
    | cons q tl =>
      obtain ⟨h1, h2⟩ := hq 0 a q rfl rfl
      by_cases ex : x = q.1
      · refine k a.2 q.2 ?_ h2 (h.1 ex)
        obtain ⟨a1, a2⟩ := a
        rw [Op.lookupswitch.offset_cons, if_pos (by rw [ex]; exact h1.symm)]
      · refine ih tl (Nat.succ.inj hlen) (fun i a q ha hb => hq (i + 1) a q ha hb) hd (h.2 ex) (fun off tgt e1 e2 y => k off tgt ?_ e2 y)
        obtain ⟨a1, a2⟩ := a
        rw [lv_osw ex h1]
        exact e1
theorem s_lsw (K : q_X b w p s m args c own cc nL R d cells slots) {dd : Int} {ps : Array (Int × Int)} {len : Nat} {tl : List (Int32 × Nat)} {dt : Nat} (hd : decode cc pc = .ok (.lookupswitch dd ps, len)) (hp : (ps.toList.zip (ps.toList.drop 1)).all (fun (a, next) => a.1 < next.1) = true) (hlen : ps.toList.length = tl.length) (hq : ∀ i : Nat, ∀ (a : Int × Int) (q : Int32 × Nat), ps.toList[i]? = some a → tl[i]? = some q → q.1.toInt = a.1 ∧ (pc : Int) + a.2 = (q.2 : Int)) (hdt : (pc : Int) + dd = (dt : Int)) : (p_sd b C d Q (q_Z b w p l e R s m args below meth c nL cells slots Qw) (o_sw tl dt) pc) := by
  intro ls st M h H locs la hH hS hl hn
  rcases st with _ | ⟨x | x, st⟩ <;> first | exact False.elim h | skip
  exact q_look ps.toList tl hlen hq hdt h (fun off tgt e1 e2 y => lv_lookup K.1 K.2.1 hd hp e1 e2 (y H locs la hH hS hl hn))
theorem q_tab {Y : Nat → Prop} {x : Int32} {dt : Nat} {P : Prop} : ∀ (os : List Int) (tl : List (Int32 × Nat)) (lo : Int), os.length = tl.length → (∀ i : Nat, ∀ (a : Int) (q : Int32 × Nat), os[i]? = some a → tl[i]? = some q → q.1.toInt = lo + i ∧ (pc : Int) + a = (q.2 : Int)) → p_sw Y x tl dt → ((x.toInt < lo ∨ lo + os.length ≤ x.toInt) → Y dt → P) → (∀ (i : Nat) (off : Int) (tgt : Nat), x.toInt = lo + i → os[i]? = some off → (pc : Int) + off = (tgt : Int) → Y tgt → P) → P := by
  intro os
  induction os with
  | nil =>
    intro tl lo hlen _ h k1 k2
    cases tl with
    | nil => exact k1 (by simp; omega) h
    | cons _ _ => cases hlen
  | cons a os ih =>
    intro tl lo hlen hq h k1 k2
    cases tl with
    | nil => cases hlen
    | cons q tl =>
      obtain ⟨h1, h2⟩ := hq 0 a q rfl rfl
      by_cases ex : x = q.1
      · exact k2 0 a q.2 (by rw [ex]; exact h1) rfl h2 (h.1 ex)
      · have ne : ¬ x.toInt = lo := fun z => ex (Int32.toInt_inj.mp (by rw [h1, z]; simp))
        refine ih tl (lo + 1) (Nat.succ.inj hlen) (fun i a q ha hb => ?_) (h.2 ex) (fun z y => k1 ?_ y) (fun i off tgt e1 e2 e3 y => k2 (i + 1) off tgt (by rw [e1]; push_cast; omega) e2 e3 y)
        · have := hq (i + 1) a q ha hb
          refine ⟨by rw [this.1]; push_cast; omega, this.2⟩
        · simp only [List.length_cons]
          push_cast
          omega
theorem s_tsw (K : q_X b w p s m args c own cc nL R d cells slots) {dd lo hi : Int} {os : Array Int} {len : Nat} {tl : List (Int32 × Nat)} {dt : Nat} (hd : decode cc pc = .ok (.tableswitch dd lo hi os, len)) (hlen : os.toList.length = tl.length) (hhi : lo + os.toList.length = hi + 1) (hq : ∀ i : Nat, ∀ (a : Int) (q : Int32 × Nat), os.toList[i]? = some a → tl[i]? = some q → q.1.toInt = lo + i ∧ (pc : Int) + a = (q.2 : Int)) (hdt : (pc : Int) + dd = (dt : Int)) : (p_sd b C d Q (q_Z b w p l e R s m args below meth c nL cells slots Qw) (o_sw tl dt) pc) := by
  intro ls st M h H locs la hH hS hl hn
  rcases st with _ | ⟨x | x, st⟩ <;> first | exact False.elim h | skip
  have hl9 : ∀ (i : Nat) (off : Int), os.toList[i]? = some off → i < os.toList.length := fun i off h => (List.getElem?_eq_some_iff.mp h).1
  refine q_tab os.toList tl lo hlen hq h (fun z y => lv_tableOut K.1 K.2.1 hd (by omega) hdt (y H locs la hH hS hl hn)) (fun i off tgt e1 e2 e3 y => ?_)
  have := hl9 i off e2
  refine lv_tableIn (off := off) K.1 K.2.1 hd (by omega) (by omega) ?_ e3 (y H locs la hH hS hl hn)
  rw [show (x.toInt - lo).toNat = i by omega, ← Array.getElem?_toList]
  exact e2
theorem s_gi (K : q_X b w p s m args c own cc nL R d cells slots) {ci k idx : Nat} {ref Cn host : String} {T : u_T} {N : Nat} (hd : decode cc pc = .ok (.getfield idx, 3)) (hc : vwCl[ci]? = some (Cn, T, N)) (hc9 : ci < 9) (hN : p_g p_nf ci = N) (hin : ∀ z ∈ u_ws Cn T N, z ∈ p_T) (hk : k < N) (hlk : Cond.fieldLink own idx ref (T k).2.1 (T k).2.2.1 ∈ p_T) (href : (T k).1 = ref) : (p_sd b C d Q (q_Z b w p l e R s m args below meth c nL cells slots Qw) (o_gi ci k) pc) := by
  intro ls st M h H locs la hH hS hl hn
  rcases st with _ | ⟨x | x | _ | a, st⟩ <;> first | exact False.elim h | skip
  dsimp only [o_gi] at h
  generalize e1 : p_is b a ci = y at h
  cases y <;> first | exact False.elim h | skip
  generalize e2 : p_rf a k = z at h
  cases z <;> first | exact False.elim h | skip
  obtain ⟨ha, hE⟩ := q_obj (w := w) M e1 hc9
  have he := q_at (w := w) M ha
  rw [hE, hN] at he
  exact va_get (v := q_f w M a k) K.1 K.2.1 K.2.2.2.2.1 hin K.2.2.2.1 K.2.2.2.2.2.2.1 hH.P (q_ix a) he hc k hk (K.2.2.2.2.1 _ hlk) (fun _ h9 => by rw [← href]; exact h9) (by simp [hk]) hd (by simp only [q_f, e2]; exact (h H locs la hH hS hl hn))
theorem s_gr (K : q_X b w p s m args c own cc nL R d cells slots) {ci k idx : Nat} {ref Cn host : String} {T : u_T} {N : Nat} (hd : decode cc pc = .ok (.getfield idx, 3)) (hc : vwCl[ci]? = some (Cn, T, N)) (hc9 : ci < 9) (hN : p_g p_nf ci = N) (hin : ∀ z ∈ u_ws Cn T N, z ∈ p_T) (hk : k < N) (hlk : Cond.fieldLink own idx ref (T k).2.1 (T k).2.2.1 ∈ p_T) (href : (T k).1 = ref) : (p_sd b C d Q (q_Z b w p l e R s m args below meth c nL cells slots Qw) (o_gr ci k) pc) := by
  intro ls st M h H locs la hH hS hl hn
  rcases st with _ | ⟨x | x | _ | a, st⟩ <;> first | exact False.elim h | skip
  dsimp only [o_gr] at h
  generalize e1 : p_is b a ci = y at h
  cases y <;> first | exact False.elim h | skip
  generalize e2 : p_rf a k = z at h
  cases z <;> first | exact False.elim h | skip
  obtain ⟨ha, hE⟩ := q_obj (w := w) M e1 hc9
  have he := q_at (w := w) M ha
  rw [hE, hN] at he
  exact va_get (v := q_f w M a k) K.1 K.2.1 K.2.2.2.2.1 hin K.2.2.2.1 K.2.2.2.2.2.2.1 hH.P (q_ix a) he hc k hk (K.2.2.2.2.1 _ hlk) (fun _ h9 => by rw [← href]; exact h9) (by simp [hk]) hd (by simp only [q_f, e2]; exact (h H locs la hH hS hl hn))
theorem s_pi (K : q_X b w p s m args c own cc nL R d cells slots) {ci k idx : Nat} {ref Cn host : String} {T : u_T} {N : Nat} (hd : decode cc pc = .ok (.putfield idx, 3)) (hc : vwCl[ci]? = some (Cn, T, N)) (hc9 : ci < 9) (hN : p_g p_nf ci = N) (hin : ∀ z ∈ u_ws Cn T N, z ∈ p_T) (hk : k < N) (hlk : Cond.fieldLink own idx ref (T k).2.1 (T k).2.2.1 ∈ p_T) (href : (T k).1 = ref) (hfin : (T k).2.2.2 = false) (ty0 : Nat → FieldType) (hty : ∀ k, k < N → parseFieldDescriptor (T k).2.2.1 = some (ty0 k)) (hnm : ∀ a, a < N → ∀ b, b < N → a ≠ b → (T a).2.1 ≠ (T b).2.1) (hti : ty0 k = .int) : (p_sd b C d Q (q_Z b w p l e R s m args below meth c nL cells slots Qw) (o_pi ci k) pc) := by
  intro ls st M h H locs la hH hS hl hn
  rcases st with _ | ⟨x | x, _ | ⟨z | z | _ | a, st⟩⟩ <;> first | exact False.elim h | skip
  dsimp only [o_pi] at h
  generalize e1 : p_is b a ci = y at h
  cases y <;> first | exact False.elim h | skip
  generalize e2 : p_rf a k = z at h
  cases z <;> first | exact False.elim h | skip
  obtain ⟨ha, hE⟩ := q_obj (w := w) M e1 hc9
  have he := q_at (w := w) M ha
  rw [hE, hN] at he
  refine va_put (v := .int x) (ty := .int) K.1 K.2.1 K.2.2.2.2.1 hin ty0 hty hnm K.2.2.2.1 K.2.2.2.2.2.2.1 hH.P (q_D K.2.2.2.2.2.2.2.1) hS (q_ix a) he hc k hk (K.2.2.2.2.1 _ hlk) (fun _ h9 => by rw [← href]; exact h9) hfin (by rw [hty k hk, hti]) rfl rfl (by simp [hk]) hd (fun H1 locs1 hP1 _ hS1 => h H1 locs1 la (q_set ha hP1 ?_ (fun a9 h9 => q_E_cg (p_row_ne h9) rfl)) hS1 hl hn)
  obtain ⟨-, hE2⟩ := q_obj (w := w) (p_wr M a k x) e1 hc9
  rw [hE2, hN]
  congr 2
  apply List.ext_getElem?
  intro i
  rw [List.getElem?_set]
  simp only [List.getElem?_map, List.length_map, List.length_range]
  by_cases hi : k = i
  · subst hi
    simp [hk, q_f, e2, p_wr, p_row_eq, upd]
  · rw [if_neg hi]
    cases hr : (List.range N)[i]? with
    | none => rfl
    | some j =>
      have hj : j = i := by
        have := (List.getElem?_eq_some_iff.mp hr).2
        simpa using this.symm
      subst hj
      simp only [Option.map_some, q_f, p_wr, p_row_eq, upd, if_neg (show ¬ j = k from fun q => hi q.symm)]
theorem s_giN (K : q_X b w p s m args c own cc nL R d cells slots) {ci k idx : Nat} {ref Cn host : String} {T : u_T} {N : Nat} (hd : decode cc pc = .ok (.getfield idx, 3)) (hc : vwCl[ci]? = some (Cn, T, N)) (hc9 : ci < 9) (hN : p_g p_nf ci = N) (hin : ∀ z ∈ u_ws Cn T N, z ∈ p_T) (hk : k < N) (hlk : Cond.fieldLinkNest own idx ref (T k).2.1 (T k).2.2.1 host ∈ p_N) (href : (T k).1 = ref) : (p_sd b C d Q (q_Z b w p l e R s m args below meth c nL cells slots Qw) (o_gi ci k) pc) := by
  intro ls st M h H locs la hH hS hl hn
  rcases st with _ | ⟨x | x | _ | a, st⟩ <;> first | exact False.elim h | skip
  dsimp only [o_gi] at h
  generalize e1 : p_is b a ci = y at h
  cases y <;> first | exact False.elim h | skip
  generalize e2 : p_rf a k = z at h
  cases z <;> first | exact False.elim h | skip
  obtain ⟨ha, hE⟩ := q_obj (w := w) M e1 hc9
  have he := q_at (w := w) M ha
  rw [hE, hN] at he
  exact va_getN (v := q_f w M a k) K.1 K.2.1 K.2.2.2.2.1 hin K.2.2.2.1 K.2.2.2.2.2.2.1 hH.P (q_ix a) he hc k hk (va_Nw.use rfl (K.2.2.2.2.2.1 _ hlk)) (fun _ h9 => by rw [← href]; exact h9) (by simp [hk]) hd (by simp only [q_f, e2]; exact (h H locs la hH hS hl hn))
theorem s_grN (K : q_X b w p s m args c own cc nL R d cells slots) {ci k idx : Nat} {ref Cn host : String} {T : u_T} {N : Nat} (hd : decode cc pc = .ok (.getfield idx, 3)) (hc : vwCl[ci]? = some (Cn, T, N)) (hc9 : ci < 9) (hN : p_g p_nf ci = N) (hin : ∀ z ∈ u_ws Cn T N, z ∈ p_T) (hk : k < N) (hlk : Cond.fieldLinkNest own idx ref (T k).2.1 (T k).2.2.1 host ∈ p_N) (href : (T k).1 = ref) : (p_sd b C d Q (q_Z b w p l e R s m args below meth c nL cells slots Qw) (o_gr ci k) pc) := by
  intro ls st M h H locs la hH hS hl hn
  rcases st with _ | ⟨x | x | _ | a, st⟩ <;> first | exact False.elim h | skip
  dsimp only [o_gr] at h
  generalize e1 : p_is b a ci = y at h
  cases y <;> first | exact False.elim h | skip
  generalize e2 : p_rf a k = z at h
  cases z <;> first | exact False.elim h | skip
  obtain ⟨ha, hE⟩ := q_obj (w := w) M e1 hc9
  have he := q_at (w := w) M ha
  rw [hE, hN] at he
  exact va_getN (v := q_f w M a k) K.1 K.2.1 K.2.2.2.2.1 hin K.2.2.2.1 K.2.2.2.2.2.2.1 hH.P (q_ix a) he hc k hk (va_Nw.use rfl (K.2.2.2.2.2.1 _ hlk)) (fun _ h9 => by rw [← href]; exact h9) (by simp [hk]) hd (by simp only [q_f, e2]; exact (h H locs la hH hS hl hn))
theorem s_piN (K : q_X b w p s m args c own cc nL R d cells slots) {ci k idx : Nat} {ref Cn host : String} {T : u_T} {N : Nat} (hd : decode cc pc = .ok (.putfield idx, 3)) (hc : vwCl[ci]? = some (Cn, T, N)) (hc9 : ci < 9) (hN : p_g p_nf ci = N) (hin : ∀ z ∈ u_ws Cn T N, z ∈ p_T) (hk : k < N) (hlk : Cond.fieldLinkNest own idx ref (T k).2.1 (T k).2.2.1 host ∈ p_N) (href : (T k).1 = ref) (hfin : (T k).2.2.2 = false) (ty0 : Nat → FieldType) (hty : ∀ k, k < N → parseFieldDescriptor (T k).2.2.1 = some (ty0 k)) (hnm : ∀ a, a < N → ∀ b, b < N → a ≠ b → (T a).2.1 ≠ (T b).2.1) (hti : ty0 k = .int) : (p_sd b C d Q (q_Z b w p l e R s m args below meth c nL cells slots Qw) (o_pi ci k) pc) := by
  intro ls st M h H locs la hH hS hl hn
  rcases st with _ | ⟨x | x, _ | ⟨z | z | _ | a, st⟩⟩ <;> first | exact False.elim h | skip
  dsimp only [o_pi] at h
  generalize e1 : p_is b a ci = y at h
  cases y <;> first | exact False.elim h | skip
  generalize e2 : p_rf a k = z at h
  cases z <;> first | exact False.elim h | skip
  obtain ⟨ha, hE⟩ := q_obj (w := w) M e1 hc9
  have he := q_at (w := w) M ha
  rw [hE, hN] at he
  refine va_putN (v := .int x) (ty := .int) K.1 K.2.1 K.2.2.2.2.1 hin ty0 hty hnm K.2.2.2.1 K.2.2.2.2.2.2.1 hH.P (q_D K.2.2.2.2.2.2.2.1) hS (q_ix a) he hc k hk (va_Nw.use rfl (K.2.2.2.2.2.1 _ hlk)) (fun _ h9 => by rw [← href]; exact h9) hfin (by rw [hty k hk, hti]) rfl rfl (by simp [hk]) hd (fun H1 locs1 hP1 _ hS1 => h H1 locs1 la (q_set ha hP1 ?_ (fun a9 h9 => q_E_cg (p_row_ne h9) rfl)) hS1 hl hn)
  obtain ⟨-, hE2⟩ := q_obj (w := w) (p_wr M a k x) e1 hc9
  rw [hE2, hN]
  congr 2
  apply List.ext_getElem?
  intro i
  rw [List.getElem?_set]
  simp only [List.getElem?_map, List.length_map, List.length_range]
  by_cases hi : k = i
  · subst hi
    simp [hk, q_f, e2, p_wr, p_row_eq, upd]
  · rw [if_neg hi]
    cases hr : (List.range N)[i]? with
    | none => rfl
    | some j =>
      have hj : j = i := by
        have := (List.getElem?_eq_some_iff.mp hr).2
        simpa using this.symm
      subst hj
      simp only [Option.map_some, q_f, p_wr, p_row_eq, upd, if_neg (show ¬ j = k from fun q => hi q.symm)]
theorem s_len (K : q_X b w p s m args c own cc nL R d cells slots) (hd : decode cc pc = .ok (.arraylength, 1)) : (p_sd b C d Q (q_Z b w p l e R s m args below meth c nL cells slots Qw) (o_len) pc) := by
  intro ls st M h H locs la hH hS hl hn
  rcases st with _ | ⟨x | x | _ | a, st⟩ <;> first | exact False.elim h | skip
  dsimp only [o_len] at h
  generalize e1 : (Nat.ble 9 (p_kd a) && (Nat.ble (p_kd a) 11 && p_al b a)) = y at h
  cases y <;> first | exact False.elim h | skip
  simp only [Bool.and_eq_true] at e1
  obtain ⟨h1, h2, h3⟩ := e1
  have h1 := Nat.le_of_ble_eq_true h1
  have h2 := Nat.le_of_ble_eq_true h2
  have he := q_at (w := w) M h3
  have hc : p_kd a = 9 ∨ p_kd a = 10 ∨ p_kd a = 11 := by omega
  rcases hc with hc | hc | hc
  · rw [(q_ints (b := b) (w := w) M (by simp [p_is, hc, h3])).2] at he
    exact va_alen K.1 K.2.1 K.2.2.2.2.2.2.1 hH.P (q_ix a) 0 he rfl rfl hd (h H locs la hH hS hl hn)
  · rw [(q_refs (b := b) (w := w) (kd := 10) M (by simp [p_is, hc, h3]) (by omega)).2] at he
    exact va_alen K.1 K.2.1 K.2.2.2.2.2.2.1 hH.P (q_ix a) 1 he rfl rfl hd (h H locs la hH hS hl hn)
  · rw [(q_refs (b := b) (w := w) (kd := 11) M (by simp [p_is, hc, h3]) (by omega)).2] at he
    exact va_alen K.1 K.2.1 K.2.2.2.2.2.2.1 hH.P (q_ix a) 2 he rfl rfl hd (h H locs la hH hS hl hn)
theorem s_ia (K : q_X b w p s m args c own cc nL R d cells slots) (hd : decode cc pc = .ok (.iaload, 1)) : (p_sd b C d Q (q_Z b w p l e R s m args below meth c nL cells slots Qw) (o_ia) pc) := by
  intro ls st M h H locs la hH hS hl hn
  rcases st with _ | ⟨i | i, _ | ⟨x | x | _ | a, st⟩⟩ <;> first | exact False.elim h | skip
  dsimp only [o_ia] at h
  generalize e1 : p_is b a 9 = y at h
  cases y <;> first | exact False.elim h | skip
  obtain ⟨ha, hE⟩ := q_ints (w := w) M e1
  have he := q_at (w := w) M ha
  rw [hE] at he
  exact va_iald K.1 K.2.1 K.2.2.2.2.2.2.1 hH.P (q_ix a) 0 he rfl h.1 hd (h.2 H locs la hH hS hl hn)
theorem s_ist (K : q_X b w p s m args c own cc nL R d cells slots) (hd : decode cc pc = .ok (.iastore, 1)) : (p_sd b C d Q (q_Z b w p l e R s m args below meth c nL cells slots Qw) (o_ist) pc) := by
  intro ls st M h H locs la hH hS hl hn
  rcases st with _ | ⟨v | v, _ | ⟨i | i, _ | ⟨x | x | _ | a, st⟩⟩⟩ <;> first | exact False.elim h | skip
  dsimp only [o_ist] at h
  generalize e1 : p_is b a 9 = y at h
  cases y <;> first | exact False.elim h | skip
  obtain ⟨ha, hE⟩ := q_ints (w := w) M e1
  have he := q_at (w := w) M ha
  rw [hE] at he
  refine va_iast K.1 K.2.1 K.2.2.2.2.2.2.1 hH.P (q_D K.2.2.2.2.2.2.2.1) hS (q_ix a) 0 he rfl h.1 hd (fun H1 locs1 hP1 _ hS1 => h.2 H1 locs1 la (q_set ha hP1 ?_ (fun a9 h9 => q_E_cg (p_row_ne h9) rfl)) hS1 hl hn)
  rw [(q_ints (w := w) _ e1).2, p_wr, p_row_eq]
theorem s_aa10 (K : q_X b w p s m args c own cc nL R d cells slots) (hd : decode cc pc = .ok (.aaload, 1)) : (p_sd b C d Q (q_Z b w p l e R s m args below meth c nL cells slots Qw) (o_aa 10) pc) := by
  intro ls st M h H locs la hH hS hl hn
  rcases st with _ | ⟨i | i, _ | ⟨x | x | _ | a, st⟩⟩ <;> first | exact False.elim h | skip
  dsimp only [o_aa] at h
  generalize e1 : p_is b a 10 = y at h
  cases y <;> first | exact False.elim h | skip
  obtain ⟨ha, hE⟩ := q_refs (w := w) M e1 (by omega)
  have he := q_at (w := w) M ha
  rw [hE] at he
  exact va_aldq K.1 K.2.1 K.2.2.2.2.2.2.1 hH.P (q_ix a) 1 he rfl h.1 hd (h.2 H locs la hH hS hl hn)
theorem s_ast10 (K : q_X b w p s m args c own cc nL R d cells slots) (hd : decode cc pc = .ok (.aastore, 1)) : (p_sd b C d Q (q_Z b w p l e R s m args below meth c nL cells slots Qw) (o_ast 10 1) pc) := by
  intro ls st M h H locs la hH hS hl hn
  rcases st with _ | ⟨v | v | _ | q, _ | ⟨i | i, _ | ⟨x | x | _ | a, st⟩⟩⟩ <;> first | exact False.elim h | skip
  dsimp only [o_ast] at h
  generalize e1 : (p_is b a 10 && p_is b q 1) = y at h
  cases y <;> first | exact False.elim h | skip
  simp only [Bool.and_eq_true] at e1
  obtain ⟨ha, hE⟩ := q_refs (w := w) M e1.1 (by omega)
  obtain ⟨hq, hEq⟩ := q_obj (w := w) M e1.2 (by omega)
  have he := q_at (w := w) M ha
  rw [hE] at he
  have heq := q_at (w := w) M hq
  rw [hEq] at heq
  refine va_astq K.1 K.2.1 K.2.2.2.2.2.2.1 hH.P (q_D K.2.2.2.2.2.2.2.1) hS (q_ix a) 1 (q_ix q) 1 he rfl heq rfl h.1 hd (fun H1 locs1 hP1 _ hS1 => h.2 H1 locs1 la (q_set ha hP1 ?_ (fun a9 h9 => q_E_cg rfl (p_wq_ne h9))) hS1 hl hn)
  have e5 : (fun j => ((va_up (M.2 a) i.toNatClampNeg (some q)) j).map w.2.2) = va_up (fun j => (M.2 a j).map w.2.2) i.toNatClampNeg (some (w.2.2 q)) := by
    funext j
    by_cases hj : j = i.toNatClampNeg
    · simp [va_up, hj]
    · simp [va_up, hj]
  rw [(q_refs (w := w) _ e1.1 (by omega)).2, p_wq_eq, e5]
theorem s_aa11 (K : q_X b w p s m args c own cc nL R d cells slots) (hd : decode cc pc = .ok (.aaload, 1)) : (p_sd b C d Q (q_Z b w p l e R s m args below meth c nL cells slots Qw) (o_aa 11) pc) := by
  intro ls st M h H locs la hH hS hl hn
  rcases st with _ | ⟨i | i, _ | ⟨x | x | _ | a, st⟩⟩ <;> first | exact False.elim h | skip
  dsimp only [o_aa] at h
  generalize e1 : p_is b a 11 = y at h
  cases y <;> first | exact False.elim h | skip
  obtain ⟨ha, hE⟩ := q_refs (w := w) M e1 (by omega)
  have he := q_at (w := w) M ha
  rw [hE] at he
  exact va_aldq K.1 K.2.1 K.2.2.2.2.2.2.1 hH.P (q_ix a) 2 he rfl h.1 hd (h.2 H locs la hH hS hl hn)
theorem s_ast11 (K : q_X b w p s m args c own cc nL R d cells slots) (hd : decode cc pc = .ok (.aastore, 1)) : (p_sd b C d Q (q_Z b w p l e R s m args below meth c nL cells slots Qw) (o_ast 11 2) pc) := by
  intro ls st M h H locs la hH hS hl hn
  rcases st with _ | ⟨v | v | _ | q, _ | ⟨i | i, _ | ⟨x | x | _ | a, st⟩⟩⟩ <;> first | exact False.elim h | skip
  dsimp only [o_ast] at h
  generalize e1 : (p_is b a 11 && p_is b q 2) = y at h
  cases y <;> first | exact False.elim h | skip
  simp only [Bool.and_eq_true] at e1
  obtain ⟨ha, hE⟩ := q_refs (w := w) M e1.1 (by omega)
  obtain ⟨hq, hEq⟩ := q_obj (w := w) M e1.2 (by omega)
  have he := q_at (w := w) M ha
  rw [hE] at he
  have heq := q_at (w := w) M hq
  rw [hEq] at heq
  refine va_astq K.1 K.2.1 K.2.2.2.2.2.2.1 hH.P (q_D K.2.2.2.2.2.2.2.1) hS (q_ix a) 2 (q_ix q) 2 he rfl heq rfl h.1 hd (fun H1 locs1 hP1 _ hS1 => h.2 H1 locs1 la (q_set ha hP1 ?_ (fun a9 h9 => q_E_cg rfl (p_wq_ne h9))) hS1 hl hn)
  have e5 : (fun j => ((va_up (M.2 a) i.toNatClampNeg (some q)) j).map w.2.2) = va_up (fun j => (M.2 a j).map w.2.2) i.toNatClampNeg (some (w.2.2 q)) := by
    funext j
    by_cases hj : j = i.toNatClampNeg
    · simp [va_up, hj]
    · simp [va_up, hj]
  rw [(q_refs (w := w) _ e1.1 (by omega)).2, p_wq_eq, e5]
end Snd
end
