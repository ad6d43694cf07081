section
-- ===== PART A: goes FIRST, ahead of the names: the tables' words, and 'selects' of the private methods out of them =====
/-- a private method of a class that the tables say can be made, by its rows of tables_1 -/
def lw_okq (q : MethodName × Nat) : Prop := (q.1.cls ≠ "java/lang/invoke/MethodHandle" ∧ q.1.cls ≠ "java/lang/invoke/VarHandle") ∧ Cond.instantiable q.1.cls q.2 ∈ tables_1 ∧ Cond.privateMethod q.1 ∈ tables_1 ∧ Cond.instanceMethod q.1 ∈ tables_1
theorem lw_p0 : lw_okq (⟨"ToothField", "wrongCells", "(IIII)I"⟩, 12) := ⟨⟨by decide +kernel, by decide +kernel⟩, List.mem_of_getElem? (i := 13) (by decide +kernel), List.mem_of_getElem? (i := 231) (by decide +kernel), List.mem_of_getElem? (i := 232) (by decide +kernel)⟩
theorem lw_p1 : lw_okq (⟨"ToothField$Sheet", "faultOfCells", "(III)I"⟩, 4) := ⟨⟨by decide +kernel, by decide +kernel⟩, List.mem_of_getElem? (i := 22) (by decide +kernel), List.mem_of_getElem? (i := 238) (by decide +kernel), List.mem_of_getElem? (i := 239) (by decide +kernel)⟩
theorem lw_p2 : lw_okq (⟨"ToothField$Sheet", "holds", "(II)Z"⟩, 4) := ⟨⟨by decide +kernel, by decide +kernel⟩, List.mem_of_getElem? (i := 22) (by decide +kernel), List.mem_of_getElem? (i := 242) (by decide +kernel), List.mem_of_getElem? (i := 243) (by decide +kernel)⟩
theorem lw_p3 : lw_okq (⟨"ToothField", "faulted", "(I)I"⟩, 12) := ⟨⟨by decide +kernel, by decide +kernel⟩, List.mem_of_getElem? (i := 13) (by decide +kernel), List.mem_of_getElem? (i := 249) (by decide +kernel), List.mem_of_getElem? (i := 250) (by decide +kernel)⟩
theorem lw_p4 : lw_okq (⟨"ToothField$TextReader", "readInto", "(LToothField$Host;LToothField$Sheet;II)Z"⟩, 3) := ⟨⟨by decide +kernel, by decide +kernel⟩, List.mem_of_getElem? (i := 46) (by decide +kernel), List.mem_of_getElem? (i := 253) (by decide +kernel), List.mem_of_getElem? (i := 254) (by decide +kernel)⟩
theorem lw_p5 : lw_okq (⟨"ToothField$TextReader", "take", "(II)I"⟩, 3) := ⟨⟨by decide +kernel, by decide +kernel⟩, List.mem_of_getElem? (i := 46) (by decide +kernel), List.mem_of_getElem? (i := 257) (by decide +kernel), List.mem_of_getElem? (i := 258) (by decide +kernel)⟩
theorem lw_p6 : lw_okq (⟨"ToothField$Sheet", "at", "(I)I"⟩, 4) := ⟨⟨by decide +kernel, by decide +kernel⟩, List.mem_of_getElem? (i := 22) (by decide +kernel), List.mem_of_getElem? (i := 261) (by decide +kernel), List.mem_of_getElem? (i := 262) (by decide +kernel)⟩
theorem lw_p7 : lw_okq (⟨"ToothField$TextReader", "digit", "(II)I"⟩, 3) := ⟨⟨by decide +kernel, by decide +kernel⟩, List.mem_of_getElem? (i := 46) (by decide +kernel), List.mem_of_getElem? (i := 266) (by decide +kernel), List.mem_of_getElem? (i := 267) (by decide +kernel)⟩
theorem lw_p8 : lw_okq (⟨"ToothField$Host", "clear", "(II)V"⟩, 10) := ⟨⟨by decide +kernel, by decide +kernel⟩, List.mem_of_getElem? (i := 141) (by decide +kernel), List.mem_of_getElem? (i := 270) (by decide +kernel), List.mem_of_getElem? (i := 271) (by decide +kernel)⟩
theorem lw_p9 : lw_okq (⟨"ToothField$TextReader", "readLine", "(LToothField$Host;II)Z"⟩, 3) := ⟨⟨by decide +kernel, by decide +kernel⟩, List.mem_of_getElem? (i := 46) (by decide +kernel), List.mem_of_getElem? (i := 278) (by decide +kernel), List.mem_of_getElem? (i := 279) (by decide +kernel)⟩
theorem lw_p10 : lw_okq (⟨"ToothField$TextReader", "readMan", "(LToothField$Host;I)Z"⟩, 3) := ⟨⟨by decide +kernel, by decide +kernel⟩, List.mem_of_getElem? (i := 46) (by decide +kernel), List.mem_of_getElem? (i := 282) (by decide +kernel), List.mem_of_getElem? (i := 283) (by decide +kernel)⟩
theorem lw_p11 : lw_okq (⟨"ToothField$TextReader", "letter", "()I"⟩, 3) := ⟨⟨by decide +kernel, by decide +kernel⟩, List.mem_of_getElem? (i := 46) (by decide +kernel), List.mem_of_getElem? (i := 286) (by decide +kernel), List.mem_of_getElem? (i := 287) (by decide +kernel)⟩
theorem lw_p12 : lw_okq (⟨"ToothField$Host", "add", "(IIIII)V"⟩, 10) := ⟨⟨by decide +kernel, by decide +kernel⟩, List.mem_of_getElem? (i := 141) (by decide +kernel), List.mem_of_getElem? (i := 292) (by decide +kernel), List.mem_of_getElem? (i := 293) (by decide +kernel)⟩
theorem lw_p13 : lw_okq (⟨"ToothField$Host", "stepsBetween", "(II)I"⟩, 10) := ⟨⟨by decide +kernel, by decide +kernel⟩, List.mem_of_getElem? (i := 141) (by decide +kernel), List.mem_of_getElem? (i := 297) (by decide +kernel), List.mem_of_getElem? (i := 298) (by decide +kernel)⟩
theorem lw_p14 : lw_okq (⟨"ToothField", "beginAnew", "()V"⟩, 12) := ⟨⟨by decide +kernel, by decide +kernel⟩, List.mem_of_getElem? (i := 13) (by decide +kernel), List.mem_of_getElem? (i := 304) (by decide +kernel), List.mem_of_getElem? (i := 305) (by decide +kernel)⟩
theorem lw_p15 : lw_okq (⟨"ToothField$Host", "has", "(I)Z"⟩, 10) := ⟨⟨by decide +kernel, by decide +kernel⟩, List.mem_of_getElem? (i := 141) (by decide +kernel), List.mem_of_getElem? (i := 316) (by decide +kernel), List.mem_of_getElem? (i := 317) (by decide +kernel)⟩
def lw_privs_1 : List (MethodName × Nat) := [(⟨"ToothField", "wrongCells", "(IIII)I"⟩, 12), (⟨"ToothField$Sheet", "faultOfCells", "(III)I"⟩, 4), (⟨"ToothField$Sheet", "holds", "(II)Z"⟩, 4), (⟨"ToothField", "faulted", "(I)I"⟩, 12), (⟨"ToothField$TextReader", "readInto", "(LToothField$Host;LToothField$Sheet;II)Z"⟩, 3), (⟨"ToothField$TextReader", "take", "(II)I"⟩, 3), (⟨"ToothField$Sheet", "at", "(I)I"⟩, 4), (⟨"ToothField$TextReader", "digit", "(II)I"⟩, 3), (⟨"ToothField$Host", "clear", "(II)V"⟩, 10), (⟨"ToothField$TextReader", "readLine", "(LToothField$Host;II)Z"⟩, 3), (⟨"ToothField$TextReader", "readMan", "(LToothField$Host;I)Z"⟩, 3), (⟨"ToothField$TextReader", "letter", "()I"⟩, 3), (⟨"ToothField$Host", "add", "(IIIII)V"⟩, 10), (⟨"ToothField$Host", "stepsBetween", "(II)I"⟩, 10), (⟨"ToothField", "beginAnew", "()V"⟩, 12), (⟨"ToothField$Host", "has", "(I)Z"⟩, 10)]
theorem lw_r1 : ∀ q ∈ lw_privs_1, lw_okq q := List.forall_mem_cons.mpr ⟨lw_p0, List.forall_mem_cons.mpr ⟨lw_p1, List.forall_mem_cons.mpr ⟨lw_p2, List.forall_mem_cons.mpr ⟨lw_p3, List.forall_mem_cons.mpr ⟨lw_p4, List.forall_mem_cons.mpr ⟨lw_p5, List.forall_mem_cons.mpr ⟨lw_p6, List.forall_mem_cons.mpr ⟨lw_p7, List.forall_mem_cons.mpr ⟨lw_p8, List.forall_mem_cons.mpr ⟨lw_p9, List.forall_mem_cons.mpr ⟨lw_p10, List.forall_mem_cons.mpr ⟨lw_p11, List.forall_mem_cons.mpr ⟨lw_p12, List.forall_mem_cons.mpr ⟨lw_p13, List.forall_mem_cons.mpr ⟨lw_p14, List.forall_mem_cons.mpr ⟨lw_p15, fun _ h => absurd h List.not_mem_nil⟩⟩⟩⟩⟩⟩⟩⟩⟩⟩⟩⟩⟩⟩⟩⟩
theorem lw_p16 : lw_okq (⟨"ToothField$Host", "reachOf", "(I)I"⟩, 10) := ⟨⟨by decide +kernel, by decide +kernel⟩, List.mem_of_getElem? (i := 141) (by decide +kernel), List.mem_of_getElem? (i := 320) (by decide +kernel), List.mem_of_getElem? (i := 321) (by decide +kernel)⟩
theorem lw_p17 : lw_okq (⟨"ToothField$Host", "blowOf", "(I)I"⟩, 10) := ⟨⟨by decide +kernel, by decide +kernel⟩, List.mem_of_getElem? (i := 141) (by decide +kernel), List.mem_of_getElem? (i := 324) (by decide +kernel), List.mem_of_getElem? (i := 325) (by decide +kernel)⟩
theorem lw_p18 : lw_okq (⟨"ToothField$Host", "between", "(II)I"⟩, 10) := ⟨⟨by decide +kernel, by decide +kernel⟩, List.mem_of_getElem? (i := 141) (by decide +kernel), List.mem_of_getElem? (i := 332) (by decide +kernel), List.mem_of_getElem? (i := 333) (by decide +kernel)⟩
theorem lw_p19 : lw_okq (⟨"ToothField", "wrongManOrMinute", "(II)I"⟩, 12) := ⟨⟨by decide +kernel, by decide +kernel⟩, List.mem_of_getElem? (i := 13) (by decide +kernel), List.mem_of_getElem? (i := 344) (by decide +kernel), List.mem_of_getElem? (i := 345) (by decide +kernel)⟩
theorem lw_p20 : lw_okq (⟨"ToothField$Stones", "add", "(II)Z"⟩, 3) := ⟨⟨by decide +kernel, by decide +kernel⟩, List.mem_of_getElem? (i := 95) (by decide +kernel), List.mem_of_getElem? (i := 348) (by decide +kernel), List.mem_of_getElem? (i := 349) (by decide +kernel)⟩
theorem lw_p21 : lw_okq (⟨"ToothField$Fight", "run", "(LToothField$Host;LToothField$Stones;III)I"⟩, 7) := ⟨⟨by decide +kernel, by decide +kernel⟩, List.mem_of_getElem? (i := 63) (by decide +kernel), List.mem_of_getElem? (i := 361) (by decide +kernel), List.mem_of_getElem? (i := 362) (by decide +kernel)⟩
theorem lw_p22 : lw_okq (⟨"ToothField$Fight", "begin", "(I)V"⟩, 7) := ⟨⟨by decide +kernel, by decide +kernel⟩, List.mem_of_getElem? (i := 63) (by decide +kernel), List.mem_of_getElem? (i := 365) (by decide +kernel), List.mem_of_getElem? (i := 366) (by decide +kernel)⟩
theorem lw_p23 : lw_okq (⟨"ToothField$Fight", "turnByStones", "(LToothField$Stones;I)V"⟩, 7) := ⟨⟨by decide +kernel, by decide +kernel⟩, List.mem_of_getElem? (i := 63) (by decide +kernel), List.mem_of_getElem? (i := 369) (by decide +kernel), List.mem_of_getElem? (i := 370) (by decide +kernel)⟩
theorem lw_p24 : lw_okq (⟨"ToothField$Fight", "isFree", "(I)Z"⟩, 7) := ⟨⟨by decide +kernel, by decide +kernel⟩, List.mem_of_getElem? (i := 63) (by decide +kernel), List.mem_of_getElem? (i := 374) (by decide +kernel), List.mem_of_getElem? (i := 375) (by decide +kernel)⟩
theorem lw_p25 : lw_okq (⟨"ToothField$Fight", "foeByLaw", "(I)I"⟩, 7) := ⟨⟨by decide +kernel, by decide +kernel⟩, List.mem_of_getElem? (i := 63) (by decide +kernel), List.mem_of_getElem? (i := 381) (by decide +kernel), List.mem_of_getElem? (i := 382) (by decide +kernel)⟩
theorem lw_p26 : lw_okq (⟨"ToothField$Fight", "nearest", "(IZ)I"⟩, 7) := ⟨⟨by decide +kernel, by decide +kernel⟩, List.mem_of_getElem? (i := 63) (by decide +kernel), List.mem_of_getElem? (i := 385) (by decide +kernel), List.mem_of_getElem? (i := 386) (by decide +kernel)⟩
theorem lw_p27 : lw_okq (⟨"ToothField$Fight", "someoneFights", "()Z"⟩, 7) := ⟨⟨by decide +kernel, by decide +kernel⟩, List.mem_of_getElem? (i := 63) (by decide +kernel), List.mem_of_getElem? (i := 391) (by decide +kernel), List.mem_of_getElem? (i := 392) (by decide +kernel)⟩
theorem lw_p28 : lw_okq (⟨"ToothField$Fight", "strike", "()V"⟩, 7) := ⟨⟨by decide +kernel, by decide +kernel⟩, List.mem_of_getElem? (i := 63) (by decide +kernel), List.mem_of_getElem? (i := 395) (by decide +kernel), List.mem_of_getElem? (i := 396) (by decide +kernel)⟩
theorem lw_p29 : lw_okq (⟨"ToothField$Fight", "fall", "(I)V"⟩, 7) := ⟨⟨by decide +kernel, by decide +kernel⟩, List.mem_of_getElem? (i := 63) (by decide +kernel), List.mem_of_getElem? (i := 400) (by decide +kernel), List.mem_of_getElem? (i := 401) (by decide +kernel)⟩
theorem lw_p30 : lw_okq (⟨"ToothField$Fight", "turnOnStrikers", "()V"⟩, 7) := ⟨⟨by decide +kernel, by decide +kernel⟩, List.mem_of_getElem? (i := 63) (by decide +kernel), List.mem_of_getElem? (i := 404) (by decide +kernel), List.mem_of_getElem? (i := 405) (by decide +kernel)⟩
theorem lw_p31 : lw_okq (⟨"ToothField$Fight", "leastInReach", "(II)I"⟩, 7) := ⟨⟨by decide +kernel, by decide +kernel⟩, List.mem_of_getElem? (i := 63) (by decide +kernel), List.mem_of_getElem? (i := 408) (by decide +kernel), List.mem_of_getElem? (i := 409) (by decide +kernel)⟩
def lw_privs_2 : List (MethodName × Nat) := [(⟨"ToothField$Host", "reachOf", "(I)I"⟩, 10), (⟨"ToothField$Host", "blowOf", "(I)I"⟩, 10), (⟨"ToothField$Host", "between", "(II)I"⟩, 10), (⟨"ToothField", "wrongManOrMinute", "(II)I"⟩, 12), (⟨"ToothField$Stones", "add", "(II)Z"⟩, 3), (⟨"ToothField$Fight", "run", "(LToothField$Host;LToothField$Stones;III)I"⟩, 7), (⟨"ToothField$Fight", "begin", "(I)V"⟩, 7), (⟨"ToothField$Fight", "turnByStones", "(LToothField$Stones;I)V"⟩, 7), (⟨"ToothField$Fight", "isFree", "(I)Z"⟩, 7), (⟨"ToothField$Fight", "foeByLaw", "(I)I"⟩, 7), (⟨"ToothField$Fight", "nearest", "(IZ)I"⟩, 7), (⟨"ToothField$Fight", "someoneFights", "()Z"⟩, 7), (⟨"ToothField$Fight", "strike", "()V"⟩, 7), (⟨"ToothField$Fight", "fall", "(I)V"⟩, 7), (⟨"ToothField$Fight", "turnOnStrikers", "()V"⟩, 7), (⟨"ToothField$Fight", "leastInReach", "(II)I"⟩, 7)]
theorem lw_r2 : ∀ q ∈ lw_privs_2, lw_okq q := List.forall_mem_cons.mpr ⟨lw_p16, List.forall_mem_cons.mpr ⟨lw_p17, List.forall_mem_cons.mpr ⟨lw_p18, List.forall_mem_cons.mpr ⟨lw_p19, List.forall_mem_cons.mpr ⟨lw_p20, List.forall_mem_cons.mpr ⟨lw_p21, List.forall_mem_cons.mpr ⟨lw_p22, List.forall_mem_cons.mpr ⟨lw_p23, List.forall_mem_cons.mpr ⟨lw_p24, List.forall_mem_cons.mpr ⟨lw_p25, List.forall_mem_cons.mpr ⟨lw_p26, List.forall_mem_cons.mpr ⟨lw_p27, List.forall_mem_cons.mpr ⟨lw_p28, List.forall_mem_cons.mpr ⟨lw_p29, List.forall_mem_cons.mpr ⟨lw_p30, List.forall_mem_cons.mpr ⟨lw_p31, fun _ h => absurd h List.not_mem_nil⟩⟩⟩⟩⟩⟩⟩⟩⟩⟩⟩⟩⟩⟩⟩⟩
theorem lw_p32 : lw_okq (⟨"ToothField", "leftNow", "()I"⟩, 12) := ⟨⟨by decide +kernel, by decide +kernel⟩, List.mem_of_getElem? (i := 13) (by decide +kernel), List.mem_of_getElem? (i := 424) (by decide +kernel), List.mem_of_getElem? (i := 425) (by decide +kernel)⟩
theorem lw_p33 : lw_okq (⟨"ToothField", "leftWithStone", "(II)I"⟩, 12) := ⟨⟨by decide +kernel, by decide +kernel⟩, List.mem_of_getElem? (i := 13) (by decide +kernel), List.mem_of_getElem? (i := 436) (by decide +kernel), List.mem_of_getElem? (i := 437) (by decide +kernel)⟩
theorem lw_p34 : lw_okq (⟨"ToothField$Stones", "take", "(LToothField$Stones;)V"⟩, 3) := ⟨⟨by decide +kernel, by decide +kernel⟩, List.mem_of_getElem? (i := 95) (by decide +kernel), List.mem_of_getElem? (i := 440) (by decide +kernel), List.mem_of_getElem? (i := 441) (by decide +kernel)⟩
theorem lw_p35 : lw_okq (⟨"ToothField", "leftWithStonesOn", "(I)I"⟩, 12) := ⟨⟨by decide +kernel, by decide +kernel⟩, List.mem_of_getElem? (i := 13) (by decide +kernel), List.mem_of_getElem? (i := 460) (by decide +kernel), List.mem_of_getElem? (i := 461) (by decide +kernel)⟩
theorem lw_p36 : lw_okq (⟨"ToothField", "othersLeftWithSown", "(II)I"⟩, 12) := ⟨⟨by decide +kernel, by decide +kernel⟩, List.mem_of_getElem? (i := 13) (by decide +kernel), List.mem_of_getElem? (i := 468) (by decide +kernel), List.mem_of_getElem? (i := 469) (by decide +kernel)⟩
theorem lw_p37 : lw_okq (⟨"ToothField$Host", "removeLast", "()V"⟩, 10) := ⟨⟨by decide +kernel, by decide +kernel⟩, List.mem_of_getElem? (i := 141) (by decide +kernel), List.mem_of_getElem? (i := 473) (by decide +kernel), List.mem_of_getElem? (i := 474) (by decide +kernel)⟩
theorem lw_p38 : lw_okq (⟨"ToothField", "mostLeftAfter", "(I)I"⟩, 12) := ⟨⟨by decide +kernel, by decide +kernel⟩, List.mem_of_getElem? (i := 13) (by decide +kernel), List.mem_of_getElem? (i := 485) (by decide +kernel), List.mem_of_getElem? (i := 486) (by decide +kernel)⟩
theorem lw_p39 : lw_okq (⟨"ToothField$Readings", "add", "(IIZ)Z"⟩, 4) := ⟨⟨by decide +kernel, by decide +kernel⟩, List.mem_of_getElem? (i := 120) (by decide +kernel), List.mem_of_getElem? (i := 494) (by decide +kernel), List.mem_of_getElem? (i := 495) (by decide +kernel)⟩
theorem lw_p40 : lw_okq (⟨"ToothField$Readings", "areSo", "(LToothField$Fight;)Z"⟩, 4) := ⟨⟨by decide +kernel, by decide +kernel⟩, List.mem_of_getElem? (i := 120) (by decide +kernel), List.mem_of_getElem? (i := 506) (by decide +kernel), List.mem_of_getElem? (i := 507) (by decide +kernel)⟩
theorem lw_p41 : lw_okq (⟨"ToothField", "leftWithSomeStones", "(I)I"⟩, 12) := ⟨⟨by decide +kernel, by decide +kernel⟩, List.mem_of_getElem? (i := 13) (by decide +kernel), List.mem_of_getElem? (i := 523) (by decide +kernel), List.mem_of_getElem? (i := 524) (by decide +kernel)⟩
theorem lw_p42 : lw_okq (⟨"ToothField$Sheet", "layOut", "(II)V"⟩, 4) := ⟨⟨by decide +kernel, by decide +kernel⟩, List.mem_of_getElem? (i := 22) (by decide +kernel), List.mem_of_getElem? (i := 540) (by decide +kernel), List.mem_of_getElem? (i := 541) (by decide +kernel)⟩
theorem lw_p43 : lw_okq (⟨"ToothField$Sheet", "write", "(II)V"⟩, 4) := ⟨⟨by decide +kernel, by decide +kernel⟩, List.mem_of_getElem? (i := 22) (by decide +kernel), List.mem_of_getElem? (i := 554) (by decide +kernel), List.mem_of_getElem? (i := 555) (by decide +kernel)⟩
theorem lw_p44 : lw_okq (⟨"ToothField", "toldAsMan", "(I)I"⟩, 12) := ⟨⟨by decide +kernel, by decide +kernel⟩, List.mem_of_getElem? (i := 13) (by decide +kernel), List.mem_of_getElem? (i := 574) (by decide +kernel), List.mem_of_getElem? (i := 575) (by decide +kernel)⟩
theorem lw_p45 : lw_okq (⟨"ToothField", "leave", "(I)V"⟩, 12) := ⟨⟨by decide +kernel, by decide +kernel⟩, List.mem_of_getElem? (i := 13) (by decide +kernel), List.mem_of_getElem? (i := 578) (by decide +kernel), List.mem_of_getElem? (i := 579) (by decide +kernel)⟩
theorem lw_p46 : lw_okq (⟨"ToothField", "toldAsLame", "(I)I"⟩, 12) := ⟨⟨by decide +kernel, by decide +kernel⟩, List.mem_of_getElem? (i := 13) (by decide +kernel), List.mem_of_getElem? (i := 582) (by decide +kernel), List.mem_of_getElem? (i := 583) (by decide +kernel)⟩
theorem lw_p47 : lw_okq (⟨"ToothField", "toldAsArcher", "(I)I"⟩, 12) := ⟨⟨by decide +kernel, by decide +kernel⟩, List.mem_of_getElem? (i := 13) (by decide +kernel), List.mem_of_getElem? (i := 586) (by decide +kernel), List.mem_of_getElem? (i := 587) (by decide +kernel)⟩
def lw_privs_3 : List (MethodName × Nat) := [(⟨"ToothField", "leftNow", "()I"⟩, 12), (⟨"ToothField", "leftWithStone", "(II)I"⟩, 12), (⟨"ToothField$Stones", "take", "(LToothField$Stones;)V"⟩, 3), (⟨"ToothField", "leftWithStonesOn", "(I)I"⟩, 12), (⟨"ToothField", "othersLeftWithSown", "(II)I"⟩, 12), (⟨"ToothField$Host", "removeLast", "()V"⟩, 10), (⟨"ToothField", "mostLeftAfter", "(I)I"⟩, 12), (⟨"ToothField$Readings", "add", "(IIZ)Z"⟩, 4), (⟨"ToothField$Readings", "areSo", "(LToothField$Fight;)Z"⟩, 4), (⟨"ToothField", "leftWithSomeStones", "(I)I"⟩, 12), (⟨"ToothField$Sheet", "layOut", "(II)V"⟩, 4), (⟨"ToothField$Sheet", "write", "(II)V"⟩, 4), (⟨"ToothField", "toldAsMan", "(I)I"⟩, 12), (⟨"ToothField", "leave", "(I)V"⟩, 12), (⟨"ToothField", "toldAsLame", "(I)I"⟩, 12), (⟨"ToothField", "toldAsArcher", "(I)I"⟩, 12)]
theorem lw_r3 : ∀ q ∈ lw_privs_3, lw_okq q := List.forall_mem_cons.mpr ⟨lw_p32, List.forall_mem_cons.mpr ⟨lw_p33, List.forall_mem_cons.mpr ⟨lw_p34, List.forall_mem_cons.mpr ⟨lw_p35, List.forall_mem_cons.mpr ⟨lw_p36, List.forall_mem_cons.mpr ⟨lw_p37, List.forall_mem_cons.mpr ⟨lw_p38, List.forall_mem_cons.mpr ⟨lw_p39, List.forall_mem_cons.mpr ⟨lw_p40, List.forall_mem_cons.mpr ⟨lw_p41, List.forall_mem_cons.mpr ⟨lw_p42, List.forall_mem_cons.mpr ⟨lw_p43, List.forall_mem_cons.mpr ⟨lw_p44, List.forall_mem_cons.mpr ⟨lw_p45, List.forall_mem_cons.mpr ⟨lw_p46, List.forall_mem_cons.mpr ⟨lw_p47, fun _ h => absurd h List.not_mem_nil⟩⟩⟩⟩⟩⟩⟩⟩⟩⟩⟩⟩⟩⟩⟩⟩
theorem lw_p48 : lw_okq (⟨"ToothFieldModel", "against", "(IIII)I"⟩, 35) := ⟨⟨by decide +kernel, by decide +kernel⟩, List.mem_of_getElem? (i := 610) (by decide +kernel), List.mem_of_getElem? (i := 735) (by decide +kernel), List.mem_of_getElem? (i := 736) (by decide +kernel)⟩
theorem lw_p49 : lw_okq (⟨"ToothFieldModel", "fails", "(I)I"⟩, 35) := ⟨⟨by decide +kernel, by decide +kernel⟩, List.mem_of_getElem? (i := 610) (by decide +kernel), List.mem_of_getElem? (i := 739) (by decide +kernel), List.mem_of_getElem? (i := 740) (by decide +kernel)⟩
theorem lw_p50 : lw_okq (⟨"ToothFieldModel", "readField", "(I)Z"⟩, 35) := ⟨⟨by decide +kernel, by decide +kernel⟩, List.mem_of_getElem? (i := 610) (by decide +kernel), List.mem_of_getElem? (i := 743) (by decide +kernel), List.mem_of_getElem? (i := 744) (by decide +kernel)⟩
theorem lw_p51 : lw_okq (⟨"ToothFieldModel", "isSign", "(II)Z"⟩, 35) := ⟨⟨by decide +kernel, by decide +kernel⟩, List.mem_of_getElem? (i := 610) (by decide +kernel), List.mem_of_getElem? (i := 747) (by decide +kernel), List.mem_of_getElem? (i := 748) (by decide +kernel)⟩
theorem lw_p52 : lw_okq (⟨"ToothFieldModel", "digit", "(III)I"⟩, 35) := ⟨⟨by decide +kernel, by decide +kernel⟩, List.mem_of_getElem? (i := 610) (by decide +kernel), List.mem_of_getElem? (i := 751) (by decide +kernel), List.mem_of_getElem? (i := 752) (by decide +kernel)⟩
theorem lw_p53 : lw_okq (⟨"ToothFieldModel", "readMan", "(II)Z"⟩, 35) := ⟨⟨by decide +kernel, by decide +kernel⟩, List.mem_of_getElem? (i := 610) (by decide +kernel), List.mem_of_getElem? (i := 755) (by decide +kernel), List.mem_of_getElem? (i := 756) (by decide +kernel)⟩
theorem lw_p54 : lw_okq (⟨"ToothFieldModel", "all", "()I"⟩, 35) := ⟨⟨by decide +kernel, by decide +kernel⟩, List.mem_of_getElem? (i := 610) (by decide +kernel), List.mem_of_getElem? (i := 763) (by decide +kernel), List.mem_of_getElem? (i := 764) (by decide +kernel)⟩
theorem lw_p55 : lw_okq (⟨"ToothFieldModel", "manIn", "(I)I"⟩, 35) := ⟨⟨by decide +kernel, by decide +kernel⟩, List.mem_of_getElem? (i := 610) (by decide +kernel), List.mem_of_getElem? (i := 767) (by decide +kernel), List.mem_of_getElem? (i := 768) (by decide +kernel)⟩
theorem lw_p56 : lw_okq (⟨"ToothFieldModel", "isMan", "(I)Z"⟩, 35) := ⟨⟨by decide +kernel, by decide +kernel⟩, List.mem_of_getElem? (i := 610) (by decide +kernel), List.mem_of_getElem? (i := 775) (by decide +kernel), List.mem_of_getElem? (i := 776) (by decide +kernel)⟩
theorem lw_p57 : lw_okq (⟨"ToothFieldModel", "reach", "(I)I"⟩, 35) := ⟨⟨by decide +kernel, by decide +kernel⟩, List.mem_of_getElem? (i := 610) (by decide +kernel), List.mem_of_getElem? (i := 779) (by decide +kernel), List.mem_of_getElem? (i := 780) (by decide +kernel)⟩
theorem lw_p58 : lw_okq (⟨"ToothFieldModel", "blow", "(I)I"⟩, 35) := ⟨⟨by decide +kernel, by decide +kernel⟩, List.mem_of_getElem? (i := 610) (by decide +kernel), List.mem_of_getElem? (i := 783) (by decide +kernel), List.mem_of_getElem? (i := 784) (by decide +kernel)⟩
theorem lw_p59 : lw_okq (⟨"ToothFieldModel", "farOf", "(II)I"⟩, 35) := ⟨⟨by decide +kernel, by decide +kernel⟩, List.mem_of_getElem? (i := 610) (by decide +kernel), List.mem_of_getElem? (i := 791) (by decide +kernel), List.mem_of_getElem? (i := 792) (by decide +kernel)⟩
theorem lw_p60 : lw_okq (⟨"ToothFieldModel", "lay", "(II)V"⟩, 35) := ⟨⟨by decide +kernel, by decide +kernel⟩, List.mem_of_getElem? (i := 610) (by decide +kernel), List.mem_of_getElem? (i := 809) (by decide +kernel), List.mem_of_getElem? (i := 810) (by decide +kernel)⟩
theorem lw_p61 : lw_okq (⟨"ToothFieldModel", "goTo", "(I)V"⟩, 35) := ⟨⟨by decide +kernel, by decide +kernel⟩, List.mem_of_getElem? (i := 610) (by decide +kernel), List.mem_of_getElem? (i := 821) (by decide +kernel), List.mem_of_getElem? (i := 822) (by decide +kernel)⟩
theorem lw_p62 : lw_okq (⟨"ToothFieldModel", "begin", "()V"⟩, 35) := ⟨⟨by decide +kernel, by decide +kernel⟩, List.mem_of_getElem? (i := 610) (by decide +kernel), List.mem_of_getElem? (i := 825) (by decide +kernel), List.mem_of_getElem? (i := 826) (by decide +kernel)⟩
theorem lw_p63 : lw_okq (⟨"ToothFieldModel", "wake", "(I)V"⟩, 35) := ⟨⟨by decide +kernel, by decide +kernel⟩, List.mem_of_getElem? (i := 610) (by decide +kernel), List.mem_of_getElem? (i := 829) (by decide +kernel), List.mem_of_getElem? (i := 830) (by decide +kernel)⟩
def lw_privs_4 : List (MethodName × Nat) := [(⟨"ToothFieldModel", "against", "(IIII)I"⟩, 35), (⟨"ToothFieldModel", "fails", "(I)I"⟩, 35), (⟨"ToothFieldModel", "readField", "(I)Z"⟩, 35), (⟨"ToothFieldModel", "isSign", "(II)Z"⟩, 35), (⟨"ToothFieldModel", "digit", "(III)I"⟩, 35), (⟨"ToothFieldModel", "readMan", "(II)Z"⟩, 35), (⟨"ToothFieldModel", "all", "()I"⟩, 35), (⟨"ToothFieldModel", "manIn", "(I)I"⟩, 35), (⟨"ToothFieldModel", "isMan", "(I)Z"⟩, 35), (⟨"ToothFieldModel", "reach", "(I)I"⟩, 35), (⟨"ToothFieldModel", "blow", "(I)I"⟩, 35), (⟨"ToothFieldModel", "farOf", "(II)I"⟩, 35), (⟨"ToothFieldModel", "lay", "(II)V"⟩, 35), (⟨"ToothFieldModel", "goTo", "(I)V"⟩, 35), (⟨"ToothFieldModel", "begin", "()V"⟩, 35), (⟨"ToothFieldModel", "wake", "(I)V"⟩, 35)]
theorem lw_r4 : ∀ q ∈ lw_privs_4, lw_okq q := List.forall_mem_cons.mpr ⟨lw_p48, List.forall_mem_cons.mpr ⟨lw_p49, List.forall_mem_cons.mpr ⟨lw_p50, List.forall_mem_cons.mpr ⟨lw_p51, List.forall_mem_cons.mpr ⟨lw_p52, List.forall_mem_cons.mpr ⟨lw_p53, List.forall_mem_cons.mpr ⟨lw_p54, List.forall_mem_cons.mpr ⟨lw_p55, List.forall_mem_cons.mpr ⟨lw_p56, List.forall_mem_cons.mpr ⟨lw_p57, List.forall_mem_cons.mpr ⟨lw_p58, List.forall_mem_cons.mpr ⟨lw_p59, List.forall_mem_cons.mpr ⟨lw_p60, List.forall_mem_cons.mpr ⟨lw_p61, List.forall_mem_cons.mpr ⟨lw_p62, List.forall_mem_cons.mpr ⟨lw_p63, fun _ h => absurd h List.not_mem_nil⟩⟩⟩⟩⟩⟩⟩⟩⟩⟩⟩⟩⟩⟩⟩⟩
theorem lw_p64 : lw_okq (⟨"ToothFieldModel", "nearest", "(IZ)I"⟩, 35) := ⟨⟨by decide +kernel, by decide +kernel⟩, List.mem_of_getElem? (i := 610) (by decide +kernel), List.mem_of_getElem? (i := 833) (by decide +kernel), List.mem_of_getElem? (i := 834) (by decide +kernel)⟩
theorem lw_p65 : lw_okq (⟨"ToothFieldModel", "mayTurnOn", "(IIZ)Z"⟩, 35) := ⟨⟨by decide +kernel, by decide +kernel⟩, List.mem_of_getElem? (i := 610) (by decide +kernel), List.mem_of_getElem? (i := 837) (by decide +kernel), List.mem_of_getElem? (i := 838) (by decide +kernel)⟩
theorem lw_p66 : lw_okq (⟨"ToothFieldModel", "strikeAll", "()V"⟩, 35) := ⟨⟨by decide +kernel, by decide +kernel⟩, List.mem_of_getElem? (i := 610) (by decide +kernel), List.mem_of_getElem? (i := 841) (by decide +kernel), List.mem_of_getElem? (i := 842) (by decide +kernel)⟩
theorem lw_p67 : lw_okq (⟨"ToothFieldModel", "fallAll", "(I)V"⟩, 35) := ⟨⟨by decide +kernel, by decide +kernel⟩, List.mem_of_getElem? (i := 610) (by decide +kernel), List.mem_of_getElem? (i := 845) (by decide +kernel), List.mem_of_getElem? (i := 846) (by decide +kernel)⟩
theorem lw_p68 : lw_okq (⟨"ToothFieldModel", "turn", "(I)V"⟩, 35) := ⟨⟨by decide +kernel, by decide +kernel⟩, List.mem_of_getElem? (i := 610) (by decide +kernel), List.mem_of_getElem? (i := 849) (by decide +kernel), List.mem_of_getElem? (i := 850) (by decide +kernel)⟩
theorem lw_p69 : lw_okq (⟨"ToothFieldModel", "standing", "()I"⟩, 35) := ⟨⟨by decide +kernel, by decide +kernel⟩, List.mem_of_getElem? (i := 610) (by decide +kernel), List.mem_of_getElem? (i := 853) (by decide +kernel), List.mem_of_getElem? (i := 854) (by decide +kernel)⟩
theorem lw_p70 : lw_okq (⟨"ToothFieldModel", "leftNow", "()I"⟩, 35) := ⟨⟨by decide +kernel, by decide +kernel⟩, List.mem_of_getElem? (i := 610) (by decide +kernel), List.mem_of_getElem? (i := 869) (by decide +kernel), List.mem_of_getElem? (i := 870) (by decide +kernel)⟩
theorem lw_p71 : lw_okq (⟨"ToothFieldModel", "leftWith", "(II)I"⟩, 35) := ⟨⟨by decide +kernel, by decide +kernel⟩, List.mem_of_getElem? (i := 610) (by decide +kernel), List.mem_of_getElem? (i := 881) (by decide +kernel), List.mem_of_getElem? (i := 882) (by decide +kernel)⟩
theorem lw_p72 : lw_okq (⟨"ToothFieldModel", "mostLeft", "(I)I"⟩, 35) := ⟨⟨by decide +kernel, by decide +kernel⟩, List.mem_of_getElem? (i := 610) (by decide +kernel), List.mem_of_getElem? (i := 908) (by decide +kernel), List.mem_of_getElem? (i := 909) (by decide +kernel)⟩
theorem lw_p73 : lw_okq (⟨"ToothFieldModel", "areSo", "()Z"⟩, 35) := ⟨⟨by decide +kernel, by decide +kernel⟩, List.mem_of_getElem? (i := 610) (by decide +kernel), List.mem_of_getElem? (i := 924) (by decide +kernel), List.mem_of_getElem? (i := 925) (by decide +kernel)⟩
theorem lw_p74 : lw_okq (⟨"ToothFieldModel", "leftByRow", "(II)I"⟩, 35) := ⟨⟨by decide +kernel, by decide +kernel⟩, List.mem_of_getElem? (i := 610) (by decide +kernel), List.mem_of_getElem? (i := 952) (by decide +kernel), List.mem_of_getElem? (i := 953) (by decide +kernel)⟩
theorem lw_p75 : lw_okq (⟨"ToothFieldModel", "lost", "(I)J"⟩, 35) := ⟨⟨by decide +kernel, by decide +kernel⟩, List.mem_of_getElem? (i := 610) (by decide +kernel), List.mem_of_getElem? (i := 972) (by decide +kernel), List.mem_of_getElem? (i := 973) (by decide +kernel)⟩
theorem lw_p76 : lw_okq (⟨"ToothFieldModel", "begins", "(I)V"⟩, 35) := ⟨⟨by decide +kernel, by decide +kernel⟩, List.mem_of_getElem? (i := 610) (by decide +kernel), List.mem_of_getElem? (i := 984) (by decide +kernel), List.mem_of_getElem? (i := 985) (by decide +kernel)⟩
def lw_privs_5 : List (MethodName × Nat) := [(⟨"ToothFieldModel", "nearest", "(IZ)I"⟩, 35), (⟨"ToothFieldModel", "mayTurnOn", "(IIZ)Z"⟩, 35), (⟨"ToothFieldModel", "strikeAll", "()V"⟩, 35), (⟨"ToothFieldModel", "fallAll", "(I)V"⟩, 35), (⟨"ToothFieldModel", "turn", "(I)V"⟩, 35), (⟨"ToothFieldModel", "standing", "()I"⟩, 35), (⟨"ToothFieldModel", "leftNow", "()I"⟩, 35), (⟨"ToothFieldModel", "leftWith", "(II)I"⟩, 35), (⟨"ToothFieldModel", "mostLeft", "(I)I"⟩, 35), (⟨"ToothFieldModel", "areSo", "()Z"⟩, 35), (⟨"ToothFieldModel", "leftByRow", "(II)I"⟩, 35), (⟨"ToothFieldModel", "lost", "(I)J"⟩, 35), (⟨"ToothFieldModel", "begins", "(I)V"⟩, 35)]
theorem lw_r5 : ∀ q ∈ lw_privs_5, lw_okq q := List.forall_mem_cons.mpr ⟨lw_p64, List.forall_mem_cons.mpr ⟨lw_p65, List.forall_mem_cons.mpr ⟨lw_p66, List.forall_mem_cons.mpr ⟨lw_p67, List.forall_mem_cons.mpr ⟨lw_p68, List.forall_mem_cons.mpr ⟨lw_p69, List.forall_mem_cons.mpr ⟨lw_p70, List.forall_mem_cons.mpr ⟨lw_p71, List.forall_mem_cons.mpr ⟨lw_p72, List.forall_mem_cons.mpr ⟨lw_p73, List.forall_mem_cons.mpr ⟨lw_p74, List.forall_mem_cons.mpr ⟨lw_p75, List.forall_mem_cons.mpr ⟨lw_p76, fun _ h => absurd h List.not_mem_nil⟩⟩⟩⟩⟩⟩⟩⟩⟩⟩⟩⟩⟩
def lw_privs : List (MethodName × Nat) := lw_privs_1 ++ (lw_privs_2 ++ (lw_privs_3 ++ (lw_privs_4 ++ (lw_privs_5))))
def lw_tbl : List Cond := k2_sels lw_privs ++ tables_1
theorem lw_privs_ok : ∀ q ∈ lw_privs, lw_okq q := by
  show ∀ q ∈ lw_privs_1 ++ (lw_privs_2 ++ (lw_privs_3 ++ (lw_privs_4 ++ (lw_privs_5)))), lw_okq q
  exact List.forall_mem_append.mpr ⟨lw_r1, List.forall_mem_append.mpr ⟨lw_r2, List.forall_mem_append.mpr ⟨lw_r3, List.forall_mem_append.mpr ⟨lw_r4, lw_r5⟩⟩⟩⟩
end
section
def RX0 : String := "ToothField$Fight"
def TX0 : u_T := fun k => match k with
  | 0 => ("ToothField$Fight", "foeOf", "[I", true)
  | 1 => ("ToothField$Fight", "armourOf", "[I", true)
  | 2 => ("ToothField$Fight", "fellIn", "[I", true)
  | 3 => ("ToothField$Fight", "strikers", "[I", true)
  | 4 => ("ToothField$Fight", "men", "LToothField$Host;", false)
  | 5 => ("ToothField$Fight", "lawThen", "I", false)
  | _ => ("ToothField$Fight", "standing", "I", false)
def tyX0 : Nat → FieldType := fun k => match k with
  | 0 => .array .int
  | 1 => .array .int
  | 2 => .array .int
  | 3 => .array .int
  | 4 => .object "ToothField$Host"
  | 5 => .int
  | _ => .int
abbrev wsX00 : List Cond := u_ws RX0 TX0 7
theorem nmX0 : ∀ a, a < 7 → ∀ b, b < 7 → a ≠ b → (TX0 a).2.1 ≠ (TX0 b).2.1 := by decide +kernel
theorem tyX0_ok : ∀ k, k < 7 → parseFieldDescriptor (TX0 k).2.2.1 = some (tyX0 k) := by decide +kernel
abbrev cX0_init : ByteArray := prog_2_method_1_code
def yX0_init : MethodName := ⟨RX0, "<init>", "()V"⟩
abbrev cX0_run : ByteArray := prog_2_method_2_code
def yX0_run : MethodName := ⟨RX0, "run", "(LToothField$Host;LToothField$Stones;III)I"⟩
abbrev cX0_someoneFights : ByteArray := prog_2_method_3_code
def yX0_someoneFights : MethodName := ⟨RX0, "someoneFights", "()Z"⟩
abbrev cX0_begin : ByteArray := prog_2_method_4_code
def yX0_begin : MethodName := ⟨RX0, "begin", "(I)V"⟩
abbrev cX0_turnByStones : ByteArray := prog_2_method_5_code
def yX0_turnByStones : MethodName := ⟨RX0, "turnByStones", "(LToothField$Stones;I)V"⟩
abbrev cX0_isFree : ByteArray := prog_2_method_6_code
def yX0_isFree : MethodName := ⟨RX0, "isFree", "(I)Z"⟩
abbrev cX0_foeByLaw : ByteArray := prog_2_method_7_code
def yX0_foeByLaw : MethodName := ⟨RX0, "foeByLaw", "(I)I"⟩
abbrev cX0_nearest : ByteArray := prog_2_method_8_code
def yX0_nearest : MethodName := ⟨RX0, "nearest", "(IZ)I"⟩
abbrev cX0_strike : ByteArray := prog_2_method_9_code
def yX0_strike : MethodName := ⟨RX0, "strike", "()V"⟩
abbrev cX0_fall : ByteArray := prog_2_method_10_code
def yX0_fall : MethodName := ⟨RX0, "fall", "(I)V"⟩
abbrev cX0_turnOnStrikers : ByteArray := prog_2_method_11_code
def yX0_turnOnStrikers : MethodName := ⟨RX0, "turnOnStrikers", "()V"⟩
abbrev cX0_leastInReach : ByteArray := prog_2_method_12_code
def yX0_leastInReach : MethodName := ⟨RX0, "leastInReach", "(II)I"⟩
def RX1 : String := "ToothField$Host"
def TX1 : u_T := fun k => match k with
  | 0 => ("ToothField$Host", "kind", "[I", true)
  | 1 => ("ToothField$Host", "dragon", "[I", true)
  | 2 => ("ToothField$Host", "strength", "[I", true)
  | 3 => ("ToothField$Host", "shield", "[I", true)
  | 4 => ("ToothField$Host", "place", "[I", true)
  | 5 => ("ToothField$Host", "apart", "[I", true)
  | 6 => ("ToothField$Host", "manIn", "[I", true)
  | 7 => ("ToothField$Host", "wide", "I", false)
  | 8 => ("ToothField$Host", "cells", "I", false)
  | _ => ("ToothField$Host", "count", "I", false)
def tyX1 : Nat → FieldType := fun k => match k with
  | 0 => .array .int
  | 1 => .array .int
  | 2 => .array .int
  | 3 => .array .int
  | 4 => .array .int
  | 5 => .array .int
  | 6 => .array .int
  | 7 => .int
  | 8 => .int
  | _ => .int
abbrev wsX10 : List Cond := u_ws RX1 TX1 10
theorem nmX1 : ∀ a, a < 10 → ∀ b, b < 10 → a ≠ b → (TX1 a).2.1 ≠ (TX1 b).2.1 := by decide +kernel
theorem tyX1_ok : ∀ k, k < 10 → parseFieldDescriptor (TX1 k).2.2.1 = some (tyX1 k) := by decide +kernel
abbrev cX1_init : ByteArray := prog_3_method_1_code
def yX1_init : MethodName := ⟨RX1, "<init>", "()V"⟩
abbrev cX1_clear : ByteArray := prog_3_method_2_code
def yX1_clear : MethodName := ⟨RX1, "clear", "(II)V"⟩
abbrev cX1_has : ByteArray := prog_3_method_3_code
def yX1_has : MethodName := ⟨RX1, "has", "(I)Z"⟩
abbrev cX1_add : ByteArray := prog_3_method_4_code
def yX1_add : MethodName := ⟨RX1, "add", "(IIIII)V"⟩
abbrev cX1_removeLast : ByteArray := prog_3_method_5_code
def yX1_removeLast : MethodName := ⟨RX1, "removeLast", "()V"⟩
abbrev cX1_stepsBetween : ByteArray := prog_3_method_6_code
def yX1_stepsBetween : MethodName := ⟨RX1, "stepsBetween", "(II)I"⟩
abbrev cX1_between : ByteArray := prog_3_method_7_code
def yX1_between : MethodName := ⟨RX1, "between", "(II)I"⟩
abbrev cX1_reachOf : ByteArray := prog_3_method_8_code
def yX1_reachOf : MethodName := ⟨RX1, "reachOf", "(I)I"⟩
abbrev cX1_blowOf : ByteArray := prog_3_method_9_code
def yX1_blowOf : MethodName := ⟨RX1, "blowOf", "(I)I"⟩
def RX2 : String := "ToothField$Readings"
def TX2 : u_T := fun k => match k with
  | 0 => ("ToothField$Readings", "man", "[I", true)
  | 1 => ("ToothField$Readings", "minute", "[I", true)
  | 2 => ("ToothField$Readings", "stood", "[Z", true)
  | _ => ("ToothField$Readings", "count", "I", false)
def tyX2 : Nat → FieldType := fun k => match k with
  | 0 => .array .int
  | 1 => .array .int
  | 2 => .array .boolean
  | _ => .int
abbrev wsX20 : List Cond := u_ws RX2 TX2 4
theorem nmX2 : ∀ a, a < 4 → ∀ b, b < 4 → a ≠ b → (TX2 a).2.1 ≠ (TX2 b).2.1 := by decide +kernel
theorem tyX2_ok : ∀ k, k < 4 → parseFieldDescriptor (TX2 k).2.2.1 = some (tyX2 k) := by decide +kernel
abbrev cX2_init : ByteArray := prog_4_method_1_code
def yX2_init : MethodName := ⟨RX2, "<init>", "()V"⟩
abbrev cX2_add : ByteArray := prog_4_method_2_code
def yX2_add : MethodName := ⟨RX2, "add", "(IIZ)Z"⟩
abbrev cX2_areSo : ByteArray := prog_4_method_3_code
def yX2_areSo : MethodName := ⟨RX2, "areSo", "(LToothField$Fight;)Z"⟩
def RX3 : String := "ToothField$Sheet"
def TX3 : u_T := fun k => match k with
  | 0 => ("ToothField$Sheet", "cells", "[I", true)
  | 1 => ("ToothField$Sheet", "laid", "Z", false)
  | 2 => ("ToothField$Sheet", "lane", "I", false)
  | _ => ("ToothField$Sheet", "length", "I", false)
def tyX3 : Nat → FieldType := fun k => match k with
  | 0 => .array .int
  | 1 => .boolean
  | 2 => .int
  | _ => .int
abbrev wsX30 : List Cond := u_ws RX3 TX3 4
theorem nmX3 : ∀ a, a < 4 → ∀ b, b < 4 → a ≠ b → (TX3 a).2.1 ≠ (TX3 b).2.1 := by decide +kernel
theorem tyX3_ok : ∀ k, k < 4 → parseFieldDescriptor (TX3 k).2.2.1 = some (tyX3 k) := by decide +kernel
abbrev cX3_init : ByteArray := prog_5_method_1_code
def yX3_init : MethodName := ⟨RX3, "<init>", "()V"⟩
abbrev cX3_layOut : ByteArray := prog_5_method_2_code
def yX3_layOut : MethodName := ⟨RX3, "layOut", "(II)V"⟩
abbrev cX3_holds : ByteArray := prog_5_method_3_code
def yX3_holds : MethodName := ⟨RX3, "holds", "(II)Z"⟩
abbrev cX3_faultOfCells : ByteArray := prog_5_method_4_code
def yX3_faultOfCells : MethodName := ⟨RX3, "faultOfCells", "(III)I"⟩
abbrev cX3_at : ByteArray := prog_5_method_5_code
def yX3_at : MethodName := ⟨RX3, "at", "(I)I"⟩
abbrev cX3_write : ByteArray := prog_5_method_6_code
def yX3_write : MethodName := ⟨RX3, "write", "(II)V"⟩
def RX4 : String := "ToothField$Stones"
def TX4 : u_T := fun k => match k with
  | 0 => ("ToothField$Stones", "man", "[I", true)
  | 1 => ("ToothField$Stones", "minute", "[I", true)
  | _ => ("ToothField$Stones", "count", "I", false)
def tyX4 : Nat → FieldType := fun k => match k with
  | 0 => .array .int
  | 1 => .array .int
  | _ => .int
abbrev wsX40 : List Cond := u_ws RX4 TX4 3
theorem nmX4 : ∀ a, a < 3 → ∀ b, b < 3 → a ≠ b → (TX4 a).2.1 ≠ (TX4 b).2.1 := by decide +kernel
theorem tyX4_ok : ∀ k, k < 3 → parseFieldDescriptor (TX4 k).2.2.1 = some (tyX4 k) := by decide +kernel
abbrev cX4_init : ByteArray := prog_6_method_1_code
def yX4_init : MethodName := ⟨RX4, "<init>", "(I)V"⟩
abbrev cX4_add : ByteArray := prog_6_method_2_code
def yX4_add : MethodName := ⟨RX4, "add", "(II)Z"⟩
abbrev cX4_take : ByteArray := prog_6_method_3_code
def yX4_take : MethodName := ⟨RX4, "take", "(LToothField$Stones;)V"⟩
def RX5 : String := "ToothField$TextReader"
def TX5 : u_T := fun k => match k with
  | 0 => ("ToothField$TextReader", "sheet", "LToothField$Sheet;", false)
  | 1 => ("ToothField$TextReader", "at", "I", false)
  | _ => ("ToothField$TextReader", "end", "I", false)
def tyX5 : Nat → FieldType := fun k => match k with
  | 0 => .object "ToothField$Sheet"
  | 1 => .int
  | _ => .int
abbrev wsX50 : List Cond := u_ws RX5 TX5 3
theorem nmX5 : ∀ a, a < 3 → ∀ b, b < 3 → a ≠ b → (TX5 a).2.1 ≠ (TX5 b).2.1 := by decide +kernel
theorem tyX5_ok : ∀ k, k < 3 → parseFieldDescriptor (TX5 k).2.2.1 = some (tyX5 k) := by decide +kernel
abbrev cX5_init : ByteArray := prog_7_method_1_code
def yX5_init : MethodName := ⟨RX5, "<init>", "()V"⟩
abbrev cX5_readInto : ByteArray := prog_7_method_2_code
def yX5_readInto : MethodName := ⟨RX5, "readInto", "(LToothField$Host;LToothField$Sheet;II)Z"⟩
abbrev cX5_readLine : ByteArray := prog_7_method_3_code
def yX5_readLine : MethodName := ⟨RX5, "readLine", "(LToothField$Host;II)Z"⟩
abbrev cX5_readMan : ByteArray := prog_7_method_4_code
def yX5_readMan : MethodName := ⟨RX5, "readMan", "(LToothField$Host;I)Z"⟩
abbrev cX5_letter : ByteArray := prog_7_method_5_code
def yX5_letter : MethodName := ⟨RX5, "letter", "()I"⟩
abbrev cX5_digit : ByteArray := prog_7_method_6_code
def yX5_digit : MethodName := ⟨RX5, "digit", "(II)I"⟩
abbrev cX5_take : ByteArray := prog_7_method_7_code
def yX5_take : MethodName := ⟨RX5, "take", "(II)I"⟩
def RX6 : String := "ToothField"
def TX6 : u_T := fun k => match k with
  | 0 => ("ToothField", "sheets", "[LToothField$Sheet;", true)
  | 1 => ("ToothField", "reader", "LToothField$TextReader;", true)
  | 2 => ("ToothField", "fight", "LToothField$Fight;", true)
  | 3 => ("ToothField", "stones", "LToothField$Stones;", true)
  | 4 => ("ToothField", "trial", "LToothField$Stones;", true)
  | 5 => ("ToothField", "readings", "LToothField$Readings;", true)
  | 6 => ("ToothField", "host", "LToothField$Host;", false)
  | 7 => ("ToothField", "spare", "LToothField$Host;", false)
  | 8 => ("ToothField", "sown", "Z", false)
  | 9 => ("ToothField", "lawNow", "I", false)
  | 10 => ("ToothField", "traced", "I", false)
  | _ => ("ToothField", "lastFault", "I", false)
def tyX6 : Nat → FieldType := fun k => match k with
  | 0 => .array (.object "ToothField$Sheet")
  | 1 => .object "ToothField$TextReader"
  | 2 => .object "ToothField$Fight"
  | 3 => .object "ToothField$Stones"
  | 4 => .object "ToothField$Stones"
  | 5 => .object "ToothField$Readings"
  | 6 => .object "ToothField$Host"
  | 7 => .object "ToothField$Host"
  | 8 => .boolean
  | 9 => .int
  | 10 => .int
  | _ => .int
abbrev wsX60 : List Cond := u_ws RX6 TX6 12
theorem nmX6 : ∀ a, a < 12 → ∀ b, b < 12 → a ≠ b → (TX6 a).2.1 ≠ (TX6 b).2.1 := by decide +kernel
theorem tyX6_ok : ∀ k, k < 12 → parseFieldDescriptor (TX6 k).2.2.1 = some (tyX6 k) := by decide +kernel
abbrev cX6_init : ByteArray := prog_1_method_1_code
def yX6_init : MethodName := ⟨RX6, "<init>", "()V"⟩
abbrev cX6_field : ByteArray := prog_1_method_2_code
def yX6_field : MethodName := ⟨RX6, "field", "(IIII)I"⟩
abbrev cX6_sign : ByteArray := prog_1_method_3_code
def yX6_sign : MethodName := ⟨RX6, "sign", "(I)I"⟩
abbrev cX6_ofMan : ByteArray := prog_1_method_4_code
def yX6_ofMan : MethodName := ⟨RX6, "ofMan", "(II)I"⟩
abbrev cX6_far : ByteArray := prog_1_method_5_code
def yX6_far : MethodName := ⟨RX6, "far", "(II)I"⟩
abbrev cX6_law : ByteArray := prog_1_method_6_code
def yX6_law : MethodName := ⟨RX6, "law", "(I)I"⟩
abbrev cX6_stone : ByteArray := prog_1_method_7_code
def yX6_stone : MethodName := ⟨RX6, "stone", "(II)I"⟩
abbrev cX6_undo : ByteArray := prog_1_method_8_code
def yX6_undo : MethodName := ⟨RX6, "undo", "(I)I"⟩
abbrev cX6_stands : ByteArray := prog_1_method_9_code
def yX6_stands : MethodName := ⟨RX6, "stands", "(I)I"⟩
abbrev cX6_foe : ByteArray := prog_1_method_10_code
def yX6_foe : MethodName := ⟨RX6, "foe", "(II)I"⟩
abbrev cX6_armour : ByteArray := prog_1_method_11_code
def yX6_armour : MethodName := ⟨RX6, "armour", "(II)I"⟩
abbrev cX6_left : ByteArray := prog_1_method_12_code
def yX6_left : MethodName := ⟨RX6, "left", "()I"⟩
abbrev cX6_falls : ByteArray := prog_1_method_13_code
def yX6_falls : MethodName := ⟨RX6, "falls", "(I)I"⟩
abbrev cX6_cast : ByteArray := prog_1_method_14_code
def yX6_cast : MethodName := ⟨RX6, "cast", "(II)I"⟩
abbrev cX6_save : ByteArray := prog_1_method_15_code
def yX6_save : MethodName := ⟨RX6, "save", "(II)I"⟩
abbrev cX6_cull : ByteArray := prog_1_method_16_code
def yX6_cull : MethodName := ⟨RX6, "cull", "(I)I"⟩
abbrev cX6_sow : ByteArray := prog_1_method_17_code
def yX6_sow : MethodName := ⟨RX6, "sow", "(I)I"⟩
abbrev cX6_worth : ByteArray := prog_1_method_18_code
def yX6_worth : MethodName := ⟨RX6, "worth", "(I)I"⟩
abbrev cX6_game : ByteArray := prog_1_method_19_code
def yX6_game : MethodName := ⟨RX6, "game", "(I)I"⟩
abbrev cX6_reading : ByteArray := prog_1_method_20_code
def yX6_reading : MethodName := ⟨RX6, "reading", "(IIZ)I"⟩
abbrev cX6_back : ByteArray := prog_1_method_21_code
def yX6_back : MethodName := ⟨RX6, "back", "(I)I"⟩
abbrev cX6_whence : ByteArray := prog_1_method_22_code
def yX6_whence : MethodName := ⟨RX6, "whence", "(I)I"⟩
abbrev cX6_laws : ByteArray := prog_1_method_23_code
def yX6_laws : MethodName := ⟨RX6, "laws", "()I"⟩
abbrev cX6_kinds : ByteArray := prog_1_method_24_code
def yX6_kinds : MethodName := ⟨RX6, "kinds", "(I)I"⟩
abbrev cX6_odds : ByteArray := prog_1_method_25_code
def yX6_odds : MethodName := ⟨RX6, "odds", "(II)J"⟩
abbrev cX6_coin : ByteArray := prog_1_method_26_code
def yX6_coin : MethodName := ⟨RX6, "coin", "(I)I"⟩
abbrev cX6_row : ByteArray := prog_1_method_27_code
def yX6_row : MethodName := ⟨RX6, "row", "(IIII)I"⟩
abbrev cX6_sheet : ByteArray := prog_1_method_28_code
def yX6_sheet : MethodName := ⟨RX6, "sheet", "(III)I"⟩
abbrev cX6_lose : ByteArray := prog_1_method_29_code
def yX6_lose : MethodName := ⟨RX6, "lose", "(I)I"⟩
abbrev cX6_put : ByteArray := prog_1_method_30_code
def yX6_put : MethodName := ⟨RX6, "put", "(III)I"⟩
abbrev cX6_cell : ByteArray := prog_1_method_31_code
def yX6_cell : MethodName := ⟨RX6, "cell", "(III)J"⟩
abbrev cX6_copy : ByteArray := prog_1_method_32_code
def yX6_copy : MethodName := ⟨RX6, "copy", "(IIIII)I"⟩
abbrev cX6_tell : ByteArray := prog_1_method_33_code
def yX6_tell : MethodName := ⟨RX6, "tell", "(I)I"⟩
abbrev cX6_swear : ByteArray := prog_1_method_34_code
def yX6_swear : MethodName := ⟨RX6, "swear", "(I)I"⟩
abbrev cX6_as : ByteArray := prog_1_method_35_code
def yX6_as : MethodName := ⟨RX6, "as", "(II)I"⟩
abbrev cX6_trace : ByteArray := prog_1_method_36_code
def yX6_trace : MethodName := ⟨RX6, "trace", "()I"⟩
abbrev cX6_fault : ByteArray := prog_1_method_37_code
def yX6_fault : MethodName := ⟨RX6, "fault", "()I"⟩
abbrev cX6_many : ByteArray := prog_1_method_38_code
def yX6_many : MethodName := ⟨RX6, "many", "(I)I"⟩
abbrev cX6_isBelow : ByteArray := prog_1_method_39_code
def yX6_isBelow : MethodName := ⟨RX6, "isBelow", "(II)Z"⟩
abbrev cX6_isUpTo : ByteArray := prog_1_method_40_code
def yX6_isUpTo : MethodName := ⟨RX6, "isUpTo", "(II)Z"⟩
abbrev cX6_isIn : ByteArray := prog_1_method_41_code
def yX6_isIn : MethodName := ⟨RX6, "isIn", "(II)Z"⟩
abbrev cX6_wrongManOrMinute : ByteArray := prog_1_method_42_code
def yX6_wrongManOrMinute : MethodName := ⟨RX6, "wrongManOrMinute", "(II)I"⟩
abbrev cX6_wrongCells : ByteArray := prog_1_method_43_code
def yX6_wrongCells : MethodName := ⟨RX6, "wrongCells", "(IIII)I"⟩
abbrev cX6_faulted : ByteArray := prog_1_method_44_code
def yX6_faulted : MethodName := ⟨RX6, "faulted", "(I)I"⟩
abbrev cX6_beginAnew : ByteArray := prog_1_method_45_code
def yX6_beginAnew : MethodName := ⟨RX6, "beginAnew", "()V"⟩
abbrev cX6_leftNow : ByteArray := prog_1_method_46_code
def yX6_leftNow : MethodName := ⟨RX6, "leftNow", "()I"⟩
abbrev cX6_leftWithStone : ByteArray := prog_1_method_47_code
def yX6_leftWithStone : MethodName := ⟨RX6, "leftWithStone", "(II)I"⟩
abbrev cX6_leftWithStonesOn : ByteArray := prog_1_method_48_code
def yX6_leftWithStonesOn : MethodName := ⟨RX6, "leftWithStonesOn", "(I)I"⟩
abbrev cX6_leftWithSomeStones : ByteArray := prog_1_method_49_code
def yX6_leftWithSomeStones : MethodName := ⟨RX6, "leftWithSomeStones", "(I)I"⟩
abbrev cX6_mostLeftAfter : ByteArray := prog_1_method_50_code
def yX6_mostLeftAfter : MethodName := ⟨RX6, "mostLeftAfter", "(I)I"⟩
abbrev cX6_othersLeftWithSown : ByteArray := prog_1_method_51_code
def yX6_othersLeftWithSown : MethodName := ⟨RX6, "othersLeftWithSown", "(II)I"⟩
abbrev cX6_leave : ByteArray := prog_1_method_52_code
def yX6_leave : MethodName := ⟨RX6, "leave", "(I)V"⟩
abbrev cX6_toldAsMan : ByteArray := prog_1_method_53_code
def yX6_toldAsMan : MethodName := ⟨RX6, "toldAsMan", "(I)I"⟩
abbrev cX6_toldAsLame : ByteArray := prog_1_method_54_code
def yX6_toldAsLame : MethodName := ⟨RX6, "toldAsLame", "(I)I"⟩
abbrev cX6_toldAsArcher : ByteArray := prog_1_method_55_code
def yX6_toldAsArcher : MethodName := ⟨RX6, "toldAsArcher", "(I)I"⟩
def RX7 : String := "ToothFieldModel"
def TX7 : u_T := fun k => match k with
  | 0 => ("ToothFieldModel", "fault", "I", false)
  | 1 => ("ToothFieldModel", "trace", "I", false)
  | 2 => ("ToothFieldModel", "sorts", "[I", true)
  | 3 => ("ToothFieldModel", "sheetLong", "[I", true)
  | 4 => ("ToothFieldModel", "cells", "[I", true)
  | 5 => ("ToothFieldModel", "high", "I", false)
  | 6 => ("ToothFieldModel", "wide", "I", false)
  | 7 => ("ToothFieldModel", "men", "I", false)
  | 8 => ("ToothFieldModel", "kind", "[I", true)
  | 9 => ("ToothFieldModel", "dragon", "[I", true)
  | 10 => ("ToothFieldModel", "strength", "[I", true)
  | 11 => ("ToothFieldModel", "armourAt", "[I", true)
  | 12 => ("ToothFieldModel", "cellOf", "[I", true)
  | 13 => ("ToothFieldModel", "law", "I", false)
  | 14 => ("ToothFieldModel", "at", "I", false)
  | 15 => ("ToothFieldModel", "readHigh", "I", false)
  | 16 => ("ToothFieldModel", "readWide", "I", false)
  | 17 => ("ToothFieldModel", "readMany", "I", false)
  | 18 => ("ToothFieldModel", "read", "[I", true)
  | 19 => ("ToothFieldModel", "stones", "I", false)
  | 20 => ("ToothFieldModel", "stoneOn", "[I", true)
  | 21 => ("ToothFieldModel", "stoneIn", "[I", true)
  | 22 => ("ToothFieldModel", "unthrown", "I", false)
  | 23 => ("ToothFieldModel", "missing", "I", false)
  | 24 => ("ToothFieldModel", "isUp", "[Z", true)
  | 25 => ("ToothFieldModel", "foeOf", "[I", true)
  | 26 => ("ToothFieldModel", "armourOf", "[I", true)
  | 27 => ("ToothFieldModel", "fellIn", "[I", true)
  | 28 => ("ToothFieldModel", "struckBy", "[I", true)
  | 29 => ("ToothFieldModel", "readings", "I", false)
  | 30 => ("ToothFieldModel", "readMan", "[I", true)
  | 31 => ("ToothFieldModel", "readMinute", "[I", true)
  | 32 => ("ToothFieldModel", "readStood", "[Z", true)
  | 33 => ("ToothFieldModel", "keptOn", "[I", true)
  | _ => ("ToothFieldModel", "keptIn", "[I", true)
def tyX7 : Nat → FieldType := fun k => match k with
  | 0 => .int
  | 1 => .int
  | 2 => .array .int
  | 3 => .array .int
  | 4 => .array .int
  | 5 => .int
  | 6 => .int
  | 7 => .int
  | 8 => .array .int
  | 9 => .array .int
  | 10 => .array .int
  | 11 => .array .int
  | 12 => .array .int
  | 13 => .int
  | 14 => .int
  | 15 => .int
  | 16 => .int
  | 17 => .int
  | 18 => .array .int
  | 19 => .int
  | 20 => .array .int
  | 21 => .array .int
  | 22 => .int
  | 23 => .int
  | 24 => .array .boolean
  | 25 => .array .int
  | 26 => .array .int
  | 27 => .array .int
  | 28 => .array .int
  | 29 => .int
  | 30 => .array .int
  | 31 => .array .int
  | 32 => .array .boolean
  | 33 => .array .int
  | _ => .array .int
abbrev wsX70 : List Cond := u_ws RX7 TX7 35
theorem nmX7 : ∀ a, a < 35 → ∀ b, b < 35 → a ≠ b → (TX7 a).2.1 ≠ (TX7 b).2.1 := by decide +kernel
theorem tyX7_ok : ∀ k, k < 35 → parseFieldDescriptor (TX7 k).2.2.1 = some (tyX7 k) := by decide +kernel
abbrev cX7_init : ByteArray := prog_9_method_1_code
def yX7_init : MethodName := ⟨RX7, "<init>", "()V"⟩
abbrev cX7_fails : ByteArray := prog_9_method_3_code
def yX7_fails : MethodName := ⟨RX7, "fails", "(I)I"⟩
abbrev cX7_lost : ByteArray := prog_9_method_4_code
def yX7_lost : MethodName := ⟨RX7, "lost", "(I)J"⟩
abbrev cX7_within : ByteArray := prog_9_method_5_code
def yX7_within : MethodName := ⟨RX7, "within", "(III)Z"⟩
abbrev cX7_isSheet : ByteArray := prog_9_method_6_code
def yX7_isSheet : MethodName := ⟨RX7, "isSheet", "(I)Z"⟩
abbrev cX7_isSort : ByteArray := prog_9_method_7_code
def yX7_isSort : MethodName := ⟨RX7, "isSort", "(I)Z"⟩
abbrev cX7_against : ByteArray := prog_9_method_8_code
def yX7_against : MethodName := ⟨RX7, "against", "(IIII)I"⟩
abbrev cX7_all : ByteArray := prog_9_method_9_code
def yX7_all : MethodName := ⟨RX7, "all", "()I"⟩
abbrev cX7_isMan : ByteArray := prog_9_method_10_code
def yX7_isMan : MethodName := ⟨RX7, "isMan", "(I)Z"⟩
abbrev cX7_isMinute : ByteArray := prog_9_method_11_code
def yX7_isMinute : MethodName := ⟨RX7, "isMinute", "(I)Z"⟩
abbrev cX7_digit : ByteArray := prog_9_method_12_code
def yX7_digit : MethodName := ⟨RX7, "digit", "(III)I"⟩
abbrev cX7_isSign : ByteArray := prog_9_method_13_code
def yX7_isSign : MethodName := ⟨RX7, "isSign", "(II)Z"⟩
abbrev cX7_field : ByteArray := prog_9_method_14_code
def yX7_field : MethodName := ⟨RX7, "field", "(IIII)I"⟩
abbrev cX7_readField : ByteArray := prog_9_method_15_code
def yX7_readField : MethodName := ⟨RX7, "readField", "(I)Z"⟩
abbrev cX7_readMan : ByteArray := prog_9_method_16_code
def yX7_readMan : MethodName := ⟨RX7, "readMan", "(II)Z"⟩
abbrev cX7_manIn : ByteArray := prog_9_method_17_code
def yX7_manIn : MethodName := ⟨RX7, "manIn", "(I)I"⟩
abbrev cX7_sign : ByteArray := prog_9_method_18_code
def yX7_sign : MethodName := ⟨RX7, "sign", "(I)I"⟩
abbrev cX7_reach : ByteArray := prog_9_method_19_code
def yX7_reach : MethodName := ⟨RX7, "reach", "(I)I"⟩
abbrev cX7_blow : ByteArray := prog_9_method_20_code
def yX7_blow : MethodName := ⟨RX7, "blow", "(I)I"⟩
abbrev cX7_ofMan : ByteArray := prog_9_method_21_code
def yX7_ofMan : MethodName := ⟨RX7, "ofMan", "(II)I"⟩
abbrev cX7_apart : ByteArray := prog_9_method_22_code
def yX7_apart : MethodName := ⟨RX7, "apart", "(II)I"⟩
abbrev cX7_farOf : ByteArray := prog_9_method_23_code
def yX7_farOf : MethodName := ⟨RX7, "farOf", "(II)I"⟩
abbrev cX7_far : ByteArray := prog_9_method_24_code
def yX7_far : MethodName := ⟨RX7, "far", "(II)I"⟩
abbrev cX7_law : ByteArray := prog_9_method_25_code
def yX7_law : MethodName := ⟨RX7, "law", "(I)I"⟩
abbrev cX7_lay : ByteArray := prog_9_method_26_code
def yX7_lay : MethodName := ⟨RX7, "lay", "(II)V"⟩
abbrev cX7_stone : ByteArray := prog_9_method_27_code
def yX7_stone : MethodName := ⟨RX7, "stone", "(II)I"⟩
abbrev cX7_undo : ByteArray := prog_9_method_28_code
def yX7_undo : MethodName := ⟨RX7, "undo", "(I)I"⟩
abbrev cX7_begin : ByteArray := prog_9_method_29_code
def yX7_begin : MethodName := ⟨RX7, "begin", "()V"⟩
abbrev cX7_mayTurnOn : ByteArray := prog_9_method_30_code
def yX7_mayTurnOn : MethodName := ⟨RX7, "mayTurnOn", "(IIZ)Z"⟩
abbrev cX7_nearest : ByteArray := prog_9_method_31_code
def yX7_nearest : MethodName := ⟨RX7, "nearest", "(IZ)I"⟩
abbrev cX7_wake : ByteArray := prog_9_method_32_code
def yX7_wake : MethodName := ⟨RX7, "wake", "(I)V"⟩
abbrev cX7_strikeAll : ByteArray := prog_9_method_33_code
def yX7_strikeAll : MethodName := ⟨RX7, "strikeAll", "()V"⟩
abbrev cX7_fallAll : ByteArray := prog_9_method_34_code
def yX7_fallAll : MethodName := ⟨RX7, "fallAll", "(I)V"⟩
abbrev cX7_turn : ByteArray := prog_9_method_35_code
def yX7_turn : MethodName := ⟨RX7, "turn", "(I)V"⟩
abbrev cX7_goTo : ByteArray := prog_9_method_36_code
def yX7_goTo : MethodName := ⟨RX7, "goTo", "(I)V"⟩
abbrev cX7_standing : ByteArray := prog_9_method_37_code
def yX7_standing : MethodName := ⟨RX7, "standing", "()I"⟩
abbrev cX7_leftNow : ByteArray := prog_9_method_38_code
def yX7_leftNow : MethodName := ⟨RX7, "leftNow", "()I"⟩
abbrev cX7_stands : ByteArray := prog_9_method_39_code
def yX7_stands : MethodName := ⟨RX7, "stands", "(I)I"⟩
abbrev cX7_foe : ByteArray := prog_9_method_40_code
def yX7_foe : MethodName := ⟨RX7, "foe", "(II)I"⟩
abbrev cX7_armour : ByteArray := prog_9_method_41_code
def yX7_armour : MethodName := ⟨RX7, "armour", "(II)I"⟩
abbrev cX7_left : ByteArray := prog_9_method_42_code
def yX7_left : MethodName := ⟨RX7, "left", "()I"⟩
abbrev cX7_falls : ByteArray := prog_9_method_43_code
def yX7_falls : MethodName := ⟨RX7, "falls", "(I)I"⟩
abbrev cX7_size : ByteArray := prog_9_method_44_code
def yX7_size : MethodName := ⟨RX7, "size", "(I)I"⟩
abbrev cX7_leftWith : ByteArray := prog_9_method_45_code
def yX7_leftWith : MethodName := ⟨RX7, "leftWith", "(II)I"⟩
abbrev cX7_cast : ByteArray := prog_9_method_46_code
def yX7_cast : MethodName := ⟨RX7, "cast", "(II)I"⟩
abbrev cX7_save : ByteArray := prog_9_method_47_code
def yX7_save : MethodName := ⟨RX7, "save", "(II)I"⟩
abbrev cX7_cull : ByteArray := prog_9_method_48_code
def yX7_cull : MethodName := ⟨RX7, "cull", "(I)I"⟩
abbrev cX7_sow : ByteArray := prog_9_method_49_code
def yX7_sow : MethodName := ⟨RX7, "sow", "(I)I"⟩
abbrev cX7_worth : ByteArray := prog_9_method_50_code
def yX7_worth : MethodName := ⟨RX7, "worth", "(I)I"⟩
abbrev cX7_mostLeft : ByteArray := prog_9_method_51_code
def yX7_mostLeft : MethodName := ⟨RX7, "mostLeft", "(I)I"⟩
abbrev cX7_game : ByteArray := prog_9_method_52_code
def yX7_game : MethodName := ⟨RX7, "game", "(I)I"⟩
abbrev cX7_reading : ByteArray := prog_9_method_53_code
def yX7_reading : MethodName := ⟨RX7, "reading", "(IIZ)I"⟩
abbrev cX7_back : ByteArray := prog_9_method_54_code
def yX7_back : MethodName := ⟨RX7, "back", "(I)I"⟩
abbrev cX7_areSo : ByteArray := prog_9_method_55_code
def yX7_areSo : MethodName := ⟨RX7, "areSo", "()Z"⟩
abbrev cX7_whence : ByteArray := prog_9_method_56_code
def yX7_whence : MethodName := ⟨RX7, "whence", "(I)I"⟩
abbrev cX7_laws : ByteArray := prog_9_method_57_code
def yX7_laws : MethodName := ⟨RX7, "laws", "()I"⟩
abbrev cX7_kinds : ByteArray := prog_9_method_58_code
def yX7_kinds : MethodName := ⟨RX7, "kinds", "(I)I"⟩
abbrev cX7_inLeastTerms : ByteArray := prog_9_method_59_code
def yX7_inLeastTerms : MethodName := ⟨RX7, "inLeastTerms", "(JJI)J"⟩
abbrev cX7_odds : ByteArray := prog_9_method_60_code
def yX7_odds : MethodName := ⟨RX7, "odds", "(II)J"⟩
abbrev cX7_coin : ByteArray := prog_9_method_61_code
def yX7_coin : MethodName := ⟨RX7, "coin", "(I)I"⟩
abbrev cX7_row : ByteArray := prog_9_method_62_code
def yX7_row : MethodName := ⟨RX7, "row", "(IIII)I"⟩
abbrev cX7_leftByRow : ByteArray := prog_9_method_63_code
def yX7_leftByRow : MethodName := ⟨RX7, "leftByRow", "(II)I"⟩
abbrev cX7_sheet : ByteArray := prog_9_method_64_code
def yX7_sheet : MethodName := ⟨RX7, "sheet", "(III)I"⟩
abbrev cX7_lose : ByteArray := prog_9_method_65_code
def yX7_lose : MethodName := ⟨RX7, "lose", "(I)I"⟩
abbrev cX7_put : ByteArray := prog_9_method_66_code
def yX7_put : MethodName := ⟨RX7, "put", "(III)I"⟩
abbrev cX7_cell : ByteArray := prog_9_method_67_code
def yX7_cell : MethodName := ⟨RX7, "cell", "(III)J"⟩
abbrev cX7_copy : ByteArray := prog_9_method_68_code
def yX7_copy : MethodName := ⟨RX7, "copy", "(IIIII)I"⟩
abbrev cX7_begins : ByteArray := prog_9_method_69_code
def yX7_begins : MethodName := ⟨RX7, "begins", "(I)V"⟩
abbrev cX7_tell : ByteArray := prog_9_method_70_code
def yX7_tell : MethodName := ⟨RX7, "tell", "(I)I"⟩
abbrev cX7_swear : ByteArray := prog_9_method_71_code
def yX7_swear : MethodName := ⟨RX7, "swear", "(I)I"⟩
abbrev cX7_as : ByteArray := prog_9_method_72_code
def yX7_as : MethodName := ⟨RX7, "as", "(II)I"⟩
abbrev cX7_trace : ByteArray := prog_9_method_73_code
def yX7_trace : MethodName := ⟨RX7, "trace", "()I"⟩
abbrev cX7_fault : ByteArray := prog_9_method_74_code
def yX7_fault : MethodName := ⟨RX7, "fault", "()I"⟩
abbrev cX7_many : ByteArray := prog_9_method_75_code
def yX7_many : MethodName := ⟨RX7, "many", "(I)I"⟩
def RJ6 : String := "java/lang/Integer"
def TJ6 : u_T := fun k => match k with
  | _ => ("", "", "", false)
def tyJ6 : Nat → FieldType := fun k => match k with
  | _ => .int
abbrev wsJ60 : List Cond := u_ws RJ6 TJ6 0
theorem nmJ6 : ∀ a, a < 0 → ∀ b, b < 0 → a ≠ b → (TJ6 a).2.1 ≠ (TJ6 b).2.1 := by decide +kernel
theorem tyJ6_ok : ∀ k, k < 0 → parseFieldDescriptor (TJ6 k).2.2.1 = some (tyJ6 k) := by decide +kernel
abbrev cJ6_bitCount_0f7a4 : ByteArray := prog_10_method_49_code
def yJ6_bitCount_0f7a4 : MethodName := ⟨RJ6, "bitCount", "(I)I"⟩
def RJ9 : String := "java/lang/Math"
def TJ9 : u_T := fun k => match k with
  | _ => ("", "", "", false)
def tyJ9 : Nat → FieldType := fun k => match k with
  | _ => .int
abbrev wsJ90 : List Cond := u_ws RJ9 TJ9 0
theorem nmJ9 : ∀ a, a < 0 → ∀ b, b < 0 → a ≠ b → (TJ9 a).2.1 ≠ (TJ9 b).2.1 := by decide +kernel
theorem tyJ9_ok : ∀ k, k < 0 → parseFieldDescriptor (TJ9 k).2.2.1 = some (tyJ9 k) := by decide +kernel
abbrev cJ9_abs_0f7a4 : ByteArray := prog_11_method_59_code
def yJ9_abs_0f7a4 : MethodName := ⟨RJ9, "abs", "(I)I"⟩
abbrev cJ9_max_7cf53 : ByteArray := prog_11_method_65_code
def yJ9_max_7cf53 : MethodName := ⟨RJ9, "max", "(II)I"⟩
abbrev cJ9_min_7cf53 : ByteArray := prog_11_method_69_code
def yJ9_min_7cf53 : MethodName := ⟨RJ9, "min", "(II)I"⟩
def RJ10 : String := "java/lang/System"
def TJ10 : u_T := fun k => match k with
  | _ => ("", "", "", false)
def tyJ10 : Nat → FieldType := fun k => match k with
  | _ => .int
abbrev wsJ100 : List Cond := u_ws RJ10 TJ10 0
theorem nmJ10 : ∀ a, a < 0 → ∀ b, b < 0 → a ≠ b → (TJ10 a).2.1 ≠ (TJ10 b).2.1 := by decide +kernel
theorem tyJ10_ok : ∀ k, k < 0 → parseFieldDescriptor (TJ10 k).2.2.1 = some (tyJ10 k) := by decide +kernel
def RL : String := "ToothFieldLaw"
abbrev cL_law : ByteArray := code
def yL_law : MethodName := ⟨RL, "law", "([I)Z"⟩
abbrev vwCl : List vw_C := [(RX0, TX0, 7), (RX1, TX1, 10), (RX2, TX2, 4), (RX3, TX3, 4), (RX4, TX4, 3), (RX5, TX5, 3), (RX6, TX6, 12), (RX7, TX7, 35)]
end
section
/-- the shapes of the world: class code and length, by id -/
def SH : List (Nat × Nat) := [(99, 0), (6, 0), (10, 4), (3, 0), (8, 60), (3, 0), (8, 60), (3, 0), (8, 60), (3, 0), (8, 60), (5, 0), (0, 0), (8, 9), (8, 9), (8, 9), (8, 9), (4, 0), (8, 6), (8, 6), (4, 0), (8, 30), (8, 30), (2, 0), (8, 8), (8, 8), (9, 8), (1, 0), (8, 9), (8, 9), (8, 9), (8, 9), (8, 9), (8, 81), (8, 20), (1, 0), (8, 9), (8, 9), (8, 9), (8, 9), (8, 9), (8, 81), (8, 20), (7, 0), (8, 4), (8, 4), (8, 240), (8, 9), (8, 9), (8, 9), (8, 9), (8, 9), (8, 40), (8, 40), (8, 40), (9, 9), (8, 9), (8, 9), (8, 9), (8, 9), (8, 8), (8, 8), (9, 8), (8, 6), (8, 6)]
def FTL : Nat → List (Nat × Nat × Nat)
  | 0 => [(2, 1, 8), (2, 2, 8), (2, 3, 8), (2, 4, 8), (3, 3, 1), (0, 0, 0), (0, 0, 0)]
  | 1 => [(2, 1, 109), (2, 2, 109), (2, 3, 109), (2, 4, 109), (2, 5, 109), (2, 6, 181), (2, 7, 120), (0, 0, 0), (0, 0, 0), (0, 0, 0)]
  | 2 => [(2, 1, 8), (2, 2, 8), (2, 3, 9), (0, 0, 0)]
  | 3 => [(2, 1, 160), (1, 0, 0), (0, 0, 0), (0, 0, 0)]
  | 4 => [(2, 1, 8), (2, 2, 8), (0, 0, 0)]
  | 5 => [(3, 2, 3), (0, 0, 0), (0, 0, 0)]
  | 6 => [(2, 1, 10), (2, 10, 5), (2, 11, 0), (2, 16, 4), (2, 19, 4), (2, 22, 2), (3, 0, 1), (3, 1, 1), (1, 0, 0), (0, 0, 0), (0, 0, 0), (0, 0, 0)]
  | 7 => [(0, 0, 0), (0, 0, 0), (2, 1, 8), (2, 2, 8), (2, 3, 8), (0, 0, 0), (0, 0, 0), (0, 0, 0), (2, 4, 8), (2, 5, 8), (2, 6, 8), (2, 7, 8), (2, 8, 8), (0, 0, 0), (0, 0, 0), (0, 0, 0), (0, 0, 0), (0, 0, 0), (2, 9, 8), (0, 0, 0), (2, 10, 8), (2, 11, 8), (0, 0, 0), (0, 0, 0), (2, 12, 9), (2, 13, 8), (2, 14, 8), (2, 15, 8), (2, 16, 8), (0, 0, 0), (2, 17, 8), (2, 18, 8), (2, 19, 9), (2, 20, 8), (2, 21, 8)]
  | _ => []
def NN : Nat := 64
def NWl : List Cond := [.methodLinkNest "ToothField" 17 ⟨"ToothField$Sheet", "<init>", "()V"⟩ "ToothField",
  .fieldLinkNest "ToothField" 221 "ToothField$Sheet" "cells" "[I" "ToothField",
  .fieldLinkNest "ToothField" 202 "ToothField$Sheet" "laid" "Z" "ToothField",
  .fieldLinkNest "ToothField" 215 "ToothField$Sheet" "lane" "I" "ToothField",
  .fieldLinkNest "ToothField" 205 "ToothField$Sheet" "length" "I" "ToothField",
  .methodLinkNest "ToothField" 20 ⟨"ToothField$TextReader", "<init>", "()V"⟩ "ToothField",
  .fieldLinkNest "ToothField" 83 "ToothField$TextReader" "at" "I" "ToothField",
  .methodLinkNest "ToothField" 27 ⟨"ToothField$Fight", "<init>", "()V"⟩ "ToothField",
  .fieldLinkNest "ToothField" 147 "ToothField$Fight" "foeOf" "[I" "ToothField",
  .fieldLinkNest "ToothField" 150 "ToothField$Fight" "armourOf" "[I" "ToothField",
  .fieldLinkNest "ToothField$Readings" 26 "ToothField$Fight" "fellIn" "[I" "ToothField",
  .fieldLinkNest "ToothField" 157 "ToothField$Fight" "fellIn" "[I" "ToothField",
  .methodLinkNest "ToothField" 34 ⟨"ToothField$Stones", "<init>", "(I)V"⟩ "ToothField",
  .fieldLinkNest "ToothField$Fight" 67 "ToothField$Stones" "man" "[I" "ToothField",
  .fieldLinkNest "ToothField" 245 "ToothField$Stones" "man" "[I" "ToothField",
  .fieldLinkNest "ToothField$Fight" 70 "ToothField$Stones" "minute" "[I" "ToothField",
  .fieldLinkNest "ToothField" 248 "ToothField$Stones" "minute" "[I" "ToothField",
  .fieldLinkNest "ToothField$Fight" 64 "ToothField$Stones" "count" "I" "ToothField",
  .fieldLinkNest "ToothField" 139 "ToothField$Stones" "count" "I" "ToothField",
  .methodLinkNest "ToothField" 46 ⟨"ToothField$Readings", "<init>", "()V"⟩ "ToothField",
  .fieldLinkNest "ToothField" 183 "ToothField$Readings" "count" "I" "ToothField",
  .methodLinkNest "ToothField" 53 ⟨"ToothField$Host", "<init>", "()V"⟩ "ToothField",
  .fieldLinkNest "ToothField" 107 "ToothField$Host" "kind" "[I" "ToothField",
  .fieldLinkNest "ToothField" 110 "ToothField$Host" "dragon" "[I" "ToothField",
  .fieldLinkNest "ToothField$Fight" 95 "ToothField$Host" "dragon" "[I" "ToothField",
  .fieldLinkNest "ToothField" 113 "ToothField$Host" "strength" "[I" "ToothField",
  .fieldLinkNest "ToothField$Fight" 61 "ToothField$Host" "shield" "[I" "ToothField",
  .fieldLinkNest "ToothField" 116 "ToothField$Host" "shield" "[I" "ToothField",
  .fieldLinkNest "ToothField" 119 "ToothField$Host" "place" "[I" "ToothField",
  .fieldLinkNest "ToothField" 99 "ToothField$Host" "manIn" "[I" "ToothField",
  .fieldLinkNest "ToothField" 92 "ToothField$Host" "cells" "I" "ToothField",
  .fieldLinkNest "ToothField" 89 "ToothField$Host" "count" "I" "ToothField",
  .fieldLinkNest "ToothField$Fight" 56 "ToothField$Host" "count" "I" "ToothField",
  .fieldLinkNest "ToothField$TextReader" 43 "ToothField$Host" "count" "I" "ToothField",
  .methodLinkNest "ToothField" 211 ⟨"ToothField$Sheet", "faultOfCells", "(III)I"⟩ "ToothField",
  .methodLinkNest "ToothField$Sheet" 35 ⟨"ToothField", "isUpTo", "(II)Z"⟩ "ToothField",
  .methodLinkNest "ToothField" 79 ⟨"ToothField$TextReader", "readInto", "(LToothField$Host;LToothField$Sheet;II)Z"⟩ "ToothField",
  .methodLinkNest "ToothField$TextReader" 58 ⟨"ToothField$Sheet", "at", "(I)I"⟩ "ToothField",
  .methodLinkNest "ToothField$Sheet" 42 ⟨"ToothField", "isBelow", "(II)Z"⟩ "ToothField",
  .methodLinkNest "ToothField$TextReader" 29 ⟨"ToothField$Host", "clear", "(II)V"⟩ "ToothField",
  .fieldLinkNest "ToothField$TextReader" 54 "ToothField" "LETTERS" "[I" "ToothField",
  .methodLinkNest "ToothField$TextReader" 50 ⟨"ToothField$Host", "add", "(IIIII)V"⟩ "ToothField",
  .methodLinkNest "ToothField$Host" 52 ⟨"ToothField", "isBelow", "(II)Z"⟩ "ToothField",
  .methodLinkNest "ToothField" 103 ⟨"ToothField$Host", "has", "(I)Z"⟩ "ToothField",
  .methodLinkNest "ToothField" 122 ⟨"ToothField$Host", "reachOf", "(I)I"⟩ "ToothField",
  .methodLinkNest "ToothField" 126 ⟨"ToothField$Host", "blowOf", "(I)I"⟩ "ToothField",
  .methodLinkNest "ToothField" 129 ⟨"ToothField$Host", "between", "(II)I"⟩ "ToothField",
  .methodLinkNest "ToothField" 136 ⟨"ToothField$Stones", "add", "(II)Z"⟩ "ToothField",
  .methodLinkNest "ToothField" 143 ⟨"ToothField$Fight", "run", "(LToothField$Host;LToothField$Stones;III)I"⟩ "ToothField",
  .methodLinkNest "ToothField$Fight" 73 ⟨"ToothField$Host", "has", "(I)Z"⟩ "ToothField",
  .methodLinkNest "ToothField$Fight" 84 ⟨"ToothField", "isIn", "(II)Z"⟩ "ToothField",
  .methodLinkNest "ToothField$Fight" 92 ⟨"ToothField$Host", "reachOf", "(I)I"⟩ "ToothField",
  .methodLinkNest "ToothField$Fight" 98 ⟨"ToothField$Host", "between", "(II)I"⟩ "ToothField",
  .methodLinkNest "ToothField$Fight" 102 ⟨"ToothField$Host", "blowOf", "(I)I"⟩ "ToothField",
  .methodLinkNest "ToothField" 241 ⟨"ToothField$Stones", "take", "(LToothField$Stones;)V"⟩ "ToothField",
  .methodLinkNest "ToothField" 256 ⟨"ToothField$Host", "add", "(IIIII)V"⟩ "ToothField",
  .methodLinkNest "ToothField" 259 ⟨"ToothField$Host", "removeLast", "()V"⟩ "ToothField",
  .methodLinkNest "ToothField" 180 ⟨"ToothField$Readings", "add", "(IIZ)Z"⟩ "ToothField",
  .methodLinkNest "ToothField" 184 ⟨"ToothField$Readings", "areSo", "(LToothField$Fight;)Z"⟩ "ToothField",
  .methodLinkNest "ToothField" 193 ⟨"ToothField$Sheet", "at", "(I)I"⟩ "ToothField",
  .methodLinkNest "ToothField" 198 ⟨"ToothField$Sheet", "layOut", "(II)V"⟩ "ToothField",
  .methodLinkNest "ToothField" 208 ⟨"ToothField$Sheet", "write", "(II)V"⟩ "ToothField",
  .methodLinkNest "ToothField" 218 ⟨"ToothField$Sheet", "holds", "(II)Z"⟩ "ToothField"]
end
section
/-! ===== the words, the world, the abstract machine ===== -/
def TB : List Cond := lw_tbl.filter goodWord
theorem tbm {w : Cond} (i : Nat) (h : lw_tbl[i]? = some w) (g : goodWord w = true) : w ∈ TB := List.mem_filter.mpr ⟨List.mem_of_getElem? h, g⟩
theorem nwm {w : Cond} (i : Nat) (h : NWl[i]? = some w) : w ∈ NWl := List.mem_of_getElem? h
/-- an int, a long, a reference (class code, id) -/
abbrev V : Type := Int ⊕ Int ⊕ (Nat × Nat)
/-- numbers by id and place; the four references that change, by register (0: null) -/
abbrev XS : Type := (Nat → Nat → Int) × (Nat → Nat)
/-- a method: name, code, locals, answer, height, parameters, static -/
abbrev MI : Type := MethodName × ByteArray × Nat × Option FieldType × Nat × Nat × Bool
/-- a method's walk: itself, its instructions, its fields, its callees, its constants, arraycopy, statics -/
abbrev CX : Type := MI × List (Instr × Nat) × List (Nat × Nat × Nat) × List (Nat × MI) × List (Nat × Int) × List (Nat × Nat) × List Nat
abbrev inR (z : Int) : Prop := -2147483648 ≤ z ∧ z < 2147483648
abbrev inL (z : Int) : Prop := -9223372036854775808 ≤ z ∧ z < 9223372036854775808
def wr (z : Int) : Int := (z + 2147483648) % 4294967296 - 2147483648
theorem wr_id {z : Int} (h : -2147483648 ≤ z) (h2 : z < 2147483648) : wr z = z := by unfold wr; omega
theorem wr_in (z : Int) : inR (wr z) := by unfold inR wr; omega
def cls (i : Nat) : Nat := (SH.getD i (99, 0)).1
def len (i : Nat) : Nat := (SH.getD i (99, 0)).2
def ln (c i : Nat) : Nat := bif Nat.ble 100 c then c - 100 else len i
def tok (c i : Nat) : Prop := (c = 70 ∧ i = 0) ∨ (1 ≤ i ∧ i ≤ NN ∧ ((100 ≤ c ∧ cls i = 8 ∧ len i = c - 100) ∨ (c < 100 ∧ cls i = c)))
def vok (v : V) : Prop := match v with
  | .inl z => inR z
  | .inr (.inl z) => inL z
  | .inr (.inr r) => tok r.1 r.2
def up (h : Nat → Nat → Int) (i k : Nat) (z : Int) : Nat → Nat → Int := fun j => if j = i then (fun q => if q = k then z else h i q) else h j
def upr (r : Nat → Nat) (j i : Nat) : Nat → Nat := fun q => if q = j then i else r q
/-- numbers are of 32 bits; registers hold ids of their class, or null -/
def rcl (j : Nat) : Nat := if j = 2 then 3 else 1
def RX (X : XS) : Prop := (∀ i k, inR (X.1 i k)) ∧ ∀ j, X.2 j = 0 ∨ tok (rcl j) (X.2 j)
/-- the places of a sheet's id in the row of sheets -/
def shid (j : Nat) : Nat := 3 + 2 * j
/-- launch, class numbers, addresses of ids (of 0: LETTERS), classes of int[], boolean[], Sheet[] -/
abbrev WD : Type := Launch × va_G × (Nat → Nat) × ClassId × ClassId × ClassId
def wAd (w : WD) : Nat → Nat := w.2.2.1
def wA (w : WD) : Nat → Prop := fun q => ∃ i, 1 ≤ i ∧ i ≤ NN ∧ wAd w i = q
def wTy (w : WD) : List (ClassId × FieldType) := [(w.2.2.2.1, .int), (w.2.2.2.2.1, .boolean), (w.2.2.2.2.2, .object "ToothField$Sheet")]
def vc (w : WD) (v : V) : Value := match v with
  | .inl z => .int (Int32.ofInt z)
  | .inr (.inl z) => .long (Int64.ofInt z)
  | .inr (.inr r) => .ref (wAd w r.2)
def ft (c k : Nat) : Nat × Nat × Nat := (FTL c).getD k (9, 0, 0)
def fv (w : WD) (X : XS) (i c k : Nat) : Value := match ft c k with
  | (2, off, _) => .ref (wAd w (i + off))
  | (3, j, _) => if X.2 j = 0 then .null else .ref (wAd w (X.2 j))
  | _ => .int (Int32.ofInt (X.1 i k))
def ent (w : WD) (X : XS) (i : Nat) : va_E :=
  if cls i < 8 then .inr (cls i, (List.range (FTL (cls i)).length).map (fv w X i (cls i)))
  else if cls i = 8 then .inl (w.2.2.2.1, len i, .inl (fun j => Int32.ofInt (X.1 i j)))
  else if cls i = 9 then .inl (w.2.2.2.2.1, len i, .inl (fun j => Int32.ofInt (X.1 i j)))
  else .inl (w.2.2.2.2.2, len i, .inr (.inr (.inr (.inr (fun j => some (wAd w (shid j)))))))
def wsX (w : WD) (X : XS) : va_W := (List.range NN).map (fun q => (wAd w (q + 1), ent w X (q + 1)))
def LTv : Nat → Value := fun j => .int (if j = 0 then 109 else if j = 1 then 108 else 97)
/-- what stays: the classes, the nest's links, LETTERS, the addresses apart -/
def KK (w : WD) (s : State) (H : Heap) : Prop := va_K w.2.1 vwCl (wTy w) s ∧ (∀ x ∈ NWl, va_Nw x s) ∧ va_Z "ToothField" "LETTERS" "[I" (.ref (wAd w 0)) (wA w) s H ∧ va_T .int (wAd w 0) 3 LTv (wA w) s H ∧ ∀ i j, 1 ≤ i → i ≤ NN → 1 ≤ j → j ≤ NN → wAd w i = wAd w j → i = j
def rmd (h : Nat) : Room := { frames := h, cells := 0, slots := 0, locals := 40 * h }
def lol (w : WD) : Nat → List (Option V) → List (Nat × Value)
  | _, [] => []
  | i, none :: t => lol w (i + 1) t
  | i, some v :: t => (i, vc w v) :: lol w (i + 1) t
def rty (ret : Option FieldType) (z : Int) : Option Value := match ret with
  | none => none
  | some .long => some (.long (Int64.ofInt z))
  | some _ => some (.int (Int32.ofInt z))
def QcO (w : WD) (ret : Option FieldType) (Q : Int → XS → Prop) : Array Value → State → Outcome → State → Prop := fun _ st o t =>
  (∃ (z : Int) (X : XS), o = .returned (rty ret z) ∧ Q z X ∧ RX X ∧ (match ret with | some .long => inL z | _ => inR z) ∧ va_P w.2.1 vwCl (wsX w X) t.heap) ∧ va_F (wA w) st t
/-- a method meets: from X with these arguments it returns, and Q -/
def MS (w : WD) (i : MI) (args : List V) (X : XS) (Q : Int → XS → Prop) : Prop :=
  (∀ v ∈ args, vok v) → RX X → Met w.1 i.1 (.code i.1 i.2.1 i.2.2.1 i.2.2.2.1 :: TB) (rmd i.2.2.2.2.1) (va_Pc (args.map (vc w)) (fun U => KK w U U.heap ∧ va_P w.2.1 vwCl (wsX w X) U.heap)) (QcO w i.2.2.2.1 Q) 0 0 (wA w)
def MC (w : WD) (C : CX) (p : Program) (s : State) (m : MethodId) (args : Array Value) (meth : Method) (c : Code) : Prop :=
  p.tables.exec = Jvm.exec ∧ c.code = C.1.2.1 ∧ c.maxLocals = C.1.2.2.1 ∧ meth.sig.returnType = C.1.2.2.2.1 ∧ meth.locks = false ∧ s.vm.findClass C.1.1.cls = some m.cls ∧ (∀ x ∈ TB, x.before args s = true) ∧ KK w s s.heap
def Go (w : WD) (C : CX) (pc : Nat) (lo : List (Option V)) (st : List V) (X : XS) (Q : Int → XS → Prop) : Prop :=
  (∀ v ∈ st, vok v) → (∀ v, some v ∈ lo → vok v) → RX X → ∀ (p : Program) (e : Env) (s : State) (m : MethodId) (args : Array Value) (below : List Frame) (meth : Method) (c : Code) (H : Heap) (locs : List Loc) (ls : Array Slot),
    MC w C p s m args meth c → va_P w.2.1 vwCl (wsX w X) H → va_S (wA w) s.heap H locs → lv_has ls C.1.2.2.1 (lol w 0 lo) →
    W p w.1 e (rmd C.1.2.2.2.2.1) s m args below meth c H locs 0 0 (MQ below (QcO w C.1.2.2.2.1 Q) args s 0 0 (wA w)) (F0 m pc ls (st.map (vc w)))
/-! the static facts -/
def FldOk (own : String) (e : Nat × Nat × Nat) : Prop := ∃ (C : String) (T : u_T) (N : Nat), vwCl[e.2.1]? = some (C, T, N) ∧ e.2.2 < N ∧
  (Cond.fieldLink own e.1 (T e.2.2).1 (T e.2.2).2.1 (T e.2.2).2.2.1 ∈ TB ∨ ∃ host, Cond.fieldLinkNest own e.1 (T e.2.2).1 (T e.2.2).2.1 (T e.2.2).2.2.1 host ∈ NWl)
def MiOk (i : MI) : Prop := Cond.code i.1 i.2.1 i.2.2.1 i.2.2.2.1 ∈ TB ∧ Cond.initialized i.1.cls ∈ TB ∧
  ((i.1.cls ≠ "java/lang/invoke/MethodHandle" ∧ i.1.cls ≠ "java/lang/invoke/VarHandle") ∧ plainName i.1.cls = true ∧ (parseMethodDescriptor i.1.desc).map (fun d => d.parameters.length) = some i.2.2.2.2.2.1 ∧ i.2.2.1 ≤ 21) ∧
  (match i.2.2.2.2.2.2 with | true => Cond.static i.1 ∈ TB ∧ True | false => Cond.instanceMethod i.1 ∈ TB ∧ Cond.selects i.1.cls i.1 i.1 ∈ TB)
def LnkOk (own : String) (e : Nat × MI) : Prop := (Cond.methodLink own e.1 e.2.1 ∈ TB ∨ ∃ host, Cond.methodLinkNest own e.1 e.2.1 host ∈ NWl) ∧ MiOk e.2
def ilen (i : Instr) : Nat := match i with
  | .bipush _ | .iload _ | .lload _ | .aload _ | .istore _ | .lstore _ | .astore _ => 2
  | .sipush _ | .ldc_w _ | .ldc2_w _ | .iinc _ _ | .ifCond _ _ | .if_icmp _ _ | .goto _ | .ifnonnull _ | .getfield _ | .putfield _ | .getstatic _ | .invokevirtual _ | .invokestatic _ => 3
  | _ => 1
def nonneg (pc : Nat) (off : Int) : Bool := decide (0 ≤ (pc : Int) + off)
def insOk (pc : Nat) (i : Instr) (n : Nat) : Bool := match i with
  | .iconst z => Nat.beq n 1 && (decide (-128 ≤ z) && decide (z < 128))
  | .bipush z => Nat.beq n 2 && (decide (-128 ≤ z) && decide (z < 128))
  | .sipush z => Nat.beq n 3 && (decide (-32768 ≤ z) && decide (z < 32768))
  | .ifCond _ o => Nat.beq n 3 && nonneg pc o
  | .if_icmp _ o => Nat.beq n 3 && nonneg pc o
  | .goto o => Nat.beq n 3 && nonneg pc o
  | .ifnonnull o => Nat.beq n 3 && nonneg pc o
  | .tableswitch d lo hi offs => nonneg pc d && offs.toList.all (nonneg pc) && decide (hi = lo + (offs.toList.length : Int) - 1)
  | .lookupswitch d ps => nonneg pc d && ps.toList.all (fun q => nonneg pc q.2) && (ps.toList.zip (ps.toList.drop 1)).all (fun (a, next) => a.1 < next.1)
  | i => Nat.beq n (ilen i)
def dec (cc : ByteArray) : Nat → List (Instr × Nat) → Bool
  | _, [] => true
  | pc, q :: t => (match decode cc pc with | .ok x => decide (x = q) | .error _ => false) && insOk pc q.1 q.2 && dec cc (pc + q.2) t
def CXok (C : CX) : Prop := dec C.1.2.1 0 C.2.1 = true ∧ MiOk C.1 ∧ (∀ e ∈ C.2.2.1, FldOk C.1.1.cls e) ∧ (∀ e ∈ C.2.2.2.1, LnkOk C.1.1.cls e) ∧
  (∀ e ∈ C.2.2.2.2.1, (Cond.constant C.1.1.cls e.1 (Int32.ofInt e.2) ∈ TB ∧ inR e.2) ∨ (Cond.constantLong C.1.1.cls e.1 (Int64.ofInt e.2) ∈ TB ∧ inL e.2)) ∧
  (∀ e ∈ C.2.2.2.2.2.1, (e.2 = 0 ∧ Cond.methodLink C.1.1.cls e.1 arraycopyName ∈ TB ∧ Cond.native arraycopyName ∈ TB ∧ Cond.static arraycopyName ∈ TB ∧ Cond.initialized "java/lang/System" ∈ TB)
    ∨ (e.2 = 1 ∧ Cond.methodLink C.1.1.cls e.1 Lib.Math.max.name ∈ TB ∧ Cond.static Lib.Math.max.name ∈ TB ∧ Cond.initialized "java/lang/Math" ∈ TB ∧ Cond.code Lib.Math.max.name Lib.Math.max.code 2 (some .int) ∈ TB)
    ∨ (e.2 = 2 ∧ Cond.methodLink C.1.1.cls e.1 Lib.Math.min.name ∈ TB ∧ Cond.static Lib.Math.min.name ∈ TB ∧ Cond.initialized "java/lang/Math" ∈ TB ∧ Cond.code Lib.Math.min.name Lib.Math.min.code 2 (some .int) ∈ TB)
    ∨ (e.2 = 3 ∧ Cond.methodLink C.1.1.cls e.1 Lib.Math.abs.name ∈ TB ∧ Cond.static Lib.Math.abs.name ∈ TB ∧ Cond.initialized "java/lang/Math" ∈ TB ∧ Cond.code Lib.Math.abs.name Lib.Math.abs.code 1 (some .int) ∈ TB)) ∧
  (∀ e ∈ C.2.2.2.2.2.2, ∃ host, Cond.fieldLinkNest C.1.1.cls e "ToothField" "LETTERS" "[I" host ∈ NWl)
/-! the abstract machine: one instruction, goal first -/
def pI (st : List V) (F : Int → List V → Prop) : Prop := match st with | .inl a :: t => F a t | _ => False
def pII (st : List V) (F : Int → Int → List V → Prop) : Prop := match st with | .inl b :: .inl a :: t => F a b t | _ => False
def pL (st : List V) (F : Int → List V → Prop) : Prop := match st with | .inr (.inl a) :: t => F a t | _ => False
def pLL (st : List V) (F : Int → Int → List V → Prop) : Prop := match st with | .inr (.inl b) :: .inr (.inl a) :: t => F a b t | _ => False
def pR (st : List V) (F : Nat → Nat → List V → Prop) : Prop := match st with | .inr (.inr (c, i)) :: t => F c i t | _ => False
def pIR (st : List V) (F : Int → Nat → Nat → List V → Prop) : Prop := match st with | .inl z :: .inr (.inr (c, i)) :: t => F z c i t | _ => False
def pIIR (st : List V) (F : Int → Int → Nat → Nat → List V → Prop) : Prop := match st with | .inl y :: .inl z :: .inr (.inr (c, i)) :: t => F y z c i t | _ => False
def pRR (st : List V) (F : Nat → Nat → Nat → Nat → List V → Prop) : Prop := match st with | .inr (.inr (c', i')) :: .inr (.inr (c, i)) :: t => F c' i' c i t | _ => False
def gI (lo : List (Option V)) (k : Nat) (F : Int → Prop) : Prop := match lo[k]? with | some (some (.inl z)) => F z | _ => False
def gL (lo : List (Option V)) (k : Nat) (F : Int → Prop) : Prop := match lo[k]? with | some (some (.inr (.inl z))) => F z | _ => False
def gR (lo : List (Option V)) (k : Nat) (F : Nat → Nat → Prop) : Prop := match lo[k]? with | some (some (.inr (.inr (c, i)))) => F c i | _ => False
def clr (lo : List (Option V)) (i : Nat) : List (Option V) := match i with
  | 0 => lo
  | i + 1 => match lo[i]? with | some (some (.inr (.inl _))) => lo.set i none | _ => lo
def sto1 (lo : List (Option V)) (i : Nat) (v : V) : List (Option V) := (clr lo i).set i (some v)
def sto2 (lo : List (Option V)) (i : Nat) (v : V) : List (Option V) := ((clr lo i).set i (some v)).set (i + 1) none
def tgt (pc : Nat) (off : Int) : Nat := ((pc : Int) + off).toNat
def fnd {α : Type} (l : List (Nat × α)) (k : Nat) : Option α := match l with
  | [] => none
  | q :: t => bif Nat.beq q.1 k then some q.2 else fnd t k
def isA (c : Nat) : Bool := Nat.ble 100 c || Nat.beq c 8
def cat (v : V) : Nat := match v with | .inr (.inl _) => 2 | _ => 1
def cats (st : List V) : Nat := match st with | [] => 0 | v :: t => cat v + cats t
def ia (a b : Int) : Int := (Int32.ofInt a &&& Int32.ofInt b).toInt
def io (a b : Int) : Int := (Int32.ofInt a ||| Int32.ofInt b).toInt
def ix (a b : Int) : Int := (Int32.ofInt a ^^^ Int32.ofInt b).toInt
def iu (a b : Int) : Int := (((Int32.ofInt a).toUInt32 >>> ((Int32.ofInt b).toUInt32 &&& Int32.toUInt32 31)).toInt32).toInt
def nb (a : Int) : Int := (a + 128) % 256 - 128
def ns (a : Int) : Int := (a + 32768) % 65536 - 32768
/-- System.arraycopy on one world -/
def cpy (h : Nat → Nat → Int) (i sp j dp n : Nat) : Nat → Nat → Int := fun q => if q = j then (fun k => if dp ≤ k ∧ k < dp + n then h i (sp + (k - dp)) else h j k) else h q
def popN : Nat → List V → Option (List V × List V)
  | 0, st => some ([], st)
  | n + 1, v :: st => match popN n st with | some (as, r) => some (as ++ [v], r) | none => none
  | _ + 1, [] => none
def swT (G : Nat → Prop) (pc : Nat) (x : Int) : Int → List Int → Prop
  | _, [] => True
  | k, o :: t => (x = k → G (tgt pc o)) ∧ swT G pc x (k + 1) t
def swL (G : Nat → Prop) (pc : Nat) (x : Int) (d : Int) : List (Int × Int) → Prop
  | [] => G (tgt pc d)
  | o :: t => (x = o.1 → G (tgt pc o.2)) ∧ (x ≠ o.1 → swL G pc x d t)
def ret1 (rt : Option FieldType) (z : Int) : Prop := match rt with
  | some .int => True
  | some .boolean => z = 0 ∨ z = 1
  | _ => False
def callX (w : WD) (C : CX) (pc : Nat) (lo : List (Option V)) (st : List V) (X : XS) (Q : Int → XS → Prop) (i : MI) (n : Nat) : Prop :=
  match popN n st with
  | some (as, r) => (bif Nat.blt i.2.2.2.2.1 C.1.2.2.2.2.1 && Nat.ble (cats r) 8 then True else False) ∧ ∃ Qr : Int → XS → Prop, MS w i as X Qr ∧ ∀ z X', Qr z X' → Go w C (pc + 3) lo (match i.2.2.2.1 with | none => r | some .long => .inr (.inl z) :: r | some _ => .inl z :: r) X' Q
  | none => False
def ex1 (w : WD) (C : CX) (i : Instr) (n pc : Nat) (lo : List (Option V)) (st : List V) (X : XS) (Q : Int → XS → Prop) (K : List (Option V) → List V → XS → Prop) : Prop :=
  match i with
  | .iconst z => K lo (.inl z :: st) X
  | .bipush z => K lo (.inl z :: st) X
  | .sipush z => K lo (.inl z :: st) X
  | .lconst z => K lo (.inr (.inl (z.val : Int)) :: st) X
  | .ldc_w k => match fnd C.2.2.2.2.1 k with | some z => inR z ∧ K lo (.inl z :: st) X | none => False
  | .ldc2_w k => match fnd C.2.2.2.2.1 k with | some z => K lo (.inr (.inl z) :: st) X | none => False
  | .iload k => gI lo k (fun z => K lo (.inl z :: st) X)
  | .iload_n k => gI lo k (fun z => K lo (.inl z :: st) X)
  | .lload k => gL lo k (fun z => K lo (.inr (.inl z) :: st) X)
  | .lload_n k => gL lo k (fun z => K lo (.inr (.inl z) :: st) X)
  | .aload k => gR lo k (fun c i => K lo (.inr (.inr (c, i)) :: st) X)
  | .aload_n k => gR lo k (fun c i => K lo (.inr (.inr (c, i)) :: st) X)
  | .istore k => pI st (fun z t => (bif Nat.blt k C.1.2.2.1 then K (sto1 lo k (.inl z)) t X else False))
  | .istore_n k => pI st (fun z t => (bif Nat.blt k C.1.2.2.1 then K (sto1 lo k (.inl z)) t X else False))
  | .lstore k => pL st (fun z t => (bif Nat.blt (k + 1) C.1.2.2.1 then K (sto2 lo k (.inr (.inl z))) t X else False))
  | .lstore_n k => pL st (fun z t => (bif Nat.blt (k + 1) C.1.2.2.1 then K (sto2 lo k (.inr (.inl z))) t X else False))
  | .astore k => pR st (fun c i t => (bif Nat.blt k C.1.2.2.1 then K (sto1 lo k (.inr (.inr (c, i)))) t X else False))
  | .astore_n k => pR st (fun c i t => (bif Nat.blt k C.1.2.2.1 then K (sto1 lo k (.inr (.inr (c, i)))) t X else False))
  | .iinc k d => gI lo k (fun z => (bif Nat.blt k C.1.2.2.1 then K (sto1 lo k (.inl (wr (z + d)))) st X else False))
  | .iadd => pII st (fun a b t => K lo (.inl (wr (a + b)) :: t) X)
  | .isub => pII st (fun a b t => K lo (.inl (wr (a - b)) :: t) X)
  | .imul => pII st (fun a b t => K lo (.inl (wr (a * b)) :: t) X)
  | .idiv => pII st (fun a b t => 0 ≤ a ∧ 0 < b ∧ K lo (.inl (a / b) :: t) X)
  | .irem => pII st (fun a b t => 0 ≤ a ∧ 0 < b ∧ K lo (.inl (a % b) :: t) X)
  | .ineg => pI st (fun a t => K lo (.inl (wr (-a)) :: t) X)
  | .iand => pII st (fun a b t => K lo (.inl (ia a b) :: t) X)
  | .ior => pII st (fun a b t => K lo (.inl (io a b) :: t) X)
  | .ixor => pII st (fun a b t => K lo (.inl (ix a b) :: t) X)
  | .ishl => pII st (fun a b t => 0 ≤ b ∧ b < 32 ∧ K lo (.inl (wr (a * 2 ^ b.toNat)) :: t) X)
  | .ishr => pII st (fun a b t => 0 ≤ b ∧ b < 32 ∧ K lo (.inl (a / 2 ^ b.toNat) :: t) X)
  | .iushr => pII st (fun a b t => K lo (.inl (iu a b) :: t) X)
  | .i2l => pI st (fun a t => K lo (.inr (.inl a) :: t) X)
  | .i2b => pI st (fun a t => K lo (.inl (nb a) :: t) X)
  | .i2s => pI st (fun a t => K lo (.inl (ns a) :: t) X)
  | .lcmp => pLL st (fun a b t => K lo (.inl (if a < b then -1 else if a = b then 0 else 1) :: t) X)
  | .ldiv => pLL st (fun a b t => 0 ≤ a ∧ 0 < b ∧ K lo (.inr (.inl (a / b)) :: t) X)
  | .lrem => pLL st (fun a b t => 0 ≤ a ∧ 0 < b ∧ K lo (.inr (.inl (a % b)) :: t) X)
  | .lshl => match st with | .inl b :: .inr (.inl a) :: t => 0 ≤ b ∧ b < 31 ∧ a = 1 ∧ K lo (.inr (.inl (2 ^ b.toNat)) :: t) X | _ => False
  | .dup => match st with | v :: t => (bif Nat.beq (cat v) 1 then K lo (v :: v :: t) X else False) | _ => False
  | .dup2 => match st with | v :: u :: t => (bif Nat.beq (cat v) 1 && Nat.beq (cat u) 1 then K lo (v :: u :: v :: u :: t) X else False) | _ => False
  | .pop => match st with | v :: t => (bif Nat.beq (cat v) 1 then K lo t X else False) | _ => False
  | .getfield k => match fnd C.2.2.1 k with
    | some (c, f) => pR st (fun c' i t => bif Nat.beq c' c then (match ft c f with
      | (2, off, tc) => K lo (.inr (.inr (tc, i + off)) :: t) X
      | (3, j, tc) => X.2 j ≠ 0 ∧ K lo (.inr (.inr (tc, X.2 j)) :: t) X
      | (0, _, _) => K lo (.inl (X.1 i f) :: t) X
      | (1, _, _) => K lo (.inl (X.1 i f) :: t) X
      | _ => False) else False)
    | none => False
  | .putfield k => match fnd C.2.2.1 k with
    | some (c, f) => (match ft c f with
      | (0, _, _) => pIR st (fun z c' i t => bif Nat.beq c' c then K lo t (up X.1 i f z, X.2) else False)
      | (1, _, _) => pIR st (fun z c' i t => bif Nat.beq c' c then (z = 0 ∨ z = 1) ∧ K lo t (up X.1 i f z, X.2) else False)
      | (3, j, tc) => pRR st (fun c2 i2 c' _ t => bif Nat.beq c' c && Nat.beq c2 tc then K lo t (X.1, upr X.2 j i2) else False)
      | _ => False)
    | none => False
  | .iaload => pIR st (fun z c i t => bif isA c then (0 ≤ z ∧ z < (ln c i : Int) ∧ K lo (.inl (X.1 i z.toNat) :: t) X) else (bif Nat.beq c 70 then (0 ≤ z ∧ z < 3 ∧ K lo (.inl (if z = 0 then 109 else if z = 1 then 108 else 97) :: t) X) else False))
  | .baload => pIR st (fun z c i t => bif Nat.beq c 9 then (0 ≤ z ∧ z < (len i : Int) ∧ K lo (.inl (X.1 i z.toNat) :: t) X) else False)
  | .iastore => pIIR st (fun y z c i t => bif isA c then (0 ≤ z ∧ z < (ln c i : Int) ∧ K lo t (up X.1 i z.toNat y, X.2)) else False)
  | .bastore => pIIR st (fun y z c i t => bif Nat.beq c 9 then (0 ≤ z ∧ z < (len i : Int) ∧ (y = 0 ∨ y = 1) ∧ K lo t (up X.1 i z.toNat y, X.2)) else False)
  | .aaload => pIR st (fun z c i t => bif Nat.beq c 10 && Nat.beq i 2 then (0 ≤ z ∧ z < 4 ∧ K lo (.inr (.inr (3, 3 + 2 * z.toNat)) :: t) X) else False)
  | .arraylength => pR st (fun c i t => bif isA c then K lo (.inl (ln c i : Int) :: t) X else False)
  | .goto off => Go w C (tgt pc off) lo st X Q
  | .ifCond .eq off => pI st (fun a t => (a = 0 → Go w C (tgt pc off) lo t X Q) ∧ (a ≠ 0 → K lo t X))
  | .ifCond .ne off => pI st (fun a t => (a ≠ 0 → Go w C (tgt pc off) lo t X Q) ∧ (a = 0 → K lo t X))
  | .ifCond .lt off => pI st (fun a t => (a < 0 → Go w C (tgt pc off) lo t X Q) ∧ (0 ≤ a → K lo t X))
  | .ifCond .ge off => pI st (fun a t => (0 ≤ a → Go w C (tgt pc off) lo t X Q) ∧ (a < 0 → K lo t X))
  | .ifCond .gt off => pI st (fun a t => (0 < a → Go w C (tgt pc off) lo t X Q) ∧ (a ≤ 0 → K lo t X))
  | .ifCond .le off => pI st (fun a t => (a ≤ 0 → Go w C (tgt pc off) lo t X Q) ∧ (0 < a → K lo t X))
  | .if_icmp .eq off => pII st (fun a b t => (a = b → Go w C (tgt pc off) lo t X Q) ∧ (a ≠ b → K lo t X))
  | .if_icmp .ne off => pII st (fun a b t => (a ≠ b → Go w C (tgt pc off) lo t X Q) ∧ (a = b → K lo t X))
  | .if_icmp .lt off => pII st (fun a b t => (a < b → Go w C (tgt pc off) lo t X Q) ∧ (b ≤ a → K lo t X))
  | .if_icmp .ge off => pII st (fun a b t => (b ≤ a → Go w C (tgt pc off) lo t X Q) ∧ (a < b → K lo t X))
  | .if_icmp .gt off => pII st (fun a b t => (b < a → Go w C (tgt pc off) lo t X Q) ∧ (a ≤ b → K lo t X))
  | .if_icmp .le off => pII st (fun a b t => (a ≤ b → Go w C (tgt pc off) lo t X Q) ∧ (b < a → K lo t X))
  | .ifnonnull off => pR st (fun _ _ t => Go w C (tgt pc off) lo t X Q)
  | .tableswitch d lo' hi offs => pI st (fun x t => swT (fun q => Go w C q lo t X Q) pc x lo' offs.toList ∧ ((x < lo' ∨ hi < x) → Go w C (tgt pc d) lo t X Q))
  | .lookupswitch d ps => pI st (fun x t => swL (fun q => Go w C q lo t X Q) pc x d ps.toList)
  | .getstatic k => bif C.2.2.2.2.2.2.contains k then K lo (.inr (.inr (70, 0)) :: st) X else False
  | .invokevirtual k => match fnd C.2.2.2.1 k with
    | some i => bif i.2.2.2.2.2.2 then False else callX w C pc lo st X Q i (i.2.2.2.2.2.1 + 1)
    | none => False
  | .invokestatic k => match fnd C.2.2.2.2.2.1 k with
    | some 0 => (match st with
      | .inl n :: .inl dp :: .inr (.inr (c2, i2)) :: .inl sp :: .inr (.inr (c1, i1)) :: t => (bif isA c1 && isA c2 && Nat.ble (cats t) 8 && Nat.ble 1 C.1.2.2.2.2.1 then True else False) ∧ 0 ≤ sp ∧ 0 ≤ dp ∧ 0 ≤ n ∧ sp + n ≤ (ln c1 i1 : Int) ∧ dp + n ≤ (ln c2 i2 : Int) ∧ K lo t (cpy X.1 i1 sp.toNat i2 dp.toNat n.toNat, X.2)
      | _ => False)
    | some 1 => pII st (fun a b t => bif Nat.ble (cats t) 8 && Nat.ble 1 C.1.2.2.2.2.1 then K lo (.inl (max a b) :: t) X else False)
    | some 2 => pII st (fun a b t => bif Nat.ble (cats t) 8 && Nat.ble 1 C.1.2.2.2.2.1 then K lo (.inl (min a b) :: t) X else False)
    | some 3 => pI st (fun a t => bif Nat.ble (cats t) 8 && Nat.ble 1 C.1.2.2.2.2.1 then K lo (.inl (if 0 ≤ a then a else wr (0 - a)) :: t) X else False)
    | some _ => False
    | none => (match fnd C.2.2.2.1 k with
      | some i => bif i.2.2.2.2.2.2 then callX w C pc lo st X Q i i.2.2.2.2.2.1 else False
      | none => False)
  | .ireturn => match st with | [.inl z] => ret1 C.1.2.2.2.1 z ∧ Q z X | _ => False
  | .lreturn => match st with | [.inr (.inl z)] => (match C.1.2.2.2.1 with | some .long => Q z X | _ => False) | _ => False
  | .return_ => match st with | [] => (match C.1.2.2.2.1 with | none => Q 0 X | _ => False) | _ => False
  | _ => False
def ex (w : WD) (C : CX) : List (Instr × Nat) → Nat → List (Option V) → List V → XS → (Int → XS → Prop) → Prop
  | [], pc, lo, st, X, Q => Go w C pc lo st X Q
  | q :: t, pc, lo, st, X, Q => ex1 w C q.1 q.2 pc lo st X Q (fun lo' st' X' => ex w C t (pc + q.2) lo' st' X' Q)
def suf : Nat → List (Instr × Nat) → List (Instr × Nat)
  | _, [] => []
  | pc, q :: t => bif Nat.beq pc 0 then q :: t else (bif Nat.ble q.2 pc then suf (pc - q.2) t else [])
end
section
/-! ===== numbers of 32 and 64 bits as integers ===== -/
theorem oi_t {z : Int} (h : inR z) : (Int32.ofInt z).toInt = z := Int32.toInt_ofInt_of_le h.1 h.2
theorem oi_tL {z : Int} (h : inL z) : (Int64.ofInt z).toInt = z := Int64.toInt_ofInt_of_le h.1 h.2
theorem oi_eq {x : Int32} {z : Int} (h : x.toInt = z) : x = Int32.ofInt z := by subst h; exact (Int32.ofInt_toInt x).symm
theorem oi_eqL {x : Int64} {z : Int} (h : x.toInt = z) : x = Int64.ofInt z := by subst h; exact (Int64.ofInt_toInt x).symm
theorem oi_inR (x : Int32) : inR x.toInt := ⟨Int32.le_toInt x, Int32.toInt_lt x⟩
theorem oi_inL (x : Int64) : inL x.toInt := ⟨Int64.le_toInt x, Int64.toInt_lt x⟩
theorem oi_wr (z : Int) : Int32.ofInt (wr z) = Int32.ofInt z := by
  apply Int32.toInt_inj.mp
  rw [Int32.toInt_ofInt, Int32.toInt_ofInt]
  unfold wr
  simp only [Int.bmod, Int32.size]
  omega
theorem oi_add (a b : Int) : Int32.ofInt a + Int32.ofInt b = Int32.ofInt (wr (a + b)) := by rw [oi_wr, Int32.ofInt_add]
theorem oi_sub (a b : Int) : Int32.ofInt a - Int32.ofInt b = Int32.ofInt (wr (a - b)) := by rw [oi_wr, Int32.ofInt_sub]
theorem oi_mul (a b : Int) : Int32.ofInt a * Int32.ofInt b = Int32.ofInt (wr (a * b)) := by rw [oi_wr, Int32.ofInt_mul]
theorem oi_neg (a : Int) : -Int32.ofInt a = Int32.ofInt (wr (-a)) := by rw [oi_wr, Int32.ofInt_neg]
theorem oi_nat (n : Nat) : Int32.ofInt (n : Int) = nI n := by unfold nI; exact Int32.ofInt_eq_ofNat
theorem oi_natL (n : Nat) : Int64.ofInt (n : Int) = lN n := by unfold lN; exact Int64.ofInt_eq_ofNat
theorem oi_div {a b : Int} (ha : inR a) (hb : inR b) (h0 : 0 ≤ a) (h1 : 0 < b) : Int32.ofInt a / Int32.ofInt b = Int32.ofInt (a / b) ∧ Int32.ofInt a - Int32.ofInt a / Int32.ofInt b * Int32.ofInt b = Int32.ofInt (a % b) := by
  obtain ⟨x, rfl⟩ := Int.eq_ofNat_of_zero_le h0
  obtain ⟨y, rfl⟩ := Int.eq_ofNat_of_zero_le (Int.le_of_lt h1)
  obtain ⟨_, ha⟩ := ha
  obtain ⟨_, hb⟩ := hb
  rw [oi_nat, oi_nat, pk_rem (by omega) (by omega) (by omega), pk_div (by omega) (by omega) (by omega), ← Int.natCast_ediv, ← Int.natCast_emod, oi_nat, oi_nat]
  exact ⟨rfl, rfl⟩
theorem oi_divL {a b : Int} (ha : inL a) (hb : inL b) (h0 : 0 ≤ a) (h1 : 0 < b) : Int64.ofInt a / Int64.ofInt b = Int64.ofInt (a / b) ∧ Int64.ofInt a - Int64.ofInt a / Int64.ofInt b * Int64.ofInt b = Int64.ofInt (a % b) := by
  obtain ⟨x, rfl⟩ := Int.eq_ofNat_of_zero_le h0
  obtain ⟨y, rfl⟩ := Int.eq_ofNat_of_zero_le (Int.le_of_lt h1)
  obtain ⟨_, ha⟩ := ha
  obtain ⟨_, hb⟩ := hb
  rw [oi_natL, oi_natL, pk_lRem (by omega) (by omega) (by omega), pk_lDiv (by omega) (by omega) (by omega), ← Int.natCast_ediv, ← Int.natCast_emod, oi_natL, oi_natL]
  exact ⟨rfl, rfl⟩
theorem oi_31 : ∀ k : Nat, k < 32 → ((Int32.ofInt (k : Int) &&& 31).toBitVec.smod 32).toNat = k := by decide +kernel
theorem oi_shl {a b : Int} (h0 : 0 ≤ b) (h1 : b < 32) : Int32.ofInt a <<< (Int32.ofInt b &&& 31) = Int32.ofInt (wr (a * 2 ^ b.toNat)) := by
  obtain ⟨k, rfl⟩ := Int.eq_ofNat_of_zero_le h0
  have e := pk_shl (Int32.ofInt a) (Int32.ofInt (k : Int) &&& 31) k (oi_31 k (by omega))
  have e2 : (Int32.ofInt (wr (a * 2 ^ k))) = Int32.ofInt a * Int32.ofInt (2 ^ k) := by rw [oi_mul]
  rw [Int.toNat_natCast, e2]
  apply Int32.toBitVec_inj.mp
  apply BitVec.eq_of_toNat_eq
  rw [e, Int32.toBitVec_mul, BitVec.toNat_mul]
  have e3 : (Int32.ofInt ((2 : Int) ^ k)).toBitVec.toNat = 2 ^ k := by
    have h2 : k < 32 := by omega
    have : ∀ k : Nat, k < 32 → (Int32.ofInt ((2 : Int) ^ k)).toBitVec.toNat = 2 ^ k := by decide +kernel
    exact this k h2
  rw [e3]
theorem oi_shr {a b : Int} (ha : inR a) (h0 : 0 ≤ b) (h1 : b < 32) : Int32.ofInt a >>> (Int32.ofInt b &&& 31) = Int32.ofInt (a / 2 ^ b.toNat) ∧ inR (a / 2 ^ b.toNat) := by
  obtain ⟨k, rfl⟩ := Int.eq_ofNat_of_zero_le h0
  have e := pk_shr (Int32.ofInt a) (Int32.ofInt (k : Int) &&& 31) k (oi_31 k (by omega))
  rw [oi_t ha, Int.shiftRight_eq_div_pow] at e
  have e2 : (((2 : Nat) ^ k : Nat) : Int) = (2 : Int) ^ k := by simp
  rw [e2] at e
  rw [Int.toNat_natCast]
  exact ⟨oi_eq e, e ▸ oi_inR _⟩
theorem oi_i2l {a : Int} (ha : inR a) : (Int32.ofInt a).toInt64 = Int64.ofInt a := oi_eqL (by rw [Int32.toInt_toInt64, oi_t ha])
theorem oi_i2b (a : Int) : (Int32.ofInt a).toInt8.toInt32 = Int32.ofInt (nb a) := by
  apply oi_eq
  rw [Int8.toInt_toInt32, Int32.toInt_toInt8, Int32.toInt_ofInt]
  unfold nb
  simp only [Int.bmod, Int32.size]
  omega
theorem oi_i2s (a : Int) : (Int32.ofInt a).toInt16.toInt32 = Int32.ofInt (ns a) := by
  apply oi_eq
  rw [Int16.toInt_toInt32, Int32.toInt_toInt16, Int32.toInt_ofInt]
  unfold ns
  simp only [Int.bmod, Int32.size]
  omega
theorem oi_lt {a b : Int} (ha : inR a) (hb : inR b) : Int32.ofInt a < Int32.ofInt b ↔ a < b := by rw [Int32.lt_iff_toInt_lt, oi_t ha, oi_t hb]
theorem oi_le {a b : Int} (ha : inR a) (hb : inR b) : Int32.ofInt a ≤ Int32.ofInt b ↔ a ≤ b := by rw [Int32.le_iff_toInt_le, oi_t ha, oi_t hb]
theorem oi_e {a b : Int} (ha : inR a) (hb : inR b) : Int32.ofInt a = Int32.ofInt b ↔ a = b := by rw [← Int32.toInt_inj, oi_t ha, oi_t hb]
theorem oi_0 : inR 0 := by decide
theorem oi_cmp {a b : Int} (ha : inL a) (hb : inL b) : lg_cmp (Int64.ofInt a) (Int64.ofInt b) = Int32.ofInt (if a < b then -1 else if a = b then 0 else 1) := by
  have h1 : Int64.ofInt a < Int64.ofInt b ↔ a < b := by rw [Int64.lt_iff_toInt_lt, oi_tL ha, oi_tL hb]
  have h2 : Int64.ofInt a = Int64.ofInt b ↔ a = b := by rw [← Int64.toInt_inj, oi_tL ha, oi_tL hb]
  unfold lg_cmp
  have h3 : Int64.ofInt a > Int64.ofInt b ↔ b < a := by rw [gt_iff_lt, Int64.lt_iff_toInt_lt, oi_tL ha, oi_tL hb]
  simp only [h3, h2]
  split
  · rename_i h
    rw [if_neg (by omega), if_neg (by omega)]; rfl
  · split
    · rename_i h h'
      rw [if_neg (by omega)]; rfl
    · rename_i h h'
      rw [if_pos (by omega)]; rfl
theorem oi_lshl {b : Int} (h0 : 0 ≤ b) (h1 : b < 31) : Int64.ofInt 1 <<< ((Int32.ofInt b).toInt64 &&& 63) = Int64.ofInt (2 ^ b.toNat) := by
  obtain ⟨k, rfl⟩ := Int.eq_ofNat_of_zero_le h0
  have : ∀ k : Nat, k < 31 → Int64.ofInt 1 <<< ((Int32.ofInt (k : Int)).toInt64 &&& 63) = Int64.ofInt (2 ^ k) := by decide +kernel
  rw [Int.toNat_natCast]
  exact this k (by omega)
theorem oi_cn {z : Int} (h : inR z) (h0 : 0 ≤ z) : (Int32.ofInt z).toNatClampNeg = z.toNat := by
  obtain ⟨k, rfl⟩ := Int.eq_ofNat_of_zero_le h0
  rw [oi_nat, nI_clamp (by unfold inR at h; omega)]; rfl
theorem oi_vin {z : Int} {n : Nat} (h : inR z) (h0 : 0 ≤ z) (h1 : z < (n : Int)) : vp_in (Int32.ofInt z) n := vp_in_iff.mpr (by rw [oi_t h]; exact ⟨h0, h1⟩)
theorem ia_in (a b : Int) : inR (ia a b) := oi_inR _
theorem io_in (a b : Int) : inR (io a b) := oi_inR _
theorem ix_in (a b : Int) : inR (ix a b) := oi_inR _
theorem iu_in (a b : Int) : inR (iu a b) := oi_inR _
theorem oi_ia (a b : Int) : Int32.ofInt a &&& Int32.ofInt b = Int32.ofInt (ia a b) := oi_eq rfl
theorem oi_io (a b : Int) : Int32.ofInt a ||| Int32.ofInt b = Int32.ofInt (io a b) := oi_eq rfl
theorem oi_ix (a b : Int) : Int32.ofInt a ^^^ Int32.ofInt b = Int32.ofInt (ix a b) := oi_eq rfl
theorem oi_iu (a b : Int) : ((Int32.ofInt a).toUInt32 >>> ((Int32.ofInt b).toUInt32 &&& Int32.toUInt32 31)).toInt32 = Int32.ofInt (iu a b) := oi_eq rfl
theorem nb_in (a : Int) : inR (nb a) := by unfold inR nb; omega
theorem ns_in (a : Int) : inR (ns a) := by unfold inR ns; omega
end
section
/-! ===== the world as a list of cells ===== -/
theorem wsX_get (w : WD) (X : XS) {i : Nat} (h1 : 1 ≤ i) (h2 : i ≤ NN) : (wsX w X)[i - 1]? = some (wAd w i, ent w X i) := by
  unfold wsX
  rw [List.getElem?_map, List.getElem?_range (by omega)]
  simp only [Option.map_some]
  rw [show i - 1 + 1 = i by omega]
theorem wsX_len (w : WD) (X : XS) : (wsX w X).length = NN := by unfold wsX; simp
theorem wsX_set (w : WD) (X X' : XS) {i : Nat} {e : va_E} (h1 : 1 ≤ i) (h2 : i ≤ NN) (he : ent w X' i = e) (ho : ∀ j, 1 ≤ j → j ≤ NN → j ≠ i → ent w X' j = ent w X j) : (wsX w X).set (i - 1) (wAd w i, e) = wsX w X' := by
  apply List.ext_getElem?
  intro q
  by_cases hq : q < NN
  · have g1 := wsX_get w X (i := q + 1) (by omega) (by omega)
    have g2 := wsX_get w X' (i := q + 1) (by omega) (by omega)
    rw [Nat.add_sub_cancel] at g1 g2
    rw [g2, List.getElem?_set]
    by_cases hqi : i - 1 = q
    · rw [if_pos hqi, if_pos (by rw [wsX_len]; omega)]
      have : i = q + 1 := by omega
      subst this
      rw [he]
    · rw [if_neg hqi, g1, ho (q + 1) (by omega) (by omega) (by omega)]
  · rw [List.getElem?_eq_none (by rw [List.length_set, wsX_len]; omega), List.getElem?_eq_none (by rw [wsX_len]; omega)]
theorem wsX_D {w : WD} (X : XS) (h : ∀ i j, 1 ≤ i → i ≤ NN → 1 ≤ j → j ≤ NN → wAd w i = wAd w j → i = j) : va_D (wA w) (wsX w X) := by
  have at' : ∀ (k : Nat) (q : Nat × va_E), (wsX w X)[k]? = some q → k < NN ∧ q.1 = wAd w (k + 1) := by
    intro k q hk
    have hl : k < NN := by
      have := (List.getElem?_eq_some_iff.mp hk).1
      rwa [wsX_len] at this
    have g := wsX_get w X (i := k + 1) (by omega) (by omega)
    rw [Nat.add_sub_cancel, hk] at g
    exact ⟨hl, by rw [Option.some.inj g]⟩
  refine ⟨fun i j p q hi hj e => ?_, fun k q hk => ?_⟩
  · obtain ⟨a1, a2⟩ := at' i p hi
    obtain ⟨b1, b2⟩ := at' j q hj
    have := h (i + 1) (j + 1) (by omega) (by omega) (by omega) (by omega) (by rw [← a2, ← b2]; exact e)
    omega
  · obtain ⟨a1, a2⟩ := at' k q hk
    exact ⟨k + 1, by omega, by omega, a2.symm⟩
/-! checks of the tables -/
def ownr (j : Nat) : Nat × Nat := if j = 0 then (1, 6) else if j = 1 then (1, 7) else if j = 2 then (11, 0) else (12, 4)
def tokb (c i : Nat) : Bool := Nat.ble 1 i && Nat.ble i NN && (bif Nat.ble 100 c then Nat.beq (cls i) 8 && Nat.beq (len i) (c - 100) else Nat.beq (cls i) c)
def chk1 (i k : Nat) : Bool := match ft (cls i) k with
  | (2, off, tc) => tokb tc (i + off)
  | (3, j, tc) => decide ((i, k) = ownr j) && Nat.beq tc (rcl j) && Nat.ble j 3
  | _ => true
theorem chk_ok : ∀ i, i ≤ NN → ∀ k, k < 35 → chk1 i k = true := by decide +kernel
theorem ftl_len : ∀ c, c < 8 → (FTL c).length ≤ 35 := by decide +kernel
theorem ftl_N : ∀ c, c < 8 → (vwCl[c]?).map (fun q => q.2.2) = some (FTL c).length := by decide +kernel
theorem tokb_ok {c i : Nat} (h : tokb c i = true) : tok c i := by
  unfold tokb at h
  simp only [Bool.and_eq_true, Nat.ble_eq] at h
  refine Or.inr ⟨h.1.1, h.1.2, ?_⟩
  have h3 := h.2
  by_cases hc : 100 ≤ c
  · rw [show Nat.ble 100 c = true from Nat.ble_eq.mpr hc] at h3
    simp only [cond_true, Bool.and_eq_true, Nat.beq_eq] at h3
    exact Or.inl ⟨hc, h3.1, h3.2⟩
  · rw [show Nat.ble 100 c = false from by rw [Bool.eq_false_iff]; exact fun q => hc (Nat.ble_eq.mp q)] at h3
    simp only [cond_false, Nat.beq_eq] at h3
    exact Or.inr ⟨by omega, h3⟩
theorem ft_out {c k : Nat} (h : ¬ k < (FTL c).length) : ft c k = (9, 0, 0) := by
  unfold ft
  rw [List.getD_eq_getElem?_getD, List.getElem?_eq_none (by omega)]; rfl
theorem ft_lt {c k : Nat} {q : Nat × Nat × Nat} (h : ft c k = q) (hq : q ≠ (9, 0, 0)) : k < (FTL c).length := by
  by_cases hk : k < (FTL c).length
  · exact hk
  · exact absurd (h.symm.trans (ft_out hk)) hq
theorem fin_ok {i k off tc : Nat} (hi : i ≤ NN) (hc : cls i < 8) (h : ft (cls i) k = (2, off, tc)) : tok tc (i + off) := by
  have hk := ft_lt h (by intro q; cases q)
  have := chk_ok i hi k (Nat.lt_of_lt_of_le hk (ftl_len _ hc))
  unfold chk1 at this
  rw [h] at this
  exact tokb_ok this
theorem mut_ok {i k j tc : Nat} (hi : i ≤ NN) (hc : cls i < 8) (h : ft (cls i) k = (3, j, tc)) : (i, k) = ownr j ∧ tc = rcl j ∧ j ≤ 3 := by
  have hk := ft_lt h (by intro q; cases q)
  have := chk_ok i hi k (Nat.lt_of_lt_of_le hk (ftl_len _ hc))
  unfold chk1 at this
  rw [h] at this
  simp only [Bool.and_eq_true, decide_eq_true_eq, Nat.beq_eq, Nat.ble_eq] at this
  exact ⟨this.1.1, this.1.2, this.2⟩
theorem tok_obj {c i : Nat} (h : tok c i) (hc : c < 8) : 1 ≤ i ∧ i ≤ NN ∧ cls i = c := by
  rcases h with ⟨h, -⟩ | ⟨h1, h2, ⟨h3, -⟩ | ⟨-, h3⟩⟩
  · omega
  · omega
  · exact ⟨h1, h2, h3⟩
theorem tok_arr {c i : Nat} (h : tok c i) (hc : isA c = true) : 1 ≤ i ∧ i ≤ NN ∧ cls i = 8 ∧ len i = ln c i := by
  unfold isA at hc
  rcases h with ⟨h, -⟩ | ⟨h1, h2, ⟨h3, h4, h5⟩ | ⟨h3, h4⟩⟩
  · subst h; cases hc
  · refine ⟨h1, h2, h4, ?_⟩
    unfold ln
    rw [show Nat.ble 100 c = true from Nat.ble_eq.mpr h3]
    exact h5
  · have hb : Nat.ble 100 c = false := by rw [Bool.eq_false_iff]; exact fun q => absurd (Nat.ble_eq.mp q) (by omega)
    rw [hb] at hc
    have h8 : c = 8 := Nat.eq_of_beq_eq_true hc
    subst h8
    refine ⟨h1, h2, h4, ?_⟩
    unfold ln
    rw [hb]; rfl
theorem ent_obj (w : WD) (X : XS) {i c : Nat} (h : cls i = c) (hc : c < 8) : ent w X i = .inr (c, (List.range (FTL c).length).map (fv w X i c)) := by
  subst h
  unfold ent
  rw [if_pos hc]
theorem ent_int (w : WD) (X : XS) {i : Nat} (h : cls i = 8) : ent w X i = .inl (w.2.2.2.1, len i, .inl (fun j => Int32.ofInt (X.1 i j))) := by
  unfold ent
  rw [h, if_neg (by decide), if_pos rfl]
theorem ent_bool (w : WD) (X : XS) {i : Nat} (h : cls i = 9) : ent w X i = .inl (w.2.2.2.2.1, len i, .inl (fun j => Int32.ofInt (X.1 i j))) := by
  unfold ent
  rw [h, if_neg (by decide), if_neg (by decide), if_pos rfl]
theorem ent_sh (w : WD) (X : XS) : ent w X 2 = .inl (w.2.2.2.2.2, 4, .inr (.inr (.inr (.inr (fun j => some (wAd w (shid j))))))) := rfl
theorem flds_get (w : WD) (X : XS) {i c k : Nat} (h : k < (FTL c).length) : ((List.range (FTL c).length).map (fv w X i c))[k]? = some (fv w X i c k) := by
  rw [List.getElem?_map, List.getElem?_range h]; rfl
theorem ent_row (w : WD) (X X' : XS) {i : Nat} (h : X'.1 i = X.1 i) (h2 : X'.2 = X.2) : ent w X' i = ent w X i := by
  have e : fv w X' i (cls i) = fv w X i (cls i) := by
    funext k
    unfold fv
    rw [h2, h]
  unfold ent
  rw [e, h]
theorem up_ne {h : Nat → Nat → Int} {i k j : Nat} {z : Int} (hj : j ≠ i) : up h i k z j = h j := by unfold up; rw [if_neg hj]
theorem up_at (h : Nat → Nat → Int) (i k : Nat) (z : Int) : up h i k z i = fun q => if q = k then z else h i q := by unfold up; rw [if_pos rfl]
/-- a number is put into a field -/
theorem ent_put (w : WD) (X : XS) {i c k : Nat} {z : Int} (h : cls i = c) (hc : c < 8) (hk : (ft c k).1 = 0 ∨ (ft c k).1 = 1) : ent w (up X.1 i k z, X.2) i = .inr (c, ((List.range (FTL c).length).map (fv w X i c)).set k (.int (Int32.ofInt z))) := by
  rw [ent_obj w _ h hc]
  congr 2
  apply List.ext_getElem?
  intro q
  rw [List.getElem?_set]
  by_cases hq : q < (FTL c).length
  · rw [flds_get w _ hq]
    by_cases hqk : k = q
    · subst hqk
      rw [if_pos rfl, if_pos (by simpa using hq)]
      unfold fv
      rcases hft : ft c k with ⟨a, b, d⟩
      rw [hft] at hk
      have ha : a = 0 ∨ a = 1 := hk
      rcases ha with rfl | rfl <;> simp [up]
    · rw [if_neg hqk, flds_get w _ hq]
      unfold fv
      have : (up X.1 i k z i q) = X.1 i q := by rw [up_at]; simp [Ne.symm hqk]
      simp only [this]
  · have hn : ∀ Y, ((List.range (FTL c).length).map (fv w Y i c))[q]? = none := fun Y => List.getElem?_eq_none (by simpa using Nat.not_lt.mp hq)
    rw [hn, hn]
    split
    · rw [if_neg (by rename_i e; subst e; simpa using hq)]
    · rfl
/-- a reference is put into a field -/
theorem ent_putr (w : WD) (X : XS) {i c k j tc i2 : Nat} (hi : i ≤ NN) (h : cls i = c) (hc : c < 8) (hk : ft c k = (3, j, tc)) (h2 : i2 ≠ 0) : ent w (X.1, upr X.2 j i2) i = .inr (c, ((List.range (FTL c).length).map (fv w X i c)).set k (.ref (wAd w i2))) := by
  rw [ent_obj w _ h hc]
  congr 2
  apply List.ext_getElem?
  intro q
  rw [List.getElem?_set]
  by_cases hq : q < (FTL c).length
  · rw [flds_get w _ hq]
    by_cases hqk : k = q
    · subst hqk
      rw [if_pos rfl, if_pos (by simpa using hq)]
      unfold fv
      rw [hk]
      simp [upr, h2]
    · rw [if_neg hqk, flds_get w _ hq]
      unfold fv
      rcases hft : ft c q with ⟨a, b, d⟩
      by_cases ha : a = 3
      · subst ha
        have m1 := (mut_ok hi (by rw [h]; exact hc) (by rw [h]; exact hk)).1
        have m2 := (mut_ok hi (by rw [h]; exact hc) (by rw [h]; exact hft)).1
        have hbj : b ≠ j := fun e => by
          subst e
          have := m1.trans m2.symm
          exact hqk (Prod.mk.inj this).2
        simp [upr, hbj]
      · by_cases ha2 : a = 2
        · subst ha2; rfl
        · split <;> simp_all
  · have hn : ∀ Y, ((List.range (FTL c).length).map (fv w Y i c))[q]? = none := fun Y => List.getElem?_eq_none (by simpa using Nat.not_lt.mp hq)
    rw [hn, hn]
    split
    · rw [if_neg (by rename_i e; subst e; simpa using hq)]
    · rfl
theorem ent_othr (w : WD) (X : XS) {i c k j tc i2 : Nat} (hi : i ≤ NN) (h : cls i = c) (hc : c < 8) (hk : ft c k = (3, j, tc)) {i' : Nat} (hi' : i' ≤ NN) (hne : i' ≠ i) : ent w (X.1, upr X.2 j i2) i' = ent w X i' := by
  unfold ent
  by_cases hc' : cls i' < 8
  · rw [if_pos hc', if_pos hc']
    have e : fv w (X.1, upr X.2 j i2) i' (cls i') = fv w X i' (cls i') := by
      funext q
      unfold fv
      rcases hft : ft (cls i') q with ⟨a, b, d⟩
      by_cases ha : a = 3
      · subst ha
        have m1 := (mut_ok hi (by rw [h]; exact hc) (by rw [h]; exact hk)).1
        have m2 := (mut_ok hi' hc' hft).1
        have hbj : b ≠ j := fun e => by
          subst e
          exact hne (Prod.mk.inj (m2.trans m1.symm)).1
        simp [upr, hbj]
      · by_cases ha2 : a = 2
        · subst ha2; rfl
        · split <;> simp_all
    rw [e]
  · rw [if_neg hc', if_neg hc']
theorem RX_up {X : XS} {i k : Nat} {z : Int} (h : RX X) (hz : inR z) : RX (up X.1 i k z, X.2) := by
  refine ⟨fun a b => ?_, h.2⟩
  show inR (up X.1 i k z a b)
  unfold up
  split
  · rename_i e
    subst e
    show inR (if b = k then z else X.1 a b)
    split
    · exact hz
    · exact h.1 a b
  · exact h.1 a b
theorem RX_upr {X : XS} {j i2 : Nat} (h : RX X) (hz : tok (rcl j) i2) : RX (X.1, upr X.2 j i2) := by
  refine ⟨h.1, fun q => ?_⟩
  show upr X.2 j i2 q = 0 ∨ tok (rcl q) (upr X.2 j i2 q)
  unfold upr
  split
  · rename_i e
    subst e
    exact Or.inr hz
  · exact h.2 q
end
