section
-- ===== PART A: goes FIRST, ahead of the names: the tables' words, and 'selects' of the private methods out of them =====
/-- a private method of a class that the tables say can be made, by its rows of tables_1 -/
def lw_okq (q : MethodName × Nat) : Prop := (q.1.cls ≠ "java/lang/invoke/MethodHandle" ∧ q.1.cls ≠ "java/lang/invoke/VarHandle") ∧ Cond.instantiable q.1.cls q.2 ∈ tables_1 ∧ Cond.privateMethod q.1 ∈ tables_1 ∧ Cond.instanceMethod q.1 ∈ tables_1
theorem lw_p0 : lw_okq (⟨"CopperNets$Groups", "clear", "()V"⟩, 1) := ⟨⟨by decide +kernel, by decide +kernel⟩, List.mem_of_getElem? (i := 65) (by decide +kernel), List.mem_of_getElem? (i := 71) (by decide +kernel), List.mem_of_getElem? (i := 72) (by decide +kernel)⟩
theorem lw_p1 : lw_okq (⟨"CopperNets", "leadersBelow", "(I)I"⟩, 8) := ⟨⟨by decide +kernel, by decide +kernel⟩, List.mem_of_getElem? (i := 16) (by decide +kernel), List.mem_of_getElem? (i := 144) (by decide +kernel), List.mem_of_getElem? (i := 145) (by decide +kernel)⟩
theorem lw_p2 : lw_okq (⟨"CopperNets$Groups", "leaderOf", "(I)I"⟩, 1) := ⟨⟨by decide +kernel, by decide +kernel⟩, List.mem_of_getElem? (i := 65) (by decide +kernel), List.mem_of_getElem? (i := 148) (by decide +kernel), List.mem_of_getElem? (i := 149) (by decide +kernel)⟩
theorem lw_p3 : lw_okq (⟨"CopperNets", "collectNetBits", "()V"⟩, 8) := ⟨⟨by decide +kernel, by decide +kernel⟩, List.mem_of_getElem? (i := 16) (by decide +kernel), List.mem_of_getElem? (i := 156) (by decide +kernel), List.mem_of_getElem? (i := 157) (by decide +kernel)⟩
theorem lw_p4 : lw_okq (⟨"CopperNets$Groups", "has", "(I)Z"⟩, 1) := ⟨⟨by decide +kernel, by decide +kernel⟩, List.mem_of_getElem? (i := 65) (by decide +kernel), List.mem_of_getElem? (i := 160) (by decide +kernel), List.mem_of_getElem? (i := 161) (by decide +kernel)⟩
theorem lw_p5 : lw_okq (⟨"CopperNets", "plannedBit", "(I)I"⟩, 8) := ⟨⟨by decide +kernel, by decide +kernel⟩, List.mem_of_getElem? (i := 16) (by decide +kernel), List.mem_of_getElem? (i := 164) (by decide +kernel), List.mem_of_getElem? (i := 165) (by decide +kernel)⟩
theorem lw_p6 : lw_okq (⟨"CopperNets", "plannedNet", "(I)I"⟩, 8) := ⟨⟨by decide +kernel, by decide +kernel⟩, List.mem_of_getElem? (i := 16) (by decide +kernel), List.mem_of_getElem? (i := 168) (by decide +kernel), List.mem_of_getElem? (i := 169) (by decide +kernel)⟩
theorem lw_p7 : lw_okq (⟨"CopperNets$Pieces", "pinOf", "(I)I"⟩, 10) := ⟨⟨by decide +kernel, by decide +kernel⟩, List.mem_of_getElem? (i := 24) (by decide +kernel), List.mem_of_getElem? (i := 172) (by decide +kernel), List.mem_of_getElem? (i := 173) (by decide +kernel)⟩
theorem lw_p8 : lw_okq (⟨"CopperNets", "isShort", "(I)Z"⟩, 8) := ⟨⟨by decide +kernel, by decide +kernel⟩, List.mem_of_getElem? (i := 16) (by decide +kernel), List.mem_of_getElem? (i := 176) (by decide +kernel), List.mem_of_getElem? (i := 177) (by decide +kernel)⟩
theorem lw_p9 : lw_okq (⟨"CopperNets$Pieces", "isThere", "(I)Z"⟩, 10) := ⟨⟨by decide +kernel, by decide +kernel⟩, List.mem_of_getElem? (i := 24) (by decide +kernel), List.mem_of_getElem? (i := 195) (by decide +kernel), List.mem_of_getElem? (i := 196) (by decide +kernel)⟩
theorem lw_p10 : lw_okq (⟨"CopperNets", "enter", "(LCopperNets$Groups;I)V"⟩, 8) := ⟨⟨by decide +kernel, by decide +kernel⟩, List.mem_of_getElem? (i := 16) (by decide +kernel), List.mem_of_getElem? (i := 199) (by decide +kernel), List.mem_of_getElem? (i := 200) (by decide +kernel)⟩
theorem lw_p11 : lw_okq (⟨"CopperNets$Groups", "begin", "(I)V"⟩, 1) := ⟨⟨by decide +kernel, by decide +kernel⟩, List.mem_of_getElem? (i := 65) (by decide +kernel), List.mem_of_getElem? (i := 203) (by decide +kernel), List.mem_of_getElem? (i := 204) (by decide +kernel)⟩
theorem lw_p12 : lw_okq (⟨"CopperNets$Pieces", "touch", "(II)Z"⟩, 10) := ⟨⟨by decide +kernel, by decide +kernel⟩, List.mem_of_getElem? (i := 24) (by decide +kernel), List.mem_of_getElem? (i := 207) (by decide +kernel), List.mem_of_getElem? (i := 208) (by decide +kernel)⟩
theorem lw_p13 : lw_okq (⟨"CopperNets$Pieces", "square", "(II)J"⟩, 10) := ⟨⟨by decide +kernel, by decide +kernel⟩, List.mem_of_getElem? (i := 24) (by decide +kernel), List.mem_of_getElem? (i := 211) (by decide +kernel), List.mem_of_getElem? (i := 212) (by decide +kernel)⟩
theorem lw_p14 : lw_okq (⟨"CopperNets$Groups", "join", "(II)V"⟩, 1) := ⟨⟨by decide +kernel, by decide +kernel⟩, List.mem_of_getElem? (i := 65) (by decide +kernel), List.mem_of_getElem? (i := 218) (by decide +kernel), List.mem_of_getElem? (i := 219) (by decide +kernel)⟩
theorem lw_p15 : lw_okq (⟨"CopperNets$Groups", "isLike", "(LCopperNets$Groups;)Z"⟩, 1) := ⟨⟨by decide +kernel, by decide +kernel⟩, List.mem_of_getElem? (i := 65) (by decide +kernel), List.mem_of_getElem? (i := 224) (by decide +kernel), List.mem_of_getElem? (i := 225) (by decide +kernel)⟩
def lw_privs_1 : List (MethodName × Nat) := [(⟨"CopperNets$Groups", "clear", "()V"⟩, 1), (⟨"CopperNets", "leadersBelow", "(I)I"⟩, 8), (⟨"CopperNets$Groups", "leaderOf", "(I)I"⟩, 1), (⟨"CopperNets", "collectNetBits", "()V"⟩, 8), (⟨"CopperNets$Groups", "has", "(I)Z"⟩, 1), (⟨"CopperNets", "plannedBit", "(I)I"⟩, 8), (⟨"CopperNets", "plannedNet", "(I)I"⟩, 8), (⟨"CopperNets$Pieces", "pinOf", "(I)I"⟩, 10), (⟨"CopperNets", "isShort", "(I)Z"⟩, 8), (⟨"CopperNets$Pieces", "isThere", "(I)Z"⟩, 10), (⟨"CopperNets", "enter", "(LCopperNets$Groups;I)V"⟩, 8), (⟨"CopperNets$Groups", "begin", "(I)V"⟩, 1), (⟨"CopperNets$Pieces", "touch", "(II)Z"⟩, 10), (⟨"CopperNets$Pieces", "square", "(II)J"⟩, 10), (⟨"CopperNets$Groups", "join", "(II)V"⟩, 1), (⟨"CopperNets$Groups", "isLike", "(LCopperNets$Groups;)Z"⟩, 1)]
theorem lw_r1 : ∀ q ∈ lw_privs_1, lw_okq q := List.forall_mem_cons.mpr ⟨lw_p0, List.forall_mem_cons.mpr ⟨lw_p1, List.forall_mem_cons.mpr ⟨lw_p2, List.forall_mem_cons.mpr ⟨lw_p3, List.forall_mem_cons.mpr ⟨lw_p4, List.forall_mem_cons.mpr ⟨lw_p5, List.forall_mem_cons.mpr ⟨lw_p6, List.forall_mem_cons.mpr ⟨lw_p7, List.forall_mem_cons.mpr ⟨lw_p8, List.forall_mem_cons.mpr ⟨lw_p9, List.forall_mem_cons.mpr ⟨lw_p10, List.forall_mem_cons.mpr ⟨lw_p11, List.forall_mem_cons.mpr ⟨lw_p12, List.forall_mem_cons.mpr ⟨lw_p13, List.forall_mem_cons.mpr ⟨lw_p14, List.forall_mem_cons.mpr ⟨lw_p15, fun _ h => absurd h List.not_mem_nil⟩⟩⟩⟩⟩⟩⟩⟩⟩⟩⟩⟩⟩⟩⟩⟩
theorem lw_p16 : lw_okq (⟨"CopperNets$Pieces", "hasPadOf", "(I)Z"⟩, 10) := ⟨⟨by decide +kernel, by decide +kernel⟩, List.mem_of_getElem? (i := 24) (by decide +kernel), List.mem_of_getElem? (i := 232) (by decide +kernel), List.mem_of_getElem? (i := 233) (by decide +kernel)⟩
theorem lw_p17 : lw_okq (⟨"CopperNets", "drawAirlines", "(I)V"⟩, 8) := ⟨⟨by decide +kernel, by decide +kernel⟩, List.mem_of_getElem? (i := 16) (by decide +kernel), List.mem_of_getElem? (i := 242) (by decide +kernel), List.mem_of_getElem? (i := 243) (by decide +kernel)⟩
theorem lw_p18 : lw_okq (⟨"CopperNets$Airlines", "clear", "()V"⟩, 6) := ⟨⟨by decide +kernel, by decide +kernel⟩, List.mem_of_getElem? (i := 82) (by decide +kernel), List.mem_of_getElem? (i := 246) (by decide +kernel), List.mem_of_getElem? (i := 247) (by decide +kernel)⟩
theorem lw_p19 : lw_okq (⟨"CopperNets$Airlines", "addPad", "(I)V"⟩, 6) := ⟨⟨by decide +kernel, by decide +kernel⟩, List.mem_of_getElem? (i := 82) (by decide +kernel), List.mem_of_getElem? (i := 250) (by decide +kernel), List.mem_of_getElem? (i := 251) (by decide +kernel)⟩
theorem lw_p20 : lw_okq (⟨"CopperNets$Airlines", "draw", "(LCopperNets$Pieces;LCopperNets$Groups;)V"⟩, 6) := ⟨⟨by decide +kernel, by decide +kernel⟩, List.mem_of_getElem? (i := 82) (by decide +kernel), List.mem_of_getElem? (i := 255) (by decide +kernel), List.mem_of_getElem? (i := 256) (by decide +kernel)⟩
theorem lw_p21 : lw_okq (⟨"CopperNets$Airlines", "reach", "(ILCopperNets$Pieces;LCopperNets$Groups;)V"⟩, 6) := ⟨⟨by decide +kernel, by decide +kernel⟩, List.mem_of_getElem? (i := 82) (by decide +kernel), List.mem_of_getElem? (i := 259) (by decide +kernel), List.mem_of_getElem? (i := 260) (by decide +kernel)⟩
theorem lw_p22 : lw_okq (⟨"CopperNets$Airlines", "lookFrom", "(ILCopperNets$Pieces;)V"⟩, 6) := ⟨⟨by decide +kernel, by decide +kernel⟩, List.mem_of_getElem? (i := 82) (by decide +kernel), List.mem_of_getElem? (i := 264) (by decide +kernel), List.mem_of_getElem? (i := 265) (by decide +kernel)⟩
theorem lw_p23 : lw_okq (⟨"CopperNets$Airlines", "nearestPad", "()I"⟩, 6) := ⟨⟨by decide +kernel, by decide +kernel⟩, List.mem_of_getElem? (i := 82) (by decide +kernel), List.mem_of_getElem? (i := 277) (by decide +kernel), List.mem_of_getElem? (i := 278) (by decide +kernel)⟩
theorem lw_p24 : lw_okq (⟨"CopperNets$Airlines", "insert", "(J)V"⟩, 6) := ⟨⟨by decide +kernel, by decide +kernel⟩, List.mem_of_getElem? (i := 82) (by decide +kernel), List.mem_of_getElem? (i := 281) (by decide +kernel), List.mem_of_getElem? (i := 282) (by decide +kernel)⟩
theorem lw_p25 : lw_okq (⟨"CopperNets", "checkLayer", "(I)V"⟩, 8) := ⟨⟨by decide +kernel, by decide +kernel⟩, List.mem_of_getElem? (i := 16) (by decide +kernel), List.mem_of_getElem? (i := 297) (by decide +kernel), List.mem_of_getElem? (i := 298) (by decide +kernel)⟩
theorem lw_p26 : lw_okq (⟨"java/lang/Throwable", "fillInStackTrace", "(I)Ljava/lang/Throwable;"⟩, 6) := ⟨⟨by decide +kernel, by decide +kernel⟩, List.mem_of_getElem? (i := 338) (by decide +kernel), List.mem_of_getElem? (i := 336) (by decide +kernel), List.mem_of_getElem? (i := 337) (by decide +kernel)⟩
theorem lw_p27 : lw_okq (⟨"CopperNets$Pieces", "isFull", "()Z"⟩, 10) := ⟨⟨by decide +kernel, by decide +kernel⟩, List.mem_of_getElem? (i := 24) (by decide +kernel), List.mem_of_getElem? (i := 393) (by decide +kernel), List.mem_of_getElem? (i := 394) (by decide +kernel)⟩
theorem lw_p28 : lw_okq (⟨"CopperNets$Pieces", "addRectangle", "(IJJJJ)I"⟩, 10) := ⟨⟨by decide +kernel, by decide +kernel⟩, List.mem_of_getElem? (i := 24) (by decide +kernel), List.mem_of_getElem? (i := 397) (by decide +kernel), List.mem_of_getElem? (i := 398) (by decide +kernel)⟩
theorem lw_p29 : lw_okq (⟨"CopperNets$Pieces", "add", "(III)I"⟩, 10) := ⟨⟨by decide +kernel, by decide +kernel⟩, List.mem_of_getElem? (i := 24) (by decide +kernel), List.mem_of_getElem? (i := 401) (by decide +kernel), List.mem_of_getElem? (i := 402) (by decide +kernel)⟩
theorem lw_p30 : lw_okq (⟨"CopperNets", "takeIn", "(I)I"⟩, 8) := ⟨⟨by decide +kernel, by decide +kernel⟩, List.mem_of_getElem? (i := 16) (by decide +kernel), List.mem_of_getElem? (i := 405) (by decide +kernel), List.mem_of_getElem? (i := 406) (by decide +kernel)⟩
theorem lw_p31 : lw_okq (⟨"CopperNets$Pieces", "addDisc", "(IIIJJJ)I"⟩, 10) := ⟨⟨by decide +kernel, by decide +kernel⟩, List.mem_of_getElem? (i := 24) (by decide +kernel), List.mem_of_getElem? (i := 417) (by decide +kernel), List.mem_of_getElem? (i := 418) (by decide +kernel)⟩
def lw_privs_2 : List (MethodName × Nat) := [(⟨"CopperNets$Pieces", "hasPadOf", "(I)Z"⟩, 10), (⟨"CopperNets", "drawAirlines", "(I)V"⟩, 8), (⟨"CopperNets$Airlines", "clear", "()V"⟩, 6), (⟨"CopperNets$Airlines", "addPad", "(I)V"⟩, 6), (⟨"CopperNets$Airlines", "draw", "(LCopperNets$Pieces;LCopperNets$Groups;)V"⟩, 6), (⟨"CopperNets$Airlines", "reach", "(ILCopperNets$Pieces;LCopperNets$Groups;)V"⟩, 6), (⟨"CopperNets$Airlines", "lookFrom", "(ILCopperNets$Pieces;)V"⟩, 6), (⟨"CopperNets$Airlines", "nearestPad", "()I"⟩, 6), (⟨"CopperNets$Airlines", "insert", "(J)V"⟩, 6), (⟨"CopperNets", "checkLayer", "(I)V"⟩, 8), (⟨"java/lang/Throwable", "fillInStackTrace", "(I)Ljava/lang/Throwable;"⟩, 6), (⟨"CopperNets$Pieces", "isFull", "()Z"⟩, 10), (⟨"CopperNets$Pieces", "addRectangle", "(IJJJJ)I"⟩, 10), (⟨"CopperNets$Pieces", "add", "(III)I"⟩, 10), (⟨"CopperNets", "takeIn", "(I)I"⟩, 8), (⟨"CopperNets$Pieces", "addDisc", "(IIIJJJ)I"⟩, 10)]
theorem lw_r2 : ∀ q ∈ lw_privs_2, lw_okq q := List.forall_mem_cons.mpr ⟨lw_p16, List.forall_mem_cons.mpr ⟨lw_p17, List.forall_mem_cons.mpr ⟨lw_p18, List.forall_mem_cons.mpr ⟨lw_p19, List.forall_mem_cons.mpr ⟨lw_p20, List.forall_mem_cons.mpr ⟨lw_p21, List.forall_mem_cons.mpr ⟨lw_p22, List.forall_mem_cons.mpr ⟨lw_p23, List.forall_mem_cons.mpr ⟨lw_p24, List.forall_mem_cons.mpr ⟨lw_p25, List.forall_mem_cons.mpr ⟨lw_p26, List.forall_mem_cons.mpr ⟨lw_p27, List.forall_mem_cons.mpr ⟨lw_p28, List.forall_mem_cons.mpr ⟨lw_p29, List.forall_mem_cons.mpr ⟨lw_p30, List.forall_mem_cons.mpr ⟨lw_p31, fun _ h => absurd h List.not_mem_nil⟩⟩⟩⟩⟩⟩⟩⟩⟩⟩⟩⟩⟩⟩⟩⟩
theorem lw_p32 : lw_okq (⟨"CopperNets", "checkPiece", "(I)V"⟩, 8) := ⟨⟨by decide +kernel, by decide +kernel⟩, List.mem_of_getElem? (i := 16) (by decide +kernel), List.mem_of_getElem? (i := 450) (by decide +kernel), List.mem_of_getElem? (i := 451) (by decide +kernel)⟩
theorem lw_p33 : lw_okq (⟨"CopperNets$Airlines", "has", "(I)Z"⟩, 6) := ⟨⟨by decide +kernel, by decide +kernel⟩, List.mem_of_getElem? (i := 82) (by decide +kernel), List.mem_of_getElem? (i := 476) (by decide +kernel), List.mem_of_getElem? (i := 477) (by decide +kernel)⟩
theorem lw_p34 : lw_okq (⟨"CopperNets$Airlines", "pairAt", "(I)J"⟩, 6) := ⟨⟨by decide +kernel, by decide +kernel⟩, List.mem_of_getElem? (i := 82) (by decide +kernel), List.mem_of_getElem? (i := 481) (by decide +kernel), List.mem_of_getElem? (i := 482) (by decide +kernel)⟩
theorem lw_p35 : lw_okq (⟨"CopperNets", "leaderOfShort", "(I)I"⟩, 8) := ⟨⟨by decide +kernel, by decide +kernel⟩, List.mem_of_getElem? (i := 16) (by decide +kernel), List.mem_of_getElem? (i := 499) (by decide +kernel), List.mem_of_getElem? (i := 500) (by decide +kernel)⟩
theorem lw_p36 : lw_okq (⟨"CopperNets", "joinThatShorted", "(I)J"⟩, 8) := ⟨⟨by decide +kernel, by decide +kernel⟩, List.mem_of_getElem? (i := 16) (by decide +kernel), List.mem_of_getElem? (i := 507) (by decide +kernel), List.mem_of_getElem? (i := 508) (by decide +kernel)⟩
theorem lw_p37 : lw_okq (⟨"CopperNets", "belowThatShorts", "(I)I"⟩, 8) := ⟨⟨by decide +kernel, by decide +kernel⟩, List.mem_of_getElem? (i := 16) (by decide +kernel), List.mem_of_getElem? (i := 511) (by decide +kernel), List.mem_of_getElem? (i := 512) (by decide +kernel)⟩
theorem lw_p38 : lw_okq (⟨"CopperNets$Pieces", "remove", "(I)V"⟩, 10) := ⟨⟨by decide +kernel, by decide +kernel⟩, List.mem_of_getElem? (i := 24) (by decide +kernel), List.mem_of_getElem? (i := 530) (by decide +kernel), List.mem_of_getElem? (i := 531) (by decide +kernel)⟩
theorem lw_p39 : lw_okq (⟨"CopperNets", "partWithout", "(I)V"⟩, 8) := ⟨⟨by decide +kernel, by decide +kernel⟩, List.mem_of_getElem? (i := 16) (by decide +kernel), List.mem_of_getElem? (i := 534) (by decide +kernel), List.mem_of_getElem? (i := 535) (by decide +kernel)⟩
theorem lw_p40 : lw_okq (⟨"CopperNets$Groups", "leave", "(I)V"⟩, 1) := ⟨⟨by decide +kernel, by decide +kernel⟩, List.mem_of_getElem? (i := 65) (by decide +kernel), List.mem_of_getElem? (i := 538) (by decide +kernel), List.mem_of_getElem? (i := 539) (by decide +kernel)⟩
theorem lw_p41 : lw_okq (⟨"CopperNets$Groups", "follow", "(II)V"⟩, 1) := ⟨⟨by decide +kernel, by decide +kernel⟩, List.mem_of_getElem? (i := 65) (by decide +kernel), List.mem_of_getElem? (i := 542) (by decide +kernel), List.mem_of_getElem? (i := 543) (by decide +kernel)⟩
theorem lw_p42 : lw_okq (⟨"CopperNetsModel", "isLayer", "(I)Z"⟩, 19) := ⟨⟨by decide +kernel, by decide +kernel⟩, List.mem_of_getElem? (i := 546) (by decide +kernel), List.mem_of_getElem? (i := 626) (by decide +kernel), List.mem_of_getElem? (i := 627) (by decide +kernel)⟩
theorem lw_p43 : lw_okq (⟨"CopperNetsModel", "add", "(IIJJJJJI)I"⟩, 19) := ⟨⟨by decide +kernel, by decide +kernel⟩, List.mem_of_getElem? (i := 546) (by decide +kernel), List.mem_of_getElem? (i := 630) (by decide +kernel), List.mem_of_getElem? (i := 631) (by decide +kernel)⟩
theorem lw_p44 : lw_okq (⟨"CopperNetsModel", "isPiece", "(I)Z"⟩, 19) := ⟨⟨by decide +kernel, by decide +kernel⟩, List.mem_of_getElem? (i := 546) (by decide +kernel), List.mem_of_getElem? (i := 656) (by decide +kernel), List.mem_of_getElem? (i := 657) (by decide +kernel)⟩
theorem lw_p45 : lw_okq (⟨"CopperNetsModel", "findNets", "()I"⟩, 19) := ⟨⟨by decide +kernel, by decide +kernel⟩, List.mem_of_getElem? (i := 546) (by decide +kernel), List.mem_of_getElem? (i := 664) (by decide +kernel), List.mem_of_getElem? (i := 665) (by decide +kernel)⟩
theorem lw_p46 : lw_okq (⟨"CopperNetsModel", "findLabels", "()V"⟩, 19) := ⟨⟨by decide +kernel, by decide +kernel⟩, List.mem_of_getElem? (i := 546) (by decide +kernel), List.mem_of_getElem? (i := 668) (by decide +kernel), List.mem_of_getElem? (i := 669) (by decide +kernel)⟩
theorem lw_p47 : lw_okq (⟨"CopperNetsModel", "touch", "(II)Z"⟩, 19) := ⟨⟨by decide +kernel, by decide +kernel⟩, List.mem_of_getElem? (i := 546) (by decide +kernel), List.mem_of_getElem? (i := 672) (by decide +kernel), List.mem_of_getElem? (i := 673) (by decide +kernel)⟩
def lw_privs_3 : List (MethodName × Nat) := [(⟨"CopperNets", "checkPiece", "(I)V"⟩, 8), (⟨"CopperNets$Airlines", "has", "(I)Z"⟩, 6), (⟨"CopperNets$Airlines", "pairAt", "(I)J"⟩, 6), (⟨"CopperNets", "leaderOfShort", "(I)I"⟩, 8), (⟨"CopperNets", "joinThatShorted", "(I)J"⟩, 8), (⟨"CopperNets", "belowThatShorts", "(I)I"⟩, 8), (⟨"CopperNets$Pieces", "remove", "(I)V"⟩, 10), (⟨"CopperNets", "partWithout", "(I)V"⟩, 8), (⟨"CopperNets$Groups", "leave", "(I)V"⟩, 1), (⟨"CopperNets$Groups", "follow", "(II)V"⟩, 1), (⟨"CopperNetsModel", "isLayer", "(I)Z"⟩, 19), (⟨"CopperNetsModel", "add", "(IIJJJJJI)I"⟩, 19), (⟨"CopperNetsModel", "isPiece", "(I)Z"⟩, 19), (⟨"CopperNetsModel", "findNets", "()I"⟩, 19), (⟨"CopperNetsModel", "findLabels", "()V"⟩, 19), (⟨"CopperNetsModel", "touch", "(II)Z"⟩, 19)]
theorem lw_r3 : ∀ q ∈ lw_privs_3, lw_okq q := List.forall_mem_cons.mpr ⟨lw_p32, List.forall_mem_cons.mpr ⟨lw_p33, List.forall_mem_cons.mpr ⟨lw_p34, List.forall_mem_cons.mpr ⟨lw_p35, List.forall_mem_cons.mpr ⟨lw_p36, List.forall_mem_cons.mpr ⟨lw_p37, List.forall_mem_cons.mpr ⟨lw_p38, List.forall_mem_cons.mpr ⟨lw_p39, List.forall_mem_cons.mpr ⟨lw_p40, List.forall_mem_cons.mpr ⟨lw_p41, List.forall_mem_cons.mpr ⟨lw_p42, List.forall_mem_cons.mpr ⟨lw_p43, List.forall_mem_cons.mpr ⟨lw_p44, List.forall_mem_cons.mpr ⟨lw_p45, List.forall_mem_cons.mpr ⟨lw_p46, List.forall_mem_cons.mpr ⟨lw_p47, fun _ h => absurd h List.not_mem_nil⟩⟩⟩⟩⟩⟩⟩⟩⟩⟩⟩⟩⟩⟩⟩⟩
theorem lw_p48 : lw_okq (⟨"CopperNetsModel", "countOpens", "(I)I"⟩, 19) := ⟨⟨by decide +kernel, by decide +kernel⟩, List.mem_of_getElem? (i := 546) (by decide +kernel), List.mem_of_getElem? (i := 687) (by decide +kernel), List.mem_of_getElem? (i := 688) (by decide +kernel)⟩
theorem lw_p49 : lw_okq (⟨"CopperNetsModel", "nextAirline", "(I)Z"⟩, 19) := ⟨⟨by decide +kernel, by decide +kernel⟩, List.mem_of_getElem? (i := 546) (by decide +kernel), List.mem_of_getElem? (i := 691) (by decide +kernel), List.mem_of_getElem? (i := 692) (by decide +kernel)⟩
theorem lw_p50 : lw_okq (⟨"CopperNetsModel", "planOf", "(I)I"⟩, 19) := ⟨⟨by decide +kernel, by decide +kernel⟩, List.mem_of_getElem? (i := 546) (by decide +kernel), List.mem_of_getElem? (i := 695) (by decide +kernel), List.mem_of_getElem? (i := 696) (by decide +kernel)⟩
theorem lw_p51 : lw_okq (⟨"CopperNetsModel", "findAirline", "(II)Z"⟩, 19) := ⟨⟨by decide +kernel, by decide +kernel⟩, List.mem_of_getElem? (i := 546) (by decide +kernel), List.mem_of_getElem? (i := 703) (by decide +kernel), List.mem_of_getElem? (i := 704) (by decide +kernel)⟩
theorem lw_p52 : lw_okq (⟨"CopperNetsModel", "countShorts", "()I"⟩, 19) := ⟨⟨by decide +kernel, by decide +kernel⟩, List.mem_of_getElem? (i := 546) (by decide +kernel), List.mem_of_getElem? (i := 715) (by decide +kernel), List.mem_of_getElem? (i := 716) (by decide +kernel)⟩
theorem lw_p53 : lw_okq (⟨"CopperNetsModel", "netsOf", "(I)I"⟩, 19) := ⟨⟨by decide +kernel, by decide +kernel⟩, List.mem_of_getElem? (i := 546) (by decide +kernel), List.mem_of_getElem? (i := 719) (by decide +kernel), List.mem_of_getElem? (i := 720) (by decide +kernel)⟩
theorem lw_p54 : lw_okq (⟨"CopperNetsModel", "shortAt", "(I)I"⟩, 19) := ⟨⟨by decide +kernel, by decide +kernel⟩, List.mem_of_getElem? (i := 546) (by decide +kernel), List.mem_of_getElem? (i := 730) (by decide +kernel), List.mem_of_getElem? (i := 731) (by decide +kernel)⟩
theorem lw_p55 : lw_okq (⟨"CopperNetsModel", "findJoin", "(I)V"⟩, 19) := ⟨⟨by decide +kernel, by decide +kernel⟩, List.mem_of_getElem? (i := 546) (by decide +kernel), List.mem_of_getElem? (i := 737) (by decide +kernel), List.mem_of_getElem? (i := 738) (by decide +kernel)⟩
theorem lw_p56 : lw_okq (⟨"CopperNetsModel", "netsOfGroup", "(I)I"⟩, 19) := ⟨⟨by decide +kernel, by decide +kernel⟩, List.mem_of_getElem? (i := 546) (by decide +kernel), List.mem_of_getElem? (i := 741) (by decide +kernel), List.mem_of_getElem? (i := 742) (by decide +kernel)⟩
theorem lw_p57 : lw_okq (⟨"CopperNetsModel", "unreachedAt", "(I)I"⟩, 19) := ⟨⟨by decide +kernel, by decide +kernel⟩, List.mem_of_getElem? (i := 546) (by decide +kernel), List.mem_of_getElem? (i := 753) (by decide +kernel), List.mem_of_getElem? (i := 754) (by decide +kernel)⟩
theorem lw_p58 : lw_okq (⟨"CopperNetsModel", "hasPad", "(I)Z"⟩, 19) := ⟨⟨by decide +kernel, by decide +kernel⟩, List.mem_of_getElem? (i := 546) (by decide +kernel), List.mem_of_getElem? (i := 757) (by decide +kernel), List.mem_of_getElem? (i := 758) (by decide +kernel)⟩
def lw_privs_4 : List (MethodName × Nat) := [(⟨"CopperNetsModel", "countOpens", "(I)I"⟩, 19), (⟨"CopperNetsModel", "nextAirline", "(I)Z"⟩, 19), (⟨"CopperNetsModel", "planOf", "(I)I"⟩, 19), (⟨"CopperNetsModel", "findAirline", "(II)Z"⟩, 19), (⟨"CopperNetsModel", "countShorts", "()I"⟩, 19), (⟨"CopperNetsModel", "netsOf", "(I)I"⟩, 19), (⟨"CopperNetsModel", "shortAt", "(I)I"⟩, 19), (⟨"CopperNetsModel", "findJoin", "(I)V"⟩, 19), (⟨"CopperNetsModel", "netsOfGroup", "(I)I"⟩, 19), (⟨"CopperNetsModel", "unreachedAt", "(I)I"⟩, 19), (⟨"CopperNetsModel", "hasPad", "(I)Z"⟩, 19)]
theorem lw_r4 : ∀ q ∈ lw_privs_4, lw_okq q := List.forall_mem_cons.mpr ⟨lw_p48, List.forall_mem_cons.mpr ⟨lw_p49, List.forall_mem_cons.mpr ⟨lw_p50, List.forall_mem_cons.mpr ⟨lw_p51, List.forall_mem_cons.mpr ⟨lw_p52, List.forall_mem_cons.mpr ⟨lw_p53, List.forall_mem_cons.mpr ⟨lw_p54, List.forall_mem_cons.mpr ⟨lw_p55, List.forall_mem_cons.mpr ⟨lw_p56, List.forall_mem_cons.mpr ⟨lw_p57, List.forall_mem_cons.mpr ⟨lw_p58, fun _ h => absurd h List.not_mem_nil⟩⟩⟩⟩⟩⟩⟩⟩⟩⟩⟩
def lw_privs : List (MethodName × Nat) := lw_privs_1 ++ (lw_privs_2 ++ (lw_privs_3 ++ (lw_privs_4)))
def lw_tbl : List Cond := k2_sels lw_privs ++ tables_1
theorem lw_privs_ok : ∀ q ∈ lw_privs, lw_okq q := by
  show ∀ q ∈ lw_privs_1 ++ (lw_privs_2 ++ (lw_privs_3 ++ (lw_privs_4))), lw_okq q
  exact List.forall_mem_append.mpr ⟨lw_r1, List.forall_mem_append.mpr ⟨lw_r2, List.forall_mem_append.mpr ⟨lw_r3, lw_r4⟩⟩⟩
end
section
/-! NAMES: classes, their fields in the order of the slots; nest words; methods (all written by wip/whole/gen_names.py out of the statement's tables) -/
def T_X : u_T := fun k => match k with
  | 0 => ("CopperNets", "layers", "I", true)
  | 1 => ("CopperNets", "netOfPin", "[I", true)
  | 2 => ("CopperNets", "pieces", "LCopperNets$Pieces;", true)
  | 3 => ("CopperNets", "kept", "LCopperNets$Groups;", true)
  | 4 => ("CopperNets", "airlines", "LCopperNets$Airlines;", true)
  | 5 => ("CopperNets", "spare", "LCopperNets$Groups;", true)
  | 6 => ("CopperNets", "netBits", "[I", true)
  | _ => ("CopperNets", "grownBits", "[I", true)
def t_X : Nat → FieldType := fun k => match k with
  | 0 => .int
  | 1 => .array .int
  | 2 => .object "CopperNets$Pieces"
  | 3 => .object "CopperNets$Groups"
  | 4 => .object "CopperNets$Airlines"
  | 5 => .object "CopperNets$Groups"
  | 6 => .array .int
  | _ => .array .int
theorem n_X : ∀ a, a < 8 → ∀ b, b < 8 → a ≠ b → (T_X a).2.1 ≠ (T_X b).2.1 := by decide +kernel
theorem tt_X : ∀ k, k < 8 → parseFieldDescriptor (T_X k).2.2.1 = some (t_X k) := by decide +kernel
def T_A : u_T := fun k => match k with
  | 0 => ("CopperNets$Airlines", "count", "I", false)
  | 1 => ("CopperNets$Airlines", "pairs", "[J", true)
  | 2 => ("CopperNets$Airlines", "padCount", "I", false)
  | 3 => ("CopperNets$Airlines", "pads", "[I", true)
  | 4 => ("CopperNets$Airlines", "reached", "[Z", true)
  | _ => ("CopperNets$Airlines", "nearest", "[J", true)
def t_A : Nat → FieldType := fun k => match k with
  | 0 => .int
  | 1 => .array .long
  | 2 => .int
  | 3 => .array .int
  | 4 => .array .boolean
  | _ => .array .long
theorem n_A : ∀ a, a < 6 → ∀ b, b < 6 → a ≠ b → (T_A a).2.1 ≠ (T_A b).2.1 := by decide +kernel
theorem tt_A : ∀ k, k < 6 → parseFieldDescriptor (T_A k).2.2.1 = some (t_A k) := by decide +kernel
def T_G : u_T := fun k => match k with
  | _ => ("CopperNets$Groups", "leader", "[I", true)
def t_G : Nat → FieldType := fun k => match k with
  | _ => .array .int
theorem n_G : ∀ a, a < 1 → ∀ b, b < 1 → a ≠ b → (T_G a).2.1 ≠ (T_G b).2.1 := by decide +kernel
theorem tt_G : ∀ k, k < 1 → parseFieldDescriptor (T_G k).2.2.1 = some (t_G k) := by decide +kernel
def T_P : u_T := fun k => match k with
  | 0 => ("CopperNets$Pieces", "count", "I", false)
  | 1 => ("CopperNets$Pieces", "there", "[Z", true)
  | 2 => ("CopperNets$Pieces", "from", "[I", true)
  | 3 => ("CopperNets$Pieces", "to", "[I", true)
  | 4 => ("CopperNets$Pieces", "pin", "[I", true)
  | 5 => ("CopperNets$Pieces", "left", "[J", true)
  | 6 => ("CopperNets$Pieces", "low", "[J", true)
  | 7 => ("CopperNets$Pieces", "right", "[J", true)
  | 8 => ("CopperNets$Pieces", "high", "[J", true)
  | _ => ("CopperNets$Pieces", "rim", "[J", true)
def t_P : Nat → FieldType := fun k => match k with
  | 0 => .int
  | 1 => .array .boolean
  | 2 => .array .int
  | 3 => .array .int
  | 4 => .array .int
  | 5 => .array .long
  | 6 => .array .long
  | 7 => .array .long
  | 8 => .array .long
  | _ => .array .long
theorem n_P : ∀ a, a < 10 → ∀ b, b < 10 → a ≠ b → (T_P a).2.1 ≠ (T_P b).2.1 := by decide +kernel
theorem tt_P : ∀ k, k < 10 → parseFieldDescriptor (T_P k).2.2.1 = some (t_P k) := by decide +kernel
def T_M : u_T := fun k => match k with
  | 0 => ("CopperNetsModel", "thrown", "I", false)
  | 1 => ("CopperNetsModel", "layers", "I", true)
  | 2 => ("CopperNetsModel", "pieces", "I", false)
  | 3 => ("CopperNetsModel", "there", "[Z", true)
  | 4 => ("CopperNetsModel", "low", "[I", true)
  | 5 => ("CopperNetsModel", "high", "[I", true)
  | 6 => ("CopperNetsModel", "x", "[J", true)
  | 7 => ("CopperNetsModel", "y", "[J", true)
  | 8 => ("CopperNetsModel", "w", "[J", true)
  | 9 => ("CopperNetsModel", "h", "[J", true)
  | 10 => ("CopperNetsModel", "\x72", "[J", true)
  | 11 => ("CopperNetsModel", "pinOf", "[I", true)
  | 12 => ("CopperNetsModel", "netOfPin", "[I", true)
  | 13 => ("CopperNetsModel", "label", "[I", true)
  | 14 => ("CopperNetsModel", "number", "[I", true)
  | 15 => ("CopperNetsModel", "group", "[I", true)
  | 16 => ("CopperNetsModel", "airSquare", "J", false)
  | 17 => ("CopperNetsModel", "airLow", "I", false)
  | _ => ("CopperNetsModel", "airHigh", "I", false)
def t_M : Nat → FieldType := fun k => match k with
  | 0 => .int
  | 1 => .int
  | 2 => .int
  | 3 => .array .boolean
  | 4 => .array .int
  | 5 => .array .int
  | 6 => .array .long
  | 7 => .array .long
  | 8 => .array .long
  | 9 => .array .long
  | 10 => .array .long
  | 11 => .array .int
  | 12 => .array .int
  | 13 => .array .int
  | 14 => .array .int
  | 15 => .array .int
  | 16 => .long
  | 17 => .int
  | _ => .int
theorem n_M : ∀ a, a < 19 → ∀ b, b < 19 → a ≠ b → (T_M a).2.1 ≠ (T_M b).2.1 := by decide +kernel
theorem tt_M : ∀ k, k < 19 → parseFieldDescriptor (T_M k).2.2.1 = some (t_M k) := by decide +kernel
abbrev cn_cl : List vw_C := [("CopperNets", T_X, 8), ("CopperNets$Airlines", T_A, 6), ("CopperNets$Groups", T_G, 1), ("CopperNets$Pieces", T_P, 10), ("CopperNetsModel", T_M, 19)]
def cn_nwM : List (String × Nat × MethodName × String) := [("CopperNets", 15, ⟨"CopperNets$Pieces", "<init>", "()V"⟩, "CopperNets"), ("CopperNets", 22, ⟨"CopperNets$Groups", "<init>", "()V"⟩, "CopperNets"), ("CopperNets", 29, ⟨"CopperNets$Airlines", "<init>", "()V"⟩, "CopperNets"), ("CopperNets", 118, ⟨"CopperNets$Groups", "leaderOf", "(I)I"⟩, "CopperNets"), ("CopperNets", 115, ⟨"CopperNets$Groups", "has", "(I)Z"⟩, "CopperNets"), ("CopperNets", 231, ⟨"CopperNets$Pieces", "pinOf", "(I)I"⟩, "CopperNets"), ("CopperNets", 178, ⟨"CopperNets$Groups", "clear", "()V"⟩, "CopperNets"), ("CopperNets", 169, ⟨"CopperNets$Pieces", "isThere", "(I)Z"⟩, "CopperNets"), ("CopperNets", 215, ⟨"CopperNets$Groups", "begin", "(I)V"⟩, "CopperNets"), ("CopperNets", 218, ⟨"CopperNets$Pieces", "touch", "(II)Z"⟩, "CopperNets"), ("CopperNets", 222, ⟨"CopperNets$Groups", "join", "(II)V"⟩, "CopperNets"), ("CopperNets", 185, ⟨"CopperNets$Groups", "isLike", "(LCopperNets$Groups;)Z"⟩, "CopperNets"), ("CopperNets", 189, ⟨"CopperNets$Pieces", "hasPadOf", "(I)Z"⟩, "CopperNets"), ("CopperNets", 252, ⟨"CopperNets$Airlines", "clear", "()V"⟩, "CopperNets"), ("CopperNets", 253, ⟨"CopperNets$Airlines", "addPad", "(I)V"⟩, "CopperNets"), ("CopperNets", 256, ⟨"CopperNets$Airlines", "draw", "(LCopperNets$Pieces;LCopperNets$Groups;)V"⟩, "CopperNets"), ("CopperNets$Airlines", 49, ⟨"CopperNets$Groups", "leaderOf", "(I)I"⟩, "CopperNets"), ("CopperNets$Airlines", 59, ⟨"CopperNets$Pieces", "square", "(II)J"⟩, "CopperNets"), ("CopperNets$Airlines", 65, ⟨"CopperNets$Pair", "of", "(JII)J"⟩, "CopperNets"), ("CopperNets", 74, ⟨"CopperNets$Pieces", "isFull", "()Z"⟩, "CopperNets"), ("CopperNets", 78, ⟨"CopperNets$Pieces", "addRectangle", "(IJJJJ)I"⟩, "CopperNets"), ("CopperNets", 93, ⟨"CopperNets$Pieces", "addDisc", "(IIIJJJ)I"⟩, "CopperNets"), ("CopperNets", 132, ⟨"CopperNets$Airlines", "has", "(I)Z"⟩, "CopperNets"), ("CopperNets", 138, ⟨"CopperNets$Airlines", "pairAt", "(I)J"⟩, "CopperNets"), ("CopperNets", 142, ⟨"CopperNets$Pair", "square", "(J)J"⟩, "CopperNets"), ("CopperNets", 148, ⟨"CopperNets$Pair", "piece", "(JI)I"⟩, "CopperNets"), ("CopperNets", 248, ⟨"CopperNets$Pair", "of", "(JII)J"⟩, "CopperNets"), ("CopperNets", 172, ⟨"CopperNets$Pieces", "remove", "(I)V"⟩, "CopperNets"), ("CopperNets", 225, ⟨"CopperNets$Groups", "leave", "(I)V"⟩, "CopperNets"), ("CopperNets", 228, ⟨"CopperNets$Groups", "follow", "(II)V"⟩, "CopperNets")]
def cn_nwF : List (String × Nat × String × String × String × String) := [("CopperNets", 106, "CopperNets$Pieces", "count", "I", "CopperNets"), ("CopperNets", 127, "CopperNets$Airlines", "count", "I", "CopperNets")]
abbrev b_X_init : ByteArray := prog_1_method_1_code
abbrev y_X_init : MethodName := ⟨"CopperNets", "<init>", "(I)V"⟩
abbrev b_jO_init : ByteArray := object_method_1_code
abbrev y_jO_init : MethodName := ⟨"java/lang/Object", "<init>", "()V"⟩
abbrev b_P_init : ByteArray := prog_5_method_1_code
abbrev y_P_init : MethodName := ⟨"CopperNets$Pieces", "<init>", "()V"⟩
abbrev b_G_init : ByteArray := prog_3_method_1_code
abbrev y_G_init : MethodName := ⟨"CopperNets$Groups", "<init>", "()V"⟩
abbrev b_G_clear : ByteArray := prog_3_method_2_code
abbrev y_G_clear : MethodName := ⟨"CopperNets$Groups", "clear", "()V"⟩
abbrev b_jA_fill : ByteArray := prog_16_method_103_code
abbrev y_jA_fill : MethodName := ⟨"java/util/Arrays", "fill", "([II)V"⟩
abbrev b_A_init : ByteArray := prog_2_method_1_code
abbrev y_A_init : MethodName := ⟨"CopperNets$Airlines", "<init>", "()V"⟩
abbrev b_jM_min_I : ByteArray := prog_12_method_69_code
abbrev y_jM_min_I : MethodName := ⟨"java/lang/Math", "min", "(II)I"⟩
abbrev b_jM_max_I : ByteArray := prog_12_method_65_code
abbrev y_jM_max_I : MethodName := ⟨"java/lang/Math", "max", "(II)I"⟩
abbrev b_X_run : ByteArray := prog_1_method_6_code
abbrev y_X_run : MethodName := ⟨"CopperNets", "run", "()I"⟩
abbrev b_X_leadersBelow : ByteArray := prog_1_method_29_code
abbrev y_X_leadersBelow : MethodName := ⟨"CopperNets", "leadersBelow", "(I)I"⟩
abbrev b_G_leaderOf : ByteArray := prog_3_method_4_code
abbrev y_G_leaderOf : MethodName := ⟨"CopperNets$Groups", "leaderOf", "(I)I"⟩
abbrev b_X_shorts : ByteArray := prog_1_method_10_code
abbrev y_X_shorts : MethodName := ⟨"CopperNets", "shorts", "()I"⟩
abbrev b_X_collectNetBits : ByteArray := prog_1_method_32_code
abbrev y_X_collectNetBits : MethodName := ⟨"CopperNets", "collectNetBits", "()V"⟩
abbrev b_G_has : ByteArray := prog_3_method_3_code
abbrev y_G_has : MethodName := ⟨"CopperNets$Groups", "has", "(I)Z"⟩
abbrev b_X_plannedBit : ByteArray := prog_1_method_31_code
abbrev y_X_plannedBit : MethodName := ⟨"CopperNets", "plannedBit", "(I)I"⟩
abbrev b_X_plannedNet : ByteArray := prog_1_method_30_code
abbrev y_X_plannedNet : MethodName := ⟨"CopperNets", "plannedNet", "(I)I"⟩
abbrev b_P_pinOf : ByteArray := prog_5_method_8_code
abbrev y_P_pinOf : MethodName := ⟨"CopperNets$Pieces", "pinOf", "(I)I"⟩
abbrev b_X_isShort : ByteArray := prog_1_method_33_code
abbrev y_X_isShort : MethodName := ⟨"CopperNets", "isShort", "(I)Z"⟩
abbrev b_jI_bitCount : ByteArray := prog_11_method_49_code
abbrev y_jI_bitCount : MethodName := ⟨"java/lang/Integer", "bitCount", "(I)I"⟩
abbrev b_X_unnamed : ByteArray := prog_1_method_12_code
abbrev y_X_unnamed : MethodName := ⟨"CopperNets", "unnamed", "(I)I"⟩
abbrev b_X_same : ByteArray := prog_1_method_15_code
abbrev y_X_same : MethodName := ⟨"CopperNets", "same", "()Z"⟩
abbrev b_P_isThere : ByteArray := prog_5_method_7_code
abbrev y_P_isThere : MethodName := ⟨"CopperNets$Pieces", "isThere", "(I)Z"⟩
abbrev b_X_enter : ByteArray := prog_1_method_27_code
abbrev y_X_enter : MethodName := ⟨"CopperNets", "enter", "(LCopperNets$Groups;I)V"⟩
abbrev b_G_begin : ByteArray := prog_3_method_5_code
abbrev y_G_begin : MethodName := ⟨"CopperNets$Groups", "begin", "(I)V"⟩
abbrev b_P_touch : ByteArray := prog_5_method_10_code
abbrev y_P_touch : MethodName := ⟨"CopperNets$Pieces", "touch", "(II)Z"⟩
abbrev b_P_square : ByteArray := prog_5_method_11_code
abbrev y_P_square : MethodName := ⟨"CopperNets$Pieces", "square", "(II)J"⟩
abbrev b_P_gap : ByteArray := prog_5_method_12_code
abbrev y_P_gap : MethodName := ⟨"CopperNets$Pieces", "gap", "(JJJJ)J"⟩
abbrev b_G_join : ByteArray := prog_3_method_8_code
abbrev y_G_join : MethodName := ⟨"CopperNets$Groups", "join", "(II)V"⟩
abbrev b_G_isLike : ByteArray := prog_3_method_9_code
abbrev y_G_isLike : MethodName := ⟨"CopperNets$Groups", "isLike", "(LCopperNets$Groups;)Z"⟩
abbrev b_X_unreached : ByteArray := prog_1_method_16_code
abbrev y_X_unreached : MethodName := ⟨"CopperNets", "unreached", "(I)I"⟩
abbrev b_P_hasPadOf : ByteArray := prog_5_method_9_code
abbrev y_P_hasPadOf : MethodName := ⟨"CopperNets$Pieces", "hasPadOf", "(I)Z"⟩
abbrev b_X_exact : ByteArray := prog_1_method_17_code
abbrev y_X_exact : MethodName := ⟨"CopperNets", "exact", "()Z"⟩
abbrev b_X_drawAirlines : ByteArray := prog_1_method_38_code
abbrev y_X_drawAirlines : MethodName := ⟨"CopperNets", "drawAirlines", "(I)V"⟩
abbrev b_A_clear : ByteArray := prog_2_method_2_code
abbrev y_A_clear : MethodName := ⟨"CopperNets$Airlines", "clear", "()V"⟩
abbrev b_A_addPad : ByteArray := prog_2_method_3_code
abbrev y_A_addPad : MethodName := ⟨"CopperNets$Airlines", "addPad", "(I)V"⟩
abbrev b_A_draw : ByteArray := prog_2_method_6_code
abbrev y_A_draw : MethodName := ⟨"CopperNets$Airlines", "draw", "(LCopperNets$Pieces;LCopperNets$Groups;)V"⟩
abbrev b_A_reach : ByteArray := prog_2_method_8_code
abbrev y_A_reach : MethodName := ⟨"CopperNets$Airlines", "reach", "(ILCopperNets$Pieces;LCopperNets$Groups;)V"⟩
abbrev b_A_lookFrom : ByteArray := prog_2_method_9_code
abbrev y_A_lookFrom : MethodName := ⟨"CopperNets$Airlines", "lookFrom", "(ILCopperNets$Pieces;)V"⟩
abbrev b_Q_of : ByteArray := prog_4_method_2_code
abbrev y_Q_of : MethodName := ⟨"CopperNets$Pair", "of", "(JII)J"⟩
abbrev b_jM_min_J : ByteArray := prog_12_method_70_code
abbrev y_jM_min_J : MethodName := ⟨"java/lang/Math", "min", "(JJ)J"⟩
abbrev b_A_nearestPad : ByteArray := prog_2_method_7_code
abbrev y_A_nearestPad : MethodName := ⟨"CopperNets$Airlines", "nearestPad", "()I"⟩
abbrev b_A_insert : ByteArray := prog_2_method_10_code
abbrev y_A_insert : MethodName := ⟨"CopperNets$Airlines", "insert", "(J)V"⟩
abbrev b_L_cell : ByteArray := method_2_code
abbrev y_L_cell : MethodName := ⟨"CopperNetsLaw", "cell", "([II)I"⟩
abbrev b_L_shape : ByteArray := method_3_code
abbrev y_L_shape : MethodName := ⟨"CopperNetsLaw", "shape", "(LCopperNets;IJJJJ[J)I"⟩
abbrev b_X_shape : ByteArray := prog_1_method_2_code
abbrev y_X_shape : MethodName := ⟨"CopperNets", "shape", "(IJJJJ)I"⟩
abbrev b_X_checkLayer : ByteArray := prog_1_method_18_code
abbrev y_X_checkLayer : MethodName := ⟨"CopperNets", "checkLayer", "(I)V"⟩
abbrev b_X_checkPlace : ByteArray := prog_1_method_24_code
abbrev y_X_checkPlace : MethodName := ⟨"CopperNets", "checkPlace", "(JJ)V"⟩
abbrev b_X_checkSize : ByteArray := prog_1_method_25_code
abbrev y_X_checkSize : MethodName := ⟨"CopperNets", "checkSize", "(J)V"⟩
abbrev b_P_isFull : ByteArray := prog_5_method_2_code
abbrev y_P_isFull : MethodName := ⟨"CopperNets$Pieces", "isFull", "()Z"⟩
abbrev b_P_addRectangle : ByteArray := prog_5_method_3_code
abbrev y_P_addRectangle : MethodName := ⟨"CopperNets$Pieces", "addRectangle", "(IJJJJ)I"⟩
abbrev b_P_add : ByteArray := prog_5_method_5_code
abbrev y_P_add : MethodName := ⟨"CopperNets$Pieces", "add", "(III)I"⟩
abbrev b_X_takeIn : ByteArray := prog_1_method_26_code
abbrev y_X_takeIn : MethodName := ⟨"CopperNets", "takeIn", "(I)I"⟩
abbrev b_L_via : ByteArray := method_4_code
abbrev y_L_via : MethodName := ⟨"CopperNetsLaw", "via", "(LCopperNets;IIJJJ[J)I"⟩
abbrev b_X_via : ByteArray := prog_1_method_3_code
abbrev y_X_via : MethodName := ⟨"CopperNets", "via", "(IIJJJ)I"⟩
abbrev b_P_addDisc : ByteArray := prog_5_method_4_code
abbrev y_P_addDisc : MethodName := ⟨"CopperNets$Pieces", "addDisc", "(IIIJJJ)I"⟩
abbrev b_L_pad : ByteArray := method_5_code
abbrev y_L_pad : MethodName := ⟨"CopperNetsLaw", "pad", "(LCopperNets;IIJJJ[J)I"⟩
abbrev b_X_pad : ByteArray := prog_1_method_4_code
abbrev y_X_pad : MethodName := ⟨"CopperNets", "pad", "(IIJJJ)I"⟩
abbrev b_X_checkPin : ByteArray := prog_1_method_19_code
abbrev y_X_checkPin : MethodName := ⟨"CopperNets", "checkPin", "(I)V"⟩
abbrev b_L_plans : ByteArray := method_6_code
abbrev y_L_plans : MethodName := ⟨"CopperNetsLaw", "plans", "(LCopperNets;II[J)I"⟩
abbrev b_X_plans : ByteArray := prog_1_method_5_code
abbrev y_X_plans : MethodName := ⟨"CopperNets", "plans", "(II)Z"⟩
abbrev b_X_isNet : ByteArray := prog_1_method_20_code
abbrev y_X_isNet : MethodName := ⟨"CopperNets", "isNet", "(I)Z"⟩
abbrev b_L_netOf : ByteArray := method_7_code
abbrev y_L_netOf : MethodName := ⟨"CopperNetsLaw", "netOf", "(LCopperNets;I[J)I"⟩
abbrev b_X_netOf : ByteArray := prog_1_method_7_code
abbrev y_X_netOf : MethodName := ⟨"CopperNets", "netOf", "(I)I"⟩
abbrev b_X_checkPiece : ByteArray := prog_1_method_22_code
abbrev y_X_checkPiece : MethodName := ⟨"CopperNets", "checkPiece", "(I)V"⟩
abbrev b_L_opens : ByteArray := method_8_code
abbrev y_L_opens : MethodName := ⟨"CopperNetsLaw", "opens", "(LCopperNets;I[J)I"⟩
abbrev b_X_opens : ByteArray := prog_1_method_8_code
abbrev y_X_opens : MethodName := ⟨"CopperNets", "opens", "(I)I"⟩
abbrev b_X_checkNet : ByteArray := prog_1_method_21_code
abbrev y_X_checkNet : MethodName := ⟨"CopperNets", "checkNet", "(I)V"⟩
abbrev b_L_open : ByteArray := method_9_code
abbrev y_L_open : MethodName := ⟨"CopperNetsLaw", "open", "(LCopperNets;III[J)I"⟩
abbrev b_X_open : ByteArray := prog_1_method_9_code
abbrev y_X_open : MethodName := ⟨"CopperNets", "open", "(III)J"⟩
abbrev b_X_checkWhat : ByteArray := prog_1_method_23_code
abbrev y_X_checkWhat : MethodName := ⟨"CopperNets", "checkWhat", "(II)V"⟩
abbrev b_A_has : ByteArray := prog_2_method_4_code
abbrev y_A_has : MethodName := ⟨"CopperNets$Airlines", "has", "(I)Z"⟩
abbrev b_A_pairAt : ByteArray := prog_2_method_5_code
abbrev y_A_pairAt : MethodName := ⟨"CopperNets$Airlines", "pairAt", "(I)J"⟩
abbrev b_Q_square : ByteArray := prog_4_method_3_code
abbrev y_Q_square : MethodName := ⟨"CopperNets$Pair", "square", "(J)J"⟩
abbrev b_Q_piece : ByteArray := prog_4_method_4_code
abbrev y_Q_piece : MethodName := ⟨"CopperNets$Pair", "piece", "(JI)I"⟩
abbrev b_L_short2 : ByteArray := method_10_code
abbrev y_L_short2 : MethodName := ⟨"CopperNetsLaw", "short2", "(LCopperNets;II[J)I"⟩
abbrev b_X_short2 : ByteArray := prog_1_method_11_code
abbrev y_X_short2 : MethodName := ⟨"CopperNets", "short2", "(II)J"⟩
abbrev b_X_leaderOfShort : ByteArray := prog_1_method_34_code
abbrev y_X_leaderOfShort : MethodName := ⟨"CopperNets", "leaderOfShort", "(I)I"⟩
abbrev b_X_lowestNet : ByteArray := prog_1_method_35_code
abbrev y_X_lowestNet : MethodName := ⟨"CopperNets", "lowestNet", "(I)I"⟩
abbrev b_X_joinThatShorted : ByteArray := prog_1_method_36_code
abbrev y_X_joinThatShorted : MethodName := ⟨"CopperNets", "joinThatShorted", "(I)J"⟩
abbrev b_X_belowThatShorts : ByteArray := prog_1_method_37_code
abbrev y_X_belowThatShorts : MethodName := ⟨"CopperNets", "belowThatShorts", "(I)I"⟩
abbrev b_L_line : ByteArray := method_11_code
abbrev y_L_line : MethodName := ⟨"CopperNetsLaw", "line", "(LCopperNets;III[J)I"⟩
abbrev b_X_line : ByteArray := prog_1_method_13_code
abbrev y_X_line : MethodName := ⟨"CopperNets", "line", "(III)I"⟩
abbrev b_L_drop : ByteArray := method_12_code
abbrev y_L_drop : MethodName := ⟨"CopperNetsLaw", "drop", "(LCopperNets;I[J)I"⟩
abbrev b_X_drop : ByteArray := prog_1_method_14_code
abbrev y_X_drop : MethodName := ⟨"CopperNets", "drop", "(I)Z"⟩
abbrev b_P_remove : ByteArray := prog_5_method_6_code
abbrev y_P_remove : MethodName := ⟨"CopperNets$Pieces", "remove", "(I)V"⟩
abbrev b_X_partWithout : ByteArray := prog_1_method_28_code
abbrev y_X_partWithout : MethodName := ⟨"CopperNets", "partWithout", "(I)V"⟩
abbrev b_G_leave : ByteArray := prog_3_method_6_code
abbrev y_G_leave : MethodName := ⟨"CopperNets$Groups", "leave", "(I)V"⟩
abbrev b_G_follow : ByteArray := prog_3_method_7_code
abbrev y_G_follow : MethodName := ⟨"CopperNets$Groups", "follow", "(II)V"⟩
abbrev b_M_init : ByteArray := prog_7_method_1_code
abbrev y_M_init : MethodName := ⟨"CopperNetsModel", "<init>", "(I)V"⟩
abbrev b_M_thrown : ByteArray := prog_7_method_2_code
abbrev y_M_thrown : MethodName := ⟨"CopperNetsModel", "thrown", "()I"⟩
abbrev b_M_shape : ByteArray := prog_7_method_10_code
abbrev y_M_shape : MethodName := ⟨"CopperNetsModel", "shape", "(IJJJJ)I"⟩
abbrev b_M_isPlace : ByteArray := prog_7_method_7_code
abbrev y_M_isPlace : MethodName := ⟨"CopperNetsModel", "isPlace", "(JJ)Z"⟩
abbrev b_M_isSize : ByteArray := prog_7_method_8_code
abbrev y_M_isSize : MethodName := ⟨"CopperNetsModel", "isSize", "(J)Z"⟩
abbrev b_M_isLayer : ByteArray := prog_7_method_3_code
abbrev y_M_isLayer : MethodName := ⟨"CopperNetsModel", "isLayer", "(I)Z"⟩
abbrev b_M_add : ByteArray := prog_7_method_9_code
abbrev y_M_add : MethodName := ⟨"CopperNetsModel", "add", "(IIJJJJJI)I"⟩
abbrev b_M_via : ByteArray := prog_7_method_11_code
abbrev y_M_via : MethodName := ⟨"CopperNetsModel", "via", "(IIJJJ)I"⟩
abbrev b_M_pad : ByteArray := prog_7_method_12_code
abbrev y_M_pad : MethodName := ⟨"CopperNetsModel", "pad", "(IIJJJ)I"⟩
abbrev b_M_isPin : ByteArray := prog_7_method_5_code
abbrev y_M_isPin : MethodName := ⟨"CopperNetsModel", "isPin", "(I)Z"⟩
abbrev b_M_plans : ByteArray := prog_7_method_13_code
abbrev y_M_plans : MethodName := ⟨"CopperNetsModel", "plans", "(II)Z"⟩
abbrev b_M_isNet : ByteArray := prog_7_method_6_code
abbrev y_M_isNet : MethodName := ⟨"CopperNetsModel", "isNet", "(I)Z"⟩
abbrev b_M_drop : ByteArray := prog_7_method_14_code
abbrev y_M_drop : MethodName := ⟨"CopperNetsModel", "drop", "(I)Z"⟩
abbrev b_M_isPiece : ByteArray := prog_7_method_4_code
abbrev y_M_isPiece : MethodName := ⟨"CopperNetsModel", "isPiece", "(I)Z"⟩
abbrev b_M_run : ByteArray := prog_7_method_19_code
abbrev y_M_run : MethodName := ⟨"CopperNetsModel", "run", "()I"⟩
abbrev b_M_findNets : ByteArray := prog_7_method_18_code
abbrev y_M_findNets : MethodName := ⟨"CopperNetsModel", "findNets", "()I"⟩
abbrev b_M_findLabels : ByteArray := prog_7_method_17_code
abbrev y_M_findLabels : MethodName := ⟨"CopperNetsModel", "findLabels", "()V"⟩
abbrev b_M_touch : ByteArray := prog_7_method_16_code
abbrev y_M_touch : MethodName := ⟨"CopperNetsModel", "touch", "(II)Z"⟩
abbrev b_M_gap : ByteArray := prog_7_method_15_code
abbrev y_M_gap : MethodName := ⟨"CopperNetsModel", "gap", "(JJJJ)J"⟩
abbrev b_M_netOf : ByteArray := prog_7_method_20_code
abbrev y_M_netOf : MethodName := ⟨"CopperNetsModel", "netOf", "(I)I"⟩
abbrev b_M_opens : ByteArray := prog_7_method_28_code
abbrev y_M_opens : MethodName := ⟨"CopperNetsModel", "opens", "(I)I"⟩
abbrev b_M_countOpens : ByteArray := prog_7_method_27_code
abbrev y_M_countOpens : MethodName := ⟨"CopperNetsModel", "countOpens", "(I)I"⟩
abbrev b_M_nextAirline : ByteArray := prog_7_method_25_code
abbrev y_M_nextAirline : MethodName := ⟨"CopperNetsModel", "nextAirline", "(I)Z"⟩
abbrev b_M_planOf : ByteArray := prog_7_method_21_code
abbrev y_M_planOf : MethodName := ⟨"CopperNetsModel", "planOf", "(I)I"⟩
abbrev b_M_open : ByteArray := prog_7_method_29_code
abbrev y_M_open : MethodName := ⟨"CopperNetsModel", "open", "(III)J"⟩
abbrev b_M_findAirline : ByteArray := prog_7_method_26_code
abbrev y_M_findAirline : MethodName := ⟨"CopperNetsModel", "findAirline", "(II)Z"⟩
abbrev b_M_line : ByteArray := prog_7_method_30_code
abbrev y_M_line : MethodName := ⟨"CopperNetsModel", "line", "(III)I"⟩
abbrev b_M_shorts : ByteArray := prog_7_method_32_code
abbrev y_M_shorts : MethodName := ⟨"CopperNetsModel", "shorts", "()I"⟩
abbrev b_M_countShorts : ByteArray := prog_7_method_31_code
abbrev y_M_countShorts : MethodName := ⟨"CopperNetsModel", "countShorts", "()I"⟩
abbrev b_M_netsOf : ByteArray := prog_7_method_22_code
abbrev y_M_netsOf : MethodName := ⟨"CopperNetsModel", "netsOf", "(I)I"⟩
abbrev b_M_isShort : ByteArray := prog_7_method_23_code
abbrev y_M_isShort : MethodName := ⟨"CopperNetsModel", "isShort", "(I)Z"⟩
abbrev b_M_short2 : ByteArray := prog_7_method_36_code
abbrev y_M_short2 : MethodName := ⟨"CopperNetsModel", "short2", "(II)J"⟩
abbrev b_M_shortAt : ByteArray := prog_7_method_33_code
abbrev y_M_shortAt : MethodName := ⟨"CopperNetsModel", "shortAt", "(I)I"⟩
abbrev b_M_lowest : ByteArray := prog_7_method_24_code
abbrev y_M_lowest : MethodName := ⟨"CopperNetsModel", "lowest", "(I)I"⟩
abbrev b_M_findJoin : ByteArray := prog_7_method_35_code
abbrev y_M_findJoin : MethodName := ⟨"CopperNetsModel", "findJoin", "(I)V"⟩
abbrev b_M_netsOfGroup : ByteArray := prog_7_method_34_code
abbrev y_M_netsOfGroup : MethodName := ⟨"CopperNetsModel", "netsOfGroup", "(I)I"⟩
abbrev b_M_unnamed : ByteArray := prog_7_method_37_code
abbrev y_M_unnamed : MethodName := ⟨"CopperNetsModel", "unnamed", "(I)I"⟩
abbrev b_M_unreached : ByteArray := prog_7_method_40_code
abbrev y_M_unreached : MethodName := ⟨"CopperNetsModel", "unreached", "(I)I"⟩
abbrev b_M_unreachedAt : ByteArray := prog_7_method_39_code
abbrev y_M_unreachedAt : MethodName := ⟨"CopperNetsModel", "unreachedAt", "(I)I"⟩
abbrev b_M_hasPad : ByteArray := prog_7_method_38_code
abbrev y_M_hasPad : MethodName := ⟨"CopperNetsModel", "hasPad", "(I)Z"⟩
abbrev b_M_same : ByteArray := prog_7_method_41_code
abbrev y_M_same : MethodName := ⟨"CopperNetsModel", "same", "()Z"⟩
abbrev b_M_exact : ByteArray := prog_7_method_42_code
abbrev y_M_exact : MethodName := ⟨"CopperNetsModel", "exact", "()Z"⟩
end
section
/-! BASE: one list of words for all methods; a judgement that bundles the walk's state; a row an instruction. -/
def cn_tb : List Cond := lw_tbl.filter goodWord
theorem cn_in {w : Cond} (h : w ∈ lw_tbl) (g : goodWord w = true) : w ∈ cn_tb := List.mem_filter.mpr ⟨h, g⟩
theorem cn_t {w : Cond} (i : Nat) (h : tables_1[i]? = some w) (g : goodWord w = true) : w ∈ cn_tb := cn_in (List.mem_append_right _ (List.mem_of_getElem? h)) g
theorem cn_s {w : Cond} (i : Nat) (h : (k2_sels lw_privs)[i]? = some w) (g : goodWord w = true) : w ∈ cn_tb := cn_in (List.mem_append_left _ (List.mem_of_getElem? h)) g
theorem cn_gi {y : MethodName} {b : ByteArray} {n : Nat} {r : Option FieldType} (h : Cond.code y b n r ∈ cn_tb) : GoodIn cn_tb (.code y b n r :: cn_tb) := by
  intro w hw
  have h1 : w ∈ cn_tb := by
    rcases List.mem_cons.mp hw with e | e
    · rw [e]; exact h
    · exact e
  exact ⟨h1, good_of_word (List.mem_filter.mp h1).2⟩
/-- the words on a nest mate's members: they stay true as the tables warm, but are no 'good' words -/
def cn_N (U : State) : Prop := (∀ q ∈ cn_nwM, va_Nw (.methodLinkNest q.1 q.2.1 q.2.2.1 q.2.2.2) U) ∧ ∀ q ∈ cn_nwF, va_Nw (.fieldLinkNest q.1 q.2.1 q.2.2.1 q.2.2.2.1 q.2.2.2.2.1 q.2.2.2.2.2) U
theorem cn_N.warm {s U : State} (hW : s.WarmedH U.vm) (h : cn_N s) : cn_N U := ⟨fun q hq => va_Nw.warmM hW (h.1 q hq), fun q hq => va_Nw.warmF hW (h.2 q hq)⟩
theorem cn_N.same {s U : State} (hv : s.vm = U.vm) (h : cn_N s) : cn_N U := ⟨fun q hq => va_Nw.same rfl hv (h.1 q hq), fun q hq => va_Nw.same rfl hv (h.2 q hq)⟩
abbrev cn_ty (cy : Nat → ClassId) : List (ClassId × FieldType) := [(cy 0, .int), (cy 1, .long), (cy 2, .boolean)]
/-- what stays the same over a method's walk -/
def cn_X (p : Program) (s : State) (m : MethodId) (args : Array Value) (c : Code) (cc : ByteArray) (nL : Nat) (own : String) (D : va_G) (cy : Nat → ClassId) : Prop :=
  p.tables.exec = Jvm.exec ∧ c.code = cc ∧ c.maxLocals = nL ∧ s.vm.findClass own = some m.cls ∧ (∀ w ∈ cn_tb, w.before args s = true) ∧ va_K D cn_cl (cn_ty cy) s ∧ cn_N s
/-- the walk, with its heap and locals said by lists -/
def cg (p : Program) (l : Launch) (e : Env) (R : Room) (s : State) (m : MethodId) (args : Array Value) (below : List Frame) (meth : Method) (c : Code) (D : va_G) (Hi : Heap → List Loc → Prop) (A : Nat → Prop) (nL cells slots : Nat) (Q : State → Prop) (ws : va_W) (pc : Nat) (lv : List (Nat × Value)) (st : List Value) : Prop :=
  ∀ (H : Heap) (locs : List Loc) (ls : Array Slot), va_P D cn_cl ws H → va_D A ws → Hi H locs → lv_has ls nL lv → W p l e R s m args below meth c H locs cells slots Q (F0 m pc ls st)
section CG
variable {p : Program} {l : Launch} {e : Env} {R : Room} {s : State} {m : MethodId} {args : Array Value} {below : List Frame} {meth : Method} {c : Code} {D : va_G} {Hi : Heap → List Loc → Prop} {A : Nat → Prop} {nL cells slots : Nat} {Q : State → Prop} {ws : va_W} {pc : Nat} {lv : List (Nat × Value)} {st : List Value} {cc : ByteArray} {own : String} {cy : Nat → ClassId}
theorem cg_sub (ks : List Nat) {lv' : List (Nat × Value)} (hl : lv_pick lv ks = lv') (k : cg p l e R s m args below meth c D Hi A nL cells slots Q ws pc lv' st) : cg p l e R s m args below meth c D Hi A nL cells slots Q ws pc lv st :=
  fun H locs ls hP hD hS h => k H locs ls hP hD hS (lv_sub h ks hl)
theorem cg_iconst (C : cn_X p s m args c cc nL own D cy) {n : Int} {v : Int32} (hd : decode cc pc = .ok (.iconst n, 1)) (hv : Int32.ofInt n = v) (k : cg p l e R s m args below meth c D Hi A nL cells slots Q ws (pc + 1) lv (.int v :: st)) : cg p l e R s m args below meth c D Hi A nL cells slots Q ws pc lv st :=
  fun H locs ls hP hD hS h => lv_iconst C.1 C.2.1 hd hv (k H locs ls hP hD hS h)
theorem cg_bipush (C : cn_X p s m args c cc nL own D cy) {n : Int} {v : Int32} (hd : decode cc pc = .ok (.bipush n, 2)) (hv : (Int8.ofInt n).toInt32 = v) (k : cg p l e R s m args below meth c D Hi A nL cells slots Q ws (pc + 2) lv (.int v :: st)) : cg p l e R s m args below meth c D Hi A nL cells slots Q ws pc lv st :=
  fun H locs ls hP hD hS h => lv_bipush C.1 C.2.1 hd hv (k H locs ls hP hD hS h)
theorem cg_lconst (C : cn_X p s m args c cc nL own D cy) {n : Fin 2} {v : Int64} (hd : decode cc pc = .ok (.lconst n, 1)) (hv : Int64.ofNat (n : Nat) = v) (k : cg p l e R s m args below meth c D Hi A nL cells slots Q ws (pc + 1) lv (.long v :: st)) : cg p l e R s m args below meth c D Hi A nL cells slots Q ws pc lv st :=
  fun H locs ls hP hD hS h => lv_lconst C.1 C.2.1 hd hv (k H locs ls hP hD hS h)
theorem cg_ldcw (C : cn_X p s m args c cc nL own D cy) {ix : Nat} {v : Int32} (hd : decode cc pc = .ok (.ldc_w ix, 3)) (hw : Cond.constant own ix v ∈ cn_tb) (k : cg p l e R s m args below meth c D Hi A nL cells slots Q ws (pc + 3) lv (.int v :: st)) : cg p l e R s m args below meth c D Hi A nL cells slots Q ws pc lv st :=
  fun H locs ls hP hD hS h => lv_ldcw C.1 C.2.1 C.2.2.2.1 (C.2.2.2.2.1 _ hw) hd (k H locs ls hP hD hS h)
theorem cg_ldc2 (C : cn_X p s m args c cc nL own D cy) {ix : Nat} {v : Int64} (hd : decode cc pc = .ok (.ldc2_w ix, 3)) (hw : Cond.constantLong own ix v ∈ cn_tb) (k : cg p l e R s m args below meth c D Hi A nL cells slots Q ws (pc + 3) lv (.long v :: st)) : cg p l e R s m args below meth c D Hi A nL cells slots Q ws pc lv st :=
  fun H locs ls hP hD hS h => lv_ldc2 C.1 C.2.1 C.2.2.2.1 (C.2.2.2.2.1 _ hw) hd (k H locs ls hP hD hS h)
theorem cg_iload_n (C : cn_X p s m args c cc nL own D cy) {i : Fin 4} {x : Int32} (hd : decode cc pc = .ok (.iload_n i, 1)) (j : Nat) (hj : lv[j]? = some ((i : Nat), .int x)) (k : cg p l e R s m args below meth c D Hi A nL cells slots Q ws (pc + 1) lv (.int x :: st)) : cg p l e R s m args below meth c D Hi A nL cells slots Q ws pc lv st :=
  fun H locs ls hP hD hS h => lv_iload_n C.1 C.2.1 hd rfl (lv_at h j hj) (k H locs ls hP hD hS h)
theorem cg_iload (C : cn_X p s m args c cc nL own D cy) {i : Nat} {x : Int32} (hd : decode cc pc = .ok (.iload i, 2)) (j : Nat) (hj : lv[j]? = some (i, .int x)) (k : cg p l e R s m args below meth c D Hi A nL cells slots Q ws (pc + 2) lv (.int x :: st)) : cg p l e R s m args below meth c D Hi A nL cells slots Q ws pc lv st :=
  fun H locs ls hP hD hS h => lv_iload C.1 C.2.1 hd (lv_at h j hj) (k H locs ls hP hD hS h)
theorem cg_lload_n (C : cn_X p s m args c cc nL own D cy) {i : Fin 4} {x : Int64} (hd : decode cc pc = .ok (.lload_n i, 1)) (j : Nat) (hj : lv[j]? = some ((i : Nat), .long x)) (k : cg p l e R s m args below meth c D Hi A nL cells slots Q ws (pc + 1) lv (.long x :: st)) : cg p l e R s m args below meth c D Hi A nL cells slots Q ws pc lv st :=
  fun H locs ls hP hD hS h => lv_lload_n C.1 C.2.1 hd rfl (lv_at h j hj) (k H locs ls hP hD hS h)
theorem cg_lload (C : cn_X p s m args c cc nL own D cy) {i : Nat} {x : Int64} (hd : decode cc pc = .ok (.lload i, 2)) (j : Nat) (hj : lv[j]? = some (i, .long x)) (k : cg p l e R s m args below meth c D Hi A nL cells slots Q ws (pc + 2) lv (.long x :: st)) : cg p l e R s m args below meth c D Hi A nL cells slots Q ws pc lv st :=
  fun H locs ls hP hD hS h => lv_lload C.1 C.2.1 hd (lv_at h j hj) (k H locs ls hP hD hS h)
theorem cg_aload_n (C : cn_X p s m args c cc nL own D cy) {i : Fin 4} {x : Nat} (hd : decode cc pc = .ok (.aload_n i, 1)) (j : Nat) (hj : lv[j]? = some ((i : Nat), .ref x)) (k : cg p l e R s m args below meth c D Hi A nL cells slots Q ws (pc + 1) lv (.ref x :: st)) : cg p l e R s m args below meth c D Hi A nL cells slots Q ws pc lv st :=
  fun H locs ls hP hD hS h => lv_aload_n C.1 C.2.1 hd rfl (lv_at h j hj) (k H locs ls hP hD hS h)
theorem cg_aload (C : cn_X p s m args c cc nL own D cy) {i : Nat} {x : Nat} (hd : decode cc pc = .ok (.aload i, 2)) (j : Nat) (hj : lv[j]? = some (i, .ref x)) (k : cg p l e R s m args below meth c D Hi A nL cells slots Q ws (pc + 2) lv (.ref x :: st)) : cg p l e R s m args below meth c D Hi A nL cells slots Q ws pc lv st :=
  fun H locs ls hP hD hS h => lv_aload C.1 C.2.1 hd (lv_at h j hj) (k H locs ls hP hD hS h)
abbrev cn_st1 (i : Nat) (v : Value) (lv : List (Nat × Value)) : List (Nat × Value) := (i, v) :: lv.filter (fun q => !(q.1 == i) && !(q.1 + 1 == i && q.2.category == 2))
abbrev cn_st2 (i : Nat) (v : Value) (lv : List (Nat × Value)) : List (Nat × Value) := (i, v) :: lv.filter (fun q => !(q.1 == i) && (!(q.1 == i + 1) && !(q.1 + 1 == i && q.2.category == 2)))
theorem cg_istore_n (C : cn_X p s m args c cc nL own D cy) {i : Fin 4} {x : Int32} {lv' : List (Nat × Value)} (hd : decode cc pc = .ok (.istore_n i, 1)) (hn : (i : Nat) < nL) (hl : cn_st1 i (.int x) lv = lv') (k : cg p l e R s m args below meth c D Hi A nL cells slots Q ws (pc + 1) lv' st) : cg p l e R s m args below meth c D Hi A nL cells slots Q ws pc lv (.int x :: st) :=
  fun H locs ls hP hD hS h => lv_istore_n C.1 C.2.1 hd rfl h hn hl (fun ls' h' => k H locs ls' hP hD hS h')
theorem cg_istore (C : cn_X p s m args c cc nL own D cy) {i : Nat} {x : Int32} {lv' : List (Nat × Value)} (hd : decode cc pc = .ok (.istore i, 2)) (hn : i < nL) (hl : cn_st1 i (.int x) lv = lv') (k : cg p l e R s m args below meth c D Hi A nL cells slots Q ws (pc + 2) lv' st) : cg p l e R s m args below meth c D Hi A nL cells slots Q ws pc lv (.int x :: st) :=
  fun H locs ls hP hD hS h => lv_istore C.1 C.2.1 hd h hn hl (fun ls' h' => k H locs ls' hP hD hS h')
theorem cg_lstore_n (C : cn_X p s m args c cc nL own D cy) {i : Fin 4} {x : Int64} {lv' : List (Nat × Value)} (hd : decode cc pc = .ok (.lstore_n i, 1)) (hn : (i : Nat) + 1 < nL) (hl : cn_st2 i (.long x) lv = lv') (k : cg p l e R s m args below meth c D Hi A nL cells slots Q ws (pc + 1) lv' st) : cg p l e R s m args below meth c D Hi A nL cells slots Q ws pc lv (.long x :: st) :=
  fun H locs ls hP hD hS h => lv_lstore_n C.1 C.2.1 hd rfl h hn hl (fun ls' h' => k H locs ls' hP hD hS h')
theorem cg_lstore (C : cn_X p s m args c cc nL own D cy) {i : Nat} {x : Int64} {lv' : List (Nat × Value)} (hd : decode cc pc = .ok (.lstore i, 2)) (hn : i + 1 < nL) (hl : cn_st2 i (.long x) lv = lv') (k : cg p l e R s m args below meth c D Hi A nL cells slots Q ws (pc + 2) lv' st) : cg p l e R s m args below meth c D Hi A nL cells slots Q ws pc lv (.long x :: st) :=
  fun H locs ls hP hD hS h => lv_lstore C.1 C.2.1 hd h hn hl (fun ls' h' => k H locs ls' hP hD hS h')
theorem cg_astore_n (C : cn_X p s m args c cc nL own D cy) {i : Fin 4} {x : Nat} {lv' : List (Nat × Value)} (hd : decode cc pc = .ok (.astore_n i, 1)) (hn : (i : Nat) < nL) (hl : cn_st1 i (.ref x) lv = lv') (k : cg p l e R s m args below meth c D Hi A nL cells slots Q ws (pc + 1) lv' st) : cg p l e R s m args below meth c D Hi A nL cells slots Q ws pc lv (.ref x :: st) :=
  fun H locs ls hP hD hS h => lv_astore_n C.1 C.2.1 hd rfl h hn hl (fun ls' h' => k H locs ls' hP hD hS h')
theorem cg_astore (C : cn_X p s m args c cc nL own D cy) {i : Nat} {x : Nat} {lv' : List (Nat × Value)} (hd : decode cc pc = .ok (.astore i, 2)) (hn : i < nL) (hl : cn_st1 i (.ref x) lv = lv') (k : cg p l e R s m args below meth c D Hi A nL cells slots Q ws (pc + 2) lv' st) : cg p l e R s m args below meth c D Hi A nL cells slots Q ws pc lv (.ref x :: st) :=
  fun H locs ls hP hD hS h => lv_astore C.1 C.2.1 hd h hn hl (fun ls' h' => k H locs ls' hP hD hS h')
theorem cg_iinc (C : cn_X p s m args c cc nL own D cy) {i : Nat} {n : Int} {x v : Int32} {lv' : List (Nat × Value)} (hd : decode cc pc = .ok (.iinc i n, 3)) (j : Nat) (hj : lv[j]? = some (i, .int x)) (hn : i < nL) (hv : x + Int32.ofInt n = v) (hl : cn_st1 i (.int v) lv = lv') (k : cg p l e R s m args below meth c D Hi A nL cells slots Q ws (pc + 3) lv' st) : cg p l e R s m args below meth c D Hi A nL cells slots Q ws pc lv st :=
  fun H locs ls hP hD hS h => lv_iinc C.1 C.2.1 hd h hj hv hn hl (fun ls' h' => k H locs ls' hP hD hS h')
theorem cg_dup (C : cn_X p s m args c cc nL own D cy) {v : Value} (hd : decode cc pc = .ok (.dup, 1)) (hv : v.category = 1) (k : cg p l e R s m args below meth c D Hi A nL cells slots Q ws (pc + 1) lv (v :: v :: st)) : cg p l e R s m args below meth c D Hi A nL cells slots Q ws pc lv (v :: st) :=
  fun H locs ls hP hD hS h => lv_dup C.1 C.2.1 hd hv (k H locs ls hP hD hS h)
theorem cg_pop (C : cn_X p s m args c cc nL own D cy) {v : Value} (hd : decode cc pc = .ok (.pop, 1)) (hv : v.category = 1) (k : cg p l e R s m args below meth c D Hi A nL cells slots Q ws (pc + 1) lv st) : cg p l e R s m args below meth c D Hi A nL cells slots Q ws pc lv (v :: st) :=
  fun H locs ls hP hD hS h => lv_pop C.1 C.2.1 hd hv (k H locs ls hP hD hS h)
theorem cg_dup2 (C : cn_X p s m args c cc nL own D cy) {v w : Value} (hd : decode cc pc = .ok (.dup2, 1)) (hv : v.category = 1) (hw : w.category = 1) (k : cg p l e R s m args below meth c D Hi A nL cells slots Q ws (pc + 1) lv (v :: w :: v :: w :: st)) : cg p l e R s m args below meth c D Hi A nL cells slots Q ws pc lv (v :: w :: st) :=
  fun H locs ls hP hD hS h => lv_dup2_11 C.1 C.2.1 hd hv hw (k H locs ls hP hD hS h)
theorem cg_goto (C : cn_X p s m args c cc nL own D cy) {off : Int} (tgt : Nat) (hd : decode cc pc = .ok (.goto off, 3)) (ht : (pc : Int) + off = (tgt : Int)) (k : cg p l e R s m args below meth c D Hi A nL cells slots Q ws tgt lv st) : cg p l e R s m args below meth c D Hi A nL cells slots Q ws pc lv st :=
  fun H locs ls hP hD hS h => lv_goto C.1 C.2.1 hd ht (k H locs ls hP hD hS h)
theorem cg_iadd (C : cn_X p s m args c cc nL own D cy) {x y : Int32} (hd : decode cc pc = .ok (.iadd, 1)) (k : cg p l e R s m args below meth c D Hi A nL cells slots Q ws (pc + 1) lv (.int (x + y) :: st)) : cg p l e R s m args below meth c D Hi A nL cells slots Q ws pc lv (.int y :: .int x :: st) :=
  fun H locs ls hP hD hS h => lv_iadd C.1 C.2.1 hd (k H locs ls hP hD hS h)
theorem cg_isub (C : cn_X p s m args c cc nL own D cy) {x y : Int32} (hd : decode cc pc = .ok (.isub, 1)) (k : cg p l e R s m args below meth c D Hi A nL cells slots Q ws (pc + 1) lv (.int (x - y) :: st)) : cg p l e R s m args below meth c D Hi A nL cells slots Q ws pc lv (.int y :: .int x :: st) :=
  fun H locs ls hP hD hS h => lv_isub C.1 C.2.1 hd (k H locs ls hP hD hS h)
theorem cg_imul (C : cn_X p s m args c cc nL own D cy) {x y : Int32} (hd : decode cc pc = .ok (.imul, 1)) (k : cg p l e R s m args below meth c D Hi A nL cells slots Q ws (pc + 1) lv (.int (x * y) :: st)) : cg p l e R s m args below meth c D Hi A nL cells slots Q ws pc lv (.int y :: .int x :: st) :=
  fun H locs ls hP hD hS h => lv_imul C.1 C.2.1 hd (k H locs ls hP hD hS h)
theorem cg_iand (C : cn_X p s m args c cc nL own D cy) {x y : Int32} (hd : decode cc pc = .ok (.iand, 1)) (k : cg p l e R s m args below meth c D Hi A nL cells slots Q ws (pc + 1) lv (.int (x &&& y) :: st)) : cg p l e R s m args below meth c D Hi A nL cells slots Q ws pc lv (.int y :: .int x :: st) :=
  fun H locs ls hP hD hS h => lv_iand C.1 C.2.1 hd (k H locs ls hP hD hS h)
theorem cg_ior (C : cn_X p s m args c cc nL own D cy) {x y : Int32} (hd : decode cc pc = .ok (.ior, 1)) (k : cg p l e R s m args below meth c D Hi A nL cells slots Q ws (pc + 1) lv (.int (x ||| y) :: st)) : cg p l e R s m args below meth c D Hi A nL cells slots Q ws pc lv (.int y :: .int x :: st) :=
  fun H locs ls hP hD hS h => lv_ior C.1 C.2.1 hd (k H locs ls hP hD hS h)
theorem cg_ixor (C : cn_X p s m args c cc nL own D cy) {x y : Int32} (hd : decode cc pc = .ok (.ixor, 1)) (k : cg p l e R s m args below meth c D Hi A nL cells slots Q ws (pc + 1) lv (.int (x ^^^ y) :: st)) : cg p l e R s m args below meth c D Hi A nL cells slots Q ws pc lv (.int y :: .int x :: st) :=
  fun H locs ls hP hD hS h => lv_ixor C.1 C.2.1 hd (k H locs ls hP hD hS h)
theorem cg_ishl (C : cn_X p s m args c cc nL own D cy) {x y : Int32} (hd : decode cc pc = .ok (.ishl, 1)) (k : cg p l e R s m args below meth c D Hi A nL cells slots Q ws (pc + 1) lv (.int (x <<< (y &&& 31)) :: st)) : cg p l e R s m args below meth c D Hi A nL cells slots Q ws pc lv (.int y :: .int x :: st) :=
  fun H locs ls hP hD hS h => lv_ishl C.1 C.2.1 hd (k H locs ls hP hD hS h)
theorem cg_ishr (C : cn_X p s m args c cc nL own D cy) {x y : Int32} (hd : decode cc pc = .ok (.ishr, 1)) (k : cg p l e R s m args below meth c D Hi A nL cells slots Q ws (pc + 1) lv (.int (x >>> (y &&& 31)) :: st)) : cg p l e R s m args below meth c D Hi A nL cells slots Q ws pc lv (.int y :: .int x :: st) :=
  fun H locs ls hP hD hS h => lv_ishr C.1 C.2.1 hd (k H locs ls hP hD hS h)
theorem cg_ladd (C : cn_X p s m args c cc nL own D cy) {x y : Int64} (hd : decode cc pc = .ok (.ladd, 1)) (k : cg p l e R s m args below meth c D Hi A nL cells slots Q ws (pc + 1) lv (.long (x + y) :: st)) : cg p l e R s m args below meth c D Hi A nL cells slots Q ws pc lv (.long y :: .long x :: st) :=
  fun H locs ls hP hD hS h => lv_ladd C.1 C.2.1 hd (k H locs ls hP hD hS h)
theorem cg_lsub (C : cn_X p s m args c cc nL own D cy) {x y : Int64} (hd : decode cc pc = .ok (.lsub, 1)) (k : cg p l e R s m args below meth c D Hi A nL cells slots Q ws (pc + 1) lv (.long (x - y) :: st)) : cg p l e R s m args below meth c D Hi A nL cells slots Q ws pc lv (.long y :: .long x :: st) :=
  fun H locs ls hP hD hS h => lv_lsub C.1 C.2.1 hd (k H locs ls hP hD hS h)
theorem cg_lmul (C : cn_X p s m args c cc nL own D cy) {x y : Int64} (hd : decode cc pc = .ok (.lmul, 1)) (k : cg p l e R s m args below meth c D Hi A nL cells slots Q ws (pc + 1) lv (.long (x * y) :: st)) : cg p l e R s m args below meth c D Hi A nL cells slots Q ws pc lv (.long y :: .long x :: st) :=
  fun H locs ls hP hD hS h => lv_lmul C.1 C.2.1 hd (k H locs ls hP hD hS h)
theorem cg_land (C : cn_X p s m args c cc nL own D cy) {x y : Int64} (hd : decode cc pc = .ok (.land, 1)) (k : cg p l e R s m args below meth c D Hi A nL cells slots Q ws (pc + 1) lv (.long (x &&& y) :: st)) : cg p l e R s m args below meth c D Hi A nL cells slots Q ws pc lv (.long y :: .long x :: st) :=
  fun H locs ls hP hD hS h => lv_land C.1 C.2.1 hd (k H locs ls hP hD hS h)
theorem cg_lor (C : cn_X p s m args c cc nL own D cy) {x y : Int64} (hd : decode cc pc = .ok (.lor, 1)) (k : cg p l e R s m args below meth c D Hi A nL cells slots Q ws (pc + 1) lv (.long (x ||| y) :: st)) : cg p l e R s m args below meth c D Hi A nL cells slots Q ws pc lv (.long y :: .long x :: st) :=
  fun H locs ls hP hD hS h => lv_lor C.1 C.2.1 hd (k H locs ls hP hD hS h)
theorem cg_lxor (C : cn_X p s m args c cc nL own D cy) {x y : Int64} (hd : decode cc pc = .ok (.lxor, 1)) (k : cg p l e R s m args below meth c D Hi A nL cells slots Q ws (pc + 1) lv (.long (x ^^^ y) :: st)) : cg p l e R s m args below meth c D Hi A nL cells slots Q ws pc lv (.long y :: .long x :: st) :=
  fun H locs ls hP hD hS h => lv_lxor C.1 C.2.1 hd (k H locs ls hP hD hS h)
theorem cg_iushr (C : cn_X p s m args c cc nL own D cy) {x y : Int32} (hd : decode cc pc = .ok (.iushr, 1)) (k : cg p l e R s m args below meth c D Hi A nL cells slots Q ws (pc + 1) lv (.int ((x.toUInt32 >>> (y.toUInt32 &&& Int32.toUInt32 31)).toInt32) :: st)) : cg p l e R s m args below meth c D Hi A nL cells slots Q ws pc lv (.int y :: .int x :: st) :=
  fun H locs ls hP hD hS h => lv_iushr C.1 C.2.1 hd rfl (k H locs ls hP hD hS h)
theorem cg_lshl (C : cn_X p s m args c cc nL own D cy) {x : Int64} {y : Int32} (hd : decode cc pc = .ok (.lshl, 1)) (k : cg p l e R s m args below meth c D Hi A nL cells slots Q ws (pc + 1) lv (.long (x <<< (y.toInt64 &&& 63)) :: st)) : cg p l e R s m args below meth c D Hi A nL cells slots Q ws pc lv (.int y :: .long x :: st) :=
  fun H locs ls hP hD hS h => lv_lshl C.1 C.2.1 hd rfl (k H locs ls hP hD hS h)
theorem cg_lshr (C : cn_X p s m args c cc nL own D cy) {x : Int64} {y : Int32} (hd : decode cc pc = .ok (.lshr, 1)) (k : cg p l e R s m args below meth c D Hi A nL cells slots Q ws (pc + 1) lv (.long (x >>> (y.toInt64 &&& 63)) :: st)) : cg p l e R s m args below meth c D Hi A nL cells slots Q ws pc lv (.int y :: .long x :: st) :=
  fun H locs ls hP hD hS h => lv_lshr C.1 C.2.1 hd rfl (k H locs ls hP hD hS h)
theorem cg_i2l (C : cn_X p s m args c cc nL own D cy) {x : Int32} (hd : decode cc pc = .ok (.i2l, 1)) (k : cg p l e R s m args below meth c D Hi A nL cells slots Q ws (pc + 1) lv (.long x.toInt64 :: st)) : cg p l e R s m args below meth c D Hi A nL cells slots Q ws pc lv (.int x :: st) :=
  fun H locs ls hP hD hS h => lv_i2l C.1 C.2.1 hd rfl (k H locs ls hP hD hS h)
theorem cg_l2i (C : cn_X p s m args c cc nL own D cy) {x : Int64} (hd : decode cc pc = .ok (.l2i, 1)) (k : cg p l e R s m args below meth c D Hi A nL cells slots Q ws (pc + 1) lv (.int x.toInt32 :: st)) : cg p l e R s m args below meth c D Hi A nL cells slots Q ws pc lv (.long x :: st) :=
  fun H locs ls hP hD hS h => lv_l2i C.1 C.2.1 hd rfl (k H locs ls hP hD hS h)
theorem cg_lcmp (C : cn_X p s m args c cc nL own D cy) {x y : Int64} (hd : decode cc pc = .ok (.lcmp, 1)) (k : cg p l e R s m args below meth c D Hi A nL cells slots Q ws (pc + 1) lv (.int (lg_cmp x y) :: st)) : cg p l e R s m args below meth c D Hi A nL cells slots Q ws pc lv (.long y :: .long x :: st) :=
  fun H locs ls hP hD hS h => W.lcmp C.1 C.2.1 hd (k H locs ls hP hD hS h)
theorem cg_if_eq (C : cn_X p s m args c cc nL own D cy) {x : Int32} {off : Int} (tgt : Nat) (hd : decode cc pc = .ok (.ifCond .eq off, 3)) (ht : (pc : Int) + off = (tgt : Int)) (kt : x = 0 → cg p l e R s m args below meth c D Hi A nL cells slots Q ws tgt lv st) (kf : ¬ x = 0 → cg p l e R s m args below meth c D Hi A nL cells slots Q ws (pc + 3) lv st) : cg p l e R s m args below meth c D Hi A nL cells slots Q ws pc lv (.int x :: st) :=
  fun H locs ls hP hD hS h => lv_if_eq C.1 C.2.1 hd ht (fun q => kt q H locs ls hP hD hS h) (fun q => kf q H locs ls hP hD hS h)
theorem cg_if_ne (C : cn_X p s m args c cc nL own D cy) {x : Int32} {off : Int} (tgt : Nat) (hd : decode cc pc = .ok (.ifCond .ne off, 3)) (ht : (pc : Int) + off = (tgt : Int)) (kt : ¬ x = 0 → cg p l e R s m args below meth c D Hi A nL cells slots Q ws tgt lv st) (kf : x = 0 → cg p l e R s m args below meth c D Hi A nL cells slots Q ws (pc + 3) lv st) : cg p l e R s m args below meth c D Hi A nL cells slots Q ws pc lv (.int x :: st) :=
  fun H locs ls hP hD hS h => lv_if_ne C.1 C.2.1 hd ht (fun q => kt q H locs ls hP hD hS h) (fun q => kf q H locs ls hP hD hS h)
theorem cg_if_lt (C : cn_X p s m args c cc nL own D cy) {x : Int32} {off : Int} (tgt : Nat) (hd : decode cc pc = .ok (.ifCond .lt off, 3)) (ht : (pc : Int) + off = (tgt : Int)) (kt : x < 0 → cg p l e R s m args below meth c D Hi A nL cells slots Q ws tgt lv st) (kf : ¬ x < 0 → cg p l e R s m args below meth c D Hi A nL cells slots Q ws (pc + 3) lv st) : cg p l e R s m args below meth c D Hi A nL cells slots Q ws pc lv (.int x :: st) :=
  fun H locs ls hP hD hS h => lv_if_lt C.1 C.2.1 hd ht (fun q => kt q H locs ls hP hD hS h) (fun q => kf q H locs ls hP hD hS h)
theorem cg_if_ge (C : cn_X p s m args c cc nL own D cy) {x : Int32} {off : Int} (tgt : Nat) (hd : decode cc pc = .ok (.ifCond .ge off, 3)) (ht : (pc : Int) + off = (tgt : Int)) (kt : 0 ≤ x → cg p l e R s m args below meth c D Hi A nL cells slots Q ws tgt lv st) (kf : ¬ 0 ≤ x → cg p l e R s m args below meth c D Hi A nL cells slots Q ws (pc + 3) lv st) : cg p l e R s m args below meth c D Hi A nL cells slots Q ws pc lv (.int x :: st) :=
  fun H locs ls hP hD hS h => lv_if_ge C.1 C.2.1 hd ht (fun q => kt q H locs ls hP hD hS h) (fun q => kf q H locs ls hP hD hS h)
theorem cg_if_gt (C : cn_X p s m args c cc nL own D cy) {x : Int32} {off : Int} (tgt : Nat) (hd : decode cc pc = .ok (.ifCond .gt off, 3)) (ht : (pc : Int) + off = (tgt : Int)) (kt : 0 < x → cg p l e R s m args below meth c D Hi A nL cells slots Q ws tgt lv st) (kf : ¬ 0 < x → cg p l e R s m args below meth c D Hi A nL cells slots Q ws (pc + 3) lv st) : cg p l e R s m args below meth c D Hi A nL cells slots Q ws pc lv (.int x :: st) :=
  fun H locs ls hP hD hS h => lv_if_gt C.1 C.2.1 hd ht (fun q => kt q H locs ls hP hD hS h) (fun q => kf q H locs ls hP hD hS h)
theorem cg_if_le (C : cn_X p s m args c cc nL own D cy) {x : Int32} {off : Int} (tgt : Nat) (hd : decode cc pc = .ok (.ifCond .le off, 3)) (ht : (pc : Int) + off = (tgt : Int)) (kt : x ≤ 0 → cg p l e R s m args below meth c D Hi A nL cells slots Q ws tgt lv st) (kf : ¬ x ≤ 0 → cg p l e R s m args below meth c D Hi A nL cells slots Q ws (pc + 3) lv st) : cg p l e R s m args below meth c D Hi A nL cells slots Q ws pc lv (.int x :: st) :=
  fun H locs ls hP hD hS h => lv_if_le C.1 C.2.1 hd ht (fun q => kt q H locs ls hP hD hS h) (fun q => kf q H locs ls hP hD hS h)
theorem cg_icmp_eq (C : cn_X p s m args c cc nL own D cy) {x y : Int32} {off : Int} (tgt : Nat) (hd : decode cc pc = .ok (.if_icmp .eq off, 3)) (ht : (pc : Int) + off = (tgt : Int)) (kt : x = y → cg p l e R s m args below meth c D Hi A nL cells slots Q ws tgt lv st) (kf : ¬ x = y → cg p l e R s m args below meth c D Hi A nL cells slots Q ws (pc + 3) lv st) : cg p l e R s m args below meth c D Hi A nL cells slots Q ws pc lv (.int y :: .int x :: st) :=
  fun H locs ls hP hD hS h => lv_icmp_eq C.1 C.2.1 hd ht (fun q => kt q H locs ls hP hD hS h) (fun q => kf q H locs ls hP hD hS h)
theorem cg_icmp_ne (C : cn_X p s m args c cc nL own D cy) {x y : Int32} {off : Int} (tgt : Nat) (hd : decode cc pc = .ok (.if_icmp .ne off, 3)) (ht : (pc : Int) + off = (tgt : Int)) (kt : ¬ x = y → cg p l e R s m args below meth c D Hi A nL cells slots Q ws tgt lv st) (kf : x = y → cg p l e R s m args below meth c D Hi A nL cells slots Q ws (pc + 3) lv st) : cg p l e R s m args below meth c D Hi A nL cells slots Q ws pc lv (.int y :: .int x :: st) :=
  fun H locs ls hP hD hS h => lv_icmp_ne C.1 C.2.1 hd ht (fun q => kt q H locs ls hP hD hS h) (fun q => kf q H locs ls hP hD hS h)
theorem cg_icmp_lt (C : cn_X p s m args c cc nL own D cy) {x y : Int32} {off : Int} (tgt : Nat) (hd : decode cc pc = .ok (.if_icmp .lt off, 3)) (ht : (pc : Int) + off = (tgt : Int)) (kt : x < y → cg p l e R s m args below meth c D Hi A nL cells slots Q ws tgt lv st) (kf : ¬ x < y → cg p l e R s m args below meth c D Hi A nL cells slots Q ws (pc + 3) lv st) : cg p l e R s m args below meth c D Hi A nL cells slots Q ws pc lv (.int y :: .int x :: st) :=
  fun H locs ls hP hD hS h => lv_icmp_lt C.1 C.2.1 hd ht (fun q => kt q H locs ls hP hD hS h) (fun q => kf q H locs ls hP hD hS h)
theorem cg_icmp_ge (C : cn_X p s m args c cc nL own D cy) {x y : Int32} {off : Int} (tgt : Nat) (hd : decode cc pc = .ok (.if_icmp .ge off, 3)) (ht : (pc : Int) + off = (tgt : Int)) (kt : y ≤ x → cg p l e R s m args below meth c D Hi A nL cells slots Q ws tgt lv st) (kf : ¬ y ≤ x → cg p l e R s m args below meth c D Hi A nL cells slots Q ws (pc + 3) lv st) : cg p l e R s m args below meth c D Hi A nL cells slots Q ws pc lv (.int y :: .int x :: st) :=
  fun H locs ls hP hD hS h => lv_icmp_ge C.1 C.2.1 hd ht (fun q => kt q H locs ls hP hD hS h) (fun q => kf q H locs ls hP hD hS h)
theorem cg_icmp_gt (C : cn_X p s m args c cc nL own D cy) {x y : Int32} {off : Int} (tgt : Nat) (hd : decode cc pc = .ok (.if_icmp .gt off, 3)) (ht : (pc : Int) + off = (tgt : Int)) (kt : y < x → cg p l e R s m args below meth c D Hi A nL cells slots Q ws tgt lv st) (kf : ¬ y < x → cg p l e R s m args below meth c D Hi A nL cells slots Q ws (pc + 3) lv st) : cg p l e R s m args below meth c D Hi A nL cells slots Q ws pc lv (.int y :: .int x :: st) :=
  fun H locs ls hP hD hS h => lv_icmp_gt C.1 C.2.1 hd ht (fun q => kt q H locs ls hP hD hS h) (fun q => kf q H locs ls hP hD hS h)
theorem cg_icmp_le (C : cn_X p s m args c cc nL own D cy) {x y : Int32} {off : Int} (tgt : Nat) (hd : decode cc pc = .ok (.if_icmp .le off, 3)) (ht : (pc : Int) + off = (tgt : Int)) (kt : x ≤ y → cg p l e R s m args below meth c D Hi A nL cells slots Q ws tgt lv st) (kf : ¬ x ≤ y → cg p l e R s m args below meth c D Hi A nL cells slots Q ws (pc + 3) lv st) : cg p l e R s m args below meth c D Hi A nL cells slots Q ws pc lv (.int y :: .int x :: st) :=
  fun H locs ls hP hD hS h => lv_icmp_le C.1 C.2.1 hd ht (fun q => kt q H locs ls hP hD hS h) (fun q => kf q H locs ls hP hD hS h)
theorem cg_get (C : cn_X p s m args c cc nL own D cy) {T : u_T} {N ci ix a : Nat} {O n d : String} (q0 : Nat) {fs : List Value} (k0 : Nat) {v : Value} (hd : decode cc pc = .ok (.getfield ix, 3)) (he : ws[q0]? = some (a, .inr (ci, fs))) (hc : cn_cl[ci]? = some (O, T, N)) (hin : ∀ w ∈ u_ws O T N, w ∈ cn_tb) (hk : k0 < N) (hT : T k0 = (O, n, d, (T k0).2.2.2)) (hw : Cond.fieldLink own ix O n d ∈ cn_tb) (hv : fs[k0]? = some v) (k : cg p l e R s m args below meth c D Hi A nL cells slots Q ws (pc + 3) lv (v :: st)) : cg p l e R s m args below meth c D Hi A nL cells slots Q ws pc lv (.ref a :: st) :=
  fun H locs ls hP hD hS h => va_get (ref := O) C.1 C.2.1 C.2.2.2.2.1 hin C.2.2.2.1 C.2.2.2.2.2.1 hP q0 he hc k0 hk (by rw [hT]; exact C.2.2.2.2.1 _ hw) (by rw [hT]; exact fun x hx => hx) hv hd (k H locs ls hP hD hS h)
theorem cg_getN (C : cn_X p s m args c cc nL own D cy) {T : u_T} {N ci ix a : Nat} {O n d host : String} (q0 : Nat) {fs : List Value} (k0 : Nat) {v : Value} (hd : decode cc pc = .ok (.getfield ix, 3)) (he : ws[q0]? = some (a, .inr (ci, fs))) (hc : cn_cl[ci]? = some (O, T, N)) (hin : ∀ w ∈ u_ws O T N, w ∈ cn_tb) (hk : k0 < N) (hT : T k0 = (O, n, d, (T k0).2.2.2)) (hw : (own, ix, O, n, d, host) ∈ cn_nwF) (hv : fs[k0]? = some v) (k : cg p l e R s m args below meth c D Hi A nL cells slots Q ws (pc + 3) lv (v :: st)) : cg p l e R s m args below meth c D Hi A nL cells slots Q ws pc lv (.ref a :: st) :=
  fun H locs ls hP hD hS h => va_getN (ref := O) (host := host) C.1 C.2.1 C.2.2.2.2.1 hin C.2.2.2.1 C.2.2.2.2.2.1 hP q0 he hc k0 hk (by rw [hT]; exact va_Nw.use rfl (C.2.2.2.2.2.2.2 _ hw)) (by rw [hT]; exact fun x hx => hx) hv hd (k H locs ls hP hD hS h)
theorem cg_put (C : cn_X p s m args c cc nL own D cy) {T : u_T} {N ci ix a : Nat} {O n d : String} (q0 : Nat) {fs : List Value} (k0 : Nat) {v : Value} {ws' : va_W} (ty0 : Nat → FieldType) (hd : decode cc pc = .ok (.putfield ix, 3)) (he : ws[q0]? = some (a, .inr (ci, fs))) (hc : cn_cl[ci]? = some (O, T, N)) (hin : ∀ w ∈ u_ws O T N, w ∈ cn_tb) (hty : ∀ k, k < N → parseFieldDescriptor (T k).2.2.1 = some (ty0 k)) (hnm : ∀ a, a < N → ∀ b, b < N → a ≠ b → (T a).2.1 ≠ (T b).2.1) (hk : k0 < N) (hT : T k0 = (O, n, d, false)) (hw : Cond.fieldLink own ix O n d ∈ cn_tb) (hn : narrow (ty0 k0) v = v) (hf : fits (ty0 k0) v = true) (hl : k0 < fs.length) (hws : ws.set q0 (a, .inr (ci, fs.set k0 v)) = ws') (k : cg p l e R s m args below meth c D (va_S A s.heap) A nL cells slots Q ws' (pc + 3) lv st) : cg p l e R s m args below meth c D (va_S A s.heap) A nL cells slots Q ws pc lv (v :: .ref a :: st) :=
  fun H locs ls hP hD hS h => va_put (ref := O) (ty := ty0 k0) C.1 C.2.1 C.2.2.2.2.1 hin ty0 hty hnm C.2.2.2.1 C.2.2.2.2.2.1 hP hD hS q0 he hc k0 hk (by rw [hT]; exact C.2.2.2.2.1 _ hw) (by rw [hT]; exact fun x hx => hx) (by rw [hT]) (hty k0 hk) hn hf hl hd (fun H1 locs1 h1 h2 h3 => k H1 locs1 ls (by rw [← hws]; exact h1) (by rw [← hws]; exact h2) h3 h)
theorem cg_iald (C : cn_X p s m args c cc nL own D cy) {a n : Nat} {f : Nat → Int32} (q0 : Nat) {i : Int32} (hd : decode cc pc = .ok (.iaload, 1)) (ha : ws[q0]? = some (a, .inl (cy 0, n, .inl f))) (hin : vp_in i n) (k : cg p l e R s m args below meth c D Hi A nL cells slots Q ws (pc + 1) lv (.int (f i.toNatClampNeg) :: st)) : cg p l e R s m args below meth c D Hi A nL cells slots Q ws pc lv (.int i :: .ref a :: st) :=
  fun H locs ls hP hD hS h => va_iald C.1 C.2.1 C.2.2.2.2.2.1 hP q0 0 ha rfl hin hd (k H locs ls hP hD hS h)
theorem cg_zald (C : cn_X p s m args c cc nL own D cy) {a n : Nat} {f : Nat → Int32} (q0 : Nat) {i : Int32} (hd : decode cc pc = .ok (.baload, 1)) (ha : ws[q0]? = some (a, .inl (cy 2, n, .inl f))) (hin : vp_in i n) (k : cg p l e R s m args below meth c D Hi A nL cells slots Q ws (pc + 1) lv (.int (f i.toNatClampNeg) :: st)) : cg p l e R s m args below meth c D Hi A nL cells slots Q ws pc lv (.int i :: .ref a :: st) :=
  fun H locs ls hP hD hS h => va_zald C.1 C.2.1 C.2.2.2.2.2.1 hP q0 2 ha rfl hin hd (k H locs ls hP hD hS h)
theorem cg_lald (C : cn_X p s m args c cc nL own D cy) {a n : Nat} {f : Nat → Int64} (q0 : Nat) {i : Int32} (hd : decode cc pc = .ok (.laload, 1)) (ha : ws[q0]? = some (a, .inl (cy 1, n, .inr (.inl f)))) (hin : vp_in i n) (k : cg p l e R s m args below meth c D Hi A nL cells slots Q ws (pc + 1) lv (.long (f i.toNatClampNeg) :: st)) : cg p l e R s m args below meth c D Hi A nL cells slots Q ws pc lv (.int i :: .ref a :: st) :=
  fun H locs ls hP hD hS h => va_lald C.1 C.2.1 C.2.2.2.2.2.1 hP q0 1 ha rfl hin hd (k H locs ls hP hD hS h)
theorem cg_iast (C : cn_X p s m args c cc nL own D cy) {a n : Nat} {f : Nat → Int32} (q0 : Nat) {i : Int32} {x : Int32} {ws' : va_W} (hd : decode cc pc = .ok (.iastore, 1)) (ha : ws[q0]? = some (a, .inl (cy 0, n, .inl f))) (hin : vp_in i n) (hws : ws.set q0 (a, .inl (cy 0, n, .inl (upd f i.toNatClampNeg x))) = ws') (k : cg p l e R s m args below meth c D (va_S A s.heap) A nL cells slots Q ws' (pc + 1) lv st) : cg p l e R s m args below meth c D (va_S A s.heap) A nL cells slots Q ws pc lv (.int x :: .int i :: .ref a :: st) :=
  fun H locs ls hP hD hS h => va_iast C.1 C.2.1 C.2.2.2.2.2.1 hP hD hS q0 0 ha rfl hin hd (fun H1 locs1 h1 h2 h3 => k H1 locs1 ls (by rw [← hws]; exact h1) (by rw [← hws]; exact h2) h3 h)
theorem cg_zast (C : cn_X p s m args c cc nL own D cy) {a n : Nat} {f : Nat → Int32} (q0 : Nat) {i : Int32} {x : Int32} {ws' : va_W} (hd : decode cc pc = .ok (.bastore, 1)) (ha : ws[q0]? = some (a, .inl (cy 2, n, .inl f))) (hin : vp_in i n) (hws : ws.set q0 (a, .inl (cy 2, n, .inl (upd f i.toNatClampNeg (vp_nar .boolean x)))) = ws') (k : cg p l e R s m args below meth c D (va_S A s.heap) A nL cells slots Q ws' (pc + 1) lv st) : cg p l e R s m args below meth c D (va_S A s.heap) A nL cells slots Q ws pc lv (.int x :: .int i :: .ref a :: st) :=
  fun H locs ls hP hD hS h => va_zast C.1 C.2.1 C.2.2.2.2.2.1 hP hD hS q0 2 ha rfl hin hd (fun H1 locs1 h1 h2 h3 => k H1 locs1 ls (by rw [← hws]; exact h1) (by rw [← hws]; exact h2) h3 h)
theorem cg_last (C : cn_X p s m args c cc nL own D cy) {a n : Nat} {f : Nat → Int64} (q0 : Nat) {i : Int32} {x : Int64} {ws' : va_W} (hd : decode cc pc = .ok (.lastore, 1)) (ha : ws[q0]? = some (a, .inl (cy 1, n, .inr (.inl f)))) (hin : vp_in i n) (hws : ws.set q0 (a, .inl (cy 1, n, .inr (.inl (vp_updL f i.toNatClampNeg x)))) = ws') (k : cg p l e R s m args below meth c D (va_S A s.heap) A nL cells slots Q ws' (pc + 1) lv st) : cg p l e R s m args below meth c D (va_S A s.heap) A nL cells slots Q ws pc lv (.long x :: .int i :: .ref a :: st) :=
  fun H locs ls hP hD hS h => va_last C.1 C.2.1 C.2.2.2.2.2.1 hP hD hS q0 1 ha rfl hin hd (fun H1 locs1 h1 h2 h3 => k H1 locs1 ls (by rw [← hws]; exact h1) (by rw [← hws]; exact h2) h3 h)
theorem cg_alen (C : cn_X p s m args c cc nL own D cy) {a : Nat} {x : vp_A} (q0 t0 : Nat) {cA : ClassId} {ty : FieldType} {v : Int32} (hd : decode cc pc = .ok (.arraylength, 1)) (ha : ws[q0]? = some (a, .inl (cA, x))) (ht : (cn_ty cy)[t0]? = some (cA, ty)) (hv : Int32.ofNat x.1 = v) (k : cg p l e R s m args below meth c D Hi A nL cells slots Q ws (pc + 1) lv (.int v :: st)) : cg p l e R s m args below meth c D Hi A nL cells slots Q ws pc lv (.ref a :: st) :=
  fun H locs ls hP hD hS h => va_alen C.1 C.2.1 C.2.2.2.2.2.1 hP q0 t0 ha ht hv hd (k H locs ls hP hD hS h)
/-! contracts: a method that changes nothing (cn_MR), and one that does (cn_MW); what comes of it is fixed ahead -/
def cn_hi (s : State) : Heap → List Loc → Prop := fun H locs => H = s.heap ∧ locs = []
def cn_QR (v : Option Value) : Array Value → State → Outcome → State → Prop := fun _ st o t => o = .returned v ∧ t.heap = st.heap
def cn_QW (v : Option Value) (D : va_G) (w' : va_W) (A : Nat → Prop) : Array Value → State → Outcome → State → Prop := fun _ st o t => o = .returned v ∧ (va_P D cn_cl w' t.heap ∧ va_D A w') ∧ va_F A st t
def cn_PR (D : va_G) (cy : Nat → ClassId) (av : List Value) (w : va_W) : Array Value → State → Prop := va_Pc av (fun U => va_P D cn_cl w U.heap ∧ va_K D cn_cl (cn_ty cy) U ∧ va_D (fun _ => True) w ∧ cn_N U)
def cn_PW (D : va_G) (cy : Nat → ClassId) (av : List Value) (w : va_W) (sz : Nat) : Array Value → State → Prop := va_Pc av (fun U => U.heap.size = sz ∧ va_P D cn_cl w U.heap ∧ va_K D cn_cl (cn_ty cy) U ∧ va_D (fun _ => True) w ∧ cn_N U)
def cn_MR (l : Launch) (y : MethodName) (b : ByteArray) (n : Nat) (r : Option FieldType) (rm : Room) (D : va_G) (cy : Nat → ClassId) (av : List Value) (w : va_W) (v : Option Value) : Prop := Met l y (.code y b n r :: cn_tb) rm (cn_PR D cy av w) (cn_QR v) 0 0 (fun _ => False)
def cn_MW (l : Launch) (y : MethodName) (b : ByteArray) (n : Nat) (r : Option FieldType) (rm : Room) (D : va_G) (cy : Nat → ClassId) (av : List Value) (w : va_W) (v : Option Value) (w' : va_W) (mc ms : Nat) : Prop := ∀ sz, Met l y (.code y b n r :: cn_tb) rm (cn_PW D cy av w sz) (cn_QW v D w' (va_A w sz)) mc ms (va_A w sz)
theorem cg_iretR (C : cn_X p s m args c cc nL own D cy) {v : Int32} (hr : meth.sig.returnType = some .int) (hlk : meth.locks = false) (hd : decode cc pc = .ok (.ireturn, 1)) : cg p l e R s m args below meth c D (cn_hi s) A nL 0 0 (MQ below (cn_QR (some (.int v))) args s 0 0 (fun _ => False)) ws pc lv [.int v] :=
  fun H locs ls hP hD hS h => W.iret C.1 C.2.1 hr (fun t ht _ => ⟨rfl, by rw [ht, hS.1]⟩) (by rw [hS.2]; exact fun q hq => nomatch hq) hd hlk
theorem cg_zretR (C : cn_X p s m args c cc nL own D cy) {v : Int32} (hr : meth.sig.returnType = some .boolean) (hn : narrow .boolean (.int v) = .int v) (hlk : meth.locks = false) (hd : decode cc pc = .ok (.ireturn, 1)) : cg p l e R s m args below meth c D (cn_hi s) A nL 0 0 (MQ below (cn_QR (some (.int v))) args s 0 0 (fun _ => False)) ws pc lv [.int v] :=
  fun H locs ls hP hD hS h => W.zret C.1 C.2.1 hr hn (fun t ht _ => ⟨rfl, by rw [ht, hS.1]⟩) (by rw [hS.2]; exact fun q hq => nomatch hq) hd hlk
theorem cg_lretR (C : cn_X p s m args c cc nL own D cy) {v : Int64} (hr : meth.sig.returnType = some .long) (hlk : meth.locks = false) (hd : decode cc pc = .ok (.lreturn, 1)) : cg p l e R s m args below meth c D (cn_hi s) A nL 0 0 (MQ below (cn_QR (some (.long v))) args s 0 0 (fun _ => False)) ws pc lv [.long v] :=
  fun H locs ls hP hD hS h => W.lret C.1 C.2.1 hr (fun t ht _ => ⟨rfl, by rw [ht, hS.1]⟩) (by rw [hS.2]; exact fun q hq => nomatch hq) hd hlk
theorem cg_vretR (C : cn_X p s m args c cc nL own D cy) (hr : meth.sig.returnType = none) (hlk : meth.locks = false) (hd : decode cc pc = .ok (.return_, 1)) : cg p l e R s m args below meth c D (cn_hi s) A nL 0 0 (MQ below (cn_QR none) args s 0 0 (fun _ => False)) ws pc lv [] :=
  fun H locs ls hP hD hS h => W.vret C.1 C.2.1 hr (fun t ht _ => ⟨rfl, by rw [ht, hS.1]⟩) (by rw [hS.2]; exact fun q hq => nomatch hq) hd hlk
theorem cg_iretW (C : cn_X p s m args c cc nL own D cy) {v : Int32} (hr : meth.sig.returnType = some .int) (hlk : meth.locks = false) (hd : decode cc pc = .ok (.ireturn, 1)) : cg p l e R s m args below meth c D (va_S A s.heap) A nL cells slots (MQ below (cn_QW (some (.int v)) D ws A) args s cells slots A) ws pc lv [.int v] :=
  fun H locs ls hP hD hS h => W.iret C.1 C.2.1 hr (fun t ht _ => ⟨rfl, ⟨by rw [ht]; exact hP, hD⟩, hS.F ht⟩) hS.2.2 hd hlk
theorem cg_zretW (C : cn_X p s m args c cc nL own D cy) {v : Int32} (hr : meth.sig.returnType = some .boolean) (hn : narrow .boolean (.int v) = .int v) (hlk : meth.locks = false) (hd : decode cc pc = .ok (.ireturn, 1)) : cg p l e R s m args below meth c D (va_S A s.heap) A nL cells slots (MQ below (cn_QW (some (.int v)) D ws A) args s cells slots A) ws pc lv [.int v] :=
  fun H locs ls hP hD hS h => W.zret C.1 C.2.1 hr hn (fun t ht _ => ⟨rfl, ⟨by rw [ht]; exact hP, hD⟩, hS.F ht⟩) hS.2.2 hd hlk
theorem cg_lretW (C : cn_X p s m args c cc nL own D cy) {v : Int64} (hr : meth.sig.returnType = some .long) (hlk : meth.locks = false) (hd : decode cc pc = .ok (.lreturn, 1)) : cg p l e R s m args below meth c D (va_S A s.heap) A nL cells slots (MQ below (cn_QW (some (.long v)) D ws A) args s cells slots A) ws pc lv [.long v] :=
  fun H locs ls hP hD hS h => W.lret C.1 C.2.1 hr (fun t ht _ => ⟨rfl, ⟨by rw [ht]; exact hP, hD⟩, hS.F ht⟩) hS.2.2 hd hlk
theorem cg_vretW (C : cn_X p s m args c cc nL own D cy) (hr : meth.sig.returnType = none) (hlk : meth.locks = false) (hd : decode cc pc = .ok (.return_, 1)) : cg p l e R s m args below meth c D (va_S A s.heap) A nL cells slots (MQ below (cn_QW none D ws A) args s cells slots A) ws pc lv [] :=
  fun H locs ls hP hD hS h => W.vret C.1 C.2.1 hr (fun t ht _ => ⟨rfl, ⟨by rw [ht]; exact hP, hD⟩, hS.F ht⟩) hS.2.2 hd hlk
end CG
theorem cn_MR.of {l : Launch} {y : MethodName} {b : ByteArray} {n : Nat} {r : Option FieldType} {rm : Room} {D : va_G} {cy : Nat → ClassId} {av : List Value} {w : va_W} {v : Option Value} (hy : plainName y.cls = true) (hn : (lg_sl av).length ≤ n)
    (body : ∀ (p : Program) (e : Env) (s : State) (m : MethodId) (below : List Frame) (meth : Method) (c : Code), cn_X p s m av.toArray c b n y.cls D cy → meth.sig.returnType = r → meth.locks = false →
      cg p l e rm s m av.toArray below meth c D (cn_hi s) (fun _ => True) n 0 0 (MQ below (cn_QR v) av.toArray s 0 0 (fun _ => False)) w 0 (lv_args 0 av) []) : cn_MR l y b n r rm D cy av w v := by
  refine Met.ofW (cc := b) (maxL := n) (ret := r) hy rfl ?_
  intro p e s m args below meth c s₁ B hml hv
  obtain ⟨rfl, hP, hK, hD, hN⟩ := hv
  have hts := atoms_spec (ws := .code y b n r :: cn_tb) B.pre
  rw [lg_entry_eq]
  exact body p e s m below meth c ⟨B.exec, B.bytes, hml, findClass_of_methodNamed B.named, fun w hw => hts w (List.mem_cons_of_mem _ hw), hK, hN⟩ B.returns B.notSynchronized s.heap [] _ hP hD ⟨rfl, rfl⟩ (lv_entry av hn)
theorem cn_MW.of {l : Launch} {y : MethodName} {b : ByteArray} {n : Nat} {r : Option FieldType} {rm : Room} {D : va_G} {cy : Nat → ClassId} {av : List Value} {w : va_W} {v : Option Value} {w' : va_W} {mc ms : Nat} (hy : plainName y.cls = true) (hn : (lg_sl av).length ≤ n)
    (body : ∀ (p : Program) (e : Env) (s : State) (m : MethodId) (below : List Frame) (meth : Method) (c : Code) (A : Nat → Prop), cn_X p s m av.toArray c b n y.cls D cy → meth.sig.returnType = r → meth.locks = false → (∀ q, s.heap.size ≤ q → A q) →
      cg p l e rm s m av.toArray below meth c D (va_S A s.heap) A n 0 0 (MQ below (cn_QW v D w' A) av.toArray s mc ms A) w 0 (lv_args 0 av) []) : cn_MW l y b n r rm D cy av w v w' mc ms := by
  intro sz
  refine Met.ofW (cc := b) (maxL := n) (ret := r) hy rfl ?_
  intro p e s m args below meth c s₁ B hml hv
  obtain ⟨rfl, hsz, hP, hK, hD, hN⟩ := hv
  subst hsz
  have hts := atoms_spec (ws := .code y b n r :: cn_tb) B.pre
  rw [lg_entry_eq]
  exact body p e s m below meth c _ ⟨B.exec, B.bytes, hml, findClass_of_methodNamed B.named, fun w hw => hts w (List.mem_cons_of_mem _ hw), hK, hN⟩ B.returns B.notSynchronized (fun q h => Or.inr h) s.heap [] _ hP hD.self va_S.rf (lv_entry av hn)
end
section
/-! CALLS: the callee's cells are picked out of the caller's by places; what changes nothing leaves the world as it was; what changes its own cells leaves the rest as it was -/
theorem cn_at {ws w : va_W} {is : List Nat} (hm : is.map (fun i => ws[i]?) = w.map some) (k : Nat) (q : Nat × va_E) (hq : w[k]? = some q) : ∃ i, is[k]? = some i ∧ ws[i]? = some q := by
  have h1 : (is.map (fun i => ws[i]?))[k]? = some (some q) := by rw [hm, List.getElem?_map, hq]; rfl
  rw [List.getElem?_map] at h1
  cases hi : is[k]? with
  | none => rw [hi] at h1; cases h1
  | some i => rw [hi] at h1; exact ⟨i, rfl, Option.some.inj h1⟩
theorem cn_subP {D : va_G} {ws w : va_W} {H : Heap} {is : List Nat} (hP : va_P D cn_cl ws H) (hm : is.map (fun i => ws[i]?) = w.map some) : va_P D cn_cl w H := fun k q hq => by
  obtain ⟨i, -, hi⟩ := cn_at hm k q hq
  exact hP i q hi
theorem cn_PR.blind {D : va_G} {cy : Nat → ClassId} {av : List Value} {w : va_W} : FrameBlind (cn_PR D cy av w) := fun a U g mk h => by
  obtain ⟨h0, h1, h2, h3, h4⟩ := h
  exact ⟨h0, h1, va_K.moved (u := U) (U := U.calling g mk a) (Vm.Alike.refl U.vm) h2, h3, h4.same rfl⟩
theorem cn_PW.blind {D : va_G} {cy : Nat → ClassId} {av : List Value} {w : va_W} {sz : Nat} : FrameBlind (cn_PW D cy av w sz) := fun a U g mk h => by
  obtain ⟨h0, h1, h2, h3, h4, h5⟩ := h
  exact ⟨h0, h1, h2, va_K.moved (u := U) (U := U.calling g mk a) (Vm.Alike.refl U.vm) h3, h4, h5.same rfl⟩
section CGC
variable {p : Program} {l : Launch} {e : Env} {R : Room} {s : State} {m : MethodId} {args : Array Value} {below : List Frame} {meth : Method} {c : Code} {D : va_G} {Hi : Heap → List Loc → Prop} {A : Nat → Prop} {nL cells slots : Nat} {Q : State → Prop} {ws : va_W} {pc : Nat} {lv : List (Nat × Value)} {st st0 st1 : List Value} {cc : ByteArray} {own : String} {cy : Nat → ClassId}
variable {y : MethodName} {b : ByteArray} {n ix a ci N mc ms : Nat} {r : Option FieldType} {rm : Room} {As fs : List Value} {w w' wr ws' : va_W} {v : Option Value} {T : u_T} {host : String} {H : Heap} {locs : List Loc} {ls : Array Slot} {av : List Value} {ar : Array Value}
theorem cn_preR (C : cn_X p s m args c cc nL own D cy) (hP : va_P D cn_cl w H) (hD : va_D (fun _ => True) w) : ∀ U : State, U.heap = H → s.WarmedH U.vm → cn_PR D cy av w av.toArray U :=
  fun U hU hW => ⟨rfl, by rw [hU]; exact hP, va_K.moved hW.alike C.2.2.2.2.2.1, hD, C.2.2.2.2.2.2.warm hW⟩
theorem cn_preW (C : cn_X p s m args c cc nL own D cy) (hP : va_P D cn_cl w H) (hD : va_D (fun _ => True) w) : ∀ U : State, U.heap = H → s.WarmedH U.vm → cn_PW D cy av w H.size av.toArray U :=
  fun U hU hW => ⟨rfl, by rw [hU], by rw [hU]; exact hP, va_K.moved hW.alike C.2.2.2.2.2.1, hD, C.2.2.2.2.2.2.warm hW⟩
theorem cn_finR {g : JFrame} (hr : CallRun p l e R s m args below meth c H locs cells slots 0 0 g st (cn_QR v ar) (fun _ => False)) (kk : W p l e R s m args below meth c H locs cells slots Q { g with pc := g.pc + 3, stack := v.toList ++ st }) : W p l e R s m args below meth c H locs cells slots Q g := by
  intro T hT X
  obtain ⟨v', st₀, t, T', L, h0, X', hL, e1, ⟨hv, hh⟩, stp⟩ := hr T hT X
  cases hv
  obtain ⟨t2, a1, b1⟩ := kk T' (by rw [e1, hh, h0]) (Stand.forget X' (fun q h => (hL q h).elim))
  exact ⟨t2, stp t2 a1, b1⟩
theorem cn_finW (hr : va_Run p l e R s m args below meth c H locs cells slots mc ms (F0 m pc ls st0) st (cn_QW v D w' (va_A w H.size) ar) (va_A w H.size)) (hS : va_S A s.heap H locs) (hF : ∀ q, va_A w H.size q → A q)
    (kk : ∀ (H1 : Heap) (locs1 : List Loc), va_P D cn_cl w' H1 → va_D (va_A w H.size) w' → (∀ q : Nat, q < H.size → ¬ va_A w H.size q → H1[q]? = H[q]?) → va_S A s.heap H1 locs1 → W p l e R s m args below meth c H1 locs1 (cells + mc) (slots + ms) Q (F0 m (pc + 3) ls (v.toList ++ st))) : W p l e R s m args below meth c H locs cells slots Q (F0 m pc ls st0) := by
  intro T hT X
  obtain ⟨v', st₀, t, T', L, h0, X', hL, e1, e2, ⟨hv, ⟨hb1, hb2⟩, hz, hk⟩, stp⟩ := hr T hT X
  cases hv
  rw [h0] at hz hk
  obtain ⟨t2, a1, b1⟩ := kk T'.heap (locs ++ L) (by rw [e1]; exact hb1) hb2 (fun q h1 h2 => by rw [e1]; exact hk q h1 h2)
    ⟨Nat.le_trans hS.1 (by rw [e1]; exact hz), fun q h1 h2 => by rw [e1, hk q (Nat.lt_of_lt_of_le h1 hS.1) (fun z => h2 (hF q z))]; exact hS.2.1 q h1 h2, fun q hq => by
      rcases List.mem_append.mp hq with h | h
      · exact hS.2.2 q h
      · exact hF _ (hL q h)⟩ T' rfl X'
  exact ⟨t2, stp t2 a1, b1⟩
/-- the words of a call -/
theorem cn_cb (C : cn_X p s m args c cc nL own D cy) (hco : Cond.code y b n r ∈ cn_tb) (h0 : rm.cells = mc) (h1 : rm.slots = ms) (hini : Cond.initialized y.cls ∈ cn_tb) (hl : Cond.methodLink own ix y ∈ cn_tb) {k : Nat}
    (hsig : y.cls ≠ "java/lang/invoke/MethodHandle" ∧ y.cls ≠ "java/lang/invoke/VarHandle" ∧ (parseMethodDescriptor y.desc).map (fun d => d.parameters.length) = some k) (hR : rm.frames + 1 ≤ R.frames ∧ 8 + (n + 11) + rm.locals ≤ R.locals) : CallB R s args own ix y b n r (.code y b n r :: cn_tb) rm mc ms k :=
  callB_of k C.2.2.2.2.1 (cn_gi hco) rfl h0 h1 (C.2.2.2.2.1 _ hini) (C.2.2.2.2.1 _ hl) hsig hR
theorem cn_cn (C : cn_X p s m args c cc nL own D cy) (hco : Cond.code y b n r ∈ cn_tb) (h0 : rm.cells = mc) (h1 : rm.slots = ms) (hini : Cond.initialized y.cls ∈ cn_tb) (hl : (own, ix, y, host) ∈ cn_nwM) {k : Nat}
    (hsig : y.cls ≠ "java/lang/invoke/MethodHandle" ∧ y.cls ≠ "java/lang/invoke/VarHandle" ∧ (parseMethodDescriptor y.desc).map (fun d => d.parameters.length) = some k) (hR : rm.frames + 1 ≤ R.frames ∧ 8 + (n + 11) + rm.locals ≤ R.locals) : va_CN R s args own ix y host b n r (.code y b n r :: cn_tb) rm mc ms k :=
  va_cnB k C.2.2.2.2.1 (cn_gi hco) rfl h0 h1 (C.2.2.2.2.2.2.1 _ hl) (C.2.2.2.2.1 _ hini) hsig hR
theorem cg_callRV (C : cn_X p s m args c cc nL own D cy) (hM : cn_MR l y b n r rm D cy (.ref a :: As) w v) (is : List Nat) (hm : is.map (fun i => ws[i]?) = w.map some) (hnd : va_nd is = true) (q0 : Nat) (he : w[q0]? = some (a, .inr (ci, fs))) (hc : cn_cl[ci]? = some (y.cls, T, N))
    (hd : decode cc pc = .ok (.invokevirtual ix, 3)) (hl : Cond.methodLink own ix y ∈ cn_tb) (hi : Cond.instanceMethod y ∈ cn_tb) (hse : Cond.selects y.cls y y ∈ cn_tb) (hini : Cond.initialized y.cls ∈ cn_tb) (hco : Cond.code y b n r ∈ cn_tb)
    (hsig : y.cls ≠ "java/lang/invoke/MethodHandle" ∧ y.cls ≠ "java/lang/invoke/VarHandle" ∧ (parseMethodDescriptor y.desc).map (fun d => d.parameters.length) = some As.length) (hR : rm.frames + 1 ≤ R.frames ∧ 8 + (n + 11) + rm.locals ≤ R.locals) (h0 : rm.cells = 0) (h1 : rm.slots = 0) (hcs : cells ≤ R.cells ∧ slots ≤ R.slots)
    (hW : (st.map fun v => v.category).sum ≤ 8) (hst : As.reverse ++ .ref a :: st = st0) (hst1 : v.toList ++ st = st1) (k : cg p l e R s m args below meth c D Hi A nL cells slots Q ws (pc + 3) lv st1) : cg p l e R s m args below meth c D Hi A nL cells slots Q ws pc lv st0 := by
  subst hst; subst hst1
  intro H locs ls hP hD hS h
  have hPc := cn_subP hP hm
  have hDc : va_D (fun _ => True) w := (hD.sub is hnd hm).weaken (fun _ _ _ _ => trivial)
  exact cn_finR (W.runV (g := F0 m pc ls (As.reverse ++ .ref a :: st)) (b := a) (As := As) (rest := st) ⟨C.1, C.2.1, C.2.2.1, C.2.2.2.1, C.2.2.2.2.1⟩ hM ⟨cn_cb C hco h0 h1 hini hl hsig hR, C.2.2.2.2.1 _ hi, C.2.2.2.2.1 _ hse⟩
    ⟨cn_PR.blind, va_recv C.2.2.2.2.2.1 hPc hc he, cn_preR C hPc hDc⟩ rfl rfl h.1 rfl (lv_room hW) hd hcs) (k H locs ls hP hD hS h)
theorem cg_callRVN (C : cn_X p s m args c cc nL own D cy) (hM : cn_MR l y b n r rm D cy (.ref a :: As) w v) (is : List Nat) (hm : is.map (fun i => ws[i]?) = w.map some) (hnd : va_nd is = true) (q0 : Nat) (he : w[q0]? = some (a, .inr (ci, fs))) (hc : cn_cl[ci]? = some (y.cls, T, N))
    (hd : decode cc pc = .ok (.invokevirtual ix, 3)) (hl : (own, ix, y, host) ∈ cn_nwM) (hi : Cond.instanceMethod y ∈ cn_tb) (hse : Cond.selects y.cls y y ∈ cn_tb) (hini : Cond.initialized y.cls ∈ cn_tb) (hco : Cond.code y b n r ∈ cn_tb)
    (hsig : y.cls ≠ "java/lang/invoke/MethodHandle" ∧ y.cls ≠ "java/lang/invoke/VarHandle" ∧ (parseMethodDescriptor y.desc).map (fun d => d.parameters.length) = some As.length) (hR : rm.frames + 1 ≤ R.frames ∧ 8 + (n + 11) + rm.locals ≤ R.locals) (h0 : rm.cells = 0) (h1 : rm.slots = 0) (hcs : cells ≤ R.cells ∧ slots ≤ R.slots)
    (hW : (st.map fun v => v.category).sum ≤ 8) (hst : As.reverse ++ .ref a :: st = st0) (hst1 : v.toList ++ st = st1) (k : cg p l e R s m args below meth c D Hi A nL cells slots Q ws (pc + 3) lv st1) : cg p l e R s m args below meth c D Hi A nL cells slots Q ws pc lv st0 := by
  subst hst; subst hst1
  intro H locs ls hP hD hS h
  have hPc := cn_subP hP hm
  have hDc : va_D (fun _ => True) w := (hD.sub is hnd hm).weaken (fun _ _ _ _ => trivial)
  exact cn_finR (va_Run.run (va_runVN (C := y.cls) (g := F0 m pc ls (As.reverse ++ .ref a :: st)) (b := a) (As := As) (rest := st) ⟨C.1, C.2.1, C.2.2.1, C.2.2.2.1, C.2.2.2.2.1⟩ hM ⟨cn_cn C hco h0 h1 hini hl hsig hR, C.2.2.2.2.1 _ hi, C.2.2.2.2.1 _ hse⟩
    ⟨cn_PR.blind, va_recv C.2.2.2.2.2.1 hPc hc he, cn_preR C hPc hDc⟩ rfl rfl h.1 rfl (lv_room hW) hd hcs)) (k H locs ls hP hD hS h)
theorem cg_callRS (C : cn_X p s m args c cc nL own D cy) (hM : cn_MR l y b n r rm D cy As w v) (is : List Nat) (hm : is.map (fun i => ws[i]?) = w.map some) (hnd : va_nd is = true)
    (hd : decode cc pc = .ok (.invokestatic ix, 3)) (hl : Cond.methodLink own ix y ∈ cn_tb) (hi : Cond.static y ∈ cn_tb) (hini : Cond.initialized y.cls ∈ cn_tb) (hco : Cond.code y b n r ∈ cn_tb)
    (hsig : y.cls ≠ "java/lang/invoke/MethodHandle" ∧ y.cls ≠ "java/lang/invoke/VarHandle" ∧ (parseMethodDescriptor y.desc).map (fun d => d.parameters.length) = some As.length) (hR : rm.frames + 1 ≤ R.frames ∧ 8 + (n + 11) + rm.locals ≤ R.locals) (h0 : rm.cells = 0) (h1 : rm.slots = 0) (hcs : cells ≤ R.cells ∧ slots ≤ R.slots)
    (hW : (st.map fun v => v.category).sum ≤ 8) (hst : As.reverse ++ st = st0) (hst1 : v.toList ++ st = st1) (k : cg p l e R s m args below meth c D Hi A nL cells slots Q ws (pc + 3) lv st1) : cg p l e R s m args below meth c D Hi A nL cells slots Q ws pc lv st0 := by
  subst hst; subst hst1
  intro H locs ls hP hD hS h
  have hPc := cn_subP hP hm
  have hDc : va_D (fun _ => True) w := (hD.sub is hnd hm).weaken (fun _ _ _ _ => trivial)
  exact cn_finR (W.runS (g := F0 m pc ls (As.reverse ++ st)) (As := As) (rest := st) ⟨C.1, C.2.1, C.2.2.1, C.2.2.2.1, C.2.2.2.2.1⟩ hM ⟨cn_cb C hco h0 h1 hini hl hsig hR, C.2.2.2.2.1 _ hi⟩
    ⟨cn_PR.blind, cn_preR C hPc hDc⟩ rfl rfl h.1 rfl (lv_room hW) hd hcs) (k H locs ls hP hD hS h)
theorem cg_callRSN (C : cn_X p s m args c cc nL own D cy) (hM : cn_MR l y b n r rm D cy As w v) (is : List Nat) (hm : is.map (fun i => ws[i]?) = w.map some) (hnd : va_nd is = true)
    (hd : decode cc pc = .ok (.invokestatic ix, 3)) (hl : (own, ix, y, host) ∈ cn_nwM) (hi : Cond.static y ∈ cn_tb) (hini : Cond.initialized y.cls ∈ cn_tb) (hco : Cond.code y b n r ∈ cn_tb)
    (hsig : y.cls ≠ "java/lang/invoke/MethodHandle" ∧ y.cls ≠ "java/lang/invoke/VarHandle" ∧ (parseMethodDescriptor y.desc).map (fun d => d.parameters.length) = some As.length) (hR : rm.frames + 1 ≤ R.frames ∧ 8 + (n + 11) + rm.locals ≤ R.locals) (h0 : rm.cells = 0) (h1 : rm.slots = 0) (hcs : cells ≤ R.cells ∧ slots ≤ R.slots)
    (hW : (st.map fun v => v.category).sum ≤ 8) (hst : As.reverse ++ st = st0) (hst1 : v.toList ++ st = st1) (k : cg p l e R s m args below meth c D Hi A nL cells slots Q ws (pc + 3) lv st1) : cg p l e R s m args below meth c D Hi A nL cells slots Q ws pc lv st0 := by
  subst hst; subst hst1
  intro H locs ls hP hD hS h
  have hPc := cn_subP hP hm
  have hDc : va_D (fun _ => True) w := (hD.sub is hnd hm).weaken (fun _ _ _ _ => trivial)
  exact cn_finR (va_Run.run (va_runSN (g := F0 m pc ls (As.reverse ++ st)) (As := As) (rest := st) ⟨C.1, C.2.1, C.2.2.1, C.2.2.2.1, C.2.2.2.2.1⟩ hM ⟨cn_cn C hco h0 h1 hini hl hsig hR, C.2.2.2.2.1 _ hi, trivial⟩
    ⟨cn_PR.blind, cn_preR C hPc hDc⟩ rfl rfl h.1 rfl (lv_room hW) hd hcs)) (k H locs ls hP hD hS h)
/-- behind a call that changes its own cells: the caller's others, the callee's as they are now, in the caller's order -/
theorem cn_back {H1 : Heap} {isC isR pm : List Nat} (hP : va_P D cn_cl ws H) (hD : va_D A ws) (hC : isC.map (fun i => ws[i]?) = w.map some) (hR : isR.map (fun i => ws[i]?) = wr.map some) (hn : va_nd isR = true) (hdis : ∀ i ∈ isR, i ∉ isC) (hk : ∀ q : Nat, q < H.size → ¬ va_A w H.size q → H1[q]? = H[q]?) (hF : ∀ q, va_A w H.size q → A q) (hP1 : va_P D cn_cl w' H1) (hD1 : va_D (va_A w H.size) w')
    (hpm : pm.map (fun i => (wr ++ w')[i]?) = ws'.map some) (hnp : va_nd pm = true) : va_P D cn_cl ws' H1 ∧ va_D A ws' := by
  obtain ⟨h1, h2⟩ := va_join hP hD isC isR hC hR hn hdis hk hF hP1 hD1
  exact ⟨cn_subP h1 hpm, h2.sub pm hnp hpm⟩
theorem cg_callWV (C : cn_X p s m args c cc nL own D cy) (hA : ∀ q, s.heap.size ≤ q → A q) (hM : cn_MW l y b n r rm D cy (.ref a :: As) w v w' mc ms) (isC isR pm : List Nat) (wr ws' : va_W) (hC : isC.map (fun i => ws[i]?) = w.map some) (hR0 : isR.map (fun i => ws[i]?) = wr.map some) (hpm : pm.map (fun i => (wr ++ w')[i]?) = ws'.map some) (hnd : va_nd isC = true ∧ va_nd isR = true ∧ va_nd pm = true ∧ ∀ i ∈ isR, i ∉ isC) (q0 : Nat) (he : w[q0]? = some (a, .inr (ci, fs))) (hc : cn_cl[ci]? = some (y.cls, T, N))
    (hd : decode cc pc = .ok (.invokevirtual ix, 3)) (hl : Cond.methodLink own ix y ∈ cn_tb) (hi : Cond.instanceMethod y ∈ cn_tb) (hse : Cond.selects y.cls y y ∈ cn_tb) (hini : Cond.initialized y.cls ∈ cn_tb) (hco : Cond.code y b n r ∈ cn_tb)
    (hsig : y.cls ≠ "java/lang/invoke/MethodHandle" ∧ y.cls ≠ "java/lang/invoke/VarHandle" ∧ (parseMethodDescriptor y.desc).map (fun d => d.parameters.length) = some As.length) (hR : rm.frames + 1 ≤ R.frames ∧ 8 + (n + 11) + rm.locals ≤ R.locals) (h0 : rm.cells = mc) (h1 : rm.slots = ms) (hcs : cells + mc ≤ R.cells ∧ slots + ms ≤ R.slots)
    (hW : (st.map fun v => v.category).sum ≤ 8) (hst : As.reverse ++ .ref a :: st = st0) (hst1 : v.toList ++ st = st1) (k : cg p l e R s m args below meth c D (va_S A s.heap) A nL (cells + mc) (slots + ms) Q ws' (pc + 3) lv st1) : cg p l e R s m args below meth c D (va_S A s.heap) A nL cells slots Q ws pc lv st0 := by
  subst hst; subst hst1
  intro H locs ls hP hD hS h
  have hPc := cn_subP hP hC
  have hDc : va_D (fun _ => True) w := (hD.sub isC hnd.1 hC).weaken (fun _ _ _ _ => trivial)
  have hF := va_free (wc := w) hD hS hA isC hC
  refine cn_finW (va_runV (g := F0 m pc ls (As.reverse ++ .ref a :: st)) (b := a) (As := As) (rest := st) ⟨C.1, C.2.1, C.2.2.1, C.2.2.2.1, C.2.2.2.2.1⟩ (hM H.size) ⟨cn_cb C hco h0 h1 hini hl hsig hR, C.2.2.2.2.1 _ hi, C.2.2.2.2.1 _ hse⟩
    ⟨cn_PW.blind, va_recv C.2.2.2.2.2.1 hPc hc he, cn_preW C hPc hDc⟩ rfl rfl h.1 rfl (lv_room hW) hd hcs) hS hF (fun H1 locs1 hP1 hD1 hk1 hS1 => ?_)
  obtain ⟨g1, g2⟩ := cn_back hP hD hC hR0 hnd.2.1 hnd.2.2.2 hk1 hF hP1 hD1 hpm hnd.2.2.1
  exact k H1 locs1 ls g1 g2 hS1 h
theorem cg_callWVN (C : cn_X p s m args c cc nL own D cy) (hA : ∀ q, s.heap.size ≤ q → A q) (hM : cn_MW l y b n r rm D cy (.ref a :: As) w v w' mc ms) (isC isR pm : List Nat) (wr ws' : va_W) (hC : isC.map (fun i => ws[i]?) = w.map some) (hR0 : isR.map (fun i => ws[i]?) = wr.map some) (hpm : pm.map (fun i => (wr ++ w')[i]?) = ws'.map some) (hnd : va_nd isC = true ∧ va_nd isR = true ∧ va_nd pm = true ∧ ∀ i ∈ isR, i ∉ isC) (q0 : Nat) (he : w[q0]? = some (a, .inr (ci, fs))) (hc : cn_cl[ci]? = some (y.cls, T, N))
    (hd : decode cc pc = .ok (.invokevirtual ix, 3)) (hl : (own, ix, y, host) ∈ cn_nwM) (hi : Cond.instanceMethod y ∈ cn_tb) (hse : Cond.selects y.cls y y ∈ cn_tb) (hini : Cond.initialized y.cls ∈ cn_tb) (hco : Cond.code y b n r ∈ cn_tb)
    (hsig : y.cls ≠ "java/lang/invoke/MethodHandle" ∧ y.cls ≠ "java/lang/invoke/VarHandle" ∧ (parseMethodDescriptor y.desc).map (fun d => d.parameters.length) = some As.length) (hR : rm.frames + 1 ≤ R.frames ∧ 8 + (n + 11) + rm.locals ≤ R.locals) (h0 : rm.cells = mc) (h1 : rm.slots = ms) (hcs : cells + mc ≤ R.cells ∧ slots + ms ≤ R.slots)
    (hW : (st.map fun v => v.category).sum ≤ 8) (hst : As.reverse ++ .ref a :: st = st0) (hst1 : v.toList ++ st = st1) (k : cg p l e R s m args below meth c D (va_S A s.heap) A nL (cells + mc) (slots + ms) Q ws' (pc + 3) lv st1) : cg p l e R s m args below meth c D (va_S A s.heap) A nL cells slots Q ws pc lv st0 := by
  subst hst; subst hst1
  intro H locs ls hP hD hS h
  have hPc := cn_subP hP hC
  have hDc : va_D (fun _ => True) w := (hD.sub isC hnd.1 hC).weaken (fun _ _ _ _ => trivial)
  have hF := va_free (wc := w) hD hS hA isC hC
  refine cn_finW (va_runVN (C := y.cls) (g := F0 m pc ls (As.reverse ++ .ref a :: st)) (b := a) (As := As) (rest := st) ⟨C.1, C.2.1, C.2.2.1, C.2.2.2.1, C.2.2.2.2.1⟩ (hM H.size) ⟨cn_cn C hco h0 h1 hini hl hsig hR, C.2.2.2.2.1 _ hi, C.2.2.2.2.1 _ hse⟩
    ⟨cn_PW.blind, va_recv C.2.2.2.2.2.1 hPc hc he, cn_preW C hPc hDc⟩ rfl rfl h.1 rfl (lv_room hW) hd hcs) hS hF (fun H1 locs1 hP1 hD1 hk1 hS1 => ?_)
  obtain ⟨g1, g2⟩ := cn_back hP hD hC hR0 hnd.2.1 hnd.2.2.2 hk1 hF hP1 hD1 hpm hnd.2.2.1
  exact k H1 locs1 ls g1 g2 hS1 h
theorem cg_callWS (C : cn_X p s m args c cc nL own D cy) (hA : ∀ q, s.heap.size ≤ q → A q) (hM : cn_MW l y b n r rm D cy As w v w' mc ms) (isC isR pm : List Nat) (wr ws' : va_W) (hC : isC.map (fun i => ws[i]?) = w.map some) (hR0 : isR.map (fun i => ws[i]?) = wr.map some) (hpm : pm.map (fun i => (wr ++ w')[i]?) = ws'.map some) (hnd : va_nd isC = true ∧ va_nd isR = true ∧ va_nd pm = true ∧ ∀ i ∈ isR, i ∉ isC)
    (hd : decode cc pc = .ok (.invokestatic ix, 3)) (hl : Cond.methodLink own ix y ∈ cn_tb) (hi : Cond.static y ∈ cn_tb) (hini : Cond.initialized y.cls ∈ cn_tb) (hco : Cond.code y b n r ∈ cn_tb)
    (hsig : y.cls ≠ "java/lang/invoke/MethodHandle" ∧ y.cls ≠ "java/lang/invoke/VarHandle" ∧ (parseMethodDescriptor y.desc).map (fun d => d.parameters.length) = some As.length) (hR : rm.frames + 1 ≤ R.frames ∧ 8 + (n + 11) + rm.locals ≤ R.locals) (h0 : rm.cells = mc) (h1 : rm.slots = ms) (hcs : cells + mc ≤ R.cells ∧ slots + ms ≤ R.slots)
    (hW : (st.map fun v => v.category).sum ≤ 8) (hst : As.reverse ++ st = st0) (hst1 : v.toList ++ st = st1) (k : cg p l e R s m args below meth c D (va_S A s.heap) A nL (cells + mc) (slots + ms) Q ws' (pc + 3) lv st1) : cg p l e R s m args below meth c D (va_S A s.heap) A nL cells slots Q ws pc lv st0 := by
  subst hst; subst hst1
  intro H locs ls hP hD hS h
  have hPc := cn_subP hP hC
  have hDc : va_D (fun _ => True) w := (hD.sub isC hnd.1 hC).weaken (fun _ _ _ _ => trivial)
  have hF := va_free (wc := w) hD hS hA isC hC
  refine cn_finW (va_runS (g := F0 m pc ls (As.reverse ++ st)) (As := As) (rest := st) ⟨C.1, C.2.1, C.2.2.1, C.2.2.2.1, C.2.2.2.2.1⟩ (hM H.size) ⟨cn_cb C hco h0 h1 hini hl hsig hR, C.2.2.2.2.1 _ hi⟩
    ⟨cn_PW.blind, cn_preW C hPc hDc⟩ rfl rfl h.1 rfl (lv_room hW) hd hcs) hS hF (fun H1 locs1 hP1 hD1 hk1 hS1 => ?_)
  obtain ⟨g1, g2⟩ := cn_back hP hD hC hR0 hnd.2.1 hnd.2.2.2 hk1 hF hP1 hD1 hpm hnd.2.2.1
  exact k H1 locs1 ls g1 g2 hS1 h
theorem cg_callWI (C : cn_X p s m args c cc nL own D cy) (hA : ∀ q, s.heap.size ≤ q → A q) (hM : cn_MW l y b n none rm D cy (.ref a :: As) w none w' mc ms) (isC isR pm : List Nat) (wr ws' : va_W) (hC : isC.map (fun i => ws[i]?) = w.map some) (hR0 : isR.map (fun i => ws[i]?) = wr.map some) (hpm : pm.map (fun i => (wr ++ w')[i]?) = ws'.map some) (hnd : va_nd isC = true ∧ va_nd isR = true ∧ va_nd pm = true ∧ ∀ i ∈ isR, i ∉ isC)
    (hd : decode cc pc = .ok (.invokespecial ix, 3)) (hy : y.name = "<init>") (hl : Cond.methodLink own ix y ∈ cn_tb) (hi : Cond.instanceMethod y ∈ cn_tb) (hini : Cond.initialized y.cls ∈ cn_tb) (hco : Cond.code y b n none ∈ cn_tb)
    (hsig : y.cls ≠ "java/lang/invoke/MethodHandle" ∧ y.cls ≠ "java/lang/invoke/VarHandle" ∧ (parseMethodDescriptor y.desc).map (fun d => d.parameters.length) = some As.length) (hR : rm.frames + 1 ≤ R.frames ∧ 8 + (n + 11) + rm.locals ≤ R.locals) (h0 : rm.cells = mc) (h1 : rm.slots = ms) (hcs : cells + mc ≤ R.cells ∧ slots + ms ≤ R.slots)
    (hW : (st.map fun v => v.category).sum ≤ 8) (hst : As.reverse ++ .ref a :: st = st0) (k : cg p l e R s m args below meth c D (va_S A s.heap) A nL (cells + mc) (slots + ms) Q ws' (pc + 3) lv st) : cg p l e R s m args below meth c D (va_S A s.heap) A nL cells slots Q ws pc lv st0 := by
  subst hst
  intro H locs ls hP hD hS h
  have hPc := cn_subP hP hC
  have hDc : va_D (fun _ => True) w := (hD.sub isC hnd.1 hC).weaken (fun _ _ _ _ => trivial)
  have hF := va_free (wc := w) hD hS hA isC hC
  refine cn_finW (va_runI (g := F0 m pc ls (As.reverse ++ .ref a :: st)) (b := a) (As := As) (rest := st) ⟨C.1, C.2.1, C.2.2.1, C.2.2.2.1, C.2.2.2.2.1⟩ (hM H.size) ⟨cn_cb C hco h0 h1 hini hl hsig hR, hy, C.2.2.2.2.1 _ hi⟩
    ⟨cn_PW.blind, cn_preW C hPc hDc⟩ rfl rfl h.1 rfl (lv_room hW) hd hcs) hS hF (fun H1 locs1 hP1 hD1 hk1 hS1 => ?_)
  obtain ⟨g1, g2⟩ := cn_back hP hD hC hR0 hnd.2.1 hnd.2.2.2 hk1 hF hP1 hD1 hpm hnd.2.2.1
  exact k H1 locs1 ls g1 g2 hS1 h
theorem cg_callWIN (C : cn_X p s m args c cc nL own D cy) (hA : ∀ q, s.heap.size ≤ q → A q) (hM : cn_MW l y b n none rm D cy (.ref a :: As) w none w' mc ms) (isC isR pm : List Nat) (wr ws' : va_W) (hC : isC.map (fun i => ws[i]?) = w.map some) (hR0 : isR.map (fun i => ws[i]?) = wr.map some) (hpm : pm.map (fun i => (wr ++ w')[i]?) = ws'.map some) (hnd : va_nd isC = true ∧ va_nd isR = true ∧ va_nd pm = true ∧ ∀ i ∈ isR, i ∉ isC)
    (hd : decode cc pc = .ok (.invokespecial ix, 3)) (hy : y.name = "<init>") (hl : (own, ix, y, host) ∈ cn_nwM) (hi : Cond.instanceMethod y ∈ cn_tb) (hini : Cond.initialized y.cls ∈ cn_tb) (hco : Cond.code y b n none ∈ cn_tb)
    (hsig : y.cls ≠ "java/lang/invoke/MethodHandle" ∧ y.cls ≠ "java/lang/invoke/VarHandle" ∧ (parseMethodDescriptor y.desc).map (fun d => d.parameters.length) = some As.length) (hR : rm.frames + 1 ≤ R.frames ∧ 8 + (n + 11) + rm.locals ≤ R.locals) (h0 : rm.cells = mc) (h1 : rm.slots = ms) (hcs : cells + mc ≤ R.cells ∧ slots + ms ≤ R.slots)
    (hW : (st.map fun v => v.category).sum ≤ 8) (hst : As.reverse ++ .ref a :: st = st0) (k : cg p l e R s m args below meth c D (va_S A s.heap) A nL (cells + mc) (slots + ms) Q ws' (pc + 3) lv st) : cg p l e R s m args below meth c D (va_S A s.heap) A nL cells slots Q ws pc lv st0 := by
  subst hst
  intro H locs ls hP hD hS h
  have hPc := cn_subP hP hC
  have hDc : va_D (fun _ => True) w := (hD.sub isC hnd.1 hC).weaken (fun _ _ _ _ => trivial)
  have hF := va_free (wc := w) hD hS hA isC hC
  refine cn_finW (va_runIN (g := F0 m pc ls (As.reverse ++ .ref a :: st)) (b := a) (As := As) (rest := st) ⟨C.1, C.2.1, C.2.2.1, C.2.2.2.1, C.2.2.2.2.1⟩ (hM H.size) ⟨cn_cn C hco h0 h1 hini hl hsig hR, hy, C.2.2.2.2.1 _ hi⟩
    ⟨cn_PW.blind, cn_preW C hPc hDc⟩ rfl rfl h.1 rfl (lv_room hW) hd hcs) hS hF (fun H1 locs1 hP1 hD1 hk1 hS1 => ?_)
  obtain ⟨g1, g2⟩ := cn_back hP hD hC hR0 hnd.2.1 hnd.2.2.2 hk1 hF hP1 hD1 hpm hnd.2.2.1
  exact k H1 locs1 ls g1 g2 hS1 h
end CGC
end
section
theorem cn_t1 {w : Cond} (i : Nat) (h : tables_1_1[i]? = some w) (g : goodWord w = true) : w ∈ cn_tb := cn_in (List.mem_append_right _ (by have h := List.mem_of_getElem? h; exact List.mem_append_left _ h)) g
theorem cn_t2 {w : Cond} (i : Nat) (h : tables_1_2[i]? = some w) (g : goodWord w = true) : w ∈ cn_tb := cn_in (List.mem_append_right _ (by have h := List.mem_of_getElem? h; exact List.mem_append_right _ (List.mem_append_left _ h))) g
theorem cn_t3 {w : Cond} (i : Nat) (h : tables_1_3[i]? = some w) (g : goodWord w = true) : w ∈ cn_tb := cn_in (List.mem_append_right _ (by have h := List.mem_of_getElem? h; exact List.mem_append_right _ (List.mem_append_right _ (List.mem_append_left _ h)))) g
theorem cn_t4 {w : Cond} (i : Nat) (h : tables_1_4[i]? = some w) (g : goodWord w = true) : w ∈ cn_tb := cn_in (List.mem_append_right _ (by have h := List.mem_of_getElem? h; exact List.mem_append_right _ (List.mem_append_right _ (List.mem_append_right _ h)))) g
set_option maxRecDepth 20000 in
theorem hin_X : ∀ w ∈ u_ws "CopperNets" T_X 8, w ∈ cn_tb := by
  intro w hw
  obtain ⟨k, hk, rfl⟩ := List.mem_map.mp hw
  have hk := List.mem_range.mp hk
  match k, hk with
  | 0, _ => exact cn_t1 122 rfl rfl
  | 1, _ => exact cn_t1 124 rfl rfl
  | 2, _ => exact cn_t1 126 rfl rfl
  | 3, _ => exact cn_t1 128 rfl rfl
  | 4, _ => exact cn_t1 130 rfl rfl
  | 5, _ => exact cn_t1 132 rfl rfl
  | 6, _ => exact cn_t1 134 rfl rfl
  | 7, _ => exact cn_t1 136 rfl rfl
  | k + 8, hk => exact absurd hk (by omega)
set_option maxRecDepth 20000 in
theorem hin_A : ∀ w ∈ u_ws "CopperNets$Airlines" T_A 6, w ∈ cn_tb := by
  intro w hw
  obtain ⟨k, hk, rfl⟩ := List.mem_map.mp hw
  have hk := List.mem_range.mp hk
  match k, hk with
  | 0, _ => exact cn_t1 94 rfl rfl
  | 1, _ => exact cn_t1 96 rfl rfl
  | 2, _ => exact cn_t1 98 rfl rfl
  | 3, _ => exact cn_t1 100 rfl rfl
  | 4, _ => exact cn_t1 102 rfl rfl
  | 5, _ => exact cn_t1 104 rfl rfl
  | k + 6, hk => exact absurd hk (by omega)
set_option maxRecDepth 20000 in
theorem hin_G : ∀ w ∈ u_ws "CopperNets$Groups" T_G 1, w ∈ cn_tb := by
  intro w hw
  obtain ⟨k, hk, rfl⟩ := List.mem_map.mp hw
  have hk := List.mem_range.mp hk
  match k, hk with
  | 0, _ => exact cn_t1 78 rfl rfl
  | k + 1, hk => exact absurd hk (by omega)
set_option maxRecDepth 20000 in
theorem hin_P : ∀ w ∈ u_ws "CopperNets$Pieces" T_P 10, w ∈ cn_tb := by
  intro w hw
  obtain ⟨k, hk, rfl⟩ := List.mem_map.mp hw
  have hk := List.mem_range.mp hk
  match k, hk with
  | 0, _ => exact cn_t1 40 rfl rfl
  | 1, _ => exact cn_t1 42 rfl rfl
  | 2, _ => exact cn_t1 44 rfl rfl
  | 3, _ => exact cn_t1 46 rfl rfl
  | 4, _ => exact cn_t1 48 rfl rfl
  | 5, _ => exact cn_t1 50 rfl rfl
  | 6, _ => exact cn_t1 52 rfl rfl
  | 7, _ => exact cn_t1 54 rfl rfl
  | 8, _ => exact cn_t1 56 rfl rfl
  | 9, _ => exact cn_t1 58 rfl rfl
  | k + 10, hk => exact absurd hk (by omega)
set_option maxRecDepth 20000 in
theorem hin_M : ∀ w ∈ u_ws "CopperNetsModel" T_M 19, w ∈ cn_tb := by
  intro w hw
  obtain ⟨k, hk, rfl⟩ := List.mem_map.mp hw
  have hk := List.mem_range.mp hk
  match k, hk with
  | 0, _ => exact cn_t3 90 rfl rfl
  | 1, _ => exact cn_t3 92 rfl rfl
  | 2, _ => exact cn_t3 94 rfl rfl
  | 3, _ => exact cn_t3 96 rfl rfl
  | 4, _ => exact cn_t3 98 rfl rfl
  | 5, _ => exact cn_t3 100 rfl rfl
  | 6, _ => exact cn_t3 102 rfl rfl
  | 7, _ => exact cn_t3 104 rfl rfl
  | 8, _ => exact cn_t3 106 rfl rfl
  | 9, _ => exact cn_t3 108 rfl rfl
  | 10, _ => exact cn_t3 110 rfl rfl
  | 11, _ => exact cn_t3 112 rfl rfl
  | 12, _ => exact cn_t3 114 rfl rfl
  | 13, _ => exact cn_t3 116 rfl rfl
  | 14, _ => exact cn_t3 118 rfl rfl
  | 15, _ => exact cn_t3 120 rfl rfl
  | 16, _ => exact cn_t3 122 rfl rfl
  | 17, _ => exact cn_t3 124 rfl rfl
  | 18, _ => exact cn_t3 126 rfl rfl
  | k + 19, hk => exact absurd hk (by omega)
theorem nM_0 : ("CopperNets", 15, ⟨"CopperNets$Pieces", "<init>", "()V"⟩, "CopperNets") ∈ cn_nwM := List.mem_of_getElem? (i := 0) rfl
theorem nM_1 : ("CopperNets", 22, ⟨"CopperNets$Groups", "<init>", "()V"⟩, "CopperNets") ∈ cn_nwM := List.mem_of_getElem? (i := 1) rfl
theorem nM_2 : ("CopperNets", 29, ⟨"CopperNets$Airlines", "<init>", "()V"⟩, "CopperNets") ∈ cn_nwM := List.mem_of_getElem? (i := 2) rfl
theorem nM_3 : ("CopperNets", 118, ⟨"CopperNets$Groups", "leaderOf", "(I)I"⟩, "CopperNets") ∈ cn_nwM := List.mem_of_getElem? (i := 3) rfl
theorem nM_4 : ("CopperNets", 115, ⟨"CopperNets$Groups", "has", "(I)Z"⟩, "CopperNets") ∈ cn_nwM := List.mem_of_getElem? (i := 4) rfl
theorem nM_5 : ("CopperNets", 231, ⟨"CopperNets$Pieces", "pinOf", "(I)I"⟩, "CopperNets") ∈ cn_nwM := List.mem_of_getElem? (i := 5) rfl
theorem nM_6 : ("CopperNets", 178, ⟨"CopperNets$Groups", "clear", "()V"⟩, "CopperNets") ∈ cn_nwM := List.mem_of_getElem? (i := 6) rfl
theorem nM_7 : ("CopperNets", 169, ⟨"CopperNets$Pieces", "isThere", "(I)Z"⟩, "CopperNets") ∈ cn_nwM := List.mem_of_getElem? (i := 7) rfl
theorem nM_8 : ("CopperNets", 215, ⟨"CopperNets$Groups", "begin", "(I)V"⟩, "CopperNets") ∈ cn_nwM := List.mem_of_getElem? (i := 8) rfl
theorem nM_9 : ("CopperNets", 218, ⟨"CopperNets$Pieces", "touch", "(II)Z"⟩, "CopperNets") ∈ cn_nwM := List.mem_of_getElem? (i := 9) rfl
theorem nM_10 : ("CopperNets", 222, ⟨"CopperNets$Groups", "join", "(II)V"⟩, "CopperNets") ∈ cn_nwM := List.mem_of_getElem? (i := 10) rfl
theorem nM_11 : ("CopperNets", 185, ⟨"CopperNets$Groups", "isLike", "(LCopperNets$Groups;)Z"⟩, "CopperNets") ∈ cn_nwM := List.mem_of_getElem? (i := 11) rfl
theorem nM_12 : ("CopperNets", 189, ⟨"CopperNets$Pieces", "hasPadOf", "(I)Z"⟩, "CopperNets") ∈ cn_nwM := List.mem_of_getElem? (i := 12) rfl
theorem nM_13 : ("CopperNets", 252, ⟨"CopperNets$Airlines", "clear", "()V"⟩, "CopperNets") ∈ cn_nwM := List.mem_of_getElem? (i := 13) rfl
theorem nM_14 : ("CopperNets", 253, ⟨"CopperNets$Airlines", "addPad", "(I)V"⟩, "CopperNets") ∈ cn_nwM := List.mem_of_getElem? (i := 14) rfl
theorem nM_15 : ("CopperNets", 256, ⟨"CopperNets$Airlines", "draw", "(LCopperNets$Pieces;LCopperNets$Groups;)V"⟩, "CopperNets") ∈ cn_nwM := List.mem_of_getElem? (i := 15) rfl
theorem nM_16 : ("CopperNets$Airlines", 49, ⟨"CopperNets$Groups", "leaderOf", "(I)I"⟩, "CopperNets") ∈ cn_nwM := List.mem_of_getElem? (i := 16) rfl
theorem nM_17 : ("CopperNets$Airlines", 59, ⟨"CopperNets$Pieces", "square", "(II)J"⟩, "CopperNets") ∈ cn_nwM := List.mem_of_getElem? (i := 17) rfl
theorem nM_18 : ("CopperNets$Airlines", 65, ⟨"CopperNets$Pair", "of", "(JII)J"⟩, "CopperNets") ∈ cn_nwM := List.mem_of_getElem? (i := 18) rfl
theorem nM_19 : ("CopperNets", 74, ⟨"CopperNets$Pieces", "isFull", "()Z"⟩, "CopperNets") ∈ cn_nwM := List.mem_of_getElem? (i := 19) rfl
theorem nM_20 : ("CopperNets", 78, ⟨"CopperNets$Pieces", "addRectangle", "(IJJJJ)I"⟩, "CopperNets") ∈ cn_nwM := List.mem_of_getElem? (i := 20) rfl
theorem nM_21 : ("CopperNets", 93, ⟨"CopperNets$Pieces", "addDisc", "(IIIJJJ)I"⟩, "CopperNets") ∈ cn_nwM := List.mem_of_getElem? (i := 21) rfl
theorem nM_22 : ("CopperNets", 132, ⟨"CopperNets$Airlines", "has", "(I)Z"⟩, "CopperNets") ∈ cn_nwM := List.mem_of_getElem? (i := 22) rfl
theorem nM_23 : ("CopperNets", 138, ⟨"CopperNets$Airlines", "pairAt", "(I)J"⟩, "CopperNets") ∈ cn_nwM := List.mem_of_getElem? (i := 23) rfl
theorem nM_24 : ("CopperNets", 142, ⟨"CopperNets$Pair", "square", "(J)J"⟩, "CopperNets") ∈ cn_nwM := List.mem_of_getElem? (i := 24) rfl
theorem nM_25 : ("CopperNets", 148, ⟨"CopperNets$Pair", "piece", "(JI)I"⟩, "CopperNets") ∈ cn_nwM := List.mem_of_getElem? (i := 25) rfl
theorem nM_26 : ("CopperNets", 248, ⟨"CopperNets$Pair", "of", "(JII)J"⟩, "CopperNets") ∈ cn_nwM := List.mem_of_getElem? (i := 26) rfl
theorem nM_27 : ("CopperNets", 172, ⟨"CopperNets$Pieces", "remove", "(I)V"⟩, "CopperNets") ∈ cn_nwM := List.mem_of_getElem? (i := 27) rfl
theorem nM_28 : ("CopperNets", 225, ⟨"CopperNets$Groups", "leave", "(I)V"⟩, "CopperNets") ∈ cn_nwM := List.mem_of_getElem? (i := 28) rfl
theorem nM_29 : ("CopperNets", 228, ⟨"CopperNets$Groups", "follow", "(II)V"⟩, "CopperNets") ∈ cn_nwM := List.mem_of_getElem? (i := 29) rfl
theorem nF_0 : ("CopperNets", 106, "CopperNets$Pieces", "count", "I", "CopperNets") ∈ cn_nwF := List.mem_of_getElem? (i := 0) rfl
theorem nF_1 : ("CopperNets", 127, "CopperNets$Airlines", "count", "I", "CopperNets") ∈ cn_nwF := List.mem_of_getElem? (i := 1) rfl
def cn_rd {α : Type} (i : Int32) (n : Nat) (x : Option α) : Option α := if i < 0 ∨ n ≤ i.toNatClampNeg then none else x
theorem cn_rd_some {α : Type} {i : Int32} {n : Nat} {x : Option α} {o : α} (h : cn_rd i n x = some o) : vp_in i n ∧ x = some o := by
  unfold cn_rd at h
  by_cases q : i < 0 ∨ n ≤ i.toNatClampNeg
  · rw [if_pos q] at h; cases h
  · rw [if_neg q] at h; exact ⟨q, h⟩
def cn_bl {α : Type} (v : Int32) (x : Option α) : Option α := if v = 0 ∨ v = 1 then x else none
theorem cn_bl_some {α : Type} {v : Int32} {x : Option α} {o : α} (h : cn_bl v x = some o) : narrow .boolean (.int v) = .int v ∧ x = some o := by
  unfold cn_bl at h
  by_cases q : v = 0 ∨ v = 1
  · rw [if_pos q] at h
    refine ⟨?_, h⟩
    rcases q with rfl | rfl <;> rfl
  · rw [if_neg q] at h; cases h
theorem cn_pos {α : Type} {c : Prop} [Decidable c] {a b : Option α} {o : α} (q : c) (h : (if c then a else b) = some o) : a = some o := by rw [if_pos q] at h; exact h
theorem cn_neg {α : Type} {c : Prop} [Decidable c] {a b : Option α} {o : α} (q : ¬ c) (h : (if c then a else b) = some o) : b = some o := by rw [if_neg q] at h; exact h
theorem cn_bind {α β : Type} {x : Option α} {f : α → Option β} {o : β} (h : x.bind f = some o) : ∃ t, x = some t ∧ f t = some o := Option.bind_eq_some_iff.mp h
set_option maxRecDepth 20000 in
theorem ts_2 : Cond.selects "CopperNets$Groups" ⟨"CopperNets$Groups", "leaderOf", "(I)I"⟩ ⟨"CopperNets$Groups", "leaderOf", "(I)I"⟩ ∈ cn_tb := cn_s 2 rfl rfl
set_option maxRecDepth 20000 in
theorem ts_13 : Cond.selects "CopperNets$Pieces" ⟨"CopperNets$Pieces", "square", "(II)J"⟩ ⟨"CopperNets$Pieces", "square", "(II)J"⟩ ∈ cn_tb := cn_s 13 rfl rfl
set_option maxRecDepth 20000 in
theorem tw_2 : (Jvm.Cond.initialized "CopperNets$Pieces") ∈ cn_tb := cn_t1 2 rfl rfl
set_option maxRecDepth 20000 in
theorem tw_3 : (Jvm.Cond.initialized "CopperNets$Groups") ∈ cn_tb := cn_t1 3 rfl rfl
set_option maxRecDepth 20000 in
theorem tw_6 : (Jvm.Cond.initialized "java/lang/Math") ∈ cn_tb := cn_t1 6 rfl rfl
set_option maxRecDepth 20000 in
theorem tw_31 : (Jvm.Cond.fieldLink "CopperNets$Pieces" (15 : Nat) "CopperNets$Pieces" "there" "[Z") ∈ cn_tb := cn_t1 31 rfl rfl
set_option maxRecDepth 20000 in
theorem tw_32 : (Jvm.Cond.fieldLink "CopperNets$Pieces" (19 : Nat) "CopperNets$Pieces" "from" "[I") ∈ cn_tb := cn_t1 32 rfl rfl
set_option maxRecDepth 20000 in
theorem tw_33 : (Jvm.Cond.fieldLink "CopperNets$Pieces" (23 : Nat) "CopperNets$Pieces" "to" "[I") ∈ cn_tb := cn_t1 33 rfl rfl
set_option maxRecDepth 20000 in
theorem tw_35 : (Jvm.Cond.fieldLink "CopperNets$Pieces" (29 : Nat) "CopperNets$Pieces" "left" "[J") ∈ cn_tb := cn_t1 35 rfl rfl
set_option maxRecDepth 20000 in
theorem tw_36 : (Jvm.Cond.fieldLink "CopperNets$Pieces" (33 : Nat) "CopperNets$Pieces" "low" "[J") ∈ cn_tb := cn_t1 36 rfl rfl
set_option maxRecDepth 20000 in
theorem tw_37 : (Jvm.Cond.fieldLink "CopperNets$Pieces" (36 : Nat) "CopperNets$Pieces" "right" "[J") ∈ cn_tb := cn_t1 37 rfl rfl
set_option maxRecDepth 20000 in
theorem tw_38 : (Jvm.Cond.fieldLink "CopperNets$Pieces" (39 : Nat) "CopperNets$Pieces" "high" "[J") ∈ cn_tb := cn_t1 38 rfl rfl
set_option maxRecDepth 20000 in
theorem tw_39 : (Jvm.Cond.fieldLink "CopperNets$Pieces" (42 : Nat) "CopperNets$Pieces" "rim" "[J") ∈ cn_tb := cn_t1 39 rfl rfl
set_option maxRecDepth 20000 in
theorem tw_77 : (Jvm.Cond.fieldLink "CopperNets$Groups" (9 : Nat) "CopperNets$Groups" "leader" "[I") ∈ cn_tb := cn_t1 77 rfl rfl
set_option maxRecDepth 20000 in
theorem tw_108 : (Jvm.Cond.static ({ cls := "java/lang/Math", name := "min", desc := "(II)I" } : Jvm.MethodName)) ∈ cn_tb := cn_t1 108 rfl rfl
set_option maxRecDepth 20000 in
theorem tw_109 : (Jvm.Cond.code ({ cls := "java/lang/Math", name := "min", desc := "(II)I" } : Jvm.MethodName) prog_12_method_69_code (2 : Nat) (Option.some Jvm.ClassFile.FieldType.int)) ∈ cn_tb := cn_t1 109 rfl rfl
set_option maxRecDepth 20000 in
theorem tw_111 : (Jvm.Cond.static ({ cls := "java/lang/Math", name := "max", desc := "(II)I" } : Jvm.MethodName)) ∈ cn_tb := cn_t1 111 rfl rfl
set_option maxRecDepth 20000 in
theorem tw_112 : (Jvm.Cond.code ({ cls := "java/lang/Math", name := "max", desc := "(II)I" } : Jvm.MethodName) prog_12_method_65_code (2 : Nat) (Option.some Jvm.ClassFile.FieldType.int)) ∈ cn_tb := cn_t1 112 rfl rfl
set_option maxRecDepth 20000 in
theorem tw_117 : (Jvm.Cond.fieldLink "CopperNets" (23 : Nat) "CopperNets" "kept" "LCopperNets$Groups;") ∈ cn_tb := cn_t1 117 rfl rfl
set_option maxRecDepth 20000 in
theorem tw_149 : (Jvm.Cond.instanceMethod ({ cls := "CopperNets$Groups", name := "leaderOf", desc := "(I)I" } : Jvm.MethodName)) ∈ cn_tb := cn_t1 149 rfl rfl
set_option maxRecDepth 20000 in
theorem tw_150 : (Jvm.Cond.code ({ cls := "CopperNets$Groups", name := "leaderOf", desc := "(I)I" } : Jvm.MethodName) prog_3_method_4_code (2 : Nat) (Option.some Jvm.ClassFile.FieldType.int)) ∈ cn_tb := cn_t1 150 rfl rfl
set_option maxRecDepth 20000 in
theorem tw_210 : (Jvm.Cond.methodLink "CopperNets$Pieces" (49 : Nat) ({ cls := "CopperNets$Pieces", name := "square", desc := "(II)J" } : Jvm.MethodName)) ∈ cn_tb := cn_t1 210 rfl rfl
set_option maxRecDepth 20000 in
theorem tw_212 : (Jvm.Cond.instanceMethod ({ cls := "CopperNets$Pieces", name := "square", desc := "(II)J" } : Jvm.MethodName)) ∈ cn_tb := cn_t1 212 rfl rfl
set_option maxRecDepth 20000 in
theorem tw_213 : (Jvm.Cond.code ({ cls := "CopperNets$Pieces", name := "square", desc := "(II)J" } : Jvm.MethodName) prog_5_method_11_code (7 : Nat) (Option.some Jvm.ClassFile.FieldType.long)) ∈ cn_tb := cn_t1 213 rfl rfl
set_option maxRecDepth 20000 in
theorem tw_214 : (Jvm.Cond.methodLink "CopperNets$Pieces" (53 : Nat) ({ cls := "CopperNets$Pieces", name := "gap", desc := "(JJJJ)J" } : Jvm.MethodName)) ∈ cn_tb := cn_t1 214 rfl rfl
set_option maxRecDepth 20000 in
theorem tw_215 : (Jvm.Cond.static ({ cls := "CopperNets$Pieces", name := "gap", desc := "(JJJJ)J" } : Jvm.MethodName)) ∈ cn_tb := cn_t1 215 rfl rfl
set_option maxRecDepth 20000 in
theorem tw_216 : (Jvm.Cond.code ({ cls := "CopperNets$Pieces", name := "gap", desc := "(JJJJ)J" } : Jvm.MethodName) prog_5_method_12_code (8 : Nat) (Option.some Jvm.ClassFile.FieldType.long)) ∈ cn_tb := cn_t1 216 rfl rfl
set_option maxRecDepth 20000 in
theorem tw_221 : (Jvm.Cond.methodLink "CopperNets$Groups" (24 : Nat) ({ cls := "java/lang/Math", name := "min", desc := "(II)I" } : Jvm.MethodName)) ∈ cn_tb := cn_t1 221 rfl rfl
set_option maxRecDepth 20000 in
theorem tw_222 : (Jvm.Cond.methodLink "CopperNets$Groups" (30 : Nat) ({ cls := "java/lang/Math", name := "max", desc := "(II)I" } : Jvm.MethodName)) ∈ cn_tb := cn_t1 222 rfl rfl
end
section
theorem d_P_isThere_0 : decode b_P_isThere 0 = .ok (.aload_n 0, 1) := by decide +kernel
theorem d_P_isThere_1 : decode b_P_isThere 1 = .ok (.getfield 15, 3) := by decide +kernel
theorem d_P_isThere_4 : decode b_P_isThere 4 = .ok (.iload_n 1, 1) := by decide +kernel
theorem d_P_isThere_5 : decode b_P_isThere 5 = .ok (.baload, 1) := by decide +kernel
theorem d_P_isThere_6 : decode b_P_isThere 6 = .ok (.ireturn, 1) := by decide +kernel
theorem d_P_gap_0 : decode b_P_gap 0 = .ok (.lload 4, 2) := by decide +kernel
theorem d_P_gap_2 : decode b_P_gap 2 = .ok (.lload_n 2, 1) := by decide +kernel
theorem d_P_gap_3 : decode b_P_gap 3 = .ok (.lcmp, 1) := by decide +kernel
theorem d_P_gap_4 : decode b_P_gap 4 = .ok (.ifCond .le 8, 3) := by decide +kernel
theorem d_P_gap_7 : decode b_P_gap 7 = .ok (.lload 4, 2) := by decide +kernel
theorem d_P_gap_9 : decode b_P_gap 9 = .ok (.lload_n 2, 1) := by decide +kernel
theorem d_P_gap_10 : decode b_P_gap 10 = .ok (.lsub, 1) := by decide +kernel
theorem d_P_gap_11 : decode b_P_gap 11 = .ok (.lreturn, 1) := by decide +kernel
theorem d_P_gap_12 : decode b_P_gap 12 = .ok (.lload_n 0, 1) := by decide +kernel
theorem d_P_gap_13 : decode b_P_gap 13 = .ok (.lload 6, 2) := by decide +kernel
theorem d_P_gap_15 : decode b_P_gap 15 = .ok (.lcmp, 1) := by decide +kernel
theorem d_P_gap_16 : decode b_P_gap 16 = .ok (.ifCond .le 10, 3) := by decide +kernel
theorem d_P_gap_19 : decode b_P_gap 19 = .ok (.lload_n 0, 1) := by decide +kernel
theorem d_P_gap_20 : decode b_P_gap 20 = .ok (.lload 6, 2) := by decide +kernel
theorem d_P_gap_22 : decode b_P_gap 22 = .ok (.lsub, 1) := by decide +kernel
theorem d_P_gap_23 : decode b_P_gap 23 = .ok (.goto 4, 3) := by decide +kernel
theorem d_P_gap_26 : decode b_P_gap 26 = .ok (.lconst 0, 1) := by decide +kernel
theorem d_P_gap_27 : decode b_P_gap 27 = .ok (.lreturn, 1) := by decide +kernel
theorem d_P_square_0 : decode b_P_square 0 = .ok (.aload_n 0, 1) := by decide +kernel
theorem d_P_square_1 : decode b_P_square 1 = .ok (.getfield 29, 3) := by decide +kernel
theorem d_P_square_4 : decode b_P_square 4 = .ok (.iload_n 1, 1) := by decide +kernel
theorem d_P_square_5 : decode b_P_square 5 = .ok (.laload, 1) := by decide +kernel
theorem d_P_square_6 : decode b_P_square 6 = .ok (.aload_n 0, 1) := by decide +kernel
theorem d_P_square_7 : decode b_P_square 7 = .ok (.getfield 36, 3) := by decide +kernel
theorem d_P_square_10 : decode b_P_square 10 = .ok (.iload_n 1, 1) := by decide +kernel
theorem d_P_square_11 : decode b_P_square 11 = .ok (.laload, 1) := by decide +kernel
theorem d_P_square_12 : decode b_P_square 12 = .ok (.aload_n 0, 1) := by decide +kernel
theorem d_P_square_13 : decode b_P_square 13 = .ok (.getfield 29, 3) := by decide +kernel
theorem d_P_square_16 : decode b_P_square 16 = .ok (.iload_n 2, 1) := by decide +kernel
theorem d_P_square_17 : decode b_P_square 17 = .ok (.laload, 1) := by decide +kernel
theorem d_P_square_18 : decode b_P_square 18 = .ok (.aload_n 0, 1) := by decide +kernel
theorem d_P_square_19 : decode b_P_square 19 = .ok (.getfield 36, 3) := by decide +kernel
theorem d_P_square_22 : decode b_P_square 22 = .ok (.iload_n 2, 1) := by decide +kernel
theorem d_P_square_23 : decode b_P_square 23 = .ok (.laload, 1) := by decide +kernel
theorem d_P_square_24 : decode b_P_square 24 = .ok (.invokestatic 53, 3) := by decide +kernel
theorem d_P_square_27 : decode b_P_square 27 = .ok (.lstore_n 3, 1) := by decide +kernel
theorem d_P_square_28 : decode b_P_square 28 = .ok (.aload_n 0, 1) := by decide +kernel
theorem d_P_square_29 : decode b_P_square 29 = .ok (.getfield 33, 3) := by decide +kernel
theorem d_P_square_32 : decode b_P_square 32 = .ok (.iload_n 1, 1) := by decide +kernel
theorem d_P_square_33 : decode b_P_square 33 = .ok (.laload, 1) := by decide +kernel
theorem d_P_square_34 : decode b_P_square 34 = .ok (.aload_n 0, 1) := by decide +kernel
theorem d_P_square_35 : decode b_P_square 35 = .ok (.getfield 39, 3) := by decide +kernel
theorem d_P_square_38 : decode b_P_square 38 = .ok (.iload_n 1, 1) := by decide +kernel
theorem d_P_square_39 : decode b_P_square 39 = .ok (.laload, 1) := by decide +kernel
theorem d_P_square_40 : decode b_P_square 40 = .ok (.aload_n 0, 1) := by decide +kernel
theorem d_P_square_41 : decode b_P_square 41 = .ok (.getfield 33, 3) := by decide +kernel
theorem d_P_square_44 : decode b_P_square 44 = .ok (.iload_n 2, 1) := by decide +kernel
theorem d_P_square_45 : decode b_P_square 45 = .ok (.laload, 1) := by decide +kernel
theorem d_P_square_46 : decode b_P_square 46 = .ok (.aload_n 0, 1) := by decide +kernel
theorem d_P_square_47 : decode b_P_square 47 = .ok (.getfield 39, 3) := by decide +kernel
theorem d_P_square_50 : decode b_P_square 50 = .ok (.iload_n 2, 1) := by decide +kernel
theorem d_P_square_51 : decode b_P_square 51 = .ok (.laload, 1) := by decide +kernel
theorem d_P_square_52 : decode b_P_square 52 = .ok (.invokestatic 53, 3) := by decide +kernel
theorem d_P_square_55 : decode b_P_square 55 = .ok (.lstore 5, 2) := by decide +kernel
theorem d_P_square_57 : decode b_P_square 57 = .ok (.lload_n 3, 1) := by decide +kernel
theorem d_P_square_58 : decode b_P_square 58 = .ok (.lload_n 3, 1) := by decide +kernel
theorem d_P_square_59 : decode b_P_square 59 = .ok (.lmul, 1) := by decide +kernel
theorem d_P_square_60 : decode b_P_square 60 = .ok (.lload 5, 2) := by decide +kernel
theorem d_P_square_62 : decode b_P_square 62 = .ok (.lload 5, 2) := by decide +kernel
theorem d_P_square_64 : decode b_P_square 64 = .ok (.lmul, 1) := by decide +kernel
theorem d_P_square_65 : decode b_P_square 65 = .ok (.ladd, 1) := by decide +kernel
theorem d_P_square_66 : decode b_P_square 66 = .ok (.lreturn, 1) := by decide +kernel
theorem d_P_touch_0 : decode b_P_touch 0 = .ok (.aload_n 0, 1) := by decide +kernel
theorem d_P_touch_1 : decode b_P_touch 1 = .ok (.getfield 19, 3) := by decide +kernel
theorem d_P_touch_4 : decode b_P_touch 4 = .ok (.iload_n 1, 1) := by decide +kernel
theorem d_P_touch_5 : decode b_P_touch 5 = .ok (.iaload, 1) := by decide +kernel
theorem d_P_touch_6 : decode b_P_touch 6 = .ok (.aload_n 0, 1) := by decide +kernel
theorem d_P_touch_7 : decode b_P_touch 7 = .ok (.getfield 23, 3) := by decide +kernel
theorem d_P_touch_10 : decode b_P_touch 10 = .ok (.iload_n 2, 1) := by decide +kernel
theorem d_P_touch_11 : decode b_P_touch 11 = .ok (.iaload, 1) := by decide +kernel
theorem d_P_touch_12 : decode b_P_touch 12 = .ok (.if_icmp .gt 18, 3) := by decide +kernel
theorem d_P_touch_15 : decode b_P_touch 15 = .ok (.aload_n 0, 1) := by decide +kernel
theorem d_P_touch_16 : decode b_P_touch 16 = .ok (.getfield 19, 3) := by decide +kernel
theorem d_P_touch_19 : decode b_P_touch 19 = .ok (.iload_n 2, 1) := by decide +kernel
theorem d_P_touch_20 : decode b_P_touch 20 = .ok (.iaload, 1) := by decide +kernel
theorem d_P_touch_21 : decode b_P_touch 21 = .ok (.aload_n 0, 1) := by decide +kernel
theorem d_P_touch_22 : decode b_P_touch 22 = .ok (.getfield 23, 3) := by decide +kernel
theorem d_P_touch_25 : decode b_P_touch 25 = .ok (.iload_n 1, 1) := by decide +kernel
theorem d_P_touch_26 : decode b_P_touch 26 = .ok (.iaload, 1) := by decide +kernel
theorem d_P_touch_27 : decode b_P_touch 27 = .ok (.if_icmp .le 5, 3) := by decide +kernel
theorem d_P_touch_30 : decode b_P_touch 30 = .ok (.iconst 0, 1) := by decide +kernel
theorem d_P_touch_31 : decode b_P_touch 31 = .ok (.ireturn, 1) := by decide +kernel
theorem d_P_touch_32 : decode b_P_touch 32 = .ok (.aload_n 0, 1) := by decide +kernel
theorem d_P_touch_33 : decode b_P_touch 33 = .ok (.getfield 42, 3) := by decide +kernel
theorem d_P_touch_36 : decode b_P_touch 36 = .ok (.iload_n 1, 1) := by decide +kernel
theorem d_P_touch_37 : decode b_P_touch 37 = .ok (.laload, 1) := by decide +kernel
theorem d_P_touch_38 : decode b_P_touch 38 = .ok (.aload_n 0, 1) := by decide +kernel
theorem d_P_touch_39 : decode b_P_touch 39 = .ok (.getfield 42, 3) := by decide +kernel
theorem d_P_touch_42 : decode b_P_touch 42 = .ok (.iload_n 2, 1) := by decide +kernel
theorem d_P_touch_43 : decode b_P_touch 43 = .ok (.laload, 1) := by decide +kernel
theorem d_P_touch_44 : decode b_P_touch 44 = .ok (.ladd, 1) := by decide +kernel
theorem d_P_touch_45 : decode b_P_touch 45 = .ok (.lstore_n 3, 1) := by decide +kernel
theorem d_P_touch_46 : decode b_P_touch 46 = .ok (.aload_n 0, 1) := by decide +kernel
theorem d_P_touch_47 : decode b_P_touch 47 = .ok (.iload_n 1, 1) := by decide +kernel
theorem d_P_touch_48 : decode b_P_touch 48 = .ok (.iload_n 2, 1) := by decide +kernel
theorem d_P_touch_49 : decode b_P_touch 49 = .ok (.invokevirtual 49, 3) := by decide +kernel
theorem d_P_touch_52 : decode b_P_touch 52 = .ok (.lload_n 3, 1) := by decide +kernel
theorem d_P_touch_53 : decode b_P_touch 53 = .ok (.lload_n 3, 1) := by decide +kernel
theorem d_P_touch_54 : decode b_P_touch 54 = .ok (.lmul, 1) := by decide +kernel
theorem d_P_touch_55 : decode b_P_touch 55 = .ok (.lcmp, 1) := by decide +kernel
theorem d_P_touch_56 : decode b_P_touch 56 = .ok (.ifCond .gt 7, 3) := by decide +kernel
theorem d_P_touch_59 : decode b_P_touch 59 = .ok (.iconst 1, 1) := by decide +kernel
theorem d_P_touch_60 : decode b_P_touch 60 = .ok (.goto 4, 3) := by decide +kernel
theorem d_P_touch_63 : decode b_P_touch 63 = .ok (.iconst 0, 1) := by decide +kernel
theorem d_P_touch_64 : decode b_P_touch 64 = .ok (.ireturn, 1) := by decide +kernel
theorem d_G_has_0 : decode b_G_has 0 = .ok (.aload_n 0, 1) := by decide +kernel
theorem d_G_has_1 : decode b_G_has 1 = .ok (.getfield 9, 3) := by decide +kernel
theorem d_G_has_4 : decode b_G_has 4 = .ok (.iload_n 1, 1) := by decide +kernel
theorem d_G_has_5 : decode b_G_has 5 = .ok (.iaload, 1) := by decide +kernel
theorem d_G_has_6 : decode b_G_has 6 = .ok (.iconst (-1), 1) := by decide +kernel
theorem d_G_has_7 : decode b_G_has 7 = .ok (.if_icmp .eq 7, 3) := by decide +kernel
theorem d_G_has_10 : decode b_G_has 10 = .ok (.iconst 1, 1) := by decide +kernel
theorem d_G_has_11 : decode b_G_has 11 = .ok (.goto 4, 3) := by decide +kernel
theorem d_G_has_14 : decode b_G_has 14 = .ok (.iconst 0, 1) := by decide +kernel
theorem d_G_has_15 : decode b_G_has 15 = .ok (.ireturn, 1) := by decide +kernel
theorem d_G_leaderOf_0 : decode b_G_leaderOf 0 = .ok (.aload_n 0, 1) := by decide +kernel
theorem d_G_leaderOf_1 : decode b_G_leaderOf 1 = .ok (.getfield 9, 3) := by decide +kernel
theorem d_G_leaderOf_4 : decode b_G_leaderOf 4 = .ok (.iload_n 1, 1) := by decide +kernel
theorem d_G_leaderOf_5 : decode b_G_leaderOf 5 = .ok (.iaload, 1) := by decide +kernel
theorem d_G_leaderOf_6 : decode b_G_leaderOf 6 = .ok (.ireturn, 1) := by decide +kernel
theorem d_G_begin_0 : decode b_G_begin 0 = .ok (.aload_n 0, 1) := by decide +kernel
theorem d_G_begin_1 : decode b_G_begin 1 = .ok (.getfield 9, 3) := by decide +kernel
theorem d_G_begin_4 : decode b_G_begin 4 = .ok (.iload_n 1, 1) := by decide +kernel
theorem d_G_begin_5 : decode b_G_begin 5 = .ok (.iload_n 1, 1) := by decide +kernel
theorem d_G_begin_6 : decode b_G_begin 6 = .ok (.iastore, 1) := by decide +kernel
theorem d_G_begin_7 : decode b_G_begin 7 = .ok (.return_, 1) := by decide +kernel
theorem d_jM_min_I_0 : decode b_jM_min_I 0 = .ok (.iload_n 0, 1) := by decide +kernel
theorem d_jM_min_I_1 : decode b_jM_min_I 1 = .ok (.iload_n 1, 1) := by decide +kernel
theorem d_jM_min_I_2 : decode b_jM_min_I 2 = .ok (.if_icmp .gt 7, 3) := by decide +kernel
theorem d_jM_min_I_5 : decode b_jM_min_I 5 = .ok (.iload_n 0, 1) := by decide +kernel
theorem d_jM_min_I_6 : decode b_jM_min_I 6 = .ok (.goto 4, 3) := by decide +kernel
theorem d_jM_min_I_9 : decode b_jM_min_I 9 = .ok (.iload_n 1, 1) := by decide +kernel
theorem d_jM_min_I_10 : decode b_jM_min_I 10 = .ok (.ireturn, 1) := by decide +kernel
theorem d_jM_max_I_0 : decode b_jM_max_I 0 = .ok (.iload_n 0, 1) := by decide +kernel
theorem d_jM_max_I_1 : decode b_jM_max_I 1 = .ok (.iload_n 1, 1) := by decide +kernel
theorem d_jM_max_I_2 : decode b_jM_max_I 2 = .ok (.if_icmp .lt 7, 3) := by decide +kernel
theorem d_jM_max_I_5 : decode b_jM_max_I 5 = .ok (.iload_n 0, 1) := by decide +kernel
theorem d_jM_max_I_6 : decode b_jM_max_I 6 = .ok (.goto 4, 3) := by decide +kernel
theorem d_jM_max_I_9 : decode b_jM_max_I 9 = .ok (.iload_n 1, 1) := by decide +kernel
theorem d_jM_max_I_10 : decode b_jM_max_I 10 = .ok (.ireturn, 1) := by decide +kernel
theorem d_G_join_0 : decode b_G_join 0 = .ok (.aload_n 0, 1) := by decide +kernel
theorem d_G_join_1 : decode b_G_join 1 = .ok (.getfield 9, 3) := by decide +kernel
theorem d_G_join_4 : decode b_G_join 4 = .ok (.iload_n 1, 1) := by decide +kernel
theorem d_G_join_5 : decode b_G_join 5 = .ok (.iaload, 1) := by decide +kernel
theorem d_G_join_6 : decode b_G_join 6 = .ok (.aload_n 0, 1) := by decide +kernel
theorem d_G_join_7 : decode b_G_join 7 = .ok (.getfield 9, 3) := by decide +kernel
theorem d_G_join_10 : decode b_G_join 10 = .ok (.iload_n 2, 1) := by decide +kernel
theorem d_G_join_11 : decode b_G_join 11 = .ok (.iaload, 1) := by decide +kernel
theorem d_G_join_12 : decode b_G_join 12 = .ok (.invokestatic 24, 3) := by decide +kernel
theorem d_G_join_15 : decode b_G_join 15 = .ok (.istore_n 3, 1) := by decide +kernel
theorem d_G_join_16 : decode b_G_join 16 = .ok (.aload_n 0, 1) := by decide +kernel
theorem d_G_join_17 : decode b_G_join 17 = .ok (.getfield 9, 3) := by decide +kernel
theorem d_G_join_20 : decode b_G_join 20 = .ok (.iload_n 1, 1) := by decide +kernel
theorem d_G_join_21 : decode b_G_join 21 = .ok (.iaload, 1) := by decide +kernel
theorem d_G_join_22 : decode b_G_join 22 = .ok (.aload_n 0, 1) := by decide +kernel
theorem d_G_join_23 : decode b_G_join 23 = .ok (.getfield 9, 3) := by decide +kernel
theorem d_G_join_26 : decode b_G_join 26 = .ok (.iload_n 2, 1) := by decide +kernel
theorem d_G_join_27 : decode b_G_join 27 = .ok (.iaload, 1) := by decide +kernel
theorem d_G_join_28 : decode b_G_join 28 = .ok (.invokestatic 30, 3) := by decide +kernel
theorem d_G_join_31 : decode b_G_join 31 = .ok (.istore 4, 2) := by decide +kernel
theorem d_G_join_33 : decode b_G_join 33 = .ok (.iload_n 3, 1) := by decide +kernel
theorem d_G_join_34 : decode b_G_join 34 = .ok (.iload 4, 2) := by decide +kernel
theorem d_G_join_36 : decode b_G_join 36 = .ok (.if_icmp .ne 4, 3) := by decide +kernel
theorem d_G_join_39 : decode b_G_join 39 = .ok (.return_, 1) := by decide +kernel
theorem d_G_join_40 : decode b_G_join 40 = .ok (.iload 4, 2) := by decide +kernel
theorem d_G_join_42 : decode b_G_join 42 = .ok (.istore 5, 2) := by decide +kernel
theorem d_G_join_44 : decode b_G_join 44 = .ok (.iload 5, 2) := by decide +kernel
theorem d_G_join_46 : decode b_G_join 46 = .ok (.bipush 60, 2) := by decide +kernel
theorem d_G_join_48 : decode b_G_join 48 = .ok (.if_icmp .ge 29, 3) := by decide +kernel
theorem d_G_join_51 : decode b_G_join 51 = .ok (.aload_n 0, 1) := by decide +kernel
theorem d_G_join_52 : decode b_G_join 52 = .ok (.getfield 9, 3) := by decide +kernel
theorem d_G_join_55 : decode b_G_join 55 = .ok (.iload 5, 2) := by decide +kernel
theorem d_G_join_57 : decode b_G_join 57 = .ok (.iaload, 1) := by decide +kernel
theorem d_G_join_58 : decode b_G_join 58 = .ok (.iload 4, 2) := by decide +kernel
theorem d_G_join_60 : decode b_G_join 60 = .ok (.if_icmp .ne 11, 3) := by decide +kernel
theorem d_G_join_63 : decode b_G_join 63 = .ok (.aload_n 0, 1) := by decide +kernel
theorem d_G_join_64 : decode b_G_join 64 = .ok (.getfield 9, 3) := by decide +kernel
theorem d_G_join_67 : decode b_G_join 67 = .ok (.iload 5, 2) := by decide +kernel
theorem d_G_join_69 : decode b_G_join 69 = .ok (.iload_n 3, 1) := by decide +kernel
theorem d_G_join_70 : decode b_G_join 70 = .ok (.iastore, 1) := by decide +kernel
theorem d_G_join_71 : decode b_G_join 71 = .ok (.iinc 5 1, 3) := by decide +kernel
theorem d_G_join_74 : decode b_G_join 74 = .ok (.goto (-30), 3) := by decide +kernel
theorem d_G_join_77 : decode b_G_join 77 = .ok (.return_, 1) := by decide +kernel
theorem d_X_leadersBelow_0 : decode b_X_leadersBelow 0 = .ok (.iconst 0, 1) := by decide +kernel
theorem d_X_leadersBelow_1 : decode b_X_leadersBelow 1 = .ok (.istore_n 2, 1) := by decide +kernel
theorem d_X_leadersBelow_2 : decode b_X_leadersBelow 2 = .ok (.iconst 0, 1) := by decide +kernel
theorem d_X_leadersBelow_3 : decode b_X_leadersBelow 3 = .ok (.istore_n 3, 1) := by decide +kernel
theorem d_X_leadersBelow_4 : decode b_X_leadersBelow 4 = .ok (.iload_n 3, 1) := by decide +kernel
theorem d_X_leadersBelow_5 : decode b_X_leadersBelow 5 = .ok (.iload_n 1, 1) := by decide +kernel
theorem d_X_leadersBelow_6 : decode b_X_leadersBelow 6 = .ok (.if_icmp .ge 24, 3) := by decide +kernel
theorem d_X_leadersBelow_9 : decode b_X_leadersBelow 9 = .ok (.aload_n 0, 1) := by decide +kernel
theorem d_X_leadersBelow_10 : decode b_X_leadersBelow 10 = .ok (.getfield 23, 3) := by decide +kernel
theorem d_X_leadersBelow_13 : decode b_X_leadersBelow 13 = .ok (.iload_n 3, 1) := by decide +kernel
theorem d_X_leadersBelow_14 : decode b_X_leadersBelow 14 = .ok (.invokevirtual 118, 3) := by decide +kernel
theorem d_X_leadersBelow_17 : decode b_X_leadersBelow 17 = .ok (.iload_n 3, 1) := by decide +kernel
theorem d_X_leadersBelow_18 : decode b_X_leadersBelow 18 = .ok (.if_icmp .ne 6, 3) := by decide +kernel
theorem d_X_leadersBelow_21 : decode b_X_leadersBelow 21 = .ok (.iinc 2 1, 3) := by decide +kernel
theorem d_X_leadersBelow_24 : decode b_X_leadersBelow 24 = .ok (.iinc 3 1, 3) := by decide +kernel
theorem d_X_leadersBelow_27 : decode b_X_leadersBelow 27 = .ok (.goto (-23), 3) := by decide +kernel
theorem d_X_leadersBelow_30 : decode b_X_leadersBelow 30 = .ok (.iload_n 2, 1) := by decide +kernel
theorem d_X_leadersBelow_31 : decode b_X_leadersBelow 31 = .ok (.ireturn, 1) := by decide +kernel
end
section
/-! CopperNets$Pieces.isThere(I)Z -/
abbrev r_P_isThere : Room := { frames := 0, cells := 0, slots := 0, locals := 0 }
abbrev w_P_isThere (cy : Nat → ClassId) (A_p : Nat) (A_p_there : Nat) (A_p_from : Nat) (A_p_to : Nat) (A_p_pin : Nat) (A_p_left : Nat) (A_p_low : Nat) (A_p_right : Nat) (A_p_high : Nat) (A_p_rim : Nat) (p_count : Int32) (p_there : Nat → Int32) : va_W := [(A_p, .inr (3, [.int p_count, .ref A_p_there, .ref A_p_from, .ref A_p_to, .ref A_p_pin, .ref A_p_left, .ref A_p_low, .ref A_p_right, .ref A_p_high, .ref A_p_rim])), (A_p_there, .inl (cy 2, 60, .inl p_there))]
theorem hs_P_isThere : y_P_isThere.cls ≠ "java/lang/invoke/MethodHandle" ∧ y_P_isThere.cls ≠ "java/lang/invoke/VarHandle" ∧ (parseMethodDescriptor y_P_isThere.desc).map (fun d => d.parameters.length) = some 1 := by decide +kernel
def F_P_isThere_0 (p_there : Nat → Int32) (v1 : Int32) : Option (Int32) := cn_rd v1 60 (cn_bl (p_there (Int32.toNatClampNeg v1)) (some ((p_there (Int32.toNatClampNeg v1)))))
set_option maxRecDepth 100000 in
set_option maxHeartbeats 4000000 in
theorem t_P_isThere_0 {p : Program} {l : Launch} {e : Env} {s : State} {m : MethodId} {args : Array Value} {below : List Frame} {meth : Method} {c : Code} {D : va_G} {cy : Nat → ClassId} {out : Int32} (C : cn_X p s m args c b_P_isThere 2 "CopperNets$Pieces" D cy) (hr : meth.sig.returnType = some .boolean) (hlk : meth.locks = false) (A_p : Nat) (A_p_there : Nat) (A_p_from : Nat) (A_p_to : Nat) (A_p_pin : Nat) (A_p_left : Nat) (A_p_low : Nat) (A_p_right : Nat) (A_p_high : Nat) (A_p_rim : Nat) (p_count : Int32) (p_there : Nat → Int32) (v1 : Int32) (hF : F_P_isThere_0 p_there v1 = some out) : cg p l e r_P_isThere s m args below meth c D (cn_hi s) (fun _ => True) 2 0 0 (MQ below (cn_QR (some (.int out))) args s 0 0 (fun _ => False)) (w_P_isThere cy A_p A_p_there A_p_from A_p_to A_p_pin A_p_left A_p_low A_p_right A_p_high A_p_rim p_count p_there) 0 [(0, .ref A_p), (1, .int v1)] [] := by
  refine cg_aload_n C d_P_isThere_0 0 rfl ?_
  refine cg_get C 0 1 d_P_isThere_1 rfl rfl hin_P (by decide) rfl tw_31 rfl ?_
  refine cg_iload_n C d_P_isThere_4 1 rfl ?_
  obtain ⟨i_1, hF⟩ := cn_rd_some hF
  refine cg_zald C 1 d_P_isThere_5 rfl i_1 ?_
  obtain ⟨hz, hF⟩ := cn_bl_some hF
  obtain rfl := Option.some.inj hF
  exact cg_zretR C hr hz hlk d_P_isThere_6
abbrev F_P_isThere (p_there : Nat → Int32) (v1 : Int32) : Option (Int32) := F_P_isThere_0 p_there v1
theorem c_P_isThere {l : Launch} {D : va_G} {cy : Nat → ClassId} (A_p : Nat) (A_p_there : Nat) (A_p_from : Nat) (A_p_to : Nat) (A_p_pin : Nat) (A_p_left : Nat) (A_p_low : Nat) (A_p_right : Nat) (A_p_high : Nat) (A_p_rim : Nat) (p_count : Int32) (p_there : Nat → Int32) (v1 : Int32) {out : Int32} (hF : F_P_isThere p_there v1 = some out) : cn_MR l y_P_isThere b_P_isThere 2 (some .boolean) r_P_isThere D cy [.ref A_p, .int v1] (w_P_isThere cy A_p A_p_there A_p_from A_p_to A_p_pin A_p_left A_p_low A_p_right A_p_high A_p_rim p_count p_there) (some (.int out)) :=
  cn_MR.of (by decide) (Nat.le_of_ble_eq_true rfl) (fun p e s m below meth c C hr hlk => t_P_isThere_0 C hr hlk A_p A_p_there A_p_from A_p_to A_p_pin A_p_left A_p_low A_p_right A_p_high A_p_rim p_count p_there v1 hF)
/-! CopperNets$Pieces.gap(JJJJ)J -/
abbrev r_P_gap : Room := { frames := 0, cells := 0, slots := 0, locals := 0 }
abbrev w_P_gap (cy : Nat → ClassId) : va_W := []
theorem hs_P_gap : y_P_gap.cls ≠ "java/lang/invoke/MethodHandle" ∧ y_P_gap.cls ≠ "java/lang/invoke/VarHandle" ∧ (parseMethodDescriptor y_P_gap.desc).map (fun d => d.parameters.length) = some 4 := by decide +kernel
def F_P_gap_27 (s0 : Int64) : Option (Int64) := some (s0)
set_option maxRecDepth 100000 in
set_option maxHeartbeats 4000000 in
theorem t_P_gap_27 {p : Program} {l : Launch} {e : Env} {s : State} {m : MethodId} {args : Array Value} {below : List Frame} {meth : Method} {c : Code} {D : va_G} {cy : Nat → ClassId} {out : Int64} (C : cn_X p s m args c b_P_gap 8 "CopperNets$Pieces" D cy) (hr : meth.sig.returnType = some .long) (hlk : meth.locks = false) (s0 : Int64) (hF : F_P_gap_27 s0 = some out) : cg p l e r_P_gap s m args below meth c D (cn_hi s) (fun _ => True) 8 0 0 (MQ below (cn_QR (some (.long out))) args s 0 0 (fun _ => False)) (w_P_gap cy) 27 [] [.long s0] := by
  obtain rfl := Option.some.inj hF
  exact cg_lretR C hr hlk d_P_gap_27
def F_P_gap_0 (v0 : Int64) (v2 : Int64) (v4 : Int64) (v6 : Int64) : Option (Int64) := if (lg_cmp v4 v2) ≤ 0 then (if (lg_cmp v0 v6) ≤ 0 then (F_P_gap_27 0) else (F_P_gap_27 (v0 - v6))) else (some ((v4 - v2)))
set_option maxRecDepth 100000 in
set_option maxHeartbeats 4000000 in
theorem t_P_gap_0 {p : Program} {l : Launch} {e : Env} {s : State} {m : MethodId} {args : Array Value} {below : List Frame} {meth : Method} {c : Code} {D : va_G} {cy : Nat → ClassId} {out : Int64} (C : cn_X p s m args c b_P_gap 8 "CopperNets$Pieces" D cy) (hr : meth.sig.returnType = some .long) (hlk : meth.locks = false) (v0 : Int64) (v2 : Int64) (v4 : Int64) (v6 : Int64) (hF : F_P_gap_0 v0 v2 v4 v6 = some out) : cg p l e r_P_gap s m args below meth c D (cn_hi s) (fun _ => True) 8 0 0 (MQ below (cn_QR (some (.long out))) args s 0 0 (fun _ => False)) (w_P_gap cy) 0 [(0, .long v0), (2, .long v2), (4, .long v4), (6, .long v6)] [] := by
  refine cg_lload C d_P_gap_0 2 rfl ?_
  refine cg_lload_n C d_P_gap_2 1 rfl ?_
  refine cg_lcmp C d_P_gap_3 ?_
  refine cg_if_le C 12 d_P_gap_4 (by decide) (fun q_1 => ?_) (fun q_1 => ?_)
  · have hF := cn_pos q_1 hF
    refine cg_lload_n C d_P_gap_12 0 rfl ?_
    refine cg_lload C d_P_gap_13 3 rfl ?_
    refine cg_lcmp C d_P_gap_15 ?_
    refine cg_if_le C 26 d_P_gap_16 (by decide) (fun q_2 => ?_) (fun q_2 => ?_)
    · have hF := cn_pos q_2 hF
      refine cg_lconst (v := 0) C d_P_gap_26 (by decide) ?_
      refine cg_sub (lv' := []) [] rfl ?_
      exact t_P_gap_27 C hr hlk 0 hF
    · have hF := cn_neg q_2 hF
      refine cg_lload_n C d_P_gap_19 0 rfl ?_
      refine cg_lload C d_P_gap_20 3 rfl ?_
      refine cg_lsub C d_P_gap_22 ?_
      refine cg_goto C 27 d_P_gap_23 (by decide) ?_
      refine cg_sub (lv' := []) [] rfl ?_
      exact t_P_gap_27 C hr hlk (v0 - v6) hF
  · have hF := cn_neg q_1 hF
    refine cg_lload C d_P_gap_7 2 rfl ?_
    refine cg_lload_n C d_P_gap_9 1 rfl ?_
    refine cg_lsub C d_P_gap_10 ?_
    obtain rfl := Option.some.inj hF
    exact cg_lretR C hr hlk d_P_gap_11
abbrev F_P_gap (v0 : Int64) (v2 : Int64) (v4 : Int64) (v6 : Int64) : Option (Int64) := F_P_gap_0 v0 v2 v4 v6
theorem c_P_gap {l : Launch} {D : va_G} {cy : Nat → ClassId} (v0 : Int64) (v2 : Int64) (v4 : Int64) (v6 : Int64) {out : Int64} (hF : F_P_gap v0 v2 v4 v6 = some out) : cn_MR l y_P_gap b_P_gap 8 (some .long) r_P_gap D cy [.long v0, .long v2, .long v4, .long v6] (w_P_gap cy) (some (.long out)) :=
  cn_MR.of (by decide) (Nat.le_of_ble_eq_true rfl) (fun p e s m below meth c C hr hlk => t_P_gap_0 C hr hlk v0 v2 v4 v6 hF)
/-! CopperNets$Pieces.square(II)J -/
abbrev r_P_square : Room := { frames := 1, cells := 0, slots := 0, locals := 27 }
abbrev w_P_square (cy : Nat → ClassId) (A_p : Nat) (A_p_there : Nat) (A_p_from : Nat) (A_p_to : Nat) (A_p_pin : Nat) (A_p_left : Nat) (A_p_low : Nat) (A_p_right : Nat) (A_p_high : Nat) (A_p_rim : Nat) (p_count : Int32) (p_left : Nat → Int64) (p_low : Nat → Int64) (p_right : Nat → Int64) (p_high : Nat → Int64) : va_W := [(A_p, .inr (3, [.int p_count, .ref A_p_there, .ref A_p_from, .ref A_p_to, .ref A_p_pin, .ref A_p_left, .ref A_p_low, .ref A_p_right, .ref A_p_high, .ref A_p_rim])), (A_p_left, .inl (cy 1, 60, .inr (.inl p_left))), (A_p_low, .inl (cy 1, 60, .inr (.inl p_low))), (A_p_right, .inl (cy 1, 60, .inr (.inl p_right))), (A_p_high, .inl (cy 1, 60, .inr (.inl p_high)))]
theorem hs_P_square : y_P_square.cls ≠ "java/lang/invoke/MethodHandle" ∧ y_P_square.cls ≠ "java/lang/invoke/VarHandle" ∧ (parseMethodDescriptor y_P_square.desc).map (fun d => d.parameters.length) = some 2 := by decide +kernel
def F_P_square_0 (p_left : Nat → Int64) (p_low : Nat → Int64) (p_right : Nat → Int64) (p_high : Nat → Int64) (v1 : Int32) (v2 : Int32) : Option (Int64) := cn_rd v1 60 (cn_rd v1 60 (cn_rd v2 60 (cn_rd v2 60 ((F_P_gap (p_left (Int32.toNatClampNeg v1)) (p_right (Int32.toNatClampNeg v1)) (p_left (Int32.toNatClampNeg v2)) (p_right (Int32.toNatClampNeg v2))).bind fun t_6 => cn_rd v1 60 (cn_rd v1 60 (cn_rd v2 60 (cn_rd v2 60 ((F_P_gap (p_low (Int32.toNatClampNeg v1)) (p_high (Int32.toNatClampNeg v1)) (p_low (Int32.toNatClampNeg v2)) (p_high (Int32.toNatClampNeg v2))).bind fun t_12 => some (((t_6 * t_6) + (t_12 * t_12)))))))))))
set_option maxRecDepth 100000 in
set_option maxHeartbeats 4000000 in
theorem t_P_square_0 {p : Program} {l : Launch} {e : Env} {s : State} {m : MethodId} {args : Array Value} {below : List Frame} {meth : Method} {c : Code} {D : va_G} {cy : Nat → ClassId} {out : Int64} (C : cn_X p s m args c b_P_square 7 "CopperNets$Pieces" D cy) (hr : meth.sig.returnType = some .long) (hlk : meth.locks = false) (A_p : Nat) (A_p_there : Nat) (A_p_from : Nat) (A_p_to : Nat) (A_p_pin : Nat) (A_p_left : Nat) (A_p_low : Nat) (A_p_right : Nat) (A_p_high : Nat) (A_p_rim : Nat) (p_count : Int32) (p_left : Nat → Int64) (p_low : Nat → Int64) (p_right : Nat → Int64) (p_high : Nat → Int64) (v1 : Int32) (v2 : Int32) (hF : F_P_square_0 p_left p_low p_right p_high v1 v2 = some out) : cg p l e r_P_square s m args below meth c D (cn_hi s) (fun _ => True) 7 0 0 (MQ below (cn_QR (some (.long out))) args s 0 0 (fun _ => False)) (w_P_square cy A_p A_p_there A_p_from A_p_to A_p_pin A_p_left A_p_low A_p_right A_p_high A_p_rim p_count p_left p_low p_right p_high) 0 [(0, .ref A_p), (1, .int v1), (2, .int v2)] [] := by
  refine cg_aload_n C d_P_square_0 0 rfl ?_
  refine cg_get C 0 5 d_P_square_1 rfl rfl hin_P (by decide) rfl tw_35 rfl ?_
  refine cg_iload_n C d_P_square_4 1 rfl ?_
  obtain ⟨i_1, hF⟩ := cn_rd_some hF
  refine cg_lald C 1 d_P_square_5 rfl i_1 ?_
  refine cg_aload_n C d_P_square_6 0 rfl ?_
  refine cg_get C 0 7 d_P_square_7 rfl rfl hin_P (by decide) rfl tw_37 rfl ?_
  refine cg_iload_n C d_P_square_10 1 rfl ?_
  obtain ⟨i_2, hF⟩ := cn_rd_some hF
  refine cg_lald C 3 d_P_square_11 rfl i_2 ?_
  refine cg_aload_n C d_P_square_12 0 rfl ?_
  refine cg_get C 0 5 d_P_square_13 rfl rfl hin_P (by decide) rfl tw_35 rfl ?_
  refine cg_iload_n C d_P_square_16 2 rfl ?_
  obtain ⟨i_3, hF⟩ := cn_rd_some hF
  refine cg_lald C 1 d_P_square_17 rfl i_3 ?_
  refine cg_aload_n C d_P_square_18 0 rfl ?_
  refine cg_get C 0 7 d_P_square_19 rfl rfl hin_P (by decide) rfl tw_37 rfl ?_
  refine cg_iload_n C d_P_square_22 2 rfl ?_
  obtain ⟨i_4, hF⟩ := cn_rd_some hF
  refine cg_lald C 3 d_P_square_23 rfl i_4 ?_
  obtain ⟨t_6, h_5, hF⟩ := cn_bind hF
  refine cg_callRS C (c_P_gap (p_left (Int32.toNatClampNeg v1)) (p_right (Int32.toNatClampNeg v1)) (p_left (Int32.toNatClampNeg v2)) (p_right (Int32.toNatClampNeg v2)) h_5) [] rfl (by decide) d_P_square_24 tw_214 tw_215 tw_2 tw_216 hs_P_gap ⟨by decide, by decide⟩ rfl rfl ⟨by decide, by decide⟩ (Nat.le_of_ble_eq_true rfl) rfl rfl ?_
  refine cg_lstore_n (lv' := [(3, .long t_6), (0, .ref A_p), (1, .int v1), (2, .int v2)]) C d_P_square_27 (by decide) rfl ?_
  refine cg_aload_n C d_P_square_28 1 rfl ?_
  refine cg_get C 0 6 d_P_square_29 rfl rfl hin_P (by decide) rfl tw_36 rfl ?_
  refine cg_iload_n C d_P_square_32 2 rfl ?_
  obtain ⟨i_7, hF⟩ := cn_rd_some hF
  refine cg_lald C 2 d_P_square_33 rfl i_7 ?_
  refine cg_aload_n C d_P_square_34 1 rfl ?_
  refine cg_get C 0 8 d_P_square_35 rfl rfl hin_P (by decide) rfl tw_38 rfl ?_
  refine cg_iload_n C d_P_square_38 2 rfl ?_
  obtain ⟨i_8, hF⟩ := cn_rd_some hF
  refine cg_lald C 4 d_P_square_39 rfl i_8 ?_
  refine cg_aload_n C d_P_square_40 1 rfl ?_
  refine cg_get C 0 6 d_P_square_41 rfl rfl hin_P (by decide) rfl tw_36 rfl ?_
  refine cg_iload_n C d_P_square_44 3 rfl ?_
  obtain ⟨i_9, hF⟩ := cn_rd_some hF
  refine cg_lald C 2 d_P_square_45 rfl i_9 ?_
  refine cg_aload_n C d_P_square_46 1 rfl ?_
  refine cg_get C 0 8 d_P_square_47 rfl rfl hin_P (by decide) rfl tw_38 rfl ?_
  refine cg_iload_n C d_P_square_50 3 rfl ?_
  obtain ⟨i_10, hF⟩ := cn_rd_some hF
  refine cg_lald C 4 d_P_square_51 rfl i_10 ?_
  obtain ⟨t_12, h_11, hF⟩ := cn_bind hF
  refine cg_callRS C (c_P_gap (p_low (Int32.toNatClampNeg v1)) (p_high (Int32.toNatClampNeg v1)) (p_low (Int32.toNatClampNeg v2)) (p_high (Int32.toNatClampNeg v2)) h_11) [] rfl (by decide) d_P_square_52 tw_214 tw_215 tw_2 tw_216 hs_P_gap ⟨by decide, by decide⟩ rfl rfl ⟨by decide, by decide⟩ (Nat.le_of_ble_eq_true rfl) rfl rfl ?_
  refine cg_lstore (lv' := [(5, .long t_12), (3, .long t_6), (0, .ref A_p), (1, .int v1), (2, .int v2)]) C d_P_square_55 (by decide) rfl ?_
  refine cg_lload_n C d_P_square_57 1 rfl ?_
  refine cg_lload_n C d_P_square_58 1 rfl ?_
  refine cg_lmul C d_P_square_59 ?_
  refine cg_lload C d_P_square_60 0 rfl ?_
  refine cg_lload C d_P_square_62 0 rfl ?_
  refine cg_lmul C d_P_square_64 ?_
  refine cg_ladd C d_P_square_65 ?_
  obtain rfl := Option.some.inj hF
  exact cg_lretR C hr hlk d_P_square_66
abbrev F_P_square (p_left : Nat → Int64) (p_low : Nat → Int64) (p_right : Nat → Int64) (p_high : Nat → Int64) (v1 : Int32) (v2 : Int32) : Option (Int64) := F_P_square_0 p_left p_low p_right p_high v1 v2
theorem c_P_square {l : Launch} {D : va_G} {cy : Nat → ClassId} (A_p : Nat) (A_p_there : Nat) (A_p_from : Nat) (A_p_to : Nat) (A_p_pin : Nat) (A_p_left : Nat) (A_p_low : Nat) (A_p_right : Nat) (A_p_high : Nat) (A_p_rim : Nat) (p_count : Int32) (p_left : Nat → Int64) (p_low : Nat → Int64) (p_right : Nat → Int64) (p_high : Nat → Int64) (v1 : Int32) (v2 : Int32) {out : Int64} (hF : F_P_square p_left p_low p_right p_high v1 v2 = some out) : cn_MR l y_P_square b_P_square 7 (some .long) r_P_square D cy [.ref A_p, .int v1, .int v2] (w_P_square cy A_p A_p_there A_p_from A_p_to A_p_pin A_p_left A_p_low A_p_right A_p_high A_p_rim p_count p_left p_low p_right p_high) (some (.long out)) :=
  cn_MR.of (by decide) (Nat.le_of_ble_eq_true rfl) (fun p e s m below meth c C hr hlk => t_P_square_0 C hr hlk A_p A_p_there A_p_from A_p_to A_p_pin A_p_left A_p_low A_p_right A_p_high A_p_rim p_count p_left p_low p_right p_high v1 v2 hF)
/-! CopperNets$Pieces.touch(II)Z -/
abbrev r_P_touch : Room := { frames := 2, cells := 0, slots := 0, locals := 53 }
abbrev w_P_touch (cy : Nat → ClassId) (A_p : Nat) (A_p_there : Nat) (A_p_from : Nat) (A_p_to : Nat) (A_p_pin : Nat) (A_p_left : Nat) (A_p_low : Nat) (A_p_right : Nat) (A_p_high : Nat) (A_p_rim : Nat) (p_count : Int32) (p_from : Nat → Int32) (p_to : Nat → Int32) (p_left : Nat → Int64) (p_low : Nat → Int64) (p_right : Nat → Int64) (p_high : Nat → Int64) (p_rim : Nat → Int64) : va_W := [(A_p, .inr (3, [.int p_count, .ref A_p_there, .ref A_p_from, .ref A_p_to, .ref A_p_pin, .ref A_p_left, .ref A_p_low, .ref A_p_right, .ref A_p_high, .ref A_p_rim])), (A_p_from, .inl (cy 0, 60, .inl p_from)), (A_p_to, .inl (cy 0, 60, .inl p_to)), (A_p_left, .inl (cy 1, 60, .inr (.inl p_left))), (A_p_low, .inl (cy 1, 60, .inr (.inl p_low))), (A_p_right, .inl (cy 1, 60, .inr (.inl p_right))), (A_p_high, .inl (cy 1, 60, .inr (.inl p_high))), (A_p_rim, .inl (cy 1, 60, .inr (.inl p_rim)))]
theorem hs_P_touch : y_P_touch.cls ≠ "java/lang/invoke/MethodHandle" ∧ y_P_touch.cls ≠ "java/lang/invoke/VarHandle" ∧ (parseMethodDescriptor y_P_touch.desc).map (fun d => d.parameters.length) = some 2 := by decide +kernel
def F_P_touch_30 (p_from : Nat → Int32) (p_to : Nat → Int32) (p_left : Nat → Int64) (p_low : Nat → Int64) (p_right : Nat → Int64) (p_high : Nat → Int64) (p_rim : Nat → Int64) : Option (Int32) := some (0)
set_option maxRecDepth 100000 in
set_option maxHeartbeats 4000000 in
theorem t_P_touch_30 {p : Program} {l : Launch} {e : Env} {s : State} {m : MethodId} {args : Array Value} {below : List Frame} {meth : Method} {c : Code} {D : va_G} {cy : Nat → ClassId} {out : Int32} (C : cn_X p s m args c b_P_touch 5 "CopperNets$Pieces" D cy) (hr : meth.sig.returnType = some .boolean) (hlk : meth.locks = false) (A_p : Nat) (A_p_there : Nat) (A_p_from : Nat) (A_p_to : Nat) (A_p_pin : Nat) (A_p_left : Nat) (A_p_low : Nat) (A_p_right : Nat) (A_p_high : Nat) (A_p_rim : Nat) (p_count : Int32) (p_from : Nat → Int32) (p_to : Nat → Int32) (p_left : Nat → Int64) (p_low : Nat → Int64) (p_right : Nat → Int64) (p_high : Nat → Int64) (p_rim : Nat → Int64) (hF : F_P_touch_30 p_from p_to p_left p_low p_right p_high p_rim = some out) : cg p l e r_P_touch s m args below meth c D (cn_hi s) (fun _ => True) 5 0 0 (MQ below (cn_QR (some (.int out))) args s 0 0 (fun _ => False)) (w_P_touch cy A_p A_p_there A_p_from A_p_to A_p_pin A_p_left A_p_low A_p_right A_p_high A_p_rim p_count p_from p_to p_left p_low p_right p_high p_rim) 30 [] [] := by
  refine cg_iconst (v := 0) C d_P_touch_30 (by decide) ?_
  obtain rfl := Option.some.inj hF
  exact cg_zretR C hr rfl hlk d_P_touch_31
def F_P_touch_64 (p_from : Nat → Int32) (p_to : Nat → Int32) (p_left : Nat → Int64) (p_low : Nat → Int64) (p_right : Nat → Int64) (p_high : Nat → Int64) (p_rim : Nat → Int64) (s0 : Int32) : Option (Int32) := cn_bl s0 (some (s0))
set_option maxRecDepth 100000 in
set_option maxHeartbeats 4000000 in
theorem t_P_touch_64 {p : Program} {l : Launch} {e : Env} {s : State} {m : MethodId} {args : Array Value} {below : List Frame} {meth : Method} {c : Code} {D : va_G} {cy : Nat → ClassId} {out : Int32} (C : cn_X p s m args c b_P_touch 5 "CopperNets$Pieces" D cy) (hr : meth.sig.returnType = some .boolean) (hlk : meth.locks = false) (A_p : Nat) (A_p_there : Nat) (A_p_from : Nat) (A_p_to : Nat) (A_p_pin : Nat) (A_p_left : Nat) (A_p_low : Nat) (A_p_right : Nat) (A_p_high : Nat) (A_p_rim : Nat) (p_count : Int32) (p_from : Nat → Int32) (p_to : Nat → Int32) (p_left : Nat → Int64) (p_low : Nat → Int64) (p_right : Nat → Int64) (p_high : Nat → Int64) (p_rim : Nat → Int64) (s0 : Int32) (hF : F_P_touch_64 p_from p_to p_left p_low p_right p_high p_rim s0 = some out) : cg p l e r_P_touch s m args below meth c D (cn_hi s) (fun _ => True) 5 0 0 (MQ below (cn_QR (some (.int out))) args s 0 0 (fun _ => False)) (w_P_touch cy A_p A_p_there A_p_from A_p_to A_p_pin A_p_left A_p_low A_p_right A_p_high A_p_rim p_count p_from p_to p_left p_low p_right p_high p_rim) 64 [] [.int s0] := by
  obtain ⟨hz, hF⟩ := cn_bl_some hF
  obtain rfl := Option.some.inj hF
  exact cg_zretR C hr hz hlk d_P_touch_64
def F_P_touch_0 (p_from : Nat → Int32) (p_to : Nat → Int32) (p_left : Nat → Int64) (p_low : Nat → Int64) (p_right : Nat → Int64) (p_high : Nat → Int64) (p_rim : Nat → Int64) (v1 : Int32) (v2 : Int32) : Option (Int32) := cn_rd v1 60 (cn_rd v2 60 (if (p_to (Int32.toNatClampNeg v2)) < (p_from (Int32.toNatClampNeg v1)) then (F_P_touch_30 p_from p_to p_left p_low p_right p_high p_rim) else (cn_rd v2 60 (cn_rd v1 60 (if (p_from (Int32.toNatClampNeg v2)) ≤ (p_to (Int32.toNatClampNeg v1)) then (cn_rd v1 60 (cn_rd v2 60 ((F_P_square p_left p_low p_right p_high v1 v2).bind fun t_10 => if 0 < (lg_cmp t_10 (((p_rim (Int32.toNatClampNeg v1)) + (p_rim (Int32.toNatClampNeg v2))) * ((p_rim (Int32.toNatClampNeg v1)) + (p_rim (Int32.toNatClampNeg v2))))) then (F_P_touch_64 p_from p_to p_left p_low p_right p_high p_rim 0) else (F_P_touch_64 p_from p_to p_left p_low p_right p_high p_rim 1)))) else (F_P_touch_30 p_from p_to p_left p_low p_right p_high p_rim))))))
set_option maxRecDepth 100000 in
set_option maxHeartbeats 4000000 in
theorem t_P_touch_0 {p : Program} {l : Launch} {e : Env} {s : State} {m : MethodId} {args : Array Value} {below : List Frame} {meth : Method} {c : Code} {D : va_G} {cy : Nat → ClassId} {out : Int32} (C : cn_X p s m args c b_P_touch 5 "CopperNets$Pieces" D cy) (hr : meth.sig.returnType = some .boolean) (hlk : meth.locks = false) (A_p : Nat) (A_p_there : Nat) (A_p_from : Nat) (A_p_to : Nat) (A_p_pin : Nat) (A_p_left : Nat) (A_p_low : Nat) (A_p_right : Nat) (A_p_high : Nat) (A_p_rim : Nat) (p_count : Int32) (p_from : Nat → Int32) (p_to : Nat → Int32) (p_left : Nat → Int64) (p_low : Nat → Int64) (p_right : Nat → Int64) (p_high : Nat → Int64) (p_rim : Nat → Int64) (v1 : Int32) (v2 : Int32) (hF : F_P_touch_0 p_from p_to p_left p_low p_right p_high p_rim v1 v2 = some out) : cg p l e r_P_touch s m args below meth c D (cn_hi s) (fun _ => True) 5 0 0 (MQ below (cn_QR (some (.int out))) args s 0 0 (fun _ => False)) (w_P_touch cy A_p A_p_there A_p_from A_p_to A_p_pin A_p_left A_p_low A_p_right A_p_high A_p_rim p_count p_from p_to p_left p_low p_right p_high p_rim) 0 [(0, .ref A_p), (1, .int v1), (2, .int v2)] [] := by
  refine cg_aload_n C d_P_touch_0 0 rfl ?_
  refine cg_get C 0 2 d_P_touch_1 rfl rfl hin_P (by decide) rfl tw_32 rfl ?_
  refine cg_iload_n C d_P_touch_4 1 rfl ?_
  obtain ⟨i_1, hF⟩ := cn_rd_some hF
  refine cg_iald C 1 d_P_touch_5 rfl i_1 ?_
  refine cg_aload_n C d_P_touch_6 0 rfl ?_
  refine cg_get C 0 3 d_P_touch_7 rfl rfl hin_P (by decide) rfl tw_33 rfl ?_
  refine cg_iload_n C d_P_touch_10 2 rfl ?_
  obtain ⟨i_2, hF⟩ := cn_rd_some hF
  refine cg_iald C 2 d_P_touch_11 rfl i_2 ?_
  refine cg_icmp_gt C 30 d_P_touch_12 (by decide) (fun q_3 => ?_) (fun q_3 => ?_)
  · have hF := cn_pos q_3 hF
    refine cg_sub (lv' := []) [] rfl ?_
    exact t_P_touch_30 C hr hlk A_p A_p_there A_p_from A_p_to A_p_pin A_p_left A_p_low A_p_right A_p_high A_p_rim p_count p_from p_to p_left p_low p_right p_high p_rim hF
  · have hF := cn_neg q_3 hF
    refine cg_aload_n C d_P_touch_15 0 rfl ?_
    refine cg_get C 0 2 d_P_touch_16 rfl rfl hin_P (by decide) rfl tw_32 rfl ?_
    refine cg_iload_n C d_P_touch_19 2 rfl ?_
    obtain ⟨i_4, hF⟩ := cn_rd_some hF
    refine cg_iald C 1 d_P_touch_20 rfl i_4 ?_
    refine cg_aload_n C d_P_touch_21 0 rfl ?_
    refine cg_get C 0 3 d_P_touch_22 rfl rfl hin_P (by decide) rfl tw_33 rfl ?_
    refine cg_iload_n C d_P_touch_25 1 rfl ?_
    obtain ⟨i_5, hF⟩ := cn_rd_some hF
    refine cg_iald C 2 d_P_touch_26 rfl i_5 ?_
    refine cg_icmp_le C 32 d_P_touch_27 (by decide) (fun q_6 => ?_) (fun q_6 => ?_)
    · have hF := cn_pos q_6 hF
      refine cg_aload_n C d_P_touch_32 0 rfl ?_
      refine cg_get C 0 9 d_P_touch_33 rfl rfl hin_P (by decide) rfl tw_39 rfl ?_
      refine cg_iload_n C d_P_touch_36 1 rfl ?_
      obtain ⟨i_7, hF⟩ := cn_rd_some hF
      refine cg_lald C 7 d_P_touch_37 rfl i_7 ?_
      refine cg_aload_n C d_P_touch_38 0 rfl ?_
      refine cg_get C 0 9 d_P_touch_39 rfl rfl hin_P (by decide) rfl tw_39 rfl ?_
      refine cg_iload_n C d_P_touch_42 2 rfl ?_
      obtain ⟨i_8, hF⟩ := cn_rd_some hF
      refine cg_lald C 7 d_P_touch_43 rfl i_8 ?_
      refine cg_ladd C d_P_touch_44 ?_
      refine cg_lstore_n (lv' := [(3, .long ((p_rim (Int32.toNatClampNeg v1)) + (p_rim (Int32.toNatClampNeg v2)))), (0, .ref A_p), (1, .int v1), (2, .int v2)]) C d_P_touch_45 (by decide) rfl ?_
      refine cg_aload_n C d_P_touch_46 1 rfl ?_
      refine cg_iload_n C d_P_touch_47 2 rfl ?_
      refine cg_iload_n C d_P_touch_48 3 rfl ?_
      obtain ⟨t_10, h_9, hF⟩ := cn_bind hF
      refine cg_callRV C (c_P_square A_p A_p_there A_p_from A_p_to A_p_pin A_p_left A_p_low A_p_right A_p_high A_p_rim p_count p_left p_low p_right p_high v1 v2 h_9) [0, 3, 4, 5, 6] rfl (by decide) 0 rfl rfl d_P_touch_49 tw_210 tw_212 ts_13 tw_2 tw_213 hs_P_square ⟨by decide, by decide⟩ rfl rfl ⟨by decide, by decide⟩ (Nat.le_of_ble_eq_true rfl) rfl rfl ?_
      refine cg_lload_n C d_P_touch_52 0 rfl ?_
      refine cg_lload_n C d_P_touch_53 0 rfl ?_
      refine cg_lmul C d_P_touch_54 ?_
      refine cg_lcmp C d_P_touch_55 ?_
      refine cg_if_gt C 63 d_P_touch_56 (by decide) (fun q_11 => ?_) (fun q_11 => ?_)
      · have hF := cn_pos q_11 hF
        refine cg_iconst (v := 0) C d_P_touch_63 (by decide) ?_
        refine cg_sub (lv' := []) [] rfl ?_
        exact t_P_touch_64 C hr hlk A_p A_p_there A_p_from A_p_to A_p_pin A_p_left A_p_low A_p_right A_p_high A_p_rim p_count p_from p_to p_left p_low p_right p_high p_rim 0 hF
      · have hF := cn_neg q_11 hF
        refine cg_iconst (v := 1) C d_P_touch_59 (by decide) ?_
        refine cg_goto C 64 d_P_touch_60 (by decide) ?_
        refine cg_sub (lv' := []) [] rfl ?_
        exact t_P_touch_64 C hr hlk A_p A_p_there A_p_from A_p_to A_p_pin A_p_left A_p_low A_p_right A_p_high A_p_rim p_count p_from p_to p_left p_low p_right p_high p_rim 1 hF
    · have hF := cn_neg q_6 hF
      refine cg_sub (lv' := []) [] rfl ?_
      exact t_P_touch_30 C hr hlk A_p A_p_there A_p_from A_p_to A_p_pin A_p_left A_p_low A_p_right A_p_high A_p_rim p_count p_from p_to p_left p_low p_right p_high p_rim hF
abbrev F_P_touch (p_from : Nat → Int32) (p_to : Nat → Int32) (p_left : Nat → Int64) (p_low : Nat → Int64) (p_right : Nat → Int64) (p_high : Nat → Int64) (p_rim : Nat → Int64) (v1 : Int32) (v2 : Int32) : Option (Int32) := F_P_touch_0 p_from p_to p_left p_low p_right p_high p_rim v1 v2
theorem c_P_touch {l : Launch} {D : va_G} {cy : Nat → ClassId} (A_p : Nat) (A_p_there : Nat) (A_p_from : Nat) (A_p_to : Nat) (A_p_pin : Nat) (A_p_left : Nat) (A_p_low : Nat) (A_p_right : Nat) (A_p_high : Nat) (A_p_rim : Nat) (p_count : Int32) (p_from : Nat → Int32) (p_to : Nat → Int32) (p_left : Nat → Int64) (p_low : Nat → Int64) (p_right : Nat → Int64) (p_high : Nat → Int64) (p_rim : Nat → Int64) (v1 : Int32) (v2 : Int32) {out : Int32} (hF : F_P_touch p_from p_to p_left p_low p_right p_high p_rim v1 v2 = some out) : cn_MR l y_P_touch b_P_touch 5 (some .boolean) r_P_touch D cy [.ref A_p, .int v1, .int v2] (w_P_touch cy A_p A_p_there A_p_from A_p_to A_p_pin A_p_left A_p_low A_p_right A_p_high A_p_rim p_count p_from p_to p_left p_low p_right p_high p_rim) (some (.int out)) :=
  cn_MR.of (by decide) (Nat.le_of_ble_eq_true rfl) (fun p e s m below meth c C hr hlk => t_P_touch_0 C hr hlk A_p A_p_there A_p_from A_p_to A_p_pin A_p_left A_p_low A_p_right A_p_high A_p_rim p_count p_from p_to p_left p_low p_right p_high p_rim v1 v2 hF)
/-! CopperNets$Groups.has(I)Z -/
abbrev r_G_has : Room := { frames := 0, cells := 0, slots := 0, locals := 0 }
abbrev w_G_has (cy : Nat → ClassId) (A_g : Nat) (A_g_leader : Nat) (g_leader : Nat → Int32) : va_W := [(A_g, .inr (2, [.ref A_g_leader])), (A_g_leader, .inl (cy 0, 60, .inl g_leader))]
theorem hs_G_has : y_G_has.cls ≠ "java/lang/invoke/MethodHandle" ∧ y_G_has.cls ≠ "java/lang/invoke/VarHandle" ∧ (parseMethodDescriptor y_G_has.desc).map (fun d => d.parameters.length) = some 1 := by decide +kernel
def F_G_has_15 (g_leader : Nat → Int32) (s0 : Int32) : Option (Int32) := cn_bl s0 (some (s0))
set_option maxRecDepth 100000 in
set_option maxHeartbeats 4000000 in
theorem t_G_has_15 {p : Program} {l : Launch} {e : Env} {s : State} {m : MethodId} {args : Array Value} {below : List Frame} {meth : Method} {c : Code} {D : va_G} {cy : Nat → ClassId} {out : Int32} (C : cn_X p s m args c b_G_has 2 "CopperNets$Groups" D cy) (hr : meth.sig.returnType = some .boolean) (hlk : meth.locks = false) (A_g : Nat) (A_g_leader : Nat) (g_leader : Nat → Int32) (s0 : Int32) (hF : F_G_has_15 g_leader s0 = some out) : cg p l e r_G_has s m args below meth c D (cn_hi s) (fun _ => True) 2 0 0 (MQ below (cn_QR (some (.int out))) args s 0 0 (fun _ => False)) (w_G_has cy A_g A_g_leader g_leader) 15 [] [.int s0] := by
  obtain ⟨hz, hF⟩ := cn_bl_some hF
  obtain rfl := Option.some.inj hF
  exact cg_zretR C hr hz hlk d_G_has_15
def F_G_has_0 (g_leader : Nat → Int32) (v1 : Int32) : Option (Int32) := cn_rd v1 60 (if (g_leader (Int32.toNatClampNeg v1)) = (-1) then (F_G_has_15 g_leader 0) else (F_G_has_15 g_leader 1))
set_option maxRecDepth 100000 in
set_option maxHeartbeats 4000000 in
theorem t_G_has_0 {p : Program} {l : Launch} {e : Env} {s : State} {m : MethodId} {args : Array Value} {below : List Frame} {meth : Method} {c : Code} {D : va_G} {cy : Nat → ClassId} {out : Int32} (C : cn_X p s m args c b_G_has 2 "CopperNets$Groups" D cy) (hr : meth.sig.returnType = some .boolean) (hlk : meth.locks = false) (A_g : Nat) (A_g_leader : Nat) (g_leader : Nat → Int32) (v1 : Int32) (hF : F_G_has_0 g_leader v1 = some out) : cg p l e r_G_has s m args below meth c D (cn_hi s) (fun _ => True) 2 0 0 (MQ below (cn_QR (some (.int out))) args s 0 0 (fun _ => False)) (w_G_has cy A_g A_g_leader g_leader) 0 [(0, .ref A_g), (1, .int v1)] [] := by
  refine cg_aload_n C d_G_has_0 0 rfl ?_
  refine cg_get C 0 0 d_G_has_1 rfl rfl hin_G (by decide) rfl tw_77 rfl ?_
  refine cg_iload_n C d_G_has_4 1 rfl ?_
  obtain ⟨i_1, hF⟩ := cn_rd_some hF
  refine cg_iald C 1 d_G_has_5 rfl i_1 ?_
  refine cg_iconst (v := (-1)) C d_G_has_6 (by decide) ?_
  refine cg_icmp_eq C 14 d_G_has_7 (by decide) (fun q_2 => ?_) (fun q_2 => ?_)
  · have hF := cn_pos q_2 hF
    refine cg_iconst (v := 0) C d_G_has_14 (by decide) ?_
    refine cg_sub (lv' := []) [] rfl ?_
    exact t_G_has_15 C hr hlk A_g A_g_leader g_leader 0 hF
  · have hF := cn_neg q_2 hF
    refine cg_iconst (v := 1) C d_G_has_10 (by decide) ?_
    refine cg_goto C 15 d_G_has_11 (by decide) ?_
    refine cg_sub (lv' := []) [] rfl ?_
    exact t_G_has_15 C hr hlk A_g A_g_leader g_leader 1 hF
abbrev F_G_has (g_leader : Nat → Int32) (v1 : Int32) : Option (Int32) := F_G_has_0 g_leader v1
theorem c_G_has {l : Launch} {D : va_G} {cy : Nat → ClassId} (A_g : Nat) (A_g_leader : Nat) (g_leader : Nat → Int32) (v1 : Int32) {out : Int32} (hF : F_G_has g_leader v1 = some out) : cn_MR l y_G_has b_G_has 2 (some .boolean) r_G_has D cy [.ref A_g, .int v1] (w_G_has cy A_g A_g_leader g_leader) (some (.int out)) :=
  cn_MR.of (by decide) (Nat.le_of_ble_eq_true rfl) (fun p e s m below meth c C hr hlk => t_G_has_0 C hr hlk A_g A_g_leader g_leader v1 hF)
/-! CopperNets$Groups.leaderOf(I)I -/
abbrev r_G_leaderOf : Room := { frames := 0, cells := 0, slots := 0, locals := 0 }
abbrev w_G_leaderOf (cy : Nat → ClassId) (A_g : Nat) (A_g_leader : Nat) (g_leader : Nat → Int32) : va_W := [(A_g, .inr (2, [.ref A_g_leader])), (A_g_leader, .inl (cy 0, 60, .inl g_leader))]
theorem hs_G_leaderOf : y_G_leaderOf.cls ≠ "java/lang/invoke/MethodHandle" ∧ y_G_leaderOf.cls ≠ "java/lang/invoke/VarHandle" ∧ (parseMethodDescriptor y_G_leaderOf.desc).map (fun d => d.parameters.length) = some 1 := by decide +kernel
def F_G_leaderOf_0 (g_leader : Nat → Int32) (v1 : Int32) : Option (Int32) := cn_rd v1 60 (some ((g_leader (Int32.toNatClampNeg v1))))
set_option maxRecDepth 100000 in
set_option maxHeartbeats 4000000 in
theorem t_G_leaderOf_0 {p : Program} {l : Launch} {e : Env} {s : State} {m : MethodId} {args : Array Value} {below : List Frame} {meth : Method} {c : Code} {D : va_G} {cy : Nat → ClassId} {out : Int32} (C : cn_X p s m args c b_G_leaderOf 2 "CopperNets$Groups" D cy) (hr : meth.sig.returnType = some .int) (hlk : meth.locks = false) (A_g : Nat) (A_g_leader : Nat) (g_leader : Nat → Int32) (v1 : Int32) (hF : F_G_leaderOf_0 g_leader v1 = some out) : cg p l e r_G_leaderOf s m args below meth c D (cn_hi s) (fun _ => True) 2 0 0 (MQ below (cn_QR (some (.int out))) args s 0 0 (fun _ => False)) (w_G_leaderOf cy A_g A_g_leader g_leader) 0 [(0, .ref A_g), (1, .int v1)] [] := by
  refine cg_aload_n C d_G_leaderOf_0 0 rfl ?_
  refine cg_get C 0 0 d_G_leaderOf_1 rfl rfl hin_G (by decide) rfl tw_77 rfl ?_
  refine cg_iload_n C d_G_leaderOf_4 1 rfl ?_
  obtain ⟨i_1, hF⟩ := cn_rd_some hF
  refine cg_iald C 1 d_G_leaderOf_5 rfl i_1 ?_
  obtain rfl := Option.some.inj hF
  exact cg_iretR C hr hlk d_G_leaderOf_6
abbrev F_G_leaderOf (g_leader : Nat → Int32) (v1 : Int32) : Option (Int32) := F_G_leaderOf_0 g_leader v1
theorem c_G_leaderOf {l : Launch} {D : va_G} {cy : Nat → ClassId} (A_g : Nat) (A_g_leader : Nat) (g_leader : Nat → Int32) (v1 : Int32) {out : Int32} (hF : F_G_leaderOf g_leader v1 = some out) : cn_MR l y_G_leaderOf b_G_leaderOf 2 (some .int) r_G_leaderOf D cy [.ref A_g, .int v1] (w_G_leaderOf cy A_g A_g_leader g_leader) (some (.int out)) :=
  cn_MR.of (by decide) (Nat.le_of_ble_eq_true rfl) (fun p e s m below meth c C hr hlk => t_G_leaderOf_0 C hr hlk A_g A_g_leader g_leader v1 hF)
/-! CopperNets$Groups.begin(I)V -/
abbrev r_G_begin : Room := { frames := 0, cells := 0, slots := 0, locals := 0 }
abbrev w_G_begin (cy : Nat → ClassId) (A_g : Nat) (A_g_leader : Nat) (g_leader : Nat → Int32) : va_W := [(A_g, .inr (2, [.ref A_g_leader])), (A_g_leader, .inl (cy 0, 60, .inl g_leader))]
theorem hs_G_begin : y_G_begin.cls ≠ "java/lang/invoke/MethodHandle" ∧ y_G_begin.cls ≠ "java/lang/invoke/VarHandle" ∧ (parseMethodDescriptor y_G_begin.desc).map (fun d => d.parameters.length) = some 1 := by decide +kernel
def F_G_begin_0 (g_leader : Nat → Int32) (v1 : Int32) : Option ((Nat → Int32)) := cn_rd v1 60 (some ((upd g_leader (Int32.toNatClampNeg v1) v1)))
set_option maxRecDepth 100000 in
set_option maxHeartbeats 4000000 in
theorem t_G_begin_0 {p : Program} {l : Launch} {e : Env} {s : State} {m : MethodId} {args : Array Value} {below : List Frame} {meth : Method} {c : Code} {D : va_G} {cy : Nat → ClassId} {A : Nat → Prop} {out : (Nat → Int32)} (C : cn_X p s m args c b_G_begin 2 "CopperNets$Groups" D cy) (hr : meth.sig.returnType = none) (hlk : meth.locks = false) (hA : ∀ q, s.heap.size ≤ q → A q) (A_g : Nat) (A_g_leader : Nat) (g_leader : Nat → Int32) (v1 : Int32) (hF : F_G_begin_0 g_leader v1 = some out) : cg p l e r_G_begin s m args below meth c D (va_S A s.heap) A 2 0 0 (MQ below (cn_QW none D (w_G_begin cy A_g A_g_leader out) A) args s 0 0 A) (w_G_begin cy A_g A_g_leader g_leader) 0 [(0, .ref A_g), (1, .int v1)] [] := by
  refine cg_aload_n C d_G_begin_0 0 rfl ?_
  refine cg_get C 0 0 d_G_begin_1 rfl rfl hin_G (by decide) rfl tw_77 rfl ?_
  refine cg_iload_n C d_G_begin_4 1 rfl ?_
  refine cg_iload_n C d_G_begin_5 1 rfl ?_
  obtain ⟨i_1, hF⟩ := cn_rd_some hF
  refine cg_iast (ws' := w_G_begin cy A_g A_g_leader (upd g_leader (Int32.toNatClampNeg v1) v1)) C 1 d_G_begin_6 rfl i_1 rfl ?_
  obtain rfl := Option.some.inj hF
  exact cg_vretW C hr hlk d_G_begin_7
abbrev F_G_begin (g_leader : Nat → Int32) (v1 : Int32) : Option ((Nat → Int32)) := F_G_begin_0 g_leader v1
theorem c_G_begin {l : Launch} {D : va_G} {cy : Nat → ClassId} (A_g : Nat) (A_g_leader : Nat) (g_leader : Nat → Int32) (v1 : Int32) {out : (Nat → Int32)} (hF : F_G_begin g_leader v1 = some out) : cn_MW l y_G_begin b_G_begin 2 (none) r_G_begin D cy [.ref A_g, .int v1] (w_G_begin cy A_g A_g_leader g_leader) none (w_G_begin cy A_g A_g_leader out) 0 0 :=
  cn_MW.of (by decide) (Nat.le_of_ble_eq_true rfl) (fun p e s m below meth c A C hr hlk hA => t_G_begin_0 C hr hlk hA A_g A_g_leader g_leader v1 hF)
/-! java/lang/Math.min(II)I -/
abbrev r_jM_min_I : Room := { frames := 0, cells := 0, slots := 0, locals := 0 }
abbrev w_jM_min_I (cy : Nat → ClassId) : va_W := []
theorem hs_jM_min_I : y_jM_min_I.cls ≠ "java/lang/invoke/MethodHandle" ∧ y_jM_min_I.cls ≠ "java/lang/invoke/VarHandle" ∧ (parseMethodDescriptor y_jM_min_I.desc).map (fun d => d.parameters.length) = some 2 := by decide +kernel
def F_jM_min_I_10 (s0 : Int32) : Option (Int32) := some (s0)
set_option maxRecDepth 100000 in
set_option maxHeartbeats 4000000 in
theorem t_jM_min_I_10 {p : Program} {l : Launch} {e : Env} {s : State} {m : MethodId} {args : Array Value} {below : List Frame} {meth : Method} {c : Code} {D : va_G} {cy : Nat → ClassId} {out : Int32} (C : cn_X p s m args c b_jM_min_I 2 "java/lang/Math" D cy) (hr : meth.sig.returnType = some .int) (hlk : meth.locks = false) (s0 : Int32) (hF : F_jM_min_I_10 s0 = some out) : cg p l e r_jM_min_I s m args below meth c D (cn_hi s) (fun _ => True) 2 0 0 (MQ below (cn_QR (some (.int out))) args s 0 0 (fun _ => False)) (w_jM_min_I cy) 10 [] [.int s0] := by
  obtain rfl := Option.some.inj hF
  exact cg_iretR C hr hlk d_jM_min_I_10
def F_jM_min_I_0 (v0 : Int32) (v1 : Int32) : Option (Int32) := if v1 < v0 then (F_jM_min_I_10 v1) else (F_jM_min_I_10 v0)
set_option maxRecDepth 100000 in
set_option maxHeartbeats 4000000 in
theorem t_jM_min_I_0 {p : Program} {l : Launch} {e : Env} {s : State} {m : MethodId} {args : Array Value} {below : List Frame} {meth : Method} {c : Code} {D : va_G} {cy : Nat → ClassId} {out : Int32} (C : cn_X p s m args c b_jM_min_I 2 "java/lang/Math" D cy) (hr : meth.sig.returnType = some .int) (hlk : meth.locks = false) (v0 : Int32) (v1 : Int32) (hF : F_jM_min_I_0 v0 v1 = some out) : cg p l e r_jM_min_I s m args below meth c D (cn_hi s) (fun _ => True) 2 0 0 (MQ below (cn_QR (some (.int out))) args s 0 0 (fun _ => False)) (w_jM_min_I cy) 0 [(0, .int v0), (1, .int v1)] [] := by
  refine cg_iload_n C d_jM_min_I_0 0 rfl ?_
  refine cg_iload_n C d_jM_min_I_1 1 rfl ?_
  refine cg_icmp_gt C 9 d_jM_min_I_2 (by decide) (fun q_1 => ?_) (fun q_1 => ?_)
  · have hF := cn_pos q_1 hF
    refine cg_iload_n C d_jM_min_I_9 1 rfl ?_
    refine cg_sub (lv' := []) [] rfl ?_
    exact t_jM_min_I_10 C hr hlk v1 hF
  · have hF := cn_neg q_1 hF
    refine cg_iload_n C d_jM_min_I_5 0 rfl ?_
    refine cg_goto C 10 d_jM_min_I_6 (by decide) ?_
    refine cg_sub (lv' := []) [] rfl ?_
    exact t_jM_min_I_10 C hr hlk v0 hF
abbrev F_jM_min_I (v0 : Int32) (v1 : Int32) : Option (Int32) := F_jM_min_I_0 v0 v1
theorem c_jM_min_I {l : Launch} {D : va_G} {cy : Nat → ClassId} (v0 : Int32) (v1 : Int32) {out : Int32} (hF : F_jM_min_I v0 v1 = some out) : cn_MR l y_jM_min_I b_jM_min_I 2 (some .int) r_jM_min_I D cy [.int v0, .int v1] (w_jM_min_I cy) (some (.int out)) :=
  cn_MR.of (by decide) (Nat.le_of_ble_eq_true rfl) (fun p e s m below meth c C hr hlk => t_jM_min_I_0 C hr hlk v0 v1 hF)
/-! java/lang/Math.max(II)I -/
abbrev r_jM_max_I : Room := { frames := 0, cells := 0, slots := 0, locals := 0 }
abbrev w_jM_max_I (cy : Nat → ClassId) : va_W := []
theorem hs_jM_max_I : y_jM_max_I.cls ≠ "java/lang/invoke/MethodHandle" ∧ y_jM_max_I.cls ≠ "java/lang/invoke/VarHandle" ∧ (parseMethodDescriptor y_jM_max_I.desc).map (fun d => d.parameters.length) = some 2 := by decide +kernel
def F_jM_max_I_10 (s0 : Int32) : Option (Int32) := some (s0)
set_option maxRecDepth 100000 in
set_option maxHeartbeats 4000000 in
theorem t_jM_max_I_10 {p : Program} {l : Launch} {e : Env} {s : State} {m : MethodId} {args : Array Value} {below : List Frame} {meth : Method} {c : Code} {D : va_G} {cy : Nat → ClassId} {out : Int32} (C : cn_X p s m args c b_jM_max_I 2 "java/lang/Math" D cy) (hr : meth.sig.returnType = some .int) (hlk : meth.locks = false) (s0 : Int32) (hF : F_jM_max_I_10 s0 = some out) : cg p l e r_jM_max_I s m args below meth c D (cn_hi s) (fun _ => True) 2 0 0 (MQ below (cn_QR (some (.int out))) args s 0 0 (fun _ => False)) (w_jM_max_I cy) 10 [] [.int s0] := by
  obtain rfl := Option.some.inj hF
  exact cg_iretR C hr hlk d_jM_max_I_10
def F_jM_max_I_0 (v0 : Int32) (v1 : Int32) : Option (Int32) := if v0 < v1 then (F_jM_max_I_10 v1) else (F_jM_max_I_10 v0)
set_option maxRecDepth 100000 in
set_option maxHeartbeats 4000000 in
theorem t_jM_max_I_0 {p : Program} {l : Launch} {e : Env} {s : State} {m : MethodId} {args : Array Value} {below : List Frame} {meth : Method} {c : Code} {D : va_G} {cy : Nat → ClassId} {out : Int32} (C : cn_X p s m args c b_jM_max_I 2 "java/lang/Math" D cy) (hr : meth.sig.returnType = some .int) (hlk : meth.locks = false) (v0 : Int32) (v1 : Int32) (hF : F_jM_max_I_0 v0 v1 = some out) : cg p l e r_jM_max_I s m args below meth c D (cn_hi s) (fun _ => True) 2 0 0 (MQ below (cn_QR (some (.int out))) args s 0 0 (fun _ => False)) (w_jM_max_I cy) 0 [(0, .int v0), (1, .int v1)] [] := by
  refine cg_iload_n C d_jM_max_I_0 0 rfl ?_
  refine cg_iload_n C d_jM_max_I_1 1 rfl ?_
  refine cg_icmp_lt C 9 d_jM_max_I_2 (by decide) (fun q_1 => ?_) (fun q_1 => ?_)
  · have hF := cn_pos q_1 hF
    refine cg_iload_n C d_jM_max_I_9 1 rfl ?_
    refine cg_sub (lv' := []) [] rfl ?_
    exact t_jM_max_I_10 C hr hlk v1 hF
  · have hF := cn_neg q_1 hF
    refine cg_iload_n C d_jM_max_I_5 0 rfl ?_
    refine cg_goto C 10 d_jM_max_I_6 (by decide) ?_
    refine cg_sub (lv' := []) [] rfl ?_
    exact t_jM_max_I_10 C hr hlk v0 hF
abbrev F_jM_max_I (v0 : Int32) (v1 : Int32) : Option (Int32) := F_jM_max_I_0 v0 v1
theorem c_jM_max_I {l : Launch} {D : va_G} {cy : Nat → ClassId} (v0 : Int32) (v1 : Int32) {out : Int32} (hF : F_jM_max_I v0 v1 = some out) : cn_MR l y_jM_max_I b_jM_max_I 2 (some .int) r_jM_max_I D cy [.int v0, .int v1] (w_jM_max_I cy) (some (.int out)) :=
  cn_MR.of (by decide) (Nat.le_of_ble_eq_true rfl) (fun p e s m below meth c C hr hlk => t_jM_max_I_0 C hr hlk v0 v1 hF)
/-! CopperNets$Groups.join(II)V -/
abbrev r_G_join : Room := { frames := 1, cells := 0, slots := 0, locals := 21 }
abbrev w_G_join (cy : Nat → ClassId) (A_g : Nat) (A_g_leader : Nat) (g_leader : Nat → Int32) : va_W := [(A_g, .inr (2, [.ref A_g_leader])), (A_g_leader, .inl (cy 0, 60, .inl g_leader))]
theorem hs_G_join : y_G_join.cls ≠ "java/lang/invoke/MethodHandle" ∧ y_G_join.cls ≠ "java/lang/invoke/VarHandle" ∧ (parseMethodDescriptor y_G_join.desc).map (fun d => d.parameters.length) = some 2 := by decide +kernel
def F_G_join_71 (k_44 : (Nat → Int32) → Int32 → Int32 → Int32 → Option ((Nat → Int32))) (g_leader : Nat → Int32) (v3 : Int32) (v4 : Int32) (v5 : Int32) : Option ((Nat → Int32)) := k_44 g_leader v3 v4 (v5 + 1)
set_option maxRecDepth 100000 in
set_option maxHeartbeats 4000000 in
theorem t_G_join_71 {p : Program} {l : Launch} {e : Env} {s : State} {m : MethodId} {args : Array Value} {below : List Frame} {meth : Method} {c : Code} {D : va_G} {cy : Nat → ClassId} {A : Nat → Prop} {out : (Nat → Int32)} (C : cn_X p s m args c b_G_join 6 "CopperNets$Groups" D cy) (hr : meth.sig.returnType = none) (hlk : meth.locks = false) (hA : ∀ q, s.heap.size ≤ q → A q) (A_g : Nat) (A_g_leader : Nat) (k_44 : (Nat → Int32) → Int32 → Int32 → Int32 → Option ((Nat → Int32))) (hk_44 : ∀ (g_leader : Nat → Int32) (v3 : Int32) (v4 : Int32) (v5 : Int32), k_44 g_leader v3 v4 v5 = some out → cg p l e r_G_join s m args below meth c D (va_S A s.heap) A 6 0 0 (MQ below (cn_QW none D (w_G_join cy A_g A_g_leader out) A) args s 0 0 A) (w_G_join cy A_g A_g_leader g_leader) 44 [(0, .ref A_g), (3, .int v3), (4, .int v4), (5, .int v5)] []) (g_leader : Nat → Int32) (v3 : Int32) (v4 : Int32) (v5 : Int32) (hF : F_G_join_71 k_44 g_leader v3 v4 v5 = some out) : cg p l e r_G_join s m args below meth c D (va_S A s.heap) A 6 0 0 (MQ below (cn_QW none D (w_G_join cy A_g A_g_leader out) A) args s 0 0 A) (w_G_join cy A_g A_g_leader g_leader) 71 [(0, .ref A_g), (3, .int v3), (4, .int v4), (5, .int v5)] [] := by
  refine cg_iinc (v := v5 + 1) (lv' := [(5, .int (v5 + 1)), (0, .ref A_g), (3, .int v3), (4, .int v4)]) C d_G_join_71 3 rfl (by decide) rfl rfl ?_
  refine cg_goto C 44 d_G_join_74 (by decide) ?_
  refine cg_sub (lv' := [(0, .ref A_g), (3, .int v3), (4, .int v4), (5, .int (v5 + 1))]) [1, 2, 3, 0] rfl ?_
  exact hk_44 g_leader v3 v4 (v5 + 1) hF
def F_G_join_44 : Nat → (Nat → Int32) → Int32 → Int32 → Int32 → Option ((Nat → Int32))
  | 0, _, _, _, _ => none
  | n + 1, g_leader, v3, v4, v5 => if 60 ≤ v5 then (some (g_leader)) else (cn_rd v5 60 (if (g_leader (Int32.toNatClampNeg v5)) = v4 then (cn_rd v5 60 (F_G_join_71 (F_G_join_44 n) (upd g_leader (Int32.toNatClampNeg v5) v3) v3 v4 v5)) else (F_G_join_71 (F_G_join_44 n) g_leader v3 v4 v5)))
set_option maxRecDepth 100000 in
set_option maxHeartbeats 4000000 in
theorem t_G_join_44 {p : Program} {l : Launch} {e : Env} {s : State} {m : MethodId} {args : Array Value} {below : List Frame} {meth : Method} {c : Code} {D : va_G} {cy : Nat → ClassId} {A : Nat → Prop} {out : (Nat → Int32)} (C : cn_X p s m args c b_G_join 6 "CopperNets$Groups" D cy) (hr : meth.sig.returnType = none) (hlk : meth.locks = false) (hA : ∀ q, s.heap.size ≤ q → A q) (A_g : Nat) (A_g_leader : Nat) : ∀ (n : Nat) (g_leader : Nat → Int32) (v3 : Int32) (v4 : Int32) (v5 : Int32), F_G_join_44 n g_leader v3 v4 v5 = some out → cg p l e r_G_join s m args below meth c D (va_S A s.heap) A 6 0 0 (MQ below (cn_QW none D (w_G_join cy A_g A_g_leader out) A) args s 0 0 A) (w_G_join cy A_g A_g_leader g_leader) 44 [(0, .ref A_g), (3, .int v3), (4, .int v4), (5, .int v5)] [] := by
  intro n
  induction n with
  | zero => intro g_leader v3 v4 v5 hF; exact nomatch (show (none : Option ((Nat → Int32))) = some out from hF)
  | succ n ih =>
    intro g_leader v3 v4 v5 hF
    refine cg_iload C d_G_join_44 3 rfl ?_
    refine cg_bipush (v := 60) C d_G_join_46 (by decide) ?_
    refine cg_icmp_ge C 77 d_G_join_48 (by decide) (fun q_1 => ?_) (fun q_1 => ?_)
    · have hF := cn_pos q_1 hF
      obtain rfl := Option.some.inj hF
      exact cg_vretW C hr hlk d_G_join_77
    · have hF := cn_neg q_1 hF
      refine cg_aload_n C d_G_join_51 0 rfl ?_
      refine cg_get C 0 0 d_G_join_52 rfl rfl hin_G (by decide) rfl tw_77 rfl ?_
      refine cg_iload C d_G_join_55 3 rfl ?_
      obtain ⟨i_2, hF⟩ := cn_rd_some hF
      refine cg_iald C 1 d_G_join_57 rfl i_2 ?_
      refine cg_iload C d_G_join_58 2 rfl ?_
      refine cg_icmp_ne C 71 d_G_join_60 (by decide) (fun q_3 => ?_) (fun q_3 => ?_)
      · have hF := cn_neg q_3 hF
        exact t_G_join_71 C hr hlk hA A_g A_g_leader (F_G_join_44 n) ih g_leader v3 v4 v5 hF
      · have hF := cn_pos q_3 hF
        refine cg_aload_n C d_G_join_63 0 rfl ?_
        refine cg_get C 0 0 d_G_join_64 rfl rfl hin_G (by decide) rfl tw_77 rfl ?_
        refine cg_iload C d_G_join_67 3 rfl ?_
        refine cg_iload_n C d_G_join_69 1 rfl ?_
        obtain ⟨i_4, hF⟩ := cn_rd_some hF
        refine cg_iast (ws' := w_G_join cy A_g A_g_leader (upd g_leader (Int32.toNatClampNeg v5) v3)) C 1 d_G_join_70 rfl i_4 rfl ?_
        exact t_G_join_71 C hr hlk hA A_g A_g_leader (F_G_join_44 n) ih (upd g_leader (Int32.toNatClampNeg v5) v3) v3 v4 v5 hF
def F_G_join_0 (g_leader : Nat → Int32) (v1 : Int32) (v2 : Int32) : Option ((Nat → Int32)) := cn_rd v1 60 (cn_rd v2 60 ((F_jM_min_I (g_leader (Int32.toNatClampNeg v1)) (g_leader (Int32.toNatClampNeg v2))).bind fun t_8 => cn_rd v1 60 (cn_rd v2 60 ((F_jM_max_I (g_leader (Int32.toNatClampNeg v1)) (g_leader (Int32.toNatClampNeg v2))).bind fun t_12 => if t_8 = t_12 then (some (g_leader)) else (F_G_join_44 4096 g_leader t_8 t_12 t_12)))))
set_option maxRecDepth 100000 in
set_option maxHeartbeats 4000000 in
theorem t_G_join_0 {p : Program} {l : Launch} {e : Env} {s : State} {m : MethodId} {args : Array Value} {below : List Frame} {meth : Method} {c : Code} {D : va_G} {cy : Nat → ClassId} {A : Nat → Prop} {out : (Nat → Int32)} (C : cn_X p s m args c b_G_join 6 "CopperNets$Groups" D cy) (hr : meth.sig.returnType = none) (hlk : meth.locks = false) (hA : ∀ q, s.heap.size ≤ q → A q) (A_g : Nat) (A_g_leader : Nat) (g_leader : Nat → Int32) (v1 : Int32) (v2 : Int32) (hF : F_G_join_0 g_leader v1 v2 = some out) : cg p l e r_G_join s m args below meth c D (va_S A s.heap) A 6 0 0 (MQ below (cn_QW none D (w_G_join cy A_g A_g_leader out) A) args s 0 0 A) (w_G_join cy A_g A_g_leader g_leader) 0 [(0, .ref A_g), (1, .int v1), (2, .int v2)] [] := by
  refine cg_aload_n C d_G_join_0 0 rfl ?_
  refine cg_get C 0 0 d_G_join_1 rfl rfl hin_G (by decide) rfl tw_77 rfl ?_
  refine cg_iload_n C d_G_join_4 1 rfl ?_
  obtain ⟨i_5, hF⟩ := cn_rd_some hF
  refine cg_iald C 1 d_G_join_5 rfl i_5 ?_
  refine cg_aload_n C d_G_join_6 0 rfl ?_
  refine cg_get C 0 0 d_G_join_7 rfl rfl hin_G (by decide) rfl tw_77 rfl ?_
  refine cg_iload_n C d_G_join_10 2 rfl ?_
  obtain ⟨i_6, hF⟩ := cn_rd_some hF
  refine cg_iald C 1 d_G_join_11 rfl i_6 ?_
  obtain ⟨t_8, h_7, hF⟩ := cn_bind hF
  refine cg_callRS C (c_jM_min_I (g_leader (Int32.toNatClampNeg v1)) (g_leader (Int32.toNatClampNeg v2)) h_7) [] rfl (by decide) d_G_join_12 tw_221 tw_108 tw_6 tw_109 hs_jM_min_I ⟨by decide, by decide⟩ rfl rfl ⟨by decide, by decide⟩ (Nat.le_of_ble_eq_true rfl) rfl rfl ?_
  refine cg_istore_n (lv' := [(3, .int t_8), (0, .ref A_g), (1, .int v1), (2, .int v2)]) C d_G_join_15 (by decide) rfl ?_
  refine cg_aload_n C d_G_join_16 1 rfl ?_
  refine cg_get C 0 0 d_G_join_17 rfl rfl hin_G (by decide) rfl tw_77 rfl ?_
  refine cg_iload_n C d_G_join_20 2 rfl ?_
  obtain ⟨i_9, hF⟩ := cn_rd_some hF
  refine cg_iald C 1 d_G_join_21 rfl i_9 ?_
  refine cg_aload_n C d_G_join_22 1 rfl ?_
  refine cg_get C 0 0 d_G_join_23 rfl rfl hin_G (by decide) rfl tw_77 rfl ?_
  refine cg_iload_n C d_G_join_26 3 rfl ?_
  obtain ⟨i_10, hF⟩ := cn_rd_some hF
  refine cg_iald C 1 d_G_join_27 rfl i_10 ?_
  obtain ⟨t_12, h_11, hF⟩ := cn_bind hF
  refine cg_callRS C (c_jM_max_I (g_leader (Int32.toNatClampNeg v1)) (g_leader (Int32.toNatClampNeg v2)) h_11) [] rfl (by decide) d_G_join_28 tw_222 tw_111 tw_6 tw_112 hs_jM_max_I ⟨by decide, by decide⟩ rfl rfl ⟨by decide, by decide⟩ (Nat.le_of_ble_eq_true rfl) rfl rfl ?_
  refine cg_istore (lv' := [(4, .int t_12), (3, .int t_8), (0, .ref A_g), (1, .int v1), (2, .int v2)]) C d_G_join_31 (by decide) rfl ?_
  refine cg_iload_n C d_G_join_33 1 rfl ?_
  refine cg_iload C d_G_join_34 0 rfl ?_
  refine cg_icmp_ne C 40 d_G_join_36 (by decide) (fun q_13 => ?_) (fun q_13 => ?_)
  · have hF := cn_neg q_13 hF
    refine cg_iload C d_G_join_40 0 rfl ?_
    refine cg_istore (lv' := [(5, .int t_12), (4, .int t_12), (3, .int t_8), (0, .ref A_g), (1, .int v1), (2, .int v2)]) C d_G_join_42 (by decide) rfl ?_
    refine cg_sub (lv' := [(0, .ref A_g), (3, .int t_8), (4, .int t_12), (5, .int t_12)]) [3, 2, 1, 0] rfl ?_
    exact t_G_join_44 C hr hlk hA A_g A_g_leader 4096 g_leader t_8 t_12 t_12 hF
  · have hF := cn_pos q_13 hF
    obtain rfl := Option.some.inj hF
    exact cg_vretW C hr hlk d_G_join_39
abbrev F_G_join (g_leader : Nat → Int32) (v1 : Int32) (v2 : Int32) : Option ((Nat → Int32)) := F_G_join_0 g_leader v1 v2
theorem c_G_join {l : Launch} {D : va_G} {cy : Nat → ClassId} (A_g : Nat) (A_g_leader : Nat) (g_leader : Nat → Int32) (v1 : Int32) (v2 : Int32) {out : (Nat → Int32)} (hF : F_G_join g_leader v1 v2 = some out) : cn_MW l y_G_join b_G_join 6 (none) r_G_join D cy [.ref A_g, .int v1, .int v2] (w_G_join cy A_g A_g_leader g_leader) none (w_G_join cy A_g A_g_leader out) 0 0 :=
  cn_MW.of (by decide) (Nat.le_of_ble_eq_true rfl) (fun p e s m below meth c A C hr hlk hA => t_G_join_0 C hr hlk hA A_g A_g_leader g_leader v1 v2 hF)
/-! CopperNets.leadersBelow(I)I -/
abbrev r_X_leadersBelow : Room := { frames := 1, cells := 0, slots := 0, locals := 21 }
abbrev w_X_leadersBelow (cy : Nat → ClassId) (A_x : Nat) (A_x_netOfPin : Nat) (A_x_pieces : Nat) (A_x_kept : Nat) (A_x_kept_leader : Nat) (A_x_airlines : Nat) (A_x_spare : Nat) (A_x_netBits : Nat) (A_x_grownBits : Nat) (x_layers : Int32) (x_kept_leader : Nat → Int32) : va_W := [(A_x, .inr (0, [.int x_layers, .ref A_x_netOfPin, .ref A_x_pieces, .ref A_x_kept, .ref A_x_airlines, .ref A_x_spare, .ref A_x_netBits, .ref A_x_grownBits])), (A_x_kept, .inr (2, [.ref A_x_kept_leader])), (A_x_kept_leader, .inl (cy 0, 60, .inl x_kept_leader))]
theorem hs_X_leadersBelow : y_X_leadersBelow.cls ≠ "java/lang/invoke/MethodHandle" ∧ y_X_leadersBelow.cls ≠ "java/lang/invoke/VarHandle" ∧ (parseMethodDescriptor y_X_leadersBelow.desc).map (fun d => d.parameters.length) = some 1 := by decide +kernel
def F_X_leadersBelow_24 (k_4 : (Nat → Int32) → Int32 → Int32 → Int32 → Option (Int32)) (x_kept_leader : Nat → Int32) (v1 : Int32) (v2 : Int32) (v3 : Int32) : Option (Int32) := k_4 x_kept_leader v1 v2 (v3 + 1)
set_option maxRecDepth 100000 in
set_option maxHeartbeats 4000000 in
theorem t_X_leadersBelow_24 {p : Program} {l : Launch} {e : Env} {s : State} {m : MethodId} {args : Array Value} {below : List Frame} {meth : Method} {c : Code} {D : va_G} {cy : Nat → ClassId} {out : Int32} (C : cn_X p s m args c b_X_leadersBelow 4 "CopperNets" D cy) (hr : meth.sig.returnType = some .int) (hlk : meth.locks = false) (A_x : Nat) (A_x_netOfPin : Nat) (A_x_pieces : Nat) (A_x_kept : Nat) (A_x_kept_leader : Nat) (A_x_airlines : Nat) (A_x_spare : Nat) (A_x_netBits : Nat) (A_x_grownBits : Nat) (x_layers : Int32) (k_4 : (Nat → Int32) → Int32 → Int32 → Int32 → Option (Int32)) (hk_4 : ∀ (x_kept_leader : Nat → Int32) (v1 : Int32) (v2 : Int32) (v3 : Int32), k_4 x_kept_leader v1 v2 v3 = some out → cg p l e r_X_leadersBelow s m args below meth c D (cn_hi s) (fun _ => True) 4 0 0 (MQ below (cn_QR (some (.int out))) args s 0 0 (fun _ => False)) (w_X_leadersBelow cy A_x A_x_netOfPin A_x_pieces A_x_kept A_x_kept_leader A_x_airlines A_x_spare A_x_netBits A_x_grownBits x_layers x_kept_leader) 4 [(0, .ref A_x), (1, .int v1), (2, .int v2), (3, .int v3)] []) (x_kept_leader : Nat → Int32) (v1 : Int32) (v2 : Int32) (v3 : Int32) (hF : F_X_leadersBelow_24 k_4 x_kept_leader v1 v2 v3 = some out) : cg p l e r_X_leadersBelow s m args below meth c D (cn_hi s) (fun _ => True) 4 0 0 (MQ below (cn_QR (some (.int out))) args s 0 0 (fun _ => False)) (w_X_leadersBelow cy A_x A_x_netOfPin A_x_pieces A_x_kept A_x_kept_leader A_x_airlines A_x_spare A_x_netBits A_x_grownBits x_layers x_kept_leader) 24 [(0, .ref A_x), (1, .int v1), (2, .int v2), (3, .int v3)] [] := by
  refine cg_iinc (v := v3 + 1) (lv' := [(3, .int (v3 + 1)), (0, .ref A_x), (1, .int v1), (2, .int v2)]) C d_X_leadersBelow_24 3 rfl (by decide) rfl rfl ?_
  refine cg_goto C 4 d_X_leadersBelow_27 (by decide) ?_
  refine cg_sub (lv' := [(0, .ref A_x), (1, .int v1), (2, .int v2), (3, .int (v3 + 1))]) [1, 2, 3, 0] rfl ?_
  exact hk_4 x_kept_leader v1 v2 (v3 + 1) hF
def F_X_leadersBelow_4 : Nat → (Nat → Int32) → Int32 → Int32 → Int32 → Option (Int32)
  | 0, _, _, _, _ => none
  | n + 1, x_kept_leader, v1, v2, v3 => if v1 ≤ v3 then (some (v2)) else ((F_G_leaderOf x_kept_leader v3).bind fun t_3 => if t_3 = v3 then (F_X_leadersBelow_24 (F_X_leadersBelow_4 n) x_kept_leader v1 (v2 + 1) v3) else (F_X_leadersBelow_24 (F_X_leadersBelow_4 n) x_kept_leader v1 v2 v3))
set_option maxRecDepth 100000 in
set_option maxHeartbeats 4000000 in
theorem t_X_leadersBelow_4 {p : Program} {l : Launch} {e : Env} {s : State} {m : MethodId} {args : Array Value} {below : List Frame} {meth : Method} {c : Code} {D : va_G} {cy : Nat → ClassId} {out : Int32} (C : cn_X p s m args c b_X_leadersBelow 4 "CopperNets" D cy) (hr : meth.sig.returnType = some .int) (hlk : meth.locks = false) (A_x : Nat) (A_x_netOfPin : Nat) (A_x_pieces : Nat) (A_x_kept : Nat) (A_x_kept_leader : Nat) (A_x_airlines : Nat) (A_x_spare : Nat) (A_x_netBits : Nat) (A_x_grownBits : Nat) (x_layers : Int32) : ∀ (n : Nat) (x_kept_leader : Nat → Int32) (v1 : Int32) (v2 : Int32) (v3 : Int32), F_X_leadersBelow_4 n x_kept_leader v1 v2 v3 = some out → cg p l e r_X_leadersBelow s m args below meth c D (cn_hi s) (fun _ => True) 4 0 0 (MQ below (cn_QR (some (.int out))) args s 0 0 (fun _ => False)) (w_X_leadersBelow cy A_x A_x_netOfPin A_x_pieces A_x_kept A_x_kept_leader A_x_airlines A_x_spare A_x_netBits A_x_grownBits x_layers x_kept_leader) 4 [(0, .ref A_x), (1, .int v1), (2, .int v2), (3, .int v3)] [] := by
  intro n
  induction n with
  | zero => intro x_kept_leader v1 v2 v3 hF; exact nomatch (show (none : Option (Int32)) = some out from hF)
  | succ n ih =>
    intro x_kept_leader v1 v2 v3 hF
    refine cg_iload_n C d_X_leadersBelow_4 3 rfl ?_
    refine cg_iload_n C d_X_leadersBelow_5 1 rfl ?_
    refine cg_icmp_ge C 30 d_X_leadersBelow_6 (by decide) (fun q_1 => ?_) (fun q_1 => ?_)
    · have hF := cn_pos q_1 hF
      refine cg_iload_n C d_X_leadersBelow_30 2 rfl ?_
      obtain rfl := Option.some.inj hF
      exact cg_iretR C hr hlk d_X_leadersBelow_31
    · have hF := cn_neg q_1 hF
      refine cg_aload_n C d_X_leadersBelow_9 0 rfl ?_
      refine cg_get C 0 3 d_X_leadersBelow_10 rfl rfl hin_X (by decide) rfl tw_117 rfl ?_
      refine cg_iload_n C d_X_leadersBelow_13 3 rfl ?_
      obtain ⟨t_3, h_2, hF⟩ := cn_bind hF
      refine cg_callRVN C (c_G_leaderOf A_x_kept A_x_kept_leader x_kept_leader v3 h_2) [1, 2] rfl (by decide) 0 rfl rfl d_X_leadersBelow_14 nM_3 tw_149 ts_2 tw_3 tw_150 hs_G_leaderOf ⟨by decide, by decide⟩ rfl rfl ⟨by decide, by decide⟩ (Nat.le_of_ble_eq_true rfl) rfl rfl ?_
      refine cg_iload_n C d_X_leadersBelow_17 3 rfl ?_
      refine cg_icmp_ne C 24 d_X_leadersBelow_18 (by decide) (fun q_4 => ?_) (fun q_4 => ?_)
      · have hF := cn_neg q_4 hF
        exact t_X_leadersBelow_24 C hr hlk A_x A_x_netOfPin A_x_pieces A_x_kept A_x_kept_leader A_x_airlines A_x_spare A_x_netBits A_x_grownBits x_layers (F_X_leadersBelow_4 n) ih x_kept_leader v1 v2 v3 hF
      · have hF := cn_pos q_4 hF
        refine cg_iinc (v := v2 + 1) (lv' := [(2, .int (v2 + 1)), (0, .ref A_x), (1, .int v1), (3, .int v3)]) C d_X_leadersBelow_21 2 rfl (by decide) rfl rfl ?_
        refine cg_sub (lv' := [(0, .ref A_x), (1, .int v1), (2, .int (v2 + 1)), (3, .int v3)]) [1, 2, 0, 3] rfl ?_
        exact t_X_leadersBelow_24 C hr hlk A_x A_x_netOfPin A_x_pieces A_x_kept A_x_kept_leader A_x_airlines A_x_spare A_x_netBits A_x_grownBits x_layers (F_X_leadersBelow_4 n) ih x_kept_leader v1 (v2 + 1) v3 hF
def F_X_leadersBelow_0 (x_kept_leader : Nat → Int32) (v1 : Int32) : Option (Int32) := F_X_leadersBelow_4 4096 x_kept_leader v1 0 0
set_option maxRecDepth 100000 in
set_option maxHeartbeats 4000000 in
theorem t_X_leadersBelow_0 {p : Program} {l : Launch} {e : Env} {s : State} {m : MethodId} {args : Array Value} {below : List Frame} {meth : Method} {c : Code} {D : va_G} {cy : Nat → ClassId} {out : Int32} (C : cn_X p s m args c b_X_leadersBelow 4 "CopperNets" D cy) (hr : meth.sig.returnType = some .int) (hlk : meth.locks = false) (A_x : Nat) (A_x_netOfPin : Nat) (A_x_pieces : Nat) (A_x_kept : Nat) (A_x_kept_leader : Nat) (A_x_airlines : Nat) (A_x_spare : Nat) (A_x_netBits : Nat) (A_x_grownBits : Nat) (x_layers : Int32) (x_kept_leader : Nat → Int32) (v1 : Int32) (hF : F_X_leadersBelow_0 x_kept_leader v1 = some out) : cg p l e r_X_leadersBelow s m args below meth c D (cn_hi s) (fun _ => True) 4 0 0 (MQ below (cn_QR (some (.int out))) args s 0 0 (fun _ => False)) (w_X_leadersBelow cy A_x A_x_netOfPin A_x_pieces A_x_kept A_x_kept_leader A_x_airlines A_x_spare A_x_netBits A_x_grownBits x_layers x_kept_leader) 0 [(0, .ref A_x), (1, .int v1)] [] := by
  refine cg_iconst (v := 0) C d_X_leadersBelow_0 (by decide) ?_
  refine cg_istore_n (lv' := [(2, .int 0), (0, .ref A_x), (1, .int v1)]) C d_X_leadersBelow_1 (by decide) rfl ?_
  refine cg_iconst (v := 0) C d_X_leadersBelow_2 (by decide) ?_
  refine cg_istore_n (lv' := [(3, .int 0), (2, .int 0), (0, .ref A_x), (1, .int v1)]) C d_X_leadersBelow_3 (by decide) rfl ?_
  refine cg_sub (lv' := [(0, .ref A_x), (1, .int v1), (2, .int 0), (3, .int 0)]) [2, 3, 1, 0] rfl ?_
  exact t_X_leadersBelow_4 C hr hlk A_x A_x_netOfPin A_x_pieces A_x_kept A_x_kept_leader A_x_airlines A_x_spare A_x_netBits A_x_grownBits x_layers 4096 x_kept_leader v1 0 0 hF
abbrev F_X_leadersBelow (x_kept_leader : Nat → Int32) (v1 : Int32) : Option (Int32) := F_X_leadersBelow_0 x_kept_leader v1
theorem c_X_leadersBelow {l : Launch} {D : va_G} {cy : Nat → ClassId} (A_x : Nat) (A_x_netOfPin : Nat) (A_x_pieces : Nat) (A_x_kept : Nat) (A_x_kept_leader : Nat) (A_x_airlines : Nat) (A_x_spare : Nat) (A_x_netBits : Nat) (A_x_grownBits : Nat) (x_layers : Int32) (x_kept_leader : Nat → Int32) (v1 : Int32) {out : Int32} (hF : F_X_leadersBelow x_kept_leader v1 = some out) : cn_MR l y_X_leadersBelow b_X_leadersBelow 4 (some .int) r_X_leadersBelow D cy [.ref A_x, .int v1] (w_X_leadersBelow cy A_x A_x_netOfPin A_x_pieces A_x_kept A_x_kept_leader A_x_airlines A_x_spare A_x_netBits A_x_grownBits x_layers x_kept_leader) (some (.int out)) :=
  cn_MR.of (by decide) (Nat.le_of_ble_eq_true rfl) (fun p e s m below meth c C hr hlk => t_X_leadersBelow_0 C hr hlk A_x A_x_netOfPin A_x_pieces A_x_kept A_x_kept_leader A_x_airlines A_x_spare A_x_netBits A_x_grownBits x_layers x_kept_leader v1 hF)
end
