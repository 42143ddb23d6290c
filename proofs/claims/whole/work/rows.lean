section
-- ===== PART A: goes FIRST, ahead of the names: the tables' words, and 'selects' of the private methods out of them =====
/-- a private method of a class that the tables say can be made, by its rows of tables_1 -/
def lw_okq (q : MethodName × Nat) : Prop := (q.1.cls ≠ "java/lang/invoke/MethodHandle" ∧ q.1.cls ≠ "java/lang/invoke/VarHandle") ∧ Cond.instantiable q.1.cls q.2 ∈ tables_1 ∧ Cond.privateMethod q.1 ∈ tables_1 ∧ Cond.instanceMethod q.1 ∈ tables_1
theorem lw_p0 : lw_okq (⟨"CopperNets$Groups", "clear", "()V"⟩, 1) := ⟨⟨by decide +kernel, by decide +kernel⟩, List.mem_of_getElem? (i := 65) (by decide +kernel), List.mem_of_getElem? (i := 71) (by decide +kernel), List.mem_of_getElem? (i := 72) (by decide +kernel)⟩
theorem lw_p1 : lw_okq (⟨"CopperNets", "leadersBelow", "(I)I"⟩, 8) := ⟨⟨by decide +kernel, by decide +kernel⟩, List.mem_of_getElem? (i := 16) (by decide +kernel), List.mem_of_getElem? (i := 144) (by decide +kernel), List.mem_of_getElem? (i := 145) (by decide +kernel)⟩
theorem lw_p2 : lw_okq (⟨"CopperNets$Groups", "leaderOf", "(I)I"⟩, 1) := ⟨⟨by decide +kernel, by decide +kernel⟩, List.mem_of_getElem? (i := 65) (by decide +kernel), List.mem_of_getElem? (i := 148) (by decide +kernel), List.mem_of_getElem? (i := 149) (by decide +kernel)⟩
theorem lw_p3 : lw_okq (⟨"CopperNets", "collectNetBits", "()V"⟩, 8) := ⟨⟨by decide +kernel, by decide +kernel⟩, List.mem_of_getElem? (i := 16) (by decide +kernel), List.mem_of_getElem? (i := 156) (by decide +kernel), List.mem_of_getElem? (i := 157) (by decide +kernel)⟩
theorem lw_p4 : lw_okq (⟨"CopperNets$Groups", "has", "(I)Z"⟩, 1) := ⟨⟨by decide +kernel, by decide +kernel⟩, List.mem_of_getElem? (i := 65) (by decide +kernel), List.mem_of_getElem? (i := 160) (by decide +kernel), List.mem_of_getElem? (i := 161) (by decide +kernel)⟩
theorem lw_p5 : lw_okq (⟨"CopperNets", "plannedBit", "(I)I"⟩, 8) := ⟨⟨by decide +kernel, by decide +kernel⟩, List.mem_of_getElem? (i := 16) (by decide +kernel), List.mem_of_getElem? (i := 164) (by decide +kernel), List.mem_of_getElem? (i := 165) (by decide +kernel)⟩
theorem lw_p6 : lw_okq (⟨"CopperNets", "plannedNet", "(I)I"⟩, 8) := ⟨⟨by decide +kernel, by decide +kernel⟩, List.mem_of_getElem? (i := 16) (by decide +kernel), List.mem_of_getElem? (i := 168) (by decide +kernel), List.mem_of_getElem? (i := 169) (by decide +kernel)⟩
theorem lw_p7 : lw_okq (⟨"CopperNets$Pieces", "pinOf", "(I)I"⟩, 10) := ⟨⟨by decide +kernel, by decide +kernel⟩, List.mem_of_getElem? (i := 24) (by decide +kernel), List.mem_of_getElem? (i := 172) (by decide +kernel), List.mem_of_getElem? (i := 173) (by decide +kernel)⟩
theorem lw_p8 : lw_okq (⟨"CopperNets", "isShort", "(I)Z"⟩, 8) := ⟨⟨by decide +kernel, by decide +kernel⟩, List.mem_of_getElem? (i := 16) (by decide +kernel), List.mem_of_getElem? (i := 176) (by decide +kernel), List.mem_of_getElem? (i := 177) (by decide +kernel)⟩
theorem lw_p9 : lw_okq (⟨"CopperNets$Pieces", "isThere", "(I)Z"⟩, 10) := ⟨⟨by decide +kernel, by decide +kernel⟩, List.mem_of_getElem? (i := 24) (by decide +kernel), List.mem_of_getElem? (i := 195) (by decide +kernel), List.mem_of_getElem? (i := 196) (by decide +kernel)⟩
theorem lw_p10 : lw_okq (⟨"CopperNets", "enter", "(LCopperNets$Groups;I)V"⟩, 8) := ⟨⟨by decide +kernel, by decide +kernel⟩, List.mem_of_getElem? (i := 16) (by decide +kernel), List.mem_of_getElem? (i := 199) (by decide +kernel), List.mem_of_getElem? (i := 200) (by decide +kernel)⟩
theorem lw_p11 : lw_okq (⟨"CopperNets$Groups", "begin", "(I)V"⟩, 1) := ⟨⟨by decide +kernel, by decide +kernel⟩, List.mem_of_getElem? (i := 65) (by decide +kernel), List.mem_of_getElem? (i := 203) (by decide +kernel), List.mem_of_getElem? (i := 204) (by decide +kernel)⟩
theorem lw_p12 : lw_okq (⟨"CopperNets$Pieces", "touch", "(II)Z"⟩, 10) := ⟨⟨by decide +kernel, by decide +kernel⟩, List.mem_of_getElem? (i := 24) (by decide +kernel), List.mem_of_getElem? (i := 207) (by decide +kernel), List.mem_of_getElem? (i := 208) (by decide +kernel)⟩
theorem lw_p13 : lw_okq (⟨"CopperNets$Pieces", "square", "(II)J"⟩, 10) := ⟨⟨by decide +kernel, by decide +kernel⟩, List.mem_of_getElem? (i := 24) (by decide +kernel), List.mem_of_getElem? (i := 211) (by decide +kernel), List.mem_of_getElem? (i := 212) (by decide +kernel)⟩
theorem lw_p14 : lw_okq (⟨"CopperNets$Groups", "join", "(II)V"⟩, 1) := ⟨⟨by decide +kernel, by decide +kernel⟩, List.mem_of_getElem? (i := 65) (by decide +kernel), List.mem_of_getElem? (i := 218) (by decide +kernel), List.mem_of_getElem? (i := 219) (by decide +kernel)⟩
theorem lw_p15 : lw_okq (⟨"CopperNets$Groups", "isLike", "(LCopperNets$Groups;)Z"⟩, 1) := ⟨⟨by decide +kernel, by decide +kernel⟩, List.mem_of_getElem? (i := 65) (by decide +kernel), List.mem_of_getElem? (i := 224) (by decide +kernel), List.mem_of_getElem? (i := 225) (by decide +kernel)⟩
def lw_privs_1 : List (MethodName × Nat) := [(⟨"CopperNets$Groups", "clear", "()V"⟩, 1), (⟨"CopperNets", "leadersBelow", "(I)I"⟩, 8), (⟨"CopperNets$Groups", "leaderOf", "(I)I"⟩, 1), (⟨"CopperNets", "collectNetBits", "()V"⟩, 8), (⟨"CopperNets$Groups", "has", "(I)Z"⟩, 1), (⟨"CopperNets", "plannedBit", "(I)I"⟩, 8), (⟨"CopperNets", "plannedNet", "(I)I"⟩, 8), (⟨"CopperNets$Pieces", "pinOf", "(I)I"⟩, 10), (⟨"CopperNets", "isShort", "(I)Z"⟩, 8), (⟨"CopperNets$Pieces", "isThere", "(I)Z"⟩, 10), (⟨"CopperNets", "enter", "(LCopperNets$Groups;I)V"⟩, 8), (⟨"CopperNets$Groups", "begin", "(I)V"⟩, 1), (⟨"CopperNets$Pieces", "touch", "(II)Z"⟩, 10), (⟨"CopperNets$Pieces", "square", "(II)J"⟩, 10), (⟨"CopperNets$Groups", "join", "(II)V"⟩, 1), (⟨"CopperNets$Groups", "isLike", "(LCopperNets$Groups;)Z"⟩, 1)]
theorem lw_r1 : ∀ q ∈ lw_privs_1, lw_okq q := List.forall_mem_cons.mpr ⟨lw_p0, List.forall_mem_cons.mpr ⟨lw_p1, List.forall_mem_cons.mpr ⟨lw_p2, List.forall_mem_cons.mpr ⟨lw_p3, List.forall_mem_cons.mpr ⟨lw_p4, List.forall_mem_cons.mpr ⟨lw_p5, List.forall_mem_cons.mpr ⟨lw_p6, List.forall_mem_cons.mpr ⟨lw_p7, List.forall_mem_cons.mpr ⟨lw_p8, List.forall_mem_cons.mpr ⟨lw_p9, List.forall_mem_cons.mpr ⟨lw_p10, List.forall_mem_cons.mpr ⟨lw_p11, List.forall_mem_cons.mpr ⟨lw_p12, List.forall_mem_cons.mpr ⟨lw_p13, List.forall_mem_cons.mpr ⟨lw_p14, List.forall_mem_cons.mpr ⟨lw_p15, fun _ h => absurd h List.not_mem_nil⟩⟩⟩⟩⟩⟩⟩⟩⟩⟩⟩⟩⟩⟩⟩⟩
theorem lw_p16 : lw_okq (⟨"CopperNets$Pieces", "hasPadOf", "(I)Z"⟩, 10) := ⟨⟨by decide +kernel, by decide +kernel⟩, List.mem_of_getElem? (i := 24) (by decide +kernel), List.mem_of_getElem? (i := 232) (by decide +kernel), List.mem_of_getElem? (i := 233) (by decide +kernel)⟩
theorem lw_p17 : lw_okq (⟨"CopperNets", "drawAirlines", "(I)V"⟩, 8) := ⟨⟨by decide +kernel, by decide +kernel⟩, List.mem_of_getElem? (i := 16) (by decide +kernel), List.mem_of_getElem? (i := 242) (by decide +kernel), List.mem_of_getElem? (i := 243) (by decide +kernel)⟩
theorem lw_p18 : lw_okq (⟨"CopperNets$Airlines", "clear", "()V"⟩, 6) := ⟨⟨by decide +kernel, by decide +kernel⟩, List.mem_of_getElem? (i := 82) (by decide +kernel), List.mem_of_getElem? (i := 246) (by decide +kernel), List.mem_of_getElem? (i := 247) (by decide +kernel)⟩
theorem lw_p19 : lw_okq (⟨"CopperNets$Airlines", "addPad", "(I)V"⟩, 6) := ⟨⟨by decide +kernel, by decide +kernel⟩, List.mem_of_getElem? (i := 82) (by decide +kernel), List.mem_of_getElem? (i := 250) (by decide +kernel), List.mem_of_getElem? (i := 251) (by decide +kernel)⟩
theorem lw_p20 : lw_okq (⟨"CopperNets$Airlines", "draw", "(LCopperNets$Pieces;LCopperNets$Groups;)V"⟩, 6) := ⟨⟨by decide +kernel, by decide +kernel⟩, List.mem_of_getElem? (i := 82) (by decide +kernel), List.mem_of_getElem? (i := 255) (by decide +kernel), List.mem_of_getElem? (i := 256) (by decide +kernel)⟩
theorem lw_p21 : lw_okq (⟨"CopperNets$Airlines", "reach", "(ILCopperNets$Pieces;LCopperNets$Groups;)V"⟩, 6) := ⟨⟨by decide +kernel, by decide +kernel⟩, List.mem_of_getElem? (i := 82) (by decide +kernel), List.mem_of_getElem? (i := 259) (by decide +kernel), List.mem_of_getElem? (i := 260) (by decide +kernel)⟩
theorem lw_p22 : lw_okq (⟨"CopperNets$Airlines", "lookFrom", "(ILCopperNets$Pieces;)V"⟩, 6) := ⟨⟨by decide +kernel, by decide +kernel⟩, List.mem_of_getElem? (i := 82) (by decide +kernel), List.mem_of_getElem? (i := 264) (by decide +kernel), List.mem_of_getElem? (i := 265) (by decide +kernel)⟩
theorem lw_p23 : lw_okq (⟨"CopperNets$Airlines", "nearestPad", "()I"⟩, 6) := ⟨⟨by decide +kernel, by decide +kernel⟩, List.mem_of_getElem? (i := 82) (by decide +kernel), List.mem_of_getElem? (i := 277) (by decide +kernel), List.mem_of_getElem? (i := 278) (by decide +kernel)⟩
theorem lw_p24 : lw_okq (⟨"CopperNets$Airlines", "insert", "(J)V"⟩, 6) := ⟨⟨by decide +kernel, by decide +kernel⟩, List.mem_of_getElem? (i := 82) (by decide +kernel), List.mem_of_getElem? (i := 281) (by decide +kernel), List.mem_of_getElem? (i := 282) (by decide +kernel)⟩
theorem lw_p25 : lw_okq (⟨"CopperNets", "checkLayer", "(I)V"⟩, 8) := ⟨⟨by decide +kernel, by decide +kernel⟩, List.mem_of_getElem? (i := 16) (by decide +kernel), List.mem_of_getElem? (i := 297) (by decide +kernel), List.mem_of_getElem? (i := 298) (by decide +kernel)⟩
theorem lw_p26 : lw_okq (⟨"java/lang/Throwable", "fillInStackTrace", "(I)Ljava/lang/Throwable;"⟩, 6) := ⟨⟨by decide +kernel, by decide +kernel⟩, List.mem_of_getElem? (i := 338) (by decide +kernel), List.mem_of_getElem? (i := 336) (by decide +kernel), List.mem_of_getElem? (i := 337) (by decide +kernel)⟩
theorem lw_p27 : lw_okq (⟨"CopperNets$Pieces", "isFull", "()Z"⟩, 10) := ⟨⟨by decide +kernel, by decide +kernel⟩, List.mem_of_getElem? (i := 24) (by decide +kernel), List.mem_of_getElem? (i := 393) (by decide +kernel), List.mem_of_getElem? (i := 394) (by decide +kernel)⟩
theorem lw_p28 : lw_okq (⟨"CopperNets$Pieces", "addRectangle", "(IJJJJ)I"⟩, 10) := ⟨⟨by decide +kernel, by decide +kernel⟩, List.mem_of_getElem? (i := 24) (by decide +kernel), List.mem_of_getElem? (i := 397) (by decide +kernel), List.mem_of_getElem? (i := 398) (by decide +kernel)⟩
theorem lw_p29 : lw_okq (⟨"CopperNets$Pieces", "add", "(III)I"⟩, 10) := ⟨⟨by decide +kernel, by decide +kernel⟩, List.mem_of_getElem? (i := 24) (by decide +kernel), List.mem_of_getElem? (i := 401) (by decide +kernel), List.mem_of_getElem? (i := 402) (by decide +kernel)⟩
theorem lw_p30 : lw_okq (⟨"CopperNets", "takeIn", "(I)I"⟩, 8) := ⟨⟨by decide +kernel, by decide +kernel⟩, List.mem_of_getElem? (i := 16) (by decide +kernel), List.mem_of_getElem? (i := 405) (by decide +kernel), List.mem_of_getElem? (i := 406) (by decide +kernel)⟩
theorem lw_p31 : lw_okq (⟨"CopperNets$Pieces", "addDisc", "(IIIJJJ)I"⟩, 10) := ⟨⟨by decide +kernel, by decide +kernel⟩, List.mem_of_getElem? (i := 24) (by decide +kernel), List.mem_of_getElem? (i := 417) (by decide +kernel), List.mem_of_getElem? (i := 418) (by decide +kernel)⟩
def lw_privs_2 : List (MethodName × Nat) := [(⟨"CopperNets$Pieces", "hasPadOf", "(I)Z"⟩, 10), (⟨"CopperNets", "drawAirlines", "(I)V"⟩, 8), (⟨"CopperNets$Airlines", "clear", "()V"⟩, 6), (⟨"CopperNets$Airlines", "addPad", "(I)V"⟩, 6), (⟨"CopperNets$Airlines", "draw", "(LCopperNets$Pieces;LCopperNets$Groups;)V"⟩, 6), (⟨"CopperNets$Airlines", "reach", "(ILCopperNets$Pieces;LCopperNets$Groups;)V"⟩, 6), (⟨"CopperNets$Airlines", "lookFrom", "(ILCopperNets$Pieces;)V"⟩, 6), (⟨"CopperNets$Airlines", "nearestPad", "()I"⟩, 6), (⟨"CopperNets$Airlines", "insert", "(J)V"⟩, 6), (⟨"CopperNets", "checkLayer", "(I)V"⟩, 8), (⟨"java/lang/Throwable", "fillInStackTrace", "(I)Ljava/lang/Throwable;"⟩, 6), (⟨"CopperNets$Pieces", "isFull", "()Z"⟩, 10), (⟨"CopperNets$Pieces", "addRectangle", "(IJJJJ)I"⟩, 10), (⟨"CopperNets$Pieces", "add", "(III)I"⟩, 10), (⟨"CopperNets", "takeIn", "(I)I"⟩, 8), (⟨"CopperNets$Pieces", "addDisc", "(IIIJJJ)I"⟩, 10)]
theorem lw_r2 : ∀ q ∈ lw_privs_2, lw_okq q := List.forall_mem_cons.mpr ⟨lw_p16, List.forall_mem_cons.mpr ⟨lw_p17, List.forall_mem_cons.mpr ⟨lw_p18, List.forall_mem_cons.mpr ⟨lw_p19, List.forall_mem_cons.mpr ⟨lw_p20, List.forall_mem_cons.mpr ⟨lw_p21, List.forall_mem_cons.mpr ⟨lw_p22, List.forall_mem_cons.mpr ⟨lw_p23, List.forall_mem_cons.mpr ⟨lw_p24, List.forall_mem_cons.mpr ⟨lw_p25, List.forall_mem_cons.mpr ⟨lw_p26, List.forall_mem_cons.mpr ⟨lw_p27, List.forall_mem_cons.mpr ⟨lw_p28, List.forall_mem_cons.mpr ⟨lw_p29, List.forall_mem_cons.mpr ⟨lw_p30, List.forall_mem_cons.mpr ⟨lw_p31, fun _ h => absurd h List.not_mem_nil⟩⟩⟩⟩⟩⟩⟩⟩⟩⟩⟩⟩⟩⟩⟩⟩
theorem lw_p32 : lw_okq (⟨"CopperNets", "checkPiece", "(I)V"⟩, 8) := ⟨⟨by decide +kernel, by decide +kernel⟩, List.mem_of_getElem? (i := 16) (by decide +kernel), List.mem_of_getElem? (i := 450) (by decide +kernel), List.mem_of_getElem? (i := 451) (by decide +kernel)⟩
theorem lw_p33 : lw_okq (⟨"CopperNets$Airlines", "has", "(I)Z"⟩, 6) := ⟨⟨by decide +kernel, by decide +kernel⟩, List.mem_of_getElem? (i := 82) (by decide +kernel), List.mem_of_getElem? (i := 476) (by decide +kernel), List.mem_of_getElem? (i := 477) (by decide +kernel)⟩
theorem lw_p34 : lw_okq (⟨"CopperNets$Airlines", "pairAt", "(I)J"⟩, 6) := ⟨⟨by decide +kernel, by decide +kernel⟩, List.mem_of_getElem? (i := 82) (by decide +kernel), List.mem_of_getElem? (i := 481) (by decide +kernel), List.mem_of_getElem? (i := 482) (by decide +kernel)⟩
theorem lw_p35 : lw_okq (⟨"CopperNets", "leaderOfShort", "(I)I"⟩, 8) := ⟨⟨by decide +kernel, by decide +kernel⟩, List.mem_of_getElem? (i := 16) (by decide +kernel), List.mem_of_getElem? (i := 499) (by decide +kernel), List.mem_of_getElem? (i := 500) (by decide +kernel)⟩
theorem lw_p36 : lw_okq (⟨"CopperNets", "joinThatShorted", "(I)J"⟩, 8) := ⟨⟨by decide +kernel, by decide +kernel⟩, List.mem_of_getElem? (i := 16) (by decide +kernel), List.mem_of_getElem? (i := 507) (by decide +kernel), List.mem_of_getElem? (i := 508) (by decide +kernel)⟩
theorem lw_p37 : lw_okq (⟨"CopperNets", "belowThatShorts", "(I)I"⟩, 8) := ⟨⟨by decide +kernel, by decide +kernel⟩, List.mem_of_getElem? (i := 16) (by decide +kernel), List.mem_of_getElem? (i := 511) (by decide +kernel), List.mem_of_getElem? (i := 512) (by decide +kernel)⟩
theorem lw_p38 : lw_okq (⟨"CopperNets$Pieces", "remove", "(I)V"⟩, 10) := ⟨⟨by decide +kernel, by decide +kernel⟩, List.mem_of_getElem? (i := 24) (by decide +kernel), List.mem_of_getElem? (i := 530) (by decide +kernel), List.mem_of_getElem? (i := 531) (by decide +kernel)⟩
theorem lw_p39 : lw_okq (⟨"CopperNets", "partWithout", "(I)V"⟩, 8) := ⟨⟨by decide +kernel, by decide +kernel⟩, List.mem_of_getElem? (i := 16) (by decide +kernel), List.mem_of_getElem? (i := 534) (by decide +kernel), List.mem_of_getElem? (i := 535) (by decide +kernel)⟩
theorem lw_p40 : lw_okq (⟨"CopperNets$Groups", "leave", "(I)V"⟩, 1) := ⟨⟨by decide +kernel, by decide +kernel⟩, List.mem_of_getElem? (i := 65) (by decide +kernel), List.mem_of_getElem? (i := 538) (by decide +kernel), List.mem_of_getElem? (i := 539) (by decide +kernel)⟩
theorem lw_p41 : lw_okq (⟨"CopperNets$Groups", "follow", "(II)V"⟩, 1) := ⟨⟨by decide +kernel, by decide +kernel⟩, List.mem_of_getElem? (i := 65) (by decide +kernel), List.mem_of_getElem? (i := 542) (by decide +kernel), List.mem_of_getElem? (i := 543) (by decide +kernel)⟩
theorem lw_p42 : lw_okq (⟨"CopperNetsModel", "isLayer", "(I)Z"⟩, 19) := ⟨⟨by decide +kernel, by decide +kernel⟩, List.mem_of_getElem? (i := 546) (by decide +kernel), List.mem_of_getElem? (i := 626) (by decide +kernel), List.mem_of_getElem? (i := 627) (by decide +kernel)⟩
theorem lw_p43 : lw_okq (⟨"CopperNetsModel", "add", "(IIJJJJJI)I"⟩, 19) := ⟨⟨by decide +kernel, by decide +kernel⟩, List.mem_of_getElem? (i := 546) (by decide +kernel), List.mem_of_getElem? (i := 630) (by decide +kernel), List.mem_of_getElem? (i := 631) (by decide +kernel)⟩
theorem lw_p44 : lw_okq (⟨"CopperNetsModel", "isPiece", "(I)Z"⟩, 19) := ⟨⟨by decide +kernel, by decide +kernel⟩, List.mem_of_getElem? (i := 546) (by decide +kernel), List.mem_of_getElem? (i := 656) (by decide +kernel), List.mem_of_getElem? (i := 657) (by decide +kernel)⟩
theorem lw_p45 : lw_okq (⟨"CopperNetsModel", "findNets", "()I"⟩, 19) := ⟨⟨by decide +kernel, by decide +kernel⟩, List.mem_of_getElem? (i := 546) (by decide +kernel), List.mem_of_getElem? (i := 664) (by decide +kernel), List.mem_of_getElem? (i := 665) (by decide +kernel)⟩
theorem lw_p46 : lw_okq (⟨"CopperNetsModel", "findLabels", "()V"⟩, 19) := ⟨⟨by decide +kernel, by decide +kernel⟩, List.mem_of_getElem? (i := 546) (by decide +kernel), List.mem_of_getElem? (i := 668) (by decide +kernel), List.mem_of_getElem? (i := 669) (by decide +kernel)⟩
theorem lw_p47 : lw_okq (⟨"CopperNetsModel", "touch", "(II)Z"⟩, 19) := ⟨⟨by decide +kernel, by decide +kernel⟩, List.mem_of_getElem? (i := 546) (by decide +kernel), List.mem_of_getElem? (i := 672) (by decide +kernel), List.mem_of_getElem? (i := 673) (by decide +kernel)⟩
def lw_privs_3 : List (MethodName × Nat) := [(⟨"CopperNets", "checkPiece", "(I)V"⟩, 8), (⟨"CopperNets$Airlines", "has", "(I)Z"⟩, 6), (⟨"CopperNets$Airlines", "pairAt", "(I)J"⟩, 6), (⟨"CopperNets", "leaderOfShort", "(I)I"⟩, 8), (⟨"CopperNets", "joinThatShorted", "(I)J"⟩, 8), (⟨"CopperNets", "belowThatShorts", "(I)I"⟩, 8), (⟨"CopperNets$Pieces", "remove", "(I)V"⟩, 10), (⟨"CopperNets", "partWithout", "(I)V"⟩, 8), (⟨"CopperNets$Groups", "leave", "(I)V"⟩, 1), (⟨"CopperNets$Groups", "follow", "(II)V"⟩, 1), (⟨"CopperNetsModel", "isLayer", "(I)Z"⟩, 19), (⟨"CopperNetsModel", "add", "(IIJJJJJI)I"⟩, 19), (⟨"CopperNetsModel", "isPiece", "(I)Z"⟩, 19), (⟨"CopperNetsModel", "findNets", "()I"⟩, 19), (⟨"CopperNetsModel", "findLabels", "()V"⟩, 19), (⟨"CopperNetsModel", "touch", "(II)Z"⟩, 19)]
theorem lw_r3 : ∀ q ∈ lw_privs_3, lw_okq q := List.forall_mem_cons.mpr ⟨lw_p32, List.forall_mem_cons.mpr ⟨lw_p33, List.forall_mem_cons.mpr ⟨lw_p34, List.forall_mem_cons.mpr ⟨lw_p35, List.forall_mem_cons.mpr ⟨lw_p36, List.forall_mem_cons.mpr ⟨lw_p37, List.forall_mem_cons.mpr ⟨lw_p38, List.forall_mem_cons.mpr ⟨lw_p39, List.forall_mem_cons.mpr ⟨lw_p40, List.forall_mem_cons.mpr ⟨lw_p41, List.forall_mem_cons.mpr ⟨lw_p42, List.forall_mem_cons.mpr ⟨lw_p43, List.forall_mem_cons.mpr ⟨lw_p44, List.forall_mem_cons.mpr ⟨lw_p45, List.forall_mem_cons.mpr ⟨lw_p46, List.forall_mem_cons.mpr ⟨lw_p47, fun _ h => absurd h List.not_mem_nil⟩⟩⟩⟩⟩⟩⟩⟩⟩⟩⟩⟩⟩⟩⟩⟩
theorem lw_p48 : lw_okq (⟨"CopperNetsModel", "countOpens", "(I)I"⟩, 19) := ⟨⟨by decide +kernel, by decide +kernel⟩, List.mem_of_getElem? (i := 546) (by decide +kernel), List.mem_of_getElem? (i := 687) (by decide +kernel), List.mem_of_getElem? (i := 688) (by decide +kernel)⟩
theorem lw_p49 : lw_okq (⟨"CopperNetsModel", "nextAirline", "(I)Z"⟩, 19) := ⟨⟨by decide +kernel, by decide +kernel⟩, List.mem_of_getElem? (i := 546) (by decide +kernel), List.mem_of_getElem? (i := 691) (by decide +kernel), List.mem_of_getElem? (i := 692) (by decide +kernel)⟩
theorem lw_p50 : lw_okq (⟨"CopperNetsModel", "planOf", "(I)I"⟩, 19) := ⟨⟨by decide +kernel, by decide +kernel⟩, List.mem_of_getElem? (i := 546) (by decide +kernel), List.mem_of_getElem? (i := 695) (by decide +kernel), List.mem_of_getElem? (i := 696) (by decide +kernel)⟩
theorem lw_p51 : lw_okq (⟨"CopperNetsModel", "findAirline", "(II)Z"⟩, 19) := ⟨⟨by decide +kernel, by decide +kernel⟩, List.mem_of_getElem? (i := 546) (by decide +kernel), List.mem_of_getElem? (i := 703) (by decide +kernel), List.mem_of_getElem? (i := 704) (by decide +kernel)⟩
theorem lw_p52 : lw_okq (⟨"CopperNetsModel", "countShorts", "()I"⟩, 19) := ⟨⟨by decide +kernel, by decide +kernel⟩, List.mem_of_getElem? (i := 546) (by decide +kernel), List.mem_of_getElem? (i := 715) (by decide +kernel), List.mem_of_getElem? (i := 716) (by decide +kernel)⟩
theorem lw_p53 : lw_okq (⟨"CopperNetsModel", "netsOf", "(I)I"⟩, 19) := ⟨⟨by decide +kernel, by decide +kernel⟩, List.mem_of_getElem? (i := 546) (by decide +kernel), List.mem_of_getElem? (i := 719) (by decide +kernel), List.mem_of_getElem? (i := 720) (by decide +kernel)⟩
theorem lw_p54 : lw_okq (⟨"CopperNetsModel", "shortAt", "(I)I"⟩, 19) := ⟨⟨by decide +kernel, by decide +kernel⟩, List.mem_of_getElem? (i := 546) (by decide +kernel), List.mem_of_getElem? (i := 730) (by decide +kernel), List.mem_of_getElem? (i := 731) (by decide +kernel)⟩
theorem lw_p55 : lw_okq (⟨"CopperNetsModel", "findJoin", "(I)V"⟩, 19) := ⟨⟨by decide +kernel, by decide +kernel⟩, List.mem_of_getElem? (i := 546) (by decide +kernel), List.mem_of_getElem? (i := 737) (by decide +kernel), List.mem_of_getElem? (i := 738) (by decide +kernel)⟩
theorem lw_p56 : lw_okq (⟨"CopperNetsModel", "netsOfGroup", "(I)I"⟩, 19) := ⟨⟨by decide +kernel, by decide +kernel⟩, List.mem_of_getElem? (i := 546) (by decide +kernel), List.mem_of_getElem? (i := 741) (by decide +kernel), List.mem_of_getElem? (i := 742) (by decide +kernel)⟩
theorem lw_p57 : lw_okq (⟨"CopperNetsModel", "unreachedAt", "(I)I"⟩, 19) := ⟨⟨by decide +kernel, by decide +kernel⟩, List.mem_of_getElem? (i := 546) (by decide +kernel), List.mem_of_getElem? (i := 753) (by decide +kernel), List.mem_of_getElem? (i := 754) (by decide +kernel)⟩
theorem lw_p58 : lw_okq (⟨"CopperNetsModel", "hasPad", "(I)Z"⟩, 19) := ⟨⟨by decide +kernel, by decide +kernel⟩, List.mem_of_getElem? (i := 546) (by decide +kernel), List.mem_of_getElem? (i := 757) (by decide +kernel), List.mem_of_getElem? (i := 758) (by decide +kernel)⟩
def lw_privs_4 : List (MethodName × Nat) := [(⟨"CopperNetsModel", "countOpens", "(I)I"⟩, 19), (⟨"CopperNetsModel", "nextAirline", "(I)Z"⟩, 19), (⟨"CopperNetsModel", "planOf", "(I)I"⟩, 19), (⟨"CopperNetsModel", "findAirline", "(II)Z"⟩, 19), (⟨"CopperNetsModel", "countShorts", "()I"⟩, 19), (⟨"CopperNetsModel", "netsOf", "(I)I"⟩, 19), (⟨"CopperNetsModel", "shortAt", "(I)I"⟩, 19), (⟨"CopperNetsModel", "findJoin", "(I)V"⟩, 19), (⟨"CopperNetsModel", "netsOfGroup", "(I)I"⟩, 19), (⟨"CopperNetsModel", "unreachedAt", "(I)I"⟩, 19), (⟨"CopperNetsModel", "hasPad", "(I)Z"⟩, 19)]
theorem lw_r4 : ∀ q ∈ lw_privs_4, lw_okq q := List.forall_mem_cons.mpr ⟨lw_p48, List.forall_mem_cons.mpr ⟨lw_p49, List.forall_mem_cons.mpr ⟨lw_p50, List.forall_mem_cons.mpr ⟨lw_p51, List.forall_mem_cons.mpr ⟨lw_p52, List.forall_mem_cons.mpr ⟨lw_p53, List.forall_mem_cons.mpr ⟨lw_p54, List.forall_mem_cons.mpr ⟨lw_p55, List.forall_mem_cons.mpr ⟨lw_p56, List.forall_mem_cons.mpr ⟨lw_p57, List.forall_mem_cons.mpr ⟨lw_p58, fun _ h => absurd h List.not_mem_nil⟩⟩⟩⟩⟩⟩⟩⟩⟩⟩⟩
def lw_privs : List (MethodName × Nat) := lw_privs_1 ++ (lw_privs_2 ++ (lw_privs_3 ++ (lw_privs_4)))
def lw_tbl : List Cond := k2_sels lw_privs ++ tables_1
theorem lw_privs_ok : ∀ q ∈ lw_privs, lw_okq q := by
  show ∀ q ∈ lw_privs_1 ++ (lw_privs_2 ++ (lw_privs_3 ++ (lw_privs_4))), lw_okq q
  exact List.forall_mem_append.mpr ⟨lw_r1, List.forall_mem_append.mpr ⟨lw_r2, List.forall_mem_append.mpr ⟨lw_r3, lw_r4⟩⟩⟩
end
section
/-! NAMES: classes, their fields in the order of the slots; nest words; methods (all written by wip/whole/gen_names.py out of the statement's tables) -/
def T_X : u_T := fun k => match k with
  | 0 => ("CopperNets", "layers", "I", true)
  | 1 => ("CopperNets", "netOfPin", "[I", true)
  | 2 => ("CopperNets", "pieces", "LCopperNets$Pieces;", true)
  | 3 => ("CopperNets", "kept", "LCopperNets$Groups;", true)
  | 4 => ("CopperNets", "airlines", "LCopperNets$Airlines;", true)
  | 5 => ("CopperNets", "spare", "LCopperNets$Groups;", true)
  | 6 => ("CopperNets", "netBits", "[I", true)
  | _ => ("CopperNets", "grownBits", "[I", true)
def t_X : Nat → FieldType := fun k => match k with
  | 0 => .int
  | 1 => .array .int
  | 2 => .object "CopperNets$Pieces"
  | 3 => .object "CopperNets$Groups"
  | 4 => .object "CopperNets$Airlines"
  | 5 => .object "CopperNets$Groups"
  | 6 => .array .int
  | _ => .array .int
theorem n_X : ∀ a, a < 8 → ∀ b, b < 8 → a ≠ b → (T_X a).2.1 ≠ (T_X b).2.1 := by decide +kernel
theorem tt_X : ∀ k, k < 8 → parseFieldDescriptor (T_X k).2.2.1 = some (t_X k) := by decide +kernel
def T_A : u_T := fun k => match k with
  | 0 => ("CopperNets$Airlines", "count", "I", false)
  | 1 => ("CopperNets$Airlines", "pairs", "[J", true)
  | 2 => ("CopperNets$Airlines", "padCount", "I", false)
  | 3 => ("CopperNets$Airlines", "pads", "[I", true)
  | 4 => ("CopperNets$Airlines", "reached", "[Z", true)
  | _ => ("CopperNets$Airlines", "nearest", "[J", true)
def t_A : Nat → FieldType := fun k => match k with
  | 0 => .int
  | 1 => .array .long
  | 2 => .int
  | 3 => .array .int
  | 4 => .array .boolean
  | _ => .array .long
theorem n_A : ∀ a, a < 6 → ∀ b, b < 6 → a ≠ b → (T_A a).2.1 ≠ (T_A b).2.1 := by decide +kernel
theorem tt_A : ∀ k, k < 6 → parseFieldDescriptor (T_A k).2.2.1 = some (t_A k) := by decide +kernel
def T_G : u_T := fun k => match k with
  | _ => ("CopperNets$Groups", "leader", "[I", true)
def t_G : Nat → FieldType := fun k => match k with
  | _ => .array .int
theorem n_G : ∀ a, a < 1 → ∀ b, b < 1 → a ≠ b → (T_G a).2.1 ≠ (T_G b).2.1 := by decide +kernel
theorem tt_G : ∀ k, k < 1 → parseFieldDescriptor (T_G k).2.2.1 = some (t_G k) := by decide +kernel
def T_P : u_T := fun k => match k with
  | 0 => ("CopperNets$Pieces", "count", "I", false)
  | 1 => ("CopperNets$Pieces", "there", "[Z", true)
  | 2 => ("CopperNets$Pieces", "from", "[I", true)
  | 3 => ("CopperNets$Pieces", "to", "[I", true)
  | 4 => ("CopperNets$Pieces", "pin", "[I", true)
  | 5 => ("CopperNets$Pieces", "left", "[J", true)
  | 6 => ("CopperNets$Pieces", "low", "[J", true)
  | 7 => ("CopperNets$Pieces", "right", "[J", true)
  | 8 => ("CopperNets$Pieces", "high", "[J", true)
  | _ => ("CopperNets$Pieces", "rim", "[J", true)
def t_P : Nat → FieldType := fun k => match k with
  | 0 => .int
  | 1 => .array .boolean
  | 2 => .array .int
  | 3 => .array .int
  | 4 => .array .int
  | 5 => .array .long
  | 6 => .array .long
  | 7 => .array .long
  | 8 => .array .long
  | _ => .array .long
theorem n_P : ∀ a, a < 10 → ∀ b, b < 10 → a ≠ b → (T_P a).2.1 ≠ (T_P b).2.1 := by decide +kernel
theorem tt_P : ∀ k, k < 10 → parseFieldDescriptor (T_P k).2.2.1 = some (t_P k) := by decide +kernel
def T_M : u_T := fun k => match k with
  | 0 => ("CopperNetsModel", "thrown", "I", false)
  | 1 => ("CopperNetsModel", "layers", "I", true)
  | 2 => ("CopperNetsModel", "pieces", "I", false)
  | 3 => ("CopperNetsModel", "there", "[Z", true)
  | 4 => ("CopperNetsModel", "low", "[I", true)
  | 5 => ("CopperNetsModel", "high", "[I", true)
  | 6 => ("CopperNetsModel", "x", "[J", true)
  | 7 => ("CopperNetsModel", "y", "[J", true)
  | 8 => ("CopperNetsModel", "w", "[J", true)
  | 9 => ("CopperNetsModel", "h", "[J", true)
  | 10 => ("CopperNetsModel", "\x72", "[J", true)
  | 11 => ("CopperNetsModel", "pinOf", "[I", true)
  | 12 => ("CopperNetsModel", "netOfPin", "[I", true)
  | 13 => ("CopperNetsModel", "label", "[I", true)
  | 14 => ("CopperNetsModel", "number", "[I", true)
  | 15 => ("CopperNetsModel", "group", "[I", true)
  | 16 => ("CopperNetsModel", "airSquare", "J", false)
  | 17 => ("CopperNetsModel", "airLow", "I", false)
  | _ => ("CopperNetsModel", "airHigh", "I", false)
def t_M : Nat → FieldType := fun k => match k with
  | 0 => .int
  | 1 => .int
  | 2 => .int
  | 3 => .array .boolean
  | 4 => .array .int
  | 5 => .array .int
  | 6 => .array .long
  | 7 => .array .long
  | 8 => .array .long
  | 9 => .array .long
  | 10 => .array .long
  | 11 => .array .int
  | 12 => .array .int
  | 13 => .array .int
  | 14 => .array .int
  | 15 => .array .int
  | 16 => .long
  | 17 => .int
  | _ => .int
theorem n_M : ∀ a, a < 19 → ∀ b, b < 19 → a ≠ b → (T_M a).2.1 ≠ (T_M b).2.1 := by decide +kernel
theorem tt_M : ∀ k, k < 19 → parseFieldDescriptor (T_M k).2.2.1 = some (t_M k) := by decide +kernel
abbrev cn_cl : List vw_C := [("CopperNets", T_X, 8), ("CopperNets$Airlines", T_A, 6), ("CopperNets$Groups", T_G, 1), ("CopperNets$Pieces", T_P, 10), ("CopperNetsModel", T_M, 19)]
def cn_nwM : List (String × Nat × MethodName × String) := [("CopperNets", 15, ⟨"CopperNets$Pieces", "<init>", "()V"⟩, "CopperNets"), ("CopperNets", 22, ⟨"CopperNets$Groups", "<init>", "()V"⟩, "CopperNets"), ("CopperNets", 29, ⟨"CopperNets$Airlines", "<init>", "()V"⟩, "CopperNets"), ("CopperNets", 118, ⟨"CopperNets$Groups", "leaderOf", "(I)I"⟩, "CopperNets"), ("CopperNets", 115, ⟨"CopperNets$Groups", "has", "(I)Z"⟩, "CopperNets"), ("CopperNets", 231, ⟨"CopperNets$Pieces", "pinOf", "(I)I"⟩, "CopperNets"), ("CopperNets", 178, ⟨"CopperNets$Groups", "clear", "()V"⟩, "CopperNets"), ("CopperNets", 169, ⟨"CopperNets$Pieces", "isThere", "(I)Z"⟩, "CopperNets"), ("CopperNets", 215, ⟨"CopperNets$Groups", "begin", "(I)V"⟩, "CopperNets"), ("CopperNets", 218, ⟨"CopperNets$Pieces", "touch", "(II)Z"⟩, "CopperNets"), ("CopperNets", 222, ⟨"CopperNets$Groups", "join", "(II)V"⟩, "CopperNets"), ("CopperNets", 185, ⟨"CopperNets$Groups", "isLike", "(LCopperNets$Groups;)Z"⟩, "CopperNets"), ("CopperNets", 189, ⟨"CopperNets$Pieces", "hasPadOf", "(I)Z"⟩, "CopperNets"), ("CopperNets", 252, ⟨"CopperNets$Airlines", "clear", "()V"⟩, "CopperNets"), ("CopperNets", 253, ⟨"CopperNets$Airlines", "addPad", "(I)V"⟩, "CopperNets"), ("CopperNets", 256, ⟨"CopperNets$Airlines", "draw", "(LCopperNets$Pieces;LCopperNets$Groups;)V"⟩, "CopperNets"), ("CopperNets$Airlines", 49, ⟨"CopperNets$Groups", "leaderOf", "(I)I"⟩, "CopperNets"), ("CopperNets$Airlines", 59, ⟨"CopperNets$Pieces", "square", "(II)J"⟩, "CopperNets"), ("CopperNets$Airlines", 65, ⟨"CopperNets$Pair", "of", "(JII)J"⟩, "CopperNets"), ("CopperNets", 74, ⟨"CopperNets$Pieces", "isFull", "()Z"⟩, "CopperNets"), ("CopperNets", 78, ⟨"CopperNets$Pieces", "addRectangle", "(IJJJJ)I"⟩, "CopperNets"), ("CopperNets", 93, ⟨"CopperNets$Pieces", "addDisc", "(IIIJJJ)I"⟩, "CopperNets"), ("CopperNets", 132, ⟨"CopperNets$Airlines", "has", "(I)Z"⟩, "CopperNets"), ("CopperNets", 138, ⟨"CopperNets$Airlines", "pairAt", "(I)J"⟩, "CopperNets"), ("CopperNets", 142, ⟨"CopperNets$Pair", "square", "(J)J"⟩, "CopperNets"), ("CopperNets", 148, ⟨"CopperNets$Pair", "piece", "(JI)I"⟩, "CopperNets"), ("CopperNets", 248, ⟨"CopperNets$Pair", "of", "(JII)J"⟩, "CopperNets"), ("CopperNets", 172, ⟨"CopperNets$Pieces", "remove", "(I)V"⟩, "CopperNets"), ("CopperNets", 225, ⟨"CopperNets$Groups", "leave", "(I)V"⟩, "CopperNets"), ("CopperNets", 228, ⟨"CopperNets$Groups", "follow", "(II)V"⟩, "CopperNets")]
def cn_nwF : List (String × Nat × String × String × String × String) := [("CopperNets", 106, "CopperNets$Pieces", "count", "I", "CopperNets"), ("CopperNets", 127, "CopperNets$Airlines", "count", "I", "CopperNets")]
abbrev b_X_init : ByteArray := prog_1_method_1_code
abbrev y_X_init : MethodName := ⟨"CopperNets", "<init>", "(I)V"⟩
abbrev b_jO_init : ByteArray := object_method_1_code
abbrev y_jO_init : MethodName := ⟨"java/lang/Object", "<init>", "()V"⟩
abbrev b_P_init : ByteArray := prog_5_method_1_code
abbrev y_P_init : MethodName := ⟨"CopperNets$Pieces", "<init>", "()V"⟩
abbrev b_G_init : ByteArray := prog_3_method_1_code
abbrev y_G_init : MethodName := ⟨"CopperNets$Groups", "<init>", "()V"⟩
abbrev b_G_clear : ByteArray := prog_3_method_2_code
abbrev y_G_clear : MethodName := ⟨"CopperNets$Groups", "clear", "()V"⟩
abbrev b_jA_fill : ByteArray := prog_16_method_103_code
abbrev y_jA_fill : MethodName := ⟨"java/util/Arrays", "fill", "([II)V"⟩
abbrev b_A_init : ByteArray := prog_2_method_1_code
abbrev y_A_init : MethodName := ⟨"CopperNets$Airlines", "<init>", "()V"⟩
abbrev b_jM_min_I : ByteArray := prog_12_method_69_code
abbrev y_jM_min_I : MethodName := ⟨"java/lang/Math", "min", "(II)I"⟩
abbrev b_jM_max_I : ByteArray := prog_12_method_65_code
abbrev y_jM_max_I : MethodName := ⟨"java/lang/Math", "max", "(II)I"⟩
abbrev b_X_run : ByteArray := prog_1_method_6_code
abbrev y_X_run : MethodName := ⟨"CopperNets", "run", "()I"⟩
abbrev b_X_leadersBelow : ByteArray := prog_1_method_29_code
abbrev y_X_leadersBelow : MethodName := ⟨"CopperNets", "leadersBelow", "(I)I"⟩
abbrev b_G_leaderOf : ByteArray := prog_3_method_4_code
abbrev y_G_leaderOf : MethodName := ⟨"CopperNets$Groups", "leaderOf", "(I)I"⟩
abbrev b_X_shorts : ByteArray := prog_1_method_10_code
abbrev y_X_shorts : MethodName := ⟨"CopperNets", "shorts", "()I"⟩
abbrev b_X_collectNetBits : ByteArray := prog_1_method_32_code
abbrev y_X_collectNetBits : MethodName := ⟨"CopperNets", "collectNetBits", "()V"⟩
abbrev b_G_has : ByteArray := prog_3_method_3_code
abbrev y_G_has : MethodName := ⟨"CopperNets$Groups", "has", "(I)Z"⟩
abbrev b_X_plannedBit : ByteArray := prog_1_method_31_code
abbrev y_X_plannedBit : MethodName := ⟨"CopperNets", "plannedBit", "(I)I"⟩
abbrev b_X_plannedNet : ByteArray := prog_1_method_30_code
abbrev y_X_plannedNet : MethodName := ⟨"CopperNets", "plannedNet", "(I)I"⟩
abbrev b_P_pinOf : ByteArray := prog_5_method_8_code
abbrev y_P_pinOf : MethodName := ⟨"CopperNets$Pieces", "pinOf", "(I)I"⟩
abbrev b_X_isShort : ByteArray := prog_1_method_33_code
abbrev y_X_isShort : MethodName := ⟨"CopperNets", "isShort", "(I)Z"⟩
abbrev b_jI_bitCount : ByteArray := prog_11_method_49_code
abbrev y_jI_bitCount : MethodName := ⟨"java/lang/Integer", "bitCount", "(I)I"⟩
abbrev b_X_unnamed : ByteArray := prog_1_method_12_code
abbrev y_X_unnamed : MethodName := ⟨"CopperNets", "unnamed", "(I)I"⟩
abbrev b_X_same : ByteArray := prog_1_method_15_code
abbrev y_X_same : MethodName := ⟨"CopperNets", "same", "()Z"⟩
abbrev b_P_isThere : ByteArray := prog_5_method_7_code
abbrev y_P_isThere : MethodName := ⟨"CopperNets$Pieces", "isThere", "(I)Z"⟩
abbrev b_X_enter : ByteArray := prog_1_method_27_code
abbrev y_X_enter : MethodName := ⟨"CopperNets", "enter", "(LCopperNets$Groups;I)V"⟩
abbrev b_G_begin : ByteArray := prog_3_method_5_code
abbrev y_G_begin : MethodName := ⟨"CopperNets$Groups", "begin", "(I)V"⟩
abbrev b_P_touch : ByteArray := prog_5_method_10_code
abbrev y_P_touch : MethodName := ⟨"CopperNets$Pieces", "touch", "(II)Z"⟩
abbrev b_P_square : ByteArray := prog_5_method_11_code
abbrev y_P_square : MethodName := ⟨"CopperNets$Pieces", "square", "(II)J"⟩
abbrev b_P_gap : ByteArray := prog_5_method_12_code
abbrev y_P_gap : MethodName := ⟨"CopperNets$Pieces", "gap", "(JJJJ)J"⟩
abbrev b_G_join : ByteArray := prog_3_method_8_code
abbrev y_G_join : MethodName := ⟨"CopperNets$Groups", "join", "(II)V"⟩
abbrev b_G_isLike : ByteArray := prog_3_method_9_code
abbrev y_G_isLike : MethodName := ⟨"CopperNets$Groups", "isLike", "(LCopperNets$Groups;)Z"⟩
abbrev b_X_unreached : ByteArray := prog_1_method_16_code
abbrev y_X_unreached : MethodName := ⟨"CopperNets", "unreached", "(I)I"⟩
abbrev b_P_hasPadOf : ByteArray := prog_5_method_9_code
abbrev y_P_hasPadOf : MethodName := ⟨"CopperNets$Pieces", "hasPadOf", "(I)Z"⟩
abbrev b_X_exact : ByteArray := prog_1_method_17_code
abbrev y_X_exact : MethodName := ⟨"CopperNets", "exact", "()Z"⟩
abbrev b_X_drawAirlines : ByteArray := prog_1_method_38_code
abbrev y_X_drawAirlines : MethodName := ⟨"CopperNets", "drawAirlines", "(I)V"⟩
abbrev b_A_clear : ByteArray := prog_2_method_2_code
abbrev y_A_clear : MethodName := ⟨"CopperNets$Airlines", "clear", "()V"⟩
abbrev b_A_addPad : ByteArray := prog_2_method_3_code
abbrev y_A_addPad : MethodName := ⟨"CopperNets$Airlines", "addPad", "(I)V"⟩
abbrev b_A_draw : ByteArray := prog_2_method_6_code
abbrev y_A_draw : MethodName := ⟨"CopperNets$Airlines", "draw", "(LCopperNets$Pieces;LCopperNets$Groups;)V"⟩
abbrev b_A_reach : ByteArray := prog_2_method_8_code
abbrev y_A_reach : MethodName := ⟨"CopperNets$Airlines", "reach", "(ILCopperNets$Pieces;LCopperNets$Groups;)V"⟩
abbrev b_A_lookFrom : ByteArray := prog_2_method_9_code
abbrev y_A_lookFrom : MethodName := ⟨"CopperNets$Airlines", "lookFrom", "(ILCopperNets$Pieces;)V"⟩
abbrev b_Q_of : ByteArray := prog_4_method_2_code
abbrev y_Q_of : MethodName := ⟨"CopperNets$Pair", "of", "(JII)J"⟩
abbrev b_jM_min_J : ByteArray := prog_12_method_70_code
abbrev y_jM_min_J : MethodName := ⟨"java/lang/Math", "min", "(JJ)J"⟩
abbrev b_A_nearestPad : ByteArray := prog_2_method_7_code
abbrev y_A_nearestPad : MethodName := ⟨"CopperNets$Airlines", "nearestPad", "()I"⟩
abbrev b_A_insert : ByteArray := prog_2_method_10_code
abbrev y_A_insert : MethodName := ⟨"CopperNets$Airlines", "insert", "(J)V"⟩
abbrev b_L_cell : ByteArray := method_2_code
abbrev y_L_cell : MethodName := ⟨"CopperNetsLaw", "cell", "([II)I"⟩
abbrev b_L_shape : ByteArray := method_3_code
abbrev y_L_shape : MethodName := ⟨"CopperNetsLaw", "shape", "(LCopperNets;IJJJJ[J)I"⟩
abbrev b_X_shape : ByteArray := prog_1_method_2_code
abbrev y_X_shape : MethodName := ⟨"CopperNets", "shape", "(IJJJJ)I"⟩
abbrev b_X_checkLayer : ByteArray := prog_1_method_18_code
abbrev y_X_checkLayer : MethodName := ⟨"CopperNets", "checkLayer", "(I)V"⟩
abbrev b_X_checkPlace : ByteArray := prog_1_method_24_code
abbrev y_X_checkPlace : MethodName := ⟨"CopperNets", "checkPlace", "(JJ)V"⟩
abbrev b_X_checkSize : ByteArray := prog_1_method_25_code
abbrev y_X_checkSize : MethodName := ⟨"CopperNets", "checkSize", "(J)V"⟩
abbrev b_P_isFull : ByteArray := prog_5_method_2_code
abbrev y_P_isFull : MethodName := ⟨"CopperNets$Pieces", "isFull", "()Z"⟩
abbrev b_P_addRectangle : ByteArray := prog_5_method_3_code
abbrev y_P_addRectangle : MethodName := ⟨"CopperNets$Pieces", "addRectangle", "(IJJJJ)I"⟩
abbrev b_P_add : ByteArray := prog_5_method_5_code
abbrev y_P_add : MethodName := ⟨"CopperNets$Pieces", "add", "(III)I"⟩
abbrev b_X_takeIn : ByteArray := prog_1_method_26_code
abbrev y_X_takeIn : MethodName := ⟨"CopperNets", "takeIn", "(I)I"⟩
abbrev b_L_via : ByteArray := method_4_code
abbrev y_L_via : MethodName := ⟨"CopperNetsLaw", "via", "(LCopperNets;IIJJJ[J)I"⟩
abbrev b_X_via : ByteArray := prog_1_method_3_code
abbrev y_X_via : MethodName := ⟨"CopperNets", "via", "(IIJJJ)I"⟩
abbrev b_P_addDisc : ByteArray := prog_5_method_4_code
abbrev y_P_addDisc : MethodName := ⟨"CopperNets$Pieces", "addDisc", "(IIIJJJ)I"⟩
abbrev b_L_pad : ByteArray := method_5_code
abbrev y_L_pad : MethodName := ⟨"CopperNetsLaw", "pad", "(LCopperNets;IIJJJ[J)I"⟩
abbrev b_X_pad : ByteArray := prog_1_method_4_code
abbrev y_X_pad : MethodName := ⟨"CopperNets", "pad", "(IIJJJ)I"⟩
abbrev b_X_checkPin : ByteArray := prog_1_method_19_code
abbrev y_X_checkPin : MethodName := ⟨"CopperNets", "checkPin", "(I)V"⟩
abbrev b_L_plans : ByteArray := method_6_code
abbrev y_L_plans : MethodName := ⟨"CopperNetsLaw", "plans", "(LCopperNets;II[J)I"⟩
abbrev b_X_plans : ByteArray := prog_1_method_5_code
abbrev y_X_plans : MethodName := ⟨"CopperNets", "plans", "(II)Z"⟩
abbrev b_X_isNet : ByteArray := prog_1_method_20_code
abbrev y_X_isNet : MethodName := ⟨"CopperNets", "isNet", "(I)Z"⟩
abbrev b_L_netOf : ByteArray := method_7_code
abbrev y_L_netOf : MethodName := ⟨"CopperNetsLaw", "netOf", "(LCopperNets;I[J)I"⟩
abbrev b_X_netOf : ByteArray := prog_1_method_7_code
abbrev y_X_netOf : MethodName := ⟨"CopperNets", "netOf", "(I)I"⟩
abbrev b_X_checkPiece : ByteArray := prog_1_method_22_code
abbrev y_X_checkPiece : MethodName := ⟨"CopperNets", "checkPiece", "(I)V"⟩
abbrev b_L_opens : ByteArray := method_8_code
abbrev y_L_opens : MethodName := ⟨"CopperNetsLaw", "opens", "(LCopperNets;I[J)I"⟩
abbrev b_X_opens : ByteArray := prog_1_method_8_code
abbrev y_X_opens : MethodName := ⟨"CopperNets", "opens", "(I)I"⟩
abbrev b_X_checkNet : ByteArray := prog_1_method_21_code
abbrev y_X_checkNet : MethodName := ⟨"CopperNets", "checkNet", "(I)V"⟩
abbrev b_L_open : ByteArray := method_9_code
abbrev y_L_open : MethodName := ⟨"CopperNetsLaw", "open", "(LCopperNets;III[J)I"⟩
abbrev b_X_open : ByteArray := prog_1_method_9_code
abbrev y_X_open : MethodName := ⟨"CopperNets", "open", "(III)J"⟩
abbrev b_X_checkWhat : ByteArray := prog_1_method_23_code
abbrev y_X_checkWhat : MethodName := ⟨"CopperNets", "checkWhat", "(II)V"⟩
abbrev b_A_has : ByteArray := prog_2_method_4_code
abbrev y_A_has : MethodName := ⟨"CopperNets$Airlines", "has", "(I)Z"⟩
abbrev b_A_pairAt : ByteArray := prog_2_method_5_code
abbrev y_A_pairAt : MethodName := ⟨"CopperNets$Airlines", "pairAt", "(I)J"⟩
abbrev b_Q_square : ByteArray := prog_4_method_3_code
abbrev y_Q_square : MethodName := ⟨"CopperNets$Pair", "square", "(J)J"⟩
abbrev b_Q_piece : ByteArray := prog_4_method_4_code
abbrev y_Q_piece : MethodName := ⟨"CopperNets$Pair", "piece", "(JI)I"⟩
abbrev b_L_short2 : ByteArray := method_10_code
abbrev y_L_short2 : MethodName := ⟨"CopperNetsLaw", "short2", "(LCopperNets;II[J)I"⟩
abbrev b_X_short2 : ByteArray := prog_1_method_11_code
abbrev y_X_short2 : MethodName := ⟨"CopperNets", "short2", "(II)J"⟩
abbrev b_X_leaderOfShort : ByteArray := prog_1_method_34_code
abbrev y_X_leaderOfShort : MethodName := ⟨"CopperNets", "leaderOfShort", "(I)I"⟩
abbrev b_X_lowestNet : ByteArray := prog_1_method_35_code
abbrev y_X_lowestNet : MethodName := ⟨"CopperNets", "lowestNet", "(I)I"⟩
abbrev b_X_joinThatShorted : ByteArray := prog_1_method_36_code
abbrev y_X_joinThatShorted : MethodName := ⟨"CopperNets", "joinThatShorted", "(I)J"⟩
abbrev b_X_belowThatShorts : ByteArray := prog_1_method_37_code
abbrev y_X_belowThatShorts : MethodName := ⟨"CopperNets", "belowThatShorts", "(I)I"⟩
abbrev b_L_line : ByteArray := method_11_code
abbrev y_L_line : MethodName := ⟨"CopperNetsLaw", "line", "(LCopperNets;III[J)I"⟩
abbrev b_X_line : ByteArray := prog_1_method_13_code
abbrev y_X_line : MethodName := ⟨"CopperNets", "line", "(III)I"⟩
abbrev b_L_drop : ByteArray := method_12_code
abbrev y_L_drop : MethodName := ⟨"CopperNetsLaw", "drop", "(LCopperNets;I[J)I"⟩
abbrev b_X_drop : ByteArray := prog_1_method_14_code
abbrev y_X_drop : MethodName := ⟨"CopperNets", "drop", "(I)Z"⟩
abbrev b_P_remove : ByteArray := prog_5_method_6_code
abbrev y_P_remove : MethodName := ⟨"CopperNets$Pieces", "remove", "(I)V"⟩
abbrev b_X_partWithout : ByteArray := prog_1_method_28_code
abbrev y_X_partWithout : MethodName := ⟨"CopperNets", "partWithout", "(I)V"⟩
abbrev b_G_leave : ByteArray := prog_3_method_6_code
abbrev y_G_leave : MethodName := ⟨"CopperNets$Groups", "leave", "(I)V"⟩
abbrev b_G_follow : ByteArray := prog_3_method_7_code
abbrev y_G_follow : MethodName := ⟨"CopperNets$Groups", "follow", "(II)V"⟩
abbrev b_M_init : ByteArray := prog_7_method_1_code
abbrev y_M_init : MethodName := ⟨"CopperNetsModel", "<init>", "(I)V"⟩
abbrev b_M_thrown : ByteArray := prog_7_method_2_code
abbrev y_M_thrown : MethodName := ⟨"CopperNetsModel", "thrown", "()I"⟩
abbrev b_M_shape : ByteArray := prog_7_method_10_code
abbrev y_M_shape : MethodName := ⟨"CopperNetsModel", "shape", "(IJJJJ)I"⟩
abbrev b_M_isPlace : ByteArray := prog_7_method_7_code
abbrev y_M_isPlace : MethodName := ⟨"CopperNetsModel", "isPlace", "(JJ)Z"⟩
abbrev b_M_isSize : ByteArray := prog_7_method_8_code
abbrev y_M_isSize : MethodName := ⟨"CopperNetsModel", "isSize", "(J)Z"⟩
abbrev b_M_isLayer : ByteArray := prog_7_method_3_code
abbrev y_M_isLayer : MethodName := ⟨"CopperNetsModel", "isLayer", "(I)Z"⟩
abbrev b_M_add : ByteArray := prog_7_method_9_code
abbrev y_M_add : MethodName := ⟨"CopperNetsModel", "add", "(IIJJJJJI)I"⟩
abbrev b_M_via : ByteArray := prog_7_method_11_code
abbrev y_M_via : MethodName := ⟨"CopperNetsModel", "via", "(IIJJJ)I"⟩
abbrev b_M_pad : ByteArray := prog_7_method_12_code
abbrev y_M_pad : MethodName := ⟨"CopperNetsModel", "pad", "(IIJJJ)I"⟩
abbrev b_M_isPin : ByteArray := prog_7_method_5_code
abbrev y_M_isPin : MethodName := ⟨"CopperNetsModel", "isPin", "(I)Z"⟩
abbrev b_M_plans : ByteArray := prog_7_method_13_code
abbrev y_M_plans : MethodName := ⟨"CopperNetsModel", "plans", "(II)Z"⟩
abbrev b_M_isNet : ByteArray := prog_7_method_6_code
abbrev y_M_isNet : MethodName := ⟨"CopperNetsModel", "isNet", "(I)Z"⟩
abbrev b_M_drop : ByteArray := prog_7_method_14_code
abbrev y_M_drop : MethodName := ⟨"CopperNetsModel", "drop", "(I)Z"⟩
abbrev b_M_isPiece : ByteArray := prog_7_method_4_code
abbrev y_M_isPiece : MethodName := ⟨"CopperNetsModel", "isPiece", "(I)Z"⟩
abbrev b_M_run : ByteArray := prog_7_method_19_code
abbrev y_M_run : MethodName := ⟨"CopperNetsModel", "run", "()I"⟩
abbrev b_M_findNets : ByteArray := prog_7_method_18_code
abbrev y_M_findNets : MethodName := ⟨"CopperNetsModel", "findNets", "()I"⟩
abbrev b_M_findLabels : ByteArray := prog_7_method_17_code
abbrev y_M_findLabels : MethodName := ⟨"CopperNetsModel", "findLabels", "()V"⟩
abbrev b_M_touch : ByteArray := prog_7_method_16_code
abbrev y_M_touch : MethodName := ⟨"CopperNetsModel", "touch", "(II)Z"⟩
abbrev b_M_gap : ByteArray := prog_7_method_15_code
abbrev y_M_gap : MethodName := ⟨"CopperNetsModel", "gap", "(JJJJ)J"⟩
abbrev b_M_netOf : ByteArray := prog_7_method_20_code
abbrev y_M_netOf : MethodName := ⟨"CopperNetsModel", "netOf", "(I)I"⟩
abbrev b_M_opens : ByteArray := prog_7_method_28_code
abbrev y_M_opens : MethodName := ⟨"CopperNetsModel", "opens", "(I)I"⟩
abbrev b_M_countOpens : ByteArray := prog_7_method_27_code
abbrev y_M_countOpens : MethodName := ⟨"CopperNetsModel", "countOpens", "(I)I"⟩
abbrev b_M_nextAirline : ByteArray := prog_7_method_25_code
abbrev y_M_nextAirline : MethodName := ⟨"CopperNetsModel", "nextAirline", "(I)Z"⟩
abbrev b_M_planOf : ByteArray := prog_7_method_21_code
abbrev y_M_planOf : MethodName := ⟨"CopperNetsModel", "planOf", "(I)I"⟩
abbrev b_M_open : ByteArray := prog_7_method_29_code
abbrev y_M_open : MethodName := ⟨"CopperNetsModel", "open", "(III)J"⟩
abbrev b_M_findAirline : ByteArray := prog_7_method_26_code
abbrev y_M_findAirline : MethodName := ⟨"CopperNetsModel", "findAirline", "(II)Z"⟩
abbrev b_M_line : ByteArray := prog_7_method_30_code
abbrev y_M_line : MethodName := ⟨"CopperNetsModel", "line", "(III)I"⟩
abbrev b_M_shorts : ByteArray := prog_7_method_32_code
abbrev y_M_shorts : MethodName := ⟨"CopperNetsModel", "shorts", "()I"⟩
abbrev b_M_countShorts : ByteArray := prog_7_method_31_code
abbrev y_M_countShorts : MethodName := ⟨"CopperNetsModel", "countShorts", "()I"⟩
abbrev b_M_netsOf : ByteArray := prog_7_method_22_code
abbrev y_M_netsOf : MethodName := ⟨"CopperNetsModel", "netsOf", "(I)I"⟩
abbrev b_M_isShort : ByteArray := prog_7_method_23_code
abbrev y_M_isShort : MethodName := ⟨"CopperNetsModel", "isShort", "(I)Z"⟩
abbrev b_M_short2 : ByteArray := prog_7_method_36_code
abbrev y_M_short2 : MethodName := ⟨"CopperNetsModel", "short2", "(II)J"⟩
abbrev b_M_shortAt : ByteArray := prog_7_method_33_code
abbrev y_M_shortAt : MethodName := ⟨"CopperNetsModel", "shortAt", "(I)I"⟩
abbrev b_M_lowest : ByteArray := prog_7_method_24_code
abbrev y_M_lowest : MethodName := ⟨"CopperNetsModel", "lowest", "(I)I"⟩
abbrev b_M_findJoin : ByteArray := prog_7_method_35_code
abbrev y_M_findJoin : MethodName := ⟨"CopperNetsModel", "findJoin", "(I)V"⟩
abbrev b_M_netsOfGroup : ByteArray := prog_7_method_34_code
abbrev y_M_netsOfGroup : MethodName := ⟨"CopperNetsModel", "netsOfGroup", "(I)I"⟩
abbrev b_M_unnamed : ByteArray := prog_7_method_37_code
abbrev y_M_unnamed : MethodName := ⟨"CopperNetsModel", "unnamed", "(I)I"⟩
abbrev b_M_unreached : ByteArray := prog_7_method_40_code
abbrev y_M_unreached : MethodName := ⟨"CopperNetsModel", "unreached", "(I)I"⟩
abbrev b_M_unreachedAt : ByteArray := prog_7_method_39_code
abbrev y_M_unreachedAt : MethodName := ⟨"CopperNetsModel", "unreachedAt", "(I)I"⟩
abbrev b_M_hasPad : ByteArray := prog_7_method_38_code
abbrev y_M_hasPad : MethodName := ⟨"CopperNetsModel", "hasPad", "(I)Z"⟩
abbrev b_M_same : ByteArray := prog_7_method_41_code
abbrev y_M_same : MethodName := ⟨"CopperNetsModel", "same", "()Z"⟩
abbrev b_M_exact : ByteArray := prog_7_method_42_code
abbrev y_M_exact : MethodName := ⟨"CopperNetsModel", "exact", "()Z"⟩
end
section
/-! BASE: one list of words for all methods; a judgement that bundles the walk's state; a row an instruction. -/
def cn_tb : List Cond := lw_tbl.filter goodWord
theorem cn_in {w : Cond} (h : w ∈ lw_tbl) (g : goodWord w = true) : w ∈ cn_tb := List.mem_filter.mpr ⟨h, g⟩
theorem cn_t {w : Cond} (i : Nat) (h : tables_1[i]? = some w) (g : goodWord w = true) : w ∈ cn_tb := cn_in (List.mem_append_right _ (List.mem_of_getElem? h)) g
theorem cn_s {w : Cond} (i : Nat) (h : (k2_sels lw_privs)[i]? = some w) (g : goodWord w = true) : w ∈ cn_tb := cn_in (List.mem_append_left _ (List.mem_of_getElem? h)) g
theorem cn_gi {y : MethodName} {b : ByteArray} {n : Nat} {r : Option FieldType} (h : Cond.code y b n r ∈ cn_tb) : GoodIn cn_tb (.code y b n r :: cn_tb) := by
  intro w hw
  have h1 : w ∈ cn_tb := by
    rcases List.mem_cons.mp hw with e | e
    · rw [e]; exact h
    · exact e
  exact ⟨h1, good_of_word (List.mem_filter.mp h1).2⟩
/-- the words on a nest mate's members: they stay true as the tables warm, but are no 'good' words -/
def cn_N (U : State) : Prop := (∀ q ∈ cn_nwM, va_Nw (.methodLinkNest q.1 q.2.1 q.2.2.1 q.2.2.2) U) ∧ ∀ q ∈ cn_nwF, va_Nw (.fieldLinkNest q.1 q.2.1 q.2.2.1 q.2.2.2.1 q.2.2.2.2.1 q.2.2.2.2.2) U
theorem cn_N.warm {s U : State} (hW : s.WarmedH U.vm) (h : cn_N s) : cn_N U := ⟨fun q hq => va_Nw.warmM hW (h.1 q hq), fun q hq => va_Nw.warmF hW (h.2 q hq)⟩
theorem cn_N.same {s U : State} (hv : s.vm = U.vm) (h : cn_N s) : cn_N U := ⟨fun q hq => va_Nw.same rfl hv (h.1 q hq), fun q hq => va_Nw.same rfl hv (h.2 q hq)⟩
abbrev cn_ty (cy : Nat → ClassId) : List (ClassId × FieldType) := [(cy 0, .int), (cy 1, .long), (cy 2, .boolean)]
/-- what stays the same over a method's walk -/
def cn_X (p : Program) (s : State) (m : MethodId) (args : Array Value) (c : Code) (cc : ByteArray) (nL : Nat) (own : String) (D : va_G) (cy : Nat → ClassId) : Prop :=
  p.tables.exec = Jvm.exec ∧ c.code = cc ∧ c.maxLocals = nL ∧ s.vm.findClass own = some m.cls ∧ (∀ w ∈ cn_tb, w.before args s = true) ∧ va_K D cn_cl (cn_ty cy) s ∧ cn_N s
/-- the walk, with its heap and locals said by lists -/
def cg (p : Program) (l : Launch) (e : Env) (R : Room) (s : State) (m : MethodId) (args : Array Value) (below : List Frame) (meth : Method) (c : Code) (D : va_G) (Hi : Heap → List Loc → Prop) (A : Nat → Prop) (nL cells slots : Nat) (Q : State → Prop) (ws : va_W) (pc : Nat) (lv : List (Nat × Value)) (st : List Value) : Prop :=
  ∀ (H : Heap) (locs : List Loc) (ls : Array Slot), va_P D cn_cl ws H → va_D A ws → Hi H locs → lv_has ls nL lv → W p l e R s m args below meth c H locs cells slots Q (F0 m pc ls st)
section CG
variable {p : Program} {l : Launch} {e : Env} {R : Room} {s : State} {m : MethodId} {args : Array Value} {below : List Frame} {meth : Method} {c : Code} {D : va_G} {Hi : Heap → List Loc → Prop} {A : Nat → Prop} {nL cells slots : Nat} {Q : State → Prop} {ws : va_W} {pc : Nat} {lv : List (Nat × Value)} {st : List Value} {cc : ByteArray} {own : String} {cy : Nat → ClassId}
theorem cg_sub (ks : List Nat) {lv' : List (Nat × Value)} (hl : lv_pick lv ks = lv') (k : cg p l e R s m args below meth c D Hi A nL cells slots Q ws pc lv' st) : cg p l e R s m args below meth c D Hi A nL cells slots Q ws pc lv st :=
  fun H locs ls hP hD hS h => k H locs ls hP hD hS (lv_sub h ks hl)
theorem cg_iconst (C : cn_X p s m args c cc nL own D cy) {n : Int} {v : Int32} (hd : decode cc pc = .ok (.iconst n, 1)) (hv : Int32.ofInt n = v) (k : cg p l e R s m args below meth c D Hi A nL cells slots Q ws (pc + 1) lv (.int v :: st)) : cg p l e R s m args below meth c D Hi A nL cells slots Q ws pc lv st :=
  fun H locs ls hP hD hS h => lv_iconst C.1 C.2.1 hd hv (k H locs ls hP hD hS h)
theorem cg_bipush (C : cn_X p s m args c cc nL own D cy) {n : Int} {v : Int32} (hd : decode cc pc = .ok (.bipush n, 2)) (hv : (Int8.ofInt n).toInt32 = v) (k : cg p l e R s m args below meth c D Hi A nL cells slots Q ws (pc + 2) lv (.int v :: st)) : cg p l e R s m args below meth c D Hi A nL cells slots Q ws pc lv st :=
  fun H locs ls hP hD hS h => lv_bipush C.1 C.2.1 hd hv (k H locs ls hP hD hS h)
theorem cg_lconst (C : cn_X p s m args c cc nL own D cy) {n : Fin 2} {v : Int64} (hd : decode cc pc = .ok (.lconst n, 1)) (hv : Int64.ofNat (n : Nat) = v) (k : cg p l e R s m args below meth c D Hi A nL cells slots Q ws (pc + 1) lv (.long v :: st)) : cg p l e R s m args below meth c D Hi A nL cells slots Q ws pc lv st :=
  fun H locs ls hP hD hS h => lv_lconst C.1 C.2.1 hd hv (k H locs ls hP hD hS h)
theorem cg_ldcw (C : cn_X p s m args c cc nL own D cy) {ix : Nat} {v : Int32} (hd : decode cc pc = .ok (.ldc_w ix, 3)) (hw : Cond.constant own ix v ∈ cn_tb) (k : cg p l e R s m args below meth c D Hi A nL cells slots Q ws (pc + 3) lv (.int v :: st)) : cg p l e R s m args below meth c D Hi A nL cells slots Q ws pc lv st :=
  fun H locs ls hP hD hS h => lv_ldcw C.1 C.2.1 C.2.2.2.1 (C.2.2.2.2.1 _ hw) hd (k H locs ls hP hD hS h)
theorem cg_ldc2 (C : cn_X p s m args c cc nL own D cy) {ix : Nat} {v : Int64} (hd : decode cc pc = .ok (.ldc2_w ix, 3)) (hw : Cond.constantLong own ix v ∈ cn_tb) (k : cg p l e R s m args below meth c D Hi A nL cells slots Q ws (pc + 3) lv (.long v :: st)) : cg p l e R s m args below meth c D Hi A nL cells slots Q ws pc lv st :=
  fun H locs ls hP hD hS h => lv_ldc2 C.1 C.2.1 C.2.2.2.1 (C.2.2.2.2.1 _ hw) hd (k H locs ls hP hD hS h)
theorem cg_iload_n (C : cn_X p s m args c cc nL own D cy) {i : Fin 4} {x : Int32} (hd : decode cc pc = .ok (.iload_n i, 1)) (j : Nat) (hj : lv[j]? = some ((i : Nat), .int x)) (k : cg p l e R s m args below meth c D Hi A nL cells slots Q ws (pc + 1) lv (.int x :: st)) : cg p l e R s m args below meth c D Hi A nL cells slots Q ws pc lv st :=
  fun H locs ls hP hD hS h => lv_iload_n C.1 C.2.1 hd rfl (lv_at h j hj) (k H locs ls hP hD hS h)
theorem cg_iload (C : cn_X p s m args c cc nL own D cy) {i : Nat} {x : Int32} (hd : decode cc pc = .ok (.iload i, 2)) (j : Nat) (hj : lv[j]? = some (i, .int x)) (k : cg p l e R s m args below meth c D Hi A nL cells slots Q ws (pc + 2) lv (.int x :: st)) : cg p l e R s m args below meth c D Hi A nL cells slots Q ws pc lv st :=
  fun H locs ls hP hD hS h => lv_iload C.1 C.2.1 hd (lv_at h j hj) (k H locs ls hP hD hS h)
theorem cg_lload_n (C : cn_X p s m args c cc nL own D cy) {i : Fin 4} {x : Int64} (hd : decode cc pc = .ok (.lload_n i, 1)) (j : Nat) (hj : lv[j]? = some ((i : Nat), .long x)) (k : cg p l e R s m args below meth c D Hi A nL cells slots Q ws (pc + 1) lv (.long x :: st)) : cg p l e R s m args below meth c D Hi A nL cells slots Q ws pc lv st :=
  fun H locs ls hP hD hS h => lv_lload_n C.1 C.2.1 hd rfl (lv_at h j hj) (k H locs ls hP hD hS h)
theorem cg_lload (C : cn_X p s m args c cc nL own D cy) {i : Nat} {x : Int64} (hd : decode cc pc = .ok (.lload i, 2)) (j : Nat) (hj : lv[j]? = some (i, .long x)) (k : cg p l e R s m args below meth c D Hi A nL cells slots Q ws (pc + 2) lv (.long x :: st)) : cg p l e R s m args below meth c D Hi A nL cells slots Q ws pc lv st :=
  fun H locs ls hP hD hS h => lv_lload C.1 C.2.1 hd (lv_at h j hj) (k H locs ls hP hD hS h)
theorem cg_aload_n (C : cn_X p s m args c cc nL own D cy) {i : Fin 4} {x : Nat} (hd : decode cc pc = .ok (.aload_n i, 1)) (j : Nat) (hj : lv[j]? = some ((i : Nat), .ref x)) (k : cg p l e R s m args below meth c D Hi A nL cells slots Q ws (pc + 1) lv (.ref x :: st)) : cg p l e R s m args below meth c D Hi A nL cells slots Q ws pc lv st :=
  fun H locs ls hP hD hS h => lv_aload_n C.1 C.2.1 hd rfl (lv_at h j hj) (k H locs ls hP hD hS h)
theorem cg_aload (C : cn_X p s m args c cc nL own D cy) {i : Nat} {x : Nat} (hd : decode cc pc = .ok (.aload i, 2)) (j : Nat) (hj : lv[j]? = some (i, .ref x)) (k : cg p l e R s m args below meth c D Hi A nL cells slots Q ws (pc + 2) lv (.ref x :: st)) : cg p l e R s m args below meth c D Hi A nL cells slots Q ws pc lv st :=
  fun H locs ls hP hD hS h => lv_aload C.1 C.2.1 hd (lv_at h j hj) (k H locs ls hP hD hS h)
abbrev cn_st1 (i : Nat) (v : Value) (lv : List (Nat × Value)) : List (Nat × Value) := (i, v) :: lv.filter (fun q => !(q.1 == i) && !(q.1 + 1 == i && q.2.category == 2))
abbrev cn_st2 (i : Nat) (v : Value) (lv : List (Nat × Value)) : List (Nat × Value) := (i, v) :: lv.filter (fun q => !(q.1 == i) && (!(q.1 == i + 1) && !(q.1 + 1 == i && q.2.category == 2)))
theorem cg_istore_n (C : cn_X p s m args c cc nL own D cy) {i : Fin 4} {x : Int32} {lv' : List (Nat × Value)} (hd : decode cc pc = .ok (.istore_n i, 1)) (hn : (i : Nat) < nL) (hl : cn_st1 i (.int x) lv = lv') (k : cg p l e R s m args below meth c D Hi A nL cells slots Q ws (pc + 1) lv' st) : cg p l e R s m args below meth c D Hi A nL cells slots Q ws pc lv (.int x :: st) :=
  fun H locs ls hP hD hS h => lv_istore_n C.1 C.2.1 hd rfl h hn hl (fun ls' h' => k H locs ls' hP hD hS h')
theorem cg_istore (C : cn_X p s m args c cc nL own D cy) {i : Nat} {x : Int32} {lv' : List (Nat × Value)} (hd : decode cc pc = .ok (.istore i, 2)) (hn : i < nL) (hl : cn_st1 i (.int x) lv = lv') (k : cg p l e R s m args below meth c D Hi A nL cells slots Q ws (pc + 2) lv' st) : cg p l e R s m args below meth c D Hi A nL cells slots Q ws pc lv (.int x :: st) :=
  fun H locs ls hP hD hS h => lv_istore C.1 C.2.1 hd h hn hl (fun ls' h' => k H locs ls' hP hD hS h')
theorem cg_lstore_n (C : cn_X p s m args c cc nL own D cy) {i : Fin 4} {x : Int64} {lv' : List (Nat × Value)} (hd : decode cc pc = .ok (.lstore_n i, 1)) (hn : (i : Nat) + 1 < nL) (hl : cn_st2 i (.long x) lv = lv') (k : cg p l e R s m args below meth c D Hi A nL cells slots Q ws (pc + 1) lv' st) : cg p l e R s m args below meth c D Hi A nL cells slots Q ws pc lv (.long x :: st) :=
  fun H locs ls hP hD hS h => lv_lstore_n C.1 C.2.1 hd rfl h hn hl (fun ls' h' => k H locs ls' hP hD hS h')
theorem cg_lstore (C : cn_X p s m args c cc nL own D cy) {i : Nat} {x : Int64} {lv' : List (Nat × Value)} (hd : decode cc pc = .ok (.lstore i, 2)) (hn : i + 1 < nL) (hl : cn_st2 i (.long x) lv = lv') (k : cg p l e R s m args below meth c D Hi A nL cells slots Q ws (pc + 2) lv' st) : cg p l e R s m args below meth c D Hi A nL cells slots Q ws pc lv (.long x :: st) :=
  fun H locs ls hP hD hS h => lv_lstore C.1 C.2.1 hd h hn hl (fun ls' h' => k H locs ls' hP hD hS h')
theorem cg_astore_n (C : cn_X p s m args c cc nL own D cy) {i : Fin 4} {x : Nat} {lv' : List (Nat × Value)} (hd : decode cc pc = .ok (.astore_n i, 1)) (hn : (i : Nat) < nL) (hl : cn_st1 i (.ref x) lv = lv') (k : cg p l e R s m args below meth c D Hi A nL cells slots Q ws (pc + 1) lv' st) : cg p l e R s m args below meth c D Hi A nL cells slots Q ws pc lv (.ref x :: st) :=
  fun H locs ls hP hD hS h => lv_astore_n C.1 C.2.1 hd rfl h hn hl (fun ls' h' => k H locs ls' hP hD hS h')
theorem cg_astore (C : cn_X p s m args c cc nL own D cy) {i : Nat} {x : Nat} {lv' : List (Nat × Value)} (hd : decode cc pc = .ok (.astore i, 2)) (hn : i < nL) (hl : cn_st1 i (.ref x) lv = lv') (k : cg p l e R s m args below meth c D Hi A nL cells slots Q ws (pc + 2) lv' st) : cg p l e R s m args below meth c D Hi A nL cells slots Q ws pc lv (.ref x :: st) :=
  fun H locs ls hP hD hS h => lv_astore C.1 C.2.1 hd h hn hl (fun ls' h' => k H locs ls' hP hD hS h')
theorem cg_iinc (C : cn_X p s m args c cc nL own D cy) {i : Nat} {n : Int} {x v : Int32} {lv' : List (Nat × Value)} (hd : decode cc pc = .ok (.iinc i n, 3)) (j : Nat) (hj : lv[j]? = some (i, .int x)) (hn : i < nL) (hv : x + Int32.ofInt n = v) (hl : cn_st1 i (.int v) lv = lv') (k : cg p l e R s m args below meth c D Hi A nL cells slots Q ws (pc + 3) lv' st) : cg p l e R s m args below meth c D Hi A nL cells slots Q ws pc lv st :=
  fun H locs ls hP hD hS h => lv_iinc C.1 C.2.1 hd h hj hv hn hl (fun ls' h' => k H locs ls' hP hD hS h')
theorem cg_dup (C : cn_X p s m args c cc nL own D cy) {v : Value} (hd : decode cc pc = .ok (.dup, 1)) (hv : v.category = 1) (k : cg p l e R s m args below meth c D Hi A nL cells slots Q ws (pc + 1) lv (v :: v :: st)) : cg p l e R s m args below meth c D Hi A nL cells slots Q ws pc lv (v :: st) :=
  fun H locs ls hP hD hS h => lv_dup C.1 C.2.1 hd hv (k H locs ls hP hD hS h)
theorem cg_pop (C : cn_X p s m args c cc nL own D cy) {v : Value} (hd : decode cc pc = .ok (.pop, 1)) (hv : v.category = 1) (k : cg p l e R s m args below meth c D Hi A nL cells slots Q ws (pc + 1) lv st) : cg p l e R s m args below meth c D Hi A nL cells slots Q ws pc lv (v :: st) :=
  fun H locs ls hP hD hS h => lv_pop C.1 C.2.1 hd hv (k H locs ls hP hD hS h)
theorem cg_dup2 (C : cn_X p s m args c cc nL own D cy) {v w : Value} (hd : decode cc pc = .ok (.dup2, 1)) (hv : v.category = 1) (hw : w.category = 1) (k : cg p l e R s m args below meth c D Hi A nL cells slots Q ws (pc + 1) lv (v :: w :: v :: w :: st)) : cg p l e R s m args below meth c D Hi A nL cells slots Q ws pc lv (v :: w :: st) :=
  fun H locs ls hP hD hS h => lv_dup2_11 C.1 C.2.1 hd hv hw (k H locs ls hP hD hS h)
theorem cg_goto (C : cn_X p s m args c cc nL own D cy) {off : Int} (tgt : Nat) (hd : decode cc pc = .ok (.goto off, 3)) (ht : (pc : Int) + off = (tgt : Int)) (k : cg p l e R s m args below meth c D Hi A nL cells slots Q ws tgt lv st) : cg p l e R s m args below meth c D Hi A nL cells slots Q ws pc lv st :=
  fun H locs ls hP hD hS h => lv_goto C.1 C.2.1 hd ht (k H locs ls hP hD hS h)
theorem cg_iadd (C : cn_X p s m args c cc nL own D cy) {x y : Int32} (hd : decode cc pc = .ok (.iadd, 1)) (k : cg p l e R s m args below meth c D Hi A nL cells slots Q ws (pc + 1) lv (.int (x + y) :: st)) : cg p l e R s m args below meth c D Hi A nL cells slots Q ws pc lv (.int y :: .int x :: st) :=
  fun H locs ls hP hD hS h => lv_iadd C.1 C.2.1 hd (k H locs ls hP hD hS h)
theorem cg_isub (C : cn_X p s m args c cc nL own D cy) {x y : Int32} (hd : decode cc pc = .ok (.isub, 1)) (k : cg p l e R s m args below meth c D Hi A nL cells slots Q ws (pc + 1) lv (.int (x - y) :: st)) : cg p l e R s m args below meth c D Hi A nL cells slots Q ws pc lv (.int y :: .int x :: st) :=
  fun H locs ls hP hD hS h => lv_isub C.1 C.2.1 hd (k H locs ls hP hD hS h)
theorem cg_imul (C : cn_X p s m args c cc nL own D cy) {x y : Int32} (hd : decode cc pc = .ok (.imul, 1)) (k : cg p l e R s m args below meth c D Hi A nL cells slots Q ws (pc + 1) lv (.int (x * y) :: st)) : cg p l e R s m args below meth c D Hi A nL cells slots Q ws pc lv (.int y :: .int x :: st) :=
  fun H locs ls hP hD hS h => lv_imul C.1 C.2.1 hd (k H locs ls hP hD hS h)
theorem cg_iand (C : cn_X p s m args c cc nL own D cy) {x y : Int32} (hd : decode cc pc = .ok (.iand, 1)) (k : cg p l e R s m args below meth c D Hi A nL cells slots Q ws (pc + 1) lv (.int (x &&& y) :: st)) : cg p l e R s m args below meth c D Hi A nL cells slots Q ws pc lv (.int y :: .int x :: st) :=
  fun H locs ls hP hD hS h => lv_iand C.1 C.2.1 hd (k H locs ls hP hD hS h)
theorem cg_ior (C : cn_X p s m args c cc nL own D cy) {x y : Int32} (hd : decode cc pc = .ok (.ior, 1)) (k : cg p l e R s m args below meth c D Hi A nL cells slots Q ws (pc + 1) lv (.int (x ||| y) :: st)) : cg p l e R s m args below meth c D Hi A nL cells slots Q ws pc lv (.int y :: .int x :: st) :=
  fun H locs ls hP hD hS h => lv_ior C.1 C.2.1 hd (k H locs ls hP hD hS h)
theorem cg_ixor (C : cn_X p s m args c cc nL own D cy) {x y : Int32} (hd : decode cc pc = .ok (.ixor, 1)) (k : cg p l e R s m args below meth c D Hi A nL cells slots Q ws (pc + 1) lv (.int (x ^^^ y) :: st)) : cg p l e R s m args below meth c D Hi A nL cells slots Q ws pc lv (.int y :: .int x :: st) :=
  fun H locs ls hP hD hS h => lv_ixor C.1 C.2.1 hd (k H locs ls hP hD hS h)
theorem cg_ishl (C : cn_X p s m args c cc nL own D cy) {x y : Int32} (hd : decode cc pc = .ok (.ishl, 1)) (k : cg p l e R s m args below meth c D Hi A nL cells slots Q ws (pc + 1) lv (.int (x <<< (y &&& 31)) :: st)) : cg p l e R s m args below meth c D Hi A nL cells slots Q ws pc lv (.int y :: .int x :: st) :=
  fun H locs ls hP hD hS h => lv_ishl C.1 C.2.1 hd (k H locs ls hP hD hS h)
theorem cg_ishr (C : cn_X p s m args c cc nL own D cy) {x y : Int32} (hd : decode cc pc = .ok (.ishr, 1)) (k : cg p l e R s m args below meth c D Hi A nL cells slots Q ws (pc + 1) lv (.int (x >>> (y &&& 31)) :: st)) : cg p l e R s m args below meth c D Hi A nL cells slots Q ws pc lv (.int y :: .int x :: st) :=
  fun H locs ls hP hD hS h => lv_ishr C.1 C.2.1 hd (k H locs ls hP hD hS h)
theorem cg_ladd (C : cn_X p s m args c cc nL own D cy) {x y : Int64} (hd : decode cc pc = .ok (.ladd, 1)) (k : cg p l e R s m args below meth c D Hi A nL cells slots Q ws (pc + 1) lv (.long (x + y) :: st)) : cg p l e R s m args below meth c D Hi A nL cells slots Q ws pc lv (.long y :: .long x :: st) :=
  fun H locs ls hP hD hS h => lv_ladd C.1 C.2.1 hd (k H locs ls hP hD hS h)
theorem cg_lsub (C : cn_X p s m args c cc nL own D cy) {x y : Int64} (hd : decode cc pc = .ok (.lsub, 1)) (k : cg p l e R s m args below meth c D Hi A nL cells slots Q ws (pc + 1) lv (.long (x - y) :: st)) : cg p l e R s m args below meth c D Hi A nL cells slots Q ws pc lv (.long y :: .long x :: st) :=
  fun H locs ls hP hD hS h => lv_lsub C.1 C.2.1 hd (k H locs ls hP hD hS h)
theorem cg_lmul (C : cn_X p s m args c cc nL own D cy) {x y : Int64} (hd : decode cc pc = .ok (.lmul, 1)) (k : cg p l e R s m args below meth c D Hi A nL cells slots Q ws (pc + 1) lv (.long (x * y) :: st)) : cg p l e R s m args below meth c D Hi A nL cells slots Q ws pc lv (.long y :: .long x :: st) :=
  fun H locs ls hP hD hS h => lv_lmul C.1 C.2.1 hd (k H locs ls hP hD hS h)
theorem cg_land (C : cn_X p s m args c cc nL own D cy) {x y : Int64} (hd : decode cc pc = .ok (.land, 1)) (k : cg p l e R s m args below meth c D Hi A nL cells slots Q ws (pc + 1) lv (.long (x &&& y) :: st)) : cg p l e R s m args below meth c D Hi A nL cells slots Q ws pc lv (.long y :: .long x :: st) :=
  fun H locs ls hP hD hS h => lv_land C.1 C.2.1 hd (k H locs ls hP hD hS h)
theorem cg_lor (C : cn_X p s m args c cc nL own D cy) {x y : Int64} (hd : decode cc pc = .ok (.lor, 1)) (k : cg p l e R s m args below meth c D Hi A nL cells slots Q ws (pc + 1) lv (.long (x ||| y) :: st)) : cg p l e R s m args below meth c D Hi A nL cells slots Q ws pc lv (.long y :: .long x :: st) :=
  fun H locs ls hP hD hS h => lv_lor C.1 C.2.1 hd (k H locs ls hP hD hS h)
theorem cg_lxor (C : cn_X p s m args c cc nL own D cy) {x y : Int64} (hd : decode cc pc = .ok (.lxor, 1)) (k : cg p l e R s m args below meth c D Hi A nL cells slots Q ws (pc + 1) lv (.long (x ^^^ y) :: st)) : cg p l e R s m args below meth c D Hi A nL cells slots Q ws pc lv (.long y :: .long x :: st) :=
  fun H locs ls hP hD hS h => lv_lxor C.1 C.2.1 hd (k H locs ls hP hD hS h)
theorem cg_iushr (C : cn_X p s m args c cc nL own D cy) {x y : Int32} (hd : decode cc pc = .ok (.iushr, 1)) (k : cg p l e R s m args below meth c D Hi A nL cells slots Q ws (pc + 1) lv (.int ((x.toUInt32 >>> (y.toUInt32 &&& Int32.toUInt32 31)).toInt32) :: st)) : cg p l e R s m args below meth c D Hi A nL cells slots Q ws pc lv (.int y :: .int x :: st) :=
  fun H locs ls hP hD hS h => lv_iushr C.1 C.2.1 hd rfl (k H locs ls hP hD hS h)
theorem cg_lshl (C : cn_X p s m args c cc nL own D cy) {x : Int64} {y : Int32} (hd : decode cc pc = .ok (.lshl, 1)) (k : cg p l e R s m args below meth c D Hi A nL cells slots Q ws (pc + 1) lv (.long (x <<< (y.toInt64 &&& 63)) :: st)) : cg p l e R s m args below meth c D Hi A nL cells slots Q ws pc lv (.int y :: .long x :: st) :=
  fun H locs ls hP hD hS h => lv_lshl C.1 C.2.1 hd rfl (k H locs ls hP hD hS h)
theorem cg_lshr (C : cn_X p s m args c cc nL own D cy) {x : Int64} {y : Int32} (hd : decode cc pc = .ok (.lshr, 1)) (k : cg p l e R s m args below meth c D Hi A nL cells slots Q ws (pc + 1) lv (.long (x >>> (y.toInt64 &&& 63)) :: st)) : cg p l e R s m args below meth c D Hi A nL cells slots Q ws pc lv (.int y :: .long x :: st) :=
  fun H locs ls hP hD hS h => lv_lshr C.1 C.2.1 hd rfl (k H locs ls hP hD hS h)
theorem cg_i2l (C : cn_X p s m args c cc nL own D cy) {x : Int32} (hd : decode cc pc = .ok (.i2l, 1)) (k : cg p l e R s m args below meth c D Hi A nL cells slots Q ws (pc + 1) lv (.long x.toInt64 :: st)) : cg p l e R s m args below meth c D Hi A nL cells slots Q ws pc lv (.int x :: st) :=
  fun H locs ls hP hD hS h => lv_i2l C.1 C.2.1 hd rfl (k H locs ls hP hD hS h)
theorem cg_l2i (C : cn_X p s m args c cc nL own D cy) {x : Int64} (hd : decode cc pc = .ok (.l2i, 1)) (k : cg p l e R s m args below meth c D Hi A nL cells slots Q ws (pc + 1) lv (.int x.toInt32 :: st)) : cg p l e R s m args below meth c D Hi A nL cells slots Q ws pc lv (.long x :: st) :=
  fun H locs ls hP hD hS h => lv_l2i C.1 C.2.1 hd rfl (k H locs ls hP hD hS h)
theorem cg_lcmp (C : cn_X p s m args c cc nL own D cy) {x y : Int64} (hd : decode cc pc = .ok (.lcmp, 1)) (k : cg p l e R s m args below meth c D Hi A nL cells slots Q ws (pc + 1) lv (.int (lg_cmp x y) :: st)) : cg p l e R s m args below meth c D Hi A nL cells slots Q ws pc lv (.long y :: .long x :: st) :=
  fun H locs ls hP hD hS h => W.lcmp C.1 C.2.1 hd (k H locs ls hP hD hS h)
theorem cg_if_eq (C : cn_X p s m args c cc nL own D cy) {x : Int32} {off : Int} (tgt : Nat) (hd : decode cc pc = .ok (.ifCond .eq off, 3)) (ht : (pc : Int) + off = (tgt : Int)) (kt : x = 0 → cg p l e R s m args below meth c D Hi A nL cells slots Q ws tgt lv st) (kf : ¬ x = 0 → cg p l e R s m args below meth c D Hi A nL cells slots Q ws (pc + 3) lv st) : cg p l e R s m args below meth c D Hi A nL cells slots Q ws pc lv (.int x :: st) :=
  fun H locs ls hP hD hS h => lv_if_eq C.1 C.2.1 hd ht (fun q => kt q H locs ls hP hD hS h) (fun q => kf q H locs ls hP hD hS h)
theorem cg_if_ne (C : cn_X p s m args c cc nL own D cy) {x : Int32} {off : Int} (tgt : Nat) (hd : decode cc pc = .ok (.ifCond .ne off, 3)) (ht : (pc : Int) + off = (tgt : Int)) (kt : ¬ x = 0 → cg p l e R s m args below meth c D Hi A nL cells slots Q ws tgt lv st) (kf : x = 0 → cg p l e R s m args below meth c D Hi A nL cells slots Q ws (pc + 3) lv st) : cg p l e R s m args below meth c D Hi A nL cells slots Q ws pc lv (.int x :: st) :=
  fun H locs ls hP hD hS h => lv_if_ne C.1 C.2.1 hd ht (fun q => kt q H locs ls hP hD hS h) (fun q => kf q H locs ls hP hD hS h)
theorem cg_if_lt (C : cn_X p s m args c cc nL own D cy) {x : Int32} {off : Int} (tgt : Nat) (hd : decode cc pc = .ok (.ifCond .lt off, 3)) (ht : (pc : Int) + off = (tgt : Int)) (kt : x < 0 → cg p l e R s m args below meth c D Hi A nL cells slots Q ws tgt lv st) (kf : ¬ x < 0 → cg p l e R s m args below meth c D Hi A nL cells slots Q ws (pc + 3) lv st) : cg p l e R s m args below meth c D Hi A nL cells slots Q ws pc lv (.int x :: st) :=
  fun H locs ls hP hD hS h => lv_if_lt C.1 C.2.1 hd ht (fun q => kt q H locs ls hP hD hS h) (fun q => kf q H locs ls hP hD hS h)
theorem cg_if_ge (C : cn_X p s m args c cc nL own D cy) {x : Int32} {off : Int} (tgt : Nat) (hd : decode cc pc = .ok (.ifCond .ge off, 3)) (ht : (pc : Int) + off = (tgt : Int)) (kt : 0 ≤ x → cg p l e R s m args below meth c D Hi A nL cells slots Q ws tgt lv st) (kf : ¬ 0 ≤ x → cg p l e R s m args below meth c D Hi A nL cells slots Q ws (pc + 3) lv st) : cg p l e R s m args below meth c D Hi A nL cells slots Q ws pc lv (.int x :: st) :=
  fun H locs ls hP hD hS h => lv_if_ge C.1 C.2.1 hd ht (fun q => kt q H locs ls hP hD hS h) (fun q => kf q H locs ls hP hD hS h)
theorem cg_if_gt (C : cn_X p s m args c cc nL own D cy) {x : Int32} {off : Int} (tgt : Nat) (hd : decode cc pc = .ok (.ifCond .gt off, 3)) (ht : (pc : Int) + off = (tgt : Int)) (kt : 0 < x → cg p l e R s m args below meth c D Hi A nL cells slots Q ws tgt lv st) (kf : ¬ 0 < x → cg p l e R s m args below meth c D Hi A nL cells slots Q ws (pc + 3) lv st) : cg p l e R s m args below meth c D Hi A nL cells slots Q ws pc lv (.int x :: st) :=
  fun H locs ls hP hD hS h => lv_if_gt C.1 C.2.1 hd ht (fun q => kt q H locs ls hP hD hS h) (fun q => kf q H locs ls hP hD hS h)
theorem cg_if_le (C : cn_X p s m args c cc nL own D cy) {x : Int32} {off : Int} (tgt : Nat) (hd : decode cc pc = .ok (.ifCond .le off, 3)) (ht : (pc : Int) + off = (tgt : Int)) (kt : x ≤ 0 → cg p l e R s m args below meth c D Hi A nL cells slots Q ws tgt lv st) (kf : ¬ x ≤ 0 → cg p l e R s m args below meth c D Hi A nL cells slots Q ws (pc + 3) lv st) : cg p l e R s m args below meth c D Hi A nL cells slots Q ws pc lv (.int x :: st) :=
  fun H locs ls hP hD hS h => lv_if_le C.1 C.2.1 hd ht (fun q => kt q H locs ls hP hD hS h) (fun q => kf q H locs ls hP hD hS h)
theorem cg_icmp_eq (C : cn_X p s m args c cc nL own D cy) {x y : Int32} {off : Int} (tgt : Nat) (hd : decode cc pc = .ok (.if_icmp .eq off, 3)) (ht : (pc : Int) + off = (tgt : Int)) (kt : x = y → cg p l e R s m args below meth c D Hi A nL cells slots Q ws tgt lv st) (kf : ¬ x = y → cg p l e R s m args below meth c D Hi A nL cells slots Q ws (pc + 3) lv st) : cg p l e R s m args below meth c D Hi A nL cells slots Q ws pc lv (.int y :: .int x :: st) :=
  fun H locs ls hP hD hS h => lv_icmp_eq C.1 C.2.1 hd ht (fun q => kt q H locs ls hP hD hS h) (fun q => kf q H locs ls hP hD hS h)
theorem cg_icmp_ne (C : cn_X p s m args c cc nL own D cy) {x y : Int32} {off : Int} (tgt : Nat) (hd : decode cc pc = .ok (.if_icmp .ne off, 3)) (ht : (pc : Int) + off = (tgt : Int)) (kt : ¬ x = y → cg p l e R s m args below meth c D Hi A nL cells slots Q ws tgt lv st) (kf : x = y → cg p l e R s m args below meth c D Hi A nL cells slots Q ws (pc + 3) lv st) : cg p l e R s m args below meth c D Hi A nL cells slots Q ws pc lv (.int y :: .int x :: st) :=
  fun H locs ls hP hD hS h => lv_icmp_ne C.1 C.2.1 hd ht (fun q => kt q H locs ls hP hD hS h) (fun q => kf q H locs ls hP hD hS h)
theorem cg_icmp_lt (C : cn_X p s m args c cc nL own D cy) {x y : Int32} {off : Int} (tgt : Nat) (hd : decode cc pc = .ok (.if_icmp .lt off, 3)) (ht : (pc : Int) + off = (tgt : Int)) (kt : x < y → cg p l e R s m args below meth c D Hi A nL cells slots Q ws tgt lv st) (kf : ¬ x < y → cg p l e R s m args below meth c D Hi A nL cells slots Q ws (pc + 3) lv st) : cg p l e R s m args below meth c D Hi A nL cells slots Q ws pc lv (.int y :: .int x :: st) :=
  fun H locs ls hP hD hS h => lv_icmp_lt C.1 C.2.1 hd ht (fun q => kt q H locs ls hP hD hS h) (fun q => kf q H locs ls hP hD hS h)
theorem cg_icmp_ge (C : cn_X p s m args c cc nL own D cy) {x y : Int32} {off : Int} (tgt : Nat) (hd : decode cc pc = .ok (.if_icmp .ge off, 3)) (ht : (pc : Int) + off = (tgt : Int)) (kt : y ≤ x → cg p l e R s m args below meth c D Hi A nL cells slots Q ws tgt lv st) (kf : ¬ y ≤ x → cg p l e R s m args below meth c D Hi A nL cells slots Q ws (pc + 3) lv st) : cg p l e R s m args below meth c D Hi A nL cells slots Q ws pc lv (.int y :: .int x :: st) :=
  fun H locs ls hP hD hS h => lv_icmp_ge C.1 C.2.1 hd ht (fun q => kt q H locs ls hP hD hS h) (fun q => kf q H locs ls hP hD hS h)
theorem cg_icmp_gt (C : cn_X p s m args c cc nL own D cy) {x y : Int32} {off : Int} (tgt : Nat) (hd : decode cc pc = .ok (.if_icmp .gt off, 3)) (ht : (pc : Int) + off = (tgt : Int)) (kt : y < x → cg p l e R s m args below meth c D Hi A nL cells slots Q ws tgt lv st) (kf : ¬ y < x → cg p l e R s m args below meth c D Hi A nL cells slots Q ws (pc + 3) lv st) : cg p l e R s m args below meth c D Hi A nL cells slots Q ws pc lv (.int y :: .int x :: st) :=
  fun H locs ls hP hD hS h => lv_icmp_gt C.1 C.2.1 hd ht (fun q => kt q H locs ls hP hD hS h) (fun q => kf q H locs ls hP hD hS h)
theorem cg_icmp_le (C : cn_X p s m args c cc nL own D cy) {x y : Int32} {off : Int} (tgt : Nat) (hd : decode cc pc = .ok (.if_icmp .le off, 3)) (ht : (pc : Int) + off = (tgt : Int)) (kt : x ≤ y → cg p l e R s m args below meth c D Hi A nL cells slots Q ws tgt lv st) (kf : ¬ x ≤ y → cg p l e R s m args below meth c D Hi A nL cells slots Q ws (pc + 3) lv st) : cg p l e R s m args below meth c D Hi A nL cells slots Q ws pc lv (.int y :: .int x :: st) :=
  fun H locs ls hP hD hS h => lv_icmp_le C.1 C.2.1 hd ht (fun q => kt q H locs ls hP hD hS h) (fun q => kf q H locs ls hP hD hS h)
theorem cg_get (C : cn_X p s m args c cc nL own D cy) {T : u_T} {N ci ix a : Nat} {O n d : String} (q0 : Nat) {fs : List Value} (k0 : Nat) {v : Value} (hd : decode cc pc = .ok (.getfield ix, 3)) (he : ws[q0]? = some (a, .inr (ci, fs))) (hc : cn_cl[ci]? = some (O, T, N)) (hin : ∀ w ∈ u_ws O T N, w ∈ cn_tb) (hk : k0 < N) (hT : T k0 = (O, n, d, (T k0).2.2.2)) (hw : Cond.fieldLink own ix O n d ∈ cn_tb) (hv : fs[k0]? = some v) (k : cg p l e R s m args below meth c D Hi A nL cells slots Q ws (pc + 3) lv (v :: st)) : cg p l e R s m args below meth c D Hi A nL cells slots Q ws pc lv (.ref a :: st) :=
  fun H locs ls hP hD hS h => va_get (ref := O) C.1 C.2.1 C.2.2.2.2.1 hin C.2.2.2.1 C.2.2.2.2.2.1 hP q0 he hc k0 hk (by rw [hT]; exact C.2.2.2.2.1 _ hw) (by rw [hT]; exact fun x hx => hx) hv hd (k H locs ls hP hD hS h)
theorem cg_getN (C : cn_X p s m args c cc nL own D cy) {T : u_T} {N ci ix a : Nat} {O n d host : String} (q0 : Nat) {fs : List Value} (k0 : Nat) {v : Value} (hd : decode cc pc = .ok (.getfield ix, 3)) (he : ws[q0]? = some (a, .inr (ci, fs))) (hc : cn_cl[ci]? = some (O, T, N)) (hin : ∀ w ∈ u_ws O T N, w ∈ cn_tb) (hk : k0 < N) (hT : T k0 = (O, n, d, (T k0).2.2.2)) (hw : (own, ix, O, n, d, host) ∈ cn_nwF) (hv : fs[k0]? = some v) (k : cg p l e R s m args below meth c D Hi A nL cells slots Q ws (pc + 3) lv (v :: st)) : cg p l e R s m args below meth c D Hi A nL cells slots Q ws pc lv (.ref a :: st) :=
  fun H locs ls hP hD hS h => va_getN (ref := O) (host := host) C.1 C.2.1 C.2.2.2.2.1 hin C.2.2.2.1 C.2.2.2.2.2.1 hP q0 he hc k0 hk (by rw [hT]; exact va_Nw.use rfl (C.2.2.2.2.2.2.2 _ hw)) (by rw [hT]; exact fun x hx => hx) hv hd (k H locs ls hP hD hS h)
theorem cg_put (C : cn_X p s m args c cc nL own D cy) {T : u_T} {N ci ix a : Nat} {O n d : String} (q0 : Nat) {fs : List Value} (k0 : Nat) {v : Value} {ws' : va_W} (ty0 : Nat → FieldType) (hd : decode cc pc = .ok (.putfield ix, 3)) (he : ws[q0]? = some (a, .inr (ci, fs))) (hc : cn_cl[ci]? = some (O, T, N)) (hin : ∀ w ∈ u_ws O T N, w ∈ cn_tb) (hty : ∀ k, k < N → parseFieldDescriptor (T k).2.2.1 = some (ty0 k)) (hnm : ∀ a, a < N → ∀ b, b < N → a ≠ b → (T a).2.1 ≠ (T b).2.1) (hk : k0 < N) (hT : T k0 = (O, n, d, false)) (hw : Cond.fieldLink own ix O n d ∈ cn_tb) (hn : narrow (ty0 k0) v = v) (hf : fits (ty0 k0) v = true) (hl : k0 < fs.length) (hws : ws.set q0 (a, .inr (ci, fs.set k0 v)) = ws') (k : cg p l e R s m args below meth c D (va_S A s.heap) A nL cells slots Q ws' (pc + 3) lv st) : cg p l e R s m args below meth c D (va_S A s.heap) A nL cells slots Q ws pc lv (v :: .ref a :: st) :=
  fun H locs ls hP hD hS h => va_put (ref := O) (ty := ty0 k0) C.1 C.2.1 C.2.2.2.2.1 hin ty0 hty hnm C.2.2.2.1 C.2.2.2.2.2.1 hP hD hS q0 he hc k0 hk (by rw [hT]; exact C.2.2.2.2.1 _ hw) (by rw [hT]; exact fun x hx => hx) (by rw [hT]) (hty k0 hk) hn hf hl hd (fun H1 locs1 h1 h2 h3 => k H1 locs1 ls (by rw [← hws]; exact h1) (by rw [← hws]; exact h2) h3 h)
theorem cg_iald (C : cn_X p s m args c cc nL own D cy) {a n : Nat} {f : Nat → Int32} (q0 : Nat) {i : Int32} (hd : decode cc pc = .ok (.iaload, 1)) (ha : ws[q0]? = some (a, .inl (cy 0, n, .inl f))) (hin : vp_in i n) (k : cg p l e R s m args below meth c D Hi A nL cells slots Q ws (pc + 1) lv (.int (f i.toNatClampNeg) :: st)) : cg p l e R s m args below meth c D Hi A nL cells slots Q ws pc lv (.int i :: .ref a :: st) :=
  fun H locs ls hP hD hS h => va_iald C.1 C.2.1 C.2.2.2.2.2.1 hP q0 0 ha rfl hin hd (k H locs ls hP hD hS h)
theorem cg_zald (C : cn_X p s m args c cc nL own D cy) {a n : Nat} {f : Nat → Int32} (q0 : Nat) {i : Int32} (hd : decode cc pc = .ok (.baload, 1)) (ha : ws[q0]? = some (a, .inl (cy 2, n, .inl f))) (hin : vp_in i n) (k : cg p l e R s m args below meth c D Hi A nL cells slots Q ws (pc + 1) lv (.int (f i.toNatClampNeg) :: st)) : cg p l e R s m args below meth c D Hi A nL cells slots Q ws pc lv (.int i :: .ref a :: st) :=
  fun H locs ls hP hD hS h => va_zald C.1 C.2.1 C.2.2.2.2.2.1 hP q0 2 ha rfl hin hd (k H locs ls hP hD hS h)
theorem cg_lald (C : cn_X p s m args c cc nL own D cy) {a n : Nat} {f : Nat → Int64} (q0 : Nat) {i : Int32} (hd : decode cc pc = .ok (.laload, 1)) (ha : ws[q0]? = some (a, .inl (cy 1, n, .inr (.inl f)))) (hin : vp_in i n) (k : cg p l e R s m args below meth c D Hi A nL cells slots Q ws (pc + 1) lv (.long (f i.toNatClampNeg) :: st)) : cg p l e R s m args below meth c D Hi A nL cells slots Q ws pc lv (.int i :: .ref a :: st) :=
  fun H locs ls hP hD hS h => va_lald C.1 C.2.1 C.2.2.2.2.2.1 hP q0 1 ha rfl hin hd (k H locs ls hP hD hS h)
theorem cg_iast (C : cn_X p s m args c cc nL own D cy) {a n : Nat} {f : Nat → Int32} (q0 : Nat) {i : Int32} {x : Int32} {ws' : va_W} (hd : decode cc pc = .ok (.iastore, 1)) (ha : ws[q0]? = some (a, .inl (cy 0, n, .inl f))) (hin : vp_in i n) (hws : ws.set q0 (a, .inl (cy 0, n, .inl (upd f i.toNatClampNeg x))) = ws') (k : cg p l e R s m args below meth c D (va_S A s.heap) A nL cells slots Q ws' (pc + 1) lv st) : cg p l e R s m args below meth c D (va_S A s.heap) A nL cells slots Q ws pc lv (.int x :: .int i :: .ref a :: st) :=
  fun H locs ls hP hD hS h => va_iast C.1 C.2.1 C.2.2.2.2.2.1 hP hD hS q0 0 ha rfl hin hd (fun H1 locs1 h1 h2 h3 => k H1 locs1 ls (by rw [← hws]; exact h1) (by rw [← hws]; exact h2) h3 h)
theorem cg_zast (C : cn_X p s m args c cc nL own D cy) {a n : Nat} {f : Nat → Int32} (q0 : Nat) {i : Int32} {x : Int32} {ws' : va_W} (hd : decode cc pc = .ok (.bastore, 1)) (ha : ws[q0]? = some (a, .inl (cy 2, n, .inl f))) (hin : vp_in i n) (hws : ws.set q0 (a, .inl (cy 2, n, .inl (upd f i.toNatClampNeg (vp_nar .boolean x)))) = ws') (k : cg p l e R s m args below meth c D (va_S A s.heap) A nL cells slots Q ws' (pc + 1) lv st) : cg p l e R s m args below meth c D (va_S A s.heap) A nL cells slots Q ws pc lv (.int x :: .int i :: .ref a :: st) :=
  fun H locs ls hP hD hS h => va_zast C.1 C.2.1 C.2.2.2.2.2.1 hP hD hS q0 2 ha rfl hin hd (fun H1 locs1 h1 h2 h3 => k H1 locs1 ls (by rw [← hws]; exact h1) (by rw [← hws]; exact h2) h3 h)
theorem cg_last (C : cn_X p s m args c cc nL own D cy) {a n : Nat} {f : Nat → Int64} (q0 : Nat) {i : Int32} {x : Int64} {ws' : va_W} (hd : decode cc pc = .ok (.lastore, 1)) (ha : ws[q0]? = some (a, .inl (cy 1, n, .inr (.inl f)))) (hin : vp_in i n) (hws : ws.set q0 (a, .inl (cy 1, n, .inr (.inl (vp_updL f i.toNatClampNeg x)))) = ws') (k : cg p l e R s m args below meth c D (va_S A s.heap) A nL cells slots Q ws' (pc + 1) lv st) : cg p l e R s m args below meth c D (va_S A s.heap) A nL cells slots Q ws pc lv (.long x :: .int i :: .ref a :: st) :=
  fun H locs ls hP hD hS h => va_last C.1 C.2.1 C.2.2.2.2.2.1 hP hD hS q0 1 ha rfl hin hd (fun H1 locs1 h1 h2 h3 => k H1 locs1 ls (by rw [← hws]; exact h1) (by rw [← hws]; exact h2) h3 h)
theorem cg_alen (C : cn_X p s m args c cc nL own D cy) {a : Nat} {x : vp_A} (q0 t0 : Nat) {cA : ClassId} {ty : FieldType} {v : Int32} (hd : decode cc pc = .ok (.arraylength, 1)) (ha : ws[q0]? = some (a, .inl (cA, x))) (ht : (cn_ty cy)[t0]? = some (cA, ty)) (hv : Int32.ofNat x.1 = v) (k : cg p l e R s m args below meth c D Hi A nL cells slots Q ws (pc + 1) lv (.int v :: st)) : cg p l e R s m args below meth c D Hi A nL cells slots Q ws pc lv (.ref a :: st) :=
  fun H locs ls hP hD hS h => va_alen C.1 C.2.1 C.2.2.2.2.2.1 hP q0 t0 ha ht hv hd (k H locs ls hP hD hS h)
/-! contracts: a method that changes nothing (cn_MR), and one that does (cn_MW); what comes of it is fixed ahead -/
def cn_hi (s : State) : Heap → List Loc → Prop := fun H locs => H = s.heap ∧ locs = []
def cn_QR (v : Option Value) : Array Value → State → Outcome → State → Prop := fun _ st o t => o = .returned v ∧ t.heap = st.heap
def cn_QW (v : Option Value) (D : va_G) (w' : va_W) (A : Nat → Prop) : Array Value → State → Outcome → State → Prop := fun _ st o t => o = .returned v ∧ (va_P D cn_cl w' t.heap ∧ va_D A w') ∧ va_F A st t
def cn_PR (D : va_G) (cy : Nat → ClassId) (av : List Value) (w : va_W) : Array Value → State → Prop := va_Pc av (fun U => va_P D cn_cl w U.heap ∧ va_K D cn_cl (cn_ty cy) U ∧ va_D (fun _ => True) w ∧ cn_N U)
def cn_PW (D : va_G) (cy : Nat → ClassId) (av : List Value) (w : va_W) (sz : Nat) : Array Value → State → Prop := va_Pc av (fun U => U.heap.size = sz ∧ va_P D cn_cl w U.heap ∧ va_K D cn_cl (cn_ty cy) U ∧ va_D (fun _ => True) w ∧ cn_N U)
def cn_MR (l : Launch) (y : MethodName) (b : ByteArray) (n : Nat) (r : Option FieldType) (rm : Room) (D : va_G) (cy : Nat → ClassId) (av : List Value) (w : va_W) (v : Option Value) : Prop := Met l y (.code y b n r :: cn_tb) rm (cn_PR D cy av w) (cn_QR v) 0 0 (fun _ => False)
def cn_MW (l : Launch) (y : MethodName) (b : ByteArray) (n : Nat) (r : Option FieldType) (rm : Room) (D : va_G) (cy : Nat → ClassId) (av : List Value) (w : va_W) (v : Option Value) (w' : va_W) (mc ms : Nat) : Prop := ∀ sz, Met l y (.code y b n r :: cn_tb) rm (cn_PW D cy av w sz) (cn_QW v D w' (va_A w sz)) mc ms (va_A w sz)
theorem cg_iretR (C : cn_X p s m args c cc nL own D cy) {v : Int32} (hr : meth.sig.returnType = some .int) (hlk : meth.locks = false) (hd : decode cc pc = .ok (.ireturn, 1)) : cg p l e R s m args below meth c D (cn_hi s) A nL 0 0 (MQ below (cn_QR (some (.int v))) args s 0 0 (fun _ => False)) ws pc lv [.int v] :=
  fun H locs ls hP hD hS h => W.iret C.1 C.2.1 hr (fun t ht _ => ⟨rfl, by rw [ht, hS.1]⟩) (by rw [hS.2]; exact fun q hq => nomatch hq) hd hlk
theorem cg_zretR (C : cn_X p s m args c cc nL own D cy) {v : Int32} (hr : meth.sig.returnType = some .boolean) (hn : narrow .boolean (.int v) = .int v) (hlk : meth.locks = false) (hd : decode cc pc = .ok (.ireturn, 1)) : cg p l e R s m args below meth c D (cn_hi s) A nL 0 0 (MQ below (cn_QR (some (.int v))) args s 0 0 (fun _ => False)) ws pc lv [.int v] :=
  fun H locs ls hP hD hS h => W.zret C.1 C.2.1 hr hn (fun t ht _ => ⟨rfl, by rw [ht, hS.1]⟩) (by rw [hS.2]; exact fun q hq => nomatch hq) hd hlk
theorem cg_lretR (C : cn_X p s m args c cc nL own D cy) {v : Int64} (hr : meth.sig.returnType = some .long) (hlk : meth.locks = false) (hd : decode cc pc = .ok (.lreturn, 1)) : cg p l e R s m args below meth c D (cn_hi s) A nL 0 0 (MQ below (cn_QR (some (.long v))) args s 0 0 (fun _ => False)) ws pc lv [.long v] :=
  fun H locs ls hP hD hS h => W.lret C.1 C.2.1 hr (fun t ht _ => ⟨rfl, by rw [ht, hS.1]⟩) (by rw [hS.2]; exact fun q hq => nomatch hq) hd hlk
theorem cg_vretR (C : cn_X p s m args c cc nL own D cy) (hr : meth.sig.returnType = none) (hlk : meth.locks = false) (hd : decode cc pc = .ok (.return_, 1)) : cg p l e R s m args below meth c D (cn_hi s) A nL 0 0 (MQ below (cn_QR none) args s 0 0 (fun _ => False)) ws pc lv [] :=
  fun H locs ls hP hD hS h => W.vret C.1 C.2.1 hr (fun t ht _ => ⟨rfl, by rw [ht, hS.1]⟩) (by rw [hS.2]; exact fun q hq => nomatch hq) hd hlk
theorem cg_iretW (C : cn_X p s m args c cc nL own D cy) {v : Int32} (hr : meth.sig.returnType = some .int) (hlk : meth.locks = false) (hd : decode cc pc = .ok (.ireturn, 1)) : cg p l e R s m args below meth c D (va_S A s.heap) A nL cells slots (MQ below (cn_QW (some (.int v)) D ws A) args s cells slots A) ws pc lv [.int v] :=
  fun H locs ls hP hD hS h => W.iret C.1 C.2.1 hr (fun t ht _ => ⟨rfl, ⟨by rw [ht]; exact hP, hD⟩, hS.F ht⟩) hS.2.2 hd hlk
theorem cg_zretW (C : cn_X p s m args c cc nL own D cy) {v : Int32} (hr : meth.sig.returnType = some .boolean) (hn : narrow .boolean (.int v) = .int v) (hlk : meth.locks = false) (hd : decode cc pc = .ok (.ireturn, 1)) : cg p l e R s m args below meth c D (va_S A s.heap) A nL cells slots (MQ below (cn_QW (some (.int v)) D ws A) args s cells slots A) ws pc lv [.int v] :=
  fun H locs ls hP hD hS h => W.zret C.1 C.2.1 hr hn (fun t ht _ => ⟨rfl, ⟨by rw [ht]; exact hP, hD⟩, hS.F ht⟩) hS.2.2 hd hlk
theorem cg_lretW (C : cn_X p s m args c cc nL own D cy) {v : Int64} (hr : meth.sig.returnType = some .long) (hlk : meth.locks = false) (hd : decode cc pc = .ok (.lreturn, 1)) : cg p l e R s m args below meth c D (va_S A s.heap) A nL cells slots (MQ below (cn_QW (some (.long v)) D ws A) args s cells slots A) ws pc lv [.long v] :=
  fun H locs ls hP hD hS h => W.lret C.1 C.2.1 hr (fun t ht _ => ⟨rfl, ⟨by rw [ht]; exact hP, hD⟩, hS.F ht⟩) hS.2.2 hd hlk
theorem cg_vretW (C : cn_X p s m args c cc nL own D cy) (hr : meth.sig.returnType = none) (hlk : meth.locks = false) (hd : decode cc pc = .ok (.return_, 1)) : cg p l e R s m args below meth c D (va_S A s.heap) A nL cells slots (MQ below (cn_QW none D ws A) args s cells slots A) ws pc lv [] :=
  fun H locs ls hP hD hS h => W.vret C.1 C.2.1 hr (fun t ht _ => ⟨rfl, ⟨by rw [ht]; exact hP, hD⟩, hS.F ht⟩) hS.2.2 hd hlk
end CG
theorem cn_MR.of {l : Launch} {y : MethodName} {b : ByteArray} {n : Nat} {r : Option FieldType} {rm : Room} {D : va_G} {cy : Nat → ClassId} {av : List Value} {w : va_W} {v : Option Value} (hy : plainName y.cls = true) (hn : (lg_sl av).length ≤ n)
    (body : ∀ (p : Program) (e : Env) (s : State) (m : MethodId) (below : List Frame) (meth : Method) (c : Code), cn_X p s m av.toArray c b n y.cls D cy → meth.sig.returnType = r → meth.locks = false →
      cg p l e rm s m av.toArray below meth c D (cn_hi s) (fun _ => True) n 0 0 (MQ below (cn_QR v) av.toArray s 0 0 (fun _ => False)) w 0 (lv_args 0 av) []) : cn_MR l y b n r rm D cy av w v := by
  refine Met.ofW (cc := b) (maxL := n) (ret := r) hy rfl ?_
  intro p e s m args below meth c s₁ B hml hv
  obtain ⟨rfl, hP, hK, hD, hN⟩ := hv
  have hts := atoms_spec (ws := .code y b n r :: cn_tb) B.pre
  rw [lg_entry_eq]
  exact body p e s m below meth c ⟨B.exec, B.bytes, hml, findClass_of_methodNamed B.named, fun w hw => hts w (List.mem_cons_of_mem _ hw), hK, hN⟩ B.returns B.notSynchronized s.heap [] _ hP hD ⟨rfl, rfl⟩ (lv_entry av hn)
theorem cn_MW.of {l : Launch} {y : MethodName} {b : ByteArray} {n : Nat} {r : Option FieldType} {rm : Room} {D : va_G} {cy : Nat → ClassId} {av : List Value} {w : va_W} {v : Option Value} {w' : va_W} {mc ms : Nat} (hy : plainName y.cls = true) (hn : (lg_sl av).length ≤ n)
    (body : ∀ (p : Program) (e : Env) (s : State) (m : MethodId) (below : List Frame) (meth : Method) (c : Code) (A : Nat → Prop), cn_X p s m av.toArray c b n y.cls D cy → meth.sig.returnType = r → meth.locks = false → (∀ q, s.heap.size ≤ q → A q) →
      cg p l e rm s m av.toArray below meth c D (va_S A s.heap) A n 0 0 (MQ below (cn_QW v D w' A) av.toArray s mc ms A) w 0 (lv_args 0 av) []) : cn_MW l y b n r rm D cy av w v w' mc ms := by
  intro sz
  refine Met.ofW (cc := b) (maxL := n) (ret := r) hy rfl ?_
  intro p e s m args below meth c s₁ B hml hv
  obtain ⟨rfl, hsz, hP, hK, hD, hN⟩ := hv
  subst hsz
  have hts := atoms_spec (ws := .code y b n r :: cn_tb) B.pre
  rw [lg_entry_eq]
  exact body p e s m below meth c _ ⟨B.exec, B.bytes, hml, findClass_of_methodNamed B.named, fun w hw => hts w (List.mem_cons_of_mem _ hw), hK, hN⟩ B.returns B.notSynchronized (fun q h => Or.inr h) s.heap [] _ hP hD.self va_S.rf (lv_entry av hn)
end
section
/-! CALLS: the callee's cells are picked out of the caller's by places; what changes nothing leaves the world as it was; what changes its own cells leaves the rest as it was -/
theorem cn_at {ws w : va_W} {is : List Nat} (hm : is.map (fun i => ws[i]?) = w.map some) (k : Nat) (q : Nat × va_E) (hq : w[k]? = some q) : ∃ i, is[k]? = some i ∧ ws[i]? = some q := by
  have h1 : (is.map (fun i => ws[i]?))[k]? = some (some q) := by rw [hm, List.getElem?_map, hq]; rfl
  rw [List.getElem?_map] at h1
  cases hi : is[k]? with
  | none => rw [hi] at h1; cases h1
  | some i => rw [hi] at h1; exact ⟨i, rfl, Option.some.inj h1⟩
theorem cn_subP {D : va_G} {ws w : va_W} {H : Heap} {is : List Nat} (hP : va_P D cn_cl ws H) (hm : is.map (fun i => ws[i]?) = w.map some) : va_P D cn_cl w H := fun k q hq => by
  obtain ⟨i, -, hi⟩ := cn_at hm k q hq
  exact hP i q hi
theorem cn_PR.blind {D : va_G} {cy : Nat → ClassId} {av : List Value} {w : va_W} : FrameBlind (cn_PR D cy av w) := fun a U g mk h => by
  obtain ⟨h0, h1, h2, h3, h4⟩ := h
  exact ⟨h0, h1, va_K.moved (u := U) (U := U.calling g mk a) (Vm.Alike.refl U.vm) h2, h3, h4.same rfl⟩
theorem cn_PW.blind {D : va_G} {cy : Nat → ClassId} {av : List Value} {w : va_W} {sz : Nat} : FrameBlind (cn_PW D cy av w sz) := fun a U g mk h => by
  obtain ⟨h0, h1, h2, h3, h4, h5⟩ := h
  exact ⟨h0, h1, h2, va_K.moved (u := U) (U := U.calling g mk a) (Vm.Alike.refl U.vm) h3, h4, h5.same rfl⟩
section CGC
variable {p : Program} {l : Launch} {e : Env} {R : Room} {s : State} {m : MethodId} {args : Array Value} {below : List Frame} {meth : Method} {c : Code} {D : va_G} {Hi : Heap → List Loc → Prop} {A : Nat → Prop} {nL cells slots : Nat} {Q : State → Prop} {ws : va_W} {pc : Nat} {lv : List (Nat × Value)} {st st0 st1 : List Value} {cc : ByteArray} {own : String} {cy : Nat → ClassId}
variable {y : MethodName} {b : ByteArray} {n ix a ci N mc ms : Nat} {r : Option FieldType} {rm : Room} {As fs : List Value} {w w' wr ws' : va_W} {v : Option Value} {T : u_T} {host : String} {H : Heap} {locs : List Loc} {ls : Array Slot} {av : List Value} {ar : Array Value}
theorem cn_preR (C : cn_X p s m args c cc nL own D cy) (hP : va_P D cn_cl w H) (hD : va_D (fun _ => True) w) : ∀ U : State, U.heap = H → s.WarmedH U.vm → cn_PR D cy av w av.toArray U :=
  fun U hU hW => ⟨rfl, by rw [hU]; exact hP, va_K.moved hW.alike C.2.2.2.2.2.1, hD, C.2.2.2.2.2.2.warm hW⟩
theorem cn_preW (C : cn_X p s m args c cc nL own D cy) (hP : va_P D cn_cl w H) (hD : va_D (fun _ => True) w) : ∀ U : State, U.heap = H → s.WarmedH U.vm → cn_PW D cy av w H.size av.toArray U :=
  fun U hU hW => ⟨rfl, by rw [hU], by rw [hU]; exact hP, va_K.moved hW.alike C.2.2.2.2.2.1, hD, C.2.2.2.2.2.2.warm hW⟩
theorem cn_finR {g : JFrame} (hr : CallRun p l e R s m args below meth c H locs cells slots 0 0 g st (cn_QR v ar) (fun _ => False)) (kk : W p l e R s m args below meth c H locs cells slots Q { g with pc := g.pc + 3, stack := v.toList ++ st }) : W p l e R s m args below meth c H locs cells slots Q g := by
  intro T hT X
  obtain ⟨v', st₀, t, T', L, h0, X', hL, e1, ⟨hv, hh⟩, stp⟩ := hr T hT X
  cases hv
  obtain ⟨t2, a1, b1⟩ := kk T' (by rw [e1, hh, h0]) (Stand.forget X' (fun q h => (hL q h).elim))
  exact ⟨t2, stp t2 a1, b1⟩
theorem cn_finW (hr : va_Run p l e R s m args below meth c H locs cells slots mc ms (F0 m pc ls st0) st (cn_QW v D w' (va_A w H.size) ar) (va_A w H.size)) (hS : va_S A s.heap H locs) (hF : ∀ q, va_A w H.size q → A q)
    (kk : ∀ (H1 : Heap) (locs1 : List Loc), va_P D cn_cl w' H1 → va_D (va_A w H.size) w' → (∀ q : Nat, q < H.size → ¬ va_A w H.size q → H1[q]? = H[q]?) → va_S A s.heap H1 locs1 → W p l e R s m args below meth c H1 locs1 (cells + mc) (slots + ms) Q (F0 m (pc + 3) ls (v.toList ++ st))) : W p l e R s m args below meth c H locs cells slots Q (F0 m pc ls st0) := by
  intro T hT X
  obtain ⟨v', st₀, t, T', L, h0, X', hL, e1, e2, ⟨hv, ⟨hb1, hb2⟩, hz, hk⟩, stp⟩ := hr T hT X
  cases hv
  rw [h0] at hz hk
  obtain ⟨t2, a1, b1⟩ := kk T'.heap (locs ++ L) (by rw [e1]; exact hb1) hb2 (fun q h1 h2 => by rw [e1]; exact hk q h1 h2)
    ⟨Nat.le_trans hS.1 (by rw [e1]; exact hz), fun q h1 h2 => by rw [e1, hk q (Nat.lt_of_lt_of_le h1 hS.1) (fun z => h2 (hF q z))]; exact hS.2.1 q h1 h2, fun q hq => by
      rcases List.mem_append.mp hq with h | h
      · exact hS.2.2 q h
      · exact hF _ (hL q h)⟩ T' rfl X'
  exact ⟨t2, stp t2 a1, b1⟩
/-- the words of a call -/
theorem cn_cb (C : cn_X p s m args c cc nL own D cy) (hco : Cond.code y b n r ∈ cn_tb) (h0 : rm.cells = mc) (h1 : rm.slots = ms) (hini : Cond.initialized y.cls ∈ cn_tb) (hl : Cond.methodLink own ix y ∈ cn_tb) {k : Nat}
    (hsig : y.cls ≠ "java/lang/invoke/MethodHandle" ∧ y.cls ≠ "java/lang/invoke/VarHandle" ∧ (parseMethodDescriptor y.desc).map (fun d => d.parameters.length) = some k) (hR : rm.frames + 1 ≤ R.frames ∧ 8 + (n + 11) + rm.locals ≤ R.locals) : CallB R s args own ix y b n r (.code y b n r :: cn_tb) rm mc ms k :=
  callB_of k C.2.2.2.2.1 (cn_gi hco) rfl h0 h1 (C.2.2.2.2.1 _ hini) (C.2.2.2.2.1 _ hl) hsig hR
theorem cn_cn (C : cn_X p s m args c cc nL own D cy) (hco : Cond.code y b n r ∈ cn_tb) (h0 : rm.cells = mc) (h1 : rm.slots = ms) (hini : Cond.initialized y.cls ∈ cn_tb) (hl : (own, ix, y, host) ∈ cn_nwM) {k : Nat}
    (hsig : y.cls ≠ "java/lang/invoke/MethodHandle" ∧ y.cls ≠ "java/lang/invoke/VarHandle" ∧ (parseMethodDescriptor y.desc).map (fun d => d.parameters.length) = some k) (hR : rm.frames + 1 ≤ R.frames ∧ 8 + (n + 11) + rm.locals ≤ R.locals) : va_CN R s args own ix y host b n r (.code y b n r :: cn_tb) rm mc ms k :=
  va_cnB k C.2.2.2.2.1 (cn_gi hco) rfl h0 h1 (C.2.2.2.2.2.2.1 _ hl) (C.2.2.2.2.1 _ hini) hsig hR
theorem cg_callRV (C : cn_X p s m args c cc nL own D cy) (hM : cn_MR l y b n r rm D cy (.ref a :: As) w v) (is : List Nat) (hm : is.map (fun i => ws[i]?) = w.map some) (hnd : va_nd is = true) (q0 : Nat) (he : w[q0]? = some (a, .inr (ci, fs))) (hc : cn_cl[ci]? = some (y.cls, T, N))
    (hd : decode cc pc = .ok (.invokevirtual ix, 3)) (hl : Cond.methodLink own ix y ∈ cn_tb) (hi : Cond.instanceMethod y ∈ cn_tb) (hse : Cond.selects y.cls y y ∈ cn_tb) (hini : Cond.initialized y.cls ∈ cn_tb) (hco : Cond.code y b n r ∈ cn_tb)
    (hsig : y.cls ≠ "java/lang/invoke/MethodHandle" ∧ y.cls ≠ "java/lang/invoke/VarHandle" ∧ (parseMethodDescriptor y.desc).map (fun d => d.parameters.length) = some As.length) (hR : rm.frames + 1 ≤ R.frames ∧ 8 + (n + 11) + rm.locals ≤ R.locals) (h0 : rm.cells = 0) (h1 : rm.slots = 0) (hcs : cells ≤ R.cells ∧ slots ≤ R.slots)
    (hW : (st.map fun v => v.category).sum ≤ 8) (hst : As.reverse ++ .ref a :: st = st0) (hst1 : v.toList ++ st = st1) (k : cg p l e R s m args below meth c D Hi A nL cells slots Q ws (pc + 3) lv st1) : cg p l e R s m args below meth c D Hi A nL cells slots Q ws pc lv st0 := by
  subst hst; subst hst1
  intro H locs ls hP hD hS h
  have hPc := cn_subP hP hm
  have hDc : va_D (fun _ => True) w := (hD.sub is hnd hm).weaken (fun _ _ _ _ => trivial)
  exact cn_finR (W.runV (g := F0 m pc ls (As.reverse ++ .ref a :: st)) (b := a) (As := As) (rest := st) ⟨C.1, C.2.1, C.2.2.1, C.2.2.2.1, C.2.2.2.2.1⟩ hM ⟨cn_cb C hco h0 h1 hini hl hsig hR, C.2.2.2.2.1 _ hi, C.2.2.2.2.1 _ hse⟩
    ⟨cn_PR.blind, va_recv C.2.2.2.2.2.1 hPc hc he, cn_preR C hPc hDc⟩ rfl rfl h.1 rfl (lv_room hW) hd hcs) (k H locs ls hP hD hS h)
theorem cg_callRVN (C : cn_X p s m args c cc nL own D cy) (hM : cn_MR l y b n r rm D cy (.ref a :: As) w v) (is : List Nat) (hm : is.map (fun i => ws[i]?) = w.map some) (hnd : va_nd is = true) (q0 : Nat) (he : w[q0]? = some (a, .inr (ci, fs))) (hc : cn_cl[ci]? = some (y.cls, T, N))
    (hd : decode cc pc = .ok (.invokevirtual ix, 3)) (hl : (own, ix, y, host) ∈ cn_nwM) (hi : Cond.instanceMethod y ∈ cn_tb) (hse : Cond.selects y.cls y y ∈ cn_tb) (hini : Cond.initialized y.cls ∈ cn_tb) (hco : Cond.code y b n r ∈ cn_tb)
    (hsig : y.cls ≠ "java/lang/invoke/MethodHandle" ∧ y.cls ≠ "java/lang/invoke/VarHandle" ∧ (parseMethodDescriptor y.desc).map (fun d => d.parameters.length) = some As.length) (hR : rm.frames + 1 ≤ R.frames ∧ 8 + (n + 11) + rm.locals ≤ R.locals) (h0 : rm.cells = 0) (h1 : rm.slots = 0) (hcs : cells ≤ R.cells ∧ slots ≤ R.slots)
    (hW : (st.map fun v => v.category).sum ≤ 8) (hst : As.reverse ++ .ref a :: st = st0) (hst1 : v.toList ++ st = st1) (k : cg p l e R s m args below meth c D Hi A nL cells slots Q ws (pc + 3) lv st1) : cg p l e R s m args below meth c D Hi A nL cells slots Q ws pc lv st0 := by
  subst hst; subst hst1
  intro H locs ls hP hD hS h
  have hPc := cn_subP hP hm
  have hDc : va_D (fun _ => True) w := (hD.sub is hnd hm).weaken (fun _ _ _ _ => trivial)
  exact cn_finR (va_Run.run (va_runVN (C := y.cls) (g := F0 m pc ls (As.reverse ++ .ref a :: st)) (b := a) (As := As) (rest := st) ⟨C.1, C.2.1, C.2.2.1, C.2.2.2.1, C.2.2.2.2.1⟩ hM ⟨cn_cn C hco h0 h1 hini hl hsig hR, C.2.2.2.2.1 _ hi, C.2.2.2.2.1 _ hse⟩
    ⟨cn_PR.blind, va_recv C.2.2.2.2.2.1 hPc hc he, cn_preR C hPc hDc⟩ rfl rfl h.1 rfl (lv_room hW) hd hcs)) (k H locs ls hP hD hS h)
theorem cg_callRS (C : cn_X p s m args c cc nL own D cy) (hM : cn_MR l y b n r rm D cy As w v) (is : List Nat) (hm : is.map (fun i => ws[i]?) = w.map some) (hnd : va_nd is = true)
    (hd : decode cc pc = .ok (.invokestatic ix, 3)) (hl : Cond.methodLink own ix y ∈ cn_tb) (hi : Cond.static y ∈ cn_tb) (hini : Cond.initialized y.cls ∈ cn_tb) (hco : Cond.code y b n r ∈ cn_tb)
    (hsig : y.cls ≠ "java/lang/invoke/MethodHandle" ∧ y.cls ≠ "java/lang/invoke/VarHandle" ∧ (parseMethodDescriptor y.desc).map (fun d => d.parameters.length) = some As.length) (hR : rm.frames + 1 ≤ R.frames ∧ 8 + (n + 11) + rm.locals ≤ R.locals) (h0 : rm.cells = 0) (h1 : rm.slots = 0) (hcs : cells ≤ R.cells ∧ slots ≤ R.slots)
    (hW : (st.map fun v => v.category).sum ≤ 8) (hst : As.reverse ++ st = st0) (hst1 : v.toList ++ st = st1) (k : cg p l e R s m args below meth c D Hi A nL cells slots Q ws (pc + 3) lv st1) : cg p l e R s m args below meth c D Hi A nL cells slots Q ws pc lv st0 := by
  subst hst; subst hst1
  intro H locs ls hP hD hS h
  have hPc := cn_subP hP hm
  have hDc : va_D (fun _ => True) w := (hD.sub is hnd hm).weaken (fun _ _ _ _ => trivial)
  exact cn_finR (W.runS (g := F0 m pc ls (As.reverse ++ st)) (As := As) (rest := st) ⟨C.1, C.2.1, C.2.2.1, C.2.2.2.1, C.2.2.2.2.1⟩ hM ⟨cn_cb C hco h0 h1 hini hl hsig hR, C.2.2.2.2.1 _ hi⟩
    ⟨cn_PR.blind, cn_preR C hPc hDc⟩ rfl rfl h.1 rfl (lv_room hW) hd hcs) (k H locs ls hP hD hS h)
theorem cg_callRSN (C : cn_X p s m args c cc nL own D cy) (hM : cn_MR l y b n r rm D cy As w v) (is : List Nat) (hm : is.map (fun i => ws[i]?) = w.map some) (hnd : va_nd is = true)
    (hd : decode cc pc = .ok (.invokestatic ix, 3)) (hl : (own, ix, y, host) ∈ cn_nwM) (hi : Cond.static y ∈ cn_tb) (hini : Cond.initialized y.cls ∈ cn_tb) (hco : Cond.code y b n r ∈ cn_tb)
    (hsig : y.cls ≠ "java/lang/invoke/MethodHandle" ∧ y.cls ≠ "java/lang/invoke/VarHandle" ∧ (parseMethodDescriptor y.desc).map (fun d => d.parameters.length) = some As.length) (hR : rm.frames + 1 ≤ R.frames ∧ 8 + (n + 11) + rm.locals ≤ R.locals) (h0 : rm.cells = 0) (h1 : rm.slots = 0) (hcs : cells ≤ R.cells ∧ slots ≤ R.slots)
    (hW : (st.map fun v => v.category).sum ≤ 8) (hst : As.reverse ++ st = st0) (hst1 : v.toList ++ st = st1) (k : cg p l e R s m args below meth c D Hi A nL cells slots Q ws (pc + 3) lv st1) : cg p l e R s m args below meth c D Hi A nL cells slots Q ws pc lv st0 := by
  subst hst; subst hst1
  intro H locs ls hP hD hS h
  have hPc := cn_subP hP hm
  have hDc : va_D (fun _ => True) w := (hD.sub is hnd hm).weaken (fun _ _ _ _ => trivial)
  exact cn_finR (va_Run.run (va_runSN (g := F0 m pc ls (As.reverse ++ st)) (As := As) (rest := st) ⟨C.1, C.2.1, C.2.2.1, C.2.2.2.1, C.2.2.2.2.1⟩ hM ⟨cn_cn C hco h0 h1 hini hl hsig hR, C.2.2.2.2.1 _ hi, trivial⟩
    ⟨cn_PR.blind, cn_preR C hPc hDc⟩ rfl rfl h.1 rfl (lv_room hW) hd hcs)) (k H locs ls hP hD hS h)
/-- behind a call that changes its own cells: the caller's others, the callee's as they are now, in the caller's order -/
theorem cn_back {H1 : Heap} {isC isR pm : List Nat} (hP : va_P D cn_cl ws H) (hD : va_D A ws) (hC : isC.map (fun i => ws[i]?) = w.map some) (hR : isR.map (fun i => ws[i]?) = wr.map some) (hn : va_nd isR = true) (hdis : ∀ i ∈ isR, i ∉ isC) (hk : ∀ q : Nat, q < H.size → ¬ va_A w H.size q → H1[q]? = H[q]?) (hF : ∀ q, va_A w H.size q → A q) (hP1 : va_P D cn_cl w' H1) (hD1 : va_D (va_A w H.size) w')
    (hpm : pm.map (fun i => (wr ++ w')[i]?) = ws'.map some) (hnp : va_nd pm = true) : va_P D cn_cl ws' H1 ∧ va_D A ws' := by
  obtain ⟨h1, h2⟩ := va_join hP hD isC isR hC hR hn hdis hk hF hP1 hD1
  exact ⟨cn_subP h1 hpm, h2.sub pm hnp hpm⟩
theorem cg_callWV (C : cn_X p s m args c cc nL own D cy) (hA : ∀ q, s.heap.size ≤ q → A q) (hM : cn_MW l y b n r rm D cy (.ref a :: As) w v w' mc ms) (isC isR pm : List Nat) (wr ws' : va_W) (hC : isC.map (fun i => ws[i]?) = w.map some) (hR0 : isR.map (fun i => ws[i]?) = wr.map some) (hpm : pm.map (fun i => (wr ++ w')[i]?) = ws'.map some) (hnd : va_nd isC = true ∧ va_nd isR = true ∧ va_nd pm = true ∧ ∀ i ∈ isR, i ∉ isC) (q0 : Nat) (he : w[q0]? = some (a, .inr (ci, fs))) (hc : cn_cl[ci]? = some (y.cls, T, N))
    (hd : decode cc pc = .ok (.invokevirtual ix, 3)) (hl : Cond.methodLink own ix y ∈ cn_tb) (hi : Cond.instanceMethod y ∈ cn_tb) (hse : Cond.selects y.cls y y ∈ cn_tb) (hini : Cond.initialized y.cls ∈ cn_tb) (hco : Cond.code y b n r ∈ cn_tb)
    (hsig : y.cls ≠ "java/lang/invoke/MethodHandle" ∧ y.cls ≠ "java/lang/invoke/VarHandle" ∧ (parseMethodDescriptor y.desc).map (fun d => d.parameters.length) = some As.length) (hR : rm.frames + 1 ≤ R.frames ∧ 8 + (n + 11) + rm.locals ≤ R.locals) (h0 : rm.cells = mc) (h1 : rm.slots = ms) (hcs : cells + mc ≤ R.cells ∧ slots + ms ≤ R.slots)
    (hW : (st.map fun v => v.category).sum ≤ 8) (hst : As.reverse ++ .ref a :: st = st0) (hst1 : v.toList ++ st = st1) (k : cg p l e R s m args below meth c D (va_S A s.heap) A nL (cells + mc) (slots + ms) Q ws' (pc + 3) lv st1) : cg p l e R s m args below meth c D (va_S A s.heap) A nL cells slots Q ws pc lv st0 := by
  subst hst; subst hst1
  intro H locs ls hP hD hS h
  have hPc := cn_subP hP hC
  have hDc : va_D (fun _ => True) w := (hD.sub isC hnd.1 hC).weaken (fun _ _ _ _ => trivial)
  have hF := va_free (wc := w) hD hS hA isC hC
  refine cn_finW (va_runV (g := F0 m pc ls (As.reverse ++ .ref a :: st)) (b := a) (As := As) (rest := st) ⟨C.1, C.2.1, C.2.2.1, C.2.2.2.1, C.2.2.2.2.1⟩ (hM H.size) ⟨cn_cb C hco h0 h1 hini hl hsig hR, C.2.2.2.2.1 _ hi, C.2.2.2.2.1 _ hse⟩
    ⟨cn_PW.blind, va_recv C.2.2.2.2.2.1 hPc hc he, cn_preW C hPc hDc⟩ rfl rfl h.1 rfl (lv_room hW) hd hcs) hS hF (fun H1 locs1 hP1 hD1 hk1 hS1 => ?_)
  obtain ⟨g1, g2⟩ := cn_back hP hD hC hR0 hnd.2.1 hnd.2.2.2 hk1 hF hP1 hD1 hpm hnd.2.2.1
  exact k H1 locs1 ls g1 g2 hS1 h
theorem cg_callWVN (C : cn_X p s m args c cc nL own D cy) (hA : ∀ q, s.heap.size ≤ q → A q) (hM : cn_MW l y b n r rm D cy (.ref a :: As) w v w' mc ms) (isC isR pm : List Nat) (wr ws' : va_W) (hC : isC.map (fun i => ws[i]?) = w.map some) (hR0 : isR.map (fun i => ws[i]?) = wr.map some) (hpm : pm.map (fun i => (wr ++ w')[i]?) = ws'.map some) (hnd : va_nd isC = true ∧ va_nd isR = true ∧ va_nd pm = true ∧ ∀ i ∈ isR, i ∉ isC) (q0 : Nat) (he : w[q0]? = some (a, .inr (ci, fs))) (hc : cn_cl[ci]? = some (y.cls, T, N))
    (hd : decode cc pc = .ok (.invokevirtual ix, 3)) (hl : (own, ix, y, host) ∈ cn_nwM) (hi : Cond.instanceMethod y ∈ cn_tb) (hse : Cond.selects y.cls y y ∈ cn_tb) (hini : Cond.initialized y.cls ∈ cn_tb) (hco : Cond.code y b n r ∈ cn_tb)
    (hsig : y.cls ≠ "java/lang/invoke/MethodHandle" ∧ y.cls ≠ "java/lang/invoke/VarHandle" ∧ (parseMethodDescriptor y.desc).map (fun d => d.parameters.length) = some As.length) (hR : rm.frames + 1 ≤ R.frames ∧ 8 + (n + 11) + rm.locals ≤ R.locals) (h0 : rm.cells = mc) (h1 : rm.slots = ms) (hcs : cells + mc ≤ R.cells ∧ slots + ms ≤ R.slots)
    (hW : (st.map fun v => v.category).sum ≤ 8) (hst : As.reverse ++ .ref a :: st = st0) (hst1 : v.toList ++ st = st1) (k : cg p l e R s m args below meth c D (va_S A s.heap) A nL (cells + mc) (slots + ms) Q ws' (pc + 3) lv st1) : cg p l e R s m args below meth c D (va_S A s.heap) A nL cells slots Q ws pc lv st0 := by
  subst hst; subst hst1
  intro H locs ls hP hD hS h
  have hPc := cn_subP hP hC
  have hDc : va_D (fun _ => True) w := (hD.sub isC hnd.1 hC).weaken (fun _ _ _ _ => trivial)
  have hF := va_free (wc := w) hD hS hA isC hC
  refine cn_finW (va_runVN (C := y.cls) (g := F0 m pc ls (As.reverse ++ .ref a :: st)) (b := a) (As := As) (rest := st) ⟨C.1, C.2.1, C.2.2.1, C.2.2.2.1, C.2.2.2.2.1⟩ (hM H.size) ⟨cn_cn C hco h0 h1 hini hl hsig hR, C.2.2.2.2.1 _ hi, C.2.2.2.2.1 _ hse⟩
    ⟨cn_PW.blind, va_recv C.2.2.2.2.2.1 hPc hc he, cn_preW C hPc hDc⟩ rfl rfl h.1 rfl (lv_room hW) hd hcs) hS hF (fun H1 locs1 hP1 hD1 hk1 hS1 => ?_)
  obtain ⟨g1, g2⟩ := cn_back hP hD hC hR0 hnd.2.1 hnd.2.2.2 hk1 hF hP1 hD1 hpm hnd.2.2.1
  exact k H1 locs1 ls g1 g2 hS1 h
theorem cg_callWS (C : cn_X p s m args c cc nL own D cy) (hA : ∀ q, s.heap.size ≤ q → A q) (hM : cn_MW l y b n r rm D cy As w v w' mc ms) (isC isR pm : List Nat) (wr ws' : va_W) (hC : isC.map (fun i => ws[i]?) = w.map some) (hR0 : isR.map (fun i => ws[i]?) = wr.map some) (hpm : pm.map (fun i => (wr ++ w')[i]?) = ws'.map some) (hnd : va_nd isC = true ∧ va_nd isR = true ∧ va_nd pm = true ∧ ∀ i ∈ isR, i ∉ isC)
    (hd : decode cc pc = .ok (.invokestatic ix, 3)) (hl : Cond.methodLink own ix y ∈ cn_tb) (hi : Cond.static y ∈ cn_tb) (hini : Cond.initialized y.cls ∈ cn_tb) (hco : Cond.code y b n r ∈ cn_tb)
    (hsig : y.cls ≠ "java/lang/invoke/MethodHandle" ∧ y.cls ≠ "java/lang/invoke/VarHandle" ∧ (parseMethodDescriptor y.desc).map (fun d => d.parameters.length) = some As.length) (hR : rm.frames + 1 ≤ R.frames ∧ 8 + (n + 11) + rm.locals ≤ R.locals) (h0 : rm.cells = mc) (h1 : rm.slots = ms) (hcs : cells + mc ≤ R.cells ∧ slots + ms ≤ R.slots)
    (hW : (st.map fun v => v.category).sum ≤ 8) (hst : As.reverse ++ st = st0) (hst1 : v.toList ++ st = st1) (k : cg p l e R s m args below meth c D (va_S A s.heap) A nL (cells + mc) (slots + ms) Q ws' (pc + 3) lv st1) : cg p l e R s m args below meth c D (va_S A s.heap) A nL cells slots Q ws pc lv st0 := by
  subst hst; subst hst1
  intro H locs ls hP hD hS h
  have hPc := cn_subP hP hC
  have hDc : va_D (fun _ => True) w := (hD.sub isC hnd.1 hC).weaken (fun _ _ _ _ => trivial)
  have hF := va_free (wc := w) hD hS hA isC hC
  refine cn_finW (va_runS (g := F0 m pc ls (As.reverse ++ st)) (As := As) (rest := st) ⟨C.1, C.2.1, C.2.2.1, C.2.2.2.1, C.2.2.2.2.1⟩ (hM H.size) ⟨cn_cb C hco h0 h1 hini hl hsig hR, C.2.2.2.2.1 _ hi⟩
    ⟨cn_PW.blind, cn_preW C hPc hDc⟩ rfl rfl h.1 rfl (lv_room hW) hd hcs) hS hF (fun H1 locs1 hP1 hD1 hk1 hS1 => ?_)
  obtain ⟨g1, g2⟩ := cn_back hP hD hC hR0 hnd.2.1 hnd.2.2.2 hk1 hF hP1 hD1 hpm hnd.2.2.1
  exact k H1 locs1 ls g1 g2 hS1 h
theorem cg_callWI (C : cn_X p s m args c cc nL own D cy) (hA : ∀ q, s.heap.size ≤ q → A q) (hM : cn_MW l y b n none rm D cy (.ref a :: As) w none w' mc ms) (isC isR pm : List Nat) (wr ws' : va_W) (hC : isC.map (fun i => ws[i]?) = w.map some) (hR0 : isR.map (fun i => ws[i]?) = wr.map some) (hpm : pm.map (fun i => (wr ++ w')[i]?) = ws'.map some) (hnd : va_nd isC = true ∧ va_nd isR = true ∧ va_nd pm = true ∧ ∀ i ∈ isR, i ∉ isC)
    (hd : decode cc pc = .ok (.invokespecial ix, 3)) (hy : y.name = "<init>") (hl : Cond.methodLink own ix y ∈ cn_tb) (hi : Cond.instanceMethod y ∈ cn_tb) (hini : Cond.initialized y.cls ∈ cn_tb) (hco : Cond.code y b n none ∈ cn_tb)
    (hsig : y.cls ≠ "java/lang/invoke/MethodHandle" ∧ y.cls ≠ "java/lang/invoke/VarHandle" ∧ (parseMethodDescriptor y.desc).map (fun d => d.parameters.length) = some As.length) (hR : rm.frames + 1 ≤ R.frames ∧ 8 + (n + 11) + rm.locals ≤ R.locals) (h0 : rm.cells = mc) (h1 : rm.slots = ms) (hcs : cells + mc ≤ R.cells ∧ slots + ms ≤ R.slots)
    (hW : (st.map fun v => v.category).sum ≤ 8) (hst : As.reverse ++ .ref a :: st = st0) (k : cg p l e R s m args below meth c D (va_S A s.heap) A nL (cells + mc) (slots + ms) Q ws' (pc + 3) lv st) : cg p l e R s m args below meth c D (va_S A s.heap) A nL cells slots Q ws pc lv st0 := by
  subst hst
  intro H locs ls hP hD hS h
  have hPc := cn_subP hP hC
  have hDc : va_D (fun _ => True) w := (hD.sub isC hnd.1 hC).weaken (fun _ _ _ _ => trivial)
  have hF := va_free (wc := w) hD hS hA isC hC
  refine cn_finW (va_runI (g := F0 m pc ls (As.reverse ++ .ref a :: st)) (b := a) (As := As) (rest := st) ⟨C.1, C.2.1, C.2.2.1, C.2.2.2.1, C.2.2.2.2.1⟩ (hM H.size) ⟨cn_cb C hco h0 h1 hini hl hsig hR, hy, C.2.2.2.2.1 _ hi⟩
    ⟨cn_PW.blind, cn_preW C hPc hDc⟩ rfl rfl h.1 rfl (lv_room hW) hd hcs) hS hF (fun H1 locs1 hP1 hD1 hk1 hS1 => ?_)
  obtain ⟨g1, g2⟩ := cn_back hP hD hC hR0 hnd.2.1 hnd.2.2.2 hk1 hF hP1 hD1 hpm hnd.2.2.1
  exact k H1 locs1 ls g1 g2 hS1 h
theorem cg_callWIN (C : cn_X p s m args c cc nL own D cy) (hA : ∀ q, s.heap.size ≤ q → A q) (hM : cn_MW l y b n none rm D cy (.ref a :: As) w none w' mc ms) (isC isR pm : List Nat) (wr ws' : va_W) (hC : isC.map (fun i => ws[i]?) = w.map some) (hR0 : isR.map (fun i => ws[i]?) = wr.map some) (hpm : pm.map (fun i => (wr ++ w')[i]?) = ws'.map some) (hnd : va_nd isC = true ∧ va_nd isR = true ∧ va_nd pm = true ∧ ∀ i ∈ isR, i ∉ isC)
    (hd : decode cc pc = .ok (.invokespecial ix, 3)) (hy : y.name = "<init>") (hl : (own, ix, y, host) ∈ cn_nwM) (hi : Cond.instanceMethod y ∈ cn_tb) (hini : Cond.initialized y.cls ∈ cn_tb) (hco : Cond.code y b n none ∈ cn_tb)
    (hsig : y.cls ≠ "java/lang/invoke/MethodHandle" ∧ y.cls ≠ "java/lang/invoke/VarHandle" ∧ (parseMethodDescriptor y.desc).map (fun d => d.parameters.length) = some As.length) (hR : rm.frames + 1 ≤ R.frames ∧ 8 + (n + 11) + rm.locals ≤ R.locals) (h0 : rm.cells = mc) (h1 : rm.slots = ms) (hcs : cells + mc ≤ R.cells ∧ slots + ms ≤ R.slots)
    (hW : (st.map fun v => v.category).sum ≤ 8) (hst : As.reverse ++ .ref a :: st = st0) (k : cg p l e R s m args below meth c D (va_S A s.heap) A nL (cells + mc) (slots + ms) Q ws' (pc + 3) lv st) : cg p l e R s m args below meth c D (va_S A s.heap) A nL cells slots Q ws pc lv st0 := by
  subst hst
  intro H locs ls hP hD hS h
  have hPc := cn_subP hP hC
  have hDc : va_D (fun _ => True) w := (hD.sub isC hnd.1 hC).weaken (fun _ _ _ _ => trivial)
  have hF := va_free (wc := w) hD hS hA isC hC
  refine cn_finW (va_runIN (g := F0 m pc ls (As.reverse ++ .ref a :: st)) (b := a) (As := As) (rest := st) ⟨C.1, C.2.1, C.2.2.1, C.2.2.2.1, C.2.2.2.2.1⟩ (hM H.size) ⟨cn_cn C hco h0 h1 hini hl hsig hR, hy, C.2.2.2.2.1 _ hi⟩
    ⟨cn_PW.blind, cn_preW C hPc hDc⟩ rfl rfl h.1 rfl (lv_room hW) hd hcs) hS hF (fun H1 locs1 hP1 hD1 hk1 hS1 => ?_)
  obtain ⟨g1, g2⟩ := cn_back hP hD hC hR0 hnd.2.1 hnd.2.2.2 hk1 hF hP1 hD1 hpm hnd.2.2.1
  exact k H1 locs1 ls g1 g2 hS1 h
end CGC
end
