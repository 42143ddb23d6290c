def R_law : String := "CopperNetsLaw"
def lw_P (b : Addr) (xs : List Int32) (args : Array Value) (s : State) : Prop := args = #[.ref b] ∧ s.IntsAt b xs ∧ xs.length ≤ 5121 ∧ (Jvm.Cond.and given_1 narrow_1).before args s = true
def lw_Q (_ : Array Value) (s : State) (o : Outcome) (t : State) : Prop := o = .returned (some (.int 1)) ∧ Framed s o t [] 1073 10124
def lw_Z (below : List Frame) (a : Array Value) (s : State) : State → Prop := fun t => ∃ o, t.status = .running ∧ Ended t below o ∧ lw_Q a s o t
/-- the law's own end, with 1 on the stack, nothing written that was there before, its room as the claim has it -/
theorem lw_ret {p : Program} {l : Launch} {e : Env} {s : State} {m : MethodId} {below : List Frame} {meth : Method} {c : Code} {b : Nat} (hx : p.tables.exec = Jvm.exec) (hb : c.code = code) (hr : meth.sig.returnType = ret) (hlocks : meth.locks = false) {pc : Nat} {H : Heap} {ls : Array Slot} (hdg : decode code pc = .ok (.ireturn, 1)) : W p l e room_1 s m #[Value.ref b] below meth c H [] 1073 10124 (lw_Z below #[Value.ref b] s) (F0 m pc ls [.int 1]) := by
  intro T hT X
  obtain ⟨fs, hret, hrun, hended, hW, hframe⟩ := X.leave (v := some (.int 1)) (hlocks := hlocks) (fun h => by rw [hr] at h; cases h)
  have hmeth' : T.vm.method? m = some meth := X.method'
  refine ⟨T.setFrames fs, ?_, .returned (some (.int 1)), hrun, hended, rfl, ⟨_, rfl⟩, hW, hframe⟩
  jvm_step X.here [X.here.top, hx, hb, hdg, hmeth', hr, ret, narrow_b1]
  (try refine ⟨rfl, ?_⟩); (try refine ⟨rfl, ?_⟩)
  first | (intro acts; rw [hret _ acts rfl rfl rfl]) | rw [hret _ _ rfl rfl rfl]
  exact Steps.refl _
/-- what holds at the law's entry: the machine, the code, the tables' words (any of lw_tbl by 'hts w (by decide +kernel)'), the script of L ints xs at the cell b, what the Statement gives of the start (any of its parts by flat_of_before) -/
def lw_At (p : Program) (s : State) (m : MethodId) (meth : Method) (c : Code) (b L : Nat) (xs : Nat → Int32) : Prop :=
  p.tables.exec = Jvm.exec ∧ c.code = code ∧ meth.sig.returnType = ret ∧ c.maxLocals = 8 ∧ s.vm.findClass R_law = some m.cls ∧ (∀ w ∈ lw_tbl, w.before #[Value.ref b] s = true) ∧ va_X b L xs s s.heap ∧ b < s.heap.size ∧ meth.locks = false ∧ (Jvm.Cond.and given_1 narrow_1).before #[Value.ref b] s = true
abbrev b_law : ByteArray := code
def cn_SX (b L : Nat) (xs : Nat → Int32) (A : Nat → Prop) (s : State) : Prop := va_X b L xs s s.heap ∧ b < s.heap.size ∧ ¬ A b
/-- what stays over the law's walk, besides cn_X -/
def cn_LX (l : Launch) (s : State) (meth : Method) (A : Nat → Prop) (b L : Nat) (xs : Nat → Int32) : Prop := l.stackTraces = false ∧ meth.sig.returnType = ret ∧ meth.locks = false ∧ cn_SX b L xs A s ∧ ((∀ q, s.heap.size ≤ q → A q) ∧ cn_Th s ∧ va_Nc cn_IA cn_IO s ∧ ∀ (q : Nat) (cell : Cell), A q → s.heap[q]? = some cell → cell.vm.isStatics = false) ∧ ∀ q, A q → s.heap.size ≤ q
theorem cn_rc {n : Nat} (h : n ≤ 1073) : n ≤ room_1.cells := h
theorem cn_rs {n : Nat} (h : n ≤ 10124) : n ≤ room_1.slots := h
section LW
variable {p : Program} {l : Launch} {e : Env} {R : Room} {s : State} {m : MethodId} {args : Array Value} {below : List Frame} {meth : Method} {c : Code} {D : va_G} {A : Nat → Prop} {nL cells slots : Nat} {Q : State → Prop} {ws : va_W} {pc : Nat} {lv : List (Nat × Value)} {st st0 st1 : List Value} {cc : ByteArray} {own : String} {cy : Nat → ClassId} {b L : Nat} {xs : Nat → Int32}
theorem cg_sld (C : cn_X p s m args c cc nL own D cy) (SX : cn_SX b L xs A s) {i : Int32} (hd : decode cc pc = .ok (.iaload, 1)) (hin : vp_in i L) (k : cg p l e R s m args below meth c D (va_S A s.heap) A nL cells slots Q ws (pc + 1) lv (.int (xs i.toNatClampNeg) :: st)) : cg p l e R s m args below meth c D (va_S A s.heap) A nL cells slots Q ws pc lv (.int i :: .ref b :: st) :=
  fun H locs ls hP hD hS h => va_sld C.1 C.2.1 SX.1 SX.2.1 SX.2.2 hS hin hd (k H locs ls hP hD hS h)
theorem cg_slen (C : cn_X p s m args c cc nL own D cy) (SX : cn_SX b L xs A s) (hd : decode cc pc = .ok (.arraylength, 1)) (k : cg p l e R s m args below meth c D (va_S A s.heap) A nL cells slots Q ws (pc + 1) lv (.int (Int32.ofNat L) :: st)) : cg p l e R s m args below meth c D (va_S A s.heap) A nL cells slots Q ws pc lv (.ref b :: st) :=
  fun H locs ls hP hD hS h => va_slen C.1 C.2.1 SX.1 SX.2.1 SX.2.2 hS hd (k H locs ls hP hD hS h)
theorem cg_lawret (C : cn_X p s m #[Value.ref b] c b_law 8 own D cy) (LX : cn_LX l s meth A b L xs) (hd : decode b_law pc = .ok (.ireturn, 1)) (hcs : cells ≤ 1073 ∧ slots ≤ 10124) : cg p l e room_1 s m #[Value.ref b] below meth c D (va_S A s.heap) A 8 cells slots (lw_Z below #[Value.ref b] s) ws pc lv [.int 1] :=
  fun H locs ls hP hD hS h => va_forget (fun q hq => LX.2.2.2.2.2 _ (hS.2.2 q hq)) (W.widen hcs.1 hcs.2 (lw_ret C.1 C.2.1 LX.2.1 LX.2.2.1 hd))
/-- the law's own 'cell' at 0 -/
def cn_PX (b L : Nat) (xs : Nat → Int32) : Array Value → State → Prop := va_Pc [.ref b, .int 0] (fun U => va_X b L xs U U.heap ∧ b < U.heap.size)
theorem cn_PX.blind : FrameBlind (cn_PX b L xs) := fun a U g mk h => by
  obtain ⟨h0, h1, h2⟩ := h
  exact ⟨h0, va_X.moved (u := U) (U := U.calling g mk a) (Vm.Alike.refl U.vm) h1, h2⟩
abbrev r_L_cell : Room := { frames := 0, cells := 0, slots := 0, locals := 0 }
abbrev cn_cell0 (L : Nat) (xs : Nat → Int32) : Int32 := if Int32.ofNat L ≤ 0 then 0 else xs 0
theorem hs_L_cell : y_L_cell.cls ≠ "java/lang/invoke/MethodHandle" ∧ y_L_cell.cls ≠ "java/lang/invoke/VarHandle" ∧ (parseMethodDescriptor y_L_cell.desc).map (fun d => d.parameters.length) = some 2 := by decide +kernel
theorem dl_0 : decode b_L_cell 0 = .ok (.iload_n 1, 1) := by decide +kernel
theorem dl_1 : decode b_L_cell 1 = .ok (.aload_n 0, 1) := by decide +kernel
theorem dl_2 : decode b_L_cell 2 = .ok (.arraylength, 1) := by decide +kernel
theorem dl_3 : decode b_L_cell 3 = .ok (.if_icmp .ge 9, 3) := by decide +kernel
theorem dl_6 : decode b_L_cell 6 = .ok (.aload_n 0, 1) := by decide +kernel
theorem dl_7 : decode b_L_cell 7 = .ok (.iload_n 1, 1) := by decide +kernel
theorem dl_8 : decode b_L_cell 8 = .ok (.iaload, 1) := by decide +kernel
theorem dl_9 : decode b_L_cell 9 = .ok (.goto 4, 3) := by decide +kernel
theorem dl_12 : decode b_L_cell 12 = .ok (.iconst 0, 1) := by decide +kernel
theorem dl_13 : decode b_L_cell 13 = .ok (.ireturn, 1) := by decide +kernel
theorem c_L_cell (hL : L ≤ 5121) : Met l y_L_cell (.code y_L_cell b_L_cell 2 (some .int) :: cn_tb) r_L_cell (cn_PX b L xs) (cn_QR (some (.int (cn_cell0 L xs)))) 0 0 (fun _ => False) := by
  refine cn_ofW (cc := b_L_cell) (n := 2) (r := some .int) (by decide +kernel) List.mem_cons_self ?_
  intro p e s m args below meth c s₁ B hml hv
  obtain ⟨rfl, hX, hb⟩ := hv
  rw [lg_entry_eq]
  have h := lv_entry ([.ref b, .int 0]) (n := 2) (Nat.le_of_ble_eq_true rfl)
  generalize (lg_sl ([.ref b, .int 0]) ++ List.replicate (2 - (lg_sl ([.ref b, .int 0])).length) Slot.unset).toArray = ls at h ⊢
  have h : lv_has ls 2 [(0, .ref b), (1, .int 0)] := h
  have hS : va_S (fun _ => False) s.heap s.heap [] := va_S.rf
  refine lv_iload_n B.exec B.bytes dl_0 rfl (lv_at h 1 rfl) ?_
  refine lv_aload_n B.exec B.bytes dl_1 rfl (lv_at h 0 rfl) ?_
  refine va_slen B.exec B.bytes hX hb (A := fun _ => False) id hS dl_2 ?_
  refine lv_icmp_ge (tgt := 12) B.exec B.bytes dl_3 (by decide) (fun q => ?_) (fun q => ?_)
  · refine lv_iconst (v := 0) B.exec B.bytes dl_12 (by decide) ?_
    have e0 : cn_cell0 L xs = 0 := if_pos q
    rw [e0]
    exact W.iret B.exec B.bytes B.returns (fun t ht _ => ⟨rfl, ht⟩) (fun q hq => nomatch hq) dl_13 B.notSynchronized
  · refine lv_aload_n B.exec B.bytes dl_6 rfl (lv_at h 0 rfl) ?_
    refine lv_iload_n B.exec B.bytes dl_7 rfl (lv_at h 1 rfl) ?_
    have hi : vp_in 0 L := fun z => by
      rcases z with z | z
      · exact absurd z (by decide)
      · have : L = 0 := Nat.le_zero.mp z
        rw [this] at q
        exact q (by decide)
    refine va_sld B.exec B.bytes hX hb (A := fun _ => False) id hS hi dl_8 ?_
    refine lv_goto (tgt := 13) B.exec B.bytes dl_9 (by decide) ?_
    have e0 : cn_cell0 L xs = xs 0 := if_neg q
    rw [e0]
    exact W.iret B.exec B.bytes B.returns (fun t ht _ => ⟨rfl, ht⟩) (fun q hq => nomatch hq) dl_13 B.notSynchronized
theorem cg_cell (C : cn_X p s m args c cc nL own D cy) (hL : L ≤ 5121) (SX : cn_SX b L xs A s) {ix : Nat} (hd : decode cc pc = .ok (.invokestatic ix, 3)) (hl : Cond.methodLink own ix y_L_cell ∈ cn_tb) (hi : Cond.static y_L_cell ∈ cn_tb) (hini : Cond.initialized y_L_cell.cls ∈ cn_tb) (hco : Cond.code y_L_cell b_L_cell 2 (some .int) ∈ cn_tb)
    (hR : 1 ≤ R.frames ∧ 21 ≤ R.locals) (hcs : cells ≤ R.cells ∧ slots ≤ R.slots) (hW : (st.map fun v => v.category).sum ≤ 8) (k : cg p l e R s m args below meth c D (va_S A s.heap) A nL cells slots Q ws (pc + 3) lv (.int (cn_cell0 L xs) :: st)) : cg p l e R s m args below meth c D (va_S A s.heap) A nL cells slots Q ws pc lv (.int 0 :: .ref b :: st) := by
  intro H locs ls hP hD hS h
  have hXH : va_X b L xs s H := va_X.kept SX.1 (hS.2.1 b SX.2.1 SX.2.2)
  exact cn_finR (W.runS (g := F0 m pc ls (.int 0 :: .ref b :: st)) (As := [.ref b, .int 0]) (rest := st) ⟨C.1, C.2.1, C.2.2.1, C.2.2.2.1, C.2.2.2.2.1⟩ (c_L_cell hL) ⟨cn_cb C hco rfl rfl hini hl hs_L_cell ⟨hR.1, hR.2⟩, C.2.2.2.2.1 _ hi⟩
    ⟨cn_PX.blind, fun U hU hW => ⟨rfl, by rw [hU]; exact va_X.moved hW.alike hXH, by rw [hU]; exact Nat.lt_of_lt_of_le SX.2.1 hS.1⟩⟩ rfl rfl h.1 rfl (lv_room hW) hd hcs) (k H locs ls hP hD hS h)
end LW
theorem cn_out15 {x : Int32} (h0 : ¬ x = 0) (h1 : ¬ x = 1) (h2 : ¬ x = 2) (h3 : ¬ x = 3) (h4 : ¬ x = 4) (h5 : ¬ x = 5) (h6 : ¬ x = 6) (h7 : ¬ x = 7) (h8 : ¬ x = 8) (h9 : ¬ x = 9) (h10 : ¬ x = 10) (h11 : ¬ x = 11) (h12 : ¬ x = 12) (h13 : ¬ x = 13) (h14 : ¬ x = 14) (h15 : ¬ x = 15) : x.toInt < 0 ∨ 15 < x.toInt := by
  rcases Int.lt_or_le x.toInt 0 with z | z
  · exact Or.inl z
  refine Or.inr (Int.lt_of_not_ge fun z2 => ?_)
  have g0 : x.toInt ≠ 0 := fun q => h0 (Int32.toInt_inj.mp (by rw [q]; decide))
  have g1 : x.toInt ≠ 1 := fun q => h1 (Int32.toInt_inj.mp (by rw [q]; decide))
  have g2 : x.toInt ≠ 2 := fun q => h2 (Int32.toInt_inj.mp (by rw [q]; decide))
  have g3 : x.toInt ≠ 3 := fun q => h3 (Int32.toInt_inj.mp (by rw [q]; decide))
  have g4 : x.toInt ≠ 4 := fun q => h4 (Int32.toInt_inj.mp (by rw [q]; decide))
  have g5 : x.toInt ≠ 5 := fun q => h5 (Int32.toInt_inj.mp (by rw [q]; decide))
  have g6 : x.toInt ≠ 6 := fun q => h6 (Int32.toInt_inj.mp (by rw [q]; decide))
  have g7 : x.toInt ≠ 7 := fun q => h7 (Int32.toInt_inj.mp (by rw [q]; decide))
  have g8 : x.toInt ≠ 8 := fun q => h8 (Int32.toInt_inj.mp (by rw [q]; decide))
  have g9 : x.toInt ≠ 9 := fun q => h9 (Int32.toInt_inj.mp (by rw [q]; decide))
  have g10 : x.toInt ≠ 10 := fun q => h10 (Int32.toInt_inj.mp (by rw [q]; decide))
  have g11 : x.toInt ≠ 11 := fun q => h11 (Int32.toInt_inj.mp (by rw [q]; decide))
  have g12 : x.toInt ≠ 12 := fun q => h12 (Int32.toInt_inj.mp (by rw [q]; decide))
  have g13 : x.toInt ≠ 13 := fun q => h13 (Int32.toInt_inj.mp (by rw [q]; decide))
  have g14 : x.toInt ≠ 14 := fun q => h14 (Int32.toInt_inj.mp (by rw [q]; decide))
  have g15 : x.toInt ≠ 15 := fun q => h15 (Int32.toInt_inj.mp (by rw [q]; decide))
  omega
