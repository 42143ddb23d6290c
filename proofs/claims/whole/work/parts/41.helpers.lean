/-! METHODS WITH HANDLERS (the law's own), and their calls -/
abbrev cn_IO : String := "java/lang/IndexOutOfBoundsException"
abbrev cn_IA : String := "java/lang/IllegalArgumentException"
def cn_PH (D : va_G) (cy : Nat → ClassId) (av : List Value) (w : va_W) (sz : Nat) : Array Value → State → Prop := va_Pc av (fun U => U.heap.size = sz ∧ va_P D cn_cl w U.heap ∧ va_K D cn_cl (cn_ty cy) U ∧ va_D (fun _ => True) w ∧ cn_N U ∧ cn_Th U ∧ va_Nc cn_IA cn_IO U)
theorem cn_PH.blind {D : va_G} {cy : Nat → ClassId} {av : List Value} {w : va_W} {sz : Nat} : FrameBlind (cn_PH D cy av w sz) := fun a U g mk h => by
  obtain ⟨h0, h1, h2, h3, h4, h5, h6, h7⟩ := h
  exact ⟨h0, h1, h2, va_K.moved (u := U) (U := U.calling g mk a) (Vm.Alike.refl U.vm) h3, h4, h5.same rfl, cn_Th.same (s := U) (U := U.calling g mk a) rfl rfl h6, va_Nc.moved (u := U) (U := U.calling g mk a) (Vm.Alike.refl U.vm) h7⟩
def cn_MH (l : Launch) (y : MethodName) (b : ByteArray) (n : Nat) (r : Option FieldType) (hh : List (Nat × Nat × Nat × Nat)) (rm : Room) (D : va_G) (cy : Nat → ClassId) (av : List Value) (w : va_W) (v : Option Value) (w' : va_W) (mc ms : Nat) : Prop := ∀ sz, Met l y (.codeWith y b n r hh :: cn_tb) rm (cn_PH D cy av w sz) (cn_QW v D w' (va_A w sz)) mc ms (va_A w sz)
def cn_XH (l : Launch) (s : State) (meth : Method) (c : Code) (A : Nat → Prop) (hh : List (Nat × Nat × Nat × Nat)) : Prop := l.stackTraces = false ∧ cn_Th s ∧ c.exceptionTable.toList.map (fun h => (h.startPc, h.endPc, h.handlerPc, h.catchType)) = hh ∧ meth.locks = false ∧ (∀ q, s.heap.size ≤ q → A q) ∧ (∀ (q : Nat) (cell : Cell), A q → s.heap[q]? = some cell → cell.vm.isStatics = false) ∧ va_Nc cn_IA cn_IO s
theorem cn_XH.stat {l : Launch} {s : State} {meth : Method} {c : Code} {A : Nat → Prop} {hh : List (Nat × Nat × Nat × Nat)} (h : cn_XH l s meth c A hh) {H : Heap} {locs : List Loc} (hS : va_S A s.heap H locs) : cn_stat s.heap H := fun a cell h1 h2 => by
  rw [hS.2.1 a (Array.getElem?_eq_some_iff.mp h1).1 (fun z => by rw [h.2.2.2.2.2.1 a cell z h1] at h2; cases h2)]
  exact h1
theorem cn_MH.of {l : Launch} {y : MethodName} {b : ByteArray} {n : Nat} {r : Option FieldType} {hh : List (Nat × Nat × Nat × Nat)} {rm : Room} {D : va_G} {cy : Nat → ClassId} {av : List Value} {w : va_W} {v : Option Value} {w' : va_W} {mc ms : Nat} (hl : l.stackTraces = false) (hy : plainName y.cls = true) (hn : (lg_sl av).length ≤ n)
    (body : ∀ (p : Program) (e : Env) (s : State) (m : MethodId) (below : List Frame) (meth : Method) (c : Code) (A : Nat → Prop), cn_X p s m av.toArray c b n y.cls D cy → meth.sig.returnType = r → cn_XH l s meth c A hh →
      cg p l e rm s m av.toArray below meth c D (va_S A s.heap) A n 0 0 (MQ below (cn_QW v D w' A) av.toArray s mc ms A) w 0 (lv_args 0 av) []) : cn_MH l y b n r hh rm D cy av w v w' mc ms := by
  intro sz
  refine va_MetW (cc := b) (maxL := n) (ret := r) (hh := hh) hy rfl ?_
  intro p e s m args below meth c s₁ B hml hv
  obtain ⟨rfl, hsz, hP, hK, hD, hN, hT, hNc⟩ := hv
  subst hsz
  have hts := atoms_spec (ws := .codeWith y b n r hh :: cn_tb) B.pre
  have htab : c.exceptionTable.toList.map (fun h => (h.startPc, h.endPc, h.handlerPc, h.catchType)) = hh := by
    obtain ⟨m9, me9, c9, q1, q2, q3, -, -, q6, -⟩ := Cond.codeWith_spec (hts _ List.mem_cons_self)
    cases Option.some.inj (q1.symm.trans B.named)
    cases Option.some.inj (q2.symm.trans B.method)
    cases Option.some.inj (q3.symm.trans (Stand.of_body B).code)
    exact q6
  rw [lg_entry_eq]
  exact body p e s m below meth c _ ⟨B.exec, B.bytes, hml, findClass_of_methodNamed B.named, fun w hw => hts w (List.mem_cons_of_mem _ hw), hK, hN⟩ B.returns ⟨hl, hT, htab, B.notSynchronized, fun q h => Or.inr h, fun q cell h1 h2 => cn_wst hP h1 h2, hNc⟩ s.heap [] _ hP hD.self va_S.rf (lv_entry av hn)
section HE
variable {p : Program} {l : Launch} {e : Env} {R : Room} {s : State} {m : MethodId} {args : Array Value} {below : List Frame} {meth : Method} {c : Code} {D : va_G} {A : Nat → Prop} {nL cells slots : Nat} {Q : State → Prop} {ws : va_W} {pc : Nat} {lv : List (Nat × Value)} {st st0 st1 : List Value} {cc : ByteArray} {own : String} {cy : Nat → ClassId}
variable {y : MethodName} {b : ByteArray} {n ix a ci N mc ms : Nat} {r : Option FieldType} {rm : Room} {As fs : List Value} {w w' wr ws' : va_W} {v : Option Value} {T0 : u_T} {E : String} {hh : List (Nat × Nat × Nat × Nat)} {r0 r1 : Nat × Nat × Nat × Nat}
/-- a call of an instance's method that throws, up to the note over this frame -/
theorem cn_toNote (C : cn_X p s m args c cc nL own D cy) (HX : cn_XH l s meth c A hh) (hM : cn_MT l y b n r rm D cy (.ref a :: As) w E w' mc ms) (isC isR pm : List Nat) (wr ws' : va_W) (hC : isC.map (fun i => ws[i]?) = w.map some) (hR0 : isR.map (fun i => ws[i]?) = wr.map some) (hpm : pm.map (fun i => (wr ++ w')[i]?) = ws'.map some) (hnd : va_nd isC = true ∧ va_nd isR = true ∧ va_nd pm = true ∧ ∀ i ∈ isR, i ∉ isC) (q0 : Nat) (he : w[q0]? = some (a, .inr (ci, fs))) (hc : cn_cl[ci]? = some (y.cls, T0, N))
    (hd : decode cc pc = .ok (.invokevirtual ix, 3)) (hl : Cond.methodLink own ix y ∈ cn_tb) (hi : Cond.instanceMethod y ∈ cn_tb) (hse : Cond.selects y.cls y y ∈ cn_tb) (hini : Cond.initialized y.cls ∈ cn_tb) (hco : Cond.code y b n r ∈ cn_tb)
    (hsig : y.cls ≠ "java/lang/invoke/MethodHandle" ∧ y.cls ≠ "java/lang/invoke/VarHandle" ∧ (parseMethodDescriptor y.desc).map (fun d => d.parameters.length) = some As.length) (hR : rm.frames + 1 ≤ R.frames ∧ 8 + (n + 11) + rm.locals ≤ R.locals) (h0 : rm.cells = mc) (h1 : rm.slots = ms) (hcs : cells + mc ≤ R.cells ∧ slots + ms ≤ R.slots)
    (hW : (st.map fun v => v.category).sum ≤ 8) {H : Heap} {locs : List Loc} {ls : Array Slot} (hP : va_P D cn_cl ws H) (hD : va_D A ws) (hS : va_S A s.heap H locs) (h : lv_has ls nL lv) {T : State} (hT : T.heap = H) (X : Stand p l e R s m args below meth c T locs cells slots) :
    ∃ (q : Addr) (ce : Cell) (T' : State) (L : List Loc), Stand p l e R s m args below meth c T' L (cells + mc) (slots + ms) ∧ (T'.heap[q]? = some ce ∧ ce.vm = .none ∧ s.vm.findClass E = some ce.cls) ∧ va_P D cn_cl ws' T'.heap ∧ va_D A ws' ∧ va_S A s.heap T'.heap L ∧ Steps p.tables e below (T.setTop (F0 m pc ls (As.reverse ++ .ref a :: st))) ((T'.setTop (F0 m pc ls st)).pushFrame (.throwing q)) := by
  have hPc := cn_subP hP hC
  have hDc : va_D (fun _ => True) w := (hD.sub isC hnd.1 hC).weaken (fun _ _ _ _ => trivial)
  have hF := va_free (wc := w) hD hS HX.2.2.2.2.1 isC hC
  have hts := C.2.2.2.2.1
  obtain ⟨mk, mM, hn, hmM, hsM, haM⟩ := Cond.instanceMethod_spec (hts _ hi)
  obtain ⟨mM', cM, hmM', -, -, -, -, -, -, hgM⟩ := Cond.code_spec hn (hts _ hco)
  cases hmM.symm.trans hmM'
  obtain ⟨cB, hcB, hoB, hclB⟩ := va_recv C.2.2.2.2.2.1 hPc hc he
  obtain ⟨c2, r2, m2, q1, q2, q3, q4, kP, hkP, hkPi⟩ := Cond.selects_spec (hts _ hse)
  cases hclB.symm.trans q1
  cases (State.methodFound?_of_named hn ⟨hsig.1, hsig.2.1⟩).symm.trans q2
  cases hn.symm.trans q3
  have hsel : selectMethod e.platform s.vm cB.cls mk = .method mk := by rw [Launch.admits_selectMethod X.admits]; exact q4
  have hlen : As.length = mM.sig.parameters.length := by
    have h9 := hsig.2.2
    rw [hgM] at h9
    exact (Option.some.inj h9).symm
  obtain ⟨vm1, X1, st1⟩ := X.invokevirtual C.1 C.2.2.2.1 (hts _ hl) hn hmM hsM hkP hkPi ⟨hsig.1, hsig.2.1⟩ (a := a) (cell := cB) (by rw [hT]; exact hcB) (fun z h => by rw [h] at hoB; cases hoB) hsel hmM haM hkP hkPi (g := F0 m pc ls (As.reverse ++ .ref a :: st)) rfl (argsL := As) (rest := st) hlen rfl (by rw [C.2.1]; exact hd)
  obtain ⟨q, ce, T', L, X', hq, ⟨k1, k2⟩, k3, k4, k5⟩ := cn_thrown X1 (hM H.size) hco hts hini hn hR h0 h1 hcs cn_PT.blind
    (show cn_PT D cy (.ref a :: As) w H.size (Value.ref a :: As).toArray (T.setVm vm1) from ⟨rfl, by rw [← hT]; rfl, by show va_P D cn_cl w T.heap; rw [hT]; exact hPc, va_K.moved X1.warmed.alike C.2.2.2.2.2.1, hDc, C.2.2.2.2.2.2.warm X1.warmed, HX.2.1.go X1.warmed (by show cn_stat s.heap T.heap; rw [hT]; exact HX.stat hS)⟩)
    (g := F0 m pc ls st) rfl (h.1.trans C.2.2.1.symm) (by rw [C.2.1]; exact hd) (lv_room hW)
  have k3' : H.size ≤ T'.heap.size ∧ ∀ q, q < H.size → ¬ va_A w H.size q → T'.heap[q]? = H[q]? := by
    have h9 : va_F (va_A w H.size) (T.setVm vm1) T' := k3
    have e9 : (T.setVm vm1).heap = H := hT
    exact ⟨by rw [← e9]; exact h9.1, fun q z1 z2 => by rw [h9.2 q (by rw [e9]; exact z1) z2, e9]⟩
  obtain ⟨g1, g2⟩ := cn_back hP hD hC hR0 hnd.2.1 hnd.2.2.2 k3'.2 hF k1 k2 hpm hnd.2.2.1
  exact ⟨q, ce, T', _, X', hq, g1, g2, cn_Sback hS hF k3' k4, st1 _ (fun acts => by rw [doInvoke_state]; exact k5)⟩
theorem cg_catch1 (C : cn_X p s m args c cc nL own D cy) (HX : cn_XH l s meth c A (r0 :: hh)) (hM : cn_MT l y b n r rm D cy (.ref a :: As) w cn_IO w' mc ms) (isC isR pm : List Nat) (wr ws' : va_W) (hC : isC.map (fun i => ws[i]?) = w.map some) (hR0 : isR.map (fun i => ws[i]?) = wr.map some) (hpm : pm.map (fun i => (wr ++ w')[i]?) = ws'.map some) (hnd : va_nd isC = true ∧ va_nd isR = true ∧ va_nd pm = true ∧ ∀ i ∈ isR, i ∉ isC) (q0 : Nat) (he : w[q0]? = some (a, .inr (ci, fs))) (hc : cn_cl[ci]? = some (y.cls, T0, N))
    (hd : decode cc pc = .ok (.invokevirtual ix, 3)) (hl : Cond.methodLink own ix y ∈ cn_tb) (hi : Cond.instanceMethod y ∈ cn_tb) (hse : Cond.selects y.cls y y ∈ cn_tb) (hini : Cond.initialized y.cls ∈ cn_tb) (hco : Cond.code y b n r ∈ cn_tb)
    (hsig : y.cls ≠ "java/lang/invoke/MethodHandle" ∧ y.cls ≠ "java/lang/invoke/VarHandle" ∧ (parseMethodDescriptor y.desc).map (fun d => d.parameters.length) = some As.length) (hR : rm.frames + 1 ≤ R.frames ∧ 8 + (n + 11) + rm.locals ≤ R.locals) (h0 : rm.cells = mc) (h1 : rm.slots = ms) (hcs : cells + mc ≤ R.cells ∧ slots + ms ≤ R.slots)
    (hW : (st.map fun v => v.category).sum ≤ 8) (hst : As.reverse ++ .ref a :: st = st0) (hcov : r0.1 ≤ pc ∧ pc < r0.2.1) (hz : r0.2.2.2 ≠ 0) (hk : Cond.classLink own r0.2.2.2 cn_IO ∈ cn_tb) (hca : Cond.castable cn_IO cn_IO ∈ cn_fw)
    (k : ∀ q, cg p l e R s m args below meth c D (va_S A s.heap) A nL (cells + mc) (slots + ms) Q ws' r0.2.2.1 lv [.ref q]) : cg p l e R s m args below meth c D (va_S A s.heap) A nL cells slots Q ws pc lv st0 := by
  subst hst
  intro H locs ls hP hD hS h T hT X
  obtain ⟨q, ce, T', L, X', hq, g1, g2, g3, stp⟩ := cn_toNote C HX hM isC isR pm wr ws' hC hR0 hpm hnd q0 he hc hd hl hi hse hini hco hsig hR h0 h1 hcs hW hP hD hS h hT X
  obtain ⟨vm', X2, st2⟩ := cn_catch1 X' C.2.2.2.1 HX.2.2.1 (g := F0 m pc ls st) rfl hcov hz (C.2.2.2.2.1 _ hk) (va_tabs rfl rfl (HX.2.1.1 _ hca)) hq
  obtain ⟨t, a1, b1⟩ := k q T'.heap L ls g1 g2 g3 h (T'.setVm vm') rfl X2
  exact ⟨t, stp.trans (st2 t a1), b1⟩
theorem cg_catch2 (C : cn_X p s m args c cc nL own D cy) (HX : cn_XH l s meth c A (r0 :: r1 :: hh)) (hM : cn_MT l y b n r rm D cy (.ref a :: As) w cn_IA w' mc ms) (isC isR pm : List Nat) (wr ws' : va_W) (hC : isC.map (fun i => ws[i]?) = w.map some) (hR0 : isR.map (fun i => ws[i]?) = wr.map some) (hpm : pm.map (fun i => (wr ++ w')[i]?) = ws'.map some) (hnd : va_nd isC = true ∧ va_nd isR = true ∧ va_nd pm = true ∧ ∀ i ∈ isR, i ∉ isC) (q0 : Nat) (he : w[q0]? = some (a, .inr (ci, fs))) (hc : cn_cl[ci]? = some (y.cls, T0, N))
    (hd : decode cc pc = .ok (.invokevirtual ix, 3)) (hl : Cond.methodLink own ix y ∈ cn_tb) (hi : Cond.instanceMethod y ∈ cn_tb) (hse : Cond.selects y.cls y y ∈ cn_tb) (hini : Cond.initialized y.cls ∈ cn_tb) (hco : Cond.code y b n r ∈ cn_tb)
    (hsig : y.cls ≠ "java/lang/invoke/MethodHandle" ∧ y.cls ≠ "java/lang/invoke/VarHandle" ∧ (parseMethodDescriptor y.desc).map (fun d => d.parameters.length) = some As.length) (hR : rm.frames + 1 ≤ R.frames ∧ 8 + (n + 11) + rm.locals ≤ R.locals) (h0 : rm.cells = mc) (h1 : rm.slots = ms) (hcs : cells + mc ≤ R.cells ∧ slots + ms ≤ R.slots)
    (hW : (st.map fun v => v.category).sum ≤ 8) (hst : As.reverse ++ .ref a :: st = st0) (hcov : r0.1 ≤ pc ∧ pc < r0.2.1) (hz : r0.2.2.2 ≠ 0) (hcov1 : r1.1 ≤ pc ∧ pc < r1.2.1) (hz1 : r1.2.2.2 ≠ 0) (hk : Cond.classLink own r0.2.2.2 cn_IO ∈ cn_tb) (hk1 : Cond.classLink own r1.2.2.2 cn_IA ∈ cn_tb) (hca : Cond.castable cn_IA cn_IA ∈ cn_fw)
    (k : ∀ q, cg p l e R s m args below meth c D (va_S A s.heap) A nL (cells + mc) (slots + ms) Q ws' r1.2.2.1 lv [.ref q]) : cg p l e R s m args below meth c D (va_S A s.heap) A nL cells slots Q ws pc lv st0 := by
  subst hst
  intro H locs ls hP hD hS h T hT X
  obtain ⟨q, ce, T', L, X', hq, g1, g2, g3, stp⟩ := cn_toNote C HX hM isC isR pm wr ws' hC hR0 hpm hnd q0 he hc hd hl hi hse hini hco hsig hR h0 h1 hcs hW hP hD hS h hT X
  obtain ⟨vm', X2, st2⟩ := cn_catch2 X' C.2.2.2.1 HX.2.2.1 (g := F0 m pc ls st) rfl hcov hz hcov1 hz1 (C.2.2.2.2.1 _ hk) HX.2.2.2.2.2.2 (C.2.2.2.2.1 _ hk1) (va_tabs rfl rfl (HX.2.1.1 _ hca)) hq
  obtain ⟨t, a1, b1⟩ := k q T'.heap L ls g1 g2 g3 h (T'.setVm vm') rfl X2
  exact ⟨t, stp.trans (st2 t a1), b1⟩
/-- a call of such a method: static, with handlers of its own -/
theorem cg_callHS (C : cn_X p s m args c cc nL own D cy) (HA : (∀ q, s.heap.size ≤ q → A q) ∧ cn_Th s ∧ va_Nc cn_IA cn_IO s ∧ ∀ (q : Nat) (cell : Cell), A q → s.heap[q]? = some cell → cell.vm.isStatics = false) (hM : cn_MH l y b n r hh rm D cy As w v w' mc ms) (isC isR pm : List Nat) (wr ws' : va_W) (hC : isC.map (fun i => ws[i]?) = w.map some) (hR0 : isR.map (fun i => ws[i]?) = wr.map some) (hpm : pm.map (fun i => (wr ++ w')[i]?) = ws'.map some) (hnd : va_nd isC = true ∧ va_nd isR = true ∧ va_nd pm = true ∧ ∀ i ∈ isR, i ∉ isC)
    (hd : decode cc pc = .ok (.invokestatic ix, 3)) (hl : Cond.methodLink own ix y ∈ cn_tb) (hi : Cond.static y ∈ cn_tb) (hini : Cond.initialized y.cls ∈ cn_tb) (hco : Cond.codeWith y b n r hh ∈ cn_tb)
    (hsig : y.cls ≠ "java/lang/invoke/MethodHandle" ∧ y.cls ≠ "java/lang/invoke/VarHandle" ∧ (parseMethodDescriptor y.desc).map (fun d => d.parameters.length) = some As.length) (hR : rm.frames + 1 ≤ R.frames ∧ 8 + (n + 11) + rm.locals ≤ R.locals) (h0 : rm.cells = mc) (h1 : rm.slots = ms) (hcs : cells + mc ≤ R.cells ∧ slots + ms ≤ R.slots)
    (hW : (st.map fun v => v.category).sum ≤ 8) (hst : As.reverse ++ st = st0) (hst1 : v.toList ++ st = st1) (k : cg p l e R s m args below meth c D (va_S A s.heap) A nL (cells + mc) (slots + ms) Q ws' (pc + 3) lv st1) : cg p l e R s m args below meth c D (va_S A s.heap) A nL cells slots Q ws pc lv st0 := by
  subst hst; subst hst1
  intro H locs ls hP hD hS h
  have hPc := cn_subP hP hC
  have hDc : va_D (fun _ => True) w := (hD.sub isC hnd.1 hC).weaken (fun _ _ _ _ => trivial)
  have hF := va_free (wc := w) hD hS HA.1 isC hC
  have hts := C.2.2.2.2.1
  have hgood : GoodIn cn_tb (.codeWith y b n r hh :: cn_tb) := fun w hw => by
    have h1 : w ∈ cn_tb := by
      rcases List.mem_cons.mp hw with e | e
      · rw [e]; exact hco
      · exact e
    exact ⟨h1, good_of_word (List.mem_filter.mp h1).2⟩
  have hws := pay_in hts hgood
  have hK : Back l R p e below s args y 3 8 (PreOf R mc ms (cn_PH D cy As w H.size)) (PostOf (cn_QW v D w' (va_A w H.size)) mc ms (va_A w H.size)) :=
    va_backW (bytes := b) (maxL := n) (ret := r) (hh := hh) (hM H.size) cn_PH.blind h0 h1 hR.1 hR.2 hws List.mem_cons_self (fun a' U hW => hws _ (List.mem_cons_of_mem _ hini) a' U hW)
  refine cn_finW (D := D) (w := w) (w' := w') (v := v) (st := st) (ar := As.toArray) (mc := mc) (ms := ms) ?_ hS hF (fun H1 locs1 hP1 hD1 hk1 hS1 => ?_)
  · intro T hT X
    obtain ⟨mk, mM, cM, hn, hmM, -, -, -, -, -, -, hsM⟩ := Cond.codeWith_spec (hts _ hco)
    obtain ⟨kP, hkP, -⟩ := className_of_methodNamed hn
    have hlen : As.length = mM.sig.parameters.length := by
      have h9 := hsig.2.2
      rw [hsM] at h9
      exact (Option.some.inj h9).symm
    obtain ⟨vm1, X1, st1⟩ := X.invokestatic C.1 C.2.2.2.1 (hts _ hl) hn hmM (Cond.static_spec hn hmM (hts _ hi)) hkP (Cond.initialized_spec (findClass_of_methodNamed hn) hkP (hts _ hini)) ⟨hsig.1, hsig.2.1⟩ (g := F0 m pc ls (As.reverse ++ st)) rfl (argsL := As) (rest := st) hlen rfl (by rw [C.2.1]; exact hd)
    obtain ⟨v', ⟨U', l2, c2, s2⟩, X', ⟨g', mk', t, L, e1, e2, hq, k1, hL, k2, k3⟩, stp⟩ := hK m meth c ⟨T.setVm vm1, locs, cells, slots⟩ (F0 m pc ls st) (.invokestatic ix) mk As.toArray X1 rfl (h.1.trans C.2.2.1.symm) (by rw [C.2.1]; exact hd) (lv_room hW) (X1.named hn)
      ⟨hcs.1, hcs.2, rfl, by show T.heap.size = H.size; rw [hT], by show va_P D cn_cl w T.heap; rw [hT]; exact hPc, va_K.moved X1.warmed.alike C.2.2.2.2.2.1, hDc, C.2.2.2.2.2.2.warm X1.warmed, HA.2.1.go X1.warmed (by
        show cn_stat s.heap T.heap
        rw [hT]
        intro a cell z1 z2
        rw [hS.2.1 a (Array.getElem?_eq_some_iff.mp z1).1 (fun z => by rw [HA.2.2.2 a cell z z1] at z2; cases z2)]
        exact z1), va_Nc.moved X1.warmed.alike HA.2.2.1⟩
    dsimp only [Pt.U, Pt.locs, Pt.cells, Pt.slots] at X' e1 e2 k1 k2 k3 stp
    subst k1; subst k2; subst k3
    exact ⟨v', (T.setVm vm1).calling g' mk' As.toArray, t, U', L, hT, X', hL, e1, e2, hq, fun target z => st1 _ (fun acts => by rw [doInvoke_state]; exact stp.trans z)⟩
  · obtain ⟨g1, g2⟩ := cn_back hP hD hC hR0 hnd.2.1 hnd.2.2.2 hk1 hF hP1 hD1 hpm hnd.2.2.1
    exact k H1 locs1 ls g1 g2 hS1 h
end HE
