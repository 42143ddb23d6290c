theorem cn_PT.blind {D : va_G} {cy : Nat → ClassId} {av : List Value} {w : va_W} {sz : Nat} : FrameBlind (cn_PT D cy av w sz) := fun a U g mk h => by
  obtain ⟨h0, h1, h2, h3, h4, h5, h6⟩ := h
  exact ⟨h0, h1, h2, va_K.moved (u := U) (U := U.calling g mk a) (Vm.Alike.refl U.vm) h3, h4, h5.same rfl, cn_Th.same (s := U) (U := U.calling g mk a) rfl rfl h6⟩
section TH3
variable {p : Program} {l : Launch} {e : Env} {R : Room} {s : State} {m : MethodId} {args : Array Value} {below : List Frame} {meth : Method} {c : Code} {D : va_G} {A : Nat → Prop} {nL cells slots : Nat} {ws : va_W} {pc : Nat} {lv : List (Nat × Value)} {st st0 : List Value} {cc : ByteArray} {own : String} {cy : Nat → ClassId}
variable {y : MethodName} {b : ByteArray} {n ix a ci N mc ms : Nat} {r : Option FieldType} {rm : Room} {As fs : List Value} {w w' wr ws' : va_W} {T0 : u_T} {E : String} {locs : List Loc} {T : State} {Pc : Array Value → State → Prop} {A1 : Nat → Prop} {ar : Array Value}
set_option maxHeartbeats 1000000 in
/-- the callee throws: the walk stands again, with the note of it over its frame -/
theorem cn_thrown (X : Stand p l e R s m args below meth c T locs cells slots) (hM : MetFree l y (headSpec (.code y b n r :: cn_tb) rm) Pc (fun _ _ _ _ _ => True) (cn_QT E D w' A1 mc ms)) (hco : Cond.code y b n r ∈ cn_tb) (hts : ∀ w ∈ cn_tb, w.before args s = true) (hini : Cond.initialized y.cls ∈ cn_tb) {mk : MethodId} (hn : s.methodNamed? y = some mk)
    (hR : rm.frames + 1 ≤ R.frames ∧ 8 + (n + 11) + rm.locals ≤ R.locals) (hrc : rm.cells = mc) (hrs : rm.slots = ms) (hcs : cells + mc ≤ R.cells ∧ slots + ms ≤ R.slots) (hbl : FrameBlind Pc) (hPc : Pc ar T) {g : JFrame} (hg : g.method = m) (hsize : g.locals.size = c.maxLocals) {ig : Instr} {len : Nat} (hdg : decode c.code g.pc = .ok (ig, len)) (hW : 2 * g.monitorRoom + (g.stack.map fun v => v.category).sum ≤ 8) :
    ∃ (q : Addr) (ce : Cell) (T' : State) (L : List Loc), Stand p l e R s m args below meth c T' (locs ++ L) (cells + mc) (slots + ms) ∧ (T'.heap[q]? = some ce ∧ ce.vm = .none ∧ s.vm.findClass E = some ce.cls) ∧ (va_P D cn_cl w' T'.heap ∧ va_D A1 w') ∧ va_F A1 T T' ∧ (∀ z ∈ L, A1 z.base) ∧ Steps p.tables e below (doInvoke e (T.setTop g) [] mk ar).1 ((T'.setTop g).pushFrame (.throwing q)) := by
  subst hg
  have hnT : T.methodNamed? y = some mk := X.named hn
  have hpay := pay_in hts (cn_gi hco)
  have hcodeT := hpay _ List.mem_cons_self ar T X.warmed
  have hiniT := hpay _ (List.mem_cons_of_mem _ hini) ar T X.warmed
  obtain ⟨my, cdy, hmy, hcy, -, hly, -⟩ := Cond.code_spec hnT hcodeT
  obtain ⟨ky, hky, -⟩ := className_of_methodNamed hnT
  have happ : (headSpec (.code y b n r :: cn_tb) rm).appliesLoose y e.platform (T.calling g mk ar) = true :=
    Spec.appliesLoose_calling X.here hdg hnT hky (Cond.initialized_spec (findClass_of_methodNamed hnT) hky hiniT)
      (X.room_calling (R' := rm) hsize hmy hcy hR.1 (by have := hR.2; rw [hly]; omega) (by rw [hrc]; exact hcs.1) (by rw [hrs]; exact hcs.2)) (atoms_intro fun w hw => hpay w hw ar T X.warmed)
  obtain ⟨mid, hmid⟩ := X.here.above
  have hfr : (T.setTop g).frames = (.java g :: mid) ++ below := by rw [State.frames_setTop' g X.here.top, hmid]; rfl
  obtain ⟨o, u, hsteps, -, hend, hq⟩ := Steps.callFree hM p X.admits X.cas X.clock (acts := []) hfr happ (hbl _ _ g mk hPc) trivial
  obtain ⟨q, ce, L, rfl, ⟨k1, k2, k3⟩, k4, k5, k6, ⟨e2, e3⟩, k8⟩ := hq
  have hf2 : u.frames = .throwing q :: .java g :: T.frames.tail := by
    have h9 : u.frames = .throwing q :: (T.setTop g).frames := hend
    rw [h9, State.frames_setTop' g X.here.top]
  have hWT : T.WarmedH u.vm := k6
  obtain ⟨g0, hg0⟩ := X.frames_eq
  obtain ⟨t0, ht0, -⟩ := State.frames_cons hg0
  generalize hT' : (({ T with heap := u.heap, slotsUsed := u.slotsUsed } : State).setVm u.vm) = T'
  have th : T'.heap = u.heap := by rw [← hT']; rfl
  have tf : T'.frames = .java g0 :: below := by rw [← hT']; exact hg0
  have hu : u = (T'.setTop g).pushFrame (.throwing q) := by
    have e4 : u = ({ u with vm := (T.calling g mk ar).vm } : State).setVm u.vm := rfl
    have e2' : ({ u with vm := (T.calling g mk ar).vm } : State) = { (T.calling g mk ar).setFrames u.frames with heap := u.heap, slotsUsed := u.slotsUsed } := e2
    rw [e2'] at e4
    refine e4.trans ?_
    rw [hf2, State.calling_eq X.here.top, State.setFrames_setFrames, State.pushFrame, State.frames_setTop _ tf, State.setTop_of_frames _ tf, State.setFrames_setFrames, ← hT', hg0]
    rfl
  have hsame : T.sameButNew ({ T with heap := u.heap, slotsUsed := u.slotsUsed } : State) L mc ms := by
    refine ⟨?_, e3⟩
    show ({ T with heap := u.heap, slotsUsed := u.slotsUsed } : State) = { T.setFrames T.frames with heap := u.heap, slotsUsed := u.slotsUsed }
    rw [State.setFrames_self ht0]
  refine ⟨q, ce, T', L, ?_, ⟨by rw [th]; exact k1, k2, ?_⟩, ⟨by rw [th]; exact k4.1, k4.2⟩, ?_, k8, by rw [← hu]; exact hsteps⟩
  · have hX := X.moved (T₂ := T') (l₂ := L) (c₂ := mc) (n₂ := ms) (by rw [← hT']; exact (X.here.setHeapUsed u.heap u.slotsUsed).setVm hWT.alike) (by rw [tf]; rfl) (by rw [← hT']; rfl) (by rw [← hT']; rfl) (by rw [← hT']; exact hWT) (by rw [← hT']; exact hsame.setVm T.vm)
    exact hX
  · have h9 : T.vm.findClass E = some ce.cls := k3
    rw [← X.warmed.alike.findClass]; exact h9
  · refine ⟨by rw [th]; exact k5.1, fun z h1 h2 => by rw [th]; exact k5.2 z h1 h2⟩
/-- .. and it goes on to the caller: no handler here -/
theorem cn_through {T' : State} {q : Addr} {ce : Cell} {L : List Loc} {ls : Array Slot} (C : cn_X p s m args c cc nL own D cy) (TX : cn_XT l s meth c A) (X : Stand p l e R s m args below meth c T' L cells slots) (hq : T'.heap[q]? = some ce ∧ ce.vm = .none ∧ s.vm.findClass E = some ce.cls) (hP : va_P D cn_cl ws T'.heap) (hD : va_D A ws) (hS : va_S A s.heap T'.heap L) {s0 : State}
    (hs : Steps p.tables e below s0 ((T'.setTop (F0 m pc ls st)).pushFrame (.throwing q))) : ∃ t, Steps p.tables e below s0 t ∧ cn_TQ below E D ws A args s cells slots t := by
  obtain ⟨h1, h2, h3, h4, h5⟩ := X.leaveThrown q (g := F0 m pc ls st) rfl rfl rfl (fun x hx => (TX.2.2.1 x hx).elim) TX.2.2.2.1
  exact ⟨_, hs.trans h1, .threw q, h2, h3, q, ce, L, rfl, hq, ⟨hP, hD⟩, ⟨hS.1, hS.2.1⟩, h4, h5, hS.2.2⟩
/-- what is written behind a call that threw -/
theorem cn_Sback {H0 H H1 : Heap} {L : List Loc} (hS : va_S A H0 H locs) (hF : ∀ q, va_A w H.size q → A q) (h : H.size ≤ H1.size ∧ ∀ q, q < H.size → ¬ va_A w H.size q → H1[q]? = H[q]?) (hL : ∀ z ∈ L, va_A w H.size z.base) : va_S A H0 H1 (locs ++ L) :=
  ⟨Nat.le_trans hS.1 h.1, fun q h1 h2 => by rw [h.2 q (Nat.lt_of_lt_of_le h1 hS.1) (fun z => h2 (hF q z))]; exact hS.2.1 q h1 h2, fun q hq => by
    rcases List.mem_append.mp hq with z | z
    · exact hS.2.2 q z
    · exact hF _ (hL q z)⟩
theorem cg_callTS (C : cn_X p s m args c cc nL own D cy) (TX : cn_XT l s meth c A) (hM : cn_MT l y b n r rm D cy As w E w' mc ms) (isC isR pm : List Nat) (wr ws' : va_W) (hC : isC.map (fun i => ws[i]?) = w.map some) (hR0 : isR.map (fun i => ws[i]?) = wr.map some) (hpm : pm.map (fun i => (wr ++ w')[i]?) = ws'.map some) (hnd : va_nd isC = true ∧ va_nd isR = true ∧ va_nd pm = true ∧ ∀ i ∈ isR, i ∉ isC)
    (hd : decode cc pc = .ok (.invokestatic ix, 3)) (hl : Cond.methodLink own ix y ∈ cn_tb) (hi : Cond.static y ∈ cn_tb) (hini : Cond.initialized y.cls ∈ cn_tb) (hco : Cond.code y b n r ∈ cn_tb)
    (hsig : y.cls ≠ "java/lang/invoke/MethodHandle" ∧ y.cls ≠ "java/lang/invoke/VarHandle" ∧ (parseMethodDescriptor y.desc).map (fun d => d.parameters.length) = some As.length) (hR : rm.frames + 1 ≤ R.frames ∧ 8 + (n + 11) + rm.locals ≤ R.locals) (h0 : rm.cells = mc) (h1 : rm.slots = ms) (hcs : cells + mc ≤ R.cells ∧ slots + ms ≤ R.slots)
    (hW : (st.map fun v => v.category).sum ≤ 8) (hst : As.reverse ++ st = st0) : cg p l e R s m args below meth c D (va_S A s.heap) A nL cells slots (cn_TQ below E D ws' A args s (cells + mc) (slots + ms)) ws pc lv st0 := by
  subst hst
  intro H locs ls hP hD hS h T hT X
  have hPc := cn_subP hP hC
  have hDc : va_D (fun _ => True) w := (hD.sub isC hnd.1 hC).weaken (fun _ _ _ _ => trivial)
  have hF := va_free (wc := w) hD hS TX.2.2.2.2.1 isC hC
  have hts := C.2.2.2.2.1
  obtain ⟨mk, hn⟩ := Cond.code_named (hts _ hco)
  obtain ⟨mM, cM, hmM, -, -, -, -, -, -, hsM⟩ := Cond.code_spec hn (hts _ hco)
  obtain ⟨kP, hkP, -⟩ := className_of_methodNamed hn
  have hlen : As.length = mM.sig.parameters.length := by
    have h9 := hsig.2.2
    rw [hsM] at h9
    exact (Option.some.inj h9).symm
  obtain ⟨vm1, X1, st1⟩ := X.invokestatic C.1 C.2.2.2.1 (hts _ hl) hn hmM (Cond.static_spec hn hmM (hts _ hi)) hkP (Cond.initialized_spec (findClass_of_methodNamed hn) hkP (hts _ hini)) ⟨hsig.1, hsig.2.1⟩ (g := F0 m pc ls (As.reverse ++ st)) rfl (argsL := As) (rest := st) hlen rfl (by rw [C.2.1]; exact hd)
  obtain ⟨q, ce, T', L, X', hq, ⟨k1, k2⟩, k3, k4, k5⟩ := cn_thrown X1 (hM H.size) hco hts hini hn hR h0 h1 hcs cn_PT.blind
    (show cn_PT D cy As w H.size As.toArray (T.setVm vm1) from ⟨rfl, by rw [← hT]; rfl, by show va_P D cn_cl w T.heap; rw [hT]; exact hPc, va_K.moved X1.warmed.alike C.2.2.2.2.2.1, hDc, C.2.2.2.2.2.2.warm X1.warmed, TX.2.1.go X1.warmed (by show cn_stat s.heap T.heap; rw [hT]; exact TX.stat hS)⟩)
    (g := F0 m pc ls st) rfl (h.1.trans C.2.2.1.symm) (by rw [C.2.1]; exact hd) (lv_room hW)
  have k3' : H.size ≤ T'.heap.size ∧ ∀ q, q < H.size → ¬ va_A w H.size q → T'.heap[q]? = H[q]? := by
    have h9 : va_F (va_A w H.size) (T.setVm vm1) T' := k3
    have e9 : (T.setVm vm1).heap = H := hT
    exact ⟨by rw [← e9]; exact h9.1, fun q z1 z2 => by rw [h9.2 q (by rw [e9]; exact z1) z2, e9]⟩
  obtain ⟨g1, g2⟩ := cn_back hP hD hC hR0 hnd.2.1 hnd.2.2.2 k3'.2 hF k1 k2 hpm hnd.2.2.1
  exact cn_through C TX X' hq g1 g2 (cn_Sback hS hF k3' k4) (st1 _ (fun acts => by rw [doInvoke_state]; exact k5))
theorem cg_callTV (C : cn_X p s m args c cc nL own D cy) (TX : cn_XT l s meth c A) (hM : cn_MT l y b n r rm D cy (.ref a :: As) w E w' mc ms) (isC isR pm : List Nat) (wr ws' : va_W) (hC : isC.map (fun i => ws[i]?) = w.map some) (hR0 : isR.map (fun i => ws[i]?) = wr.map some) (hpm : pm.map (fun i => (wr ++ w')[i]?) = ws'.map some) (hnd : va_nd isC = true ∧ va_nd isR = true ∧ va_nd pm = true ∧ ∀ i ∈ isR, i ∉ isC) (q0 : Nat) (he : w[q0]? = some (a, .inr (ci, fs))) (hc : cn_cl[ci]? = some (y.cls, T0, N))
    (hd : decode cc pc = .ok (.invokevirtual ix, 3)) (hl : Cond.methodLink own ix y ∈ cn_tb) (hi : Cond.instanceMethod y ∈ cn_tb) (hse : Cond.selects y.cls y y ∈ cn_tb) (hini : Cond.initialized y.cls ∈ cn_tb) (hco : Cond.code y b n r ∈ cn_tb)
    (hsig : y.cls ≠ "java/lang/invoke/MethodHandle" ∧ y.cls ≠ "java/lang/invoke/VarHandle" ∧ (parseMethodDescriptor y.desc).map (fun d => d.parameters.length) = some As.length) (hR : rm.frames + 1 ≤ R.frames ∧ 8 + (n + 11) + rm.locals ≤ R.locals) (h0 : rm.cells = mc) (h1 : rm.slots = ms) (hcs : cells + mc ≤ R.cells ∧ slots + ms ≤ R.slots)
    (hW : (st.map fun v => v.category).sum ≤ 8) (hst : As.reverse ++ .ref a :: st = st0) : cg p l e R s m args below meth c D (va_S A s.heap) A nL cells slots (cn_TQ below E D ws' A args s (cells + mc) (slots + ms)) ws pc lv st0 := by
  subst hst
  intro H locs ls hP hD hS h T hT X
  have hPc := cn_subP hP hC
  have hDc : va_D (fun _ => True) w := (hD.sub isC hnd.1 hC).weaken (fun _ _ _ _ => trivial)
  have hF := va_free (wc := w) hD hS TX.2.2.2.2.1 isC hC
  have hts := C.2.2.2.2.1
  obtain ⟨mk, mM, hn, hmM, hsM, haM⟩ := Cond.instanceMethod_spec (hts _ hi)
  obtain ⟨mM', cM, hmM', -, -, -, -, -, -, hgM⟩ := Cond.code_spec hn (hts _ hco)
  cases hmM.symm.trans hmM'
  obtain ⟨cB, hcB, hoB, hclB⟩ := va_recv C.2.2.2.2.2.1 hPc hc he
  obtain ⟨c2, r2, m2, q1, q2, q3, q4, kP, hkP, hkPi⟩ := Cond.selects_spec (hts _ hse)
  cases hclB.symm.trans q1
  cases (State.methodFound?_of_named hn ⟨hsig.1, hsig.2.1⟩).symm.trans q2
  cases hn.symm.trans q3
  have hsel : selectMethod e.platform s.vm cB.cls mk = .method mk := by rw [Launch.admits_selectMethod X.admits]; exact q4
  have hlen : As.length = mM.sig.parameters.length := by
    have h9 := hsig.2.2
    rw [hgM] at h9
    exact (Option.some.inj h9).symm
  obtain ⟨vm1, X1, st1⟩ := X.invokevirtual C.1 C.2.2.2.1 (hts _ hl) hn hmM hsM hkP hkPi ⟨hsig.1, hsig.2.1⟩ (a := a) (cell := cB) (by rw [hT]; exact hcB) (fun z h => by rw [h] at hoB; cases hoB) hsel hmM haM hkP hkPi (g := F0 m pc ls (As.reverse ++ .ref a :: st)) rfl (argsL := As) (rest := st) hlen rfl (by rw [C.2.1]; exact hd)
  obtain ⟨q, ce, T', L, X', hq, ⟨k1, k2⟩, k3, k4, k5⟩ := cn_thrown X1 (hM H.size) hco hts hini hn hR h0 h1 hcs cn_PT.blind
    (show cn_PT D cy (.ref a :: As) w H.size (Value.ref a :: As).toArray (T.setVm vm1) from ⟨rfl, by rw [← hT]; rfl, by show va_P D cn_cl w T.heap; rw [hT]; exact hPc, va_K.moved X1.warmed.alike C.2.2.2.2.2.1, hDc, C.2.2.2.2.2.2.warm X1.warmed, TX.2.1.go X1.warmed (by show cn_stat s.heap T.heap; rw [hT]; exact TX.stat hS)⟩)
    (g := F0 m pc ls st) rfl (h.1.trans C.2.2.1.symm) (by rw [C.2.1]; exact hd) (lv_room hW)
  have k3' : H.size ≤ T'.heap.size ∧ ∀ q, q < H.size → ¬ va_A w H.size q → T'.heap[q]? = H[q]? := by
    have h9 : va_F (va_A w H.size) (T.setVm vm1) T' := k3
    have e9 : (T.setVm vm1).heap = H := hT
    exact ⟨by rw [← e9]; exact h9.1, fun q z1 z2 => by rw [h9.2 q (by rw [e9]; exact z1) z2, e9]⟩
  obtain ⟨g1, g2⟩ := cn_back hP hD hC hR0 hnd.2.1 hnd.2.2.2 k3'.2 hF k1 k2 hpm hnd.2.2.1
  exact cn_through C TX X' hq g1 g2 (cn_Sback hS hF k3' k4) (st1 _ (fun acts => by rw [doInvoke_state]; exact k5))
end TH3
