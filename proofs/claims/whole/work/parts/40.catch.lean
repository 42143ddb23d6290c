/-! CATCHING, the catch type's entry resolved or not yet -/
section CA1
variable {Q : Handler → Pre} {E : CtlPost} {e : Env} {d : Bool} {acts : List Action} {s : State} {f : JFrame} {a : Addr}
theorem cn_look {x : ExceptionTableEntry} {t : List ExceptionTableEntry} {c : ClassId} {cell : Cell} (hx : covers x f.pc = true) (h0 : x.catchType ≠ 0) (hl : s.vm.ClassLinks e.platform f.method.cls x.catchType c) (hcell : s.heap[a]? = some cell) (hobj : ∀ k, cell.vm ≠ .statics k) (hk : ∃ k, s.vm.classes[cell.cls]? = some k) (hc : ∃ k, s.vm.classes[c]? = some k) :
    wp (findHandler.go f a (x :: t)) Q E e d acts s ↔ if s.vm.assignable cell.cls c = true then Q (.found x.handlerPc) d acts (s.setVm (s.vm.noted f.method.cls x.catchType (.cls c))) else wp (findHandler.go f a t) Q E e d acts (s.setVm (s.vm.noted f.method.cls x.catchType (.cls c))) := by
  simp only [covers] at hx
  obtain ⟨ha, ht⟩ := (resolveClass_links e.toSetting hl).op (op := VmOp.resolveClass f.method.cls x.catchType) rfl
  have hal : s.vm.Alike (s.vm.noted f.method.cls x.catchType (.cls c)) := (Vm.Alike.refl s.vm).noted _ _ _
  obtain ⟨k1, hk1⟩ := hk
  obtain ⟨k2, hk2⟩ := hc
  obtain ⟨k3, hk3, -⟩ := hal.2.2 _ _ hk1
  obtain ⟨k4, hk4, -⟩ := hal.2.2 _ _ hk2
  cases hfit : s.vm.assignable cell.cls c <;>
    simp [findHandler.go, hx, h0, ha, ht, hcell, hobj, hk3, hk4, hal.assignable, hfit, VmOp.dirties, VmOp.acts]
end CA1
theorem cn_stepTo {e : Env} {s : State} {a : Addr} {f : JFrame} {r : List Frame} {pc : Nat} {vm' : Vm} (hfind : ∀ (Q : Handler → Pre) (E : CtlPost) (d : Bool) (acts : List Action), wp (findHandler f a) Q E e d acts s ↔ Q (.found pc) d acts (s.setVm vm')) :
    (stepThrowing e s a (.java f :: r)).1 = (s.setVm vm').setFrames (.java { f with pc := pc, stack := [.ref a] } :: r) := by
  simp only [stepThrowing, searchFrame, vmDo]
  generalize hr : Sem.go _ e false [] s = res
  obtain ⟨as, rfl, ha⟩ := Sem.eq_ok_of hr (a := Handler.found pc) (s' := s.setVm vm') (acts' := []) (by simp [hfind _ _ _ _])
  rfl
section CA2
variable {p : Program} {l : Launch} {e : Env} {R : Room} {s : State} {m : MethodId} {args : Array Value} {below : List Frame} {meth : Method} {c : Code} {T : State} {locs : List Loc} {cells slots : Nat}
/-- from the note over the frame to the handler -/
theorem cn_into (X : Stand p l e R s m args below meth c T locs cells slots) {q : Addr} {g : JFrame} (hg : g.method = m) {pc : Nat} {vm' : Vm} (hfind : ∀ (Q : Handler → Pre) (E : CtlPost) (d : Bool) (acts : List Action), wp (findHandler g q) Q E e d acts ((T.setTop g).pushFrame (.throwing q)) ↔ Q (.found pc) d acts (((T.setTop g).pushFrame (.throwing q)).setVm vm')) {target : State}
    (h : Steps p.tables e below ((T.setVm vm').setTop { g with pc := pc, stack := [.ref q] }) target) : Steps p.tables e below ((T.setTop g).pushFrame (.throwing q)) target := by
  subst hg
  obtain ⟨hgo, hw⟩ := X.here.throwing q
  refine Steps.head hgo hw ?_
  obtain ⟨g0, hr⟩ := X.frames_eq
  have hr2 : (T.setVm vm').frames = .java g0 :: below := hr
  rw [stepThread_throwing (frames_entered X.here.top _), cn_stepTo hfind]
  rw [State.setTop_of_frames _ hr2] at h
  have e1 : (((T.setTop g).pushFrame (.throwing q)).setVm vm').setFrames (.java { g with pc := pc, stack := [.ref q] } :: T.frames.tail) = (T.setVm vm').setFrames (.java { g with pc := pc, stack := [.ref q] } :: below) := by
    rw [State.setTop_of_frames _ hr, hr]
    show (((T.setFrames _).setFrames _).setVm vm').setFrames _ = _
    rw [State.setFrames_setFrames]
    show ((T.setVm vm').setFrames _).setFrames _ = _
    rw [State.setFrames_setFrames]
    rfl
  rw [e1]
  exact h
theorem cn_catch1 (X : Stand p l e R s m args below meth c T locs cells slots) {own name E : String} (hown : s.vm.findClass own = some m.cls) {hh : List (Nat × Nat × Nat × Nat)} {r0 : Nat × Nat × Nat × Nat} (htab : c.exceptionTable.toList.map (fun h => (h.startPc, h.endPc, h.handlerPc, h.catchType)) = r0 :: hh) {g : JFrame} (hg : g.method = m) (hcov : r0.1 ≤ g.pc ∧ g.pc < r0.2.1) (h0 : r0.2.2.2 ≠ 0)
    (hlink : (Cond.classLink own r0.2.2.2 name).before args s = true) (hcast : (Cond.castable E name).before args s = true) {q : Addr} {ce : Cell} (hq : T.heap[q]? = some ce ∧ ce.vm = .none ∧ s.vm.findClass E = some ce.cls) :
    ∃ vm', Stand p l e R s m args below meth c (T.setVm vm') locs cells slots ∧ ∀ target, Steps p.tables e below ((T.setVm vm').setTop { g with pc := r0.2.2.1, stack := [.ref q] }) target → Steps p.tables e below ((T.setTop g).pushFrame (.throwing q)) target := by
  subst hg
  cases htl : c.exceptionTable.toList with
  | nil => rw [htl] at htab; cases htab
  | cons x xs =>
    rw [htl, List.map_cons] at htab
    obtain ⟨hx, -⟩ := List.cons.inj htab
    subst hx
    have hpl : e.platform.magicAccessors = ({} : Platform).magicAccessors := by rw [X.admits.platform]
    obtain ⟨cE, cN, k1, k2, k3⟩ := Cond.castable_spec hcast
    cases Option.some.inj (k1.symm.trans hq.2.2)
    obtain ⟨c', hc', hcl⟩ := Cond.classLink_spec hown hlink e.platform hpl
    cases Option.some.inj (k2.symm.trans hc')
    have hcl : s.vm.ClassLinks e.platform g.method.cls x.catchType cN := hcl
    have h1 : x.startPc ≤ g.pc := hcov.1
    have h2 : g.pc < x.endPc := hcov.2
    have hcv : covers x g.pc = true := by simp [covers, h1, h2]
    have hcl0 : T.vm.ClassLinks e.platform g.method.cls x.catchType cN := X.warmed.classLinks hcl
    obtain ⟨dk, _, _, kt, hd, _, _, _, _, hkt, _, hopen⟩ := hcl.here
    have hal := X.warmed.alike
    obtain ⟨kt', hkt', -⟩ := hal.2.2 _ _ hkt
    have hfit : T.vm.assignable ce.cls cN = true := by rw [hal.assignable]; exact k3
    refine ⟨_, X.noted (X.warmed.noted hd hopen (State.rightAt_cls hcl)), fun target h => ?_⟩
    refine cn_into X rfl (fun Q E d acts => ?_) h
    rw [W.findHandler_eq (s := (T.setTop g).pushFrame (.throwing q)) (meth := meth) (code := c) X.method' X.code, htl]
    exact (cn_look (s := (T.setTop g).pushFrame (.throwing q)) (c := cN) (cell := ce) hcv h0 hcl0 hq.1 (VmData.ne_statics_of (by rw [hq.2.1]; rfl)) (Vm.classAt_of_assignable hfit ⟨kt', hkt'⟩) ⟨kt', hkt'⟩).trans (by
      have hf2 : ((T.setTop g).pushFrame (.throwing q)).vm.assignable ce.cls cN = true := hfit
      rw [if_pos hf2]
      exact Iff.rfl)
/-- .. the first row passed, the second takes it -/
theorem cn_catch2 (X : Stand p l e R s m args below meth c T locs cells slots) {own name nm2 E : String} (hown : s.vm.findClass own = some m.cls) {hh : List (Nat × Nat × Nat × Nat)} {r0 r1 : Nat × Nat × Nat × Nat} (htab : c.exceptionTable.toList.map (fun h => (h.startPc, h.endPc, h.handlerPc, h.catchType)) = r0 :: r1 :: hh) {g : JFrame} (hg : g.method = m) (hcov : r0.1 ≤ g.pc ∧ g.pc < r0.2.1) (h0 : r0.2.2.2 ≠ 0) (hcov1 : r1.1 ≤ g.pc ∧ g.pc < r1.2.1) (h01 : r1.2.2.2 ≠ 0)
    (hlink0 : (Cond.classLink own r0.2.2.2 nm2).before args s = true) (hno : va_Nc E nm2 s) (hlink : (Cond.classLink own r1.2.2.2 name).before args s = true) (hcast : (Cond.castable E name).before args s = true) {q : Addr} {ce : Cell} (hq : T.heap[q]? = some ce ∧ ce.vm = .none ∧ s.vm.findClass E = some ce.cls) :
    ∃ vm', Stand p l e R s m args below meth c (T.setVm vm') locs cells slots ∧ ∀ target, Steps p.tables e below ((T.setVm vm').setTop { g with pc := r1.2.2.1, stack := [.ref q] }) target → Steps p.tables e below ((T.setTop g).pushFrame (.throwing q)) target := by
  subst hg
  cases htl : c.exceptionTable.toList with
  | nil => rw [htl] at htab; cases htab
  | cons x xs =>
    cases hxs : xs with
    | nil => rw [htl, hxs] at htab; cases htab
    | cons z zs =>
    subst hxs
    rw [htl, List.map_cons, List.map_cons] at htab
    obtain ⟨hx, htab⟩ := List.cons.inj htab
    obtain ⟨hz, -⟩ := List.cons.inj htab
    subst hx
    subst hz
    have hpl : e.platform.magicAccessors = ({} : Platform).magicAccessors := by rw [X.admits.platform]
    obtain ⟨cE, cN, k1, k2, k3⟩ := Cond.castable_spec hcast
    cases Option.some.inj (k1.symm.trans hq.2.2)
    obtain ⟨c', hc', hcl⟩ := Cond.classLink_spec hown hlink e.platform hpl
    cases Option.some.inj (k2.symm.trans hc')
    obtain ⟨c0, hc0, hcl0⟩ := Cond.classLink_spec hown hlink0 e.platform hpl
    obtain ⟨cE2, c02, j1, j2, j3⟩ := hno
    cases Option.some.inj (j1.symm.trans hq.2.2)
    cases Option.some.inj (j2.symm.trans hc0)
    have hcl : s.vm.ClassLinks e.platform g.method.cls z.catchType cN := hcl
    have hcl0 : s.vm.ClassLinks e.platform g.method.cls x.catchType c0 := hcl0
    have h1 : x.startPc ≤ g.pc := hcov.1
    have h2 : g.pc < x.endPc := hcov.2
    have hcv : covers x g.pc = true := by simp [covers, h1, h2]
    have h3 : z.startPc ≤ g.pc := hcov1.1
    have h4 : g.pc < z.endPc := hcov1.2
    have hcv1 : covers z g.pc = true := by simp [covers, h3, h4]
    obtain ⟨dk, _, _, kt, hd, _, _, _, _, hkt, _, hopen⟩ := hcl.here
    obtain ⟨dk0, _, _, kt0, hd0, _, _, _, _, hkt0, _, hopen0⟩ := hcl0.here
    have hal := X.warmed.alike
    obtain ⟨kE, hkE, -⟩ := Vm.findClass_spec hq.2.2
    obtain ⟨kE', hkE', -⟩ := hal.2.2 _ _ hkE
    obtain ⟨kt', hkt', -⟩ := hal.2.2 _ _ hkt
    obtain ⟨kt0', hkt0', -⟩ := hal.2.2 _ _ hkt0
    have hW1 : s.WarmedH (T.vm.noted g.method.cls x.catchType (.cls c0)) := X.warmed.noted hd0 hopen0 (State.rightAt_cls hcl0)
    have hal1 := hW1.alike
    obtain ⟨kE1, hkE1, -⟩ := hal1.2.2 _ _ hkE
    obtain ⟨kt1, hkt1, -⟩ := hal1.2.2 _ _ hkt
    have hW2 : s.WarmedH ((T.vm.noted g.method.cls x.catchType (.cls c0)).noted g.method.cls z.catchType (.cls cN)) := hW1.noted hd hopen (State.rightAt_cls hcl)
    have hnf : ¬ T.vm.assignable ce.cls c0 = true := by rw [hal.assignable, j3]; decide
    have hfit : (T.vm.noted g.method.cls x.catchType (.cls c0)).assignable ce.cls cN = true := by rw [hal1.assignable]; exact k3
    refine ⟨_, X.noted hW2, fun target h => ?_⟩
    refine cn_into X rfl (fun Q E d acts => ?_) h
    rw [W.findHandler_eq (s := (T.setTop g).pushFrame (.throwing q)) (meth := meth) (code := c) X.method' X.code, htl]
    refine (cn_look (s := (T.setTop g).pushFrame (.throwing q)) (c := c0) (cell := ce) hcv h0 (X.warmed.classLinks hcl0) hq.1 (VmData.ne_statics_of (by rw [hq.2.1]; rfl)) ⟨kE', hkE'⟩ ⟨kt0', hkt0'⟩).trans ?_
    have hn2 : ¬ ((T.setTop g).pushFrame (.throwing q)).vm.assignable ce.cls c0 = true := hnf
    rw [if_neg hn2]
    refine (cn_look (s := ((T.setTop g).pushFrame (.throwing q)).setVm (T.vm.noted g.method.cls x.catchType (.cls c0))) (c := cN) (cell := ce) hcv1 h01 (hW1.classLinks hcl) hq.1 (VmData.ne_statics_of (by rw [hq.2.1]; rfl)) ⟨kE1, hkE1⟩ ⟨kt1, hkt1⟩).trans ?_
    have hf2 : (((T.setTop g).pushFrame (.throwing q)).setVm (T.vm.noted g.method.cls x.catchType (.cls c0))).vm.assignable ce.cls cN = true := hfit
    rw [if_pos hf2]
    exact Iff.rfl
end CA2
