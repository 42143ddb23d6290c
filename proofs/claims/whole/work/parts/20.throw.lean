/-! THROWS: what a throw needs of the tables, of the statics and of the text constants; a method that throws; its caller -/
def cn_fw : List Cond := tables_1.filter (fun w => w.onTables && w.keepsFace)
def cn_strs : List (String × Nat × String) := [("CopperNets", 199, "no such layer"), ("CopperNets", 211, "no such place"), ("CopperNets", 213, "no such size"), ("CopperNets", 88, "from is above to"), ("CopperNets", 201, "no such pin"), ("CopperNets", 104, "no such net"), ("CopperNets", 203, "no such piece"), ("CopperNets", 205, "nothing such to tell"), ("CopperNets", 135, "no such airline"), ("CopperNets", 161, "no such short")]
/-- a static of the machine's library that holds a reference or null -/
def cn_Hw (C n d : String) (U : State) : Prop := (Cond.laysStatic C n d).before #[] U = true ∧ (Cond.isRef (.static C n d)).before #[] U = true
def cn_Th (U : State) : Prop := (∀ w ∈ cn_fw, w.before #[] U = true) ∧ (cn_Hw Bundle.tN "UNASSIGNED_STACK" Bundle.steD U ∧ cn_Hw Bundle.tN "SUPPRESSED_SENTINEL" Bundle.listD U) ∧ ∀ q ∈ cn_strs, ∃ a, vk_R q.1 q.2.1 q.2.2 a U
/-- the cells that hold statics are as they were -/
def cn_stat (H H' : Heap) : Prop := ∀ (a : Nat) (cell : Cell), H[a]? = some cell → cell.vm.isStatics = true → H'[a]? = some cell
theorem cn_Hw.go {C n d : String} {s U : State} (hvm : s.vm.Alike U.vm) (hH : cn_stat s.heap U.heap) (h : cn_Hw C n d s) : cn_Hw C n d U := by
  obtain ⟨c, k, i, f, a, cell, hc, hi, hst, ha, hcell, hs, hcls, hlt, hty⟩ := Cond.laysStatic_spec (show (Cond.laysStatic C n d).holds #[] s none s [] = true from h.1)
  obtain ⟨k', hi', he⟩ := State.fieldFound?_setVm hvm hi
  have hi2 : U.fieldFound? C n d = some (c, k', i, f) := hi'
  have ha2 : k'.statics = some a := by rw [he]; exact ha
  have hcell2 : U.heap[a]? = some cell := hH a cell hcell hs
  refine ⟨?_, ?_⟩
  · show (Cond.laysStatic C n d).holds #[] U none U [] = true
    exact Cond.laysStatic_of (by rw [hvm.findClass]; exact hc) hi2 hst ha2 hcell2 hs hcls hlt (by rw [he]; exact hty)
  · have h2 := h.2
    simp only [Cond.before, Cond.holds, Cond.value, Term.eval, State.fieldNamed?] at h2 ⊢
    rw [hi] at h2
    rw [hi2]
    simp only [Option.bind_eq_bind, Option.bind_some, hst, beq_self_eq_true, if_true, Option.pure_def, ha, ha2, hcell, hcell2] at h2 ⊢
    exact h2
theorem cn_Th.go {s U : State} (hW : s.WarmedH U.vm) (hH : cn_stat s.heap U.heap) (h : cn_Th s) : cn_Th U := by
  refine ⟨fun w hw => ?_, ⟨h.2.1.1.go hW.alike hH, h.2.1.2.go hW.alike hH⟩, fun q hq => ?_⟩
  · have hk := (List.mem_filter.mp hw).2
    simp only [Bool.and_eq_true] at hk
    exact va_tabs hk.1 (rfl : (s.setVm U.vm).vm = U.vm) (Cond.before_shiftedFace (State.Shifted.of_warmed hW) w hk.2 (h.1 w hw))
  · obtain ⟨a, ha⟩ := h.2.2 q hq
    exact ⟨a, ha.warm hW⟩
theorem cn_Th.same {s U : State} (hv : s.vm = U.vm) (hH : s.heap = U.heap) (h : cn_Th s) : cn_Th U :=
  h.go (by rw [← hv]; exact State.WarmedH.refl s) (by rw [← hH]; exact fun a cell h1 _ => h1)
section TH
variable {p : Program} {l : Launch} {e : Env} {R : Room} {s : State} {m : MethodId} {args : Array Value} {below : List Frame} {meth : Method} {c : Code} {T : State} {locs : List Loc} {cells slots : Nat}
/-- the walk as it stands now, as if it had begun in this heap -/
theorem cn_anew (X : Stand p l e R s m args below meth c T locs cells slots) {R' : Room} (hf : R'.frames ≤ R.frames) (hl : R'.locals ≤ R.locals) (hc : cells + R'.cells ≤ R.cells) (hs : slots + R'.slots ≤ R.slots) :
    ∃ u : State, u = (T.setVm s.vm).setFrames (.invoking m args :: below) ∧ Stand p l e R' u m args below meth c T [] 0 0 := by
  obtain ⟨g0, hg0⟩ := X.frames_eq
  have hg : (T.setVm s.vm).frames = .java g0 :: below := hg0
  have hcur := State.cur_lt_of_frames hg
  obtain ⟨t0, ht0, -⟩ := State.frames_cons hg
  refine ⟨_, rfl, ?_⟩
  generalize hu : (T.setVm s.vm).setFrames (.invoking m args :: below) = u
  have uf : u.frames = .invoking m args :: below := by rw [← hu]; exact State.frames_setFrames _ hcur
  have uh : u.heap = T.heap := by rw [← hu]; rfl
  have uv : u.vm = s.vm := by rw [← hu]; rfl
  have us : u.slotsUsed = T.slotsUsed := by rw [← hu]; rfl
  have um : e.platform.stackLimits u.me = e.platform.stackLimits s.me := by rw [← hu, State.stackLimits_setFrames]; exact X.limits
  have ub : u.me.stackBytes = s.me.stackBytes := by rw [← hu, State.stackBytes_setFrames]; exact X.bytes
  have ul : u.localsInUse = s.localsInUse := by
    rw [State.localsInUse_invoking uf (meth := meth) (c := c) (by rw [uv]; exact X.method) X.code, State.localsInUse_invoking X.frames X.method X.code]
  have ut : u.slotsTrue = true := by rw [← hu]; exact X.book
  have hT : T.setVm s.vm = { u.setFrames (T.setVm s.vm).frames with heap := T.heap, slotsUsed := T.slotsUsed } := by
    rw [← hu, State.setFrames_setFrames, State.setFrames_self ht0]
    rfl
  have hnil : (T.heap.toList.drop T.heap.size) = [] := List.drop_eq_nil_of_le (Nat.le_of_eq Array.length_toList)
  constructor
  · exact X.admits
  · exact X.cas
  · exact X.clock
  · exact uf
  · have h := X.room
    have z1 := X.heapSize
    have z2 := X.used
    have zl : u.frames.length = s.frames.length := by rw [uf, X.frames]
    simp only [State.hasRoom, Bool.and_eq_true, decide_eq_true_eq, ul, um, ub, uh, us, zl] at h ⊢
    obtain ⟨⟨⟨⟨a1, a2, a3, a4, a5, a6⟩, a7⟩, a8⟩, -⟩ := h
    exact ⟨⟨⟨⟨by omega, by omega, by omega, by omega, by omega, a6⟩, by omega⟩, by omega⟩, ut⟩
  · have h := X.hears
    rw [← hu]
    exact h
  · rw [uv]; exact X.method
  · exact X.code
  · exact X.here
  · exact X.tail
  · have h := X.warmed
    rw [← hu]
    exact h
  · rw [um]; exact X.limits
  · rw [ub]; exact X.bytes
  · refine ⟨?_, ?_, ?_, ?_, ?_, ?_⟩
    · rw [uv]; exact hT
    · rw [uh]; exact Nat.le_refl _
    · rw [uh]; exact Nat.le_refl _
    · show T.slotsUsed = u.slotsUsed + ((T.heap.toList.drop u.heap.size).map (·.slots.size)).sum
      rw [us, uh, hnil]; rfl
    · show ((T.heap.toList.drop u.heap.size).map (·.slots.size)).sum ≤ 0
      rw [uh, hnil]; exact Nat.le_refl _
    · intro a cell h
      exact ⟨cell, by rw [uh] at h; exact h, rfl, rfl, fun _ _ => rfl⟩
end TH
/-- thrown: the class of what is thrown, the world, what was written -/
def cn_QT (E : String) (D : va_G) (w' : va_W) (A : Nat → Prop) (mc ms : Nat) : Array Value → State → Outcome → State → Prop := fun _ st o t => ∃ (q : Addr) (ce : Cell) (L : List Loc), o = .threw q ∧ (t.heap[q]? = some ce ∧ ce.vm = .none ∧ st.vm.findClass E = some ce.cls) ∧ (va_P D cn_cl w' t.heap ∧ va_D A w') ∧ va_F A st t ∧ st.WarmedH t.vm ∧ st.sameButNew ({ t with vm := st.vm } : State) L mc ms ∧ ∀ z ∈ L, A z.base
def cn_PT (D : va_G) (cy : Nat → ClassId) (av : List Value) (w : va_W) (sz : Nat) : Array Value → State → Prop := va_Pc av (fun U => U.heap.size = sz ∧ va_P D cn_cl w U.heap ∧ va_K D cn_cl (cn_ty cy) U ∧ va_D (fun _ => True) w ∧ cn_N U ∧ cn_Th U)
def cn_MT (l : Launch) (y : MethodName) (b : ByteArray) (n : Nat) (r : Option FieldType) (rm : Room) (D : va_G) (cy : Nat → ClassId) (av : List Value) (w : va_W) (E : String) (w' : va_W) (mc ms : Nat) : Prop := ∀ sz, MetFree l y (headSpec (.code y b n r :: cn_tb) rm) (cn_PT D cy av w sz) (fun _ _ _ _ _ => True) (cn_QT E D w' (va_A w sz) mc ms)
def cn_TQ (below : List Frame) (E : String) (D : va_G) (w' : va_W) (A : Nat → Prop) (args : Array Value) (s : State) (mc ms : Nat) : State → Prop := fun t => ∃ o, t.status = .running ∧ Ended t below o ∧ cn_QT E D w' A mc ms args s o t
/-- what a walk knows besides, where something may be thrown: no traces, the words, no handlers; the cells that it may write hold no statics -/
def cn_XT (l : Launch) (s : State) (meth : Method) (c : Code) (A : Nat → Prop) : Prop := l.stackTraces = false ∧ cn_Th s ∧ (∀ x ∈ c.exceptionTable.toList, False) ∧ meth.locks = false ∧ (∀ q, s.heap.size ≤ q → A q) ∧ ∀ (q : Nat) (cell : Cell), A q → s.heap[q]? = some cell → cell.vm.isStatics = false
theorem cn_XT.stat {l : Launch} {s : State} {meth : Method} {c : Code} {A : Nat → Prop} (h : cn_XT l s meth c A) {H : Heap} {locs : List Loc} (hS : va_S A s.heap H locs) : cn_stat s.heap H := fun a cell h1 h2 => by
  rw [hS.2.1 a (Array.getElem?_eq_some_iff.mp h1).1 (fun z => by rw [h.2.2.2.2.2 a cell z h1] at h2; cases h2)]
  exact h1
theorem cn_wst {D : va_G} {w : va_W} {H : Heap} {q : Nat} {cell : Cell} (hP : va_P D cn_cl w H) (hA : va_A w H.size q) (h : H[q]? = some cell) : cell.vm.isStatics = false := by
  rcases hA with ⟨k, e, hk⟩ | hA
  · have h1 := hP k _ hk
    cases e with
    | inl x =>
      have h2 : H[q]? = some (vp_cell x.1 x.2) := h1
      rw [h] at h2
      obtain rfl := Option.some.inj h2
      obtain ⟨x1, x2, f | f | f | f | f⟩ := x <;> rfl
    | inr o =>
      obtain ⟨r, -, cl, q1, -, q3, -⟩ := h1
      rw [h] at q1
      obtain rfl := Option.some.inj q1
      rw [q3]; rfl
  · exact absurd (Array.getElem?_eq_some_iff.mp h).1 (by omega)
theorem cn_MT.of {l : Launch} {y : MethodName} {b : ByteArray} {n : Nat} {r : Option FieldType} {rm : Room} {D : va_G} {cy : Nat → ClassId} {av : List Value} {w : va_W} {E : String} {w' : va_W} {mc ms : Nat} (hl : l.stackTraces = false) (hy : plainFor y = true) (hn : (lg_sl av).length ≤ n)
    (body : ∀ (p : Program) (e : Env) (s : State) (m : MethodId) (below : List Frame) (meth : Method) (c : Code) (A : Nat → Prop), cn_X p s m av.toArray c b n y.cls D cy → meth.sig.returnType = r → cn_XT l s meth c A →
      cg p l e rm s m av.toArray below meth c D (va_S A s.heap) A n 0 0 (cn_TQ below E D w' A av.toArray s mc ms) w 0 (lv_args 0 av) []) : cn_MT l y b n r rm D cy av w E w' mc ms := by
  intro sz
  refine MetFree.of_bodySF (code := b) (maxLocals := n) (ret := r) hy ?_ ?_
  · intro args s m h hn
    obtain ⟨meth, c, h1, h2, h3, h4, h5, h6, -, -⟩ := Cond.code_spec hn (atoms_spec (ws := .code y b n r :: cn_tb) h _ List.mem_cons_self)
    exact ⟨meth, c, h1, h2, h3, h4, h5, h6⟩
  · intro p e s m args below meth c s₁ B hml hv _
    obtain ⟨rfl, hsz, hP, hK, hD, hN, hT⟩ := hv
    subst hsz
    have hts := atoms_spec (ws := .code y b n r :: cn_tb) B.pre
    have hh : s₁.heap = s.heap := by rw [B.state]; rfl
    have hex : ∀ x ∈ c.exceptionTable.toList, False := by
      have h7 := BodyLoose.noHandlers B (hts _ List.mem_cons_self)
      intro x hx
      rw [Array.isEmpty_iff.mp h7] at hx
      cases hx
    have K := body p e s m below meth c _ ⟨B.exec, B.bytes, hml, findClass_of_methodNamed B.named, fun w hw => hts w (List.mem_cons_of_mem _ hw), hK, hN⟩ B.returns ⟨hl, hT, hex, B.notSynchronized, fun q h => Or.inr h, fun q cell h1 h2 => cn_wst hP h1 h2⟩ s.heap [] _ hP hD.self va_S.rf (lv_entry av hn)
    rw [← lg_entry_eq m] at K
    obtain ⟨t, a, o, b1, b2, b3⟩ := K s₁ hh (Stand.of_body B)
    exact ⟨t, o, a, b1, b2, b3⟩
