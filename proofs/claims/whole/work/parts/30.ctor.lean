/-! MAKING: new objects and arrays; constructors, whose world has new addresses behind them -/
def cn_QC (P : va_W → Prop) (D : va_G) (A : Nat → Prop) : Array Value → State → Outcome → State → Prop := fun _ st o t => o = .returned none ∧ (∃ w', P w' ∧ va_P D cn_cl w' t.heap ∧ va_D A w') ∧ va_F A st t
def cn_MC (l : Launch) (y : MethodName) (b : ByteArray) (n : Nat) (rm : Room) (D : va_G) (cy : Nat → ClassId) (av : List Value) (w : va_W) (P : va_W → Prop) (mc ms : Nat) : Prop := ∀ sz, Met l y (.code y b n none :: cn_tb) rm (cn_PW D cy av w sz) (cn_QC P D (va_A w sz)) mc ms (va_A w sz)
theorem cn_MC.of {l : Launch} {y : MethodName} {b : ByteArray} {n : Nat} {rm : Room} {D : va_G} {cy : Nat → ClassId} {av : List Value} {w : va_W} {P : va_W → Prop} {mc ms : Nat} (hy : plainFor y = true) (hyn : y.name = "<init>") (hn : (lg_sl av).length ≤ n)
    (body : ∀ (p : Program) (e : Env) (s : State) (m : MethodId) (below : List Frame) (meth : Method) (c : Code) (A : Nat → Prop), cn_X p s m av.toArray c b n y.cls D cy → meth.sig.returnType = none → meth.locks = false → (∀ q, s.heap.size ≤ q → A q) → meth.name = "<init>" →
      cg p l e rm s m av.toArray below meth c D (va_S A s.heap) A n 0 0 (MQ below (cn_QC P D A) av.toArray s mc ms A) w 0 (lv_args 0 av) []) : cn_MC l y b n rm D cy av w P mc ms := by
  intro sz
  refine cn_ofW (cc := b) (n := n) (r := none) hy List.mem_cons_self ?_
  intro p e s m args below meth c s₁ B hml hv
  obtain ⟨rfl, hsz, hP, hK, hD, hN⟩ := hv
  subst hsz
  have hts := atoms_spec (ws := .code y b n none :: cn_tb) B.pre
  rw [lg_entry_eq]
  exact body p e s m below meth c _ ⟨B.exec, B.bytes, hml, findClass_of_methodNamed B.named, fun w hw => hts w (List.mem_cons_of_mem _ hw), hK, hN⟩ B.returns B.notSynchronized (fun q h => Or.inr h) ((name_of_methodNamed B.named B.method).1.trans hyn) s.heap [] _ hP hD.self va_S.rf (lv_entry av hn)
section CT
variable {p : Program} {l : Launch} {e : Env} {R : Room} {s : State} {m : MethodId} {args : Array Value} {below : List Frame} {meth : Method} {c : Code} {D : va_G} {Hi : Heap → List Loc → Prop} {A : Nat → Prop} {nL cells slots : Nat} {Q : State → Prop} {ws : va_W} {pc : Nat} {lv : List (Nat × Value)} {st st0 : List Value} {cc : ByteArray} {own : String} {cy : Nat → ClassId}
variable {y : MethodName} {b : ByteArray} {n ix a ci N mc ms : Nat} {r : Option FieldType} {rm : Room} {As fs : List Value} {w w' wr ws' : va_W} {T : u_T} {host O : String}
theorem cg_vretC {P : va_W → Prop} (C : cn_X p s m args c cc nL own D cy) (hr : meth.sig.returnType = none) (hlk : meth.locks = false) (hP0 : P ws) (hd : decode cc pc = .ok (.return_, 1)) : cg p l e R s m args below meth c D (va_S A s.heap) A nL cells slots (MQ below (cn_QC P D A) args s cells slots A) ws pc lv [] :=
  fun H locs ls hP hD hS h => W.vret C.1 C.2.1 hr (fun t ht _ => ⟨rfl, ⟨ws, hP0, by rw [ht]; exact hP, hD⟩, hS.F ht⟩) hS.2.2 hd hlk
theorem cg_ws {ws' : va_W} (h : ws = ws') (k : cg p l e R s m args below meth c D Hi A nL cells slots Q ws' pc lv st) : cg p l e R s m args below meth c D Hi A nL cells slots Q ws pc lv st := h ▸ k
theorem cg_widen {k n : Nat} (h1 : cells ≤ k) (h2 : slots ≤ n) (kk : cg p l e R s m args below meth c D Hi A nL k n Q ws pc lv st) : cg p l e R s m args below meth c D Hi A nL cells slots Q ws pc lv st :=
  fun H locs ls hP hD hS h => W.widen h1 h2 (kk H locs ls hP hD hS h)
theorem cg_objInit (C : cn_X p s m args c cc nL own D cy) (hd : decode cc pc = .ok (.invokespecial ix, 3)) (hl : Cond.methodLink own ix Lib.objectInit ∈ cn_tb) (hi : Cond.instanceMethod Lib.objectInit ∈ cn_tb) (hc : Cond.code Lib.objectInit ⟨#[0xb1]⟩ 1 none ∈ cn_tb) (hR : 1 ≤ R.frames ∧ (st.map fun v => v.category).sum + 12 ≤ R.locals)
    (k : cg p l e R s m args below meth c D Hi A nL cells slots Q ws (pc + 3) lv st) : cg p l e R s m args below meth c D Hi A nL cells slots Q ws pc lv (.ref a :: st) :=
  fun H locs ls hP hD hS h => W.objInit C.1 C.2.1 C.2.2.2.1 (C.2.2.2.2.1 _ hl) (C.2.2.2.2.1 _ hi) (C.2.2.2.2.1 _ hc) rfl (h.1.trans C.2.2.1.symm) rfl hd hR.1 (by have := hR.2; show 2 * 0 + _ + 12 ≤ _; omega) (k H locs ls hP hD hS h)
theorem cg_new (C : cn_X p s m args c cc nL own D cy) (hA : ∀ q, s.heap.size ≤ q → A q) (fs : List Value) (ty0 : Nat → FieldType) (hd : decode cc pc = .ok (.new ix, 3)) (hc : cn_cl[ci]? = some (O, T, N)) (hin : ∀ w ∈ u_ws O T N, w ∈ cn_tb) (hty : ∀ k, k < N → parseFieldDescriptor (T k).2.2.1 = some (ty0 k)) (hcl : Cond.classLink own ix O ∈ cn_tb) (hins : Cond.instantiable O N ∈ cn_tb) (hini : Cond.initialized O ∈ cn_tb) (hfs : ∀ j, j < N → defaultValue (ty0 j) = vp_V fs j) (hcs : cells + 1 ≤ R.cells ∧ slots + N ≤ R.slots)
    (k : ∀ q, cg p l e R s m args below meth c D (va_S A s.heap) A nL (cells + 1) (slots + N) Q (ws ++ [(q, .inr (ci, fs))]) (pc + 3) lv (.ref q :: st)) : cg p l e R s m args below meth c D (va_S A s.heap) A nL cells slots Q ws pc lv st :=
  fun H locs ls hP hD hS h => va_new C.1 C.2.1 C.2.2.2.2.1 hin ty0 hty C.2.2.2.1 (C.2.2.2.2.1 _ hcl) (C.2.2.2.2.1 _ hins) (C.2.2.2.2.1 _ hini) C.2.2.2.2.2.1 hP hD hS hA hc hfs hcs.1 hcs.2 hd (fun q H1 h1 h2 h3 => k q H1 locs ls h1 h2 h3 h)
theorem cg_newI (C : cn_X p s m args c cc nL own D cy) (hA : ∀ q, s.heap.size ≤ q → A q) {x : Int32} (N : Nat) (hd : decode cc pc = .ok (.newarray .int, 2)) (hw : Cond.arrayClass .int ∈ cn_tb) (hx : ¬ x < 0) (hN : x.toNatClampNeg = N) (hb : N * componentBytes .int ≤ 536870912) (hcs : cells + 1 ≤ R.cells ∧ slots + N ≤ R.slots)
    (k : ∀ q, cg p l e R s m args below meth c D (va_S A s.heap) A nL (cells + 1) (slots + N) Q (ws ++ [(q, .inl (cy 0, N, .inl (fun _ => 0)))]) (pc + 2) lv (.ref q :: st)) : cg p l e R s m args below meth c D (va_S A s.heap) A nL cells slots Q ws pc lv (.int x :: st) :=
  fun H locs ls hP hD hS h => va_newa (atype := .int) (a0 := (N, .inl (fun _ => 0))) C.1 C.2.1 (C.2.2.2.2.1 _ hw) rfl C.2.2.2.2.2.1 hP hD hS hA (fun _ => rfl) hx hN hb hcs.1 hcs.2 hd (fun q cA H1 hK h1 h2 h3 => by
    obtain rfl : cA = cy 0 := Option.some.inj ((va_nm_int (hK.2 3 (cA, .int) rfl).2).symm.trans (va_nm_int (C.2.2.2.2.2.1.2 0 (cy 0, .int) rfl).2))
    exact k q H1 locs ls h1 h2 h3 h)
theorem cg_newJ (C : cn_X p s m args c cc nL own D cy) (hA : ∀ q, s.heap.size ≤ q → A q) {x : Int32} (N : Nat) (hd : decode cc pc = .ok (.newarray .long, 2)) (hw : Cond.arrayClass .long ∈ cn_tb) (hx : ¬ x < 0) (hN : x.toNatClampNeg = N) (hb : N * componentBytes .long ≤ 536870912) (hcs : cells + 1 ≤ R.cells ∧ slots + N ≤ R.slots)
    (k : ∀ q, cg p l e R s m args below meth c D (va_S A s.heap) A nL (cells + 1) (slots + N) Q (ws ++ [(q, .inl (cy 1, N, .inr (.inl (fun _ => 0))))]) (pc + 2) lv (.ref q :: st)) : cg p l e R s m args below meth c D (va_S A s.heap) A nL cells slots Q ws pc lv (.int x :: st) :=
  fun H locs ls hP hD hS h => va_newa (atype := .long) (a0 := (N, .inr (.inl (fun _ => 0)))) C.1 C.2.1 (C.2.2.2.2.1 _ hw) rfl C.2.2.2.2.2.1 hP hD hS hA (fun _ => rfl) hx hN hb hcs.1 hcs.2 hd (fun q cA H1 hK h1 h2 h3 => by
    obtain rfl : cA = cy 1 := Option.some.inj ((va_nm_long (hK.2 3 (cA, .long) rfl).2).symm.trans (va_nm_long (C.2.2.2.2.2.1.2 1 (cy 1, .long) rfl).2))
    exact k q H1 locs ls h1 h2 h3 h)
theorem cg_newZ (C : cn_X p s m args c cc nL own D cy) (hA : ∀ q, s.heap.size ≤ q → A q) {x : Int32} (N : Nat) (hd : decode cc pc = .ok (.newarray .boolean, 2)) (hw : Cond.arrayClass .boolean ∈ cn_tb) (hx : ¬ x < 0) (hN : x.toNatClampNeg = N) (hb : N * componentBytes .boolean ≤ 536870912) (hcs : cells + 1 ≤ R.cells ∧ slots + N ≤ R.slots)
    (k : ∀ q, cg p l e R s m args below meth c D (va_S A s.heap) A nL (cells + 1) (slots + N) Q (ws ++ [(q, .inl (cy 2, N, .inl (fun _ => 0)))]) (pc + 2) lv (.ref q :: st)) : cg p l e R s m args below meth c D (va_S A s.heap) A nL cells slots Q ws pc lv (.int x :: st) :=
  fun H locs ls hP hD hS h => va_newa (atype := .boolean) (a0 := (N, .inl (fun _ => 0))) C.1 C.2.1 (C.2.2.2.2.1 _ hw) rfl C.2.2.2.2.2.1 hP hD hS hA (fun _ => rfl) hx hN hb hcs.1 hcs.2 hd (fun q cA H1 hK h1 h2 h3 => by
    obtain rfl : cA = cy 2 := Option.some.inj ((va_nm_boolean (hK.2 3 (cA, .boolean) rfl).2).symm.trans (va_nm_boolean (C.2.2.2.2.2.1.2 2 (cy 2, .boolean) rfl).2))
    exact k q H1 locs ls h1 h2 h3 h)
theorem cg_putF (C : cn_X p s m args c cc nL own D cy) {d f : String} (q0 k0 : Nat) {v : Value} (ty0 : Nat → FieldType) (hd : decode cc pc = .ok (.putfield ix, 3)) (he : ws[q0]? = some (a, .inr (ci, fs))) (hc : cn_cl[ci]? = some (own, T, N)) (hin : ∀ w ∈ u_ws own T N, w ∈ cn_tb) (hty : ∀ k, k < N → parseFieldDescriptor (T k).2.2.1 = some (ty0 k)) (hnm : ∀ a, a < N → ∀ b, b < N → a ≠ b → (T a).2.1 ≠ (T b).2.1) (hk : k0 < N) (hT : T k0 = (own, f, d, true)) (hw : Cond.fieldLink own ix own f d ∈ cn_tb) (hini : meth.name = "<init>") (hn : narrow (ty0 k0) v = v) (hf : fits (ty0 k0) v = true) (hl : k0 < fs.length) (hws : ws.set q0 (a, .inr (ci, fs.set k0 v)) = ws') (k : cg p l e R s m args below meth c D (va_S A s.heap) A nL cells slots Q ws' (pc + 3) lv st) : cg p l e R s m args below meth c D (va_S A s.heap) A nL cells slots Q ws pc lv (v :: .ref a :: st) :=
  fun H locs ls hP hD hS h => va_putF (ref := own) (ty := ty0 k0) C.1 C.2.1 C.2.2.2.2.1 hin ty0 hty hnm C.2.2.2.1 C.2.2.2.2.2.1 hP hD hS q0 he hc k0 hk (by rw [hT]; exact C.2.2.2.2.1 _ hw) (by rw [hT]; exact fun x hx => hx) (by rw [hT]) hini (by rw [hT]) (hty k0 hk) hn hf hl hd (fun H1 locs1 h1 h2 h3 => k H1 locs1 ls (by rw [← hws]; exact h1) (by rw [← hws]; exact h2) h3 h)
/-- a constructor's call: its new cells stand at the end -/
theorem cg_callCN {P : va_W → Prop} (C : cn_X p s m args c cc nL own D cy) (hA : ∀ q, s.heap.size ≤ q → A q) (hM : cn_MC l y b n rm D cy (.ref a :: As) w P mc ms) (isC isR : List Nat) (wr : va_W) (hC : isC.map (fun i => ws[i]?) = w.map some) (hR0 : isR.map (fun i => ws[i]?) = wr.map some) (hnd : va_nd isC = true ∧ va_nd isR = true ∧ ∀ i ∈ isR, i ∉ isC)
    (hd : decode cc pc = .ok (.invokespecial ix, 3)) (hy : y.name = "<init>") (hl : (own, ix, y, host) ∈ cn_nwM) (hi : Cond.instanceMethod y ∈ cn_tb) (hini : Cond.initialized y.cls ∈ cn_tb) (hco : Cond.code y b n none ∈ cn_tb)
    (hsig : y.cls ≠ "java/lang/invoke/MethodHandle" ∧ y.cls ≠ "java/lang/invoke/VarHandle" ∧ (parseMethodDescriptor y.desc).map (fun d => d.parameters.length) = some As.length) (hR : rm.frames + 1 ≤ R.frames ∧ 8 + (n + 11) + rm.locals ≤ R.locals) (h0 : rm.cells = mc) (h1 : rm.slots = ms) (hcs : cells + mc ≤ R.cells ∧ slots + ms ≤ R.slots)
    (hW : (st.map fun v => v.category).sum ≤ 8) (hst : As.reverse ++ .ref a :: st = st0) (k : ∀ w', P w' → cg p l e R s m args below meth c D (va_S A s.heap) A nL (cells + mc) (slots + ms) Q (wr ++ w') (pc + 3) lv st) : cg p l e R s m args below meth c D (va_S A s.heap) A nL cells slots Q ws pc lv st0 := by
  subst hst
  intro H locs ls hP hD hS h
  have hPc := cn_subP hP hC
  have hDc : va_D (fun _ => True) w := (hD.sub isC hnd.1 hC).weaken (fun _ _ _ _ => trivial)
  have hF := va_free (wc := w) hD hS hA isC hC
  have hr := va_runIN (g := F0 m pc ls (As.reverse ++ .ref a :: st)) (b := a) (As := As) (rest := st) ⟨C.1, C.2.1, C.2.2.1, C.2.2.2.1, C.2.2.2.2.1⟩ (hM H.size) ⟨cn_cn C hco h0 h1 hini hl hsig hR, hy, C.2.2.2.2.1 _ hi⟩ ⟨cn_PW.blind, cn_preW C hPc hDc⟩ rfl rfl h.1 rfl (lv_room hW) hd hcs (l := l) (e := e) (below := below) (meth := meth) (locs := locs) (cells := cells) (slots := slots) (H := H)
  intro T hT X
  obtain ⟨v', st₀, t, T', L, e0, X', hL, e1, e2, ⟨hv, ⟨w', hPw, hb1, hb2⟩, hz, hk⟩, stp⟩ := hr T hT X
  cases hv
  rw [e0] at hz hk
  have hk1 : ∀ q : Nat, q < H.size → ¬ va_A w H.size q → T'.heap[q]? = H[q]? := fun q z1 z2 => by rw [e1]; exact hk q z1 z2
  obtain ⟨g1, g2⟩ := va_join hP hD isC isR hC hR0 hnd.2.1 hnd.2.2 hk1 hF (by rw [e1]; exact hb1) hb2
  obtain ⟨t2, a1, b1⟩ := k w' hPw T'.heap (locs ++ L) ls g1 g2 (cn_Sback hS hF ⟨by rw [e1]; exact hz, hk1⟩ hL) h T' rfl X'
  exact ⟨t2, stp t2 a1, b1⟩
theorem cg_callC {P : va_W → Prop} (C : cn_X p s m args c cc nL own D cy) (hA : ∀ q, s.heap.size ≤ q → A q) (hM : cn_MC l y b n rm D cy (.ref a :: As) w P mc ms) (isC isR : List Nat) (wr : va_W) (hC : isC.map (fun i => ws[i]?) = w.map some) (hR0 : isR.map (fun i => ws[i]?) = wr.map some) (hnd : va_nd isC = true ∧ va_nd isR = true ∧ ∀ i ∈ isR, i ∉ isC)
    (hd : decode cc pc = .ok (.invokespecial ix, 3)) (hy : y.name = "<init>") (hl : Cond.methodLink own ix y ∈ cn_tb) (hi : Cond.instanceMethod y ∈ cn_tb) (hini : Cond.initialized y.cls ∈ cn_tb) (hco : Cond.code y b n none ∈ cn_tb)
    (hsig : y.cls ≠ "java/lang/invoke/MethodHandle" ∧ y.cls ≠ "java/lang/invoke/VarHandle" ∧ (parseMethodDescriptor y.desc).map (fun d => d.parameters.length) = some As.length) (hR : rm.frames + 1 ≤ R.frames ∧ 8 + (n + 11) + rm.locals ≤ R.locals) (h0 : rm.cells = mc) (h1 : rm.slots = ms) (hcs : cells + mc ≤ R.cells ∧ slots + ms ≤ R.slots)
    (hW : (st.map fun v => v.category).sum ≤ 8) (hst : As.reverse ++ .ref a :: st = st0) (k : ∀ w', P w' → cg p l e R s m args below meth c D (va_S A s.heap) A nL (cells + mc) (slots + ms) Q (wr ++ w') (pc + 3) lv st) : cg p l e R s m args below meth c D (va_S A s.heap) A nL cells slots Q ws pc lv st0 := by
  subst hst
  intro H locs ls hP hD hS h
  have hPc := cn_subP hP hC
  have hDc : va_D (fun _ => True) w := (hD.sub isC hnd.1 hC).weaken (fun _ _ _ _ => trivial)
  have hF := va_free (wc := w) hD hS hA isC hC
  have hr := va_runI (g := F0 m pc ls (As.reverse ++ .ref a :: st)) (b := a) (As := As) (rest := st) ⟨C.1, C.2.1, C.2.2.1, C.2.2.2.1, C.2.2.2.2.1⟩ (hM H.size) ⟨cn_cb C hco h0 h1 hini hl hsig hR, hy, C.2.2.2.2.1 _ hi⟩ ⟨cn_PW.blind, cn_preW C hPc hDc⟩ rfl rfl h.1 rfl (lv_room hW) hd hcs (l := l) (e := e) (below := below) (meth := meth) (locs := locs) (cells := cells) (slots := slots) (H := H)
  intro T hT X
  obtain ⟨v', st₀, t, T', L, e0, X', hL, e1, e2, ⟨hv, ⟨w', hPw, hb1, hb2⟩, hz, hk⟩, stp⟩ := hr T hT X
  cases hv
  rw [e0] at hz hk
  have hk1 : ∀ q : Nat, q < H.size → ¬ va_A w H.size q → T'.heap[q]? = H[q]? := fun q z1 z2 => by rw [e1]; exact hk q z1 z2
  obtain ⟨g1, g2⟩ := va_join hP hD isC isR hC hR0 hnd.2.1 hnd.2.2 hk1 hF (by rw [e1]; exact hb1) hb2
  obtain ⟨t2, a1, b1⟩ := k w' hPw T'.heap (locs ++ L) ls g1 g2 (cn_Sback hS hF ⟨by rw [e1]; exact hz, hk1⟩ hL) h T' rfl X'
  exact ⟨t2, stp t2 a1, b1⟩
end CT
