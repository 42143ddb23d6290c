/-! CALLS: the callee's cells are picked out of the caller's by places; what changes nothing leaves the world as it was; what changes its own cells leaves the rest as it was -/
theorem cn_at {ws w : va_W} {is : List Nat} (hm : is.map (fun i => ws[i]?) = w.map some) (k : Nat) (q : Nat × va_E) (hq : w[k]? = some q) : ∃ i, is[k]? = some i ∧ ws[i]? = some q := by
  have h1 : (is.map (fun i => ws[i]?))[k]? = some (some q) := by rw [hm, List.getElem?_map, hq]; rfl
  rw [List.getElem?_map] at h1
  cases hi : is[k]? with
  | none => rw [hi] at h1; cases h1
  | some i => rw [hi] at h1; exact ⟨i, rfl, Option.some.inj h1⟩
theorem cn_subP {D : va_G} {ws w : va_W} {H : Heap} {is : List Nat} (hP : va_P D cn_cl ws H) (hm : is.map (fun i => ws[i]?) = w.map some) : va_P D cn_cl w H := fun k q hq => by
  obtain ⟨i, -, hi⟩ := cn_at hm k q hq
  exact hP i q hi
theorem cn_PR.blind {D : va_G} {cy : Nat → ClassId} {av : List Value} {w : va_W} : FrameBlind (cn_PR D cy av w) := fun a U g mk h => by
  obtain ⟨h0, h1, h2, h3, h4⟩ := h
  exact ⟨h0, h1, va_K.moved (u := U) (U := U.calling g mk a) (Vm.Alike.refl U.vm) h2, h3, h4.same rfl⟩
theorem cn_PW.blind {D : va_G} {cy : Nat → ClassId} {av : List Value} {w : va_W} {sz : Nat} : FrameBlind (cn_PW D cy av w sz) := fun a U g mk h => by
  obtain ⟨h0, h1, h2, h3, h4, h5⟩ := h
  exact ⟨h0, h1, h2, va_K.moved (u := U) (U := U.calling g mk a) (Vm.Alike.refl U.vm) h3, h4, h5.same rfl⟩
section CGC
variable {p : Program} {l : Launch} {e : Env} {R : Room} {s : State} {m : MethodId} {args : Array Value} {below : List Frame} {meth : Method} {c : Code} {D : va_G} {Hi : Heap → List Loc → Prop} {A : Nat → Prop} {nL cells slots : Nat} {Q : State → Prop} {ws : va_W} {pc : Nat} {lv : List (Nat × Value)} {st st0 st1 : List Value} {cc : ByteArray} {own : String} {cy : Nat → ClassId}
variable {y : MethodName} {b : ByteArray} {n ix a ci N mc ms : Nat} {r : Option FieldType} {rm : Room} {As fs : List Value} {w w' wr ws' : va_W} {v : Option Value} {T : u_T} {host : String} {H : Heap} {locs : List Loc} {ls : Array Slot} {av : List Value} {ar : Array Value}
theorem cn_preR (C : cn_X p s m args c cc nL own D cy) (hP : va_P D cn_cl w H) (hD : va_D (fun _ => True) w) : ∀ U : State, U.heap = H → s.WarmedH U.vm → cn_PR D cy av w av.toArray U :=
  fun U hU hW => ⟨rfl, by rw [hU]; exact hP, va_K.moved hW.alike C.2.2.2.2.2.1, hD, C.2.2.2.2.2.2.warm hW⟩
theorem cn_preW (C : cn_X p s m args c cc nL own D cy) (hP : va_P D cn_cl w H) (hD : va_D (fun _ => True) w) : ∀ U : State, U.heap = H → s.WarmedH U.vm → cn_PW D cy av w H.size av.toArray U :=
  fun U hU hW => ⟨rfl, by rw [hU], by rw [hU]; exact hP, va_K.moved hW.alike C.2.2.2.2.2.1, hD, C.2.2.2.2.2.2.warm hW⟩
theorem cn_finR {g : JFrame} (hr : CallRun p l e R s m args below meth c H locs cells slots 0 0 g st (cn_QR v ar) (fun _ => False)) (kk : W p l e R s m args below meth c H locs cells slots Q { g with pc := g.pc + 3, stack := v.toList ++ st }) : W p l e R s m args below meth c H locs cells slots Q g := by
  intro T hT X
  obtain ⟨v', st₀, t, T', L, h0, X', hL, e1, ⟨hv, hh⟩, stp⟩ := hr T hT X
  cases hv
  obtain ⟨t2, a1, b1⟩ := kk T' (by rw [e1, hh, h0]) (Stand.forget X' (fun q h => (hL q h).elim))
  exact ⟨t2, stp t2 a1, b1⟩
theorem cn_finW (hr : va_Run p l e R s m args below meth c H locs cells slots mc ms (F0 m pc ls st0) st (cn_QW v D w' (va_A w H.size) ar) (va_A w H.size)) (hS : va_S A s.heap H locs) (hF : ∀ q, va_A w H.size q → A q)
    (kk : ∀ (H1 : Heap) (locs1 : List Loc), va_P D cn_cl w' H1 → va_D (va_A w H.size) w' → (∀ q : Nat, q < H.size → ¬ va_A w H.size q → H1[q]? = H[q]?) → va_S A s.heap H1 locs1 → W p l e R s m args below meth c H1 locs1 (cells + mc) (slots + ms) Q (F0 m (pc + 3) ls (v.toList ++ st))) : W p l e R s m args below meth c H locs cells slots Q (F0 m pc ls st0) := by
  intro T hT X
  obtain ⟨v', st₀, t, T', L, h0, X', hL, e1, e2, ⟨hv, ⟨hb1, hb2⟩, hz, hk⟩, stp⟩ := hr T hT X
  cases hv
  rw [h0] at hz hk
  obtain ⟨t2, a1, b1⟩ := kk T'.heap (locs ++ L) (by rw [e1]; exact hb1) hb2 (fun q h1 h2 => by rw [e1]; exact hk q h1 h2)
    ⟨Nat.le_trans hS.1 (by rw [e1]; exact hz), fun q h1 h2 => by rw [e1, hk q (Nat.lt_of_lt_of_le h1 hS.1) (fun z => h2 (hF q z))]; exact hS.2.1 q h1 h2, fun q hq => by
      rcases List.mem_append.mp hq with h | h
      · exact hS.2.2 q h
      · exact hF _ (hL q h)⟩ T' rfl X'
  exact ⟨t2, stp t2 a1, b1⟩
/-- the words of a call -/
theorem cn_cb (C : cn_X p s m args c cc nL own D cy) (hco : Cond.code y b n r ∈ cn_tb) (h0 : rm.cells = mc) (h1 : rm.slots = ms) (hini : Cond.initialized y.cls ∈ cn_tb) (hl : Cond.methodLink own ix y ∈ cn_tb) {k : Nat}
    (hsig : y.cls ≠ "java/lang/invoke/MethodHandle" ∧ y.cls ≠ "java/lang/invoke/VarHandle" ∧ (parseMethodDescriptor y.desc).map (fun d => d.parameters.length) = some k) (hR : rm.frames + 1 ≤ R.frames ∧ 8 + (n + 11) + rm.locals ≤ R.locals) : CallB R s args own ix y b n r (.code y b n r :: cn_tb) rm mc ms k :=
  callB_of k C.2.2.2.2.1 (cn_gi hco) rfl h0 h1 (C.2.2.2.2.1 _ hini) (C.2.2.2.2.1 _ hl) hsig hR
theorem cn_cn (C : cn_X p s m args c cc nL own D cy) (hco : Cond.code y b n r ∈ cn_tb) (h0 : rm.cells = mc) (h1 : rm.slots = ms) (hini : Cond.initialized y.cls ∈ cn_tb) (hl : (own, ix, y, host) ∈ cn_nwM) {k : Nat}
    (hsig : y.cls ≠ "java/lang/invoke/MethodHandle" ∧ y.cls ≠ "java/lang/invoke/VarHandle" ∧ (parseMethodDescriptor y.desc).map (fun d => d.parameters.length) = some k) (hR : rm.frames + 1 ≤ R.frames ∧ 8 + (n + 11) + rm.locals ≤ R.locals) : va_CN R s args own ix y host b n r (.code y b n r :: cn_tb) rm mc ms k :=
  va_cnB k C.2.2.2.2.1 (cn_gi hco) rfl h0 h1 (C.2.2.2.2.2.2.1 _ hl) (C.2.2.2.2.1 _ hini) hsig hR
theorem cg_callRV (C : cn_X p s m args c cc nL own D cy) (hM : cn_MR l y b n r rm D cy (.ref a :: As) w v) (is : List Nat) (hm : is.map (fun i => ws[i]?) = w.map some) (hnd : va_nd is = true) (q0 : Nat) (he : w[q0]? = some (a, .inr (ci, fs))) (hc : cn_cl[ci]? = some (y.cls, T, N))
    (hd : decode cc pc = .ok (.invokevirtual ix, 3)) (hl : Cond.methodLink own ix y ∈ cn_tb) (hi : Cond.instanceMethod y ∈ cn_tb) (hse : Cond.selects y.cls y y ∈ cn_tb) (hini : Cond.initialized y.cls ∈ cn_tb) (hco : Cond.code y b n r ∈ cn_tb)
    (hsig : y.cls ≠ "java/lang/invoke/MethodHandle" ∧ y.cls ≠ "java/lang/invoke/VarHandle" ∧ (parseMethodDescriptor y.desc).map (fun d => d.parameters.length) = some As.length) (hR : rm.frames + 1 ≤ R.frames ∧ 8 + (n + 11) + rm.locals ≤ R.locals) (h0 : rm.cells = 0) (h1 : rm.slots = 0) (hcs : cells ≤ R.cells ∧ slots ≤ R.slots)
    (hW : (st.map fun v => v.category).sum ≤ 8) (hst : As.reverse ++ .ref a :: st = st0) (hst1 : v.toList ++ st = st1) (k : cg p l e R s m args below meth c D Hi A nL cells slots Q ws (pc + 3) lv st1) : cg p l e R s m args below meth c D Hi A nL cells slots Q ws pc lv st0 := by
  subst hst; subst hst1
  intro H locs ls hP hD hS h
  have hPc := cn_subP hP hm
  have hDc : va_D (fun _ => True) w := (hD.sub is hnd hm).weaken (fun _ _ _ _ => trivial)
  exact cn_finR (W.runV (g := F0 m pc ls (As.reverse ++ .ref a :: st)) (b := a) (As := As) (rest := st) ⟨C.1, C.2.1, C.2.2.1, C.2.2.2.1, C.2.2.2.2.1⟩ hM ⟨cn_cb C hco h0 h1 hini hl hsig hR, C.2.2.2.2.1 _ hi, C.2.2.2.2.1 _ hse⟩
    ⟨cn_PR.blind, va_recv C.2.2.2.2.2.1 hPc hc he, cn_preR C hPc hDc⟩ rfl rfl h.1 rfl (lv_room hW) hd hcs) (k H locs ls hP hD hS h)
theorem cg_callRVN (C : cn_X p s m args c cc nL own D cy) (hM : cn_MR l y b n r rm D cy (.ref a :: As) w v) (is : List Nat) (hm : is.map (fun i => ws[i]?) = w.map some) (hnd : va_nd is = true) (q0 : Nat) (he : w[q0]? = some (a, .inr (ci, fs))) (hc : cn_cl[ci]? = some (y.cls, T, N))
    (hd : decode cc pc = .ok (.invokevirtual ix, 3)) (hl : (own, ix, y, host) ∈ cn_nwM) (hi : Cond.instanceMethod y ∈ cn_tb) (hse : Cond.selects y.cls y y ∈ cn_tb) (hini : Cond.initialized y.cls ∈ cn_tb) (hco : Cond.code y b n r ∈ cn_tb)
    (hsig : y.cls ≠ "java/lang/invoke/MethodHandle" ∧ y.cls ≠ "java/lang/invoke/VarHandle" ∧ (parseMethodDescriptor y.desc).map (fun d => d.parameters.length) = some As.length) (hR : rm.frames + 1 ≤ R.frames ∧ 8 + (n + 11) + rm.locals ≤ R.locals) (h0 : rm.cells = 0) (h1 : rm.slots = 0) (hcs : cells ≤ R.cells ∧ slots ≤ R.slots)
    (hW : (st.map fun v => v.category).sum ≤ 8) (hst : As.reverse ++ .ref a :: st = st0) (hst1 : v.toList ++ st = st1) (k : cg p l e R s m args below meth c D Hi A nL cells slots Q ws (pc + 3) lv st1) : cg p l e R s m args below meth c D Hi A nL cells slots Q ws pc lv st0 := by
  subst hst; subst hst1
  intro H locs ls hP hD hS h
  have hPc := cn_subP hP hm
  have hDc : va_D (fun _ => True) w := (hD.sub is hnd hm).weaken (fun _ _ _ _ => trivial)
  exact cn_finR (va_Run.run (va_runVN (C := y.cls) (g := F0 m pc ls (As.reverse ++ .ref a :: st)) (b := a) (As := As) (rest := st) ⟨C.1, C.2.1, C.2.2.1, C.2.2.2.1, C.2.2.2.2.1⟩ hM ⟨cn_cn C hco h0 h1 hini hl hsig hR, C.2.2.2.2.1 _ hi, C.2.2.2.2.1 _ hse⟩
    ⟨cn_PR.blind, va_recv C.2.2.2.2.2.1 hPc hc he, cn_preR C hPc hDc⟩ rfl rfl h.1 rfl (lv_room hW) hd hcs)) (k H locs ls hP hD hS h)
theorem cg_callRS (C : cn_X p s m args c cc nL own D cy) (hM : cn_MR l y b n r rm D cy As w v) (is : List Nat) (hm : is.map (fun i => ws[i]?) = w.map some) (hnd : va_nd is = true)
    (hd : decode cc pc = .ok (.invokestatic ix, 3)) (hl : Cond.methodLink own ix y ∈ cn_tb) (hi : Cond.static y ∈ cn_tb) (hini : Cond.initialized y.cls ∈ cn_tb) (hco : Cond.code y b n r ∈ cn_tb)
    (hsig : y.cls ≠ "java/lang/invoke/MethodHandle" ∧ y.cls ≠ "java/lang/invoke/VarHandle" ∧ (parseMethodDescriptor y.desc).map (fun d => d.parameters.length) = some As.length) (hR : rm.frames + 1 ≤ R.frames ∧ 8 + (n + 11) + rm.locals ≤ R.locals) (h0 : rm.cells = 0) (h1 : rm.slots = 0) (hcs : cells ≤ R.cells ∧ slots ≤ R.slots)
    (hW : (st.map fun v => v.category).sum ≤ 8) (hst : As.reverse ++ st = st0) (hst1 : v.toList ++ st = st1) (k : cg p l e R s m args below meth c D Hi A nL cells slots Q ws (pc + 3) lv st1) : cg p l e R s m args below meth c D Hi A nL cells slots Q ws pc lv st0 := by
  subst hst; subst hst1
  intro H locs ls hP hD hS h
  have hPc := cn_subP hP hm
  have hDc : va_D (fun _ => True) w := (hD.sub is hnd hm).weaken (fun _ _ _ _ => trivial)
  exact cn_finR (W.runS (g := F0 m pc ls (As.reverse ++ st)) (As := As) (rest := st) ⟨C.1, C.2.1, C.2.2.1, C.2.2.2.1, C.2.2.2.2.1⟩ hM ⟨cn_cb C hco h0 h1 hini hl hsig hR, C.2.2.2.2.1 _ hi⟩
    ⟨cn_PR.blind, cn_preR C hPc hDc⟩ rfl rfl h.1 rfl (lv_room hW) hd hcs) (k H locs ls hP hD hS h)
theorem cg_callRSN (C : cn_X p s m args c cc nL own D cy) (hM : cn_MR l y b n r rm D cy As w v) (is : List Nat) (hm : is.map (fun i => ws[i]?) = w.map some) (hnd : va_nd is = true)
    (hd : decode cc pc = .ok (.invokestatic ix, 3)) (hl : (own, ix, y, host) ∈ cn_nwM) (hi : Cond.static y ∈ cn_tb) (hini : Cond.initialized y.cls ∈ cn_tb) (hco : Cond.code y b n r ∈ cn_tb)
    (hsig : y.cls ≠ "java/lang/invoke/MethodHandle" ∧ y.cls ≠ "java/lang/invoke/VarHandle" ∧ (parseMethodDescriptor y.desc).map (fun d => d.parameters.length) = some As.length) (hR : rm.frames + 1 ≤ R.frames ∧ 8 + (n + 11) + rm.locals ≤ R.locals) (h0 : rm.cells = 0) (h1 : rm.slots = 0) (hcs : cells ≤ R.cells ∧ slots ≤ R.slots)
    (hW : (st.map fun v => v.category).sum ≤ 8) (hst : As.reverse ++ st = st0) (hst1 : v.toList ++ st = st1) (k : cg p l e R s m args below meth c D Hi A nL cells slots Q ws (pc + 3) lv st1) : cg p l e R s m args below meth c D Hi A nL cells slots Q ws pc lv st0 := by
  subst hst; subst hst1
  intro H locs ls hP hD hS h
  have hPc := cn_subP hP hm
  have hDc : va_D (fun _ => True) w := (hD.sub is hnd hm).weaken (fun _ _ _ _ => trivial)
  exact cn_finR (va_Run.run (va_runSN (g := F0 m pc ls (As.reverse ++ st)) (As := As) (rest := st) ⟨C.1, C.2.1, C.2.2.1, C.2.2.2.1, C.2.2.2.2.1⟩ hM ⟨cn_cn C hco h0 h1 hini hl hsig hR, C.2.2.2.2.1 _ hi, trivial⟩
    ⟨cn_PR.blind, cn_preR C hPc hDc⟩ rfl rfl h.1 rfl (lv_room hW) hd hcs)) (k H locs ls hP hD hS h)
/-- behind a call that changes its own cells: the caller's others, the callee's as they are now, in the caller's order -/
theorem cn_back {H1 : Heap} {isC isR pm : List Nat} (hP : va_P D cn_cl ws H) (hD : va_D A ws) (hC : isC.map (fun i => ws[i]?) = w.map some) (hR : isR.map (fun i => ws[i]?) = wr.map some) (hn : va_nd isR = true) (hdis : ∀ i ∈ isR, i ∉ isC) (hk : ∀ q : Nat, q < H.size → ¬ va_A w H.size q → H1[q]? = H[q]?) (hF : ∀ q, va_A w H.size q → A q) (hP1 : va_P D cn_cl w' H1) (hD1 : va_D (va_A w H.size) w')
    (hpm : pm.map (fun i => (wr ++ w')[i]?) = ws'.map some) (hnp : va_nd pm = true) : va_P D cn_cl ws' H1 ∧ va_D A ws' := by
  obtain ⟨h1, h2⟩ := va_join hP hD isC isR hC hR hn hdis hk hF hP1 hD1
  exact ⟨cn_subP h1 hpm, h2.sub pm hnp hpm⟩
theorem cg_callWV (C : cn_X p s m args c cc nL own D cy) (hA : ∀ q, s.heap.size ≤ q → A q) (hM : cn_MW l y b n r rm D cy (.ref a :: As) w v w' mc ms) (isC isR pm : List Nat) (wr ws' : va_W) (hC : isC.map (fun i => ws[i]?) = w.map some) (hR0 : isR.map (fun i => ws[i]?) = wr.map some) (hpm : pm.map (fun i => (wr ++ w')[i]?) = ws'.map some) (hnd : va_nd isC = true ∧ va_nd isR = true ∧ va_nd pm = true ∧ ∀ i ∈ isR, i ∉ isC) (q0 : Nat) (he : w[q0]? = some (a, .inr (ci, fs))) (hc : cn_cl[ci]? = some (y.cls, T, N))
    (hd : decode cc pc = .ok (.invokevirtual ix, 3)) (hl : Cond.methodLink own ix y ∈ cn_tb) (hi : Cond.instanceMethod y ∈ cn_tb) (hse : Cond.selects y.cls y y ∈ cn_tb) (hini : Cond.initialized y.cls ∈ cn_tb) (hco : Cond.code y b n r ∈ cn_tb)
    (hsig : y.cls ≠ "java/lang/invoke/MethodHandle" ∧ y.cls ≠ "java/lang/invoke/VarHandle" ∧ (parseMethodDescriptor y.desc).map (fun d => d.parameters.length) = some As.length) (hR : rm.frames + 1 ≤ R.frames ∧ 8 + (n + 11) + rm.locals ≤ R.locals) (h0 : rm.cells = mc) (h1 : rm.slots = ms) (hcs : cells + mc ≤ R.cells ∧ slots + ms ≤ R.slots)
    (hW : (st.map fun v => v.category).sum ≤ 8) (hst : As.reverse ++ .ref a :: st = st0) (hst1 : v.toList ++ st = st1) (k : cg p l e R s m args below meth c D (va_S A s.heap) A nL (cells + mc) (slots + ms) Q ws' (pc + 3) lv st1) : cg p l e R s m args below meth c D (va_S A s.heap) A nL cells slots Q ws pc lv st0 := by
  subst hst; subst hst1
  intro H locs ls hP hD hS h
  have hPc := cn_subP hP hC
  have hDc : va_D (fun _ => True) w := (hD.sub isC hnd.1 hC).weaken (fun _ _ _ _ => trivial)
  have hF := va_free (wc := w) hD hS hA isC hC
  refine cn_finW (va_runV (g := F0 m pc ls (As.reverse ++ .ref a :: st)) (b := a) (As := As) (rest := st) ⟨C.1, C.2.1, C.2.2.1, C.2.2.2.1, C.2.2.2.2.1⟩ (hM H.size) ⟨cn_cb C hco h0 h1 hini hl hsig hR, C.2.2.2.2.1 _ hi, C.2.2.2.2.1 _ hse⟩
    ⟨cn_PW.blind, va_recv C.2.2.2.2.2.1 hPc hc he, cn_preW C hPc hDc⟩ rfl rfl h.1 rfl (lv_room hW) hd hcs) hS hF (fun H1 locs1 hP1 hD1 hk1 hS1 => ?_)
  obtain ⟨g1, g2⟩ := cn_back hP hD hC hR0 hnd.2.1 hnd.2.2.2 hk1 hF hP1 hD1 hpm hnd.2.2.1
  exact k H1 locs1 ls g1 g2 hS1 h
theorem cg_callWVN (C : cn_X p s m args c cc nL own D cy) (hA : ∀ q, s.heap.size ≤ q → A q) (hM : cn_MW l y b n r rm D cy (.ref a :: As) w v w' mc ms) (isC isR pm : List Nat) (wr ws' : va_W) (hC : isC.map (fun i => ws[i]?) = w.map some) (hR0 : isR.map (fun i => ws[i]?) = wr.map some) (hpm : pm.map (fun i => (wr ++ w')[i]?) = ws'.map some) (hnd : va_nd isC = true ∧ va_nd isR = true ∧ va_nd pm = true ∧ ∀ i ∈ isR, i ∉ isC) (q0 : Nat) (he : w[q0]? = some (a, .inr (ci, fs))) (hc : cn_cl[ci]? = some (y.cls, T, N))
    (hd : decode cc pc = .ok (.invokevirtual ix, 3)) (hl : (own, ix, y, host) ∈ cn_nwM) (hi : Cond.instanceMethod y ∈ cn_tb) (hse : Cond.selects y.cls y y ∈ cn_tb) (hini : Cond.initialized y.cls ∈ cn_tb) (hco : Cond.code y b n r ∈ cn_tb)
    (hsig : y.cls ≠ "java/lang/invoke/MethodHandle" ∧ y.cls ≠ "java/lang/invoke/VarHandle" ∧ (parseMethodDescriptor y.desc).map (fun d => d.parameters.length) = some As.length) (hR : rm.frames + 1 ≤ R.frames ∧ 8 + (n + 11) + rm.locals ≤ R.locals) (h0 : rm.cells = mc) (h1 : rm.slots = ms) (hcs : cells + mc ≤ R.cells ∧ slots + ms ≤ R.slots)
    (hW : (st.map fun v => v.category).sum ≤ 8) (hst : As.reverse ++ .ref a :: st = st0) (hst1 : v.toList ++ st = st1) (k : cg p l e R s m args below meth c D (va_S A s.heap) A nL (cells + mc) (slots + ms) Q ws' (pc + 3) lv st1) : cg p l e R s m args below meth c D (va_S A s.heap) A nL cells slots Q ws pc lv st0 := by
  subst hst; subst hst1
  intro H locs ls hP hD hS h
  have hPc := cn_subP hP hC
  have hDc : va_D (fun _ => True) w := (hD.sub isC hnd.1 hC).weaken (fun _ _ _ _ => trivial)
  have hF := va_free (wc := w) hD hS hA isC hC
  refine cn_finW (va_runVN (C := y.cls) (g := F0 m pc ls (As.reverse ++ .ref a :: st)) (b := a) (As := As) (rest := st) ⟨C.1, C.2.1, C.2.2.1, C.2.2.2.1, C.2.2.2.2.1⟩ (hM H.size) ⟨cn_cn C hco h0 h1 hini hl hsig hR, C.2.2.2.2.1 _ hi, C.2.2.2.2.1 _ hse⟩
    ⟨cn_PW.blind, va_recv C.2.2.2.2.2.1 hPc hc he, cn_preW C hPc hDc⟩ rfl rfl h.1 rfl (lv_room hW) hd hcs) hS hF (fun H1 locs1 hP1 hD1 hk1 hS1 => ?_)
  obtain ⟨g1, g2⟩ := cn_back hP hD hC hR0 hnd.2.1 hnd.2.2.2 hk1 hF hP1 hD1 hpm hnd.2.2.1
  exact k H1 locs1 ls g1 g2 hS1 h
theorem cg_callWS (C : cn_X p s m args c cc nL own D cy) (hA : ∀ q, s.heap.size ≤ q → A q) (hM : cn_MW l y b n r rm D cy As w v w' mc ms) (isC isR pm : List Nat) (wr ws' : va_W) (hC : isC.map (fun i => ws[i]?) = w.map some) (hR0 : isR.map (fun i => ws[i]?) = wr.map some) (hpm : pm.map (fun i => (wr ++ w')[i]?) = ws'.map some) (hnd : va_nd isC = true ∧ va_nd isR = true ∧ va_nd pm = true ∧ ∀ i ∈ isR, i ∉ isC)
    (hd : decode cc pc = .ok (.invokestatic ix, 3)) (hl : Cond.methodLink own ix y ∈ cn_tb) (hi : Cond.static y ∈ cn_tb) (hini : Cond.initialized y.cls ∈ cn_tb) (hco : Cond.code y b n r ∈ cn_tb)
    (hsig : y.cls ≠ "java/lang/invoke/MethodHandle" ∧ y.cls ≠ "java/lang/invoke/VarHandle" ∧ (parseMethodDescriptor y.desc).map (fun d => d.parameters.length) = some As.length) (hR : rm.frames + 1 ≤ R.frames ∧ 8 + (n + 11) + rm.locals ≤ R.locals) (h0 : rm.cells = mc) (h1 : rm.slots = ms) (hcs : cells + mc ≤ R.cells ∧ slots + ms ≤ R.slots)
    (hW : (st.map fun v => v.category).sum ≤ 8) (hst : As.reverse ++ st = st0) (hst1 : v.toList ++ st = st1) (k : cg p l e R s m args below meth c D (va_S A s.heap) A nL (cells + mc) (slots + ms) Q ws' (pc + 3) lv st1) : cg p l e R s m args below meth c D (va_S A s.heap) A nL cells slots Q ws pc lv st0 := by
  subst hst; subst hst1
  intro H locs ls hP hD hS h
  have hPc := cn_subP hP hC
  have hDc : va_D (fun _ => True) w := (hD.sub isC hnd.1 hC).weaken (fun _ _ _ _ => trivial)
  have hF := va_free (wc := w) hD hS hA isC hC
  refine cn_finW (va_runS (g := F0 m pc ls (As.reverse ++ st)) (As := As) (rest := st) ⟨C.1, C.2.1, C.2.2.1, C.2.2.2.1, C.2.2.2.2.1⟩ (hM H.size) ⟨cn_cb C hco h0 h1 hini hl hsig hR, C.2.2.2.2.1 _ hi⟩
    ⟨cn_PW.blind, cn_preW C hPc hDc⟩ rfl rfl h.1 rfl (lv_room hW) hd hcs) hS hF (fun H1 locs1 hP1 hD1 hk1 hS1 => ?_)
  obtain ⟨g1, g2⟩ := cn_back hP hD hC hR0 hnd.2.1 hnd.2.2.2 hk1 hF hP1 hD1 hpm hnd.2.2.1
  exact k H1 locs1 ls g1 g2 hS1 h
theorem cg_callWI (C : cn_X p s m args c cc nL own D cy) (hA : ∀ q, s.heap.size ≤ q → A q) (hM : cn_MW l y b n none rm D cy (.ref a :: As) w none w' mc ms) (isC isR pm : List Nat) (wr ws' : va_W) (hC : isC.map (fun i => ws[i]?) = w.map some) (hR0 : isR.map (fun i => ws[i]?) = wr.map some) (hpm : pm.map (fun i => (wr ++ w')[i]?) = ws'.map some) (hnd : va_nd isC = true ∧ va_nd isR = true ∧ va_nd pm = true ∧ ∀ i ∈ isR, i ∉ isC)
    (hd : decode cc pc = .ok (.invokespecial ix, 3)) (hy : y.name = "<init>") (hl : Cond.methodLink own ix y ∈ cn_tb) (hi : Cond.instanceMethod y ∈ cn_tb) (hini : Cond.initialized y.cls ∈ cn_tb) (hco : Cond.code y b n none ∈ cn_tb)
    (hsig : y.cls ≠ "java/lang/invoke/MethodHandle" ∧ y.cls ≠ "java/lang/invoke/VarHandle" ∧ (parseMethodDescriptor y.desc).map (fun d => d.parameters.length) = some As.length) (hR : rm.frames + 1 ≤ R.frames ∧ 8 + (n + 11) + rm.locals ≤ R.locals) (h0 : rm.cells = mc) (h1 : rm.slots = ms) (hcs : cells + mc ≤ R.cells ∧ slots + ms ≤ R.slots)
    (hW : (st.map fun v => v.category).sum ≤ 8) (hst : As.reverse ++ .ref a :: st = st0) (k : cg p l e R s m args below meth c D (va_S A s.heap) A nL (cells + mc) (slots + ms) Q ws' (pc + 3) lv st) : cg p l e R s m args below meth c D (va_S A s.heap) A nL cells slots Q ws pc lv st0 := by
  subst hst
  intro H locs ls hP hD hS h
  have hPc := cn_subP hP hC
  have hDc : va_D (fun _ => True) w := (hD.sub isC hnd.1 hC).weaken (fun _ _ _ _ => trivial)
  have hF := va_free (wc := w) hD hS hA isC hC
  refine cn_finW (va_runI (g := F0 m pc ls (As.reverse ++ .ref a :: st)) (b := a) (As := As) (rest := st) ⟨C.1, C.2.1, C.2.2.1, C.2.2.2.1, C.2.2.2.2.1⟩ (hM H.size) ⟨cn_cb C hco h0 h1 hini hl hsig hR, hy, C.2.2.2.2.1 _ hi⟩
    ⟨cn_PW.blind, cn_preW C hPc hDc⟩ rfl rfl h.1 rfl (lv_room hW) hd hcs) hS hF (fun H1 locs1 hP1 hD1 hk1 hS1 => ?_)
  obtain ⟨g1, g2⟩ := cn_back hP hD hC hR0 hnd.2.1 hnd.2.2.2 hk1 hF hP1 hD1 hpm hnd.2.2.1
  exact k H1 locs1 ls g1 g2 hS1 h
theorem cg_callWIN (C : cn_X p s m args c cc nL own D cy) (hA : ∀ q, s.heap.size ≤ q → A q) (hM : cn_MW l y b n none rm D cy (.ref a :: As) w none w' mc ms) (isC isR pm : List Nat) (wr ws' : va_W) (hC : isC.map (fun i => ws[i]?) = w.map some) (hR0 : isR.map (fun i => ws[i]?) = wr.map some) (hpm : pm.map (fun i => (wr ++ w')[i]?) = ws'.map some) (hnd : va_nd isC = true ∧ va_nd isR = true ∧ va_nd pm = true ∧ ∀ i ∈ isR, i ∉ isC)
    (hd : decode cc pc = .ok (.invokespecial ix, 3)) (hy : y.name = "<init>") (hl : (own, ix, y, host) ∈ cn_nwM) (hi : Cond.instanceMethod y ∈ cn_tb) (hini : Cond.initialized y.cls ∈ cn_tb) (hco : Cond.code y b n none ∈ cn_tb)
    (hsig : y.cls ≠ "java/lang/invoke/MethodHandle" ∧ y.cls ≠ "java/lang/invoke/VarHandle" ∧ (parseMethodDescriptor y.desc).map (fun d => d.parameters.length) = some As.length) (hR : rm.frames + 1 ≤ R.frames ∧ 8 + (n + 11) + rm.locals ≤ R.locals) (h0 : rm.cells = mc) (h1 : rm.slots = ms) (hcs : cells + mc ≤ R.cells ∧ slots + ms ≤ R.slots)
    (hW : (st.map fun v => v.category).sum ≤ 8) (hst : As.reverse ++ .ref a :: st = st0) (k : cg p l e R s m args below meth c D (va_S A s.heap) A nL (cells + mc) (slots + ms) Q ws' (pc + 3) lv st) : cg p l e R s m args below meth c D (va_S A s.heap) A nL cells slots Q ws pc lv st0 := by
  subst hst
  intro H locs ls hP hD hS h
  have hPc := cn_subP hP hC
  have hDc : va_D (fun _ => True) w := (hD.sub isC hnd.1 hC).weaken (fun _ _ _ _ => trivial)
  have hF := va_free (wc := w) hD hS hA isC hC
  refine cn_finW (va_runIN (g := F0 m pc ls (As.reverse ++ .ref a :: st)) (b := a) (As := As) (rest := st) ⟨C.1, C.2.1, C.2.2.1, C.2.2.2.1, C.2.2.2.2.1⟩ (hM H.size) ⟨cn_cn C hco h0 h1 hini hl hsig hR, hy, C.2.2.2.2.1 _ hi⟩
    ⟨cn_PW.blind, cn_preW C hPc hDc⟩ rfl rfl h.1 rfl (lv_room hW) hd hcs) hS hF (fun H1 locs1 hP1 hD1 hk1 hS1 => ?_)
  obtain ⟨g1, g2⟩ := cn_back hP hD hC hR0 hnd.2.1 hnd.2.2.2 hk1 hF hP1 hD1 hpm hnd.2.2.1
  exact k H1 locs1 ls g1 g2 hS1 h
end CGC
