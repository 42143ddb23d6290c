theorem cn_Hw.use {C n d : String} {U : State} {args : Array Value} (h : cn_Hw C n d U) : (Cond.laysStatic C n d).before args U = true ∧ (Cond.isRef (.static C n d)).before args U = true := h
section TH2
variable {p : Program} {l : Launch} {e : Env} {R : Room} {s : State} {m : MethodId} {args : Array Value} {below : List Frame} {meth : Method} {c : Code} {D : va_G} {A : Nat → Prop} {nL cells slots : Nat} {ws : va_W} {pc : Nat} {lv : List (Nat × Value)} {st : List Value} {cc : ByteArray} {own : String} {cy : Nat → ClassId}
set_option maxHeartbeats 1000000 in
/-- 'throw new E("text")' in a method without handlers -/
theorem cg_throw (C : cn_X p s m args c cc nL own D cy) (TX : cn_XT l s meth c A) {cls text : String} (names : List String) {ik is ic : Nat}
    (d0 : decode cc pc = .ok (.new ik, 3)) (d3 : decode cc (pc + 3) = .ok (.dup, 1)) (d4 : decode cc (pc + 4) = .ok (.ldc is, 2)) (d6 : decode cc (pc + 6) = .ok (.invokespecial ic, 3)) (d9 : decode cc (pc + 9) = .ok (.athrow, 1))
    (hk : Cond.classLink own ik cls ∈ cn_tb) (hini : Cond.initialized cls ∈ cn_tb) (hins : Cond.instantiable cls 6 ∈ cn_tb) (hstr : (own, is, text) ∈ cn_strs)
    (hcls : Bundle.fit cls = true) (hnames : ∀ n ∈ names, Bundle.fit n = true) (hat : ∀ w ∈ Bundle.ownAtoms own ic cls names, w ∈ cn_fw ∨ w ∈ [Cond.laysStatic Bundle.tN "UNASSIGNED_STACK" Bundle.steD, Cond.isRef (.static Bundle.tN "UNASSIGNED_STACK" Bundle.steD), Cond.laysStatic Bundle.tN "SUPPRESSED_SENTINEL" Bundle.listD, Cond.isRef (.static Bundle.tN "SUPPRESSED_SENTINEL" Bundle.listD)])
    (hR : names.length + 3 < R.frames ∧ (st.map fun v => v.category).sum + 1 + (13 * (names.length + 1) + 42) ≤ R.locals) (hcs : cells + 1 ≤ R.cells ∧ slots + 6 ≤ R.slots) :
    cg p l e R s m args below meth c D (va_S A s.heap) A nL cells slots (cn_TQ below cls D ws A args s (cells + 1) (slots + 6)) ws pc lv st := by
  obtain ⟨hx, hb, hml, hown, hts, hK, hN⟩ := C
  intro H locs ls hP hD hS h T hT X
  obtain ⟨hl, hTh, hex, hlk, hA, hAs⟩ := id TX
  obtain ⟨sa, hsa⟩ := hTh.2.2 _ hstr
  have htr : e.platform.stackTraces = false := by rw [X.admits.platform]; exact hl
  obtain ⟨u, hu, Y⟩ := cn_anew X (R' := { frames := R.frames, cells := 1, slots := 6, locals := R.locals }) (Nat.le_refl _) (Nat.le_refl _) hcs.1 hcs.2
  have uv : u.vm = s.vm := by rw [hu]; rfl
  have uh : u.heap = H := by rw [hu, ← hT]; rfl
  have hW0 : s.WarmedH u.vm := by rw [uv]; exact State.WarmedH.refl s
  have hst : cn_stat s.heap u.heap := by rw [uh]; exact TX.stat hS
  have h1 := (hTh.2.1.1.go hW0.alike hst).use (args := args)
  have h2 := (hTh.2.1.2.go hW0.alike hst).use (args := args)
  have hatu : ∀ w ∈ Bundle.ownAtoms own ic cls names, w.before args u = true := fun w hw => by
    rcases hat w hw with q | q
    · have hon := (List.mem_filter.mp q).2
      simp only [Bool.and_eq_true] at hon
      exact va_tabs hon.1 uv.symm (hTh.1 w q)
    · simp only [List.mem_cons, List.not_mem_nil, or_false] at q
      rcases q with rfl | rfl | rfl | rfl
      · exact h1.1
      · exact h1.2
      · exact h2.1
      · exact h2.2
  have hou : u.vm.findClass own = some m.cls := by rw [uv]; exact hown
  have K : W p l e { frames := R.frames, cells := 1, slots := 6, locals := R.locals } u m args below meth c H [] 0 0 (fun U => U.status = .running ∧ Ended U below (.threw H.size) ∧ u.WarmedH U.vm ∧ u.sameButNew ({ U with vm := u.vm } : State) [] 1 6 ∧ ∃ ce, U.heap[H.size]? = some ce ∧ ce.vm = .none ∧ u.vm.findClass cls = some ce.cls) (F0 m pc ls st) := by
    refine W.newc hx hb hou (va_tabs rfl uv.symm (hts _ hk)) (va_tabs rfl uv.symm (hts _ hins)) (va_tabs rfl uv.symm (hts _ hini)) rfl d0 (Nat.le_refl _) (Nat.le_refl _) (fun cC kC hfC hkC hoC hnC => ?_)
    refine W.eq (g2 := F0 m (pc + 3) ls (.ref H.size :: st)) rfl ?_
    refine lv_dup hx hb d3 rfl ?_
    refine va_ldcS hx hb hou (hsa.same uv) d4 ?_
    intro T2 hT2 X2
    obtain ⟨U, hsteps, hrun, hend, hWu, hsame, ce, hce, hO⟩ := X2.ctorThrowS hx htr (own := own) (cls := cls) (names := names) (ic := ic) hou hcls hnames hatu (fun x hx => nomatch hx) hfC hkC (a := H.size)
      (by rw [hT2]; simp [freshCell]) (by rw [uh]; exact Nat.le_refl _) (msg := .ref sa) rfl (g := F0 m (pc + 6) ls (.ref sa :: .ref H.size :: .ref H.size :: st)) rfl (by rw [hml]; exact h.1) rfl rfl (rest := st) rfl
      (by rw [hb]; exact d6) (by rw [hb]; exact d9) (fun x hx => (hex x hx).elim) hR.1 (by
        have := hR.2
        have e1 : (Value.ref H.size).category = 1 := rfl
        simp only [List.map_cons, List.sum_cons, e1]
        show 2 * 0 + _ + _ ≤ R.locals
        omega) hlk
    exact ⟨U, hsteps, hrun, hend, hWu, hsame, ce, hce, hO.vm, hO.cls⟩
  obtain ⟨t, ts, k1, k2, k3, k4, ce, k5, k6, k7⟩ := K T hT Y
  refine ⟨t, ts, .threw H.size, k1, k2, H.size, ce, locs, rfl, ⟨k5, k6, by rw [← uv]; exact k7⟩, ?_, ?_, ?_, ?_, hS.2.2⟩
  · refine ⟨hP.kept (fun k q hq => ?_), hD⟩
    have hlt := (hP k q hq).lt
    have h9 := State.sameButNew.old_cell k4 (a := q.1) (c := H[q.1]) (by rw [uh]; exact Array.getElem?_eq_getElem hlt)
    rw [Array.getElem?_eq_getElem hlt]
    exact h9
  · refine ⟨Nat.le_trans hS.1 (by have := k4.2.1; rw [uh] at this; exact this), fun q hq hnA => ?_⟩
    have hlt : q < H.size := Nat.lt_of_lt_of_le hq hS.1
    have h9 := State.sameButNew.old_cell k4 (a := q) (c := H[q]) (by rw [uh]; exact Array.getElem?_eq_getElem hlt)
    have h8 : t.heap[q]? = some H[q] := h9
    rw [h8, ← hS.2.1 q hq hnA, Array.getElem?_eq_getElem hlt]
  · exact State.WarmedH.trans hW0 k3
  · have q0 : (T.setVm s.vm).sameButNew ({ t with vm := s.vm } : State) [] 1 6 := by
      obtain ⟨a1, a2⟩ := k4
      rw [uv, hu, State.setFrames_setFrames] at a1
      rw [hu] at a2
      exact ⟨a1, a2⟩
    have q1 := X.same.trans q0
    rw [List.append_nil] at q1
    exact q1
end TH2
