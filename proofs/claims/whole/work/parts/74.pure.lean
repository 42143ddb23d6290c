/-! PURE: the law's calls, one by one -/
theorem cn_tn0 : Int32.toNatClampNeg 0 = 0 := by decide
def cn_RD (L : Nat) (v4 : Int32) : Prop := ∀ c : Nat, c ≤ 9 → ∀ (α : Type) (x : Option α), cn_rd (v4 + nI c) L x = x
theorem cn_RD.r1 {L : Nat} {v4 : Int32} (H : cn_RD L v4) : ∀ (α : Type) (x : Option α), cn_rd (v4 + 1) L x = x := fun α x => H 1 (by decide) α x
theorem cn_RD.r2 {L : Nat} {v4 : Int32} (H : cn_RD L v4) : ∀ (α : Type) (x : Option α), cn_rd (v4 + 2) L x = x := fun α x => H 2 (by decide) α x
theorem cn_RD.r3 {L : Nat} {v4 : Int32} (H : cn_RD L v4) : ∀ (α : Type) (x : Option α), cn_rd (v4 + 3) L x = x := fun α x => H 3 (by decide) α x
theorem cn_RD.r4 {L : Nat} {v4 : Int32} (H : cn_RD L v4) : ∀ (α : Type) (x : Option α), cn_rd (v4 + 4) L x = x := fun α x => H 4 (by decide) α x
theorem cn_RD.r5 {L : Nat} {v4 : Int32} (H : cn_RD L v4) : ∀ (α : Type) (x : Option α), cn_rd (v4 + 5) L x = x := fun α x => H 5 (by decide) α x
theorem cn_RD.r6 {L : Nat} {v4 : Int32} (H : cn_RD L v4) : ∀ (α : Type) (x : Option α), cn_rd (v4 + 6) L x = x := fun α x => H 6 (by decide) α x
theorem cn_RD.r7 {L : Nat} {v4 : Int32} (H : cn_RD L v4) : ∀ (α : Type) (x : Option α), cn_rd (v4 + 7) L x = x := fun α x => H 7 (by decide) α x
theorem cn_RD.r8 {L : Nat} {v4 : Int32} (H : cn_RD L v4) : ∀ (α : Type) (x : Option α), cn_rd (v4 + 8) L x = x := fun α x => H 8 (by decide) α x
theorem cn_RD.r9 {L : Nat} {v4 : Int32} (H : cn_RD L v4) : ∀ (α : Type) (x : Option α), cn_rd (v4 + 9) L x = x := fun α x => H 9 (by decide) α x
theorem cn_cmp0 {a b : Int64} (h : a = b) : lg_cmp a b = 0 := cn_cmpEq.mpr h
theorem cn_kshape {L : Nat} {xs : Nat → Int32} {k33} {Ly v4 : Int32} (hk : ∀ (D : cn_Dat) (kept : Nat → Int32) (ac apc : Int32) (f : Nat → Int64) (pads re : Nat → Int32) (nr : Nat → Int64) (sp nb gb : Nat → Int32) (th : Int32) (aS : Int64) (aL aH : Int32) (lab num G : Nat → Int32) (out : Nat → Int64), D.ok → cn_Kept D kept → k33 Ly D.nop (nI D.n) D.there D.fr D.to D.pin D.x D.y D.ri D.hi D.r kept ac apc f pads re nr sp nb gb th Ly (nI D.n) aS aL aH D.there D.fr D.to D.x D.y D.w D.h D.r D.pin D.nop lab num G out (v4 + 10) = some ()) (H : cn_RD L v4) {D : cn_Dat} (ok : D.ok) {kept : Nat → Int32} (hK : cn_Kept D kept) (ac apc : Int32) (f : Nat → Int64) (pads re : Nat → Int32) (nr : Nat → Int64) (sp nb gb : Nat → Int32) (th : Int32) (aS : Int64) (aL aH : Int32) (lab num G : Nat → Int32) (out : Nat → Int64) : F_law_128 L xs k33 Ly D.nop (nI D.n) D.there D.fr D.to D.pin D.x D.y D.ri D.hi D.r kept ac apc f pads re nr sp nb gb th Ly (nI D.n) aS aL aH D.there D.fr D.to D.x D.y D.w D.h D.r D.pin D.nop lab num G out v4 = some () := by
  have r1 := H.r1
  have r2 := H.r2
  have r3 := H.r3
  have r4 := H.r4
  have r5 := H.r5
  have r6 := H.r6
  have r7 := H.r7
  have r8 := H.r8
  have r9 := H.r9
  obtain ⟨k, D', kept', out', b, e1, e2, h, ok', hK', en⟩ := cn_shape ok hK Ly th out (xs (Int32.toNatClampNeg (v4 + 1))) ((Int32.toInt64 (xs (Int32.toNatClampNeg (v4 + 2)))) <<< (Int32.toInt64 32 &&& 63) ||| ((Int32.toInt64 (xs (Int32.toNatClampNeg (v4 + 3)))) &&& 4294967295)) ((Int32.toInt64 (xs (Int32.toNatClampNeg (v4 + 4)))) <<< (Int32.toInt64 32 &&& 63) ||| ((Int32.toInt64 (xs (Int32.toNatClampNeg (v4 + 5)))) &&& 4294967295)) ((Int32.toInt64 (xs (Int32.toNatClampNeg (v4 + 6)))) <<< (Int32.toInt64 32 &&& 63) ||| ((Int32.toInt64 (xs (Int32.toNatClampNeg (v4 + 7)))) &&& 4294967295)) ((Int32.toInt64 (xs (Int32.toNatClampNeg (v4 + 8)))) <<< (Int32.toInt64 32 &&& 63) ||| ((Int32.toInt64 (xs (Int32.toNatClampNeg (v4 + 9)))) &&& 4294967295))
  unfold F_law_128 F_law_365 F_law_1358 F_M_thrown F_M_thrown_0
  simp only [@r1, @r2, @r3, @r4, @r5, @r6, @r7, @r8, @r9, e1, e2, Option.bind_some, if_true, cn_rd01, cn_tn0]
  have go := hk D' kept' ac apc f pads re nr sp nb gb k aS aL aH lab num G out' ok' hK'
  rw [en] at go
  by_cases z : k = 0
  · rw [if_pos z, if_pos (cn_cmp0 (h z))]; exact go
  · rw [if_neg z]; exact go
theorem cn_kvia {L : Nat} {xs : Nat → Int32} {k33} {Ly v4 : Int32} (hk : ∀ (D : cn_Dat) (kept : Nat → Int32) (ac apc : Int32) (f : Nat → Int64) (pads re : Nat → Int32) (nr : Nat → Int64) (sp nb gb : Nat → Int32) (th : Int32) (aS : Int64) (aL aH : Int32) (lab num G : Nat → Int32) (out : Nat → Int64), D.ok → cn_Kept D kept → k33 Ly D.nop (nI D.n) D.there D.fr D.to D.pin D.x D.y D.ri D.hi D.r kept ac apc f pads re nr sp nb gb th Ly (nI D.n) aS aL aH D.there D.fr D.to D.x D.y D.w D.h D.r D.pin D.nop lab num G out (v4 + 10) = some ()) (H : cn_RD L v4) {D : cn_Dat} (ok : D.ok) {kept : Nat → Int32} (hK : cn_Kept D kept) (ac apc : Int32) (f : Nat → Int64) (pads re : Nat → Int32) (nr : Nat → Int64) (sp nb gb : Nat → Int32) (th : Int32) (aS : Int64) (aL aH : Int32) (lab num G : Nat → Int32) (out : Nat → Int64) : F_law_368 L xs k33 Ly D.nop (nI D.n) D.there D.fr D.to D.pin D.x D.y D.ri D.hi D.r kept ac apc f pads re nr sp nb gb th Ly (nI D.n) aS aL aH D.there D.fr D.to D.x D.y D.w D.h D.r D.pin D.nop lab num G out v4 = some () := by
  have r1 := H.r1
  have r2 := H.r2
  have r3 := H.r3
  have r4 := H.r4
  have r5 := H.r5
  have r6 := H.r6
  have r7 := H.r7
  have r8 := H.r8
  have r9 := H.r9
  obtain ⟨k, D', kept', out', b, e1, e2, h, ok', hK', en⟩ := cn_via ok hK Ly th out (xs (Int32.toNatClampNeg (v4 + 1))) (xs (Int32.toNatClampNeg (v4 + 2))) ((Int32.toInt64 (xs (Int32.toNatClampNeg (v4 + 3)))) <<< (Int32.toInt64 32 &&& 63) ||| ((Int32.toInt64 (xs (Int32.toNatClampNeg (v4 + 4)))) &&& 4294967295)) ((Int32.toInt64 (xs (Int32.toNatClampNeg (v4 + 5)))) <<< (Int32.toInt64 32 &&& 63) ||| ((Int32.toInt64 (xs (Int32.toNatClampNeg (v4 + 6)))) &&& 4294967295)) ((Int32.toInt64 (xs (Int32.toNatClampNeg (v4 + 7)))) <<< (Int32.toInt64 32 &&& 63) ||| ((Int32.toInt64 (xs (Int32.toNatClampNeg (v4 + 8)))) &&& 4294967295))
  unfold F_law_368 F_law_571 F_law_1358 F_M_thrown F_M_thrown_0
  simp only [@r1, @r2, @r3, @r4, @r5, @r6, @r7, @r8, @r9, e1, e2, Option.bind_some, if_true, cn_rd01, cn_tn0]
  have go := hk D' kept' ac apc f pads re nr sp nb gb k aS aL aH lab num G out' ok' hK'
  rw [en] at go
  by_cases z : k = 0
  · rw [if_pos z, if_pos (cn_cmp0 (h z))]; exact go
  · rw [if_neg z]; exact go
theorem cn_kpad {L : Nat} {xs : Nat → Int32} {k33} {Ly v4 : Int32} (hk : ∀ (D : cn_Dat) (kept : Nat → Int32) (ac apc : Int32) (f : Nat → Int64) (pads re : Nat → Int32) (nr : Nat → Int64) (sp nb gb : Nat → Int32) (th : Int32) (aS : Int64) (aL aH : Int32) (lab num G : Nat → Int32) (out : Nat → Int64), D.ok → cn_Kept D kept → k33 Ly D.nop (nI D.n) D.there D.fr D.to D.pin D.x D.y D.ri D.hi D.r kept ac apc f pads re nr sp nb gb th Ly (nI D.n) aS aL aH D.there D.fr D.to D.x D.y D.w D.h D.r D.pin D.nop lab num G out (v4 + 10) = some ()) (H : cn_RD L v4) {D : cn_Dat} (ok : D.ok) {kept : Nat → Int32} (hK : cn_Kept D kept) (ac apc : Int32) (f : Nat → Int64) (pads re : Nat → Int32) (nr : Nat → Int64) (sp nb gb : Nat → Int32) (th : Int32) (aS : Int64) (aL aH : Int32) (lab num G : Nat → Int32) (out : Nat → Int64) : F_law_574 L xs k33 Ly D.nop (nI D.n) D.there D.fr D.to D.pin D.x D.y D.ri D.hi D.r kept ac apc f pads re nr sp nb gb th Ly (nI D.n) aS aL aH D.there D.fr D.to D.x D.y D.w D.h D.r D.pin D.nop lab num G out v4 = some () := by
  have r1 := H.r1
  have r2 := H.r2
  have r3 := H.r3
  have r4 := H.r4
  have r5 := H.r5
  have r6 := H.r6
  have r7 := H.r7
  have r8 := H.r8
  have r9 := H.r9
  obtain ⟨k, D', kept', out', b, e1, e2, h, ok', hK', en⟩ := cn_pad ok hK Ly th out (xs (Int32.toNatClampNeg (v4 + 1))) (xs (Int32.toNatClampNeg (v4 + 2))) ((Int32.toInt64 (xs (Int32.toNatClampNeg (v4 + 3)))) <<< (Int32.toInt64 32 &&& 63) ||| ((Int32.toInt64 (xs (Int32.toNatClampNeg (v4 + 4)))) &&& 4294967295)) ((Int32.toInt64 (xs (Int32.toNatClampNeg (v4 + 5)))) <<< (Int32.toInt64 32 &&& 63) ||| ((Int32.toInt64 (xs (Int32.toNatClampNeg (v4 + 6)))) &&& 4294967295)) ((Int32.toInt64 (xs (Int32.toNatClampNeg (v4 + 7)))) <<< (Int32.toInt64 32 &&& 63) ||| ((Int32.toInt64 (xs (Int32.toNatClampNeg (v4 + 8)))) &&& 4294967295))
  unfold F_law_574 F_law_777 F_law_1358 F_M_thrown F_M_thrown_0
  simp only [@r1, @r2, @r3, @r4, @r5, @r6, @r7, @r8, @r9, e1, e2, Option.bind_some, if_true, cn_rd01, cn_tn0]
  have go := hk D' kept' ac apc f pads re nr sp nb gb k aS aL aH lab num G out' ok' hK'
  rw [en] at go
  by_cases z : k = 0
  · rw [if_pos z, if_pos (cn_cmp0 (h z))]; exact go
  · rw [if_neg z]; exact go
theorem cn_kplans {L : Nat} {xs : Nat → Int32} {k33} {Ly v4 : Int32} (hk : ∀ (D : cn_Dat) (kept : Nat → Int32) (ac apc : Int32) (f : Nat → Int64) (pads re : Nat → Int32) (nr : Nat → Int64) (sp nb gb : Nat → Int32) (th : Int32) (aS : Int64) (aL aH : Int32) (lab num G : Nat → Int32) (out : Nat → Int64), D.ok → cn_Kept D kept → k33 Ly D.nop (nI D.n) D.there D.fr D.to D.pin D.x D.y D.ri D.hi D.r kept ac apc f pads re nr sp nb gb th Ly (nI D.n) aS aL aH D.there D.fr D.to D.x D.y D.w D.h D.r D.pin D.nop lab num G out (v4 + 10) = some ()) (H : cn_RD L v4) {D : cn_Dat} (ok : D.ok) {kept : Nat → Int32} (hK : cn_Kept D kept) (ac apc : Int32) (f : Nat → Int64) (pads re : Nat → Int32) (nr : Nat → Int64) (sp nb gb : Nat → Int32) (th : Int32) (aS : Int64) (aL aH : Int32) (lab num G : Nat → Int32) (out : Nat → Int64) : F_law_780 L xs k33 Ly D.nop (nI D.n) D.there D.fr D.to D.pin D.x D.y D.ri D.hi D.r kept ac apc f pads re nr sp nb gb th Ly (nI D.n) aS aL aH D.there D.fr D.to D.x D.y D.w D.h D.r D.pin D.nop lab num G out v4 = some () := by
  have r1 := H.r1
  have r2 := H.r2
  have r3 := H.r3
  have r4 := H.r4
  have r5 := H.r5
  have r6 := H.r6
  have r7 := H.r7
  have r8 := H.r8
  have r9 := H.r9
  obtain ⟨k, nop', out', b, e1, e2, h, hn⟩ := cn_plans ok th out (xs (Int32.toNatClampNeg (v4 + 1))) (xs (Int32.toNatClampNeg (v4 + 2)))
  unfold F_law_780 F_law_846 F_law_852 F_law_1358 F_M_thrown F_M_thrown_0
  simp only [@r1, @r2, @r3, @r4, @r5, @r6, @r7, @r8, @r9, e1, e2, Option.bind_some, if_true, cn_rd01, cn_tn0]
  have ok' : (D.wp nop').ok := ⟨ok.n60, ok.th, ok.out, ok.pin40, hn, ok.bx, ok.bY, ok.bw, ok.bh, ok.disc⟩
  have hK' : cn_Kept (D.wp nop') kept := hK
  have go := hk (D.wp nop') kept ac apc f pads re nr sp nb gb k aS aL aH lab num G out' ok' hK'
  by_cases z : k = 0
  · rw [if_pos z]
    have h0 := h z
    by_cases w : b = 0
    · rw [if_pos w] at h0
      rw [if_pos w, if_pos (cn_cmp0 h0)]; exact go
    · rw [if_neg w] at h0
      rw [if_neg w, if_pos (cn_cmp0 h0)]; exact go
  · rw [if_neg z]; exact go
theorem cn_kdrop {L : Nat} {xs : Nat → Int32} {k33} {Ly v4 : Int32} (hk : ∀ (D : cn_Dat) (kept : Nat → Int32) (ac apc : Int32) (f : Nat → Int64) (pads re : Nat → Int32) (nr : Nat → Int64) (sp nb gb : Nat → Int32) (th : Int32) (aS : Int64) (aL aH : Int32) (lab num G : Nat → Int32) (out : Nat → Int64), D.ok → cn_Kept D kept → k33 Ly D.nop (nI D.n) D.there D.fr D.to D.pin D.x D.y D.ri D.hi D.r kept ac apc f pads re nr sp nb gb th Ly (nI D.n) aS aL aH D.there D.fr D.to D.x D.y D.w D.h D.r D.pin D.nop lab num G out (v4 + 10) = some ()) (H : cn_RD L v4) {D : cn_Dat} (ok : D.ok) {kept : Nat → Int32} (hK : cn_Kept D kept) (ac apc : Int32) (f : Nat → Int64) (pads re : Nat → Int32) (nr : Nat → Int64) (sp nb gb : Nat → Int32) (th : Int32) (aS : Int64) (aL aH : Int32) (lab num G : Nat → Int32) (out : Nat → Int64) : F_law_1244 L xs k33 Ly D.nop (nI D.n) D.there D.fr D.to D.pin D.x D.y D.ri D.hi D.r kept ac apc f pads re nr sp nb gb th Ly (nI D.n) aS aL aH D.there D.fr D.to D.x D.y D.w D.h D.r D.pin D.nop lab num G out v4 = some () := by
  have r1 := H.r1
  have r2 := H.r2
  have r3 := H.r3
  have r4 := H.r4
  have r5 := H.r5
  have r6 := H.r6
  have r7 := H.r7
  have r8 := H.r8
  have r9 := H.r9
  obtain ⟨k, there', kept', sp', out', b, e1, e2, h, ok', hK'⟩ := cn_dropL ok hK sp th out (xs (Int32.toNatClampNeg (v4 + 1)))
  unfold F_law_1244 F_law_1298 F_law_1304 F_law_1358 F_M_thrown F_M_thrown_0
  simp only [@r1, @r2, @r3, @r4, @r5, @r6, @r7, @r8, @r9, e1, e2, Option.bind_some, if_true, cn_rd01, cn_tn0]
  have go := hk (D.wt there') kept' ac apc f pads re nr sp' nb gb k aS aL aH lab num G out' ok' hK'
  by_cases z : k = 0
  · rw [if_pos z]
    have h0 := h z
    by_cases w : b = 0
    · rw [if_pos w] at h0
      rw [if_pos w, if_pos (cn_cmp0 h0)]; exact go
    · rw [if_neg w] at h0
      rw [if_neg w, if_pos (cn_cmp0 h0)]; exact go
  · rw [if_neg z]; exact go
theorem cn_krun {L : Nat} {xs : Nat → Int32} {k33} {Ly v4 : Int32} (hk : ∀ (D : cn_Dat) (kept : Nat → Int32) (ac apc : Int32) (f : Nat → Int64) (pads re : Nat → Int32) (nr : Nat → Int64) (sp nb gb : Nat → Int32) (th : Int32) (aS : Int64) (aL aH : Int32) (lab num G : Nat → Int32) (out : Nat → Int64), D.ok → cn_Kept D kept → k33 Ly D.nop (nI D.n) D.there D.fr D.to D.pin D.x D.y D.ri D.hi D.r kept ac apc f pads re nr sp nb gb th Ly (nI D.n) aS aL aH D.there D.fr D.to D.x D.y D.w D.h D.r D.pin D.nop lab num G out (v4 + 10) = some ()) (H : cn_RD L v4) {D : cn_Dat} (ok : D.ok) {kept : Nat → Int32} (hK : cn_Kept D kept) (ac apc : Int32) (f : Nat → Int64) (pads re : Nat → Int32) (nr : Nat → Int64) (sp nb gb : Nat → Int32) (th : Int32) (aS : Int64) (aL aH : Int32) (lab num G : Nat → Int32) (out : Nat → Int64) : F_law_855 L xs k33 Ly D.nop (nI D.n) D.there D.fr D.to D.pin D.x D.y D.ri D.hi D.r kept ac apc f pads re nr sp nb gb th Ly (nI D.n) aS aL aH D.there D.fr D.to D.x D.y D.w D.h D.r D.pin D.nop lab num G out v4 = some () := by
  have r1 := H.r1
  have r2 := H.r2
  have r3 := H.r3
  have r4 := H.r4
  have r5 := H.r5
  have r6 := H.r6
  have r7 := H.r7
  have r8 := H.r8
  have r9 := H.r9
  obtain ⟨v, lab', num', e1, e2⟩ := cn_run ok hK th lab num
  unfold F_law_855 F_law_1358
  simp only [@r1, @r2, @r3, @r4, @r5, @r6, @r7, @r8, @r9, e1, e2, Option.bind_some, if_true]
  exact hk D kept ac apc f pads re nr sp nb gb 0 aS aL aH lab' num' G out ok hK
theorem cn_kshorts {L : Nat} {xs : Nat → Int32} {k33} {Ly v4 : Int32} (hk : ∀ (D : cn_Dat) (kept : Nat → Int32) (ac apc : Int32) (f : Nat → Int64) (pads re : Nat → Int32) (nr : Nat → Int64) (sp nb gb : Nat → Int32) (th : Int32) (aS : Int64) (aL aH : Int32) (lab num G : Nat → Int32) (out : Nat → Int64), D.ok → cn_Kept D kept → k33 Ly D.nop (nI D.n) D.there D.fr D.to D.pin D.x D.y D.ri D.hi D.r kept ac apc f pads re nr sp nb gb th Ly (nI D.n) aS aL aH D.there D.fr D.to D.x D.y D.w D.h D.r D.pin D.nop lab num G out (v4 + 10) = some ()) (H : cn_RD L v4) {D : cn_Dat} (ok : D.ok) {kept : Nat → Int32} (hK : cn_Kept D kept) (ac apc : Int32) (f : Nat → Int64) (pads re : Nat → Int32) (nr : Nat → Int64) (sp nb gb : Nat → Int32) (th : Int32) (aS : Int64) (aL aH : Int32) (lab num G : Nat → Int32) (out : Nat → Int64) : F_law_1059 L xs k33 Ly D.nop (nI D.n) D.there D.fr D.to D.pin D.x D.y D.ri D.hi D.r kept ac apc f pads re nr sp nb gb th Ly (nI D.n) aS aL aH D.there D.fr D.to D.x D.y D.w D.h D.r D.pin D.nop lab num G out v4 = some () := by
  have r1 := H.r1
  have r2 := H.r2
  have r3 := H.r3
  have r4 := H.r4
  have r5 := H.r5
  have r6 := H.r6
  have r7 := H.r7
  have r8 := H.r8
  have r9 := H.r9
  obtain ⟨v, nb', lab', num', e1, e2⟩ := cn_shorts ok hK nb th lab num
  unfold F_law_1059 F_law_1358
  simp only [@r1, @r2, @r3, @r4, @r5, @r6, @r7, @r8, @r9, e1, e2, Option.bind_some, if_true]
  exact hk D kept ac apc f pads re nr sp nb' gb 0 aS aL aH lab' num' G out ok hK
theorem cn_kunnamed {L : Nat} {xs : Nat → Int32} {k33} {Ly v4 : Int32} (hk : ∀ (D : cn_Dat) (kept : Nat → Int32) (ac apc : Int32) (f : Nat → Int64) (pads re : Nat → Int32) (nr : Nat → Int64) (sp nb gb : Nat → Int32) (th : Int32) (aS : Int64) (aL aH : Int32) (lab num G : Nat → Int32) (out : Nat → Int64), D.ok → cn_Kept D kept → k33 Ly D.nop (nI D.n) D.there D.fr D.to D.pin D.x D.y D.ri D.hi D.r kept ac apc f pads re nr sp nb gb th Ly (nI D.n) aS aL aH D.there D.fr D.to D.x D.y D.w D.h D.r D.pin D.nop lab num G out (v4 + 10) = some ()) (H : cn_RD L v4) {D : cn_Dat} (ok : D.ok) {kept : Nat → Int32} (hK : cn_Kept D kept) (ac apc : Int32) (f : Nat → Int64) (pads re : Nat → Int32) (nr : Nat → Int64) (sp nb gb : Nat → Int32) (th : Int32) (aS : Int64) (aL aH : Int32) (lab num G : Nat → Int32) (out : Nat → Int64) : F_law_1139 L xs k33 Ly D.nop (nI D.n) D.there D.fr D.to D.pin D.x D.y D.ri D.hi D.r kept ac apc f pads re nr sp nb gb th Ly (nI D.n) aS aL aH D.there D.fr D.to D.x D.y D.w D.h D.r D.pin D.nop lab num G out v4 = some () := by
  have r1 := H.r1
  have r2 := H.r2
  have r3 := H.r3
  have r4 := H.r4
  have r5 := H.r5
  have r6 := H.r6
  have r7 := H.r7
  have r8 := H.r8
  have r9 := H.r9
  obtain ⟨v, nb', lab', num', e1, e2⟩ := cn_unnamed ok hK nb th lab num (xs (Int32.toNatClampNeg (v4 + 1)))
  unfold F_law_1139 F_law_1358
  simp only [@r1, @r2, @r3, @r4, @r5, @r6, @r7, @r8, @r9, e1, e2, Option.bind_some, if_true]
  exact hk D kept ac apc f pads re nr sp nb' gb 0 aS aL aH lab' num' G out ok hK
theorem cn_ksame {L : Nat} {xs : Nat → Int32} {k33} {Ly v4 : Int32} (hk : ∀ (D : cn_Dat) (kept : Nat → Int32) (ac apc : Int32) (f : Nat → Int64) (pads re : Nat → Int32) (nr : Nat → Int64) (sp nb gb : Nat → Int32) (th : Int32) (aS : Int64) (aL aH : Int32) (lab num G : Nat → Int32) (out : Nat → Int64), D.ok → cn_Kept D kept → k33 Ly D.nop (nI D.n) D.there D.fr D.to D.pin D.x D.y D.ri D.hi D.r kept ac apc f pads re nr sp nb gb th Ly (nI D.n) aS aL aH D.there D.fr D.to D.x D.y D.w D.h D.r D.pin D.nop lab num G out (v4 + 10) = some ()) (H : cn_RD L v4) {D : cn_Dat} (ok : D.ok) {kept : Nat → Int32} (hK : cn_Kept D kept) (ac apc : Int32) (f : Nat → Int64) (pads re : Nat → Int32) (nr : Nat → Int64) (sp nb gb : Nat → Int32) (th : Int32) (aS : Int64) (aL aH : Int32) (lab num G : Nat → Int32) (out : Nat → Int64) : F_law_1307 L xs k33 Ly D.nop (nI D.n) D.there D.fr D.to D.pin D.x D.y D.ri D.hi D.r kept ac apc f pads re nr sp nb gb th Ly (nI D.n) aS aL aH D.there D.fr D.to D.x D.y D.w D.h D.r D.pin D.nop lab num G out v4 = some () := by
  have r1 := H.r1
  have r2 := H.r2
  have r3 := H.r3
  have r4 := H.r4
  have r5 := H.r5
  have r6 := H.r6
  have r7 := H.r7
  have r8 := H.r8
  have r9 := H.r9
  obtain ⟨sp', e1⟩ := cn_same ok hK sp
  have e2 : F_M_same th = some (1, 0) := rfl
  unfold F_law_1307 F_law_1358
  simp only [@r1, @r2, @r3, @r4, @r5, @r6, @r7, @r8, @r9, e1, e2, Option.bind_some, if_true]
  exact hk D kept ac apc f pads re nr sp' nb gb 0 aS aL aH lab num G out ok hK
theorem cn_kunreached {L : Nat} {xs : Nat → Int32} {k33} {Ly v4 : Int32} (hk : ∀ (D : cn_Dat) (kept : Nat → Int32) (ac apc : Int32) (f : Nat → Int64) (pads re : Nat → Int32) (nr : Nat → Int64) (sp nb gb : Nat → Int32) (th : Int32) (aS : Int64) (aL aH : Int32) (lab num G : Nat → Int32) (out : Nat → Int64), D.ok → cn_Kept D kept → k33 Ly D.nop (nI D.n) D.there D.fr D.to D.pin D.x D.y D.ri D.hi D.r kept ac apc f pads re nr sp nb gb th Ly (nI D.n) aS aL aH D.there D.fr D.to D.x D.y D.w D.h D.r D.pin D.nop lab num G out (v4 + 10) = some ()) (H : cn_RD L v4) {D : cn_Dat} (ok : D.ok) {kept : Nat → Int32} (hK : cn_Kept D kept) (ac apc : Int32) (f : Nat → Int64) (pads re : Nat → Int32) (nr : Nat → Int64) (sp nb gb : Nat → Int32) (th : Int32) (aS : Int64) (aL aH : Int32) (lab num G : Nat → Int32) (out : Nat → Int64) : F_law_1320 L xs k33 Ly D.nop (nI D.n) D.there D.fr D.to D.pin D.x D.y D.ri D.hi D.r kept ac apc f pads re nr sp nb gb th Ly (nI D.n) aS aL aH D.there D.fr D.to D.x D.y D.w D.h D.r D.pin D.nop lab num G out v4 = some () := by
  have r1 := H.r1
  have r2 := H.r2
  have r3 := H.r3
  have r4 := H.r4
  have r5 := H.r5
  have r6 := H.r6
  have r7 := H.r7
  have r8 := H.r8
  have r9 := H.r9
  obtain ⟨r, e1, e3⟩ := cn_unrAt ok (xs (Int32.toNatClampNeg (v4 + 1)))
  have e2 : F_M_unreached th (nI D.n) D.there D.pin D.nop (xs (Int32.toNatClampNeg (v4 + 1))) = some (r, 0) := by unfold F_M_unreached F_M_unreached_0; rw [e3]; rfl
  unfold F_law_1320 F_law_1358
  simp only [@r1, @r2, @r3, @r4, @r5, @r6, @r7, @r8, @r9, e1, e2, Option.bind_some, if_true]
  exact hk D kept ac apc f pads re nr sp nb gb 0 aS aL aH lab num G out ok hK
theorem cn_kexact {L : Nat} {xs : Nat → Int32} {k33} {Ly v4 : Int32} (hk : ∀ (D : cn_Dat) (kept : Nat → Int32) (ac apc : Int32) (f : Nat → Int64) (pads re : Nat → Int32) (nr : Nat → Int64) (sp nb gb : Nat → Int32) (th : Int32) (aS : Int64) (aL aH : Int32) (lab num G : Nat → Int32) (out : Nat → Int64), D.ok → cn_Kept D kept → k33 Ly D.nop (nI D.n) D.there D.fr D.to D.pin D.x D.y D.ri D.hi D.r kept ac apc f pads re nr sp nb gb th Ly (nI D.n) aS aL aH D.there D.fr D.to D.x D.y D.w D.h D.r D.pin D.nop lab num G out (v4 + 10) = some ()) (H : cn_RD L v4) {D : cn_Dat} (ok : D.ok) {kept : Nat → Int32} (hK : cn_Kept D kept) (ac apc : Int32) (f : Nat → Int64) (pads re : Nat → Int32) (nr : Nat → Int64) (sp nb gb : Nat → Int32) (th : Int32) (aS : Int64) (aL aH : Int32) (lab num G : Nat → Int32) (out : Nat → Int64) : F_law_1345 L xs k33 Ly D.nop (nI D.n) D.there D.fr D.to D.pin D.x D.y D.ri D.hi D.r kept ac apc f pads re nr sp nb gb th Ly (nI D.n) aS aL aH D.there D.fr D.to D.x D.y D.w D.h D.r D.pin D.nop lab num G out v4 = some () := by
  have r1 := H.r1
  have r2 := H.r2
  have r3 := H.r3
  have r4 := H.r4
  have r5 := H.r5
  have r6 := H.r6
  have r7 := H.r7
  have r8 := H.r8
  have r9 := H.r9
  obtain ⟨r, ac', apc', f', pads', re', nr', nb', aS', aL', aH', lab', num', G', e1, e2⟩ := cn_exact ok hK ac apc f pads re nr nb th aS aL aH lab num G
  unfold F_law_1345 F_law_1358
  simp only [@r1, @r2, @r3, @r4, @r5, @r6, @r7, @r8, @r9, e1, e2, Option.bind_some, if_true]
  exact hk D kept ac' apc' f' pads' re' nr' sp nb' gb 0 aS' aL' aH' lab' num' G' out ok hK
theorem cn_knetOf {L : Nat} {xs : Nat → Int32} {k33} {Ly v4 : Int32} (hk : ∀ (D : cn_Dat) (kept : Nat → Int32) (ac apc : Int32) (f : Nat → Int64) (pads re : Nat → Int32) (nr : Nat → Int64) (sp nb gb : Nat → Int32) (th : Int32) (aS : Int64) (aL aH : Int32) (lab num G : Nat → Int32) (out : Nat → Int64), D.ok → cn_Kept D kept → k33 Ly D.nop (nI D.n) D.there D.fr D.to D.pin D.x D.y D.ri D.hi D.r kept ac apc f pads re nr sp nb gb th Ly (nI D.n) aS aL aH D.there D.fr D.to D.x D.y D.w D.h D.r D.pin D.nop lab num G out (v4 + 10) = some ()) (H : cn_RD L v4) {D : cn_Dat} (ok : D.ok) {kept : Nat → Int32} (hK : cn_Kept D kept) (ac apc : Int32) (f : Nat → Int64) (pads re : Nat → Int32) (nr : Nat → Int64) (sp nb gb : Nat → Int32) (th : Int32) (aS : Int64) (aL aH : Int32) (lab num G : Nat → Int32) (out : Nat → Int64) : F_law_868 L xs k33 Ly D.nop (nI D.n) D.there D.fr D.to D.pin D.x D.y D.ri D.hi D.r kept ac apc f pads re nr sp nb gb th Ly (nI D.n) aS aL aH D.there D.fr D.to D.x D.y D.w D.h D.r D.pin D.nop lab num G out v4 = some () := by
  have r1 := H.r1
  have r2 := H.r2
  have r3 := H.r3
  have r4 := H.r4
  have r5 := H.r5
  have r6 := H.r6
  have r7 := H.r7
  have r8 := H.r8
  have r9 := H.r9
  obtain ⟨k, out', b, lab', num', e1, e2, h⟩ := cn_netOf ok hK th lab num out (xs (Int32.toNatClampNeg (v4 + 1)))
  unfold F_law_868 F_law_921 F_law_1358 F_M_thrown F_M_thrown_0
  simp only [@r1, @r2, @r3, @r4, @r5, @r6, @r7, @r8, @r9, e1, e2, Option.bind_some, if_true, cn_rd01, cn_tn0]
  have go := hk D kept ac apc f pads re nr sp nb gb k aS aL aH lab' num' G out' ok hK
  by_cases z : k = 0
  · rw [if_pos z, if_pos (cn_cmp0 (h z))]; exact go
  · rw [if_neg z]; exact go
theorem cn_kopens {L : Nat} {xs : Nat → Int32} {k33} {Ly v4 : Int32} (hk : ∀ (D : cn_Dat) (kept : Nat → Int32) (ac apc : Int32) (f : Nat → Int64) (pads re : Nat → Int32) (nr : Nat → Int64) (sp nb gb : Nat → Int32) (th : Int32) (aS : Int64) (aL aH : Int32) (lab num G : Nat → Int32) (out : Nat → Int64), D.ok → cn_Kept D kept → k33 Ly D.nop (nI D.n) D.there D.fr D.to D.pin D.x D.y D.ri D.hi D.r kept ac apc f pads re nr sp nb gb th Ly (nI D.n) aS aL aH D.there D.fr D.to D.x D.y D.w D.h D.r D.pin D.nop lab num G out (v4 + 10) = some ()) (H : cn_RD L v4) {D : cn_Dat} (ok : D.ok) {kept : Nat → Int32} (hK : cn_Kept D kept) (ac apc : Int32) (f : Nat → Int64) (pads re : Nat → Int32) (nr : Nat → Int64) (sp nb gb : Nat → Int32) (th : Int32) (aS : Int64) (aL aH : Int32) (lab num G : Nat → Int32) (out : Nat → Int64) : F_law_924 L xs k33 Ly D.nop (nI D.n) D.there D.fr D.to D.pin D.x D.y D.ri D.hi D.r kept ac apc f pads re nr sp nb gb th Ly (nI D.n) aS aL aH D.there D.fr D.to D.x D.y D.w D.h D.r D.pin D.nop lab num G out v4 = some () := by
  have r1 := H.r1
  have r2 := H.r2
  have r3 := H.r3
  have r4 := H.r4
  have r5 := H.r5
  have r6 := H.r6
  have r7 := H.r7
  have r8 := H.r8
  have r9 := H.r9
  obtain ⟨k, ac', apc', f', pads', re', nr', out', b, aS', aL', aH', lab', num', G', e1, e2, h⟩ := cn_opens ok hK ac apc f pads re nr th aS aL aH lab num G out (xs (Int32.toNatClampNeg (v4 + 1)))
  unfold F_law_924 F_law_977 F_law_1358 F_M_thrown F_M_thrown_0
  simp only [@r1, @r2, @r3, @r4, @r5, @r6, @r7, @r8, @r9, e1, e2, Option.bind_some, if_true, cn_rd01, cn_tn0]
  have go := hk D kept ac' apc' f' pads' re' nr' sp nb gb k aS' aL' aH' lab' num' G' out' ok hK
  by_cases z : k = 0
  · rw [if_pos z, if_pos (cn_cmp0 (h z))]; exact go
  · rw [if_neg z]; exact go
theorem cn_kopen {L : Nat} {xs : Nat → Int32} {k33} {Ly v4 : Int32} (hk : ∀ (D : cn_Dat) (kept : Nat → Int32) (ac apc : Int32) (f : Nat → Int64) (pads re : Nat → Int32) (nr : Nat → Int64) (sp nb gb : Nat → Int32) (th : Int32) (aS : Int64) (aL aH : Int32) (lab num G : Nat → Int32) (out : Nat → Int64), D.ok → cn_Kept D kept → k33 Ly D.nop (nI D.n) D.there D.fr D.to D.pin D.x D.y D.ri D.hi D.r kept ac apc f pads re nr sp nb gb th Ly (nI D.n) aS aL aH D.there D.fr D.to D.x D.y D.w D.h D.r D.pin D.nop lab num G out (v4 + 10) = some ()) (H : cn_RD L v4) {D : cn_Dat} (ok : D.ok) {kept : Nat → Int32} (hK : cn_Kept D kept) (ac apc : Int32) (f : Nat → Int64) (pads re : Nat → Int32) (nr : Nat → Int64) (sp nb gb : Nat → Int32) (th : Int32) (aS : Int64) (aL aH : Int32) (lab num G : Nat → Int32) (out : Nat → Int64) : F_law_980 L xs k33 Ly D.nop (nI D.n) D.there D.fr D.to D.pin D.x D.y D.ri D.hi D.r kept ac apc f pads re nr sp nb gb th Ly (nI D.n) aS aL aH D.there D.fr D.to D.x D.y D.w D.h D.r D.pin D.nop lab num G out v4 = some () := by
  have r1 := H.r1
  have r2 := H.r2
  have r3 := H.r3
  have r4 := H.r4
  have r5 := H.r5
  have r6 := H.r6
  have r7 := H.r7
  have r8 := H.r8
  have r9 := H.r9
  obtain ⟨k, ac', apc', f', pads', re', nr', out', b, aS', aL', aH', lab', num', G', e1, e2, h⟩ := cn_open ok hK ac apc f pads re nr th aS aL aH lab num G out (xs (Int32.toNatClampNeg (v4 + 1))) (xs (Int32.toNatClampNeg (v4 + 2))) (xs (Int32.toNatClampNeg (v4 + 3)))
  unfold F_law_980 F_law_1056 F_law_1358 F_M_thrown F_M_thrown_0
  simp only [@r1, @r2, @r3, @r4, @r5, @r6, @r7, @r8, @r9, e1, e2, Option.bind_some, if_true, cn_rd01, cn_tn0]
  have go := hk D kept ac' apc' f' pads' re' nr' sp nb gb k aS' aL' aH' lab' num' G' out' ok hK
  by_cases z : k = 0
  · rw [if_pos z, if_pos (cn_cmp0 (h z))]; exact go
  · rw [if_neg z]; exact go
theorem cn_kline {L : Nat} {xs : Nat → Int32} {k33} {Ly v4 : Int32} (hk : ∀ (D : cn_Dat) (kept : Nat → Int32) (ac apc : Int32) (f : Nat → Int64) (pads re : Nat → Int32) (nr : Nat → Int64) (sp nb gb : Nat → Int32) (th : Int32) (aS : Int64) (aL aH : Int32) (lab num G : Nat → Int32) (out : Nat → Int64), D.ok → cn_Kept D kept → k33 Ly D.nop (nI D.n) D.there D.fr D.to D.pin D.x D.y D.ri D.hi D.r kept ac apc f pads re nr sp nb gb th Ly (nI D.n) aS aL aH D.there D.fr D.to D.x D.y D.w D.h D.r D.pin D.nop lab num G out (v4 + 10) = some ()) (H : cn_RD L v4) {D : cn_Dat} (ok : D.ok) {kept : Nat → Int32} (hK : cn_Kept D kept) (ac apc : Int32) (f : Nat → Int64) (pads re : Nat → Int32) (nr : Nat → Int64) (sp nb gb : Nat → Int32) (th : Int32) (aS : Int64) (aL aH : Int32) (lab num G : Nat → Int32) (out : Nat → Int64) : F_law_1164 L xs k33 Ly D.nop (nI D.n) D.there D.fr D.to D.pin D.x D.y D.ri D.hi D.r kept ac apc f pads re nr sp nb gb th Ly (nI D.n) aS aL aH D.there D.fr D.to D.x D.y D.w D.h D.r D.pin D.nop lab num G out v4 = some () := by
  have r1 := H.r1
  have r2 := H.r2
  have r3 := H.r3
  have r4 := H.r4
  have r5 := H.r5
  have r6 := H.r6
  have r7 := H.r7
  have r8 := H.r8
  have r9 := H.r9
  obtain ⟨k, ac', apc', f', pads', re', nr', out', b, aS', aL', aH', lab', num', G', e1, e2, h⟩ := cn_line ok hK ac apc f pads re nr th aS aL aH lab num G out (xs (Int32.toNatClampNeg (v4 + 1))) (xs (Int32.toNatClampNeg (v4 + 2))) (xs (Int32.toNatClampNeg (v4 + 3)))
  unfold F_law_1164 F_law_1241 F_law_1358 F_M_thrown F_M_thrown_0
  simp only [@r1, @r2, @r3, @r4, @r5, @r6, @r7, @r8, @r9, e1, e2, Option.bind_some, if_true, cn_rd01, cn_tn0]
  have go := hk D kept ac' apc' f' pads' re' nr' sp nb gb k aS' aL' aH' lab' num' G' out' ok hK
  by_cases z : k = 0
  · rw [if_pos z, if_pos (cn_cmp0 (h z))]; exact go
  · rw [if_neg z]; exact go
theorem cn_kshort2 {L : Nat} {xs : Nat → Int32} {k33} {Ly v4 : Int32} (hk : ∀ (D : cn_Dat) (kept : Nat → Int32) (ac apc : Int32) (f : Nat → Int64) (pads re : Nat → Int32) (nr : Nat → Int64) (sp nb gb : Nat → Int32) (th : Int32) (aS : Int64) (aL aH : Int32) (lab num G : Nat → Int32) (out : Nat → Int64), D.ok → cn_Kept D kept → k33 Ly D.nop (nI D.n) D.there D.fr D.to D.pin D.x D.y D.ri D.hi D.r kept ac apc f pads re nr sp nb gb th Ly (nI D.n) aS aL aH D.there D.fr D.to D.x D.y D.w D.h D.r D.pin D.nop lab num G out (v4 + 10) = some ()) (H : cn_RD L v4) {D : cn_Dat} (ok : D.ok) {kept : Nat → Int32} (hK : cn_Kept D kept) (ac apc : Int32) (f : Nat → Int64) (pads re : Nat → Int32) (nr : Nat → Int64) (sp nb gb : Nat → Int32) (th : Int32) (aS : Int64) (aL aH : Int32) (lab num G : Nat → Int32) (out : Nat → Int64) : F_law_1072 L xs k33 Ly D.nop (nI D.n) D.there D.fr D.to D.pin D.x D.y D.ri D.hi D.r kept ac apc f pads re nr sp nb gb th Ly (nI D.n) aS aL aH D.there D.fr D.to D.x D.y D.w D.h D.r D.pin D.nop lab num G out v4 = some () := by
  have r1 := H.r1
  have r2 := H.r2
  have r3 := H.r3
  have r4 := H.r4
  have r5 := H.r5
  have r6 := H.r6
  have r7 := H.r7
  have r8 := H.r8
  have r9 := H.r9
  obtain ⟨k, sp', nb', gb', out', b, aL', aH', lab', num', G', e1, e2, h⟩ := cn_short2 ok hK sp nb gb th aL aH lab num G out (xs (Int32.toNatClampNeg (v4 + 1))) (xs (Int32.toNatClampNeg (v4 + 2)))
  unfold F_law_1072 F_law_1136 F_law_1358 F_M_thrown F_M_thrown_0
  simp only [@r1, @r2, @r3, @r4, @r5, @r6, @r7, @r8, @r9, e1, e2, Option.bind_some, if_true, cn_rd01, cn_tn0]
  have go := hk D kept ac apc f pads re nr sp' nb' gb' k aS aL' aH' lab' num' G' out' ok hK
  by_cases z : k = 0
  · rw [if_pos z, if_pos (cn_cmp0 (h z))]; exact go
  · rw [if_neg z]; exact go
