/-! PURE: shape, via, pad -/
abbrev cn_Dat.app (D : cn_Dat) (fr to pin : Int32) (x y w h r : Int64) : cn_Dat := cn_Dat.mk (D.n + 1) (upd D.there D.n 1) (upd D.fr D.n fr) (upd D.to D.n to) (upd D.pin D.n pin) D.nop (vp_updL D.x D.n x) (vp_updL D.y D.n y) (vp_updL D.w D.n w) (vp_updL D.h D.n h) (vp_updL D.r D.n r)
theorem cn_appri (D : cn_Dat) (fr to pin : Int32) (x y w h r : Int64) : vp_updL D.ri D.n (x + w) = (D.app fr to pin x y w h r).ri := by
  funext j
  show vp_updL D.ri D.n (x + w) j = vp_updL D.x D.n x j + vp_updL D.w D.n w j
  rw [cn_upL, cn_upL, cn_upL]
  by_cases e : j = D.n
  · rw [if_pos e, if_pos e, if_pos e]
  · rw [if_neg e, if_neg e, if_neg e]
theorem cn_apphi (D : cn_Dat) (fr to pin : Int32) (x y w h r : Int64) : vp_updL D.hi D.n (y + h) = (D.app fr to pin x y w h r).hi := by
  funext j
  show vp_updL D.hi D.n (y + h) j = vp_updL D.y D.n y j + vp_updL D.h D.n h j
  rw [cn_upL, cn_upL, cn_upL]
  by_cases e : j = D.n
  · rw [if_pos e, if_pos e, if_pos e]
  · rw [if_neg e, if_neg e, if_neg e]
theorem cn_rectX {D : cn_Dat} (hn : D.n < 60) (v : Int32) (x y w h : Int64) : F_P_addRectangle (nI D.n) D.there D.fr D.to D.pin D.x D.y D.ri D.hi D.r v x y w h = some (nI D.n, nI (D.app v v (-1) x y w h 0).n, (D.app v v (-1) x y w h 0).there, (D.app v v (-1) x y w h 0).fr, (D.app v v (-1) x y w h 0).to, (D.app v v (-1) x y w h 0).pin, (D.app v v (-1) x y w h 0).x, (D.app v v (-1) x y w h 0).y, (D.app v v (-1) x y w h 0).ri, (D.app v v (-1) x y w h 0).hi, (D.app v v (-1) x y w h 0).r) := by
  unfold F_P_addRectangle F_P_addRectangle_0 F_P_add F_P_add_0
  have rd : ∀ {α : Type} {x : Option α}, cn_rd (nI D.n) 60 x = x := cn_rdI hn (by decide)
  simp only [rd, Option.bind_some, cn_ki (show D.n < 4096 by omega), cn_nar1, nI_1]
  rw [cn_appri D v v (-1) x y w h 0, cn_apphi D v v (-1) x y w h 0]
theorem cn_discX {D : cn_Dat} (hn : D.n < 60) (pin fr to : Int32) (x y r : Int64) : F_P_addDisc (nI D.n) D.there D.fr D.to D.pin D.x D.y D.ri D.hi D.r pin fr to x y r = some (nI D.n, nI (D.app fr to pin x y 0 0 r).n, (D.app fr to pin x y 0 0 r).there, (D.app fr to pin x y 0 0 r).fr, (D.app fr to pin x y 0 0 r).to, (D.app fr to pin x y 0 0 r).pin, (D.app fr to pin x y 0 0 r).x, (D.app fr to pin x y 0 0 r).y, (D.app fr to pin x y 0 0 r).ri, (D.app fr to pin x y 0 0 r).hi, (D.app fr to pin x y 0 0 r).r) := by
  unfold F_P_addDisc F_P_addDisc_0 F_P_add F_P_add_0
  have rd : ∀ {α : Type} {x : Option α}, cn_rd (nI D.n) 60 x = x := cn_rdI hn (by decide)
  simp only [rd, Option.bind_some, cn_ki (show D.n < 4096 by omega), cn_nar1, nI_1]
  have e1 := cn_appri D fr to pin x y 0 0 r
  have e2 := cn_apphi D fr to pin x y 0 0 r
  rw [Int64.add_zero] at e1 e2
  rw [e1, e2]
theorem cn_addM {D : cn_Dat} (hn : D.n < 60) (fr to pin : Int32) (x y w h r : Int64) : F_M_add (nI D.n) D.there D.fr D.to D.x D.y D.w D.h D.r D.pin fr to x y w h r pin = some (nI D.n, nI (D.app fr to pin x y w h r).n, (D.app fr to pin x y w h r).there, (D.app fr to pin x y w h r).fr, (D.app fr to pin x y w h r).to, (D.app fr to pin x y w h r).x, (D.app fr to pin x y w h r).y, (D.app fr to pin x y w h r).w, (D.app fr to pin x y w h r).h, (D.app fr to pin x y w h r).r, (D.app fr to pin x y w h r).pin) := by
  unfold F_M_add F_M_add_0
  have rd : ∀ {α : Type} {x : Option α}, cn_rd (nI D.n) 60 x = x := cn_rdI hn (by decide)
  rw [cn_60, if_neg (fun z => by rw [cn_eqI (by omega) (by omega)] at z; omega)]
  simp only [rd, cn_ki (show D.n < 4096 by omega), cn_nar1, nI_1]
  rw [← nI_1 D.n, Int32.add_sub_cancel]
theorem cn_addF {D : cn_Dat} (hn : D.n = 60) (fr to pin : Int32) (x y w h r : Int64) : F_M_add (nI D.n) D.there D.fr D.to D.x D.y D.w D.h D.r D.pin fr to x y w h r pin = some (-1, nI D.n, D.there, D.fr, D.to, D.x, D.y, D.w, D.h, D.r, D.pin) := by
  unfold F_M_add F_M_add_0
  rw [if_pos (by rw [hn]; rfl)]
theorem cn_appok {D : cn_Dat} (ok : D.ok) (hn : D.n < 60) {fr to pin : Int32} {x y w h r : Int64} (hp : pin = -1 ∨ ∃ k, k < 40 ∧ pin = nI k) (hx : -100000 ≤ x.toInt ∧ x.toInt ≤ 100000) (hy : -100000 ≤ y.toInt ∧ y.toInt ≤ 100000) (hw : 0 ≤ w.toInt ∧ w.toInt ≤ 100000) (hh : 0 ≤ h.toInt ∧ h.toInt ≤ 100000) (hd : pin ≠ -1 → w = 0 ∧ h = 0) : (D.app fr to pin x y w h r).ok := by
  refine ⟨by show D.n + 1 ≤ 60; omega, fun i => ?_, fun i hi => ?_, fun i => ?_, ok.nop20, fun i => ?_, fun i => ?_, fun i => ?_, fun i => ?_, fun i => ?_⟩
  · show upd D.there D.n 1 i = 0 ∨ upd D.there D.n 1 i = 1
    rw [cn_up]; split
    · exact Or.inr rfl
    · exact ok.th i
  · have hi : D.n + 1 ≤ i := hi
    show upd D.there D.n 1 i = 0
    rw [cn_up, if_neg (by omega)]; exact ok.out i (by omega)
  · show upd D.pin D.n pin i = -1 ∨ ∃ k, k < 40 ∧ upd D.pin D.n pin i = nI k
    rw [cn_up]; split
    · exact hp
    · exact ok.pin40 i
  · show -100000 ≤ (vp_updL D.x D.n x i).toInt ∧ (vp_updL D.x D.n x i).toInt ≤ 100000
    rw [cn_upL]; split
    · exact hx
    · exact ok.bx i
  · show -100000 ≤ (vp_updL D.y D.n y i).toInt ∧ (vp_updL D.y D.n y i).toInt ≤ 100000
    rw [cn_upL]; split
    · exact hy
    · exact ok.bY i
  · show 0 ≤ (vp_updL D.w D.n w i).toInt ∧ (vp_updL D.w D.n w i).toInt ≤ 100000
    rw [cn_upL]; split
    · exact hw
    · exact ok.bw i
  · show 0 ≤ (vp_updL D.h D.n h i).toInt ∧ (vp_updL D.h D.n h i).toInt ≤ 100000
    rw [cn_upL]; split
    · exact hh
    · exact ok.bh i
  · show upd D.pin D.n pin i ≠ -1 → vp_updL D.w D.n w i = 0 ∧ vp_updL D.h D.n h i = 0
    rw [cn_up, cn_upL, cn_upL]
    by_cases e : i = D.n
    · rw [if_pos e, if_pos e, if_pos e]; exact hd
    · rw [if_neg e, if_neg e, if_neg e]; exact ok.disc i
theorem cn_appT {D : cn_Dat} {fr to pin : Int32} {x y w h r : Int64} {i j : Nat} (hi : i < D.n) (hj : j < D.n) : (D.app fr to pin x y w h r).tb i j = D.tb i j := by
  have a : i ≠ D.n := by omega
  have b : j ≠ D.n := by omega
  unfold cn_Dat.tb cn_Dat.sq
  simp only [cn_Dat.app, cn_Dat.mk, cn_Dat.to, cn_Dat.fr, cn_Dat.x, cn_Dat.y, cn_Dat.w, cn_Dat.h, cn_Dat.r, cn_Dat.ri, cn_Dat.hi, cn_up, cn_upL, if_neg a, if_neg b]
theorem cn_take {D : cn_Dat} (ok : D.ok) {kept : Nat → Int32} (hK : cn_Kept D kept) (hn : D.n < 60) {fr to pin : Int32} {x y w h r : Int64} (ok' : (D.app fr to pin x y w h r).ok) :
    ∃ g, F_X_takeIn (D.app fr to pin x y w h r).fr (D.app fr to pin x y w h r).to (D.app fr to pin x y w h r).x (D.app fr to pin x y w h r).y (D.app fr to pin x y w h r).ri (D.app fr to pin x y w h r).hi (D.app fr to pin x y w h r).r kept (nI D.n) = some (nI D.n, g) ∧ cn_Kept (D.app fr to pin x y w h r) g := by
  obtain ⟨l, hR, hC⟩ := hK
  have hC' : cn_Canon D.S (D.app fr to pin x y w h r).T l := cn_edges hC (fun a b sa sb => by
    show D.tb a b = true ↔ (D.app fr to pin x y w h r).tb a b = true
    rw [cn_appT (ok.lt sa) (ok.lt sb)])
  obtain ⟨g, l', e, hR2, hC2⟩ := cn_enter ok' hn (fun i hi => ok.lt hi) hR hC'
  have hS : ∀ i, (D.S i ∨ i = D.n) ↔ (D.app fr to pin x y w h r).S i := fun i => by
    show (D.there i ≠ 0 ∨ i = D.n) ↔ upd D.there D.n 1 i ≠ 0
    rw [cn_up]
    by_cases e : i = D.n
    · rw [if_pos e]; exact ⟨fun _ => by decide, fun _ => Or.inr e⟩
    · rw [if_neg e]; exact ⟨fun z => z.elim id (fun w => absurd w e), Or.inl⟩
  refine ⟨g, ?_, l', cn_repS hR2 hS, cn_sets hC2 hS⟩
  unfold F_X_takeIn F_X_takeIn_0
  rw [e]
  rfl
theorem cn_layv (L v : Int32) : (F_X_checkLayer L v = some (Sum.inl ()) ∧ F_M_isLayer L v = some 1) ∨ (F_X_checkLayer L v = some (Sum.inr "java/lang/IndexOutOfBoundsException") ∧ F_M_isLayer L v = some 0) := by
  unfold F_X_checkLayer F_X_checkLayer_0 F_X_checkLayer_12 F_M_isLayer F_M_isLayer_0 F_M_isLayer_16 F_M_isLayer_17
  by_cases a : v < 0
  · exact Or.inr ⟨by rw [if_pos a], by rw [if_pos a]; rfl⟩
  · by_cases b : v < L
    · exact Or.inl ⟨by rw [if_neg a, if_pos b], by rw [if_neg a, if_neg (Int32.not_le.mpr b)]; rfl⟩
    · exact Or.inr ⟨by rw [if_neg a, if_neg b], by rw [if_neg a, if_pos (Int32.not_lt.mp b)]; rfl⟩
theorem cn_lt64 {a b : Int64} : a < b ↔ a.toInt < b.toInt := Int64.lt_iff_toInt_lt
theorem cn_plcv (x y : Int64) : ((-100000 ≤ x.toInt ∧ x.toInt ≤ 100000) ∧ (-100000 ≤ y.toInt ∧ y.toInt ≤ 100000) ∧ F_X_checkPlace x y = some (Sum.inl ()) ∧ F_M_isPlace x y = some 1) ∨ (F_X_checkPlace x y = some (Sum.inr "java/lang/IllegalArgumentException") ∧ F_M_isPlace x y = some 0) := by
  unfold F_X_checkPlace F_X_checkPlace_0 F_X_checkPlace_32 F_M_isPlace F_M_isPlace_0 F_M_isPlace_36 F_M_isPlace_37
  have m : (-100000 : Int64).toInt = -100000 := by decide
  have p : (100000 : Int64).toInt = 100000 := by decide
  by_cases a : lg_cmp x (-100000) < 0
  · exact Or.inr ⟨by rw [if_pos a], by rw [if_pos a]; rfl⟩
  by_cases b : 0 < lg_cmp x 100000
  · exact Or.inr ⟨by rw [if_neg a, if_pos b], by rw [if_neg a, if_pos b]; rfl⟩
  by_cases c : lg_cmp y (-100000) < 0
  · exact Or.inr ⟨by rw [if_neg a, if_neg b, if_pos c], by rw [if_neg a, if_neg b, if_pos c]; rfl⟩
  by_cases d : 0 < lg_cmp y 100000
  · refine Or.inr ⟨?_, by rw [if_neg a, if_neg b, if_neg c, if_pos d]; rfl⟩
    rw [if_neg a, if_neg b, if_neg c, if_neg (fun z => cn_cmpLe.mp z (cn_cmpGt.mp d))]
  · refine Or.inl ⟨?_, ?_, ?_, by rw [if_neg a, if_neg b, if_neg c, if_neg d]; rfl⟩
    · rw [cn_cmpLt, cn_lt64] at a
      rw [cn_cmpGt, cn_lt64] at b
      omega
    · rw [cn_cmpLt, cn_lt64] at c
      rw [cn_cmpGt, cn_lt64] at d
      omega
    · rw [if_neg a, if_neg b, if_neg c, if_pos (cn_cmpLe.mpr (fun z => d (cn_cmpGt.mpr z)))]
theorem cn_sizv (x : Int64) : ((0 ≤ x.toInt ∧ x.toInt ≤ 100000) ∧ F_X_checkSize x = some (Sum.inl ()) ∧ F_M_isSize x = some 1) ∨ (F_X_checkSize x = some (Sum.inr "java/lang/IllegalArgumentException") ∧ F_M_isSize x = some 0) := by
  unfold F_X_checkSize F_X_checkSize_0 F_X_checkSize_14 F_M_isSize F_M_isSize_0 F_M_isSize_18 F_M_isSize_19
  have m : (1 : Int64).toInt = 1 := by decide
  have p : (100000 : Int64).toInt = 100000 := by decide
  by_cases a : lg_cmp x 1 < 0
  · exact Or.inr ⟨by rw [if_pos a], by rw [if_pos a]; rfl⟩
  by_cases d : 0 < lg_cmp x 100000
  · refine Or.inr ⟨?_, by rw [if_neg a, if_pos d]; rfl⟩
    rw [if_neg a, if_neg (fun z => cn_cmpLe.mp z (cn_cmpGt.mp d))]
  · refine Or.inl ⟨?_, ?_, by rw [if_neg a, if_neg d]; rfl⟩
    · rw [cn_cmpLt, cn_lt64] at a
      rw [cn_cmpGt, cn_lt64] at d
      omega
    · rw [if_neg a, if_pos (cn_cmpLe.mpr (fun z => d (cn_cmpGt.mpr z)))]
theorem cn_fullv {n : Nat} (hn : n ≤ 60) : (n < 60 ∧ F_P_isFull (nI n) = some 0) ∨ (n = 60 ∧ F_P_isFull (nI n) = some 1) := by
  unfold F_P_isFull F_P_isFull_0 F_P_isFull_14
  rw [cn_60]
  by_cases z : n < 60
  · exact Or.inl ⟨z, by rw [if_pos ((cn_ltI (by omega) (by omega)).mpr z)]; rfl⟩
  · exact Or.inr ⟨by omega, by rw [if_neg (fun w => z ((cn_ltI (by omega) (by omega)).mp w))]; rfl⟩
