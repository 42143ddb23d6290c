/-! PURE: small numbers -/
theorem cn_rdI {α : Type} {i n : Nat} {x : Option α} (h : i < n) (hn : n < 2 ^ 31) : cn_rd (nI i) n x = x := by
  unfold cn_rd; rw [if_neg (nI_in h hn)]
theorem cn_ki {i : Nat} (h : i < 4096) : Int32.toNatClampNeg (nI i) = i := nI_clamp (by omega)
theorem cn_m1 {i : Nat} (h : i < 4096) : nI i ≠ -1 := fun e => by
  have := congrArg Int32.toInt e
  rw [nI_toInt (by omega)] at this
  have e2 : (-1 : Int32).toInt = -1 := by decide
  omega
theorem cn_60 : (60 : Int32) = nI 60 := by decide
theorem cn_40 : (40 : Int32) = nI 40 := by decide
theorem cn_20 : (20 : Int32) = nI 20 := by decide
theorem cn_00 : (0 : Int32) = nI 0 := by decide
theorem cn_leI {a b : Nat} (ha : a < 4096) (hb : b < 4096) : nI a ≤ nI b ↔ a ≤ b := nI_leI (by omega) (by omega)
theorem cn_ltI {a b : Nat} (ha : a < 4096) (hb : b < 4096) : nI a < nI b ↔ a < b := nI_ltI (by omega) (by omega)
theorem cn_eqI {a b : Nat} (ha : a < 4096) (hb : b < 4096) : nI a = nI b ↔ a = b := nI_eq (by omega) (by omega)
theorem cn_bl0 {α : Type} {x : Option α} : cn_bl 0 x = x := rfl
theorem cn_bl1 {α : Type} {x : Option α} : cn_bl 1 x = x := rfl
theorem cn_up {f : Nat → Int32} {k : Nat} {v : Int32} {j : Nat} : upd f k v j = if j = k then v else f j := rfl
theorem cn_nar1 : vp_nar .boolean 1 = 1 := by decide
theorem cn_nar0 : vp_nar .boolean 0 = 0 := by decide
theorem cn_i64 {a : Int64} {c : Int} (h : a.toInt = c) {b : Int64} (h2 : b.toInt = c) : a = b := Int64.toInt_inj.mp (h.trans h2.symm)
theorem cn_addJ {a b : Int64} {x y : Int} (ha : a.toInt = x) (hb : b.toInt = y) (h1 : -(2 ^ 62) ≤ x + y) (h2 : x + y ≤ 2 ^ 62) : (a + b).toInt = x + y := by
  rw [Int64.toInt_add, ha, hb]; exact Int.bmod_eq_of_le (by omega) (by omega)
theorem cn_subJ {a b : Int64} {x y : Int} (ha : a.toInt = x) (hb : b.toInt = y) (h1 : -(2 ^ 62) ≤ x - y) (h2 : x - y ≤ 2 ^ 62) : (a - b).toInt = x - y := by
  rw [Int64.toInt_sub, ha, hb]; exact Int.bmod_eq_of_le (by omega) (by omega)
theorem cn_mulJ {a b : Int64} {x y : Int} (ha : a.toInt = x) (hb : b.toInt = y) (h1 : -(2 ^ 62) ≤ x * y) (h2 : x * y ≤ 2 ^ 62) : (a * b).toInt = x * y := by
  rw [Int64.toInt_mul, ha, hb]; exact Int.bmod_eq_of_le (by omega) (by omega)
theorem cn_cmpLt {a b : Int64} : lg_cmp a b < 0 ↔ a < b := by
  unfold lg_cmp
  by_cases h : a > b
  · rw [if_pos h]
    have h' := Int64.lt_iff_toInt_lt.mp h
    exact ⟨fun z => absurd z (by decide), fun z => by have := Int64.lt_iff_toInt_lt.mp z; omega⟩
  · rw [if_neg h]
    by_cases e : a = b
    · rw [if_pos e]
      exact ⟨fun z => absurd z (by decide), fun z => by have := Int64.lt_iff_toInt_lt.mp z; rw [e] at this; omega⟩
    · rw [if_neg e]
      refine ⟨fun _ => Int64.lt_iff_toInt_lt.mpr ?_, fun _ => by decide⟩
      have h1 : ¬ b.toInt < a.toInt := fun z => h (Int64.lt_iff_toInt_lt.mpr z)
      have h2 : a.toInt ≠ b.toInt := fun z => e (Int64.toInt_inj.mp z)
      omega
theorem cn_cmpGt {a b : Int64} : 0 < lg_cmp a b ↔ b < a := by
  unfold lg_cmp
  by_cases h : a > b
  · rw [if_pos h]; exact ⟨fun _ => h, fun _ => by decide⟩
  · rw [if_neg h]
    by_cases e : a = b
    · rw [if_pos e]; exact ⟨fun z => absurd z (by decide), fun z => absurd z h⟩
    · rw [if_neg e]; exact ⟨fun z => absurd z (by decide), fun z => absurd z h⟩
theorem cn_cmpLe {a b : Int64} : lg_cmp a b ≤ 0 ↔ ¬ b < a := by
  unfold lg_cmp
  by_cases h : a > b
  · rw [if_pos h]; exact ⟨fun z => absurd z (by decide), fun z => absurd h z⟩
  · rw [if_neg h]
    by_cases e : a = b
    · rw [if_pos e]; exact ⟨fun _ => h, fun _ => by decide⟩
    · rw [if_neg e]; exact ⟨fun _ => h, fun _ => by decide⟩
theorem cn_cmpGe {a b : Int64} : 0 ≤ lg_cmp a b ↔ ¬ a < b := by
  have h1 := @cn_cmpLt a b
  constructor
  · intro h z
    have := h1.mpr z
    have q1 := Int32.le_iff_toInt_le.mp h
    have q2 := Int32.lt_iff_toInt_lt.mp this
    omega
  · intro h
    have : ¬ lg_cmp a b < 0 := fun z => h (h1.mp z)
    have q2 : ¬ (lg_cmp a b).toInt < (0 : Int32).toInt := fun z => this (Int32.lt_iff_toInt_lt.mpr z)
    exact Int32.le_iff_toInt_le.mpr (by omega)
theorem cn_cmpEq {a b : Int64} : lg_cmp a b = 0 ↔ a = b := by
  unfold lg_cmp
  by_cases h : a > b
  · rw [if_pos h]
    refine ⟨fun z => absurd z (by decide), fun z => ?_⟩
    have := Int64.lt_iff_toInt_lt.mp h
    rw [z] at this; omega
  · rw [if_neg h]
    by_cases e : a = b
    · rw [if_pos e]; exact ⟨fun _ => e, fun _ => rfl⟩
    · rw [if_neg e]; exact ⟨fun z => absurd z (by decide), fun z => absurd z e⟩
/-! PURE: the pieces, as both sides hold them -/
def cn_Dat : Type := Nat × (Nat → Int32) × (Nat → Int32) × (Nat → Int32) × (Nat → Int32) × (Nat → Int32) × (Nat → Int64) × (Nat → Int64) × (Nat → Int64) × (Nat → Int64) × (Nat → Int64)
abbrev cn_Dat.n (D : cn_Dat) : Nat := Prod.fst D
abbrev cn_Dat.there (D : cn_Dat) : Nat → Int32 := Prod.fst (Prod.snd D)
abbrev cn_Dat.fr (D : cn_Dat) : Nat → Int32 := Prod.fst (Prod.snd (Prod.snd D))
abbrev cn_Dat.to (D : cn_Dat) : Nat → Int32 := Prod.fst (Prod.snd (Prod.snd (Prod.snd D)))
abbrev cn_Dat.pin (D : cn_Dat) : Nat → Int32 := Prod.fst (Prod.snd (Prod.snd (Prod.snd (Prod.snd D))))
abbrev cn_Dat.nop (D : cn_Dat) : Nat → Int32 := Prod.fst (Prod.snd (Prod.snd (Prod.snd (Prod.snd (Prod.snd D)))))
abbrev cn_Dat.x (D : cn_Dat) : Nat → Int64 := Prod.fst (Prod.snd (Prod.snd (Prod.snd (Prod.snd (Prod.snd (Prod.snd D))))))
abbrev cn_Dat.y (D : cn_Dat) : Nat → Int64 := Prod.fst (Prod.snd (Prod.snd (Prod.snd (Prod.snd (Prod.snd (Prod.snd (Prod.snd D)))))))
abbrev cn_Dat.w (D : cn_Dat) : Nat → Int64 := Prod.fst (Prod.snd (Prod.snd (Prod.snd (Prod.snd (Prod.snd (Prod.snd (Prod.snd (Prod.snd D))))))))
abbrev cn_Dat.h (D : cn_Dat) : Nat → Int64 := Prod.fst (Prod.snd (Prod.snd (Prod.snd (Prod.snd (Prod.snd (Prod.snd (Prod.snd (Prod.snd (Prod.snd D)))))))))
abbrev cn_Dat.r (D : cn_Dat) : Nat → Int64 := Prod.snd (Prod.snd (Prod.snd (Prod.snd (Prod.snd (Prod.snd (Prod.snd (Prod.snd (Prod.snd (Prod.snd D)))))))))
abbrev cn_Dat.mk (n : Nat) (there : Nat → Int32) (fr : Nat → Int32) (to : Nat → Int32) (pin : Nat → Int32) (nop : Nat → Int32) (x : Nat → Int64) (y : Nat → Int64) (w : Nat → Int64) (h : Nat → Int64) (r : Nat → Int64) : cn_Dat := (n, there, fr, to, pin, nop, x, y, w, h, r)
abbrev cn_Dat.wo (D : cn_Dat) (p : Nat) : cn_Dat := cn_Dat.mk D.n (upd D.there p 0) D.fr D.to D.pin D.nop D.x D.y D.w D.h D.r
abbrev cn_Dat.ri (D : cn_Dat) : Nat → Int64 := fun i => D.x i + D.w i
abbrev cn_Dat.hi (D : cn_Dat) : Nat → Int64 := fun i => D.y i + D.h i
abbrev cn_Dat.ok (D : cn_Dat) : Prop :=
  (D.n ≤ 60) ∧ (∀ i, D.there i = 0 ∨ D.there i = 1) ∧ (∀ i, D.n ≤ i → D.there i = 0) ∧ (∀ i, D.pin i = -1 ∨ ∃ k, k < 40 ∧ D.pin i = nI k) ∧ (∀ k, D.nop k = -1 ∨ ∃ t, t < 20 ∧ D.nop k = nI t) ∧ (∀ i, -100000 ≤ (D.x i).toInt ∧ (D.x i).toInt ≤ 100000) ∧ (∀ i, -100000 ≤ (D.y i).toInt ∧ (D.y i).toInt ≤ 100000) ∧ (∀ i, 0 ≤ (D.w i).toInt ∧ (D.w i).toInt ≤ 100000) ∧ (∀ i, 0 ≤ (D.h i).toInt ∧ (D.h i).toInt ≤ 100000) ∧ (∀ i, D.pin i ≠ -1 → D.w i = 0 ∧ D.h i = 0)
theorem cn_Dat.ok.n60 {D : cn_Dat} (hh : cn_Dat.ok D) : D.n ≤ 60 := hh.1
theorem cn_Dat.ok.th {D : cn_Dat} (hh : cn_Dat.ok D) : ∀ i, D.there i = 0 ∨ D.there i = 1 := hh.2.1
theorem cn_Dat.ok.out {D : cn_Dat} (hh : cn_Dat.ok D) : ∀ i, D.n ≤ i → D.there i = 0 := hh.2.2.1
theorem cn_Dat.ok.pin40 {D : cn_Dat} (hh : cn_Dat.ok D) : ∀ i, D.pin i = -1 ∨ ∃ k, k < 40 ∧ D.pin i = nI k := hh.2.2.2.1
theorem cn_Dat.ok.nop20 {D : cn_Dat} (hh : cn_Dat.ok D) : ∀ k, D.nop k = -1 ∨ ∃ t, t < 20 ∧ D.nop k = nI t := hh.2.2.2.2.1
theorem cn_Dat.ok.bx {D : cn_Dat} (hh : cn_Dat.ok D) : ∀ i, -100000 ≤ (D.x i).toInt ∧ (D.x i).toInt ≤ 100000 := hh.2.2.2.2.2.1
theorem cn_Dat.ok.bY {D : cn_Dat} (hh : cn_Dat.ok D) : ∀ i, -100000 ≤ (D.y i).toInt ∧ (D.y i).toInt ≤ 100000 := hh.2.2.2.2.2.2.1
theorem cn_Dat.ok.bw {D : cn_Dat} (hh : cn_Dat.ok D) : ∀ i, 0 ≤ (D.w i).toInt ∧ (D.w i).toInt ≤ 100000 := hh.2.2.2.2.2.2.2.1
theorem cn_Dat.ok.bh {D : cn_Dat} (hh : cn_Dat.ok D) : ∀ i, 0 ≤ (D.h i).toInt ∧ (D.h i).toInt ≤ 100000 := hh.2.2.2.2.2.2.2.2.1
theorem cn_Dat.ok.disc {D : cn_Dat} (hh : cn_Dat.ok D) : ∀ i, D.pin i ≠ -1 → D.w i = 0 ∧ D.h i = 0 := hh.2.2.2.2.2.2.2.2.2
def cn_gap (a b c d : Int64) : Int64 := if lg_cmp c b ≤ 0 then (if lg_cmp a d ≤ 0 then 0 else a - d) else c - b
def cn_Dat.sq (D : cn_Dat) (i j : Nat) : Int64 := cn_gap (D.x i) (D.ri i) (D.x j) (D.ri j) * cn_gap (D.x i) (D.ri i) (D.x j) (D.ri j) + cn_gap (D.y i) (D.hi i) (D.y j) (D.hi j) * cn_gap (D.y i) (D.hi i) (D.y j) (D.hi j)
def cn_Dat.tb (D : cn_Dat) (i j : Nat) : Bool := decide (¬ D.to j < D.fr i) && (decide (D.fr j ≤ D.to i) && decide (¬ 0 < lg_cmp (D.sq i j) ((D.r i + D.r j) * (D.r i + D.r j))))
abbrev cn_Dat.S (D : cn_Dat) (i : Nat) : Prop := D.there i ≠ 0
abbrev cn_Dat.T (D : cn_Dat) (i j : Nat) : Prop := D.tb i j = true
theorem cn_Dat.ok.lt {D : cn_Dat} (h : D.ok) {i : Nat} (hi : D.S i) : i < D.n := by
  rcases Nat.lt_or_ge i D.n with q | q
  · exact q
  · exact absurd (h.out i q) hi
theorem cn_gapX (a b c d : Int64) : F_P_gap a b c d = some (cn_gap a b c d) := by
  unfold F_P_gap F_P_gap_0 F_P_gap_27 cn_gap
  split
  · split <;> rfl
  · rfl
theorem cn_gapM (a b c d : Int64) : F_M_gap a b c d = some (cn_gap a b c d) := by
  unfold F_M_gap F_M_gap_0 F_M_gap_29 cn_gap
  split
  · split <;> rfl
  · rfl
theorem cn_sqX (D : cn_Dat) {i j : Nat} (hi : i < 60) (hj : j < 60) : F_P_square D.x D.y D.ri D.hi (nI i) (nI j) = some (D.sq i j) := by
  unfold F_P_square F_P_square_0
  simp only [cn_rdI hi (by decide), cn_rdI hj (by decide), cn_gapX, Option.bind_some, cn_ki (show i < 4096 by omega), cn_ki (show j < 4096 by omega)]
  rfl
theorem cn_touchX (D : cn_Dat) {i j : Nat} (hi : i < 60) (hj : j < 60) : F_P_touch D.fr D.to D.x D.y D.ri D.hi D.r (nI i) (nI j) = some (if D.tb i j then 1 else 0) := by
  unfold F_P_touch F_P_touch_0 F_P_touch_30 F_P_touch_64
  simp only [cn_rdI hi (by decide), cn_rdI hj (by decide), cn_sqX D hi hj, Option.bind_some, cn_ki (show i < 4096 by omega), cn_ki (show j < 4096 by omega), cn_bl0, cn_bl1]
  unfold cn_Dat.tb
  by_cases h1 : D.to j < D.fr i
  · simp [h1]
  · by_cases h2 : D.fr j ≤ D.to i
    · by_cases h3 : 0 < lg_cmp (D.sq i j) ((D.r i + D.r j) * (D.r i + D.r j))
      · simp [h1, h2, h3]
      · simp [h1, h2, h3]
    · simp [h1, h2]
theorem cn_touchM (D : cn_Dat) {i j : Nat} (hi : i < 60) (hj : j < 60) : F_M_touch D.there D.fr D.to D.x D.y D.w D.h D.r (nI i) (nI j) = some (if D.S i ∧ D.S j ∧ D.T i j then 1 else 0) := by
  unfold F_M_touch F_M_touch_0 F_M_touch_48 F_M_touch_173
  simp only [cn_rdI hi (by decide), cn_rdI hj (by decide), cn_gapM, Option.bind_some, cn_ki (show i < 4096 by omega), cn_ki (show j < 4096 by omega), cn_bl0, cn_bl1]
  unfold cn_Dat.S cn_Dat.T cn_Dat.tb
  by_cases a1 : D.there i = 0
  · simp [a1]
  · by_cases a2 : D.there j = 0
    · simp [a1, a2]
    · by_cases h1 : D.to j < D.fr i
      · simp [h1, a1, a2]
      · by_cases h2 : D.fr j ≤ D.to i
        · rw [if_neg a1, if_neg a2, if_neg h1, if_pos h2]
          show (if 0 < lg_cmp (D.sq i j) ((D.r i + D.r j) * (D.r i + D.r j)) then some 0 else some 1) = _
          by_cases h3 : 0 < lg_cmp (D.sq i j) ((D.r i + D.r j) * (D.r i + D.r j))
          · simp [h1, h2, h3, a1, a2]
          · simp [h1, h2, h3, a1, a2]
        · simp [h1, h2, a1, a2]
theorem cn_gapS {a b c d : Int64} (h1 : ¬ b < a) (h2 : ¬ d < c) : cn_gap a b c d = cn_gap c d a b := by
  unfold cn_gap
  by_cases e1 : lg_cmp c b ≤ 0
  · rw [if_pos e1]
    by_cases e2 : lg_cmp a d ≤ 0
    · rw [if_pos e2, if_pos e2, if_pos e1]
    · rw [if_neg e2, if_neg e2]
  · rw [if_neg e1]
    by_cases e2 : lg_cmp a d ≤ 0
    · rw [if_pos e2, if_neg e1]
    · exfalso
      have q1 : b < c := Classical.byContradiction fun z => e1 (cn_cmpLe.mpr z)
      have q2 : d < a := Classical.byContradiction fun z => e2 (cn_cmpLe.mpr z)
      simp only [Int64.lt_iff_toInt_lt] at q1 q2 h1 h2
      omega
theorem cn_Dat.ok.riX {D : cn_Dat} (h : D.ok) (i : Nat) : (D.ri i).toInt = (D.x i).toInt + (D.w i).toInt :=
  cn_addJ rfl rfl (by have := h.bx i; have := h.bw i; omega) (by have := h.bx i; have := h.bw i; omega)
theorem cn_Dat.ok.hiY {D : cn_Dat} (h : D.ok) (i : Nat) : (D.hi i).toInt = (D.y i).toInt + (D.h i).toInt :=
  cn_addJ rfl rfl (by have := h.bY i; have := h.bh i; omega) (by have := h.bY i; have := h.bh i; omega)
theorem cn_Dat.ok.sqS {D : cn_Dat} (h : D.ok) (i j : Nat) : D.sq i j = D.sq j i := by
  have hx : ∀ i, ¬ D.ri i < D.x i := fun i z => by
    have := Int64.lt_iff_toInt_lt.mp z; rw [h.riX] at this; have := h.bw i; omega
  have hy : ∀ i, ¬ D.hi i < D.y i := fun i z => by
    have := Int64.lt_iff_toInt_lt.mp z; rw [h.hiY] at this; have := h.bh i; omega
  unfold cn_Dat.sq
  rw [cn_gapS (hx i) (hx j), cn_gapS (hy i) (hy j)]
theorem cn_Dat.ok.tS {D : cn_Dat} (h : D.ok) (i j : Nat) : D.tb i j = D.tb j i := by
  have hr : D.r i + D.r j = D.r j + D.r i := Int64.add_comm _ _
  unfold cn_Dat.tb
  rw [h.sqS i j, hr]
  have a : decide (¬ D.to j < D.fr i) = decide (D.fr i ≤ D.to j) := by
    apply decide_eq_decide.mpr
    rw [Int32.lt_iff_toInt_lt, Int32.le_iff_toInt_le]; omega
  have b : decide (D.fr j ≤ D.to i) = decide (¬ D.to i < D.fr j) := by
    apply decide_eq_decide.mpr
    rw [Int32.lt_iff_toInt_lt, Int32.le_iff_toInt_le]; omega
  rw [a, b, ← Bool.and_assoc, ← Bool.and_assoc, Bool.and_comm (decide (D.fr i ≤ D.to j))]
theorem cn_Dat.ok.TS {D : cn_Dat} (h : D.ok) {i j : Nat} (q : D.T i j) : D.T j i := by
  have := h.tS i j; unfold cn_Dat.T at *; rw [← this]; exact q
