/-! PURE: pads, and the growth of the class's tree -/
def cn_Dat.pl (D : cn_Dat) (i : Nat) : Int32 := if D.pin i = -1 then -1 else D.nop (D.pin i).toNatClampNeg
def cn_Dat.Pd (D : cn_Dat) (t x : Nat) : Prop := D.S x ∧ D.pl x = nI t
theorem cn_plX {D : cn_Dat} (ok : D.ok) {i : Nat} (hi : i < 60) : F_X_plannedNet D.nop D.pin (nI i) = some (D.pl i) := by
  unfold F_X_plannedNet F_X_plannedNet_0 F_P_pinOf F_P_pinOf_0 F_X_plannedNet_24 cn_Dat.pl
  rw [cn_rdI hi (by decide), cn_ki (by omega)]
  simp only [Option.bind_some]
  rcases ok.pin40 i with q | ⟨k, hk, q⟩
  · rw [q, if_pos rfl, if_pos rfl]
  · rw [q, if_neg (cn_m1 (by omega)), if_neg (cn_m1 (by omega)), cn_rdI hk (by decide)]
theorem cn_plM {D : cn_Dat} (ok : D.ok) {i : Nat} (hi : i < 60) : F_M_planOf D.there D.pin D.nop (nI i) = some (if D.there i = 0 then -1 else D.pl i) := by
  unfold F_M_planOf F_M_planOf_0 F_M_planOf_19 F_M_planOf_34 cn_Dat.pl
  simp only [cn_rdI hi (show 60 < 2 ^ 31 by decide), cn_ki (show i < 4096 by omega)]
  rcases ok.pin40 i with q | ⟨k, hk, q⟩
  · rw [q, if_pos rfl, if_pos rfl]; simp
  · rw [q, if_neg (cn_m1 (by omega)), if_neg (cn_m1 (by omega)), cn_rdI hk (by decide)]
    split <;> rfl
theorem cn_Dat.Pd.pin {D : cn_Dat} {t x : Nat} (ht : t < 20) (h : D.Pd t x) : D.pin x ≠ -1 := fun e => by
  have := h.2
  unfold cn_Dat.pl at this
  rw [if_pos e] at this
  exact cn_m1 (by omega) this.symm
abbrev cn_PA (D : cn_Dat) (t m : Nat) (pa : Nat → Nat) (pads : Nat → Int32) : Prop :=
  (m ≤ 60) ∧ (∀ j, j < m → pads j = nI (pa j)) ∧ (∀ j, j < m → D.Pd t (pa j)) ∧ (∀ x, D.Pd t x → ∃ j, j < m ∧ pa j = x)
theorem cn_PA.m60 {D : cn_Dat} {t m : Nat} {pa : Nat → Nat} {pads : Nat → Int32} (hh : cn_PA D t m pa pads) : m ≤ 60 := hh.1
theorem cn_PA.at' {D : cn_Dat} {t m : Nat} {pa : Nat → Nat} {pads : Nat → Int32} (hh : cn_PA D t m pa pads) : ∀ j, j < m → pads j = nI (pa j) := hh.2.1
theorem cn_PA.pd {D : cn_Dat} {t m : Nat} {pa : Nat → Nat} {pads : Nat → Int32} (hh : cn_PA D t m pa pads) : ∀ j, j < m → D.Pd t (pa j) := hh.2.2.1
theorem cn_PA.sur {D : cn_Dat} {t m : Nat} {pa : Nat → Nat} {pads : Nat → Int32} (hh : cn_PA D t m pa pads) : ∀ x, D.Pd t x → ∃ j, j < m ∧ pa j = x := hh.2.2.2
def cn_NN (D : cn_Dat) (Src : Nat → Prop) (y : Nat) (v : Int64) : Prop := (∀ x, Src x → v.toInt ≤ D.cw x y) ∧ ((∃ x, Src x ∧ v.toInt = D.cw x y) ∨ v.toInt = 9223372036854775807)
theorem cn_NN.add {D : cn_Dat} {Src Src' : Nat → Prop} {y a : Nat} {v v' : Int64} (h : cn_NN D Src y v) (hv : v'.toInt = min v.toInt (D.cw a y)) (hs : ∀ x, Src' x ↔ Src x ∨ x = a) : cn_NN D Src' y v' := by
  refine ⟨fun x hx => ?_, ?_⟩
  · rcases (hs x).mp hx with q | q
    · have := h.1 x q; omega
    · rw [q]; omega
  · rcases Int.le_total v.toInt (D.cw a y) with q | q
    · rcases h.2 with ⟨x, h1, h2⟩ | h2
      · exact Or.inl ⟨x, (hs x).mpr (Or.inl h1), by omega⟩
      · exact Or.inr (by omega)
    · exact Or.inl ⟨a, (hs a).mpr (Or.inr rfl), by omega⟩
theorem cn_NN.cong {D : cn_Dat} {Src Src' : Nat → Prop} {y : Nat} {v : Int64} (h : cn_NN D Src y v) (hs : ∀ x, Src' x ↔ Src x) : cn_NN D Src' y v := by
  have : Src' = Src := funext fun x => propext (hs x)
  rw [this]; exact h
theorem cn_minJ (a b : Int64) : ∃ c, F_jM_min_J a b = some c ∧ c.toInt = min a.toInt b.toInt := by
  unfold F_jM_min_J F_jM_min_J_0 F_jM_min_J_11
  by_cases q : 0 < lg_cmp a b
  · rw [if_pos q]
    have := Int64.lt_iff_toInt_lt.mp (cn_cmpGt.mp q)
    exact ⟨b, rfl, by omega⟩
  · rw [if_neg q]
    have : ¬ b.toInt < a.toInt := fun z => q (cn_cmpGt.mpr (Int64.lt_iff_toInt_lt.mpr z))
    exact ⟨a, rfl, by omega⟩
theorem cn_upL {f : Nat → Int64} {k : Nat} {v : Int64} {j : Nat} : vp_updL f k v j = if j = k then v else f j := rfl
theorem cn_Dat.Pd.lt {D : cn_Dat} (ok : D.ok) {t x : Nat} (h : D.Pd t x) : x < 60 := by have := ok.lt h.1; have := ok.n60; omega
theorem cn_lookF {D : cn_Dat} (ok : D.ok) {t : Nat} (ht : t < 20) {m : Nat} {pa : Nat → Nat} {pads : Nat → Int32} (hp : cn_PA D t m pa pads) (re : Nat → Int32) {a : Nat} (ha : D.Pd t a) : ∀ (d i fuel : Nat) (nr : Nat → Int64), i + d = m → d < fuel →
    ∃ nr', F_A_lookFrom_2 fuel (nI m) pads re nr D.x D.y D.ri D.hi (nI a) (nI i) = some nr' ∧ (∀ j, i ≤ j → j < m → re j = 0 → (nr' j).toInt = min (nr j).toInt (D.cw a (pa j))) ∧ (∀ j, j < i → nr' j = nr j) := by
  have m60 := hp.m60
  intro d
  induction d with
  | zero =>
    intro i fuel nr hi hf
    obtain ⟨k, rfl⟩ : ∃ k, fuel = k + 1 := ⟨fuel - 1, by omega⟩
    rw [F_A_lookFrom_2, if_pos ((cn_leI (by omega) (by omega)).mpr (by omega))]
    exact ⟨nr, rfl, fun j h1 h2 => by omega, fun j h => rfl⟩
  | succ d ih =>
    intro i fuel nr hi hf
    obtain ⟨k, rfl⟩ : ∃ k, fuel = k + 1 := ⟨fuel - 1, by omega⟩
    rw [F_A_lookFrom_2, if_neg (fun z => by have := (cn_leI (by omega) (by omega)).mp z; omega)]
    unfold F_A_lookFrom_59
    simp only [cn_rdI (show i < 60 by omega) (show 60 < 2 ^ 31 by decide), cn_ki (show i < 4096 by omega), nI_1]
    by_cases q : re i = 0
    · have hy := hp.pd i (by omega)
      rw [if_pos q, hp.at' i (by omega), cn_sqX D (ha.lt ok) (hy.lt ok)]
      simp only [Option.bind_some]
      obtain ⟨c, ec, hc⟩ := cn_codeX ok (ha.pin ht) (hy.pin ht) (ha.lt ok) (hy.lt ok)
      rw [ec]
      simp only [Option.bind_some]
      obtain ⟨c2, ec2, hc2⟩ := cn_minJ (nr i) c
      rw [ec2]
      simp only [Option.bind_some]
      obtain ⟨nr', e, h1, h2⟩ := ih (i + 1) k (vp_updL nr i c2) (by omega) (by omega)
      refine ⟨nr', e, fun j z1 z2 z3 => ?_, fun j z => ?_⟩
      · rcases Nat.eq_or_lt_of_le z1 with z | z
        · rw [h2 j (by omega), cn_upL, if_pos z.symm, ← z, hc2, hc]
        · have := h1 j z z2 z3
          rw [cn_upL, if_neg (by omega)] at this
          exact this
      · rw [h2 j (by omega), cn_upL, if_neg (by omega)]
    · rw [if_neg q]
      obtain ⟨nr', e, h1, h2⟩ := ih (i + 1) k nr (by omega) (by omega)
      refine ⟨nr', e, fun j z1 z2 z3 => ?_, fun j z => h2 j (by omega)⟩
      rcases Nat.eq_or_lt_of_le z1 with z | z
      · exact absurd (by rw [z]; exact z3) q
      · exact h1 j z z2 z3
theorem cn_reachA {D : cn_Dat} (ok : D.ok) {kept : Nat → Int32} {l : Nat → Nat} (hk : cn_KP D kept l) {t m : Nat} {pa : Nat → Nat} {pads : Nat → Int32} (hp : cn_PA D t m pa pads) {g : Nat} (hg : g < 60) (nr : Nat → Int64) : ∀ (d i fuel : Nat) (re : Nat → Int32), i + d = m → d < fuel →
    ∃ re', F_A_reach_15 fuel (nI m) pads re nr D.x D.y D.ri D.hi kept (nI g) (nI i) = F_A_reach_57 4096 (nI m) pads re' nr D.x D.y D.ri D.hi kept (nI g) 0 ∧ (∀ j, i ≤ j → j < m → re' j = if l (pa j) = g then 1 else re j) ∧ ∀ j, j < i → re' j = re j := by
  have m60 := hp.m60
  intro d
  induction d with
  | zero =>
    intro i fuel re hi hf
    obtain ⟨k, rfl⟩ : ∃ k, fuel = k + 1 := ⟨fuel - 1, by omega⟩
    rw [F_A_reach_15, if_pos ((cn_leI (by omega) (by omega)).mpr (by omega))]
    exact ⟨re, rfl, fun j h1 h2 => by omega, fun j h => rfl⟩
  | succ d ih =>
    intro i fuel re hi hf
    obtain ⟨k, rfl⟩ : ∃ k, fuel = k + 1 := ⟨fuel - 1, by omega⟩
    have hy := hp.pd i (by omega)
    have hl := hk.le _ hy.1
    have h60 := hy.lt ok
    rw [F_A_reach_15, if_neg (fun z => by have := (cn_leI (by omega) (by omega)).mp z; omega)]
    unfold F_A_reach_48
    simp only [cn_rdI (show i < 60 by omega) (show 60 < 2 ^ 31 by decide), cn_ki (show i < 4096 by omega), nI_1, cn_nar1]
    rw [hp.at' i (by omega), cn_leaderOf h60, hk.yes _ hy.1]
    simp only [Option.bind_some]
    by_cases q : l (pa i) = g
    · rw [if_pos (by rw [q])]
      obtain ⟨re', e, h1, h2⟩ := ih (i + 1) k (upd re i 1) (by omega) (by omega)
      refine ⟨re', e, fun j z1 z2 => ?_, fun j z => ?_⟩
      · rcases Nat.eq_or_lt_of_le z1 with z | z
        · rw [h2 j (by omega), cn_up, if_pos z.symm, ← z, if_pos q]
        · have := h1 j z z2
          rw [cn_up, if_neg (show ¬ j = i by omega)] at this
          exact this
      · rw [h2 j (by omega), cn_up, if_neg (by omega)]
    · rw [if_neg (fun z => q ((cn_eqI (by omega) (by omega)).mp z))]
      obtain ⟨re', e, h1, h2⟩ := ih (i + 1) k re (by omega) (by omega)
      refine ⟨re', e, fun j z1 z2 => ?_, fun j z => h2 j (by omega)⟩
      rcases Nat.eq_or_lt_of_le z1 with z | z
      · rw [h2 j (by omega), ← z, if_neg q]
      · exact h1 j z z2
theorem cn_reachB {D : cn_Dat} (ok : D.ok) {kept : Nat → Int32} {l : Nat → Nat} (hk : cn_KP D kept l) {t : Nat} (ht : t < 20) {m : Nat} {pa : Nat → Nat} {pads : Nat → Int32} (hp : cn_PA D t m pa pads) {g : Nat} (hg : g < 60) (re : Nat → Int32) {Src : Nat → Prop} : ∀ (d i fuel : Nat) (nr : Nat → Int64), i + d = m → d < fuel →
    (∀ j, j < m → re j = 0 → cn_NN D (fun x => Src x ∨ ∃ i', i' < i ∧ l (pa i') = g ∧ x = pa i') (pa j) (nr j)) →
    ∃ nr', F_A_reach_57 fuel (nI m) pads re nr D.x D.y D.ri D.hi kept (nI g) (nI i) = some (re, nr') ∧ ∀ j, j < m → re j = 0 → cn_NN D (fun x => Src x ∨ ∃ i', i' < m ∧ l (pa i') = g ∧ x = pa i') (pa j) (nr' j) := by
  have m60 := hp.m60
  intro d
  induction d with
  | zero =>
    intro i fuel nr hi hf hN
    obtain ⟨k, rfl⟩ : ∃ k, fuel = k + 1 := ⟨fuel - 1, by omega⟩
    obtain rfl : i = m := by omega
    rw [F_A_reach_57, if_pos ((cn_leI (by omega) (by omega)).mpr (by omega))]
    exact ⟨nr, rfl, hN⟩
  | succ d ih =>
    intro i fuel nr hi hf hN
    obtain ⟨k, rfl⟩ : ∃ k, fuel = k + 1 := ⟨fuel - 1, by omega⟩
    have hy := hp.pd i (by omega)
    have hl := hk.le _ hy.1
    have h60 := hy.lt ok
    rw [F_A_reach_57, if_neg (fun z => by have := (cn_leI (by omega) (by omega)).mp z; omega)]
    unfold F_A_reach_94
    simp only [cn_rdI (show i < 60 by omega) (show 60 < 2 ^ 31 by decide), cn_ki (show i < 4096 by omega), nI_1]
    rw [hp.at' i (by omega), cn_leaderOf h60, hk.yes _ hy.1]
    simp only [Option.bind_some]
    by_cases q : l (pa i) = g
    · rw [if_pos (by rw [q])]
      unfold F_A_lookFrom F_A_lookFrom_0
      obtain ⟨nr', e, h1, h2⟩ := cn_lookF ok ht hp re hy m 0 4096 nr (by omega) (by omega)
      rw [show (0 : Int32) = nI 0 by decide, e]
      simp only [Option.bind_some]
      refine ih (i + 1) k nr' (by omega) (by omega) (fun j hj hr => (hN j hj hr).add (a := pa i) (h1 j (by omega) hj hr) (fun x => ⟨fun h => ?_, fun h => ?_⟩))
      · rcases h with h | ⟨i', z1, z2, z3⟩
        · exact Or.inl (Or.inl h)
        · rcases Nat.lt_or_ge i' i with z | z
          · exact Or.inl (Or.inr ⟨i', z, z2, z3⟩)
          · exact Or.inr (by rw [z3, show i' = i by omega])
      · rcases h with (h | ⟨i', z1, z2, z3⟩) | h
        · exact Or.inl h
        · exact Or.inr ⟨i', by omega, z2, z3⟩
        · exact Or.inr ⟨i, by omega, q, h⟩
    · rw [if_neg (fun z => q ((cn_eqI (by omega) (by omega)).mp z))]
      refine ih (i + 1) k nr (by omega) (by omega) (fun j hj hr => (hN j hj hr).cong (fun x => ⟨fun h => ?_, fun h => ?_⟩))
      · rcases h with h | ⟨i', z1, z2, z3⟩
        · exact Or.inl h
        · rcases Nat.lt_or_ge i' i with z | z
          · exact Or.inr ⟨i', z, z2, z3⟩
          · exact absurd (by rw [← show i' = i by omega]; exact z2) q
      · rcases h with h | ⟨i', z1, z2, z3⟩
        · exact Or.inl h
        · exact Or.inr ⟨i', by omega, z2, z3⟩
theorem cn_reach {D : cn_Dat} (ok : D.ok) {kept : Nat → Int32} {l : Nat → Nat} (hk : cn_KP D kept l) {t : Nat} (ht : t < 20) {m : Nat} {pa : Nat → Nat} {pads : Nat → Int32} (hp : cn_PA D t m pa pads) {q : Nat} (hq : q < m) (re : Nat → Int32) (nr : Nat → Int64) {Src : Nat → Prop}
    (hN : ∀ j, j < m → re j = 0 → cn_NN D Src (pa j) (nr j)) :
    ∃ re' nr', F_A_reach (nI m) pads re nr D.x D.y D.ri D.hi kept (nI q) = some (re', nr') ∧ (∀ j, j < m → re' j = if l (pa j) = l (pa q) then 1 else re j) ∧ ∀ j, j < m → re' j = 0 → cn_NN D (fun x => Src x ∨ (D.Pd t x ∧ l x = l (pa q))) (pa j) (nr' j) := by
  have m60 := hp.m60
  have hy := hp.pd q hq
  have hl := hk.le _ hy.1
  have h60 := hy.lt ok
  unfold F_A_reach F_A_reach_0
  rw [cn_rdI (by omega) (by omega), cn_ki (by omega), hp.at' q hq, cn_leaderOf h60, hk.yes _ hy.1]
  simp only [Option.bind_some]
  rw [show (0 : Int32) = nI 0 by decide]
  obtain ⟨re', e, h1, -⟩ := cn_reachA ok hk hp (g := l (pa q)) (by omega) nr m 0 4096 re (by omega) (by omega)
  rw [e, show (0 : Int32) = nI 0 by decide]
  obtain ⟨nr', e', h2⟩ := cn_reachB ok hk ht hp (g := l (pa q)) (by omega) re' (Src := Src) m 0 4096 nr (by omega) (by omega) (fun j hj hr => by
    have h3 := h1 j (by omega) hj
    rw [hr] at h3
    have h4 : re j = 0 := by
      by_cases z : l (pa j) = l (pa q)
      · rw [if_pos z] at h3; exact absurd h3 (by decide)
      · rw [if_neg z] at h3; exact h3.symm
    exact (hN j hj h4).cong (fun x => ⟨fun h => by
      rcases h with h | ⟨i', z, -⟩
      · exact h
      · omega, fun h => Or.inl h⟩))
  refine ⟨re', nr', e', fun j hj => h1 j (by omega) hj, fun j hj hr => (h2 j hj hr).cong (fun x => ⟨fun h => ?_, fun h => ?_⟩)⟩
  · rcases h with h | ⟨h3, h4⟩
    · exact Or.inl h
    · obtain ⟨i', z1, z2⟩ := hp.sur x h3
      exact Or.inr ⟨i', z1, by rw [z2]; exact h4, z2.symm⟩
  · rcases h with h | ⟨i', z1, z2, z3⟩
    · exact Or.inl h
    · exact Or.inr ⟨by rw [z3]; exact hp.pd i' z1, by rw [z3]; exact z2⟩
/-- the nearest pad that isn't reached yet -/
theorem cn_nearL {m : Nat} (m60 : m ≤ 60) {re : Nat → Int32} {nr : Nat → Int64} : ∀ (d i fuel : Nat) (v : Int32), i + d = m → d < fuel →
    (v = -1 ∧ (∀ j, j < i → re j ≠ 0) ∨ ∃ b, b < i ∧ v = nI b ∧ re b = 0 ∧ ∀ j, j < i → re j = 0 → (nr b).toInt ≤ (nr j).toInt) →
    ∃ v', F_A_nearestPad_4 fuel (nI m) re nr v (nI i) = some v' ∧ (v' = -1 ∧ (∀ j, j < m → re j ≠ 0) ∨ ∃ b, b < m ∧ v' = nI b ∧ re b = 0 ∧ ∀ j, j < m → re j = 0 → (nr b).toInt ≤ (nr j).toInt) := by
  intro d
  induction d with
  | zero =>
    intro i fuel v hi hf hv
    obtain ⟨k, rfl⟩ : ∃ k, fuel = k + 1 := ⟨fuel - 1, by omega⟩
    obtain rfl : i = m := by omega
    rw [F_A_nearestPad_4, if_pos ((cn_leI (by omega) (by omega)).mpr (by omega))]
    exact ⟨v, rfl, hv⟩
  | succ d ih =>
    intro i fuel v hi hf hv
    obtain ⟨k, rfl⟩ : ∃ k, fuel = k + 1 := ⟨fuel - 1, by omega⟩
    rw [F_A_nearestPad_4, if_neg (fun z => by have := (cn_leI (by omega) (by omega)).mp z; omega)]
    unfold F_A_nearestPad_42 F_A_nearestPad_44
    simp only [cn_rdI (show i < 60 by omega) (show 60 < 2 ^ 31 by decide), cn_ki (show i < 4096 by omega), nI_1]
    by_cases q : re i = 0
    · rw [if_pos q]
      rcases hv with ⟨rfl, h1⟩ | ⟨b, hb, rfl, h1, h2⟩
      · rw [if_pos rfl]
        refine ih (i + 1) k (nI i) (by omega) (by omega) (Or.inr ⟨i, by omega, rfl, q, fun j hj hr => ?_⟩)
        rcases Nat.lt_or_ge j i with z | z
        · exact absurd hr (h1 j z)
        · rw [show j = i by omega]; exact Int.le_refl _
      · rw [if_neg (cn_m1 (by omega)), cn_rdI (by omega) (by omega), cn_ki (by omega)]
        by_cases z : 0 ≤ lg_cmp (nr i) (nr b)
        · rw [if_pos z]
          have z1 : ¬ (nr i).toInt < (nr b).toInt := fun y => cn_cmpGe.mp z (Int64.lt_iff_toInt_lt.mpr y)
          refine ih (i + 1) k (nI b) (by omega) (by omega) (Or.inr ⟨b, by omega, rfl, h1, fun j hj hr => ?_⟩)
          rcases Nat.lt_or_ge j i with y | y
          · exact h2 j y hr
          · rw [show j = i by omega]; omega
        · rw [if_neg z]
          have z1 : (nr i).toInt < (nr b).toInt := Classical.byContradiction fun y => z (cn_cmpGe.mpr (fun w => y (Int64.lt_iff_toInt_lt.mp w)))
          refine ih (i + 1) k (nI i) (by omega) (by omega) (Or.inr ⟨i, by omega, rfl, q, fun j hj hr => ?_⟩)
          rcases Nat.lt_or_ge j i with y | y
          · have := h2 j y hr; omega
          · rw [show j = i by omega]; exact Int.le_refl _
    · rw [if_neg q]
      refine ih (i + 1) k v (by omega) (by omega) ?_
      rcases hv with ⟨rfl, h1⟩ | ⟨b, hb, rfl, h1, h2⟩
      · refine Or.inl ⟨rfl, fun j hj => ?_⟩
        rcases Nat.lt_or_ge j i with z | z
        · exact h1 j z
        · rw [show j = i by omega]; exact q
      · refine Or.inr ⟨b, by omega, rfl, h1, fun j hj hr => ?_⟩
        rcases Nat.lt_or_ge j i with z | z
        · exact h2 j z hr
        · exact absurd (by rw [← show j = i by omega]; exact hr) q
/-- an insertion into a rising row -/
theorem cn_insL {c : Nat} (hc : c < 60) {v : Int64} : ∀ (i fuel : Nat) (f : Nat → Int64), i < fuel → i ≤ c →
    ∃ a f', F_A_insert_21 fuel (nI c) f v (nI i) (nI i) = some (nI (c + 1), f') ∧ a ≤ i ∧ f' a = v ∧ (∀ j, j < a → f' j = f j) ∧ (∀ j, a < j → j ≤ i → f' j = f (j - 1)) ∧ (∀ j, i < j → f' j = f j) ∧ (0 < a → (f (a - 1)).toInt ≤ v.toInt) ∧ (∀ j, a ≤ j → j < i → v.toInt < (f j).toInt) := by
  intro i
  induction i with
  | zero =>
    intro fuel f hf hi
    obtain ⟨k, rfl⟩ : ∃ k, fuel = k + 1 := ⟨fuel - 1, by omega⟩
    rw [F_A_insert_21, if_pos (by rw [nI_0]; decide)]
    unfold F_A_insert_67
    rw [cn_rdI (by omega) (by omega), cn_ki (by omega), nI_1]
    exact ⟨0, _, rfl, Nat.le_refl 0, by rw [cn_upL, if_pos rfl], fun j h => by omega, fun j h1 h2 => by omega, fun j h => by rw [cn_upL, if_neg (by omega)], fun h => by omega, fun j h1 h2 => by omega⟩
  | succ i ih =>
    intro fuel f hf hi
    obtain ⟨k, rfl⟩ : ∃ k, fuel = k + 1 := ⟨fuel - 1, by omega⟩
    rw [F_A_insert_21, if_neg (nI_nle (by omega) (by omega)), nI_pred, cn_rdI (by omega) (by omega), cn_ki (by omega)]
    have em : nI (i + 1) + (-1) = nI i := by
      have := nI_pred i
      rw [← this]; exact (Int32.sub_eq_add_neg _ _).symm
    by_cases q : lg_cmp (f i) v ≤ 0
    · rw [if_pos q]
      unfold F_A_insert_67
      rw [cn_rdI (by omega) (by omega), cn_ki (by omega), nI_1]
      have q1 : ¬ v.toInt < (f i).toInt := fun z => cn_cmpLe.mp q (Int64.lt_iff_toInt_lt.mpr z)
      exact ⟨i + 1, _, rfl, Nat.le_refl _, by rw [cn_upL, if_pos rfl], fun j h => by rw [cn_upL, if_neg (by omega)], fun j h1 h2 => by omega, fun j h => by rw [cn_upL, if_neg (by omega)], fun h => by rw [show i + 1 - 1 = i by omega]; omega, fun j h1 h2 => by omega⟩
    · rw [if_neg q, cn_rdI (by omega) (by omega), cn_rdI (by omega) (by omega), cn_ki (by omega), em]
      have q1 : v.toInt < (f i).toInt := Classical.byContradiction fun z => q (cn_cmpLe.mpr (fun w => z (Int64.lt_iff_toInt_lt.mp w)))
      obtain ⟨a, f', e, h1, h2, h3, h4, h5, h6, h7⟩ := ih k (vp_updL f (i + 1) (f i)) (by omega) (by omega)
      refine ⟨a, f', e, by omega, h2, fun j z => ?_, fun j z1 z2 => ?_, fun j z => ?_, fun z => ?_, fun j z1 z2 => ?_⟩
      · rw [h3 j z, cn_upL, if_neg (by omega)]
      · rcases Nat.lt_or_ge i j with y | y
        · rw [h5 j y, cn_upL, if_pos (by omega), show j - 1 = i by omega]
        · rw [h4 j z1 y, cn_upL, if_neg (by omega)]
      · rw [h5 j (by omega), cn_upL, if_neg (by omega)]
      · have := h6 z
        rw [cn_upL, if_neg (by omega)] at this
        exact this
      · rcases Nat.lt_or_ge j i with y | y
        · have := h7 j z1 y
          rw [cn_upL, if_neg (by omega)] at this
          exact this
        · rw [show j = i by omega]; exact q1
