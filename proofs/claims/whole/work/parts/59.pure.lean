/-! PURE: the reference's next airline -/
theorem cn_plT {D : cn_Dat} (ok : D.ok) {t : Nat} (ht : t < 20) {i : Nat} (hi : i < 60) : ∃ u, F_M_planOf D.there D.pin D.nop (nI i) = some u ∧ (u = nI t ↔ D.Pd t i) := by
  refine ⟨_, cn_plM ok hi, ?_⟩
  by_cases q : D.there i = 0
  · rw [if_pos q]
    exact ⟨fun z => absurd z.symm (cn_m1 (by omega)), fun z => absurd q z.1⟩
  · rw [if_neg q]
    exact ⟨fun z => ⟨q, z⟩, fun z => z.2⟩
def cn_seen (q j q' p' : Nat) : Prop := p' < q' ∧ (q' < q ∨ (q' = q ∧ p' < j))
/-- the search so far -/
def cn_NI (D : cn_Dat) (t : Nat) (G : Nat → Int32) (q j : Nat) (v : Int32) (aS : Int64) (aL aH : Int32) : Prop :=
  (v = 0 ∧ ∀ q' p', cn_seen q j q' p' → D.Pd t p' → D.Pd t q' → G p' = G q') ∨
  (v = 1 ∧ ∃ a b, a < b ∧ b < D.n ∧ D.Pd t a ∧ D.Pd t b ∧ G a ≠ G b ∧ aS = D.sq a b ∧ aL = nI a ∧ aH = nI b ∧ ∀ q' p', cn_seen q j q' p' → D.Pd t p' → D.Pd t q' → G p' ≠ G q' → D.cw a b ≤ D.cw p' q')
theorem cn_NI.skip {D : cn_Dat} {t : Nat} {G : Nat → Int32} {q j : Nat} {v : Int32} {aS : Int64} {aL aH : Int32} (h : cn_NI D t G q j v aS aL aH) (c : D.Pd t j → D.Pd t q → G j ≠ G q → v = 1 ∧ ∀ a b, aS = D.sq a b → aL = nI a → aH = nI b → a < b → b < D.n → D.Pd t a → D.Pd t b → D.cw a b ≤ D.cw j q) : cn_NI D t G q (j + 1) v aS aL aH := by
  rcases h with ⟨h1, h2⟩ | ⟨h1, a, b, h2, h3, h4, h5, h6, h7, h8, h9, h10⟩
  · refine Or.inl ⟨h1, fun q' p' hs s1 s2 => ?_⟩
    by_cases y : cn_seen q j q' p'
    · exact h2 q' p' y s1 s2
    · obtain ⟨rfl, rfl⟩ : p' = j ∧ q' = q := by unfold cn_seen at hs y; omega
      apply Classical.byContradiction
      intro ne
      have := (c s1 s2 ne).1
      rw [h1] at this
      exact absurd this (by decide)
  · refine Or.inr ⟨h1, a, b, h2, h3, h4, h5, h6, h7, h8, h9, fun q' p' hs s1 s2 ne => ?_⟩
    by_cases y : cn_seen q j q' p'
    · exact h10 q' p' y s1 s2 ne
    · obtain ⟨rfl, rfl⟩ : p' = j ∧ q' = q := by unfold cn_seen at hs y; omega
      exact (c s1 s2 ne).2 a b h7 h8 h9 h2 h3 h4 h5
theorem cn_NI.take {D : cn_Dat} {t : Nat} {G : Nat → Int32} {q j : Nat} {v : Int32} {aS : Int64} {aL aH : Int32} (h : cn_NI D t G q j v aS aL aH) (hj : j < q) (hq : q < D.n) (s1 : D.Pd t j) (s2 : D.Pd t q) (ne : G j ≠ G q) (c : v = 1 → ∀ a b, aS = D.sq a b → aL = nI a → aH = nI b → a < b → b < D.n → D.Pd t a → D.Pd t b → D.cw j q ≤ D.cw a b) : cn_NI D t G q (j + 1) 1 (D.sq j q) (nI j) (nI q) := by
  refine Or.inr ⟨rfl, j, q, hj, hq, s1, s2, ne, rfl, rfl, rfl, fun q' p' hs z1 z2 zn => ?_⟩
  by_cases y : cn_seen q j q' p'
  · rcases h with ⟨h1, h2⟩ | ⟨h1, a, b, h2, h3, h4, h5, h6, h7, h8, h9, h10⟩
    · exact absurd (h2 q' p' y z1 z2) zn
    · have := h10 q' p' y z1 z2 zn
      have := c h1 a b h7 h8 h9 h2 h3 h4 h5
      omega
  · obtain ⟨rfl, rfl⟩ : p' = j ∧ q' = q := by unfold cn_seen at hs y; omega
    exact Int.le_refl _
theorem cn_air15 {D : cn_Dat} (ok : D.ok) {t : Nat} (ht : t < 20) {G : Nat → Int32} (Z : Option (Int32 × Int64 × Int32 × Int32 × (Nat → Int32)) → Prop) {k4} {q : Nat} (hq : q < D.n)
    (hk : ∀ v aS aL aH, cn_NI D t G (q + 1) 0 v aS aL aH → Z (k4 (nI D.n) aS aL aH D.there D.x D.y D.pin D.nop G (nI t) v (nI (q + 1)))) :
    ∀ (d j fuel : Nat) (v : Int32) (aS : Int64) (aL aH : Int32), j + d = q → d < fuel → cn_NI D t G q j v aS aL aH → Z (F_M_nextAirline_15 k4 fuel (nI D.n) aS aL aH D.there D.x D.y D.pin D.nop G (nI t) v (nI q) (nI j)) := by
  have n60 := ok.n60
  intro d
  induction d with
  | zero =>
    intro j fuel v aS aL aH hj hf hN
    obtain ⟨k, rfl⟩ : ∃ k, fuel = k + 1 := ⟨fuel - 1, by omega⟩
    rw [F_M_nextAirline_15, if_pos ((cn_leI (by omega) (by omega)).mpr (by omega)), nI_1]
    refine hk v aS aL aH ?_
    obtain rfl : j = q := by omega
    have hs : ∀ q' p', cn_seen (j + 1) 0 q' p' → cn_seen j j q' p' := fun q' p' z => by unfold cn_seen at *; omega
    rcases hN with ⟨h1, h2⟩ | ⟨h1, a, b, h2, h3, h4, h5, h6, h7, h8, h9, h10⟩
    · exact Or.inl ⟨h1, fun q' p' z => h2 q' p' (hs q' p' z)⟩
    · exact Or.inr ⟨h1, a, b, h2, h3, h4, h5, h6, h7, h8, h9, fun q' p' z => h10 q' p' (hs q' p' z)⟩
  | succ d ih =>
    intro j fuel v aS aL aH hj hf hN
    obtain ⟨k, rfl⟩ : ∃ k, fuel = k + 1 := ⟨fuel - 1, by omega⟩
    rw [F_M_nextAirline_15, if_neg (fun z => by have := (cn_leI (by omega) (by omega)).mp z; omega)]
    unfold F_M_nextAirline_170 F_M_nextAirline_174 F_M_nextAirline_175 F_M_nextAirline_204
    have h10 : ((1 : Int32) = 0) = False := by decide
    simp only [cn_rdI (show q < 60 by omega) (show 60 < 2 ^ 31 by decide), cn_rdI (show j < 60 by omega) (show 60 < 2 ^ 31 by decide), cn_ki (show q < 4096 by omega), cn_ki (show j < 4096 by omega), nI_1, h10, if_false, if_true]
    obtain ⟨u1, e1, hu1⟩ := cn_plT ok ht (i := j) (by omega)
    obtain ⟨u2, e2, hu2⟩ := cn_plT ok ht (i := q) (by omega)
    rw [e1, e2]
    simp only [Option.bind_some]
    by_cases s1 : D.Pd t j
    · rw [if_pos (hu1.mpr s1)]
      by_cases s2 : D.Pd t q
      · rw [if_pos (hu2.mpr s2)]
        by_cases eg : G j = G q
        · rw [if_pos eg]
          exact ih (j + 1) k v aS aL aH (by omega) (by omega) (hN.skip (fun _ _ ne => absurd eg ne))
        · rw [if_neg eg, ← (ok.sqI (s1.pin ht) (s2.pin ht)).1]
          have take := fun c => ih (j + 1) k 1 (D.sq j q) (nI j) (nI q) (by omega) (by omega) (hN.take (by omega) hq s1 s2 eg c)
          have b1 := (ok.sqI (s1.pin ht) (s2.pin ht)).2
          by_cases v0 : v = 0
          · rw [if_pos v0]
            exact take (fun z => by rw [v0] at z; exact absurd z (by decide))
          · rw [if_neg v0]
            have v1 : v = 1 := by rcases hN with ⟨h, -⟩ | ⟨h, -⟩; exact absurd h v0; exact h
            by_cases c1 : lg_cmp (D.sq j q) aS < 0
            · rw [if_pos c1]
              refine take (fun _ a b z1 z2 z3 z4 z5 z6 z7 => ?_)
              have := Int64.lt_iff_toInt_lt.mp (cn_cmpLt.mp c1)
              rw [z1] at this
              unfold cn_Dat.cw
              omega
            · rw [if_neg c1]
              have c1' : ¬ (D.sq j q).toInt < aS.toInt := fun z => c1 (cn_cmpLt.mpr (Int64.lt_iff_toInt_lt.mpr z))
              by_cases c2 : lg_cmp (D.sq j q) aS = 0
              · rw [if_pos c2]
                have c2' : D.sq j q = aS := cn_cmpEq.mp c2
                by_cases c3 : nI j < aL
                · rw [if_pos c3]
                  refine take (fun _ a b z1 z2 z3 z4 z5 z6 z7 => ?_)
                  rw [z2, cn_ltI (by omega) (by omega)] at c3
                  rw [z1] at c2'
                  unfold cn_Dat.cw
                  rw [c2']
                  omega
                · rw [if_neg c3]
                  by_cases c4 : nI j = aL
                  · rw [if_pos c4]
                    by_cases c5 : aH ≤ nI q
                    · rw [if_pos c5]
                      refine ih (j + 1) k v aS aL aH (by omega) (by omega) (hN.skip (fun _ _ _ => ⟨v1, fun a b z1 z2 z3 z4 z5 z6 z7 => ?_⟩))
                      rw [z2, cn_eqI (by omega) (by omega)] at c4
                      rw [z3, cn_leI (by omega) (by omega)] at c5
                      rw [z1] at c2'
                      unfold cn_Dat.cw
                      rw [c2']
                      omega
                    · rw [if_neg c5]
                      refine take (fun _ a b z1 z2 z3 z4 z5 z6 z7 => ?_)
                      rw [z2, cn_eqI (by omega) (by omega)] at c4
                      rw [z3, cn_leI (by omega) (by omega)] at c5
                      rw [z1] at c2'
                      unfold cn_Dat.cw
                      rw [c2']
                      omega
                  · rw [if_neg c4]
                    refine ih (j + 1) k v aS aL aH (by omega) (by omega) (hN.skip (fun _ _ _ => ⟨v1, fun a b z1 z2 z3 z4 z5 z6 z7 => ?_⟩))
                    rw [z2, cn_eqI (by omega) (by omega)] at c4
                    rw [z2, cn_ltI (by omega) (by omega)] at c3
                    rw [z1] at c2'
                    unfold cn_Dat.cw
                    rw [c2']
                    omega
              · rw [if_neg c2]
                refine ih (j + 1) k v aS aL aH (by omega) (by omega) (hN.skip (fun _ _ _ => ⟨v1, fun a b z1 z2 z3 z4 z5 z6 z7 => ?_⟩))
                have c2' : (D.sq j q).toInt ≠ aS.toInt := fun z => c2 (cn_cmpEq.mpr (Int64.toInt_inj.mp z))
                rw [z1] at c1' c2'
                unfold cn_Dat.cw
                omega
      · rw [if_neg (fun z => s2 (hu2.mp z))]
        exact ih (j + 1) k v aS aL aH (by omega) (by omega) (hN.skip (fun _ z => absurd z s2))
    · rw [if_neg (fun z => s1 (hu1.mp z))]
      exact ih (j + 1) k v aS aL aH (by omega) (by omega) (hN.skip (fun z => absurd z s1))
theorem cn_merge {n : Nat} (n60 : n ≤ 60) {aS : Int64} {aL aH : Int32} {a1 a2 a3 : Nat → Int32} {b1 b2 : Nat → Int64} {u v : Int32} : ∀ (d i fuel : Nat) (G : Nat → Int32), i + d = n → d < fuel →
    ∃ G', F_M_nextAirline_246 fuel (nI n) aS aL aH a1 b1 b2 a2 a3 G u v (nI i) = some (1, aS, aL, aH, G') ∧ (∀ j, i ≤ j → j < n → G' j = if G j = v then u else G j) ∧ ∀ j, j < i → G' j = G j := by
  intro d
  induction d with
  | zero =>
    intro i fuel G hi hf
    obtain ⟨k, rfl⟩ : ∃ k, fuel = k + 1 := ⟨fuel - 1, by omega⟩
    rw [F_M_nextAirline_246, if_pos ((cn_leI (by omega) (by omega)).mpr (by omega))]
    exact ⟨G, rfl, fun j h1 h2 => by omega, fun j h => rfl⟩
  | succ d ih =>
    intro i fuel G hi hf
    obtain ⟨k, rfl⟩ : ∃ k, fuel = k + 1 := ⟨fuel - 1, by omega⟩
    rw [F_M_nextAirline_246, if_neg (fun z => by have := (cn_leI (by omega) (by omega)).mp z; omega)]
    unfold F_M_nextAirline_284
    simp only [cn_rdI (show i < 60 by omega) (show 60 < 2 ^ 31 by decide), cn_ki (show i < 4096 by omega), nI_1]
    have go : ∀ x, x = (if G i = v then u else G i) → ∃ G', F_M_nextAirline_246 k (nI n) aS aL aH a1 b1 b2 a2 a3 (upd G i x) u v (nI (i + 1)) = some (1, aS, aL, aH, G') ∧ (∀ j, i ≤ j → j < n → G' j = if G j = v then u else G j) ∧ ∀ j, j < i → G' j = G j := fun x hx => by
      obtain ⟨G', e, h1, h2⟩ := ih (i + 1) k (upd G i x) (by omega) (by omega)
      refine ⟨G', e, fun j z1 z2 => ?_, fun j z => ?_⟩
      · rcases Nat.eq_or_lt_of_le z1 with z | z
        · rw [h2 j (by omega), cn_up, if_pos z.symm, ← z]; exact hx
        · have := h1 j z z2
          have w : upd G i x j = G j := by rw [cn_up, if_neg (by omega)]
          rw [w] at this
          exact this
      · rw [h2 j (by omega), cn_up, if_neg (by omega)]
    by_cases q : G i = v
    · rw [if_pos q]; exact go u (by rw [if_pos q])
    · rw [if_neg q]; exact go (G i) (by rw [if_neg q])
/-- what the next airline is -/
def cn_Nx (D : cn_Dat) (t : Nat) (G : Nat → Int32) (aS : Int64) (aL aH : Int32) (o : Option (Int32 × Int64 × Int32 × Int32 × (Nat → Int32))) : Prop :=
  ((∃ aS' aL' aH', o = some (0, aS', aL', aH', G)) ∧ ∀ x y, D.Pd t x → D.Pd t y → G x = G y) ∨
  ∃ a b G', o = some (1, D.sq a b, nI a, nI b, G') ∧ a < b ∧ b < D.n ∧ D.Pd t a ∧ D.Pd t b ∧ G a ≠ G b ∧ (∀ x y, D.Pd t x → D.Pd t y → G x ≠ G y → D.cw a b ≤ D.cw x y) ∧ ∀ j, j < D.n → G' j = if G j = G b then G a else G j
theorem cn_air4 {D : cn_Dat} (ok : D.ok) {t : Nat} (ht : t < 20) {G : Nat → Int32} {s0 : Int64} {l0 h0 : Int32} : ∀ (d q fuel : Nat) (v : Int32) (aS : Int64) (aL aH : Int32), q + d = D.n → d < fuel → cn_NI D t G q 0 v aS aL aH → cn_Nx D t G s0 l0 h0 (F_M_nextAirline_4 fuel (nI D.n) aS aL aH D.there D.x D.y D.pin D.nop G (nI t) v (nI q)) := by
  have n60 := ok.n60
  intro d
  induction d with
  | zero =>
    intro q fuel v aS aL aH hq hf hN
    obtain ⟨k, rfl⟩ : ∃ k, fuel = k + 1 := ⟨fuel - 1, by omega⟩
    rw [F_M_nextAirline_4, if_pos ((cn_leI (by omega) (by omega)).mpr (by omega))]
    have seen : ∀ x y, D.Pd t x → D.Pd t y → x < y → cn_seen q 0 y x := fun x y hx hy z => by
      have := ok.lt hx.1; have := ok.lt hy.1
      unfold cn_seen; omega
    rcases hN with ⟨h1, h2⟩ | ⟨h1, a, b, h2, h3, h4, h5, h6, h7, h8, h9, h10⟩
    · rw [if_pos h1]
      refine Or.inl ⟨⟨aS, aL, aH, rfl⟩, fun x y hx hy => ?_⟩
      rcases Nat.lt_trichotomy x y with z | z | z
      · exact h2 y x (seen x y hx hy z) hx hy
      · rw [z]
      · exact (h2 x y (seen y x hy hx z) hy hx).symm
    · rw [if_neg (by rw [h1]; decide), h8, h9, cn_rdI (by omega) (by omega), cn_rdI (by omega) (by omega), cn_ki (by omega), cn_ki (by omega), h7]
      obtain ⟨G', e, g1, -⟩ := cn_merge n60 (aS := D.sq a b) (aL := nI a) (aH := nI b) (a1 := D.there) (a2 := D.pin) (a3 := D.nop) (b1 := D.x) (b2 := D.y) (u := G a) (v := G b) D.n 0 4096 G (by omega) (by omega)
      refine Or.inr ⟨a, b, G', by rw [show (0 : Int32) = nI 0 by decide]; exact e, h2, h3, h4, h5, h6, fun x y hx hy ne => ?_, fun j hj => g1 j (by omega) hj⟩
      rcases Nat.lt_trichotomy x y with z | z | z
      · exact h10 y x (seen x y hx hy z) hx hy ne
      · exact absurd (by rw [z]) ne
      · rw [ok.cwS x y]; exact h10 x y (seen y x hy hx z) hy hx (fun w => ne w.symm)
  | succ d ih =>
    intro q fuel v aS aL aH hq hf hN
    obtain ⟨k, rfl⟩ : ∃ k, fuel = k + 1 := ⟨fuel - 1, by omega⟩
    rw [F_M_nextAirline_4, if_neg (fun z => by have := (cn_leI (by omega) (by omega)).mp z; omega), show (0 : Int32) = nI 0 by decide]
    exact cn_air15 ok ht (cn_Nx D t G s0 l0 h0) (q := q) (by omega) (fun v aS aL aH hN => ih (q + 1) k v aS aL aH (by omega) (by omega) hN) q 0 4096 v aS aL aH (by omega) (by omega) hN
theorem cn_next {D : cn_Dat} (ok : D.ok) {t : Nat} (ht : t < 20) (G : Nat → Int32) (aS : Int64) (aL aH : Int32) : cn_Nx D t G aS aL aH (F_M_nextAirline (nI D.n) aS aL aH D.there D.x D.y D.pin D.nop G (nI t)) := by
  unfold F_M_nextAirline F_M_nextAirline_0
  have := cn_air4 ok ht (G := G) (s0 := aS) (l0 := aL) (h0 := aH) D.n 0 4096 0 aS aL aH (by omega) (by have := ok.n60; omega) (Or.inl ⟨rfl, fun q' p' z => by unfold cn_seen at z; omega⟩)
  exact this
