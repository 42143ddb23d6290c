/-! PURE: the calls about airlines, on both sides -/
theorem cn_rd01 {α : Type} {x : Option α} : cn_rd 0 1 x = x := by unfold cn_rd; rw [if_neg (by decide)]
theorem cn_o0 {f : Nat → Int64} {v : Int64} : vp_updL f (Int32.toNatClampNeg 0) v 0 = v := rfl
theorem cn_hasA {c : Nat} (hc : c < 4096) (v : Int32) : (∃ k, k < c ∧ v = nI k ∧ F_A_has (nI c) v = some 1) ∨ ((v < 0 ∨ nI c ≤ v) ∧ F_A_has (nI c) v = some 0) := by
  unfold F_A_has F_A_has_0 F_A_has_16 F_A_has_17
  rcases cn_idx hc v with ⟨k, h1, h2, h3, h4, h5⟩ | ⟨h1, h2⟩ | ⟨h1, h2, h3⟩
  · exact Or.inl ⟨k, h1, h2, by rw [if_neg h3, if_neg h5]; rfl⟩
  · exact Or.inr ⟨Or.inl h1, by rw [if_pos h1]; rfl⟩
  · exact Or.inr ⟨Or.inr h3, by rw [if_neg h1, if_pos h3]; rfl⟩
theorem cn_opens {D : cn_Dat} (ok : D.ok) {kept : Nat → Int32} (hK : cn_Kept D kept) (ac apc : Int32) (f : Nat → Int64) (pads re : Nat → Int32) (nr : Nat → Int64) (th : Int32) (aS : Int64) (aL aH : Int32) (lab num G : Nat → Int32) (out : Nat → Int64) (v : Int32) :
    ∃ k ac' apc' f' pads' re' nr' out' b aS' aL' aH' lab' num' G', F_L_opens 1 D.nop (nI D.n) D.pin D.x D.y D.ri D.hi kept ac apc f pads re nr out v = some (k, ac', apc', f', pads', re', nr', out') ∧ F_M_opens th (nI D.n) aS aL aH D.there D.fr D.to D.x D.y D.w D.h D.r D.pin D.nop lab num G v = some (b, k, aS', aL', aH', lab', num', G') ∧ (k = 0 → out' 0 = Int32.toInt64 b) := by
  obtain ⟨l, hk⟩ := hK.kp
  unfold F_L_opens F_L_opens_0 F_X_opens F_X_opens_0 F_X_checkNet F_X_checkNet_0 F_M_opens F_M_opens_0 F_M_opens_13 F_M_opens_32
  rcases cn_netv v with ⟨t, ht, rfl, e1, e2⟩ | ⟨e1, e2⟩
  · obtain ⟨c, m', f', pads', re', nr', e3, hL⟩ := cn_drawX ok hk ht ac apc f pads re nr
    obtain ⟨a1, a2, a3, a4, a5, a6, e4⟩ := cn_countOpens ok hk ht hL aS aL aH lab num G
    rw [e1, e2]
    simp only [Option.bind_some, show ((1 : Int32) = 0) = False by decide, if_false, if_true, cn_sw, e3, e4, cn_rd01]
    exact ⟨0, _, _, _, _, _, _, _, _, _, _, _, _, _, _, rfl, rfl, fun _ => rfl⟩
  · rw [e1, e2]
    simp only [Option.bind_some, show ((1 : Int32) = 0) = False by decide, if_false, if_true, cn_sw]
    exact ⟨1, _, _, _, _, _, _, _, _, _, _, _, _, _, _, rfl, rfl, fun z => absurd z (by decide)⟩
/-- a pair of the row, taken apart -/
theorem cn_apart {D : cn_Dat} (ok : D.ok) {t a b : Nat} (ht : t < 20) (ha : D.Pd t a) (hb : D.Pd t b) (hab : a < b) {c : Int64} (hc : c.toInt = D.cw a b) : F_Q_square c = some (D.sq a b) ∧ F_Q_piece c 0 = some (nI a) ∧ ∀ v, v ≠ 0 → F_Q_piece c v = some (nI b) := by
  obtain ⟨-, h1, h2⟩ := ok.sqI (ha.pin ht) (hb.pin ht)
  have a60 := ha.lt ok
  have b60 := hb.lt ok
  unfold cn_Dat.cw at hc
  rw [Nat.min_eq_left (by omega), Nat.max_eq_right (by omega)] at hc
  obtain ⟨r, e, hr⟩ := cn_sqQ hc (by omega) (by omega)
  obtain ⟨e1, e2⟩ := cn_pcQ hc h1 h2 (by omega) (by omega)
  exact ⟨by rw [e, Int64.toInt_inj.mp hr], e1, e2⟩
theorem cn_fits {c : Nat} (hc : c < 4096) {v : Int32} (h : v < 0 ∨ nI c ≤ v) {k : Nat} (hk : k < c) (e : v = nI k) : False := by
  rcases h with h | h
  · rw [e] at h; exact nI_pos (by omega) h
  · rw [e, cn_leI hc (by omega)] at h; omega
theorem cn_fits2 {c : Nat} (hc : c < 4096) {v : Int32} (h : v < 0 ∨ ∃ kk, kk < 2 ^ 31 ∧ v = nI kk ∧ c ≤ kk) {k : Nat} (hk : k < c) (e : v = nI k) : False := by
  rcases h with h | ⟨kk, h1, h2, h3⟩
  · rw [e] at h; exact nI_pos (by omega) h
  · rw [e] at h2
    have := (nI_eq (by omega) h1).mp h2
    omega
theorem cn_open {D : cn_Dat} (ok : D.ok) {kept : Nat → Int32} (hK : cn_Kept D kept) (ac apc : Int32) (f : Nat → Int64) (pads re : Nat → Int32) (nr : Nat → Int64) (th : Int32) (aS : Int64) (aL aH : Int32) (lab num G : Nat → Int32) (out : Nat → Int64) (v u w : Int32) :
    ∃ k ac' apc' f' pads' re' nr' out' b aS' aL' aH' lab' num' G', F_L_open 1 D.nop (nI D.n) D.pin D.x D.y D.ri D.hi kept ac apc f pads re nr out v u w = some (k, ac', apc', f', pads', re', nr', out') ∧ F_M_open th (nI D.n) aS aL aH D.there D.fr D.to D.x D.y D.w D.h D.r D.pin D.nop lab num G v u w = some (b, k, aS', aL', aH', lab', num', G') ∧ (k = 0 → out' 0 = b) := by
  obtain ⟨l, hk⟩ := hK.kp
  have f10 : ((1 : Int32) = 0) = False := by decide
  have io : ("java/lang/IndexOutOfBoundsException" = cn_IO) = True := by decide
  unfold F_L_open F_L_open_0 F_X_open F_X_open_0 F_X_checkNet F_X_checkNet_0 F_X_checkWhat F_X_checkWhat_0 F_X_checkWhat_9 F_X_open_65 F_M_open F_M_open_0 F_M_open_29 F_M_open_30 F_M_open_43 F_M_open_84
  rcases cn_netv v with ⟨t, ht, rfl, e1, e2⟩ | ⟨e1, e2⟩
  · rw [e1, e2]
    have three : (3 : Int32) = nI 3 := by decide
    rcases cn_idx (n := 3) (by decide) w with ⟨i, h1, h2, h3, h4, h5⟩ | hbad
    · obtain ⟨c, m', f', pads', re', nr', e3, hL⟩ := cn_drawX ok hk ht ac apc f pads re nr
      obtain ⟨r, a1, a2, a3, a4, a5, a6, e4, h6⟩ := cn_findAirline ok hk ht hL aS aL aH lab num G u
      have c60 := hL.1
      have le2 : w ≤ 2 := by rw [h2, show (2 : Int32) = nI 2 by decide, cn_leI (by omega) (by omega)]; omega
      have n3 : ¬ (3 : Int32) ≤ w := by rw [three]; exact h5
      simp only [Option.bind_some, f10, if_false, cn_sw, e3, e4, if_neg h3, if_pos le2, if_neg n3]
      rcases cn_hasA (c := c) (by omega) u with ⟨kk, g1, g2, g3⟩ | ⟨g1, g3⟩
      · rcases h6 with ⟨-, h7⟩ | ⟨rfl, k2, z1, z2, a, b, z3, z4, z5, z6, z7, z8, z9, z10⟩
        · exact (cn_fits2 (by omega) h7 g1 g2).elim
        · obtain rfl : kk = k2 := (cn_eqI (by omega) (by omega)).mp (g2.symm.trans z2)
          obtain ⟨q1, q2, q3⟩ := cn_apart ok ht z5 z6 z3 z10
          rw [g3]
          unfold F_A_pairAt F_A_pairAt_0
          rw [g2, cn_rdI (by omega) (by omega), cn_ki (by omega)]
          simp only [Option.bind_some, f10, if_false, if_true]
          subst z7; subst z8; subst z9
          have hw : w = 0 ∨ w = 1 ∨ w = 2 := by
            rw [h2]
            have : i = 0 ∨ i = 1 ∨ i = 2 := by omega
            rcases this with rfl | rfl | rfl
            · exact Or.inl (by decide)
            · exact Or.inr (Or.inl (by decide))
            · exact Or.inr (Or.inr (by decide))
          rcases hw with rfl | rfl | rfl
          · rw [if_neg (by decide), q2]
            simp only [Option.bind_some, cn_sw, cn_rd01, if_true]
            exact ⟨0, _, _, _, _, _, _, _, _, _, _, _, _, _, _, rfl, rfl, fun _ => rfl⟩
          · rw [if_neg (by decide), q3 1 (by decide)]
            simp only [Option.bind_some, cn_sw, cn_rd01, if_true, f10, if_false]
            exact ⟨0, _, _, _, _, _, _, _, _, _, _, _, _, _, _, rfl, rfl, fun _ => rfl⟩
          · rw [if_pos rfl, q1, if_neg (by decide), if_neg (by decide)]
            simp only [Option.bind_some, cn_sw, cn_rd01, if_true]
            exact ⟨0, _, _, _, _, _, _, _, _, _, _, _, _, _, _, rfl, rfl, fun _ => rfl⟩
      · rcases h6 with ⟨rfl, h7⟩ | ⟨rfl, k2, z1, z2, -⟩
        · rw [g3]
          simp only [Option.bind_some, if_true, cn_sw, io, f10, if_false]
          exact ⟨1, _, _, _, _, _, _, _, _, _, _, _, _, _, _, rfl, rfl, fun z => absurd z (by decide)⟩
        · exact (cn_fits (by omega) g1 z1 z2).elim
    · have hx : (if w < 0 then (some (Sum.inr "java/lang/IndexOutOfBoundsException") : Option (Unit ⊕ String)) else if w ≤ 2 then some (Sum.inl ()) else some (Sum.inr "java/lang/IndexOutOfBoundsException")) = some (Sum.inr "java/lang/IndexOutOfBoundsException") := by
        rcases hbad with ⟨h1, -⟩ | ⟨h1, h2, h3⟩
        · rw [if_pos h1]
        · rw [if_neg h1, if_neg (fun z => by
            have a1 := Int32.le_iff_toInt_le.mp z
            have a2 := Int32.le_iff_toInt_le.mp h3
            rw [nI_toInt (by decide)] at a2
            rw [show (2 : Int32).toInt = 2 by decide] at a1
            omega)]
      simp only [Option.bind_some, f10, if_false, cn_sw, hx, if_true, io]
      rcases hbad with ⟨h1, -⟩ | ⟨h1, h2, h3⟩
      · rw [if_pos h1]
        exact ⟨1, _, _, _, _, _, _, _, _, _, _, _, _, _, _, rfl, rfl, fun z => absurd z (by decide)⟩
      · rw [if_neg h1, if_pos (by rw [three]; exact h3)]
        exact ⟨1, _, _, _, _, _, _, _, _, _, _, _, _, _, _, rfl, rfl, fun z => absurd z (by decide)⟩
  · rw [e1, e2]
    simp only [Option.bind_some, f10, if_false, if_true, cn_sw, io]
    exact ⟨1, _, _, _, _, _, _, _, _, _, _, _, _, _, _, rfl, rfl, fun z => absurd z (by decide)⟩
theorem cn_line {D : cn_Dat} (ok : D.ok) {kept : Nat → Int32} (hK : cn_Kept D kept) (ac apc : Int32) (f : Nat → Int64) (pads re : Nat → Int32) (nr : Nat → Int64) (th : Int32) (aS : Int64) (aL aH : Int32) (lab num G : Nat → Int32) (out : Nat → Int64) (v u w : Int32) :
    ∃ k ac' apc' f' pads' re' nr' out' b aS' aL' aH' lab' num' G', F_L_line 1 D.nop (nI D.n) D.pin D.x D.y D.ri D.hi kept ac apc f pads re nr out v u w = some (k, ac', apc', f', pads', re', nr', out') ∧ F_M_line th (nI D.n) aS aL aH D.there D.fr D.to D.x D.y D.w D.h D.r D.pin D.nop lab num G v u w = some (b, k, aS', aL', aH', lab', num', G') ∧ (k = 0 → out' 0 = Int32.toInt64 b) := by
  obtain ⟨l, hk⟩ := hK.kp
  have f10 : ((1 : Int32) = 0) = False := by decide
  have io : ("java/lang/IndexOutOfBoundsException" = cn_IO) = True := by decide
  unfold F_L_line F_L_line_0 F_X_line F_X_line_0 F_X_checkNet F_X_checkNet_0 F_X_checkWhat F_X_checkWhat_0 F_X_checkWhat_9 F_X_line_41 F_M_line F_M_line_0 F_M_line_17 F_M_line_21 F_M_line_22 F_M_line_60
  rcases cn_netv v with ⟨t, ht, rfl, e1, e2⟩ | ⟨e1, e2⟩
  · rw [e1, e2]
    rcases cn_idx (n := 2) (by decide) w with ⟨i, h1, h2, h3, h4, h5⟩ | hbad
    · obtain ⟨c, m', f', pads', re', nr', e3, hL⟩ := cn_drawX ok hk ht ac apc f pads re nr
      obtain ⟨r, a1, a2, a3, a4, a5, a6, e4, h6⟩ := cn_findAirline ok hk ht hL aS aL aH lab num G u
      have c60 := hL.1
      have le1 : w ≤ 1 := by rw [h2, show (1 : Int32) = nI 1 by decide, cn_leI (by omega) (by omega)]; omega
      have hw : w = 0 ∨ w = 1 := by
        rw [h2]
        have : i = 0 ∨ i = 1 := by omega
        rcases this with rfl | rfl
        · exact Or.inl (by decide)
        · exact Or.inr (by decide)
      simp only [Option.bind_some, f10, if_false, cn_sw, e3, e4, if_neg h3, if_pos le1, if_true]
      rcases cn_hasA (c := c) (by omega) u with ⟨kk, g1, g2, g3⟩ | ⟨g1, g3⟩
      · rcases h6 with ⟨-, h7⟩ | ⟨rfl, k2, z1, z2, a, b, z3, z4, z5, z6, z7, z8, z9, z10⟩
        · exact (cn_fits2 (by omega) h7 g1 g2).elim
        · obtain rfl : kk = k2 := (cn_eqI (by omega) (by omega)).mp (g2.symm.trans z2)
          obtain ⟨q1, q2, q3⟩ := cn_apart ok ht z5 z6 z3 z10
          rw [g3]
          unfold F_A_pairAt F_A_pairAt_0
          rw [g2, cn_rdI (by omega) (by omega), cn_ki (by omega)]
          simp only [Option.bind_some, f10, if_false, if_true]
          subst z7; subst z8; subst z9
          rcases hw with rfl | rfl
          · rw [q2]
            simp only [Option.bind_some, cn_sw, cn_rd01, if_true]
            exact ⟨0, _, _, _, _, _, _, _, _, _, _, _, _, _, _, rfl, rfl, fun _ => rfl⟩
          · rw [q3 1 (by decide)]
            simp only [Option.bind_some, cn_sw, cn_rd01, if_true, f10, if_false]
            exact ⟨0, _, _, _, _, _, _, _, _, _, _, _, _, _, _, rfl, rfl, fun _ => rfl⟩
      · rcases h6 with ⟨rfl, h7⟩ | ⟨rfl, k2, z1, z2, -⟩
        · rw [g3]
          simp only [Option.bind_some, if_true, cn_sw, io, f10, if_false, cn_rd01]
          rcases hw with rfl | rfl
          · exact ⟨0, _, _, _, _, _, _, _, _, _, _, _, _, _, _, rfl, rfl, fun _ => rfl⟩
          · exact ⟨0, _, _, _, _, _, _, _, _, _, _, _, _, _, _, rfl, rfl, fun _ => rfl⟩
        · exact (cn_fits (by omega) g1 z1 z2).elim
    · have hx : (if w < 0 then (some (Sum.inr "java/lang/IndexOutOfBoundsException") : Option (Unit ⊕ String)) else if w ≤ 1 then some (Sum.inl ()) else some (Sum.inr "java/lang/IndexOutOfBoundsException")) = some (Sum.inr "java/lang/IndexOutOfBoundsException") := by
        rcases hbad with ⟨h1, -⟩ | ⟨h1, h2, h3⟩
        · rw [if_pos h1]
        · rw [if_neg h1, if_neg (fun z => by
            have a1 := Int32.le_iff_toInt_le.mp z
            have a2 := Int32.le_iff_toInt_le.mp h3
            rw [nI_toInt (by decide)] at a2
            rw [show (1 : Int32).toInt = 1 by decide] at a1
            omega)]
      have w0 : ¬ w = 0 := fun z => by
        rw [z] at hbad
        rcases hbad with ⟨h1, -⟩ | ⟨h1, h2, h3⟩
        · exact absurd h1 (by decide)
        · exact absurd h3 (by decide)
      have w1 : ¬ w = 1 := fun z => by
        rw [z] at hbad
        rcases hbad with ⟨h1, -⟩ | ⟨h1, h2, h3⟩
        · exact absurd h1 (by decide)
        · exact absurd h3 (by decide)
      simp only [Option.bind_some, f10, if_false, cn_sw, hx, if_true, io, if_neg w0, if_neg w1]
      exact ⟨1, _, _, _, _, _, _, _, _, _, _, _, _, _, _, rfl, rfl, fun z => absurd z (by decide)⟩
  · rw [e1, e2]
    simp only [Option.bind_some, f10, if_false, if_true, cn_sw, io]
    exact ⟨1, _, _, _, _, _, _, _, _, _, _, _, _, _, _, rfl, rfl, fun z => absurd z (by decide)⟩
