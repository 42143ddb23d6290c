/-! PURE: short2 -/
theorem cn_short2 {D : cn_Dat} (ok : D.ok) {kept : Nat → Int32} (hK : cn_Kept D kept) (sp nb gb : Nat → Int32) (th aL aH : Int32) (lab num G : Nat → Int32) (out : Nat → Int64) (v u : Int32) :
    ∃ k sp' nb' gb' out' b aL' aH' lab' num' G', F_L_short2 1 D.nop (nI D.n) D.fr D.to D.pin D.x D.y D.ri D.hi D.r kept sp nb gb out v u = some (k, sp', nb', gb', out') ∧ F_M_short2 th (nI D.n) aL aH D.there D.fr D.to D.x D.y D.w D.h D.r D.pin D.nop lab num G v u = some (b, k, aL', aH', lab', num', G') ∧ (k = 0 → out' 0 = b) := by
  have n60 := ok.n60
  obtain ⟨l, hk⟩ := hK.kp
  have f10 : ((1 : Int32) = 0) = False := by decide
  have io : ("java/lang/IndexOutOfBoundsException" = cn_IO) = True := by decide
  have five : (5 : Int32) = nI 5 := by decide
  unfold F_L_short2 F_L_short2_0 F_X_short2 F_X_short2_0 F_X_checkWhat F_X_checkWhat_0 F_X_checkWhat_9 F_M_short2 F_M_short2_0 F_M_short2_17 F_M_short2_18 F_M_short2_30 F_M_short2_108
  rcases cn_idx (n := 5) (by decide) u with ⟨i, h1, h2, h3, h4, h5⟩ | hbad
  · have le4 : u ≤ 4 := by rw [h2, show (4 : Int32) = nI 4 by decide, cn_leI (by omega) (by omega)]; omega
    have n5 : ¬ (5 : Int32) ≤ u := by rw [five]; exact h5
    obtain ⟨nb', e1, hb⟩ := cn_collect ok hk nb
    obtain ⟨r, e2, s2⟩ := cn_losL ok hb (k := v) D.n 0 4096 (by omega) (by omega) (fun j hj => by omega)
    obtain ⟨r', lab', num', e3, s3, hn⟩ := cn_shortAt ok hk lab num v
    have e2 : F_X_leaderOfShort (nI D.n) nb' v = some r := e2
    simp only [if_neg h3, if_pos le4, if_neg n5, Option.bind_some, cn_sw, e1, e2, e3]
    rcases cn_selRM ok hk s2 s3 with ⟨rfl, rfl⟩ | ⟨g, g1, g2, g3, rfl, rfl⟩
    · simp only [if_true, f10, if_false, Option.bind_some, cn_sw, io]
      exact ⟨1, _, _, _, _, _, _, _, _, _, _, rfl, rfl, fun z => absurd z (by decide)⟩
    · obtain ⟨sg, lg⟩ := (hk.ld ok (by omega)).mp g2
      have hr := cn_rkb kept (i := g) (by omega)
      have nbg := hb g (by omega)
      have bb := cn_nbb ok l g
      have b0 : cn_nb D l g ≠ 0 := fun z => by
        unfold cn_qX at g3
        rw [z] at g3
        exact absurd g3 (by decide)
      have b1 : cn_nb D l g &&& (cn_nb D l g - 1) ≠ 0 := by
        unfold cn_qX cn_sh at g3
        exact of_decide_eq_true g3
      have b2 : cn_nb D l g &&& (cn_nb D l g - 1) < 2 ^ 20 := Nat.lt_of_le_of_lt Nat.and_le_left bb
      have eN : F_M_netsOf (nI D.n) D.there D.pin D.nop num' (nI (cn_rk kept g)) = some (nI (cn_nb D l g)) := by
        rw [cn_ntC ok hk hn hr, cn_nbL ok hk (by omega) g2]
      have rd : ∀ {α : Type} {x : Option α}, cn_rd (nI g) 60 x = x := cn_rdI (by omega) (by decide)
      have kg : Int32.toNatClampNeg (nI g) = g := cn_ki (by omega)
      have below : F_X_leadersBelow kept (nI g) = some (nI (cn_rk kept g)) := cn_below (by omega)
      rw [if_neg (cn_m1 (show g < 4096 by omega)), if_neg (cn_m1 hr), rd, kg, nbg, cn_m1w bb, eN]
      have hw : u = 0 ∨ u = 1 ∨ u = 2 ∨ u = 3 ∨ u = 4 := by
        rw [h2]
        have : i = 0 ∨ i = 1 ∨ i = 2 ∨ i = 3 ∨ i = 4 := by omega
        rcases this with rfl | rfl | rfl | rfl | rfl <;> decide
      obtain ⟨x1, y1, y1'⟩ := cn_low bb b0
      obtain ⟨x2, y2, y2'⟩ := cn_low b2 b1
      obtain ⟨p', q', code, sp', gb', G', j1, j2, j3, j4, j5⟩ := cn_join2 ok hk (g := g) ⟨sg, lg⟩ g3 aL aH hn sp gb G
      rw [cn_nmL ok hk sg lg] at j5
      obtain ⟨z1, z2⟩ := cn_pcQ j4 (by decide) (by decide) (by omega) (by omega)
      have w1 : (1 : Int32) ≠ 0 := by decide
      rcases hw with rfl | rfl | rfl | rfl | rfl
      · rw [if_pos rfl, below]
        simp only [if_true, Option.bind_some, cn_sw, cn_rd01]
        exact ⟨0, _, _, _, _, _, _, _, _, _, _, rfl, rfl, fun _ => rfl⟩
      · rw [if_neg (by decide), if_pos rfl, y1]
        simp only [if_true, if_false, f10, Option.bind_some, cn_sw, cn_rd01, y1']
        exact ⟨0, _, _, _, _, _, _, _, _, _, _, rfl, rfl, fun _ => rfl⟩
      · rw [if_neg (by decide), if_neg (by decide), if_pos rfl, y2]
        simp only [if_true, if_false, show ((2 : Int32) = 0) = False by decide, show ((2 : Int32) = 1) = False by decide, Option.bind_some, cn_sw, cn_rd01, cn_m1w bb, y2']
        exact ⟨0, _, _, _, _, _, _, _, _, _, _, rfl, rfl, fun _ => rfl⟩
      · rw [if_neg (by decide), if_neg (by decide), if_neg (by decide), j3]
        simp only [if_true, if_false, show ((3 : Int32) = 0) = False by decide, show ((3 : Int32) = 1) = False by decide, show ((3 : Int32) = 2) = False by decide, Option.bind_some, cn_sw, cn_rd01, j5, show (3 : Int32) - 3 = 0 by decide, z1]
        exact ⟨0, _, _, _, _, _, _, _, _, _, _, rfl, rfl, fun _ => rfl⟩
      · rw [if_neg (by decide), if_neg (by decide), if_neg (by decide), j3]
        simp only [if_true, if_false, show ((4 : Int32) = 0) = False by decide, show ((4 : Int32) = 1) = False by decide, show ((4 : Int32) = 2) = False by decide, show ((4 : Int32) = 3) = False by decide, Option.bind_some, cn_sw, cn_rd01, j5, show (4 : Int32) - 3 = 1 by decide, z2 1 w1]
        exact ⟨0, _, _, _, _, _, _, _, _, _, _, rfl, rfl, fun _ => rfl⟩
  · rcases hbad with ⟨h, _⟩ | ⟨h, h', h''⟩
    · simp only [if_pos h, if_true, f10, if_false, Option.bind_some, cn_sw, io]
      exact ⟨1, _, _, _, _, _, _, _, _, _, _, rfl, rfl, fun z => absurd z (by decide)⟩
    · have g4 : ¬ u ≤ 4 := fun z => by
        have a := Int32.le_iff_toInt_le.mp z
        have b := Int32.le_iff_toInt_le.mp h''
        have c4 : (4 : Int32).toInt = 4 := by decide
        have c5 : (nI 5).toInt = 5 := by decide
        omega
      have g5 : (5 : Int32) ≤ u := by rw [five]; exact h''
      simp only [if_neg h, if_neg g4, if_pos g5, if_true, f10, if_false, Option.bind_some, cn_sw, io]
      exact ⟨1, _, _, _, _, _, _, _, _, _, _, rfl, rfl, fun z => absurd z (by decide)⟩
