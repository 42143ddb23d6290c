/-! PURE: shape, via and pad, answered -/
theorem cn_shape {D : cn_Dat} (ok : D.ok) {kept : Nat → Int32} (hK : cn_Kept D kept) (L th : Int32) (out : Nat → Int64) (v : Int32) (x y w h : Int64) :
    ∃ (k : Int32) (D' : cn_Dat) (kept' : Nat → Int32) (out' : Nat → Int64) (b : Int32), F_L_shape 1 L (nI D.n) D.there D.fr D.to D.pin D.x D.y D.ri D.hi D.r kept out v x y w h = some (k, nI D'.n, D'.there, D'.fr, D'.to, D'.pin, D'.x, D'.y, D'.ri, D'.hi, D'.r, kept', out') ∧ F_M_shape th L (nI D.n) D.there D.fr D.to D.x D.y D.w D.h D.r D.pin v x y w h = some (b, k, nI D'.n, D'.there, D'.fr, D'.to, D'.x, D'.y, D'.w, D'.h, D'.r, D'.pin) ∧ (k = 0 → out' 0 = Int32.toInt64 b) ∧ D'.ok ∧ cn_Kept D' kept' ∧ D'.nop = D.nop := by
  have n60 := ok.n60
  have f10 : ((1 : Int32) = 0) = False := by decide
  have f20 : ((2 : Int32) = 0) = False := by decide
  have io : ("java/lang/IndexOutOfBoundsException" = cn_IO) = True := by decide
  have ia : ("java/lang/IllegalArgumentException" = cn_IA) = True := by decide
  have ii : ("java/lang/IllegalArgumentException" = cn_IO) = False := by decide
  unfold F_L_shape F_L_shape_0 F_X_shape F_X_shape_0 F_M_shape F_M_shape_0 F_M_shape_29 F_M_shape_30 F_M_shape_55 F_M_shape_84
  rcases cn_layv L v with ⟨a1, a2⟩ | ⟨a1, a2⟩
  · rcases cn_plcv x y with ⟨bx, bY, b1, b2⟩ | ⟨b1, b2⟩
    · rcases cn_sizv w with ⟨bw, c1, c2⟩ | ⟨c1, c2⟩
      · rcases cn_sizv h with ⟨bh, d1, d2⟩ | ⟨d1, d2⟩
        · rcases cn_fullv n60 with ⟨hn, e1⟩ | ⟨hn, e1⟩
          · have ok' : (D.app v v (-1) x y w h 0).ok := cn_appok ok hn (Or.inl rfl) bx bY bw bh (fun z => absurd rfl z)
            obtain ⟨g, e2, hK'⟩ := cn_take ok hK hn ok'
            simp only [a1, a2, b1, b2, c1, c2, d1, d2, e1, Option.bind_some, cn_sw, f10, f20, if_false, if_true, io, ia, ii, cn_rd01, cn_rectX hn v x y w h, cn_addM hn v v (-1) x y w h 0]
            rw [e2]
            exact ⟨0, D.app v v (-1) x y w h 0, g, _, _, rfl, rfl, fun _ => rfl, ok', hK', rfl⟩
          · simp only [a1, a2, b1, b2, c1, c2, d1, d2, e1, Option.bind_some, cn_sw, f10, f20, if_false, if_true, io, ia, ii, cn_rd01, cn_addF hn v v (-1) x y w h 0]
            exact ⟨0, D, kept, _, _, rfl, rfl, fun _ => rfl, ok, hK, rfl⟩
        · simp only [a1, a2, b1, b2, c1, c2, d1, d2, Option.bind_some, cn_sw, f10, f20, if_false, if_true, io, ia, ii, cn_rd01]
          exact ⟨2, D, kept, _, _, rfl, rfl, fun z => absurd z (by decide), ok, hK, rfl⟩
      · simp only [a1, a2, b1, b2, c1, c2, Option.bind_some, cn_sw, f10, f20, if_false, if_true, io, ia, ii, cn_rd01]
        exact ⟨2, D, kept, _, _, rfl, rfl, fun z => absurd z (by decide), ok, hK, rfl⟩
    · simp only [a1, a2, b1, b2, Option.bind_some, cn_sw, f10, f20, if_false, if_true, io, ia, ii, cn_rd01]
      exact ⟨2, D, kept, _, _, rfl, rfl, fun z => absurd z (by decide), ok, hK, rfl⟩
  · have q : ∀ s0 : Int32, True := fun _ => trivial
    rcases cn_plcv x y with ⟨bx, bY, b1, b2⟩ | ⟨b1, b2⟩
    · rcases cn_sizv w with ⟨bw, c1, c2⟩ | ⟨c1, c2⟩
      · rcases cn_sizv h with ⟨bh, d1, d2⟩ | ⟨d1, d2⟩
        · simp only [a1, a2, b1, b2, c1, c2, d1, d2, Option.bind_some, cn_sw, f10, f20, if_false, if_true, io, ia, ii, cn_rd01]
          exact ⟨1, D, kept, _, _, rfl, rfl, fun z => absurd z (by decide), ok, hK, rfl⟩
        · simp only [a1, a2, b1, b2, c1, c2, d1, d2, Option.bind_some, cn_sw, f10, f20, if_false, if_true, io, ia, ii, cn_rd01]
          exact ⟨1, D, kept, _, _, rfl, rfl, fun z => absurd z (by decide), ok, hK, rfl⟩
      · simp only [a1, a2, b1, b2, c1, c2, Option.bind_some, cn_sw, f10, f20, if_false, if_true, io, ia, ii, cn_rd01]
        exact ⟨1, D, kept, _, _, rfl, rfl, fun z => absurd z (by decide), ok, hK, rfl⟩
    · simp only [a1, a2, b1, b2, Option.bind_some, cn_sw, f10, f20, if_false, if_true, io, ia, ii, cn_rd01]
      exact ⟨1, D, kept, _, _, rfl, rfl, fun z => absurd z (by decide), ok, hK, rfl⟩
theorem cn_zero64 : 0 ≤ (0 : Int64).toInt ∧ (0 : Int64).toInt ≤ 100000 := by decide
theorem cn_via {D : cn_Dat} (ok : D.ok) {kept : Nat → Int32} (hK : cn_Kept D kept) (L th : Int32) (out : Nat → Int64) (v u : Int32) (x y r : Int64) :
    ∃ (k : Int32) (D' : cn_Dat) (kept' : Nat → Int32) (out' : Nat → Int64) (b : Int32), F_L_via 1 L (nI D.n) D.there D.fr D.to D.pin D.x D.y D.ri D.hi D.r kept out v u x y r = some (k, nI D'.n, D'.there, D'.fr, D'.to, D'.pin, D'.x, D'.y, D'.ri, D'.hi, D'.r, kept', out') ∧ F_M_via th L (nI D.n) D.there D.fr D.to D.x D.y D.w D.h D.r D.pin v u x y r = some (b, k, nI D'.n, D'.there, D'.fr, D'.to, D'.x, D'.y, D'.w, D'.h, D'.r, D'.pin) ∧ (k = 0 → out' 0 = Int32.toInt64 b) ∧ D'.ok ∧ cn_Kept D' kept' ∧ D'.nop = D.nop := by
  have n60 := ok.n60
  have f10 : ((1 : Int32) = 0) = False := by decide
  have f20 : ((2 : Int32) = 0) = False := by decide
  have io : ("java/lang/IndexOutOfBoundsException" = cn_IO) = True := by decide
  have ia : ("java/lang/IllegalArgumentException" = cn_IA) = True := by decide
  have ii : ("java/lang/IllegalArgumentException" = cn_IO) = False := by decide
  unfold F_L_via F_L_via_0 F_X_via F_X_via_0 F_M_via F_M_via_0 F_M_via_26 F_M_via_27 F_M_via_46 F_M_via_60 F_M_via_88
  rcases cn_layv L v with ⟨a1, a2⟩ | ⟨a1, a2⟩
  · rcases cn_layv L u with ⟨a3, a4⟩ | ⟨a3, a4⟩
    · by_cases hu : v ≤ u
      · have hu' : ¬ u < v := fun z => Int32.not_le.mpr z hu
        rcases cn_plcv x y with ⟨bx, bY, b1, b2⟩ | ⟨b1, b2⟩
        · rcases cn_sizv r with ⟨bw, c1, c2⟩ | ⟨c1, c2⟩
          · rcases cn_fullv n60 with ⟨hn, e1⟩ | ⟨hn, e1⟩
            · have ok' : (D.app v u (-1) x y 0 0 r).ok := cn_appok ok hn (Or.inl rfl) bx bY cn_zero64 cn_zero64 (fun z => absurd rfl z)
              obtain ⟨g, e2, hK'⟩ := cn_take ok hK hn ok'
              simp only [a1, a2, a3, a4, if_pos hu, if_neg hu', b1, b2, c1, c2, e1, Option.bind_some, cn_sw, f10, f20, if_false, if_true, io, ia, ii, cn_rd01, cn_discX hn (-1) v u x y r, cn_addM hn v u (-1) x y 0 0 r]
              rw [e2]
              exact ⟨0, D.app v u (-1) x y 0 0 r, g, _, _, rfl, rfl, fun _ => rfl, ok', hK', rfl⟩
            · simp only [a1, a2, a3, a4, if_pos hu, if_neg hu', b1, b2, c1, c2, e1, Option.bind_some, cn_sw, f10, f20, if_false, if_true, io, ia, ii, cn_rd01, cn_addF hn v u (-1) x y 0 0 r]
              exact ⟨0, D, kept, _, _, rfl, rfl, fun _ => rfl, ok, hK, rfl⟩
          · simp only [a1, a2, a3, a4, if_pos hu, if_neg hu', b1, b2, c1, c2, Option.bind_some, cn_sw, f10, f20, if_false, if_true, io, ia, ii, cn_rd01]
            exact ⟨2, D, kept, _, _, rfl, rfl, fun z => absurd z (by decide), ok, hK, rfl⟩
        · simp only [a1, a2, a3, a4, if_pos hu, if_neg hu', b1, b2, Option.bind_some, cn_sw, f10, f20, if_false, if_true, io, ia, ii, cn_rd01]
          exact ⟨2, D, kept, _, _, rfl, rfl, fun z => absurd z (by decide), ok, hK, rfl⟩
      · have hu' : u < v := Int32.not_le.mp hu
        simp only [a1, a2, a3, a4, if_neg hu, if_pos hu', Option.bind_some, cn_sw, f10, f20, if_false, if_true, io, ia, ii, cn_rd01]
        exact ⟨2, D, kept, _, _, rfl, rfl, fun z => absurd z (by decide), ok, hK, rfl⟩
    · by_cases hu : u < v
      · simp only [a1, a2, a3, a4, if_pos hu, Option.bind_some, cn_sw, f10, f20, if_false, if_true, io, ia, ii, cn_rd01]
        exact ⟨1, D, kept, _, _, rfl, rfl, fun z => absurd z (by decide), ok, hK, rfl⟩
      · rcases cn_plcv x y with ⟨bx, bY, b1, b2⟩ | ⟨b1, b2⟩
        · rcases cn_sizv r with ⟨bw, c1, c2⟩ | ⟨c1, c2⟩
          · simp only [a1, a2, a3, a4, if_neg hu, b1, b2, c1, c2, Option.bind_some, cn_sw, f10, f20, if_false, if_true, io, ia, ii, cn_rd01]
            exact ⟨1, D, kept, _, _, rfl, rfl, fun z => absurd z (by decide), ok, hK, rfl⟩
          · simp only [a1, a2, a3, a4, if_neg hu, b1, b2, c1, c2, Option.bind_some, cn_sw, f10, f20, if_false, if_true, io, ia, ii, cn_rd01]
            exact ⟨1, D, kept, _, _, rfl, rfl, fun z => absurd z (by decide), ok, hK, rfl⟩
        · simp only [a1, a2, a3, a4, if_neg hu, b1, b2, Option.bind_some, cn_sw, f10, f20, if_false, if_true, io, ia, ii, cn_rd01]
          exact ⟨1, D, kept, _, _, rfl, rfl, fun z => absurd z (by decide), ok, hK, rfl⟩
  · by_cases hu : u < v
    · simp only [a1, a2, if_pos hu, Option.bind_some, cn_sw, f10, f20, if_false, if_true, io, ia, ii, cn_rd01]
      exact ⟨1, D, kept, _, _, rfl, rfl, fun z => absurd z (by decide), ok, hK, rfl⟩
    · rcases cn_plcv x y with ⟨bx, bY, b1, b2⟩ | ⟨b1, b2⟩
      · rcases cn_sizv r with ⟨bw, c1, c2⟩ | ⟨c1, c2⟩
        · simp only [a1, a2, if_neg hu, b1, b2, c1, c2, Option.bind_some, cn_sw, f10, f20, if_false, if_true, io, ia, ii, cn_rd01]
          exact ⟨1, D, kept, _, _, rfl, rfl, fun z => absurd z (by decide), ok, hK, rfl⟩
        · simp only [a1, a2, if_neg hu, b1, b2, c1, c2, Option.bind_some, cn_sw, f10, f20, if_false, if_true, io, ia, ii, cn_rd01]
          exact ⟨1, D, kept, _, _, rfl, rfl, fun z => absurd z (by decide), ok, hK, rfl⟩
      · simp only [a1, a2, if_neg hu, b1, b2, Option.bind_some, cn_sw, f10, f20, if_false, if_true, io, ia, ii, cn_rd01]
        exact ⟨1, D, kept, _, _, rfl, rfl, fun z => absurd z (by decide), ok, hK, rfl⟩
theorem cn_pad {D : cn_Dat} (ok : D.ok) {kept : Nat → Int32} (hK : cn_Kept D kept) (L th : Int32) (out : Nat → Int64) (v u : Int32) (x y r : Int64) :
    ∃ (k : Int32) (D' : cn_Dat) (kept' : Nat → Int32) (out' : Nat → Int64) (b : Int32), F_L_pad 1 L (nI D.n) D.there D.fr D.to D.pin D.x D.y D.ri D.hi D.r kept out v u x y r = some (k, nI D'.n, D'.there, D'.fr, D'.to, D'.pin, D'.x, D'.y, D'.ri, D'.hi, D'.r, kept', out') ∧ F_M_pad th L (nI D.n) D.there D.fr D.to D.x D.y D.w D.h D.r D.pin v u x y r = some (b, k, nI D'.n, D'.there, D'.fr, D'.to, D'.x, D'.y, D'.w, D'.h, D'.r, D'.pin) ∧ (k = 0 → out' 0 = Int32.toInt64 b) ∧ D'.ok ∧ cn_Kept D' kept' ∧ D'.nop = D.nop := by
  have n60 := ok.n60
  have f10 : ((1 : Int32) = 0) = False := by decide
  have f20 : ((2 : Int32) = 0) = False := by decide
  have io : ("java/lang/IndexOutOfBoundsException" = cn_IO) = True := by decide
  have ia : ("java/lang/IllegalArgumentException" = cn_IA) = True := by decide
  have ii : ("java/lang/IllegalArgumentException" = cn_IO) = False := by decide
  unfold F_L_pad F_L_pad_0 F_X_pad F_X_pad_0 F_M_pad F_M_pad_0 F_M_pad_16 F_M_pad_41 F_M_pad_42 F_M_pad_70
  rcases cn_pinv v with ⟨p, hp, vp, a1, a2⟩ | ⟨a1, a2⟩
  · rcases cn_layv L u with ⟨a3, a4⟩ | ⟨a3, a4⟩
    · rcases cn_plcv x y with ⟨bx, bY, b1, b2⟩ | ⟨b1, b2⟩
      · rcases cn_sizv r with ⟨bw, c1, c2⟩ | ⟨c1, c2⟩
        · rcases cn_fullv n60 with ⟨hn, e1⟩ | ⟨hn, e1⟩
          · have ok' : (D.app u u v x y 0 0 r).ok := cn_appok ok hn (Or.inr ⟨p, hp, vp⟩) bx bY cn_zero64 cn_zero64 (fun _ => ⟨rfl, rfl⟩)
            obtain ⟨g, e2, hK'⟩ := cn_take ok hK hn ok'
            simp only [a1, a2, a3, a4, b1, b2, c1, c2, e1, Option.bind_some, cn_sw, f10, f20, if_false, if_true, io, ia, ii, cn_rd01, cn_discX hn v u u x y r, cn_addM hn u u v x y 0 0 r]
            rw [e2]
            exact ⟨0, D.app u u v x y 0 0 r, g, _, _, rfl, rfl, fun _ => rfl, ok', hK', rfl⟩
          · simp only [a1, a2, a3, a4, b1, b2, c1, c2, e1, Option.bind_some, cn_sw, f10, f20, if_false, if_true, io, ia, ii, cn_rd01, cn_addF hn u u v x y 0 0 r]
            exact ⟨0, D, kept, _, _, rfl, rfl, fun _ => rfl, ok, hK, rfl⟩
        · simp only [a1, a2, a3, a4, b1, b2, c1, c2, Option.bind_some, cn_sw, f10, f20, if_false, if_true, io, ia, ii, cn_rd01]
          exact ⟨2, D, kept, _, _, rfl, rfl, fun z => absurd z (by decide), ok, hK, rfl⟩
      · simp only [a1, a2, a3, a4, b1, b2, Option.bind_some, cn_sw, f10, f20, if_false, if_true, io, ia, ii, cn_rd01]
        exact ⟨2, D, kept, _, _, rfl, rfl, fun z => absurd z (by decide), ok, hK, rfl⟩
    · simp only [a1, a2, a3, a4, Option.bind_some, cn_sw, f10, f20, if_false, if_true, io, ia, ii, cn_rd01]
      exact ⟨1, D, kept, _, _, rfl, rfl, fun z => absurd z (by decide), ok, hK, rfl⟩
  · simp only [a1, a2, Option.bind_some, cn_sw, f10, f20, if_false, if_true, io, ia, ii, cn_rd01]
    exact ⟨1, D, kept, _, _, rfl, rfl, fun z => absurd z (by decide), ok, hK, rfl⟩
