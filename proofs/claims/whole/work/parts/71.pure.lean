/-! PURE: netOf, plans, drop, exact -/
theorem cn_netOf {D : cn_Dat} (ok : D.ok) {kept : Nat → Int32} (hK : cn_Kept D kept) (th : Int32) (lab num : Nat → Int32) (out : Nat → Int64) (v : Int32) :
    ∃ k out' b lab' num', F_L_netOf 1 (nI D.n) kept out v = some (k, out') ∧ F_M_netOf th (nI D.n) D.there D.fr D.to D.x D.y D.w D.h D.r lab num v = some (b, k, lab', num') ∧ (k = 0 → out' 0 = Int32.toInt64 b) := by
  have n60 := ok.n60
  obtain ⟨l, hk⟩ := hK.kp
  have f10 : ((1 : Int32) = 0) = False := by decide
  have io : ("java/lang/IndexOutOfBoundsException" = cn_IO) = True := by decide
  unfold F_L_netOf F_L_netOf_0 F_X_netOf F_X_netOf_0 F_X_netOf_32 F_X_checkPiece F_X_checkPiece_0 F_X_checkPiece_15 F_M_netOf F_M_netOf_0 F_M_netOf_14 F_M_isPiece F_M_isPiece_0 F_M_isPiece_16 F_M_isPiece_17
  rcases cn_idx (n := D.n) (by omega) v with ⟨i, h1, h2, h3, h4, h5⟩ | ⟨h, _⟩ | ⟨h, h', h''⟩
  · obtain ⟨g, num', e, hn⟩ := cn_nets ok hk lab num
    simp only [if_neg h3, if_pos h4, if_neg h5, cn_bl1, Option.bind_some, cn_sw, f10, if_false, if_true, e]
    rw [h2, cn_rdI (by omega) (by decide), cn_ki (by omega)]
    by_cases s : D.S i
    · have li := hk.le i s
      rw [cn_has1 (by omega) (by rw [hk.yes i s]; exact cn_m1 (by omega)), Option.bind_some, if_neg (by decide), cn_leaderOf (by omega), Option.bind_some, hk.yes i s, cn_below (by omega)]
      simp only [Option.bind_some, cn_rd01]
      refine ⟨0, _, _, _, _, rfl, rfl, fun _ => ?_⟩
      rw [hn i h1, hk.nm ok s]
      rfl
    · rw [cn_has0 (by omega) (hk.no i (by omega) s), Option.bind_some, if_pos rfl]
      simp only [Option.bind_some, cn_rd01]
      refine ⟨0, _, _, _, _, rfl, rfl, fun _ => ?_⟩
      rw [hn i h1, hk.nm0 (by omega) s]
      rfl
  · simp only [if_pos h, cn_bl0, Option.bind_some, cn_sw, io, f10, if_false, if_true]
    exact ⟨1, _, _, _, _, rfl, rfl, fun z => absurd z (by decide)⟩
  · simp only [if_neg h, if_neg h', if_pos h'', cn_bl0, Option.bind_some, cn_sw, io, f10, if_false, if_true]
    exact ⟨1, _, _, _, _, rfl, rfl, fun z => absurd z (by decide)⟩
theorem cn_upsame {f : Nat → Int32} {k : Nat} {v : Int32} (h : f k = v) : upd f k v = f := by
  funext j
  rw [cn_up]
  by_cases e : j = k
  · rw [if_pos e, e, h]
  · rw [if_neg e]
theorem cn_pinv (v : Int32) : (∃ p, p < 40 ∧ v = nI p ∧ F_X_checkPin v = some (Sum.inl ()) ∧ F_M_isPin v = some 1) ∨ (F_X_checkPin v = some (Sum.inr "java/lang/IndexOutOfBoundsException") ∧ F_M_isPin v = some 0) := by
  unfold F_X_checkPin F_X_checkPin_0 F_X_checkPin_10 F_M_isPin F_M_isPin_0 F_M_isPin_14 F_M_isPin_15
  rw [cn_40]
  rcases cn_idx (n := 40) (by omega) v with ⟨i, h1, h2, h3, h4, h5⟩ | ⟨h, _⟩ | ⟨h, h', h''⟩
  · exact Or.inl ⟨i, h1, h2, by rw [if_neg h3, if_pos h4], by rw [if_neg h3, if_neg h5]; rfl⟩
  · exact Or.inr ⟨by rw [if_pos h], by rw [if_pos h]; rfl⟩
  · exact Or.inr ⟨by rw [if_neg h, if_neg h'], by rw [if_neg h, if_pos h'']; rfl⟩
theorem cn_plans {D : cn_Dat} (ok : D.ok) (th : Int32) (out : Nat → Int64) (v u : Int32) :
    ∃ k nop' out' b, F_L_plans 1 D.nop out v u = some (k, nop', out') ∧ F_M_plans th D.nop v u = some (b, k, nop') ∧ (k = 0 → out' 0 = if b = 0 then 0 else 1) ∧ ∀ j, nop' j = -1 ∨ ∃ t, t < 20 ∧ nop' j = nI t := by
  have f10 : ((1 : Int32) = 0) = False := by decide
  have f20 : ((2 : Int32) = 0) = False := by decide
  have io : ("java/lang/IndexOutOfBoundsException" = cn_IO) = True := by decide
  have ia : ("java/lang/IllegalArgumentException" = cn_IA) = True := by decide
  have ii : ("java/lang/IllegalArgumentException" = cn_IO) = False := by decide
  unfold F_L_plans F_L_plans_0 F_L_plans_16 F_X_plans F_X_plans_0 F_X_plans_26 F_X_plans_41 F_M_plans F_M_plans_0 F_M_plans_24 F_M_plans_29 F_M_plans_49
  rcases cn_pinv v with ⟨p, hp, rfl, e1, e2⟩ | ⟨e1, e2⟩
  · have rd : ∀ {α : Type} {x : Option α}, cn_rd (nI p) 40 x = x := cn_rdI hp (by decide)
    have good : (u = -1 ∨ ∃ t, t < 20 ∧ u = nI t) → ∀ j, upd D.nop p u j = -1 ∨ ∃ t, t < 20 ∧ upd D.nop p u j = nI t := fun hu j => by
      rw [cn_up]
      by_cases e : j = p
      · rw [if_pos e]; exact hu
      · rw [if_neg e]; exact ok.nop20 j
    rw [e1, e2]
    simp only [rd, cn_ki (show p < 4096 by omega), Option.bind_some, cn_sw, f10, if_false]
    by_cases um : u = -1
    · simp only [if_pos um]
      by_cases same : D.nop p = u
      · simp only [if_pos same, cn_bl0, if_true, cn_rd01, Option.bind_some, cn_upsame same]
        exact ⟨0, _, _, _, rfl, rfl, fun _ => rfl, ok.nop20⟩
      · simp only [if_neg same, cn_bl1, if_true, f10, if_false, cn_rd01, Option.bind_some]
        exact ⟨0, _, _, _, rfl, rfl, fun _ => rfl, good (Or.inl um)⟩
    · rcases cn_netv u with ⟨t, ht, ut, e3, e4⟩ | ⟨e3, e4⟩
      · simp only [if_neg um, e3, e4, Option.bind_some, f10, if_false]
        by_cases same : D.nop p = u
        · simp only [if_pos same, cn_bl0, if_true, cn_rd01, Option.bind_some, cn_upsame same]
          exact ⟨0, _, _, _, rfl, rfl, fun _ => rfl, ok.nop20⟩
        · simp only [if_neg same, cn_bl1, if_true, f10, if_false, cn_rd01, Option.bind_some]
          exact ⟨0, _, _, _, rfl, rfl, fun _ => rfl, good (Or.inr ⟨t, ht, ut⟩)⟩
      · simp only [if_neg um, e3, e4, Option.bind_some, if_true, f20, if_false, ia, ii]
        exact ⟨2, _, _, _, rfl, rfl, fun z => absurd z (by decide), ok.nop20⟩
  · rw [e1, e2]
    simp only [Option.bind_some, cn_sw, if_true, f10, if_false, io]
    exact ⟨1, _, _, _, rfl, rfl, fun z => absurd z (by decide), ok.nop20⟩
abbrev cn_Dat.wt (D : cn_Dat) (there : Nat → Int32) : cn_Dat := cn_Dat.mk D.n there D.fr D.to D.pin D.nop D.x D.y D.w D.h D.r
abbrev cn_Dat.wp (D : cn_Dat) (nop : Nat → Int32) : cn_Dat := cn_Dat.mk D.n D.there D.fr D.to D.pin nop D.x D.y D.w D.h D.r
theorem cn_dropL {D : cn_Dat} (ok : D.ok) {kept : Nat → Int32} (hK : cn_Kept D kept) (sp : Nat → Int32) (th : Int32) (out : Nat → Int64) (v : Int32) :
    ∃ k there' kept' sp' out' b, F_L_drop 1 (nI D.n) D.there D.fr D.to D.x D.y D.ri D.hi D.r kept sp out v = some (k, there', kept', sp', out') ∧ F_M_drop th (nI D.n) D.there v = some (b, k, there') ∧ (k = 0 → out' 0 = if b = 0 then 0 else 1) ∧ (D.wt there').ok ∧ cn_Kept (D.wt there') kept' := by
  have n60 := ok.n60
  have f10 : ((1 : Int32) = 0) = False := by decide
  have io : ("java/lang/IndexOutOfBoundsException" = cn_IO) = True := by decide
  unfold F_L_drop F_L_drop_0 F_L_drop_15 F_X_drop F_X_drop_0 F_X_checkPiece F_X_checkPiece_0 F_X_checkPiece_15 F_M_drop F_M_drop_0 F_M_drop_14 F_M_drop_33 F_M_isPiece F_M_isPiece_0 F_M_isPiece_16 F_M_isPiece_17 F_P_isThere F_P_isThere_0 F_P_remove F_P_remove_0
  rcases cn_idx (n := D.n) (by omega) v with ⟨i, h1, h2, h3, h4, h5⟩ | ⟨h, _⟩ | ⟨h, h', h''⟩
  · have rd : ∀ {α : Type} {x : Option α}, cn_rd (nI i) 60 x = x := cn_rdI (by omega) (by decide)
    simp only [if_neg h3, if_pos h4, if_neg h5, cn_bl1, Option.bind_some, cn_sw, f10, if_false, if_true]
    rw [h2]
    simp only [rd, cn_ki (show i < 4096 by omega), cn_nar0]
    rcases ok.th i with s | s
    · rw [s]
      simp only [cn_bl0, Option.bind_some, if_true, cn_rd01]
      exact ⟨0, _, _, _, _, _, rfl, rfl, fun _ => rfl, ok, hK⟩
    · have si : D.S i := by show D.there i ≠ 0; rw [s]; decide
      obtain ⟨g, sp', e, hK'⟩ := cn_drop ok hK sp si
      rw [s, e]
      simp only [cn_bl1, Option.bind_some, f10, if_false, cn_rd01]
      refine ⟨0, _, _, _, _, _, rfl, rfl, fun _ => rfl, ⟨ok.n60, fun j => ?_, fun j hj => ?_, ok.pin40, ok.nop20, ok.bx, ok.bY, ok.bw, ok.bh, ok.disc⟩, hK'⟩
      · show upd D.there i 0 j = 0 ∨ upd D.there i 0 j = 1
        rw [cn_up]
        by_cases e : j = i
        · rw [if_pos e]; exact Or.inl rfl
        · rw [if_neg e]; exact ok.th j
      · show upd D.there i 0 j = 0
        rw [cn_up]
        by_cases e : j = i
        · rw [if_pos e]
        · rw [if_neg e]; exact ok.out j hj
  · simp only [if_pos h, cn_bl0, Option.bind_some, cn_sw, io, f10, if_false, if_true]
    exact ⟨1, _, _, _, _, _, rfl, rfl, fun z => absurd z (by decide), ok, hK⟩
  · simp only [if_neg h, if_neg h', if_pos h'', cn_bl0, Option.bind_some, cn_sw, io, f10, if_false, if_true]
    exact ⟨1, _, _, _, _, _, rfl, rfl, fun z => absurd z (by decide), ok, hK⟩
/-! exact -/
theorem cn_counts {D : cn_Dat} (ok : D.ok) {kept : Nat → Int32} {l : Nat → Nat} (hk : cn_KP D kept l) : ∃ C : Nat → Nat, ∀ t, t < 20 → C t ≤ 60 ∧
    (∀ (ac apc : Int32) (f : Nat → Int64) (pads re : Nat → Int32) (nr : Nat → Int64), ∃ m' f' pads' re' nr', F_X_drawAirlines D.nop (nI D.n) D.pin D.x D.y D.ri D.hi kept ac apc f pads re nr (nI t) = some (nI (C t), m', f', pads', re', nr')) ∧
    (∀ (aS : Int64) (aL aH : Int32) (lab num G : Nat → Int32), ∃ aS' aL' aH' lab' num' G', F_M_countOpens (nI D.n) aS aL aH D.there D.fr D.to D.x D.y D.w D.h D.r D.pin D.nop lab num G (nI t) = some (nI (C t), aS', aL', aH', lab', num', G')) := by
  suffices key : ∀ t, ∃ c : Nat, t < 20 → c ≤ 60 ∧
    (∀ (ac apc : Int32) (f : Nat → Int64) (pads re : Nat → Int32) (nr : Nat → Int64), ∃ m' f' pads' re' nr', F_X_drawAirlines D.nop (nI D.n) D.pin D.x D.y D.ri D.hi kept ac apc f pads re nr (nI t) = some (nI c, m', f', pads', re', nr')) ∧
    (∀ (aS : Int64) (aL aH : Int32) (lab num G : Nat → Int32), ∃ aS' aL' aH' lab' num' G', F_M_countOpens (nI D.n) aS aL aH D.there D.fr D.to D.x D.y D.w D.h D.r D.pin D.nop lab num G (nI t) = some (nI c, aS', aL', aH', lab', num', G')) from
    ⟨fun t => Classical.choose (key t), fun t => Classical.choose_spec (key t)⟩
  intro t
  by_cases ht : t < 20
  · obtain ⟨c, m', f', pads', re', nr', e3, hL⟩ := cn_drawX ok hk ht 0 0 (fun _ => 0) (fun _ => 0) (fun _ => 0) (fun _ => 0)
    refine ⟨c, fun _ => ⟨hL.1, fun ac apc f pads re nr => ?_, fun aS aL aH lab num G => cn_countOpens ok hk ht hL aS aL aH lab num G⟩⟩
    obtain ⟨c2, m2, f2, pads2, re2, nr2, e4, hL2⟩ := cn_drawX ok hk ht ac apc f pads re nr
    obtain ⟨_, _, _, _, _, _, q1⟩ := cn_countOpens ok hk ht hL 0 0 0 (fun _ => 0) (fun _ => 0) (fun _ => 0)
    obtain ⟨_, _, _, _, _, _, q2⟩ := cn_countOpens ok hk ht hL2 0 0 0 (fun _ => 0) (fun _ => 0) (fun _ => 0)
    rw [q1] at q2
    have e := congrArg Prod.fst (Option.some.inj q2)
    have h1 := hL.1
    have h2 := hL2.1
    rw [cn_eqI (by omega) (by omega)] at e
    subst e
    exact ⟨m2, f2, pads2, re2, nr2, e4⟩
  · exact ⟨0, fun z => absurd z ht⟩
theorem cn_exXL {D : cn_Dat} {kept : Nat → Int32} {C : Nat → Nat} (hC : ∀ t, t < 20 → C t ≤ 60 ∧ ∀ (ac apc : Int32) (f : Nat → Int64) (pads re : Nat → Int32) (nr : Nat → Int64), ∃ m' f' pads' re' nr', F_X_drawAirlines D.nop (nI D.n) D.pin D.x D.y D.ri D.hi kept ac apc f pads re nr (nI t) = some (nI (C t), m', f', pads', re', nr')) (nb : Nat → Int32) :
    ∀ (d t fuel : Nat) (ac apc : Int32) (f : Nat → Int64) (pads re : Nat → Int32) (nr : Nat → Int64), t + d = 20 → d < fuel → ∃ r ac' apc' f' pads' re' nr', F_X_exact_20 fuel D.nop (nI D.n) D.there D.pin D.x D.y D.ri D.hi kept ac apc f pads re nr nb (nI t) = some (r, ac', apc', f', pads', re', nr', nb) ∧ (r = 1 ∧ (∀ u, t ≤ u → u < 20 → C u = 0) ∨ r = 0 ∧ ∃ u, t ≤ u ∧ u < 20 ∧ C u ≠ 0) := by
  intro d
  induction d with
  | zero =>
    intro t fuel ac apc f pads re nr ht hf
    obtain ⟨k, rfl⟩ : ∃ k, fuel = k + 1 := ⟨fuel - 1, by omega⟩
    rw [F_X_exact_20, cn_20, if_pos ((cn_leI (by omega) (by omega)).mpr (by omega))]
    exact ⟨1, _, _, _, _, _, _, rfl, Or.inl ⟨rfl, fun u h1 h2 => by omega⟩⟩
  | succ d ih =>
    intro t fuel ac apc f pads re nr ht hf
    obtain ⟨k, rfl⟩ : ∃ k, fuel = k + 1 := ⟨fuel - 1, by omega⟩
    obtain ⟨cb, h⟩ := hC t (by omega)
    obtain ⟨m', f', pads', re', nr', e⟩ := h ac apc f pads re nr
    rw [F_X_exact_20, cn_20, if_neg (fun z => by rw [cn_leI (by omega) (by omega)] at z; omega), e, Option.bind_some]
    by_cases z : C t = 0
    · rw [if_pos (by show nI (C t) = 0; rw [z]; rfl), nI_1]
      obtain ⟨r, a1, a2, a3, a4, a5, a6, e2, h2⟩ := ih (t + 1) k (nI (C t)) m' f' pads' re' nr' (by omega) (by omega)
      refine ⟨r, a1, a2, a3, a4, a5, a6, e2, ?_⟩
      rcases h2 with ⟨h3, h4⟩ | ⟨h3, u, h4, h5, h6⟩
      · refine Or.inl ⟨h3, fun u h5 h6 => ?_⟩
        rcases Nat.lt_or_ge t u with w | w
        · exact h4 u w h6
        · obtain rfl : u = t := by omega
          exact z
      · exact Or.inr ⟨h3, u, by omega, h5, h6⟩
    · rw [if_neg (nI_ne0 (by omega) (by omega))]
      exact ⟨0, _, _, _, _, _, _, rfl, Or.inr ⟨rfl, t, Nat.le_refl _, by omega, z⟩⟩
theorem cn_exM1 {D : cn_Dat} {th : Int32} : ∀ (d t fuel : Nat) (aS : Int64) (aL aH : Int32) (lab num G : Nat → Int32), t + d = 20 → d < fuel →
    F_M_exact_9 fuel th (nI D.n) aS aL aH D.there D.fr D.to D.x D.y D.w D.h D.r D.pin D.nop lab num G 1 (nI t) = some (0, th, aS, aL, aH, lab, num, G) := by
  intro d
  induction d with
  | zero =>
    intro t fuel aS aL aH lab num G ht hf
    obtain ⟨k, rfl⟩ : ∃ k, fuel = k + 1 := ⟨fuel - 1, by omega⟩
    rw [F_M_exact_9, cn_20, if_pos ((cn_leI (by omega) (by omega)).mpr (by omega)), if_neg (by decide)]
    rfl
  | succ d ih =>
    intro t fuel aS aL aH lab num G ht hf
    obtain ⟨k, rfl⟩ : ∃ k, fuel = k + 1 := ⟨fuel - 1, by omega⟩
    rw [F_M_exact_9, cn_20, if_neg (fun z => by rw [cn_leI (by omega) (by omega)] at z; omega), if_neg (by decide)]
    unfold F_M_exact_27 F_M_exact_32
    rw [nI_1]
    exact ih (t + 1) k aS aL aH lab num G (by omega) (by omega)
theorem cn_exM0 {D : cn_Dat} {C : Nat → Nat} (hC : ∀ t, t < 20 → C t ≤ 60 ∧ ∀ (aS : Int64) (aL aH : Int32) (lab num G : Nat → Int32), ∃ aS' aL' aH' lab' num' G', F_M_countOpens (nI D.n) aS aL aH D.there D.fr D.to D.x D.y D.w D.h D.r D.pin D.nop lab num G (nI t) = some (nI (C t), aS', aL', aH', lab', num', G'))
    {s u0 : Int32} (hS : ∀ lab num, ∃ lab' num', F_M_countShorts (nI D.n) D.there D.fr D.to D.x D.y D.w D.h D.r D.pin D.nop lab num = some (s, lab', num')) (hU : F_M_unreachedAt (nI D.n) D.there D.pin D.nop 0 = some u0) {th : Int32} :
    ∀ (d t fuel : Nat) (aS : Int64) (aL aH : Int32) (lab num G : Nat → Int32), t + d = 20 → d < fuel → ∃ r aS' aL' aH' lab' num' G', F_M_exact_9 fuel th (nI D.n) aS aL aH D.there D.fr D.to D.x D.y D.w D.h D.r D.pin D.nop lab num G 0 (nI t) = some (r, th, aS', aL', aH', lab', num', G') ∧ (r = 1 ∧ s = 0 ∧ u0 = -1 ∧ (∀ u, t ≤ u → u < 20 → C u = 0) ∨ r = 0 ∧ (s ≠ 0 ∨ u0 ≠ -1 ∨ ∃ u, t ≤ u ∧ u < 20 ∧ C u ≠ 0)) := by
  intro d
  induction d with
  | zero =>
    intro t fuel aS aL aH lab num G ht hf
    obtain ⟨k, rfl⟩ : ∃ k, fuel = k + 1 := ⟨fuel - 1, by omega⟩
    obtain ⟨lab', num', e⟩ := hS lab num
    rw [F_M_exact_9, cn_20, if_pos ((cn_leI (by omega) (by omega)).mpr (by omega)), if_pos rfl, e, Option.bind_some]
    unfold F_M_exact_63 F_M_exact_64
    rw [cn_bl0, cn_bl1]
    by_cases z : s = 0
    · rw [if_pos z, hU, Option.bind_some]
      by_cases w : u0 = -1
      · rw [if_pos w]; exact ⟨1, _, _, _, _, _, _, rfl, Or.inl ⟨rfl, z, w, fun u h1 h2 => by omega⟩⟩
      · rw [if_neg w]; exact ⟨0, _, _, _, _, _, _, rfl, Or.inr ⟨rfl, Or.inr (Or.inl w)⟩⟩
    · rw [if_neg z]; exact ⟨0, _, _, _, _, _, _, rfl, Or.inr ⟨rfl, Or.inl z⟩⟩
  | succ d ih =>
    intro t fuel aS aL aH lab num G ht hf
    obtain ⟨k, rfl⟩ : ∃ k, fuel = k + 1 := ⟨fuel - 1, by omega⟩
    obtain ⟨cb, h⟩ := hC t (by omega)
    obtain ⟨a1, a2, a3, a4, a5, a6, e⟩ := h aS aL aH lab num G
    rw [F_M_exact_9, cn_20, if_neg (fun z => by rw [cn_leI (by omega) (by omega)] at z; omega), if_pos rfl, e, Option.bind_some]
    unfold F_M_exact_27 F_M_exact_32
    rw [nI_1]
    by_cases z : C t = 0
    · rw [if_pos (by show nI (C t) ≤ 0; rw [z]; decide)]
      obtain ⟨r, b1, b2, b3, b4, b5, b6, e2, h2⟩ := ih (t + 1) k a1 a2 a3 a4 a5 a6 (by omega) (by omega)
      refine ⟨r, b1, b2, b3, b4, b5, b6, e2, ?_⟩
      rcases h2 with ⟨h3, h4, h5, h6⟩ | ⟨h3, h4 | h4 | ⟨u, h4, h5, h6⟩⟩
      · refine Or.inl ⟨h3, h4, h5, fun u h7 h8 => ?_⟩
        rcases Nat.lt_or_ge t u with w | w
        · exact h6 u w h8
        · obtain rfl : u = t := by omega
          exact z
      · exact Or.inr ⟨h3, Or.inl h4⟩
      · exact Or.inr ⟨h3, Or.inr (Or.inl h4)⟩
      · exact Or.inr ⟨h3, Or.inr (Or.inr ⟨u, by omega, h5, h6⟩)⟩
    · rw [if_neg (nI_nle (by omega) (by omega))]
      exact ⟨0, _, _, _, _, _, _, cn_exM1 d (t + 1) k a1 a2 a3 a4 a5 a6 (by omega) (by omega), Or.inr ⟨rfl, Or.inr (Or.inr ⟨t, Nat.le_refl _, by omega, z⟩)⟩⟩
theorem cn_exact {D : cn_Dat} (ok : D.ok) {kept : Nat → Int32} (hK : cn_Kept D kept) (ac apc : Int32) (f : Nat → Int64) (pads re : Nat → Int32) (nr : Nat → Int64) (nb : Nat → Int32) (th : Int32) (aS : Int64) (aL aH : Int32) (lab num G : Nat → Int32) :
    ∃ r ac' apc' f' pads' re' nr' nb' aS' aL' aH' lab' num' G', F_X_exact D.nop (nI D.n) D.there D.pin D.x D.y D.ri D.hi kept ac apc f pads re nr nb = some (r, ac', apc', f', pads', re', nr', nb') ∧ F_M_exact th (nI D.n) aS aL aH D.there D.fr D.to D.x D.y D.w D.h D.r D.pin D.nop lab num G = some (r, 0, aS', aL', aH', lab', num', G') := by
  obtain ⟨l, hk⟩ := hK.kp
  obtain ⟨C, hC⟩ := cn_counts ok hk
  obtain ⟨nb', eX⟩ := cn_countX ok hk nb
  obtain ⟨u0, eu, eu'⟩ := cn_unrAt ok 0
  obtain ⟨r, b1, b2, b3, b4, b5, b6, eM, hM⟩ := cn_exM0 (fun t ht => ⟨(hC t ht).1, (hC t ht).2.2⟩) (fun lab num => cn_countM ok hk lab num) eu' (th := 0) 20 0 4096 aS aL aH lab num G (by omega) (by omega)
  obtain ⟨r2, a1, a2, a3, a4, a5, a6, eL, hL⟩ := cn_exXL (fun t ht => ⟨(hC t ht).1, (hC t ht).2.1⟩) nb' 20 0 4096 ac apc f pads re nr (by omega) (by omega)
  unfold F_X_exact F_X_exact_0 F_X_exact_16
  rw [eX, Option.bind_some, eu, Option.bind_some]
  by_cases z : nI (cn_ct (cn_qX D l) D.n) = 0
  · rw [if_pos z]
    by_cases w : u0 = -1
    · rw [if_pos w]
      refine ⟨r2, a1, a2, a3, a4, a5, a6, nb', b1, b2, b3, b4, b5, b6, eL, ?_⟩
      have e : r = r2 := by
        rcases hL with ⟨h1, h2⟩ | ⟨h1, u, h2, h3, h4⟩
        · rcases hM with ⟨g1, _⟩ | ⟨_, g2 | g2 | ⟨u, g3, g4, g5⟩⟩
          · rw [h1, g1]
          · exact absurd z g2
          · exact absurd w g2
          · exact absurd (h2 u g3 g4) g5
        · rcases hM with ⟨_, _, _, g⟩ | ⟨g1, _⟩
          · exact absurd (g u h2 h3) h4
          · rw [h1, g1]
      rw [← e]; exact eM
    · rw [if_neg w]
      rcases hM with ⟨_, _, g, _⟩ | ⟨g1, _⟩
      · exact absurd g w
      · rw [g1] at eM
        exact ⟨0, _, _, _, _, _, _, _, b1, b2, b3, b4, b5, b6, rfl, eM⟩
  · rw [if_neg z]
    rcases hM with ⟨_, g, _⟩ | ⟨g1, _⟩
    · exact absurd g z
    · rw [g1] at eM
      exact ⟨0, _, _, _, _, _, _, _, b1, b2, b3, b4, b5, b6, rfl, eM⟩
