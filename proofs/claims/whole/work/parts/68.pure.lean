/-! PURE: the join that shorts, found -/
theorem cn_fjB {D : cn_Dat} (ok : D.ok) {l : Nat → Nat} {g q : Nat} {m : Nat → Nat} {G G' : Nat → Int32} (h : cn_FJ D l g (q + 1) m G) {p : Nat} (hp : cn_Cm D l g p) (hq : cn_Cm D l g q)
    (hG : ∀ j, j < D.n → G' j = if G j = G q then G p else G j) : cn_orf D (fun x => decide (G' x = G p ∧ D.S x)) D.n = cn_grp D l g m (m p) ||| cn_grp D l g m (m q) := by
  obtain ⟨h1, h2, h3, h4, h5⟩ := h
  apply cn_tbx
  intro t
  rw [Nat.testBit_or, Bool.or_eq_true, cn_grp_tb ok, cn_grp_tb ok, cn_orf_tb]
  constructor
  · rintro ⟨x, hx, h6, h7⟩
    obtain ⟨e, s⟩ := of_decide_eq_true h6
    rw [hG x hx] at e
    by_cases cx : cn_Cm D l g x
    · by_cases w : G x = G q
      · exact Or.inr ⟨x, cx, (h4 x q cx hq).mp w, h7⟩
      · rw [if_neg w] at e
        exact Or.inl ⟨x, cx, (h4 x p cx hp).mp e, h7⟩
    · rw [if_neg (h5 x hx cx q hq)] at e
      exact absurd e (h5 x hx cx p hp)
  · rintro (⟨x, cx, e, h7⟩ | ⟨x, cx, e, h7⟩)
    · refine ⟨x, ok.lt cx.1, decide_eq_true ⟨?_, cx.1⟩, h7⟩
      rw [hG x (ok.lt cx.1)]
      by_cases w : G x = G q
      · rw [if_pos w]
      · rw [if_neg w]; exact (h4 x p cx hp).mpr e
    · refine ⟨x, ok.lt cx.1, decide_eq_true ⟨?_, cx.1⟩, h7⟩
      rw [hG x (ok.lt cx.1), if_pos ((h4 x q cx hq).mpr e)]
theorem cn_fjI {D : cn_Dat} (ok : D.ok) {l : Nat → Nat} {g : Nat} {aL aH : Int32} {num : Nat → Int32} {c : Int32} (hc : ∀ i, i < D.n → (num i = c ↔ cn_Cm D l g i)) {k42} {q : Nat} (hq : q < D.n) (cq : cn_Cm D l g q) :
    ∀ (d p fuel : Nat) (m : Nat → Nat) (f gb G : Nat → Int32), p + d = q → d < fuel → cn_FJ D l g (q + 1) m G → cn_FX D l g (q + 1) m f gb → (∀ x, x < p → cn_Cm D l g x → D.T x q → m x = m q) →
    (∃ p' f' gb' G', p' < q ∧ F_X_belowThatShorts_2 fuel D.fr D.to D.x D.y D.ri D.hi D.r f gb (nI q) (nI p) = some (nI p', f', gb') ∧ F_M_findJoin_52 k42 fuel (nI D.n) aL aH D.there D.fr D.to D.x D.y D.w D.h D.r D.pin D.nop num G c (nI q) (nI p) = some (nI p', nI q, G')) ∨
    (∃ m' f' gb' G', F_X_belowThatShorts_2 fuel D.fr D.to D.x D.y D.ri D.hi D.r f gb (nI q) (nI p) = some (-1, f', gb') ∧ F_M_findJoin_52 k42 fuel (nI D.n) aL aH D.there D.fr D.to D.x D.y D.w D.h D.r D.pin D.nop num G c (nI q) (nI p) = k42 (nI D.n) aL aH D.there D.fr D.to D.x D.y D.w D.h D.r D.pin D.nop num G' c (nI (q + 1)) ∧ cn_FJ D l g (q + 1) m' G' ∧ cn_FX D l g (q + 1) m' f' gb' ∧ (∀ x, x < q → cn_Cm D l g x → D.T x q → m' x = m' q) ∧ ∀ i j, cn_Cm D l g i → cn_Cm D l g j → m i = m j → m' i = m' j) := by
  have n60 := ok.n60
  have q60 : q < 60 := by omega
  have rq : ∀ {α : Type} {x : Option α}, cn_rd (nI q) 60 x = x := cn_rdI q60 (by decide)
  have kq : Int32.toNatClampNeg (nI q) = q := cn_ki (by omega)
  have nq := (hc q hq).mpr cq
  intro d
  induction d with
  | zero =>
    intro p fuel m f gb G hp hf hJ hX hT
    obtain ⟨k, rfl⟩ : ∃ k, fuel = k + 1 := ⟨fuel - 1, by omega⟩
    obtain rfl : p = q := by omega
    refine Or.inr ⟨m, f, gb, G, ?_, ?_, hJ, hX, hT, fun i j _ _ h => h⟩
    · rw [F_X_belowThatShorts_2, if_pos ((cn_leI (by omega) (by omega)).mpr (Nat.le_refl _))]
    · rw [F_M_findJoin_52, if_pos ((cn_leI (by omega) (by omega)).mpr (Nat.le_refl _)), nI_1]
  | succ d ih =>
    intro p fuel m f gb G hp hf hJ hX hT
    obtain ⟨k, rfl⟩ : ∃ k, fuel = k + 1 := ⟨fuel - 1, by omega⟩
    have p60 : p < 60 := by omega
    have rp : ∀ {α : Type} {x : Option α}, cn_rd (nI p) 60 x = x := cn_rdI p60 (by decide)
    have kp : Int32.toNatClampNeg (nI p) = p := cn_ki (by omega)
    have ng : ¬ nI q ≤ nI p := fun z => by rw [cn_leI (by omega) (by omega)] at z; omega
    have hR := hX.1
    -- a pair that is passed over
    have skip : F_X_belowThatShorts_2 (k + 1) D.fr D.to D.x D.y D.ri D.hi D.r f gb (nI q) (nI p) = F_X_belowThatShorts_2 k D.fr D.to D.x D.y D.ri D.hi D.r f gb (nI q) (nI (p + 1)) → F_M_findJoin_52 k42 (k + 1) (nI D.n) aL aH D.there D.fr D.to D.x D.y D.w D.h D.r D.pin D.nop num G c (nI q) (nI p) = F_M_findJoin_52 k42 k (nI D.n) aL aH D.there D.fr D.to D.x D.y D.w D.h D.r D.pin D.nop num G c (nI q) (nI (p + 1)) → (cn_Cm D l g p → D.T p q → m p = m q) →
        (∃ p' f' gb' G', p' < q ∧ F_X_belowThatShorts_2 (k + 1) D.fr D.to D.x D.y D.ri D.hi D.r f gb (nI q) (nI p) = some (nI p', f', gb') ∧ F_M_findJoin_52 k42 (k + 1) (nI D.n) aL aH D.there D.fr D.to D.x D.y D.w D.h D.r D.pin D.nop num G c (nI q) (nI p) = some (nI p', nI q, G')) ∨
        (∃ m' f' gb' G', F_X_belowThatShorts_2 (k + 1) D.fr D.to D.x D.y D.ri D.hi D.r f gb (nI q) (nI p) = some (-1, f', gb') ∧ F_M_findJoin_52 k42 (k + 1) (nI D.n) aL aH D.there D.fr D.to D.x D.y D.w D.h D.r D.pin D.nop num G c (nI q) (nI p) = k42 (nI D.n) aL aH D.there D.fr D.to D.x D.y D.w D.h D.r D.pin D.nop num G' c (nI (q + 1)) ∧ cn_FJ D l g (q + 1) m' G' ∧ cn_FX D l g (q + 1) m' f' gb' ∧ (∀ x, x < q → cn_Cm D l g x → D.T x q → m' x = m' q) ∧ ∀ i j, cn_Cm D l g i → cn_Cm D l g j → m i = m j → m' i = m' j) := fun eX eM z => by
      rw [eX, eM]
      refine ih (p + 1) k m f gb G (by omega) (by omega) hJ hX (fun x hx cx tx => ?_)
      rcases Nat.lt_or_ge x p with w | w
      · exact hT x w cx tx
      · obtain rfl : x = p := by omega
        exact z cx tx
    by_cases cp : cn_Cm D l g p
    · have np := (hc p (by omega)).mpr cp
      have fp := (hR.1 p ⟨cp, by omega⟩).2
      have fq := (hR.1 q ⟨cq, by omega⟩).2
      have lp := hJ.1 p cp
      have lq := hJ.1 q cq
      cases tb : D.tb p q with
      | false =>
        refine skip ?_ ?_ (fun _ t => absurd (tb.symm.trans t) (by decide))
        · rw [F_X_belowThatShorts_2, if_neg ng, cn_has1 p60 (by rw [fp]; exact cn_m1 (by omega)), Option.bind_some, if_neg (by decide), cn_touchX D p60 q60, Option.bind_some, tb, if_pos (by simp)]
          unfold F_X_belowThatShorts_91
          rw [nI_1]
        · have tM : F_M_touch D.there D.fr D.to D.x D.y D.w D.h D.r (nI p) (nI q) = some 0 := by rw [cn_touchM D p60 q60, if_neg (fun z => absurd (tb.symm.trans z.2.2) (by decide))]
          rw [F_M_findJoin_52, if_neg ng, rp, kp, if_pos np, rq, kq, if_pos nq, tM, Option.bind_some, if_pos rfl]
          unfold F_M_findJoin_195
          rw [nI_1]
      | true =>
        have ub := cn_grpb ok l g m (m p)
        have vb := cn_grpb ok l g m (m q)
        obtain ⟨v, ev, hv⟩ := cn_shX (Nat.or_lt_two_pow ub vb)
        have gp := hX.2 p cp (by omega)
        have gq := hX.2 q cq (by omega)
        have rmp : ∀ {α : Type} {x : Option α}, cn_rd (nI (m p)) 60 x = x := cn_rdI (by omega) (by decide)
        have rmq : ∀ {α : Type} {x : Option α}, cn_rd (nI (m q)) 60 x = x := cn_rdI (by omega) (by decide)
        have kmp : Int32.toNatClampNeg (nI (m p)) = m p := cn_ki (by omega)
        have kmq : Int32.toNatClampNeg (nI (m q)) = m q := cn_ki (by omega)
        obtain ⟨f', ef, hR'⟩ := cn_gjoin hR (fun i hi => (hJ.1 i hi.1).1) (a := p) (b := q) ⟨cp, by omega⟩ ⟨cq, by omega⟩
        have hX' : cn_FX D l g (q + 1) (cn_mrg m (m p) (m q)) f' _ := cn_FX.join ok hX hR'
        have fq' : f' q = nI (min (m p) (m q)) := by
          rw [(hR'.1 q ⟨cq, by omega⟩).2]
          exact congrArg nI (cn_mrg_in (m := m) (a := m p) (b := m q) (Or.inr rfl))
        have rmn : ∀ {α : Type} {x : Option α}, cn_rd (nI (min (m p) (m q))) 60 x = x := cn_rdI (by omega) (by decide)
        have kmn : Int32.toNatClampNeg (nI (min (m p) (m q))) = min (m p) (m q) := cn_ki (by omega)
        have tM : F_M_touch D.there D.fr D.to D.x D.y D.w D.h D.r (nI p) (nI q) = some 1 := by rw [cn_touchM D p60 q60, if_pos ⟨cp.1, cq.1, tb⟩]
        have tX : F_P_touch D.fr D.to D.x D.y D.ri D.hi D.r (nI p) (nI q) = some 1 := by rw [cn_touchX D p60 q60, tb]; rfl
        have f10 : ¬ (1 : Int32) = 0 := by decide
        have X0 : F_X_belowThatShorts_2 (k + 1) D.fr D.to D.x D.y D.ri D.hi D.r f gb (nI q) (nI p) = if v < 2 then F_X_belowThatShorts_2 k D.fr D.to D.x D.y D.ri D.hi D.r f' (upd gb (min (m p) (m q)) (nI (cn_grp D l g m (m p) ||| cn_grp D l g m (m q)))) (nI q) (nI (p + 1)) else some (nI p, f, gb) := by
          rw [F_X_belowThatShorts_2, if_neg ng, cn_has1 p60 (by rw [fp]; exact cn_m1 (by omega)), Option.bind_some, if_neg f10, tX, Option.bind_some, if_neg f10, cn_leaderOf p60, Option.bind_some, fp, rmp, cn_leaderOf q60, Option.bind_some, fq, rmq, kmp, kmq, gp, gq, cn_nor, ev, Option.bind_some, ef, Option.bind_some, cn_leaderOf q60, Option.bind_some, fq', rmn, kmn]
          unfold F_X_belowThatShorts_91
          rw [nI_1]
        cases sh : cn_sh (cn_grp D l g m (m p) ||| cn_grp D l g m (m q)) with
        | false =>
          rw [if_pos (hv.mpr sh)] at X0
          have step : ∀ G', F_M_findJoin_52 k42 (k + 1) (nI D.n) aL aH D.there D.fr D.to D.x D.y D.w D.h D.r D.pin D.nop num G c (nI q) (nI p) = F_M_findJoin_52 k42 k (nI D.n) aL aH D.there D.fr D.to D.x D.y D.w D.h D.r D.pin D.nop num G' c (nI q) (nI (p + 1)) → cn_FJ D l g (q + 1) (cn_mrg m (m p) (m q)) G' →
              (∃ p' f' gb' G', p' < q ∧ F_X_belowThatShorts_2 (k + 1) D.fr D.to D.x D.y D.ri D.hi D.r f gb (nI q) (nI p) = some (nI p', f', gb') ∧ F_M_findJoin_52 k42 (k + 1) (nI D.n) aL aH D.there D.fr D.to D.x D.y D.w D.h D.r D.pin D.nop num G c (nI q) (nI p) = some (nI p', nI q, G')) ∨
              (∃ m' f' gb' G', F_X_belowThatShorts_2 (k + 1) D.fr D.to D.x D.y D.ri D.hi D.r f gb (nI q) (nI p) = some (-1, f', gb') ∧ F_M_findJoin_52 k42 (k + 1) (nI D.n) aL aH D.there D.fr D.to D.x D.y D.w D.h D.r D.pin D.nop num G c (nI q) (nI p) = k42 (nI D.n) aL aH D.there D.fr D.to D.x D.y D.w D.h D.r D.pin D.nop num G' c (nI (q + 1)) ∧ cn_FJ D l g (q + 1) m' G' ∧ cn_FX D l g (q + 1) m' f' gb' ∧ (∀ x, x < q → cn_Cm D l g x → D.T x q → m' x = m' q) ∧ ∀ i j, cn_Cm D l g i → cn_Cm D l g j → m i = m j → m' i = m' j) := fun G' eM hJ' => by
            rw [X0, eM]
            have co : ∀ i j, m i = m j → cn_mrg m (m p) (m q) i = cn_mrg m (m p) (m q) j := fun i j e => by unfold cn_mrg; rw [e]
            rcases ih (p + 1) k _ _ _ G' (by omega) (by omega) hJ' hX' (fun x hx cx tx => by
              rcases Nat.lt_or_ge x p with w | w
              · exact co _ _ (hT x w cx tx)
              · obtain rfl : x = p := by omega
                rw [cn_mrg_in (Or.inl rfl), cn_mrg_in (Or.inr rfl)]) with y | ⟨m2, f2, g2, G2, y1, y2, y3, y4, y5, y6⟩
            · exact Or.inl y
            · exact Or.inr ⟨m2, f2, g2, G2, y1, y2, y3, y4, y5, fun i j ci cj e => y6 i j ci cj (co i j e)⟩
          by_cases same : m p = m q
          · refine step G ?_ ?_
            · rw [F_M_findJoin_52, if_neg ng, rp, kp, if_pos np, rq, kq, if_pos nq, tM, Option.bind_some, if_neg f10, rp, rq, if_pos ((hJ.2.2.2.1 p q cp cq).mpr same)]
              unfold F_M_findJoin_195
              rw [nI_1]
            · rw [same, cn_mrg_eq]; exact hJ
          · obtain ⟨G', e123, hG, -⟩ := cn_fj123 ok (k42 := k42) (k52 := F_M_findJoin_52 k42 k) (aL := aL) (aH := aH) (num := num) (c := c) (vq := nI q) (vp := nI p) (other := G q) (g := G p) D.n 0 4096 G (by omega) (by omega)
            have hG' : ∀ j, j < D.n → G' j = if G j = G q then G p else G j := fun j hj => hG j (by omega) hj
            refine step G' ?_ (cn_FJ.join ok hJ cp cq (by omega) sh hG')
            rw [F_M_findJoin_52, if_neg ng, rp, kp, if_pos np, rq, kq, if_pos nq, tM, Option.bind_some, if_neg f10, rp, rq, if_neg (fun z => same ((hJ.2.2.2.1 p q cp cq).mp z)), rq, rp, cn_00, e123, F_M_findJoin_123, if_pos ((cn_leI (by omega) (by omega)).mpr (Nat.le_refl _)), cn_netsOfG ok, Option.bind_some, cn_fjB ok hJ cp cq hG', cn_shM (Nat.or_lt_two_pow ub vb), Option.bind_some, sh]
            unfold F_M_findJoin_195
            rw [nI_1]
            rfl
        | true =>
          have nlt : ¬ v < 2 := fun z => by rw [hv.mp z] at sh; exact absurd sh (by decide)
          rw [if_neg nlt] at X0
          have ne : m p ≠ m q := fun e => by
            rw [e, Nat.or_self, hJ.2.2.1 q cq] at sh
            exact absurd sh (by decide)
          obtain ⟨G', e123, hG, -⟩ := cn_fj123 ok (k42 := k42) (k52 := F_M_findJoin_52 k42 k) (aL := aL) (aH := aH) (num := num) (c := c) (vq := nI q) (vp := nI p) (other := G q) (g := G p) D.n 0 4096 G (by omega) (by omega)
          have hG' : ∀ j, j < D.n → G' j = if G j = G q then G p else G j := fun j hj => hG j (by omega) hj
          refine Or.inl ⟨p, f, gb, G', by omega, X0, ?_⟩
          rw [F_M_findJoin_52, if_neg ng, rp, kp, if_pos np, rq, kq, if_pos nq, tM, Option.bind_some, if_neg f10, rp, rq, if_neg (fun z => ne ((hJ.2.2.2.1 p q cp cq).mp z)), rq, rp, cn_00, e123, F_M_findJoin_123, if_pos ((cn_leI (by omega) (by omega)).mpr (Nat.le_refl _)), cn_netsOfG ok, Option.bind_some, cn_fjB ok hJ cp cq hG', cn_shM (Nat.or_lt_two_pow ub vb), Option.bind_some, sh]
          rfl
    · refine skip ?_ ?_ (fun z => absurd z cp)
      · rw [F_X_belowThatShorts_2, if_neg ng, cn_has0 p60 (hR.2 p p60 (fun z => cp z.1)), Option.bind_some, if_pos rfl]
        unfold F_X_belowThatShorts_91
        rw [nI_1]
      · rw [F_M_findJoin_52, if_neg ng, rp, kp, if_neg (fun z => cp ((hc p (by omega)).mp z))]
        unfold F_M_findJoin_195
        rw [nI_1]
