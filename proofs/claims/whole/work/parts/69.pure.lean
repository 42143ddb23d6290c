/-! PURE: the join that shorts, from the first piece on; short2 -/
theorem cn_fjS {D : cn_Dat} (ok : D.ok) {l : Nat → Nat} {g : Nat} {aL aH : Int32} {num : Nat → Int32} {c : Int32} (hc : ∀ i, i < D.n → (num i = c ↔ cn_Cm D l g i)) {k42} {q : Nat} (hq : q < D.n) (cq : ¬ cn_Cm D l g q) {G : Nat → Int32} :
    ∀ (d p fuel : Nat), p + d = q → d < fuel → F_M_findJoin_52 k42 fuel (nI D.n) aL aH D.there D.fr D.to D.x D.y D.w D.h D.r D.pin D.nop num G c (nI q) (nI p) = k42 (nI D.n) aL aH D.there D.fr D.to D.x D.y D.w D.h D.r D.pin D.nop num G c (nI (q + 1)) := by
  have n60 := ok.n60
  have q60 : q < 60 := by omega
  have nq : ¬ num q = c := fun z => cq ((hc q hq).mp z)
  intro d
  induction d with
  | zero =>
    intro p fuel hp hf
    obtain ⟨k, rfl⟩ : ∃ k, fuel = k + 1 := ⟨fuel - 1, by omega⟩
    obtain rfl : p = q := by omega
    rw [F_M_findJoin_52, if_pos ((cn_leI (by omega) (by omega)).mpr (Nat.le_refl _)), nI_1]
  | succ d ih =>
    intro p fuel hp hf
    obtain ⟨k, rfl⟩ : ∃ k, fuel = k + 1 := ⟨fuel - 1, by omega⟩
    have go := ih (p + 1) k (by omega) (by omega)
    rw [F_M_findJoin_52, if_neg (fun z => by rw [cn_leI (by omega) (by omega)] at z; omega), cn_rdI (by omega) (by omega), cn_ki (by omega), cn_rdI (by omega) (by omega), cn_ki (by omega)]
    unfold F_M_findJoin_195
    rw [nI_1]
    by_cases e : num p = c
    · rw [if_pos e, if_neg nq]; exact go
    · rw [if_neg e]; exact go
theorem cn_fjO {D : cn_Dat} (ok : D.ok) {kept : Nat → Int32} {l : Nat → Nat} (hk : cn_KP D kept l) {g : Nat} (hg : cn_Cm D l g g) (hs : cn_sh (cn_nb D l g) = true) {aL aH : Int32} {num : Nat → Int32} {c : Int32} (hc : ∀ i, i < D.n → (num i = c ↔ cn_Cm D l g i)) :
    ∀ (d q fuel : Nat) (m : Nat → Nat) (f gb G : Nat → Int32), q + d = D.n → d < fuel → cn_FJ D l g q m G → cn_FX D l g q m f gb → (∀ x y, x < y → y < q → cn_Cm D l g x → cn_Cm D l g y → D.T x y → m x = m y) →
    ∃ p' q' code f' gb' G', p' < q' ∧ q' < D.n ∧ F_X_joinThatShorted_9 fuel D.nop (nI D.n) D.fr D.to D.pin D.x D.y D.ri D.hi D.r kept f gb (nI g) (nI q) = some (code, f', gb') ∧ code.toInt = 0 * 4096 + (p' : Int) * 64 + (q' : Int) ∧ F_M_findJoin_42 fuel (nI D.n) aL aH D.there D.fr D.to D.x D.y D.w D.h D.r D.pin D.nop num G c (nI q) = some (nI p', nI q', G') := by
  have n60 := ok.n60
  have g60 : g < 60 := by have := ok.lt hg.1; omega
  intro d
  induction d with
  | zero =>
    intro q fuel m f gb G hq hf hJ hX hT
    exfalso
    have all : ∀ i, cn_Cm D l g i → m i = m g := fun i ci => by
      have h := hk.can.2.2.2 (fun x => if l x = g then m x else 0) (fun a b sa sb t => by
        have e := hk.can.2.2.1 a b sa sb t
        show (if l a = g then m a else 0) = (if l b = g then m b else 0)
        by_cases z : l a = g
        · have z' : l b = g := by rw [← e]; exact z
          have la := ok.lt sa
          have lb := ok.lt sb
          rw [if_pos z, if_pos z']
          rcases Nat.lt_trichotomy a b with w | w | w
          · exact hT a b w (by omega) ⟨sa, z⟩ ⟨sb, z'⟩ t
          · rw [w]
          · exact (hT b a w (by omega) ⟨sb, z'⟩ ⟨sa, z⟩ (ok.TS t)).symm
        · rw [if_neg z, if_neg (fun w => z (by rw [e]; exact w))]) i ci.1
      have h' : (if l (l i) = g then m (l i) else 0) = (if l i = g then m i else 0) := h
      rw [ci.2, if_pos hg.2, if_pos rfl] at h'
      exact h'.symm
    have e : cn_grp D l g m (m g) = cn_nb D l g := by
      refine cn_orf_ext D D.n (fun p hp => ?_)
      by_cases cp : cn_Cm D l g p
      · simp only [decide_eq_true (show cn_Cm D l g p ∧ m p = m g from ⟨cp, all p cp⟩), decide_eq_true (show D.S p ∧ l p = g from cp)]
      · simp only [decide_eq_false (show ¬ (cn_Cm D l g p ∧ m p = m g) from fun z => cp z.1), decide_eq_false (show ¬ (D.S p ∧ l p = g) from cp)]
    have := hJ.2.2.1 g hg
    rw [e, hs] at this
    exact absurd this (by decide)
  | succ d ih =>
    intro q fuel m f gb G hq hf hJ hX hT
    obtain ⟨k, rfl⟩ : ∃ k, fuel = k + 1 := ⟨fuel - 1, by omega⟩
    have q60 : q < 60 := by omega
    have ng : ¬ nI D.n ≤ nI q := fun z => by rw [cn_leI (by omega) (by omega)] at z; omega
    by_cases cq : cn_Cm D l g q
    · have kq : kept q = nI g := by rw [hk.yes q cq.1, cq.2]
      have mq : m q = q := hJ.2.1 q cq (Nat.le_refl _)
      have hJ1 : cn_FJ D l g (q + 1) m G := ⟨hJ.1, fun i ci hi => hJ.2.1 i ci (by omega), hJ.2.2⟩
      have hX1 : cn_FX D l g (q + 1) m (upd f q (nI q)) (upd gb q (nI (D.bN q))) := by
        refine ⟨⟨fun i hi => ?_, fun i hi ni => ?_⟩, fun i ci hi => ?_⟩
        · have : i < 60 := by omega
          refine ⟨this, ?_⟩
          rw [cn_up]
          by_cases e : i = q
          · rw [if_pos e, e, mq]
          · rw [if_neg e]; exact (hX.1.1 i ⟨hi.1, by omega⟩).2
        · rw [cn_up, if_neg (fun e => ni (by subst e; exact ⟨cq, by omega⟩))]
          exact hX.1.2 i hi (fun z => ni ⟨z.1, by omega⟩)
        · rw [cn_up]
          by_cases e : i = q
          · rw [e, mq, if_pos rfl]
            congr 1
            apply cn_tbx
            intro t
            rw [cn_grp_tb ok]
            constructor
            · intro h; exact ⟨q, cq, mq, h⟩
            · rintro ⟨x, cx, ex, hx⟩
              have := (hJ.1 x cx).1
              have : x = q := by
                rcases Nat.lt_or_ge x q with w | w
                · omega
                · have := hJ.2.1 x cx w; omega
              rw [this] at hx; exact hx
          · have := (hJ.1 i ci).1
            rw [if_neg (by omega)]
            exact hX.2 i ci (by omega)
      have eX : F_X_joinThatShorted_9 (k + 1) D.nop (nI D.n) D.fr D.to D.pin D.x D.y D.ri D.hi D.r kept f gb (nI g) (nI q) = (F_X_belowThatShorts_2 4096 D.fr D.to D.x D.y D.ri D.hi D.r (upd f q (nI q)) (upd gb q (nI (D.bN q))) (nI q) (nI 0)).bind fun t_14 => if t_14.1 = (-1) then (F_X_joinThatShorted_9 k D.nop (nI D.n) D.fr D.to D.pin D.x D.y D.ri D.hi D.r kept t_14.2.1 t_14.2.2 (nI g) (nI (q + 1))) else ((F_Q_of 0 t_14.1 (nI q)).bind fun t_17 => some (t_17, t_14.2.1, t_14.2.2)) := by
        rw [F_X_joinThatShorted_9, if_neg ng, cn_leaderOf q60, Option.bind_some, if_pos kq]
        unfold F_G_begin F_G_begin_0 F_X_joinThatShorted_69 F_X_belowThatShorts F_X_belowThatShorts_0
        rw [cn_rdI q60 (by decide), Option.bind_some, cn_bitX ok q60, Option.bind_some, cn_rdI q60 (by decide), cn_ki (by omega), nI_1]
        rfl
      have eM : F_M_findJoin_42 (k + 1) (nI D.n) aL aH D.there D.fr D.to D.x D.y D.w D.h D.r D.pin D.nop num G c (nI q) = F_M_findJoin_52 (F_M_findJoin_42 k) 4096 (nI D.n) aL aH D.there D.fr D.to D.x D.y D.w D.h D.r D.pin D.nop num G c (nI q) (nI 0) := by
        rw [F_M_findJoin_42, if_neg ng]
        rfl
      rw [eX, eM]
      rcases cn_fjI ok (aL := aL) (aH := aH) hc (k42 := F_M_findJoin_42 k) (by omega) cq q 0 4096 m _ _ G (by omega) (by omega) hJ1 hX1 (fun x hx => by omega) with ⟨p', f', gb', G', h1, h2, h3⟩ | ⟨m', f', gb', G', h1, h2, h3, h4, h5, h6⟩
      · obtain ⟨code, e, hcode⟩ := cn_ofQ (s := 0) (by decide) (by decide) (a := p') (b := q) (by omega) q60
        refine ⟨p', q, code, f', gb', G', h1, by omega, ?_, ?_, h3⟩
        · rw [h2, Option.bind_some, if_neg (cn_m1 (by omega)), e]; rfl
        · rw [hcode, Nat.min_eq_left (by omega), Nat.max_eq_right (by omega)]; rfl
      · rw [h1, h2, Option.bind_some, if_pos rfl]
        refine ih (q + 1) k m' f' gb' G' (by omega) (by omega) h3 h4 (fun x y xy hy cx cy t => ?_)
        rcases Nat.lt_or_ge y q with w | w
        · exact h6 x y cx cy (hT x y xy w cx cy t)
        · obtain rfl : y = q := by omega
          exact h5 x xy cx t
    · have kq : ¬ kept q = nI g := fun z => by
        by_cases s : D.S q
        · have := hk.le q s
          rw [hk.yes q s, cn_eqI (by omega) (by omega)] at z
          exact cq ⟨s, z⟩
        · rw [hk.no q q60 s] at z
          exact cn_m1 (by omega) z.symm
      have eX : F_X_joinThatShorted_9 (k + 1) D.nop (nI D.n) D.fr D.to D.pin D.x D.y D.ri D.hi D.r kept f gb (nI g) (nI q) = F_X_joinThatShorted_9 k D.nop (nI D.n) D.fr D.to D.pin D.x D.y D.ri D.hi D.r kept f gb (nI g) (nI (q + 1)) := by
        rw [F_X_joinThatShorted_9, if_neg ng, cn_leaderOf q60, Option.bind_some, if_neg kq]
        unfold F_X_joinThatShorted_69
        rw [nI_1]
      have eM : F_M_findJoin_42 (k + 1) (nI D.n) aL aH D.there D.fr D.to D.x D.y D.w D.h D.r D.pin D.nop num G c (nI q) = F_M_findJoin_42 k (nI D.n) aL aH D.there D.fr D.to D.x D.y D.w D.h D.r D.pin D.nop num G c (nI (q + 1)) := by
        rw [F_M_findJoin_42, if_neg ng, cn_00]
        exact cn_fjS ok hc (by omega) cq q 0 4096 (by omega) (by omega)
      rw [eX, eM]
      refine ih (q + 1) k m f gb G (by omega) (by omega) ⟨hJ.1, fun i ci hi => hJ.2.1 i ci (by omega), hJ.2.2⟩ ⟨cn_repS hX.1 (fun i => ⟨fun z => ⟨z.1, by omega⟩, fun z => ⟨z.1, ?_⟩⟩), fun i ci hi => ?_⟩ (fun x y xy hy cx cy t => ?_)
      · rcases Nat.lt_or_ge i q with w | w
        · exact w
        · obtain rfl : i = q := by omega
          exact absurd z.1 cq
      · rcases Nat.lt_or_ge i q with w | w
        · exact hX.2 i ci w
        · obtain rfl : i = q := by omega
          exact absurd ci cq
      · rcases Nat.lt_or_ge y q with w | w
        · exact hT x y xy w cx cy t
        · obtain rfl : y = q := by omega
          exact absurd cy cq
theorem cn_fj2 {D : cn_Dat} (ok : D.ok) {aL aH : Int32} {num : Nat → Int32} {c : Int32} : ∀ (d i fuel : Nat) (G : Nat → Int32), i + d = D.n → d < fuel → (∀ j, j < i → G j = if num j = c then nI j else (-2) - nI j) →
    ∃ G', F_M_findJoin_2 fuel (nI D.n) aL aH D.there D.fr D.to D.x D.y D.w D.h D.r D.pin D.nop num G c (nI i) = F_M_findJoin_42 4096 (nI D.n) aL aH D.there D.fr D.to D.x D.y D.w D.h D.r D.pin D.nop num G' c 0 ∧ ∀ j, j < D.n → G' j = if num j = c then nI j else (-2) - nI j := by
  have n60 := ok.n60
  intro d
  induction d with
  | zero =>
    intro i fuel G hi hf h
    obtain ⟨k, rfl⟩ : ∃ k, fuel = k + 1 := ⟨fuel - 1, by omega⟩
    obtain rfl : i = D.n := by omega
    refine ⟨G, ?_, h⟩
    rw [F_M_findJoin_2, if_pos ((cn_leI (by omega) (by omega)).mpr (Nat.le_refl _))]
  | succ d ih =>
    intro i fuel G hi hf h
    obtain ⟨k, rfl⟩ : ∃ k, fuel = k + 1 := ⟨fuel - 1, by omega⟩
    have go : ∀ v, v = (if num i = c then nI i else (-2) - nI i) → ∃ G', F_M_findJoin_2 k (nI D.n) aL aH D.there D.fr D.to D.x D.y D.w D.h D.r D.pin D.nop num (upd G i v) c (nI (i + 1)) = F_M_findJoin_42 4096 (nI D.n) aL aH D.there D.fr D.to D.x D.y D.w D.h D.r D.pin D.nop num G' c 0 ∧ ∀ j, j < D.n → G' j = if num j = c then nI j else (-2) - nI j := fun v hv => by
      refine ih (i + 1) k _ (by omega) (by omega) (fun j hj => ?_)
      rw [cn_up]
      by_cases e : j = i
      · rw [if_pos e, hv, e]
      · rw [if_neg e]; exact h j (by omega)
    rw [F_M_findJoin_2, if_neg (fun z => by rw [cn_leI (by omega) (by omega)] at z; omega), cn_rdI (by omega) (by omega), cn_ki (by omega)]
    unfold F_M_findJoin_33
    rw [cn_rdI (by omega) (by omega), cn_rdI (by omega) (by omega), cn_ki (by omega), nI_1]
    by_cases e : num i = c
    · rw [if_pos e]; exact go _ (by rw [if_pos e])
    · rw [if_neg e]; exact go _ (by rw [if_neg e])
theorem cn_neg2 : ∀ i, i < 60 → ∀ j, j < 60 → (-2 : Int32) - nI i ≠ nI j := by decide +kernel
theorem cn_sh2 : ∀ t, t < 20 → cn_sh (2 ^ t) = false := by decide +kernel
theorem cn_join2 {D : cn_Dat} (ok : D.ok) {kept : Nat → Int32} {l : Nat → Nat} (hk : cn_KP D kept l) {g : Nat} (hg : cn_Cm D l g g) (hs : cn_sh (cn_nb D l g) = true) (aL aH : Int32) {num : Nat → Int32} (hn : ∀ j, j < D.n → num j = cn_nm kept j) (sp gb G : Nat → Int32) :
    ∃ p' q' code sp' gb' G', p' < q' ∧ q' < D.n ∧ F_X_joinThatShorted D.nop (nI D.n) D.fr D.to D.pin D.x D.y D.ri D.hi D.r kept sp gb (nI g) = some (code, sp', gb') ∧ code.toInt = 0 * 4096 + (p' : Int) * 64 + (q' : Int) ∧ F_M_findJoin (nI D.n) aL aH D.there D.fr D.to D.x D.y D.w D.h D.r D.pin D.nop num G (cn_nm kept g) = some (nI p', nI q', G') := by
  have n60 := ok.n60
  have hc : ∀ i, i < D.n → (num i = cn_nm kept g ↔ cn_Cm D l g i) := fun i hi => by
    rw [hn i hi]
    by_cases s : D.S i
    · rw [hk.nmI ok s hg.1, hg.2]
      exact ⟨fun z => ⟨s, z⟩, fun z => z.2⟩
    · have := hk.le g hg.1
      have hb := ok.lt hg.1
      have hr := cn_rkb kept (i := l g) (by omega)
      rw [hk.nm0 (by omega) s, hk.nm ok hg.1]
      exact ⟨fun z => absurd z.symm (cn_m1 hr), fun z => absurd z.1 s⟩
  obtain ⟨sp0, e0, h0⟩ := cn_clear sp
  obtain ⟨G0, e1, h1⟩ := cn_fj2 ok (aL := aL) (aH := aH) (num := num) (c := cn_nm kept g) D.n 0 4096 G (by omega) (by omega) (fun j hj => by omega)
  have c60 : ∀ i, cn_Cm D l g i → i < 60 := fun i ci => by have := ok.lt ci.1; omega
  have hJ : cn_FJ D l g 0 id G0 := by
    refine ⟨fun i ci => ⟨Nat.le_refl _, ci⟩, fun i _ _ => rfl, fun i ci => ?_, fun i j ci cj => ?_, fun i hi ci j cj => ?_⟩
    · have e : cn_grp D l g id (id i) = D.bN i := by
        apply cn_tbx
        intro t
        rw [cn_grp_tb ok]
        constructor
        · rintro ⟨x, _, ex, hx⟩
          have ex : x = i := ex
          rw [ex] at hx; exact hx
        · intro h; exact ⟨i, ci, rfl, h⟩
      rw [e]
      rcases cn_bNv ok i with ⟨_, h⟩ | ⟨t, ht, _, h, _⟩
      · rw [h]; decide
      · rw [h]; exact cn_sh2 t ht
    · have a := c60 i ci
      have b := c60 j cj
      rw [h1 i (ok.lt ci.1), h1 j (ok.lt cj.1), if_pos ((hc i (ok.lt ci.1)).mpr ci), if_pos ((hc j (ok.lt cj.1)).mpr cj)]
      exact cn_eqI (by omega) (by omega)
    · have b := c60 j cj
      rw [h1 i hi, h1 j (ok.lt cj.1), if_neg (fun z => ci ((hc i hi).mp z)), if_pos ((hc j (ok.lt cj.1)).mpr cj)]
      exact cn_neg2 i (by omega) j b
  have hX : cn_FX D l g 0 id sp0 gb := ⟨⟨fun i hi => by omega, fun i hi _ => h0 i hi⟩, fun i _ hi => by omega⟩
  obtain ⟨p', q', code, sp', gb', G', r1, r2, r3, r4, r5⟩ := cn_fjO ok hk hg hs (aL := aL) (aH := aH) hc D.n 0 4096 id sp0 gb G0 (by omega) (by omega) hJ hX (fun x y _ hy => by omega)
  refine ⟨p', q', code, sp', gb', G', r1, r2, ?_, r4, ?_⟩
  · unfold F_X_joinThatShorted F_X_joinThatShorted_0
    rw [e0, Option.bind_some]
    exact r3
  · unfold F_M_findJoin F_M_findJoin_0
    rw [cn_00, e1]
    exact r5
