/-! PURE: groups -/
def cn_Rep (G : Nat → Prop) (l : Nat → Nat) (f : Nat → Int32) : Prop := (∀ i, G i → i < 60 ∧ f i = nI (l i)) ∧ ∀ i, i < 60 → ¬ G i → f i = -1
theorem cn_fill {N : Nat} (hN : N < 4000) (v : Int32) : ∀ (d i fuel : Nat) (f : Nat → Int32), i + d = N → d < fuel → ∃ g, F_jA_fill_5 N fuel f v (nI i) (nI N) = some g ∧ (∀ j, i ≤ j → j < N → g j = v) ∧ ∀ j, j < i ∨ N ≤ j → g j = f j := by
  intro d
  induction d with
  | zero =>
    intro i fuel f hi hf
    obtain ⟨k, rfl⟩ : ∃ k, fuel = k + 1 := ⟨fuel - 1, by omega⟩
    rw [F_jA_fill_5, if_pos ((cn_leI (by omega) (by omega)).mpr (by omega))]
    exact ⟨f, rfl, fun j h1 h2 => by omega, fun j h => rfl⟩
  | succ d ih =>
    intro i fuel f hi hf
    obtain ⟨k, rfl⟩ : ∃ k, fuel = k + 1 := ⟨fuel - 1, by omega⟩
    rw [F_jA_fill_5, if_neg (fun z => by have := (cn_leI (by omega) (by omega)).mp z; omega), cn_rdI (by omega) (by omega), nI_1, cn_ki (by omega)]
    obtain ⟨g, e, h1, h2⟩ := ih (i + 1) k (upd f i v) (by omega) (by omega)
    refine ⟨g, e, fun j a b => ?_, fun j a => ?_⟩
    · rcases Nat.eq_or_lt_of_le a with q | q
      · rw [h2 j (by omega), cn_up, if_pos q.symm]
      · exact h1 j q b
    · rw [h2 j (by omega), cn_up, if_neg (by omega)]
theorem cn_clear (f : Nat → Int32) : ∃ g, F_G_clear f = some g ∧ (∀ i, i < 60 → g i = -1) := by
  obtain ⟨g, e, h, -⟩ := cn_fill (N := 60) (by omega) (-1) 60 0 4096 f (by omega) (by omega)
  refine ⟨g, ?_, fun i hi => h i (by omega) hi⟩
  unfold F_G_clear F_G_clear_0 F_jA_fill F_jA_fill_0
  rw [show (0 : Int32) = nI 0 by decide, show Int32.ofNat 60 = nI 60 from rfl, e]
  rfl
theorem cn_has {f : Nat → Int32} {i : Nat} (hi : i < 60) : F_G_has f (nI i) = some (if f i = -1 then 0 else 1) := by
  unfold F_G_has F_G_has_0 F_G_has_15
  rw [cn_rdI hi (by decide), cn_ki (by omega)]
  split <;> rfl
theorem cn_has1 {f : Nat → Int32} {i : Nat} (hi : i < 60) (h : f i ≠ -1) : F_G_has f (nI i) = some 1 := by rw [cn_has hi, if_neg h]
theorem cn_has0 {f : Nat → Int32} {i : Nat} (hi : i < 60) (h : f i = -1) : F_G_has f (nI i) = some 0 := by rw [cn_has hi, if_pos h]
theorem cn_leaderOf {f : Nat → Int32} {i : Nat} (hi : i < 60) : F_G_leaderOf f (nI i) = some (f i) := by
  unfold F_G_leaderOf F_G_leaderOf_0
  rw [cn_rdI hi (by decide), cn_ki (by omega)]
theorem cn_minI {a b : Nat} (ha : a < 4096) (hb : b < 4096) : F_jM_min_I (nI a) (nI b) = some (nI (min a b)) := by
  unfold F_jM_min_I F_jM_min_I_0 F_jM_min_I_10
  by_cases q : b < a
  · rw [if_pos ((cn_ltI hb ha).mpr q), Nat.min_eq_right (by omega)]
  · rw [if_neg (fun z => q ((cn_ltI hb ha).mp z)), Nat.min_eq_left (by omega)]
theorem cn_maxI {a b : Nat} (ha : a < 4096) (hb : b < 4096) : F_jM_max_I (nI a) (nI b) = some (nI (max a b)) := by
  unfold F_jM_max_I F_jM_max_I_0 F_jM_max_I_10
  by_cases q : a < b
  · rw [if_pos ((cn_ltI ha hb).mpr q), Nat.max_eq_right (by omega)]
  · rw [if_neg (fun z => q ((cn_ltI ha hb).mp z)), Nat.max_eq_left (by omega)]
theorem cn_joinL (u v : Int32) : ∀ (d i fuel : Nat) (f : Nat → Int32), i + d = 60 → d < fuel → ∃ g, F_G_join_44 fuel f u v (nI i) = some g ∧ (∀ j, i ≤ j → j < 60 → g j = if f j = v then u else f j) ∧ ∀ j, j < i ∨ 60 ≤ j → g j = f j := by
  intro d
  induction d with
  | zero =>
    intro i fuel f hi hf
    obtain ⟨k, rfl⟩ : ∃ k, fuel = k + 1 := ⟨fuel - 1, by omega⟩
    rw [F_G_join_44, cn_60, if_pos ((cn_leI (by omega) (by omega)).mpr (by omega))]
    exact ⟨f, rfl, fun j h1 h2 => by omega, fun j h => rfl⟩
  | succ d ih =>
    intro i fuel f hi hf
    obtain ⟨k, rfl⟩ : ∃ k, fuel = k + 1 := ⟨fuel - 1, by omega⟩
    rw [F_G_join_44, cn_60, if_neg (fun z => by have := (cn_leI (by omega) (by omega)).mp z; omega), cn_rdI (by omega) (by omega), cn_ki (by omega)]
    unfold F_G_join_71
    rw [nI_1]
    by_cases q : f i = v
    · rw [if_pos q, cn_rdI (by omega) (by omega)]
      obtain ⟨g, e, h1, h2⟩ := ih (i + 1) k (upd f i u) (by omega) (by omega)
      refine ⟨g, e, fun j a b => ?_, fun j a => ?_⟩
      · rcases Nat.eq_or_lt_of_le a with z | z
        · rw [h2 j (by omega), cn_up, if_pos z.symm, ← z, if_pos q]
        · have w : upd f i u j = f j := by rw [cn_up, if_neg (by omega)]
          rw [h1 j z b, w]
      · rw [h2 j (by omega), cn_up, if_neg (by omega)]
    · rw [if_neg q]
      obtain ⟨g, e, h1, h2⟩ := ih (i + 1) k f (by omega) (by omega)
      refine ⟨g, e, fun j a b => ?_, fun j a => h2 j (by omega)⟩
      rcases Nat.eq_or_lt_of_le a with z | z
      · rw [h2 j (by omega), ← z, if_neg q]
      · exact h1 j z b
theorem cn_gjoin {G : Nat → Prop} {l : Nat → Nat} {f : Nat → Int32} (hR : cn_Rep G l f) (hl : ∀ i, G i → l i ≤ i) {a b : Nat} (ha : G a) (hb : G b) :
    ∃ g, F_G_join f (nI a) (nI b) = some g ∧ cn_Rep G (fun i => if l i = max (l a) (l b) then min (l a) (l b) else l i) g := by
  have a60 := (hR.1 a ha).1
  have b60 := (hR.1 b hb).1
  have la := hl a ha
  have lb := hl b hb
  unfold F_G_join F_G_join_0
  rw [cn_rdI a60 (by decide), cn_rdI b60 (by decide), cn_ki (by omega), cn_ki (by omega), (hR.1 a ha).2, (hR.1 b hb).2, cn_minI (by omega) (by omega), cn_maxI (by omega) (by omega)]
  simp only [Option.bind_some]
  rw [cn_rdI a60 (by decide), cn_rdI b60 (by decide)]
  by_cases q : l a = l b
  · rw [if_pos (by rw [q]; simp)]
    refine ⟨f, rfl, fun i hi => ⟨(hR.1 i hi).1, ?_⟩, hR.2⟩
    rw [(hR.1 i hi).2]
    show _ = nI (if l i = max (l a) (l b) then min (l a) (l b) else l i)
    split
    · rename_i z; rw [z, q]; simp
    · rfl
  · rw [if_neg (fun z => by have := (cn_eqI (by omega) (by omega)).mp z; omega)]
    obtain ⟨g, e, h1, h2⟩ := cn_joinL (nI (min (l a) (l b))) (nI (max (l a) (l b))) (60 - max (l a) (l b)) (max (l a) (l b)) 4096 f (by omega) (by omega)
    refine ⟨g, e, fun i hi => ⟨(hR.1 i hi).1, ?_⟩, fun i hi hn => ?_⟩
    · have i60 := (hR.1 i hi).1
      have li := hl i hi
      show g i = nI (if l i = max (l a) (l b) then min (l a) (l b) else l i)
      rcases Nat.lt_or_ge i (max (l a) (l b)) with z | z
      · rw [h2 i (by omega), (hR.1 i hi).2, if_neg (by omega)]
      · rw [h1 i z i60, (hR.1 i hi).2]
        by_cases y : l i = max (l a) (l b)
        · rw [if_pos (by rw [y]), if_pos y]
        · rw [if_neg (fun w => y ((cn_eqI (by omega) (by omega)).mp w)), if_neg y]
    · rcases Nat.lt_or_ge i (max (l a) (l b)) with z | z
      · rw [h2 i (by omega)]; exact hR.2 i hi hn
      · rw [h1 i z hi, hR.2 i hi hn, if_neg (fun w => cn_m1 (show max (l a) (l b) < 4096 by omega) w.symm)]
theorem cn_edgesS {S : Nat → Prop} {E E' : Nat → Nat → Prop} {l : Nat → Nat} (h : cn_Canon S E l) (h1 : ∀ a b, S a → S b → E a b → E' a b) (h2 : ∀ a b, S a → S b → E' a b → E a b ∨ E b a ∨ a = b) : cn_Canon S E' l :=
  ⟨h.1, h.2.1, fun a b ha hb he => by
    rcases h2 a b ha hb he with q | q | q
    · exact h.2.2.1 a b ha hb q
    · exact (h.2.2.1 b a hb ha q).symm
    · rw [q], fun f hf i hi => h.2.2.2 f (fun a b ha hb he => hf a b ha hb (h1 a b ha hb he)) i hi⟩
theorem cn_enterL (D : cn_Dat) {G : Nat → Prop} {p : Nat} (hp : p < 60) : ∀ (d b fuel : Nat) (l : Nat → Nat) (f : Nat → Int32), b + d = p → d < fuel → cn_Rep (fun i => G i ∨ i = p) l f →
    cn_Canon (fun i => G i ∨ i = p) (fun x y => (x ≠ p ∧ y ≠ p ∧ D.T x y) ∨ (y = p ∧ x < b ∧ D.T x p)) l →
    ∃ g l', F_X_enter_7 fuel D.fr D.to D.x D.y D.ri D.hi D.r f (nI p) (nI b) = some g ∧ cn_Rep (fun i => G i ∨ i = p) l' g ∧ cn_Canon (fun i => G i ∨ i = p) (fun x y => (x ≠ p ∧ y ≠ p ∧ D.T x y) ∨ (y = p ∧ x < p ∧ D.T x p)) l' := by
  intro d
  induction d with
  | zero =>
    intro b fuel l f hb hf hR hC
    obtain ⟨k, rfl⟩ : ∃ k, fuel = k + 1 := ⟨fuel - 1, by omega⟩
    obtain rfl : b = p := by omega
    rw [F_X_enter_7, if_pos ((cn_leI (by omega) (by omega)).mpr (by omega))]
    exact ⟨f, l, rfl, hR, hC⟩
  | succ d ih =>
    intro b fuel l f hb hf hR hC
    obtain ⟨k, rfl⟩ : ∃ k, fuel = k + 1 := ⟨fuel - 1, by omega⟩
    rw [F_X_enter_7, if_neg (fun z => by have := (cn_leI (by omega) (by omega)).mp z; omega)]
    unfold F_X_enter_38
    rw [nI_1]
    have go : (¬ G b ∨ ¬ D.T b p) → cn_Canon (fun i => G i ∨ i = p) (fun x y => (x ≠ p ∧ y ≠ p ∧ D.T x y) ∨ (y = p ∧ x < b + 1 ∧ D.T x p)) l := fun z => by
      refine cn_edges hC (fun x y hx hy => ⟨fun h => ?_, fun h => ?_⟩)
      · rcases h with h | ⟨h1, h2, h3⟩
        · exact Or.inl h
        · exact Or.inr ⟨h1, by omega, h3⟩
      · rcases h with h | ⟨h1, h2, h3⟩
        · exact Or.inl h
        · refine Or.inr ⟨h1, ?_, h3⟩
          rcases Nat.lt_or_ge x b with q | q
          · exact q
          · exfalso
            obtain rfl : x = b := by omega
            rcases hx with hx | hx
            · exact z.elim (fun z => z hx) (fun z => z h3)
            · omega
    by_cases hG : G b
    · have e1 : f b = nI (l b) := (hR.1 b (Or.inl hG)).2
      have lb := hC.2.1 b (Or.inl hG)
      rw [cn_has1 (by omega) (by rw [e1]; exact cn_m1 (by omega))]
      simp only [Option.bind_some]
      rw [if_neg (by decide), cn_touchX D (by omega) hp]
      simp only [Option.bind_some]
      by_cases hT : D.T b p
      · have hT' : D.tb b p = true := hT
        simp only [hT', if_true]
        rw [if_neg (by decide)]
        obtain ⟨g, e, hg⟩ := cn_gjoin hR hC.2.1 (a := b) (b := p) (Or.inl hG) (Or.inr rfl)
        rw [e]
        simp only [Option.bind_some]
        refine ih (b + 1) k _ g (by omega) (by omega) hg (cn_join hC (Or.inl hG) (Or.inr rfl) (fun x y hx hy => ⟨fun h => ?_, fun h => ?_⟩))
        · rcases h with h | ⟨h1, h2, h3⟩
          · exact Or.inl (Or.inl h)
          · rcases Nat.lt_or_ge x b with q | q
            · exact Or.inl (Or.inr ⟨h1, q, h3⟩)
            · exact Or.inr ⟨by omega, h1⟩
        · rcases h with (h | ⟨h1, h2, h3⟩) | ⟨rfl, rfl⟩
          · exact Or.inl h
          · exact Or.inr ⟨h1, by omega, h3⟩
          · exact Or.inr ⟨rfl, by omega, hT⟩
      · have hT' : D.tb b p = false := by cases h : D.tb b p with | false => rfl | true => exact absurd h hT
        simp only [hT', Bool.false_eq_true, if_false]
        rw [if_pos (by simp)]
        exact ih (b + 1) k l f (by omega) (by omega) hR (go (Or.inr hT))
    · have e1 : f b = -1 := hR.2 b (by omega) (fun z => z.elim hG (fun q => by omega))
      rw [cn_has0 (by omega) e1]
      simp only [Option.bind_some]
      rw [if_pos (by simp)]
      exact ih (b + 1) k l f (by omega) (by omega) hR (go (Or.inl hG))
theorem cn_enter {D : cn_Dat} (ok : D.ok) {G : Nat → Prop} {p : Nat} (hp : p < 60) (hG : ∀ i, G i → i < p) {l : Nat → Nat} {f : Nat → Int32} (hR : cn_Rep G l f) (hC : cn_Canon G D.T l) :
    ∃ g l', F_X_enter D.fr D.to D.x D.y D.ri D.hi D.r f (nI p) = some g ∧ cn_Rep (fun i => G i ∨ i = p) l' g ∧ cn_Canon (fun i => G i ∨ i = p) D.T l' := by
  have hGp : ¬ G p := fun z => Nat.lt_irrefl _ (hG p z)
  unfold F_X_enter F_X_enter_0 F_G_begin F_G_begin_0
  rw [cn_rdI hp (by decide), cn_ki (by omega)]
  simp only [Option.bind_some]
  have hr : cn_Rep (fun i => G i ∨ i = p) (fun i => if i = p then p else l i) (upd f p (nI p)) := by
    refine ⟨fun i hi => ?_, fun i hi hn => ?_⟩
    · rcases hi with hi | hi
      · have := hG i hi
        refine ⟨(hR.1 i hi).1, ?_⟩
        rw [cn_up, if_neg (by omega), (hR.1 i hi).2]
        show _ = nI (if i = p then p else l i)
        rw [if_neg (by omega)]
      · refine ⟨by omega, ?_⟩
        rw [cn_up, if_pos hi]
        show _ = nI (if i = p then p else l i)
        rw [if_pos hi]
    · rw [cn_up, if_neg (fun z => hn (Or.inr z))]
      exact hR.2 i hi (fun z => hn (Or.inl z))
  have hc : cn_Canon (fun i => G i ∨ i = p) (fun x y => (x ≠ p ∧ y ≠ p ∧ D.T x y) ∨ (y = p ∧ x < 0 ∧ D.T x p)) (fun i => if i = p then p else l i) := by
    refine cn_begin (cn_edges hC (fun a b ha hb => ⟨fun h => ?_, fun h => ?_⟩)) hGp (fun i => Iff.rfl) (fun x hx => ⟨?_, ?_⟩)
    · exact Or.inl ⟨fun z => hGp (z ▸ ha), fun z => hGp (z ▸ hb), h⟩
    · rcases h with ⟨-, -, h⟩ | ⟨-, h, -⟩
      · exact h
      · omega
    · rintro (⟨-, h, -⟩ | ⟨-, h, -⟩)
      · exact h rfl
      · omega
    · rintro (⟨h, -, -⟩ | ⟨-, h, -⟩)
      · exact h rfl
      · omega
  obtain ⟨g, l', e, h1, h2⟩ := cn_enterL D (G := G) hp p 0 4096 (fun i => if i = p then p else l i) (upd f p (nI p)) (by omega) (by omega) hr hc
  refine ⟨g, l', e, h1, cn_edgesS h2 (fun a b ha hb he => ?_) (fun a b ha hb he => ?_)⟩
  · rcases he with ⟨-, -, h⟩ | ⟨h, -, h3⟩
    · exact h
    · rw [h]; exact h3
  · by_cases qa : a = p
    · by_cases qb : b = p
      · exact Or.inr (Or.inr (qa.trans qb.symm))
      · have hb2 := hG b (hb.resolve_right qb)
        exact Or.inr (Or.inl (Or.inr ⟨qa, hb2, by rw [qa] at he; exact ok.TS he⟩))
    · have ha2 := hG a (ha.resolve_right qa)
      by_cases qb : b = p
      · exact Or.inl (Or.inr ⟨qb, ha2, by rw [qb] at he; exact he⟩)
      · exact Or.inl (Or.inl ⟨qa, qb, he⟩)
