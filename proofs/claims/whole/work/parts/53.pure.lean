/-! PURE: the kept groups -/
def cn_Kept (D : cn_Dat) (f : Nat → Int32) : Prop := ∃ l, cn_Rep D.S l f ∧ cn_Canon D.S D.T l
theorem cn_empty {E : Nat → Nat → Prop} {l : Nat → Nat} : cn_Canon (fun _ => False) E l := ⟨fun _ h => h.elim, fun _ h => h.elim, fun _ _ h => h.elim, fun _ _ _ h => h.elim⟩
theorem cn_repE {f : Nat → Int32} {l : Nat → Nat} (h : ∀ i, i < 60 → f i = -1) : cn_Rep (fun _ => False) l f := ⟨fun _ h => h.elim, fun i hi _ => h i hi⟩
theorem cn_repS {G G' : Nat → Prop} {l : Nat → Nat} {f : Nat → Int32} (h : cn_Rep G l f) (e : ∀ i, G i ↔ G' i) : cn_Rep G' l f := by
  have : G = G' := funext fun i => propext (e i)
  rw [← this]; exact h
theorem cn_sameL {D : cn_Dat} (ok : D.ok) {kept : Nat → Int32} (hK : cn_Kept D kept) : ∀ (d i fuel : Nat) (f : Nat → Int32) (l : Nat → Nat), i + d = D.n → d < fuel → cn_Rep (fun j => D.S j ∧ j < i) l f → cn_Canon (fun j => D.S j ∧ j < i) D.T l →
    ∃ g, F_X_same_9 fuel (nI D.n) D.there D.fr D.to D.x D.y D.ri D.hi D.r kept f (nI i) = some (1, g) := by
  have n60 := ok.n60
  intro d
  induction d with
  | zero =>
    intro i fuel f l hi hf hR hC
    obtain ⟨k, rfl⟩ : ∃ k, fuel = k + 1 := ⟨fuel - 1, by omega⟩
    rw [F_X_same_9, if_pos ((cn_leI (by omega) (by omega)).mpr (by omega))]
    have hs : ∀ j, (D.S j ∧ j < i) ↔ D.S j := fun j => ⟨fun h => h.1, fun h => ⟨h, by have := ok.lt h; omega⟩⟩
    have hR := cn_repS hR hs
    have hC := cn_sets hC hs
    obtain ⟨l2, hR2, hC2⟩ := hK
    have eq : ∀ j, j < 60 → f j = kept j := fun j hj => by
      by_cases q : D.S j
      · rw [(hR.1 j q).2, (hR2.1 j q).2, cn_uniq hC hC2 j q]
      · rw [hR.2 j hj q, hR2.2 j hj q]
    have like : ∀ (d i fuel : Nat), i + d = 60 → d < fuel → F_G_isLike_2 fuel f kept (nI i) = some 1 := by
      intro d
      induction d with
      | zero =>
        intro i fuel hi hf
        obtain ⟨k, rfl⟩ : ∃ k, fuel = k + 1 := ⟨fuel - 1, by omega⟩
        rw [F_G_isLike_2, cn_60, if_pos ((cn_leI (by omega) (by omega)).mpr (by omega))]
      | succ d ih =>
        intro i fuel hi hf
        obtain ⟨k, rfl⟩ : ∃ k, fuel = k + 1 := ⟨fuel - 1, by omega⟩
        rw [F_G_isLike_2, cn_60, if_neg (fun z => by have := (cn_leI (by omega) (by omega)).mp z; omega), cn_rdI (by omega) (by omega), cn_rdI (by omega) (by omega), cn_ki (by omega), if_pos (eq i (by omega)), nI_1]
        exact ih (i + 1) k (by omega) (by omega)
    have e : F_G_isLike f kept = some 1 := by
      unfold F_G_isLike F_G_isLike_0
      rw [show (0 : Int32) = nI 0 by decide]
      exact like 60 0 4096 (by omega) (by omega)
    rw [e]
    exact ⟨f, rfl⟩
  | succ d ih =>
    intro i fuel f l hi hf hR hC
    obtain ⟨k, rfl⟩ : ∃ k, fuel = k + 1 := ⟨fuel - 1, by omega⟩
    rw [F_X_same_9, if_neg (fun z => by have := (cn_leI (by omega) (by omega)).mp z; omega)]
    unfold F_X_same_40 F_P_isThere F_P_isThere_0
    rw [cn_rdI (by omega) (by omega), cn_ki (by omega), nI_1]
    by_cases q : D.there i = 0
    · rw [q]
      simp only [cn_bl0, Option.bind_some]
      rw [if_pos (by simp)]
      have hs : ∀ j, (D.S j ∧ j < i) ↔ (D.S j ∧ j < i + 1) := fun j => ⟨fun h => ⟨h.1, by omega⟩, fun h => ⟨h.1, by
        rcases Nat.lt_or_ge j i with z | z
        · exact z
        · exact absurd (show D.there j = 0 by rw [show j = i by omega]; exact q) h.1⟩⟩
      exact ih (i + 1) k f l (by omega) (by omega) (cn_repS hR hs) (cn_sets hC hs)
    · have q1 : D.there i = 1 := (ok.th i).resolve_left q
      rw [q1]
      simp only [cn_bl1, Option.bind_some]
      rw [if_neg (by decide)]
      obtain ⟨g, l', e, h1, h2⟩ := cn_enter ok (p := i) (by omega) (fun j h => h.2) hR hC
      rw [e]
      simp only [Option.bind_some]
      have hs : ∀ j, ((D.S j ∧ j < i) ∨ j = i) ↔ (D.S j ∧ j < i + 1) := fun j => ⟨fun h => by
        rcases h with h | h
        · exact ⟨h.1, by omega⟩
        · exact ⟨by rw [h]; exact q, by omega⟩, fun h => by
        rcases Nat.lt_or_ge j i with z | z
        · exact Or.inl ⟨h.1, z⟩
        · exact Or.inr (by omega)⟩
      exact ih (i + 1) k g l' (by omega) (by omega) (cn_repS h1 hs) (cn_sets h2 hs)
theorem cn_same {D : cn_Dat} (ok : D.ok) {kept : Nat → Int32} (hK : cn_Kept D kept) (sp : Nat → Int32) : ∃ g, F_X_same (nI D.n) D.there D.fr D.to D.x D.y D.ri D.hi D.r kept sp = some (1, g) := by
  obtain ⟨f, e, h⟩ := cn_clear sp
  unfold F_X_same F_X_same_0
  rw [e]
  simp only [Option.bind_some]
  rw [show (0 : Int32) = nI 0 by decide]
  have hs : ∀ j, False ↔ (D.S j ∧ j < 0) := fun j => ⟨fun h => h.elim, fun h => by omega⟩
  exact cn_sameL ok hK D.n 0 4096 f id (by omega) (by have := ok.n60; omega) (cn_repS (cn_repE h) hs) (cn_sets cn_empty hs)
/-- parting: the first loop -/
theorem cn_partA {D : cn_Dat} (ok : D.ok) {f1 : Nat → Int32} {P : Nat → Prop} {v : Int32} (hP : ∀ j, j < D.n → (f1 j = v ↔ P j)) {α : Type} (Z : Option ((Nat → Int32) × (Nat → Int32)) → Prop)
    (hZ : ∀ g l, cn_Rep (fun j => P j ∧ j < D.n) l g → cn_Canon (fun j => P j ∧ j < D.n) D.T l → Z (F_X_partWithout_66 4096 (nI D.n) D.fr D.to D.x D.y D.ri D.hi D.r f1 g 0)) :
    ∀ (d i fuel : Nat) (f : Nat → Int32) (l : Nat → Nat), i + d = D.n → d < fuel → cn_Rep (fun j => P j ∧ j < i) l f → cn_Canon (fun j => P j ∧ j < i) D.T l →
    Z (F_X_partWithout_26 fuel (nI D.n) D.fr D.to D.x D.y D.ri D.hi D.r f1 f v (nI i)) := by
  have n60 := ok.n60
  intro d
  induction d with
  | zero =>
    intro i fuel f l hi hf hR hC
    obtain ⟨k, rfl⟩ : ∃ k, fuel = k + 1 := ⟨fuel - 1, by omega⟩
    obtain rfl : i = D.n := by omega
    rw [F_X_partWithout_26, if_pos ((cn_leI (by omega) (by omega)).mpr (by omega))]
    exact hZ f l hR hC
  | succ d ih =>
    intro i fuel f l hi hf hR hC
    obtain ⟨k, rfl⟩ : ∃ k, fuel = k + 1 := ⟨fuel - 1, by omega⟩
    rw [F_X_partWithout_26, if_neg (fun z => by have := (cn_leI (by omega) (by omega)).mp z; omega), cn_leaderOf (by omega)]
    unfold F_X_partWithout_58
    rw [nI_1]
    simp only [Option.bind_some]
    by_cases q : f1 i = v
    · rw [if_pos q]
      obtain ⟨g, l', e, h1, h2⟩ := cn_enter ok (p := i) (by omega) (fun j h => h.2) hR hC
      rw [e]
      simp only [Option.bind_some]
      have hs : ∀ j, ((P j ∧ j < i) ∨ j = i) ↔ (P j ∧ j < i + 1) := fun j => ⟨fun h => by
        rcases h with h | h
        · exact ⟨h.1, by omega⟩
        · exact ⟨by rw [h]; exact (hP i (by omega)).mp q, by omega⟩, fun h => by
        rcases Nat.lt_or_ge j i with z | z
        · exact Or.inl ⟨h.1, z⟩
        · exact Or.inr (by omega)⟩
      exact ih (i + 1) k g l' (by omega) (by omega) (cn_repS h1 hs) (cn_sets h2 hs)
    · rw [if_neg q]
      have hs : ∀ j, (P j ∧ j < i) ↔ (P j ∧ j < i + 1) := fun j => ⟨fun h => ⟨h.1, by omega⟩, fun h => ⟨h.1, by
        rcases Nat.lt_or_ge j i with z | z
        · exact z
        · exact absurd ((hP i (by omega)).mpr (by rw [show i = j by omega]; exact h.1)) q⟩⟩
      exact ih (i + 1) k f l (by omega) (by omega) (cn_repS hR hs) (cn_sets hC hs)
/-- parting: the second loop -/
theorem cn_partB {n : Nat} (n60 : n ≤ 60) {a1 a2 : Nat → Int32} {b1 b2 b3 b4 b5 : Nat → Int64} {sp : Nat → Int32} : ∀ (d i fuel : Nat) (f : Nat → Int32), i + d = n → d < fuel →
    ∃ g, F_X_partWithout_66 fuel (nI n) a1 a2 b1 b2 b3 b4 b5 f sp (nI i) = some (g, sp) ∧ (∀ j, i ≤ j → j < n → g j = if sp j = -1 then f j else sp j) ∧ ∀ j, j < i ∨ n ≤ j → g j = f j := by
  intro d
  induction d with
  | zero =>
    intro i fuel f hi hf
    obtain ⟨k, rfl⟩ : ∃ k, fuel = k + 1 := ⟨fuel - 1, by omega⟩
    rw [F_X_partWithout_66, if_pos ((cn_leI (by omega) (by omega)).mpr (by omega))]
    exact ⟨f, rfl, fun j h1 h2 => by omega, fun j h => rfl⟩
  | succ d ih =>
    intro i fuel f hi hf
    obtain ⟨k, rfl⟩ : ∃ k, fuel = k + 1 := ⟨fuel - 1, by omega⟩
    rw [F_X_partWithout_66, if_neg (fun z => by have := (cn_leI (by omega) (by omega)).mp z; omega), cn_leaderOf (by omega)]
    unfold F_X_partWithout_104 F_G_follow F_G_follow_0
    rw [nI_1]
    by_cases q : sp i = -1
    · rw [cn_has0 (by omega) q]
      simp only [Option.bind_some]
      rw [if_pos (by simp)]
      obtain ⟨g, e, h1, h2⟩ := ih (i + 1) k f (by omega) (by omega)
      refine ⟨g, e, fun j a b => ?_, fun j a => h2 j (by omega)⟩
      rcases Nat.eq_or_lt_of_le a with z | z
      · rw [h2 j (by omega), ← z, if_pos q]
      · exact h1 j z b
    · rw [cn_has1 (by omega) q]
      simp only [Option.bind_some]
      rw [if_neg (by decide), cn_rdI (by omega) (by omega), cn_ki (by omega)]
      simp only [Option.bind_some]
      obtain ⟨g, e, h1, h2⟩ := ih (i + 1) k (upd f i (sp i)) (by omega) (by omega)
      refine ⟨g, e, fun j a b => ?_, fun j a => ?_⟩
      · rcases Nat.eq_or_lt_of_le a with z | z
        · rw [h2 j (by omega), cn_up, if_pos z.symm, ← z, if_neg q]
        · rw [h1 j z b, cn_up, if_neg (show ¬ j = i by omega)]
      · rw [h2 j (by omega), cn_up, if_neg (by omega)]
theorem cn_drop {D : cn_Dat} (ok : D.ok) {kept : Nat → Int32} (hK : cn_Kept D kept) (sp : Nat → Int32) {p : Nat} (hp : D.S p) :
    ∃ g sp', F_X_partWithout (nI D.n) D.fr D.to D.x D.y D.ri D.hi D.r kept sp (nI p) = some (g, sp') ∧ cn_Kept (D.wo p) g := by
  obtain ⟨l, hR, hC⟩ := hK
  have n60 := ok.n60
  have pn := ok.lt hp
  obtain ⟨c, ec, hc⟩ := cn_clear sp
  have lp := hC.2.1 p hp
  let P : Nat → Prop := fun i => D.S i ∧ i ≠ p ∧ l i = l p
  have hP : ∀ j, j < D.n → ((upd kept p (-1)) j = nI (l p) ↔ P j) := fun j hj => by
    rw [cn_up]
    by_cases q : j = p
    · rw [if_pos q]
      exact ⟨fun z => absurd z.symm (cn_m1 (by omega)), fun z => absurd q z.2.1⟩
    · rw [if_neg q]
      by_cases s : D.S j
      · have lj := hC.2.1 j s
        rw [(hR.1 j s).2, cn_eqI (by omega) (by omega)]
        exact ⟨fun z => ⟨s, q, z⟩, fun z => z.2.2⟩
      · rw [hR.2 j (by omega) s]
        exact ⟨fun z => absurd z.symm (cn_m1 (by omega)), fun z => absurd z.1 s⟩
  unfold F_X_partWithout F_X_partWithout_0 F_G_leave F_G_leave_0
  rw [cn_leaderOf (by omega), cn_rdI (by omega) (by omega), cn_ki (by omega), (hR.1 p hp).2, ec]
  simp only [Option.bind_some]
  have hs0 : ∀ j, False ↔ (P j ∧ j < 0) := fun j => ⟨fun h => h.elim, fun h => by omega⟩
  rw [show (0 : Int32) = nI 0 by decide]
  refine cn_partA ok hP (α := Unit) (fun o => ∃ g sp', o = some (g, sp') ∧ cn_Kept (D.wo p) g) ?_ D.n 0 4096 c id (by omega) (by omega) (cn_repS (cn_repE hc) hs0) (cn_sets cn_empty hs0)
  intro g l2 hR2 hC2
  have hs : ∀ j, (P j ∧ j < D.n) ↔ P j := fun j => ⟨fun h => h.1, fun h => ⟨h, ok.lt h.1⟩⟩
  have hR2 := cn_repS hR2 hs
  have hC2 := cn_sets hC2 hs
  rw [show (0 : Int32) = nI 0 by decide]
  obtain ⟨f', e, h1, h2⟩ := cn_partB n60 (a1 := D.fr) (a2 := D.to) (b1 := D.x) (b2 := D.y) (b3 := D.ri) (b4 := D.hi) (b5 := D.r) (sp := g) D.n 0 4096 (upd kept p (-1)) (by omega) (by omega)
  have hS : ∀ i, (D.wo p).S i ↔ D.S i ∧ i ≠ p := fun i => by
    show upd D.there p 0 i ≠ 0 ↔ _
    rw [cn_up]
    by_cases q : i = p
    · rw [if_pos q]; exact ⟨fun z => absurd rfl z, fun z => absurd q z.2⟩
    · rw [if_neg q]; exact ⟨fun z => ⟨z, q⟩, fun z => z.1⟩
  refine ⟨f', g, e, fun i => if l i = l p then l2 i else l i, ?_, cn_part hC hp (fun i => Iff.rfl) hS hC2⟩
  refine ⟨fun i hi => ?_, fun i hi hn => ?_⟩
  · obtain ⟨s, ne⟩ := (hS i).mp hi
    have i60 := (hR.1 i s).1
    refine ⟨i60, ?_⟩
    rw [h1 i (by omega) (ok.lt s)]
    show _ = nI (if l i = l p then l2 i else l i)
    by_cases q : l i = l p
    · have hPi : P i := ⟨s, ne, q⟩
      have := hC2.2.1 i hPi
      rw [if_pos q, (hR2.1 i hPi).2, if_neg (cn_m1 (by omega))]
    · rw [if_neg q, hR2.2 i i60 (fun z => q z.2.2), if_pos rfl, cn_up, if_neg ne, (hR.1 i s).2]
  · have ng : ¬ P i := fun z => hn ((hS i).mpr ⟨z.1, z.2.1⟩)
    have e0 : upd kept p (-1) i = -1 := by
      rw [cn_up]
      by_cases q : i = p
      · rw [if_pos q]
      · rw [if_neg q]; exact hR.2 i hi (fun z => hn ((hS i).mpr ⟨z, q⟩))
    rcases Nat.lt_or_ge i D.n with q | q
    · rw [h1 i (by omega) q, hR2.2 i hi ng, if_pos rfl, e0]
    · rw [h2 i (by omega), e0]
/-! PURE: how many below -/
def cn_ct (p : Nat → Bool) : Nat → Nat
  | 0 => 0
  | m + 1 => cn_ct p m + (if p m then 1 else 0)
theorem cn_ct_le (p : Nat → Bool) : ∀ m, cn_ct p m ≤ m
  | 0 => Nat.le_refl 0
  | m + 1 => by
    have := cn_ct_le p m
    show cn_ct p m + (if p m then 1 else 0) ≤ m + 1
    split <;> omega
theorem cn_ct_mono (p : Nat → Bool) {a b : Nat} (h : a ≤ b) : cn_ct p a ≤ cn_ct p b := by
  induction b with
  | zero => rw [show a = 0 by omega]; exact Nat.le_refl _
  | succ b ih =>
    rcases Nat.eq_or_lt_of_le h with q | q
    · rw [q]; exact Nat.le_refl _
    · have := ih (by omega)
      show cn_ct p a ≤ cn_ct p b + (if p b then 1 else 0)
      omega
theorem cn_ct_lt (p : Nat → Bool) {a b : Nat} (h : a < b) (ha : p a = true) : cn_ct p a < cn_ct p b := by
  have := cn_ct_mono p (show a + 1 ≤ b from h)
  have e : cn_ct p (a + 1) = cn_ct p a + 1 := by show cn_ct p a + (if p a then 1 else 0) = _; rw [if_pos ha]
  omega
theorem cn_ct_inj (p : Nat → Bool) {a b : Nat} (ha : p a = true) (hb : p b = true) (h : cn_ct p a = cn_ct p b) : a = b := by
  rcases Nat.lt_trichotomy a b with q | q | q
  · have := cn_ct_lt p q ha; omega
  · exact q
  · have := cn_ct_lt p q hb; omega
theorem cn_ct_ext {p q : Nat → Bool} {m : Nat} (h : ∀ i, i < m → p i = q i) : cn_ct p m = cn_ct q m := by
  induction m with
  | zero => rfl
  | succ m ih =>
    show cn_ct p m + (if p m then 1 else 0) = cn_ct q m + (if q m then 1 else 0)
    rw [ih (fun i hi => h i (by omega)), h m (by omega)]
abbrev cn_ld (f : Nat → Int32) : Nat → Bool := fun j => decide (f j = nI j)
theorem cn_belowL {f : Nat → Int32} {m : Nat} (hm : m ≤ 60) : ∀ (d i fuel : Nat), i + d = m → d < fuel → F_X_leadersBelow_4 fuel f (nI m) (nI (cn_ct (cn_ld f) i)) (nI i) = some (nI (cn_ct (cn_ld f) m)) := by
  intro d
  induction d with
  | zero =>
    intro i fuel hi hf
    obtain ⟨k, rfl⟩ : ∃ k, fuel = k + 1 := ⟨fuel - 1, by omega⟩
    rw [F_X_leadersBelow_4, if_pos ((cn_leI (by omega) (by omega)).mpr (by omega)), show i = m by omega]
  | succ d ih =>
    intro i fuel hi hf
    obtain ⟨k, rfl⟩ : ∃ k, fuel = k + 1 := ⟨fuel - 1, by omega⟩
    rw [F_X_leadersBelow_4, if_neg (fun z => by have := (cn_leI (by omega) (by omega)).mp z; omega), cn_leaderOf (by omega)]
    unfold F_X_leadersBelow_24
    rw [nI_1, nI_1]
    simp only [Option.bind_some]
    have := ih (i + 1) k (by omega) (by omega)
    have e : cn_ct (cn_ld f) (i + 1) = cn_ct (cn_ld f) i + (if cn_ld f i then 1 else 0) := rfl
    by_cases q : f i = nI i
    · rw [if_pos q]
      rw [if_pos (decide_eq_true q)] at e
      rw [← e]; exact this
    · rw [if_neg q]
      rw [if_neg (by simp [q])] at e
      rw [e] at this; exact this
theorem cn_below {f : Nat → Int32} {m : Nat} (hm : m ≤ 60) : F_X_leadersBelow f (nI m) = some (nI (cn_ct (cn_ld f) m)) := by
  unfold F_X_leadersBelow F_X_leadersBelow_0
  exact cn_belowL hm m 0 4096 (by omega) (by omega)
