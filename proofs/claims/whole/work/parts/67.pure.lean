/-! PURE: the join that shorts, on both sides -/
theorem cn_orf_tb {D : cn_Dat} {q : Nat → Bool} : ∀ (m t : Nat), (cn_orf D q m).testBit t = true ↔ ∃ p, p < m ∧ q p = true ∧ (D.bN p).testBit t = true
  | 0, t => by
    constructor
    · intro h; rw [show cn_orf D q 0 = 0 from rfl, Nat.zero_testBit] at h; exact absurd h (by decide)
    · rintro ⟨p, hp, _⟩; omega
  | m + 1, t => by
    have ih := @cn_orf_tb D q m t
    cases hq : q m with
    | false =>
      rw [cn_orf0 hq, ih]
      constructor
      · rintro ⟨p, h1, h2⟩; exact ⟨p, by omega, h2⟩
      · rintro ⟨p, h1, h2, h3⟩
        refine ⟨p, ?_, h2, h3⟩
        rcases Nat.lt_or_ge p m with z | z
        · exact z
        · obtain rfl : p = m := by omega
          rw [hq] at h2; exact absurd h2 (by decide)
    | true =>
      rw [cn_orf1 hq, Nat.testBit_or, Bool.or_eq_true, ih]
      constructor
      · rintro (⟨p, h1, h2⟩ | h)
        · exact ⟨p, by omega, h2⟩
        · exact ⟨m, by omega, hq, h⟩
      · rintro ⟨p, h1, h2, h3⟩
        rcases Nat.lt_or_ge p m with z | z
        · exact Or.inl ⟨p, z, h2, h3⟩
        · obtain rfl : p = m := by omega
          exact Or.inr h3
theorem cn_tbx {a b : Nat} (h : ∀ t, a.testBit t = true ↔ b.testBit t = true) : a = b := by
  apply Nat.eq_of_testBit_eq
  intro i
  have := h i
  cases x : a.testBit i <;> cases y : b.testBit i <;> simp_all
abbrev cn_Cm (D : cn_Dat) (l : Nat → Nat) (g : Nat) (i : Nat) : Prop := D.S i ∧ l i = g
def cn_grp (D : cn_Dat) (l : Nat → Nat) (g : Nat) (m : Nat → Nat) (v : Nat) : Nat := cn_orf D (fun p => decide (cn_Cm D l g p ∧ m p = v)) D.n
theorem cn_grpb {D : cn_Dat} (ok : D.ok) (l : Nat → Nat) (g : Nat) (m : Nat → Nat) (v : Nat) : cn_grp D l g m v < 2 ^ 20 := cn_orfb ok _ _
theorem cn_grp_tb {D : cn_Dat} (ok : D.ok) {l : Nat → Nat} {g : Nat} {m : Nat → Nat} {v t : Nat} : (cn_grp D l g m v).testBit t = true ↔ ∃ p, cn_Cm D l g p ∧ m p = v ∧ (D.bN p).testBit t = true := by
  unfold cn_grp
  rw [cn_orf_tb]
  constructor
  · rintro ⟨p, h1, h2, h3⟩
    have h2 := of_decide_eq_true h2
    exact ⟨p, h2.1, h2.2, h3⟩
  · rintro ⟨p, h1, h2, h3⟩
    exact ⟨p, ok.lt h1.1, decide_eq_true ⟨h1, h2⟩, h3⟩
/-- the new labels -/
def cn_mrg (m : Nat → Nat) (a b : Nat) (i : Nat) : Nat := if m i = max a b then min a b else m i
theorem cn_mrg_in {m : Nat → Nat} {a b i : Nat} (h : m i = a ∨ m i = b) : cn_mrg m a b i = min a b := by
  unfold cn_mrg
  split
  · rfl
  · omega
theorem cn_mrg_out {m : Nat → Nat} {a b i : Nat} (h : ¬ (m i = a ∨ m i = b)) : cn_mrg m a b i = m i := by
  unfold cn_mrg
  rw [if_neg (by omega)]
theorem cn_mrg_eq {m : Nat → Nat} {a : Nat} : cn_mrg m a a = m := by
  funext i
  unfold cn_mrg
  split
  · omega
  · rfl
theorem cn_grp_in {D : cn_Dat} (ok : D.ok) {l : Nat → Nat} {g : Nat} {m : Nat → Nat} {a b : Nat} : cn_grp D l g (cn_mrg m a b) (min a b) = cn_grp D l g m a ||| cn_grp D l g m b := by
  apply cn_tbx
  intro t
  rw [Nat.testBit_or, Bool.or_eq_true, cn_grp_tb ok, cn_grp_tb ok, cn_grp_tb ok]
  constructor
  · rintro ⟨p, h1, h2, h3⟩
    by_cases z : m p = a ∨ m p = b
    · rcases z with z | z
      · exact Or.inl ⟨p, h1, z, h3⟩
      · exact Or.inr ⟨p, h1, z, h3⟩
    · rw [cn_mrg_out z] at h2; omega
  · rintro (⟨p, h1, h2, h3⟩ | ⟨p, h1, h2, h3⟩)
    · exact ⟨p, h1, cn_mrg_in (Or.inl h2), h3⟩
    · exact ⟨p, h1, cn_mrg_in (Or.inr h2), h3⟩
theorem cn_grp_out {D : cn_Dat} (ok : D.ok) {l : Nat → Nat} {g : Nat} {m : Nat → Nat} {a b v : Nat} (ha : v ≠ a) (hb : v ≠ b) : cn_grp D l g (cn_mrg m a b) v = cn_grp D l g m v := by
  apply cn_tbx
  intro t
  rw [cn_grp_tb ok, cn_grp_tb ok]
  constructor
  · rintro ⟨p, h1, h2, h3⟩
    by_cases z : m p = a ∨ m p = b
    · rw [cn_mrg_in z] at h2; omega
    · rw [cn_mrg_out z] at h2; exact ⟨p, h1, h2, h3⟩
  · rintro ⟨p, h1, h2, h3⟩
    exact ⟨p, h1, by rw [cn_mrg_out (by omega)]; exact h2, h3⟩
def cn_FJ (D : cn_Dat) (l : Nat → Nat) (g q : Nat) (m : Nat → Nat) (G : Nat → Int32) : Prop :=
  (∀ i, cn_Cm D l g i → m i ≤ i ∧ cn_Cm D l g (m i)) ∧ (∀ i, cn_Cm D l g i → q ≤ i → m i = i) ∧ (∀ i, cn_Cm D l g i → cn_sh (cn_grp D l g m (m i)) = false) ∧
  (∀ i j, cn_Cm D l g i → cn_Cm D l g j → (G i = G j ↔ m i = m j)) ∧ (∀ i, i < D.n → ¬ cn_Cm D l g i → ∀ j, cn_Cm D l g j → G i ≠ G j)
def cn_FX (D : cn_Dat) (l : Nat → Nat) (g q : Nat) (m : Nat → Nat) (f gb : Nat → Int32) : Prop :=
  cn_Rep (fun i => cn_Cm D l g i ∧ i < q) m f ∧ ∀ i, cn_Cm D l g i → i < q → gb (m i) = nI (cn_grp D l g m (m i))
theorem cn_FJ.join {D : cn_Dat} (ok : D.ok) {l : Nat → Nat} {g q : Nat} {m : Nat → Nat} {G G' : Nat → Int32} (h : cn_FJ D l g (q + 1) m G) {p : Nat} (hp : cn_Cm D l g p) (hq : cn_Cm D l g q) (hpq : p < q)
    (hs : cn_sh (cn_grp D l g m (m p) ||| cn_grp D l g m (m q)) = false) (hG : ∀ j, j < D.n → G' j = if G j = G q then G p else G j) : cn_FJ D l g (q + 1) (cn_mrg m (m p) (m q)) G' := by
  obtain ⟨h1, h2, h3, h4, h5⟩ := h
  have ap := h1 p hp
  have aq := h1 q hq
  have gin : ∀ i, cn_Cm D l g i → (m i = m p ∨ m i = m q) → G' i = G p := fun i ci z => by
    rw [hG i (ok.lt ci.1)]
    rcases z with z | z
    · by_cases w : G i = G q
      · rw [if_pos w]
      · rw [if_neg w]; exact (h4 i p ci hp).mpr z
    · rw [if_pos ((h4 i q ci hq).mpr z)]
  have gout : ∀ i, cn_Cm D l g i → ¬ (m i = m p ∨ m i = m q) → G' i = G i ∧ G i ≠ G p := fun i ci z => by
    rw [hG i (ok.lt ci.1), if_neg (fun w => z (Or.inr ((h4 i q ci hq).mp w)))]
    exact ⟨rfl, fun w => z (Or.inl ((h4 i p ci hp).mp w))⟩
  refine ⟨fun i ci => ?_, fun i ci hi => ?_, fun i ci => ?_, fun i j ci cj => ?_, fun i hi ci j cj => ?_⟩
  · have ai := h1 i ci
    by_cases z : m i = m p ∨ m i = m q
    · rw [cn_mrg_in z]
      refine ⟨by omega, ?_⟩
      rcases Nat.le_total (m p) (m q) with w | w
      · rw [Nat.min_eq_left w]; exact ap.2
      · rw [Nat.min_eq_right w]; exact aq.2
    · rw [cn_mrg_out z]; exact ai
  · have e := h2 i ci hi
    rw [cn_mrg_out (by omega)]; exact e
  · by_cases z : m i = m p ∨ m i = m q
    · rw [cn_mrg_in z, cn_grp_in ok]; exact hs
    · rw [cn_mrg_out z, cn_grp_out ok (fun w => z (Or.inl w)) (fun w => z (Or.inr w))]; exact h3 i ci
  · by_cases zi : m i = m p ∨ m i = m q
    · rw [gin i ci zi, cn_mrg_in zi]
      by_cases zj : m j = m p ∨ m j = m q
      · rw [gin j cj zj, cn_mrg_in zj]; exact ⟨fun _ => rfl, fun _ => rfl⟩
      · obtain ⟨e, ne⟩ := gout j cj zj
        rw [e, cn_mrg_out zj]
        exact ⟨fun w => absurd w.symm ne, fun w => by omega⟩
    · obtain ⟨e, ne⟩ := gout i ci zi
      rw [e, cn_mrg_out zi]
      by_cases zj : m j = m p ∨ m j = m q
      · rw [gin j cj zj, cn_mrg_in zj]
        exact ⟨fun w => absurd w ne, fun w => by omega⟩
      · rw [(gout j cj zj).1, cn_mrg_out zj]; exact h4 i j ci cj
  · have a := h5 i hi ci
    rw [hG i hi, if_neg (a q hq)]
    by_cases zj : m j = m p ∨ m j = m q
    · rw [gin j cj zj]; exact a p hp
    · rw [(gout j cj zj).1]; exact a j cj
theorem cn_FX.join {D : cn_Dat} (ok : D.ok) {l : Nat → Nat} {g q : Nat} {m : Nat → Nat} {f f' gb : Nat → Int32} (h : cn_FX D l g (q + 1) m f gb) {p : Nat} (hf : cn_Rep (fun i => cn_Cm D l g i ∧ i < q + 1) (cn_mrg m (m p) (m q)) f') :
    cn_FX D l g (q + 1) (cn_mrg m (m p) (m q)) f' (upd gb (min (m p) (m q)) (nI (cn_grp D l g m (m p) ||| cn_grp D l g m (m q)))) := by
  refine ⟨hf, fun i ci hi => ?_⟩
  rw [cn_up]
  by_cases z : m i = m p ∨ m i = m q
  · rw [cn_mrg_in z, if_pos rfl, cn_grp_in ok]
  · rw [cn_mrg_out z, if_neg (by omega), cn_grp_out ok (fun w => z (Or.inl w)) (fun w => z (Or.inr w))]
    exact h.2 i ci hi
/-- the reference's planned nets of a group -/
theorem cn_ngL {D : cn_Dat} (ok : D.ok) {G : Nat → Int32} {c : Int32} : ∀ (d i fuel : Nat), i + d = D.n → d < fuel →
    F_M_netsOfGroup_4 fuel (nI D.n) D.there D.pin D.nop G c (nI (cn_orf D (fun p => decide (G p = c ∧ D.S p)) i)) (nI i) = some (nI (cn_orf D (fun p => decide (G p = c ∧ D.S p)) D.n)) := by
  have n60 := ok.n60
  intro d
  induction d with
  | zero =>
    intro i fuel hi hf
    obtain ⟨k, rfl⟩ : ∃ k, fuel = k + 1 := ⟨fuel - 1, by omega⟩
    rw [F_M_netsOfGroup_4, if_pos ((cn_leI (by omega) (by omega)).mpr (by omega))]
    obtain rfl : i = D.n := by omega
    rfl
  | succ d ih =>
    intro i fuel hi hf
    obtain ⟨k, rfl⟩ : ∃ k, fuel = k + 1 := ⟨fuel - 1, by omega⟩
    have go := ih (i + 1) k (by omega) (by omega)
    rw [F_M_netsOfGroup_4, if_neg (fun z => by rw [cn_leI (by omega) (by omega)] at z; omega), cn_rdI (by omega) (by omega), cn_ki (by omega)]
    unfold F_M_netsOfGroup_41
    rw [nI_1]
    by_cases e : G i = c
    · rw [if_pos e, cn_plM ok (by omega), Option.bind_some, Option.bind_some]
      by_cases s : D.there i = 0
      · rw [if_pos s, if_pos rfl]
        rw [cn_orf0 (by simp [s])] at go
        exact go
      · rw [if_neg s]
        rw [cn_orf1 (by simp [s, e])] at go
        rcases cn_bNv ok i with ⟨h, b⟩ | ⟨t, ht, h, b, ne⟩
        · rw [if_pos h]
          rw [b, Nat.or_zero] at go
          exact go
        · rw [if_neg ne, h, cn_shl1 ht, cn_nor, ← b]
          exact go
    · rw [if_neg e]
      rw [cn_orf0 (by simp [e])] at go
      exact go
theorem cn_netsOfG {D : cn_Dat} (ok : D.ok) (G : Nat → Int32) (c : Int32) : F_M_netsOfGroup (nI D.n) D.there D.pin D.nop G c = some (nI (cn_orf D (fun p => decide (G p = c ∧ D.S p)) D.n)) := by
  have n60 := ok.n60
  exact cn_ngL ok D.n 0 4096 (by omega) (by omega)
theorem cn_fj123 {D : cn_Dat} (ok : D.ok) {k42 k52} {aL aH : Int32} {num : Nat → Int32} {c vq vp other g : Int32} : ∀ (d i fuel : Nat) (G : Nat → Int32), i + d = D.n → d < fuel →
    ∃ G', F_M_findJoin_123 k42 k52 fuel (nI D.n) aL aH D.there D.fr D.to D.x D.y D.w D.h D.r D.pin D.nop num G c vq vp other g (nI i) = F_M_findJoin_123 k42 k52 1 (nI D.n) aL aH D.there D.fr D.to D.x D.y D.w D.h D.r D.pin D.nop num G' c vq vp other g (nI D.n) ∧ (∀ j, i ≤ j → j < D.n → G' j = if G j = other then g else G j) ∧ ∀ j, j < i → G' j = G j := by
  have n60 := ok.n60
  intro d
  induction d with
  | zero =>
    intro i fuel G hi hf
    obtain ⟨k, rfl⟩ : ∃ k, fuel = k + 1 := ⟨fuel - 1, by omega⟩
    obtain rfl : i = D.n := by omega
    refine ⟨G, ?_, fun j h1 h2 => by omega, fun j _ => rfl⟩
    rw [F_M_findJoin_123, F_M_findJoin_123, if_pos ((cn_leI (by omega) (by omega)).mpr (by omega)), if_pos ((cn_leI (by omega) (by omega)).mpr (by omega))]
  | succ d ih =>
    intro i fuel G hi hf
    obtain ⟨k, rfl⟩ : ∃ k, fuel = k + 1 := ⟨fuel - 1, by omega⟩
    rw [F_M_findJoin_123, if_neg (fun z => by rw [cn_leI (by omega) (by omega)] at z; omega), cn_rdI (by omega) (by omega), cn_rdI (by omega) (by omega)]
    unfold F_M_findJoin_162
    rw [cn_rdI (by omega) (by omega), cn_rdI (by omega) (by omega), cn_ki (by omega), nI_1]
    have fin : ∀ v, (v = if G i = other then g else G i) → ∃ G', F_M_findJoin_123 k42 k52 k (nI D.n) aL aH D.there D.fr D.to D.x D.y D.w D.h D.r D.pin D.nop num (upd G i v) c vq vp other g (nI (i + 1)) = F_M_findJoin_123 k42 k52 1 (nI D.n) aL aH D.there D.fr D.to D.x D.y D.w D.h D.r D.pin D.nop num G' c vq vp other g (nI D.n) ∧ (∀ j, i ≤ j → j < D.n → G' j = if G j = other then g else G j) ∧ ∀ j, j < i → G' j = G j := fun v hv => by
      obtain ⟨G', e, h1, h2⟩ := ih (i + 1) k (upd G i v) (by omega) (by omega)
      refine ⟨G', e, fun j hj hn => ?_, fun j hj => ?_⟩
      · by_cases w : j = i
        · subst w
          rw [h2 j (by omega), cn_up, if_pos rfl, hv]
        · rw [h1 j (by omega) hn, cn_up, if_neg w]
      · rw [h2 j (by omega), cn_up, if_neg (by omega)]
    by_cases e : G i = other
    · rw [if_pos e]; exact fin g (by rw [if_pos e])
    · rw [if_neg e]; exact fin (G i) (by rw [if_neg e])
