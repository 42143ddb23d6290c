/-! PURE: shorts, unnamed, unreached: what both sides answer -/
def cn_BM (D : cn_Dat) (kept : Nat → Int32) (l : Nat → Nat) (c : Nat) : Nat := cn_orf D (fun p => decide (D.S p ∧ cn_rk kept (l p) = c)) D.n
theorem cn_BMb {D : cn_Dat} (ok : D.ok) (kept : Nat → Int32) (l : Nat → Nat) (c : Nat) : cn_BM D kept l c < 2 ^ 20 := cn_orfb ok _ _
theorem cn_ntC {D : cn_Dat} (ok : D.ok) {kept : Nat → Int32} {l : Nat → Nat} (hk : cn_KP D kept l) {num : Nat → Int32} (hn : ∀ j, j < D.n → num j = cn_nm kept j) {c : Nat} (hc : c < 4096) : F_M_netsOf (nI D.n) D.there D.pin D.nop num (nI c) = some (nI (cn_BM D kept l c)) := by
  have n60 := ok.n60
  rw [cn_netsOf ok]
  unfold cn_BM
  rw [cn_orf_ext D D.n (q' := fun p => decide (D.S p ∧ cn_rk kept (l p) = c))]
  intro p hp
  by_cases sp : D.S p
  · have lp := hk.le p sp
    have := cn_rkb kept (i := l p) (by omega)
    have e : num p = nI c ↔ cn_rk kept (l p) = c := by
      rw [hn p hp, hk.nm ok sp]
      exact cn_eqI this hc
    simp only [sp, and_true, true_and, ne_eq, not_false_eq_true, e]
  · simp only [sp, and_false, false_and]
theorem cn_orfz (D : cn_Dat) {q : Nat → Bool} : ∀ m, (∀ p, p < m → q p = false) → cn_orf D q m = 0
  | 0, _ => rfl
  | m + 1, h => by rw [cn_orf0 (h m (by omega)), cn_orfz D m (fun p hp => h p (by omega))]
theorem cn_nbL {D : cn_Dat} (ok : D.ok) {kept : Nat → Int32} {l : Nat → Nat} (hk : cn_KP D kept l) {i : Nat} (hi : i < 60) (h : cn_ld kept i = true) : cn_BM D kept l (cn_rk kept i) = cn_nb D l i := by
  obtain ⟨s, e⟩ := (hk.ld ok hi).mp h
  refine cn_orf_ext D D.n (fun p hp => ?_)
  by_cases sp : D.S p
  · have lp := hk.le p sp
    have p60 := ok.lt sp
    have n60 := ok.n60
    have hl : cn_ld kept (l p) = true := (hk.ld ok (by omega)).mpr ⟨hk.mem p sp, hk.ide p sp⟩
    have : cn_rk kept (l p) = cn_rk kept i ↔ l p = i := ⟨fun z => cn_ct_inj _ hl h z, fun z => by rw [z]⟩
    simp only [this]
  · simp only [sp, false_and]
theorem cn_nbN {D : cn_Dat} (ok : D.ok) {kept : Nat → Int32} {l : Nat → Nat} (hk : cn_KP D kept l) {i : Nat} (hi : i < 60) (h : cn_ld kept i = false) : cn_nb D l i = 0 := by
  refine cn_orfz D D.n (fun p hp => ?_)
  simp only [decide_eq_false_iff_not]
  rintro ⟨sp, rfl⟩
  rw [(hk.ld ok hi).mpr ⟨hk.mem p sp, hk.ide p sp⟩] at h
  exact absurd h (by decide)
def cn_qX (D : cn_Dat) (l : Nat → Nat) (i : Nat) : Bool := cn_sh (cn_nb D l i)
def cn_qM (D : cn_Dat) (kept : Nat → Int32) (l : Nat → Nat) (c : Nat) : Bool := cn_sh (cn_BM D kept l c)
theorem cn_qA {D : cn_Dat} (ok : D.ok) {kept : Nat → Int32} {l : Nat → Nat} (hk : cn_KP D kept l) {i : Nat} (hi : i < 60) (h : cn_ld kept i = true) : cn_qX D l i = cn_qM D kept l (cn_rk kept i) := by
  unfold cn_qX cn_qM; rw [cn_nbL ok hk hi h]
theorem cn_qB {D : cn_Dat} (ok : D.ok) {kept : Nat → Int32} {l : Nat → Nat} (hk : cn_KP D kept l) {i : Nat} (hi : i < 60) (h : cn_ld kept i = false) : cn_qX D l i = false := by
  unfold cn_qX; rw [cn_nbN ok hk hi h]; decide
theorem cn_qC {D : cn_Dat} (ok : D.ok) {kept : Nat → Int32} {l : Nat → Nat} (hk : cn_KP D kept l) {m : Nat} (hm : m ≤ 60) : cn_ct (cn_qM D kept l) (cn_rk kept m) = cn_ct (cn_qX D l) m :=
  cn_ct_rank m (fun i hi h => cn_qA ok hk (by omega) h) (fun i hi h => cn_qB ok hk (by omega) h)
theorem cn_shXL {D : cn_Dat} (ok : D.ok) {kept : Nat → Int32} {l : Nat → Nat} {nb : Nat → Int32} (h : ∀ j, j < 60 → nb j = nI (cn_nb D l j)) : ∀ (d i fuel : Nat), i + d = D.n → d < fuel →
    F_X_shorts_8 fuel D.nop (nI D.n) D.pin kept nb (nI (cn_ct (cn_qX D l) i)) (nI i) = some (nI (cn_ct (cn_qX D l) D.n), nb) := by
  have n60 := ok.n60
  intro d
  induction d with
  | zero =>
    intro i fuel hi hf
    obtain ⟨k, rfl⟩ : ∃ k, fuel = k + 1 := ⟨fuel - 1, by omega⟩
    rw [F_X_shorts_8, if_pos ((cn_leI (by omega) (by omega)).mpr (by omega))]
    obtain rfl : i = D.n := by omega
    rfl
  | succ d ih =>
    intro i fuel hi hf
    obtain ⟨k, rfl⟩ : ∃ k, fuel = k + 1 := ⟨fuel - 1, by omega⟩
    have go := ih (i + 1) k (by omega) (by omega)
    rw [F_X_shorts_8, if_neg (fun z => by rw [cn_leI (by omega) (by omega)] at z; omega), cn_isX ok h (by omega), Option.bind_some]
    unfold F_X_shorts_30
    rw [nI_1, nI_1]
    cases q : cn_sh (cn_nb D l i) with
    | false => rw [cn_ct0 (q := cn_qX D l) (i := i) q] at go; exact go
    | true => rw [cn_ct1 (q := cn_qX D l) (i := i) q] at go; exact go
theorem cn_shML {D : cn_Dat} (ok : D.ok) {kept : Nat → Int32} {l : Nat → Nat} (hk : cn_KP D kept l) {lab num : Nat → Int32} (hn : ∀ j, j < D.n → num j = cn_nm kept j) {R : Nat} (hR : R ≤ 60) : ∀ (d i fuel : Nat), i + d = R → d < fuel →
    F_M_countShorts_9 fuel (nI D.n) D.there D.fr D.to D.x D.y D.w D.h D.r D.pin D.nop lab num (nI R) (nI (cn_ct (cn_qM D kept l) i)) (nI i) = some (nI (cn_ct (cn_qM D kept l) R), lab, num) := by
  intro d
  induction d with
  | zero =>
    intro i fuel hi hf
    obtain ⟨k, rfl⟩ : ∃ k, fuel = k + 1 := ⟨fuel - 1, by omega⟩
    rw [F_M_countShorts_9, if_pos ((cn_leI (by omega) (by omega)).mpr (by omega))]
    obtain rfl : i = R := by omega
    rfl
  | succ d ih =>
    intro i fuel hi hf
    obtain ⟨k, rfl⟩ : ∃ k, fuel = k + 1 := ⟨fuel - 1, by omega⟩
    have go := ih (i + 1) k (by omega) (by omega)
    rw [F_M_countShorts_9, if_neg (fun z => by rw [cn_leI (by omega) (by omega)] at z; omega), cn_ntC ok hk hn (by omega), Option.bind_some, cn_shM (cn_BMb ok _ _ _), Option.bind_some]
    unfold F_M_countShorts_31
    rw [nI_1, nI_1, Int32.add_zero]
    cases q : cn_sh (cn_BM D kept l i) with
    | false => rw [cn_ct0 (q := cn_qM D kept l) (i := i) q] at go; exact go
    | true => rw [cn_ct1 (q := cn_qM D kept l) (i := i) q] at go; exact go
theorem cn_countX {D : cn_Dat} (ok : D.ok) {kept : Nat → Int32} {l : Nat → Nat} (hk : cn_KP D kept l) (nb : Nat → Int32) : ∃ nb', F_X_shorts D.nop (nI D.n) D.pin kept nb = some (nI (cn_ct (cn_qX D l) D.n), nb') := by
  have n60 := ok.n60
  obtain ⟨nb', e, h⟩ := cn_collect ok hk nb
  refine ⟨nb', ?_⟩
  unfold F_X_shorts F_X_shorts_0
  rw [e, Option.bind_some]
  exact cn_shXL ok h D.n 0 4096 (by omega) (by omega)
theorem cn_countM {D : cn_Dat} (ok : D.ok) {kept : Nat → Int32} {l : Nat → Nat} (hk : cn_KP D kept l) (lab num : Nat → Int32) : ∃ lab' num', F_M_countShorts (nI D.n) D.there D.fr D.to D.x D.y D.w D.h D.r D.pin D.nop lab num = some (nI (cn_ct (cn_qX D l) D.n), lab', num') := by
  have n60 := ok.n60
  obtain ⟨g, num', e, h⟩ := cn_nets ok hk lab num
  have rb := cn_ct_le (cn_ld kept) D.n
  refine ⟨g, num', ?_⟩
  unfold F_M_countShorts F_M_countShorts_0
  rw [e, Option.bind_some, ← cn_qC ok hk n60]
  exact cn_shML ok hk h (R := cn_ct (cn_ld kept) D.n) (by omega) (cn_ct (cn_ld kept) D.n) 0 4096 (by omega) (by omega)
theorem cn_shorts {D : cn_Dat} (ok : D.ok) {kept : Nat → Int32} (hK : cn_Kept D kept) (nb : Nat → Int32) (th : Int32) (lab num : Nat → Int32) :
    ∃ v nb' lab' num', F_X_shorts D.nop (nI D.n) D.pin kept nb = some (v, nb') ∧ F_M_shorts th (nI D.n) D.there D.fr D.to D.x D.y D.w D.h D.r D.pin D.nop lab num = some (v, 0, lab', num') := by
  obtain ⟨l, hk⟩ := hK.kp
  obtain ⟨nb', e⟩ := cn_countX ok hk nb
  obtain ⟨lab', num', e2⟩ := cn_countM ok hk lab num
  refine ⟨_, nb', lab', num', e, ?_⟩
  unfold F_M_shorts F_M_shorts_0
  rw [e2]
  rfl
/-! the k-th -/
theorem cn_losL {D : cn_Dat} (ok : D.ok) {l : Nat → Nat} {nb : Nat → Int32} (h : ∀ j, j < 60 → nb j = nI (cn_nb D l j)) {k : Int32} : ∀ (d i fuel : Nat), i + d = D.n → d < fuel → (∀ j, j < i → cn_qX D l j = true → nI (cn_ct (cn_qX D l) j) ≠ k) →
    ∃ r, F_X_leaderOfShort_4 fuel (nI D.n) nb k (nI (cn_ct (cn_qX D l) i)) (nI i) = some r ∧ cn_sel (cn_qX D l) D.n k r := by
  have n60 := ok.n60
  intro d
  induction d with
  | zero =>
    intro i fuel hi hf hb
    obtain ⟨f, rfl⟩ : ∃ f, fuel = f + 1 := ⟨fuel - 1, by omega⟩
    rw [F_X_leaderOfShort_4, if_pos ((cn_leI (by omega) (by omega)).mpr (by omega))]
    obtain rfl : i = D.n := by omega
    exact ⟨_, rfl, Or.inr ⟨hb, rfl⟩⟩
  | succ d ih =>
    intro i fuel hi hf hb
    obtain ⟨f, rfl⟩ : ∃ f, fuel = f + 1 := ⟨fuel - 1, by omega⟩
    have go := ih (i + 1) f (by omega) (by omega)
    rw [F_X_leaderOfShort_4, if_neg (fun z => by rw [cn_leI (by omega) (by omega)] at z; omega), cn_isX ok h (by omega), Option.bind_some]
    unfold F_X_leaderOfShort_33
    rw [nI_1, nI_1]
    cases q : cn_sh (cn_nb D l i) with
    | false => rw [cn_ct0 (q := cn_qX D l) (i := i) q] at go; exact go (cn_sel_s hb (fun z => absurd (q.symm.trans z) (by decide)))
    | true =>
      rw [cn_ct1 (q := cn_qX D l) (i := i) q] at go
      rw [if_neg (by decide)]
      by_cases z : nI (cn_ct (cn_qX D l) i) = k
      · rw [if_pos z]; exact ⟨_, rfl, Or.inl ⟨i, by omega, q, z, rfl⟩⟩
      · rw [if_neg z]; exact go (cn_sel_s hb (fun _ => z))
theorem cn_shaL {D : cn_Dat} (ok : D.ok) {kept : Nat → Int32} {l : Nat → Nat} (hk : cn_KP D kept l) {lab num : Nat → Int32} (hn : ∀ j, j < D.n → num j = cn_nm kept j) {R : Nat} (hR : R ≤ 60) {k : Int32} (hk0 : ¬ k < 0) : ∀ (d i fuel : Nat) (v : Int32), i + d = R → d < fuel → v + nI (cn_ct (cn_qM D kept l) i) = k → (∀ j, j < i → cn_qM D kept l j = true → nI (cn_ct (cn_qM D kept l) j) ≠ k) →
    ∃ r, F_M_shortAt_10 fuel (nI D.n) D.there D.fr D.to D.x D.y D.w D.h D.r D.pin D.nop lab num k (nI R) v (nI i) = some (r, lab, num) ∧ cn_sel (cn_qM D kept l) R k r := by
  intro d
  induction d with
  | zero =>
    intro i fuel v hi hf hv hb
    obtain ⟨f, rfl⟩ : ∃ f, fuel = f + 1 := ⟨fuel - 1, by omega⟩
    rw [F_M_shortAt_10, if_pos ((cn_leI (by omega) (by omega)).mpr (by omega))]
    obtain rfl : i = R := by omega
    exact ⟨_, rfl, Or.inr ⟨hb, rfl⟩⟩
  | succ d ih =>
    intro i fuel v hi hf hv hb
    obtain ⟨f, rfl⟩ : ∃ f, fuel = f + 1 := ⟨fuel - 1, by omega⟩
    rw [F_M_shortAt_10, if_neg (fun z => by rw [cn_leI (by omega) (by omega)] at z; omega), if_neg hk0, cn_ntC ok hk hn (by omega), Option.bind_some, cn_shM (cn_BMb ok _ _ _), Option.bind_some]
    unfold F_M_shortAt_45
    rw [nI_1]
    cases q : cn_sh (cn_BM D kept l i) with
    | false => exact ih (i + 1) f v (by omega) (by omega) (by rw [cn_ct0 (q := cn_qM D kept l) (i := i) q]; exact hv) (cn_sel_s hb (fun z => absurd (q.symm.trans z) (by decide)))
    | true =>
      rw [if_neg (by decide)]
      by_cases z : v = 0
      · rw [if_pos z]; exact ⟨_, rfl, Or.inl ⟨i, by omega, q, (cn_left0 hv).mp z, rfl⟩⟩
      · rw [if_neg z]
        exact ih (i + 1) f _ (by omega) (by omega) (by rw [cn_ct1 (q := cn_qM D kept l) (i := i) q]; exact cn_left1 hv) (cn_sel_s hb (fun _ w => z ((cn_left0 hv).mpr w)))
theorem cn_selN {q : Nat → Bool} {n : Nat} {k : Int32} (hn : n ≤ 60) (h : k < 0) : cn_sel q n k (-1) := Or.inr ⟨fun i hi _ e => by
  have := cn_ct_le q i
  rw [← e] at h
  exact nI_pos (by omega) h, rfl⟩
theorem cn_shortAt {D : cn_Dat} (ok : D.ok) {kept : Nat → Int32} {l : Nat → Nat} (hk : cn_KP D kept l) (lab num : Nat → Int32) (k : Int32) :
    ∃ r lab' num', F_M_shortAt (nI D.n) D.there D.fr D.to D.x D.y D.w D.h D.r D.pin D.nop lab num k = some (r, lab', num') ∧ cn_sel (cn_qM D kept l) (cn_rk kept D.n) k r ∧ ∀ j, j < D.n → num' j = cn_nm kept j := by
  have n60 := ok.n60
  obtain ⟨g, num', e, h⟩ := cn_nets ok hk lab num
  have rb := cn_ct_le (cn_ld kept) D.n
  unfold F_M_shortAt F_M_shortAt_0
  rw [e, Option.bind_some]
  by_cases k0 : k < 0
  · refine ⟨-1, g, num', ?_, cn_selN (by unfold cn_rk; omega) k0, h⟩
    show F_M_shortAt_10 4096 _ _ _ _ _ _ _ _ _ _ _ _ _ _ _ _ _ = _
    rw [F_M_shortAt_10]
    by_cases z : (nI (cn_ct (cn_ld kept) D.n)) ≤ 0
    · rw [if_pos z]; rfl
    · rw [if_neg z, if_pos k0]; rfl
  · obtain ⟨r, e2, h2⟩ := cn_shaL ok hk (lab := g) h (R := cn_ct (cn_ld kept) D.n) (by omega) k0 (cn_ct (cn_ld kept) D.n) 0 4096 k (by omega) (by omega) (Int32.add_zero k) (fun j hj => by omega)
    exact ⟨r, g, num', e2, h2, h⟩
theorem cn_selRM {D : cn_Dat} (ok : D.ok) {kept : Nat → Int32} {l : Nat → Nat} (hk : cn_KP D kept l) {k r r' : Int32} (h : cn_sel (cn_qX D l) D.n k r) (h' : cn_sel (cn_qM D kept l) (cn_rk kept D.n) k r') :
    (r = -1 ∧ r' = -1) ∨ ∃ i, i < D.n ∧ cn_ld kept i = true ∧ cn_qX D l i = true ∧ r = nI i ∧ r' = nI (cn_rk kept i) := by
  have n60 := ok.n60
  have rb := cn_ct_le (cn_ld kept) D.n
  rcases h with ⟨i, h1, h2, h3, h4⟩ | ⟨h1, h2⟩
  · have hl : cn_ld kept i = true := by
      cases q : cn_ld kept i with
      | true => rfl
      | false => rw [cn_qB ok hk (by omega) q] at h2; exact absurd h2 (by decide)
    refine Or.inr ⟨i, h1, hl, h2, h4, ?_⟩
    have hc : cn_rk kept i < cn_rk kept D.n := cn_ct_lt _ h1 hl
    have qm : cn_qM D kept l (cn_rk kept i) = true := by rw [← cn_qA ok hk (by omega) hl]; exact h2
    have s : cn_sel (cn_qM D kept l) (cn_rk kept D.n) k (nI (cn_rk kept i)) := Or.inl ⟨cn_rk kept i, hc, qm, by rw [cn_qC ok hk (by omega)]; exact h3, rfl⟩
    exact cn_sel_u (by unfold cn_rk; omega) h' s
  · refine Or.inl ⟨h2, ?_⟩
    rcases h' with ⟨c, g1, g2, g3, g4⟩ | ⟨_, g2⟩
    · obtain ⟨i, i1, i2, rfl⟩ := cn_ct_sur _ D.n c g1
      refine absurd ?_ (h1 i i1 (by rw [cn_qA ok hk (by omega) i2]; exact g2))
      rw [← cn_qC ok hk (by omega)]
      exact g3
    · exact g2
