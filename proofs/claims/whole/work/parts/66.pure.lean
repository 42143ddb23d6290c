/-! PURE: unnamed, unreached, the lowest bit -/
def cn_qU (D : cn_Dat) (l : Nat → Nat) (i : Nat) : Bool := decide (D.S i ∧ cn_nb D l (l i) = 0)
theorem cn_unXL {D : cn_Dat} (ok : D.ok) {kept : Nat → Int32} {l : Nat → Nat} (hk : cn_KP D kept l) {nb : Nat → Int32} (h : ∀ j, j < 60 → nb j = nI (cn_nb D l j)) {k : Int32} : ∀ (d i fuel : Nat), i + d = D.n → d < fuel → (∀ j, j < i → cn_qU D l j = true → nI (cn_ct (cn_qU D l) j) ≠ k) →
    ∃ r, F_X_unnamed_8 fuel D.nop (nI D.n) D.pin kept nb k (nI (cn_ct (cn_qU D l) i)) (nI i) = some (r, nb) ∧ cn_sel (cn_qU D l) D.n k r := by
  have n60 := ok.n60
  intro d
  induction d with
  | zero =>
    intro i fuel hi hf hb
    obtain ⟨f, rfl⟩ : ∃ f, fuel = f + 1 := ⟨fuel - 1, by omega⟩
    rw [F_X_unnamed_8, if_pos ((cn_leI (by omega) (by omega)).mpr (by omega))]
    obtain rfl : i = D.n := by omega
    exact ⟨_, rfl, Or.inr ⟨hb, rfl⟩⟩
  | succ d ih =>
    intro i fuel hi hf hb
    obtain ⟨f, rfl⟩ : ∃ f, fuel = f + 1 := ⟨fuel - 1, by omega⟩
    have go := ih (i + 1) f (by omega) (by omega)
    rw [F_X_unnamed_8, if_neg (fun z => by rw [cn_leI (by omega) (by omega)] at z; omega)]
    unfold F_X_unnamed_56
    rw [nI_1, nI_1]
    by_cases s : D.S i
    · have li := hk.le i s
      rw [cn_has1 (by omega) (by rw [hk.yes i s]; exact cn_m1 (by omega)), Option.bind_some, if_neg (by decide), cn_leaderOf (by omega), Option.bind_some, hk.yes i s, cn_rdI (by omega) (by omega), cn_ki (by omega), h (l i) (by omega)]
      have bb := cn_nbb ok l (l i)
      by_cases z : cn_nb D l (l i) = 0
      · have q : cn_qU D l i = true := by unfold cn_qU; simp [s, z]
        rw [if_pos (by rw [z]; rfl)]
        rw [cn_ct1 q] at go
        by_cases w : nI (cn_ct (cn_qU D l) i) = k
        · rw [if_pos w]; exact ⟨_, rfl, Or.inl ⟨i, by omega, q, w, rfl⟩⟩
        · rw [if_neg w]; exact go (cn_sel_s hb (fun _ => w))
      · have q : cn_qU D l i = false := by unfold cn_qU; simp [z]
        rw [if_neg (nI_ne0 (by omega) (by omega))]
        rw [cn_ct0 q] at go
        exact go (cn_sel_s hb (fun w => absurd (q.symm.trans w) (by decide)))
    · have q : cn_qU D l i = false := by unfold cn_qU; simp [s]
      rw [cn_has0 (by omega) (hk.no i (by omega) s), Option.bind_some, if_pos rfl]
      rw [cn_ct0 q] at go
      exact go (cn_sel_s hb (fun w => absurd (q.symm.trans w) (by decide)))
theorem cn_unML {D : cn_Dat} (ok : D.ok) {kept : Nat → Int32} {l : Nat → Nat} (hk : cn_KP D kept l) {th : Int32} {lab num : Nat → Int32} (hn : ∀ j, j < D.n → num j = cn_nm kept j) {k : Int32} (hk0 : ¬ k < 0) : ∀ (d i fuel : Nat) (v : Int32), i + d = D.n → d < fuel → v + nI (cn_ct (cn_qU D l) i) = k → (∀ j, j < i → cn_qU D l j = true → nI (cn_ct (cn_qU D l) j) ≠ k) →
    ∃ r, F_M_unnamed_14 fuel th (nI D.n) D.there D.fr D.to D.x D.y D.w D.h D.r D.pin D.nop lab num k v (nI i) = some (r, th, lab, num) ∧ cn_sel (cn_qU D l) D.n k r := by
  have n60 := ok.n60
  intro d
  induction d with
  | zero =>
    intro i fuel v hi hf hv hb
    obtain ⟨f, rfl⟩ : ∃ f, fuel = f + 1 := ⟨fuel - 1, by omega⟩
    rw [F_M_unnamed_14, if_pos ((cn_leI (by omega) (by omega)).mpr (by omega))]
    obtain rfl : i = D.n := by omega
    exact ⟨_, rfl, Or.inr ⟨hb, rfl⟩⟩
  | succ d ih =>
    intro i fuel v hi hf hv hb
    obtain ⟨f, rfl⟩ : ∃ f, fuel = f + 1 := ⟨fuel - 1, by omega⟩
    rw [F_M_unnamed_14, if_neg (fun z => by rw [cn_leI (by omega) (by omega)] at z; omega), if_neg hk0, cn_rdI (by omega) (by omega), cn_rdI (by omega) (by omega), cn_ki (by omega)]
    unfold F_M_unnamed_60
    rw [nI_1]
    by_cases s : D.there i = 0
    · have q : cn_qU D l i = false := by unfold cn_qU; simp [s]
      rw [if_pos s]
      exact ih (i + 1) f v (by omega) (by omega) (by rw [cn_ct0 q]; exact hv) (cn_sel_s hb (fun z => absurd (q.symm.trans z) (by decide)))
    · have bb := cn_nbb ok l (l i)
      rw [if_neg s, hn i (by omega), cn_ntI ok hk hn s, Option.bind_some]
      by_cases z : cn_nb D l (l i) = 0
      · have q : cn_qU D l i = true := by unfold cn_qU; simp [s, z]
        rw [if_pos (by rw [z]; rfl)]
        by_cases w : v = 0
        · rw [if_pos w]; exact ⟨_, rfl, Or.inl ⟨i, by omega, q, (cn_left0 hv).mp w, rfl⟩⟩
        · rw [if_neg w]
          exact ih (i + 1) f _ (by omega) (by omega) (by rw [cn_ct1 q]; exact cn_left1 hv) (cn_sel_s hb (fun _ y => w ((cn_left0 hv).mpr y)))
      · have q : cn_qU D l i = false := by unfold cn_qU; simp [z]
        rw [if_neg (nI_ne0 (by omega) (by omega))]
        exact ih (i + 1) f v (by omega) (by omega) (by rw [cn_ct0 q]; exact hv) (cn_sel_s hb (fun z => absurd (q.symm.trans z) (by decide)))
theorem cn_unnamed {D : cn_Dat} (ok : D.ok) {kept : Nat → Int32} (hK : cn_Kept D kept) (nb : Nat → Int32) (th : Int32) (lab num : Nat → Int32) (k : Int32) :
    ∃ v nb' lab' num', F_X_unnamed D.nop (nI D.n) D.pin kept nb k = some (v, nb') ∧ F_M_unnamed th (nI D.n) D.there D.fr D.to D.x D.y D.w D.h D.r D.pin D.nop lab num k = some (v, 0, lab', num') := by
  have n60 := ok.n60
  obtain ⟨l, hk⟩ := hK.kp
  obtain ⟨nb', e, h⟩ := cn_collect ok hk nb
  obtain ⟨g, num', e3, h3⟩ := cn_nets ok hk lab num
  obtain ⟨r, e2, h2⟩ := cn_unXL ok hk h (k := k) D.n 0 4096 (by omega) (by omega) (fun j hj => by omega)
  refine ⟨r, nb', g, num', ?_, ?_⟩
  · unfold F_X_unnamed F_X_unnamed_0
    rw [e, Option.bind_some]
    exact e2
  · unfold F_M_unnamed F_M_unnamed_0
    rw [e3, Option.bind_some]
    by_cases k0 : k < 0
    · rw [cn_sel_u n60 h2 (cn_selN n60 k0)]
      show F_M_unnamed_14 4096 _ _ _ _ _ _ _ _ _ _ _ _ _ _ _ _ _ = _
      rw [F_M_unnamed_14]
      by_cases z : nI D.n ≤ 0
      · rw [if_pos z]; rfl
      · rw [if_neg z, if_pos k0]; rfl
    · obtain ⟨r', e4, h4⟩ := cn_unML ok hk (th := 0) (lab := g) h3 k0 D.n 0 4096 k (by omega) (by omega) (Int32.add_zero k) (fun j hj => by omega)
      rw [cn_sel_u n60 h2 h4]
      exact e4
/-! pins that are not reached -/
theorem cn_hpE : ∀ (fuel : Nat) (a : Int32) (b c : Nat → Int32) (v w : Int32), F_P_hasPadOf_2 fuel a b c v w = F_M_hasPad_2 fuel a b c v w := by
  intro fuel
  induction fuel with
  | zero => intro a b c v w; rfl
  | succ f ih =>
    intro a b c v w
    rw [F_P_hasPadOf_2, F_M_hasPad_2]
    unfold F_P_hasPadOf_31 F_M_hasPad_31
    rw [ih]
theorem cn_hpL {D : cn_Dat} (ok : D.ok) {v : Int32} : ∀ (d i fuel : Nat), i + d = D.n → d < fuel → ∃ b : Bool, F_P_hasPadOf_2 fuel (nI D.n) D.there D.pin v (nI i) = some (if b then 1 else 0) := by
  have n60 := ok.n60
  intro d
  induction d with
  | zero =>
    intro i fuel hi hf
    obtain ⟨f, rfl⟩ : ∃ f, fuel = f + 1 := ⟨fuel - 1, by omega⟩
    rw [F_P_hasPadOf_2, if_pos ((cn_leI (by omega) (by omega)).mpr (by omega))]
    exact ⟨false, rfl⟩
  | succ d ih =>
    intro i fuel hi hf
    obtain ⟨f, rfl⟩ : ∃ f, fuel = f + 1 := ⟨fuel - 1, by omega⟩
    have go := ih (i + 1) f (by omega) (by omega)
    rw [F_P_hasPadOf_2, if_neg (fun z => by rw [cn_leI (by omega) (by omega)] at z; omega), cn_rdI (by omega) (by omega), cn_rdI (by omega) (by omega), cn_ki (by omega)]
    unfold F_P_hasPadOf_31
    rw [nI_1]
    by_cases s : D.there i = 0
    · rw [if_pos s]; exact go
    · rw [if_neg s]
      by_cases z : D.pin i = v
      · rw [if_pos z]; exact ⟨true, rfl⟩
      · rw [if_neg z]; exact go
def cn_Dat.hp (D : cn_Dat) (p : Nat) : Bool := decide (F_P_hasPadOf (nI D.n) D.there D.pin (nI p) = some 1)
theorem cn_hpX {D : cn_Dat} (ok : D.ok) (p : Nat) : F_P_hasPadOf (nI D.n) D.there D.pin (nI p) = some (if D.hp p then 1 else 0) := by
  have n60 := ok.n60
  obtain ⟨b, e⟩ := cn_hpL ok (v := nI p) D.n 0 4096 (by omega) (by omega)
  have e' : F_P_hasPadOf (nI D.n) D.there D.pin (nI p) = some (if b then 1 else 0) := e
  unfold cn_Dat.hp
  rw [e']
  cases b <;> decide
theorem cn_hpM {D : cn_Dat} (ok : D.ok) (p : Nat) : F_M_hasPad (nI D.n) D.there D.pin (nI p) = some (if D.hp p then 1 else 0) := by
  rw [← cn_hpX ok p]
  exact (cn_hpE 4096 _ _ _ _ _).symm
def cn_qR (D : cn_Dat) (p : Nat) : Bool := decide (D.nop p ≠ -1) && !D.hp p
theorem cn_reXL {D : cn_Dat} (ok : D.ok) {k : Int32} : ∀ (d i fuel : Nat), i + d = 40 → d < fuel → (∀ j, j < i → cn_qR D j = true → nI (cn_ct (cn_qR D) j) ≠ k) →
    ∃ r, F_X_unreached_4 fuel D.nop (nI D.n) D.there D.pin k (nI (cn_ct (cn_qR D) i)) (nI i) = some r ∧ cn_sel (cn_qR D) 40 k r := by
  intro d
  induction d with
  | zero =>
    intro i fuel hi hf hb
    obtain ⟨f, rfl⟩ : ∃ f, fuel = f + 1 := ⟨fuel - 1, by omega⟩
    rw [F_X_unreached_4, cn_40, if_pos ((cn_leI (by omega) (by omega)).mpr (by omega))]
    obtain rfl : i = 40 := by omega
    exact ⟨_, rfl, Or.inr ⟨hb, rfl⟩⟩
  | succ d ih =>
    intro i fuel hi hf hb
    obtain ⟨f, rfl⟩ : ∃ f, fuel = f + 1 := ⟨fuel - 1, by omega⟩
    have go := ih (i + 1) f (by omega) (by omega)
    rw [F_X_unreached_4, cn_40, if_neg (fun z => by rw [cn_leI (by omega) (by omega)] at z; omega), cn_rdI (by omega) (by omega), cn_ki (by omega), cn_hpX ok]
    unfold F_X_unreached_41
    rw [nI_1, nI_1]
    by_cases s : D.nop i = -1
    · have q : cn_qR D i = false := by unfold cn_qR; simp [s]
      rw [if_pos s]
      rw [cn_ct0 q] at go
      exact go (cn_sel_s hb (fun w => absurd (q.symm.trans w) (by decide)))
    · rw [if_neg s, Option.bind_some]
      cases z : D.hp i with
      | true =>
        have q : cn_qR D i = false := by unfold cn_qR; simp [z]
        rw [cn_ct0 q] at go
        exact go (cn_sel_s hb (fun w => absurd (q.symm.trans w) (by decide)))
      | false =>
        have q : cn_qR D i = true := by unfold cn_qR; simp [z, s]
        rw [cn_ct1 q] at go
        rw [if_pos (by simp)]
        by_cases w : nI (cn_ct (cn_qR D) i) = k
        · rw [if_pos w]; exact ⟨_, rfl, Or.inl ⟨i, by omega, q, w, rfl⟩⟩
        · rw [if_neg w]; exact go (cn_sel_s hb (fun _ => w))
theorem cn_reML {D : cn_Dat} (ok : D.ok) {k : Int32} (hk0 : ¬ k < 0) : ∀ (d i fuel : Nat) (v : Int32), i + d = 40 → d < fuel → v + nI (cn_ct (cn_qR D) i) = k → (∀ j, j < i → cn_qR D j = true → nI (cn_ct (cn_qR D) j) ≠ k) →
    ∃ r, F_M_unreachedAt_4 fuel (nI D.n) D.there D.pin D.nop k v (nI i) = some r ∧ cn_sel (cn_qR D) 40 k r := by
  intro d
  induction d with
  | zero =>
    intro i fuel v hi hf hv hb
    obtain ⟨f, rfl⟩ : ∃ f, fuel = f + 1 := ⟨fuel - 1, by omega⟩
    rw [F_M_unreachedAt_4, cn_40, if_pos ((cn_leI (by omega) (by omega)).mpr (by omega))]
    obtain rfl : i = 40 := by omega
    exact ⟨_, rfl, Or.inr ⟨hb, rfl⟩⟩
  | succ d ih =>
    intro i fuel v hi hf hv hb
    obtain ⟨f, rfl⟩ : ∃ f, fuel = f + 1 := ⟨fuel - 1, by omega⟩
    rw [F_M_unreachedAt_4, cn_40, if_neg (fun z => by rw [cn_leI (by omega) (by omega)] at z; omega), if_neg hk0, cn_rdI (by omega) (by omega), cn_ki (by omega), cn_hpM ok]
    unfold F_M_unreachedAt_44
    rw [nI_1]
    by_cases s : D.nop i = -1
    · have q : cn_qR D i = false := by unfold cn_qR; simp [s]
      rw [if_pos s]
      exact ih (i + 1) f v (by omega) (by omega) (by rw [cn_ct0 q]; exact hv) (cn_sel_s hb (fun z => absurd (q.symm.trans z) (by decide)))
    · rw [if_neg s, Option.bind_some]
      cases z : D.hp i with
      | true =>
        have q : cn_qR D i = false := by unfold cn_qR; simp [z]
        exact ih (i + 1) f v (by omega) (by omega) (by rw [cn_ct0 q]; exact hv) (cn_sel_s hb (fun z => absurd (q.symm.trans z) (by decide)))
      | false =>
        have q : cn_qR D i = true := by unfold cn_qR; simp [z, s]
        rw [if_pos (by simp)]
        by_cases w : v = 0
        · rw [if_pos w]; exact ⟨_, rfl, Or.inl ⟨i, by omega, q, (cn_left0 hv).mp w, rfl⟩⟩
        · rw [if_neg w]
          exact ih (i + 1) f _ (by omega) (by omega) (by rw [cn_ct1 q]; exact cn_left1 hv) (cn_sel_s hb (fun _ y => w ((cn_left0 hv).mpr y)))
theorem cn_unrAt {D : cn_Dat} (ok : D.ok) (k : Int32) : ∃ r, F_X_unreached D.nop (nI D.n) D.there D.pin k = some r ∧ F_M_unreachedAt (nI D.n) D.there D.pin D.nop k = some r := by
  obtain ⟨r, e2, h2⟩ := cn_reXL ok (k := k) 40 0 4096 (by omega) (by omega) (fun j hj => by omega)
  refine ⟨r, e2, ?_⟩
  unfold F_M_unreachedAt F_M_unreachedAt_0
  by_cases k0 : k < 0
  · rw [cn_sel_u (by decide) h2 (cn_selN (by decide) k0)]
    rw [F_M_unreachedAt_4, if_neg (by decide), if_pos k0]; rfl
  · obtain ⟨r', e4, h4⟩ := cn_reML ok k0 40 0 4096 k (by omega) (by omega) (Int32.add_zero k) (fun j hj => by omega)
    rw [cn_sel_u (by decide) h2 h4]
    exact e4
/-! the lowest bit -/
theorem cn_bitZ {b t : Nat} (hb : b < 2 ^ 20) (ht : t < 20) : (nI b &&& ((1 : Int32) <<< (nI t &&& 31)) = 0 ↔ b.testBit t = false) ∧ ((nI b >>> (nI t &&& 31)) &&& 1 = 0 ↔ b.testBit t = false) := by
  have p : 2 ^ t < 2 ^ 20 := Nat.pow_lt_pow_right (by decide) ht
  have p0 : 0 < 2 ^ t := Nat.pow_pos (by decide)
  have zero : ∀ m, m < 2 ^ 31 → (nI m = 0 ↔ m = 0) := fun m hm => by rw [cn_00]; exact nI_eq hm (by decide)
  constructor
  · rw [cn_shl1 ht, cn_nand, zero _ (Nat.lt_of_le_of_lt Nat.and_le_left (by omega))]
    constructor
    · intro e
      have := congrArg (fun z => Nat.testBit z t) e
      simp only [Nat.testBit_and, Nat.testBit_two_pow_self, Nat.zero_testBit, Bool.and_true] at this
      exact this
    · intro e
      apply Nat.eq_of_testBit_eq
      intro i
      rw [Nat.testBit_and, Nat.testBit_two_pow, Nat.zero_testBit]
      by_cases z : t = i
      · subst z; rw [e]; rfl
      · simp [z]
  · rw [pk_shrN (by omega) _ t (cn_sl t (by omega)), show (1 : Int32) = nI 1 by decide, cn_nand, zero _ (Nat.lt_of_le_of_lt Nat.and_le_right (by decide)), Nat.testBit_eq_decide_div_mod_eq, Nat.and_one_is_mod]
    simp
theorem cn_lowL {b : Nat} (hb : b < 2 ^ 20) : ∀ (d t fuel : Nat), t + d = 20 → d < fuel → (∃ u, t ≤ u ∧ u < 20 ∧ b.testBit u = true) → ∃ r, F_X_lowestNet_2 fuel (nI b) (nI t) = some r ∧ F_M_lowest_2 fuel (nI b) (nI t) = some r := by
  intro d
  induction d with
  | zero => intro t fuel h _ ⟨u, h1, h2, _⟩; omega
  | succ d ih =>
    intro t fuel h hf ⟨u, h1, h2, h3⟩
    obtain ⟨f, rfl⟩ : ∃ f, fuel = f + 1 := ⟨fuel - 1, by omega⟩
    obtain ⟨z1, z2⟩ := cn_bitZ hb (t := t) (by omega)
    rw [F_X_lowestNet_2, F_M_lowest_2, cn_20, if_neg (fun z => by rw [cn_leI (by omega) (by omega)] at z; omega), nI_1]
    cases q : b.testBit t with
    | true => rw [if_neg (fun z => by rw [z1.mp z] at q; exact absurd q (by decide)), if_neg (fun z => by rw [z2.mp z] at q; exact absurd q (by decide))]; exact ⟨_, rfl, rfl⟩
    | false =>
      rw [if_pos (z1.mpr q), if_pos (z2.mpr q)]
      refine ih (t + 1) f (by omega) (by omega) ⟨u, ?_, h2, h3⟩
      rcases Nat.lt_or_ge t u with w | w
      · exact w
      · obtain rfl : t = u := by omega
        rw [q] at h3; exact absurd h3 (by decide)
theorem cn_low {b : Nat} (hb : b < 2 ^ 20) (h0 : b ≠ 0) : ∃ r, F_X_lowestNet (nI b) = some r ∧ F_M_lowest (nI b) = some r := by
  obtain ⟨u, hu⟩ := Nat.exists_testBit_of_ne_zero h0
  have h20 : u < 20 := Nat.lt_of_not_ge (fun z => by
    rw [Nat.testBit_lt_two_pow (Nat.lt_of_lt_of_le hb (Nat.pow_le_pow_right (by decide) z))] at hu
    exact absurd hu (by decide))
  exact cn_lowL hb 20 0 4096 (by omega) (by omega) ⟨u, by omega, h20, hu⟩
