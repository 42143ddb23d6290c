/-! PURE: what is planned, as words; counts and choices -/
theorem cn_sl : ∀ n, n < 32 → ((nI n &&& 31).toBitVec.smod 32).toNat = n := by decide +kernel
theorem cn_shl1 {t : Nat} (ht : t < 20) : (1 : Int32) <<< (nI t &&& 31) = nI (2 ^ t) := by
  have h : 2 ^ t < 2 ^ 20 := Nat.pow_lt_pow_right (by decide) ht
  have := pk_shlN (n := 1) (nI t &&& 31) t (cn_sl t (by omega)) (by omega)
  rw [Nat.one_mul] at this
  exact this
def cn_Dat.bN (D : cn_Dat) (i : Nat) : Nat := if D.pl i = -1 then 0 else 2 ^ (D.pl i).toNatClampNeg
theorem cn_plv {D : cn_Dat} (ok : D.ok) (i : Nat) : D.pl i = -1 ∨ ∃ t, t < 20 ∧ D.pl i = nI t := by
  unfold cn_Dat.pl
  by_cases h : D.pin i = -1
  · exact Or.inl (if_pos h)
  · rw [if_neg h]; exact ok.nop20 _
theorem cn_bNv {D : cn_Dat} (ok : D.ok) (i : Nat) : D.pl i = -1 ∧ D.bN i = 0 ∨ ∃ t, t < 20 ∧ D.pl i = nI t ∧ D.bN i = 2 ^ t ∧ D.pl i ≠ -1 := by
  rcases cn_plv ok i with h | ⟨t, ht, h⟩
  · exact Or.inl ⟨h, by unfold cn_Dat.bN; rw [if_pos h]⟩
  · have : D.pl i ≠ -1 := by rw [h]; exact cn_m1 (by omega)
    exact Or.inr ⟨t, ht, h, by unfold cn_Dat.bN; rw [if_neg this, h, cn_ki (by omega)], this⟩
theorem cn_bNb {D : cn_Dat} (ok : D.ok) (i : Nat) : D.bN i < 2 ^ 20 := by
  rcases cn_bNv ok i with ⟨_, h⟩ | ⟨t, ht, _, h, _⟩
  · rw [h]; decide
  · rw [h]; exact Nat.pow_lt_pow_right (by decide) ht
theorem cn_bitX {D : cn_Dat} (ok : D.ok) {i : Nat} (hi : i < 60) : F_X_plannedBit D.nop D.pin (nI i) = some (nI (D.bN i)) := by
  unfold F_X_plannedBit F_X_plannedBit_0 F_X_plannedBit_18
  rw [cn_plX ok hi, Option.bind_some]
  rcases cn_bNv ok i with ⟨h, e⟩ | ⟨t, ht, h, e, ne⟩
  · rw [if_pos h, e]; rfl
  · rw [if_neg ne, e, h, cn_shl1 ht]
def cn_orf (D : cn_Dat) (q : Nat → Bool) : Nat → Nat
  | 0 => 0
  | m + 1 => cn_orf D q m ||| (if q m then D.bN m else 0)
theorem cn_orfb {D : cn_Dat} (ok : D.ok) (q : Nat → Bool) : ∀ m, cn_orf D q m < 2 ^ 20
  | 0 => by show 0 < 2 ^ 20; decide
  | m + 1 => by
    refine Nat.or_lt_two_pow (cn_orfb ok q m) ?_
    have := cn_bNb ok m
    split
    · exact this
    · decide
theorem cn_orf_ext (D : cn_Dat) {q q' : Nat → Bool} : ∀ m, (∀ p, p < m → q p = q' p) → cn_orf D q m = cn_orf D q' m
  | 0, _ => rfl
  | m + 1, h => by
    show cn_orf D q m ||| (if q m then D.bN m else 0) = cn_orf D q' m ||| (if q' m then D.bN m else 0)
    rw [cn_orf_ext D m (fun p hp => h p (by omega)), h m (by omega)]
theorem cn_orf1 {D : cn_Dat} {q : Nat → Bool} {m : Nat} (h : q m = true) : cn_orf D q (m + 1) = cn_orf D q m ||| D.bN m := by
  show cn_orf D q m ||| (if q m then D.bN m else 0) = _
  rw [if_pos h]
theorem cn_orf0 {D : cn_Dat} {q : Nat → Bool} {m : Nat} (h : q m = false) : cn_orf D q (m + 1) = cn_orf D q m := by
  show cn_orf D q m ||| (if q m then D.bN m else 0) = _
  rw [if_neg (by rw [h]; decide), Nat.or_zero]
/-- the planned nets of the pieces whose lowest is i -/
def cn_nb (D : cn_Dat) (l : Nat → Nat) (i : Nat) : Nat := cn_orf D (fun p => decide (D.S p ∧ l p = i)) D.n
theorem cn_colL {D : cn_Dat} (ok : D.ok) {kept : Nat → Int32} {l : Nat → Nat} (hk : cn_KP D kept l) : ∀ (d i fuel : Nat) (nb : Nat → Int32), i + d = D.n → d < fuel → (∀ j, j < 60 → nb j = nI (cn_orf D (fun p => decide (D.S p ∧ l p = j)) i)) →
    ∃ nb', F_X_collectNetBits_10 fuel D.nop (nI D.n) D.pin kept nb (nI i) = some nb' ∧ ∀ j, j < 60 → nb' j = nI (cn_nb D l j) := by
  have n60 := ok.n60
  intro d
  induction d with
  | zero =>
    intro i fuel nb hi hf h
    obtain ⟨k, rfl⟩ : ∃ k, fuel = k + 1 := ⟨fuel - 1, by omega⟩
    rw [F_X_collectNetBits_10, if_pos ((cn_leI (by omega) (by omega)).mpr (by omega))]
    obtain rfl : i = D.n := by omega
    exact ⟨nb, rfl, h⟩
  | succ d ih =>
    intro i fuel nb hi hf h
    obtain ⟨k, rfl⟩ : ∃ k, fuel = k + 1 := ⟨fuel - 1, by omega⟩
    rw [F_X_collectNetBits_10, if_neg (fun z => by rw [cn_leI (by omega) (by omega)] at z; omega)]
    by_cases s : D.S i
    · have li := hk.le i s
      rw [cn_has1 (by omega) (by rw [hk.yes i s]; exact cn_m1 (by omega)), Option.bind_some, if_neg (by decide), cn_leaderOf (by omega), Option.bind_some, hk.yes i s, cn_rdI (by omega) (by omega), cn_bitX ok (by omega), Option.bind_some, cn_rdI (by omega) (by omega), cn_ki (by omega)]
      unfold F_X_collectNetBits_53
      rw [nI_1]
      refine ih (i + 1) k _ (by omega) (by omega) (fun j hj => ?_)
      rw [cn_up]
      by_cases e : j = l i
      · subst e
        rw [if_pos rfl, h _ hj, cn_nor, cn_orf1 (by simp [s])]
      · rw [if_neg e, h j hj, cn_orf0 (by simp; exact fun _ z => e z.symm)]
    · rw [cn_has0 (by omega) (hk.no i (by omega) s), Option.bind_some, if_pos rfl]
      unfold F_X_collectNetBits_53
      rw [nI_1]
      refine ih (i + 1) k _ (by omega) (by omega) (fun j hj => ?_)
      rw [h j hj, cn_orf0 (by simp [s])]
theorem cn_collect {D : cn_Dat} (ok : D.ok) {kept : Nat → Int32} {l : Nat → Nat} (hk : cn_KP D kept l) (nb : Nat → Int32) :
    ∃ nb', F_X_collectNetBits D.nop (nI D.n) D.pin kept nb = some nb' ∧ ∀ j, j < 60 → nb' j = nI (cn_nb D l j) := by
  have n60 := ok.n60
  obtain ⟨g, e, h, _⟩ := cn_fill (N := 60) (by decide) (nI 0) 60 0 4096 nb rfl (by decide)
  obtain ⟨nb', e2, h2⟩ := cn_colL ok hk D.n 0 4096 g (by omega) (by omega) (fun j hj => h j (by omega) hj)
  refine ⟨nb', ?_, h2⟩
  unfold F_X_collectNetBits F_X_collectNetBits_0 F_jA_fill F_jA_fill_0
  rw [show (0 : Int32) = nI 0 by decide, show Int32.ofNat 60 = nI 60 from rfl, e, Option.bind_some, e2]
theorem cn_nbb {D : cn_Dat} (ok : D.ok) (l : Nat → Nat) (i : Nat) : cn_nb D l i < 2 ^ 20 := cn_orfb ok _ _
theorem cn_isX {D : cn_Dat} (ok : D.ok) {l : Nat → Nat} {nb : Nat → Int32} (h : ∀ j, j < 60 → nb j = nI (cn_nb D l j)) {i : Nat} (hi : i < 60) : F_X_isShort nb (nI i) = some (if cn_sh (cn_nb D l i) then 1 else 0) := by
  unfold F_X_isShort F_X_isShort_0 F_X_isShort_18
  obtain ⟨v, e, hv⟩ := cn_shX (cn_nbb ok l i)
  rw [cn_rdI hi (by decide), cn_ki (by omega), h i hi, e, Option.bind_some]
  cases hs : cn_sh (cn_nb D l i) with
  | false => rw [if_pos (hv.mpr hs), cn_bl0]; rfl
  | true => rw [if_neg (fun z => by rw [hv.mp z] at hs; exact absurd hs (by decide)), cn_bl1]; rfl
/-- the reference's planned nets of a number -/
theorem cn_ntL {D : cn_Dat} (ok : D.ok) {num : Nat → Int32} {c : Int32} : ∀ (d i fuel : Nat), i + d = D.n → d < fuel →
    F_M_netsOf_4 fuel (nI D.n) D.there D.pin D.nop num c (nI (cn_orf D (fun p => decide (num p = c ∧ D.S p)) i)) (nI i) = some (nI (cn_orf D (fun p => decide (num p = c ∧ D.S p)) D.n)) := by
  have n60 := ok.n60
  intro d
  induction d with
  | zero =>
    intro i fuel hi hf
    obtain ⟨k, rfl⟩ : ∃ k, fuel = k + 1 := ⟨fuel - 1, by omega⟩
    rw [F_M_netsOf_4, if_pos ((cn_leI (by omega) (by omega)).mpr (by omega))]
    obtain rfl : i = D.n := by omega
    rfl
  | succ d ih =>
    intro i fuel hi hf
    obtain ⟨k, rfl⟩ : ∃ k, fuel = k + 1 := ⟨fuel - 1, by omega⟩
    have go := ih (i + 1) k (by omega) (by omega)
    rw [F_M_netsOf_4, if_neg (fun z => by rw [cn_leI (by omega) (by omega)] at z; omega), cn_rdI (by omega) (by omega), cn_rdI (by omega) (by omega), cn_ki (by omega)]
    unfold F_M_netsOf_50
    rw [nI_1]
    by_cases e : num i = c
    · rw [if_pos e]
      by_cases s : D.there i = 0
      · rw [if_pos s]
        rw [cn_orf0 (by simp [s])] at go
        exact go
      · rw [if_neg s, cn_plM ok (by omega), Option.bind_some, if_neg s, Option.bind_some]
        rw [cn_orf1 (by simp [s, e])] at go
        rcases cn_bNv ok i with ⟨h, b⟩ | ⟨t, ht, h, b, ne⟩
        · rw [if_pos h]
          rw [b, Nat.or_zero] at go
          exact go
        · rw [if_neg ne, h, cn_shl1 ht, cn_nor, ← b]
          exact go
    · rw [if_neg e]
      rw [cn_orf0 (by simp [e])] at go
      exact go
theorem cn_netsOf {D : cn_Dat} (ok : D.ok) (num : Nat → Int32) (c : Int32) : F_M_netsOf (nI D.n) D.there D.pin D.nop num c = some (nI (cn_orf D (fun p => decide (num p = c ∧ D.S p)) D.n)) := by
  have n60 := ok.n60
  exact cn_ntL ok D.n 0 4096 (by omega) (by omega)
theorem cn_ntI {D : cn_Dat} (ok : D.ok) {kept : Nat → Int32} {l : Nat → Nat} (hk : cn_KP D kept l) {num : Nat → Int32} (hn : ∀ j, j < D.n → num j = cn_nm kept j) {i : Nat} (s : D.S i) : F_M_netsOf (nI D.n) D.there D.pin D.nop num (cn_nm kept i) = some (nI (cn_nb D l (l i))) := by
  rw [cn_netsOf ok]
  unfold cn_nb
  rw [cn_orf_ext D D.n (q' := fun p => decide (D.S p ∧ l p = l i))]
  intro p hp
  by_cases sp : D.S p
  · have := hk.nmI ok sp s
    rw [hn p hp]
    simp only [sp, and_true, true_and, ne_eq, not_false_eq_true, this]
  · simp only [sp, and_false, false_and]
/-- the reference's number of a leader -/
def cn_rk (kept : Nat → Int32) (i : Nat) : Nat := cn_ct (cn_ld kept) i
theorem cn_rkb (kept : Nat → Int32) {i : Nat} (hi : i ≤ 60) : cn_rk kept i < 4096 := by have := cn_ct_le (cn_ld kept) i; unfold cn_rk; omega
theorem cn_nmL {D : cn_Dat} (ok : D.ok) {kept : Nat → Int32} {l : Nat → Nat} (hk : cn_KP D kept l) {i : Nat} (s : D.S i) (e : l i = i) : cn_nm kept i = nI (cn_rk kept i) := by
  rw [hk.nm ok s, e]; rfl
theorem cn_ct_sur (p : Nat → Bool) : ∀ n c, c < cn_ct p n → ∃ i, i < n ∧ p i = true ∧ cn_ct p i = c
  | 0, c, h => by have : cn_ct p 0 = 0 := rfl; omega
  | n + 1, c, h => by
    by_cases q : c < cn_ct p n
    · obtain ⟨i, h1, h2⟩ := cn_ct_sur p n c q
      exact ⟨i, by omega, h2⟩
    · have e : cn_ct p (n + 1) = cn_ct p n + (if p n then 1 else 0) := rfl
      cases hp : p n with
      | false => rw [hp] at e; simp at e; omega
      | true => rw [hp] at e; simp at e; exact ⟨n, by omega, hp, by omega⟩
theorem cn_ct_rank {p qX qM : Nat → Bool} : ∀ n, (∀ i, i < n → p i = true → qX i = qM (cn_ct p i)) → (∀ i, i < n → p i = false → qX i = false) → cn_ct qM (cn_ct p n) = cn_ct qX n
  | 0, _, _ => rfl
  | n + 1, h1, h2 => by
    have ih := cn_ct_rank n (fun i hi => h1 i (by omega)) (fun i hi => h2 i (by omega))
    show cn_ct qM (cn_ct p n + (if p n then 1 else 0)) = cn_ct qX n + (if qX n then 1 else 0)
    cases hp : p n with
    | false => rw [h2 n (by omega) hp]; simpa using ih
    | true =>
      rw [h1 n (by omega) hp, ← ih]
      rfl
def cn_sel (q : Nat → Bool) (n : Nat) (k r : Int32) : Prop := (∃ i, i < n ∧ q i = true ∧ nI (cn_ct q i) = k ∧ r = nI i) ∨ ((∀ i, i < n → q i = true → nI (cn_ct q i) ≠ k) ∧ r = -1)
theorem cn_ctI {q : Nat → Bool} {a b : Nat} (ha : a ≤ 60) (hb : b ≤ 60) (qa : q a = true) (qb : q b = true) (h : nI (cn_ct q a) = nI (cn_ct q b)) : a = b := by
  have := cn_ct_le q a
  have := cn_ct_le q b
  exact cn_ct_inj q qa qb ((cn_eqI (by omega) (by omega)).mp h)
theorem cn_sel_u {q : Nat → Bool} {n : Nat} {k r r' : Int32} (hn : n ≤ 60) (h : cn_sel q n k r) (h' : cn_sel q n k r') : r = r' := by
  rcases h with ⟨i, h1, h2, h3, h4⟩ | ⟨h1, h2⟩
  · rcases h' with ⟨j, g1, g2, g3, g4⟩ | ⟨g1, g2⟩
    · obtain rfl := cn_ctI (by omega) (by omega) h2 g2 (h3.trans g3.symm)
      rw [h4, g4]
    · exact absurd h3 (g1 i h1 h2)
  · rcases h' with ⟨j, g1, g2, g3, g4⟩ | ⟨g1, g2⟩
    · exact absurd g3 (h1 j g1 g2)
    · rw [h2, g2]
theorem cn_sel_s {q : Nat → Bool} {i : Nat} {k : Int32} (h : ∀ j, j < i → q j = true → nI (cn_ct q j) ≠ k) (hi : q i = true → nI (cn_ct q i) ≠ k) : ∀ j, j < i + 1 → q j = true → nI (cn_ct q j) ≠ k := fun j hj qj => by
  rcases Nat.lt_or_ge j i with z | z
  · exact h j z qj
  · obtain rfl : j = i := by omega
    exact hi qj
theorem cn_ct1 {q : Nat → Bool} {i : Nat} (h : q i = true) : cn_ct q (i + 1) = cn_ct q i + 1 := by show cn_ct q i + (if q i then 1 else 0) = _; rw [if_pos h]
theorem cn_ct0 {q : Nat → Bool} {i : Nat} (h : q i = false) : cn_ct q (i + 1) = cn_ct q i := by show cn_ct q i + (if q i then 1 else 0) = _; rw [if_neg (by rw [h]; decide)]; rfl
theorem cn_left0 {k v : Int32} {a : Nat} (h : v + nI a = k) : v = 0 ↔ nI a = k := by
  constructor
  · intro e; rw [← h, e, Int32.zero_add]
  · intro e
    have : v + nI a = 0 + nI a := by rw [h, Int32.zero_add, e]
    exact (Int32.add_left_inj _).mp this
theorem cn_left1 {k v : Int32} {a : Nat} (h : v + nI a = k) : (v + (-1)) + nI (a + 1) = k := by
  rw [nI_succ, ← h, Int32.add_assoc, Int32.add_comm (nI a) 1, ← Int32.add_assoc (-1) 1, show ((-1 : Int32) + 1) = 0 by decide, Int32.zero_add]
