/-! PURE: bits of a word, counted -/
theorem cn_andl {k u v p q : Nat} (hv : v < 2 ^ k) (hq : q < 2 ^ k) : (2 ^ k * u + v) &&& (2 ^ k * p + q) = 2 ^ k * (u &&& p) + (v &&& q) := by
  apply Nat.eq_of_testBit_eq
  intro i
  have h3 : v &&& q < 2 ^ k := Nat.lt_of_le_of_lt Nat.and_le_left hv
  rw [Nat.testBit_and, Nat.testBit_two_pow_mul_add _ hv, Nat.testBit_two_pow_mul_add _ hq, Nat.testBit_two_pow_mul_add _ h3]
  by_cases h : i < k
  · simp only [if_pos h, Nat.testBit_and]
  · simp only [if_neg h, Nat.testBit_and]
def cn_P : Nat → Nat → Nat
  | 0, _ => 0
  | k + 1, n => n % 2 + cn_P k (n / 2)
theorem cn_P_add : ∀ (a b n : Nat), cn_P (a + b) n = cn_P a n + cn_P b (n / 2 ^ a)
  | 0, b, n => by rw [Nat.zero_add]; simp [cn_P]
  | a + 1, b, n => by
    rw [show a + 1 + b = (a + b) + 1 by omega]
    show n % 2 + cn_P (a + b) (n / 2) = n % 2 + cn_P a (n / 2) + cn_P b (n / 2 ^ (a + 1))
    rw [cn_P_add a b, Nat.div_div_eq_div_mul, Nat.pow_succ, Nat.mul_comm (2 ^ a) 2]
    omega
theorem cn_P_mod : ∀ (a n m : Nat), cn_P a (2 ^ a * m + n) = cn_P a n
  | 0, n, m => rfl
  | a + 1, n, m => by
    show (2 ^ (a + 1) * m + n) % 2 + cn_P a ((2 ^ (a + 1) * m + n) / 2) = n % 2 + cn_P a (n / 2)
    have e : 2 ^ (a + 1) * m + n = 2 * (2 ^ a * m) + n := by rw [Nat.pow_succ, Nat.mul_comm (2 ^ a) 2, Nat.mul_assoc]
    rw [e, Nat.mul_add_mod, show (2 * (2 ^ a * m) + n) / 2 = 2 ^ a * m + n / 2 by omega, cn_P_mod a]
theorem cn_P0 : ∀ (k n : Nat), n < 2 ^ k → (cn_P k n = 0 ↔ n = 0)
  | 0, n, h => by simp [cn_P]; omega
  | k + 1, n, h => by
    show n % 2 + cn_P k (n / 2) = 0 ↔ n = 0
    have := cn_P0 k (n / 2) (by rw [Nat.pow_succ] at h; omega)
    omega
/-- a word with at most one bit -/
theorem cn_P2 : ∀ (k n : Nat), n < 2 ^ k → (cn_P k n < 2 ↔ n &&& (n - 1) = 0)
  | 0, n, h => by
    obtain rfl : n = 0 := by
      simp at h; exact h
    decide
  | k + 1, n, h => by
    show n % 2 + cn_P k (n / 2) < 2 ↔ _
    have h' : n / 2 < 2 ^ k := by rw [Nat.pow_succ] at h; omega
    have ih := cn_P2 k (n / 2) h'
    have ih0 := cn_P0 k (n / 2) h'
    obtain ⟨q, b, hb, rfl⟩ : ∃ q b, b < 2 ∧ n = 2 ^ 1 * q + b := ⟨n / 2, n % 2, by omega, by omega⟩
    have e1 : (2 ^ 1 * q + b) / 2 = q := by omega
    have e2 : (2 ^ 1 * q + b) % 2 = b := by omega
    rw [e1] at ih ih0 ⊢
    rw [e2]
    have hb2 : b = 0 ∨ b = 1 := by omega
    rcases hb2 with rfl | rfl
    · rcases Nat.eq_zero_or_pos q with rfl | hq
      · rw [ih0.mpr rfl]; decide
      · have z : (0 : Nat) &&& 1 = 0 := by decide
        rw [show 2 ^ 1 * q + 0 - 1 = 2 ^ 1 * (q - 1) + 1 by omega, cn_andl (by decide) (by decide), Nat.zero_add, ih, z]
        generalize q &&& (q - 1) = y
        omega
    · rw [show 2 ^ 1 * q + 1 - 1 = 2 ^ 1 * q + 0 by omega, cn_andl (by decide) (by decide), Nat.and_self]
      have : (1 : Nat) &&& 0 = 0 := by decide
      rw [this]
      omega
def cn_s1 (n : Nat) : Nat := n - ((n / 2 ^ 1) &&& 1431655765)
def cn_s2 (n : Nat) : Nat := (n &&& 858993459) + ((n / 2 ^ 2) &&& 858993459)
def cn_s3 (n : Nat) : Nat := (n + (n / 2 ^ 4)) &&& 252645135
def cn_s4 (n : Nat) : Nat := n + (n / 2 ^ 8)
def cn_s5 (n : Nat) : Nat := (n + (n / 2 ^ 16)) &&& 63
def cn_f1 (a : Nat) : Nat := a - ((a / 2) &&& 85)
def cn_f2 (a : Nat) : Nat := (a &&& 51) + ((a / 4) &&& 51)
def cn_f3 (a : Nat) : Nat := (a + (a / 16)) &&& 15
theorem cn_b1 : ∀ a, a < 256 → (a / 2) &&& 85 ≤ a ∧ ∀ c, c < 2 → (c * 128 + a / 2) &&& 85 = (a / 2) &&& 85 := by decide +kernel
theorem cn_b2 : ∀ a, a < 256 → ∀ c, c < 4 → (c * 64 + a / 4) &&& 51 = (a / 4) &&& 51 := by decide +kernel
theorem cn_fP : ∀ a, a < 256 → cn_f3 (cn_f2 (cn_f1 a)) = cn_P 8 a ∧ cn_P 8 a ≤ 8 ∧ cn_f1 a < 256 ∧ cn_f2 (cn_f1 a) < 128 := by decide +kernel
theorem cn_b3 : ∀ a, a < 256 → cn_f2 (cn_f1 a) % 16 < 5 ∧ cn_f2 (cn_f1 a) < 80 ∧ (cn_f2 (cn_f1 a) + cn_f2 (cn_f1 a) / 16) &&& 3855 = cn_f3 (cn_f2 (cn_f1 a)) ∧ ∀ c, c < 5 → (c * 16 + (cn_f2 (cn_f1 a) + cn_f2 (cn_f1 a) / 16)) &&& 15 = cn_f3 (cn_f2 (cn_f1 a)) := by decide +kernel
theorem cn_cut {v M p : Nat} (hv : v < 2 ^ 24) (hp : p < 2 ^ 24) : v &&& (2 ^ 24 * M + p) = v &&& p := by
  have := @cn_andl 24 0 v M p hv hp
  simp only [Nat.mul_zero, Nat.zero_add, Nat.zero_and] at this
  exact this
theorem cn_s1L (u a : Nat) (ha : a < 256) (hu : u < 2 ^ 24) : cn_s1 (256 * u + a) = 256 * cn_s1 u + cn_f1 a := by
  unfold cn_s1 cn_f1
  have e : (256 * u + a) / 2 ^ 1 = 2 ^ 8 * (u / 2) + ((u % 2) * 128 + a / 2) := by omega
  have c1 : u / 2 ^ 1 &&& 1431655765 = u / 2 &&& 5592405 := cn_cut (M := 85) (p := 5592405) (by omega) (by decide)
  rw [c1, e, show 1431655765 = 2 ^ 8 * 5592405 + 85 by decide, cn_andl (by omega) (by decide), (cn_b1 a ha).2 (u % 2) (by omega)]
  have h1 := (cn_b1 a ha).1
  have h2 : u / 2 &&& 5592405 ≤ u := Nat.le_trans Nat.and_le_left (by omega)
  omega
theorem cn_s2L (u a : Nat) (ha : a < 256) (hu : u < 2 ^ 24) : cn_s2 (256 * u + a) = 256 * cn_s2 u + cn_f2 a := by
  unfold cn_s2 cn_f2
  have e1 : (256 * u + a) / 2 ^ 2 = 2 ^ 8 * (u / 4) + ((u % 4) * 64 + a / 4) := by omega
  have c1 : u &&& 858993459 = u &&& 3355443 := cn_cut (M := 51) (p := 3355443) hu (by decide)
  have c2 : u / 2 ^ 2 &&& 858993459 = u / 4 &&& 3355443 := cn_cut (M := 51) (p := 3355443) (by omega) (by decide)
  rw [c1, c2, e1, show 256 * u + a = 2 ^ 8 * u + a by omega, show 858993459 = 2 ^ 8 * 3355443 + 51 by decide, cn_andl (by omega) (by decide), cn_andl (by omega) (by decide), cn_b2 a ha (u % 4) (by omega)]
  omega
theorem cn_pop {n : Nat} (hn : n < 2 ^ 24) : cn_s5 (cn_s4 (cn_s3 (cn_s2 (cn_s1 n)))) = cn_P 24 n := by
  obtain ⟨a, b, c, ha, hb, hc, rfl⟩ : ∃ a b c, a < 256 ∧ b < 256 ∧ c < 256 ∧ n = 256 * (256 * a + b) + c := ⟨n / 65536, n / 256 % 256, n % 256, by omega, by omega, by omega, by omega⟩
  have e1 : cn_s1 a = cn_f1 a := by
    have := cn_s1L 0 a ha (by decide)
    rw [show cn_s1 0 = 0 by decide] at this
    simpa using this
  have fa := cn_fP a ha
  have fb := cn_fP b hb
  have fc := cn_fP c hc
  have e2 : cn_s2 (cn_f1 a) = cn_f2 (cn_f1 a) := by
    have := cn_s2L 0 (cn_f1 a) fa.2.2.1 (by decide)
    rw [show cn_s2 0 = 0 by decide] at this
    simpa using this
  rw [cn_s1L _ c hc (by omega), cn_s1L a b hb (by omega), e1, cn_s2L _ _ fc.2.2.1 (by omega), cn_s2L _ _ fb.2.2.1 (by omega), e2]
  obtain ⟨x1, x2, x3, x4⟩ := cn_b3 a ha
  obtain ⟨y1, y2, y3, y4⟩ := cn_b3 b hb
  obtain ⟨z1, z2, z3, z4⟩ := cn_b3 c hc
  have hP : cn_P 24 (256 * (256 * a + b) + c) = cn_P 8 c + (cn_P 8 b + cn_P 8 a) := by
    rw [cn_P_add 8 16, cn_P_add 8 8, show 256 * (256 * a + b) + c = 2 ^ 8 * (256 * a + b) + c by omega, cn_P_mod 8, show (2 ^ 8 * (256 * a + b) + c) / 2 ^ 8 = 2 ^ 8 * a + b by omega, cn_P_mod 8, show (2 ^ 8 * a + b) / 2 ^ 8 = a by omega]
  rw [hP]
  generalize hx : cn_f2 (cn_f1 a) = x at *
  generalize hy : cn_f2 (cn_f1 b) = y at *
  generalize hz : cn_f2 (cn_f1 c) = z at *
  have e3 : cn_s3 (256 * (256 * x + y) + z) = 256 * (256 * cn_f3 x + cn_f3 y) + cn_f3 z := by
    unfold cn_s3
    have e : 256 * (256 * x + y) + z + (256 * (256 * x + y) + z) / 2 ^ 4 = 2 ^ 8 * (2 ^ 8 * (x + x / 16) + (x % 16 * 16 + (y + y / 16))) + (y % 16 * 16 + (z + z / 16)) := by omega
    rw [e, show 252645135 = 2 ^ 8 * (2 ^ 8 * 3855 + 15) + 15 by decide, cn_andl (by omega) (by decide), cn_andl (by omega) (by decide), x3, y4 _ x1, z4 _ y1]
  rw [e3]
  rw [fa.1, fb.1, fc.1]
  have ua := fa.2.1
  have ub := fb.2.1
  have uc := fc.2.1
  generalize cn_P 8 a = p at *
  generalize cn_P 8 b = q at *
  generalize cn_P 8 c = r at *
  have e4 : cn_s4 (256 * (256 * p + q) + r) = 65536 * p + 256 * (q + p) + (r + q) := by unfold cn_s4; omega
  rw [e4]
  unfold cn_s5
  rw [show (63 : Nat) = 2 ^ 6 - 1 by decide, Nat.and_two_pow_sub_one_eq_mod]
  clear hP
  have hv : (65536 * p + 256 * (q + p) + (r + q)) / 2 ^ 16 = p := by omega
  rw [hv]
  omega
theorem cn_nand (a b : Nat) : nI a &&& nI b = nI (a &&& b) := by
  apply Int32.toBitVec_inj.mp
  show BitVec.ofNat 32 a &&& BitVec.ofNat 32 b = BitVec.ofNat 32 (a &&& b)
  apply BitVec.eq_of_toNat_eq
  rw [BitVec.toNat_and, BitVec.toNat_ofNat, BitVec.toNat_ofNat, BitVec.toNat_ofNat, Nat.and_mod_two_pow]
theorem cn_nor (a b : Nat) : nI a ||| nI b = nI (a ||| b) := by
  apply Int32.toBitVec_inj.mp
  show BitVec.ofNat 32 a ||| BitVec.ofNat 32 b = BitVec.ofNat 32 (a ||| b)
  apply BitVec.eq_of_toNat_eq
  rw [BitVec.toNat_or, BitVec.toNat_ofNat, BitVec.toNat_ofNat, BitVec.toNat_ofNat, Nat.or_mod_two_pow]
theorem cn_s1b (n : Nat) : cn_s1 n ≤ n := by unfold cn_s1; omega
theorem cn_s2b (n : Nat) : cn_s2 n ≤ 2 * n := by
  unfold cn_s2
  have h1 : n &&& 858993459 ≤ n := Nat.and_le_left
  have h2 : (n / 2 ^ 2) &&& 858993459 ≤ n / 2 ^ 2 := Nat.and_le_left
  omega
theorem cn_s3b (n : Nat) : cn_s3 n ≤ 252645135 := Nat.and_le_right
theorem cn_bitCount {n : Nat} (hn : n < 2 ^ 20) : F_jI_bitCount (nI n) = some (nI (cn_P 24 n)) := by
  have b1 := cn_s1b n
  have b2 := cn_s2b (cn_s1 n)
  have b3 := cn_s3b (cn_s2 (cn_s1 n))
  have h1 : nI n - (((Int32.toUInt32 (nI n) >>> (Int32.toUInt32 1 &&& Int32.toUInt32 31)).toInt32) &&& 1431655765) = nI (cn_s1 n) := by
    rw [pk_ushrN (by omega) 1 1 (by decide), show (1431655765 : Int32) = nI 1431655765 by decide, cn_nand, pk_sub (Nat.le_trans Nat.and_le_left (by omega))]
    rfl
  have h2 : (nI (cn_s1 n) &&& 858993459) + (((Int32.toUInt32 (nI (cn_s1 n)) >>> (Int32.toUInt32 2 &&& Int32.toUInt32 31)).toInt32) &&& 858993459) = nI (cn_s2 (cn_s1 n)) := by
    rw [pk_ushrN (by omega) 2 2 (by decide), show (858993459 : Int32) = nI 858993459 by decide, cn_nand, cn_nand, nI_add]
    rfl
  have h3 : (nI (cn_s2 (cn_s1 n)) + ((Int32.toUInt32 (nI (cn_s2 (cn_s1 n))) >>> (Int32.toUInt32 4 &&& Int32.toUInt32 31)).toInt32)) &&& 252645135 = nI (cn_s3 (cn_s2 (cn_s1 n))) := by
    rw [pk_ushrN (by omega) 4 4 (by decide), show (252645135 : Int32) = nI 252645135 by decide, nI_add, cn_nand]
    rfl
  have h4 : nI (cn_s3 (cn_s2 (cn_s1 n))) + ((Int32.toUInt32 (nI (cn_s3 (cn_s2 (cn_s1 n)))) >>> (Int32.toUInt32 8 &&& Int32.toUInt32 31)).toInt32) = nI (cn_s4 (cn_s3 (cn_s2 (cn_s1 n)))) := by
    rw [pk_ushrN (by omega) 8 8 (by decide), nI_add]
    rfl
  have b4 : cn_s4 (cn_s3 (cn_s2 (cn_s1 n))) < 2 ^ 32 := by unfold cn_s4; omega
  have h5 : (nI (cn_s4 (cn_s3 (cn_s2 (cn_s1 n)))) + ((Int32.toUInt32 (nI (cn_s4 (cn_s3 (cn_s2 (cn_s1 n))))) >>> (Int32.toUInt32 16 &&& Int32.toUInt32 31)).toInt32)) &&& 63 = nI (cn_s5 (cn_s4 (cn_s3 (cn_s2 (cn_s1 n))))) := by
    rw [pk_ushrN b4 16 16 (by decide), show (63 : Int32) = nI 63 by decide, nI_add, cn_nand]
    rfl
  unfold F_jI_bitCount F_jI_bitCount_0
  rw [h1, h2, h3, h4, h5, cn_pop (by omega)]
/-- two planned nets or more -/
def cn_sh (n : Nat) : Bool := decide (n &&& (n - 1) ≠ 0)
theorem cn_P24 {n : Nat} (hn : n < 2 ^ 20) : nI (cn_P 24 n) < 2 ↔ cn_sh n = false := by
  have h := cn_P2 24 n (by omega)
  have hb : cn_P 24 n ≤ 24 := by
    have : ∀ k m, cn_P k m ≤ k := fun k => by
      induction k with
      | zero => intro m; exact Nat.le_refl 0
      | succ k ih => intro m; have := ih (m / 2); show m % 2 + cn_P k (m / 2) ≤ k + 1; omega
    exact this 24 n
  rw [show (2 : Int32) = nI 2 by decide, cn_ltI (by omega) (by decide), h]
  unfold cn_sh
  simp
theorem cn_shX {n : Nat} (hn : n < 2 ^ 20) : ∃ v, F_jI_bitCount (nI n) = some v ∧ (v < 2 ↔ cn_sh n = false) := ⟨_, cn_bitCount hn, cn_P24 hn⟩
theorem cn_m1w {n : Nat} (hn : n < 2 ^ 20) : nI n &&& (nI n - 1) = nI (n &&& (n - 1)) := by
  rcases Nat.eq_zero_or_pos n with rfl | h
  · decide
  · rw [show (1 : Int32) = nI 1 by decide, pk_sub h, cn_nand]
theorem cn_shM {n : Nat} (hn : n < 2 ^ 20) : F_M_isShort (nI n) = some (if cn_sh n then 1 else 0) := by
  unfold F_M_isShort F_M_isShort_0 F_M_isShort_13
  rw [cn_m1w hn]
  have : n &&& (n - 1) ≤ n := Nat.and_le_left
  by_cases h : n &&& (n - 1) = 0
  · rw [if_pos (by rw [h]; rfl), cn_bl0, if_neg (by unfold cn_sh; simp [h])]
  · rw [if_neg (nI_ne0 (by omega) (by omega)), cn_bl1, if_pos (by unfold cn_sh; simp [h])]
