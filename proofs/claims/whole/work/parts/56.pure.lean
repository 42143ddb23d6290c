theorem wb_tb (n : Nat) : (lN n).toBitVec = BitVec.ofNat 64 n := rfl
theorem wb_inj {a b : Int64} (h : a.toBitVec = b.toBitVec) : a = b := Int64.toBitVec_inj.mp h
theorem wb_tn {n : Nat} (h : n < 2 ^ 64) : (lN n).toBitVec.toNat = n := by rw [wb_tb, BitVec.toNat_ofNat, Nat.mod_eq_of_lt h]
theorem wb_of (x : Int64) : ∃ n, n < 2 ^ 64 ∧ x = lN n := ⟨x.toBitVec.toNat, x.toBitVec.isLt, wb_inj (by rw [wb_tb]; simp)⟩
theorem wb_c : ∀ k, k < 64 → ((nI k).toInt64 &&& 63) = lN k := by decide +kernel
theorem wb_sm : ∀ k, k < 64 → (BitVec.ofNat 64 k).smod 64 = BitVec.ofNat 64 k := by decide +kernel
theorem wb_pw {a b : Nat} (h : a ≤ b) : 2 ^ b = 2 ^ a * 2 ^ (b - a) := by rw [← Nat.pow_add]; congr 1; omega
theorem wb_lt2 {a b : Nat} (h : a < b) : 2 ^ a < 2 ^ b := Nat.pow_lt_pow_right (by decide) h
theorem wb_shl (n : Nat) {k : Nat} (hk : k < 64) : lN n <<< ((nI k).toInt64 &&& 63) = lN (n * 2 ^ k) := by
  rw [wb_c k hk]
  apply wb_inj
  rw [Int64.toBitVec_shiftLeft, wb_tb, wb_tb, wb_tb, wb_sm k hk]
  apply BitVec.eq_of_toNat_eq
  rw [BitVec.shiftLeft_eq', BitVec.toNat_shiftLeft, BitVec.toNat_ofNat, BitVec.toNat_ofNat, BitVec.toNat_ofNat, Nat.mod_eq_of_lt (show k < 2 ^ 64 by omega), Nat.shiftLeft_eq, Nat.mul_mod, Nat.mod_mod, ← Nat.mul_mod]
theorem wb_and {a b : Nat} (ha : a < 2 ^ 64) (hb : b < 2 ^ 64) : lN a &&& lN b = lN (a &&& b) := by
  apply wb_inj
  rw [Int64.toBitVec_and, wb_tb, wb_tb, wb_tb]
  apply BitVec.eq_of_toNat_eq
  rw [BitVec.toNat_and, BitVec.toNat_ofNat, BitVec.toNat_ofNat, BitVec.toNat_ofNat, Nat.mod_eq_of_lt ha, Nat.mod_eq_of_lt hb, Nat.mod_eq_of_lt (Nat.and_lt_two_pow _ hb)]
theorem wb_or {a b : Nat} (ha : a < 2 ^ 64) (hb : b < 2 ^ 64) : lN a ||| lN b = lN (a ||| b) := by
  apply wb_inj
  rw [Int64.toBitVec_or, wb_tb, wb_tb, wb_tb]
  apply BitVec.eq_of_toNat_eq
  rw [BitVec.toNat_or, BitVec.toNat_ofNat, BitVec.toNat_ofNat, BitVec.toNat_ofNat, Nat.mod_eq_of_lt ha, Nat.mod_eq_of_lt hb, Nat.mod_eq_of_lt (Nat.or_lt_two_pow ha hb)]
theorem wb_mask {n k : Nat} (hn : n < 2 ^ 64) (hk : k < 64) : lN n &&& lN (2 ^ k - 1) = lN (n % 2 ^ k) := by
  rw [wb_and hn (by have := wb_lt2 hk; omega), Nat.and_two_pow_sub_one_eq_mod]
/-! PURE: the numbers of pairs -/
def cn_Dat.cw (D : cn_Dat) (a b : Nat) : Int := (D.sq a b).toInt * 4096 + ((min a b : Nat) : Int) * 64 + ((max a b : Nat) : Int)
theorem cn_lN {n : Nat} (h : n < 2 ^ 62) : (lN n).toInt = (n : Int) := by
  show (Int64.ofNat n).toInt = _
  rw [Int64.toInt_ofNat', show Int64.size = 18446744073709551616 from rfl]
  exact Int.bmod_eq_of_le (by omega) (by omega)
theorem cn_lNof {v : Int64} (h0 : 0 ≤ v.toInt) (h1 : v.toInt < 2 ^ 62) : v = lN v.toInt.toNat := Int64.toInt_inj.mp (by rw [cn_lN (by omega)]; omega)
theorem cn_Dat.ok.pd {D : cn_Dat} (ok : D.ok) {a : Nat} (h : D.pin a ≠ -1) : D.ri a = D.x a ∧ D.hi a = D.y a := by
  obtain ⟨h1, h2⟩ := ok.disc a h
  refine ⟨?_, ?_⟩
  · show D.x a + D.w a = D.x a; rw [h1]; exact Int64.add_zero _
  · show D.y a + D.h a = D.y a; rw [h2]; exact Int64.add_zero _
theorem cn_sqr {u : Int} (h : -200000 ≤ u ∧ u ≤ 200000) : 0 ≤ u * u ∧ u * u ≤ 40000000000 := by
  refine ⟨?_, ?_⟩
  · rcases Int.le_total 0 u with q | q
    · exact Int.mul_nonneg q q
    · exact Int.mul_nonneg_of_nonpos_of_nonpos q q
  · rcases Int.le_total 0 u with q | q
    · have := Int.mul_le_mul h.2 h.2 q (by decide)
      omega
    · have := Int.mul_le_mul (show -u ≤ 200000 by omega) (show -u ≤ 200000 by omega) (show 0 ≤ -u by omega) (by decide)
      rw [Int.neg_mul_neg] at this
      omega
theorem cn_gapI {a c : Int64} (ha : -100000 ≤ a.toInt ∧ a.toInt ≤ 100000) (hc : -100000 ≤ c.toInt ∧ c.toInt ≤ 100000) : (cn_gap a a c c * cn_gap a a c c).toInt = (a.toInt - c.toInt) * (a.toInt - c.toInt) ∧ ((a - c) * (a - c)).toInt = (a.toInt - c.toInt) * (a.toInt - c.toInt) := by
  have b := cn_sqr (u := a.toInt - c.toInt) (by omega)
  have e1 : (a - c).toInt = a.toInt - c.toInt := cn_subJ rfl rfl (by omega) (by omega)
  have e2 : (c - a).toInt = c.toInt - a.toInt := cn_subJ rfl rfl (by omega) (by omega)
  have m1 : ((a - c) * (a - c)).toInt = (a.toInt - c.toInt) * (a.toInt - c.toInt) := cn_mulJ e1 e1 (by omega) (by omega)
  refine ⟨?_, m1⟩
  unfold cn_gap
  by_cases q1 : lg_cmp c a ≤ 0
  · rw [if_pos q1]
    by_cases q2 : lg_cmp a c ≤ 0
    · rw [if_pos q2]
      have z1 := cn_cmpLe.mp q1
      have z2 := cn_cmpLe.mp q2
      rw [Int64.lt_iff_toInt_lt] at z1 z2
      have : a.toInt - c.toInt = 0 := by omega
      rw [this]; rfl
    · rw [if_neg q2]; exact m1
  · rw [if_neg q1]
    have : (c.toInt - a.toInt) * (c.toInt - a.toInt) = (a.toInt - c.toInt) * (a.toInt - c.toInt) := by
      rw [show c.toInt - a.toInt = -(a.toInt - c.toInt) by omega, Int.neg_mul_neg]
    rw [← this]
    exact cn_mulJ e2 e2 (by omega) (by omega)
theorem cn_Dat.ok.sqI {D : cn_Dat} (ok : D.ok) {a b : Nat} (ha : D.pin a ≠ -1) (hb : D.pin b ≠ -1) :
    D.sq a b = (D.x a - D.x b) * (D.x a - D.x b) + (D.y a - D.y b) * (D.y a - D.y b) ∧ 0 ≤ (D.sq a b).toInt ∧ (D.sq a b).toInt ≤ 80000000000 := by
  obtain ⟨g1, g2⟩ := cn_gapI (ok.bx a) (ok.bx b)
  obtain ⟨g3, g4⟩ := cn_gapI (ok.bY a) (ok.bY b)
  have b1 := cn_sqr (u := (D.x a).toInt - (D.x b).toInt) (by have := ok.bx a; have := ok.bx b; omega)
  have b2 := cn_sqr (u := (D.y a).toInt - (D.y b).toInt) (by have := ok.bY a; have := ok.bY b; omega)
  have e1 : (D.sq a b).toInt = ((D.x a).toInt - (D.x b).toInt) * ((D.x a).toInt - (D.x b).toInt) + ((D.y a).toInt - (D.y b).toInt) * ((D.y a).toInt - (D.y b).toInt) := by
    unfold cn_Dat.sq
    rw [(ok.pd ha).1, (ok.pd ha).2, (ok.pd hb).1, (ok.pd hb).2]
    exact cn_addJ g1 g3 (by omega) (by omega)
  refine ⟨Int64.toInt_inj.mp ?_, by omega, by omega⟩
  rw [e1]
  exact (cn_addJ g2 g4 (by omega) (by omega)).symm
theorem cn_Dat.ok.cwS {D : cn_Dat} (ok : D.ok) (a b : Nat) : D.cw a b = D.cw b a := by
  unfold cn_Dat.cw
  rw [ok.sqS a b, Nat.min_comm, Nat.max_comm]
theorem cn_Dat.ok.cwB {D : cn_Dat} (ok : D.ok) {a b : Nat} (ha : D.pin a ≠ -1) (hb : D.pin b ≠ -1) (a60 : a < 60) (b60 : b < 60) : 0 ≤ D.cw a b ∧ D.cw a b < 400000000000000 := by
  obtain ⟨-, h1, h2⟩ := ok.sqI ha hb
  unfold cn_Dat.cw
  omega
/-- the number of a pair says which pair it is -/
theorem cn_cwI {D : cn_Dat} {a b a' b' : Nat} (a60 : a < 60) (b60 : b < 60) (a60' : a' < 60) (b60' : b' < 60) (h : D.cw a b = D.cw a' b') : (D.sq a b).toInt = (D.sq a' b').toInt ∧ min a b = min a' b' ∧ max a b = max a' b' := by
  unfold cn_Dat.cw at h
  omega
theorem cn_orN {n a : Nat} (h : a < 64) : n * 2 ^ 6 ||| a = n * 64 + a := by
  have := Nat.shiftLeft_add_eq_or_of_lt (i := 6) (b := a) (by omega) n
  rw [Nat.shiftLeft_eq] at this
  rw [← this]
theorem cn_ofQ {s : Int64} (h0 : 0 ≤ s.toInt) (h1 : s.toInt ≤ 80000000000) {a b : Nat} (ha : a < 60) (hb : b < 60) : ∃ c, F_Q_of s (nI a) (nI b) = some c ∧ c.toInt = s.toInt * 4096 + ((min a b : Nat) : Int) * 64 + ((max a b : Nat) : Int) := by
  unfold F_Q_of F_Q_of_0
  rw [cn_minI (by omega) (by omega), cn_maxI (by omega) (by omega)]
  simp only [Option.bind_some]
  refine ⟨_, rfl, ?_⟩
  obtain ⟨k, hk⟩ : ∃ k : Nat, s.toInt = (k : Int) := ⟨s.toInt.toNat, by omega⟩
  have es : s = lN k := by rw [cn_lNof h0 (by omega), hk]; rfl
  have e6 : (6 : Int32) = nI 6 := by decide
  rw [hk, es, e6, wb_shl k (by decide), nI_l (show min a b < 2 ^ 31 by omega), nI_l (show max a b < 2 ^ 31 by omega), wb_or (by omega) (by omega), cn_orN (by omega), wb_shl _ (by decide), wb_or (by omega) (by omega), cn_orN (by omega), cn_lN (by omega)]
  omega
theorem cn_codeX {D : cn_Dat} (ok : D.ok) {a b : Nat} (ha : D.pin a ≠ -1) (hb : D.pin b ≠ -1) (a60 : a < 60) (b60 : b < 60) : ∃ c, F_Q_of (D.sq a b) (nI a) (nI b) = some c ∧ c.toInt = D.cw a b := by
  obtain ⟨-, h1, h2⟩ := ok.sqI ha hb
  exact cn_ofQ h1 h2 a60 b60
theorem cn_shrI (v : Int64) (k : Nat) (hk : k < 64) : (v >>> ((nI k).toInt64 &&& 63)).toInt = v.toInt / 2 ^ k := by
  rw [wb_c k hk]
  show (v >>> lN k).toBitVec.toInt = _
  rw [Int64.toBitVec_shiftRight, wb_tb, wb_sm k hk, BitVec.sshiftRight_eq', BitVec.toInt_sshiftRight, BitVec.toNat_ofNat, Nat.mod_eq_of_lt (show k < 2 ^ 64 by omega), Int.shiftRight_eq_div_pow]
  rfl
theorem cn_sqQ {c : Int64} {s : Int} {a b : Nat} (h : c.toInt = s * 4096 + (a : Int) * 64 + (b : Int)) (ha : a < 64) (hb : b < 64) : ∃ r, F_Q_square c = some r ∧ r.toInt = s := by
  unfold F_Q_square F_Q_square_0
  refine ⟨_, rfl, ?_⟩
  rw [show (12 : Int32) = nI 12 by decide, cn_shrI _ _ (by decide), h]
  omega
theorem cn_and63 {v : Int64} (h0 : 0 ≤ v.toInt) (h1 : v.toInt < 2 ^ 62) {m : Nat} (hm : v.toInt % 64 = (m : Int)) : Int64.toInt32 (v &&& 63) = nI m := by
  obtain ⟨k, hk⟩ : ∃ k : Nat, v.toInt = (k : Int) := ⟨v.toInt.toNat, by omega⟩
  have ev : v = lN k := by rw [cn_lNof h0 h1, hk]; rfl
  have e63 : (63 : Int64) = lN (2 ^ 6 - 1) := by decide
  rw [ev, e63, wb_mask (by omega) (by decide), lN_i, show k % 2 ^ 6 = m by omega]
theorem cn_pcQ {c : Int64} {s : Int} {a b : Nat} (h : c.toInt = s * 4096 + (a : Int) * 64 + (b : Int)) (h0 : 0 ≤ s) (h1 : s ≤ 80000000000) (ha : a < 64) (hb : b < 64) : F_Q_piece c 0 = some (nI a) ∧ ∀ v, v ≠ 0 → F_Q_piece c v = some (nI b) := by
  unfold F_Q_piece F_Q_piece_0 F_Q_piece_12
  refine ⟨?_, fun v hv => ?_⟩
  · rw [if_pos rfl, show (6 : Int32) = nI 6 by decide]
    have := cn_shrI c 6 (by decide)
    rw [cn_and63 (m := a) (by rw [this, h]; omega) (by rw [this, h]; omega) (by rw [this, h]; omega)]
  · rw [if_neg hv, cn_and63 (m := b) (by omega) (by omega) (by rw [h]; omega)]
