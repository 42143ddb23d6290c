/-! PURE: the nets' numbers -/
def cn_nm (kept : Nat → Int32) (i : Nat) : Int32 := if kept i = -1 then -1 else nI (cn_ct (cn_ld kept) (kept i).toNatClampNeg)
/-- what the kept groups' array says -/
abbrev cn_KP (D : cn_Dat) (kept : Nat → Int32) (l : Nat → Nat) : Prop :=
  (cn_Canon D.S D.T l) ∧ (∀ i, D.S i → kept i = nI (l i)) ∧ (∀ i, i < 60 → ¬ D.S i → kept i = -1) ∧ (∀ i, D.S i → l i ≤ i) ∧ (∀ i, D.S i → l (l i) = l i) ∧ (∀ i, D.S i → D.S (l i))
theorem cn_KP.can {D : cn_Dat} {kept : Nat → Int32} {l : Nat → Nat} (hh : cn_KP D kept l) : cn_Canon D.S D.T l := hh.1
theorem cn_KP.yes {D : cn_Dat} {kept : Nat → Int32} {l : Nat → Nat} (hh : cn_KP D kept l) : ∀ i, D.S i → kept i = nI (l i) := hh.2.1
theorem cn_KP.no {D : cn_Dat} {kept : Nat → Int32} {l : Nat → Nat} (hh : cn_KP D kept l) : ∀ i, i < 60 → ¬ D.S i → kept i = -1 := hh.2.2.1
theorem cn_KP.le {D : cn_Dat} {kept : Nat → Int32} {l : Nat → Nat} (hh : cn_KP D kept l) : ∀ i, D.S i → l i ≤ i := hh.2.2.2.1
theorem cn_KP.ide {D : cn_Dat} {kept : Nat → Int32} {l : Nat → Nat} (hh : cn_KP D kept l) : ∀ i, D.S i → l (l i) = l i := hh.2.2.2.2.1
theorem cn_KP.mem {D : cn_Dat} {kept : Nat → Int32} {l : Nat → Nat} (hh : cn_KP D kept l) : ∀ i, D.S i → D.S (l i) := hh.2.2.2.2.2
theorem cn_Kept.kp {D : cn_Dat} {kept : Nat → Int32} (h : cn_Kept D kept) : ∃ l, cn_KP D kept l := by
  obtain ⟨l, hR, hC⟩ := h
  exact ⟨l, hC, fun i s => (hR.1 i s).2, hR.2, hC.2.1, fun i s => cn_idem hC i s, hC.1⟩
theorem cn_KP.m1 {D : cn_Dat} {kept : Nat → Int32} {l : Nat → Nat} (ok : D.ok) (h : cn_KP D kept l) {i : Nat} (hi : i < 60) : kept i = -1 ↔ ¬ D.S i := by
  constructor
  · intro e s
    rw [h.yes i s] at e
    have := h.le i s
    exact cn_m1 (by omega) e
  · exact h.no i hi
theorem cn_KP.ld {D : cn_Dat} {kept : Nat → Int32} {l : Nat → Nat} (ok : D.ok) (h : cn_KP D kept l) {i : Nat} (hi : i < 60) : cn_ld kept i = true ↔ D.S i ∧ l i = i := by
  show decide (kept i = nI i) = true ↔ _
  rw [decide_eq_true_iff]
  by_cases s : D.S i
  · have := h.le i s
    rw [h.yes i s, cn_eqI (by omega) (by omega)]
    exact ⟨fun e => ⟨s, e⟩, fun e => e.2⟩
  · rw [h.no i hi s]
    exact ⟨fun e => absurd e.symm (cn_m1 (by omega)), fun e => absurd e.1 s⟩
theorem cn_KP.nm {D : cn_Dat} {kept : Nat → Int32} {l : Nat → Nat} (ok : D.ok) (h : cn_KP D kept l) {i : Nat} (s : D.S i) : cn_nm kept i = nI (cn_ct (cn_ld kept) (l i)) := by
  have := h.le i s
  have := ok.lt s
  have := ok.n60
  unfold cn_nm
  rw [h.yes i s, if_neg (cn_m1 (by omega)), cn_ki (by omega)]
theorem cn_KP.nm0 {D : cn_Dat} {kept : Nat → Int32} {l : Nat → Nat} (h : cn_KP D kept l) {i : Nat} (hi : i < 60) (s : ¬ D.S i) : cn_nm kept i = -1 := by
  unfold cn_nm
  rw [h.no i hi s, if_pos rfl]
/-- two members have one number just if they have one label -/
theorem cn_KP.nmI {D : cn_Dat} {kept : Nat → Int32} {l : Nat → Nat} (ok : D.ok) (h : cn_KP D kept l) {i j : Nat} (si : D.S i) (sj : D.S j) : cn_nm kept i = cn_nm kept j ↔ l i = l j := by
  have n60 := ok.n60
  have a1 := h.le i si
  have a2 := h.le j sj
  have a3 := ok.lt si
  have a4 := ok.lt sj
  have c1 := cn_ct_le (cn_ld kept) (l i)
  have c2 := cn_ct_le (cn_ld kept) (l j)
  rw [h.nm ok si, h.nm ok sj, cn_eqI (by omega) (by omega)]
  constructor
  · exact cn_ct_inj _ ((h.ld ok (by omega)).mpr ⟨h.mem i si, h.ide i si⟩) ((h.ld ok (by omega)).mpr ⟨h.mem j sj, h.ide j sj⟩)
  · intro e; rw [e]
theorem cn_netsL {D : cn_Dat} (ok : D.ok) {kept : Nat → Int32} {l : Nat → Nat} (h : cn_KP D kept l) {g : Nat → Int32} (hg : ∀ i, i < D.n → g i = kept i) : ∀ (d i fuel : Nat) (num : Nat → Int32), i + d = D.n → d < fuel → (∀ j, j < i → num j = cn_nm kept j) →
    ∃ num', F_M_findNets_8 fuel (nI D.n) D.there D.fr D.to D.x D.y D.w D.h D.r g num (nI (cn_ct (cn_ld kept) i)) (nI i) = some (nI (cn_ct (cn_ld kept) D.n), g, num') ∧ ∀ j, j < D.n → num' j = cn_nm kept j := by
  have n60 := ok.n60
  intro d
  induction d with
  | zero =>
    intro i fuel num hi hf hn
    obtain ⟨k, rfl⟩ : ∃ k, fuel = k + 1 := ⟨fuel - 1, by omega⟩
    obtain rfl : i = D.n := by omega
    rw [F_M_findNets_8, if_pos ((cn_leI (by omega) (by omega)).mpr (by omega))]
    exact ⟨num, rfl, hn⟩
  | succ d ih =>
    intro i fuel num hi hf hn
    obtain ⟨k, rfl⟩ : ∃ k, fuel = k + 1 := ⟨fuel - 1, by omega⟩
    rw [F_M_findNets_8, if_neg (fun z => by have := (cn_leI (by omega) (by omega)).mp z; omega)]
    unfold F_M_findNets_76
    simp only [cn_rdI (show i < 60 by omega) (show 60 < 2 ^ 31 by decide), cn_ki (show i < 4096 by omega), nI_1, hg i (by omega)]
    have go : ∀ v, v = cn_nm kept i → ∀ j, j < i + 1 → upd num i v j = cn_nm kept j := fun v hv j hj => by
      rw [cn_up]
      by_cases q : j = i
      · rw [if_pos q, q]; exact hv
      · rw [if_neg q]; exact hn j (by omega)
    have e : cn_ct (cn_ld kept) (i + 1) = cn_ct (cn_ld kept) i + (if cn_ld kept i then 1 else 0) := rfl
    by_cases s : D.S i
    · have li := h.le i s
      rw [if_neg (by rw [h.yes i s]; exact cn_m1 (by omega))]
      by_cases q : l i = i
      · rw [if_pos (show kept i = nI i by rw [h.yes i s, q])]
        rw [if_pos ((h.ld ok (by omega)).mpr ⟨s, q⟩)] at e
        have := ih (i + 1) k (upd num i (nI (cn_ct (cn_ld kept) i))) (by omega) (by omega) (go _ (by rw [h.nm ok s, q]))
        rw [e] at this
        exact this
      · rw [if_neg (show ¬ kept i = nI i by rw [h.yes i s, cn_eqI (by omega) (by omega)]; exact q)]
        rw [if_neg (fun z => q ((h.ld ok (by omega)).mp z).2)] at e
        rw [h.yes i s, cn_rdI (by omega) (by omega), cn_ki (by omega)]
        have := ih (i + 1) k (upd num i (num (l i))) (by omega) (by omega) (go _ (by rw [hn (l i) (by omega), h.nm ok s, h.nm ok (h.mem i s), h.ide i s]))
        rw [e] at this
        exact this
    · rw [if_pos (h.no i (by omega) s)]
      rw [if_neg (fun z => s ((h.ld ok (by omega)).mp z).1)] at e
      have := ih (i + 1) k (upd num i (-1)) (by omega) (by omega) (go _ (by rw [h.nm0 (by omega) s]))
      rw [e] at this
      exact this
theorem cn_nets {D : cn_Dat} (ok : D.ok) {kept : Nat → Int32} {l : Nat → Nat} (h : cn_KP D kept l) (lab num : Nat → Int32) : ∃ g num', F_M_findNets (nI D.n) D.there D.fr D.to D.x D.y D.w D.h D.r lab num = some (nI (cn_ct (cn_ld kept) D.n), g, num') ∧ ∀ j, j < D.n → num' j = cn_nm kept j := by
  have n60 := ok.n60
  obtain ⟨b, g, e, hC, h1, h2⟩ := cn_labels0 ok lab
  unfold F_M_findNets F_M_findNets_0
  rw [e]
  simp only [Option.bind_some]
  obtain ⟨num', e', h'⟩ := cn_netsL ok h (g := g) (fun i hi => by
    by_cases s : D.S i
    · rw [h1 i hi s, h.yes i s, cn_uniq hC h.can i s]
    · rw [h2 i hi s, h.no i (by omega) s]) D.n 0 4096 num (by omega) (by omega) (fun j hj => by omega)
  exact ⟨g, num', e', h'⟩
theorem cn_run {D : cn_Dat} (ok : D.ok) {kept : Nat → Int32} (hK : cn_Kept D kept) (th : Int32) (lab num : Nat → Int32) :
    ∃ v lab' num', F_X_run (nI D.n) kept = some v ∧ F_M_run th (nI D.n) D.there D.fr D.to D.x D.y D.w D.h D.r lab num = some (v, 0, lab', num') := by
  obtain ⟨l, h⟩ := hK.kp
  obtain ⟨g, num', e, -⟩ := cn_nets ok h lab num
  refine ⟨nI (cn_ct (cn_ld kept) D.n), g, num', ?_, ?_⟩
  · unfold F_X_run F_X_run_0
    rw [cn_below ok.n60]; rfl
  · unfold F_M_run F_M_run_0
    rw [e]; rfl
/-- an int is a piece's number, or both sides throw -/
theorem cn_idx {n : Nat} (hn : n < 4096) (v : Int32) : (∃ i, i < n ∧ v = nI i ∧ ¬ v < 0 ∧ v < nI n ∧ ¬ nI n ≤ v) ∨ (v < 0 ∧ ¬ 0 ≤ v ∨ ¬ v < 0 ∧ ¬ v < nI n ∧ nI n ≤ v) := by
  have z0 : (0 : Int32).toInt = 0 := by decide
  by_cases a : v < 0
  · refine Or.inr (Or.inl ⟨a, fun z => ?_⟩)
    have := Int32.lt_iff_toInt_lt.mp a
    have := Int32.le_iff_toInt_le.mp z
    omega
  · by_cases b : v < nI n
    · obtain ⟨j, hj, rfl⟩ := nI_of a
      have jn : j < n := by
        have := Int32.lt_iff_toInt_lt.mp b
        rw [nI_toInt hj, nI_toInt (by omega)] at this
        omega
      refine Or.inl ⟨j, jn, rfl, a, b, fun z => ?_⟩
      have := (nI_leI (by omega) (by omega)).mp z
      omega
    · refine Or.inr (Or.inr ⟨a, b, Int32.le_iff_toInt_le.mpr ?_⟩)
      have : ¬ v.toInt < (nI n).toInt := fun z => b (Int32.lt_iff_toInt_lt.mpr z)
      omega
