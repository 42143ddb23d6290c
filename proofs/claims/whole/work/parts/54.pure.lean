/-! PURE: the reference's labels -/
def cn_sum (b : Nat → Nat) : Nat → Nat
  | 0 => 0
  | m + 1 => cn_sum b m + b m
theorem cn_sum_le {a b : Nat → Nat} (h : ∀ i, a i ≤ b i) : ∀ m, cn_sum a m ≤ cn_sum b m
  | 0 => Nat.le_refl 0
  | m + 1 => by
    have := cn_sum_le h m
    have := h m
    show cn_sum a m + a m ≤ cn_sum b m + b m
    omega
theorem cn_sum_lt {a b : Nat → Nat} (h : ∀ i, a i ≤ b i) {k m : Nat} (hk : k < m) (hl : a k < b k) : cn_sum a m < cn_sum b m := by
  induction m with
  | zero => omega
  | succ m ih =>
    show cn_sum a m + a m < cn_sum b m + b m
    have := h m
    rcases Nat.eq_or_lt_of_le (Nat.le_of_lt_succ hk) with q | q
    · have := cn_sum_le h m
      rw [q] at hl
      omega
    · have := ih q
      omega
theorem cn_sum_id {b : Nat → Nat} (h : ∀ i, b i ≤ i) : cn_sum b 60 ≤ 1770 := Nat.le_trans (cn_sum_le (b := id) h 60) (by decide)
abbrev cn_LI (D : cn_Dat) (b : Nat → Nat) (g : Nat → Int32) : Prop :=
  (∀ i, i < D.n → D.S i → g i = nI (b i)) ∧ (∀ i, i < D.n → ¬ D.S i → g i = -1) ∧ (∀ i, b i ≤ i) ∧ (∀ i, D.S i → D.S (b i)) ∧ (∀ f : Nat → Nat, (∀ x y, D.S x → D.S y → D.T x y → f x = f y) → ∀ i, D.S i → f (b i) = f i)
theorem cn_LI.yes {D : cn_Dat} {b : Nat → Nat} {g : Nat → Int32} (hh : cn_LI D b g) : ∀ i, i < D.n → D.S i → g i = nI (b i) := hh.1
theorem cn_LI.no {D : cn_Dat} {b : Nat → Nat} {g : Nat → Int32} (hh : cn_LI D b g) : ∀ i, i < D.n → ¬ D.S i → g i = -1 := hh.2.1
theorem cn_LI.le {D : cn_Dat} {b : Nat → Nat} {g : Nat → Int32} (hh : cn_LI D b g) : ∀ i, b i ≤ i := hh.2.2.1
theorem cn_LI.mem {D : cn_Dat} {b : Nat → Nat} {g : Nat → Int32} (hh : cn_LI D b g) : ∀ i, D.S i → D.S (b i) := hh.2.2.2.1
theorem cn_LI.uni {D : cn_Dat} {b : Nat → Nat} {g : Nat → Int32} (hh : cn_LI D b g) : ∀ f : Nat → Nat, (∀ x y, D.S x → D.S y → D.T x y → f x = f y) → ∀ i, D.S i → f (b i) = f i := hh.2.2.2.2
def cn_Good (D : cn_Dat) (b : Nat → Nat) (p j : Nat) : Prop := ∀ p' q', q' < p' → (p' < p ∨ (p' = p ∧ q' < j)) → D.S p' → D.S q' → D.T p' q' → b p' = b q'
theorem cn_LI.step {D : cn_Dat} {b : Nat → Nat} {g : Nat → Int32} (ok : D.ok) (h : cn_LI D b g) {p q : Nat} (sp : D.S p) (sq : D.S q) (t : D.T p q) (ne : b p ≠ b q) :
    cn_LI D (fun i => if i = p ∨ i = q then min (b p) (b q) else b i) (upd (upd g p (nI (min (b p) (b q)))) q (nI (min (b p) (b q)))) ∧ cn_sum (fun i => if i = p ∨ i = q then min (b p) (b q) else b i) 60 < cn_sum b 60 := by
  have hp := ok.lt sp
  have hq := ok.lt sq
  have n60 := ok.n60
  refine ⟨⟨fun i hi s => ?_, fun i hi s => ?_, fun i => ?_, fun i s => ?_, fun f hf i s => ?_⟩, ?_⟩
  · show _ = nI (if i = p ∨ i = q then min (b p) (b q) else b i)
    rw [cn_up, cn_up]
    by_cases e1 : i = q
    · rw [if_pos e1, if_pos (Or.inr e1)]
    · rw [if_neg e1]
      by_cases e2 : i = p
      · rw [if_pos e2, if_pos (Or.inl e2)]
      · rw [if_neg e2, if_neg (fun z => z.elim e2 e1)]
        exact h.yes i hi s
  · rw [cn_up, cn_up, if_neg (fun (z : i = q) => s (by rw [z]; exact sq)), if_neg (fun (z : i = p) => s (by rw [z]; exact sp))]
    exact h.no i hi s
  · show (if i = p ∨ i = q then min (b p) (b q) else b i) ≤ i
    have := h.le p; have := h.le q; have := h.le i
    split
    · rename_i z; omega
    · omega
  · show D.S (if i = p ∨ i = q then min (b p) (b q) else b i)
    split
    · rcases Nat.le_total (b p) (b q) with z | z
      · rw [Nat.min_eq_left z]; exact h.mem p sp
      · rw [Nat.min_eq_right z]; exact h.mem q sq
    · exact h.mem i s
  · show f (if i = p ∨ i = q then min (b p) (b q) else b i) = f i
    have e1 := h.uni f hf p sp
    have e2 := h.uni f hf q sq
    have e3 := hf p q sp sq t
    split
    · rename_i z
      have e4 : f i = f p := by rcases z with z | z <;> rw [z]; exact e3.symm
      rcases Nat.le_total (b p) (b q) with y | y
      · rw [Nat.min_eq_left y, e1, e4]
      · rw [Nat.min_eq_right y, e2, e4, e3]
    · exact h.uni f hf i s
  · have hle : ∀ i, (fun i => if i = p ∨ i = q then min (b p) (b q) else b i) i ≤ b i := fun i => by
      show (if i = p ∨ i = q then min (b p) (b q) else b i) ≤ b i
      split
      · rename_i z; rcases z with z | z <;> rw [z] <;> omega
      · omega
    rcases Nat.lt_or_ge (b p) (b q) with z | z
    · refine cn_sum_lt hle (show q < 60 by omega) ?_
      show (if q = p ∨ q = q then min (b p) (b q) else b q) < b q
      rw [if_pos (Or.inr rfl)]; omega
    · refine cn_sum_lt hle (show p < 60 by omega) ?_
      show (if p = p ∨ p = q then min (b p) (b q) else b p) < b p
      rw [if_pos (Or.inl rfl)]; omega
section
theorem cn_lab56 {D : cn_Dat} (ok : D.ok) (Z : Option (Nat → Int32) → Prop) (M : Nat) {k38 k46} {p : Nat} (hp : p < D.n)
    (hk : ∀ b g v, cn_LI D b g → (v = 0 ∧ cn_Good D b (p + 1) 0 ∧ cn_sum b 60 ≤ M ∨ v = 1 ∧ cn_sum b 60 < M) → Z (k46 (nI D.n) D.there D.fr D.to D.x D.y D.w D.h D.r g v (nI (p + 1)))) :
    ∀ (d j fuel : Nat) (b : Nat → Nat) (g : Nat → Int32) (v : Int32), j + d = p → d < fuel → cn_LI D b g → (v = 0 ∧ cn_Good D b p j ∧ cn_sum b 60 ≤ M ∨ v = 1 ∧ cn_sum b 60 < M) → Z (F_M_findLabels_56 k38 k46 fuel (nI D.n) D.there D.fr D.to D.x D.y D.w D.h D.r g v (nI p) (nI j)) := by
  have n60 := ok.n60
  intro d
  induction d with
  | zero =>
    intro j fuel b g v hj hf hL hv
    obtain ⟨k, rfl⟩ : ∃ k, fuel = k + 1 := ⟨fuel - 1, by omega⟩
    rw [F_M_findLabels_56, if_pos ((cn_leI (by omega) (by omega)).mpr (by omega)), nI_1]
    refine hk b g v hL ?_
    rcases hv with ⟨h1, h2, h3⟩ | h
    · refine Or.inl ⟨h1, fun p' q' a c => h2 p' q' a ?_, h3⟩
      rcases c with c | c <;> omega
    · exact Or.inr h
  | succ d ih =>
    intro j fuel b g v hj hf hL hv
    obtain ⟨k, rfl⟩ : ∃ k, fuel = k + 1 := ⟨fuel - 1, by omega⟩
    rw [F_M_findLabels_56, if_neg (fun z => by have := (cn_leI (by omega) (by omega)).mp z; omega)]
    unfold F_M_findLabels_138 F_M_findLabels_118 F_M_findLabels_138
    simp only [cn_rdI (show p < 60 by omega) (show 60 < 2 ^ 31 by decide), cn_rdI (show j < 60 by omega) (show 60 < 2 ^ 31 by decide), cn_ki (show p < 4096 by omega), cn_ki (show j < 4096 by omega), nI_1, cn_touchM D (show p < 60 by omega) (show j < 60 by omega), Option.bind_some]
    have skip : (D.S p → D.S j → D.T p j → b p = b j) → Z (F_M_findLabels_56 k38 k46 k (nI D.n) D.there D.fr D.to D.x D.y D.w D.h D.r g v (nI p) (nI (j + 1))) := fun c => by
      refine ih (j + 1) k b g v (by omega) (by omega) hL ?_
      rcases hv with ⟨h1, h2, h3⟩ | h
      · refine Or.inl ⟨h1, fun p' q' a e s1 s2 t => ?_, h3⟩
        by_cases y : p' < p ∨ (p' = p ∧ q' < j)
        · exact h2 p' q' a y s1 s2 t
        · obtain ⟨rfl, rfl⟩ : p' = p ∧ q' = j := by omega
          exact c s1 s2 t
      · exact Or.inr h
    by_cases e : g p = g j
    · rw [if_pos e]
      refine skip (fun s1 s2 t => ?_)
      rw [hL.yes p hp s1, hL.yes j (by omega) s2, cn_eqI (by have := hL.le p; omega) (by have := hL.le j; omega)] at e
      exact e
    · rw [if_neg e]
      by_cases t : D.S p ∧ D.S j ∧ D.T p j
      · simp only [if_pos t]
        rw [if_neg (by decide)]
        have bp := hL.le p
        have bj := hL.le j
        rw [hL.yes p hp t.1, hL.yes j (by omega) t.2.1] at e ⊢
        have ne : b p ≠ b j := fun z => e (by rw [z])
        obtain ⟨h1, h2⟩ := hL.step ok t.1 t.2.1 t.2.2 ne
        have fin : Z (F_M_findLabels_56 k38 k46 k (nI D.n) D.there D.fr D.to D.x D.y D.w D.h D.r (upd (upd g p (nI (min (b p) (b j)))) j (nI (min (b p) (b j)))) 1 (nI p) (nI (j + 1))) := by
          refine ih (j + 1) k _ _ 1 (by omega) (by omega) h1 (Or.inr ⟨rfl, ?_⟩)
          rcases hv with ⟨-, -, h3⟩ | ⟨-, h3⟩ <;> omega
        by_cases z : b j ≤ b p
        · rw [if_pos ((cn_leI (by omega) (by omega)).mpr z)]
          rw [Nat.min_eq_right z] at fin
          exact fin
        · rw [if_neg (fun y => z ((cn_leI (by omega) (by omega)).mp y))]
          rw [Nat.min_eq_left (by omega)] at fin
          exact fin
      · simp only [if_neg t]
        rw [if_pos (by simp)]
        exact skip (fun s1 s2 s3 => absurd ⟨s1, s2, s3⟩ t)
theorem cn_lab46 {D : cn_Dat} (ok : D.ok) (Z : Option (Nat → Int32) → Prop) (M : Nat) {k38}
    (hk : ∀ b g v, cn_LI D b g → (v = 0 ∧ cn_Good D b D.n 0 ∧ cn_sum b 60 ≤ M ∨ v = 1 ∧ cn_sum b 60 < M) → Z (k38 (nI D.n) D.there D.fr D.to D.x D.y D.w D.h D.r g v)) :
    ∀ (d p fuel : Nat) (b : Nat → Nat) (g : Nat → Int32) (v : Int32), p + d = D.n → d < fuel → cn_LI D b g → (v = 0 ∧ cn_Good D b p 0 ∧ cn_sum b 60 ≤ M ∨ v = 1 ∧ cn_sum b 60 < M) → Z (F_M_findLabels_46 k38 fuel (nI D.n) D.there D.fr D.to D.x D.y D.w D.h D.r g v (nI p)) := by
  have n60 := ok.n60
  intro d
  induction d with
  | zero =>
    intro p fuel b g v hj hf hL hv
    obtain ⟨k, rfl⟩ : ∃ k, fuel = k + 1 := ⟨fuel - 1, by omega⟩
    obtain rfl : p = D.n := by omega
    rw [F_M_findLabels_46, if_pos ((cn_leI (by omega) (by omega)).mpr (by omega))]
    exact hk b g v hL hv
  | succ d ih =>
    intro p fuel b g v hj hf hL hv
    obtain ⟨k, rfl⟩ : ∃ k, fuel = k + 1 := ⟨fuel - 1, by omega⟩
    rw [F_M_findLabels_46, if_neg (fun z => by have := (cn_leI (by omega) (by omega)).mp z; omega), show (0 : Int32) = nI 0 by decide]
    exact cn_lab56 ok Z M (p := p) (by omega) (fun b g v h1 h2 => ih (p + 1) k b g v (by omega) (by omega) h1 h2) p 0 4096 b g v (by omega) (by omega) hL hv
end
theorem cn_lab38 {D : cn_Dat} (ok : D.ok) : ∀ (M fuel : Nat) (b : Nat → Nat) (g : Nat → Int32), M + 1 < fuel → cn_LI D b g → cn_sum b 60 ≤ M → ∃ b' g', F_M_findLabels_38 fuel (nI D.n) D.there D.fr D.to D.x D.y D.w D.h D.r g 1 = some g' ∧ cn_LI D b' g' ∧ cn_Good D b' D.n 0 := by
  intro M
  induction M using Nat.strongRecOn with
  | _ M ih =>
    intro fuel b g hf hL hM
    obtain ⟨k, rfl⟩ : ∃ k, fuel = k + 1 := ⟨fuel - 1, by omega⟩
    rw [F_M_findLabels_38, if_neg (by decide)]
    rw [show (F_M_findLabels_46 (F_M_findLabels_38 k) 4096 (nI D.n) D.there D.fr D.to D.x D.y D.w D.h D.r g 0 0) = (F_M_findLabels_46 (F_M_findLabels_38 k) 4096 (nI D.n) D.there D.fr D.to D.x D.y D.w D.h D.r g 0 (nI 0)) from rfl]
    refine cn_lab46 ok (fun o => ∃ b' g', o = some g' ∧ cn_LI D b' g' ∧ cn_Good D b' D.n 0) M (fun b' g' v h1 h2 => ?_) D.n 0 4096 b g 0 (by omega) (by have := ok.n60; omega) hL (Or.inl ⟨rfl, fun p' q' a c => by omega, hM⟩)
    rcases h2 with ⟨rfl, h3, h4⟩ | ⟨rfl, h4⟩
    · obtain ⟨k, rfl⟩ : ∃ z, k = z + 1 := ⟨k - 1, by omega⟩
      rw [F_M_findLabels_38, if_pos rfl]
      exact ⟨b', g', rfl, h1, h3⟩
    · exact ih (cn_sum b' 60) h4 k b' g' (by omega) h1 (Nat.le_refl _)
theorem cn_lab2 {D : cn_Dat} (ok : D.ok) : ∀ (d i fuel : Nat) (g : Nat → Int32), i + d = D.n → d < fuel → (∀ j, j < i → g j = if D.there j = 0 then -1 else nI j) → ∃ g', F_M_findLabels_2 fuel (nI D.n) D.there D.fr D.to D.x D.y D.w D.h D.r g (nI i) = F_M_findLabels_38 4096 (nI D.n) D.there D.fr D.to D.x D.y D.w D.h D.r g' 1 ∧ ∀ j, j < D.n → g' j = if D.there j = 0 then -1 else nI j := by
  have n60 := ok.n60
  intro d
  induction d with
  | zero =>
    intro i fuel g hi hf hg
    obtain ⟨k, rfl⟩ : ∃ k, fuel = k + 1 := ⟨fuel - 1, by omega⟩
    rw [F_M_findLabels_2, if_pos ((cn_leI (by omega) (by omega)).mpr (by omega))]
    exact ⟨g, rfl, fun j hj => hg j (by omega)⟩
  | succ d ih =>
    intro i fuel g hi hf hg
    obtain ⟨k, rfl⟩ : ∃ k, fuel = k + 1 := ⟨fuel - 1, by omega⟩
    rw [F_M_findLabels_2, if_neg (fun z => by have := (cn_leI (by omega) (by omega)).mp z; omega), cn_rdI (by omega) (by omega), cn_ki (by omega)]
    unfold F_M_findLabels_29
    simp only [cn_rdI (show i < 60 by omega) (show 60 < 2 ^ 31 by decide), cn_ki (show i < 4096 by omega), nI_1]
    have go : ∀ v, v = (if D.there i = 0 then -1 else nI i) → ∀ j, j < i + 1 → upd g i v j = if D.there j = 0 then -1 else nI j := fun v hv j hj => by
      rw [cn_up]
      by_cases q : j = i
      · rw [if_pos q, q]; exact hv
      · rw [if_neg q]; exact hg j (by omega)
    by_cases q : D.there i = 0
    · rw [if_pos q]; exact ih (i + 1) k _ (by omega) (by omega) (go _ (by rw [if_pos q]))
    · rw [if_neg q]; exact ih (i + 1) k _ (by omega) (by omega) (go _ (by rw [if_neg q]))
theorem cn_labels0 {D : cn_Dat} (ok : D.ok) (lab : Nat → Int32) : ∃ b g, F_M_findLabels (nI D.n) D.there D.fr D.to D.x D.y D.w D.h D.r lab = some g ∧ cn_Canon D.S D.T b ∧ (∀ i, i < D.n → D.S i → g i = nI (b i)) ∧ ∀ i, i < D.n → ¬ D.S i → g i = -1 := by
  have n60 := ok.n60
  obtain ⟨g0, e0, h0⟩ := cn_lab2 ok D.n 0 4096 lab (by omega) (by omega) (fun j hj => by omega)
  unfold F_M_findLabels F_M_findLabels_0
  rw [show (0 : Int32) = nI 0 by decide, e0]
  have hid : cn_sum (fun i => i) 60 ≤ 1770 := by decide
  obtain ⟨b, g, e, hL, hG⟩ := cn_lab38 ok 1770 4096 (fun i => i) g0 (by omega) ⟨fun i hi s => by rw [h0 i hi, if_neg s], fun i hi s => by rw [h0 i hi, if_pos (Classical.byContradiction s)], fun i => Nat.le_refl i, fun i s => s, fun f hf i s => rfl⟩ hid
  refine ⟨b, g, e, ⟨hL.mem, fun i _ => hL.le i, fun x y sx sy t => ?_, fun f hf i s => hL.uni f hf i s⟩, hL.yes, hL.no⟩
  have hx := ok.lt sx
  have hy := ok.lt sy
  rcases Nat.lt_trichotomy x y with q | q | q
  · exact (hG y x q (Or.inl hy) sy sx (ok.TS t)).symm
  · rw [q]
  · exact hG x y q (Or.inl hx) sx sy t
