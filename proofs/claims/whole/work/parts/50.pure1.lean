/-! PURE: labelings of a set by the least member of each part. S: the members; E: the edges; l: the label. -/
def cn_Canon (S : Nat → Prop) (E : Nat → Nat → Prop) (l : Nat → Nat) : Prop :=
  (∀ i, S i → S (l i)) ∧ (∀ i, S i → l i ≤ i) ∧ (∀ a b, S a → S b → E a b → l a = l b) ∧
  ∀ f : Nat → Nat, (∀ a b, S a → S b → E a b → f a = f b) → ∀ i, S i → f (l i) = f i
theorem cn_uniq {S : Nat → Prop} {E : Nat → Nat → Prop} {l l' : Nat → Nat} (h : cn_Canon S E l) (h' : cn_Canon S E l') (i : Nat) (hi : S i) : l i = l' i := by
  have a := h.2.2.2 l' h'.2.2.1 i hi
  have b := h'.2.2.2 l h.2.2.1 i hi
  have c := h'.2.1 (l i) (h.1 i hi)
  have d := h.2.1 (l' i) (h'.1 i hi)
  omega
theorem cn_idem {S : Nat → Prop} {E : Nat → Nat → Prop} {l : Nat → Nat} (h : cn_Canon S E l) (i : Nat) (hi : S i) : l (l i) = l i := h.2.2.2 l h.2.2.1 i hi
theorem cn_edges {S : Nat → Prop} {E E' : Nat → Nat → Prop} {l : Nat → Nat} (h : cn_Canon S E l) (hE : ∀ a b, S a → S b → (E a b ↔ E' a b)) : cn_Canon S E' l :=
  ⟨h.1, h.2.1, fun a b ha hb he => h.2.2.1 a b ha hb ((hE a b ha hb).mpr he), fun f hf i hi => h.2.2.2 f (fun a b ha hb he => hf a b ha hb ((hE a b ha hb).mp he)) i hi⟩
theorem cn_labels {S : Nat → Prop} {E : Nat → Nat → Prop} {l l' : Nat → Nat} (h : cn_Canon S E l) (hl : ∀ i, S i → l' i = l i) : cn_Canon S E l' := by
  refine ⟨fun i hi => ?_, fun i hi => ?_, fun a b ha hb he => ?_, fun f hf i hi => ?_⟩
  · rw [hl i hi]; exact h.1 i hi
  · rw [hl i hi]; exact h.2.1 i hi
  · rw [hl a ha, hl b hb]; exact h.2.2.1 a b ha hb he
  · rw [hl i hi]; exact h.2.2.2 f hf i hi
theorem cn_sets {S S' : Nat → Prop} {E : Nat → Nat → Prop} {l : Nat → Nat} (h : cn_Canon S E l) (hS : ∀ i, S i ↔ S' i) : cn_Canon S' E l := by
  have e : S = S' := funext fun i => propext (hS i)
  rw [← e]; exact h
/-- one edge more: the larger label yields -/
theorem cn_join {S : Nat → Prop} {E E' : Nat → Nat → Prop} {l : Nat → Nat} {a b : Nat} (h : cn_Canon S E l) (ha : S a) (hb : S b) (hE : ∀ x y, S x → S y → (E' x y ↔ E x y ∨ (x = a ∧ y = b))) :
    cn_Canon S E' (fun i => if l i = max (l a) (l b) then min (l a) (l b) else l i) := by
  refine ⟨fun i hi => ?_, fun i hi => ?_, fun x y hx hy he => ?_, fun f hf i hi => ?_⟩
  · show S (if l i = max (l a) (l b) then min (l a) (l b) else l i)
    split
    · rcases Nat.le_total (l a) (l b) with q | q
      · rw [Nat.min_eq_left q]; exact h.1 a ha
      · rw [Nat.min_eq_right q]; exact h.1 b hb
    · exact h.1 i hi
  · show (if l i = max (l a) (l b) then min (l a) (l b) else l i) ≤ i
    have := h.2.1 i hi
    split
    · omega
    · omega
  · show (if l x = max (l a) (l b) then min (l a) (l b) else l x) = (if l y = max (l a) (l b) then min (l a) (l b) else l y)
    rcases (hE x y hx hy).mp he with q | ⟨rfl, rfl⟩
    · rw [h.2.2.1 x y hx hy q]
    · split <;> split <;> omega
  · show f (if l i = max (l a) (l b) then min (l a) (l b) else l i) = f i
    have hf1 : ∀ x y, S x → S y → E x y → f x = f y := fun x y hx hy he => hf x y hx hy ((hE x y hx hy).mpr (Or.inl he))
    have hab : f a = f b := hf a b ha hb ((hE a b ha hb).mpr (Or.inr ⟨rfl, rfl⟩))
    have e1 := h.2.2.2 f hf1 a ha
    have e2 := h.2.2.2 f hf1 b hb
    have e3 := h.2.2.2 f hf1 i hi
    split
    · rename_i q
      rcases Nat.le_total (l a) (l b) with z | z
      · rw [Nat.min_eq_left z]
        rw [Nat.max_eq_right z] at q
        rw [← e3, q, e1, e2, hab]
      · rw [Nat.min_eq_right z]
        rw [Nat.max_eq_left z] at q
        rw [← e3, q, e1, e2, hab]
    · exact e3
/-- one member more, without edges -/
theorem cn_begin {S S' : Nat → Prop} {E : Nat → Nat → Prop} {l : Nat → Nat} {p : Nat} (h : cn_Canon S E l) (hp : ¬ S p) (hS : ∀ i, S' i ↔ S i ∨ i = p) (hE : ∀ x, S' x → ¬ E x p ∧ ¬ E p x) :
    cn_Canon S' E (fun i => if i = p then p else l i) := by
  have ne : ∀ i, S i → i ≠ p := fun i hi e => hp (e ▸ hi)
  refine ⟨fun i hi => ?_, fun i hi => ?_, fun x y hx hy he => ?_, fun f hf i hi => ?_⟩
  · show S' (if i = p then p else l i)
    split
    · exact (hS p).mpr (Or.inr rfl)
    · rename_i q
      rcases (hS i).mp hi with z | z
      · exact (hS _).mpr (Or.inl (h.1 i z))
      · exact absurd z q
  · show (if i = p then p else l i) ≤ i
    split
    · rename_i q; omega
    · rename_i q
      rcases (hS i).mp hi with z | z
      · exact h.2.1 i z
      · exact absurd z q
  · show (if x = p then p else l x) = (if y = p then p else l y)
    have hxp : x ≠ p := fun e => (hE y hy).2 (e ▸ he)
    have hyp : y ≠ p := fun e => (hE x hx).1 (e ▸ he)
    rw [if_neg hxp, if_neg hyp]
    rcases (hS x).mp hx with z | z
    · rcases (hS y).mp hy with z2 | z2
      · exact h.2.2.1 x y z z2 he
      · exact absurd z2 hyp
    · exact absurd z hxp
  · show f (if i = p then p else l i) = f i
    split
    · rename_i q; rw [q]
    · rename_i q
      rcases (hS i).mp hi with z | z
      · exact h.2.2.2 f (fun a b ha hb he => hf a b ((hS a).mpr (Or.inl ha)) ((hS b).mpr (Or.inl hb)) he) i z
      · exact absurd z q
/-- the part of one label taken out and labelled anew (without the member p) -/
theorem cn_part {S S' P : Nat → Prop} {E : Nat → Nat → Prop} {l l2 : Nat → Nat} {p : Nat} (h : cn_Canon S E l) (hp : S p) (hP : ∀ i, P i ↔ S i ∧ i ≠ p ∧ l i = l p) (hS : ∀ i, S' i ↔ S i ∧ i ≠ p)
    (h2 : cn_Canon P E l2) : cn_Canon S' E (fun i => if l i = l p then l2 i else l i) := by
  have inP : ∀ i, S' i → l i = l p → P i := fun i hi q => (hP i).mpr ⟨((hS i).mp hi).1, ((hS i).mp hi).2, q⟩
  have ofP : ∀ i, P i → S' i := fun i hi => (hS i).mpr ⟨((hP i).mp hi).1, ((hP i).mp hi).2.1⟩
  refine ⟨fun i hi => ?_, fun i hi => ?_, fun x y hx hy he => ?_, fun f hf i hi => ?_⟩
  · show S' (if l i = l p then l2 i else l i)
    split
    · rename_i q; exact ofP _ (h2.1 i (inP i hi q))
    · rename_i q
      refine (hS _).mpr ⟨h.1 i ((hS i).mp hi).1, fun e => q ?_⟩
      have := cn_idem h i ((hS i).mp hi).1
      rw [e] at this
      omega
  · show (if l i = l p then l2 i else l i) ≤ i
    split
    · rename_i q; exact h2.2.1 i (inP i hi q)
    · exact h.2.1 i ((hS i).mp hi).1
  · show (if l x = l p then l2 x else l x) = (if l y = l p then l2 y else l y)
    have e := h.2.2.1 x y ((hS x).mp hx).1 ((hS y).mp hy).1 he
    by_cases q : l x = l p
    · rw [if_pos q, if_pos (e ▸ q)]
      exact h2.2.2.1 x y (inP x hx q) (inP y hy (e ▸ q)) he
    · rw [if_neg q, if_neg (fun z => q (e.trans z))]
      exact e
  · show f (if l i = l p then l2 i else l i) = f i
    split
    · rename_i q
      exact h2.2.2.2 f (fun a b ha hb he => hf a b (ofP a ha) (ofP b hb) he) i (inP i hi q)
    · rename_i q
      -- f, but for the part of p, where it is made to be constant and apart
      have hi1 := ((hS i).mp hi).1
      have k := h.2.2.2 (fun z => if l z = l p then 0 else f z + 1) (fun a b ha hb he => by
        have e := h.2.2.1 a b ha hb he
        show (if l a = l p then 0 else f a + 1) = (if l b = l p then 0 else f b + 1)
        by_cases z : l a = l p
        · rw [if_pos z, if_pos (e ▸ z)]
        · rw [if_neg z, if_neg (fun w => z (e.trans w))]
          rw [hf a b ((hS a).mpr ⟨ha, fun w => z (by rw [w])⟩) ((hS b).mpr ⟨hb, fun w => z (by rw [e, w])⟩) he]) i hi1
      have k2 : (if l (l i) = l p then 0 else f (l i) + 1) = (if l i = l p then 0 else f i + 1) := k
      rw [cn_idem h i hi1, if_neg q, if_neg q] at k2
      omega
/-- two rising rows of the same numbers are one -/
theorem cn_rise {a b : Nat → Int} {m n : Nat} (ha : ∀ i j, i < j → j < m → a i < a j) (hb : ∀ i j, i < j → j < n → b i < b j) (hab : ∀ i, i < m → ∃ j, j < n ∧ b j = a i) (hba : ∀ i, i < n → ∃ j, j < m ∧ a j = b i) :
    ∀ i, i < m → i < n ∧ a i = b i := by
  intro i
  induction i using Nat.strongRecOn with
  | _ i ih =>
    intro hi
    obtain ⟨j, hj, ej⟩ := hab i hi
    have hij : i ≤ j := by
      rcases Nat.lt_or_ge j i with q | q
      · obtain ⟨-, e⟩ := ih j q (by omega)
        have := ha j i q hi
        omega
      · exact q
    have hin : i < n := by omega
    obtain ⟨k, hk, ek⟩ := hba i hin
    have hik : i ≤ k := by
      rcases Nat.lt_or_ge k i with q | q
      · obtain ⟨h1, e⟩ := ih k q hk
        have := hb k i q hin
        omega
      · exact q
    refine ⟨hin, ?_⟩
    have e1 : b i ≤ b j := by
      rcases Nat.lt_or_ge i j with q | q
      · exact Int.le_of_lt (hb i j q hj)
      · have : i = j := by omega
        rw [this]; exact Int.le_refl _
    have e2 : a i ≤ a k := by
      rcases Nat.lt_or_ge i k with q | q
      · exact Int.le_of_lt (ha i k q hk)
      · have : i = k := by omega
        rw [this]; exact Int.le_refl _
    omega
theorem cn_riseN {a b : Nat → Int} {m n : Nat} (ha : ∀ i j, i < j → j < m → a i < a j) (hb : ∀ i j, i < j → j < n → b i < b j) (hab : ∀ i, i < m → ∃ j, j < n ∧ b j = a i) (hba : ∀ i, i < n → ∃ j, j < m ∧ a j = b i) :
    m = n ∧ ∀ i, i < m → a i = b i := by
  have h1 := cn_rise ha hb hab hba
  have h2 := cn_rise hb ha hba hab
  refine ⟨?_, fun i hi => (h1 i hi).2⟩
  rcases Nat.lt_trichotomy m n with q | q | q
  · exact absurd (h2 m q).1 (Nat.lt_irrefl m)
  · exact q
  · exact absurd (h1 n q).1 (Nat.lt_irrefl n)
/-! PURE: least trees. k pads with groups g and pair numbers w. A pair is an airline when the smaller pairs do not join its ends. -/
def cn_Lab (k : Nat → Prop) (g : Nat → Nat) (w : Nat → Nat → Int) (c : Int) (f : Nat → Nat) : Prop :=
  (∀ x y, k x → k y → g x = g y → f x = f y) ∧ ∀ x y, k x → k y → w x y < c → f x = f y
def cn_Air (k : Nat → Prop) (g : Nat → Nat) (w : Nat → Nat → Int) (c : Int) : Prop :=
  ∃ i j, k i ∧ k j ∧ g i ≠ g j ∧ w i j = c ∧ ∃ f, cn_Lab k g w c f ∧ f i ≠ f j
/-- the history of a tree that grows: t: when a pad was reached; p: the pair by which -/
def cn_Hist (k : Nat → Prop) (g : Nat → Nat) (w : Nat → Nat → Int) (T : Nat) (t : Nat → Nat) (p : Nat → Int) : Prop :=
  (∀ x y, k x → k y → g x = g y → t x = t y) ∧
  (∀ x y, k x → k y → t x = t y → t x < T → g x = g y) ∧
  (∀ n, 1 ≤ n → n < T → ∃ x y, k x ∧ k y ∧ t x < n ∧ t y = n ∧ p n = w x y) ∧
  ∀ n, 1 ≤ n → n < T → ∀ x y, k x → k y → t x < n → n ≤ t y → p n ≤ w x y
/-- one step of the growth -/
theorem cn_air1 {k : Nat → Prop} {g : Nat → Nat} {w : Nat → Nat → Int} {c : Int} {R : Nat → Prop} {x y : Nat} (hx : k x) (hy : k y) (hR : ∀ a b, k a → k b → g a = g b → (R a ↔ R b)) (hxR : R x) (hyR : ¬ R y)
    (hs : ∀ a b, w a b = w b a) (hc : w x y = c) (hmin : ∀ a b, k a → k b → R a → ¬ R b → c ≤ w a b) : cn_Air k g w c := by
  refine ⟨x, y, hx, hy, fun e => hyR ((hR x y hx hy e).mp hxR), hc, ?_⟩
  have dec : ∀ z, Decidable (R z) := fun z => Classical.propDecidable _
  refine ⟨fun z => @ite _ (R z) (dec z) 0 1, ⟨fun a b ha hb e => ?_, fun a b ha hb e => ?_⟩, ?_⟩
  · have := hR a b ha hb e
    show @ite _ (R a) (dec a) 0 1 = @ite _ (R b) (dec b) 0 1
    by_cases q : R a
    · rw [if_pos q, if_pos (this.mp q)]
    · rw [if_neg q, if_neg (fun z => q (this.mpr z))]
  · show @ite _ (R a) (dec a) 0 1 = @ite _ (R b) (dec b) 0 1
    by_cases q : R a
    · by_cases z : R b
      · rw [if_pos q, if_pos z]
      · have := hmin a b ha hb q z
        omega
    · by_cases z : R b
      · have := hmin b a hb ha z q
        rw [hs b a] at this
        omega
      · rw [if_neg q, if_neg z]
  · show @ite _ (R x) (dec x) 0 1 ≠ @ite _ (R y) (dec y) 0 1
    rw [if_pos hxR, if_neg hyR]
    decide
theorem cn_bott {k : Nat → Prop} {g : Nat → Nat} {w : Nat → Nat → Int} {T : Nat} {t : Nat → Nat} {p : Nat → Int} (h : cn_Hist k g w T t p) {c : Int} {f : Nat → Nat} (hf : cn_Lab k g w c f) :
    ∀ j i, i < j → j < T → (∀ n, i < n → n ≤ j → p n < c) → ∀ x y, k x → k y → t x = i → t y = j → f x = f y := by
  obtain ⟨h1, h2, h3, h4⟩ := h
  intro j
  induction j using Nat.strongRecOn with
  | _ j ih =>
    intro i hij hjT hp x y hx hy hxi hyj
    obtain ⟨u, v, hu, hv, hu1, hv1, e⟩ := h3 j (by omega) hjT
    have hpj := hp j hij (Nat.le_refl j)
    have fuv : f u = f v := hf.2 u v hu hv (by rw [← e]; exact hpj)
    have fvy : f v = f y := hf.1 v y hv hy (h2 v y hv hy (by rw [hv1, hyj]) (by omega))
    rcases Nat.lt_trichotomy (t u) i with q | q | q
    · have hlow : ∀ n, t u < n → n ≤ i → p n < c := fun n a b => by
        have := h4 n (by omega) (by omega) u v hu hv a (by omega)
        omega
      have := ih i hij (t u) q (by omega) hlow u x hu hx rfl hxi
      rw [← this, fuv, fvy]
    · have := hf.1 u x hu hx (h2 u x hu hx (by rw [q, hxi]) (by omega))
      rw [← this, fuv, fvy]
    · have := ih (t u) hu1 i q (by omega) (fun n a b => hp n a (by omega)) x u hx hu hxi rfl
      rw [this, fuv, fvy]
theorem cn_hist_air {k : Nat → Prop} {g : Nat → Nat} {w : Nat → Nat → Int} {T : Nat} {t : Nat → Nat} {p : Nat → Int} (h : cn_Hist k g w T t p) (hs : ∀ a b, w a b = w b a) (hall : ∀ x, k x → t x < T) {c : Int} (hc : cn_Air k g w c) :
    ∃ n, 1 ≤ n ∧ n < T ∧ p n = c := by
  obtain ⟨i, j, hi, hj, hg, hw, f, hf, hne⟩ := hc
  apply Classical.byContradiction
  intro hno
  have key : ∀ x y, k x → k y → w x y = c → t x < t y → f x = f y := fun x y hx hy e q => by
    refine cn_bott h hf (t y) (t x) q (hall y hy) (fun n a b => ?_) x y hx hy rfl rfl
    have l1 := h.2.2.2 n (by omega) (by have := hall y hy; omega) x y hx hy a b
    rcases Int.lt_or_eq_of_le (show p n ≤ c by omega) with z | z
    · exact z
    · exact absurd ⟨n, by omega, by have := hall y hy; omega, z⟩ hno
  rcases Nat.lt_trichotomy (t i) (t j) with q | q | q
  · exact hne (key i j hi hj hw q)
  · exact hg (h.2.1 i j hi hj q (hall i hi))
  · exact hne (key j i hj hi (by rw [hs]; exact hw) q).symm
