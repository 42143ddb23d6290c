/-! PURE: the class's airlines are the pairs that smaller ones do not join -/
theorem cn_ct_full {p : Nat → Bool} : ∀ m, m ≤ cn_ct p m → ∀ j, j < m → p j = true
  | 0, _, j, hj => by omega
  | m + 1, h, j, hj => by
    have e : cn_ct p (m + 1) = cn_ct p m + (if p m then 1 else 0) := rfl
    have := cn_ct_le p m
    have hm : p m = true := by
      cases hp : p m with
      | true => rfl
      | false => rw [hp] at e; simp at e; omega
    rw [hm] at e
    simp at e
    rcases Nat.lt_or_ge j m with q | q
    · exact cn_ct_full m (by omega) j q
    · rw [show j = m by omega]; exact hm
theorem cn_ct_sub {p q : Nat → Bool} : ∀ m, (∀ j, j < m → p j = true → q j = true) → cn_ct p m ≤ cn_ct q m
  | 0, _ => Nat.le_refl 0
  | m + 1, h => by
    have := cn_ct_sub m (fun j hj => h j (by omega))
    show cn_ct p m + (if p m then 1 else 0) ≤ cn_ct q m + (if q m then 1 else 0)
    by_cases z : p m = true
    · rw [if_pos z, if_pos (h m (by omega) z)]; omega
    · rw [if_neg z]; omega
theorem cn_ct_grow {p q : Nat → Bool} : ∀ m, (∀ j, j < m → p j = true → q j = true) → (∃ j, j < m ∧ q j = true ∧ p j = false) → cn_ct p m < cn_ct q m
  | 0, _, ⟨j, hj, _⟩ => by omega
  | m + 1, h, ⟨j, hj, h1, h2⟩ => by
    show cn_ct p m + (if p m then 1 else 0) < cn_ct q m + (if q m then 1 else 0)
    rcases Nat.lt_or_ge j m with z | z
    · have := cn_ct_grow m (fun j hj => h j (by omega)) ⟨j, z, h1, h2⟩
      by_cases y : p m = true
      · rw [if_pos y, if_pos (h m (by omega) y)]; omega
      · rw [if_neg y]; omega
    · have := cn_ct_sub m (fun j hj => h j (by omega))
      obtain rfl : j = m := by omega
      rw [h1, h2]
      simp
      omega
def cn_Lst (D : cn_Dat) (t : Nat) (l : Nat → Nat) (c : Nat) (f : Nat → Int64) : Prop := c ≤ 60 ∧ (∀ i j, i < j → j < c → (f i).toInt < (f j).toInt) ∧ ∀ e, cn_Air (D.Pd t) l D.cw e ↔ ∃ i, i < c ∧ (f i).toInt = e
abbrev cn_DI (D : cn_Dat) (t : Nat) (l : Nat → Nat) (m : Nat) (pa : Nat → Nat) (T : Nat) (τ : Nat → Nat) (p : Nat → Int) (f : Nat → Int64) (re : Nat → Int32) (nr : Nat → Int64) : Prop :=
  (1 ≤ T) ∧ (cn_Hist (D.Pd t) l D.cw T τ p) ∧ (∀ x, D.Pd t x → τ x ≤ T) ∧ (∀ j, j < m → re j = if τ (pa j) < T then 1 else 0) ∧ (∀ j, j < m → re j = 0 → cn_NN D (fun x => D.Pd t x ∧ τ x < T) (pa j) (nr j)) ∧ (∃ x, D.Pd t x ∧ τ x < T) ∧ (T ≤ cn_ct (fun j => decide (re j ≠ 0)) m) ∧ (∀ i j, i < j → j < T - 1 → (f i).toInt < (f j).toInt) ∧ (∀ n, 1 ≤ n → n < T → ∃ i, i < T - 1 ∧ (f i).toInt = p n) ∧ (∀ i, i < T - 1 → ∃ n, 1 ≤ n ∧ n < T ∧ (f i).toInt = p n)
theorem cn_DI.T1 {D : cn_Dat} {t : Nat} {l : Nat → Nat} {m : Nat} {pa : Nat → Nat} {T : Nat} {τ : Nat → Nat} {p : Nat → Int} {f : Nat → Int64} {re : Nat → Int32} {nr : Nat → Int64} (hh : cn_DI D t l m pa T τ p f re nr) : 1 ≤ T := hh.1
theorem cn_DI.hist {D : cn_Dat} {t : Nat} {l : Nat → Nat} {m : Nat} {pa : Nat → Nat} {T : Nat} {τ : Nat → Nat} {p : Nat → Int} {f : Nat → Int64} {re : Nat → Int32} {nr : Nat → Int64} (hh : cn_DI D t l m pa T τ p f re nr) : cn_Hist (D.Pd t) l D.cw T τ p := hh.2.1
theorem cn_DI.tle {D : cn_Dat} {t : Nat} {l : Nat → Nat} {m : Nat} {pa : Nat → Nat} {T : Nat} {τ : Nat → Nat} {p : Nat → Int} {f : Nat → Int64} {re : Nat → Int32} {nr : Nat → Int64} (hh : cn_DI D t l m pa T τ p f re nr) : ∀ x, D.Pd t x → τ x ≤ T := hh.2.2.1
theorem cn_DI.re' {D : cn_Dat} {t : Nat} {l : Nat → Nat} {m : Nat} {pa : Nat → Nat} {T : Nat} {τ : Nat → Nat} {p : Nat → Int} {f : Nat → Int64} {re : Nat → Int32} {nr : Nat → Int64} (hh : cn_DI D t l m pa T τ p f re nr) : ∀ j, j < m → re j = if τ (pa j) < T then 1 else 0 := hh.2.2.2.1
theorem cn_DI.nn {D : cn_Dat} {t : Nat} {l : Nat → Nat} {m : Nat} {pa : Nat → Nat} {T : Nat} {τ : Nat → Nat} {p : Nat → Int} {f : Nat → Int64} {re : Nat → Int32} {nr : Nat → Int64} (hh : cn_DI D t l m pa T τ p f re nr) : ∀ j, j < m → re j = 0 → cn_NN D (fun x => D.Pd t x ∧ τ x < T) (pa j) (nr j) := hh.2.2.2.2.1
theorem cn_DI.src {D : cn_Dat} {t : Nat} {l : Nat → Nat} {m : Nat} {pa : Nat → Nat} {T : Nat} {τ : Nat → Nat} {p : Nat → Int} {f : Nat → Int64} {re : Nat → Int32} {nr : Nat → Int64} (hh : cn_DI D t l m pa T τ p f re nr) : ∃ x, D.Pd t x ∧ τ x < T := hh.2.2.2.2.2.1
theorem cn_DI.cnt {D : cn_Dat} {t : Nat} {l : Nat → Nat} {m : Nat} {pa : Nat → Nat} {T : Nat} {τ : Nat → Nat} {p : Nat → Int} {f : Nat → Int64} {re : Nat → Int32} {nr : Nat → Int64} (hh : cn_DI D t l m pa T τ p f re nr) : T ≤ cn_ct (fun j => decide (re j ≠ 0)) m := hh.2.2.2.2.2.2.1
theorem cn_DI.rise {D : cn_Dat} {t : Nat} {l : Nat → Nat} {m : Nat} {pa : Nat → Nat} {T : Nat} {τ : Nat → Nat} {p : Nat → Int} {f : Nat → Int64} {re : Nat → Int32} {nr : Nat → Int64} (hh : cn_DI D t l m pa T τ p f re nr) : ∀ i j, i < j → j < T - 1 → (f i).toInt < (f j).toInt := hh.2.2.2.2.2.2.2.1
theorem cn_DI.hit {D : cn_Dat} {t : Nat} {l : Nat → Nat} {m : Nat} {pa : Nat → Nat} {T : Nat} {τ : Nat → Nat} {p : Nat → Int} {f : Nat → Int64} {re : Nat → Int32} {nr : Nat → Int64} (hh : cn_DI D t l m pa T τ p f re nr) : ∀ n, 1 ≤ n → n < T → ∃ i, i < T - 1 ∧ (f i).toInt = p n := hh.2.2.2.2.2.2.2.2.1
theorem cn_DI.from' {D : cn_Dat} {t : Nat} {l : Nat → Nat} {m : Nat} {pa : Nat → Nat} {T : Nat} {τ : Nat → Nat} {p : Nat → Int} {f : Nat → Int64} {re : Nat → Int32} {nr : Nat → Int64} (hh : cn_DI D t l m pa T τ p f re nr) : ∀ i, i < T - 1 → ∃ n, 1 ≤ n ∧ n < T ∧ (f i).toInt = p n := hh.2.2.2.2.2.2.2.2.2
theorem cn_DI.fin {D : cn_Dat} (ok : D.ok) {t : Nat} {l : Nat → Nat} {m : Nat} {pa : Nat → Nat} {pads : Nat → Int32} (hp : cn_PA D t m pa pads) {T : Nat} {τ : Nat → Nat} {p : Nat → Int} {f : Nat → Int64} {re : Nat → Int32} {nr : Nat → Int64} (h : cn_DI D t l m pa T τ p f re nr) (all : ∀ j, j < m → re j ≠ 0) : cn_Lst D t l (T - 1) f := by
  have m60 := hp.m60
  have := h.cnt
  have := cn_ct_le (fun j => decide (re j ≠ 0)) m
  have hall : ∀ x, D.Pd t x → τ x < T := fun x hx => by
    obtain ⟨j, hj, rfl⟩ := hp.sur x hx
    have e := h.re' j hj
    by_cases q : τ (pa j) < T
    · exact q
    · rw [if_neg q] at e; exact absurd e (all j hj)
  refine ⟨by omega, h.rise, fun e => ⟨fun he => ?_, fun ⟨i, hi, ei⟩ => ?_⟩⟩
  · obtain ⟨n, h1, h2, h3⟩ := cn_hist_air h.hist ok.cwS hall he
    obtain ⟨i, hi, ei⟩ := h.hit n h1 h2
    exact ⟨i, hi, ei.trans h3⟩
  · obtain ⟨n, h1, h2, h3⟩ := h.from' i hi
    obtain ⟨x, y, hx, hy, g1, g2, g3⟩ := h.hist.2.2.1 n h1 h2
    refine cn_air1 (R := fun z => τ z < n) hx hy (fun a b ha hb e => ?_) g1 (by omega) ok.cwS (by rw [← ei, h3, g3]) (fun a b ha hb r1 r2 => ?_)
    · rw [h.hist.1 a b ha hb e]
    · rw [← ei, h3]; exact h.hist.2.2.2 n h1 h2 a b ha hb r1 (by omega)
theorem cn_drawL {D : cn_Dat} (ok : D.ok) {kept : Nat → Int32} {l : Nat → Nat} (hk : cn_KP D kept l) {t : Nat} (ht : t < 20) {m : Nat} {pa : Nat → Nat} {pads : Nat → Int32} (hp : cn_PA D t m pa pads) : ∀ (d T fuel : Nat) (τ : Nat → Nat) (p : Nat → Int) (f : Nat → Int64) (re : Nat → Int32) (nr : Nat → Int64), T + d = m → d < fuel → cn_DI D t l m pa T τ p f re nr →
    ∃ c f' re' nr', F_A_draw_17 fuel (nI (T - 1)) (nI m) f pads re nr D.x D.y D.ri D.hi kept (nI T) = some (nI c, f', re', nr') ∧ cn_Lst D t l c f' := by
  have m60 := hp.m60
  intro d
  induction d with
  | zero =>
    intro T fuel τ p f re nr hT hf h
    obtain ⟨k, rfl⟩ : ∃ k, fuel = k + 1 := ⟨fuel - 1, by omega⟩
    rw [F_A_draw_17, if_pos ((cn_leI (by omega) (by omega)).mpr (by omega))]
    refine ⟨T - 1, f, re, nr, rfl, h.fin ok hp (fun j hj => ?_)⟩
    have := cn_ct_full (p := fun j => decide (re j ≠ 0)) m (by have := h.cnt; omega) j hj
    exact of_decide_eq_true this
  | succ d ih =>
    intro T fuel τ p f re nr hT hf h
    obtain ⟨k, rfl⟩ : ∃ k, fuel = k + 1 := ⟨fuel - 1, by omega⟩
    have T1 := h.T1
    rw [F_A_draw_17, if_neg (fun z => by have := (cn_leI (by omega) (by omega)).mp z; omega)]
    unfold F_A_nearestPad F_A_nearestPad_0
    obtain ⟨v, ev, hv⟩ := cn_nearL m60 (re := re) (nr := nr) m 0 4096 (-1) (by omega) (by omega) (Or.inl ⟨rfl, fun j hj => by omega⟩)
    rw [show (0 : Int32) = nI 0 by decide, ev]
    simp only [Option.bind_some]
    rcases hv with ⟨rfl, hall⟩ | ⟨b, hb, rfl, rb, hmin⟩
    · rw [if_pos rfl]
      exact ⟨T - 1, f, re, nr, rfl, h.fin ok hp hall⟩
    · rw [if_neg (cn_m1 (by omega)), cn_rdI (by omega) (by omega), cn_ki (by omega)]
      have hb0 := hp.pd b hb
      have tb : τ (pa b) = T := by
        have e := h.re' b hb
        have := h.tle _ hb0
        by_cases q : τ (pa b) < T
        · rw [if_pos q, rb] at e; exact absurd e (by decide)
        · omega
      have nb := h.nn b hb rb
      obtain ⟨z0, hz0, hz1⟩ := h.src
      obtain ⟨x0, ⟨hx0, tx0⟩, ex0⟩ : ∃ x, (D.Pd t x ∧ τ x < T) ∧ (nr b).toInt = D.cw x (pa b) := by
        rcases nb.2 with q | q
        · exact q
        · have a1 := nb.1 z0 ⟨hz0, hz1⟩
          have a2 := ok.cwB (hz0.pin ht) (hb0.pin ht) (hz0.lt ok) (hb0.lt ok)
          omega
      unfold F_A_insert F_A_insert_0
      rw [cn_60, if_pos ((cn_ltI (by omega) (by omega)).mpr (by omega))]
      obtain ⟨a, f', ef, a1, a2, a3, a4, a5, a6, a7⟩ := cn_insL (c := T - 1) (by omega) (v := nr b) (T - 1) 4096 f (by omega) (Nat.le_refl _)
      rw [ef]
      simp only [Option.bind_some]
      obtain ⟨re', nr', er, b1, b2⟩ := cn_reach ok hk ht hp hb re nr h.nn
      rw [er]
      simp only [Option.bind_some]
      rw [nI_1]
      have hne : ∀ x, D.Pd t x → τ x < T → l x ≠ l (pa b) := fun x hx tx e => by
        have := h.hist.1 x (pa b) hx hb0 e
        omega
      -- the new value isn't among the old ones
      have fresh : ∀ i, i < T - 1 → (f i).toInt ≠ (nr b).toInt := fun i hi e => by
        obtain ⟨n, n1, n2, n3⟩ := h.from' i hi
        obtain ⟨x, y, hx, hy, g1, g2, g3⟩ := h.hist.2.2.1 n n1 n2
        obtain ⟨-, c1, c2⟩ := cn_cwI (hx.lt ok) (hy.lt ok) (hx0.lt ok) (hb0.lt ok) (show D.cw x y = D.cw x0 (pa b) by rw [← g3, ← n3, e, ex0])
        have : pa b = x ∨ pa b = y := by omega
        rcases this with q | q
        · rw [q] at tb; omega
        · rw [q] at tb; omega
      have low : ∀ x y, D.Pd t x → D.Pd t y → τ x < T → T ≤ τ y → (nr b).toInt ≤ D.cw x y := fun x y hx hy tx ty => by
        obtain ⟨j, hj, rfl⟩ := hp.sur y hy
        have e := h.re' j hj
        rw [if_neg (by omega)] at e
        have := hmin j hj e
        have := (h.nn j hj e).1 x ⟨hx, tx⟩
        omega
      have res := ih (T + 1) k (fun x => if l x = l (pa b) then T else if τ x = T then T + 1 else τ x) (fun n => if n = T then (nr b).toInt else p n) f' re' nr' (by omega) (by omega) ?_
      · rw [show T + 1 - 1 = T - 1 + 1 by omega] at res
        exact res
      · have told : ∀ x, D.Pd t x → τ x < T → (if l x = l (pa b) then T else if τ x = T then T + 1 else τ x) = τ x := fun x hx tx => by
          rw [if_neg (hne x hx tx), if_neg (by omega)]
        have tnew : ∀ x, D.Pd t x → (if l x = l (pa b) then T else if τ x = T then T + 1 else τ x) < T → τ x < T := fun x hx q => by
          have := h.tle x hx
          by_cases q1 : l x = l (pa b)
          · rw [if_pos q1] at q; omega
          · rw [if_neg q1] at q
            by_cases q2 : τ x = T
            · rw [if_pos q2] at q; omega
            · omega
        have tlt : ∀ x, D.Pd t x → ((if l x = l (pa b) then T else if τ x = T then T + 1 else τ x) < T + 1 ↔ τ x < T ∨ l x = l (pa b)) := fun x hx => by
          have := h.tle x hx
          by_cases q1 : l x = l (pa b)
          · rw [if_pos q1]; exact ⟨fun _ => Or.inr q1, fun _ => by omega⟩
          · rw [if_neg q1]
            by_cases q2 : τ x = T
            · rw [if_pos q2]; exact ⟨fun z => by omega, fun z => by rcases z with z | z; omega; exact absurd z q1⟩
            · rw [if_neg q2]; exact ⟨fun _ => Or.inl (by omega), fun _ => by omega⟩
        refine ⟨by omega, ⟨fun x y hx hy e => ?_, fun x y hx hy e e2 => ?_, fun n n1 n2 => ?_, fun n n1 n2 x y hx hy e1 e2 => ?_⟩, fun x hx => ?_, fun j hj => ?_, fun j hj hr => ?_, ⟨z0, hz0, ?_⟩, ?_, fun i j hij hj => ?_, fun n n1 n2 => ?_, fun i hi => ?_⟩
        · show (if l x = l (pa b) then T else if τ x = T then T + 1 else τ x) = (if l y = l (pa b) then T else if τ y = T then T + 1 else τ y)
          rw [e, h.hist.1 x y hx hy e]
        · have e : (if l x = l (pa b) then T else if τ x = T then T + 1 else τ x) = (if l y = l (pa b) then T else if τ y = T then T + 1 else τ y) := e
          have w1 := (tlt x hx).mp e2
          have w2 := (tlt y hy).mp (by rw [← e]; exact e2)
          rcases w1 with w1 | w1
          · rw [told x hx w1] at e
            rcases w2 with w2 | w2
            · rw [told y hy w2] at e
              exact h.hist.2.1 x y hx hy e w1
            · rw [if_pos w2] at e; omega
          · rcases w2 with w2 | w2
            · rw [told y hy w2, if_pos w1] at e; omega
            · rw [w1, w2]
        · by_cases q : n = T
          · refine ⟨x0, pa b, hx0, hb0, ?_, ?_, ?_⟩
            · show (if l x0 = l (pa b) then T else if τ x0 = T then T + 1 else τ x0) < n
              rw [told x0 hx0 tx0]; omega
            · show (if l (pa b) = l (pa b) then T else if τ (pa b) = T then T + 1 else τ (pa b)) = n
              rw [if_pos rfl, q]
            · show (if n = T then (nr b).toInt else p n) = _
              rw [if_pos q, ex0]
          · obtain ⟨x, y, hx, hy, g1, g2, g3⟩ := h.hist.2.2.1 n n1 (by omega)
            refine ⟨x, y, hx, hy, ?_, ?_, ?_⟩
            · show (if l x = l (pa b) then T else if τ x = T then T + 1 else τ x) < n
              rw [told x hx (by omega)]; exact g1
            · show (if l y = l (pa b) then T else if τ y = T then T + 1 else τ y) = n
              rw [told y hy (by omega)]; exact g2
            · show (if n = T then (nr b).toInt else p n) = _
              rw [if_neg q]; exact g3
        · show (if n = T then (nr b).toInt else p n) ≤ _
          have e1 : (if l x = l (pa b) then T else if τ x = T then T + 1 else τ x) < n := e1
          have e2 : n ≤ (if l y = l (pa b) then T else if τ y = T then T + 1 else τ y) := e2
          have tx : τ x < T := tnew x hx (by omega)
          rw [told x hx tx] at e1
          have ty : n ≤ τ y := by
            have := h.tle y hy
            by_cases q : τ y < T
            · rw [told y hy q] at e2; exact e2
            · omega
          by_cases q : n = T
          · rw [if_pos q]; exact low x y hx hy (by omega) (by omega)
          · rw [if_neg q]; exact h.hist.2.2.2 n n1 (by omega) x y hx hy e1 ty
        · show (if l x = l (pa b) then T else if τ x = T then T + 1 else τ x) ≤ T + 1
          have := h.tle x hx
          split
          · omega
          · split <;> omega
        · show re' j = if (if l (pa j) = l (pa b) then T else if τ (pa j) = T then T + 1 else τ (pa j)) < T + 1 then 1 else 0
          have := tlt (pa j) (hp.pd j hj)
          rw [b1 j hj, h.re' j hj]
          by_cases q1 : l (pa j) = l (pa b)
          · rw [if_pos q1, if_pos (this.mpr (Or.inr q1))]
          · rw [if_neg q1]
            by_cases q2 : τ (pa j) < T
            · rw [if_pos q2, if_pos (this.mpr (Or.inl q2))]
            · rw [if_neg q2, if_neg (fun z => (this.mp z).elim q2 q1)]
        · refine (b2 j hj hr).cong (fun x => ⟨fun ⟨hx, q⟩ => ?_, fun q => ?_⟩)
          · rcases (tlt x hx).mp q with w | w
            · exact Or.inl ⟨hx, w⟩
            · exact Or.inr ⟨hx, w⟩
          · rcases q with ⟨hx, w⟩ | ⟨hx, w⟩
            · exact ⟨hx, (tlt x hx).mpr (Or.inl w)⟩
            · exact ⟨hx, (tlt x hx).mpr (Or.inr w)⟩
        · exact (tlt z0 hz0).mpr (Or.inl hz1)
        · have g := cn_ct_grow (p := fun j => decide (re j ≠ 0)) (q := fun j => decide (re' j ≠ 0)) m (fun j hj z => by
            have z := of_decide_eq_true z
            apply decide_eq_true
            rw [b1 j hj]
            split
            · decide
            · exact z) ⟨b, hb, by apply decide_eq_true; rw [b1 b hb, if_pos rfl]; decide, by simp [rb]⟩
          have := h.cnt
          omega
        · -- still rising
          have val : ∀ i, i < T + 1 - 1 → (i < a ∧ f' i = f i) ∨ (i = a ∧ f' i = nr b) ∨ (a < i ∧ f' i = f (i - 1)) := fun i hi => by
            rcases Nat.lt_trichotomy i a with q | q | q
            · exact Or.inl ⟨q, a3 i q⟩
            · exact Or.inr (Or.inl ⟨q, by rw [q]; exact a2⟩)
            · exact Or.inr (Or.inr ⟨q, a4 i q (by omega)⟩)
          have lowA : ∀ i, i < a → (f i).toInt < (nr b).toInt := fun i hi => by
            have e1 := a6 (by omega)
            have e2 := fresh (a - 1) (by omega)
            rcases Nat.eq_or_lt_of_le (show i ≤ a - 1 by omega) with q | q
            · rw [q]; omega
            · have := h.rise i (a - 1) q (by omega); omega
          rcases val i (by omega) with ⟨q, e⟩ | ⟨q, e⟩ | ⟨q, e⟩ <;> rcases val j hj with ⟨q', e'⟩ | ⟨q', e'⟩ | ⟨q', e'⟩
          · rw [e, e']; exact h.rise i j hij (by omega)
          · rw [e, e']; exact lowA i q
          · rw [e, e']
            have := lowA i q
            have := a7 (j - 1) (by omega) (by omega)
            omega
          · omega
          · omega
          · rw [e, e']; exact a7 (j - 1) (by omega) (by omega)
          · omega
          · omega
          · rw [e, e']; exact h.rise (i - 1) (j - 1) (by omega) (by omega)
        · show ∃ i, i < T + 1 - 1 ∧ (f' i).toInt = if n = T then (nr b).toInt else p n
          by_cases q : n = T
          · exact ⟨a, by omega, by rw [a2, if_pos q]⟩
          · obtain ⟨i, hi, ei⟩ := h.hit n n1 (by omega)
            rw [if_neg q]
            rcases Nat.lt_or_ge i a with y | y
            · exact ⟨i, by omega, by rw [a3 i y, ei]⟩
            · exact ⟨i + 1, by omega, by rw [a4 (i + 1) (by omega) (by omega)]; exact ei⟩
        · show ∃ n, 1 ≤ n ∧ n < T + 1 ∧ (f' i).toInt = if n = T then (nr b).toInt else p n
          have old : ∀ i', i' < T - 1 → f' i = f i' → ∃ n, 1 ≤ n ∧ n < T + 1 ∧ (f' i).toInt = if n = T then (nr b).toInt else p n := fun i' h1 h2 => by
            obtain ⟨n, n1, n2, n3⟩ := h.from' i' h1
            exact ⟨n, n1, by omega, by rw [if_neg (by omega), h2, n3]⟩
          rcases Nat.lt_trichotomy i a with q | q | q
          · exact old i (by omega) (a3 i q)
          · exact ⟨T, by omega, by omega, by rw [if_pos rfl, q, a2]⟩
          · exact old (i - 1) (by omega) (a4 i q (by omega))
