/-! PURE: the reference's airlines one after the other -/
abbrev cn_KI (D : cn_Dat) (t : Nat) (l : Nat → Nat) (G : Nat → Int32) (s : Nat) (e : Nat → Int) : Prop :=
  (∀ x y, D.Pd t x → D.Pd t y → l x = l y → G x = G y) ∧ (∀ x y, D.Pd t x → D.Pd t y → G x ≠ G y → ∀ i, i < s → e i < D.cw x y) ∧ (∀ c f, cn_Lab (D.Pd t) l D.cw c f → (∀ i, i < s → e i < c) → ∀ x y, D.Pd t x → D.Pd t y → G x = G y → f x = f y) ∧ (∀ i, i < s → cn_Air (D.Pd t) l D.cw (e i)) ∧ (∀ i j, i < j → j < s → e i < e j) ∧ (∀ c, cn_Air (D.Pd t) l D.cw c → (∃ i, i < s ∧ e i = c) ∨ ∀ i, i < s → e i < c)
theorem cn_KI.a {D : cn_Dat} {t : Nat} {l : Nat → Nat} {G : Nat → Int32} {s : Nat} {e : Nat → Int} (hh : cn_KI D t l G s e) : ∀ x y, D.Pd t x → D.Pd t y → l x = l y → G x = G y := hh.1
theorem cn_KI.b {D : cn_Dat} {t : Nat} {l : Nat → Nat} {G : Nat → Int32} {s : Nat} {e : Nat → Int} (hh : cn_KI D t l G s e) : ∀ x y, D.Pd t x → D.Pd t y → G x ≠ G y → ∀ i, i < s → e i < D.cw x y := hh.2.1
theorem cn_KI.c {D : cn_Dat} {t : Nat} {l : Nat → Nat} {G : Nat → Int32} {s : Nat} {e : Nat → Int} (hh : cn_KI D t l G s e) : ∀ c f, cn_Lab (D.Pd t) l D.cw c f → (∀ i, i < s → e i < c) → ∀ x y, D.Pd t x → D.Pd t y → G x = G y → f x = f y := hh.2.2.1
theorem cn_KI.air {D : cn_Dat} {t : Nat} {l : Nat → Nat} {G : Nat → Int32} {s : Nat} {e : Nat → Int} (hh : cn_KI D t l G s e) : ∀ i, i < s → cn_Air (D.Pd t) l D.cw (e i) := hh.2.2.2.1
theorem cn_KI.rise {D : cn_Dat} {t : Nat} {l : Nat → Nat} {G : Nat → Int32} {s : Nat} {e : Nat → Int} (hh : cn_KI D t l G s e) : ∀ i j, i < j → j < s → e i < e j := hh.2.2.2.2.1
theorem cn_KI.seg {D : cn_Dat} {t : Nat} {l : Nat → Nat} {G : Nat → Int32} {s : Nat} {e : Nat → Int} (hh : cn_KI D t l G s e) : ∀ c, cn_Air (D.Pd t) l D.cw c → (∃ i, i < s ∧ e i = c) ∨ ∀ i, i < s → e i < c := hh.2.2.2.2.2
theorem cn_KI.zero {D : cn_Dat} (ok : D.ok) {kept : Nat → Int32} {l : Nat → Nat} (h : cn_KP D kept l) {t : Nat} {G : Nat → Int32} (hG : ∀ j, j < D.n → G j = cn_nm kept j) (e : Nat → Int) : cn_KI D t l G 0 e := by
  have hg : ∀ x, D.Pd t x → G x = cn_nm kept x := fun x hx => hG x (ok.lt hx.1)
  refine ⟨fun x y hx hy q => ?_, fun _ _ _ _ _ i hi => by omega, fun c f hf _ x y hx hy q => ?_, fun i hi => by omega, fun i j _ hj => by omega, fun c _ => Or.inr (fun i hi => by omega)⟩
  · rw [hg x hx, hg y hy, h.nmI ok hx.1 hy.1]; exact q
  · rw [hg x hx, hg y hy, h.nmI ok hx.1 hy.1] at q
    exact hf.1 x y hx hy q
theorem cn_KI.step {D : cn_Dat} (ok : D.ok) {l : Nat → Nat} {t : Nat} {G G' : Nat → Int32} {s : Nat} {e : Nat → Int} (h : cn_KI D t l G s e) {a b : Nat} (ha : D.Pd t a) (hb : D.Pd t b) (ne : G a ≠ G b)
    (hmin : ∀ x y, D.Pd t x → D.Pd t y → G x ≠ G y → D.cw a b ≤ D.cw x y) (hG : ∀ j, j < D.n → G' j = if G j = G b then G a else G j) : cn_KI D t l G' (s + 1) (fun i => if i = s then D.cw a b else e i) := by
  have n60 := ok.n60
  have hg : ∀ x, D.Pd t x → G' x = if G x = G b then G a else G x := fun x hx => hG x (ok.lt hx.1)
  have keep : ∀ x y, D.Pd t x → D.Pd t y → G x = G y → G' x = G' y := fun x y hx hy q => by rw [hg x hx, hg y hy, q]
  have eqv : ∀ x y, D.Pd t x → D.Pd t y → G' x = G' y → G x = G y ∨ (G x = G a ∧ G y = G b) ∨ (G x = G b ∧ G y = G a) := fun x y hx hy q => by
    rw [hg x hx, hg y hy] at q
    by_cases q1 : G x = G b
    · rw [if_pos q1] at q
      by_cases q2 : G y = G b
      · exact Or.inl (q1.trans q2.symm)
      · rw [if_neg q2] at q; exact Or.inr (Or.inr ⟨q1, q.symm⟩)
    · rw [if_neg q1] at q
      by_cases q2 : G y = G b
      · rw [if_pos q2] at q; exact Or.inr (Or.inl ⟨q, q2⟩)
      · rw [if_neg q2] at q; exact Or.inl q
  have newAir : cn_Air (D.Pd t) l D.cw (D.cw a b) := by
    refine ⟨a, b, ha, hb, fun z => ne (h.a a b ha hb z), rfl, fun x => (G x).toBitVec.toNat, ⟨fun x y hx hy z => ?_, fun x y hx hy z => ?_⟩, fun z => ne (Int32.toBitVec_inj.mp (BitVec.eq_of_toNat_eq z))⟩
    · show (G x).toBitVec.toNat = (G y).toBitVec.toNat
      rw [h.a x y hx hy z]
    · show (G x).toBitVec.toNat = (G y).toBitVec.toNat
      apply Classical.byContradiction
      intro w
      have := hmin x y hx hy (fun z => w (by rw [z]))
      omega
  have gt : ∀ i, i < s → e i < D.cw a b := h.b a b ha hb ne
  refine ⟨fun x y hx hy q => keep x y hx hy (h.a x y hx hy q), fun x y hx hy q i hi => ?_, fun c f hf hi x y hx hy q => ?_, fun i hi => ?_, fun i j hij hj => ?_, fun c hc => ?_⟩
  · show (if i = s then D.cw a b else e i) < D.cw x y
    have q0 : G x ≠ G y := fun z => q (keep x y hx hy z)
    by_cases z : i = s
    · rw [if_pos z]
      have := hmin x y hx hy q0
      rcases Int.lt_or_eq_of_le this with w | w
      · exact w
      · exfalso
        obtain ⟨-, c1, c2⟩ := cn_cwI (ha.lt ok) (hb.lt ok) (hx.lt ok) (hy.lt ok) w
        apply q
        have : (a = x ∧ b = y) ∨ (a = y ∧ b = x) := by omega
        rcases this with ⟨rfl, rfl⟩ | ⟨rfl, rfl⟩
        · rw [hg a ha, hg b hb, if_neg ne, if_pos rfl]
        · rw [hg a ha, hg b hb, if_neg ne, if_pos rfl]
    · rw [if_neg z]; exact h.b x y hx hy q0 i (by omega)
  · have old : ∀ i, i < s → e i < c := fun i z => by
      have : (if i = s then D.cw a b else e i) < c := hi i (by omega)
      rw [if_neg (by omega)] at this
      exact this
    have new : D.cw a b < c := by
      have : (if s = s then D.cw a b else e s) < c := hi s (by omega)
      rw [if_pos rfl] at this
      exact this
    have fab : f a = f b := hf.2 a b ha hb new
    rcases eqv x y hx hy q with z | ⟨z1, z2⟩ | ⟨z1, z2⟩
    · exact h.c c f hf old x y hx hy z
    · rw [h.c c f hf old x a hx ha z1, h.c c f hf old y b hy hb z2, fab]
    · rw [h.c c f hf old x b hx hb z1, h.c c f hf old y a hy ha z2, fab]
  · show cn_Air (D.Pd t) l D.cw (if i = s then D.cw a b else e i)
    by_cases z : i = s
    · rw [if_pos z]; exact newAir
    · rw [if_neg z]; exact h.air i (by omega)
  · show (if i = s then D.cw a b else e i) < (if j = s then D.cw a b else e j)
    rw [if_neg (show ¬ i = s by omega)]
    by_cases z : j = s
    · rw [if_pos z]; exact gt i (by omega)
    · rw [if_neg z]; exact h.rise i j hij (by omega)
  · show (∃ i, i < s + 1 ∧ (if i = s then D.cw a b else e i) = c) ∨ ∀ i, i < s + 1 → (if i = s then D.cw a b else e i) < c
    rcases h.seg c hc with ⟨i, hi, ei⟩ | q
    · exact Or.inl ⟨i, by omega, by rw [if_neg (by omega)]; exact ei⟩
    · obtain ⟨x, y, hx, hy, g1, g2, f, hf, g3⟩ := hc
      have xy : G x ≠ G y := fun z => g3 (h.c c f hf q x y hx hy z)
      have := hmin x y hx hy xy
      rw [g2] at this
      rcases Int.lt_or_eq_of_le this with w | w
      · refine Or.inr (fun i hi => ?_)
        by_cases z : i = s
        · rw [if_pos z]; exact w
        · rw [if_neg z]; exact q i (by omega)
      · exact Or.inl ⟨s, by omega, by rw [if_pos rfl]; exact w⟩
/-- the class's row and the reference's beginning of it -/
theorem cn_KI.pre {D : cn_Dat} {l : Nat → Nat} {t : Nat} {G : Nat → Int32} {s : Nat} {e : Nat → Int} (h : cn_KI D t l G s e) {c : Nat} {f : Nat → Int64} (hL : cn_Lst D t l c f) : ∀ i, i < s → i < c ∧ (f i).toInt = e i := by
  intro i hi
  obtain ⟨j, hj, ej⟩ := (hL.2.2 (e i)).mp (h.air i hi)
  have key := cn_riseN (a := e) (b := fun z => (f z).toInt) (m := i) (n := j) (fun x y hx hy => h.rise x y hx (by omega)) (fun x y hx hy => hL.2.1 x y hx (by omega))
    (fun x hx => by
      obtain ⟨y, hy, ey⟩ := (hL.2.2 (e x)).mp (h.air x (by omega))
      refine ⟨y, ?_, ey⟩
      have lt := h.rise x i hx hi
      rcases Nat.lt_or_ge y j with q | q
      · exact q
      · exfalso
        rcases Nat.eq_or_lt_of_le q with z | z
        · rw [← z, ej] at ey; omega
        · have := hL.2.1 j y z hy; omega)
    (fun x hx => by
      have ax : cn_Air (D.Pd t) l D.cw (f x).toInt := (hL.2.2 _).mpr ⟨x, by omega, rfl⟩
      have lt := hL.2.1 x j hx hj
      rcases h.seg _ ax with ⟨y, hy, ey⟩ | q
      · refine ⟨y, ?_, ey⟩
        rcases Nat.lt_or_ge y i with w | w
        · exact w
        · exfalso
          rcases Nat.eq_or_lt_of_le w with z | z
          · rw [← z] at ey; omega
          · have := h.rise i y z hy; omega
      · have := q i hi; omega)
  rw [key.1]
  exact ⟨hj, by rw [ej, ← key.1]⟩
theorem cn_KI.full {D : cn_Dat} {l : Nat → Nat} {t : Nat} {G : Nat → Int32} {s : Nat} {e : Nat → Int} (h : cn_KI D t l G s e) {c : Nat} {f : Nat → Int64} (hL : cn_Lst D t l c f) (hx : ∀ x y, D.Pd t x → D.Pd t y → G x = G y) : s = c := by
  have pre := h.pre hL
  rcases Nat.lt_trichotomy s c with q | q | q
  · exfalso
    have ax : cn_Air (D.Pd t) l D.cw (f s).toInt := (hL.2.2 _).mpr ⟨s, q, rfl⟩
    rcases h.seg _ ax with ⟨i, hi, ei⟩ | w
    · have := pre i hi
      have := hL.2.1 i s hi q
      omega
    · obtain ⟨x, y, hx1, hy1, g1, g2, f', hf, g3⟩ := ax
      exact g3 (h.c _ f' hf w x y hx1 hy1 (hx x y hx1 hy1))
  · exact q
  · have := (pre c q).1; omega
theorem cn_KI.le {D : cn_Dat} {l : Nat → Nat} {t : Nat} {G : Nat → Int32} {s : Nat} {e : Nat → Int} (h : cn_KI D t l G s e) {c : Nat} {f : Nat → Int64} (hL : cn_Lst D t l c f) : s ≤ c := by
  rcases Nat.lt_or_ge c s with q | q
  · have := (h.pre hL c q).1; omega
  · exact q
theorem cn_cnt35 {D : cn_Dat} (ok : D.ok) {t : Nat} (ht : t < 20) {l : Nat → Nat} {c : Nat} {f : Nat → Int64} (hL : cn_Lst D t l c f) {lab num : Nat → Int32} : ∀ (d s fuel : Nat) (G : Nat → Int32) (e : Nat → Int) (aS : Int64) (aL aH : Int32), s + d = c → d < fuel → cn_KI D t l G s e →
    ∃ aS' aL' aH' G', F_M_countOpens_35 fuel (nI D.n) aS aL aH D.there D.fr D.to D.x D.y D.w D.h D.r D.pin D.nop lab num G (nI t) (nI s) = some (nI c, aS', aL', aH', lab, num, G') := by
  intro d
  induction d with
  | zero =>
    intro s fuel G e aS aL aH hs hf h
    obtain ⟨k, rfl⟩ : ∃ k, fuel = k + 1 := ⟨fuel - 1, by omega⟩
    rw [F_M_countOpens_35]
    rcases cn_next ok ht G aS aL aH with ⟨⟨a1, a2, a3, o⟩, hx⟩ | ⟨a, b, G', o, h1, h2, h3, h4, h5, h6, h7⟩
    · rw [o]
      simp only [Option.bind_some]
      rw [if_pos (by simp), show s = c by omega]
      exact ⟨_, _, _, _, rfl⟩
    · have := (h.step ok h3 h4 h5 h6 h7).le hL
      omega
  | succ d ih =>
    intro s fuel G e aS aL aH hs hf h
    obtain ⟨k, rfl⟩ : ∃ k, fuel = k + 1 := ⟨fuel - 1, by omega⟩
    rw [F_M_countOpens_35]
    rcases cn_next ok ht G aS aL aH with ⟨⟨a1, a2, a3, o⟩, hx⟩ | ⟨a, b, G', o, h1, h2, h3, h4, h5, h6, h7⟩
    · have := h.full hL hx
      omega
    · rw [o]
      simp only [Option.bind_some]
      rw [if_neg (by decide), nI_1]
      exact ih (s + 1) k G' _ _ _ _ (by omega) (by omega) (h.step ok h3 h4 h5 h6 h7)
theorem cn_cnt7 {D : cn_Dat} (ok : D.ok) {t : Int32} {lab num : Nat → Int32} {kept : Nat → Int32} (hn : ∀ j, j < D.n → num j = cn_nm kept j) {aS : Int64} {aL aH : Int32} : ∀ (d i fuel : Nat) (G : Nat → Int32), i + d = D.n → d < fuel → (∀ j, j < i → G j = cn_nm kept j) →
    ∃ G', F_M_countOpens_7 fuel (nI D.n) aS aL aH D.there D.fr D.to D.x D.y D.w D.h D.r D.pin D.nop lab num G t (nI i) = F_M_countOpens_35 4096 (nI D.n) aS aL aH D.there D.fr D.to D.x D.y D.w D.h D.r D.pin D.nop lab num G' t 0 ∧ ∀ j, j < D.n → G' j = cn_nm kept j := by
  have n60 := ok.n60
  intro d
  induction d with
  | zero =>
    intro i fuel G hi hf hG
    obtain ⟨k, rfl⟩ : ∃ k, fuel = k + 1 := ⟨fuel - 1, by omega⟩
    rw [F_M_countOpens_7, if_pos ((cn_leI (by omega) (by omega)).mpr (by omega))]
    exact ⟨G, rfl, fun j hj => hG j (by omega)⟩
  | succ d ih =>
    intro i fuel G hi hf hG
    obtain ⟨k, rfl⟩ : ∃ k, fuel = k + 1 := ⟨fuel - 1, by omega⟩
    rw [F_M_countOpens_7, if_neg (fun z => by have := (cn_leI (by omega) (by omega)).mp z; omega), cn_rdI (by omega) (by omega), cn_rdI (by omega) (by omega), cn_ki (by omega), nI_1]
    refine ih (i + 1) k _ (by omega) (by omega) (fun j hj => ?_)
    rw [cn_up]
    by_cases q : j = i
    · rw [if_pos q, q]; exact hn i (by omega)
    · rw [if_neg q]; exact hG j (by omega)
theorem cn_find13 {D : cn_Dat} (ok : D.ok) {t v : Int32} {lab num : Nat → Int32} {kept : Nat → Int32} (hn : ∀ j, j < D.n → num j = cn_nm kept j) {aS : Int64} {aL aH : Int32} : ∀ (d i fuel : Nat) (G : Nat → Int32), i + d = D.n → d < fuel → (∀ j, j < i → G j = cn_nm kept j) →
    ∃ G', F_M_findAirline_13 fuel (nI D.n) aS aL aH D.there D.fr D.to D.x D.y D.w D.h D.r D.pin D.nop lab num G t v (nI i) = F_M_findAirline_41 4096 (nI D.n) aS aL aH D.there D.fr D.to D.x D.y D.w D.h D.r D.pin D.nop lab num G' t v 0 ∧ ∀ j, j < D.n → G' j = cn_nm kept j := by
  have n60 := ok.n60
  intro d
  induction d with
  | zero =>
    intro i fuel G hi hf hG
    obtain ⟨k, rfl⟩ : ∃ k, fuel = k + 1 := ⟨fuel - 1, by omega⟩
    rw [F_M_findAirline_13, if_pos ((cn_leI (by omega) (by omega)).mpr (by omega))]
    exact ⟨G, rfl, fun j hj => hG j (by omega)⟩
  | succ d ih =>
    intro i fuel G hi hf hG
    obtain ⟨k, rfl⟩ : ∃ k, fuel = k + 1 := ⟨fuel - 1, by omega⟩
    rw [F_M_findAirline_13, if_neg (fun z => by have := (cn_leI (by omega) (by omega)).mp z; omega), cn_rdI (by omega) (by omega), cn_rdI (by omega) (by omega), cn_ki (by omega), nI_1]
    refine ih (i + 1) k _ (by omega) (by omega) (fun j hj => ?_)
    rw [cn_up]
    by_cases q : j = i
    · rw [if_pos q, q]; exact hn i (by omega)
    · rw [if_neg q]; exact hG j (by omega)
set_option maxRecDepth 100000 in
theorem cn_countOpens {D : cn_Dat} (ok : D.ok) {kept : Nat → Int32} {l : Nat → Nat} (h : cn_KP D kept l) {t : Nat} (ht : t < 20) {c : Nat} {f : Nat → Int64} (hL : cn_Lst D t l c f) (aS : Int64) (aL aH : Int32) (lab num G : Nat → Int32) :
    ∃ aS' aL' aH' lab' num' G', F_M_countOpens (nI D.n) aS aL aH D.there D.fr D.to D.x D.y D.w D.h D.r D.pin D.nop lab num G (nI t) = some (nI c, aS', aL', aH', lab', num', G') := by
  have n60 := ok.n60
  obtain ⟨lab', num', e, hn⟩ := cn_nets ok h lab num
  unfold F_M_countOpens F_M_countOpens_0
  rw [e]
  simp only [Option.bind_some]
  obtain ⟨G', e2, hG⟩ := cn_cnt7 ok (t := nI t) (lab := lab') hn (aS := aS) (aL := aL) (aH := aH) D.n 0 4096 G (by omega) (by omega) (fun j hj => by omega)
  rw [show (0 : Int32) = nI 0 by decide, e2, show (0 : Int32) = nI 0 by decide]
  have := hL.1
  obtain ⟨a1, a2, a3, a4, e3⟩ := cn_cnt35 ok ht hL (lab := lab') (num := num') c 0 4096 G' (fun _ => 0) aS aL aH (by omega) (by omega) (cn_KI.zero ok h hG _)
  exact ⟨a1, a2, a3, _, _, a4, e3⟩
/-- the k-th airline, if there is one -/
theorem cn_find41 {D : cn_Dat} (ok : D.ok) {t : Nat} (ht : t < 20) {l : Nat → Nat} {c : Nat} {f : Nat → Int64} (hL : cn_Lst D t l c f) {lab num : Nat → Int32} {kk : Nat} (hkk : kk < 2 ^ 31) : ∀ (d s fuel : Nat) (G : Nat → Int32) (e : Nat → Int) (aS : Int64) (aL aH : Int32), s + d = c → d + 1 < fuel → s ≤ kk + 1 → cn_KI D t l G s e →
    (s = kk + 1 → ∃ a b, a < b ∧ b < D.n ∧ D.Pd t a ∧ D.Pd t b ∧ aS = D.sq a b ∧ aL = nI a ∧ aH = nI b ∧ D.cw a b = e kk) →
    ∃ r aS' aL' aH' G', F_M_findAirline_41 fuel (nI D.n) aS aL aH D.there D.fr D.to D.x D.y D.w D.h D.r D.pin D.nop lab num G (nI t) (nI kk) (nI s) = some (r, aS', aL', aH', lab, num, G') ∧
      (r = 0 ∧ c ≤ kk ∨ r = 1 ∧ kk < c ∧ ∃ a b, a < b ∧ b < D.n ∧ D.Pd t a ∧ D.Pd t b ∧ aS' = D.sq a b ∧ aL' = nI a ∧ aH' = nI b ∧ (f kk).toInt = D.cw a b) := by
  have c60 := hL.1
  intro d
  induction d with
  | zero =>
    intro s fuel G e aS aL aH hs hf hsk h hair
    obtain ⟨k, rfl⟩ : ∃ k, fuel = k + 1 := ⟨fuel - 1, by omega⟩
    rw [F_M_findAirline_41]
    by_cases q : kk < s
    · rw [if_pos ((nI_ltI hkk (by omega)).mpr q)]
      obtain ⟨a, b, z1, z2, z3, z4, z5, z6, z7, z8⟩ := hair (by omega)
      have := h.pre hL kk q
      exact ⟨1, aS, aL, aH, G, rfl, Or.inr ⟨rfl, this.1, a, b, z1, z2, z3, z4, z5, z6, z7, by rw [this.2, z8]⟩⟩
    · rw [if_neg (fun z => q ((nI_ltI hkk (by omega)).mp z))]
      rcases cn_next ok ht G aS aL aH with ⟨⟨a1, a2, a3, o⟩, hx⟩ | ⟨a, b, G', o, h1, h2, h3, h4, h5, h6, h7⟩
      · rw [o]
        simp only [Option.bind_some]
        rw [if_pos (by simp)]
        exact ⟨0, _, _, _, _, rfl, Or.inl ⟨rfl, by omega⟩⟩
      · have := (h.step ok h3 h4 h5 h6 h7).le hL
        omega
  | succ d ih =>
    intro s fuel G e aS aL aH hs hf hsk h hair
    obtain ⟨k, rfl⟩ : ∃ k, fuel = k + 1 := ⟨fuel - 1, by omega⟩
    rw [F_M_findAirline_41]
    by_cases q : kk < s
    · rw [if_pos ((nI_ltI hkk (by omega)).mpr q)]
      obtain ⟨a, b, z1, z2, z3, z4, z5, z6, z7, z8⟩ := hair (by omega)
      have := h.pre hL kk q
      exact ⟨1, aS, aL, aH, G, rfl, Or.inr ⟨rfl, this.1, a, b, z1, z2, z3, z4, z5, z6, z7, by rw [this.2, z8]⟩⟩
    · rw [if_neg (fun z => q ((nI_ltI hkk (by omega)).mp z))]
      rcases cn_next ok ht G aS aL aH with ⟨⟨a1, a2, a3, o⟩, hx⟩ | ⟨a, b, G', o, h1, h2, h3, h4, h5, h6, h7⟩
      · have := h.full hL hx
        omega
      · rw [o]
        simp only [Option.bind_some]
        rw [if_neg (by decide), nI_1]
        exact ih (s + 1) k G' _ _ _ _ (by omega) (by omega) (by omega) (h.step ok h3 h4 h5 h6 h7) (fun z => ⟨a, b, h1, h2, h3, h4, rfl, rfl, rfl, by
          show D.cw a b = if kk = s then D.cw a b else e kk
          rw [if_pos (by omega)]⟩)
set_option maxRecDepth 100000 in
theorem cn_findAirline {D : cn_Dat} (ok : D.ok) {kept : Nat → Int32} {l : Nat → Nat} (h : cn_KP D kept l) {t : Nat} (ht : t < 20) {c : Nat} {f : Nat → Int64} (hL : cn_Lst D t l c f) (aS : Int64) (aL aH : Int32) (lab num G : Nat → Int32) (v : Int32) :
    ∃ r aS' aL' aH' lab' num' G', F_M_findAirline (nI D.n) aS aL aH D.there D.fr D.to D.x D.y D.w D.h D.r D.pin D.nop lab num G (nI t) v = some (r, aS', aL', aH', lab', num', G') ∧
      (r = 0 ∧ (v < 0 ∨ ∃ kk, kk < 2 ^ 31 ∧ v = nI kk ∧ c ≤ kk) ∨ r = 1 ∧ ∃ kk, kk < c ∧ v = nI kk ∧ ∃ a b, a < b ∧ b < D.n ∧ D.Pd t a ∧ D.Pd t b ∧ aS' = D.sq a b ∧ aL' = nI a ∧ aH' = nI b ∧ (f kk).toInt = D.cw a b) := by
  have n60 := ok.n60
  have c60 := hL.1
  unfold F_M_findAirline F_M_findAirline_0
  by_cases q : v < 0
  · rw [if_neg (fun z => by
      have a1 := Int32.lt_iff_toInt_lt.mp q
      have a2 := Int32.le_iff_toInt_le.mp z
      omega)]
    exact ⟨0, aS, aL, aH, lab, num, G, rfl, Or.inl ⟨rfl, Or.inl q⟩⟩
  · obtain ⟨kk, hkk, rfl⟩ := nI_of q
    rw [if_pos (nI_pos' hkk)]
    obtain ⟨lab', num', e, hn⟩ := cn_nets ok h lab num
    rw [e]
    simp only [Option.bind_some]
    obtain ⟨G', e2, hG⟩ := cn_find13 ok (t := nI t) (v := nI kk) (lab := lab') hn (aS := aS) (aL := aL) (aH := aH) D.n 0 4096 G (by omega) (by omega) (fun j hj => by omega)
    rw [show (0 : Int32) = nI 0 by decide, e2, show (0 : Int32) = nI 0 by decide]
    obtain ⟨r, a1, a2, a3, a4, e3, h3⟩ := cn_find41 ok ht hL (lab := lab') (num := num') hkk c 0 4096 G' (fun _ => 0) aS aL aH (by omega) (by omega) (by omega) (cn_KI.zero ok h hG _) (fun z => by omega)
    refine ⟨r, a1, a2, a3, lab', num', a4, e3, ?_⟩
    rcases h3 with ⟨z1, z2⟩ | ⟨z1, z2, z3⟩
    · exact Or.inl ⟨z1, Or.inr ⟨kk, hkk, rfl, z2⟩⟩
    · exact Or.inr ⟨z1, kk, z2, rfl, z3⟩
