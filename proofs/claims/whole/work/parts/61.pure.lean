/-! PURE: the class draws its airlines -/
theorem cn_draw {D : cn_Dat} (ok : D.ok) {kept : Nat → Int32} {l : Nat → Nat} (hk : cn_KP D kept l) {t : Nat} (ht : t < 20) {m : Nat} {pa : Nat → Nat} {pads : Nat → Int32} (hp : cn_PA D t m pa pads) {f : Nat → Int64} {re : Nat → Int32} {nr : Nat → Int64} (hre : ∀ j, j < m → re j = 0) (hnr : ∀ j, j < m → (nr j).toInt = 9223372036854775807) :
    ∃ c f' re' nr', F_A_draw (nI 0) (nI m) f pads re nr D.x D.y D.ri D.hi kept = some (nI c, f', re', nr') ∧ cn_Lst D t l c f' := by
  have m60 := hp.m60
  unfold F_A_draw F_A_draw_0
  by_cases q : m = 0
  · rw [if_pos (by rw [q]; decide)]
    refine ⟨0, f, re, nr, rfl, by omega, fun i j _ hj => by omega, fun e => ⟨fun he => ?_, fun ⟨i, hi, _⟩ => by omega⟩⟩
    obtain ⟨x, y, hx, -⟩ := he
    obtain ⟨j, hj, -⟩ := hp.sur x hx
    omega
  · rw [if_neg (nI_ne0 (by omega) (by omega)), show (0 : Int32) = nI 0 by decide]
    obtain ⟨re', nr', e, h1, h2⟩ := cn_reach ok hk ht hp (q := 0) (by omega) re nr (Src := fun _ => False) (fun j hj _ => ⟨fun x hx => hx.elim, Or.inr (hnr j hj)⟩)
    rw [e]
    simp only [Option.bind_some]
    rw [show (1 : Int32) = nI 1 by decide]
    have h0 := hp.pd 0 (by omega)
    have lt1 : ∀ x, ((if l x = l (pa 0) then 0 else 1) < 1) ↔ l x = l (pa 0) := fun x => by
      by_cases z : l x = l (pa 0)
      · rw [if_pos z]; exact ⟨fun _ => z, fun _ => by omega⟩
      · rw [if_neg z]; exact ⟨fun w => by omega, fun w => absurd w z⟩
    refine cn_drawL ok hk ht hp (m - 1) 1 4096 (fun x => if l x = l (pa 0) then 0 else 1) (fun _ => 0) f re' nr' (by omega) (by omega) ⟨Nat.le_refl 1, ⟨fun x y _ _ z => ?_, fun x y _ _ z1 z2 => ?_, fun n n1 n2 => by omega, fun n n1 n2 => by omega⟩, fun x _ => ?_, fun j hj => ?_, fun j hj hr => ?_, ⟨pa 0, h0, (lt1 _).mpr rfl⟩, ?_, fun i j _ hj => by omega, fun n n1 n2 => by omega, fun i hi => by omega⟩
    · show (if l x = l (pa 0) then 0 else 1) = (if l y = l (pa 0) then 0 else 1)
      rw [z]
    · have w1 := (lt1 x).mp z2
      have z1 : (if l x = l (pa 0) then 0 else 1) = (if l y = l (pa 0) then 0 else 1) := z1
      have w2 := (lt1 y).mp (by rw [← z1]; exact z2)
      rw [w1, w2]
    · show (if l x = l (pa 0) then 0 else 1) ≤ 1
      split <;> omega
    · show re' j = if (if l (pa j) = l (pa 0) then 0 else 1) < 1 then 1 else 0
      rw [h1 j hj, hre j hj]
      by_cases z : l (pa j) = l (pa 0)
      · rw [if_pos z, if_pos ((lt1 _).mpr z)]
      · rw [if_neg z, if_neg (fun w => z ((lt1 _).mp w))]
    · refine (h2 j hj hr).cong (fun x => ⟨fun ⟨hx, w⟩ => Or.inr ⟨hx, (lt1 x).mp w⟩, fun w => ?_⟩)
      rcases w with w | ⟨hx, w⟩
      · exact w.elim
      · exact ⟨hx, (lt1 x).mpr w⟩
    · have := cn_ct_grow (p := fun _ => false) (q := fun j => decide (re' j ≠ 0)) m (fun j hj z => by cases z) ⟨0, by omega, by apply decide_eq_true; rw [h1 0 (by omega), if_pos rfl]; decide, rfl⟩
      omega
theorem cn_drawA {D : cn_Dat} (ok : D.ok) {kept : Nat → Int32} {l : Nat → Nat} (hk : cn_KP D kept l) {t : Nat} (ht : t < 20) {f : Nat → Int64} : ∀ (d i fuel m : Nat) (pa : Nat → Nat) (pads re : Nat → Int32) (nr : Nat → Int64), i + d = D.n → d < fuel → m ≤ i →
    (∀ j, j < m → pads j = nI (pa j) ∧ D.Pd t (pa j) ∧ re j = 0 ∧ (nr j).toInt = 9223372036854775807) → (∀ x, x < i → D.Pd t x → ∃ j, j < m ∧ pa j = x) →
    ∃ c m' f' pads' re' nr', F_X_drawAirlines_9 fuel D.nop (nI D.n) D.pin D.x D.y D.ri D.hi kept (nI 0) (nI m) f pads re nr (nI t) (nI i) = some (nI c, m', f', pads', re', nr') ∧ cn_Lst D t l c f' := by
  have n60 := ok.n60
  intro d
  induction d with
  | zero =>
    intro i fuel m pa pads re nr hi hf hm h1 h2
    obtain ⟨k, rfl⟩ : ∃ k, fuel = k + 1 := ⟨fuel - 1, by omega⟩
    rw [F_X_drawAirlines_9, if_pos ((cn_leI (by omega) (by omega)).mpr (by omega))]
    obtain ⟨c, f', re', nr', e, hL⟩ := cn_draw ok hk ht (m := m) (pa := pa) (pads := pads) ⟨by omega, fun j hj => (h1 j hj).1, fun j hj => (h1 j hj).2.1, fun x hx => h2 x (by have := ok.lt hx.1; omega) hx⟩ (f := f) (re := re) (nr := nr) (fun j hj => (h1 j hj).2.2.1) (fun j hj => (h1 j hj).2.2.2)
    rw [e]
    exact ⟨c, _, f', _, _, _, rfl, hL⟩
  | succ d ih =>
    intro i fuel m pa pads re nr hi hf hm h1 h2
    obtain ⟨k, rfl⟩ : ∃ k, fuel = k + 1 := ⟨fuel - 1, by omega⟩
    rw [F_X_drawAirlines_9, if_neg (fun z => by have := (cn_leI (by omega) (by omega)).mp z; omega)]
    unfold F_X_drawAirlines_48
    rw [nI_1]
    have skip : ¬ D.Pd t i → ∃ c m' f' pads' re' nr', F_X_drawAirlines_9 k D.nop (nI D.n) D.pin D.x D.y D.ri D.hi kept (nI 0) (nI m) f pads re nr (nI t) (nI (i + 1)) = some (nI c, m', f', pads', re', nr') ∧ cn_Lst D t l c f' := fun np =>
      ih (i + 1) k m pa pads re nr (by omega) (by omega) (by omega) h1 (fun x hx px => by
        rcases Nat.lt_or_ge x i with q | q
        · exact h2 x q px
        · exact absurd (by rw [← show x = i by omega]; exact px) np)
    by_cases s : D.S i
    · rw [cn_has1 (by omega) (by rw [hk.yes i s]; have := hk.le i s; exact cn_m1 (by omega))]
      simp only [Option.bind_some]
      rw [if_neg (by decide), cn_plX ok (by omega)]
      simp only [Option.bind_some]
      by_cases q : D.pl i = nI t
      · rw [if_pos q]
        unfold F_A_addPad F_A_addPad_0 F_A_addPad_51
        rw [cn_60, if_neg (fun z => by have := (cn_leI (by omega) (by omega)).mp z; omega), cn_rdI (by omega) (by omega), cn_rdI (by omega) (by omega), cn_rdI (by omega) (by omega), cn_ki (by omega), nI_1, cn_nar0]
        simp only [Option.bind_some]
        refine ih (i + 1) k (m + 1) (fun j => if j = m then i else pa j) _ _ _ (by omega) (by omega) (by omega) (fun j hj => ?_) (fun x hx px => ?_)
        · by_cases z : j = m
          · refine ⟨?_, ?_, ?_, ?_⟩
            · rw [cn_up, if_pos z]; show nI i = nI (if j = m then i else pa j); rw [if_pos z]
            · show D.Pd t (if j = m then i else pa j); rw [if_pos z]; exact ⟨s, q⟩
            · rw [cn_up, if_pos z]
            · rw [cn_upL, if_pos z]; decide
          · obtain ⟨g1, g2, g3, g4⟩ := h1 j (by omega)
            refine ⟨?_, ?_, ?_, ?_⟩
            · rw [cn_up, if_neg z, g1]; show nI (pa j) = nI (if j = m then i else pa j); rw [if_neg z]
            · show D.Pd t (if j = m then i else pa j); rw [if_neg z]; exact g2
            · rw [cn_up, if_neg z, g3]
            · rw [cn_upL, if_neg z, g4]
        · rcases Nat.lt_or_ge x i with z | z
          · obtain ⟨j, hj, ej⟩ := h2 x z px
            exact ⟨j, by omega, by show (if j = m then i else pa j) = x; rw [if_neg (by omega)]; exact ej⟩
          · exact ⟨m, by omega, by show (if m = m then i else pa m) = x; rw [if_pos rfl]; omega⟩
      · rw [if_neg q]
        exact skip (fun z => q z.2)
    · rw [cn_has0 (by omega) (hk.no i (by omega) s)]
      simp only [Option.bind_some]
      rw [if_pos (by simp)]
      exact skip (fun z => s z.1)
theorem cn_drawX {D : cn_Dat} (ok : D.ok) {kept : Nat → Int32} {l : Nat → Nat} (hk : cn_KP D kept l) {t : Nat} (ht : t < 20) (ac apc : Int32) (f : Nat → Int64) (pads re : Nat → Int32) (nr : Nat → Int64) :
    ∃ c m' f' pads' re' nr', F_X_drawAirlines D.nop (nI D.n) D.pin D.x D.y D.ri D.hi kept ac apc f pads re nr (nI t) = some (nI c, m', f', pads', re', nr') ∧ cn_Lst D t l c f' := by
  unfold F_X_drawAirlines F_X_drawAirlines_0 F_A_clear F_A_clear_0
  simp only [Option.bind_some]
  rw [show (0 : Int32) = nI 0 by decide]
  exact cn_drawA ok hk ht D.n 0 4096 0 id pads re nr (by omega) (by have := ok.n60; omega) (Nat.le_refl 0) (fun j hj => by omega) (fun x hx => by omega)
/-- a net's number, or both sides throw -/
theorem cn_netv (v : Int32) : (∃ t, t < 20 ∧ v = nI t ∧ F_X_isNet v = some 1 ∧ F_M_isNet v = some 1) ∨ (F_X_isNet v = some 0 ∧ F_M_isNet v = some 0) := by
  unfold F_X_isNet F_X_isNet_0 F_M_isNet F_M_isNet_0
  rcases cn_idx (n := 20) (by decide) v with ⟨t, h1, h2, h3, h4, h5⟩ | ⟨h1, h2⟩ | ⟨h1, h2, h3⟩
  · refine Or.inl ⟨t, h1, h2, ?_, ?_⟩
    · rw [if_neg h3, cn_20, if_neg h5]; rfl
    · rw [if_neg h3, cn_20, if_neg h5]; rfl
  · refine Or.inr ⟨?_, ?_⟩
    · rw [if_pos h1]; rfl
    · rw [if_pos h1]; rfl
  · refine Or.inr ⟨?_, ?_⟩
    · rw [if_neg h1, cn_20, if_pos h3]; rfl
    · rw [if_neg h1, cn_20, if_pos h3]; rfl
