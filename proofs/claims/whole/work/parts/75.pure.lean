/-! PURE: the law's loop, and its beginning -/
theorem cn_loop {L : Nat} (hL : L ≤ 5121) {xs : Nat → Int32} {Ly : Int32} : ∀ (d j fuel : Nat) (D : cn_Dat) (kept : Nat → Int32) (ac apc : Int32) (f : Nat → Int64) (pads re : Nat → Int32) (nr : Nat → Int64) (sp nb gb : Nat → Int32) (th : Int32) (aS : Int64) (aL aH : Int32) (lab num G : Nat → Int32) (out : Nat → Int64), j + d = 512 → d < fuel → D.ok → cn_Kept D kept → F_law_33 L xs fuel Ly D.nop (nI D.n) D.there D.fr D.to D.pin D.x D.y D.ri D.hi D.r kept ac apc f pads re nr sp nb gb th Ly (nI D.n) aS aL aH D.there D.fr D.to D.x D.y D.w D.h D.r D.pin D.nop lab num G out (nI (1 + 10 * j)) = some () := by
  have key : ∀ j, j ≤ 512 → ((Int32.ofNat L) - 10 < nI (1 + 10 * j) ↔ L < 11 + 10 * j) := fun j hj => by
    rw [show (Int32.ofNat L) - 10 = nI L - nI 10 from rfl, Int32.lt_iff_toInt_lt, pk_sub_toInt (by omega) (by decide), nI_toInt (by omega)]
    omega
  intro d
  induction d with
  | zero =>
    intro j fuel D kept ac apc f pads re nr sp nb gb th aS aL aH lab num G out hj hf ok hK
    obtain ⟨k, rfl⟩ : ∃ k, fuel = k + 1 := ⟨fuel - 1, by omega⟩
    rw [F_law_33, if_pos ((key j (by omega)).mpr (by omega))]
  | succ d ih =>
    intro j fuel D kept ac apc f pads re nr sp nb gb th aS aL aH lab num G out hj hf ok hK
    obtain ⟨k, rfl⟩ : ∃ k, fuel = k + 1 := ⟨fuel - 1, by omega⟩
    by_cases c : (Int32.ofNat L) - 10 < nI (1 + 10 * j)
    · rw [F_law_33, if_pos c]
    have c' : ¬ L < 11 + 10 * j := fun z => c ((key j (by omega)).mpr z)
    have hk : ∀ (D : cn_Dat) (kept : Nat → Int32) (ac apc : Int32) (f : Nat → Int64) (pads re : Nat → Int32) (nr : Nat → Int64) (sp nb gb : Nat → Int32) (th : Int32) (aS : Int64) (aL aH : Int32) (lab num G : Nat → Int32) (out : Nat → Int64), D.ok → cn_Kept D kept → F_law_33 L xs k Ly D.nop (nI D.n) D.there D.fr D.to D.pin D.x D.y D.ri D.hi D.r kept ac apc f pads re nr sp nb gb th Ly (nI D.n) aS aL aH D.there D.fr D.to D.x D.y D.w D.h D.r D.pin D.nop lab num G out (nI (1 + 10 * j) + 10) = some () := fun D kept ac apc f pads re nr sp nb gb th aS aL aH lab num G out ok hK => by
      have e : nI (1 + 10 * j) + 10 = nI (1 + 10 * (j + 1)) := by
        rw [show (10 : Int32) = nI 10 by decide, nI_add]
        congr 1
      rw [e]
      exact ih (j + 1) k D kept ac apc f pads re nr sp nb gb th aS aL aH lab num G out (by omega) (by omega) ok hK
    have H : cn_RD L (nI (1 + 10 * j)) := fun c hc α x => by
      rw [nI_add]
      exact cn_rdI (by omega) (by omega)
    rw [F_law_33, if_neg c, cn_rdI (by omega) (by omega)]
    by_cases z0 : (xs (Int32.toNatClampNeg (nI (1 + 10 * j)))) &&& 15 = 0
    · rw [if_pos z0]; exact cn_kshape hk H ok hK ac apc f pads re nr sp nb gb th aS aL aH lab num G out
    rw [if_neg z0]
    by_cases z1 : (xs (Int32.toNatClampNeg (nI (1 + 10 * j)))) &&& 15 = 1
    · rw [if_pos z1]; exact cn_kvia hk H ok hK ac apc f pads re nr sp nb gb th aS aL aH lab num G out
    rw [if_neg z1]
    by_cases z2 : (xs (Int32.toNatClampNeg (nI (1 + 10 * j)))) &&& 15 = 2
    · rw [if_pos z2]; exact cn_kpad hk H ok hK ac apc f pads re nr sp nb gb th aS aL aH lab num G out
    rw [if_neg z2]
    by_cases z3 : (xs (Int32.toNatClampNeg (nI (1 + 10 * j)))) &&& 15 = 3
    · rw [if_pos z3]; exact cn_kplans hk H ok hK ac apc f pads re nr sp nb gb th aS aL aH lab num G out
    rw [if_neg z3]
    by_cases z4 : (xs (Int32.toNatClampNeg (nI (1 + 10 * j)))) &&& 15 = 4
    · rw [if_pos z4]; exact cn_krun hk H ok hK ac apc f pads re nr sp nb gb th aS aL aH lab num G out
    rw [if_neg z4]
    by_cases z5 : (xs (Int32.toNatClampNeg (nI (1 + 10 * j)))) &&& 15 = 5
    · rw [if_pos z5]; exact cn_knetOf hk H ok hK ac apc f pads re nr sp nb gb th aS aL aH lab num G out
    rw [if_neg z5]
    by_cases z6 : (xs (Int32.toNatClampNeg (nI (1 + 10 * j)))) &&& 15 = 6
    · rw [if_pos z6]; exact cn_kopens hk H ok hK ac apc f pads re nr sp nb gb th aS aL aH lab num G out
    rw [if_neg z6]
    by_cases z7 : (xs (Int32.toNatClampNeg (nI (1 + 10 * j)))) &&& 15 = 7
    · rw [if_pos z7]; exact cn_kopen hk H ok hK ac apc f pads re nr sp nb gb th aS aL aH lab num G out
    rw [if_neg z7]
    by_cases z8 : (xs (Int32.toNatClampNeg (nI (1 + 10 * j)))) &&& 15 = 8
    · rw [if_pos z8]; exact cn_kshorts hk H ok hK ac apc f pads re nr sp nb gb th aS aL aH lab num G out
    rw [if_neg z8]
    by_cases z9 : (xs (Int32.toNatClampNeg (nI (1 + 10 * j)))) &&& 15 = 9
    · rw [if_pos z9]; exact cn_kshort2 hk H ok hK ac apc f pads re nr sp nb gb th aS aL aH lab num G out
    rw [if_neg z9]
    by_cases z10 : (xs (Int32.toNatClampNeg (nI (1 + 10 * j)))) &&& 15 = 10
    · rw [if_pos z10]; exact cn_kunnamed hk H ok hK ac apc f pads re nr sp nb gb th aS aL aH lab num G out
    rw [if_neg z10]
    by_cases z11 : (xs (Int32.toNatClampNeg (nI (1 + 10 * j)))) &&& 15 = 11
    · rw [if_pos z11]; exact cn_kline hk H ok hK ac apc f pads re nr sp nb gb th aS aL aH lab num G out
    rw [if_neg z11]
    by_cases z12 : (xs (Int32.toNatClampNeg (nI (1 + 10 * j)))) &&& 15 = 12
    · rw [if_pos z12]; exact cn_kdrop hk H ok hK ac apc f pads re nr sp nb gb th aS aL aH lab num G out
    rw [if_neg z12]
    by_cases z13 : (xs (Int32.toNatClampNeg (nI (1 + 10 * j)))) &&& 15 = 13
    · rw [if_pos z13]; exact cn_ksame hk H ok hK ac apc f pads re nr sp nb gb th aS aL aH lab num G out
    rw [if_neg z13]
    by_cases z14 : (xs (Int32.toNatClampNeg (nI (1 + 10 * j)))) &&& 15 = 14
    · rw [if_pos z14]; exact cn_kunreached hk H ok hK ac apc f pads re nr sp nb gb th aS aL aH lab num G out
    rw [if_neg z14]
    by_cases z15 : (xs (Int32.toNatClampNeg (nI (1 + 10 * j)))) &&& 15 = 15
    · rw [if_pos z15]; exact cn_kexact hk H ok hK ac apc f pads re nr sp nb gb th aS aL aH lab num G out
    rw [if_neg z15]
    exact hk D kept ac apc f pads re nr sp nb gb th aS aL aH lab num G out ok hK
theorem cn_minit : ∀ (d i fuel : Nat) (Ly : Int32) (f : Nat → Int32), i + d = 40 → d < fuel → ∃ g, F_M_init_135 fuel Ly f (nI i) = some (Ly, g) ∧ (∀ j, i ≤ j → j < 40 → g j = -1) ∧ ∀ j, j < i ∨ 40 ≤ j → g j = f j := by
  intro d
  induction d with
  | zero =>
    intro i fuel Ly f hi hf
    obtain ⟨k, rfl⟩ : ∃ k, fuel = k + 1 := ⟨fuel - 1, by omega⟩
    refine ⟨f, ?_, fun j h1 h2 => by omega, fun j _ => rfl⟩
    rw [F_M_init_135, cn_40, if_pos ((cn_leI (by omega) (by omega)).mpr (by omega))]
  | succ d ih =>
    intro i fuel Ly f hi hf
    obtain ⟨k, rfl⟩ : ∃ k, fuel = k + 1 := ⟨fuel - 1, by omega⟩
    obtain ⟨g, e, h1, h2⟩ := ih (i + 1) k Ly (upd f i (-1)) (by omega) (by omega)
    refine ⟨g, ?_, fun j hj hn => ?_, fun j hj => ?_⟩
    · rw [F_M_init_135, cn_40, if_neg (fun z => by rw [cn_leI (by omega) (by omega)] at z; omega), cn_rdI (by omega) (by omega), cn_ki (by omega), nI_1]
      exact e
    · rcases Nat.lt_or_ge i j with w | w
      · exact h1 j w hn
      · obtain rfl : j = i := by omega
        rw [h2 j (by omega), cn_up, if_pos rfl]
    · rw [h2 j (by omega), cn_up, if_neg (by omega)]
theorem cn_clamp (v : Int32) : ∃ Ly, ((F_jM_min_I 8 v).bind fun t => F_jM_max_I 1 t) = some Ly ∧ ∀ f, F_M_init_108 0 f v = F_M_init_130 0 f Ly := by
  unfold F_jM_min_I F_jM_min_I_0 F_jM_min_I_10 F_jM_max_I F_jM_max_I_0 F_jM_max_I_10 F_M_init_108
  have e1 : (1 : Int32).toInt = 1 := by decide
  have e8 : (8 : Int32).toInt = 8 := by decide
  by_cases a : v < 8
  · have a' := Int32.lt_iff_toInt_lt.mp a
    rw [if_pos a, Option.bind_some]
    by_cases b : 1 < v
    · have b' := Int32.lt_iff_toInt_lt.mp b
      refine ⟨v, by rw [if_pos b], fun f => ?_⟩
      rw [if_pos (Int32.le_iff_toInt_le.mpr (by omega)), if_pos (Int32.le_iff_toInt_le.mpr (by omega))]
    · have b' : ¬ (1 : Int32).toInt < v.toInt := fun z => b (Int32.lt_iff_toInt_lt.mpr z)
      refine ⟨1, by rw [if_neg b], fun f => ?_⟩
      by_cases c : 1 ≤ v
      · have c' := Int32.le_iff_toInt_le.mp c
        have e : v = 1 := Int32.toInt_inj.mp (by omega)
        rw [if_pos c, e, if_pos (by decide)]
      · rw [if_neg c]
  · have a' : ¬ v.toInt < (8 : Int32).toInt := fun z => a (Int32.lt_iff_toInt_lt.mpr z)
    rw [if_neg a, Option.bind_some]
    refine ⟨8, by rw [if_pos (by decide)], fun f => ?_⟩
    rw [if_pos (Int32.le_iff_toInt_le.mpr (by omega))]
    by_cases c : v ≤ 8
    · have c' := Int32.le_iff_toInt_le.mp c
      have e : v = 8 := Int32.toInt_inj.mp (by omega)
      rw [if_pos c, e]
    · rw [if_neg c]
theorem cn_z1 : -100000 ≤ (0 : Int64).toInt ∧ (0 : Int64).toInt ≤ 100000 := by decide
theorem cn_pure {L : Nat} (hL : L ≤ 5121) (xs : Nat → Int32) : F_law L xs = some () := by
  obtain ⟨g1, e1, h1⟩ := cn_clear (fun _ => 0)
  obtain ⟨np, e2, h2, h3⟩ := cn_fill (N := 40) (by decide) (-1) 40 0 4096 (fun _ => 0) rfl (by decide)
  obtain ⟨Ly, e4, e5⟩ := cn_clamp (cn_cell0 L xs)
  obtain ⟨np', e6, h6, h7⟩ := cn_minit 40 0 4096 Ly (fun _ => 0) rfl (by decide)
  have en : np' = np := by
    funext j
    rcases Nat.lt_or_ge j 40 with w | w
    · rw [h6 j (by omega) w, h2 j (by omega) w]
    · rw [h7 j (Or.inr w), h3 j (Or.inr w)]
  have eX : F_X_init (cn_cell0 L xs) = some (Ly, np, g1, g1) := by
    unfold F_X_init F_G_init
    rw [e1, Option.bind_some, Option.bind_some, Option.bind_some]
    have e7 : F_jA_fill 40 (fun _ => 0) (-1) = some np := by
      unfold F_jA_fill F_jA_fill_0
      rw [show Int32.ofNat 40 = nI 40 from rfl]
      exact e2
    rw [e7]
    revert e4
    cases F_jM_min_I 8 (cn_cell0 L xs) with
    | none => intro z; exact absurd z (by simp)
    | some t =>
      rw [Option.bind_some, Option.bind_some]
      intro z
      rw [z]
      rfl
  have eM : F_M_init (cn_cell0 L xs) = some (Ly, np) := by
    show F_M_init_108 0 (fun _ => 0) (cn_cell0 L xs) = _
    rw [e5, ← en]
    unfold F_M_init_130
    rw [cn_00]
    exact e6
  unfold F_law
  rw [eX, eM, Option.bind_some, Option.bind_some]
  have ok0 : (cn_Dat.mk 0 (fun _ => 0) (fun _ => 0) (fun _ => 0) (fun _ => 0) np (fun _ => 0) (fun _ => 0) (fun _ => 0) (fun _ => 0) (fun _ => 0)).ok := by
    refine ⟨Nat.zero_le _, fun _ => Or.inl rfl, fun _ _ => rfl, fun _ => Or.inr ⟨0, by decide, rfl⟩, fun k => ?_, fun _ => cn_z1, fun _ => cn_z1, fun _ => cn_zero64, fun _ => cn_zero64, fun _ _ => ⟨rfl, rfl⟩⟩
    rcases Nat.lt_or_ge k 40 with w | w
    · exact Or.inl (h2 k (by omega) w)
    · exact Or.inr ⟨0, by decide, h3 k (Or.inr w)⟩
  have hK0 : cn_Kept (cn_Dat.mk 0 (fun _ => 0) (fun _ => 0) (fun _ => 0) (fun _ => 0) np (fun _ => 0) (fun _ => 0) (fun _ => 0) (fun _ => 0) (fun _ => 0)) g1 :=
    ⟨id, cn_repS (cn_repE h1) (fun i => ⟨fun z => z.elim, fun z => z rfl⟩), cn_sets cn_empty (fun i => ⟨fun z => z.elim, fun z => z rfl⟩)⟩
  generalize hfu : (513 : Nat) = fuel
  have eri : (fun _ => 0 : Nat → Int64) = (cn_Dat.mk 0 (fun _ => 0) (fun _ => 0) (fun _ => 0) (fun _ => 0) np (fun _ => 0) (fun _ => 0) (fun _ => 0) (fun _ => 0) (fun _ => 0)).ri := by
    funext i
    show (0 : Int64) = 0 + 0
    decide
  have go := cn_loop hL (xs := xs) (Ly := Ly) 512 0 fuel (cn_Dat.mk 0 (fun _ => 0) (fun _ => 0) (fun _ => 0) (fun _ => 0) np (fun _ => 0) (fun _ => 0) (fun _ => 0) (fun _ => 0) (fun _ => 0)) g1 0 0 (fun _ => 0) (fun _ => 0) (fun _ => 0) (fun _ => 0) g1 (fun _ => 0) (fun _ => 0) 0 0 0 0 (fun _ => 0) (fun _ => 0) (fun _ => 0) (fun _ => 0) (by decide) (by omega) ok0 hK0
  have ehi : (cn_Dat.mk 0 (fun _ => 0) (fun _ => 0) (fun _ => 0) (fun _ => 0) np (fun _ => 0) (fun _ => 0) (fun _ => 0) (fun _ => 0) (fun _ => 0)).hi = (fun _ => 0 : Nat → Int64) := eri.symm
  rw [← eri, ehi] at go
  exact go
