/-! java/util/Arrays.fill([II)V -/
abbrev r_jA_fill : Room := { frames := 0, cells := 0, slots := 0, locals := 0 }
abbrev w_jA_fill (cy : Nat → ClassId) (A_r0 : Nat) (N_r0 : Nat) (r0 : Nat → Int32) : va_W := [(A_r0, .inl (cy 0, N_r0, .inl r0))]
theorem hs_jA_fill : y_jA_fill.cls ≠ "java/lang/invoke/MethodHandle" ∧ y_jA_fill.cls ≠ "java/lang/invoke/VarHandle" ∧ (parseMethodDescriptor y_jA_fill.desc).map (fun d => d.parameters.length) = some 2 := by decide +kernel
def F_jA_fill_5 (N_r0 : Nat) : Nat → (Nat → Int32) → Int32 → Int32 → Int32 → Option ((Nat → Int32))
  | 0, _, _, _, _ => none
  | n + 1, r0, v1, v2, v3 => if v3 ≤ v2 then (some (r0)) else (cn_rd v2 N_r0 (F_jA_fill_5 N_r0 n (upd r0 (Int32.toNatClampNeg v2) v1) v1 (v2 + 1) v3))
set_option maxRecDepth 100000 in
set_option maxHeartbeats 4000000 in
theorem t_jA_fill_5 {p : Program} {l : Launch} {e : Env} {s : State} {m : MethodId} {args : Array Value} {below : List Frame} {meth : Method} {c : Code} {D : va_G} {cy : Nat → ClassId} {A : Nat → Prop} {out : (Nat → Int32)} (C : cn_X p s m args c b_jA_fill 4 "java/util/Arrays" D cy) (hr : meth.sig.returnType = none) (hlk : meth.locks = false) (hA : ∀ q, s.heap.size ≤ q → A q) (A_r0 : Nat) (N_r0 : Nat) : ∀ (n : Nat) (r0 : Nat → Int32) (v1 : Int32) (v2 : Int32) (v3 : Int32), F_jA_fill_5 N_r0 n r0 v1 v2 v3 = some out → cg p l e r_jA_fill s m args below meth c D (va_S A s.heap) A 4 0 0 (MQ below (cn_QW none D (w_jA_fill cy A_r0 N_r0 out) A) args s 0 0 A) (w_jA_fill cy A_r0 N_r0 r0) 5 [(0, .ref A_r0), (1, .int v1), (2, .int v2), (3, .int v3)] [] := by
  intro n
  induction n with
  | zero => intro r0 v1 v2 v3 hF; exact nomatch (show (none : Option ((Nat → Int32))) = some out from hF)
  | succ n ih =>
    intro r0 v1 v2 v3 hF
    refine cg_iload_n C d_jA_fill_5 2 rfl ?_
    refine cg_iload_n C d_jA_fill_6 3 rfl ?_
    refine cg_icmp_ge C 20 d_jA_fill_7 (by decide) (fun q_1 => ?_) (fun q_1 => ?_)
    · have hF := cn_pos q_1 hF
      obtain rfl := Option.some.inj hF
      exact cg_vretW C hr hlk d_jA_fill_20
    · have hF := cn_neg q_1 hF
      refine cg_aload_n C d_jA_fill_10 0 rfl ?_
      refine cg_iload_n C d_jA_fill_11 2 rfl ?_
      refine cg_iload_n C d_jA_fill_12 1 rfl ?_
      obtain ⟨i_2, hF⟩ := cn_rd_some hF
      refine cg_iast (ws' := w_jA_fill cy A_r0 N_r0 (upd r0 (Int32.toNatClampNeg v2) v1)) C 0 d_jA_fill_13 rfl i_2 rfl ?_
      refine cg_iinc (v := v2 + 1) (lv' := [(2, .int (v2 + 1)), (0, .ref A_r0), (1, .int v1), (3, .int v3)]) C d_jA_fill_14 2 rfl (by decide) rfl rfl ?_
      refine cg_goto C 5 d_jA_fill_17 (by decide) ?_
      refine cg_sub (lv' := [(0, .ref A_r0), (1, .int v1), (2, .int (v2 + 1)), (3, .int v3)]) [1, 2, 0, 3] rfl ?_
      exact ih (upd r0 (Int32.toNatClampNeg v2) v1) v1 (v2 + 1) v3 hF
def F_jA_fill_0 (N_r0 : Nat) (r0 : Nat → Int32) (v1 : Int32) : Option ((Nat → Int32)) := F_jA_fill_5 N_r0 4096 r0 v1 0 (Int32.ofNat N_r0)
set_option maxRecDepth 100000 in
set_option maxHeartbeats 4000000 in
theorem t_jA_fill_0 {p : Program} {l : Launch} {e : Env} {s : State} {m : MethodId} {args : Array Value} {below : List Frame} {meth : Method} {c : Code} {D : va_G} {cy : Nat → ClassId} {A : Nat → Prop} {out : (Nat → Int32)} (C : cn_X p s m args c b_jA_fill 4 "java/util/Arrays" D cy) (hr : meth.sig.returnType = none) (hlk : meth.locks = false) (hA : ∀ q, s.heap.size ≤ q → A q) (A_r0 : Nat) (N_r0 : Nat) (r0 : Nat → Int32) (v1 : Int32) (hF : F_jA_fill_0 N_r0 r0 v1 = some out) : cg p l e r_jA_fill s m args below meth c D (va_S A s.heap) A 4 0 0 (MQ below (cn_QW none D (w_jA_fill cy A_r0 N_r0 out) A) args s 0 0 A) (w_jA_fill cy A_r0 N_r0 r0) 0 [(0, .ref A_r0), (1, .int v1)] [] := by
  refine cg_iconst (v := 0) C d_jA_fill_0 (by decide) ?_
  refine cg_istore_n (lv' := [(2, .int 0), (0, .ref A_r0), (1, .int v1)]) C d_jA_fill_1 (by decide) rfl ?_
  refine cg_aload_n C d_jA_fill_2 1 rfl ?_
  refine cg_alen C 0 0 d_jA_fill_3 rfl rfl rfl ?_
  refine cg_istore_n (lv' := [(3, .int (Int32.ofNat N_r0)), (2, .int 0), (0, .ref A_r0), (1, .int v1)]) C d_jA_fill_4 (by decide) rfl ?_
  refine cg_sub (lv' := [(0, .ref A_r0), (1, .int v1), (2, .int 0), (3, .int (Int32.ofNat N_r0))]) [2, 3, 1, 0] rfl ?_
  exact t_jA_fill_5 C hr hlk hA A_r0 N_r0 4096 r0 v1 0 (Int32.ofNat N_r0) hF
abbrev F_jA_fill (N_r0 : Nat) (r0 : Nat → Int32) (v1 : Int32) : Option ((Nat → Int32)) := F_jA_fill_0 N_r0 r0 v1
theorem c_jA_fill {l : Launch} {D : va_G} {cy : Nat → ClassId} (A_r0 : Nat) (N_r0 : Nat) (r0 : Nat → Int32) (v1 : Int32) {out : (Nat → Int32)} (hF : F_jA_fill N_r0 r0 v1 = some out) : cn_MW l y_jA_fill b_jA_fill 4 (none) r_jA_fill D cy [.ref A_r0, .int v1] (w_jA_fill cy A_r0 N_r0 r0) none (w_jA_fill cy A_r0 N_r0 out) 0 0 :=
  cn_MW.of (by decide +kernel) (Nat.le_of_ble_eq_true rfl) (fun p e s m below meth c A C hr hlk hA => t_jA_fill_0 C hr hlk hA A_r0 N_r0 r0 v1 hF)
/-! CopperNets$Groups.clear()V -/
abbrev r_G_clear : Room := { frames := 1, cells := 0, slots := 0, locals := 23 }
abbrev w_G_clear (cy : Nat → ClassId) (A_g : Nat) (A_g_leader : Nat) (g_leader : Nat → Int32) : va_W := [(A_g, .inr (2, [.ref A_g_leader])), (A_g_leader, .inl (cy 0, 60, .inl g_leader))]
theorem hs_G_clear : y_G_clear.cls ≠ "java/lang/invoke/MethodHandle" ∧ y_G_clear.cls ≠ "java/lang/invoke/VarHandle" ∧ (parseMethodDescriptor y_G_clear.desc).map (fun d => d.parameters.length) = some 0 := by decide +kernel
def F_G_clear_0 (g_leader : Nat → Int32) : Option ((Nat → Int32)) := (F_jA_fill 60 g_leader (-1)).bind fun t_2 => some (t_2)
set_option maxRecDepth 100000 in
set_option maxHeartbeats 4000000 in
theorem t_G_clear_0 {p : Program} {l : Launch} {e : Env} {s : State} {m : MethodId} {args : Array Value} {below : List Frame} {meth : Method} {c : Code} {D : va_G} {cy : Nat → ClassId} {A : Nat → Prop} {out : (Nat → Int32)} (C : cn_X p s m args c b_G_clear 1 "CopperNets$Groups" D cy) (hr : meth.sig.returnType = none) (hlk : meth.locks = false) (hA : ∀ q, s.heap.size ≤ q → A q) (A_g : Nat) (A_g_leader : Nat) (g_leader : Nat → Int32) (hF : F_G_clear_0 g_leader = some out) : cg p l e r_G_clear s m args below meth c D (va_S A s.heap) A 1 0 0 (MQ below (cn_QW none D (w_G_clear cy A_g A_g_leader out) A) args s 0 0 A) (w_G_clear cy A_g A_g_leader g_leader) 0 [(0, .ref A_g)] [] := by
  refine cg_aload_n C d_G_clear_0 0 rfl ?_
  refine cg_get C 0 0 d_G_clear_1 rfl rfl hin_G (by decide) rfl tw_77 rfl ?_
  refine cg_iconst (v := (-1)) C d_G_clear_4 (by decide) ?_
  obtain ⟨t_2, h_1, hF⟩ := cn_bind hF
  refine cg_callWS C hA (c_jA_fill A_g_leader 60 g_leader (-1) h_1) [1] [0] [0, 1] [(A_g, .inr (2, [.ref A_g_leader]))] (w_G_clear cy A_g A_g_leader t_2) rfl rfl rfl ⟨by decide, by decide, by decide, by decide⟩ d_G_clear_5 tw_74 tw_75 tw_4 tw_76 hs_jA_fill ⟨by decide, by decide⟩ rfl rfl ⟨by decide, by decide⟩ (Nat.le_of_ble_eq_true rfl) rfl rfl ?_
  obtain rfl := Option.some.inj hF
  exact cg_vretW C hr hlk d_G_clear_8
abbrev F_G_clear (g_leader : Nat → Int32) : Option ((Nat → Int32)) := F_G_clear_0 g_leader
theorem c_G_clear {l : Launch} {D : va_G} {cy : Nat → ClassId} (A_g : Nat) (A_g_leader : Nat) (g_leader : Nat → Int32) {out : (Nat → Int32)} (hF : F_G_clear g_leader = some out) : cn_MW l y_G_clear b_G_clear 1 (none) r_G_clear D cy [.ref A_g] (w_G_clear cy A_g A_g_leader g_leader) none (w_G_clear cy A_g A_g_leader out) 0 0 :=
  cn_MW.of (by decide +kernel) (Nat.le_of_ble_eq_true rfl) (fun p e s m below meth c A C hr hlk hA => t_G_clear_0 C hr hlk hA A_g A_g_leader g_leader hF)
/-! CopperNets$Groups.leaderOf(I)I -/
abbrev r_G_leaderOf : Room := { frames := 0, cells := 0, slots := 0, locals := 0 }
abbrev w_G_leaderOf (cy : Nat → ClassId) (A_g : Nat) (A_g_leader : Nat) (g_leader : Nat → Int32) : va_W := [(A_g, .inr (2, [.ref A_g_leader])), (A_g_leader, .inl (cy 0, 60, .inl g_leader))]
theorem hs_G_leaderOf : y_G_leaderOf.cls ≠ "java/lang/invoke/MethodHandle" ∧ y_G_leaderOf.cls ≠ "java/lang/invoke/VarHandle" ∧ (parseMethodDescriptor y_G_leaderOf.desc).map (fun d => d.parameters.length) = some 1 := by decide +kernel
def F_G_leaderOf_0 (g_leader : Nat → Int32) (v1 : Int32) : Option (Int32) := cn_rd v1 60 (some ((g_leader (Int32.toNatClampNeg v1))))
set_option maxRecDepth 100000 in
set_option maxHeartbeats 4000000 in
theorem t_G_leaderOf_0 {p : Program} {l : Launch} {e : Env} {s : State} {m : MethodId} {args : Array Value} {below : List Frame} {meth : Method} {c : Code} {D : va_G} {cy : Nat → ClassId} {out : Int32} (C : cn_X p s m args c b_G_leaderOf 2 "CopperNets$Groups" D cy) (hr : meth.sig.returnType = some .int) (hlk : meth.locks = false) (A_g : Nat) (A_g_leader : Nat) (g_leader : Nat → Int32) (v1 : Int32) (hF : F_G_leaderOf_0 g_leader v1 = some out) : cg p l e r_G_leaderOf s m args below meth c D (cn_hi s) (fun _ => True) 2 0 0 (MQ below (cn_QR (some (.int out))) args s 0 0 (fun _ => False)) (w_G_leaderOf cy A_g A_g_leader g_leader) 0 [(0, .ref A_g), (1, .int v1)] [] := by
  refine cg_aload_n C d_G_leaderOf_0 0 rfl ?_
  refine cg_get C 0 0 d_G_leaderOf_1 rfl rfl hin_G (by decide) rfl tw_77 rfl ?_
  refine cg_iload_n C d_G_leaderOf_4 1 rfl ?_
  obtain ⟨i_1, hF⟩ := cn_rd_some hF
  refine cg_iald C 1 d_G_leaderOf_5 rfl i_1 ?_
  obtain rfl := Option.some.inj hF
  exact cg_iretR C hr hlk d_G_leaderOf_6
abbrev F_G_leaderOf (g_leader : Nat → Int32) (v1 : Int32) : Option (Int32) := F_G_leaderOf_0 g_leader v1
theorem c_G_leaderOf {l : Launch} {D : va_G} {cy : Nat → ClassId} (A_g : Nat) (A_g_leader : Nat) (g_leader : Nat → Int32) (v1 : Int32) {out : Int32} (hF : F_G_leaderOf g_leader v1 = some out) : cn_MR l y_G_leaderOf b_G_leaderOf 2 (some .int) r_G_leaderOf D cy [.ref A_g, .int v1] (w_G_leaderOf cy A_g A_g_leader g_leader) (some (.int out)) :=
  cn_MR.of (by decide +kernel) (Nat.le_of_ble_eq_true rfl) (fun p e s m below meth c C hr hlk => t_G_leaderOf_0 C hr hlk A_g A_g_leader g_leader v1 hF)
/-! CopperNets$Groups.has(I)Z -/
abbrev r_G_has : Room := { frames := 0, cells := 0, slots := 0, locals := 0 }
abbrev w_G_has (cy : Nat → ClassId) (A_g : Nat) (A_g_leader : Nat) (g_leader : Nat → Int32) : va_W := [(A_g, .inr (2, [.ref A_g_leader])), (A_g_leader, .inl (cy 0, 60, .inl g_leader))]
theorem hs_G_has : y_G_has.cls ≠ "java/lang/invoke/MethodHandle" ∧ y_G_has.cls ≠ "java/lang/invoke/VarHandle" ∧ (parseMethodDescriptor y_G_has.desc).map (fun d => d.parameters.length) = some 1 := by decide +kernel
def F_G_has_15 (g_leader : Nat → Int32) (s0 : Int32) : Option (Int32) := cn_bl s0 (some (s0))
set_option maxRecDepth 100000 in
set_option maxHeartbeats 4000000 in
theorem t_G_has_15 {p : Program} {l : Launch} {e : Env} {s : State} {m : MethodId} {args : Array Value} {below : List Frame} {meth : Method} {c : Code} {D : va_G} {cy : Nat → ClassId} {out : Int32} (C : cn_X p s m args c b_G_has 2 "CopperNets$Groups" D cy) (hr : meth.sig.returnType = some .boolean) (hlk : meth.locks = false) (A_g : Nat) (A_g_leader : Nat) (g_leader : Nat → Int32) (s0 : Int32) (hF : F_G_has_15 g_leader s0 = some out) : cg p l e r_G_has s m args below meth c D (cn_hi s) (fun _ => True) 2 0 0 (MQ below (cn_QR (some (.int out))) args s 0 0 (fun _ => False)) (w_G_has cy A_g A_g_leader g_leader) 15 [] [.int s0] := by
  obtain ⟨hz, hF⟩ := cn_bl_some hF
  obtain rfl := Option.some.inj hF
  exact cg_zretR C hr hz hlk d_G_has_15
def F_G_has_0 (g_leader : Nat → Int32) (v1 : Int32) : Option (Int32) := cn_rd v1 60 (if (g_leader (Int32.toNatClampNeg v1)) = (-1) then (F_G_has_15 g_leader 0) else (F_G_has_15 g_leader 1))
set_option maxRecDepth 100000 in
set_option maxHeartbeats 4000000 in
theorem t_G_has_0 {p : Program} {l : Launch} {e : Env} {s : State} {m : MethodId} {args : Array Value} {below : List Frame} {meth : Method} {c : Code} {D : va_G} {cy : Nat → ClassId} {out : Int32} (C : cn_X p s m args c b_G_has 2 "CopperNets$Groups" D cy) (hr : meth.sig.returnType = some .boolean) (hlk : meth.locks = false) (A_g : Nat) (A_g_leader : Nat) (g_leader : Nat → Int32) (v1 : Int32) (hF : F_G_has_0 g_leader v1 = some out) : cg p l e r_G_has s m args below meth c D (cn_hi s) (fun _ => True) 2 0 0 (MQ below (cn_QR (some (.int out))) args s 0 0 (fun _ => False)) (w_G_has cy A_g A_g_leader g_leader) 0 [(0, .ref A_g), (1, .int v1)] [] := by
  refine cg_aload_n C d_G_has_0 0 rfl ?_
  refine cg_get C 0 0 d_G_has_1 rfl rfl hin_G (by decide) rfl tw_77 rfl ?_
  refine cg_iload_n C d_G_has_4 1 rfl ?_
  obtain ⟨i_1, hF⟩ := cn_rd_some hF
  refine cg_iald C 1 d_G_has_5 rfl i_1 ?_
  refine cg_iconst (v := (-1)) C d_G_has_6 (by decide) ?_
  refine cg_icmp_eq C 14 d_G_has_7 (by decide) (fun q_2 => ?_) (fun q_2 => ?_)
  · have hF := cn_pos q_2 hF
    refine cg_iconst (v := 0) C d_G_has_14 (by decide) ?_
    refine cg_sub (lv' := []) [] rfl ?_
    exact t_G_has_15 C hr hlk A_g A_g_leader g_leader 0 hF
  · have hF := cn_neg q_2 hF
    refine cg_iconst (v := 1) C d_G_has_10 (by decide) ?_
    refine cg_goto C 15 d_G_has_11 (by decide) ?_
    refine cg_sub (lv' := []) [] rfl ?_
    exact t_G_has_15 C hr hlk A_g A_g_leader g_leader 1 hF
abbrev F_G_has (g_leader : Nat → Int32) (v1 : Int32) : Option (Int32) := F_G_has_0 g_leader v1
theorem c_G_has {l : Launch} {D : va_G} {cy : Nat → ClassId} (A_g : Nat) (A_g_leader : Nat) (g_leader : Nat → Int32) (v1 : Int32) {out : Int32} (hF : F_G_has g_leader v1 = some out) : cn_MR l y_G_has b_G_has 2 (some .boolean) r_G_has D cy [.ref A_g, .int v1] (w_G_has cy A_g A_g_leader g_leader) (some (.int out)) :=
  cn_MR.of (by decide +kernel) (Nat.le_of_ble_eq_true rfl) (fun p e s m below meth c C hr hlk => t_G_has_0 C hr hlk A_g A_g_leader g_leader v1 hF)
/-! CopperNets$Pieces.pinOf(I)I -/
abbrev r_P_pinOf : Room := { frames := 0, cells := 0, slots := 0, locals := 0 }
abbrev w_P_pinOf (cy : Nat → ClassId) (A_p : Nat) (A_p_there : Nat) (A_p_from : Nat) (A_p_to : Nat) (A_p_pin : Nat) (A_p_left : Nat) (A_p_low : Nat) (A_p_right : Nat) (A_p_high : Nat) (A_p_rim : Nat) (p_count : Int32) (p_pin : Nat → Int32) : va_W := [(A_p, .inr (3, [.int p_count, .ref A_p_there, .ref A_p_from, .ref A_p_to, .ref A_p_pin, .ref A_p_left, .ref A_p_low, .ref A_p_right, .ref A_p_high, .ref A_p_rim])), (A_p_pin, .inl (cy 0, 60, .inl p_pin))]
theorem hs_P_pinOf : y_P_pinOf.cls ≠ "java/lang/invoke/MethodHandle" ∧ y_P_pinOf.cls ≠ "java/lang/invoke/VarHandle" ∧ (parseMethodDescriptor y_P_pinOf.desc).map (fun d => d.parameters.length) = some 1 := by decide +kernel
def F_P_pinOf_0 (p_pin : Nat → Int32) (v1 : Int32) : Option (Int32) := cn_rd v1 60 (some ((p_pin (Int32.toNatClampNeg v1))))
set_option maxRecDepth 100000 in
set_option maxHeartbeats 4000000 in
theorem t_P_pinOf_0 {p : Program} {l : Launch} {e : Env} {s : State} {m : MethodId} {args : Array Value} {below : List Frame} {meth : Method} {c : Code} {D : va_G} {cy : Nat → ClassId} {out : Int32} (C : cn_X p s m args c b_P_pinOf 2 "CopperNets$Pieces" D cy) (hr : meth.sig.returnType = some .int) (hlk : meth.locks = false) (A_p : Nat) (A_p_there : Nat) (A_p_from : Nat) (A_p_to : Nat) (A_p_pin : Nat) (A_p_left : Nat) (A_p_low : Nat) (A_p_right : Nat) (A_p_high : Nat) (A_p_rim : Nat) (p_count : Int32) (p_pin : Nat → Int32) (v1 : Int32) (hF : F_P_pinOf_0 p_pin v1 = some out) : cg p l e r_P_pinOf s m args below meth c D (cn_hi s) (fun _ => True) 2 0 0 (MQ below (cn_QR (some (.int out))) args s 0 0 (fun _ => False)) (w_P_pinOf cy A_p A_p_there A_p_from A_p_to A_p_pin A_p_left A_p_low A_p_right A_p_high A_p_rim p_count p_pin) 0 [(0, .ref A_p), (1, .int v1)] [] := by
  refine cg_aload_n C d_P_pinOf_0 0 rfl ?_
  refine cg_get C 0 4 d_P_pinOf_1 rfl rfl hin_P (by decide) rfl tw_34 rfl ?_
  refine cg_iload_n C d_P_pinOf_4 1 rfl ?_
  obtain ⟨i_1, hF⟩ := cn_rd_some hF
  refine cg_iald C 1 d_P_pinOf_5 rfl i_1 ?_
  obtain rfl := Option.some.inj hF
  exact cg_iretR C hr hlk d_P_pinOf_6
abbrev F_P_pinOf (p_pin : Nat → Int32) (v1 : Int32) : Option (Int32) := F_P_pinOf_0 p_pin v1
theorem c_P_pinOf {l : Launch} {D : va_G} {cy : Nat → ClassId} (A_p : Nat) (A_p_there : Nat) (A_p_from : Nat) (A_p_to : Nat) (A_p_pin : Nat) (A_p_left : Nat) (A_p_low : Nat) (A_p_right : Nat) (A_p_high : Nat) (A_p_rim : Nat) (p_count : Int32) (p_pin : Nat → Int32) (v1 : Int32) {out : Int32} (hF : F_P_pinOf p_pin v1 = some out) : cn_MR l y_P_pinOf b_P_pinOf 2 (some .int) r_P_pinOf D cy [.ref A_p, .int v1] (w_P_pinOf cy A_p A_p_there A_p_from A_p_to A_p_pin A_p_left A_p_low A_p_right A_p_high A_p_rim p_count p_pin) (some (.int out)) :=
  cn_MR.of (by decide +kernel) (Nat.le_of_ble_eq_true rfl) (fun p e s m below meth c C hr hlk => t_P_pinOf_0 C hr hlk A_p A_p_there A_p_from A_p_to A_p_pin A_p_left A_p_low A_p_right A_p_high A_p_rim p_count p_pin v1 hF)
/-! CopperNets$Pieces.isThere(I)Z -/
abbrev r_P_isThere : Room := { frames := 0, cells := 0, slots := 0, locals := 0 }
abbrev w_P_isThere (cy : Nat → ClassId) (A_p : Nat) (A_p_there : Nat) (A_p_from : Nat) (A_p_to : Nat) (A_p_pin : Nat) (A_p_left : Nat) (A_p_low : Nat) (A_p_right : Nat) (A_p_high : Nat) (A_p_rim : Nat) (p_count : Int32) (p_there : Nat → Int32) : va_W := [(A_p, .inr (3, [.int p_count, .ref A_p_there, .ref A_p_from, .ref A_p_to, .ref A_p_pin, .ref A_p_left, .ref A_p_low, .ref A_p_right, .ref A_p_high, .ref A_p_rim])), (A_p_there, .inl (cy 2, 60, .inl p_there))]
theorem hs_P_isThere : y_P_isThere.cls ≠ "java/lang/invoke/MethodHandle" ∧ y_P_isThere.cls ≠ "java/lang/invoke/VarHandle" ∧ (parseMethodDescriptor y_P_isThere.desc).map (fun d => d.parameters.length) = some 1 := by decide +kernel
def F_P_isThere_0 (p_there : Nat → Int32) (v1 : Int32) : Option (Int32) := cn_rd v1 60 (cn_bl (p_there (Int32.toNatClampNeg v1)) (some ((p_there (Int32.toNatClampNeg v1)))))
set_option maxRecDepth 100000 in
set_option maxHeartbeats 4000000 in
theorem t_P_isThere_0 {p : Program} {l : Launch} {e : Env} {s : State} {m : MethodId} {args : Array Value} {below : List Frame} {meth : Method} {c : Code} {D : va_G} {cy : Nat → ClassId} {out : Int32} (C : cn_X p s m args c b_P_isThere 2 "CopperNets$Pieces" D cy) (hr : meth.sig.returnType = some .boolean) (hlk : meth.locks = false) (A_p : Nat) (A_p_there : Nat) (A_p_from : Nat) (A_p_to : Nat) (A_p_pin : Nat) (A_p_left : Nat) (A_p_low : Nat) (A_p_right : Nat) (A_p_high : Nat) (A_p_rim : Nat) (p_count : Int32) (p_there : Nat → Int32) (v1 : Int32) (hF : F_P_isThere_0 p_there v1 = some out) : cg p l e r_P_isThere s m args below meth c D (cn_hi s) (fun _ => True) 2 0 0 (MQ below (cn_QR (some (.int out))) args s 0 0 (fun _ => False)) (w_P_isThere cy A_p A_p_there A_p_from A_p_to A_p_pin A_p_left A_p_low A_p_right A_p_high A_p_rim p_count p_there) 0 [(0, .ref A_p), (1, .int v1)] [] := by
  refine cg_aload_n C d_P_isThere_0 0 rfl ?_
  refine cg_get C 0 1 d_P_isThere_1 rfl rfl hin_P (by decide) rfl tw_31 rfl ?_
  refine cg_iload_n C d_P_isThere_4 1 rfl ?_
  obtain ⟨i_1, hF⟩ := cn_rd_some hF
  refine cg_zald C 1 d_P_isThere_5 rfl i_1 ?_
  obtain ⟨hz, hF⟩ := cn_bl_some hF
  obtain rfl := Option.some.inj hF
  exact cg_zretR C hr hz hlk d_P_isThere_6
abbrev F_P_isThere (p_there : Nat → Int32) (v1 : Int32) : Option (Int32) := F_P_isThere_0 p_there v1
theorem c_P_isThere {l : Launch} {D : va_G} {cy : Nat → ClassId} (A_p : Nat) (A_p_there : Nat) (A_p_from : Nat) (A_p_to : Nat) (A_p_pin : Nat) (A_p_left : Nat) (A_p_low : Nat) (A_p_right : Nat) (A_p_high : Nat) (A_p_rim : Nat) (p_count : Int32) (p_there : Nat → Int32) (v1 : Int32) {out : Int32} (hF : F_P_isThere p_there v1 = some out) : cn_MR l y_P_isThere b_P_isThere 2 (some .boolean) r_P_isThere D cy [.ref A_p, .int v1] (w_P_isThere cy A_p A_p_there A_p_from A_p_to A_p_pin A_p_left A_p_low A_p_right A_p_high A_p_rim p_count p_there) (some (.int out)) :=
  cn_MR.of (by decide +kernel) (Nat.le_of_ble_eq_true rfl) (fun p e s m below meth c C hr hlk => t_P_isThere_0 C hr hlk A_p A_p_there A_p_from A_p_to A_p_pin A_p_left A_p_low A_p_right A_p_high A_p_rim p_count p_there v1 hF)
/-! CopperNets$Groups.begin(I)V -/
abbrev r_G_begin : Room := { frames := 0, cells := 0, slots := 0, locals := 0 }
abbrev w_G_begin (cy : Nat → ClassId) (A_g : Nat) (A_g_leader : Nat) (g_leader : Nat → Int32) : va_W := [(A_g, .inr (2, [.ref A_g_leader])), (A_g_leader, .inl (cy 0, 60, .inl g_leader))]
theorem hs_G_begin : y_G_begin.cls ≠ "java/lang/invoke/MethodHandle" ∧ y_G_begin.cls ≠ "java/lang/invoke/VarHandle" ∧ (parseMethodDescriptor y_G_begin.desc).map (fun d => d.parameters.length) = some 1 := by decide +kernel
def F_G_begin_0 (g_leader : Nat → Int32) (v1 : Int32) : Option ((Nat → Int32)) := cn_rd v1 60 (some ((upd g_leader (Int32.toNatClampNeg v1) v1)))
set_option maxRecDepth 100000 in
set_option maxHeartbeats 4000000 in
theorem t_G_begin_0 {p : Program} {l : Launch} {e : Env} {s : State} {m : MethodId} {args : Array Value} {below : List Frame} {meth : Method} {c : Code} {D : va_G} {cy : Nat → ClassId} {A : Nat → Prop} {out : (Nat → Int32)} (C : cn_X p s m args c b_G_begin 2 "CopperNets$Groups" D cy) (hr : meth.sig.returnType = none) (hlk : meth.locks = false) (hA : ∀ q, s.heap.size ≤ q → A q) (A_g : Nat) (A_g_leader : Nat) (g_leader : Nat → Int32) (v1 : Int32) (hF : F_G_begin_0 g_leader v1 = some out) : cg p l e r_G_begin s m args below meth c D (va_S A s.heap) A 2 0 0 (MQ below (cn_QW none D (w_G_begin cy A_g A_g_leader out) A) args s 0 0 A) (w_G_begin cy A_g A_g_leader g_leader) 0 [(0, .ref A_g), (1, .int v1)] [] := by
  refine cg_aload_n C d_G_begin_0 0 rfl ?_
  refine cg_get C 0 0 d_G_begin_1 rfl rfl hin_G (by decide) rfl tw_77 rfl ?_
  refine cg_iload_n C d_G_begin_4 1 rfl ?_
  refine cg_iload_n C d_G_begin_5 1 rfl ?_
  obtain ⟨i_1, hF⟩ := cn_rd_some hF
  refine cg_iast (ws' := w_G_begin cy A_g A_g_leader (upd g_leader (Int32.toNatClampNeg v1) v1)) C 1 d_G_begin_6 rfl i_1 rfl ?_
  obtain rfl := Option.some.inj hF
  exact cg_vretW C hr hlk d_G_begin_7
abbrev F_G_begin (g_leader : Nat → Int32) (v1 : Int32) : Option ((Nat → Int32)) := F_G_begin_0 g_leader v1
theorem c_G_begin {l : Launch} {D : va_G} {cy : Nat → ClassId} (A_g : Nat) (A_g_leader : Nat) (g_leader : Nat → Int32) (v1 : Int32) {out : (Nat → Int32)} (hF : F_G_begin g_leader v1 = some out) : cn_MW l y_G_begin b_G_begin 2 (none) r_G_begin D cy [.ref A_g, .int v1] (w_G_begin cy A_g A_g_leader g_leader) none (w_G_begin cy A_g A_g_leader out) 0 0 :=
  cn_MW.of (by decide +kernel) (Nat.le_of_ble_eq_true rfl) (fun p e s m below meth c A C hr hlk hA => t_G_begin_0 C hr hlk hA A_g A_g_leader g_leader v1 hF)
/-! CopperNets$Pieces.gap(JJJJ)J -/
abbrev r_P_gap : Room := { frames := 0, cells := 0, slots := 0, locals := 0 }
abbrev w_P_gap (cy : Nat → ClassId) : va_W := []
theorem hs_P_gap : y_P_gap.cls ≠ "java/lang/invoke/MethodHandle" ∧ y_P_gap.cls ≠ "java/lang/invoke/VarHandle" ∧ (parseMethodDescriptor y_P_gap.desc).map (fun d => d.parameters.length) = some 4 := by decide +kernel
def F_P_gap_27 (s0 : Int64) : Option (Int64) := some (s0)
set_option maxRecDepth 100000 in
set_option maxHeartbeats 4000000 in
theorem t_P_gap_27 {p : Program} {l : Launch} {e : Env} {s : State} {m : MethodId} {args : Array Value} {below : List Frame} {meth : Method} {c : Code} {D : va_G} {cy : Nat → ClassId} {out : Int64} (C : cn_X p s m args c b_P_gap 8 "CopperNets$Pieces" D cy) (hr : meth.sig.returnType = some .long) (hlk : meth.locks = false) (s0 : Int64) (hF : F_P_gap_27 s0 = some out) : cg p l e r_P_gap s m args below meth c D (cn_hi s) (fun _ => True) 8 0 0 (MQ below (cn_QR (some (.long out))) args s 0 0 (fun _ => False)) (w_P_gap cy) 27 [] [.long s0] := by
  obtain rfl := Option.some.inj hF
  exact cg_lretR C hr hlk d_P_gap_27
def F_P_gap_0 (v0 : Int64) (v2 : Int64) (v4 : Int64) (v6 : Int64) : Option (Int64) := if (lg_cmp v4 v2) ≤ 0 then (if (lg_cmp v0 v6) ≤ 0 then (F_P_gap_27 0) else (F_P_gap_27 (v0 - v6))) else (some ((v4 - v2)))
set_option maxRecDepth 100000 in
set_option maxHeartbeats 4000000 in
theorem t_P_gap_0 {p : Program} {l : Launch} {e : Env} {s : State} {m : MethodId} {args : Array Value} {below : List Frame} {meth : Method} {c : Code} {D : va_G} {cy : Nat → ClassId} {out : Int64} (C : cn_X p s m args c b_P_gap 8 "CopperNets$Pieces" D cy) (hr : meth.sig.returnType = some .long) (hlk : meth.locks = false) (v0 : Int64) (v2 : Int64) (v4 : Int64) (v6 : Int64) (hF : F_P_gap_0 v0 v2 v4 v6 = some out) : cg p l e r_P_gap s m args below meth c D (cn_hi s) (fun _ => True) 8 0 0 (MQ below (cn_QR (some (.long out))) args s 0 0 (fun _ => False)) (w_P_gap cy) 0 [(0, .long v0), (2, .long v2), (4, .long v4), (6, .long v6)] [] := by
  refine cg_lload C d_P_gap_0 2 rfl ?_
  refine cg_lload_n C d_P_gap_2 1 rfl ?_
  refine cg_lcmp C d_P_gap_3 ?_
  refine cg_if_le C 12 d_P_gap_4 (by decide) (fun q_1 => ?_) (fun q_1 => ?_)
  · have hF := cn_pos q_1 hF
    refine cg_lload_n C d_P_gap_12 0 rfl ?_
    refine cg_lload C d_P_gap_13 3 rfl ?_
    refine cg_lcmp C d_P_gap_15 ?_
    refine cg_if_le C 26 d_P_gap_16 (by decide) (fun q_2 => ?_) (fun q_2 => ?_)
    · have hF := cn_pos q_2 hF
      refine cg_lconst (v := 0) C d_P_gap_26 (by decide) ?_
      refine cg_sub (lv' := []) [] rfl ?_
      exact t_P_gap_27 C hr hlk 0 hF
    · have hF := cn_neg q_2 hF
      refine cg_lload_n C d_P_gap_19 0 rfl ?_
      refine cg_lload C d_P_gap_20 3 rfl ?_
      refine cg_lsub C d_P_gap_22 ?_
      refine cg_goto C 27 d_P_gap_23 (by decide) ?_
      refine cg_sub (lv' := []) [] rfl ?_
      exact t_P_gap_27 C hr hlk (v0 - v6) hF
  · have hF := cn_neg q_1 hF
    refine cg_lload C d_P_gap_7 2 rfl ?_
    refine cg_lload_n C d_P_gap_9 1 rfl ?_
    refine cg_lsub C d_P_gap_10 ?_
    obtain rfl := Option.some.inj hF
    exact cg_lretR C hr hlk d_P_gap_11
abbrev F_P_gap (v0 : Int64) (v2 : Int64) (v4 : Int64) (v6 : Int64) : Option (Int64) := F_P_gap_0 v0 v2 v4 v6
theorem c_P_gap {l : Launch} {D : va_G} {cy : Nat → ClassId} (v0 : Int64) (v2 : Int64) (v4 : Int64) (v6 : Int64) {out : Int64} (hF : F_P_gap v0 v2 v4 v6 = some out) : cn_MR l y_P_gap b_P_gap 8 (some .long) r_P_gap D cy [.long v0, .long v2, .long v4, .long v6] (w_P_gap cy) (some (.long out)) :=
  cn_MR.of (by decide +kernel) (Nat.le_of_ble_eq_true rfl) (fun p e s m below meth c C hr hlk => t_P_gap_0 C hr hlk v0 v2 v4 v6 hF)
/-! CopperNets$Pieces.square(II)J -/
abbrev r_P_square : Room := { frames := 1, cells := 0, slots := 0, locals := 27 }
abbrev w_P_square (cy : Nat → ClassId) (A_p : Nat) (A_p_there : Nat) (A_p_from : Nat) (A_p_to : Nat) (A_p_pin : Nat) (A_p_left : Nat) (A_p_low : Nat) (A_p_right : Nat) (A_p_high : Nat) (A_p_rim : Nat) (p_count : Int32) (p_left : Nat → Int64) (p_low : Nat → Int64) (p_right : Nat → Int64) (p_high : Nat → Int64) : va_W := [(A_p, .inr (3, [.int p_count, .ref A_p_there, .ref A_p_from, .ref A_p_to, .ref A_p_pin, .ref A_p_left, .ref A_p_low, .ref A_p_right, .ref A_p_high, .ref A_p_rim])), (A_p_left, .inl (cy 1, 60, .inr (.inl p_left))), (A_p_low, .inl (cy 1, 60, .inr (.inl p_low))), (A_p_right, .inl (cy 1, 60, .inr (.inl p_right))), (A_p_high, .inl (cy 1, 60, .inr (.inl p_high)))]
theorem hs_P_square : y_P_square.cls ≠ "java/lang/invoke/MethodHandle" ∧ y_P_square.cls ≠ "java/lang/invoke/VarHandle" ∧ (parseMethodDescriptor y_P_square.desc).map (fun d => d.parameters.length) = some 2 := by decide +kernel
def F_P_square_0 (p_left : Nat → Int64) (p_low : Nat → Int64) (p_right : Nat → Int64) (p_high : Nat → Int64) (v1 : Int32) (v2 : Int32) : Option (Int64) := cn_rd v1 60 (cn_rd v1 60 (cn_rd v2 60 (cn_rd v2 60 ((F_P_gap (p_left (Int32.toNatClampNeg v1)) (p_right (Int32.toNatClampNeg v1)) (p_left (Int32.toNatClampNeg v2)) (p_right (Int32.toNatClampNeg v2))).bind fun t_6 => cn_rd v1 60 (cn_rd v1 60 (cn_rd v2 60 (cn_rd v2 60 ((F_P_gap (p_low (Int32.toNatClampNeg v1)) (p_high (Int32.toNatClampNeg v1)) (p_low (Int32.toNatClampNeg v2)) (p_high (Int32.toNatClampNeg v2))).bind fun t_12 => some (((t_6 * t_6) + (t_12 * t_12)))))))))))
set_option maxRecDepth 100000 in
set_option maxHeartbeats 4000000 in
theorem t_P_square_0 {p : Program} {l : Launch} {e : Env} {s : State} {m : MethodId} {args : Array Value} {below : List Frame} {meth : Method} {c : Code} {D : va_G} {cy : Nat → ClassId} {out : Int64} (C : cn_X p s m args c b_P_square 7 "CopperNets$Pieces" D cy) (hr : meth.sig.returnType = some .long) (hlk : meth.locks = false) (A_p : Nat) (A_p_there : Nat) (A_p_from : Nat) (A_p_to : Nat) (A_p_pin : Nat) (A_p_left : Nat) (A_p_low : Nat) (A_p_right : Nat) (A_p_high : Nat) (A_p_rim : Nat) (p_count : Int32) (p_left : Nat → Int64) (p_low : Nat → Int64) (p_right : Nat → Int64) (p_high : Nat → Int64) (v1 : Int32) (v2 : Int32) (hF : F_P_square_0 p_left p_low p_right p_high v1 v2 = some out) : cg p l e r_P_square s m args below meth c D (cn_hi s) (fun _ => True) 7 0 0 (MQ below (cn_QR (some (.long out))) args s 0 0 (fun _ => False)) (w_P_square cy A_p A_p_there A_p_from A_p_to A_p_pin A_p_left A_p_low A_p_right A_p_high A_p_rim p_count p_left p_low p_right p_high) 0 [(0, .ref A_p), (1, .int v1), (2, .int v2)] [] := by
  refine cg_aload_n C d_P_square_0 0 rfl ?_
  refine cg_get C 0 5 d_P_square_1 rfl rfl hin_P (by decide) rfl tw_35 rfl ?_
  refine cg_iload_n C d_P_square_4 1 rfl ?_
  obtain ⟨i_1, hF⟩ := cn_rd_some hF
  refine cg_lald C 1 d_P_square_5 rfl i_1 ?_
  refine cg_aload_n C d_P_square_6 0 rfl ?_
  refine cg_get C 0 7 d_P_square_7 rfl rfl hin_P (by decide) rfl tw_37 rfl ?_
  refine cg_iload_n C d_P_square_10 1 rfl ?_
  obtain ⟨i_2, hF⟩ := cn_rd_some hF
  refine cg_lald C 3 d_P_square_11 rfl i_2 ?_
  refine cg_aload_n C d_P_square_12 0 rfl ?_
  refine cg_get C 0 5 d_P_square_13 rfl rfl hin_P (by decide) rfl tw_35 rfl ?_
  refine cg_iload_n C d_P_square_16 2 rfl ?_
  obtain ⟨i_3, hF⟩ := cn_rd_some hF
  refine cg_lald C 1 d_P_square_17 rfl i_3 ?_
  refine cg_aload_n C d_P_square_18 0 rfl ?_
  refine cg_get C 0 7 d_P_square_19 rfl rfl hin_P (by decide) rfl tw_37 rfl ?_
  refine cg_iload_n C d_P_square_22 2 rfl ?_
  obtain ⟨i_4, hF⟩ := cn_rd_some hF
  refine cg_lald C 3 d_P_square_23 rfl i_4 ?_
  obtain ⟨t_6, h_5, hF⟩ := cn_bind hF
  refine cg_callRS C (c_P_gap (p_left (Int32.toNatClampNeg v1)) (p_right (Int32.toNatClampNeg v1)) (p_left (Int32.toNatClampNeg v2)) (p_right (Int32.toNatClampNeg v2)) h_5) [] rfl (by decide) d_P_square_24 tw_214 tw_215 tw_2 tw_216 hs_P_gap ⟨by decide, by decide⟩ rfl rfl ⟨by decide, by decide⟩ (Nat.le_of_ble_eq_true rfl) rfl rfl ?_
  refine cg_lstore_n (lv' := [(3, .long t_6), (0, .ref A_p), (1, .int v1), (2, .int v2)]) C d_P_square_27 (by decide) rfl ?_
  refine cg_aload_n C d_P_square_28 1 rfl ?_
  refine cg_get C 0 6 d_P_square_29 rfl rfl hin_P (by decide) rfl tw_36 rfl ?_
  refine cg_iload_n C d_P_square_32 2 rfl ?_
  obtain ⟨i_7, hF⟩ := cn_rd_some hF
  refine cg_lald C 2 d_P_square_33 rfl i_7 ?_
  refine cg_aload_n C d_P_square_34 1 rfl ?_
  refine cg_get C 0 8 d_P_square_35 rfl rfl hin_P (by decide) rfl tw_38 rfl ?_
  refine cg_iload_n C d_P_square_38 2 rfl ?_
  obtain ⟨i_8, hF⟩ := cn_rd_some hF
  refine cg_lald C 4 d_P_square_39 rfl i_8 ?_
  refine cg_aload_n C d_P_square_40 1 rfl ?_
  refine cg_get C 0 6 d_P_square_41 rfl rfl hin_P (by decide) rfl tw_36 rfl ?_
  refine cg_iload_n C d_P_square_44 3 rfl ?_
  obtain ⟨i_9, hF⟩ := cn_rd_some hF
  refine cg_lald C 2 d_P_square_45 rfl i_9 ?_
  refine cg_aload_n C d_P_square_46 1 rfl ?_
  refine cg_get C 0 8 d_P_square_47 rfl rfl hin_P (by decide) rfl tw_38 rfl ?_
  refine cg_iload_n C d_P_square_50 3 rfl ?_
  obtain ⟨i_10, hF⟩ := cn_rd_some hF
  refine cg_lald C 4 d_P_square_51 rfl i_10 ?_
  obtain ⟨t_12, h_11, hF⟩ := cn_bind hF
  refine cg_callRS C (c_P_gap (p_low (Int32.toNatClampNeg v1)) (p_high (Int32.toNatClampNeg v1)) (p_low (Int32.toNatClampNeg v2)) (p_high (Int32.toNatClampNeg v2)) h_11) [] rfl (by decide) d_P_square_52 tw_214 tw_215 tw_2 tw_216 hs_P_gap ⟨by decide, by decide⟩ rfl rfl ⟨by decide, by decide⟩ (Nat.le_of_ble_eq_true rfl) rfl rfl ?_
  refine cg_lstore (lv' := [(5, .long t_12), (3, .long t_6), (0, .ref A_p), (1, .int v1), (2, .int v2)]) C d_P_square_55 (by decide) rfl ?_
  refine cg_lload_n C d_P_square_57 1 rfl ?_
  refine cg_lload_n C d_P_square_58 1 rfl ?_
  refine cg_lmul C d_P_square_59 ?_
  refine cg_lload C d_P_square_60 0 rfl ?_
  refine cg_lload C d_P_square_62 0 rfl ?_
  refine cg_lmul C d_P_square_64 ?_
  refine cg_ladd C d_P_square_65 ?_
  obtain rfl := Option.some.inj hF
  exact cg_lretR C hr hlk d_P_square_66
abbrev F_P_square (p_left : Nat → Int64) (p_low : Nat → Int64) (p_right : Nat → Int64) (p_high : Nat → Int64) (v1 : Int32) (v2 : Int32) : Option (Int64) := F_P_square_0 p_left p_low p_right p_high v1 v2
theorem c_P_square {l : Launch} {D : va_G} {cy : Nat → ClassId} (A_p : Nat) (A_p_there : Nat) (A_p_from : Nat) (A_p_to : Nat) (A_p_pin : Nat) (A_p_left : Nat) (A_p_low : Nat) (A_p_right : Nat) (A_p_high : Nat) (A_p_rim : Nat) (p_count : Int32) (p_left : Nat → Int64) (p_low : Nat → Int64) (p_right : Nat → Int64) (p_high : Nat → Int64) (v1 : Int32) (v2 : Int32) {out : Int64} (hF : F_P_square p_left p_low p_right p_high v1 v2 = some out) : cn_MR l y_P_square b_P_square 7 (some .long) r_P_square D cy [.ref A_p, .int v1, .int v2] (w_P_square cy A_p A_p_there A_p_from A_p_to A_p_pin A_p_left A_p_low A_p_right A_p_high A_p_rim p_count p_left p_low p_right p_high) (some (.long out)) :=
  cn_MR.of (by decide +kernel) (Nat.le_of_ble_eq_true rfl) (fun p e s m below meth c C hr hlk => t_P_square_0 C hr hlk A_p A_p_there A_p_from A_p_to A_p_pin A_p_left A_p_low A_p_right A_p_high A_p_rim p_count p_left p_low p_right p_high v1 v2 hF)
/-! CopperNets$Pieces.touch(II)Z -/
abbrev r_P_touch : Room := { frames := 2, cells := 0, slots := 0, locals := 53 }
abbrev w_P_touch (cy : Nat → ClassId) (A_p : Nat) (A_p_there : Nat) (A_p_from : Nat) (A_p_to : Nat) (A_p_pin : Nat) (A_p_left : Nat) (A_p_low : Nat) (A_p_right : Nat) (A_p_high : Nat) (A_p_rim : Nat) (p_count : Int32) (p_from : Nat → Int32) (p_to : Nat → Int32) (p_left : Nat → Int64) (p_low : Nat → Int64) (p_right : Nat → Int64) (p_high : Nat → Int64) (p_rim : Nat → Int64) : va_W := [(A_p, .inr (3, [.int p_count, .ref A_p_there, .ref A_p_from, .ref A_p_to, .ref A_p_pin, .ref A_p_left, .ref A_p_low, .ref A_p_right, .ref A_p_high, .ref A_p_rim])), (A_p_from, .inl (cy 0, 60, .inl p_from)), (A_p_to, .inl (cy 0, 60, .inl p_to)), (A_p_left, .inl (cy 1, 60, .inr (.inl p_left))), (A_p_low, .inl (cy 1, 60, .inr (.inl p_low))), (A_p_right, .inl (cy 1, 60, .inr (.inl p_right))), (A_p_high, .inl (cy 1, 60, .inr (.inl p_high))), (A_p_rim, .inl (cy 1, 60, .inr (.inl p_rim)))]
theorem hs_P_touch : y_P_touch.cls ≠ "java/lang/invoke/MethodHandle" ∧ y_P_touch.cls ≠ "java/lang/invoke/VarHandle" ∧ (parseMethodDescriptor y_P_touch.desc).map (fun d => d.parameters.length) = some 2 := by decide +kernel
def F_P_touch_30 (p_from : Nat → Int32) (p_to : Nat → Int32) (p_left : Nat → Int64) (p_low : Nat → Int64) (p_right : Nat → Int64) (p_high : Nat → Int64) (p_rim : Nat → Int64) : Option (Int32) := some (0)
set_option maxRecDepth 100000 in
set_option maxHeartbeats 4000000 in
theorem t_P_touch_30 {p : Program} {l : Launch} {e : Env} {s : State} {m : MethodId} {args : Array Value} {below : List Frame} {meth : Method} {c : Code} {D : va_G} {cy : Nat → ClassId} {out : Int32} (C : cn_X p s m args c b_P_touch 5 "CopperNets$Pieces" D cy) (hr : meth.sig.returnType = some .boolean) (hlk : meth.locks = false) (A_p : Nat) (A_p_there : Nat) (A_p_from : Nat) (A_p_to : Nat) (A_p_pin : Nat) (A_p_left : Nat) (A_p_low : Nat) (A_p_right : Nat) (A_p_high : Nat) (A_p_rim : Nat) (p_count : Int32) (p_from : Nat → Int32) (p_to : Nat → Int32) (p_left : Nat → Int64) (p_low : Nat → Int64) (p_right : Nat → Int64) (p_high : Nat → Int64) (p_rim : Nat → Int64) (hF : F_P_touch_30 p_from p_to p_left p_low p_right p_high p_rim = some out) : cg p l e r_P_touch s m args below meth c D (cn_hi s) (fun _ => True) 5 0 0 (MQ below (cn_QR (some (.int out))) args s 0 0 (fun _ => False)) (w_P_touch cy A_p A_p_there A_p_from A_p_to A_p_pin A_p_left A_p_low A_p_right A_p_high A_p_rim p_count p_from p_to p_left p_low p_right p_high p_rim) 30 [] [] := by
  refine cg_iconst (v := 0) C d_P_touch_30 (by decide) ?_
  obtain rfl := Option.some.inj hF
  exact cg_zretR (v := 0) C hr rfl hlk d_P_touch_31
def F_P_touch_64 (p_from : Nat → Int32) (p_to : Nat → Int32) (p_left : Nat → Int64) (p_low : Nat → Int64) (p_right : Nat → Int64) (p_high : Nat → Int64) (p_rim : Nat → Int64) (s0 : Int32) : Option (Int32) := cn_bl s0 (some (s0))
set_option maxRecDepth 100000 in
set_option maxHeartbeats 4000000 in
theorem t_P_touch_64 {p : Program} {l : Launch} {e : Env} {s : State} {m : MethodId} {args : Array Value} {below : List Frame} {meth : Method} {c : Code} {D : va_G} {cy : Nat → ClassId} {out : Int32} (C : cn_X p s m args c b_P_touch 5 "CopperNets$Pieces" D cy) (hr : meth.sig.returnType = some .boolean) (hlk : meth.locks = false) (A_p : Nat) (A_p_there : Nat) (A_p_from : Nat) (A_p_to : Nat) (A_p_pin : Nat) (A_p_left : Nat) (A_p_low : Nat) (A_p_right : Nat) (A_p_high : Nat) (A_p_rim : Nat) (p_count : Int32) (p_from : Nat → Int32) (p_to : Nat → Int32) (p_left : Nat → Int64) (p_low : Nat → Int64) (p_right : Nat → Int64) (p_high : Nat → Int64) (p_rim : Nat → Int64) (s0 : Int32) (hF : F_P_touch_64 p_from p_to p_left p_low p_right p_high p_rim s0 = some out) : cg p l e r_P_touch s m args below meth c D (cn_hi s) (fun _ => True) 5 0 0 (MQ below (cn_QR (some (.int out))) args s 0 0 (fun _ => False)) (w_P_touch cy A_p A_p_there A_p_from A_p_to A_p_pin A_p_left A_p_low A_p_right A_p_high A_p_rim p_count p_from p_to p_left p_low p_right p_high p_rim) 64 [] [.int s0] := by
  obtain ⟨hz, hF⟩ := cn_bl_some hF
  obtain rfl := Option.some.inj hF
  exact cg_zretR C hr hz hlk d_P_touch_64
def F_P_touch_0 (p_from : Nat → Int32) (p_to : Nat → Int32) (p_left : Nat → Int64) (p_low : Nat → Int64) (p_right : Nat → Int64) (p_high : Nat → Int64) (p_rim : Nat → Int64) (v1 : Int32) (v2 : Int32) : Option (Int32) := cn_rd v1 60 (cn_rd v2 60 (if (p_to (Int32.toNatClampNeg v2)) < (p_from (Int32.toNatClampNeg v1)) then (F_P_touch_30 p_from p_to p_left p_low p_right p_high p_rim) else (cn_rd v2 60 (cn_rd v1 60 (if (p_from (Int32.toNatClampNeg v2)) ≤ (p_to (Int32.toNatClampNeg v1)) then (cn_rd v1 60 (cn_rd v2 60 ((F_P_square p_left p_low p_right p_high v1 v2).bind fun t_10 => if 0 < (lg_cmp t_10 (((p_rim (Int32.toNatClampNeg v1)) + (p_rim (Int32.toNatClampNeg v2))) * ((p_rim (Int32.toNatClampNeg v1)) + (p_rim (Int32.toNatClampNeg v2))))) then (F_P_touch_64 p_from p_to p_left p_low p_right p_high p_rim 0) else (F_P_touch_64 p_from p_to p_left p_low p_right p_high p_rim 1)))) else (F_P_touch_30 p_from p_to p_left p_low p_right p_high p_rim))))))
set_option maxRecDepth 100000 in
set_option maxHeartbeats 4000000 in
theorem t_P_touch_0 {p : Program} {l : Launch} {e : Env} {s : State} {m : MethodId} {args : Array Value} {below : List Frame} {meth : Method} {c : Code} {D : va_G} {cy : Nat → ClassId} {out : Int32} (C : cn_X p s m args c b_P_touch 5 "CopperNets$Pieces" D cy) (hr : meth.sig.returnType = some .boolean) (hlk : meth.locks = false) (A_p : Nat) (A_p_there : Nat) (A_p_from : Nat) (A_p_to : Nat) (A_p_pin : Nat) (A_p_left : Nat) (A_p_low : Nat) (A_p_right : Nat) (A_p_high : Nat) (A_p_rim : Nat) (p_count : Int32) (p_from : Nat → Int32) (p_to : Nat → Int32) (p_left : Nat → Int64) (p_low : Nat → Int64) (p_right : Nat → Int64) (p_high : Nat → Int64) (p_rim : Nat → Int64) (v1 : Int32) (v2 : Int32) (hF : F_P_touch_0 p_from p_to p_left p_low p_right p_high p_rim v1 v2 = some out) : cg p l e r_P_touch s m args below meth c D (cn_hi s) (fun _ => True) 5 0 0 (MQ below (cn_QR (some (.int out))) args s 0 0 (fun _ => False)) (w_P_touch cy A_p A_p_there A_p_from A_p_to A_p_pin A_p_left A_p_low A_p_right A_p_high A_p_rim p_count p_from p_to p_left p_low p_right p_high p_rim) 0 [(0, .ref A_p), (1, .int v1), (2, .int v2)] [] := by
  refine cg_aload_n C d_P_touch_0 0 rfl ?_
  refine cg_get C 0 2 d_P_touch_1 rfl rfl hin_P (by decide) rfl tw_32 rfl ?_
  refine cg_iload_n C d_P_touch_4 1 rfl ?_
  obtain ⟨i_1, hF⟩ := cn_rd_some hF
  refine cg_iald C 1 d_P_touch_5 rfl i_1 ?_
  refine cg_aload_n C d_P_touch_6 0 rfl ?_
  refine cg_get C 0 3 d_P_touch_7 rfl rfl hin_P (by decide) rfl tw_33 rfl ?_
  refine cg_iload_n C d_P_touch_10 2 rfl ?_
  obtain ⟨i_2, hF⟩ := cn_rd_some hF
  refine cg_iald C 2 d_P_touch_11 rfl i_2 ?_
  refine cg_icmp_gt C 30 d_P_touch_12 (by decide) (fun q_3 => ?_) (fun q_3 => ?_)
  · have hF := cn_pos q_3 hF
    refine cg_sub (lv' := []) [] rfl ?_
    exact t_P_touch_30 C hr hlk A_p A_p_there A_p_from A_p_to A_p_pin A_p_left A_p_low A_p_right A_p_high A_p_rim p_count p_from p_to p_left p_low p_right p_high p_rim hF
  · have hF := cn_neg q_3 hF
    refine cg_aload_n C d_P_touch_15 0 rfl ?_
    refine cg_get C 0 2 d_P_touch_16 rfl rfl hin_P (by decide) rfl tw_32 rfl ?_
    refine cg_iload_n C d_P_touch_19 2 rfl ?_
    obtain ⟨i_4, hF⟩ := cn_rd_some hF
    refine cg_iald C 1 d_P_touch_20 rfl i_4 ?_
    refine cg_aload_n C d_P_touch_21 0 rfl ?_
    refine cg_get C 0 3 d_P_touch_22 rfl rfl hin_P (by decide) rfl tw_33 rfl ?_
    refine cg_iload_n C d_P_touch_25 1 rfl ?_
    obtain ⟨i_5, hF⟩ := cn_rd_some hF
    refine cg_iald C 2 d_P_touch_26 rfl i_5 ?_
    refine cg_icmp_le C 32 d_P_touch_27 (by decide) (fun q_6 => ?_) (fun q_6 => ?_)
    · have hF := cn_pos q_6 hF
      refine cg_aload_n C d_P_touch_32 0 rfl ?_
      refine cg_get C 0 9 d_P_touch_33 rfl rfl hin_P (by decide) rfl tw_39 rfl ?_
      refine cg_iload_n C d_P_touch_36 1 rfl ?_
      obtain ⟨i_7, hF⟩ := cn_rd_some hF
      refine cg_lald C 7 d_P_touch_37 rfl i_7 ?_
      refine cg_aload_n C d_P_touch_38 0 rfl ?_
      refine cg_get C 0 9 d_P_touch_39 rfl rfl hin_P (by decide) rfl tw_39 rfl ?_
      refine cg_iload_n C d_P_touch_42 2 rfl ?_
      obtain ⟨i_8, hF⟩ := cn_rd_some hF
      refine cg_lald C 7 d_P_touch_43 rfl i_8 ?_
      refine cg_ladd C d_P_touch_44 ?_
      refine cg_lstore_n (lv' := [(3, .long ((p_rim (Int32.toNatClampNeg v1)) + (p_rim (Int32.toNatClampNeg v2)))), (0, .ref A_p), (1, .int v1), (2, .int v2)]) C d_P_touch_45 (by decide) rfl ?_
      refine cg_aload_n C d_P_touch_46 1 rfl ?_
      refine cg_iload_n C d_P_touch_47 2 rfl ?_
      refine cg_iload_n C d_P_touch_48 3 rfl ?_
      obtain ⟨t_10, h_9, hF⟩ := cn_bind hF
      refine cg_callRV C (c_P_square A_p A_p_there A_p_from A_p_to A_p_pin A_p_left A_p_low A_p_right A_p_high A_p_rim p_count p_left p_low p_right p_high v1 v2 h_9) [0, 3, 4, 5, 6] rfl (by decide) 0 rfl rfl d_P_touch_49 tw_210 tw_212 ts_13 tw_2 tw_213 hs_P_square ⟨by decide, by decide⟩ rfl rfl ⟨by decide, by decide⟩ (Nat.le_of_ble_eq_true rfl) rfl rfl ?_
      refine cg_lload_n C d_P_touch_52 0 rfl ?_
      refine cg_lload_n C d_P_touch_53 0 rfl ?_
      refine cg_lmul C d_P_touch_54 ?_
      refine cg_lcmp C d_P_touch_55 ?_
      refine cg_if_gt C 63 d_P_touch_56 (by decide) (fun q_11 => ?_) (fun q_11 => ?_)
      · have hF := cn_pos q_11 hF
        refine cg_iconst (v := 0) C d_P_touch_63 (by decide) ?_
        refine cg_sub (lv' := []) [] rfl ?_
        exact t_P_touch_64 C hr hlk A_p A_p_there A_p_from A_p_to A_p_pin A_p_left A_p_low A_p_right A_p_high A_p_rim p_count p_from p_to p_left p_low p_right p_high p_rim 0 hF
      · have hF := cn_neg q_11 hF
        refine cg_iconst (v := 1) C d_P_touch_59 (by decide) ?_
        refine cg_goto C 64 d_P_touch_60 (by decide) ?_
        refine cg_sub (lv' := []) [] rfl ?_
        exact t_P_touch_64 C hr hlk A_p A_p_there A_p_from A_p_to A_p_pin A_p_left A_p_low A_p_right A_p_high A_p_rim p_count p_from p_to p_left p_low p_right p_high p_rim 1 hF
    · have hF := cn_neg q_6 hF
      refine cg_sub (lv' := []) [] rfl ?_
      exact t_P_touch_30 C hr hlk A_p A_p_there A_p_from A_p_to A_p_pin A_p_left A_p_low A_p_right A_p_high A_p_rim p_count p_from p_to p_left p_low p_right p_high p_rim hF
abbrev F_P_touch (p_from : Nat → Int32) (p_to : Nat → Int32) (p_left : Nat → Int64) (p_low : Nat → Int64) (p_right : Nat → Int64) (p_high : Nat → Int64) (p_rim : Nat → Int64) (v1 : Int32) (v2 : Int32) : Option (Int32) := F_P_touch_0 p_from p_to p_left p_low p_right p_high p_rim v1 v2
theorem c_P_touch {l : Launch} {D : va_G} {cy : Nat → ClassId} (A_p : Nat) (A_p_there : Nat) (A_p_from : Nat) (A_p_to : Nat) (A_p_pin : Nat) (A_p_left : Nat) (A_p_low : Nat) (A_p_right : Nat) (A_p_high : Nat) (A_p_rim : Nat) (p_count : Int32) (p_from : Nat → Int32) (p_to : Nat → Int32) (p_left : Nat → Int64) (p_low : Nat → Int64) (p_right : Nat → Int64) (p_high : Nat → Int64) (p_rim : Nat → Int64) (v1 : Int32) (v2 : Int32) {out : Int32} (hF : F_P_touch p_from p_to p_left p_low p_right p_high p_rim v1 v2 = some out) : cn_MR l y_P_touch b_P_touch 5 (some .boolean) r_P_touch D cy [.ref A_p, .int v1, .int v2] (w_P_touch cy A_p A_p_there A_p_from A_p_to A_p_pin A_p_left A_p_low A_p_right A_p_high A_p_rim p_count p_from p_to p_left p_low p_right p_high p_rim) (some (.int out)) :=
  cn_MR.of (by decide +kernel) (Nat.le_of_ble_eq_true rfl) (fun p e s m below meth c C hr hlk => t_P_touch_0 C hr hlk A_p A_p_there A_p_from A_p_to A_p_pin A_p_left A_p_low A_p_right A_p_high A_p_rim p_count p_from p_to p_left p_low p_right p_high p_rim v1 v2 hF)
/-! java/lang/Math.min(II)I -/
abbrev r_jM_min_I : Room := { frames := 0, cells := 0, slots := 0, locals := 0 }
abbrev w_jM_min_I (cy : Nat → ClassId) : va_W := []
theorem hs_jM_min_I : y_jM_min_I.cls ≠ "java/lang/invoke/MethodHandle" ∧ y_jM_min_I.cls ≠ "java/lang/invoke/VarHandle" ∧ (parseMethodDescriptor y_jM_min_I.desc).map (fun d => d.parameters.length) = some 2 := by decide +kernel
def F_jM_min_I_10 (s0 : Int32) : Option (Int32) := some (s0)
set_option maxRecDepth 100000 in
set_option maxHeartbeats 4000000 in
theorem t_jM_min_I_10 {p : Program} {l : Launch} {e : Env} {s : State} {m : MethodId} {args : Array Value} {below : List Frame} {meth : Method} {c : Code} {D : va_G} {cy : Nat → ClassId} {out : Int32} (C : cn_X p s m args c b_jM_min_I 2 "java/lang/Math" D cy) (hr : meth.sig.returnType = some .int) (hlk : meth.locks = false) (s0 : Int32) (hF : F_jM_min_I_10 s0 = some out) : cg p l e r_jM_min_I s m args below meth c D (cn_hi s) (fun _ => True) 2 0 0 (MQ below (cn_QR (some (.int out))) args s 0 0 (fun _ => False)) (w_jM_min_I cy) 10 [] [.int s0] := by
  obtain rfl := Option.some.inj hF
  exact cg_iretR C hr hlk d_jM_min_I_10
def F_jM_min_I_0 (v0 : Int32) (v1 : Int32) : Option (Int32) := if v1 < v0 then (F_jM_min_I_10 v1) else (F_jM_min_I_10 v0)
set_option maxRecDepth 100000 in
set_option maxHeartbeats 4000000 in
theorem t_jM_min_I_0 {p : Program} {l : Launch} {e : Env} {s : State} {m : MethodId} {args : Array Value} {below : List Frame} {meth : Method} {c : Code} {D : va_G} {cy : Nat → ClassId} {out : Int32} (C : cn_X p s m args c b_jM_min_I 2 "java/lang/Math" D cy) (hr : meth.sig.returnType = some .int) (hlk : meth.locks = false) (v0 : Int32) (v1 : Int32) (hF : F_jM_min_I_0 v0 v1 = some out) : cg p l e r_jM_min_I s m args below meth c D (cn_hi s) (fun _ => True) 2 0 0 (MQ below (cn_QR (some (.int out))) args s 0 0 (fun _ => False)) (w_jM_min_I cy) 0 [(0, .int v0), (1, .int v1)] [] := by
  refine cg_iload_n C d_jM_min_I_0 0 rfl ?_
  refine cg_iload_n C d_jM_min_I_1 1 rfl ?_
  refine cg_icmp_gt C 9 d_jM_min_I_2 (by decide) (fun q_1 => ?_) (fun q_1 => ?_)
  · have hF := cn_pos q_1 hF
    refine cg_iload_n C d_jM_min_I_9 1 rfl ?_
    refine cg_sub (lv' := []) [] rfl ?_
    exact t_jM_min_I_10 C hr hlk v1 hF
  · have hF := cn_neg q_1 hF
    refine cg_iload_n C d_jM_min_I_5 0 rfl ?_
    refine cg_goto C 10 d_jM_min_I_6 (by decide) ?_
    refine cg_sub (lv' := []) [] rfl ?_
    exact t_jM_min_I_10 C hr hlk v0 hF
abbrev F_jM_min_I (v0 : Int32) (v1 : Int32) : Option (Int32) := F_jM_min_I_0 v0 v1
theorem c_jM_min_I {l : Launch} {D : va_G} {cy : Nat → ClassId} (v0 : Int32) (v1 : Int32) {out : Int32} (hF : F_jM_min_I v0 v1 = some out) : cn_MR l y_jM_min_I b_jM_min_I 2 (some .int) r_jM_min_I D cy [.int v0, .int v1] (w_jM_min_I cy) (some (.int out)) :=
  cn_MR.of (by decide +kernel) (Nat.le_of_ble_eq_true rfl) (fun p e s m below meth c C hr hlk => t_jM_min_I_0 C hr hlk v0 v1 hF)
/-! java/lang/Math.max(II)I -/
abbrev r_jM_max_I : Room := { frames := 0, cells := 0, slots := 0, locals := 0 }
abbrev w_jM_max_I (cy : Nat → ClassId) : va_W := []
theorem hs_jM_max_I : y_jM_max_I.cls ≠ "java/lang/invoke/MethodHandle" ∧ y_jM_max_I.cls ≠ "java/lang/invoke/VarHandle" ∧ (parseMethodDescriptor y_jM_max_I.desc).map (fun d => d.parameters.length) = some 2 := by decide +kernel
def F_jM_max_I_10 (s0 : Int32) : Option (Int32) := some (s0)
set_option maxRecDepth 100000 in
set_option maxHeartbeats 4000000 in
theorem t_jM_max_I_10 {p : Program} {l : Launch} {e : Env} {s : State} {m : MethodId} {args : Array Value} {below : List Frame} {meth : Method} {c : Code} {D : va_G} {cy : Nat → ClassId} {out : Int32} (C : cn_X p s m args c b_jM_max_I 2 "java/lang/Math" D cy) (hr : meth.sig.returnType = some .int) (hlk : meth.locks = false) (s0 : Int32) (hF : F_jM_max_I_10 s0 = some out) : cg p l e r_jM_max_I s m args below meth c D (cn_hi s) (fun _ => True) 2 0 0 (MQ below (cn_QR (some (.int out))) args s 0 0 (fun _ => False)) (w_jM_max_I cy) 10 [] [.int s0] := by
  obtain rfl := Option.some.inj hF
  exact cg_iretR C hr hlk d_jM_max_I_10
def F_jM_max_I_0 (v0 : Int32) (v1 : Int32) : Option (Int32) := if v0 < v1 then (F_jM_max_I_10 v1) else (F_jM_max_I_10 v0)
set_option maxRecDepth 100000 in
set_option maxHeartbeats 4000000 in
theorem t_jM_max_I_0 {p : Program} {l : Launch} {e : Env} {s : State} {m : MethodId} {args : Array Value} {below : List Frame} {meth : Method} {c : Code} {D : va_G} {cy : Nat → ClassId} {out : Int32} (C : cn_X p s m args c b_jM_max_I 2 "java/lang/Math" D cy) (hr : meth.sig.returnType = some .int) (hlk : meth.locks = false) (v0 : Int32) (v1 : Int32) (hF : F_jM_max_I_0 v0 v1 = some out) : cg p l e r_jM_max_I s m args below meth c D (cn_hi s) (fun _ => True) 2 0 0 (MQ below (cn_QR (some (.int out))) args s 0 0 (fun _ => False)) (w_jM_max_I cy) 0 [(0, .int v0), (1, .int v1)] [] := by
  refine cg_iload_n C d_jM_max_I_0 0 rfl ?_
  refine cg_iload_n C d_jM_max_I_1 1 rfl ?_
  refine cg_icmp_lt C 9 d_jM_max_I_2 (by decide) (fun q_1 => ?_) (fun q_1 => ?_)
  · have hF := cn_pos q_1 hF
    refine cg_iload_n C d_jM_max_I_9 1 rfl ?_
    refine cg_sub (lv' := []) [] rfl ?_
    exact t_jM_max_I_10 C hr hlk v1 hF
  · have hF := cn_neg q_1 hF
    refine cg_iload_n C d_jM_max_I_5 0 rfl ?_
    refine cg_goto C 10 d_jM_max_I_6 (by decide) ?_
    refine cg_sub (lv' := []) [] rfl ?_
    exact t_jM_max_I_10 C hr hlk v0 hF
abbrev F_jM_max_I (v0 : Int32) (v1 : Int32) : Option (Int32) := F_jM_max_I_0 v0 v1
theorem c_jM_max_I {l : Launch} {D : va_G} {cy : Nat → ClassId} (v0 : Int32) (v1 : Int32) {out : Int32} (hF : F_jM_max_I v0 v1 = some out) : cn_MR l y_jM_max_I b_jM_max_I 2 (some .int) r_jM_max_I D cy [.int v0, .int v1] (w_jM_max_I cy) (some (.int out)) :=
  cn_MR.of (by decide +kernel) (Nat.le_of_ble_eq_true rfl) (fun p e s m below meth c C hr hlk => t_jM_max_I_0 C hr hlk v0 v1 hF)
/-! CopperNets$Groups.join(II)V -/
abbrev r_G_join : Room := { frames := 1, cells := 0, slots := 0, locals := 21 }
abbrev w_G_join (cy : Nat → ClassId) (A_g : Nat) (A_g_leader : Nat) (g_leader : Nat → Int32) : va_W := [(A_g, .inr (2, [.ref A_g_leader])), (A_g_leader, .inl (cy 0, 60, .inl g_leader))]
theorem hs_G_join : y_G_join.cls ≠ "java/lang/invoke/MethodHandle" ∧ y_G_join.cls ≠ "java/lang/invoke/VarHandle" ∧ (parseMethodDescriptor y_G_join.desc).map (fun d => d.parameters.length) = some 2 := by decide +kernel
def F_G_join_71 (k_44 : (Nat → Int32) → Int32 → Int32 → Int32 → Option ((Nat → Int32))) (g_leader : Nat → Int32) (v3 : Int32) (v4 : Int32) (v5 : Int32) : Option ((Nat → Int32)) := k_44 g_leader v3 v4 (v5 + 1)
set_option maxRecDepth 100000 in
set_option maxHeartbeats 4000000 in
theorem t_G_join_71 {p : Program} {l : Launch} {e : Env} {s : State} {m : MethodId} {args : Array Value} {below : List Frame} {meth : Method} {c : Code} {D : va_G} {cy : Nat → ClassId} {A : Nat → Prop} {out : (Nat → Int32)} (C : cn_X p s m args c b_G_join 6 "CopperNets$Groups" D cy) (hr : meth.sig.returnType = none) (hlk : meth.locks = false) (hA : ∀ q, s.heap.size ≤ q → A q) (A_g : Nat) (A_g_leader : Nat) (k_44 : (Nat → Int32) → Int32 → Int32 → Int32 → Option ((Nat → Int32))) (hk_44 : ∀ (g_leader : Nat → Int32) (v3 : Int32) (v4 : Int32) (v5 : Int32), k_44 g_leader v3 v4 v5 = some out → cg p l e r_G_join s m args below meth c D (va_S A s.heap) A 6 0 0 (MQ below (cn_QW none D (w_G_join cy A_g A_g_leader out) A) args s 0 0 A) (w_G_join cy A_g A_g_leader g_leader) 44 [(0, .ref A_g), (3, .int v3), (4, .int v4), (5, .int v5)] []) (g_leader : Nat → Int32) (v3 : Int32) (v4 : Int32) (v5 : Int32) (hF : F_G_join_71 k_44 g_leader v3 v4 v5 = some out) : cg p l e r_G_join s m args below meth c D (va_S A s.heap) A 6 0 0 (MQ below (cn_QW none D (w_G_join cy A_g A_g_leader out) A) args s 0 0 A) (w_G_join cy A_g A_g_leader g_leader) 71 [(0, .ref A_g), (3, .int v3), (4, .int v4), (5, .int v5)] [] := by
  refine cg_iinc (v := v5 + 1) (lv' := [(5, .int (v5 + 1)), (0, .ref A_g), (3, .int v3), (4, .int v4)]) C d_G_join_71 3 rfl (by decide) rfl rfl ?_
  refine cg_goto C 44 d_G_join_74 (by decide) ?_
  refine cg_sub (lv' := [(0, .ref A_g), (3, .int v3), (4, .int v4), (5, .int (v5 + 1))]) [1, 2, 3, 0] rfl ?_
  exact hk_44 g_leader v3 v4 (v5 + 1) hF
def F_G_join_44 : Nat → (Nat → Int32) → Int32 → Int32 → Int32 → Option ((Nat → Int32))
  | 0, _, _, _, _ => none
  | n + 1, g_leader, v3, v4, v5 => if 60 ≤ v5 then (some (g_leader)) else (cn_rd v5 60 (if (g_leader (Int32.toNatClampNeg v5)) = v4 then (cn_rd v5 60 (F_G_join_71 (F_G_join_44 n) (upd g_leader (Int32.toNatClampNeg v5) v3) v3 v4 v5)) else (F_G_join_71 (F_G_join_44 n) g_leader v3 v4 v5)))
set_option maxRecDepth 100000 in
set_option maxHeartbeats 4000000 in
theorem t_G_join_44 {p : Program} {l : Launch} {e : Env} {s : State} {m : MethodId} {args : Array Value} {below : List Frame} {meth : Method} {c : Code} {D : va_G} {cy : Nat → ClassId} {A : Nat → Prop} {out : (Nat → Int32)} (C : cn_X p s m args c b_G_join 6 "CopperNets$Groups" D cy) (hr : meth.sig.returnType = none) (hlk : meth.locks = false) (hA : ∀ q, s.heap.size ≤ q → A q) (A_g : Nat) (A_g_leader : Nat) : ∀ (n : Nat) (g_leader : Nat → Int32) (v3 : Int32) (v4 : Int32) (v5 : Int32), F_G_join_44 n g_leader v3 v4 v5 = some out → cg p l e r_G_join s m args below meth c D (va_S A s.heap) A 6 0 0 (MQ below (cn_QW none D (w_G_join cy A_g A_g_leader out) A) args s 0 0 A) (w_G_join cy A_g A_g_leader g_leader) 44 [(0, .ref A_g), (3, .int v3), (4, .int v4), (5, .int v5)] [] := by
  intro n
  induction n with
  | zero => intro g_leader v3 v4 v5 hF; exact nomatch (show (none : Option ((Nat → Int32))) = some out from hF)
  | succ n ih =>
    intro g_leader v3 v4 v5 hF
    refine cg_iload C d_G_join_44 3 rfl ?_
    refine cg_bipush (v := 60) C d_G_join_46 (by decide) ?_
    refine cg_icmp_ge C 77 d_G_join_48 (by decide) (fun q_1 => ?_) (fun q_1 => ?_)
    · have hF := cn_pos q_1 hF
      obtain rfl := Option.some.inj hF
      exact cg_vretW C hr hlk d_G_join_77
    · have hF := cn_neg q_1 hF
      refine cg_aload_n C d_G_join_51 0 rfl ?_
      refine cg_get C 0 0 d_G_join_52 rfl rfl hin_G (by decide) rfl tw_77 rfl ?_
      refine cg_iload C d_G_join_55 3 rfl ?_
      obtain ⟨i_2, hF⟩ := cn_rd_some hF
      refine cg_iald C 1 d_G_join_57 rfl i_2 ?_
      refine cg_iload C d_G_join_58 2 rfl ?_
      refine cg_icmp_ne C 71 d_G_join_60 (by decide) (fun q_3 => ?_) (fun q_3 => ?_)
      · have hF := cn_neg q_3 hF
        exact t_G_join_71 C hr hlk hA A_g A_g_leader (F_G_join_44 n) ih g_leader v3 v4 v5 hF
      · have hF := cn_pos q_3 hF
        refine cg_aload_n C d_G_join_63 0 rfl ?_
        refine cg_get C 0 0 d_G_join_64 rfl rfl hin_G (by decide) rfl tw_77 rfl ?_
        refine cg_iload C d_G_join_67 3 rfl ?_
        refine cg_iload_n C d_G_join_69 1 rfl ?_
        obtain ⟨i_4, hF⟩ := cn_rd_some hF
        refine cg_iast (ws' := w_G_join cy A_g A_g_leader (upd g_leader (Int32.toNatClampNeg v5) v3)) C 1 d_G_join_70 rfl i_4 rfl ?_
        exact t_G_join_71 C hr hlk hA A_g A_g_leader (F_G_join_44 n) ih (upd g_leader (Int32.toNatClampNeg v5) v3) v3 v4 v5 hF
def F_G_join_0 (g_leader : Nat → Int32) (v1 : Int32) (v2 : Int32) : Option ((Nat → Int32)) := cn_rd v1 60 (cn_rd v2 60 ((F_jM_min_I (g_leader (Int32.toNatClampNeg v1)) (g_leader (Int32.toNatClampNeg v2))).bind fun t_8 => cn_rd v1 60 (cn_rd v2 60 ((F_jM_max_I (g_leader (Int32.toNatClampNeg v1)) (g_leader (Int32.toNatClampNeg v2))).bind fun t_12 => if t_8 = t_12 then (some (g_leader)) else (F_G_join_44 4096 g_leader t_8 t_12 t_12)))))
set_option maxRecDepth 100000 in
set_option maxHeartbeats 4000000 in
theorem t_G_join_0 {p : Program} {l : Launch} {e : Env} {s : State} {m : MethodId} {args : Array Value} {below : List Frame} {meth : Method} {c : Code} {D : va_G} {cy : Nat → ClassId} {A : Nat → Prop} {out : (Nat → Int32)} (C : cn_X p s m args c b_G_join 6 "CopperNets$Groups" D cy) (hr : meth.sig.returnType = none) (hlk : meth.locks = false) (hA : ∀ q, s.heap.size ≤ q → A q) (A_g : Nat) (A_g_leader : Nat) (g_leader : Nat → Int32) (v1 : Int32) (v2 : Int32) (hF : F_G_join_0 g_leader v1 v2 = some out) : cg p l e r_G_join s m args below meth c D (va_S A s.heap) A 6 0 0 (MQ below (cn_QW none D (w_G_join cy A_g A_g_leader out) A) args s 0 0 A) (w_G_join cy A_g A_g_leader g_leader) 0 [(0, .ref A_g), (1, .int v1), (2, .int v2)] [] := by
  refine cg_aload_n C d_G_join_0 0 rfl ?_
  refine cg_get C 0 0 d_G_join_1 rfl rfl hin_G (by decide) rfl tw_77 rfl ?_
  refine cg_iload_n C d_G_join_4 1 rfl ?_
  obtain ⟨i_5, hF⟩ := cn_rd_some hF
  refine cg_iald C 1 d_G_join_5 rfl i_5 ?_
  refine cg_aload_n C d_G_join_6 0 rfl ?_
  refine cg_get C 0 0 d_G_join_7 rfl rfl hin_G (by decide) rfl tw_77 rfl ?_
  refine cg_iload_n C d_G_join_10 2 rfl ?_
  obtain ⟨i_6, hF⟩ := cn_rd_some hF
  refine cg_iald C 1 d_G_join_11 rfl i_6 ?_
  obtain ⟨t_8, h_7, hF⟩ := cn_bind hF
  refine cg_callRS C (c_jM_min_I (g_leader (Int32.toNatClampNeg v1)) (g_leader (Int32.toNatClampNeg v2)) h_7) [] rfl (by decide) d_G_join_12 tw_221 tw_108 tw_6 tw_109 hs_jM_min_I ⟨by decide, by decide⟩ rfl rfl ⟨by decide, by decide⟩ (Nat.le_of_ble_eq_true rfl) rfl rfl ?_
  refine cg_istore_n (lv' := [(3, .int t_8), (0, .ref A_g), (1, .int v1), (2, .int v2)]) C d_G_join_15 (by decide) rfl ?_
  refine cg_aload_n C d_G_join_16 1 rfl ?_
  refine cg_get C 0 0 d_G_join_17 rfl rfl hin_G (by decide) rfl tw_77 rfl ?_
  refine cg_iload_n C d_G_join_20 2 rfl ?_
  obtain ⟨i_9, hF⟩ := cn_rd_some hF
  refine cg_iald C 1 d_G_join_21 rfl i_9 ?_
  refine cg_aload_n C d_G_join_22 1 rfl ?_
  refine cg_get C 0 0 d_G_join_23 rfl rfl hin_G (by decide) rfl tw_77 rfl ?_
  refine cg_iload_n C d_G_join_26 3 rfl ?_
  obtain ⟨i_10, hF⟩ := cn_rd_some hF
  refine cg_iald C 1 d_G_join_27 rfl i_10 ?_
  obtain ⟨t_12, h_11, hF⟩ := cn_bind hF
  refine cg_callRS C (c_jM_max_I (g_leader (Int32.toNatClampNeg v1)) (g_leader (Int32.toNatClampNeg v2)) h_11) [] rfl (by decide) d_G_join_28 tw_222 tw_111 tw_6 tw_112 hs_jM_max_I ⟨by decide, by decide⟩ rfl rfl ⟨by decide, by decide⟩ (Nat.le_of_ble_eq_true rfl) rfl rfl ?_
  refine cg_istore (lv' := [(4, .int t_12), (3, .int t_8), (0, .ref A_g), (1, .int v1), (2, .int v2)]) C d_G_join_31 (by decide) rfl ?_
  refine cg_iload_n C d_G_join_33 1 rfl ?_
  refine cg_iload C d_G_join_34 0 rfl ?_
  refine cg_icmp_ne C 40 d_G_join_36 (by decide) (fun q_13 => ?_) (fun q_13 => ?_)
  · have hF := cn_neg q_13 hF
    refine cg_iload C d_G_join_40 0 rfl ?_
    refine cg_istore (lv' := [(5, .int t_12), (4, .int t_12), (3, .int t_8), (0, .ref A_g), (1, .int v1), (2, .int v2)]) C d_G_join_42 (by decide) rfl ?_
    refine cg_sub (lv' := [(0, .ref A_g), (3, .int t_8), (4, .int t_12), (5, .int t_12)]) [3, 2, 1, 0] rfl ?_
    exact t_G_join_44 C hr hlk hA A_g A_g_leader 4096 g_leader t_8 t_12 t_12 hF
  · have hF := cn_pos q_13 hF
    obtain rfl := Option.some.inj hF
    exact cg_vretW C hr hlk d_G_join_39
abbrev F_G_join (g_leader : Nat → Int32) (v1 : Int32) (v2 : Int32) : Option ((Nat → Int32)) := F_G_join_0 g_leader v1 v2
theorem c_G_join {l : Launch} {D : va_G} {cy : Nat → ClassId} (A_g : Nat) (A_g_leader : Nat) (g_leader : Nat → Int32) (v1 : Int32) (v2 : Int32) {out : (Nat → Int32)} (hF : F_G_join g_leader v1 v2 = some out) : cn_MW l y_G_join b_G_join 6 (none) r_G_join D cy [.ref A_g, .int v1, .int v2] (w_G_join cy A_g A_g_leader g_leader) none (w_G_join cy A_g A_g_leader out) 0 0 :=
  cn_MW.of (by decide +kernel) (Nat.le_of_ble_eq_true rfl) (fun p e s m below meth c A C hr hlk hA => t_G_join_0 C hr hlk hA A_g A_g_leader g_leader v1 v2 hF)
/-! CopperNets$Groups.isLike(LCopperNets$Groups;)Z -/
abbrev r_G_isLike : Room := { frames := 0, cells := 0, slots := 0, locals := 0 }
abbrev w_G_isLike (cy : Nat → ClassId) (A_g : Nat) (A_g_leader : Nat) (A_og : Nat) (A_og_leader : Nat) (g_leader : Nat → Int32) (og_leader : Nat → Int32) : va_W := [(A_g, .inr (2, [.ref A_g_leader])), (A_g_leader, .inl (cy 0, 60, .inl g_leader)), (A_og, .inr (2, [.ref A_og_leader])), (A_og_leader, .inl (cy 0, 60, .inl og_leader))]
theorem hs_G_isLike : y_G_isLike.cls ≠ "java/lang/invoke/MethodHandle" ∧ y_G_isLike.cls ≠ "java/lang/invoke/VarHandle" ∧ (parseMethodDescriptor y_G_isLike.desc).map (fun d => d.parameters.length) = some 1 := by decide +kernel
def F_G_isLike_2 : Nat → (Nat → Int32) → (Nat → Int32) → Int32 → Option (Int32)
  | 0, _, _, _ => none
  | n + 1, g_leader, og_leader, v2 => if 60 ≤ v2 then (some (1)) else (cn_rd v2 60 (cn_rd v2 60 (if (g_leader (Int32.toNatClampNeg v2)) = (og_leader (Int32.toNatClampNeg v2)) then (F_G_isLike_2 n g_leader og_leader (v2 + 1)) else (some (0)))))
set_option maxRecDepth 100000 in
set_option maxHeartbeats 4000000 in
theorem t_G_isLike_2 {p : Program} {l : Launch} {e : Env} {s : State} {m : MethodId} {args : Array Value} {below : List Frame} {meth : Method} {c : Code} {D : va_G} {cy : Nat → ClassId} {out : Int32} (C : cn_X p s m args c b_G_isLike 3 "CopperNets$Groups" D cy) (hr : meth.sig.returnType = some .boolean) (hlk : meth.locks = false) (A_g : Nat) (A_g_leader : Nat) (A_og : Nat) (A_og_leader : Nat) : ∀ (n : Nat) (g_leader : Nat → Int32) (og_leader : Nat → Int32) (v2 : Int32), F_G_isLike_2 n g_leader og_leader v2 = some out → cg p l e r_G_isLike s m args below meth c D (cn_hi s) (fun _ => True) 3 0 0 (MQ below (cn_QR (some (.int out))) args s 0 0 (fun _ => False)) (w_G_isLike cy A_g A_g_leader A_og A_og_leader g_leader og_leader) 2 [(0, .ref A_g), (1, .ref A_og), (2, .int v2)] [] := by
  intro n
  induction n with
  | zero => intro g_leader og_leader v2 hF; exact nomatch (show (none : Option (Int32)) = some out from hF)
  | succ n ih =>
    intro g_leader og_leader v2 hF
    refine cg_iload_n C d_G_isLike_2 2 rfl ?_
    refine cg_bipush (v := 60) C d_G_isLike_3 (by decide) ?_
    refine cg_icmp_ge C 31 d_G_isLike_5 (by decide) (fun q_1 => ?_) (fun q_1 => ?_)
    · have hF := cn_pos q_1 hF
      refine cg_iconst (v := 1) C d_G_isLike_31 (by decide) ?_
      obtain rfl := Option.some.inj hF
      exact cg_zretR (v := 1) C hr rfl hlk d_G_isLike_32
    · have hF := cn_neg q_1 hF
      refine cg_aload_n C d_G_isLike_8 0 rfl ?_
      refine cg_get C 0 0 d_G_isLike_9 rfl rfl hin_G (by decide) rfl tw_77 rfl ?_
      refine cg_iload_n C d_G_isLike_12 2 rfl ?_
      obtain ⟨i_2, hF⟩ := cn_rd_some hF
      refine cg_iald C 1 d_G_isLike_13 rfl i_2 ?_
      refine cg_aload_n C d_G_isLike_14 1 rfl ?_
      refine cg_get C 2 0 d_G_isLike_15 rfl rfl hin_G (by decide) rfl tw_77 rfl ?_
      refine cg_iload_n C d_G_isLike_18 2 rfl ?_
      obtain ⟨i_3, hF⟩ := cn_rd_some hF
      refine cg_iald C 3 d_G_isLike_19 rfl i_3 ?_
      refine cg_icmp_eq C 25 d_G_isLike_20 (by decide) (fun q_4 => ?_) (fun q_4 => ?_)
      · have hF := cn_pos q_4 hF
        refine cg_iinc (v := v2 + 1) (lv' := [(2, .int (v2 + 1)), (0, .ref A_g), (1, .ref A_og)]) C d_G_isLike_25 2 rfl (by decide) rfl rfl ?_
        refine cg_goto C 2 d_G_isLike_28 (by decide) ?_
        refine cg_sub (lv' := [(0, .ref A_g), (1, .ref A_og), (2, .int (v2 + 1))]) [1, 2, 0] rfl ?_
        exact ih g_leader og_leader (v2 + 1) hF
      · have hF := cn_neg q_4 hF
        refine cg_iconst (v := 0) C d_G_isLike_23 (by decide) ?_
        obtain rfl := Option.some.inj hF
        exact cg_zretR (v := 0) C hr rfl hlk d_G_isLike_24
def F_G_isLike_0 (g_leader : Nat → Int32) (og_leader : Nat → Int32) : Option (Int32) := F_G_isLike_2 4096 g_leader og_leader 0
set_option maxRecDepth 100000 in
set_option maxHeartbeats 4000000 in
theorem t_G_isLike_0 {p : Program} {l : Launch} {e : Env} {s : State} {m : MethodId} {args : Array Value} {below : List Frame} {meth : Method} {c : Code} {D : va_G} {cy : Nat → ClassId} {out : Int32} (C : cn_X p s m args c b_G_isLike 3 "CopperNets$Groups" D cy) (hr : meth.sig.returnType = some .boolean) (hlk : meth.locks = false) (A_g : Nat) (A_g_leader : Nat) (A_og : Nat) (A_og_leader : Nat) (g_leader : Nat → Int32) (og_leader : Nat → Int32) (hF : F_G_isLike_0 g_leader og_leader = some out) : cg p l e r_G_isLike s m args below meth c D (cn_hi s) (fun _ => True) 3 0 0 (MQ below (cn_QR (some (.int out))) args s 0 0 (fun _ => False)) (w_G_isLike cy A_g A_g_leader A_og A_og_leader g_leader og_leader) 0 [(0, .ref A_g), (1, .ref A_og)] [] := by
  refine cg_iconst (v := 0) C d_G_isLike_0 (by decide) ?_
  refine cg_istore_n (lv' := [(2, .int 0), (0, .ref A_g), (1, .ref A_og)]) C d_G_isLike_1 (by decide) rfl ?_
  refine cg_sub (lv' := [(0, .ref A_g), (1, .ref A_og), (2, .int 0)]) [1, 2, 0] rfl ?_
  exact t_G_isLike_2 C hr hlk A_g A_g_leader A_og A_og_leader 4096 g_leader og_leader 0 hF
abbrev F_G_isLike (g_leader : Nat → Int32) (og_leader : Nat → Int32) : Option (Int32) := F_G_isLike_0 g_leader og_leader
theorem c_G_isLike {l : Launch} {D : va_G} {cy : Nat → ClassId} (A_g : Nat) (A_g_leader : Nat) (A_og : Nat) (A_og_leader : Nat) (g_leader : Nat → Int32) (og_leader : Nat → Int32) {out : Int32} (hF : F_G_isLike g_leader og_leader = some out) : cn_MR l y_G_isLike b_G_isLike 3 (some .boolean) r_G_isLike D cy [.ref A_g, .ref A_og] (w_G_isLike cy A_g A_g_leader A_og A_og_leader g_leader og_leader) (some (.int out)) :=
  cn_MR.of (by decide +kernel) (Nat.le_of_ble_eq_true rfl) (fun p e s m below meth c C hr hlk => t_G_isLike_0 C hr hlk A_g A_g_leader A_og A_og_leader g_leader og_leader hF)
/-! CopperNets$Pieces.hasPadOf(I)Z -/
abbrev r_P_hasPadOf : Room := { frames := 0, cells := 0, slots := 0, locals := 0 }
abbrev w_P_hasPadOf (cy : Nat → ClassId) (A_p : Nat) (A_p_there : Nat) (A_p_from : Nat) (A_p_to : Nat) (A_p_pin : Nat) (A_p_left : Nat) (A_p_low : Nat) (A_p_right : Nat) (A_p_high : Nat) (A_p_rim : Nat) (p_count : Int32) (p_there : Nat → Int32) (p_pin : Nat → Int32) : va_W := [(A_p, .inr (3, [.int p_count, .ref A_p_there, .ref A_p_from, .ref A_p_to, .ref A_p_pin, .ref A_p_left, .ref A_p_low, .ref A_p_right, .ref A_p_high, .ref A_p_rim])), (A_p_there, .inl (cy 2, 60, .inl p_there)), (A_p_pin, .inl (cy 0, 60, .inl p_pin))]
theorem hs_P_hasPadOf : y_P_hasPadOf.cls ≠ "java/lang/invoke/MethodHandle" ∧ y_P_hasPadOf.cls ≠ "java/lang/invoke/VarHandle" ∧ (parseMethodDescriptor y_P_hasPadOf.desc).map (fun d => d.parameters.length) = some 1 := by decide +kernel
def F_P_hasPadOf_31 (k_2 : Int32 → (Nat → Int32) → (Nat → Int32) → Int32 → Int32 → Option (Int32)) (p_count : Int32) (p_there : Nat → Int32) (p_pin : Nat → Int32) (v1 : Int32) (v2 : Int32) : Option (Int32) := k_2 p_count p_there p_pin v1 (v2 + 1)
set_option maxRecDepth 100000 in
set_option maxHeartbeats 4000000 in
theorem t_P_hasPadOf_31 {p : Program} {l : Launch} {e : Env} {s : State} {m : MethodId} {args : Array Value} {below : List Frame} {meth : Method} {c : Code} {D : va_G} {cy : Nat → ClassId} {out : Int32} (C : cn_X p s m args c b_P_hasPadOf 3 "CopperNets$Pieces" D cy) (hr : meth.sig.returnType = some .boolean) (hlk : meth.locks = false) (A_p : Nat) (A_p_there : Nat) (A_p_from : Nat) (A_p_to : Nat) (A_p_pin : Nat) (A_p_left : Nat) (A_p_low : Nat) (A_p_right : Nat) (A_p_high : Nat) (A_p_rim : Nat) (k_2 : Int32 → (Nat → Int32) → (Nat → Int32) → Int32 → Int32 → Option (Int32)) (hk_2 : ∀ (p_count : Int32) (p_there : Nat → Int32) (p_pin : Nat → Int32) (v1 : Int32) (v2 : Int32), k_2 p_count p_there p_pin v1 v2 = some out → cg p l e r_P_hasPadOf s m args below meth c D (cn_hi s) (fun _ => True) 3 0 0 (MQ below (cn_QR (some (.int out))) args s 0 0 (fun _ => False)) (w_P_hasPadOf cy A_p A_p_there A_p_from A_p_to A_p_pin A_p_left A_p_low A_p_right A_p_high A_p_rim p_count p_there p_pin) 2 [(0, .ref A_p), (1, .int v1), (2, .int v2)] []) (p_count : Int32) (p_there : Nat → Int32) (p_pin : Nat → Int32) (v1 : Int32) (v2 : Int32) (hF : F_P_hasPadOf_31 k_2 p_count p_there p_pin v1 v2 = some out) : cg p l e r_P_hasPadOf s m args below meth c D (cn_hi s) (fun _ => True) 3 0 0 (MQ below (cn_QR (some (.int out))) args s 0 0 (fun _ => False)) (w_P_hasPadOf cy A_p A_p_there A_p_from A_p_to A_p_pin A_p_left A_p_low A_p_right A_p_high A_p_rim p_count p_there p_pin) 31 [(0, .ref A_p), (1, .int v1), (2, .int v2)] [] := by
  refine cg_iinc (v := v2 + 1) (lv' := [(2, .int (v2 + 1)), (0, .ref A_p), (1, .int v1)]) C d_P_hasPadOf_31 2 rfl (by decide) rfl rfl ?_
  refine cg_goto C 2 d_P_hasPadOf_34 (by decide) ?_
  refine cg_sub (lv' := [(0, .ref A_p), (1, .int v1), (2, .int (v2 + 1))]) [1, 2, 0] rfl ?_
  exact hk_2 p_count p_there p_pin v1 (v2 + 1) hF
def F_P_hasPadOf_2 : Nat → Int32 → (Nat → Int32) → (Nat → Int32) → Int32 → Int32 → Option (Int32)
  | 0, _, _, _, _, _ => none
  | n + 1, p_count, p_there, p_pin, v1, v2 => if p_count ≤ v2 then (some (0)) else (cn_rd v2 60 (if (p_there (Int32.toNatClampNeg v2)) = 0 then (F_P_hasPadOf_31 (F_P_hasPadOf_2 n) p_count p_there p_pin v1 v2) else (cn_rd v2 60 (if (p_pin (Int32.toNatClampNeg v2)) = v1 then (some (1)) else (F_P_hasPadOf_31 (F_P_hasPadOf_2 n) p_count p_there p_pin v1 v2)))))
set_option maxRecDepth 100000 in
set_option maxHeartbeats 4000000 in
theorem t_P_hasPadOf_2 {p : Program} {l : Launch} {e : Env} {s : State} {m : MethodId} {args : Array Value} {below : List Frame} {meth : Method} {c : Code} {D : va_G} {cy : Nat → ClassId} {out : Int32} (C : cn_X p s m args c b_P_hasPadOf 3 "CopperNets$Pieces" D cy) (hr : meth.sig.returnType = some .boolean) (hlk : meth.locks = false) (A_p : Nat) (A_p_there : Nat) (A_p_from : Nat) (A_p_to : Nat) (A_p_pin : Nat) (A_p_left : Nat) (A_p_low : Nat) (A_p_right : Nat) (A_p_high : Nat) (A_p_rim : Nat) : ∀ (n : Nat) (p_count : Int32) (p_there : Nat → Int32) (p_pin : Nat → Int32) (v1 : Int32) (v2 : Int32), F_P_hasPadOf_2 n p_count p_there p_pin v1 v2 = some out → cg p l e r_P_hasPadOf s m args below meth c D (cn_hi s) (fun _ => True) 3 0 0 (MQ below (cn_QR (some (.int out))) args s 0 0 (fun _ => False)) (w_P_hasPadOf cy A_p A_p_there A_p_from A_p_to A_p_pin A_p_left A_p_low A_p_right A_p_high A_p_rim p_count p_there p_pin) 2 [(0, .ref A_p), (1, .int v1), (2, .int v2)] [] := by
  intro n
  induction n with
  | zero => intro p_count p_there p_pin v1 v2 hF; exact nomatch (show (none : Option (Int32)) = some out from hF)
  | succ n ih =>
    intro p_count p_there p_pin v1 v2 hF
    refine cg_iload_n C d_P_hasPadOf_2 2 rfl ?_
    refine cg_aload_n C d_P_hasPadOf_3 0 rfl ?_
    refine cg_get C 0 0 d_P_hasPadOf_4 rfl rfl hin_P (by decide) rfl tw_29 rfl ?_
    refine cg_icmp_ge C 37 d_P_hasPadOf_7 (by decide) (fun q_1 => ?_) (fun q_1 => ?_)
    · have hF := cn_pos q_1 hF
      refine cg_iconst (v := 0) C d_P_hasPadOf_37 (by decide) ?_
      obtain rfl := Option.some.inj hF
      exact cg_zretR (v := 0) C hr rfl hlk d_P_hasPadOf_38
    · have hF := cn_neg q_1 hF
      refine cg_aload_n C d_P_hasPadOf_10 0 rfl ?_
      refine cg_get C 0 1 d_P_hasPadOf_11 rfl rfl hin_P (by decide) rfl tw_31 rfl ?_
      refine cg_iload_n C d_P_hasPadOf_14 2 rfl ?_
      obtain ⟨i_2, hF⟩ := cn_rd_some hF
      refine cg_zald C 1 d_P_hasPadOf_15 rfl i_2 ?_
      refine cg_if_eq C 31 d_P_hasPadOf_16 (by decide) (fun q_3 => ?_) (fun q_3 => ?_)
      · have hF := cn_pos q_3 hF
        exact t_P_hasPadOf_31 C hr hlk A_p A_p_there A_p_from A_p_to A_p_pin A_p_left A_p_low A_p_right A_p_high A_p_rim (F_P_hasPadOf_2 n) ih p_count p_there p_pin v1 v2 hF
      · have hF := cn_neg q_3 hF
        refine cg_aload_n C d_P_hasPadOf_19 0 rfl ?_
        refine cg_get C 0 4 d_P_hasPadOf_20 rfl rfl hin_P (by decide) rfl tw_34 rfl ?_
        refine cg_iload_n C d_P_hasPadOf_23 2 rfl ?_
        obtain ⟨i_4, hF⟩ := cn_rd_some hF
        refine cg_iald C 2 d_P_hasPadOf_24 rfl i_4 ?_
        refine cg_iload_n C d_P_hasPadOf_25 1 rfl ?_
        refine cg_icmp_ne C 31 d_P_hasPadOf_26 (by decide) (fun q_5 => ?_) (fun q_5 => ?_)
        · have hF := cn_neg q_5 hF
          exact t_P_hasPadOf_31 C hr hlk A_p A_p_there A_p_from A_p_to A_p_pin A_p_left A_p_low A_p_right A_p_high A_p_rim (F_P_hasPadOf_2 n) ih p_count p_there p_pin v1 v2 hF
        · have hF := cn_pos q_5 hF
          refine cg_iconst (v := 1) C d_P_hasPadOf_29 (by decide) ?_
          obtain rfl := Option.some.inj hF
          exact cg_zretR (v := 1) C hr rfl hlk d_P_hasPadOf_30
def F_P_hasPadOf_0 (p_count : Int32) (p_there : Nat → Int32) (p_pin : Nat → Int32) (v1 : Int32) : Option (Int32) := F_P_hasPadOf_2 4096 p_count p_there p_pin v1 0
set_option maxRecDepth 100000 in
set_option maxHeartbeats 4000000 in
theorem t_P_hasPadOf_0 {p : Program} {l : Launch} {e : Env} {s : State} {m : MethodId} {args : Array Value} {below : List Frame} {meth : Method} {c : Code} {D : va_G} {cy : Nat → ClassId} {out : Int32} (C : cn_X p s m args c b_P_hasPadOf 3 "CopperNets$Pieces" D cy) (hr : meth.sig.returnType = some .boolean) (hlk : meth.locks = false) (A_p : Nat) (A_p_there : Nat) (A_p_from : Nat) (A_p_to : Nat) (A_p_pin : Nat) (A_p_left : Nat) (A_p_low : Nat) (A_p_right : Nat) (A_p_high : Nat) (A_p_rim : Nat) (p_count : Int32) (p_there : Nat → Int32) (p_pin : Nat → Int32) (v1 : Int32) (hF : F_P_hasPadOf_0 p_count p_there p_pin v1 = some out) : cg p l e r_P_hasPadOf s m args below meth c D (cn_hi s) (fun _ => True) 3 0 0 (MQ below (cn_QR (some (.int out))) args s 0 0 (fun _ => False)) (w_P_hasPadOf cy A_p A_p_there A_p_from A_p_to A_p_pin A_p_left A_p_low A_p_right A_p_high A_p_rim p_count p_there p_pin) 0 [(0, .ref A_p), (1, .int v1)] [] := by
  refine cg_iconst (v := 0) C d_P_hasPadOf_0 (by decide) ?_
  refine cg_istore_n (lv' := [(2, .int 0), (0, .ref A_p), (1, .int v1)]) C d_P_hasPadOf_1 (by decide) rfl ?_
  refine cg_sub (lv' := [(0, .ref A_p), (1, .int v1), (2, .int 0)]) [1, 2, 0] rfl ?_
  exact t_P_hasPadOf_2 C hr hlk A_p A_p_there A_p_from A_p_to A_p_pin A_p_left A_p_low A_p_right A_p_high A_p_rim 4096 p_count p_there p_pin v1 0 hF
abbrev F_P_hasPadOf (p_count : Int32) (p_there : Nat → Int32) (p_pin : Nat → Int32) (v1 : Int32) : Option (Int32) := F_P_hasPadOf_0 p_count p_there p_pin v1
theorem c_P_hasPadOf {l : Launch} {D : va_G} {cy : Nat → ClassId} (A_p : Nat) (A_p_there : Nat) (A_p_from : Nat) (A_p_to : Nat) (A_p_pin : Nat) (A_p_left : Nat) (A_p_low : Nat) (A_p_right : Nat) (A_p_high : Nat) (A_p_rim : Nat) (p_count : Int32) (p_there : Nat → Int32) (p_pin : Nat → Int32) (v1 : Int32) {out : Int32} (hF : F_P_hasPadOf p_count p_there p_pin v1 = some out) : cn_MR l y_P_hasPadOf b_P_hasPadOf 3 (some .boolean) r_P_hasPadOf D cy [.ref A_p, .int v1] (w_P_hasPadOf cy A_p A_p_there A_p_from A_p_to A_p_pin A_p_left A_p_low A_p_right A_p_high A_p_rim p_count p_there p_pin) (some (.int out)) :=
  cn_MR.of (by decide +kernel) (Nat.le_of_ble_eq_true rfl) (fun p e s m below meth c C hr hlk => t_P_hasPadOf_0 C hr hlk A_p A_p_there A_p_from A_p_to A_p_pin A_p_left A_p_low A_p_right A_p_high A_p_rim p_count p_there p_pin v1 hF)
/-! CopperNets$Airlines.clear()V -/
abbrev r_A_clear : Room := { frames := 0, cells := 0, slots := 0, locals := 0 }
abbrev w_A_clear (cy : Nat → ClassId) (A_a : Nat) (A_a_pairs : Nat) (A_a_pads : Nat) (A_a_reached : Nat) (A_a_nearest : Nat) (a_count : Int32) (a_padCount : Int32) : va_W := [(A_a, .inr (1, [.int a_count, .ref A_a_pairs, .int a_padCount, .ref A_a_pads, .ref A_a_reached, .ref A_a_nearest]))]
theorem hs_A_clear : y_A_clear.cls ≠ "java/lang/invoke/MethodHandle" ∧ y_A_clear.cls ≠ "java/lang/invoke/VarHandle" ∧ (parseMethodDescriptor y_A_clear.desc).map (fun d => d.parameters.length) = some 0 := by decide +kernel
def F_A_clear_0 (a_count : Int32) (a_padCount : Int32) : Option (Int32 × Int32) := some (0, 0)
set_option maxRecDepth 100000 in
set_option maxHeartbeats 4000000 in
theorem t_A_clear_0 {p : Program} {l : Launch} {e : Env} {s : State} {m : MethodId} {args : Array Value} {below : List Frame} {meth : Method} {c : Code} {D : va_G} {cy : Nat → ClassId} {A : Nat → Prop} {out : Int32 × Int32} (C : cn_X p s m args c b_A_clear 1 "CopperNets$Airlines" D cy) (hr : meth.sig.returnType = none) (hlk : meth.locks = false) (hA : ∀ q, s.heap.size ≤ q → A q) (A_a : Nat) (A_a_pairs : Nat) (A_a_pads : Nat) (A_a_reached : Nat) (A_a_nearest : Nat) (a_count : Int32) (a_padCount : Int32) (hF : F_A_clear_0 a_count a_padCount = some out) : cg p l e r_A_clear s m args below meth c D (va_S A s.heap) A 1 0 0 (MQ below (cn_QW none D (w_A_clear cy A_a A_a_pairs A_a_pads A_a_reached A_a_nearest out.1 out.2) A) args s 0 0 A) (w_A_clear cy A_a A_a_pairs A_a_pads A_a_reached A_a_nearest a_count a_padCount) 0 [(0, .ref A_a)] [] := by
  refine cg_aload_n C d_A_clear_0 0 rfl ?_
  refine cg_iconst (v := 0) C d_A_clear_1 (by decide) ?_
  refine cg_put (ws' := w_A_clear cy A_a A_a_pairs A_a_pads A_a_reached A_a_nearest 0 a_padCount) C 0 0 t_A d_A_clear_2 rfl rfl hin_A tt_A n_A (by decide) rfl tw_87 rfl rfl (Nat.le_of_ble_eq_true rfl) rfl ?_
  refine cg_aload_n C d_A_clear_5 0 rfl ?_
  refine cg_iconst (v := 0) C d_A_clear_6 (by decide) ?_
  refine cg_put (ws' := w_A_clear cy A_a A_a_pairs A_a_pads A_a_reached A_a_nearest 0 0) C 0 2 t_A d_A_clear_7 rfl rfl hin_A tt_A n_A (by decide) rfl tw_90 rfl rfl (Nat.le_of_ble_eq_true rfl) rfl ?_
  obtain rfl := Option.some.inj hF
  exact cg_vretW C hr hlk d_A_clear_10
abbrev F_A_clear (a_count : Int32) (a_padCount : Int32) : Option (Int32 × Int32) := F_A_clear_0 a_count a_padCount
theorem c_A_clear {l : Launch} {D : va_G} {cy : Nat → ClassId} (A_a : Nat) (A_a_pairs : Nat) (A_a_pads : Nat) (A_a_reached : Nat) (A_a_nearest : Nat) (a_count : Int32) (a_padCount : Int32) {out : Int32 × Int32} (hF : F_A_clear a_count a_padCount = some out) : cn_MW l y_A_clear b_A_clear 1 (none) r_A_clear D cy [.ref A_a] (w_A_clear cy A_a A_a_pairs A_a_pads A_a_reached A_a_nearest a_count a_padCount) none (w_A_clear cy A_a A_a_pairs A_a_pads A_a_reached A_a_nearest out.1 out.2) 0 0 :=
  cn_MW.of (by decide +kernel) (Nat.le_of_ble_eq_true rfl) (fun p e s m below meth c A C hr hlk hA => t_A_clear_0 C hr hlk hA A_a A_a_pairs A_a_pads A_a_reached A_a_nearest a_count a_padCount hF)
/-! CopperNets$Airlines.addPad(I)V -/
abbrev r_A_addPad : Room := { frames := 0, cells := 0, slots := 0, locals := 0 }
abbrev w_A_addPad (cy : Nat → ClassId) (A_a : Nat) (A_a_pairs : Nat) (A_a_pads : Nat) (A_a_reached : Nat) (A_a_nearest : Nat) (a_count : Int32) (a_padCount : Int32) (a_pads : Nat → Int32) (a_reached : Nat → Int32) (a_nearest : Nat → Int64) : va_W := [(A_a, .inr (1, [.int a_count, .ref A_a_pairs, .int a_padCount, .ref A_a_pads, .ref A_a_reached, .ref A_a_nearest])), (A_a_pads, .inl (cy 0, 60, .inl a_pads)), (A_a_reached, .inl (cy 2, 60, .inl a_reached)), (A_a_nearest, .inl (cy 1, 60, .inr (.inl a_nearest)))]
theorem hs_A_addPad : y_A_addPad.cls ≠ "java/lang/invoke/MethodHandle" ∧ y_A_addPad.cls ≠ "java/lang/invoke/VarHandle" ∧ (parseMethodDescriptor y_A_addPad.desc).map (fun d => d.parameters.length) = some 1 := by decide +kernel
def F_A_addPad_51 (a_padCount : Int32) (a_pads : Nat → Int32) (a_reached : Nat → Int32) (a_nearest : Nat → Int64) : Option (Int32 × (Nat → Int32) × (Nat → Int32) × (Nat → Int64)) := some (a_padCount, a_pads, a_reached, a_nearest)
set_option maxRecDepth 100000 in
set_option maxHeartbeats 4000000 in
theorem t_A_addPad_51 {p : Program} {l : Launch} {e : Env} {s : State} {m : MethodId} {args : Array Value} {below : List Frame} {meth : Method} {c : Code} {D : va_G} {cy : Nat → ClassId} {A : Nat → Prop} {out : Int32 × (Nat → Int32) × (Nat → Int32) × (Nat → Int64)} (C : cn_X p s m args c b_A_addPad 2 "CopperNets$Airlines" D cy) (hr : meth.sig.returnType = none) (hlk : meth.locks = false) (hA : ∀ q, s.heap.size ≤ q → A q) (A_a : Nat) (A_a_pairs : Nat) (A_a_pads : Nat) (A_a_reached : Nat) (A_a_nearest : Nat) (a_count : Int32) (a_padCount : Int32) (a_pads : Nat → Int32) (a_reached : Nat → Int32) (a_nearest : Nat → Int64) (hF : F_A_addPad_51 a_padCount a_pads a_reached a_nearest = some out) : cg p l e r_A_addPad s m args below meth c D (va_S A s.heap) A 2 0 0 (MQ below (cn_QW none D (w_A_addPad cy A_a A_a_pairs A_a_pads A_a_reached A_a_nearest a_count out.1 out.2.1 out.2.2.1 out.2.2.2) A) args s 0 0 A) (w_A_addPad cy A_a A_a_pairs A_a_pads A_a_reached A_a_nearest a_count a_padCount a_pads a_reached a_nearest) 51 [] [] := by
  obtain rfl := Option.some.inj hF
  exact cg_vretW C hr hlk d_A_addPad_51
def F_A_addPad_0 (a_padCount : Int32) (a_pads : Nat → Int32) (a_reached : Nat → Int32) (a_nearest : Nat → Int64) (v1 : Int32) : Option (Int32 × (Nat → Int32) × (Nat → Int32) × (Nat → Int64)) := if 60 ≤ a_padCount then (F_A_addPad_51 a_padCount a_pads a_reached a_nearest) else (cn_rd a_padCount 60 (cn_rd a_padCount 60 (cn_rd a_padCount 60 (F_A_addPad_51 (a_padCount + 1) (upd a_pads (Int32.toNatClampNeg a_padCount) v1) (upd a_reached (Int32.toNatClampNeg a_padCount) (vp_nar .boolean 0)) (vp_updL a_nearest (Int32.toNatClampNeg a_padCount) 9223372036854775807)))))
set_option maxRecDepth 100000 in
set_option maxHeartbeats 4000000 in
theorem t_A_addPad_0 {p : Program} {l : Launch} {e : Env} {s : State} {m : MethodId} {args : Array Value} {below : List Frame} {meth : Method} {c : Code} {D : va_G} {cy : Nat → ClassId} {A : Nat → Prop} {out : Int32 × (Nat → Int32) × (Nat → Int32) × (Nat → Int64)} (C : cn_X p s m args c b_A_addPad 2 "CopperNets$Airlines" D cy) (hr : meth.sig.returnType = none) (hlk : meth.locks = false) (hA : ∀ q, s.heap.size ≤ q → A q) (A_a : Nat) (A_a_pairs : Nat) (A_a_pads : Nat) (A_a_reached : Nat) (A_a_nearest : Nat) (a_count : Int32) (a_padCount : Int32) (a_pads : Nat → Int32) (a_reached : Nat → Int32) (a_nearest : Nat → Int64) (v1 : Int32) (hF : F_A_addPad_0 a_padCount a_pads a_reached a_nearest v1 = some out) : cg p l e r_A_addPad s m args below meth c D (va_S A s.heap) A 2 0 0 (MQ below (cn_QW none D (w_A_addPad cy A_a A_a_pairs A_a_pads A_a_reached A_a_nearest a_count out.1 out.2.1 out.2.2.1 out.2.2.2) A) args s 0 0 A) (w_A_addPad cy A_a A_a_pairs A_a_pads A_a_reached A_a_nearest a_count a_padCount a_pads a_reached a_nearest) 0 [(0, .ref A_a), (1, .int v1)] [] := by
  refine cg_aload_n C d_A_addPad_0 0 rfl ?_
  refine cg_get C 0 2 d_A_addPad_1 rfl rfl hin_A (by decide) rfl tw_90 rfl ?_
  refine cg_bipush (v := 60) C d_A_addPad_4 (by decide) ?_
  refine cg_icmp_ge C 51 d_A_addPad_6 (by decide) (fun q_1 => ?_) (fun q_1 => ?_)
  · have hF := cn_pos q_1 hF
    refine cg_sub (lv' := []) [] rfl ?_
    exact t_A_addPad_51 C hr hlk hA A_a A_a_pairs A_a_pads A_a_reached A_a_nearest a_count a_padCount a_pads a_reached a_nearest hF
  · have hF := cn_neg q_1 hF
    refine cg_aload_n C d_A_addPad_9 0 rfl ?_
    refine cg_get C 0 3 d_A_addPad_10 rfl rfl hin_A (by decide) rfl tw_91 rfl ?_
    refine cg_aload_n C d_A_addPad_13 0 rfl ?_
    refine cg_get C 0 2 d_A_addPad_14 rfl rfl hin_A (by decide) rfl tw_90 rfl ?_
    refine cg_iload_n C d_A_addPad_17 1 rfl ?_
    obtain ⟨i_2, hF⟩ := cn_rd_some hF
    refine cg_iast (ws' := w_A_addPad cy A_a A_a_pairs A_a_pads A_a_reached A_a_nearest a_count a_padCount (upd a_pads (Int32.toNatClampNeg a_padCount) v1) a_reached a_nearest) C 1 d_A_addPad_18 rfl i_2 rfl ?_
    refine cg_aload_n C d_A_addPad_19 0 rfl ?_
    refine cg_get C 0 4 d_A_addPad_20 rfl rfl hin_A (by decide) rfl tw_92 rfl ?_
    refine cg_aload_n C d_A_addPad_23 0 rfl ?_
    refine cg_get C 0 2 d_A_addPad_24 rfl rfl hin_A (by decide) rfl tw_90 rfl ?_
    refine cg_iconst (v := 0) C d_A_addPad_27 (by decide) ?_
    obtain ⟨i_3, hF⟩ := cn_rd_some hF
    refine cg_zast (ws' := w_A_addPad cy A_a A_a_pairs A_a_pads A_a_reached A_a_nearest a_count a_padCount (upd a_pads (Int32.toNatClampNeg a_padCount) v1) (upd a_reached (Int32.toNatClampNeg a_padCount) (vp_nar .boolean 0)) a_nearest) C 2 d_A_addPad_28 rfl i_3 rfl ?_
    refine cg_aload_n C d_A_addPad_29 0 rfl ?_
    refine cg_get C 0 5 d_A_addPad_30 rfl rfl hin_A (by decide) rfl tw_93 rfl ?_
    refine cg_aload_n C d_A_addPad_33 0 rfl ?_
    refine cg_get C 0 2 d_A_addPad_34 rfl rfl hin_A (by decide) rfl tw_90 rfl ?_
    refine cg_ldc2 (v := 9223372036854775807) C d_A_addPad_37 tw_253 ?_
    obtain ⟨i_4, hF⟩ := cn_rd_some hF
    refine cg_last (ws' := w_A_addPad cy A_a A_a_pairs A_a_pads A_a_reached A_a_nearest a_count a_padCount (upd a_pads (Int32.toNatClampNeg a_padCount) v1) (upd a_reached (Int32.toNatClampNeg a_padCount) (vp_nar .boolean 0)) (vp_updL a_nearest (Int32.toNatClampNeg a_padCount) 9223372036854775807)) C 3 d_A_addPad_40 rfl i_4 rfl ?_
    refine cg_aload_n C d_A_addPad_41 0 rfl ?_
    refine cg_dup C d_A_addPad_42 rfl ?_
    refine cg_get C 0 2 d_A_addPad_43 rfl rfl hin_A (by decide) rfl tw_90 rfl ?_
    refine cg_iconst (v := 1) C d_A_addPad_46 (by decide) ?_
    refine cg_iadd C d_A_addPad_47 ?_
    refine cg_put (ws' := w_A_addPad cy A_a A_a_pairs A_a_pads A_a_reached A_a_nearest a_count (a_padCount + 1) (upd a_pads (Int32.toNatClampNeg a_padCount) v1) (upd a_reached (Int32.toNatClampNeg a_padCount) (vp_nar .boolean 0)) (vp_updL a_nearest (Int32.toNatClampNeg a_padCount) 9223372036854775807)) C 0 2 t_A d_A_addPad_48 rfl rfl hin_A tt_A n_A (by decide) rfl tw_90 rfl rfl (Nat.le_of_ble_eq_true rfl) rfl ?_
    refine cg_sub (lv' := []) [] rfl ?_
    exact t_A_addPad_51 C hr hlk hA A_a A_a_pairs A_a_pads A_a_reached A_a_nearest a_count (a_padCount + 1) (upd a_pads (Int32.toNatClampNeg a_padCount) v1) (upd a_reached (Int32.toNatClampNeg a_padCount) (vp_nar .boolean 0)) (vp_updL a_nearest (Int32.toNatClampNeg a_padCount) 9223372036854775807) hF
abbrev F_A_addPad (a_padCount : Int32) (a_pads : Nat → Int32) (a_reached : Nat → Int32) (a_nearest : Nat → Int64) (v1 : Int32) : Option (Int32 × (Nat → Int32) × (Nat → Int32) × (Nat → Int64)) := F_A_addPad_0 a_padCount a_pads a_reached a_nearest v1
theorem c_A_addPad {l : Launch} {D : va_G} {cy : Nat → ClassId} (A_a : Nat) (A_a_pairs : Nat) (A_a_pads : Nat) (A_a_reached : Nat) (A_a_nearest : Nat) (a_count : Int32) (a_padCount : Int32) (a_pads : Nat → Int32) (a_reached : Nat → Int32) (a_nearest : Nat → Int64) (v1 : Int32) {out : Int32 × (Nat → Int32) × (Nat → Int32) × (Nat → Int64)} (hF : F_A_addPad a_padCount a_pads a_reached a_nearest v1 = some out) : cn_MW l y_A_addPad b_A_addPad 2 (none) r_A_addPad D cy [.ref A_a, .int v1] (w_A_addPad cy A_a A_a_pairs A_a_pads A_a_reached A_a_nearest a_count a_padCount a_pads a_reached a_nearest) none (w_A_addPad cy A_a A_a_pairs A_a_pads A_a_reached A_a_nearest a_count out.1 out.2.1 out.2.2.1 out.2.2.2) 0 0 :=
  cn_MW.of (by decide +kernel) (Nat.le_of_ble_eq_true rfl) (fun p e s m below meth c A C hr hlk hA => t_A_addPad_0 C hr hlk hA A_a A_a_pairs A_a_pads A_a_reached A_a_nearest a_count a_padCount a_pads a_reached a_nearest v1 hF)
/-! CopperNets$Pair.of(JII)J -/
abbrev r_Q_of : Room := { frames := 1, cells := 0, slots := 0, locals := 21 }
abbrev w_Q_of (cy : Nat → ClassId) : va_W := []
theorem hs_Q_of : y_Q_of.cls ≠ "java/lang/invoke/MethodHandle" ∧ y_Q_of.cls ≠ "java/lang/invoke/VarHandle" ∧ (parseMethodDescriptor y_Q_of.desc).map (fun d => d.parameters.length) = some 3 := by decide +kernel
def F_Q_of_0 (v0 : Int64) (v2 : Int32) (v3 : Int32) : Option (Int64) := (F_jM_min_I v2 v3).bind fun t_2 => (F_jM_max_I v2 v3).bind fun t_4 => some (((((v0 <<< (Int32.toInt64 6 &&& 63)) ||| (Int32.toInt64 t_2)) <<< (Int32.toInt64 6 &&& 63)) ||| (Int32.toInt64 t_4)))
set_option maxRecDepth 100000 in
set_option maxHeartbeats 4000000 in
theorem t_Q_of_0 {p : Program} {l : Launch} {e : Env} {s : State} {m : MethodId} {args : Array Value} {below : List Frame} {meth : Method} {c : Code} {D : va_G} {cy : Nat → ClassId} {out : Int64} (C : cn_X p s m args c b_Q_of 8 "CopperNets$Pair" D cy) (hr : meth.sig.returnType = some .long) (hlk : meth.locks = false) (v0 : Int64) (v2 : Int32) (v3 : Int32) (hF : F_Q_of_0 v0 v2 v3 = some out) : cg p l e r_Q_of s m args below meth c D (cn_hi s) (fun _ => True) 8 0 0 (MQ below (cn_QR (some (.long out))) args s 0 0 (fun _ => False)) (w_Q_of cy) 0 [(0, .long v0), (2, .int v2), (3, .int v3)] [] := by
  refine cg_iload_n C d_Q_of_0 1 rfl ?_
  refine cg_iload_n C d_Q_of_1 2 rfl ?_
  obtain ⟨t_2, h_1, hF⟩ := cn_bind hF
  refine cg_callRS C (c_jM_min_I v2 v3 h_1) [] rfl (by decide) d_Q_of_2 tw_271 tw_108 tw_6 tw_109 hs_jM_min_I ⟨by decide, by decide⟩ rfl rfl ⟨by decide, by decide⟩ (Nat.le_of_ble_eq_true rfl) rfl rfl ?_
  refine cg_i2l C d_Q_of_5 ?_
  refine cg_lstore (lv' := [(4, .long (Int32.toInt64 t_2)), (0, .long v0), (2, .int v2), (3, .int v3)]) C d_Q_of_6 (by decide) rfl ?_
  refine cg_iload_n C d_Q_of_8 2 rfl ?_
  refine cg_iload_n C d_Q_of_9 3 rfl ?_
  obtain ⟨t_4, h_3, hF⟩ := cn_bind hF
  refine cg_callRS C (c_jM_max_I v2 v3 h_3) [] rfl (by decide) d_Q_of_10 tw_272 tw_111 tw_6 tw_112 hs_jM_max_I ⟨by decide, by decide⟩ rfl rfl ⟨by decide, by decide⟩ (Nat.le_of_ble_eq_true rfl) rfl rfl ?_
  refine cg_i2l C d_Q_of_13 ?_
  refine cg_lstore (lv' := [(6, .long (Int32.toInt64 t_4)), (4, .long (Int32.toInt64 t_2)), (0, .long v0), (2, .int v2), (3, .int v3)]) C d_Q_of_14 (by decide) rfl ?_
  refine cg_lload_n C d_Q_of_16 2 rfl ?_
  refine cg_bipush (v := 6) C d_Q_of_17 (by decide) ?_
  refine cg_lshl C d_Q_of_19 ?_
  refine cg_lload C d_Q_of_20 1 rfl ?_
  refine cg_lor C d_Q_of_22 ?_
  refine cg_bipush (v := 6) C d_Q_of_23 (by decide) ?_
  refine cg_lshl C d_Q_of_25 ?_
  refine cg_lload C d_Q_of_26 0 rfl ?_
  refine cg_lor C d_Q_of_28 ?_
  obtain rfl := Option.some.inj hF
  exact cg_lretR C hr hlk d_Q_of_29
abbrev F_Q_of (v0 : Int64) (v2 : Int32) (v3 : Int32) : Option (Int64) := F_Q_of_0 v0 v2 v3
theorem c_Q_of {l : Launch} {D : va_G} {cy : Nat → ClassId} (v0 : Int64) (v2 : Int32) (v3 : Int32) {out : Int64} (hF : F_Q_of v0 v2 v3 = some out) : cn_MR l y_Q_of b_Q_of 8 (some .long) r_Q_of D cy [.long v0, .int v2, .int v3] (w_Q_of cy) (some (.long out)) :=
  cn_MR.of (by decide +kernel) (Nat.le_of_ble_eq_true rfl) (fun p e s m below meth c C hr hlk => t_Q_of_0 C hr hlk v0 v2 v3 hF)
/-! java/lang/Math.min(JJ)J -/
abbrev r_jM_min_J : Room := { frames := 0, cells := 0, slots := 0, locals := 0 }
abbrev w_jM_min_J (cy : Nat → ClassId) : va_W := []
theorem hs_jM_min_J : y_jM_min_J.cls ≠ "java/lang/invoke/MethodHandle" ∧ y_jM_min_J.cls ≠ "java/lang/invoke/VarHandle" ∧ (parseMethodDescriptor y_jM_min_J.desc).map (fun d => d.parameters.length) = some 2 := by decide +kernel
def F_jM_min_J_11 (s0 : Int64) : Option (Int64) := some (s0)
set_option maxRecDepth 100000 in
set_option maxHeartbeats 4000000 in
theorem t_jM_min_J_11 {p : Program} {l : Launch} {e : Env} {s : State} {m : MethodId} {args : Array Value} {below : List Frame} {meth : Method} {c : Code} {D : va_G} {cy : Nat → ClassId} {out : Int64} (C : cn_X p s m args c b_jM_min_J 4 "java/lang/Math" D cy) (hr : meth.sig.returnType = some .long) (hlk : meth.locks = false) (s0 : Int64) (hF : F_jM_min_J_11 s0 = some out) : cg p l e r_jM_min_J s m args below meth c D (cn_hi s) (fun _ => True) 4 0 0 (MQ below (cn_QR (some (.long out))) args s 0 0 (fun _ => False)) (w_jM_min_J cy) 11 [] [.long s0] := by
  obtain rfl := Option.some.inj hF
  exact cg_lretR C hr hlk d_jM_min_J_11
def F_jM_min_J_0 (v0 : Int64) (v2 : Int64) : Option (Int64) := if 0 < (lg_cmp v0 v2) then (F_jM_min_J_11 v2) else (F_jM_min_J_11 v0)
set_option maxRecDepth 100000 in
set_option maxHeartbeats 4000000 in
theorem t_jM_min_J_0 {p : Program} {l : Launch} {e : Env} {s : State} {m : MethodId} {args : Array Value} {below : List Frame} {meth : Method} {c : Code} {D : va_G} {cy : Nat → ClassId} {out : Int64} (C : cn_X p s m args c b_jM_min_J 4 "java/lang/Math" D cy) (hr : meth.sig.returnType = some .long) (hlk : meth.locks = false) (v0 : Int64) (v2 : Int64) (hF : F_jM_min_J_0 v0 v2 = some out) : cg p l e r_jM_min_J s m args below meth c D (cn_hi s) (fun _ => True) 4 0 0 (MQ below (cn_QR (some (.long out))) args s 0 0 (fun _ => False)) (w_jM_min_J cy) 0 [(0, .long v0), (2, .long v2)] [] := by
  refine cg_lload_n C d_jM_min_J_0 0 rfl ?_
  refine cg_lload_n C d_jM_min_J_1 1 rfl ?_
  refine cg_lcmp C d_jM_min_J_2 ?_
  refine cg_if_gt C 10 d_jM_min_J_3 (by decide) (fun q_1 => ?_) (fun q_1 => ?_)
  · have hF := cn_pos q_1 hF
    refine cg_lload_n C d_jM_min_J_10 1 rfl ?_
    refine cg_sub (lv' := []) [] rfl ?_
    exact t_jM_min_J_11 C hr hlk v2 hF
  · have hF := cn_neg q_1 hF
    refine cg_lload_n C d_jM_min_J_6 0 rfl ?_
    refine cg_goto C 11 d_jM_min_J_7 (by decide) ?_
    refine cg_sub (lv' := []) [] rfl ?_
    exact t_jM_min_J_11 C hr hlk v0 hF
abbrev F_jM_min_J (v0 : Int64) (v2 : Int64) : Option (Int64) := F_jM_min_J_0 v0 v2
theorem c_jM_min_J {l : Launch} {D : va_G} {cy : Nat → ClassId} (v0 : Int64) (v2 : Int64) {out : Int64} (hF : F_jM_min_J v0 v2 = some out) : cn_MR l y_jM_min_J b_jM_min_J 4 (some .long) r_jM_min_J D cy [.long v0, .long v2] (w_jM_min_J cy) (some (.long out)) :=
  cn_MR.of (by decide +kernel) (Nat.le_of_ble_eq_true rfl) (fun p e s m below meth c C hr hlk => t_jM_min_J_0 C hr hlk v0 v2 hF)
/-! CopperNets$Airlines.lookFrom(ILCopperNets$Pieces;)V -/
abbrev r_A_lookFrom : Room := { frames := 2, cells := 0, slots := 0, locals := 53 }
abbrev w_A_lookFrom (cy : Nat → ClassId) (A_a : Nat) (A_a_pairs : Nat) (A_a_pads : Nat) (A_a_reached : Nat) (A_a_nearest : Nat) (A_p : Nat) (A_p_there : Nat) (A_p_from : Nat) (A_p_to : Nat) (A_p_pin : Nat) (A_p_left : Nat) (A_p_low : Nat) (A_p_right : Nat) (A_p_high : Nat) (A_p_rim : Nat) (a_count : Int32) (a_padCount : Int32) (a_pads : Nat → Int32) (a_reached : Nat → Int32) (a_nearest : Nat → Int64) (p_count : Int32) (p_left : Nat → Int64) (p_low : Nat → Int64) (p_right : Nat → Int64) (p_high : Nat → Int64) : va_W := [(A_a, .inr (1, [.int a_count, .ref A_a_pairs, .int a_padCount, .ref A_a_pads, .ref A_a_reached, .ref A_a_nearest])), (A_a_pads, .inl (cy 0, 60, .inl a_pads)), (A_a_reached, .inl (cy 2, 60, .inl a_reached)), (A_a_nearest, .inl (cy 1, 60, .inr (.inl a_nearest))), (A_p, .inr (3, [.int p_count, .ref A_p_there, .ref A_p_from, .ref A_p_to, .ref A_p_pin, .ref A_p_left, .ref A_p_low, .ref A_p_right, .ref A_p_high, .ref A_p_rim])), (A_p_left, .inl (cy 1, 60, .inr (.inl p_left))), (A_p_low, .inl (cy 1, 60, .inr (.inl p_low))), (A_p_right, .inl (cy 1, 60, .inr (.inl p_right))), (A_p_high, .inl (cy 1, 60, .inr (.inl p_high)))]
theorem hs_A_lookFrom : y_A_lookFrom.cls ≠ "java/lang/invoke/MethodHandle" ∧ y_A_lookFrom.cls ≠ "java/lang/invoke/VarHandle" ∧ (parseMethodDescriptor y_A_lookFrom.desc).map (fun d => d.parameters.length) = some 2 := by decide +kernel
def F_A_lookFrom_59 (k_2 : Int32 → (Nat → Int32) → (Nat → Int32) → (Nat → Int64) → (Nat → Int64) → (Nat → Int64) → (Nat → Int64) → (Nat → Int64) → Int32 → Int32 → Option ((Nat → Int64))) (a_padCount : Int32) (a_pads : Nat → Int32) (a_reached : Nat → Int32) (a_nearest : Nat → Int64) (p_left : Nat → Int64) (p_low : Nat → Int64) (p_right : Nat → Int64) (p_high : Nat → Int64) (v1 : Int32) (v3 : Int32) : Option ((Nat → Int64)) := k_2 a_padCount a_pads a_reached a_nearest p_left p_low p_right p_high v1 (v3 + 1)
set_option maxRecDepth 100000 in
set_option maxHeartbeats 4000000 in
theorem t_A_lookFrom_59 {p : Program} {l : Launch} {e : Env} {s : State} {m : MethodId} {args : Array Value} {below : List Frame} {meth : Method} {c : Code} {D : va_G} {cy : Nat → ClassId} {A : Nat → Prop} {out : (Nat → Int64)} (C : cn_X p s m args c b_A_lookFrom 6 "CopperNets$Airlines" D cy) (hr : meth.sig.returnType = none) (hlk : meth.locks = false) (hA : ∀ q, s.heap.size ≤ q → A q) (A_a : Nat) (A_a_pairs : Nat) (A_a_pads : Nat) (A_a_reached : Nat) (A_a_nearest : Nat) (A_p : Nat) (A_p_there : Nat) (A_p_from : Nat) (A_p_to : Nat) (A_p_pin : Nat) (A_p_left : Nat) (A_p_low : Nat) (A_p_right : Nat) (A_p_high : Nat) (A_p_rim : Nat) (a_count : Int32) (p_count : Int32) (k_2 : Int32 → (Nat → Int32) → (Nat → Int32) → (Nat → Int64) → (Nat → Int64) → (Nat → Int64) → (Nat → Int64) → (Nat → Int64) → Int32 → Int32 → Option ((Nat → Int64))) (hk_2 : ∀ (a_padCount : Int32) (a_pads : Nat → Int32) (a_reached : Nat → Int32) (a_nearest : Nat → Int64) (p_left : Nat → Int64) (p_low : Nat → Int64) (p_right : Nat → Int64) (p_high : Nat → Int64) (v1 : Int32) (v3 : Int32), k_2 a_padCount a_pads a_reached a_nearest p_left p_low p_right p_high v1 v3 = some out → cg p l e r_A_lookFrom s m args below meth c D (va_S A s.heap) A 6 0 0 (MQ below (cn_QW none D (w_A_lookFrom cy A_a A_a_pairs A_a_pads A_a_reached A_a_nearest A_p A_p_there A_p_from A_p_to A_p_pin A_p_left A_p_low A_p_right A_p_high A_p_rim a_count a_padCount a_pads a_reached out p_count p_left p_low p_right p_high) A) args s 0 0 A) (w_A_lookFrom cy A_a A_a_pairs A_a_pads A_a_reached A_a_nearest A_p A_p_there A_p_from A_p_to A_p_pin A_p_left A_p_low A_p_right A_p_high A_p_rim a_count a_padCount a_pads a_reached a_nearest p_count p_left p_low p_right p_high) 2 [(0, .ref A_a), (1, .int v1), (2, .ref A_p), (3, .int v3)] []) (a_padCount : Int32) (a_pads : Nat → Int32) (a_reached : Nat → Int32) (a_nearest : Nat → Int64) (p_left : Nat → Int64) (p_low : Nat → Int64) (p_right : Nat → Int64) (p_high : Nat → Int64) (v1 : Int32) (v3 : Int32) (hF : F_A_lookFrom_59 k_2 a_padCount a_pads a_reached a_nearest p_left p_low p_right p_high v1 v3 = some out) : cg p l e r_A_lookFrom s m args below meth c D (va_S A s.heap) A 6 0 0 (MQ below (cn_QW none D (w_A_lookFrom cy A_a A_a_pairs A_a_pads A_a_reached A_a_nearest A_p A_p_there A_p_from A_p_to A_p_pin A_p_left A_p_low A_p_right A_p_high A_p_rim a_count a_padCount a_pads a_reached out p_count p_left p_low p_right p_high) A) args s 0 0 A) (w_A_lookFrom cy A_a A_a_pairs A_a_pads A_a_reached A_a_nearest A_p A_p_there A_p_from A_p_to A_p_pin A_p_left A_p_low A_p_right A_p_high A_p_rim a_count a_padCount a_pads a_reached a_nearest p_count p_left p_low p_right p_high) 59 [(0, .ref A_a), (1, .int v1), (2, .ref A_p), (3, .int v3)] [] := by
  refine cg_iinc (v := v3 + 1) (lv' := [(3, .int (v3 + 1)), (0, .ref A_a), (1, .int v1), (2, .ref A_p)]) C d_A_lookFrom_59 3 rfl (by decide) rfl rfl ?_
  refine cg_goto C 2 d_A_lookFrom_62 (by decide) ?_
  refine cg_sub (lv' := [(0, .ref A_a), (1, .int v1), (2, .ref A_p), (3, .int (v3 + 1))]) [1, 2, 3, 0] rfl ?_
  exact hk_2 a_padCount a_pads a_reached a_nearest p_left p_low p_right p_high v1 (v3 + 1) hF
def F_A_lookFrom_2 : Nat → Int32 → (Nat → Int32) → (Nat → Int32) → (Nat → Int64) → (Nat → Int64) → (Nat → Int64) → (Nat → Int64) → (Nat → Int64) → Int32 → Int32 → Option ((Nat → Int64))
  | 0, _, _, _, _, _, _, _, _, _, _ => none
  | n + 1, a_padCount, a_pads, a_reached, a_nearest, p_left, p_low, p_right, p_high, v1, v3 => if a_padCount ≤ v3 then (some (a_nearest)) else (cn_rd v3 60 (if (a_reached (Int32.toNatClampNeg v3)) = 0 then (cn_rd v3 60 ((F_P_square p_left p_low p_right p_high v1 (a_pads (Int32.toNatClampNeg v3))).bind fun t_6 => cn_rd v3 60 ((F_Q_of t_6 v1 (a_pads (Int32.toNatClampNeg v3))).bind fun t_9 => cn_rd v3 60 ((F_jM_min_J (a_nearest (Int32.toNatClampNeg v3)) t_9).bind fun t_12 => cn_rd v3 60 (F_A_lookFrom_59 (F_A_lookFrom_2 n) a_padCount a_pads a_reached (vp_updL a_nearest (Int32.toNatClampNeg v3) t_12) p_left p_low p_right p_high v1 v3))))) else (F_A_lookFrom_59 (F_A_lookFrom_2 n) a_padCount a_pads a_reached a_nearest p_left p_low p_right p_high v1 v3)))
set_option maxRecDepth 100000 in
set_option maxHeartbeats 4000000 in
theorem t_A_lookFrom_2 {p : Program} {l : Launch} {e : Env} {s : State} {m : MethodId} {args : Array Value} {below : List Frame} {meth : Method} {c : Code} {D : va_G} {cy : Nat → ClassId} {A : Nat → Prop} {out : (Nat → Int64)} (C : cn_X p s m args c b_A_lookFrom 6 "CopperNets$Airlines" D cy) (hr : meth.sig.returnType = none) (hlk : meth.locks = false) (hA : ∀ q, s.heap.size ≤ q → A q) (A_a : Nat) (A_a_pairs : Nat) (A_a_pads : Nat) (A_a_reached : Nat) (A_a_nearest : Nat) (A_p : Nat) (A_p_there : Nat) (A_p_from : Nat) (A_p_to : Nat) (A_p_pin : Nat) (A_p_left : Nat) (A_p_low : Nat) (A_p_right : Nat) (A_p_high : Nat) (A_p_rim : Nat) (a_count : Int32) (p_count : Int32) : ∀ (n : Nat) (a_padCount : Int32) (a_pads : Nat → Int32) (a_reached : Nat → Int32) (a_nearest : Nat → Int64) (p_left : Nat → Int64) (p_low : Nat → Int64) (p_right : Nat → Int64) (p_high : Nat → Int64) (v1 : Int32) (v3 : Int32), F_A_lookFrom_2 n a_padCount a_pads a_reached a_nearest p_left p_low p_right p_high v1 v3 = some out → cg p l e r_A_lookFrom s m args below meth c D (va_S A s.heap) A 6 0 0 (MQ below (cn_QW none D (w_A_lookFrom cy A_a A_a_pairs A_a_pads A_a_reached A_a_nearest A_p A_p_there A_p_from A_p_to A_p_pin A_p_left A_p_low A_p_right A_p_high A_p_rim a_count a_padCount a_pads a_reached out p_count p_left p_low p_right p_high) A) args s 0 0 A) (w_A_lookFrom cy A_a A_a_pairs A_a_pads A_a_reached A_a_nearest A_p A_p_there A_p_from A_p_to A_p_pin A_p_left A_p_low A_p_right A_p_high A_p_rim a_count a_padCount a_pads a_reached a_nearest p_count p_left p_low p_right p_high) 2 [(0, .ref A_a), (1, .int v1), (2, .ref A_p), (3, .int v3)] [] := by
  intro n
  induction n with
  | zero => intro a_padCount a_pads a_reached a_nearest p_left p_low p_right p_high v1 v3 hF; exact nomatch (show (none : Option ((Nat → Int64))) = some out from hF)
  | succ n ih =>
    intro a_padCount a_pads a_reached a_nearest p_left p_low p_right p_high v1 v3 hF
    refine cg_iload_n C d_A_lookFrom_2 3 rfl ?_
    refine cg_aload_n C d_A_lookFrom_3 0 rfl ?_
    refine cg_get C 0 2 d_A_lookFrom_4 rfl rfl hin_A (by decide) rfl tw_90 rfl ?_
    refine cg_icmp_ge C 65 d_A_lookFrom_7 (by decide) (fun q_1 => ?_) (fun q_1 => ?_)
    · have hF := cn_pos q_1 hF
      obtain rfl := Option.some.inj hF
      exact cg_vretW C hr hlk d_A_lookFrom_65
    · have hF := cn_neg q_1 hF
      refine cg_aload_n C d_A_lookFrom_10 0 rfl ?_
      refine cg_get C 0 4 d_A_lookFrom_11 rfl rfl hin_A (by decide) rfl tw_92 rfl ?_
      refine cg_iload_n C d_A_lookFrom_14 3 rfl ?_
      obtain ⟨i_2, hF⟩ := cn_rd_some hF
      refine cg_zald C 2 d_A_lookFrom_15 rfl i_2 ?_
      refine cg_if_ne C 59 d_A_lookFrom_16 (by decide) (fun q_3 => ?_) (fun q_3 => ?_)
      · have hF := cn_neg q_3 hF
        exact t_A_lookFrom_59 C hr hlk hA A_a A_a_pairs A_a_pads A_a_reached A_a_nearest A_p A_p_there A_p_from A_p_to A_p_pin A_p_left A_p_low A_p_right A_p_high A_p_rim a_count p_count (F_A_lookFrom_2 n) ih a_padCount a_pads a_reached a_nearest p_left p_low p_right p_high v1 v3 hF
      · have hF := cn_pos q_3 hF
        refine cg_aload_n C d_A_lookFrom_19 2 rfl ?_
        refine cg_iload_n C d_A_lookFrom_20 1 rfl ?_
        refine cg_aload_n C d_A_lookFrom_21 0 rfl ?_
        refine cg_get C 0 3 d_A_lookFrom_22 rfl rfl hin_A (by decide) rfl tw_91 rfl ?_
        refine cg_iload_n C d_A_lookFrom_25 3 rfl ?_
        obtain ⟨i_4, hF⟩ := cn_rd_some hF
        refine cg_iald C 1 d_A_lookFrom_26 rfl i_4 ?_
        obtain ⟨t_6, h_5, hF⟩ := cn_bind hF
        refine cg_callRVN C (c_P_square A_p A_p_there A_p_from A_p_to A_p_pin A_p_left A_p_low A_p_right A_p_high A_p_rim p_count p_left p_low p_right p_high v1 (a_pads (Int32.toNatClampNeg v3)) h_5) [4, 5, 6, 7, 8] rfl (by decide) 0 rfl rfl d_A_lookFrom_27 nM_17 tw_212 ts_13 tw_2 tw_213 hs_P_square ⟨by decide, by decide⟩ rfl rfl ⟨by decide, by decide⟩ (Nat.le_of_ble_eq_true rfl) rfl rfl ?_
        refine cg_iload_n C d_A_lookFrom_30 1 rfl ?_
        refine cg_aload_n C d_A_lookFrom_31 0 rfl ?_
        refine cg_get C 0 3 d_A_lookFrom_32 rfl rfl hin_A (by decide) rfl tw_91 rfl ?_
        refine cg_iload_n C d_A_lookFrom_35 3 rfl ?_
        obtain ⟨i_7, hF⟩ := cn_rd_some hF
        refine cg_iald C 1 d_A_lookFrom_36 rfl i_7 ?_
        obtain ⟨t_9, h_8, hF⟩ := cn_bind hF
        refine cg_callRSN C (c_Q_of t_6 v1 (a_pads (Int32.toNatClampNeg v3)) h_8) [] rfl (by decide) d_A_lookFrom_37 nM_18 tw_269 tw_13 tw_270 hs_Q_of ⟨by decide, by decide⟩ rfl rfl ⟨by decide, by decide⟩ (Nat.le_of_ble_eq_true rfl) rfl rfl ?_
        refine cg_lstore (lv' := [(4, .long t_9), (0, .ref A_a), (1, .int v1), (2, .ref A_p), (3, .int v3)]) C d_A_lookFrom_40 (by decide) rfl ?_
        refine cg_aload_n C d_A_lookFrom_42 1 rfl ?_
        refine cg_get C 0 5 d_A_lookFrom_43 rfl rfl hin_A (by decide) rfl tw_93 rfl ?_
        refine cg_iload_n C d_A_lookFrom_46 4 rfl ?_
        refine cg_aload_n C d_A_lookFrom_47 1 rfl ?_
        refine cg_get C 0 5 d_A_lookFrom_48 rfl rfl hin_A (by decide) rfl tw_93 rfl ?_
        refine cg_iload_n C d_A_lookFrom_51 4 rfl ?_
        obtain ⟨i_10, hF⟩ := cn_rd_some hF
        refine cg_lald C 3 d_A_lookFrom_52 rfl i_10 ?_
        refine cg_lload C d_A_lookFrom_53 0 rfl ?_
        obtain ⟨t_12, h_11, hF⟩ := cn_bind hF
        refine cg_callRS C (c_jM_min_J (a_nearest (Int32.toNatClampNeg v3)) t_9 h_11) [] rfl (by decide) d_A_lookFrom_55 tw_273 tw_274 tw_6 tw_275 hs_jM_min_J ⟨by decide, by decide⟩ rfl rfl ⟨by decide, by decide⟩ (Nat.le_of_ble_eq_true rfl) rfl rfl ?_
        obtain ⟨i_13, hF⟩ := cn_rd_some hF
        refine cg_last (ws' := w_A_lookFrom cy A_a A_a_pairs A_a_pads A_a_reached A_a_nearest A_p A_p_there A_p_from A_p_to A_p_pin A_p_left A_p_low A_p_right A_p_high A_p_rim a_count a_padCount a_pads a_reached (vp_updL a_nearest (Int32.toNatClampNeg v3) t_12) p_count p_left p_low p_right p_high) C 3 d_A_lookFrom_58 rfl i_13 rfl ?_
        refine cg_sub (lv' := [(0, .ref A_a), (1, .int v1), (2, .ref A_p), (3, .int v3)]) [1, 2, 3, 4] rfl ?_
        exact t_A_lookFrom_59 C hr hlk hA A_a A_a_pairs A_a_pads A_a_reached A_a_nearest A_p A_p_there A_p_from A_p_to A_p_pin A_p_left A_p_low A_p_right A_p_high A_p_rim a_count p_count (F_A_lookFrom_2 n) ih a_padCount a_pads a_reached (vp_updL a_nearest (Int32.toNatClampNeg v3) t_12) p_left p_low p_right p_high v1 v3 hF
def F_A_lookFrom_0 (a_padCount : Int32) (a_pads : Nat → Int32) (a_reached : Nat → Int32) (a_nearest : Nat → Int64) (p_left : Nat → Int64) (p_low : Nat → Int64) (p_right : Nat → Int64) (p_high : Nat → Int64) (v1 : Int32) : Option ((Nat → Int64)) := F_A_lookFrom_2 4096 a_padCount a_pads a_reached a_nearest p_left p_low p_right p_high v1 0
set_option maxRecDepth 100000 in
set_option maxHeartbeats 4000000 in
theorem t_A_lookFrom_0 {p : Program} {l : Launch} {e : Env} {s : State} {m : MethodId} {args : Array Value} {below : List Frame} {meth : Method} {c : Code} {D : va_G} {cy : Nat → ClassId} {A : Nat → Prop} {out : (Nat → Int64)} (C : cn_X p s m args c b_A_lookFrom 6 "CopperNets$Airlines" D cy) (hr : meth.sig.returnType = none) (hlk : meth.locks = false) (hA : ∀ q, s.heap.size ≤ q → A q) (A_a : Nat) (A_a_pairs : Nat) (A_a_pads : Nat) (A_a_reached : Nat) (A_a_nearest : Nat) (A_p : Nat) (A_p_there : Nat) (A_p_from : Nat) (A_p_to : Nat) (A_p_pin : Nat) (A_p_left : Nat) (A_p_low : Nat) (A_p_right : Nat) (A_p_high : Nat) (A_p_rim : Nat) (a_count : Int32) (p_count : Int32) (a_padCount : Int32) (a_pads : Nat → Int32) (a_reached : Nat → Int32) (a_nearest : Nat → Int64) (p_left : Nat → Int64) (p_low : Nat → Int64) (p_right : Nat → Int64) (p_high : Nat → Int64) (v1 : Int32) (hF : F_A_lookFrom_0 a_padCount a_pads a_reached a_nearest p_left p_low p_right p_high v1 = some out) : cg p l e r_A_lookFrom s m args below meth c D (va_S A s.heap) A 6 0 0 (MQ below (cn_QW none D (w_A_lookFrom cy A_a A_a_pairs A_a_pads A_a_reached A_a_nearest A_p A_p_there A_p_from A_p_to A_p_pin A_p_left A_p_low A_p_right A_p_high A_p_rim a_count a_padCount a_pads a_reached out p_count p_left p_low p_right p_high) A) args s 0 0 A) (w_A_lookFrom cy A_a A_a_pairs A_a_pads A_a_reached A_a_nearest A_p A_p_there A_p_from A_p_to A_p_pin A_p_left A_p_low A_p_right A_p_high A_p_rim a_count a_padCount a_pads a_reached a_nearest p_count p_left p_low p_right p_high) 0 [(0, .ref A_a), (1, .int v1), (2, .ref A_p)] [] := by
  refine cg_iconst (v := 0) C d_A_lookFrom_0 (by decide) ?_
  refine cg_istore_n (lv' := [(3, .int 0), (0, .ref A_a), (1, .int v1), (2, .ref A_p)]) C d_A_lookFrom_1 (by decide) rfl ?_
  refine cg_sub (lv' := [(0, .ref A_a), (1, .int v1), (2, .ref A_p), (3, .int 0)]) [1, 2, 3, 0] rfl ?_
  exact t_A_lookFrom_2 C hr hlk hA A_a A_a_pairs A_a_pads A_a_reached A_a_nearest A_p A_p_there A_p_from A_p_to A_p_pin A_p_left A_p_low A_p_right A_p_high A_p_rim a_count p_count 4096 a_padCount a_pads a_reached a_nearest p_left p_low p_right p_high v1 0 hF
abbrev F_A_lookFrom (a_padCount : Int32) (a_pads : Nat → Int32) (a_reached : Nat → Int32) (a_nearest : Nat → Int64) (p_left : Nat → Int64) (p_low : Nat → Int64) (p_right : Nat → Int64) (p_high : Nat → Int64) (v1 : Int32) : Option ((Nat → Int64)) := F_A_lookFrom_0 a_padCount a_pads a_reached a_nearest p_left p_low p_right p_high v1
theorem c_A_lookFrom {l : Launch} {D : va_G} {cy : Nat → ClassId} (A_a : Nat) (A_a_pairs : Nat) (A_a_pads : Nat) (A_a_reached : Nat) (A_a_nearest : Nat) (A_p : Nat) (A_p_there : Nat) (A_p_from : Nat) (A_p_to : Nat) (A_p_pin : Nat) (A_p_left : Nat) (A_p_low : Nat) (A_p_right : Nat) (A_p_high : Nat) (A_p_rim : Nat) (a_count : Int32) (a_padCount : Int32) (a_pads : Nat → Int32) (a_reached : Nat → Int32) (a_nearest : Nat → Int64) (p_count : Int32) (p_left : Nat → Int64) (p_low : Nat → Int64) (p_right : Nat → Int64) (p_high : Nat → Int64) (v1 : Int32) {out : (Nat → Int64)} (hF : F_A_lookFrom a_padCount a_pads a_reached a_nearest p_left p_low p_right p_high v1 = some out) : cn_MW l y_A_lookFrom b_A_lookFrom 6 (none) r_A_lookFrom D cy [.ref A_a, .int v1, .ref A_p] (w_A_lookFrom cy A_a A_a_pairs A_a_pads A_a_reached A_a_nearest A_p A_p_there A_p_from A_p_to A_p_pin A_p_left A_p_low A_p_right A_p_high A_p_rim a_count a_padCount a_pads a_reached a_nearest p_count p_left p_low p_right p_high) none (w_A_lookFrom cy A_a A_a_pairs A_a_pads A_a_reached A_a_nearest A_p A_p_there A_p_from A_p_to A_p_pin A_p_left A_p_low A_p_right A_p_high A_p_rim a_count a_padCount a_pads a_reached out p_count p_left p_low p_right p_high) 0 0 :=
  cn_MW.of (by decide +kernel) (Nat.le_of_ble_eq_true rfl) (fun p e s m below meth c A C hr hlk hA => t_A_lookFrom_0 C hr hlk hA A_a A_a_pairs A_a_pads A_a_reached A_a_nearest A_p A_p_there A_p_from A_p_to A_p_pin A_p_left A_p_low A_p_right A_p_high A_p_rim a_count p_count a_padCount a_pads a_reached a_nearest p_left p_low p_right p_high v1 hF)
/-! CopperNets$Airlines.reach(ILCopperNets$Pieces;LCopperNets$Groups;)V -/
abbrev r_A_reach : Room := { frames := 3, cells := 0, slots := 0, locals := 78 }
abbrev w_A_reach (cy : Nat → ClassId) (A_a : Nat) (A_a_pairs : Nat) (A_a_pads : Nat) (A_a_reached : Nat) (A_a_nearest : Nat) (A_p : Nat) (A_p_there : Nat) (A_p_from : Nat) (A_p_to : Nat) (A_p_pin : Nat) (A_p_left : Nat) (A_p_low : Nat) (A_p_right : Nat) (A_p_high : Nat) (A_p_rim : Nat) (A_g : Nat) (A_g_leader : Nat) (a_count : Int32) (a_padCount : Int32) (a_pads : Nat → Int32) (a_reached : Nat → Int32) (a_nearest : Nat → Int64) (p_count : Int32) (p_left : Nat → Int64) (p_low : Nat → Int64) (p_right : Nat → Int64) (p_high : Nat → Int64) (g_leader : Nat → Int32) : va_W := [(A_a, .inr (1, [.int a_count, .ref A_a_pairs, .int a_padCount, .ref A_a_pads, .ref A_a_reached, .ref A_a_nearest])), (A_a_pads, .inl (cy 0, 60, .inl a_pads)), (A_a_reached, .inl (cy 2, 60, .inl a_reached)), (A_a_nearest, .inl (cy 1, 60, .inr (.inl a_nearest))), (A_p, .inr (3, [.int p_count, .ref A_p_there, .ref A_p_from, .ref A_p_to, .ref A_p_pin, .ref A_p_left, .ref A_p_low, .ref A_p_right, .ref A_p_high, .ref A_p_rim])), (A_p_left, .inl (cy 1, 60, .inr (.inl p_left))), (A_p_low, .inl (cy 1, 60, .inr (.inl p_low))), (A_p_right, .inl (cy 1, 60, .inr (.inl p_right))), (A_p_high, .inl (cy 1, 60, .inr (.inl p_high))), (A_g, .inr (2, [.ref A_g_leader])), (A_g_leader, .inl (cy 0, 60, .inl g_leader))]
theorem hs_A_reach : y_A_reach.cls ≠ "java/lang/invoke/MethodHandle" ∧ y_A_reach.cls ≠ "java/lang/invoke/VarHandle" ∧ (parseMethodDescriptor y_A_reach.desc).map (fun d => d.parameters.length) = some 3 := by decide +kernel
def F_A_reach_48 (k_15 : Int32 → (Nat → Int32) → (Nat → Int32) → (Nat → Int64) → (Nat → Int64) → (Nat → Int64) → (Nat → Int64) → (Nat → Int64) → (Nat → Int32) → Int32 → Int32 → Option ((Nat → Int32) × (Nat → Int64))) (a_padCount : Int32) (a_pads : Nat → Int32) (a_reached : Nat → Int32) (a_nearest : Nat → Int64) (p_left : Nat → Int64) (p_low : Nat → Int64) (p_right : Nat → Int64) (p_high : Nat → Int64) (g_leader : Nat → Int32) (v4 : Int32) (v5 : Int32) : Option ((Nat → Int32) × (Nat → Int64)) := k_15 a_padCount a_pads a_reached a_nearest p_left p_low p_right p_high g_leader v4 (v5 + 1)
set_option maxRecDepth 100000 in
set_option maxHeartbeats 4000000 in
theorem t_A_reach_48 {p : Program} {l : Launch} {e : Env} {s : State} {m : MethodId} {args : Array Value} {below : List Frame} {meth : Method} {c : Code} {D : va_G} {cy : Nat → ClassId} {A : Nat → Prop} {out : (Nat → Int32) × (Nat → Int64)} (C : cn_X p s m args c b_A_reach 6 "CopperNets$Airlines" D cy) (hr : meth.sig.returnType = none) (hlk : meth.locks = false) (hA : ∀ q, s.heap.size ≤ q → A q) (A_a : Nat) (A_a_pairs : Nat) (A_a_pads : Nat) (A_a_reached : Nat) (A_a_nearest : Nat) (A_p : Nat) (A_p_there : Nat) (A_p_from : Nat) (A_p_to : Nat) (A_p_pin : Nat) (A_p_left : Nat) (A_p_low : Nat) (A_p_right : Nat) (A_p_high : Nat) (A_p_rim : Nat) (A_g : Nat) (A_g_leader : Nat) (a_count : Int32) (p_count : Int32) (k_15 : Int32 → (Nat → Int32) → (Nat → Int32) → (Nat → Int64) → (Nat → Int64) → (Nat → Int64) → (Nat → Int64) → (Nat → Int64) → (Nat → Int32) → Int32 → Int32 → Option ((Nat → Int32) × (Nat → Int64))) (hk_15 : ∀ (a_padCount : Int32) (a_pads : Nat → Int32) (a_reached : Nat → Int32) (a_nearest : Nat → Int64) (p_left : Nat → Int64) (p_low : Nat → Int64) (p_right : Nat → Int64) (p_high : Nat → Int64) (g_leader : Nat → Int32) (v4 : Int32) (v5 : Int32), k_15 a_padCount a_pads a_reached a_nearest p_left p_low p_right p_high g_leader v4 v5 = some out → cg p l e r_A_reach s m args below meth c D (va_S A s.heap) A 6 0 0 (MQ below (cn_QW none D (w_A_reach cy A_a A_a_pairs A_a_pads A_a_reached A_a_nearest A_p A_p_there A_p_from A_p_to A_p_pin A_p_left A_p_low A_p_right A_p_high A_p_rim A_g A_g_leader a_count a_padCount a_pads out.1 out.2 p_count p_left p_low p_right p_high g_leader) A) args s 0 0 A) (w_A_reach cy A_a A_a_pairs A_a_pads A_a_reached A_a_nearest A_p A_p_there A_p_from A_p_to A_p_pin A_p_left A_p_low A_p_right A_p_high A_p_rim A_g A_g_leader a_count a_padCount a_pads a_reached a_nearest p_count p_left p_low p_right p_high g_leader) 15 [(0, .ref A_a), (2, .ref A_p), (3, .ref A_g), (4, .int v4), (5, .int v5)] []) (a_padCount : Int32) (a_pads : Nat → Int32) (a_reached : Nat → Int32) (a_nearest : Nat → Int64) (p_left : Nat → Int64) (p_low : Nat → Int64) (p_right : Nat → Int64) (p_high : Nat → Int64) (g_leader : Nat → Int32) (v4 : Int32) (v5 : Int32) (hF : F_A_reach_48 k_15 a_padCount a_pads a_reached a_nearest p_left p_low p_right p_high g_leader v4 v5 = some out) : cg p l e r_A_reach s m args below meth c D (va_S A s.heap) A 6 0 0 (MQ below (cn_QW none D (w_A_reach cy A_a A_a_pairs A_a_pads A_a_reached A_a_nearest A_p A_p_there A_p_from A_p_to A_p_pin A_p_left A_p_low A_p_right A_p_high A_p_rim A_g A_g_leader a_count a_padCount a_pads out.1 out.2 p_count p_left p_low p_right p_high g_leader) A) args s 0 0 A) (w_A_reach cy A_a A_a_pairs A_a_pads A_a_reached A_a_nearest A_p A_p_there A_p_from A_p_to A_p_pin A_p_left A_p_low A_p_right A_p_high A_p_rim A_g A_g_leader a_count a_padCount a_pads a_reached a_nearest p_count p_left p_low p_right p_high g_leader) 48 [(0, .ref A_a), (2, .ref A_p), (3, .ref A_g), (4, .int v4), (5, .int v5)] [] := by
  refine cg_iinc (v := v5 + 1) (lv' := [(5, .int (v5 + 1)), (0, .ref A_a), (2, .ref A_p), (3, .ref A_g), (4, .int v4)]) C d_A_reach_48 4 rfl (by decide) rfl rfl ?_
  refine cg_goto C 15 d_A_reach_51 (by decide) ?_
  refine cg_sub (lv' := [(0, .ref A_a), (2, .ref A_p), (3, .ref A_g), (4, .int v4), (5, .int (v5 + 1))]) [1, 2, 3, 4, 0] rfl ?_
  exact hk_15 a_padCount a_pads a_reached a_nearest p_left p_low p_right p_high g_leader v4 (v5 + 1) hF
def F_A_reach_94 (k_57 : Int32 → (Nat → Int32) → (Nat → Int32) → (Nat → Int64) → (Nat → Int64) → (Nat → Int64) → (Nat → Int64) → (Nat → Int64) → (Nat → Int32) → Int32 → Int32 → Option ((Nat → Int32) × (Nat → Int64))) (a_padCount : Int32) (a_pads : Nat → Int32) (a_reached : Nat → Int32) (a_nearest : Nat → Int64) (p_left : Nat → Int64) (p_low : Nat → Int64) (p_right : Nat → Int64) (p_high : Nat → Int64) (g_leader : Nat → Int32) (v4 : Int32) (v5 : Int32) : Option ((Nat → Int32) × (Nat → Int64)) := k_57 a_padCount a_pads a_reached a_nearest p_left p_low p_right p_high g_leader v4 (v5 + 1)
set_option maxRecDepth 100000 in
set_option maxHeartbeats 4000000 in
theorem t_A_reach_94 {p : Program} {l : Launch} {e : Env} {s : State} {m : MethodId} {args : Array Value} {below : List Frame} {meth : Method} {c : Code} {D : va_G} {cy : Nat → ClassId} {A : Nat → Prop} {out : (Nat → Int32) × (Nat → Int64)} (C : cn_X p s m args c b_A_reach 6 "CopperNets$Airlines" D cy) (hr : meth.sig.returnType = none) (hlk : meth.locks = false) (hA : ∀ q, s.heap.size ≤ q → A q) (A_a : Nat) (A_a_pairs : Nat) (A_a_pads : Nat) (A_a_reached : Nat) (A_a_nearest : Nat) (A_p : Nat) (A_p_there : Nat) (A_p_from : Nat) (A_p_to : Nat) (A_p_pin : Nat) (A_p_left : Nat) (A_p_low : Nat) (A_p_right : Nat) (A_p_high : Nat) (A_p_rim : Nat) (A_g : Nat) (A_g_leader : Nat) (a_count : Int32) (p_count : Int32) (k_57 : Int32 → (Nat → Int32) → (Nat → Int32) → (Nat → Int64) → (Nat → Int64) → (Nat → Int64) → (Nat → Int64) → (Nat → Int64) → (Nat → Int32) → Int32 → Int32 → Option ((Nat → Int32) × (Nat → Int64))) (hk_57 : ∀ (a_padCount : Int32) (a_pads : Nat → Int32) (a_reached : Nat → Int32) (a_nearest : Nat → Int64) (p_left : Nat → Int64) (p_low : Nat → Int64) (p_right : Nat → Int64) (p_high : Nat → Int64) (g_leader : Nat → Int32) (v4 : Int32) (v5 : Int32), k_57 a_padCount a_pads a_reached a_nearest p_left p_low p_right p_high g_leader v4 v5 = some out → cg p l e r_A_reach s m args below meth c D (va_S A s.heap) A 6 0 0 (MQ below (cn_QW none D (w_A_reach cy A_a A_a_pairs A_a_pads A_a_reached A_a_nearest A_p A_p_there A_p_from A_p_to A_p_pin A_p_left A_p_low A_p_right A_p_high A_p_rim A_g A_g_leader a_count a_padCount a_pads out.1 out.2 p_count p_left p_low p_right p_high g_leader) A) args s 0 0 A) (w_A_reach cy A_a A_a_pairs A_a_pads A_a_reached A_a_nearest A_p A_p_there A_p_from A_p_to A_p_pin A_p_left A_p_low A_p_right A_p_high A_p_rim A_g A_g_leader a_count a_padCount a_pads a_reached a_nearest p_count p_left p_low p_right p_high g_leader) 57 [(0, .ref A_a), (2, .ref A_p), (3, .ref A_g), (4, .int v4), (5, .int v5)] []) (a_padCount : Int32) (a_pads : Nat → Int32) (a_reached : Nat → Int32) (a_nearest : Nat → Int64) (p_left : Nat → Int64) (p_low : Nat → Int64) (p_right : Nat → Int64) (p_high : Nat → Int64) (g_leader : Nat → Int32) (v4 : Int32) (v5 : Int32) (hF : F_A_reach_94 k_57 a_padCount a_pads a_reached a_nearest p_left p_low p_right p_high g_leader v4 v5 = some out) : cg p l e r_A_reach s m args below meth c D (va_S A s.heap) A 6 0 0 (MQ below (cn_QW none D (w_A_reach cy A_a A_a_pairs A_a_pads A_a_reached A_a_nearest A_p A_p_there A_p_from A_p_to A_p_pin A_p_left A_p_low A_p_right A_p_high A_p_rim A_g A_g_leader a_count a_padCount a_pads out.1 out.2 p_count p_left p_low p_right p_high g_leader) A) args s 0 0 A) (w_A_reach cy A_a A_a_pairs A_a_pads A_a_reached A_a_nearest A_p A_p_there A_p_from A_p_to A_p_pin A_p_left A_p_low A_p_right A_p_high A_p_rim A_g A_g_leader a_count a_padCount a_pads a_reached a_nearest p_count p_left p_low p_right p_high g_leader) 94 [(0, .ref A_a), (2, .ref A_p), (3, .ref A_g), (4, .int v4), (5, .int v5)] [] := by
  refine cg_iinc (v := v5 + 1) (lv' := [(5, .int (v5 + 1)), (0, .ref A_a), (2, .ref A_p), (3, .ref A_g), (4, .int v4)]) C d_A_reach_94 4 rfl (by decide) rfl rfl ?_
  refine cg_goto C 57 d_A_reach_97 (by decide) ?_
  refine cg_sub (lv' := [(0, .ref A_a), (2, .ref A_p), (3, .ref A_g), (4, .int v4), (5, .int (v5 + 1))]) [1, 2, 3, 4, 0] rfl ?_
  exact hk_57 a_padCount a_pads a_reached a_nearest p_left p_low p_right p_high g_leader v4 (v5 + 1) hF
def F_A_reach_57 : Nat → Int32 → (Nat → Int32) → (Nat → Int32) → (Nat → Int64) → (Nat → Int64) → (Nat → Int64) → (Nat → Int64) → (Nat → Int64) → (Nat → Int32) → Int32 → Int32 → Option ((Nat → Int32) × (Nat → Int64))
  | 0, _, _, _, _, _, _, _, _, _, _, _ => none
  | n + 1, a_padCount, a_pads, a_reached, a_nearest, p_left, p_low, p_right, p_high, g_leader, v4, v5 => if a_padCount ≤ v5 then (some (a_reached, a_nearest)) else (cn_rd v5 60 ((F_G_leaderOf g_leader (a_pads (Int32.toNatClampNeg v5))).bind fun t_4 => if t_4 = v4 then (cn_rd v5 60 ((F_A_lookFrom a_padCount a_pads a_reached a_nearest p_left p_low p_right p_high (a_pads (Int32.toNatClampNeg v5))).bind fun t_8 => F_A_reach_94 (F_A_reach_57 n) a_padCount a_pads a_reached t_8 p_left p_low p_right p_high g_leader v4 v5)) else (F_A_reach_94 (F_A_reach_57 n) a_padCount a_pads a_reached a_nearest p_left p_low p_right p_high g_leader v4 v5)))
set_option maxRecDepth 100000 in
set_option maxHeartbeats 4000000 in
theorem t_A_reach_57 {p : Program} {l : Launch} {e : Env} {s : State} {m : MethodId} {args : Array Value} {below : List Frame} {meth : Method} {c : Code} {D : va_G} {cy : Nat → ClassId} {A : Nat → Prop} {out : (Nat → Int32) × (Nat → Int64)} (C : cn_X p s m args c b_A_reach 6 "CopperNets$Airlines" D cy) (hr : meth.sig.returnType = none) (hlk : meth.locks = false) (hA : ∀ q, s.heap.size ≤ q → A q) (A_a : Nat) (A_a_pairs : Nat) (A_a_pads : Nat) (A_a_reached : Nat) (A_a_nearest : Nat) (A_p : Nat) (A_p_there : Nat) (A_p_from : Nat) (A_p_to : Nat) (A_p_pin : Nat) (A_p_left : Nat) (A_p_low : Nat) (A_p_right : Nat) (A_p_high : Nat) (A_p_rim : Nat) (A_g : Nat) (A_g_leader : Nat) (a_count : Int32) (p_count : Int32) : ∀ (n : Nat) (a_padCount : Int32) (a_pads : Nat → Int32) (a_reached : Nat → Int32) (a_nearest : Nat → Int64) (p_left : Nat → Int64) (p_low : Nat → Int64) (p_right : Nat → Int64) (p_high : Nat → Int64) (g_leader : Nat → Int32) (v4 : Int32) (v5 : Int32), F_A_reach_57 n a_padCount a_pads a_reached a_nearest p_left p_low p_right p_high g_leader v4 v5 = some out → cg p l e r_A_reach s m args below meth c D (va_S A s.heap) A 6 0 0 (MQ below (cn_QW none D (w_A_reach cy A_a A_a_pairs A_a_pads A_a_reached A_a_nearest A_p A_p_there A_p_from A_p_to A_p_pin A_p_left A_p_low A_p_right A_p_high A_p_rim A_g A_g_leader a_count a_padCount a_pads out.1 out.2 p_count p_left p_low p_right p_high g_leader) A) args s 0 0 A) (w_A_reach cy A_a A_a_pairs A_a_pads A_a_reached A_a_nearest A_p A_p_there A_p_from A_p_to A_p_pin A_p_left A_p_low A_p_right A_p_high A_p_rim A_g A_g_leader a_count a_padCount a_pads a_reached a_nearest p_count p_left p_low p_right p_high g_leader) 57 [(0, .ref A_a), (2, .ref A_p), (3, .ref A_g), (4, .int v4), (5, .int v5)] [] := by
  intro n
  induction n with
  | zero => intro a_padCount a_pads a_reached a_nearest p_left p_low p_right p_high g_leader v4 v5 hF; exact nomatch (show (none : Option ((Nat → Int32) × (Nat → Int64))) = some out from hF)
  | succ n ih =>
    intro a_padCount a_pads a_reached a_nearest p_left p_low p_right p_high g_leader v4 v5 hF
    refine cg_iload C d_A_reach_57 4 rfl ?_
    refine cg_aload_n C d_A_reach_59 0 rfl ?_
    refine cg_get C 0 2 d_A_reach_60 rfl rfl hin_A (by decide) rfl tw_90 rfl ?_
    refine cg_icmp_ge C 100 d_A_reach_63 (by decide) (fun q_1 => ?_) (fun q_1 => ?_)
    · have hF := cn_pos q_1 hF
      obtain rfl := Option.some.inj hF
      exact cg_vretW C hr hlk d_A_reach_100
    · have hF := cn_neg q_1 hF
      refine cg_aload_n C d_A_reach_66 2 rfl ?_
      refine cg_aload_n C d_A_reach_67 0 rfl ?_
      refine cg_get C 0 3 d_A_reach_68 rfl rfl hin_A (by decide) rfl tw_91 rfl ?_
      refine cg_iload C d_A_reach_71 4 rfl ?_
      obtain ⟨i_2, hF⟩ := cn_rd_some hF
      refine cg_iald C 1 d_A_reach_73 rfl i_2 ?_
      obtain ⟨t_4, h_3, hF⟩ := cn_bind hF
      refine cg_callRVN C (c_G_leaderOf A_g A_g_leader g_leader (a_pads (Int32.toNatClampNeg v5)) h_3) [9, 10] rfl (by decide) 0 rfl rfl d_A_reach_74 nM_16 tw_149 ts_2 tw_3 tw_150 hs_G_leaderOf ⟨by decide, by decide⟩ rfl rfl ⟨by decide, by decide⟩ (Nat.le_of_ble_eq_true rfl) rfl rfl ?_
      refine cg_iload C d_A_reach_77 3 rfl ?_
      refine cg_icmp_ne C 94 d_A_reach_79 (by decide) (fun q_5 => ?_) (fun q_5 => ?_)
      · have hF := cn_neg q_5 hF
        exact t_A_reach_94 C hr hlk hA A_a A_a_pairs A_a_pads A_a_reached A_a_nearest A_p A_p_there A_p_from A_p_to A_p_pin A_p_left A_p_low A_p_right A_p_high A_p_rim A_g A_g_leader a_count p_count (F_A_reach_57 n) ih a_padCount a_pads a_reached a_nearest p_left p_low p_right p_high g_leader v4 v5 hF
      · have hF := cn_pos q_5 hF
        refine cg_aload_n C d_A_reach_82 0 rfl ?_
        refine cg_aload_n C d_A_reach_83 0 rfl ?_
        refine cg_get C 0 3 d_A_reach_84 rfl rfl hin_A (by decide) rfl tw_91 rfl ?_
        refine cg_iload C d_A_reach_87 4 rfl ?_
        obtain ⟨i_6, hF⟩ := cn_rd_some hF
        refine cg_iald C 1 d_A_reach_89 rfl i_6 ?_
        refine cg_aload_n C d_A_reach_90 1 rfl ?_
        obtain ⟨t_8, h_7, hF⟩ := cn_bind hF
        refine cg_callWV C hA (c_A_lookFrom A_a A_a_pairs A_a_pads A_a_reached A_a_nearest A_p A_p_there A_p_from A_p_to A_p_pin A_p_left A_p_low A_p_right A_p_high A_p_rim a_count a_padCount a_pads a_reached a_nearest p_count p_left p_low p_right p_high (a_pads (Int32.toNatClampNeg v5)) h_7) [0, 1, 2, 3, 4, 5, 6, 7, 8] [9, 10] [2, 3, 4, 5, 6, 7, 8, 9, 10, 0, 1] [(A_g, .inr (2, [.ref A_g_leader])), (A_g_leader, .inl (cy 0, 60, .inl g_leader))] (w_A_reach cy A_a A_a_pairs A_a_pads A_a_reached A_a_nearest A_p A_p_there A_p_from A_p_to A_p_pin A_p_left A_p_low A_p_right A_p_high A_p_rim A_g A_g_leader a_count a_padCount a_pads a_reached t_8 p_count p_left p_low p_right p_high g_leader) rfl rfl rfl ⟨by decide, by decide, by decide, by decide⟩ 0 rfl rfl d_A_reach_91 tw_263 tw_265 ts_22 tw_5 tw_266 hs_A_lookFrom ⟨by decide, by decide⟩ rfl rfl ⟨by decide, by decide⟩ (Nat.le_of_ble_eq_true rfl) rfl rfl ?_
        exact t_A_reach_94 C hr hlk hA A_a A_a_pairs A_a_pads A_a_reached A_a_nearest A_p A_p_there A_p_from A_p_to A_p_pin A_p_left A_p_low A_p_right A_p_high A_p_rim A_g A_g_leader a_count p_count (F_A_reach_57 n) ih a_padCount a_pads a_reached t_8 p_left p_low p_right p_high g_leader v4 v5 hF
def F_A_reach_15 : Nat → Int32 → (Nat → Int32) → (Nat → Int32) → (Nat → Int64) → (Nat → Int64) → (Nat → Int64) → (Nat → Int64) → (Nat → Int64) → (Nat → Int32) → Int32 → Int32 → Option ((Nat → Int32) × (Nat → Int64))
  | 0, _, _, _, _, _, _, _, _, _, _, _ => none
  | n + 1, a_padCount, a_pads, a_reached, a_nearest, p_left, p_low, p_right, p_high, g_leader, v4, v5 => if a_padCount ≤ v5 then (F_A_reach_57 4096 a_padCount a_pads a_reached a_nearest p_left p_low p_right p_high g_leader v4 0) else (cn_rd v5 60 ((F_G_leaderOf g_leader (a_pads (Int32.toNatClampNeg v5))).bind fun t_14 => if t_14 = v4 then (cn_rd v5 60 (F_A_reach_48 (F_A_reach_15 n) a_padCount a_pads (upd a_reached (Int32.toNatClampNeg v5) (vp_nar .boolean 1)) a_nearest p_left p_low p_right p_high g_leader v4 v5)) else (F_A_reach_48 (F_A_reach_15 n) a_padCount a_pads a_reached a_nearest p_left p_low p_right p_high g_leader v4 v5)))
set_option maxRecDepth 100000 in
set_option maxHeartbeats 4000000 in
theorem t_A_reach_15 {p : Program} {l : Launch} {e : Env} {s : State} {m : MethodId} {args : Array Value} {below : List Frame} {meth : Method} {c : Code} {D : va_G} {cy : Nat → ClassId} {A : Nat → Prop} {out : (Nat → Int32) × (Nat → Int64)} (C : cn_X p s m args c b_A_reach 6 "CopperNets$Airlines" D cy) (hr : meth.sig.returnType = none) (hlk : meth.locks = false) (hA : ∀ q, s.heap.size ≤ q → A q) (A_a : Nat) (A_a_pairs : Nat) (A_a_pads : Nat) (A_a_reached : Nat) (A_a_nearest : Nat) (A_p : Nat) (A_p_there : Nat) (A_p_from : Nat) (A_p_to : Nat) (A_p_pin : Nat) (A_p_left : Nat) (A_p_low : Nat) (A_p_right : Nat) (A_p_high : Nat) (A_p_rim : Nat) (A_g : Nat) (A_g_leader : Nat) (a_count : Int32) (p_count : Int32) : ∀ (n : Nat) (a_padCount : Int32) (a_pads : Nat → Int32) (a_reached : Nat → Int32) (a_nearest : Nat → Int64) (p_left : Nat → Int64) (p_low : Nat → Int64) (p_right : Nat → Int64) (p_high : Nat → Int64) (g_leader : Nat → Int32) (v4 : Int32) (v5 : Int32), F_A_reach_15 n a_padCount a_pads a_reached a_nearest p_left p_low p_right p_high g_leader v4 v5 = some out → cg p l e r_A_reach s m args below meth c D (va_S A s.heap) A 6 0 0 (MQ below (cn_QW none D (w_A_reach cy A_a A_a_pairs A_a_pads A_a_reached A_a_nearest A_p A_p_there A_p_from A_p_to A_p_pin A_p_left A_p_low A_p_right A_p_high A_p_rim A_g A_g_leader a_count a_padCount a_pads out.1 out.2 p_count p_left p_low p_right p_high g_leader) A) args s 0 0 A) (w_A_reach cy A_a A_a_pairs A_a_pads A_a_reached A_a_nearest A_p A_p_there A_p_from A_p_to A_p_pin A_p_left A_p_low A_p_right A_p_high A_p_rim A_g A_g_leader a_count a_padCount a_pads a_reached a_nearest p_count p_left p_low p_right p_high g_leader) 15 [(0, .ref A_a), (2, .ref A_p), (3, .ref A_g), (4, .int v4), (5, .int v5)] [] := by
  intro n
  induction n with
  | zero => intro a_padCount a_pads a_reached a_nearest p_left p_low p_right p_high g_leader v4 v5 hF; exact nomatch (show (none : Option ((Nat → Int32) × (Nat → Int64))) = some out from hF)
  | succ n ih =>
    intro a_padCount a_pads a_reached a_nearest p_left p_low p_right p_high g_leader v4 v5 hF
    refine cg_iload C d_A_reach_15 4 rfl ?_
    refine cg_aload_n C d_A_reach_17 0 rfl ?_
    refine cg_get C 0 2 d_A_reach_18 rfl rfl hin_A (by decide) rfl tw_90 rfl ?_
    refine cg_icmp_ge C 54 d_A_reach_21 (by decide) (fun q_11 => ?_) (fun q_11 => ?_)
    · have hF := cn_pos q_11 hF
      refine cg_iconst (v := 0) C d_A_reach_54 (by decide) ?_
      refine cg_istore (lv' := [(5, .int 0), (0, .ref A_a), (2, .ref A_p), (3, .ref A_g), (4, .int v4)]) C d_A_reach_55 (by decide) rfl ?_
      refine cg_sub (lv' := [(0, .ref A_a), (2, .ref A_p), (3, .ref A_g), (4, .int v4), (5, .int 0)]) [1, 2, 3, 4, 0] rfl ?_
      exact t_A_reach_57 C hr hlk hA A_a A_a_pairs A_a_pads A_a_reached A_a_nearest A_p A_p_there A_p_from A_p_to A_p_pin A_p_left A_p_low A_p_right A_p_high A_p_rim A_g A_g_leader a_count p_count 4096 a_padCount a_pads a_reached a_nearest p_left p_low p_right p_high g_leader v4 0 hF
    · have hF := cn_neg q_11 hF
      refine cg_aload_n C d_A_reach_24 2 rfl ?_
      refine cg_aload_n C d_A_reach_25 0 rfl ?_
      refine cg_get C 0 3 d_A_reach_26 rfl rfl hin_A (by decide) rfl tw_91 rfl ?_
      refine cg_iload C d_A_reach_29 4 rfl ?_
      obtain ⟨i_12, hF⟩ := cn_rd_some hF
      refine cg_iald C 1 d_A_reach_31 rfl i_12 ?_
      obtain ⟨t_14, h_13, hF⟩ := cn_bind hF
      refine cg_callRVN C (c_G_leaderOf A_g A_g_leader g_leader (a_pads (Int32.toNatClampNeg v5)) h_13) [9, 10] rfl (by decide) 0 rfl rfl d_A_reach_32 nM_16 tw_149 ts_2 tw_3 tw_150 hs_G_leaderOf ⟨by decide, by decide⟩ rfl rfl ⟨by decide, by decide⟩ (Nat.le_of_ble_eq_true rfl) rfl rfl ?_
      refine cg_iload C d_A_reach_35 3 rfl ?_
      refine cg_icmp_ne C 48 d_A_reach_37 (by decide) (fun q_15 => ?_) (fun q_15 => ?_)
      · have hF := cn_neg q_15 hF
        exact t_A_reach_48 C hr hlk hA A_a A_a_pairs A_a_pads A_a_reached A_a_nearest A_p A_p_there A_p_from A_p_to A_p_pin A_p_left A_p_low A_p_right A_p_high A_p_rim A_g A_g_leader a_count p_count (F_A_reach_15 n) ih a_padCount a_pads a_reached a_nearest p_left p_low p_right p_high g_leader v4 v5 hF
      · have hF := cn_pos q_15 hF
        refine cg_aload_n C d_A_reach_40 0 rfl ?_
        refine cg_get C 0 4 d_A_reach_41 rfl rfl hin_A (by decide) rfl tw_92 rfl ?_
        refine cg_iload C d_A_reach_44 4 rfl ?_
        refine cg_iconst (v := 1) C d_A_reach_46 (by decide) ?_
        obtain ⟨i_16, hF⟩ := cn_rd_some hF
        refine cg_zast (ws' := w_A_reach cy A_a A_a_pairs A_a_pads A_a_reached A_a_nearest A_p A_p_there A_p_from A_p_to A_p_pin A_p_left A_p_low A_p_right A_p_high A_p_rim A_g A_g_leader a_count a_padCount a_pads (upd a_reached (Int32.toNatClampNeg v5) (vp_nar .boolean 1)) a_nearest p_count p_left p_low p_right p_high g_leader) C 2 d_A_reach_47 rfl i_16 rfl ?_
        exact t_A_reach_48 C hr hlk hA A_a A_a_pairs A_a_pads A_a_reached A_a_nearest A_p A_p_there A_p_from A_p_to A_p_pin A_p_left A_p_low A_p_right A_p_high A_p_rim A_g A_g_leader a_count p_count (F_A_reach_15 n) ih a_padCount a_pads (upd a_reached (Int32.toNatClampNeg v5) (vp_nar .boolean 1)) a_nearest p_left p_low p_right p_high g_leader v4 v5 hF
def F_A_reach_0 (a_padCount : Int32) (a_pads : Nat → Int32) (a_reached : Nat → Int32) (a_nearest : Nat → Int64) (p_left : Nat → Int64) (p_low : Nat → Int64) (p_right : Nat → Int64) (p_high : Nat → Int64) (g_leader : Nat → Int32) (v1 : Int32) : Option ((Nat → Int32) × (Nat → Int64)) := cn_rd v1 60 ((F_G_leaderOf g_leader (a_pads (Int32.toNatClampNeg v1))).bind fun t_20 => F_A_reach_15 4096 a_padCount a_pads a_reached a_nearest p_left p_low p_right p_high g_leader t_20 0)
set_option maxRecDepth 100000 in
set_option maxHeartbeats 4000000 in
theorem t_A_reach_0 {p : Program} {l : Launch} {e : Env} {s : State} {m : MethodId} {args : Array Value} {below : List Frame} {meth : Method} {c : Code} {D : va_G} {cy : Nat → ClassId} {A : Nat → Prop} {out : (Nat → Int32) × (Nat → Int64)} (C : cn_X p s m args c b_A_reach 6 "CopperNets$Airlines" D cy) (hr : meth.sig.returnType = none) (hlk : meth.locks = false) (hA : ∀ q, s.heap.size ≤ q → A q) (A_a : Nat) (A_a_pairs : Nat) (A_a_pads : Nat) (A_a_reached : Nat) (A_a_nearest : Nat) (A_p : Nat) (A_p_there : Nat) (A_p_from : Nat) (A_p_to : Nat) (A_p_pin : Nat) (A_p_left : Nat) (A_p_low : Nat) (A_p_right : Nat) (A_p_high : Nat) (A_p_rim : Nat) (A_g : Nat) (A_g_leader : Nat) (a_count : Int32) (p_count : Int32) (a_padCount : Int32) (a_pads : Nat → Int32) (a_reached : Nat → Int32) (a_nearest : Nat → Int64) (p_left : Nat → Int64) (p_low : Nat → Int64) (p_right : Nat → Int64) (p_high : Nat → Int64) (g_leader : Nat → Int32) (v1 : Int32) (hF : F_A_reach_0 a_padCount a_pads a_reached a_nearest p_left p_low p_right p_high g_leader v1 = some out) : cg p l e r_A_reach s m args below meth c D (va_S A s.heap) A 6 0 0 (MQ below (cn_QW none D (w_A_reach cy A_a A_a_pairs A_a_pads A_a_reached A_a_nearest A_p A_p_there A_p_from A_p_to A_p_pin A_p_left A_p_low A_p_right A_p_high A_p_rim A_g A_g_leader a_count a_padCount a_pads out.1 out.2 p_count p_left p_low p_right p_high g_leader) A) args s 0 0 A) (w_A_reach cy A_a A_a_pairs A_a_pads A_a_reached A_a_nearest A_p A_p_there A_p_from A_p_to A_p_pin A_p_left A_p_low A_p_right A_p_high A_p_rim A_g A_g_leader a_count a_padCount a_pads a_reached a_nearest p_count p_left p_low p_right p_high g_leader) 0 [(0, .ref A_a), (1, .int v1), (2, .ref A_p), (3, .ref A_g)] [] := by
  refine cg_aload_n C d_A_reach_0 3 rfl ?_
  refine cg_aload_n C d_A_reach_1 0 rfl ?_
  refine cg_get C 0 3 d_A_reach_2 rfl rfl hin_A (by decide) rfl tw_91 rfl ?_
  refine cg_iload_n C d_A_reach_5 1 rfl ?_
  obtain ⟨i_18, hF⟩ := cn_rd_some hF
  refine cg_iald C 1 d_A_reach_6 rfl i_18 ?_
  obtain ⟨t_20, h_19, hF⟩ := cn_bind hF
  refine cg_callRVN C (c_G_leaderOf A_g A_g_leader g_leader (a_pads (Int32.toNatClampNeg v1)) h_19) [9, 10] rfl (by decide) 0 rfl rfl d_A_reach_7 nM_16 tw_149 ts_2 tw_3 tw_150 hs_G_leaderOf ⟨by decide, by decide⟩ rfl rfl ⟨by decide, by decide⟩ (Nat.le_of_ble_eq_true rfl) rfl rfl ?_
  refine cg_istore (lv' := [(4, .int t_20), (0, .ref A_a), (1, .int v1), (2, .ref A_p), (3, .ref A_g)]) C d_A_reach_10 (by decide) rfl ?_
  refine cg_iconst (v := 0) C d_A_reach_12 (by decide) ?_
  refine cg_istore (lv' := [(5, .int 0), (4, .int t_20), (0, .ref A_a), (1, .int v1), (2, .ref A_p), (3, .ref A_g)]) C d_A_reach_13 (by decide) rfl ?_
  refine cg_sub (lv' := [(0, .ref A_a), (2, .ref A_p), (3, .ref A_g), (4, .int t_20), (5, .int 0)]) [2, 4, 5, 1, 0] rfl ?_
  exact t_A_reach_15 C hr hlk hA A_a A_a_pairs A_a_pads A_a_reached A_a_nearest A_p A_p_there A_p_from A_p_to A_p_pin A_p_left A_p_low A_p_right A_p_high A_p_rim A_g A_g_leader a_count p_count 4096 a_padCount a_pads a_reached a_nearest p_left p_low p_right p_high g_leader t_20 0 hF
abbrev F_A_reach (a_padCount : Int32) (a_pads : Nat → Int32) (a_reached : Nat → Int32) (a_nearest : Nat → Int64) (p_left : Nat → Int64) (p_low : Nat → Int64) (p_right : Nat → Int64) (p_high : Nat → Int64) (g_leader : Nat → Int32) (v1 : Int32) : Option ((Nat → Int32) × (Nat → Int64)) := F_A_reach_0 a_padCount a_pads a_reached a_nearest p_left p_low p_right p_high g_leader v1
theorem c_A_reach {l : Launch} {D : va_G} {cy : Nat → ClassId} (A_a : Nat) (A_a_pairs : Nat) (A_a_pads : Nat) (A_a_reached : Nat) (A_a_nearest : Nat) (A_p : Nat) (A_p_there : Nat) (A_p_from : Nat) (A_p_to : Nat) (A_p_pin : Nat) (A_p_left : Nat) (A_p_low : Nat) (A_p_right : Nat) (A_p_high : Nat) (A_p_rim : Nat) (A_g : Nat) (A_g_leader : Nat) (a_count : Int32) (a_padCount : Int32) (a_pads : Nat → Int32) (a_reached : Nat → Int32) (a_nearest : Nat → Int64) (p_count : Int32) (p_left : Nat → Int64) (p_low : Nat → Int64) (p_right : Nat → Int64) (p_high : Nat → Int64) (g_leader : Nat → Int32) (v1 : Int32) {out : (Nat → Int32) × (Nat → Int64)} (hF : F_A_reach a_padCount a_pads a_reached a_nearest p_left p_low p_right p_high g_leader v1 = some out) : cn_MW l y_A_reach b_A_reach 6 (none) r_A_reach D cy [.ref A_a, .int v1, .ref A_p, .ref A_g] (w_A_reach cy A_a A_a_pairs A_a_pads A_a_reached A_a_nearest A_p A_p_there A_p_from A_p_to A_p_pin A_p_left A_p_low A_p_right A_p_high A_p_rim A_g A_g_leader a_count a_padCount a_pads a_reached a_nearest p_count p_left p_low p_right p_high g_leader) none (w_A_reach cy A_a A_a_pairs A_a_pads A_a_reached A_a_nearest A_p A_p_there A_p_from A_p_to A_p_pin A_p_left A_p_low A_p_right A_p_high A_p_rim A_g A_g_leader a_count a_padCount a_pads out.1 out.2 p_count p_left p_low p_right p_high g_leader) 0 0 :=
  cn_MW.of (by decide +kernel) (Nat.le_of_ble_eq_true rfl) (fun p e s m below meth c A C hr hlk hA => t_A_reach_0 C hr hlk hA A_a A_a_pairs A_a_pads A_a_reached A_a_nearest A_p A_p_there A_p_from A_p_to A_p_pin A_p_left A_p_low A_p_right A_p_high A_p_rim A_g A_g_leader a_count p_count a_padCount a_pads a_reached a_nearest p_left p_low p_right p_high g_leader v1 hF)
/-! CopperNets$Airlines.nearestPad()I -/
abbrev r_A_nearestPad : Room := { frames := 0, cells := 0, slots := 0, locals := 0 }
abbrev w_A_nearestPad (cy : Nat → ClassId) (A_a : Nat) (A_a_pairs : Nat) (A_a_pads : Nat) (A_a_reached : Nat) (A_a_nearest : Nat) (a_count : Int32) (a_padCount : Int32) (a_reached : Nat → Int32) (a_nearest : Nat → Int64) : va_W := [(A_a, .inr (1, [.int a_count, .ref A_a_pairs, .int a_padCount, .ref A_a_pads, .ref A_a_reached, .ref A_a_nearest])), (A_a_reached, .inl (cy 2, 60, .inl a_reached)), (A_a_nearest, .inl (cy 1, 60, .inr (.inl a_nearest)))]
theorem hs_A_nearestPad : y_A_nearestPad.cls ≠ "java/lang/invoke/MethodHandle" ∧ y_A_nearestPad.cls ≠ "java/lang/invoke/VarHandle" ∧ (parseMethodDescriptor y_A_nearestPad.desc).map (fun d => d.parameters.length) = some 0 := by decide +kernel
def F_A_nearestPad_44 (k_4 : Int32 → (Nat → Int32) → (Nat → Int64) → Int32 → Int32 → Option (Int32)) (a_padCount : Int32) (a_reached : Nat → Int32) (a_nearest : Nat → Int64) (v1 : Int32) (v2 : Int32) : Option (Int32) := k_4 a_padCount a_reached a_nearest v1 (v2 + 1)
set_option maxRecDepth 100000 in
set_option maxHeartbeats 4000000 in
theorem t_A_nearestPad_44 {p : Program} {l : Launch} {e : Env} {s : State} {m : MethodId} {args : Array Value} {below : List Frame} {meth : Method} {c : Code} {D : va_G} {cy : Nat → ClassId} {out : Int32} (C : cn_X p s m args c b_A_nearestPad 3 "CopperNets$Airlines" D cy) (hr : meth.sig.returnType = some .int) (hlk : meth.locks = false) (A_a : Nat) (A_a_pairs : Nat) (A_a_pads : Nat) (A_a_reached : Nat) (A_a_nearest : Nat) (a_count : Int32) (k_4 : Int32 → (Nat → Int32) → (Nat → Int64) → Int32 → Int32 → Option (Int32)) (hk_4 : ∀ (a_padCount : Int32) (a_reached : Nat → Int32) (a_nearest : Nat → Int64) (v1 : Int32) (v2 : Int32), k_4 a_padCount a_reached a_nearest v1 v2 = some out → cg p l e r_A_nearestPad s m args below meth c D (cn_hi s) (fun _ => True) 3 0 0 (MQ below (cn_QR (some (.int out))) args s 0 0 (fun _ => False)) (w_A_nearestPad cy A_a A_a_pairs A_a_pads A_a_reached A_a_nearest a_count a_padCount a_reached a_nearest) 4 [(0, .ref A_a), (1, .int v1), (2, .int v2)] []) (a_padCount : Int32) (a_reached : Nat → Int32) (a_nearest : Nat → Int64) (v1 : Int32) (v2 : Int32) (hF : F_A_nearestPad_44 k_4 a_padCount a_reached a_nearest v1 v2 = some out) : cg p l e r_A_nearestPad s m args below meth c D (cn_hi s) (fun _ => True) 3 0 0 (MQ below (cn_QR (some (.int out))) args s 0 0 (fun _ => False)) (w_A_nearestPad cy A_a A_a_pairs A_a_pads A_a_reached A_a_nearest a_count a_padCount a_reached a_nearest) 44 [(0, .ref A_a), (1, .int v1), (2, .int v2)] [] := by
  refine cg_iinc (v := v2 + 1) (lv' := [(2, .int (v2 + 1)), (0, .ref A_a), (1, .int v1)]) C d_A_nearestPad_44 2 rfl (by decide) rfl rfl ?_
  refine cg_goto C 4 d_A_nearestPad_47 (by decide) ?_
  refine cg_sub (lv' := [(0, .ref A_a), (1, .int v1), (2, .int (v2 + 1))]) [1, 2, 0] rfl ?_
  exact hk_4 a_padCount a_reached a_nearest v1 (v2 + 1) hF
def F_A_nearestPad_42 (k_4 : Int32 → (Nat → Int32) → (Nat → Int64) → Int32 → Int32 → Option (Int32)) (a_padCount : Int32) (a_reached : Nat → Int32) (a_nearest : Nat → Int64) (v2 : Int32) : Option (Int32) := F_A_nearestPad_44 k_4 a_padCount a_reached a_nearest v2 v2
set_option maxRecDepth 100000 in
set_option maxHeartbeats 4000000 in
theorem t_A_nearestPad_42 {p : Program} {l : Launch} {e : Env} {s : State} {m : MethodId} {args : Array Value} {below : List Frame} {meth : Method} {c : Code} {D : va_G} {cy : Nat → ClassId} {out : Int32} (C : cn_X p s m args c b_A_nearestPad 3 "CopperNets$Airlines" D cy) (hr : meth.sig.returnType = some .int) (hlk : meth.locks = false) (A_a : Nat) (A_a_pairs : Nat) (A_a_pads : Nat) (A_a_reached : Nat) (A_a_nearest : Nat) (a_count : Int32) (k_4 : Int32 → (Nat → Int32) → (Nat → Int64) → Int32 → Int32 → Option (Int32)) (hk_4 : ∀ (a_padCount : Int32) (a_reached : Nat → Int32) (a_nearest : Nat → Int64) (v1 : Int32) (v2 : Int32), k_4 a_padCount a_reached a_nearest v1 v2 = some out → cg p l e r_A_nearestPad s m args below meth c D (cn_hi s) (fun _ => True) 3 0 0 (MQ below (cn_QR (some (.int out))) args s 0 0 (fun _ => False)) (w_A_nearestPad cy A_a A_a_pairs A_a_pads A_a_reached A_a_nearest a_count a_padCount a_reached a_nearest) 4 [(0, .ref A_a), (1, .int v1), (2, .int v2)] []) (a_padCount : Int32) (a_reached : Nat → Int32) (a_nearest : Nat → Int64) (v2 : Int32) (hF : F_A_nearestPad_42 k_4 a_padCount a_reached a_nearest v2 = some out) : cg p l e r_A_nearestPad s m args below meth c D (cn_hi s) (fun _ => True) 3 0 0 (MQ below (cn_QR (some (.int out))) args s 0 0 (fun _ => False)) (w_A_nearestPad cy A_a A_a_pairs A_a_pads A_a_reached A_a_nearest a_count a_padCount a_reached a_nearest) 42 [(0, .ref A_a), (2, .int v2)] [] := by
  refine cg_iload_n C d_A_nearestPad_42 1 rfl ?_
  refine cg_istore_n (lv' := [(1, .int v2), (0, .ref A_a), (2, .int v2)]) C d_A_nearestPad_43 (by decide) rfl ?_
  refine cg_sub (lv' := [(0, .ref A_a), (1, .int v2), (2, .int v2)]) [1, 0, 2] rfl ?_
  exact t_A_nearestPad_44 C hr hlk A_a A_a_pairs A_a_pads A_a_reached A_a_nearest a_count k_4 hk_4 a_padCount a_reached a_nearest v2 v2 hF
def F_A_nearestPad_4 : Nat → Int32 → (Nat → Int32) → (Nat → Int64) → Int32 → Int32 → Option (Int32)
  | 0, _, _, _, _, _ => none
  | n + 1, a_padCount, a_reached, a_nearest, v1, v2 => if a_padCount ≤ v2 then (some (v1)) else (cn_rd v2 60 (if (a_reached (Int32.toNatClampNeg v2)) = 0 then (if v1 = (-1) then (F_A_nearestPad_42 (F_A_nearestPad_4 n) a_padCount a_reached a_nearest v2) else (cn_rd v2 60 (cn_rd v1 60 (if 0 ≤ (lg_cmp (a_nearest (Int32.toNatClampNeg v2)) (a_nearest (Int32.toNatClampNeg v1))) then (F_A_nearestPad_44 (F_A_nearestPad_4 n) a_padCount a_reached a_nearest v1 v2) else (F_A_nearestPad_42 (F_A_nearestPad_4 n) a_padCount a_reached a_nearest v2))))) else (F_A_nearestPad_44 (F_A_nearestPad_4 n) a_padCount a_reached a_nearest v1 v2)))
set_option maxRecDepth 100000 in
set_option maxHeartbeats 4000000 in
theorem t_A_nearestPad_4 {p : Program} {l : Launch} {e : Env} {s : State} {m : MethodId} {args : Array Value} {below : List Frame} {meth : Method} {c : Code} {D : va_G} {cy : Nat → ClassId} {out : Int32} (C : cn_X p s m args c b_A_nearestPad 3 "CopperNets$Airlines" D cy) (hr : meth.sig.returnType = some .int) (hlk : meth.locks = false) (A_a : Nat) (A_a_pairs : Nat) (A_a_pads : Nat) (A_a_reached : Nat) (A_a_nearest : Nat) (a_count : Int32) : ∀ (n : Nat) (a_padCount : Int32) (a_reached : Nat → Int32) (a_nearest : Nat → Int64) (v1 : Int32) (v2 : Int32), F_A_nearestPad_4 n a_padCount a_reached a_nearest v1 v2 = some out → cg p l e r_A_nearestPad s m args below meth c D (cn_hi s) (fun _ => True) 3 0 0 (MQ below (cn_QR (some (.int out))) args s 0 0 (fun _ => False)) (w_A_nearestPad cy A_a A_a_pairs A_a_pads A_a_reached A_a_nearest a_count a_padCount a_reached a_nearest) 4 [(0, .ref A_a), (1, .int v1), (2, .int v2)] [] := by
  intro n
  induction n with
  | zero => intro a_padCount a_reached a_nearest v1 v2 hF; exact nomatch (show (none : Option (Int32)) = some out from hF)
  | succ n ih =>
    intro a_padCount a_reached a_nearest v1 v2 hF
    refine cg_iload_n C d_A_nearestPad_4 2 rfl ?_
    refine cg_aload_n C d_A_nearestPad_5 0 rfl ?_
    refine cg_get C 0 2 d_A_nearestPad_6 rfl rfl hin_A (by decide) rfl tw_90 rfl ?_
    refine cg_icmp_ge C 50 d_A_nearestPad_9 (by decide) (fun q_1 => ?_) (fun q_1 => ?_)
    · have hF := cn_pos q_1 hF
      refine cg_iload_n C d_A_nearestPad_50 1 rfl ?_
      obtain rfl := Option.some.inj hF
      exact cg_iretR C hr hlk d_A_nearestPad_51
    · have hF := cn_neg q_1 hF
      refine cg_aload_n C d_A_nearestPad_12 0 rfl ?_
      refine cg_get C 0 4 d_A_nearestPad_13 rfl rfl hin_A (by decide) rfl tw_92 rfl ?_
      refine cg_iload_n C d_A_nearestPad_16 2 rfl ?_
      obtain ⟨i_2, hF⟩ := cn_rd_some hF
      refine cg_zald C 1 d_A_nearestPad_17 rfl i_2 ?_
      refine cg_if_ne C 44 d_A_nearestPad_18 (by decide) (fun q_3 => ?_) (fun q_3 => ?_)
      · have hF := cn_neg q_3 hF
        exact t_A_nearestPad_44 C hr hlk A_a A_a_pairs A_a_pads A_a_reached A_a_nearest a_count (F_A_nearestPad_4 n) ih a_padCount a_reached a_nearest v1 v2 hF
      · have hF := cn_pos q_3 hF
        refine cg_iload_n C d_A_nearestPad_21 1 rfl ?_
        refine cg_iconst (v := (-1)) C d_A_nearestPad_22 (by decide) ?_
        refine cg_icmp_eq C 42 d_A_nearestPad_23 (by decide) (fun q_4 => ?_) (fun q_4 => ?_)
        · have hF := cn_pos q_4 hF
          refine cg_sub (lv' := [(0, .ref A_a), (2, .int v2)]) [0, 2] rfl ?_
          exact t_A_nearestPad_42 C hr hlk A_a A_a_pairs A_a_pads A_a_reached A_a_nearest a_count (F_A_nearestPad_4 n) ih a_padCount a_reached a_nearest v2 hF
        · have hF := cn_neg q_4 hF
          refine cg_aload_n C d_A_nearestPad_26 0 rfl ?_
          refine cg_get C 0 5 d_A_nearestPad_27 rfl rfl hin_A (by decide) rfl tw_93 rfl ?_
          refine cg_iload_n C d_A_nearestPad_30 2 rfl ?_
          obtain ⟨i_5, hF⟩ := cn_rd_some hF
          refine cg_lald C 2 d_A_nearestPad_31 rfl i_5 ?_
          refine cg_aload_n C d_A_nearestPad_32 0 rfl ?_
          refine cg_get C 0 5 d_A_nearestPad_33 rfl rfl hin_A (by decide) rfl tw_93 rfl ?_
          refine cg_iload_n C d_A_nearestPad_36 1 rfl ?_
          obtain ⟨i_6, hF⟩ := cn_rd_some hF
          refine cg_lald C 2 d_A_nearestPad_37 rfl i_6 ?_
          refine cg_lcmp C d_A_nearestPad_38 ?_
          refine cg_if_ge C 44 d_A_nearestPad_39 (by decide) (fun q_7 => ?_) (fun q_7 => ?_)
          · have hF := cn_pos q_7 hF
            exact t_A_nearestPad_44 C hr hlk A_a A_a_pairs A_a_pads A_a_reached A_a_nearest a_count (F_A_nearestPad_4 n) ih a_padCount a_reached a_nearest v1 v2 hF
          · have hF := cn_neg q_7 hF
            refine cg_sub (lv' := [(0, .ref A_a), (2, .int v2)]) [0, 2] rfl ?_
            exact t_A_nearestPad_42 C hr hlk A_a A_a_pairs A_a_pads A_a_reached A_a_nearest a_count (F_A_nearestPad_4 n) ih a_padCount a_reached a_nearest v2 hF
def F_A_nearestPad_0 (a_padCount : Int32) (a_reached : Nat → Int32) (a_nearest : Nat → Int64) : Option (Int32) := F_A_nearestPad_4 4096 a_padCount a_reached a_nearest (-1) 0
set_option maxRecDepth 100000 in
set_option maxHeartbeats 4000000 in
theorem t_A_nearestPad_0 {p : Program} {l : Launch} {e : Env} {s : State} {m : MethodId} {args : Array Value} {below : List Frame} {meth : Method} {c : Code} {D : va_G} {cy : Nat → ClassId} {out : Int32} (C : cn_X p s m args c b_A_nearestPad 3 "CopperNets$Airlines" D cy) (hr : meth.sig.returnType = some .int) (hlk : meth.locks = false) (A_a : Nat) (A_a_pairs : Nat) (A_a_pads : Nat) (A_a_reached : Nat) (A_a_nearest : Nat) (a_count : Int32) (a_padCount : Int32) (a_reached : Nat → Int32) (a_nearest : Nat → Int64) (hF : F_A_nearestPad_0 a_padCount a_reached a_nearest = some out) : cg p l e r_A_nearestPad s m args below meth c D (cn_hi s) (fun _ => True) 3 0 0 (MQ below (cn_QR (some (.int out))) args s 0 0 (fun _ => False)) (w_A_nearestPad cy A_a A_a_pairs A_a_pads A_a_reached A_a_nearest a_count a_padCount a_reached a_nearest) 0 [(0, .ref A_a)] [] := by
  refine cg_iconst (v := (-1)) C d_A_nearestPad_0 (by decide) ?_
  refine cg_istore_n (lv' := [(1, .int (-1)), (0, .ref A_a)]) C d_A_nearestPad_1 (by decide) rfl ?_
  refine cg_iconst (v := 0) C d_A_nearestPad_2 (by decide) ?_
  refine cg_istore_n (lv' := [(2, .int 0), (1, .int (-1)), (0, .ref A_a)]) C d_A_nearestPad_3 (by decide) rfl ?_
  refine cg_sub (lv' := [(0, .ref A_a), (1, .int (-1)), (2, .int 0)]) [2, 1, 0] rfl ?_
  exact t_A_nearestPad_4 C hr hlk A_a A_a_pairs A_a_pads A_a_reached A_a_nearest a_count 4096 a_padCount a_reached a_nearest (-1) 0 hF
abbrev F_A_nearestPad (a_padCount : Int32) (a_reached : Nat → Int32) (a_nearest : Nat → Int64) : Option (Int32) := F_A_nearestPad_0 a_padCount a_reached a_nearest
theorem c_A_nearestPad {l : Launch} {D : va_G} {cy : Nat → ClassId} (A_a : Nat) (A_a_pairs : Nat) (A_a_pads : Nat) (A_a_reached : Nat) (A_a_nearest : Nat) (a_count : Int32) (a_padCount : Int32) (a_reached : Nat → Int32) (a_nearest : Nat → Int64) {out : Int32} (hF : F_A_nearestPad a_padCount a_reached a_nearest = some out) : cn_MR l y_A_nearestPad b_A_nearestPad 3 (some .int) r_A_nearestPad D cy [.ref A_a] (w_A_nearestPad cy A_a A_a_pairs A_a_pads A_a_reached A_a_nearest a_count a_padCount a_reached a_nearest) (some (.int out)) :=
  cn_MR.of (by decide +kernel) (Nat.le_of_ble_eq_true rfl) (fun p e s m below meth c C hr hlk => t_A_nearestPad_0 C hr hlk A_a A_a_pairs A_a_pads A_a_reached A_a_nearest a_count a_padCount a_reached a_nearest hF)
/-! CopperNets$Airlines.insert(J)V -/
abbrev r_A_insert : Room := { frames := 0, cells := 0, slots := 0, locals := 0 }
abbrev w_A_insert (cy : Nat → ClassId) (A_a : Nat) (A_a_pairs : Nat) (A_a_pads : Nat) (A_a_reached : Nat) (A_a_nearest : Nat) (a_count : Int32) (a_padCount : Int32) (a_pairs : Nat → Int64) : va_W := [(A_a, .inr (1, [.int a_count, .ref A_a_pairs, .int a_padCount, .ref A_a_pads, .ref A_a_reached, .ref A_a_nearest])), (A_a_pairs, .inl (cy 1, 60, .inr (.inl a_pairs)))]
theorem hs_A_insert : y_A_insert.cls ≠ "java/lang/invoke/MethodHandle" ∧ y_A_insert.cls ≠ "java/lang/invoke/VarHandle" ∧ (parseMethodDescriptor y_A_insert.desc).map (fun d => d.parameters.length) = some 1 := by decide +kernel
def F_A_insert_67 (a_count : Int32) (a_pairs : Nat → Int64) (v1 : Int64) (v3 : Int32) : Option (Int32 × (Nat → Int64)) := cn_rd v3 60 (some ((a_count + 1), (vp_updL a_pairs (Int32.toNatClampNeg v3) v1)))
set_option maxRecDepth 100000 in
set_option maxHeartbeats 4000000 in
theorem t_A_insert_67 {p : Program} {l : Launch} {e : Env} {s : State} {m : MethodId} {args : Array Value} {below : List Frame} {meth : Method} {c : Code} {D : va_G} {cy : Nat → ClassId} {A : Nat → Prop} {out : Int32 × (Nat → Int64)} (C : cn_X p s m args c b_A_insert 5 "CopperNets$Airlines" D cy) (hr : meth.sig.returnType = none) (hlk : meth.locks = false) (hA : ∀ q, s.heap.size ≤ q → A q) (A_a : Nat) (A_a_pairs : Nat) (A_a_pads : Nat) (A_a_reached : Nat) (A_a_nearest : Nat) (a_padCount : Int32) (a_count : Int32) (a_pairs : Nat → Int64) (v1 : Int64) (v3 : Int32) (hF : F_A_insert_67 a_count a_pairs v1 v3 = some out) : cg p l e r_A_insert s m args below meth c D (va_S A s.heap) A 5 0 0 (MQ below (cn_QW none D (w_A_insert cy A_a A_a_pairs A_a_pads A_a_reached A_a_nearest out.1 a_padCount out.2) A) args s 0 0 A) (w_A_insert cy A_a A_a_pairs A_a_pads A_a_reached A_a_nearest a_count a_padCount a_pairs) 67 [(0, .ref A_a), (1, .long v1), (3, .int v3)] [] := by
  refine cg_aload_n C d_A_insert_67 0 rfl ?_
  refine cg_get C 0 1 d_A_insert_68 rfl rfl hin_A (by decide) rfl tw_89 rfl ?_
  refine cg_iload_n C d_A_insert_71 2 rfl ?_
  refine cg_lload_n C d_A_insert_72 1 rfl ?_
  obtain ⟨i_1, hF⟩ := cn_rd_some hF
  refine cg_last (ws' := w_A_insert cy A_a A_a_pairs A_a_pads A_a_reached A_a_nearest a_count a_padCount (vp_updL a_pairs (Int32.toNatClampNeg v3) v1)) C 1 d_A_insert_73 rfl i_1 rfl ?_
  refine cg_aload_n C d_A_insert_74 0 rfl ?_
  refine cg_dup C d_A_insert_75 rfl ?_
  refine cg_get C 0 0 d_A_insert_76 rfl rfl hin_A (by decide) rfl tw_87 rfl ?_
  refine cg_iconst (v := 1) C d_A_insert_79 (by decide) ?_
  refine cg_iadd C d_A_insert_80 ?_
  refine cg_put (ws' := w_A_insert cy A_a A_a_pairs A_a_pads A_a_reached A_a_nearest (a_count + 1) a_padCount (vp_updL a_pairs (Int32.toNatClampNeg v3) v1)) C 0 0 t_A d_A_insert_81 rfl rfl hin_A tt_A n_A (by decide) rfl tw_87 rfl rfl (Nat.le_of_ble_eq_true rfl) rfl ?_
  obtain rfl := Option.some.inj hF
  exact cg_vretW C hr hlk d_A_insert_84
def F_A_insert_21 : Nat → Int32 → (Nat → Int64) → Int64 → Int32 → Int32 → Option (Int32 × (Nat → Int64))
  | 0, _, _, _, _, _ => none
  | n + 1, a_count, a_pairs, v1, v3, v4 => if v4 ≤ 0 then (F_A_insert_67 a_count a_pairs v1 v3) else (cn_rd (v4 - 1) 60 (if (lg_cmp (a_pairs (Int32.toNatClampNeg (v4 - 1))) v1) ≤ 0 then (F_A_insert_67 a_count a_pairs v1 v3) else (cn_rd (v4 - 1) 60 (cn_rd v4 60 (F_A_insert_21 n a_count (vp_updL a_pairs (Int32.toNatClampNeg v4) (a_pairs (Int32.toNatClampNeg (v4 - 1)))) v1 (v4 - 1) (v4 + (-1)))))))
set_option maxRecDepth 100000 in
set_option maxHeartbeats 4000000 in
theorem t_A_insert_21 {p : Program} {l : Launch} {e : Env} {s : State} {m : MethodId} {args : Array Value} {below : List Frame} {meth : Method} {c : Code} {D : va_G} {cy : Nat → ClassId} {A : Nat → Prop} {out : Int32 × (Nat → Int64)} (C : cn_X p s m args c b_A_insert 5 "CopperNets$Airlines" D cy) (hr : meth.sig.returnType = none) (hlk : meth.locks = false) (hA : ∀ q, s.heap.size ≤ q → A q) (A_a : Nat) (A_a_pairs : Nat) (A_a_pads : Nat) (A_a_reached : Nat) (A_a_nearest : Nat) (a_padCount : Int32) : ∀ (n : Nat) (a_count : Int32) (a_pairs : Nat → Int64) (v1 : Int64) (v3 : Int32) (v4 : Int32), F_A_insert_21 n a_count a_pairs v1 v3 v4 = some out → cg p l e r_A_insert s m args below meth c D (va_S A s.heap) A 5 0 0 (MQ below (cn_QW none D (w_A_insert cy A_a A_a_pairs A_a_pads A_a_reached A_a_nearest out.1 a_padCount out.2) A) args s 0 0 A) (w_A_insert cy A_a A_a_pairs A_a_pads A_a_reached A_a_nearest a_count a_padCount a_pairs) 21 [(0, .ref A_a), (1, .long v1), (3, .int v3), (4, .int v4)] [] := by
  intro n
  induction n with
  | zero => intro a_count a_pairs v1 v3 v4 hF; exact nomatch (show (none : Option (Int32 × (Nat → Int64))) = some out from hF)
  | succ n ih =>
    intro a_count a_pairs v1 v3 v4 hF
    refine cg_iload C d_A_insert_21 3 rfl ?_
    refine cg_if_le C 67 d_A_insert_23 (by decide) (fun q_2 => ?_) (fun q_2 => ?_)
    · have hF := cn_pos q_2 hF
      refine cg_sub (lv' := [(0, .ref A_a), (1, .long v1), (3, .int v3)]) [0, 1, 2] rfl ?_
      exact t_A_insert_67 C hr hlk hA A_a A_a_pairs A_a_pads A_a_reached A_a_nearest a_padCount a_count a_pairs v1 v3 hF
    · have hF := cn_neg q_2 hF
      refine cg_aload_n C d_A_insert_26 0 rfl ?_
      refine cg_get C 0 1 d_A_insert_27 rfl rfl hin_A (by decide) rfl tw_89 rfl ?_
      refine cg_iload C d_A_insert_30 3 rfl ?_
      refine cg_iconst (v := 1) C d_A_insert_32 (by decide) ?_
      refine cg_isub C d_A_insert_33 ?_
      obtain ⟨i_3, hF⟩ := cn_rd_some hF
      refine cg_lald C 1 d_A_insert_34 rfl i_3 ?_
      refine cg_lload_n C d_A_insert_35 1 rfl ?_
      refine cg_lcmp C d_A_insert_36 ?_
      refine cg_if_le C 67 d_A_insert_37 (by decide) (fun q_4 => ?_) (fun q_4 => ?_)
      · have hF := cn_pos q_4 hF
        refine cg_sub (lv' := [(0, .ref A_a), (1, .long v1), (3, .int v3)]) [0, 1, 2] rfl ?_
        exact t_A_insert_67 C hr hlk hA A_a A_a_pairs A_a_pads A_a_reached A_a_nearest a_padCount a_count a_pairs v1 v3 hF
      · have hF := cn_neg q_4 hF
        refine cg_aload_n C d_A_insert_40 0 rfl ?_
        refine cg_get C 0 1 d_A_insert_41 rfl rfl hin_A (by decide) rfl tw_89 rfl ?_
        refine cg_iload C d_A_insert_44 3 rfl ?_
        refine cg_aload_n C d_A_insert_46 0 rfl ?_
        refine cg_get C 0 1 d_A_insert_47 rfl rfl hin_A (by decide) rfl tw_89 rfl ?_
        refine cg_iload C d_A_insert_50 3 rfl ?_
        refine cg_iconst (v := 1) C d_A_insert_52 (by decide) ?_
        refine cg_isub C d_A_insert_53 ?_
        obtain ⟨i_5, hF⟩ := cn_rd_some hF
        refine cg_lald C 1 d_A_insert_54 rfl i_5 ?_
        obtain ⟨i_6, hF⟩ := cn_rd_some hF
        refine cg_last (ws' := w_A_insert cy A_a A_a_pairs A_a_pads A_a_reached A_a_nearest a_count a_padCount (vp_updL a_pairs (Int32.toNatClampNeg v4) (a_pairs (Int32.toNatClampNeg (v4 - 1))))) C 1 d_A_insert_55 rfl i_6 rfl ?_
        refine cg_iload C d_A_insert_56 3 rfl ?_
        refine cg_iconst (v := 1) C d_A_insert_58 (by decide) ?_
        refine cg_isub C d_A_insert_59 ?_
        refine cg_istore_n (lv' := [(3, .int (v4 - 1)), (0, .ref A_a), (1, .long v1), (4, .int v4)]) C d_A_insert_60 (by decide) rfl ?_
        refine cg_iinc (v := v4 + (-1)) (lv' := [(4, .int (v4 + (-1))), (3, .int (v4 - 1)), (0, .ref A_a), (1, .long v1)]) C d_A_insert_61 3 rfl (by decide) rfl rfl ?_
        refine cg_goto C 21 d_A_insert_64 (by decide) ?_
        refine cg_sub (lv' := [(0, .ref A_a), (1, .long v1), (3, .int (v4 - 1)), (4, .int (v4 + (-1)))]) [2, 3, 1, 0] rfl ?_
        exact ih a_count (vp_updL a_pairs (Int32.toNatClampNeg v4) (a_pairs (Int32.toNatClampNeg (v4 - 1)))) v1 (v4 - 1) (v4 + (-1)) hF
def F_A_insert_0 (a_count : Int32) (a_pairs : Nat → Int64) (v1 : Int64) : Option (Int32 × (Nat → Int64)) := if a_count < 60 then (F_A_insert_21 4096 a_count a_pairs v1 a_count a_count) else (some (a_count, a_pairs))
set_option maxRecDepth 100000 in
set_option maxHeartbeats 4000000 in
theorem t_A_insert_0 {p : Program} {l : Launch} {e : Env} {s : State} {m : MethodId} {args : Array Value} {below : List Frame} {meth : Method} {c : Code} {D : va_G} {cy : Nat → ClassId} {A : Nat → Prop} {out : Int32 × (Nat → Int64)} (C : cn_X p s m args c b_A_insert 5 "CopperNets$Airlines" D cy) (hr : meth.sig.returnType = none) (hlk : meth.locks = false) (hA : ∀ q, s.heap.size ≤ q → A q) (A_a : Nat) (A_a_pairs : Nat) (A_a_pads : Nat) (A_a_reached : Nat) (A_a_nearest : Nat) (a_padCount : Int32) (a_count : Int32) (a_pairs : Nat → Int64) (v1 : Int64) (hF : F_A_insert_0 a_count a_pairs v1 = some out) : cg p l e r_A_insert s m args below meth c D (va_S A s.heap) A 5 0 0 (MQ below (cn_QW none D (w_A_insert cy A_a A_a_pairs A_a_pads A_a_reached A_a_nearest out.1 a_padCount out.2) A) args s 0 0 A) (w_A_insert cy A_a A_a_pairs A_a_pads A_a_reached A_a_nearest a_count a_padCount a_pairs) 0 [(0, .ref A_a), (1, .long v1)] [] := by
  refine cg_aload_n C d_A_insert_0 0 rfl ?_
  refine cg_get C 0 0 d_A_insert_1 rfl rfl hin_A (by decide) rfl tw_87 rfl ?_
  refine cg_bipush (v := 60) C d_A_insert_4 (by decide) ?_
  refine cg_icmp_lt C 10 d_A_insert_6 (by decide) (fun q_7 => ?_) (fun q_7 => ?_)
  · have hF := cn_pos q_7 hF
    refine cg_aload_n C d_A_insert_10 0 rfl ?_
    refine cg_get C 0 0 d_A_insert_11 rfl rfl hin_A (by decide) rfl tw_87 rfl ?_
    refine cg_istore_n (lv' := [(3, .int a_count), (0, .ref A_a), (1, .long v1)]) C d_A_insert_14 (by decide) rfl ?_
    refine cg_aload_n C d_A_insert_15 1 rfl ?_
    refine cg_get C 0 0 d_A_insert_16 rfl rfl hin_A (by decide) rfl tw_87 rfl ?_
    refine cg_istore (lv' := [(4, .int a_count), (3, .int a_count), (0, .ref A_a), (1, .long v1)]) C d_A_insert_19 (by decide) rfl ?_
    refine cg_sub (lv' := [(0, .ref A_a), (1, .long v1), (3, .int a_count), (4, .int a_count)]) [2, 3, 1, 0] rfl ?_
    exact t_A_insert_21 C hr hlk hA A_a A_a_pairs A_a_pads A_a_reached A_a_nearest a_padCount 4096 a_count a_pairs v1 a_count a_count hF
  · have hF := cn_neg q_7 hF
    obtain rfl := Option.some.inj hF
    exact cg_vretW C hr hlk d_A_insert_9
abbrev F_A_insert (a_count : Int32) (a_pairs : Nat → Int64) (v1 : Int64) : Option (Int32 × (Nat → Int64)) := F_A_insert_0 a_count a_pairs v1
theorem c_A_insert {l : Launch} {D : va_G} {cy : Nat → ClassId} (A_a : Nat) (A_a_pairs : Nat) (A_a_pads : Nat) (A_a_reached : Nat) (A_a_nearest : Nat) (a_count : Int32) (a_padCount : Int32) (a_pairs : Nat → Int64) (v1 : Int64) {out : Int32 × (Nat → Int64)} (hF : F_A_insert a_count a_pairs v1 = some out) : cn_MW l y_A_insert b_A_insert 5 (none) r_A_insert D cy [.ref A_a, .long v1] (w_A_insert cy A_a A_a_pairs A_a_pads A_a_reached A_a_nearest a_count a_padCount a_pairs) none (w_A_insert cy A_a A_a_pairs A_a_pads A_a_reached A_a_nearest out.1 a_padCount out.2) 0 0 :=
  cn_MW.of (by decide +kernel) (Nat.le_of_ble_eq_true rfl) (fun p e s m below meth c A C hr hlk hA => t_A_insert_0 C hr hlk hA A_a A_a_pairs A_a_pads A_a_reached A_a_nearest a_padCount a_count a_pairs v1 hF)
/-! CopperNets$Airlines.draw(LCopperNets$Pieces;LCopperNets$Groups;)V -/
abbrev r_A_draw : Room := { frames := 4, cells := 0, slots := 0, locals := 103 }
abbrev w_A_draw (cy : Nat → ClassId) (A_a : Nat) (A_a_pairs : Nat) (A_a_pads : Nat) (A_a_reached : Nat) (A_a_nearest : Nat) (A_p : Nat) (A_p_there : Nat) (A_p_from : Nat) (A_p_to : Nat) (A_p_pin : Nat) (A_p_left : Nat) (A_p_low : Nat) (A_p_right : Nat) (A_p_high : Nat) (A_p_rim : Nat) (A_g : Nat) (A_g_leader : Nat) (a_count : Int32) (a_padCount : Int32) (a_pairs : Nat → Int64) (a_pads : Nat → Int32) (a_reached : Nat → Int32) (a_nearest : Nat → Int64) (p_count : Int32) (p_left : Nat → Int64) (p_low : Nat → Int64) (p_right : Nat → Int64) (p_high : Nat → Int64) (g_leader : Nat → Int32) : va_W := [(A_a, .inr (1, [.int a_count, .ref A_a_pairs, .int a_padCount, .ref A_a_pads, .ref A_a_reached, .ref A_a_nearest])), (A_a_pairs, .inl (cy 1, 60, .inr (.inl a_pairs))), (A_a_pads, .inl (cy 0, 60, .inl a_pads)), (A_a_reached, .inl (cy 2, 60, .inl a_reached)), (A_a_nearest, .inl (cy 1, 60, .inr (.inl a_nearest))), (A_p, .inr (3, [.int p_count, .ref A_p_there, .ref A_p_from, .ref A_p_to, .ref A_p_pin, .ref A_p_left, .ref A_p_low, .ref A_p_right, .ref A_p_high, .ref A_p_rim])), (A_p_left, .inl (cy 1, 60, .inr (.inl p_left))), (A_p_low, .inl (cy 1, 60, .inr (.inl p_low))), (A_p_right, .inl (cy 1, 60, .inr (.inl p_right))), (A_p_high, .inl (cy 1, 60, .inr (.inl p_high))), (A_g, .inr (2, [.ref A_g_leader])), (A_g_leader, .inl (cy 0, 60, .inl g_leader))]
theorem hs_A_draw : y_A_draw.cls ≠ "java/lang/invoke/MethodHandle" ∧ y_A_draw.cls ≠ "java/lang/invoke/VarHandle" ∧ (parseMethodDescriptor y_A_draw.desc).map (fun d => d.parameters.length) = some 2 := by decide +kernel
def F_A_draw_17 : Nat → Int32 → Int32 → (Nat → Int64) → (Nat → Int32) → (Nat → Int32) → (Nat → Int64) → (Nat → Int64) → (Nat → Int64) → (Nat → Int64) → (Nat → Int64) → (Nat → Int32) → Int32 → Option (Int32 × (Nat → Int64) × (Nat → Int32) × (Nat → Int64))
  | 0, _, _, _, _, _, _, _, _, _, _, _, _ => none
  | n + 1, a_count, a_padCount, a_pairs, a_pads, a_reached, a_nearest, p_left, p_low, p_right, p_high, g_leader, v3 => if a_padCount ≤ v3 then (some (a_count, a_pairs, a_reached, a_nearest)) else ((F_A_nearestPad a_padCount a_reached a_nearest).bind fun t_3 => if t_3 = (-1) then (some (a_count, a_pairs, a_reached, a_nearest)) else (cn_rd t_3 60 ((F_A_insert a_count a_pairs (a_nearest (Int32.toNatClampNeg t_3))).bind fun t_7 => (F_A_reach a_padCount a_pads a_reached a_nearest p_left p_low p_right p_high g_leader t_3).bind fun t_9 => F_A_draw_17 n t_7.1 a_padCount t_7.2 a_pads t_9.1 t_9.2 p_left p_low p_right p_high g_leader (v3 + 1))))
set_option maxRecDepth 100000 in
set_option maxHeartbeats 4000000 in
theorem t_A_draw_17 {p : Program} {l : Launch} {e : Env} {s : State} {m : MethodId} {args : Array Value} {below : List Frame} {meth : Method} {c : Code} {D : va_G} {cy : Nat → ClassId} {A : Nat → Prop} {out : Int32 × (Nat → Int64) × (Nat → Int32) × (Nat → Int64)} (C : cn_X p s m args c b_A_draw 5 "CopperNets$Airlines" D cy) (hr : meth.sig.returnType = none) (hlk : meth.locks = false) (hA : ∀ q, s.heap.size ≤ q → A q) (A_a : Nat) (A_a_pairs : Nat) (A_a_pads : Nat) (A_a_reached : Nat) (A_a_nearest : Nat) (A_p : Nat) (A_p_there : Nat) (A_p_from : Nat) (A_p_to : Nat) (A_p_pin : Nat) (A_p_left : Nat) (A_p_low : Nat) (A_p_right : Nat) (A_p_high : Nat) (A_p_rim : Nat) (A_g : Nat) (A_g_leader : Nat) (p_count : Int32) : ∀ (n : Nat) (a_count : Int32) (a_padCount : Int32) (a_pairs : Nat → Int64) (a_pads : Nat → Int32) (a_reached : Nat → Int32) (a_nearest : Nat → Int64) (p_left : Nat → Int64) (p_low : Nat → Int64) (p_right : Nat → Int64) (p_high : Nat → Int64) (g_leader : Nat → Int32) (v3 : Int32), F_A_draw_17 n a_count a_padCount a_pairs a_pads a_reached a_nearest p_left p_low p_right p_high g_leader v3 = some out → cg p l e r_A_draw s m args below meth c D (va_S A s.heap) A 5 0 0 (MQ below (cn_QW none D (w_A_draw cy A_a A_a_pairs A_a_pads A_a_reached A_a_nearest A_p A_p_there A_p_from A_p_to A_p_pin A_p_left A_p_low A_p_right A_p_high A_p_rim A_g A_g_leader out.1 a_padCount out.2.1 a_pads out.2.2.1 out.2.2.2 p_count p_left p_low p_right p_high g_leader) A) args s 0 0 A) (w_A_draw cy A_a A_a_pairs A_a_pads A_a_reached A_a_nearest A_p A_p_there A_p_from A_p_to A_p_pin A_p_left A_p_low A_p_right A_p_high A_p_rim A_g A_g_leader a_count a_padCount a_pairs a_pads a_reached a_nearest p_count p_left p_low p_right p_high g_leader) 17 [(0, .ref A_a), (1, .ref A_p), (2, .ref A_g), (3, .int v3)] [] := by
  intro n
  induction n with
  | zero => intro a_count a_padCount a_pairs a_pads a_reached a_nearest p_left p_low p_right p_high g_leader v3 hF; exact nomatch (show (none : Option (Int32 × (Nat → Int64) × (Nat → Int32) × (Nat → Int64))) = some out from hF)
  | succ n ih =>
    intro a_count a_padCount a_pairs a_pads a_reached a_nearest p_left p_low p_right p_high g_leader v3 hF
    refine cg_iload_n C d_A_draw_17 3 rfl ?_
    refine cg_aload_n C d_A_draw_18 0 rfl ?_
    refine cg_get C 0 2 d_A_draw_19 rfl rfl hin_A (by decide) rfl tw_90 rfl ?_
    refine cg_icmp_ge C 63 d_A_draw_22 (by decide) (fun q_1 => ?_) (fun q_1 => ?_)
    · have hF := cn_pos q_1 hF
      obtain rfl := Option.some.inj hF
      exact cg_vretW C hr hlk d_A_draw_63
    · have hF := cn_neg q_1 hF
      refine cg_aload_n C d_A_draw_25 0 rfl ?_
      obtain ⟨t_3, h_2, hF⟩ := cn_bind hF
      refine cg_callRV C (c_A_nearestPad A_a A_a_pairs A_a_pads A_a_reached A_a_nearest a_count a_padCount a_reached a_nearest h_2) [0, 3, 4] rfl (by decide) 0 rfl rfl d_A_draw_26 tw_276 tw_278 ts_23 tw_5 tw_279 hs_A_nearestPad ⟨by decide, by decide⟩ rfl rfl ⟨by decide, by decide⟩ (Nat.le_of_ble_eq_true rfl) rfl rfl ?_
      refine cg_istore (lv' := [(4, .int t_3), (0, .ref A_a), (1, .ref A_p), (2, .ref A_g), (3, .int v3)]) C d_A_draw_29 (by decide) rfl ?_
      refine cg_iload C d_A_draw_31 0 rfl ?_
      refine cg_iconst (v := (-1)) C d_A_draw_33 (by decide) ?_
      refine cg_icmp_ne C 38 d_A_draw_34 (by decide) (fun q_4 => ?_) (fun q_4 => ?_)
      · have hF := cn_neg q_4 hF
        refine cg_aload_n C d_A_draw_38 1 rfl ?_
        refine cg_aload_n C d_A_draw_39 1 rfl ?_
        refine cg_get C 0 5 d_A_draw_40 rfl rfl hin_A (by decide) rfl tw_93 rfl ?_
        refine cg_iload C d_A_draw_43 0 rfl ?_
        obtain ⟨i_5, hF⟩ := cn_rd_some hF
        refine cg_lald C 4 d_A_draw_45 rfl i_5 ?_
        obtain ⟨t_7, h_6, hF⟩ := cn_bind hF
        refine cg_callWV C hA (c_A_insert A_a A_a_pairs A_a_pads A_a_reached A_a_nearest a_count a_padCount a_pairs (a_nearest (Int32.toNatClampNeg t_3)) h_6) [0, 1] [2, 3, 4, 5, 6, 7, 8, 9, 10, 11] [10, 11, 0, 1, 2, 3, 4, 5, 6, 7, 8, 9] [(A_a_pads, .inl (cy 0, 60, .inl a_pads)), (A_a_reached, .inl (cy 2, 60, .inl a_reached)), (A_a_nearest, .inl (cy 1, 60, .inr (.inl a_nearest))), (A_p, .inr (3, [.int p_count, .ref A_p_there, .ref A_p_from, .ref A_p_to, .ref A_p_pin, .ref A_p_left, .ref A_p_low, .ref A_p_right, .ref A_p_high, .ref A_p_rim])), (A_p_left, .inl (cy 1, 60, .inr (.inl p_left))), (A_p_low, .inl (cy 1, 60, .inr (.inl p_low))), (A_p_right, .inl (cy 1, 60, .inr (.inl p_right))), (A_p_high, .inl (cy 1, 60, .inr (.inl p_high))), (A_g, .inr (2, [.ref A_g_leader])), (A_g_leader, .inl (cy 0, 60, .inl g_leader))] (w_A_draw cy A_a A_a_pairs A_a_pads A_a_reached A_a_nearest A_p A_p_there A_p_from A_p_to A_p_pin A_p_left A_p_low A_p_right A_p_high A_p_rim A_g A_g_leader t_7.1 a_padCount t_7.2 a_pads a_reached a_nearest p_count p_left p_low p_right p_high g_leader) rfl rfl rfl ⟨by decide, by decide, by decide, by decide⟩ 0 rfl rfl d_A_draw_46 tw_280 tw_282 ts_24 tw_5 tw_283 hs_A_insert ⟨by decide, by decide⟩ rfl rfl ⟨by decide, by decide⟩ (Nat.le_of_ble_eq_true rfl) rfl rfl ?_
        refine cg_aload_n C d_A_draw_49 1 rfl ?_
        refine cg_iload C d_A_draw_50 0 rfl ?_
        refine cg_aload_n C d_A_draw_52 2 rfl ?_
        refine cg_aload_n C d_A_draw_53 3 rfl ?_
        obtain ⟨t_9, h_8, hF⟩ := cn_bind hF
        refine cg_callWV C hA (c_A_reach A_a A_a_pairs A_a_pads A_a_reached A_a_nearest A_p A_p_there A_p_from A_p_to A_p_pin A_p_left A_p_low A_p_right A_p_high A_p_rim A_g A_g_leader t_7.1 a_padCount a_pads a_reached a_nearest p_count p_left p_low p_right p_high g_leader t_3 h_8) [0, 2, 3, 4, 5, 6, 7, 8, 9, 10, 11] [1] [1, 0, 2, 3, 4, 5, 6, 7, 8, 9, 10, 11] [(A_a_pairs, .inl (cy 1, 60, .inr (.inl t_7.2)))] (w_A_draw cy A_a A_a_pairs A_a_pads A_a_reached A_a_nearest A_p A_p_there A_p_from A_p_to A_p_pin A_p_left A_p_low A_p_right A_p_high A_p_rim A_g A_g_leader t_7.1 a_padCount t_7.2 a_pads t_9.1 t_9.2 p_count p_left p_low p_right p_high g_leader) rfl rfl rfl ⟨by decide, by decide, by decide, by decide⟩ 0 rfl rfl d_A_draw_54 tw_258 tw_260 ts_21 tw_5 tw_261 hs_A_reach ⟨by decide, by decide⟩ rfl rfl ⟨by decide, by decide⟩ (Nat.le_of_ble_eq_true rfl) rfl rfl ?_
        refine cg_iinc (v := v3 + 1) (lv' := [(3, .int (v3 + 1)), (4, .int t_3), (0, .ref A_a), (1, .ref A_p), (2, .ref A_g)]) C d_A_draw_57 4 rfl (by decide) rfl rfl ?_
        refine cg_goto C 17 d_A_draw_60 (by decide) ?_
        refine cg_sub (lv' := [(0, .ref A_a), (1, .ref A_p), (2, .ref A_g), (3, .int (v3 + 1))]) [2, 3, 4, 0] rfl ?_
        exact ih t_7.1 a_padCount t_7.2 a_pads t_9.1 t_9.2 p_left p_low p_right p_high g_leader (v3 + 1) hF
      · have hF := cn_pos q_4 hF
        obtain rfl := Option.some.inj hF
        exact cg_vretW C hr hlk d_A_draw_37
def F_A_draw_0 (a_count : Int32) (a_padCount : Int32) (a_pairs : Nat → Int64) (a_pads : Nat → Int32) (a_reached : Nat → Int32) (a_nearest : Nat → Int64) (p_left : Nat → Int64) (p_low : Nat → Int64) (p_right : Nat → Int64) (p_high : Nat → Int64) (g_leader : Nat → Int32) : Option (Int32 × (Nat → Int64) × (Nat → Int32) × (Nat → Int64)) := if a_padCount = 0 then (some (a_count, a_pairs, a_reached, a_nearest)) else ((F_A_reach a_padCount a_pads a_reached a_nearest p_left p_low p_right p_high g_leader 0).bind fun t_15 => F_A_draw_17 4096 a_count a_padCount a_pairs a_pads t_15.1 t_15.2 p_left p_low p_right p_high g_leader 1)
set_option maxRecDepth 100000 in
set_option maxHeartbeats 4000000 in
theorem t_A_draw_0 {p : Program} {l : Launch} {e : Env} {s : State} {m : MethodId} {args : Array Value} {below : List Frame} {meth : Method} {c : Code} {D : va_G} {cy : Nat → ClassId} {A : Nat → Prop} {out : Int32 × (Nat → Int64) × (Nat → Int32) × (Nat → Int64)} (C : cn_X p s m args c b_A_draw 5 "CopperNets$Airlines" D cy) (hr : meth.sig.returnType = none) (hlk : meth.locks = false) (hA : ∀ q, s.heap.size ≤ q → A q) (A_a : Nat) (A_a_pairs : Nat) (A_a_pads : Nat) (A_a_reached : Nat) (A_a_nearest : Nat) (A_p : Nat) (A_p_there : Nat) (A_p_from : Nat) (A_p_to : Nat) (A_p_pin : Nat) (A_p_left : Nat) (A_p_low : Nat) (A_p_right : Nat) (A_p_high : Nat) (A_p_rim : Nat) (A_g : Nat) (A_g_leader : Nat) (p_count : Int32) (a_count : Int32) (a_padCount : Int32) (a_pairs : Nat → Int64) (a_pads : Nat → Int32) (a_reached : Nat → Int32) (a_nearest : Nat → Int64) (p_left : Nat → Int64) (p_low : Nat → Int64) (p_right : Nat → Int64) (p_high : Nat → Int64) (g_leader : Nat → Int32) (hF : F_A_draw_0 a_count a_padCount a_pairs a_pads a_reached a_nearest p_left p_low p_right p_high g_leader = some out) : cg p l e r_A_draw s m args below meth c D (va_S A s.heap) A 5 0 0 (MQ below (cn_QW none D (w_A_draw cy A_a A_a_pairs A_a_pads A_a_reached A_a_nearest A_p A_p_there A_p_from A_p_to A_p_pin A_p_left A_p_low A_p_right A_p_high A_p_rim A_g A_g_leader out.1 a_padCount out.2.1 a_pads out.2.2.1 out.2.2.2 p_count p_left p_low p_right p_high g_leader) A) args s 0 0 A) (w_A_draw cy A_a A_a_pairs A_a_pads A_a_reached A_a_nearest A_p A_p_there A_p_from A_p_to A_p_pin A_p_left A_p_low A_p_right A_p_high A_p_rim A_g A_g_leader a_count a_padCount a_pairs a_pads a_reached a_nearest p_count p_left p_low p_right p_high g_leader) 0 [(0, .ref A_a), (1, .ref A_p), (2, .ref A_g)] [] := by
  refine cg_aload_n C d_A_draw_0 0 rfl ?_
  refine cg_get C 0 2 d_A_draw_1 rfl rfl hin_A (by decide) rfl tw_90 rfl ?_
  refine cg_if_ne C 8 d_A_draw_4 (by decide) (fun q_13 => ?_) (fun q_13 => ?_)
  · have hF := cn_neg q_13 hF
    refine cg_aload_n C d_A_draw_8 0 rfl ?_
    refine cg_iconst (v := 0) C d_A_draw_9 (by decide) ?_
    refine cg_aload_n C d_A_draw_10 1 rfl ?_
    refine cg_aload_n C d_A_draw_11 2 rfl ?_
    obtain ⟨t_15, h_14, hF⟩ := cn_bind hF
    refine cg_callWV C hA (c_A_reach A_a A_a_pairs A_a_pads A_a_reached A_a_nearest A_p A_p_there A_p_from A_p_to A_p_pin A_p_left A_p_low A_p_right A_p_high A_p_rim A_g A_g_leader a_count a_padCount a_pads a_reached a_nearest p_count p_left p_low p_right p_high g_leader 0 h_14) [0, 2, 3, 4, 5, 6, 7, 8, 9, 10, 11] [1] [1, 0, 2, 3, 4, 5, 6, 7, 8, 9, 10, 11] [(A_a_pairs, .inl (cy 1, 60, .inr (.inl a_pairs)))] (w_A_draw cy A_a A_a_pairs A_a_pads A_a_reached A_a_nearest A_p A_p_there A_p_from A_p_to A_p_pin A_p_left A_p_low A_p_right A_p_high A_p_rim A_g A_g_leader a_count a_padCount a_pairs a_pads t_15.1 t_15.2 p_count p_left p_low p_right p_high g_leader) rfl rfl rfl ⟨by decide, by decide, by decide, by decide⟩ 0 rfl rfl d_A_draw_12 tw_258 tw_260 ts_21 tw_5 tw_261 hs_A_reach ⟨by decide, by decide⟩ rfl rfl ⟨by decide, by decide⟩ (Nat.le_of_ble_eq_true rfl) rfl rfl ?_
    refine cg_iconst (v := 1) C d_A_draw_15 (by decide) ?_
    refine cg_istore_n (lv' := [(3, .int 1), (0, .ref A_a), (1, .ref A_p), (2, .ref A_g)]) C d_A_draw_16 (by decide) rfl ?_
    refine cg_sub (lv' := [(0, .ref A_a), (1, .ref A_p), (2, .ref A_g), (3, .int 1)]) [1, 2, 3, 0] rfl ?_
    exact t_A_draw_17 C hr hlk hA A_a A_a_pairs A_a_pads A_a_reached A_a_nearest A_p A_p_there A_p_from A_p_to A_p_pin A_p_left A_p_low A_p_right A_p_high A_p_rim A_g A_g_leader p_count 4096 a_count a_padCount a_pairs a_pads t_15.1 t_15.2 p_left p_low p_right p_high g_leader 1 hF
  · have hF := cn_pos q_13 hF
    obtain rfl := Option.some.inj hF
    exact cg_vretW C hr hlk d_A_draw_7
abbrev F_A_draw (a_count : Int32) (a_padCount : Int32) (a_pairs : Nat → Int64) (a_pads : Nat → Int32) (a_reached : Nat → Int32) (a_nearest : Nat → Int64) (p_left : Nat → Int64) (p_low : Nat → Int64) (p_right : Nat → Int64) (p_high : Nat → Int64) (g_leader : Nat → Int32) : Option (Int32 × (Nat → Int64) × (Nat → Int32) × (Nat → Int64)) := F_A_draw_0 a_count a_padCount a_pairs a_pads a_reached a_nearest p_left p_low p_right p_high g_leader
theorem c_A_draw {l : Launch} {D : va_G} {cy : Nat → ClassId} (A_a : Nat) (A_a_pairs : Nat) (A_a_pads : Nat) (A_a_reached : Nat) (A_a_nearest : Nat) (A_p : Nat) (A_p_there : Nat) (A_p_from : Nat) (A_p_to : Nat) (A_p_pin : Nat) (A_p_left : Nat) (A_p_low : Nat) (A_p_right : Nat) (A_p_high : Nat) (A_p_rim : Nat) (A_g : Nat) (A_g_leader : Nat) (a_count : Int32) (a_padCount : Int32) (a_pairs : Nat → Int64) (a_pads : Nat → Int32) (a_reached : Nat → Int32) (a_nearest : Nat → Int64) (p_count : Int32) (p_left : Nat → Int64) (p_low : Nat → Int64) (p_right : Nat → Int64) (p_high : Nat → Int64) (g_leader : Nat → Int32) {out : Int32 × (Nat → Int64) × (Nat → Int32) × (Nat → Int64)} (hF : F_A_draw a_count a_padCount a_pairs a_pads a_reached a_nearest p_left p_low p_right p_high g_leader = some out) : cn_MW l y_A_draw b_A_draw 5 (none) r_A_draw D cy [.ref A_a, .ref A_p, .ref A_g] (w_A_draw cy A_a A_a_pairs A_a_pads A_a_reached A_a_nearest A_p A_p_there A_p_from A_p_to A_p_pin A_p_left A_p_low A_p_right A_p_high A_p_rim A_g A_g_leader a_count a_padCount a_pairs a_pads a_reached a_nearest p_count p_left p_low p_right p_high g_leader) none (w_A_draw cy A_a A_a_pairs A_a_pads A_a_reached A_a_nearest A_p A_p_there A_p_from A_p_to A_p_pin A_p_left A_p_low A_p_right A_p_high A_p_rim A_g A_g_leader out.1 a_padCount out.2.1 a_pads out.2.2.1 out.2.2.2 p_count p_left p_low p_right p_high g_leader) 0 0 :=
  cn_MW.of (by decide +kernel) (Nat.le_of_ble_eq_true rfl) (fun p e s m below meth c A C hr hlk hA => t_A_draw_0 C hr hlk hA A_a A_a_pairs A_a_pads A_a_reached A_a_nearest A_p A_p_there A_p_from A_p_to A_p_pin A_p_left A_p_low A_p_right A_p_high A_p_rim A_g A_g_leader p_count a_count a_padCount a_pairs a_pads a_reached a_nearest p_left p_low p_right p_high g_leader hF)
/-! CopperNets$Pieces.isFull()Z -/
abbrev r_P_isFull : Room := { frames := 0, cells := 0, slots := 0, locals := 0 }
abbrev w_P_isFull (cy : Nat → ClassId) (A_p : Nat) (A_p_there : Nat) (A_p_from : Nat) (A_p_to : Nat) (A_p_pin : Nat) (A_p_left : Nat) (A_p_low : Nat) (A_p_right : Nat) (A_p_high : Nat) (A_p_rim : Nat) (p_count : Int32) : va_W := [(A_p, .inr (3, [.int p_count, .ref A_p_there, .ref A_p_from, .ref A_p_to, .ref A_p_pin, .ref A_p_left, .ref A_p_low, .ref A_p_right, .ref A_p_high, .ref A_p_rim]))]
theorem hs_P_isFull : y_P_isFull.cls ≠ "java/lang/invoke/MethodHandle" ∧ y_P_isFull.cls ≠ "java/lang/invoke/VarHandle" ∧ (parseMethodDescriptor y_P_isFull.desc).map (fun d => d.parameters.length) = some 0 := by decide +kernel
def F_P_isFull_14 (p_count : Int32) (s0 : Int32) : Option (Int32) := cn_bl s0 (some (s0))
set_option maxRecDepth 100000 in
set_option maxHeartbeats 4000000 in
theorem t_P_isFull_14 {p : Program} {l : Launch} {e : Env} {s : State} {m : MethodId} {args : Array Value} {below : List Frame} {meth : Method} {c : Code} {D : va_G} {cy : Nat → ClassId} {out : Int32} (C : cn_X p s m args c b_P_isFull 1 "CopperNets$Pieces" D cy) (hr : meth.sig.returnType = some .boolean) (hlk : meth.locks = false) (A_p : Nat) (A_p_there : Nat) (A_p_from : Nat) (A_p_to : Nat) (A_p_pin : Nat) (A_p_left : Nat) (A_p_low : Nat) (A_p_right : Nat) (A_p_high : Nat) (A_p_rim : Nat) (p_count : Int32) (s0 : Int32) (hF : F_P_isFull_14 p_count s0 = some out) : cg p l e r_P_isFull s m args below meth c D (cn_hi s) (fun _ => True) 1 0 0 (MQ below (cn_QR (some (.int out))) args s 0 0 (fun _ => False)) (w_P_isFull cy A_p A_p_there A_p_from A_p_to A_p_pin A_p_left A_p_low A_p_right A_p_high A_p_rim p_count) 14 [] [.int s0] := by
  obtain ⟨hz, hF⟩ := cn_bl_some hF
  obtain rfl := Option.some.inj hF
  exact cg_zretR C hr hz hlk d_P_isFull_14
def F_P_isFull_0 (p_count : Int32) : Option (Int32) := if p_count < 60 then (F_P_isFull_14 p_count 0) else (F_P_isFull_14 p_count 1)
set_option maxRecDepth 100000 in
set_option maxHeartbeats 4000000 in
theorem t_P_isFull_0 {p : Program} {l : Launch} {e : Env} {s : State} {m : MethodId} {args : Array Value} {below : List Frame} {meth : Method} {c : Code} {D : va_G} {cy : Nat → ClassId} {out : Int32} (C : cn_X p s m args c b_P_isFull 1 "CopperNets$Pieces" D cy) (hr : meth.sig.returnType = some .boolean) (hlk : meth.locks = false) (A_p : Nat) (A_p_there : Nat) (A_p_from : Nat) (A_p_to : Nat) (A_p_pin : Nat) (A_p_left : Nat) (A_p_low : Nat) (A_p_right : Nat) (A_p_high : Nat) (A_p_rim : Nat) (p_count : Int32) (hF : F_P_isFull_0 p_count = some out) : cg p l e r_P_isFull s m args below meth c D (cn_hi s) (fun _ => True) 1 0 0 (MQ below (cn_QR (some (.int out))) args s 0 0 (fun _ => False)) (w_P_isFull cy A_p A_p_there A_p_from A_p_to A_p_pin A_p_left A_p_low A_p_right A_p_high A_p_rim p_count) 0 [(0, .ref A_p)] [] := by
  refine cg_aload_n C d_P_isFull_0 0 rfl ?_
  refine cg_get C 0 0 d_P_isFull_1 rfl rfl hin_P (by decide) rfl tw_29 rfl ?_
  refine cg_bipush (v := 60) C d_P_isFull_4 (by decide) ?_
  refine cg_icmp_lt C 13 d_P_isFull_6 (by decide) (fun q_1 => ?_) (fun q_1 => ?_)
  · have hF := cn_pos q_1 hF
    refine cg_iconst (v := 0) C d_P_isFull_13 (by decide) ?_
    refine cg_sub (lv' := []) [] rfl ?_
    exact t_P_isFull_14 C hr hlk A_p A_p_there A_p_from A_p_to A_p_pin A_p_left A_p_low A_p_right A_p_high A_p_rim p_count 0 hF
  · have hF := cn_neg q_1 hF
    refine cg_iconst (v := 1) C d_P_isFull_9 (by decide) ?_
    refine cg_goto C 14 d_P_isFull_10 (by decide) ?_
    refine cg_sub (lv' := []) [] rfl ?_
    exact t_P_isFull_14 C hr hlk A_p A_p_there A_p_from A_p_to A_p_pin A_p_left A_p_low A_p_right A_p_high A_p_rim p_count 1 hF
abbrev F_P_isFull (p_count : Int32) : Option (Int32) := F_P_isFull_0 p_count
theorem c_P_isFull {l : Launch} {D : va_G} {cy : Nat → ClassId} (A_p : Nat) (A_p_there : Nat) (A_p_from : Nat) (A_p_to : Nat) (A_p_pin : Nat) (A_p_left : Nat) (A_p_low : Nat) (A_p_right : Nat) (A_p_high : Nat) (A_p_rim : Nat) (p_count : Int32) {out : Int32} (hF : F_P_isFull p_count = some out) : cn_MR l y_P_isFull b_P_isFull 1 (some .boolean) r_P_isFull D cy [.ref A_p] (w_P_isFull cy A_p A_p_there A_p_from A_p_to A_p_pin A_p_left A_p_low A_p_right A_p_high A_p_rim p_count) (some (.int out)) :=
  cn_MR.of (by decide +kernel) (Nat.le_of_ble_eq_true rfl) (fun p e s m below meth c C hr hlk => t_P_isFull_0 C hr hlk A_p A_p_there A_p_from A_p_to A_p_pin A_p_left A_p_low A_p_right A_p_high A_p_rim p_count hF)
/-! CopperNets$Pieces.add(III)I -/
abbrev r_P_add : Room := { frames := 0, cells := 0, slots := 0, locals := 0 }
abbrev w_P_add (cy : Nat → ClassId) (A_p : Nat) (A_p_there : Nat) (A_p_from : Nat) (A_p_to : Nat) (A_p_pin : Nat) (A_p_left : Nat) (A_p_low : Nat) (A_p_right : Nat) (A_p_high : Nat) (A_p_rim : Nat) (p_count : Int32) (p_there : Nat → Int32) (p_from : Nat → Int32) (p_to : Nat → Int32) (p_pin : Nat → Int32) : va_W := [(A_p, .inr (3, [.int p_count, .ref A_p_there, .ref A_p_from, .ref A_p_to, .ref A_p_pin, .ref A_p_left, .ref A_p_low, .ref A_p_right, .ref A_p_high, .ref A_p_rim])), (A_p_there, .inl (cy 2, 60, .inl p_there)), (A_p_from, .inl (cy 0, 60, .inl p_from)), (A_p_to, .inl (cy 0, 60, .inl p_to)), (A_p_pin, .inl (cy 0, 60, .inl p_pin))]
theorem hs_P_add : y_P_add.cls ≠ "java/lang/invoke/MethodHandle" ∧ y_P_add.cls ≠ "java/lang/invoke/VarHandle" ∧ (parseMethodDescriptor y_P_add.desc).map (fun d => d.parameters.length) = some 3 := by decide +kernel
def F_P_add_0 (p_count : Int32) (p_there : Nat → Int32) (p_from : Nat → Int32) (p_to : Nat → Int32) (p_pin : Nat → Int32) (v1 : Int32) (v2 : Int32) (v3 : Int32) : Option (Int32 × Int32 × (Nat → Int32) × (Nat → Int32) × (Nat → Int32) × (Nat → Int32)) := cn_rd p_count 60 (cn_rd p_count 60 (cn_rd p_count 60 (cn_rd p_count 60 (some (p_count, (p_count + 1), (upd p_there (Int32.toNatClampNeg p_count) (vp_nar .boolean 1)), (upd p_from (Int32.toNatClampNeg p_count) v2), (upd p_to (Int32.toNatClampNeg p_count) v3), (upd p_pin (Int32.toNatClampNeg p_count) v1))))))
set_option maxRecDepth 100000 in
set_option maxHeartbeats 4000000 in
theorem t_P_add_0 {p : Program} {l : Launch} {e : Env} {s : State} {m : MethodId} {args : Array Value} {below : List Frame} {meth : Method} {c : Code} {D : va_G} {cy : Nat → ClassId} {A : Nat → Prop} {out : Int32 × Int32 × (Nat → Int32) × (Nat → Int32) × (Nat → Int32) × (Nat → Int32)} (C : cn_X p s m args c b_P_add 5 "CopperNets$Pieces" D cy) (hr : meth.sig.returnType = some .int) (hlk : meth.locks = false) (hA : ∀ q, s.heap.size ≤ q → A q) (A_p : Nat) (A_p_there : Nat) (A_p_from : Nat) (A_p_to : Nat) (A_p_pin : Nat) (A_p_left : Nat) (A_p_low : Nat) (A_p_right : Nat) (A_p_high : Nat) (A_p_rim : Nat) (p_count : Int32) (p_there : Nat → Int32) (p_from : Nat → Int32) (p_to : Nat → Int32) (p_pin : Nat → Int32) (v1 : Int32) (v2 : Int32) (v3 : Int32) (hF : F_P_add_0 p_count p_there p_from p_to p_pin v1 v2 v3 = some out) : cg p l e r_P_add s m args below meth c D (va_S A s.heap) A 5 0 0 (MQ below (cn_QW (some (.int out.1)) D (w_P_add cy A_p A_p_there A_p_from A_p_to A_p_pin A_p_left A_p_low A_p_right A_p_high A_p_rim out.2.1 out.2.2.1 out.2.2.2.1 out.2.2.2.2.1 out.2.2.2.2.2) A) args s 0 0 A) (w_P_add cy A_p A_p_there A_p_from A_p_to A_p_pin A_p_left A_p_low A_p_right A_p_high A_p_rim p_count p_there p_from p_to p_pin) 0 [(0, .ref A_p), (1, .int v1), (2, .int v2), (3, .int v3)] [] := by
  refine cg_aload_n C d_P_add_0 0 rfl ?_
  refine cg_get C 0 0 d_P_add_1 rfl rfl hin_P (by decide) rfl tw_29 rfl ?_
  refine cg_istore (lv' := [(4, .int p_count), (0, .ref A_p), (1, .int v1), (2, .int v2), (3, .int v3)]) C d_P_add_4 (by decide) rfl ?_
  refine cg_aload_n C d_P_add_6 1 rfl ?_
  refine cg_dup C d_P_add_7 rfl ?_
  refine cg_get C 0 0 d_P_add_8 rfl rfl hin_P (by decide) rfl tw_29 rfl ?_
  refine cg_iconst (v := 1) C d_P_add_11 (by decide) ?_
  refine cg_iadd C d_P_add_12 ?_
  refine cg_put (ws' := w_P_add cy A_p A_p_there A_p_from A_p_to A_p_pin A_p_left A_p_low A_p_right A_p_high A_p_rim (p_count + 1) p_there p_from p_to p_pin) C 0 0 t_P d_P_add_13 rfl rfl hin_P tt_P n_P (by decide) rfl tw_29 rfl rfl (Nat.le_of_ble_eq_true rfl) rfl ?_
  refine cg_aload_n C d_P_add_16 1 rfl ?_
  refine cg_get C 0 1 d_P_add_17 rfl rfl hin_P (by decide) rfl tw_31 rfl ?_
  refine cg_iload C d_P_add_20 0 rfl ?_
  refine cg_iconst (v := 1) C d_P_add_22 (by decide) ?_
  obtain ⟨i_1, hF⟩ := cn_rd_some hF
  refine cg_zast (ws' := w_P_add cy A_p A_p_there A_p_from A_p_to A_p_pin A_p_left A_p_low A_p_right A_p_high A_p_rim (p_count + 1) (upd p_there (Int32.toNatClampNeg p_count) (vp_nar .boolean 1)) p_from p_to p_pin) C 1 d_P_add_23 rfl i_1 rfl ?_
  refine cg_aload_n C d_P_add_24 1 rfl ?_
  refine cg_get C 0 4 d_P_add_25 rfl rfl hin_P (by decide) rfl tw_34 rfl ?_
  refine cg_iload C d_P_add_28 0 rfl ?_
  refine cg_iload_n C d_P_add_30 2 rfl ?_
  obtain ⟨i_2, hF⟩ := cn_rd_some hF
  refine cg_iast (ws' := w_P_add cy A_p A_p_there A_p_from A_p_to A_p_pin A_p_left A_p_low A_p_right A_p_high A_p_rim (p_count + 1) (upd p_there (Int32.toNatClampNeg p_count) (vp_nar .boolean 1)) p_from p_to (upd p_pin (Int32.toNatClampNeg p_count) v1)) C 4 d_P_add_31 rfl i_2 rfl ?_
  refine cg_aload_n C d_P_add_32 1 rfl ?_
  refine cg_get C 0 2 d_P_add_33 rfl rfl hin_P (by decide) rfl tw_32 rfl ?_
  refine cg_iload C d_P_add_36 0 rfl ?_
  refine cg_iload_n C d_P_add_38 3 rfl ?_
  obtain ⟨i_3, hF⟩ := cn_rd_some hF
  refine cg_iast (ws' := w_P_add cy A_p A_p_there A_p_from A_p_to A_p_pin A_p_left A_p_low A_p_right A_p_high A_p_rim (p_count + 1) (upd p_there (Int32.toNatClampNeg p_count) (vp_nar .boolean 1)) (upd p_from (Int32.toNatClampNeg p_count) v2) p_to (upd p_pin (Int32.toNatClampNeg p_count) v1)) C 2 d_P_add_39 rfl i_3 rfl ?_
  refine cg_aload_n C d_P_add_40 1 rfl ?_
  refine cg_get C 0 3 d_P_add_41 rfl rfl hin_P (by decide) rfl tw_33 rfl ?_
  refine cg_iload C d_P_add_44 0 rfl ?_
  refine cg_iload_n C d_P_add_46 4 rfl ?_
  obtain ⟨i_4, hF⟩ := cn_rd_some hF
  refine cg_iast (ws' := w_P_add cy A_p A_p_there A_p_from A_p_to A_p_pin A_p_left A_p_low A_p_right A_p_high A_p_rim (p_count + 1) (upd p_there (Int32.toNatClampNeg p_count) (vp_nar .boolean 1)) (upd p_from (Int32.toNatClampNeg p_count) v2) (upd p_to (Int32.toNatClampNeg p_count) v3) (upd p_pin (Int32.toNatClampNeg p_count) v1)) C 3 d_P_add_47 rfl i_4 rfl ?_
  refine cg_iload C d_P_add_48 0 rfl ?_
  obtain rfl := Option.some.inj hF
  exact cg_iretW C hr hlk d_P_add_50
abbrev F_P_add (p_count : Int32) (p_there : Nat → Int32) (p_from : Nat → Int32) (p_to : Nat → Int32) (p_pin : Nat → Int32) (v1 : Int32) (v2 : Int32) (v3 : Int32) : Option (Int32 × Int32 × (Nat → Int32) × (Nat → Int32) × (Nat → Int32) × (Nat → Int32)) := F_P_add_0 p_count p_there p_from p_to p_pin v1 v2 v3
theorem c_P_add {l : Launch} {D : va_G} {cy : Nat → ClassId} (A_p : Nat) (A_p_there : Nat) (A_p_from : Nat) (A_p_to : Nat) (A_p_pin : Nat) (A_p_left : Nat) (A_p_low : Nat) (A_p_right : Nat) (A_p_high : Nat) (A_p_rim : Nat) (p_count : Int32) (p_there : Nat → Int32) (p_from : Nat → Int32) (p_to : Nat → Int32) (p_pin : Nat → Int32) (v1 : Int32) (v2 : Int32) (v3 : Int32) {out : Int32 × Int32 × (Nat → Int32) × (Nat → Int32) × (Nat → Int32) × (Nat → Int32)} (hF : F_P_add p_count p_there p_from p_to p_pin v1 v2 v3 = some out) : cn_MW l y_P_add b_P_add 5 (some .int) r_P_add D cy [.ref A_p, .int v1, .int v2, .int v3] (w_P_add cy A_p A_p_there A_p_from A_p_to A_p_pin A_p_left A_p_low A_p_right A_p_high A_p_rim p_count p_there p_from p_to p_pin) (some (.int out.1)) (w_P_add cy A_p A_p_there A_p_from A_p_to A_p_pin A_p_left A_p_low A_p_right A_p_high A_p_rim out.2.1 out.2.2.1 out.2.2.2.1 out.2.2.2.2.1 out.2.2.2.2.2) 0 0 :=
  cn_MW.of (by decide +kernel) (Nat.le_of_ble_eq_true rfl) (fun p e s m below meth c A C hr hlk hA => t_P_add_0 C hr hlk hA A_p A_p_there A_p_from A_p_to A_p_pin A_p_left A_p_low A_p_right A_p_high A_p_rim p_count p_there p_from p_to p_pin v1 v2 v3 hF)
/-! CopperNets$Pieces.addRectangle(IJJJJ)I -/
abbrev r_P_addRectangle : Room := { frames := 1, cells := 0, slots := 0, locals := 24 }
abbrev w_P_addRectangle (cy : Nat → ClassId) (A_p : Nat) (A_p_there : Nat) (A_p_from : Nat) (A_p_to : Nat) (A_p_pin : Nat) (A_p_left : Nat) (A_p_low : Nat) (A_p_right : Nat) (A_p_high : Nat) (A_p_rim : Nat) (p_count : Int32) (p_there : Nat → Int32) (p_from : Nat → Int32) (p_to : Nat → Int32) (p_pin : Nat → Int32) (p_left : Nat → Int64) (p_low : Nat → Int64) (p_right : Nat → Int64) (p_high : Nat → Int64) (p_rim : Nat → Int64) : va_W := [(A_p, .inr (3, [.int p_count, .ref A_p_there, .ref A_p_from, .ref A_p_to, .ref A_p_pin, .ref A_p_left, .ref A_p_low, .ref A_p_right, .ref A_p_high, .ref A_p_rim])), (A_p_there, .inl (cy 2, 60, .inl p_there)), (A_p_from, .inl (cy 0, 60, .inl p_from)), (A_p_to, .inl (cy 0, 60, .inl p_to)), (A_p_pin, .inl (cy 0, 60, .inl p_pin)), (A_p_left, .inl (cy 1, 60, .inr (.inl p_left))), (A_p_low, .inl (cy 1, 60, .inr (.inl p_low))), (A_p_right, .inl (cy 1, 60, .inr (.inl p_right))), (A_p_high, .inl (cy 1, 60, .inr (.inl p_high))), (A_p_rim, .inl (cy 1, 60, .inr (.inl p_rim)))]
theorem hs_P_addRectangle : y_P_addRectangle.cls ≠ "java/lang/invoke/MethodHandle" ∧ y_P_addRectangle.cls ≠ "java/lang/invoke/VarHandle" ∧ (parseMethodDescriptor y_P_addRectangle.desc).map (fun d => d.parameters.length) = some 5 := by decide +kernel
def F_P_addRectangle_0 (p_count : Int32) (p_there : Nat → Int32) (p_from : Nat → Int32) (p_to : Nat → Int32) (p_pin : Nat → Int32) (p_left : Nat → Int64) (p_low : Nat → Int64) (p_right : Nat → Int64) (p_high : Nat → Int64) (p_rim : Nat → Int64) (v1 : Int32) (v2 : Int64) (v4 : Int64) (v6 : Int64) (v8 : Int64) : Option (Int32 × Int32 × (Nat → Int32) × (Nat → Int32) × (Nat → Int32) × (Nat → Int32) × (Nat → Int64) × (Nat → Int64) × (Nat → Int64) × (Nat → Int64) × (Nat → Int64)) := (F_P_add p_count p_there p_from p_to p_pin (-1) v1 v1).bind fun t_2 => cn_rd t_2.1 60 (cn_rd t_2.1 60 (cn_rd t_2.1 60 (cn_rd t_2.1 60 (cn_rd t_2.1 60 (some (t_2.1, t_2.2.1, t_2.2.2.1, t_2.2.2.2.1, t_2.2.2.2.2.1, t_2.2.2.2.2.2, (vp_updL p_left (Int32.toNatClampNeg t_2.1) v2), (vp_updL p_low (Int32.toNatClampNeg t_2.1) v4), (vp_updL p_right (Int32.toNatClampNeg t_2.1) (v2 + v6)), (vp_updL p_high (Int32.toNatClampNeg t_2.1) (v4 + v8)), (vp_updL p_rim (Int32.toNatClampNeg t_2.1) 0)))))))
set_option maxRecDepth 100000 in
set_option maxHeartbeats 4000000 in
theorem t_P_addRectangle_0 {p : Program} {l : Launch} {e : Env} {s : State} {m : MethodId} {args : Array Value} {below : List Frame} {meth : Method} {c : Code} {D : va_G} {cy : Nat → ClassId} {A : Nat → Prop} {out : Int32 × Int32 × (Nat → Int32) × (Nat → Int32) × (Nat → Int32) × (Nat → Int32) × (Nat → Int64) × (Nat → Int64) × (Nat → Int64) × (Nat → Int64) × (Nat → Int64)} (C : cn_X p s m args c b_P_addRectangle 11 "CopperNets$Pieces" D cy) (hr : meth.sig.returnType = some .int) (hlk : meth.locks = false) (hA : ∀ q, s.heap.size ≤ q → A q) (A_p : Nat) (A_p_there : Nat) (A_p_from : Nat) (A_p_to : Nat) (A_p_pin : Nat) (A_p_left : Nat) (A_p_low : Nat) (A_p_right : Nat) (A_p_high : Nat) (A_p_rim : Nat) (p_count : Int32) (p_there : Nat → Int32) (p_from : Nat → Int32) (p_to : Nat → Int32) (p_pin : Nat → Int32) (p_left : Nat → Int64) (p_low : Nat → Int64) (p_right : Nat → Int64) (p_high : Nat → Int64) (p_rim : Nat → Int64) (v1 : Int32) (v2 : Int64) (v4 : Int64) (v6 : Int64) (v8 : Int64) (hF : F_P_addRectangle_0 p_count p_there p_from p_to p_pin p_left p_low p_right p_high p_rim v1 v2 v4 v6 v8 = some out) : cg p l e r_P_addRectangle s m args below meth c D (va_S A s.heap) A 11 0 0 (MQ below (cn_QW (some (.int out.1)) D (w_P_addRectangle cy A_p A_p_there A_p_from A_p_to A_p_pin A_p_left A_p_low A_p_right A_p_high A_p_rim out.2.1 out.2.2.1 out.2.2.2.1 out.2.2.2.2.1 out.2.2.2.2.2.1 out.2.2.2.2.2.2.1 out.2.2.2.2.2.2.2.1 out.2.2.2.2.2.2.2.2.1 out.2.2.2.2.2.2.2.2.2.1 out.2.2.2.2.2.2.2.2.2.2) A) args s 0 0 A) (w_P_addRectangle cy A_p A_p_there A_p_from A_p_to A_p_pin A_p_left A_p_low A_p_right A_p_high A_p_rim p_count p_there p_from p_to p_pin p_left p_low p_right p_high p_rim) 0 [(0, .ref A_p), (1, .int v1), (2, .long v2), (4, .long v4), (6, .long v6), (8, .long v8)] [] := by
  refine cg_aload_n C d_P_addRectangle_0 0 rfl ?_
  refine cg_iconst (v := (-1)) C d_P_addRectangle_1 (by decide) ?_
  refine cg_iload_n C d_P_addRectangle_2 1 rfl ?_
  refine cg_iload_n C d_P_addRectangle_3 1 rfl ?_
  obtain ⟨t_2, h_1, hF⟩ := cn_bind hF
  refine cg_callWV C hA (c_P_add A_p A_p_there A_p_from A_p_to A_p_pin A_p_left A_p_low A_p_right A_p_high A_p_rim p_count p_there p_from p_to p_pin (-1) v1 v1 h_1) [0, 1, 2, 3, 4] [5, 6, 7, 8, 9] [5, 6, 7, 8, 9, 0, 1, 2, 3, 4] [(A_p_left, .inl (cy 1, 60, .inr (.inl p_left))), (A_p_low, .inl (cy 1, 60, .inr (.inl p_low))), (A_p_right, .inl (cy 1, 60, .inr (.inl p_right))), (A_p_high, .inl (cy 1, 60, .inr (.inl p_high))), (A_p_rim, .inl (cy 1, 60, .inr (.inl p_rim)))] (w_P_addRectangle cy A_p A_p_there A_p_from A_p_to A_p_pin A_p_left A_p_low A_p_right A_p_high A_p_rim t_2.2.1 t_2.2.2.1 t_2.2.2.2.1 t_2.2.2.2.2.1 t_2.2.2.2.2.2 p_left p_low p_right p_high p_rim) rfl rfl rfl ⟨by decide, by decide, by decide, by decide⟩ 0 rfl rfl d_P_addRectangle_4 tw_400 tw_402 ts_29 tw_2 tw_403 hs_P_add ⟨by decide, by decide⟩ rfl rfl ⟨by decide, by decide⟩ (Nat.le_of_ble_eq_true rfl) rfl rfl ?_
  refine cg_istore (lv' := [(10, .int t_2.1), (0, .ref A_p), (1, .int v1), (2, .long v2), (4, .long v4), (6, .long v6), (8, .long v8)]) C d_P_addRectangle_7 (by decide) rfl ?_
  refine cg_aload_n C d_P_addRectangle_9 1 rfl ?_
  refine cg_get C 0 5 d_P_addRectangle_10 rfl rfl hin_P (by decide) rfl tw_35 rfl ?_
  refine cg_iload C d_P_addRectangle_13 0 rfl ?_
  refine cg_lload_n C d_P_addRectangle_15 3 rfl ?_
  obtain ⟨i_3, hF⟩ := cn_rd_some hF
  refine cg_last (ws' := w_P_addRectangle cy A_p A_p_there A_p_from A_p_to A_p_pin A_p_left A_p_low A_p_right A_p_high A_p_rim t_2.2.1 t_2.2.2.1 t_2.2.2.2.1 t_2.2.2.2.2.1 t_2.2.2.2.2.2 (vp_updL p_left (Int32.toNatClampNeg t_2.1) v2) p_low p_right p_high p_rim) C 5 d_P_addRectangle_16 rfl i_3 rfl ?_
  refine cg_aload_n C d_P_addRectangle_17 1 rfl ?_
  refine cg_get C 0 6 d_P_addRectangle_18 rfl rfl hin_P (by decide) rfl tw_36 rfl ?_
  refine cg_iload C d_P_addRectangle_21 0 rfl ?_
  refine cg_lload C d_P_addRectangle_23 4 rfl ?_
  obtain ⟨i_4, hF⟩ := cn_rd_some hF
  refine cg_last (ws' := w_P_addRectangle cy A_p A_p_there A_p_from A_p_to A_p_pin A_p_left A_p_low A_p_right A_p_high A_p_rim t_2.2.1 t_2.2.2.1 t_2.2.2.2.1 t_2.2.2.2.2.1 t_2.2.2.2.2.2 (vp_updL p_left (Int32.toNatClampNeg t_2.1) v2) (vp_updL p_low (Int32.toNatClampNeg t_2.1) v4) p_right p_high p_rim) C 6 d_P_addRectangle_25 rfl i_4 rfl ?_
  refine cg_aload_n C d_P_addRectangle_26 1 rfl ?_
  refine cg_get C 0 7 d_P_addRectangle_27 rfl rfl hin_P (by decide) rfl tw_37 rfl ?_
  refine cg_iload C d_P_addRectangle_30 0 rfl ?_
  refine cg_lload_n C d_P_addRectangle_32 3 rfl ?_
  refine cg_lload C d_P_addRectangle_33 5 rfl ?_
  refine cg_ladd C d_P_addRectangle_35 ?_
  obtain ⟨i_5, hF⟩ := cn_rd_some hF
  refine cg_last (ws' := w_P_addRectangle cy A_p A_p_there A_p_from A_p_to A_p_pin A_p_left A_p_low A_p_right A_p_high A_p_rim t_2.2.1 t_2.2.2.1 t_2.2.2.2.1 t_2.2.2.2.2.1 t_2.2.2.2.2.2 (vp_updL p_left (Int32.toNatClampNeg t_2.1) v2) (vp_updL p_low (Int32.toNatClampNeg t_2.1) v4) (vp_updL p_right (Int32.toNatClampNeg t_2.1) (v2 + v6)) p_high p_rim) C 7 d_P_addRectangle_36 rfl i_5 rfl ?_
  refine cg_aload_n C d_P_addRectangle_37 1 rfl ?_
  refine cg_get C 0 8 d_P_addRectangle_38 rfl rfl hin_P (by decide) rfl tw_38 rfl ?_
  refine cg_iload C d_P_addRectangle_41 0 rfl ?_
  refine cg_lload C d_P_addRectangle_43 4 rfl ?_
  refine cg_lload C d_P_addRectangle_45 6 rfl ?_
  refine cg_ladd C d_P_addRectangle_47 ?_
  obtain ⟨i_6, hF⟩ := cn_rd_some hF
  refine cg_last (ws' := w_P_addRectangle cy A_p A_p_there A_p_from A_p_to A_p_pin A_p_left A_p_low A_p_right A_p_high A_p_rim t_2.2.1 t_2.2.2.1 t_2.2.2.2.1 t_2.2.2.2.2.1 t_2.2.2.2.2.2 (vp_updL p_left (Int32.toNatClampNeg t_2.1) v2) (vp_updL p_low (Int32.toNatClampNeg t_2.1) v4) (vp_updL p_right (Int32.toNatClampNeg t_2.1) (v2 + v6)) (vp_updL p_high (Int32.toNatClampNeg t_2.1) (v4 + v8)) p_rim) C 8 d_P_addRectangle_48 rfl i_6 rfl ?_
  refine cg_aload_n C d_P_addRectangle_49 1 rfl ?_
  refine cg_get C 0 9 d_P_addRectangle_50 rfl rfl hin_P (by decide) rfl tw_39 rfl ?_
  refine cg_iload C d_P_addRectangle_53 0 rfl ?_
  refine cg_lconst (v := 0) C d_P_addRectangle_55 (by decide) ?_
  obtain ⟨i_7, hF⟩ := cn_rd_some hF
  refine cg_last (ws' := w_P_addRectangle cy A_p A_p_there A_p_from A_p_to A_p_pin A_p_left A_p_low A_p_right A_p_high A_p_rim t_2.2.1 t_2.2.2.1 t_2.2.2.2.1 t_2.2.2.2.2.1 t_2.2.2.2.2.2 (vp_updL p_left (Int32.toNatClampNeg t_2.1) v2) (vp_updL p_low (Int32.toNatClampNeg t_2.1) v4) (vp_updL p_right (Int32.toNatClampNeg t_2.1) (v2 + v6)) (vp_updL p_high (Int32.toNatClampNeg t_2.1) (v4 + v8)) (vp_updL p_rim (Int32.toNatClampNeg t_2.1) 0)) C 9 d_P_addRectangle_56 rfl i_7 rfl ?_
  refine cg_iload C d_P_addRectangle_57 0 rfl ?_
  obtain rfl := Option.some.inj hF
  exact cg_iretW C hr hlk d_P_addRectangle_59
abbrev F_P_addRectangle (p_count : Int32) (p_there : Nat → Int32) (p_from : Nat → Int32) (p_to : Nat → Int32) (p_pin : Nat → Int32) (p_left : Nat → Int64) (p_low : Nat → Int64) (p_right : Nat → Int64) (p_high : Nat → Int64) (p_rim : Nat → Int64) (v1 : Int32) (v2 : Int64) (v4 : Int64) (v6 : Int64) (v8 : Int64) : Option (Int32 × Int32 × (Nat → Int32) × (Nat → Int32) × (Nat → Int32) × (Nat → Int32) × (Nat → Int64) × (Nat → Int64) × (Nat → Int64) × (Nat → Int64) × (Nat → Int64)) := F_P_addRectangle_0 p_count p_there p_from p_to p_pin p_left p_low p_right p_high p_rim v1 v2 v4 v6 v8
theorem c_P_addRectangle {l : Launch} {D : va_G} {cy : Nat → ClassId} (A_p : Nat) (A_p_there : Nat) (A_p_from : Nat) (A_p_to : Nat) (A_p_pin : Nat) (A_p_left : Nat) (A_p_low : Nat) (A_p_right : Nat) (A_p_high : Nat) (A_p_rim : Nat) (p_count : Int32) (p_there : Nat → Int32) (p_from : Nat → Int32) (p_to : Nat → Int32) (p_pin : Nat → Int32) (p_left : Nat → Int64) (p_low : Nat → Int64) (p_right : Nat → Int64) (p_high : Nat → Int64) (p_rim : Nat → Int64) (v1 : Int32) (v2 : Int64) (v4 : Int64) (v6 : Int64) (v8 : Int64) {out : Int32 × Int32 × (Nat → Int32) × (Nat → Int32) × (Nat → Int32) × (Nat → Int32) × (Nat → Int64) × (Nat → Int64) × (Nat → Int64) × (Nat → Int64) × (Nat → Int64)} (hF : F_P_addRectangle p_count p_there p_from p_to p_pin p_left p_low p_right p_high p_rim v1 v2 v4 v6 v8 = some out) : cn_MW l y_P_addRectangle b_P_addRectangle 11 (some .int) r_P_addRectangle D cy [.ref A_p, .int v1, .long v2, .long v4, .long v6, .long v8] (w_P_addRectangle cy A_p A_p_there A_p_from A_p_to A_p_pin A_p_left A_p_low A_p_right A_p_high A_p_rim p_count p_there p_from p_to p_pin p_left p_low p_right p_high p_rim) (some (.int out.1)) (w_P_addRectangle cy A_p A_p_there A_p_from A_p_to A_p_pin A_p_left A_p_low A_p_right A_p_high A_p_rim out.2.1 out.2.2.1 out.2.2.2.1 out.2.2.2.2.1 out.2.2.2.2.2.1 out.2.2.2.2.2.2.1 out.2.2.2.2.2.2.2.1 out.2.2.2.2.2.2.2.2.1 out.2.2.2.2.2.2.2.2.2.1 out.2.2.2.2.2.2.2.2.2.2) 0 0 :=
  cn_MW.of (by decide +kernel) (Nat.le_of_ble_eq_true rfl) (fun p e s m below meth c A C hr hlk hA => t_P_addRectangle_0 C hr hlk hA A_p A_p_there A_p_from A_p_to A_p_pin A_p_left A_p_low A_p_right A_p_high A_p_rim p_count p_there p_from p_to p_pin p_left p_low p_right p_high p_rim v1 v2 v4 v6 v8 hF)
/-! CopperNets$Pieces.addDisc(IIIJJJ)I -/
abbrev r_P_addDisc : Room := { frames := 1, cells := 0, slots := 0, locals := 24 }
abbrev w_P_addDisc (cy : Nat → ClassId) (A_p : Nat) (A_p_there : Nat) (A_p_from : Nat) (A_p_to : Nat) (A_p_pin : Nat) (A_p_left : Nat) (A_p_low : Nat) (A_p_right : Nat) (A_p_high : Nat) (A_p_rim : Nat) (p_count : Int32) (p_there : Nat → Int32) (p_from : Nat → Int32) (p_to : Nat → Int32) (p_pin : Nat → Int32) (p_left : Nat → Int64) (p_low : Nat → Int64) (p_right : Nat → Int64) (p_high : Nat → Int64) (p_rim : Nat → Int64) : va_W := [(A_p, .inr (3, [.int p_count, .ref A_p_there, .ref A_p_from, .ref A_p_to, .ref A_p_pin, .ref A_p_left, .ref A_p_low, .ref A_p_right, .ref A_p_high, .ref A_p_rim])), (A_p_there, .inl (cy 2, 60, .inl p_there)), (A_p_from, .inl (cy 0, 60, .inl p_from)), (A_p_to, .inl (cy 0, 60, .inl p_to)), (A_p_pin, .inl (cy 0, 60, .inl p_pin)), (A_p_left, .inl (cy 1, 60, .inr (.inl p_left))), (A_p_low, .inl (cy 1, 60, .inr (.inl p_low))), (A_p_right, .inl (cy 1, 60, .inr (.inl p_right))), (A_p_high, .inl (cy 1, 60, .inr (.inl p_high))), (A_p_rim, .inl (cy 1, 60, .inr (.inl p_rim)))]
theorem hs_P_addDisc : y_P_addDisc.cls ≠ "java/lang/invoke/MethodHandle" ∧ y_P_addDisc.cls ≠ "java/lang/invoke/VarHandle" ∧ (parseMethodDescriptor y_P_addDisc.desc).map (fun d => d.parameters.length) = some 6 := by decide +kernel
def F_P_addDisc_0 (p_count : Int32) (p_there : Nat → Int32) (p_from : Nat → Int32) (p_to : Nat → Int32) (p_pin : Nat → Int32) (p_left : Nat → Int64) (p_low : Nat → Int64) (p_right : Nat → Int64) (p_high : Nat → Int64) (p_rim : Nat → Int64) (v1 : Int32) (v2 : Int32) (v3 : Int32) (v4 : Int64) (v6 : Int64) (v8 : Int64) : Option (Int32 × Int32 × (Nat → Int32) × (Nat → Int32) × (Nat → Int32) × (Nat → Int32) × (Nat → Int64) × (Nat → Int64) × (Nat → Int64) × (Nat → Int64) × (Nat → Int64)) := (F_P_add p_count p_there p_from p_to p_pin v1 v2 v3).bind fun t_2 => cn_rd t_2.1 60 (cn_rd t_2.1 60 (cn_rd t_2.1 60 (cn_rd t_2.1 60 (cn_rd t_2.1 60 (some (t_2.1, t_2.2.1, t_2.2.2.1, t_2.2.2.2.1, t_2.2.2.2.2.1, t_2.2.2.2.2.2, (vp_updL p_left (Int32.toNatClampNeg t_2.1) v4), (vp_updL p_low (Int32.toNatClampNeg t_2.1) v6), (vp_updL p_right (Int32.toNatClampNeg t_2.1) v4), (vp_updL p_high (Int32.toNatClampNeg t_2.1) v6), (vp_updL p_rim (Int32.toNatClampNeg t_2.1) v8)))))))
set_option maxRecDepth 100000 in
set_option maxHeartbeats 4000000 in
theorem t_P_addDisc_0 {p : Program} {l : Launch} {e : Env} {s : State} {m : MethodId} {args : Array Value} {below : List Frame} {meth : Method} {c : Code} {D : va_G} {cy : Nat → ClassId} {A : Nat → Prop} {out : Int32 × Int32 × (Nat → Int32) × (Nat → Int32) × (Nat → Int32) × (Nat → Int32) × (Nat → Int64) × (Nat → Int64) × (Nat → Int64) × (Nat → Int64) × (Nat → Int64)} (C : cn_X p s m args c b_P_addDisc 11 "CopperNets$Pieces" D cy) (hr : meth.sig.returnType = some .int) (hlk : meth.locks = false) (hA : ∀ q, s.heap.size ≤ q → A q) (A_p : Nat) (A_p_there : Nat) (A_p_from : Nat) (A_p_to : Nat) (A_p_pin : Nat) (A_p_left : Nat) (A_p_low : Nat) (A_p_right : Nat) (A_p_high : Nat) (A_p_rim : Nat) (p_count : Int32) (p_there : Nat → Int32) (p_from : Nat → Int32) (p_to : Nat → Int32) (p_pin : Nat → Int32) (p_left : Nat → Int64) (p_low : Nat → Int64) (p_right : Nat → Int64) (p_high : Nat → Int64) (p_rim : Nat → Int64) (v1 : Int32) (v2 : Int32) (v3 : Int32) (v4 : Int64) (v6 : Int64) (v8 : Int64) (hF : F_P_addDisc_0 p_count p_there p_from p_to p_pin p_left p_low p_right p_high p_rim v1 v2 v3 v4 v6 v8 = some out) : cg p l e r_P_addDisc s m args below meth c D (va_S A s.heap) A 11 0 0 (MQ below (cn_QW (some (.int out.1)) D (w_P_addDisc cy A_p A_p_there A_p_from A_p_to A_p_pin A_p_left A_p_low A_p_right A_p_high A_p_rim out.2.1 out.2.2.1 out.2.2.2.1 out.2.2.2.2.1 out.2.2.2.2.2.1 out.2.2.2.2.2.2.1 out.2.2.2.2.2.2.2.1 out.2.2.2.2.2.2.2.2.1 out.2.2.2.2.2.2.2.2.2.1 out.2.2.2.2.2.2.2.2.2.2) A) args s 0 0 A) (w_P_addDisc cy A_p A_p_there A_p_from A_p_to A_p_pin A_p_left A_p_low A_p_right A_p_high A_p_rim p_count p_there p_from p_to p_pin p_left p_low p_right p_high p_rim) 0 [(0, .ref A_p), (1, .int v1), (2, .int v2), (3, .int v3), (4, .long v4), (6, .long v6), (8, .long v8)] [] := by
  refine cg_aload_n C d_P_addDisc_0 0 rfl ?_
  refine cg_iload_n C d_P_addDisc_1 1 rfl ?_
  refine cg_iload_n C d_P_addDisc_2 2 rfl ?_
  refine cg_iload_n C d_P_addDisc_3 3 rfl ?_
  obtain ⟨t_2, h_1, hF⟩ := cn_bind hF
  refine cg_callWV C hA (c_P_add A_p A_p_there A_p_from A_p_to A_p_pin A_p_left A_p_low A_p_right A_p_high A_p_rim p_count p_there p_from p_to p_pin v1 v2 v3 h_1) [0, 1, 2, 3, 4] [5, 6, 7, 8, 9] [5, 6, 7, 8, 9, 0, 1, 2, 3, 4] [(A_p_left, .inl (cy 1, 60, .inr (.inl p_left))), (A_p_low, .inl (cy 1, 60, .inr (.inl p_low))), (A_p_right, .inl (cy 1, 60, .inr (.inl p_right))), (A_p_high, .inl (cy 1, 60, .inr (.inl p_high))), (A_p_rim, .inl (cy 1, 60, .inr (.inl p_rim)))] (w_P_addDisc cy A_p A_p_there A_p_from A_p_to A_p_pin A_p_left A_p_low A_p_right A_p_high A_p_rim t_2.2.1 t_2.2.2.1 t_2.2.2.2.1 t_2.2.2.2.2.1 t_2.2.2.2.2.2 p_left p_low p_right p_high p_rim) rfl rfl rfl ⟨by decide, by decide, by decide, by decide⟩ 0 rfl rfl d_P_addDisc_4 tw_400 tw_402 ts_29 tw_2 tw_403 hs_P_add ⟨by decide, by decide⟩ rfl rfl ⟨by decide, by decide⟩ (Nat.le_of_ble_eq_true rfl) rfl rfl ?_
  refine cg_istore (lv' := [(10, .int t_2.1), (0, .ref A_p), (1, .int v1), (2, .int v2), (3, .int v3), (4, .long v4), (6, .long v6), (8, .long v8)]) C d_P_addDisc_7 (by decide) rfl ?_
  refine cg_aload_n C d_P_addDisc_9 1 rfl ?_
  refine cg_get C 0 5 d_P_addDisc_10 rfl rfl hin_P (by decide) rfl tw_35 rfl ?_
  refine cg_iload C d_P_addDisc_13 0 rfl ?_
  refine cg_lload C d_P_addDisc_15 5 rfl ?_
  obtain ⟨i_3, hF⟩ := cn_rd_some hF
  refine cg_last (ws' := w_P_addDisc cy A_p A_p_there A_p_from A_p_to A_p_pin A_p_left A_p_low A_p_right A_p_high A_p_rim t_2.2.1 t_2.2.2.1 t_2.2.2.2.1 t_2.2.2.2.2.1 t_2.2.2.2.2.2 (vp_updL p_left (Int32.toNatClampNeg t_2.1) v4) p_low p_right p_high p_rim) C 5 d_P_addDisc_17 rfl i_3 rfl ?_
  refine cg_aload_n C d_P_addDisc_18 1 rfl ?_
  refine cg_get C 0 6 d_P_addDisc_19 rfl rfl hin_P (by decide) rfl tw_36 rfl ?_
  refine cg_iload C d_P_addDisc_22 0 rfl ?_
  refine cg_lload C d_P_addDisc_24 6 rfl ?_
  obtain ⟨i_4, hF⟩ := cn_rd_some hF
  refine cg_last (ws' := w_P_addDisc cy A_p A_p_there A_p_from A_p_to A_p_pin A_p_left A_p_low A_p_right A_p_high A_p_rim t_2.2.1 t_2.2.2.1 t_2.2.2.2.1 t_2.2.2.2.2.1 t_2.2.2.2.2.2 (vp_updL p_left (Int32.toNatClampNeg t_2.1) v4) (vp_updL p_low (Int32.toNatClampNeg t_2.1) v6) p_right p_high p_rim) C 6 d_P_addDisc_26 rfl i_4 rfl ?_
  refine cg_aload_n C d_P_addDisc_27 1 rfl ?_
  refine cg_get C 0 7 d_P_addDisc_28 rfl rfl hin_P (by decide) rfl tw_37 rfl ?_
  refine cg_iload C d_P_addDisc_31 0 rfl ?_
  refine cg_lload C d_P_addDisc_33 5 rfl ?_
  obtain ⟨i_5, hF⟩ := cn_rd_some hF
  refine cg_last (ws' := w_P_addDisc cy A_p A_p_there A_p_from A_p_to A_p_pin A_p_left A_p_low A_p_right A_p_high A_p_rim t_2.2.1 t_2.2.2.1 t_2.2.2.2.1 t_2.2.2.2.2.1 t_2.2.2.2.2.2 (vp_updL p_left (Int32.toNatClampNeg t_2.1) v4) (vp_updL p_low (Int32.toNatClampNeg t_2.1) v6) (vp_updL p_right (Int32.toNatClampNeg t_2.1) v4) p_high p_rim) C 7 d_P_addDisc_35 rfl i_5 rfl ?_
  refine cg_aload_n C d_P_addDisc_36 1 rfl ?_
  refine cg_get C 0 8 d_P_addDisc_37 rfl rfl hin_P (by decide) rfl tw_38 rfl ?_
  refine cg_iload C d_P_addDisc_40 0 rfl ?_
  refine cg_lload C d_P_addDisc_42 6 rfl ?_
  obtain ⟨i_6, hF⟩ := cn_rd_some hF
  refine cg_last (ws' := w_P_addDisc cy A_p A_p_there A_p_from A_p_to A_p_pin A_p_left A_p_low A_p_right A_p_high A_p_rim t_2.2.1 t_2.2.2.1 t_2.2.2.2.1 t_2.2.2.2.2.1 t_2.2.2.2.2.2 (vp_updL p_left (Int32.toNatClampNeg t_2.1) v4) (vp_updL p_low (Int32.toNatClampNeg t_2.1) v6) (vp_updL p_right (Int32.toNatClampNeg t_2.1) v4) (vp_updL p_high (Int32.toNatClampNeg t_2.1) v6) p_rim) C 8 d_P_addDisc_44 rfl i_6 rfl ?_
  refine cg_aload_n C d_P_addDisc_45 1 rfl ?_
  refine cg_get C 0 9 d_P_addDisc_46 rfl rfl hin_P (by decide) rfl tw_39 rfl ?_
  refine cg_iload C d_P_addDisc_49 0 rfl ?_
  refine cg_lload C d_P_addDisc_51 7 rfl ?_
  obtain ⟨i_7, hF⟩ := cn_rd_some hF
  refine cg_last (ws' := w_P_addDisc cy A_p A_p_there A_p_from A_p_to A_p_pin A_p_left A_p_low A_p_right A_p_high A_p_rim t_2.2.1 t_2.2.2.1 t_2.2.2.2.1 t_2.2.2.2.2.1 t_2.2.2.2.2.2 (vp_updL p_left (Int32.toNatClampNeg t_2.1) v4) (vp_updL p_low (Int32.toNatClampNeg t_2.1) v6) (vp_updL p_right (Int32.toNatClampNeg t_2.1) v4) (vp_updL p_high (Int32.toNatClampNeg t_2.1) v6) (vp_updL p_rim (Int32.toNatClampNeg t_2.1) v8)) C 9 d_P_addDisc_53 rfl i_7 rfl ?_
  refine cg_iload C d_P_addDisc_54 0 rfl ?_
  obtain rfl := Option.some.inj hF
  exact cg_iretW C hr hlk d_P_addDisc_56
abbrev F_P_addDisc (p_count : Int32) (p_there : Nat → Int32) (p_from : Nat → Int32) (p_to : Nat → Int32) (p_pin : Nat → Int32) (p_left : Nat → Int64) (p_low : Nat → Int64) (p_right : Nat → Int64) (p_high : Nat → Int64) (p_rim : Nat → Int64) (v1 : Int32) (v2 : Int32) (v3 : Int32) (v4 : Int64) (v6 : Int64) (v8 : Int64) : Option (Int32 × Int32 × (Nat → Int32) × (Nat → Int32) × (Nat → Int32) × (Nat → Int32) × (Nat → Int64) × (Nat → Int64) × (Nat → Int64) × (Nat → Int64) × (Nat → Int64)) := F_P_addDisc_0 p_count p_there p_from p_to p_pin p_left p_low p_right p_high p_rim v1 v2 v3 v4 v6 v8
theorem c_P_addDisc {l : Launch} {D : va_G} {cy : Nat → ClassId} (A_p : Nat) (A_p_there : Nat) (A_p_from : Nat) (A_p_to : Nat) (A_p_pin : Nat) (A_p_left : Nat) (A_p_low : Nat) (A_p_right : Nat) (A_p_high : Nat) (A_p_rim : Nat) (p_count : Int32) (p_there : Nat → Int32) (p_from : Nat → Int32) (p_to : Nat → Int32) (p_pin : Nat → Int32) (p_left : Nat → Int64) (p_low : Nat → Int64) (p_right : Nat → Int64) (p_high : Nat → Int64) (p_rim : Nat → Int64) (v1 : Int32) (v2 : Int32) (v3 : Int32) (v4 : Int64) (v6 : Int64) (v8 : Int64) {out : Int32 × Int32 × (Nat → Int32) × (Nat → Int32) × (Nat → Int32) × (Nat → Int32) × (Nat → Int64) × (Nat → Int64) × (Nat → Int64) × (Nat → Int64) × (Nat → Int64)} (hF : F_P_addDisc p_count p_there p_from p_to p_pin p_left p_low p_right p_high p_rim v1 v2 v3 v4 v6 v8 = some out) : cn_MW l y_P_addDisc b_P_addDisc 11 (some .int) r_P_addDisc D cy [.ref A_p, .int v1, .int v2, .int v3, .long v4, .long v6, .long v8] (w_P_addDisc cy A_p A_p_there A_p_from A_p_to A_p_pin A_p_left A_p_low A_p_right A_p_high A_p_rim p_count p_there p_from p_to p_pin p_left p_low p_right p_high p_rim) (some (.int out.1)) (w_P_addDisc cy A_p A_p_there A_p_from A_p_to A_p_pin A_p_left A_p_low A_p_right A_p_high A_p_rim out.2.1 out.2.2.1 out.2.2.2.1 out.2.2.2.2.1 out.2.2.2.2.2.1 out.2.2.2.2.2.2.1 out.2.2.2.2.2.2.2.1 out.2.2.2.2.2.2.2.2.1 out.2.2.2.2.2.2.2.2.2.1 out.2.2.2.2.2.2.2.2.2.2) 0 0 :=
  cn_MW.of (by decide +kernel) (Nat.le_of_ble_eq_true rfl) (fun p e s m below meth c A C hr hlk hA => t_P_addDisc_0 C hr hlk hA A_p A_p_there A_p_from A_p_to A_p_pin A_p_left A_p_low A_p_right A_p_high A_p_rim p_count p_there p_from p_to p_pin p_left p_low p_right p_high p_rim v1 v2 v3 v4 v6 v8 hF)
/-! CopperNets$Airlines.has(I)Z -/
abbrev r_A_has : Room := { frames := 0, cells := 0, slots := 0, locals := 0 }
abbrev w_A_has (cy : Nat → ClassId) (A_a : Nat) (A_a_pairs : Nat) (A_a_pads : Nat) (A_a_reached : Nat) (A_a_nearest : Nat) (a_count : Int32) (a_padCount : Int32) : va_W := [(A_a, .inr (1, [.int a_count, .ref A_a_pairs, .int a_padCount, .ref A_a_pads, .ref A_a_reached, .ref A_a_nearest]))]
theorem hs_A_has : y_A_has.cls ≠ "java/lang/invoke/MethodHandle" ∧ y_A_has.cls ≠ "java/lang/invoke/VarHandle" ∧ (parseMethodDescriptor y_A_has.desc).map (fun d => d.parameters.length) = some 1 := by decide +kernel
def F_A_has_17 (a_count : Int32) (s0 : Int32) : Option (Int32) := cn_bl s0 (some (s0))
set_option maxRecDepth 100000 in
set_option maxHeartbeats 4000000 in
theorem t_A_has_17 {p : Program} {l : Launch} {e : Env} {s : State} {m : MethodId} {args : Array Value} {below : List Frame} {meth : Method} {c : Code} {D : va_G} {cy : Nat → ClassId} {out : Int32} (C : cn_X p s m args c b_A_has 2 "CopperNets$Airlines" D cy) (hr : meth.sig.returnType = some .boolean) (hlk : meth.locks = false) (A_a : Nat) (A_a_pairs : Nat) (A_a_pads : Nat) (A_a_reached : Nat) (A_a_nearest : Nat) (a_padCount : Int32) (a_count : Int32) (s0 : Int32) (hF : F_A_has_17 a_count s0 = some out) : cg p l e r_A_has s m args below meth c D (cn_hi s) (fun _ => True) 2 0 0 (MQ below (cn_QR (some (.int out))) args s 0 0 (fun _ => False)) (w_A_has cy A_a A_a_pairs A_a_pads A_a_reached A_a_nearest a_count a_padCount) 17 [] [.int s0] := by
  obtain ⟨hz, hF⟩ := cn_bl_some hF
  obtain rfl := Option.some.inj hF
  exact cg_zretR C hr hz hlk d_A_has_17
def F_A_has_16 (a_count : Int32) : Option (Int32) := F_A_has_17 a_count 0
set_option maxRecDepth 100000 in
set_option maxHeartbeats 4000000 in
theorem t_A_has_16 {p : Program} {l : Launch} {e : Env} {s : State} {m : MethodId} {args : Array Value} {below : List Frame} {meth : Method} {c : Code} {D : va_G} {cy : Nat → ClassId} {out : Int32} (C : cn_X p s m args c b_A_has 2 "CopperNets$Airlines" D cy) (hr : meth.sig.returnType = some .boolean) (hlk : meth.locks = false) (A_a : Nat) (A_a_pairs : Nat) (A_a_pads : Nat) (A_a_reached : Nat) (A_a_nearest : Nat) (a_padCount : Int32) (a_count : Int32) (hF : F_A_has_16 a_count = some out) : cg p l e r_A_has s m args below meth c D (cn_hi s) (fun _ => True) 2 0 0 (MQ below (cn_QR (some (.int out))) args s 0 0 (fun _ => False)) (w_A_has cy A_a A_a_pairs A_a_pads A_a_reached A_a_nearest a_count a_padCount) 16 [] [] := by
  refine cg_iconst (v := 0) C d_A_has_16 (by decide) ?_
  exact t_A_has_17 C hr hlk A_a A_a_pairs A_a_pads A_a_reached A_a_nearest a_padCount a_count 0 hF
def F_A_has_0 (a_count : Int32) (v1 : Int32) : Option (Int32) := if v1 < 0 then (F_A_has_16 a_count) else (if a_count ≤ v1 then (F_A_has_16 a_count) else (F_A_has_17 a_count 1))
set_option maxRecDepth 100000 in
set_option maxHeartbeats 4000000 in
theorem t_A_has_0 {p : Program} {l : Launch} {e : Env} {s : State} {m : MethodId} {args : Array Value} {below : List Frame} {meth : Method} {c : Code} {D : va_G} {cy : Nat → ClassId} {out : Int32} (C : cn_X p s m args c b_A_has 2 "CopperNets$Airlines" D cy) (hr : meth.sig.returnType = some .boolean) (hlk : meth.locks = false) (A_a : Nat) (A_a_pairs : Nat) (A_a_pads : Nat) (A_a_reached : Nat) (A_a_nearest : Nat) (a_padCount : Int32) (a_count : Int32) (v1 : Int32) (hF : F_A_has_0 a_count v1 = some out) : cg p l e r_A_has s m args below meth c D (cn_hi s) (fun _ => True) 2 0 0 (MQ below (cn_QR (some (.int out))) args s 0 0 (fun _ => False)) (w_A_has cy A_a A_a_pairs A_a_pads A_a_reached A_a_nearest a_count a_padCount) 0 [(0, .ref A_a), (1, .int v1)] [] := by
  refine cg_iload_n C d_A_has_0 1 rfl ?_
  refine cg_if_lt C 16 d_A_has_1 (by decide) (fun q_1 => ?_) (fun q_1 => ?_)
  · have hF := cn_pos q_1 hF
    refine cg_sub (lv' := []) [] rfl ?_
    exact t_A_has_16 C hr hlk A_a A_a_pairs A_a_pads A_a_reached A_a_nearest a_padCount a_count hF
  · have hF := cn_neg q_1 hF
    refine cg_iload_n C d_A_has_4 1 rfl ?_
    refine cg_aload_n C d_A_has_5 0 rfl ?_
    refine cg_get C 0 0 d_A_has_6 rfl rfl hin_A (by decide) rfl tw_87 rfl ?_
    refine cg_icmp_ge C 16 d_A_has_9 (by decide) (fun q_2 => ?_) (fun q_2 => ?_)
    · have hF := cn_pos q_2 hF
      refine cg_sub (lv' := []) [] rfl ?_
      exact t_A_has_16 C hr hlk A_a A_a_pairs A_a_pads A_a_reached A_a_nearest a_padCount a_count hF
    · have hF := cn_neg q_2 hF
      refine cg_iconst (v := 1) C d_A_has_12 (by decide) ?_
      refine cg_goto C 17 d_A_has_13 (by decide) ?_
      refine cg_sub (lv' := []) [] rfl ?_
      exact t_A_has_17 C hr hlk A_a A_a_pairs A_a_pads A_a_reached A_a_nearest a_padCount a_count 1 hF
abbrev F_A_has (a_count : Int32) (v1 : Int32) : Option (Int32) := F_A_has_0 a_count v1
theorem c_A_has {l : Launch} {D : va_G} {cy : Nat → ClassId} (A_a : Nat) (A_a_pairs : Nat) (A_a_pads : Nat) (A_a_reached : Nat) (A_a_nearest : Nat) (a_count : Int32) (a_padCount : Int32) (v1 : Int32) {out : Int32} (hF : F_A_has a_count v1 = some out) : cn_MR l y_A_has b_A_has 2 (some .boolean) r_A_has D cy [.ref A_a, .int v1] (w_A_has cy A_a A_a_pairs A_a_pads A_a_reached A_a_nearest a_count a_padCount) (some (.int out)) :=
  cn_MR.of (by decide +kernel) (Nat.le_of_ble_eq_true rfl) (fun p e s m below meth c C hr hlk => t_A_has_0 C hr hlk A_a A_a_pairs A_a_pads A_a_reached A_a_nearest a_padCount a_count v1 hF)
/-! CopperNets$Airlines.pairAt(I)J -/
abbrev r_A_pairAt : Room := { frames := 0, cells := 0, slots := 0, locals := 0 }
abbrev w_A_pairAt (cy : Nat → ClassId) (A_a : Nat) (A_a_pairs : Nat) (A_a_pads : Nat) (A_a_reached : Nat) (A_a_nearest : Nat) (a_count : Int32) (a_padCount : Int32) (a_pairs : Nat → Int64) : va_W := [(A_a, .inr (1, [.int a_count, .ref A_a_pairs, .int a_padCount, .ref A_a_pads, .ref A_a_reached, .ref A_a_nearest])), (A_a_pairs, .inl (cy 1, 60, .inr (.inl a_pairs)))]
theorem hs_A_pairAt : y_A_pairAt.cls ≠ "java/lang/invoke/MethodHandle" ∧ y_A_pairAt.cls ≠ "java/lang/invoke/VarHandle" ∧ (parseMethodDescriptor y_A_pairAt.desc).map (fun d => d.parameters.length) = some 1 := by decide +kernel
def F_A_pairAt_0 (a_pairs : Nat → Int64) (v1 : Int32) : Option (Int64) := cn_rd v1 60 (some ((a_pairs (Int32.toNatClampNeg v1))))
set_option maxRecDepth 100000 in
set_option maxHeartbeats 4000000 in
theorem t_A_pairAt_0 {p : Program} {l : Launch} {e : Env} {s : State} {m : MethodId} {args : Array Value} {below : List Frame} {meth : Method} {c : Code} {D : va_G} {cy : Nat → ClassId} {out : Int64} (C : cn_X p s m args c b_A_pairAt 2 "CopperNets$Airlines" D cy) (hr : meth.sig.returnType = some .long) (hlk : meth.locks = false) (A_a : Nat) (A_a_pairs : Nat) (A_a_pads : Nat) (A_a_reached : Nat) (A_a_nearest : Nat) (a_count : Int32) (a_padCount : Int32) (a_pairs : Nat → Int64) (v1 : Int32) (hF : F_A_pairAt_0 a_pairs v1 = some out) : cg p l e r_A_pairAt s m args below meth c D (cn_hi s) (fun _ => True) 2 0 0 (MQ below (cn_QR (some (.long out))) args s 0 0 (fun _ => False)) (w_A_pairAt cy A_a A_a_pairs A_a_pads A_a_reached A_a_nearest a_count a_padCount a_pairs) 0 [(0, .ref A_a), (1, .int v1)] [] := by
  refine cg_aload_n C d_A_pairAt_0 0 rfl ?_
  refine cg_get C 0 1 d_A_pairAt_1 rfl rfl hin_A (by decide) rfl tw_89 rfl ?_
  refine cg_iload_n C d_A_pairAt_4 1 rfl ?_
  obtain ⟨i_1, hF⟩ := cn_rd_some hF
  refine cg_lald C 1 d_A_pairAt_5 rfl i_1 ?_
  obtain rfl := Option.some.inj hF
  exact cg_lretR C hr hlk d_A_pairAt_6
abbrev F_A_pairAt (a_pairs : Nat → Int64) (v1 : Int32) : Option (Int64) := F_A_pairAt_0 a_pairs v1
theorem c_A_pairAt {l : Launch} {D : va_G} {cy : Nat → ClassId} (A_a : Nat) (A_a_pairs : Nat) (A_a_pads : Nat) (A_a_reached : Nat) (A_a_nearest : Nat) (a_count : Int32) (a_padCount : Int32) (a_pairs : Nat → Int64) (v1 : Int32) {out : Int64} (hF : F_A_pairAt a_pairs v1 = some out) : cn_MR l y_A_pairAt b_A_pairAt 2 (some .long) r_A_pairAt D cy [.ref A_a, .int v1] (w_A_pairAt cy A_a A_a_pairs A_a_pads A_a_reached A_a_nearest a_count a_padCount a_pairs) (some (.long out)) :=
  cn_MR.of (by decide +kernel) (Nat.le_of_ble_eq_true rfl) (fun p e s m below meth c C hr hlk => t_A_pairAt_0 C hr hlk A_a A_a_pairs A_a_pads A_a_reached A_a_nearest a_count a_padCount a_pairs v1 hF)
/-! CopperNets$Pair.square(J)J -/
abbrev r_Q_square : Room := { frames := 0, cells := 0, slots := 0, locals := 0 }
abbrev w_Q_square (cy : Nat → ClassId) : va_W := []
theorem hs_Q_square : y_Q_square.cls ≠ "java/lang/invoke/MethodHandle" ∧ y_Q_square.cls ≠ "java/lang/invoke/VarHandle" ∧ (parseMethodDescriptor y_Q_square.desc).map (fun d => d.parameters.length) = some 1 := by decide +kernel
def F_Q_square_0 (v0 : Int64) : Option (Int64) := some ((v0 >>> (Int32.toInt64 12 &&& 63)))
set_option maxRecDepth 100000 in
set_option maxHeartbeats 4000000 in
theorem t_Q_square_0 {p : Program} {l : Launch} {e : Env} {s : State} {m : MethodId} {args : Array Value} {below : List Frame} {meth : Method} {c : Code} {D : va_G} {cy : Nat → ClassId} {out : Int64} (C : cn_X p s m args c b_Q_square 2 "CopperNets$Pair" D cy) (hr : meth.sig.returnType = some .long) (hlk : meth.locks = false) (v0 : Int64) (hF : F_Q_square_0 v0 = some out) : cg p l e r_Q_square s m args below meth c D (cn_hi s) (fun _ => True) 2 0 0 (MQ below (cn_QR (some (.long out))) args s 0 0 (fun _ => False)) (w_Q_square cy) 0 [(0, .long v0)] [] := by
  refine cg_lload_n C d_Q_square_0 0 rfl ?_
  refine cg_bipush (v := 12) C d_Q_square_1 (by decide) ?_
  refine cg_lshr C d_Q_square_3 ?_
  obtain rfl := Option.some.inj hF
  exact cg_lretR C hr hlk d_Q_square_4
abbrev F_Q_square (v0 : Int64) : Option (Int64) := F_Q_square_0 v0
theorem c_Q_square {l : Launch} {D : va_G} {cy : Nat → ClassId} (v0 : Int64) {out : Int64} (hF : F_Q_square v0 = some out) : cn_MR l y_Q_square b_Q_square 2 (some .long) r_Q_square D cy [.long v0] (w_Q_square cy) (some (.long out)) :=
  cn_MR.of (by decide +kernel) (Nat.le_of_ble_eq_true rfl) (fun p e s m below meth c C hr hlk => t_Q_square_0 C hr hlk v0 hF)
/-! CopperNets$Pair.piece(JI)I -/
abbrev r_Q_piece : Room := { frames := 0, cells := 0, slots := 0, locals := 0 }
abbrev w_Q_piece (cy : Nat → ClassId) : va_W := []
theorem hs_Q_piece : y_Q_piece.cls ≠ "java/lang/invoke/MethodHandle" ∧ y_Q_piece.cls ≠ "java/lang/invoke/VarHandle" ∧ (parseMethodDescriptor y_Q_piece.desc).map (fun d => d.parameters.length) = some 2 := by decide +kernel
def F_Q_piece_12 (s0 : Int64) : Option (Int32) := some ((Int64.toInt32 (s0 &&& 63)))
set_option maxRecDepth 100000 in
set_option maxHeartbeats 4000000 in
theorem t_Q_piece_12 {p : Program} {l : Launch} {e : Env} {s : State} {m : MethodId} {args : Array Value} {below : List Frame} {meth : Method} {c : Code} {D : va_G} {cy : Nat → ClassId} {out : Int32} (C : cn_X p s m args c b_Q_piece 3 "CopperNets$Pair" D cy) (hr : meth.sig.returnType = some .int) (hlk : meth.locks = false) (s0 : Int64) (hF : F_Q_piece_12 s0 = some out) : cg p l e r_Q_piece s m args below meth c D (cn_hi s) (fun _ => True) 3 0 0 (MQ below (cn_QR (some (.int out))) args s 0 0 (fun _ => False)) (w_Q_piece cy) 12 [] [.long s0] := by
  refine cg_ldc2 (v := 63) C d_Q_piece_12 tw_490 ?_
  refine cg_land C d_Q_piece_15 ?_
  refine cg_l2i C d_Q_piece_16 ?_
  obtain rfl := Option.some.inj hF
  exact cg_iretR C hr hlk d_Q_piece_17
def F_Q_piece_0 (v0 : Int64) (v2 : Int32) : Option (Int32) := if v2 = 0 then (F_Q_piece_12 (v0 >>> (Int32.toInt64 6 &&& 63))) else (F_Q_piece_12 v0)
set_option maxRecDepth 100000 in
set_option maxHeartbeats 4000000 in
theorem t_Q_piece_0 {p : Program} {l : Launch} {e : Env} {s : State} {m : MethodId} {args : Array Value} {below : List Frame} {meth : Method} {c : Code} {D : va_G} {cy : Nat → ClassId} {out : Int32} (C : cn_X p s m args c b_Q_piece 3 "CopperNets$Pair" D cy) (hr : meth.sig.returnType = some .int) (hlk : meth.locks = false) (v0 : Int64) (v2 : Int32) (hF : F_Q_piece_0 v0 v2 = some out) : cg p l e r_Q_piece s m args below meth c D (cn_hi s) (fun _ => True) 3 0 0 (MQ below (cn_QR (some (.int out))) args s 0 0 (fun _ => False)) (w_Q_piece cy) 0 [(0, .long v0), (2, .int v2)] [] := by
  refine cg_iload_n C d_Q_piece_0 1 rfl ?_
  refine cg_if_ne C 11 d_Q_piece_1 (by decide) (fun q_1 => ?_) (fun q_1 => ?_)
  · have hF := cn_neg q_1 hF
    refine cg_lload_n C d_Q_piece_11 0 rfl ?_
    refine cg_sub (lv' := []) [] rfl ?_
    exact t_Q_piece_12 C hr hlk v0 hF
  · have hF := cn_pos q_1 hF
    refine cg_lload_n C d_Q_piece_4 0 rfl ?_
    refine cg_bipush (v := 6) C d_Q_piece_5 (by decide) ?_
    refine cg_lshr C d_Q_piece_7 ?_
    refine cg_goto C 12 d_Q_piece_8 (by decide) ?_
    refine cg_sub (lv' := []) [] rfl ?_
    exact t_Q_piece_12 C hr hlk (v0 >>> (Int32.toInt64 6 &&& 63)) hF
abbrev F_Q_piece (v0 : Int64) (v2 : Int32) : Option (Int32) := F_Q_piece_0 v0 v2
theorem c_Q_piece {l : Launch} {D : va_G} {cy : Nat → ClassId} (v0 : Int64) (v2 : Int32) {out : Int32} (hF : F_Q_piece v0 v2 = some out) : cn_MR l y_Q_piece b_Q_piece 3 (some .int) r_Q_piece D cy [.long v0, .int v2] (w_Q_piece cy) (some (.int out)) :=
  cn_MR.of (by decide +kernel) (Nat.le_of_ble_eq_true rfl) (fun p e s m below meth c C hr hlk => t_Q_piece_0 C hr hlk v0 v2 hF)
/-! CopperNets$Pieces.remove(I)V -/
abbrev r_P_remove : Room := { frames := 0, cells := 0, slots := 0, locals := 0 }
abbrev w_P_remove (cy : Nat → ClassId) (A_p : Nat) (A_p_there : Nat) (A_p_from : Nat) (A_p_to : Nat) (A_p_pin : Nat) (A_p_left : Nat) (A_p_low : Nat) (A_p_right : Nat) (A_p_high : Nat) (A_p_rim : Nat) (p_count : Int32) (p_there : Nat → Int32) : va_W := [(A_p, .inr (3, [.int p_count, .ref A_p_there, .ref A_p_from, .ref A_p_to, .ref A_p_pin, .ref A_p_left, .ref A_p_low, .ref A_p_right, .ref A_p_high, .ref A_p_rim])), (A_p_there, .inl (cy 2, 60, .inl p_there))]
theorem hs_P_remove : y_P_remove.cls ≠ "java/lang/invoke/MethodHandle" ∧ y_P_remove.cls ≠ "java/lang/invoke/VarHandle" ∧ (parseMethodDescriptor y_P_remove.desc).map (fun d => d.parameters.length) = some 1 := by decide +kernel
def F_P_remove_0 (p_there : Nat → Int32) (v1 : Int32) : Option ((Nat → Int32)) := cn_rd v1 60 (some ((upd p_there (Int32.toNatClampNeg v1) (vp_nar .boolean 0))))
set_option maxRecDepth 100000 in
set_option maxHeartbeats 4000000 in
theorem t_P_remove_0 {p : Program} {l : Launch} {e : Env} {s : State} {m : MethodId} {args : Array Value} {below : List Frame} {meth : Method} {c : Code} {D : va_G} {cy : Nat → ClassId} {A : Nat → Prop} {out : (Nat → Int32)} (C : cn_X p s m args c b_P_remove 2 "CopperNets$Pieces" D cy) (hr : meth.sig.returnType = none) (hlk : meth.locks = false) (hA : ∀ q, s.heap.size ≤ q → A q) (A_p : Nat) (A_p_there : Nat) (A_p_from : Nat) (A_p_to : Nat) (A_p_pin : Nat) (A_p_left : Nat) (A_p_low : Nat) (A_p_right : Nat) (A_p_high : Nat) (A_p_rim : Nat) (p_count : Int32) (p_there : Nat → Int32) (v1 : Int32) (hF : F_P_remove_0 p_there v1 = some out) : cg p l e r_P_remove s m args below meth c D (va_S A s.heap) A 2 0 0 (MQ below (cn_QW none D (w_P_remove cy A_p A_p_there A_p_from A_p_to A_p_pin A_p_left A_p_low A_p_right A_p_high A_p_rim p_count out) A) args s 0 0 A) (w_P_remove cy A_p A_p_there A_p_from A_p_to A_p_pin A_p_left A_p_low A_p_right A_p_high A_p_rim p_count p_there) 0 [(0, .ref A_p), (1, .int v1)] [] := by
  refine cg_aload_n C d_P_remove_0 0 rfl ?_
  refine cg_get C 0 1 d_P_remove_1 rfl rfl hin_P (by decide) rfl tw_31 rfl ?_
  refine cg_iload_n C d_P_remove_4 1 rfl ?_
  refine cg_iconst (v := 0) C d_P_remove_5 (by decide) ?_
  obtain ⟨i_1, hF⟩ := cn_rd_some hF
  refine cg_zast (ws' := w_P_remove cy A_p A_p_there A_p_from A_p_to A_p_pin A_p_left A_p_low A_p_right A_p_high A_p_rim p_count (upd p_there (Int32.toNatClampNeg v1) (vp_nar .boolean 0))) C 1 d_P_remove_6 rfl i_1 rfl ?_
  obtain rfl := Option.some.inj hF
  exact cg_vretW C hr hlk d_P_remove_7
abbrev F_P_remove (p_there : Nat → Int32) (v1 : Int32) : Option ((Nat → Int32)) := F_P_remove_0 p_there v1
theorem c_P_remove {l : Launch} {D : va_G} {cy : Nat → ClassId} (A_p : Nat) (A_p_there : Nat) (A_p_from : Nat) (A_p_to : Nat) (A_p_pin : Nat) (A_p_left : Nat) (A_p_low : Nat) (A_p_right : Nat) (A_p_high : Nat) (A_p_rim : Nat) (p_count : Int32) (p_there : Nat → Int32) (v1 : Int32) {out : (Nat → Int32)} (hF : F_P_remove p_there v1 = some out) : cn_MW l y_P_remove b_P_remove 2 (none) r_P_remove D cy [.ref A_p, .int v1] (w_P_remove cy A_p A_p_there A_p_from A_p_to A_p_pin A_p_left A_p_low A_p_right A_p_high A_p_rim p_count p_there) none (w_P_remove cy A_p A_p_there A_p_from A_p_to A_p_pin A_p_left A_p_low A_p_right A_p_high A_p_rim p_count out) 0 0 :=
  cn_MW.of (by decide +kernel) (Nat.le_of_ble_eq_true rfl) (fun p e s m below meth c A C hr hlk hA => t_P_remove_0 C hr hlk hA A_p A_p_there A_p_from A_p_to A_p_pin A_p_left A_p_low A_p_right A_p_high A_p_rim p_count p_there v1 hF)
/-! CopperNets$Groups.leave(I)V -/
abbrev r_G_leave : Room := { frames := 0, cells := 0, slots := 0, locals := 0 }
abbrev w_G_leave (cy : Nat → ClassId) (A_g : Nat) (A_g_leader : Nat) (g_leader : Nat → Int32) : va_W := [(A_g, .inr (2, [.ref A_g_leader])), (A_g_leader, .inl (cy 0, 60, .inl g_leader))]
theorem hs_G_leave : y_G_leave.cls ≠ "java/lang/invoke/MethodHandle" ∧ y_G_leave.cls ≠ "java/lang/invoke/VarHandle" ∧ (parseMethodDescriptor y_G_leave.desc).map (fun d => d.parameters.length) = some 1 := by decide +kernel
def F_G_leave_0 (g_leader : Nat → Int32) (v1 : Int32) : Option ((Nat → Int32)) := cn_rd v1 60 (some ((upd g_leader (Int32.toNatClampNeg v1) (-1))))
set_option maxRecDepth 100000 in
set_option maxHeartbeats 4000000 in
theorem t_G_leave_0 {p : Program} {l : Launch} {e : Env} {s : State} {m : MethodId} {args : Array Value} {below : List Frame} {meth : Method} {c : Code} {D : va_G} {cy : Nat → ClassId} {A : Nat → Prop} {out : (Nat → Int32)} (C : cn_X p s m args c b_G_leave 2 "CopperNets$Groups" D cy) (hr : meth.sig.returnType = none) (hlk : meth.locks = false) (hA : ∀ q, s.heap.size ≤ q → A q) (A_g : Nat) (A_g_leader : Nat) (g_leader : Nat → Int32) (v1 : Int32) (hF : F_G_leave_0 g_leader v1 = some out) : cg p l e r_G_leave s m args below meth c D (va_S A s.heap) A 2 0 0 (MQ below (cn_QW none D (w_G_leave cy A_g A_g_leader out) A) args s 0 0 A) (w_G_leave cy A_g A_g_leader g_leader) 0 [(0, .ref A_g), (1, .int v1)] [] := by
  refine cg_aload_n C d_G_leave_0 0 rfl ?_
  refine cg_get C 0 0 d_G_leave_1 rfl rfl hin_G (by decide) rfl tw_77 rfl ?_
  refine cg_iload_n C d_G_leave_4 1 rfl ?_
  refine cg_iconst (v := (-1)) C d_G_leave_5 (by decide) ?_
  obtain ⟨i_1, hF⟩ := cn_rd_some hF
  refine cg_iast (ws' := w_G_leave cy A_g A_g_leader (upd g_leader (Int32.toNatClampNeg v1) (-1))) C 1 d_G_leave_6 rfl i_1 rfl ?_
  obtain rfl := Option.some.inj hF
  exact cg_vretW C hr hlk d_G_leave_7
abbrev F_G_leave (g_leader : Nat → Int32) (v1 : Int32) : Option ((Nat → Int32)) := F_G_leave_0 g_leader v1
theorem c_G_leave {l : Launch} {D : va_G} {cy : Nat → ClassId} (A_g : Nat) (A_g_leader : Nat) (g_leader : Nat → Int32) (v1 : Int32) {out : (Nat → Int32)} (hF : F_G_leave g_leader v1 = some out) : cn_MW l y_G_leave b_G_leave 2 (none) r_G_leave D cy [.ref A_g, .int v1] (w_G_leave cy A_g A_g_leader g_leader) none (w_G_leave cy A_g A_g_leader out) 0 0 :=
  cn_MW.of (by decide +kernel) (Nat.le_of_ble_eq_true rfl) (fun p e s m below meth c A C hr hlk hA => t_G_leave_0 C hr hlk hA A_g A_g_leader g_leader v1 hF)
/-! CopperNets$Groups.follow(II)V -/
abbrev r_G_follow : Room := { frames := 0, cells := 0, slots := 0, locals := 0 }
abbrev w_G_follow (cy : Nat → ClassId) (A_g : Nat) (A_g_leader : Nat) (g_leader : Nat → Int32) : va_W := [(A_g, .inr (2, [.ref A_g_leader])), (A_g_leader, .inl (cy 0, 60, .inl g_leader))]
theorem hs_G_follow : y_G_follow.cls ≠ "java/lang/invoke/MethodHandle" ∧ y_G_follow.cls ≠ "java/lang/invoke/VarHandle" ∧ (parseMethodDescriptor y_G_follow.desc).map (fun d => d.parameters.length) = some 2 := by decide +kernel
def F_G_follow_0 (g_leader : Nat → Int32) (v1 : Int32) (v2 : Int32) : Option ((Nat → Int32)) := cn_rd v1 60 (some ((upd g_leader (Int32.toNatClampNeg v1) v2)))
set_option maxRecDepth 100000 in
set_option maxHeartbeats 4000000 in
theorem t_G_follow_0 {p : Program} {l : Launch} {e : Env} {s : State} {m : MethodId} {args : Array Value} {below : List Frame} {meth : Method} {c : Code} {D : va_G} {cy : Nat → ClassId} {A : Nat → Prop} {out : (Nat → Int32)} (C : cn_X p s m args c b_G_follow 3 "CopperNets$Groups" D cy) (hr : meth.sig.returnType = none) (hlk : meth.locks = false) (hA : ∀ q, s.heap.size ≤ q → A q) (A_g : Nat) (A_g_leader : Nat) (g_leader : Nat → Int32) (v1 : Int32) (v2 : Int32) (hF : F_G_follow_0 g_leader v1 v2 = some out) : cg p l e r_G_follow s m args below meth c D (va_S A s.heap) A 3 0 0 (MQ below (cn_QW none D (w_G_follow cy A_g A_g_leader out) A) args s 0 0 A) (w_G_follow cy A_g A_g_leader g_leader) 0 [(0, .ref A_g), (1, .int v1), (2, .int v2)] [] := by
  refine cg_aload_n C d_G_follow_0 0 rfl ?_
  refine cg_get C 0 0 d_G_follow_1 rfl rfl hin_G (by decide) rfl tw_77 rfl ?_
  refine cg_iload_n C d_G_follow_4 1 rfl ?_
  refine cg_iload_n C d_G_follow_5 2 rfl ?_
  obtain ⟨i_1, hF⟩ := cn_rd_some hF
  refine cg_iast (ws' := w_G_follow cy A_g A_g_leader (upd g_leader (Int32.toNatClampNeg v1) v2)) C 1 d_G_follow_6 rfl i_1 rfl ?_
  obtain rfl := Option.some.inj hF
  exact cg_vretW C hr hlk d_G_follow_7
abbrev F_G_follow (g_leader : Nat → Int32) (v1 : Int32) (v2 : Int32) : Option ((Nat → Int32)) := F_G_follow_0 g_leader v1 v2
theorem c_G_follow {l : Launch} {D : va_G} {cy : Nat → ClassId} (A_g : Nat) (A_g_leader : Nat) (g_leader : Nat → Int32) (v1 : Int32) (v2 : Int32) {out : (Nat → Int32)} (hF : F_G_follow g_leader v1 v2 = some out) : cn_MW l y_G_follow b_G_follow 3 (none) r_G_follow D cy [.ref A_g, .int v1, .int v2] (w_G_follow cy A_g A_g_leader g_leader) none (w_G_follow cy A_g A_g_leader out) 0 0 :=
  cn_MW.of (by decide +kernel) (Nat.le_of_ble_eq_true rfl) (fun p e s m below meth c A C hr hlk hA => t_G_follow_0 C hr hlk hA A_g A_g_leader g_leader v1 v2 hF)
