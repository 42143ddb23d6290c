theorem d_M_init_0 : decode b_M_init 0 = .ok (.aload_n 0, 1) := by decide +kernel
theorem d_M_init_1 : decode b_M_init 1 = .ok (.invokespecial 1, 3) := by decide +kernel
theorem d_M_init_4 : decode b_M_init 4 = .ok (.aload_n 0, 1) := by decide +kernel
theorem d_M_init_5 : decode b_M_init 5 = .ok (.bipush 60, 2) := by decide +kernel
theorem d_M_init_7 : decode b_M_init 7 = .ok (.newarray .boolean, 2) := by decide +kernel
theorem d_M_init_9 : decode b_M_init 9 = .ok (.putfield 7, 3) := by decide +kernel
theorem d_M_init_12 : decode b_M_init 12 = .ok (.aload_n 0, 1) := by decide +kernel
theorem d_M_init_13 : decode b_M_init 13 = .ok (.bipush 60, 2) := by decide +kernel
theorem d_M_init_15 : decode b_M_init 15 = .ok (.newarray .int, 2) := by decide +kernel
theorem d_M_init_17 : decode b_M_init 17 = .ok (.putfield 13, 3) := by decide +kernel
theorem d_M_init_20 : decode b_M_init 20 = .ok (.aload_n 0, 1) := by decide +kernel
theorem d_M_init_21 : decode b_M_init 21 = .ok (.bipush 60, 2) := by decide +kernel
theorem d_M_init_23 : decode b_M_init 23 = .ok (.newarray .int, 2) := by decide +kernel
theorem d_M_init_25 : decode b_M_init 25 = .ok (.putfield 17, 3) := by decide +kernel
theorem d_M_init_28 : decode b_M_init 28 = .ok (.aload_n 0, 1) := by decide +kernel
theorem d_M_init_29 : decode b_M_init 29 = .ok (.bipush 60, 2) := by decide +kernel
theorem d_M_init_31 : decode b_M_init 31 = .ok (.newarray .long, 2) := by decide +kernel
theorem d_M_init_33 : decode b_M_init 33 = .ok (.putfield 20, 3) := by decide +kernel
theorem d_M_init_36 : decode b_M_init 36 = .ok (.aload_n 0, 1) := by decide +kernel
theorem d_M_init_37 : decode b_M_init 37 = .ok (.bipush 60, 2) := by decide +kernel
theorem d_M_init_39 : decode b_M_init 39 = .ok (.newarray .long, 2) := by decide +kernel
theorem d_M_init_41 : decode b_M_init 41 = .ok (.putfield 24, 3) := by decide +kernel
theorem d_M_init_44 : decode b_M_init 44 = .ok (.aload_n 0, 1) := by decide +kernel
theorem d_M_init_45 : decode b_M_init 45 = .ok (.bipush 60, 2) := by decide +kernel
theorem d_M_init_47 : decode b_M_init 47 = .ok (.newarray .long, 2) := by decide +kernel
theorem d_M_init_49 : decode b_M_init 49 = .ok (.putfield 27, 3) := by decide +kernel
theorem d_M_init_52 : decode b_M_init 52 = .ok (.aload_n 0, 1) := by decide +kernel
theorem d_M_init_53 : decode b_M_init 53 = .ok (.bipush 60, 2) := by decide +kernel
theorem d_M_init_55 : decode b_M_init 55 = .ok (.newarray .long, 2) := by decide +kernel
theorem d_M_init_57 : decode b_M_init 57 = .ok (.putfield 30, 3) := by decide +kernel
theorem d_M_init_60 : decode b_M_init 60 = .ok (.aload_n 0, 1) := by decide +kernel
theorem d_M_init_61 : decode b_M_init 61 = .ok (.bipush 60, 2) := by decide +kernel
theorem d_M_init_63 : decode b_M_init 63 = .ok (.newarray .long, 2) := by decide +kernel
theorem d_M_init_65 : decode b_M_init 65 = .ok (.putfield 33, 3) := by decide +kernel
theorem d_M_init_68 : decode b_M_init 68 = .ok (.aload_n 0, 1) := by decide +kernel
theorem d_M_init_69 : decode b_M_init 69 = .ok (.bipush 60, 2) := by decide +kernel
theorem d_M_init_71 : decode b_M_init 71 = .ok (.newarray .int, 2) := by decide +kernel
theorem d_M_init_73 : decode b_M_init 73 = .ok (.putfield 36, 3) := by decide +kernel
theorem d_M_init_76 : decode b_M_init 76 = .ok (.aload_n 0, 1) := by decide +kernel
theorem d_M_init_77 : decode b_M_init 77 = .ok (.bipush 40, 2) := by decide +kernel
theorem d_M_init_79 : decode b_M_init 79 = .ok (.newarray .int, 2) := by decide +kernel
theorem d_M_init_81 : decode b_M_init 81 = .ok (.putfield 39, 3) := by decide +kernel
theorem d_M_init_84 : decode b_M_init 84 = .ok (.aload_n 0, 1) := by decide +kernel
theorem d_M_init_85 : decode b_M_init 85 = .ok (.bipush 60, 2) := by decide +kernel
theorem d_M_init_87 : decode b_M_init 87 = .ok (.newarray .int, 2) := by decide +kernel
theorem d_M_init_89 : decode b_M_init 89 = .ok (.putfield 42, 3) := by decide +kernel
theorem d_M_init_92 : decode b_M_init 92 = .ok (.aload_n 0, 1) := by decide +kernel
theorem d_M_init_93 : decode b_M_init 93 = .ok (.bipush 60, 2) := by decide +kernel
theorem d_M_init_95 : decode b_M_init 95 = .ok (.newarray .int, 2) := by decide +kernel
theorem d_M_init_97 : decode b_M_init 97 = .ok (.putfield 45, 3) := by decide +kernel
theorem d_M_init_100 : decode b_M_init 100 = .ok (.aload_n 0, 1) := by decide +kernel
theorem d_M_init_101 : decode b_M_init 101 = .ok (.bipush 60, 2) := by decide +kernel
theorem d_M_init_103 : decode b_M_init 103 = .ok (.newarray .int, 2) := by decide +kernel
theorem d_M_init_105 : decode b_M_init 105 = .ok (.putfield 48, 3) := by decide +kernel
theorem d_M_init_108 : decode b_M_init 108 = .ok (.aload_n 0, 1) := by decide +kernel
theorem d_M_init_109 : decode b_M_init 109 = .ok (.iload_n 1, 1) := by decide +kernel
theorem d_M_init_110 : decode b_M_init 110 = .ok (.iconst 1, 1) := by decide +kernel
theorem d_M_init_111 : decode b_M_init 111 = .ok (.if_icmp .ge 7, 3) := by decide +kernel
theorem d_M_init_114 : decode b_M_init 114 = .ok (.iconst 1, 1) := by decide +kernel
theorem d_M_init_115 : decode b_M_init 115 = .ok (.goto 15, 3) := by decide +kernel
theorem d_M_init_118 : decode b_M_init 118 = .ok (.iload_n 1, 1) := by decide +kernel
theorem d_M_init_119 : decode b_M_init 119 = .ok (.bipush 8, 2) := by decide +kernel
theorem d_M_init_121 : decode b_M_init 121 = .ok (.if_icmp .le 8, 3) := by decide +kernel
theorem d_M_init_124 : decode b_M_init 124 = .ok (.bipush 8, 2) := by decide +kernel
theorem d_M_init_126 : decode b_M_init 126 = .ok (.goto 4, 3) := by decide +kernel
theorem d_M_init_129 : decode b_M_init 129 = .ok (.iload_n 1, 1) := by decide +kernel
theorem d_M_init_130 : decode b_M_init 130 = .ok (.putfield 51, 3) := by decide +kernel
theorem d_M_init_133 : decode b_M_init 133 = .ok (.iconst 0, 1) := by decide +kernel
theorem d_M_init_134 : decode b_M_init 134 = .ok (.istore_n 2, 1) := by decide +kernel
theorem d_M_init_135 : decode b_M_init 135 = .ok (.iload_n 2, 1) := by decide +kernel
theorem d_M_init_136 : decode b_M_init 136 = .ok (.bipush 40, 2) := by decide +kernel
theorem d_M_init_138 : decode b_M_init 138 = .ok (.if_icmp .ge 16, 3) := by decide +kernel
theorem d_M_init_141 : decode b_M_init 141 = .ok (.aload_n 0, 1) := by decide +kernel
theorem d_M_init_142 : decode b_M_init 142 = .ok (.getfield 39, 3) := by decide +kernel
theorem d_M_init_145 : decode b_M_init 145 = .ok (.iload_n 2, 1) := by decide +kernel
theorem d_M_init_146 : decode b_M_init 146 = .ok (.iconst (-1), 1) := by decide +kernel
theorem d_M_init_147 : decode b_M_init 147 = .ok (.iastore, 1) := by decide +kernel
theorem d_M_init_148 : decode b_M_init 148 = .ok (.iinc 2 1, 3) := by decide +kernel
theorem d_M_init_151 : decode b_M_init 151 = .ok (.goto (-16), 3) := by decide +kernel
theorem d_M_init_154 : decode b_M_init 154 = .ok (.return_, 1) := by decide +kernel
abbrev r_M_init : Room := { frames := 1, cells := 13, slots := 760, locals := 20 }
abbrev w_M_init (cy : Nat → ClassId) (A_m : Nat) (A_m_there : Nat) (A_m_low : Nat) (A_m_high : Nat) (A_m_x : Nat) (A_m_y : Nat) (A_m_w : Nat) (A_m_h : Nat) (A_m_r : Nat) (A_m_pinOf : Nat) (A_m_netOfPin : Nat) (A_m_label : Nat) (A_m_number : Nat) (A_m_group : Nat) (m_thrown : Int32) (m_layers : Int32) (m_pieces : Int32) (m_airSquare : Int64) (m_airLow : Int32) (m_airHigh : Int32) (m_there : Nat → Int32) (m_low : Nat → Int32) (m_high : Nat → Int32) (m_x : Nat → Int64) (m_y : Nat → Int64) (m_w : Nat → Int64) (m_h : Nat → Int64) (m_r : Nat → Int64) (m_pinOf : Nat → Int32) (m_netOfPin : Nat → Int32) (m_label : Nat → Int32) (m_number : Nat → Int32) (m_group : Nat → Int32) : va_W := [(A_m, .inr (4, [.int m_thrown, .int m_layers, .int m_pieces, .ref A_m_there, .ref A_m_low, .ref A_m_high, .ref A_m_x, .ref A_m_y, .ref A_m_w, .ref A_m_h, .ref A_m_r, .ref A_m_pinOf, .ref A_m_netOfPin, .ref A_m_label, .ref A_m_number, .ref A_m_group, .long m_airSquare, .int m_airLow, .int m_airHigh])), (A_m_there, .inl (cy 2, 60, .inl m_there)), (A_m_low, .inl (cy 0, 60, .inl m_low)), (A_m_high, .inl (cy 0, 60, .inl m_high)), (A_m_x, .inl (cy 1, 60, .inr (.inl m_x))), (A_m_y, .inl (cy 1, 60, .inr (.inl m_y))), (A_m_w, .inl (cy 1, 60, .inr (.inl m_w))), (A_m_h, .inl (cy 1, 60, .inr (.inl m_h))), (A_m_r, .inl (cy 1, 60, .inr (.inl m_r))), (A_m_pinOf, .inl (cy 0, 60, .inl m_pinOf)), (A_m_netOfPin, .inl (cy 0, 40, .inl m_netOfPin)), (A_m_label, .inl (cy 0, 60, .inl m_label)), (A_m_number, .inl (cy 0, 60, .inl m_number)), (A_m_group, .inl (cy 0, 60, .inl m_group))]
theorem hs_M_init : y_M_init.cls ≠ "java/lang/invoke/MethodHandle" ∧ y_M_init.cls ≠ "java/lang/invoke/VarHandle" ∧ (parseMethodDescriptor y_M_init.desc).map (fun d => d.parameters.length) = some 1 := by decide +kernel
def F_M_init_135 : Nat → Int32 → (Nat → Int32) → Int32 → Option (Int32 × (Nat → Int32))
  | 0, _, _, _ => none
  | n + 1, m_layers, m_netOfPin, v2 => if 40 ≤ v2 then (some (m_layers, m_netOfPin)) else (cn_rd v2 40 (F_M_init_135 n m_layers (upd m_netOfPin (Int32.toNatClampNeg v2) (-1)) (v2 + 1)))
set_option maxRecDepth 100000 in
set_option maxHeartbeats 4000000 in
theorem t_M_init_135 {p : Program} {l : Launch} {e : Env} {s : State} {m : MethodId} {args : Array Value} {below : List Frame} {meth : Method} {c : Code} {D : va_G} {cy : Nat → ClassId} {A : Nat → Prop} {out : Int32 × (Nat → Int32)} (C : cn_X p s m args c b_M_init 3 "CopperNetsModel" D cy) (hr : meth.sig.returnType = none) (hlk : meth.locks = false) (hA : ∀ q, s.heap.size ≤ q → A q) (hin : meth.name = "<init>") (A_m : Nat) (A_m_there : Nat) (A_m_low : Nat) (A_m_high : Nat) (A_m_x : Nat) (A_m_y : Nat) (A_m_w : Nat) (A_m_h : Nat) (A_m_r : Nat) (A_m_pinOf : Nat) (A_m_netOfPin : Nat) (A_m_label : Nat) (A_m_number : Nat) (A_m_group : Nat) (m_thrown : Int32) (m_pieces : Int32) (m_airSquare : Int64) (m_airLow : Int32) (m_airHigh : Int32) (m_there : Nat → Int32) (m_low : Nat → Int32) (m_high : Nat → Int32) (m_x : Nat → Int64) (m_y : Nat → Int64) (m_w : Nat → Int64) (m_h : Nat → Int64) (m_r : Nat → Int64) (m_pinOf : Nat → Int32) (m_label : Nat → Int32) (m_number : Nat → Int32) (m_group : Nat → Int32) : ∀ (n : Nat) (m_layers : Int32) (m_netOfPin : Nat → Int32) (v2 : Int32), F_M_init_135 n m_layers m_netOfPin v2 = some out → cg p l e r_M_init s m args below meth c D (va_S A s.heap) A 3 13 760 (MQ below (cn_QC (fun w => ∃ A_m_there A_m_low A_m_high A_m_x A_m_y A_m_w A_m_h A_m_r A_m_pinOf A_m_netOfPin A_m_label A_m_number A_m_group, w = w_M_init cy A_m A_m_there A_m_low A_m_high A_m_x A_m_y A_m_w A_m_h A_m_r A_m_pinOf A_m_netOfPin A_m_label A_m_number A_m_group m_thrown out.1 m_pieces m_airSquare m_airLow m_airHigh m_there m_low m_high m_x m_y m_w m_h m_r m_pinOf out.2 m_label m_number m_group) D A) args s 13 760 A) (w_M_init cy A_m A_m_there A_m_low A_m_high A_m_x A_m_y A_m_w A_m_h A_m_r A_m_pinOf A_m_netOfPin A_m_label A_m_number A_m_group m_thrown m_layers m_pieces m_airSquare m_airLow m_airHigh m_there m_low m_high m_x m_y m_w m_h m_r m_pinOf m_netOfPin m_label m_number m_group) 135 [(0, .ref A_m), (2, .int v2)] [] := by
  intro n
  induction n with
  | zero => intro m_layers m_netOfPin v2 hF; exact nomatch (show (none : Option (Int32 × (Nat → Int32))) = some out from hF)
  | succ n ih =>
    intro m_layers m_netOfPin v2 hF
    refine cg_iload_n C d_M_init_135 1 rfl ?_
    refine cg_bipush (v := 40) C d_M_init_136 (by decide) ?_
    refine cg_icmp_ge C 154 d_M_init_138 (by decide) (fun q_1 => ?_) (fun q_1 => ?_)
    · have hF := cn_pos q_1 hF
      obtain rfl := Option.some.inj hF
      exact cg_vretC C hr hlk ⟨A_m_there, A_m_low, A_m_high, A_m_x, A_m_y, A_m_w, A_m_h, A_m_r, A_m_pinOf, A_m_netOfPin, A_m_label, A_m_number, A_m_group, rfl⟩ d_M_init_154
    · have hF := cn_neg q_1 hF
      refine cg_aload_n C d_M_init_141 0 rfl ?_
      refine cg_get C 0 12 d_M_init_142 rfl rfl hin_M (by decide) rfl tw_563 rfl ?_
      refine cg_iload_n C d_M_init_145 1 rfl ?_
      refine cg_iconst (v := (-1)) C d_M_init_146 (by decide) ?_
      obtain ⟨i_2, hF⟩ := cn_rd_some hF
      refine cg_iast (ws' := w_M_init cy A_m A_m_there A_m_low A_m_high A_m_x A_m_y A_m_w A_m_h A_m_r A_m_pinOf A_m_netOfPin A_m_label A_m_number A_m_group m_thrown m_layers m_pieces m_airSquare m_airLow m_airHigh m_there m_low m_high m_x m_y m_w m_h m_r m_pinOf (upd m_netOfPin (Int32.toNatClampNeg v2) (-1)) m_label m_number m_group) C 10 d_M_init_147 rfl i_2 rfl ?_
      refine cg_iinc (v := v2 + 1) (lv' := [(2, .int (v2 + 1)), (0, .ref A_m)]) C d_M_init_148 1 rfl (by decide) rfl rfl ?_
      refine cg_goto C 135 d_M_init_151 (by decide) ?_
      refine cg_sub (lv' := [(0, .ref A_m), (2, .int (v2 + 1))]) [1, 0] rfl ?_
      exact ih m_layers (upd m_netOfPin (Int32.toNatClampNeg v2) (-1)) (v2 + 1) hF
def F_M_init_130 (m_layers : Int32) (m_netOfPin : Nat → Int32) (s1 : Int32) : Option (Int32 × (Nat → Int32)) := F_M_init_135 4096 s1 m_netOfPin 0
set_option maxRecDepth 100000 in
set_option maxHeartbeats 4000000 in
theorem t_M_init_130 {p : Program} {l : Launch} {e : Env} {s : State} {m : MethodId} {args : Array Value} {below : List Frame} {meth : Method} {c : Code} {D : va_G} {cy : Nat → ClassId} {A : Nat → Prop} {out : Int32 × (Nat → Int32)} (C : cn_X p s m args c b_M_init 3 "CopperNetsModel" D cy) (hr : meth.sig.returnType = none) (hlk : meth.locks = false) (hA : ∀ q, s.heap.size ≤ q → A q) (hin : meth.name = "<init>") (A_m : Nat) (A_m_there : Nat) (A_m_low : Nat) (A_m_high : Nat) (A_m_x : Nat) (A_m_y : Nat) (A_m_w : Nat) (A_m_h : Nat) (A_m_r : Nat) (A_m_pinOf : Nat) (A_m_netOfPin : Nat) (A_m_label : Nat) (A_m_number : Nat) (A_m_group : Nat) (m_thrown : Int32) (m_pieces : Int32) (m_airSquare : Int64) (m_airLow : Int32) (m_airHigh : Int32) (m_there : Nat → Int32) (m_low : Nat → Int32) (m_high : Nat → Int32) (m_x : Nat → Int64) (m_y : Nat → Int64) (m_w : Nat → Int64) (m_h : Nat → Int64) (m_r : Nat → Int64) (m_pinOf : Nat → Int32) (m_label : Nat → Int32) (m_number : Nat → Int32) (m_group : Nat → Int32) (m_layers : Int32) (m_netOfPin : Nat → Int32) (s1 : Int32) (hF : F_M_init_130 m_layers m_netOfPin s1 = some out) : cg p l e r_M_init s m args below meth c D (va_S A s.heap) A 3 13 760 (MQ below (cn_QC (fun w => ∃ A_m_there A_m_low A_m_high A_m_x A_m_y A_m_w A_m_h A_m_r A_m_pinOf A_m_netOfPin A_m_label A_m_number A_m_group, w = w_M_init cy A_m A_m_there A_m_low A_m_high A_m_x A_m_y A_m_w A_m_h A_m_r A_m_pinOf A_m_netOfPin A_m_label A_m_number A_m_group m_thrown out.1 m_pieces m_airSquare m_airLow m_airHigh m_there m_low m_high m_x m_y m_w m_h m_r m_pinOf out.2 m_label m_number m_group) D A) args s 13 760 A) (w_M_init cy A_m A_m_there A_m_low A_m_high A_m_x A_m_y A_m_w A_m_h A_m_r A_m_pinOf A_m_netOfPin A_m_label A_m_number A_m_group m_thrown m_layers m_pieces m_airSquare m_airLow m_airHigh m_there m_low m_high m_x m_y m_w m_h m_r m_pinOf m_netOfPin m_label m_number m_group) 130 [(0, .ref A_m)] [.int s1, .ref A_m] := by
  refine cg_putF (ws' := w_M_init cy A_m A_m_there A_m_low A_m_high A_m_x A_m_y A_m_w A_m_h A_m_r A_m_pinOf A_m_netOfPin A_m_label A_m_number A_m_group m_thrown s1 m_pieces m_airSquare m_airLow m_airHigh m_there m_low m_high m_x m_y m_w m_h m_r m_pinOf m_netOfPin m_label m_number m_group) C 0 1 t_M d_M_init_130 rfl rfl hin_M tt_M n_M (by decide) rfl tw_552 hin rfl rfl (Nat.le_of_ble_eq_true rfl) rfl ?_
  refine cg_iconst (v := 0) C d_M_init_133 (by decide) ?_
  refine cg_istore_n (lv' := [(2, .int 0), (0, .ref A_m)]) C d_M_init_134 (by decide) rfl ?_
  refine cg_sub (lv' := [(0, .ref A_m), (2, .int 0)]) [1, 0] rfl ?_
  exact t_M_init_135 C hr hlk hA hin A_m A_m_there A_m_low A_m_high A_m_x A_m_y A_m_w A_m_h A_m_r A_m_pinOf A_m_netOfPin A_m_label A_m_number A_m_group m_thrown m_pieces m_airSquare m_airLow m_airHigh m_there m_low m_high m_x m_y m_w m_h m_r m_pinOf m_label m_number m_group 4096 s1 m_netOfPin 0 hF
def F_M_init_108 (m_layers : Int32) (m_netOfPin : Nat → Int32) (v1 : Int32) : Option (Int32 × (Nat → Int32)) := if 1 ≤ v1 then (if v1 ≤ 8 then (F_M_init_130 m_layers m_netOfPin v1) else (F_M_init_130 m_layers m_netOfPin 8)) else (F_M_init_130 m_layers m_netOfPin 1)
set_option maxRecDepth 100000 in
set_option maxHeartbeats 4000000 in
theorem t_M_init_108 {p : Program} {l : Launch} {e : Env} {s : State} {m : MethodId} {args : Array Value} {below : List Frame} {meth : Method} {c : Code} {D : va_G} {cy : Nat → ClassId} {A : Nat → Prop} {out : Int32 × (Nat → Int32)} (C : cn_X p s m args c b_M_init 3 "CopperNetsModel" D cy) (hr : meth.sig.returnType = none) (hlk : meth.locks = false) (hA : ∀ q, s.heap.size ≤ q → A q) (hin : meth.name = "<init>") (A_m : Nat) (A_m_there : Nat) (A_m_low : Nat) (A_m_high : Nat) (A_m_x : Nat) (A_m_y : Nat) (A_m_w : Nat) (A_m_h : Nat) (A_m_r : Nat) (A_m_pinOf : Nat) (A_m_netOfPin : Nat) (A_m_label : Nat) (A_m_number : Nat) (A_m_group : Nat) (m_thrown : Int32) (m_pieces : Int32) (m_airSquare : Int64) (m_airLow : Int32) (m_airHigh : Int32) (m_there : Nat → Int32) (m_low : Nat → Int32) (m_high : Nat → Int32) (m_x : Nat → Int64) (m_y : Nat → Int64) (m_w : Nat → Int64) (m_h : Nat → Int64) (m_r : Nat → Int64) (m_pinOf : Nat → Int32) (m_label : Nat → Int32) (m_number : Nat → Int32) (m_group : Nat → Int32) (m_layers : Int32) (m_netOfPin : Nat → Int32) (v1 : Int32) (hF : F_M_init_108 m_layers m_netOfPin v1 = some out) : cg p l e r_M_init s m args below meth c D (va_S A s.heap) A 3 13 760 (MQ below (cn_QC (fun w => ∃ A_m_there A_m_low A_m_high A_m_x A_m_y A_m_w A_m_h A_m_r A_m_pinOf A_m_netOfPin A_m_label A_m_number A_m_group, w = w_M_init cy A_m A_m_there A_m_low A_m_high A_m_x A_m_y A_m_w A_m_h A_m_r A_m_pinOf A_m_netOfPin A_m_label A_m_number A_m_group m_thrown out.1 m_pieces m_airSquare m_airLow m_airHigh m_there m_low m_high m_x m_y m_w m_h m_r m_pinOf out.2 m_label m_number m_group) D A) args s 13 760 A) (w_M_init cy A_m A_m_there A_m_low A_m_high A_m_x A_m_y A_m_w A_m_h A_m_r A_m_pinOf A_m_netOfPin A_m_label A_m_number A_m_group m_thrown m_layers m_pieces m_airSquare m_airLow m_airHigh m_there m_low m_high m_x m_y m_w m_h m_r m_pinOf m_netOfPin m_label m_number m_group) 108 [(0, .ref A_m), (1, .int v1)] [] := by
  refine cg_aload_n C d_M_init_108 0 rfl ?_
  refine cg_iload_n C d_M_init_109 1 rfl ?_
  refine cg_iconst (v := 1) C d_M_init_110 (by decide) ?_
  refine cg_icmp_ge C 118 d_M_init_111 (by decide) (fun q_3 => ?_) (fun q_3 => ?_)
  · have hF := cn_pos q_3 hF
    refine cg_iload_n C d_M_init_118 1 rfl ?_
    refine cg_bipush (v := 8) C d_M_init_119 (by decide) ?_
    refine cg_icmp_le C 129 d_M_init_121 (by decide) (fun q_4 => ?_) (fun q_4 => ?_)
    · have hF := cn_pos q_4 hF
      refine cg_iload_n C d_M_init_129 1 rfl ?_
      refine cg_sub (lv' := [(0, .ref A_m)]) [0] rfl ?_
      exact t_M_init_130 C hr hlk hA hin A_m A_m_there A_m_low A_m_high A_m_x A_m_y A_m_w A_m_h A_m_r A_m_pinOf A_m_netOfPin A_m_label A_m_number A_m_group m_thrown m_pieces m_airSquare m_airLow m_airHigh m_there m_low m_high m_x m_y m_w m_h m_r m_pinOf m_label m_number m_group m_layers m_netOfPin v1 hF
    · have hF := cn_neg q_4 hF
      refine cg_bipush (v := 8) C d_M_init_124 (by decide) ?_
      refine cg_goto C 130 d_M_init_126 (by decide) ?_
      refine cg_sub (lv' := [(0, .ref A_m)]) [0] rfl ?_
      exact t_M_init_130 C hr hlk hA hin A_m A_m_there A_m_low A_m_high A_m_x A_m_y A_m_w A_m_h A_m_r A_m_pinOf A_m_netOfPin A_m_label A_m_number A_m_group m_thrown m_pieces m_airSquare m_airLow m_airHigh m_there m_low m_high m_x m_y m_w m_h m_r m_pinOf m_label m_number m_group m_layers m_netOfPin 8 hF
  · have hF := cn_neg q_3 hF
    refine cg_iconst (v := 1) C d_M_init_114 (by decide) ?_
    refine cg_goto C 130 d_M_init_115 (by decide) ?_
    refine cg_sub (lv' := [(0, .ref A_m)]) [0] rfl ?_
    exact t_M_init_130 C hr hlk hA hin A_m A_m_there A_m_low A_m_high A_m_x A_m_y A_m_w A_m_h A_m_r A_m_pinOf A_m_netOfPin A_m_label A_m_number A_m_group m_thrown m_pieces m_airSquare m_airLow m_airHigh m_there m_low m_high m_x m_y m_w m_h m_r m_pinOf m_label m_number m_group m_layers m_netOfPin 1 hF
abbrev F_M_init (v1 : Int32) : Option (Int32 × (Nat → Int32)) := F_M_init_108 0 (fun _ => 0) v1
set_option maxRecDepth 100000 in
set_option maxHeartbeats 4000000 in
theorem c_M_init {l : Launch} {D : va_G} {cy : Nat → ClassId} (A0 : Nat) (v1 : Int32) {out : Int32 × (Nat → Int32)} (hF : F_M_init v1 = some out) : cn_MC l y_M_init b_M_init 3 r_M_init D cy [.ref A0, .int v1] [(A0, .inr (4, [.int 0, .int 0, .int 0, .null, .null, .null, .null, .null, .null, .null, .null, .null, .null, .null, .null, .null, .long 0, .int 0, .int 0]))] (fun w => ∃ A_m_there A_m_low A_m_high A_m_x A_m_y A_m_w A_m_h A_m_r A_m_pinOf A_m_netOfPin A_m_label A_m_number A_m_group, w = w_M_init cy A0 A_m_there A_m_low A_m_high A_m_x A_m_y A_m_w A_m_h A_m_r A_m_pinOf A_m_netOfPin A_m_label A_m_number A_m_group 0 out.1 0 0 0 0 (fun _ => 0) (fun _ => 0) (fun _ => 0) (fun _ => 0) (fun _ => 0) (fun _ => 0) (fun _ => 0) (fun _ => 0) (fun _ => 0) out.2 (fun _ => 0) (fun _ => 0) (fun _ => 0)) 13 760 := by
  refine cn_MC.of (by decide +kernel) rfl (Nat.le_of_ble_eq_true rfl) ?_
  intro p e s m below meth c A C hr hlk hA hin
  refine cg_sub (lv' := [(0, .ref A0), (1, .int v1)]) [0, 1] rfl ?_
  refine cg_aload_n C d_M_init_0 0 rfl ?_
  refine cg_objInit C d_M_init_1 tw_550 tw_21 tw_22 ⟨by decide, Nat.le_of_ble_eq_true rfl⟩ ?_
  refine cg_aload_n C d_M_init_4 0 rfl ?_
  refine cg_bipush (v := 60) C d_M_init_5 (by decide) ?_
  refine cg_newZ C hA 60 d_M_init_7 tw_62 (by decide) (by decide) (by decide) ⟨by decide, by decide⟩ (fun q1 => ?_)
  refine cg_ws (ws' := [(A0, .inr (4, [.int 0, .int 0, .int 0, .null, .null, .null, .null, .null, .null, .null, .null, .null, .null, .null, .null, .null, .long 0, .int 0, .int 0])), (q1, .inl (cy 2, 60, .inl (fun _ => 0)))]) rfl ?_
  refine cg_putF (ws' := [(A0, .inr (4, [.int 0, .int 0, .int 0, .ref q1, .null, .null, .null, .null, .null, .null, .null, .null, .null, .null, .null, .null, .long 0, .int 0, .int 0])), (q1, .inl (cy 2, 60, .inl (fun _ => 0)))]) C 0 3 t_M d_M_init_9 rfl rfl hin_M tt_M n_M (by decide) rfl tw_554 hin rfl rfl (Nat.le_of_ble_eq_true rfl) rfl ?_
  refine cg_aload_n C d_M_init_12 0 rfl ?_
  refine cg_bipush (v := 60) C d_M_init_13 (by decide) ?_
  refine cg_newI C hA 60 d_M_init_15 tw_61 (by decide) (by decide) (by decide) ⟨by decide, by decide⟩ (fun q2 => ?_)
  refine cg_ws (ws' := [(A0, .inr (4, [.int 0, .int 0, .int 0, .ref q1, .null, .null, .null, .null, .null, .null, .null, .null, .null, .null, .null, .null, .long 0, .int 0, .int 0])), (q1, .inl (cy 2, 60, .inl (fun _ => 0))), (q2, .inl (cy 0, 60, .inl (fun _ => 0)))]) rfl ?_
  refine cg_putF (ws' := [(A0, .inr (4, [.int 0, .int 0, .int 0, .ref q1, .ref q2, .null, .null, .null, .null, .null, .null, .null, .null, .null, .null, .null, .long 0, .int 0, .int 0])), (q1, .inl (cy 2, 60, .inl (fun _ => 0))), (q2, .inl (cy 0, 60, .inl (fun _ => 0)))]) C 0 4 t_M d_M_init_17 rfl rfl hin_M tt_M n_M (by decide) rfl tw_555 hin rfl rfl (Nat.le_of_ble_eq_true rfl) rfl ?_
  refine cg_aload_n C d_M_init_20 0 rfl ?_
  refine cg_bipush (v := 60) C d_M_init_21 (by decide) ?_
  refine cg_newI C hA 60 d_M_init_23 tw_61 (by decide) (by decide) (by decide) ⟨by decide, by decide⟩ (fun q3 => ?_)
  refine cg_ws (ws' := [(A0, .inr (4, [.int 0, .int 0, .int 0, .ref q1, .ref q2, .null, .null, .null, .null, .null, .null, .null, .null, .null, .null, .null, .long 0, .int 0, .int 0])), (q1, .inl (cy 2, 60, .inl (fun _ => 0))), (q2, .inl (cy 0, 60, .inl (fun _ => 0))), (q3, .inl (cy 0, 60, .inl (fun _ => 0)))]) rfl ?_
  refine cg_putF (ws' := [(A0, .inr (4, [.int 0, .int 0, .int 0, .ref q1, .ref q2, .ref q3, .null, .null, .null, .null, .null, .null, .null, .null, .null, .null, .long 0, .int 0, .int 0])), (q1, .inl (cy 2, 60, .inl (fun _ => 0))), (q2, .inl (cy 0, 60, .inl (fun _ => 0))), (q3, .inl (cy 0, 60, .inl (fun _ => 0)))]) C 0 5 t_M d_M_init_25 rfl rfl hin_M tt_M n_M (by decide) rfl tw_556 hin rfl rfl (Nat.le_of_ble_eq_true rfl) rfl ?_
  refine cg_aload_n C d_M_init_28 0 rfl ?_
  refine cg_bipush (v := 60) C d_M_init_29 (by decide) ?_
  refine cg_newJ C hA 60 d_M_init_31 tw_63 (by decide) (by decide) (by decide) ⟨by decide, by decide⟩ (fun q4 => ?_)
  refine cg_ws (ws' := [(A0, .inr (4, [.int 0, .int 0, .int 0, .ref q1, .ref q2, .ref q3, .null, .null, .null, .null, .null, .null, .null, .null, .null, .null, .long 0, .int 0, .int 0])), (q1, .inl (cy 2, 60, .inl (fun _ => 0))), (q2, .inl (cy 0, 60, .inl (fun _ => 0))), (q3, .inl (cy 0, 60, .inl (fun _ => 0))), (q4, .inl (cy 1, 60, .inr (.inl (fun _ => 0))))]) rfl ?_
  refine cg_putF (ws' := [(A0, .inr (4, [.int 0, .int 0, .int 0, .ref q1, .ref q2, .ref q3, .ref q4, .null, .null, .null, .null, .null, .null, .null, .null, .null, .long 0, .int 0, .int 0])), (q1, .inl (cy 2, 60, .inl (fun _ => 0))), (q2, .inl (cy 0, 60, .inl (fun _ => 0))), (q3, .inl (cy 0, 60, .inl (fun _ => 0))), (q4, .inl (cy 1, 60, .inr (.inl (fun _ => 0))))]) C 0 6 t_M d_M_init_33 rfl rfl hin_M tt_M n_M (by decide) rfl tw_557 hin rfl rfl (Nat.le_of_ble_eq_true rfl) rfl ?_
  refine cg_aload_n C d_M_init_36 0 rfl ?_
  refine cg_bipush (v := 60) C d_M_init_37 (by decide) ?_
  refine cg_newJ C hA 60 d_M_init_39 tw_63 (by decide) (by decide) (by decide) ⟨by decide, by decide⟩ (fun q5 => ?_)
  refine cg_ws (ws' := [(A0, .inr (4, [.int 0, .int 0, .int 0, .ref q1, .ref q2, .ref q3, .ref q4, .null, .null, .null, .null, .null, .null, .null, .null, .null, .long 0, .int 0, .int 0])), (q1, .inl (cy 2, 60, .inl (fun _ => 0))), (q2, .inl (cy 0, 60, .inl (fun _ => 0))), (q3, .inl (cy 0, 60, .inl (fun _ => 0))), (q4, .inl (cy 1, 60, .inr (.inl (fun _ => 0)))), (q5, .inl (cy 1, 60, .inr (.inl (fun _ => 0))))]) rfl ?_
  refine cg_putF (ws' := [(A0, .inr (4, [.int 0, .int 0, .int 0, .ref q1, .ref q2, .ref q3, .ref q4, .ref q5, .null, .null, .null, .null, .null, .null, .null, .null, .long 0, .int 0, .int 0])), (q1, .inl (cy 2, 60, .inl (fun _ => 0))), (q2, .inl (cy 0, 60, .inl (fun _ => 0))), (q3, .inl (cy 0, 60, .inl (fun _ => 0))), (q4, .inl (cy 1, 60, .inr (.inl (fun _ => 0)))), (q5, .inl (cy 1, 60, .inr (.inl (fun _ => 0))))]) C 0 7 t_M d_M_init_41 rfl rfl hin_M tt_M n_M (by decide) rfl tw_558 hin rfl rfl (Nat.le_of_ble_eq_true rfl) rfl ?_
  refine cg_aload_n C d_M_init_44 0 rfl ?_
  refine cg_bipush (v := 60) C d_M_init_45 (by decide) ?_
  refine cg_newJ C hA 60 d_M_init_47 tw_63 (by decide) (by decide) (by decide) ⟨by decide, by decide⟩ (fun q6 => ?_)
  refine cg_ws (ws' := [(A0, .inr (4, [.int 0, .int 0, .int 0, .ref q1, .ref q2, .ref q3, .ref q4, .ref q5, .null, .null, .null, .null, .null, .null, .null, .null, .long 0, .int 0, .int 0])), (q1, .inl (cy 2, 60, .inl (fun _ => 0))), (q2, .inl (cy 0, 60, .inl (fun _ => 0))), (q3, .inl (cy 0, 60, .inl (fun _ => 0))), (q4, .inl (cy 1, 60, .inr (.inl (fun _ => 0)))), (q5, .inl (cy 1, 60, .inr (.inl (fun _ => 0)))), (q6, .inl (cy 1, 60, .inr (.inl (fun _ => 0))))]) rfl ?_
  refine cg_putF (ws' := [(A0, .inr (4, [.int 0, .int 0, .int 0, .ref q1, .ref q2, .ref q3, .ref q4, .ref q5, .ref q6, .null, .null, .null, .null, .null, .null, .null, .long 0, .int 0, .int 0])), (q1, .inl (cy 2, 60, .inl (fun _ => 0))), (q2, .inl (cy 0, 60, .inl (fun _ => 0))), (q3, .inl (cy 0, 60, .inl (fun _ => 0))), (q4, .inl (cy 1, 60, .inr (.inl (fun _ => 0)))), (q5, .inl (cy 1, 60, .inr (.inl (fun _ => 0)))), (q6, .inl (cy 1, 60, .inr (.inl (fun _ => 0))))]) C 0 8 t_M d_M_init_49 rfl rfl hin_M tt_M n_M (by decide) rfl tw_559 hin rfl rfl (Nat.le_of_ble_eq_true rfl) rfl ?_
  refine cg_aload_n C d_M_init_52 0 rfl ?_
  refine cg_bipush (v := 60) C d_M_init_53 (by decide) ?_
  refine cg_newJ C hA 60 d_M_init_55 tw_63 (by decide) (by decide) (by decide) ⟨by decide, by decide⟩ (fun q7 => ?_)
  refine cg_ws (ws' := [(A0, .inr (4, [.int 0, .int 0, .int 0, .ref q1, .ref q2, .ref q3, .ref q4, .ref q5, .ref q6, .null, .null, .null, .null, .null, .null, .null, .long 0, .int 0, .int 0])), (q1, .inl (cy 2, 60, .inl (fun _ => 0))), (q2, .inl (cy 0, 60, .inl (fun _ => 0))), (q3, .inl (cy 0, 60, .inl (fun _ => 0))), (q4, .inl (cy 1, 60, .inr (.inl (fun _ => 0)))), (q5, .inl (cy 1, 60, .inr (.inl (fun _ => 0)))), (q6, .inl (cy 1, 60, .inr (.inl (fun _ => 0)))), (q7, .inl (cy 1, 60, .inr (.inl (fun _ => 0))))]) rfl ?_
  refine cg_putF (ws' := [(A0, .inr (4, [.int 0, .int 0, .int 0, .ref q1, .ref q2, .ref q3, .ref q4, .ref q5, .ref q6, .ref q7, .null, .null, .null, .null, .null, .null, .long 0, .int 0, .int 0])), (q1, .inl (cy 2, 60, .inl (fun _ => 0))), (q2, .inl (cy 0, 60, .inl (fun _ => 0))), (q3, .inl (cy 0, 60, .inl (fun _ => 0))), (q4, .inl (cy 1, 60, .inr (.inl (fun _ => 0)))), (q5, .inl (cy 1, 60, .inr (.inl (fun _ => 0)))), (q6, .inl (cy 1, 60, .inr (.inl (fun _ => 0)))), (q7, .inl (cy 1, 60, .inr (.inl (fun _ => 0))))]) C 0 9 t_M d_M_init_57 rfl rfl hin_M tt_M n_M (by decide) rfl tw_560 hin rfl rfl (Nat.le_of_ble_eq_true rfl) rfl ?_
  refine cg_aload_n C d_M_init_60 0 rfl ?_
  refine cg_bipush (v := 60) C d_M_init_61 (by decide) ?_
  refine cg_newJ C hA 60 d_M_init_63 tw_63 (by decide) (by decide) (by decide) ⟨by decide, by decide⟩ (fun q8 => ?_)
  refine cg_ws (ws' := [(A0, .inr (4, [.int 0, .int 0, .int 0, .ref q1, .ref q2, .ref q3, .ref q4, .ref q5, .ref q6, .ref q7, .null, .null, .null, .null, .null, .null, .long 0, .int 0, .int 0])), (q1, .inl (cy 2, 60, .inl (fun _ => 0))), (q2, .inl (cy 0, 60, .inl (fun _ => 0))), (q3, .inl (cy 0, 60, .inl (fun _ => 0))), (q4, .inl (cy 1, 60, .inr (.inl (fun _ => 0)))), (q5, .inl (cy 1, 60, .inr (.inl (fun _ => 0)))), (q6, .inl (cy 1, 60, .inr (.inl (fun _ => 0)))), (q7, .inl (cy 1, 60, .inr (.inl (fun _ => 0)))), (q8, .inl (cy 1, 60, .inr (.inl (fun _ => 0))))]) rfl ?_
  refine cg_putF (ws' := [(A0, .inr (4, [.int 0, .int 0, .int 0, .ref q1, .ref q2, .ref q3, .ref q4, .ref q5, .ref q6, .ref q7, .ref q8, .null, .null, .null, .null, .null, .long 0, .int 0, .int 0])), (q1, .inl (cy 2, 60, .inl (fun _ => 0))), (q2, .inl (cy 0, 60, .inl (fun _ => 0))), (q3, .inl (cy 0, 60, .inl (fun _ => 0))), (q4, .inl (cy 1, 60, .inr (.inl (fun _ => 0)))), (q5, .inl (cy 1, 60, .inr (.inl (fun _ => 0)))), (q6, .inl (cy 1, 60, .inr (.inl (fun _ => 0)))), (q7, .inl (cy 1, 60, .inr (.inl (fun _ => 0)))), (q8, .inl (cy 1, 60, .inr (.inl (fun _ => 0))))]) C 0 10 t_M d_M_init_65 rfl rfl hin_M tt_M n_M (by decide) rfl tw_561 hin rfl rfl (Nat.le_of_ble_eq_true rfl) rfl ?_
  refine cg_aload_n C d_M_init_68 0 rfl ?_
  refine cg_bipush (v := 60) C d_M_init_69 (by decide) ?_
  refine cg_newI C hA 60 d_M_init_71 tw_61 (by decide) (by decide) (by decide) ⟨by decide, by decide⟩ (fun q9 => ?_)
  refine cg_ws (ws' := [(A0, .inr (4, [.int 0, .int 0, .int 0, .ref q1, .ref q2, .ref q3, .ref q4, .ref q5, .ref q6, .ref q7, .ref q8, .null, .null, .null, .null, .null, .long 0, .int 0, .int 0])), (q1, .inl (cy 2, 60, .inl (fun _ => 0))), (q2, .inl (cy 0, 60, .inl (fun _ => 0))), (q3, .inl (cy 0, 60, .inl (fun _ => 0))), (q4, .inl (cy 1, 60, .inr (.inl (fun _ => 0)))), (q5, .inl (cy 1, 60, .inr (.inl (fun _ => 0)))), (q6, .inl (cy 1, 60, .inr (.inl (fun _ => 0)))), (q7, .inl (cy 1, 60, .inr (.inl (fun _ => 0)))), (q8, .inl (cy 1, 60, .inr (.inl (fun _ => 0)))), (q9, .inl (cy 0, 60, .inl (fun _ => 0)))]) rfl ?_
  refine cg_putF (ws' := [(A0, .inr (4, [.int 0, .int 0, .int 0, .ref q1, .ref q2, .ref q3, .ref q4, .ref q5, .ref q6, .ref q7, .ref q8, .ref q9, .null, .null, .null, .null, .long 0, .int 0, .int 0])), (q1, .inl (cy 2, 60, .inl (fun _ => 0))), (q2, .inl (cy 0, 60, .inl (fun _ => 0))), (q3, .inl (cy 0, 60, .inl (fun _ => 0))), (q4, .inl (cy 1, 60, .inr (.inl (fun _ => 0)))), (q5, .inl (cy 1, 60, .inr (.inl (fun _ => 0)))), (q6, .inl (cy 1, 60, .inr (.inl (fun _ => 0)))), (q7, .inl (cy 1, 60, .inr (.inl (fun _ => 0)))), (q8, .inl (cy 1, 60, .inr (.inl (fun _ => 0)))), (q9, .inl (cy 0, 60, .inl (fun _ => 0)))]) C 0 11 t_M d_M_init_73 rfl rfl hin_M tt_M n_M (by decide) rfl tw_562 hin rfl rfl (Nat.le_of_ble_eq_true rfl) rfl ?_
  refine cg_aload_n C d_M_init_76 0 rfl ?_
  refine cg_bipush (v := 40) C d_M_init_77 (by decide) ?_
  refine cg_newI C hA 40 d_M_init_79 tw_61 (by decide) (by decide) (by decide) ⟨by decide, by decide⟩ (fun q10 => ?_)
  refine cg_ws (ws' := [(A0, .inr (4, [.int 0, .int 0, .int 0, .ref q1, .ref q2, .ref q3, .ref q4, .ref q5, .ref q6, .ref q7, .ref q8, .ref q9, .null, .null, .null, .null, .long 0, .int 0, .int 0])), (q1, .inl (cy 2, 60, .inl (fun _ => 0))), (q2, .inl (cy 0, 60, .inl (fun _ => 0))), (q3, .inl (cy 0, 60, .inl (fun _ => 0))), (q4, .inl (cy 1, 60, .inr (.inl (fun _ => 0)))), (q5, .inl (cy 1, 60, .inr (.inl (fun _ => 0)))), (q6, .inl (cy 1, 60, .inr (.inl (fun _ => 0)))), (q7, .inl (cy 1, 60, .inr (.inl (fun _ => 0)))), (q8, .inl (cy 1, 60, .inr (.inl (fun _ => 0)))), (q9, .inl (cy 0, 60, .inl (fun _ => 0))), (q10, .inl (cy 0, 40, .inl (fun _ => 0)))]) rfl ?_
  refine cg_putF (ws' := [(A0, .inr (4, [.int 0, .int 0, .int 0, .ref q1, .ref q2, .ref q3, .ref q4, .ref q5, .ref q6, .ref q7, .ref q8, .ref q9, .ref q10, .null, .null, .null, .long 0, .int 0, .int 0])), (q1, .inl (cy 2, 60, .inl (fun _ => 0))), (q2, .inl (cy 0, 60, .inl (fun _ => 0))), (q3, .inl (cy 0, 60, .inl (fun _ => 0))), (q4, .inl (cy 1, 60, .inr (.inl (fun _ => 0)))), (q5, .inl (cy 1, 60, .inr (.inl (fun _ => 0)))), (q6, .inl (cy 1, 60, .inr (.inl (fun _ => 0)))), (q7, .inl (cy 1, 60, .inr (.inl (fun _ => 0)))), (q8, .inl (cy 1, 60, .inr (.inl (fun _ => 0)))), (q9, .inl (cy 0, 60, .inl (fun _ => 0))), (q10, .inl (cy 0, 40, .inl (fun _ => 0)))]) C 0 12 t_M d_M_init_81 rfl rfl hin_M tt_M n_M (by decide) rfl tw_563 hin rfl rfl (Nat.le_of_ble_eq_true rfl) rfl ?_
  refine cg_aload_n C d_M_init_84 0 rfl ?_
  refine cg_bipush (v := 60) C d_M_init_85 (by decide) ?_
  refine cg_newI C hA 60 d_M_init_87 tw_61 (by decide) (by decide) (by decide) ⟨by decide, by decide⟩ (fun q11 => ?_)
  refine cg_ws (ws' := [(A0, .inr (4, [.int 0, .int 0, .int 0, .ref q1, .ref q2, .ref q3, .ref q4, .ref q5, .ref q6, .ref q7, .ref q8, .ref q9, .ref q10, .null, .null, .null, .long 0, .int 0, .int 0])), (q1, .inl (cy 2, 60, .inl (fun _ => 0))), (q2, .inl (cy 0, 60, .inl (fun _ => 0))), (q3, .inl (cy 0, 60, .inl (fun _ => 0))), (q4, .inl (cy 1, 60, .inr (.inl (fun _ => 0)))), (q5, .inl (cy 1, 60, .inr (.inl (fun _ => 0)))), (q6, .inl (cy 1, 60, .inr (.inl (fun _ => 0)))), (q7, .inl (cy 1, 60, .inr (.inl (fun _ => 0)))), (q8, .inl (cy 1, 60, .inr (.inl (fun _ => 0)))), (q9, .inl (cy 0, 60, .inl (fun _ => 0))), (q10, .inl (cy 0, 40, .inl (fun _ => 0))), (q11, .inl (cy 0, 60, .inl (fun _ => 0)))]) rfl ?_
  refine cg_putF (ws' := [(A0, .inr (4, [.int 0, .int 0, .int 0, .ref q1, .ref q2, .ref q3, .ref q4, .ref q5, .ref q6, .ref q7, .ref q8, .ref q9, .ref q10, .ref q11, .null, .null, .long 0, .int 0, .int 0])), (q1, .inl (cy 2, 60, .inl (fun _ => 0))), (q2, .inl (cy 0, 60, .inl (fun _ => 0))), (q3, .inl (cy 0, 60, .inl (fun _ => 0))), (q4, .inl (cy 1, 60, .inr (.inl (fun _ => 0)))), (q5, .inl (cy 1, 60, .inr (.inl (fun _ => 0)))), (q6, .inl (cy 1, 60, .inr (.inl (fun _ => 0)))), (q7, .inl (cy 1, 60, .inr (.inl (fun _ => 0)))), (q8, .inl (cy 1, 60, .inr (.inl (fun _ => 0)))), (q9, .inl (cy 0, 60, .inl (fun _ => 0))), (q10, .inl (cy 0, 40, .inl (fun _ => 0))), (q11, .inl (cy 0, 60, .inl (fun _ => 0)))]) C 0 13 t_M d_M_init_89 rfl rfl hin_M tt_M n_M (by decide) rfl tw_564 hin rfl rfl (Nat.le_of_ble_eq_true rfl) rfl ?_
  refine cg_aload_n C d_M_init_92 0 rfl ?_
  refine cg_bipush (v := 60) C d_M_init_93 (by decide) ?_
  refine cg_newI C hA 60 d_M_init_95 tw_61 (by decide) (by decide) (by decide) ⟨by decide, by decide⟩ (fun q12 => ?_)
  refine cg_ws (ws' := [(A0, .inr (4, [.int 0, .int 0, .int 0, .ref q1, .ref q2, .ref q3, .ref q4, .ref q5, .ref q6, .ref q7, .ref q8, .ref q9, .ref q10, .ref q11, .null, .null, .long 0, .int 0, .int 0])), (q1, .inl (cy 2, 60, .inl (fun _ => 0))), (q2, .inl (cy 0, 60, .inl (fun _ => 0))), (q3, .inl (cy 0, 60, .inl (fun _ => 0))), (q4, .inl (cy 1, 60, .inr (.inl (fun _ => 0)))), (q5, .inl (cy 1, 60, .inr (.inl (fun _ => 0)))), (q6, .inl (cy 1, 60, .inr (.inl (fun _ => 0)))), (q7, .inl (cy 1, 60, .inr (.inl (fun _ => 0)))), (q8, .inl (cy 1, 60, .inr (.inl (fun _ => 0)))), (q9, .inl (cy 0, 60, .inl (fun _ => 0))), (q10, .inl (cy 0, 40, .inl (fun _ => 0))), (q11, .inl (cy 0, 60, .inl (fun _ => 0))), (q12, .inl (cy 0, 60, .inl (fun _ => 0)))]) rfl ?_
  refine cg_putF (ws' := [(A0, .inr (4, [.int 0, .int 0, .int 0, .ref q1, .ref q2, .ref q3, .ref q4, .ref q5, .ref q6, .ref q7, .ref q8, .ref q9, .ref q10, .ref q11, .ref q12, .null, .long 0, .int 0, .int 0])), (q1, .inl (cy 2, 60, .inl (fun _ => 0))), (q2, .inl (cy 0, 60, .inl (fun _ => 0))), (q3, .inl (cy 0, 60, .inl (fun _ => 0))), (q4, .inl (cy 1, 60, .inr (.inl (fun _ => 0)))), (q5, .inl (cy 1, 60, .inr (.inl (fun _ => 0)))), (q6, .inl (cy 1, 60, .inr (.inl (fun _ => 0)))), (q7, .inl (cy 1, 60, .inr (.inl (fun _ => 0)))), (q8, .inl (cy 1, 60, .inr (.inl (fun _ => 0)))), (q9, .inl (cy 0, 60, .inl (fun _ => 0))), (q10, .inl (cy 0, 40, .inl (fun _ => 0))), (q11, .inl (cy 0, 60, .inl (fun _ => 0))), (q12, .inl (cy 0, 60, .inl (fun _ => 0)))]) C 0 14 t_M d_M_init_97 rfl rfl hin_M tt_M n_M (by decide) rfl tw_565 hin rfl rfl (Nat.le_of_ble_eq_true rfl) rfl ?_
  refine cg_aload_n C d_M_init_100 0 rfl ?_
  refine cg_bipush (v := 60) C d_M_init_101 (by decide) ?_
  refine cg_newI C hA 60 d_M_init_103 tw_61 (by decide) (by decide) (by decide) ⟨by decide, by decide⟩ (fun q13 => ?_)
  refine cg_ws (ws' := [(A0, .inr (4, [.int 0, .int 0, .int 0, .ref q1, .ref q2, .ref q3, .ref q4, .ref q5, .ref q6, .ref q7, .ref q8, .ref q9, .ref q10, .ref q11, .ref q12, .null, .long 0, .int 0, .int 0])), (q1, .inl (cy 2, 60, .inl (fun _ => 0))), (q2, .inl (cy 0, 60, .inl (fun _ => 0))), (q3, .inl (cy 0, 60, .inl (fun _ => 0))), (q4, .inl (cy 1, 60, .inr (.inl (fun _ => 0)))), (q5, .inl (cy 1, 60, .inr (.inl (fun _ => 0)))), (q6, .inl (cy 1, 60, .inr (.inl (fun _ => 0)))), (q7, .inl (cy 1, 60, .inr (.inl (fun _ => 0)))), (q8, .inl (cy 1, 60, .inr (.inl (fun _ => 0)))), (q9, .inl (cy 0, 60, .inl (fun _ => 0))), (q10, .inl (cy 0, 40, .inl (fun _ => 0))), (q11, .inl (cy 0, 60, .inl (fun _ => 0))), (q12, .inl (cy 0, 60, .inl (fun _ => 0))), (q13, .inl (cy 0, 60, .inl (fun _ => 0)))]) rfl ?_
  refine cg_putF (ws' := [(A0, .inr (4, [.int 0, .int 0, .int 0, .ref q1, .ref q2, .ref q3, .ref q4, .ref q5, .ref q6, .ref q7, .ref q8, .ref q9, .ref q10, .ref q11, .ref q12, .ref q13, .long 0, .int 0, .int 0])), (q1, .inl (cy 2, 60, .inl (fun _ => 0))), (q2, .inl (cy 0, 60, .inl (fun _ => 0))), (q3, .inl (cy 0, 60, .inl (fun _ => 0))), (q4, .inl (cy 1, 60, .inr (.inl (fun _ => 0)))), (q5, .inl (cy 1, 60, .inr (.inl (fun _ => 0)))), (q6, .inl (cy 1, 60, .inr (.inl (fun _ => 0)))), (q7, .inl (cy 1, 60, .inr (.inl (fun _ => 0)))), (q8, .inl (cy 1, 60, .inr (.inl (fun _ => 0)))), (q9, .inl (cy 0, 60, .inl (fun _ => 0))), (q10, .inl (cy 0, 40, .inl (fun _ => 0))), (q11, .inl (cy 0, 60, .inl (fun _ => 0))), (q12, .inl (cy 0, 60, .inl (fun _ => 0))), (q13, .inl (cy 0, 60, .inl (fun _ => 0)))]) C 0 15 t_M d_M_init_105 rfl rfl hin_M tt_M n_M (by decide) rfl tw_566 hin rfl rfl (Nat.le_of_ble_eq_true rfl) rfl ?_
  exact t_M_init_108 C hr hlk hA hin A0 q1 q2 q3 q4 q5 q6 q7 q8 q9 q10 q11 q12 q13 0 0 0 0 0 (fun _ => 0) (fun _ => 0) (fun _ => 0) (fun _ => 0) (fun _ => 0) (fun _ => 0) (fun _ => 0) (fun _ => 0) (fun _ => 0) (fun _ => 0) (fun _ => 0) (fun _ => 0) 0 (fun _ => 0) v1 hF
