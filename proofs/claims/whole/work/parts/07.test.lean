/-! CopperNets$Pieces.isThere(I)Z -/
abbrev r_P_isThere : Room := { frames := 0, cells := 0, slots := 0, locals := 0 }
abbrev w_P_isThere (cy : Nat → ClassId) (A_p : Nat) (A_p_there : Nat) (A_p_from : Nat) (A_p_to : Nat) (A_p_pin : Nat) (A_p_left : Nat) (A_p_low : Nat) (A_p_right : Nat) (A_p_high : Nat) (A_p_rim : Nat) (p_count : Int32) (p_there : Nat → Int32) : va_W := [(A_p, .inr (3, [.int p_count, .ref A_p_there, .ref A_p_from, .ref A_p_to, .ref A_p_pin, .ref A_p_left, .ref A_p_low, .ref A_p_right, .ref A_p_high, .ref A_p_rim])), (A_p_there, .inl (cy 2, 60, .inl p_there))]
theorem hs_P_isThere : y_P_isThere.cls ≠ "java/lang/invoke/MethodHandle" ∧ y_P_isThere.cls ≠ "java/lang/invoke/VarHandle" ∧ (parseMethodDescriptor y_P_isThere.desc).map (fun d => d.parameters.length) = some 1 := by decide +kernel
def F_P_isThere_0 (p_there : Nat → Int32) (v1 : Int32) : Option (Int32) := cn_rd v1 60 (cn_bl (p_there (Int32.toNatClampNeg v1)) (some ((p_there (Int32.toNatClampNeg v1)))))
set_option maxRecDepth 100000 in
set_option maxHeartbeats 4000000 in
theorem t_P_isThere_0 {p : Program} {l : Launch} {e : Env} {s : State} {m : MethodId} {args : Array Value} {below : List Frame} {meth : Method} {c : Code} {D : va_G} {cy : Nat → ClassId} {out : Int32} (C : cn_X p s m args c b_P_isThere 2 "CopperNets$Pieces" D cy) (hr : meth.sig.returnType = some .boolean) (hlk : meth.locks = false) (A_p : Nat) (A_p_there : Nat) (A_p_from : Nat) (A_p_to : Nat) (A_p_pin : Nat) (A_p_left : Nat) (A_p_low : Nat) (A_p_right : Nat) (A_p_high : Nat) (A_p_rim : Nat) (p_count : Int32) (p_there : Nat → Int32) (v1 : Int32) (hF : F_P_isThere_0 p_there v1 = some out) : cg p l e r_P_isThere s m args below meth c D (cn_hi s) (fun _ => True) 2 0 0 (MQ below (cn_QR (some (.int out))) args s 0 0 (fun _ => False)) (w_P_isThere cy A_p A_p_there A_p_from A_p_to A_p_pin A_p_left A_p_low A_p_right A_p_high A_p_rim p_count p_there) 0 [(0, .ref A_p), (1, .int v1)] [] := by
  refine cg_aload_n C d_P_isThere_0 0 rfl ?_
  refine cg_get C 0 1 d_P_isThere_1 rfl rfl hin_P (by decide) rfl tw_31 rfl ?_
  refine cg_iload_n C d_P_isThere_4 1 rfl ?_
  obtain ⟨i_1, hF⟩ := cn_rd_some hF
  refine cg_zald C 1 d_P_isThere_5 rfl i_1 ?_
  obtain ⟨hz, hF⟩ := cn_bl_some hF
  obtain rfl := Option.some.inj hF
  exact cg_zretR C hr hz hlk d_P_isThere_6
abbrev F_P_isThere (p_there : Nat → Int32) (v1 : Int32) : Option (Int32) := F_P_isThere_0 p_there v1
theorem c_P_isThere {l : Launch} {D : va_G} {cy : Nat → ClassId} (A_p : Nat) (A_p_there : Nat) (A_p_from : Nat) (A_p_to : Nat) (A_p_pin : Nat) (A_p_left : Nat) (A_p_low : Nat) (A_p_right : Nat) (A_p_high : Nat) (A_p_rim : Nat) (p_count : Int32) (p_there : Nat → Int32) (v1 : Int32) {out : Int32} (hF : F_P_isThere p_there v1 = some out) : cn_MR l y_P_isThere b_P_isThere 2 (some .boolean) r_P_isThere D cy [.ref A_p, .int v1] (w_P_isThere cy A_p A_p_there A_p_from A_p_to A_p_pin A_p_left A_p_low A_p_right A_p_high A_p_rim p_count p_there) (some (.int out)) :=
  cn_MR.of (by decide) (Nat.le_of_ble_eq_true rfl) (fun p e s m below meth c C hr hlk => t_P_isThere_0 C hr hlk A_p A_p_there A_p_from A_p_to A_p_pin A_p_left A_p_low A_p_right A_p_high A_p_rim p_count p_there v1 hF)
/-! CopperNets$Pieces.gap(JJJJ)J -/
abbrev r_P_gap : Room := { frames := 0, cells := 0, slots := 0, locals := 0 }
abbrev w_P_gap (cy : Nat → ClassId) : va_W := []
theorem hs_P_gap : y_P_gap.cls ≠ "java/lang/invoke/MethodHandle" ∧ y_P_gap.cls ≠ "java/lang/invoke/VarHandle" ∧ (parseMethodDescriptor y_P_gap.desc).map (fun d => d.parameters.length) = some 4 := by decide +kernel
def F_P_gap_27 (s0 : Int64) : Option (Int64) := some (s0)
set_option maxRecDepth 100000 in
set_option maxHeartbeats 4000000 in
theorem t_P_gap_27 {p : Program} {l : Launch} {e : Env} {s : State} {m : MethodId} {args : Array Value} {below : List Frame} {meth : Method} {c : Code} {D : va_G} {cy : Nat → ClassId} {out : Int64} (C : cn_X p s m args c b_P_gap 8 "CopperNets$Pieces" D cy) (hr : meth.sig.returnType = some .long) (hlk : meth.locks = false) (s0 : Int64) (hF : F_P_gap_27 s0 = some out) : cg p l e r_P_gap s m args below meth c D (cn_hi s) (fun _ => True) 8 0 0 (MQ below (cn_QR (some (.long out))) args s 0 0 (fun _ => False)) (w_P_gap cy) 27 [] [.long s0] := by
  obtain rfl := Option.some.inj hF
  exact cg_lretR C hr hlk d_P_gap_27
def F_P_gap_0 (v0 : Int64) (v2 : Int64) (v4 : Int64) (v6 : Int64) : Option (Int64) := if (lg_cmp v4 v2) ≤ 0 then (if (lg_cmp v0 v6) ≤ 0 then (F_P_gap_27 0) else (F_P_gap_27 (v0 - v6))) else (some ((v4 - v2)))
set_option maxRecDepth 100000 in
set_option maxHeartbeats 4000000 in
theorem t_P_gap_0 {p : Program} {l : Launch} {e : Env} {s : State} {m : MethodId} {args : Array Value} {below : List Frame} {meth : Method} {c : Code} {D : va_G} {cy : Nat → ClassId} {out : Int64} (C : cn_X p s m args c b_P_gap 8 "CopperNets$Pieces" D cy) (hr : meth.sig.returnType = some .long) (hlk : meth.locks = false) (v0 : Int64) (v2 : Int64) (v4 : Int64) (v6 : Int64) (hF : F_P_gap_0 v0 v2 v4 v6 = some out) : cg p l e r_P_gap s m args below meth c D (cn_hi s) (fun _ => True) 8 0 0 (MQ below (cn_QR (some (.long out))) args s 0 0 (fun _ => False)) (w_P_gap cy) 0 [(0, .long v0), (2, .long v2), (4, .long v4), (6, .long v6)] [] := by
  refine cg_lload C d_P_gap_0 2 rfl ?_
  refine cg_lload_n C d_P_gap_2 1 rfl ?_
  refine cg_lcmp C d_P_gap_3 ?_
  refine cg_if_le C 12 d_P_gap_4 (by decide) (fun q_1 => ?_) (fun q_1 => ?_)
  · have hF := cn_pos q_1 hF
    refine cg_lload_n C d_P_gap_12 0 rfl ?_
    refine cg_lload C d_P_gap_13 3 rfl ?_
    refine cg_lcmp C d_P_gap_15 ?_
    refine cg_if_le C 26 d_P_gap_16 (by decide) (fun q_2 => ?_) (fun q_2 => ?_)
    · have hF := cn_pos q_2 hF
      refine cg_lconst (v := 0) C d_P_gap_26 (by decide) ?_
      refine cg_sub (lv' := []) [] rfl ?_
      exact t_P_gap_27 C hr hlk 0 hF
    · have hF := cn_neg q_2 hF
      refine cg_lload_n C d_P_gap_19 0 rfl ?_
      refine cg_lload C d_P_gap_20 3 rfl ?_
      refine cg_lsub C d_P_gap_22 ?_
      refine cg_goto C 27 d_P_gap_23 (by decide) ?_
      refine cg_sub (lv' := []) [] rfl ?_
      exact t_P_gap_27 C hr hlk (v0 - v6) hF
  · have hF := cn_neg q_1 hF
    refine cg_lload C d_P_gap_7 2 rfl ?_
    refine cg_lload_n C d_P_gap_9 1 rfl ?_
    refine cg_lsub C d_P_gap_10 ?_
    obtain rfl := Option.some.inj hF
    exact cg_lretR C hr hlk d_P_gap_11
abbrev F_P_gap (v0 : Int64) (v2 : Int64) (v4 : Int64) (v6 : Int64) : Option (Int64) := F_P_gap_0 v0 v2 v4 v6
theorem c_P_gap {l : Launch} {D : va_G} {cy : Nat → ClassId} (v0 : Int64) (v2 : Int64) (v4 : Int64) (v6 : Int64) {out : Int64} (hF : F_P_gap v0 v2 v4 v6 = some out) : cn_MR l y_P_gap b_P_gap 8 (some .long) r_P_gap D cy [.long v0, .long v2, .long v4, .long v6] (w_P_gap cy) (some (.long out)) :=
  cn_MR.of (by decide) (Nat.le_of_ble_eq_true rfl) (fun p e s m below meth c C hr hlk => t_P_gap_0 C hr hlk v0 v2 v4 v6 hF)
/-! CopperNets$Pieces.square(II)J -/
abbrev r_P_square : Room := { frames := 1, cells := 0, slots := 0, locals := 27 }
abbrev w_P_square (cy : Nat → ClassId) (A_p : Nat) (A_p_there : Nat) (A_p_from : Nat) (A_p_to : Nat) (A_p_pin : Nat) (A_p_left : Nat) (A_p_low : Nat) (A_p_right : Nat) (A_p_high : Nat) (A_p_rim : Nat) (p_count : Int32) (p_left : Nat → Int64) (p_low : Nat → Int64) (p_right : Nat → Int64) (p_high : Nat → Int64) : va_W := [(A_p, .inr (3, [.int p_count, .ref A_p_there, .ref A_p_from, .ref A_p_to, .ref A_p_pin, .ref A_p_left, .ref A_p_low, .ref A_p_right, .ref A_p_high, .ref A_p_rim])), (A_p_left, .inl (cy 1, 60, .inr (.inl p_left))), (A_p_low, .inl (cy 1, 60, .inr (.inl p_low))), (A_p_right, .inl (cy 1, 60, .inr (.inl p_right))), (A_p_high, .inl (cy 1, 60, .inr (.inl p_high)))]
theorem hs_P_square : y_P_square.cls ≠ "java/lang/invoke/MethodHandle" ∧ y_P_square.cls ≠ "java/lang/invoke/VarHandle" ∧ (parseMethodDescriptor y_P_square.desc).map (fun d => d.parameters.length) = some 2 := by decide +kernel
def F_P_square_0 (p_left : Nat → Int64) (p_low : Nat → Int64) (p_right : Nat → Int64) (p_high : Nat → Int64) (v1 : Int32) (v2 : Int32) : Option (Int64) := cn_rd v1 60 (cn_rd v1 60 (cn_rd v2 60 (cn_rd v2 60 ((F_P_gap (p_left (Int32.toNatClampNeg v1)) (p_right (Int32.toNatClampNeg v1)) (p_left (Int32.toNatClampNeg v2)) (p_right (Int32.toNatClampNeg v2))).bind fun t_6 => cn_rd v1 60 (cn_rd v1 60 (cn_rd v2 60 (cn_rd v2 60 ((F_P_gap (p_low (Int32.toNatClampNeg v1)) (p_high (Int32.toNatClampNeg v1)) (p_low (Int32.toNatClampNeg v2)) (p_high (Int32.toNatClampNeg v2))).bind fun t_12 => some (((t_6 * t_6) + (t_12 * t_12)))))))))))
set_option maxRecDepth 100000 in
set_option maxHeartbeats 4000000 in
theorem t_P_square_0 {p : Program} {l : Launch} {e : Env} {s : State} {m : MethodId} {args : Array Value} {below : List Frame} {meth : Method} {c : Code} {D : va_G} {cy : Nat → ClassId} {out : Int64} (C : cn_X p s m args c b_P_square 7 "CopperNets$Pieces" D cy) (hr : meth.sig.returnType = some .long) (hlk : meth.locks = false) (A_p : Nat) (A_p_there : Nat) (A_p_from : Nat) (A_p_to : Nat) (A_p_pin : Nat) (A_p_left : Nat) (A_p_low : Nat) (A_p_right : Nat) (A_p_high : Nat) (A_p_rim : Nat) (p_count : Int32) (p_left : Nat → Int64) (p_low : Nat → Int64) (p_right : Nat → Int64) (p_high : Nat → Int64) (v1 : Int32) (v2 : Int32) (hF : F_P_square_0 p_left p_low p_right p_high v1 v2 = some out) : cg p l e r_P_square s m args below meth c D (cn_hi s) (fun _ => True) 7 0 0 (MQ below (cn_QR (some (.long out))) args s 0 0 (fun _ => False)) (w_P_square cy A_p A_p_there A_p_from A_p_to A_p_pin A_p_left A_p_low A_p_right A_p_high A_p_rim p_count p_left p_low p_right p_high) 0 [(0, .ref A_p), (1, .int v1), (2, .int v2)] [] := by
  refine cg_aload_n C d_P_square_0 0 rfl ?_
  refine cg_get C 0 5 d_P_square_1 rfl rfl hin_P (by decide) rfl tw_35 rfl ?_
  refine cg_iload_n C d_P_square_4 1 rfl ?_
  obtain ⟨i_1, hF⟩ := cn_rd_some hF
  refine cg_lald C 1 d_P_square_5 rfl i_1 ?_
  refine cg_aload_n C d_P_square_6 0 rfl ?_
  refine cg_get C 0 7 d_P_square_7 rfl rfl hin_P (by decide) rfl tw_37 rfl ?_
  refine cg_iload_n C d_P_square_10 1 rfl ?_
  obtain ⟨i_2, hF⟩ := cn_rd_some hF
  refine cg_lald C 3 d_P_square_11 rfl i_2 ?_
  refine cg_aload_n C d_P_square_12 0 rfl ?_
  refine cg_get C 0 5 d_P_square_13 rfl rfl hin_P (by decide) rfl tw_35 rfl ?_
  refine cg_iload_n C d_P_square_16 2 rfl ?_
  obtain ⟨i_3, hF⟩ := cn_rd_some hF
  refine cg_lald C 1 d_P_square_17 rfl i_3 ?_
  refine cg_aload_n C d_P_square_18 0 rfl ?_
  refine cg_get C 0 7 d_P_square_19 rfl rfl hin_P (by decide) rfl tw_37 rfl ?_
  refine cg_iload_n C d_P_square_22 2 rfl ?_
  obtain ⟨i_4, hF⟩ := cn_rd_some hF
  refine cg_lald C 3 d_P_square_23 rfl i_4 ?_
  obtain ⟨t_6, h_5, hF⟩ := cn_bind hF
  refine cg_callRS C (c_P_gap (p_left (Int32.toNatClampNeg v1)) (p_right (Int32.toNatClampNeg v1)) (p_left (Int32.toNatClampNeg v2)) (p_right (Int32.toNatClampNeg v2)) h_5) [] rfl (by decide) d_P_square_24 tw_214 tw_215 tw_2 tw_216 hs_P_gap ⟨by decide, by decide⟩ rfl rfl ⟨by decide, by decide⟩ (Nat.le_of_ble_eq_true rfl) rfl rfl ?_
  refine cg_lstore_n (lv' := [(3, .long t_6), (0, .ref A_p), (1, .int v1), (2, .int v2)]) C d_P_square_27 (by decide) rfl ?_
  refine cg_aload_n C d_P_square_28 1 rfl ?_
  refine cg_get C 0 6 d_P_square_29 rfl rfl hin_P (by decide) rfl tw_36 rfl ?_
  refine cg_iload_n C d_P_square_32 2 rfl ?_
  obtain ⟨i_7, hF⟩ := cn_rd_some hF
  refine cg_lald C 2 d_P_square_33 rfl i_7 ?_
  refine cg_aload_n C d_P_square_34 1 rfl ?_
  refine cg_get C 0 8 d_P_square_35 rfl rfl hin_P (by decide) rfl tw_38 rfl ?_
  refine cg_iload_n C d_P_square_38 2 rfl ?_
  obtain ⟨i_8, hF⟩ := cn_rd_some hF
  refine cg_lald C 4 d_P_square_39 rfl i_8 ?_
  refine cg_aload_n C d_P_square_40 1 rfl ?_
  refine cg_get C 0 6 d_P_square_41 rfl rfl hin_P (by decide) rfl tw_36 rfl ?_
  refine cg_iload_n C d_P_square_44 3 rfl ?_
  obtain ⟨i_9, hF⟩ := cn_rd_some hF
  refine cg_lald C 2 d_P_square_45 rfl i_9 ?_
  refine cg_aload_n C d_P_square_46 1 rfl ?_
  refine cg_get C 0 8 d_P_square_47 rfl rfl hin_P (by decide) rfl tw_38 rfl ?_
  refine cg_iload_n C d_P_square_50 3 rfl ?_
  obtain ⟨i_10, hF⟩ := cn_rd_some hF
  refine cg_lald C 4 d_P_square_51 rfl i_10 ?_
  obtain ⟨t_12, h_11, hF⟩ := cn_bind hF
  refine cg_callRS C (c_P_gap (p_low (Int32.toNatClampNeg v1)) (p_high (Int32.toNatClampNeg v1)) (p_low (Int32.toNatClampNeg v2)) (p_high (Int32.toNatClampNeg v2)) h_11) [] rfl (by decide) d_P_square_52 tw_214 tw_215 tw_2 tw_216 hs_P_gap ⟨by decide, by decide⟩ rfl rfl ⟨by decide, by decide⟩ (Nat.le_of_ble_eq_true rfl) rfl rfl ?_
  refine cg_lstore (lv' := [(5, .long t_12), (3, .long t_6), (0, .ref A_p), (1, .int v1), (2, .int v2)]) C d_P_square_55 (by decide) rfl ?_
  refine cg_lload_n C d_P_square_57 1 rfl ?_
  refine cg_lload_n C d_P_square_58 1 rfl ?_
  refine cg_lmul C d_P_square_59 ?_
  refine cg_lload C d_P_square_60 0 rfl ?_
  refine cg_lload C d_P_square_62 0 rfl ?_
  refine cg_lmul C d_P_square_64 ?_
  refine cg_ladd C d_P_square_65 ?_
  obtain rfl := Option.some.inj hF
  exact cg_lretR C hr hlk d_P_square_66
abbrev F_P_square (p_left : Nat → Int64) (p_low : Nat → Int64) (p_right : Nat → Int64) (p_high : Nat → Int64) (v1 : Int32) (v2 : Int32) : Option (Int64) := F_P_square_0 p_left p_low p_right p_high v1 v2
theorem c_P_square {l : Launch} {D : va_G} {cy : Nat → ClassId} (A_p : Nat) (A_p_there : Nat) (A_p_from : Nat) (A_p_to : Nat) (A_p_pin : Nat) (A_p_left : Nat) (A_p_low : Nat) (A_p_right : Nat) (A_p_high : Nat) (A_p_rim : Nat) (p_count : Int32) (p_left : Nat → Int64) (p_low : Nat → Int64) (p_right : Nat → Int64) (p_high : Nat → Int64) (v1 : Int32) (v2 : Int32) {out : Int64} (hF : F_P_square p_left p_low p_right p_high v1 v2 = some out) : cn_MR l y_P_square b_P_square 7 (some .long) r_P_square D cy [.ref A_p, .int v1, .int v2] (w_P_square cy A_p A_p_there A_p_from A_p_to A_p_pin A_p_left A_p_low A_p_right A_p_high A_p_rim p_count p_left p_low p_right p_high) (some (.long out)) :=
  cn_MR.of (by decide) (Nat.le_of_ble_eq_true rfl) (fun p e s m below meth c C hr hlk => t_P_square_0 C hr hlk A_p A_p_there A_p_from A_p_to A_p_pin A_p_left A_p_low A_p_right A_p_high A_p_rim p_count p_left p_low p_right p_high v1 v2 hF)
/-! CopperNets$Pieces.touch(II)Z -/
abbrev r_P_touch : Room := { frames := 2, cells := 0, slots := 0, locals := 53 }
abbrev w_P_touch (cy : Nat → ClassId) (A_p : Nat) (A_p_there : Nat) (A_p_from : Nat) (A_p_to : Nat) (A_p_pin : Nat) (A_p_left : Nat) (A_p_low : Nat) (A_p_right : Nat) (A_p_high : Nat) (A_p_rim : Nat) (p_count : Int32) (p_from : Nat → Int32) (p_to : Nat → Int32) (p_left : Nat → Int64) (p_low : Nat → Int64) (p_right : Nat → Int64) (p_high : Nat → Int64) (p_rim : Nat → Int64) : va_W := [(A_p, .inr (3, [.int p_count, .ref A_p_there, .ref A_p_from, .ref A_p_to, .ref A_p_pin, .ref A_p_left, .ref A_p_low, .ref A_p_right, .ref A_p_high, .ref A_p_rim])), (A_p_from, .inl (cy 0, 60, .inl p_from)), (A_p_to, .inl (cy 0, 60, .inl p_to)), (A_p_left, .inl (cy 1, 60, .inr (.inl p_left))), (A_p_low, .inl (cy 1, 60, .inr (.inl p_low))), (A_p_right, .inl (cy 1, 60, .inr (.inl p_right))), (A_p_high, .inl (cy 1, 60, .inr (.inl p_high))), (A_p_rim, .inl (cy 1, 60, .inr (.inl p_rim)))]
theorem hs_P_touch : y_P_touch.cls ≠ "java/lang/invoke/MethodHandle" ∧ y_P_touch.cls ≠ "java/lang/invoke/VarHandle" ∧ (parseMethodDescriptor y_P_touch.desc).map (fun d => d.parameters.length) = some 2 := by decide +kernel
def F_P_touch_30 (p_from : Nat → Int32) (p_to : Nat → Int32) (p_left : Nat → Int64) (p_low : Nat → Int64) (p_right : Nat → Int64) (p_high : Nat → Int64) (p_rim : Nat → Int64) : Option (Int32) := some (0)
set_option maxRecDepth 100000 in
set_option maxHeartbeats 4000000 in
theorem t_P_touch_30 {p : Program} {l : Launch} {e : Env} {s : State} {m : MethodId} {args : Array Value} {below : List Frame} {meth : Method} {c : Code} {D : va_G} {cy : Nat → ClassId} {out : Int32} (C : cn_X p s m args c b_P_touch 5 "CopperNets$Pieces" D cy) (hr : meth.sig.returnType = some .boolean) (hlk : meth.locks = false) (A_p : Nat) (A_p_there : Nat) (A_p_from : Nat) (A_p_to : Nat) (A_p_pin : Nat) (A_p_left : Nat) (A_p_low : Nat) (A_p_right : Nat) (A_p_high : Nat) (A_p_rim : Nat) (p_count : Int32) (p_from : Nat → Int32) (p_to : Nat → Int32) (p_left : Nat → Int64) (p_low : Nat → Int64) (p_right : Nat → Int64) (p_high : Nat → Int64) (p_rim : Nat → Int64) (hF : F_P_touch_30 p_from p_to p_left p_low p_right p_high p_rim = some out) : cg p l e r_P_touch s m args below meth c D (cn_hi s) (fun _ => True) 5 0 0 (MQ below (cn_QR (some (.int out))) args s 0 0 (fun _ => False)) (w_P_touch cy A_p A_p_there A_p_from A_p_to A_p_pin A_p_left A_p_low A_p_right A_p_high A_p_rim p_count p_from p_to p_left p_low p_right p_high p_rim) 30 [] [] := by
  refine cg_iconst (v := 0) C d_P_touch_30 (by decide) ?_
  obtain rfl := Option.some.inj hF
  exact cg_zretR C hr rfl hlk d_P_touch_31
def F_P_touch_64 (p_from : Nat → Int32) (p_to : Nat → Int32) (p_left : Nat → Int64) (p_low : Nat → Int64) (p_right : Nat → Int64) (p_high : Nat → Int64) (p_rim : Nat → Int64) (s0 : Int32) : Option (Int32) := cn_bl s0 (some (s0))
set_option maxRecDepth 100000 in
set_option maxHeartbeats 4000000 in
theorem t_P_touch_64 {p : Program} {l : Launch} {e : Env} {s : State} {m : MethodId} {args : Array Value} {below : List Frame} {meth : Method} {c : Code} {D : va_G} {cy : Nat → ClassId} {out : Int32} (C : cn_X p s m args c b_P_touch 5 "CopperNets$Pieces" D cy) (hr : meth.sig.returnType = some .boolean) (hlk : meth.locks = false) (A_p : Nat) (A_p_there : Nat) (A_p_from : Nat) (A_p_to : Nat) (A_p_pin : Nat) (A_p_left : Nat) (A_p_low : Nat) (A_p_right : Nat) (A_p_high : Nat) (A_p_rim : Nat) (p_count : Int32) (p_from : Nat → Int32) (p_to : Nat → Int32) (p_left : Nat → Int64) (p_low : Nat → Int64) (p_right : Nat → Int64) (p_high : Nat → Int64) (p_rim : Nat → Int64) (s0 : Int32) (hF : F_P_touch_64 p_from p_to p_left p_low p_right p_high p_rim s0 = some out) : cg p l e r_P_touch s m args below meth c D (cn_hi s) (fun _ => True) 5 0 0 (MQ below (cn_QR (some (.int out))) args s 0 0 (fun _ => False)) (w_P_touch cy A_p A_p_there A_p_from A_p_to A_p_pin A_p_left A_p_low A_p_right A_p_high A_p_rim p_count p_from p_to p_left p_low p_right p_high p_rim) 64 [] [.int s0] := by
  obtain ⟨hz, hF⟩ := cn_bl_some hF
  obtain rfl := Option.some.inj hF
  exact cg_zretR C hr hz hlk d_P_touch_64
def F_P_touch_0 (p_from : Nat → Int32) (p_to : Nat → Int32) (p_left : Nat → Int64) (p_low : Nat → Int64) (p_right : Nat → Int64) (p_high : Nat → Int64) (p_rim : Nat → Int64) (v1 : Int32) (v2 : Int32) : Option (Int32) := cn_rd v1 60 (cn_rd v2 60 (if (p_to (Int32.toNatClampNeg v2)) < (p_from (Int32.toNatClampNeg v1)) then (F_P_touch_30 p_from p_to p_left p_low p_right p_high p_rim) else (cn_rd v2 60 (cn_rd v1 60 (if (p_from (Int32.toNatClampNeg v2)) ≤ (p_to (Int32.toNatClampNeg v1)) then (cn_rd v1 60 (cn_rd v2 60 ((F_P_square p_left p_low p_right p_high v1 v2).bind fun t_10 => if 0 < (lg_cmp t_10 (((p_rim (Int32.toNatClampNeg v1)) + (p_rim (Int32.toNatClampNeg v2))) * ((p_rim (Int32.toNatClampNeg v1)) + (p_rim (Int32.toNatClampNeg v2))))) then (F_P_touch_64 p_from p_to p_left p_low p_right p_high p_rim 0) else (F_P_touch_64 p_from p_to p_left p_low p_right p_high p_rim 1)))) else (F_P_touch_30 p_from p_to p_left p_low p_right p_high p_rim))))))
set_option maxRecDepth 100000 in
set_option maxHeartbeats 4000000 in
theorem t_P_touch_0 {p : Program} {l : Launch} {e : Env} {s : State} {m : MethodId} {args : Array Value} {below : List Frame} {meth : Method} {c : Code} {D : va_G} {cy : Nat → ClassId} {out : Int32} (C : cn_X p s m args c b_P_touch 5 "CopperNets$Pieces" D cy) (hr : meth.sig.returnType = some .boolean) (hlk : meth.locks = false) (A_p : Nat) (A_p_there : Nat) (A_p_from : Nat) (A_p_to : Nat) (A_p_pin : Nat) (A_p_left : Nat) (A_p_low : Nat) (A_p_right : Nat) (A_p_high : Nat) (A_p_rim : Nat) (p_count : Int32) (p_from : Nat → Int32) (p_to : Nat → Int32) (p_left : Nat → Int64) (p_low : Nat → Int64) (p_right : Nat → Int64) (p_high : Nat → Int64) (p_rim : Nat → Int64) (v1 : Int32) (v2 : Int32) (hF : F_P_touch_0 p_from p_to p_left p_low p_right p_high p_rim v1 v2 = some out) : cg p l e r_P_touch s m args below meth c D (cn_hi s) (fun _ => True) 5 0 0 (MQ below (cn_QR (some (.int out))) args s 0 0 (fun _ => False)) (w_P_touch cy A_p A_p_there A_p_from A_p_to A_p_pin A_p_left A_p_low A_p_right A_p_high A_p_rim p_count p_from p_to p_left p_low p_right p_high p_rim) 0 [(0, .ref A_p), (1, .int v1), (2, .int v2)] [] := by
  refine cg_aload_n C d_P_touch_0 0 rfl ?_
  refine cg_get C 0 2 d_P_touch_1 rfl rfl hin_P (by decide) rfl tw_32 rfl ?_
  refine cg_iload_n C d_P_touch_4 1 rfl ?_
  obtain ⟨i_1, hF⟩ := cn_rd_some hF
  refine cg_iald C 1 d_P_touch_5 rfl i_1 ?_
  refine cg_aload_n C d_P_touch_6 0 rfl ?_
  refine cg_get C 0 3 d_P_touch_7 rfl rfl hin_P (by decide) rfl tw_33 rfl ?_
  refine cg_iload_n C d_P_touch_10 2 rfl ?_
  obtain ⟨i_2, hF⟩ := cn_rd_some hF
  refine cg_iald C 2 d_P_touch_11 rfl i_2 ?_
  refine cg_icmp_gt C 30 d_P_touch_12 (by decide) (fun q_3 => ?_) (fun q_3 => ?_)
  · have hF := cn_pos q_3 hF
    refine cg_sub (lv' := []) [] rfl ?_
    exact t_P_touch_30 C hr hlk A_p A_p_there A_p_from A_p_to A_p_pin A_p_left A_p_low A_p_right A_p_high A_p_rim p_count p_from p_to p_left p_low p_right p_high p_rim hF
  · have hF := cn_neg q_3 hF
    refine cg_aload_n C d_P_touch_15 0 rfl ?_
    refine cg_get C 0 2 d_P_touch_16 rfl rfl hin_P (by decide) rfl tw_32 rfl ?_
    refine cg_iload_n C d_P_touch_19 2 rfl ?_
    obtain ⟨i_4, hF⟩ := cn_rd_some hF
    refine cg_iald C 1 d_P_touch_20 rfl i_4 ?_
    refine cg_aload_n C d_P_touch_21 0 rfl ?_
    refine cg_get C 0 3 d_P_touch_22 rfl rfl hin_P (by decide) rfl tw_33 rfl ?_
    refine cg_iload_n C d_P_touch_25 1 rfl ?_
    obtain ⟨i_5, hF⟩ := cn_rd_some hF
    refine cg_iald C 2 d_P_touch_26 rfl i_5 ?_
    refine cg_icmp_le C 32 d_P_touch_27 (by decide) (fun q_6 => ?_) (fun q_6 => ?_)
    · have hF := cn_pos q_6 hF
      refine cg_aload_n C d_P_touch_32 0 rfl ?_
      refine cg_get C 0 9 d_P_touch_33 rfl rfl hin_P (by decide) rfl tw_39 rfl ?_
      refine cg_iload_n C d_P_touch_36 1 rfl ?_
      obtain ⟨i_7, hF⟩ := cn_rd_some hF
      refine cg_lald C 7 d_P_touch_37 rfl i_7 ?_
      refine cg_aload_n C d_P_touch_38 0 rfl ?_
      refine cg_get C 0 9 d_P_touch_39 rfl rfl hin_P (by decide) rfl tw_39 rfl ?_
      refine cg_iload_n C d_P_touch_42 2 rfl ?_
      obtain ⟨i_8, hF⟩ := cn_rd_some hF
      refine cg_lald C 7 d_P_touch_43 rfl i_8 ?_
      refine cg_ladd C d_P_touch_44 ?_
      refine cg_lstore_n (lv' := [(3, .long ((p_rim (Int32.toNatClampNeg v1)) + (p_rim (Int32.toNatClampNeg v2)))), (0, .ref A_p), (1, .int v1), (2, .int v2)]) C d_P_touch_45 (by decide) rfl ?_
      refine cg_aload_n C d_P_touch_46 1 rfl ?_
      refine cg_iload_n C d_P_touch_47 2 rfl ?_
      refine cg_iload_n C d_P_touch_48 3 rfl ?_
      obtain ⟨t_10, h_9, hF⟩ := cn_bind hF
      refine cg_callRV C (c_P_square A_p A_p_there A_p_from A_p_to A_p_pin A_p_left A_p_low A_p_right A_p_high A_p_rim p_count p_left p_low p_right p_high v1 v2 h_9) [0, 3, 4, 5, 6] rfl (by decide) 0 rfl rfl d_P_touch_49 tw_210 tw_212 ts_13 tw_2 tw_213 hs_P_square ⟨by decide, by decide⟩ rfl rfl ⟨by decide, by decide⟩ (Nat.le_of_ble_eq_true rfl) rfl rfl ?_
      refine cg_lload_n C d_P_touch_52 0 rfl ?_
      refine cg_lload_n C d_P_touch_53 0 rfl ?_
      refine cg_lmul C d_P_touch_54 ?_
      refine cg_lcmp C d_P_touch_55 ?_
      refine cg_if_gt C 63 d_P_touch_56 (by decide) (fun q_11 => ?_) (fun q_11 => ?_)
      · have hF := cn_pos q_11 hF
        refine cg_iconst (v := 0) C d_P_touch_63 (by decide) ?_
        refine cg_sub (lv' := []) [] rfl ?_
        exact t_P_touch_64 C hr hlk A_p A_p_there A_p_from A_p_to A_p_pin A_p_left A_p_low A_p_right A_p_high A_p_rim p_count p_from p_to p_left p_low p_right p_high p_rim 0 hF
      · have hF := cn_neg q_11 hF
        refine cg_iconst (v := 1) C d_P_touch_59 (by decide) ?_
        refine cg_goto C 64 d_P_touch_60 (by decide) ?_
        refine cg_sub (lv' := []) [] rfl ?_
        exact t_P_touch_64 C hr hlk A_p A_p_there A_p_from A_p_to A_p_pin A_p_left A_p_low A_p_right A_p_high A_p_rim p_count p_from p_to p_left p_low p_right p_high p_rim 1 hF
    · have hF := cn_neg q_6 hF
      refine cg_sub (lv' := []) [] rfl ?_
      exact t_P_touch_30 C hr hlk A_p A_p_there A_p_from A_p_to A_p_pin A_p_left A_p_low A_p_right A_p_high A_p_rim p_count p_from p_to p_left p_low p_right p_high p_rim hF
abbrev F_P_touch (p_from : Nat → Int32) (p_to : Nat → Int32) (p_left : Nat → Int64) (p_low : Nat → Int64) (p_right : Nat → Int64) (p_high : Nat → Int64) (p_rim : Nat → Int64) (v1 : Int32) (v2 : Int32) : Option (Int32) := F_P_touch_0 p_from p_to p_left p_low p_right p_high p_rim v1 v2
theorem c_P_touch {l : Launch} {D : va_G} {cy : Nat → ClassId} (A_p : Nat) (A_p_there : Nat) (A_p_from : Nat) (A_p_to : Nat) (A_p_pin : Nat) (A_p_left : Nat) (A_p_low : Nat) (A_p_right : Nat) (A_p_high : Nat) (A_p_rim : Nat) (p_count : Int32) (p_from : Nat → Int32) (p_to : Nat → Int32) (p_left : Nat → Int64) (p_low : Nat → Int64) (p_right : Nat → Int64) (p_high : Nat → Int64) (p_rim : Nat → Int64) (v1 : Int32) (v2 : Int32) {out : Int32} (hF : F_P_touch p_from p_to p_left p_low p_right p_high p_rim v1 v2 = some out) : cn_MR l y_P_touch b_P_touch 5 (some .boolean) r_P_touch D cy [.ref A_p, .int v1, .int v2] (w_P_touch cy A_p A_p_there A_p_from A_p_to A_p_pin A_p_left A_p_low A_p_right A_p_high A_p_rim p_count p_from p_to p_left p_low p_right p_high p_rim) (some (.int out)) :=
  cn_MR.of (by decide) (Nat.le_of_ble_eq_true rfl) (fun p e s m below meth c C hr hlk => t_P_touch_0 C hr hlk A_p A_p_there A_p_from A_p_to A_p_pin A_p_left A_p_low A_p_right A_p_high A_p_rim p_count p_from p_to p_left p_low p_right p_high p_rim v1 v2 hF)
/-! CopperNets$Groups.has(I)Z -/
abbrev r_G_has : Room := { frames := 0, cells := 0, slots := 0, locals := 0 }
abbrev w_G_has (cy : Nat → ClassId) (A_g : Nat) (A_g_leader : Nat) (g_leader : Nat → Int32) : va_W := [(A_g, .inr (2, [.ref A_g_leader])), (A_g_leader, .inl (cy 0, 60, .inl g_leader))]
theorem hs_G_has : y_G_has.cls ≠ "java/lang/invoke/MethodHandle" ∧ y_G_has.cls ≠ "java/lang/invoke/VarHandle" ∧ (parseMethodDescriptor y_G_has.desc).map (fun d => d.parameters.length) = some 1 := by decide +kernel
def F_G_has_15 (g_leader : Nat → Int32) (s0 : Int32) : Option (Int32) := cn_bl s0 (some (s0))
set_option maxRecDepth 100000 in
set_option maxHeartbeats 4000000 in
theorem t_G_has_15 {p : Program} {l : Launch} {e : Env} {s : State} {m : MethodId} {args : Array Value} {below : List Frame} {meth : Method} {c : Code} {D : va_G} {cy : Nat → ClassId} {out : Int32} (C : cn_X p s m args c b_G_has 2 "CopperNets$Groups" D cy) (hr : meth.sig.returnType = some .boolean) (hlk : meth.locks = false) (A_g : Nat) (A_g_leader : Nat) (g_leader : Nat → Int32) (s0 : Int32) (hF : F_G_has_15 g_leader s0 = some out) : cg p l e r_G_has s m args below meth c D (cn_hi s) (fun _ => True) 2 0 0 (MQ below (cn_QR (some (.int out))) args s 0 0 (fun _ => False)) (w_G_has cy A_g A_g_leader g_leader) 15 [] [.int s0] := by
  obtain ⟨hz, hF⟩ := cn_bl_some hF
  obtain rfl := Option.some.inj hF
  exact cg_zretR C hr hz hlk d_G_has_15
def F_G_has_0 (g_leader : Nat → Int32) (v1 : Int32) : Option (Int32) := cn_rd v1 60 (if (g_leader (Int32.toNatClampNeg v1)) = (-1) then (F_G_has_15 g_leader 0) else (F_G_has_15 g_leader 1))
set_option maxRecDepth 100000 in
set_option maxHeartbeats 4000000 in
theorem t_G_has_0 {p : Program} {l : Launch} {e : Env} {s : State} {m : MethodId} {args : Array Value} {below : List Frame} {meth : Method} {c : Code} {D : va_G} {cy : Nat → ClassId} {out : Int32} (C : cn_X p s m args c b_G_has 2 "CopperNets$Groups" D cy) (hr : meth.sig.returnType = some .boolean) (hlk : meth.locks = false) (A_g : Nat) (A_g_leader : Nat) (g_leader : Nat → Int32) (v1 : Int32) (hF : F_G_has_0 g_leader v1 = some out) : cg p l e r_G_has s m args below meth c D (cn_hi s) (fun _ => True) 2 0 0 (MQ below (cn_QR (some (.int out))) args s 0 0 (fun _ => False)) (w_G_has cy A_g A_g_leader g_leader) 0 [(0, .ref A_g), (1, .int v1)] [] := by
  refine cg_aload_n C d_G_has_0 0 rfl ?_
  refine cg_get C 0 0 d_G_has_1 rfl rfl hin_G (by decide) rfl tw_77 rfl ?_
  refine cg_iload_n C d_G_has_4 1 rfl ?_
  obtain ⟨i_1, hF⟩ := cn_rd_some hF
  refine cg_iald C 1 d_G_has_5 rfl i_1 ?_
  refine cg_iconst (v := (-1)) C d_G_has_6 (by decide) ?_
  refine cg_icmp_eq C 14 d_G_has_7 (by decide) (fun q_2 => ?_) (fun q_2 => ?_)
  · have hF := cn_pos q_2 hF
    refine cg_iconst (v := 0) C d_G_has_14 (by decide) ?_
    refine cg_sub (lv' := []) [] rfl ?_
    exact t_G_has_15 C hr hlk A_g A_g_leader g_leader 0 hF
  · have hF := cn_neg q_2 hF
    refine cg_iconst (v := 1) C d_G_has_10 (by decide) ?_
    refine cg_goto C 15 d_G_has_11 (by decide) ?_
    refine cg_sub (lv' := []) [] rfl ?_
    exact t_G_has_15 C hr hlk A_g A_g_leader g_leader 1 hF
abbrev F_G_has (g_leader : Nat → Int32) (v1 : Int32) : Option (Int32) := F_G_has_0 g_leader v1
theorem c_G_has {l : Launch} {D : va_G} {cy : Nat → ClassId} (A_g : Nat) (A_g_leader : Nat) (g_leader : Nat → Int32) (v1 : Int32) {out : Int32} (hF : F_G_has g_leader v1 = some out) : cn_MR l y_G_has b_G_has 2 (some .boolean) r_G_has D cy [.ref A_g, .int v1] (w_G_has cy A_g A_g_leader g_leader) (some (.int out)) :=
  cn_MR.of (by decide) (Nat.le_of_ble_eq_true rfl) (fun p e s m below meth c C hr hlk => t_G_has_0 C hr hlk A_g A_g_leader g_leader v1 hF)
/-! CopperNets$Groups.leaderOf(I)I -/
abbrev r_G_leaderOf : Room := { frames := 0, cells := 0, slots := 0, locals := 0 }
abbrev w_G_leaderOf (cy : Nat → ClassId) (A_g : Nat) (A_g_leader : Nat) (g_leader : Nat → Int32) : va_W := [(A_g, .inr (2, [.ref A_g_leader])), (A_g_leader, .inl (cy 0, 60, .inl g_leader))]
theorem hs_G_leaderOf : y_G_leaderOf.cls ≠ "java/lang/invoke/MethodHandle" ∧ y_G_leaderOf.cls ≠ "java/lang/invoke/VarHandle" ∧ (parseMethodDescriptor y_G_leaderOf.desc).map (fun d => d.parameters.length) = some 1 := by decide +kernel
def F_G_leaderOf_0 (g_leader : Nat → Int32) (v1 : Int32) : Option (Int32) := cn_rd v1 60 (some ((g_leader (Int32.toNatClampNeg v1))))
set_option maxRecDepth 100000 in
set_option maxHeartbeats 4000000 in
theorem t_G_leaderOf_0 {p : Program} {l : Launch} {e : Env} {s : State} {m : MethodId} {args : Array Value} {below : List Frame} {meth : Method} {c : Code} {D : va_G} {cy : Nat → ClassId} {out : Int32} (C : cn_X p s m args c b_G_leaderOf 2 "CopperNets$Groups" D cy) (hr : meth.sig.returnType = some .int) (hlk : meth.locks = false) (A_g : Nat) (A_g_leader : Nat) (g_leader : Nat → Int32) (v1 : Int32) (hF : F_G_leaderOf_0 g_leader v1 = some out) : cg p l e r_G_leaderOf s m args below meth c D (cn_hi s) (fun _ => True) 2 0 0 (MQ below (cn_QR (some (.int out))) args s 0 0 (fun _ => False)) (w_G_leaderOf cy A_g A_g_leader g_leader) 0 [(0, .ref A_g), (1, .int v1)] [] := by
  refine cg_aload_n C d_G_leaderOf_0 0 rfl ?_
  refine cg_get C 0 0 d_G_leaderOf_1 rfl rfl hin_G (by decide) rfl tw_77 rfl ?_
  refine cg_iload_n C d_G_leaderOf_4 1 rfl ?_
  obtain ⟨i_1, hF⟩ := cn_rd_some hF
  refine cg_iald C 1 d_G_leaderOf_5 rfl i_1 ?_
  obtain rfl := Option.some.inj hF
  exact cg_iretR C hr hlk d_G_leaderOf_6
abbrev F_G_leaderOf (g_leader : Nat → Int32) (v1 : Int32) : Option (Int32) := F_G_leaderOf_0 g_leader v1
theorem c_G_leaderOf {l : Launch} {D : va_G} {cy : Nat → ClassId} (A_g : Nat) (A_g_leader : Nat) (g_leader : Nat → Int32) (v1 : Int32) {out : Int32} (hF : F_G_leaderOf g_leader v1 = some out) : cn_MR l y_G_leaderOf b_G_leaderOf 2 (some .int) r_G_leaderOf D cy [.ref A_g, .int v1] (w_G_leaderOf cy A_g A_g_leader g_leader) (some (.int out)) :=
  cn_MR.of (by decide) (Nat.le_of_ble_eq_true rfl) (fun p e s m below meth c C hr hlk => t_G_leaderOf_0 C hr hlk A_g A_g_leader g_leader v1 hF)
/-! CopperNets$Groups.begin(I)V -/
abbrev r_G_begin : Room := { frames := 0, cells := 0, slots := 0, locals := 0 }
abbrev w_G_begin (cy : Nat → ClassId) (A_g : Nat) (A_g_leader : Nat) (g_leader : Nat → Int32) : va_W := [(A_g, .inr (2, [.ref A_g_leader])), (A_g_leader, .inl (cy 0, 60, .inl g_leader))]
theorem hs_G_begin : y_G_begin.cls ≠ "java/lang/invoke/MethodHandle" ∧ y_G_begin.cls ≠ "java/lang/invoke/VarHandle" ∧ (parseMethodDescriptor y_G_begin.desc).map (fun d => d.parameters.length) = some 1 := by decide +kernel
def F_G_begin_0 (g_leader : Nat → Int32) (v1 : Int32) : Option ((Nat → Int32)) := cn_rd v1 60 (some ((upd g_leader (Int32.toNatClampNeg v1) v1)))
set_option maxRecDepth 100000 in
set_option maxHeartbeats 4000000 in
theorem t_G_begin_0 {p : Program} {l : Launch} {e : Env} {s : State} {m : MethodId} {args : Array Value} {below : List Frame} {meth : Method} {c : Code} {D : va_G} {cy : Nat → ClassId} {A : Nat → Prop} {out : (Nat → Int32)} (C : cn_X p s m args c b_G_begin 2 "CopperNets$Groups" D cy) (hr : meth.sig.returnType = none) (hlk : meth.locks = false) (hA : ∀ q, s.heap.size ≤ q → A q) (A_g : Nat) (A_g_leader : Nat) (g_leader : Nat → Int32) (v1 : Int32) (hF : F_G_begin_0 g_leader v1 = some out) : cg p l e r_G_begin s m args below meth c D (va_S A s.heap) A 2 0 0 (MQ below (cn_QW none D (w_G_begin cy A_g A_g_leader out) A) args s 0 0 A) (w_G_begin cy A_g A_g_leader g_leader) 0 [(0, .ref A_g), (1, .int v1)] [] := by
  refine cg_aload_n C d_G_begin_0 0 rfl ?_
  refine cg_get C 0 0 d_G_begin_1 rfl rfl hin_G (by decide) rfl tw_77 rfl ?_
  refine cg_iload_n C d_G_begin_4 1 rfl ?_
  refine cg_iload_n C d_G_begin_5 1 rfl ?_
  obtain ⟨i_1, hF⟩ := cn_rd_some hF
  refine cg_iast (ws' := w_G_begin cy A_g A_g_leader (upd g_leader (Int32.toNatClampNeg v1) v1)) C 1 d_G_begin_6 rfl i_1 rfl ?_
  obtain rfl := Option.some.inj hF
  exact cg_vretW C hr hlk d_G_begin_7
abbrev F_G_begin (g_leader : Nat → Int32) (v1 : Int32) : Option ((Nat → Int32)) := F_G_begin_0 g_leader v1
theorem c_G_begin {l : Launch} {D : va_G} {cy : Nat → ClassId} (A_g : Nat) (A_g_leader : Nat) (g_leader : Nat → Int32) (v1 : Int32) {out : (Nat → Int32)} (hF : F_G_begin g_leader v1 = some out) : cn_MW l y_G_begin b_G_begin 2 (none) r_G_begin D cy [.ref A_g, .int v1] (w_G_begin cy A_g A_g_leader g_leader) none (w_G_begin cy A_g A_g_leader out) 0 0 :=
  cn_MW.of (by decide) (Nat.le_of_ble_eq_true rfl) (fun p e s m below meth c A C hr hlk hA => t_G_begin_0 C hr hlk hA A_g A_g_leader g_leader v1 hF)
/-! java/lang/Math.min(II)I -/
abbrev r_jM_min_I : Room := { frames := 0, cells := 0, slots := 0, locals := 0 }
abbrev w_jM_min_I (cy : Nat → ClassId) : va_W := []
theorem hs_jM_min_I : y_jM_min_I.cls ≠ "java/lang/invoke/MethodHandle" ∧ y_jM_min_I.cls ≠ "java/lang/invoke/VarHandle" ∧ (parseMethodDescriptor y_jM_min_I.desc).map (fun d => d.parameters.length) = some 2 := by decide +kernel
def F_jM_min_I_10 (s0 : Int32) : Option (Int32) := some (s0)
set_option maxRecDepth 100000 in
set_option maxHeartbeats 4000000 in
theorem t_jM_min_I_10 {p : Program} {l : Launch} {e : Env} {s : State} {m : MethodId} {args : Array Value} {below : List Frame} {meth : Method} {c : Code} {D : va_G} {cy : Nat → ClassId} {out : Int32} (C : cn_X p s m args c b_jM_min_I 2 "java/lang/Math" D cy) (hr : meth.sig.returnType = some .int) (hlk : meth.locks = false) (s0 : Int32) (hF : F_jM_min_I_10 s0 = some out) : cg p l e r_jM_min_I s m args below meth c D (cn_hi s) (fun _ => True) 2 0 0 (MQ below (cn_QR (some (.int out))) args s 0 0 (fun _ => False)) (w_jM_min_I cy) 10 [] [.int s0] := by
  obtain rfl := Option.some.inj hF
  exact cg_iretR C hr hlk d_jM_min_I_10
def F_jM_min_I_0 (v0 : Int32) (v1 : Int32) : Option (Int32) := if v1 < v0 then (F_jM_min_I_10 v1) else (F_jM_min_I_10 v0)
set_option maxRecDepth 100000 in
set_option maxHeartbeats 4000000 in
theorem t_jM_min_I_0 {p : Program} {l : Launch} {e : Env} {s : State} {m : MethodId} {args : Array Value} {below : List Frame} {meth : Method} {c : Code} {D : va_G} {cy : Nat → ClassId} {out : Int32} (C : cn_X p s m args c b_jM_min_I 2 "java/lang/Math" D cy) (hr : meth.sig.returnType = some .int) (hlk : meth.locks = false) (v0 : Int32) (v1 : Int32) (hF : F_jM_min_I_0 v0 v1 = some out) : cg p l e r_jM_min_I s m args below meth c D (cn_hi s) (fun _ => True) 2 0 0 (MQ below (cn_QR (some (.int out))) args s 0 0 (fun _ => False)) (w_jM_min_I cy) 0 [(0, .int v0), (1, .int v1)] [] := by
  refine cg_iload_n C d_jM_min_I_0 0 rfl ?_
  refine cg_iload_n C d_jM_min_I_1 1 rfl ?_
  refine cg_icmp_gt C 9 d_jM_min_I_2 (by decide) (fun q_1 => ?_) (fun q_1 => ?_)
  · have hF := cn_pos q_1 hF
    refine cg_iload_n C d_jM_min_I_9 1 rfl ?_
    refine cg_sub (lv' := []) [] rfl ?_
    exact t_jM_min_I_10 C hr hlk v1 hF
  · have hF := cn_neg q_1 hF
    refine cg_iload_n C d_jM_min_I_5 0 rfl ?_
    refine cg_goto C 10 d_jM_min_I_6 (by decide) ?_
    refine cg_sub (lv' := []) [] rfl ?_
    exact t_jM_min_I_10 C hr hlk v0 hF
abbrev F_jM_min_I (v0 : Int32) (v1 : Int32) : Option (Int32) := F_jM_min_I_0 v0 v1
theorem c_jM_min_I {l : Launch} {D : va_G} {cy : Nat → ClassId} (v0 : Int32) (v1 : Int32) {out : Int32} (hF : F_jM_min_I v0 v1 = some out) : cn_MR l y_jM_min_I b_jM_min_I 2 (some .int) r_jM_min_I D cy [.int v0, .int v1] (w_jM_min_I cy) (some (.int out)) :=
  cn_MR.of (by decide) (Nat.le_of_ble_eq_true rfl) (fun p e s m below meth c C hr hlk => t_jM_min_I_0 C hr hlk v0 v1 hF)
/-! java/lang/Math.max(II)I -/
abbrev r_jM_max_I : Room := { frames := 0, cells := 0, slots := 0, locals := 0 }
abbrev w_jM_max_I (cy : Nat → ClassId) : va_W := []
theorem hs_jM_max_I : y_jM_max_I.cls ≠ "java/lang/invoke/MethodHandle" ∧ y_jM_max_I.cls ≠ "java/lang/invoke/VarHandle" ∧ (parseMethodDescriptor y_jM_max_I.desc).map (fun d => d.parameters.length) = some 2 := by decide +kernel
def F_jM_max_I_10 (s0 : Int32) : Option (Int32) := some (s0)
set_option maxRecDepth 100000 in
set_option maxHeartbeats 4000000 in
theorem t_jM_max_I_10 {p : Program} {l : Launch} {e : Env} {s : State} {m : MethodId} {args : Array Value} {below : List Frame} {meth : Method} {c : Code} {D : va_G} {cy : Nat → ClassId} {out : Int32} (C : cn_X p s m args c b_jM_max_I 2 "java/lang/Math" D cy) (hr : meth.sig.returnType = some .int) (hlk : meth.locks = false) (s0 : Int32) (hF : F_jM_max_I_10 s0 = some out) : cg p l e r_jM_max_I s m args below meth c D (cn_hi s) (fun _ => True) 2 0 0 (MQ below (cn_QR (some (.int out))) args s 0 0 (fun _ => False)) (w_jM_max_I cy) 10 [] [.int s0] := by
  obtain rfl := Option.some.inj hF
  exact cg_iretR C hr hlk d_jM_max_I_10
def F_jM_max_I_0 (v0 : Int32) (v1 : Int32) : Option (Int32) := if v0 < v1 then (F_jM_max_I_10 v1) else (F_jM_max_I_10 v0)
set_option maxRecDepth 100000 in
set_option maxHeartbeats 4000000 in
theorem t_jM_max_I_0 {p : Program} {l : Launch} {e : Env} {s : State} {m : MethodId} {args : Array Value} {below : List Frame} {meth : Method} {c : Code} {D : va_G} {cy : Nat → ClassId} {out : Int32} (C : cn_X p s m args c b_jM_max_I 2 "java/lang/Math" D cy) (hr : meth.sig.returnType = some .int) (hlk : meth.locks = false) (v0 : Int32) (v1 : Int32) (hF : F_jM_max_I_0 v0 v1 = some out) : cg p l e r_jM_max_I s m args below meth c D (cn_hi s) (fun _ => True) 2 0 0 (MQ below (cn_QR (some (.int out))) args s 0 0 (fun _ => False)) (w_jM_max_I cy) 0 [(0, .int v0), (1, .int v1)] [] := by
  refine cg_iload_n C d_jM_max_I_0 0 rfl ?_
  refine cg_iload_n C d_jM_max_I_1 1 rfl ?_
  refine cg_icmp_lt C 9 d_jM_max_I_2 (by decide) (fun q_1 => ?_) (fun q_1 => ?_)
  · have hF := cn_pos q_1 hF
    refine cg_iload_n C d_jM_max_I_9 1 rfl ?_
    refine cg_sub (lv' := []) [] rfl ?_
    exact t_jM_max_I_10 C hr hlk v1 hF
  · have hF := cn_neg q_1 hF
    refine cg_iload_n C d_jM_max_I_5 0 rfl ?_
    refine cg_goto C 10 d_jM_max_I_6 (by decide) ?_
    refine cg_sub (lv' := []) [] rfl ?_
    exact t_jM_max_I_10 C hr hlk v0 hF
abbrev F_jM_max_I (v0 : Int32) (v1 : Int32) : Option (Int32) := F_jM_max_I_0 v0 v1
theorem c_jM_max_I {l : Launch} {D : va_G} {cy : Nat → ClassId} (v0 : Int32) (v1 : Int32) {out : Int32} (hF : F_jM_max_I v0 v1 = some out) : cn_MR l y_jM_max_I b_jM_max_I 2 (some .int) r_jM_max_I D cy [.int v0, .int v1] (w_jM_max_I cy) (some (.int out)) :=
  cn_MR.of (by decide) (Nat.le_of_ble_eq_true rfl) (fun p e s m below meth c C hr hlk => t_jM_max_I_0 C hr hlk v0 v1 hF)
/-! CopperNets$Groups.join(II)V -/
abbrev r_G_join : Room := { frames := 1, cells := 0, slots := 0, locals := 21 }
abbrev w_G_join (cy : Nat → ClassId) (A_g : Nat) (A_g_leader : Nat) (g_leader : Nat → Int32) : va_W := [(A_g, .inr (2, [.ref A_g_leader])), (A_g_leader, .inl (cy 0, 60, .inl g_leader))]
theorem hs_G_join : y_G_join.cls ≠ "java/lang/invoke/MethodHandle" ∧ y_G_join.cls ≠ "java/lang/invoke/VarHandle" ∧ (parseMethodDescriptor y_G_join.desc).map (fun d => d.parameters.length) = some 2 := by decide +kernel
def F_G_join_71 (k_44 : (Nat → Int32) → Int32 → Int32 → Int32 → Option ((Nat → Int32))) (g_leader : Nat → Int32) (v3 : Int32) (v4 : Int32) (v5 : Int32) : Option ((Nat → Int32)) := k_44 g_leader v3 v4 (v5 + 1)
set_option maxRecDepth 100000 in
set_option maxHeartbeats 4000000 in
theorem t_G_join_71 {p : Program} {l : Launch} {e : Env} {s : State} {m : MethodId} {args : Array Value} {below : List Frame} {meth : Method} {c : Code} {D : va_G} {cy : Nat → ClassId} {A : Nat → Prop} {out : (Nat → Int32)} (C : cn_X p s m args c b_G_join 6 "CopperNets$Groups" D cy) (hr : meth.sig.returnType = none) (hlk : meth.locks = false) (hA : ∀ q, s.heap.size ≤ q → A q) (A_g : Nat) (A_g_leader : Nat) (k_44 : (Nat → Int32) → Int32 → Int32 → Int32 → Option ((Nat → Int32))) (hk_44 : ∀ (g_leader : Nat → Int32) (v3 : Int32) (v4 : Int32) (v5 : Int32), k_44 g_leader v3 v4 v5 = some out → cg p l e r_G_join s m args below meth c D (va_S A s.heap) A 6 0 0 (MQ below (cn_QW none D (w_G_join cy A_g A_g_leader out) A) args s 0 0 A) (w_G_join cy A_g A_g_leader g_leader) 44 [(0, .ref A_g), (3, .int v3), (4, .int v4), (5, .int v5)] []) (g_leader : Nat → Int32) (v3 : Int32) (v4 : Int32) (v5 : Int32) (hF : F_G_join_71 k_44 g_leader v3 v4 v5 = some out) : cg p l e r_G_join s m args below meth c D (va_S A s.heap) A 6 0 0 (MQ below (cn_QW none D (w_G_join cy A_g A_g_leader out) A) args s 0 0 A) (w_G_join cy A_g A_g_leader g_leader) 71 [(0, .ref A_g), (3, .int v3), (4, .int v4), (5, .int v5)] [] := by
  refine cg_iinc (v := v5 + 1) (lv' := [(5, .int (v5 + 1)), (0, .ref A_g), (3, .int v3), (4, .int v4)]) C d_G_join_71 3 rfl (by decide) rfl rfl ?_
  refine cg_goto C 44 d_G_join_74 (by decide) ?_
  refine cg_sub (lv' := [(0, .ref A_g), (3, .int v3), (4, .int v4), (5, .int (v5 + 1))]) [1, 2, 3, 0] rfl ?_
  exact hk_44 g_leader v3 v4 (v5 + 1) hF
def F_G_join_44 : Nat → (Nat → Int32) → Int32 → Int32 → Int32 → Option ((Nat → Int32))
  | 0, _, _, _, _ => none
  | n + 1, g_leader, v3, v4, v5 => if 60 ≤ v5 then (some (g_leader)) else (cn_rd v5 60 (if (g_leader (Int32.toNatClampNeg v5)) = v4 then (cn_rd v5 60 (F_G_join_71 (F_G_join_44 n) (upd g_leader (Int32.toNatClampNeg v5) v3) v3 v4 v5)) else (F_G_join_71 (F_G_join_44 n) g_leader v3 v4 v5)))
set_option maxRecDepth 100000 in
set_option maxHeartbeats 4000000 in
theorem t_G_join_44 {p : Program} {l : Launch} {e : Env} {s : State} {m : MethodId} {args : Array Value} {below : List Frame} {meth : Method} {c : Code} {D : va_G} {cy : Nat → ClassId} {A : Nat → Prop} {out : (Nat → Int32)} (C : cn_X p s m args c b_G_join 6 "CopperNets$Groups" D cy) (hr : meth.sig.returnType = none) (hlk : meth.locks = false) (hA : ∀ q, s.heap.size ≤ q → A q) (A_g : Nat) (A_g_leader : Nat) : ∀ (n : Nat) (g_leader : Nat → Int32) (v3 : Int32) (v4 : Int32) (v5 : Int32), F_G_join_44 n g_leader v3 v4 v5 = some out → cg p l e r_G_join s m args below meth c D (va_S A s.heap) A 6 0 0 (MQ below (cn_QW none D (w_G_join cy A_g A_g_leader out) A) args s 0 0 A) (w_G_join cy A_g A_g_leader g_leader) 44 [(0, .ref A_g), (3, .int v3), (4, .int v4), (5, .int v5)] [] := by
  intro n
  induction n with
  | zero => intro g_leader v3 v4 v5 hF; exact nomatch (show (none : Option ((Nat → Int32))) = some out from hF)
  | succ n ih =>
    intro g_leader v3 v4 v5 hF
    refine cg_iload C d_G_join_44 3 rfl ?_
    refine cg_bipush (v := 60) C d_G_join_46 (by decide) ?_
    refine cg_icmp_ge C 77 d_G_join_48 (by decide) (fun q_1 => ?_) (fun q_1 => ?_)
    · have hF := cn_pos q_1 hF
      obtain rfl := Option.some.inj hF
      exact cg_vretW C hr hlk d_G_join_77
    · have hF := cn_neg q_1 hF
      refine cg_aload_n C d_G_join_51 0 rfl ?_
      refine cg_get C 0 0 d_G_join_52 rfl rfl hin_G (by decide) rfl tw_77 rfl ?_
      refine cg_iload C d_G_join_55 3 rfl ?_
      obtain ⟨i_2, hF⟩ := cn_rd_some hF
      refine cg_iald C 1 d_G_join_57 rfl i_2 ?_
      refine cg_iload C d_G_join_58 2 rfl ?_
      refine cg_icmp_ne C 71 d_G_join_60 (by decide) (fun q_3 => ?_) (fun q_3 => ?_)
      · have hF := cn_neg q_3 hF
        exact t_G_join_71 C hr hlk hA A_g A_g_leader (F_G_join_44 n) ih g_leader v3 v4 v5 hF
      · have hF := cn_pos q_3 hF
        refine cg_aload_n C d_G_join_63 0 rfl ?_
        refine cg_get C 0 0 d_G_join_64 rfl rfl hin_G (by decide) rfl tw_77 rfl ?_
        refine cg_iload C d_G_join_67 3 rfl ?_
        refine cg_iload_n C d_G_join_69 1 rfl ?_
        obtain ⟨i_4, hF⟩ := cn_rd_some hF
        refine cg_iast (ws' := w_G_join cy A_g A_g_leader (upd g_leader (Int32.toNatClampNeg v5) v3)) C 1 d_G_join_70 rfl i_4 rfl ?_
        exact t_G_join_71 C hr hlk hA A_g A_g_leader (F_G_join_44 n) ih (upd g_leader (Int32.toNatClampNeg v5) v3) v3 v4 v5 hF
def F_G_join_0 (g_leader : Nat → Int32) (v1 : Int32) (v2 : Int32) : Option ((Nat → Int32)) := cn_rd v1 60 (cn_rd v2 60 ((F_jM_min_I (g_leader (Int32.toNatClampNeg v1)) (g_leader (Int32.toNatClampNeg v2))).bind fun t_8 => cn_rd v1 60 (cn_rd v2 60 ((F_jM_max_I (g_leader (Int32.toNatClampNeg v1)) (g_leader (Int32.toNatClampNeg v2))).bind fun t_12 => if t_8 = t_12 then (some (g_leader)) else (F_G_join_44 4096 g_leader t_8 t_12 t_12)))))
set_option maxRecDepth 100000 in
set_option maxHeartbeats 4000000 in
theorem t_G_join_0 {p : Program} {l : Launch} {e : Env} {s : State} {m : MethodId} {args : Array Value} {below : List Frame} {meth : Method} {c : Code} {D : va_G} {cy : Nat → ClassId} {A : Nat → Prop} {out : (Nat → Int32)} (C : cn_X p s m args c b_G_join 6 "CopperNets$Groups" D cy) (hr : meth.sig.returnType = none) (hlk : meth.locks = false) (hA : ∀ q, s.heap.size ≤ q → A q) (A_g : Nat) (A_g_leader : Nat) (g_leader : Nat → Int32) (v1 : Int32) (v2 : Int32) (hF : F_G_join_0 g_leader v1 v2 = some out) : cg p l e r_G_join s m args below meth c D (va_S A s.heap) A 6 0 0 (MQ below (cn_QW none D (w_G_join cy A_g A_g_leader out) A) args s 0 0 A) (w_G_join cy A_g A_g_leader g_leader) 0 [(0, .ref A_g), (1, .int v1), (2, .int v2)] [] := by
  refine cg_aload_n C d_G_join_0 0 rfl ?_
  refine cg_get C 0 0 d_G_join_1 rfl rfl hin_G (by decide) rfl tw_77 rfl ?_
  refine cg_iload_n C d_G_join_4 1 rfl ?_
  obtain ⟨i_5, hF⟩ := cn_rd_some hF
  refine cg_iald C 1 d_G_join_5 rfl i_5 ?_
  refine cg_aload_n C d_G_join_6 0 rfl ?_
  refine cg_get C 0 0 d_G_join_7 rfl rfl hin_G (by decide) rfl tw_77 rfl ?_
  refine cg_iload_n C d_G_join_10 2 rfl ?_
  obtain ⟨i_6, hF⟩ := cn_rd_some hF
  refine cg_iald C 1 d_G_join_11 rfl i_6 ?_
  obtain ⟨t_8, h_7, hF⟩ := cn_bind hF
  refine cg_callRS C (c_jM_min_I (g_leader (Int32.toNatClampNeg v1)) (g_leader (Int32.toNatClampNeg v2)) h_7) [] rfl (by decide) d_G_join_12 tw_221 tw_108 tw_6 tw_109 hs_jM_min_I ⟨by decide, by decide⟩ rfl rfl ⟨by decide, by decide⟩ (Nat.le_of_ble_eq_true rfl) rfl rfl ?_
  refine cg_istore_n (lv' := [(3, .int t_8), (0, .ref A_g), (1, .int v1), (2, .int v2)]) C d_G_join_15 (by decide) rfl ?_
  refine cg_aload_n C d_G_join_16 1 rfl ?_
  refine cg_get C 0 0 d_G_join_17 rfl rfl hin_G (by decide) rfl tw_77 rfl ?_
  refine cg_iload_n C d_G_join_20 2 rfl ?_
  obtain ⟨i_9, hF⟩ := cn_rd_some hF
  refine cg_iald C 1 d_G_join_21 rfl i_9 ?_
  refine cg_aload_n C d_G_join_22 1 rfl ?_
  refine cg_get C 0 0 d_G_join_23 rfl rfl hin_G (by decide) rfl tw_77 rfl ?_
  refine cg_iload_n C d_G_join_26 3 rfl ?_
  obtain ⟨i_10, hF⟩ := cn_rd_some hF
  refine cg_iald C 1 d_G_join_27 rfl i_10 ?_
  obtain ⟨t_12, h_11, hF⟩ := cn_bind hF
  refine cg_callRS C (c_jM_max_I (g_leader (Int32.toNatClampNeg v1)) (g_leader (Int32.toNatClampNeg v2)) h_11) [] rfl (by decide) d_G_join_28 tw_222 tw_111 tw_6 tw_112 hs_jM_max_I ⟨by decide, by decide⟩ rfl rfl ⟨by decide, by decide⟩ (Nat.le_of_ble_eq_true rfl) rfl rfl ?_
  refine cg_istore (lv' := [(4, .int t_12), (3, .int t_8), (0, .ref A_g), (1, .int v1), (2, .int v2)]) C d_G_join_31 (by decide) rfl ?_
  refine cg_iload_n C d_G_join_33 1 rfl ?_
  refine cg_iload C d_G_join_34 0 rfl ?_
  refine cg_icmp_ne C 40 d_G_join_36 (by decide) (fun q_13 => ?_) (fun q_13 => ?_)
  · have hF := cn_neg q_13 hF
    refine cg_iload C d_G_join_40 0 rfl ?_
    refine cg_istore (lv' := [(5, .int t_12), (4, .int t_12), (3, .int t_8), (0, .ref A_g), (1, .int v1), (2, .int v2)]) C d_G_join_42 (by decide) rfl ?_
    refine cg_sub (lv' := [(0, .ref A_g), (3, .int t_8), (4, .int t_12), (5, .int t_12)]) [3, 2, 1, 0] rfl ?_
    exact t_G_join_44 C hr hlk hA A_g A_g_leader 4096 g_leader t_8 t_12 t_12 hF
  · have hF := cn_pos q_13 hF
    obtain rfl := Option.some.inj hF
    exact cg_vretW C hr hlk d_G_join_39
abbrev F_G_join (g_leader : Nat → Int32) (v1 : Int32) (v2 : Int32) : Option ((Nat → Int32)) := F_G_join_0 g_leader v1 v2
theorem c_G_join {l : Launch} {D : va_G} {cy : Nat → ClassId} (A_g : Nat) (A_g_leader : Nat) (g_leader : Nat → Int32) (v1 : Int32) (v2 : Int32) {out : (Nat → Int32)} (hF : F_G_join g_leader v1 v2 = some out) : cn_MW l y_G_join b_G_join 6 (none) r_G_join D cy [.ref A_g, .int v1, .int v2] (w_G_join cy A_g A_g_leader g_leader) none (w_G_join cy A_g A_g_leader out) 0 0 :=
  cn_MW.of (by decide) (Nat.le_of_ble_eq_true rfl) (fun p e s m below meth c A C hr hlk hA => t_G_join_0 C hr hlk hA A_g A_g_leader g_leader v1 v2 hF)
/-! CopperNets.leadersBelow(I)I -/
abbrev r_X_leadersBelow : Room := { frames := 1, cells := 0, slots := 0, locals := 21 }
abbrev w_X_leadersBelow (cy : Nat → ClassId) (A_x : Nat) (A_x_netOfPin : Nat) (A_x_pieces : Nat) (A_x_kept : Nat) (A_x_kept_leader : Nat) (A_x_airlines : Nat) (A_x_spare : Nat) (A_x_netBits : Nat) (A_x_grownBits : Nat) (x_layers : Int32) (x_kept_leader : Nat → Int32) : va_W := [(A_x, .inr (0, [.int x_layers, .ref A_x_netOfPin, .ref A_x_pieces, .ref A_x_kept, .ref A_x_airlines, .ref A_x_spare, .ref A_x_netBits, .ref A_x_grownBits])), (A_x_kept, .inr (2, [.ref A_x_kept_leader])), (A_x_kept_leader, .inl (cy 0, 60, .inl x_kept_leader))]
theorem hs_X_leadersBelow : y_X_leadersBelow.cls ≠ "java/lang/invoke/MethodHandle" ∧ y_X_leadersBelow.cls ≠ "java/lang/invoke/VarHandle" ∧ (parseMethodDescriptor y_X_leadersBelow.desc).map (fun d => d.parameters.length) = some 1 := by decide +kernel
def F_X_leadersBelow_24 (k_4 : (Nat → Int32) → Int32 → Int32 → Int32 → Option (Int32)) (x_kept_leader : Nat → Int32) (v1 : Int32) (v2 : Int32) (v3 : Int32) : Option (Int32) := k_4 x_kept_leader v1 v2 (v3 + 1)
set_option maxRecDepth 100000 in
set_option maxHeartbeats 4000000 in
theorem t_X_leadersBelow_24 {p : Program} {l : Launch} {e : Env} {s : State} {m : MethodId} {args : Array Value} {below : List Frame} {meth : Method} {c : Code} {D : va_G} {cy : Nat → ClassId} {out : Int32} (C : cn_X p s m args c b_X_leadersBelow 4 "CopperNets" D cy) (hr : meth.sig.returnType = some .int) (hlk : meth.locks = false) (A_x : Nat) (A_x_netOfPin : Nat) (A_x_pieces : Nat) (A_x_kept : Nat) (A_x_kept_leader : Nat) (A_x_airlines : Nat) (A_x_spare : Nat) (A_x_netBits : Nat) (A_x_grownBits : Nat) (x_layers : Int32) (k_4 : (Nat → Int32) → Int32 → Int32 → Int32 → Option (Int32)) (hk_4 : ∀ (x_kept_leader : Nat → Int32) (v1 : Int32) (v2 : Int32) (v3 : Int32), k_4 x_kept_leader v1 v2 v3 = some out → cg p l e r_X_leadersBelow s m args below meth c D (cn_hi s) (fun _ => True) 4 0 0 (MQ below (cn_QR (some (.int out))) args s 0 0 (fun _ => False)) (w_X_leadersBelow cy A_x A_x_netOfPin A_x_pieces A_x_kept A_x_kept_leader A_x_airlines A_x_spare A_x_netBits A_x_grownBits x_layers x_kept_leader) 4 [(0, .ref A_x), (1, .int v1), (2, .int v2), (3, .int v3)] []) (x_kept_leader : Nat → Int32) (v1 : Int32) (v2 : Int32) (v3 : Int32) (hF : F_X_leadersBelow_24 k_4 x_kept_leader v1 v2 v3 = some out) : cg p l e r_X_leadersBelow s m args below meth c D (cn_hi s) (fun _ => True) 4 0 0 (MQ below (cn_QR (some (.int out))) args s 0 0 (fun _ => False)) (w_X_leadersBelow cy A_x A_x_netOfPin A_x_pieces A_x_kept A_x_kept_leader A_x_airlines A_x_spare A_x_netBits A_x_grownBits x_layers x_kept_leader) 24 [(0, .ref A_x), (1, .int v1), (2, .int v2), (3, .int v3)] [] := by
  refine cg_iinc (v := v3 + 1) (lv' := [(3, .int (v3 + 1)), (0, .ref A_x), (1, .int v1), (2, .int v2)]) C d_X_leadersBelow_24 3 rfl (by decide) rfl rfl ?_
  refine cg_goto C 4 d_X_leadersBelow_27 (by decide) ?_
  refine cg_sub (lv' := [(0, .ref A_x), (1, .int v1), (2, .int v2), (3, .int (v3 + 1))]) [1, 2, 3, 0] rfl ?_
  exact hk_4 x_kept_leader v1 v2 (v3 + 1) hF
def F_X_leadersBelow_4 : Nat → (Nat → Int32) → Int32 → Int32 → Int32 → Option (Int32)
  | 0, _, _, _, _ => none
  | n + 1, x_kept_leader, v1, v2, v3 => if v1 ≤ v3 then (some (v2)) else ((F_G_leaderOf x_kept_leader v3).bind fun t_3 => if t_3 = v3 then (F_X_leadersBelow_24 (F_X_leadersBelow_4 n) x_kept_leader v1 (v2 + 1) v3) else (F_X_leadersBelow_24 (F_X_leadersBelow_4 n) x_kept_leader v1 v2 v3))
set_option maxRecDepth 100000 in
set_option maxHeartbeats 4000000 in
theorem t_X_leadersBelow_4 {p : Program} {l : Launch} {e : Env} {s : State} {m : MethodId} {args : Array Value} {below : List Frame} {meth : Method} {c : Code} {D : va_G} {cy : Nat → ClassId} {out : Int32} (C : cn_X p s m args c b_X_leadersBelow 4 "CopperNets" D cy) (hr : meth.sig.returnType = some .int) (hlk : meth.locks = false) (A_x : Nat) (A_x_netOfPin : Nat) (A_x_pieces : Nat) (A_x_kept : Nat) (A_x_kept_leader : Nat) (A_x_airlines : Nat) (A_x_spare : Nat) (A_x_netBits : Nat) (A_x_grownBits : Nat) (x_layers : Int32) : ∀ (n : Nat) (x_kept_leader : Nat → Int32) (v1 : Int32) (v2 : Int32) (v3 : Int32), F_X_leadersBelow_4 n x_kept_leader v1 v2 v3 = some out → cg p l e r_X_leadersBelow s m args below meth c D (cn_hi s) (fun _ => True) 4 0 0 (MQ below (cn_QR (some (.int out))) args s 0 0 (fun _ => False)) (w_X_leadersBelow cy A_x A_x_netOfPin A_x_pieces A_x_kept A_x_kept_leader A_x_airlines A_x_spare A_x_netBits A_x_grownBits x_layers x_kept_leader) 4 [(0, .ref A_x), (1, .int v1), (2, .int v2), (3, .int v3)] [] := by
  intro n
  induction n with
  | zero => intro x_kept_leader v1 v2 v3 hF; exact nomatch (show (none : Option (Int32)) = some out from hF)
  | succ n ih =>
    intro x_kept_leader v1 v2 v3 hF
    refine cg_iload_n C d_X_leadersBelow_4 3 rfl ?_
    refine cg_iload_n C d_X_leadersBelow_5 1 rfl ?_
    refine cg_icmp_ge C 30 d_X_leadersBelow_6 (by decide) (fun q_1 => ?_) (fun q_1 => ?_)
    · have hF := cn_pos q_1 hF
      refine cg_iload_n C d_X_leadersBelow_30 2 rfl ?_
      obtain rfl := Option.some.inj hF
      exact cg_iretR C hr hlk d_X_leadersBelow_31
    · have hF := cn_neg q_1 hF
      refine cg_aload_n C d_X_leadersBelow_9 0 rfl ?_
      refine cg_get C 0 3 d_X_leadersBelow_10 rfl rfl hin_X (by decide) rfl tw_117 rfl ?_
      refine cg_iload_n C d_X_leadersBelow_13 3 rfl ?_
      obtain ⟨t_3, h_2, hF⟩ := cn_bind hF
      refine cg_callRVN C (c_G_leaderOf A_x_kept A_x_kept_leader x_kept_leader v3 h_2) [1, 2] rfl (by decide) 0 rfl rfl d_X_leadersBelow_14 nM_3 tw_149 ts_2 tw_3 tw_150 hs_G_leaderOf ⟨by decide, by decide⟩ rfl rfl ⟨by decide, by decide⟩ (Nat.le_of_ble_eq_true rfl) rfl rfl ?_
      refine cg_iload_n C d_X_leadersBelow_17 3 rfl ?_
      refine cg_icmp_ne C 24 d_X_leadersBelow_18 (by decide) (fun q_4 => ?_) (fun q_4 => ?_)
      · have hF := cn_neg q_4 hF
        exact t_X_leadersBelow_24 C hr hlk A_x A_x_netOfPin A_x_pieces A_x_kept A_x_kept_leader A_x_airlines A_x_spare A_x_netBits A_x_grownBits x_layers (F_X_leadersBelow_4 n) ih x_kept_leader v1 v2 v3 hF
      · have hF := cn_pos q_4 hF
        refine cg_iinc (v := v2 + 1) (lv' := [(2, .int (v2 + 1)), (0, .ref A_x), (1, .int v1), (3, .int v3)]) C d_X_leadersBelow_21 2 rfl (by decide) rfl rfl ?_
        refine cg_sub (lv' := [(0, .ref A_x), (1, .int v1), (2, .int (v2 + 1)), (3, .int v3)]) [1, 2, 0, 3] rfl ?_
        exact t_X_leadersBelow_24 C hr hlk A_x A_x_netOfPin A_x_pieces A_x_kept A_x_kept_leader A_x_airlines A_x_spare A_x_netBits A_x_grownBits x_layers (F_X_leadersBelow_4 n) ih x_kept_leader v1 (v2 + 1) v3 hF
def F_X_leadersBelow_0 (x_kept_leader : Nat → Int32) (v1 : Int32) : Option (Int32) := F_X_leadersBelow_4 4096 x_kept_leader v1 0 0
set_option maxRecDepth 100000 in
set_option maxHeartbeats 4000000 in
theorem t_X_leadersBelow_0 {p : Program} {l : Launch} {e : Env} {s : State} {m : MethodId} {args : Array Value} {below : List Frame} {meth : Method} {c : Code} {D : va_G} {cy : Nat → ClassId} {out : Int32} (C : cn_X p s m args c b_X_leadersBelow 4 "CopperNets" D cy) (hr : meth.sig.returnType = some .int) (hlk : meth.locks = false) (A_x : Nat) (A_x_netOfPin : Nat) (A_x_pieces : Nat) (A_x_kept : Nat) (A_x_kept_leader : Nat) (A_x_airlines : Nat) (A_x_spare : Nat) (A_x_netBits : Nat) (A_x_grownBits : Nat) (x_layers : Int32) (x_kept_leader : Nat → Int32) (v1 : Int32) (hF : F_X_leadersBelow_0 x_kept_leader v1 = some out) : cg p l e r_X_leadersBelow s m args below meth c D (cn_hi s) (fun _ => True) 4 0 0 (MQ below (cn_QR (some (.int out))) args s 0 0 (fun _ => False)) (w_X_leadersBelow cy A_x A_x_netOfPin A_x_pieces A_x_kept A_x_kept_leader A_x_airlines A_x_spare A_x_netBits A_x_grownBits x_layers x_kept_leader) 0 [(0, .ref A_x), (1, .int v1)] [] := by
  refine cg_iconst (v := 0) C d_X_leadersBelow_0 (by decide) ?_
  refine cg_istore_n (lv' := [(2, .int 0), (0, .ref A_x), (1, .int v1)]) C d_X_leadersBelow_1 (by decide) rfl ?_
  refine cg_iconst (v := 0) C d_X_leadersBelow_2 (by decide) ?_
  refine cg_istore_n (lv' := [(3, .int 0), (2, .int 0), (0, .ref A_x), (1, .int v1)]) C d_X_leadersBelow_3 (by decide) rfl ?_
  refine cg_sub (lv' := [(0, .ref A_x), (1, .int v1), (2, .int 0), (3, .int 0)]) [2, 3, 1, 0] rfl ?_
  exact t_X_leadersBelow_4 C hr hlk A_x A_x_netOfPin A_x_pieces A_x_kept A_x_kept_leader A_x_airlines A_x_spare A_x_netBits A_x_grownBits x_layers 4096 x_kept_leader v1 0 0 hF
abbrev F_X_leadersBelow (x_kept_leader : Nat → Int32) (v1 : Int32) : Option (Int32) := F_X_leadersBelow_0 x_kept_leader v1
theorem c_X_leadersBelow {l : Launch} {D : va_G} {cy : Nat → ClassId} (A_x : Nat) (A_x_netOfPin : Nat) (A_x_pieces : Nat) (A_x_kept : Nat) (A_x_kept_leader : Nat) (A_x_airlines : Nat) (A_x_spare : Nat) (A_x_netBits : Nat) (A_x_grownBits : Nat) (x_layers : Int32) (x_kept_leader : Nat → Int32) (v1 : Int32) {out : Int32} (hF : F_X_leadersBelow x_kept_leader v1 = some out) : cn_MR l y_X_leadersBelow b_X_leadersBelow 4 (some .int) r_X_leadersBelow D cy [.ref A_x, .int v1] (w_X_leadersBelow cy A_x A_x_netOfPin A_x_pieces A_x_kept A_x_kept_leader A_x_airlines A_x_spare A_x_netBits A_x_grownBits x_layers x_kept_leader) (some (.int out)) :=
  cn_MR.of (by decide) (Nat.le_of_ble_eq_true rfl) (fun p e s m below meth c C hr hlk => t_X_leadersBelow_0 C hr hlk A_x A_x_netOfPin A_x_pieces A_x_kept A_x_kept_leader A_x_airlines A_x_spare A_x_netBits A_x_grownBits x_layers x_kept_leader v1 hF)
