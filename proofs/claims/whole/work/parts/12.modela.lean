/-! CopperNetsModel.thrown()I -/
abbrev r_M_thrown : Room := { frames := 0, cells := 0, slots := 0, locals := 0 }
abbrev w_M_thrown (cy : Nat → ClassId) (A_m : Nat) (A_m_there : Nat) (A_m_low : Nat) (A_m_high : Nat) (A_m_x : Nat) (A_m_y : Nat) (A_m_w : Nat) (A_m_h : Nat) (A_m_r : Nat) (A_m_pinOf : Nat) (A_m_netOfPin : Nat) (A_m_label : Nat) (A_m_number : Nat) (A_m_group : Nat) (m_thrown : Int32) (m_layers : Int32) (m_pieces : Int32) (m_airSquare : Int64) (m_airLow : Int32) (m_airHigh : Int32) : va_W := [(A_m, .inr (4, [.int m_thrown, .int m_layers, .int m_pieces, .ref A_m_there, .ref A_m_low, .ref A_m_high, .ref A_m_x, .ref A_m_y, .ref A_m_w, .ref A_m_h, .ref A_m_r, .ref A_m_pinOf, .ref A_m_netOfPin, .ref A_m_label, .ref A_m_number, .ref A_m_group, .long m_airSquare, .int m_airLow, .int m_airHigh]))]
theorem hs_M_thrown : y_M_thrown.cls ≠ "java/lang/invoke/MethodHandle" ∧ y_M_thrown.cls ≠ "java/lang/invoke/VarHandle" ∧ (parseMethodDescriptor y_M_thrown.desc).map (fun d => d.parameters.length) = some 0 := by decide +kernel
def F_M_thrown_0 (m_thrown : Int32) : Option (Int32) := some (m_thrown)
set_option maxRecDepth 100000 in
set_option maxHeartbeats 4000000 in
theorem t_M_thrown_0 {p : Program} {l : Launch} {e : Env} {s : State} {m : MethodId} {args : Array Value} {below : List Frame} {meth : Method} {c : Code} {D : va_G} {cy : Nat → ClassId} {out : Int32} (C : cn_X p s m args c b_M_thrown 1 "CopperNetsModel" D cy) (hr : meth.sig.returnType = some .int) (hlk : meth.locks = false) (A_m : Nat) (A_m_there : Nat) (A_m_low : Nat) (A_m_high : Nat) (A_m_x : Nat) (A_m_y : Nat) (A_m_w : Nat) (A_m_h : Nat) (A_m_r : Nat) (A_m_pinOf : Nat) (A_m_netOfPin : Nat) (A_m_label : Nat) (A_m_number : Nat) (A_m_group : Nat) (m_layers : Int32) (m_pieces : Int32) (m_airSquare : Int64) (m_airLow : Int32) (m_airHigh : Int32) (m_thrown : Int32) (hF : F_M_thrown_0 m_thrown = some out) : cg p l e r_M_thrown s m args below meth c D (cn_hi s) (fun _ => True) 1 0 0 (MQ below (cn_QR (some (.int out))) args s 0 0 (fun _ => False)) (w_M_thrown cy A_m A_m_there A_m_low A_m_high A_m_x A_m_y A_m_w A_m_h A_m_r A_m_pinOf A_m_netOfPin A_m_label A_m_number A_m_group m_thrown m_layers m_pieces m_airSquare m_airLow m_airHigh) 0 [(0, .ref A_m)] [] := by
  refine cg_aload_n C d_M_thrown_0 0 rfl ?_
  refine cg_get C 0 0 d_M_thrown_1 rfl rfl hin_M (by decide) rfl tw_551 rfl ?_
  obtain rfl := Option.some.inj hF
  exact cg_iretR C hr hlk d_M_thrown_4
abbrev F_M_thrown (m_thrown : Int32) : Option (Int32) := F_M_thrown_0 m_thrown
theorem c_M_thrown {l : Launch} {D : va_G} {cy : Nat → ClassId} (A_m : Nat) (A_m_there : Nat) (A_m_low : Nat) (A_m_high : Nat) (A_m_x : Nat) (A_m_y : Nat) (A_m_w : Nat) (A_m_h : Nat) (A_m_r : Nat) (A_m_pinOf : Nat) (A_m_netOfPin : Nat) (A_m_label : Nat) (A_m_number : Nat) (A_m_group : Nat) (m_thrown : Int32) (m_layers : Int32) (m_pieces : Int32) (m_airSquare : Int64) (m_airLow : Int32) (m_airHigh : Int32) {out : Int32} (hF : F_M_thrown m_thrown = some out) : cn_MR l y_M_thrown b_M_thrown 1 (some .int) r_M_thrown D cy [.ref A_m] (w_M_thrown cy A_m A_m_there A_m_low A_m_high A_m_x A_m_y A_m_w A_m_h A_m_r A_m_pinOf A_m_netOfPin A_m_label A_m_number A_m_group m_thrown m_layers m_pieces m_airSquare m_airLow m_airHigh) (some (.int out)) :=
  cn_MR.of (by decide +kernel) (Nat.le_of_ble_eq_true rfl) (fun p e s m below meth c C hr hlk => t_M_thrown_0 C hr hlk A_m A_m_there A_m_low A_m_high A_m_x A_m_y A_m_w A_m_h A_m_r A_m_pinOf A_m_netOfPin A_m_label A_m_number A_m_group m_layers m_pieces m_airSquare m_airLow m_airHigh m_thrown hF)
/-! CopperNetsModel.isPlace(JJ)Z -/
abbrev r_M_isPlace : Room := { frames := 0, cells := 0, slots := 0, locals := 0 }
abbrev w_M_isPlace (cy : Nat → ClassId) : va_W := []
theorem hs_M_isPlace : y_M_isPlace.cls ≠ "java/lang/invoke/MethodHandle" ∧ y_M_isPlace.cls ≠ "java/lang/invoke/VarHandle" ∧ (parseMethodDescriptor y_M_isPlace.desc).map (fun d => d.parameters.length) = some 2 := by decide +kernel
def F_M_isPlace_37 (s0 : Int32) : Option (Int32) := cn_bl s0 (some (s0))
set_option maxRecDepth 100000 in
set_option maxHeartbeats 4000000 in
theorem t_M_isPlace_37 {p : Program} {l : Launch} {e : Env} {s : State} {m : MethodId} {args : Array Value} {below : List Frame} {meth : Method} {c : Code} {D : va_G} {cy : Nat → ClassId} {out : Int32} (C : cn_X p s m args c b_M_isPlace 4 "CopperNetsModel" D cy) (hr : meth.sig.returnType = some .boolean) (hlk : meth.locks = false) (s0 : Int32) (hF : F_M_isPlace_37 s0 = some out) : cg p l e r_M_isPlace s m args below meth c D (cn_hi s) (fun _ => True) 4 0 0 (MQ below (cn_QR (some (.int out))) args s 0 0 (fun _ => False)) (w_M_isPlace cy) 37 [] [.int s0] := by
  obtain ⟨hz, hF⟩ := cn_bl_some hF
  obtain rfl := Option.some.inj hF
  exact cg_zretR C hr hz hlk d_M_isPlace_37
def F_M_isPlace_36 : Option (Int32) := F_M_isPlace_37 0
set_option maxRecDepth 100000 in
set_option maxHeartbeats 4000000 in
theorem t_M_isPlace_36 {p : Program} {l : Launch} {e : Env} {s : State} {m : MethodId} {args : Array Value} {below : List Frame} {meth : Method} {c : Code} {D : va_G} {cy : Nat → ClassId} {out : Int32} (C : cn_X p s m args c b_M_isPlace 4 "CopperNetsModel" D cy) (hr : meth.sig.returnType = some .boolean) (hlk : meth.locks = false) (hF : F_M_isPlace_36 = some out) : cg p l e r_M_isPlace s m args below meth c D (cn_hi s) (fun _ => True) 4 0 0 (MQ below (cn_QR (some (.int out))) args s 0 0 (fun _ => False)) (w_M_isPlace cy) 36 [] [] := by
  refine cg_iconst (v := 0) C d_M_isPlace_36 (by decide) ?_
  exact t_M_isPlace_37 C hr hlk 0 hF
def F_M_isPlace_0 (v0 : Int64) (v2 : Int64) : Option (Int32) := if (lg_cmp v0 (-100000)) < 0 then (F_M_isPlace_36) else (if 0 < (lg_cmp v0 100000) then (F_M_isPlace_36) else (if (lg_cmp v2 (-100000)) < 0 then (F_M_isPlace_36) else (if 0 < (lg_cmp v2 100000) then (F_M_isPlace_36) else (F_M_isPlace_37 1))))
set_option maxRecDepth 100000 in
set_option maxHeartbeats 4000000 in
theorem t_M_isPlace_0 {p : Program} {l : Launch} {e : Env} {s : State} {m : MethodId} {args : Array Value} {below : List Frame} {meth : Method} {c : Code} {D : va_G} {cy : Nat → ClassId} {out : Int32} (C : cn_X p s m args c b_M_isPlace 4 "CopperNetsModel" D cy) (hr : meth.sig.returnType = some .boolean) (hlk : meth.locks = false) (v0 : Int64) (v2 : Int64) (hF : F_M_isPlace_0 v0 v2 = some out) : cg p l e r_M_isPlace s m args below meth c D (cn_hi s) (fun _ => True) 4 0 0 (MQ below (cn_QR (some (.int out))) args s 0 0 (fun _ => False)) (w_M_isPlace cy) 0 [(0, .long v0), (2, .long v2)] [] := by
  refine cg_lload_n C d_M_isPlace_0 0 rfl ?_
  refine cg_ldc2 (v := (-100000)) C d_M_isPlace_1 tw_620 ?_
  refine cg_lcmp C d_M_isPlace_4 ?_
  refine cg_if_lt C 36 d_M_isPlace_5 (by decide) (fun q_1 => ?_) (fun q_1 => ?_)
  · have hF := cn_pos q_1 hF
    refine cg_sub (lv' := []) [] rfl ?_
    exact t_M_isPlace_36 C hr hlk hF
  · have hF := cn_neg q_1 hF
    refine cg_lload_n C d_M_isPlace_8 0 rfl ?_
    refine cg_ldc2 (v := 100000) C d_M_isPlace_9 tw_621 ?_
    refine cg_lcmp C d_M_isPlace_12 ?_
    refine cg_if_gt C 36 d_M_isPlace_13 (by decide) (fun q_2 => ?_) (fun q_2 => ?_)
    · have hF := cn_pos q_2 hF
      refine cg_sub (lv' := []) [] rfl ?_
      exact t_M_isPlace_36 C hr hlk hF
    · have hF := cn_neg q_2 hF
      refine cg_lload_n C d_M_isPlace_16 1 rfl ?_
      refine cg_ldc2 (v := (-100000)) C d_M_isPlace_17 tw_620 ?_
      refine cg_lcmp C d_M_isPlace_20 ?_
      refine cg_if_lt C 36 d_M_isPlace_21 (by decide) (fun q_3 => ?_) (fun q_3 => ?_)
      · have hF := cn_pos q_3 hF
        refine cg_sub (lv' := []) [] rfl ?_
        exact t_M_isPlace_36 C hr hlk hF
      · have hF := cn_neg q_3 hF
        refine cg_lload_n C d_M_isPlace_24 1 rfl ?_
        refine cg_ldc2 (v := 100000) C d_M_isPlace_25 tw_621 ?_
        refine cg_lcmp C d_M_isPlace_28 ?_
        refine cg_if_gt C 36 d_M_isPlace_29 (by decide) (fun q_4 => ?_) (fun q_4 => ?_)
        · have hF := cn_pos q_4 hF
          refine cg_sub (lv' := []) [] rfl ?_
          exact t_M_isPlace_36 C hr hlk hF
        · have hF := cn_neg q_4 hF
          refine cg_iconst (v := 1) C d_M_isPlace_32 (by decide) ?_
          refine cg_goto C 37 d_M_isPlace_33 (by decide) ?_
          refine cg_sub (lv' := []) [] rfl ?_
          exact t_M_isPlace_37 C hr hlk 1 hF
abbrev F_M_isPlace (v0 : Int64) (v2 : Int64) : Option (Int32) := F_M_isPlace_0 v0 v2
theorem c_M_isPlace {l : Launch} {D : va_G} {cy : Nat → ClassId} (v0 : Int64) (v2 : Int64) {out : Int32} (hF : F_M_isPlace v0 v2 = some out) : cn_MR l y_M_isPlace b_M_isPlace 4 (some .boolean) r_M_isPlace D cy [.long v0, .long v2] (w_M_isPlace cy) (some (.int out)) :=
  cn_MR.of (by decide +kernel) (Nat.le_of_ble_eq_true rfl) (fun p e s m below meth c C hr hlk => t_M_isPlace_0 C hr hlk v0 v2 hF)
/-! CopperNetsModel.isSize(J)Z -/
abbrev r_M_isSize : Room := { frames := 0, cells := 0, slots := 0, locals := 0 }
abbrev w_M_isSize (cy : Nat → ClassId) : va_W := []
theorem hs_M_isSize : y_M_isSize.cls ≠ "java/lang/invoke/MethodHandle" ∧ y_M_isSize.cls ≠ "java/lang/invoke/VarHandle" ∧ (parseMethodDescriptor y_M_isSize.desc).map (fun d => d.parameters.length) = some 1 := by decide +kernel
def F_M_isSize_19 (s0 : Int32) : Option (Int32) := cn_bl s0 (some (s0))
set_option maxRecDepth 100000 in
set_option maxHeartbeats 4000000 in
theorem t_M_isSize_19 {p : Program} {l : Launch} {e : Env} {s : State} {m : MethodId} {args : Array Value} {below : List Frame} {meth : Method} {c : Code} {D : va_G} {cy : Nat → ClassId} {out : Int32} (C : cn_X p s m args c b_M_isSize 2 "CopperNetsModel" D cy) (hr : meth.sig.returnType = some .boolean) (hlk : meth.locks = false) (s0 : Int32) (hF : F_M_isSize_19 s0 = some out) : cg p l e r_M_isSize s m args below meth c D (cn_hi s) (fun _ => True) 2 0 0 (MQ below (cn_QR (some (.int out))) args s 0 0 (fun _ => False)) (w_M_isSize cy) 19 [] [.int s0] := by
  obtain ⟨hz, hF⟩ := cn_bl_some hF
  obtain rfl := Option.some.inj hF
  exact cg_zretR C hr hz hlk d_M_isSize_19
def F_M_isSize_18 : Option (Int32) := F_M_isSize_19 0
set_option maxRecDepth 100000 in
set_option maxHeartbeats 4000000 in
theorem t_M_isSize_18 {p : Program} {l : Launch} {e : Env} {s : State} {m : MethodId} {args : Array Value} {below : List Frame} {meth : Method} {c : Code} {D : va_G} {cy : Nat → ClassId} {out : Int32} (C : cn_X p s m args c b_M_isSize 2 "CopperNetsModel" D cy) (hr : meth.sig.returnType = some .boolean) (hlk : meth.locks = false) (hF : F_M_isSize_18 = some out) : cg p l e r_M_isSize s m args below meth c D (cn_hi s) (fun _ => True) 2 0 0 (MQ below (cn_QR (some (.int out))) args s 0 0 (fun _ => False)) (w_M_isSize cy) 18 [] [] := by
  refine cg_iconst (v := 0) C d_M_isSize_18 (by decide) ?_
  exact t_M_isSize_19 C hr hlk 0 hF
def F_M_isSize_0 (v0 : Int64) : Option (Int32) := if (lg_cmp v0 1) < 0 then (F_M_isSize_18) else (if 0 < (lg_cmp v0 100000) then (F_M_isSize_18) else (F_M_isSize_19 1))
set_option maxRecDepth 100000 in
set_option maxHeartbeats 4000000 in
theorem t_M_isSize_0 {p : Program} {l : Launch} {e : Env} {s : State} {m : MethodId} {args : Array Value} {below : List Frame} {meth : Method} {c : Code} {D : va_G} {cy : Nat → ClassId} {out : Int32} (C : cn_X p s m args c b_M_isSize 2 "CopperNetsModel" D cy) (hr : meth.sig.returnType = some .boolean) (hlk : meth.locks = false) (v0 : Int64) (hF : F_M_isSize_0 v0 = some out) : cg p l e r_M_isSize s m args below meth c D (cn_hi s) (fun _ => True) 2 0 0 (MQ below (cn_QR (some (.int out))) args s 0 0 (fun _ => False)) (w_M_isSize cy) 0 [(0, .long v0)] [] := by
  refine cg_lload_n C d_M_isSize_0 0 rfl ?_
  refine cg_lconst (v := 1) C d_M_isSize_1 (by decide) ?_
  refine cg_lcmp C d_M_isSize_2 ?_
  refine cg_if_lt C 18 d_M_isSize_3 (by decide) (fun q_1 => ?_) (fun q_1 => ?_)
  · have hF := cn_pos q_1 hF
    refine cg_sub (lv' := []) [] rfl ?_
    exact t_M_isSize_18 C hr hlk hF
  · have hF := cn_neg q_1 hF
    refine cg_lload_n C d_M_isSize_6 0 rfl ?_
    refine cg_ldc2 (v := 100000) C d_M_isSize_7 tw_621 ?_
    refine cg_lcmp C d_M_isSize_10 ?_
    refine cg_if_gt C 18 d_M_isSize_11 (by decide) (fun q_2 => ?_) (fun q_2 => ?_)
    · have hF := cn_pos q_2 hF
      refine cg_sub (lv' := []) [] rfl ?_
      exact t_M_isSize_18 C hr hlk hF
    · have hF := cn_neg q_2 hF
      refine cg_iconst (v := 1) C d_M_isSize_14 (by decide) ?_
      refine cg_goto C 19 d_M_isSize_15 (by decide) ?_
      refine cg_sub (lv' := []) [] rfl ?_
      exact t_M_isSize_19 C hr hlk 1 hF
abbrev F_M_isSize (v0 : Int64) : Option (Int32) := F_M_isSize_0 v0
theorem c_M_isSize {l : Launch} {D : va_G} {cy : Nat → ClassId} (v0 : Int64) {out : Int32} (hF : F_M_isSize v0 = some out) : cn_MR l y_M_isSize b_M_isSize 2 (some .boolean) r_M_isSize D cy [.long v0] (w_M_isSize cy) (some (.int out)) :=
  cn_MR.of (by decide +kernel) (Nat.le_of_ble_eq_true rfl) (fun p e s m below meth c C hr hlk => t_M_isSize_0 C hr hlk v0 hF)
/-! CopperNetsModel.isLayer(I)Z -/
abbrev r_M_isLayer : Room := { frames := 0, cells := 0, slots := 0, locals := 0 }
abbrev w_M_isLayer (cy : Nat → ClassId) (A_m : Nat) (A_m_there : Nat) (A_m_low : Nat) (A_m_high : Nat) (A_m_x : Nat) (A_m_y : Nat) (A_m_w : Nat) (A_m_h : Nat) (A_m_r : Nat) (A_m_pinOf : Nat) (A_m_netOfPin : Nat) (A_m_label : Nat) (A_m_number : Nat) (A_m_group : Nat) (m_thrown : Int32) (m_layers : Int32) (m_pieces : Int32) (m_airSquare : Int64) (m_airLow : Int32) (m_airHigh : Int32) : va_W := [(A_m, .inr (4, [.int m_thrown, .int m_layers, .int m_pieces, .ref A_m_there, .ref A_m_low, .ref A_m_high, .ref A_m_x, .ref A_m_y, .ref A_m_w, .ref A_m_h, .ref A_m_r, .ref A_m_pinOf, .ref A_m_netOfPin, .ref A_m_label, .ref A_m_number, .ref A_m_group, .long m_airSquare, .int m_airLow, .int m_airHigh]))]
theorem hs_M_isLayer : y_M_isLayer.cls ≠ "java/lang/invoke/MethodHandle" ∧ y_M_isLayer.cls ≠ "java/lang/invoke/VarHandle" ∧ (parseMethodDescriptor y_M_isLayer.desc).map (fun d => d.parameters.length) = some 1 := by decide +kernel
def F_M_isLayer_17 (m_layers : Int32) (s0 : Int32) : Option (Int32) := cn_bl s0 (some (s0))
set_option maxRecDepth 100000 in
set_option maxHeartbeats 4000000 in
theorem t_M_isLayer_17 {p : Program} {l : Launch} {e : Env} {s : State} {m : MethodId} {args : Array Value} {below : List Frame} {meth : Method} {c : Code} {D : va_G} {cy : Nat → ClassId} {out : Int32} (C : cn_X p s m args c b_M_isLayer 2 "CopperNetsModel" D cy) (hr : meth.sig.returnType = some .boolean) (hlk : meth.locks = false) (A_m : Nat) (A_m_there : Nat) (A_m_low : Nat) (A_m_high : Nat) (A_m_x : Nat) (A_m_y : Nat) (A_m_w : Nat) (A_m_h : Nat) (A_m_r : Nat) (A_m_pinOf : Nat) (A_m_netOfPin : Nat) (A_m_label : Nat) (A_m_number : Nat) (A_m_group : Nat) (m_thrown : Int32) (m_pieces : Int32) (m_airSquare : Int64) (m_airLow : Int32) (m_airHigh : Int32) (m_layers : Int32) (s0 : Int32) (hF : F_M_isLayer_17 m_layers s0 = some out) : cg p l e r_M_isLayer s m args below meth c D (cn_hi s) (fun _ => True) 2 0 0 (MQ below (cn_QR (some (.int out))) args s 0 0 (fun _ => False)) (w_M_isLayer cy A_m A_m_there A_m_low A_m_high A_m_x A_m_y A_m_w A_m_h A_m_r A_m_pinOf A_m_netOfPin A_m_label A_m_number A_m_group m_thrown m_layers m_pieces m_airSquare m_airLow m_airHigh) 17 [] [.int s0] := by
  obtain ⟨hz, hF⟩ := cn_bl_some hF
  obtain rfl := Option.some.inj hF
  exact cg_zretR C hr hz hlk d_M_isLayer_17
def F_M_isLayer_16 (m_layers : Int32) : Option (Int32) := F_M_isLayer_17 m_layers 0
set_option maxRecDepth 100000 in
set_option maxHeartbeats 4000000 in
theorem t_M_isLayer_16 {p : Program} {l : Launch} {e : Env} {s : State} {m : MethodId} {args : Array Value} {below : List Frame} {meth : Method} {c : Code} {D : va_G} {cy : Nat → ClassId} {out : Int32} (C : cn_X p s m args c b_M_isLayer 2 "CopperNetsModel" D cy) (hr : meth.sig.returnType = some .boolean) (hlk : meth.locks = false) (A_m : Nat) (A_m_there : Nat) (A_m_low : Nat) (A_m_high : Nat) (A_m_x : Nat) (A_m_y : Nat) (A_m_w : Nat) (A_m_h : Nat) (A_m_r : Nat) (A_m_pinOf : Nat) (A_m_netOfPin : Nat) (A_m_label : Nat) (A_m_number : Nat) (A_m_group : Nat) (m_thrown : Int32) (m_pieces : Int32) (m_airSquare : Int64) (m_airLow : Int32) (m_airHigh : Int32) (m_layers : Int32) (hF : F_M_isLayer_16 m_layers = some out) : cg p l e r_M_isLayer s m args below meth c D (cn_hi s) (fun _ => True) 2 0 0 (MQ below (cn_QR (some (.int out))) args s 0 0 (fun _ => False)) (w_M_isLayer cy A_m A_m_there A_m_low A_m_high A_m_x A_m_y A_m_w A_m_h A_m_r A_m_pinOf A_m_netOfPin A_m_label A_m_number A_m_group m_thrown m_layers m_pieces m_airSquare m_airLow m_airHigh) 16 [] [] := by
  refine cg_iconst (v := 0) C d_M_isLayer_16 (by decide) ?_
  exact t_M_isLayer_17 C hr hlk A_m A_m_there A_m_low A_m_high A_m_x A_m_y A_m_w A_m_h A_m_r A_m_pinOf A_m_netOfPin A_m_label A_m_number A_m_group m_thrown m_pieces m_airSquare m_airLow m_airHigh m_layers 0 hF
def F_M_isLayer_0 (m_layers : Int32) (v1 : Int32) : Option (Int32) := if v1 < 0 then (F_M_isLayer_16 m_layers) else (if m_layers ≤ v1 then (F_M_isLayer_16 m_layers) else (F_M_isLayer_17 m_layers 1))
set_option maxRecDepth 100000 in
set_option maxHeartbeats 4000000 in
theorem t_M_isLayer_0 {p : Program} {l : Launch} {e : Env} {s : State} {m : MethodId} {args : Array Value} {below : List Frame} {meth : Method} {c : Code} {D : va_G} {cy : Nat → ClassId} {out : Int32} (C : cn_X p s m args c b_M_isLayer 2 "CopperNetsModel" D cy) (hr : meth.sig.returnType = some .boolean) (hlk : meth.locks = false) (A_m : Nat) (A_m_there : Nat) (A_m_low : Nat) (A_m_high : Nat) (A_m_x : Nat) (A_m_y : Nat) (A_m_w : Nat) (A_m_h : Nat) (A_m_r : Nat) (A_m_pinOf : Nat) (A_m_netOfPin : Nat) (A_m_label : Nat) (A_m_number : Nat) (A_m_group : Nat) (m_thrown : Int32) (m_pieces : Int32) (m_airSquare : Int64) (m_airLow : Int32) (m_airHigh : Int32) (m_layers : Int32) (v1 : Int32) (hF : F_M_isLayer_0 m_layers v1 = some out) : cg p l e r_M_isLayer s m args below meth c D (cn_hi s) (fun _ => True) 2 0 0 (MQ below (cn_QR (some (.int out))) args s 0 0 (fun _ => False)) (w_M_isLayer cy A_m A_m_there A_m_low A_m_high A_m_x A_m_y A_m_w A_m_h A_m_r A_m_pinOf A_m_netOfPin A_m_label A_m_number A_m_group m_thrown m_layers m_pieces m_airSquare m_airLow m_airHigh) 0 [(0, .ref A_m), (1, .int v1)] [] := by
  refine cg_iload_n C d_M_isLayer_0 1 rfl ?_
  refine cg_if_lt C 16 d_M_isLayer_1 (by decide) (fun q_1 => ?_) (fun q_1 => ?_)
  · have hF := cn_pos q_1 hF
    refine cg_sub (lv' := []) [] rfl ?_
    exact t_M_isLayer_16 C hr hlk A_m A_m_there A_m_low A_m_high A_m_x A_m_y A_m_w A_m_h A_m_r A_m_pinOf A_m_netOfPin A_m_label A_m_number A_m_group m_thrown m_pieces m_airSquare m_airLow m_airHigh m_layers hF
  · have hF := cn_neg q_1 hF
    refine cg_iload_n C d_M_isLayer_4 1 rfl ?_
    refine cg_aload_n C d_M_isLayer_5 0 rfl ?_
    refine cg_get C 0 1 d_M_isLayer_6 rfl rfl hin_M (by decide) rfl tw_552 rfl ?_
    refine cg_icmp_ge C 16 d_M_isLayer_9 (by decide) (fun q_2 => ?_) (fun q_2 => ?_)
    · have hF := cn_pos q_2 hF
      refine cg_sub (lv' := []) [] rfl ?_
      exact t_M_isLayer_16 C hr hlk A_m A_m_there A_m_low A_m_high A_m_x A_m_y A_m_w A_m_h A_m_r A_m_pinOf A_m_netOfPin A_m_label A_m_number A_m_group m_thrown m_pieces m_airSquare m_airLow m_airHigh m_layers hF
    · have hF := cn_neg q_2 hF
      refine cg_iconst (v := 1) C d_M_isLayer_12 (by decide) ?_
      refine cg_goto C 17 d_M_isLayer_13 (by decide) ?_
      refine cg_sub (lv' := []) [] rfl ?_
      exact t_M_isLayer_17 C hr hlk A_m A_m_there A_m_low A_m_high A_m_x A_m_y A_m_w A_m_h A_m_r A_m_pinOf A_m_netOfPin A_m_label A_m_number A_m_group m_thrown m_pieces m_airSquare m_airLow m_airHigh m_layers 1 hF
abbrev F_M_isLayer (m_layers : Int32) (v1 : Int32) : Option (Int32) := F_M_isLayer_0 m_layers v1
theorem c_M_isLayer {l : Launch} {D : va_G} {cy : Nat → ClassId} (A_m : Nat) (A_m_there : Nat) (A_m_low : Nat) (A_m_high : Nat) (A_m_x : Nat) (A_m_y : Nat) (A_m_w : Nat) (A_m_h : Nat) (A_m_r : Nat) (A_m_pinOf : Nat) (A_m_netOfPin : Nat) (A_m_label : Nat) (A_m_number : Nat) (A_m_group : Nat) (m_thrown : Int32) (m_layers : Int32) (m_pieces : Int32) (m_airSquare : Int64) (m_airLow : Int32) (m_airHigh : Int32) (v1 : Int32) {out : Int32} (hF : F_M_isLayer m_layers v1 = some out) : cn_MR l y_M_isLayer b_M_isLayer 2 (some .boolean) r_M_isLayer D cy [.ref A_m, .int v1] (w_M_isLayer cy A_m A_m_there A_m_low A_m_high A_m_x A_m_y A_m_w A_m_h A_m_r A_m_pinOf A_m_netOfPin A_m_label A_m_number A_m_group m_thrown m_layers m_pieces m_airSquare m_airLow m_airHigh) (some (.int out)) :=
  cn_MR.of (by decide +kernel) (Nat.le_of_ble_eq_true rfl) (fun p e s m below meth c C hr hlk => t_M_isLayer_0 C hr hlk A_m A_m_there A_m_low A_m_high A_m_x A_m_y A_m_w A_m_h A_m_r A_m_pinOf A_m_netOfPin A_m_label A_m_number A_m_group m_thrown m_pieces m_airSquare m_airLow m_airHigh m_layers v1 hF)
/-! CopperNetsModel.add(IIJJJJJI)I -/
abbrev r_M_add : Room := { frames := 0, cells := 0, slots := 0, locals := 0 }
abbrev w_M_add (cy : Nat → ClassId) (A_m : Nat) (A_m_there : Nat) (A_m_low : Nat) (A_m_high : Nat) (A_m_x : Nat) (A_m_y : Nat) (A_m_w : Nat) (A_m_h : Nat) (A_m_r : Nat) (A_m_pinOf : Nat) (A_m_netOfPin : Nat) (A_m_label : Nat) (A_m_number : Nat) (A_m_group : Nat) (m_thrown : Int32) (m_layers : Int32) (m_pieces : Int32) (m_airSquare : Int64) (m_airLow : Int32) (m_airHigh : Int32) (m_there : Nat → Int32) (m_low : Nat → Int32) (m_high : Nat → Int32) (m_x : Nat → Int64) (m_y : Nat → Int64) (m_w : Nat → Int64) (m_h : Nat → Int64) (m_r : Nat → Int64) (m_pinOf : Nat → Int32) : va_W := [(A_m, .inr (4, [.int m_thrown, .int m_layers, .int m_pieces, .ref A_m_there, .ref A_m_low, .ref A_m_high, .ref A_m_x, .ref A_m_y, .ref A_m_w, .ref A_m_h, .ref A_m_r, .ref A_m_pinOf, .ref A_m_netOfPin, .ref A_m_label, .ref A_m_number, .ref A_m_group, .long m_airSquare, .int m_airLow, .int m_airHigh])), (A_m_there, .inl (cy 2, 60, .inl m_there)), (A_m_low, .inl (cy 0, 60, .inl m_low)), (A_m_high, .inl (cy 0, 60, .inl m_high)), (A_m_x, .inl (cy 1, 60, .inr (.inl m_x))), (A_m_y, .inl (cy 1, 60, .inr (.inl m_y))), (A_m_w, .inl (cy 1, 60, .inr (.inl m_w))), (A_m_h, .inl (cy 1, 60, .inr (.inl m_h))), (A_m_r, .inl (cy 1, 60, .inr (.inl m_r))), (A_m_pinOf, .inl (cy 0, 60, .inl m_pinOf))]
theorem hs_M_add : y_M_add.cls ≠ "java/lang/invoke/MethodHandle" ∧ y_M_add.cls ≠ "java/lang/invoke/VarHandle" ∧ (parseMethodDescriptor y_M_add.desc).map (fun d => d.parameters.length) = some 8 := by decide +kernel
def F_M_add_0 (m_pieces : Int32) (m_there : Nat → Int32) (m_low : Nat → Int32) (m_high : Nat → Int32) (m_x : Nat → Int64) (m_y : Nat → Int64) (m_w : Nat → Int64) (m_h : Nat → Int64) (m_r : Nat → Int64) (m_pinOf : Nat → Int32) (v1 : Int32) (v2 : Int32) (v3 : Int64) (v5 : Int64) (v7 : Int64) (v9 : Int64) (v11 : Int64) (v13 : Int32) : Option (Int32 × Int32 × (Nat → Int32) × (Nat → Int32) × (Nat → Int32) × (Nat → Int64) × (Nat → Int64) × (Nat → Int64) × (Nat → Int64) × (Nat → Int64) × (Nat → Int32)) := if m_pieces = 60 then (some ((-1), m_pieces, m_there, m_low, m_high, m_x, m_y, m_w, m_h, m_r, m_pinOf)) else (cn_rd m_pieces 60 (cn_rd m_pieces 60 (cn_rd m_pieces 60 (cn_rd m_pieces 60 (cn_rd m_pieces 60 (cn_rd m_pieces 60 (cn_rd m_pieces 60 (cn_rd m_pieces 60 (cn_rd m_pieces 60 (some (((m_pieces + 1) - 1), (m_pieces + 1), (upd m_there (Int32.toNatClampNeg m_pieces) (vp_nar .boolean 1)), (upd m_low (Int32.toNatClampNeg m_pieces) v1), (upd m_high (Int32.toNatClampNeg m_pieces) v2), (vp_updL m_x (Int32.toNatClampNeg m_pieces) v3), (vp_updL m_y (Int32.toNatClampNeg m_pieces) v5), (vp_updL m_w (Int32.toNatClampNeg m_pieces) v7), (vp_updL m_h (Int32.toNatClampNeg m_pieces) v9), (vp_updL m_r (Int32.toNatClampNeg m_pieces) v11), (upd m_pinOf (Int32.toNatClampNeg m_pieces) v13))))))))))))
set_option maxRecDepth 100000 in
set_option maxHeartbeats 4000000 in
theorem t_M_add_0 {p : Program} {l : Launch} {e : Env} {s : State} {m : MethodId} {args : Array Value} {below : List Frame} {meth : Method} {c : Code} {D : va_G} {cy : Nat → ClassId} {A : Nat → Prop} {out : Int32 × Int32 × (Nat → Int32) × (Nat → Int32) × (Nat → Int32) × (Nat → Int64) × (Nat → Int64) × (Nat → Int64) × (Nat → Int64) × (Nat → Int64) × (Nat → Int32)} (C : cn_X p s m args c b_M_add 14 "CopperNetsModel" D cy) (hr : meth.sig.returnType = some .int) (hlk : meth.locks = false) (hA : ∀ q, s.heap.size ≤ q → A q) (A_m : Nat) (A_m_there : Nat) (A_m_low : Nat) (A_m_high : Nat) (A_m_x : Nat) (A_m_y : Nat) (A_m_w : Nat) (A_m_h : Nat) (A_m_r : Nat) (A_m_pinOf : Nat) (A_m_netOfPin : Nat) (A_m_label : Nat) (A_m_number : Nat) (A_m_group : Nat) (m_thrown : Int32) (m_layers : Int32) (m_airSquare : Int64) (m_airLow : Int32) (m_airHigh : Int32) (m_pieces : Int32) (m_there : Nat → Int32) (m_low : Nat → Int32) (m_high : Nat → Int32) (m_x : Nat → Int64) (m_y : Nat → Int64) (m_w : Nat → Int64) (m_h : Nat → Int64) (m_r : Nat → Int64) (m_pinOf : Nat → Int32) (v1 : Int32) (v2 : Int32) (v3 : Int64) (v5 : Int64) (v7 : Int64) (v9 : Int64) (v11 : Int64) (v13 : Int32) (hF : F_M_add_0 m_pieces m_there m_low m_high m_x m_y m_w m_h m_r m_pinOf v1 v2 v3 v5 v7 v9 v11 v13 = some out) : cg p l e r_M_add s m args below meth c D (va_S A s.heap) A 14 0 0 (MQ below (cn_QW (some (.int out.1)) D (w_M_add cy A_m A_m_there A_m_low A_m_high A_m_x A_m_y A_m_w A_m_h A_m_r A_m_pinOf A_m_netOfPin A_m_label A_m_number A_m_group m_thrown m_layers out.2.1 m_airSquare m_airLow m_airHigh out.2.2.1 out.2.2.2.1 out.2.2.2.2.1 out.2.2.2.2.2.1 out.2.2.2.2.2.2.1 out.2.2.2.2.2.2.2.1 out.2.2.2.2.2.2.2.2.1 out.2.2.2.2.2.2.2.2.2.1 out.2.2.2.2.2.2.2.2.2.2) A) args s 0 0 A) (w_M_add cy A_m A_m_there A_m_low A_m_high A_m_x A_m_y A_m_w A_m_h A_m_r A_m_pinOf A_m_netOfPin A_m_label A_m_number A_m_group m_thrown m_layers m_pieces m_airSquare m_airLow m_airHigh m_there m_low m_high m_x m_y m_w m_h m_r m_pinOf) 0 [(0, .ref A_m), (1, .int v1), (2, .int v2), (3, .long v3), (5, .long v5), (7, .long v7), (9, .long v9), (11, .long v11), (13, .int v13)] [] := by
  refine cg_aload_n C d_M_add_0 0 rfl ?_
  refine cg_get C 0 2 d_M_add_1 rfl rfl hin_M (by decide) rfl tw_553 rfl ?_
  refine cg_bipush (v := 60) C d_M_add_4 (by decide) ?_
  refine cg_icmp_ne C 11 d_M_add_6 (by decide) (fun q_1 => ?_) (fun q_1 => ?_)
  · have hF := cn_neg q_1 hF
    refine cg_aload_n C d_M_add_11 0 rfl ?_
    refine cg_get C 0 3 d_M_add_12 rfl rfl hin_M (by decide) rfl tw_554 rfl ?_
    refine cg_aload_n C d_M_add_15 0 rfl ?_
    refine cg_get C 0 2 d_M_add_16 rfl rfl hin_M (by decide) rfl tw_553 rfl ?_
    refine cg_iconst (v := 1) C d_M_add_19 (by decide) ?_
    obtain ⟨i_2, hF⟩ := cn_rd_some hF
    refine cg_zast (ws' := w_M_add cy A_m A_m_there A_m_low A_m_high A_m_x A_m_y A_m_w A_m_h A_m_r A_m_pinOf A_m_netOfPin A_m_label A_m_number A_m_group m_thrown m_layers m_pieces m_airSquare m_airLow m_airHigh (upd m_there (Int32.toNatClampNeg m_pieces) (vp_nar .boolean 1)) m_low m_high m_x m_y m_w m_h m_r m_pinOf) C 1 d_M_add_20 rfl i_2 rfl ?_
    refine cg_aload_n C d_M_add_21 0 rfl ?_
    refine cg_get C 0 4 d_M_add_22 rfl rfl hin_M (by decide) rfl tw_555 rfl ?_
    refine cg_aload_n C d_M_add_25 0 rfl ?_
    refine cg_get C 0 2 d_M_add_26 rfl rfl hin_M (by decide) rfl tw_553 rfl ?_
    refine cg_iload_n C d_M_add_29 1 rfl ?_
    obtain ⟨i_3, hF⟩ := cn_rd_some hF
    refine cg_iast (ws' := w_M_add cy A_m A_m_there A_m_low A_m_high A_m_x A_m_y A_m_w A_m_h A_m_r A_m_pinOf A_m_netOfPin A_m_label A_m_number A_m_group m_thrown m_layers m_pieces m_airSquare m_airLow m_airHigh (upd m_there (Int32.toNatClampNeg m_pieces) (vp_nar .boolean 1)) (upd m_low (Int32.toNatClampNeg m_pieces) v1) m_high m_x m_y m_w m_h m_r m_pinOf) C 2 d_M_add_30 rfl i_3 rfl ?_
    refine cg_aload_n C d_M_add_31 0 rfl ?_
    refine cg_get C 0 5 d_M_add_32 rfl rfl hin_M (by decide) rfl tw_556 rfl ?_
    refine cg_aload_n C d_M_add_35 0 rfl ?_
    refine cg_get C 0 2 d_M_add_36 rfl rfl hin_M (by decide) rfl tw_553 rfl ?_
    refine cg_iload_n C d_M_add_39 2 rfl ?_
    obtain ⟨i_4, hF⟩ := cn_rd_some hF
    refine cg_iast (ws' := w_M_add cy A_m A_m_there A_m_low A_m_high A_m_x A_m_y A_m_w A_m_h A_m_r A_m_pinOf A_m_netOfPin A_m_label A_m_number A_m_group m_thrown m_layers m_pieces m_airSquare m_airLow m_airHigh (upd m_there (Int32.toNatClampNeg m_pieces) (vp_nar .boolean 1)) (upd m_low (Int32.toNatClampNeg m_pieces) v1) (upd m_high (Int32.toNatClampNeg m_pieces) v2) m_x m_y m_w m_h m_r m_pinOf) C 3 d_M_add_40 rfl i_4 rfl ?_
    refine cg_aload_n C d_M_add_41 0 rfl ?_
    refine cg_get C 0 6 d_M_add_42 rfl rfl hin_M (by decide) rfl tw_557 rfl ?_
    refine cg_aload_n C d_M_add_45 0 rfl ?_
    refine cg_get C 0 2 d_M_add_46 rfl rfl hin_M (by decide) rfl tw_553 rfl ?_
    refine cg_lload_n C d_M_add_49 3 rfl ?_
    obtain ⟨i_5, hF⟩ := cn_rd_some hF
    refine cg_last (ws' := w_M_add cy A_m A_m_there A_m_low A_m_high A_m_x A_m_y A_m_w A_m_h A_m_r A_m_pinOf A_m_netOfPin A_m_label A_m_number A_m_group m_thrown m_layers m_pieces m_airSquare m_airLow m_airHigh (upd m_there (Int32.toNatClampNeg m_pieces) (vp_nar .boolean 1)) (upd m_low (Int32.toNatClampNeg m_pieces) v1) (upd m_high (Int32.toNatClampNeg m_pieces) v2) (vp_updL m_x (Int32.toNatClampNeg m_pieces) v3) m_y m_w m_h m_r m_pinOf) C 4 d_M_add_50 rfl i_5 rfl ?_
    refine cg_aload_n C d_M_add_51 0 rfl ?_
    refine cg_get C 0 7 d_M_add_52 rfl rfl hin_M (by decide) rfl tw_558 rfl ?_
    refine cg_aload_n C d_M_add_55 0 rfl ?_
    refine cg_get C 0 2 d_M_add_56 rfl rfl hin_M (by decide) rfl tw_553 rfl ?_
    refine cg_lload C d_M_add_59 4 rfl ?_
    obtain ⟨i_6, hF⟩ := cn_rd_some hF
    refine cg_last (ws' := w_M_add cy A_m A_m_there A_m_low A_m_high A_m_x A_m_y A_m_w A_m_h A_m_r A_m_pinOf A_m_netOfPin A_m_label A_m_number A_m_group m_thrown m_layers m_pieces m_airSquare m_airLow m_airHigh (upd m_there (Int32.toNatClampNeg m_pieces) (vp_nar .boolean 1)) (upd m_low (Int32.toNatClampNeg m_pieces) v1) (upd m_high (Int32.toNatClampNeg m_pieces) v2) (vp_updL m_x (Int32.toNatClampNeg m_pieces) v3) (vp_updL m_y (Int32.toNatClampNeg m_pieces) v5) m_w m_h m_r m_pinOf) C 5 d_M_add_61 rfl i_6 rfl ?_
    refine cg_aload_n C d_M_add_62 0 rfl ?_
    refine cg_get C 0 8 d_M_add_63 rfl rfl hin_M (by decide) rfl tw_559 rfl ?_
    refine cg_aload_n C d_M_add_66 0 rfl ?_
    refine cg_get C 0 2 d_M_add_67 rfl rfl hin_M (by decide) rfl tw_553 rfl ?_
    refine cg_lload C d_M_add_70 5 rfl ?_
    obtain ⟨i_7, hF⟩ := cn_rd_some hF
    refine cg_last (ws' := w_M_add cy A_m A_m_there A_m_low A_m_high A_m_x A_m_y A_m_w A_m_h A_m_r A_m_pinOf A_m_netOfPin A_m_label A_m_number A_m_group m_thrown m_layers m_pieces m_airSquare m_airLow m_airHigh (upd m_there (Int32.toNatClampNeg m_pieces) (vp_nar .boolean 1)) (upd m_low (Int32.toNatClampNeg m_pieces) v1) (upd m_high (Int32.toNatClampNeg m_pieces) v2) (vp_updL m_x (Int32.toNatClampNeg m_pieces) v3) (vp_updL m_y (Int32.toNatClampNeg m_pieces) v5) (vp_updL m_w (Int32.toNatClampNeg m_pieces) v7) m_h m_r m_pinOf) C 6 d_M_add_72 rfl i_7 rfl ?_
    refine cg_aload_n C d_M_add_73 0 rfl ?_
    refine cg_get C 0 9 d_M_add_74 rfl rfl hin_M (by decide) rfl tw_560 rfl ?_
    refine cg_aload_n C d_M_add_77 0 rfl ?_
    refine cg_get C 0 2 d_M_add_78 rfl rfl hin_M (by decide) rfl tw_553 rfl ?_
    refine cg_lload C d_M_add_81 6 rfl ?_
    obtain ⟨i_8, hF⟩ := cn_rd_some hF
    refine cg_last (ws' := w_M_add cy A_m A_m_there A_m_low A_m_high A_m_x A_m_y A_m_w A_m_h A_m_r A_m_pinOf A_m_netOfPin A_m_label A_m_number A_m_group m_thrown m_layers m_pieces m_airSquare m_airLow m_airHigh (upd m_there (Int32.toNatClampNeg m_pieces) (vp_nar .boolean 1)) (upd m_low (Int32.toNatClampNeg m_pieces) v1) (upd m_high (Int32.toNatClampNeg m_pieces) v2) (vp_updL m_x (Int32.toNatClampNeg m_pieces) v3) (vp_updL m_y (Int32.toNatClampNeg m_pieces) v5) (vp_updL m_w (Int32.toNatClampNeg m_pieces) v7) (vp_updL m_h (Int32.toNatClampNeg m_pieces) v9) m_r m_pinOf) C 7 d_M_add_83 rfl i_8 rfl ?_
    refine cg_aload_n C d_M_add_84 0 rfl ?_
    refine cg_get C 0 10 d_M_add_85 rfl rfl hin_M (by decide) rfl tw_561 rfl ?_
    refine cg_aload_n C d_M_add_88 0 rfl ?_
    refine cg_get C 0 2 d_M_add_89 rfl rfl hin_M (by decide) rfl tw_553 rfl ?_
    refine cg_lload C d_M_add_92 7 rfl ?_
    obtain ⟨i_9, hF⟩ := cn_rd_some hF
    refine cg_last (ws' := w_M_add cy A_m A_m_there A_m_low A_m_high A_m_x A_m_y A_m_w A_m_h A_m_r A_m_pinOf A_m_netOfPin A_m_label A_m_number A_m_group m_thrown m_layers m_pieces m_airSquare m_airLow m_airHigh (upd m_there (Int32.toNatClampNeg m_pieces) (vp_nar .boolean 1)) (upd m_low (Int32.toNatClampNeg m_pieces) v1) (upd m_high (Int32.toNatClampNeg m_pieces) v2) (vp_updL m_x (Int32.toNatClampNeg m_pieces) v3) (vp_updL m_y (Int32.toNatClampNeg m_pieces) v5) (vp_updL m_w (Int32.toNatClampNeg m_pieces) v7) (vp_updL m_h (Int32.toNatClampNeg m_pieces) v9) (vp_updL m_r (Int32.toNatClampNeg m_pieces) v11) m_pinOf) C 8 d_M_add_94 rfl i_9 rfl ?_
    refine cg_aload_n C d_M_add_95 0 rfl ?_
    refine cg_get C 0 11 d_M_add_96 rfl rfl hin_M (by decide) rfl tw_562 rfl ?_
    refine cg_aload_n C d_M_add_99 0 rfl ?_
    refine cg_get C 0 2 d_M_add_100 rfl rfl hin_M (by decide) rfl tw_553 rfl ?_
    refine cg_iload C d_M_add_103 8 rfl ?_
    obtain ⟨i_10, hF⟩ := cn_rd_some hF
    refine cg_iast (ws' := w_M_add cy A_m A_m_there A_m_low A_m_high A_m_x A_m_y A_m_w A_m_h A_m_r A_m_pinOf A_m_netOfPin A_m_label A_m_number A_m_group m_thrown m_layers m_pieces m_airSquare m_airLow m_airHigh (upd m_there (Int32.toNatClampNeg m_pieces) (vp_nar .boolean 1)) (upd m_low (Int32.toNatClampNeg m_pieces) v1) (upd m_high (Int32.toNatClampNeg m_pieces) v2) (vp_updL m_x (Int32.toNatClampNeg m_pieces) v3) (vp_updL m_y (Int32.toNatClampNeg m_pieces) v5) (vp_updL m_w (Int32.toNatClampNeg m_pieces) v7) (vp_updL m_h (Int32.toNatClampNeg m_pieces) v9) (vp_updL m_r (Int32.toNatClampNeg m_pieces) v11) (upd m_pinOf (Int32.toNatClampNeg m_pieces) v13)) C 9 d_M_add_105 rfl i_10 rfl ?_
    refine cg_aload_n C d_M_add_106 0 rfl ?_
    refine cg_dup C d_M_add_107 rfl ?_
    refine cg_get C 0 2 d_M_add_108 rfl rfl hin_M (by decide) rfl tw_553 rfl ?_
    refine cg_iconst (v := 1) C d_M_add_111 (by decide) ?_
    refine cg_iadd C d_M_add_112 ?_
    refine cg_put (ws' := w_M_add cy A_m A_m_there A_m_low A_m_high A_m_x A_m_y A_m_w A_m_h A_m_r A_m_pinOf A_m_netOfPin A_m_label A_m_number A_m_group m_thrown m_layers (m_pieces + 1) m_airSquare m_airLow m_airHigh (upd m_there (Int32.toNatClampNeg m_pieces) (vp_nar .boolean 1)) (upd m_low (Int32.toNatClampNeg m_pieces) v1) (upd m_high (Int32.toNatClampNeg m_pieces) v2) (vp_updL m_x (Int32.toNatClampNeg m_pieces) v3) (vp_updL m_y (Int32.toNatClampNeg m_pieces) v5) (vp_updL m_w (Int32.toNatClampNeg m_pieces) v7) (vp_updL m_h (Int32.toNatClampNeg m_pieces) v9) (vp_updL m_r (Int32.toNatClampNeg m_pieces) v11) (upd m_pinOf (Int32.toNatClampNeg m_pieces) v13)) C 0 2 t_M d_M_add_113 rfl rfl hin_M tt_M n_M (by decide) rfl tw_553 rfl rfl (Nat.le_of_ble_eq_true rfl) rfl ?_
    refine cg_aload_n C d_M_add_116 0 rfl ?_
    refine cg_get C 0 2 d_M_add_117 rfl rfl hin_M (by decide) rfl tw_553 rfl ?_
    refine cg_iconst (v := 1) C d_M_add_120 (by decide) ?_
    refine cg_isub C d_M_add_121 ?_
    obtain rfl := Option.some.inj hF
    exact cg_iretW C hr hlk d_M_add_122
  · have hF := cn_pos q_1 hF
    refine cg_iconst (v := (-1)) C d_M_add_9 (by decide) ?_
    obtain rfl := Option.some.inj hF
    exact cg_iretW C hr hlk d_M_add_10
abbrev F_M_add (m_pieces : Int32) (m_there : Nat → Int32) (m_low : Nat → Int32) (m_high : Nat → Int32) (m_x : Nat → Int64) (m_y : Nat → Int64) (m_w : Nat → Int64) (m_h : Nat → Int64) (m_r : Nat → Int64) (m_pinOf : Nat → Int32) (v1 : Int32) (v2 : Int32) (v3 : Int64) (v5 : Int64) (v7 : Int64) (v9 : Int64) (v11 : Int64) (v13 : Int32) : Option (Int32 × Int32 × (Nat → Int32) × (Nat → Int32) × (Nat → Int32) × (Nat → Int64) × (Nat → Int64) × (Nat → Int64) × (Nat → Int64) × (Nat → Int64) × (Nat → Int32)) := F_M_add_0 m_pieces m_there m_low m_high m_x m_y m_w m_h m_r m_pinOf v1 v2 v3 v5 v7 v9 v11 v13
theorem c_M_add {l : Launch} {D : va_G} {cy : Nat → ClassId} (A_m : Nat) (A_m_there : Nat) (A_m_low : Nat) (A_m_high : Nat) (A_m_x : Nat) (A_m_y : Nat) (A_m_w : Nat) (A_m_h : Nat) (A_m_r : Nat) (A_m_pinOf : Nat) (A_m_netOfPin : Nat) (A_m_label : Nat) (A_m_number : Nat) (A_m_group : Nat) (m_thrown : Int32) (m_layers : Int32) (m_pieces : Int32) (m_airSquare : Int64) (m_airLow : Int32) (m_airHigh : Int32) (m_there : Nat → Int32) (m_low : Nat → Int32) (m_high : Nat → Int32) (m_x : Nat → Int64) (m_y : Nat → Int64) (m_w : Nat → Int64) (m_h : Nat → Int64) (m_r : Nat → Int64) (m_pinOf : Nat → Int32) (v1 : Int32) (v2 : Int32) (v3 : Int64) (v5 : Int64) (v7 : Int64) (v9 : Int64) (v11 : Int64) (v13 : Int32) {out : Int32 × Int32 × (Nat → Int32) × (Nat → Int32) × (Nat → Int32) × (Nat → Int64) × (Nat → Int64) × (Nat → Int64) × (Nat → Int64) × (Nat → Int64) × (Nat → Int32)} (hF : F_M_add m_pieces m_there m_low m_high m_x m_y m_w m_h m_r m_pinOf v1 v2 v3 v5 v7 v9 v11 v13 = some out) : cn_MW l y_M_add b_M_add 14 (some .int) r_M_add D cy [.ref A_m, .int v1, .int v2, .long v3, .long v5, .long v7, .long v9, .long v11, .int v13] (w_M_add cy A_m A_m_there A_m_low A_m_high A_m_x A_m_y A_m_w A_m_h A_m_r A_m_pinOf A_m_netOfPin A_m_label A_m_number A_m_group m_thrown m_layers m_pieces m_airSquare m_airLow m_airHigh m_there m_low m_high m_x m_y m_w m_h m_r m_pinOf) (some (.int out.1)) (w_M_add cy A_m A_m_there A_m_low A_m_high A_m_x A_m_y A_m_w A_m_h A_m_r A_m_pinOf A_m_netOfPin A_m_label A_m_number A_m_group m_thrown m_layers out.2.1 m_airSquare m_airLow m_airHigh out.2.2.1 out.2.2.2.1 out.2.2.2.2.1 out.2.2.2.2.2.1 out.2.2.2.2.2.2.1 out.2.2.2.2.2.2.2.1 out.2.2.2.2.2.2.2.2.1 out.2.2.2.2.2.2.2.2.2.1 out.2.2.2.2.2.2.2.2.2.2) 0 0 :=
  cn_MW.of (by decide +kernel) (Nat.le_of_ble_eq_true rfl) (fun p e s m below meth c A C hr hlk hA => t_M_add_0 C hr hlk hA A_m A_m_there A_m_low A_m_high A_m_x A_m_y A_m_w A_m_h A_m_r A_m_pinOf A_m_netOfPin A_m_label A_m_number A_m_group m_thrown m_layers m_airSquare m_airLow m_airHigh m_pieces m_there m_low m_high m_x m_y m_w m_h m_r m_pinOf v1 v2 v3 v5 v7 v9 v11 v13 hF)
/-! CopperNetsModel.shape(IJJJJ)I -/
abbrev r_M_shape : Room := { frames := 1, cells := 0, slots := 0, locals := 33 }
abbrev w_M_shape (cy : Nat → ClassId) (A_m : Nat) (A_m_there : Nat) (A_m_low : Nat) (A_m_high : Nat) (A_m_x : Nat) (A_m_y : Nat) (A_m_w : Nat) (A_m_h : Nat) (A_m_r : Nat) (A_m_pinOf : Nat) (A_m_netOfPin : Nat) (A_m_label : Nat) (A_m_number : Nat) (A_m_group : Nat) (m_thrown : Int32) (m_layers : Int32) (m_pieces : Int32) (m_airSquare : Int64) (m_airLow : Int32) (m_airHigh : Int32) (m_there : Nat → Int32) (m_low : Nat → Int32) (m_high : Nat → Int32) (m_x : Nat → Int64) (m_y : Nat → Int64) (m_w : Nat → Int64) (m_h : Nat → Int64) (m_r : Nat → Int64) (m_pinOf : Nat → Int32) : va_W := [(A_m, .inr (4, [.int m_thrown, .int m_layers, .int m_pieces, .ref A_m_there, .ref A_m_low, .ref A_m_high, .ref A_m_x, .ref A_m_y, .ref A_m_w, .ref A_m_h, .ref A_m_r, .ref A_m_pinOf, .ref A_m_netOfPin, .ref A_m_label, .ref A_m_number, .ref A_m_group, .long m_airSquare, .int m_airLow, .int m_airHigh])), (A_m_there, .inl (cy 2, 60, .inl m_there)), (A_m_low, .inl (cy 0, 60, .inl m_low)), (A_m_high, .inl (cy 0, 60, .inl m_high)), (A_m_x, .inl (cy 1, 60, .inr (.inl m_x))), (A_m_y, .inl (cy 1, 60, .inr (.inl m_y))), (A_m_w, .inl (cy 1, 60, .inr (.inl m_w))), (A_m_h, .inl (cy 1, 60, .inr (.inl m_h))), (A_m_r, .inl (cy 1, 60, .inr (.inl m_r))), (A_m_pinOf, .inl (cy 0, 60, .inl m_pinOf))]
theorem hs_M_shape : y_M_shape.cls ≠ "java/lang/invoke/MethodHandle" ∧ y_M_shape.cls ≠ "java/lang/invoke/VarHandle" ∧ (parseMethodDescriptor y_M_shape.desc).map (fun d => d.parameters.length) = some 5 := by decide +kernel
def F_M_shape_84 (m_thrown : Int32) (m_layers : Int32) (m_pieces : Int32) (m_there : Nat → Int32) (m_low : Nat → Int32) (m_high : Nat → Int32) (m_x : Nat → Int64) (m_y : Nat → Int64) (m_w : Nat → Int64) (m_h : Nat → Int64) (m_r : Nat → Int64) (m_pinOf : Nat → Int32) (s0 : Int32) : Option (Int32 × Int32 × Int32 × (Nat → Int32) × (Nat → Int32) × (Nat → Int32) × (Nat → Int64) × (Nat → Int64) × (Nat → Int64) × (Nat → Int64) × (Nat → Int64) × (Nat → Int32)) := some (s0, m_thrown, m_pieces, m_there, m_low, m_high, m_x, m_y, m_w, m_h, m_r, m_pinOf)
set_option maxRecDepth 100000 in
set_option maxHeartbeats 4000000 in
theorem t_M_shape_84 {p : Program} {l : Launch} {e : Env} {s : State} {m : MethodId} {args : Array Value} {below : List Frame} {meth : Method} {c : Code} {D : va_G} {cy : Nat → ClassId} {A : Nat → Prop} {out : Int32 × Int32 × Int32 × (Nat → Int32) × (Nat → Int32) × (Nat → Int32) × (Nat → Int64) × (Nat → Int64) × (Nat → Int64) × (Nat → Int64) × (Nat → Int64) × (Nat → Int32)} (C : cn_X p s m args c b_M_shape 11 "CopperNetsModel" D cy) (hr : meth.sig.returnType = some .int) (hlk : meth.locks = false) (hA : ∀ q, s.heap.size ≤ q → A q) (A_m : Nat) (A_m_there : Nat) (A_m_low : Nat) (A_m_high : Nat) (A_m_x : Nat) (A_m_y : Nat) (A_m_w : Nat) (A_m_h : Nat) (A_m_r : Nat) (A_m_pinOf : Nat) (A_m_netOfPin : Nat) (A_m_label : Nat) (A_m_number : Nat) (A_m_group : Nat) (m_airSquare : Int64) (m_airLow : Int32) (m_airHigh : Int32) (m_thrown : Int32) (m_layers : Int32) (m_pieces : Int32) (m_there : Nat → Int32) (m_low : Nat → Int32) (m_high : Nat → Int32) (m_x : Nat → Int64) (m_y : Nat → Int64) (m_w : Nat → Int64) (m_h : Nat → Int64) (m_r : Nat → Int64) (m_pinOf : Nat → Int32) (s0 : Int32) (hF : F_M_shape_84 m_thrown m_layers m_pieces m_there m_low m_high m_x m_y m_w m_h m_r m_pinOf s0 = some out) : cg p l e r_M_shape s m args below meth c D (va_S A s.heap) A 11 0 0 (MQ below (cn_QW (some (.int out.1)) D (w_M_shape cy A_m A_m_there A_m_low A_m_high A_m_x A_m_y A_m_w A_m_h A_m_r A_m_pinOf A_m_netOfPin A_m_label A_m_number A_m_group out.2.1 m_layers out.2.2.1 m_airSquare m_airLow m_airHigh out.2.2.2.1 out.2.2.2.2.1 out.2.2.2.2.2.1 out.2.2.2.2.2.2.1 out.2.2.2.2.2.2.2.1 out.2.2.2.2.2.2.2.2.1 out.2.2.2.2.2.2.2.2.2.1 out.2.2.2.2.2.2.2.2.2.2.1 out.2.2.2.2.2.2.2.2.2.2.2) A) args s 0 0 A) (w_M_shape cy A_m A_m_there A_m_low A_m_high A_m_x A_m_y A_m_w A_m_h A_m_r A_m_pinOf A_m_netOfPin A_m_label A_m_number A_m_group m_thrown m_layers m_pieces m_airSquare m_airLow m_airHigh m_there m_low m_high m_x m_y m_w m_h m_r m_pinOf) 84 [] [.int s0] := by
  obtain rfl := Option.some.inj hF
  exact cg_iretW C hr hlk d_M_shape_84
def F_M_shape_55 (m_thrown : Int32) (m_layers : Int32) (m_pieces : Int32) (m_there : Nat → Int32) (m_low : Nat → Int32) (m_high : Nat → Int32) (m_x : Nat → Int64) (m_y : Nat → Int64) (m_w : Nat → Int64) (m_h : Nat → Int64) (m_r : Nat → Int64) (m_pinOf : Nat → Int32) (v1 : Int32) (v2 : Int64) (v4 : Int64) (v6 : Int64) (v8 : Int64) (s1 : Int32) : Option (Int32 × Int32 × Int32 × (Nat → Int32) × (Nat → Int32) × (Nat → Int32) × (Nat → Int64) × (Nat → Int64) × (Nat → Int64) × (Nat → Int64) × (Nat → Int64) × (Nat → Int32)) := if s1 = 0 then ((F_M_add m_pieces m_there m_low m_high m_x m_y m_w m_h m_r m_pinOf v1 v1 v2 v4 v6 v8 0 (-1)).bind fun t_3 => F_M_shape_84 s1 m_layers t_3.2.1 t_3.2.2.1 t_3.2.2.2.1 t_3.2.2.2.2.1 t_3.2.2.2.2.2.1 t_3.2.2.2.2.2.2.1 t_3.2.2.2.2.2.2.2.1 t_3.2.2.2.2.2.2.2.2.1 t_3.2.2.2.2.2.2.2.2.2.1 t_3.2.2.2.2.2.2.2.2.2.2 t_3.1) else (F_M_shape_84 s1 m_layers m_pieces m_there m_low m_high m_x m_y m_w m_h m_r m_pinOf 0)
set_option maxRecDepth 100000 in
set_option maxHeartbeats 4000000 in
theorem t_M_shape_55 {p : Program} {l : Launch} {e : Env} {s : State} {m : MethodId} {args : Array Value} {below : List Frame} {meth : Method} {c : Code} {D : va_G} {cy : Nat → ClassId} {A : Nat → Prop} {out : Int32 × Int32 × Int32 × (Nat → Int32) × (Nat → Int32) × (Nat → Int32) × (Nat → Int64) × (Nat → Int64) × (Nat → Int64) × (Nat → Int64) × (Nat → Int64) × (Nat → Int32)} (C : cn_X p s m args c b_M_shape 11 "CopperNetsModel" D cy) (hr : meth.sig.returnType = some .int) (hlk : meth.locks = false) (hA : ∀ q, s.heap.size ≤ q → A q) (A_m : Nat) (A_m_there : Nat) (A_m_low : Nat) (A_m_high : Nat) (A_m_x : Nat) (A_m_y : Nat) (A_m_w : Nat) (A_m_h : Nat) (A_m_r : Nat) (A_m_pinOf : Nat) (A_m_netOfPin : Nat) (A_m_label : Nat) (A_m_number : Nat) (A_m_group : Nat) (m_airSquare : Int64) (m_airLow : Int32) (m_airHigh : Int32) (m_thrown : Int32) (m_layers : Int32) (m_pieces : Int32) (m_there : Nat → Int32) (m_low : Nat → Int32) (m_high : Nat → Int32) (m_x : Nat → Int64) (m_y : Nat → Int64) (m_w : Nat → Int64) (m_h : Nat → Int64) (m_r : Nat → Int64) (m_pinOf : Nat → Int32) (v1 : Int32) (v2 : Int64) (v4 : Int64) (v6 : Int64) (v8 : Int64) (s1 : Int32) (hF : F_M_shape_55 m_thrown m_layers m_pieces m_there m_low m_high m_x m_y m_w m_h m_r m_pinOf v1 v2 v4 v6 v8 s1 = some out) : cg p l e r_M_shape s m args below meth c D (va_S A s.heap) A 11 0 0 (MQ below (cn_QW (some (.int out.1)) D (w_M_shape cy A_m A_m_there A_m_low A_m_high A_m_x A_m_y A_m_w A_m_h A_m_r A_m_pinOf A_m_netOfPin A_m_label A_m_number A_m_group out.2.1 m_layers out.2.2.1 m_airSquare m_airLow m_airHigh out.2.2.2.1 out.2.2.2.2.1 out.2.2.2.2.2.1 out.2.2.2.2.2.2.1 out.2.2.2.2.2.2.2.1 out.2.2.2.2.2.2.2.2.1 out.2.2.2.2.2.2.2.2.2.1 out.2.2.2.2.2.2.2.2.2.2.1 out.2.2.2.2.2.2.2.2.2.2.2) A) args s 0 0 A) (w_M_shape cy A_m A_m_there A_m_low A_m_high A_m_x A_m_y A_m_w A_m_h A_m_r A_m_pinOf A_m_netOfPin A_m_label A_m_number A_m_group m_thrown m_layers m_pieces m_airSquare m_airLow m_airHigh m_there m_low m_high m_x m_y m_w m_h m_r m_pinOf) 55 [(0, .ref A_m), (1, .int v1), (2, .long v2), (4, .long v4), (6, .long v6), (8, .long v8)] [.int s1, .ref A_m] := by
  refine cg_put (ws' := w_M_shape cy A_m A_m_there A_m_low A_m_high A_m_x A_m_y A_m_w A_m_h A_m_r A_m_pinOf A_m_netOfPin A_m_label A_m_number A_m_group s1 m_layers m_pieces m_airSquare m_airLow m_airHigh m_there m_low m_high m_x m_y m_w m_h m_r m_pinOf) C 0 0 t_M d_M_shape_55 rfl rfl hin_M tt_M n_M (by decide) rfl tw_551 rfl rfl (Nat.le_of_ble_eq_true rfl) rfl ?_
  refine cg_aload_n C d_M_shape_58 0 rfl ?_
  refine cg_get C 0 0 d_M_shape_59 rfl rfl hin_M (by decide) rfl tw_551 rfl ?_
  refine cg_if_ne C 83 d_M_shape_62 (by decide) (fun q_1 => ?_) (fun q_1 => ?_)
  · have hF := cn_neg q_1 hF
    refine cg_iconst (v := 0) C d_M_shape_83 (by decide) ?_
    refine cg_sub (lv' := []) [] rfl ?_
    exact t_M_shape_84 C hr hlk hA A_m A_m_there A_m_low A_m_high A_m_x A_m_y A_m_w A_m_h A_m_r A_m_pinOf A_m_netOfPin A_m_label A_m_number A_m_group m_airSquare m_airLow m_airHigh s1 m_layers m_pieces m_there m_low m_high m_x m_y m_w m_h m_r m_pinOf 0 hF
  · have hF := cn_pos q_1 hF
    refine cg_aload_n C d_M_shape_65 0 rfl ?_
    refine cg_iload_n C d_M_shape_66 1 rfl ?_
    refine cg_iload_n C d_M_shape_67 1 rfl ?_
    refine cg_lload_n C d_M_shape_68 2 rfl ?_
    refine cg_lload C d_M_shape_69 3 rfl ?_
    refine cg_lload C d_M_shape_71 4 rfl ?_
    refine cg_lload C d_M_shape_73 5 rfl ?_
    refine cg_lconst (v := 0) C d_M_shape_75 (by decide) ?_
    refine cg_iconst (v := (-1)) C d_M_shape_76 (by decide) ?_
    obtain ⟨t_3, h_2, hF⟩ := cn_bind hF
    refine cg_callWV C hA (c_M_add A_m A_m_there A_m_low A_m_high A_m_x A_m_y A_m_w A_m_h A_m_r A_m_pinOf A_m_netOfPin A_m_label A_m_number A_m_group s1 m_layers m_pieces m_airSquare m_airLow m_airHigh m_there m_low m_high m_x m_y m_w m_h m_r m_pinOf v1 v1 v2 v4 v6 v8 0 (-1) h_2) [0, 1, 2, 3, 4, 5, 6, 7, 8, 9] [] [0, 1, 2, 3, 4, 5, 6, 7, 8, 9] [] (w_M_shape cy A_m A_m_there A_m_low A_m_high A_m_x A_m_y A_m_w A_m_h A_m_r A_m_pinOf A_m_netOfPin A_m_label A_m_number A_m_group s1 m_layers t_3.2.1 m_airSquare m_airLow m_airHigh t_3.2.2.1 t_3.2.2.2.1 t_3.2.2.2.2.1 t_3.2.2.2.2.2.1 t_3.2.2.2.2.2.2.1 t_3.2.2.2.2.2.2.2.1 t_3.2.2.2.2.2.2.2.2.1 t_3.2.2.2.2.2.2.2.2.2.1 t_3.2.2.2.2.2.2.2.2.2.2) rfl rfl rfl ⟨by decide, by decide, by decide, by decide⟩ 0 rfl rfl d_M_shape_77 tw_629 tw_631 ts_43 tw_7 tw_632 hs_M_add ⟨by decide, by decide⟩ rfl rfl ⟨by decide, by decide⟩ (Nat.le_of_ble_eq_true rfl) rfl rfl ?_
    refine cg_goto C 84 d_M_shape_80 (by decide) ?_
    refine cg_sub (lv' := []) [] rfl ?_
    exact t_M_shape_84 C hr hlk hA A_m A_m_there A_m_low A_m_high A_m_x A_m_y A_m_w A_m_h A_m_r A_m_pinOf A_m_netOfPin A_m_label A_m_number A_m_group m_airSquare m_airLow m_airHigh s1 m_layers t_3.2.1 t_3.2.2.1 t_3.2.2.2.1 t_3.2.2.2.2.1 t_3.2.2.2.2.2.1 t_3.2.2.2.2.2.2.1 t_3.2.2.2.2.2.2.2.1 t_3.2.2.2.2.2.2.2.2.1 t_3.2.2.2.2.2.2.2.2.2.1 t_3.2.2.2.2.2.2.2.2.2.2 t_3.1 hF
def F_M_shape_30 (m_thrown : Int32) (m_layers : Int32) (m_pieces : Int32) (m_there : Nat → Int32) (m_low : Nat → Int32) (m_high : Nat → Int32) (m_x : Nat → Int64) (m_y : Nat → Int64) (m_w : Nat → Int64) (m_h : Nat → Int64) (m_r : Nat → Int64) (m_pinOf : Nat → Int32) (v1 : Int32) (v2 : Int64) (v4 : Int64) (v6 : Int64) (v8 : Int64) (s0 : Int32) : Option (Int32 × Int32 × Int32 × (Nat → Int32) × (Nat → Int32) × (Nat → Int32) × (Nat → Int64) × (Nat → Int64) × (Nat → Int64) × (Nat → Int64) × (Nat → Int64) × (Nat → Int32)) := (F_M_isLayer m_layers v1).bind fun t_6 => if t_6 = 0 then (F_M_shape_55 m_thrown m_layers m_pieces m_there m_low m_high m_x m_y m_w m_h m_r m_pinOf v1 v2 v4 v6 v8 1) else (if s0 = 0 then (F_M_shape_55 m_thrown m_layers m_pieces m_there m_low m_high m_x m_y m_w m_h m_r m_pinOf v1 v2 v4 v6 v8 2) else (F_M_shape_55 m_thrown m_layers m_pieces m_there m_low m_high m_x m_y m_w m_h m_r m_pinOf v1 v2 v4 v6 v8 0))
set_option maxRecDepth 100000 in
set_option maxHeartbeats 4000000 in
theorem t_M_shape_30 {p : Program} {l : Launch} {e : Env} {s : State} {m : MethodId} {args : Array Value} {below : List Frame} {meth : Method} {c : Code} {D : va_G} {cy : Nat → ClassId} {A : Nat → Prop} {out : Int32 × Int32 × Int32 × (Nat → Int32) × (Nat → Int32) × (Nat → Int32) × (Nat → Int64) × (Nat → Int64) × (Nat → Int64) × (Nat → Int64) × (Nat → Int64) × (Nat → Int32)} (C : cn_X p s m args c b_M_shape 11 "CopperNetsModel" D cy) (hr : meth.sig.returnType = some .int) (hlk : meth.locks = false) (hA : ∀ q, s.heap.size ≤ q → A q) (A_m : Nat) (A_m_there : Nat) (A_m_low : Nat) (A_m_high : Nat) (A_m_x : Nat) (A_m_y : Nat) (A_m_w : Nat) (A_m_h : Nat) (A_m_r : Nat) (A_m_pinOf : Nat) (A_m_netOfPin : Nat) (A_m_label : Nat) (A_m_number : Nat) (A_m_group : Nat) (m_airSquare : Int64) (m_airLow : Int32) (m_airHigh : Int32) (m_thrown : Int32) (m_layers : Int32) (m_pieces : Int32) (m_there : Nat → Int32) (m_low : Nat → Int32) (m_high : Nat → Int32) (m_x : Nat → Int64) (m_y : Nat → Int64) (m_w : Nat → Int64) (m_h : Nat → Int64) (m_r : Nat → Int64) (m_pinOf : Nat → Int32) (v1 : Int32) (v2 : Int64) (v4 : Int64) (v6 : Int64) (v8 : Int64) (s0 : Int32) (hF : F_M_shape_30 m_thrown m_layers m_pieces m_there m_low m_high m_x m_y m_w m_h m_r m_pinOf v1 v2 v4 v6 v8 s0 = some out) : cg p l e r_M_shape s m args below meth c D (va_S A s.heap) A 11 0 0 (MQ below (cn_QW (some (.int out.1)) D (w_M_shape cy A_m A_m_there A_m_low A_m_high A_m_x A_m_y A_m_w A_m_h A_m_r A_m_pinOf A_m_netOfPin A_m_label A_m_number A_m_group out.2.1 m_layers out.2.2.1 m_airSquare m_airLow m_airHigh out.2.2.2.1 out.2.2.2.2.1 out.2.2.2.2.2.1 out.2.2.2.2.2.2.1 out.2.2.2.2.2.2.2.1 out.2.2.2.2.2.2.2.2.1 out.2.2.2.2.2.2.2.2.2.1 out.2.2.2.2.2.2.2.2.2.2.1 out.2.2.2.2.2.2.2.2.2.2.2) A) args s 0 0 A) (w_M_shape cy A_m A_m_there A_m_low A_m_high A_m_x A_m_y A_m_w A_m_h A_m_r A_m_pinOf A_m_netOfPin A_m_label A_m_number A_m_group m_thrown m_layers m_pieces m_airSquare m_airLow m_airHigh m_there m_low m_high m_x m_y m_w m_h m_r m_pinOf) 30 [(0, .ref A_m), (1, .int v1), (2, .long v2), (4, .long v4), (6, .long v6), (8, .long v8)] [.int s0] := by
  refine cg_istore (lv' := [(10, .int s0), (0, .ref A_m), (1, .int v1), (2, .long v2), (4, .long v4), (6, .long v6), (8, .long v8)]) C d_M_shape_30 (by decide) rfl ?_
  refine cg_aload_n C d_M_shape_32 1 rfl ?_
  refine cg_aload_n C d_M_shape_33 1 rfl ?_
  refine cg_iload_n C d_M_shape_34 2 rfl ?_
  obtain ⟨t_6, h_5, hF⟩ := cn_bind hF
  refine cg_callRV C (c_M_isLayer A_m A_m_there A_m_low A_m_high A_m_x A_m_y A_m_w A_m_h A_m_r A_m_pinOf A_m_netOfPin A_m_label A_m_number A_m_group m_thrown m_layers m_pieces m_airSquare m_airLow m_airHigh v1 h_5) [0] rfl (by decide) 0 rfl rfl d_M_shape_35 tw_625 tw_627 ts_42 tw_7 tw_628 hs_M_isLayer ⟨by decide, by decide⟩ rfl rfl ⟨by decide, by decide⟩ (Nat.le_of_ble_eq_true rfl) rfl rfl ?_
  refine cg_if_ne C 45 d_M_shape_38 (by decide) (fun q_7 => ?_) (fun q_7 => ?_)
  · have hF := cn_neg q_7 hF
    refine cg_iload C d_M_shape_45 0 rfl ?_
    refine cg_if_eq C 54 d_M_shape_47 (by decide) (fun q_8 => ?_) (fun q_8 => ?_)
    · have hF := cn_pos q_8 hF
      refine cg_iconst (v := 2) C d_M_shape_54 (by decide) ?_
      refine cg_sub (lv' := [(0, .ref A_m), (1, .int v1), (2, .long v2), (4, .long v4), (6, .long v6), (8, .long v8)]) [1, 2, 3, 4, 5, 6] rfl ?_
      exact t_M_shape_55 C hr hlk hA A_m A_m_there A_m_low A_m_high A_m_x A_m_y A_m_w A_m_h A_m_r A_m_pinOf A_m_netOfPin A_m_label A_m_number A_m_group m_airSquare m_airLow m_airHigh m_thrown m_layers m_pieces m_there m_low m_high m_x m_y m_w m_h m_r m_pinOf v1 v2 v4 v6 v8 2 hF
    · have hF := cn_neg q_8 hF
      refine cg_iconst (v := 0) C d_M_shape_50 (by decide) ?_
      refine cg_goto C 55 d_M_shape_51 (by decide) ?_
      refine cg_sub (lv' := [(0, .ref A_m), (1, .int v1), (2, .long v2), (4, .long v4), (6, .long v6), (8, .long v8)]) [1, 2, 3, 4, 5, 6] rfl ?_
      exact t_M_shape_55 C hr hlk hA A_m A_m_there A_m_low A_m_high A_m_x A_m_y A_m_w A_m_h A_m_r A_m_pinOf A_m_netOfPin A_m_label A_m_number A_m_group m_airSquare m_airLow m_airHigh m_thrown m_layers m_pieces m_there m_low m_high m_x m_y m_w m_h m_r m_pinOf v1 v2 v4 v6 v8 0 hF
  · have hF := cn_pos q_7 hF
    refine cg_iconst (v := 1) C d_M_shape_41 (by decide) ?_
    refine cg_goto C 55 d_M_shape_42 (by decide) ?_
    refine cg_sub (lv' := [(0, .ref A_m), (1, .int v1), (2, .long v2), (4, .long v4), (6, .long v6), (8, .long v8)]) [1, 2, 3, 4, 5, 6] rfl ?_
    exact t_M_shape_55 C hr hlk hA A_m A_m_there A_m_low A_m_high A_m_x A_m_y A_m_w A_m_h A_m_r A_m_pinOf A_m_netOfPin A_m_label A_m_number A_m_group m_airSquare m_airLow m_airHigh m_thrown m_layers m_pieces m_there m_low m_high m_x m_y m_w m_h m_r m_pinOf v1 v2 v4 v6 v8 1 hF
def F_M_shape_29 (m_thrown : Int32) (m_layers : Int32) (m_pieces : Int32) (m_there : Nat → Int32) (m_low : Nat → Int32) (m_high : Nat → Int32) (m_x : Nat → Int64) (m_y : Nat → Int64) (m_w : Nat → Int64) (m_h : Nat → Int64) (m_r : Nat → Int64) (m_pinOf : Nat → Int32) (v1 : Int32) (v2 : Int64) (v4 : Int64) (v6 : Int64) (v8 : Int64) : Option (Int32 × Int32 × Int32 × (Nat → Int32) × (Nat → Int32) × (Nat → Int32) × (Nat → Int64) × (Nat → Int64) × (Nat → Int64) × (Nat → Int64) × (Nat → Int64) × (Nat → Int32)) := F_M_shape_30 m_thrown m_layers m_pieces m_there m_low m_high m_x m_y m_w m_h m_r m_pinOf v1 v2 v4 v6 v8 0
set_option maxRecDepth 100000 in
set_option maxHeartbeats 4000000 in
theorem t_M_shape_29 {p : Program} {l : Launch} {e : Env} {s : State} {m : MethodId} {args : Array Value} {below : List Frame} {meth : Method} {c : Code} {D : va_G} {cy : Nat → ClassId} {A : Nat → Prop} {out : Int32 × Int32 × Int32 × (Nat → Int32) × (Nat → Int32) × (Nat → Int32) × (Nat → Int64) × (Nat → Int64) × (Nat → Int64) × (Nat → Int64) × (Nat → Int64) × (Nat → Int32)} (C : cn_X p s m args c b_M_shape 11 "CopperNetsModel" D cy) (hr : meth.sig.returnType = some .int) (hlk : meth.locks = false) (hA : ∀ q, s.heap.size ≤ q → A q) (A_m : Nat) (A_m_there : Nat) (A_m_low : Nat) (A_m_high : Nat) (A_m_x : Nat) (A_m_y : Nat) (A_m_w : Nat) (A_m_h : Nat) (A_m_r : Nat) (A_m_pinOf : Nat) (A_m_netOfPin : Nat) (A_m_label : Nat) (A_m_number : Nat) (A_m_group : Nat) (m_airSquare : Int64) (m_airLow : Int32) (m_airHigh : Int32) (m_thrown : Int32) (m_layers : Int32) (m_pieces : Int32) (m_there : Nat → Int32) (m_low : Nat → Int32) (m_high : Nat → Int32) (m_x : Nat → Int64) (m_y : Nat → Int64) (m_w : Nat → Int64) (m_h : Nat → Int64) (m_r : Nat → Int64) (m_pinOf : Nat → Int32) (v1 : Int32) (v2 : Int64) (v4 : Int64) (v6 : Int64) (v8 : Int64) (hF : F_M_shape_29 m_thrown m_layers m_pieces m_there m_low m_high m_x m_y m_w m_h m_r m_pinOf v1 v2 v4 v6 v8 = some out) : cg p l e r_M_shape s m args below meth c D (va_S A s.heap) A 11 0 0 (MQ below (cn_QW (some (.int out.1)) D (w_M_shape cy A_m A_m_there A_m_low A_m_high A_m_x A_m_y A_m_w A_m_h A_m_r A_m_pinOf A_m_netOfPin A_m_label A_m_number A_m_group out.2.1 m_layers out.2.2.1 m_airSquare m_airLow m_airHigh out.2.2.2.1 out.2.2.2.2.1 out.2.2.2.2.2.1 out.2.2.2.2.2.2.1 out.2.2.2.2.2.2.2.1 out.2.2.2.2.2.2.2.2.1 out.2.2.2.2.2.2.2.2.2.1 out.2.2.2.2.2.2.2.2.2.2.1 out.2.2.2.2.2.2.2.2.2.2.2) A) args s 0 0 A) (w_M_shape cy A_m A_m_there A_m_low A_m_high A_m_x A_m_y A_m_w A_m_h A_m_r A_m_pinOf A_m_netOfPin A_m_label A_m_number A_m_group m_thrown m_layers m_pieces m_airSquare m_airLow m_airHigh m_there m_low m_high m_x m_y m_w m_h m_r m_pinOf) 29 [(0, .ref A_m), (1, .int v1), (2, .long v2), (4, .long v4), (6, .long v6), (8, .long v8)] [] := by
  refine cg_iconst (v := 0) C d_M_shape_29 (by decide) ?_
  exact t_M_shape_30 C hr hlk hA A_m A_m_there A_m_low A_m_high A_m_x A_m_y A_m_w A_m_h A_m_r A_m_pinOf A_m_netOfPin A_m_label A_m_number A_m_group m_airSquare m_airLow m_airHigh m_thrown m_layers m_pieces m_there m_low m_high m_x m_y m_w m_h m_r m_pinOf v1 v2 v4 v6 v8 0 hF
def F_M_shape_0 (m_thrown : Int32) (m_layers : Int32) (m_pieces : Int32) (m_there : Nat → Int32) (m_low : Nat → Int32) (m_high : Nat → Int32) (m_x : Nat → Int64) (m_y : Nat → Int64) (m_w : Nat → Int64) (m_h : Nat → Int64) (m_r : Nat → Int64) (m_pinOf : Nat → Int32) (v1 : Int32) (v2 : Int64) (v4 : Int64) (v6 : Int64) (v8 : Int64) : Option (Int32 × Int32 × Int32 × (Nat → Int32) × (Nat → Int32) × (Nat → Int32) × (Nat → Int64) × (Nat → Int64) × (Nat → Int64) × (Nat → Int64) × (Nat → Int64) × (Nat → Int32)) := (F_M_isPlace v2 v4).bind fun t_11 => if t_11 = 0 then (F_M_shape_29 m_thrown m_layers m_pieces m_there m_low m_high m_x m_y m_w m_h m_r m_pinOf v1 v2 v4 v6 v8) else ((F_M_isSize v6).bind fun t_14 => if t_14 = 0 then (F_M_shape_29 m_thrown m_layers m_pieces m_there m_low m_high m_x m_y m_w m_h m_r m_pinOf v1 v2 v4 v6 v8) else ((F_M_isSize v8).bind fun t_17 => if t_17 = 0 then (F_M_shape_29 m_thrown m_layers m_pieces m_there m_low m_high m_x m_y m_w m_h m_r m_pinOf v1 v2 v4 v6 v8) else (F_M_shape_30 m_thrown m_layers m_pieces m_there m_low m_high m_x m_y m_w m_h m_r m_pinOf v1 v2 v4 v6 v8 1)))
set_option maxRecDepth 100000 in
set_option maxHeartbeats 4000000 in
theorem t_M_shape_0 {p : Program} {l : Launch} {e : Env} {s : State} {m : MethodId} {args : Array Value} {below : List Frame} {meth : Method} {c : Code} {D : va_G} {cy : Nat → ClassId} {A : Nat → Prop} {out : Int32 × Int32 × Int32 × (Nat → Int32) × (Nat → Int32) × (Nat → Int32) × (Nat → Int64) × (Nat → Int64) × (Nat → Int64) × (Nat → Int64) × (Nat → Int64) × (Nat → Int32)} (C : cn_X p s m args c b_M_shape 11 "CopperNetsModel" D cy) (hr : meth.sig.returnType = some .int) (hlk : meth.locks = false) (hA : ∀ q, s.heap.size ≤ q → A q) (A_m : Nat) (A_m_there : Nat) (A_m_low : Nat) (A_m_high : Nat) (A_m_x : Nat) (A_m_y : Nat) (A_m_w : Nat) (A_m_h : Nat) (A_m_r : Nat) (A_m_pinOf : Nat) (A_m_netOfPin : Nat) (A_m_label : Nat) (A_m_number : Nat) (A_m_group : Nat) (m_airSquare : Int64) (m_airLow : Int32) (m_airHigh : Int32) (m_thrown : Int32) (m_layers : Int32) (m_pieces : Int32) (m_there : Nat → Int32) (m_low : Nat → Int32) (m_high : Nat → Int32) (m_x : Nat → Int64) (m_y : Nat → Int64) (m_w : Nat → Int64) (m_h : Nat → Int64) (m_r : Nat → Int64) (m_pinOf : Nat → Int32) (v1 : Int32) (v2 : Int64) (v4 : Int64) (v6 : Int64) (v8 : Int64) (hF : F_M_shape_0 m_thrown m_layers m_pieces m_there m_low m_high m_x m_y m_w m_h m_r m_pinOf v1 v2 v4 v6 v8 = some out) : cg p l e r_M_shape s m args below meth c D (va_S A s.heap) A 11 0 0 (MQ below (cn_QW (some (.int out.1)) D (w_M_shape cy A_m A_m_there A_m_low A_m_high A_m_x A_m_y A_m_w A_m_h A_m_r A_m_pinOf A_m_netOfPin A_m_label A_m_number A_m_group out.2.1 m_layers out.2.2.1 m_airSquare m_airLow m_airHigh out.2.2.2.1 out.2.2.2.2.1 out.2.2.2.2.2.1 out.2.2.2.2.2.2.1 out.2.2.2.2.2.2.2.1 out.2.2.2.2.2.2.2.2.1 out.2.2.2.2.2.2.2.2.2.1 out.2.2.2.2.2.2.2.2.2.2.1 out.2.2.2.2.2.2.2.2.2.2.2) A) args s 0 0 A) (w_M_shape cy A_m A_m_there A_m_low A_m_high A_m_x A_m_y A_m_w A_m_h A_m_r A_m_pinOf A_m_netOfPin A_m_label A_m_number A_m_group m_thrown m_layers m_pieces m_airSquare m_airLow m_airHigh m_there m_low m_high m_x m_y m_w m_h m_r m_pinOf) 0 [(0, .ref A_m), (1, .int v1), (2, .long v2), (4, .long v4), (6, .long v6), (8, .long v8)] [] := by
  refine cg_lload_n C d_M_shape_0 2 rfl ?_
  refine cg_lload C d_M_shape_1 3 rfl ?_
  obtain ⟨t_11, h_10, hF⟩ := cn_bind hF
  refine cg_callRS C (c_M_isPlace v2 v4 h_10) [] rfl (by decide) d_M_shape_3 tw_617 tw_618 tw_7 tw_619 hs_M_isPlace ⟨by decide, by decide⟩ rfl rfl ⟨by decide, by decide⟩ (Nat.le_of_ble_eq_true rfl) rfl rfl ?_
  refine cg_if_eq C 29 d_M_shape_6 (by decide) (fun q_12 => ?_) (fun q_12 => ?_)
  · have hF := cn_pos q_12 hF
    exact t_M_shape_29 C hr hlk hA A_m A_m_there A_m_low A_m_high A_m_x A_m_y A_m_w A_m_h A_m_r A_m_pinOf A_m_netOfPin A_m_label A_m_number A_m_group m_airSquare m_airLow m_airHigh m_thrown m_layers m_pieces m_there m_low m_high m_x m_y m_w m_h m_r m_pinOf v1 v2 v4 v6 v8 hF
  · have hF := cn_neg q_12 hF
    refine cg_lload C d_M_shape_9 4 rfl ?_
    obtain ⟨t_14, h_13, hF⟩ := cn_bind hF
    refine cg_callRS C (c_M_isSize v6 h_13) [] rfl (by decide) d_M_shape_11 tw_622 tw_623 tw_7 tw_624 hs_M_isSize ⟨by decide, by decide⟩ rfl rfl ⟨by decide, by decide⟩ (Nat.le_of_ble_eq_true rfl) rfl rfl ?_
    refine cg_if_eq C 29 d_M_shape_14 (by decide) (fun q_15 => ?_) (fun q_15 => ?_)
    · have hF := cn_pos q_15 hF
      exact t_M_shape_29 C hr hlk hA A_m A_m_there A_m_low A_m_high A_m_x A_m_y A_m_w A_m_h A_m_r A_m_pinOf A_m_netOfPin A_m_label A_m_number A_m_group m_airSquare m_airLow m_airHigh m_thrown m_layers m_pieces m_there m_low m_high m_x m_y m_w m_h m_r m_pinOf v1 v2 v4 v6 v8 hF
    · have hF := cn_neg q_15 hF
      refine cg_lload C d_M_shape_17 5 rfl ?_
      obtain ⟨t_17, h_16, hF⟩ := cn_bind hF
      refine cg_callRS C (c_M_isSize v8 h_16) [] rfl (by decide) d_M_shape_19 tw_622 tw_623 tw_7 tw_624 hs_M_isSize ⟨by decide, by decide⟩ rfl rfl ⟨by decide, by decide⟩ (Nat.le_of_ble_eq_true rfl) rfl rfl ?_
      refine cg_if_eq C 29 d_M_shape_22 (by decide) (fun q_18 => ?_) (fun q_18 => ?_)
      · have hF := cn_pos q_18 hF
        exact t_M_shape_29 C hr hlk hA A_m A_m_there A_m_low A_m_high A_m_x A_m_y A_m_w A_m_h A_m_r A_m_pinOf A_m_netOfPin A_m_label A_m_number A_m_group m_airSquare m_airLow m_airHigh m_thrown m_layers m_pieces m_there m_low m_high m_x m_y m_w m_h m_r m_pinOf v1 v2 v4 v6 v8 hF
      · have hF := cn_neg q_18 hF
        refine cg_iconst (v := 1) C d_M_shape_25 (by decide) ?_
        refine cg_goto C 30 d_M_shape_26 (by decide) ?_
        exact t_M_shape_30 C hr hlk hA A_m A_m_there A_m_low A_m_high A_m_x A_m_y A_m_w A_m_h A_m_r A_m_pinOf A_m_netOfPin A_m_label A_m_number A_m_group m_airSquare m_airLow m_airHigh m_thrown m_layers m_pieces m_there m_low m_high m_x m_y m_w m_h m_r m_pinOf v1 v2 v4 v6 v8 1 hF
abbrev F_M_shape (m_thrown : Int32) (m_layers : Int32) (m_pieces : Int32) (m_there : Nat → Int32) (m_low : Nat → Int32) (m_high : Nat → Int32) (m_x : Nat → Int64) (m_y : Nat → Int64) (m_w : Nat → Int64) (m_h : Nat → Int64) (m_r : Nat → Int64) (m_pinOf : Nat → Int32) (v1 : Int32) (v2 : Int64) (v4 : Int64) (v6 : Int64) (v8 : Int64) : Option (Int32 × Int32 × Int32 × (Nat → Int32) × (Nat → Int32) × (Nat → Int32) × (Nat → Int64) × (Nat → Int64) × (Nat → Int64) × (Nat → Int64) × (Nat → Int64) × (Nat → Int32)) := F_M_shape_0 m_thrown m_layers m_pieces m_there m_low m_high m_x m_y m_w m_h m_r m_pinOf v1 v2 v4 v6 v8
theorem c_M_shape {l : Launch} {D : va_G} {cy : Nat → ClassId} (A_m : Nat) (A_m_there : Nat) (A_m_low : Nat) (A_m_high : Nat) (A_m_x : Nat) (A_m_y : Nat) (A_m_w : Nat) (A_m_h : Nat) (A_m_r : Nat) (A_m_pinOf : Nat) (A_m_netOfPin : Nat) (A_m_label : Nat) (A_m_number : Nat) (A_m_group : Nat) (m_thrown : Int32) (m_layers : Int32) (m_pieces : Int32) (m_airSquare : Int64) (m_airLow : Int32) (m_airHigh : Int32) (m_there : Nat → Int32) (m_low : Nat → Int32) (m_high : Nat → Int32) (m_x : Nat → Int64) (m_y : Nat → Int64) (m_w : Nat → Int64) (m_h : Nat → Int64) (m_r : Nat → Int64) (m_pinOf : Nat → Int32) (v1 : Int32) (v2 : Int64) (v4 : Int64) (v6 : Int64) (v8 : Int64) {out : Int32 × Int32 × Int32 × (Nat → Int32) × (Nat → Int32) × (Nat → Int32) × (Nat → Int64) × (Nat → Int64) × (Nat → Int64) × (Nat → Int64) × (Nat → Int64) × (Nat → Int32)} (hF : F_M_shape m_thrown m_layers m_pieces m_there m_low m_high m_x m_y m_w m_h m_r m_pinOf v1 v2 v4 v6 v8 = some out) : cn_MW l y_M_shape b_M_shape 11 (some .int) r_M_shape D cy [.ref A_m, .int v1, .long v2, .long v4, .long v6, .long v8] (w_M_shape cy A_m A_m_there A_m_low A_m_high A_m_x A_m_y A_m_w A_m_h A_m_r A_m_pinOf A_m_netOfPin A_m_label A_m_number A_m_group m_thrown m_layers m_pieces m_airSquare m_airLow m_airHigh m_there m_low m_high m_x m_y m_w m_h m_r m_pinOf) (some (.int out.1)) (w_M_shape cy A_m A_m_there A_m_low A_m_high A_m_x A_m_y A_m_w A_m_h A_m_r A_m_pinOf A_m_netOfPin A_m_label A_m_number A_m_group out.2.1 m_layers out.2.2.1 m_airSquare m_airLow m_airHigh out.2.2.2.1 out.2.2.2.2.1 out.2.2.2.2.2.1 out.2.2.2.2.2.2.1 out.2.2.2.2.2.2.2.1 out.2.2.2.2.2.2.2.2.1 out.2.2.2.2.2.2.2.2.2.1 out.2.2.2.2.2.2.2.2.2.2.1 out.2.2.2.2.2.2.2.2.2.2.2) 0 0 :=
  cn_MW.of (by decide +kernel) (Nat.le_of_ble_eq_true rfl) (fun p e s m below meth c A C hr hlk hA => t_M_shape_0 C hr hlk hA A_m A_m_there A_m_low A_m_high A_m_x A_m_y A_m_w A_m_h A_m_r A_m_pinOf A_m_netOfPin A_m_label A_m_number A_m_group m_airSquare m_airLow m_airHigh m_thrown m_layers m_pieces m_there m_low m_high m_x m_y m_w m_h m_r m_pinOf v1 v2 v4 v6 v8 hF)
/-! CopperNetsModel.via(IIJJJ)I -/
abbrev r_M_via : Room := { frames := 1, cells := 0, slots := 0, locals := 33 }
abbrev w_M_via (cy : Nat → ClassId) (A_m : Nat) (A_m_there : Nat) (A_m_low : Nat) (A_m_high : Nat) (A_m_x : Nat) (A_m_y : Nat) (A_m_w : Nat) (A_m_h : Nat) (A_m_r : Nat) (A_m_pinOf : Nat) (A_m_netOfPin : Nat) (A_m_label : Nat) (A_m_number : Nat) (A_m_group : Nat) (m_thrown : Int32) (m_layers : Int32) (m_pieces : Int32) (m_airSquare : Int64) (m_airLow : Int32) (m_airHigh : Int32) (m_there : Nat → Int32) (m_low : Nat → Int32) (m_high : Nat → Int32) (m_x : Nat → Int64) (m_y : Nat → Int64) (m_w : Nat → Int64) (m_h : Nat → Int64) (m_r : Nat → Int64) (m_pinOf : Nat → Int32) : va_W := [(A_m, .inr (4, [.int m_thrown, .int m_layers, .int m_pieces, .ref A_m_there, .ref A_m_low, .ref A_m_high, .ref A_m_x, .ref A_m_y, .ref A_m_w, .ref A_m_h, .ref A_m_r, .ref A_m_pinOf, .ref A_m_netOfPin, .ref A_m_label, .ref A_m_number, .ref A_m_group, .long m_airSquare, .int m_airLow, .int m_airHigh])), (A_m_there, .inl (cy 2, 60, .inl m_there)), (A_m_low, .inl (cy 0, 60, .inl m_low)), (A_m_high, .inl (cy 0, 60, .inl m_high)), (A_m_x, .inl (cy 1, 60, .inr (.inl m_x))), (A_m_y, .inl (cy 1, 60, .inr (.inl m_y))), (A_m_w, .inl (cy 1, 60, .inr (.inl m_w))), (A_m_h, .inl (cy 1, 60, .inr (.inl m_h))), (A_m_r, .inl (cy 1, 60, .inr (.inl m_r))), (A_m_pinOf, .inl (cy 0, 60, .inl m_pinOf))]
theorem hs_M_via : y_M_via.cls ≠ "java/lang/invoke/MethodHandle" ∧ y_M_via.cls ≠ "java/lang/invoke/VarHandle" ∧ (parseMethodDescriptor y_M_via.desc).map (fun d => d.parameters.length) = some 5 := by decide +kernel
def F_M_via_88 (m_thrown : Int32) (m_layers : Int32) (m_pieces : Int32) (m_there : Nat → Int32) (m_low : Nat → Int32) (m_high : Nat → Int32) (m_x : Nat → Int64) (m_y : Nat → Int64) (m_w : Nat → Int64) (m_h : Nat → Int64) (m_r : Nat → Int64) (m_pinOf : Nat → Int32) (s0 : Int32) : Option (Int32 × Int32 × Int32 × (Nat → Int32) × (Nat → Int32) × (Nat → Int32) × (Nat → Int64) × (Nat → Int64) × (Nat → Int64) × (Nat → Int64) × (Nat → Int64) × (Nat → Int32)) := some (s0, m_thrown, m_pieces, m_there, m_low, m_high, m_x, m_y, m_w, m_h, m_r, m_pinOf)
set_option maxRecDepth 100000 in
set_option maxHeartbeats 4000000 in
theorem t_M_via_88 {p : Program} {l : Launch} {e : Env} {s : State} {m : MethodId} {args : Array Value} {below : List Frame} {meth : Method} {c : Code} {D : va_G} {cy : Nat → ClassId} {A : Nat → Prop} {out : Int32 × Int32 × Int32 × (Nat → Int32) × (Nat → Int32) × (Nat → Int32) × (Nat → Int64) × (Nat → Int64) × (Nat → Int64) × (Nat → Int64) × (Nat → Int64) × (Nat → Int32)} (C : cn_X p s m args c b_M_via 10 "CopperNetsModel" D cy) (hr : meth.sig.returnType = some .int) (hlk : meth.locks = false) (hA : ∀ q, s.heap.size ≤ q → A q) (A_m : Nat) (A_m_there : Nat) (A_m_low : Nat) (A_m_high : Nat) (A_m_x : Nat) (A_m_y : Nat) (A_m_w : Nat) (A_m_h : Nat) (A_m_r : Nat) (A_m_pinOf : Nat) (A_m_netOfPin : Nat) (A_m_label : Nat) (A_m_number : Nat) (A_m_group : Nat) (m_airSquare : Int64) (m_airLow : Int32) (m_airHigh : Int32) (m_thrown : Int32) (m_layers : Int32) (m_pieces : Int32) (m_there : Nat → Int32) (m_low : Nat → Int32) (m_high : Nat → Int32) (m_x : Nat → Int64) (m_y : Nat → Int64) (m_w : Nat → Int64) (m_h : Nat → Int64) (m_r : Nat → Int64) (m_pinOf : Nat → Int32) (s0 : Int32) (hF : F_M_via_88 m_thrown m_layers m_pieces m_there m_low m_high m_x m_y m_w m_h m_r m_pinOf s0 = some out) : cg p l e r_M_via s m args below meth c D (va_S A s.heap) A 10 0 0 (MQ below (cn_QW (some (.int out.1)) D (w_M_via cy A_m A_m_there A_m_low A_m_high A_m_x A_m_y A_m_w A_m_h A_m_r A_m_pinOf A_m_netOfPin A_m_label A_m_number A_m_group out.2.1 m_layers out.2.2.1 m_airSquare m_airLow m_airHigh out.2.2.2.1 out.2.2.2.2.1 out.2.2.2.2.2.1 out.2.2.2.2.2.2.1 out.2.2.2.2.2.2.2.1 out.2.2.2.2.2.2.2.2.1 out.2.2.2.2.2.2.2.2.2.1 out.2.2.2.2.2.2.2.2.2.2.1 out.2.2.2.2.2.2.2.2.2.2.2) A) args s 0 0 A) (w_M_via cy A_m A_m_there A_m_low A_m_high A_m_x A_m_y A_m_w A_m_h A_m_r A_m_pinOf A_m_netOfPin A_m_label A_m_number A_m_group m_thrown m_layers m_pieces m_airSquare m_airLow m_airHigh m_there m_low m_high m_x m_y m_w m_h m_r m_pinOf) 88 [] [.int s0] := by
  obtain rfl := Option.some.inj hF
  exact cg_iretW C hr hlk d_M_via_88
def F_M_via_60 (m_thrown : Int32) (m_layers : Int32) (m_pieces : Int32) (m_there : Nat → Int32) (m_low : Nat → Int32) (m_high : Nat → Int32) (m_x : Nat → Int64) (m_y : Nat → Int64) (m_w : Nat → Int64) (m_h : Nat → Int64) (m_r : Nat → Int64) (m_pinOf : Nat → Int32) (v1 : Int32) (v2 : Int32) (v3 : Int64) (v5 : Int64) (v7 : Int64) (s1 : Int32) : Option (Int32 × Int32 × Int32 × (Nat → Int32) × (Nat → Int32) × (Nat → Int32) × (Nat → Int64) × (Nat → Int64) × (Nat → Int64) × (Nat → Int64) × (Nat → Int64) × (Nat → Int32)) := if s1 = 0 then ((F_M_add m_pieces m_there m_low m_high m_x m_y m_w m_h m_r m_pinOf v1 v2 v3 v5 0 0 v7 (-1)).bind fun t_3 => F_M_via_88 s1 m_layers t_3.2.1 t_3.2.2.1 t_3.2.2.2.1 t_3.2.2.2.2.1 t_3.2.2.2.2.2.1 t_3.2.2.2.2.2.2.1 t_3.2.2.2.2.2.2.2.1 t_3.2.2.2.2.2.2.2.2.1 t_3.2.2.2.2.2.2.2.2.2.1 t_3.2.2.2.2.2.2.2.2.2.2 t_3.1) else (F_M_via_88 s1 m_layers m_pieces m_there m_low m_high m_x m_y m_w m_h m_r m_pinOf 0)
set_option maxRecDepth 100000 in
set_option maxHeartbeats 4000000 in
theorem t_M_via_60 {p : Program} {l : Launch} {e : Env} {s : State} {m : MethodId} {args : Array Value} {below : List Frame} {meth : Method} {c : Code} {D : va_G} {cy : Nat → ClassId} {A : Nat → Prop} {out : Int32 × Int32 × Int32 × (Nat → Int32) × (Nat → Int32) × (Nat → Int32) × (Nat → Int64) × (Nat → Int64) × (Nat → Int64) × (Nat → Int64) × (Nat → Int64) × (Nat → Int32)} (C : cn_X p s m args c b_M_via 10 "CopperNetsModel" D cy) (hr : meth.sig.returnType = some .int) (hlk : meth.locks = false) (hA : ∀ q, s.heap.size ≤ q → A q) (A_m : Nat) (A_m_there : Nat) (A_m_low : Nat) (A_m_high : Nat) (A_m_x : Nat) (A_m_y : Nat) (A_m_w : Nat) (A_m_h : Nat) (A_m_r : Nat) (A_m_pinOf : Nat) (A_m_netOfPin : Nat) (A_m_label : Nat) (A_m_number : Nat) (A_m_group : Nat) (m_airSquare : Int64) (m_airLow : Int32) (m_airHigh : Int32) (m_thrown : Int32) (m_layers : Int32) (m_pieces : Int32) (m_there : Nat → Int32) (m_low : Nat → Int32) (m_high : Nat → Int32) (m_x : Nat → Int64) (m_y : Nat → Int64) (m_w : Nat → Int64) (m_h : Nat → Int64) (m_r : Nat → Int64) (m_pinOf : Nat → Int32) (v1 : Int32) (v2 : Int32) (v3 : Int64) (v5 : Int64) (v7 : Int64) (s1 : Int32) (hF : F_M_via_60 m_thrown m_layers m_pieces m_there m_low m_high m_x m_y m_w m_h m_r m_pinOf v1 v2 v3 v5 v7 s1 = some out) : cg p l e r_M_via s m args below meth c D (va_S A s.heap) A 10 0 0 (MQ below (cn_QW (some (.int out.1)) D (w_M_via cy A_m A_m_there A_m_low A_m_high A_m_x A_m_y A_m_w A_m_h A_m_r A_m_pinOf A_m_netOfPin A_m_label A_m_number A_m_group out.2.1 m_layers out.2.2.1 m_airSquare m_airLow m_airHigh out.2.2.2.1 out.2.2.2.2.1 out.2.2.2.2.2.1 out.2.2.2.2.2.2.1 out.2.2.2.2.2.2.2.1 out.2.2.2.2.2.2.2.2.1 out.2.2.2.2.2.2.2.2.2.1 out.2.2.2.2.2.2.2.2.2.2.1 out.2.2.2.2.2.2.2.2.2.2.2) A) args s 0 0 A) (w_M_via cy A_m A_m_there A_m_low A_m_high A_m_x A_m_y A_m_w A_m_h A_m_r A_m_pinOf A_m_netOfPin A_m_label A_m_number A_m_group m_thrown m_layers m_pieces m_airSquare m_airLow m_airHigh m_there m_low m_high m_x m_y m_w m_h m_r m_pinOf) 60 [(0, .ref A_m), (1, .int v1), (2, .int v2), (3, .long v3), (5, .long v5), (7, .long v7)] [.int s1, .ref A_m] := by
  refine cg_put (ws' := w_M_via cy A_m A_m_there A_m_low A_m_high A_m_x A_m_y A_m_w A_m_h A_m_r A_m_pinOf A_m_netOfPin A_m_label A_m_number A_m_group s1 m_layers m_pieces m_airSquare m_airLow m_airHigh m_there m_low m_high m_x m_y m_w m_h m_r m_pinOf) C 0 0 t_M d_M_via_60 rfl rfl hin_M tt_M n_M (by decide) rfl tw_551 rfl rfl (Nat.le_of_ble_eq_true rfl) rfl ?_
  refine cg_aload_n C d_M_via_63 0 rfl ?_
  refine cg_get C 0 0 d_M_via_64 rfl rfl hin_M (by decide) rfl tw_551 rfl ?_
  refine cg_if_ne C 87 d_M_via_67 (by decide) (fun q_1 => ?_) (fun q_1 => ?_)
  · have hF := cn_neg q_1 hF
    refine cg_iconst (v := 0) C d_M_via_87 (by decide) ?_
    refine cg_sub (lv' := []) [] rfl ?_
    exact t_M_via_88 C hr hlk hA A_m A_m_there A_m_low A_m_high A_m_x A_m_y A_m_w A_m_h A_m_r A_m_pinOf A_m_netOfPin A_m_label A_m_number A_m_group m_airSquare m_airLow m_airHigh s1 m_layers m_pieces m_there m_low m_high m_x m_y m_w m_h m_r m_pinOf 0 hF
  · have hF := cn_pos q_1 hF
    refine cg_aload_n C d_M_via_70 0 rfl ?_
    refine cg_iload_n C d_M_via_71 1 rfl ?_
    refine cg_iload_n C d_M_via_72 2 rfl ?_
    refine cg_lload_n C d_M_via_73 3 rfl ?_
    refine cg_lload C d_M_via_74 4 rfl ?_
    refine cg_lconst (v := 0) C d_M_via_76 (by decide) ?_
    refine cg_lconst (v := 0) C d_M_via_77 (by decide) ?_
    refine cg_lload C d_M_via_78 5 rfl ?_
    refine cg_iconst (v := (-1)) C d_M_via_80 (by decide) ?_
    obtain ⟨t_3, h_2, hF⟩ := cn_bind hF
    refine cg_callWV C hA (c_M_add A_m A_m_there A_m_low A_m_high A_m_x A_m_y A_m_w A_m_h A_m_r A_m_pinOf A_m_netOfPin A_m_label A_m_number A_m_group s1 m_layers m_pieces m_airSquare m_airLow m_airHigh m_there m_low m_high m_x m_y m_w m_h m_r m_pinOf v1 v2 v3 v5 0 0 v7 (-1) h_2) [0, 1, 2, 3, 4, 5, 6, 7, 8, 9] [] [0, 1, 2, 3, 4, 5, 6, 7, 8, 9] [] (w_M_via cy A_m A_m_there A_m_low A_m_high A_m_x A_m_y A_m_w A_m_h A_m_r A_m_pinOf A_m_netOfPin A_m_label A_m_number A_m_group s1 m_layers t_3.2.1 m_airSquare m_airLow m_airHigh t_3.2.2.1 t_3.2.2.2.1 t_3.2.2.2.2.1 t_3.2.2.2.2.2.1 t_3.2.2.2.2.2.2.1 t_3.2.2.2.2.2.2.2.1 t_3.2.2.2.2.2.2.2.2.1 t_3.2.2.2.2.2.2.2.2.2.1 t_3.2.2.2.2.2.2.2.2.2.2) rfl rfl rfl ⟨by decide, by decide, by decide, by decide⟩ 0 rfl rfl d_M_via_81 tw_629 tw_631 ts_43 tw_7 tw_632 hs_M_add ⟨by decide, by decide⟩ rfl rfl ⟨by decide, by decide⟩ (Nat.le_of_ble_eq_true rfl) rfl rfl ?_
    refine cg_goto C 88 d_M_via_84 (by decide) ?_
    refine cg_sub (lv' := []) [] rfl ?_
    exact t_M_via_88 C hr hlk hA A_m A_m_there A_m_low A_m_high A_m_x A_m_y A_m_w A_m_h A_m_r A_m_pinOf A_m_netOfPin A_m_label A_m_number A_m_group m_airSquare m_airLow m_airHigh s1 m_layers t_3.2.1 t_3.2.2.1 t_3.2.2.2.1 t_3.2.2.2.2.1 t_3.2.2.2.2.2.1 t_3.2.2.2.2.2.2.1 t_3.2.2.2.2.2.2.2.1 t_3.2.2.2.2.2.2.2.2.1 t_3.2.2.2.2.2.2.2.2.2.1 t_3.2.2.2.2.2.2.2.2.2.2 t_3.1 hF
def F_M_via_46 (m_thrown : Int32) (m_layers : Int32) (m_pieces : Int32) (m_there : Nat → Int32) (m_low : Nat → Int32) (m_high : Nat → Int32) (m_x : Nat → Int64) (m_y : Nat → Int64) (m_w : Nat → Int64) (m_h : Nat → Int64) (m_r : Nat → Int64) (m_pinOf : Nat → Int32) (v1 : Int32) (v2 : Int32) (v3 : Int64) (v5 : Int64) (v7 : Int64) : Option (Int32 × Int32 × Int32 × (Nat → Int32) × (Nat → Int32) × (Nat → Int32) × (Nat → Int64) × (Nat → Int64) × (Nat → Int64) × (Nat → Int64) × (Nat → Int64) × (Nat → Int32)) := F_M_via_60 m_thrown m_layers m_pieces m_there m_low m_high m_x m_y m_w m_h m_r m_pinOf v1 v2 v3 v5 v7 1
set_option maxRecDepth 100000 in
set_option maxHeartbeats 4000000 in
theorem t_M_via_46 {p : Program} {l : Launch} {e : Env} {s : State} {m : MethodId} {args : Array Value} {below : List Frame} {meth : Method} {c : Code} {D : va_G} {cy : Nat → ClassId} {A : Nat → Prop} {out : Int32 × Int32 × Int32 × (Nat → Int32) × (Nat → Int32) × (Nat → Int32) × (Nat → Int64) × (Nat → Int64) × (Nat → Int64) × (Nat → Int64) × (Nat → Int64) × (Nat → Int32)} (C : cn_X p s m args c b_M_via 10 "CopperNetsModel" D cy) (hr : meth.sig.returnType = some .int) (hlk : meth.locks = false) (hA : ∀ q, s.heap.size ≤ q → A q) (A_m : Nat) (A_m_there : Nat) (A_m_low : Nat) (A_m_high : Nat) (A_m_x : Nat) (A_m_y : Nat) (A_m_w : Nat) (A_m_h : Nat) (A_m_r : Nat) (A_m_pinOf : Nat) (A_m_netOfPin : Nat) (A_m_label : Nat) (A_m_number : Nat) (A_m_group : Nat) (m_airSquare : Int64) (m_airLow : Int32) (m_airHigh : Int32) (m_thrown : Int32) (m_layers : Int32) (m_pieces : Int32) (m_there : Nat → Int32) (m_low : Nat → Int32) (m_high : Nat → Int32) (m_x : Nat → Int64) (m_y : Nat → Int64) (m_w : Nat → Int64) (m_h : Nat → Int64) (m_r : Nat → Int64) (m_pinOf : Nat → Int32) (v1 : Int32) (v2 : Int32) (v3 : Int64) (v5 : Int64) (v7 : Int64) (hF : F_M_via_46 m_thrown m_layers m_pieces m_there m_low m_high m_x m_y m_w m_h m_r m_pinOf v1 v2 v3 v5 v7 = some out) : cg p l e r_M_via s m args below meth c D (va_S A s.heap) A 10 0 0 (MQ below (cn_QW (some (.int out.1)) D (w_M_via cy A_m A_m_there A_m_low A_m_high A_m_x A_m_y A_m_w A_m_h A_m_r A_m_pinOf A_m_netOfPin A_m_label A_m_number A_m_group out.2.1 m_layers out.2.2.1 m_airSquare m_airLow m_airHigh out.2.2.2.1 out.2.2.2.2.1 out.2.2.2.2.2.1 out.2.2.2.2.2.2.1 out.2.2.2.2.2.2.2.1 out.2.2.2.2.2.2.2.2.1 out.2.2.2.2.2.2.2.2.2.1 out.2.2.2.2.2.2.2.2.2.2.1 out.2.2.2.2.2.2.2.2.2.2.2) A) args s 0 0 A) (w_M_via cy A_m A_m_there A_m_low A_m_high A_m_x A_m_y A_m_w A_m_h A_m_r A_m_pinOf A_m_netOfPin A_m_label A_m_number A_m_group m_thrown m_layers m_pieces m_airSquare m_airLow m_airHigh m_there m_low m_high m_x m_y m_w m_h m_r m_pinOf) 46 [(0, .ref A_m), (1, .int v1), (2, .int v2), (3, .long v3), (5, .long v5), (7, .long v7)] [.ref A_m] := by
  refine cg_iconst (v := 1) C d_M_via_46 (by decide) ?_
  refine cg_goto C 60 d_M_via_47 (by decide) ?_
  exact t_M_via_60 C hr hlk hA A_m A_m_there A_m_low A_m_high A_m_x A_m_y A_m_w A_m_h A_m_r A_m_pinOf A_m_netOfPin A_m_label A_m_number A_m_group m_airSquare m_airLow m_airHigh m_thrown m_layers m_pieces m_there m_low m_high m_x m_y m_w m_h m_r m_pinOf v1 v2 v3 v5 v7 1 hF
def F_M_via_27 (m_thrown : Int32) (m_layers : Int32) (m_pieces : Int32) (m_there : Nat → Int32) (m_low : Nat → Int32) (m_high : Nat → Int32) (m_x : Nat → Int64) (m_y : Nat → Int64) (m_w : Nat → Int64) (m_h : Nat → Int64) (m_r : Nat → Int64) (m_pinOf : Nat → Int32) (v1 : Int32) (v2 : Int32) (v3 : Int64) (v5 : Int64) (v7 : Int64) (s0 : Int32) : Option (Int32 × Int32 × Int32 × (Nat → Int32) × (Nat → Int32) × (Nat → Int32) × (Nat → Int64) × (Nat → Int64) × (Nat → Int64) × (Nat → Int64) × (Nat → Int64) × (Nat → Int32)) := (F_M_isLayer m_layers v1).bind fun t_6 => if t_6 = 0 then (F_M_via_46 m_thrown m_layers m_pieces m_there m_low m_high m_x m_y m_w m_h m_r m_pinOf v1 v2 v3 v5 v7) else ((F_M_isLayer m_layers v2).bind fun t_9 => if t_9 = 0 then (F_M_via_46 m_thrown m_layers m_pieces m_there m_low m_high m_x m_y m_w m_h m_r m_pinOf v1 v2 v3 v5 v7) else (if s0 = 0 then (F_M_via_60 m_thrown m_layers m_pieces m_there m_low m_high m_x m_y m_w m_h m_r m_pinOf v1 v2 v3 v5 v7 2) else (F_M_via_60 m_thrown m_layers m_pieces m_there m_low m_high m_x m_y m_w m_h m_r m_pinOf v1 v2 v3 v5 v7 0)))
set_option maxRecDepth 100000 in
set_option maxHeartbeats 4000000 in
theorem t_M_via_27 {p : Program} {l : Launch} {e : Env} {s : State} {m : MethodId} {args : Array Value} {below : List Frame} {meth : Method} {c : Code} {D : va_G} {cy : Nat → ClassId} {A : Nat → Prop} {out : Int32 × Int32 × Int32 × (Nat → Int32) × (Nat → Int32) × (Nat → Int32) × (Nat → Int64) × (Nat → Int64) × (Nat → Int64) × (Nat → Int64) × (Nat → Int64) × (Nat → Int32)} (C : cn_X p s m args c b_M_via 10 "CopperNetsModel" D cy) (hr : meth.sig.returnType = some .int) (hlk : meth.locks = false) (hA : ∀ q, s.heap.size ≤ q → A q) (A_m : Nat) (A_m_there : Nat) (A_m_low : Nat) (A_m_high : Nat) (A_m_x : Nat) (A_m_y : Nat) (A_m_w : Nat) (A_m_h : Nat) (A_m_r : Nat) (A_m_pinOf : Nat) (A_m_netOfPin : Nat) (A_m_label : Nat) (A_m_number : Nat) (A_m_group : Nat) (m_airSquare : Int64) (m_airLow : Int32) (m_airHigh : Int32) (m_thrown : Int32) (m_layers : Int32) (m_pieces : Int32) (m_there : Nat → Int32) (m_low : Nat → Int32) (m_high : Nat → Int32) (m_x : Nat → Int64) (m_y : Nat → Int64) (m_w : Nat → Int64) (m_h : Nat → Int64) (m_r : Nat → Int64) (m_pinOf : Nat → Int32) (v1 : Int32) (v2 : Int32) (v3 : Int64) (v5 : Int64) (v7 : Int64) (s0 : Int32) (hF : F_M_via_27 m_thrown m_layers m_pieces m_there m_low m_high m_x m_y m_w m_h m_r m_pinOf v1 v2 v3 v5 v7 s0 = some out) : cg p l e r_M_via s m args below meth c D (va_S A s.heap) A 10 0 0 (MQ below (cn_QW (some (.int out.1)) D (w_M_via cy A_m A_m_there A_m_low A_m_high A_m_x A_m_y A_m_w A_m_h A_m_r A_m_pinOf A_m_netOfPin A_m_label A_m_number A_m_group out.2.1 m_layers out.2.2.1 m_airSquare m_airLow m_airHigh out.2.2.2.1 out.2.2.2.2.1 out.2.2.2.2.2.1 out.2.2.2.2.2.2.1 out.2.2.2.2.2.2.2.1 out.2.2.2.2.2.2.2.2.1 out.2.2.2.2.2.2.2.2.2.1 out.2.2.2.2.2.2.2.2.2.2.1 out.2.2.2.2.2.2.2.2.2.2.2) A) args s 0 0 A) (w_M_via cy A_m A_m_there A_m_low A_m_high A_m_x A_m_y A_m_w A_m_h A_m_r A_m_pinOf A_m_netOfPin A_m_label A_m_number A_m_group m_thrown m_layers m_pieces m_airSquare m_airLow m_airHigh m_there m_low m_high m_x m_y m_w m_h m_r m_pinOf) 27 [(0, .ref A_m), (1, .int v1), (2, .int v2), (3, .long v3), (5, .long v5), (7, .long v7)] [.int s0] := by
  refine cg_istore (lv' := [(9, .int s0), (0, .ref A_m), (1, .int v1), (2, .int v2), (3, .long v3), (5, .long v5), (7, .long v7)]) C d_M_via_27 (by decide) rfl ?_
  refine cg_aload_n C d_M_via_29 1 rfl ?_
  refine cg_aload_n C d_M_via_30 1 rfl ?_
  refine cg_iload_n C d_M_via_31 2 rfl ?_
  obtain ⟨t_6, h_5, hF⟩ := cn_bind hF
  refine cg_callRV C (c_M_isLayer A_m A_m_there A_m_low A_m_high A_m_x A_m_y A_m_w A_m_h A_m_r A_m_pinOf A_m_netOfPin A_m_label A_m_number A_m_group m_thrown m_layers m_pieces m_airSquare m_airLow m_airHigh v1 h_5) [0] rfl (by decide) 0 rfl rfl d_M_via_32 tw_625 tw_627 ts_42 tw_7 tw_628 hs_M_isLayer ⟨by decide, by decide⟩ rfl rfl ⟨by decide, by decide⟩ (Nat.le_of_ble_eq_true rfl) rfl rfl ?_
  refine cg_if_eq C 46 d_M_via_35 (by decide) (fun q_7 => ?_) (fun q_7 => ?_)
  · have hF := cn_pos q_7 hF
    refine cg_sub (lv' := [(0, .ref A_m), (1, .int v1), (2, .int v2), (3, .long v3), (5, .long v5), (7, .long v7)]) [1, 2, 3, 4, 5, 6] rfl ?_
    exact t_M_via_46 C hr hlk hA A_m A_m_there A_m_low A_m_high A_m_x A_m_y A_m_w A_m_h A_m_r A_m_pinOf A_m_netOfPin A_m_label A_m_number A_m_group m_airSquare m_airLow m_airHigh m_thrown m_layers m_pieces m_there m_low m_high m_x m_y m_w m_h m_r m_pinOf v1 v2 v3 v5 v7 hF
  · have hF := cn_neg q_7 hF
    refine cg_aload_n C d_M_via_38 1 rfl ?_
    refine cg_iload_n C d_M_via_39 3 rfl ?_
    obtain ⟨t_9, h_8, hF⟩ := cn_bind hF
    refine cg_callRV C (c_M_isLayer A_m A_m_there A_m_low A_m_high A_m_x A_m_y A_m_w A_m_h A_m_r A_m_pinOf A_m_netOfPin A_m_label A_m_number A_m_group m_thrown m_layers m_pieces m_airSquare m_airLow m_airHigh v2 h_8) [0] rfl (by decide) 0 rfl rfl d_M_via_40 tw_625 tw_627 ts_42 tw_7 tw_628 hs_M_isLayer ⟨by decide, by decide⟩ rfl rfl ⟨by decide, by decide⟩ (Nat.le_of_ble_eq_true rfl) rfl rfl ?_
    refine cg_if_ne C 50 d_M_via_43 (by decide) (fun q_10 => ?_) (fun q_10 => ?_)
    · have hF := cn_neg q_10 hF
      refine cg_iload C d_M_via_50 0 rfl ?_
      refine cg_if_eq C 59 d_M_via_52 (by decide) (fun q_11 => ?_) (fun q_11 => ?_)
      · have hF := cn_pos q_11 hF
        refine cg_iconst (v := 2) C d_M_via_59 (by decide) ?_
        refine cg_sub (lv' := [(0, .ref A_m), (1, .int v1), (2, .int v2), (3, .long v3), (5, .long v5), (7, .long v7)]) [1, 2, 3, 4, 5, 6] rfl ?_
        exact t_M_via_60 C hr hlk hA A_m A_m_there A_m_low A_m_high A_m_x A_m_y A_m_w A_m_h A_m_r A_m_pinOf A_m_netOfPin A_m_label A_m_number A_m_group m_airSquare m_airLow m_airHigh m_thrown m_layers m_pieces m_there m_low m_high m_x m_y m_w m_h m_r m_pinOf v1 v2 v3 v5 v7 2 hF
      · have hF := cn_neg q_11 hF
        refine cg_iconst (v := 0) C d_M_via_55 (by decide) ?_
        refine cg_goto C 60 d_M_via_56 (by decide) ?_
        refine cg_sub (lv' := [(0, .ref A_m), (1, .int v1), (2, .int v2), (3, .long v3), (5, .long v5), (7, .long v7)]) [1, 2, 3, 4, 5, 6] rfl ?_
        exact t_M_via_60 C hr hlk hA A_m A_m_there A_m_low A_m_high A_m_x A_m_y A_m_w A_m_h A_m_r A_m_pinOf A_m_netOfPin A_m_label A_m_number A_m_group m_airSquare m_airLow m_airHigh m_thrown m_layers m_pieces m_there m_low m_high m_x m_y m_w m_h m_r m_pinOf v1 v2 v3 v5 v7 0 hF
    · have hF := cn_pos q_10 hF
      refine cg_sub (lv' := [(0, .ref A_m), (1, .int v1), (2, .int v2), (3, .long v3), (5, .long v5), (7, .long v7)]) [1, 2, 3, 4, 5, 6] rfl ?_
      exact t_M_via_46 C hr hlk hA A_m A_m_there A_m_low A_m_high A_m_x A_m_y A_m_w A_m_h A_m_r A_m_pinOf A_m_netOfPin A_m_label A_m_number A_m_group m_airSquare m_airLow m_airHigh m_thrown m_layers m_pieces m_there m_low m_high m_x m_y m_w m_h m_r m_pinOf v1 v2 v3 v5 v7 hF
def F_M_via_26 (m_thrown : Int32) (m_layers : Int32) (m_pieces : Int32) (m_there : Nat → Int32) (m_low : Nat → Int32) (m_high : Nat → Int32) (m_x : Nat → Int64) (m_y : Nat → Int64) (m_w : Nat → Int64) (m_h : Nat → Int64) (m_r : Nat → Int64) (m_pinOf : Nat → Int32) (v1 : Int32) (v2 : Int32) (v3 : Int64) (v5 : Int64) (v7 : Int64) : Option (Int32 × Int32 × Int32 × (Nat → Int32) × (Nat → Int32) × (Nat → Int32) × (Nat → Int64) × (Nat → Int64) × (Nat → Int64) × (Nat → Int64) × (Nat → Int64) × (Nat → Int32)) := F_M_via_27 m_thrown m_layers m_pieces m_there m_low m_high m_x m_y m_w m_h m_r m_pinOf v1 v2 v3 v5 v7 0
set_option maxRecDepth 100000 in
set_option maxHeartbeats 4000000 in
theorem t_M_via_26 {p : Program} {l : Launch} {e : Env} {s : State} {m : MethodId} {args : Array Value} {below : List Frame} {meth : Method} {c : Code} {D : va_G} {cy : Nat → ClassId} {A : Nat → Prop} {out : Int32 × Int32 × Int32 × (Nat → Int32) × (Nat → Int32) × (Nat → Int32) × (Nat → Int64) × (Nat → Int64) × (Nat → Int64) × (Nat → Int64) × (Nat → Int64) × (Nat → Int32)} (C : cn_X p s m args c b_M_via 10 "CopperNetsModel" D cy) (hr : meth.sig.returnType = some .int) (hlk : meth.locks = false) (hA : ∀ q, s.heap.size ≤ q → A q) (A_m : Nat) (A_m_there : Nat) (A_m_low : Nat) (A_m_high : Nat) (A_m_x : Nat) (A_m_y : Nat) (A_m_w : Nat) (A_m_h : Nat) (A_m_r : Nat) (A_m_pinOf : Nat) (A_m_netOfPin : Nat) (A_m_label : Nat) (A_m_number : Nat) (A_m_group : Nat) (m_airSquare : Int64) (m_airLow : Int32) (m_airHigh : Int32) (m_thrown : Int32) (m_layers : Int32) (m_pieces : Int32) (m_there : Nat → Int32) (m_low : Nat → Int32) (m_high : Nat → Int32) (m_x : Nat → Int64) (m_y : Nat → Int64) (m_w : Nat → Int64) (m_h : Nat → Int64) (m_r : Nat → Int64) (m_pinOf : Nat → Int32) (v1 : Int32) (v2 : Int32) (v3 : Int64) (v5 : Int64) (v7 : Int64) (hF : F_M_via_26 m_thrown m_layers m_pieces m_there m_low m_high m_x m_y m_w m_h m_r m_pinOf v1 v2 v3 v5 v7 = some out) : cg p l e r_M_via s m args below meth c D (va_S A s.heap) A 10 0 0 (MQ below (cn_QW (some (.int out.1)) D (w_M_via cy A_m A_m_there A_m_low A_m_high A_m_x A_m_y A_m_w A_m_h A_m_r A_m_pinOf A_m_netOfPin A_m_label A_m_number A_m_group out.2.1 m_layers out.2.2.1 m_airSquare m_airLow m_airHigh out.2.2.2.1 out.2.2.2.2.1 out.2.2.2.2.2.1 out.2.2.2.2.2.2.1 out.2.2.2.2.2.2.2.1 out.2.2.2.2.2.2.2.2.1 out.2.2.2.2.2.2.2.2.2.1 out.2.2.2.2.2.2.2.2.2.2.1 out.2.2.2.2.2.2.2.2.2.2.2) A) args s 0 0 A) (w_M_via cy A_m A_m_there A_m_low A_m_high A_m_x A_m_y A_m_w A_m_h A_m_r A_m_pinOf A_m_netOfPin A_m_label A_m_number A_m_group m_thrown m_layers m_pieces m_airSquare m_airLow m_airHigh m_there m_low m_high m_x m_y m_w m_h m_r m_pinOf) 26 [(0, .ref A_m), (1, .int v1), (2, .int v2), (3, .long v3), (5, .long v5), (7, .long v7)] [] := by
  refine cg_iconst (v := 0) C d_M_via_26 (by decide) ?_
  exact t_M_via_27 C hr hlk hA A_m A_m_there A_m_low A_m_high A_m_x A_m_y A_m_w A_m_h A_m_r A_m_pinOf A_m_netOfPin A_m_label A_m_number A_m_group m_airSquare m_airLow m_airHigh m_thrown m_layers m_pieces m_there m_low m_high m_x m_y m_w m_h m_r m_pinOf v1 v2 v3 v5 v7 0 hF
def F_M_via_0 (m_thrown : Int32) (m_layers : Int32) (m_pieces : Int32) (m_there : Nat → Int32) (m_low : Nat → Int32) (m_high : Nat → Int32) (m_x : Nat → Int64) (m_y : Nat → Int64) (m_w : Nat → Int64) (m_h : Nat → Int64) (m_r : Nat → Int64) (m_pinOf : Nat → Int32) (v1 : Int32) (v2 : Int32) (v3 : Int64) (v5 : Int64) (v7 : Int64) : Option (Int32 × Int32 × Int32 × (Nat → Int32) × (Nat → Int32) × (Nat → Int32) × (Nat → Int64) × (Nat → Int64) × (Nat → Int64) × (Nat → Int64) × (Nat → Int64) × (Nat → Int32)) := if v2 < v1 then (F_M_via_26 m_thrown m_layers m_pieces m_there m_low m_high m_x m_y m_w m_h m_r m_pinOf v1 v2 v3 v5 v7) else ((F_M_isPlace v3 v5).bind fun t_16 => if t_16 = 0 then (F_M_via_26 m_thrown m_layers m_pieces m_there m_low m_high m_x m_y m_w m_h m_r m_pinOf v1 v2 v3 v5 v7) else ((F_M_isSize v7).bind fun t_19 => if t_19 = 0 then (F_M_via_26 m_thrown m_layers m_pieces m_there m_low m_high m_x m_y m_w m_h m_r m_pinOf v1 v2 v3 v5 v7) else (F_M_via_27 m_thrown m_layers m_pieces m_there m_low m_high m_x m_y m_w m_h m_r m_pinOf v1 v2 v3 v5 v7 1)))
set_option maxRecDepth 100000 in
set_option maxHeartbeats 4000000 in
theorem t_M_via_0 {p : Program} {l : Launch} {e : Env} {s : State} {m : MethodId} {args : Array Value} {below : List Frame} {meth : Method} {c : Code} {D : va_G} {cy : Nat → ClassId} {A : Nat → Prop} {out : Int32 × Int32 × Int32 × (Nat → Int32) × (Nat → Int32) × (Nat → Int32) × (Nat → Int64) × (Nat → Int64) × (Nat → Int64) × (Nat → Int64) × (Nat → Int64) × (Nat → Int32)} (C : cn_X p s m args c b_M_via 10 "CopperNetsModel" D cy) (hr : meth.sig.returnType = some .int) (hlk : meth.locks = false) (hA : ∀ q, s.heap.size ≤ q → A q) (A_m : Nat) (A_m_there : Nat) (A_m_low : Nat) (A_m_high : Nat) (A_m_x : Nat) (A_m_y : Nat) (A_m_w : Nat) (A_m_h : Nat) (A_m_r : Nat) (A_m_pinOf : Nat) (A_m_netOfPin : Nat) (A_m_label : Nat) (A_m_number : Nat) (A_m_group : Nat) (m_airSquare : Int64) (m_airLow : Int32) (m_airHigh : Int32) (m_thrown : Int32) (m_layers : Int32) (m_pieces : Int32) (m_there : Nat → Int32) (m_low : Nat → Int32) (m_high : Nat → Int32) (m_x : Nat → Int64) (m_y : Nat → Int64) (m_w : Nat → Int64) (m_h : Nat → Int64) (m_r : Nat → Int64) (m_pinOf : Nat → Int32) (v1 : Int32) (v2 : Int32) (v3 : Int64) (v5 : Int64) (v7 : Int64) (hF : F_M_via_0 m_thrown m_layers m_pieces m_there m_low m_high m_x m_y m_w m_h m_r m_pinOf v1 v2 v3 v5 v7 = some out) : cg p l e r_M_via s m args below meth c D (va_S A s.heap) A 10 0 0 (MQ below (cn_QW (some (.int out.1)) D (w_M_via cy A_m A_m_there A_m_low A_m_high A_m_x A_m_y A_m_w A_m_h A_m_r A_m_pinOf A_m_netOfPin A_m_label A_m_number A_m_group out.2.1 m_layers out.2.2.1 m_airSquare m_airLow m_airHigh out.2.2.2.1 out.2.2.2.2.1 out.2.2.2.2.2.1 out.2.2.2.2.2.2.1 out.2.2.2.2.2.2.2.1 out.2.2.2.2.2.2.2.2.1 out.2.2.2.2.2.2.2.2.2.1 out.2.2.2.2.2.2.2.2.2.2.1 out.2.2.2.2.2.2.2.2.2.2.2) A) args s 0 0 A) (w_M_via cy A_m A_m_there A_m_low A_m_high A_m_x A_m_y A_m_w A_m_h A_m_r A_m_pinOf A_m_netOfPin A_m_label A_m_number A_m_group m_thrown m_layers m_pieces m_airSquare m_airLow m_airHigh m_there m_low m_high m_x m_y m_w m_h m_r m_pinOf) 0 [(0, .ref A_m), (1, .int v1), (2, .int v2), (3, .long v3), (5, .long v5), (7, .long v7)] [] := by
  refine cg_iload_n C d_M_via_0 1 rfl ?_
  refine cg_iload_n C d_M_via_1 2 rfl ?_
  refine cg_icmp_gt C 26 d_M_via_2 (by decide) (fun q_14 => ?_) (fun q_14 => ?_)
  · have hF := cn_pos q_14 hF
    exact t_M_via_26 C hr hlk hA A_m A_m_there A_m_low A_m_high A_m_x A_m_y A_m_w A_m_h A_m_r A_m_pinOf A_m_netOfPin A_m_label A_m_number A_m_group m_airSquare m_airLow m_airHigh m_thrown m_layers m_pieces m_there m_low m_high m_x m_y m_w m_h m_r m_pinOf v1 v2 v3 v5 v7 hF
  · have hF := cn_neg q_14 hF
    refine cg_lload_n C d_M_via_5 3 rfl ?_
    refine cg_lload C d_M_via_6 4 rfl ?_
    obtain ⟨t_16, h_15, hF⟩ := cn_bind hF
    refine cg_callRS C (c_M_isPlace v3 v5 h_15) [] rfl (by decide) d_M_via_8 tw_617 tw_618 tw_7 tw_619 hs_M_isPlace ⟨by decide, by decide⟩ rfl rfl ⟨by decide, by decide⟩ (Nat.le_of_ble_eq_true rfl) rfl rfl ?_
    refine cg_if_eq C 26 d_M_via_11 (by decide) (fun q_17 => ?_) (fun q_17 => ?_)
    · have hF := cn_pos q_17 hF
      exact t_M_via_26 C hr hlk hA A_m A_m_there A_m_low A_m_high A_m_x A_m_y A_m_w A_m_h A_m_r A_m_pinOf A_m_netOfPin A_m_label A_m_number A_m_group m_airSquare m_airLow m_airHigh m_thrown m_layers m_pieces m_there m_low m_high m_x m_y m_w m_h m_r m_pinOf v1 v2 v3 v5 v7 hF
    · have hF := cn_neg q_17 hF
      refine cg_lload C d_M_via_14 5 rfl ?_
      obtain ⟨t_19, h_18, hF⟩ := cn_bind hF
      refine cg_callRS C (c_M_isSize v7 h_18) [] rfl (by decide) d_M_via_16 tw_622 tw_623 tw_7 tw_624 hs_M_isSize ⟨by decide, by decide⟩ rfl rfl ⟨by decide, by decide⟩ (Nat.le_of_ble_eq_true rfl) rfl rfl ?_
      refine cg_if_eq C 26 d_M_via_19 (by decide) (fun q_20 => ?_) (fun q_20 => ?_)
      · have hF := cn_pos q_20 hF
        exact t_M_via_26 C hr hlk hA A_m A_m_there A_m_low A_m_high A_m_x A_m_y A_m_w A_m_h A_m_r A_m_pinOf A_m_netOfPin A_m_label A_m_number A_m_group m_airSquare m_airLow m_airHigh m_thrown m_layers m_pieces m_there m_low m_high m_x m_y m_w m_h m_r m_pinOf v1 v2 v3 v5 v7 hF
      · have hF := cn_neg q_20 hF
        refine cg_iconst (v := 1) C d_M_via_22 (by decide) ?_
        refine cg_goto C 27 d_M_via_23 (by decide) ?_
        exact t_M_via_27 C hr hlk hA A_m A_m_there A_m_low A_m_high A_m_x A_m_y A_m_w A_m_h A_m_r A_m_pinOf A_m_netOfPin A_m_label A_m_number A_m_group m_airSquare m_airLow m_airHigh m_thrown m_layers m_pieces m_there m_low m_high m_x m_y m_w m_h m_r m_pinOf v1 v2 v3 v5 v7 1 hF
abbrev F_M_via (m_thrown : Int32) (m_layers : Int32) (m_pieces : Int32) (m_there : Nat → Int32) (m_low : Nat → Int32) (m_high : Nat → Int32) (m_x : Nat → Int64) (m_y : Nat → Int64) (m_w : Nat → Int64) (m_h : Nat → Int64) (m_r : Nat → Int64) (m_pinOf : Nat → Int32) (v1 : Int32) (v2 : Int32) (v3 : Int64) (v5 : Int64) (v7 : Int64) : Option (Int32 × Int32 × Int32 × (Nat → Int32) × (Nat → Int32) × (Nat → Int32) × (Nat → Int64) × (Nat → Int64) × (Nat → Int64) × (Nat → Int64) × (Nat → Int64) × (Nat → Int32)) := F_M_via_0 m_thrown m_layers m_pieces m_there m_low m_high m_x m_y m_w m_h m_r m_pinOf v1 v2 v3 v5 v7
theorem c_M_via {l : Launch} {D : va_G} {cy : Nat → ClassId} (A_m : Nat) (A_m_there : Nat) (A_m_low : Nat) (A_m_high : Nat) (A_m_x : Nat) (A_m_y : Nat) (A_m_w : Nat) (A_m_h : Nat) (A_m_r : Nat) (A_m_pinOf : Nat) (A_m_netOfPin : Nat) (A_m_label : Nat) (A_m_number : Nat) (A_m_group : Nat) (m_thrown : Int32) (m_layers : Int32) (m_pieces : Int32) (m_airSquare : Int64) (m_airLow : Int32) (m_airHigh : Int32) (m_there : Nat → Int32) (m_low : Nat → Int32) (m_high : Nat → Int32) (m_x : Nat → Int64) (m_y : Nat → Int64) (m_w : Nat → Int64) (m_h : Nat → Int64) (m_r : Nat → Int64) (m_pinOf : Nat → Int32) (v1 : Int32) (v2 : Int32) (v3 : Int64) (v5 : Int64) (v7 : Int64) {out : Int32 × Int32 × Int32 × (Nat → Int32) × (Nat → Int32) × (Nat → Int32) × (Nat → Int64) × (Nat → Int64) × (Nat → Int64) × (Nat → Int64) × (Nat → Int64) × (Nat → Int32)} (hF : F_M_via m_thrown m_layers m_pieces m_there m_low m_high m_x m_y m_w m_h m_r m_pinOf v1 v2 v3 v5 v7 = some out) : cn_MW l y_M_via b_M_via 10 (some .int) r_M_via D cy [.ref A_m, .int v1, .int v2, .long v3, .long v5, .long v7] (w_M_via cy A_m A_m_there A_m_low A_m_high A_m_x A_m_y A_m_w A_m_h A_m_r A_m_pinOf A_m_netOfPin A_m_label A_m_number A_m_group m_thrown m_layers m_pieces m_airSquare m_airLow m_airHigh m_there m_low m_high m_x m_y m_w m_h m_r m_pinOf) (some (.int out.1)) (w_M_via cy A_m A_m_there A_m_low A_m_high A_m_x A_m_y A_m_w A_m_h A_m_r A_m_pinOf A_m_netOfPin A_m_label A_m_number A_m_group out.2.1 m_layers out.2.2.1 m_airSquare m_airLow m_airHigh out.2.2.2.1 out.2.2.2.2.1 out.2.2.2.2.2.1 out.2.2.2.2.2.2.1 out.2.2.2.2.2.2.2.1 out.2.2.2.2.2.2.2.2.1 out.2.2.2.2.2.2.2.2.2.1 out.2.2.2.2.2.2.2.2.2.2.1 out.2.2.2.2.2.2.2.2.2.2.2) 0 0 :=
  cn_MW.of (by decide +kernel) (Nat.le_of_ble_eq_true rfl) (fun p e s m below meth c A C hr hlk hA => t_M_via_0 C hr hlk hA A_m A_m_there A_m_low A_m_high A_m_x A_m_y A_m_w A_m_h A_m_r A_m_pinOf A_m_netOfPin A_m_label A_m_number A_m_group m_airSquare m_airLow m_airHigh m_thrown m_layers m_pieces m_there m_low m_high m_x m_y m_w m_h m_r m_pinOf v1 v2 v3 v5 v7 hF)
/-! CopperNetsModel.isPin(I)Z -/
abbrev r_M_isPin : Room := { frames := 0, cells := 0, slots := 0, locals := 0 }
abbrev w_M_isPin (cy : Nat → ClassId) : va_W := []
theorem hs_M_isPin : y_M_isPin.cls ≠ "java/lang/invoke/MethodHandle" ∧ y_M_isPin.cls ≠ "java/lang/invoke/VarHandle" ∧ (parseMethodDescriptor y_M_isPin.desc).map (fun d => d.parameters.length) = some 1 := by decide +kernel
def F_M_isPin_15 (s0 : Int32) : Option (Int32) := cn_bl s0 (some (s0))
set_option maxRecDepth 100000 in
set_option maxHeartbeats 4000000 in
theorem t_M_isPin_15 {p : Program} {l : Launch} {e : Env} {s : State} {m : MethodId} {args : Array Value} {below : List Frame} {meth : Method} {c : Code} {D : va_G} {cy : Nat → ClassId} {out : Int32} (C : cn_X p s m args c b_M_isPin 1 "CopperNetsModel" D cy) (hr : meth.sig.returnType = some .boolean) (hlk : meth.locks = false) (s0 : Int32) (hF : F_M_isPin_15 s0 = some out) : cg p l e r_M_isPin s m args below meth c D (cn_hi s) (fun _ => True) 1 0 0 (MQ below (cn_QR (some (.int out))) args s 0 0 (fun _ => False)) (w_M_isPin cy) 15 [] [.int s0] := by
  obtain ⟨hz, hF⟩ := cn_bl_some hF
  obtain rfl := Option.some.inj hF
  exact cg_zretR C hr hz hlk d_M_isPin_15
def F_M_isPin_14 : Option (Int32) := F_M_isPin_15 0
set_option maxRecDepth 100000 in
set_option maxHeartbeats 4000000 in
theorem t_M_isPin_14 {p : Program} {l : Launch} {e : Env} {s : State} {m : MethodId} {args : Array Value} {below : List Frame} {meth : Method} {c : Code} {D : va_G} {cy : Nat → ClassId} {out : Int32} (C : cn_X p s m args c b_M_isPin 1 "CopperNetsModel" D cy) (hr : meth.sig.returnType = some .boolean) (hlk : meth.locks = false) (hF : F_M_isPin_14 = some out) : cg p l e r_M_isPin s m args below meth c D (cn_hi s) (fun _ => True) 1 0 0 (MQ below (cn_QR (some (.int out))) args s 0 0 (fun _ => False)) (w_M_isPin cy) 14 [] [] := by
  refine cg_iconst (v := 0) C d_M_isPin_14 (by decide) ?_
  exact t_M_isPin_15 C hr hlk 0 hF
def F_M_isPin_0 (v0 : Int32) : Option (Int32) := if v0 < 0 then (F_M_isPin_14) else (if 40 ≤ v0 then (F_M_isPin_14) else (F_M_isPin_15 1))
set_option maxRecDepth 100000 in
set_option maxHeartbeats 4000000 in
theorem t_M_isPin_0 {p : Program} {l : Launch} {e : Env} {s : State} {m : MethodId} {args : Array Value} {below : List Frame} {meth : Method} {c : Code} {D : va_G} {cy : Nat → ClassId} {out : Int32} (C : cn_X p s m args c b_M_isPin 1 "CopperNetsModel" D cy) (hr : meth.sig.returnType = some .boolean) (hlk : meth.locks = false) (v0 : Int32) (hF : F_M_isPin_0 v0 = some out) : cg p l e r_M_isPin s m args below meth c D (cn_hi s) (fun _ => True) 1 0 0 (MQ below (cn_QR (some (.int out))) args s 0 0 (fun _ => False)) (w_M_isPin cy) 0 [(0, .int v0)] [] := by
  refine cg_iload_n C d_M_isPin_0 0 rfl ?_
  refine cg_if_lt C 14 d_M_isPin_1 (by decide) (fun q_1 => ?_) (fun q_1 => ?_)
  · have hF := cn_pos q_1 hF
    refine cg_sub (lv' := []) [] rfl ?_
    exact t_M_isPin_14 C hr hlk hF
  · have hF := cn_neg q_1 hF
    refine cg_iload_n C d_M_isPin_4 0 rfl ?_
    refine cg_bipush (v := 40) C d_M_isPin_5 (by decide) ?_
    refine cg_icmp_ge C 14 d_M_isPin_7 (by decide) (fun q_2 => ?_) (fun q_2 => ?_)
    · have hF := cn_pos q_2 hF
      refine cg_sub (lv' := []) [] rfl ?_
      exact t_M_isPin_14 C hr hlk hF
    · have hF := cn_neg q_2 hF
      refine cg_iconst (v := 1) C d_M_isPin_10 (by decide) ?_
      refine cg_goto C 15 d_M_isPin_11 (by decide) ?_
      refine cg_sub (lv' := []) [] rfl ?_
      exact t_M_isPin_15 C hr hlk 1 hF
abbrev F_M_isPin (v0 : Int32) : Option (Int32) := F_M_isPin_0 v0
theorem c_M_isPin {l : Launch} {D : va_G} {cy : Nat → ClassId} (v0 : Int32) {out : Int32} (hF : F_M_isPin v0 = some out) : cn_MR l y_M_isPin b_M_isPin 1 (some .boolean) r_M_isPin D cy [.int v0] (w_M_isPin cy) (some (.int out)) :=
  cn_MR.of (by decide +kernel) (Nat.le_of_ble_eq_true rfl) (fun p e s m below meth c C hr hlk => t_M_isPin_0 C hr hlk v0 hF)
/-! CopperNetsModel.pad(IIJJJ)I -/
abbrev r_M_pad : Room := { frames := 1, cells := 0, slots := 0, locals := 33 }
abbrev w_M_pad (cy : Nat → ClassId) (A_m : Nat) (A_m_there : Nat) (A_m_low : Nat) (A_m_high : Nat) (A_m_x : Nat) (A_m_y : Nat) (A_m_w : Nat) (A_m_h : Nat) (A_m_r : Nat) (A_m_pinOf : Nat) (A_m_netOfPin : Nat) (A_m_label : Nat) (A_m_number : Nat) (A_m_group : Nat) (m_thrown : Int32) (m_layers : Int32) (m_pieces : Int32) (m_airSquare : Int64) (m_airLow : Int32) (m_airHigh : Int32) (m_there : Nat → Int32) (m_low : Nat → Int32) (m_high : Nat → Int32) (m_x : Nat → Int64) (m_y : Nat → Int64) (m_w : Nat → Int64) (m_h : Nat → Int64) (m_r : Nat → Int64) (m_pinOf : Nat → Int32) : va_W := [(A_m, .inr (4, [.int m_thrown, .int m_layers, .int m_pieces, .ref A_m_there, .ref A_m_low, .ref A_m_high, .ref A_m_x, .ref A_m_y, .ref A_m_w, .ref A_m_h, .ref A_m_r, .ref A_m_pinOf, .ref A_m_netOfPin, .ref A_m_label, .ref A_m_number, .ref A_m_group, .long m_airSquare, .int m_airLow, .int m_airHigh])), (A_m_there, .inl (cy 2, 60, .inl m_there)), (A_m_low, .inl (cy 0, 60, .inl m_low)), (A_m_high, .inl (cy 0, 60, .inl m_high)), (A_m_x, .inl (cy 1, 60, .inr (.inl m_x))), (A_m_y, .inl (cy 1, 60, .inr (.inl m_y))), (A_m_w, .inl (cy 1, 60, .inr (.inl m_w))), (A_m_h, .inl (cy 1, 60, .inr (.inl m_h))), (A_m_r, .inl (cy 1, 60, .inr (.inl m_r))), (A_m_pinOf, .inl (cy 0, 60, .inl m_pinOf))]
theorem hs_M_pad : y_M_pad.cls ≠ "java/lang/invoke/MethodHandle" ∧ y_M_pad.cls ≠ "java/lang/invoke/VarHandle" ∧ (parseMethodDescriptor y_M_pad.desc).map (fun d => d.parameters.length) = some 5 := by decide +kernel
def F_M_pad_70 (m_thrown : Int32) (m_layers : Int32) (m_pieces : Int32) (m_there : Nat → Int32) (m_low : Nat → Int32) (m_high : Nat → Int32) (m_x : Nat → Int64) (m_y : Nat → Int64) (m_w : Nat → Int64) (m_h : Nat → Int64) (m_r : Nat → Int64) (m_pinOf : Nat → Int32) (s0 : Int32) : Option (Int32 × Int32 × Int32 × (Nat → Int32) × (Nat → Int32) × (Nat → Int32) × (Nat → Int64) × (Nat → Int64) × (Nat → Int64) × (Nat → Int64) × (Nat → Int64) × (Nat → Int32)) := some (s0, m_thrown, m_pieces, m_there, m_low, m_high, m_x, m_y, m_w, m_h, m_r, m_pinOf)
set_option maxRecDepth 100000 in
set_option maxHeartbeats 4000000 in
theorem t_M_pad_70 {p : Program} {l : Launch} {e : Env} {s : State} {m : MethodId} {args : Array Value} {below : List Frame} {meth : Method} {c : Code} {D : va_G} {cy : Nat → ClassId} {A : Nat → Prop} {out : Int32 × Int32 × Int32 × (Nat → Int32) × (Nat → Int32) × (Nat → Int32) × (Nat → Int64) × (Nat → Int64) × (Nat → Int64) × (Nat → Int64) × (Nat → Int64) × (Nat → Int32)} (C : cn_X p s m args c b_M_pad 9 "CopperNetsModel" D cy) (hr : meth.sig.returnType = some .int) (hlk : meth.locks = false) (hA : ∀ q, s.heap.size ≤ q → A q) (A_m : Nat) (A_m_there : Nat) (A_m_low : Nat) (A_m_high : Nat) (A_m_x : Nat) (A_m_y : Nat) (A_m_w : Nat) (A_m_h : Nat) (A_m_r : Nat) (A_m_pinOf : Nat) (A_m_netOfPin : Nat) (A_m_label : Nat) (A_m_number : Nat) (A_m_group : Nat) (m_airSquare : Int64) (m_airLow : Int32) (m_airHigh : Int32) (m_thrown : Int32) (m_layers : Int32) (m_pieces : Int32) (m_there : Nat → Int32) (m_low : Nat → Int32) (m_high : Nat → Int32) (m_x : Nat → Int64) (m_y : Nat → Int64) (m_w : Nat → Int64) (m_h : Nat → Int64) (m_r : Nat → Int64) (m_pinOf : Nat → Int32) (s0 : Int32) (hF : F_M_pad_70 m_thrown m_layers m_pieces m_there m_low m_high m_x m_y m_w m_h m_r m_pinOf s0 = some out) : cg p l e r_M_pad s m args below meth c D (va_S A s.heap) A 9 0 0 (MQ below (cn_QW (some (.int out.1)) D (w_M_pad cy A_m A_m_there A_m_low A_m_high A_m_x A_m_y A_m_w A_m_h A_m_r A_m_pinOf A_m_netOfPin A_m_label A_m_number A_m_group out.2.1 m_layers out.2.2.1 m_airSquare m_airLow m_airHigh out.2.2.2.1 out.2.2.2.2.1 out.2.2.2.2.2.1 out.2.2.2.2.2.2.1 out.2.2.2.2.2.2.2.1 out.2.2.2.2.2.2.2.2.1 out.2.2.2.2.2.2.2.2.2.1 out.2.2.2.2.2.2.2.2.2.2.1 out.2.2.2.2.2.2.2.2.2.2.2) A) args s 0 0 A) (w_M_pad cy A_m A_m_there A_m_low A_m_high A_m_x A_m_y A_m_w A_m_h A_m_r A_m_pinOf A_m_netOfPin A_m_label A_m_number A_m_group m_thrown m_layers m_pieces m_airSquare m_airLow m_airHigh m_there m_low m_high m_x m_y m_w m_h m_r m_pinOf) 70 [] [.int s0] := by
  obtain rfl := Option.some.inj hF
  exact cg_iretW C hr hlk d_M_pad_70
def F_M_pad_42 (m_thrown : Int32) (m_layers : Int32) (m_pieces : Int32) (m_there : Nat → Int32) (m_low : Nat → Int32) (m_high : Nat → Int32) (m_x : Nat → Int64) (m_y : Nat → Int64) (m_w : Nat → Int64) (m_h : Nat → Int64) (m_r : Nat → Int64) (m_pinOf : Nat → Int32) (v1 : Int32) (v2 : Int32) (v3 : Int64) (v5 : Int64) (v7 : Int64) (s1 : Int32) : Option (Int32 × Int32 × Int32 × (Nat → Int32) × (Nat → Int32) × (Nat → Int32) × (Nat → Int64) × (Nat → Int64) × (Nat → Int64) × (Nat → Int64) × (Nat → Int64) × (Nat → Int32)) := if s1 = 0 then ((F_M_add m_pieces m_there m_low m_high m_x m_y m_w m_h m_r m_pinOf v2 v2 v3 v5 0 0 v7 v1).bind fun t_3 => F_M_pad_70 s1 m_layers t_3.2.1 t_3.2.2.1 t_3.2.2.2.1 t_3.2.2.2.2.1 t_3.2.2.2.2.2.1 t_3.2.2.2.2.2.2.1 t_3.2.2.2.2.2.2.2.1 t_3.2.2.2.2.2.2.2.2.1 t_3.2.2.2.2.2.2.2.2.2.1 t_3.2.2.2.2.2.2.2.2.2.2 t_3.1) else (F_M_pad_70 s1 m_layers m_pieces m_there m_low m_high m_x m_y m_w m_h m_r m_pinOf 0)
set_option maxRecDepth 100000 in
set_option maxHeartbeats 4000000 in
theorem t_M_pad_42 {p : Program} {l : Launch} {e : Env} {s : State} {m : MethodId} {args : Array Value} {below : List Frame} {meth : Method} {c : Code} {D : va_G} {cy : Nat → ClassId} {A : Nat → Prop} {out : Int32 × Int32 × Int32 × (Nat → Int32) × (Nat → Int32) × (Nat → Int32) × (Nat → Int64) × (Nat → Int64) × (Nat → Int64) × (Nat → Int64) × (Nat → Int64) × (Nat → Int32)} (C : cn_X p s m args c b_M_pad 9 "CopperNetsModel" D cy) (hr : meth.sig.returnType = some .int) (hlk : meth.locks = false) (hA : ∀ q, s.heap.size ≤ q → A q) (A_m : Nat) (A_m_there : Nat) (A_m_low : Nat) (A_m_high : Nat) (A_m_x : Nat) (A_m_y : Nat) (A_m_w : Nat) (A_m_h : Nat) (A_m_r : Nat) (A_m_pinOf : Nat) (A_m_netOfPin : Nat) (A_m_label : Nat) (A_m_number : Nat) (A_m_group : Nat) (m_airSquare : Int64) (m_airLow : Int32) (m_airHigh : Int32) (m_thrown : Int32) (m_layers : Int32) (m_pieces : Int32) (m_there : Nat → Int32) (m_low : Nat → Int32) (m_high : Nat → Int32) (m_x : Nat → Int64) (m_y : Nat → Int64) (m_w : Nat → Int64) (m_h : Nat → Int64) (m_r : Nat → Int64) (m_pinOf : Nat → Int32) (v1 : Int32) (v2 : Int32) (v3 : Int64) (v5 : Int64) (v7 : Int64) (s1 : Int32) (hF : F_M_pad_42 m_thrown m_layers m_pieces m_there m_low m_high m_x m_y m_w m_h m_r m_pinOf v1 v2 v3 v5 v7 s1 = some out) : cg p l e r_M_pad s m args below meth c D (va_S A s.heap) A 9 0 0 (MQ below (cn_QW (some (.int out.1)) D (w_M_pad cy A_m A_m_there A_m_low A_m_high A_m_x A_m_y A_m_w A_m_h A_m_r A_m_pinOf A_m_netOfPin A_m_label A_m_number A_m_group out.2.1 m_layers out.2.2.1 m_airSquare m_airLow m_airHigh out.2.2.2.1 out.2.2.2.2.1 out.2.2.2.2.2.1 out.2.2.2.2.2.2.1 out.2.2.2.2.2.2.2.1 out.2.2.2.2.2.2.2.2.1 out.2.2.2.2.2.2.2.2.2.1 out.2.2.2.2.2.2.2.2.2.2.1 out.2.2.2.2.2.2.2.2.2.2.2) A) args s 0 0 A) (w_M_pad cy A_m A_m_there A_m_low A_m_high A_m_x A_m_y A_m_w A_m_h A_m_r A_m_pinOf A_m_netOfPin A_m_label A_m_number A_m_group m_thrown m_layers m_pieces m_airSquare m_airLow m_airHigh m_there m_low m_high m_x m_y m_w m_h m_r m_pinOf) 42 [(0, .ref A_m), (1, .int v1), (2, .int v2), (3, .long v3), (5, .long v5), (7, .long v7)] [.int s1, .ref A_m] := by
  refine cg_put (ws' := w_M_pad cy A_m A_m_there A_m_low A_m_high A_m_x A_m_y A_m_w A_m_h A_m_r A_m_pinOf A_m_netOfPin A_m_label A_m_number A_m_group s1 m_layers m_pieces m_airSquare m_airLow m_airHigh m_there m_low m_high m_x m_y m_w m_h m_r m_pinOf) C 0 0 t_M d_M_pad_42 rfl rfl hin_M tt_M n_M (by decide) rfl tw_551 rfl rfl (Nat.le_of_ble_eq_true rfl) rfl ?_
  refine cg_aload_n C d_M_pad_45 0 rfl ?_
  refine cg_get C 0 0 d_M_pad_46 rfl rfl hin_M (by decide) rfl tw_551 rfl ?_
  refine cg_if_ne C 69 d_M_pad_49 (by decide) (fun q_1 => ?_) (fun q_1 => ?_)
  · have hF := cn_neg q_1 hF
    refine cg_iconst (v := 0) C d_M_pad_69 (by decide) ?_
    refine cg_sub (lv' := []) [] rfl ?_
    exact t_M_pad_70 C hr hlk hA A_m A_m_there A_m_low A_m_high A_m_x A_m_y A_m_w A_m_h A_m_r A_m_pinOf A_m_netOfPin A_m_label A_m_number A_m_group m_airSquare m_airLow m_airHigh s1 m_layers m_pieces m_there m_low m_high m_x m_y m_w m_h m_r m_pinOf 0 hF
  · have hF := cn_pos q_1 hF
    refine cg_aload_n C d_M_pad_52 0 rfl ?_
    refine cg_iload_n C d_M_pad_53 2 rfl ?_
    refine cg_iload_n C d_M_pad_54 2 rfl ?_
    refine cg_lload_n C d_M_pad_55 3 rfl ?_
    refine cg_lload C d_M_pad_56 4 rfl ?_
    refine cg_lconst (v := 0) C d_M_pad_58 (by decide) ?_
    refine cg_lconst (v := 0) C d_M_pad_59 (by decide) ?_
    refine cg_lload C d_M_pad_60 5 rfl ?_
    refine cg_iload_n C d_M_pad_62 1 rfl ?_
    obtain ⟨t_3, h_2, hF⟩ := cn_bind hF
    refine cg_callWV C hA (c_M_add A_m A_m_there A_m_low A_m_high A_m_x A_m_y A_m_w A_m_h A_m_r A_m_pinOf A_m_netOfPin A_m_label A_m_number A_m_group s1 m_layers m_pieces m_airSquare m_airLow m_airHigh m_there m_low m_high m_x m_y m_w m_h m_r m_pinOf v2 v2 v3 v5 0 0 v7 v1 h_2) [0, 1, 2, 3, 4, 5, 6, 7, 8, 9] [] [0, 1, 2, 3, 4, 5, 6, 7, 8, 9] [] (w_M_pad cy A_m A_m_there A_m_low A_m_high A_m_x A_m_y A_m_w A_m_h A_m_r A_m_pinOf A_m_netOfPin A_m_label A_m_number A_m_group s1 m_layers t_3.2.1 m_airSquare m_airLow m_airHigh t_3.2.2.1 t_3.2.2.2.1 t_3.2.2.2.2.1 t_3.2.2.2.2.2.1 t_3.2.2.2.2.2.2.1 t_3.2.2.2.2.2.2.2.1 t_3.2.2.2.2.2.2.2.2.1 t_3.2.2.2.2.2.2.2.2.2.1 t_3.2.2.2.2.2.2.2.2.2.2) rfl rfl rfl ⟨by decide, by decide, by decide, by decide⟩ 0 rfl rfl d_M_pad_63 tw_629 tw_631 ts_43 tw_7 tw_632 hs_M_add ⟨by decide, by decide⟩ rfl rfl ⟨by decide, by decide⟩ (Nat.le_of_ble_eq_true rfl) rfl rfl ?_
    refine cg_goto C 70 d_M_pad_66 (by decide) ?_
    refine cg_sub (lv' := []) [] rfl ?_
    exact t_M_pad_70 C hr hlk hA A_m A_m_there A_m_low A_m_high A_m_x A_m_y A_m_w A_m_h A_m_r A_m_pinOf A_m_netOfPin A_m_label A_m_number A_m_group m_airSquare m_airLow m_airHigh s1 m_layers t_3.2.1 t_3.2.2.1 t_3.2.2.2.1 t_3.2.2.2.2.1 t_3.2.2.2.2.2.1 t_3.2.2.2.2.2.2.1 t_3.2.2.2.2.2.2.2.1 t_3.2.2.2.2.2.2.2.2.1 t_3.2.2.2.2.2.2.2.2.2.1 t_3.2.2.2.2.2.2.2.2.2.2 t_3.1 hF
def F_M_pad_16 (m_thrown : Int32) (m_layers : Int32) (m_pieces : Int32) (m_there : Nat → Int32) (m_low : Nat → Int32) (m_high : Nat → Int32) (m_x : Nat → Int64) (m_y : Nat → Int64) (m_w : Nat → Int64) (m_h : Nat → Int64) (m_r : Nat → Int64) (m_pinOf : Nat → Int32) (v1 : Int32) (v2 : Int32) (v3 : Int64) (v5 : Int64) (v7 : Int64) : Option (Int32 × Int32 × Int32 × (Nat → Int32) × (Nat → Int32) × (Nat → Int32) × (Nat → Int64) × (Nat → Int64) × (Nat → Int64) × (Nat → Int64) × (Nat → Int64) × (Nat → Int32)) := F_M_pad_42 m_thrown m_layers m_pieces m_there m_low m_high m_x m_y m_w m_h m_r m_pinOf v1 v2 v3 v5 v7 1
set_option maxRecDepth 100000 in
set_option maxHeartbeats 4000000 in
theorem t_M_pad_16 {p : Program} {l : Launch} {e : Env} {s : State} {m : MethodId} {args : Array Value} {below : List Frame} {meth : Method} {c : Code} {D : va_G} {cy : Nat → ClassId} {A : Nat → Prop} {out : Int32 × Int32 × Int32 × (Nat → Int32) × (Nat → Int32) × (Nat → Int32) × (Nat → Int64) × (Nat → Int64) × (Nat → Int64) × (Nat → Int64) × (Nat → Int64) × (Nat → Int32)} (C : cn_X p s m args c b_M_pad 9 "CopperNetsModel" D cy) (hr : meth.sig.returnType = some .int) (hlk : meth.locks = false) (hA : ∀ q, s.heap.size ≤ q → A q) (A_m : Nat) (A_m_there : Nat) (A_m_low : Nat) (A_m_high : Nat) (A_m_x : Nat) (A_m_y : Nat) (A_m_w : Nat) (A_m_h : Nat) (A_m_r : Nat) (A_m_pinOf : Nat) (A_m_netOfPin : Nat) (A_m_label : Nat) (A_m_number : Nat) (A_m_group : Nat) (m_airSquare : Int64) (m_airLow : Int32) (m_airHigh : Int32) (m_thrown : Int32) (m_layers : Int32) (m_pieces : Int32) (m_there : Nat → Int32) (m_low : Nat → Int32) (m_high : Nat → Int32) (m_x : Nat → Int64) (m_y : Nat → Int64) (m_w : Nat → Int64) (m_h : Nat → Int64) (m_r : Nat → Int64) (m_pinOf : Nat → Int32) (v1 : Int32) (v2 : Int32) (v3 : Int64) (v5 : Int64) (v7 : Int64) (hF : F_M_pad_16 m_thrown m_layers m_pieces m_there m_low m_high m_x m_y m_w m_h m_r m_pinOf v1 v2 v3 v5 v7 = some out) : cg p l e r_M_pad s m args below meth c D (va_S A s.heap) A 9 0 0 (MQ below (cn_QW (some (.int out.1)) D (w_M_pad cy A_m A_m_there A_m_low A_m_high A_m_x A_m_y A_m_w A_m_h A_m_r A_m_pinOf A_m_netOfPin A_m_label A_m_number A_m_group out.2.1 m_layers out.2.2.1 m_airSquare m_airLow m_airHigh out.2.2.2.1 out.2.2.2.2.1 out.2.2.2.2.2.1 out.2.2.2.2.2.2.1 out.2.2.2.2.2.2.2.1 out.2.2.2.2.2.2.2.2.1 out.2.2.2.2.2.2.2.2.2.1 out.2.2.2.2.2.2.2.2.2.2.1 out.2.2.2.2.2.2.2.2.2.2.2) A) args s 0 0 A) (w_M_pad cy A_m A_m_there A_m_low A_m_high A_m_x A_m_y A_m_w A_m_h A_m_r A_m_pinOf A_m_netOfPin A_m_label A_m_number A_m_group m_thrown m_layers m_pieces m_airSquare m_airLow m_airHigh m_there m_low m_high m_x m_y m_w m_h m_r m_pinOf) 16 [(0, .ref A_m), (1, .int v1), (2, .int v2), (3, .long v3), (5, .long v5), (7, .long v7)] [.ref A_m] := by
  refine cg_iconst (v := 1) C d_M_pad_16 (by decide) ?_
  refine cg_goto C 42 d_M_pad_17 (by decide) ?_
  exact t_M_pad_42 C hr hlk hA A_m A_m_there A_m_low A_m_high A_m_x A_m_y A_m_w A_m_h A_m_r A_m_pinOf A_m_netOfPin A_m_label A_m_number A_m_group m_airSquare m_airLow m_airHigh m_thrown m_layers m_pieces m_there m_low m_high m_x m_y m_w m_h m_r m_pinOf v1 v2 v3 v5 v7 1 hF
def F_M_pad_41 (m_thrown : Int32) (m_layers : Int32) (m_pieces : Int32) (m_there : Nat → Int32) (m_low : Nat → Int32) (m_high : Nat → Int32) (m_x : Nat → Int64) (m_y : Nat → Int64) (m_w : Nat → Int64) (m_h : Nat → Int64) (m_r : Nat → Int64) (m_pinOf : Nat → Int32) (v1 : Int32) (v2 : Int32) (v3 : Int64) (v5 : Int64) (v7 : Int64) : Option (Int32 × Int32 × Int32 × (Nat → Int32) × (Nat → Int32) × (Nat → Int32) × (Nat → Int64) × (Nat → Int64) × (Nat → Int64) × (Nat → Int64) × (Nat → Int64) × (Nat → Int32)) := F_M_pad_42 m_thrown m_layers m_pieces m_there m_low m_high m_x m_y m_w m_h m_r m_pinOf v1 v2 v3 v5 v7 2
set_option maxRecDepth 100000 in
set_option maxHeartbeats 4000000 in
theorem t_M_pad_41 {p : Program} {l : Launch} {e : Env} {s : State} {m : MethodId} {args : Array Value} {below : List Frame} {meth : Method} {c : Code} {D : va_G} {cy : Nat → ClassId} {A : Nat → Prop} {out : Int32 × Int32 × Int32 × (Nat → Int32) × (Nat → Int32) × (Nat → Int32) × (Nat → Int64) × (Nat → Int64) × (Nat → Int64) × (Nat → Int64) × (Nat → Int64) × (Nat → Int32)} (C : cn_X p s m args c b_M_pad 9 "CopperNetsModel" D cy) (hr : meth.sig.returnType = some .int) (hlk : meth.locks = false) (hA : ∀ q, s.heap.size ≤ q → A q) (A_m : Nat) (A_m_there : Nat) (A_m_low : Nat) (A_m_high : Nat) (A_m_x : Nat) (A_m_y : Nat) (A_m_w : Nat) (A_m_h : Nat) (A_m_r : Nat) (A_m_pinOf : Nat) (A_m_netOfPin : Nat) (A_m_label : Nat) (A_m_number : Nat) (A_m_group : Nat) (m_airSquare : Int64) (m_airLow : Int32) (m_airHigh : Int32) (m_thrown : Int32) (m_layers : Int32) (m_pieces : Int32) (m_there : Nat → Int32) (m_low : Nat → Int32) (m_high : Nat → Int32) (m_x : Nat → Int64) (m_y : Nat → Int64) (m_w : Nat → Int64) (m_h : Nat → Int64) (m_r : Nat → Int64) (m_pinOf : Nat → Int32) (v1 : Int32) (v2 : Int32) (v3 : Int64) (v5 : Int64) (v7 : Int64) (hF : F_M_pad_41 m_thrown m_layers m_pieces m_there m_low m_high m_x m_y m_w m_h m_r m_pinOf v1 v2 v3 v5 v7 = some out) : cg p l e r_M_pad s m args below meth c D (va_S A s.heap) A 9 0 0 (MQ below (cn_QW (some (.int out.1)) D (w_M_pad cy A_m A_m_there A_m_low A_m_high A_m_x A_m_y A_m_w A_m_h A_m_r A_m_pinOf A_m_netOfPin A_m_label A_m_number A_m_group out.2.1 m_layers out.2.2.1 m_airSquare m_airLow m_airHigh out.2.2.2.1 out.2.2.2.2.1 out.2.2.2.2.2.1 out.2.2.2.2.2.2.1 out.2.2.2.2.2.2.2.1 out.2.2.2.2.2.2.2.2.1 out.2.2.2.2.2.2.2.2.2.1 out.2.2.2.2.2.2.2.2.2.2.1 out.2.2.2.2.2.2.2.2.2.2.2) A) args s 0 0 A) (w_M_pad cy A_m A_m_there A_m_low A_m_high A_m_x A_m_y A_m_w A_m_h A_m_r A_m_pinOf A_m_netOfPin A_m_label A_m_number A_m_group m_thrown m_layers m_pieces m_airSquare m_airLow m_airHigh m_there m_low m_high m_x m_y m_w m_h m_r m_pinOf) 41 [(0, .ref A_m), (1, .int v1), (2, .int v2), (3, .long v3), (5, .long v5), (7, .long v7)] [.ref A_m] := by
  refine cg_iconst (v := 2) C d_M_pad_41 (by decide) ?_
  exact t_M_pad_42 C hr hlk hA A_m A_m_there A_m_low A_m_high A_m_x A_m_y A_m_w A_m_h A_m_r A_m_pinOf A_m_netOfPin A_m_label A_m_number A_m_group m_airSquare m_airLow m_airHigh m_thrown m_layers m_pieces m_there m_low m_high m_x m_y m_w m_h m_r m_pinOf v1 v2 v3 v5 v7 2 hF
def F_M_pad_0 (m_thrown : Int32) (m_layers : Int32) (m_pieces : Int32) (m_there : Nat → Int32) (m_low : Nat → Int32) (m_high : Nat → Int32) (m_x : Nat → Int64) (m_y : Nat → Int64) (m_w : Nat → Int64) (m_h : Nat → Int64) (m_r : Nat → Int64) (m_pinOf : Nat → Int32) (v1 : Int32) (v2 : Int32) (v3 : Int64) (v5 : Int64) (v7 : Int64) : Option (Int32 × Int32 × Int32 × (Nat → Int32) × (Nat → Int32) × (Nat → Int32) × (Nat → Int64) × (Nat → Int64) × (Nat → Int64) × (Nat → Int64) × (Nat → Int64) × (Nat → Int32)) := (F_M_isPin v1).bind fun t_6 => if t_6 = 0 then (F_M_pad_16 m_thrown m_layers m_pieces m_there m_low m_high m_x m_y m_w m_h m_r m_pinOf v1 v2 v3 v5 v7) else ((F_M_isLayer m_layers v2).bind fun t_9 => if t_9 = 0 then (F_M_pad_16 m_thrown m_layers m_pieces m_there m_low m_high m_x m_y m_w m_h m_r m_pinOf v1 v2 v3 v5 v7) else ((F_M_isPlace v3 v5).bind fun t_12 => if t_12 = 0 then (F_M_pad_41 m_thrown m_layers m_pieces m_there m_low m_high m_x m_y m_w m_h m_r m_pinOf v1 v2 v3 v5 v7) else ((F_M_isSize v7).bind fun t_15 => if t_15 = 0 then (F_M_pad_41 m_thrown m_layers m_pieces m_there m_low m_high m_x m_y m_w m_h m_r m_pinOf v1 v2 v3 v5 v7) else (F_M_pad_42 m_thrown m_layers m_pieces m_there m_low m_high m_x m_y m_w m_h m_r m_pinOf v1 v2 v3 v5 v7 0))))
set_option maxRecDepth 100000 in
set_option maxHeartbeats 4000000 in
theorem t_M_pad_0 {p : Program} {l : Launch} {e : Env} {s : State} {m : MethodId} {args : Array Value} {below : List Frame} {meth : Method} {c : Code} {D : va_G} {cy : Nat → ClassId} {A : Nat → Prop} {out : Int32 × Int32 × Int32 × (Nat → Int32) × (Nat → Int32) × (Nat → Int32) × (Nat → Int64) × (Nat → Int64) × (Nat → Int64) × (Nat → Int64) × (Nat → Int64) × (Nat → Int32)} (C : cn_X p s m args c b_M_pad 9 "CopperNetsModel" D cy) (hr : meth.sig.returnType = some .int) (hlk : meth.locks = false) (hA : ∀ q, s.heap.size ≤ q → A q) (A_m : Nat) (A_m_there : Nat) (A_m_low : Nat) (A_m_high : Nat) (A_m_x : Nat) (A_m_y : Nat) (A_m_w : Nat) (A_m_h : Nat) (A_m_r : Nat) (A_m_pinOf : Nat) (A_m_netOfPin : Nat) (A_m_label : Nat) (A_m_number : Nat) (A_m_group : Nat) (m_airSquare : Int64) (m_airLow : Int32) (m_airHigh : Int32) (m_thrown : Int32) (m_layers : Int32) (m_pieces : Int32) (m_there : Nat → Int32) (m_low : Nat → Int32) (m_high : Nat → Int32) (m_x : Nat → Int64) (m_y : Nat → Int64) (m_w : Nat → Int64) (m_h : Nat → Int64) (m_r : Nat → Int64) (m_pinOf : Nat → Int32) (v1 : Int32) (v2 : Int32) (v3 : Int64) (v5 : Int64) (v7 : Int64) (hF : F_M_pad_0 m_thrown m_layers m_pieces m_there m_low m_high m_x m_y m_w m_h m_r m_pinOf v1 v2 v3 v5 v7 = some out) : cg p l e r_M_pad s m args below meth c D (va_S A s.heap) A 9 0 0 (MQ below (cn_QW (some (.int out.1)) D (w_M_pad cy A_m A_m_there A_m_low A_m_high A_m_x A_m_y A_m_w A_m_h A_m_r A_m_pinOf A_m_netOfPin A_m_label A_m_number A_m_group out.2.1 m_layers out.2.2.1 m_airSquare m_airLow m_airHigh out.2.2.2.1 out.2.2.2.2.1 out.2.2.2.2.2.1 out.2.2.2.2.2.2.1 out.2.2.2.2.2.2.2.1 out.2.2.2.2.2.2.2.2.1 out.2.2.2.2.2.2.2.2.2.1 out.2.2.2.2.2.2.2.2.2.2.1 out.2.2.2.2.2.2.2.2.2.2.2) A) args s 0 0 A) (w_M_pad cy A_m A_m_there A_m_low A_m_high A_m_x A_m_y A_m_w A_m_h A_m_r A_m_pinOf A_m_netOfPin A_m_label A_m_number A_m_group m_thrown m_layers m_pieces m_airSquare m_airLow m_airHigh m_there m_low m_high m_x m_y m_w m_h m_r m_pinOf) 0 [(0, .ref A_m), (1, .int v1), (2, .int v2), (3, .long v3), (5, .long v5), (7, .long v7)] [] := by
  refine cg_aload_n C d_M_pad_0 0 rfl ?_
  refine cg_iload_n C d_M_pad_1 1 rfl ?_
  obtain ⟨t_6, h_5, hF⟩ := cn_bind hF
  refine cg_callRS C (c_M_isPin v1 h_5) [] rfl (by decide) d_M_pad_2 tw_641 tw_642 tw_7 tw_643 hs_M_isPin ⟨by decide, by decide⟩ rfl rfl ⟨by decide, by decide⟩ (Nat.le_of_ble_eq_true rfl) rfl rfl ?_
  refine cg_if_eq C 16 d_M_pad_5 (by decide) (fun q_7 => ?_) (fun q_7 => ?_)
  · have hF := cn_pos q_7 hF
    exact t_M_pad_16 C hr hlk hA A_m A_m_there A_m_low A_m_high A_m_x A_m_y A_m_w A_m_h A_m_r A_m_pinOf A_m_netOfPin A_m_label A_m_number A_m_group m_airSquare m_airLow m_airHigh m_thrown m_layers m_pieces m_there m_low m_high m_x m_y m_w m_h m_r m_pinOf v1 v2 v3 v5 v7 hF
  · have hF := cn_neg q_7 hF
    refine cg_aload_n C d_M_pad_8 0 rfl ?_
    refine cg_iload_n C d_M_pad_9 2 rfl ?_
    obtain ⟨t_9, h_8, hF⟩ := cn_bind hF
    refine cg_callRV C (c_M_isLayer A_m A_m_there A_m_low A_m_high A_m_x A_m_y A_m_w A_m_h A_m_r A_m_pinOf A_m_netOfPin A_m_label A_m_number A_m_group m_thrown m_layers m_pieces m_airSquare m_airLow m_airHigh v2 h_8) [0] rfl (by decide) 0 rfl rfl d_M_pad_10 tw_625 tw_627 ts_42 tw_7 tw_628 hs_M_isLayer ⟨by decide, by decide⟩ rfl rfl ⟨by decide, by decide⟩ (Nat.le_of_ble_eq_true rfl) rfl rfl ?_
    refine cg_if_ne C 20 d_M_pad_13 (by decide) (fun q_10 => ?_) (fun q_10 => ?_)
    · have hF := cn_neg q_10 hF
      refine cg_lload_n C d_M_pad_20 3 rfl ?_
      refine cg_lload C d_M_pad_21 4 rfl ?_
      obtain ⟨t_12, h_11, hF⟩ := cn_bind hF
      refine cg_callRS C (c_M_isPlace v3 v5 h_11) [] rfl (by decide) d_M_pad_23 tw_617 tw_618 tw_7 tw_619 hs_M_isPlace ⟨by decide, by decide⟩ rfl rfl ⟨by decide, by decide⟩ (Nat.le_of_ble_eq_true rfl) rfl rfl ?_
      refine cg_if_eq C 41 d_M_pad_26 (by decide) (fun q_13 => ?_) (fun q_13 => ?_)
      · have hF := cn_pos q_13 hF
        exact t_M_pad_41 C hr hlk hA A_m A_m_there A_m_low A_m_high A_m_x A_m_y A_m_w A_m_h A_m_r A_m_pinOf A_m_netOfPin A_m_label A_m_number A_m_group m_airSquare m_airLow m_airHigh m_thrown m_layers m_pieces m_there m_low m_high m_x m_y m_w m_h m_r m_pinOf v1 v2 v3 v5 v7 hF
      · have hF := cn_neg q_13 hF
        refine cg_lload C d_M_pad_29 5 rfl ?_
        obtain ⟨t_15, h_14, hF⟩ := cn_bind hF
        refine cg_callRS C (c_M_isSize v7 h_14) [] rfl (by decide) d_M_pad_31 tw_622 tw_623 tw_7 tw_624 hs_M_isSize ⟨by decide, by decide⟩ rfl rfl ⟨by decide, by decide⟩ (Nat.le_of_ble_eq_true rfl) rfl rfl ?_
        refine cg_if_eq C 41 d_M_pad_34 (by decide) (fun q_16 => ?_) (fun q_16 => ?_)
        · have hF := cn_pos q_16 hF
          exact t_M_pad_41 C hr hlk hA A_m A_m_there A_m_low A_m_high A_m_x A_m_y A_m_w A_m_h A_m_r A_m_pinOf A_m_netOfPin A_m_label A_m_number A_m_group m_airSquare m_airLow m_airHigh m_thrown m_layers m_pieces m_there m_low m_high m_x m_y m_w m_h m_r m_pinOf v1 v2 v3 v5 v7 hF
        · have hF := cn_neg q_16 hF
          refine cg_iconst (v := 0) C d_M_pad_37 (by decide) ?_
          refine cg_goto C 42 d_M_pad_38 (by decide) ?_
          exact t_M_pad_42 C hr hlk hA A_m A_m_there A_m_low A_m_high A_m_x A_m_y A_m_w A_m_h A_m_r A_m_pinOf A_m_netOfPin A_m_label A_m_number A_m_group m_airSquare m_airLow m_airHigh m_thrown m_layers m_pieces m_there m_low m_high m_x m_y m_w m_h m_r m_pinOf v1 v2 v3 v5 v7 0 hF
    · have hF := cn_pos q_10 hF
      exact t_M_pad_16 C hr hlk hA A_m A_m_there A_m_low A_m_high A_m_x A_m_y A_m_w A_m_h A_m_r A_m_pinOf A_m_netOfPin A_m_label A_m_number A_m_group m_airSquare m_airLow m_airHigh m_thrown m_layers m_pieces m_there m_low m_high m_x m_y m_w m_h m_r m_pinOf v1 v2 v3 v5 v7 hF
abbrev F_M_pad (m_thrown : Int32) (m_layers : Int32) (m_pieces : Int32) (m_there : Nat → Int32) (m_low : Nat → Int32) (m_high : Nat → Int32) (m_x : Nat → Int64) (m_y : Nat → Int64) (m_w : Nat → Int64) (m_h : Nat → Int64) (m_r : Nat → Int64) (m_pinOf : Nat → Int32) (v1 : Int32) (v2 : Int32) (v3 : Int64) (v5 : Int64) (v7 : Int64) : Option (Int32 × Int32 × Int32 × (Nat → Int32) × (Nat → Int32) × (Nat → Int32) × (Nat → Int64) × (Nat → Int64) × (Nat → Int64) × (Nat → Int64) × (Nat → Int64) × (Nat → Int32)) := F_M_pad_0 m_thrown m_layers m_pieces m_there m_low m_high m_x m_y m_w m_h m_r m_pinOf v1 v2 v3 v5 v7
theorem c_M_pad {l : Launch} {D : va_G} {cy : Nat → ClassId} (A_m : Nat) (A_m_there : Nat) (A_m_low : Nat) (A_m_high : Nat) (A_m_x : Nat) (A_m_y : Nat) (A_m_w : Nat) (A_m_h : Nat) (A_m_r : Nat) (A_m_pinOf : Nat) (A_m_netOfPin : Nat) (A_m_label : Nat) (A_m_number : Nat) (A_m_group : Nat) (m_thrown : Int32) (m_layers : Int32) (m_pieces : Int32) (m_airSquare : Int64) (m_airLow : Int32) (m_airHigh : Int32) (m_there : Nat → Int32) (m_low : Nat → Int32) (m_high : Nat → Int32) (m_x : Nat → Int64) (m_y : Nat → Int64) (m_w : Nat → Int64) (m_h : Nat → Int64) (m_r : Nat → Int64) (m_pinOf : Nat → Int32) (v1 : Int32) (v2 : Int32) (v3 : Int64) (v5 : Int64) (v7 : Int64) {out : Int32 × Int32 × Int32 × (Nat → Int32) × (Nat → Int32) × (Nat → Int32) × (Nat → Int64) × (Nat → Int64) × (Nat → Int64) × (Nat → Int64) × (Nat → Int64) × (Nat → Int32)} (hF : F_M_pad m_thrown m_layers m_pieces m_there m_low m_high m_x m_y m_w m_h m_r m_pinOf v1 v2 v3 v5 v7 = some out) : cn_MW l y_M_pad b_M_pad 9 (some .int) r_M_pad D cy [.ref A_m, .int v1, .int v2, .long v3, .long v5, .long v7] (w_M_pad cy A_m A_m_there A_m_low A_m_high A_m_x A_m_y A_m_w A_m_h A_m_r A_m_pinOf A_m_netOfPin A_m_label A_m_number A_m_group m_thrown m_layers m_pieces m_airSquare m_airLow m_airHigh m_there m_low m_high m_x m_y m_w m_h m_r m_pinOf) (some (.int out.1)) (w_M_pad cy A_m A_m_there A_m_low A_m_high A_m_x A_m_y A_m_w A_m_h A_m_r A_m_pinOf A_m_netOfPin A_m_label A_m_number A_m_group out.2.1 m_layers out.2.2.1 m_airSquare m_airLow m_airHigh out.2.2.2.1 out.2.2.2.2.1 out.2.2.2.2.2.1 out.2.2.2.2.2.2.1 out.2.2.2.2.2.2.2.1 out.2.2.2.2.2.2.2.2.1 out.2.2.2.2.2.2.2.2.2.1 out.2.2.2.2.2.2.2.2.2.2.1 out.2.2.2.2.2.2.2.2.2.2.2) 0 0 :=
  cn_MW.of (by decide +kernel) (Nat.le_of_ble_eq_true rfl) (fun p e s m below meth c A C hr hlk hA => t_M_pad_0 C hr hlk hA A_m A_m_there A_m_low A_m_high A_m_x A_m_y A_m_w A_m_h A_m_r A_m_pinOf A_m_netOfPin A_m_label A_m_number A_m_group m_airSquare m_airLow m_airHigh m_thrown m_layers m_pieces m_there m_low m_high m_x m_y m_w m_h m_r m_pinOf v1 v2 v3 v5 v7 hF)
/-! CopperNetsModel.isNet(I)Z -/
abbrev r_M_isNet : Room := { frames := 0, cells := 0, slots := 0, locals := 0 }
abbrev w_M_isNet (cy : Nat → ClassId) : va_W := []
theorem hs_M_isNet : y_M_isNet.cls ≠ "java/lang/invoke/MethodHandle" ∧ y_M_isNet.cls ≠ "java/lang/invoke/VarHandle" ∧ (parseMethodDescriptor y_M_isNet.desc).map (fun d => d.parameters.length) = some 1 := by decide +kernel
def F_M_isNet_15 (s0 : Int32) : Option (Int32) := cn_bl s0 (some (s0))
set_option maxRecDepth 100000 in
set_option maxHeartbeats 4000000 in
theorem t_M_isNet_15 {p : Program} {l : Launch} {e : Env} {s : State} {m : MethodId} {args : Array Value} {below : List Frame} {meth : Method} {c : Code} {D : va_G} {cy : Nat → ClassId} {out : Int32} (C : cn_X p s m args c b_M_isNet 1 "CopperNetsModel" D cy) (hr : meth.sig.returnType = some .boolean) (hlk : meth.locks = false) (s0 : Int32) (hF : F_M_isNet_15 s0 = some out) : cg p l e r_M_isNet s m args below meth c D (cn_hi s) (fun _ => True) 1 0 0 (MQ below (cn_QR (some (.int out))) args s 0 0 (fun _ => False)) (w_M_isNet cy) 15 [] [.int s0] := by
  obtain ⟨hz, hF⟩ := cn_bl_some hF
  obtain rfl := Option.some.inj hF
  exact cg_zretR C hr hz hlk d_M_isNet_15
def F_M_isNet_14 : Option (Int32) := F_M_isNet_15 0
set_option maxRecDepth 100000 in
set_option maxHeartbeats 4000000 in
theorem t_M_isNet_14 {p : Program} {l : Launch} {e : Env} {s : State} {m : MethodId} {args : Array Value} {below : List Frame} {meth : Method} {c : Code} {D : va_G} {cy : Nat → ClassId} {out : Int32} (C : cn_X p s m args c b_M_isNet 1 "CopperNetsModel" D cy) (hr : meth.sig.returnType = some .boolean) (hlk : meth.locks = false) (hF : F_M_isNet_14 = some out) : cg p l e r_M_isNet s m args below meth c D (cn_hi s) (fun _ => True) 1 0 0 (MQ below (cn_QR (some (.int out))) args s 0 0 (fun _ => False)) (w_M_isNet cy) 14 [] [] := by
  refine cg_iconst (v := 0) C d_M_isNet_14 (by decide) ?_
  exact t_M_isNet_15 C hr hlk 0 hF
def F_M_isNet_0 (v0 : Int32) : Option (Int32) := if v0 < 0 then (F_M_isNet_14) else (if 20 ≤ v0 then (F_M_isNet_14) else (F_M_isNet_15 1))
set_option maxRecDepth 100000 in
set_option maxHeartbeats 4000000 in
theorem t_M_isNet_0 {p : Program} {l : Launch} {e : Env} {s : State} {m : MethodId} {args : Array Value} {below : List Frame} {meth : Method} {c : Code} {D : va_G} {cy : Nat → ClassId} {out : Int32} (C : cn_X p s m args c b_M_isNet 1 "CopperNetsModel" D cy) (hr : meth.sig.returnType = some .boolean) (hlk : meth.locks = false) (v0 : Int32) (hF : F_M_isNet_0 v0 = some out) : cg p l e r_M_isNet s m args below meth c D (cn_hi s) (fun _ => True) 1 0 0 (MQ below (cn_QR (some (.int out))) args s 0 0 (fun _ => False)) (w_M_isNet cy) 0 [(0, .int v0)] [] := by
  refine cg_iload_n C d_M_isNet_0 0 rfl ?_
  refine cg_if_lt C 14 d_M_isNet_1 (by decide) (fun q_1 => ?_) (fun q_1 => ?_)
  · have hF := cn_pos q_1 hF
    refine cg_sub (lv' := []) [] rfl ?_
    exact t_M_isNet_14 C hr hlk hF
  · have hF := cn_neg q_1 hF
    refine cg_iload_n C d_M_isNet_4 0 rfl ?_
    refine cg_bipush (v := 20) C d_M_isNet_5 (by decide) ?_
    refine cg_icmp_ge C 14 d_M_isNet_7 (by decide) (fun q_2 => ?_) (fun q_2 => ?_)
    · have hF := cn_pos q_2 hF
      refine cg_sub (lv' := []) [] rfl ?_
      exact t_M_isNet_14 C hr hlk hF
    · have hF := cn_neg q_2 hF
      refine cg_iconst (v := 1) C d_M_isNet_10 (by decide) ?_
      refine cg_goto C 15 d_M_isNet_11 (by decide) ?_
      refine cg_sub (lv' := []) [] rfl ?_
      exact t_M_isNet_15 C hr hlk 1 hF
abbrev F_M_isNet (v0 : Int32) : Option (Int32) := F_M_isNet_0 v0
theorem c_M_isNet {l : Launch} {D : va_G} {cy : Nat → ClassId} (v0 : Int32) {out : Int32} (hF : F_M_isNet v0 = some out) : cn_MR l y_M_isNet b_M_isNet 1 (some .boolean) r_M_isNet D cy [.int v0] (w_M_isNet cy) (some (.int out)) :=
  cn_MR.of (by decide +kernel) (Nat.le_of_ble_eq_true rfl) (fun p e s m below meth c C hr hlk => t_M_isNet_0 C hr hlk v0 hF)
/-! CopperNetsModel.plans(II)Z -/
abbrev r_M_plans : Room := { frames := 1, cells := 0, slots := 0, locals := 20 }
abbrev w_M_plans (cy : Nat → ClassId) (A_m : Nat) (A_m_there : Nat) (A_m_low : Nat) (A_m_high : Nat) (A_m_x : Nat) (A_m_y : Nat) (A_m_w : Nat) (A_m_h : Nat) (A_m_r : Nat) (A_m_pinOf : Nat) (A_m_netOfPin : Nat) (A_m_label : Nat) (A_m_number : Nat) (A_m_group : Nat) (m_thrown : Int32) (m_layers : Int32) (m_pieces : Int32) (m_airSquare : Int64) (m_airLow : Int32) (m_airHigh : Int32) (m_netOfPin : Nat → Int32) : va_W := [(A_m, .inr (4, [.int m_thrown, .int m_layers, .int m_pieces, .ref A_m_there, .ref A_m_low, .ref A_m_high, .ref A_m_x, .ref A_m_y, .ref A_m_w, .ref A_m_h, .ref A_m_r, .ref A_m_pinOf, .ref A_m_netOfPin, .ref A_m_label, .ref A_m_number, .ref A_m_group, .long m_airSquare, .int m_airLow, .int m_airHigh])), (A_m_netOfPin, .inl (cy 0, 40, .inl m_netOfPin))]
theorem hs_M_plans : y_M_plans.cls ≠ "java/lang/invoke/MethodHandle" ∧ y_M_plans.cls ≠ "java/lang/invoke/VarHandle" ∧ (parseMethodDescriptor y_M_plans.desc).map (fun d => d.parameters.length) = some 2 := by decide +kernel
def F_M_plans_49 (m_thrown : Int32) (m_netOfPin : Nat → Int32) : Option (Int32 × Int32 × (Nat → Int32)) := some (0, m_thrown, m_netOfPin)
set_option maxRecDepth 100000 in
set_option maxHeartbeats 4000000 in
theorem t_M_plans_49 {p : Program} {l : Launch} {e : Env} {s : State} {m : MethodId} {args : Array Value} {below : List Frame} {meth : Method} {c : Code} {D : va_G} {cy : Nat → ClassId} {A : Nat → Prop} {out : Int32 × Int32 × (Nat → Int32)} (C : cn_X p s m args c b_M_plans 3 "CopperNetsModel" D cy) (hr : meth.sig.returnType = some .boolean) (hlk : meth.locks = false) (hA : ∀ q, s.heap.size ≤ q → A q) (A_m : Nat) (A_m_there : Nat) (A_m_low : Nat) (A_m_high : Nat) (A_m_x : Nat) (A_m_y : Nat) (A_m_w : Nat) (A_m_h : Nat) (A_m_r : Nat) (A_m_pinOf : Nat) (A_m_netOfPin : Nat) (A_m_label : Nat) (A_m_number : Nat) (A_m_group : Nat) (m_layers : Int32) (m_pieces : Int32) (m_airSquare : Int64) (m_airLow : Int32) (m_airHigh : Int32) (m_thrown : Int32) (m_netOfPin : Nat → Int32) (hF : F_M_plans_49 m_thrown m_netOfPin = some out) : cg p l e r_M_plans s m args below meth c D (va_S A s.heap) A 3 0 0 (MQ below (cn_QW (some (.int out.1)) D (w_M_plans cy A_m A_m_there A_m_low A_m_high A_m_x A_m_y A_m_w A_m_h A_m_r A_m_pinOf A_m_netOfPin A_m_label A_m_number A_m_group out.2.1 m_layers m_pieces m_airSquare m_airLow m_airHigh out.2.2) A) args s 0 0 A) (w_M_plans cy A_m A_m_there A_m_low A_m_high A_m_x A_m_y A_m_w A_m_h A_m_r A_m_pinOf A_m_netOfPin A_m_label A_m_number A_m_group m_thrown m_layers m_pieces m_airSquare m_airLow m_airHigh m_netOfPin) 49 [] [] := by
  refine cg_iconst (v := 0) C d_M_plans_49 (by decide) ?_
  obtain rfl := Option.some.inj hF
  exact cg_zretW (v := 0) C hr rfl hlk d_M_plans_50
def F_M_plans_29 (m_thrown : Int32) (m_netOfPin : Nat → Int32) (v1 : Int32) (v2 : Int32) (s1 : Int32) : Option (Int32 × Int32 × (Nat → Int32)) := if s1 = 0 then (cn_rd v1 40 (if (m_netOfPin (Int32.toNatClampNeg v1)) = v2 then (F_M_plans_49 s1 m_netOfPin) else (cn_rd v1 40 (some (1, s1, (upd m_netOfPin (Int32.toNatClampNeg v1) v2)))))) else (F_M_plans_49 s1 m_netOfPin)
set_option maxRecDepth 100000 in
set_option maxHeartbeats 4000000 in
theorem t_M_plans_29 {p : Program} {l : Launch} {e : Env} {s : State} {m : MethodId} {args : Array Value} {below : List Frame} {meth : Method} {c : Code} {D : va_G} {cy : Nat → ClassId} {A : Nat → Prop} {out : Int32 × Int32 × (Nat → Int32)} (C : cn_X p s m args c b_M_plans 3 "CopperNetsModel" D cy) (hr : meth.sig.returnType = some .boolean) (hlk : meth.locks = false) (hA : ∀ q, s.heap.size ≤ q → A q) (A_m : Nat) (A_m_there : Nat) (A_m_low : Nat) (A_m_high : Nat) (A_m_x : Nat) (A_m_y : Nat) (A_m_w : Nat) (A_m_h : Nat) (A_m_r : Nat) (A_m_pinOf : Nat) (A_m_netOfPin : Nat) (A_m_label : Nat) (A_m_number : Nat) (A_m_group : Nat) (m_layers : Int32) (m_pieces : Int32) (m_airSquare : Int64) (m_airLow : Int32) (m_airHigh : Int32) (m_thrown : Int32) (m_netOfPin : Nat → Int32) (v1 : Int32) (v2 : Int32) (s1 : Int32) (hF : F_M_plans_29 m_thrown m_netOfPin v1 v2 s1 = some out) : cg p l e r_M_plans s m args below meth c D (va_S A s.heap) A 3 0 0 (MQ below (cn_QW (some (.int out.1)) D (w_M_plans cy A_m A_m_there A_m_low A_m_high A_m_x A_m_y A_m_w A_m_h A_m_r A_m_pinOf A_m_netOfPin A_m_label A_m_number A_m_group out.2.1 m_layers m_pieces m_airSquare m_airLow m_airHigh out.2.2) A) args s 0 0 A) (w_M_plans cy A_m A_m_there A_m_low A_m_high A_m_x A_m_y A_m_w A_m_h A_m_r A_m_pinOf A_m_netOfPin A_m_label A_m_number A_m_group m_thrown m_layers m_pieces m_airSquare m_airLow m_airHigh m_netOfPin) 29 [(0, .ref A_m), (1, .int v1), (2, .int v2)] [.int s1, .ref A_m] := by
  refine cg_put (ws' := w_M_plans cy A_m A_m_there A_m_low A_m_high A_m_x A_m_y A_m_w A_m_h A_m_r A_m_pinOf A_m_netOfPin A_m_label A_m_number A_m_group s1 m_layers m_pieces m_airSquare m_airLow m_airHigh m_netOfPin) C 0 0 t_M d_M_plans_29 rfl rfl hin_M tt_M n_M (by decide) rfl tw_551 rfl rfl (Nat.le_of_ble_eq_true rfl) rfl ?_
  refine cg_aload_n C d_M_plans_32 0 rfl ?_
  refine cg_get C 0 0 d_M_plans_33 rfl rfl hin_M (by decide) rfl tw_551 rfl ?_
  refine cg_if_ne C 49 d_M_plans_36 (by decide) (fun q_1 => ?_) (fun q_1 => ?_)
  · have hF := cn_neg q_1 hF
    refine cg_sub (lv' := []) [] rfl ?_
    exact t_M_plans_49 C hr hlk hA A_m A_m_there A_m_low A_m_high A_m_x A_m_y A_m_w A_m_h A_m_r A_m_pinOf A_m_netOfPin A_m_label A_m_number A_m_group m_layers m_pieces m_airSquare m_airLow m_airHigh s1 m_netOfPin hF
  · have hF := cn_pos q_1 hF
    refine cg_aload_n C d_M_plans_39 0 rfl ?_
    refine cg_get C 0 12 d_M_plans_40 rfl rfl hin_M (by decide) rfl tw_563 rfl ?_
    refine cg_iload_n C d_M_plans_43 1 rfl ?_
    obtain ⟨i_2, hF⟩ := cn_rd_some hF
    refine cg_iald C 1 d_M_plans_44 rfl i_2 ?_
    refine cg_iload_n C d_M_plans_45 2 rfl ?_
    refine cg_icmp_ne C 51 d_M_plans_46 (by decide) (fun q_3 => ?_) (fun q_3 => ?_)
    · have hF := cn_neg q_3 hF
      refine cg_aload_n C d_M_plans_51 0 rfl ?_
      refine cg_get C 0 12 d_M_plans_52 rfl rfl hin_M (by decide) rfl tw_563 rfl ?_
      refine cg_iload_n C d_M_plans_55 1 rfl ?_
      refine cg_iload_n C d_M_plans_56 2 rfl ?_
      obtain ⟨i_4, hF⟩ := cn_rd_some hF
      refine cg_iast (ws' := w_M_plans cy A_m A_m_there A_m_low A_m_high A_m_x A_m_y A_m_w A_m_h A_m_r A_m_pinOf A_m_netOfPin A_m_label A_m_number A_m_group s1 m_layers m_pieces m_airSquare m_airLow m_airHigh (upd m_netOfPin (Int32.toNatClampNeg v1) v2)) C 1 d_M_plans_57 rfl i_4 rfl ?_
      refine cg_iconst (v := 1) C d_M_plans_58 (by decide) ?_
      obtain rfl := Option.some.inj hF
      exact cg_zretW (v := 1) C hr rfl hlk d_M_plans_59
    · have hF := cn_pos q_3 hF
      refine cg_sub (lv' := []) [] rfl ?_
      exact t_M_plans_49 C hr hlk hA A_m A_m_there A_m_low A_m_high A_m_x A_m_y A_m_w A_m_h A_m_r A_m_pinOf A_m_netOfPin A_m_label A_m_number A_m_group m_layers m_pieces m_airSquare m_airLow m_airHigh s1 m_netOfPin hF
def F_M_plans_24 (m_thrown : Int32) (m_netOfPin : Nat → Int32) (v1 : Int32) (v2 : Int32) : Option (Int32 × Int32 × (Nat → Int32)) := F_M_plans_29 m_thrown m_netOfPin v1 v2 0
set_option maxRecDepth 100000 in
set_option maxHeartbeats 4000000 in
theorem t_M_plans_24 {p : Program} {l : Launch} {e : Env} {s : State} {m : MethodId} {args : Array Value} {below : List Frame} {meth : Method} {c : Code} {D : va_G} {cy : Nat → ClassId} {A : Nat → Prop} {out : Int32 × Int32 × (Nat → Int32)} (C : cn_X p s m args c b_M_plans 3 "CopperNetsModel" D cy) (hr : meth.sig.returnType = some .boolean) (hlk : meth.locks = false) (hA : ∀ q, s.heap.size ≤ q → A q) (A_m : Nat) (A_m_there : Nat) (A_m_low : Nat) (A_m_high : Nat) (A_m_x : Nat) (A_m_y : Nat) (A_m_w : Nat) (A_m_h : Nat) (A_m_r : Nat) (A_m_pinOf : Nat) (A_m_netOfPin : Nat) (A_m_label : Nat) (A_m_number : Nat) (A_m_group : Nat) (m_layers : Int32) (m_pieces : Int32) (m_airSquare : Int64) (m_airLow : Int32) (m_airHigh : Int32) (m_thrown : Int32) (m_netOfPin : Nat → Int32) (v1 : Int32) (v2 : Int32) (hF : F_M_plans_24 m_thrown m_netOfPin v1 v2 = some out) : cg p l e r_M_plans s m args below meth c D (va_S A s.heap) A 3 0 0 (MQ below (cn_QW (some (.int out.1)) D (w_M_plans cy A_m A_m_there A_m_low A_m_high A_m_x A_m_y A_m_w A_m_h A_m_r A_m_pinOf A_m_netOfPin A_m_label A_m_number A_m_group out.2.1 m_layers m_pieces m_airSquare m_airLow m_airHigh out.2.2) A) args s 0 0 A) (w_M_plans cy A_m A_m_there A_m_low A_m_high A_m_x A_m_y A_m_w A_m_h A_m_r A_m_pinOf A_m_netOfPin A_m_label A_m_number A_m_group m_thrown m_layers m_pieces m_airSquare m_airLow m_airHigh m_netOfPin) 24 [(0, .ref A_m), (1, .int v1), (2, .int v2)] [.ref A_m] := by
  refine cg_iconst (v := 0) C d_M_plans_24 (by decide) ?_
  refine cg_goto C 29 d_M_plans_25 (by decide) ?_
  exact t_M_plans_29 C hr hlk hA A_m A_m_there A_m_low A_m_high A_m_x A_m_y A_m_w A_m_h A_m_r A_m_pinOf A_m_netOfPin A_m_label A_m_number A_m_group m_layers m_pieces m_airSquare m_airLow m_airHigh m_thrown m_netOfPin v1 v2 0 hF
def F_M_plans_0 (m_thrown : Int32) (m_netOfPin : Nat → Int32) (v1 : Int32) (v2 : Int32) : Option (Int32 × Int32 × (Nat → Int32)) := (F_M_isPin v1).bind fun t_6 => if t_6 = 0 then (F_M_plans_29 m_thrown m_netOfPin v1 v2 1) else (if v2 = (-1) then (F_M_plans_24 m_thrown m_netOfPin v1 v2) else ((F_M_isNet v2).bind fun t_10 => if t_10 = 0 then (F_M_plans_29 m_thrown m_netOfPin v1 v2 2) else (F_M_plans_24 m_thrown m_netOfPin v1 v2)))
set_option maxRecDepth 100000 in
set_option maxHeartbeats 4000000 in
theorem t_M_plans_0 {p : Program} {l : Launch} {e : Env} {s : State} {m : MethodId} {args : Array Value} {below : List Frame} {meth : Method} {c : Code} {D : va_G} {cy : Nat → ClassId} {A : Nat → Prop} {out : Int32 × Int32 × (Nat → Int32)} (C : cn_X p s m args c b_M_plans 3 "CopperNetsModel" D cy) (hr : meth.sig.returnType = some .boolean) (hlk : meth.locks = false) (hA : ∀ q, s.heap.size ≤ q → A q) (A_m : Nat) (A_m_there : Nat) (A_m_low : Nat) (A_m_high : Nat) (A_m_x : Nat) (A_m_y : Nat) (A_m_w : Nat) (A_m_h : Nat) (A_m_r : Nat) (A_m_pinOf : Nat) (A_m_netOfPin : Nat) (A_m_label : Nat) (A_m_number : Nat) (A_m_group : Nat) (m_layers : Int32) (m_pieces : Int32) (m_airSquare : Int64) (m_airLow : Int32) (m_airHigh : Int32) (m_thrown : Int32) (m_netOfPin : Nat → Int32) (v1 : Int32) (v2 : Int32) (hF : F_M_plans_0 m_thrown m_netOfPin v1 v2 = some out) : cg p l e r_M_plans s m args below meth c D (va_S A s.heap) A 3 0 0 (MQ below (cn_QW (some (.int out.1)) D (w_M_plans cy A_m A_m_there A_m_low A_m_high A_m_x A_m_y A_m_w A_m_h A_m_r A_m_pinOf A_m_netOfPin A_m_label A_m_number A_m_group out.2.1 m_layers m_pieces m_airSquare m_airLow m_airHigh out.2.2) A) args s 0 0 A) (w_M_plans cy A_m A_m_there A_m_low A_m_high A_m_x A_m_y A_m_w A_m_h A_m_r A_m_pinOf A_m_netOfPin A_m_label A_m_number A_m_group m_thrown m_layers m_pieces m_airSquare m_airLow m_airHigh m_netOfPin) 0 [(0, .ref A_m), (1, .int v1), (2, .int v2)] [] := by
  refine cg_aload_n C d_M_plans_0 0 rfl ?_
  refine cg_iload_n C d_M_plans_1 1 rfl ?_
  obtain ⟨t_6, h_5, hF⟩ := cn_bind hF
  refine cg_callRS C (c_M_isPin v1 h_5) [] rfl (by decide) d_M_plans_2 tw_641 tw_642 tw_7 tw_643 hs_M_isPin ⟨by decide, by decide⟩ rfl rfl ⟨by decide, by decide⟩ (Nat.le_of_ble_eq_true rfl) rfl rfl ?_
  refine cg_if_ne C 12 d_M_plans_5 (by decide) (fun q_7 => ?_) (fun q_7 => ?_)
  · have hF := cn_neg q_7 hF
    refine cg_iload_n C d_M_plans_12 2 rfl ?_
    refine cg_iconst (v := (-1)) C d_M_plans_13 (by decide) ?_
    refine cg_icmp_eq C 24 d_M_plans_14 (by decide) (fun q_8 => ?_) (fun q_8 => ?_)
    · have hF := cn_pos q_8 hF
      exact t_M_plans_24 C hr hlk hA A_m A_m_there A_m_low A_m_high A_m_x A_m_y A_m_w A_m_h A_m_r A_m_pinOf A_m_netOfPin A_m_label A_m_number A_m_group m_layers m_pieces m_airSquare m_airLow m_airHigh m_thrown m_netOfPin v1 v2 hF
    · have hF := cn_neg q_8 hF
      refine cg_iload_n C d_M_plans_17 2 rfl ?_
      obtain ⟨t_10, h_9, hF⟩ := cn_bind hF
      refine cg_callRS C (c_M_isNet v2 h_9) [] rfl (by decide) d_M_plans_18 tw_648 tw_649 tw_7 tw_650 hs_M_isNet ⟨by decide, by decide⟩ rfl rfl ⟨by decide, by decide⟩ (Nat.le_of_ble_eq_true rfl) rfl rfl ?_
      refine cg_if_eq C 28 d_M_plans_21 (by decide) (fun q_11 => ?_) (fun q_11 => ?_)
      · have hF := cn_pos q_11 hF
        refine cg_iconst (v := 2) C d_M_plans_28 (by decide) ?_
        exact t_M_plans_29 C hr hlk hA A_m A_m_there A_m_low A_m_high A_m_x A_m_y A_m_w A_m_h A_m_r A_m_pinOf A_m_netOfPin A_m_label A_m_number A_m_group m_layers m_pieces m_airSquare m_airLow m_airHigh m_thrown m_netOfPin v1 v2 2 hF
      · have hF := cn_neg q_11 hF
        exact t_M_plans_24 C hr hlk hA A_m A_m_there A_m_low A_m_high A_m_x A_m_y A_m_w A_m_h A_m_r A_m_pinOf A_m_netOfPin A_m_label A_m_number A_m_group m_layers m_pieces m_airSquare m_airLow m_airHigh m_thrown m_netOfPin v1 v2 hF
  · have hF := cn_pos q_7 hF
    refine cg_iconst (v := 1) C d_M_plans_8 (by decide) ?_
    refine cg_goto C 29 d_M_plans_9 (by decide) ?_
    exact t_M_plans_29 C hr hlk hA A_m A_m_there A_m_low A_m_high A_m_x A_m_y A_m_w A_m_h A_m_r A_m_pinOf A_m_netOfPin A_m_label A_m_number A_m_group m_layers m_pieces m_airSquare m_airLow m_airHigh m_thrown m_netOfPin v1 v2 1 hF
abbrev F_M_plans (m_thrown : Int32) (m_netOfPin : Nat → Int32) (v1 : Int32) (v2 : Int32) : Option (Int32 × Int32 × (Nat → Int32)) := F_M_plans_0 m_thrown m_netOfPin v1 v2
theorem c_M_plans {l : Launch} {D : va_G} {cy : Nat → ClassId} (A_m : Nat) (A_m_there : Nat) (A_m_low : Nat) (A_m_high : Nat) (A_m_x : Nat) (A_m_y : Nat) (A_m_w : Nat) (A_m_h : Nat) (A_m_r : Nat) (A_m_pinOf : Nat) (A_m_netOfPin : Nat) (A_m_label : Nat) (A_m_number : Nat) (A_m_group : Nat) (m_thrown : Int32) (m_layers : Int32) (m_pieces : Int32) (m_airSquare : Int64) (m_airLow : Int32) (m_airHigh : Int32) (m_netOfPin : Nat → Int32) (v1 : Int32) (v2 : Int32) {out : Int32 × Int32 × (Nat → Int32)} (hF : F_M_plans m_thrown m_netOfPin v1 v2 = some out) : cn_MW l y_M_plans b_M_plans 3 (some .boolean) r_M_plans D cy [.ref A_m, .int v1, .int v2] (w_M_plans cy A_m A_m_there A_m_low A_m_high A_m_x A_m_y A_m_w A_m_h A_m_r A_m_pinOf A_m_netOfPin A_m_label A_m_number A_m_group m_thrown m_layers m_pieces m_airSquare m_airLow m_airHigh m_netOfPin) (some (.int out.1)) (w_M_plans cy A_m A_m_there A_m_low A_m_high A_m_x A_m_y A_m_w A_m_h A_m_r A_m_pinOf A_m_netOfPin A_m_label A_m_number A_m_group out.2.1 m_layers m_pieces m_airSquare m_airLow m_airHigh out.2.2) 0 0 :=
  cn_MW.of (by decide +kernel) (Nat.le_of_ble_eq_true rfl) (fun p e s m below meth c A C hr hlk hA => t_M_plans_0 C hr hlk hA A_m A_m_there A_m_low A_m_high A_m_x A_m_y A_m_w A_m_h A_m_r A_m_pinOf A_m_netOfPin A_m_label A_m_number A_m_group m_layers m_pieces m_airSquare m_airLow m_airHigh m_thrown m_netOfPin v1 v2 hF)
/-! CopperNetsModel.isPiece(I)Z -/
abbrev r_M_isPiece : Room := { frames := 0, cells := 0, slots := 0, locals := 0 }
abbrev w_M_isPiece (cy : Nat → ClassId) (A_m : Nat) (A_m_there : Nat) (A_m_low : Nat) (A_m_high : Nat) (A_m_x : Nat) (A_m_y : Nat) (A_m_w : Nat) (A_m_h : Nat) (A_m_r : Nat) (A_m_pinOf : Nat) (A_m_netOfPin : Nat) (A_m_label : Nat) (A_m_number : Nat) (A_m_group : Nat) (m_thrown : Int32) (m_layers : Int32) (m_pieces : Int32) (m_airSquare : Int64) (m_airLow : Int32) (m_airHigh : Int32) : va_W := [(A_m, .inr (4, [.int m_thrown, .int m_layers, .int m_pieces, .ref A_m_there, .ref A_m_low, .ref A_m_high, .ref A_m_x, .ref A_m_y, .ref A_m_w, .ref A_m_h, .ref A_m_r, .ref A_m_pinOf, .ref A_m_netOfPin, .ref A_m_label, .ref A_m_number, .ref A_m_group, .long m_airSquare, .int m_airLow, .int m_airHigh]))]
theorem hs_M_isPiece : y_M_isPiece.cls ≠ "java/lang/invoke/MethodHandle" ∧ y_M_isPiece.cls ≠ "java/lang/invoke/VarHandle" ∧ (parseMethodDescriptor y_M_isPiece.desc).map (fun d => d.parameters.length) = some 1 := by decide +kernel
def F_M_isPiece_17 (m_pieces : Int32) (s0 : Int32) : Option (Int32) := cn_bl s0 (some (s0))
set_option maxRecDepth 100000 in
set_option maxHeartbeats 4000000 in
theorem t_M_isPiece_17 {p : Program} {l : Launch} {e : Env} {s : State} {m : MethodId} {args : Array Value} {below : List Frame} {meth : Method} {c : Code} {D : va_G} {cy : Nat → ClassId} {out : Int32} (C : cn_X p s m args c b_M_isPiece 2 "CopperNetsModel" D cy) (hr : meth.sig.returnType = some .boolean) (hlk : meth.locks = false) (A_m : Nat) (A_m_there : Nat) (A_m_low : Nat) (A_m_high : Nat) (A_m_x : Nat) (A_m_y : Nat) (A_m_w : Nat) (A_m_h : Nat) (A_m_r : Nat) (A_m_pinOf : Nat) (A_m_netOfPin : Nat) (A_m_label : Nat) (A_m_number : Nat) (A_m_group : Nat) (m_thrown : Int32) (m_layers : Int32) (m_airSquare : Int64) (m_airLow : Int32) (m_airHigh : Int32) (m_pieces : Int32) (s0 : Int32) (hF : F_M_isPiece_17 m_pieces s0 = some out) : cg p l e r_M_isPiece s m args below meth c D (cn_hi s) (fun _ => True) 2 0 0 (MQ below (cn_QR (some (.int out))) args s 0 0 (fun _ => False)) (w_M_isPiece cy A_m A_m_there A_m_low A_m_high A_m_x A_m_y A_m_w A_m_h A_m_r A_m_pinOf A_m_netOfPin A_m_label A_m_number A_m_group m_thrown m_layers m_pieces m_airSquare m_airLow m_airHigh) 17 [] [.int s0] := by
  obtain ⟨hz, hF⟩ := cn_bl_some hF
  obtain rfl := Option.some.inj hF
  exact cg_zretR C hr hz hlk d_M_isPiece_17
def F_M_isPiece_16 (m_pieces : Int32) : Option (Int32) := F_M_isPiece_17 m_pieces 0
set_option maxRecDepth 100000 in
set_option maxHeartbeats 4000000 in
theorem t_M_isPiece_16 {p : Program} {l : Launch} {e : Env} {s : State} {m : MethodId} {args : Array Value} {below : List Frame} {meth : Method} {c : Code} {D : va_G} {cy : Nat → ClassId} {out : Int32} (C : cn_X p s m args c b_M_isPiece 2 "CopperNetsModel" D cy) (hr : meth.sig.returnType = some .boolean) (hlk : meth.locks = false) (A_m : Nat) (A_m_there : Nat) (A_m_low : Nat) (A_m_high : Nat) (A_m_x : Nat) (A_m_y : Nat) (A_m_w : Nat) (A_m_h : Nat) (A_m_r : Nat) (A_m_pinOf : Nat) (A_m_netOfPin : Nat) (A_m_label : Nat) (A_m_number : Nat) (A_m_group : Nat) (m_thrown : Int32) (m_layers : Int32) (m_airSquare : Int64) (m_airLow : Int32) (m_airHigh : Int32) (m_pieces : Int32) (hF : F_M_isPiece_16 m_pieces = some out) : cg p l e r_M_isPiece s m args below meth c D (cn_hi s) (fun _ => True) 2 0 0 (MQ below (cn_QR (some (.int out))) args s 0 0 (fun _ => False)) (w_M_isPiece cy A_m A_m_there A_m_low A_m_high A_m_x A_m_y A_m_w A_m_h A_m_r A_m_pinOf A_m_netOfPin A_m_label A_m_number A_m_group m_thrown m_layers m_pieces m_airSquare m_airLow m_airHigh) 16 [] [] := by
  refine cg_iconst (v := 0) C d_M_isPiece_16 (by decide) ?_
  exact t_M_isPiece_17 C hr hlk A_m A_m_there A_m_low A_m_high A_m_x A_m_y A_m_w A_m_h A_m_r A_m_pinOf A_m_netOfPin A_m_label A_m_number A_m_group m_thrown m_layers m_airSquare m_airLow m_airHigh m_pieces 0 hF
def F_M_isPiece_0 (m_pieces : Int32) (v1 : Int32) : Option (Int32) := if v1 < 0 then (F_M_isPiece_16 m_pieces) else (if m_pieces ≤ v1 then (F_M_isPiece_16 m_pieces) else (F_M_isPiece_17 m_pieces 1))
set_option maxRecDepth 100000 in
set_option maxHeartbeats 4000000 in
theorem t_M_isPiece_0 {p : Program} {l : Launch} {e : Env} {s : State} {m : MethodId} {args : Array Value} {below : List Frame} {meth : Method} {c : Code} {D : va_G} {cy : Nat → ClassId} {out : Int32} (C : cn_X p s m args c b_M_isPiece 2 "CopperNetsModel" D cy) (hr : meth.sig.returnType = some .boolean) (hlk : meth.locks = false) (A_m : Nat) (A_m_there : Nat) (A_m_low : Nat) (A_m_high : Nat) (A_m_x : Nat) (A_m_y : Nat) (A_m_w : Nat) (A_m_h : Nat) (A_m_r : Nat) (A_m_pinOf : Nat) (A_m_netOfPin : Nat) (A_m_label : Nat) (A_m_number : Nat) (A_m_group : Nat) (m_thrown : Int32) (m_layers : Int32) (m_airSquare : Int64) (m_airLow : Int32) (m_airHigh : Int32) (m_pieces : Int32) (v1 : Int32) (hF : F_M_isPiece_0 m_pieces v1 = some out) : cg p l e r_M_isPiece s m args below meth c D (cn_hi s) (fun _ => True) 2 0 0 (MQ below (cn_QR (some (.int out))) args s 0 0 (fun _ => False)) (w_M_isPiece cy A_m A_m_there A_m_low A_m_high A_m_x A_m_y A_m_w A_m_h A_m_r A_m_pinOf A_m_netOfPin A_m_label A_m_number A_m_group m_thrown m_layers m_pieces m_airSquare m_airLow m_airHigh) 0 [(0, .ref A_m), (1, .int v1)] [] := by
  refine cg_iload_n C d_M_isPiece_0 1 rfl ?_
  refine cg_if_lt C 16 d_M_isPiece_1 (by decide) (fun q_1 => ?_) (fun q_1 => ?_)
  · have hF := cn_pos q_1 hF
    refine cg_sub (lv' := []) [] rfl ?_
    exact t_M_isPiece_16 C hr hlk A_m A_m_there A_m_low A_m_high A_m_x A_m_y A_m_w A_m_h A_m_r A_m_pinOf A_m_netOfPin A_m_label A_m_number A_m_group m_thrown m_layers m_airSquare m_airLow m_airHigh m_pieces hF
  · have hF := cn_neg q_1 hF
    refine cg_iload_n C d_M_isPiece_4 1 rfl ?_
    refine cg_aload_n C d_M_isPiece_5 0 rfl ?_
    refine cg_get C 0 2 d_M_isPiece_6 rfl rfl hin_M (by decide) rfl tw_553 rfl ?_
    refine cg_icmp_ge C 16 d_M_isPiece_9 (by decide) (fun q_2 => ?_) (fun q_2 => ?_)
    · have hF := cn_pos q_2 hF
      refine cg_sub (lv' := []) [] rfl ?_
      exact t_M_isPiece_16 C hr hlk A_m A_m_there A_m_low A_m_high A_m_x A_m_y A_m_w A_m_h A_m_r A_m_pinOf A_m_netOfPin A_m_label A_m_number A_m_group m_thrown m_layers m_airSquare m_airLow m_airHigh m_pieces hF
    · have hF := cn_neg q_2 hF
      refine cg_iconst (v := 1) C d_M_isPiece_12 (by decide) ?_
      refine cg_goto C 17 d_M_isPiece_13 (by decide) ?_
      refine cg_sub (lv' := []) [] rfl ?_
      exact t_M_isPiece_17 C hr hlk A_m A_m_there A_m_low A_m_high A_m_x A_m_y A_m_w A_m_h A_m_r A_m_pinOf A_m_netOfPin A_m_label A_m_number A_m_group m_thrown m_layers m_airSquare m_airLow m_airHigh m_pieces 1 hF
abbrev F_M_isPiece (m_pieces : Int32) (v1 : Int32) : Option (Int32) := F_M_isPiece_0 m_pieces v1
theorem c_M_isPiece {l : Launch} {D : va_G} {cy : Nat → ClassId} (A_m : Nat) (A_m_there : Nat) (A_m_low : Nat) (A_m_high : Nat) (A_m_x : Nat) (A_m_y : Nat) (A_m_w : Nat) (A_m_h : Nat) (A_m_r : Nat) (A_m_pinOf : Nat) (A_m_netOfPin : Nat) (A_m_label : Nat) (A_m_number : Nat) (A_m_group : Nat) (m_thrown : Int32) (m_layers : Int32) (m_pieces : Int32) (m_airSquare : Int64) (m_airLow : Int32) (m_airHigh : Int32) (v1 : Int32) {out : Int32} (hF : F_M_isPiece m_pieces v1 = some out) : cn_MR l y_M_isPiece b_M_isPiece 2 (some .boolean) r_M_isPiece D cy [.ref A_m, .int v1] (w_M_isPiece cy A_m A_m_there A_m_low A_m_high A_m_x A_m_y A_m_w A_m_h A_m_r A_m_pinOf A_m_netOfPin A_m_label A_m_number A_m_group m_thrown m_layers m_pieces m_airSquare m_airLow m_airHigh) (some (.int out)) :=
  cn_MR.of (by decide +kernel) (Nat.le_of_ble_eq_true rfl) (fun p e s m below meth c C hr hlk => t_M_isPiece_0 C hr hlk A_m A_m_there A_m_low A_m_high A_m_x A_m_y A_m_w A_m_h A_m_r A_m_pinOf A_m_netOfPin A_m_label A_m_number A_m_group m_thrown m_layers m_airSquare m_airLow m_airHigh m_pieces v1 hF)
/-! CopperNetsModel.drop(I)Z -/
abbrev r_M_drop : Room := { frames := 1, cells := 0, slots := 0, locals := 21 }
abbrev w_M_drop (cy : Nat → ClassId) (A_m : Nat) (A_m_there : Nat) (A_m_low : Nat) (A_m_high : Nat) (A_m_x : Nat) (A_m_y : Nat) (A_m_w : Nat) (A_m_h : Nat) (A_m_r : Nat) (A_m_pinOf : Nat) (A_m_netOfPin : Nat) (A_m_label : Nat) (A_m_number : Nat) (A_m_group : Nat) (m_thrown : Int32) (m_layers : Int32) (m_pieces : Int32) (m_airSquare : Int64) (m_airLow : Int32) (m_airHigh : Int32) (m_there : Nat → Int32) : va_W := [(A_m, .inr (4, [.int m_thrown, .int m_layers, .int m_pieces, .ref A_m_there, .ref A_m_low, .ref A_m_high, .ref A_m_x, .ref A_m_y, .ref A_m_w, .ref A_m_h, .ref A_m_r, .ref A_m_pinOf, .ref A_m_netOfPin, .ref A_m_label, .ref A_m_number, .ref A_m_group, .long m_airSquare, .int m_airLow, .int m_airHigh])), (A_m_there, .inl (cy 2, 60, .inl m_there))]
theorem hs_M_drop : y_M_drop.cls ≠ "java/lang/invoke/MethodHandle" ∧ y_M_drop.cls ≠ "java/lang/invoke/VarHandle" ∧ (parseMethodDescriptor y_M_drop.desc).map (fun d => d.parameters.length) = some 1 := by decide +kernel
def F_M_drop_33 (m_thrown : Int32) (m_pieces : Int32) (m_there : Nat → Int32) : Option (Int32 × Int32 × (Nat → Int32)) := some (0, m_thrown, m_there)
set_option maxRecDepth 100000 in
set_option maxHeartbeats 4000000 in
theorem t_M_drop_33 {p : Program} {l : Launch} {e : Env} {s : State} {m : MethodId} {args : Array Value} {below : List Frame} {meth : Method} {c : Code} {D : va_G} {cy : Nat → ClassId} {A : Nat → Prop} {out : Int32 × Int32 × (Nat → Int32)} (C : cn_X p s m args c b_M_drop 2 "CopperNetsModel" D cy) (hr : meth.sig.returnType = some .boolean) (hlk : meth.locks = false) (hA : ∀ q, s.heap.size ≤ q → A q) (A_m : Nat) (A_m_there : Nat) (A_m_low : Nat) (A_m_high : Nat) (A_m_x : Nat) (A_m_y : Nat) (A_m_w : Nat) (A_m_h : Nat) (A_m_r : Nat) (A_m_pinOf : Nat) (A_m_netOfPin : Nat) (A_m_label : Nat) (A_m_number : Nat) (A_m_group : Nat) (m_layers : Int32) (m_airSquare : Int64) (m_airLow : Int32) (m_airHigh : Int32) (m_thrown : Int32) (m_pieces : Int32) (m_there : Nat → Int32) (hF : F_M_drop_33 m_thrown m_pieces m_there = some out) : cg p l e r_M_drop s m args below meth c D (va_S A s.heap) A 2 0 0 (MQ below (cn_QW (some (.int out.1)) D (w_M_drop cy A_m A_m_there A_m_low A_m_high A_m_x A_m_y A_m_w A_m_h A_m_r A_m_pinOf A_m_netOfPin A_m_label A_m_number A_m_group out.2.1 m_layers m_pieces m_airSquare m_airLow m_airHigh out.2.2) A) args s 0 0 A) (w_M_drop cy A_m A_m_there A_m_low A_m_high A_m_x A_m_y A_m_w A_m_h A_m_r A_m_pinOf A_m_netOfPin A_m_label A_m_number A_m_group m_thrown m_layers m_pieces m_airSquare m_airLow m_airHigh m_there) 33 [] [] := by
  refine cg_iconst (v := 0) C d_M_drop_33 (by decide) ?_
  obtain rfl := Option.some.inj hF
  exact cg_zretW (v := 0) C hr rfl hlk d_M_drop_34
def F_M_drop_14 (m_thrown : Int32) (m_pieces : Int32) (m_there : Nat → Int32) (v1 : Int32) (s1 : Int32) : Option (Int32 × Int32 × (Nat → Int32)) := if s1 = 0 then (cn_rd v1 60 (if (m_there (Int32.toNatClampNeg v1)) = 0 then (F_M_drop_33 s1 m_pieces m_there) else (cn_rd v1 60 (some (1, s1, (upd m_there (Int32.toNatClampNeg v1) (vp_nar .boolean 0))))))) else (F_M_drop_33 s1 m_pieces m_there)
set_option maxRecDepth 100000 in
set_option maxHeartbeats 4000000 in
theorem t_M_drop_14 {p : Program} {l : Launch} {e : Env} {s : State} {m : MethodId} {args : Array Value} {below : List Frame} {meth : Method} {c : Code} {D : va_G} {cy : Nat → ClassId} {A : Nat → Prop} {out : Int32 × Int32 × (Nat → Int32)} (C : cn_X p s m args c b_M_drop 2 "CopperNetsModel" D cy) (hr : meth.sig.returnType = some .boolean) (hlk : meth.locks = false) (hA : ∀ q, s.heap.size ≤ q → A q) (A_m : Nat) (A_m_there : Nat) (A_m_low : Nat) (A_m_high : Nat) (A_m_x : Nat) (A_m_y : Nat) (A_m_w : Nat) (A_m_h : Nat) (A_m_r : Nat) (A_m_pinOf : Nat) (A_m_netOfPin : Nat) (A_m_label : Nat) (A_m_number : Nat) (A_m_group : Nat) (m_layers : Int32) (m_airSquare : Int64) (m_airLow : Int32) (m_airHigh : Int32) (m_thrown : Int32) (m_pieces : Int32) (m_there : Nat → Int32) (v1 : Int32) (s1 : Int32) (hF : F_M_drop_14 m_thrown m_pieces m_there v1 s1 = some out) : cg p l e r_M_drop s m args below meth c D (va_S A s.heap) A 2 0 0 (MQ below (cn_QW (some (.int out.1)) D (w_M_drop cy A_m A_m_there A_m_low A_m_high A_m_x A_m_y A_m_w A_m_h A_m_r A_m_pinOf A_m_netOfPin A_m_label A_m_number A_m_group out.2.1 m_layers m_pieces m_airSquare m_airLow m_airHigh out.2.2) A) args s 0 0 A) (w_M_drop cy A_m A_m_there A_m_low A_m_high A_m_x A_m_y A_m_w A_m_h A_m_r A_m_pinOf A_m_netOfPin A_m_label A_m_number A_m_group m_thrown m_layers m_pieces m_airSquare m_airLow m_airHigh m_there) 14 [(0, .ref A_m), (1, .int v1)] [.int s1, .ref A_m] := by
  refine cg_put (ws' := w_M_drop cy A_m A_m_there A_m_low A_m_high A_m_x A_m_y A_m_w A_m_h A_m_r A_m_pinOf A_m_netOfPin A_m_label A_m_number A_m_group s1 m_layers m_pieces m_airSquare m_airLow m_airHigh m_there) C 0 0 t_M d_M_drop_14 rfl rfl hin_M tt_M n_M (by decide) rfl tw_551 rfl rfl (Nat.le_of_ble_eq_true rfl) rfl ?_
  refine cg_aload_n C d_M_drop_17 0 rfl ?_
  refine cg_get C 0 0 d_M_drop_18 rfl rfl hin_M (by decide) rfl tw_551 rfl ?_
  refine cg_if_ne C 33 d_M_drop_21 (by decide) (fun q_1 => ?_) (fun q_1 => ?_)
  · have hF := cn_neg q_1 hF
    refine cg_sub (lv' := []) [] rfl ?_
    exact t_M_drop_33 C hr hlk hA A_m A_m_there A_m_low A_m_high A_m_x A_m_y A_m_w A_m_h A_m_r A_m_pinOf A_m_netOfPin A_m_label A_m_number A_m_group m_layers m_airSquare m_airLow m_airHigh s1 m_pieces m_there hF
  · have hF := cn_pos q_1 hF
    refine cg_aload_n C d_M_drop_24 0 rfl ?_
    refine cg_get C 0 3 d_M_drop_25 rfl rfl hin_M (by decide) rfl tw_554 rfl ?_
    refine cg_iload_n C d_M_drop_28 1 rfl ?_
    obtain ⟨i_2, hF⟩ := cn_rd_some hF
    refine cg_zald C 1 d_M_drop_29 rfl i_2 ?_
    refine cg_if_ne C 35 d_M_drop_30 (by decide) (fun q_3 => ?_) (fun q_3 => ?_)
    · have hF := cn_neg q_3 hF
      refine cg_aload_n C d_M_drop_35 0 rfl ?_
      refine cg_get C 0 3 d_M_drop_36 rfl rfl hin_M (by decide) rfl tw_554 rfl ?_
      refine cg_iload_n C d_M_drop_39 1 rfl ?_
      refine cg_iconst (v := 0) C d_M_drop_40 (by decide) ?_
      obtain ⟨i_4, hF⟩ := cn_rd_some hF
      refine cg_zast (ws' := w_M_drop cy A_m A_m_there A_m_low A_m_high A_m_x A_m_y A_m_w A_m_h A_m_r A_m_pinOf A_m_netOfPin A_m_label A_m_number A_m_group s1 m_layers m_pieces m_airSquare m_airLow m_airHigh (upd m_there (Int32.toNatClampNeg v1) (vp_nar .boolean 0))) C 1 d_M_drop_41 rfl i_4 rfl ?_
      refine cg_iconst (v := 1) C d_M_drop_42 (by decide) ?_
      obtain rfl := Option.some.inj hF
      exact cg_zretW (v := 1) C hr rfl hlk d_M_drop_43
    · have hF := cn_pos q_3 hF
      refine cg_sub (lv' := []) [] rfl ?_
      exact t_M_drop_33 C hr hlk hA A_m A_m_there A_m_low A_m_high A_m_x A_m_y A_m_w A_m_h A_m_r A_m_pinOf A_m_netOfPin A_m_label A_m_number A_m_group m_layers m_airSquare m_airLow m_airHigh s1 m_pieces m_there hF
def F_M_drop_0 (m_thrown : Int32) (m_pieces : Int32) (m_there : Nat → Int32) (v1 : Int32) : Option (Int32 × Int32 × (Nat → Int32)) := (F_M_isPiece m_pieces v1).bind fun t_6 => if t_6 = 0 then (F_M_drop_14 m_thrown m_pieces m_there v1 1) else (F_M_drop_14 m_thrown m_pieces m_there v1 0)
set_option maxRecDepth 100000 in
set_option maxHeartbeats 4000000 in
theorem t_M_drop_0 {p : Program} {l : Launch} {e : Env} {s : State} {m : MethodId} {args : Array Value} {below : List Frame} {meth : Method} {c : Code} {D : va_G} {cy : Nat → ClassId} {A : Nat → Prop} {out : Int32 × Int32 × (Nat → Int32)} (C : cn_X p s m args c b_M_drop 2 "CopperNetsModel" D cy) (hr : meth.sig.returnType = some .boolean) (hlk : meth.locks = false) (hA : ∀ q, s.heap.size ≤ q → A q) (A_m : Nat) (A_m_there : Nat) (A_m_low : Nat) (A_m_high : Nat) (A_m_x : Nat) (A_m_y : Nat) (A_m_w : Nat) (A_m_h : Nat) (A_m_r : Nat) (A_m_pinOf : Nat) (A_m_netOfPin : Nat) (A_m_label : Nat) (A_m_number : Nat) (A_m_group : Nat) (m_layers : Int32) (m_airSquare : Int64) (m_airLow : Int32) (m_airHigh : Int32) (m_thrown : Int32) (m_pieces : Int32) (m_there : Nat → Int32) (v1 : Int32) (hF : F_M_drop_0 m_thrown m_pieces m_there v1 = some out) : cg p l e r_M_drop s m args below meth c D (va_S A s.heap) A 2 0 0 (MQ below (cn_QW (some (.int out.1)) D (w_M_drop cy A_m A_m_there A_m_low A_m_high A_m_x A_m_y A_m_w A_m_h A_m_r A_m_pinOf A_m_netOfPin A_m_label A_m_number A_m_group out.2.1 m_layers m_pieces m_airSquare m_airLow m_airHigh out.2.2) A) args s 0 0 A) (w_M_drop cy A_m A_m_there A_m_low A_m_high A_m_x A_m_y A_m_w A_m_h A_m_r A_m_pinOf A_m_netOfPin A_m_label A_m_number A_m_group m_thrown m_layers m_pieces m_airSquare m_airLow m_airHigh m_there) 0 [(0, .ref A_m), (1, .int v1)] [] := by
  refine cg_aload_n C d_M_drop_0 0 rfl ?_
  refine cg_aload_n C d_M_drop_1 0 rfl ?_
  refine cg_iload_n C d_M_drop_2 1 rfl ?_
  obtain ⟨t_6, h_5, hF⟩ := cn_bind hF
  refine cg_callRV C (c_M_isPiece A_m A_m_there A_m_low A_m_high A_m_x A_m_y A_m_w A_m_h A_m_r A_m_pinOf A_m_netOfPin A_m_label A_m_number A_m_group m_thrown m_layers m_pieces m_airSquare m_airLow m_airHigh v1 h_5) [0] rfl (by decide) 0 rfl rfl d_M_drop_3 tw_655 tw_657 ts_44 tw_7 tw_658 hs_M_isPiece ⟨by decide, by decide⟩ rfl rfl ⟨by decide, by decide⟩ (Nat.le_of_ble_eq_true rfl) rfl rfl ?_
  refine cg_if_eq C 13 d_M_drop_6 (by decide) (fun q_7 => ?_) (fun q_7 => ?_)
  · have hF := cn_pos q_7 hF
    refine cg_iconst (v := 1) C d_M_drop_13 (by decide) ?_
    exact t_M_drop_14 C hr hlk hA A_m A_m_there A_m_low A_m_high A_m_x A_m_y A_m_w A_m_h A_m_r A_m_pinOf A_m_netOfPin A_m_label A_m_number A_m_group m_layers m_airSquare m_airLow m_airHigh m_thrown m_pieces m_there v1 1 hF
  · have hF := cn_neg q_7 hF
    refine cg_iconst (v := 0) C d_M_drop_9 (by decide) ?_
    refine cg_goto C 14 d_M_drop_10 (by decide) ?_
    exact t_M_drop_14 C hr hlk hA A_m A_m_there A_m_low A_m_high A_m_x A_m_y A_m_w A_m_h A_m_r A_m_pinOf A_m_netOfPin A_m_label A_m_number A_m_group m_layers m_airSquare m_airLow m_airHigh m_thrown m_pieces m_there v1 0 hF
abbrev F_M_drop (m_thrown : Int32) (m_pieces : Int32) (m_there : Nat → Int32) (v1 : Int32) : Option (Int32 × Int32 × (Nat → Int32)) := F_M_drop_0 m_thrown m_pieces m_there v1
theorem c_M_drop {l : Launch} {D : va_G} {cy : Nat → ClassId} (A_m : Nat) (A_m_there : Nat) (A_m_low : Nat) (A_m_high : Nat) (A_m_x : Nat) (A_m_y : Nat) (A_m_w : Nat) (A_m_h : Nat) (A_m_r : Nat) (A_m_pinOf : Nat) (A_m_netOfPin : Nat) (A_m_label : Nat) (A_m_number : Nat) (A_m_group : Nat) (m_thrown : Int32) (m_layers : Int32) (m_pieces : Int32) (m_airSquare : Int64) (m_airLow : Int32) (m_airHigh : Int32) (m_there : Nat → Int32) (v1 : Int32) {out : Int32 × Int32 × (Nat → Int32)} (hF : F_M_drop m_thrown m_pieces m_there v1 = some out) : cn_MW l y_M_drop b_M_drop 2 (some .boolean) r_M_drop D cy [.ref A_m, .int v1] (w_M_drop cy A_m A_m_there A_m_low A_m_high A_m_x A_m_y A_m_w A_m_h A_m_r A_m_pinOf A_m_netOfPin A_m_label A_m_number A_m_group m_thrown m_layers m_pieces m_airSquare m_airLow m_airHigh m_there) (some (.int out.1)) (w_M_drop cy A_m A_m_there A_m_low A_m_high A_m_x A_m_y A_m_w A_m_h A_m_r A_m_pinOf A_m_netOfPin A_m_label A_m_number A_m_group out.2.1 m_layers m_pieces m_airSquare m_airLow m_airHigh out.2.2) 0 0 :=
  cn_MW.of (by decide +kernel) (Nat.le_of_ble_eq_true rfl) (fun p e s m below meth c A C hr hlk hA => t_M_drop_0 C hr hlk hA A_m A_m_there A_m_low A_m_high A_m_x A_m_y A_m_w A_m_h A_m_r A_m_pinOf A_m_netOfPin A_m_label A_m_number A_m_group m_layers m_airSquare m_airLow m_airHigh m_thrown m_pieces m_there v1 hF)
/-! CopperNetsModel.gap(JJJJ)J -/
abbrev r_M_gap : Room := { frames := 0, cells := 0, slots := 0, locals := 0 }
abbrev w_M_gap (cy : Nat → ClassId) : va_W := []
theorem hs_M_gap : y_M_gap.cls ≠ "java/lang/invoke/MethodHandle" ∧ y_M_gap.cls ≠ "java/lang/invoke/VarHandle" ∧ (parseMethodDescriptor y_M_gap.desc).map (fun d => d.parameters.length) = some 4 := by decide +kernel
def F_M_gap_29 (s0 : Int64) : Option (Int64) := some (s0)
set_option maxRecDepth 100000 in
set_option maxHeartbeats 4000000 in
theorem t_M_gap_29 {p : Program} {l : Launch} {e : Env} {s : State} {m : MethodId} {args : Array Value} {below : List Frame} {meth : Method} {c : Code} {D : va_G} {cy : Nat → ClassId} {out : Int64} (C : cn_X p s m args c b_M_gap 8 "CopperNetsModel" D cy) (hr : meth.sig.returnType = some .long) (hlk : meth.locks = false) (s0 : Int64) (hF : F_M_gap_29 s0 = some out) : cg p l e r_M_gap s m args below meth c D (cn_hi s) (fun _ => True) 8 0 0 (MQ below (cn_QR (some (.long out))) args s 0 0 (fun _ => False)) (w_M_gap cy) 29 [] [.long s0] := by
  obtain rfl := Option.some.inj hF
  exact cg_lretR C hr hlk d_M_gap_29
def F_M_gap_0 (v0 : Int64) (v2 : Int64) (v4 : Int64) (v6 : Int64) : Option (Int64) := if (lg_cmp v4 v2) ≤ 0 then (if (lg_cmp v0 v6) ≤ 0 then (F_M_gap_29 0) else (F_M_gap_29 (v0 - v6))) else (F_M_gap_29 (v4 - v2))
set_option maxRecDepth 100000 in
set_option maxHeartbeats 4000000 in
theorem t_M_gap_0 {p : Program} {l : Launch} {e : Env} {s : State} {m : MethodId} {args : Array Value} {below : List Frame} {meth : Method} {c : Code} {D : va_G} {cy : Nat → ClassId} {out : Int64} (C : cn_X p s m args c b_M_gap 8 "CopperNetsModel" D cy) (hr : meth.sig.returnType = some .long) (hlk : meth.locks = false) (v0 : Int64) (v2 : Int64) (v4 : Int64) (v6 : Int64) (hF : F_M_gap_0 v0 v2 v4 v6 = some out) : cg p l e r_M_gap s m args below meth c D (cn_hi s) (fun _ => True) 8 0 0 (MQ below (cn_QR (some (.long out))) args s 0 0 (fun _ => False)) (w_M_gap cy) 0 [(0, .long v0), (2, .long v2), (4, .long v4), (6, .long v6)] [] := by
  refine cg_lload C d_M_gap_0 2 rfl ?_
  refine cg_lload_n C d_M_gap_2 1 rfl ?_
  refine cg_lcmp C d_M_gap_3 ?_
  refine cg_if_le C 14 d_M_gap_4 (by decide) (fun q_1 => ?_) (fun q_1 => ?_)
  · have hF := cn_pos q_1 hF
    refine cg_lload_n C d_M_gap_14 0 rfl ?_
    refine cg_lload C d_M_gap_15 3 rfl ?_
    refine cg_lcmp C d_M_gap_17 ?_
    refine cg_if_le C 28 d_M_gap_18 (by decide) (fun q_2 => ?_) (fun q_2 => ?_)
    · have hF := cn_pos q_2 hF
      refine cg_lconst (v := 0) C d_M_gap_28 (by decide) ?_
      refine cg_sub (lv' := []) [] rfl ?_
      exact t_M_gap_29 C hr hlk 0 hF
    · have hF := cn_neg q_2 hF
      refine cg_lload_n C d_M_gap_21 0 rfl ?_
      refine cg_lload C d_M_gap_22 3 rfl ?_
      refine cg_lsub C d_M_gap_24 ?_
      refine cg_goto C 29 d_M_gap_25 (by decide) ?_
      refine cg_sub (lv' := []) [] rfl ?_
      exact t_M_gap_29 C hr hlk (v0 - v6) hF
  · have hF := cn_neg q_1 hF
    refine cg_lload C d_M_gap_7 2 rfl ?_
    refine cg_lload_n C d_M_gap_9 1 rfl ?_
    refine cg_lsub C d_M_gap_10 ?_
    refine cg_goto C 29 d_M_gap_11 (by decide) ?_
    refine cg_sub (lv' := []) [] rfl ?_
    exact t_M_gap_29 C hr hlk (v4 - v2) hF
abbrev F_M_gap (v0 : Int64) (v2 : Int64) (v4 : Int64) (v6 : Int64) : Option (Int64) := F_M_gap_0 v0 v2 v4 v6
theorem c_M_gap {l : Launch} {D : va_G} {cy : Nat → ClassId} (v0 : Int64) (v2 : Int64) (v4 : Int64) (v6 : Int64) {out : Int64} (hF : F_M_gap v0 v2 v4 v6 = some out) : cn_MR l y_M_gap b_M_gap 8 (some .long) r_M_gap D cy [.long v0, .long v2, .long v4, .long v6] (w_M_gap cy) (some (.long out)) :=
  cn_MR.of (by decide +kernel) (Nat.le_of_ble_eq_true rfl) (fun p e s m below meth c C hr hlk => t_M_gap_0 C hr hlk v0 v2 v4 v6 hF)
/-! CopperNetsModel.touch(II)Z -/
abbrev r_M_touch : Room := { frames := 1, cells := 0, slots := 0, locals := 27 }
abbrev w_M_touch (cy : Nat → ClassId) (A_m : Nat) (A_m_there : Nat) (A_m_low : Nat) (A_m_high : Nat) (A_m_x : Nat) (A_m_y : Nat) (A_m_w : Nat) (A_m_h : Nat) (A_m_r : Nat) (A_m_pinOf : Nat) (A_m_netOfPin : Nat) (A_m_label : Nat) (A_m_number : Nat) (A_m_group : Nat) (m_thrown : Int32) (m_layers : Int32) (m_pieces : Int32) (m_airSquare : Int64) (m_airLow : Int32) (m_airHigh : Int32) (m_there : Nat → Int32) (m_low : Nat → Int32) (m_high : Nat → Int32) (m_x : Nat → Int64) (m_y : Nat → Int64) (m_w : Nat → Int64) (m_h : Nat → Int64) (m_r : Nat → Int64) : va_W := [(A_m, .inr (4, [.int m_thrown, .int m_layers, .int m_pieces, .ref A_m_there, .ref A_m_low, .ref A_m_high, .ref A_m_x, .ref A_m_y, .ref A_m_w, .ref A_m_h, .ref A_m_r, .ref A_m_pinOf, .ref A_m_netOfPin, .ref A_m_label, .ref A_m_number, .ref A_m_group, .long m_airSquare, .int m_airLow, .int m_airHigh])), (A_m_there, .inl (cy 2, 60, .inl m_there)), (A_m_low, .inl (cy 0, 60, .inl m_low)), (A_m_high, .inl (cy 0, 60, .inl m_high)), (A_m_x, .inl (cy 1, 60, .inr (.inl m_x))), (A_m_y, .inl (cy 1, 60, .inr (.inl m_y))), (A_m_w, .inl (cy 1, 60, .inr (.inl m_w))), (A_m_h, .inl (cy 1, 60, .inr (.inl m_h))), (A_m_r, .inl (cy 1, 60, .inr (.inl m_r)))]
theorem hs_M_touch : y_M_touch.cls ≠ "java/lang/invoke/MethodHandle" ∧ y_M_touch.cls ≠ "java/lang/invoke/VarHandle" ∧ (parseMethodDescriptor y_M_touch.desc).map (fun d => d.parameters.length) = some 2 := by decide +kernel
def F_M_touch_48 (m_there : Nat → Int32) (m_low : Nat → Int32) (m_high : Nat → Int32) (m_x : Nat → Int64) (m_y : Nat → Int64) (m_w : Nat → Int64) (m_h : Nat → Int64) (m_r : Nat → Int64) : Option (Int32) := some (0)
set_option maxRecDepth 100000 in
set_option maxHeartbeats 4000000 in
theorem t_M_touch_48 {p : Program} {l : Launch} {e : Env} {s : State} {m : MethodId} {args : Array Value} {below : List Frame} {meth : Method} {c : Code} {D : va_G} {cy : Nat → ClassId} {out : Int32} (C : cn_X p s m args c b_M_touch 9 "CopperNetsModel" D cy) (hr : meth.sig.returnType = some .boolean) (hlk : meth.locks = false) (A_m : Nat) (A_m_there : Nat) (A_m_low : Nat) (A_m_high : Nat) (A_m_x : Nat) (A_m_y : Nat) (A_m_w : Nat) (A_m_h : Nat) (A_m_r : Nat) (A_m_pinOf : Nat) (A_m_netOfPin : Nat) (A_m_label : Nat) (A_m_number : Nat) (A_m_group : Nat) (m_thrown : Int32) (m_layers : Int32) (m_pieces : Int32) (m_airSquare : Int64) (m_airLow : Int32) (m_airHigh : Int32) (m_there : Nat → Int32) (m_low : Nat → Int32) (m_high : Nat → Int32) (m_x : Nat → Int64) (m_y : Nat → Int64) (m_w : Nat → Int64) (m_h : Nat → Int64) (m_r : Nat → Int64) (hF : F_M_touch_48 m_there m_low m_high m_x m_y m_w m_h m_r = some out) : cg p l e r_M_touch s m args below meth c D (cn_hi s) (fun _ => True) 9 0 0 (MQ below (cn_QR (some (.int out))) args s 0 0 (fun _ => False)) (w_M_touch cy A_m A_m_there A_m_low A_m_high A_m_x A_m_y A_m_w A_m_h A_m_r A_m_pinOf A_m_netOfPin A_m_label A_m_number A_m_group m_thrown m_layers m_pieces m_airSquare m_airLow m_airHigh m_there m_low m_high m_x m_y m_w m_h m_r) 48 [] [] := by
  refine cg_iconst (v := 0) C d_M_touch_48 (by decide) ?_
  obtain rfl := Option.some.inj hF
  exact cg_zretR (v := 0) C hr rfl hlk d_M_touch_49
def F_M_touch_173 (m_there : Nat → Int32) (m_low : Nat → Int32) (m_high : Nat → Int32) (m_x : Nat → Int64) (m_y : Nat → Int64) (m_w : Nat → Int64) (m_h : Nat → Int64) (m_r : Nat → Int64) (s0 : Int32) : Option (Int32) := cn_bl s0 (some (s0))
set_option maxRecDepth 100000 in
set_option maxHeartbeats 4000000 in
theorem t_M_touch_173 {p : Program} {l : Launch} {e : Env} {s : State} {m : MethodId} {args : Array Value} {below : List Frame} {meth : Method} {c : Code} {D : va_G} {cy : Nat → ClassId} {out : Int32} (C : cn_X p s m args c b_M_touch 9 "CopperNetsModel" D cy) (hr : meth.sig.returnType = some .boolean) (hlk : meth.locks = false) (A_m : Nat) (A_m_there : Nat) (A_m_low : Nat) (A_m_high : Nat) (A_m_x : Nat) (A_m_y : Nat) (A_m_w : Nat) (A_m_h : Nat) (A_m_r : Nat) (A_m_pinOf : Nat) (A_m_netOfPin : Nat) (A_m_label : Nat) (A_m_number : Nat) (A_m_group : Nat) (m_thrown : Int32) (m_layers : Int32) (m_pieces : Int32) (m_airSquare : Int64) (m_airLow : Int32) (m_airHigh : Int32) (m_there : Nat → Int32) (m_low : Nat → Int32) (m_high : Nat → Int32) (m_x : Nat → Int64) (m_y : Nat → Int64) (m_w : Nat → Int64) (m_h : Nat → Int64) (m_r : Nat → Int64) (s0 : Int32) (hF : F_M_touch_173 m_there m_low m_high m_x m_y m_w m_h m_r s0 = some out) : cg p l e r_M_touch s m args below meth c D (cn_hi s) (fun _ => True) 9 0 0 (MQ below (cn_QR (some (.int out))) args s 0 0 (fun _ => False)) (w_M_touch cy A_m A_m_there A_m_low A_m_high A_m_x A_m_y A_m_w A_m_h A_m_r A_m_pinOf A_m_netOfPin A_m_label A_m_number A_m_group m_thrown m_layers m_pieces m_airSquare m_airLow m_airHigh m_there m_low m_high m_x m_y m_w m_h m_r) 173 [] [.int s0] := by
  obtain ⟨hz, hF⟩ := cn_bl_some hF
  obtain rfl := Option.some.inj hF
  exact cg_zretR C hr hz hlk d_M_touch_173
def F_M_touch_0 (m_there : Nat → Int32) (m_low : Nat → Int32) (m_high : Nat → Int32) (m_x : Nat → Int64) (m_y : Nat → Int64) (m_w : Nat → Int64) (m_h : Nat → Int64) (m_r : Nat → Int64) (v1 : Int32) (v2 : Int32) : Option (Int32) := cn_rd v1 60 (if (m_there (Int32.toNatClampNeg v1)) = 0 then (F_M_touch_48 m_there m_low m_high m_x m_y m_w m_h m_r) else (cn_rd v2 60 (if (m_there (Int32.toNatClampNeg v2)) = 0 then (F_M_touch_48 m_there m_low m_high m_x m_y m_w m_h m_r) else (cn_rd v1 60 (cn_rd v2 60 (if (m_high (Int32.toNatClampNeg v2)) < (m_low (Int32.toNatClampNeg v1)) then (F_M_touch_48 m_there m_low m_high m_x m_y m_w m_h m_r) else (cn_rd v2 60 (cn_rd v1 60 (if (m_low (Int32.toNatClampNeg v2)) ≤ (m_high (Int32.toNatClampNeg v1)) then (cn_rd v1 60 (cn_rd v1 60 (cn_rd v1 60 (cn_rd v2 60 (cn_rd v2 60 (cn_rd v2 60 ((F_M_gap (m_x (Int32.toNatClampNeg v1)) ((m_x (Int32.toNatClampNeg v1)) + (m_w (Int32.toNatClampNeg v1))) (m_x (Int32.toNatClampNeg v2)) ((m_x (Int32.toNatClampNeg v2)) + (m_w (Int32.toNatClampNeg v2)))).bind fun t_18 => cn_rd v1 60 (cn_rd v1 60 (cn_rd v1 60 (cn_rd v2 60 (cn_rd v2 60 (cn_rd v2 60 ((F_M_gap (m_y (Int32.toNatClampNeg v1)) ((m_y (Int32.toNatClampNeg v1)) + (m_h (Int32.toNatClampNeg v1))) (m_y (Int32.toNatClampNeg v2)) ((m_y (Int32.toNatClampNeg v2)) + (m_h (Int32.toNatClampNeg v2)))).bind fun t_26 => cn_rd v1 60 (cn_rd v2 60 (if 0 < (lg_cmp ((t_18 * t_18) + (t_26 * t_26)) (((m_r (Int32.toNatClampNeg v1)) + (m_r (Int32.toNatClampNeg v2))) * ((m_r (Int32.toNatClampNeg v1)) + (m_r (Int32.toNatClampNeg v2))))) then (F_M_touch_173 m_there m_low m_high m_x m_y m_w m_h m_r 0) else (F_M_touch_173 m_there m_low m_high m_x m_y m_w m_h m_r 1)))))))))))))))) else (F_M_touch_48 m_there m_low m_high m_x m_y m_w m_h m_r))))))))))
set_option maxRecDepth 100000 in
set_option maxHeartbeats 4000000 in
theorem t_M_touch_0 {p : Program} {l : Launch} {e : Env} {s : State} {m : MethodId} {args : Array Value} {below : List Frame} {meth : Method} {c : Code} {D : va_G} {cy : Nat → ClassId} {out : Int32} (C : cn_X p s m args c b_M_touch 9 "CopperNetsModel" D cy) (hr : meth.sig.returnType = some .boolean) (hlk : meth.locks = false) (A_m : Nat) (A_m_there : Nat) (A_m_low : Nat) (A_m_high : Nat) (A_m_x : Nat) (A_m_y : Nat) (A_m_w : Nat) (A_m_h : Nat) (A_m_r : Nat) (A_m_pinOf : Nat) (A_m_netOfPin : Nat) (A_m_label : Nat) (A_m_number : Nat) (A_m_group : Nat) (m_thrown : Int32) (m_layers : Int32) (m_pieces : Int32) (m_airSquare : Int64) (m_airLow : Int32) (m_airHigh : Int32) (m_there : Nat → Int32) (m_low : Nat → Int32) (m_high : Nat → Int32) (m_x : Nat → Int64) (m_y : Nat → Int64) (m_w : Nat → Int64) (m_h : Nat → Int64) (m_r : Nat → Int64) (v1 : Int32) (v2 : Int32) (hF : F_M_touch_0 m_there m_low m_high m_x m_y m_w m_h m_r v1 v2 = some out) : cg p l e r_M_touch s m args below meth c D (cn_hi s) (fun _ => True) 9 0 0 (MQ below (cn_QR (some (.int out))) args s 0 0 (fun _ => False)) (w_M_touch cy A_m A_m_there A_m_low A_m_high A_m_x A_m_y A_m_w A_m_h A_m_r A_m_pinOf A_m_netOfPin A_m_label A_m_number A_m_group m_thrown m_layers m_pieces m_airSquare m_airLow m_airHigh m_there m_low m_high m_x m_y m_w m_h m_r) 0 [(0, .ref A_m), (1, .int v1), (2, .int v2)] [] := by
  refine cg_aload_n C d_M_touch_0 0 rfl ?_
  refine cg_get C 0 3 d_M_touch_1 rfl rfl hin_M (by decide) rfl tw_554 rfl ?_
  refine cg_iload_n C d_M_touch_4 1 rfl ?_
  obtain ⟨i_1, hF⟩ := cn_rd_some hF
  refine cg_zald C 1 d_M_touch_5 rfl i_1 ?_
  refine cg_if_eq C 48 d_M_touch_6 (by decide) (fun q_2 => ?_) (fun q_2 => ?_)
  · have hF := cn_pos q_2 hF
    refine cg_sub (lv' := []) [] rfl ?_
    exact t_M_touch_48 C hr hlk A_m A_m_there A_m_low A_m_high A_m_x A_m_y A_m_w A_m_h A_m_r A_m_pinOf A_m_netOfPin A_m_label A_m_number A_m_group m_thrown m_layers m_pieces m_airSquare m_airLow m_airHigh m_there m_low m_high m_x m_y m_w m_h m_r hF
  · have hF := cn_neg q_2 hF
    refine cg_aload_n C d_M_touch_9 0 rfl ?_
    refine cg_get C 0 3 d_M_touch_10 rfl rfl hin_M (by decide) rfl tw_554 rfl ?_
    refine cg_iload_n C d_M_touch_13 2 rfl ?_
    obtain ⟨i_3, hF⟩ := cn_rd_some hF
    refine cg_zald C 1 d_M_touch_14 rfl i_3 ?_
    refine cg_if_eq C 48 d_M_touch_15 (by decide) (fun q_4 => ?_) (fun q_4 => ?_)
    · have hF := cn_pos q_4 hF
      refine cg_sub (lv' := []) [] rfl ?_
      exact t_M_touch_48 C hr hlk A_m A_m_there A_m_low A_m_high A_m_x A_m_y A_m_w A_m_h A_m_r A_m_pinOf A_m_netOfPin A_m_label A_m_number A_m_group m_thrown m_layers m_pieces m_airSquare m_airLow m_airHigh m_there m_low m_high m_x m_y m_w m_h m_r hF
    · have hF := cn_neg q_4 hF
      refine cg_aload_n C d_M_touch_18 0 rfl ?_
      refine cg_get C 0 4 d_M_touch_19 rfl rfl hin_M (by decide) rfl tw_555 rfl ?_
      refine cg_iload_n C d_M_touch_22 1 rfl ?_
      obtain ⟨i_5, hF⟩ := cn_rd_some hF
      refine cg_iald C 2 d_M_touch_23 rfl i_5 ?_
      refine cg_aload_n C d_M_touch_24 0 rfl ?_
      refine cg_get C 0 5 d_M_touch_25 rfl rfl hin_M (by decide) rfl tw_556 rfl ?_
      refine cg_iload_n C d_M_touch_28 2 rfl ?_
      obtain ⟨i_6, hF⟩ := cn_rd_some hF
      refine cg_iald C 3 d_M_touch_29 rfl i_6 ?_
      refine cg_icmp_gt C 48 d_M_touch_30 (by decide) (fun q_7 => ?_) (fun q_7 => ?_)
      · have hF := cn_pos q_7 hF
        refine cg_sub (lv' := []) [] rfl ?_
        exact t_M_touch_48 C hr hlk A_m A_m_there A_m_low A_m_high A_m_x A_m_y A_m_w A_m_h A_m_r A_m_pinOf A_m_netOfPin A_m_label A_m_number A_m_group m_thrown m_layers m_pieces m_airSquare m_airLow m_airHigh m_there m_low m_high m_x m_y m_w m_h m_r hF
      · have hF := cn_neg q_7 hF
        refine cg_aload_n C d_M_touch_33 0 rfl ?_
        refine cg_get C 0 4 d_M_touch_34 rfl rfl hin_M (by decide) rfl tw_555 rfl ?_
        refine cg_iload_n C d_M_touch_37 2 rfl ?_
        obtain ⟨i_8, hF⟩ := cn_rd_some hF
        refine cg_iald C 2 d_M_touch_38 rfl i_8 ?_
        refine cg_aload_n C d_M_touch_39 0 rfl ?_
        refine cg_get C 0 5 d_M_touch_40 rfl rfl hin_M (by decide) rfl tw_556 rfl ?_
        refine cg_iload_n C d_M_touch_43 1 rfl ?_
        obtain ⟨i_9, hF⟩ := cn_rd_some hF
        refine cg_iald C 3 d_M_touch_44 rfl i_9 ?_
        refine cg_icmp_le C 50 d_M_touch_45 (by decide) (fun q_10 => ?_) (fun q_10 => ?_)
        · have hF := cn_pos q_10 hF
          refine cg_aload_n C d_M_touch_50 0 rfl ?_
          refine cg_get C 0 6 d_M_touch_51 rfl rfl hin_M (by decide) rfl tw_557 rfl ?_
          refine cg_iload_n C d_M_touch_54 1 rfl ?_
          obtain ⟨i_11, hF⟩ := cn_rd_some hF
          refine cg_lald C 4 d_M_touch_55 rfl i_11 ?_
          refine cg_aload_n C d_M_touch_56 0 rfl ?_
          refine cg_get C 0 6 d_M_touch_57 rfl rfl hin_M (by decide) rfl tw_557 rfl ?_
          refine cg_iload_n C d_M_touch_60 1 rfl ?_
          obtain ⟨i_12, hF⟩ := cn_rd_some hF
          refine cg_lald C 4 d_M_touch_61 rfl i_12 ?_
          refine cg_aload_n C d_M_touch_62 0 rfl ?_
          refine cg_get C 0 8 d_M_touch_63 rfl rfl hin_M (by decide) rfl tw_559 rfl ?_
          refine cg_iload_n C d_M_touch_66 1 rfl ?_
          obtain ⟨i_13, hF⟩ := cn_rd_some hF
          refine cg_lald C 6 d_M_touch_67 rfl i_13 ?_
          refine cg_ladd C d_M_touch_68 ?_
          refine cg_aload_n C d_M_touch_69 0 rfl ?_
          refine cg_get C 0 6 d_M_touch_70 rfl rfl hin_M (by decide) rfl tw_557 rfl ?_
          refine cg_iload_n C d_M_touch_73 2 rfl ?_
          obtain ⟨i_14, hF⟩ := cn_rd_some hF
          refine cg_lald C 4 d_M_touch_74 rfl i_14 ?_
          refine cg_aload_n C d_M_touch_75 0 rfl ?_
          refine cg_get C 0 6 d_M_touch_76 rfl rfl hin_M (by decide) rfl tw_557 rfl ?_
          refine cg_iload_n C d_M_touch_79 2 rfl ?_
          obtain ⟨i_15, hF⟩ := cn_rd_some hF
          refine cg_lald C 4 d_M_touch_80 rfl i_15 ?_
          refine cg_aload_n C d_M_touch_81 0 rfl ?_
          refine cg_get C 0 8 d_M_touch_82 rfl rfl hin_M (by decide) rfl tw_559 rfl ?_
          refine cg_iload_n C d_M_touch_85 2 rfl ?_
          obtain ⟨i_16, hF⟩ := cn_rd_some hF
          refine cg_lald C 6 d_M_touch_86 rfl i_16 ?_
          refine cg_ladd C d_M_touch_87 ?_
          obtain ⟨t_18, h_17, hF⟩ := cn_bind hF
          refine cg_callRS C (c_M_gap (m_x (Int32.toNatClampNeg v1)) ((m_x (Int32.toNatClampNeg v1)) + (m_w (Int32.toNatClampNeg v1))) (m_x (Int32.toNatClampNeg v2)) ((m_x (Int32.toNatClampNeg v2)) + (m_w (Int32.toNatClampNeg v2))) h_17) [] rfl (by decide) d_M_touch_88 tw_675 tw_676 tw_7 tw_677 hs_M_gap ⟨by decide, by decide⟩ rfl rfl ⟨by decide, by decide⟩ (Nat.le_of_ble_eq_true rfl) rfl rfl ?_
          refine cg_lstore_n (lv' := [(3, .long t_18), (0, .ref A_m), (1, .int v1), (2, .int v2)]) C d_M_touch_91 (by decide) rfl ?_
          refine cg_aload_n C d_M_touch_92 1 rfl ?_
          refine cg_get C 0 7 d_M_touch_93 rfl rfl hin_M (by decide) rfl tw_558 rfl ?_
          refine cg_iload_n C d_M_touch_96 2 rfl ?_
          obtain ⟨i_19, hF⟩ := cn_rd_some hF
          refine cg_lald C 5 d_M_touch_97 rfl i_19 ?_
          refine cg_aload_n C d_M_touch_98 1 rfl ?_
          refine cg_get C 0 7 d_M_touch_99 rfl rfl hin_M (by decide) rfl tw_558 rfl ?_
          refine cg_iload_n C d_M_touch_102 2 rfl ?_
          obtain ⟨i_20, hF⟩ := cn_rd_some hF
          refine cg_lald C 5 d_M_touch_103 rfl i_20 ?_
          refine cg_aload_n C d_M_touch_104 1 rfl ?_
          refine cg_get C 0 9 d_M_touch_105 rfl rfl hin_M (by decide) rfl tw_560 rfl ?_
          refine cg_iload_n C d_M_touch_108 2 rfl ?_
          obtain ⟨i_21, hF⟩ := cn_rd_some hF
          refine cg_lald C 7 d_M_touch_109 rfl i_21 ?_
          refine cg_ladd C d_M_touch_110 ?_
          refine cg_aload_n C d_M_touch_111 1 rfl ?_
          refine cg_get C 0 7 d_M_touch_112 rfl rfl hin_M (by decide) rfl tw_558 rfl ?_
          refine cg_iload_n C d_M_touch_115 3 rfl ?_
          obtain ⟨i_22, hF⟩ := cn_rd_some hF
          refine cg_lald C 5 d_M_touch_116 rfl i_22 ?_
          refine cg_aload_n C d_M_touch_117 1 rfl ?_
          refine cg_get C 0 7 d_M_touch_118 rfl rfl hin_M (by decide) rfl tw_558 rfl ?_
          refine cg_iload_n C d_M_touch_121 3 rfl ?_
          obtain ⟨i_23, hF⟩ := cn_rd_some hF
          refine cg_lald C 5 d_M_touch_122 rfl i_23 ?_
          refine cg_aload_n C d_M_touch_123 1 rfl ?_
          refine cg_get C 0 9 d_M_touch_124 rfl rfl hin_M (by decide) rfl tw_560 rfl ?_
          refine cg_iload_n C d_M_touch_127 3 rfl ?_
          obtain ⟨i_24, hF⟩ := cn_rd_some hF
          refine cg_lald C 7 d_M_touch_128 rfl i_24 ?_
          refine cg_ladd C d_M_touch_129 ?_
          obtain ⟨t_26, h_25, hF⟩ := cn_bind hF
          refine cg_callRS C (c_M_gap (m_y (Int32.toNatClampNeg v1)) ((m_y (Int32.toNatClampNeg v1)) + (m_h (Int32.toNatClampNeg v1))) (m_y (Int32.toNatClampNeg v2)) ((m_y (Int32.toNatClampNeg v2)) + (m_h (Int32.toNatClampNeg v2))) h_25) [] rfl (by decide) d_M_touch_130 tw_675 tw_676 tw_7 tw_677 hs_M_gap ⟨by decide, by decide⟩ rfl rfl ⟨by decide, by decide⟩ (Nat.le_of_ble_eq_true rfl) rfl rfl ?_
          refine cg_lstore (lv' := [(5, .long t_26), (3, .long t_18), (0, .ref A_m), (1, .int v1), (2, .int v2)]) C d_M_touch_133 (by decide) rfl ?_
          refine cg_aload_n C d_M_touch_135 2 rfl ?_
          refine cg_get C 0 10 d_M_touch_136 rfl rfl hin_M (by decide) rfl tw_561 rfl ?_
          refine cg_iload_n C d_M_touch_139 3 rfl ?_
          obtain ⟨i_27, hF⟩ := cn_rd_some hF
          refine cg_lald C 8 d_M_touch_140 rfl i_27 ?_
          refine cg_aload_n C d_M_touch_141 2 rfl ?_
          refine cg_get C 0 10 d_M_touch_142 rfl rfl hin_M (by decide) rfl tw_561 rfl ?_
          refine cg_iload_n C d_M_touch_145 4 rfl ?_
          obtain ⟨i_28, hF⟩ := cn_rd_some hF
          refine cg_lald C 8 d_M_touch_146 rfl i_28 ?_
          refine cg_ladd C d_M_touch_147 ?_
          refine cg_lstore (lv' := [(7, .long ((m_r (Int32.toNatClampNeg v1)) + (m_r (Int32.toNatClampNeg v2)))), (5, .long t_26), (3, .long t_18), (0, .ref A_m), (1, .int v1), (2, .int v2)]) C d_M_touch_148 (by decide) rfl ?_
          refine cg_lload_n C d_M_touch_150 2 rfl ?_
          refine cg_lload_n C d_M_touch_151 2 rfl ?_
          refine cg_lmul C d_M_touch_152 ?_
          refine cg_lload C d_M_touch_153 1 rfl ?_
          refine cg_lload C d_M_touch_155 1 rfl ?_
          refine cg_lmul C d_M_touch_157 ?_
          refine cg_ladd C d_M_touch_158 ?_
          refine cg_lload C d_M_touch_159 0 rfl ?_
          refine cg_lload C d_M_touch_161 0 rfl ?_
          refine cg_lmul C d_M_touch_163 ?_
          refine cg_lcmp C d_M_touch_164 ?_
          refine cg_if_gt C 172 d_M_touch_165 (by decide) (fun q_29 => ?_) (fun q_29 => ?_)
          · have hF := cn_pos q_29 hF
            refine cg_iconst (v := 0) C d_M_touch_172 (by decide) ?_
            refine cg_sub (lv' := []) [] rfl ?_
            exact t_M_touch_173 C hr hlk A_m A_m_there A_m_low A_m_high A_m_x A_m_y A_m_w A_m_h A_m_r A_m_pinOf A_m_netOfPin A_m_label A_m_number A_m_group m_thrown m_layers m_pieces m_airSquare m_airLow m_airHigh m_there m_low m_high m_x m_y m_w m_h m_r 0 hF
          · have hF := cn_neg q_29 hF
            refine cg_iconst (v := 1) C d_M_touch_168 (by decide) ?_
            refine cg_goto C 173 d_M_touch_169 (by decide) ?_
            refine cg_sub (lv' := []) [] rfl ?_
            exact t_M_touch_173 C hr hlk A_m A_m_there A_m_low A_m_high A_m_x A_m_y A_m_w A_m_h A_m_r A_m_pinOf A_m_netOfPin A_m_label A_m_number A_m_group m_thrown m_layers m_pieces m_airSquare m_airLow m_airHigh m_there m_low m_high m_x m_y m_w m_h m_r 1 hF
        · have hF := cn_neg q_10 hF
          refine cg_sub (lv' := []) [] rfl ?_
          exact t_M_touch_48 C hr hlk A_m A_m_there A_m_low A_m_high A_m_x A_m_y A_m_w A_m_h A_m_r A_m_pinOf A_m_netOfPin A_m_label A_m_number A_m_group m_thrown m_layers m_pieces m_airSquare m_airLow m_airHigh m_there m_low m_high m_x m_y m_w m_h m_r hF
abbrev F_M_touch (m_there : Nat → Int32) (m_low : Nat → Int32) (m_high : Nat → Int32) (m_x : Nat → Int64) (m_y : Nat → Int64) (m_w : Nat → Int64) (m_h : Nat → Int64) (m_r : Nat → Int64) (v1 : Int32) (v2 : Int32) : Option (Int32) := F_M_touch_0 m_there m_low m_high m_x m_y m_w m_h m_r v1 v2
theorem c_M_touch {l : Launch} {D : va_G} {cy : Nat → ClassId} (A_m : Nat) (A_m_there : Nat) (A_m_low : Nat) (A_m_high : Nat) (A_m_x : Nat) (A_m_y : Nat) (A_m_w : Nat) (A_m_h : Nat) (A_m_r : Nat) (A_m_pinOf : Nat) (A_m_netOfPin : Nat) (A_m_label : Nat) (A_m_number : Nat) (A_m_group : Nat) (m_thrown : Int32) (m_layers : Int32) (m_pieces : Int32) (m_airSquare : Int64) (m_airLow : Int32) (m_airHigh : Int32) (m_there : Nat → Int32) (m_low : Nat → Int32) (m_high : Nat → Int32) (m_x : Nat → Int64) (m_y : Nat → Int64) (m_w : Nat → Int64) (m_h : Nat → Int64) (m_r : Nat → Int64) (v1 : Int32) (v2 : Int32) {out : Int32} (hF : F_M_touch m_there m_low m_high m_x m_y m_w m_h m_r v1 v2 = some out) : cn_MR l y_M_touch b_M_touch 9 (some .boolean) r_M_touch D cy [.ref A_m, .int v1, .int v2] (w_M_touch cy A_m A_m_there A_m_low A_m_high A_m_x A_m_y A_m_w A_m_h A_m_r A_m_pinOf A_m_netOfPin A_m_label A_m_number A_m_group m_thrown m_layers m_pieces m_airSquare m_airLow m_airHigh m_there m_low m_high m_x m_y m_w m_h m_r) (some (.int out)) :=
  cn_MR.of (by decide +kernel) (Nat.le_of_ble_eq_true rfl) (fun p e s m below meth c C hr hlk => t_M_touch_0 C hr hlk A_m A_m_there A_m_low A_m_high A_m_x A_m_y A_m_w A_m_h A_m_r A_m_pinOf A_m_netOfPin A_m_label A_m_number A_m_group m_thrown m_layers m_pieces m_airSquare m_airLow m_airHigh m_there m_low m_high m_x m_y m_w m_h m_r v1 v2 hF)
/-! CopperNetsModel.findLabels()V -/
abbrev r_M_findLabels : Room := { frames := 2, cells := 0, slots := 0, locals := 55 }
abbrev w_M_findLabels (cy : Nat → ClassId) (A_m : Nat) (A_m_there : Nat) (A_m_low : Nat) (A_m_high : Nat) (A_m_x : Nat) (A_m_y : Nat) (A_m_w : Nat) (A_m_h : Nat) (A_m_r : Nat) (A_m_pinOf : Nat) (A_m_netOfPin : Nat) (A_m_label : Nat) (A_m_number : Nat) (A_m_group : Nat) (m_thrown : Int32) (m_layers : Int32) (m_pieces : Int32) (m_airSquare : Int64) (m_airLow : Int32) (m_airHigh : Int32) (m_there : Nat → Int32) (m_low : Nat → Int32) (m_high : Nat → Int32) (m_x : Nat → Int64) (m_y : Nat → Int64) (m_w : Nat → Int64) (m_h : Nat → Int64) (m_r : Nat → Int64) (m_label : Nat → Int32) : va_W := [(A_m, .inr (4, [.int m_thrown, .int m_layers, .int m_pieces, .ref A_m_there, .ref A_m_low, .ref A_m_high, .ref A_m_x, .ref A_m_y, .ref A_m_w, .ref A_m_h, .ref A_m_r, .ref A_m_pinOf, .ref A_m_netOfPin, .ref A_m_label, .ref A_m_number, .ref A_m_group, .long m_airSquare, .int m_airLow, .int m_airHigh])), (A_m_there, .inl (cy 2, 60, .inl m_there)), (A_m_low, .inl (cy 0, 60, .inl m_low)), (A_m_high, .inl (cy 0, 60, .inl m_high)), (A_m_x, .inl (cy 1, 60, .inr (.inl m_x))), (A_m_y, .inl (cy 1, 60, .inr (.inl m_y))), (A_m_w, .inl (cy 1, 60, .inr (.inl m_w))), (A_m_h, .inl (cy 1, 60, .inr (.inl m_h))), (A_m_r, .inl (cy 1, 60, .inr (.inl m_r))), (A_m_label, .inl (cy 0, 60, .inl m_label))]
theorem hs_M_findLabels : y_M_findLabels.cls ≠ "java/lang/invoke/MethodHandle" ∧ y_M_findLabels.cls ≠ "java/lang/invoke/VarHandle" ∧ (parseMethodDescriptor y_M_findLabels.desc).map (fun d => d.parameters.length) = some 0 := by decide +kernel
def F_M_findLabels_29 (k_2 : Int32 → (Nat → Int32) → (Nat → Int32) → (Nat → Int32) → (Nat → Int64) → (Nat → Int64) → (Nat → Int64) → (Nat → Int64) → (Nat → Int64) → (Nat → Int32) → Int32 → Option ((Nat → Int32))) (m_pieces : Int32) (m_there : Nat → Int32) (m_low : Nat → Int32) (m_high : Nat → Int32) (m_x : Nat → Int64) (m_y : Nat → Int64) (m_w : Nat → Int64) (m_h : Nat → Int64) (m_r : Nat → Int64) (m_label : Nat → Int32) (v1 : Int32) (s1 : Int32) (s2 : Int32) : Option ((Nat → Int32)) := cn_rd s1 60 (k_2 m_pieces m_there m_low m_high m_x m_y m_w m_h m_r (upd m_label (Int32.toNatClampNeg s1) s2) (v1 + 1))
set_option maxRecDepth 100000 in
set_option maxHeartbeats 4000000 in
theorem t_M_findLabels_29 {p : Program} {l : Launch} {e : Env} {s : State} {m : MethodId} {args : Array Value} {below : List Frame} {meth : Method} {c : Code} {D : va_G} {cy : Nat → ClassId} {A : Nat → Prop} {out : (Nat → Int32)} (C : cn_X p s m args c b_M_findLabels 5 "CopperNetsModel" D cy) (hr : meth.sig.returnType = none) (hlk : meth.locks = false) (hA : ∀ q, s.heap.size ≤ q → A q) (A_m : Nat) (A_m_there : Nat) (A_m_low : Nat) (A_m_high : Nat) (A_m_x : Nat) (A_m_y : Nat) (A_m_w : Nat) (A_m_h : Nat) (A_m_r : Nat) (A_m_pinOf : Nat) (A_m_netOfPin : Nat) (A_m_label : Nat) (A_m_number : Nat) (A_m_group : Nat) (m_thrown : Int32) (m_layers : Int32) (m_airSquare : Int64) (m_airLow : Int32) (m_airHigh : Int32) (k_2 : Int32 → (Nat → Int32) → (Nat → Int32) → (Nat → Int32) → (Nat → Int64) → (Nat → Int64) → (Nat → Int64) → (Nat → Int64) → (Nat → Int64) → (Nat → Int32) → Int32 → Option ((Nat → Int32))) (hk_2 : ∀ (m_pieces : Int32) (m_there : Nat → Int32) (m_low : Nat → Int32) (m_high : Nat → Int32) (m_x : Nat → Int64) (m_y : Nat → Int64) (m_w : Nat → Int64) (m_h : Nat → Int64) (m_r : Nat → Int64) (m_label : Nat → Int32) (v1 : Int32), k_2 m_pieces m_there m_low m_high m_x m_y m_w m_h m_r m_label v1 = some out → cg p l e r_M_findLabels s m args below meth c D (va_S A s.heap) A 5 0 0 (MQ below (cn_QW none D (w_M_findLabels cy A_m A_m_there A_m_low A_m_high A_m_x A_m_y A_m_w A_m_h A_m_r A_m_pinOf A_m_netOfPin A_m_label A_m_number A_m_group m_thrown m_layers m_pieces m_airSquare m_airLow m_airHigh m_there m_low m_high m_x m_y m_w m_h m_r out) A) args s 0 0 A) (w_M_findLabels cy A_m A_m_there A_m_low A_m_high A_m_x A_m_y A_m_w A_m_h A_m_r A_m_pinOf A_m_netOfPin A_m_label A_m_number A_m_group m_thrown m_layers m_pieces m_airSquare m_airLow m_airHigh m_there m_low m_high m_x m_y m_w m_h m_r m_label) 2 [(0, .ref A_m), (1, .int v1)] []) (m_pieces : Int32) (m_there : Nat → Int32) (m_low : Nat → Int32) (m_high : Nat → Int32) (m_x : Nat → Int64) (m_y : Nat → Int64) (m_w : Nat → Int64) (m_h : Nat → Int64) (m_r : Nat → Int64) (m_label : Nat → Int32) (v1 : Int32) (s1 : Int32) (s2 : Int32) (hF : F_M_findLabels_29 k_2 m_pieces m_there m_low m_high m_x m_y m_w m_h m_r m_label v1 s1 s2 = some out) : cg p l e r_M_findLabels s m args below meth c D (va_S A s.heap) A 5 0 0 (MQ below (cn_QW none D (w_M_findLabels cy A_m A_m_there A_m_low A_m_high A_m_x A_m_y A_m_w A_m_h A_m_r A_m_pinOf A_m_netOfPin A_m_label A_m_number A_m_group m_thrown m_layers m_pieces m_airSquare m_airLow m_airHigh m_there m_low m_high m_x m_y m_w m_h m_r out) A) args s 0 0 A) (w_M_findLabels cy A_m A_m_there A_m_low A_m_high A_m_x A_m_y A_m_w A_m_h A_m_r A_m_pinOf A_m_netOfPin A_m_label A_m_number A_m_group m_thrown m_layers m_pieces m_airSquare m_airLow m_airHigh m_there m_low m_high m_x m_y m_w m_h m_r m_label) 29 [(0, .ref A_m), (1, .int v1)] [.int s2, .int s1, .ref A_m_label] := by
  obtain ⟨i_1, hF⟩ := cn_rd_some hF
  refine cg_iast (ws' := w_M_findLabels cy A_m A_m_there A_m_low A_m_high A_m_x A_m_y A_m_w A_m_h A_m_r A_m_pinOf A_m_netOfPin A_m_label A_m_number A_m_group m_thrown m_layers m_pieces m_airSquare m_airLow m_airHigh m_there m_low m_high m_x m_y m_w m_h m_r (upd m_label (Int32.toNatClampNeg s1) s2)) C 9 d_M_findLabels_29 rfl i_1 rfl ?_
  refine cg_iinc (v := v1 + 1) (lv' := [(1, .int (v1 + 1)), (0, .ref A_m)]) C d_M_findLabels_30 1 rfl (by decide) rfl rfl ?_
  refine cg_goto C 2 d_M_findLabels_33 (by decide) ?_
  refine cg_sub (lv' := [(0, .ref A_m), (1, .int (v1 + 1))]) [1, 0] rfl ?_
  exact hk_2 m_pieces m_there m_low m_high m_x m_y m_w m_h m_r (upd m_label (Int32.toNatClampNeg s1) s2) (v1 + 1) hF
def F_M_findLabels_138 (k_38 : Int32 → (Nat → Int32) → (Nat → Int32) → (Nat → Int32) → (Nat → Int64) → (Nat → Int64) → (Nat → Int64) → (Nat → Int64) → (Nat → Int64) → (Nat → Int32) → Int32 → Option ((Nat → Int32))) (k_46 : Int32 → (Nat → Int32) → (Nat → Int32) → (Nat → Int32) → (Nat → Int64) → (Nat → Int64) → (Nat → Int64) → (Nat → Int64) → (Nat → Int64) → (Nat → Int32) → Int32 → Int32 → Option ((Nat → Int32))) (k_56 : Int32 → (Nat → Int32) → (Nat → Int32) → (Nat → Int32) → (Nat → Int64) → (Nat → Int64) → (Nat → Int64) → (Nat → Int64) → (Nat → Int64) → (Nat → Int32) → Int32 → Int32 → Int32 → Option ((Nat → Int32))) (m_pieces : Int32) (m_there : Nat → Int32) (m_low : Nat → Int32) (m_high : Nat → Int32) (m_x : Nat → Int64) (m_y : Nat → Int64) (m_w : Nat → Int64) (m_h : Nat → Int64) (m_r : Nat → Int64) (m_label : Nat → Int32) (v1 : Int32) (v2 : Int32) (v3 : Int32) : Option ((Nat → Int32)) := k_56 m_pieces m_there m_low m_high m_x m_y m_w m_h m_r m_label v1 v2 (v3 + 1)
set_option maxRecDepth 100000 in
set_option maxHeartbeats 4000000 in
theorem t_M_findLabels_138 {p : Program} {l : Launch} {e : Env} {s : State} {m : MethodId} {args : Array Value} {below : List Frame} {meth : Method} {c : Code} {D : va_G} {cy : Nat → ClassId} {A : Nat → Prop} {out : (Nat → Int32)} (C : cn_X p s m args c b_M_findLabels 5 "CopperNetsModel" D cy) (hr : meth.sig.returnType = none) (hlk : meth.locks = false) (hA : ∀ q, s.heap.size ≤ q → A q) (A_m : Nat) (A_m_there : Nat) (A_m_low : Nat) (A_m_high : Nat) (A_m_x : Nat) (A_m_y : Nat) (A_m_w : Nat) (A_m_h : Nat) (A_m_r : Nat) (A_m_pinOf : Nat) (A_m_netOfPin : Nat) (A_m_label : Nat) (A_m_number : Nat) (A_m_group : Nat) (m_thrown : Int32) (m_layers : Int32) (m_airSquare : Int64) (m_airLow : Int32) (m_airHigh : Int32) (k_38 : Int32 → (Nat → Int32) → (Nat → Int32) → (Nat → Int32) → (Nat → Int64) → (Nat → Int64) → (Nat → Int64) → (Nat → Int64) → (Nat → Int64) → (Nat → Int32) → Int32 → Option ((Nat → Int32))) (hk_38 : ∀ (m_pieces : Int32) (m_there : Nat → Int32) (m_low : Nat → Int32) (m_high : Nat → Int32) (m_x : Nat → Int64) (m_y : Nat → Int64) (m_w : Nat → Int64) (m_h : Nat → Int64) (m_r : Nat → Int64) (m_label : Nat → Int32) (v1 : Int32), k_38 m_pieces m_there m_low m_high m_x m_y m_w m_h m_r m_label v1 = some out → cg p l e r_M_findLabels s m args below meth c D (va_S A s.heap) A 5 0 0 (MQ below (cn_QW none D (w_M_findLabels cy A_m A_m_there A_m_low A_m_high A_m_x A_m_y A_m_w A_m_h A_m_r A_m_pinOf A_m_netOfPin A_m_label A_m_number A_m_group m_thrown m_layers m_pieces m_airSquare m_airLow m_airHigh m_there m_low m_high m_x m_y m_w m_h m_r out) A) args s 0 0 A) (w_M_findLabels cy A_m A_m_there A_m_low A_m_high A_m_x A_m_y A_m_w A_m_h A_m_r A_m_pinOf A_m_netOfPin A_m_label A_m_number A_m_group m_thrown m_layers m_pieces m_airSquare m_airLow m_airHigh m_there m_low m_high m_x m_y m_w m_h m_r m_label) 38 [(0, .ref A_m), (1, .int v1)] []) (k_46 : Int32 → (Nat → Int32) → (Nat → Int32) → (Nat → Int32) → (Nat → Int64) → (Nat → Int64) → (Nat → Int64) → (Nat → Int64) → (Nat → Int64) → (Nat → Int32) → Int32 → Int32 → Option ((Nat → Int32))) (hk_46 : ∀ (m_pieces : Int32) (m_there : Nat → Int32) (m_low : Nat → Int32) (m_high : Nat → Int32) (m_x : Nat → Int64) (m_y : Nat → Int64) (m_w : Nat → Int64) (m_h : Nat → Int64) (m_r : Nat → Int64) (m_label : Nat → Int32) (v1 : Int32) (v2 : Int32), k_46 m_pieces m_there m_low m_high m_x m_y m_w m_h m_r m_label v1 v2 = some out → cg p l e r_M_findLabels s m args below meth c D (va_S A s.heap) A 5 0 0 (MQ below (cn_QW none D (w_M_findLabels cy A_m A_m_there A_m_low A_m_high A_m_x A_m_y A_m_w A_m_h A_m_r A_m_pinOf A_m_netOfPin A_m_label A_m_number A_m_group m_thrown m_layers m_pieces m_airSquare m_airLow m_airHigh m_there m_low m_high m_x m_y m_w m_h m_r out) A) args s 0 0 A) (w_M_findLabels cy A_m A_m_there A_m_low A_m_high A_m_x A_m_y A_m_w A_m_h A_m_r A_m_pinOf A_m_netOfPin A_m_label A_m_number A_m_group m_thrown m_layers m_pieces m_airSquare m_airLow m_airHigh m_there m_low m_high m_x m_y m_w m_h m_r m_label) 46 [(0, .ref A_m), (1, .int v1), (2, .int v2)] []) (k_56 : Int32 → (Nat → Int32) → (Nat → Int32) → (Nat → Int32) → (Nat → Int64) → (Nat → Int64) → (Nat → Int64) → (Nat → Int64) → (Nat → Int64) → (Nat → Int32) → Int32 → Int32 → Int32 → Option ((Nat → Int32))) (hk_56 : ∀ (m_pieces : Int32) (m_there : Nat → Int32) (m_low : Nat → Int32) (m_high : Nat → Int32) (m_x : Nat → Int64) (m_y : Nat → Int64) (m_w : Nat → Int64) (m_h : Nat → Int64) (m_r : Nat → Int64) (m_label : Nat → Int32) (v1 : Int32) (v2 : Int32) (v3 : Int32), k_56 m_pieces m_there m_low m_high m_x m_y m_w m_h m_r m_label v1 v2 v3 = some out → cg p l e r_M_findLabels s m args below meth c D (va_S A s.heap) A 5 0 0 (MQ below (cn_QW none D (w_M_findLabels cy A_m A_m_there A_m_low A_m_high A_m_x A_m_y A_m_w A_m_h A_m_r A_m_pinOf A_m_netOfPin A_m_label A_m_number A_m_group m_thrown m_layers m_pieces m_airSquare m_airLow m_airHigh m_there m_low m_high m_x m_y m_w m_h m_r out) A) args s 0 0 A) (w_M_findLabels cy A_m A_m_there A_m_low A_m_high A_m_x A_m_y A_m_w A_m_h A_m_r A_m_pinOf A_m_netOfPin A_m_label A_m_number A_m_group m_thrown m_layers m_pieces m_airSquare m_airLow m_airHigh m_there m_low m_high m_x m_y m_w m_h m_r m_label) 56 [(0, .ref A_m), (1, .int v1), (2, .int v2), (3, .int v3)] []) (m_pieces : Int32) (m_there : Nat → Int32) (m_low : Nat → Int32) (m_high : Nat → Int32) (m_x : Nat → Int64) (m_y : Nat → Int64) (m_w : Nat → Int64) (m_h : Nat → Int64) (m_r : Nat → Int64) (m_label : Nat → Int32) (v1 : Int32) (v2 : Int32) (v3 : Int32) (hF : F_M_findLabels_138 k_38 k_46 k_56 m_pieces m_there m_low m_high m_x m_y m_w m_h m_r m_label v1 v2 v3 = some out) : cg p l e r_M_findLabels s m args below meth c D (va_S A s.heap) A 5 0 0 (MQ below (cn_QW none D (w_M_findLabels cy A_m A_m_there A_m_low A_m_high A_m_x A_m_y A_m_w A_m_h A_m_r A_m_pinOf A_m_netOfPin A_m_label A_m_number A_m_group m_thrown m_layers m_pieces m_airSquare m_airLow m_airHigh m_there m_low m_high m_x m_y m_w m_h m_r out) A) args s 0 0 A) (w_M_findLabels cy A_m A_m_there A_m_low A_m_high A_m_x A_m_y A_m_w A_m_h A_m_r A_m_pinOf A_m_netOfPin A_m_label A_m_number A_m_group m_thrown m_layers m_pieces m_airSquare m_airLow m_airHigh m_there m_low m_high m_x m_y m_w m_h m_r m_label) 138 [(0, .ref A_m), (1, .int v1), (2, .int v2), (3, .int v3)] [] := by
  refine cg_iinc (v := v3 + 1) (lv' := [(3, .int (v3 + 1)), (0, .ref A_m), (1, .int v1), (2, .int v2)]) C d_M_findLabels_138 3 rfl (by decide) rfl rfl ?_
  refine cg_goto C 56 d_M_findLabels_141 (by decide) ?_
  refine cg_sub (lv' := [(0, .ref A_m), (1, .int v1), (2, .int v2), (3, .int (v3 + 1))]) [1, 2, 3, 0] rfl ?_
  exact hk_56 m_pieces m_there m_low m_high m_x m_y m_w m_h m_r m_label v1 v2 (v3 + 1) hF
def F_M_findLabels_118 (k_38 : Int32 → (Nat → Int32) → (Nat → Int32) → (Nat → Int32) → (Nat → Int64) → (Nat → Int64) → (Nat → Int64) → (Nat → Int64) → (Nat → Int64) → (Nat → Int32) → Int32 → Option ((Nat → Int32))) (k_46 : Int32 → (Nat → Int32) → (Nat → Int32) → (Nat → Int32) → (Nat → Int64) → (Nat → Int64) → (Nat → Int64) → (Nat → Int64) → (Nat → Int64) → (Nat → Int32) → Int32 → Int32 → Option ((Nat → Int32))) (k_56 : Int32 → (Nat → Int32) → (Nat → Int32) → (Nat → Int32) → (Nat → Int64) → (Nat → Int64) → (Nat → Int64) → (Nat → Int64) → (Nat → Int64) → (Nat → Int32) → Int32 → Int32 → Int32 → Option ((Nat → Int32))) (m_pieces : Int32) (m_there : Nat → Int32) (m_low : Nat → Int32) (m_high : Nat → Int32) (m_x : Nat → Int64) (m_y : Nat → Int64) (m_w : Nat → Int64) (m_h : Nat → Int64) (m_r : Nat → Int64) (m_label : Nat → Int32) (v2 : Int32) (v3 : Int32) (s0 : Int32) : Option ((Nat → Int32)) := cn_rd v2 60 (cn_rd v3 60 (F_M_findLabels_138 k_38 k_46 k_56 m_pieces m_there m_low m_high m_x m_y m_w m_h m_r (upd (upd m_label (Int32.toNatClampNeg v2) s0) (Int32.toNatClampNeg v3) s0) 1 v2 v3))
set_option maxRecDepth 100000 in
set_option maxHeartbeats 4000000 in
theorem t_M_findLabels_118 {p : Program} {l : Launch} {e : Env} {s : State} {m : MethodId} {args : Array Value} {below : List Frame} {meth : Method} {c : Code} {D : va_G} {cy : Nat → ClassId} {A : Nat → Prop} {out : (Nat → Int32)} (C : cn_X p s m args c b_M_findLabels 5 "CopperNetsModel" D cy) (hr : meth.sig.returnType = none) (hlk : meth.locks = false) (hA : ∀ q, s.heap.size ≤ q → A q) (A_m : Nat) (A_m_there : Nat) (A_m_low : Nat) (A_m_high : Nat) (A_m_x : Nat) (A_m_y : Nat) (A_m_w : Nat) (A_m_h : Nat) (A_m_r : Nat) (A_m_pinOf : Nat) (A_m_netOfPin : Nat) (A_m_label : Nat) (A_m_number : Nat) (A_m_group : Nat) (m_thrown : Int32) (m_layers : Int32) (m_airSquare : Int64) (m_airLow : Int32) (m_airHigh : Int32) (k_38 : Int32 → (Nat → Int32) → (Nat → Int32) → (Nat → Int32) → (Nat → Int64) → (Nat → Int64) → (Nat → Int64) → (Nat → Int64) → (Nat → Int64) → (Nat → Int32) → Int32 → Option ((Nat → Int32))) (hk_38 : ∀ (m_pieces : Int32) (m_there : Nat → Int32) (m_low : Nat → Int32) (m_high : Nat → Int32) (m_x : Nat → Int64) (m_y : Nat → Int64) (m_w : Nat → Int64) (m_h : Nat → Int64) (m_r : Nat → Int64) (m_label : Nat → Int32) (v1 : Int32), k_38 m_pieces m_there m_low m_high m_x m_y m_w m_h m_r m_label v1 = some out → cg p l e r_M_findLabels s m args below meth c D (va_S A s.heap) A 5 0 0 (MQ below (cn_QW none D (w_M_findLabels cy A_m A_m_there A_m_low A_m_high A_m_x A_m_y A_m_w A_m_h A_m_r A_m_pinOf A_m_netOfPin A_m_label A_m_number A_m_group m_thrown m_layers m_pieces m_airSquare m_airLow m_airHigh m_there m_low m_high m_x m_y m_w m_h m_r out) A) args s 0 0 A) (w_M_findLabels cy A_m A_m_there A_m_low A_m_high A_m_x A_m_y A_m_w A_m_h A_m_r A_m_pinOf A_m_netOfPin A_m_label A_m_number A_m_group m_thrown m_layers m_pieces m_airSquare m_airLow m_airHigh m_there m_low m_high m_x m_y m_w m_h m_r m_label) 38 [(0, .ref A_m), (1, .int v1)] []) (k_46 : Int32 → (Nat → Int32) → (Nat → Int32) → (Nat → Int32) → (Nat → Int64) → (Nat → Int64) → (Nat → Int64) → (Nat → Int64) → (Nat → Int64) → (Nat → Int32) → Int32 → Int32 → Option ((Nat → Int32))) (hk_46 : ∀ (m_pieces : Int32) (m_there : Nat → Int32) (m_low : Nat → Int32) (m_high : Nat → Int32) (m_x : Nat → Int64) (m_y : Nat → Int64) (m_w : Nat → Int64) (m_h : Nat → Int64) (m_r : Nat → Int64) (m_label : Nat → Int32) (v1 : Int32) (v2 : Int32), k_46 m_pieces m_there m_low m_high m_x m_y m_w m_h m_r m_label v1 v2 = some out → cg p l e r_M_findLabels s m args below meth c D (va_S A s.heap) A 5 0 0 (MQ below (cn_QW none D (w_M_findLabels cy A_m A_m_there A_m_low A_m_high A_m_x A_m_y A_m_w A_m_h A_m_r A_m_pinOf A_m_netOfPin A_m_label A_m_number A_m_group m_thrown m_layers m_pieces m_airSquare m_airLow m_airHigh m_there m_low m_high m_x m_y m_w m_h m_r out) A) args s 0 0 A) (w_M_findLabels cy A_m A_m_there A_m_low A_m_high A_m_x A_m_y A_m_w A_m_h A_m_r A_m_pinOf A_m_netOfPin A_m_label A_m_number A_m_group m_thrown m_layers m_pieces m_airSquare m_airLow m_airHigh m_there m_low m_high m_x m_y m_w m_h m_r m_label) 46 [(0, .ref A_m), (1, .int v1), (2, .int v2)] []) (k_56 : Int32 → (Nat → Int32) → (Nat → Int32) → (Nat → Int32) → (Nat → Int64) → (Nat → Int64) → (Nat → Int64) → (Nat → Int64) → (Nat → Int64) → (Nat → Int32) → Int32 → Int32 → Int32 → Option ((Nat → Int32))) (hk_56 : ∀ (m_pieces : Int32) (m_there : Nat → Int32) (m_low : Nat → Int32) (m_high : Nat → Int32) (m_x : Nat → Int64) (m_y : Nat → Int64) (m_w : Nat → Int64) (m_h : Nat → Int64) (m_r : Nat → Int64) (m_label : Nat → Int32) (v1 : Int32) (v2 : Int32) (v3 : Int32), k_56 m_pieces m_there m_low m_high m_x m_y m_w m_h m_r m_label v1 v2 v3 = some out → cg p l e r_M_findLabels s m args below meth c D (va_S A s.heap) A 5 0 0 (MQ below (cn_QW none D (w_M_findLabels cy A_m A_m_there A_m_low A_m_high A_m_x A_m_y A_m_w A_m_h A_m_r A_m_pinOf A_m_netOfPin A_m_label A_m_number A_m_group m_thrown m_layers m_pieces m_airSquare m_airLow m_airHigh m_there m_low m_high m_x m_y m_w m_h m_r out) A) args s 0 0 A) (w_M_findLabels cy A_m A_m_there A_m_low A_m_high A_m_x A_m_y A_m_w A_m_h A_m_r A_m_pinOf A_m_netOfPin A_m_label A_m_number A_m_group m_thrown m_layers m_pieces m_airSquare m_airLow m_airHigh m_there m_low m_high m_x m_y m_w m_h m_r m_label) 56 [(0, .ref A_m), (1, .int v1), (2, .int v2), (3, .int v3)] []) (m_pieces : Int32) (m_there : Nat → Int32) (m_low : Nat → Int32) (m_high : Nat → Int32) (m_x : Nat → Int64) (m_y : Nat → Int64) (m_w : Nat → Int64) (m_h : Nat → Int64) (m_r : Nat → Int64) (m_label : Nat → Int32) (v2 : Int32) (v3 : Int32) (s0 : Int32) (hF : F_M_findLabels_118 k_38 k_46 k_56 m_pieces m_there m_low m_high m_x m_y m_w m_h m_r m_label v2 v3 s0 = some out) : cg p l e r_M_findLabels s m args below meth c D (va_S A s.heap) A 5 0 0 (MQ below (cn_QW none D (w_M_findLabels cy A_m A_m_there A_m_low A_m_high A_m_x A_m_y A_m_w A_m_h A_m_r A_m_pinOf A_m_netOfPin A_m_label A_m_number A_m_group m_thrown m_layers m_pieces m_airSquare m_airLow m_airHigh m_there m_low m_high m_x m_y m_w m_h m_r out) A) args s 0 0 A) (w_M_findLabels cy A_m A_m_there A_m_low A_m_high A_m_x A_m_y A_m_w A_m_h A_m_r A_m_pinOf A_m_netOfPin A_m_label A_m_number A_m_group m_thrown m_layers m_pieces m_airSquare m_airLow m_airHigh m_there m_low m_high m_x m_y m_w m_h m_r m_label) 118 [(0, .ref A_m), (2, .int v2), (3, .int v3)] [.int s0] := by
  refine cg_istore (lv' := [(4, .int s0), (0, .ref A_m), (2, .int v2), (3, .int v3)]) C d_M_findLabels_118 (by decide) rfl ?_
  refine cg_aload_n C d_M_findLabels_120 1 rfl ?_
  refine cg_get C 0 13 d_M_findLabels_121 rfl rfl hin_M (by decide) rfl tw_564 rfl ?_
  refine cg_iload_n C d_M_findLabels_124 2 rfl ?_
  refine cg_iload C d_M_findLabels_125 0 rfl ?_
  obtain ⟨i_2, hF⟩ := cn_rd_some hF
  refine cg_iast (ws' := w_M_findLabels cy A_m A_m_there A_m_low A_m_high A_m_x A_m_y A_m_w A_m_h A_m_r A_m_pinOf A_m_netOfPin A_m_label A_m_number A_m_group m_thrown m_layers m_pieces m_airSquare m_airLow m_airHigh m_there m_low m_high m_x m_y m_w m_h m_r (upd m_label (Int32.toNatClampNeg v2) s0)) C 9 d_M_findLabels_127 rfl i_2 rfl ?_
  refine cg_aload_n C d_M_findLabels_128 1 rfl ?_
  refine cg_get C 0 13 d_M_findLabels_129 rfl rfl hin_M (by decide) rfl tw_564 rfl ?_
  refine cg_iload_n C d_M_findLabels_132 3 rfl ?_
  refine cg_iload C d_M_findLabels_133 0 rfl ?_
  obtain ⟨i_3, hF⟩ := cn_rd_some hF
  refine cg_iast (ws' := w_M_findLabels cy A_m A_m_there A_m_low A_m_high A_m_x A_m_y A_m_w A_m_h A_m_r A_m_pinOf A_m_netOfPin A_m_label A_m_number A_m_group m_thrown m_layers m_pieces m_airSquare m_airLow m_airHigh m_there m_low m_high m_x m_y m_w m_h m_r (upd (upd m_label (Int32.toNatClampNeg v2) s0) (Int32.toNatClampNeg v3) s0)) C 9 d_M_findLabels_135 rfl i_3 rfl ?_
  refine cg_iconst (v := 1) C d_M_findLabels_136 (by decide) ?_
  refine cg_istore_n (lv' := [(1, .int 1), (4, .int s0), (0, .ref A_m), (2, .int v2), (3, .int v3)]) C d_M_findLabels_137 (by decide) rfl ?_
  refine cg_sub (lv' := [(0, .ref A_m), (1, .int 1), (2, .int v2), (3, .int v3)]) [2, 0, 3, 4] rfl ?_
  exact t_M_findLabels_138 C hr hlk hA A_m A_m_there A_m_low A_m_high A_m_x A_m_y A_m_w A_m_h A_m_r A_m_pinOf A_m_netOfPin A_m_label A_m_number A_m_group m_thrown m_layers m_airSquare m_airLow m_airHigh k_38 hk_38 k_46 hk_46 k_56 hk_56 m_pieces m_there m_low m_high m_x m_y m_w m_h m_r (upd (upd m_label (Int32.toNatClampNeg v2) s0) (Int32.toNatClampNeg v3) s0) 1 v2 v3 hF
def F_M_findLabels_56 (k_38 : Int32 → (Nat → Int32) → (Nat → Int32) → (Nat → Int32) → (Nat → Int64) → (Nat → Int64) → (Nat → Int64) → (Nat → Int64) → (Nat → Int64) → (Nat → Int32) → Int32 → Option ((Nat → Int32))) (k_46 : Int32 → (Nat → Int32) → (Nat → Int32) → (Nat → Int32) → (Nat → Int64) → (Nat → Int64) → (Nat → Int64) → (Nat → Int64) → (Nat → Int64) → (Nat → Int32) → Int32 → Int32 → Option ((Nat → Int32))) : Nat → Int32 → (Nat → Int32) → (Nat → Int32) → (Nat → Int32) → (Nat → Int64) → (Nat → Int64) → (Nat → Int64) → (Nat → Int64) → (Nat → Int64) → (Nat → Int32) → Int32 → Int32 → Int32 → Option ((Nat → Int32))
  | 0, _, _, _, _, _, _, _, _, _, _, _, _, _ => none
  | n + 1, m_pieces, m_there, m_low, m_high, m_x, m_y, m_w, m_h, m_r, m_label, v1, v2, v3 => if v2 ≤ v3 then (k_46 m_pieces m_there m_low m_high m_x m_y m_w m_h m_r m_label v1 (v2 + 1)) else (cn_rd v2 60 (cn_rd v3 60 (if (m_label (Int32.toNatClampNeg v2)) = (m_label (Int32.toNatClampNeg v3)) then (F_M_findLabels_138 k_38 k_46 (F_M_findLabels_56 k_38 k_46 n) m_pieces m_there m_low m_high m_x m_y m_w m_h m_r m_label v1 v2 v3) else ((F_M_touch m_there m_low m_high m_x m_y m_w m_h m_r v2 v3).bind fun t_9 => if t_9 = 0 then (F_M_findLabels_138 k_38 k_46 (F_M_findLabels_56 k_38 k_46 n) m_pieces m_there m_low m_high m_x m_y m_w m_h m_r m_label v1 v2 v3) else (cn_rd v2 60 (cn_rd v3 60 (if (m_label (Int32.toNatClampNeg v3)) ≤ (m_label (Int32.toNatClampNeg v2)) then (cn_rd v3 60 (F_M_findLabels_118 k_38 k_46 (F_M_findLabels_56 k_38 k_46 n) m_pieces m_there m_low m_high m_x m_y m_w m_h m_r m_label v2 v3 (m_label (Int32.toNatClampNeg v3)))) else (cn_rd v2 60 (F_M_findLabels_118 k_38 k_46 (F_M_findLabels_56 k_38 k_46 n) m_pieces m_there m_low m_high m_x m_y m_w m_h m_r m_label v2 v3 (m_label (Int32.toNatClampNeg v2)))))))))))
set_option maxRecDepth 100000 in
set_option maxHeartbeats 4000000 in
theorem t_M_findLabels_56 {p : Program} {l : Launch} {e : Env} {s : State} {m : MethodId} {args : Array Value} {below : List Frame} {meth : Method} {c : Code} {D : va_G} {cy : Nat → ClassId} {A : Nat → Prop} {out : (Nat → Int32)} (C : cn_X p s m args c b_M_findLabels 5 "CopperNetsModel" D cy) (hr : meth.sig.returnType = none) (hlk : meth.locks = false) (hA : ∀ q, s.heap.size ≤ q → A q) (A_m : Nat) (A_m_there : Nat) (A_m_low : Nat) (A_m_high : Nat) (A_m_x : Nat) (A_m_y : Nat) (A_m_w : Nat) (A_m_h : Nat) (A_m_r : Nat) (A_m_pinOf : Nat) (A_m_netOfPin : Nat) (A_m_label : Nat) (A_m_number : Nat) (A_m_group : Nat) (m_thrown : Int32) (m_layers : Int32) (m_airSquare : Int64) (m_airLow : Int32) (m_airHigh : Int32) (k_38 : Int32 → (Nat → Int32) → (Nat → Int32) → (Nat → Int32) → (Nat → Int64) → (Nat → Int64) → (Nat → Int64) → (Nat → Int64) → (Nat → Int64) → (Nat → Int32) → Int32 → Option ((Nat → Int32))) (hk_38 : ∀ (m_pieces : Int32) (m_there : Nat → Int32) (m_low : Nat → Int32) (m_high : Nat → Int32) (m_x : Nat → Int64) (m_y : Nat → Int64) (m_w : Nat → Int64) (m_h : Nat → Int64) (m_r : Nat → Int64) (m_label : Nat → Int32) (v1 : Int32), k_38 m_pieces m_there m_low m_high m_x m_y m_w m_h m_r m_label v1 = some out → cg p l e r_M_findLabels s m args below meth c D (va_S A s.heap) A 5 0 0 (MQ below (cn_QW none D (w_M_findLabels cy A_m A_m_there A_m_low A_m_high A_m_x A_m_y A_m_w A_m_h A_m_r A_m_pinOf A_m_netOfPin A_m_label A_m_number A_m_group m_thrown m_layers m_pieces m_airSquare m_airLow m_airHigh m_there m_low m_high m_x m_y m_w m_h m_r out) A) args s 0 0 A) (w_M_findLabels cy A_m A_m_there A_m_low A_m_high A_m_x A_m_y A_m_w A_m_h A_m_r A_m_pinOf A_m_netOfPin A_m_label A_m_number A_m_group m_thrown m_layers m_pieces m_airSquare m_airLow m_airHigh m_there m_low m_high m_x m_y m_w m_h m_r m_label) 38 [(0, .ref A_m), (1, .int v1)] []) (k_46 : Int32 → (Nat → Int32) → (Nat → Int32) → (Nat → Int32) → (Nat → Int64) → (Nat → Int64) → (Nat → Int64) → (Nat → Int64) → (Nat → Int64) → (Nat → Int32) → Int32 → Int32 → Option ((Nat → Int32))) (hk_46 : ∀ (m_pieces : Int32) (m_there : Nat → Int32) (m_low : Nat → Int32) (m_high : Nat → Int32) (m_x : Nat → Int64) (m_y : Nat → Int64) (m_w : Nat → Int64) (m_h : Nat → Int64) (m_r : Nat → Int64) (m_label : Nat → Int32) (v1 : Int32) (v2 : Int32), k_46 m_pieces m_there m_low m_high m_x m_y m_w m_h m_r m_label v1 v2 = some out → cg p l e r_M_findLabels s m args below meth c D (va_S A s.heap) A 5 0 0 (MQ below (cn_QW none D (w_M_findLabels cy A_m A_m_there A_m_low A_m_high A_m_x A_m_y A_m_w A_m_h A_m_r A_m_pinOf A_m_netOfPin A_m_label A_m_number A_m_group m_thrown m_layers m_pieces m_airSquare m_airLow m_airHigh m_there m_low m_high m_x m_y m_w m_h m_r out) A) args s 0 0 A) (w_M_findLabels cy A_m A_m_there A_m_low A_m_high A_m_x A_m_y A_m_w A_m_h A_m_r A_m_pinOf A_m_netOfPin A_m_label A_m_number A_m_group m_thrown m_layers m_pieces m_airSquare m_airLow m_airHigh m_there m_low m_high m_x m_y m_w m_h m_r m_label) 46 [(0, .ref A_m), (1, .int v1), (2, .int v2)] []) : ∀ (n : Nat) (m_pieces : Int32) (m_there : Nat → Int32) (m_low : Nat → Int32) (m_high : Nat → Int32) (m_x : Nat → Int64) (m_y : Nat → Int64) (m_w : Nat → Int64) (m_h : Nat → Int64) (m_r : Nat → Int64) (m_label : Nat → Int32) (v1 : Int32) (v2 : Int32) (v3 : Int32), F_M_findLabels_56 k_38 k_46 n m_pieces m_there m_low m_high m_x m_y m_w m_h m_r m_label v1 v2 v3 = some out → cg p l e r_M_findLabels s m args below meth c D (va_S A s.heap) A 5 0 0 (MQ below (cn_QW none D (w_M_findLabels cy A_m A_m_there A_m_low A_m_high A_m_x A_m_y A_m_w A_m_h A_m_r A_m_pinOf A_m_netOfPin A_m_label A_m_number A_m_group m_thrown m_layers m_pieces m_airSquare m_airLow m_airHigh m_there m_low m_high m_x m_y m_w m_h m_r out) A) args s 0 0 A) (w_M_findLabels cy A_m A_m_there A_m_low A_m_high A_m_x A_m_y A_m_w A_m_h A_m_r A_m_pinOf A_m_netOfPin A_m_label A_m_number A_m_group m_thrown m_layers m_pieces m_airSquare m_airLow m_airHigh m_there m_low m_high m_x m_y m_w m_h m_r m_label) 56 [(0, .ref A_m), (1, .int v1), (2, .int v2), (3, .int v3)] [] := by
  intro n
  induction n with
  | zero => intro m_pieces m_there m_low m_high m_x m_y m_w m_h m_r m_label v1 v2 v3 hF; exact nomatch (show (none : Option ((Nat → Int32))) = some out from hF)
  | succ n ih =>
    intro m_pieces m_there m_low m_high m_x m_y m_w m_h m_r m_label v1 v2 v3 hF
    refine cg_iload_n C d_M_findLabels_56 3 rfl ?_
    refine cg_iload_n C d_M_findLabels_57 2 rfl ?_
    refine cg_icmp_ge C 144 d_M_findLabels_58 (by decide) (fun q_4 => ?_) (fun q_4 => ?_)
    · have hF := cn_pos q_4 hF
      refine cg_iinc (v := v2 + 1) (lv' := [(2, .int (v2 + 1)), (0, .ref A_m), (1, .int v1), (3, .int v3)]) C d_M_findLabels_144 2 rfl (by decide) rfl rfl ?_
      refine cg_goto C 46 d_M_findLabels_147 (by decide) ?_
      refine cg_sub (lv' := [(0, .ref A_m), (1, .int v1), (2, .int (v2 + 1))]) [1, 2, 0] rfl ?_
      exact hk_46 m_pieces m_there m_low m_high m_x m_y m_w m_h m_r m_label v1 (v2 + 1) hF
    · have hF := cn_neg q_4 hF
      refine cg_aload_n C d_M_findLabels_61 0 rfl ?_
      refine cg_get C 0 13 d_M_findLabels_62 rfl rfl hin_M (by decide) rfl tw_564 rfl ?_
      refine cg_iload_n C d_M_findLabels_65 2 rfl ?_
      obtain ⟨i_5, hF⟩ := cn_rd_some hF
      refine cg_iald C 9 d_M_findLabels_66 rfl i_5 ?_
      refine cg_aload_n C d_M_findLabels_67 0 rfl ?_
      refine cg_get C 0 13 d_M_findLabels_68 rfl rfl hin_M (by decide) rfl tw_564 rfl ?_
      refine cg_iload_n C d_M_findLabels_71 3 rfl ?_
      obtain ⟨i_6, hF⟩ := cn_rd_some hF
      refine cg_iald C 9 d_M_findLabels_72 rfl i_6 ?_
      refine cg_icmp_eq C 138 d_M_findLabels_73 (by decide) (fun q_7 => ?_) (fun q_7 => ?_)
      · have hF := cn_pos q_7 hF
        exact t_M_findLabels_138 C hr hlk hA A_m A_m_there A_m_low A_m_high A_m_x A_m_y A_m_w A_m_h A_m_r A_m_pinOf A_m_netOfPin A_m_label A_m_number A_m_group m_thrown m_layers m_airSquare m_airLow m_airHigh k_38 hk_38 k_46 hk_46 (F_M_findLabels_56 k_38 k_46 n) ih m_pieces m_there m_low m_high m_x m_y m_w m_h m_r m_label v1 v2 v3 hF
      · have hF := cn_neg q_7 hF
        refine cg_aload_n C d_M_findLabels_76 0 rfl ?_
        refine cg_iload_n C d_M_findLabels_77 2 rfl ?_
        refine cg_iload_n C d_M_findLabels_78 3 rfl ?_
        obtain ⟨t_9, h_8, hF⟩ := cn_bind hF
        refine cg_callRV C (c_M_touch A_m A_m_there A_m_low A_m_high A_m_x A_m_y A_m_w A_m_h A_m_r A_m_pinOf A_m_netOfPin A_m_label A_m_number A_m_group m_thrown m_layers m_pieces m_airSquare m_airLow m_airHigh m_there m_low m_high m_x m_y m_w m_h m_r v2 v3 h_8) [0, 1, 2, 3, 4, 5, 6, 7, 8] rfl (by decide) 0 rfl rfl d_M_findLabels_79 tw_671 tw_673 ts_47 tw_7 tw_674 hs_M_touch ⟨by decide, by decide⟩ rfl rfl ⟨by decide, by decide⟩ (Nat.le_of_ble_eq_true rfl) rfl rfl ?_
        refine cg_if_ne C 88 d_M_findLabels_82 (by decide) (fun q_10 => ?_) (fun q_10 => ?_)
        · have hF := cn_neg q_10 hF
          refine cg_aload_n C d_M_findLabels_88 0 rfl ?_
          refine cg_get C 0 13 d_M_findLabels_89 rfl rfl hin_M (by decide) rfl tw_564 rfl ?_
          refine cg_iload_n C d_M_findLabels_92 2 rfl ?_
          obtain ⟨i_11, hF⟩ := cn_rd_some hF
          refine cg_iald C 9 d_M_findLabels_93 rfl i_11 ?_
          refine cg_aload_n C d_M_findLabels_94 0 rfl ?_
          refine cg_get C 0 13 d_M_findLabels_95 rfl rfl hin_M (by decide) rfl tw_564 rfl ?_
          refine cg_iload_n C d_M_findLabels_98 3 rfl ?_
          obtain ⟨i_12, hF⟩ := cn_rd_some hF
          refine cg_iald C 9 d_M_findLabels_99 rfl i_12 ?_
          refine cg_icmp_ge C 112 d_M_findLabels_100 (by decide) (fun q_13 => ?_) (fun q_13 => ?_)
          · have hF := cn_pos q_13 hF
            refine cg_aload_n C d_M_findLabels_112 0 rfl ?_
            refine cg_get C 0 13 d_M_findLabels_113 rfl rfl hin_M (by decide) rfl tw_564 rfl ?_
            refine cg_iload_n C d_M_findLabels_116 3 rfl ?_
            obtain ⟨i_14, hF⟩ := cn_rd_some hF
            refine cg_iald C 9 d_M_findLabels_117 rfl i_14 ?_
            refine cg_sub (lv' := [(0, .ref A_m), (2, .int v2), (3, .int v3)]) [0, 2, 3] rfl ?_
            exact t_M_findLabels_118 C hr hlk hA A_m A_m_there A_m_low A_m_high A_m_x A_m_y A_m_w A_m_h A_m_r A_m_pinOf A_m_netOfPin A_m_label A_m_number A_m_group m_thrown m_layers m_airSquare m_airLow m_airHigh k_38 hk_38 k_46 hk_46 (F_M_findLabels_56 k_38 k_46 n) ih m_pieces m_there m_low m_high m_x m_y m_w m_h m_r m_label v2 v3 (m_label (Int32.toNatClampNeg v3)) hF
          · have hF := cn_neg q_13 hF
            refine cg_aload_n C d_M_findLabels_103 0 rfl ?_
            refine cg_get C 0 13 d_M_findLabels_104 rfl rfl hin_M (by decide) rfl tw_564 rfl ?_
            refine cg_iload_n C d_M_findLabels_107 2 rfl ?_
            obtain ⟨i_15, hF⟩ := cn_rd_some hF
            refine cg_iald C 9 d_M_findLabels_108 rfl i_15 ?_
            refine cg_goto C 118 d_M_findLabels_109 (by decide) ?_
            refine cg_sub (lv' := [(0, .ref A_m), (2, .int v2), (3, .int v3)]) [0, 2, 3] rfl ?_
            exact t_M_findLabels_118 C hr hlk hA A_m A_m_there A_m_low A_m_high A_m_x A_m_y A_m_w A_m_h A_m_r A_m_pinOf A_m_netOfPin A_m_label A_m_number A_m_group m_thrown m_layers m_airSquare m_airLow m_airHigh k_38 hk_38 k_46 hk_46 (F_M_findLabels_56 k_38 k_46 n) ih m_pieces m_there m_low m_high m_x m_y m_w m_h m_r m_label v2 v3 (m_label (Int32.toNatClampNeg v2)) hF
        · have hF := cn_pos q_10 hF
          refine cg_goto C 138 d_M_findLabels_85 (by decide) ?_
          exact t_M_findLabels_138 C hr hlk hA A_m A_m_there A_m_low A_m_high A_m_x A_m_y A_m_w A_m_h A_m_r A_m_pinOf A_m_netOfPin A_m_label A_m_number A_m_group m_thrown m_layers m_airSquare m_airLow m_airHigh k_38 hk_38 k_46 hk_46 (F_M_findLabels_56 k_38 k_46 n) ih m_pieces m_there m_low m_high m_x m_y m_w m_h m_r m_label v1 v2 v3 hF
def F_M_findLabels_46 (k_38 : Int32 → (Nat → Int32) → (Nat → Int32) → (Nat → Int32) → (Nat → Int64) → (Nat → Int64) → (Nat → Int64) → (Nat → Int64) → (Nat → Int64) → (Nat → Int32) → Int32 → Option ((Nat → Int32))) : Nat → Int32 → (Nat → Int32) → (Nat → Int32) → (Nat → Int32) → (Nat → Int64) → (Nat → Int64) → (Nat → Int64) → (Nat → Int64) → (Nat → Int64) → (Nat → Int32) → Int32 → Int32 → Option ((Nat → Int32))
  | 0, _, _, _, _, _, _, _, _, _, _, _, _ => none
  | n + 1, m_pieces, m_there, m_low, m_high, m_x, m_y, m_w, m_h, m_r, m_label, v1, v2 => if m_pieces ≤ v2 then (k_38 m_pieces m_there m_low m_high m_x m_y m_w m_h m_r m_label v1) else (F_M_findLabels_56 k_38 (F_M_findLabels_46 k_38 n) 4096 m_pieces m_there m_low m_high m_x m_y m_w m_h m_r m_label v1 v2 0)
set_option maxRecDepth 100000 in
set_option maxHeartbeats 4000000 in
theorem t_M_findLabels_46 {p : Program} {l : Launch} {e : Env} {s : State} {m : MethodId} {args : Array Value} {below : List Frame} {meth : Method} {c : Code} {D : va_G} {cy : Nat → ClassId} {A : Nat → Prop} {out : (Nat → Int32)} (C : cn_X p s m args c b_M_findLabels 5 "CopperNetsModel" D cy) (hr : meth.sig.returnType = none) (hlk : meth.locks = false) (hA : ∀ q, s.heap.size ≤ q → A q) (A_m : Nat) (A_m_there : Nat) (A_m_low : Nat) (A_m_high : Nat) (A_m_x : Nat) (A_m_y : Nat) (A_m_w : Nat) (A_m_h : Nat) (A_m_r : Nat) (A_m_pinOf : Nat) (A_m_netOfPin : Nat) (A_m_label : Nat) (A_m_number : Nat) (A_m_group : Nat) (m_thrown : Int32) (m_layers : Int32) (m_airSquare : Int64) (m_airLow : Int32) (m_airHigh : Int32) (k_38 : Int32 → (Nat → Int32) → (Nat → Int32) → (Nat → Int32) → (Nat → Int64) → (Nat → Int64) → (Nat → Int64) → (Nat → Int64) → (Nat → Int64) → (Nat → Int32) → Int32 → Option ((Nat → Int32))) (hk_38 : ∀ (m_pieces : Int32) (m_there : Nat → Int32) (m_low : Nat → Int32) (m_high : Nat → Int32) (m_x : Nat → Int64) (m_y : Nat → Int64) (m_w : Nat → Int64) (m_h : Nat → Int64) (m_r : Nat → Int64) (m_label : Nat → Int32) (v1 : Int32), k_38 m_pieces m_there m_low m_high m_x m_y m_w m_h m_r m_label v1 = some out → cg p l e r_M_findLabels s m args below meth c D (va_S A s.heap) A 5 0 0 (MQ below (cn_QW none D (w_M_findLabels cy A_m A_m_there A_m_low A_m_high A_m_x A_m_y A_m_w A_m_h A_m_r A_m_pinOf A_m_netOfPin A_m_label A_m_number A_m_group m_thrown m_layers m_pieces m_airSquare m_airLow m_airHigh m_there m_low m_high m_x m_y m_w m_h m_r out) A) args s 0 0 A) (w_M_findLabels cy A_m A_m_there A_m_low A_m_high A_m_x A_m_y A_m_w A_m_h A_m_r A_m_pinOf A_m_netOfPin A_m_label A_m_number A_m_group m_thrown m_layers m_pieces m_airSquare m_airLow m_airHigh m_there m_low m_high m_x m_y m_w m_h m_r m_label) 38 [(0, .ref A_m), (1, .int v1)] []) : ∀ (n : Nat) (m_pieces : Int32) (m_there : Nat → Int32) (m_low : Nat → Int32) (m_high : Nat → Int32) (m_x : Nat → Int64) (m_y : Nat → Int64) (m_w : Nat → Int64) (m_h : Nat → Int64) (m_r : Nat → Int64) (m_label : Nat → Int32) (v1 : Int32) (v2 : Int32), F_M_findLabels_46 k_38 n m_pieces m_there m_low m_high m_x m_y m_w m_h m_r m_label v1 v2 = some out → cg p l e r_M_findLabels s m args below meth c D (va_S A s.heap) A 5 0 0 (MQ below (cn_QW none D (w_M_findLabels cy A_m A_m_there A_m_low A_m_high A_m_x A_m_y A_m_w A_m_h A_m_r A_m_pinOf A_m_netOfPin A_m_label A_m_number A_m_group m_thrown m_layers m_pieces m_airSquare m_airLow m_airHigh m_there m_low m_high m_x m_y m_w m_h m_r out) A) args s 0 0 A) (w_M_findLabels cy A_m A_m_there A_m_low A_m_high A_m_x A_m_y A_m_w A_m_h A_m_r A_m_pinOf A_m_netOfPin A_m_label A_m_number A_m_group m_thrown m_layers m_pieces m_airSquare m_airLow m_airHigh m_there m_low m_high m_x m_y m_w m_h m_r m_label) 46 [(0, .ref A_m), (1, .int v1), (2, .int v2)] [] := by
  intro n
  induction n with
  | zero => intro m_pieces m_there m_low m_high m_x m_y m_w m_h m_r m_label v1 v2 hF; exact nomatch (show (none : Option ((Nat → Int32))) = some out from hF)
  | succ n ih =>
    intro m_pieces m_there m_low m_high m_x m_y m_w m_h m_r m_label v1 v2 hF
    refine cg_iload_n C d_M_findLabels_46 2 rfl ?_
    refine cg_aload_n C d_M_findLabels_47 0 rfl ?_
    refine cg_get C 0 2 d_M_findLabels_48 rfl rfl hin_M (by decide) rfl tw_553 rfl ?_
    refine cg_icmp_ge C 150 d_M_findLabels_51 (by decide) (fun q_17 => ?_) (fun q_17 => ?_)
    · have hF := cn_pos q_17 hF
      refine cg_goto C 38 d_M_findLabels_150 (by decide) ?_
      refine cg_sub (lv' := [(0, .ref A_m), (1, .int v1)]) [0, 1] rfl ?_
      exact hk_38 m_pieces m_there m_low m_high m_x m_y m_w m_h m_r m_label v1 hF
    · have hF := cn_neg q_17 hF
      refine cg_iconst (v := 0) C d_M_findLabels_54 (by decide) ?_
      refine cg_istore_n (lv' := [(3, .int 0), (0, .ref A_m), (1, .int v1), (2, .int v2)]) C d_M_findLabels_55 (by decide) rfl ?_
      refine cg_sub (lv' := [(0, .ref A_m), (1, .int v1), (2, .int v2), (3, .int 0)]) [1, 2, 3, 0] rfl ?_
      exact t_M_findLabels_56 C hr hlk hA A_m A_m_there A_m_low A_m_high A_m_x A_m_y A_m_w A_m_h A_m_r A_m_pinOf A_m_netOfPin A_m_label A_m_number A_m_group m_thrown m_layers m_airSquare m_airLow m_airHigh k_38 hk_38 (F_M_findLabels_46 k_38 n) ih 4096 m_pieces m_there m_low m_high m_x m_y m_w m_h m_r m_label v1 v2 0 hF
def F_M_findLabels_38 : Nat → Int32 → (Nat → Int32) → (Nat → Int32) → (Nat → Int32) → (Nat → Int64) → (Nat → Int64) → (Nat → Int64) → (Nat → Int64) → (Nat → Int64) → (Nat → Int32) → Int32 → Option ((Nat → Int32))
  | 0, _, _, _, _, _, _, _, _, _, _, _ => none
  | n + 1, m_pieces, m_there, m_low, m_high, m_x, m_y, m_w, m_h, m_r, m_label, v1 => if v1 = 0 then (some (m_label)) else (F_M_findLabels_46 (F_M_findLabels_38 n) 4096 m_pieces m_there m_low m_high m_x m_y m_w m_h m_r m_label 0 0)
set_option maxRecDepth 100000 in
set_option maxHeartbeats 4000000 in
theorem t_M_findLabels_38 {p : Program} {l : Launch} {e : Env} {s : State} {m : MethodId} {args : Array Value} {below : List Frame} {meth : Method} {c : Code} {D : va_G} {cy : Nat → ClassId} {A : Nat → Prop} {out : (Nat → Int32)} (C : cn_X p s m args c b_M_findLabels 5 "CopperNetsModel" D cy) (hr : meth.sig.returnType = none) (hlk : meth.locks = false) (hA : ∀ q, s.heap.size ≤ q → A q) (A_m : Nat) (A_m_there : Nat) (A_m_low : Nat) (A_m_high : Nat) (A_m_x : Nat) (A_m_y : Nat) (A_m_w : Nat) (A_m_h : Nat) (A_m_r : Nat) (A_m_pinOf : Nat) (A_m_netOfPin : Nat) (A_m_label : Nat) (A_m_number : Nat) (A_m_group : Nat) (m_thrown : Int32) (m_layers : Int32) (m_airSquare : Int64) (m_airLow : Int32) (m_airHigh : Int32) : ∀ (n : Nat) (m_pieces : Int32) (m_there : Nat → Int32) (m_low : Nat → Int32) (m_high : Nat → Int32) (m_x : Nat → Int64) (m_y : Nat → Int64) (m_w : Nat → Int64) (m_h : Nat → Int64) (m_r : Nat → Int64) (m_label : Nat → Int32) (v1 : Int32), F_M_findLabels_38 n m_pieces m_there m_low m_high m_x m_y m_w m_h m_r m_label v1 = some out → cg p l e r_M_findLabels s m args below meth c D (va_S A s.heap) A 5 0 0 (MQ below (cn_QW none D (w_M_findLabels cy A_m A_m_there A_m_low A_m_high A_m_x A_m_y A_m_w A_m_h A_m_r A_m_pinOf A_m_netOfPin A_m_label A_m_number A_m_group m_thrown m_layers m_pieces m_airSquare m_airLow m_airHigh m_there m_low m_high m_x m_y m_w m_h m_r out) A) args s 0 0 A) (w_M_findLabels cy A_m A_m_there A_m_low A_m_high A_m_x A_m_y A_m_w A_m_h A_m_r A_m_pinOf A_m_netOfPin A_m_label A_m_number A_m_group m_thrown m_layers m_pieces m_airSquare m_airLow m_airHigh m_there m_low m_high m_x m_y m_w m_h m_r m_label) 38 [(0, .ref A_m), (1, .int v1)] [] := by
  intro n
  induction n with
  | zero => intro m_pieces m_there m_low m_high m_x m_y m_w m_h m_r m_label v1 hF; exact nomatch (show (none : Option ((Nat → Int32))) = some out from hF)
  | succ n ih =>
    intro m_pieces m_there m_low m_high m_x m_y m_w m_h m_r m_label v1 hF
    refine cg_iload_n C d_M_findLabels_38 1 rfl ?_
    refine cg_if_eq C 153 d_M_findLabels_39 (by decide) (fun q_18 => ?_) (fun q_18 => ?_)
    · have hF := cn_pos q_18 hF
      obtain rfl := Option.some.inj hF
      exact cg_vretW C hr hlk d_M_findLabels_153
    · have hF := cn_neg q_18 hF
      refine cg_iconst (v := 0) C d_M_findLabels_42 (by decide) ?_
      refine cg_istore_n (lv' := [(1, .int 0), (0, .ref A_m)]) C d_M_findLabels_43 (by decide) rfl ?_
      refine cg_iconst (v := 0) C d_M_findLabels_44 (by decide) ?_
      refine cg_istore_n (lv' := [(2, .int 0), (1, .int 0), (0, .ref A_m)]) C d_M_findLabels_45 (by decide) rfl ?_
      refine cg_sub (lv' := [(0, .ref A_m), (1, .int 0), (2, .int 0)]) [2, 1, 0] rfl ?_
      exact t_M_findLabels_46 C hr hlk hA A_m A_m_there A_m_low A_m_high A_m_x A_m_y A_m_w A_m_h A_m_r A_m_pinOf A_m_netOfPin A_m_label A_m_number A_m_group m_thrown m_layers m_airSquare m_airLow m_airHigh (F_M_findLabels_38 n) ih 4096 m_pieces m_there m_low m_high m_x m_y m_w m_h m_r m_label 0 0 hF
def F_M_findLabels_2 : Nat → Int32 → (Nat → Int32) → (Nat → Int32) → (Nat → Int32) → (Nat → Int64) → (Nat → Int64) → (Nat → Int64) → (Nat → Int64) → (Nat → Int64) → (Nat → Int32) → Int32 → Option ((Nat → Int32))
  | 0, _, _, _, _, _, _, _, _, _, _, _ => none
  | n + 1, m_pieces, m_there, m_low, m_high, m_x, m_y, m_w, m_h, m_r, m_label, v1 => if m_pieces ≤ v1 then (F_M_findLabels_38 4096 m_pieces m_there m_low m_high m_x m_y m_w m_h m_r m_label 1) else (cn_rd v1 60 (if (m_there (Int32.toNatClampNeg v1)) = 0 then (F_M_findLabels_29 (F_M_findLabels_2 n) m_pieces m_there m_low m_high m_x m_y m_w m_h m_r m_label v1 v1 (-1)) else (F_M_findLabels_29 (F_M_findLabels_2 n) m_pieces m_there m_low m_high m_x m_y m_w m_h m_r m_label v1 v1 v1)))
set_option maxRecDepth 100000 in
set_option maxHeartbeats 4000000 in
theorem t_M_findLabels_2 {p : Program} {l : Launch} {e : Env} {s : State} {m : MethodId} {args : Array Value} {below : List Frame} {meth : Method} {c : Code} {D : va_G} {cy : Nat → ClassId} {A : Nat → Prop} {out : (Nat → Int32)} (C : cn_X p s m args c b_M_findLabels 5 "CopperNetsModel" D cy) (hr : meth.sig.returnType = none) (hlk : meth.locks = false) (hA : ∀ q, s.heap.size ≤ q → A q) (A_m : Nat) (A_m_there : Nat) (A_m_low : Nat) (A_m_high : Nat) (A_m_x : Nat) (A_m_y : Nat) (A_m_w : Nat) (A_m_h : Nat) (A_m_r : Nat) (A_m_pinOf : Nat) (A_m_netOfPin : Nat) (A_m_label : Nat) (A_m_number : Nat) (A_m_group : Nat) (m_thrown : Int32) (m_layers : Int32) (m_airSquare : Int64) (m_airLow : Int32) (m_airHigh : Int32) : ∀ (n : Nat) (m_pieces : Int32) (m_there : Nat → Int32) (m_low : Nat → Int32) (m_high : Nat → Int32) (m_x : Nat → Int64) (m_y : Nat → Int64) (m_w : Nat → Int64) (m_h : Nat → Int64) (m_r : Nat → Int64) (m_label : Nat → Int32) (v1 : Int32), F_M_findLabels_2 n m_pieces m_there m_low m_high m_x m_y m_w m_h m_r m_label v1 = some out → cg p l e r_M_findLabels s m args below meth c D (va_S A s.heap) A 5 0 0 (MQ below (cn_QW none D (w_M_findLabels cy A_m A_m_there A_m_low A_m_high A_m_x A_m_y A_m_w A_m_h A_m_r A_m_pinOf A_m_netOfPin A_m_label A_m_number A_m_group m_thrown m_layers m_pieces m_airSquare m_airLow m_airHigh m_there m_low m_high m_x m_y m_w m_h m_r out) A) args s 0 0 A) (w_M_findLabels cy A_m A_m_there A_m_low A_m_high A_m_x A_m_y A_m_w A_m_h A_m_r A_m_pinOf A_m_netOfPin A_m_label A_m_number A_m_group m_thrown m_layers m_pieces m_airSquare m_airLow m_airHigh m_there m_low m_high m_x m_y m_w m_h m_r m_label) 2 [(0, .ref A_m), (1, .int v1)] [] := by
  intro n
  induction n with
  | zero => intro m_pieces m_there m_low m_high m_x m_y m_w m_h m_r m_label v1 hF; exact nomatch (show (none : Option ((Nat → Int32))) = some out from hF)
  | succ n ih =>
    intro m_pieces m_there m_low m_high m_x m_y m_w m_h m_r m_label v1 hF
    refine cg_iload_n C d_M_findLabels_2 1 rfl ?_
    refine cg_aload_n C d_M_findLabels_3 0 rfl ?_
    refine cg_get C 0 2 d_M_findLabels_4 rfl rfl hin_M (by decide) rfl tw_553 rfl ?_
    refine cg_icmp_ge C 36 d_M_findLabels_7 (by decide) (fun q_19 => ?_) (fun q_19 => ?_)
    · have hF := cn_pos q_19 hF
      refine cg_iconst (v := 1) C d_M_findLabels_36 (by decide) ?_
      refine cg_istore_n (lv' := [(1, .int 1), (0, .ref A_m)]) C d_M_findLabels_37 (by decide) rfl ?_
      refine cg_sub (lv' := [(0, .ref A_m), (1, .int 1)]) [1, 0] rfl ?_
      exact t_M_findLabels_38 C hr hlk hA A_m A_m_there A_m_low A_m_high A_m_x A_m_y A_m_w A_m_h A_m_r A_m_pinOf A_m_netOfPin A_m_label A_m_number A_m_group m_thrown m_layers m_airSquare m_airLow m_airHigh 4096 m_pieces m_there m_low m_high m_x m_y m_w m_h m_r m_label 1 hF
    · have hF := cn_neg q_19 hF
      refine cg_aload_n C d_M_findLabels_10 0 rfl ?_
      refine cg_get C 0 13 d_M_findLabels_11 rfl rfl hin_M (by decide) rfl tw_564 rfl ?_
      refine cg_iload_n C d_M_findLabels_14 1 rfl ?_
      refine cg_aload_n C d_M_findLabels_15 0 rfl ?_
      refine cg_get C 0 3 d_M_findLabels_16 rfl rfl hin_M (by decide) rfl tw_554 rfl ?_
      refine cg_iload_n C d_M_findLabels_19 1 rfl ?_
      obtain ⟨i_20, hF⟩ := cn_rd_some hF
      refine cg_zald C 1 d_M_findLabels_20 rfl i_20 ?_
      refine cg_if_eq C 28 d_M_findLabels_21 (by decide) (fun q_21 => ?_) (fun q_21 => ?_)
      · have hF := cn_pos q_21 hF
        refine cg_iconst (v := (-1)) C d_M_findLabels_28 (by decide) ?_
        exact t_M_findLabels_29 C hr hlk hA A_m A_m_there A_m_low A_m_high A_m_x A_m_y A_m_w A_m_h A_m_r A_m_pinOf A_m_netOfPin A_m_label A_m_number A_m_group m_thrown m_layers m_airSquare m_airLow m_airHigh (F_M_findLabels_2 n) ih m_pieces m_there m_low m_high m_x m_y m_w m_h m_r m_label v1 v1 (-1) hF
      · have hF := cn_neg q_21 hF
        refine cg_iload_n C d_M_findLabels_24 1 rfl ?_
        refine cg_goto C 29 d_M_findLabels_25 (by decide) ?_
        exact t_M_findLabels_29 C hr hlk hA A_m A_m_there A_m_low A_m_high A_m_x A_m_y A_m_w A_m_h A_m_r A_m_pinOf A_m_netOfPin A_m_label A_m_number A_m_group m_thrown m_layers m_airSquare m_airLow m_airHigh (F_M_findLabels_2 n) ih m_pieces m_there m_low m_high m_x m_y m_w m_h m_r m_label v1 v1 v1 hF
def F_M_findLabels_0 (m_pieces : Int32) (m_there : Nat → Int32) (m_low : Nat → Int32) (m_high : Nat → Int32) (m_x : Nat → Int64) (m_y : Nat → Int64) (m_w : Nat → Int64) (m_h : Nat → Int64) (m_r : Nat → Int64) (m_label : Nat → Int32) : Option ((Nat → Int32)) := F_M_findLabels_2 4096 m_pieces m_there m_low m_high m_x m_y m_w m_h m_r m_label 0
set_option maxRecDepth 100000 in
set_option maxHeartbeats 4000000 in
theorem t_M_findLabels_0 {p : Program} {l : Launch} {e : Env} {s : State} {m : MethodId} {args : Array Value} {below : List Frame} {meth : Method} {c : Code} {D : va_G} {cy : Nat → ClassId} {A : Nat → Prop} {out : (Nat → Int32)} (C : cn_X p s m args c b_M_findLabels 5 "CopperNetsModel" D cy) (hr : meth.sig.returnType = none) (hlk : meth.locks = false) (hA : ∀ q, s.heap.size ≤ q → A q) (A_m : Nat) (A_m_there : Nat) (A_m_low : Nat) (A_m_high : Nat) (A_m_x : Nat) (A_m_y : Nat) (A_m_w : Nat) (A_m_h : Nat) (A_m_r : Nat) (A_m_pinOf : Nat) (A_m_netOfPin : Nat) (A_m_label : Nat) (A_m_number : Nat) (A_m_group : Nat) (m_thrown : Int32) (m_layers : Int32) (m_airSquare : Int64) (m_airLow : Int32) (m_airHigh : Int32) (m_pieces : Int32) (m_there : Nat → Int32) (m_low : Nat → Int32) (m_high : Nat → Int32) (m_x : Nat → Int64) (m_y : Nat → Int64) (m_w : Nat → Int64) (m_h : Nat → Int64) (m_r : Nat → Int64) (m_label : Nat → Int32) (hF : F_M_findLabels_0 m_pieces m_there m_low m_high m_x m_y m_w m_h m_r m_label = some out) : cg p l e r_M_findLabels s m args below meth c D (va_S A s.heap) A 5 0 0 (MQ below (cn_QW none D (w_M_findLabels cy A_m A_m_there A_m_low A_m_high A_m_x A_m_y A_m_w A_m_h A_m_r A_m_pinOf A_m_netOfPin A_m_label A_m_number A_m_group m_thrown m_layers m_pieces m_airSquare m_airLow m_airHigh m_there m_low m_high m_x m_y m_w m_h m_r out) A) args s 0 0 A) (w_M_findLabels cy A_m A_m_there A_m_low A_m_high A_m_x A_m_y A_m_w A_m_h A_m_r A_m_pinOf A_m_netOfPin A_m_label A_m_number A_m_group m_thrown m_layers m_pieces m_airSquare m_airLow m_airHigh m_there m_low m_high m_x m_y m_w m_h m_r m_label) 0 [(0, .ref A_m)] [] := by
  refine cg_iconst (v := 0) C d_M_findLabels_0 (by decide) ?_
  refine cg_istore_n (lv' := [(1, .int 0), (0, .ref A_m)]) C d_M_findLabels_1 (by decide) rfl ?_
  refine cg_sub (lv' := [(0, .ref A_m), (1, .int 0)]) [1, 0] rfl ?_
  exact t_M_findLabels_2 C hr hlk hA A_m A_m_there A_m_low A_m_high A_m_x A_m_y A_m_w A_m_h A_m_r A_m_pinOf A_m_netOfPin A_m_label A_m_number A_m_group m_thrown m_layers m_airSquare m_airLow m_airHigh 4096 m_pieces m_there m_low m_high m_x m_y m_w m_h m_r m_label 0 hF
abbrev F_M_findLabels (m_pieces : Int32) (m_there : Nat → Int32) (m_low : Nat → Int32) (m_high : Nat → Int32) (m_x : Nat → Int64) (m_y : Nat → Int64) (m_w : Nat → Int64) (m_h : Nat → Int64) (m_r : Nat → Int64) (m_label : Nat → Int32) : Option ((Nat → Int32)) := F_M_findLabels_0 m_pieces m_there m_low m_high m_x m_y m_w m_h m_r m_label
theorem c_M_findLabels {l : Launch} {D : va_G} {cy : Nat → ClassId} (A_m : Nat) (A_m_there : Nat) (A_m_low : Nat) (A_m_high : Nat) (A_m_x : Nat) (A_m_y : Nat) (A_m_w : Nat) (A_m_h : Nat) (A_m_r : Nat) (A_m_pinOf : Nat) (A_m_netOfPin : Nat) (A_m_label : Nat) (A_m_number : Nat) (A_m_group : Nat) (m_thrown : Int32) (m_layers : Int32) (m_pieces : Int32) (m_airSquare : Int64) (m_airLow : Int32) (m_airHigh : Int32) (m_there : Nat → Int32) (m_low : Nat → Int32) (m_high : Nat → Int32) (m_x : Nat → Int64) (m_y : Nat → Int64) (m_w : Nat → Int64) (m_h : Nat → Int64) (m_r : Nat → Int64) (m_label : Nat → Int32) {out : (Nat → Int32)} (hF : F_M_findLabels m_pieces m_there m_low m_high m_x m_y m_w m_h m_r m_label = some out) : cn_MW l y_M_findLabels b_M_findLabels 5 (none) r_M_findLabels D cy [.ref A_m] (w_M_findLabels cy A_m A_m_there A_m_low A_m_high A_m_x A_m_y A_m_w A_m_h A_m_r A_m_pinOf A_m_netOfPin A_m_label A_m_number A_m_group m_thrown m_layers m_pieces m_airSquare m_airLow m_airHigh m_there m_low m_high m_x m_y m_w m_h m_r m_label) none (w_M_findLabels cy A_m A_m_there A_m_low A_m_high A_m_x A_m_y A_m_w A_m_h A_m_r A_m_pinOf A_m_netOfPin A_m_label A_m_number A_m_group m_thrown m_layers m_pieces m_airSquare m_airLow m_airHigh m_there m_low m_high m_x m_y m_w m_h m_r out) 0 0 :=
  cn_MW.of (by decide +kernel) (Nat.le_of_ble_eq_true rfl) (fun p e s m below meth c A C hr hlk hA => t_M_findLabels_0 C hr hlk hA A_m A_m_there A_m_low A_m_high A_m_x A_m_y A_m_w A_m_h A_m_r A_m_pinOf A_m_netOfPin A_m_label A_m_number A_m_group m_thrown m_layers m_airSquare m_airLow m_airHigh m_pieces m_there m_low m_high m_x m_y m_w m_h m_r m_label hF)
/-! CopperNetsModel.findNets()I -/
abbrev r_M_findNets : Room := { frames := 3, cells := 0, slots := 0, locals := 79 }
abbrev w_M_findNets (cy : Nat → ClassId) (A_m : Nat) (A_m_there : Nat) (A_m_low : Nat) (A_m_high : Nat) (A_m_x : Nat) (A_m_y : Nat) (A_m_w : Nat) (A_m_h : Nat) (A_m_r : Nat) (A_m_pinOf : Nat) (A_m_netOfPin : Nat) (A_m_label : Nat) (A_m_number : Nat) (A_m_group : Nat) (m_thrown : Int32) (m_layers : Int32) (m_pieces : Int32) (m_airSquare : Int64) (m_airLow : Int32) (m_airHigh : Int32) (m_there : Nat → Int32) (m_low : Nat → Int32) (m_high : Nat → Int32) (m_x : Nat → Int64) (m_y : Nat → Int64) (m_w : Nat → Int64) (m_h : Nat → Int64) (m_r : Nat → Int64) (m_label : Nat → Int32) (m_number : Nat → Int32) : va_W := [(A_m, .inr (4, [.int m_thrown, .int m_layers, .int m_pieces, .ref A_m_there, .ref A_m_low, .ref A_m_high, .ref A_m_x, .ref A_m_y, .ref A_m_w, .ref A_m_h, .ref A_m_r, .ref A_m_pinOf, .ref A_m_netOfPin, .ref A_m_label, .ref A_m_number, .ref A_m_group, .long m_airSquare, .int m_airLow, .int m_airHigh])), (A_m_there, .inl (cy 2, 60, .inl m_there)), (A_m_low, .inl (cy 0, 60, .inl m_low)), (A_m_high, .inl (cy 0, 60, .inl m_high)), (A_m_x, .inl (cy 1, 60, .inr (.inl m_x))), (A_m_y, .inl (cy 1, 60, .inr (.inl m_y))), (A_m_w, .inl (cy 1, 60, .inr (.inl m_w))), (A_m_h, .inl (cy 1, 60, .inr (.inl m_h))), (A_m_r, .inl (cy 1, 60, .inr (.inl m_r))), (A_m_label, .inl (cy 0, 60, .inl m_label)), (A_m_number, .inl (cy 0, 60, .inl m_number))]
theorem hs_M_findNets : y_M_findNets.cls ≠ "java/lang/invoke/MethodHandle" ∧ y_M_findNets.cls ≠ "java/lang/invoke/VarHandle" ∧ (parseMethodDescriptor y_M_findNets.desc).map (fun d => d.parameters.length) = some 0 := by decide +kernel
def F_M_findNets_76 (k_8 : Int32 → (Nat → Int32) → (Nat → Int32) → (Nat → Int32) → (Nat → Int64) → (Nat → Int64) → (Nat → Int64) → (Nat → Int64) → (Nat → Int64) → (Nat → Int32) → (Nat → Int32) → Int32 → Int32 → Option (Int32 × (Nat → Int32) × (Nat → Int32))) (m_pieces : Int32) (m_there : Nat → Int32) (m_low : Nat → Int32) (m_high : Nat → Int32) (m_x : Nat → Int64) (m_y : Nat → Int64) (m_w : Nat → Int64) (m_h : Nat → Int64) (m_r : Nat → Int64) (m_label : Nat → Int32) (m_number : Nat → Int32) (v1 : Int32) (v2 : Int32) : Option (Int32 × (Nat → Int32) × (Nat → Int32)) := k_8 m_pieces m_there m_low m_high m_x m_y m_w m_h m_r m_label m_number v1 (v2 + 1)
set_option maxRecDepth 100000 in
set_option maxHeartbeats 4000000 in
theorem t_M_findNets_76 {p : Program} {l : Launch} {e : Env} {s : State} {m : MethodId} {args : Array Value} {below : List Frame} {meth : Method} {c : Code} {D : va_G} {cy : Nat → ClassId} {A : Nat → Prop} {out : Int32 × (Nat → Int32) × (Nat → Int32)} (C : cn_X p s m args c b_M_findNets 3 "CopperNetsModel" D cy) (hr : meth.sig.returnType = some .int) (hlk : meth.locks = false) (hA : ∀ q, s.heap.size ≤ q → A q) (A_m : Nat) (A_m_there : Nat) (A_m_low : Nat) (A_m_high : Nat) (A_m_x : Nat) (A_m_y : Nat) (A_m_w : Nat) (A_m_h : Nat) (A_m_r : Nat) (A_m_pinOf : Nat) (A_m_netOfPin : Nat) (A_m_label : Nat) (A_m_number : Nat) (A_m_group : Nat) (m_thrown : Int32) (m_layers : Int32) (m_airSquare : Int64) (m_airLow : Int32) (m_airHigh : Int32) (k_8 : Int32 → (Nat → Int32) → (Nat → Int32) → (Nat → Int32) → (Nat → Int64) → (Nat → Int64) → (Nat → Int64) → (Nat → Int64) → (Nat → Int64) → (Nat → Int32) → (Nat → Int32) → Int32 → Int32 → Option (Int32 × (Nat → Int32) × (Nat → Int32))) (hk_8 : ∀ (m_pieces : Int32) (m_there : Nat → Int32) (m_low : Nat → Int32) (m_high : Nat → Int32) (m_x : Nat → Int64) (m_y : Nat → Int64) (m_w : Nat → Int64) (m_h : Nat → Int64) (m_r : Nat → Int64) (m_label : Nat → Int32) (m_number : Nat → Int32) (v1 : Int32) (v2 : Int32), k_8 m_pieces m_there m_low m_high m_x m_y m_w m_h m_r m_label m_number v1 v2 = some out → cg p l e r_M_findNets s m args below meth c D (va_S A s.heap) A 3 0 0 (MQ below (cn_QW (some (.int out.1)) D (w_M_findNets cy A_m A_m_there A_m_low A_m_high A_m_x A_m_y A_m_w A_m_h A_m_r A_m_pinOf A_m_netOfPin A_m_label A_m_number A_m_group m_thrown m_layers m_pieces m_airSquare m_airLow m_airHigh m_there m_low m_high m_x m_y m_w m_h m_r out.2.1 out.2.2) A) args s 0 0 A) (w_M_findNets cy A_m A_m_there A_m_low A_m_high A_m_x A_m_y A_m_w A_m_h A_m_r A_m_pinOf A_m_netOfPin A_m_label A_m_number A_m_group m_thrown m_layers m_pieces m_airSquare m_airLow m_airHigh m_there m_low m_high m_x m_y m_w m_h m_r m_label m_number) 8 [(0, .ref A_m), (1, .int v1), (2, .int v2)] []) (m_pieces : Int32) (m_there : Nat → Int32) (m_low : Nat → Int32) (m_high : Nat → Int32) (m_x : Nat → Int64) (m_y : Nat → Int64) (m_w : Nat → Int64) (m_h : Nat → Int64) (m_r : Nat → Int64) (m_label : Nat → Int32) (m_number : Nat → Int32) (v1 : Int32) (v2 : Int32) (hF : F_M_findNets_76 k_8 m_pieces m_there m_low m_high m_x m_y m_w m_h m_r m_label m_number v1 v2 = some out) : cg p l e r_M_findNets s m args below meth c D (va_S A s.heap) A 3 0 0 (MQ below (cn_QW (some (.int out.1)) D (w_M_findNets cy A_m A_m_there A_m_low A_m_high A_m_x A_m_y A_m_w A_m_h A_m_r A_m_pinOf A_m_netOfPin A_m_label A_m_number A_m_group m_thrown m_layers m_pieces m_airSquare m_airLow m_airHigh m_there m_low m_high m_x m_y m_w m_h m_r out.2.1 out.2.2) A) args s 0 0 A) (w_M_findNets cy A_m A_m_there A_m_low A_m_high A_m_x A_m_y A_m_w A_m_h A_m_r A_m_pinOf A_m_netOfPin A_m_label A_m_number A_m_group m_thrown m_layers m_pieces m_airSquare m_airLow m_airHigh m_there m_low m_high m_x m_y m_w m_h m_r m_label m_number) 76 [(0, .ref A_m), (1, .int v1), (2, .int v2)] [] := by
  refine cg_iinc (v := v2 + 1) (lv' := [(2, .int (v2 + 1)), (0, .ref A_m), (1, .int v1)]) C d_M_findNets_76 2 rfl (by decide) rfl rfl ?_
  refine cg_goto C 8 d_M_findNets_79 (by decide) ?_
  refine cg_sub (lv' := [(0, .ref A_m), (1, .int v1), (2, .int (v2 + 1))]) [1, 2, 0] rfl ?_
  exact hk_8 m_pieces m_there m_low m_high m_x m_y m_w m_h m_r m_label m_number v1 (v2 + 1) hF
def F_M_findNets_8 : Nat → Int32 → (Nat → Int32) → (Nat → Int32) → (Nat → Int32) → (Nat → Int64) → (Nat → Int64) → (Nat → Int64) → (Nat → Int64) → (Nat → Int64) → (Nat → Int32) → (Nat → Int32) → Int32 → Int32 → Option (Int32 × (Nat → Int32) × (Nat → Int32))
  | 0, _, _, _, _, _, _, _, _, _, _, _, _, _ => none
  | n + 1, m_pieces, m_there, m_low, m_high, m_x, m_y, m_w, m_h, m_r, m_label, m_number, v1, v2 => if m_pieces ≤ v2 then (some (v1, m_label, m_number)) else (cn_rd v2 60 (if (m_label (Int32.toNatClampNeg v2)) = (-1) then (cn_rd v2 60 (F_M_findNets_76 (F_M_findNets_8 n) m_pieces m_there m_low m_high m_x m_y m_w m_h m_r m_label (upd m_number (Int32.toNatClampNeg v2) (-1)) v1 v2)) else (cn_rd v2 60 (if (m_label (Int32.toNatClampNeg v2)) = v2 then (cn_rd v2 60 (F_M_findNets_76 (F_M_findNets_8 n) m_pieces m_there m_low m_high m_x m_y m_w m_h m_r m_label (upd m_number (Int32.toNatClampNeg v2) v1) (v1 + 1) v2)) else (cn_rd v2 60 (cn_rd (m_label (Int32.toNatClampNeg v2)) 60 (cn_rd v2 60 (F_M_findNets_76 (F_M_findNets_8 n) m_pieces m_there m_low m_high m_x m_y m_w m_h m_r m_label (upd m_number (Int32.toNatClampNeg v2) (m_number (Int32.toNatClampNeg (m_label (Int32.toNatClampNeg v2))))) v1 v2))))))))
set_option maxRecDepth 100000 in
set_option maxHeartbeats 4000000 in
theorem t_M_findNets_8 {p : Program} {l : Launch} {e : Env} {s : State} {m : MethodId} {args : Array Value} {below : List Frame} {meth : Method} {c : Code} {D : va_G} {cy : Nat → ClassId} {A : Nat → Prop} {out : Int32 × (Nat → Int32) × (Nat → Int32)} (C : cn_X p s m args c b_M_findNets 3 "CopperNetsModel" D cy) (hr : meth.sig.returnType = some .int) (hlk : meth.locks = false) (hA : ∀ q, s.heap.size ≤ q → A q) (A_m : Nat) (A_m_there : Nat) (A_m_low : Nat) (A_m_high : Nat) (A_m_x : Nat) (A_m_y : Nat) (A_m_w : Nat) (A_m_h : Nat) (A_m_r : Nat) (A_m_pinOf : Nat) (A_m_netOfPin : Nat) (A_m_label : Nat) (A_m_number : Nat) (A_m_group : Nat) (m_thrown : Int32) (m_layers : Int32) (m_airSquare : Int64) (m_airLow : Int32) (m_airHigh : Int32) : ∀ (n : Nat) (m_pieces : Int32) (m_there : Nat → Int32) (m_low : Nat → Int32) (m_high : Nat → Int32) (m_x : Nat → Int64) (m_y : Nat → Int64) (m_w : Nat → Int64) (m_h : Nat → Int64) (m_r : Nat → Int64) (m_label : Nat → Int32) (m_number : Nat → Int32) (v1 : Int32) (v2 : Int32), F_M_findNets_8 n m_pieces m_there m_low m_high m_x m_y m_w m_h m_r m_label m_number v1 v2 = some out → cg p l e r_M_findNets s m args below meth c D (va_S A s.heap) A 3 0 0 (MQ below (cn_QW (some (.int out.1)) D (w_M_findNets cy A_m A_m_there A_m_low A_m_high A_m_x A_m_y A_m_w A_m_h A_m_r A_m_pinOf A_m_netOfPin A_m_label A_m_number A_m_group m_thrown m_layers m_pieces m_airSquare m_airLow m_airHigh m_there m_low m_high m_x m_y m_w m_h m_r out.2.1 out.2.2) A) args s 0 0 A) (w_M_findNets cy A_m A_m_there A_m_low A_m_high A_m_x A_m_y A_m_w A_m_h A_m_r A_m_pinOf A_m_netOfPin A_m_label A_m_number A_m_group m_thrown m_layers m_pieces m_airSquare m_airLow m_airHigh m_there m_low m_high m_x m_y m_w m_h m_r m_label m_number) 8 [(0, .ref A_m), (1, .int v1), (2, .int v2)] [] := by
  intro n
  induction n with
  | zero => intro m_pieces m_there m_low m_high m_x m_y m_w m_h m_r m_label m_number v1 v2 hF; exact nomatch (show (none : Option (Int32 × (Nat → Int32) × (Nat → Int32))) = some out from hF)
  | succ n ih =>
    intro m_pieces m_there m_low m_high m_x m_y m_w m_h m_r m_label m_number v1 v2 hF
    refine cg_iload_n C d_M_findNets_8 2 rfl ?_
    refine cg_aload_n C d_M_findNets_9 0 rfl ?_
    refine cg_get C 0 2 d_M_findNets_10 rfl rfl hin_M (by decide) rfl tw_553 rfl ?_
    refine cg_icmp_ge C 82 d_M_findNets_13 (by decide) (fun q_1 => ?_) (fun q_1 => ?_)
    · have hF := cn_pos q_1 hF
      refine cg_iload_n C d_M_findNets_82 1 rfl ?_
      obtain rfl := Option.some.inj hF
      exact cg_iretW C hr hlk d_M_findNets_83
    · have hF := cn_neg q_1 hF
      refine cg_aload_n C d_M_findNets_16 0 rfl ?_
      refine cg_get C 0 13 d_M_findNets_17 rfl rfl hin_M (by decide) rfl tw_564 rfl ?_
      refine cg_iload_n C d_M_findNets_20 2 rfl ?_
      obtain ⟨i_2, hF⟩ := cn_rd_some hF
      refine cg_iald C 9 d_M_findNets_21 rfl i_2 ?_
      refine cg_iconst (v := (-1)) C d_M_findNets_22 (by decide) ?_
      refine cg_icmp_ne C 36 d_M_findNets_23 (by decide) (fun q_3 => ?_) (fun q_3 => ?_)
      · have hF := cn_neg q_3 hF
        refine cg_aload_n C d_M_findNets_36 0 rfl ?_
        refine cg_get C 0 13 d_M_findNets_37 rfl rfl hin_M (by decide) rfl tw_564 rfl ?_
        refine cg_iload_n C d_M_findNets_40 2 rfl ?_
        obtain ⟨i_4, hF⟩ := cn_rd_some hF
        refine cg_iald C 9 d_M_findNets_41 rfl i_4 ?_
        refine cg_iload_n C d_M_findNets_42 2 rfl ?_
        refine cg_icmp_ne C 59 d_M_findNets_43 (by decide) (fun q_5 => ?_) (fun q_5 => ?_)
        · have hF := cn_neg q_5 hF
          refine cg_aload_n C d_M_findNets_59 0 rfl ?_
          refine cg_get C 0 14 d_M_findNets_60 rfl rfl hin_M (by decide) rfl tw_565 rfl ?_
          refine cg_iload_n C d_M_findNets_63 2 rfl ?_
          refine cg_aload_n C d_M_findNets_64 0 rfl ?_
          refine cg_get C 0 14 d_M_findNets_65 rfl rfl hin_M (by decide) rfl tw_565 rfl ?_
          refine cg_aload_n C d_M_findNets_68 0 rfl ?_
          refine cg_get C 0 13 d_M_findNets_69 rfl rfl hin_M (by decide) rfl tw_564 rfl ?_
          refine cg_iload_n C d_M_findNets_72 2 rfl ?_
          obtain ⟨i_6, hF⟩ := cn_rd_some hF
          refine cg_iald C 9 d_M_findNets_73 rfl i_6 ?_
          obtain ⟨i_7, hF⟩ := cn_rd_some hF
          refine cg_iald C 10 d_M_findNets_74 rfl i_7 ?_
          obtain ⟨i_8, hF⟩ := cn_rd_some hF
          refine cg_iast (ws' := w_M_findNets cy A_m A_m_there A_m_low A_m_high A_m_x A_m_y A_m_w A_m_h A_m_r A_m_pinOf A_m_netOfPin A_m_label A_m_number A_m_group m_thrown m_layers m_pieces m_airSquare m_airLow m_airHigh m_there m_low m_high m_x m_y m_w m_h m_r m_label (upd m_number (Int32.toNatClampNeg v2) (m_number (Int32.toNatClampNeg (m_label (Int32.toNatClampNeg v2)))))) C 10 d_M_findNets_75 rfl i_8 rfl ?_
          exact t_M_findNets_76 C hr hlk hA A_m A_m_there A_m_low A_m_high A_m_x A_m_y A_m_w A_m_h A_m_r A_m_pinOf A_m_netOfPin A_m_label A_m_number A_m_group m_thrown m_layers m_airSquare m_airLow m_airHigh (F_M_findNets_8 n) ih m_pieces m_there m_low m_high m_x m_y m_w m_h m_r m_label (upd m_number (Int32.toNatClampNeg v2) (m_number (Int32.toNatClampNeg (m_label (Int32.toNatClampNeg v2))))) v1 v2 hF
        · have hF := cn_pos q_5 hF
          refine cg_aload_n C d_M_findNets_46 0 rfl ?_
          refine cg_get C 0 14 d_M_findNets_47 rfl rfl hin_M (by decide) rfl tw_565 rfl ?_
          refine cg_iload_n C d_M_findNets_50 2 rfl ?_
          refine cg_iload_n C d_M_findNets_51 1 rfl ?_
          obtain ⟨i_9, hF⟩ := cn_rd_some hF
          refine cg_iast (ws' := w_M_findNets cy A_m A_m_there A_m_low A_m_high A_m_x A_m_y A_m_w A_m_h A_m_r A_m_pinOf A_m_netOfPin A_m_label A_m_number A_m_group m_thrown m_layers m_pieces m_airSquare m_airLow m_airHigh m_there m_low m_high m_x m_y m_w m_h m_r m_label (upd m_number (Int32.toNatClampNeg v2) v1)) C 10 d_M_findNets_52 rfl i_9 rfl ?_
          refine cg_iinc (v := v1 + 1) (lv' := [(1, .int (v1 + 1)), (0, .ref A_m), (2, .int v2)]) C d_M_findNets_53 1 rfl (by decide) rfl rfl ?_
          refine cg_goto C 76 d_M_findNets_56 (by decide) ?_
          refine cg_sub (lv' := [(0, .ref A_m), (1, .int (v1 + 1)), (2, .int v2)]) [1, 0, 2] rfl ?_
          exact t_M_findNets_76 C hr hlk hA A_m A_m_there A_m_low A_m_high A_m_x A_m_y A_m_w A_m_h A_m_r A_m_pinOf A_m_netOfPin A_m_label A_m_number A_m_group m_thrown m_layers m_airSquare m_airLow m_airHigh (F_M_findNets_8 n) ih m_pieces m_there m_low m_high m_x m_y m_w m_h m_r m_label (upd m_number (Int32.toNatClampNeg v2) v1) (v1 + 1) v2 hF
      · have hF := cn_pos q_3 hF
        refine cg_aload_n C d_M_findNets_26 0 rfl ?_
        refine cg_get C 0 14 d_M_findNets_27 rfl rfl hin_M (by decide) rfl tw_565 rfl ?_
        refine cg_iload_n C d_M_findNets_30 2 rfl ?_
        refine cg_iconst (v := (-1)) C d_M_findNets_31 (by decide) ?_
        obtain ⟨i_10, hF⟩ := cn_rd_some hF
        refine cg_iast (ws' := w_M_findNets cy A_m A_m_there A_m_low A_m_high A_m_x A_m_y A_m_w A_m_h A_m_r A_m_pinOf A_m_netOfPin A_m_label A_m_number A_m_group m_thrown m_layers m_pieces m_airSquare m_airLow m_airHigh m_there m_low m_high m_x m_y m_w m_h m_r m_label (upd m_number (Int32.toNatClampNeg v2) (-1))) C 10 d_M_findNets_32 rfl i_10 rfl ?_
        refine cg_goto C 76 d_M_findNets_33 (by decide) ?_
        exact t_M_findNets_76 C hr hlk hA A_m A_m_there A_m_low A_m_high A_m_x A_m_y A_m_w A_m_h A_m_r A_m_pinOf A_m_netOfPin A_m_label A_m_number A_m_group m_thrown m_layers m_airSquare m_airLow m_airHigh (F_M_findNets_8 n) ih m_pieces m_there m_low m_high m_x m_y m_w m_h m_r m_label (upd m_number (Int32.toNatClampNeg v2) (-1)) v1 v2 hF
def F_M_findNets_0 (m_pieces : Int32) (m_there : Nat → Int32) (m_low : Nat → Int32) (m_high : Nat → Int32) (m_x : Nat → Int64) (m_y : Nat → Int64) (m_w : Nat → Int64) (m_h : Nat → Int64) (m_r : Nat → Int64) (m_label : Nat → Int32) (m_number : Nat → Int32) : Option (Int32 × (Nat → Int32) × (Nat → Int32)) := (F_M_findLabels m_pieces m_there m_low m_high m_x m_y m_w m_h m_r m_label).bind fun t_12 => F_M_findNets_8 4096 m_pieces m_there m_low m_high m_x m_y m_w m_h m_r t_12 m_number 0 0
set_option maxRecDepth 100000 in
set_option maxHeartbeats 4000000 in
theorem t_M_findNets_0 {p : Program} {l : Launch} {e : Env} {s : State} {m : MethodId} {args : Array Value} {below : List Frame} {meth : Method} {c : Code} {D : va_G} {cy : Nat → ClassId} {A : Nat → Prop} {out : Int32 × (Nat → Int32) × (Nat → Int32)} (C : cn_X p s m args c b_M_findNets 3 "CopperNetsModel" D cy) (hr : meth.sig.returnType = some .int) (hlk : meth.locks = false) (hA : ∀ q, s.heap.size ≤ q → A q) (A_m : Nat) (A_m_there : Nat) (A_m_low : Nat) (A_m_high : Nat) (A_m_x : Nat) (A_m_y : Nat) (A_m_w : Nat) (A_m_h : Nat) (A_m_r : Nat) (A_m_pinOf : Nat) (A_m_netOfPin : Nat) (A_m_label : Nat) (A_m_number : Nat) (A_m_group : Nat) (m_thrown : Int32) (m_layers : Int32) (m_airSquare : Int64) (m_airLow : Int32) (m_airHigh : Int32) (m_pieces : Int32) (m_there : Nat → Int32) (m_low : Nat → Int32) (m_high : Nat → Int32) (m_x : Nat → Int64) (m_y : Nat → Int64) (m_w : Nat → Int64) (m_h : Nat → Int64) (m_r : Nat → Int64) (m_label : Nat → Int32) (m_number : Nat → Int32) (hF : F_M_findNets_0 m_pieces m_there m_low m_high m_x m_y m_w m_h m_r m_label m_number = some out) : cg p l e r_M_findNets s m args below meth c D (va_S A s.heap) A 3 0 0 (MQ below (cn_QW (some (.int out.1)) D (w_M_findNets cy A_m A_m_there A_m_low A_m_high A_m_x A_m_y A_m_w A_m_h A_m_r A_m_pinOf A_m_netOfPin A_m_label A_m_number A_m_group m_thrown m_layers m_pieces m_airSquare m_airLow m_airHigh m_there m_low m_high m_x m_y m_w m_h m_r out.2.1 out.2.2) A) args s 0 0 A) (w_M_findNets cy A_m A_m_there A_m_low A_m_high A_m_x A_m_y A_m_w A_m_h A_m_r A_m_pinOf A_m_netOfPin A_m_label A_m_number A_m_group m_thrown m_layers m_pieces m_airSquare m_airLow m_airHigh m_there m_low m_high m_x m_y m_w m_h m_r m_label m_number) 0 [(0, .ref A_m)] [] := by
  refine cg_aload_n C d_M_findNets_0 0 rfl ?_
  obtain ⟨t_12, h_11, hF⟩ := cn_bind hF
  refine cg_callWV C hA (c_M_findLabels A_m A_m_there A_m_low A_m_high A_m_x A_m_y A_m_w A_m_h A_m_r A_m_pinOf A_m_netOfPin A_m_label A_m_number A_m_group m_thrown m_layers m_pieces m_airSquare m_airLow m_airHigh m_there m_low m_high m_x m_y m_w m_h m_r m_label h_11) [0, 1, 2, 3, 4, 5, 6, 7, 8, 9] [10] [1, 2, 3, 4, 5, 6, 7, 8, 9, 10, 0] [(A_m_number, .inl (cy 0, 60, .inl m_number))] (w_M_findNets cy A_m A_m_there A_m_low A_m_high A_m_x A_m_y A_m_w A_m_h A_m_r A_m_pinOf A_m_netOfPin A_m_label A_m_number A_m_group m_thrown m_layers m_pieces m_airSquare m_airLow m_airHigh m_there m_low m_high m_x m_y m_w m_h m_r t_12 m_number) rfl rfl rfl ⟨by decide, by decide, by decide, by decide⟩ 0 rfl rfl d_M_findNets_1 tw_667 tw_669 ts_46 tw_7 tw_670 hs_M_findLabels ⟨by decide, by decide⟩ rfl rfl ⟨by decide, by decide⟩ (Nat.le_of_ble_eq_true rfl) rfl rfl ?_
  refine cg_iconst (v := 0) C d_M_findNets_4 (by decide) ?_
  refine cg_istore_n (lv' := [(1, .int 0), (0, .ref A_m)]) C d_M_findNets_5 (by decide) rfl ?_
  refine cg_iconst (v := 0) C d_M_findNets_6 (by decide) ?_
  refine cg_istore_n (lv' := [(2, .int 0), (1, .int 0), (0, .ref A_m)]) C d_M_findNets_7 (by decide) rfl ?_
  refine cg_sub (lv' := [(0, .ref A_m), (1, .int 0), (2, .int 0)]) [2, 1, 0] rfl ?_
  exact t_M_findNets_8 C hr hlk hA A_m A_m_there A_m_low A_m_high A_m_x A_m_y A_m_w A_m_h A_m_r A_m_pinOf A_m_netOfPin A_m_label A_m_number A_m_group m_thrown m_layers m_airSquare m_airLow m_airHigh 4096 m_pieces m_there m_low m_high m_x m_y m_w m_h m_r t_12 m_number 0 0 hF
abbrev F_M_findNets (m_pieces : Int32) (m_there : Nat → Int32) (m_low : Nat → Int32) (m_high : Nat → Int32) (m_x : Nat → Int64) (m_y : Nat → Int64) (m_w : Nat → Int64) (m_h : Nat → Int64) (m_r : Nat → Int64) (m_label : Nat → Int32) (m_number : Nat → Int32) : Option (Int32 × (Nat → Int32) × (Nat → Int32)) := F_M_findNets_0 m_pieces m_there m_low m_high m_x m_y m_w m_h m_r m_label m_number
theorem c_M_findNets {l : Launch} {D : va_G} {cy : Nat → ClassId} (A_m : Nat) (A_m_there : Nat) (A_m_low : Nat) (A_m_high : Nat) (A_m_x : Nat) (A_m_y : Nat) (A_m_w : Nat) (A_m_h : Nat) (A_m_r : Nat) (A_m_pinOf : Nat) (A_m_netOfPin : Nat) (A_m_label : Nat) (A_m_number : Nat) (A_m_group : Nat) (m_thrown : Int32) (m_layers : Int32) (m_pieces : Int32) (m_airSquare : Int64) (m_airLow : Int32) (m_airHigh : Int32) (m_there : Nat → Int32) (m_low : Nat → Int32) (m_high : Nat → Int32) (m_x : Nat → Int64) (m_y : Nat → Int64) (m_w : Nat → Int64) (m_h : Nat → Int64) (m_r : Nat → Int64) (m_label : Nat → Int32) (m_number : Nat → Int32) {out : Int32 × (Nat → Int32) × (Nat → Int32)} (hF : F_M_findNets m_pieces m_there m_low m_high m_x m_y m_w m_h m_r m_label m_number = some out) : cn_MW l y_M_findNets b_M_findNets 3 (some .int) r_M_findNets D cy [.ref A_m] (w_M_findNets cy A_m A_m_there A_m_low A_m_high A_m_x A_m_y A_m_w A_m_h A_m_r A_m_pinOf A_m_netOfPin A_m_label A_m_number A_m_group m_thrown m_layers m_pieces m_airSquare m_airLow m_airHigh m_there m_low m_high m_x m_y m_w m_h m_r m_label m_number) (some (.int out.1)) (w_M_findNets cy A_m A_m_there A_m_low A_m_high A_m_x A_m_y A_m_w A_m_h A_m_r A_m_pinOf A_m_netOfPin A_m_label A_m_number A_m_group m_thrown m_layers m_pieces m_airSquare m_airLow m_airHigh m_there m_low m_high m_x m_y m_w m_h m_r out.2.1 out.2.2) 0 0 :=
  cn_MW.of (by decide +kernel) (Nat.le_of_ble_eq_true rfl) (fun p e s m below meth c A C hr hlk hA => t_M_findNets_0 C hr hlk hA A_m A_m_there A_m_low A_m_high A_m_x A_m_y A_m_w A_m_h A_m_r A_m_pinOf A_m_netOfPin A_m_label A_m_number A_m_group m_thrown m_layers m_airSquare m_airLow m_airHigh m_pieces m_there m_low m_high m_x m_y m_w m_h m_r m_label m_number hF)
/-! CopperNetsModel.run()I -/
abbrev r_M_run : Room := { frames := 4, cells := 0, slots := 0, locals := 101 }
abbrev w_M_run (cy : Nat → ClassId) (A_m : Nat) (A_m_there : Nat) (A_m_low : Nat) (A_m_high : Nat) (A_m_x : Nat) (A_m_y : Nat) (A_m_w : Nat) (A_m_h : Nat) (A_m_r : Nat) (A_m_pinOf : Nat) (A_m_netOfPin : Nat) (A_m_label : Nat) (A_m_number : Nat) (A_m_group : Nat) (m_thrown : Int32) (m_layers : Int32) (m_pieces : Int32) (m_airSquare : Int64) (m_airLow : Int32) (m_airHigh : Int32) (m_there : Nat → Int32) (m_low : Nat → Int32) (m_high : Nat → Int32) (m_x : Nat → Int64) (m_y : Nat → Int64) (m_w : Nat → Int64) (m_h : Nat → Int64) (m_r : Nat → Int64) (m_label : Nat → Int32) (m_number : Nat → Int32) : va_W := [(A_m, .inr (4, [.int m_thrown, .int m_layers, .int m_pieces, .ref A_m_there, .ref A_m_low, .ref A_m_high, .ref A_m_x, .ref A_m_y, .ref A_m_w, .ref A_m_h, .ref A_m_r, .ref A_m_pinOf, .ref A_m_netOfPin, .ref A_m_label, .ref A_m_number, .ref A_m_group, .long m_airSquare, .int m_airLow, .int m_airHigh])), (A_m_there, .inl (cy 2, 60, .inl m_there)), (A_m_low, .inl (cy 0, 60, .inl m_low)), (A_m_high, .inl (cy 0, 60, .inl m_high)), (A_m_x, .inl (cy 1, 60, .inr (.inl m_x))), (A_m_y, .inl (cy 1, 60, .inr (.inl m_y))), (A_m_w, .inl (cy 1, 60, .inr (.inl m_w))), (A_m_h, .inl (cy 1, 60, .inr (.inl m_h))), (A_m_r, .inl (cy 1, 60, .inr (.inl m_r))), (A_m_label, .inl (cy 0, 60, .inl m_label)), (A_m_number, .inl (cy 0, 60, .inl m_number))]
theorem hs_M_run : y_M_run.cls ≠ "java/lang/invoke/MethodHandle" ∧ y_M_run.cls ≠ "java/lang/invoke/VarHandle" ∧ (parseMethodDescriptor y_M_run.desc).map (fun d => d.parameters.length) = some 0 := by decide +kernel
def F_M_run_0 (m_thrown : Int32) (m_pieces : Int32) (m_there : Nat → Int32) (m_low : Nat → Int32) (m_high : Nat → Int32) (m_x : Nat → Int64) (m_y : Nat → Int64) (m_w : Nat → Int64) (m_h : Nat → Int64) (m_r : Nat → Int64) (m_label : Nat → Int32) (m_number : Nat → Int32) : Option (Int32 × Int32 × (Nat → Int32) × (Nat → Int32)) := (F_M_findNets m_pieces m_there m_low m_high m_x m_y m_w m_h m_r m_label m_number).bind fun t_2 => some (t_2.1, 0, t_2.2.1, t_2.2.2)
set_option maxRecDepth 100000 in
set_option maxHeartbeats 4000000 in
theorem t_M_run_0 {p : Program} {l : Launch} {e : Env} {s : State} {m : MethodId} {args : Array Value} {below : List Frame} {meth : Method} {c : Code} {D : va_G} {cy : Nat → ClassId} {A : Nat → Prop} {out : Int32 × Int32 × (Nat → Int32) × (Nat → Int32)} (C : cn_X p s m args c b_M_run 1 "CopperNetsModel" D cy) (hr : meth.sig.returnType = some .int) (hlk : meth.locks = false) (hA : ∀ q, s.heap.size ≤ q → A q) (A_m : Nat) (A_m_there : Nat) (A_m_low : Nat) (A_m_high : Nat) (A_m_x : Nat) (A_m_y : Nat) (A_m_w : Nat) (A_m_h : Nat) (A_m_r : Nat) (A_m_pinOf : Nat) (A_m_netOfPin : Nat) (A_m_label : Nat) (A_m_number : Nat) (A_m_group : Nat) (m_layers : Int32) (m_airSquare : Int64) (m_airLow : Int32) (m_airHigh : Int32) (m_thrown : Int32) (m_pieces : Int32) (m_there : Nat → Int32) (m_low : Nat → Int32) (m_high : Nat → Int32) (m_x : Nat → Int64) (m_y : Nat → Int64) (m_w : Nat → Int64) (m_h : Nat → Int64) (m_r : Nat → Int64) (m_label : Nat → Int32) (m_number : Nat → Int32) (hF : F_M_run_0 m_thrown m_pieces m_there m_low m_high m_x m_y m_w m_h m_r m_label m_number = some out) : cg p l e r_M_run s m args below meth c D (va_S A s.heap) A 1 0 0 (MQ below (cn_QW (some (.int out.1)) D (w_M_run cy A_m A_m_there A_m_low A_m_high A_m_x A_m_y A_m_w A_m_h A_m_r A_m_pinOf A_m_netOfPin A_m_label A_m_number A_m_group out.2.1 m_layers m_pieces m_airSquare m_airLow m_airHigh m_there m_low m_high m_x m_y m_w m_h m_r out.2.2.1 out.2.2.2) A) args s 0 0 A) (w_M_run cy A_m A_m_there A_m_low A_m_high A_m_x A_m_y A_m_w A_m_h A_m_r A_m_pinOf A_m_netOfPin A_m_label A_m_number A_m_group m_thrown m_layers m_pieces m_airSquare m_airLow m_airHigh m_there m_low m_high m_x m_y m_w m_h m_r m_label m_number) 0 [(0, .ref A_m)] [] := by
  refine cg_aload_n C d_M_run_0 0 rfl ?_
  refine cg_iconst (v := 0) C d_M_run_1 (by decide) ?_
  refine cg_put (ws' := w_M_run cy A_m A_m_there A_m_low A_m_high A_m_x A_m_y A_m_w A_m_h A_m_r A_m_pinOf A_m_netOfPin A_m_label A_m_number A_m_group 0 m_layers m_pieces m_airSquare m_airLow m_airHigh m_there m_low m_high m_x m_y m_w m_h m_r m_label m_number) C 0 0 t_M d_M_run_2 rfl rfl hin_M tt_M n_M (by decide) rfl tw_551 rfl rfl (Nat.le_of_ble_eq_true rfl) rfl ?_
  refine cg_aload_n C d_M_run_5 0 rfl ?_
  obtain ⟨t_2, h_1, hF⟩ := cn_bind hF
  refine cg_callWV C hA (c_M_findNets A_m A_m_there A_m_low A_m_high A_m_x A_m_y A_m_w A_m_h A_m_r A_m_pinOf A_m_netOfPin A_m_label A_m_number A_m_group 0 m_layers m_pieces m_airSquare m_airLow m_airHigh m_there m_low m_high m_x m_y m_w m_h m_r m_label m_number h_1) [0, 1, 2, 3, 4, 5, 6, 7, 8, 9, 10] [] [0, 1, 2, 3, 4, 5, 6, 7, 8, 9, 10] [] (w_M_run cy A_m A_m_there A_m_low A_m_high A_m_x A_m_y A_m_w A_m_h A_m_r A_m_pinOf A_m_netOfPin A_m_label A_m_number A_m_group 0 m_layers m_pieces m_airSquare m_airLow m_airHigh m_there m_low m_high m_x m_y m_w m_h m_r t_2.2.1 t_2.2.2) rfl rfl rfl ⟨by decide, by decide, by decide, by decide⟩ 0 rfl rfl d_M_run_6 tw_663 tw_665 ts_45 tw_7 tw_666 hs_M_findNets ⟨by decide, by decide⟩ rfl rfl ⟨by decide, by decide⟩ (Nat.le_of_ble_eq_true rfl) rfl rfl ?_
  obtain rfl := Option.some.inj hF
  exact cg_iretW C hr hlk d_M_run_9
abbrev F_M_run (m_thrown : Int32) (m_pieces : Int32) (m_there : Nat → Int32) (m_low : Nat → Int32) (m_high : Nat → Int32) (m_x : Nat → Int64) (m_y : Nat → Int64) (m_w : Nat → Int64) (m_h : Nat → Int64) (m_r : Nat → Int64) (m_label : Nat → Int32) (m_number : Nat → Int32) : Option (Int32 × Int32 × (Nat → Int32) × (Nat → Int32)) := F_M_run_0 m_thrown m_pieces m_there m_low m_high m_x m_y m_w m_h m_r m_label m_number
theorem c_M_run {l : Launch} {D : va_G} {cy : Nat → ClassId} (A_m : Nat) (A_m_there : Nat) (A_m_low : Nat) (A_m_high : Nat) (A_m_x : Nat) (A_m_y : Nat) (A_m_w : Nat) (A_m_h : Nat) (A_m_r : Nat) (A_m_pinOf : Nat) (A_m_netOfPin : Nat) (A_m_label : Nat) (A_m_number : Nat) (A_m_group : Nat) (m_thrown : Int32) (m_layers : Int32) (m_pieces : Int32) (m_airSquare : Int64) (m_airLow : Int32) (m_airHigh : Int32) (m_there : Nat → Int32) (m_low : Nat → Int32) (m_high : Nat → Int32) (m_x : Nat → Int64) (m_y : Nat → Int64) (m_w : Nat → Int64) (m_h : Nat → Int64) (m_r : Nat → Int64) (m_label : Nat → Int32) (m_number : Nat → Int32) {out : Int32 × Int32 × (Nat → Int32) × (Nat → Int32)} (hF : F_M_run m_thrown m_pieces m_there m_low m_high m_x m_y m_w m_h m_r m_label m_number = some out) : cn_MW l y_M_run b_M_run 1 (some .int) r_M_run D cy [.ref A_m] (w_M_run cy A_m A_m_there A_m_low A_m_high A_m_x A_m_y A_m_w A_m_h A_m_r A_m_pinOf A_m_netOfPin A_m_label A_m_number A_m_group m_thrown m_layers m_pieces m_airSquare m_airLow m_airHigh m_there m_low m_high m_x m_y m_w m_h m_r m_label m_number) (some (.int out.1)) (w_M_run cy A_m A_m_there A_m_low A_m_high A_m_x A_m_y A_m_w A_m_h A_m_r A_m_pinOf A_m_netOfPin A_m_label A_m_number A_m_group out.2.1 m_layers m_pieces m_airSquare m_airLow m_airHigh m_there m_low m_high m_x m_y m_w m_h m_r out.2.2.1 out.2.2.2) 0 0 :=
  cn_MW.of (by decide +kernel) (Nat.le_of_ble_eq_true rfl) (fun p e s m below meth c A C hr hlk hA => t_M_run_0 C hr hlk hA A_m A_m_there A_m_low A_m_high A_m_x A_m_y A_m_w A_m_h A_m_r A_m_pinOf A_m_netOfPin A_m_label A_m_number A_m_group m_layers m_airSquare m_airLow m_airHigh m_thrown m_pieces m_there m_low m_high m_x m_y m_w m_h m_r m_label m_number hF)
/-! CopperNetsModel.netOf(I)I -/
abbrev r_M_netOf : Room := { frames := 4, cells := 0, slots := 0, locals := 101 }
abbrev w_M_netOf (cy : Nat → ClassId) (A_m : Nat) (A_m_there : Nat) (A_m_low : Nat) (A_m_high : Nat) (A_m_x : Nat) (A_m_y : Nat) (A_m_w : Nat) (A_m_h : Nat) (A_m_r : Nat) (A_m_pinOf : Nat) (A_m_netOfPin : Nat) (A_m_label : Nat) (A_m_number : Nat) (A_m_group : Nat) (m_thrown : Int32) (m_layers : Int32) (m_pieces : Int32) (m_airSquare : Int64) (m_airLow : Int32) (m_airHigh : Int32) (m_there : Nat → Int32) (m_low : Nat → Int32) (m_high : Nat → Int32) (m_x : Nat → Int64) (m_y : Nat → Int64) (m_w : Nat → Int64) (m_h : Nat → Int64) (m_r : Nat → Int64) (m_label : Nat → Int32) (m_number : Nat → Int32) : va_W := [(A_m, .inr (4, [.int m_thrown, .int m_layers, .int m_pieces, .ref A_m_there, .ref A_m_low, .ref A_m_high, .ref A_m_x, .ref A_m_y, .ref A_m_w, .ref A_m_h, .ref A_m_r, .ref A_m_pinOf, .ref A_m_netOfPin, .ref A_m_label, .ref A_m_number, .ref A_m_group, .long m_airSquare, .int m_airLow, .int m_airHigh])), (A_m_there, .inl (cy 2, 60, .inl m_there)), (A_m_low, .inl (cy 0, 60, .inl m_low)), (A_m_high, .inl (cy 0, 60, .inl m_high)), (A_m_x, .inl (cy 1, 60, .inr (.inl m_x))), (A_m_y, .inl (cy 1, 60, .inr (.inl m_y))), (A_m_w, .inl (cy 1, 60, .inr (.inl m_w))), (A_m_h, .inl (cy 1, 60, .inr (.inl m_h))), (A_m_r, .inl (cy 1, 60, .inr (.inl m_r))), (A_m_label, .inl (cy 0, 60, .inl m_label)), (A_m_number, .inl (cy 0, 60, .inl m_number))]
theorem hs_M_netOf : y_M_netOf.cls ≠ "java/lang/invoke/MethodHandle" ∧ y_M_netOf.cls ≠ "java/lang/invoke/VarHandle" ∧ (parseMethodDescriptor y_M_netOf.desc).map (fun d => d.parameters.length) = some 1 := by decide +kernel
def F_M_netOf_14 (m_thrown : Int32) (m_pieces : Int32) (m_there : Nat → Int32) (m_low : Nat → Int32) (m_high : Nat → Int32) (m_x : Nat → Int64) (m_y : Nat → Int64) (m_w : Nat → Int64) (m_h : Nat → Int64) (m_r : Nat → Int64) (m_label : Nat → Int32) (m_number : Nat → Int32) (v1 : Int32) (s1 : Int32) : Option (Int32 × Int32 × (Nat → Int32) × (Nat → Int32)) := if s1 = 0 then ((F_M_findNets m_pieces m_there m_low m_high m_x m_y m_w m_h m_r m_label m_number).bind fun t_3 => cn_rd v1 60 (some ((t_3.2.2 (Int32.toNatClampNeg v1)), s1, t_3.2.1, t_3.2.2))) else (some (0, s1, m_label, m_number))
set_option maxRecDepth 100000 in
set_option maxHeartbeats 4000000 in
theorem t_M_netOf_14 {p : Program} {l : Launch} {e : Env} {s : State} {m : MethodId} {args : Array Value} {below : List Frame} {meth : Method} {c : Code} {D : va_G} {cy : Nat → ClassId} {A : Nat → Prop} {out : Int32 × Int32 × (Nat → Int32) × (Nat → Int32)} (C : cn_X p s m args c b_M_netOf 2 "CopperNetsModel" D cy) (hr : meth.sig.returnType = some .int) (hlk : meth.locks = false) (hA : ∀ q, s.heap.size ≤ q → A q) (A_m : Nat) (A_m_there : Nat) (A_m_low : Nat) (A_m_high : Nat) (A_m_x : Nat) (A_m_y : Nat) (A_m_w : Nat) (A_m_h : Nat) (A_m_r : Nat) (A_m_pinOf : Nat) (A_m_netOfPin : Nat) (A_m_label : Nat) (A_m_number : Nat) (A_m_group : Nat) (m_layers : Int32) (m_airSquare : Int64) (m_airLow : Int32) (m_airHigh : Int32) (m_thrown : Int32) (m_pieces : Int32) (m_there : Nat → Int32) (m_low : Nat → Int32) (m_high : Nat → Int32) (m_x : Nat → Int64) (m_y : Nat → Int64) (m_w : Nat → Int64) (m_h : Nat → Int64) (m_r : Nat → Int64) (m_label : Nat → Int32) (m_number : Nat → Int32) (v1 : Int32) (s1 : Int32) (hF : F_M_netOf_14 m_thrown m_pieces m_there m_low m_high m_x m_y m_w m_h m_r m_label m_number v1 s1 = some out) : cg p l e r_M_netOf s m args below meth c D (va_S A s.heap) A 2 0 0 (MQ below (cn_QW (some (.int out.1)) D (w_M_netOf cy A_m A_m_there A_m_low A_m_high A_m_x A_m_y A_m_w A_m_h A_m_r A_m_pinOf A_m_netOfPin A_m_label A_m_number A_m_group out.2.1 m_layers m_pieces m_airSquare m_airLow m_airHigh m_there m_low m_high m_x m_y m_w m_h m_r out.2.2.1 out.2.2.2) A) args s 0 0 A) (w_M_netOf cy A_m A_m_there A_m_low A_m_high A_m_x A_m_y A_m_w A_m_h A_m_r A_m_pinOf A_m_netOfPin A_m_label A_m_number A_m_group m_thrown m_layers m_pieces m_airSquare m_airLow m_airHigh m_there m_low m_high m_x m_y m_w m_h m_r m_label m_number) 14 [(0, .ref A_m), (1, .int v1)] [.int s1, .ref A_m] := by
  refine cg_put (ws' := w_M_netOf cy A_m A_m_there A_m_low A_m_high A_m_x A_m_y A_m_w A_m_h A_m_r A_m_pinOf A_m_netOfPin A_m_label A_m_number A_m_group s1 m_layers m_pieces m_airSquare m_airLow m_airHigh m_there m_low m_high m_x m_y m_w m_h m_r m_label m_number) C 0 0 t_M d_M_netOf_14 rfl rfl hin_M tt_M n_M (by decide) rfl tw_551 rfl rfl (Nat.le_of_ble_eq_true rfl) rfl ?_
  refine cg_aload_n C d_M_netOf_17 0 rfl ?_
  refine cg_get C 0 0 d_M_netOf_18 rfl rfl hin_M (by decide) rfl tw_551 rfl ?_
  refine cg_if_eq C 26 d_M_netOf_21 (by decide) (fun q_1 => ?_) (fun q_1 => ?_)
  · have hF := cn_pos q_1 hF
    refine cg_aload_n C d_M_netOf_26 0 rfl ?_
    obtain ⟨t_3, h_2, hF⟩ := cn_bind hF
    refine cg_callWV C hA (c_M_findNets A_m A_m_there A_m_low A_m_high A_m_x A_m_y A_m_w A_m_h A_m_r A_m_pinOf A_m_netOfPin A_m_label A_m_number A_m_group s1 m_layers m_pieces m_airSquare m_airLow m_airHigh m_there m_low m_high m_x m_y m_w m_h m_r m_label m_number h_2) [0, 1, 2, 3, 4, 5, 6, 7, 8, 9, 10] [] [0, 1, 2, 3, 4, 5, 6, 7, 8, 9, 10] [] (w_M_netOf cy A_m A_m_there A_m_low A_m_high A_m_x A_m_y A_m_w A_m_h A_m_r A_m_pinOf A_m_netOfPin A_m_label A_m_number A_m_group s1 m_layers m_pieces m_airSquare m_airLow m_airHigh m_there m_low m_high m_x m_y m_w m_h m_r t_3.2.1 t_3.2.2) rfl rfl rfl ⟨by decide, by decide, by decide, by decide⟩ 0 rfl rfl d_M_netOf_27 tw_663 tw_665 ts_45 tw_7 tw_666 hs_M_findNets ⟨by decide, by decide⟩ rfl rfl ⟨by decide, by decide⟩ (Nat.le_of_ble_eq_true rfl) rfl rfl ?_
    refine cg_pop C d_M_netOf_30 rfl ?_
    refine cg_aload_n C d_M_netOf_31 0 rfl ?_
    refine cg_get C 0 14 d_M_netOf_32 rfl rfl hin_M (by decide) rfl tw_565 rfl ?_
    refine cg_iload_n C d_M_netOf_35 1 rfl ?_
    obtain ⟨i_4, hF⟩ := cn_rd_some hF
    refine cg_iald C 10 d_M_netOf_36 rfl i_4 ?_
    obtain rfl := Option.some.inj hF
    exact cg_iretW C hr hlk d_M_netOf_37
  · have hF := cn_neg q_1 hF
    refine cg_iconst (v := 0) C d_M_netOf_24 (by decide) ?_
    obtain rfl := Option.some.inj hF
    exact cg_iretW C hr hlk d_M_netOf_25
def F_M_netOf_0 (m_thrown : Int32) (m_pieces : Int32) (m_there : Nat → Int32) (m_low : Nat → Int32) (m_high : Nat → Int32) (m_x : Nat → Int64) (m_y : Nat → Int64) (m_w : Nat → Int64) (m_h : Nat → Int64) (m_r : Nat → Int64) (m_label : Nat → Int32) (m_number : Nat → Int32) (v1 : Int32) : Option (Int32 × Int32 × (Nat → Int32) × (Nat → Int32)) := (F_M_isPiece m_pieces v1).bind fun t_7 => if t_7 = 0 then (F_M_netOf_14 m_thrown m_pieces m_there m_low m_high m_x m_y m_w m_h m_r m_label m_number v1 1) else (F_M_netOf_14 m_thrown m_pieces m_there m_low m_high m_x m_y m_w m_h m_r m_label m_number v1 0)
set_option maxRecDepth 100000 in
set_option maxHeartbeats 4000000 in
theorem t_M_netOf_0 {p : Program} {l : Launch} {e : Env} {s : State} {m : MethodId} {args : Array Value} {below : List Frame} {meth : Method} {c : Code} {D : va_G} {cy : Nat → ClassId} {A : Nat → Prop} {out : Int32 × Int32 × (Nat → Int32) × (Nat → Int32)} (C : cn_X p s m args c b_M_netOf 2 "CopperNetsModel" D cy) (hr : meth.sig.returnType = some .int) (hlk : meth.locks = false) (hA : ∀ q, s.heap.size ≤ q → A q) (A_m : Nat) (A_m_there : Nat) (A_m_low : Nat) (A_m_high : Nat) (A_m_x : Nat) (A_m_y : Nat) (A_m_w : Nat) (A_m_h : Nat) (A_m_r : Nat) (A_m_pinOf : Nat) (A_m_netOfPin : Nat) (A_m_label : Nat) (A_m_number : Nat) (A_m_group : Nat) (m_layers : Int32) (m_airSquare : Int64) (m_airLow : Int32) (m_airHigh : Int32) (m_thrown : Int32) (m_pieces : Int32) (m_there : Nat → Int32) (m_low : Nat → Int32) (m_high : Nat → Int32) (m_x : Nat → Int64) (m_y : Nat → Int64) (m_w : Nat → Int64) (m_h : Nat → Int64) (m_r : Nat → Int64) (m_label : Nat → Int32) (m_number : Nat → Int32) (v1 : Int32) (hF : F_M_netOf_0 m_thrown m_pieces m_there m_low m_high m_x m_y m_w m_h m_r m_label m_number v1 = some out) : cg p l e r_M_netOf s m args below meth c D (va_S A s.heap) A 2 0 0 (MQ below (cn_QW (some (.int out.1)) D (w_M_netOf cy A_m A_m_there A_m_low A_m_high A_m_x A_m_y A_m_w A_m_h A_m_r A_m_pinOf A_m_netOfPin A_m_label A_m_number A_m_group out.2.1 m_layers m_pieces m_airSquare m_airLow m_airHigh m_there m_low m_high m_x m_y m_w m_h m_r out.2.2.1 out.2.2.2) A) args s 0 0 A) (w_M_netOf cy A_m A_m_there A_m_low A_m_high A_m_x A_m_y A_m_w A_m_h A_m_r A_m_pinOf A_m_netOfPin A_m_label A_m_number A_m_group m_thrown m_layers m_pieces m_airSquare m_airLow m_airHigh m_there m_low m_high m_x m_y m_w m_h m_r m_label m_number) 0 [(0, .ref A_m), (1, .int v1)] [] := by
  refine cg_aload_n C d_M_netOf_0 0 rfl ?_
  refine cg_aload_n C d_M_netOf_1 0 rfl ?_
  refine cg_iload_n C d_M_netOf_2 1 rfl ?_
  obtain ⟨t_7, h_6, hF⟩ := cn_bind hF
  refine cg_callRV C (c_M_isPiece A_m A_m_there A_m_low A_m_high A_m_x A_m_y A_m_w A_m_h A_m_r A_m_pinOf A_m_netOfPin A_m_label A_m_number A_m_group m_thrown m_layers m_pieces m_airSquare m_airLow m_airHigh v1 h_6) [0] rfl (by decide) 0 rfl rfl d_M_netOf_3 tw_655 tw_657 ts_44 tw_7 tw_658 hs_M_isPiece ⟨by decide, by decide⟩ rfl rfl ⟨by decide, by decide⟩ (Nat.le_of_ble_eq_true rfl) rfl rfl ?_
  refine cg_if_eq C 13 d_M_netOf_6 (by decide) (fun q_8 => ?_) (fun q_8 => ?_)
  · have hF := cn_pos q_8 hF
    refine cg_iconst (v := 1) C d_M_netOf_13 (by decide) ?_
    exact t_M_netOf_14 C hr hlk hA A_m A_m_there A_m_low A_m_high A_m_x A_m_y A_m_w A_m_h A_m_r A_m_pinOf A_m_netOfPin A_m_label A_m_number A_m_group m_layers m_airSquare m_airLow m_airHigh m_thrown m_pieces m_there m_low m_high m_x m_y m_w m_h m_r m_label m_number v1 1 hF
  · have hF := cn_neg q_8 hF
    refine cg_iconst (v := 0) C d_M_netOf_9 (by decide) ?_
    refine cg_goto C 14 d_M_netOf_10 (by decide) ?_
    exact t_M_netOf_14 C hr hlk hA A_m A_m_there A_m_low A_m_high A_m_x A_m_y A_m_w A_m_h A_m_r A_m_pinOf A_m_netOfPin A_m_label A_m_number A_m_group m_layers m_airSquare m_airLow m_airHigh m_thrown m_pieces m_there m_low m_high m_x m_y m_w m_h m_r m_label m_number v1 0 hF
abbrev F_M_netOf (m_thrown : Int32) (m_pieces : Int32) (m_there : Nat → Int32) (m_low : Nat → Int32) (m_high : Nat → Int32) (m_x : Nat → Int64) (m_y : Nat → Int64) (m_w : Nat → Int64) (m_h : Nat → Int64) (m_r : Nat → Int64) (m_label : Nat → Int32) (m_number : Nat → Int32) (v1 : Int32) : Option (Int32 × Int32 × (Nat → Int32) × (Nat → Int32)) := F_M_netOf_0 m_thrown m_pieces m_there m_low m_high m_x m_y m_w m_h m_r m_label m_number v1
theorem c_M_netOf {l : Launch} {D : va_G} {cy : Nat → ClassId} (A_m : Nat) (A_m_there : Nat) (A_m_low : Nat) (A_m_high : Nat) (A_m_x : Nat) (A_m_y : Nat) (A_m_w : Nat) (A_m_h : Nat) (A_m_r : Nat) (A_m_pinOf : Nat) (A_m_netOfPin : Nat) (A_m_label : Nat) (A_m_number : Nat) (A_m_group : Nat) (m_thrown : Int32) (m_layers : Int32) (m_pieces : Int32) (m_airSquare : Int64) (m_airLow : Int32) (m_airHigh : Int32) (m_there : Nat → Int32) (m_low : Nat → Int32) (m_high : Nat → Int32) (m_x : Nat → Int64) (m_y : Nat → Int64) (m_w : Nat → Int64) (m_h : Nat → Int64) (m_r : Nat → Int64) (m_label : Nat → Int32) (m_number : Nat → Int32) (v1 : Int32) {out : Int32 × Int32 × (Nat → Int32) × (Nat → Int32)} (hF : F_M_netOf m_thrown m_pieces m_there m_low m_high m_x m_y m_w m_h m_r m_label m_number v1 = some out) : cn_MW l y_M_netOf b_M_netOf 2 (some .int) r_M_netOf D cy [.ref A_m, .int v1] (w_M_netOf cy A_m A_m_there A_m_low A_m_high A_m_x A_m_y A_m_w A_m_h A_m_r A_m_pinOf A_m_netOfPin A_m_label A_m_number A_m_group m_thrown m_layers m_pieces m_airSquare m_airLow m_airHigh m_there m_low m_high m_x m_y m_w m_h m_r m_label m_number) (some (.int out.1)) (w_M_netOf cy A_m A_m_there A_m_low A_m_high A_m_x A_m_y A_m_w A_m_h A_m_r A_m_pinOf A_m_netOfPin A_m_label A_m_number A_m_group out.2.1 m_layers m_pieces m_airSquare m_airLow m_airHigh m_there m_low m_high m_x m_y m_w m_h m_r out.2.2.1 out.2.2.2) 0 0 :=
  cn_MW.of (by decide +kernel) (Nat.le_of_ble_eq_true rfl) (fun p e s m below meth c A C hr hlk hA => t_M_netOf_0 C hr hlk hA A_m A_m_there A_m_low A_m_high A_m_x A_m_y A_m_w A_m_h A_m_r A_m_pinOf A_m_netOfPin A_m_label A_m_number A_m_group m_layers m_airSquare m_airLow m_airHigh m_thrown m_pieces m_there m_low m_high m_x m_y m_w m_h m_r m_label m_number v1 hF)
/-! CopperNetsModel.planOf(I)I -/
abbrev r_M_planOf : Room := { frames := 0, cells := 0, slots := 0, locals := 0 }
abbrev w_M_planOf (cy : Nat → ClassId) (A_m : Nat) (A_m_there : Nat) (A_m_low : Nat) (A_m_high : Nat) (A_m_x : Nat) (A_m_y : Nat) (A_m_w : Nat) (A_m_h : Nat) (A_m_r : Nat) (A_m_pinOf : Nat) (A_m_netOfPin : Nat) (A_m_label : Nat) (A_m_number : Nat) (A_m_group : Nat) (m_thrown : Int32) (m_layers : Int32) (m_pieces : Int32) (m_airSquare : Int64) (m_airLow : Int32) (m_airHigh : Int32) (m_there : Nat → Int32) (m_pinOf : Nat → Int32) (m_netOfPin : Nat → Int32) : va_W := [(A_m, .inr (4, [.int m_thrown, .int m_layers, .int m_pieces, .ref A_m_there, .ref A_m_low, .ref A_m_high, .ref A_m_x, .ref A_m_y, .ref A_m_w, .ref A_m_h, .ref A_m_r, .ref A_m_pinOf, .ref A_m_netOfPin, .ref A_m_label, .ref A_m_number, .ref A_m_group, .long m_airSquare, .int m_airLow, .int m_airHigh])), (A_m_there, .inl (cy 2, 60, .inl m_there)), (A_m_pinOf, .inl (cy 0, 60, .inl m_pinOf)), (A_m_netOfPin, .inl (cy 0, 40, .inl m_netOfPin))]
theorem hs_M_planOf : y_M_planOf.cls ≠ "java/lang/invoke/MethodHandle" ∧ y_M_planOf.cls ≠ "java/lang/invoke/VarHandle" ∧ (parseMethodDescriptor y_M_planOf.desc).map (fun d => d.parameters.length) = some 1 := by decide +kernel
def F_M_planOf_34 (m_there : Nat → Int32) (m_pinOf : Nat → Int32) (m_netOfPin : Nat → Int32) (s0 : Int32) : Option (Int32) := some (s0)
set_option maxRecDepth 100000 in
set_option maxHeartbeats 4000000 in
theorem t_M_planOf_34 {p : Program} {l : Launch} {e : Env} {s : State} {m : MethodId} {args : Array Value} {below : List Frame} {meth : Method} {c : Code} {D : va_G} {cy : Nat → ClassId} {out : Int32} (C : cn_X p s m args c b_M_planOf 2 "CopperNetsModel" D cy) (hr : meth.sig.returnType = some .int) (hlk : meth.locks = false) (A_m : Nat) (A_m_there : Nat) (A_m_low : Nat) (A_m_high : Nat) (A_m_x : Nat) (A_m_y : Nat) (A_m_w : Nat) (A_m_h : Nat) (A_m_r : Nat) (A_m_pinOf : Nat) (A_m_netOfPin : Nat) (A_m_label : Nat) (A_m_number : Nat) (A_m_group : Nat) (m_thrown : Int32) (m_layers : Int32) (m_pieces : Int32) (m_airSquare : Int64) (m_airLow : Int32) (m_airHigh : Int32) (m_there : Nat → Int32) (m_pinOf : Nat → Int32) (m_netOfPin : Nat → Int32) (s0 : Int32) (hF : F_M_planOf_34 m_there m_pinOf m_netOfPin s0 = some out) : cg p l e r_M_planOf s m args below meth c D (cn_hi s) (fun _ => True) 2 0 0 (MQ below (cn_QR (some (.int out))) args s 0 0 (fun _ => False)) (w_M_planOf cy A_m A_m_there A_m_low A_m_high A_m_x A_m_y A_m_w A_m_h A_m_r A_m_pinOf A_m_netOfPin A_m_label A_m_number A_m_group m_thrown m_layers m_pieces m_airSquare m_airLow m_airHigh m_there m_pinOf m_netOfPin) 34 [] [.int s0] := by
  obtain rfl := Option.some.inj hF
  exact cg_iretR C hr hlk d_M_planOf_34
def F_M_planOf_19 (m_there : Nat → Int32) (m_pinOf : Nat → Int32) (m_netOfPin : Nat → Int32) : Option (Int32) := F_M_planOf_34 m_there m_pinOf m_netOfPin (-1)
set_option maxRecDepth 100000 in
set_option maxHeartbeats 4000000 in
theorem t_M_planOf_19 {p : Program} {l : Launch} {e : Env} {s : State} {m : MethodId} {args : Array Value} {below : List Frame} {meth : Method} {c : Code} {D : va_G} {cy : Nat → ClassId} {out : Int32} (C : cn_X p s m args c b_M_planOf 2 "CopperNetsModel" D cy) (hr : meth.sig.returnType = some .int) (hlk : meth.locks = false) (A_m : Nat) (A_m_there : Nat) (A_m_low : Nat) (A_m_high : Nat) (A_m_x : Nat) (A_m_y : Nat) (A_m_w : Nat) (A_m_h : Nat) (A_m_r : Nat) (A_m_pinOf : Nat) (A_m_netOfPin : Nat) (A_m_label : Nat) (A_m_number : Nat) (A_m_group : Nat) (m_thrown : Int32) (m_layers : Int32) (m_pieces : Int32) (m_airSquare : Int64) (m_airLow : Int32) (m_airHigh : Int32) (m_there : Nat → Int32) (m_pinOf : Nat → Int32) (m_netOfPin : Nat → Int32) (hF : F_M_planOf_19 m_there m_pinOf m_netOfPin = some out) : cg p l e r_M_planOf s m args below meth c D (cn_hi s) (fun _ => True) 2 0 0 (MQ below (cn_QR (some (.int out))) args s 0 0 (fun _ => False)) (w_M_planOf cy A_m A_m_there A_m_low A_m_high A_m_x A_m_y A_m_w A_m_h A_m_r A_m_pinOf A_m_netOfPin A_m_label A_m_number A_m_group m_thrown m_layers m_pieces m_airSquare m_airLow m_airHigh m_there m_pinOf m_netOfPin) 19 [] [] := by
  refine cg_iconst (v := (-1)) C d_M_planOf_19 (by decide) ?_
  refine cg_goto C 34 d_M_planOf_20 (by decide) ?_
  exact t_M_planOf_34 C hr hlk A_m A_m_there A_m_low A_m_high A_m_x A_m_y A_m_w A_m_h A_m_r A_m_pinOf A_m_netOfPin A_m_label A_m_number A_m_group m_thrown m_layers m_pieces m_airSquare m_airLow m_airHigh m_there m_pinOf m_netOfPin (-1) hF
def F_M_planOf_0 (m_there : Nat → Int32) (m_pinOf : Nat → Int32) (m_netOfPin : Nat → Int32) (v1 : Int32) : Option (Int32) := cn_rd v1 60 (if (m_pinOf (Int32.toNatClampNeg v1)) = (-1) then (F_M_planOf_19 m_there m_pinOf m_netOfPin) else (cn_rd v1 60 (if (m_there (Int32.toNatClampNeg v1)) = 0 then (F_M_planOf_19 m_there m_pinOf m_netOfPin) else (cn_rd v1 60 (cn_rd (m_pinOf (Int32.toNatClampNeg v1)) 40 (F_M_planOf_34 m_there m_pinOf m_netOfPin (m_netOfPin (Int32.toNatClampNeg (m_pinOf (Int32.toNatClampNeg v1))))))))))
set_option maxRecDepth 100000 in
set_option maxHeartbeats 4000000 in
theorem t_M_planOf_0 {p : Program} {l : Launch} {e : Env} {s : State} {m : MethodId} {args : Array Value} {below : List Frame} {meth : Method} {c : Code} {D : va_G} {cy : Nat → ClassId} {out : Int32} (C : cn_X p s m args c b_M_planOf 2 "CopperNetsModel" D cy) (hr : meth.sig.returnType = some .int) (hlk : meth.locks = false) (A_m : Nat) (A_m_there : Nat) (A_m_low : Nat) (A_m_high : Nat) (A_m_x : Nat) (A_m_y : Nat) (A_m_w : Nat) (A_m_h : Nat) (A_m_r : Nat) (A_m_pinOf : Nat) (A_m_netOfPin : Nat) (A_m_label : Nat) (A_m_number : Nat) (A_m_group : Nat) (m_thrown : Int32) (m_layers : Int32) (m_pieces : Int32) (m_airSquare : Int64) (m_airLow : Int32) (m_airHigh : Int32) (m_there : Nat → Int32) (m_pinOf : Nat → Int32) (m_netOfPin : Nat → Int32) (v1 : Int32) (hF : F_M_planOf_0 m_there m_pinOf m_netOfPin v1 = some out) : cg p l e r_M_planOf s m args below meth c D (cn_hi s) (fun _ => True) 2 0 0 (MQ below (cn_QR (some (.int out))) args s 0 0 (fun _ => False)) (w_M_planOf cy A_m A_m_there A_m_low A_m_high A_m_x A_m_y A_m_w A_m_h A_m_r A_m_pinOf A_m_netOfPin A_m_label A_m_number A_m_group m_thrown m_layers m_pieces m_airSquare m_airLow m_airHigh m_there m_pinOf m_netOfPin) 0 [(0, .ref A_m), (1, .int v1)] [] := by
  refine cg_aload_n C d_M_planOf_0 0 rfl ?_
  refine cg_get C 0 11 d_M_planOf_1 rfl rfl hin_M (by decide) rfl tw_562 rfl ?_
  refine cg_iload_n C d_M_planOf_4 1 rfl ?_
  obtain ⟨i_1, hF⟩ := cn_rd_some hF
  refine cg_iald C 2 d_M_planOf_5 rfl i_1 ?_
  refine cg_iconst (v := (-1)) C d_M_planOf_6 (by decide) ?_
  refine cg_icmp_eq C 19 d_M_planOf_7 (by decide) (fun q_2 => ?_) (fun q_2 => ?_)
  · have hF := cn_pos q_2 hF
    refine cg_sub (lv' := []) [] rfl ?_
    exact t_M_planOf_19 C hr hlk A_m A_m_there A_m_low A_m_high A_m_x A_m_y A_m_w A_m_h A_m_r A_m_pinOf A_m_netOfPin A_m_label A_m_number A_m_group m_thrown m_layers m_pieces m_airSquare m_airLow m_airHigh m_there m_pinOf m_netOfPin hF
  · have hF := cn_neg q_2 hF
    refine cg_aload_n C d_M_planOf_10 0 rfl ?_
    refine cg_get C 0 3 d_M_planOf_11 rfl rfl hin_M (by decide) rfl tw_554 rfl ?_
    refine cg_iload_n C d_M_planOf_14 1 rfl ?_
    obtain ⟨i_3, hF⟩ := cn_rd_some hF
    refine cg_zald C 1 d_M_planOf_15 rfl i_3 ?_
    refine cg_if_ne C 23 d_M_planOf_16 (by decide) (fun q_4 => ?_) (fun q_4 => ?_)
    · have hF := cn_neg q_4 hF
      refine cg_aload_n C d_M_planOf_23 0 rfl ?_
      refine cg_get C 0 12 d_M_planOf_24 rfl rfl hin_M (by decide) rfl tw_563 rfl ?_
      refine cg_aload_n C d_M_planOf_27 0 rfl ?_
      refine cg_get C 0 11 d_M_planOf_28 rfl rfl hin_M (by decide) rfl tw_562 rfl ?_
      refine cg_iload_n C d_M_planOf_31 1 rfl ?_
      obtain ⟨i_5, hF⟩ := cn_rd_some hF
      refine cg_iald C 2 d_M_planOf_32 rfl i_5 ?_
      obtain ⟨i_6, hF⟩ := cn_rd_some hF
      refine cg_iald C 3 d_M_planOf_33 rfl i_6 ?_
      refine cg_sub (lv' := []) [] rfl ?_
      exact t_M_planOf_34 C hr hlk A_m A_m_there A_m_low A_m_high A_m_x A_m_y A_m_w A_m_h A_m_r A_m_pinOf A_m_netOfPin A_m_label A_m_number A_m_group m_thrown m_layers m_pieces m_airSquare m_airLow m_airHigh m_there m_pinOf m_netOfPin (m_netOfPin (Int32.toNatClampNeg (m_pinOf (Int32.toNatClampNeg v1)))) hF
    · have hF := cn_pos q_4 hF
      refine cg_sub (lv' := []) [] rfl ?_
      exact t_M_planOf_19 C hr hlk A_m A_m_there A_m_low A_m_high A_m_x A_m_y A_m_w A_m_h A_m_r A_m_pinOf A_m_netOfPin A_m_label A_m_number A_m_group m_thrown m_layers m_pieces m_airSquare m_airLow m_airHigh m_there m_pinOf m_netOfPin hF
abbrev F_M_planOf (m_there : Nat → Int32) (m_pinOf : Nat → Int32) (m_netOfPin : Nat → Int32) (v1 : Int32) : Option (Int32) := F_M_planOf_0 m_there m_pinOf m_netOfPin v1
theorem c_M_planOf {l : Launch} {D : va_G} {cy : Nat → ClassId} (A_m : Nat) (A_m_there : Nat) (A_m_low : Nat) (A_m_high : Nat) (A_m_x : Nat) (A_m_y : Nat) (A_m_w : Nat) (A_m_h : Nat) (A_m_r : Nat) (A_m_pinOf : Nat) (A_m_netOfPin : Nat) (A_m_label : Nat) (A_m_number : Nat) (A_m_group : Nat) (m_thrown : Int32) (m_layers : Int32) (m_pieces : Int32) (m_airSquare : Int64) (m_airLow : Int32) (m_airHigh : Int32) (m_there : Nat → Int32) (m_pinOf : Nat → Int32) (m_netOfPin : Nat → Int32) (v1 : Int32) {out : Int32} (hF : F_M_planOf m_there m_pinOf m_netOfPin v1 = some out) : cn_MR l y_M_planOf b_M_planOf 2 (some .int) r_M_planOf D cy [.ref A_m, .int v1] (w_M_planOf cy A_m A_m_there A_m_low A_m_high A_m_x A_m_y A_m_w A_m_h A_m_r A_m_pinOf A_m_netOfPin A_m_label A_m_number A_m_group m_thrown m_layers m_pieces m_airSquare m_airLow m_airHigh m_there m_pinOf m_netOfPin) (some (.int out)) :=
  cn_MR.of (by decide +kernel) (Nat.le_of_ble_eq_true rfl) (fun p e s m below meth c C hr hlk => t_M_planOf_0 C hr hlk A_m A_m_there A_m_low A_m_high A_m_x A_m_y A_m_w A_m_h A_m_r A_m_pinOf A_m_netOfPin A_m_label A_m_number A_m_group m_thrown m_layers m_pieces m_airSquare m_airLow m_airHigh m_there m_pinOf m_netOfPin v1 hF)
