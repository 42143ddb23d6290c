theorem d_G_init_0 : decode b_G_init 0 = .ok (.aload_n 0, 1) := by decide +kernel
theorem d_G_init_1 : decode b_G_init 1 = .ok (.invokespecial 3, 3) := by decide +kernel
theorem d_G_init_4 : decode b_G_init 4 = .ok (.aload_n 0, 1) := by decide +kernel
theorem d_G_init_5 : decode b_G_init 5 = .ok (.bipush 60, 2) := by decide +kernel
theorem d_G_init_7 : decode b_G_init 7 = .ok (.newarray .int, 2) := by decide +kernel
theorem d_G_init_9 : decode b_G_init 9 = .ok (.putfield 9, 3) := by decide +kernel
theorem d_G_init_12 : decode b_G_init 12 = .ok (.aload_n 0, 1) := by decide +kernel
theorem d_G_init_13 : decode b_G_init 13 = .ok (.invokevirtual 15, 3) := by decide +kernel
theorem d_G_init_16 : decode b_G_init 16 = .ok (.return_, 1) := by decide +kernel
theorem d_P_init_0 : decode b_P_init 0 = .ok (.aload_n 0, 1) := by decide +kernel
theorem d_P_init_1 : decode b_P_init 1 = .ok (.invokespecial 3, 3) := by decide +kernel
theorem d_P_init_4 : decode b_P_init 4 = .ok (.aload_n 0, 1) := by decide +kernel
theorem d_P_init_5 : decode b_P_init 5 = .ok (.iconst 0, 1) := by decide +kernel
theorem d_P_init_6 : decode b_P_init 6 = .ok (.putfield 9, 3) := by decide +kernel
theorem d_P_init_9 : decode b_P_init 9 = .ok (.aload_n 0, 1) := by decide +kernel
theorem d_P_init_10 : decode b_P_init 10 = .ok (.bipush 60, 2) := by decide +kernel
theorem d_P_init_12 : decode b_P_init 12 = .ok (.newarray .boolean, 2) := by decide +kernel
theorem d_P_init_14 : decode b_P_init 14 = .ok (.putfield 15, 3) := by decide +kernel
theorem d_P_init_17 : decode b_P_init 17 = .ok (.aload_n 0, 1) := by decide +kernel
theorem d_P_init_18 : decode b_P_init 18 = .ok (.bipush 60, 2) := by decide +kernel
theorem d_P_init_20 : decode b_P_init 20 = .ok (.newarray .int, 2) := by decide +kernel
theorem d_P_init_22 : decode b_P_init 22 = .ok (.putfield 19, 3) := by decide +kernel
theorem d_P_init_25 : decode b_P_init 25 = .ok (.aload_n 0, 1) := by decide +kernel
theorem d_P_init_26 : decode b_P_init 26 = .ok (.bipush 60, 2) := by decide +kernel
theorem d_P_init_28 : decode b_P_init 28 = .ok (.newarray .int, 2) := by decide +kernel
theorem d_P_init_30 : decode b_P_init 30 = .ok (.putfield 23, 3) := by decide +kernel
theorem d_P_init_33 : decode b_P_init 33 = .ok (.aload_n 0, 1) := by decide +kernel
theorem d_P_init_34 : decode b_P_init 34 = .ok (.bipush 60, 2) := by decide +kernel
theorem d_P_init_36 : decode b_P_init 36 = .ok (.newarray .int, 2) := by decide +kernel
theorem d_P_init_38 : decode b_P_init 38 = .ok (.putfield 26, 3) := by decide +kernel
theorem d_P_init_41 : decode b_P_init 41 = .ok (.aload_n 0, 1) := by decide +kernel
theorem d_P_init_42 : decode b_P_init 42 = .ok (.bipush 60, 2) := by decide +kernel
theorem d_P_init_44 : decode b_P_init 44 = .ok (.newarray .long, 2) := by decide +kernel
theorem d_P_init_46 : decode b_P_init 46 = .ok (.putfield 29, 3) := by decide +kernel
theorem d_P_init_49 : decode b_P_init 49 = .ok (.aload_n 0, 1) := by decide +kernel
theorem d_P_init_50 : decode b_P_init 50 = .ok (.bipush 60, 2) := by decide +kernel
theorem d_P_init_52 : decode b_P_init 52 = .ok (.newarray .long, 2) := by decide +kernel
theorem d_P_init_54 : decode b_P_init 54 = .ok (.putfield 33, 3) := by decide +kernel
theorem d_P_init_57 : decode b_P_init 57 = .ok (.aload_n 0, 1) := by decide +kernel
theorem d_P_init_58 : decode b_P_init 58 = .ok (.bipush 60, 2) := by decide +kernel
theorem d_P_init_60 : decode b_P_init 60 = .ok (.newarray .long, 2) := by decide +kernel
theorem d_P_init_62 : decode b_P_init 62 = .ok (.putfield 36, 3) := by decide +kernel
theorem d_P_init_65 : decode b_P_init 65 = .ok (.aload_n 0, 1) := by decide +kernel
theorem d_P_init_66 : decode b_P_init 66 = .ok (.bipush 60, 2) := by decide +kernel
theorem d_P_init_68 : decode b_P_init 68 = .ok (.newarray .long, 2) := by decide +kernel
theorem d_P_init_70 : decode b_P_init 70 = .ok (.putfield 39, 3) := by decide +kernel
theorem d_P_init_73 : decode b_P_init 73 = .ok (.aload_n 0, 1) := by decide +kernel
theorem d_P_init_74 : decode b_P_init 74 = .ok (.bipush 60, 2) := by decide +kernel
theorem d_P_init_76 : decode b_P_init 76 = .ok (.newarray .long, 2) := by decide +kernel
theorem d_P_init_78 : decode b_P_init 78 = .ok (.putfield 42, 3) := by decide +kernel
theorem d_P_init_81 : decode b_P_init 81 = .ok (.return_, 1) := by decide +kernel
theorem d_A_init_0 : decode b_A_init 0 = .ok (.aload_n 0, 1) := by decide +kernel
theorem d_A_init_1 : decode b_A_init 1 = .ok (.invokespecial 3, 3) := by decide +kernel
theorem d_A_init_4 : decode b_A_init 4 = .ok (.aload_n 0, 1) := by decide +kernel
theorem d_A_init_5 : decode b_A_init 5 = .ok (.iconst 0, 1) := by decide +kernel
theorem d_A_init_6 : decode b_A_init 6 = .ok (.putfield 9, 3) := by decide +kernel
theorem d_A_init_9 : decode b_A_init 9 = .ok (.aload_n 0, 1) := by decide +kernel
theorem d_A_init_10 : decode b_A_init 10 = .ok (.bipush 60, 2) := by decide +kernel
theorem d_A_init_12 : decode b_A_init 12 = .ok (.newarray .long, 2) := by decide +kernel
theorem d_A_init_14 : decode b_A_init 14 = .ok (.putfield 15, 3) := by decide +kernel
theorem d_A_init_17 : decode b_A_init 17 = .ok (.aload_n 0, 1) := by decide +kernel
theorem d_A_init_18 : decode b_A_init 18 = .ok (.iconst 0, 1) := by decide +kernel
theorem d_A_init_19 : decode b_A_init 19 = .ok (.putfield 19, 3) := by decide +kernel
theorem d_A_init_22 : decode b_A_init 22 = .ok (.aload_n 0, 1) := by decide +kernel
theorem d_A_init_23 : decode b_A_init 23 = .ok (.bipush 60, 2) := by decide +kernel
theorem d_A_init_25 : decode b_A_init 25 = .ok (.newarray .int, 2) := by decide +kernel
theorem d_A_init_27 : decode b_A_init 27 = .ok (.putfield 22, 3) := by decide +kernel
theorem d_A_init_30 : decode b_A_init 30 = .ok (.aload_n 0, 1) := by decide +kernel
theorem d_A_init_31 : decode b_A_init 31 = .ok (.bipush 60, 2) := by decide +kernel
theorem d_A_init_33 : decode b_A_init 33 = .ok (.newarray .boolean, 2) := by decide +kernel
theorem d_A_init_35 : decode b_A_init 35 = .ok (.putfield 26, 3) := by decide +kernel
theorem d_A_init_38 : decode b_A_init 38 = .ok (.aload_n 0, 1) := by decide +kernel
theorem d_A_init_39 : decode b_A_init 39 = .ok (.bipush 60, 2) := by decide +kernel
theorem d_A_init_41 : decode b_A_init 41 = .ok (.newarray .long, 2) := by decide +kernel
theorem d_A_init_43 : decode b_A_init 43 = .ok (.putfield 30, 3) := by decide +kernel
theorem d_A_init_46 : decode b_A_init 46 = .ok (.return_, 1) := by decide +kernel
theorem d_X_init_0 : decode b_X_init 0 = .ok (.aload_n 0, 1) := by decide +kernel
theorem d_X_init_1 : decode b_X_init 1 = .ok (.invokespecial 1, 3) := by decide +kernel
theorem d_X_init_4 : decode b_X_init 4 = .ok (.aload_n 0, 1) := by decide +kernel
theorem d_X_init_5 : decode b_X_init 5 = .ok (.bipush 40, 2) := by decide +kernel
theorem d_X_init_7 : decode b_X_init 7 = .ok (.newarray .int, 2) := by decide +kernel
theorem d_X_init_9 : decode b_X_init 9 = .ok (.putfield 9, 3) := by decide +kernel
theorem d_X_init_12 : decode b_X_init 12 = .ok (.aload_n 0, 1) := by decide +kernel
theorem d_X_init_13 : decode b_X_init 13 = .ok (.new 13, 3) := by decide +kernel
theorem d_X_init_16 : decode b_X_init 16 = .ok (.dup, 1) := by decide +kernel
theorem d_X_init_17 : decode b_X_init 17 = .ok (.invokespecial 15, 3) := by decide +kernel
theorem d_X_init_20 : decode b_X_init 20 = .ok (.putfield 16, 3) := by decide +kernel
theorem d_X_init_23 : decode b_X_init 23 = .ok (.aload_n 0, 1) := by decide +kernel
theorem d_X_init_24 : decode b_X_init 24 = .ok (.new 20, 3) := by decide +kernel
theorem d_X_init_27 : decode b_X_init 27 = .ok (.dup, 1) := by decide +kernel
theorem d_X_init_28 : decode b_X_init 28 = .ok (.invokespecial 22, 3) := by decide +kernel
theorem d_X_init_31 : decode b_X_init 31 = .ok (.putfield 23, 3) := by decide +kernel
theorem d_X_init_34 : decode b_X_init 34 = .ok (.aload_n 0, 1) := by decide +kernel
theorem d_X_init_35 : decode b_X_init 35 = .ok (.new 27, 3) := by decide +kernel
theorem d_X_init_38 : decode b_X_init 38 = .ok (.dup, 1) := by decide +kernel
theorem d_X_init_39 : decode b_X_init 39 = .ok (.invokespecial 29, 3) := by decide +kernel
theorem d_X_init_42 : decode b_X_init 42 = .ok (.putfield 30, 3) := by decide +kernel
theorem d_X_init_45 : decode b_X_init 45 = .ok (.aload_n 0, 1) := by decide +kernel
theorem d_X_init_46 : decode b_X_init 46 = .ok (.new 20, 3) := by decide +kernel
theorem d_X_init_49 : decode b_X_init 49 = .ok (.dup, 1) := by decide +kernel
theorem d_X_init_50 : decode b_X_init 50 = .ok (.invokespecial 22, 3) := by decide +kernel
theorem d_X_init_53 : decode b_X_init 53 = .ok (.putfield 34, 3) := by decide +kernel
theorem d_X_init_56 : decode b_X_init 56 = .ok (.aload_n 0, 1) := by decide +kernel
theorem d_X_init_57 : decode b_X_init 57 = .ok (.bipush 60, 2) := by decide +kernel
theorem d_X_init_59 : decode b_X_init 59 = .ok (.newarray .int, 2) := by decide +kernel
theorem d_X_init_61 : decode b_X_init 61 = .ok (.putfield 37, 3) := by decide +kernel
theorem d_X_init_64 : decode b_X_init 64 = .ok (.aload_n 0, 1) := by decide +kernel
theorem d_X_init_65 : decode b_X_init 65 = .ok (.bipush 60, 2) := by decide +kernel
theorem d_X_init_67 : decode b_X_init 67 = .ok (.newarray .int, 2) := by decide +kernel
theorem d_X_init_69 : decode b_X_init 69 = .ok (.putfield 40, 3) := by decide +kernel
theorem d_X_init_72 : decode b_X_init 72 = .ok (.aload_n 0, 1) := by decide +kernel
theorem d_X_init_73 : decode b_X_init 73 = .ok (.iconst 1, 1) := by decide +kernel
theorem d_X_init_74 : decode b_X_init 74 = .ok (.bipush 8, 2) := by decide +kernel
theorem d_X_init_76 : decode b_X_init 76 = .ok (.iload_n 1, 1) := by decide +kernel
theorem d_X_init_77 : decode b_X_init 77 = .ok (.invokestatic 43, 3) := by decide +kernel
theorem d_X_init_80 : decode b_X_init 80 = .ok (.invokestatic 49, 3) := by decide +kernel
theorem d_X_init_83 : decode b_X_init 83 = .ok (.putfield 52, 3) := by decide +kernel
theorem d_X_init_86 : decode b_X_init 86 = .ok (.aload_n 0, 1) := by decide +kernel
theorem d_X_init_87 : decode b_X_init 87 = .ok (.getfield 9, 3) := by decide +kernel
theorem d_X_init_90 : decode b_X_init 90 = .ok (.iconst (-1), 1) := by decide +kernel
theorem d_X_init_91 : decode b_X_init 91 = .ok (.invokestatic 56, 3) := by decide +kernel
theorem d_X_init_94 : decode b_X_init 94 = .ok (.return_, 1) := by decide +kernel
/-! CopperNets$Groups.<init>()V -/
def F_G_init : Option (Nat → Int32) := (F_G_clear (fun _ => 0)).bind fun t_3 => some (t_3)
abbrev r_G_init : Room := { frames := 2, cells := 1, slots := 60, locals := 43 }
theorem hs_G_init : y_G_init.cls ≠ "java/lang/invoke/MethodHandle" ∧ y_G_init.cls ≠ "java/lang/invoke/VarHandle" ∧ (parseMethodDescriptor y_G_init.desc).map (fun d => d.parameters.length) = some 0 := by decide +kernel
set_option maxRecDepth 100000 in
set_option maxHeartbeats 4000000 in
theorem c_G_init {l : Launch} {D : va_G} {cy : Nat → ClassId} (A0 : Nat) {out : Nat → Int32} (hF : F_G_init = some out) : cn_MC l y_G_init b_G_init 1 r_G_init D cy [.ref A0] [(A0, .inr (2, [.null]))] (fun w => ∃ q1, w = [(A0, .inr (2, [.ref q1])), (q1, .inl (cy 0, 60, .inl out))]) 1 60 := by
  refine cn_MC.of (by decide +kernel) rfl (Nat.le_of_ble_eq_true rfl) ?_
  intro p e s m below meth c A C hr hlk hA hin
  refine cg_sub (lv' := [(0, .ref A0)]) [0] rfl ?_
  refine cg_aload_n C d_G_init_0 0 rfl ?_
  refine cg_objInit C d_G_init_1 tw_69 tw_21 tw_22 ⟨by decide, Nat.le_of_ble_eq_true rfl⟩ ?_
  refine cg_aload_n C d_G_init_4 0 rfl ?_
  refine cg_bipush (v := 60) C d_G_init_5 (by decide) ?_
  refine cg_newI C hA 60 d_G_init_7 tw_61 (by decide) (by decide) (by decide) ⟨by decide, by decide⟩ (fun q1 => ?_)
  refine cg_ws (ws' := [(A0, .inr (2, [.null])), (q1, .inl (cy 0, 60, .inl (fun _ => 0)))]) rfl ?_
  refine cg_putF (ws' := [(A0, .inr (2, [.ref q1])), (q1, .inl (cy 0, 60, .inl (fun _ => 0)))]) C 0 0 t_G d_G_init_9 rfl rfl hin_G tt_G n_G (by decide) rfl tw_77 hin rfl rfl (Nat.le_of_ble_eq_true rfl) rfl ?_
  refine cg_aload_n C d_G_init_12 0 rfl ?_
  obtain ⟨t_3, h_2, hF⟩ := cn_bind hF
  refine cg_callWV C hA (c_G_clear A0 q1 (fun _ => 0) h_2) [0, 1] [] [0, 1] [] [(A0, .inr (2, [.ref q1])), (q1, .inl (cy 0, 60, .inl t_3))] rfl rfl rfl ⟨by decide, by decide, by decide, by decide⟩ 0 rfl rfl d_G_init_13 tw_70 tw_72 ts_0 tw_3 tw_73 hs_G_clear ⟨by decide, by decide⟩ rfl rfl ⟨by decide, by decide⟩ (Nat.le_of_ble_eq_true rfl) rfl rfl ?_
  obtain rfl := Option.some.inj hF
  exact cg_vretC C hr hlk ⟨q1, rfl⟩ d_G_init_16
/-! CopperNets$Pieces.<init>()V -/
abbrev r_P_init : Room := { frames := 1, cells := 9, slots := 540, locals := 20 }
theorem hs_P_init : y_P_init.cls ≠ "java/lang/invoke/MethodHandle" ∧ y_P_init.cls ≠ "java/lang/invoke/VarHandle" ∧ (parseMethodDescriptor y_P_init.desc).map (fun d => d.parameters.length) = some 0 := by decide +kernel
set_option maxRecDepth 100000 in
set_option maxHeartbeats 4000000 in
theorem c_P_init {l : Launch} {D : va_G} {cy : Nat → ClassId} (A0 : Nat) : cn_MC l y_P_init b_P_init 1 r_P_init D cy [.ref A0] [(A0, .inr (3, [.int 0, .null, .null, .null, .null, .null, .null, .null, .null, .null]))] (fun w => ∃ q1 q2 q3 q4 q5 q6 q7 q8 q9, w = [(A0, .inr (3, [.int 0, .ref q1, .ref q2, .ref q3, .ref q4, .ref q5, .ref q6, .ref q7, .ref q8, .ref q9])), (q1, .inl (cy 2, 60, .inl (fun _ => 0))), (q2, .inl (cy 0, 60, .inl (fun _ => 0))), (q3, .inl (cy 0, 60, .inl (fun _ => 0))), (q4, .inl (cy 0, 60, .inl (fun _ => 0))), (q5, .inl (cy 1, 60, .inr (.inl (fun _ => 0)))), (q6, .inl (cy 1, 60, .inr (.inl (fun _ => 0)))), (q7, .inl (cy 1, 60, .inr (.inl (fun _ => 0)))), (q8, .inl (cy 1, 60, .inr (.inl (fun _ => 0)))), (q9, .inl (cy 1, 60, .inr (.inl (fun _ => 0))))]) 9 540 := by
  refine cn_MC.of (by decide +kernel) rfl (Nat.le_of_ble_eq_true rfl) ?_
  intro p e s m below meth c A C hr hlk hA hin
  refine cg_sub (lv' := [(0, .ref A0)]) [0] rfl ?_
  refine cg_aload_n C d_P_init_0 0 rfl ?_
  refine cg_objInit C d_P_init_1 tw_28 tw_21 tw_22 ⟨by decide, Nat.le_of_ble_eq_true rfl⟩ ?_
  refine cg_aload_n C d_P_init_4 0 rfl ?_
  refine cg_iconst (v := 0) C d_P_init_5 (by decide) ?_
  refine cg_put (ws' := [(A0, .inr (3, [.int 0, .null, .null, .null, .null, .null, .null, .null, .null, .null]))]) C 0 0 t_P d_P_init_6 rfl rfl hin_P tt_P n_P (by decide) rfl tw_29 rfl rfl (Nat.le_of_ble_eq_true rfl) rfl ?_
  refine cg_aload_n C d_P_init_9 0 rfl ?_
  refine cg_bipush (v := 60) C d_P_init_10 (by decide) ?_
  refine cg_newZ C hA 60 d_P_init_12 tw_62 (by decide) (by decide) (by decide) ⟨by decide, by decide⟩ (fun q1 => ?_)
  refine cg_ws (ws' := [(A0, .inr (3, [.int 0, .null, .null, .null, .null, .null, .null, .null, .null, .null])), (q1, .inl (cy 2, 60, .inl (fun _ => 0)))]) rfl ?_
  refine cg_putF (ws' := [(A0, .inr (3, [.int 0, .ref q1, .null, .null, .null, .null, .null, .null, .null, .null])), (q1, .inl (cy 2, 60, .inl (fun _ => 0)))]) C 0 1 t_P d_P_init_14 rfl rfl hin_P tt_P n_P (by decide) rfl tw_31 hin rfl rfl (Nat.le_of_ble_eq_true rfl) rfl ?_
  refine cg_aload_n C d_P_init_17 0 rfl ?_
  refine cg_bipush (v := 60) C d_P_init_18 (by decide) ?_
  refine cg_newI C hA 60 d_P_init_20 tw_61 (by decide) (by decide) (by decide) ⟨by decide, by decide⟩ (fun q2 => ?_)
  refine cg_ws (ws' := [(A0, .inr (3, [.int 0, .ref q1, .null, .null, .null, .null, .null, .null, .null, .null])), (q1, .inl (cy 2, 60, .inl (fun _ => 0))), (q2, .inl (cy 0, 60, .inl (fun _ => 0)))]) rfl ?_
  refine cg_putF (ws' := [(A0, .inr (3, [.int 0, .ref q1, .ref q2, .null, .null, .null, .null, .null, .null, .null])), (q1, .inl (cy 2, 60, .inl (fun _ => 0))), (q2, .inl (cy 0, 60, .inl (fun _ => 0)))]) C 0 2 t_P d_P_init_22 rfl rfl hin_P tt_P n_P (by decide) rfl tw_32 hin rfl rfl (Nat.le_of_ble_eq_true rfl) rfl ?_
  refine cg_aload_n C d_P_init_25 0 rfl ?_
  refine cg_bipush (v := 60) C d_P_init_26 (by decide) ?_
  refine cg_newI C hA 60 d_P_init_28 tw_61 (by decide) (by decide) (by decide) ⟨by decide, by decide⟩ (fun q3 => ?_)
  refine cg_ws (ws' := [(A0, .inr (3, [.int 0, .ref q1, .ref q2, .null, .null, .null, .null, .null, .null, .null])), (q1, .inl (cy 2, 60, .inl (fun _ => 0))), (q2, .inl (cy 0, 60, .inl (fun _ => 0))), (q3, .inl (cy 0, 60, .inl (fun _ => 0)))]) rfl ?_
  refine cg_putF (ws' := [(A0, .inr (3, [.int 0, .ref q1, .ref q2, .ref q3, .null, .null, .null, .null, .null, .null])), (q1, .inl (cy 2, 60, .inl (fun _ => 0))), (q2, .inl (cy 0, 60, .inl (fun _ => 0))), (q3, .inl (cy 0, 60, .inl (fun _ => 0)))]) C 0 3 t_P d_P_init_30 rfl rfl hin_P tt_P n_P (by decide) rfl tw_33 hin rfl rfl (Nat.le_of_ble_eq_true rfl) rfl ?_
  refine cg_aload_n C d_P_init_33 0 rfl ?_
  refine cg_bipush (v := 60) C d_P_init_34 (by decide) ?_
  refine cg_newI C hA 60 d_P_init_36 tw_61 (by decide) (by decide) (by decide) ⟨by decide, by decide⟩ (fun q4 => ?_)
  refine cg_ws (ws' := [(A0, .inr (3, [.int 0, .ref q1, .ref q2, .ref q3, .null, .null, .null, .null, .null, .null])), (q1, .inl (cy 2, 60, .inl (fun _ => 0))), (q2, .inl (cy 0, 60, .inl (fun _ => 0))), (q3, .inl (cy 0, 60, .inl (fun _ => 0))), (q4, .inl (cy 0, 60, .inl (fun _ => 0)))]) rfl ?_
  refine cg_putF (ws' := [(A0, .inr (3, [.int 0, .ref q1, .ref q2, .ref q3, .ref q4, .null, .null, .null, .null, .null])), (q1, .inl (cy 2, 60, .inl (fun _ => 0))), (q2, .inl (cy 0, 60, .inl (fun _ => 0))), (q3, .inl (cy 0, 60, .inl (fun _ => 0))), (q4, .inl (cy 0, 60, .inl (fun _ => 0)))]) C 0 4 t_P d_P_init_38 rfl rfl hin_P tt_P n_P (by decide) rfl tw_34 hin rfl rfl (Nat.le_of_ble_eq_true rfl) rfl ?_
  refine cg_aload_n C d_P_init_41 0 rfl ?_
  refine cg_bipush (v := 60) C d_P_init_42 (by decide) ?_
  refine cg_newJ C hA 60 d_P_init_44 tw_63 (by decide) (by decide) (by decide) ⟨by decide, by decide⟩ (fun q5 => ?_)
  refine cg_ws (ws' := [(A0, .inr (3, [.int 0, .ref q1, .ref q2, .ref q3, .ref q4, .null, .null, .null, .null, .null])), (q1, .inl (cy 2, 60, .inl (fun _ => 0))), (q2, .inl (cy 0, 60, .inl (fun _ => 0))), (q3, .inl (cy 0, 60, .inl (fun _ => 0))), (q4, .inl (cy 0, 60, .inl (fun _ => 0))), (q5, .inl (cy 1, 60, .inr (.inl (fun _ => 0))))]) rfl ?_
  refine cg_putF (ws' := [(A0, .inr (3, [.int 0, .ref q1, .ref q2, .ref q3, .ref q4, .ref q5, .null, .null, .null, .null])), (q1, .inl (cy 2, 60, .inl (fun _ => 0))), (q2, .inl (cy 0, 60, .inl (fun _ => 0))), (q3, .inl (cy 0, 60, .inl (fun _ => 0))), (q4, .inl (cy 0, 60, .inl (fun _ => 0))), (q5, .inl (cy 1, 60, .inr (.inl (fun _ => 0))))]) C 0 5 t_P d_P_init_46 rfl rfl hin_P tt_P n_P (by decide) rfl tw_35 hin rfl rfl (Nat.le_of_ble_eq_true rfl) rfl ?_
  refine cg_aload_n C d_P_init_49 0 rfl ?_
  refine cg_bipush (v := 60) C d_P_init_50 (by decide) ?_
  refine cg_newJ C hA 60 d_P_init_52 tw_63 (by decide) (by decide) (by decide) ⟨by decide, by decide⟩ (fun q6 => ?_)
  refine cg_ws (ws' := [(A0, .inr (3, [.int 0, .ref q1, .ref q2, .ref q3, .ref q4, .ref q5, .null, .null, .null, .null])), (q1, .inl (cy 2, 60, .inl (fun _ => 0))), (q2, .inl (cy 0, 60, .inl (fun _ => 0))), (q3, .inl (cy 0, 60, .inl (fun _ => 0))), (q4, .inl (cy 0, 60, .inl (fun _ => 0))), (q5, .inl (cy 1, 60, .inr (.inl (fun _ => 0)))), (q6, .inl (cy 1, 60, .inr (.inl (fun _ => 0))))]) rfl ?_
  refine cg_putF (ws' := [(A0, .inr (3, [.int 0, .ref q1, .ref q2, .ref q3, .ref q4, .ref q5, .ref q6, .null, .null, .null])), (q1, .inl (cy 2, 60, .inl (fun _ => 0))), (q2, .inl (cy 0, 60, .inl (fun _ => 0))), (q3, .inl (cy 0, 60, .inl (fun _ => 0))), (q4, .inl (cy 0, 60, .inl (fun _ => 0))), (q5, .inl (cy 1, 60, .inr (.inl (fun _ => 0)))), (q6, .inl (cy 1, 60, .inr (.inl (fun _ => 0))))]) C 0 6 t_P d_P_init_54 rfl rfl hin_P tt_P n_P (by decide) rfl tw_36 hin rfl rfl (Nat.le_of_ble_eq_true rfl) rfl ?_
  refine cg_aload_n C d_P_init_57 0 rfl ?_
  refine cg_bipush (v := 60) C d_P_init_58 (by decide) ?_
  refine cg_newJ C hA 60 d_P_init_60 tw_63 (by decide) (by decide) (by decide) ⟨by decide, by decide⟩ (fun q7 => ?_)
  refine cg_ws (ws' := [(A0, .inr (3, [.int 0, .ref q1, .ref q2, .ref q3, .ref q4, .ref q5, .ref q6, .null, .null, .null])), (q1, .inl (cy 2, 60, .inl (fun _ => 0))), (q2, .inl (cy 0, 60, .inl (fun _ => 0))), (q3, .inl (cy 0, 60, .inl (fun _ => 0))), (q4, .inl (cy 0, 60, .inl (fun _ => 0))), (q5, .inl (cy 1, 60, .inr (.inl (fun _ => 0)))), (q6, .inl (cy 1, 60, .inr (.inl (fun _ => 0)))), (q7, .inl (cy 1, 60, .inr (.inl (fun _ => 0))))]) rfl ?_
  refine cg_putF (ws' := [(A0, .inr (3, [.int 0, .ref q1, .ref q2, .ref q3, .ref q4, .ref q5, .ref q6, .ref q7, .null, .null])), (q1, .inl (cy 2, 60, .inl (fun _ => 0))), (q2, .inl (cy 0, 60, .inl (fun _ => 0))), (q3, .inl (cy 0, 60, .inl (fun _ => 0))), (q4, .inl (cy 0, 60, .inl (fun _ => 0))), (q5, .inl (cy 1, 60, .inr (.inl (fun _ => 0)))), (q6, .inl (cy 1, 60, .inr (.inl (fun _ => 0)))), (q7, .inl (cy 1, 60, .inr (.inl (fun _ => 0))))]) C 0 7 t_P d_P_init_62 rfl rfl hin_P tt_P n_P (by decide) rfl tw_37 hin rfl rfl (Nat.le_of_ble_eq_true rfl) rfl ?_
  refine cg_aload_n C d_P_init_65 0 rfl ?_
  refine cg_bipush (v := 60) C d_P_init_66 (by decide) ?_
  refine cg_newJ C hA 60 d_P_init_68 tw_63 (by decide) (by decide) (by decide) ⟨by decide, by decide⟩ (fun q8 => ?_)
  refine cg_ws (ws' := [(A0, .inr (3, [.int 0, .ref q1, .ref q2, .ref q3, .ref q4, .ref q5, .ref q6, .ref q7, .null, .null])), (q1, .inl (cy 2, 60, .inl (fun _ => 0))), (q2, .inl (cy 0, 60, .inl (fun _ => 0))), (q3, .inl (cy 0, 60, .inl (fun _ => 0))), (q4, .inl (cy 0, 60, .inl (fun _ => 0))), (q5, .inl (cy 1, 60, .inr (.inl (fun _ => 0)))), (q6, .inl (cy 1, 60, .inr (.inl (fun _ => 0)))), (q7, .inl (cy 1, 60, .inr (.inl (fun _ => 0)))), (q8, .inl (cy 1, 60, .inr (.inl (fun _ => 0))))]) rfl ?_
  refine cg_putF (ws' := [(A0, .inr (3, [.int 0, .ref q1, .ref q2, .ref q3, .ref q4, .ref q5, .ref q6, .ref q7, .ref q8, .null])), (q1, .inl (cy 2, 60, .inl (fun _ => 0))), (q2, .inl (cy 0, 60, .inl (fun _ => 0))), (q3, .inl (cy 0, 60, .inl (fun _ => 0))), (q4, .inl (cy 0, 60, .inl (fun _ => 0))), (q5, .inl (cy 1, 60, .inr (.inl (fun _ => 0)))), (q6, .inl (cy 1, 60, .inr (.inl (fun _ => 0)))), (q7, .inl (cy 1, 60, .inr (.inl (fun _ => 0)))), (q8, .inl (cy 1, 60, .inr (.inl (fun _ => 0))))]) C 0 8 t_P d_P_init_70 rfl rfl hin_P tt_P n_P (by decide) rfl tw_38 hin rfl rfl (Nat.le_of_ble_eq_true rfl) rfl ?_
  refine cg_aload_n C d_P_init_73 0 rfl ?_
  refine cg_bipush (v := 60) C d_P_init_74 (by decide) ?_
  refine cg_newJ C hA 60 d_P_init_76 tw_63 (by decide) (by decide) (by decide) ⟨by decide, by decide⟩ (fun q9 => ?_)
  refine cg_ws (ws' := [(A0, .inr (3, [.int 0, .ref q1, .ref q2, .ref q3, .ref q4, .ref q5, .ref q6, .ref q7, .ref q8, .null])), (q1, .inl (cy 2, 60, .inl (fun _ => 0))), (q2, .inl (cy 0, 60, .inl (fun _ => 0))), (q3, .inl (cy 0, 60, .inl (fun _ => 0))), (q4, .inl (cy 0, 60, .inl (fun _ => 0))), (q5, .inl (cy 1, 60, .inr (.inl (fun _ => 0)))), (q6, .inl (cy 1, 60, .inr (.inl (fun _ => 0)))), (q7, .inl (cy 1, 60, .inr (.inl (fun _ => 0)))), (q8, .inl (cy 1, 60, .inr (.inl (fun _ => 0)))), (q9, .inl (cy 1, 60, .inr (.inl (fun _ => 0))))]) rfl ?_
  refine cg_putF (ws' := [(A0, .inr (3, [.int 0, .ref q1, .ref q2, .ref q3, .ref q4, .ref q5, .ref q6, .ref q7, .ref q8, .ref q9])), (q1, .inl (cy 2, 60, .inl (fun _ => 0))), (q2, .inl (cy 0, 60, .inl (fun _ => 0))), (q3, .inl (cy 0, 60, .inl (fun _ => 0))), (q4, .inl (cy 0, 60, .inl (fun _ => 0))), (q5, .inl (cy 1, 60, .inr (.inl (fun _ => 0)))), (q6, .inl (cy 1, 60, .inr (.inl (fun _ => 0)))), (q7, .inl (cy 1, 60, .inr (.inl (fun _ => 0)))), (q8, .inl (cy 1, 60, .inr (.inl (fun _ => 0)))), (q9, .inl (cy 1, 60, .inr (.inl (fun _ => 0))))]) C 0 9 t_P d_P_init_78 rfl rfl hin_P tt_P n_P (by decide) rfl tw_39 hin rfl rfl (Nat.le_of_ble_eq_true rfl) rfl ?_
  exact cg_vretC C hr hlk ⟨q1, q2, q3, q4, q5, q6, q7, q8, q9, rfl⟩ d_P_init_81
/-! CopperNets$Airlines.<init>()V -/
abbrev r_A_init : Room := { frames := 1, cells := 4, slots := 240, locals := 20 }
theorem hs_A_init : y_A_init.cls ≠ "java/lang/invoke/MethodHandle" ∧ y_A_init.cls ≠ "java/lang/invoke/VarHandle" ∧ (parseMethodDescriptor y_A_init.desc).map (fun d => d.parameters.length) = some 0 := by decide +kernel
set_option maxRecDepth 100000 in
set_option maxHeartbeats 4000000 in
theorem c_A_init {l : Launch} {D : va_G} {cy : Nat → ClassId} (A0 : Nat) : cn_MC l y_A_init b_A_init 1 r_A_init D cy [.ref A0] [(A0, .inr (1, [.int 0, .null, .int 0, .null, .null, .null]))] (fun w => ∃ q1 q2 q3 q4, w = [(A0, .inr (1, [.int 0, .ref q1, .int 0, .ref q2, .ref q3, .ref q4])), (q1, .inl (cy 1, 60, .inr (.inl (fun _ => 0)))), (q2, .inl (cy 0, 60, .inl (fun _ => 0))), (q3, .inl (cy 2, 60, .inl (fun _ => 0))), (q4, .inl (cy 1, 60, .inr (.inl (fun _ => 0))))]) 4 240 := by
  refine cn_MC.of (by decide +kernel) rfl (Nat.le_of_ble_eq_true rfl) ?_
  intro p e s m below meth c A C hr hlk hA hin
  refine cg_sub (lv' := [(0, .ref A0)]) [0] rfl ?_
  refine cg_aload_n C d_A_init_0 0 rfl ?_
  refine cg_objInit C d_A_init_1 tw_86 tw_21 tw_22 ⟨by decide, Nat.le_of_ble_eq_true rfl⟩ ?_
  refine cg_aload_n C d_A_init_4 0 rfl ?_
  refine cg_iconst (v := 0) C d_A_init_5 (by decide) ?_
  refine cg_put (ws' := [(A0, .inr (1, [.int 0, .null, .int 0, .null, .null, .null]))]) C 0 0 t_A d_A_init_6 rfl rfl hin_A tt_A n_A (by decide) rfl tw_87 rfl rfl (Nat.le_of_ble_eq_true rfl) rfl ?_
  refine cg_aload_n C d_A_init_9 0 rfl ?_
  refine cg_bipush (v := 60) C d_A_init_10 (by decide) ?_
  refine cg_newJ C hA 60 d_A_init_12 tw_63 (by decide) (by decide) (by decide) ⟨by decide, by decide⟩ (fun q1 => ?_)
  refine cg_ws (ws' := [(A0, .inr (1, [.int 0, .null, .int 0, .null, .null, .null])), (q1, .inl (cy 1, 60, .inr (.inl (fun _ => 0))))]) rfl ?_
  refine cg_putF (ws' := [(A0, .inr (1, [.int 0, .ref q1, .int 0, .null, .null, .null])), (q1, .inl (cy 1, 60, .inr (.inl (fun _ => 0))))]) C 0 1 t_A d_A_init_14 rfl rfl hin_A tt_A n_A (by decide) rfl tw_89 hin rfl rfl (Nat.le_of_ble_eq_true rfl) rfl ?_
  refine cg_aload_n C d_A_init_17 0 rfl ?_
  refine cg_iconst (v := 0) C d_A_init_18 (by decide) ?_
  refine cg_put (ws' := [(A0, .inr (1, [.int 0, .ref q1, .int 0, .null, .null, .null])), (q1, .inl (cy 1, 60, .inr (.inl (fun _ => 0))))]) C 0 2 t_A d_A_init_19 rfl rfl hin_A tt_A n_A (by decide) rfl tw_90 rfl rfl (Nat.le_of_ble_eq_true rfl) rfl ?_
  refine cg_aload_n C d_A_init_22 0 rfl ?_
  refine cg_bipush (v := 60) C d_A_init_23 (by decide) ?_
  refine cg_newI C hA 60 d_A_init_25 tw_61 (by decide) (by decide) (by decide) ⟨by decide, by decide⟩ (fun q2 => ?_)
  refine cg_ws (ws' := [(A0, .inr (1, [.int 0, .ref q1, .int 0, .null, .null, .null])), (q1, .inl (cy 1, 60, .inr (.inl (fun _ => 0)))), (q2, .inl (cy 0, 60, .inl (fun _ => 0)))]) rfl ?_
  refine cg_putF (ws' := [(A0, .inr (1, [.int 0, .ref q1, .int 0, .ref q2, .null, .null])), (q1, .inl (cy 1, 60, .inr (.inl (fun _ => 0)))), (q2, .inl (cy 0, 60, .inl (fun _ => 0)))]) C 0 3 t_A d_A_init_27 rfl rfl hin_A tt_A n_A (by decide) rfl tw_91 hin rfl rfl (Nat.le_of_ble_eq_true rfl) rfl ?_
  refine cg_aload_n C d_A_init_30 0 rfl ?_
  refine cg_bipush (v := 60) C d_A_init_31 (by decide) ?_
  refine cg_newZ C hA 60 d_A_init_33 tw_62 (by decide) (by decide) (by decide) ⟨by decide, by decide⟩ (fun q3 => ?_)
  refine cg_ws (ws' := [(A0, .inr (1, [.int 0, .ref q1, .int 0, .ref q2, .null, .null])), (q1, .inl (cy 1, 60, .inr (.inl (fun _ => 0)))), (q2, .inl (cy 0, 60, .inl (fun _ => 0))), (q3, .inl (cy 2, 60, .inl (fun _ => 0)))]) rfl ?_
  refine cg_putF (ws' := [(A0, .inr (1, [.int 0, .ref q1, .int 0, .ref q2, .ref q3, .null])), (q1, .inl (cy 1, 60, .inr (.inl (fun _ => 0)))), (q2, .inl (cy 0, 60, .inl (fun _ => 0))), (q3, .inl (cy 2, 60, .inl (fun _ => 0)))]) C 0 4 t_A d_A_init_35 rfl rfl hin_A tt_A n_A (by decide) rfl tw_92 hin rfl rfl (Nat.le_of_ble_eq_true rfl) rfl ?_
  refine cg_aload_n C d_A_init_38 0 rfl ?_
  refine cg_bipush (v := 60) C d_A_init_39 (by decide) ?_
  refine cg_newJ C hA 60 d_A_init_41 tw_63 (by decide) (by decide) (by decide) ⟨by decide, by decide⟩ (fun q4 => ?_)
  refine cg_ws (ws' := [(A0, .inr (1, [.int 0, .ref q1, .int 0, .ref q2, .ref q3, .null])), (q1, .inl (cy 1, 60, .inr (.inl (fun _ => 0)))), (q2, .inl (cy 0, 60, .inl (fun _ => 0))), (q3, .inl (cy 2, 60, .inl (fun _ => 0))), (q4, .inl (cy 1, 60, .inr (.inl (fun _ => 0))))]) rfl ?_
  refine cg_putF (ws' := [(A0, .inr (1, [.int 0, .ref q1, .int 0, .ref q2, .ref q3, .ref q4])), (q1, .inl (cy 1, 60, .inr (.inl (fun _ => 0)))), (q2, .inl (cy 0, 60, .inl (fun _ => 0))), (q3, .inl (cy 2, 60, .inl (fun _ => 0))), (q4, .inl (cy 1, 60, .inr (.inl (fun _ => 0))))]) C 0 5 t_A d_A_init_43 rfl rfl hin_A tt_A n_A (by decide) rfl tw_93 hin rfl rfl (Nat.le_of_ble_eq_true rfl) rfl ?_
  exact cg_vretC C hr hlk ⟨q1, q2, q3, q4, rfl⟩ d_A_init_46
/-! CopperNets.<init>(I)V -/
def F_X_init (v1 : Int32) : Option (Int32 × (Nat → Int32) × (Nat → Int32) × (Nat → Int32)) := (F_G_init).bind fun t_16 => (F_G_init).bind fun t_27 => (F_jM_min_I 8 v1).bind fun t_32 => (F_jM_max_I 1 t_32).bind fun t_34 => (F_jA_fill 40 (fun _ => 0) (-1)).bind fun t_36 => some (t_34, t_36, t_16, t_27)
abbrev r_X_init : Room := { frames := 3, cells := 22, slots := 1078, locals := 63 }
theorem hs_X_init : y_X_init.cls ≠ "java/lang/invoke/MethodHandle" ∧ y_X_init.cls ≠ "java/lang/invoke/VarHandle" ∧ (parseMethodDescriptor y_X_init.desc).map (fun d => d.parameters.length) = some 1 := by decide +kernel
set_option maxRecDepth 100000 in
set_option maxHeartbeats 4000000 in
theorem c_X_init {l : Launch} {D : va_G} {cy : Nat → ClassId} (A0 : Nat) (v1 : Int32) {out : Int32 × (Nat → Int32) × (Nat → Int32) × (Nat → Int32)} (hF : F_X_init v1 = some out) : cn_MC l y_X_init b_X_init 2 r_X_init D cy [.ref A0, .int v1] [(A0, .inr (0, [.int 0, .null, .null, .null, .null, .null, .null, .null]))] (fun w => ∃ q1 q2 q5 q6 q7 q8 q9 q10 q11 q12 q13 q14 q17 q18 q21 q22 q23 q24 q25 q28 q29 q30, w = [(A0, .inr (0, [.int out.1, .ref q1, .ref q2, .ref q14, .ref q18, .ref q25, .ref q29, .ref q30])), (q1, .inl (cy 0, 40, .inl out.2.1)), (q2, .inr (3, [.int 0, .ref q5, .ref q6, .ref q7, .ref q8, .ref q9, .ref q10, .ref q11, .ref q12, .ref q13])), (q5, .inl (cy 2, 60, .inl (fun _ => 0))), (q6, .inl (cy 0, 60, .inl (fun _ => 0))), (q7, .inl (cy 0, 60, .inl (fun _ => 0))), (q8, .inl (cy 0, 60, .inl (fun _ => 0))), (q9, .inl (cy 1, 60, .inr (.inl (fun _ => 0)))), (q10, .inl (cy 1, 60, .inr (.inl (fun _ => 0)))), (q11, .inl (cy 1, 60, .inr (.inl (fun _ => 0)))), (q12, .inl (cy 1, 60, .inr (.inl (fun _ => 0)))), (q13, .inl (cy 1, 60, .inr (.inl (fun _ => 0)))), (q14, .inr (2, [.ref q17])), (q17, .inl (cy 0, 60, .inl out.2.2.1)), (q18, .inr (1, [.int 0, .ref q21, .int 0, .ref q22, .ref q23, .ref q24])), (q21, .inl (cy 1, 60, .inr (.inl (fun _ => 0)))), (q22, .inl (cy 0, 60, .inl (fun _ => 0))), (q23, .inl (cy 2, 60, .inl (fun _ => 0))), (q24, .inl (cy 1, 60, .inr (.inl (fun _ => 0)))), (q25, .inr (2, [.ref q28])), (q28, .inl (cy 0, 60, .inl out.2.2.2)), (q29, .inl (cy 0, 60, .inl (fun _ => 0))), (q30, .inl (cy 0, 60, .inl (fun _ => 0)))]) 22 1078 := by
  refine cn_MC.of (by decide +kernel) rfl (Nat.le_of_ble_eq_true rfl) ?_
  intro p e s m below meth c A C hr hlk hA hin
  refine cg_sub (lv' := [(0, .ref A0), (1, .int v1)]) [0, 1] rfl ?_
  refine cg_aload_n C d_X_init_0 0 rfl ?_
  refine cg_objInit C d_X_init_1 tw_20 tw_21 tw_22 ⟨by decide, Nat.le_of_ble_eq_true rfl⟩ ?_
  refine cg_aload_n C d_X_init_4 0 rfl ?_
  refine cg_bipush (v := 40) C d_X_init_5 (by decide) ?_
  refine cg_newI C hA 40 d_X_init_7 tw_61 (by decide) (by decide) (by decide) ⟨by decide, by decide⟩ (fun q1 => ?_)
  refine cg_ws (ws' := [(A0, .inr (0, [.int 0, .null, .null, .null, .null, .null, .null, .null])), (q1, .inl (cy 0, 40, .inl (fun _ => 0)))]) rfl ?_
  refine cg_putF (ws' := [(A0, .inr (0, [.int 0, .ref q1, .null, .null, .null, .null, .null, .null])), (q1, .inl (cy 0, 40, .inl (fun _ => 0)))]) C 0 1 t_X d_X_init_9 rfl rfl hin_X tt_X n_X (by decide) rfl tw_115 hin rfl rfl (Nat.le_of_ble_eq_true rfl) rfl ?_
  refine cg_aload_n C d_X_init_12 0 rfl ?_
  refine cg_new (ci := 3) C hA [.int 0, .null, .null, .null, .null, .null, .null, .null, .null, .null] t_P d_X_init_13 rfl hin_P tt_P tw_23 tw_24 tw_2 (fun j hj => match j, hj with | 0, _ => rfl | 1, _ => rfl | 2, _ => rfl | 3, _ => rfl | 4, _ => rfl | 5, _ => rfl | 6, _ => rfl | 7, _ => rfl | 8, _ => rfl | 9, _ => rfl | j + 10, hj => absurd hj (by omega)) ⟨by decide, by decide⟩ (fun q2 => ?_)
  refine cg_ws (ws' := [(A0, .inr (0, [.int 0, .ref q1, .null, .null, .null, .null, .null, .null])), (q1, .inl (cy 0, 40, .inl (fun _ => 0))), (q2, .inr (3, [.int 0, .null, .null, .null, .null, .null, .null, .null, .null, .null]))]) rfl ?_
  refine cg_dup C d_X_init_16 rfl ?_
  refine cg_callCN C hA (c_P_init q2) [2] [0, 1] [(A0, .inr (0, [.int 0, .ref q1, .null, .null, .null, .null, .null, .null])), (q1, .inl (cy 0, 40, .inl (fun _ => 0)))] rfl rfl ⟨by decide, by decide, by decide⟩ d_X_init_17 rfl nM_0 tw_26 tw_2 tw_27 hs_P_init ⟨by decide, by decide⟩ rfl rfl ⟨by decide, by decide⟩ (Nat.le_of_ble_eq_true rfl) rfl ?_
  rintro w' ⟨q5, q6, q7, q8, q9, q10, q11, q12, q13, rfl⟩
  refine cg_ws (ws' := [(A0, .inr (0, [.int 0, .ref q1, .null, .null, .null, .null, .null, .null])), (q1, .inl (cy 0, 40, .inl (fun _ => 0))), (q2, .inr (3, [.int 0, .ref q5, .ref q6, .ref q7, .ref q8, .ref q9, .ref q10, .ref q11, .ref q12, .ref q13])), (q5, .inl (cy 2, 60, .inl (fun _ => 0))), (q6, .inl (cy 0, 60, .inl (fun _ => 0))), (q7, .inl (cy 0, 60, .inl (fun _ => 0))), (q8, .inl (cy 0, 60, .inl (fun _ => 0))), (q9, .inl (cy 1, 60, .inr (.inl (fun _ => 0)))), (q10, .inl (cy 1, 60, .inr (.inl (fun _ => 0)))), (q11, .inl (cy 1, 60, .inr (.inl (fun _ => 0)))), (q12, .inl (cy 1, 60, .inr (.inl (fun _ => 0)))), (q13, .inl (cy 1, 60, .inr (.inl (fun _ => 0))))]) rfl ?_
  refine cg_putF (ws' := [(A0, .inr (0, [.int 0, .ref q1, .ref q2, .null, .null, .null, .null, .null])), (q1, .inl (cy 0, 40, .inl (fun _ => 0))), (q2, .inr (3, [.int 0, .ref q5, .ref q6, .ref q7, .ref q8, .ref q9, .ref q10, .ref q11, .ref q12, .ref q13])), (q5, .inl (cy 2, 60, .inl (fun _ => 0))), (q6, .inl (cy 0, 60, .inl (fun _ => 0))), (q7, .inl (cy 0, 60, .inl (fun _ => 0))), (q8, .inl (cy 0, 60, .inl (fun _ => 0))), (q9, .inl (cy 1, 60, .inr (.inl (fun _ => 0)))), (q10, .inl (cy 1, 60, .inr (.inl (fun _ => 0)))), (q11, .inl (cy 1, 60, .inr (.inl (fun _ => 0)))), (q12, .inl (cy 1, 60, .inr (.inl (fun _ => 0)))), (q13, .inl (cy 1, 60, .inr (.inl (fun _ => 0))))]) C 0 2 t_X d_X_init_20 rfl rfl hin_X tt_X n_X (by decide) rfl tw_116 hin rfl rfl (Nat.le_of_ble_eq_true rfl) rfl ?_
  refine cg_aload_n C d_X_init_23 0 rfl ?_
  refine cg_new (ci := 2) C hA [.null] t_G d_X_init_24 rfl hin_G tt_G tw_64 tw_65 tw_3 (fun j hj => match j, hj with | 0, _ => rfl | j + 1, hj => absurd hj (by omega)) ⟨by decide, by decide⟩ (fun q14 => ?_)
  refine cg_ws (ws' := [(A0, .inr (0, [.int 0, .ref q1, .ref q2, .null, .null, .null, .null, .null])), (q1, .inl (cy 0, 40, .inl (fun _ => 0))), (q2, .inr (3, [.int 0, .ref q5, .ref q6, .ref q7, .ref q8, .ref q9, .ref q10, .ref q11, .ref q12, .ref q13])), (q5, .inl (cy 2, 60, .inl (fun _ => 0))), (q6, .inl (cy 0, 60, .inl (fun _ => 0))), (q7, .inl (cy 0, 60, .inl (fun _ => 0))), (q8, .inl (cy 0, 60, .inl (fun _ => 0))), (q9, .inl (cy 1, 60, .inr (.inl (fun _ => 0)))), (q10, .inl (cy 1, 60, .inr (.inl (fun _ => 0)))), (q11, .inl (cy 1, 60, .inr (.inl (fun _ => 0)))), (q12, .inl (cy 1, 60, .inr (.inl (fun _ => 0)))), (q13, .inl (cy 1, 60, .inr (.inl (fun _ => 0)))), (q14, .inr (2, [.null]))]) rfl ?_
  refine cg_dup C d_X_init_27 rfl ?_
  obtain ⟨t_16, h_15, hF⟩ := cn_bind hF
  refine cg_callCN C hA (c_G_init q14 h_15) [12] [0, 1, 2, 3, 4, 5, 6, 7, 8, 9, 10, 11] [(A0, .inr (0, [.int 0, .ref q1, .ref q2, .null, .null, .null, .null, .null])), (q1, .inl (cy 0, 40, .inl (fun _ => 0))), (q2, .inr (3, [.int 0, .ref q5, .ref q6, .ref q7, .ref q8, .ref q9, .ref q10, .ref q11, .ref q12, .ref q13])), (q5, .inl (cy 2, 60, .inl (fun _ => 0))), (q6, .inl (cy 0, 60, .inl (fun _ => 0))), (q7, .inl (cy 0, 60, .inl (fun _ => 0))), (q8, .inl (cy 0, 60, .inl (fun _ => 0))), (q9, .inl (cy 1, 60, .inr (.inl (fun _ => 0)))), (q10, .inl (cy 1, 60, .inr (.inl (fun _ => 0)))), (q11, .inl (cy 1, 60, .inr (.inl (fun _ => 0)))), (q12, .inl (cy 1, 60, .inr (.inl (fun _ => 0)))), (q13, .inl (cy 1, 60, .inr (.inl (fun _ => 0))))] rfl rfl ⟨by decide, by decide, by decide⟩ d_X_init_28 rfl nM_1 tw_67 tw_3 tw_68 hs_G_init ⟨by decide, by decide⟩ rfl rfl ⟨by decide, by decide⟩ (Nat.le_of_ble_eq_true rfl) rfl ?_
  rintro w' ⟨q17, rfl⟩
  refine cg_ws (ws' := [(A0, .inr (0, [.int 0, .ref q1, .ref q2, .null, .null, .null, .null, .null])), (q1, .inl (cy 0, 40, .inl (fun _ => 0))), (q2, .inr (3, [.int 0, .ref q5, .ref q6, .ref q7, .ref q8, .ref q9, .ref q10, .ref q11, .ref q12, .ref q13])), (q5, .inl (cy 2, 60, .inl (fun _ => 0))), (q6, .inl (cy 0, 60, .inl (fun _ => 0))), (q7, .inl (cy 0, 60, .inl (fun _ => 0))), (q8, .inl (cy 0, 60, .inl (fun _ => 0))), (q9, .inl (cy 1, 60, .inr (.inl (fun _ => 0)))), (q10, .inl (cy 1, 60, .inr (.inl (fun _ => 0)))), (q11, .inl (cy 1, 60, .inr (.inl (fun _ => 0)))), (q12, .inl (cy 1, 60, .inr (.inl (fun _ => 0)))), (q13, .inl (cy 1, 60, .inr (.inl (fun _ => 0)))), (q14, .inr (2, [.ref q17])), (q17, .inl (cy 0, 60, .inl t_16))]) rfl ?_
  refine cg_putF (ws' := [(A0, .inr (0, [.int 0, .ref q1, .ref q2, .ref q14, .null, .null, .null, .null])), (q1, .inl (cy 0, 40, .inl (fun _ => 0))), (q2, .inr (3, [.int 0, .ref q5, .ref q6, .ref q7, .ref q8, .ref q9, .ref q10, .ref q11, .ref q12, .ref q13])), (q5, .inl (cy 2, 60, .inl (fun _ => 0))), (q6, .inl (cy 0, 60, .inl (fun _ => 0))), (q7, .inl (cy 0, 60, .inl (fun _ => 0))), (q8, .inl (cy 0, 60, .inl (fun _ => 0))), (q9, .inl (cy 1, 60, .inr (.inl (fun _ => 0)))), (q10, .inl (cy 1, 60, .inr (.inl (fun _ => 0)))), (q11, .inl (cy 1, 60, .inr (.inl (fun _ => 0)))), (q12, .inl (cy 1, 60, .inr (.inl (fun _ => 0)))), (q13, .inl (cy 1, 60, .inr (.inl (fun _ => 0)))), (q14, .inr (2, [.ref q17])), (q17, .inl (cy 0, 60, .inl t_16))]) C 0 3 t_X d_X_init_31 rfl rfl hin_X tt_X n_X (by decide) rfl tw_117 hin rfl rfl (Nat.le_of_ble_eq_true rfl) rfl ?_
  refine cg_aload_n C d_X_init_34 0 rfl ?_
  refine cg_new (ci := 1) C hA [.int 0, .null, .int 0, .null, .null, .null] t_A d_X_init_35 rfl hin_A tt_A tw_81 tw_82 tw_5 (fun j hj => match j, hj with | 0, _ => rfl | 1, _ => rfl | 2, _ => rfl | 3, _ => rfl | 4, _ => rfl | 5, _ => rfl | j + 6, hj => absurd hj (by omega)) ⟨by decide, by decide⟩ (fun q18 => ?_)
  refine cg_ws (ws' := [(A0, .inr (0, [.int 0, .ref q1, .ref q2, .ref q14, .null, .null, .null, .null])), (q1, .inl (cy 0, 40, .inl (fun _ => 0))), (q2, .inr (3, [.int 0, .ref q5, .ref q6, .ref q7, .ref q8, .ref q9, .ref q10, .ref q11, .ref q12, .ref q13])), (q5, .inl (cy 2, 60, .inl (fun _ => 0))), (q6, .inl (cy 0, 60, .inl (fun _ => 0))), (q7, .inl (cy 0, 60, .inl (fun _ => 0))), (q8, .inl (cy 0, 60, .inl (fun _ => 0))), (q9, .inl (cy 1, 60, .inr (.inl (fun _ => 0)))), (q10, .inl (cy 1, 60, .inr (.inl (fun _ => 0)))), (q11, .inl (cy 1, 60, .inr (.inl (fun _ => 0)))), (q12, .inl (cy 1, 60, .inr (.inl (fun _ => 0)))), (q13, .inl (cy 1, 60, .inr (.inl (fun _ => 0)))), (q14, .inr (2, [.ref q17])), (q17, .inl (cy 0, 60, .inl t_16)), (q18, .inr (1, [.int 0, .null, .int 0, .null, .null, .null]))]) rfl ?_
  refine cg_dup C d_X_init_38 rfl ?_
  refine cg_callCN C hA (c_A_init q18) [14] [0, 1, 2, 3, 4, 5, 6, 7, 8, 9, 10, 11, 12, 13] [(A0, .inr (0, [.int 0, .ref q1, .ref q2, .ref q14, .null, .null, .null, .null])), (q1, .inl (cy 0, 40, .inl (fun _ => 0))), (q2, .inr (3, [.int 0, .ref q5, .ref q6, .ref q7, .ref q8, .ref q9, .ref q10, .ref q11, .ref q12, .ref q13])), (q5, .inl (cy 2, 60, .inl (fun _ => 0))), (q6, .inl (cy 0, 60, .inl (fun _ => 0))), (q7, .inl (cy 0, 60, .inl (fun _ => 0))), (q8, .inl (cy 0, 60, .inl (fun _ => 0))), (q9, .inl (cy 1, 60, .inr (.inl (fun _ => 0)))), (q10, .inl (cy 1, 60, .inr (.inl (fun _ => 0)))), (q11, .inl (cy 1, 60, .inr (.inl (fun _ => 0)))), (q12, .inl (cy 1, 60, .inr (.inl (fun _ => 0)))), (q13, .inl (cy 1, 60, .inr (.inl (fun _ => 0)))), (q14, .inr (2, [.ref q17])), (q17, .inl (cy 0, 60, .inl t_16))] rfl rfl ⟨by decide, by decide, by decide⟩ d_X_init_39 rfl nM_2 tw_84 tw_5 tw_85 hs_A_init ⟨by decide, by decide⟩ rfl rfl ⟨by decide, by decide⟩ (Nat.le_of_ble_eq_true rfl) rfl ?_
  rintro w' ⟨q21, q22, q23, q24, rfl⟩
  refine cg_ws (ws' := [(A0, .inr (0, [.int 0, .ref q1, .ref q2, .ref q14, .null, .null, .null, .null])), (q1, .inl (cy 0, 40, .inl (fun _ => 0))), (q2, .inr (3, [.int 0, .ref q5, .ref q6, .ref q7, .ref q8, .ref q9, .ref q10, .ref q11, .ref q12, .ref q13])), (q5, .inl (cy 2, 60, .inl (fun _ => 0))), (q6, .inl (cy 0, 60, .inl (fun _ => 0))), (q7, .inl (cy 0, 60, .inl (fun _ => 0))), (q8, .inl (cy 0, 60, .inl (fun _ => 0))), (q9, .inl (cy 1, 60, .inr (.inl (fun _ => 0)))), (q10, .inl (cy 1, 60, .inr (.inl (fun _ => 0)))), (q11, .inl (cy 1, 60, .inr (.inl (fun _ => 0)))), (q12, .inl (cy 1, 60, .inr (.inl (fun _ => 0)))), (q13, .inl (cy 1, 60, .inr (.inl (fun _ => 0)))), (q14, .inr (2, [.ref q17])), (q17, .inl (cy 0, 60, .inl t_16)), (q18, .inr (1, [.int 0, .ref q21, .int 0, .ref q22, .ref q23, .ref q24])), (q21, .inl (cy 1, 60, .inr (.inl (fun _ => 0)))), (q22, .inl (cy 0, 60, .inl (fun _ => 0))), (q23, .inl (cy 2, 60, .inl (fun _ => 0))), (q24, .inl (cy 1, 60, .inr (.inl (fun _ => 0))))]) rfl ?_
  refine cg_putF (ws' := [(A0, .inr (0, [.int 0, .ref q1, .ref q2, .ref q14, .ref q18, .null, .null, .null])), (q1, .inl (cy 0, 40, .inl (fun _ => 0))), (q2, .inr (3, [.int 0, .ref q5, .ref q6, .ref q7, .ref q8, .ref q9, .ref q10, .ref q11, .ref q12, .ref q13])), (q5, .inl (cy 2, 60, .inl (fun _ => 0))), (q6, .inl (cy 0, 60, .inl (fun _ => 0))), (q7, .inl (cy 0, 60, .inl (fun _ => 0))), (q8, .inl (cy 0, 60, .inl (fun _ => 0))), (q9, .inl (cy 1, 60, .inr (.inl (fun _ => 0)))), (q10, .inl (cy 1, 60, .inr (.inl (fun _ => 0)))), (q11, .inl (cy 1, 60, .inr (.inl (fun _ => 0)))), (q12, .inl (cy 1, 60, .inr (.inl (fun _ => 0)))), (q13, .inl (cy 1, 60, .inr (.inl (fun _ => 0)))), (q14, .inr (2, [.ref q17])), (q17, .inl (cy 0, 60, .inl t_16)), (q18, .inr (1, [.int 0, .ref q21, .int 0, .ref q22, .ref q23, .ref q24])), (q21, .inl (cy 1, 60, .inr (.inl (fun _ => 0)))), (q22, .inl (cy 0, 60, .inl (fun _ => 0))), (q23, .inl (cy 2, 60, .inl (fun _ => 0))), (q24, .inl (cy 1, 60, .inr (.inl (fun _ => 0))))]) C 0 4 t_X d_X_init_42 rfl rfl hin_X tt_X n_X (by decide) rfl tw_118 hin rfl rfl (Nat.le_of_ble_eq_true rfl) rfl ?_
  refine cg_aload_n C d_X_init_45 0 rfl ?_
  refine cg_new (ci := 2) C hA [.null] t_G d_X_init_46 rfl hin_G tt_G tw_64 tw_65 tw_3 (fun j hj => match j, hj with | 0, _ => rfl | j + 1, hj => absurd hj (by omega)) ⟨by decide, by decide⟩ (fun q25 => ?_)
  refine cg_ws (ws' := [(A0, .inr (0, [.int 0, .ref q1, .ref q2, .ref q14, .ref q18, .null, .null, .null])), (q1, .inl (cy 0, 40, .inl (fun _ => 0))), (q2, .inr (3, [.int 0, .ref q5, .ref q6, .ref q7, .ref q8, .ref q9, .ref q10, .ref q11, .ref q12, .ref q13])), (q5, .inl (cy 2, 60, .inl (fun _ => 0))), (q6, .inl (cy 0, 60, .inl (fun _ => 0))), (q7, .inl (cy 0, 60, .inl (fun _ => 0))), (q8, .inl (cy 0, 60, .inl (fun _ => 0))), (q9, .inl (cy 1, 60, .inr (.inl (fun _ => 0)))), (q10, .inl (cy 1, 60, .inr (.inl (fun _ => 0)))), (q11, .inl (cy 1, 60, .inr (.inl (fun _ => 0)))), (q12, .inl (cy 1, 60, .inr (.inl (fun _ => 0)))), (q13, .inl (cy 1, 60, .inr (.inl (fun _ => 0)))), (q14, .inr (2, [.ref q17])), (q17, .inl (cy 0, 60, .inl t_16)), (q18, .inr (1, [.int 0, .ref q21, .int 0, .ref q22, .ref q23, .ref q24])), (q21, .inl (cy 1, 60, .inr (.inl (fun _ => 0)))), (q22, .inl (cy 0, 60, .inl (fun _ => 0))), (q23, .inl (cy 2, 60, .inl (fun _ => 0))), (q24, .inl (cy 1, 60, .inr (.inl (fun _ => 0)))), (q25, .inr (2, [.null]))]) rfl ?_
  refine cg_dup C d_X_init_49 rfl ?_
  obtain ⟨t_27, h_26, hF⟩ := cn_bind hF
  refine cg_callCN C hA (c_G_init q25 h_26) [19] [0, 1, 2, 3, 4, 5, 6, 7, 8, 9, 10, 11, 12, 13, 14, 15, 16, 17, 18] [(A0, .inr (0, [.int 0, .ref q1, .ref q2, .ref q14, .ref q18, .null, .null, .null])), (q1, .inl (cy 0, 40, .inl (fun _ => 0))), (q2, .inr (3, [.int 0, .ref q5, .ref q6, .ref q7, .ref q8, .ref q9, .ref q10, .ref q11, .ref q12, .ref q13])), (q5, .inl (cy 2, 60, .inl (fun _ => 0))), (q6, .inl (cy 0, 60, .inl (fun _ => 0))), (q7, .inl (cy 0, 60, .inl (fun _ => 0))), (q8, .inl (cy 0, 60, .inl (fun _ => 0))), (q9, .inl (cy 1, 60, .inr (.inl (fun _ => 0)))), (q10, .inl (cy 1, 60, .inr (.inl (fun _ => 0)))), (q11, .inl (cy 1, 60, .inr (.inl (fun _ => 0)))), (q12, .inl (cy 1, 60, .inr (.inl (fun _ => 0)))), (q13, .inl (cy 1, 60, .inr (.inl (fun _ => 0)))), (q14, .inr (2, [.ref q17])), (q17, .inl (cy 0, 60, .inl t_16)), (q18, .inr (1, [.int 0, .ref q21, .int 0, .ref q22, .ref q23, .ref q24])), (q21, .inl (cy 1, 60, .inr (.inl (fun _ => 0)))), (q22, .inl (cy 0, 60, .inl (fun _ => 0))), (q23, .inl (cy 2, 60, .inl (fun _ => 0))), (q24, .inl (cy 1, 60, .inr (.inl (fun _ => 0))))] rfl rfl ⟨by decide, by decide, by decide⟩ d_X_init_50 rfl nM_1 tw_67 tw_3 tw_68 hs_G_init ⟨by decide, by decide⟩ rfl rfl ⟨by decide, by decide⟩ (Nat.le_of_ble_eq_true rfl) rfl ?_
  rintro w' ⟨q28, rfl⟩
  refine cg_ws (ws' := [(A0, .inr (0, [.int 0, .ref q1, .ref q2, .ref q14, .ref q18, .null, .null, .null])), (q1, .inl (cy 0, 40, .inl (fun _ => 0))), (q2, .inr (3, [.int 0, .ref q5, .ref q6, .ref q7, .ref q8, .ref q9, .ref q10, .ref q11, .ref q12, .ref q13])), (q5, .inl (cy 2, 60, .inl (fun _ => 0))), (q6, .inl (cy 0, 60, .inl (fun _ => 0))), (q7, .inl (cy 0, 60, .inl (fun _ => 0))), (q8, .inl (cy 0, 60, .inl (fun _ => 0))), (q9, .inl (cy 1, 60, .inr (.inl (fun _ => 0)))), (q10, .inl (cy 1, 60, .inr (.inl (fun _ => 0)))), (q11, .inl (cy 1, 60, .inr (.inl (fun _ => 0)))), (q12, .inl (cy 1, 60, .inr (.inl (fun _ => 0)))), (q13, .inl (cy 1, 60, .inr (.inl (fun _ => 0)))), (q14, .inr (2, [.ref q17])), (q17, .inl (cy 0, 60, .inl t_16)), (q18, .inr (1, [.int 0, .ref q21, .int 0, .ref q22, .ref q23, .ref q24])), (q21, .inl (cy 1, 60, .inr (.inl (fun _ => 0)))), (q22, .inl (cy 0, 60, .inl (fun _ => 0))), (q23, .inl (cy 2, 60, .inl (fun _ => 0))), (q24, .inl (cy 1, 60, .inr (.inl (fun _ => 0)))), (q25, .inr (2, [.ref q28])), (q28, .inl (cy 0, 60, .inl t_27))]) rfl ?_
  refine cg_putF (ws' := [(A0, .inr (0, [.int 0, .ref q1, .ref q2, .ref q14, .ref q18, .ref q25, .null, .null])), (q1, .inl (cy 0, 40, .inl (fun _ => 0))), (q2, .inr (3, [.int 0, .ref q5, .ref q6, .ref q7, .ref q8, .ref q9, .ref q10, .ref q11, .ref q12, .ref q13])), (q5, .inl (cy 2, 60, .inl (fun _ => 0))), (q6, .inl (cy 0, 60, .inl (fun _ => 0))), (q7, .inl (cy 0, 60, .inl (fun _ => 0))), (q8, .inl (cy 0, 60, .inl (fun _ => 0))), (q9, .inl (cy 1, 60, .inr (.inl (fun _ => 0)))), (q10, .inl (cy 1, 60, .inr (.inl (fun _ => 0)))), (q11, .inl (cy 1, 60, .inr (.inl (fun _ => 0)))), (q12, .inl (cy 1, 60, .inr (.inl (fun _ => 0)))), (q13, .inl (cy 1, 60, .inr (.inl (fun _ => 0)))), (q14, .inr (2, [.ref q17])), (q17, .inl (cy 0, 60, .inl t_16)), (q18, .inr (1, [.int 0, .ref q21, .int 0, .ref q22, .ref q23, .ref q24])), (q21, .inl (cy 1, 60, .inr (.inl (fun _ => 0)))), (q22, .inl (cy 0, 60, .inl (fun _ => 0))), (q23, .inl (cy 2, 60, .inl (fun _ => 0))), (q24, .inl (cy 1, 60, .inr (.inl (fun _ => 0)))), (q25, .inr (2, [.ref q28])), (q28, .inl (cy 0, 60, .inl t_27))]) C 0 5 t_X d_X_init_53 rfl rfl hin_X tt_X n_X (by decide) rfl tw_119 hin rfl rfl (Nat.le_of_ble_eq_true rfl) rfl ?_
  refine cg_aload_n C d_X_init_56 0 rfl ?_
  refine cg_bipush (v := 60) C d_X_init_57 (by decide) ?_
  refine cg_newI C hA 60 d_X_init_59 tw_61 (by decide) (by decide) (by decide) ⟨by decide, by decide⟩ (fun q29 => ?_)
  refine cg_ws (ws' := [(A0, .inr (0, [.int 0, .ref q1, .ref q2, .ref q14, .ref q18, .ref q25, .null, .null])), (q1, .inl (cy 0, 40, .inl (fun _ => 0))), (q2, .inr (3, [.int 0, .ref q5, .ref q6, .ref q7, .ref q8, .ref q9, .ref q10, .ref q11, .ref q12, .ref q13])), (q5, .inl (cy 2, 60, .inl (fun _ => 0))), (q6, .inl (cy 0, 60, .inl (fun _ => 0))), (q7, .inl (cy 0, 60, .inl (fun _ => 0))), (q8, .inl (cy 0, 60, .inl (fun _ => 0))), (q9, .inl (cy 1, 60, .inr (.inl (fun _ => 0)))), (q10, .inl (cy 1, 60, .inr (.inl (fun _ => 0)))), (q11, .inl (cy 1, 60, .inr (.inl (fun _ => 0)))), (q12, .inl (cy 1, 60, .inr (.inl (fun _ => 0)))), (q13, .inl (cy 1, 60, .inr (.inl (fun _ => 0)))), (q14, .inr (2, [.ref q17])), (q17, .inl (cy 0, 60, .inl t_16)), (q18, .inr (1, [.int 0, .ref q21, .int 0, .ref q22, .ref q23, .ref q24])), (q21, .inl (cy 1, 60, .inr (.inl (fun _ => 0)))), (q22, .inl (cy 0, 60, .inl (fun _ => 0))), (q23, .inl (cy 2, 60, .inl (fun _ => 0))), (q24, .inl (cy 1, 60, .inr (.inl (fun _ => 0)))), (q25, .inr (2, [.ref q28])), (q28, .inl (cy 0, 60, .inl t_27)), (q29, .inl (cy 0, 60, .inl (fun _ => 0)))]) rfl ?_
  refine cg_putF (ws' := [(A0, .inr (0, [.int 0, .ref q1, .ref q2, .ref q14, .ref q18, .ref q25, .ref q29, .null])), (q1, .inl (cy 0, 40, .inl (fun _ => 0))), (q2, .inr (3, [.int 0, .ref q5, .ref q6, .ref q7, .ref q8, .ref q9, .ref q10, .ref q11, .ref q12, .ref q13])), (q5, .inl (cy 2, 60, .inl (fun _ => 0))), (q6, .inl (cy 0, 60, .inl (fun _ => 0))), (q7, .inl (cy 0, 60, .inl (fun _ => 0))), (q8, .inl (cy 0, 60, .inl (fun _ => 0))), (q9, .inl (cy 1, 60, .inr (.inl (fun _ => 0)))), (q10, .inl (cy 1, 60, .inr (.inl (fun _ => 0)))), (q11, .inl (cy 1, 60, .inr (.inl (fun _ => 0)))), (q12, .inl (cy 1, 60, .inr (.inl (fun _ => 0)))), (q13, .inl (cy 1, 60, .inr (.inl (fun _ => 0)))), (q14, .inr (2, [.ref q17])), (q17, .inl (cy 0, 60, .inl t_16)), (q18, .inr (1, [.int 0, .ref q21, .int 0, .ref q22, .ref q23, .ref q24])), (q21, .inl (cy 1, 60, .inr (.inl (fun _ => 0)))), (q22, .inl (cy 0, 60, .inl (fun _ => 0))), (q23, .inl (cy 2, 60, .inl (fun _ => 0))), (q24, .inl (cy 1, 60, .inr (.inl (fun _ => 0)))), (q25, .inr (2, [.ref q28])), (q28, .inl (cy 0, 60, .inl t_27)), (q29, .inl (cy 0, 60, .inl (fun _ => 0)))]) C 0 6 t_X d_X_init_61 rfl rfl hin_X tt_X n_X (by decide) rfl tw_120 hin rfl rfl (Nat.le_of_ble_eq_true rfl) rfl ?_
  refine cg_aload_n C d_X_init_64 0 rfl ?_
  refine cg_bipush (v := 60) C d_X_init_65 (by decide) ?_
  refine cg_newI C hA 60 d_X_init_67 tw_61 (by decide) (by decide) (by decide) ⟨by decide, by decide⟩ (fun q30 => ?_)
  refine cg_ws (ws' := [(A0, .inr (0, [.int 0, .ref q1, .ref q2, .ref q14, .ref q18, .ref q25, .ref q29, .null])), (q1, .inl (cy 0, 40, .inl (fun _ => 0))), (q2, .inr (3, [.int 0, .ref q5, .ref q6, .ref q7, .ref q8, .ref q9, .ref q10, .ref q11, .ref q12, .ref q13])), (q5, .inl (cy 2, 60, .inl (fun _ => 0))), (q6, .inl (cy 0, 60, .inl (fun _ => 0))), (q7, .inl (cy 0, 60, .inl (fun _ => 0))), (q8, .inl (cy 0, 60, .inl (fun _ => 0))), (q9, .inl (cy 1, 60, .inr (.inl (fun _ => 0)))), (q10, .inl (cy 1, 60, .inr (.inl (fun _ => 0)))), (q11, .inl (cy 1, 60, .inr (.inl (fun _ => 0)))), (q12, .inl (cy 1, 60, .inr (.inl (fun _ => 0)))), (q13, .inl (cy 1, 60, .inr (.inl (fun _ => 0)))), (q14, .inr (2, [.ref q17])), (q17, .inl (cy 0, 60, .inl t_16)), (q18, .inr (1, [.int 0, .ref q21, .int 0, .ref q22, .ref q23, .ref q24])), (q21, .inl (cy 1, 60, .inr (.inl (fun _ => 0)))), (q22, .inl (cy 0, 60, .inl (fun _ => 0))), (q23, .inl (cy 2, 60, .inl (fun _ => 0))), (q24, .inl (cy 1, 60, .inr (.inl (fun _ => 0)))), (q25, .inr (2, [.ref q28])), (q28, .inl (cy 0, 60, .inl t_27)), (q29, .inl (cy 0, 60, .inl (fun _ => 0))), (q30, .inl (cy 0, 60, .inl (fun _ => 0)))]) rfl ?_
  refine cg_putF (ws' := [(A0, .inr (0, [.int 0, .ref q1, .ref q2, .ref q14, .ref q18, .ref q25, .ref q29, .ref q30])), (q1, .inl (cy 0, 40, .inl (fun _ => 0))), (q2, .inr (3, [.int 0, .ref q5, .ref q6, .ref q7, .ref q8, .ref q9, .ref q10, .ref q11, .ref q12, .ref q13])), (q5, .inl (cy 2, 60, .inl (fun _ => 0))), (q6, .inl (cy 0, 60, .inl (fun _ => 0))), (q7, .inl (cy 0, 60, .inl (fun _ => 0))), (q8, .inl (cy 0, 60, .inl (fun _ => 0))), (q9, .inl (cy 1, 60, .inr (.inl (fun _ => 0)))), (q10, .inl (cy 1, 60, .inr (.inl (fun _ => 0)))), (q11, .inl (cy 1, 60, .inr (.inl (fun _ => 0)))), (q12, .inl (cy 1, 60, .inr (.inl (fun _ => 0)))), (q13, .inl (cy 1, 60, .inr (.inl (fun _ => 0)))), (q14, .inr (2, [.ref q17])), (q17, .inl (cy 0, 60, .inl t_16)), (q18, .inr (1, [.int 0, .ref q21, .int 0, .ref q22, .ref q23, .ref q24])), (q21, .inl (cy 1, 60, .inr (.inl (fun _ => 0)))), (q22, .inl (cy 0, 60, .inl (fun _ => 0))), (q23, .inl (cy 2, 60, .inl (fun _ => 0))), (q24, .inl (cy 1, 60, .inr (.inl (fun _ => 0)))), (q25, .inr (2, [.ref q28])), (q28, .inl (cy 0, 60, .inl t_27)), (q29, .inl (cy 0, 60, .inl (fun _ => 0))), (q30, .inl (cy 0, 60, .inl (fun _ => 0)))]) C 0 7 t_X d_X_init_69 rfl rfl hin_X tt_X n_X (by decide) rfl tw_121 hin rfl rfl (Nat.le_of_ble_eq_true rfl) rfl ?_
  refine cg_aload_n C d_X_init_72 0 rfl ?_
  refine cg_iconst (v := 1) C d_X_init_73 (by decide) ?_
  refine cg_bipush (v := 8) C d_X_init_74 (by decide) ?_
  refine cg_iload_n C d_X_init_76 1 rfl ?_
  obtain ⟨t_32, h_31, hF⟩ := cn_bind hF
  refine cg_callRS C (c_jM_min_I 8 v1 h_31) [] rfl (by decide) d_X_init_77 tw_107 tw_108 tw_6 tw_109 hs_jM_min_I ⟨by decide, by decide⟩ rfl rfl ⟨by decide, by decide⟩ (Nat.le_of_ble_eq_true rfl) rfl rfl ?_
  obtain ⟨t_34, h_33, hF⟩ := cn_bind hF
  refine cg_callRS C (c_jM_max_I 1 t_32 h_33) [] rfl (by decide) d_X_init_80 tw_110 tw_111 tw_6 tw_112 hs_jM_max_I ⟨by decide, by decide⟩ rfl rfl ⟨by decide, by decide⟩ (Nat.le_of_ble_eq_true rfl) rfl rfl ?_
  refine cg_putF (ws' := [(A0, .inr (0, [.int t_34, .ref q1, .ref q2, .ref q14, .ref q18, .ref q25, .ref q29, .ref q30])), (q1, .inl (cy 0, 40, .inl (fun _ => 0))), (q2, .inr (3, [.int 0, .ref q5, .ref q6, .ref q7, .ref q8, .ref q9, .ref q10, .ref q11, .ref q12, .ref q13])), (q5, .inl (cy 2, 60, .inl (fun _ => 0))), (q6, .inl (cy 0, 60, .inl (fun _ => 0))), (q7, .inl (cy 0, 60, .inl (fun _ => 0))), (q8, .inl (cy 0, 60, .inl (fun _ => 0))), (q9, .inl (cy 1, 60, .inr (.inl (fun _ => 0)))), (q10, .inl (cy 1, 60, .inr (.inl (fun _ => 0)))), (q11, .inl (cy 1, 60, .inr (.inl (fun _ => 0)))), (q12, .inl (cy 1, 60, .inr (.inl (fun _ => 0)))), (q13, .inl (cy 1, 60, .inr (.inl (fun _ => 0)))), (q14, .inr (2, [.ref q17])), (q17, .inl (cy 0, 60, .inl t_16)), (q18, .inr (1, [.int 0, .ref q21, .int 0, .ref q22, .ref q23, .ref q24])), (q21, .inl (cy 1, 60, .inr (.inl (fun _ => 0)))), (q22, .inl (cy 0, 60, .inl (fun _ => 0))), (q23, .inl (cy 2, 60, .inl (fun _ => 0))), (q24, .inl (cy 1, 60, .inr (.inl (fun _ => 0)))), (q25, .inr (2, [.ref q28])), (q28, .inl (cy 0, 60, .inl t_27)), (q29, .inl (cy 0, 60, .inl (fun _ => 0))), (q30, .inl (cy 0, 60, .inl (fun _ => 0)))]) C 0 0 t_X d_X_init_83 rfl rfl hin_X tt_X n_X (by decide) rfl tw_114 hin rfl rfl (Nat.le_of_ble_eq_true rfl) rfl ?_
  refine cg_aload_n C d_X_init_86 0 rfl ?_
  refine cg_get C 0 1 d_X_init_87 rfl rfl hin_X (by decide) rfl tw_115 rfl ?_
  refine cg_iconst (v := (-1)) C d_X_init_90 (by decide) ?_
  obtain ⟨t_36, h_35, hF⟩ := cn_bind hF
  refine cg_callWS C hA (c_jA_fill q1 40 (fun _ => 0) (-1) h_35) [1] [0, 2, 3, 4, 5, 6, 7, 8, 9, 10, 11, 12, 13, 14, 15, 16, 17, 18, 19, 20, 21, 22] [0, 22, 1, 2, 3, 4, 5, 6, 7, 8, 9, 10, 11, 12, 13, 14, 15, 16, 17, 18, 19, 20, 21] [(A0, .inr (0, [.int t_34, .ref q1, .ref q2, .ref q14, .ref q18, .ref q25, .ref q29, .ref q30])), (q2, .inr (3, [.int 0, .ref q5, .ref q6, .ref q7, .ref q8, .ref q9, .ref q10, .ref q11, .ref q12, .ref q13])), (q5, .inl (cy 2, 60, .inl (fun _ => 0))), (q6, .inl (cy 0, 60, .inl (fun _ => 0))), (q7, .inl (cy 0, 60, .inl (fun _ => 0))), (q8, .inl (cy 0, 60, .inl (fun _ => 0))), (q9, .inl (cy 1, 60, .inr (.inl (fun _ => 0)))), (q10, .inl (cy 1, 60, .inr (.inl (fun _ => 0)))), (q11, .inl (cy 1, 60, .inr (.inl (fun _ => 0)))), (q12, .inl (cy 1, 60, .inr (.inl (fun _ => 0)))), (q13, .inl (cy 1, 60, .inr (.inl (fun _ => 0)))), (q14, .inr (2, [.ref q17])), (q17, .inl (cy 0, 60, .inl t_16)), (q18, .inr (1, [.int 0, .ref q21, .int 0, .ref q22, .ref q23, .ref q24])), (q21, .inl (cy 1, 60, .inr (.inl (fun _ => 0)))), (q22, .inl (cy 0, 60, .inl (fun _ => 0))), (q23, .inl (cy 2, 60, .inl (fun _ => 0))), (q24, .inl (cy 1, 60, .inr (.inl (fun _ => 0)))), (q25, .inr (2, [.ref q28])), (q28, .inl (cy 0, 60, .inl t_27)), (q29, .inl (cy 0, 60, .inl (fun _ => 0))), (q30, .inl (cy 0, 60, .inl (fun _ => 0)))] [(A0, .inr (0, [.int t_34, .ref q1, .ref q2, .ref q14, .ref q18, .ref q25, .ref q29, .ref q30])), (q1, .inl (cy 0, 40, .inl t_36)), (q2, .inr (3, [.int 0, .ref q5, .ref q6, .ref q7, .ref q8, .ref q9, .ref q10, .ref q11, .ref q12, .ref q13])), (q5, .inl (cy 2, 60, .inl (fun _ => 0))), (q6, .inl (cy 0, 60, .inl (fun _ => 0))), (q7, .inl (cy 0, 60, .inl (fun _ => 0))), (q8, .inl (cy 0, 60, .inl (fun _ => 0))), (q9, .inl (cy 1, 60, .inr (.inl (fun _ => 0)))), (q10, .inl (cy 1, 60, .inr (.inl (fun _ => 0)))), (q11, .inl (cy 1, 60, .inr (.inl (fun _ => 0)))), (q12, .inl (cy 1, 60, .inr (.inl (fun _ => 0)))), (q13, .inl (cy 1, 60, .inr (.inl (fun _ => 0)))), (q14, .inr (2, [.ref q17])), (q17, .inl (cy 0, 60, .inl t_16)), (q18, .inr (1, [.int 0, .ref q21, .int 0, .ref q22, .ref q23, .ref q24])), (q21, .inl (cy 1, 60, .inr (.inl (fun _ => 0)))), (q22, .inl (cy 0, 60, .inl (fun _ => 0))), (q23, .inl (cy 2, 60, .inl (fun _ => 0))), (q24, .inl (cy 1, 60, .inr (.inl (fun _ => 0)))), (q25, .inr (2, [.ref q28])), (q28, .inl (cy 0, 60, .inl t_27)), (q29, .inl (cy 0, 60, .inl (fun _ => 0))), (q30, .inl (cy 0, 60, .inl (fun _ => 0)))] rfl rfl rfl ⟨by decide, by decide, by decide, by decide⟩ d_X_init_91 tw_113 tw_75 tw_4 tw_76 hs_jA_fill ⟨by decide, by decide⟩ rfl rfl ⟨by decide, by decide⟩ (Nat.le_of_ble_eq_true rfl) rfl rfl ?_
  obtain rfl := Option.some.inj hF
  exact cg_vretC C hr hlk ⟨q1, q2, q5, q6, q7, q8, q9, q10, q11, q12, q13, q14, q17, q18, q21, q22, q23, q24, q25, q28, q29, q30, rfl⟩ d_X_init_94
