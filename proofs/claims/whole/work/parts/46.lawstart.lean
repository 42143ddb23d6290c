set_option maxRecDepth 20000 in
theorem tw_15 : (Jvm.Cond.classLink "CopperNetsLaw" (8 : Nat) "CopperNets") ∈ cn_tb := cn_t1 15 rfl rfl
set_option maxRecDepth 20000 in
theorem tw_16 : (Jvm.Cond.instantiable "CopperNets" (8 : Nat)) ∈ cn_tb := cn_t1 16 rfl rfl
set_option maxRecDepth 20000 in
theorem tw_17 : (Jvm.Cond.methodLink "CopperNetsLaw" (57 : Nat) ({ cls := "CopperNets", name := "<init>", desc := "(I)V" } : Jvm.MethodName)) ∈ cn_tb := cn_t1 17 rfl rfl
set_option maxRecDepth 20000 in
theorem tw_18 : (Jvm.Cond.instanceMethod ({ cls := "CopperNets", name := "<init>", desc := "(I)V" } : Jvm.MethodName)) ∈ cn_tb := cn_t1 18 rfl rfl
set_option maxRecDepth 20000 in
theorem tw_19 : (Jvm.Cond.code ({ cls := "CopperNets", name := "<init>", desc := "(I)V" } : Jvm.MethodName) prog_1_method_1_code (2 : Nat) (Option.none : Option Jvm.ClassFile.FieldType)) ∈ cn_tb := cn_t1 19 rfl rfl
set_option maxRecDepth 20000 in
theorem tw_284 : (Jvm.Cond.methodLink "CopperNetsLaw" (51 : Nat) ({ cls := "CopperNetsLaw", name := "cell", desc := "([II)I" } : Jvm.MethodName)) ∈ cn_tb := cn_t2 44 rfl rfl
set_option maxRecDepth 20000 in
theorem tw_285 : (Jvm.Cond.static ({ cls := "CopperNetsLaw", name := "cell", desc := "([II)I" } : Jvm.MethodName)) ∈ cn_tb := cn_t2 45 rfl rfl
set_option maxRecDepth 20000 in
theorem tw_286 : (Jvm.Cond.code ({ cls := "CopperNetsLaw", name := "cell", desc := "([II)I" } : Jvm.MethodName) method_2_code (2 : Nat) (Option.some Jvm.ClassFile.FieldType.int)) ∈ cn_tb := cn_t2 46 rfl rfl
set_option maxRecDepth 20000 in
theorem tw_366 : (Jvm.Cond.arrayClass Jvm.ClassFile.FieldType.byte) ∈ cn_tb := cn_t2 126 rfl rfl
set_option maxRecDepth 20000 in
theorem tw_545 : (Jvm.Cond.classLink "CopperNetsLaw" (60 : Nat) "CopperNetsModel") ∈ cn_tb := cn_t3 65 rfl rfl
set_option maxRecDepth 20000 in
theorem tw_546 : (Jvm.Cond.instantiable "CopperNetsModel" (19 : Nat)) ∈ cn_tb := cn_t3 66 rfl rfl
set_option maxRecDepth 20000 in
theorem tw_547 : (Jvm.Cond.methodLink "CopperNetsLaw" (62 : Nat) ({ cls := "CopperNetsModel", name := "<init>", desc := "(I)V" } : Jvm.MethodName)) ∈ cn_tb := cn_t3 67 rfl rfl
set_option maxRecDepth 20000 in
theorem tw_548 : (Jvm.Cond.instanceMethod ({ cls := "CopperNetsModel", name := "<init>", desc := "(I)V" } : Jvm.MethodName)) ∈ cn_tb := cn_t3 68 rfl rfl
set_option maxRecDepth 20000 in
theorem tw_549 : (Jvm.Cond.code ({ cls := "CopperNetsModel", name := "<init>", desc := "(I)V" } : Jvm.MethodName) prog_7_method_1_code (3 : Nat) (Option.none : Option Jvm.ClassFile.FieldType)) ∈ cn_tb := cn_t3 69 rfl rfl
theorem d_law_0 : decode b_law 0 = .ok (.new 8, 3) := by decide +kernel
theorem d_law_3 : decode b_law 3 = .ok (.dup, 1) := by decide +kernel
theorem d_law_4 : decode b_law 4 = .ok (.aload_n 0, 1) := by decide +kernel
theorem d_law_5 : decode b_law 5 = .ok (.iconst 0, 1) := by decide +kernel
theorem d_law_6 : decode b_law 6 = .ok (.invokestatic 51, 3) := by decide +kernel
theorem d_law_9 : decode b_law 9 = .ok (.invokespecial 57, 3) := by decide +kernel
theorem d_law_12 : decode b_law 12 = .ok (.astore_n 1, 1) := by decide +kernel
theorem d_law_13 : decode b_law 13 = .ok (.new 60, 3) := by decide +kernel
theorem d_law_16 : decode b_law 16 = .ok (.dup, 1) := by decide +kernel
theorem d_law_17 : decode b_law 17 = .ok (.aload_n 0, 1) := by decide +kernel
theorem d_law_18 : decode b_law 18 = .ok (.iconst 0, 1) := by decide +kernel
theorem d_law_19 : decode b_law 19 = .ok (.invokestatic 51, 3) := by decide +kernel
theorem d_law_22 : decode b_law 22 = .ok (.invokespecial 62, 3) := by decide +kernel
theorem d_law_25 : decode b_law 25 = .ok (.astore_n 2, 1) := by decide +kernel
theorem d_law_26 : decode b_law 26 = .ok (.iconst 1, 1) := by decide +kernel
theorem d_law_27 : decode b_law 27 = .ok (.newarray .long, 2) := by decide +kernel
theorem d_law_29 : decode b_law 29 = .ok (.astore_n 3, 1) := by decide +kernel
theorem d_law_30 : decode b_law 30 = .ok (.iconst 1, 1) := by decide +kernel
theorem d_law_31 : decode b_law 31 = .ok (.istore 4, 2) := by decide +kernel
/-! THE LAW'S START: the tables' words and the statement's premises make what the walk needs; two objects and an array are made; then the loop -/
def F_law (L : Nat) (xs : Nat → Int32) : Option Unit := (F_X_init (cn_cell0 L xs)).bind fun tx => (F_M_init (cn_cell0 L xs)).bind fun tm => F_law_33 L xs 513 tx.1 tx.2.1 0 (fun _ => 0) (fun _ => 0) (fun _ => 0) (fun _ => 0) (fun _ => 0) (fun _ => 0) (fun _ => 0) (fun _ => 0) (fun _ => 0) tx.2.2.1 0 0 (fun _ => 0) (fun _ => 0) (fun _ => 0) (fun _ => 0) tx.2.2.2 (fun _ => 0) (fun _ => 0) 0 tm.1 0 0 0 0 (fun _ => 0) (fun _ => 0) (fun _ => 0) (fun _ => 0) (fun _ => 0) (fun _ => 0) (fun _ => 0) (fun _ => 0) (fun _ => 0) tm.2 (fun _ => 0) (fun _ => 0) (fun _ => 0) (fun _ => 0) 1
theorem cn_arr {args : Array Value} {s : State} {ty : FieldType} (h : (Cond.arrayClass ty).before args s = true) (hz : ∀ k, ty ≠ .object k) : ∃ cA : ClassId, ArrOfT s cA ty ∧ va_RA s cA ty := by
  obtain ⟨cB, kB, comp, hcB, hkB, hkind⟩ := Cond.arrayClass_spec (show (Cond.arrayClass ty).holds args s none s [] = true from h)
  refine ⟨cB, fun n z => ⟨fun k h => (by cases h), kB, hkB, comp, hkind⟩, ?_⟩
  cases ty with
  | object k => exact absurd rfl (hz k)
  | _ => exact hcB
theorem cn_str {own tx : String} {k : Nat} {A : Array Value} {s : State} (h1 : (Cond.stringRef own k tx).before A s = true) (h2 : (Cond.exactly (.string own k) "java/lang/String").before A s = true) : ∃ a, vk_R own k tx a s := by
  obtain ⟨a, c, cA, kA, q1, -⟩ := Cond.exactly_spec (args := A) (first := s) (o := none) (s := s) (idx := []) (t := .string own k) (cls := "java/lang/String") h2
  exact ⟨a, vk_R.of h1 q1⟩
theorem cn_nwM_in : ∀ q ∈ cn_nwM, Cond.methodLinkNest q.1 q.2.1 q.2.2.1 q.2.2.2 ∈ tables_1 := by decide +kernel
theorem cn_nwF_in : ∀ q ∈ cn_nwF, Cond.fieldLinkNest q.1 q.2.1 q.2.2.1 q.2.2.2.1 q.2.2.2.2.1 q.2.2.2.2.2 ∈ tables_1 := by decide +kernel
theorem cn_atN {args : Array Value} {s : State} (hts : ∀ w ∈ lw_tbl, w.before args s = true) : cn_N s :=
  ⟨fun q hq => va_Nw.of rfl (hts _ (List.mem_append_right _ (cn_nwM_in q hq))), fun q hq => va_Nw.of rfl (hts _ (List.mem_append_right _ (cn_nwF_in q hq)))⟩
theorem cn_atTh {b : Nat} {s : State} (hts : ∀ w ∈ lw_tbl, w.before #[Value.ref b] s = true) (hgv : (Jvm.Cond.and given_1 narrow_1).before #[Value.ref b] s = true) : cn_Th s ∧ va_Nc cn_IA cn_IO s := by
  have hG := flat_of_before _ hgv
  have ht : ∀ w ∈ tables_1, w.before #[Value.ref b] s = true := fun w hw => hts w (List.mem_append_right _ hw)
  refine ⟨⟨fun w hw => ?_, ⟨⟨?_, ?_⟩, ?_, ?_⟩, ?_⟩, ?_⟩
  · have hk := (List.mem_filter.mp hw).2
    simp only [Bool.and_eq_true] at hk
    exact va_tabs hk.1 rfl (ht w (List.mem_filter.mp hw).1)
  · exact ht (Cond.laysStatic Bundle.tN "UNASSIGNED_STACK" Bundle.steD) (List.mem_of_getElem? (i := 327) (by decide +kernel))
  · exact hG (Cond.isRef (.static Bundle.tN "UNASSIGNED_STACK" Bundle.steD)) (by decide +kernel)
  · exact ht (Cond.laysStatic Bundle.tN "SUPPRESSED_SENTINEL" Bundle.listD) (List.mem_of_getElem? (i := 329) (by decide +kernel))
  · exact hG (Cond.isRef (.static Bundle.tN "SUPPRESSED_SENTINEL" Bundle.listD)) (by decide +kernel)
  · intro q hq
    simp only [cn_strs, List.mem_cons, List.not_mem_nil, or_false] at hq
    rcases hq with rfl | rfl | rfl | rfl | rfl | rfl | rfl | rfl | rfl | rfl
    · exact cn_str (ht _ (List.mem_of_getElem? (i := 340) (by decide +kernel))) (hG _ (by decide +kernel))
    · exact cn_str (ht _ (List.mem_of_getElem? (i := 381) (by decide +kernel))) (hG _ (by decide +kernel))
    · exact cn_str (ht _ (List.mem_of_getElem? (i := 391) (by decide +kernel))) (hG _ (by decide +kernel))
    · exact cn_str (ht _ (List.mem_of_getElem? (i := 415) (by decide +kernel))) (hG _ (by decide +kernel))
    · exact cn_str (ht _ (List.mem_of_getElem? (i := 430) (by decide +kernel))) (hG _ (by decide +kernel))
    · exact cn_str (ht _ (List.mem_of_getElem? (i := 441) (by decide +kernel))) (hG _ (by decide +kernel))
    · exact cn_str (ht _ (List.mem_of_getElem? (i := 453) (by decide +kernel))) (hG _ (by decide +kernel))
    · exact cn_str (ht _ (List.mem_of_getElem? (i := 474) (by decide +kernel))) (hG _ (by decide +kernel))
    · exact cn_str (ht _ (List.mem_of_getElem? (i := 479) (by decide +kernel))) (hG _ (by decide +kernel))
    · exact cn_str (ht _ (List.mem_of_getElem? (i := 502) (by decide +kernel))) (hG _ (by decide +kernel))
  · exact va_Nc.of (hG (Cond.not (.castable cn_IA cn_IO)) (by decide +kernel))
theorem cn_atK {b : Nat} {s : State} (hts : ∀ w ∈ lw_tbl, w.before #[Value.ref b] s = true) : ∃ (D : va_G) (cy : Nat → ClassId), va_K D cn_cl (cn_ty cy) s := by
  have h : ∀ w ∈ cn_tb, w.before #[Value.ref b] s = true := fun w hw => hts w (List.mem_filter.mp hw).1
  obtain ⟨c0, i0, k0⟩ := u_known (C := "CopperNets") (T := T_X) (N := 8) (n := 8) h hin_X (h _ tw_16)
  obtain ⟨c1, i1, k1⟩ := u_known (C := "CopperNets$Airlines") (T := T_A) (N := 6) (n := 6) h hin_A (h _ tw_82)
  obtain ⟨c2, i2, k2⟩ := u_known (C := "CopperNets$Groups") (T := T_G) (N := 1) (n := 1) h hin_G (h _ tw_65)
  obtain ⟨c3, i3, k3⟩ := u_known (C := "CopperNets$Pieces") (T := T_P) (N := 10) (n := 10) h hin_P (h _ tw_24)
  obtain ⟨c4, i4, k4⟩ := u_known (C := "CopperNetsModel") (T := T_M) (N := 19) (n := 19) h hin_M (h _ tw_546)
  obtain ⟨y0, r0, s0⟩ := cn_arr (h _ tw_61) (fun _ h => by cases h)
  obtain ⟨y1, r1, s1⟩ := cn_arr (h _ tw_63) (fun _ h => by cases h)
  obtain ⟨y2, r2, s2⟩ := cn_arr (h _ tw_62) (fun _ h => by cases h)
  refine ⟨(fun k => match k with | 0 => c0 | 1 => c1 | 2 => c2 | 3 => c3 | _ => c4, fun k => match k with | 0 => i0 | 1 => i1 | 2 => i2 | 3 => i3 | _ => i4), fun k => match k with | 0 => y0 | 1 => y1 | _ => y2, fun c q hq => ?_, fun k q hq => ?_⟩
  · match c, hq with
    | 0, hq => cases hq; exact k0
    | 1, hq => cases hq; exact k1
    | 2, hq => cases hq; exact k2
    | 3, hq => cases hq; exact k3
    | 4, hq => cases hq; exact k4
    | c + 5, hq => simp [cn_cl] at hq
  · match k, hq with
    | 0, hq => cases hq; exact ⟨r0, s0⟩
    | 1, hq => cases hq; exact ⟨r1, s1⟩
    | 2, hq => cases hq; exact ⟨r2, s2⟩
    | k + 3, hq => simp [cn_ty] at hq
set_option maxRecDepth 100000 in
set_option maxHeartbeats 4000000 in
theorem cn_start {p : Program} {e : Env} {s : State} {m : MethodId} {below : List Frame} {meth : Method} {c : Code} {l : Launch} (hl : l.stackTraces = false) {b L : Nat} {xs : Nat → Int32} (hL : L ≤ 5121) (C0 : lw_At p s m meth c b L xs) (hF : F_law L xs = some ()) : W p l e room_1 s m #[Value.ref b] below meth c s.heap [] 0 0 (lw_Z below #[Value.ref b] s) (entryFrame m ([Value.ref b] : List Value).toArray 8) := by
  obtain ⟨hx, hb, hr, hml, hown, hts, hX, hbl, hlocks, hgv⟩ := id C0
  obtain ⟨D, cy, hK⟩ := cn_atK hts
  obtain ⟨hTh, hNc⟩ := cn_atTh hts hgv
  have C : cn_X p s m #[Value.ref b] c b_law 8 "CopperNetsLaw" D cy := ⟨hx, hb, hml, hown, fun w hw => hts w (List.mem_filter.mp hw).1, hK, cn_atN hts⟩
  have SX : cn_SX b L xs (fun q : Nat => s.heap.size ≤ q) s := ⟨hX, hbl, Nat.not_le.mpr hbl⟩
  have hA : ∀ q : Nat, s.heap.size ≤ q → (fun q : Nat => s.heap.size ≤ q) q := fun _ h => h
  have LX : cn_LX l s meth (fun q : Nat => s.heap.size ≤ q) b L xs := ⟨hl, hr, hlocks, SX, ⟨hA, hTh, hNc, fun q cell h1 h2 => absurd (Array.getElem?_eq_some_iff.mp h2).1 (Nat.not_lt.mpr h1)⟩, fun _ h => h⟩
  have hS : va_S (fun q : Nat => s.heap.size ≤ q) s.heap s.heap [] := va_S.rf
  have hP : va_P D cn_cl [] s.heap := fun k q h => by simp at h
  have hD : va_D (fun q : Nat => s.heap.size ≤ q) [] := ⟨fun i j p q h => by simp at h, fun k q h => by simp at h⟩
  have h9 := lv_entry ([.ref b]) (n := 8) (Nat.le_of_ble_eq_true rfl)
  rw [lg_entry_eq]
  generalize (lg_sl ([.ref b]) ++ List.replicate (8 - (lg_sl ([.ref b])).length) Slot.unset).toArray = ls at h9 ⊢
  have h9 : lv_has ls 8 [(0, .ref b)] := h9
  obtain ⟨tx, hFx, hF⟩ := cn_bind hF
  obtain ⟨tm, hFm, hF⟩ := cn_bind hF
  suffices K : cg p l e room_1 s m #[Value.ref b] below meth c D (va_S (fun q : Nat => s.heap.size ≤ q) s.heap) (fun q : Nat => s.heap.size ≤ q) 8 0 0 (lw_Z below #[Value.ref b] s) [] 0 [(0, .ref b)] [] from K s.heap [] ls hP hD hS h9
  refine cg_new (ci := 0) C hA [.int 0, .null, .null, .null, .null, .null, .null, .null] t_X d_law_0 rfl hin_X tt_X tw_15 tw_16 tw_1 (fun j hj => match j, hj with | 0, _ => rfl | 1, _ => rfl | 2, _ => rfl | 3, _ => rfl | 4, _ => rfl | 5, _ => rfl | 6, _ => rfl | 7, _ => rfl | j + 8, hj => absurd hj (by omega)) ⟨by decide, by decide⟩ (fun q0 => ?_)
  refine cg_ws (ws' := [(q0, .inr (0, [.int 0, .null, .null, .null, .null, .null, .null, .null]))]) rfl ?_
  refine cg_dup C d_law_3 rfl ?_
  refine cg_aload_n C d_law_4 0 rfl ?_
  refine cg_iconst (v := 0) C d_law_5 (by decide) ?_
  refine cg_cell C hL SX d_law_6 tw_284 tw_285 tw_0 tw_286 ⟨by decide, by decide⟩ ⟨by decide, by decide⟩ (Nat.le_of_ble_eq_true rfl) ?_
  refine cg_callC C hA (c_X_init q0 (cn_cell0 L xs) hFx) [0] [] [] rfl rfl ⟨by decide, by decide, by decide⟩ d_law_9 rfl tw_17 tw_18 tw_1 tw_19 hs_X_init ⟨by decide, by decide⟩ rfl rfl ⟨by decide, by decide⟩ (Nat.le_of_ble_eq_true rfl) rfl ?_
  rintro w' ⟨q1, q2, q5, q6, q7, q8, q9, q10, q11, q12, q13, q14, q17, q18, q21, q22, q23, q24, q25, q28, q29, q30, rfl⟩
  refine cg_ws (ws' := [(q0, .inr (0, [.int tx.1, .ref q1, .ref q2, .ref q14, .ref q18, .ref q25, .ref q29, .ref q30])), (q1, .inl (cy 0, 40, .inl tx.2.1)), (q2, .inr (3, [.int 0, .ref q5, .ref q6, .ref q7, .ref q8, .ref q9, .ref q10, .ref q11, .ref q12, .ref q13])), (q5, .inl (cy 2, 60, .inl (fun _ => 0))), (q6, .inl (cy 0, 60, .inl (fun _ => 0))), (q7, .inl (cy 0, 60, .inl (fun _ => 0))), (q8, .inl (cy 0, 60, .inl (fun _ => 0))), (q9, .inl (cy 1, 60, .inr (.inl (fun _ => 0)))), (q10, .inl (cy 1, 60, .inr (.inl (fun _ => 0)))), (q11, .inl (cy 1, 60, .inr (.inl (fun _ => 0)))), (q12, .inl (cy 1, 60, .inr (.inl (fun _ => 0)))), (q13, .inl (cy 1, 60, .inr (.inl (fun _ => 0)))), (q14, .inr (2, [.ref q17])), (q17, .inl (cy 0, 60, .inl tx.2.2.1)), (q18, .inr (1, [.int 0, .ref q21, .int 0, .ref q22, .ref q23, .ref q24])), (q21, .inl (cy 1, 60, .inr (.inl (fun _ => 0)))), (q22, .inl (cy 0, 60, .inl (fun _ => 0))), (q23, .inl (cy 2, 60, .inl (fun _ => 0))), (q24, .inl (cy 1, 60, .inr (.inl (fun _ => 0)))), (q25, .inr (2, [.ref q28])), (q28, .inl (cy 0, 60, .inl tx.2.2.2)), (q29, .inl (cy 0, 60, .inl (fun _ => 0))), (q30, .inl (cy 0, 60, .inl (fun _ => 0)))]) rfl ?_
  refine cg_astore_n (lv' := [(1, .ref q0), (0, .ref b)]) C d_law_12 (by decide) rfl ?_
  refine cg_new (ci := 4) C hA [.int 0, .int 0, .int 0, .null, .null, .null, .null, .null, .null, .null, .null, .null, .null, .null, .null, .null, .long 0, .int 0, .int 0] t_M d_law_13 rfl hin_M tt_M tw_545 tw_546 tw_7 (fun j hj => match j, hj with | 0, _ => rfl | 1, _ => rfl | 2, _ => rfl | 3, _ => rfl | 4, _ => rfl | 5, _ => rfl | 6, _ => rfl | 7, _ => rfl | 8, _ => rfl | 9, _ => rfl | 10, _ => rfl | 11, _ => rfl | 12, _ => rfl | 13, _ => rfl | 14, _ => rfl | 15, _ => rfl | 16, _ => rfl | 17, _ => rfl | 18, _ => rfl | j + 19, hj => absurd hj (by omega)) ⟨by decide, by decide⟩ (fun m0 => ?_)
  refine cg_ws (ws' := [(q0, .inr (0, [.int tx.1, .ref q1, .ref q2, .ref q14, .ref q18, .ref q25, .ref q29, .ref q30])), (q1, .inl (cy 0, 40, .inl tx.2.1)), (q2, .inr (3, [.int 0, .ref q5, .ref q6, .ref q7, .ref q8, .ref q9, .ref q10, .ref q11, .ref q12, .ref q13])), (q5, .inl (cy 2, 60, .inl (fun _ => 0))), (q6, .inl (cy 0, 60, .inl (fun _ => 0))), (q7, .inl (cy 0, 60, .inl (fun _ => 0))), (q8, .inl (cy 0, 60, .inl (fun _ => 0))), (q9, .inl (cy 1, 60, .inr (.inl (fun _ => 0)))), (q10, .inl (cy 1, 60, .inr (.inl (fun _ => 0)))), (q11, .inl (cy 1, 60, .inr (.inl (fun _ => 0)))), (q12, .inl (cy 1, 60, .inr (.inl (fun _ => 0)))), (q13, .inl (cy 1, 60, .inr (.inl (fun _ => 0)))), (q14, .inr (2, [.ref q17])), (q17, .inl (cy 0, 60, .inl tx.2.2.1)), (q18, .inr (1, [.int 0, .ref q21, .int 0, .ref q22, .ref q23, .ref q24])), (q21, .inl (cy 1, 60, .inr (.inl (fun _ => 0)))), (q22, .inl (cy 0, 60, .inl (fun _ => 0))), (q23, .inl (cy 2, 60, .inl (fun _ => 0))), (q24, .inl (cy 1, 60, .inr (.inl (fun _ => 0)))), (q25, .inr (2, [.ref q28])), (q28, .inl (cy 0, 60, .inl tx.2.2.2)), (q29, .inl (cy 0, 60, .inl (fun _ => 0))), (q30, .inl (cy 0, 60, .inl (fun _ => 0))), (m0, .inr (4, [.int 0, .int 0, .int 0, .null, .null, .null, .null, .null, .null, .null, .null, .null, .null, .null, .null, .null, .long 0, .int 0, .int 0]))]) rfl ?_
  refine cg_dup C d_law_16 rfl ?_
  refine cg_aload_n C d_law_17 1 rfl ?_
  refine cg_iconst (v := 0) C d_law_18 (by decide) ?_
  refine cg_cell C hL SX d_law_19 tw_284 tw_285 tw_0 tw_286 ⟨by decide, by decide⟩ ⟨by decide, by decide⟩ (Nat.le_of_ble_eq_true rfl) ?_
  refine cg_callC C hA (c_M_init m0 (cn_cell0 L xs) hFm) [23] [0, 1, 2, 3, 4, 5, 6, 7, 8, 9, 10, 11, 12, 13, 14, 15, 16, 17, 18, 19, 20, 21, 22] [(q0, .inr (0, [.int tx.1, .ref q1, .ref q2, .ref q14, .ref q18, .ref q25, .ref q29, .ref q30])), (q1, .inl (cy 0, 40, .inl tx.2.1)), (q2, .inr (3, [.int 0, .ref q5, .ref q6, .ref q7, .ref q8, .ref q9, .ref q10, .ref q11, .ref q12, .ref q13])), (q5, .inl (cy 2, 60, .inl (fun _ => 0))), (q6, .inl (cy 0, 60, .inl (fun _ => 0))), (q7, .inl (cy 0, 60, .inl (fun _ => 0))), (q8, .inl (cy 0, 60, .inl (fun _ => 0))), (q9, .inl (cy 1, 60, .inr (.inl (fun _ => 0)))), (q10, .inl (cy 1, 60, .inr (.inl (fun _ => 0)))), (q11, .inl (cy 1, 60, .inr (.inl (fun _ => 0)))), (q12, .inl (cy 1, 60, .inr (.inl (fun _ => 0)))), (q13, .inl (cy 1, 60, .inr (.inl (fun _ => 0)))), (q14, .inr (2, [.ref q17])), (q17, .inl (cy 0, 60, .inl tx.2.2.1)), (q18, .inr (1, [.int 0, .ref q21, .int 0, .ref q22, .ref q23, .ref q24])), (q21, .inl (cy 1, 60, .inr (.inl (fun _ => 0)))), (q22, .inl (cy 0, 60, .inl (fun _ => 0))), (q23, .inl (cy 2, 60, .inl (fun _ => 0))), (q24, .inl (cy 1, 60, .inr (.inl (fun _ => 0)))), (q25, .inr (2, [.ref q28])), (q28, .inl (cy 0, 60, .inl tx.2.2.2)), (q29, .inl (cy 0, 60, .inl (fun _ => 0))), (q30, .inl (cy 0, 60, .inl (fun _ => 0)))] rfl rfl ⟨by decide, by decide, by decide⟩ d_law_22 rfl tw_547 tw_548 tw_7 tw_549 hs_M_init ⟨by decide, by decide⟩ rfl rfl ⟨by decide, by decide⟩ (Nat.le_of_ble_eq_true rfl) rfl ?_
  rintro w' ⟨a1, a2, a3, a4, a5, a6, a7, a8, a9, a10, a11, a12, a13, rfl⟩
  refine cg_astore_n (lv' := [(2, .ref m0), (1, .ref q0), (0, .ref b)]) C d_law_25 (by decide) rfl ?_
  refine cg_iconst (v := 1) C d_law_26 (by decide) ?_
  refine cg_newJ C hA 1 d_law_27 tw_63 (by decide) (by decide) (by decide) ⟨by decide, by decide⟩ (fun o0 => ?_)
  refine cg_ws (ws' := w_law cy q0 q1 q2 q5 q6 q7 q8 q9 q10 q11 q12 q13 q14 q17 q18 q21 q22 q23 q24 q25 q28 q29 q30 m0 a1 a2 a3 a4 a5 a6 a7 a8 a9 a10 a11 a12 a13 o0 tx.1 tx.2.1 0 (fun _ => 0) (fun _ => 0) (fun _ => 0) (fun _ => 0) (fun _ => 0) (fun _ => 0) (fun _ => 0) (fun _ => 0) (fun _ => 0) tx.2.2.1 0 0 (fun _ => 0) (fun _ => 0) (fun _ => 0) (fun _ => 0) tx.2.2.2 (fun _ => 0) (fun _ => 0) 0 tm.1 0 0 0 0 (fun _ => 0) (fun _ => 0) (fun _ => 0) (fun _ => 0) (fun _ => 0) (fun _ => 0) (fun _ => 0) (fun _ => 0) (fun _ => 0) tm.2 (fun _ => 0) (fun _ => 0) (fun _ => 0) (fun _ => 0)) rfl ?_
  refine cg_astore_n (lv' := [(3, .ref o0), (2, .ref m0), (1, .ref q0), (0, .ref b)]) C d_law_29 (by decide) rfl ?_
  refine cg_iconst (v := 1) C d_law_30 (by decide) ?_
  refine cg_istore (lv' := [(4, .int 1), (3, .ref o0), (2, .ref m0), (1, .ref q0), (0, .ref b)]) C d_law_31 (by decide) rfl ?_
  refine cg_sub (lv' := [(0, .ref b), (1, .ref q0), (2, .ref m0), (3, .ref o0), (4, .int 1)]) [4, 3, 2, 1, 0] rfl ?_
  exact t_law_33 C LX q0 q1 q2 q5 q6 q7 q8 q9 q10 q11 q12 q13 q14 q17 q18 q21 q22 q23 q24 q25 q28 q29 q30 m0 a1 a2 a3 a4 a5 a6 a7 a8 a9 a10 a11 a12 a13 o0 513 ⟨by decide, by decide⟩ tx.1 tx.2.1 0 (fun _ => 0) (fun _ => 0) (fun _ => 0) (fun _ => 0) (fun _ => 0) (fun _ => 0) (fun _ => 0) (fun _ => 0) (fun _ => 0) tx.2.2.1 0 0 (fun _ => 0) (fun _ => 0) (fun _ => 0) (fun _ => 0) tx.2.2.2 (fun _ => 0) (fun _ => 0) 0 tm.1 0 0 0 0 (fun _ => 0) (fun _ => 0) (fun _ => 0) (fun _ => 0) (fun _ => 0) (fun _ => 0) (fun _ => 0) (fun _ => 0) (fun _ => 0) tm.2 (fun _ => 0) (fun _ => 0) (fun _ => 0) (fun _ => 0) 1 hF
