theorem cn_t1 {w : Cond} (i : Nat) (h : tables_1_1[i]? = some w) (g : goodWord w = true) : w ∈ cn_tb := cn_in (List.mem_append_right _ (by have h := List.mem_of_getElem? h; exact List.mem_append_left _ h)) g
theorem cn_t2 {w : Cond} (i : Nat) (h : tables_1_2[i]? = some w) (g : goodWord w = true) : w ∈ cn_tb := cn_in (List.mem_append_right _ (by have h := List.mem_of_getElem? h; exact List.mem_append_right _ (List.mem_append_left _ h))) g
theorem cn_t3 {w : Cond} (i : Nat) (h : tables_1_3[i]? = some w) (g : goodWord w = true) : w ∈ cn_tb := cn_in (List.mem_append_right _ (by have h := List.mem_of_getElem? h; exact List.mem_append_right _ (List.mem_append_right _ (List.mem_append_left _ h)))) g
theorem cn_t4 {w : Cond} (i : Nat) (h : tables_1_4[i]? = some w) (g : goodWord w = true) : w ∈ cn_tb := cn_in (List.mem_append_right _ (by have h := List.mem_of_getElem? h; exact List.mem_append_right _ (List.mem_append_right _ (List.mem_append_right _ h)))) g
set_option maxRecDepth 20000 in
theorem hin_X : ∀ w ∈ u_ws "CopperNets" T_X 8, w ∈ cn_tb := by
  intro w hw
  obtain ⟨k, hk, rfl⟩ := List.mem_map.mp hw
  have hk := List.mem_range.mp hk
  match k, hk with
  | 0, _ => exact cn_t1 122 rfl rfl
  | 1, _ => exact cn_t1 124 rfl rfl
  | 2, _ => exact cn_t1 126 rfl rfl
  | 3, _ => exact cn_t1 128 rfl rfl
  | 4, _ => exact cn_t1 130 rfl rfl
  | 5, _ => exact cn_t1 132 rfl rfl
  | 6, _ => exact cn_t1 134 rfl rfl
  | 7, _ => exact cn_t1 136 rfl rfl
  | k + 8, hk => exact absurd hk (by omega)
set_option maxRecDepth 20000 in
theorem hin_A : ∀ w ∈ u_ws "CopperNets$Airlines" T_A 6, w ∈ cn_tb := by
  intro w hw
  obtain ⟨k, hk, rfl⟩ := List.mem_map.mp hw
  have hk := List.mem_range.mp hk
  match k, hk with
  | 0, _ => exact cn_t1 94 rfl rfl
  | 1, _ => exact cn_t1 96 rfl rfl
  | 2, _ => exact cn_t1 98 rfl rfl
  | 3, _ => exact cn_t1 100 rfl rfl
  | 4, _ => exact cn_t1 102 rfl rfl
  | 5, _ => exact cn_t1 104 rfl rfl
  | k + 6, hk => exact absurd hk (by omega)
set_option maxRecDepth 20000 in
theorem hin_G : ∀ w ∈ u_ws "CopperNets$Groups" T_G 1, w ∈ cn_tb := by
  intro w hw
  obtain ⟨k, hk, rfl⟩ := List.mem_map.mp hw
  have hk := List.mem_range.mp hk
  match k, hk with
  | 0, _ => exact cn_t1 78 rfl rfl
  | k + 1, hk => exact absurd hk (by omega)
set_option maxRecDepth 20000 in
theorem hin_P : ∀ w ∈ u_ws "CopperNets$Pieces" T_P 10, w ∈ cn_tb := by
  intro w hw
  obtain ⟨k, hk, rfl⟩ := List.mem_map.mp hw
  have hk := List.mem_range.mp hk
  match k, hk with
  | 0, _ => exact cn_t1 40 rfl rfl
  | 1, _ => exact cn_t1 42 rfl rfl
  | 2, _ => exact cn_t1 44 rfl rfl
  | 3, _ => exact cn_t1 46 rfl rfl
  | 4, _ => exact cn_t1 48 rfl rfl
  | 5, _ => exact cn_t1 50 rfl rfl
  | 6, _ => exact cn_t1 52 rfl rfl
  | 7, _ => exact cn_t1 54 rfl rfl
  | 8, _ => exact cn_t1 56 rfl rfl
  | 9, _ => exact cn_t1 58 rfl rfl
  | k + 10, hk => exact absurd hk (by omega)
set_option maxRecDepth 20000 in
theorem hin_M : ∀ w ∈ u_ws "CopperNetsModel" T_M 19, w ∈ cn_tb := by
  intro w hw
  obtain ⟨k, hk, rfl⟩ := List.mem_map.mp hw
  have hk := List.mem_range.mp hk
  match k, hk with
  | 0, _ => exact cn_t3 90 rfl rfl
  | 1, _ => exact cn_t3 92 rfl rfl
  | 2, _ => exact cn_t3 94 rfl rfl
  | 3, _ => exact cn_t3 96 rfl rfl
  | 4, _ => exact cn_t3 98 rfl rfl
  | 5, _ => exact cn_t3 100 rfl rfl
  | 6, _ => exact cn_t3 102 rfl rfl
  | 7, _ => exact cn_t3 104 rfl rfl
  | 8, _ => exact cn_t3 106 rfl rfl
  | 9, _ => exact cn_t3 108 rfl rfl
  | 10, _ => exact cn_t3 110 rfl rfl
  | 11, _ => exact cn_t3 112 rfl rfl
  | 12, _ => exact cn_t3 114 rfl rfl
  | 13, _ => exact cn_t3 116 rfl rfl
  | 14, _ => exact cn_t3 118 rfl rfl
  | 15, _ => exact cn_t3 120 rfl rfl
  | 16, _ => exact cn_t3 122 rfl rfl
  | 17, _ => exact cn_t3 124 rfl rfl
  | 18, _ => exact cn_t3 126 rfl rfl
  | k + 19, hk => exact absurd hk (by omega)
theorem nM_0 : ("CopperNets", 15, ⟨"CopperNets$Pieces", "<init>", "()V"⟩, "CopperNets") ∈ cn_nwM := List.mem_of_getElem? (i := 0) rfl
theorem nM_1 : ("CopperNets", 22, ⟨"CopperNets$Groups", "<init>", "()V"⟩, "CopperNets") ∈ cn_nwM := List.mem_of_getElem? (i := 1) rfl
theorem nM_2 : ("CopperNets", 29, ⟨"CopperNets$Airlines", "<init>", "()V"⟩, "CopperNets") ∈ cn_nwM := List.mem_of_getElem? (i := 2) rfl
theorem nM_3 : ("CopperNets", 118, ⟨"CopperNets$Groups", "leaderOf", "(I)I"⟩, "CopperNets") ∈ cn_nwM := List.mem_of_getElem? (i := 3) rfl
theorem nM_4 : ("CopperNets", 115, ⟨"CopperNets$Groups", "has", "(I)Z"⟩, "CopperNets") ∈ cn_nwM := List.mem_of_getElem? (i := 4) rfl
theorem nM_5 : ("CopperNets", 231, ⟨"CopperNets$Pieces", "pinOf", "(I)I"⟩, "CopperNets") ∈ cn_nwM := List.mem_of_getElem? (i := 5) rfl
theorem nM_6 : ("CopperNets", 178, ⟨"CopperNets$Groups", "clear", "()V"⟩, "CopperNets") ∈ cn_nwM := List.mem_of_getElem? (i := 6) rfl
theorem nM_7 : ("CopperNets", 169, ⟨"CopperNets$Pieces", "isThere", "(I)Z"⟩, "CopperNets") ∈ cn_nwM := List.mem_of_getElem? (i := 7) rfl
theorem nM_8 : ("CopperNets", 215, ⟨"CopperNets$Groups", "begin", "(I)V"⟩, "CopperNets") ∈ cn_nwM := List.mem_of_getElem? (i := 8) rfl
theorem nM_9 : ("CopperNets", 218, ⟨"CopperNets$Pieces", "touch", "(II)Z"⟩, "CopperNets") ∈ cn_nwM := List.mem_of_getElem? (i := 9) rfl
theorem nM_10 : ("CopperNets", 222, ⟨"CopperNets$Groups", "join", "(II)V"⟩, "CopperNets") ∈ cn_nwM := List.mem_of_getElem? (i := 10) rfl
theorem nM_11 : ("CopperNets", 185, ⟨"CopperNets$Groups", "isLike", "(LCopperNets$Groups;)Z"⟩, "CopperNets") ∈ cn_nwM := List.mem_of_getElem? (i := 11) rfl
theorem nM_12 : ("CopperNets", 189, ⟨"CopperNets$Pieces", "hasPadOf", "(I)Z"⟩, "CopperNets") ∈ cn_nwM := List.mem_of_getElem? (i := 12) rfl
theorem nM_13 : ("CopperNets", 252, ⟨"CopperNets$Airlines", "clear", "()V"⟩, "CopperNets") ∈ cn_nwM := List.mem_of_getElem? (i := 13) rfl
theorem nM_14 : ("CopperNets", 253, ⟨"CopperNets$Airlines", "addPad", "(I)V"⟩, "CopperNets") ∈ cn_nwM := List.mem_of_getElem? (i := 14) rfl
theorem nM_15 : ("CopperNets", 256, ⟨"CopperNets$Airlines", "draw", "(LCopperNets$Pieces;LCopperNets$Groups;)V"⟩, "CopperNets") ∈ cn_nwM := List.mem_of_getElem? (i := 15) rfl
theorem nM_16 : ("CopperNets$Airlines", 49, ⟨"CopperNets$Groups", "leaderOf", "(I)I"⟩, "CopperNets") ∈ cn_nwM := List.mem_of_getElem? (i := 16) rfl
theorem nM_17 : ("CopperNets$Airlines", 59, ⟨"CopperNets$Pieces", "square", "(II)J"⟩, "CopperNets") ∈ cn_nwM := List.mem_of_getElem? (i := 17) rfl
theorem nM_18 : ("CopperNets$Airlines", 65, ⟨"CopperNets$Pair", "of", "(JII)J"⟩, "CopperNets") ∈ cn_nwM := List.mem_of_getElem? (i := 18) rfl
theorem nM_19 : ("CopperNets", 74, ⟨"CopperNets$Pieces", "isFull", "()Z"⟩, "CopperNets") ∈ cn_nwM := List.mem_of_getElem? (i := 19) rfl
theorem nM_20 : ("CopperNets", 78, ⟨"CopperNets$Pieces", "addRectangle", "(IJJJJ)I"⟩, "CopperNets") ∈ cn_nwM := List.mem_of_getElem? (i := 20) rfl
theorem nM_21 : ("CopperNets", 93, ⟨"CopperNets$Pieces", "addDisc", "(IIIJJJ)I"⟩, "CopperNets") ∈ cn_nwM := List.mem_of_getElem? (i := 21) rfl
theorem nM_22 : ("CopperNets", 132, ⟨"CopperNets$Airlines", "has", "(I)Z"⟩, "CopperNets") ∈ cn_nwM := List.mem_of_getElem? (i := 22) rfl
theorem nM_23 : ("CopperNets", 138, ⟨"CopperNets$Airlines", "pairAt", "(I)J"⟩, "CopperNets") ∈ cn_nwM := List.mem_of_getElem? (i := 23) rfl
theorem nM_24 : ("CopperNets", 142, ⟨"CopperNets$Pair", "square", "(J)J"⟩, "CopperNets") ∈ cn_nwM := List.mem_of_getElem? (i := 24) rfl
theorem nM_25 : ("CopperNets", 148, ⟨"CopperNets$Pair", "piece", "(JI)I"⟩, "CopperNets") ∈ cn_nwM := List.mem_of_getElem? (i := 25) rfl
theorem nM_26 : ("CopperNets", 248, ⟨"CopperNets$Pair", "of", "(JII)J"⟩, "CopperNets") ∈ cn_nwM := List.mem_of_getElem? (i := 26) rfl
theorem nM_27 : ("CopperNets", 172, ⟨"CopperNets$Pieces", "remove", "(I)V"⟩, "CopperNets") ∈ cn_nwM := List.mem_of_getElem? (i := 27) rfl
theorem nM_28 : ("CopperNets", 225, ⟨"CopperNets$Groups", "leave", "(I)V"⟩, "CopperNets") ∈ cn_nwM := List.mem_of_getElem? (i := 28) rfl
theorem nM_29 : ("CopperNets", 228, ⟨"CopperNets$Groups", "follow", "(II)V"⟩, "CopperNets") ∈ cn_nwM := List.mem_of_getElem? (i := 29) rfl
theorem nF_0 : ("CopperNets", 106, "CopperNets$Pieces", "count", "I", "CopperNets") ∈ cn_nwF := List.mem_of_getElem? (i := 0) rfl
theorem nF_1 : ("CopperNets", 127, "CopperNets$Airlines", "count", "I", "CopperNets") ∈ cn_nwF := List.mem_of_getElem? (i := 1) rfl
def cn_rd {α : Type} (i : Int32) (n : Nat) (x : Option α) : Option α := if i < 0 ∨ n ≤ i.toNatClampNeg then none else x
theorem cn_rd_some {α : Type} {i : Int32} {n : Nat} {x : Option α} {o : α} (h : cn_rd i n x = some o) : vp_in i n ∧ x = some o := by
  unfold cn_rd at h
  by_cases q : i < 0 ∨ n ≤ i.toNatClampNeg
  · rw [if_pos q] at h; cases h
  · rw [if_neg q] at h; exact ⟨q, h⟩
def cn_bl {α : Type} (v : Int32) (x : Option α) : Option α := if v = 0 ∨ v = 1 then x else none
theorem cn_bl_some {α : Type} {v : Int32} {x : Option α} {o : α} (h : cn_bl v x = some o) : narrow .boolean (.int v) = .int v ∧ x = some o := by
  unfold cn_bl at h
  by_cases q : v = 0 ∨ v = 1
  · rw [if_pos q] at h
    refine ⟨?_, h⟩
    rcases q with rfl | rfl <;> rfl
  · rw [if_neg q] at h; cases h
theorem cn_pos {α : Type} {c : Prop} [Decidable c] {a b : Option α} {o : α} (q : c) (h : (if c then a else b) = some o) : a = some o := by rw [if_pos q] at h; exact h
theorem cn_neg {α : Type} {c : Prop} [Decidable c] {a b : Option α} {o : α} (q : ¬ c) (h : (if c then a else b) = some o) : b = some o := by rw [if_neg q] at h; exact h
theorem cn_bind {α β : Type} {x : Option α} {f : α → Option β} {o : β} (h : x.bind f = some o) : ∃ t, x = some t ∧ f t = some o := Option.bind_eq_some_iff.mp h
set_option maxRecDepth 20000 in
theorem ts_2 : Cond.selects "CopperNets$Groups" ⟨"CopperNets$Groups", "leaderOf", "(I)I"⟩ ⟨"CopperNets$Groups", "leaderOf", "(I)I"⟩ ∈ cn_tb := cn_s 2 rfl rfl
set_option maxRecDepth 20000 in
theorem ts_13 : Cond.selects "CopperNets$Pieces" ⟨"CopperNets$Pieces", "square", "(II)J"⟩ ⟨"CopperNets$Pieces", "square", "(II)J"⟩ ∈ cn_tb := cn_s 13 rfl rfl
set_option maxRecDepth 20000 in
theorem tw_2 : (Jvm.Cond.initialized "CopperNets$Pieces") ∈ cn_tb := cn_t1 2 rfl rfl
set_option maxRecDepth 20000 in
theorem tw_3 : (Jvm.Cond.initialized "CopperNets$Groups") ∈ cn_tb := cn_t1 3 rfl rfl
set_option maxRecDepth 20000 in
theorem tw_6 : (Jvm.Cond.initialized "java/lang/Math") ∈ cn_tb := cn_t1 6 rfl rfl
set_option maxRecDepth 20000 in
theorem tw_31 : (Jvm.Cond.fieldLink "CopperNets$Pieces" (15 : Nat) "CopperNets$Pieces" "there" "[Z") ∈ cn_tb := cn_t1 31 rfl rfl
set_option maxRecDepth 20000 in
theorem tw_32 : (Jvm.Cond.fieldLink "CopperNets$Pieces" (19 : Nat) "CopperNets$Pieces" "from" "[I") ∈ cn_tb := cn_t1 32 rfl rfl
set_option maxRecDepth 20000 in
theorem tw_33 : (Jvm.Cond.fieldLink "CopperNets$Pieces" (23 : Nat) "CopperNets$Pieces" "to" "[I") ∈ cn_tb := cn_t1 33 rfl rfl
set_option maxRecDepth 20000 in
theorem tw_35 : (Jvm.Cond.fieldLink "CopperNets$Pieces" (29 : Nat) "CopperNets$Pieces" "left" "[J") ∈ cn_tb := cn_t1 35 rfl rfl
set_option maxRecDepth 20000 in
theorem tw_36 : (Jvm.Cond.fieldLink "CopperNets$Pieces" (33 : Nat) "CopperNets$Pieces" "low" "[J") ∈ cn_tb := cn_t1 36 rfl rfl
set_option maxRecDepth 20000 in
theorem tw_37 : (Jvm.Cond.fieldLink "CopperNets$Pieces" (36 : Nat) "CopperNets$Pieces" "right" "[J") ∈ cn_tb := cn_t1 37 rfl rfl
set_option maxRecDepth 20000 in
theorem tw_38 : (Jvm.Cond.fieldLink "CopperNets$Pieces" (39 : Nat) "CopperNets$Pieces" "high" "[J") ∈ cn_tb := cn_t1 38 rfl rfl
set_option maxRecDepth 20000 in
theorem tw_39 : (Jvm.Cond.fieldLink "CopperNets$Pieces" (42 : Nat) "CopperNets$Pieces" "rim" "[J") ∈ cn_tb := cn_t1 39 rfl rfl
set_option maxRecDepth 20000 in
theorem tw_77 : (Jvm.Cond.fieldLink "CopperNets$Groups" (9 : Nat) "CopperNets$Groups" "leader" "[I") ∈ cn_tb := cn_t1 77 rfl rfl
set_option maxRecDepth 20000 in
theorem tw_108 : (Jvm.Cond.static ({ cls := "java/lang/Math", name := "min", desc := "(II)I" } : Jvm.MethodName)) ∈ cn_tb := cn_t1 108 rfl rfl
set_option maxRecDepth 20000 in
theorem tw_109 : (Jvm.Cond.code ({ cls := "java/lang/Math", name := "min", desc := "(II)I" } : Jvm.MethodName) prog_12_method_69_code (2 : Nat) (Option.some Jvm.ClassFile.FieldType.int)) ∈ cn_tb := cn_t1 109 rfl rfl
set_option maxRecDepth 20000 in
theorem tw_111 : (Jvm.Cond.static ({ cls := "java/lang/Math", name := "max", desc := "(II)I" } : Jvm.MethodName)) ∈ cn_tb := cn_t1 111 rfl rfl
set_option maxRecDepth 20000 in
theorem tw_112 : (Jvm.Cond.code ({ cls := "java/lang/Math", name := "max", desc := "(II)I" } : Jvm.MethodName) prog_12_method_65_code (2 : Nat) (Option.some Jvm.ClassFile.FieldType.int)) ∈ cn_tb := cn_t1 112 rfl rfl
set_option maxRecDepth 20000 in
theorem tw_117 : (Jvm.Cond.fieldLink "CopperNets" (23 : Nat) "CopperNets" "kept" "LCopperNets$Groups;") ∈ cn_tb := cn_t1 117 rfl rfl
set_option maxRecDepth 20000 in
theorem tw_149 : (Jvm.Cond.instanceMethod ({ cls := "CopperNets$Groups", name := "leaderOf", desc := "(I)I" } : Jvm.MethodName)) ∈ cn_tb := cn_t1 149 rfl rfl
set_option maxRecDepth 20000 in
theorem tw_150 : (Jvm.Cond.code ({ cls := "CopperNets$Groups", name := "leaderOf", desc := "(I)I" } : Jvm.MethodName) prog_3_method_4_code (2 : Nat) (Option.some Jvm.ClassFile.FieldType.int)) ∈ cn_tb := cn_t1 150 rfl rfl
set_option maxRecDepth 20000 in
theorem tw_210 : (Jvm.Cond.methodLink "CopperNets$Pieces" (49 : Nat) ({ cls := "CopperNets$Pieces", name := "square", desc := "(II)J" } : Jvm.MethodName)) ∈ cn_tb := cn_t1 210 rfl rfl
set_option maxRecDepth 20000 in
theorem tw_212 : (Jvm.Cond.instanceMethod ({ cls := "CopperNets$Pieces", name := "square", desc := "(II)J" } : Jvm.MethodName)) ∈ cn_tb := cn_t1 212 rfl rfl
set_option maxRecDepth 20000 in
theorem tw_213 : (Jvm.Cond.code ({ cls := "CopperNets$Pieces", name := "square", desc := "(II)J" } : Jvm.MethodName) prog_5_method_11_code (7 : Nat) (Option.some Jvm.ClassFile.FieldType.long)) ∈ cn_tb := cn_t1 213 rfl rfl
set_option maxRecDepth 20000 in
theorem tw_214 : (Jvm.Cond.methodLink "CopperNets$Pieces" (53 : Nat) ({ cls := "CopperNets$Pieces", name := "gap", desc := "(JJJJ)J" } : Jvm.MethodName)) ∈ cn_tb := cn_t1 214 rfl rfl
set_option maxRecDepth 20000 in
theorem tw_215 : (Jvm.Cond.static ({ cls := "CopperNets$Pieces", name := "gap", desc := "(JJJJ)J" } : Jvm.MethodName)) ∈ cn_tb := cn_t1 215 rfl rfl
set_option maxRecDepth 20000 in
theorem tw_216 : (Jvm.Cond.code ({ cls := "CopperNets$Pieces", name := "gap", desc := "(JJJJ)J" } : Jvm.MethodName) prog_5_method_12_code (8 : Nat) (Option.some Jvm.ClassFile.FieldType.long)) ∈ cn_tb := cn_t1 216 rfl rfl
set_option maxRecDepth 20000 in
theorem tw_221 : (Jvm.Cond.methodLink "CopperNets$Groups" (24 : Nat) ({ cls := "java/lang/Math", name := "min", desc := "(II)I" } : Jvm.MethodName)) ∈ cn_tb := cn_t1 221 rfl rfl
set_option maxRecDepth 20000 in
theorem tw_222 : (Jvm.Cond.methodLink "CopperNets$Groups" (30 : Nat) ({ cls := "java/lang/Math", name := "max", desc := "(II)I" } : Jvm.MethodName)) ∈ cn_tb := cn_t1 222 rfl rfl
