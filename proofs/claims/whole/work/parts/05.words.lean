def cn_sw {α β γ : Type} (t : α ⊕ β) (f : α → Option γ) (g : β → Option γ) : Option γ := match t with
  | .inl a => f a
  | .inr b => g b
theorem cn_nlr {α β : Type} {x : β} {o : α} {P : Prop} (h : (some (Sum.inr x) : Option (α ⊕ β)) = some (Sum.inl o)) : P := nomatch h
theorem cn_nrl {α β : Type} {x : α} {o : β} {P : Prop} (h : (some (Sum.inl x) : Option (α ⊕ β)) = some (Sum.inr o)) : P := nomatch h
theorem cn_out2 {x : Int32} (h0 : ¬ x = 0) (h1 : ¬ x = 1) (h2 : ¬ x = 2) : x.toInt < 0 ∨ 2 < x.toInt := by
  have a0 := lv_neT h0 (a := 0) rfl
  have a1 := lv_neT h1 (a := 1) rfl
  have a2 := lv_neT h2 (a := 2) rfl
  omega
section TSW
variable {p : Program} {l : Launch} {e : Env} {R : Room} {s : State} {m : MethodId} {args : Array Value} {below : List Frame} {meth : Method} {c : Code} {D : va_G} {Hi : Heap → List Loc → Prop} {A : Nat → Prop} {nL cells slots : Nat} {Q : State → Prop} {ws : va_W} {pc : Nat} {lv : List (Nat × Value)} {st : List Value} {cc : ByteArray} {own : String} {cy : Nat → ClassId}
theorem cg_tswIn (C : cn_X p s m args c cc nL own D cy) {dflt lo hi : Int} {offs : Array Int} {len : Nat} {x v : Int32} {off : Int} (tgt : Nat) (hd : decode cc pc = .ok (.tableswitch dflt lo hi offs, len)) (hx : x = v) (h1 : ¬ v.toInt < lo) (h2 : ¬ hi < v.toInt) (ho : offs[(v.toInt - lo).toNat]? = some off) (ht : (pc : Int) + off = (tgt : Int)) (k : cg p l e R s m args below meth c D Hi A nL cells slots Q ws tgt lv st) : cg p l e R s m args below meth c D Hi A nL cells slots Q ws pc lv (.int x :: st) := by
  subst hx
  exact fun H locs ls hP hD hS h => lv_tableIn C.1 C.2.1 hd h1 h2 ho ht (k H locs ls hP hD hS h)
theorem cg_tswOut (C : cn_X p s m args c cc nL own D cy) {dflt lo hi : Int} {offs : Array Int} {len : Nat} {x : Int32} (tgt : Nat) (hd : decode cc pc = .ok (.tableswitch dflt lo hi offs, len)) (h1 : x.toInt < lo ∨ hi < x.toInt) (ht : (pc : Int) + dflt = (tgt : Int)) (k : cg p l e R s m args below meth c D Hi A nL cells slots Q ws tgt lv st) : cg p l e R s m args below meth c D Hi A nL cells slots Q ws pc lv (.int x :: st) :=
  fun H locs ls hP hD hS h => lv_tableOut C.1 C.2.1 hd h1 ht (k H locs ls hP hD hS h)
end TSW
theorem cn_t1 {w : Cond} (i : Nat) (h : tables_1_1[i]? = some w) (g : goodWord w = true) : w ∈ cn_tb := cn_in (List.mem_append_right _ (by have h := List.mem_of_getElem? h; exact List.mem_append_left _ h)) g
theorem cn_t2 {w : Cond} (i : Nat) (h : tables_1_2[i]? = some w) (g : goodWord w = true) : w ∈ cn_tb := cn_in (List.mem_append_right _ (by have h := List.mem_of_getElem? h; exact List.mem_append_right _ (List.mem_append_left _ h))) g
theorem cn_t3 {w : Cond} (i : Nat) (h : tables_1_3[i]? = some w) (g : goodWord w = true) : w ∈ cn_tb := cn_in (List.mem_append_right _ (by have h := List.mem_of_getElem? h; exact List.mem_append_right _ (List.mem_append_right _ (List.mem_append_left _ h)))) g
theorem cn_t4 {w : Cond} (i : Nat) (h : tables_1_4[i]? = some w) (g : goodWord w = true) : w ∈ cn_tb := cn_in (List.mem_append_right _ (by have h := List.mem_of_getElem? h; exact List.mem_append_right _ (List.mem_append_right _ (List.mem_append_right _ h)))) g
set_option maxRecDepth 20000 in
theorem hin_X : ∀ w ∈ u_ws "CopperNets" T_X 8, w ∈ cn_tb := by
  intro w hw
  obtain ⟨k, hk, rfl⟩ := List.mem_map.mp hw
  have hk := List.mem_range.mp hk
  match k, hk with
  | 0, _ => exact cn_t1 122 rfl rfl
  | 1, _ => exact cn_t1 124 rfl rfl
  | 2, _ => exact cn_t1 126 rfl rfl
  | 3, _ => exact cn_t1 128 rfl rfl
  | 4, _ => exact cn_t1 130 rfl rfl
  | 5, _ => exact cn_t1 132 rfl rfl
  | 6, _ => exact cn_t1 134 rfl rfl
  | 7, _ => exact cn_t1 136 rfl rfl
  | k + 8, hk => exact absurd hk (by omega)
set_option maxRecDepth 20000 in
theorem hin_A : ∀ w ∈ u_ws "CopperNets$Airlines" T_A 6, w ∈ cn_tb := by
  intro w hw
  obtain ⟨k, hk, rfl⟩ := List.mem_map.mp hw
  have hk := List.mem_range.mp hk
  match k, hk with
  | 0, _ => exact cn_t1 94 rfl rfl
  | 1, _ => exact cn_t1 96 rfl rfl
  | 2, _ => exact cn_t1 98 rfl rfl
  | 3, _ => exact cn_t1 100 rfl rfl
  | 4, _ => exact cn_t1 102 rfl rfl
  | 5, _ => exact cn_t1 104 rfl rfl
  | k + 6, hk => exact absurd hk (by omega)
set_option maxRecDepth 20000 in
theorem hin_G : ∀ w ∈ u_ws "CopperNets$Groups" T_G 1, w ∈ cn_tb := by
  intro w hw
  obtain ⟨k, hk, rfl⟩ := List.mem_map.mp hw
  have hk := List.mem_range.mp hk
  match k, hk with
  | 0, _ => exact cn_t1 78 rfl rfl
  | k + 1, hk => exact absurd hk (by omega)
set_option maxRecDepth 20000 in
theorem hin_P : ∀ w ∈ u_ws "CopperNets$Pieces" T_P 10, w ∈ cn_tb := by
  intro w hw
  obtain ⟨k, hk, rfl⟩ := List.mem_map.mp hw
  have hk := List.mem_range.mp hk
  match k, hk with
  | 0, _ => exact cn_t1 40 rfl rfl
  | 1, _ => exact cn_t1 42 rfl rfl
  | 2, _ => exact cn_t1 44 rfl rfl
  | 3, _ => exact cn_t1 46 rfl rfl
  | 4, _ => exact cn_t1 48 rfl rfl
  | 5, _ => exact cn_t1 50 rfl rfl
  | 6, _ => exact cn_t1 52 rfl rfl
  | 7, _ => exact cn_t1 54 rfl rfl
  | 8, _ => exact cn_t1 56 rfl rfl
  | 9, _ => exact cn_t1 58 rfl rfl
  | k + 10, hk => exact absurd hk (by omega)
set_option maxRecDepth 20000 in
theorem hin_M : ∀ w ∈ u_ws "CopperNetsModel" T_M 19, w ∈ cn_tb := by
  intro w hw
  obtain ⟨k, hk, rfl⟩ := List.mem_map.mp hw
  have hk := List.mem_range.mp hk
  match k, hk with
  | 0, _ => exact cn_t3 90 rfl rfl
  | 1, _ => exact cn_t3 92 rfl rfl
  | 2, _ => exact cn_t3 94 rfl rfl
  | 3, _ => exact cn_t3 96 rfl rfl
  | 4, _ => exact cn_t3 98 rfl rfl
  | 5, _ => exact cn_t3 100 rfl rfl
  | 6, _ => exact cn_t3 102 rfl rfl
  | 7, _ => exact cn_t3 104 rfl rfl
  | 8, _ => exact cn_t3 106 rfl rfl
  | 9, _ => exact cn_t3 108 rfl rfl
  | 10, _ => exact cn_t3 110 rfl rfl
  | 11, _ => exact cn_t3 112 rfl rfl
  | 12, _ => exact cn_t3 114 rfl rfl
  | 13, _ => exact cn_t3 116 rfl rfl
  | 14, _ => exact cn_t3 118 rfl rfl
  | 15, _ => exact cn_t3 120 rfl rfl
  | 16, _ => exact cn_t3 122 rfl rfl
  | 17, _ => exact cn_t3 124 rfl rfl
  | 18, _ => exact cn_t3 126 rfl rfl
  | k + 19, hk => exact absurd hk (by omega)
theorem nM_0 : ("CopperNets", 15, ⟨"CopperNets$Pieces", "<init>", "()V"⟩, "CopperNets") ∈ cn_nwM := List.mem_of_getElem? (i := 0) rfl
theorem nM_1 : ("CopperNets", 22, ⟨"CopperNets$Groups", "<init>", "()V"⟩, "CopperNets") ∈ cn_nwM := List.mem_of_getElem? (i := 1) rfl
theorem nM_2 : ("CopperNets", 29, ⟨"CopperNets$Airlines", "<init>", "()V"⟩, "CopperNets") ∈ cn_nwM := List.mem_of_getElem? (i := 2) rfl
theorem nM_3 : ("CopperNets", 118, ⟨"CopperNets$Groups", "leaderOf", "(I)I"⟩, "CopperNets") ∈ cn_nwM := List.mem_of_getElem? (i := 3) rfl
theorem nM_4 : ("CopperNets", 115, ⟨"CopperNets$Groups", "has", "(I)Z"⟩, "CopperNets") ∈ cn_nwM := List.mem_of_getElem? (i := 4) rfl
theorem nM_5 : ("CopperNets", 231, ⟨"CopperNets$Pieces", "pinOf", "(I)I"⟩, "CopperNets") ∈ cn_nwM := List.mem_of_getElem? (i := 5) rfl
theorem nM_6 : ("CopperNets", 178, ⟨"CopperNets$Groups", "clear", "()V"⟩, "CopperNets") ∈ cn_nwM := List.mem_of_getElem? (i := 6) rfl
theorem nM_7 : ("CopperNets", 169, ⟨"CopperNets$Pieces", "isThere", "(I)Z"⟩, "CopperNets") ∈ cn_nwM := List.mem_of_getElem? (i := 7) rfl
theorem nM_8 : ("CopperNets", 215, ⟨"CopperNets$Groups", "begin", "(I)V"⟩, "CopperNets") ∈ cn_nwM := List.mem_of_getElem? (i := 8) rfl
theorem nM_9 : ("CopperNets", 218, ⟨"CopperNets$Pieces", "touch", "(II)Z"⟩, "CopperNets") ∈ cn_nwM := List.mem_of_getElem? (i := 9) rfl
theorem nM_10 : ("CopperNets", 222, ⟨"CopperNets$Groups", "join", "(II)V"⟩, "CopperNets") ∈ cn_nwM := List.mem_of_getElem? (i := 10) rfl
theorem nM_11 : ("CopperNets", 185, ⟨"CopperNets$Groups", "isLike", "(LCopperNets$Groups;)Z"⟩, "CopperNets") ∈ cn_nwM := List.mem_of_getElem? (i := 11) rfl
theorem nM_12 : ("CopperNets", 189, ⟨"CopperNets$Pieces", "hasPadOf", "(I)Z"⟩, "CopperNets") ∈ cn_nwM := List.mem_of_getElem? (i := 12) rfl
theorem nM_13 : ("CopperNets", 252, ⟨"CopperNets$Airlines", "clear", "()V"⟩, "CopperNets") ∈ cn_nwM := List.mem_of_getElem? (i := 13) rfl
theorem nM_14 : ("CopperNets", 253, ⟨"CopperNets$Airlines", "addPad", "(I)V"⟩, "CopperNets") ∈ cn_nwM := List.mem_of_getElem? (i := 14) rfl
theorem nM_15 : ("CopperNets", 256, ⟨"CopperNets$Airlines", "draw", "(LCopperNets$Pieces;LCopperNets$Groups;)V"⟩, "CopperNets") ∈ cn_nwM := List.mem_of_getElem? (i := 15) rfl
theorem nM_16 : ("CopperNets$Airlines", 49, ⟨"CopperNets$Groups", "leaderOf", "(I)I"⟩, "CopperNets") ∈ cn_nwM := List.mem_of_getElem? (i := 16) rfl
theorem nM_17 : ("CopperNets$Airlines", 59, ⟨"CopperNets$Pieces", "square", "(II)J"⟩, "CopperNets") ∈ cn_nwM := List.mem_of_getElem? (i := 17) rfl
theorem nM_18 : ("CopperNets$Airlines", 65, ⟨"CopperNets$Pair", "of", "(JII)J"⟩, "CopperNets") ∈ cn_nwM := List.mem_of_getElem? (i := 18) rfl
theorem nM_19 : ("CopperNets", 74, ⟨"CopperNets$Pieces", "isFull", "()Z"⟩, "CopperNets") ∈ cn_nwM := List.mem_of_getElem? (i := 19) rfl
theorem nM_20 : ("CopperNets", 78, ⟨"CopperNets$Pieces", "addRectangle", "(IJJJJ)I"⟩, "CopperNets") ∈ cn_nwM := List.mem_of_getElem? (i := 20) rfl
theorem nM_21 : ("CopperNets", 93, ⟨"CopperNets$Pieces", "addDisc", "(IIIJJJ)I"⟩, "CopperNets") ∈ cn_nwM := List.mem_of_getElem? (i := 21) rfl
theorem nM_22 : ("CopperNets", 132, ⟨"CopperNets$Airlines", "has", "(I)Z"⟩, "CopperNets") ∈ cn_nwM := List.mem_of_getElem? (i := 22) rfl
theorem nM_23 : ("CopperNets", 138, ⟨"CopperNets$Airlines", "pairAt", "(I)J"⟩, "CopperNets") ∈ cn_nwM := List.mem_of_getElem? (i := 23) rfl
theorem nM_24 : ("CopperNets", 142, ⟨"CopperNets$Pair", "square", "(J)J"⟩, "CopperNets") ∈ cn_nwM := List.mem_of_getElem? (i := 24) rfl
theorem nM_25 : ("CopperNets", 148, ⟨"CopperNets$Pair", "piece", "(JI)I"⟩, "CopperNets") ∈ cn_nwM := List.mem_of_getElem? (i := 25) rfl
theorem nM_26 : ("CopperNets", 248, ⟨"CopperNets$Pair", "of", "(JII)J"⟩, "CopperNets") ∈ cn_nwM := List.mem_of_getElem? (i := 26) rfl
theorem nM_27 : ("CopperNets", 172, ⟨"CopperNets$Pieces", "remove", "(I)V"⟩, "CopperNets") ∈ cn_nwM := List.mem_of_getElem? (i := 27) rfl
theorem nM_28 : ("CopperNets", 225, ⟨"CopperNets$Groups", "leave", "(I)V"⟩, "CopperNets") ∈ cn_nwM := List.mem_of_getElem? (i := 28) rfl
theorem nM_29 : ("CopperNets", 228, ⟨"CopperNets$Groups", "follow", "(II)V"⟩, "CopperNets") ∈ cn_nwM := List.mem_of_getElem? (i := 29) rfl
theorem nF_0 : ("CopperNets", 106, "CopperNets$Pieces", "count", "I", "CopperNets") ∈ cn_nwF := List.mem_of_getElem? (i := 0) rfl
theorem nF_1 : ("CopperNets", 127, "CopperNets$Airlines", "count", "I", "CopperNets") ∈ cn_nwF := List.mem_of_getElem? (i := 1) rfl
def cn_rd {α : Type} (i : Int32) (n : Nat) (x : Option α) : Option α := if i < 0 ∨ n ≤ i.toNatClampNeg then none else x
theorem cn_rd_some {α : Type} {i : Int32} {n : Nat} {x : Option α} {o : α} (h : cn_rd i n x = some o) : vp_in i n ∧ x = some o := by
  unfold cn_rd at h
  by_cases q : i < 0 ∨ n ≤ i.toNatClampNeg
  · rw [if_pos q] at h; cases h
  · rw [if_neg q] at h; exact ⟨q, h⟩
def cn_bl {α : Type} (v : Int32) (x : Option α) : Option α := if v = 0 ∨ v = 1 then x else none
theorem cn_bl_some {α : Type} {v : Int32} {x : Option α} {o : α} (h : cn_bl v x = some o) : narrow .boolean (.int v) = .int v ∧ x = some o := by
  unfold cn_bl at h
  by_cases q : v = 0 ∨ v = 1
  · rw [if_pos q] at h
    refine ⟨?_, h⟩
    rcases q with rfl | rfl <;> rfl
  · rw [if_neg q] at h; cases h
theorem cn_pos {α : Type} {c : Prop} [Decidable c] {a b : Option α} {o : α} (q : c) (h : (if c then a else b) = some o) : a = some o := by rw [if_pos q] at h; exact h
theorem cn_neg {α : Type} {c : Prop} [Decidable c] {a b : Option α} {o : α} (q : ¬ c) (h : (if c then a else b) = some o) : b = some o := by rw [if_neg q] at h; exact h
theorem cn_bind {α β : Type} {x : Option α} {f : α → Option β} {o : β} (h : x.bind f = some o) : ∃ t, x = some t ∧ f t = some o := Option.bind_eq_some_iff.mp h
set_option maxRecDepth 20000 in
theorem ts_0 : Cond.selects "CopperNets$Groups" ⟨"CopperNets$Groups", "clear", "()V"⟩ ⟨"CopperNets$Groups", "clear", "()V"⟩ ∈ cn_tb := cn_s 0 rfl rfl
set_option maxRecDepth 20000 in
theorem ts_1 : Cond.selects "CopperNets" ⟨"CopperNets", "leadersBelow", "(I)I"⟩ ⟨"CopperNets", "leadersBelow", "(I)I"⟩ ∈ cn_tb := cn_s 1 rfl rfl
set_option maxRecDepth 20000 in
theorem ts_2 : Cond.selects "CopperNets$Groups" ⟨"CopperNets$Groups", "leaderOf", "(I)I"⟩ ⟨"CopperNets$Groups", "leaderOf", "(I)I"⟩ ∈ cn_tb := cn_s 2 rfl rfl
set_option maxRecDepth 20000 in
theorem ts_3 : Cond.selects "CopperNets" ⟨"CopperNets", "collectNetBits", "()V"⟩ ⟨"CopperNets", "collectNetBits", "()V"⟩ ∈ cn_tb := cn_s 3 rfl rfl
set_option maxRecDepth 20000 in
theorem ts_4 : Cond.selects "CopperNets$Groups" ⟨"CopperNets$Groups", "has", "(I)Z"⟩ ⟨"CopperNets$Groups", "has", "(I)Z"⟩ ∈ cn_tb := cn_s 4 rfl rfl
set_option maxRecDepth 20000 in
theorem ts_5 : Cond.selects "CopperNets" ⟨"CopperNets", "plannedBit", "(I)I"⟩ ⟨"CopperNets", "plannedBit", "(I)I"⟩ ∈ cn_tb := cn_s 5 rfl rfl
set_option maxRecDepth 20000 in
theorem ts_6 : Cond.selects "CopperNets" ⟨"CopperNets", "plannedNet", "(I)I"⟩ ⟨"CopperNets", "plannedNet", "(I)I"⟩ ∈ cn_tb := cn_s 6 rfl rfl
set_option maxRecDepth 20000 in
theorem ts_7 : Cond.selects "CopperNets$Pieces" ⟨"CopperNets$Pieces", "pinOf", "(I)I"⟩ ⟨"CopperNets$Pieces", "pinOf", "(I)I"⟩ ∈ cn_tb := cn_s 7 rfl rfl
set_option maxRecDepth 20000 in
theorem ts_8 : Cond.selects "CopperNets" ⟨"CopperNets", "isShort", "(I)Z"⟩ ⟨"CopperNets", "isShort", "(I)Z"⟩ ∈ cn_tb := cn_s 8 rfl rfl
set_option maxRecDepth 20000 in
theorem ts_9 : Cond.selects "CopperNets$Pieces" ⟨"CopperNets$Pieces", "isThere", "(I)Z"⟩ ⟨"CopperNets$Pieces", "isThere", "(I)Z"⟩ ∈ cn_tb := cn_s 9 rfl rfl
set_option maxRecDepth 20000 in
theorem ts_10 : Cond.selects "CopperNets" ⟨"CopperNets", "enter", "(LCopperNets$Groups;I)V"⟩ ⟨"CopperNets", "enter", "(LCopperNets$Groups;I)V"⟩ ∈ cn_tb := cn_s 10 rfl rfl
set_option maxRecDepth 20000 in
theorem ts_11 : Cond.selects "CopperNets$Groups" ⟨"CopperNets$Groups", "begin", "(I)V"⟩ ⟨"CopperNets$Groups", "begin", "(I)V"⟩ ∈ cn_tb := cn_s 11 rfl rfl
set_option maxRecDepth 20000 in
theorem ts_12 : Cond.selects "CopperNets$Pieces" ⟨"CopperNets$Pieces", "touch", "(II)Z"⟩ ⟨"CopperNets$Pieces", "touch", "(II)Z"⟩ ∈ cn_tb := cn_s 12 rfl rfl
set_option maxRecDepth 20000 in
theorem ts_13 : Cond.selects "CopperNets$Pieces" ⟨"CopperNets$Pieces", "square", "(II)J"⟩ ⟨"CopperNets$Pieces", "square", "(II)J"⟩ ∈ cn_tb := cn_s 13 rfl rfl
set_option maxRecDepth 20000 in
theorem ts_14 : Cond.selects "CopperNets$Groups" ⟨"CopperNets$Groups", "join", "(II)V"⟩ ⟨"CopperNets$Groups", "join", "(II)V"⟩ ∈ cn_tb := cn_s 14 rfl rfl
set_option maxRecDepth 20000 in
theorem ts_15 : Cond.selects "CopperNets$Groups" ⟨"CopperNets$Groups", "isLike", "(LCopperNets$Groups;)Z"⟩ ⟨"CopperNets$Groups", "isLike", "(LCopperNets$Groups;)Z"⟩ ∈ cn_tb := cn_s 15 rfl rfl
set_option maxRecDepth 20000 in
theorem ts_16 : Cond.selects "CopperNets$Pieces" ⟨"CopperNets$Pieces", "hasPadOf", "(I)Z"⟩ ⟨"CopperNets$Pieces", "hasPadOf", "(I)Z"⟩ ∈ cn_tb := cn_s 16 rfl rfl
set_option maxRecDepth 20000 in
theorem ts_17 : Cond.selects "CopperNets" ⟨"CopperNets", "drawAirlines", "(I)V"⟩ ⟨"CopperNets", "drawAirlines", "(I)V"⟩ ∈ cn_tb := cn_s 17 rfl rfl
set_option maxRecDepth 20000 in
theorem ts_18 : Cond.selects "CopperNets$Airlines" ⟨"CopperNets$Airlines", "clear", "()V"⟩ ⟨"CopperNets$Airlines", "clear", "()V"⟩ ∈ cn_tb := cn_s 18 rfl rfl
set_option maxRecDepth 20000 in
theorem ts_19 : Cond.selects "CopperNets$Airlines" ⟨"CopperNets$Airlines", "addPad", "(I)V"⟩ ⟨"CopperNets$Airlines", "addPad", "(I)V"⟩ ∈ cn_tb := cn_s 19 rfl rfl
set_option maxRecDepth 20000 in
theorem ts_20 : Cond.selects "CopperNets$Airlines" ⟨"CopperNets$Airlines", "draw", "(LCopperNets$Pieces;LCopperNets$Groups;)V"⟩ ⟨"CopperNets$Airlines", "draw", "(LCopperNets$Pieces;LCopperNets$Groups;)V"⟩ ∈ cn_tb := cn_s 20 rfl rfl
set_option maxRecDepth 20000 in
theorem ts_21 : Cond.selects "CopperNets$Airlines" ⟨"CopperNets$Airlines", "reach", "(ILCopperNets$Pieces;LCopperNets$Groups;)V"⟩ ⟨"CopperNets$Airlines", "reach", "(ILCopperNets$Pieces;LCopperNets$Groups;)V"⟩ ∈ cn_tb := cn_s 21 rfl rfl
set_option maxRecDepth 20000 in
theorem ts_22 : Cond.selects "CopperNets$Airlines" ⟨"CopperNets$Airlines", "lookFrom", "(ILCopperNets$Pieces;)V"⟩ ⟨"CopperNets$Airlines", "lookFrom", "(ILCopperNets$Pieces;)V"⟩ ∈ cn_tb := cn_s 22 rfl rfl
set_option maxRecDepth 20000 in
theorem ts_23 : Cond.selects "CopperNets$Airlines" ⟨"CopperNets$Airlines", "nearestPad", "()I"⟩ ⟨"CopperNets$Airlines", "nearestPad", "()I"⟩ ∈ cn_tb := cn_s 23 rfl rfl
set_option maxRecDepth 20000 in
theorem ts_24 : Cond.selects "CopperNets$Airlines" ⟨"CopperNets$Airlines", "insert", "(J)V"⟩ ⟨"CopperNets$Airlines", "insert", "(J)V"⟩ ∈ cn_tb := cn_s 24 rfl rfl
set_option maxRecDepth 20000 in
theorem ts_25 : Cond.selects "CopperNets" ⟨"CopperNets", "checkLayer", "(I)V"⟩ ⟨"CopperNets", "checkLayer", "(I)V"⟩ ∈ cn_tb := cn_s 25 rfl rfl
set_option maxRecDepth 20000 in
theorem ts_27 : Cond.selects "CopperNets$Pieces" ⟨"CopperNets$Pieces", "isFull", "()Z"⟩ ⟨"CopperNets$Pieces", "isFull", "()Z"⟩ ∈ cn_tb := cn_s 27 rfl rfl
set_option maxRecDepth 20000 in
theorem ts_28 : Cond.selects "CopperNets$Pieces" ⟨"CopperNets$Pieces", "addRectangle", "(IJJJJ)I"⟩ ⟨"CopperNets$Pieces", "addRectangle", "(IJJJJ)I"⟩ ∈ cn_tb := cn_s 28 rfl rfl
set_option maxRecDepth 20000 in
theorem ts_29 : Cond.selects "CopperNets$Pieces" ⟨"CopperNets$Pieces", "add", "(III)I"⟩ ⟨"CopperNets$Pieces", "add", "(III)I"⟩ ∈ cn_tb := cn_s 29 rfl rfl
set_option maxRecDepth 20000 in
theorem ts_30 : Cond.selects "CopperNets" ⟨"CopperNets", "takeIn", "(I)I"⟩ ⟨"CopperNets", "takeIn", "(I)I"⟩ ∈ cn_tb := cn_s 30 rfl rfl
set_option maxRecDepth 20000 in
theorem ts_31 : Cond.selects "CopperNets$Pieces" ⟨"CopperNets$Pieces", "addDisc", "(IIIJJJ)I"⟩ ⟨"CopperNets$Pieces", "addDisc", "(IIIJJJ)I"⟩ ∈ cn_tb := cn_s 31 rfl rfl
set_option maxRecDepth 20000 in
theorem ts_32 : Cond.selects "CopperNets" ⟨"CopperNets", "checkPiece", "(I)V"⟩ ⟨"CopperNets", "checkPiece", "(I)V"⟩ ∈ cn_tb := cn_s 32 rfl rfl
set_option maxRecDepth 20000 in
theorem ts_33 : Cond.selects "CopperNets$Airlines" ⟨"CopperNets$Airlines", "has", "(I)Z"⟩ ⟨"CopperNets$Airlines", "has", "(I)Z"⟩ ∈ cn_tb := cn_s 33 rfl rfl
set_option maxRecDepth 20000 in
theorem ts_34 : Cond.selects "CopperNets$Airlines" ⟨"CopperNets$Airlines", "pairAt", "(I)J"⟩ ⟨"CopperNets$Airlines", "pairAt", "(I)J"⟩ ∈ cn_tb := cn_s 34 rfl rfl
set_option maxRecDepth 20000 in
theorem ts_35 : Cond.selects "CopperNets" ⟨"CopperNets", "leaderOfShort", "(I)I"⟩ ⟨"CopperNets", "leaderOfShort", "(I)I"⟩ ∈ cn_tb := cn_s 35 rfl rfl
set_option maxRecDepth 20000 in
theorem ts_36 : Cond.selects "CopperNets" ⟨"CopperNets", "joinThatShorted", "(I)J"⟩ ⟨"CopperNets", "joinThatShorted", "(I)J"⟩ ∈ cn_tb := cn_s 36 rfl rfl
set_option maxRecDepth 20000 in
theorem ts_37 : Cond.selects "CopperNets" ⟨"CopperNets", "belowThatShorts", "(I)I"⟩ ⟨"CopperNets", "belowThatShorts", "(I)I"⟩ ∈ cn_tb := cn_s 37 rfl rfl
set_option maxRecDepth 20000 in
theorem ts_38 : Cond.selects "CopperNets$Pieces" ⟨"CopperNets$Pieces", "remove", "(I)V"⟩ ⟨"CopperNets$Pieces", "remove", "(I)V"⟩ ∈ cn_tb := cn_s 38 rfl rfl
set_option maxRecDepth 20000 in
theorem ts_39 : Cond.selects "CopperNets" ⟨"CopperNets", "partWithout", "(I)V"⟩ ⟨"CopperNets", "partWithout", "(I)V"⟩ ∈ cn_tb := cn_s 39 rfl rfl
set_option maxRecDepth 20000 in
theorem ts_40 : Cond.selects "CopperNets$Groups" ⟨"CopperNets$Groups", "leave", "(I)V"⟩ ⟨"CopperNets$Groups", "leave", "(I)V"⟩ ∈ cn_tb := cn_s 40 rfl rfl
set_option maxRecDepth 20000 in
theorem ts_41 : Cond.selects "CopperNets$Groups" ⟨"CopperNets$Groups", "follow", "(II)V"⟩ ⟨"CopperNets$Groups", "follow", "(II)V"⟩ ∈ cn_tb := cn_s 41 rfl rfl
set_option maxRecDepth 20000 in
theorem ts_42 : Cond.selects "CopperNetsModel" ⟨"CopperNetsModel", "isLayer", "(I)Z"⟩ ⟨"CopperNetsModel", "isLayer", "(I)Z"⟩ ∈ cn_tb := cn_s 42 rfl rfl
set_option maxRecDepth 20000 in
theorem ts_43 : Cond.selects "CopperNetsModel" ⟨"CopperNetsModel", "add", "(IIJJJJJI)I"⟩ ⟨"CopperNetsModel", "add", "(IIJJJJJI)I"⟩ ∈ cn_tb := cn_s 43 rfl rfl
set_option maxRecDepth 20000 in
theorem ts_44 : Cond.selects "CopperNetsModel" ⟨"CopperNetsModel", "isPiece", "(I)Z"⟩ ⟨"CopperNetsModel", "isPiece", "(I)Z"⟩ ∈ cn_tb := cn_s 44 rfl rfl
set_option maxRecDepth 20000 in
theorem ts_45 : Cond.selects "CopperNetsModel" ⟨"CopperNetsModel", "findNets", "()I"⟩ ⟨"CopperNetsModel", "findNets", "()I"⟩ ∈ cn_tb := cn_s 45 rfl rfl
set_option maxRecDepth 20000 in
theorem ts_46 : Cond.selects "CopperNetsModel" ⟨"CopperNetsModel", "findLabels", "()V"⟩ ⟨"CopperNetsModel", "findLabels", "()V"⟩ ∈ cn_tb := cn_s 46 rfl rfl
set_option maxRecDepth 20000 in
theorem ts_47 : Cond.selects "CopperNetsModel" ⟨"CopperNetsModel", "touch", "(II)Z"⟩ ⟨"CopperNetsModel", "touch", "(II)Z"⟩ ∈ cn_tb := cn_s 47 rfl rfl
set_option maxRecDepth 20000 in
theorem ts_48 : Cond.selects "CopperNetsModel" ⟨"CopperNetsModel", "countOpens", "(I)I"⟩ ⟨"CopperNetsModel", "countOpens", "(I)I"⟩ ∈ cn_tb := cn_s 48 rfl rfl
set_option maxRecDepth 20000 in
theorem ts_49 : Cond.selects "CopperNetsModel" ⟨"CopperNetsModel", "nextAirline", "(I)Z"⟩ ⟨"CopperNetsModel", "nextAirline", "(I)Z"⟩ ∈ cn_tb := cn_s 49 rfl rfl
set_option maxRecDepth 20000 in
theorem ts_50 : Cond.selects "CopperNetsModel" ⟨"CopperNetsModel", "planOf", "(I)I"⟩ ⟨"CopperNetsModel", "planOf", "(I)I"⟩ ∈ cn_tb := cn_s 50 rfl rfl
set_option maxRecDepth 20000 in
theorem ts_51 : Cond.selects "CopperNetsModel" ⟨"CopperNetsModel", "findAirline", "(II)Z"⟩ ⟨"CopperNetsModel", "findAirline", "(II)Z"⟩ ∈ cn_tb := cn_s 51 rfl rfl
set_option maxRecDepth 20000 in
theorem ts_52 : Cond.selects "CopperNetsModel" ⟨"CopperNetsModel", "countShorts", "()I"⟩ ⟨"CopperNetsModel", "countShorts", "()I"⟩ ∈ cn_tb := cn_s 52 rfl rfl
set_option maxRecDepth 20000 in
theorem ts_53 : Cond.selects "CopperNetsModel" ⟨"CopperNetsModel", "netsOf", "(I)I"⟩ ⟨"CopperNetsModel", "netsOf", "(I)I"⟩ ∈ cn_tb := cn_s 53 rfl rfl
set_option maxRecDepth 20000 in
theorem ts_54 : Cond.selects "CopperNetsModel" ⟨"CopperNetsModel", "shortAt", "(I)I"⟩ ⟨"CopperNetsModel", "shortAt", "(I)I"⟩ ∈ cn_tb := cn_s 54 rfl rfl
set_option maxRecDepth 20000 in
theorem ts_55 : Cond.selects "CopperNetsModel" ⟨"CopperNetsModel", "findJoin", "(I)V"⟩ ⟨"CopperNetsModel", "findJoin", "(I)V"⟩ ∈ cn_tb := cn_s 55 rfl rfl
set_option maxRecDepth 20000 in
theorem ts_56 : Cond.selects "CopperNetsModel" ⟨"CopperNetsModel", "netsOfGroup", "(I)I"⟩ ⟨"CopperNetsModel", "netsOfGroup", "(I)I"⟩ ∈ cn_tb := cn_s 56 rfl rfl
set_option maxRecDepth 20000 in
theorem ts_57 : Cond.selects "CopperNetsModel" ⟨"CopperNetsModel", "unreachedAt", "(I)I"⟩ ⟨"CopperNetsModel", "unreachedAt", "(I)I"⟩ ∈ cn_tb := cn_s 57 rfl rfl
set_option maxRecDepth 20000 in
theorem ts_58 : Cond.selects "CopperNetsModel" ⟨"CopperNetsModel", "hasPad", "(I)Z"⟩ ⟨"CopperNetsModel", "hasPad", "(I)Z"⟩ ∈ cn_tb := cn_s 58 rfl rfl
set_option maxRecDepth 20000 in
theorem tw_1 : (Jvm.Cond.initialized "CopperNets") ∈ cn_tb := cn_t1 1 rfl rfl
set_option maxRecDepth 20000 in
theorem tw_2 : (Jvm.Cond.initialized "CopperNets$Pieces") ∈ cn_tb := cn_t1 2 rfl rfl
set_option maxRecDepth 20000 in
theorem tw_3 : (Jvm.Cond.initialized "CopperNets$Groups") ∈ cn_tb := cn_t1 3 rfl rfl
set_option maxRecDepth 20000 in
theorem tw_4 : (Jvm.Cond.initialized "java/util/Arrays") ∈ cn_tb := cn_t1 4 rfl rfl
set_option maxRecDepth 20000 in
theorem tw_5 : (Jvm.Cond.initialized "CopperNets$Airlines") ∈ cn_tb := cn_t1 5 rfl rfl
set_option maxRecDepth 20000 in
theorem tw_6 : (Jvm.Cond.initialized "java/lang/Math") ∈ cn_tb := cn_t1 6 rfl rfl
set_option maxRecDepth 20000 in
theorem tw_7 : (Jvm.Cond.initialized "CopperNetsModel") ∈ cn_tb := cn_t1 7 rfl rfl
set_option maxRecDepth 20000 in
theorem tw_11 : (Jvm.Cond.initialized "java/lang/IndexOutOfBoundsException") ∈ cn_tb := cn_t1 11 rfl rfl
set_option maxRecDepth 20000 in
theorem tw_12 : (Jvm.Cond.initialized "java/lang/IllegalArgumentException") ∈ cn_tb := cn_t1 12 rfl rfl
set_option maxRecDepth 20000 in
theorem tw_13 : (Jvm.Cond.initialized "CopperNets$Pair") ∈ cn_tb := cn_t1 13 rfl rfl
set_option maxRecDepth 20000 in
theorem tw_14 : (Jvm.Cond.initialized "java/lang/Integer") ∈ cn_tb := cn_t1 14 rfl rfl
set_option maxRecDepth 20000 in
theorem tw_20 : (Jvm.Cond.methodLink "CopperNets" (1 : Nat) ({ cls := "java/lang/Object", name := "<init>", desc := "()V" } : Jvm.MethodName)) ∈ cn_tb := cn_t1 20 rfl rfl
set_option maxRecDepth 20000 in
theorem tw_21 : (Jvm.Cond.instanceMethod ({ cls := "java/lang/Object", name := "<init>", desc := "()V" } : Jvm.MethodName)) ∈ cn_tb := cn_t1 21 rfl rfl
set_option maxRecDepth 20000 in
theorem tw_22 : (Jvm.Cond.code ({ cls := "java/lang/Object", name := "<init>", desc := "()V" } : Jvm.MethodName) object_method_1_code (1 : Nat) (Option.none : Option Jvm.ClassFile.FieldType)) ∈ cn_tb := cn_t1 22 rfl rfl
set_option maxRecDepth 20000 in
theorem tw_23 : (Jvm.Cond.classLink "CopperNets" (13 : Nat) "CopperNets$Pieces") ∈ cn_tb := cn_t1 23 rfl rfl
set_option maxRecDepth 20000 in
theorem tw_24 : (Jvm.Cond.instantiable "CopperNets$Pieces" (10 : Nat)) ∈ cn_tb := cn_t1 24 rfl rfl
set_option maxRecDepth 20000 in
theorem tw_26 : (Jvm.Cond.instanceMethod ({ cls := "CopperNets$Pieces", name := "<init>", desc := "()V" } : Jvm.MethodName)) ∈ cn_tb := cn_t1 26 rfl rfl
set_option maxRecDepth 20000 in
theorem tw_27 : (Jvm.Cond.code ({ cls := "CopperNets$Pieces", name := "<init>", desc := "()V" } : Jvm.MethodName) prog_5_method_1_code (1 : Nat) (Option.none : Option Jvm.ClassFile.FieldType)) ∈ cn_tb := cn_t1 27 rfl rfl
set_option maxRecDepth 20000 in
theorem tw_28 : (Jvm.Cond.methodLink "CopperNets$Pieces" (3 : Nat) ({ cls := "java/lang/Object", name := "<init>", desc := "()V" } : Jvm.MethodName)) ∈ cn_tb := cn_t1 28 rfl rfl
set_option maxRecDepth 20000 in
theorem tw_29 : (Jvm.Cond.fieldLink "CopperNets$Pieces" (9 : Nat) "CopperNets$Pieces" "count" "I") ∈ cn_tb := cn_t1 29 rfl rfl
set_option maxRecDepth 20000 in
theorem tw_31 : (Jvm.Cond.fieldLink "CopperNets$Pieces" (15 : Nat) "CopperNets$Pieces" "there" "[Z") ∈ cn_tb := cn_t1 31 rfl rfl
set_option maxRecDepth 20000 in
theorem tw_32 : (Jvm.Cond.fieldLink "CopperNets$Pieces" (19 : Nat) "CopperNets$Pieces" "from" "[I") ∈ cn_tb := cn_t1 32 rfl rfl
set_option maxRecDepth 20000 in
theorem tw_33 : (Jvm.Cond.fieldLink "CopperNets$Pieces" (23 : Nat) "CopperNets$Pieces" "to" "[I") ∈ cn_tb := cn_t1 33 rfl rfl
set_option maxRecDepth 20000 in
theorem tw_34 : (Jvm.Cond.fieldLink "CopperNets$Pieces" (26 : Nat) "CopperNets$Pieces" "pin" "[I") ∈ cn_tb := cn_t1 34 rfl rfl
set_option maxRecDepth 20000 in
theorem tw_35 : (Jvm.Cond.fieldLink "CopperNets$Pieces" (29 : Nat) "CopperNets$Pieces" "left" "[J") ∈ cn_tb := cn_t1 35 rfl rfl
set_option maxRecDepth 20000 in
theorem tw_36 : (Jvm.Cond.fieldLink "CopperNets$Pieces" (33 : Nat) "CopperNets$Pieces" "low" "[J") ∈ cn_tb := cn_t1 36 rfl rfl
set_option maxRecDepth 20000 in
theorem tw_37 : (Jvm.Cond.fieldLink "CopperNets$Pieces" (36 : Nat) "CopperNets$Pieces" "right" "[J") ∈ cn_tb := cn_t1 37 rfl rfl
set_option maxRecDepth 20000 in
theorem tw_38 : (Jvm.Cond.fieldLink "CopperNets$Pieces" (39 : Nat) "CopperNets$Pieces" "high" "[J") ∈ cn_tb := cn_t1 38 rfl rfl
set_option maxRecDepth 20000 in
theorem tw_39 : (Jvm.Cond.fieldLink "CopperNets$Pieces" (42 : Nat) "CopperNets$Pieces" "rim" "[J") ∈ cn_tb := cn_t1 39 rfl rfl
set_option maxRecDepth 20000 in
theorem tw_61 : (Jvm.Cond.arrayClass Jvm.ClassFile.FieldType.int) ∈ cn_tb := cn_t1 61 rfl rfl
set_option maxRecDepth 20000 in
theorem tw_62 : (Jvm.Cond.arrayClass Jvm.ClassFile.FieldType.boolean) ∈ cn_tb := cn_t1 62 rfl rfl
set_option maxRecDepth 20000 in
theorem tw_63 : (Jvm.Cond.arrayClass Jvm.ClassFile.FieldType.long) ∈ cn_tb := cn_t1 63 rfl rfl
set_option maxRecDepth 20000 in
theorem tw_64 : (Jvm.Cond.classLink "CopperNets" (20 : Nat) "CopperNets$Groups") ∈ cn_tb := cn_t1 64 rfl rfl
set_option maxRecDepth 20000 in
theorem tw_65 : (Jvm.Cond.instantiable "CopperNets$Groups" (1 : Nat)) ∈ cn_tb := cn_t1 65 rfl rfl
set_option maxRecDepth 20000 in
theorem tw_67 : (Jvm.Cond.instanceMethod ({ cls := "CopperNets$Groups", name := "<init>", desc := "()V" } : Jvm.MethodName)) ∈ cn_tb := cn_t1 67 rfl rfl
set_option maxRecDepth 20000 in
theorem tw_68 : (Jvm.Cond.code ({ cls := "CopperNets$Groups", name := "<init>", desc := "()V" } : Jvm.MethodName) prog_3_method_1_code (1 : Nat) (Option.none : Option Jvm.ClassFile.FieldType)) ∈ cn_tb := cn_t1 68 rfl rfl
set_option maxRecDepth 20000 in
theorem tw_69 : (Jvm.Cond.methodLink "CopperNets$Groups" (3 : Nat) ({ cls := "java/lang/Object", name := "<init>", desc := "()V" } : Jvm.MethodName)) ∈ cn_tb := cn_t1 69 rfl rfl
set_option maxRecDepth 20000 in
theorem tw_70 : (Jvm.Cond.methodLink "CopperNets$Groups" (15 : Nat) ({ cls := "CopperNets$Groups", name := "clear", desc := "()V" } : Jvm.MethodName)) ∈ cn_tb := cn_t1 70 rfl rfl
set_option maxRecDepth 20000 in
theorem tw_72 : (Jvm.Cond.instanceMethod ({ cls := "CopperNets$Groups", name := "clear", desc := "()V" } : Jvm.MethodName)) ∈ cn_tb := cn_t1 72 rfl rfl
set_option maxRecDepth 20000 in
theorem tw_73 : (Jvm.Cond.code ({ cls := "CopperNets$Groups", name := "clear", desc := "()V" } : Jvm.MethodName) prog_3_method_2_code (1 : Nat) (Option.none : Option Jvm.ClassFile.FieldType)) ∈ cn_tb := cn_t1 73 rfl rfl
set_option maxRecDepth 20000 in
theorem tw_74 : (Jvm.Cond.methodLink "CopperNets$Groups" (18 : Nat) ({ cls := "java/util/Arrays", name := "fill", desc := "([II)V" } : Jvm.MethodName)) ∈ cn_tb := cn_t1 74 rfl rfl
set_option maxRecDepth 20000 in
theorem tw_75 : (Jvm.Cond.static ({ cls := "java/util/Arrays", name := "fill", desc := "([II)V" } : Jvm.MethodName)) ∈ cn_tb := cn_t1 75 rfl rfl
set_option maxRecDepth 20000 in
theorem tw_76 : (Jvm.Cond.code ({ cls := "java/util/Arrays", name := "fill", desc := "([II)V" } : Jvm.MethodName) prog_16_method_103_code (4 : Nat) (Option.none : Option Jvm.ClassFile.FieldType)) ∈ cn_tb := cn_t1 76 rfl rfl
set_option maxRecDepth 20000 in
theorem tw_77 : (Jvm.Cond.fieldLink "CopperNets$Groups" (9 : Nat) "CopperNets$Groups" "leader" "[I") ∈ cn_tb := cn_t1 77 rfl rfl
set_option maxRecDepth 20000 in
theorem tw_81 : (Jvm.Cond.classLink "CopperNets" (27 : Nat) "CopperNets$Airlines") ∈ cn_tb := cn_t1 81 rfl rfl
set_option maxRecDepth 20000 in
theorem tw_82 : (Jvm.Cond.instantiable "CopperNets$Airlines" (6 : Nat)) ∈ cn_tb := cn_t1 82 rfl rfl
set_option maxRecDepth 20000 in
theorem tw_84 : (Jvm.Cond.instanceMethod ({ cls := "CopperNets$Airlines", name := "<init>", desc := "()V" } : Jvm.MethodName)) ∈ cn_tb := cn_t1 84 rfl rfl
set_option maxRecDepth 20000 in
theorem tw_85 : (Jvm.Cond.code ({ cls := "CopperNets$Airlines", name := "<init>", desc := "()V" } : Jvm.MethodName) prog_2_method_1_code (1 : Nat) (Option.none : Option Jvm.ClassFile.FieldType)) ∈ cn_tb := cn_t1 85 rfl rfl
set_option maxRecDepth 20000 in
theorem tw_86 : (Jvm.Cond.methodLink "CopperNets$Airlines" (3 : Nat) ({ cls := "java/lang/Object", name := "<init>", desc := "()V" } : Jvm.MethodName)) ∈ cn_tb := cn_t1 86 rfl rfl
set_option maxRecDepth 20000 in
theorem tw_87 : (Jvm.Cond.fieldLink "CopperNets$Airlines" (9 : Nat) "CopperNets$Airlines" "count" "I") ∈ cn_tb := cn_t1 87 rfl rfl
set_option maxRecDepth 20000 in
theorem tw_89 : (Jvm.Cond.fieldLink "CopperNets$Airlines" (15 : Nat) "CopperNets$Airlines" "pairs" "[J") ∈ cn_tb := cn_t1 89 rfl rfl
set_option maxRecDepth 20000 in
theorem tw_90 : (Jvm.Cond.fieldLink "CopperNets$Airlines" (19 : Nat) "CopperNets$Airlines" "padCount" "I") ∈ cn_tb := cn_t1 90 rfl rfl
set_option maxRecDepth 20000 in
theorem tw_91 : (Jvm.Cond.fieldLink "CopperNets$Airlines" (22 : Nat) "CopperNets$Airlines" "pads" "[I") ∈ cn_tb := cn_t1 91 rfl rfl
set_option maxRecDepth 20000 in
theorem tw_92 : (Jvm.Cond.fieldLink "CopperNets$Airlines" (26 : Nat) "CopperNets$Airlines" "reached" "[Z") ∈ cn_tb := cn_t1 92 rfl rfl
set_option maxRecDepth 20000 in
theorem tw_93 : (Jvm.Cond.fieldLink "CopperNets$Airlines" (30 : Nat) "CopperNets$Airlines" "nearest" "[J") ∈ cn_tb := cn_t1 93 rfl rfl
set_option maxRecDepth 20000 in
theorem tw_107 : (Jvm.Cond.methodLink "CopperNets" (43 : Nat) ({ cls := "java/lang/Math", name := "min", desc := "(II)I" } : Jvm.MethodName)) ∈ cn_tb := cn_t1 107 rfl rfl
set_option maxRecDepth 20000 in
theorem tw_108 : (Jvm.Cond.static ({ cls := "java/lang/Math", name := "min", desc := "(II)I" } : Jvm.MethodName)) ∈ cn_tb := cn_t1 108 rfl rfl
set_option maxRecDepth 20000 in
theorem tw_109 : (Jvm.Cond.code ({ cls := "java/lang/Math", name := "min", desc := "(II)I" } : Jvm.MethodName) prog_12_method_69_code (2 : Nat) (Option.some Jvm.ClassFile.FieldType.int)) ∈ cn_tb := cn_t1 109 rfl rfl
set_option maxRecDepth 20000 in
theorem tw_110 : (Jvm.Cond.methodLink "CopperNets" (49 : Nat) ({ cls := "java/lang/Math", name := "max", desc := "(II)I" } : Jvm.MethodName)) ∈ cn_tb := cn_t1 110 rfl rfl
set_option maxRecDepth 20000 in
theorem tw_111 : (Jvm.Cond.static ({ cls := "java/lang/Math", name := "max", desc := "(II)I" } : Jvm.MethodName)) ∈ cn_tb := cn_t1 111 rfl rfl
set_option maxRecDepth 20000 in
theorem tw_112 : (Jvm.Cond.code ({ cls := "java/lang/Math", name := "max", desc := "(II)I" } : Jvm.MethodName) prog_12_method_65_code (2 : Nat) (Option.some Jvm.ClassFile.FieldType.int)) ∈ cn_tb := cn_t1 112 rfl rfl
set_option maxRecDepth 20000 in
theorem tw_113 : (Jvm.Cond.methodLink "CopperNets" (56 : Nat) ({ cls := "java/util/Arrays", name := "fill", desc := "([II)V" } : Jvm.MethodName)) ∈ cn_tb := cn_t1 113 rfl rfl
set_option maxRecDepth 20000 in
theorem tw_114 : (Jvm.Cond.fieldLink "CopperNets" (52 : Nat) "CopperNets" "layers" "I") ∈ cn_tb := cn_t1 114 rfl rfl
set_option maxRecDepth 20000 in
theorem tw_115 : (Jvm.Cond.fieldLink "CopperNets" (9 : Nat) "CopperNets" "netOfPin" "[I") ∈ cn_tb := cn_t1 115 rfl rfl
set_option maxRecDepth 20000 in
theorem tw_116 : (Jvm.Cond.fieldLink "CopperNets" (16 : Nat) "CopperNets" "pieces" "LCopperNets$Pieces;") ∈ cn_tb := cn_t1 116 rfl rfl
set_option maxRecDepth 20000 in
theorem tw_117 : (Jvm.Cond.fieldLink "CopperNets" (23 : Nat) "CopperNets" "kept" "LCopperNets$Groups;") ∈ cn_tb := cn_t1 117 rfl rfl
set_option maxRecDepth 20000 in
theorem tw_118 : (Jvm.Cond.fieldLink "CopperNets" (30 : Nat) "CopperNets" "airlines" "LCopperNets$Airlines;") ∈ cn_tb := cn_t1 118 rfl rfl
set_option maxRecDepth 20000 in
theorem tw_119 : (Jvm.Cond.fieldLink "CopperNets" (34 : Nat) "CopperNets" "spare" "LCopperNets$Groups;") ∈ cn_tb := cn_t1 119 rfl rfl
set_option maxRecDepth 20000 in
theorem tw_120 : (Jvm.Cond.fieldLink "CopperNets" (37 : Nat) "CopperNets" "netBits" "[I") ∈ cn_tb := cn_t1 120 rfl rfl
set_option maxRecDepth 20000 in
theorem tw_121 : (Jvm.Cond.fieldLink "CopperNets" (40 : Nat) "CopperNets" "grownBits" "[I") ∈ cn_tb := cn_t1 121 rfl rfl
set_option maxRecDepth 20000 in
theorem tw_143 : (Jvm.Cond.methodLink "CopperNets" (109 : Nat) ({ cls := "CopperNets", name := "leadersBelow", desc := "(I)I" } : Jvm.MethodName)) ∈ cn_tb := cn_t1 143 rfl rfl
set_option maxRecDepth 20000 in
theorem tw_145 : (Jvm.Cond.instanceMethod ({ cls := "CopperNets", name := "leadersBelow", desc := "(I)I" } : Jvm.MethodName)) ∈ cn_tb := cn_t1 145 rfl rfl
set_option maxRecDepth 20000 in
theorem tw_146 : (Jvm.Cond.code ({ cls := "CopperNets", name := "leadersBelow", desc := "(I)I" } : Jvm.MethodName) prog_1_method_29_code (4 : Nat) (Option.some Jvm.ClassFile.FieldType.int)) ∈ cn_tb := cn_t1 146 rfl rfl
set_option maxRecDepth 20000 in
theorem tw_149 : (Jvm.Cond.instanceMethod ({ cls := "CopperNets$Groups", name := "leaderOf", desc := "(I)I" } : Jvm.MethodName)) ∈ cn_tb := cn_t1 149 rfl rfl
set_option maxRecDepth 20000 in
theorem tw_150 : (Jvm.Cond.code ({ cls := "CopperNets$Groups", name := "leaderOf", desc := "(I)I" } : Jvm.MethodName) prog_3_method_4_code (2 : Nat) (Option.some Jvm.ClassFile.FieldType.int)) ∈ cn_tb := cn_t1 150 rfl rfl
set_option maxRecDepth 20000 in
theorem tw_152 : (Jvm.Cond.instanceMethod ({ cls := "CopperNets", name := "shorts", desc := "()I" } : Jvm.MethodName)) ∈ cn_tb := cn_t1 152 rfl rfl
set_option maxRecDepth 20000 in
theorem tw_153 : (Jvm.Cond.selects "CopperNets" ({ cls := "CopperNets", name := "shorts", desc := "()I" } : Jvm.MethodName) ({ cls := "CopperNets", name := "shorts", desc := "()I" } : Jvm.MethodName)) ∈ cn_tb := cn_t1 153 rfl rfl
set_option maxRecDepth 20000 in
theorem tw_154 : (Jvm.Cond.code ({ cls := "CopperNets", name := "shorts", desc := "()I" } : Jvm.MethodName) prog_1_method_10_code (3 : Nat) (Option.some Jvm.ClassFile.FieldType.int)) ∈ cn_tb := cn_t1 154 rfl rfl
set_option maxRecDepth 20000 in
theorem tw_155 : (Jvm.Cond.methodLink "CopperNets" (152 : Nat) ({ cls := "CopperNets", name := "collectNetBits", desc := "()V" } : Jvm.MethodName)) ∈ cn_tb := cn_t1 155 rfl rfl
set_option maxRecDepth 20000 in
theorem tw_157 : (Jvm.Cond.instanceMethod ({ cls := "CopperNets", name := "collectNetBits", desc := "()V" } : Jvm.MethodName)) ∈ cn_tb := cn_t1 157 rfl rfl
set_option maxRecDepth 20000 in
theorem tw_158 : (Jvm.Cond.code ({ cls := "CopperNets", name := "collectNetBits", desc := "()V" } : Jvm.MethodName) prog_1_method_32_code (2 : Nat) (Option.none : Option Jvm.ClassFile.FieldType)) ∈ cn_tb := cn_t1 158 rfl rfl
set_option maxRecDepth 20000 in
theorem tw_161 : (Jvm.Cond.instanceMethod ({ cls := "CopperNets$Groups", name := "has", desc := "(I)Z" } : Jvm.MethodName)) ∈ cn_tb := cn_t1 161 rfl rfl
set_option maxRecDepth 20000 in
theorem tw_162 : (Jvm.Cond.code ({ cls := "CopperNets$Groups", name := "has", desc := "(I)Z" } : Jvm.MethodName) prog_3_method_3_code (2 : Nat) (Option.some Jvm.ClassFile.FieldType.boolean)) ∈ cn_tb := cn_t1 162 rfl rfl
set_option maxRecDepth 20000 in
theorem tw_163 : (Jvm.Cond.methodLink "CopperNets" (237 : Nat) ({ cls := "CopperNets", name := "plannedBit", desc := "(I)I" } : Jvm.MethodName)) ∈ cn_tb := cn_t1 163 rfl rfl
set_option maxRecDepth 20000 in
theorem tw_165 : (Jvm.Cond.instanceMethod ({ cls := "CopperNets", name := "plannedBit", desc := "(I)I" } : Jvm.MethodName)) ∈ cn_tb := cn_t1 165 rfl rfl
set_option maxRecDepth 20000 in
theorem tw_166 : (Jvm.Cond.code ({ cls := "CopperNets", name := "plannedBit", desc := "(I)I" } : Jvm.MethodName) prog_1_method_31_code (3 : Nat) (Option.some Jvm.ClassFile.FieldType.int)) ∈ cn_tb := cn_t1 166 rfl rfl
set_option maxRecDepth 20000 in
theorem tw_167 : (Jvm.Cond.methodLink "CopperNets" (234 : Nat) ({ cls := "CopperNets", name := "plannedNet", desc := "(I)I" } : Jvm.MethodName)) ∈ cn_tb := cn_t1 167 rfl rfl
set_option maxRecDepth 20000 in
theorem tw_169 : (Jvm.Cond.instanceMethod ({ cls := "CopperNets", name := "plannedNet", desc := "(I)I" } : Jvm.MethodName)) ∈ cn_tb := cn_t1 169 rfl rfl
set_option maxRecDepth 20000 in
theorem tw_170 : (Jvm.Cond.code ({ cls := "CopperNets", name := "plannedNet", desc := "(I)I" } : Jvm.MethodName) prog_1_method_30_code (3 : Nat) (Option.some Jvm.ClassFile.FieldType.int)) ∈ cn_tb := cn_t1 170 rfl rfl
set_option maxRecDepth 20000 in
theorem tw_173 : (Jvm.Cond.instanceMethod ({ cls := "CopperNets$Pieces", name := "pinOf", desc := "(I)I" } : Jvm.MethodName)) ∈ cn_tb := cn_t1 173 rfl rfl
set_option maxRecDepth 20000 in
theorem tw_174 : (Jvm.Cond.code ({ cls := "CopperNets$Pieces", name := "pinOf", desc := "(I)I" } : Jvm.MethodName) prog_5_method_8_code (2 : Nat) (Option.some Jvm.ClassFile.FieldType.int)) ∈ cn_tb := cn_t1 174 rfl rfl
set_option maxRecDepth 20000 in
theorem tw_175 : (Jvm.Cond.methodLink "CopperNets" (155 : Nat) ({ cls := "CopperNets", name := "isShort", desc := "(I)Z" } : Jvm.MethodName)) ∈ cn_tb := cn_t1 175 rfl rfl
set_option maxRecDepth 20000 in
theorem tw_177 : (Jvm.Cond.instanceMethod ({ cls := "CopperNets", name := "isShort", desc := "(I)Z" } : Jvm.MethodName)) ∈ cn_tb := cn_t1 177 rfl rfl
set_option maxRecDepth 20000 in
theorem tw_178 : (Jvm.Cond.code ({ cls := "CopperNets", name := "isShort", desc := "(I)Z" } : Jvm.MethodName) prog_1_method_33_code (2 : Nat) (Option.some Jvm.ClassFile.FieldType.boolean)) ∈ cn_tb := cn_t1 178 rfl rfl
set_option maxRecDepth 20000 in
theorem tw_179 : (Jvm.Cond.methodLink "CopperNets" (240 : Nat) ({ cls := "java/lang/Integer", name := "bitCount", desc := "(I)I" } : Jvm.MethodName)) ∈ cn_tb := cn_t1 179 rfl rfl
set_option maxRecDepth 20000 in
theorem tw_180 : (Jvm.Cond.static ({ cls := "java/lang/Integer", name := "bitCount", desc := "(I)I" } : Jvm.MethodName)) ∈ cn_tb := cn_t1 180 rfl rfl
set_option maxRecDepth 20000 in
theorem tw_181 : (Jvm.Cond.code ({ cls := "java/lang/Integer", name := "bitCount", desc := "(I)I" } : Jvm.MethodName) prog_11_method_49_code (1 : Nat) (Option.some Jvm.ClassFile.FieldType.int)) ∈ cn_tb := cn_t1 181 rfl rfl
set_option maxRecDepth 20000 in
theorem tw_182 : (Jvm.Cond.constant "java/lang/Integer" (265 : Nat) (1431655765 : Int32)) ∈ cn_tb := cn_t1 182 rfl rfl
set_option maxRecDepth 20000 in
theorem tw_183 : (Jvm.Cond.constant "java/lang/Integer" (266 : Nat) (858993459 : Int32)) ∈ cn_tb := cn_t1 183 rfl rfl
set_option maxRecDepth 20000 in
theorem tw_184 : (Jvm.Cond.constant "java/lang/Integer" (267 : Nat) (252645135 : Int32)) ∈ cn_tb := cn_t1 184 rfl rfl
set_option maxRecDepth 20000 in
theorem tw_196 : (Jvm.Cond.instanceMethod ({ cls := "CopperNets$Pieces", name := "isThere", desc := "(I)Z" } : Jvm.MethodName)) ∈ cn_tb := cn_t1 196 rfl rfl
set_option maxRecDepth 20000 in
theorem tw_197 : (Jvm.Cond.code ({ cls := "CopperNets$Pieces", name := "isThere", desc := "(I)Z" } : Jvm.MethodName) prog_5_method_7_code (2 : Nat) (Option.some Jvm.ClassFile.FieldType.boolean)) ∈ cn_tb := cn_t1 197 rfl rfl
set_option maxRecDepth 20000 in
theorem tw_198 : (Jvm.Cond.methodLink "CopperNets" (181 : Nat) ({ cls := "CopperNets", name := "enter", desc := "(LCopperNets$Groups;I)V" } : Jvm.MethodName)) ∈ cn_tb := cn_t1 198 rfl rfl
set_option maxRecDepth 20000 in
theorem tw_200 : (Jvm.Cond.instanceMethod ({ cls := "CopperNets", name := "enter", desc := "(LCopperNets$Groups;I)V" } : Jvm.MethodName)) ∈ cn_tb := cn_t1 200 rfl rfl
set_option maxRecDepth 20000 in
theorem tw_201 : (Jvm.Cond.code ({ cls := "CopperNets", name := "enter", desc := "(LCopperNets$Groups;I)V" } : Jvm.MethodName) prog_1_method_27_code (4 : Nat) (Option.none : Option Jvm.ClassFile.FieldType)) ∈ cn_tb := cn_t1 201 rfl rfl
set_option maxRecDepth 20000 in
theorem tw_204 : (Jvm.Cond.instanceMethod ({ cls := "CopperNets$Groups", name := "begin", desc := "(I)V" } : Jvm.MethodName)) ∈ cn_tb := cn_t1 204 rfl rfl
set_option maxRecDepth 20000 in
theorem tw_205 : (Jvm.Cond.code ({ cls := "CopperNets$Groups", name := "begin", desc := "(I)V" } : Jvm.MethodName) prog_3_method_5_code (2 : Nat) (Option.none : Option Jvm.ClassFile.FieldType)) ∈ cn_tb := cn_t1 205 rfl rfl
set_option maxRecDepth 20000 in
theorem tw_208 : (Jvm.Cond.instanceMethod ({ cls := "CopperNets$Pieces", name := "touch", desc := "(II)Z" } : Jvm.MethodName)) ∈ cn_tb := cn_t1 208 rfl rfl
set_option maxRecDepth 20000 in
theorem tw_209 : (Jvm.Cond.code ({ cls := "CopperNets$Pieces", name := "touch", desc := "(II)Z" } : Jvm.MethodName) prog_5_method_10_code (5 : Nat) (Option.some Jvm.ClassFile.FieldType.boolean)) ∈ cn_tb := cn_t1 209 rfl rfl
set_option maxRecDepth 20000 in
theorem tw_210 : (Jvm.Cond.methodLink "CopperNets$Pieces" (49 : Nat) ({ cls := "CopperNets$Pieces", name := "square", desc := "(II)J" } : Jvm.MethodName)) ∈ cn_tb := cn_t1 210 rfl rfl
set_option maxRecDepth 20000 in
theorem tw_212 : (Jvm.Cond.instanceMethod ({ cls := "CopperNets$Pieces", name := "square", desc := "(II)J" } : Jvm.MethodName)) ∈ cn_tb := cn_t1 212 rfl rfl
set_option maxRecDepth 20000 in
theorem tw_213 : (Jvm.Cond.code ({ cls := "CopperNets$Pieces", name := "square", desc := "(II)J" } : Jvm.MethodName) prog_5_method_11_code (7 : Nat) (Option.some Jvm.ClassFile.FieldType.long)) ∈ cn_tb := cn_t1 213 rfl rfl
set_option maxRecDepth 20000 in
theorem tw_214 : (Jvm.Cond.methodLink "CopperNets$Pieces" (53 : Nat) ({ cls := "CopperNets$Pieces", name := "gap", desc := "(JJJJ)J" } : Jvm.MethodName)) ∈ cn_tb := cn_t1 214 rfl rfl
set_option maxRecDepth 20000 in
theorem tw_215 : (Jvm.Cond.static ({ cls := "CopperNets$Pieces", name := "gap", desc := "(JJJJ)J" } : Jvm.MethodName)) ∈ cn_tb := cn_t1 215 rfl rfl
set_option maxRecDepth 20000 in
theorem tw_216 : (Jvm.Cond.code ({ cls := "CopperNets$Pieces", name := "gap", desc := "(JJJJ)J" } : Jvm.MethodName) prog_5_method_12_code (8 : Nat) (Option.some Jvm.ClassFile.FieldType.long)) ∈ cn_tb := cn_t1 216 rfl rfl
set_option maxRecDepth 20000 in
theorem tw_219 : (Jvm.Cond.instanceMethod ({ cls := "CopperNets$Groups", name := "join", desc := "(II)V" } : Jvm.MethodName)) ∈ cn_tb := cn_t1 219 rfl rfl
set_option maxRecDepth 20000 in
theorem tw_220 : (Jvm.Cond.code ({ cls := "CopperNets$Groups", name := "join", desc := "(II)V" } : Jvm.MethodName) prog_3_method_8_code (6 : Nat) (Option.none : Option Jvm.ClassFile.FieldType)) ∈ cn_tb := cn_t1 220 rfl rfl
set_option maxRecDepth 20000 in
theorem tw_221 : (Jvm.Cond.methodLink "CopperNets$Groups" (24 : Nat) ({ cls := "java/lang/Math", name := "min", desc := "(II)I" } : Jvm.MethodName)) ∈ cn_tb := cn_t1 221 rfl rfl
set_option maxRecDepth 20000 in
theorem tw_222 : (Jvm.Cond.methodLink "CopperNets$Groups" (30 : Nat) ({ cls := "java/lang/Math", name := "max", desc := "(II)I" } : Jvm.MethodName)) ∈ cn_tb := cn_t1 222 rfl rfl
set_option maxRecDepth 20000 in
theorem tw_225 : (Jvm.Cond.instanceMethod ({ cls := "CopperNets$Groups", name := "isLike", desc := "(LCopperNets$Groups;)Z" } : Jvm.MethodName)) ∈ cn_tb := cn_t1 225 rfl rfl
set_option maxRecDepth 20000 in
theorem tw_226 : (Jvm.Cond.code ({ cls := "CopperNets$Groups", name := "isLike", desc := "(LCopperNets$Groups;)Z" } : Jvm.MethodName) prog_3_method_9_code (3 : Nat) (Option.some Jvm.ClassFile.FieldType.boolean)) ∈ cn_tb := cn_t1 226 rfl rfl
set_option maxRecDepth 20000 in
theorem tw_228 : (Jvm.Cond.instanceMethod ({ cls := "CopperNets", name := "unreached", desc := "(I)I" } : Jvm.MethodName)) ∈ cn_tb := cn_t1 228 rfl rfl
set_option maxRecDepth 20000 in
theorem tw_229 : (Jvm.Cond.selects "CopperNets" ({ cls := "CopperNets", name := "unreached", desc := "(I)I" } : Jvm.MethodName) ({ cls := "CopperNets", name := "unreached", desc := "(I)I" } : Jvm.MethodName)) ∈ cn_tb := cn_t1 229 rfl rfl
set_option maxRecDepth 20000 in
theorem tw_230 : (Jvm.Cond.code ({ cls := "CopperNets", name := "unreached", desc := "(I)I" } : Jvm.MethodName) prog_1_method_16_code (4 : Nat) (Option.some Jvm.ClassFile.FieldType.int)) ∈ cn_tb := cn_t1 230 rfl rfl
set_option maxRecDepth 20000 in
theorem tw_233 : (Jvm.Cond.instanceMethod ({ cls := "CopperNets$Pieces", name := "hasPadOf", desc := "(I)Z" } : Jvm.MethodName)) ∈ cn_tb := cn_t1 233 rfl rfl
set_option maxRecDepth 20000 in
theorem tw_234 : (Jvm.Cond.code ({ cls := "CopperNets$Pieces", name := "hasPadOf", desc := "(I)Z" } : Jvm.MethodName) prog_5_method_9_code (3 : Nat) (Option.some Jvm.ClassFile.FieldType.boolean)) ∈ cn_tb := cn_t1 234 rfl rfl
set_option maxRecDepth 20000 in
theorem tw_239 : (Jvm.Cond.methodLink "CopperNets" (192 : Nat) ({ cls := "CopperNets", name := "shorts", desc := "()I" } : Jvm.MethodName)) ∈ cn_tb := cn_t1 239 rfl rfl
set_option maxRecDepth 20000 in
theorem tw_240 : (Jvm.Cond.methodLink "CopperNets" (196 : Nat) ({ cls := "CopperNets", name := "unreached", desc := "(I)I" } : Jvm.MethodName)) ∈ cn_tb := cn_t2 0 rfl rfl
set_option maxRecDepth 20000 in
theorem tw_241 : (Jvm.Cond.methodLink "CopperNets" (124 : Nat) ({ cls := "CopperNets", name := "drawAirlines", desc := "(I)V" } : Jvm.MethodName)) ∈ cn_tb := cn_t2 1 rfl rfl
set_option maxRecDepth 20000 in
theorem tw_243 : (Jvm.Cond.instanceMethod ({ cls := "CopperNets", name := "drawAirlines", desc := "(I)V" } : Jvm.MethodName)) ∈ cn_tb := cn_t2 3 rfl rfl
set_option maxRecDepth 20000 in
theorem tw_244 : (Jvm.Cond.code ({ cls := "CopperNets", name := "drawAirlines", desc := "(I)V" } : Jvm.MethodName) prog_1_method_38_code (3 : Nat) (Option.none : Option Jvm.ClassFile.FieldType)) ∈ cn_tb := cn_t2 4 rfl rfl
set_option maxRecDepth 20000 in
theorem tw_247 : (Jvm.Cond.instanceMethod ({ cls := "CopperNets$Airlines", name := "clear", desc := "()V" } : Jvm.MethodName)) ∈ cn_tb := cn_t2 7 rfl rfl
set_option maxRecDepth 20000 in
theorem tw_248 : (Jvm.Cond.code ({ cls := "CopperNets$Airlines", name := "clear", desc := "()V" } : Jvm.MethodName) prog_2_method_2_code (1 : Nat) (Option.none : Option Jvm.ClassFile.FieldType)) ∈ cn_tb := cn_t2 8 rfl rfl
set_option maxRecDepth 20000 in
theorem tw_251 : (Jvm.Cond.instanceMethod ({ cls := "CopperNets$Airlines", name := "addPad", desc := "(I)V" } : Jvm.MethodName)) ∈ cn_tb := cn_t2 11 rfl rfl
set_option maxRecDepth 20000 in
theorem tw_252 : (Jvm.Cond.code ({ cls := "CopperNets$Airlines", name := "addPad", desc := "(I)V" } : Jvm.MethodName) prog_2_method_3_code (2 : Nat) (Option.none : Option Jvm.ClassFile.FieldType)) ∈ cn_tb := cn_t2 12 rfl rfl
set_option maxRecDepth 20000 in
theorem tw_253 : (Jvm.Cond.constantLong "CopperNets$Airlines" (35 : Nat) (9223372036854775807 : Int64)) ∈ cn_tb := cn_t2 13 rfl rfl
set_option maxRecDepth 20000 in
theorem tw_256 : (Jvm.Cond.instanceMethod ({ cls := "CopperNets$Airlines", name := "draw", desc := "(LCopperNets$Pieces;LCopperNets$Groups;)V" } : Jvm.MethodName)) ∈ cn_tb := cn_t2 16 rfl rfl
set_option maxRecDepth 20000 in
theorem tw_257 : (Jvm.Cond.code ({ cls := "CopperNets$Airlines", name := "draw", desc := "(LCopperNets$Pieces;LCopperNets$Groups;)V" } : Jvm.MethodName) prog_2_method_6_code (5 : Nat) (Option.none : Option Jvm.ClassFile.FieldType)) ∈ cn_tb := cn_t2 17 rfl rfl
set_option maxRecDepth 20000 in
theorem tw_258 : (Jvm.Cond.methodLink "CopperNets$Airlines" (37 : Nat) ({ cls := "CopperNets$Airlines", name := "reach", desc := "(ILCopperNets$Pieces;LCopperNets$Groups;)V" } : Jvm.MethodName)) ∈ cn_tb := cn_t2 18 rfl rfl
set_option maxRecDepth 20000 in
theorem tw_260 : (Jvm.Cond.instanceMethod ({ cls := "CopperNets$Airlines", name := "reach", desc := "(ILCopperNets$Pieces;LCopperNets$Groups;)V" } : Jvm.MethodName)) ∈ cn_tb := cn_t2 20 rfl rfl
set_option maxRecDepth 20000 in
theorem tw_261 : (Jvm.Cond.code ({ cls := "CopperNets$Airlines", name := "reach", desc := "(ILCopperNets$Pieces;LCopperNets$Groups;)V" } : Jvm.MethodName) prog_2_method_8_code (6 : Nat) (Option.none : Option Jvm.ClassFile.FieldType)) ∈ cn_tb := cn_t2 21 rfl rfl
set_option maxRecDepth 20000 in
theorem tw_263 : (Jvm.Cond.methodLink "CopperNets$Airlines" (55 : Nat) ({ cls := "CopperNets$Airlines", name := "lookFrom", desc := "(ILCopperNets$Pieces;)V" } : Jvm.MethodName)) ∈ cn_tb := cn_t2 23 rfl rfl
set_option maxRecDepth 20000 in
theorem tw_265 : (Jvm.Cond.instanceMethod ({ cls := "CopperNets$Airlines", name := "lookFrom", desc := "(ILCopperNets$Pieces;)V" } : Jvm.MethodName)) ∈ cn_tb := cn_t2 25 rfl rfl
set_option maxRecDepth 20000 in
theorem tw_266 : (Jvm.Cond.code ({ cls := "CopperNets$Airlines", name := "lookFrom", desc := "(ILCopperNets$Pieces;)V" } : Jvm.MethodName) prog_2_method_9_code (6 : Nat) (Option.none : Option Jvm.ClassFile.FieldType)) ∈ cn_tb := cn_t2 26 rfl rfl
set_option maxRecDepth 20000 in
theorem tw_269 : (Jvm.Cond.static ({ cls := "CopperNets$Pair", name := "of", desc := "(JII)J" } : Jvm.MethodName)) ∈ cn_tb := cn_t2 29 rfl rfl
set_option maxRecDepth 20000 in
theorem tw_270 : (Jvm.Cond.code ({ cls := "CopperNets$Pair", name := "of", desc := "(JII)J" } : Jvm.MethodName) prog_4_method_2_code (8 : Nat) (Option.some Jvm.ClassFile.FieldType.long)) ∈ cn_tb := cn_t2 30 rfl rfl
set_option maxRecDepth 20000 in
theorem tw_271 : (Jvm.Cond.methodLink "CopperNets$Pair" (9 : Nat) ({ cls := "java/lang/Math", name := "min", desc := "(II)I" } : Jvm.MethodName)) ∈ cn_tb := cn_t2 31 rfl rfl
set_option maxRecDepth 20000 in
theorem tw_272 : (Jvm.Cond.methodLink "CopperNets$Pair" (15 : Nat) ({ cls := "java/lang/Math", name := "max", desc := "(II)I" } : Jvm.MethodName)) ∈ cn_tb := cn_t2 32 rfl rfl
set_option maxRecDepth 20000 in
theorem tw_273 : (Jvm.Cond.methodLink "CopperNets$Airlines" (71 : Nat) ({ cls := "java/lang/Math", name := "min", desc := "(JJ)J" } : Jvm.MethodName)) ∈ cn_tb := cn_t2 33 rfl rfl
set_option maxRecDepth 20000 in
theorem tw_274 : (Jvm.Cond.static ({ cls := "java/lang/Math", name := "min", desc := "(JJ)J" } : Jvm.MethodName)) ∈ cn_tb := cn_t2 34 rfl rfl
set_option maxRecDepth 20000 in
theorem tw_275 : (Jvm.Cond.code ({ cls := "java/lang/Math", name := "min", desc := "(JJ)J" } : Jvm.MethodName) prog_12_method_70_code (4 : Nat) (Option.some Jvm.ClassFile.FieldType.long)) ∈ cn_tb := cn_t2 35 rfl rfl
set_option maxRecDepth 20000 in
theorem tw_276 : (Jvm.Cond.methodLink "CopperNets$Airlines" (41 : Nat) ({ cls := "CopperNets$Airlines", name := "nearestPad", desc := "()I" } : Jvm.MethodName)) ∈ cn_tb := cn_t2 36 rfl rfl
set_option maxRecDepth 20000 in
theorem tw_278 : (Jvm.Cond.instanceMethod ({ cls := "CopperNets$Airlines", name := "nearestPad", desc := "()I" } : Jvm.MethodName)) ∈ cn_tb := cn_t2 38 rfl rfl
set_option maxRecDepth 20000 in
theorem tw_279 : (Jvm.Cond.code ({ cls := "CopperNets$Airlines", name := "nearestPad", desc := "()I" } : Jvm.MethodName) prog_2_method_7_code (3 : Nat) (Option.some Jvm.ClassFile.FieldType.int)) ∈ cn_tb := cn_t2 39 rfl rfl
set_option maxRecDepth 20000 in
theorem tw_280 : (Jvm.Cond.methodLink "CopperNets$Airlines" (45 : Nat) ({ cls := "CopperNets$Airlines", name := "insert", desc := "(J)V" } : Jvm.MethodName)) ∈ cn_tb := cn_t2 40 rfl rfl
set_option maxRecDepth 20000 in
theorem tw_282 : (Jvm.Cond.instanceMethod ({ cls := "CopperNets$Airlines", name := "insert", desc := "(J)V" } : Jvm.MethodName)) ∈ cn_tb := cn_t2 42 rfl rfl
set_option maxRecDepth 20000 in
theorem tw_283 : (Jvm.Cond.code ({ cls := "CopperNets$Airlines", name := "insert", desc := "(J)V" } : Jvm.MethodName) prog_2_method_10_code (5 : Nat) (Option.none : Option Jvm.ClassFile.FieldType)) ∈ cn_tb := cn_t2 43 rfl rfl
set_option maxRecDepth 20000 in
theorem tw_296 : (Jvm.Cond.methodLink "CopperNets" (62 : Nat) ({ cls := "CopperNets", name := "checkLayer", desc := "(I)V" } : Jvm.MethodName)) ∈ cn_tb := cn_t2 56 rfl rfl
set_option maxRecDepth 20000 in
theorem tw_298 : (Jvm.Cond.instanceMethod ({ cls := "CopperNets", name := "checkLayer", desc := "(I)V" } : Jvm.MethodName)) ∈ cn_tb := cn_t2 58 rfl rfl
set_option maxRecDepth 20000 in
theorem tw_299 : (Jvm.Cond.code ({ cls := "CopperNets", name := "checkLayer", desc := "(I)V" } : Jvm.MethodName) prog_1_method_18_code (2 : Nat) (Option.none : Option Jvm.ClassFile.FieldType)) ∈ cn_tb := cn_t2 59 rfl rfl
set_option maxRecDepth 20000 in
theorem tw_300 : (Jvm.Cond.classLink "CopperNets" (133 : Nat) "java/lang/IndexOutOfBoundsException") ∈ cn_tb := cn_t2 60 rfl rfl
set_option maxRecDepth 20000 in
theorem tw_301 : (Jvm.Cond.instantiable "java/lang/IndexOutOfBoundsException" (6 : Nat)) ∈ cn_tb := cn_t2 61 rfl rfl
set_option maxRecDepth 20000 in
theorem tw_367 : (Jvm.Cond.methodLink "CopperNets" (66 : Nat) ({ cls := "CopperNets", name := "checkPlace", desc := "(JJ)V" } : Jvm.MethodName)) ∈ cn_tb := cn_t2 127 rfl rfl
set_option maxRecDepth 20000 in
theorem tw_368 : (Jvm.Cond.static ({ cls := "CopperNets", name := "checkPlace", desc := "(JJ)V" } : Jvm.MethodName)) ∈ cn_tb := cn_t2 128 rfl rfl
set_option maxRecDepth 20000 in
theorem tw_369 : (Jvm.Cond.code ({ cls := "CopperNets", name := "checkPlace", desc := "(JJ)V" } : Jvm.MethodName) prog_1_method_24_code (4 : Nat) (Option.none : Option Jvm.ClassFile.FieldType)) ∈ cn_tb := cn_t2 129 rfl rfl
set_option maxRecDepth 20000 in
theorem tw_370 : (Jvm.Cond.constantLong "CopperNets" (207 : Nat) (-100000 : Int64)) ∈ cn_tb := cn_t2 130 rfl rfl
set_option maxRecDepth 20000 in
theorem tw_371 : (Jvm.Cond.constantLong "CopperNets" (209 : Nat) (100000 : Int64)) ∈ cn_tb := cn_t2 131 rfl rfl
set_option maxRecDepth 20000 in
theorem tw_372 : (Jvm.Cond.classLink "CopperNets" (86 : Nat) "java/lang/IllegalArgumentException") ∈ cn_tb := cn_t2 132 rfl rfl
set_option maxRecDepth 20000 in
theorem tw_373 : (Jvm.Cond.instantiable "java/lang/IllegalArgumentException" (6 : Nat)) ∈ cn_tb := cn_t2 133 rfl rfl
set_option maxRecDepth 20000 in
theorem tw_388 : (Jvm.Cond.methodLink "CopperNets" (70 : Nat) ({ cls := "CopperNets", name := "checkSize", desc := "(J)V" } : Jvm.MethodName)) ∈ cn_tb := cn_t2 148 rfl rfl
set_option maxRecDepth 20000 in
theorem tw_389 : (Jvm.Cond.static ({ cls := "CopperNets", name := "checkSize", desc := "(J)V" } : Jvm.MethodName)) ∈ cn_tb := cn_t2 149 rfl rfl
set_option maxRecDepth 20000 in
theorem tw_390 : (Jvm.Cond.code ({ cls := "CopperNets", name := "checkSize", desc := "(J)V" } : Jvm.MethodName) prog_1_method_25_code (2 : Nat) (Option.none : Option Jvm.ClassFile.FieldType)) ∈ cn_tb := cn_t2 150 rfl rfl
set_option maxRecDepth 20000 in
theorem tw_394 : (Jvm.Cond.instanceMethod ({ cls := "CopperNets$Pieces", name := "isFull", desc := "()Z" } : Jvm.MethodName)) ∈ cn_tb := cn_t2 154 rfl rfl
set_option maxRecDepth 20000 in
theorem tw_395 : (Jvm.Cond.code ({ cls := "CopperNets$Pieces", name := "isFull", desc := "()Z" } : Jvm.MethodName) prog_5_method_2_code (1 : Nat) (Option.some Jvm.ClassFile.FieldType.boolean)) ∈ cn_tb := cn_t2 155 rfl rfl
set_option maxRecDepth 20000 in
theorem tw_398 : (Jvm.Cond.instanceMethod ({ cls := "CopperNets$Pieces", name := "addRectangle", desc := "(IJJJJ)I" } : Jvm.MethodName)) ∈ cn_tb := cn_t2 158 rfl rfl
set_option maxRecDepth 20000 in
theorem tw_399 : (Jvm.Cond.code ({ cls := "CopperNets$Pieces", name := "addRectangle", desc := "(IJJJJ)I" } : Jvm.MethodName) prog_5_method_3_code (11 : Nat) (Option.some Jvm.ClassFile.FieldType.int)) ∈ cn_tb := cn_t2 159 rfl rfl
set_option maxRecDepth 20000 in
theorem tw_400 : (Jvm.Cond.methodLink "CopperNets$Pieces" (45 : Nat) ({ cls := "CopperNets$Pieces", name := "add", desc := "(III)I" } : Jvm.MethodName)) ∈ cn_tb := cn_t2 160 rfl rfl
set_option maxRecDepth 20000 in
theorem tw_402 : (Jvm.Cond.instanceMethod ({ cls := "CopperNets$Pieces", name := "add", desc := "(III)I" } : Jvm.MethodName)) ∈ cn_tb := cn_t2 162 rfl rfl
set_option maxRecDepth 20000 in
theorem tw_403 : (Jvm.Cond.code ({ cls := "CopperNets$Pieces", name := "add", desc := "(III)I" } : Jvm.MethodName) prog_5_method_5_code (5 : Nat) (Option.some Jvm.ClassFile.FieldType.int)) ∈ cn_tb := cn_t2 163 rfl rfl
set_option maxRecDepth 20000 in
theorem tw_404 : (Jvm.Cond.methodLink "CopperNets" (82 : Nat) ({ cls := "CopperNets", name := "takeIn", desc := "(I)I" } : Jvm.MethodName)) ∈ cn_tb := cn_t2 164 rfl rfl
set_option maxRecDepth 20000 in
theorem tw_406 : (Jvm.Cond.instanceMethod ({ cls := "CopperNets", name := "takeIn", desc := "(I)I" } : Jvm.MethodName)) ∈ cn_tb := cn_t2 166 rfl rfl
set_option maxRecDepth 20000 in
theorem tw_407 : (Jvm.Cond.code ({ cls := "CopperNets", name := "takeIn", desc := "(I)I" } : Jvm.MethodName) prog_1_method_26_code (2 : Nat) (Option.some Jvm.ClassFile.FieldType.int)) ∈ cn_tb := cn_t2 167 rfl rfl
set_option maxRecDepth 20000 in
theorem tw_418 : (Jvm.Cond.instanceMethod ({ cls := "CopperNets$Pieces", name := "addDisc", desc := "(IIIJJJ)I" } : Jvm.MethodName)) ∈ cn_tb := cn_t2 178 rfl rfl
set_option maxRecDepth 20000 in
theorem tw_419 : (Jvm.Cond.code ({ cls := "CopperNets$Pieces", name := "addDisc", desc := "(IIIJJJ)I" } : Jvm.MethodName) prog_5_method_4_code (11 : Nat) (Option.some Jvm.ClassFile.FieldType.int)) ∈ cn_tb := cn_t2 179 rfl rfl
set_option maxRecDepth 20000 in
theorem tw_427 : (Jvm.Cond.methodLink "CopperNets" (97 : Nat) ({ cls := "CopperNets", name := "checkPin", desc := "(I)V" } : Jvm.MethodName)) ∈ cn_tb := cn_t2 187 rfl rfl
set_option maxRecDepth 20000 in
theorem tw_428 : (Jvm.Cond.static ({ cls := "CopperNets", name := "checkPin", desc := "(I)V" } : Jvm.MethodName)) ∈ cn_tb := cn_t2 188 rfl rfl
set_option maxRecDepth 20000 in
theorem tw_429 : (Jvm.Cond.code ({ cls := "CopperNets", name := "checkPin", desc := "(I)V" } : Jvm.MethodName) prog_1_method_19_code (1 : Nat) (Option.none : Option Jvm.ClassFile.FieldType)) ∈ cn_tb := cn_t2 189 rfl rfl
set_option maxRecDepth 20000 in
theorem tw_438 : (Jvm.Cond.methodLink "CopperNets" (100 : Nat) ({ cls := "CopperNets", name := "isNet", desc := "(I)Z" } : Jvm.MethodName)) ∈ cn_tb := cn_t2 198 rfl rfl
set_option maxRecDepth 20000 in
theorem tw_439 : (Jvm.Cond.static ({ cls := "CopperNets", name := "isNet", desc := "(I)Z" } : Jvm.MethodName)) ∈ cn_tb := cn_t2 199 rfl rfl
set_option maxRecDepth 20000 in
theorem tw_440 : (Jvm.Cond.code ({ cls := "CopperNets", name := "isNet", desc := "(I)Z" } : Jvm.MethodName) prog_1_method_20_code (1 : Nat) (Option.some Jvm.ClassFile.FieldType.boolean)) ∈ cn_tb := cn_t2 200 rfl rfl
set_option maxRecDepth 20000 in
theorem tw_449 : (Jvm.Cond.methodLink "CopperNets" (112 : Nat) ({ cls := "CopperNets", name := "checkPiece", desc := "(I)V" } : Jvm.MethodName)) ∈ cn_tb := cn_t2 209 rfl rfl
set_option maxRecDepth 20000 in
theorem tw_451 : (Jvm.Cond.instanceMethod ({ cls := "CopperNets", name := "checkPiece", desc := "(I)V" } : Jvm.MethodName)) ∈ cn_tb := cn_t2 211 rfl rfl
set_option maxRecDepth 20000 in
theorem tw_452 : (Jvm.Cond.code ({ cls := "CopperNets", name := "checkPiece", desc := "(I)V" } : Jvm.MethodName) prog_1_method_22_code (2 : Nat) (Option.none : Option Jvm.ClassFile.FieldType)) ∈ cn_tb := cn_t2 212 rfl rfl
set_option maxRecDepth 20000 in
theorem tw_461 : (Jvm.Cond.methodLink "CopperNets" (121 : Nat) ({ cls := "CopperNets", name := "checkNet", desc := "(I)V" } : Jvm.MethodName)) ∈ cn_tb := cn_t2 221 rfl rfl
set_option maxRecDepth 20000 in
theorem tw_462 : (Jvm.Cond.static ({ cls := "CopperNets", name := "checkNet", desc := "(I)V" } : Jvm.MethodName)) ∈ cn_tb := cn_t2 222 rfl rfl
set_option maxRecDepth 20000 in
theorem tw_463 : (Jvm.Cond.code ({ cls := "CopperNets", name := "checkNet", desc := "(I)V" } : Jvm.MethodName) prog_1_method_21_code (1 : Nat) (Option.none : Option Jvm.ClassFile.FieldType)) ∈ cn_tb := cn_t2 223 rfl rfl
set_option maxRecDepth 20000 in
theorem tw_471 : (Jvm.Cond.methodLink "CopperNets" (128 : Nat) ({ cls := "CopperNets", name := "checkWhat", desc := "(II)V" } : Jvm.MethodName)) ∈ cn_tb := cn_t2 231 rfl rfl
set_option maxRecDepth 20000 in
theorem tw_472 : (Jvm.Cond.static ({ cls := "CopperNets", name := "checkWhat", desc := "(II)V" } : Jvm.MethodName)) ∈ cn_tb := cn_t2 232 rfl rfl
set_option maxRecDepth 20000 in
theorem tw_473 : (Jvm.Cond.code ({ cls := "CopperNets", name := "checkWhat", desc := "(II)V" } : Jvm.MethodName) prog_1_method_23_code (2 : Nat) (Option.none : Option Jvm.ClassFile.FieldType)) ∈ cn_tb := cn_t2 233 rfl rfl
set_option maxRecDepth 20000 in
theorem tw_477 : (Jvm.Cond.instanceMethod ({ cls := "CopperNets$Airlines", name := "has", desc := "(I)Z" } : Jvm.MethodName)) ∈ cn_tb := cn_t2 237 rfl rfl
set_option maxRecDepth 20000 in
theorem tw_478 : (Jvm.Cond.code ({ cls := "CopperNets$Airlines", name := "has", desc := "(I)Z" } : Jvm.MethodName) prog_2_method_4_code (2 : Nat) (Option.some Jvm.ClassFile.FieldType.boolean)) ∈ cn_tb := cn_t2 238 rfl rfl
set_option maxRecDepth 20000 in
theorem tw_482 : (Jvm.Cond.instanceMethod ({ cls := "CopperNets$Airlines", name := "pairAt", desc := "(I)J" } : Jvm.MethodName)) ∈ cn_tb := cn_t3 2 rfl rfl
set_option maxRecDepth 20000 in
theorem tw_483 : (Jvm.Cond.code ({ cls := "CopperNets$Airlines", name := "pairAt", desc := "(I)J" } : Jvm.MethodName) prog_2_method_5_code (2 : Nat) (Option.some Jvm.ClassFile.FieldType.long)) ∈ cn_tb := cn_t3 3 rfl rfl
set_option maxRecDepth 20000 in
theorem tw_485 : (Jvm.Cond.static ({ cls := "CopperNets$Pair", name := "square", desc := "(J)J" } : Jvm.MethodName)) ∈ cn_tb := cn_t3 5 rfl rfl
set_option maxRecDepth 20000 in
theorem tw_486 : (Jvm.Cond.code ({ cls := "CopperNets$Pair", name := "square", desc := "(J)J" } : Jvm.MethodName) prog_4_method_3_code (2 : Nat) (Option.some Jvm.ClassFile.FieldType.long)) ∈ cn_tb := cn_t3 6 rfl rfl
set_option maxRecDepth 20000 in
theorem tw_488 : (Jvm.Cond.static ({ cls := "CopperNets$Pair", name := "piece", desc := "(JI)I" } : Jvm.MethodName)) ∈ cn_tb := cn_t3 8 rfl rfl
set_option maxRecDepth 20000 in
theorem tw_489 : (Jvm.Cond.code ({ cls := "CopperNets$Pair", name := "piece", desc := "(JI)I" } : Jvm.MethodName) prog_4_method_4_code (3 : Nat) (Option.some Jvm.ClassFile.FieldType.int)) ∈ cn_tb := cn_t3 9 rfl rfl
set_option maxRecDepth 20000 in
theorem tw_490 : (Jvm.Cond.constantLong "CopperNets$Pair" (18 : Nat) (63 : Int64)) ∈ cn_tb := cn_t3 10 rfl rfl
set_option maxRecDepth 20000 in
theorem tw_498 : (Jvm.Cond.methodLink "CopperNets" (158 : Nat) ({ cls := "CopperNets", name := "leaderOfShort", desc := "(I)I" } : Jvm.MethodName)) ∈ cn_tb := cn_t3 18 rfl rfl
set_option maxRecDepth 20000 in
theorem tw_500 : (Jvm.Cond.instanceMethod ({ cls := "CopperNets", name := "leaderOfShort", desc := "(I)I" } : Jvm.MethodName)) ∈ cn_tb := cn_t3 20 rfl rfl
set_option maxRecDepth 20000 in
theorem tw_501 : (Jvm.Cond.code ({ cls := "CopperNets", name := "leaderOfShort", desc := "(I)I" } : Jvm.MethodName) prog_1_method_34_code (4 : Nat) (Option.some Jvm.ClassFile.FieldType.int)) ∈ cn_tb := cn_t3 21 rfl rfl
set_option maxRecDepth 20000 in
theorem tw_503 : (Jvm.Cond.methodLink "CopperNets" (163 : Nat) ({ cls := "CopperNets", name := "lowestNet", desc := "(I)I" } : Jvm.MethodName)) ∈ cn_tb := cn_t3 23 rfl rfl
set_option maxRecDepth 20000 in
theorem tw_504 : (Jvm.Cond.static ({ cls := "CopperNets", name := "lowestNet", desc := "(I)I" } : Jvm.MethodName)) ∈ cn_tb := cn_t3 24 rfl rfl
set_option maxRecDepth 20000 in
theorem tw_505 : (Jvm.Cond.code ({ cls := "CopperNets", name := "lowestNet", desc := "(I)I" } : Jvm.MethodName) prog_1_method_35_code (2 : Nat) (Option.some Jvm.ClassFile.FieldType.int)) ∈ cn_tb := cn_t3 25 rfl rfl
set_option maxRecDepth 20000 in
theorem tw_506 : (Jvm.Cond.methodLink "CopperNets" (166 : Nat) ({ cls := "CopperNets", name := "joinThatShorted", desc := "(I)J" } : Jvm.MethodName)) ∈ cn_tb := cn_t3 26 rfl rfl
set_option maxRecDepth 20000 in
theorem tw_508 : (Jvm.Cond.instanceMethod ({ cls := "CopperNets", name := "joinThatShorted", desc := "(I)J" } : Jvm.MethodName)) ∈ cn_tb := cn_t3 28 rfl rfl
set_option maxRecDepth 20000 in
theorem tw_509 : (Jvm.Cond.code ({ cls := "CopperNets", name := "joinThatShorted", desc := "(I)J" } : Jvm.MethodName) prog_1_method_36_code (4 : Nat) (Option.some Jvm.ClassFile.FieldType.long)) ∈ cn_tb := cn_t3 29 rfl rfl
set_option maxRecDepth 20000 in
theorem tw_510 : (Jvm.Cond.methodLink "CopperNets" (245 : Nat) ({ cls := "CopperNets", name := "belowThatShorts", desc := "(I)I" } : Jvm.MethodName)) ∈ cn_tb := cn_t3 30 rfl rfl
set_option maxRecDepth 20000 in
theorem tw_512 : (Jvm.Cond.instanceMethod ({ cls := "CopperNets", name := "belowThatShorts", desc := "(I)I" } : Jvm.MethodName)) ∈ cn_tb := cn_t3 32 rfl rfl
set_option maxRecDepth 20000 in
theorem tw_513 : (Jvm.Cond.code ({ cls := "CopperNets", name := "belowThatShorts", desc := "(I)I" } : Jvm.MethodName) prog_1_method_37_code (4 : Nat) (Option.some Jvm.ClassFile.FieldType.int)) ∈ cn_tb := cn_t3 33 rfl rfl
set_option maxRecDepth 20000 in
theorem tw_531 : (Jvm.Cond.instanceMethod ({ cls := "CopperNets$Pieces", name := "remove", desc := "(I)V" } : Jvm.MethodName)) ∈ cn_tb := cn_t3 51 rfl rfl
set_option maxRecDepth 20000 in
theorem tw_532 : (Jvm.Cond.code ({ cls := "CopperNets$Pieces", name := "remove", desc := "(I)V" } : Jvm.MethodName) prog_5_method_6_code (2 : Nat) (Option.none : Option Jvm.ClassFile.FieldType)) ∈ cn_tb := cn_t3 52 rfl rfl
set_option maxRecDepth 20000 in
theorem tw_533 : (Jvm.Cond.methodLink "CopperNets" (175 : Nat) ({ cls := "CopperNets", name := "partWithout", desc := "(I)V" } : Jvm.MethodName)) ∈ cn_tb := cn_t3 53 rfl rfl
set_option maxRecDepth 20000 in
theorem tw_535 : (Jvm.Cond.instanceMethod ({ cls := "CopperNets", name := "partWithout", desc := "(I)V" } : Jvm.MethodName)) ∈ cn_tb := cn_t3 55 rfl rfl
set_option maxRecDepth 20000 in
theorem tw_536 : (Jvm.Cond.code ({ cls := "CopperNets", name := "partWithout", desc := "(I)V" } : Jvm.MethodName) prog_1_method_28_code (4 : Nat) (Option.none : Option Jvm.ClassFile.FieldType)) ∈ cn_tb := cn_t3 56 rfl rfl
set_option maxRecDepth 20000 in
theorem tw_539 : (Jvm.Cond.instanceMethod ({ cls := "CopperNets$Groups", name := "leave", desc := "(I)V" } : Jvm.MethodName)) ∈ cn_tb := cn_t3 59 rfl rfl
set_option maxRecDepth 20000 in
theorem tw_540 : (Jvm.Cond.code ({ cls := "CopperNets$Groups", name := "leave", desc := "(I)V" } : Jvm.MethodName) prog_3_method_6_code (2 : Nat) (Option.none : Option Jvm.ClassFile.FieldType)) ∈ cn_tb := cn_t3 60 rfl rfl
set_option maxRecDepth 20000 in
theorem tw_543 : (Jvm.Cond.instanceMethod ({ cls := "CopperNets$Groups", name := "follow", desc := "(II)V" } : Jvm.MethodName)) ∈ cn_tb := cn_t3 63 rfl rfl
set_option maxRecDepth 20000 in
theorem tw_544 : (Jvm.Cond.code ({ cls := "CopperNets$Groups", name := "follow", desc := "(II)V" } : Jvm.MethodName) prog_3_method_7_code (3 : Nat) (Option.none : Option Jvm.ClassFile.FieldType)) ∈ cn_tb := cn_t3 64 rfl rfl
set_option maxRecDepth 20000 in
theorem tw_551 : (Jvm.Cond.fieldLink "CopperNetsModel" (55 : Nat) "CopperNetsModel" "thrown" "I") ∈ cn_tb := cn_t3 71 rfl rfl
set_option maxRecDepth 20000 in
theorem tw_552 : (Jvm.Cond.fieldLink "CopperNetsModel" (51 : Nat) "CopperNetsModel" "layers" "I") ∈ cn_tb := cn_t3 72 rfl rfl
set_option maxRecDepth 20000 in
theorem tw_553 : (Jvm.Cond.fieldLink "CopperNetsModel" (58 : Nat) "CopperNetsModel" "pieces" "I") ∈ cn_tb := cn_t3 73 rfl rfl
set_option maxRecDepth 20000 in
theorem tw_554 : (Jvm.Cond.fieldLink "CopperNetsModel" (7 : Nat) "CopperNetsModel" "there" "[Z") ∈ cn_tb := cn_t3 74 rfl rfl
set_option maxRecDepth 20000 in
theorem tw_555 : (Jvm.Cond.fieldLink "CopperNetsModel" (13 : Nat) "CopperNetsModel" "low" "[I") ∈ cn_tb := cn_t3 75 rfl rfl
set_option maxRecDepth 20000 in
theorem tw_556 : (Jvm.Cond.fieldLink "CopperNetsModel" (17 : Nat) "CopperNetsModel" "high" "[I") ∈ cn_tb := cn_t3 76 rfl rfl
set_option maxRecDepth 20000 in
theorem tw_557 : (Jvm.Cond.fieldLink "CopperNetsModel" (20 : Nat) "CopperNetsModel" "x" "[J") ∈ cn_tb := cn_t3 77 rfl rfl
set_option maxRecDepth 20000 in
theorem tw_558 : (Jvm.Cond.fieldLink "CopperNetsModel" (24 : Nat) "CopperNetsModel" "y" "[J") ∈ cn_tb := cn_t3 78 rfl rfl
set_option maxRecDepth 20000 in
theorem tw_559 : (Jvm.Cond.fieldLink "CopperNetsModel" (27 : Nat) "CopperNetsModel" "w" "[J") ∈ cn_tb := cn_t3 79 rfl rfl
set_option maxRecDepth 20000 in
theorem tw_560 : (Jvm.Cond.fieldLink "CopperNetsModel" (30 : Nat) "CopperNetsModel" "h" "[J") ∈ cn_tb := cn_t3 80 rfl rfl
set_option maxRecDepth 20000 in
theorem tw_561 : (Jvm.Cond.fieldLink "CopperNetsModel" (33 : Nat) "CopperNetsModel" "\x72" "[J") ∈ cn_tb := cn_t3 81 rfl rfl
set_option maxRecDepth 20000 in
theorem tw_562 : (Jvm.Cond.fieldLink "CopperNetsModel" (36 : Nat) "CopperNetsModel" "pinOf" "[I") ∈ cn_tb := cn_t3 82 rfl rfl
set_option maxRecDepth 20000 in
theorem tw_563 : (Jvm.Cond.fieldLink "CopperNetsModel" (39 : Nat) "CopperNetsModel" "netOfPin" "[I") ∈ cn_tb := cn_t3 83 rfl rfl
set_option maxRecDepth 20000 in
theorem tw_564 : (Jvm.Cond.fieldLink "CopperNetsModel" (42 : Nat) "CopperNetsModel" "label" "[I") ∈ cn_tb := cn_t3 84 rfl rfl
set_option maxRecDepth 20000 in
theorem tw_565 : (Jvm.Cond.fieldLink "CopperNetsModel" (45 : Nat) "CopperNetsModel" "number" "[I") ∈ cn_tb := cn_t3 85 rfl rfl
set_option maxRecDepth 20000 in
theorem tw_566 : (Jvm.Cond.fieldLink "CopperNetsModel" (48 : Nat) "CopperNetsModel" "group" "[I") ∈ cn_tb := cn_t3 86 rfl rfl
set_option maxRecDepth 20000 in
theorem tw_567 : (Jvm.Cond.fieldLink "CopperNetsModel" (109 : Nat) "CopperNetsModel" "airSquare" "J") ∈ cn_tb := cn_t3 87 rfl rfl
set_option maxRecDepth 20000 in
theorem tw_568 : (Jvm.Cond.fieldLink "CopperNetsModel" (113 : Nat) "CopperNetsModel" "airLow" "I") ∈ cn_tb := cn_t3 88 rfl rfl
set_option maxRecDepth 20000 in
theorem tw_569 : (Jvm.Cond.fieldLink "CopperNetsModel" (116 : Nat) "CopperNetsModel" "airHigh" "I") ∈ cn_tb := cn_t3 89 rfl rfl
set_option maxRecDepth 20000 in
theorem tw_617 : (Jvm.Cond.methodLink "CopperNetsModel" (65 : Nat) ({ cls := "CopperNetsModel", name := "isPlace", desc := "(JJ)Z" } : Jvm.MethodName)) ∈ cn_tb := cn_t3 137 rfl rfl
set_option maxRecDepth 20000 in
theorem tw_618 : (Jvm.Cond.static ({ cls := "CopperNetsModel", name := "isPlace", desc := "(JJ)Z" } : Jvm.MethodName)) ∈ cn_tb := cn_t3 138 rfl rfl
set_option maxRecDepth 20000 in
theorem tw_619 : (Jvm.Cond.code ({ cls := "CopperNetsModel", name := "isPlace", desc := "(JJ)Z" } : Jvm.MethodName) prog_7_method_7_code (4 : Nat) (Option.some Jvm.ClassFile.FieldType.boolean)) ∈ cn_tb := cn_t3 139 rfl rfl
set_option maxRecDepth 20000 in
theorem tw_620 : (Jvm.Cond.constantLong "CopperNetsModel" (61 : Nat) (-100000 : Int64)) ∈ cn_tb := cn_t3 140 rfl rfl
set_option maxRecDepth 20000 in
theorem tw_621 : (Jvm.Cond.constantLong "CopperNetsModel" (63 : Nat) (100000 : Int64)) ∈ cn_tb := cn_t3 141 rfl rfl
set_option maxRecDepth 20000 in
theorem tw_622 : (Jvm.Cond.methodLink "CopperNetsModel" (69 : Nat) ({ cls := "CopperNetsModel", name := "isSize", desc := "(J)Z" } : Jvm.MethodName)) ∈ cn_tb := cn_t3 142 rfl rfl
set_option maxRecDepth 20000 in
theorem tw_623 : (Jvm.Cond.static ({ cls := "CopperNetsModel", name := "isSize", desc := "(J)Z" } : Jvm.MethodName)) ∈ cn_tb := cn_t3 143 rfl rfl
set_option maxRecDepth 20000 in
theorem tw_624 : (Jvm.Cond.code ({ cls := "CopperNetsModel", name := "isSize", desc := "(J)Z" } : Jvm.MethodName) prog_7_method_8_code (2 : Nat) (Option.some Jvm.ClassFile.FieldType.boolean)) ∈ cn_tb := cn_t3 144 rfl rfl
set_option maxRecDepth 20000 in
theorem tw_625 : (Jvm.Cond.methodLink "CopperNetsModel" (73 : Nat) ({ cls := "CopperNetsModel", name := "isLayer", desc := "(I)Z" } : Jvm.MethodName)) ∈ cn_tb := cn_t3 145 rfl rfl
set_option maxRecDepth 20000 in
theorem tw_627 : (Jvm.Cond.instanceMethod ({ cls := "CopperNetsModel", name := "isLayer", desc := "(I)Z" } : Jvm.MethodName)) ∈ cn_tb := cn_t3 147 rfl rfl
set_option maxRecDepth 20000 in
theorem tw_628 : (Jvm.Cond.code ({ cls := "CopperNetsModel", name := "isLayer", desc := "(I)Z" } : Jvm.MethodName) prog_7_method_3_code (2 : Nat) (Option.some Jvm.ClassFile.FieldType.boolean)) ∈ cn_tb := cn_t3 148 rfl rfl
set_option maxRecDepth 20000 in
theorem tw_629 : (Jvm.Cond.methodLink "CopperNetsModel" (77 : Nat) ({ cls := "CopperNetsModel", name := "add", desc := "(IIJJJJJI)I" } : Jvm.MethodName)) ∈ cn_tb := cn_t3 149 rfl rfl
set_option maxRecDepth 20000 in
theorem tw_631 : (Jvm.Cond.instanceMethod ({ cls := "CopperNetsModel", name := "add", desc := "(IIJJJJJI)I" } : Jvm.MethodName)) ∈ cn_tb := cn_t3 151 rfl rfl
set_option maxRecDepth 20000 in
theorem tw_632 : (Jvm.Cond.code ({ cls := "CopperNetsModel", name := "add", desc := "(IIJJJJJI)I" } : Jvm.MethodName) prog_7_method_9_code (14 : Nat) (Option.some Jvm.ClassFile.FieldType.int)) ∈ cn_tb := cn_t3 152 rfl rfl
set_option maxRecDepth 20000 in
theorem tw_641 : (Jvm.Cond.methodLink "CopperNetsModel" (81 : Nat) ({ cls := "CopperNetsModel", name := "isPin", desc := "(I)Z" } : Jvm.MethodName)) ∈ cn_tb := cn_t3 161 rfl rfl
set_option maxRecDepth 20000 in
theorem tw_642 : (Jvm.Cond.static ({ cls := "CopperNetsModel", name := "isPin", desc := "(I)Z" } : Jvm.MethodName)) ∈ cn_tb := cn_t3 162 rfl rfl
set_option maxRecDepth 20000 in
theorem tw_643 : (Jvm.Cond.code ({ cls := "CopperNetsModel", name := "isPin", desc := "(I)Z" } : Jvm.MethodName) prog_7_method_5_code (1 : Nat) (Option.some Jvm.ClassFile.FieldType.boolean)) ∈ cn_tb := cn_t3 163 rfl rfl
set_option maxRecDepth 20000 in
theorem tw_648 : (Jvm.Cond.methodLink "CopperNetsModel" (84 : Nat) ({ cls := "CopperNetsModel", name := "isNet", desc := "(I)Z" } : Jvm.MethodName)) ∈ cn_tb := cn_t3 168 rfl rfl
set_option maxRecDepth 20000 in
theorem tw_649 : (Jvm.Cond.static ({ cls := "CopperNetsModel", name := "isNet", desc := "(I)Z" } : Jvm.MethodName)) ∈ cn_tb := cn_t3 169 rfl rfl
set_option maxRecDepth 20000 in
theorem tw_650 : (Jvm.Cond.code ({ cls := "CopperNetsModel", name := "isNet", desc := "(I)Z" } : Jvm.MethodName) prog_7_method_6_code (1 : Nat) (Option.some Jvm.ClassFile.FieldType.boolean)) ∈ cn_tb := cn_t3 170 rfl rfl
set_option maxRecDepth 20000 in
theorem tw_655 : (Jvm.Cond.methodLink "CopperNetsModel" (87 : Nat) ({ cls := "CopperNetsModel", name := "isPiece", desc := "(I)Z" } : Jvm.MethodName)) ∈ cn_tb := cn_t3 175 rfl rfl
set_option maxRecDepth 20000 in
theorem tw_657 : (Jvm.Cond.instanceMethod ({ cls := "CopperNetsModel", name := "isPiece", desc := "(I)Z" } : Jvm.MethodName)) ∈ cn_tb := cn_t3 177 rfl rfl
set_option maxRecDepth 20000 in
theorem tw_658 : (Jvm.Cond.code ({ cls := "CopperNetsModel", name := "isPiece", desc := "(I)Z" } : Jvm.MethodName) prog_7_method_4_code (2 : Nat) (Option.some Jvm.ClassFile.FieldType.boolean)) ∈ cn_tb := cn_t3 178 rfl rfl
set_option maxRecDepth 20000 in
theorem tw_663 : (Jvm.Cond.methodLink "CopperNetsModel" (101 : Nat) ({ cls := "CopperNetsModel", name := "findNets", desc := "()I" } : Jvm.MethodName)) ∈ cn_tb := cn_t3 183 rfl rfl
set_option maxRecDepth 20000 in
theorem tw_665 : (Jvm.Cond.instanceMethod ({ cls := "CopperNetsModel", name := "findNets", desc := "()I" } : Jvm.MethodName)) ∈ cn_tb := cn_t3 185 rfl rfl
set_option maxRecDepth 20000 in
theorem tw_666 : (Jvm.Cond.code ({ cls := "CopperNetsModel", name := "findNets", desc := "()I" } : Jvm.MethodName) prog_7_method_18_code (3 : Nat) (Option.some Jvm.ClassFile.FieldType.int)) ∈ cn_tb := cn_t3 186 rfl rfl
set_option maxRecDepth 20000 in
theorem tw_667 : (Jvm.Cond.methodLink "CopperNetsModel" (98 : Nat) ({ cls := "CopperNetsModel", name := "findLabels", desc := "()V" } : Jvm.MethodName)) ∈ cn_tb := cn_t3 187 rfl rfl
set_option maxRecDepth 20000 in
theorem tw_669 : (Jvm.Cond.instanceMethod ({ cls := "CopperNetsModel", name := "findLabels", desc := "()V" } : Jvm.MethodName)) ∈ cn_tb := cn_t3 189 rfl rfl
set_option maxRecDepth 20000 in
theorem tw_670 : (Jvm.Cond.code ({ cls := "CopperNetsModel", name := "findLabels", desc := "()V" } : Jvm.MethodName) prog_7_method_17_code (5 : Nat) (Option.none : Option Jvm.ClassFile.FieldType)) ∈ cn_tb := cn_t3 190 rfl rfl
set_option maxRecDepth 20000 in
theorem tw_671 : (Jvm.Cond.methodLink "CopperNetsModel" (94 : Nat) ({ cls := "CopperNetsModel", name := "touch", desc := "(II)Z" } : Jvm.MethodName)) ∈ cn_tb := cn_t3 191 rfl rfl
set_option maxRecDepth 20000 in
theorem tw_673 : (Jvm.Cond.instanceMethod ({ cls := "CopperNetsModel", name := "touch", desc := "(II)Z" } : Jvm.MethodName)) ∈ cn_tb := cn_t3 193 rfl rfl
set_option maxRecDepth 20000 in
theorem tw_674 : (Jvm.Cond.code ({ cls := "CopperNetsModel", name := "touch", desc := "(II)Z" } : Jvm.MethodName) prog_7_method_16_code (9 : Nat) (Option.some Jvm.ClassFile.FieldType.boolean)) ∈ cn_tb := cn_t3 194 rfl rfl
set_option maxRecDepth 20000 in
theorem tw_675 : (Jvm.Cond.methodLink "CopperNetsModel" (90 : Nat) ({ cls := "CopperNetsModel", name := "gap", desc := "(JJJJ)J" } : Jvm.MethodName)) ∈ cn_tb := cn_t3 195 rfl rfl
set_option maxRecDepth 20000 in
theorem tw_676 : (Jvm.Cond.static ({ cls := "CopperNetsModel", name := "gap", desc := "(JJJJ)J" } : Jvm.MethodName)) ∈ cn_tb := cn_t3 196 rfl rfl
set_option maxRecDepth 20000 in
theorem tw_677 : (Jvm.Cond.code ({ cls := "CopperNetsModel", name := "gap", desc := "(JJJJ)J" } : Jvm.MethodName) prog_7_method_15_code (8 : Nat) (Option.some Jvm.ClassFile.FieldType.long)) ∈ cn_tb := cn_t3 197 rfl rfl
set_option maxRecDepth 20000 in
theorem tw_686 : (Jvm.Cond.methodLink "CopperNetsModel" (122 : Nat) ({ cls := "CopperNetsModel", name := "countOpens", desc := "(I)I" } : Jvm.MethodName)) ∈ cn_tb := cn_t3 206 rfl rfl
set_option maxRecDepth 20000 in
theorem tw_688 : (Jvm.Cond.instanceMethod ({ cls := "CopperNetsModel", name := "countOpens", desc := "(I)I" } : Jvm.MethodName)) ∈ cn_tb := cn_t3 208 rfl rfl
set_option maxRecDepth 20000 in
theorem tw_689 : (Jvm.Cond.code ({ cls := "CopperNetsModel", name := "countOpens", desc := "(I)I" } : Jvm.MethodName) prog_7_method_27_code (3 : Nat) (Option.some Jvm.ClassFile.FieldType.int)) ∈ cn_tb := cn_t3 209 rfl rfl
set_option maxRecDepth 20000 in
theorem tw_690 : (Jvm.Cond.methodLink "CopperNetsModel" (119 : Nat) ({ cls := "CopperNetsModel", name := "nextAirline", desc := "(I)Z" } : Jvm.MethodName)) ∈ cn_tb := cn_t3 210 rfl rfl
set_option maxRecDepth 20000 in
theorem tw_692 : (Jvm.Cond.instanceMethod ({ cls := "CopperNetsModel", name := "nextAirline", desc := "(I)Z" } : Jvm.MethodName)) ∈ cn_tb := cn_t3 212 rfl rfl
set_option maxRecDepth 20000 in
theorem tw_693 : (Jvm.Cond.code ({ cls := "CopperNetsModel", name := "nextAirline", desc := "(I)Z" } : Jvm.MethodName) prog_7_method_25_code (8 : Nat) (Option.some Jvm.ClassFile.FieldType.boolean)) ∈ cn_tb := cn_t3 213 rfl rfl
set_option maxRecDepth 20000 in
theorem tw_694 : (Jvm.Cond.methodLink "CopperNetsModel" (105 : Nat) ({ cls := "CopperNetsModel", name := "planOf", desc := "(I)I" } : Jvm.MethodName)) ∈ cn_tb := cn_t3 214 rfl rfl
set_option maxRecDepth 20000 in
theorem tw_696 : (Jvm.Cond.instanceMethod ({ cls := "CopperNetsModel", name := "planOf", desc := "(I)I" } : Jvm.MethodName)) ∈ cn_tb := cn_t3 216 rfl rfl
set_option maxRecDepth 20000 in
theorem tw_697 : (Jvm.Cond.code ({ cls := "CopperNetsModel", name := "planOf", desc := "(I)I" } : Jvm.MethodName) prog_7_method_21_code (2 : Nat) (Option.some Jvm.ClassFile.FieldType.int)) ∈ cn_tb := cn_t3 217 rfl rfl
set_option maxRecDepth 20000 in
theorem tw_702 : (Jvm.Cond.methodLink "CopperNetsModel" (125 : Nat) ({ cls := "CopperNetsModel", name := "findAirline", desc := "(II)Z" } : Jvm.MethodName)) ∈ cn_tb := cn_t3 222 rfl rfl
set_option maxRecDepth 20000 in
theorem tw_704 : (Jvm.Cond.instanceMethod ({ cls := "CopperNetsModel", name := "findAirline", desc := "(II)Z" } : Jvm.MethodName)) ∈ cn_tb := cn_t3 224 rfl rfl
set_option maxRecDepth 20000 in
theorem tw_705 : (Jvm.Cond.code ({ cls := "CopperNetsModel", name := "findAirline", desc := "(II)Z" } : Jvm.MethodName) prog_7_method_26_code (4 : Nat) (Option.some Jvm.ClassFile.FieldType.boolean)) ∈ cn_tb := cn_t3 225 rfl rfl
set_option maxRecDepth 20000 in
theorem tw_714 : (Jvm.Cond.methodLink "CopperNetsModel" (134 : Nat) ({ cls := "CopperNetsModel", name := "countShorts", desc := "()I" } : Jvm.MethodName)) ∈ cn_tb := cn_t3 234 rfl rfl
set_option maxRecDepth 20000 in
theorem tw_716 : (Jvm.Cond.instanceMethod ({ cls := "CopperNetsModel", name := "countShorts", desc := "()I" } : Jvm.MethodName)) ∈ cn_tb := cn_t3 236 rfl rfl
set_option maxRecDepth 20000 in
theorem tw_717 : (Jvm.Cond.code ({ cls := "CopperNetsModel", name := "countShorts", desc := "()I" } : Jvm.MethodName) prog_7_method_31_code (4 : Nat) (Option.some Jvm.ClassFile.FieldType.int)) ∈ cn_tb := cn_t3 237 rfl rfl
set_option maxRecDepth 20000 in
theorem tw_718 : (Jvm.Cond.methodLink "CopperNetsModel" (128 : Nat) ({ cls := "CopperNetsModel", name := "netsOf", desc := "(I)I" } : Jvm.MethodName)) ∈ cn_tb := cn_t3 238 rfl rfl
set_option maxRecDepth 20000 in
theorem tw_720 : (Jvm.Cond.instanceMethod ({ cls := "CopperNetsModel", name := "netsOf", desc := "(I)I" } : Jvm.MethodName)) ∈ cn_tb := cn_t4 0 rfl rfl
set_option maxRecDepth 20000 in
theorem tw_721 : (Jvm.Cond.code ({ cls := "CopperNetsModel", name := "netsOf", desc := "(I)I" } : Jvm.MethodName) prog_7_method_22_code (4 : Nat) (Option.some Jvm.ClassFile.FieldType.int)) ∈ cn_tb := cn_t4 1 rfl rfl
set_option maxRecDepth 20000 in
theorem tw_722 : (Jvm.Cond.methodLink "CopperNetsModel" (131 : Nat) ({ cls := "CopperNetsModel", name := "isShort", desc := "(I)Z" } : Jvm.MethodName)) ∈ cn_tb := cn_t4 2 rfl rfl
set_option maxRecDepth 20000 in
theorem tw_723 : (Jvm.Cond.static ({ cls := "CopperNetsModel", name := "isShort", desc := "(I)Z" } : Jvm.MethodName)) ∈ cn_tb := cn_t4 3 rfl rfl
set_option maxRecDepth 20000 in
theorem tw_724 : (Jvm.Cond.code ({ cls := "CopperNetsModel", name := "isShort", desc := "(I)Z" } : Jvm.MethodName) prog_7_method_23_code (1 : Nat) (Option.some Jvm.ClassFile.FieldType.boolean)) ∈ cn_tb := cn_t4 4 rfl rfl
set_option maxRecDepth 20000 in
theorem tw_729 : (Jvm.Cond.methodLink "CopperNetsModel" (140 : Nat) ({ cls := "CopperNetsModel", name := "shortAt", desc := "(I)I" } : Jvm.MethodName)) ∈ cn_tb := cn_t4 9 rfl rfl
set_option maxRecDepth 20000 in
theorem tw_731 : (Jvm.Cond.instanceMethod ({ cls := "CopperNetsModel", name := "shortAt", desc := "(I)I" } : Jvm.MethodName)) ∈ cn_tb := cn_t4 11 rfl rfl
set_option maxRecDepth 20000 in
theorem tw_732 : (Jvm.Cond.code ({ cls := "CopperNetsModel", name := "shortAt", desc := "(I)I" } : Jvm.MethodName) prog_7_method_33_code (5 : Nat) (Option.some Jvm.ClassFile.FieldType.int)) ∈ cn_tb := cn_t4 12 rfl rfl
set_option maxRecDepth 20000 in
theorem tw_733 : (Jvm.Cond.methodLink "CopperNetsModel" (143 : Nat) ({ cls := "CopperNetsModel", name := "lowest", desc := "(I)I" } : Jvm.MethodName)) ∈ cn_tb := cn_t4 13 rfl rfl
set_option maxRecDepth 20000 in
theorem tw_734 : (Jvm.Cond.static ({ cls := "CopperNetsModel", name := "lowest", desc := "(I)I" } : Jvm.MethodName)) ∈ cn_tb := cn_t4 14 rfl rfl
set_option maxRecDepth 20000 in
theorem tw_735 : (Jvm.Cond.code ({ cls := "CopperNetsModel", name := "lowest", desc := "(I)I" } : Jvm.MethodName) prog_7_method_24_code (2 : Nat) (Option.some Jvm.ClassFile.FieldType.int)) ∈ cn_tb := cn_t4 15 rfl rfl
set_option maxRecDepth 20000 in
theorem tw_736 : (Jvm.Cond.methodLink "CopperNetsModel" (146 : Nat) ({ cls := "CopperNetsModel", name := "findJoin", desc := "(I)V" } : Jvm.MethodName)) ∈ cn_tb := cn_t4 16 rfl rfl
set_option maxRecDepth 20000 in
theorem tw_738 : (Jvm.Cond.instanceMethod ({ cls := "CopperNetsModel", name := "findJoin", desc := "(I)V" } : Jvm.MethodName)) ∈ cn_tb := cn_t4 18 rfl rfl
set_option maxRecDepth 20000 in
theorem tw_739 : (Jvm.Cond.code ({ cls := "CopperNetsModel", name := "findJoin", desc := "(I)V" } : Jvm.MethodName) prog_7_method_35_code (7 : Nat) (Option.none : Option Jvm.ClassFile.FieldType)) ∈ cn_tb := cn_t4 19 rfl rfl
set_option maxRecDepth 20000 in
theorem tw_740 : (Jvm.Cond.methodLink "CopperNetsModel" (137 : Nat) ({ cls := "CopperNetsModel", name := "netsOfGroup", desc := "(I)I" } : Jvm.MethodName)) ∈ cn_tb := cn_t4 20 rfl rfl
set_option maxRecDepth 20000 in
theorem tw_742 : (Jvm.Cond.instanceMethod ({ cls := "CopperNetsModel", name := "netsOfGroup", desc := "(I)I" } : Jvm.MethodName)) ∈ cn_tb := cn_t4 22 rfl rfl
set_option maxRecDepth 20000 in
theorem tw_743 : (Jvm.Cond.code ({ cls := "CopperNetsModel", name := "netsOfGroup", desc := "(I)I" } : Jvm.MethodName) prog_7_method_34_code (4 : Nat) (Option.some Jvm.ClassFile.FieldType.int)) ∈ cn_tb := cn_t4 23 rfl rfl
set_option maxRecDepth 20000 in
theorem tw_752 : (Jvm.Cond.methodLink "CopperNetsModel" (153 : Nat) ({ cls := "CopperNetsModel", name := "unreachedAt", desc := "(I)I" } : Jvm.MethodName)) ∈ cn_tb := cn_t4 32 rfl rfl
set_option maxRecDepth 20000 in
theorem tw_754 : (Jvm.Cond.instanceMethod ({ cls := "CopperNetsModel", name := "unreachedAt", desc := "(I)I" } : Jvm.MethodName)) ∈ cn_tb := cn_t4 34 rfl rfl
set_option maxRecDepth 20000 in
theorem tw_755 : (Jvm.Cond.code ({ cls := "CopperNetsModel", name := "unreachedAt", desc := "(I)I" } : Jvm.MethodName) prog_7_method_39_code (4 : Nat) (Option.some Jvm.ClassFile.FieldType.int)) ∈ cn_tb := cn_t4 35 rfl rfl
set_option maxRecDepth 20000 in
theorem tw_756 : (Jvm.Cond.methodLink "CopperNetsModel" (150 : Nat) ({ cls := "CopperNetsModel", name := "hasPad", desc := "(I)Z" } : Jvm.MethodName)) ∈ cn_tb := cn_t4 36 rfl rfl
set_option maxRecDepth 20000 in
theorem tw_758 : (Jvm.Cond.instanceMethod ({ cls := "CopperNetsModel", name := "hasPad", desc := "(I)Z" } : Jvm.MethodName)) ∈ cn_tb := cn_t4 38 rfl rfl
set_option maxRecDepth 20000 in
theorem tw_759 : (Jvm.Cond.code ({ cls := "CopperNetsModel", name := "hasPad", desc := "(I)Z" } : Jvm.MethodName) prog_7_method_38_code (3 : Nat) (Option.some Jvm.ClassFile.FieldType.boolean)) ∈ cn_tb := cn_t4 39 rfl rfl
