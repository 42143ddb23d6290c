set_option maxRecDepth 20000 in
theorem tw_0 : (Jvm.Cond.initialized "CopperNetsLaw") ∈ cn_tb := cn_t1 0 rfl rfl
set_option maxRecDepth 20000 in
theorem tw_139 : (Jvm.Cond.methodLink "CopperNetsLaw" (84 : Nat) ({ cls := "CopperNets", name := "run", desc := "()I" } : Jvm.MethodName)) ∈ cn_tb := cn_t1 139 rfl rfl
set_option maxRecDepth 20000 in
theorem tw_140 : (Jvm.Cond.instanceMethod ({ cls := "CopperNets", name := "run", desc := "()I" } : Jvm.MethodName)) ∈ cn_tb := cn_t1 140 rfl rfl
set_option maxRecDepth 20000 in
theorem tw_141 : (Jvm.Cond.selects "CopperNets" ({ cls := "CopperNets", name := "run", desc := "()I" } : Jvm.MethodName) ({ cls := "CopperNets", name := "run", desc := "()I" } : Jvm.MethodName)) ∈ cn_tb := cn_t1 141 rfl rfl
set_option maxRecDepth 20000 in
theorem tw_142 : (Jvm.Cond.code ({ cls := "CopperNets", name := "run", desc := "()I" } : Jvm.MethodName) prog_1_method_6_code (1 : Nat) (Option.some Jvm.ClassFile.FieldType.int)) ∈ cn_tb := cn_t1 142 rfl rfl
set_option maxRecDepth 20000 in
theorem tw_151 : (Jvm.Cond.methodLink "CopperNetsLaw" (99 : Nat) ({ cls := "CopperNets", name := "shorts", desc := "()I" } : Jvm.MethodName)) ∈ cn_tb := cn_t1 151 rfl rfl
set_option maxRecDepth 20000 in
theorem tw_185 : (Jvm.Cond.methodLink "CopperNetsLaw" (106 : Nat) ({ cls := "CopperNets", name := "unnamed", desc := "(I)I" } : Jvm.MethodName)) ∈ cn_tb := cn_t1 185 rfl rfl
set_option maxRecDepth 20000 in
theorem tw_186 : (Jvm.Cond.instanceMethod ({ cls := "CopperNets", name := "unnamed", desc := "(I)I" } : Jvm.MethodName)) ∈ cn_tb := cn_t1 186 rfl rfl
set_option maxRecDepth 20000 in
theorem tw_187 : (Jvm.Cond.selects "CopperNets" ({ cls := "CopperNets", name := "unnamed", desc := "(I)I" } : Jvm.MethodName) ({ cls := "CopperNets", name := "unnamed", desc := "(I)I" } : Jvm.MethodName)) ∈ cn_tb := cn_t1 187 rfl rfl
set_option maxRecDepth 20000 in
theorem tw_188 : (Jvm.Cond.code ({ cls := "CopperNets", name := "unnamed", desc := "(I)I" } : Jvm.MethodName) prog_1_method_12_code (4 : Nat) (Option.some Jvm.ClassFile.FieldType.int)) ∈ cn_tb := cn_t1 188 rfl rfl
set_option maxRecDepth 20000 in
theorem tw_189 : (Jvm.Cond.methodLink "CopperNetsLaw" (116 : Nat) ({ cls := "CopperNets", name := "same", desc := "()Z" } : Jvm.MethodName)) ∈ cn_tb := cn_t1 189 rfl rfl
set_option maxRecDepth 20000 in
theorem tw_190 : (Jvm.Cond.instanceMethod ({ cls := "CopperNets", name := "same", desc := "()Z" } : Jvm.MethodName)) ∈ cn_tb := cn_t1 190 rfl rfl
set_option maxRecDepth 20000 in
theorem tw_191 : (Jvm.Cond.selects "CopperNets" ({ cls := "CopperNets", name := "same", desc := "()Z" } : Jvm.MethodName) ({ cls := "CopperNets", name := "same", desc := "()Z" } : Jvm.MethodName)) ∈ cn_tb := cn_t1 191 rfl rfl
set_option maxRecDepth 20000 in
theorem tw_192 : (Jvm.Cond.code ({ cls := "CopperNets", name := "same", desc := "()Z" } : Jvm.MethodName) prog_1_method_15_code (2 : Nat) (Option.some Jvm.ClassFile.FieldType.boolean)) ∈ cn_tb := cn_t1 192 rfl rfl
set_option maxRecDepth 20000 in
theorem tw_227 : (Jvm.Cond.methodLink "CopperNetsLaw" (121 : Nat) ({ cls := "CopperNets", name := "unreached", desc := "(I)I" } : Jvm.MethodName)) ∈ cn_tb := cn_t1 227 rfl rfl
set_option maxRecDepth 20000 in
theorem tw_235 : (Jvm.Cond.methodLink "CopperNetsLaw" (125 : Nat) ({ cls := "CopperNets", name := "exact", desc := "()Z" } : Jvm.MethodName)) ∈ cn_tb := cn_t1 235 rfl rfl
set_option maxRecDepth 20000 in
theorem tw_236 : (Jvm.Cond.instanceMethod ({ cls := "CopperNets", name := "exact", desc := "()Z" } : Jvm.MethodName)) ∈ cn_tb := cn_t1 236 rfl rfl
set_option maxRecDepth 20000 in
theorem tw_237 : (Jvm.Cond.selects "CopperNets" ({ cls := "CopperNets", name := "exact", desc := "()Z" } : Jvm.MethodName) ({ cls := "CopperNets", name := "exact", desc := "()Z" } : Jvm.MethodName)) ∈ cn_tb := cn_t1 237 rfl rfl
set_option maxRecDepth 20000 in
theorem tw_238 : (Jvm.Cond.code ({ cls := "CopperNets", name := "exact", desc := "()Z" } : Jvm.MethodName) prog_1_method_17_code (2 : Nat) (Option.some Jvm.ClassFile.FieldType.boolean)) ∈ cn_tb := cn_t1 238 rfl rfl
set_option maxRecDepth 20000 in
theorem tw_287 : (Jvm.Cond.methodLink "CopperNetsLaw" (65 : Nat) ({ cls := "CopperNetsLaw", name := "shape", desc := "(LCopperNets;IJJJJ[J)I" } : Jvm.MethodName)) ∈ cn_tb := cn_t2 47 rfl rfl
set_option maxRecDepth 20000 in
theorem tw_288 : (Jvm.Cond.static ({ cls := "CopperNetsLaw", name := "shape", desc := "(LCopperNets;IJJJJ[J)I" } : Jvm.MethodName)) ∈ cn_tb := cn_t2 48 rfl rfl
set_option maxRecDepth 20000 in
theorem tw_289 : (Jvm.Cond.codeWith ({ cls := "CopperNetsLaw", name := "shape", desc := "(LCopperNets;IJJJJ[J)I" } : Jvm.MethodName) method_3_code (12 : Nat) (Option.some Jvm.ClassFile.FieldType.int) [((0 : Nat), (17 : Nat), (20 : Nat), (13 : Nat)), ((0 : Nat), (17 : Nat), (24 : Nat), (15 : Nat))]) ∈ cn_tb := cn_t2 49 rfl rfl
set_option maxRecDepth 20000 in
theorem tw_408 : (Jvm.Cond.methodLink "CopperNetsLaw" (73 : Nat) ({ cls := "CopperNetsLaw", name := "via", desc := "(LCopperNets;IIJJJ[J)I" } : Jvm.MethodName)) ∈ cn_tb := cn_t2 168 rfl rfl
set_option maxRecDepth 20000 in
theorem tw_409 : (Jvm.Cond.static ({ cls := "CopperNetsLaw", name := "via", desc := "(LCopperNets;IIJJJ[J)I" } : Jvm.MethodName)) ∈ cn_tb := cn_t2 169 rfl rfl
set_option maxRecDepth 20000 in
theorem tw_410 : (Jvm.Cond.codeWith ({ cls := "CopperNetsLaw", name := "via", desc := "(LCopperNets;IIJJJ[J)I" } : Jvm.MethodName) method_4_code (11 : Nat) (Option.some Jvm.ClassFile.FieldType.int) [((0 : Nat), (16 : Nat), (19 : Nat), (13 : Nat)), ((0 : Nat), (16 : Nat), (23 : Nat), (15 : Nat))]) ∈ cn_tb := cn_t2 170 rfl rfl
set_option maxRecDepth 20000 in
theorem tw_420 : (Jvm.Cond.methodLink "CopperNetsLaw" (77 : Nat) ({ cls := "CopperNetsLaw", name := "pad", desc := "(LCopperNets;IIJJJ[J)I" } : Jvm.MethodName)) ∈ cn_tb := cn_t2 180 rfl rfl
set_option maxRecDepth 20000 in
theorem tw_421 : (Jvm.Cond.static ({ cls := "CopperNetsLaw", name := "pad", desc := "(LCopperNets;IIJJJ[J)I" } : Jvm.MethodName)) ∈ cn_tb := cn_t2 181 rfl rfl
set_option maxRecDepth 20000 in
theorem tw_422 : (Jvm.Cond.codeWith ({ cls := "CopperNetsLaw", name := "pad", desc := "(LCopperNets;IIJJJ[J)I" } : Jvm.MethodName) method_5_code (11 : Nat) (Option.some Jvm.ClassFile.FieldType.int) [((0 : Nat), (16 : Nat), (19 : Nat), (13 : Nat)), ((0 : Nat), (16 : Nat), (23 : Nat), (15 : Nat))]) ∈ cn_tb := cn_t2 182 rfl rfl
set_option maxRecDepth 20000 in
theorem tw_431 : (Jvm.Cond.methodLink "CopperNetsLaw" (80 : Nat) ({ cls := "CopperNetsLaw", name := "plans", desc := "(LCopperNets;II[J)I" } : Jvm.MethodName)) ∈ cn_tb := cn_t2 191 rfl rfl
set_option maxRecDepth 20000 in
theorem tw_432 : (Jvm.Cond.static ({ cls := "CopperNetsLaw", name := "plans", desc := "(LCopperNets;II[J)I" } : Jvm.MethodName)) ∈ cn_tb := cn_t2 192 rfl rfl
set_option maxRecDepth 20000 in
theorem tw_433 : (Jvm.Cond.codeWith ({ cls := "CopperNetsLaw", name := "plans", desc := "(LCopperNets;II[J)I" } : Jvm.MethodName) method_6_code (5 : Nat) (Option.some Jvm.ClassFile.FieldType.int) [((0 : Nat), (17 : Nat), (20 : Nat), (13 : Nat)), ((0 : Nat), (17 : Nat), (24 : Nat), (15 : Nat))]) ∈ cn_tb := cn_t2 193 rfl rfl
set_option maxRecDepth 20000 in
theorem tw_442 : (Jvm.Cond.methodLink "CopperNetsLaw" (88 : Nat) ({ cls := "CopperNetsLaw", name := "netOf", desc := "(LCopperNets;I[J)I" } : Jvm.MethodName)) ∈ cn_tb := cn_t2 202 rfl rfl
set_option maxRecDepth 20000 in
theorem tw_443 : (Jvm.Cond.static ({ cls := "CopperNetsLaw", name := "netOf", desc := "(LCopperNets;I[J)I" } : Jvm.MethodName)) ∈ cn_tb := cn_t2 203 rfl rfl
set_option maxRecDepth 20000 in
theorem tw_444 : (Jvm.Cond.codeWith ({ cls := "CopperNetsLaw", name := "netOf", desc := "(LCopperNets;I[J)I" } : Jvm.MethodName) method_7_code (4 : Nat) (Option.some Jvm.ClassFile.FieldType.int) [((0 : Nat), (9 : Nat), (12 : Nat), (13 : Nat))]) ∈ cn_tb := cn_t2 204 rfl rfl
set_option maxRecDepth 20000 in
theorem tw_454 : (Jvm.Cond.methodLink "CopperNetsLaw" (92 : Nat) ({ cls := "CopperNetsLaw", name := "opens", desc := "(LCopperNets;I[J)I" } : Jvm.MethodName)) ∈ cn_tb := cn_t2 214 rfl rfl
set_option maxRecDepth 20000 in
theorem tw_455 : (Jvm.Cond.static ({ cls := "CopperNetsLaw", name := "opens", desc := "(LCopperNets;I[J)I" } : Jvm.MethodName)) ∈ cn_tb := cn_t2 215 rfl rfl
set_option maxRecDepth 20000 in
theorem tw_456 : (Jvm.Cond.codeWith ({ cls := "CopperNetsLaw", name := "opens", desc := "(LCopperNets;I[J)I" } : Jvm.MethodName) method_8_code (4 : Nat) (Option.some Jvm.ClassFile.FieldType.int) [((0 : Nat), (9 : Nat), (12 : Nat), (13 : Nat))]) ∈ cn_tb := cn_t2 216 rfl rfl
set_option maxRecDepth 20000 in
theorem tw_464 : (Jvm.Cond.methodLink "CopperNetsLaw" (95 : Nat) ({ cls := "CopperNetsLaw", name := "open", desc := "(LCopperNets;III[J)I" } : Jvm.MethodName)) ∈ cn_tb := cn_t2 224 rfl rfl
set_option maxRecDepth 20000 in
theorem tw_465 : (Jvm.Cond.static ({ cls := "CopperNetsLaw", name := "open", desc := "(LCopperNets;III[J)I" } : Jvm.MethodName)) ∈ cn_tb := cn_t2 225 rfl rfl
set_option maxRecDepth 20000 in
theorem tw_466 : (Jvm.Cond.codeWith ({ cls := "CopperNetsLaw", name := "open", desc := "(LCopperNets;III[J)I" } : Jvm.MethodName) method_9_code (6 : Nat) (Option.some Jvm.ClassFile.FieldType.int) [((0 : Nat), (11 : Nat), (14 : Nat), (13 : Nat))]) ∈ cn_tb := cn_t2 226 rfl rfl
set_option maxRecDepth 20000 in
theorem tw_491 : (Jvm.Cond.methodLink "CopperNetsLaw" (103 : Nat) ({ cls := "CopperNetsLaw", name := "short2", desc := "(LCopperNets;II[J)I" } : Jvm.MethodName)) ∈ cn_tb := cn_t3 11 rfl rfl
set_option maxRecDepth 20000 in
theorem tw_492 : (Jvm.Cond.static ({ cls := "CopperNetsLaw", name := "short2", desc := "(LCopperNets;II[J)I" } : Jvm.MethodName)) ∈ cn_tb := cn_t3 12 rfl rfl
set_option maxRecDepth 20000 in
theorem tw_493 : (Jvm.Cond.codeWith ({ cls := "CopperNetsLaw", name := "short2", desc := "(LCopperNets;II[J)I" } : Jvm.MethodName) method_10_code (5 : Nat) (Option.some Jvm.ClassFile.FieldType.int) [((0 : Nat), (9 : Nat), (12 : Nat), (13 : Nat))]) ∈ cn_tb := cn_t3 13 rfl rfl
set_option maxRecDepth 20000 in
theorem tw_515 : (Jvm.Cond.methodLink "CopperNetsLaw" (110 : Nat) ({ cls := "CopperNetsLaw", name := "line", desc := "(LCopperNets;III[J)I" } : Jvm.MethodName)) ∈ cn_tb := cn_t3 35 rfl rfl
set_option maxRecDepth 20000 in
theorem tw_516 : (Jvm.Cond.static ({ cls := "CopperNetsLaw", name := "line", desc := "(LCopperNets;III[J)I" } : Jvm.MethodName)) ∈ cn_tb := cn_t3 36 rfl rfl
set_option maxRecDepth 20000 in
theorem tw_517 : (Jvm.Cond.codeWith ({ cls := "CopperNetsLaw", name := "line", desc := "(LCopperNets;III[J)I" } : Jvm.MethodName) method_11_code (6 : Nat) (Option.some Jvm.ClassFile.FieldType.int) [((0 : Nat), (12 : Nat), (15 : Nat), (13 : Nat))]) ∈ cn_tb := cn_t3 37 rfl rfl
set_option maxRecDepth 20000 in
theorem tw_522 : (Jvm.Cond.methodLink "CopperNetsLaw" (113 : Nat) ({ cls := "CopperNetsLaw", name := "drop", desc := "(LCopperNets;I[J)I" } : Jvm.MethodName)) ∈ cn_tb := cn_t3 42 rfl rfl
set_option maxRecDepth 20000 in
theorem tw_523 : (Jvm.Cond.static ({ cls := "CopperNetsLaw", name := "drop", desc := "(LCopperNets;I[J)I" } : Jvm.MethodName)) ∈ cn_tb := cn_t3 43 rfl rfl
set_option maxRecDepth 20000 in
theorem tw_524 : (Jvm.Cond.codeWith ({ cls := "CopperNetsLaw", name := "drop", desc := "(LCopperNets;I[J)I" } : Jvm.MethodName) method_12_code (4 : Nat) (Option.some Jvm.ClassFile.FieldType.int) [((0 : Nat), (16 : Nat), (19 : Nat), (13 : Nat))]) ∈ cn_tb := cn_t3 44 rfl rfl
set_option maxRecDepth 20000 in
theorem tw_609 : (Jvm.Cond.methodLink "CopperNetsLaw" (69 : Nat) ({ cls := "CopperNetsModel", name := "thrown", desc := "()I" } : Jvm.MethodName)) ∈ cn_tb := cn_t3 129 rfl rfl
set_option maxRecDepth 20000 in
theorem tw_610 : (Jvm.Cond.instanceMethod ({ cls := "CopperNetsModel", name := "thrown", desc := "()I" } : Jvm.MethodName)) ∈ cn_tb := cn_t3 130 rfl rfl
set_option maxRecDepth 20000 in
theorem tw_611 : (Jvm.Cond.selects "CopperNetsModel" ({ cls := "CopperNetsModel", name := "thrown", desc := "()I" } : Jvm.MethodName) ({ cls := "CopperNetsModel", name := "thrown", desc := "()I" } : Jvm.MethodName)) ∈ cn_tb := cn_t3 131 rfl rfl
set_option maxRecDepth 20000 in
theorem tw_612 : (Jvm.Cond.code ({ cls := "CopperNetsModel", name := "thrown", desc := "()I" } : Jvm.MethodName) prog_7_method_2_code (1 : Nat) (Option.some Jvm.ClassFile.FieldType.int)) ∈ cn_tb := cn_t3 132 rfl rfl
set_option maxRecDepth 20000 in
theorem tw_613 : (Jvm.Cond.methodLink "CopperNetsLaw" (68 : Nat) ({ cls := "CopperNetsModel", name := "shape", desc := "(IJJJJ)I" } : Jvm.MethodName)) ∈ cn_tb := cn_t3 133 rfl rfl
set_option maxRecDepth 20000 in
theorem tw_614 : (Jvm.Cond.instanceMethod ({ cls := "CopperNetsModel", name := "shape", desc := "(IJJJJ)I" } : Jvm.MethodName)) ∈ cn_tb := cn_t3 134 rfl rfl
set_option maxRecDepth 20000 in
theorem tw_615 : (Jvm.Cond.selects "CopperNetsModel" ({ cls := "CopperNetsModel", name := "shape", desc := "(IJJJJ)I" } : Jvm.MethodName) ({ cls := "CopperNetsModel", name := "shape", desc := "(IJJJJ)I" } : Jvm.MethodName)) ∈ cn_tb := cn_t3 135 rfl rfl
set_option maxRecDepth 20000 in
theorem tw_616 : (Jvm.Cond.code ({ cls := "CopperNetsModel", name := "shape", desc := "(IJJJJ)I" } : Jvm.MethodName) prog_7_method_10_code (11 : Nat) (Option.some Jvm.ClassFile.FieldType.int)) ∈ cn_tb := cn_t3 136 rfl rfl
set_option maxRecDepth 20000 in
theorem tw_633 : (Jvm.Cond.methodLink "CopperNetsLaw" (76 : Nat) ({ cls := "CopperNetsModel", name := "via", desc := "(IIJJJ)I" } : Jvm.MethodName)) ∈ cn_tb := cn_t3 153 rfl rfl
set_option maxRecDepth 20000 in
theorem tw_634 : (Jvm.Cond.instanceMethod ({ cls := "CopperNetsModel", name := "via", desc := "(IIJJJ)I" } : Jvm.MethodName)) ∈ cn_tb := cn_t3 154 rfl rfl
set_option maxRecDepth 20000 in
theorem tw_635 : (Jvm.Cond.selects "CopperNetsModel" ({ cls := "CopperNetsModel", name := "via", desc := "(IIJJJ)I" } : Jvm.MethodName) ({ cls := "CopperNetsModel", name := "via", desc := "(IIJJJ)I" } : Jvm.MethodName)) ∈ cn_tb := cn_t3 155 rfl rfl
set_option maxRecDepth 20000 in
theorem tw_636 : (Jvm.Cond.code ({ cls := "CopperNetsModel", name := "via", desc := "(IIJJJ)I" } : Jvm.MethodName) prog_7_method_11_code (10 : Nat) (Option.some Jvm.ClassFile.FieldType.int)) ∈ cn_tb := cn_t3 156 rfl rfl
set_option maxRecDepth 20000 in
theorem tw_637 : (Jvm.Cond.methodLink "CopperNetsLaw" (79 : Nat) ({ cls := "CopperNetsModel", name := "pad", desc := "(IIJJJ)I" } : Jvm.MethodName)) ∈ cn_tb := cn_t3 157 rfl rfl
set_option maxRecDepth 20000 in
theorem tw_638 : (Jvm.Cond.instanceMethod ({ cls := "CopperNetsModel", name := "pad", desc := "(IIJJJ)I" } : Jvm.MethodName)) ∈ cn_tb := cn_t3 158 rfl rfl
set_option maxRecDepth 20000 in
theorem tw_639 : (Jvm.Cond.selects "CopperNetsModel" ({ cls := "CopperNetsModel", name := "pad", desc := "(IIJJJ)I" } : Jvm.MethodName) ({ cls := "CopperNetsModel", name := "pad", desc := "(IIJJJ)I" } : Jvm.MethodName)) ∈ cn_tb := cn_t3 159 rfl rfl
set_option maxRecDepth 20000 in
theorem tw_640 : (Jvm.Cond.code ({ cls := "CopperNetsModel", name := "pad", desc := "(IIJJJ)I" } : Jvm.MethodName) prog_7_method_12_code (9 : Nat) (Option.some Jvm.ClassFile.FieldType.int)) ∈ cn_tb := cn_t3 160 rfl rfl
set_option maxRecDepth 20000 in
theorem tw_644 : (Jvm.Cond.methodLink "CopperNetsLaw" (83 : Nat) ({ cls := "CopperNetsModel", name := "plans", desc := "(II)Z" } : Jvm.MethodName)) ∈ cn_tb := cn_t3 164 rfl rfl
set_option maxRecDepth 20000 in
theorem tw_645 : (Jvm.Cond.instanceMethod ({ cls := "CopperNetsModel", name := "plans", desc := "(II)Z" } : Jvm.MethodName)) ∈ cn_tb := cn_t3 165 rfl rfl
set_option maxRecDepth 20000 in
theorem tw_646 : (Jvm.Cond.selects "CopperNetsModel" ({ cls := "CopperNetsModel", name := "plans", desc := "(II)Z" } : Jvm.MethodName) ({ cls := "CopperNetsModel", name := "plans", desc := "(II)Z" } : Jvm.MethodName)) ∈ cn_tb := cn_t3 166 rfl rfl
set_option maxRecDepth 20000 in
theorem tw_647 : (Jvm.Cond.code ({ cls := "CopperNetsModel", name := "plans", desc := "(II)Z" } : Jvm.MethodName) prog_7_method_13_code (3 : Nat) (Option.some Jvm.ClassFile.FieldType.boolean)) ∈ cn_tb := cn_t3 167 rfl rfl
set_option maxRecDepth 20000 in
theorem tw_651 : (Jvm.Cond.methodLink "CopperNetsLaw" (115 : Nat) ({ cls := "CopperNetsModel", name := "drop", desc := "(I)Z" } : Jvm.MethodName)) ∈ cn_tb := cn_t3 171 rfl rfl
set_option maxRecDepth 20000 in
theorem tw_652 : (Jvm.Cond.instanceMethod ({ cls := "CopperNetsModel", name := "drop", desc := "(I)Z" } : Jvm.MethodName)) ∈ cn_tb := cn_t3 172 rfl rfl
set_option maxRecDepth 20000 in
theorem tw_653 : (Jvm.Cond.selects "CopperNetsModel" ({ cls := "CopperNetsModel", name := "drop", desc := "(I)Z" } : Jvm.MethodName) ({ cls := "CopperNetsModel", name := "drop", desc := "(I)Z" } : Jvm.MethodName)) ∈ cn_tb := cn_t3 173 rfl rfl
set_option maxRecDepth 20000 in
theorem tw_654 : (Jvm.Cond.code ({ cls := "CopperNetsModel", name := "drop", desc := "(I)Z" } : Jvm.MethodName) prog_7_method_14_code (2 : Nat) (Option.some Jvm.ClassFile.FieldType.boolean)) ∈ cn_tb := cn_t3 174 rfl rfl
set_option maxRecDepth 20000 in
theorem tw_659 : (Jvm.Cond.methodLink "CopperNetsLaw" (87 : Nat) ({ cls := "CopperNetsModel", name := "run", desc := "()I" } : Jvm.MethodName)) ∈ cn_tb := cn_t3 179 rfl rfl
set_option maxRecDepth 20000 in
theorem tw_660 : (Jvm.Cond.instanceMethod ({ cls := "CopperNetsModel", name := "run", desc := "()I" } : Jvm.MethodName)) ∈ cn_tb := cn_t3 180 rfl rfl
set_option maxRecDepth 20000 in
theorem tw_661 : (Jvm.Cond.selects "CopperNetsModel" ({ cls := "CopperNetsModel", name := "run", desc := "()I" } : Jvm.MethodName) ({ cls := "CopperNetsModel", name := "run", desc := "()I" } : Jvm.MethodName)) ∈ cn_tb := cn_t3 181 rfl rfl
set_option maxRecDepth 20000 in
theorem tw_662 : (Jvm.Cond.code ({ cls := "CopperNetsModel", name := "run", desc := "()I" } : Jvm.MethodName) prog_7_method_19_code (1 : Nat) (Option.some Jvm.ClassFile.FieldType.int)) ∈ cn_tb := cn_t3 182 rfl rfl
set_option maxRecDepth 20000 in
theorem tw_678 : (Jvm.Cond.methodLink "CopperNetsLaw" (91 : Nat) ({ cls := "CopperNetsModel", name := "netOf", desc := "(I)I" } : Jvm.MethodName)) ∈ cn_tb := cn_t3 198 rfl rfl
set_option maxRecDepth 20000 in
theorem tw_679 : (Jvm.Cond.instanceMethod ({ cls := "CopperNetsModel", name := "netOf", desc := "(I)I" } : Jvm.MethodName)) ∈ cn_tb := cn_t3 199 rfl rfl
set_option maxRecDepth 20000 in
theorem tw_680 : (Jvm.Cond.selects "CopperNetsModel" ({ cls := "CopperNetsModel", name := "netOf", desc := "(I)I" } : Jvm.MethodName) ({ cls := "CopperNetsModel", name := "netOf", desc := "(I)I" } : Jvm.MethodName)) ∈ cn_tb := cn_t3 200 rfl rfl
set_option maxRecDepth 20000 in
theorem tw_681 : (Jvm.Cond.code ({ cls := "CopperNetsModel", name := "netOf", desc := "(I)I" } : Jvm.MethodName) prog_7_method_20_code (2 : Nat) (Option.some Jvm.ClassFile.FieldType.int)) ∈ cn_tb := cn_t3 201 rfl rfl
set_option maxRecDepth 20000 in
theorem tw_682 : (Jvm.Cond.methodLink "CopperNetsLaw" (94 : Nat) ({ cls := "CopperNetsModel", name := "opens", desc := "(I)I" } : Jvm.MethodName)) ∈ cn_tb := cn_t3 202 rfl rfl
set_option maxRecDepth 20000 in
theorem tw_683 : (Jvm.Cond.instanceMethod ({ cls := "CopperNetsModel", name := "opens", desc := "(I)I" } : Jvm.MethodName)) ∈ cn_tb := cn_t3 203 rfl rfl
set_option maxRecDepth 20000 in
theorem tw_684 : (Jvm.Cond.selects "CopperNetsModel" ({ cls := "CopperNetsModel", name := "opens", desc := "(I)I" } : Jvm.MethodName) ({ cls := "CopperNetsModel", name := "opens", desc := "(I)I" } : Jvm.MethodName)) ∈ cn_tb := cn_t3 204 rfl rfl
set_option maxRecDepth 20000 in
theorem tw_685 : (Jvm.Cond.code ({ cls := "CopperNetsModel", name := "opens", desc := "(I)I" } : Jvm.MethodName) prog_7_method_28_code (2 : Nat) (Option.some Jvm.ClassFile.FieldType.int)) ∈ cn_tb := cn_t3 205 rfl rfl
set_option maxRecDepth 20000 in
theorem tw_698 : (Jvm.Cond.methodLink "CopperNetsLaw" (98 : Nat) ({ cls := "CopperNetsModel", name := "open", desc := "(III)J" } : Jvm.MethodName)) ∈ cn_tb := cn_t3 218 rfl rfl
set_option maxRecDepth 20000 in
theorem tw_699 : (Jvm.Cond.instanceMethod ({ cls := "CopperNetsModel", name := "open", desc := "(III)J" } : Jvm.MethodName)) ∈ cn_tb := cn_t3 219 rfl rfl
set_option maxRecDepth 20000 in
theorem tw_700 : (Jvm.Cond.selects "CopperNetsModel" ({ cls := "CopperNetsModel", name := "open", desc := "(III)J" } : Jvm.MethodName) ({ cls := "CopperNetsModel", name := "open", desc := "(III)J" } : Jvm.MethodName)) ∈ cn_tb := cn_t3 220 rfl rfl
set_option maxRecDepth 20000 in
theorem tw_701 : (Jvm.Cond.code ({ cls := "CopperNetsModel", name := "open", desc := "(III)J" } : Jvm.MethodName) prog_7_method_29_code (5 : Nat) (Option.some Jvm.ClassFile.FieldType.long)) ∈ cn_tb := cn_t3 221 rfl rfl
set_option maxRecDepth 20000 in
theorem tw_706 : (Jvm.Cond.methodLink "CopperNetsLaw" (112 : Nat) ({ cls := "CopperNetsModel", name := "line", desc := "(III)I" } : Jvm.MethodName)) ∈ cn_tb := cn_t3 226 rfl rfl
set_option maxRecDepth 20000 in
theorem tw_707 : (Jvm.Cond.instanceMethod ({ cls := "CopperNetsModel", name := "line", desc := "(III)I" } : Jvm.MethodName)) ∈ cn_tb := cn_t3 227 rfl rfl
set_option maxRecDepth 20000 in
theorem tw_708 : (Jvm.Cond.selects "CopperNetsModel" ({ cls := "CopperNetsModel", name := "line", desc := "(III)I" } : Jvm.MethodName) ({ cls := "CopperNetsModel", name := "line", desc := "(III)I" } : Jvm.MethodName)) ∈ cn_tb := cn_t3 228 rfl rfl
set_option maxRecDepth 20000 in
theorem tw_709 : (Jvm.Cond.code ({ cls := "CopperNetsModel", name := "line", desc := "(III)I" } : Jvm.MethodName) prog_7_method_30_code (4 : Nat) (Option.some Jvm.ClassFile.FieldType.int)) ∈ cn_tb := cn_t3 229 rfl rfl
set_option maxRecDepth 20000 in
theorem tw_710 : (Jvm.Cond.methodLink "CopperNetsLaw" (102 : Nat) ({ cls := "CopperNetsModel", name := "shorts", desc := "()I" } : Jvm.MethodName)) ∈ cn_tb := cn_t3 230 rfl rfl
set_option maxRecDepth 20000 in
theorem tw_711 : (Jvm.Cond.instanceMethod ({ cls := "CopperNetsModel", name := "shorts", desc := "()I" } : Jvm.MethodName)) ∈ cn_tb := cn_t3 231 rfl rfl
set_option maxRecDepth 20000 in
theorem tw_712 : (Jvm.Cond.selects "CopperNetsModel" ({ cls := "CopperNetsModel", name := "shorts", desc := "()I" } : Jvm.MethodName) ({ cls := "CopperNetsModel", name := "shorts", desc := "()I" } : Jvm.MethodName)) ∈ cn_tb := cn_t3 232 rfl rfl
set_option maxRecDepth 20000 in
theorem tw_713 : (Jvm.Cond.code ({ cls := "CopperNetsModel", name := "shorts", desc := "()I" } : Jvm.MethodName) prog_7_method_32_code (1 : Nat) (Option.some Jvm.ClassFile.FieldType.int)) ∈ cn_tb := cn_t3 233 rfl rfl
set_option maxRecDepth 20000 in
theorem tw_725 : (Jvm.Cond.methodLink "CopperNetsLaw" (105 : Nat) ({ cls := "CopperNetsModel", name := "short2", desc := "(II)J" } : Jvm.MethodName)) ∈ cn_tb := cn_t4 5 rfl rfl
set_option maxRecDepth 20000 in
theorem tw_726 : (Jvm.Cond.instanceMethod ({ cls := "CopperNetsModel", name := "short2", desc := "(II)J" } : Jvm.MethodName)) ∈ cn_tb := cn_t4 6 rfl rfl
set_option maxRecDepth 20000 in
theorem tw_727 : (Jvm.Cond.selects "CopperNetsModel" ({ cls := "CopperNetsModel", name := "short2", desc := "(II)J" } : Jvm.MethodName) ({ cls := "CopperNetsModel", name := "short2", desc := "(II)J" } : Jvm.MethodName)) ∈ cn_tb := cn_t4 7 rfl rfl
set_option maxRecDepth 20000 in
theorem tw_728 : (Jvm.Cond.code ({ cls := "CopperNetsModel", name := "short2", desc := "(II)J" } : Jvm.MethodName) prog_7_method_36_code (5 : Nat) (Option.some Jvm.ClassFile.FieldType.long)) ∈ cn_tb := cn_t4 8 rfl rfl
set_option maxRecDepth 20000 in
theorem tw_744 : (Jvm.Cond.methodLink "CopperNetsLaw" (109 : Nat) ({ cls := "CopperNetsModel", name := "unnamed", desc := "(I)I" } : Jvm.MethodName)) ∈ cn_tb := cn_t4 24 rfl rfl
set_option maxRecDepth 20000 in
theorem tw_745 : (Jvm.Cond.instanceMethod ({ cls := "CopperNetsModel", name := "unnamed", desc := "(I)I" } : Jvm.MethodName)) ∈ cn_tb := cn_t4 25 rfl rfl
set_option maxRecDepth 20000 in
theorem tw_746 : (Jvm.Cond.selects "CopperNetsModel" ({ cls := "CopperNetsModel", name := "unnamed", desc := "(I)I" } : Jvm.MethodName) ({ cls := "CopperNetsModel", name := "unnamed", desc := "(I)I" } : Jvm.MethodName)) ∈ cn_tb := cn_t4 26 rfl rfl
set_option maxRecDepth 20000 in
theorem tw_747 : (Jvm.Cond.code ({ cls := "CopperNetsModel", name := "unnamed", desc := "(I)I" } : Jvm.MethodName) prog_7_method_37_code (4 : Nat) (Option.some Jvm.ClassFile.FieldType.int)) ∈ cn_tb := cn_t4 27 rfl rfl
set_option maxRecDepth 20000 in
theorem tw_748 : (Jvm.Cond.methodLink "CopperNetsLaw" (124 : Nat) ({ cls := "CopperNetsModel", name := "unreached", desc := "(I)I" } : Jvm.MethodName)) ∈ cn_tb := cn_t4 28 rfl rfl
set_option maxRecDepth 20000 in
theorem tw_749 : (Jvm.Cond.instanceMethod ({ cls := "CopperNetsModel", name := "unreached", desc := "(I)I" } : Jvm.MethodName)) ∈ cn_tb := cn_t4 29 rfl rfl
set_option maxRecDepth 20000 in
theorem tw_750 : (Jvm.Cond.selects "CopperNetsModel" ({ cls := "CopperNetsModel", name := "unreached", desc := "(I)I" } : Jvm.MethodName) ({ cls := "CopperNetsModel", name := "unreached", desc := "(I)I" } : Jvm.MethodName)) ∈ cn_tb := cn_t4 30 rfl rfl
set_option maxRecDepth 20000 in
theorem tw_751 : (Jvm.Cond.code ({ cls := "CopperNetsModel", name := "unreached", desc := "(I)I" } : Jvm.MethodName) prog_7_method_40_code (2 : Nat) (Option.some Jvm.ClassFile.FieldType.int)) ∈ cn_tb := cn_t4 31 rfl rfl
set_option maxRecDepth 20000 in
theorem tw_760 : (Jvm.Cond.methodLink "CopperNetsLaw" (120 : Nat) ({ cls := "CopperNetsModel", name := "same", desc := "()Z" } : Jvm.MethodName)) ∈ cn_tb := cn_t4 40 rfl rfl
set_option maxRecDepth 20000 in
theorem tw_761 : (Jvm.Cond.instanceMethod ({ cls := "CopperNetsModel", name := "same", desc := "()Z" } : Jvm.MethodName)) ∈ cn_tb := cn_t4 41 rfl rfl
set_option maxRecDepth 20000 in
theorem tw_762 : (Jvm.Cond.selects "CopperNetsModel" ({ cls := "CopperNetsModel", name := "same", desc := "()Z" } : Jvm.MethodName) ({ cls := "CopperNetsModel", name := "same", desc := "()Z" } : Jvm.MethodName)) ∈ cn_tb := cn_t4 42 rfl rfl
set_option maxRecDepth 20000 in
theorem tw_763 : (Jvm.Cond.code ({ cls := "CopperNetsModel", name := "same", desc := "()Z" } : Jvm.MethodName) prog_7_method_41_code (1 : Nat) (Option.some Jvm.ClassFile.FieldType.boolean)) ∈ cn_tb := cn_t4 43 rfl rfl
set_option maxRecDepth 20000 in
theorem tw_764 : (Jvm.Cond.methodLink "CopperNetsLaw" (128 : Nat) ({ cls := "CopperNetsModel", name := "exact", desc := "()Z" } : Jvm.MethodName)) ∈ cn_tb := cn_t4 44 rfl rfl
set_option maxRecDepth 20000 in
theorem tw_765 : (Jvm.Cond.instanceMethod ({ cls := "CopperNetsModel", name := "exact", desc := "()Z" } : Jvm.MethodName)) ∈ cn_tb := cn_t4 45 rfl rfl
set_option maxRecDepth 20000 in
theorem tw_766 : (Jvm.Cond.selects "CopperNetsModel" ({ cls := "CopperNetsModel", name := "exact", desc := "()Z" } : Jvm.MethodName) ({ cls := "CopperNetsModel", name := "exact", desc := "()Z" } : Jvm.MethodName)) ∈ cn_tb := cn_t4 46 rfl rfl
set_option maxRecDepth 20000 in
theorem tw_767 : (Jvm.Cond.code ({ cls := "CopperNetsModel", name := "exact", desc := "()Z" } : Jvm.MethodName) prog_7_method_42_code (3 : Nat) (Option.some Jvm.ClassFile.FieldType.boolean)) ∈ cn_tb := cn_t4 47 rfl rfl
set_option maxRecDepth 20000 in
theorem tw_768 : (Jvm.Cond.constantLong "CopperNetsLaw" (63 : Nat) (4294967295 : Int64)) ∈ cn_tb := cn_t4 48 rfl rfl
theorem d_law_33 : decode b_law 33 = .ok (.iload 4, 2) := by decide +kernel
theorem d_law_35 : decode b_law 35 = .ok (.aload_n 0, 1) := by decide +kernel
theorem d_law_36 : decode b_law 36 = .ok (.arraylength, 1) := by decide +kernel
theorem d_law_37 : decode b_law 37 = .ok (.bipush 10, 2) := by decide +kernel
theorem d_law_39 : decode b_law 39 = .ok (.isub, 1) := by decide +kernel
theorem d_law_40 : decode b_law 40 = .ok (.if_icmp .gt 1324, 3) := by decide +kernel
theorem d_law_43 : decode b_law 43 = .ok (.aload_n 0, 1) := by decide +kernel
theorem d_law_44 : decode b_law 44 = .ok (.iload 4, 2) := by decide +kernel
theorem d_law_46 : decode b_law 46 = .ok (.iaload, 1) := by decide +kernel
theorem d_law_47 : decode b_law 47 = .ok (.bipush 15, 2) := by decide +kernel
theorem d_law_49 : decode b_law 49 = .ok (.iand, 1) := by decide +kernel
theorem d_law_50 : decode b_law 50 = .ok (.tableswitch 1308 0 15 #[78, 318, 524, 730, 805, 818, 874, 930, 1009, 1022, 1089, 1114, 1194, 1257, 1270, 1295], 78) := by decide +kernel
theorem d_law_128 : decode b_law 128 = .ok (.aload_n 1, 1) := by decide +kernel
theorem d_law_129 : decode b_law 129 = .ok (.aload_n 0, 1) := by decide +kernel
theorem d_law_130 : decode b_law 130 = .ok (.iload 4, 2) := by decide +kernel
theorem d_law_132 : decode b_law 132 = .ok (.iconst 1, 1) := by decide +kernel
theorem d_law_133 : decode b_law 133 = .ok (.iadd, 1) := by decide +kernel
theorem d_law_134 : decode b_law 134 = .ok (.iaload, 1) := by decide +kernel
theorem d_law_135 : decode b_law 135 = .ok (.aload_n 0, 1) := by decide +kernel
theorem d_law_136 : decode b_law 136 = .ok (.iload 4, 2) := by decide +kernel
theorem d_law_138 : decode b_law 138 = .ok (.iconst 2, 1) := by decide +kernel
theorem d_law_139 : decode b_law 139 = .ok (.iadd, 1) := by decide +kernel
theorem d_law_140 : decode b_law 140 = .ok (.iaload, 1) := by decide +kernel
theorem d_law_141 : decode b_law 141 = .ok (.i2l, 1) := by decide +kernel
theorem d_law_142 : decode b_law 142 = .ok (.bipush 32, 2) := by decide +kernel
theorem d_law_144 : decode b_law 144 = .ok (.lshl, 1) := by decide +kernel
theorem d_law_145 : decode b_law 145 = .ok (.aload_n 0, 1) := by decide +kernel
theorem d_law_146 : decode b_law 146 = .ok (.iload 4, 2) := by decide +kernel
theorem d_law_148 : decode b_law 148 = .ok (.iconst 3, 1) := by decide +kernel
theorem d_law_149 : decode b_law 149 = .ok (.iadd, 1) := by decide +kernel
theorem d_law_150 : decode b_law 150 = .ok (.iaload, 1) := by decide +kernel
theorem d_law_151 : decode b_law 151 = .ok (.i2l, 1) := by decide +kernel
theorem d_law_152 : decode b_law 152 = .ok (.ldc2_w 63, 3) := by decide +kernel
theorem d_law_155 : decode b_law 155 = .ok (.land, 1) := by decide +kernel
theorem d_law_156 : decode b_law 156 = .ok (.lor, 1) := by decide +kernel
theorem d_law_157 : decode b_law 157 = .ok (.aload_n 0, 1) := by decide +kernel
theorem d_law_158 : decode b_law 158 = .ok (.iload 4, 2) := by decide +kernel
theorem d_law_160 : decode b_law 160 = .ok (.iconst 4, 1) := by decide +kernel
theorem d_law_161 : decode b_law 161 = .ok (.iadd, 1) := by decide +kernel
theorem d_law_162 : decode b_law 162 = .ok (.iaload, 1) := by decide +kernel
theorem d_law_163 : decode b_law 163 = .ok (.i2l, 1) := by decide +kernel
theorem d_law_164 : decode b_law 164 = .ok (.bipush 32, 2) := by decide +kernel
theorem d_law_166 : decode b_law 166 = .ok (.lshl, 1) := by decide +kernel
theorem d_law_167 : decode b_law 167 = .ok (.aload_n 0, 1) := by decide +kernel
theorem d_law_168 : decode b_law 168 = .ok (.iload 4, 2) := by decide +kernel
theorem d_law_170 : decode b_law 170 = .ok (.iconst 5, 1) := by decide +kernel
theorem d_law_171 : decode b_law 171 = .ok (.iadd, 1) := by decide +kernel
theorem d_law_172 : decode b_law 172 = .ok (.iaload, 1) := by decide +kernel
theorem d_law_173 : decode b_law 173 = .ok (.i2l, 1) := by decide +kernel
theorem d_law_174 : decode b_law 174 = .ok (.ldc2_w 63, 3) := by decide +kernel
theorem d_law_177 : decode b_law 177 = .ok (.land, 1) := by decide +kernel
theorem d_law_178 : decode b_law 178 = .ok (.lor, 1) := by decide +kernel
theorem d_law_179 : decode b_law 179 = .ok (.aload_n 0, 1) := by decide +kernel
theorem d_law_180 : decode b_law 180 = .ok (.iload 4, 2) := by decide +kernel
theorem d_law_182 : decode b_law 182 = .ok (.bipush 6, 2) := by decide +kernel
theorem d_law_184 : decode b_law 184 = .ok (.iadd, 1) := by decide +kernel
theorem d_law_185 : decode b_law 185 = .ok (.iaload, 1) := by decide +kernel
theorem d_law_186 : decode b_law 186 = .ok (.i2l, 1) := by decide +kernel
theorem d_law_187 : decode b_law 187 = .ok (.bipush 32, 2) := by decide +kernel
theorem d_law_189 : decode b_law 189 = .ok (.lshl, 1) := by decide +kernel
theorem d_law_190 : decode b_law 190 = .ok (.aload_n 0, 1) := by decide +kernel
theorem d_law_191 : decode b_law 191 = .ok (.iload 4, 2) := by decide +kernel
theorem d_law_193 : decode b_law 193 = .ok (.bipush 7, 2) := by decide +kernel
theorem d_law_195 : decode b_law 195 = .ok (.iadd, 1) := by decide +kernel
theorem d_law_196 : decode b_law 196 = .ok (.iaload, 1) := by decide +kernel
theorem d_law_197 : decode b_law 197 = .ok (.i2l, 1) := by decide +kernel
theorem d_law_198 : decode b_law 198 = .ok (.ldc2_w 63, 3) := by decide +kernel
theorem d_law_201 : decode b_law 201 = .ok (.land, 1) := by decide +kernel
theorem d_law_202 : decode b_law 202 = .ok (.lor, 1) := by decide +kernel
theorem d_law_203 : decode b_law 203 = .ok (.aload_n 0, 1) := by decide +kernel
theorem d_law_204 : decode b_law 204 = .ok (.iload 4, 2) := by decide +kernel
theorem d_law_206 : decode b_law 206 = .ok (.bipush 8, 2) := by decide +kernel
theorem d_law_208 : decode b_law 208 = .ok (.iadd, 1) := by decide +kernel
theorem d_law_209 : decode b_law 209 = .ok (.iaload, 1) := by decide +kernel
theorem d_law_210 : decode b_law 210 = .ok (.i2l, 1) := by decide +kernel
theorem d_law_211 : decode b_law 211 = .ok (.bipush 32, 2) := by decide +kernel
theorem d_law_213 : decode b_law 213 = .ok (.lshl, 1) := by decide +kernel
theorem d_law_214 : decode b_law 214 = .ok (.aload_n 0, 1) := by decide +kernel
theorem d_law_215 : decode b_law 215 = .ok (.iload 4, 2) := by decide +kernel
theorem d_law_217 : decode b_law 217 = .ok (.bipush 9, 2) := by decide +kernel
theorem d_law_219 : decode b_law 219 = .ok (.iadd, 1) := by decide +kernel
theorem d_law_220 : decode b_law 220 = .ok (.iaload, 1) := by decide +kernel
theorem d_law_221 : decode b_law 221 = .ok (.i2l, 1) := by decide +kernel
theorem d_law_222 : decode b_law 222 = .ok (.ldc2_w 63, 3) := by decide +kernel
theorem d_law_225 : decode b_law 225 = .ok (.land, 1) := by decide +kernel
theorem d_law_226 : decode b_law 226 = .ok (.lor, 1) := by decide +kernel
theorem d_law_227 : decode b_law 227 = .ok (.aload_n 3, 1) := by decide +kernel
theorem d_law_228 : decode b_law 228 = .ok (.invokestatic 65, 3) := by decide +kernel
theorem d_law_231 : decode b_law 231 = .ok (.istore 5, 2) := by decide +kernel
theorem d_law_233 : decode b_law 233 = .ok (.aload_n 2, 1) := by decide +kernel
theorem d_law_234 : decode b_law 234 = .ok (.aload_n 0, 1) := by decide +kernel
theorem d_law_235 : decode b_law 235 = .ok (.iload 4, 2) := by decide +kernel
theorem d_law_237 : decode b_law 237 = .ok (.iconst 1, 1) := by decide +kernel
theorem d_law_238 : decode b_law 238 = .ok (.iadd, 1) := by decide +kernel
theorem d_law_239 : decode b_law 239 = .ok (.iaload, 1) := by decide +kernel
theorem d_law_240 : decode b_law 240 = .ok (.aload_n 0, 1) := by decide +kernel
theorem d_law_241 : decode b_law 241 = .ok (.iload 4, 2) := by decide +kernel
theorem d_law_243 : decode b_law 243 = .ok (.iconst 2, 1) := by decide +kernel
theorem d_law_244 : decode b_law 244 = .ok (.iadd, 1) := by decide +kernel
theorem d_law_245 : decode b_law 245 = .ok (.iaload, 1) := by decide +kernel
theorem d_law_246 : decode b_law 246 = .ok (.i2l, 1) := by decide +kernel
theorem d_law_247 : decode b_law 247 = .ok (.bipush 32, 2) := by decide +kernel
theorem d_law_249 : decode b_law 249 = .ok (.lshl, 1) := by decide +kernel
theorem d_law_250 : decode b_law 250 = .ok (.aload_n 0, 1) := by decide +kernel
theorem d_law_251 : decode b_law 251 = .ok (.iload 4, 2) := by decide +kernel
theorem d_law_253 : decode b_law 253 = .ok (.iconst 3, 1) := by decide +kernel
theorem d_law_254 : decode b_law 254 = .ok (.iadd, 1) := by decide +kernel
theorem d_law_255 : decode b_law 255 = .ok (.iaload, 1) := by decide +kernel
theorem d_law_256 : decode b_law 256 = .ok (.i2l, 1) := by decide +kernel
theorem d_law_257 : decode b_law 257 = .ok (.ldc2_w 63, 3) := by decide +kernel
theorem d_law_260 : decode b_law 260 = .ok (.land, 1) := by decide +kernel
theorem d_law_261 : decode b_law 261 = .ok (.lor, 1) := by decide +kernel
theorem d_law_262 : decode b_law 262 = .ok (.aload_n 0, 1) := by decide +kernel
theorem d_law_263 : decode b_law 263 = .ok (.iload 4, 2) := by decide +kernel
theorem d_law_265 : decode b_law 265 = .ok (.iconst 4, 1) := by decide +kernel
theorem d_law_266 : decode b_law 266 = .ok (.iadd, 1) := by decide +kernel
theorem d_law_267 : decode b_law 267 = .ok (.iaload, 1) := by decide +kernel
theorem d_law_268 : decode b_law 268 = .ok (.i2l, 1) := by decide +kernel
theorem d_law_269 : decode b_law 269 = .ok (.bipush 32, 2) := by decide +kernel
theorem d_law_271 : decode b_law 271 = .ok (.lshl, 1) := by decide +kernel
theorem d_law_272 : decode b_law 272 = .ok (.aload_n 0, 1) := by decide +kernel
theorem d_law_273 : decode b_law 273 = .ok (.iload 4, 2) := by decide +kernel
theorem d_law_275 : decode b_law 275 = .ok (.iconst 5, 1) := by decide +kernel
theorem d_law_276 : decode b_law 276 = .ok (.iadd, 1) := by decide +kernel
theorem d_law_277 : decode b_law 277 = .ok (.iaload, 1) := by decide +kernel
theorem d_law_278 : decode b_law 278 = .ok (.i2l, 1) := by decide +kernel
theorem d_law_279 : decode b_law 279 = .ok (.ldc2_w 63, 3) := by decide +kernel
theorem d_law_282 : decode b_law 282 = .ok (.land, 1) := by decide +kernel
theorem d_law_283 : decode b_law 283 = .ok (.lor, 1) := by decide +kernel
theorem d_law_284 : decode b_law 284 = .ok (.aload_n 0, 1) := by decide +kernel
theorem d_law_285 : decode b_law 285 = .ok (.iload 4, 2) := by decide +kernel
theorem d_law_287 : decode b_law 287 = .ok (.bipush 6, 2) := by decide +kernel
theorem d_law_289 : decode b_law 289 = .ok (.iadd, 1) := by decide +kernel
theorem d_law_290 : decode b_law 290 = .ok (.iaload, 1) := by decide +kernel
theorem d_law_291 : decode b_law 291 = .ok (.i2l, 1) := by decide +kernel
theorem d_law_292 : decode b_law 292 = .ok (.bipush 32, 2) := by decide +kernel
theorem d_law_294 : decode b_law 294 = .ok (.lshl, 1) := by decide +kernel
theorem d_law_295 : decode b_law 295 = .ok (.aload_n 0, 1) := by decide +kernel
theorem d_law_296 : decode b_law 296 = .ok (.iload 4, 2) := by decide +kernel
theorem d_law_298 : decode b_law 298 = .ok (.bipush 7, 2) := by decide +kernel
theorem d_law_300 : decode b_law 300 = .ok (.iadd, 1) := by decide +kernel
theorem d_law_301 : decode b_law 301 = .ok (.iaload, 1) := by decide +kernel
theorem d_law_302 : decode b_law 302 = .ok (.i2l, 1) := by decide +kernel
theorem d_law_303 : decode b_law 303 = .ok (.ldc2_w 63, 3) := by decide +kernel
theorem d_law_306 : decode b_law 306 = .ok (.land, 1) := by decide +kernel
theorem d_law_307 : decode b_law 307 = .ok (.lor, 1) := by decide +kernel
theorem d_law_308 : decode b_law 308 = .ok (.aload_n 0, 1) := by decide +kernel
theorem d_law_309 : decode b_law 309 = .ok (.iload 4, 2) := by decide +kernel
theorem d_law_311 : decode b_law 311 = .ok (.bipush 8, 2) := by decide +kernel
theorem d_law_313 : decode b_law 313 = .ok (.iadd, 1) := by decide +kernel
theorem d_law_314 : decode b_law 314 = .ok (.iaload, 1) := by decide +kernel
theorem d_law_315 : decode b_law 315 = .ok (.i2l, 1) := by decide +kernel
theorem d_law_316 : decode b_law 316 = .ok (.bipush 32, 2) := by decide +kernel
theorem d_law_318 : decode b_law 318 = .ok (.lshl, 1) := by decide +kernel
theorem d_law_319 : decode b_law 319 = .ok (.aload_n 0, 1) := by decide +kernel
theorem d_law_320 : decode b_law 320 = .ok (.iload 4, 2) := by decide +kernel
theorem d_law_322 : decode b_law 322 = .ok (.bipush 9, 2) := by decide +kernel
theorem d_law_324 : decode b_law 324 = .ok (.iadd, 1) := by decide +kernel
theorem d_law_325 : decode b_law 325 = .ok (.iaload, 1) := by decide +kernel
theorem d_law_326 : decode b_law 326 = .ok (.i2l, 1) := by decide +kernel
theorem d_law_327 : decode b_law 327 = .ok (.ldc2_w 63, 3) := by decide +kernel
theorem d_law_330 : decode b_law 330 = .ok (.land, 1) := by decide +kernel
theorem d_law_331 : decode b_law 331 = .ok (.lor, 1) := by decide +kernel
theorem d_law_332 : decode b_law 332 = .ok (.invokevirtual 68, 3) := by decide +kernel
theorem d_law_335 : decode b_law 335 = .ok (.istore 6, 2) := by decide +kernel
theorem d_law_337 : decode b_law 337 = .ok (.aload_n 2, 1) := by decide +kernel
theorem d_law_338 : decode b_law 338 = .ok (.invokevirtual 69, 3) := by decide +kernel
theorem d_law_341 : decode b_law 341 = .ok (.iload 5, 2) := by decide +kernel
theorem d_law_343 : decode b_law 343 = .ok (.if_icmp .eq 5, 3) := by decide +kernel
theorem d_law_346 : decode b_law 346 = .ok (.iconst 0, 1) := by decide +kernel
theorem d_law_347 : decode b_law 347 = .ok (.ireturn, 1) := by decide +kernel
theorem d_law_348 : decode b_law 348 = .ok (.iload 5, 2) := by decide +kernel
theorem d_law_350 : decode b_law 350 = .ok (.ifCond .ne 15, 3) := by decide +kernel
theorem d_law_353 : decode b_law 353 = .ok (.aload_n 3, 1) := by decide +kernel
theorem d_law_354 : decode b_law 354 = .ok (.iconst 0, 1) := by decide +kernel
theorem d_law_355 : decode b_law 355 = .ok (.laload, 1) := by decide +kernel
theorem d_law_356 : decode b_law 356 = .ok (.iload 6, 2) := by decide +kernel
theorem d_law_358 : decode b_law 358 = .ok (.i2l, 1) := by decide +kernel
theorem d_law_359 : decode b_law 359 = .ok (.lcmp, 1) := by decide +kernel
theorem d_law_360 : decode b_law 360 = .ok (.ifCond .eq 5, 3) := by decide +kernel
theorem d_law_363 : decode b_law 363 = .ok (.iconst 0, 1) := by decide +kernel
theorem d_law_364 : decode b_law 364 = .ok (.ireturn, 1) := by decide +kernel
theorem d_law_365 : decode b_law 365 = .ok (.goto 993, 3) := by decide +kernel
theorem d_law_368 : decode b_law 368 = .ok (.aload_n 1, 1) := by decide +kernel
theorem d_law_369 : decode b_law 369 = .ok (.aload_n 0, 1) := by decide +kernel
theorem d_law_370 : decode b_law 370 = .ok (.iload 4, 2) := by decide +kernel
theorem d_law_372 : decode b_law 372 = .ok (.iconst 1, 1) := by decide +kernel
theorem d_law_373 : decode b_law 373 = .ok (.iadd, 1) := by decide +kernel
theorem d_law_374 : decode b_law 374 = .ok (.iaload, 1) := by decide +kernel
theorem d_law_375 : decode b_law 375 = .ok (.aload_n 0, 1) := by decide +kernel
theorem d_law_376 : decode b_law 376 = .ok (.iload 4, 2) := by decide +kernel
theorem d_law_378 : decode b_law 378 = .ok (.iconst 2, 1) := by decide +kernel
theorem d_law_379 : decode b_law 379 = .ok (.iadd, 1) := by decide +kernel
theorem d_law_380 : decode b_law 380 = .ok (.iaload, 1) := by decide +kernel
theorem d_law_381 : decode b_law 381 = .ok (.aload_n 0, 1) := by decide +kernel
theorem d_law_382 : decode b_law 382 = .ok (.iload 4, 2) := by decide +kernel
theorem d_law_384 : decode b_law 384 = .ok (.iconst 3, 1) := by decide +kernel
theorem d_law_385 : decode b_law 385 = .ok (.iadd, 1) := by decide +kernel
theorem d_law_386 : decode b_law 386 = .ok (.iaload, 1) := by decide +kernel
theorem d_law_387 : decode b_law 387 = .ok (.i2l, 1) := by decide +kernel
theorem d_law_388 : decode b_law 388 = .ok (.bipush 32, 2) := by decide +kernel
theorem d_law_390 : decode b_law 390 = .ok (.lshl, 1) := by decide +kernel
theorem d_law_391 : decode b_law 391 = .ok (.aload_n 0, 1) := by decide +kernel
theorem d_law_392 : decode b_law 392 = .ok (.iload 4, 2) := by decide +kernel
theorem d_law_394 : decode b_law 394 = .ok (.iconst 4, 1) := by decide +kernel
theorem d_law_395 : decode b_law 395 = .ok (.iadd, 1) := by decide +kernel
theorem d_law_396 : decode b_law 396 = .ok (.iaload, 1) := by decide +kernel
theorem d_law_397 : decode b_law 397 = .ok (.i2l, 1) := by decide +kernel
theorem d_law_398 : decode b_law 398 = .ok (.ldc2_w 63, 3) := by decide +kernel
theorem d_law_401 : decode b_law 401 = .ok (.land, 1) := by decide +kernel
theorem d_law_402 : decode b_law 402 = .ok (.lor, 1) := by decide +kernel
theorem d_law_403 : decode b_law 403 = .ok (.aload_n 0, 1) := by decide +kernel
theorem d_law_404 : decode b_law 404 = .ok (.iload 4, 2) := by decide +kernel
theorem d_law_406 : decode b_law 406 = .ok (.iconst 5, 1) := by decide +kernel
theorem d_law_407 : decode b_law 407 = .ok (.iadd, 1) := by decide +kernel
theorem d_law_408 : decode b_law 408 = .ok (.iaload, 1) := by decide +kernel
theorem d_law_409 : decode b_law 409 = .ok (.i2l, 1) := by decide +kernel
theorem d_law_410 : decode b_law 410 = .ok (.bipush 32, 2) := by decide +kernel
theorem d_law_412 : decode b_law 412 = .ok (.lshl, 1) := by decide +kernel
theorem d_law_413 : decode b_law 413 = .ok (.aload_n 0, 1) := by decide +kernel
theorem d_law_414 : decode b_law 414 = .ok (.iload 4, 2) := by decide +kernel
theorem d_law_416 : decode b_law 416 = .ok (.bipush 6, 2) := by decide +kernel
theorem d_law_418 : decode b_law 418 = .ok (.iadd, 1) := by decide +kernel
theorem d_law_419 : decode b_law 419 = .ok (.iaload, 1) := by decide +kernel
theorem d_law_420 : decode b_law 420 = .ok (.i2l, 1) := by decide +kernel
theorem d_law_421 : decode b_law 421 = .ok (.ldc2_w 63, 3) := by decide +kernel
theorem d_law_424 : decode b_law 424 = .ok (.land, 1) := by decide +kernel
theorem d_law_425 : decode b_law 425 = .ok (.lor, 1) := by decide +kernel
theorem d_law_426 : decode b_law 426 = .ok (.aload_n 0, 1) := by decide +kernel
theorem d_law_427 : decode b_law 427 = .ok (.iload 4, 2) := by decide +kernel
theorem d_law_429 : decode b_law 429 = .ok (.bipush 7, 2) := by decide +kernel
theorem d_law_431 : decode b_law 431 = .ok (.iadd, 1) := by decide +kernel
theorem d_law_432 : decode b_law 432 = .ok (.iaload, 1) := by decide +kernel
theorem d_law_433 : decode b_law 433 = .ok (.i2l, 1) := by decide +kernel
theorem d_law_434 : decode b_law 434 = .ok (.bipush 32, 2) := by decide +kernel
theorem d_law_436 : decode b_law 436 = .ok (.lshl, 1) := by decide +kernel
theorem d_law_437 : decode b_law 437 = .ok (.aload_n 0, 1) := by decide +kernel
theorem d_law_438 : decode b_law 438 = .ok (.iload 4, 2) := by decide +kernel
theorem d_law_440 : decode b_law 440 = .ok (.bipush 8, 2) := by decide +kernel
theorem d_law_442 : decode b_law 442 = .ok (.iadd, 1) := by decide +kernel
theorem d_law_443 : decode b_law 443 = .ok (.iaload, 1) := by decide +kernel
theorem d_law_444 : decode b_law 444 = .ok (.i2l, 1) := by decide +kernel
theorem d_law_445 : decode b_law 445 = .ok (.ldc2_w 63, 3) := by decide +kernel
theorem d_law_448 : decode b_law 448 = .ok (.land, 1) := by decide +kernel
theorem d_law_449 : decode b_law 449 = .ok (.lor, 1) := by decide +kernel
theorem d_law_450 : decode b_law 450 = .ok (.aload_n 3, 1) := by decide +kernel
theorem d_law_451 : decode b_law 451 = .ok (.invokestatic 73, 3) := by decide +kernel
theorem d_law_454 : decode b_law 454 = .ok (.istore 5, 2) := by decide +kernel
theorem d_law_456 : decode b_law 456 = .ok (.aload_n 2, 1) := by decide +kernel
theorem d_law_457 : decode b_law 457 = .ok (.aload_n 0, 1) := by decide +kernel
theorem d_law_458 : decode b_law 458 = .ok (.iload 4, 2) := by decide +kernel
theorem d_law_460 : decode b_law 460 = .ok (.iconst 1, 1) := by decide +kernel
theorem d_law_461 : decode b_law 461 = .ok (.iadd, 1) := by decide +kernel
theorem d_law_462 : decode b_law 462 = .ok (.iaload, 1) := by decide +kernel
theorem d_law_463 : decode b_law 463 = .ok (.aload_n 0, 1) := by decide +kernel
theorem d_law_464 : decode b_law 464 = .ok (.iload 4, 2) := by decide +kernel
theorem d_law_466 : decode b_law 466 = .ok (.iconst 2, 1) := by decide +kernel
theorem d_law_467 : decode b_law 467 = .ok (.iadd, 1) := by decide +kernel
theorem d_law_468 : decode b_law 468 = .ok (.iaload, 1) := by decide +kernel
theorem d_law_469 : decode b_law 469 = .ok (.aload_n 0, 1) := by decide +kernel
theorem d_law_470 : decode b_law 470 = .ok (.iload 4, 2) := by decide +kernel
theorem d_law_472 : decode b_law 472 = .ok (.iconst 3, 1) := by decide +kernel
theorem d_law_473 : decode b_law 473 = .ok (.iadd, 1) := by decide +kernel
theorem d_law_474 : decode b_law 474 = .ok (.iaload, 1) := by decide +kernel
theorem d_law_475 : decode b_law 475 = .ok (.i2l, 1) := by decide +kernel
theorem d_law_476 : decode b_law 476 = .ok (.bipush 32, 2) := by decide +kernel
theorem d_law_478 : decode b_law 478 = .ok (.lshl, 1) := by decide +kernel
theorem d_law_479 : decode b_law 479 = .ok (.aload_n 0, 1) := by decide +kernel
theorem d_law_480 : decode b_law 480 = .ok (.iload 4, 2) := by decide +kernel
theorem d_law_482 : decode b_law 482 = .ok (.iconst 4, 1) := by decide +kernel
theorem d_law_483 : decode b_law 483 = .ok (.iadd, 1) := by decide +kernel
theorem d_law_484 : decode b_law 484 = .ok (.iaload, 1) := by decide +kernel
theorem d_law_485 : decode b_law 485 = .ok (.i2l, 1) := by decide +kernel
theorem d_law_486 : decode b_law 486 = .ok (.ldc2_w 63, 3) := by decide +kernel
theorem d_law_489 : decode b_law 489 = .ok (.land, 1) := by decide +kernel
theorem d_law_490 : decode b_law 490 = .ok (.lor, 1) := by decide +kernel
theorem d_law_491 : decode b_law 491 = .ok (.aload_n 0, 1) := by decide +kernel
theorem d_law_492 : decode b_law 492 = .ok (.iload 4, 2) := by decide +kernel
theorem d_law_494 : decode b_law 494 = .ok (.iconst 5, 1) := by decide +kernel
theorem d_law_495 : decode b_law 495 = .ok (.iadd, 1) := by decide +kernel
theorem d_law_496 : decode b_law 496 = .ok (.iaload, 1) := by decide +kernel
theorem d_law_497 : decode b_law 497 = .ok (.i2l, 1) := by decide +kernel
theorem d_law_498 : decode b_law 498 = .ok (.bipush 32, 2) := by decide +kernel
theorem d_law_500 : decode b_law 500 = .ok (.lshl, 1) := by decide +kernel
theorem d_law_501 : decode b_law 501 = .ok (.aload_n 0, 1) := by decide +kernel
theorem d_law_502 : decode b_law 502 = .ok (.iload 4, 2) := by decide +kernel
theorem d_law_504 : decode b_law 504 = .ok (.bipush 6, 2) := by decide +kernel
theorem d_law_506 : decode b_law 506 = .ok (.iadd, 1) := by decide +kernel
theorem d_law_507 : decode b_law 507 = .ok (.iaload, 1) := by decide +kernel
theorem d_law_508 : decode b_law 508 = .ok (.i2l, 1) := by decide +kernel
theorem d_law_509 : decode b_law 509 = .ok (.ldc2_w 63, 3) := by decide +kernel
theorem d_law_512 : decode b_law 512 = .ok (.land, 1) := by decide +kernel
theorem d_law_513 : decode b_law 513 = .ok (.lor, 1) := by decide +kernel
theorem d_law_514 : decode b_law 514 = .ok (.aload_n 0, 1) := by decide +kernel
theorem d_law_515 : decode b_law 515 = .ok (.iload 4, 2) := by decide +kernel
theorem d_law_517 : decode b_law 517 = .ok (.bipush 7, 2) := by decide +kernel
theorem d_law_519 : decode b_law 519 = .ok (.iadd, 1) := by decide +kernel
theorem d_law_520 : decode b_law 520 = .ok (.iaload, 1) := by decide +kernel
theorem d_law_521 : decode b_law 521 = .ok (.i2l, 1) := by decide +kernel
theorem d_law_522 : decode b_law 522 = .ok (.bipush 32, 2) := by decide +kernel
theorem d_law_524 : decode b_law 524 = .ok (.lshl, 1) := by decide +kernel
theorem d_law_525 : decode b_law 525 = .ok (.aload_n 0, 1) := by decide +kernel
theorem d_law_526 : decode b_law 526 = .ok (.iload 4, 2) := by decide +kernel
theorem d_law_528 : decode b_law 528 = .ok (.bipush 8, 2) := by decide +kernel
theorem d_law_530 : decode b_law 530 = .ok (.iadd, 1) := by decide +kernel
theorem d_law_531 : decode b_law 531 = .ok (.iaload, 1) := by decide +kernel
theorem d_law_532 : decode b_law 532 = .ok (.i2l, 1) := by decide +kernel
theorem d_law_533 : decode b_law 533 = .ok (.ldc2_w 63, 3) := by decide +kernel
theorem d_law_536 : decode b_law 536 = .ok (.land, 1) := by decide +kernel
theorem d_law_537 : decode b_law 537 = .ok (.lor, 1) := by decide +kernel
theorem d_law_538 : decode b_law 538 = .ok (.invokevirtual 76, 3) := by decide +kernel
theorem d_law_541 : decode b_law 541 = .ok (.istore 6, 2) := by decide +kernel
theorem d_law_543 : decode b_law 543 = .ok (.aload_n 2, 1) := by decide +kernel
theorem d_law_544 : decode b_law 544 = .ok (.invokevirtual 69, 3) := by decide +kernel
theorem d_law_547 : decode b_law 547 = .ok (.iload 5, 2) := by decide +kernel
theorem d_law_549 : decode b_law 549 = .ok (.if_icmp .eq 5, 3) := by decide +kernel
theorem d_law_552 : decode b_law 552 = .ok (.iconst 0, 1) := by decide +kernel
theorem d_law_553 : decode b_law 553 = .ok (.ireturn, 1) := by decide +kernel
theorem d_law_554 : decode b_law 554 = .ok (.iload 5, 2) := by decide +kernel
theorem d_law_556 : decode b_law 556 = .ok (.ifCond .ne 15, 3) := by decide +kernel
theorem d_law_559 : decode b_law 559 = .ok (.aload_n 3, 1) := by decide +kernel
theorem d_law_560 : decode b_law 560 = .ok (.iconst 0, 1) := by decide +kernel
theorem d_law_561 : decode b_law 561 = .ok (.laload, 1) := by decide +kernel
theorem d_law_562 : decode b_law 562 = .ok (.iload 6, 2) := by decide +kernel
theorem d_law_564 : decode b_law 564 = .ok (.i2l, 1) := by decide +kernel
theorem d_law_565 : decode b_law 565 = .ok (.lcmp, 1) := by decide +kernel
theorem d_law_566 : decode b_law 566 = .ok (.ifCond .eq 5, 3) := by decide +kernel
theorem d_law_569 : decode b_law 569 = .ok (.iconst 0, 1) := by decide +kernel
theorem d_law_570 : decode b_law 570 = .ok (.ireturn, 1) := by decide +kernel
theorem d_law_571 : decode b_law 571 = .ok (.goto 787, 3) := by decide +kernel
theorem d_law_574 : decode b_law 574 = .ok (.aload_n 1, 1) := by decide +kernel
theorem d_law_575 : decode b_law 575 = .ok (.aload_n 0, 1) := by decide +kernel
theorem d_law_576 : decode b_law 576 = .ok (.iload 4, 2) := by decide +kernel
theorem d_law_578 : decode b_law 578 = .ok (.iconst 1, 1) := by decide +kernel
theorem d_law_579 : decode b_law 579 = .ok (.iadd, 1) := by decide +kernel
theorem d_law_580 : decode b_law 580 = .ok (.iaload, 1) := by decide +kernel
theorem d_law_581 : decode b_law 581 = .ok (.aload_n 0, 1) := by decide +kernel
theorem d_law_582 : decode b_law 582 = .ok (.iload 4, 2) := by decide +kernel
theorem d_law_584 : decode b_law 584 = .ok (.iconst 2, 1) := by decide +kernel
theorem d_law_585 : decode b_law 585 = .ok (.iadd, 1) := by decide +kernel
theorem d_law_586 : decode b_law 586 = .ok (.iaload, 1) := by decide +kernel
theorem d_law_587 : decode b_law 587 = .ok (.aload_n 0, 1) := by decide +kernel
theorem d_law_588 : decode b_law 588 = .ok (.iload 4, 2) := by decide +kernel
theorem d_law_590 : decode b_law 590 = .ok (.iconst 3, 1) := by decide +kernel
theorem d_law_591 : decode b_law 591 = .ok (.iadd, 1) := by decide +kernel
theorem d_law_592 : decode b_law 592 = .ok (.iaload, 1) := by decide +kernel
theorem d_law_593 : decode b_law 593 = .ok (.i2l, 1) := by decide +kernel
theorem d_law_594 : decode b_law 594 = .ok (.bipush 32, 2) := by decide +kernel
theorem d_law_596 : decode b_law 596 = .ok (.lshl, 1) := by decide +kernel
theorem d_law_597 : decode b_law 597 = .ok (.aload_n 0, 1) := by decide +kernel
theorem d_law_598 : decode b_law 598 = .ok (.iload 4, 2) := by decide +kernel
theorem d_law_600 : decode b_law 600 = .ok (.iconst 4, 1) := by decide +kernel
theorem d_law_601 : decode b_law 601 = .ok (.iadd, 1) := by decide +kernel
theorem d_law_602 : decode b_law 602 = .ok (.iaload, 1) := by decide +kernel
theorem d_law_603 : decode b_law 603 = .ok (.i2l, 1) := by decide +kernel
theorem d_law_604 : decode b_law 604 = .ok (.ldc2_w 63, 3) := by decide +kernel
theorem d_law_607 : decode b_law 607 = .ok (.land, 1) := by decide +kernel
theorem d_law_608 : decode b_law 608 = .ok (.lor, 1) := by decide +kernel
theorem d_law_609 : decode b_law 609 = .ok (.aload_n 0, 1) := by decide +kernel
theorem d_law_610 : decode b_law 610 = .ok (.iload 4, 2) := by decide +kernel
theorem d_law_612 : decode b_law 612 = .ok (.iconst 5, 1) := by decide +kernel
theorem d_law_613 : decode b_law 613 = .ok (.iadd, 1) := by decide +kernel
theorem d_law_614 : decode b_law 614 = .ok (.iaload, 1) := by decide +kernel
theorem d_law_615 : decode b_law 615 = .ok (.i2l, 1) := by decide +kernel
theorem d_law_616 : decode b_law 616 = .ok (.bipush 32, 2) := by decide +kernel
theorem d_law_618 : decode b_law 618 = .ok (.lshl, 1) := by decide +kernel
theorem d_law_619 : decode b_law 619 = .ok (.aload_n 0, 1) := by decide +kernel
theorem d_law_620 : decode b_law 620 = .ok (.iload 4, 2) := by decide +kernel
theorem d_law_622 : decode b_law 622 = .ok (.bipush 6, 2) := by decide +kernel
theorem d_law_624 : decode b_law 624 = .ok (.iadd, 1) := by decide +kernel
theorem d_law_625 : decode b_law 625 = .ok (.iaload, 1) := by decide +kernel
theorem d_law_626 : decode b_law 626 = .ok (.i2l, 1) := by decide +kernel
theorem d_law_627 : decode b_law 627 = .ok (.ldc2_w 63, 3) := by decide +kernel
theorem d_law_630 : decode b_law 630 = .ok (.land, 1) := by decide +kernel
theorem d_law_631 : decode b_law 631 = .ok (.lor, 1) := by decide +kernel
theorem d_law_632 : decode b_law 632 = .ok (.aload_n 0, 1) := by decide +kernel
theorem d_law_633 : decode b_law 633 = .ok (.iload 4, 2) := by decide +kernel
theorem d_law_635 : decode b_law 635 = .ok (.bipush 7, 2) := by decide +kernel
theorem d_law_637 : decode b_law 637 = .ok (.iadd, 1) := by decide +kernel
theorem d_law_638 : decode b_law 638 = .ok (.iaload, 1) := by decide +kernel
theorem d_law_639 : decode b_law 639 = .ok (.i2l, 1) := by decide +kernel
theorem d_law_640 : decode b_law 640 = .ok (.bipush 32, 2) := by decide +kernel
theorem d_law_642 : decode b_law 642 = .ok (.lshl, 1) := by decide +kernel
theorem d_law_643 : decode b_law 643 = .ok (.aload_n 0, 1) := by decide +kernel
theorem d_law_644 : decode b_law 644 = .ok (.iload 4, 2) := by decide +kernel
theorem d_law_646 : decode b_law 646 = .ok (.bipush 8, 2) := by decide +kernel
theorem d_law_648 : decode b_law 648 = .ok (.iadd, 1) := by decide +kernel
theorem d_law_649 : decode b_law 649 = .ok (.iaload, 1) := by decide +kernel
theorem d_law_650 : decode b_law 650 = .ok (.i2l, 1) := by decide +kernel
theorem d_law_651 : decode b_law 651 = .ok (.ldc2_w 63, 3) := by decide +kernel
theorem d_law_654 : decode b_law 654 = .ok (.land, 1) := by decide +kernel
theorem d_law_655 : decode b_law 655 = .ok (.lor, 1) := by decide +kernel
theorem d_law_656 : decode b_law 656 = .ok (.aload_n 3, 1) := by decide +kernel
theorem d_law_657 : decode b_law 657 = .ok (.invokestatic 77, 3) := by decide +kernel
theorem d_law_660 : decode b_law 660 = .ok (.istore 5, 2) := by decide +kernel
theorem d_law_662 : decode b_law 662 = .ok (.aload_n 2, 1) := by decide +kernel
theorem d_law_663 : decode b_law 663 = .ok (.aload_n 0, 1) := by decide +kernel
theorem d_law_664 : decode b_law 664 = .ok (.iload 4, 2) := by decide +kernel
theorem d_law_666 : decode b_law 666 = .ok (.iconst 1, 1) := by decide +kernel
theorem d_law_667 : decode b_law 667 = .ok (.iadd, 1) := by decide +kernel
theorem d_law_668 : decode b_law 668 = .ok (.iaload, 1) := by decide +kernel
theorem d_law_669 : decode b_law 669 = .ok (.aload_n 0, 1) := by decide +kernel
theorem d_law_670 : decode b_law 670 = .ok (.iload 4, 2) := by decide +kernel
theorem d_law_672 : decode b_law 672 = .ok (.iconst 2, 1) := by decide +kernel
theorem d_law_673 : decode b_law 673 = .ok (.iadd, 1) := by decide +kernel
theorem d_law_674 : decode b_law 674 = .ok (.iaload, 1) := by decide +kernel
theorem d_law_675 : decode b_law 675 = .ok (.aload_n 0, 1) := by decide +kernel
theorem d_law_676 : decode b_law 676 = .ok (.iload 4, 2) := by decide +kernel
theorem d_law_678 : decode b_law 678 = .ok (.iconst 3, 1) := by decide +kernel
theorem d_law_679 : decode b_law 679 = .ok (.iadd, 1) := by decide +kernel
theorem d_law_680 : decode b_law 680 = .ok (.iaload, 1) := by decide +kernel
theorem d_law_681 : decode b_law 681 = .ok (.i2l, 1) := by decide +kernel
theorem d_law_682 : decode b_law 682 = .ok (.bipush 32, 2) := by decide +kernel
theorem d_law_684 : decode b_law 684 = .ok (.lshl, 1) := by decide +kernel
theorem d_law_685 : decode b_law 685 = .ok (.aload_n 0, 1) := by decide +kernel
theorem d_law_686 : decode b_law 686 = .ok (.iload 4, 2) := by decide +kernel
theorem d_law_688 : decode b_law 688 = .ok (.iconst 4, 1) := by decide +kernel
theorem d_law_689 : decode b_law 689 = .ok (.iadd, 1) := by decide +kernel
theorem d_law_690 : decode b_law 690 = .ok (.iaload, 1) := by decide +kernel
theorem d_law_691 : decode b_law 691 = .ok (.i2l, 1) := by decide +kernel
theorem d_law_692 : decode b_law 692 = .ok (.ldc2_w 63, 3) := by decide +kernel
theorem d_law_695 : decode b_law 695 = .ok (.land, 1) := by decide +kernel
theorem d_law_696 : decode b_law 696 = .ok (.lor, 1) := by decide +kernel
theorem d_law_697 : decode b_law 697 = .ok (.aload_n 0, 1) := by decide +kernel
theorem d_law_698 : decode b_law 698 = .ok (.iload 4, 2) := by decide +kernel
theorem d_law_700 : decode b_law 700 = .ok (.iconst 5, 1) := by decide +kernel
theorem d_law_701 : decode b_law 701 = .ok (.iadd, 1) := by decide +kernel
theorem d_law_702 : decode b_law 702 = .ok (.iaload, 1) := by decide +kernel
theorem d_law_703 : decode b_law 703 = .ok (.i2l, 1) := by decide +kernel
theorem d_law_704 : decode b_law 704 = .ok (.bipush 32, 2) := by decide +kernel
theorem d_law_706 : decode b_law 706 = .ok (.lshl, 1) := by decide +kernel
theorem d_law_707 : decode b_law 707 = .ok (.aload_n 0, 1) := by decide +kernel
theorem d_law_708 : decode b_law 708 = .ok (.iload 4, 2) := by decide +kernel
theorem d_law_710 : decode b_law 710 = .ok (.bipush 6, 2) := by decide +kernel
theorem d_law_712 : decode b_law 712 = .ok (.iadd, 1) := by decide +kernel
theorem d_law_713 : decode b_law 713 = .ok (.iaload, 1) := by decide +kernel
theorem d_law_714 : decode b_law 714 = .ok (.i2l, 1) := by decide +kernel
theorem d_law_715 : decode b_law 715 = .ok (.ldc2_w 63, 3) := by decide +kernel
theorem d_law_718 : decode b_law 718 = .ok (.land, 1) := by decide +kernel
theorem d_law_719 : decode b_law 719 = .ok (.lor, 1) := by decide +kernel
theorem d_law_720 : decode b_law 720 = .ok (.aload_n 0, 1) := by decide +kernel
theorem d_law_721 : decode b_law 721 = .ok (.iload 4, 2) := by decide +kernel
theorem d_law_723 : decode b_law 723 = .ok (.bipush 7, 2) := by decide +kernel
theorem d_law_725 : decode b_law 725 = .ok (.iadd, 1) := by decide +kernel
theorem d_law_726 : decode b_law 726 = .ok (.iaload, 1) := by decide +kernel
theorem d_law_727 : decode b_law 727 = .ok (.i2l, 1) := by decide +kernel
theorem d_law_728 : decode b_law 728 = .ok (.bipush 32, 2) := by decide +kernel
theorem d_law_730 : decode b_law 730 = .ok (.lshl, 1) := by decide +kernel
theorem d_law_731 : decode b_law 731 = .ok (.aload_n 0, 1) := by decide +kernel
theorem d_law_732 : decode b_law 732 = .ok (.iload 4, 2) := by decide +kernel
theorem d_law_734 : decode b_law 734 = .ok (.bipush 8, 2) := by decide +kernel
theorem d_law_736 : decode b_law 736 = .ok (.iadd, 1) := by decide +kernel
theorem d_law_737 : decode b_law 737 = .ok (.iaload, 1) := by decide +kernel
theorem d_law_738 : decode b_law 738 = .ok (.i2l, 1) := by decide +kernel
theorem d_law_739 : decode b_law 739 = .ok (.ldc2_w 63, 3) := by decide +kernel
theorem d_law_742 : decode b_law 742 = .ok (.land, 1) := by decide +kernel
theorem d_law_743 : decode b_law 743 = .ok (.lor, 1) := by decide +kernel
theorem d_law_744 : decode b_law 744 = .ok (.invokevirtual 79, 3) := by decide +kernel
theorem d_law_747 : decode b_law 747 = .ok (.istore 6, 2) := by decide +kernel
theorem d_law_749 : decode b_law 749 = .ok (.aload_n 2, 1) := by decide +kernel
theorem d_law_750 : decode b_law 750 = .ok (.invokevirtual 69, 3) := by decide +kernel
theorem d_law_753 : decode b_law 753 = .ok (.iload 5, 2) := by decide +kernel
theorem d_law_755 : decode b_law 755 = .ok (.if_icmp .eq 5, 3) := by decide +kernel
theorem d_law_758 : decode b_law 758 = .ok (.iconst 0, 1) := by decide +kernel
theorem d_law_759 : decode b_law 759 = .ok (.ireturn, 1) := by decide +kernel
theorem d_law_760 : decode b_law 760 = .ok (.iload 5, 2) := by decide +kernel
theorem d_law_762 : decode b_law 762 = .ok (.ifCond .ne 15, 3) := by decide +kernel
theorem d_law_765 : decode b_law 765 = .ok (.aload_n 3, 1) := by decide +kernel
theorem d_law_766 : decode b_law 766 = .ok (.iconst 0, 1) := by decide +kernel
theorem d_law_767 : decode b_law 767 = .ok (.laload, 1) := by decide +kernel
theorem d_law_768 : decode b_law 768 = .ok (.iload 6, 2) := by decide +kernel
theorem d_law_770 : decode b_law 770 = .ok (.i2l, 1) := by decide +kernel
theorem d_law_771 : decode b_law 771 = .ok (.lcmp, 1) := by decide +kernel
theorem d_law_772 : decode b_law 772 = .ok (.ifCond .eq 5, 3) := by decide +kernel
theorem d_law_775 : decode b_law 775 = .ok (.iconst 0, 1) := by decide +kernel
theorem d_law_776 : decode b_law 776 = .ok (.ireturn, 1) := by decide +kernel
theorem d_law_777 : decode b_law 777 = .ok (.goto 581, 3) := by decide +kernel
theorem d_law_780 : decode b_law 780 = .ok (.aload_n 1, 1) := by decide +kernel
theorem d_law_781 : decode b_law 781 = .ok (.aload_n 0, 1) := by decide +kernel
theorem d_law_782 : decode b_law 782 = .ok (.iload 4, 2) := by decide +kernel
theorem d_law_784 : decode b_law 784 = .ok (.iconst 1, 1) := by decide +kernel
theorem d_law_785 : decode b_law 785 = .ok (.iadd, 1) := by decide +kernel
theorem d_law_786 : decode b_law 786 = .ok (.iaload, 1) := by decide +kernel
theorem d_law_787 : decode b_law 787 = .ok (.aload_n 0, 1) := by decide +kernel
theorem d_law_788 : decode b_law 788 = .ok (.iload 4, 2) := by decide +kernel
theorem d_law_790 : decode b_law 790 = .ok (.iconst 2, 1) := by decide +kernel
theorem d_law_791 : decode b_law 791 = .ok (.iadd, 1) := by decide +kernel
theorem d_law_792 : decode b_law 792 = .ok (.iaload, 1) := by decide +kernel
theorem d_law_793 : decode b_law 793 = .ok (.aload_n 3, 1) := by decide +kernel
theorem d_law_794 : decode b_law 794 = .ok (.invokestatic 80, 3) := by decide +kernel
theorem d_law_797 : decode b_law 797 = .ok (.istore 5, 2) := by decide +kernel
theorem d_law_799 : decode b_law 799 = .ok (.aload_n 2, 1) := by decide +kernel
theorem d_law_800 : decode b_law 800 = .ok (.aload_n 0, 1) := by decide +kernel
theorem d_law_801 : decode b_law 801 = .ok (.iload 4, 2) := by decide +kernel
theorem d_law_803 : decode b_law 803 = .ok (.iconst 1, 1) := by decide +kernel
theorem d_law_804 : decode b_law 804 = .ok (.iadd, 1) := by decide +kernel
theorem d_law_805 : decode b_law 805 = .ok (.iaload, 1) := by decide +kernel
theorem d_law_806 : decode b_law 806 = .ok (.aload_n 0, 1) := by decide +kernel
theorem d_law_807 : decode b_law 807 = .ok (.iload 4, 2) := by decide +kernel
theorem d_law_809 : decode b_law 809 = .ok (.iconst 2, 1) := by decide +kernel
theorem d_law_810 : decode b_law 810 = .ok (.iadd, 1) := by decide +kernel
theorem d_law_811 : decode b_law 811 = .ok (.iaload, 1) := by decide +kernel
theorem d_law_812 : decode b_law 812 = .ok (.invokevirtual 83, 3) := by decide +kernel
theorem d_law_815 : decode b_law 815 = .ok (.istore 6, 2) := by decide +kernel
theorem d_law_817 : decode b_law 817 = .ok (.aload_n 2, 1) := by decide +kernel
theorem d_law_818 : decode b_law 818 = .ok (.invokevirtual 69, 3) := by decide +kernel
theorem d_law_821 : decode b_law 821 = .ok (.iload 5, 2) := by decide +kernel
theorem d_law_823 : decode b_law 823 = .ok (.if_icmp .eq 5, 3) := by decide +kernel
theorem d_law_826 : decode b_law 826 = .ok (.iconst 0, 1) := by decide +kernel
theorem d_law_827 : decode b_law 827 = .ok (.ireturn, 1) := by decide +kernel
theorem d_law_828 : decode b_law 828 = .ok (.iload 5, 2) := by decide +kernel
theorem d_law_830 : decode b_law 830 = .ok (.ifCond .ne 22, 3) := by decide +kernel
theorem d_law_833 : decode b_law 833 = .ok (.aload_n 3, 1) := by decide +kernel
theorem d_law_834 : decode b_law 834 = .ok (.iconst 0, 1) := by decide +kernel
theorem d_law_835 : decode b_law 835 = .ok (.laload, 1) := by decide +kernel
theorem d_law_836 : decode b_law 836 = .ok (.iload 6, 2) := by decide +kernel
theorem d_law_838 : decode b_law 838 = .ok (.ifCond .eq 7, 3) := by decide +kernel
theorem d_law_841 : decode b_law 841 = .ok (.lconst 1, 1) := by decide +kernel
theorem d_law_842 : decode b_law 842 = .ok (.goto 4, 3) := by decide +kernel
theorem d_law_845 : decode b_law 845 = .ok (.lconst 0, 1) := by decide +kernel
theorem d_law_846 : decode b_law 846 = .ok (.lcmp, 1) := by decide +kernel
theorem d_law_847 : decode b_law 847 = .ok (.ifCond .eq 5, 3) := by decide +kernel
theorem d_law_850 : decode b_law 850 = .ok (.iconst 0, 1) := by decide +kernel
theorem d_law_851 : decode b_law 851 = .ok (.ireturn, 1) := by decide +kernel
theorem d_law_852 : decode b_law 852 = .ok (.goto 506, 3) := by decide +kernel
theorem d_law_855 : decode b_law 855 = .ok (.aload_n 1, 1) := by decide +kernel
theorem d_law_856 : decode b_law 856 = .ok (.invokevirtual 84, 3) := by decide +kernel
theorem d_law_859 : decode b_law 859 = .ok (.aload_n 2, 1) := by decide +kernel
theorem d_law_860 : decode b_law 860 = .ok (.invokevirtual 87, 3) := by decide +kernel
theorem d_law_863 : decode b_law 863 = .ok (.if_icmp .eq 495, 3) := by decide +kernel
theorem d_law_866 : decode b_law 866 = .ok (.iconst 0, 1) := by decide +kernel
theorem d_law_867 : decode b_law 867 = .ok (.ireturn, 1) := by decide +kernel
theorem d_law_868 : decode b_law 868 = .ok (.aload_n 1, 1) := by decide +kernel
theorem d_law_869 : decode b_law 869 = .ok (.aload_n 0, 1) := by decide +kernel
theorem d_law_870 : decode b_law 870 = .ok (.iload 4, 2) := by decide +kernel
theorem d_law_872 : decode b_law 872 = .ok (.iconst 1, 1) := by decide +kernel
theorem d_law_873 : decode b_law 873 = .ok (.iadd, 1) := by decide +kernel
theorem d_law_874 : decode b_law 874 = .ok (.iaload, 1) := by decide +kernel
theorem d_law_875 : decode b_law 875 = .ok (.aload_n 3, 1) := by decide +kernel
theorem d_law_876 : decode b_law 876 = .ok (.invokestatic 88, 3) := by decide +kernel
theorem d_law_879 : decode b_law 879 = .ok (.istore 5, 2) := by decide +kernel
theorem d_law_881 : decode b_law 881 = .ok (.aload_n 2, 1) := by decide +kernel
theorem d_law_882 : decode b_law 882 = .ok (.aload_n 0, 1) := by decide +kernel
theorem d_law_883 : decode b_law 883 = .ok (.iload 4, 2) := by decide +kernel
theorem d_law_885 : decode b_law 885 = .ok (.iconst 1, 1) := by decide +kernel
theorem d_law_886 : decode b_law 886 = .ok (.iadd, 1) := by decide +kernel
theorem d_law_887 : decode b_law 887 = .ok (.iaload, 1) := by decide +kernel
theorem d_law_888 : decode b_law 888 = .ok (.invokevirtual 91, 3) := by decide +kernel
theorem d_law_891 : decode b_law 891 = .ok (.istore 6, 2) := by decide +kernel
theorem d_law_893 : decode b_law 893 = .ok (.aload_n 2, 1) := by decide +kernel
theorem d_law_894 : decode b_law 894 = .ok (.invokevirtual 69, 3) := by decide +kernel
theorem d_law_897 : decode b_law 897 = .ok (.iload 5, 2) := by decide +kernel
theorem d_law_899 : decode b_law 899 = .ok (.if_icmp .eq 5, 3) := by decide +kernel
theorem d_law_902 : decode b_law 902 = .ok (.iconst 0, 1) := by decide +kernel
theorem d_law_903 : decode b_law 903 = .ok (.ireturn, 1) := by decide +kernel
theorem d_law_904 : decode b_law 904 = .ok (.iload 5, 2) := by decide +kernel
theorem d_law_906 : decode b_law 906 = .ok (.ifCond .ne 15, 3) := by decide +kernel
theorem d_law_909 : decode b_law 909 = .ok (.aload_n 3, 1) := by decide +kernel
theorem d_law_910 : decode b_law 910 = .ok (.iconst 0, 1) := by decide +kernel
theorem d_law_911 : decode b_law 911 = .ok (.laload, 1) := by decide +kernel
theorem d_law_912 : decode b_law 912 = .ok (.iload 6, 2) := by decide +kernel
theorem d_law_914 : decode b_law 914 = .ok (.i2l, 1) := by decide +kernel
theorem d_law_915 : decode b_law 915 = .ok (.lcmp, 1) := by decide +kernel
theorem d_law_916 : decode b_law 916 = .ok (.ifCond .eq 5, 3) := by decide +kernel
theorem d_law_919 : decode b_law 919 = .ok (.iconst 0, 1) := by decide +kernel
theorem d_law_920 : decode b_law 920 = .ok (.ireturn, 1) := by decide +kernel
theorem d_law_921 : decode b_law 921 = .ok (.goto 437, 3) := by decide +kernel
theorem d_law_924 : decode b_law 924 = .ok (.aload_n 1, 1) := by decide +kernel
theorem d_law_925 : decode b_law 925 = .ok (.aload_n 0, 1) := by decide +kernel
theorem d_law_926 : decode b_law 926 = .ok (.iload 4, 2) := by decide +kernel
theorem d_law_928 : decode b_law 928 = .ok (.iconst 1, 1) := by decide +kernel
theorem d_law_929 : decode b_law 929 = .ok (.iadd, 1) := by decide +kernel
theorem d_law_930 : decode b_law 930 = .ok (.iaload, 1) := by decide +kernel
theorem d_law_931 : decode b_law 931 = .ok (.aload_n 3, 1) := by decide +kernel
theorem d_law_932 : decode b_law 932 = .ok (.invokestatic 92, 3) := by decide +kernel
theorem d_law_935 : decode b_law 935 = .ok (.istore 5, 2) := by decide +kernel
theorem d_law_937 : decode b_law 937 = .ok (.aload_n 2, 1) := by decide +kernel
theorem d_law_938 : decode b_law 938 = .ok (.aload_n 0, 1) := by decide +kernel
theorem d_law_939 : decode b_law 939 = .ok (.iload 4, 2) := by decide +kernel
theorem d_law_941 : decode b_law 941 = .ok (.iconst 1, 1) := by decide +kernel
theorem d_law_942 : decode b_law 942 = .ok (.iadd, 1) := by decide +kernel
theorem d_law_943 : decode b_law 943 = .ok (.iaload, 1) := by decide +kernel
theorem d_law_944 : decode b_law 944 = .ok (.invokevirtual 94, 3) := by decide +kernel
theorem d_law_947 : decode b_law 947 = .ok (.istore 6, 2) := by decide +kernel
theorem d_law_949 : decode b_law 949 = .ok (.aload_n 2, 1) := by decide +kernel
theorem d_law_950 : decode b_law 950 = .ok (.invokevirtual 69, 3) := by decide +kernel
theorem d_law_953 : decode b_law 953 = .ok (.iload 5, 2) := by decide +kernel
theorem d_law_955 : decode b_law 955 = .ok (.if_icmp .eq 5, 3) := by decide +kernel
theorem d_law_958 : decode b_law 958 = .ok (.iconst 0, 1) := by decide +kernel
theorem d_law_959 : decode b_law 959 = .ok (.ireturn, 1) := by decide +kernel
theorem d_law_960 : decode b_law 960 = .ok (.iload 5, 2) := by decide +kernel
theorem d_law_962 : decode b_law 962 = .ok (.ifCond .ne 15, 3) := by decide +kernel
theorem d_law_965 : decode b_law 965 = .ok (.aload_n 3, 1) := by decide +kernel
theorem d_law_966 : decode b_law 966 = .ok (.iconst 0, 1) := by decide +kernel
theorem d_law_967 : decode b_law 967 = .ok (.laload, 1) := by decide +kernel
theorem d_law_968 : decode b_law 968 = .ok (.iload 6, 2) := by decide +kernel
theorem d_law_970 : decode b_law 970 = .ok (.i2l, 1) := by decide +kernel
theorem d_law_971 : decode b_law 971 = .ok (.lcmp, 1) := by decide +kernel
theorem d_law_972 : decode b_law 972 = .ok (.ifCond .eq 5, 3) := by decide +kernel
theorem d_law_975 : decode b_law 975 = .ok (.iconst 0, 1) := by decide +kernel
theorem d_law_976 : decode b_law 976 = .ok (.ireturn, 1) := by decide +kernel
theorem d_law_977 : decode b_law 977 = .ok (.goto 381, 3) := by decide +kernel
theorem d_law_980 : decode b_law 980 = .ok (.aload_n 1, 1) := by decide +kernel
theorem d_law_981 : decode b_law 981 = .ok (.aload_n 0, 1) := by decide +kernel
theorem d_law_982 : decode b_law 982 = .ok (.iload 4, 2) := by decide +kernel
theorem d_law_984 : decode b_law 984 = .ok (.iconst 1, 1) := by decide +kernel
theorem d_law_985 : decode b_law 985 = .ok (.iadd, 1) := by decide +kernel
theorem d_law_986 : decode b_law 986 = .ok (.iaload, 1) := by decide +kernel
theorem d_law_987 : decode b_law 987 = .ok (.aload_n 0, 1) := by decide +kernel
theorem d_law_988 : decode b_law 988 = .ok (.iload 4, 2) := by decide +kernel
theorem d_law_990 : decode b_law 990 = .ok (.iconst 2, 1) := by decide +kernel
theorem d_law_991 : decode b_law 991 = .ok (.iadd, 1) := by decide +kernel
theorem d_law_992 : decode b_law 992 = .ok (.iaload, 1) := by decide +kernel
theorem d_law_993 : decode b_law 993 = .ok (.aload_n 0, 1) := by decide +kernel
theorem d_law_994 : decode b_law 994 = .ok (.iload 4, 2) := by decide +kernel
theorem d_law_996 : decode b_law 996 = .ok (.iconst 3, 1) := by decide +kernel
theorem d_law_997 : decode b_law 997 = .ok (.iadd, 1) := by decide +kernel
theorem d_law_998 : decode b_law 998 = .ok (.iaload, 1) := by decide +kernel
theorem d_law_999 : decode b_law 999 = .ok (.aload_n 3, 1) := by decide +kernel
theorem d_law_1000 : decode b_law 1000 = .ok (.invokestatic 95, 3) := by decide +kernel
theorem d_law_1003 : decode b_law 1003 = .ok (.istore 5, 2) := by decide +kernel
theorem d_law_1005 : decode b_law 1005 = .ok (.aload_n 2, 1) := by decide +kernel
theorem d_law_1006 : decode b_law 1006 = .ok (.aload_n 0, 1) := by decide +kernel
theorem d_law_1007 : decode b_law 1007 = .ok (.iload 4, 2) := by decide +kernel
theorem d_law_1009 : decode b_law 1009 = .ok (.iconst 1, 1) := by decide +kernel
theorem d_law_1010 : decode b_law 1010 = .ok (.iadd, 1) := by decide +kernel
theorem d_law_1011 : decode b_law 1011 = .ok (.iaload, 1) := by decide +kernel
theorem d_law_1012 : decode b_law 1012 = .ok (.aload_n 0, 1) := by decide +kernel
theorem d_law_1013 : decode b_law 1013 = .ok (.iload 4, 2) := by decide +kernel
theorem d_law_1015 : decode b_law 1015 = .ok (.iconst 2, 1) := by decide +kernel
theorem d_law_1016 : decode b_law 1016 = .ok (.iadd, 1) := by decide +kernel
theorem d_law_1017 : decode b_law 1017 = .ok (.iaload, 1) := by decide +kernel
theorem d_law_1018 : decode b_law 1018 = .ok (.aload_n 0, 1) := by decide +kernel
theorem d_law_1019 : decode b_law 1019 = .ok (.iload 4, 2) := by decide +kernel
theorem d_law_1021 : decode b_law 1021 = .ok (.iconst 3, 1) := by decide +kernel
theorem d_law_1022 : decode b_law 1022 = .ok (.iadd, 1) := by decide +kernel
theorem d_law_1023 : decode b_law 1023 = .ok (.iaload, 1) := by decide +kernel
theorem d_law_1024 : decode b_law 1024 = .ok (.invokevirtual 98, 3) := by decide +kernel
theorem d_law_1027 : decode b_law 1027 = .ok (.lstore 6, 2) := by decide +kernel
theorem d_law_1029 : decode b_law 1029 = .ok (.aload_n 2, 1) := by decide +kernel
theorem d_law_1030 : decode b_law 1030 = .ok (.invokevirtual 69, 3) := by decide +kernel
theorem d_law_1033 : decode b_law 1033 = .ok (.iload 5, 2) := by decide +kernel
theorem d_law_1035 : decode b_law 1035 = .ok (.if_icmp .eq 5, 3) := by decide +kernel
theorem d_law_1038 : decode b_law 1038 = .ok (.iconst 0, 1) := by decide +kernel
theorem d_law_1039 : decode b_law 1039 = .ok (.ireturn, 1) := by decide +kernel
theorem d_law_1040 : decode b_law 1040 = .ok (.iload 5, 2) := by decide +kernel
theorem d_law_1042 : decode b_law 1042 = .ok (.ifCond .ne 14, 3) := by decide +kernel
theorem d_law_1045 : decode b_law 1045 = .ok (.aload_n 3, 1) := by decide +kernel
theorem d_law_1046 : decode b_law 1046 = .ok (.iconst 0, 1) := by decide +kernel
theorem d_law_1047 : decode b_law 1047 = .ok (.laload, 1) := by decide +kernel
theorem d_law_1048 : decode b_law 1048 = .ok (.lload 6, 2) := by decide +kernel
theorem d_law_1050 : decode b_law 1050 = .ok (.lcmp, 1) := by decide +kernel
theorem d_law_1051 : decode b_law 1051 = .ok (.ifCond .eq 5, 3) := by decide +kernel
theorem d_law_1054 : decode b_law 1054 = .ok (.iconst 0, 1) := by decide +kernel
theorem d_law_1055 : decode b_law 1055 = .ok (.ireturn, 1) := by decide +kernel
theorem d_law_1056 : decode b_law 1056 = .ok (.goto 302, 3) := by decide +kernel
theorem d_law_1059 : decode b_law 1059 = .ok (.aload_n 1, 1) := by decide +kernel
theorem d_law_1060 : decode b_law 1060 = .ok (.invokevirtual 99, 3) := by decide +kernel
theorem d_law_1063 : decode b_law 1063 = .ok (.aload_n 2, 1) := by decide +kernel
theorem d_law_1064 : decode b_law 1064 = .ok (.invokevirtual 102, 3) := by decide +kernel
theorem d_law_1067 : decode b_law 1067 = .ok (.if_icmp .eq 291, 3) := by decide +kernel
theorem d_law_1070 : decode b_law 1070 = .ok (.iconst 0, 1) := by decide +kernel
theorem d_law_1071 : decode b_law 1071 = .ok (.ireturn, 1) := by decide +kernel
theorem d_law_1072 : decode b_law 1072 = .ok (.aload_n 1, 1) := by decide +kernel
theorem d_law_1073 : decode b_law 1073 = .ok (.aload_n 0, 1) := by decide +kernel
theorem d_law_1074 : decode b_law 1074 = .ok (.iload 4, 2) := by decide +kernel
theorem d_law_1076 : decode b_law 1076 = .ok (.iconst 1, 1) := by decide +kernel
theorem d_law_1077 : decode b_law 1077 = .ok (.iadd, 1) := by decide +kernel
theorem d_law_1078 : decode b_law 1078 = .ok (.iaload, 1) := by decide +kernel
theorem d_law_1079 : decode b_law 1079 = .ok (.aload_n 0, 1) := by decide +kernel
theorem d_law_1080 : decode b_law 1080 = .ok (.iload 4, 2) := by decide +kernel
theorem d_law_1082 : decode b_law 1082 = .ok (.iconst 2, 1) := by decide +kernel
theorem d_law_1083 : decode b_law 1083 = .ok (.iadd, 1) := by decide +kernel
theorem d_law_1084 : decode b_law 1084 = .ok (.iaload, 1) := by decide +kernel
theorem d_law_1085 : decode b_law 1085 = .ok (.aload_n 3, 1) := by decide +kernel
theorem d_law_1086 : decode b_law 1086 = .ok (.invokestatic 103, 3) := by decide +kernel
theorem d_law_1089 : decode b_law 1089 = .ok (.istore 5, 2) := by decide +kernel
theorem d_law_1091 : decode b_law 1091 = .ok (.aload_n 2, 1) := by decide +kernel
theorem d_law_1092 : decode b_law 1092 = .ok (.aload_n 0, 1) := by decide +kernel
theorem d_law_1093 : decode b_law 1093 = .ok (.iload 4, 2) := by decide +kernel
theorem d_law_1095 : decode b_law 1095 = .ok (.iconst 1, 1) := by decide +kernel
theorem d_law_1096 : decode b_law 1096 = .ok (.iadd, 1) := by decide +kernel
theorem d_law_1097 : decode b_law 1097 = .ok (.iaload, 1) := by decide +kernel
theorem d_law_1098 : decode b_law 1098 = .ok (.aload_n 0, 1) := by decide +kernel
theorem d_law_1099 : decode b_law 1099 = .ok (.iload 4, 2) := by decide +kernel
theorem d_law_1101 : decode b_law 1101 = .ok (.iconst 2, 1) := by decide +kernel
theorem d_law_1102 : decode b_law 1102 = .ok (.iadd, 1) := by decide +kernel
theorem d_law_1103 : decode b_law 1103 = .ok (.iaload, 1) := by decide +kernel
theorem d_law_1104 : decode b_law 1104 = .ok (.invokevirtual 105, 3) := by decide +kernel
theorem d_law_1107 : decode b_law 1107 = .ok (.lstore 6, 2) := by decide +kernel
theorem d_law_1109 : decode b_law 1109 = .ok (.aload_n 2, 1) := by decide +kernel
theorem d_law_1110 : decode b_law 1110 = .ok (.invokevirtual 69, 3) := by decide +kernel
theorem d_law_1113 : decode b_law 1113 = .ok (.iload 5, 2) := by decide +kernel
theorem d_law_1115 : decode b_law 1115 = .ok (.if_icmp .eq 5, 3) := by decide +kernel
theorem d_law_1118 : decode b_law 1118 = .ok (.iconst 0, 1) := by decide +kernel
theorem d_law_1119 : decode b_law 1119 = .ok (.ireturn, 1) := by decide +kernel
theorem d_law_1120 : decode b_law 1120 = .ok (.iload 5, 2) := by decide +kernel
theorem d_law_1122 : decode b_law 1122 = .ok (.ifCond .ne 14, 3) := by decide +kernel
theorem d_law_1125 : decode b_law 1125 = .ok (.aload_n 3, 1) := by decide +kernel
theorem d_law_1126 : decode b_law 1126 = .ok (.iconst 0, 1) := by decide +kernel
theorem d_law_1127 : decode b_law 1127 = .ok (.laload, 1) := by decide +kernel
theorem d_law_1128 : decode b_law 1128 = .ok (.lload 6, 2) := by decide +kernel
theorem d_law_1130 : decode b_law 1130 = .ok (.lcmp, 1) := by decide +kernel
theorem d_law_1131 : decode b_law 1131 = .ok (.ifCond .eq 5, 3) := by decide +kernel
theorem d_law_1134 : decode b_law 1134 = .ok (.iconst 0, 1) := by decide +kernel
theorem d_law_1135 : decode b_law 1135 = .ok (.ireturn, 1) := by decide +kernel
theorem d_law_1136 : decode b_law 1136 = .ok (.goto 222, 3) := by decide +kernel
theorem d_law_1139 : decode b_law 1139 = .ok (.aload_n 1, 1) := by decide +kernel
theorem d_law_1140 : decode b_law 1140 = .ok (.aload_n 0, 1) := by decide +kernel
theorem d_law_1141 : decode b_law 1141 = .ok (.iload 4, 2) := by decide +kernel
theorem d_law_1143 : decode b_law 1143 = .ok (.iconst 1, 1) := by decide +kernel
theorem d_law_1144 : decode b_law 1144 = .ok (.iadd, 1) := by decide +kernel
theorem d_law_1145 : decode b_law 1145 = .ok (.iaload, 1) := by decide +kernel
theorem d_law_1146 : decode b_law 1146 = .ok (.invokevirtual 106, 3) := by decide +kernel
theorem d_law_1149 : decode b_law 1149 = .ok (.aload_n 2, 1) := by decide +kernel
theorem d_law_1150 : decode b_law 1150 = .ok (.aload_n 0, 1) := by decide +kernel
theorem d_law_1151 : decode b_law 1151 = .ok (.iload 4, 2) := by decide +kernel
theorem d_law_1153 : decode b_law 1153 = .ok (.iconst 1, 1) := by decide +kernel
theorem d_law_1154 : decode b_law 1154 = .ok (.iadd, 1) := by decide +kernel
theorem d_law_1155 : decode b_law 1155 = .ok (.iaload, 1) := by decide +kernel
theorem d_law_1156 : decode b_law 1156 = .ok (.invokevirtual 109, 3) := by decide +kernel
theorem d_law_1159 : decode b_law 1159 = .ok (.if_icmp .eq 199, 3) := by decide +kernel
theorem d_law_1162 : decode b_law 1162 = .ok (.iconst 0, 1) := by decide +kernel
theorem d_law_1163 : decode b_law 1163 = .ok (.ireturn, 1) := by decide +kernel
theorem d_law_1164 : decode b_law 1164 = .ok (.aload_n 1, 1) := by decide +kernel
theorem d_law_1165 : decode b_law 1165 = .ok (.aload_n 0, 1) := by decide +kernel
theorem d_law_1166 : decode b_law 1166 = .ok (.iload 4, 2) := by decide +kernel
theorem d_law_1168 : decode b_law 1168 = .ok (.iconst 1, 1) := by decide +kernel
theorem d_law_1169 : decode b_law 1169 = .ok (.iadd, 1) := by decide +kernel
theorem d_law_1170 : decode b_law 1170 = .ok (.iaload, 1) := by decide +kernel
theorem d_law_1171 : decode b_law 1171 = .ok (.aload_n 0, 1) := by decide +kernel
theorem d_law_1172 : decode b_law 1172 = .ok (.iload 4, 2) := by decide +kernel
theorem d_law_1174 : decode b_law 1174 = .ok (.iconst 2, 1) := by decide +kernel
theorem d_law_1175 : decode b_law 1175 = .ok (.iadd, 1) := by decide +kernel
theorem d_law_1176 : decode b_law 1176 = .ok (.iaload, 1) := by decide +kernel
theorem d_law_1177 : decode b_law 1177 = .ok (.aload_n 0, 1) := by decide +kernel
theorem d_law_1178 : decode b_law 1178 = .ok (.iload 4, 2) := by decide +kernel
theorem d_law_1180 : decode b_law 1180 = .ok (.iconst 3, 1) := by decide +kernel
theorem d_law_1181 : decode b_law 1181 = .ok (.iadd, 1) := by decide +kernel
theorem d_law_1182 : decode b_law 1182 = .ok (.iaload, 1) := by decide +kernel
theorem d_law_1183 : decode b_law 1183 = .ok (.aload_n 3, 1) := by decide +kernel
theorem d_law_1184 : decode b_law 1184 = .ok (.invokestatic 110, 3) := by decide +kernel
theorem d_law_1187 : decode b_law 1187 = .ok (.istore 5, 2) := by decide +kernel
theorem d_law_1189 : decode b_law 1189 = .ok (.aload_n 2, 1) := by decide +kernel
theorem d_law_1190 : decode b_law 1190 = .ok (.aload_n 0, 1) := by decide +kernel
theorem d_law_1191 : decode b_law 1191 = .ok (.iload 4, 2) := by decide +kernel
theorem d_law_1193 : decode b_law 1193 = .ok (.iconst 1, 1) := by decide +kernel
theorem d_law_1194 : decode b_law 1194 = .ok (.iadd, 1) := by decide +kernel
theorem d_law_1195 : decode b_law 1195 = .ok (.iaload, 1) := by decide +kernel
theorem d_law_1196 : decode b_law 1196 = .ok (.aload_n 0, 1) := by decide +kernel
theorem d_law_1197 : decode b_law 1197 = .ok (.iload 4, 2) := by decide +kernel
theorem d_law_1199 : decode b_law 1199 = .ok (.iconst 2, 1) := by decide +kernel
theorem d_law_1200 : decode b_law 1200 = .ok (.iadd, 1) := by decide +kernel
theorem d_law_1201 : decode b_law 1201 = .ok (.iaload, 1) := by decide +kernel
theorem d_law_1202 : decode b_law 1202 = .ok (.aload_n 0, 1) := by decide +kernel
theorem d_law_1203 : decode b_law 1203 = .ok (.iload 4, 2) := by decide +kernel
theorem d_law_1205 : decode b_law 1205 = .ok (.iconst 3, 1) := by decide +kernel
theorem d_law_1206 : decode b_law 1206 = .ok (.iadd, 1) := by decide +kernel
theorem d_law_1207 : decode b_law 1207 = .ok (.iaload, 1) := by decide +kernel
theorem d_law_1208 : decode b_law 1208 = .ok (.invokevirtual 112, 3) := by decide +kernel
theorem d_law_1211 : decode b_law 1211 = .ok (.istore 6, 2) := by decide +kernel
theorem d_law_1213 : decode b_law 1213 = .ok (.aload_n 2, 1) := by decide +kernel
theorem d_law_1214 : decode b_law 1214 = .ok (.invokevirtual 69, 3) := by decide +kernel
theorem d_law_1217 : decode b_law 1217 = .ok (.iload 5, 2) := by decide +kernel
theorem d_law_1219 : decode b_law 1219 = .ok (.if_icmp .eq 5, 3) := by decide +kernel
theorem d_law_1222 : decode b_law 1222 = .ok (.iconst 0, 1) := by decide +kernel
theorem d_law_1223 : decode b_law 1223 = .ok (.ireturn, 1) := by decide +kernel
theorem d_law_1224 : decode b_law 1224 = .ok (.iload 5, 2) := by decide +kernel
theorem d_law_1226 : decode b_law 1226 = .ok (.ifCond .ne 15, 3) := by decide +kernel
theorem d_law_1229 : decode b_law 1229 = .ok (.aload_n 3, 1) := by decide +kernel
theorem d_law_1230 : decode b_law 1230 = .ok (.iconst 0, 1) := by decide +kernel
theorem d_law_1231 : decode b_law 1231 = .ok (.laload, 1) := by decide +kernel
theorem d_law_1232 : decode b_law 1232 = .ok (.iload 6, 2) := by decide +kernel
theorem d_law_1234 : decode b_law 1234 = .ok (.i2l, 1) := by decide +kernel
theorem d_law_1235 : decode b_law 1235 = .ok (.lcmp, 1) := by decide +kernel
theorem d_law_1236 : decode b_law 1236 = .ok (.ifCond .eq 5, 3) := by decide +kernel
theorem d_law_1239 : decode b_law 1239 = .ok (.iconst 0, 1) := by decide +kernel
theorem d_law_1240 : decode b_law 1240 = .ok (.ireturn, 1) := by decide +kernel
theorem d_law_1241 : decode b_law 1241 = .ok (.goto 117, 3) := by decide +kernel
theorem d_law_1244 : decode b_law 1244 = .ok (.aload_n 1, 1) := by decide +kernel
theorem d_law_1245 : decode b_law 1245 = .ok (.aload_n 0, 1) := by decide +kernel
theorem d_law_1246 : decode b_law 1246 = .ok (.iload 4, 2) := by decide +kernel
theorem d_law_1248 : decode b_law 1248 = .ok (.iconst 1, 1) := by decide +kernel
theorem d_law_1249 : decode b_law 1249 = .ok (.iadd, 1) := by decide +kernel
theorem d_law_1250 : decode b_law 1250 = .ok (.iaload, 1) := by decide +kernel
theorem d_law_1251 : decode b_law 1251 = .ok (.aload_n 3, 1) := by decide +kernel
theorem d_law_1252 : decode b_law 1252 = .ok (.invokestatic 113, 3) := by decide +kernel
theorem d_law_1255 : decode b_law 1255 = .ok (.istore 5, 2) := by decide +kernel
theorem d_law_1257 : decode b_law 1257 = .ok (.aload_n 2, 1) := by decide +kernel
theorem d_law_1258 : decode b_law 1258 = .ok (.aload_n 0, 1) := by decide +kernel
theorem d_law_1259 : decode b_law 1259 = .ok (.iload 4, 2) := by decide +kernel
theorem d_law_1261 : decode b_law 1261 = .ok (.iconst 1, 1) := by decide +kernel
theorem d_law_1262 : decode b_law 1262 = .ok (.iadd, 1) := by decide +kernel
theorem d_law_1263 : decode b_law 1263 = .ok (.iaload, 1) := by decide +kernel
theorem d_law_1264 : decode b_law 1264 = .ok (.invokevirtual 115, 3) := by decide +kernel
theorem d_law_1267 : decode b_law 1267 = .ok (.istore 6, 2) := by decide +kernel
theorem d_law_1269 : decode b_law 1269 = .ok (.aload_n 2, 1) := by decide +kernel
theorem d_law_1270 : decode b_law 1270 = .ok (.invokevirtual 69, 3) := by decide +kernel
theorem d_law_1273 : decode b_law 1273 = .ok (.iload 5, 2) := by decide +kernel
theorem d_law_1275 : decode b_law 1275 = .ok (.if_icmp .eq 5, 3) := by decide +kernel
theorem d_law_1278 : decode b_law 1278 = .ok (.iconst 0, 1) := by decide +kernel
theorem d_law_1279 : decode b_law 1279 = .ok (.ireturn, 1) := by decide +kernel
theorem d_law_1280 : decode b_law 1280 = .ok (.iload 5, 2) := by decide +kernel
theorem d_law_1282 : decode b_law 1282 = .ok (.ifCond .ne 22, 3) := by decide +kernel
theorem d_law_1285 : decode b_law 1285 = .ok (.aload_n 3, 1) := by decide +kernel
theorem d_law_1286 : decode b_law 1286 = .ok (.iconst 0, 1) := by decide +kernel
theorem d_law_1287 : decode b_law 1287 = .ok (.laload, 1) := by decide +kernel
theorem d_law_1288 : decode b_law 1288 = .ok (.iload 6, 2) := by decide +kernel
theorem d_law_1290 : decode b_law 1290 = .ok (.ifCond .eq 7, 3) := by decide +kernel
theorem d_law_1293 : decode b_law 1293 = .ok (.lconst 1, 1) := by decide +kernel
theorem d_law_1294 : decode b_law 1294 = .ok (.goto 4, 3) := by decide +kernel
theorem d_law_1297 : decode b_law 1297 = .ok (.lconst 0, 1) := by decide +kernel
theorem d_law_1298 : decode b_law 1298 = .ok (.lcmp, 1) := by decide +kernel
theorem d_law_1299 : decode b_law 1299 = .ok (.ifCond .eq 5, 3) := by decide +kernel
theorem d_law_1302 : decode b_law 1302 = .ok (.iconst 0, 1) := by decide +kernel
theorem d_law_1303 : decode b_law 1303 = .ok (.ireturn, 1) := by decide +kernel
theorem d_law_1304 : decode b_law 1304 = .ok (.goto 54, 3) := by decide +kernel
theorem d_law_1307 : decode b_law 1307 = .ok (.aload_n 1, 1) := by decide +kernel
theorem d_law_1308 : decode b_law 1308 = .ok (.invokevirtual 116, 3) := by decide +kernel
theorem d_law_1311 : decode b_law 1311 = .ok (.aload_n 2, 1) := by decide +kernel
theorem d_law_1312 : decode b_law 1312 = .ok (.invokevirtual 120, 3) := by decide +kernel
theorem d_law_1315 : decode b_law 1315 = .ok (.if_icmp .eq 43, 3) := by decide +kernel
theorem d_law_1318 : decode b_law 1318 = .ok (.iconst 0, 1) := by decide +kernel
theorem d_law_1319 : decode b_law 1319 = .ok (.ireturn, 1) := by decide +kernel
theorem d_law_1320 : decode b_law 1320 = .ok (.aload_n 1, 1) := by decide +kernel
theorem d_law_1321 : decode b_law 1321 = .ok (.aload_n 0, 1) := by decide +kernel
theorem d_law_1322 : decode b_law 1322 = .ok (.iload 4, 2) := by decide +kernel
theorem d_law_1324 : decode b_law 1324 = .ok (.iconst 1, 1) := by decide +kernel
theorem d_law_1325 : decode b_law 1325 = .ok (.iadd, 1) := by decide +kernel
theorem d_law_1326 : decode b_law 1326 = .ok (.iaload, 1) := by decide +kernel
theorem d_law_1327 : decode b_law 1327 = .ok (.invokevirtual 121, 3) := by decide +kernel
theorem d_law_1330 : decode b_law 1330 = .ok (.aload_n 2, 1) := by decide +kernel
theorem d_law_1331 : decode b_law 1331 = .ok (.aload_n 0, 1) := by decide +kernel
theorem d_law_1332 : decode b_law 1332 = .ok (.iload 4, 2) := by decide +kernel
theorem d_law_1334 : decode b_law 1334 = .ok (.iconst 1, 1) := by decide +kernel
theorem d_law_1335 : decode b_law 1335 = .ok (.iadd, 1) := by decide +kernel
theorem d_law_1336 : decode b_law 1336 = .ok (.iaload, 1) := by decide +kernel
theorem d_law_1337 : decode b_law 1337 = .ok (.invokevirtual 124, 3) := by decide +kernel
theorem d_law_1340 : decode b_law 1340 = .ok (.if_icmp .eq 18, 3) := by decide +kernel
theorem d_law_1343 : decode b_law 1343 = .ok (.iconst 0, 1) := by decide +kernel
theorem d_law_1344 : decode b_law 1344 = .ok (.ireturn, 1) := by decide +kernel
theorem d_law_1345 : decode b_law 1345 = .ok (.aload_n 1, 1) := by decide +kernel
theorem d_law_1346 : decode b_law 1346 = .ok (.invokevirtual 125, 3) := by decide +kernel
theorem d_law_1349 : decode b_law 1349 = .ok (.aload_n 2, 1) := by decide +kernel
theorem d_law_1350 : decode b_law 1350 = .ok (.invokevirtual 128, 3) := by decide +kernel
theorem d_law_1353 : decode b_law 1353 = .ok (.if_icmp .eq 5, 3) := by decide +kernel
theorem d_law_1356 : decode b_law 1356 = .ok (.iconst 0, 1) := by decide +kernel
theorem d_law_1357 : decode b_law 1357 = .ok (.ireturn, 1) := by decide +kernel
theorem d_law_1358 : decode b_law 1358 = .ok (.iinc 4 10, 3) := by decide +kernel
theorem d_law_1361 : decode b_law 1361 = .ok (.goto (-1328), 3) := by decide +kernel
theorem d_law_1364 : decode b_law 1364 = .ok (.iconst 1, 1) := by decide +kernel
theorem d_law_1365 : decode b_law 1365 = .ok (.ireturn, 1) := by decide +kernel
