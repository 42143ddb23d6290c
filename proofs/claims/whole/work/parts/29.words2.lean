/-! words that the parts behind this one use besides -/
set_option maxRecDepth 20000 in
theorem tw_550 : (Jvm.Cond.methodLink "CopperNetsModel" (1 : Nat) ({ cls := "java/lang/Object", name := "<init>", desc := "()V" } : Jvm.MethodName)) ∈ cn_tb := cn_t3 70 rfl rfl
