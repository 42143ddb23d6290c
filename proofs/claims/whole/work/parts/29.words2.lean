/-! words that the parts behind this one use besides -/

