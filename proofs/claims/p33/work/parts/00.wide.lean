/-! a law of doubles that stands in the rest of the library: the claim is read over the whole of it -/
theorem wide_ddiv (a b : UInt64) : Jvm.FP.Core.val64 (Jvm.FP.Core.ddiv a b) = Jvm.FP.Core.quotient Jvm.FP.Core.b64 (Jvm.FP.Core.val64 a) (Jvm.FP.Core.val64 b) := Jvm.FP.Core.val64_ddiv a b
