/-! floats: the library's laws -/
theorem fp_mul {a b : UInt32} (ha : Jvm.FP.Core.FFin a) (hb : Jvm.FP.Core.FFin b) : Jvm.FP.Core.fIsNaN (Jvm.FP.Core.fmul a b) = false := Jvm.FP.Core.fmul_out ha hb
