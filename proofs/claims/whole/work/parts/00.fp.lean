/-! the laws of floating numbers are read from here on -/
theorem fp_good : FP.Core.Good FP.Core.b64 := FP.Core.good_b64
