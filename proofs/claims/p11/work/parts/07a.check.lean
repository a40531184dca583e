/-! The tables' checks, by the kernel. -/
theorem eqT_0 : (List.range' 0 40).all eqMw = true := by decide +kernel
theorem eqT_40 : (List.range' 40 40).all eqMw = true := by decide +kernel
theorem eqT_80 : (List.range' 80 40).all eqMw = true := by decide +kernel
theorem eqT_120 : (List.range' 120 40).all eqMw = true := by decide +kernel
theorem eqT_160 : (List.range' 160 40).all eqMw = true := by decide +kernel
theorem eqT_200 : (List.range' 200 40).all eqMw = true := by decide +kernel
theorem eqT_240 : (List.range' 240 40).all eqMw = true := by decide +kernel
