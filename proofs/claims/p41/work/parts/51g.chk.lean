/-! Checks of contracts, by the kernel. -/
theorem kt_596 : kGo kc_596 = true := fGo_go (by decide +kernel)
theorem kt_597 : kGo kc_597 = true := fGo_go (by decide +kernel)
theorem kt_600 : kGo kc_600 = true := fGo_go (by decide +kernel)
theorem kt_601 : kGo kc_601 = true := fGo_go (by decide +kernel)
