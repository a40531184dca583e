/-! Checks of contracts, by the kernel. -/
theorem kt_465 : kGo kc_465 = true := fGo_go (by decide +kernel)
theorem kt_466 : kGo kc_466 = true := fGo_go (by decide +kernel)
theorem kt_467 : kGo kc_467 = true := fGo_go (by decide +kernel)
theorem kt_468 : kGo kc_468 = true := fGo_go (by decide +kernel)
theorem kt_469 : kGo kc_469 = true := fGo_go (by decide +kernel)
theorem kt_470 : kGo kc_470 = true := fGo_go (by decide +kernel)
