theorem zdc_351_8 : ∀ q ∈ zi_351_8, decode code q.1 = .ok q.2 := by decide +kernel
