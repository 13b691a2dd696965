theorem zdc_351_1 : ∀ q ∈ zi_351_1, decode code q.1 = .ok q.2 := by decide +kernel
