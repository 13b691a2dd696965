theorem zdc_351_4 : ∀ q ∈ zi_351_4, decode code q.1 = .ok q.2 := by decide +kernel
