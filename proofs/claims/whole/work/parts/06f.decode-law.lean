theorem zdc_351_5 : ∀ q ∈ zi_351_5, decode code q.1 = .ok q.2 := by decide +kernel
