theorem zdc_351_6 : ∀ q ∈ zi_351_6, decode code q.1 = .ok q.2 := by decide +kernel
