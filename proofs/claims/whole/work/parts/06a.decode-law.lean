theorem zdc_351_0 : ∀ q ∈ zi_351_0, decode code q.1 = .ok q.2 := by decide +kernel
