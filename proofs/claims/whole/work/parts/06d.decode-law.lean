theorem zdc_351_3 : ∀ q ∈ zi_351_3, decode code q.1 = .ok q.2 := by decide +kernel
