theorem zdc_351_2 : ∀ q ∈ zi_351_2, decode code q.1 = .ok q.2 := by decide +kernel
