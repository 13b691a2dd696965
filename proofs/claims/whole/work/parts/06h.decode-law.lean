theorem zdc_351_7 : ∀ q ∈ zi_351_7, decode code q.1 = .ok q.2 := by decide +kernel
