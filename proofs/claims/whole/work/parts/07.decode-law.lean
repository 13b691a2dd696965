set_option maxRecDepth 100000 in
theorem zdl_all : zchk 536 (code.data.toList.drop 536) (zi_351_1 ++ (zi_351_2 ++ (zi_351_3 ++ (zi_351_4 ++ (zi_351_5 ++ (zi_351_6 ++ (zi_351_7 ++ (zi_351_8)))))))) = true := by decide +kernel
theorem zdc_351 : ∀ q ∈ zi_351, decode code q.1 = .ok q.2 := List.forall_mem_append.mpr ⟨zdc_351_0, zchk_ok _ _ _ rfl zdl_all⟩
