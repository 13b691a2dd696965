theorem zz_probe : (1 : Nat) + 1 = 2 := rfl
theorem zz_probe2 : tables_1.length = tables_1.length := rfl
