theorem zz_probe : (1 : Nat) + 1 = 2 := rfl
