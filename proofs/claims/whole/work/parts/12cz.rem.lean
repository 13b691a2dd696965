theorem e_remV {z : ZE} {d n pc : Nat} {ls r : List Value} {h : Hp} {x y : Int32} (hf : zfetch n pc = some (.irem, 1)) : ev z d n pc ls (.int y :: .int x :: r) h = if y = 0 then none else ev z d n (pc + 1) ls (.int (x - x / y * y) :: r) h := by
  by_cases hy : y = 0
  · rw [if_pos hy]
    exact ev_none_of hf (show (if y = 0 then none else zgo (pc + 1) ls (.int (x - x / y * y) :: r) h) = none from if_pos hy) rfl rfl
  · rw [if_neg hy]; exact e_rem hf hy
