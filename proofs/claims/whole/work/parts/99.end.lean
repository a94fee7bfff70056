theorem sm_last_row : (1 : Nat) = 1 := rfl
