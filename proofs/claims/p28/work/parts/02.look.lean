theorem zz_look : (1 : Nat) + 1 = 2 := rfl
