theorem zz_last : (1:Nat) = 1 := rfl
