theorem zz_last : am_K = 5 := rfl
