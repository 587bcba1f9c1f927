/-! A quotient of two ints, in the words of part 83. -/
theorem NN64_ok : NN64 := fun x y hy hn => nn_raw64 (zI x) (zI y) fun e => hn ((zI_eq hy (y := 0) ⟨by omega, by omega⟩).mp e)
theorem NN32_ok : NN32 := fun x y hy hn => nn_raw32 (zI x) (zI y) fun e => hn ((zI_eq hy (y := 0) ⟨by omega, by omega⟩).mp e)
