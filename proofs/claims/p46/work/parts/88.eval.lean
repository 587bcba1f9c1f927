/-! The class reads its own first setup: by the kernel. -/
def zd0 : zD := fun _ _ => 0
def zdA : zD := zdT (zdC zd0) 33
def first_sees (d : zD) : List Int := [d 10 5, d 10 6, d 13 0, d 14 0, d 14 1, d 15 0, d 15 1, d 16 0, d 16 1, d 17 0, d 17 1, d 12 4, d 12 5, d 18 0, d 18 1, d 18 2, d 18 3, d 18 4, d 18 5, d 19 0, d 19 1]
theorem first_ev : (f_X7_readText zdA).map (fun r => (r.1, first_sees r.2)) = some (1, [0, -1, 2, 1, 2, 2, 2, 2, 2, 5, 5, 2, 1, 5, 3, 2, 8, 1, 0, 0, 1]) := by decide +kernel
