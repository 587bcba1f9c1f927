/-! The reference's methods over the pure heap. -/
def f_X12_thrown  (d : zD) : Option (Int × zD) :=
  zl (d 400 0) fun v1 =>
  some (v1, d)
def f_X12_isIn  (x0 x1 x2 : Int) (d : zD) : Option (Int × zD) :=
  if (x0 : Int) < x1 then (
    some (0, d))
  else (
    if (x2 : Int) < x0 then (
      some (0, d))
    else (
      some (1, d)))
def l_X12_copies_3F (a0 : Nat) (n0 : Nat) (a2 : Nat) (n2 : Nat) (r3 : Int → Int → Int → Int → zD → Option (Int × zD)) (x1 x3 x4 x5 : Int) (d : zD) : Option (Int × zD) :=
  if (x4 : Int) ≤ x5 then (
    some (0, d))
  else (
    zl (zw (x3 + x5)) fun v14 =>
    zl (zw (x1 + x5)) fun v19 =>
    zg n0 v19 <| zl (d a0 (v19 : Int).toNat) fun v20 =>
    zg n2 v14 <| zl (zu d a2 (v14 : Int).toNat v20) fun d =>
    zl (zw (x5 + 1)) fun v22 =>
    r3 x1 x3 x4 v22 d)
def l_X12_copies_3 (a0 : Nat) (n0 : Nat) (a2 : Nat) (n2 : Nat)  : Nat → Int → Int → Int → Int → zD → Option (Int × zD)
  | 0, _, _, _, _, _ => none
  | q + 1, x1, x3, x4, x5, d => l_X12_copies_3F a0 n0 a2 n2  (l_X12_copies_3 a0 n0 a2 n2  q) x1 x3 x4 x5 d
def f_X12_copies (a0 : Nat) (n0 : Nat) (a2 : Nat) (n2 : Nat) (x1 x3 x4 : Int) (d : zD) : Option (Int × zD) :=
  l_X12_copies_3 a0 n0 a2 n2  zF x1 x3 x4 0 d
def l_X12_begins_2F  (r2 : Int → zD → Option (Int × zD)) (x1 : Int) (d : zD) : Option (Int × zD) :=
  if (800 : Int) ≤ x1 then (
    zg 800 5 <| zl (zu d 401 (5 : Int).toNat 1) fun d =>
    zg 800 6 <| zl (zu d 401 (6 : Int).toNat 5) fun d =>
    zg 800 7 <| zl (zu d 401 (7 : Int).toNat 3) fun d =>
    zg 800 8 <| zl (zu d 401 (8 : Int).toNat 2) fun d =>
    zg 800 9 <| zl (zu d 401 (9 : Int).toNat 8) fun d =>
    zg 800 10 <| zl (zu d 401 (10 : Int).toNat 1) fun d =>
    zg 800 26 <| zl (zu d 401 (26 : Int).toNat (-1)) fun d =>
    zg 800 27 <| zl (zu d 401 (27 : Int).toNat (-1)) fun d =>
    zg 800 28 <| zl (zu d 401 (28 : Int).toNat (-1)) fun d =>
    some (0, d))
  else (
    zg 800 x1 <| zl (zu d 401 (x1 : Int).toNat 0) fun d =>
    zl (zw (x1 + 1)) fun v16 =>
    r2 v16 d)
def l_X12_begins_2   : Nat → Int → zD → Option (Int × zD)
  | 0, _, _ => none
  | q + 1, x1, d => l_X12_begins_2F   (l_X12_begins_2   q) x1 d
def f_X12_begins  (d : zD) : Option (Int × zD) :=
  l_X12_begins_2   zF 0 d
def f_X12_least  (x0 : Int) (d : zD) : Option (Int × zD) :=
  if (3 : Int) ≤ x0 then (
    some (0, d))
  else (
    some (1, d))
def f_X12_greatest  (x0 : Int) (d : zD) : Option (Int × zD) :=
  if (x0 : Int) = 0 then (
    some (20, d))
  else (
    if (x0 : Int) = 3 then (
      some (20, d))
    else (
      if (x0 : Int) = 5 then (
        some (99, d))
      else (
        some (5, d))))
def f_X12_many  (d : zD) : Option (Int × zD) :=
  zg 800 0 <| zl (d 401 (0 : Int).toNat) fun v5 =>
  some (v5, d)
def f_X12_isTerminal  (x1 : Int) (d : zD) : Option (Int × zD) :=
  zc (f_X12_many   d) fun v3 d =>
  zl (zw (v3 - 1)) fun v7 =>
  zc (f_X12_isIn  x1 0 v7 d) fun v8 d =>
  some (v8, d)
def f_X12_of  (x1 x2 : Int) (d : zD) : Option (Int × zD) :=
  zl (zw (16 * x1)) fun v9 =>
  zl (zw (50 + v9)) fun v10 =>
  zl (zw (v10 + x2)) fun v12 =>
  zg 800 v12 <| zl (d 401 (v12 : Int).toNat) fun v13 =>
  some (v13, d)
def f_X12_puts  (x1 x2 x3 : Int) (d : zD) : Option (Int × zD) :=
  zl (zw (16 * x1)) fun v9 =>
  zl (zw (50 + v9)) fun v10 =>
  zl (zw (v10 + x2)) fun v12 =>
  zg 800 v12 <| zl (zu d 401 (v12 : Int).toNat x3) fun d =>
  some (0, d)
def f_X12_turnsBit  (x1 x2 : Int) (d : zD) : Option (Int × zD) :=
  zc (f_X12_of  x1 x2 d) fun v7 d =>
  zl (zw (1 - v7)) fun v10 =>
  zc (f_X12_puts  x1 x2 v10 d) fun _ d =>
  some (0, d)
def f_X12_grows  (x1 x2 : Int) (d : zD) : Option (Int × zD) :=
  zc (f_X12_of  x1 x2 d) fun v6 d =>
  zl (zw (v6 + 1)) fun v10 =>
  zc (f_X12_puts  x1 x2 v10 d) fun _ d =>
  some (0, d)
def f_X12_message0  (x1 x2 : Int) (d : zD) : Option (Int × zD) :=
  zl (zw (12 * x1)) fun v10 =>
  zl (zw (200 + v10)) fun v11 =>
  zl (zw (v11 + x2)) fun v13 =>
  zg 800 v13 <| zl (d 401 (v13 : Int).toNat) fun v14 =>
  some (v14, d)
def f_X12_tells  (x1 x2 x3 : Int) (d : zD) : Option (Int × zD) :=
  zl (zw (12 * x1)) fun v10 =>
  zl (zw (200 + v10)) fun v11 =>
  zl (zw (v11 + x2)) fun v13 =>
  zg 800 v13 <| zl (zu d 401 (v13 : Int).toNat x3) fun d =>
  some (0, d)
def f_X12_counts  (x1 : Int) (d : zD) : Option (Int × zD) :=
  zl (zw (12 + x1)) fun v7 =>
  zl (zw (12 + x1)) fun v15 =>
  zg 800 v15 <| zl (d 401 (v15 : Int).toNat) fun v16 =>
  zl (zw (v16 + 1)) fun v18 =>
  zg 800 v7 <| zl (zu d 401 (v7 : Int).toNat v18) fun d =>
  some (0, d)
def f_X12_nextNumber  (d : zD) : Option (Int × zD) :=
  zg 800 46 <| zl (d 401 (46 : Int).toNat) fun v12 =>
  zl (zw (v12 + 1)) fun v14 =>
  zg 800 46 <| zl (zu d 401 (46 : Int).toNat v14) fun d =>
  zg 800 46 <| zl (d 401 (46 : Int).toNat) fun v22 =>
  some (v22, d)
def f_X12_lays  (x1 x2 x3 x4 : Int) (d : zD) : Option (Int × zD) :=
  zc (f_X12_many   d) fun v1 d =>
  zc (f_X12_puts  v1 0 x2 d) fun _ d =>
  zc (f_X12_puts  v1 1 x3 d) fun _ d =>
  zc (f_X12_puts  v1 2 x4 d) fun _ d =>
  zc (f_X12_puts  v1 3 1 d) fun _ d =>
  zc (f_X12_puts  v1 4 1 d) fun _ d =>
  zc (f_X12_puts  v1 15 x1 d) fun _ d =>
  zl (zw (v1 + 1)) fun v64 =>
  zg 800 0 <| zl (zu d 401 (0 : Int).toNat v64) fun d =>
  some (0, d)
def j_X12_orderIn_59   (s0 s1 : Int) (d : zD) : Option (Int × zD) :=
  zc (f_X12_message0  s1 s0 d) fun v59 d =>
  some (v59, d)
def f_X12_orderIn  (x1 x2 x3 : Int) (d : zD) : Option (Int × zD) :=
  if (x3 : Int) = 0 then (
    zc (f_X12_message0  x1 0 d) fun v7 d =>
    if (v7 : Int) = x2 then (
      zc (f_X12_message0  x1 8 d) fun v18 d =>
      if (v18 : Int) = 1 then (
        zl (zw (x1 + 1)) fun v27 =>
        some (v27, d))
      else (
        some (0, d)))
    else (
      some (0, d)))
  else (
    zc (f_X12_message0  x1 1 d) fun v36 d =>
    if (v36 : Int) = x2 then (
      if (x3 : Int) = 1 then (
        j_X12_orderIn_59   9 x1 d)
      else (
        j_X12_orderIn_59   10 x1 d))
    else (
      some (0, d)))
def l_X12_inRowMany_5F  (r5 : Int → Int → Int → Int → zD → Option (Int × zD)) (x1 x2 x3 x4 : Int) (d : zD) : Option (Int × zD) :=
  zg 800 2 <| zl (d 401 (2 : Int).toNat) fun v12 =>
  if (v12 : Int) ≤ x4 then (
    some (x3, d))
  else (
    zc (f_X12_orderIn  x4 x1 x2 d) fun v21 d =>
    if (v21 : Int) ≤ 0 then (
      zl (zw (x4 + 1)) fun v31 =>
      r5 x1 x2 x3 v31 d)
    else (
      zl (zw (x3 + 1)) fun v29 =>
      zl (zw (x4 + 1)) fun v31 =>
      r5 x1 x2 v29 v31 d))
def l_X12_inRowMany_5   : Nat → Int → Int → Int → Int → zD → Option (Int × zD)
  | 0, _, _, _, _, _ => none
  | q + 1, x1, x2, x3, x4, d => l_X12_inRowMany_5F   (l_X12_inRowMany_5   q) x1 x2 x3 x4 d
def f_X12_inRowMany  (x1 x2 : Int) (d : zD) : Option (Int × zD) :=
  l_X12_inRowMany_5   zF x1 x2 0 0 d
def l_X12_aheadOf_6F  (r6 : Int → Int → Int → Int → Int → zD → Option (Int × zD)) (x1 x2 x3 x4 x5 : Int) (d : zD) : Option (Int × zD) :=
  zg 800 2 <| zl (d 401 (2 : Int).toNat) fun v13 =>
  if (v13 : Int) ≤ x5 then (
    some (x4, d))
  else (
    zc (f_X12_orderIn  x5 x2 x3 d) fun v22 d =>
    if (v22 : Int) ≤ 0 then (
      zl (zw (x5 + 1)) fun v52 =>
      r6 x1 x2 x3 x4 v52 d)
    else (
      zc (f_X12_orderIn  x5 x2 x3 d) fun v33 d =>
      zc (f_X12_orderIn  x1 x2 x3 d) fun v40 d =>
      if (v40 : Int) ≤ v33 then (
        zl (zw (x5 + 1)) fun v52 =>
        r6 x1 x2 x3 x4 v52 d)
      else (
        zl (zw (x4 + 1)) fun v49 =>
        zl (zw (x5 + 1)) fun v52 =>
        r6 x1 x2 x3 v49 v52 d)))
def l_X12_aheadOf_6   : Nat → Int → Int → Int → Int → Int → zD → Option (Int × zD)
  | 0, _, _, _, _, _, _ => none
  | q + 1, x1, x2, x3, x4, x5, d => l_X12_aheadOf_6F   (l_X12_aheadOf_6   q) x1 x2 x3 x4 x5 d
def f_X12_aheadOf  (x1 x2 x3 : Int) (d : zD) : Option (Int × zD) :=
  l_X12_aheadOf_6   zF x1 x2 x3 0 0 d
def l_X12_rowAt_3F  (r3 : Int → Int → Int → Int → zD → Option (Int × zD)) (x1 x2 x3 x4 : Int) (d : zD) : Option (Int × zD) :=
  zg 800 2 <| zl (d 401 (2 : Int).toNat) fun v10 =>
  if (v10 : Int) ≤ x4 then (
    some ((-1), d))
  else (
    zc (f_X12_orderIn  x4 x1 x2 d) fun v19 d =>
    if (v19 : Int) ≤ 0 then (
      zl (zw (x4 + 1)) fun v40 =>
      r3 x1 x2 x3 v40 d)
    else (
      zc (f_X12_aheadOf  x4 x1 x2 d) fun v30 d =>
      if (v30 : Int) = x3 then (
        some (x4, d))
      else (
        zl (zw (x4 + 1)) fun v40 =>
        r3 x1 x2 x3 v40 d)))
def l_X12_rowAt_3   : Nat → Int → Int → Int → Int → zD → Option (Int × zD)
  | 0, _, _, _, _, _ => none
  | q + 1, x1, x2, x3, x4, d => l_X12_rowAt_3F   (l_X12_rowAt_3   q) x1 x2 x3 x4 d
def f_X12_rowAt  (x1 x2 x3 : Int) (d : zD) : Option (Int × zD) :=
  l_X12_rowAt_3   zF x1 x2 x3 0 d
def f_X12_delivers  (x1 x2 : Int) (d : zD) : Option (Int × zD) :=
  zc (f_X12_tells  x1 3 3 d) fun _ d =>
  zc (f_X12_tells  x1 7 x2 d) fun _ d =>
  some (0, d)
def l_X12_settles_8F  (r8 : Int → Int → zD → Option (Int × zD)) (x1 x2 : Int) (d : zD) : Option (Int × zD) :=
  if (x2 : Int) = (-1) then (
    some (0, d))
  else (
    zc (f_X12_of  x1 10 d) fun v17 d =>
    zc (f_X12_of  x1 2 d) fun v23 d =>
    zl (zw (v17 + v23)) fun v26 =>
    zg 800 3 <| zl (d 401 (3 : Int).toNat) fun v32 =>
    if (v32 : Int) < v26 then (
      some (0, d))
    else (
      zc (f_X12_of  x1 10 d) fun v44 d =>
      zc (f_X12_of  x1 2 d) fun v50 d =>
      zl (zw (v44 + v50)) fun v53 =>
      zc (f_X12_puts  x1 10 v53 d) fun _ d =>
      zc (f_X12_of  x1 10 d) fun v63 d =>
      zc (f_X12_delivers  x2 v63 d) fun _ d =>
      zc (f_X12_tells  x2 10 0 d) fun _ d =>
      zc (f_X12_rowAt  x1 2 0 d) fun v81 d =>
      r8 x1 v81 d))
def l_X12_settles_8   : Nat → Int → Int → zD → Option (Int × zD)
  | 0, _, _, _ => none
  | q + 1, x1, x2, d => l_X12_settles_8F   (l_X12_settles_8   q) x1 x2 d
def f_X12_settles  (x1 : Int) (d : zD) : Option (Int × zD) :=
  zc (f_X12_rowAt  x1 2 0 d) fun v4 d =>
  l_X12_settles_8   zF x1 v4 d
def l_X12_passes_16F  (r16 : Int → zD → Option (Int × zD)) (x2 : Int) (d : zD) : Option (Int × zD) :=
  zc (f_X12_many   d) fun v18 d =>
  if (v18 : Int) ≤ x2 then (
    some (0, d))
  else (
    zc (f_X12_settles  x2 d) fun _ d =>
    zl (zw (x2 + 1)) fun v29 =>
    r16 v29 d)
def l_X12_passes_16   : Nat → Int → zD → Option (Int × zD)
  | 0, _, _ => none
  | q + 1, x2, d => l_X12_passes_16F   (l_X12_passes_16   q) x2 d
def f_X12_passes  (x1 : Int) (d : zD) : Option (Int × zD) :=
  zg 800 3 <| zl (d 401 (3 : Int).toNat) fun v10 =>
  zl (zw (v10 + x1)) fun v12 =>
  zg 800 3 <| zl (zu d 401 (3 : Int).toNat v12) fun d =>
  l_X12_passes_16   zF 0 d
def j_X12_sends_55   (s0 : Int) (d : zD) : Option (Int × zD) :=
  if (s0 : Int) = 0 then (
    zz s0 <|
    some (s0, d))
  else (
    zc (f_X12_counts  1 d) fun _ d =>
    zz s0 <|
    some (s0, d))
def f_X12_sends  (x1 : Int) (d : zD) : Option (Int × zD) :=
  zc (f_X12_counts  0 d) fun _ d =>
  zc (f_X12_passes  x1 d) fun _ d =>
  zg 800 5 <| zl (d 401 (5 : Int).toNat) fun v22 =>
  zl (zw (75 * v22)) fun v23 =>
  zl (zw (v23 + 74)) fun v26 =>
  zn 65537 <| zl (zrem v26 65537) fun v29 =>
  zg 800 5 <| zl (zu d 401 (5 : Int).toNat v29) fun d =>
  zg 800 5 <| zl (d 401 (5 : Int).toNat) fun v36 =>
  zn 100 <| zl (zrem v36 100) fun v39 =>
  zg 800 11 <| zl (d 401 (11 : Int).toNat) fun v46 =>
  if (v46 : Int) ≤ v39 then (
    j_X12_sends_55   0 d)
  else (
    j_X12_sends_55   1 d)
def f_X12_refuses  (d : zD) : Option (Int × zD) :=
  zc (f_X12_sends  1 d) fun v2 d =>
  zc (f_X12_counts  10 d) fun _ d =>
  some (0, d)
def f_X12_hostTakes  (x1 : Int) (d : zD) : Option (Int × zD) :=
  zc (f_X12_counts  3 d) fun _ d =>
  zg 800 3 <| zl (d 401 (3 : Int).toNat) fun v13 =>
  zc (f_X12_tells  x1 5 v13 d) fun _ d =>
  zc (f_X12_message0  x1 1 d) fun v20 d =>
  if (v20 : Int) = (-1) then (
    zg 800 3 <| zl (d 401 (3 : Int).toNat) fun v34 =>
    zc (f_X12_delivers  x1 v34 d) fun _ d =>
    some (0, d))
  else (
    zc (f_X12_tells  x1 3 1 d) fun _ d =>
    zc (f_X12_nextNumber   d) fun v51 d =>
    zc (f_X12_tells  x1 9 v51 d) fun _ d =>
    some (0, d))
def j_X12_calls_47   (x3 s0 : Int) (d : zD) : Option (Int × zD) :=
  zc (f_X12_passes  s0 d) fun _ d =>
  zz x3 <|
  some (x3, d)
def j_X12_calls_25   (x1 s0 : Int) (d : zD) : Option (Int × zD) :=
  if (s0 : Int) = 0 then (
    zg 800 6 <| zl (d 401 (6 : Int).toNat) fun v46 =>
    j_X12_calls_47   s0 v46 d)
  else (
    zc (f_X12_of  x1 0 d) fun v34 d =>
    j_X12_calls_47   s0 v34 d)
def j_X12_calls_24   (x1 : Int) (d : zD) : Option (Int × zD) :=
  j_X12_calls_25   x1 0 d
def f_X12_calls  (x1 : Int) (d : zD) : Option (Int × zD) :=
  zc (f_X12_sends  1 d) fun v2 d =>
  if (v2 : Int) = 0 then (
    zc (f_X12_of  x1 3 d) fun v13 d =>
    if (v13 : Int) = 1 then (
      j_X12_calls_25   x1 1 d)
    else (
      j_X12_calls_24   x1 d))
  else (
    j_X12_calls_24   x1 d)
def j_X12_pollTry_129   (x3 : Int) (d : zD) : Option (Int × zD) :=
  if (x3 : Int) = 0 then (
    some (3, d))
  else (
    some (2, d))
def j_X12_pollTry_106   (x1 x2 x3 : Int) (d : zD) : Option (Int × zD) :=
  zc (f_X12_sends  1 d) fun v108 d =>
  if (v108 : Int) = 0 then (
    zc (f_X12_tells  x2 8 0 d) fun _ d =>
    zc (f_X12_turnsBit  x1 6 d) fun _ d =>
    j_X12_pollTry_129   x3 d)
  else (
    j_X12_pollTry_129   x3 d)
def j_X12_pollTry_81   (x1 x2 s0 : Int) (d : zD) : Option (Int × zD) :=
  if (s0 : Int) = 0 then (
    zc (f_X12_counts  4 d) fun _ d =>
    j_X12_pollTry_106   x1 x2 s0 d)
  else (
    zc (f_X12_hostTakes  x2 d) fun _ d =>
    zc (f_X12_turnsBit  x1 9 d) fun _ d =>
    j_X12_pollTry_106   x1 x2 s0 d)
def f_X12_pollTry  (x1 : Int) (d : zD) : Option (Int × zD) :=
  zc (f_X12_calls  x1 d) fun v2 d =>
  if (v2 : Int) = 0 then (
    some (0, d))
  else (
    zc (f_X12_rowAt  x1 0 0 d) fun v14 d =>
    if (v14 : Int) = (-1) then (
      zc (f_X12_sends  1 d) fun v25 d =>
      if (v25 : Int) = 0 then (
        zc (f_X12_counts  2 d) fun _ d =>
        some (1, d))
      else (
        some (0, d)))
    else (
      zc (f_X12_message0  v14 2 d) fun v44 d =>
      zc (f_X12_sends  v44 d) fun v47 d =>
      if (v47 : Int) = 0 then (
        zc (f_X12_of  x1 6 d) fun v63 d =>
        zc (f_X12_of  x1 9 d) fun v70 d =>
        if (v63 : Int) = v70 then (
          j_X12_pollTry_81   x1 v14 1 d)
        else (
          j_X12_pollTry_81   x1 v14 0 d))
      else (
        zc (f_X12_refuses   d) fun _ d =>
        some (0, d))))
def j_X12_comesIntoBuffer_22   (x1 x2 : Int) (d : zD) : Option (Int × zD) :=
  zg 800 3 <| zl (d 401 (3 : Int).toNat) fun v31 =>
  zc (f_X12_tells  x1 6 v31 d) fun _ d =>
  zc (f_X12_tells  x1 3 2 d) fun _ d =>
  zc (f_X12_nextNumber   d) fun v47 d =>
  zc (f_X12_tells  x1 10 v47 d) fun _ d =>
  zc (f_X12_turnsBit  x2 7 d) fun _ d =>
  zc (f_X12_settles  x2 d) fun _ d =>
  some (0, d)
def f_X12_comesIntoBuffer  (x1 x2 : Int) (d : zD) : Option (Int × zD) :=
  zc (f_X12_inRowMany  x2 2 d) fun v3 d =>
  if (v3 : Int) = 0 then (
    zg 800 3 <| zl (d 401 (3 : Int).toNat) fun v18 =>
    zc (f_X12_puts  x2 10 v18 d) fun _ d =>
    j_X12_comesIntoBuffer_22   x1 x2 d)
  else (
    j_X12_comesIntoBuffer_22   x1 x2 d)
def j_X12_selectTry_111   (x1 x2 : Int) (d : zD) : Option (Int × zD) :=
  zc (f_X12_sends  1 d) fun v113 d =>
  if (v113 : Int) = 0 then (
    zc (f_X12_tells  x2 9 0 d) fun _ d =>
    zc (f_X12_turnsBit  x1 8 d) fun _ d =>
    zc (f_X12_counts  5 d) fun _ d =>
    some (2, d))
  else (
    some (0, d))
def j_X12_selectTry_38   (x1 x2 s0 : Int) (d : zD) : Option (Int × zD) :=
  zc (f_X12_sends  1 d) fun v41 d =>
  if (v41 : Int) = 0 then (
    if (s0 : Int) = 0 then (
      zc (f_X12_counts  6 d) fun _ d =>
      some (4, d))
    else (
      zc (f_X12_message0  x2 2 d) fun v65 d =>
      zc (f_X12_sends  v65 d) fun v68 d =>
      if (v68 : Int) = 0 then (
        zc (f_X12_of  x1 8 d) fun v84 d =>
        zc (f_X12_of  x1 7 d) fun v91 d =>
        if (v84 : Int) = v91 then (
          zc (f_X12_comesIntoBuffer  x2 x1 d) fun _ d =>
          j_X12_selectTry_111   x1 x2 d)
        else (
          zc (f_X12_counts  4 d) fun _ d =>
          j_X12_selectTry_111   x1 x2 d))
      else (
        zc (f_X12_refuses   d) fun _ d =>
        some (0, d))))
  else (
    some (0, d))
def f_X12_selectTry  (x1 : Int) (d : zD) : Option (Int × zD) :=
  zc (f_X12_rowAt  x1 1 0 d) fun v4 d =>
  zc (f_X12_calls  x1 d) fun v10 d =>
  if (v10 : Int) = 0 then (
    some (0, d))
  else (
    zc (f_X12_inRowMany  x1 2 d) fun v21 d =>
    zc (f_X12_of  x1 1 d) fun v27 d =>
    if (v27 : Int) ≤ v21 then (
      j_X12_selectTry_38   x1 v4 0 d)
    else (
      j_X12_selectTry_38   x1 v4 1 d))
def j_X12_tries_66  (r25 : Int → Int → Int → Int → zD → Option (Int × zD)) (x1 x2 x3 s0 : Int) (d : zD) : Option (Int × zD) :=
  if (s0 : Int) = 0 then (
    zc (f_X12_counts  7 d) fun _ d =>
    r25 x1 x2 x3 s0 d)
  else (
    r25 x1 x2 x3 s0 d)
def l_X12_tries_25F  (r25 : Int → Int → Int → Int → zD → Option (Int × zD)) (x1 x2 x3 x4 : Int) (d : zD) : Option (Int × zD) :=
  if (x4 : Int) = 0 then (
    zl (d 400 7) fun v31 =>
    if (x3 : Int) ≤ v31 then (
      some (x4, d))
    else (
      zl (d 400 7) fun v40 =>
      zl (zw (v40 + 1)) fun v44 =>
      zl (zu d 400 7 v44) fun d =>
      if (x2 : Int) = 1 then (
        zc (f_X12_selectTry  x1 d) fun v55 d =>
        j_X12_tries_66  r25 x1 x2 x3 v55 d)
      else (
        zc (f_X12_pollTry  x1 d) fun v63 d =>
        j_X12_tries_66  r25 x1 x2 x3 v63 d)))
  else (
    some (x4, d))
def l_X12_tries_25   : Nat → Int → Int → Int → Int → zD → Option (Int × zD)
  | 0, _, _, _, _, _ => none
  | q + 1, x1, x2, x3, x4, d => l_X12_tries_25F   (l_X12_tries_25   q) x1 x2 x3 x4 d
def j_X12_tries_16   (x1 x2 s0 : Int) (d : zD) : Option (Int × zD) :=
  zl (zu d 400 7 0) fun d =>
  l_X12_tries_25   zF x1 x2 s0 0 d
def f_X12_tries  (x1 x2 : Int) (d : zD) : Option (Int × zD) :=
  if (x2 : Int) = 2 then (
    j_X12_tries_16   x1 x2 1 d)
  else (
    zg 800 7 <| zl (d 401 (7 : Int).toNat) fun v15 =>
    j_X12_tries_16   x1 x2 v15 d)
def f_X12_isMissed  (x1 : Int) (d : zD) : Option (Int × zD) :=
  zc (f_X12_counts  8 d) fun _ d =>
  zc (f_X12_grows  x1 14 d) fun _ d =>
  zc (f_X12_grows  x1 5 d) fun _ d =>
  zc (f_X12_of  x1 5 d) fun v22 d =>
  zg 800 8 <| zl (d 401 (8 : Int).toNat) fun v31 =>
  if (v22 : Int) < v31 then (
    some (0, d))
  else (
    zc (f_X12_of  x1 4 d) fun v38 d =>
    if (v38 : Int) = 0 then (
      some (0, d))
    else (
      zc (f_X12_puts  x1 4 0 d) fun _ d =>
      zc (f_X12_counts  9 d) fun _ d =>
      some (0, d)))
def l_X12_nextOff_2F  (r2 : Int → zD → Option (Int × zD)) (x1 : Int) (d : zD) : Option (Int × zD) :=
  zc (f_X12_many   d) fun v4 d =>
  if (v4 : Int) < x1 then (
    some ((-1), d))
  else (
    zg 800 28 <| zl (d 401 (28 : Int).toNat) fun v16 =>
    zl (zw (v16 + x1)) fun v18 =>
    zc (f_X12_many   d) fun v20 d =>
    zn v20 <| zl (zrem v18 v20) fun v23 =>
    zc (f_X12_of  v23 4 d) fun v28 d =>
    if (v28 : Int) = 0 then (
      some (v23, d))
    else (
      zl (zw (x1 + 1)) fun v36 =>
      r2 v36 d))
def l_X12_nextOff_2   : Nat → Int → zD → Option (Int × zD)
  | 0, _, _ => none
  | q + 1, x1, d => l_X12_nextOff_2F   (l_X12_nextOff_2   q) x1 d
def f_X12_nextOff  (d : zD) : Option (Int × zD) :=
  l_X12_nextOff_2   zF 1 d
def l_X12_nextSelected_2F  (r2 : Int → zD → Option (Int × zD)) (x1 : Int) (d : zD) : Option (Int × zD) :=
  zc (f_X12_many   d) fun v4 d =>
  if (v4 : Int) < x1 then (
    some ((-1), d))
  else (
    zg 800 27 <| zl (d 401 (27 : Int).toNat) fun v16 =>
    zl (zw (v16 + x1)) fun v18 =>
    zc (f_X12_many   d) fun v20 d =>
    zn v20 <| zl (zrem v18 v20) fun v23 =>
    zc (f_X12_of  v23 4 d) fun v28 d =>
    if (v28 : Int) = 1 then (
      zc (f_X12_inRowMany  v23 1 d) fun v38 d =>
      if (v38 : Int) ≤ 0 then (
        zl (zw (x1 + 1)) fun v46 =>
        r2 v46 d)
      else (
        some (v23, d)))
    else (
      zl (zw (x1 + 1)) fun v46 =>
      r2 v46 d))
def l_X12_nextSelected_2   : Nat → Int → zD → Option (Int × zD)
  | 0, _, _ => none
  | q + 1, x1, d => l_X12_nextSelected_2F   (l_X12_nextSelected_2   q) x1 d
def f_X12_nextSelected  (d : zD) : Option (Int × zD) :=
  l_X12_nextSelected_2   zF 1 d
def l_X12_nextPlace_34F  (r34 : Int → Int → Int → zD → Option (Int × zD)) (x1 x2 x3 : Int) (d : zD) : Option (Int × zD) :=
  if (x1 : Int) < x3 then (
    some ((-1), d))
  else (
    zl (zw (x2 + x3)) fun v41 =>
    zn x1 <| zl (zrem v41 x1) fun v43 =>
    zl (zw (30 + v43)) fun v55 =>
    zg 800 v55 <| zl (d 401 (v55 : Int).toNat) fun v56 =>
    zc (f_X12_of  v56 4 d) fun v58 d =>
    if (v58 : Int) = 1 then (
      some (v43, d))
    else (
      zl (zw (x3 + 1)) fun v68 =>
      r34 x1 x2 v68 d))
def l_X12_nextPlace_34   : Nat → Int → Int → Int → zD → Option (Int × zD)
  | 0, _, _, _, _ => none
  | q + 1, x1, x2, x3, d => l_X12_nextPlace_34F   (l_X12_nextPlace_34   q) x1 x2 x3 d
def j_X12_nextPlace_31   (x1 s0 : Int) (d : zD) : Option (Int × zD) :=
  l_X12_nextPlace_34   zF x1 s0 1 d
def f_X12_nextPlace  (d : zD) : Option (Int × zD) :=
  zg 800 1 <| zl (d 401 (1 : Int).toNat) fun v5 =>
  zg 800 26 <| zl (d 401 (26 : Int).toNat) fun v13 =>
  if (v5 : Int) ≤ v13 then (
    zl (zw (v5 - 1)) fun v30 =>
    j_X12_nextPlace_31   v5 v30 d)
  else (
    zg 800 26 <| zl (d 401 (26 : Int).toNat) fun v24 =>
    j_X12_nextPlace_31   v5 v24 d)
def j_X12_next_88   (x3 : Int) (d : zD) : Option (Int × zD) :=
  zc (f_X12_nextPlace   d) fun v90 d =>
  zl (zu d 400 9 v90) fun d =>
  zl (d 400 9) fun v97 =>
  if (v97 : Int) = (-1) then (
    if (x3 : Int) = (-1) then (
      some (3, d))
    else (
      some (1, d)))
  else (
    zl (d 400 9) fun v112 =>
    zl (zw (30 + v112)) fun v115 =>
    zg 800 v115 <| zl (d 401 (v115 : Int).toNat) fun v116 =>
    zl (zu d 400 8 v116) fun d =>
    some (0, d))
def j_X12_next_41   (s0 : Int) (d : zD) : Option (Int × zD) :=
  zl (zu d 400 8 s0) fun d =>
  zl (d 400 8) fun v45 =>
  if (v45 : Int) = (-1) then (
    zc (f_X12_nextSelected   d) fun v55 d =>
    zl (zu d 400 8 v55) fun d =>
    if (v55 : Int) = (-1) then (
      j_X12_next_88   v55 d)
    else (
      zg 800 25 <| zl (d 401 (25 : Int).toNat) fun v75 =>
      zg 800 10 <| zl (d 401 (10 : Int).toNat) fun v82 =>
      if (v82 : Int) ≤ v75 then (
        j_X12_next_88   v55 d)
      else (
        some (1, d))))
  else (
    some (2, d))
def j_X12_next_40   (d : zD) : Option (Int × zD) :=
  j_X12_next_41   (-1) d
def f_X12_next  (d : zD) : Option (Int × zD) :=
  zg 800 4 <| zl (d 401 (4 : Int).toNat) fun v5 =>
  zl (zw (v5 + 1)) fun v7 =>
  zg 800 9 <| zl (d 401 (9 : Int).toNat) fun v15 =>
  zl (zu d 400 9 (-1)) fun d =>
  if (v15 : Int) ≤ 0 then (
    j_X12_next_40    d)
  else (
    zn v15 <| zl (zrem v7 v15) fun v29 =>
    if (v29 : Int) = 0 then (
      zc (f_X12_nextOff   d) fun v34 d =>
      j_X12_next_41   v34 d)
    else (
      j_X12_next_40    d))
def f_X12_remembers  (x1 x2 : Int) (d : zD) : Option (Int × zD) :=
  zl (zw (11 + x1)) fun v5 =>
  zc (f_X12_grows  x2 v5 d) fun _ d =>
  if (x1 : Int) = 2 then (
    zc (f_X12_counts  11 d) fun _ d =>
    zg 800 28 <| zl (zu d 401 (28 : Int).toNat x2) fun d =>
    some (0, d))
  else (
    if (x1 : Int) = 1 then (
      zg 800 25 <| zl (d 401 (25 : Int).toNat) fun v48 =>
      zl (zw (v48 + 1)) fun v50 =>
      zg 800 25 <| zl (zu d 401 (25 : Int).toNat v50) fun d =>
      zg 800 27 <| zl (zu d 401 (27 : Int).toNat x2) fun d =>
      some (0, d))
    else (
      zg 800 25 <| zl (zu d 401 (25 : Int).toNat 0) fun d =>
      zl (d 400 9) fun v78 =>
      zg 800 26 <| zl (zu d 401 (26 : Int).toNat v78) fun d =>
      some (0, d)))
def j_X12_keepsTurn_47   (x1 x2 x3 x4 : Int) (d : zD) : Option (Int × zD) :=
  zg 800 29 <| zl (d 401 (29 : Int).toNat) fun v57 =>
  zl (zw (5 * v57)) fun v58 =>
  zl (zw (700 + v58)) fun v59 =>
  zg 800 v59 <| zl (zu d 401 (v59 : Int).toNat x1) fun d =>
  zl (zw (v59 + 1)) fun v77 =>
  zg 800 v77 <| zl (zu d 401 (v77 : Int).toNat x2) fun d =>
  zl (zw (v59 + 2)) fun v87 =>
  zg 800 v87 <| zl (zu d 401 (v87 : Int).toNat x3) fun d =>
  zl (zw (v59 + 3)) fun v97 =>
  zg 800 v97 <| zl (zu d 401 (v97 : Int).toNat x4) fun d =>
  zl (zw (v59 + 4)) fun v108 =>
  zg 800 3 <| zl (d 401 (3 : Int).toNat) fun v114 =>
  zg 800 v108 <| zl (zu d 401 (v108 : Int).toNat v114) fun d =>
  zg 800 29 <| zl (d 401 (29 : Int).toNat) fun v128 =>
  zl (zw (v128 + 1)) fun v130 =>
  zg 800 29 <| zl (zu d 401 (29 : Int).toNat v130) fun d =>
  some (0, d)
def f_X12_keepsTurn  (x1 x2 x3 x4 : Int) (d : zD) : Option (Int × zD) :=
  zg 800 29 <| zl (d 401 (29 : Int).toNat) fun v6 =>
  if (v6 : Int) = 20 then (
    zc (f_X12_copies 401 800 401 800 705 700 95 d) fun _ d =>
    zg 800 29 <| zl (d 401 (29 : Int).toNat) fun v43 =>
    zl (zw (v43 - 1)) fun v45 =>
    zg 800 29 <| zl (zu d 401 (29 : Int).toNat v45) fun d =>
    j_X12_keepsTurn_47   x1 x2 x3 x4 d)
  else (
    j_X12_keepsTurn_47   x1 x2 x3 x4 d)
def j_X12_turns_93   (x1 x2 x3 : Int) (d : zD) : Option (Int × zD) :=
  zl (d 400 7) fun v98 =>
  zc (f_X12_keepsTurn  x1 x2 x3 v98 d) fun _ d =>
  some (0, d)
def f_X12_turns  (d : zD) : Option (Int × zD) :=
  zc (f_X12_next   d) fun v1 d =>
  zl (d 400 8) fun v6 =>
  zg 800 4 <| zl (d 401 (4 : Int).toNat) fun v20 =>
  zl (zw (v20 + 1)) fun v22 =>
  zg 800 4 <| zl (zu d 401 (4 : Int).toNat v22) fun d =>
  if (v1 : Int) = 3 then (
    zc (f_X12_counts  12 d) fun _ d =>
    zc (f_X12_passes  1 d) fun _ d =>
    zc (f_X12_keepsTurn  3 (-1) 0 0 d) fun _ d =>
    some (0, d))
  else (
    zc (f_X12_remembers  v1 v6 d) fun _ d =>
    zc (f_X12_tries  v6 v1 d) fun v58 d =>
    if (v58 : Int) = 0 then (
      if (v1 : Int) = 2 then (
        j_X12_turns_93   v1 v6 v58 d)
      else (
        zc (f_X12_isMissed  v6 d) fun _ d =>
        j_X12_turns_93   v1 v6 v58 d))
    else (
      zc (f_X12_puts  v6 5 0 d) fun _ d =>
      zc (f_X12_puts  v6 4 1 d) fun _ d =>
      j_X12_turns_93   v1 v6 v58 d))
def l_X12_inState_4F  (r4 : Int → Int → Int → zD → Option (Int × zD)) (x1 x2 x3 : Int) (d : zD) : Option (Int × zD) :=
  zg 800 2 <| zl (d 401 (2 : Int).toNat) fun v10 =>
  if (v10 : Int) ≤ x3 then (
    some (x2, d))
  else (
    zc (f_X12_message0  x3 3 d) fun v17 d =>
    if (v17 : Int) = x1 then (
      zl (zw (x2 + 1)) fun v26 =>
      zl (zw (x3 + 1)) fun v28 =>
      r4 x1 v26 v28 d)
    else (
      zl (zw (x3 + 1)) fun v28 =>
      r4 x1 x2 v28 d))
def l_X12_inState_4   : Nat → Int → Int → Int → zD → Option (Int × zD)
  | 0, _, _, _, _ => none
  | q + 1, x1, x2, x3, d => l_X12_inState_4F   (l_X12_inState_4   q) x1 x2 x3 d
def f_X12_inState  (x1 : Int) (d : zD) : Option (Int × zD) :=
  l_X12_inState_4   zF x1 0 0 d
def l_X12_runsNow_8F  (r8 : Int → Int → Int → zD → Option (Int × zD)) (x1 x2 x3 : Int) (d : zD) : Option (Int × zD) :=
  if (x1 : Int) ≤ x3 then (
    zc (f_X12_inState  3 d) fun v25 d =>
    zl (zw (v25 - x2)) fun v29 =>
    some (v29, d))
  else (
    zc (f_X12_turns   d) fun _ d =>
    zl (zw (x3 + 1)) fun v17 =>
    r8 x1 x2 v17 d)
def l_X12_runsNow_8   : Nat → Int → Int → Int → zD → Option (Int × zD)
  | 0, _, _, _, _ => none
  | q + 1, x1, x2, x3, d => l_X12_runsNow_8F   (l_X12_runsNow_8   q) x1 x2 x3 d
def f_X12_runsNow  (x1 : Int) (d : zD) : Option (Int × zD) :=
  zc (f_X12_inState  3 d) fun v2 d =>
  l_X12_runsNow_8   zF x1 v2 0 d
def l_X12_puts4_3F  (r3 : Int → Int → zD → Option (Int × zD)) (x1 x2 : Int) (d : zD) : Option (Int × zD) :=
  if (x2 : Int) < 0 then (
    some (0, d))
  else (
    zl (d 400 11) fun v12 =>
    zl (zshr x1 x2) fun v17 =>
    zl (zb8 v17) fun v18 =>
    zg 600 v12 <| zl (zu d 405 (v12 : Int).toNat (zb8 v18)) fun d =>
    zl (d 400 11) fun v22 =>
    zl (zw (v22 + 1)) fun v26 =>
    zl (zu d 400 11 v26) fun d =>
    zl (zw (x2 + (-8))) fun v30 =>
    r3 x1 v30 d)
def l_X12_puts4_3   : Nat → Int → Int → zD → Option (Int × zD)
  | 0, _, _, _ => none
  | q + 1, x1, x2, d => l_X12_puts4_3F   (l_X12_puts4_3   q) x1 x2 d
def f_X12_puts4  (x1 : Int) (d : zD) : Option (Int × zD) :=
  l_X12_puts4_3   zF x1 24 d
def f_X12_appendInput  (x1 x2 x3 x4 x5 : Int) (d : zD) : Option (Int × zD) :=
  zl (zu d 400 0 0) fun d =>
  zl (d 400 11) fun v6 =>
  if (v6 : Int) ≤ 580 then (
    zc (f_X12_puts4  x1 d) fun _ d =>
    zc (f_X12_puts4  x2 d) fun _ d =>
    zc (f_X12_puts4  x3 d) fun _ d =>
    zc (f_X12_puts4  x4 d) fun _ d =>
    zc (f_X12_puts4  x5 d) fun _ d =>
    zl (d 400 11) fun v45 =>
    some (v45, d))
  else (
    some ((-1), d))
def f_X12_truncateInput  (x1 : Int) (d : zD) : Option (Int × zD) :=
  zl (zu d 400 0 0) fun d =>
  zl (d 400 11) fun v8 =>
  zc (f_X12_isIn  x1 0 v8 d) fun v11 d =>
  if (v11 : Int) = 0 then (
    some (0, d))
  else (
    zl (zu d 400 11 x1) fun d =>
    some (1, d))
def f_X12_errorCode  (d : zD) : Option (Int × zD) :=
  zl (zu d 400 0 0) fun d =>
  zl (d 400 12) fun v6 =>
  some (v6, d)
def f_X12_errorOffset  (d : zD) : Option (Int × zD) :=
  zl (zu d 400 0 0) fun d =>
  zl (d 400 13) fun v6 =>
  some (v6, d)
def f_X12_byteAt  (x1 : Int) (d : zD) : Option (Int × zD) :=
  zl (d 400 11) fun v2 =>
  if (v2 : Int) ≤ x1 then (
    some ((-1), d))
  else (
    zg 600 x1 <| zl (d 405 (x1 : Int).toNat) fun v13 =>
    zl (zand v13 255) fun v17 =>
    some (v17, d))
def j_X12_scans_26  (r0 : zD → Option (Int × zD)) (d : zD) : Option (Int × zD) :=
  zl (d 400 15) fun v28 =>
  zl (zw (v28 + 1)) fun v32 =>
  zl (zu d 400 15 v32) fun d =>
  r0  d
def j_X12_scans_283   (s0 : Int) (d : zD) : Option (Int × zD) :=
  zl (zu d 400 16 s0) fun d =>
  zl (d 400 15) fun v288 =>
  zl (zw (v288 + 1)) fun v292 =>
  zl (zu d 400 15 v292) fun d =>
  some (0, d)
def j_X12_scans_233  (r179 : zD → Option (Int × zD)) (d : zD) : Option (Int × zD) :=
  zl (d 400 15) fun v235 =>
  zl (zw (v235 + 1)) fun v239 =>
  zl (zu d 400 15 v239) fun d =>
  r179  d
def l_X12_scans_179F  (r179 : zD → Option (Int × zD)) (d : zD) : Option (Int × zD) :=
  zl (d 400 15) fun v181 =>
  zc (f_X12_byteAt  v181 d) fun v184 d =>
  zc (f_X12_isIn  v184 48 57 d) fun v191 d =>
  if (v191 : Int) = 0 then (
    zl (d 400 15) fun v248 =>
    zl (d 400 14) fun v252 =>
    zl (zw (v248 - v252)) fun v255 =>
    if (v255 : Int) ≤ 4 then (
      zl (zu d 400 16 2) fun d =>
      some (0, d))
    else (
      zl (zu d 400 16 4) fun d =>
      some (0, d)))
  else (
    zl (d 400 15) fun v198 =>
    zl (d 400 14) fun v202 =>
    zl (zw (v198 - v202)) fun v205 =>
    if (4 : Int) ≤ v205 then (
      j_X12_scans_233  r179  d)
    else (
      zl (d 400 17) fun v214 =>
      zl (zw (10 * v214)) fun v217 =>
      zl (d 400 15) fun v220 =>
      zc (f_X12_byteAt  v220 d) fun v223 d =>
      zl (zw (v217 + v223)) fun v226 =>
      zl (zw (v226 - 48)) fun v229 =>
      zl (zu d 400 17 v229) fun d =>
      j_X12_scans_233  r179  d))
def l_X12_scans_179   : Nat → zD → Option (Int × zD)
  | 0, _ => none
  | q + 1, d => l_X12_scans_179F   (l_X12_scans_179   q)  d
def j_X12_scans_147  (r90 : zD → Option (Int × zD)) (d : zD) : Option (Int × zD) :=
  zl (d 400 15) fun v149 =>
  zl (zw (v149 + 1)) fun v153 =>
  zl (zu d 400 15 v153) fun d =>
  r90  d
def l_X12_scans_90F  (r90 : zD → Option (Int × zD)) (d : zD) : Option (Int × zD) :=
  zl (d 400 15) fun v92 =>
  zc (f_X12_byteAt  v92 d) fun v95 d =>
  zc (f_X12_isIn  v95 97 122 d) fun v102 d =>
  if (v102 : Int) = 0 then (
    zl (zu d 400 16 1) fun d =>
    some (0, d))
  else (
    zl (d 400 15) fun v109 =>
    zl (d 400 14) fun v113 =>
    zl (zw (v109 - v113)) fun v116 =>
    if (6 : Int) ≤ v116 then (
      j_X12_scans_147  r90  d)
    else (
      zl (d 400 18) fun v126 =>
      zl (zw (32 * v126)) fun v129 =>
      zl (d 400 15) fun v132 =>
      zc (f_X12_byteAt  v132 d) fun v135 d =>
      zl (zw (v129 + v135)) fun v138 =>
      zl (zw (v138 - 97)) fun v141 =>
      zl (zw (v141 + 1)) fun v143 =>
      zl (zu d 400 18 v143) fun d =>
      j_X12_scans_147  r90  d))
def l_X12_scans_90   : Nat → zD → Option (Int × zD)
  | 0, _ => none
  | q + 1, d => l_X12_scans_90F   (l_X12_scans_90   q)  d
def l_X12_scans_0F  (r0 : zD → Option (Int × zD)) (d : zD) : Option (Int × zD) :=
  zl (d 400 15) fun v2 =>
  zc (f_X12_byteAt  v2 d) fun v5 d =>
  if (v5 : Int) = 32 then (
    j_X12_scans_26  r0  d)
  else (
    zl (d 400 15) fun v15 =>
    zc (f_X12_byteAt  v15 d) fun v18 d =>
    if (v18 : Int) = 10 then (
      j_X12_scans_26  r0  d)
    else (
      zl (d 400 15) fun v41 =>
      zl (zu d 400 14 v41) fun d =>
      zl (zu d 400 17 0) fun d =>
      zl (zu d 400 18 0) fun d =>
      zl (d 400 14) fun v59 =>
      zc (f_X12_byteAt  v59 d) fun v62 d =>
      if (v62 : Int) = (-1) then (
        zl (zu d 400 16 0) fun d =>
        some (0, d))
      else (
        zc (f_X12_isIn  v62 97 122 d) fun v84 d =>
        if (v84 : Int) = 0 then (
          zc (f_X12_isIn  v62 48 57 d) fun v173 d =>
          if (v173 : Int) = 0 then (
            if (v62 : Int) = 59 then (
              j_X12_scans_283   3 d)
            else (
              j_X12_scans_283   4 d))
          else (
            l_X12_scans_179   zF  d))
        else (
          l_X12_scans_90   zF  d))))
def l_X12_scans_0   : Nat → zD → Option (Int × zD)
  | 0, _ => none
  | q + 1, d => l_X12_scans_0F   (l_X12_scans_0   q)  d
def f_X12_scans  (d : zD) : Option (Int × zD) :=
  l_X12_scans_0   zF  d
def f_X12_startsText  (d : zD) : Option (Int × zD) :=
  zl (zu d 400 0 0) fun d =>
  zl (zu d 400 12 0) fun d =>
  zl (zu d 400 13 (-1)) fun d =>
  zl (zu d 400 15 0) fun d =>
  zc (f_X12_scans   d) fun _ d =>
  some (0, d)
def f_X12_isGood  (d : zD) : Option (Int × zD) :=
  zl (d 400 12) fun v1 =>
  if (v1 : Int) = 0 then (
    some (1, d))
  else (
    some (0, d))
def f_X12_errs  (x1 : Int) (d : zD) : Option (Int × zD) :=
  zc (f_X12_isGood   d) fun v1 d =>
  if (v1 : Int) = 0 then (
    some (0, d))
  else (
    zl (zu d 400 12 x1) fun d =>
    zl (d 400 14) fun v15 =>
    zl (zu d 400 13 v15) fun d =>
    some (0, d))
def f_X12_goesOn  (d : zD) : Option (Int × zD) :=
  zc (f_X12_isGood   d) fun v1 d =>
  if (v1 : Int) = 0 then (
    some (0, d))
  else (
    zc (f_X12_scans   d) fun _ d =>
    some (0, d))
def l_X12_isWord_35F (t1 : Nat) (r35 : Int → zD → Option (Int × zD)) (x2 : Int) (d : zD) : Option (Int × zD) :=
  zl (zslen t1 : Int) fun v37 =>
  if (v37 : Int) ≤ x2 then (
    some (1, d))
  else (
    zl (d 400 14) fun v45 =>
    zl (zw (v45 + x2)) fun v49 =>
    zc (f_X12_byteAt  v49 d) fun v50 d =>
    zg (zslen t1) x2 <| zl (zsch t1 (x2 : Int).toNat) fun v55 =>
    if (v50 : Int) = v55 then (
      zl (zw (x2 + 1)) fun v63 =>
      r35 v63 d)
    else (
      some (0, d)))
def l_X12_isWord_35 (t1 : Nat)  : Nat → Int → zD → Option (Int × zD)
  | 0, _, _ => none
  | q + 1, x2, d => l_X12_isWord_35F t1  (l_X12_isWord_35 t1  q) x2 d
def f_X12_isWord (t1 : Nat) (d : zD) : Option (Int × zD) :=
  zc (f_X12_isGood   d) fun v1 d =>
  if (v1 : Int) = 0 then (
    some (0, d))
  else (
    zl (d 400 16) fun v8 =>
    if (v8 : Int) = 1 then (
      zl (d 400 15) fun v16 =>
      zl (d 400 14) fun v20 =>
      zl (zw (v16 - v20)) fun v23 =>
      zl (zslen t1 : Int) fun v25 =>
      if (v23 : Int) = v25 then (
        l_X12_isWord_35 t1  zF 0 d)
      else (
        some (0, d)))
    else (
      some (0, d)))
def f_X12_takes (t1 : Nat) (d : zD) : Option (Int × zD) :=
  zc (f_X12_isWord t1  d) fun v2 d =>
  if (v2 : Int) = 0 then (
    some (v2, d))
  else (
    zc (f_X12_scans   d) fun _ d =>
    some (v2, d))
def j_X12_semicolon_13   (d : zD) : Option (Int × zD) :=
  zc (f_X12_goesOn   d) fun _ d =>
  some (0, d)
def f_X12_semicolon  (d : zD) : Option (Int × zD) :=
  zl (d 400 16) fun v1 =>
  if (v1 : Int) = 3 then (
    j_X12_semicolon_13    d)
  else (
    zc (f_X12_errs  1 d) fun _ d =>
    j_X12_semicolon_13    d)
def j_X12_number_48   (s0 : Int) (d : zD) : Option (Int × zD) :=
  zc (f_X12_goesOn   d) fun _ d =>
  some (s0, d)
def j_X12_number_33   (x1 : Int) (d : zD) : Option (Int × zD) :=
  zc (f_X12_isGood   d) fun v34 d =>
  if (v34 : Int) = 0 then (
    j_X12_number_48   x1 d)
  else (
    zl (d 400 17) fun v41 =>
    j_X12_number_48   v41 d)
def f_X12_number  (x1 x2 : Int) (d : zD) : Option (Int × zD) :=
  zl (d 400 16) fun v1 =>
  if (v1 : Int) = 2 then (
    zl (d 400 17) fun v17 =>
    zc (f_X12_isIn  v17 x1 x2 d) fun v22 d =>
    if (v22 : Int) = 0 then (
      zc (f_X12_errs  2 d) fun _ d =>
      j_X12_number_33   x1 d)
    else (
      j_X12_number_33   x1 d))
  else (
    zc (f_X12_errs  1 d) fun _ d =>
    j_X12_number_33   x1 d)
def f_X12_optional (t1 : Nat) (x2 x3 x4 : Int) (d : zD) : Option (Int × zD) :=
  zc (f_X12_takes t1  d) fun v2 d =>
  if (v2 : Int) = 0 then (
    some (x4, d))
  else (
    zc (f_X12_number  x2 x3 d) fun v11 d =>
    some (v11, d))
def l_X12_named_2F  (r2 : Int → zD → Option (Int × zD)) (x1 : Int) (d : zD) : Option (Int × zD) :=
  zc (f_X12_many   d) fun v4 d =>
  if (v4 : Int) ≤ x1 then (
    some ((-1), d))
  else (
    zc (f_X12_of  x1 15 d) fun v14 d =>
    zl (d 400 18) fun v18 =>
    if (v14 : Int) = v18 then (
      some (x1, d))
    else (
      zl (zw (x1 + 1)) fun v26 =>
      r2 v26 d))
def l_X12_named_2   : Nat → Int → zD → Option (Int × zD)
  | 0, _, _ => none
  | q + 1, x1, d => l_X12_named_2F   (l_X12_named_2   q) x1 d
def f_X12_named  (d : zD) : Option (Int × zD) :=
  l_X12_named_2   zF 0 d
def f_X12_isName  (d : zD) : Option (Int × zD) :=
  zl (d 400 16) fun v1 =>
  if (v1 : Int) = 1 then (
    zl (d 400 15) fun v9 =>
    zl (d 400 14) fun v13 =>
    zl (zw (v9 - v13)) fun v16 =>
    if (6 : Int) < v16 then (
      some (0, d))
    else (
      zc (f_X12_isWord 17  d) fun v25 d =>
      if (v25 : Int) = 0 then (
        some (1, d))
      else (
        some (0, d))))
  else (
    some (0, d))
def j_X12_terminalHere_38   (x1 : Int) (d : zD) : Option (Int × zD) :=
  zc (f_X12_isGood   d) fun v39 d =>
  if (v39 : Int) = 0 then (
    some (0, d))
  else (
    some (x1, d))
def j_X12_terminalHere_27   (s0 : Int) (d : zD) : Option (Int × zD) :=
  if (s0 : Int) = (-1) then (
    zc (f_X12_errs  3 d) fun _ d =>
    j_X12_terminalHere_38   s0 d)
  else (
    j_X12_terminalHere_38   s0 d)
def j_X12_terminalHere_12   (d : zD) : Option (Int × zD) :=
  zc (f_X12_isGood   d) fun v13 d =>
  if (v13 : Int) = 0 then (
    j_X12_terminalHere_27   0 d)
  else (
    zc (f_X12_named   d) fun v20 d =>
    j_X12_terminalHere_27   v20 d)
def f_X12_terminalHere  (d : zD) : Option (Int × zD) :=
  zc (f_X12_isName   d) fun v1 d =>
  if (v1 : Int) = 0 then (
    zc (f_X12_errs  1 d) fun _ d =>
    j_X12_terminalHere_12    d)
  else (
    j_X12_terminalHere_12    d)
def f_X12_terminal0  (d : zD) : Option (Int × zD) :=
  zc (f_X12_terminalHere   d) fun v1 d =>
  zc (f_X12_goesOn   d) fun _ d =>
  some (v1, d)
def f_X12_whoHere  (d : zD) : Option (Int × zD) :=
  zc (f_X12_isWord 17  d) fun v3 d =>
  if (v3 : Int) = 0 then (
    zc (f_X12_terminalHere   d) fun v14 d =>
    some (v14, d))
  else (
    some ((-1), d))
def j_X12_once_17   (x1 : Int) (d : zD) : Option (Int × zD) :=
  zl (d 400 19) fun v19 =>
  zl (zshl 1 x1) fun v24 =>
  zl (zor v19 v24) fun v25 =>
  zl (zu d 400 19 v25) fun d =>
  zc (f_X12_goesOn   d) fun _ d =>
  some (0, d)
def f_X12_once  (x1 : Int) (d : zD) : Option (Int × zD) :=
  zl (d 400 19) fun v1 =>
  zl (zshr v1 x1) fun v5 =>
  zl (zand v5 1) fun v7 =>
  if (v7 : Int) = 1 then (
    zc (f_X12_errs  4 d) fun _ d =>
    j_X12_once_17   x1 d)
  else (
    j_X12_once_17   x1 d)
def j_X12_readsTerminal_50   (d : zD) : Option (Int × zD) :=
  zl (d 400 18) fun v51 =>
  zc (f_X12_goesOn   d) fun _ d =>
  zc (f_X12_optional 18 1 9 2 d) fun v66 d =>
  zc (f_X12_optional 19 1 4 2 d) fun v76 d =>
  zc (f_X12_optional 20 0 30 5 d) fun v87 d =>
  zc (f_X12_isGood   d) fun v93 d =>
  if (v93 : Int) = 0 then (
    some (0, d))
  else (
    zc (f_X12_lays  v51 v66 v76 v87 d) fun _ d =>
    some (0, d))
def j_X12_readsTerminal_30   (d : zD) : Option (Int × zD) :=
  zc (f_X12_isGood   d) fun v31 d =>
  if (v31 : Int) = 0 then (
    j_X12_readsTerminal_50    d)
  else (
    zc (f_X12_named   d) fun v38 d =>
    if (v38 : Int) = (-1) then (
      j_X12_readsTerminal_50    d)
    else (
      zc (f_X12_errs  4 d) fun _ d =>
      j_X12_readsTerminal_50    d))
def j_X12_readsTerminal_14   (d : zD) : Option (Int × zD) :=
  zc (f_X12_goesOn   d) fun _ d =>
  zc (f_X12_isName   d) fun v19 d =>
  if (v19 : Int) = 0 then (
    zc (f_X12_errs  1 d) fun _ d =>
    j_X12_readsTerminal_30    d)
  else (
    j_X12_readsTerminal_30    d)
def f_X12_readsTerminal  (d : zD) : Option (Int × zD) :=
  zc (f_X12_many   d) fun v1 d =>
  if (v1 : Int) = 8 then (
    zc (f_X12_errs  5 d) fun _ d =>
    j_X12_readsTerminal_14    d)
  else (
    j_X12_readsTerminal_14    d)
def j_X12_readsList_71  (r10 : Int → zD → Option (Int × zD)) (d : zD) : Option (Int × zD) :=
  zc (f_X12_goesOn   d) fun _ d =>
  zc (f_X12_isGood   d) fun v76 d =>
  if (v76 : Int) = 0 then (
    r10 0 d)
  else (
    zl (d 400 16) fun v83 =>
    if (v83 : Int) = 1 then (
      r10 1 d)
    else (
      r10 0 d))
def j_X12_readsList_35  (r10 : Int → zD → Option (Int × zD)) (x2 : Int) (d : zD) : Option (Int × zD) :=
  zc (f_X12_isGood   d) fun v36 d =>
  if (v36 : Int) = 0 then (
    j_X12_readsList_71  r10  d)
  else (
    zg 800 1 <| zl (d 401 (1 : Int).toNat) fun v53 =>
    zl (zw (30 + v53)) fun v54 =>
    zg 800 v54 <| zl (zu d 401 (v54 : Int).toNat x2) fun d =>
    zg 800 1 <| zl (d 401 (1 : Int).toNat) fun v67 =>
    zl (zw (v67 + 1)) fun v69 =>
    zg 800 1 <| zl (zu d 401 (1 : Int).toNat v69) fun d =>
    j_X12_readsList_71  r10  d)
def l_X12_readsList_10F  (r10 : Int → zD → Option (Int × zD)) (x1 : Int) (d : zD) : Option (Int × zD) :=
  if (x1 : Int) = 0 then (
    some (0, d))
  else (
    zc (f_X12_terminalHere   d) fun v15 d =>
    zg 800 1 <| zl (d 401 (1 : Int).toNat) fun v24 =>
    if (v24 : Int) = 16 then (
      zc (f_X12_errs  5 d) fun _ d =>
      j_X12_readsList_35  r10 v15 d)
    else (
      j_X12_readsList_35  r10 v15 d))
def l_X12_readsList_10   : Nat → Int → zD → Option (Int × zD)
  | 0, _, _ => none
  | q + 1, x1, d => l_X12_readsList_10F   (l_X12_readsList_10   q) x1 d
def f_X12_readsList  (d : zD) : Option (Int × zD) :=
  zc (f_X12_once  0 d) fun _ d =>
  zc (f_X12_isGood   d) fun v6 d =>
  l_X12_readsList_10   zF v6 d
def l_X12_readsSettings_2F  (r2 : Int → Int → zD → Option (Int × zD)) (x2 x3 : Int) (d : zD) : Option (Int × zD) :=
  if (x2 : Int) ≤ x3 then (
    some (0, d))
  else (
    zl (zw (6 + x3)) fun v14 =>
    zc (f_X12_least  x3 d) fun v17 d =>
    zc (f_X12_greatest  x3 d) fun v21 d =>
    zc (f_X12_number  v17 v21 d) fun v24 d =>
    zg 800 v14 <| zl (zu d 401 (v14 : Int).toNat v24) fun d =>
    zl (zw (x3 + 1)) fun v28 =>
    r2 x2 v28 d)
def l_X12_readsSettings_2   : Nat → Int → Int → zD → Option (Int × zD)
  | 0, _, _, _ => none
  | q + 1, x2, x3, d => l_X12_readsSettings_2F   (l_X12_readsSettings_2   q) x2 x3 d
def f_X12_readsSettings  (x1 x2 : Int) (d : zD) : Option (Int × zD) :=
  l_X12_readsSettings_2   zF x2 x1 d
def j_X12_readsSetupStatement_126   (d : zD) : Option (Int × zD) :=
  zc (f_X12_semicolon   d) fun _ d =>
  some (0, d)
def f_X12_readsSetupStatement  (d : zD) : Option (Int × zD) :=
  zc (f_X12_isWord 21  d) fun v4 d =>
  if (v4 : Int) = 0 then (
    zc (f_X12_isWord 22  d) fun v21 d =>
    if (v21 : Int) = 0 then (
      zc (f_X12_isWord 23  d) fun v38 d =>
      if (v38 : Int) = 0 then (
        zc (f_X12_isWord 24  d) fun v62 d =>
        if (v62 : Int) = 0 then (
          zc (f_X12_isWord 25  d) fun v86 d =>
          if (v86 : Int) = 0 then (
            zc (f_X12_errs  1 d) fun _ d =>
            j_X12_readsSetupStatement_126    d)
          else (
            zc (f_X12_once  3 d) fun _ d =>
            zc (f_X12_readsSettings  5 6 d) fun _ d =>
            zc (f_X12_number  0 9999 d) fun v114 d =>
            zg 800 5 <| zl (zu d 401 (5 : Int).toNat v114) fun d =>
            j_X12_readsSetupStatement_126    d))
        else (
          zc (f_X12_once  2 d) fun _ d =>
          zc (f_X12_readsSettings  4 5 d) fun _ d =>
          j_X12_readsSetupStatement_126    d))
      else (
        zc (f_X12_once  1 d) fun _ d =>
        zc (f_X12_readsSettings  0 4 d) fun _ d =>
        j_X12_readsSetupStatement_126    d))
    else (
      zc (f_X12_readsList   d) fun _ d =>
      j_X12_readsSetupStatement_126    d))
  else (
    zc (f_X12_readsTerminal   d) fun _ d =>
    j_X12_readsSetupStatement_126    d)
def j_X12_loadLine_62   (d : zD) : Option (Int × zD) :=
  zl (zu d 400 11 0) fun d =>
  zc (f_X12_isGood   d) fun v68 d =>
  if (v68 : Int) = 0 then (
    zc (f_X12_copies 402 800 401 800 0 0 800 d) fun _ d =>
    some ((-1), d))
  else (
    zl (zu d 400 5 0) fun d =>
    zl (zu d 400 6 0) fun d =>
    zc (f_X12_many   d) fun v103 d =>
    some (v103, d))
def j_X12_loadLine_50   (d : zD) : Option (Int × zD) :=
  zc (f_X12_many   d) fun v51 d =>
  if (v51 : Int) = 0 then (
    zc (f_X12_errs  1 d) fun _ d =>
    j_X12_loadLine_62    d)
  else (
    j_X12_loadLine_62    d)
def l_X12_loadLine_29F  (r29 : zD → Option (Int × zD)) (d : zD) : Option (Int × zD) :=
  zc (f_X12_isGood   d) fun v30 d =>
  if (v30 : Int) = 0 then (
    j_X12_loadLine_50    d)
  else (
    zl (d 400 16) fun v37 =>
    if (v37 : Int) = 0 then (
      j_X12_loadLine_50    d)
    else (
      zc (f_X12_readsSetupStatement   d) fun _ d =>
      r29  d))
def l_X12_loadLine_29   : Nat → zD → Option (Int × zD)
  | 0, _ => none
  | q + 1, d => l_X12_loadLine_29F   (l_X12_loadLine_29   q)  d
def f_X12_loadLine  (d : zD) : Option (Int × zD) :=
  zc (f_X12_copies 401 800 402 800 0 0 800 d) fun _ d =>
  zc (f_X12_begins   d) fun _ d =>
  zl (zu d 400 19 0) fun d =>
  zc (f_X12_startsText   d) fun _ d =>
  l_X12_loadLine_29   zF  d
def f_X12_adds  (x1 x2 x3 x4 : Int) (d : zD) : Option (Int × zD) :=
  zc (f_X12_isGood   d) fun v1 d =>
  if (v1 : Int) = 0 then (
    some (0, d))
  else (
    zl (d 400 21) fun v10 =>
    zl (zw (4 * v10)) fun v13 =>
    zg 120 v13 <| zl (zu d 406 (v13 : Int).toNat x1) fun d =>
    zl (zw (v13 + 1)) fun v31 =>
    zg 120 v31 <| zl (zu d 406 (v31 : Int).toNat x2) fun d =>
    zl (zw (v13 + 2)) fun v41 =>
    zg 120 v41 <| zl (zu d 406 (v41 : Int).toNat x3) fun d =>
    zl (zw (v13 + 3)) fun v51 =>
    zg 120 v51 <| zl (zu d 406 (v51 : Int).toNat x4) fun d =>
    zl (d 400 21) fun v57 =>
    zl (zw (v57 + 1)) fun v61 =>
    zl (zu d 400 21 v61) fun d =>
    some (0, d))
def f_X12_kindHere  (d : zD) : Option (Int × zD) :=
  zc (f_X12_isWord 26  d) fun v4 d =>
  if (v4 : Int) = 0 then (
    zc (f_X12_isWord 27  d) fun v18 d =>
    if (v18 : Int) = 0 then (
      zc (f_X12_isWord 28  d) fun v32 d =>
      if (v32 : Int) = 0 then (
        zc (f_X12_isWord 29  d) fun v46 d =>
        if (v46 : Int) = 0 then (
          zc (f_X12_isWord 30  d) fun v60 d =>
          if (v60 : Int) = 0 then (
            zc (f_X12_isWord 31  d) fun v74 d =>
            if (v74 : Int) = 0 then (
              some ((-1), d))
            else (
              some (5, d)))
          else (
            some (4, d)))
        else (
          some (3, d)))
      else (
        some (2, d)))
    else (
      some (1, d)))
  else (
    some (0, d))
def j_X12_readsPost_42   (x1 x2 : Int) (d : zD) : Option (Int × zD) :=
  zc (f_X12_goesOn   d) fun _ d =>
  zc (f_X12_number  1 20 d) fun v50 d =>
  zc (f_X12_adds  0 x1 x2 v50 d) fun _ d =>
  some (0, d)
def j_X12_readsPost_24   (x1 s0 : Int) (d : zD) : Option (Int × zD) :=
  zc (f_X12_isGood   d) fun v26 d =>
  if (v26 : Int) = 0 then (
    j_X12_readsPost_42   x1 s0 d)
  else (
    if (s0 : Int) = x1 then (
      zc (f_X12_errs  4 d) fun _ d =>
      j_X12_readsPost_42   x1 s0 d)
    else (
      j_X12_readsPost_42   x1 s0 d))
def f_X12_readsPost  (d : zD) : Option (Int × zD) :=
  zc (f_X12_whoHere   d) fun v1 d =>
  zc (f_X12_goesOn   d) fun _ d =>
  zc (f_X12_isGood   d) fun v10 d =>
  if (v10 : Int) = 0 then (
    j_X12_readsPost_24   v1 0 d)
  else (
    zc (f_X12_whoHere   d) fun v17 d =>
    j_X12_readsPost_24   v1 v17 d)
def j_X12_readsStatement_99   (d : zD) : Option (Int × zD) :=
  zc (f_X12_semicolon   d) fun _ d =>
  some (0, d)
def j_X12_readsStatement_29   (x1 : Int) (d : zD) : Option (Int × zD) :=
  zc (f_X12_goesOn   d) fun _ d =>
  if (x1 : Int) = 0 then (
    zc (f_X12_readsPost   d) fun _ d =>
    j_X12_readsStatement_99    d)
  else (
    if (x1 : Int) = 3 then (
      zc (f_X12_number  1 50 d) fun v55 d =>
      zc (f_X12_adds  3 v55 0 0 d) fun _ d =>
      j_X12_readsStatement_99    d)
    else (
      if (x1 : Int) = 5 then (
        zc (f_X12_number  0 15 d) fun v77 d =>
        zc (f_X12_adds  5 v77 0 0 d) fun _ d =>
        j_X12_readsStatement_99    d)
      else (
        zc (f_X12_terminal0   d) fun v91 d =>
        zc (f_X12_adds  x1 v91 0 0 d) fun _ d =>
        j_X12_readsStatement_99    d)))
def j_X12_readsStatement_15   (x1 : Int) (d : zD) : Option (Int × zD) :=
  zl (d 400 21) fun v16 =>
  if (v16 : Int) = 30 then (
    zc (f_X12_errs  5 d) fun _ d =>
    j_X12_readsStatement_29   x1 d)
  else (
    j_X12_readsStatement_29   x1 d)
def f_X12_readsStatement  (d : zD) : Option (Int × zD) :=
  zc (f_X12_kindHere   d) fun v1 d =>
  if (v1 : Int) = (-1) then (
    zc (f_X12_errs  1 d) fun _ d =>
    j_X12_readsStatement_15   v1 d)
  else (
    j_X12_readsStatement_15   v1 d)
def l_X12_postsNow_21F  (r21 : Int → Int → Int → Int → Int → zD → Option (Int × zD)) (x1 x2 x3 x4 x5 : Int) (d : zD) : Option (Int × zD) :=
  if (12 : Int) ≤ x5 then (
    zc (f_X12_tells  x4 0 x1 d) fun _ d =>
    zc (f_X12_tells  x4 1 x2 d) fun _ d =>
    zc (f_X12_tells  x4 2 x3 d) fun _ d =>
    zg 800 3 <| zl (d 401 (3 : Int).toNat) fun v76 =>
    zc (f_X12_tells  x4 4 v76 d) fun _ d =>
    zc (f_X12_tells  x4 5 (-1) d) fun _ d =>
    zc (f_X12_tells  x4 6 (-1) d) fun _ d =>
    zc (f_X12_tells  x4 7 (-1) d) fun _ d =>
    if (x1 : Int) = (-1) then (
      zc (f_X12_tells  x4 3 1 d) fun _ d =>
      zg 800 3 <| zl (d 401 (3 : Int).toNat) fun v140 =>
      zc (f_X12_tells  x4 5 v140 d) fun _ d =>
      zc (f_X12_nextNumber   d) fun v150 d =>
      zc (f_X12_tells  x4 9 v150 d) fun _ d =>
      some (x4, d))
    else (
      zc (f_X12_tells  x4 8 1 d) fun _ d =>
      some (x4, d)))
  else (
    zc (f_X12_tells  x4 x5 0 d) fun _ d =>
    zl (zw (x5 + 1)) fun v37 =>
    r21 x1 x2 x3 x4 v37 d)
def l_X12_postsNow_21   : Nat → Int → Int → Int → Int → Int → zD → Option (Int × zD)
  | 0, _, _, _, _, _, _ => none
  | q + 1, x1, x2, x3, x4, x5, d => l_X12_postsNow_21F   (l_X12_postsNow_21   q) x1 x2 x3 x4 x5 d
def f_X12_postsNow  (x1 x2 x3 : Int) (d : zD) : Option (Int × zD) :=
  zg 800 2 <| zl (d 401 (2 : Int).toNat) fun v5 =>
  zl (zw (v5 + 1)) fun v16 =>
  zg 800 2 <| zl (zu d 401 (2 : Int).toNat v16) fun d =>
  l_X12_postsNow_21   zF x1 x2 x3 v5 0 d
def f_X12_setsAlive  (x1 x2 : Int) (d : zD) : Option (Int × zD) :=
  zc (f_X12_of  x1 3 d) fun v3 d =>
  zc (f_X12_puts  x1 3 x2 d) fun _ d =>
  some (v3, d)
def f_X12_addsPlace  (x1 : Int) (d : zD) : Option (Int × zD) :=
  zg 800 1 <| zl (d 401 (1 : Int).toNat) fun v11 =>
  zl (zw (30 + v11)) fun v12 =>
  zg 800 v12 <| zl (zu d 401 (v12 : Int).toNat x1) fun d =>
  zg 800 1 <| zl (d 401 (1 : Int).toNat) fun v25 =>
  zl (zw (v25 + 1)) fun v27 =>
  zg 800 1 <| zl (zu d 401 (1 : Int).toNat v27) fun d =>
  zg 800 1 <| zl (d 401 (1 : Int).toNat) fun v34 =>
  some (v34, d)
def l_X12_dropsPlace_26F  (r26 : Int → Int → zD → Option (Int × zD)) (x2 x3 : Int) (d : zD) : Option (Int × zD) :=
  zg 800 1 <| zl (d 401 (1 : Int).toNat) fun v32 =>
  if (v32 : Int) ≤ x3 then (
    some (x2, d))
  else (
    zl (zw (30 + x3)) fun v43 =>
    zl (zw (30 + x3)) fun v51 =>
    zl (zw (v51 + 1)) fun v53 =>
    zg 800 v53 <| zl (d 401 (v53 : Int).toNat) fun v54 =>
    zg 800 v43 <| zl (zu d 401 (v43 : Int).toNat v54) fun d =>
    zl (zw (x3 + 1)) fun v56 =>
    r26 x2 v56 d)
def l_X12_dropsPlace_26   : Nat → Int → Int → zD → Option (Int × zD)
  | 0, _, _, _ => none
  | q + 1, x2, x3, d => l_X12_dropsPlace_26F   (l_X12_dropsPlace_26   q) x2 x3 d
def f_X12_dropsPlace  (x1 : Int) (d : zD) : Option (Int × zD) :=
  zl (zw (30 + x1)) fun v7 =>
  zg 800 v7 <| zl (d 401 (v7 : Int).toNat) fun v8 =>
  zg 800 1 <| zl (d 401 (1 : Int).toNat) fun v20 =>
  zl (zw (v20 - 1)) fun v22 =>
  zg 800 1 <| zl (zu d 401 (1 : Int).toNat v22) fun d =>
  l_X12_dropsPlace_26   zF v8 x1 d
def f_X12_canRun  (x1 : Int) (d : zD) : Option (Int × zD) :=
  zg 800 4 <| zl (d 401 (4 : Int).toNat) fun v5 =>
  zl (zw (v5 + x1)) fun v7 =>
  if (9999 : Int) < v7 then (
    some (0, d))
  else (
    some (1, d))
def j_X12_does_173   (s0 s1 : Int) (d : zD) : Option (Int × zD) :=
  zc (f_X12_setsAlive  s1 s0 d) fun v173 d =>
  some (1, d)
def f_X12_does  (x1 : Int) (d : zD) : Option (Int × zD) :=
  zl (zw (4 * x1)) fun v2 =>
  zl (zw (v2 + 1)) fun v10 =>
  zg 120 v10 <| zl (d 406 (v10 : Int).toNat) fun v11 =>
  zg 120 v2 <| zl (d 406 (v2 : Int).toNat) fun v18 =>
  zsw v18 [(0, (
    zg 800 2 <| zl (d 401 (2 : Int).toNat) fun v61 =>
    if (v61 : Int) = 40 then (
      some (0, d))
    else (
      zl (zw (v2 + 2)) fun v77 =>
      zg 120 v77 <| zl (d 406 (v77 : Int).toNat) fun v78 =>
      zl (zw (v2 + 3)) fun v85 =>
      zg 120 v85 <| zl (d 406 (v85 : Int).toNat) fun v86 =>
      zc (f_X12_postsNow  v11 v78 v86 d) fun v87 d =>
      some (1, d)))), (1, (
    zg 120 v2 <| zl (d 406 (v2 : Int).toNat) fun v163 =>
    if (v163 : Int) = 2 then (
      j_X12_does_173   1 v11 d)
    else (
      j_X12_does_173   0 v11 d))), (2, (
    zg 120 v2 <| zl (d 406 (v2 : Int).toNat) fun v163 =>
    if (v163 : Int) = 2 then (
      j_X12_does_173   1 v11 d)
    else (
      j_X12_does_173   0 v11 d))), (3, (
    zc (f_X12_canRun  v11 d) fun v96 d =>
    if (v96 : Int) = 0 then (
      some (0, d))
    else (
      zc (f_X12_runsNow  v11 d) fun v106 d =>
      some (1, d)))), (4, (
    zg 800 1 <| zl (d 401 (1 : Int).toNat) fun v118 =>
    if (v118 : Int) = 16 then (
      some (0, d))
    else (
      zc (f_X12_addsPlace  v11 d) fun v128 d =>
      some (1, d)))), (5, (
    zg 800 1 <| zl (d 401 (1 : Int).toNat) fun v141 =>
    if (v11 : Int) < v141 then (
      zc (f_X12_dropsPlace  v11 d) fun v149 d =>
      some (1, d))
    else (
      some (0, d))))] (
    zg 120 v2 <| zl (d 406 (v2 : Int).toNat) fun v163 =>
    if (v163 : Int) = 2 then (
      j_X12_does_173   1 v11 d)
    else (
      j_X12_does_173   0 v11 d))
def j_X12_keeps_37   (d : zD) : Option (Int × zD) :=
  zl (d 400 5) fun v50 =>
  zl (zw (800 * v50)) fun v53 =>
  zc (f_X12_copies 401 800 404 6400 0 v53 800 d) fun _ d =>
  zl (d 400 5) fun v62 =>
  zl (zw (v62 + 1)) fun v66 =>
  zl (zu d 400 5 v66) fun d =>
  some (0, d)
def f_X12_keeps  (d : zD) : Option (Int × zD) :=
  zl (d 400 5) fun v1 =>
  if (v1 : Int) = 8 then (
    zc (f_X12_copies 404 6400 404 6400 800 0 5600 d) fun _ d =>
    zl (d 400 5) fun v29 =>
    zl (zw (v29 - 1)) fun v33 =>
    zl (zu d 400 5 v33) fun d =>
    j_X12_keeps_37    d)
  else (
    j_X12_keeps_37    d)
def l_X12_playScript_50F  (r50 : Int → zD → Option (Int × zD)) (x1 : Int) (d : zD) : Option (Int × zD) :=
  zl (d 400 21) fun v52 =>
  if (v52 : Int) ≤ x1 then (
    some (x1, d))
  else (
    zc (f_X12_does  x1 d) fun v60 d =>
    if (v60 : Int) = 0 then (
      some (x1, d))
    else (
      zl (zw (x1 + 1)) fun v68 =>
      r50 v68 d))
def l_X12_playScript_50   : Nat → Int → zD → Option (Int × zD)
  | 0, _, _ => none
  | q + 1, x1, d => l_X12_playScript_50F   (l_X12_playScript_50   q) x1 d
def j_X12_playScript_30   (d : zD) : Option (Int × zD) :=
  zl (zu d 400 11 0) fun d =>
  zc (f_X12_isGood   d) fun v36 d =>
  if (v36 : Int) = 0 then (
    some ((-1), d))
  else (
    zc (f_X12_keeps   d) fun _ d =>
    l_X12_playScript_50   zF 0 d)
def l_X12_playScript_9F  (r9 : zD → Option (Int × zD)) (d : zD) : Option (Int × zD) :=
  zc (f_X12_isGood   d) fun v10 d =>
  if (v10 : Int) = 0 then (
    j_X12_playScript_30    d)
  else (
    zl (d 400 16) fun v17 =>
    if (v17 : Int) = 0 then (
      j_X12_playScript_30    d)
    else (
      zc (f_X12_readsStatement   d) fun _ d =>
      r9  d))
def l_X12_playScript_9   : Nat → zD → Option (Int × zD)
  | 0, _ => none
  | q + 1, d => l_X12_playScript_9F   (l_X12_playScript_9   q)  d
def f_X12_playScript  (d : zD) : Option (Int × zD) :=
  zl (zu d 400 21 0) fun d =>
  zc (f_X12_startsText   d) fun _ d =>
  l_X12_playScript_9   zF  d
def l_X12_terminalsWith_5F  (r5 : Int → Int → Int → Int → zD → Option (Int × zD)) (x1 x2 x3 x4 : Int) (d : zD) : Option (Int × zD) :=
  zc (f_X12_many   d) fun v8 d =>
  if (v8 : Int) ≤ x4 then (
    some (x3, d))
  else (
    zc (f_X12_of  x4 x1 d) fun v18 d =>
    if (v18 : Int) = x2 then (
      zl (zw (x3 + 1)) fun v27 =>
      zl (zw (x4 + 1)) fun v29 =>
      r5 x1 x2 v27 v29 d)
    else (
      zl (zw (x4 + 1)) fun v29 =>
      r5 x1 x2 x3 v29 d))
def l_X12_terminalsWith_5   : Nat → Int → Int → Int → Int → zD → Option (Int × zD)
  | 0, _, _, _, _, _ => none
  | q + 1, x1, x2, x3, x4, d => l_X12_terminalsWith_5F   (l_X12_terminalsWith_5   q) x1 x2 x3 x4 d
def f_X12_terminalsWith  (x1 x2 : Int) (d : zD) : Option (Int × zD) :=
  l_X12_terminalsWith_5   zF x1 x2 0 0 d
def j_X12_count_16   (x1 s0 : Int) (d : zD) : Option (Int × zD) :=
  zl (zu d 400 0 s0) fun d =>
  zl (d 400 0) fun v20 =>
  if (v20 : Int) = 0 then (
    if (6 : Int) ≤ x1 then (
      if (10 : Int) ≤ x1 then (
        if (x1 : Int) = 10 then (
          zc (f_X12_terminalsWith  4 0 d) fun v65 d =>
          some (v65, d))
        else (
          if (x1 : Int) = 11 then (
            zc (f_X12_terminalsWith  3 0 d) fun v80 d =>
            some (v80, d))
          else (
            zl (d 400 5) fun v87 =>
            some (v87, d))))
      else (
        zl (zw (x1 - 6)) fun v51 =>
        zc (f_X12_inState  v51 d) fun v52 d =>
        some (v52, d)))
    else (
      zg 800 x1 <| zl (d 401 (x1 : Int).toNat) fun v39 =>
      some (v39, d)))
  else (
    some (0, d))
def f_X12_count  (x1 : Int) (d : zD) : Option (Int × zD) :=
  zc (f_X12_isIn  x1 0 12 d) fun v5 d =>
  if (v5 : Int) = 0 then (
    j_X12_count_16   x1 1 d)
  else (
    j_X12_count_16   x1 0 d)
def j_X12_account_16   (x1 s0 : Int) (d : zD) : Option (Int × zD) :=
  zl (zu d 400 0 s0) fun d =>
  zl (d 400 0) fun v20 =>
  if (v20 : Int) = 0 then (
    zl (zw (12 + x1)) fun v33 =>
    zg 800 v33 <| zl (d 401 (v33 : Int).toNat) fun v34 =>
    some (v34, d))
  else (
    some (0, d))
def f_X12_account  (x1 : Int) (d : zD) : Option (Int × zD) :=
  zc (f_X12_isIn  x1 0 12 d) fun v5 d =>
  if (v5 : Int) = 0 then (
    j_X12_account_16   x1 1 d)
  else (
    j_X12_account_16   x1 0 d)
def j_X12_setting_15   (x1 s0 : Int) (d : zD) : Option (Int × zD) :=
  zl (zu d 400 0 s0) fun d =>
  zl (d 400 0) fun v19 =>
  if (v19 : Int) = 0 then (
    zl (zw (6 + x1)) fun v32 =>
    zg 800 v32 <| zl (d 401 (v32 : Int).toNat) fun v33 =>
    some (v33, d))
  else (
    some (0, d))
def f_X12_setting  (x1 : Int) (d : zD) : Option (Int × zD) :=
  zc (f_X12_isIn  x1 0 5 d) fun v4 d =>
  if (v4 : Int) = 0 then (
    j_X12_setting_15   x1 1 d)
  else (
    j_X12_setting_15   x1 0 d)
def l_X12_placesOf_4F  (r4 : Int → Int → Int → zD → Option (Int × zD)) (x1 x2 x3 : Int) (d : zD) : Option (Int × zD) :=
  zg 800 1 <| zl (d 401 (1 : Int).toNat) fun v10 =>
  if (v10 : Int) ≤ x3 then (
    some (x2, d))
  else (
    zl (zw (30 + x3)) fun v21 =>
    zg 800 v21 <| zl (d 401 (v21 : Int).toNat) fun v22 =>
    if (v22 : Int) = x1 then (
      zl (zw (x2 + 1)) fun v29 =>
      zl (zw (x3 + 1)) fun v31 =>
      r4 x1 v29 v31 d)
    else (
      zl (zw (x3 + 1)) fun v31 =>
      r4 x1 x2 v31 d))
def l_X12_placesOf_4   : Nat → Int → Int → Int → zD → Option (Int × zD)
  | 0, _, _, _, _ => none
  | q + 1, x1, x2, x3, d => l_X12_placesOf_4F   (l_X12_placesOf_4   q) x1 x2 x3 d
def f_X12_placesOf  (x1 : Int) (d : zD) : Option (Int × zD) :=
  l_X12_placesOf_4   zF x1 0 0 d
def j_X12_may_18   (s0 : Int) (d : zD) : Option (Int × zD) :=
  zl (zu d 400 0 s0) fun d =>
  zl (d 400 0) fun v22 =>
  if (v22 : Int) = 0 then (
    some (1, d))
  else (
    some (0, d))
def f_X12_may  (x1 x2 : Int) (d : zD) : Option (Int × zD) :=
  if (x1 : Int) = 0 then (
    j_X12_may_18   1 d)
  else (
    if (x2 : Int) = 0 then (
      j_X12_may_18   2 d)
    else (
      j_X12_may_18   0 d))
def j_X12_terminal_101   (s0 s1 : Int) (d : zD) : Option (Int × zD) :=
  zc (f_X12_of  s1 s0 d) fun v101 d =>
  some (v101, d)
def f_X12_terminal  (x1 x2 : Int) (d : zD) : Option (Int × zD) :=
  zc (f_X12_isTerminal  x1 d) fun v3 d =>
  zc (f_X12_isIn  x2 0 13 d) fun v10 d =>
  zc (f_X12_may  v3 v10 d) fun v13 d =>
  if (v13 : Int) = 0 then (
    some (0, d))
  else (
    if (6 : Int) ≤ x2 then (
      if (9 : Int) ≤ x2 then (
        if (x2 : Int) = 9 then (
          zc (f_X12_placesOf  x1 d) fun v58 d =>
          some (v58, d))
        else (
          if (x2 : Int) = 10 then (
            j_X12_terminal_101   6 x1 d)
          else (
            if (x2 : Int) = 11 then (
              j_X12_terminal_101   7 x1 d)
            else (
              if (x2 : Int) = 12 then (
                j_X12_terminal_101   8 x1 d)
              else (
                j_X12_terminal_101   9 x1 d)))))
      else (
        zl (zw (x2 - 6)) fun v45 =>
        zc (f_X12_inRowMany  x1 v45 d) fun v46 d =>
        some (v46, d)))
    else (
      zc (f_X12_of  x1 x2 d) fun v30 d =>
      some (v30, d)))
def l_X12_lettersOf_4F  (r4 : Int → Int → zD → Option (Int × zD)) (x1 x2 : Int) (d : zD) : Option (Int × zD) :=
  if (x2 : Int) ≤ 0 then (
    some (x1, d))
  else (
    zl (zw (x1 + 1)) fun v10 =>
    zl (zshr x2 5) fun v14 =>
    r4 v10 v14 d)
def l_X12_lettersOf_4   : Nat → Int → Int → zD → Option (Int × zD)
  | 0, _, _, _ => none
  | q + 1, x1, x2, d => l_X12_lettersOf_4F   (l_X12_lettersOf_4   q) x1 x2 d
def f_X12_lettersOf  (x0 : Int) (d : zD) : Option (Int × zD) :=
  l_X12_lettersOf_4   zF 0 x0 d
def f_X12_letterOf  (x0 x1 : Int) (d : zD) : Option (Int × zD) :=
  zc (f_X12_lettersOf  x0 d) fun v1 d =>
  zl (zw (v1 - 1)) fun v9 =>
  zc (f_X12_isIn  x1 0 v9 d) fun v10 d =>
  if (v10 : Int) = 0 then (
    some (0, d))
  else (
    zl (zw (v1 - 1)) fun v20 =>
    zl (zw (v20 - x1)) fun v22 =>
    zl (zw (5 * v22)) fun v23 =>
    zl (zshr x0 v23) fun v24 =>
    zl (zand v24 31) fun v27 =>
    some (v27, d))
def f_X12_nameLetter  (x1 x2 : Int) (d : zD) : Option (Int × zD) :=
  zc (f_X12_isTerminal  x1 d) fun v3 d =>
  zc (f_X12_may  v3 1 d) fun v7 d =>
  if (v7 : Int) = 0 then (
    some (0, d))
  else (
    zc (f_X12_of  x1 15 d) fun v17 d =>
    zc (f_X12_letterOf  v17 x2 d) fun v21 d =>
    some (v21, d))
def f_X12_message  (x1 x2 : Int) (d : zD) : Option (Int × zD) :=
  zg 800 2 <| zl (d 401 (2 : Int).toNat) fun v8 =>
  zl (zw (v8 - 1)) fun v10 =>
  zc (f_X12_isIn  x1 0 v10 d) fun v11 d =>
  zc (f_X12_isIn  x2 0 7 d) fun v18 d =>
  zc (f_X12_may  v11 v18 d) fun v21 d =>
  if (v21 : Int) = 0 then (
    some (0, d))
  else (
    zc (f_X12_message0  x1 x2 d) fun v30 d =>
    some (v30, d))
def f_X12_inRow  (x1 x2 x3 : Int) (d : zD) : Option (Int × zD) :=
  zc (f_X12_isTerminal  x1 d) fun v3 d =>
  zc (f_X12_isIn  x2 0 2 d) fun v9 d =>
  zc (f_X12_may  v3 v9 d) fun v12 d =>
  if (v12 : Int) = 0 then (
    some (0, d))
  else (
    if (0 : Int) ≤ x3 then (
      zc (f_X12_rowAt  x1 x2 x3 d) fun v32 d =>
      some (v32, d))
    else (
      some ((-1), d)))
def f_X12_place  (x1 : Int) (d : zD) : Option (Int × zD) :=
  zg 800 1 <| zl (d 401 (1 : Int).toNat) fun v8 =>
  zl (zw (v8 - 1)) fun v10 =>
  zc (f_X12_isIn  x1 0 v10 d) fun v11 d =>
  zc (f_X12_may  v11 1 d) fun v15 d =>
  if (v15 : Int) = 0 then (
    some (0, d))
  else (
    zl (zw (30 + x1)) fun v28 =>
    zg 800 v28 <| zl (d 401 (v28 : Int).toNat) fun v29 =>
    some (v29, d))
def l_X12_off_9F  (r9 : Int → Int → zD → Option (Int × zD)) (x1 x2 : Int) (d : zD) : Option (Int × zD) :=
  zc (f_X12_many   d) fun v11 d =>
  if (v11 : Int) ≤ x2 then (
    some (x1, d))
  else (
    zc (f_X12_of  x2 4 d) fun v20 d =>
    if (v20 : Int) = 0 then (
      zl (zshl 1 x2) fun v29 =>
      zl (zor x1 v29) fun v30 =>
      zl (zw (x2 + 1)) fun v32 =>
      r9 v30 v32 d)
    else (
      zl (zw (x2 + 1)) fun v32 =>
      r9 x1 v32 d))
def l_X12_off_9   : Nat → Int → Int → zD → Option (Int × zD)
  | 0, _, _, _ => none
  | q + 1, x1, x2, d => l_X12_off_9F   (l_X12_off_9   q) x1 x2 d
def f_X12_off  (d : zD) : Option (Int × zD) :=
  zl (zu d 400 0 0) fun d =>
  l_X12_off_9   zF 0 0 d
def f_X12_turn  (x1 x2 : Int) (d : zD) : Option (Int × zD) :=
  zg 800 29 <| zl (d 401 (29 : Int).toNat) fun v9 =>
  zl (zw (v9 - 1)) fun v11 =>
  zc (f_X12_isIn  x1 0 v11 d) fun v12 d =>
  zc (f_X12_isIn  x2 0 4 d) fun v18 d =>
  zc (f_X12_may  v12 v18 d) fun v21 d =>
  if (v21 : Int) = 0 then (
    some (0, d))
  else (
    zg 800 29 <| zl (d 401 (29 : Int).toNat) fun v41 =>
    zl (zw (v41 - 1)) fun v43 =>
    zl (zw (v43 - x1)) fun v45 =>
    zl (zw (5 * v45)) fun v46 =>
    zl (zw (700 + v46)) fun v47 =>
    zl (zw (v47 + x2)) fun v49 =>
    zg 800 v49 <| zl (d 401 (v49 : Int).toNat) fun v50 =>
    some (v50, d))
def f_X12_nextKind  (d : zD) : Option (Int × zD) :=
  zl (zu d 400 0 0) fun d =>
  zc (f_X12_next   d) fun v6 d =>
  some (v6, d)
def f_X12_nextTerminal  (d : zD) : Option (Int × zD) :=
  zl (zu d 400 0 0) fun d =>
  zc (f_X12_next   d) fun v6 d =>
  if (v6 : Int) = 3 then (
    some ((-1), d))
  else (
    zl (d 400 8) fun v18 =>
    some (v18, d))
def f_X12_gap  (d : zD) : Option (Int × zD) :=
  zl (zu d 400 0 0) fun d =>
  zg 800 2 <| zl (d 401 (2 : Int).toNat) fun v10 =>
  zc (f_X12_inState  0 d) fun v13 d =>
  zl (zw (v10 - v13)) fun v16 =>
  zc (f_X12_inState  1 d) fun v19 d =>
  zl (zw (v16 - v19)) fun v22 =>
  zc (f_X12_inState  2 d) fun v25 d =>
  zl (zw (v22 - v25)) fun v28 =>
  zc (f_X12_inState  3 d) fun v31 d =>
  zl (zw (v28 - v31)) fun v34 =>
  some (v34, d)
def f_X12_trial  (d : zD) : Option (Int × zD) :=
  zc (f_X12_copies 401 800 407 800 0 0 800 d) fun _ d =>
  some (0, d)
def f_X12_back  (x1 : Int) (d : zD) : Option (Int × zD) :=
  zc (f_X12_copies 407 800 401 800 0 0 800 d) fun _ d =>
  some (x1, d)
def f_X12_deliveredBy  (x1 : Int) (d : zD) : Option (Int × zD) :=
  zc (f_X12_runsNow  x1 d) fun v2 d =>
  zc (f_X12_inState  3 d) fun v9 d =>
  zc (f_X12_back  v9 d) fun v12 d =>
  some (v12, d)
def f_X12_deliveredIn  (x1 : Int) (d : zD) : Option (Int × zD) :=
  zc (f_X12_isIn  x1 0 100 d) fun v5 d =>
  zc (f_X12_may  v5 1 d) fun v9 d =>
  if (v9 : Int) = 0 then (
    some (0, d))
  else (
    zc (f_X12_trial   d) fun _ d =>
    zc (f_X12_deliveredBy  x1 d) fun v23 d =>
    some (v23, d))
def f_X12_timeIn  (x1 : Int) (d : zD) : Option (Int × zD) :=
  zc (f_X12_isIn  x1 0 100 d) fun v5 d =>
  zc (f_X12_may  v5 1 d) fun v9 d =>
  if (v9 : Int) = 0 then (
    some (0, d))
  else (
    zc (f_X12_trial   d) fun _ d =>
    zc (f_X12_runsNow  x1 d) fun v23 d =>
    zg 800 3 <| zl (d 401 (3 : Int).toNat) fun v33 =>
    zc (f_X12_back  v33 d) fun v34 d =>
    some (v34, d))
def j_X12_deliversIn_70   (s0 : Int) (d : zD) : Option (Int × zD) :=
  zc (f_X12_back  s0 d) fun v70 d =>
  some (v70, d)
def j_X12_deliversIn_57   (x2 : Int) (d : zD) : Option (Int × zD) :=
  if (x2 : Int) ≤ 200 then (
    j_X12_deliversIn_70   x2 d)
  else (
    j_X12_deliversIn_70   (-1) d)
def l_X12_deliversIn_29F  (r29 : Int → Int → zD → Option (Int × zD)) (x1 x2 : Int) (d : zD) : Option (Int × zD) :=
  if (200 : Int) < x2 then (
    j_X12_deliversIn_57   x2 d)
  else (
    zc (f_X12_message0  x1 3 d) fun v39 d =>
    if (v39 : Int) = 3 then (
      j_X12_deliversIn_57   x2 d)
    else (
      zc (f_X12_turns   d) fun _ d =>
      zl (zw (x2 + 1)) fun v52 =>
      r29 x1 v52 d))
def l_X12_deliversIn_29   : Nat → Int → Int → zD → Option (Int × zD)
  | 0, _, _, _ => none
  | q + 1, x1, x2, d => l_X12_deliversIn_29F   (l_X12_deliversIn_29   q) x1 x2 d
def f_X12_deliversIn  (x1 : Int) (d : zD) : Option (Int × zD) :=
  zg 800 2 <| zl (d 401 (2 : Int).toNat) fun v8 =>
  zl (zw (v8 - 1)) fun v10 =>
  zc (f_X12_isIn  x1 0 v10 d) fun v11 d =>
  zc (f_X12_may  v11 1 d) fun v15 d =>
  if (v15 : Int) = 0 then (
    some (0, d))
  else (
    zc (f_X12_trial   d) fun _ d =>
    l_X12_deliversIn_29   zF x1 0 d)
def j_X12_quietIn_56   (s0 : Int) (d : zD) : Option (Int × zD) :=
  zc (f_X12_back  s0 d) fun v56 d =>
  some (v56, d)
def j_X12_quietIn_43   (x1 : Int) (d : zD) : Option (Int × zD) :=
  if (x1 : Int) ≤ 200 then (
    j_X12_quietIn_56   x1 d)
  else (
    j_X12_quietIn_56   (-1) d)
def l_X12_quietIn_11F  (r11 : Int → zD → Option (Int × zD)) (x1 : Int) (d : zD) : Option (Int × zD) :=
  if (200 : Int) < x1 then (
    j_X12_quietIn_43   x1 d)
  else (
    zc (f_X12_inState  3 d) fun v20 d =>
    zg 800 2 <| zl (d 401 (2 : Int).toNat) fun v28 =>
    if (v28 : Int) ≤ v20 then (
      j_X12_quietIn_43   x1 d)
    else (
      zc (f_X12_turns   d) fun _ d =>
      zl (zw (x1 + 1)) fun v38 =>
      r11 v38 d))
def l_X12_quietIn_11   : Nat → Int → zD → Option (Int × zD)
  | 0, _, _ => none
  | q + 1, x1, d => l_X12_quietIn_11F   (l_X12_quietIn_11   q) x1 d
def f_X12_quietIn  (d : zD) : Option (Int × zD) :=
  zl (zu d 400 0 0) fun d =>
  zc (f_X12_trial   d) fun _ d =>
  l_X12_quietIn_11   zF 0 d
def j_X12_switchesIn_69   (s0 : Int) (d : zD) : Option (Int × zD) :=
  zc (f_X12_back  s0 d) fun v69 d =>
  some (v69, d)
def j_X12_switchesIn_56   (x3 : Int) (d : zD) : Option (Int × zD) :=
  if (x3 : Int) ≤ 200 then (
    j_X12_switchesIn_69   x3 d)
  else (
    j_X12_switchesIn_69   (-1) d)
def l_X12_switchesIn_28F  (r28 : Int → Int → Int → zD → Option (Int × zD)) (x1 x2 x3 : Int) (d : zD) : Option (Int × zD) :=
  if (200 : Int) < x3 then (
    j_X12_switchesIn_56   x3 d)
  else (
    zc (f_X12_of  x1 4 d) fun v38 d =>
    if (v38 : Int) = x2 then (
      zc (f_X12_turns   d) fun _ d =>
      zl (zw (x3 + 1)) fun v51 =>
      r28 x1 x2 v51 d)
    else (
      j_X12_switchesIn_56   x3 d))
def l_X12_switchesIn_28   : Nat → Int → Int → Int → zD → Option (Int × zD)
  | 0, _, _, _, _ => none
  | q + 1, x1, x2, x3, d => l_X12_switchesIn_28F   (l_X12_switchesIn_28   q) x1 x2 x3 d
def f_X12_switchesIn  (x1 : Int) (d : zD) : Option (Int × zD) :=
  zc (f_X12_isTerminal  x1 d) fun v3 d =>
  zc (f_X12_may  v3 1 d) fun v7 d =>
  if (v7 : Int) = 0 then (
    some (0, d))
  else (
    zc (f_X12_trial   d) fun _ d =>
    zc (f_X12_of  x1 4 d) fun v22 d =>
    l_X12_switchesIn_28   zF x1 v22 0 d)
def f_X12_deliveredWith  (x1 x2 x3 : Int) (d : zD) : Option (Int × zD) :=
  zc (f_X12_trial   d) fun _ d =>
  zl (zw (6 + x1)) fun v11 =>
  zg 800 v11 <| zl (zu d 401 (v11 : Int).toNat x2) fun d =>
  zc (f_X12_deliveredBy  x3 d) fun v16 d =>
  some (v16, d)
def l_X12_bestTries_30F  (r30 : Int → Int → Int → Int → zD → Option (Int × zD)) (x1 x2 x3 x4 : Int) (d : zD) : Option (Int × zD) :=
  if (5 : Int) < x4 then (
    some (x2, d))
  else (
    zc (f_X12_deliveredWith  1 x4 x1 d) fun v41 d =>
    if (v41 : Int) ≤ x3 then (
      zl (zw (x4 + 1)) fun v58 =>
      r30 x1 x2 x3 v58 d)
    else (
      zl (zw (x4 + 1)) fun v58 =>
      r30 x1 x4 v41 v58 d))
def l_X12_bestTries_30   : Nat → Int → Int → Int → Int → zD → Option (Int × zD)
  | 0, _, _, _, _, _ => none
  | q + 1, x1, x2, x3, x4, d => l_X12_bestTries_30F   (l_X12_bestTries_30   q) x1 x2 x3 x4 d
def f_X12_bestTries  (x1 : Int) (d : zD) : Option (Int × zD) :=
  zc (f_X12_isIn  x1 1 50 d) fun v5 d =>
  zc (f_X12_may  v5 1 d) fun v9 d =>
  if (v9 : Int) = 0 then (
    some (0, d))
  else (
    zc (f_X12_deliveredWith  1 1 x1 d) fun v23 d =>
    l_X12_bestTries_30   zF x1 1 v23 2 d)
def f_X12_lostByNoise  (x1 : Int) (d : zD) : Option (Int × zD) :=
  zc (f_X12_isIn  x1 1 100 d) fun v5 d =>
  zc (f_X12_may  v5 1 d) fun v9 d =>
  if (v9 : Int) = 0 then (
    some (0, d))
  else (
    zc (f_X12_deliveredWith  5 0 x1 d) fun v21 d =>
    zg 800 11 <| zl (d 401 (11 : Int).toNat) fun v34 =>
    zc (f_X12_deliveredWith  5 v34 x1 d) fun v36 d =>
    zl (zw (v21 - v36)) fun v39 =>
    some (v39, d))
def l_X12_worst_11F  (r11 : Int → Int → Int → zD → Option (Int × zD)) (x1 x2 x3 : Int) (d : zD) : Option (Int × zD) :=
  zc (f_X12_many   d) fun v13 d =>
  if (v13 : Int) ≤ x3 then (
    some (x1, d))
  else (
    zc (f_X12_of  x3 14 d) fun v23 d =>
    if (x2 : Int) < v23 then (
      zc (f_X12_of  x3 14 d) fun v39 d =>
      zl (zw (x3 + 1)) fun v43 =>
      r11 x3 v39 v43 d)
    else (
      zl (zw (x3 + 1)) fun v43 =>
      r11 x1 x2 v43 d))
def l_X12_worst_11   : Nat → Int → Int → Int → zD → Option (Int × zD)
  | 0, _, _, _, _ => none
  | q + 1, x1, x2, x3, d => l_X12_worst_11F   (l_X12_worst_11   q) x1 x2 x3 d
def f_X12_worst  (d : zD) : Option (Int × zD) :=
  zl (zu d 400 0 0) fun d =>
  l_X12_worst_11   zF (-1) 0 0 d
def f_X12_often  (x1 x2 : Int) (d : zD) : Option (Int × zD) :=
  zc (f_X12_isTerminal  x1 d) fun v3 d =>
  zc (f_X12_isIn  x2 0 3 d) fun v9 d =>
  zc (f_X12_may  v3 v9 d) fun v12 d =>
  if (v12 : Int) = 0 then (
    some (0, d))
  else (
    zl (zw (11 + x2)) fun v23 =>
    zc (f_X12_of  x1 v23 d) fun v24 d =>
    some (v24, d))
def f_X12_isWho  (x1 : Int) (d : zD) : Option (Int × zD) :=
  if (x1 : Int) = (-1) then (
    some (1, d))
  else (
    zc (f_X12_isTerminal  x1 d) fun v7 d =>
    if (v7 : Int) = 0 then (
      some (0, d))
    else (
      some (1, d)))
def j_X12_post_68   (x1 x2 x3 s0 : Int) (d : zD) : Option (Int × zD) :=
  zl (zu d 400 0 s0) fun d =>
  zl (d 400 0) fun v72 =>
  if (v72 : Int) = 0 then (
    zc (f_X12_keeps   d) fun _ d =>
    zc (f_X12_postsNow  x1 x2 x3 d) fun v88 d =>
    some (v88, d))
  else (
    some (0, d))
def j_X12_post_21   (x1 x2 x3 s0 : Int) (d : zD) : Option (Int × zD) :=
  if (s0 : Int) = 0 then (
    j_X12_post_68   x1 x2 x3 1 d)
  else (
    if (x1 : Int) = x2 then (
      j_X12_post_68   x1 x2 x3 2 d)
    else (
      zc (f_X12_isIn  x3 1 20 d) fun v42 d =>
      if (v42 : Int) = 0 then (
        j_X12_post_68   x1 x2 x3 2 d)
      else (
        zg 800 2 <| zl (d 401 (2 : Int).toNat) fun v57 =>
        if (v57 : Int) = 40 then (
          j_X12_post_68   x1 x2 x3 3 d)
        else (
          j_X12_post_68   x1 x2 x3 0 d))))
def j_X12_post_20   (x1 x2 x3 : Int) (d : zD) : Option (Int × zD) :=
  j_X12_post_21   x1 x2 x3 0 d
def f_X12_post  (x1 x2 x3 : Int) (d : zD) : Option (Int × zD) :=
  zc (f_X12_isWho  x1 d) fun v2 d =>
  if (v2 : Int) = 0 then (
    j_X12_post_20   x1 x2 x3 d)
  else (
    zc (f_X12_isWho  x2 d) fun v10 d =>
    if (v10 : Int) = 0 then (
      j_X12_post_20   x1 x2 x3 d)
    else (
      j_X12_post_21   x1 x2 x3 1 d))
def f_X12_kill  (x1 : Int) (d : zD) : Option (Int × zD) :=
  zc (f_X12_isTerminal  x1 d) fun v3 d =>
  zc (f_X12_may  v3 1 d) fun v7 d =>
  if (v7 : Int) = 0 then (
    some (0, d))
  else (
    zc (f_X12_keeps   d) fun _ d =>
    zc (f_X12_setsAlive  x1 0 d) fun v22 d =>
    some (v22, d))
def f_X12_wake  (x1 : Int) (d : zD) : Option (Int × zD) :=
  zc (f_X12_isTerminal  x1 d) fun v3 d =>
  zc (f_X12_may  v3 1 d) fun v7 d =>
  if (v7 : Int) = 0 then (
    some (0, d))
  else (
    zc (f_X12_keeps   d) fun _ d =>
    zc (f_X12_setsAlive  x1 1 d) fun v22 d =>
    some (v22, d))
def j_X12_run_24   (x1 s0 : Int) (d : zD) : Option (Int × zD) :=
  zc (f_X12_may  s0 1 d) fun v25 d =>
  if (v25 : Int) = 0 then (
    some (0, d))
  else (
    zc (f_X12_keeps   d) fun _ d =>
    zc (f_X12_runsNow  x1 d) fun v39 d =>
    some (v39, d))
def j_X12_run_23   (x1 : Int) (d : zD) : Option (Int × zD) :=
  j_X12_run_24   x1 0 d
def f_X12_run  (x1 : Int) (d : zD) : Option (Int × zD) :=
  zc (f_X12_isIn  x1 1 100 d) fun v5 d =>
  if (v5 : Int) = 0 then (
    j_X12_run_23   x1 d)
  else (
    zc (f_X12_canRun  x1 d) fun v13 d =>
    if (v13 : Int) = 0 then (
      j_X12_run_23   x1 d)
    else (
      j_X12_run_24   x1 1 d))
def j_X12_addPlace_22   (x1 s0 s1 : Int) (d : zD) : Option (Int × zD) :=
  zc (f_X12_may  s1 s0 d) fun v22 d =>
  if (v22 : Int) = 0 then (
    some (0, d))
  else (
    zc (f_X12_keeps   d) fun _ d =>
    zc (f_X12_addsPlace  x1 d) fun v36 d =>
    some (v36, d))
def f_X12_addPlace  (x1 : Int) (d : zD) : Option (Int × zD) :=
  zc (f_X12_isTerminal  x1 d) fun v3 d =>
  zg 800 1 <| zl (d 401 (1 : Int).toNat) fun v11 =>
  if (16 : Int) ≤ v11 then (
    j_X12_addPlace_22   x1 0 v3 d)
  else (
    j_X12_addPlace_22   x1 1 v3 d)
def f_X12_dropPlace  (x1 : Int) (d : zD) : Option (Int × zD) :=
  zg 800 1 <| zl (d 401 (1 : Int).toNat) fun v8 =>
  zl (zw (v8 - 1)) fun v10 =>
  zc (f_X12_isIn  x1 0 v10 d) fun v11 d =>
  zc (f_X12_may  v11 1 d) fun v15 d =>
  if (v15 : Int) = 0 then (
    some (0, d))
  else (
    zc (f_X12_keeps   d) fun _ d =>
    zc (f_X12_dropsPlace  x1 d) fun v29 d =>
    some (v29, d))
def j_X12_set_29   (x1 x2 s0 : Int) (d : zD) : Option (Int × zD) :=
  zc (f_X12_may  s0 1 d) fun v33 d =>
  if (v33 : Int) = 0 then (
    some (0, d))
  else (
    zc (f_X12_keeps   d) fun _ d =>
    zl (zw (6 + x1)) fun v52 =>
    zg 800 v52 <| zl (d 401 (v52 : Int).toNat) fun v53 =>
    zl (zw (6 + x1)) fun v63 =>
    zg 800 v63 <| zl (zu d 401 (v63 : Int).toNat x2) fun d =>
    some (v53, d))
def j_X12_set_28   (x1 x2 : Int) (d : zD) : Option (Int × zD) :=
  j_X12_set_29   x1 x2 0 d
def f_X12_set  (x1 x2 : Int) (d : zD) : Option (Int × zD) :=
  zc (f_X12_isIn  x1 0 5 d) fun v3 d =>
  if (v3 : Int) = 0 then (
    j_X12_set_28   x1 x2 d)
  else (
    zc (f_X12_least  x1 d) fun v11 d =>
    zc (f_X12_greatest  x1 d) fun v15 d =>
    zc (f_X12_isIn  x2 v11 v15 d) fun v18 d =>
    if (v18 : Int) = 0 then (
      j_X12_set_28   x1 x2 d)
    else (
      j_X12_set_29   x1 x2 1 d))
def j_X12_undo_13   (s0 : Int) (d : zD) : Option (Int × zD) :=
  zc (f_X12_may  s0 1 d) fun v14 d =>
  if (v14 : Int) = 0 then (
    some (0, d))
  else (
    zl (d 400 5) fun v24 =>
    zl (zw (v24 - 1)) fun v28 =>
    zl (zu d 400 5 v28) fun d =>
    zl (d 400 5) fun v40 =>
    zl (zw (800 * v40)) fun v43 =>
    zc (f_X12_copies 404 6400 401 800 v43 0 800 d) fun _ d =>
    zl (d 400 5) fun v56 =>
    some (v56, d))
def f_X12_undo  (d : zD) : Option (Int × zD) :=
  zl (d 400 5) fun v2 =>
  if (v2 : Int) ≤ 0 then (
    j_X12_undo_13   0 d)
  else (
    j_X12_undo_13   1 d)
def f_X12_writes  (x1 : Int) (d : zD) : Option (Int × zD) :=
  zl (d 400 24) fun v5 =>
  zl (zb8 x1) fun v9 =>
  zg 250 v5 <| zl (zu d 408 (v5 : Int).toNat (zb8 v9)) fun d =>
  zl (d 400 24) fun v13 =>
  zl (zw (v13 + 1)) fun v17 =>
  zl (zu d 400 24 v17) fun d =>
  some (0, d)
def l_X12_writesName_10F  (r10 : Int → Int → zD → Option (Int × zD)) (x2 x3 : Int) (d : zD) : Option (Int × zD) :=
  zc (f_X12_lettersOf  x2 d) fun v12 d =>
  if (v12 : Int) ≤ x3 then (
    some (0, d))
  else (
    zc (f_X12_letterOf  x2 x3 d) fun v23 d =>
    zl (zw (97 + v23)) fun v26 =>
    zl (zw (v26 - 1)) fun v28 =>
    zc (f_X12_writes  v28 d) fun _ d =>
    zl (zw (x3 + 1)) fun v32 =>
    r10 x2 v32 d)
def l_X12_writesName_10   : Nat → Int → Int → zD → Option (Int × zD)
  | 0, _, _, _ => none
  | q + 1, x2, x3, d => l_X12_writesName_10F   (l_X12_writesName_10   q) x2 x3 d
def f_X12_writesName  (x1 : Int) (d : zD) : Option (Int × zD) :=
  zc (f_X12_of  x1 15 d) fun v4 d =>
  l_X12_writesName_10   zF v4 0 d
def j_X12_printList_32  (r12 : Int → zD → Option (Int × zD)) (x1 : Int) (d : zD) : Option (Int × zD) :=
  zl (zw (30 + x1)) fun v40 =>
  zg 800 v40 <| zl (d 401 (v40 : Int).toNat) fun v41 =>
  zc (f_X12_writesName  v41 d) fun _ d =>
  zl (zw (x1 + 1)) fun v45 =>
  r12 v45 d
def l_X12_printList_12F  (r12 : Int → zD → Option (Int × zD)) (x1 : Int) (d : zD) : Option (Int × zD) :=
  zg 800 1 <| zl (d 401 (1 : Int).toNat) fun v18 =>
  if (v18 : Int) ≤ x1 then (
    zl (d 400 24) fun v52 =>
    some (v52, d))
  else (
    if (x1 : Int) ≤ 0 then (
      j_X12_printList_32  r12 x1 d)
    else (
      zc (f_X12_writes  32 d) fun _ d =>
      j_X12_printList_32  r12 x1 d))
def l_X12_printList_12   : Nat → Int → zD → Option (Int × zD)
  | 0, _, _ => none
  | q + 1, x1, d => l_X12_printList_12F   (l_X12_printList_12   q) x1 d
def f_X12_printList  (d : zD) : Option (Int × zD) :=
  zl (zu d 400 0 0) fun d =>
  zl (zu d 400 24 0) fun d =>
  l_X12_printList_12   zF 0 d
def f_X12_outputByte  (x1 : Int) (d : zD) : Option (Int × zD) :=
  zl (zu d 400 0 0) fun d =>
  zl (d 400 24) fun v8 =>
  zl (zw (v8 - 1)) fun v12 =>
  zc (f_X12_isIn  x1 0 v12 d) fun v13 d =>
  if (v13 : Int) = 0 then (
    some ((-1), d))
  else (
    zg 250 x1 <| zl (d 408 (x1 : Int).toNat) fun v24 =>
    some (v24, d))
def f_X12_saveState  (d : zD) : Option (Int × zD) :=
  zl (zu d 400 0 0) fun d =>
  zc (f_X12_copies 401 800 403 800 0 0 800 d) fun _ d =>
  zl (zu d 400 6 1) fun d =>
  zg 800 3 <| zl (d 401 (3 : Int).toNat) fun v31 =>
  some (v31, d)
def f_X12_restoreState  (d : zD) : Option (Int × zD) :=
  zl (d 400 6) fun v2 =>
  zc (f_X12_may  v2 1 d) fun v6 d =>
  if (v6 : Int) = 0 then (
    some (0, d))
  else (
    zc (f_X12_copies 403 800 401 800 0 0 800 d) fun _ d =>
    zl (zu d 400 5 0) fun d =>
    zg 800 3 <| zl (d 401 (3 : Int).toNat) fun v40 =>
    some (v40, d))