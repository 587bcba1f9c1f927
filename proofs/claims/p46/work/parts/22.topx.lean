/-! The class' methods that may throw: where they do not. -/
/-- a call that must not throw -/
def zx {β : Type} (v : Int) (x : Option β) : Option β := if v < 4294967296 then x else none
theorem zx_h {β : Type} {v : Int} {x : Option β} {r : β} (h : zx v x = some r) : v < 4294967296 ∧ x = some r := by
  unfold zx at h
  split at h
  · exact ⟨by assumption, h⟩
  · cases h
theorem zx_t {β : Type} {v : Int} {x : Option β} (h : v < 4294967296) : zx v x = x := if_pos h
theorem zNo {x : Int} {d dz : zD} {rv : Int} (hx : 4294967296 ≤ x) (h : (some (x, d) : Option (Int × zD)) = some (rv, dz)) : ¬ rv < 4294967296 := by
  cases h
  omega
def f_X11_count  (x1 : Int) (d : zD) : Option (Int × zD) :=
  zsw x1 [(0, (
    zl (d 1 0) fun v72 =>
    some (v72, d))), (1, (
    zl (d 30 8) fun v80 =>
    some (v80, d))), (2, (
    zl (d (30 + 1) 0) fun v91 =>
    some (v91, d))), (3, (
    zl (d 30 9) fun v99 =>
    some (v99, d))), (4, (
    zl (d 30 10) fun v107 =>
    some (v107, d))), (5, (
    zl (d 30 11) fun v115 =>
    some (v115, d))), (6, (
    zl (zw (x1 - 6)) fun v129 =>
    zc (f_X3_countIn 30 v129 d) fun v130 d =>
    some (v130, d))), (7, (
    zl (zw (x1 - 6)) fun v129 =>
    zc (f_X3_countIn 30 v129 d) fun v130 d =>
    some (v130, d))), (8, (
    zl (zw (x1 - 6)) fun v129 =>
    zc (f_X3_countIn 30 v129 d) fun v130 d =>
    some (v130, d))), (9, (
    zl (zw (x1 - 6)) fun v129 =>
    zc (f_X3_countIn 30 v129 d) fun v130 d =>
    some (v130, d))), (10, (
    zl (d 1 0) fun v138 =>
    zc (f_X2_sumOf 30 (30 + 17) 8  d) fun v155 d =>
    zl (zw (v138 - v155)) fun v158 =>
    some (v158, d))), (11, (
    zl (d 1 0) fun v164 =>
    zc (f_X2_sumOf 30 (30 + 16) 8  d) fun v181 d =>
    zl (zw (v164 - v181)) fun v184 =>
    some (v184, d))), (12, (
    zl (d 8 2) fun v190 =>
    some (v190, d)))] (
    some (4294967296 + 0, d))
def j_X11_account_10   (d : zD) : Option (Int × zD) :=
  some (4294967296 + 0, d)
def f_X11_account  (x1 : Int) (d : zD) : Option (Int × zD) :=
  if (x1 : Int) < 0 then (
    j_X11_account_10    d)
  else (
    if (x1 : Int) < 13 then (
      zg 13 x1 <| zl (d (30 + 28) (x1 : Int).toNat) fun v26 =>
      some (v26, d))
    else (
      j_X11_account_10    d))
def j_X11_setting_10   (d : zD) : Option (Int × zD) :=
  some (4294967296 + 0, d)
def f_X11_setting  (x1 : Int) (d : zD) : Option (Int × zD) :=
  if (x1 : Int) < 0 then (
    j_X11_setting_10    d)
  else (
    if (x1 : Int) < 6 then (
      zg 6 x1 <| zl (d (30 + 27) (x1 : Int).toNat) fun v26 =>
      some (v26, d))
    else (
      j_X11_setting_10    d))
def f_X11_terminal  (x1 x2 : Int) (d : zD) : Option (Int × zD) :=
  zc (f_X6_has 1 x1 d) fun v5 d =>
  if (v5 : Int) = 0 then (
    some (4294967296 + 1, d))
  else (
    zsw x2 [(0, (
      zg 8 x1 <| zl (d (1 + 2) (x1 : Int).toNat) fun v100 =>
      some (v100, d))), (1, (
      zg 8 x1 <| zl (d (1 + 3) (x1 : Int).toNat) fun v110 =>
      some (v110, d))), (2, (
      zg 8 x1 <| zl (d (1 + 4) (x1 : Int).toNat) fun v120 =>
      some (v120, d))), (3, (
      zg 8 x1 <| zl (d (30 + 16) (x1 : Int).toNat) fun v133 =>
      some (v133, d))), (4, (
      zg 8 x1 <| zl (d (30 + 17) (x1 : Int).toNat) fun v146 =>
      some (v146, d))), (5, (
      zg 8 x1 <| zl (d (30 + 18) (x1 : Int).toNat) fun v159 =>
      some (v159, d))), (6, (
      zl (zw (x2 - 6)) fun v171 =>
      zc (f_X4_sizeOf 30 v171 x1 d) fun v173 d =>
      some (v173, d))), (7, (
      zl (zw (x2 - 6)) fun v171 =>
      zc (f_X4_sizeOf 30 v171 x1 d) fun v173 d =>
      some (v173, d))), (8, (
      zl (zw (x2 - 6)) fun v171 =>
      zc (f_X4_sizeOf 30 v171 x1 d) fun v173 d =>
      some (v173, d))), (9, (
      zc (f_X2_placesWith 30 x1 d) fun v182 d =>
      some (v182, d))), (10, (
      zg 8 x1 <| zl (d (30 + 19) (x1 : Int).toNat) fun v197 =>
      some (v197, d))), (11, (
      zg 8 x1 <| zl (d (30 + 20) (x1 : Int).toNat) fun v210 =>
      some (v210, d))), (12, (
      zg 8 x1 <| zl (d (30 + 21) (x1 : Int).toNat) fun v223 =>
      some (v223, d))), (13, (
      zg 8 x1 <| zl (d (30 + 22) (x1 : Int).toNat) fun v236 =>
      some (v236, d)))] (
      some (4294967296 + 0, d)))
def f_X11_nameLetter  (x1 x2 : Int) (d : zD) : Option (Int × zD) :=
  zc (f_X6_has 1 x1 d) fun v5 d =>
  if (v5 : Int) = 0 then (
    some (4294967296 + 1, d))
  else (
    zc (f_X6_letterOf 1 x1 x2 d) fun v25 d =>
    some (v25, d))
def f_X11_message  (x1 x2 : Int) (d : zD) : Option (Int × zD) :=
  zc (f_X3_has 30 x1 d) fun v10 d =>
  if (v10 : Int) = 0 then (
    some (4294967296 + 1, d))
  else (
    zsw x2 [(0, (
      zg 40 x1 <| zl (d (30 + 2) (x1 : Int).toNat) fun v77 =>
      some (v77, d))), (1, (
      zg 40 x1 <| zl (d (30 + 3) (x1 : Int).toNat) fun v84 =>
      some (v84, d))), (2, (
      zg 40 x1 <| zl (d (30 + 4) (x1 : Int).toNat) fun v91 =>
      some (v91, d))), (3, (
      zg 40 x1 <| zl (d (30 + 5) (x1 : Int).toNat) fun v98 =>
      some (v98, d))), (4, (
      zg 40 x1 <| zl (d (30 + 6) (x1 : Int).toNat) fun v105 =>
      some (v105, d))), (5, (
      zg 40 x1 <| zl (d (30 + 7) (x1 : Int).toNat) fun v112 =>
      some (v112, d))), (6, (
      zg 40 x1 <| zl (d (30 + 8) (x1 : Int).toNat) fun v119 =>
      some (v119, d))), (7, (
      zg 40 x1 <| zl (d (30 + 9) (x1 : Int).toNat) fun v126 =>
      some (v126, d)))] (
      some (4294967296 + 0, d)))
def j_X11_inRow_28   (d : zD) : Option (Int × zD) :=
  some (4294967296 + 0, d)
def f_X11_inRow  (x1 x2 x3 : Int) (d : zD) : Option (Int × zD) :=
  zc (f_X6_has 1 x1 d) fun v5 d =>
  if (v5 : Int) = 0 then (
    some (4294967296 + 1, d))
  else (
    if (x2 : Int) < 0 then (
      j_X11_inRow_28    d)
    else (
      if (x2 : Int) < 3 then (
        zc (f_X4_messageAt 30 x2 x1 x3 d) fun v46 d =>
        some (v46, d))
      else (
        j_X11_inRow_28    d)))
def f_X11_place  (x1 : Int) (d : zD) : Option (Int × zD) :=
  zc (f_X2_hasPlace 30 x1 d) fun v5 d =>
  if (v5 : Int) = 0 then (
    some (4294967296 + 1, d))
  else (
    zg 16 x1 <| zl (d (30 + 29) (x1 : Int).toNat) fun v27 =>
    some (v27, d))
def j_X11_turn_18   (d : zD) : Option (Int × zD) :=
  some (4294967296 + 1, d)
def j_X11_turn_35   (d : zD) : Option (Int × zD) :=
  some (4294967296 + 0, d)
def f_X11_turn  (x1 x2 : Int) (d : zD) : Option (Int × zD) :=
  if (x1 : Int) < 0 then (
    j_X11_turn_18    d)
  else (
    zl (d (30 + 25) 0) fun v12 =>
    if (x1 : Int) < v12 then (
      if (x2 : Int) < 0 then (
        j_X11_turn_35    d)
      else (
        if (x2 : Int) < 5 then (
          zc (f_X10_numberOf 30 x1 x2 d) fun v52 d =>
          some (v52, d))
        else (
          j_X11_turn_35    d)))
    else (
      j_X11_turn_18    d))
def j_X11_deliveredIn_10   (d : zD) : Option (Int × zD) :=
  some (4294967296 + 0, d)
def f_X11_deliveredIn  (x1 : Int) (d : zD) : Option (Int × zD) :=
  if (x1 : Int) < 0 then (
    j_X11_deliveredIn_10    d)
  else (
    if (x1 : Int) ≤ 100 then (
      zc (f_X2_copyFrom 60 30  d) fun _ d =>
      zc (f_X1_makeTurns 7 60 x1 d) fun _ d =>
      zc (f_X2_delivered 60  d) fun v41 d =>
      some (v41, d))
    else (
      j_X11_deliveredIn_10    d))
def j_X11_timeIn_10   (d : zD) : Option (Int × zD) :=
  some (4294967296 + 0, d)
def f_X11_timeIn  (x1 : Int) (d : zD) : Option (Int × zD) :=
  if (x1 : Int) < 0 then (
    j_X11_timeIn_10    d)
  else (
    if (x1 : Int) ≤ 100 then (
      zc (f_X2_copyFrom 60 30  d) fun _ d =>
      zc (f_X1_makeTurns 7 60 x1 d) fun _ d =>
      zl (d 60 9) fun v41 =>
      some (v41, d))
    else (
      j_X11_timeIn_10    d))
def l_X11_deliversIn_35F  (r35 : Int → Int → zD → Option (Int × zD)) (x1 x2 : Int) (d : zD) : Option (Int × zD) :=
  if (200 : Int) < x2 then (
    some ((-1), d))
  else (
    zg 40 x1 <| zl (d (60 + 5) (x1 : Int).toNat) fun v53 =>
    if (v53 : Int) = 3 then (
      some (x2, d))
    else (
      zc (f_X1_makeTurn 7 60  d) fun _ d =>
      zl (zw (x2 + 1)) fun v67 =>
      r35 x1 v67 d))
def l_X11_deliversIn_35   : Nat → Int → Int → zD → Option (Int × zD)
  | 0, _, _, _ => none
  | q + 1, x1, x2, d => l_X11_deliversIn_35F   (l_X11_deliversIn_35   q) x1 x2 d
def f_X11_deliversIn  (x1 : Int) (d : zD) : Option (Int × zD) :=
  zc (f_X3_has 30 x1 d) fun v8 d =>
  if (v8 : Int) = 0 then (
    some (4294967296 + 1, d))
  else (
    zc (f_X2_copyFrom 60 30  d) fun _ d =>
    l_X11_deliversIn_35   zF x1 0 d)
def l_X11_switchesIn_32F  (r32 : Int → Int → zD → Option (Int × zD)) (x1 x2 : Int) (d : zD) : Option (Int × zD) :=
  if (200 : Int) < x2 then (
    some ((-1), d))
  else (
    zg 8 x1 <| zl (d (60 + 17) (x1 : Int).toNat) fun v50 =>
    zg 8 x1 <| zl (d (30 + 17) (x1 : Int).toNat) fun v62 =>
    if (v50 : Int) = v62 then (
      zc (f_X1_makeTurn 7 60  d) fun _ d =>
      zl (zw (x2 + 1)) fun v75 =>
      r32 x1 v75 d)
    else (
      some (x2, d)))
def l_X11_switchesIn_32   : Nat → Int → Int → zD → Option (Int × zD)
  | 0, _, _, _ => none
  | q + 1, x1, x2, d => l_X11_switchesIn_32F   (l_X11_switchesIn_32   q) x1 x2 d
def f_X11_switchesIn  (x1 : Int) (d : zD) : Option (Int × zD) :=
  zc (f_X6_has 1 x1 d) fun v5 d =>
  if (v5 : Int) = 0 then (
    some (4294967296 + 1, d))
  else (
    zc (f_X2_copyFrom 60 30  d) fun _ d =>
    l_X11_switchesIn_32   zF x1 0 d)
def j_X11_bestTries_11   (d : zD) : Option (Int × zD) :=
  some (4294967296 + 0, d)
def l_X11_bestTries_34F  (r34 : Int → Int → Int → Int → zD → Option (Int × zD)) (x1 x2 x3 x4 : Int) (d : zD) : Option (Int × zD) :=
  zg 6 1 <| zl (ztab 1 (1 : Int).toNat) fun v40 =>
  if (v40 : Int) < x4 then (
    some (x2, d))
  else (
    zc (f_X11_deliveredWith  1 x4 x1 d) fun v49 d =>
    if (v49 : Int) ≤ x3 then (
      zl (zw (x4 + 1)) fun v66 =>
      r34 x1 x2 x3 v66 d)
    else (
      zl (zw (x4 + 1)) fun v66 =>
      r34 x1 x4 v49 v66 d))
def l_X11_bestTries_34   : Nat → Int → Int → Int → Int → zD → Option (Int × zD)
  | 0, _, _, _, _, _ => none
  | q + 1, x1, x2, x3, x4, d => l_X11_bestTries_34F   (l_X11_bestTries_34   q) x1 x2 x3 x4 d
def f_X11_bestTries  (x1 : Int) (d : zD) : Option (Int × zD) :=
  if (x1 : Int) < 1 then (
    j_X11_bestTries_11    d)
  else (
    if (x1 : Int) ≤ 50 then (
      zg 6 1 <| zl (ztab 0 (1 : Int).toNat) fun v23 =>
      zg 6 1 <| zl (ztab 0 (1 : Int).toNat) fun v31 =>
      l_X11_bestTries_34   zF x1 v23 (-1) v31 d)
    else (
      j_X11_bestTries_11    d))
def j_X11_lostByNoise_11   (d : zD) : Option (Int × zD) :=
  some (4294967296 + 0, d)
def f_X11_lostByNoise  (x1 : Int) (d : zD) : Option (Int × zD) :=
  if (x1 : Int) < 1 then (
    j_X11_lostByNoise_11    d)
  else (
    if (x1 : Int) ≤ 100 then (
      zc (f_X11_deliveredWith  5 0 x1 d) fun v23 d =>
      zg 6 5 <| zl (d (30 + 27) (5 : Int).toNat) fun v36 =>
      zc (f_X11_deliveredWith  5 v36 x1 d) fun v38 d =>
      zl (zw (v23 - v38)) fun v41 =>
      some (v41, d))
    else (
      j_X11_lostByNoise_11    d))
def j_X11_often_28   (d : zD) : Option (Int × zD) :=
  some (4294967296 + 0, d)
def f_X11_often  (x1 x2 : Int) (d : zD) : Option (Int × zD) :=
  zc (f_X6_has 1 x1 d) fun v5 d =>
  if (v5 : Int) = 0 then (
    some (4294967296 + 1, d))
  else (
    if (x2 : Int) < 0 then (
      j_X11_often_28    d)
    else (
      if (x2 : Int) < 4 then (
        zc (f_X8_oftenOf 30 x2 x1 d) fun v45 d =>
        some (v45, d))
      else (
        j_X11_often_28    d)))
def j_X11_post_16   (d : zD) : Option (Int × zD) :=
  some (4294967296 + 1, d)
def j_X11_post_40   (d : zD) : Option (Int × zD) :=
  some (4294967296 + 0, d)
def f_X11_post  (x1 x2 x3 : Int) (d : zD) : Option (Int × zD) :=
  zc (f_X11_isParty  x1 d) fun v2 d =>
  if (v2 : Int) = 0 then (
    j_X11_post_16    d)
  else (
    zc (f_X11_isParty  x2 d) fun v10 d =>
    if (v10 : Int) = 0 then (
      j_X11_post_16    d)
    else (
      if (x1 : Int) = x2 then (
        j_X11_post_40    d)
      else (
        if (x3 : Int) < 1 then (
          j_X11_post_40    d)
        else (
          if (x3 : Int) ≤ 20 then (
            zc (f_X3_isFull 30  d) fun v55 d =>
            if (v55 : Int) = 0 then (
              zc (f_X0_remember 30  d) fun _ d =>
              zc (f_X2_addMessage 30 x1 x2 x3 d) fun v87 d =>
              some (v87, d))
            else (
              some (4294967296 + 2, d)))
          else (
            j_X11_post_40    d)))))
def f_X11_kill  (x1 : Int) (d : zD) : Option (Int × zD) :=
  zc (f_X6_has 1 x1 d) fun v5 d =>
  if (v5 : Int) = 0 then (
    some (4294967296 + 1, d))
  else (
    zc (f_X0_remember 30  d) fun _ d =>
    zc (f_X2_setLife 30 x1 0 d) fun v36 d =>
    some (v36, d))
def f_X11_wake  (x1 : Int) (d : zD) : Option (Int × zD) :=
  zc (f_X6_has 1 x1 d) fun v5 d =>
  if (v5 : Int) = 0 then (
    some (4294967296 + 1, d))
  else (
    zc (f_X0_remember 30  d) fun _ d =>
    zc (f_X2_setLife 30 x1 1 d) fun v36 d =>
    some (v36, d))
def j_X11_run_26   (d : zD) : Option (Int × zD) :=
  some (4294967296 + 0, d)
def f_X11_run  (x1 : Int) (d : zD) : Option (Int × zD) :=
  if (x1 : Int) < 1 then (
    j_X11_run_26    d)
  else (
    if (100 : Int) < x1 then (
      j_X11_run_26    d)
    else (
      zl (d 30 10) fun v15 =>
      zl (zw (v15 + x1)) fun v19 =>
      if (v19 : Int) ≤ 9999 then (
        zc (f_X0_remember 30  d) fun _ d =>
        zc (f_X2_delivered 30  d) fun v49 d =>
        zc (f_X1_makeTurns 6 30 x1 d) fun _ d =>
        zc (f_X2_delivered 30  d) fun v65 d =>
        zl (zw (v65 - v49)) fun v69 =>
        some (v69, d))
      else (
        j_X11_run_26    d)))
def f_X11_addPlace  (x1 : Int) (d : zD) : Option (Int × zD) :=
  zc (f_X6_has 1 x1 d) fun v5 d =>
  if (v5 : Int) = 0 then (
    some (4294967296 + 1, d))
  else (
    zl (d 30 8) fun v23 =>
    if (v23 : Int) < 16 then (
      zc (f_X0_remember 30  d) fun _ d =>
      zc (f_X2_appendPlace 30 x1 d) fun _ d =>
      zl (d 30 8) fun v62 =>
      some (v62, d))
    else (
      some (4294967296 + 2, d)))
def f_X11_dropPlace  (x1 : Int) (d : zD) : Option (Int × zD) :=
  zc (f_X2_hasPlace 30 x1 d) fun v5 d =>
  if (v5 : Int) = 0 then (
    some (4294967296 + 1, d))
  else (
    zc (f_X0_remember 30  d) fun _ d =>
    zg 16 x1 <| zl (d (30 + 29) (x1 : Int).toNat) fun v38 =>
    zc (f_X2_removePlace 30 x1 d) fun _ d =>
    some (v38, d))
def j_X11_set_28   (d : zD) : Option (Int × zD) :=
  some (4294967296 + 0, d)
def f_X11_set  (x1 x2 : Int) (d : zD) : Option (Int × zD) :=
  if (x1 : Int) < 0 then (
    j_X11_set_28    d)
  else (
    if (6 : Int) ≤ x1 then (
      j_X11_set_28    d)
    else (
      zg 6 x1 <| zl (ztab 0 (x1 : Int).toNat) fun v15 =>
      if (x2 : Int) < v15 then (
        j_X11_set_28    d)
      else (
        zg 6 x1 <| zl (ztab 1 (x1 : Int).toNat) fun v24 =>
        if (x2 : Int) ≤ v24 then (
          zc (f_X0_remember 30  d) fun _ d =>
          zg 6 x1 <| zl (d (30 + 27) (x1 : Int).toNat) fun v55 =>
          zg 6 x1 <| zl (zu d (30 + 27) (x1 : Int).toNat x2) fun d =>
          some (v55, d))
        else (
          j_X11_set_28    d))))
def f_X11_undo  (d : zD) : Option (Int × zD) :=
  zl (d 8 2) fun v4 =>
  if (v4 : Int) = 0 then (
    some (4294967296 + 3, d))
  else (
    zc (f_X0_takeBack 30  d) fun _ d =>
    zl (d 8 2) fun v33 =>
    some (v33, d))
def f_X11_restoreState  (d : zD) : Option (Int × zD) :=
  zl (d 0 12) fun v1 =>
  if (v1 : Int) = 0 then (
    some (4294967296 + 3, d))
  else (
    zc (f_X2_copyFrom 30 90  d) fun _ d =>
    zl (zu d 8 2 0) fun d =>
    zl (d 30 9) fun v38 =>
    some (v38, d))
theorem t_X11_count {V : zW}  (hT : zo11 V) {x1 : Int} (hx1 : zR x1) {d dz : zD} {rv : Int} (h : f_X11_count  x1 d = some (rv, dz)) (hnt : rv < 4294967296) : zMet V 1 yX11_count cX11_count 2 (some .int) [.ref (zad V 0), .int (zI x1)] d (some (.int (zI rv))) (zR rv) dz := by
  refine zMet_by RX11 pn11 rfl (Nat.le_of_ble_eq_true rfl) [some (.ref (zad V 0)), some (.int (zI x1))] rfl fun X C E => ?_
  refine zP_iload_n (pc := 0) C (x := zI x1) dX11_count_0 rfl rfl ?_
  refine zP_sw (pc := 1) C dX11_count_1 hx1 rfl rfl h (fun _ h => ⟨194, rfl, ?_⟩) ⟨fun _ h => ⟨68, rfl, ?_⟩, fun _ h => ⟨76, rfl, ?_⟩, fun _ h => ⟨84, rfl, ?_⟩, fun _ h => ⟨95, rfl, ?_⟩, fun _ h => ⟨103, rfl, ?_⟩, fun _ h => ⟨111, rfl, ?_⟩, fun _ h => ⟨119, rfl, ?_⟩, fun _ h => ⟨119, rfl, ?_⟩, fun _ h => ⟨119, rfl, ?_⟩, fun _ h => ⟨119, rfl, ?_⟩, fun _ h => ⟨134, rfl, ?_⟩, fun _ h => ⟨160, rfl, ?_⟩, fun _ h => ⟨186, rfl, ?_⟩, trivial⟩
  · exact absurd hnt (zNo (by decide) h)
  · refine zP_aload_n (pc := 68) C (x := zad V 0) dX11_count_68 rfl rfl ?_
    refine zP_getR (pc := 69) (a := 0) (t := 1) C g11_10 dX11_count_69 (s_X11 hT) rfl ?_
    refine zP_getI (pc := 72) (a := 1) C g11_115 dX11_count_72 (s_X6 (o_X11_setup hT)) rfl h fun v72 hv72 h => ?_
    exact zP_iret (pc := 75) C E dX11_count_75 hv72 h
  · refine zP_aload_n (pc := 76) C (x := zad V 0) dX11_count_76 rfl rfl ?_
    refine zP_getR (pc := 77) (a := 0) (t := 30) C g11_21 dX11_count_77 (s_X11 hT) rfl ?_
    refine zP_getI (pc := 80) (a := 30) C g11_173 dX11_count_80 (s_X2 (o_X11_line hT)) rfl h fun v80 hv80 h => ?_
    exact zP_iret (pc := 83) C E dX11_count_83 hv80 h
  · refine zP_aload_n (pc := 84) C (x := zad V 0) dX11_count_84 rfl rfl ?_
    refine zP_getR (pc := 85) (a := 0) (t := 30) C g11_21 dX11_count_85 (s_X11 hT) rfl ?_
    refine zP_getR (pc := 88) (a := 30) (t := 30 + 1) C g11_144 dX11_count_88 (s_X2 (o_X11_line hT)) rfl ?_
    refine zP_getI (pc := 91) (a := 30 + 1) C g11_188 dX11_count_91 (s_X3 (o_X11_line hT)) rfl h fun v91 hv91 h => ?_
    exact zP_iret (pc := 94) C E dX11_count_94 hv91 h
  · refine zP_aload_n (pc := 95) C (x := zad V 0) dX11_count_95 rfl rfl ?_
    refine zP_getR (pc := 96) (a := 0) (t := 30) C g11_21 dX11_count_96 (s_X11 hT) rfl ?_
    refine zP_getI (pc := 99) (a := 30) C g11_189 dX11_count_99 (s_X2 (o_X11_line hT)) rfl h fun v99 hv99 h => ?_
    exact zP_iret (pc := 102) C E dX11_count_102 hv99 h
  · refine zP_aload_n (pc := 103) C (x := zad V 0) dX11_count_103 rfl rfl ?_
    refine zP_getR (pc := 104) (a := 0) (t := 30) C g11_21 dX11_count_104 (s_X11 hT) rfl ?_
    refine zP_getI (pc := 107) (a := 30) C g11_167 dX11_count_107 (s_X2 (o_X11_line hT)) rfl h fun v107 hv107 h => ?_
    exact zP_iret (pc := 110) C E dX11_count_110 hv107 h
  · refine zP_aload_n (pc := 111) C (x := zad V 0) dX11_count_111 rfl rfl ?_
    refine zP_getR (pc := 112) (a := 0) (t := 30) C g11_21 dX11_count_112 (s_X11 hT) rfl ?_
    refine zP_getI (pc := 115) (a := 30) C g11_192 dX11_count_115 (s_X2 (o_X11_line hT)) rfl h fun v115 hv115 h => ?_
    exact zP_iret (pc := 118) C E dX11_count_118 hv115 h
  · refine zP_aload_n (pc := 119) C (x := zad V 0) dX11_count_119 rfl rfl ?_
    refine zP_getR (pc := 120) (a := 0) (t := 30) C g11_21 dX11_count_120 (s_X11 hT) rfl ?_
    refine zP_getR (pc := 123) (a := 30) (t := 30 + 1) C g11_144 dX11_count_123 (s_X2 (o_X11_line hT)) rfl ?_
    refine zP_iload_n (pc := 126) C (x := zI x1) dX11_count_126 rfl rfl ?_
    refine zP_bipush (pc := 127) C dX11_count_127 rfl ?_
    refine zP_isub (pc := 129) C dX11_count_129 h fun v129 hv129 h => ?_
    obtain ⟨v130, d1, hc, h⟩ := zc_h h
    refine zP_callV (pc := 130) (As := [.int (zI v129)]) (st := []) C m11_195 dX11_count_130 (s_X3 (o_X11_line hT)) rfl (t_X3_countIn (o_X11_line hT) hv129 hc) ⟨Nat.le_of_ble_eq_true rfl, Nat.le_of_ble_eq_true rfl⟩ rfl (Nat.le_of_ble_eq_true rfl) ⟨Nat.zero_le _, Nat.zero_le _⟩ fun hw => ?_
    have hv130 := hw
    clear hc hw
    show zP V X 2 0 0 133 _ [.int (zI v130)] d1
    revert h
    generalize d1 = d
    intro h
    exact zP_iret (pc := 133) C E dX11_count_133 hv130 h
  · refine zP_aload_n (pc := 119) C (x := zad V 0) dX11_count_119 rfl rfl ?_
    refine zP_getR (pc := 120) (a := 0) (t := 30) C g11_21 dX11_count_120 (s_X11 hT) rfl ?_
    refine zP_getR (pc := 123) (a := 30) (t := 30 + 1) C g11_144 dX11_count_123 (s_X2 (o_X11_line hT)) rfl ?_
    refine zP_iload_n (pc := 126) C (x := zI x1) dX11_count_126 rfl rfl ?_
    refine zP_bipush (pc := 127) C dX11_count_127 rfl ?_
    refine zP_isub (pc := 129) C dX11_count_129 h fun v129 hv129 h => ?_
    obtain ⟨v130, d1, hc, h⟩ := zc_h h
    refine zP_callV (pc := 130) (As := [.int (zI v129)]) (st := []) C m11_195 dX11_count_130 (s_X3 (o_X11_line hT)) rfl (t_X3_countIn (o_X11_line hT) hv129 hc) ⟨Nat.le_of_ble_eq_true rfl, Nat.le_of_ble_eq_true rfl⟩ rfl (Nat.le_of_ble_eq_true rfl) ⟨Nat.zero_le _, Nat.zero_le _⟩ fun hw => ?_
    have hv130 := hw
    clear hc hw
    show zP V X 2 0 0 133 _ [.int (zI v130)] d1
    revert h
    generalize d1 = d
    intro h
    exact zP_iret (pc := 133) C E dX11_count_133 hv130 h
  · refine zP_aload_n (pc := 119) C (x := zad V 0) dX11_count_119 rfl rfl ?_
    refine zP_getR (pc := 120) (a := 0) (t := 30) C g11_21 dX11_count_120 (s_X11 hT) rfl ?_
    refine zP_getR (pc := 123) (a := 30) (t := 30 + 1) C g11_144 dX11_count_123 (s_X2 (o_X11_line hT)) rfl ?_
    refine zP_iload_n (pc := 126) C (x := zI x1) dX11_count_126 rfl rfl ?_
    refine zP_bipush (pc := 127) C dX11_count_127 rfl ?_
    refine zP_isub (pc := 129) C dX11_count_129 h fun v129 hv129 h => ?_
    obtain ⟨v130, d1, hc, h⟩ := zc_h h
    refine zP_callV (pc := 130) (As := [.int (zI v129)]) (st := []) C m11_195 dX11_count_130 (s_X3 (o_X11_line hT)) rfl (t_X3_countIn (o_X11_line hT) hv129 hc) ⟨Nat.le_of_ble_eq_true rfl, Nat.le_of_ble_eq_true rfl⟩ rfl (Nat.le_of_ble_eq_true rfl) ⟨Nat.zero_le _, Nat.zero_le _⟩ fun hw => ?_
    have hv130 := hw
    clear hc hw
    show zP V X 2 0 0 133 _ [.int (zI v130)] d1
    revert h
    generalize d1 = d
    intro h
    exact zP_iret (pc := 133) C E dX11_count_133 hv130 h
  · refine zP_aload_n (pc := 119) C (x := zad V 0) dX11_count_119 rfl rfl ?_
    refine zP_getR (pc := 120) (a := 0) (t := 30) C g11_21 dX11_count_120 (s_X11 hT) rfl ?_
    refine zP_getR (pc := 123) (a := 30) (t := 30 + 1) C g11_144 dX11_count_123 (s_X2 (o_X11_line hT)) rfl ?_
    refine zP_iload_n (pc := 126) C (x := zI x1) dX11_count_126 rfl rfl ?_
    refine zP_bipush (pc := 127) C dX11_count_127 rfl ?_
    refine zP_isub (pc := 129) C dX11_count_129 h fun v129 hv129 h => ?_
    obtain ⟨v130, d1, hc, h⟩ := zc_h h
    refine zP_callV (pc := 130) (As := [.int (zI v129)]) (st := []) C m11_195 dX11_count_130 (s_X3 (o_X11_line hT)) rfl (t_X3_countIn (o_X11_line hT) hv129 hc) ⟨Nat.le_of_ble_eq_true rfl, Nat.le_of_ble_eq_true rfl⟩ rfl (Nat.le_of_ble_eq_true rfl) ⟨Nat.zero_le _, Nat.zero_le _⟩ fun hw => ?_
    have hv130 := hw
    clear hc hw
    show zP V X 2 0 0 133 _ [.int (zI v130)] d1
    revert h
    generalize d1 = d
    intro h
    exact zP_iret (pc := 133) C E dX11_count_133 hv130 h
  · refine zP_aload_n (pc := 134) C (x := zad V 0) dX11_count_134 rfl rfl ?_
    refine zP_getR (pc := 135) (a := 0) (t := 1) C g11_10 dX11_count_135 (s_X11 hT) rfl ?_
    refine zP_getI (pc := 138) (a := 1) C g11_115 dX11_count_138 (s_X6 (o_X11_setup hT)) rfl h fun v138 hv138 h => ?_
    refine zP_aload_n (pc := 141) C (x := zad V 0) dX11_count_141 rfl rfl ?_
    refine zP_getR (pc := 142) (a := 0) (t := 30) C g11_21 dX11_count_142 (s_X11 hT) rfl ?_
    refine zP_aload_n (pc := 145) C (x := zad V 0) dX11_count_145 rfl rfl ?_
    refine zP_getR (pc := 146) (a := 0) (t := 30) C g11_21 dX11_count_146 (s_X11 hT) rfl ?_
    refine zP_getR (pc := 149) (a := 30) (t := 30 + 15) C g11_199 dX11_count_149 (s_X2 (o_X11_line hT)) rfl ?_
    refine zP_getR (pc := 152) (a := 30 + 15) (t := 30 + 17) C g11_203 dX11_count_152 (s_X8 (o_X11_line hT)) rfl ?_
    obtain ⟨v155, d1, hc, h⟩ := zc_h h
    refine zP_callV (pc := 155) (As := [.ref (zad V (30 + 17))]) (st := [.int (zI v138)]) C m11_208 dX11_count_155 (s_X2 (o_X11_line hT)) rfl (t_X2_sumOf (o_X11_line hT) (s_X8_on (o_X11_line hT))  hc) ⟨Nat.le_of_ble_eq_true rfl, Nat.le_of_ble_eq_true rfl⟩ rfl (Nat.le_of_ble_eq_true rfl) ⟨Nat.zero_le _, Nat.zero_le _⟩ fun hw => ?_
    have hv155 := hw
    clear hc hw
    show zP V X 2 0 0 158 _ [.int (zI v155), .int (zI v138)] d1
    revert h
    generalize d1 = d
    intro h
    refine zP_isub (pc := 158) C dX11_count_158 h fun v158 hv158 h => ?_
    exact zP_iret (pc := 159) C E dX11_count_159 hv158 h
  · refine zP_aload_n (pc := 160) C (x := zad V 0) dX11_count_160 rfl rfl ?_
    refine zP_getR (pc := 161) (a := 0) (t := 1) C g11_10 dX11_count_161 (s_X11 hT) rfl ?_
    refine zP_getI (pc := 164) (a := 1) C g11_115 dX11_count_164 (s_X6 (o_X11_setup hT)) rfl h fun v164 hv164 h => ?_
    refine zP_aload_n (pc := 167) C (x := zad V 0) dX11_count_167 rfl rfl ?_
    refine zP_getR (pc := 168) (a := 0) (t := 30) C g11_21 dX11_count_168 (s_X11 hT) rfl ?_
    refine zP_aload_n (pc := 171) C (x := zad V 0) dX11_count_171 rfl rfl ?_
    refine zP_getR (pc := 172) (a := 0) (t := 30) C g11_21 dX11_count_172 (s_X11 hT) rfl ?_
    refine zP_getR (pc := 175) (a := 30) (t := 30 + 15) C g11_199 dX11_count_175 (s_X2 (o_X11_line hT)) rfl ?_
    refine zP_getR (pc := 178) (a := 30 + 15) (t := 30 + 16) C g11_212 dX11_count_178 (s_X8 (o_X11_line hT)) rfl ?_
    obtain ⟨v181, d1, hc, h⟩ := zc_h h
    refine zP_callV (pc := 181) (As := [.ref (zad V (30 + 16))]) (st := [.int (zI v164)]) C m11_208 dX11_count_181 (s_X2 (o_X11_line hT)) rfl (t_X2_sumOf (o_X11_line hT) (s_X8_alive (o_X11_line hT))  hc) ⟨Nat.le_of_ble_eq_true rfl, Nat.le_of_ble_eq_true rfl⟩ rfl (Nat.le_of_ble_eq_true rfl) ⟨Nat.zero_le _, Nat.zero_le _⟩ fun hw => ?_
    have hv181 := hw
    clear hc hw
    show zP V X 2 0 0 184 _ [.int (zI v181), .int (zI v164)] d1
    revert h
    generalize d1 = d
    intro h
    refine zP_isub (pc := 184) C dX11_count_184 h fun v184 hv184 h => ?_
    exact zP_iret (pc := 185) C E dX11_count_185 hv184 h
  · refine zP_aload_n (pc := 186) C (x := zad V 0) dX11_count_186 rfl rfl ?_
    refine zP_getR (pc := 187) (a := 0) (t := 8) C g11_46 dX11_count_187 (s_X11 hT) rfl ?_
    refine zP_getI (pc := 190) (a := 8) C g11_128 dX11_count_190 (s_X0 (o_X11_history hT)) rfl h fun v190 hv190 h => ?_
    exact zP_iret (pc := 193) C E dX11_count_193 hv190 h
theorem wj_X11_account_10 {V : zW} {X : zX}  (hT : zo11 V) (C : zOk V X cX11_account RX11 2 (zrm 0) (some .int)) {rv : Int} {dz : zD} (E : zEnd V X (some (.int (zI rv))) (zR rv) dz) (hnt : rv < 4294967296)    {d : zD} (h : j_X11_account_10    d = some (rv, dz)) : zP V X 2 0 0 10 [none, none] [] d := by
  exact absurd hnt (zNo (by decide) h)
theorem t_X11_account {V : zW}  (hT : zo11 V) {x1 : Int} (hx1 : zR x1) {d dz : zD} {rv : Int} (h : f_X11_account  x1 d = some (rv, dz)) (hnt : rv < 4294967296) : zMet V 0 yX11_account cX11_account 2 (some .int) [.ref (zad V 0), .int (zI x1)] d (some (.int (zI rv))) (zR rv) dz := by
  refine zMet_by RX11 pn11 rfl (Nat.le_of_ble_eq_true rfl) [some (.ref (zad V 0)), some (.int (zI x1))] rfl fun X C E => ?_
  refine zP_iload_n (pc := 0) C (x := zI x1) dX11_account_0 rfl rfl ?_
  refine zP_if_lt (pc := 1) (tgt := 10) C dX11_account_1 rfl hx1 h (fun _ h => ?_) (fun _ h => ?_)
  · exact zP_mask [false, false] (wj_X11_account_10 hT C E hnt   h)
  · refine zP_iload_n (pc := 4) C (x := zI x1) dX11_account_4 rfl rfl ?_
    refine zP_bipush (pc := 5) C dX11_account_5 rfl ?_
    refine zP_icmp_lt (pc := 7) (tgt := 18) C dX11_account_7 rfl hx1 (zRk rfl) h (fun _ h => ?_) (fun _ h => ?_)
    · refine zP_aload_n (pc := 18) C (x := zad V 0) dX11_account_18 rfl rfl ?_
      refine zP_getR (pc := 19) (a := 0) (t := 30) C g11_21 dX11_account_19 (s_X11 hT) rfl ?_
      refine zP_getR (pc := 22) (a := 30) (t := 30 + 28) C g11_218 dX11_account_22 (s_X2 (o_X11_line hT)) rfl ?_
      refine zP_iload_n (pc := 25) C (x := zI x1) dX11_account_25 rfl rfl ?_
      refine zP_iald (pc := 26) (a := 30 + 28) C dX11_account_26 (s_X2_accounts (o_X11_line hT)) hx1 h fun v26 hv26 h => ?_
      exact zP_iret (pc := 27) C E dX11_account_27 hv26 h
    · exact zP_mask [false, false] (wj_X11_account_10 hT C E hnt   h)
theorem wj_X11_setting_10 {V : zW} {X : zX}  (hT : zo11 V) (C : zOk V X cX11_setting RX11 2 (zrm 0) (some .int)) {rv : Int} {dz : zD} (E : zEnd V X (some (.int (zI rv))) (zR rv) dz) (hnt : rv < 4294967296)    {d : zD} (h : j_X11_setting_10    d = some (rv, dz)) : zP V X 2 0 0 10 [none, none] [] d := by
  exact absurd hnt (zNo (by decide) h)
theorem t_X11_setting {V : zW}  (hT : zo11 V) {x1 : Int} (hx1 : zR x1) {d dz : zD} {rv : Int} (h : f_X11_setting  x1 d = some (rv, dz)) (hnt : rv < 4294967296) : zMet V 0 yX11_setting cX11_setting 2 (some .int) [.ref (zad V 0), .int (zI x1)] d (some (.int (zI rv))) (zR rv) dz := by
  refine zMet_by RX11 pn11 rfl (Nat.le_of_ble_eq_true rfl) [some (.ref (zad V 0)), some (.int (zI x1))] rfl fun X C E => ?_
  refine zP_iload_n (pc := 0) C (x := zI x1) dX11_setting_0 rfl rfl ?_
  refine zP_if_lt (pc := 1) (tgt := 10) C dX11_setting_1 rfl hx1 h (fun _ h => ?_) (fun _ h => ?_)
  · exact zP_mask [false, false] (wj_X11_setting_10 hT C E hnt   h)
  · refine zP_iload_n (pc := 4) C (x := zI x1) dX11_setting_4 rfl rfl ?_
    refine zP_bipush (pc := 5) C dX11_setting_5 rfl ?_
    refine zP_icmp_lt (pc := 7) (tgt := 18) C dX11_setting_7 rfl hx1 (zRk rfl) h (fun _ h => ?_) (fun _ h => ?_)
    · refine zP_aload_n (pc := 18) C (x := zad V 0) dX11_setting_18 rfl rfl ?_
      refine zP_getR (pc := 19) (a := 0) (t := 30) C g11_21 dX11_setting_19 (s_X11 hT) rfl ?_
      refine zP_getR (pc := 22) (a := 30) (t := 30 + 27) C g11_221 dX11_setting_22 (s_X2 (o_X11_line hT)) rfl ?_
      refine zP_iload_n (pc := 25) C (x := zI x1) dX11_setting_25 rfl rfl ?_
      refine zP_iald (pc := 26) (a := 30 + 27) C dX11_setting_26 (s_X2_settings (o_X11_line hT)) hx1 h fun v26 hv26 h => ?_
      exact zP_iret (pc := 27) C E dX11_setting_27 hv26 h
    · exact zP_mask [false, false] (wj_X11_setting_10 hT C E hnt   h)
theorem t_X11_terminal {V : zW}  (hT : zo11 V) {x1 x2 : Int} (hx1 : zR x1) (hx2 : zR x2) {d dz : zD} {rv : Int} (h : f_X11_terminal  x1 x2 d = some (rv, dz)) (hnt : rv < 4294967296) : zMet V 1 yX11_terminal cX11_terminal 3 (some .int) [.ref (zad V 0), .int (zI x1), .int (zI x2)] d (some (.int (zI rv))) (zR rv) dz := by
  refine zMet_by RX11 pn11 rfl (Nat.le_of_ble_eq_true rfl) [some (.ref (zad V 0)), some (.int (zI x1)), some (.int (zI x2))] rfl fun X C E => ?_
  refine zP_aload_n (pc := 0) C (x := zad V 0) dX11_terminal_0 rfl rfl ?_
  refine zP_getR (pc := 1) (a := 0) (t := 1) C g11_10 dX11_terminal_1 (s_X11 hT) rfl ?_
  refine zP_iload_n (pc := 4) C (x := zI x1) dX11_terminal_4 rfl rfl ?_
  obtain ⟨v5, d1, hc, h⟩ := zc_h h
  refine zP_callV (pc := 5) (As := [.int (zI x1)]) (st := []) C m11_224 dX11_terminal_5 (s_X6 (o_X11_setup hT)) rfl (t_X6_has (o_X11_setup hT) hx1 hc) ⟨Nat.le_of_ble_eq_true rfl, Nat.le_of_ble_eq_true rfl⟩ rfl (Nat.le_of_ble_eq_true rfl) ⟨Nat.zero_le _, Nat.zero_le _⟩ fun hw => ?_
  have hbv5 := hw
  have hv5 := z01 hw
  clear hc hw
  show zP V X 3 0 0 8 _ [.int (zI v5)] d1
  revert h
  generalize d1 = d
  intro h
  refine zP_if_ne (pc := 8) (tgt := 19) C dX11_terminal_8 rfl hv5 h (fun _ h => ?_) (fun _ h => ?_)
  · refine zP_iload_n (pc := 19) C (x := zI x2) dX11_terminal_19 rfl rfl ?_
    refine zP_sw (pc := 20) C dX11_terminal_20 hx2 rfl rfl h (fun _ h => ⟨238, rfl, ?_⟩) ⟨fun _ h => ⟨92, rfl, ?_⟩, fun _ h => ⟨102, rfl, ?_⟩, fun _ h => ⟨112, rfl, ?_⟩, fun _ h => ⟨122, rfl, ?_⟩, fun _ h => ⟨135, rfl, ?_⟩, fun _ h => ⟨148, rfl, ?_⟩, fun _ h => ⟨161, rfl, ?_⟩, fun _ h => ⟨161, rfl, ?_⟩, fun _ h => ⟨161, rfl, ?_⟩, fun _ h => ⟨177, rfl, ?_⟩, fun _ h => ⟨186, rfl, ?_⟩, fun _ h => ⟨199, rfl, ?_⟩, fun _ h => ⟨212, rfl, ?_⟩, fun _ h => ⟨225, rfl, ?_⟩, trivial⟩
    · exact absurd hnt (zNo (by decide) h)
    · refine zP_aload_n (pc := 92) C (x := zad V 0) dX11_terminal_92 rfl rfl ?_
      refine zP_getR (pc := 93) (a := 0) (t := 1) C g11_10 dX11_terminal_93 (s_X11 hT) rfl ?_
      refine zP_getR (pc := 96) (a := 1) (t := 1 + 2) C g11_230 dX11_terminal_96 (s_X6 (o_X11_setup hT)) rfl ?_
      refine zP_iload_n (pc := 99) C (x := zI x1) dX11_terminal_99 rfl rfl ?_
      refine zP_iald (pc := 100) (a := 1 + 2) C dX11_terminal_100 (s_X6_delays (o_X11_setup hT)) hx1 h fun v100 hv100 h => ?_
      exact zP_iret (pc := 101) C E dX11_terminal_101 hv100 h
    · refine zP_aload_n (pc := 102) C (x := zad V 0) dX11_terminal_102 rfl rfl ?_
      refine zP_getR (pc := 103) (a := 0) (t := 1) C g11_10 dX11_terminal_103 (s_X11 hT) rfl ?_
      refine zP_getR (pc := 106) (a := 1) (t := 1 + 3) C g11_233 dX11_terminal_106 (s_X6 (o_X11_setup hT)) rfl ?_
      refine zP_iload_n (pc := 109) C (x := zI x1) dX11_terminal_109 rfl rfl ?_
      refine zP_iald (pc := 110) (a := 1 + 3) C dX11_terminal_110 (s_X6_rooms (o_X11_setup hT)) hx1 h fun v110 hv110 h => ?_
      exact zP_iret (pc := 111) C E dX11_terminal_111 hv110 h
    · refine zP_aload_n (pc := 112) C (x := zad V 0) dX11_terminal_112 rfl rfl ?_
      refine zP_getR (pc := 113) (a := 0) (t := 1) C g11_10 dX11_terminal_113 (s_X11 hT) rfl ?_
      refine zP_getR (pc := 116) (a := 1) (t := 1 + 4) C g11_236 dX11_terminal_116 (s_X6 (o_X11_setup hT)) rfl ?_
      refine zP_iload_n (pc := 119) C (x := zI x1) dX11_terminal_119 rfl rfl ?_
      refine zP_iald (pc := 120) (a := 1 + 4) C dX11_terminal_120 (s_X6_prints (o_X11_setup hT)) hx1 h fun v120 hv120 h => ?_
      exact zP_iret (pc := 121) C E dX11_terminal_121 hv120 h
    · refine zP_aload_n (pc := 122) C (x := zad V 0) dX11_terminal_122 rfl rfl ?_
      refine zP_getR (pc := 123) (a := 0) (t := 30) C g11_21 dX11_terminal_123 (s_X11 hT) rfl ?_
      refine zP_getR (pc := 126) (a := 30) (t := 30 + 15) C g11_199 dX11_terminal_126 (s_X2 (o_X11_line hT)) rfl ?_
      refine zP_getR (pc := 129) (a := 30 + 15) (t := 30 + 16) C g11_212 dX11_terminal_129 (s_X8 (o_X11_line hT)) rfl ?_
      refine zP_iload_n (pc := 132) C (x := zI x1) dX11_terminal_132 rfl rfl ?_
      refine zP_iald (pc := 133) (a := 30 + 16) C dX11_terminal_133 (s_X8_alive (o_X11_line hT)) hx1 h fun v133 hv133 h => ?_
      exact zP_iret (pc := 134) C E dX11_terminal_134 hv133 h
    · refine zP_aload_n (pc := 135) C (x := zad V 0) dX11_terminal_135 rfl rfl ?_
      refine zP_getR (pc := 136) (a := 0) (t := 30) C g11_21 dX11_terminal_136 (s_X11 hT) rfl ?_
      refine zP_getR (pc := 139) (a := 30) (t := 30 + 15) C g11_199 dX11_terminal_139 (s_X2 (o_X11_line hT)) rfl ?_
      refine zP_getR (pc := 142) (a := 30 + 15) (t := 30 + 17) C g11_203 dX11_terminal_142 (s_X8 (o_X11_line hT)) rfl ?_
      refine zP_iload_n (pc := 145) C (x := zI x1) dX11_terminal_145 rfl rfl ?_
      refine zP_iald (pc := 146) (a := 30 + 17) C dX11_terminal_146 (s_X8_on (o_X11_line hT)) hx1 h fun v146 hv146 h => ?_
      exact zP_iret (pc := 147) C E dX11_terminal_147 hv146 h
    · refine zP_aload_n (pc := 148) C (x := zad V 0) dX11_terminal_148 rfl rfl ?_
      refine zP_getR (pc := 149) (a := 0) (t := 30) C g11_21 dX11_terminal_149 (s_X11 hT) rfl ?_
      refine zP_getR (pc := 152) (a := 30) (t := 30 + 15) C g11_199 dX11_terminal_152 (s_X2 (o_X11_line hT)) rfl ?_
      refine zP_getR (pc := 155) (a := 30 + 15) (t := 30 + 18) C g11_239 dX11_terminal_155 (s_X8 (o_X11_line hT)) rfl ?_
      refine zP_iload_n (pc := 158) C (x := zI x1) dX11_terminal_158 rfl rfl ?_
      refine zP_iald (pc := 159) (a := 30 + 18) C dX11_terminal_159 (s_X8_misses (o_X11_line hT)) hx1 h fun v159 hv159 h => ?_
      exact zP_iret (pc := 160) C E dX11_terminal_160 hv159 h
    · refine zP_aload_n (pc := 161) C (x := zad V 0) dX11_terminal_161 rfl rfl ?_
      refine zP_getR (pc := 162) (a := 0) (t := 30) C g11_21 dX11_terminal_162 (s_X11 hT) rfl ?_
      refine zP_getR (pc := 165) (a := 30) (t := 30 + 10) C g11_242 dX11_terminal_165 (s_X2 (o_X11_line hT)) rfl ?_
      refine zP_iload_n (pc := 168) C (x := zI x2) dX11_terminal_168 rfl rfl ?_
      refine zP_bipush (pc := 169) C dX11_terminal_169 rfl ?_
      refine zP_isub (pc := 171) C dX11_terminal_171 h fun v171 hv171 h => ?_
      refine zP_iload_n (pc := 172) C (x := zI x1) dX11_terminal_172 rfl rfl ?_
      obtain ⟨v173, d1, hc, h⟩ := zc_h h
      refine zP_callV (pc := 173) (As := [.int (zI v171), .int (zI x1)]) (st := []) C m11_246 dX11_terminal_173 (s_X4 (o_X11_line hT)) rfl (t_X4_sizeOf (o_X11_line hT) hv171 hx1 hc) ⟨Nat.le_of_ble_eq_true rfl, Nat.le_of_ble_eq_true rfl⟩ rfl (Nat.le_of_ble_eq_true rfl) ⟨Nat.zero_le _, Nat.zero_le _⟩ fun hw => ?_
      have hv173 := hw
      clear hc hw
      show zP V X 3 0 0 176 _ [.int (zI v173)] d1
      revert h
      generalize d1 = d
      intro h
      exact zP_iret (pc := 176) C E dX11_terminal_176 hv173 h
    · refine zP_aload_n (pc := 161) C (x := zad V 0) dX11_terminal_161 rfl rfl ?_
      refine zP_getR (pc := 162) (a := 0) (t := 30) C g11_21 dX11_terminal_162 (s_X11 hT) rfl ?_
      refine zP_getR (pc := 165) (a := 30) (t := 30 + 10) C g11_242 dX11_terminal_165 (s_X2 (o_X11_line hT)) rfl ?_
      refine zP_iload_n (pc := 168) C (x := zI x2) dX11_terminal_168 rfl rfl ?_
      refine zP_bipush (pc := 169) C dX11_terminal_169 rfl ?_
      refine zP_isub (pc := 171) C dX11_terminal_171 h fun v171 hv171 h => ?_
      refine zP_iload_n (pc := 172) C (x := zI x1) dX11_terminal_172 rfl rfl ?_
      obtain ⟨v173, d1, hc, h⟩ := zc_h h
      refine zP_callV (pc := 173) (As := [.int (zI v171), .int (zI x1)]) (st := []) C m11_246 dX11_terminal_173 (s_X4 (o_X11_line hT)) rfl (t_X4_sizeOf (o_X11_line hT) hv171 hx1 hc) ⟨Nat.le_of_ble_eq_true rfl, Nat.le_of_ble_eq_true rfl⟩ rfl (Nat.le_of_ble_eq_true rfl) ⟨Nat.zero_le _, Nat.zero_le _⟩ fun hw => ?_
      have hv173 := hw
      clear hc hw
      show zP V X 3 0 0 176 _ [.int (zI v173)] d1
      revert h
      generalize d1 = d
      intro h
      exact zP_iret (pc := 176) C E dX11_terminal_176 hv173 h
    · refine zP_aload_n (pc := 161) C (x := zad V 0) dX11_terminal_161 rfl rfl ?_
      refine zP_getR (pc := 162) (a := 0) (t := 30) C g11_21 dX11_terminal_162 (s_X11 hT) rfl ?_
      refine zP_getR (pc := 165) (a := 30) (t := 30 + 10) C g11_242 dX11_terminal_165 (s_X2 (o_X11_line hT)) rfl ?_
      refine zP_iload_n (pc := 168) C (x := zI x2) dX11_terminal_168 rfl rfl ?_
      refine zP_bipush (pc := 169) C dX11_terminal_169 rfl ?_
      refine zP_isub (pc := 171) C dX11_terminal_171 h fun v171 hv171 h => ?_
      refine zP_iload_n (pc := 172) C (x := zI x1) dX11_terminal_172 rfl rfl ?_
      obtain ⟨v173, d1, hc, h⟩ := zc_h h
      refine zP_callV (pc := 173) (As := [.int (zI v171), .int (zI x1)]) (st := []) C m11_246 dX11_terminal_173 (s_X4 (o_X11_line hT)) rfl (t_X4_sizeOf (o_X11_line hT) hv171 hx1 hc) ⟨Nat.le_of_ble_eq_true rfl, Nat.le_of_ble_eq_true rfl⟩ rfl (Nat.le_of_ble_eq_true rfl) ⟨Nat.zero_le _, Nat.zero_le _⟩ fun hw => ?_
      have hv173 := hw
      clear hc hw
      show zP V X 3 0 0 176 _ [.int (zI v173)] d1
      revert h
      generalize d1 = d
      intro h
      exact zP_iret (pc := 176) C E dX11_terminal_176 hv173 h
    · refine zP_aload_n (pc := 177) C (x := zad V 0) dX11_terminal_177 rfl rfl ?_
      refine zP_getR (pc := 178) (a := 0) (t := 30) C g11_21 dX11_terminal_178 (s_X11 hT) rfl ?_
      refine zP_iload_n (pc := 181) C (x := zI x1) dX11_terminal_181 rfl rfl ?_
      obtain ⟨v182, d1, hc, h⟩ := zc_h h
      refine zP_callV (pc := 182) (As := [.int (zI x1)]) (st := []) C m11_251 dX11_terminal_182 (s_X2 (o_X11_line hT)) rfl (t_X2_placesWith (o_X11_line hT) hx1 hc) ⟨Nat.le_of_ble_eq_true rfl, Nat.le_of_ble_eq_true rfl⟩ rfl (Nat.le_of_ble_eq_true rfl) ⟨Nat.zero_le _, Nat.zero_le _⟩ fun hw => ?_
      have hv182 := hw
      clear hc hw
      show zP V X 3 0 0 185 _ [.int (zI v182)] d1
      revert h
      generalize d1 = d
      intro h
      exact zP_iret (pc := 185) C E dX11_terminal_185 hv182 h
    · refine zP_aload_n (pc := 186) C (x := zad V 0) dX11_terminal_186 rfl rfl ?_
      refine zP_getR (pc := 187) (a := 0) (t := 30) C g11_21 dX11_terminal_187 (s_X11 hT) rfl ?_
      refine zP_getR (pc := 190) (a := 30) (t := 30 + 15) C g11_199 dX11_terminal_190 (s_X2 (o_X11_line hT)) rfl ?_
      refine zP_getR (pc := 193) (a := 30 + 15) (t := 30 + 19) C g11_254 dX11_terminal_193 (s_X8 (o_X11_line hT)) rfl ?_
      refine zP_iload_n (pc := 196) C (x := zI x1) dX11_terminal_196 rfl rfl ?_
      refine zP_iald (pc := 197) (a := 30 + 19) C dX11_terminal_197 (s_X8_ownBits (o_X11_line hT)) hx1 h fun v197 hv197 h => ?_
      exact zP_iret (pc := 198) C E dX11_terminal_198 hv197 h
    · refine zP_aload_n (pc := 199) C (x := zad V 0) dX11_terminal_199 rfl rfl ?_
      refine zP_getR (pc := 200) (a := 0) (t := 30) C g11_21 dX11_terminal_200 (s_X11 hT) rfl ?_
      refine zP_getR (pc := 203) (a := 30) (t := 30 + 15) C g11_199 dX11_terminal_203 (s_X2 (o_X11_line hT)) rfl ?_
      refine zP_getR (pc := 206) (a := 30 + 15) (t := 30 + 20) C g11_257 dX11_terminal_206 (s_X8 (o_X11_line hT)) rfl ?_
      refine zP_iload_n (pc := 209) C (x := zI x1) dX11_terminal_209 rfl rfl ?_
      refine zP_iald (pc := 210) (a := 30 + 20) C dX11_terminal_210 (s_X8_expectedBits (o_X11_line hT)) hx1 h fun v210 hv210 h => ?_
      exact zP_iret (pc := 211) C E dX11_terminal_211 hv210 h
    · refine zP_aload_n (pc := 212) C (x := zad V 0) dX11_terminal_212 rfl rfl ?_
      refine zP_getR (pc := 213) (a := 0) (t := 30) C g11_21 dX11_terminal_213 (s_X11 hT) rfl ?_
      refine zP_getR (pc := 216) (a := 30) (t := 30 + 15) C g11_199 dX11_terminal_216 (s_X2 (o_X11_line hT)) rfl ?_
      refine zP_getR (pc := 219) (a := 30 + 15) (t := 30 + 21) C g11_260 dX11_terminal_219 (s_X8 (o_X11_line hT)) rfl ?_
      refine zP_iload_n (pc := 222) C (x := zI x1) dX11_terminal_222 rfl rfl ?_
      refine zP_iald (pc := 223) (a := 30 + 21) C dX11_terminal_223 (s_X8_hostBits (o_X11_line hT)) hx1 h fun v223 hv223 h => ?_
      exact zP_iret (pc := 224) C E dX11_terminal_224 hv223 h
    · refine zP_aload_n (pc := 225) C (x := zad V 0) dX11_terminal_225 rfl rfl ?_
      refine zP_getR (pc := 226) (a := 0) (t := 30) C g11_21 dX11_terminal_226 (s_X11 hT) rfl ?_
      refine zP_getR (pc := 229) (a := 30) (t := 30 + 15) C g11_199 dX11_terminal_229 (s_X2 (o_X11_line hT)) rfl ?_
      refine zP_getR (pc := 232) (a := 30 + 15) (t := 30 + 22) C g11_263 dX11_terminal_232 (s_X8 (o_X11_line hT)) rfl ?_
      refine zP_iload_n (pc := 235) C (x := zI x1) dX11_terminal_235 rfl rfl ?_
      refine zP_iald (pc := 236) (a := 30 + 22) C dX11_terminal_236 (s_X8_hostExpectedBits (o_X11_line hT)) hx1 h fun v236 hv236 h => ?_
      exact zP_iret (pc := 237) C E dX11_terminal_237 hv236 h
  · exact absurd hnt (zNo (by decide) h)
theorem t_X11_message {V : zW}  (hT : zo11 V) {x1 x2 : Int} (hx1 : zR x1) (hx2 : zR x2) {d dz : zD} {rv : Int} (h : f_X11_message  x1 x2 d = some (rv, dz)) (hnt : rv < 4294967296) : zMet V 1 yX11_message cX11_message 4 (some .int) [.ref (zad V 0), .int (zI x1), .int (zI x2)] d (some (.int (zI rv))) (zR rv) dz := by
  refine zMet_by RX11 pn11 rfl (Nat.le_of_ble_eq_true rfl) [some (.ref (zad V 0)), some (.int (zI x1)), some (.int (zI x2)), none] rfl fun X C E => ?_
  refine zP_aload_n (pc := 0) C (x := zad V 0) dX11_message_0 rfl rfl ?_
  refine zP_getR (pc := 1) (a := 0) (t := 30) C g11_21 dX11_message_1 (s_X11 hT) rfl ?_
  refine zP_getR (pc := 4) (a := 30) (t := 30 + 1) C g11_144 dX11_message_4 (s_X2 (o_X11_line hT)) rfl ?_
  refine zP_astore_n (pc := 7) C (L' := [some (.ref (zad V 0)), some (.int (zI x1)), some (.int (zI x2)), some (.ref (zad V (30 + 1)))]) dX11_message_7 rfl (Nat.le_of_ble_eq_true rfl) rfl rfl ?_
  refine zP_aload_n (pc := 8) C (x := zad V (30 + 1)) dX11_message_8 rfl rfl ?_
  refine zP_iload_n (pc := 9) C (x := zI x1) dX11_message_9 rfl rfl ?_
  obtain ⟨v10, d1, hc, h⟩ := zc_h h
  refine zP_callV (pc := 10) (As := [.int (zI x1)]) (st := []) C m11_269 dX11_message_10 (s_X3 (o_X11_line hT)) rfl (t_X3_has (o_X11_line hT) hx1 hc) ⟨Nat.le_of_ble_eq_true rfl, Nat.le_of_ble_eq_true rfl⟩ rfl (Nat.le_of_ble_eq_true rfl) ⟨Nat.zero_le _, Nat.zero_le _⟩ fun hw => ?_
  have hbv10 := hw
  have hv10 := z01 hw
  clear hc hw
  show zP V X 4 0 0 13 _ [.int (zI v10)] d1
  revert h
  generalize d1 = d
  intro h
  refine zP_if_ne (pc := 13) (tgt := 24) C dX11_message_13 rfl hv10 h (fun _ h => ?_) (fun _ h => ?_)
  · refine zP_iload_n (pc := 24) C (x := zI x2) dX11_message_24 rfl rfl ?_
    refine zP_sw (pc := 25) C dX11_message_25 hx2 rfl rfl h (fun _ h => ⟨128, rfl, ?_⟩) ⟨fun _ h => ⟨72, rfl, ?_⟩, fun _ h => ⟨79, rfl, ?_⟩, fun _ h => ⟨86, rfl, ?_⟩, fun _ h => ⟨93, rfl, ?_⟩, fun _ h => ⟨100, rfl, ?_⟩, fun _ h => ⟨107, rfl, ?_⟩, fun _ h => ⟨114, rfl, ?_⟩, fun _ h => ⟨121, rfl, ?_⟩, trivial⟩
    · exact absurd hnt (zNo (by decide) h)
    · refine zP_aload_n (pc := 72) C (x := zad V (30 + 1)) dX11_message_72 rfl rfl ?_
      refine zP_getR (pc := 73) (a := 30 + 1) (t := 30 + 2) C g11_270 dX11_message_73 (s_X3 (o_X11_line hT)) rfl ?_
      refine zP_iload_n (pc := 76) C (x := zI x1) dX11_message_76 rfl rfl ?_
      refine zP_iald (pc := 77) (a := 30 + 2) C dX11_message_77 (s_X3_senders (o_X11_line hT)) hx1 h fun v77 hv77 h => ?_
      exact zP_iret (pc := 78) C E dX11_message_78 hv77 h
    · refine zP_aload_n (pc := 79) C (x := zad V (30 + 1)) dX11_message_79 rfl rfl ?_
      refine zP_getR (pc := 80) (a := 30 + 1) (t := 30 + 3) C g11_273 dX11_message_80 (s_X3 (o_X11_line hT)) rfl ?_
      refine zP_iload_n (pc := 83) C (x := zI x1) dX11_message_83 rfl rfl ?_
      refine zP_iald (pc := 84) (a := 30 + 3) C dX11_message_84 (s_X3_receivers (o_X11_line hT)) hx1 h fun v84 hv84 h => ?_
      exact zP_iret (pc := 85) C E dX11_message_85 hv84 h
    · refine zP_aload_n (pc := 86) C (x := zad V (30 + 1)) dX11_message_86 rfl rfl ?_
      refine zP_getR (pc := 87) (a := 30 + 1) (t := 30 + 4) C g11_276 dX11_message_87 (s_X3 (o_X11_line hT)) rfl ?_
      refine zP_iload_n (pc := 90) C (x := zI x1) dX11_message_90 rfl rfl ?_
      refine zP_iald (pc := 91) (a := 30 + 4) C dX11_message_91 (s_X3_lengths (o_X11_line hT)) hx1 h fun v91 hv91 h => ?_
      exact zP_iret (pc := 92) C E dX11_message_92 hv91 h
    · refine zP_aload_n (pc := 93) C (x := zad V (30 + 1)) dX11_message_93 rfl rfl ?_
      refine zP_getR (pc := 94) (a := 30 + 1) (t := 30 + 5) C g11_279 dX11_message_94 (s_X3 (o_X11_line hT)) rfl ?_
      refine zP_iload_n (pc := 97) C (x := zI x1) dX11_message_97 rfl rfl ?_
      refine zP_iald (pc := 98) (a := 30 + 5) C dX11_message_98 (s_X3_states (o_X11_line hT)) hx1 h fun v98 hv98 h => ?_
      exact zP_iret (pc := 99) C E dX11_message_99 hv98 h
    · refine zP_aload_n (pc := 100) C (x := zad V (30 + 1)) dX11_message_100 rfl rfl ?_
      refine zP_getR (pc := 101) (a := 30 + 1) (t := 30 + 6) C g11_282 dX11_message_101 (s_X3 (o_X11_line hT)) rfl ?_
      refine zP_iload_n (pc := 104) C (x := zI x1) dX11_message_104 rfl rfl ?_
      refine zP_iald (pc := 105) (a := 30 + 6) C dX11_message_105 (s_X3_postTimes (o_X11_line hT)) hx1 h fun v105 hv105 h => ?_
      exact zP_iret (pc := 106) C E dX11_message_106 hv105 h
    · refine zP_aload_n (pc := 107) C (x := zad V (30 + 1)) dX11_message_107 rfl rfl ?_
      refine zP_getR (pc := 108) (a := 30 + 1) (t := 30 + 7) C g11_285 dX11_message_108 (s_X3 (o_X11_line hT)) rfl ?_
      refine zP_iload_n (pc := 111) C (x := zI x1) dX11_message_111 rfl rfl ?_
      refine zP_iald (pc := 112) (a := 30 + 7) C dX11_message_112 (s_X3_hostTimes (o_X11_line hT)) hx1 h fun v112 hv112 h => ?_
      exact zP_iret (pc := 113) C E dX11_message_113 hv112 h
    · refine zP_aload_n (pc := 114) C (x := zad V (30 + 1)) dX11_message_114 rfl rfl ?_
      refine zP_getR (pc := 115) (a := 30 + 1) (t := 30 + 8) C g11_288 dX11_message_115 (s_X3 (o_X11_line hT)) rfl ?_
      refine zP_iload_n (pc := 118) C (x := zI x1) dX11_message_118 rfl rfl ?_
      refine zP_iald (pc := 119) (a := 30 + 8) C dX11_message_119 (s_X3_bufferTimes (o_X11_line hT)) hx1 h fun v119 hv119 h => ?_
      exact zP_iret (pc := 120) C E dX11_message_120 hv119 h
    · refine zP_aload_n (pc := 121) C (x := zad V (30 + 1)) dX11_message_121 rfl rfl ?_
      refine zP_getR (pc := 122) (a := 30 + 1) (t := 30 + 9) C g11_291 dX11_message_122 (s_X3 (o_X11_line hT)) rfl ?_
      refine zP_iload_n (pc := 125) C (x := zI x1) dX11_message_125 rfl rfl ?_
      refine zP_iald (pc := 126) (a := 30 + 9) C dX11_message_126 (s_X3_deliveryTimes (o_X11_line hT)) hx1 h fun v126 hv126 h => ?_
      exact zP_iret (pc := 127) C E dX11_message_127 hv126 h
  · exact absurd hnt (zNo (by decide) h)
theorem wj_X11_inRow_28 {V : zW} {X : zX}  (hT : zo11 V) (C : zOk V X cX11_inRow RX11 4 (zrm 2) (some .int)) {rv : Int} {dz : zD} (E : zEnd V X (some (.int (zI rv))) (zR rv) dz) (hnt : rv < 4294967296)    {d : zD} (h : j_X11_inRow_28    d = some (rv, dz)) : zP V X 4 0 0 28 [none, none, none, none] [] d := by
  exact absurd hnt (zNo (by decide) h)
theorem t_X11_inRow {V : zW}  (hT : zo11 V) {x1 x2 x3 : Int} (hx1 : zR x1) (hx2 : zR x2) (hx3 : zR x3) {d dz : zD} {rv : Int} (h : f_X11_inRow  x1 x2 x3 d = some (rv, dz)) (hnt : rv < 4294967296) : zMet V 2 yX11_inRow cX11_inRow 4 (some .int) [.ref (zad V 0), .int (zI x1), .int (zI x2), .int (zI x3)] d (some (.int (zI rv))) (zR rv) dz := by
  refine zMet_by RX11 pn11 rfl (Nat.le_of_ble_eq_true rfl) [some (.ref (zad V 0)), some (.int (zI x1)), some (.int (zI x2)), some (.int (zI x3))] rfl fun X C E => ?_
  refine zP_aload_n (pc := 0) C (x := zad V 0) dX11_inRow_0 rfl rfl ?_
  refine zP_getR (pc := 1) (a := 0) (t := 1) C g11_10 dX11_inRow_1 (s_X11 hT) rfl ?_
  refine zP_iload_n (pc := 4) C (x := zI x1) dX11_inRow_4 rfl rfl ?_
  obtain ⟨v5, d1, hc, h⟩ := zc_h h
  refine zP_callV (pc := 5) (As := [.int (zI x1)]) (st := []) C m11_224 dX11_inRow_5 (s_X6 (o_X11_setup hT)) rfl (t_X6_has (o_X11_setup hT) hx1 hc) ⟨Nat.le_of_ble_eq_true rfl, Nat.le_of_ble_eq_true rfl⟩ rfl (Nat.le_of_ble_eq_true rfl) ⟨Nat.zero_le _, Nat.zero_le _⟩ fun hw => ?_
  have hbv5 := hw
  have hv5 := z01 hw
  clear hc hw
  show zP V X 4 0 0 8 _ [.int (zI v5)] d1
  revert h
  generalize d1 = d
  intro h
  refine zP_if_ne (pc := 8) (tgt := 19) C dX11_inRow_8 rfl hv5 h (fun _ h => ?_) (fun _ h => ?_)
  · refine zP_iload_n (pc := 19) C (x := zI x2) dX11_inRow_19 rfl rfl ?_
    refine zP_if_lt (pc := 20) (tgt := 28) C dX11_inRow_20 rfl hx2 h (fun _ h => ?_) (fun _ h => ?_)
    · exact zP_mask [false, false, false, false] (wj_X11_inRow_28 hT C E hnt   h)
    · refine zP_iload_n (pc := 23) C (x := zI x2) dX11_inRow_23 rfl rfl ?_
      refine zP_iconst (pc := 24) C dX11_inRow_24 ?_
      refine zP_icmp_lt (pc := 25) (tgt := 36) C dX11_inRow_25 rfl hx2 (zRk rfl) h (fun _ h => ?_) (fun _ h => ?_)
      · refine zP_aload_n (pc := 36) C (x := zad V 0) dX11_inRow_36 rfl rfl ?_
        refine zP_getR (pc := 37) (a := 0) (t := 30) C g11_21 dX11_inRow_37 (s_X11 hT) rfl ?_
        refine zP_getR (pc := 40) (a := 30) (t := 30 + 10) C g11_242 dX11_inRow_40 (s_X2 (o_X11_line hT)) rfl ?_
        refine zP_iload_n (pc := 43) C (x := zI x2) dX11_inRow_43 rfl rfl ?_
        refine zP_iload_n (pc := 44) C (x := zI x1) dX11_inRow_44 rfl rfl ?_
        refine zP_iload_n (pc := 45) C (x := zI x3) dX11_inRow_45 rfl rfl ?_
        obtain ⟨v46, d1, hc, h⟩ := zc_h h
        refine zP_callV (pc := 46) (As := [.int (zI x2), .int (zI x1), .int (zI x3)]) (st := []) C m11_294 dX11_inRow_46 (s_X4 (o_X11_line hT)) rfl (t_X4_messageAt (o_X11_line hT) hx2 hx1 hx3 hc) ⟨Nat.le_of_ble_eq_true rfl, Nat.le_of_ble_eq_true rfl⟩ rfl (Nat.le_of_ble_eq_true rfl) ⟨Nat.zero_le _, Nat.zero_le _⟩ fun hw => ?_
        have hv46 := hw
        clear hc hw
        show zP V X 4 0 0 49 _ [.int (zI v46)] d1
        revert h
        generalize d1 = d
        intro h
        exact zP_iret (pc := 49) C E dX11_inRow_49 hv46 h
      · exact zP_mask [false, false, false, false] (wj_X11_inRow_28 hT C E hnt   h)
  · exact absurd hnt (zNo (by decide) h)
theorem wj_X11_turn_18 {V : zW} {X : zX}  (hT : zo11 V) (C : zOk V X cX11_turn RX11 3 (zrm 1) (some .int)) {rv : Int} {dz : zD} (E : zEnd V X (some (.int (zI rv))) (zR rv) dz) (hnt : rv < 4294967296)    {d : zD} (h : j_X11_turn_18    d = some (rv, dz)) : zP V X 3 0 0 18 [none, none, none] [] d := by
  exact absurd hnt (zNo (by decide) h)
theorem wj_X11_turn_35 {V : zW} {X : zX}  (hT : zo11 V) (C : zOk V X cX11_turn RX11 3 (zrm 1) (some .int)) {rv : Int} {dz : zD} (E : zEnd V X (some (.int (zI rv))) (zR rv) dz) (hnt : rv < 4294967296)    {d : zD} (h : j_X11_turn_35    d = some (rv, dz)) : zP V X 3 0 0 35 [none, none, none] [] d := by
  exact absurd hnt (zNo (by decide) h)
theorem t_X11_turn {V : zW}  (hT : zo11 V) {x1 x2 : Int} (hx1 : zR x1) (hx2 : zR x2) {d dz : zD} {rv : Int} (h : f_X11_turn  x1 x2 d = some (rv, dz)) (hnt : rv < 4294967296) : zMet V 1 yX11_turn cX11_turn 3 (some .int) [.ref (zad V 0), .int (zI x1), .int (zI x2)] d (some (.int (zI rv))) (zR rv) dz := by
  refine zMet_by RX11 pn11 rfl (Nat.le_of_ble_eq_true rfl) [some (.ref (zad V 0)), some (.int (zI x1)), some (.int (zI x2))] rfl fun X C E => ?_
  refine zP_iload_n (pc := 0) C (x := zI x1) dX11_turn_0 rfl rfl ?_
  refine zP_if_lt (pc := 1) (tgt := 18) C dX11_turn_1 rfl hx1 h (fun _ h => ?_) (fun _ h => ?_)
  · exact zP_mask [false, false, false] (wj_X11_turn_18 hT C E hnt   h)
  · refine zP_iload_n (pc := 4) C (x := zI x1) dX11_turn_4 rfl rfl ?_
    refine zP_aload_n (pc := 5) C (x := zad V 0) dX11_turn_5 rfl rfl ?_
    refine zP_getR (pc := 6) (a := 0) (t := 30) C g11_21 dX11_turn_6 (s_X11 hT) rfl ?_
    refine zP_getR (pc := 9) (a := 30) (t := 30 + 25) C g11_303 dX11_turn_9 (s_X2 (o_X11_line hT)) rfl ?_
    refine zP_getI (pc := 12) (a := 30 + 25) C g11_307 dX11_turn_12 (s_X10 (o_X11_line hT)) rfl h fun v12 hv12 h => ?_
    refine zP_icmp_lt (pc := 15) (tgt := 26) C dX11_turn_15 rfl hx1 hv12 h (fun _ h => ?_) (fun _ h => ?_)
    · refine zP_iload_n (pc := 26) C (x := zI x2) dX11_turn_26 rfl rfl ?_
      refine zP_if_lt (pc := 27) (tgt := 35) C dX11_turn_27 rfl hx2 h (fun _ h => ?_) (fun _ h => ?_)
      · exact zP_mask [false, false, false] (wj_X11_turn_35 hT C E hnt   h)
      · refine zP_iload_n (pc := 30) C (x := zI x2) dX11_turn_30 rfl rfl ?_
        refine zP_iconst (pc := 31) C dX11_turn_31 ?_
        refine zP_icmp_lt (pc := 32) (tgt := 43) C dX11_turn_32 rfl hx2 (zRk rfl) h (fun _ h => ?_) (fun _ h => ?_)
        · refine zP_aload_n (pc := 43) C (x := zad V 0) dX11_turn_43 rfl rfl ?_
          refine zP_getR (pc := 44) (a := 0) (t := 30) C g11_21 dX11_turn_44 (s_X11 hT) rfl ?_
          refine zP_getR (pc := 47) (a := 30) (t := 30 + 25) C g11_303 dX11_turn_47 (s_X2 (o_X11_line hT)) rfl ?_
          refine zP_iload_n (pc := 50) C (x := zI x1) dX11_turn_50 rfl rfl ?_
          refine zP_iload_n (pc := 51) C (x := zI x2) dX11_turn_51 rfl rfl ?_
          obtain ⟨v52, d1, hc, h⟩ := zc_h h
          refine zP_callV (pc := 52) (As := [.int (zI x1), .int (zI x2)]) (st := []) C m11_310 dX11_turn_52 (s_X10 (o_X11_line hT)) rfl (t_X10_numberOf (o_X11_line hT) hx1 hx2 hc) ⟨Nat.le_of_ble_eq_true rfl, Nat.le_of_ble_eq_true rfl⟩ rfl (Nat.le_of_ble_eq_true rfl) ⟨Nat.zero_le _, Nat.zero_le _⟩ fun hw => ?_
          have hv52 := hw
          clear hc hw
          show zP V X 3 0 0 55 _ [.int (zI v52)] d1
          revert h
          generalize d1 = d
          intro h
          exact zP_iret (pc := 55) C E dX11_turn_55 hv52 h
        · exact zP_mask [false, false, false] (wj_X11_turn_35 hT C E hnt   h)
    · exact zP_mask [false, false, false] (wj_X11_turn_18 hT C E hnt   h)
theorem wj_X11_deliveredIn_10 {V : zW} {X : zX}  (hT : zo11 V) (C : zOk V X cX11_deliveredIn RX11 2 (zrm 6) (some .int)) {rv : Int} {dz : zD} (E : zEnd V X (some (.int (zI rv))) (zR rv) dz) (hnt : rv < 4294967296)    {d : zD} (h : j_X11_deliveredIn_10    d = some (rv, dz)) : zP V X 2 0 0 10 [none, none] [] d := by
  exact absurd hnt (zNo (by decide) h)
theorem t_X11_deliveredIn {V : zW}  (hT : zo11 V) {x1 : Int} (hx1 : zR x1) {d dz : zD} {rv : Int} (h : f_X11_deliveredIn  x1 d = some (rv, dz)) (hnt : rv < 4294967296) : zMet V 6 yX11_deliveredIn cX11_deliveredIn 2 (some .int) [.ref (zad V 0), .int (zI x1)] d (some (.int (zI rv))) (zR rv) dz := by
  refine zMet_by RX11 pn11 rfl (Nat.le_of_ble_eq_true rfl) [some (.ref (zad V 0)), some (.int (zI x1))] rfl fun X C E => ?_
  refine zP_iload_n (pc := 0) C (x := zI x1) dX11_deliveredIn_0 rfl rfl ?_
  refine zP_if_lt (pc := 1) (tgt := 10) C dX11_deliveredIn_1 rfl hx1 h (fun _ h => ?_) (fun _ h => ?_)
  · exact zP_mask [false, false] (wj_X11_deliveredIn_10 hT C E hnt   h)
  · refine zP_iload_n (pc := 4) C (x := zI x1) dX11_deliveredIn_4 rfl rfl ?_
    refine zP_bipush (pc := 5) C dX11_deliveredIn_5 rfl ?_
    refine zP_icmp_le (pc := 7) (tgt := 18) C dX11_deliveredIn_7 rfl hx1 (zRk rfl) h (fun _ h => ?_) (fun _ h => ?_)
    · refine zP_aload_n (pc := 18) C (x := zad V 0) dX11_deliveredIn_18 rfl rfl ?_
      refine zP_getR (pc := 19) (a := 0) (t := 60) C g11_34 dX11_deliveredIn_19 (s_X11 hT) rfl ?_
      refine zP_aload_n (pc := 22) C (x := zad V 0) dX11_deliveredIn_22 rfl rfl ?_
      refine zP_getR (pc := 23) (a := 0) (t := 30) C g11_21 dX11_deliveredIn_23 (s_X11 hT) rfl ?_
      obtain ⟨_, d1, hc, h⟩ := zc_h h
      refine zP_callV (pc := 26) (As := [.ref (zad V 30)]) (st := []) C m11_322 dX11_deliveredIn_26 (s_X2 (o_X11_copy hT)) rfl (t_X2_copyFrom (o_X11_copy hT) (o_X11_line hT)  hc) ⟨Nat.le_of_ble_eq_true rfl, Nat.le_of_ble_eq_true rfl⟩ rfl (Nat.le_of_ble_eq_true rfl) ⟨Nat.zero_le _, Nat.zero_le _⟩ fun hw => ?_
      clear hc hw
      show zP V X 2 0 0 29 _ [] d1
      revert h
      generalize d1 = d
      intro h
      refine zP_aload_n (pc := 29) C (x := zad V 0) dX11_deliveredIn_29 rfl rfl ?_
      refine zP_getR (pc := 30) (a := 0) (t := 7) C g11_37 dX11_deliveredIn_30 (s_X11 hT) rfl ?_
      refine zP_iload_n (pc := 33) C (x := zI x1) dX11_deliveredIn_33 rfl rfl ?_
      obtain ⟨_, d1, hc, h⟩ := zc_h h
      refine zP_callV (pc := 34) (As := [.int (zI x1)]) (st := []) C m11_170 dX11_deliveredIn_34 (s_X1 (o_X11_copyHost hT)) rfl (t_X1_makeTurns (o_X11_copyHost hT) hx1 hc) ⟨Nat.le_of_ble_eq_true rfl, Nat.le_of_ble_eq_true rfl⟩ rfl (Nat.le_of_ble_eq_true rfl) ⟨Nat.zero_le _, Nat.zero_le _⟩ fun hw => ?_
      clear hc hw
      show zP V X 2 0 0 37 _ [] d1
      revert h
      generalize d1 = d
      intro h
      refine zP_aload_n (pc := 37) C (x := zad V 0) dX11_deliveredIn_37 rfl rfl ?_
      refine zP_getR (pc := 38) (a := 0) (t := 60) C g11_34 dX11_deliveredIn_38 (s_X11 hT) rfl ?_
      obtain ⟨v41, d1, hc, h⟩ := zc_h h
      refine zP_callV (pc := 41) (As := []) (st := []) C m11_324 dX11_deliveredIn_41 (s_X2 (o_X11_copy hT)) rfl (t_X2_delivered (o_X11_copy hT)  hc) ⟨Nat.le_of_ble_eq_true rfl, Nat.le_of_ble_eq_true rfl⟩ rfl (Nat.le_of_ble_eq_true rfl) ⟨Nat.zero_le _, Nat.zero_le _⟩ fun hw => ?_
      have hv41 := hw
      clear hc hw
      show zP V X 2 0 0 44 _ [.int (zI v41)] d1
      revert h
      generalize d1 = d
      intro h
      exact zP_iret (pc := 44) C E dX11_deliveredIn_44 hv41 h
    · exact zP_mask [false, false] (wj_X11_deliveredIn_10 hT C E hnt   h)
theorem wj_X11_timeIn_10 {V : zW} {X : zX}  (hT : zo11 V) (C : zOk V X cX11_timeIn RX11 2 (zrm 6) (some .int)) {rv : Int} {dz : zD} (E : zEnd V X (some (.int (zI rv))) (zR rv) dz) (hnt : rv < 4294967296)    {d : zD} (h : j_X11_timeIn_10    d = some (rv, dz)) : zP V X 2 0 0 10 [none, none] [] d := by
  exact absurd hnt (zNo (by decide) h)
theorem t_X11_timeIn {V : zW}  (hT : zo11 V) {x1 : Int} (hx1 : zR x1) {d dz : zD} {rv : Int} (h : f_X11_timeIn  x1 d = some (rv, dz)) (hnt : rv < 4294967296) : zMet V 6 yX11_timeIn cX11_timeIn 2 (some .int) [.ref (zad V 0), .int (zI x1)] d (some (.int (zI rv))) (zR rv) dz := by
  refine zMet_by RX11 pn11 rfl (Nat.le_of_ble_eq_true rfl) [some (.ref (zad V 0)), some (.int (zI x1))] rfl fun X C E => ?_
  refine zP_iload_n (pc := 0) C (x := zI x1) dX11_timeIn_0 rfl rfl ?_
  refine zP_if_lt (pc := 1) (tgt := 10) C dX11_timeIn_1 rfl hx1 h (fun _ h => ?_) (fun _ h => ?_)
  · exact zP_mask [false, false] (wj_X11_timeIn_10 hT C E hnt   h)
  · refine zP_iload_n (pc := 4) C (x := zI x1) dX11_timeIn_4 rfl rfl ?_
    refine zP_bipush (pc := 5) C dX11_timeIn_5 rfl ?_
    refine zP_icmp_le (pc := 7) (tgt := 18) C dX11_timeIn_7 rfl hx1 (zRk rfl) h (fun _ h => ?_) (fun _ h => ?_)
    · refine zP_aload_n (pc := 18) C (x := zad V 0) dX11_timeIn_18 rfl rfl ?_
      refine zP_getR (pc := 19) (a := 0) (t := 60) C g11_34 dX11_timeIn_19 (s_X11 hT) rfl ?_
      refine zP_aload_n (pc := 22) C (x := zad V 0) dX11_timeIn_22 rfl rfl ?_
      refine zP_getR (pc := 23) (a := 0) (t := 30) C g11_21 dX11_timeIn_23 (s_X11 hT) rfl ?_
      obtain ⟨_, d1, hc, h⟩ := zc_h h
      refine zP_callV (pc := 26) (As := [.ref (zad V 30)]) (st := []) C m11_322 dX11_timeIn_26 (s_X2 (o_X11_copy hT)) rfl (t_X2_copyFrom (o_X11_copy hT) (o_X11_line hT)  hc) ⟨Nat.le_of_ble_eq_true rfl, Nat.le_of_ble_eq_true rfl⟩ rfl (Nat.le_of_ble_eq_true rfl) ⟨Nat.zero_le _, Nat.zero_le _⟩ fun hw => ?_
      clear hc hw
      show zP V X 2 0 0 29 _ [] d1
      revert h
      generalize d1 = d
      intro h
      refine zP_aload_n (pc := 29) C (x := zad V 0) dX11_timeIn_29 rfl rfl ?_
      refine zP_getR (pc := 30) (a := 0) (t := 7) C g11_37 dX11_timeIn_30 (s_X11 hT) rfl ?_
      refine zP_iload_n (pc := 33) C (x := zI x1) dX11_timeIn_33 rfl rfl ?_
      obtain ⟨_, d1, hc, h⟩ := zc_h h
      refine zP_callV (pc := 34) (As := [.int (zI x1)]) (st := []) C m11_170 dX11_timeIn_34 (s_X1 (o_X11_copyHost hT)) rfl (t_X1_makeTurns (o_X11_copyHost hT) hx1 hc) ⟨Nat.le_of_ble_eq_true rfl, Nat.le_of_ble_eq_true rfl⟩ rfl (Nat.le_of_ble_eq_true rfl) ⟨Nat.zero_le _, Nat.zero_le _⟩ fun hw => ?_
      clear hc hw
      show zP V X 2 0 0 37 _ [] d1
      revert h
      generalize d1 = d
      intro h
      refine zP_aload_n (pc := 37) C (x := zad V 0) dX11_timeIn_37 rfl rfl ?_
      refine zP_getR (pc := 38) (a := 0) (t := 60) C g11_34 dX11_timeIn_38 (s_X11 hT) rfl ?_
      refine zP_getI (pc := 41) (a := 60) C g11_189 dX11_timeIn_41 (s_X2 (o_X11_copy hT)) rfl h fun v41 hv41 h => ?_
      exact zP_iret (pc := 44) C E dX11_timeIn_44 hv41 h
    · exact zP_mask [false, false] (wj_X11_timeIn_10 hT C E hnt   h)
theorem wl_X11_deliversIn_35F {V : zW} {X : zX}  (hT : zo11 V) (C : zOk V X cX11_deliversIn RX11 3 (zrm 5) (some .int)) {rv : Int} {dz : zD} (E : zEnd V X (some (.int (zI rv))) (zR rv) dz) (hnt : rv < 4294967296) {r35 : Int → Int → zD → Option (Int × zD)} (hr35 : ∀ {x1 x2 : Int} {d : zD}, zR x1 → zR x2 → r35 x1 x2 d = some (rv, dz) → zP V X 3 0 0 35 [some (.ref (zad V 0)), some (.int (zI x1)), some (.int (zI x2))] [] d) {x1 x2 : Int} (hx1 : zR x1) (hx2 : zR x2) {d : zD} (h : l_X11_deliversIn_35F  r35 x1 x2 d = some (rv, dz)) : zP V X 3 0 0 35 [some (.ref (zad V 0)), some (.int (zI x1)), some (.int (zI x2))] [] d := by
  refine zP_iload_n (pc := 35) C (x := zI x2) dX11_deliversIn_35 rfl rfl ?_
  refine zP_sipush (pc := 36) C dX11_deliversIn_36 rfl ?_
  refine zP_icmp_gt (pc := 39) (tgt := 73) C dX11_deliversIn_39 rfl hx2 (zRk rfl) h (fun _ h => ?_) (fun _ h => ?_)
  · refine zP_iconst (pc := 73) C dX11_deliversIn_73 ?_
    exact zP_iret (pc := 74) C E dX11_deliversIn_74 (zRk rfl) h
  · refine zP_aload_n (pc := 42) C (x := zad V 0) dX11_deliversIn_42 rfl rfl ?_
    refine zP_getR (pc := 43) (a := 0) (t := 60) C g11_34 dX11_deliversIn_43 (s_X11 hT) rfl ?_
    refine zP_getR (pc := 46) (a := 60) (t := 60 + 1) C g11_144 dX11_deliversIn_46 (s_X2 (o_X11_copy hT)) rfl ?_
    refine zP_getR (pc := 49) (a := 60 + 1) (t := 60 + 5) C g11_279 dX11_deliversIn_49 (s_X3 (o_X11_copy hT)) rfl ?_
    refine zP_iload_n (pc := 52) C (x := zI x1) dX11_deliversIn_52 rfl rfl ?_
    refine zP_iald (pc := 53) (a := 60 + 5) C dX11_deliversIn_53 (s_X3_states (o_X11_copy hT)) hx1 h fun v53 hv53 h => ?_
    refine zP_iconst (pc := 54) C dX11_deliversIn_54 ?_
    refine zP_icmp_ne (pc := 55) (tgt := 60) C dX11_deliversIn_55 rfl hv53 (zRk rfl) h (fun _ h => ?_) (fun _ h => ?_)
    · refine zP_aload_n (pc := 60) C (x := zad V 0) dX11_deliversIn_60 rfl rfl ?_
      refine zP_getR (pc := 61) (a := 0) (t := 7) C g11_37 dX11_deliversIn_61 (s_X11 hT) rfl ?_
      obtain ⟨_, d1, hc, h⟩ := zc_h h
      refine zP_callV (pc := 64) (As := []) (st := []) C m11_327 dX11_deliversIn_64 (s_X1 (o_X11_copyHost hT)) rfl (t_X1_makeTurn (o_X11_copyHost hT)  hc) ⟨Nat.le_of_ble_eq_true rfl, Nat.le_of_ble_eq_true rfl⟩ rfl (Nat.le_of_ble_eq_true rfl) ⟨Nat.zero_le _, Nat.zero_le _⟩ fun hw => ?_
      clear hc hw
      show zP V X 3 0 0 67 _ [] d1
      revert h
      generalize d1 = d
      intro h
      refine zP_iinc (pc := 67) C (x := x2) dX11_deliversIn_67 rfl (Nat.le_of_ble_eq_true rfl) rfl h fun v67 hv67 h => ?_
      show zP V X 3 0 0 70 [some (.ref (zad V 0)), some (.int (zI x1)), some (.int (zI v67))] _ _
      refine zP_goto (pc := 70) (tgt := 35) C dX11_deliversIn_70 rfl ?_
      exact zP_mask [true, true, true] (hr35 hx1 hv67 h)
    · refine zP_iload_n (pc := 58) C (x := zI x2) dX11_deliversIn_58 rfl rfl ?_
      exact zP_iret (pc := 59) C E dX11_deliversIn_59 hx2 h
theorem wl_X11_deliversIn_35 {V : zW} {X : zX}  (hT : zo11 V) (C : zOk V X cX11_deliversIn RX11 3 (zrm 5) (some .int)) {rv : Int} {dz : zD} (E : zEnd V X (some (.int (zI rv))) (zR rv) dz) (hnt : rv < 4294967296)  : ∀ (q : Nat) {x1 x2 : Int} (hx1 : zR x1) (hx2 : zR x2) {d : zD} (h : l_X11_deliversIn_35   q x1 x2 d = some (rv, dz)), zP V X 3 0 0 35 [some (.ref (zad V 0)), some (.int (zI x1)), some (.int (zI x2))] [] d := by
  intro q
  induction q with
  | zero => intro x1 x2 hx1 hx2 d h; cases (show (none : Option (Int × zD)) = some (rv, dz) from h)
  | succ q ih =>
    intro x1 x2 hx1 hx2 d h
    exact wl_X11_deliversIn_35F hT C E hnt  (fun  hx1 hx2 h => ih hx1 hx2 h) hx1 hx2 h
theorem t_X11_deliversIn {V : zW}  (hT : zo11 V) {x1 : Int} (hx1 : zR x1) {d dz : zD} {rv : Int} (h : f_X11_deliversIn  x1 d = some (rv, dz)) (hnt : rv < 4294967296) : zMet V 5 yX11_deliversIn cX11_deliversIn 3 (some .int) [.ref (zad V 0), .int (zI x1)] d (some (.int (zI rv))) (zR rv) dz := by
  refine zMet_by RX11 pn11 rfl (Nat.le_of_ble_eq_true rfl) [some (.ref (zad V 0)), some (.int (zI x1)), none] rfl fun X C E => ?_
  refine zP_aload_n (pc := 0) C (x := zad V 0) dX11_deliversIn_0 rfl rfl ?_
  refine zP_getR (pc := 1) (a := 0) (t := 30) C g11_21 dX11_deliversIn_1 (s_X11 hT) rfl ?_
  refine zP_getR (pc := 4) (a := 30) (t := 30 + 1) C g11_144 dX11_deliversIn_4 (s_X2 (o_X11_line hT)) rfl ?_
  refine zP_iload_n (pc := 7) C (x := zI x1) dX11_deliversIn_7 rfl rfl ?_
  obtain ⟨v8, d1, hc, h⟩ := zc_h h
  refine zP_callV (pc := 8) (As := [.int (zI x1)]) (st := []) C m11_269 dX11_deliversIn_8 (s_X3 (o_X11_line hT)) rfl (t_X3_has (o_X11_line hT) hx1 hc) ⟨Nat.le_of_ble_eq_true rfl, Nat.le_of_ble_eq_true rfl⟩ rfl (Nat.le_of_ble_eq_true rfl) ⟨Nat.zero_le _, Nat.zero_le _⟩ fun hw => ?_
  have hbv8 := hw
  have hv8 := z01 hw
  clear hc hw
  show zP V X 3 0 0 11 _ [.int (zI v8)] d1
  revert h
  generalize d1 = d
  intro h
  refine zP_if_ne (pc := 11) (tgt := 22) C dX11_deliversIn_11 rfl hv8 h (fun _ h => ?_) (fun _ h => ?_)
  · refine zP_aload_n (pc := 22) C (x := zad V 0) dX11_deliversIn_22 rfl rfl ?_
    refine zP_getR (pc := 23) (a := 0) (t := 60) C g11_34 dX11_deliversIn_23 (s_X11 hT) rfl ?_
    refine zP_aload_n (pc := 26) C (x := zad V 0) dX11_deliversIn_26 rfl rfl ?_
    refine zP_getR (pc := 27) (a := 0) (t := 30) C g11_21 dX11_deliversIn_27 (s_X11 hT) rfl ?_
    obtain ⟨_, d1, hc, h⟩ := zc_h h
    refine zP_callV (pc := 30) (As := [.ref (zad V 30)]) (st := []) C m11_322 dX11_deliversIn_30 (s_X2 (o_X11_copy hT)) rfl (t_X2_copyFrom (o_X11_copy hT) (o_X11_line hT)  hc) ⟨Nat.le_of_ble_eq_true rfl, Nat.le_of_ble_eq_true rfl⟩ rfl (Nat.le_of_ble_eq_true rfl) ⟨Nat.zero_le _, Nat.zero_le _⟩ fun hw => ?_
    clear hc hw
    show zP V X 3 0 0 33 _ [] d1
    revert h
    generalize d1 = d
    intro h
    refine zP_iconst (pc := 33) C dX11_deliversIn_33 ?_
    refine zP_istore_n (pc := 34) C (L' := [some (.ref (zad V 0)), some (.int (zI x1)), some (.int (zI 0))]) dX11_deliversIn_34 rfl (Nat.le_of_ble_eq_true rfl) rfl rfl ?_
    exact zP_mask [true, true, true] (wl_X11_deliversIn_35 hT C E hnt  zF hx1 (zRk rfl) h)
  · exact absurd hnt (zNo (by decide) h)
theorem wj_X11_often_28 {V : zW} {X : zX}  (hT : zo11 V) (C : zOk V X cX11_often RX11 3 (zrm 1) (some .int)) {rv : Int} {dz : zD} (E : zEnd V X (some (.int (zI rv))) (zR rv) dz) (hnt : rv < 4294967296)    {d : zD} (h : j_X11_often_28    d = some (rv, dz)) : zP V X 3 0 0 28 [none, none, none] [] d := by
  exact absurd hnt (zNo (by decide) h)
theorem t_X11_often {V : zW}  (hT : zo11 V) {x1 x2 : Int} (hx1 : zR x1) (hx2 : zR x2) {d dz : zD} {rv : Int} (h : f_X11_often  x1 x2 d = some (rv, dz)) (hnt : rv < 4294967296) : zMet V 1 yX11_often cX11_often 3 (some .int) [.ref (zad V 0), .int (zI x1), .int (zI x2)] d (some (.int (zI rv))) (zR rv) dz := by
  refine zMet_by RX11 pn11 rfl (Nat.le_of_ble_eq_true rfl) [some (.ref (zad V 0)), some (.int (zI x1)), some (.int (zI x2))] rfl fun X C E => ?_
  refine zP_aload_n (pc := 0) C (x := zad V 0) dX11_often_0 rfl rfl ?_
  refine zP_getR (pc := 1) (a := 0) (t := 1) C g11_10 dX11_often_1 (s_X11 hT) rfl ?_
  refine zP_iload_n (pc := 4) C (x := zI x1) dX11_often_4 rfl rfl ?_
  obtain ⟨v5, d1, hc, h⟩ := zc_h h
  refine zP_callV (pc := 5) (As := [.int (zI x1)]) (st := []) C m11_224 dX11_often_5 (s_X6 (o_X11_setup hT)) rfl (t_X6_has (o_X11_setup hT) hx1 hc) ⟨Nat.le_of_ble_eq_true rfl, Nat.le_of_ble_eq_true rfl⟩ rfl (Nat.le_of_ble_eq_true rfl) ⟨Nat.zero_le _, Nat.zero_le _⟩ fun hw => ?_
  have hbv5 := hw
  have hv5 := z01 hw
  clear hc hw
  show zP V X 3 0 0 8 _ [.int (zI v5)] d1
  revert h
  generalize d1 = d
  intro h
  refine zP_if_ne (pc := 8) (tgt := 19) C dX11_often_8 rfl hv5 h (fun _ h => ?_) (fun _ h => ?_)
  · refine zP_iload_n (pc := 19) C (x := zI x2) dX11_often_19 rfl rfl ?_
    refine zP_if_lt (pc := 20) (tgt := 28) C dX11_often_20 rfl hx2 h (fun _ h => ?_) (fun _ h => ?_)
    · exact zP_mask [false, false, false] (wj_X11_often_28 hT C E hnt   h)
    · refine zP_iload_n (pc := 23) C (x := zI x2) dX11_often_23 rfl rfl ?_
      refine zP_iconst (pc := 24) C dX11_often_24 ?_
      refine zP_icmp_lt (pc := 25) (tgt := 36) C dX11_often_25 rfl hx2 (zRk rfl) h (fun _ h => ?_) (fun _ h => ?_)
      · refine zP_aload_n (pc := 36) C (x := zad V 0) dX11_often_36 rfl rfl ?_
        refine zP_getR (pc := 37) (a := 0) (t := 30) C g11_21 dX11_often_37 (s_X11 hT) rfl ?_
        refine zP_getR (pc := 40) (a := 30) (t := 30 + 15) C g11_199 dX11_often_40 (s_X2 (o_X11_line hT)) rfl ?_
        refine zP_iload_n (pc := 43) C (x := zI x2) dX11_often_43 rfl rfl ?_
        refine zP_iload_n (pc := 44) C (x := zI x1) dX11_often_44 rfl rfl ?_
        obtain ⟨v45, d1, hc, h⟩ := zc_h h
        refine zP_callV (pc := 45) (As := [.int (zI x2), .int (zI x1)]) (st := []) C m11_339 dX11_often_45 (s_X8 (o_X11_line hT)) rfl (t_X8_oftenOf (o_X11_line hT) hx2 hx1 hc) ⟨Nat.le_of_ble_eq_true rfl, Nat.le_of_ble_eq_true rfl⟩ rfl (Nat.le_of_ble_eq_true rfl) ⟨Nat.zero_le _, Nat.zero_le _⟩ fun hw => ?_
        have hv45 := hw
        clear hc hw
        show zP V X 3 0 0 48 _ [.int (zI v45)] d1
        revert h
        generalize d1 = d
        intro h
        exact zP_iret (pc := 48) C E dX11_often_48 hv45 h
      · exact zP_mask [false, false, false] (wj_X11_often_28 hT C E hnt   h)
  · exact absurd hnt (zNo (by decide) h)
theorem wj_X11_post_16 {V : zW} {X : zX}  (hT : zo11 V) (C : zOk V X cX11_post RX11 4 (zrm 5) (some .int)) {rv : Int} {dz : zD} (E : zEnd V X (some (.int (zI rv))) (zR rv) dz) (hnt : rv < 4294967296)    {d : zD} (h : j_X11_post_16    d = some (rv, dz)) : zP V X 4 0 0 16 [none, none, none, none] [] d := by
  exact absurd hnt (zNo (by decide) h)
theorem wj_X11_post_40 {V : zW} {X : zX}  (hT : zo11 V) (C : zOk V X cX11_post RX11 4 (zrm 5) (some .int)) {rv : Int} {dz : zD} (E : zEnd V X (some (.int (zI rv))) (zR rv) dz) (hnt : rv < 4294967296)    {d : zD} (h : j_X11_post_40    d = some (rv, dz)) : zP V X 4 0 0 40 [none, none, none, none] [] d := by
  exact absurd hnt (zNo (by decide) h)
theorem t_X11_post {V : zW}  (hT : zo11 V) {x1 x2 x3 : Int} (hx1 : zR x1) (hx2 : zR x2) (hx3 : zR x3) {d dz : zD} {rv : Int} (h : f_X11_post  x1 x2 x3 d = some (rv, dz)) (hnt : rv < 4294967296) : zMet V 5 yX11_post cX11_post 4 (some .int) [.ref (zad V 0), .int (zI x1), .int (zI x2), .int (zI x3)] d (some (.int (zI rv))) (zR rv) dz := by
  refine zMet_by RX11 pn11 rfl (Nat.le_of_ble_eq_true rfl) [some (.ref (zad V 0)), some (.int (zI x1)), some (.int (zI x2)), some (.int (zI x3))] rfl fun X C E => ?_
  refine zP_aload_n (pc := 0) C (x := zad V 0) dX11_post_0 rfl rfl ?_
  refine zP_iload_n (pc := 1) C (x := zI x1) dX11_post_1 rfl rfl ?_
  obtain ⟨v2, d1, hc, h⟩ := zc_h h
  refine zP_callV (pc := 2) (As := [.int (zI x1)]) (st := []) C m11_345 dX11_post_2 (s_X11 hT) rfl (t_X11_isParty hT hx1 hc) ⟨Nat.le_of_ble_eq_true rfl, Nat.le_of_ble_eq_true rfl⟩ rfl (Nat.le_of_ble_eq_true rfl) ⟨Nat.zero_le _, Nat.zero_le _⟩ fun hw => ?_
  have hbv2 := hw
  have hv2 := z01 hw
  clear hc hw
  show zP V X 4 0 0 5 _ [.int (zI v2)] d1
  revert h
  generalize d1 = d
  intro h
  refine zP_if_eq (pc := 5) (tgt := 16) C dX11_post_5 rfl hv2 h (fun _ h => ?_) (fun _ h => ?_)
  · exact zP_mask [false, false, false, false] (wj_X11_post_16 hT C E hnt   h)
  · refine zP_aload_n (pc := 8) C (x := zad V 0) dX11_post_8 rfl rfl ?_
    refine zP_iload_n (pc := 9) C (x := zI x2) dX11_post_9 rfl rfl ?_
    obtain ⟨v10, d1, hc, h⟩ := zc_h h
    refine zP_callV (pc := 10) (As := [.int (zI x2)]) (st := []) C m11_345 dX11_post_10 (s_X11 hT) rfl (t_X11_isParty hT hx2 hc) ⟨Nat.le_of_ble_eq_true rfl, Nat.le_of_ble_eq_true rfl⟩ rfl (Nat.le_of_ble_eq_true rfl) ⟨Nat.zero_le _, Nat.zero_le _⟩ fun hw => ?_
    have hbv10 := hw
    have hv10 := z01 hw
    clear hc hw
    show zP V X 4 0 0 13 _ [.int (zI v10)] d1
    revert h
    generalize d1 = d
    intro h
    refine zP_if_ne (pc := 13) (tgt := 24) C dX11_post_13 rfl hv10 h (fun _ h => ?_) (fun _ h => ?_)
    · refine zP_iload_n (pc := 24) C (x := zI x1) dX11_post_24 rfl rfl ?_
      refine zP_iload_n (pc := 25) C (x := zI x2) dX11_post_25 rfl rfl ?_
      refine zP_icmp_eq (pc := 26) (tgt := 40) C dX11_post_26 rfl hx1 hx2 h (fun _ h => ?_) (fun _ h => ?_)
      · exact zP_mask [false, false, false, false] (wj_X11_post_40 hT C E hnt   h)
      · refine zP_iload_n (pc := 29) C (x := zI x3) dX11_post_29 rfl rfl ?_
        refine zP_iconst (pc := 30) C dX11_post_30 ?_
        refine zP_icmp_lt (pc := 31) (tgt := 40) C dX11_post_31 rfl hx3 (zRk rfl) h (fun _ h => ?_) (fun _ h => ?_)
        · exact zP_mask [false, false, false, false] (wj_X11_post_40 hT C E hnt   h)
        · refine zP_iload_n (pc := 34) C (x := zI x3) dX11_post_34 rfl rfl ?_
          refine zP_bipush (pc := 35) C dX11_post_35 rfl ?_
          refine zP_icmp_le (pc := 37) (tgt := 48) C dX11_post_37 rfl hx3 (zRk rfl) h (fun _ h => ?_) (fun _ h => ?_)
          · refine zP_aload_n (pc := 48) C (x := zad V 0) dX11_post_48 rfl rfl ?_
            refine zP_getR (pc := 49) (a := 0) (t := 30) C g11_21 dX11_post_49 (s_X11 hT) rfl ?_
            refine zP_getR (pc := 52) (a := 30) (t := 30 + 1) C g11_144 dX11_post_52 (s_X2 (o_X11_line hT)) rfl ?_
            obtain ⟨v55, d1, hc, h⟩ := zc_h h
            refine zP_callV (pc := 55) (As := []) (st := []) C m11_148 dX11_post_55 (s_X3 (o_X11_line hT)) rfl (t_X3_isFull (o_X11_line hT)  hc) ⟨Nat.le_of_ble_eq_true rfl, Nat.le_of_ble_eq_true rfl⟩ rfl (Nat.le_of_ble_eq_true rfl) ⟨Nat.zero_le _, Nat.zero_le _⟩ fun hw => ?_
            have hbv55 := hw
            have hv55 := z01 hw
            clear hc hw
            show zP V X 4 0 0 58 _ [.int (zI v55)] d1
            revert h
            generalize d1 = d
            intro h
            refine zP_if_eq (pc := 58) (tgt := 69) C dX11_post_58 rfl hv55 h (fun _ h => ?_) (fun _ h => ?_)
            · refine zP_aload_n (pc := 69) C (x := zad V 0) dX11_post_69 rfl rfl ?_
              refine zP_getR (pc := 70) (a := 0) (t := 8) C g11_46 dX11_post_70 (s_X11 hT) rfl ?_
              refine zP_aload_n (pc := 73) C (x := zad V 0) dX11_post_73 rfl rfl ?_
              refine zP_getR (pc := 74) (a := 0) (t := 30) C g11_21 dX11_post_74 (s_X11 hT) rfl ?_
              obtain ⟨_, d1, hc, h⟩ := zc_h h
              refine zP_callV (pc := 77) (As := [.ref (zad V 30)]) (st := []) C m11_130 dX11_post_77 (s_X0 (o_X11_history hT)) rfl (t_X0_remember (o_X11_history hT) (o_X11_line hT)  hc) ⟨Nat.le_of_ble_eq_true rfl, Nat.le_of_ble_eq_true rfl⟩ rfl (Nat.le_of_ble_eq_true rfl) ⟨Nat.zero_le _, Nat.zero_le _⟩ fun hw => ?_
              clear hc hw
              show zP V X 4 0 0 80 _ [] d1
              revert h
              generalize d1 = d
              intro h
              refine zP_aload_n (pc := 80) C (x := zad V 0) dX11_post_80 rfl rfl ?_
              refine zP_getR (pc := 81) (a := 0) (t := 30) C g11_21 dX11_post_81 (s_X11 hT) rfl ?_
              refine zP_iload_n (pc := 84) C (x := zI x1) dX11_post_84 rfl rfl ?_
              refine zP_iload_n (pc := 85) C (x := zI x2) dX11_post_85 rfl rfl ?_
              refine zP_iload_n (pc := 86) C (x := zI x3) dX11_post_86 rfl rfl ?_
              obtain ⟨v87, d1, hc, h⟩ := zc_h h
              refine zP_callV (pc := 87) (As := [.int (zI x1), .int (zI x2), .int (zI x3)]) (st := []) C m11_159 dX11_post_87 (s_X2 (o_X11_line hT)) rfl (t_X2_addMessage (o_X11_line hT) hx1 hx2 hx3 hc) ⟨Nat.le_of_ble_eq_true rfl, Nat.le_of_ble_eq_true rfl⟩ rfl (Nat.le_of_ble_eq_true rfl) ⟨Nat.zero_le _, Nat.zero_le _⟩ fun hw => ?_
              have hv87 := hw
              clear hc hw
              show zP V X 4 0 0 90 _ [.int (zI v87)] d1
              revert h
              generalize d1 = d
              intro h
              exact zP_iret (pc := 90) C E dX11_post_90 hv87 h
            · exact absurd hnt (zNo (by decide) h)
          · exact zP_mask [false, false, false, false] (wj_X11_post_40 hT C E hnt   h)
    · exact zP_mask [false, false, false, false] (wj_X11_post_16 hT C E hnt   h)
theorem t_X11_kill {V : zW}  (hT : zo11 V) {x1 : Int} (hx1 : zR x1) {d dz : zD} {rv : Int} (h : f_X11_kill  x1 d = some (rv, dz)) (hnt : rv < 4294967296) : zMet V 5 yX11_kill cX11_kill 2 (some .int) [.ref (zad V 0), .int (zI x1)] d (some (.int (zI rv))) (zR rv) dz := by
  refine zMet_by RX11 pn11 rfl (Nat.le_of_ble_eq_true rfl) [some (.ref (zad V 0)), some (.int (zI x1))] rfl fun X C E => ?_
  refine zP_aload_n (pc := 0) C (x := zad V 0) dX11_kill_0 rfl rfl ?_
  refine zP_getR (pc := 1) (a := 0) (t := 1) C g11_10 dX11_kill_1 (s_X11 hT) rfl ?_
  refine zP_iload_n (pc := 4) C (x := zI x1) dX11_kill_4 rfl rfl ?_
  obtain ⟨v5, d1, hc, h⟩ := zc_h h
  refine zP_callV (pc := 5) (As := [.int (zI x1)]) (st := []) C m11_224 dX11_kill_5 (s_X6 (o_X11_setup hT)) rfl (t_X6_has (o_X11_setup hT) hx1 hc) ⟨Nat.le_of_ble_eq_true rfl, Nat.le_of_ble_eq_true rfl⟩ rfl (Nat.le_of_ble_eq_true rfl) ⟨Nat.zero_le _, Nat.zero_le _⟩ fun hw => ?_
  have hbv5 := hw
  have hv5 := z01 hw
  clear hc hw
  show zP V X 2 0 0 8 _ [.int (zI v5)] d1
  revert h
  generalize d1 = d
  intro h
  refine zP_if_ne (pc := 8) (tgt := 19) C dX11_kill_8 rfl hv5 h (fun _ h => ?_) (fun _ h => ?_)
  · refine zP_aload_n (pc := 19) C (x := zad V 0) dX11_kill_19 rfl rfl ?_
    refine zP_getR (pc := 20) (a := 0) (t := 8) C g11_46 dX11_kill_20 (s_X11 hT) rfl ?_
    refine zP_aload_n (pc := 23) C (x := zad V 0) dX11_kill_23 rfl rfl ?_
    refine zP_getR (pc := 24) (a := 0) (t := 30) C g11_21 dX11_kill_24 (s_X11 hT) rfl ?_
    obtain ⟨_, d1, hc, h⟩ := zc_h h
    refine zP_callV (pc := 27) (As := [.ref (zad V 30)]) (st := []) C m11_130 dX11_kill_27 (s_X0 (o_X11_history hT)) rfl (t_X0_remember (o_X11_history hT) (o_X11_line hT)  hc) ⟨Nat.le_of_ble_eq_true rfl, Nat.le_of_ble_eq_true rfl⟩ rfl (Nat.le_of_ble_eq_true rfl) ⟨Nat.zero_le _, Nat.zero_le _⟩ fun hw => ?_
    clear hc hw
    show zP V X 2 0 0 30 _ [] d1
    revert h
    generalize d1 = d
    intro h
    refine zP_aload_n (pc := 30) C (x := zad V 0) dX11_kill_30 rfl rfl ?_
    refine zP_getR (pc := 31) (a := 0) (t := 30) C g11_21 dX11_kill_31 (s_X11 hT) rfl ?_
    refine zP_iload_n (pc := 34) C (x := zI x1) dX11_kill_34 rfl rfl ?_
    refine zP_iconst (pc := 35) C dX11_kill_35 ?_
    obtain ⟨v36, d1, hc, h⟩ := zc_h h
    refine zP_callV (pc := 36) (As := [.int (zI x1), .int (zI 0)]) (st := []) C m11_163 dX11_kill_36 (s_X2 (o_X11_line hT)) rfl (t_X2_setLife (o_X11_line hT) hx1 (zRk rfl) hc) ⟨Nat.le_of_ble_eq_true rfl, Nat.le_of_ble_eq_true rfl⟩ rfl (Nat.le_of_ble_eq_true rfl) ⟨Nat.zero_le _, Nat.zero_le _⟩ fun hw => ?_
    have hv36 := hw
    clear hc hw
    show zP V X 2 0 0 39 _ [.int (zI v36)] d1
    revert h
    generalize d1 = d
    intro h
    exact zP_iret (pc := 39) C E dX11_kill_39 hv36 h
  · exact absurd hnt (zNo (by decide) h)
theorem t_X11_wake {V : zW}  (hT : zo11 V) {x1 : Int} (hx1 : zR x1) {d dz : zD} {rv : Int} (h : f_X11_wake  x1 d = some (rv, dz)) (hnt : rv < 4294967296) : zMet V 5 yX11_wake cX11_wake 2 (some .int) [.ref (zad V 0), .int (zI x1)] d (some (.int (zI rv))) (zR rv) dz := by
  refine zMet_by RX11 pn11 rfl (Nat.le_of_ble_eq_true rfl) [some (.ref (zad V 0)), some (.int (zI x1))] rfl fun X C E => ?_
  refine zP_aload_n (pc := 0) C (x := zad V 0) dX11_wake_0 rfl rfl ?_
  refine zP_getR (pc := 1) (a := 0) (t := 1) C g11_10 dX11_wake_1 (s_X11 hT) rfl ?_
  refine zP_iload_n (pc := 4) C (x := zI x1) dX11_wake_4 rfl rfl ?_
  obtain ⟨v5, d1, hc, h⟩ := zc_h h
  refine zP_callV (pc := 5) (As := [.int (zI x1)]) (st := []) C m11_224 dX11_wake_5 (s_X6 (o_X11_setup hT)) rfl (t_X6_has (o_X11_setup hT) hx1 hc) ⟨Nat.le_of_ble_eq_true rfl, Nat.le_of_ble_eq_true rfl⟩ rfl (Nat.le_of_ble_eq_true rfl) ⟨Nat.zero_le _, Nat.zero_le _⟩ fun hw => ?_
  have hbv5 := hw
  have hv5 := z01 hw
  clear hc hw
  show zP V X 2 0 0 8 _ [.int (zI v5)] d1
  revert h
  generalize d1 = d
  intro h
  refine zP_if_ne (pc := 8) (tgt := 19) C dX11_wake_8 rfl hv5 h (fun _ h => ?_) (fun _ h => ?_)
  · refine zP_aload_n (pc := 19) C (x := zad V 0) dX11_wake_19 rfl rfl ?_
    refine zP_getR (pc := 20) (a := 0) (t := 8) C g11_46 dX11_wake_20 (s_X11 hT) rfl ?_
    refine zP_aload_n (pc := 23) C (x := zad V 0) dX11_wake_23 rfl rfl ?_
    refine zP_getR (pc := 24) (a := 0) (t := 30) C g11_21 dX11_wake_24 (s_X11 hT) rfl ?_
    obtain ⟨_, d1, hc, h⟩ := zc_h h
    refine zP_callV (pc := 27) (As := [.ref (zad V 30)]) (st := []) C m11_130 dX11_wake_27 (s_X0 (o_X11_history hT)) rfl (t_X0_remember (o_X11_history hT) (o_X11_line hT)  hc) ⟨Nat.le_of_ble_eq_true rfl, Nat.le_of_ble_eq_true rfl⟩ rfl (Nat.le_of_ble_eq_true rfl) ⟨Nat.zero_le _, Nat.zero_le _⟩ fun hw => ?_
    clear hc hw
    show zP V X 2 0 0 30 _ [] d1
    revert h
    generalize d1 = d
    intro h
    refine zP_aload_n (pc := 30) C (x := zad V 0) dX11_wake_30 rfl rfl ?_
    refine zP_getR (pc := 31) (a := 0) (t := 30) C g11_21 dX11_wake_31 (s_X11 hT) rfl ?_
    refine zP_iload_n (pc := 34) C (x := zI x1) dX11_wake_34 rfl rfl ?_
    refine zP_iconst (pc := 35) C dX11_wake_35 ?_
    obtain ⟨v36, d1, hc, h⟩ := zc_h h
    refine zP_callV (pc := 36) (As := [.int (zI x1), .int (zI 1)]) (st := []) C m11_163 dX11_wake_36 (s_X2 (o_X11_line hT)) rfl (t_X2_setLife (o_X11_line hT) hx1 (zRk rfl) hc) ⟨Nat.le_of_ble_eq_true rfl, Nat.le_of_ble_eq_true rfl⟩ rfl (Nat.le_of_ble_eq_true rfl) ⟨Nat.zero_le _, Nat.zero_le _⟩ fun hw => ?_
    have hv36 := hw
    clear hc hw
    show zP V X 2 0 0 39 _ [.int (zI v36)] d1
    revert h
    generalize d1 = d
    intro h
    exact zP_iret (pc := 39) C E dX11_wake_39 hv36 h
  · exact absurd hnt (zNo (by decide) h)
theorem wj_X11_run_26 {V : zW} {X : zX}  (hT : zo11 V) (C : zOk V X cX11_run RX11 3 (zrm 6) (some .int)) {rv : Int} {dz : zD} (E : zEnd V X (some (.int (zI rv))) (zR rv) dz) (hnt : rv < 4294967296)    {d : zD} (h : j_X11_run_26    d = some (rv, dz)) : zP V X 3 0 0 26 [none, none, none] [] d := by
  exact absurd hnt (zNo (by decide) h)
theorem t_X11_run {V : zW}  (hT : zo11 V) {x1 : Int} (hx1 : zR x1) {d dz : zD} {rv : Int} (h : f_X11_run  x1 d = some (rv, dz)) (hnt : rv < 4294967296) : zMet V 6 yX11_run cX11_run 3 (some .int) [.ref (zad V 0), .int (zI x1)] d (some (.int (zI rv))) (zR rv) dz := by
  refine zMet_by RX11 pn11 rfl (Nat.le_of_ble_eq_true rfl) [some (.ref (zad V 0)), some (.int (zI x1)), none] rfl fun X C E => ?_
  refine zP_iload_n (pc := 0) C (x := zI x1) dX11_run_0 rfl rfl ?_
  refine zP_iconst (pc := 1) C dX11_run_1 ?_
  refine zP_icmp_lt (pc := 2) (tgt := 26) C dX11_run_2 rfl hx1 (zRk rfl) h (fun _ h => ?_) (fun _ h => ?_)
  · exact zP_mask [false, false, false] (wj_X11_run_26 hT C E hnt   h)
  · refine zP_iload_n (pc := 5) C (x := zI x1) dX11_run_5 rfl rfl ?_
    refine zP_bipush (pc := 6) C dX11_run_6 rfl ?_
    refine zP_icmp_gt (pc := 8) (tgt := 26) C dX11_run_8 rfl hx1 (zRk rfl) h (fun _ h => ?_) (fun _ h => ?_)
    · exact zP_mask [false, false, false] (wj_X11_run_26 hT C E hnt   h)
    · refine zP_aload_n (pc := 11) C (x := zad V 0) dX11_run_11 rfl rfl ?_
      refine zP_getR (pc := 12) (a := 0) (t := 30) C g11_21 dX11_run_12 (s_X11 hT) rfl ?_
      refine zP_getI (pc := 15) (a := 30) C g11_167 dX11_run_15 (s_X2 (o_X11_line hT)) rfl h fun v15 hv15 h => ?_
      refine zP_iload_n (pc := 18) C (x := zI x1) dX11_run_18 rfl rfl ?_
      refine zP_iadd (pc := 19) C dX11_run_19 h fun v19 hv19 h => ?_
      refine zP_sipush (pc := 20) C dX11_run_20 rfl ?_
      refine zP_icmp_le (pc := 23) (tgt := 34) C dX11_run_23 rfl hv19 (zRk rfl) h (fun _ h => ?_) (fun _ h => ?_)
      · refine zP_aload_n (pc := 34) C (x := zad V 0) dX11_run_34 rfl rfl ?_
        refine zP_getR (pc := 35) (a := 0) (t := 8) C g11_46 dX11_run_35 (s_X11 hT) rfl ?_
        refine zP_aload_n (pc := 38) C (x := zad V 0) dX11_run_38 rfl rfl ?_
        refine zP_getR (pc := 39) (a := 0) (t := 30) C g11_21 dX11_run_39 (s_X11 hT) rfl ?_
        obtain ⟨_, d1, hc, h⟩ := zc_h h
        refine zP_callV (pc := 42) (As := [.ref (zad V 30)]) (st := []) C m11_130 dX11_run_42 (s_X0 (o_X11_history hT)) rfl (t_X0_remember (o_X11_history hT) (o_X11_line hT)  hc) ⟨Nat.le_of_ble_eq_true rfl, Nat.le_of_ble_eq_true rfl⟩ rfl (Nat.le_of_ble_eq_true rfl) ⟨Nat.zero_le _, Nat.zero_le _⟩ fun hw => ?_
        clear hc hw
        show zP V X 3 0 0 45 _ [] d1
        revert h
        generalize d1 = d
        intro h
        refine zP_aload_n (pc := 45) C (x := zad V 0) dX11_run_45 rfl rfl ?_
        refine zP_getR (pc := 46) (a := 0) (t := 30) C g11_21 dX11_run_46 (s_X11 hT) rfl ?_
        obtain ⟨v49, d1, hc, h⟩ := zc_h h
        refine zP_callV (pc := 49) (As := []) (st := []) C m11_324 dX11_run_49 (s_X2 (o_X11_line hT)) rfl (t_X2_delivered (o_X11_line hT)  hc) ⟨Nat.le_of_ble_eq_true rfl, Nat.le_of_ble_eq_true rfl⟩ rfl (Nat.le_of_ble_eq_true rfl) ⟨Nat.zero_le _, Nat.zero_le _⟩ fun hw => ?_
        have hv49 := hw
        clear hc hw
        show zP V X 3 0 0 52 _ [.int (zI v49)] d1
        revert h
        generalize d1 = d
        intro h
        refine zP_istore_n (pc := 52) C (L' := [some (.ref (zad V 0)), some (.int (zI x1)), some (.int (zI v49))]) dX11_run_52 rfl (Nat.le_of_ble_eq_true rfl) rfl rfl ?_
        refine zP_aload_n (pc := 53) C (x := zad V 0) dX11_run_53 rfl rfl ?_
        refine zP_getR (pc := 54) (a := 0) (t := 6) C g11_30 dX11_run_54 (s_X11 hT) rfl ?_
        refine zP_iload_n (pc := 57) C (x := zI x1) dX11_run_57 rfl rfl ?_
        obtain ⟨_, d1, hc, h⟩ := zc_h h
        refine zP_callV (pc := 58) (As := [.int (zI x1)]) (st := []) C m11_170 dX11_run_58 (s_X1 (o_X11_host hT)) rfl (t_X1_makeTurns (o_X11_host hT) hx1 hc) ⟨Nat.le_of_ble_eq_true rfl, Nat.le_of_ble_eq_true rfl⟩ rfl (Nat.le_of_ble_eq_true rfl) ⟨Nat.zero_le _, Nat.zero_le _⟩ fun hw => ?_
        clear hc hw
        show zP V X 3 0 0 61 _ [] d1
        revert h
        generalize d1 = d
        intro h
        refine zP_aload_n (pc := 61) C (x := zad V 0) dX11_run_61 rfl rfl ?_
        refine zP_getR (pc := 62) (a := 0) (t := 30) C g11_21 dX11_run_62 (s_X11 hT) rfl ?_
        obtain ⟨v65, d1, hc, h⟩ := zc_h h
        refine zP_callV (pc := 65) (As := []) (st := []) C m11_324 dX11_run_65 (s_X2 (o_X11_line hT)) rfl (t_X2_delivered (o_X11_line hT)  hc) ⟨Nat.le_of_ble_eq_true rfl, Nat.le_of_ble_eq_true rfl⟩ rfl (Nat.le_of_ble_eq_true rfl) ⟨Nat.zero_le _, Nat.zero_le _⟩ fun hw => ?_
        have hv65 := hw
        clear hc hw
        show zP V X 3 0 0 68 _ [.int (zI v65)] d1
        revert h
        generalize d1 = d
        intro h
        refine zP_iload_n (pc := 68) C (x := zI v49) dX11_run_68 rfl rfl ?_
        refine zP_isub (pc := 69) C dX11_run_69 h fun v69 hv69 h => ?_
        exact zP_iret (pc := 70) C E dX11_run_70 hv69 h
      · exact zP_mask [false, false, false] (wj_X11_run_26 hT C E hnt   h)
theorem t_X11_addPlace {V : zW}  (hT : zo11 V) {x1 : Int} (hx1 : zR x1) {d dz : zD} {rv : Int} (h : f_X11_addPlace  x1 d = some (rv, dz)) (hnt : rv < 4294967296) : zMet V 5 yX11_addPlace cX11_addPlace 2 (some .int) [.ref (zad V 0), .int (zI x1)] d (some (.int (zI rv))) (zR rv) dz := by
  refine zMet_by RX11 pn11 rfl (Nat.le_of_ble_eq_true rfl) [some (.ref (zad V 0)), some (.int (zI x1))] rfl fun X C E => ?_
  refine zP_aload_n (pc := 0) C (x := zad V 0) dX11_addPlace_0 rfl rfl ?_
  refine zP_getR (pc := 1) (a := 0) (t := 1) C g11_10 dX11_addPlace_1 (s_X11 hT) rfl ?_
  refine zP_iload_n (pc := 4) C (x := zI x1) dX11_addPlace_4 rfl rfl ?_
  obtain ⟨v5, d1, hc, h⟩ := zc_h h
  refine zP_callV (pc := 5) (As := [.int (zI x1)]) (st := []) C m11_224 dX11_addPlace_5 (s_X6 (o_X11_setup hT)) rfl (t_X6_has (o_X11_setup hT) hx1 hc) ⟨Nat.le_of_ble_eq_true rfl, Nat.le_of_ble_eq_true rfl⟩ rfl (Nat.le_of_ble_eq_true rfl) ⟨Nat.zero_le _, Nat.zero_le _⟩ fun hw => ?_
  have hbv5 := hw
  have hv5 := z01 hw
  clear hc hw
  show zP V X 2 0 0 8 _ [.int (zI v5)] d1
  revert h
  generalize d1 = d
  intro h
  refine zP_if_ne (pc := 8) (tgt := 19) C dX11_addPlace_8 rfl hv5 h (fun _ h => ?_) (fun _ h => ?_)
  · refine zP_aload_n (pc := 19) C (x := zad V 0) dX11_addPlace_19 rfl rfl ?_
    refine zP_getR (pc := 20) (a := 0) (t := 30) C g11_21 dX11_addPlace_20 (s_X11 hT) rfl ?_
    refine zP_getI (pc := 23) (a := 30) C g11_173 dX11_addPlace_23 (s_X2 (o_X11_line hT)) rfl h fun v23 hv23 h => ?_
    refine zP_bipush (pc := 26) C dX11_addPlace_26 rfl ?_
    refine zP_icmp_lt (pc := 28) (tgt := 39) C dX11_addPlace_28 rfl hv23 (zRk rfl) h (fun _ h => ?_) (fun _ h => ?_)
    · refine zP_aload_n (pc := 39) C (x := zad V 0) dX11_addPlace_39 rfl rfl ?_
      refine zP_getR (pc := 40) (a := 0) (t := 8) C g11_46 dX11_addPlace_40 (s_X11 hT) rfl ?_
      refine zP_aload_n (pc := 43) C (x := zad V 0) dX11_addPlace_43 rfl rfl ?_
      refine zP_getR (pc := 44) (a := 0) (t := 30) C g11_21 dX11_addPlace_44 (s_X11 hT) rfl ?_
      obtain ⟨_, d1, hc, h⟩ := zc_h h
      refine zP_callV (pc := 47) (As := [.ref (zad V 30)]) (st := []) C m11_130 dX11_addPlace_47 (s_X0 (o_X11_history hT)) rfl (t_X0_remember (o_X11_history hT) (o_X11_line hT)  hc) ⟨Nat.le_of_ble_eq_true rfl, Nat.le_of_ble_eq_true rfl⟩ rfl (Nat.le_of_ble_eq_true rfl) ⟨Nat.zero_le _, Nat.zero_le _⟩ fun hw => ?_
      clear hc hw
      show zP V X 2 0 0 50 _ [] d1
      revert h
      generalize d1 = d
      intro h
      refine zP_aload_n (pc := 50) C (x := zad V 0) dX11_addPlace_50 rfl rfl ?_
      refine zP_getR (pc := 51) (a := 0) (t := 30) C g11_21 dX11_addPlace_51 (s_X11 hT) rfl ?_
      refine zP_iload_n (pc := 54) C (x := zI x1) dX11_addPlace_54 rfl rfl ?_
      obtain ⟨_, d1, hc, h⟩ := zc_h h
      refine zP_callV (pc := 55) (As := [.int (zI x1)]) (st := []) C m11_176 dX11_addPlace_55 (s_X2 (o_X11_line hT)) rfl (t_X2_appendPlace (o_X11_line hT) hx1 hc) ⟨Nat.le_of_ble_eq_true rfl, Nat.le_of_ble_eq_true rfl⟩ rfl (Nat.le_of_ble_eq_true rfl) ⟨Nat.zero_le _, Nat.zero_le _⟩ fun hw => ?_
      clear hc hw
      show zP V X 2 0 0 58 _ [] d1
      revert h
      generalize d1 = d
      intro h
      refine zP_aload_n (pc := 58) C (x := zad V 0) dX11_addPlace_58 rfl rfl ?_
      refine zP_getR (pc := 59) (a := 0) (t := 30) C g11_21 dX11_addPlace_59 (s_X11 hT) rfl ?_
      refine zP_getI (pc := 62) (a := 30) C g11_173 dX11_addPlace_62 (s_X2 (o_X11_line hT)) rfl h fun v62 hv62 h => ?_
      exact zP_iret (pc := 65) C E dX11_addPlace_65 hv62 h
    · exact absurd hnt (zNo (by decide) h)
  · exact absurd hnt (zNo (by decide) h)
theorem t_X11_dropPlace {V : zW}  (hT : zo11 V) {x1 : Int} (hx1 : zR x1) {d dz : zD} {rv : Int} (h : f_X11_dropPlace  x1 d = some (rv, dz)) (hnt : rv < 4294967296) : zMet V 5 yX11_dropPlace cX11_dropPlace 3 (some .int) [.ref (zad V 0), .int (zI x1)] d (some (.int (zI rv))) (zR rv) dz := by
  refine zMet_by RX11 pn11 rfl (Nat.le_of_ble_eq_true rfl) [some (.ref (zad V 0)), some (.int (zI x1)), none] rfl fun X C E => ?_
  refine zP_aload_n (pc := 0) C (x := zad V 0) dX11_dropPlace_0 rfl rfl ?_
  refine zP_getR (pc := 1) (a := 0) (t := 30) C g11_21 dX11_dropPlace_1 (s_X11 hT) rfl ?_
  refine zP_iload_n (pc := 4) C (x := zI x1) dX11_dropPlace_4 rfl rfl ?_
  obtain ⟨v5, d1, hc, h⟩ := zc_h h
  refine zP_callV (pc := 5) (As := [.int (zI x1)]) (st := []) C m11_297 dX11_dropPlace_5 (s_X2 (o_X11_line hT)) rfl (t_X2_hasPlace (o_X11_line hT) hx1 hc) ⟨Nat.le_of_ble_eq_true rfl, Nat.le_of_ble_eq_true rfl⟩ rfl (Nat.le_of_ble_eq_true rfl) ⟨Nat.zero_le _, Nat.zero_le _⟩ fun hw => ?_
  have hbv5 := hw
  have hv5 := z01 hw
  clear hc hw
  show zP V X 3 0 0 8 _ [.int (zI v5)] d1
  revert h
  generalize d1 = d
  intro h
  refine zP_if_ne (pc := 8) (tgt := 19) C dX11_dropPlace_8 rfl hv5 h (fun _ h => ?_) (fun _ h => ?_)
  · refine zP_aload_n (pc := 19) C (x := zad V 0) dX11_dropPlace_19 rfl rfl ?_
    refine zP_getR (pc := 20) (a := 0) (t := 8) C g11_46 dX11_dropPlace_20 (s_X11 hT) rfl ?_
    refine zP_aload_n (pc := 23) C (x := zad V 0) dX11_dropPlace_23 rfl rfl ?_
    refine zP_getR (pc := 24) (a := 0) (t := 30) C g11_21 dX11_dropPlace_24 (s_X11 hT) rfl ?_
    obtain ⟨_, d1, hc, h⟩ := zc_h h
    refine zP_callV (pc := 27) (As := [.ref (zad V 30)]) (st := []) C m11_130 dX11_dropPlace_27 (s_X0 (o_X11_history hT)) rfl (t_X0_remember (o_X11_history hT) (o_X11_line hT)  hc) ⟨Nat.le_of_ble_eq_true rfl, Nat.le_of_ble_eq_true rfl⟩ rfl (Nat.le_of_ble_eq_true rfl) ⟨Nat.zero_le _, Nat.zero_le _⟩ fun hw => ?_
    clear hc hw
    show zP V X 3 0 0 30 _ [] d1
    revert h
    generalize d1 = d
    intro h
    refine zP_aload_n (pc := 30) C (x := zad V 0) dX11_dropPlace_30 rfl rfl ?_
    refine zP_getR (pc := 31) (a := 0) (t := 30) C g11_21 dX11_dropPlace_31 (s_X11 hT) rfl ?_
    refine zP_getR (pc := 34) (a := 30) (t := 30 + 29) C g11_300 dX11_dropPlace_34 (s_X2 (o_X11_line hT)) rfl ?_
    refine zP_iload_n (pc := 37) C (x := zI x1) dX11_dropPlace_37 rfl rfl ?_
    refine zP_iald (pc := 38) (a := 30 + 29) C dX11_dropPlace_38 (s_X2_list (o_X11_line hT)) hx1 h fun v38 hv38 h => ?_
    refine zP_istore_n (pc := 39) C (L' := [some (.ref (zad V 0)), some (.int (zI x1)), some (.int (zI v38))]) dX11_dropPlace_39 rfl (Nat.le_of_ble_eq_true rfl) rfl rfl ?_
    refine zP_aload_n (pc := 40) C (x := zad V 0) dX11_dropPlace_40 rfl rfl ?_
    refine zP_getR (pc := 41) (a := 0) (t := 30) C g11_21 dX11_dropPlace_41 (s_X11 hT) rfl ?_
    refine zP_iload_n (pc := 44) C (x := zI x1) dX11_dropPlace_44 rfl rfl ?_
    obtain ⟨_, d1, hc, h⟩ := zc_h h
    refine zP_callV (pc := 45) (As := [.int (zI x1)]) (st := []) C m11_179 dX11_dropPlace_45 (s_X2 (o_X11_line hT)) rfl (t_X2_removePlace (o_X11_line hT) hx1 hc) ⟨Nat.le_of_ble_eq_true rfl, Nat.le_of_ble_eq_true rfl⟩ rfl (Nat.le_of_ble_eq_true rfl) ⟨Nat.zero_le _, Nat.zero_le _⟩ fun hw => ?_
    clear hc hw
    show zP V X 3 0 0 48 _ [] d1
    revert h
    generalize d1 = d
    intro h
    refine zP_iload_n (pc := 48) C (x := zI v38) dX11_dropPlace_48 rfl rfl ?_
    exact zP_iret (pc := 49) C E dX11_dropPlace_49 hv38 h
  · exact absurd hnt (zNo (by decide) h)
theorem t_X11_undo {V : zW}  (hT : zo11 V)   {d dz : zD} {rv : Int} (h : f_X11_undo   d = some (rv, dz)) (hnt : rv < 4294967296) : zMet V 5 yX11_undo cX11_undo 1 (some .int) [.ref (zad V 0)] d (some (.int (zI rv))) (zR rv) dz := by
  refine zMet_by RX11 pn11 rfl (Nat.le_of_ble_eq_true rfl) [some (.ref (zad V 0))] rfl fun X C E => ?_
  refine zP_aload_n (pc := 0) C (x := zad V 0) dX11_undo_0 rfl rfl ?_
  refine zP_getR (pc := 1) (a := 0) (t := 8) C g11_46 dX11_undo_1 (s_X11 hT) rfl ?_
  refine zP_getI (pc := 4) (a := 8) C g11_128 dX11_undo_4 (s_X0 (o_X11_history hT)) rfl h fun v4 hv4 h => ?_
  refine zP_if_ne (pc := 7) (tgt := 18) C dX11_undo_7 rfl hv4 h (fun _ h => ?_) (fun _ h => ?_)
  · refine zP_aload_n (pc := 18) C (x := zad V 0) dX11_undo_18 rfl rfl ?_
    refine zP_getR (pc := 19) (a := 0) (t := 8) C g11_46 dX11_undo_19 (s_X11 hT) rfl ?_
    refine zP_aload_n (pc := 22) C (x := zad V 0) dX11_undo_22 rfl rfl ?_
    refine zP_getR (pc := 23) (a := 0) (t := 30) C g11_21 dX11_undo_23 (s_X11 hT) rfl ?_
    obtain ⟨_, d1, hc, h⟩ := zc_h h
    refine zP_callV (pc := 26) (As := [.ref (zad V 30)]) (st := []) C m11_354 dX11_undo_26 (s_X0 (o_X11_history hT)) rfl (t_X0_takeBack (o_X11_history hT) (o_X11_line hT)  hc) ⟨Nat.le_of_ble_eq_true rfl, Nat.le_of_ble_eq_true rfl⟩ rfl (Nat.le_of_ble_eq_true rfl) ⟨Nat.zero_le _, Nat.zero_le _⟩ fun hw => ?_
    clear hc hw
    show zP V X 1 0 0 29 _ [] d1
    revert h
    generalize d1 = d
    intro h
    refine zP_aload_n (pc := 29) C (x := zad V 0) dX11_undo_29 rfl rfl ?_
    refine zP_getR (pc := 30) (a := 0) (t := 8) C g11_46 dX11_undo_30 (s_X11 hT) rfl ?_
    refine zP_getI (pc := 33) (a := 8) C g11_128 dX11_undo_33 (s_X0 (o_X11_history hT)) rfl h fun v33 hv33 h => ?_
    exact zP_iret (pc := 36) C E dX11_undo_36 hv33 h
  · exact absurd hnt (zNo (by decide) h)
theorem t_X11_restoreState {V : zW}  (hT : zo11 V)   {d dz : zD} {rv : Int} (h : f_X11_restoreState   d = some (rv, dz)) (hnt : rv < 4294967296) : zMet V 4 yX11_restoreState cX11_restoreState 1 (some .int) [.ref (zad V 0)] d (some (.int (zI rv))) (zR rv) dz := by
  refine zMet_by RX11 pn11 rfl (Nat.le_of_ble_eq_true rfl) [some (.ref (zad V 0))] rfl fun X C E => ?_
  refine zP_aload_n (pc := 0) C (x := zad V 0) dX11_restoreState_0 rfl rfl ?_
  refine zP_getI (pc := 1) (a := 0) C g11_83 dX11_restoreState_1 (s_X11 hT) rfl h fun v1 hv1 h => ?_
  refine zP_if_ne (pc := 4) (tgt := 15) C dX11_restoreState_4 rfl hv1 h (fun _ h => ?_) (fun _ h => ?_)
  · refine zP_aload_n (pc := 15) C (x := zad V 0) dX11_restoreState_15 rfl rfl ?_
    refine zP_getR (pc := 16) (a := 0) (t := 30) C g11_21 dX11_restoreState_16 (s_X11 hT) rfl ?_
    refine zP_aload_n (pc := 19) C (x := zad V 0) dX11_restoreState_19 rfl rfl ?_
    refine zP_getR (pc := 20) (a := 0) (t := 90) C g11_40 dX11_restoreState_20 (s_X11 hT) rfl ?_
    obtain ⟨_, d1, hc, h⟩ := zc_h h
    refine zP_callV (pc := 23) (As := [.ref (zad V 90)]) (st := []) C m11_322 dX11_restoreState_23 (s_X2 (o_X11_line hT)) rfl (t_X2_copyFrom (o_X11_line hT) (o_X11_saved hT)  hc) ⟨Nat.le_of_ble_eq_true rfl, Nat.le_of_ble_eq_true rfl⟩ rfl (Nat.le_of_ble_eq_true rfl) ⟨Nat.zero_le _, Nat.zero_le _⟩ fun hw => ?_
    clear hc hw
    show zP V X 1 0 0 26 _ [] d1
    revert h
    generalize d1 = d
    intro h
    refine zP_aload_n (pc := 26) C (x := zad V 0) dX11_restoreState_26 rfl rfl ?_
    refine zP_getR (pc := 27) (a := 0) (t := 8) C g11_46 dX11_restoreState_27 (s_X11 hT) rfl ?_
    refine zP_iconst (pc := 30) C dX11_restoreState_30 ?_
    refine zP_putI (pc := 31) (a := 8) C p11_128 dX11_restoreState_31 (s_X0 (o_X11_history hT)) rfl (zRk rfl) h fun d h => ?_
    refine zP_aload_n (pc := 34) C (x := zad V 0) dX11_restoreState_34 rfl rfl ?_
    refine zP_getR (pc := 35) (a := 0) (t := 30) C g11_21 dX11_restoreState_35 (s_X11 hT) rfl ?_
    refine zP_getI (pc := 38) (a := 30) C g11_189 dX11_restoreState_38 (s_X2 (o_X11_line hT)) rfl h fun v38 hv38 h => ?_
    exact zP_iret (pc := 41) C E dX11_restoreState_41 hv38 h
  · exact absurd hnt (zNo (by decide) h)
