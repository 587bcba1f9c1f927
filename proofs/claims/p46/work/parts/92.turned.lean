/-! A turn is what was told of it. -/
theorem scn_c {p q : Int → Bool} {a n : Int} (ha : -1 ≤ a ∧ a ≤ 1000) (hn : 0 ≤ n ∧ n ≤ 16) (hp : ∀ x, 0 ≤ x → x < n → p x = q x) : ∀ (k : Nat) {i : Int}, 1 ≤ i → i + k = n + 1 → scn p a n i k = scn q a n i k := by
  intro k
  induction k with
  | zero => intro i _ _; rfl
  | succ k ih =>
    intro i h1 h2
    have hr := scn_R (a := a) (n := n) (i := i) ha (by omega) (by omega)
    unfold scn
    rw [hp _ hr.1 hr.2, ih (by omega) (by omega)]
theorem cP_4 {K L : Int → Int → List Int} {D : Int → List Int} {d : zD} {b : Nat} {s : Nat → Int} {N v : Int} (h : RC K L D d b s N) : cP (us s 4 v) = cP s := by
  obtain ⟨i0, i1, i26, i27, i28⟩ := RC_j h
  unfold cP
  rw [rT_f (by omega), us_ne (by omega), us_ne (by omega)]
  exact scn_c (by split <;> omega) i1 (fun x x0 x1 => by rw [us_ne (by omega)]) _ (by omega) (by omega)
theorem cK_4 {K L : Int → Int → List Int} {D : Int → List Int} {d : zD} {b : Nat} {s : Nat → Int} {N v t : Int} (h : RC K L D d b s N) : cK L (us s 4 v) t = cK L s t ∧ cX L (us s 4 v) t = cX L s t := by
  have hP := cP_4 (v := v) h
  have hPi := cP_in h
  have hT : cT (us s 4 v) t = cT s t := by
    unfold cT
    rw [rT_f (by omega), us_ne (by omega), us_ne (by omega), us_ne (by omega)]
  have hE : cE L (us s 4 v) = cE L s := by
    unfold cE
    rw [rT_f (by omega), us_ne (by omega), us_ne (by omega)]
  unfold cK cX
  rw [hP, hT, hE, us_ne (show 25 ≠ 4 by decide), us_ne (show 10 ≠ 4 by decide), us_ne (show (30 + cP s).toNat ≠ 4 by omega)]
  exact ⟨rfl, rfl⟩
theorem q_RCd {K L : Int → Int → List Int} {d d' : zD} {b : Nat} {s : Nat → Int} {N : Int} (h : RC K L D0 d b s N) (e : ∀ c, (1 ≤ c ∧ c ≤ 5) ∨ (b ≤ c ∧ c < b + 30) → d' c = d c) : RC K L D0 d' b s N := by
  obtain ⟨hS, hA, hQ, hM, hD, hK, hL, hKL, hP, hG, hI, hIL, hIT, hIM, hU, hb⟩ := h
  refine ⟨?_, ?_, RQ_d hQ fun c _ _ => e c (by omega), RM_d hM fun c _ _ => e c (by omega), RD_d hD (e _ (by omega)), KR_d hK fun c _ _ => e c (by omega), hL, hKL, hP, RG_d hG (e _ (by omega)) (e _ (by omega)), hI, hIL, hIT, hIM, RU_d hU fun c _ _ => e c (by omega), hb⟩
  · unfold RS
    rw [e b (by omega), e (b + 1) (by omega)]
    exact hS
  · unfold RA
    rw [e (b + 27) (by omega), e (b + 28) (by omega), e (b + 29) (by omega)]
    exact hA
theorem q_turns1 {g b : Nat} {d d' : zD} (h : f_X1_makeTurn g b d = some (0, d')) : f_X1_makeTurns g b 1 d = some (0, d') := by
  show l_X1_makeTurns_2F g b (l_X1_makeTurns_2 g b (99998 + 1)) 1 0 d = _
  unfold l_X1_makeTurns_2F
  rw [if_neg (by decide), h, zc_n, zl_n]
  show l_X1_makeTurns_2F g b _ 1 1 d' = _
  unfold l_X1_makeTurns_2F
  rw [if_pos (by decide)]
/-- a turn on a copy -/
theorem q_copy {d ds ds' : zD} (h : LR d 30 (ds 401)) (h4 : ds 401 4 ≤ 9999) (hT : f_X12_turns ds = some (0, ds')) : ∃ dc d', f_X2_copyFrom 60 30 d = some (0, dc) ∧ f_X1_makeTurns 7 60 1 dc = some (0, d') ∧ LR d' 60 (ds' 401) ∧ (∀ c, c ≠ 7 → c < 60 ∨ 90 ≤ c → d' c = d c) := by
  obtain ⟨dc1, r1, r2, r3⟩ := R_copy (d := d) (b := 60) h (by omega) (by omega)
  obtain ⟨d', s', a1, a2, a3, a4, a5, a6, a7⟩ := R_turn (g := 7) r3 (by omega) (by omega)
  rw [hT] at a2
  cases a2
  refine ⟨dc1, d', r1, q_turns1 a1, a3, fun c c1 c2 => ?_⟩
  rw [a5 c c1 (by omega), r2 c (by omega)]
theorem q_isTurned {d ds : zD} (hg : GR d ds) (hZ : ∀ c j, zR (d c j)) (h4 : ds 401 4 + 1 ≤ 9999) : ∃ d' ds', f_L_isTurned d = some (1, d') ∧ GR d' ds' ∧ ds' 401 4 = ds 401 4 + 1 ∧ Fz (ds 401) (ds' 401) := by
  obtain ⟨K, L, hr, hz⟩ := GR_L hg
  obtain ⟨i0, i1, i2, i4, -⟩ := LR_2 hg.1
  obtain ⟨s10, -⟩ := LR_10 hg.1
  obtain ⟨-, -, -, i3, iN⟩ := RC_i hr
  -- what is told ahead
  obtain ⟨d1, k1, k2, k3, k4, -⟩ := k_choose (g := 6) (t := ds 401 4 + 1) hr (by omega)
  have hr1 : RC K L D0 d1 30 (ds 401) (1000 * ds 401 4 + ds 401 2) := RC_g hr (g := 6) (by omega) k2
  obtain ⟨d2, n1, n2, n3, n4, -⟩ := k_choose (g := 6) (t := ds 401 4 + 1) hr1 (by omega)
  have hr2 : RC K L D0 d2 30 (ds 401) (1000 * ds 401 4 + ds 401 2) := RC_g hr1 (g := 6) (by omega) n2
  have hl2 : LR d2 30 (ds 401) := ⟨K, L, hr2, hz⟩
  have hZ2 : ∀ c j, c ≠ 6 → zR (d2 c j) := fun c j hc => by rw [n2 c hc, k2 c hc]; exact hZ c j
  -- the turn, wherever
  obtain ⟨dx, ds', v, j, t1, t2, t3, t4, t5, t6, t7, t8⟩ := R_turnK (g := 6) hr2 hz (by omega) (by omega)
  rw [(cK_4 hr).1, (cK_4 hr).2] at t8
  obtain ⟨c3, d4, p4, p5, p6, p7⟩ := q_copy hl2 (by omega) t2
  have hl4 : LR d4 30 (ds 401) := LR_d hl2 fun c hc => p7 c (by omega) (by omega)
  obtain ⟨c5, d5, y4, y5, y6, y7⟩ := q_copy hl4 (by omega) t2
  have f5 : ∀ c, c ≠ 6 → c ≠ 7 → c < 60 ∨ 90 ≤ c → d5 c = d c := fun c c6 c7 hc => by rw [y7 c c7 hc, p7 c c7 hc, n2 c c6, k2 c c6]
  have hg5 : GR d5 ds := GR_d hg f5
  have hr5 : RC K L D0 d5 30 (ds 401) (1000 * ds 401 4 + ds 401 2) := q_RCd hr fun c hc => f5 c (by omega) (by omega) (by omega)
  have hl5 : LR d5 30 (ds 401) := ⟨K, L, hr5, hz⟩
  have hZ5 : ∀ c j, c ≠ 6 → c ≠ 7 → c < 60 → zR (d5 c j) := fun c j c6 c7 c8 => by rw [f5 c c6 c7 (by omega)]; exact hZ c j
  -- the run
  obtain ⟨d6, dK, g1, g2, g3, g4, g5, g6⟩ := R_keep hg5
  have hr6 : RC K L D0 d6 30 (ds 401) (1000 * ds 401 4 + ds 401 2) := q_RCd hr5 fun c hc => g4 c (by omega) (by omega)
  have hl6 : LR d6 30 (ds 401) := ⟨K, L, hr6, hz⟩
  obtain ⟨d7, ds2, v, j, u1, u2, u3, u4, u5, u6, u7, u8⟩ := R_turnK (g := 6) hr6 hz (by omega) (by omega)
  rw [t2] at u2
  cases u2
  rw [(cK_4 hr).1, (cK_4 hr).2] at u8
  generalize hE : (fun c => if c = 401 then ds' 401 else dK c : zD) = E
  have E1 : E 401 = ds' 401 := by rw [← hE]; exact if_pos rfl
  have E0 : ∀ c, c ≠ 401 → E c = dK c := fun c hc => by rw [← hE]; exact if_neg hc
  have hg7 : GR d7 E := GR_line g3 (fun c c1 c2 => u5 c c1 c2) (fun c _ c2 => E0 c c2) (fun j _ _ _ => by rw [E0 400 (by omega)]) (by rw [E1]; exact u3) (by rw [E1, u4]; omega)
  obtain ⟨j0, j1, j2, j4, -⟩ := LR_2 u3
  obtain ⟨K', L', hr7, hz7⟩ := u3
  have hl7 : LR d7 30 (ds' 401) := ⟨K', L', hr7, hz7⟩
  refine ⟨d7, E, ?_, hg7, by rw [E1]; exact u4, by rw [E1]; exact u7⟩
  have ekind : f_X11_nextKind d = some (cK L (ds 401) (ds 401 4 + 1), d1) := by
    unfold f_X11_nextKind
    rw [zl_n, s10, zl_n, zw_id (by omega) (by omega), k1, zc_n, zl_n, k3]
  have eterm : f_X11_nextTerminal d1 = some (cX L (ds 401) (ds 401 4 + 1), d2) := by
    unfold f_X11_nextTerminal
    rw [zl_n, (LR_10 (LR_d hg.1 fun c hc => k2 c (by omega))).1, zl_n, zw_id (by omega) (by omega), n1, zc_n, zl_n, n4]
  generalize hk : cK L (ds 401) (ds 401 4 + 1) = k at *
  generalize hx : cX L (ds 401) (ds 401 4 + 1) = x at *
  have etime : f_X11_timeIn 1 d2 = some (ds' 401 3, d4) := by
    unfold f_X11_timeIn
    rw [if_neg (by decide), if_pos (by decide), p4, zc_n, p5, zc_n, zl_n, (LR_10 p6).2.1]
  have edel : f_X11_deliveredIn 1 d4 = some (cSt (ds' 401) 3, d5) := by
    unfold f_X11_deliveredIn
    rw [if_neg (by decide), if_pos (by decide), y4, zc_n, y5, zc_n, k_delivered y6, zc_n]
  have z1 := cSt_R (v := 3) i2
  have z2 := cSt_R (v := 3) j2
  have erun : f_X11_run 1 d5 = some (cSt (ds' 401) 3 - cSt (ds 401) 3, d7) := by
    unfold f_X11_run
    rw [if_neg (by decide), if_neg (by decide), zl_n, (LR_10 hl5).1, zl_n, zw_id (by omega) (by omega), if_pos (by omega), g1, zc_n, k_delivered hl6, zc_n, q_turns1 u1, zc_n, k_delivered hl7, zc_n, zl_n, zw_id (by omega) (by omega)]
  obtain ⟨-, -, -, j3, jN⟩ := RC_i hr7
  have c9 : f_X11_count 9 d5 = some (cSt (ds 401) 3, d5) := q_in3 hl5 (v := 3) (by omega)
  have c3' : f_X11_count 3 d5 = some (ds 401 3, d5) := (q_count hr5).2.2.2.1
  have a12 : f_X11_account 12 d5 = some (ds 401 24, d5) := q_account hr5 (x := 12) (by omega)
  have a11 : f_X11_account 11 d5 = some (ds 401 23, d5) := q_account hr5 (x := 11) (by omega)
  have a7 : f_X11_account 7 d5 = some (ds 401 19, d5) := q_account hr5 (x := 7) (by omega)
  have C9 : f_X11_count 9 d7 = some (cSt (ds' 401) 3, d7) := q_in3 hl7 (v := 3) (by omega)
  have C3 : f_X11_count 3 d7 = some (ds' 401 3, d7) := (q_count hr7).2.2.2.1
  have A12 : f_X11_account 12 d7 = some (ds' 401 24, d7) := q_account hr7 (x := 12) (by omega)
  have A11 : f_X11_account 11 d7 = some (ds' 401 23, d7) := q_account hr7 (x := 11) (by omega)
  have A7 : f_X11_account 7 d7 = some (ds' 401 19, d7) := q_account hr7 (x := 7) (by omega)
  have S1 : f_X11_setting 1 d7 = some (ds' 401 7, d7) := q_setting hr7 (x := 1) (by omega)
  have e7 : ds' 401 7 = ds 401 7 := u7.1 7 (by omega) (by omega) (by omega) (by omega)
  have e0 : ds' 401 0 = ds 401 0 := u7.1 0 (by omega) (by omega) (by omega) (by omega)
  have zA : ∀ w : Int, 0 ≤ w → w < 13 → zR (ds 401 (12 + w).toNat) := fun w w0 w1 => by
    obtain ⟨-, ⟨-, hA, -⟩, -⟩ := hr5
    rw [← hA w w0 w1]
    exact hZ5 _ _ (by omega) (by omega) (by omega)
  have z24 : zR (ds 401 24) := zA 12 (by omega) (by omega)
  have z23 : zR (ds 401 23) := zA 11 (by omega) (by omega)
  have z19 : zR (ds 401 19) := zA 7 (by omega) (by omega)
  obtain ⟨⟨w0, w1⟩, w2, w3, w4⟩ := u8
  have T : ∀ w : Int, 0 ≤ w → w < 5 → f_X11_turn 0 w d7 = some (w5 w k x v j (ds' 401 3), d7) := fun w q0 q1 => by
    rw [q_turn hr7 (by omega) ⟨q0, q1⟩, show ds' 401 29 - 1 - 0 = ds' 401 29 - 1 by omega, w1 w q0 q1]
  have T0 : f_X11_turn 0 0 d7 = some (k, d7) := T 0 (by omega) (by omega)
  have T1 : f_X11_turn 0 1 d7 = some (x, d7) := T 1 (by omega) (by omega)
  have T2 : f_X11_turn 0 2 d7 = some (v, d7) := T 2 (by omega) (by omega)
  have T3 : f_X11_turn 0 3 d7 = some (j, d7) := T 3 (by omega) (by omega)
  have T4 : f_X11_turn 0 4 d7 = some (ds' 401 3, d7) := T 4 (by omega) (by omega)
  have zwR : ∀ {y : Int}, zR y → zw y = y := fun hy => zw_id hy.1 (by have := hy.2; omega)
  -- what follows the run, up to the accounts
  have J77 : ∀ s0 : Int, j_L_isTurned_77 k x (ds' 401 3) (cSt (ds' 401) 3) (cSt (ds 401) 3) (ds 401 3) (ds 401 24) (ds 401 23) (ds 401 19) s0 d5 = if k = 3 then zc (some (ds' 401 24, d7)) (fun v153 d => zx v153 (j_L_isTurned_168 k x (ds' 401 3) (ds 401 3) (ds 401 23) (ds 401 19) s0 1 (ds 401 24) v153 d)) else zc (some (ds' 401 24, d7)) (fun v153 d => zx v153 (j_L_isTurned_168 k x (ds' 401 3) (ds 401 3) (ds 401 23) (ds 401 19) s0 0 (ds 401 24) v153 d)) := fun s0 => by
    unfold j_L_isTurned_77
    have hkx : k < 4294967296 ∧ x < 4294967296 := by
      by_cases h3 : k = 3
      · have := (w3 h3).1
        omega
      · have := (w4 h3).1
        omega
    rw [erun, zc_n, zx_t (by omega), zl_n, zw_id (by omega) (by omega), if_pos rfl, C3, zc_n, zx_t (by omega), if_pos rfl, C9, zc_n, zx_t (by omega), if_pos rfl, if_pos w2, T0, zc_n, zx_t hkx.1, if_pos rfl, T1, zc_n, zx_t hkx.2, if_pos rfl, T4, zc_n, zx_t (by omega), if_pos rfl, A12]
    by_cases h3 : k = 3
    · rw [if_pos h3, zc_n, zc_n, if_pos h3]
    · rw [if_neg h3, zc_n, zc_n, if_neg h3]
  have head : f_L_isTurned d = if x = -1 then j_L_isTurned_77 k x (ds' 401 3) (cSt (ds' 401) 3) (cSt (ds 401) 3) (ds 401 3) (ds 401 24) (ds 401 23) (ds 401 19) 0 d5 else zc (f_X11_often x k d5) fun v74 d => zx v74 (j_L_isTurned_77 k x (ds' 401 3) (cSt (ds' 401) 3) (cSt (ds 401) 3) (ds 401 3) (ds 401 24) (ds 401 23) (ds 401 19) v74 d) := by
    unfold f_L_isTurned
    rw [ekind, zc_n, eterm, zc_n, etime, zc_n, zx_t (by omega), edel, zc_n, zx_t (by omega), c9, zc_n, zx_t (by omega), c3', zc_n, zx_t (by omega), a12, zc_n, zx_t (z_u z24), a11, zc_n, zx_t (z_u z23), a7, zc_n, zx_t (z_u z19)]
  rw [head]
  by_cases h3 : k = 3
  · -- nothing to do
    obtain ⟨b1, b2, b3, b4, b5, b6, b7⟩ := w3 h3
    rw [if_pos b1, J77, if_pos h3, zc_n, zx_t (z_u (by rw [b5]; exact zR_of _))]
    unfold j_L_isTurned_168
    rw [zl_n, if_pos b5, A11, zc_n, zx_t (z_u (by rw [b6]; exact z23)), if_neg (by omega)]
    unfold j_L_isTurned_190
    rw [zl_n, Int.add_zero, zwR z23, if_pos b6, if_pos h3, T3, zc_n, zx_t (by omega), if_pos b3, T2, zc_n, zx_t (by omega), if_pos b2, zl_n, zw_id (by omega) (by omega), if_pos b4, if_pos b1]
  · obtain ⟨⟨hk2, hx2⟩, b1, b2, b3, b4, b5, ⟨b6, b7⟩, b8, b9⟩ := w4 h3
    have hx7 : 0 ≤ x ∧ x < ds' 401 0 := by omega
    have O5 : f_X11_often x k d5 = some (rT (ds 401) x (11 + k), d5) := q_often hr5 hx2 ⟨hk2.1, by omega⟩
    have O7 : f_X11_often x k d7 = some (rT (ds' 401) x (11 + k), d7) := q_often hr7 hx7 ⟨hk2.1, by omega⟩
    have zO : zR (rT (ds 401) x (11 + k)) := by
      obtain ⟨-, -, hQ, -⟩ := hr5
      rw [← (hQ x hx2.1 hx2.2).2.2.2.2.2.2.2 k hk2.1 (by omega)]
      exact hZ5 _ _ (by omega) (by omega) (by omega)
    have zO7 : zR (rT (ds' 401) x (11 + k)) := by rw [b4]; exact zR_of _
    obtain ⟨-, -, g3', g4', g5', -⟩ := q_ter hr7 hx7
    have b9 := b9 z19
    have hv : 0 ≤ v ∧ v ≤ 4 := by
      obtain ⟨v1, v2⟩ := b5
      by_cases q : k = 1
      · have := v1 q; omega
      · have := v2 q; omega
    have hj5 : j ≤ 5 := by
      obtain ⟨-, -, -, -, -, -, -, -, -, -, ⟨-, -, -, -, -, -, -, q7, -⟩, -⟩ := hr
      split at b7 <;> omega
    have J355 : j_L_isTurned_355 k v d7 = some (1, d7) := by
      obtain ⟨v1, v2⟩ := b5
      unfold j_L_isTurned_355
      by_cases q : k = 1
      · have := v1 q
        rw [if_pos q, if_neg (by omega), if_neg (by omega)]
      · have := v2 q
        rw [if_neg q, if_neg (by omega)]
    have J313 : j_L_isTurned_313 k x v (if v = 0 then 0 else 1) (zw (ds 401 19 + j)) (ds' 401 19) d7 = some (1, d7) := by
      unfold j_L_isTurned_313
      have e19 : zw (zw (ds 401 19 + j) - (if v = 0 then 0 else 1)) = ds' 401 19 := by
        rw [← zwR b9, b3, Int.sub_eq_add_neg, zw_zw, ← Int.sub_eq_add_neg]
      rw [zl_n, e19, if_pos rfl]
      by_cases q : v ≤ 0
      · rw [if_pos q, J355]
      · obtain ⟨y1, y2, y3⟩ := b8 (by omega)
        rw [if_neg q, g5', zc_n, zx_t (by omega), if_pos y1, g4', zc_n, zx_t (by omega), if_pos y2, g3', zc_n, zx_t (by omega), if_pos y3, J355]
    have J289 : ∀ m : Int, j ≤ m → j_L_isTurned_289 k x (ds 401 19) j v m j d7 = some (1, d7) := fun m hm => by
      unfold j_L_isTurned_289
      rw [if_neg (by omega), A7, zc_n, zx_t (z_u b9), zl_n]
      by_cases q : v = 0
      · rw [if_pos q] at J313 ⊢
        exact J313
      · rw [if_neg q] at J313 ⊢
        exact J313
    have e24 : zw (ds 401 24 + 0) = ds 401 24 := by rw [Int.add_zero, zwR z24]
    have e23 : zw (ds 401 23 + (if k = 2 then 1 else 0)) = ds' 401 23 := by
      by_cases q : k = 2
      · rw [if_pos q, b2, if_pos q]
      · rw [if_neg q, b2, if_neg q, Int.add_zero, zwR z23]
    have z23' : zR (ds' 401 23) := by rw [← e23]; exact zR_of _
    have J190 : j_L_isTurned_190 k x (ds' 401 3) (ds 401 3) (ds 401 19) (rT (ds 401) x (11 + k)) (if k = 2 then 1 else 0) (ds 401 23) (ds' 401 23) d7 = some (1, d7) := by
      unfold j_L_isTurned_190
      rw [zl_n, e23, if_pos rfl, if_neg h3, T3, zc_n, zx_t (by omega), T2, zc_n, zx_t (by omega), O7, zc_n, zx_t (z_u zO7), zl_n, if_pos b4, if_neg (by omega)]
      by_cases q : k = 2
      · rw [if_pos q] at b7
        rw [if_pos q, J289 1 b7]
      · rw [if_neg q] at b7
        rw [if_neg q, S1, zc_n, zx_t (by rw [e7]; have := (show ds 401 7 ≤ 5 from by obtain ⟨-, -, -, -, -, -, -, -, -, -, ⟨-, -, -, -, -, -, -, q7, -⟩, -⟩ := hr; exact q7.2); omega), J289 _ (by rw [e7]; exact b7)]
    rw [if_neg (by omega), O5, zc_n, zx_t (z_u zO), J77, if_neg h3, zc_n, zx_t (z_u (by rw [b1]; exact z24))]
    unfold j_L_isTurned_168
    rw [zl_n, e24, if_pos b1, A11, zc_n, zx_t (z_u z23')]
    by_cases q : k = 2
    · rw [if_pos q] at J190 ⊢
      exact J190
    · rw [if_neg q] at J190 ⊢
      exact J190
