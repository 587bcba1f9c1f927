/-! A line is sound. -/
theorem bit_all : ∀ y : Fin 256, ∀ i : Fin 8, (∀ x : Fin 8, zand (zshr (zor (y.val : Int) (zshl 1 (i.val : Int))) (x.val : Int)) 1 = if x.val = i.val then 1 else zand (zshr (y.val : Int) (x.val : Int)) 1) ∧ 0 ≤ zor (y.val : Int) (zshl 1 (i.val : Int)) ∧ zor (y.val : Int) (zshl 1 (i.val : Int)) < 256 := by decide +kernel
theorem bit_of {y i : Int} (hy : 0 ≤ y ∧ y < 256) (hi : 0 ≤ i ∧ i < 8) : (∀ x, 0 ≤ x → x < 8 → zand (zshr (zor y (zshl 1 i)) x) 1 = if x = i then 1 else zand (zshr y x) 1) ∧ 0 ≤ zor y (zshl 1 i) ∧ zor y (zshl 1 i) < 256 := by
  have h := bit_all ⟨y.toNat, by omega⟩ ⟨i.toNat, by omega⟩
  have e1 : ((y.toNat : Nat) : Int) = y := by omega
  have e2 : ((i.toNat : Nat) : Int) = i := by omega
  dsimp only at h
  rw [e1, e2] at h
  refine ⟨fun x x0 x1 => ?_, h.2⟩
  have h2 := h.1 ⟨x.toNat, by omega⟩
  have e3 : ((x.toNat : Nat) : Int) = x := by omega
  dsimp only at h2
  rw [e3] at h2
  rw [h2]
  by_cases e : x = i
  · rw [if_pos e, if_pos (by omega)]
  · rw [if_neg e, if_neg (by omega)]
theorem bit_0 : ∀ x : Fin 8, zand (zshr 0 (x.val : Int)) 1 = 0 := by decide +kernel
theorem cnt_4 {M : zM} : ∀ (k : Nat) (x : Int), (∀ y, x ≤ y → y < x + k → 0 ≤ M y 3 ∧ M y 3 ≤ 3) → cnt (fun m => decide (M m 3 = 0)) x k + cnt (fun m => decide (M m 3 = 1)) x k + cnt (fun m => decide (M m 3 = 2)) x k + cnt (fun m => decide (M m 3 = 3)) x k = k := by
  intro k
  induction k with
  | zero => intro x _; rfl
  | succ k ih =>
    intro x hx
    have := ih (x + 1) fun y h1 h2 => hx y (by omega) (by omega)
    have h0 := hx x (by omega) (by omega)
    unfold cnt
    rcases (show M x 3 = 0 ∨ M x 3 = 1 ∨ M x 3 = 2 ∨ M x 3 = 3 by omega) with h | h | h | h <;> (rw [h]; simp only [decide_true, if_true, show decide ((0 : Int) = 1) = false from rfl, show decide ((0 : Int) = 2) = false from rfl, show decide ((0 : Int) = 3) = false from rfl, show decide ((1 : Int) = 0) = false from rfl, show decide ((1 : Int) = 2) = false from rfl, show decide ((1 : Int) = 3) = false from rfl, show decide ((2 : Int) = 0) = false from rfl, show decide ((2 : Int) = 1) = false from rfl, show decide ((2 : Int) = 3) = false from rfl, show decide ((3 : Int) = 0) = false from rfl, show decide ((3 : Int) = 1) = false from rfl, show decide ((3 : Int) = 2) = false from rfl, if_false, Bool.false_eq_true]; omega)
section ASK
variable {K L : Int → Int → List Int} {d : zD} {s : Nat → Int} {N : Int}
theorem q_off (h : RC K L D0 d 30 s N) : ∃ v, f_X11_off d = some (v, d) ∧ ∀ x, 0 ≤ x → x < s 0 → zand (zshr v x) 1 = if rT s x 4 = 0 then 1 else 0 := by
  obtain ⟨i0, -⟩ := RC_i h
  obtain ⟨-, -, hQ, -, -, -, -, -, -, -, -, -, -, -, hU, -⟩ := h
  have loop : ∀ (k q : Nat) (y i : Int), 0 ≤ i → i + k = s 0 → k < q → 0 ≤ y ∧ y < 256 → (∀ x, 0 ≤ x → x < 8 → zand (zshr y x) 1 = if x < i ∧ rT s x 4 = 0 then 1 else 0) → ∃ v, l_X11_off_4 q y i d = some (v, d) ∧ ∀ x, 0 ≤ x → x < s 0 → zand (zshr v x) 1 = if rT s x 4 = 0 then 1 else 0 := by
    intro k
    induction k with
    | zero =>
      intro q y i h0 ik hq hy hinv
      obtain ⟨q, rfl⟩ : ∃ q0, q = q0 + 1 := ⟨q - 1, by omega⟩
      refine ⟨y, ?_, fun x x0 x1 => ?_⟩
      · show l_X11_off_4F _ y i d = _
        unfold l_X11_off_4F
        rw [zl_n, hU.1, if_pos (by omega)]
      · rw [hinv x x0 (by omega)]
        by_cases e : rT s x 4 = 0
        · rw [if_pos e, if_pos ⟨by omega, e⟩]
        · rw [if_neg e, if_neg fun q => e q.2]
    | succ k ih =>
      intro q y i h0 ik hq hy hinv
      obtain ⟨q, rfl⟩ : ∃ q0, q = q0 + 1 := ⟨q - 1, by omega⟩
      have q4 := (hQ i h0 (by omega)).2.1
      by_cases hp : rT s i 4 = 0
      · obtain ⟨b1, b2⟩ := bit_of hy (i := i) ⟨h0, by omega⟩
        obtain ⟨v, a1, a2⟩ := ih q (zor y (zshl 1 i)) (i + 1) (by omega) (by omega) (by omega) b2 fun x x0 x1 => by
          rw [b1 x x0 x1]
          by_cases e : x = i
          · rw [if_pos e, if_pos ⟨by omega, by rw [e]; exact hp⟩]
          · rw [if_neg e, hinv x x0 x1]
            by_cases e2 : x < i ∧ rT s x 4 = 0
            · rw [if_pos e2, if_pos ⟨by omega, e2.2⟩]
            · rw [if_neg e2, if_neg fun q => e2 ⟨by omega, q.2⟩]
        refine ⟨v, ?_, a2⟩
        show l_X11_off_4F _ y i d = _
        unfold l_X11_off_4F
        rw [zl_n, hU.1, if_neg (by omega), zg_t (by omega), zl_n, q4, if_pos hp, zl_n, zl_n, zl_n, zw_id (by omega) (by omega)]
        exact a1
      · obtain ⟨v, a1, a2⟩ := ih q y (i + 1) (by omega) (by omega) (by omega) hy fun x x0 x1 => by
          rw [hinv x x0 x1]
          by_cases e2 : x < i ∧ rT s x 4 = 0
          · rw [if_pos e2, if_pos ⟨by omega, e2.2⟩]
          · rw [if_neg e2, if_neg fun q => by
              by_cases e : x = i
              · exact hp (e ▸ q.2)
              · exact e2 ⟨by omega, q.2⟩]
        refine ⟨v, ?_, a2⟩
        show l_X11_off_4F _ y i d = _
        unfold l_X11_off_4F
        rw [zl_n, hU.1, if_neg (by omega), zg_t (by omega), zl_n, q4, if_neg hp, zl_n, zw_id (by omega) (by omega)]
        exact a1
  have := zF_big
  exact loop (s 0).toNat zF 0 0 (by omega) (by omega) (by omega) (by omega) fun x x0 x1 => by
    have h2 := bit_0 ⟨x.toNat, by omega⟩
    have e3 : ((x.toNat : Nat) : Int) = x := by omega
    dsimp only at h2
    rw [e3] at h2
    rw [h2, if_neg (by omega)]
theorem q_gap (h : LR d 30 s) : f_X11_gap d = some (s 2 - cSt s 0 - cSt s 1 - cSt s 2 - cSt s 3, d) := by
  obtain ⟨i0, i1, i2, i4, -⟩ := LR_2 h
  have sm := LR_s2 h
  have c0 := cSt_R (v := 0) i2
  have c1 := cSt_R (v := 1) i2
  have c2 := cSt_R (v := 2) i2
  have c3 := cSt_R (v := 3) i2
  have b1 := cSt_R (v := 0 + 1) i2
  have b2 := cSt_R (v := 0 + 1 + 1) i2
  have b3 := cSt_R (v := 0 + 1 + 1 + 1) i2
  unfold f_X11_gap
  rw [zl_n, sm]
  have st : ∀ (q : Nat) (x i : Int), i < 4 → 0 ≤ i → (-1000 ≤ x ∧ x ≤ 1000) → l_X11_gap_13 (q + 1) x i d = l_X11_gap_13 q (x - cSt s i) (i + 1) d := fun q x i h4 h0 hx => by
    have ci := cSt_R (v := i) i2
    show l_X11_gap_13F _ x i d = _
    unfold l_X11_gap_13F
    rw [if_neg (by omega), k_countIn h, zc_n, zl_n, zw_id (by omega) (by omega), zl_n, zw_id (by omega) (by omega)]
  show l_X11_gap_13 (99996 + 1 + 1 + 1 + 1) _ 0 d = _
  rw [st _ _ _ (by omega) (by omega) (by omega), st _ _ _ (by omega) (by omega) (by omega), st _ _ _ (by omega) (by omega) (by omega), st _ _ _ (by omega) (by omega) (by omega)]
  show l_X11_gap_13F _ _ _ d = _
  unfold l_X11_gap_13F
  rw [if_pos (by omega)]
  rfl
theorem q_sum (h : RC K L D0 d 30 s N) : cSt s 0 + cSt s 1 + cSt s 2 + cSt s 3 = s 2 := by
  obtain ⟨-, -, i2, -⟩ := RC_i h
  obtain ⟨-, -, -, -, -, -, -, -, -, -, -, -, -, hM, -⟩ := h
  have := cnt_4 (M := rM s) (s 2).toNat 0 fun y y0 y1 => (hM y y0 (by omega)).2.2.2.1
  unfold cSt
  omega
theorem q_mR (h : RC K L D0 d 30 s N) (hZ : ∀ c j, zR (d c j)) {m : Int} (hm : 0 ≤ m ∧ m < s 2) : zR (rM s m 0) ∧ zR (rM s m 1) ∧ zR (rM s m 2) ∧ zR (rM s m 3) ∧ zR (rM s m 4) ∧ zR (rM s m 5) ∧ zR (rM s m 6) ∧ zR (rM s m 7) := by
  obtain ⟨-, -, -, hM, -⟩ := h
  obtain ⟨a0, a1, a2, a4, a5, a6, q7⟩ := hM m hm.1 hm.2
  obtain ⟨a3, a7⟩ := q7 (fun _ _ _ h => by cases h)
  rw [← a0, ← a1, ← a2, ← a3, ← a4, ← a5, ← a6, ← a7]
  exact ⟨hZ _ _, hZ _ _, hZ _ _, hZ _ _, hZ _ _, hZ _ _, hZ _ _, hZ _ _⟩
theorem z_u {v : Int} (h : zR v) : v < 4294967296 := by
  have := h.2
  omega
/-- a message's time, place and state -/
theorem q_isMessage (h : RC K L D0 d 30 s N) (hZ : ∀ c j, zR (d c j)) {m : Int} (hm : 0 ≤ m ∧ m < s 2) : f_L_isMessage m d = some (1, d) := by
  obtain ⟨i0, -, i2, i3, iN⟩ := RC_i h
  obtain ⟨m0, m1, m2, m3, m4, m5, m6, m7⟩ := q_msg h hm
  obtain ⟨r0, r1, r2, r3, r4, r5, r6, r7⟩ := q_mR h hZ hm
  have hc3 := (q_count h).2.2.2.1
  have hin : ∀ {x r : Int}, 0 ≤ r ∧ r < 3 → 0 ≤ x ∧ x < s 0 → f_L_isInRow m x r d = some (if 0 < ord (rM s) r x m then 1 else 0, d) := fun {x r} hr hx => by
    rw [q_isInRow h hr hx]
    obtain ⟨-, -, -, -, -, -, hL, -⟩ := h
    have hiff := (hL r x hr.1 hr.2 hx.1 (by omega)).2 m
    by_cases e : m ∈ L r x
    · rw [if_pos e, if_pos (hiff.mp e).2]
    · rw [if_neg e, if_neg fun q => e (hiff.mpr ⟨hm, q⟩)]
  have hter : ∀ {x : Int}, 0 ≤ x ∧ x < s 0 → f_X11_terminal x 2 d = some (rT s x 2, d) := fun hx => (q_ter h hx).2.1
  obtain ⟨-, -, -, -, -, -, -, -, ⟨-, hJ, -⟩, -, -, -, hT, hM, -⟩ := h
  obtain ⟨j0, j1, j2, j3, j4, j5⟩ := hJ m hm.1 hm.2
  obtain ⟨e0, e1, e2, e3, e9, e10, ez, ey⟩ := hM m hm.1 hm.2
  generalize hS : rM s m 0 = S at *
  generalize hR : rM s m 1 = R at *
  generalize hl : rM s m 2 = l at *
  generalize hst : rM s m 3 = st at *
  generalize hp : rM s m 4 = p at *
  generalize htk : rM s m 5 = tk at *
  generalize hcm : rM s m 6 = cm at *
  generalize hgn : rM s m 7 = gn at *
  have o2 : R ≠ -1 → 0 ≤ R ∧ R < s 0 := fun q => by omega
  have in0 : st = 0 → f_L_isInRow m S 0 d = some (1, d) := fun q => by
    obtain ⟨-, -, -, g1, g2⟩ := j0 q
    rw [hin (by omega) (by omega)]
    unfold ord
    rw [if_pos rfl, if_pos hS, if_pos g2, if_pos (by omega)]
  have in1 : R ≠ -1 → st = 1 → f_L_isInRow m R 1 d = some (1, d) := fun q q1 => by
    obtain ⟨-, -, g1⟩ := (j3 q).1 q1
    rw [hin (by omega) (o2 q)]
    unfold ord
    rw [if_neg (show ¬ (1 : Int) = 0 by decide), if_pos hR, if_pos (show (1 : Int) = 1 from rfl), if_pos g1]
  have in2 : R ≠ -1 → f_L_isInRow m R 2 d = some (if 0 < rM s m 10 then 1 else 0, d) := fun q => by
    rw [hin (by omega) (o2 q)]
    unfold ord
    rw [if_neg (show ¬ (2 : Int) = 0 by decide), if_pos hR, if_neg (show ¬ (2 : Int) = 1 by decide)]
  have J245 : R ≠ -1 → j_L_isMessage_245 m R st cm gn d = some (1, d) := fun q => by
    unfold j_L_isMessage_245
    by_cases h3 : st < 3
    · rw [if_pos h3]
    · have h33 : st = 3 := by omega
      obtain ⟨-, -, g1, g2⟩ := j3 q
      obtain ⟨g2, g3⟩ := g2 h33
      have g1 := g1 (by omega)
      have gT := hT R (o2 q).1 (o2 q).2
      have gj := j1 (by omega)
      have := r4.1
      have := r5.1
      have := r6.1
      rw [if_neg h3, hter (o2 q), zc_n, zx_t (by omega), zl_n, zw_id (by omega) (by omega), if_neg (by omega), hc3, zc_n, zx_t (by omega), if_neg (by omega), in2 q, zc_n, j4 h33, if_neg (show ¬ (0 : Int) < 0 by decide), if_pos (show (0 : Int) = 0 from rfl)]
  have J221 : R ≠ -1 → j_L_isMessage_221 m R st cm gn d = some (1, d) := fun q => by
    unfold j_L_isMessage_221
    by_cases h2 : st = 2
    · obtain ⟨g1, g2⟩ := (j3 q).2.1 h2
      rw [if_pos h2, if_pos g1, in2 q, zc_n, if_pos g2, if_neg (show ¬ (1 : Int) = 0 by decide), J245 q]
    · rw [if_neg h2, J245 q]
  have J199 : R ≠ -1 → j_L_isMessage_199 m R st tk cm gn d = some (1, d) := fun q => by
    unfold j_L_isMessage_199
    by_cases h1 : st ≤ 1
    · rw [if_pos h1, J221 q]
    · have g1 := (j3 q).2.2.1 (by omega)
      have gj := j1 (by omega)
      have := r4.1
      have := r5.1
      rw [if_neg h1, m2, zc_n, zx_t (by omega), zl_n, zw_id (by omega) (by omega), if_pos g1, J221 q]
  have J124 : j_L_isMessage_124 m R st tk cm gn d = some (1, d) := by
    unfold j_L_isMessage_124
    by_cases hR1 : R = -1
    · rw [if_pos hR1]
      rcases j2 hR1 with q | ⟨q, q1, q2⟩
      · rw [if_pos q]
      · rw [if_neg (by omega), if_pos q, if_pos q1, if_pos q2]
    · rw [if_neg hR1]
      by_cases h1 : st = 1
      · obtain ⟨g1, g2, -⟩ := (j3 hR1).1 h1
        rw [if_pos h1, if_pos g1, if_pos g2, in1 hR1 h1, zc_n, if_neg (show ¬ (1 : Int) = 0 by decide), in2 hR1, zc_n, ey h1, if_neg (show ¬ (0 : Int) < 0 by decide), if_pos (show (0 : Int) = 0 from rfl), J199 hR1]
      · rw [if_neg h1, J199 hR1]
  have J83 : j_L_isMessage_83 m S R st tk cm gn d = some (1, d) := by
    unfold j_L_isMessage_83
    by_cases h0 : st ≤ 0
    · rw [if_pos h0, J124]
    · obtain ⟨g1, g2, g3⟩ := j1 (by omega)
      rw [if_neg h0, m4, zc_n, zx_t (by omega), if_neg (by omega)]
      by_cases hS1 : S = -1
      · rw [if_pos hS1, J124]
      · have g2 := g2 hS1
        have gp := r4.1
        rw [if_neg hS1, m4, zc_n, zx_t (by omega), m2, zc_n, zx_t (by omega), zl_n, zw_id (by omega) (by omega), if_pos g2, J124]
  unfold f_L_isMessage
  rw [m0, zc_n, zx_t (z_u r0), m1, zc_n, zx_t (z_u r1), m3, zc_n, zx_t (z_u r3), m5, zc_n, zx_t (z_u r5), m6, zc_n, zx_t (z_u r6), m7, zc_n, zx_t (z_u r7)]
  by_cases h0 : st = 0
  · obtain ⟨g1, g2, g3, -⟩ := j0 h0
    rw [if_pos h0, if_pos g1, if_pos g2, if_pos g3, in0 h0, zc_n, if_neg (show ¬ (1 : Int) = 0 by decide), J83]
  · rw [if_neg h0, J83]
theorem q_isTerminal (h : RC K L D0 d 30 s N) (hZ : ∀ c j, zR (d c j)) {x : Int} (hx : 0 ≤ x ∧ x < s 0) : f_L_isTerminal x d = some (1, d) := by
  obtain ⟨i0, -, i2, -⟩ := RC_i h
  obtain ⟨t1, t2, t3, t4, t5, t10, t11, t12, t13⟩ := q_ter h hx
  have l0 := q_len h (r := 0) (by omega) hx
  have l1 := q_len h (r := 1) (by omega) hx
  have l2 := q_len h (r := 2) (by omega) hx
  have l8 : f_X11_terminal x 8 d = some (((L 2 x).length : Int), d) := l2
  have b0 := q_L40 h (r := 0) (by omega) hx
  have b1 := q_L40 h (r := 1) (by omega) hx
  have b2 := q_L40 h (r := 2) (by omega) hx
  have g0 := q_rowMany h (r := 0) (by omega) hx
  have g1 := q_rowMany h (r := 1) (by omega) hx
  have g2 := q_rowMany h (r := 2) (by omega) hx
  have o0 := q_row h (x := x) (r := 0) (i := 0) (l1 := []) (l2 := L 0 x) (by omega) hx rfl rfl
  have o1 := q_row h (x := x) (r := 1) (i := 0) (l1 := []) (l2 := L 1 x) (by omega) hx rfl rfl
  have in0 : ∀ m, m ∈ L 0 x → 0 ≤ m ∧ m < s 2 := fun m hm => q_in h (by omega) hx hm
  have in1 : ∀ m, m ∈ L 1 x → 0 ≤ m ∧ m < s 2 := fun m hm => q_in h (by omega) hx hm
  have hms : ∀ m, 0 ≤ m ∧ m < s 2 → f_X11_message m 3 d = some (rM s m 3, d) ∧ 0 ≤ rM s m 3 ∧ rM s m 3 ≤ 3 := fun m hm => by
    refine ⟨(q_msg h hm).2.2.2.1, ?_⟩
    obtain ⟨-, -, -, -, -, -, -, -, -, -, -, -, -, hM, -⟩ := h
    exact (hM m hm.1 hm.2).2.2.2.1
  obtain ⟨vo, ho1, ho2⟩ := q_off h
  have ho2 := ho2 x hx.1 hx.2
  obtain ⟨-, -, hQ, -, -, -, -, -, ⟨hP, -, hJ⟩, -, ⟨-, -, -, -, -, -, -, -, hs8, -⟩, -, hT, -⟩ := h
  obtain ⟨p1, p2, p3, p4⟩ := hP x hx.1 hx.2
  obtain ⟨j1, j2, j3, j4, j5, j6⟩ := hJ x hx.1 hx.2
  obtain ⟨e0, e1, e2, e3, e4, e6, e7, e8, e9, e10⟩ := hT x hx.1 hx.2
  have q5 : zR (rT s x 5) := by rw [← (hQ x hx.1 hx.2).2.2.1]; exact hZ _ _
  have q5u := z_u q5
  have J182 : ∀ a : Int, j_L_isTerminal_182 x a a d = some (1, d) := fun a => by
    unfold j_L_isTerminal_182
    rw [if_pos rfl, t4, zc_n, zx_t (by omega)]
    by_cases h4 : rT s x 4 = 0
    · rw [if_pos h4]
    · have := j5 (by omega)
      rw [if_neg h4, t5, zc_n, zx_t q5u, if_neg (by omega)]
  -- what stands with the host
  have J154 : ∀ a : Int, j_L_isTerminal_154 x (if rT s x 8 = rT s x 7 then 0 else 1) (hd1 (L 1 x)) a a d = some (1, d) := fun a => by
    unfold j_L_isTerminal_154 j_L_isTerminal_181
    rw [if_pos rfl]
    cases hl : L 1 x with
    | nil =>
      rw [hl] at p4
      have : rT s x 8 = rT s x 7 := by
        by_cases e : rT s x 8 = rT s x 7
        · exact e
        · exact absurd rfl (p4 e)
      rw [if_pos (show hd1 [] = -1 from rfl), if_pos this, J182]
    | cons m l =>
      have hm := in1 m (by rw [hl]; exact List.mem_cons_self)
      obtain ⟨y1, y2⟩ := hms m hm
      obtain ⟨-, y3⟩ := p3 m l hl
      rw [show hd1 (m :: l) = m from rfl, if_neg (by omega), y1, zc_n, zx_t (by omega)]
      by_cases e : rT s x 8 = rT s x 7
      · have := y3 e
        rw [if_pos e, if_pos (by omega), J182]
      · have := j2 e m l hl
        rw [if_neg e, if_neg (by omega), J182]
  have J113 : j_L_isTerminal_113 x (if rT s x 6 = rT s x 9 then 0 else 1) (if rT s x 8 = rT s x 7 then 0 else 1) d = some (1, d) := by
    have hz1 : hd1 (L 1 x) < 4294967296 := by
      cases hl : L 1 x with
      | nil => decide
      | cons m l =>
        have := in1 m (by rw [hl]; exact List.mem_cons_self)
        show m < 4294967296
        omega
    unfold j_L_isTerminal_113 j_L_isTerminal_153
    rw [o0, zc_n]
    cases hl : L 0 x with
    | nil =>
      rw [hl] at p2
      have : rT s x 6 = rT s x 9 := by
        by_cases e : rT s x 6 = rT s x 9
        · exact e
        · exact absurd rfl (p2 e)
      rw [show hd1 [] = -1 from rfl, zx_t (by omega), o1, zc_n, zx_t hz1, if_pos rfl, if_pos this, J154]
    | cons m l =>
      have hm := in0 m (by rw [hl]; exact List.mem_cons_self)
      obtain ⟨y1, y2⟩ := hms m hm
      obtain ⟨-, y3⟩ := p1 m l hl
      rw [show hd1 (m :: l) = m from rfl, zx_t (by omega), o1, zc_n, zx_t hz1, if_neg (by omega), y1, zc_n, zx_t (by omega)]
      by_cases e : rT s x 6 = rT s x 9
      · have := y3 e
        rw [if_pos e, if_pos (by omega), J154]
      · have := j1 e m l hl
        rw [if_neg e, if_neg (by omega), J154]
  have J90 : j_L_isTerminal_90 x (if rT s x 6 = rT s x 9 then 0 else 1) d = some (1, d) := by
    unfold j_L_isTerminal_90
    rw [t12, zc_n, zx_t (by omega), t11, zc_n, zx_t (by omega)]
    by_cases e : rT s x 8 = rT s x 7
    · rw [if_pos e] at J113 ⊢
      exact J113
    · rw [if_neg e] at J113 ⊢
      exact J113
  have L3 : ∀ r2, l_L_isTerminal_2F r2 x 3 d = some (1, d) := fun r2 => by
    unfold l_L_isTerminal_2F
    rw [if_pos (by omega), l8, zc_n, zx_t (by omega), t1, zc_n, zx_t (by omega), if_neg (by omega), ho1, zc_n, zl_n, zl_n, ho2, t4, zc_n, zx_t (by omega), if_neg (by split <;> omega), t10, zc_n, zx_t (by omega), t13, zc_n, zx_t (by omega)]
    by_cases e : rT s x 6 = rT s x 9
    · rw [if_pos e] at J90 ⊢
      exact J90
    · rw [if_neg e] at J90 ⊢
      exact J90
  have st : ∀ (q : Nat) (r : Int), 0 ≤ r ∧ r < 3 → ((L r x).length : Int) ≤ 40 → f_X11_terminal x (6 + r) d = some (((L r x).length : Int), d) → f_L_rowMany x r d = some (((L r x).length : Int), d) → l_L_isTerminal_2 (q + 1) x r d = l_L_isTerminal_2 q x (r + 1) d := fun q r hr hb hl hg => by
    show l_L_isTerminal_2F _ x r d = _
    unfold l_L_isTerminal_2F
    rw [if_neg (by omega), zl_n, zw_id (by omega) (by omega), hl, zc_n, zx_t (by omega), hg, zc_n, if_pos rfl, zl_n, zw_id (by omega) (by omega)]
  show l_L_isTerminal_2 (99996 + 1 + 1 + 1 + 1) x 0 d = _
  refine (st _ _ (by omega) b0 l0 g0).trans ((st _ _ (by omega) b1 l1 g1).trans ((st _ _ (by omega) b2 l2 g2).trans ?_))
  exact L3 _
theorem q_isSound (h : RC K L D0 d 30 s (1000 * s 4 + s 2)) (hz : RZ L (s 0) (s 3) (rT s)) (hZ : ∀ c j, zR (d c j)) : f_L_isSound d = some (1, d) := by
  have hl : LR d 30 s := ⟨K, L, h, hz⟩
  obtain ⟨i0, -, i2, i3, iN⟩ := RC_i h
  have hF := zF_big
  have hs := q_sum h
  obtain ⟨c0, c1, c2, c3, -⟩ := q_count h
  have n0 := cSt_R (v := 0) i2
  have n1 := cSt_R (v := 1) i2
  have n2 := cSt_R (v := 2) i2
  have n3 := cSt_R (v := 3) i2
  have a0 := q_account h (x := 0) (by omega)
  have a1 := q_account h (x := 1) (by omega)
  obtain ⟨ai, aj, ak⟩ := RC_ai h
  have lt : ∀ (k q : Nat) (x : Int), 0 ≤ x → x + k = s 0 → k < q → l_L_isSound_85 q x d = some (1, d) := by
    intro k
    induction k with
    | zero =>
      intro q x x0 xk hq
      obtain ⟨q, rfl⟩ : ∃ q0, q = q0 + 1 := ⟨q - 1, by omega⟩
      show l_L_isSound_85F _ x d = _
      unfold l_L_isSound_85F
      rw [c0, zc_n, zx_t (by omega), if_pos (by omega)]
    | succ k ih =>
      intro q x x0 xk hq
      obtain ⟨q, rfl⟩ : ∃ q0, q = q0 + 1 := ⟨q - 1, by omega⟩
      show l_L_isSound_85F _ x d = _
      unfold l_L_isSound_85F
      rw [c0, zc_n, zx_t (by omega), if_neg (by omega), q_isTerminal h hZ ⟨x0, by omega⟩, zc_n, if_neg (by decide), zl_n, zw_id (by omega) (by omega)]
      exact ih q (x + 1) (by omega) (by omega) (by omega)
  have lm : ∀ (k q : Nat) (x : Int), 0 ≤ x → x + k = s 2 → k < q → l_L_isSound_58 q x d = some (1, d) := by
    intro k
    induction k with
    | zero =>
      intro q x x0 xk hq
      obtain ⟨q, rfl⟩ : ∃ q0, q = q0 + 1 := ⟨q - 1, by omega⟩
      show l_L_isSound_58F _ x d = _
      unfold l_L_isSound_58F
      rw [c2, zc_n, zx_t (by omega), if_pos (by omega)]
      exact lt (s 0).toNat zF 0 (by omega) (by omega) (by omega)
    | succ k ih =>
      intro q x x0 xk hq
      obtain ⟨q, rfl⟩ : ∃ q0, q = q0 + 1 := ⟨q - 1, by omega⟩
      show l_L_isSound_58F _ x d = _
      unfold l_L_isSound_58F
      rw [c2, zc_n, zx_t (by omega), if_neg (by omega), q_isMessage h hZ ⟨x0, by omega⟩, zc_n, if_neg (by decide), zl_n, zw_id (by omega) (by omega)]
      exact ih q (x + 1) (by omega) (by omega) (by omega)
  have st : ∀ (q : Nat) (y v : Int), 0 ≤ v ∧ v ≤ 3 → 0 ≤ y ∧ y ≤ 1000 → l_L_isSound_5 (q + 1) y (6 + v) d = l_L_isSound_5 q (y + cSt s v) (6 + (v + 1)) d := fun q y v hv hy => by
    have hc := cSt_R (v := v) i2
    show l_L_isSound_5F _ y (6 + v) d = _
    unfold l_L_isSound_5F
    rw [if_neg (by omega), q_in3 hl hv, zc_n, zx_t (by omega), zl_n, zl_n, zw_id (x := y + cSt s v) (by omega) (by omega), zw_id (by omega) (by omega), show 6 + v + 1 = 6 + (v + 1) by omega]
  show l_L_isSound_5 (99996 + 1 + 1 + 1 + 1) 0 (6 + 0) d = _
  rw [st _ _ _ (by omega) (by omega), st _ _ _ (by omega) (by omega), show (0 : Int) + 1 + 1 = 2 from rfl, show (0 : Int) + 1 = 1 from rfl, st _ _ _ (by omega) (by omega), show (2 : Int) + 1 = 3 from rfl, st _ _ _ (by omega) (by omega)]
  show l_L_isSound_5F _ _ 10 d = _
  unfold l_L_isSound_5F
  rw [if_pos (by omega), c2, zc_n, zx_t (by omega), if_pos (by omega), q_gap hl, zc_n, if_pos (by omega)]
  rw [a1, zc_n, zx_t (by show s 13 < _; omega), a0, zc_n, zx_t (by show s 12 < _; omega), if_pos (show s (12 + 1 : Int).toNat ≤ s (12 + 0 : Int).toNat from aj)]
  exact lm (s 2).toNat zF 0 (by omega) (by omega) (by omega)
end ASK
