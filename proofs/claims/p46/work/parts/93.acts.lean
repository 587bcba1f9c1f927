/-! What is done to a line. -/
def cel (V : zW) (k : Int) : Int := if ((zqn V : Nat) : Int) ≤ k then zw (zw (8191 * k) + 131071) else zqf V k.toNat
def drw (V : zW) (k lo hi : Int) : Int := lo + zrem (zand (cel V k) 2147483647) (hi - lo + 1)
theorem zand_top (y : Int) : 0 ≤ zand y 2147483647 ∧ zand y 2147483647 ≤ 2147483647 := by
  have h : ∀ b : BitVec 32, 0 ≤ (b &&& 2147483647#32).toInt ∧ (b &&& 2147483647#32).toInt ≤ 2147483647 := fun b => by
    have h1 : (b &&& 2147483647#32).msb = false := by
      rw [BitVec.msb_and]
      rw [show (2147483647#32).msb = false from by decide, Bool.and_false]
    rw [BitVec.toInt_eq_toNat_of_msb h1]
    have := BitVec.isLt (b &&& 2147483647#32)
    rw [BitVec.msb_eq_decide] at h1
    have h2 := of_decide_eq_false h1
    omega
  exact h (zI y).toBitVec
theorem drw_R {V : zW} {k lo hi : Int} (h : -1000000 ≤ lo ∧ lo ≤ hi ∧ hi ≤ 1000000) : lo ≤ drw V k lo hi ∧ drw V k lo hi ≤ hi := by
  have h1 := zand_top (cel V k)
  unfold drw
  rw [zrem_of _ _ (by omega) (by omega) (by omega) (by omega)]
  have h2 := Int.emod_nonneg (zand (cel V k) 2147483647) (show hi - lo + 1 ≠ 0 by omega)
  have h3 := Int.emod_lt_of_pos (zand (cel V k) 2147483647) (show 0 < hi - lo + 1 by omega)
  omega
theorem q_draw {V : zW} {k lo hi : Int} {d : zD} (hk : 0 ≤ k) (h : -1000000 ≤ lo ∧ lo ≤ hi ∧ hi ≤ 1000000) : f_L_draw V k lo hi d = some (drw V k lo hi, d) := by
  have hc : f_L_cell V k d = some (cel V k, d) := by
    unfold f_L_cell cel
    rw [zl_n]
    by_cases h1 : ((zqn V : Nat) : Int) ≤ k
    · rw [if_pos h1, if_pos h1, zl_n, zl_n]
    · rw [if_neg h1, if_neg h1, zg_t ⟨hk, by omega⟩, zl_n]
  have hR := drw_R (V := V) (k := k) h
  unfold f_L_draw
  rw [hc, zc_n, zl_n, zl_n, zw_id (x := hi - lo) (by omega) (by omega), zl_n, zw_id (by omega) (by omega), zn_t (by omega), zl_n, zl_n]
  show some (zw (drw V k lo hi), d) = _
  rw [zw_id (by omega) (by omega)]
def SA (s s' : Nat → Int) : Prop := s' 0 = s 0 ∧ s' 4 = s 4 ∧ s 2 ≤ s' 2 ∧ s' 2 ≤ s 2 + 1
theorem SA.rf {s : Nat → Int} : SA s s := ⟨rfl, rfl, by omega, by omega⟩
theorem LR_m {d : zD} {b : Nat} {s : Nat → Int} (h : LR d b s) : d 1 0 = s 0 := by
  obtain ⟨K, L, h, -⟩ := h
  obtain ⟨-, -, -, -, -, -, -, -, -, -, -, -, -, -, hU, -⟩ := h
  exact hU.1
section ACT
variable {d ds : zD}
theorem A_life {x v : Int} (hg : GR d ds) (hx : 0 ≤ x ∧ x < ds 401 0) (hv : v = 0 ∨ v = 1) : ∃ w d1 d2 ds', f_X0_remember 30 d = some (0, d1) ∧ f_X2_setLife 30 x v d1 = some (w, d2) ∧ (w = 0 ∨ w = 1) ∧ GR d2 ds' ∧ SA (ds 401) (ds' 401) := by
  obtain ⟨d1, s1, a1, a2, a3, a4, a5, a6⟩ := R_keep hg
  have e0 : s1 401 = ds 401 := a5 401 (by omega) (by omega)
  obtain ⟨w, d2, s2, b1, b2, b3, b4, b5, b6, b7⟩ := R_life (v := v) (x := x) a3.1 (by rw [e0]; exact hx) hv
  rw [e0] at b5
  refine ⟨w, d1, d2, s2, a1, b1, b3, GR_line a3 (fun c c1 c2 => b6 c (by omega)) (fun c c1 c2 => b7 c c2) (fun j _ _ _ => by rw [b7 400 (by omega)]) b4 (by rw [b5.1]; exact hg.2.1), ?_, b5.1, by omega, by omega⟩
  rw [← LR_m b4, b6 1 (by omega), a4 1 (by omega) (by omega), LR_m hg.1]
theorem A_has {x : Int} (hg : GR d ds) (hx : 0 ≤ x ∧ x < ds 401 0) : f_X6_has 1 x d = some (1, d) := by
  rw [e_has6, if_pos (by rw [LR_m hg.1]; exact hx)]
theorem A_kill {x : Int} (hg : GR d ds) (hx : 0 ≤ x ∧ x < ds 401 0) : ∃ v d' ds', f_X11_kill x d = some (v, d') ∧ v < 4294967296 ∧ GR d' ds' ∧ SA (ds 401) (ds' 401) := by
  obtain ⟨w, d1, d2, ds', h1, h2, h3, h4, h5⟩ := A_life hg hx (Or.inl (rfl : (0 : Int) = 0))
  refine ⟨w, d2, ds', ?_, by omega, h4, h5⟩
  unfold f_X11_kill
  rw [A_has hg hx, zc_n, if_neg (show ¬ (1 : Int) = 0 by decide), h1, zc_n, h2, zc_n]
theorem A_wake {x : Int} (hg : GR d ds) (hx : 0 ≤ x ∧ x < ds 401 0) : ∃ v d' ds', f_X11_wake x d = some (v, d') ∧ v < 4294967296 ∧ GR d' ds' ∧ SA (ds 401) (ds' 401) := by
  obtain ⟨w, d1, d2, ds', h1, h2, h3, h4, h5⟩ := A_life hg hx (Or.inr (rfl : (1 : Int) = 1))
  refine ⟨w, d2, ds', ?_, by omega, h4, h5⟩
  unfold f_X11_wake
  rw [A_has hg hx, zc_n, if_neg (show ¬ (1 : Int) = 0 by decide), h1, zc_n, h2, zc_n]
theorem A_addPlace {x : Int} (hg : GR d ds) (hx : 0 ≤ x ∧ x < ds 401 0) (hn : ds 401 1 < 16) : ∃ v d' ds', f_X11_addPlace x d = some (v, d') ∧ v < 4294967296 ∧ GR d' ds' ∧ SA (ds 401) (ds' 401) := by
  obtain ⟨-, -, s8, -⟩ := LR_10 hg.1
  obtain ⟨d1, s1, a1, a2, a3, a4, a5, a6⟩ := R_keep hg
  have e0 : s1 401 = ds 401 := a5 401 (by omega) (by omega)
  obtain ⟨d2, s2, b1, b2, b3, b4, b5, b6, b7⟩ := R_addPlace (x := x) a3.1 (by rw [e0]; exact hx) (by rw [e0]; exact hn)
  rw [e0] at b4 b5
  refine ⟨ds 401 1 + 1, d2, s2, ?_, by omega, GR_line a3 (fun c c1 c2 => b6 c (by omega)) (fun c c1 c2 => b7 c c2) (fun j _ _ _ => by rw [b7 400 (by omega)]) b3 (by rw [b5.1]; exact hg.2.1), ?_, b5.1, by omega, by omega⟩
  · unfold f_X11_addPlace
    rw [A_has hg hx, zc_n, if_neg (show ¬ (1 : Int) = 0 by decide), zl_n, s8, if_pos hn, a1, zc_n, b1, zc_n, zl_n, b4]
  · rw [← LR_m b3, b6 1 (by omega), a4 1 (by omega) (by omega), LR_m hg.1]
theorem A_dropPlace {x : Int} (hg : GR d ds) (hx : 0 ≤ x ∧ x < ds 401 1) : ∃ v d' ds', f_X11_dropPlace x d = some (v, d') ∧ v < 4294967296 ∧ GR d' ds' ∧ SA (ds 401) (ds' 401) := by
  obtain ⟨i0, i1, -⟩ := LR_2 hg.1
  obtain ⟨-, -, s8, -⟩ := LR_10 hg.1
  obtain ⟨d1, s1, a1, a2, a3, a4, a5, a6⟩ := R_keep hg
  have e0 : s1 401 = ds 401 := a5 401 (by omega) (by omega)
  obtain ⟨d2, s2, b1, b2, b3, b5, b6, b7⟩ := R_dropPlace (x := x) a3.1 (by rw [e0]; exact hx)
  have hl := LR_l a3.1 x hx.1 (by rw [e0]; exact hx.2)
  rw [e0] at b5 hl
  refine ⟨ds 401 (30 + x).toNat, d2, s2, ?_, by omega, GR_line a3 (fun c c1 c2 => b6 c (by omega)) (fun c c1 c2 => b7 c c2) (fun j _ _ _ => by rw [b7 400 (by omega)]) b3 (by rw [b5.1]; exact hg.2.1), ?_, b5.1, by omega, by omega⟩
  · unfold f_X11_dropPlace f_X2_hasPlace
    rw [if_neg (by omega), zl_n, s8, if_neg (by omega), zc_n, if_neg (show ¬ (1 : Int) = 0 by decide), a1, zc_n, zg_t (by omega), zl_n, hl.1, b1, zc_n]
  · rw [← LR_m b3, b6 1 (by omega), a4 1 (by omega) (by omega), LR_m hg.1]
theorem A_post {a r l : Int} (hg : GR d ds) (hs2 : ds 401 2 < 40) (har : (-1 ≤ a ∧ a < ds 401 0) ∧ -1 ≤ r ∧ r < ds 401 0) (hne : a ≠ r) (hl : 1 ≤ l ∧ l ≤ 20) : ∃ v d' ds', f_X11_post a r l d = some (v, d') ∧ v < 4294967296 ∧ GR d' ds' ∧ SA (ds 401) (ds' 401) := by
  obtain ⟨i0, i1, i2, -⟩ := LR_2 hg.1
  have sm := LR_s2 hg.1
  obtain ⟨d1, s1, a1, a2, a3, a4, a5, a6⟩ := R_keep hg
  have e0 : s1 401 = ds 401 := a5 401 (by omega) (by omega)
  obtain ⟨d2, s2, b1, b2, b3, b5, b6, b7⟩ := R_post (a := a) (r := r) (len := l) a3.1 (by rw [e0]; omega) (by rw [e0]; exact har) hne hl
  rw [e0] at b1 b5
  have cw : ∀ x : Int, -1 ≤ x ∧ x < ds 401 0 → f_X11_isParty x d = some (1, d) := fun x hx => by
    unfold f_X11_isParty
    by_cases h1 : x = -1
    · rw [if_pos h1]
    · rw [if_neg h1, A_has hg (by omega), zc_n, if_neg (show ¬ (1 : Int) = 0 by decide)]
  refine ⟨ds 401 2, d2, s2, ?_, by omega, GR_line a3 (fun c c1 c2 => b6 c (by omega)) (fun c c1 c2 => b7 c c2) (fun j _ _ _ => by rw [b7 400 (by omega)]) b3 (by rw [b5.1]; exact hg.2.1), ?_, b5.1, by omega, by omega⟩
  · unfold f_X11_post f_X3_isFull
    rw [cw a har.1, zc_n, if_neg (show ¬ (1 : Int) = 0 by decide), cw r har.2, zc_n, if_neg (show ¬ (1 : Int) = 0 by decide), if_neg (by omega), if_neg (by omega), if_pos (by omega), zl_n, sm, if_pos (by omega), zc_n, if_pos rfl, a1, zc_n, b1, zc_n]
  · rw [← LR_m b3, b6 1 (by omega), a4 1 (by omega) (by omega), LR_m hg.1]
theorem A_c1 (hg : GR d ds) : f_X11_count 1 d = some (ds 401 1, d) := by
  obtain ⟨K, L, hr, -⟩ := GR_L hg
  exact (q_count hr).2.1
theorem q_acts {V : zW} {k many : Int} (hg : GR d ds) (hm : ds 401 0 = many) (h2 : ds 401 2 < 40) (hk : 0 ≤ k ∧ k ≤ 100000) : ∃ d' ds', f_L_acts V k many d = some (0, d') ∧ GR d' ds' ∧ SA (ds 401) (ds' 401) := by
  obtain ⟨i0, i1, i2, -⟩ := LR_2 hg.1
  have r0 := drw_R (V := V) (k := k) (lo := 0) (hi := 7) (by omega)
  have r1 := drw_R (V := V) (k := k + 1) (lo := -1) (hi := many - 1) (by omega)
  have r2 := drw_R (V := V) (k := k + 2) (lo := -1) (hi := many - 1) (by omega)
  have r3 := drw_R (V := V) (k := k + 3) (lo := 1) (hi := 12) (by omega)
  have D0 := q_draw (V := V) (k := k) (lo := 0) (hi := 7) (d := d) hk.1 (by omega)
  have D1 := q_draw (V := V) (k := k + 1) (lo := -1) (hi := many - 1) (d := d) (by omega) (by omega)
  have D2 := q_draw (V := V) (k := k + 2) (lo := -1) (hi := many - 1) (d := d) (by omega) (by omega)
  have D3 := q_draw (V := V) (k := k + 3) (lo := 1) (hi := 12) (d := d) (by omega) (by omega)
  generalize drw V k 0 7 = w at *
  generalize drw V (k + 1) (-1) (many - 1) = a at *
  generalize drw V (k + 2) (-1) (many - 1) = b at *
  generalize drw V (k + 3) 1 12 = n at *
  have J140n : ∀ d, w ≠ 7 → j_L_acts_140 V k w d = some (0, d) := fun d h => by
    unfold j_L_acts_140
    rw [if_neg h]
  have J140 : ∃ d' ds', j_L_acts_140 V k w d = some (0, d') ∧ GR d' ds' ∧ SA (ds 401) (ds' 401) := by
    by_cases h : w = 7
    · unfold j_L_acts_140
      by_cases h1 : ds 401 1 ≤ 1
      · refine ⟨d, ds, ?_, hg, SA.rf⟩
        rw [if_pos h, A_c1 hg, zc_n, zx_t (by omega), if_pos h1]
      · have r4 := drw_R (V := V) (k := k + 3) (lo := 0) (hi := ds 401 1 - 1) (by omega)
        have D4 := q_draw (V := V) (k := k + 3) (lo := 0) (hi := ds 401 1 - 1) (d := d) (by omega) (by omega)
        obtain ⟨v, d', ds', e1, e2, e3, e4⟩ := A_dropPlace (x := drw V (k + 3) 0 (ds 401 1 - 1)) hg (by omega)
        refine ⟨d', ds', ?_, e3, e4⟩
        rw [if_pos h, A_c1 hg, zc_n, zx_t (by omega), if_neg h1, zl_n, zw_id (by omega) (by omega), A_c1 hg, zc_n, zx_t (by omega), zl_n, zw_id (by omega) (by omega), D4, zc_n, e1, zc_n, zx_t e2]
    · exact ⟨d, ds, J140n d h, hg, SA.rf⟩
  have J110n : ∀ d, w ≠ 7 → w ≠ 6 → j_L_acts_110 V k w a d = some (0, d) := fun d h h6 => by
    unfold j_L_acts_110
    rw [if_neg h6, J140n d h]
  have J110 : ∃ d' ds', j_L_acts_110 V k w a d = some (0, d') ∧ GR d' ds' ∧ SA (ds 401) (ds' 401) := by
    unfold j_L_acts_110
    by_cases h : w = 6
    · rw [if_pos h]
      by_cases ha : a < 0
      · rw [if_pos ha]; exact J140
      · rw [if_neg ha, A_c1 hg, zc_n, zx_t (by omega)]
        by_cases h1 : 16 ≤ ds 401 1
        · rw [if_pos h1]; exact J140
        · obtain ⟨v, d', ds', e1, e2, e3, e4⟩ := A_addPlace (x := a) hg (by omega) (by omega)
          exact ⟨d', ds', by rw [if_neg h1, e1, zc_n, zx_t e2, J140n d' (by omega)], e3, e4⟩
    · rw [if_neg h]; exact J140
  have J91n : ∀ d, w ≠ 7 → w ≠ 6 → w ≠ 5 → j_L_acts_91 V k w a d = some (0, d) := fun d h h6 h5 => by
    unfold j_L_acts_91
    rw [if_neg h5, J110n d h h6]
  have J91 : ∃ d' ds', j_L_acts_91 V k w a d = some (0, d') ∧ GR d' ds' ∧ SA (ds 401) (ds' 401) := by
    unfold j_L_acts_91
    by_cases h : w = 5
    · rw [if_pos h]
      by_cases ha : a < 0
      · rw [if_pos ha]; exact J110
      · obtain ⟨v, d', ds', e1, e2, e3, e4⟩ := A_wake (x := a) hg (by omega)
        exact ⟨d', ds', by rw [if_neg ha, e1, zc_n, zx_t e2, J110n d' (by omega) (by omega)], e3, e4⟩
    · rw [if_neg h]; exact J110
  have J72n : ∀ d, w < 4 → j_L_acts_72 V k w a d = some (0, d) := fun d h => by
    unfold j_L_acts_72
    rw [if_neg (by omega), J91n d (by omega) (by omega) (by omega)]
  have J72 : ∃ d' ds', j_L_acts_72 V k w a d = some (0, d') ∧ GR d' ds' ∧ SA (ds 401) (ds' 401) := by
    unfold j_L_acts_72
    by_cases h : w = 4
    · rw [if_pos h]
      by_cases ha : a < 0
      · rw [if_pos ha]; exact J91
      · obtain ⟨v, d', ds', e1, e2, e3, e4⟩ := A_kill (x := a) hg (by omega)
        exact ⟨d', ds', by rw [if_neg ha, e1, zc_n, zx_t e2, J91n d' (by omega) (by omega) (by omega)], e3, e4⟩
    · rw [if_neg h]; exact J91
  have head : f_L_acts V k many d = if 4 ≤ w then j_L_acts_72 V k w a d else if a = b then j_L_acts_72 V k w a d else zc (f_X11_post a b n d) fun v67 d => zx v67 (j_L_acts_72 V k w a d) := by
    unfold f_L_acts
    rw [D0, zc_n, zl_n, zl_n, zw_id (x := k + 1) (by omega) (by omega), zw_id (x := many - 1) (by omega) (by omega), D1, zc_n, zl_n, zl_n, zw_id (x := k + 2) (by omega) (by omega), D2, zc_n, zl_n, zw_id (x := k + 3) (by omega) (by omega), D3, zc_n]
  rw [head]
  by_cases h4 : 4 ≤ w
  · rw [if_pos h4]; exact J72
  · rw [if_neg h4]
    by_cases hab : a = b
    · rw [if_pos hab]; exact J72
    · obtain ⟨v, d', ds', e1, e2, e3, e4⟩ := A_post (a := a) (r := b) (l := n) hg h2 (by omega) hab (by omega)
      exact ⟨d', ds', by rw [if_neg hab, e1, zc_n, zx_t e2, J72n d' (by omega)], e3, e4⟩
end ACT
