/-! What would be is worked out on a copy. -/
def sLo (k : Nat) : Int := if k < 3 then 1 else 0
def sHi (k : Nat) : Int := if k = 0 ∨ k = 3 then 20 else if k = 5 then 99 else 5
theorem P_trial {dc ds : zD} (h : GR dc ds) : ∃ dc1 ds1, f_X2_copyFrom 60 30 dc = some (0, dc1) ∧ f_X12_trial ds = some (0, ds1) ∧ LR dc1 60 (ds1 401) ∧ ds1 401 = ds 401 ∧ (∀ j, j < 800 → ds1 407 j = ds 401 j) ∧ (∀ c, c ≠ 407 → ds1 c = ds c) ∧ (∀ c, c < 60 ∨ 90 ≤ c → dc1 c = dc c) := by
  obtain ⟨dc1, r1, r2, r3⟩ := R_copy (d := dc) (b := 60) h.1 (by omega) (by omega)
  obtain ⟨ds1, q1, q2, q3⟩ := e_copies (a0 := 401) (n0 := 800) (a2 := 407) (n2 := 800) (p := 0) (t := 0) (m := 800) (d := ds) (by omega) (by omega) (Or.inl (by omega)) (by omega) (by omega)
  have q1' : f_X12_copies 401 800 407 800 0 0 800 ds = some (0, ds1) := q1
  refine ⟨dc1, ds1, r1, ?_, by rw [q2 401 (by omega)]; exact r3, q2 401 (by omega), fun j hj => ?_, q2, r2⟩
  · unfold f_X12_trial
    rw [q1', zc_n]
  · rw [q3, if_pos (by omega), show 0 + (j - 0) = j by omega]
theorem P_back {ds1 : zD} {v : Int} : ∃ ds2, f_X12_back v ds1 = some (v, ds2) ∧ (∀ k, k < 800 → ds2 401 k = ds1 407 k) ∧ Fs ds1 ds2 := by
  obtain ⟨ds2, q1, q2, q3⟩ := e_copies (a0 := 407) (n0 := 800) (a2 := 401) (n2 := 800) (p := 0) (t := 0) (m := 800) (d := ds1) (by omega) (by omega) (Or.inl (by omega)) (by omega) (by omega)
  have q1' : f_X12_copies 407 800 401 800 0 0 800 ds1 = some (0, ds2) := q1
  refine ⟨ds2, ?_, fun j hj => ?_, q2⟩
  · unfold f_X12_back
    rw [q1', zc_n]
  · rw [q3, if_pos (by omega), show 0 + (j - 0) = j by omega]
/-- the end of a prediction -/
theorem P_end {dc ds dc1 ds1 dc2 ds2 : zD} (h : GR dc ds) (c1 : ∀ j, j < 800 → ds1 407 j = ds 401 j) (c2 : ∀ c, c ≠ 407 → c ≠ 401 → ds1 c = ds c) (c3 : ∀ c, c < 60 ∨ 90 ≤ c → dc1 c = dc c) (f1 : Fg 7 60 dc1 dc2) (f2 : Ft ds1 ds2) {v : Int} : ∃ ds3, f_X12_back v ds2 = some (v, ds3) ∧ GR dc2 ds3 ∧ Fc dc dc2 ∧ Fm ds ds3 ∧ ds3 400 0 = ds 400 0 := by
  obtain ⟨ds3, q1, q2, q3⟩ := P_back (ds1 := ds2) (v := v)
  have hc : ∀ c, c ≠ 6 → c ≠ 7 → c < 60 ∨ 90 ≤ c → dc2 c = dc c := fun c c1 c2 c4 => by rw [f1 c c2 (by omega), c3 c c4]
  have hs : ∀ c, c ≠ 400 → c ≠ 401 → c ≠ 407 → ds3 c = ds c := fun c k1 k2 k3 => by rw [q3 c k2, f2.1 c k2 k1, c2 c k3 k2]
  refine ⟨ds3, q1, ?_, fun c hc => by rw [f1 c (by omega) (by omega), c3 c (by omega)], fun c hc => hs c (by omega) (by omega) (by omega), ?_⟩
  · refine GR_d (GR_s h hs (fun k hk => ?_) fun j j0 j7 j8 j9 => ?_) hc
    · rw [q2 k hk, f2.1 407 (by omega) (by omega), c1 k hk]
    · rw [q3 400 (by omega), f2.2 j j7 j8 j9, c2 400 (by omega) (by omega)]
  · rw [q3 400 (by omega), f2.2 0 (by omega) (by omega) (by omega), c2 400 (by omega) (by omega)]
theorem G_noA0 {mc mr : zD → Option (Int × zD)} {dc ds : zD} (hg : GR dc ds) (h1 : mc dc = some (4294967296 + 0, dc)) (h2 : mr ds = some (0, zu ds 400 0 1)) : ∃ v dc' v' ds', mc dc = some (v, dc') ∧ mr ds = some (v', ds') ∧ GR dc' ds' ∧ Fc dc dc' ∧ Fm ds ds' ∧ GX [0] v v' (ds' 400 0) := GO_q hg h1 h2 (Or.inr ⟨0, 0, rfl, rfl, rfl⟩)
theorem cSt_z {s : Nat → Int} {v : Int} (h : 0 ≤ s 2 ∧ s 2 ≤ 40) : zR (cSt s v) := by
  have := cSt_R (v := v) h
  exact ⟨by omega, by omega⟩
theorem G_deliveredIn (x : Int) : GO [0] (f_X11_deliveredIn x) (f_X12_deliveredIn x) := by
  intro dc ds hg hR
  by_cases hx : 0 ≤ x ∧ x ≤ 100
  · have hg0 := GR_0 (t := 0) hg
    obtain ⟨dc1, ds1, a1, a2, a3, a4, a5, a6, a7⟩ := P_trial hg0
    obtain ⟨i0, i1, i2, i4, -⟩ := LR_2 a3
    obtain ⟨dc2, ds2, b1, b2, b3, b4, b5, b6, b7⟩ := R_run (g := 7) a3 (by omega) (n := x) (by omega) (by rw [a4, zu_row (by omega)]; have := hg.2.1; omega)
    obtain ⟨j0, j1, j2, j4, -⟩ := LR_2 b3
    obtain ⟨ds3, e1, e2, e3, e4, e5⟩ := P_end (v := cSt (ds2 401) 3) hg0 a5 (fun c h1 _ => a6 c h1) a7 b5 b6
    refine ⟨cSt (ds2 401) 3, dc2, cSt (ds2 401) 3, ds3, ?_, ?_, e2, e3, Fm.tr (Fm.u (by omega)) e4, ?_⟩
    · unfold f_X11_deliveredIn
      rw [if_neg (by omega), if_pos hx.2, a1, zc_n, b1, zc_n, k_delivered b3, zc_n]
    · unfold f_X12_deliveredIn f_X12_deliveredBy
      rw [e_isIn, zc_n, if_pos hx, e_may11, zc_n, if_neg (show ¬ (1 : Int) = 0 by decide), a2, zc_n, b2, zc_n, e_inState j2, zc_n, e1, zc_n, zc_n]
    · rw [e5, zu_eq]; exact GX_ok rfl (cSt_z j2)
  · refine G_noA0 hg ?_ ?_
    · unfold f_X11_deliveredIn j_X11_deliveredIn_10
      by_cases h0 : x < 0
      · rw [if_pos h0]
      · rw [if_neg h0, if_neg (by omega)]
    · unfold f_X12_deliveredIn
      rw [e_isIn, zc_n, if_neg hx, e_may0, zc_n, if_pos (show (0 : Int) = 0 from rfl)]
theorem G_timeIn (x : Int) : GO [0] (f_X11_timeIn x) (f_X12_timeIn x) := by
  intro dc ds hg hR
  by_cases hx : 0 ≤ x ∧ x ≤ 100
  · have hg0 := GR_0 (t := 0) hg
    obtain ⟨dc1, ds1, a1, a2, a3, a4, a5, a6, a7⟩ := P_trial hg0
    obtain ⟨dc2, ds2, b1, b2, b3, b4, b5, b6, b7⟩ := R_run (g := 7) a3 (by omega) (n := x) (by omega) (by rw [a4, zu_row (by omega)]; have := hg.2.1; omega)
    obtain ⟨ds3, e1, e2, e3, e4, e5⟩ := P_end (v := ds2 401 3) hg0 a5 (fun c h1 _ => a6 c h1) a7 b5 b6
    obtain ⟨K2, L2, h2, -⟩ := b3
    obtain ⟨-, -, -, ⟨t0, t1⟩, tN⟩ := RC_i h2
    obtain ⟨⟨-, s9, -⟩, -⟩ := h2
    refine ⟨ds2 401 3, dc2, ds2 401 3, ds3, ?_, ?_, e2, e3, Fm.tr (Fm.u (by omega)) e4, ?_⟩
    · unfold f_X11_timeIn
      rw [if_neg (by omega), if_pos hx.2, a1, zc_n, b1, zc_n, zl_n, s9]
    · unfold f_X12_timeIn
      rw [e_isIn, zc_n, if_pos hx, e_may11, zc_n, if_neg (show ¬ (1 : Int) = 0 by decide), a2, zc_n, b2, zc_n, zg_t (by omega), zl_n]
      show zc (f_X12_back (ds2 401 3) ds2) _ = _
      rw [e1, zc_n]
    · rw [e5, zu_eq]; exact GX_ok rfl (zR_s (by omega) (by omega))
  · refine G_noA0 hg ?_ ?_
    · unfold f_X11_timeIn j_X11_timeIn_10
      by_cases h0 : x < 0
      · rw [if_pos h0]
      · rw [if_neg h0, if_neg (by omega)]
    · unfold f_X12_timeIn
      rw [e_isIn, zc_n, if_neg hx, e_may0, zc_n, if_pos (show (0 : Int) = 0 from rfl)]
theorem L_deliversIn {x : Int} : ∀ (k q q' : Nat) {dc ds : zD} {i : Int}, LR dc 60 (ds 401) → (0 ≤ x ∧ x < ds 401 2) → 0 ≤ i → i + k = 201 → ds 401 4 + k ≤ 19000 → k < q → k < q' → ∃ v dc' ds', l_X11_deliversIn_35 q x i dc = some (v, dc') ∧ l_X12_deliversIn_29 q' x i ds = zc (f_X12_back v ds') (fun v d => some (v, d)) ∧ Fg 7 60 dc dc' ∧ Ft ds ds' ∧ zR v := by
  intro k
  induction k with
  | zero =>
    intro q q' dc ds i h hx i0 ik h4 hq hq'
    obtain ⟨q, rfl⟩ : ∃ q0, q = q0 + 1 := ⟨q - 1, by omega⟩
    obtain ⟨q', rfl⟩ : ∃ q0, q' = q0 + 1 := ⟨q' - 1, by omega⟩
    refine ⟨-1, dc, ds, ?_, ?_, Fg.rf, Ft.rf, zRk rfl⟩
    · show l_X11_deliversIn_35F _ x i dc = _
      unfold l_X11_deliversIn_35F
      rw [if_pos (by omega)]
    · show l_X12_deliversIn_29F _ x i ds = _
      unfold l_X12_deliversIn_29F j_X12_deliversIn_57 j_X12_deliversIn_70
      rw [if_pos (by omega), if_neg (by omega)]
  | succ k ih =>
    intro q q' dc ds i h hx i0 ik h4 hq hq'
    obtain ⟨q, rfl⟩ : ∃ q0, q = q0 + 1 := ⟨q - 1, by omega⟩
    obtain ⟨q', rfl⟩ : ∃ q0, q' = q0 + 1 := ⟨q' - 1, by omega⟩
    obtain ⟨-, -, i2, -⟩ := LR_2 h
    have hl := h
    obtain ⟨K, L, hr, -⟩ := hl
    obtain ⟨-, -, -, hM, -⟩ := hr
    have q5 := ((hM x hx.1 hx.2).2.2.2.2.2.2 (fun _ _ _ hq => by cases hq)).1
    by_cases hd : rM (ds 401) x 3 = 3
    · refine ⟨i, dc, ds, ?_, ?_, Fg.rf, Ft.rf, zR_s (by omega) (by omega)⟩
      · show l_X11_deliversIn_35F _ x i dc = _
        unfold l_X11_deliversIn_35F
        rw [if_neg (by omega), zg_t (by omega), zl_n, q5, if_pos hd]
      · show l_X12_deliversIn_29F _ x i ds = _
        unfold l_X12_deliversIn_29F j_X12_deliversIn_57 j_X12_deliversIn_70
        rw [if_neg (by omega), e_message0 (by omega) (by omega), zc_n, if_pos hd, if_pos (by omega)]
    · obtain ⟨d1, s1, r1, r2, r3, r4, r5, r6, r7⟩ := R_turn (g := 7) h (by omega) (by omega)
      obtain ⟨v, d2, s2, p1, p2, p3, p4, p5⟩ := ih q q' (i := i + 1) r3 (by rw [r7.1 2 (by omega) (by omega) (by omega) (by omega)]; exact hx) (by omega) (by omega) (by omega) (by omega) (by omega)
      refine ⟨v, d2, s2, ?_, ?_, Fg.tr r5 p3, Ft.tr r6 p4, p5⟩
      · show l_X11_deliversIn_35F _ x i dc = _
        unfold l_X11_deliversIn_35F
        rw [if_neg (by omega), zg_t (by omega), zl_n, q5, if_neg hd, r1, zc_n, zl_n, zw_id (by omega) (by omega)]
        exact p1
      · show l_X12_deliversIn_29F _ x i ds = _
        unfold l_X12_deliversIn_29F
        rw [if_neg (by omega), e_message0 (by omega) (by omega), zc_n, if_neg hd, r2, zc_n, zl_n, zw_id (by omega) (by omega)]
        exact p2
theorem G_deliversIn (x : Int) : GO [1] (f_X11_deliversIn x) (f_X12_deliversIn x) := by
  intro dc ds hg hR
  obtain ⟨i0, i1, i2, i4, -⟩ := LR_2 hg.1
  have sm := LR_s2 hg.1
  have e2 : ds 401 (2 : Int).toNat = ds 401 2 := rfl
  by_cases hx : 0 ≤ x ∧ x < ds 401 2
  · have hg0 := GR_0 (t := 0) hg
    obtain ⟨dc1, ds1, a1, a2, a3, a4, a5, a6, a7⟩ := P_trial hg0
    have e4 : ds1 401 = ds 401 := by rw [a4, zu_row (by omega)]
    obtain ⟨v, dc2, ds2, b1, b2, b3, b4, b5⟩ := L_deliversIn (x := x) 201 zF zF (i := 0) a3 (by rw [e4]; exact hx) (by omega) (by omega) (by rw [e4]; have := hg.2.1; omega) (by have := zF_big; omega) (by have := zF_big; omega)
    obtain ⟨ds3, f1, f2, f3, f4, f5⟩ := P_end (v := v) hg0 a5 (fun c h1 _ => a6 c h1) a7 b3 b4
    refine ⟨v, dc2, v, ds3, ?_, ?_, f2, f3, Fm.tr (Fm.u (by omega)) f4, ?_⟩
    · unfold f_X11_deliversIn
      rw [e_has3, zc_n, if_pos (show 0 ≤ x ∧ x < dc (30 + 1) 0 by rw [sm]; exact hx), if_neg (show ¬ (1 : Int) = 0 by decide), a1, zc_n]
      exact b1
    · unfold f_X12_deliversIn
      rw [zg_t (by omega), zl_n, e2, zl_n, zw_id (by omega) (by omega), e_isIn, zc_n, if_pos (by omega), e_may11, zc_n, if_neg (show ¬ (1 : Int) = 0 by decide), a2, zc_n, b2, f1, zc_n]
    · rw [f5, zu_eq]; exact GX_ok rfl b5
  · refine G_noT hg ?_ ?_ rfl
    · unfold f_X11_deliversIn
      rw [e_has3, zc_n, if_neg (show ¬ (0 ≤ x ∧ x < dc (30 + 1) 0) by rw [sm]; exact hx), if_pos rfl]
    · unfold f_X12_deliversIn
      rw [zg_t (by omega), zl_n, e2, zl_n, zw_id (by omega) (by omega), e_isIn, zc_n, if_neg (by omega), e_may0, zc_n, if_pos (show (0 : Int) = 0 from rfl)]
theorem L_quietIn : ∀ (k q q' : Nat) {dc ds : zD} {i : Int}, LR dc 60 (ds 401) → 0 ≤ i → i + k = 201 → ds 401 4 + k ≤ 19000 → k < q → k < q' → ∃ v dc' ds', l_X11_quietIn_13 q i dc = some (v, dc') ∧ l_X12_quietIn_11 q' i ds = zc (f_X12_back v ds') (fun v d => some (v, d)) ∧ Fg 7 60 dc dc' ∧ Ft ds ds' ∧ zR v := by
  intro k
  induction k with
  | zero =>
    intro q q' dc ds i h i0 ik h4 hq hq'
    obtain ⟨q, rfl⟩ : ∃ q0, q = q0 + 1 := ⟨q - 1, by omega⟩
    obtain ⟨q', rfl⟩ : ∃ q0, q' = q0 + 1 := ⟨q' - 1, by omega⟩
    refine ⟨-1, dc, ds, ?_, ?_, Fg.rf, Ft.rf, zRk rfl⟩
    · show l_X11_quietIn_13F _ i dc = _
      unfold l_X11_quietIn_13F
      rw [if_pos (by omega)]
    · show l_X12_quietIn_11F _ i ds = _
      unfold l_X12_quietIn_11F j_X12_quietIn_43 j_X12_quietIn_56
      rw [if_pos (by omega), if_neg (by omega)]
  | succ k ih =>
    intro q q' dc ds i h i0 ik h4 hq hq'
    obtain ⟨q, rfl⟩ : ∃ q0, q = q0 + 1 := ⟨q - 1, by omega⟩
    obtain ⟨q', rfl⟩ : ∃ q0, q' = q0 + 1 := ⟨q' - 1, by omega⟩
    obtain ⟨-, -, i2, -⟩ := LR_2 h
    have sm := LR_s2 h
    have e2 : ds 401 (2 : Int).toNat = ds 401 2 := rfl
    have hc : cSt (ds 401) 3 ≤ ds 401 2 := by
      have := cnt_R (p := fun m => decide (rM (ds 401) m 3 = 3)) (m := 0) (k := (ds 401 2).toNat)
      unfold cSt
      omega
    by_cases hd : cSt (ds 401) 3 = ds 401 2
    · refine ⟨i, dc, ds, ?_, ?_, Fg.rf, Ft.rf, zR_s (by omega) (by omega)⟩
      · show l_X11_quietIn_13F _ i dc = _
        unfold l_X11_quietIn_13F
        rw [if_neg (by omega), k_delivered h, zc_n, zl_n, sm, if_pos hd]
      · show l_X12_quietIn_11F _ i ds = _
        unfold l_X12_quietIn_11F j_X12_quietIn_43 j_X12_quietIn_56
        rw [if_neg (by omega), e_inState i2, zc_n, zg_t (by omega), zl_n, e2, if_pos (by omega), if_pos (by omega)]
    · obtain ⟨d1, s1, r1, r2, r3, r4, r5, r6, r7⟩ := R_turn (g := 7) h (by omega) (by omega)
      obtain ⟨v, d2, s2, p1, p2, p3, p4, p5⟩ := ih q q' (i := i + 1) r3 (by omega) (by omega) (by omega) (by omega) (by omega)
      refine ⟨v, d2, s2, ?_, ?_, Fg.tr r5 p3, Ft.tr r6 p4, p5⟩
      · show l_X11_quietIn_13F _ i dc = _
        unfold l_X11_quietIn_13F
        rw [if_neg (by omega), k_delivered h, zc_n, zl_n, sm, if_neg hd, r1, zc_n, zl_n, zw_id (by omega) (by omega)]
        exact p1
      · show l_X12_quietIn_11F _ i ds = _
        unfold l_X12_quietIn_11F
        rw [if_neg (by omega), e_inState i2, zc_n, zg_t (by omega), zl_n, e2, if_neg (by omega), r2, zc_n, zl_n, zw_id (by omega) (by omega)]
        exact p2
theorem G_quietIn : GO [] f_X11_quietIn f_X12_quietIn := by
  intro dc ds hg hR
  have hg0 := GR_0 (t := 0) hg
  obtain ⟨dc1, ds1, a1, a2, a3, a4, a5, a6, a7⟩ := P_trial hg0
  have e4 : ds1 401 = ds 401 := by rw [a4, zu_row (by omega)]
  obtain ⟨v, dc2, ds2, b1, b2, b3, b4, b5⟩ := L_quietIn 201 zF zF (i := 0) a3 (by omega) (by omega) (by rw [e4]; have := hg.2.1; omega) (by have := zF_big; omega) (by have := zF_big; omega)
  obtain ⟨ds3, f1, f2, f3, f4, f5⟩ := P_end (v := v) hg0 a5 (fun c h1 _ => a6 c h1) a7 b3 b4
  refine ⟨v, dc2, v, ds3, ?_, ?_, f2, f3, Fm.tr (Fm.u (by omega)) f4, ?_⟩
  · unfold f_X11_quietIn
    rw [a1, zc_n]
    exact b1
  · unfold f_X12_quietIn
    rw [zl_n, a2, zc_n, b2, f1, zc_n]
  · rw [f5, zu_eq]; exact GX_ok rfl b5
theorem LR_11 {d : zD} {b : Nat} {s : Nat → Int} (h : LR d b s) : d (b + 27) 5 = s 11 ∧ 0 ≤ s 11 ∧ s 11 ≤ 99 := by
  obtain ⟨K, L, ⟨-, ⟨hA, -⟩, -, -, -, -, -, -, -, -, ⟨-, -, -, -, -, -, -, -, -, -, -, q, -⟩, -⟩, -⟩ := h
  exact ⟨hA 5 (by omega) (by omega), q⟩
theorem LR_10 {d : zD} {b : Nat} {s : Nat → Int} (h : LR d b s) : d b 10 = s 4 ∧ d b 9 = s 3 ∧ d b 8 = s 1 ∧ zR (s 3) := by
  obtain ⟨K, L, h, -⟩ := h
  obtain ⟨-, -, -, ⟨t0, t1⟩, tN⟩ := RC_i h
  obtain ⟨⟨s8, s9, s10, -⟩, -⟩ := h
  exact ⟨s10, s9, s8, by omega, by omega⟩
theorem P_next {dc ds : zD} (hg : GR dc ds) : ∃ k x dc' ds', f_X1_choose 6 30 (ds 401 4 + 1) dc = some (0, dc') ∧ f_X12_next (zu ds 400 0 0) = some (k, ds') ∧ dc' 6 1 = k ∧ dc' 6 2 = x ∧ ds' 400 8 = x ∧ (k = 3 → x = -1) ∧ (0 ≤ k ∧ k ≤ 3) ∧ (-1 ≤ x ∧ x ≤ 8) ∧ GR dc' ds' ∧ Fc dc dc' ∧ Fm ds ds' ∧ ds' 400 0 = 0 := by
  obtain ⟨K, L, hr, hz⟩ := GR_L hg
  obtain ⟨i0, i1, i2, i4, -⟩ := LR_2 hg.1
  have e401 : zu ds 400 0 0 401 = ds 401 := zu_row (by omega)
  obtain ⟨d2, k1, k2, k3, k4, k5⟩ := k_choose (g := 6) (t := ds 401 4 + 1) hr (by omega)
  obtain ⟨s2, m1, m2, m3, m4, m5⟩ := m_next (ds := zu ds 400 0 0) hr (fun k _ => by rw [e401]) (by rw [e401]; omega)
  rw [e401] at m1 m4
  have cTi := cT_in hr (ds 401 4 + 1)
  have cEi := cE_in hr
  have cPi := cP_in hr
  have hh := hr
  obtain ⟨-, -, -, -, -, -, -, -, -, -, -, hIL, -⟩ := hh
  refine ⟨_, _, d2, s2, k1, m1, k3, k4, m4, ?_, ?_, ?_, ?_, fun c hc => k2 c (by omega), fun c hc => by rw [m2 c (by omega), zu_row (by omega)], by rw [m3 0 (by omega) (by omega)]; exact zu_eq⟩
  · unfold cK cX
    intro hk3
    by_cases ht : cT (ds 401) (ds 401 4 + 1) = -1
    · rw [if_pos ht] at hk3 ⊢
      by_cases hb : ds 401 25 < ds 401 10 ∧ cE L (ds 401) ≠ -1
      · rw [if_pos hb] at hk3; omega
      · rw [if_neg hb] at hk3 ⊢
        by_cases hp : cP (ds 401) = -1
        · rw [if_pos hp] at hk3 ⊢
          by_cases he : cE L (ds 401) = -1
          · exact he
          · rw [if_neg he] at hk3; omega
        · rw [if_neg hp] at hk3; omega
    · rw [if_neg ht] at hk3; omega
  · unfold cK
    split
    · split
      · omega
      · split
        · split <;> omega
        · omega
    · omega
  · have hpl : cP (ds 401) ≠ -1 → 0 ≤ ds 401 (30 + cP (ds 401)).toNat ∧ ds 401 (30 + cP (ds 401)).toNat < ds 401 0 := fun q => hIL _ (cPi.resolve_left q).1.1 (cPi.resolve_left q).1.2
    unfold cX
    split
    · split
      · omega
      · split
        · omega
        · rename_i q
          have := hpl q
          omega
    · omega
  · exact GR_d (GR_s hg (fun c c1 c2 c3 => by rw [m2 c c1, zu_row c1]) (fun k _ => by rw [m2 401 (by omega), e401]) fun j j0 j7 j8 j9 => by rw [m3 j j8 j9, zu_ne (Or.inr j0)]) fun c c1 c2 c3 => k2 c c1
theorem G_nextKind : GO [] f_X11_nextKind f_X12_nextKind := by
  intro dc ds hg hR
  obtain ⟨k, x, d1, s1, a1, a2, a3, a4, a5, a6, a7, a8, a9, a10, a11, a12⟩ := P_next hg
  obtain ⟨i0, i1, i2, i4, -⟩ := LR_2 hg.1
  refine ⟨k, d1, k, s1, ?_, ?_, a9, a10, a11, ?_⟩
  · unfold f_X11_nextKind
    rw [zl_n, (LR_10 hg.1).1, zl_n, zw_id (by omega) (by omega), a1, zc_n, zl_n, a3]
  · unfold f_X12_nextKind
    rw [zl_n, a2, zc_n]
  · rw [a12]; exact GX_ok rfl (zR_s (by omega) (by omega))
theorem G_nextTerminal : GO [] f_X11_nextTerminal f_X12_nextTerminal := by
  intro dc ds hg hR
  obtain ⟨k, x, d1, s1, a1, a2, a3, a4, a5, a6, a7, a8, a9, a10, a11, a12⟩ := P_next hg
  obtain ⟨i0, i1, i2, i4, -⟩ := LR_2 hg.1
  refine ⟨x, d1, x, s1, ?_, ?_, a9, a10, a11, ?_⟩
  · unfold f_X11_nextTerminal
    rw [zl_n, (LR_10 hg.1).1, zl_n, zw_id (by omega) (by omega), a1, zc_n, zl_n, a4]
  · unfold f_X12_nextTerminal
    rw [zl_n, a2, zc_n]
    by_cases hk : k = 3
    · rw [if_pos hk, a6 hk]
    · rw [if_neg hk, zl_n, a5]
  · rw [a12]; exact GX_ok rfl (zR_s (by omega) (by omega))
theorem G_gap : GO [] f_X11_gap f_X12_gap := by
  intro dc ds hg hR
  have hl := hg.1
  obtain ⟨i0, i1, i2, i4, -⟩ := LR_2 hl
  have sm := LR_s2 hl
  have e401 : zu ds 400 0 0 401 = ds 401 := zu_row (by omega)
  have e2 : zu ds 400 0 0 401 (2 : Int).toNat = ds 401 2 := by rw [e401]; rfl
  have es : ∀ v, f_X12_inState v (zu ds 400 0 0) = some (cSt (ds 401) v, zu ds 400 0 0) := fun v => by rw [e_inState (by rw [e401]; exact i2), e401]
  have c0 := cSt_R (v := 0) i2
  have c1 := cSt_R (v := 1) i2
  have c2 := cSt_R (v := 2) i2
  have c3 := cSt_R (v := 3) i2
  have b1 := cSt_R (v := 0 + 1) i2
  have b2 := cSt_R (v := 0 + 1 + 1) i2
  have b3 := cSt_R (v := 0 + 1 + 1 + 1) i2
  refine GO_q hg (v := ds 401 2 - cSt (ds 401) 0 - cSt (ds 401) 1 - cSt (ds 401) 2 - cSt (ds 401) 3) ?_ ?_ (GX_ok rfl (zR_s (by omega) (by omega)))
  · unfold f_X11_gap
    rw [zl_n, sm]
    have st : ∀ (q : Nat) (x i : Int), i < 4 → 0 ≤ i → (-1000 ≤ x ∧ x ≤ 1000) → l_X11_gap_13 (q + 1) x i dc = l_X11_gap_13 q (x - cSt (ds 401) i) (i + 1) dc := fun q x i h4 h0 hx => by
      have ci := cSt_R (v := i) i2
      show l_X11_gap_13F _ x i dc = _
      unfold l_X11_gap_13F
      rw [if_neg (by omega), k_countIn hl, zc_n, zl_n, zw_id (by omega) (by omega), zl_n, zw_id (by omega) (by omega)]
    show l_X11_gap_13 (99996 + 1 + 1 + 1 + 1) _ 0 dc = _
    rw [st _ _ _ (by omega) (by omega) (by omega), st _ _ _ (by omega) (by omega) (by omega), st _ _ _ (by omega) (by omega) (by omega), st _ _ _ (by omega) (by omega) (by omega)]
    show l_X11_gap_13F _ _ _ dc = _
    unfold l_X11_gap_13F
    rw [if_pos (by omega)]
    rfl
  · unfold f_X12_gap
    rw [zl_n, zg_t (by omega), zl_n, e2, es, zc_n, zl_n, zw_id (by omega) (by omega), es, zc_n, zl_n, zw_id (by omega) (by omega), es, zc_n, zl_n, zw_id (by omega) (by omega), es, zc_n, zl_n, zw_id (by omega) (by omega)]
theorem zor_R {x y : Int} : zR (zor x y) := zR_of _
theorem L_off {dc ds : zD} (h : LR dc 30 (ds 401)) : ∀ (k q q' : Nat) {x i : Int}, 0 ≤ i → i + k = ds 401 0 → k < q → k < q' → zR x → ∃ v, l_X11_off_4 q x i dc = some (v, dc) ∧ l_X12_off_9 q' x i ds = some (v, ds) ∧ zR v := by
  obtain ⟨i0, -⟩ := LR_2 h
  obtain ⟨K, L, hr, -⟩ := h
  obtain ⟨-, -, hQ, -, -, -, -, -, -, -, -, -, -, -, hU, -⟩ := hr
  intro k
  induction k with
  | zero =>
    intro q q' x i h0 ik hq hq' hx
    obtain ⟨q, rfl⟩ : ∃ q0, q = q0 + 1 := ⟨q - 1, by omega⟩
    obtain ⟨q', rfl⟩ : ∃ q0, q' = q0 + 1 := ⟨q' - 1, by omega⟩
    refine ⟨x, ?_, ?_, hx⟩
    · show l_X11_off_4F _ x i dc = _
      unfold l_X11_off_4F
      rw [zl_n, hU.1, if_pos (by omega)]
    · show l_X12_off_9F _ x i ds = _
      unfold l_X12_off_9F
      rw [e_many, zc_n, if_pos (by omega)]
  | succ k ih =>
    intro q q' x i h0 ik hq hq' hx
    obtain ⟨q, rfl⟩ : ∃ q0, q = q0 + 1 := ⟨q - 1, by omega⟩
    obtain ⟨q', rfl⟩ : ∃ q0, q' = q0 + 1 := ⟨q' - 1, by omega⟩
    have q4 := (hQ i h0 (by omega)).2.1
    by_cases hp : rT (ds 401) i 4 = 0
    · obtain ⟨v, a1, a2, a3⟩ := ih q q' (x := zor x (zshl 1 i)) (i := i + 1) (by omega) (by omega) (by omega) (by omega) zor_R
      refine ⟨v, ?_, ?_, a3⟩
      · show l_X11_off_4F _ x i dc = _
        unfold l_X11_off_4F
        rw [zl_n, hU.1, if_neg (by omega), zg_t (by omega), zl_n, q4, if_pos hp, zl_n, zl_n, zl_n, zw_id (by omega) (by omega)]
        exact a1
      · show l_X12_off_9F _ x i ds = _
        unfold l_X12_off_9F
        rw [e_many, zc_n, if_neg (by omega), e_of (by omega) (by omega), zc_n, if_pos hp, zl_n, zl_n, zl_n, zw_id (by omega) (by omega)]
        exact a2
    · obtain ⟨v, a1, a2, a3⟩ := ih q q' (x := x) (i := i + 1) (by omega) (by omega) (by omega) (by omega) hx
      refine ⟨v, ?_, ?_, a3⟩
      · show l_X11_off_4F _ x i dc = _
        unfold l_X11_off_4F
        rw [zl_n, hU.1, if_neg (by omega), zg_t (by omega), zl_n, q4, if_neg hp, zl_n, zw_id (by omega) (by omega)]
        exact a1
      · show l_X12_off_9F _ x i ds = _
        unfold l_X12_off_9F
        rw [e_many, zc_n, if_neg (by omega), e_of (by omega) (by omega), zc_n, if_neg hp, zl_n, zw_id (by omega) (by omega)]
        exact a2
theorem G_off : GO [] f_X11_off f_X12_off := by
  intro dc ds hg hR
  obtain ⟨i0, i1, i2, i4, -⟩ := LR_2 hg.1
  have e401 : zu ds 400 0 0 401 = ds 401 := zu_row (by omega)
  obtain ⟨v, a1, a2, a3⟩ := L_off (ds := zu ds 400 0 0) (by rw [e401]; exact hg.1) (ds 401 0).toNat zF zF (x := 0) (i := 0) (by omega) (by rw [e401]; omega) (by have := zF_big; omega) (by have := zF_big; omega) (zRk rfl)
  refine GO_q hg (v := v) a1 ?_ (GX_ok rfl a3)
  unfold f_X12_off
  rw [zl_n]
  exact a2