/-! A script is played. -/
theorem zsw_c {β : Type} {x q : Int} {b : Option β} {cs : List (Int × Option β)} {df : Option β} : zsw x ((q, b) :: cs) df = if x = q then b else zsw x cs df := rfl
theorem zsw_n {β : Type} {x : Int} {df : Option β} : zsw x [] df = df := rfl
theorem P_does {dc ds : zD} {N m i : Int} (h : LR dc 30 (ds 401)) (h4 : ds 401 4 ≤ 9999) (hN : ds 401 0 = N) (hS : SC N dc ds m) (hi : 0 ≤ i ∧ i < m) : ∃ v dc1 ds1, f_X11_perform i dc = some (v, dc1) ∧ f_X12_does i ds = some (v, ds1) ∧ (v = 0 ∨ v = 1) ∧ LR dc1 30 (ds1 401) ∧ ds1 401 4 ≤ 9999 ∧ (∀ c, c ≠ 6 → c < 30 ∨ 60 ≤ c → dc1 c = dc c) ∧ Ft ds ds1 := by
  obtain ⟨i0, i1, i2, i4, -⟩ := LR_2 h
  obtain ⟨s10, -, s8, -⟩ := LR_10 h
  have sm : dc (30 + 1) 0 = ds 401 2 := LR_s2 h
  obtain ⟨c1, c2, c3, c4⟩ := hS
  obtain ⟨q1, q2, q3, q4⟩ := c4 i hi.1 hi.2
  have t1 : ds 401 (1 : Int).toNat = ds 401 1 := rfl
  have t2 : ds 401 (2 : Int).toNat = ds 401 2 := rfl
  have t4 : ds 401 (4 : Int).toNat = ds 401 4 := rfl
  have w1 : zw (4 * i) = 4 * i := zw_id (by omega) (by omega)
  have w2 : zw (4 * i + 1) = 4 * i + 1 := zw_id (by omega) (by omega)
  rcases q4 with ⟨k0, ha, hr, hne, hl⟩ | ⟨k0, ha⟩ | ⟨k0, ha⟩ | ⟨k0, ha⟩
  · obtain ⟨q5, q6⟩ := q3 k0
    by_cases hf : ds 401 2 = 40
    · refine ⟨0, dc, ds, ?_, ?_, Or.inl rfl, h, h4, fun _ _ _ => rfl, Fs.rf.t⟩
      · unfold f_X11_perform f_X3_isFull
        rw [zg_t (by omega), zl_n, q2, zg_t (by omega), zl_n, q1, k0, zsw_c, if_pos rfl, zl_n, sm, if_neg (by omega), zc_n, if_neg (show ¬ (1 : Int) = 0 by decide)]
      · unfold f_X12_does
        rw [zl_n, w1, zl_n, w2, zg_t (by omega), zl_n, zg_t (by omega), zl_n, k0, zsw_c, if_pos rfl, zg_t (by omega), zl_n, t2, if_pos hf]
    · obtain ⟨d2, s2, b1, b2, b3, b5, b6, b7⟩ := R_post (a := ds 406 (4 * i + 1).toNat) (r := ds 406 (4 * i + 2).toNat) (len := ds 406 (4 * i + 3).toNat) h (by omega) (by omega) hne hl
      refine ⟨1, d2, s2, ?_, ?_, Or.inr rfl, b3, by omega, fun c _ hc => b6 c hc, b7.t⟩
      · unfold f_X11_perform f_X3_isFull
        rw [zg_t (by omega), zl_n, q2, zg_t (by omega), zl_n, q1, k0, zsw_c, if_pos rfl, zl_n, sm, if_pos (by omega), zc_n, if_pos (show (0 : Int) = 0 from rfl), zg_t (by omega), zl_n, q5, zg_t (by omega), zl_n, q6, b1, zc_n]
      · unfold f_X12_does
        rw [zl_n, w1, zl_n, w2, zg_t (by omega), zl_n, zg_t (by omega), zl_n, k0, zsw_c, if_pos rfl, zg_t (by omega), zl_n, t2, if_neg hf, zl_n, zw_id (x := 4 * i + 2) (by omega) (by omega), zg_t (by omega), zl_n, zl_n, zw_id (x := 4 * i + 3) (by omega) (by omega), zg_t (by omega), zl_n, b2, zc_n]
  · rcases k0 with k0 | k0 | k0
    · obtain ⟨w, d2, s2, b1, b2, b3, b4, b5, b6, b7⟩ := R_life (v := 0) (x := ds 406 (4 * i + 1).toNat) h (by omega) (Or.inl rfl)
      refine ⟨1, d2, s2, ?_, ?_, Or.inr rfl, b4, by omega, fun c _ hc => b6 c hc, b7.t⟩
      · unfold f_X11_perform
        rw [zg_t (by omega), zl_n, q2, zg_t (by omega), zl_n, q1, k0, zsw_c, if_neg (by decide), zsw_c, if_pos rfl, b1, zc_n]
      · unfold f_X12_does
        rw [zl_n, w1, zl_n, w2, zg_t (by omega), zl_n, zg_t (by omega), zl_n, k0, zsw_c, if_neg (by decide), zsw_c, if_pos rfl, zg_t (by omega), zl_n, if_neg (by decide)]
        unfold j_X12_does_173
        rw [b2, zc_n]
    · obtain ⟨w, d2, s2, b1, b2, b3, b4, b5, b6, b7⟩ := R_life (v := 1) (x := ds 406 (4 * i + 1).toNat) h (by omega) (Or.inr rfl)
      refine ⟨1, d2, s2, ?_, ?_, Or.inr rfl, b4, by omega, fun c _ hc => b6 c hc, b7.t⟩
      · unfold f_X11_perform
        rw [zg_t (by omega), zl_n, q2, zg_t (by omega), zl_n, q1, k0, zsw_c, if_neg (by decide), zsw_c, if_neg (by decide), zsw_c, if_pos rfl, b1, zc_n]
      · unfold f_X12_does
        rw [zl_n, w1, zl_n, w2, zg_t (by omega), zl_n, zg_t (by omega), zl_n, k0, zsw_c, if_neg (by decide), zsw_c, if_neg (by decide), zsw_c, if_pos rfl, zg_t (by omega), zl_n, if_pos (by decide)]
        unfold j_X12_does_173
        rw [b2, zc_n]
    · by_cases hn : ds 401 1 = 16
      · refine ⟨0, dc, ds, ?_, ?_, Or.inl rfl, h, h4, fun _ _ _ => rfl, Fs.rf.t⟩
        · unfold f_X11_perform
          rw [zg_t (by omega), zl_n, q2, zg_t (by omega), zl_n, q1, k0, zsw_c, if_neg (by decide), zsw_c, if_neg (by decide), zsw_c, if_neg (by decide), zsw_c, if_neg (by decide), zsw_c, if_pos rfl, zl_n, s8, if_neg (by omega)]
        · unfold f_X12_does
          rw [zl_n, w1, zl_n, w2, zg_t (by omega), zl_n, zg_t (by omega), zl_n, k0, zsw_c, if_neg (by decide), zsw_c, if_neg (by decide), zsw_c, if_neg (by decide), zsw_c, if_neg (by decide), zsw_c, if_pos rfl, zg_t (by omega), zl_n, t1, if_pos hn]
      · obtain ⟨d2, s2, b1, b2, b3, b4, b5, b6, b7⟩ := R_addPlace (x := ds 406 (4 * i + 1).toNat) h (by omega) (by omega)
        refine ⟨1, d2, s2, ?_, ?_, Or.inr rfl, b3, by omega, fun c _ hc => b6 c hc, b7.t⟩
        · unfold f_X11_perform
          rw [zg_t (by omega), zl_n, q2, zg_t (by omega), zl_n, q1, k0, zsw_c, if_neg (by decide), zsw_c, if_neg (by decide), zsw_c, if_neg (by decide), zsw_c, if_neg (by decide), zsw_c, if_pos rfl, zl_n, s8, if_pos (by omega), b1, zc_n]
        · unfold f_X12_does
          rw [zl_n, w1, zl_n, w2, zg_t (by omega), zl_n, zg_t (by omega), zl_n, k0, zsw_c, if_neg (by decide), zsw_c, if_neg (by decide), zsw_c, if_neg (by decide), zsw_c, if_neg (by decide), zsw_c, if_pos rfl, zg_t (by omega), zl_n, t1, if_neg hn, b2, zc_n]
  · have hcan : f_X12_canRun (ds 406 (4 * i + 1).toNat) ds = some (if 9999 < ds 401 4 + ds 406 (4 * i + 1).toNat then 0 else 1, ds) := by
      unfold f_X12_canRun
      rw [zg_t (by omega), zl_n, t4, zl_n, zw_id (by omega) (by omega)]
      split <;> rfl
    by_cases hn : 9999 < ds 401 4 + ds 406 (4 * i + 1).toNat
    · refine ⟨0, dc, ds, ?_, ?_, Or.inl rfl, h, h4, fun _ _ _ => rfl, Fs.rf.t⟩
      · unfold f_X11_perform
        rw [zg_t (by omega), zl_n, q2, zg_t (by omega), zl_n, q1, k0, zsw_c, if_neg (by decide), zsw_c, if_neg (by decide), zsw_c, if_neg (by decide), zsw_c, if_pos rfl, zl_n, s10, zl_n, zw_id (by omega) (by omega), if_neg (by omega)]
      · unfold f_X12_does
        rw [zl_n, w1, zl_n, w2, zg_t (by omega), zl_n, zg_t (by omega), zl_n, k0, zsw_c, if_neg (by decide), zsw_c, if_neg (by decide), zsw_c, if_neg (by decide), zsw_c, if_pos rfl, hcan, zc_n, if_pos hn, if_pos (show (0 : Int) = 0 from rfl)]
    · obtain ⟨d2, s2, b1, b2, b3, b4, b5, b6, b7⟩ := R_run (g := 6) h (by omega) (n := ds 406 (4 * i + 1).toNat) (by omega) (by omega)
      refine ⟨1, d2, s2, ?_, ?_, Or.inr rfl, b3, by omega, fun c c1 c2 => b5 c c1 (by omega), b6⟩
      · unfold f_X11_perform
        rw [zg_t (by omega), zl_n, q2, zg_t (by omega), zl_n, q1, k0, zsw_c, if_neg (by decide), zsw_c, if_neg (by decide), zsw_c, if_neg (by decide), zsw_c, if_pos rfl, zl_n, s10, zl_n, zw_id (by omega) (by omega), if_pos (by omega), b1, zc_n]
      · unfold f_X12_does
        rw [zl_n, w1, zl_n, w2, zg_t (by omega), zl_n, zg_t (by omega), zl_n, k0, zsw_c, if_neg (by decide), zsw_c, if_neg (by decide), zsw_c, if_neg (by decide), zsw_c, if_pos rfl, hcan, zc_n, if_neg hn, if_neg (show ¬ (1 : Int) = 0 by decide), b2, zc_n]
  · by_cases hn : ds 406 (4 * i + 1).toNat < ds 401 1
    · obtain ⟨d2, s2, b1, b2, b3, b5, b6, b7⟩ := R_dropPlace (x := ds 406 (4 * i + 1).toNat) h (by omega)
      refine ⟨1, d2, s2, ?_, ?_, Or.inr rfl, b3, by omega, fun c _ hc => b6 c hc, b7.t⟩
      · unfold f_X11_perform
        rw [zg_t (by omega), zl_n, q2, zg_t (by omega), zl_n, q1, k0, zsw_c, if_neg (by decide), zsw_c, if_neg (by decide), zsw_c, if_neg (by decide), zsw_c, if_neg (by decide), zsw_c, if_neg (by decide), zsw_n, zl_n, s8, if_pos hn, b1, zc_n]
      · unfold f_X12_does
        rw [zl_n, w1, zl_n, w2, zg_t (by omega), zl_n, zg_t (by omega), zl_n, k0, zsw_c, if_neg (by decide), zsw_c, if_neg (by decide), zsw_c, if_neg (by decide), zsw_c, if_neg (by decide), zsw_c, if_neg (by decide), zsw_c, if_pos rfl, zg_t (by omega), zl_n, t1, if_pos hn, b2, zc_n]
    · refine ⟨0, dc, ds, ?_, ?_, Or.inl rfl, h, h4, fun _ _ _ => rfl, Fs.rf.t⟩
      · unfold f_X11_perform
        rw [zg_t (by omega), zl_n, q2, zg_t (by omega), zl_n, q1, k0, zsw_c, if_neg (by decide), zsw_c, if_neg (by decide), zsw_c, if_neg (by decide), zsw_c, if_neg (by decide), zsw_c, if_neg (by decide), zsw_n, zl_n, s8, if_neg hn]
      · unfold f_X12_does
        rw [zl_n, w1, zl_n, w2, zg_t (by omega), zl_n, zg_t (by omega), zl_n, k0, zsw_c, if_neg (by decide), zsw_c, if_neg (by decide), zsw_c, if_neg (by decide), zsw_c, if_neg (by decide), zsw_c, if_neg (by decide), zsw_c, if_pos rfl, zg_t (by omega), zl_n, t1, if_neg hn]
theorem SC_f {N m : Int} {dc ds dc' ds' : zD} (h : SC N dc ds m) (e : ∀ c, 20 ≤ c → c ≤ 24 → dc' c = dc c) (o : ds' 406 = ds 406) (o1 : ds' 400 21 = ds 400 21) : SC N dc' ds' m := by
  unfold SC
  rw [e 20 (by omega) (by omega), e 21 (by omega) (by omega), e 22 (by omega) (by omega), e 23 (by omega) (by omega), e 24 (by omega) (by omega), o, o1]
  exact h
theorem S_play {N m : Int} : ∀ (k q q' : Nat) {dc ds : zD} {i : Int}, GR dc ds → ds 401 0 = N → SC N dc ds m → 0 ≤ i → i + k = m → k < q → k < q' → ∃ v dc1 ds1, l_X11_playScript_35 q i dc = some (v, dc1) ∧ l_X12_playScript_50 q' i ds = some (v, ds1) ∧ (0 ≤ v ∧ v ≤ m) ∧ GR dc1 ds1 ∧ Fc dc dc1 ∧ Fm ds ds1 ∧ ds1 400 0 = ds 400 0 := by
  intro k
  induction k with
  | zero =>
    intro q q' dc ds i h hN hS i0 hi hq hq'
    obtain ⟨q, rfl⟩ : ∃ q0, q = q0 + 1 := ⟨q - 1, by omega⟩
    obtain ⟨q', rfl⟩ : ∃ q0, q' = q0 + 1 := ⟨q' - 1, by omega⟩
    obtain ⟨c1, c2, -⟩ := hS
    refine ⟨i, dc, ds, ?_, ?_, by omega, h, Fc.rf, Fm.rf, rfl⟩
    · show l_X11_playScript_35F _ i dc = _
      unfold l_X11_playScript_35F
      rw [zl_n, c1, if_pos (by omega)]
    · show l_X12_playScript_50F _ i ds = _
      unfold l_X12_playScript_50F
      rw [zl_n, c2, if_pos (by omega)]
  | succ k ih =>
    intro q q' dc ds i h hN hS i0 hi hq hq'
    obtain ⟨q, rfl⟩ : ∃ q0, q = q0 + 1 := ⟨q - 1, by omega⟩
    obtain ⟨q', rfl⟩ : ∃ q0, q' = q0 + 1 := ⟨q' - 1, by omega⟩
    obtain ⟨c1, c2, c3, -⟩ := id hS
    obtain ⟨v, d1, s1, a1, a2, a3, a4, a5, a6, a7⟩ := P_does h.1 h.2.1 hN hS (i := i) (by omega)
    have hg : GR d1 s1 := GR_line h a6 (fun c e1 e2 => a7.1 c e2 e1) a7.2 a4 a5
    have fc : Fc dc d1 := fun c hc => a6 c (by omega) (by omega)
    have fm : Fm ds s1 := fun c hc => a7.1 c (by omega) (by omega)
    have hN1 : s1 401 0 = N := by
      rw [← (LR_U a4).1, a6 1 (by omega) (by omega), (LR_U h.1).1, hN]
    have hS1 : SC N d1 s1 m := SC_f hS (fun c q0 q1 => a6 c (by omega) (by omega)) (a7.1 406 (by omega) (by omega)) (a7.2 21 (by omega) (by omega) (by omega))
    have o0 : s1 400 0 = ds 400 0 := a7.2 0 (by omega) (by omega) (by omega)
    have cl : l_X11_playScript_35 (q + 1) i dc = if v = 0 then some (i, d1) else l_X11_playScript_35 q (i + 1) d1 := by
      show l_X11_playScript_35F _ i dc = _
      unfold l_X11_playScript_35F
      rw [zl_n, c1, if_neg (by omega), a1, zc_n, zl_n, zw_id (by omega) (by omega)]
    have re : l_X12_playScript_50 (q' + 1) i ds = if v = 0 then some (i, s1) else l_X12_playScript_50 q' (i + 1) s1 := by
      show l_X12_playScript_50F _ i ds = _
      unfold l_X12_playScript_50F
      rw [zl_n, c2, if_neg (by omega), a2, zc_n, zl_n, zw_id (by omega) (by omega)]
    rw [cl, re]
    by_cases hv : v = 0
    · rw [if_pos hv, if_pos hv]
      exact ⟨i, d1, s1, rfl, rfl, by omega, hg, fc, fm, o0⟩
    · rw [if_neg hv, if_neg hv]
      obtain ⟨v2, d2, s2, b1, b2, b3, b4, b5, b6, b7⟩ := ih q q' (i := i + 1) hg hN1 hS1 (by omega) (by omega) (by omega) (by omega)
      exact ⟨v2, d2, s2, b1, b2, b3, b4, fc.tr b5, fm.tr b6, by rw [b7, o0]⟩
/-- a text has been read: what is changed besides -/
theorem GR_text {dc ds dc' ds' : zD} (h : GR dc ds) (e1 : ∀ c, c ≠ 10 → c < 12 ∨ 24 < c → dc' c = dc c) (n1 : dc' 10 1 = 0) (o0 : ds' 401 = ds 401) (o1 : ∀ c, c = 403 ∨ c = 404 ∨ c = 408 → ds' c = ds c) (o2 : ∀ j, j = 5 ∨ j = 6 ∨ j = 24 → ds' 400 j = ds 400 j) (n2 : ds' 400 11 = 0) (he : ER dc' ds') : GR dc' ds' := by
  obtain ⟨h1, h2, ⟨a1, a2, a3, a4⟩, ⟨b1, b2, b3⟩, -, -, ⟨g1, g2, g3⟩⟩ := h
  have ep : ∀ i, pst ds' i = pst ds i := fun i => by
    unfold pst
    rw [o1 404 (by omega)]
  unfold GR HR SR OR
  rw [o0, o1 403 (by omega), o1 408 (by omega), e1 8 (by omega) (by omega), e1 0 (by omega) (by omega), e1 25 (by omega) (by omega), o2 5 (by omega), o2 6 (by omega), o2 24 (by omega)]
  exact ⟨LR_d h1 fun c hc => e1 c (by omega) (by omega), h2, ⟨a1, a2, a3, fun i hi => by rw [ep]; exact ⟨LR_d (a4 i hi).1 fun c hc => e1 c (by omega) (by omega), (a4 i hi).2⟩⟩, ⟨b1, b2, fun q => ⟨LR_d (b3 q).1 fun c hc => e1 c (by omega) (by omega), (b3 q).2⟩⟩, ⟨by rw [n1, n2], by rw [n2]; omega, fun j j0 j1 => by rw [n2] at j1; omega⟩, he, ⟨g1, g2, g3⟩⟩
theorem G_playScript : GO [] f_X11_playScript f_X12_playScript := by
  intro dc ds hg hR
  obtain ⟨h1, h2, -, -, hI, -, -⟩ := id hg
  have hF := zF_big
  obtain ⟨i0, -⟩ := LR_2 h1
  obtain ⟨u1, u2⟩ := LR_U h1
  have hI0 : IR (zu dc 20 6 0) (zu ds 400 21 0) := by
    obtain ⟨i1, i2, i3⟩ := hI
    refine ⟨by rw [zu_ne (by omega), zu_ne (by omega)]; exact i1, by rw [zu_ne (by omega)]; exact i2, fun j j0 j1 => ?_⟩
    rw [zu_ne (by omega)] at j1
    rw [zu_row (by omega), zu_row (by omega)]
    exact i3 j j0 j1
  obtain ⟨B, n, d1, s1, a1, a2, a3, a4, ⟨a5, a6⟩, a7⟩ := P_start hI0
  have f1 : FW dc d1 := (FW.u (by omega)).tr a4.w
  have o401 : s1 401 = ds 401 := by rw [a5 401 (by omega), zu_row (by omega)]
  have hN1 : NS 1 d1 s1 := by
    refine ⟨by rw [f1.1 1 (by omega) (by omega), o401]; exact u1, by rw [o401]; omega, fun x x0 x1 => ?_⟩
    rw [o401] at x1 ⊢
    rw [f1.1 (1 + 1) (by omega) (by omega)]
    exact u2 x x0 x1
  have hS1 : SC (ds 401 0) d1 s1 0 := ⟨by rw [a4.1 20 (by omega), zu_eq], by rw [a6 21 (by omega) (by omega), zu_eq], by omega, fun i i0 i1 => absurd i1 (by omega)⟩
  have hl := S_stmts (N := ds 401 0) 30 zF zF a3 hN1 (by rw [o401]) hS1 (by omega) (by omega) (by omega)
  have ecl : f_X11_playScript dc = zc (l_X5_readText_14 zF 0 d1) fun v4 d => zl (zu d 10 1 0) fun d => if (v4 : Int) = 0 then (some ((-1), d)) else (zc (f_X0_remember 30 d) fun _ d => l_X11_playScript_35 zF 0 d) := by
    unfold f_X11_playScript f_X5_readText
    rw [zl_n, a1, zc_n]
  have emod : f_X12_playScript ds = l_X12_playScript_9 zF s1 := by
    unfold f_X12_playScript
    rw [zl_n, a2, zc_n]
  have hT : ∀ {d2 s2 : zD}, FW d1 d2 → FX s1 s2 → d2 10 5 = s2 400 12 → d2 10 6 = s2 400 13 → GR (zu d2 10 1 0) (zu s2 400 11 0) := fun {d2 s2} f x e5 e6 => by
    have ff := f1.tr f
    refine GR_text hg (fun c c1 c2 => ?_) zu_eq ?_ (fun c hc => ?_) (fun j hj => ?_) zu_eq ⟨?_, ?_⟩
    · rw [zu_row c1]
      exact ff.1 c c1 (by omega)
    · rw [zu_row (by omega), x.1 401 (by omega) (by omega), o401]
    · rw [zu_row (by omega), x.1 c (by omega) (by omega), a5 c (by omega), zu_row (by omega)]
    · rw [zu_ne (by omega), x.2 j (by omega) (by omega), a6 j (by omega) (by omega), zu_ne (by omega)]
    · rw [zu_ne (by omega), zu_ne (by omega), e5]
    · rw [zu_ne (by omega), zu_ne (by omega), e6]
  have hC : ∀ {d2 : zD}, FW d1 d2 → Fc dc (zu d2 10 1 0) := fun f c hc => by
    rw [zu_row (by omega)]
    exact (f1.tr f).1 c (by omega) (by omega)
  have hM : ∀ {s2 : zD}, FX s1 s2 → Fm ds (zu s2 400 11 0) := fun f c hc => by
    rw [zu_row (by omega), f.1 c (by omega) (by omega), a5 c (by omega), zu_row (by omega)]
  have h0 : ∀ {s2 : zD}, FX s1 s2 → zu s2 400 11 0 400 0 = 0 := fun f => by
    rw [zu_ne (by omega), f.2 0 (by omega) (by omega), a7]
  rcases hl with ⟨m1, d2, s2, b1, b2, b3, b4, b5, b6⟩ | ⟨d2, s2, b1, b2, b3, b4, b5⟩
  · have hgd := hT b5 b6 (by rw [b3.2.1.1, b3.2.2.1]) (by rw [b3.2.1.2, b3.2.2.2])
    obtain ⟨d3, s3, k1, k2, k3, k4, k5, k6⟩ := R_keep hgd
    have e401 : s3 401 = ds 401 := by rw [k5 401 (by omega) (by omega), zu_row (by omega), b6.1 401 (by omega) (by omega), o401]
    have hS3 : SC (ds 401 0) d3 s3 m1 := SC_f b4 (fun c q0 q1 => by rw [k4 c (by omega) (by omega), zu_row (by omega)]) (by rw [k5 406 (by omega) (by omega), zu_row (by omega)]) (by rw [k6 21 (by omega), zu_ne (by omega)])
    obtain ⟨-, -, m1b, -⟩ := id hS3
    obtain ⟨v, d4, s4, p1, p2, p3, p4, p5, p6, p7⟩ := S_play m1.toNat zF zF (i := 0) k3 (by rw [e401]) hS3 (by omega) (by omega) (by omega) (by omega)
    refine ⟨v, d4, v, s4, ?_, ?_, p4, ((hC b5).tr (keepF k4 k5).1).tr p5, ((hM b6).tr (keepF k4 k5).2).tr p6, ?_⟩
    · rw [ecl, b1, zc_n, zl_n, if_neg (show ¬ (1 : Int) = 0 by decide), k1, zc_n, p1]
    · rw [emod, b2]
      unfold j_X12_playScript_30
      rw [zl_n, e_good (by rw [zu_ne (by omega)]; exact b3.2.2.1), zc_n, if_neg (show ¬ (1 : Int) = 0 by decide), k2, zc_n, p2]
    · rw [p7, k6 0 (by omega), h0 b6]
      exact GX_ok rfl (zR_s (by omega) (by omega))
  · have hgd := hT b4 b5 b3.1 b3.2.1
    refine ⟨-1, _, -1, _, ?_, ?_, hgd, hC b4, hM b5, ?_⟩
    · rw [ecl, b1, zc_n, zl_n, if_pos (show (0 : Int) = 0 from rfl)]
    · rw [emod, b2]
      unfold j_X12_playScript_30
      rw [zl_n, e_bad (by unfold BD; rw [zu_ne (by omega)]; exact b3.2.2), zc_n, if_pos (show (0 : Int) = 0 from rfl)]
    · rw [h0 b5]
      exact GX_ok rfl (zR_s (by omega) (by omega))
