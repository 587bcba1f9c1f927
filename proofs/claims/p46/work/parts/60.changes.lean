/-! The changes. -/
theorem GR_line {dc dc' ds ds' : zD} (h : GR dc ds) (e : ∀ c, c ≠ 6 → c < 30 ∨ 60 ≤ c → dc' c = dc c) (e1 : ∀ c, c ≠ 400 → c ≠ 401 → ds' c = ds c) (e0 : ∀ j, j ≠ 7 → j ≠ 8 → j ≠ 9 → ds' 400 j = ds 400 j) (hl : LR dc' 30 (ds' 401)) (h4 : ds' 401 4 ≤ 9999) : GR dc' ds' := by
  obtain ⟨h1, h2, ⟨a1, a2, a3, a4⟩, ⟨b1, b2, b3⟩, ⟨c1, c2, c3⟩, ⟨f1, f2⟩, ⟨g1, g2, g3⟩⟩ := h
  have ep : ∀ i, pst ds' i = pst ds i := fun i => by
    unfold pst
    rw [e1 404 (by omega) (by omega)]
  unfold GR HR SR IR ER OR
  rw [e 8 (by omega) (by omega), e 0 (by omega) (by omega), e 10 (by omega) (by omega), e 11 (by omega) (by omega), e 25 (by omega) (by omega), e1 403 (by omega) (by omega), e1 405 (by omega) (by omega), e1 408 (by omega) (by omega), e0 5 (by omega) (by omega) (by omega), e0 6 (by omega) (by omega) (by omega), e0 11 (by omega) (by omega) (by omega), e0 12 (by omega) (by omega) (by omega), e0 13 (by omega) (by omega) (by omega), e0 24 (by omega) (by omega) (by omega)]
  exact ⟨hl, h4, ⟨a1, a2, a3, fun i hi => by rw [ep]; exact ⟨LR_d (a4 i hi).1 fun c hc => e c (by omega) (by omega), (a4 i hi).2⟩⟩, ⟨b1, b2, fun q => ⟨LR_d (b3 q).1 fun c hc => e c (by omega) (by omega), (b3 q).2⟩⟩, ⟨c1, c2, c3⟩, ⟨f1, f2⟩, ⟨g1, g2, g3⟩⟩
theorem keepF {dc dc' ds ds' : zD} (f1 : ∀ c, c ≠ 8 → c < 120 ∨ 360 ≤ c → dc' c = dc c) (f2 : ∀ c, c ≠ 400 → c ≠ 404 → ds' c = ds c) : Fc dc dc' ∧ Fm ds ds' := ⟨fun c hc => f1 c (by omega) (by omega), fun c hc => f2 c (by omega) (by omega)⟩
theorem LR_alive {d : zD} {b : Nat} {s : Nat → Int} {x v : Int} (h : LR d b s) (hx : 0 ≤ x ∧ x < s 0) (hv : v = 0 ∨ v = 1) : LR (zu d (b + 16) x.toNat v) b (uT s x 3 v) := by
  obtain ⟨⟨i1, i2⟩, -⟩ := LR_2 h
  obtain ⟨K, L, h, hz⟩ := h
  have hx8 : 0 ≤ x ∧ x < 8 := by omega
  refine ⟨K, L, ?_, ?_⟩
  · rw [uT_k hx8 (by omega) (by omega), uT_k hx8 (by omega) (by omega)]
    exact RC_st (c := 16) (w := 3) h hx (by omega) ⟨fun q => absurd q (by decide), fun q => absurd q (by decide)⟩
  · rw [uT_k hx8 (by omega) (by omega), uT_k hx8 (by omega) (by omega)]
    exact RZ_T hz fun y u hu => by rw [rT_u hx8 (by omega), up2_ne (by omega)]
theorem R_life {dc ds : zD} {x v : Int} (h : LR dc 30 (ds 401)) (hx : 0 ≤ x ∧ x < ds 401 0) (hv : v = 0 ∨ v = 1) : ∃ w dc' ds', f_X2_setLife 30 x v dc = some (w, dc') ∧ f_X12_setsAlive x v ds = some (w, ds') ∧ (w = 0 ∨ w = 1) ∧ LR dc' 30 (ds' 401) ∧ (ds' 401 4 = ds 401 4 ∧ ds' 401 2 = ds 401 2) ∧ (∀ c, c < 30 ∨ 60 ≤ c → dc' c = dc c) ∧ Fs ds ds' := by
  obtain ⟨⟨i1, i2⟩, -⟩ := LR_2 h
  have hl := LR_alive h hx hv
  have hx8 : 0 ≤ x ∧ x < 8 := by omega
  have hs : tD ds x 3 v 401 = uT (ds 401) x 3 v := tD_s
  rw [← hs] at hl
  obtain ⟨K, L, hr, -⟩ := h
  obtain ⟨-, -, hQ, -, -, -, -, -, -, -, -, -, hIT, -, hU, -⟩ := hr
  have q := (hQ x hx.1 hx.2).1
  refine ⟨rT (ds 401) x 3, _, tD ds x 3 v, ?_, ?_, (hIT x hx.1 hx.2).2.2.2.1, hl, ⟨by rw [hs, uT_k hx8 (by omega) (by omega)], by rw [hs, uT_k hx8 (by omega) (by omega)]⟩, fun c hc => zu_row (by omega), Fs.u⟩
  · unfold f_X2_setLife
    rw [e_has6, zc_n, if_pos (show 0 ≤ x ∧ x < dc 1 0 by rw [hU.1]; exact hx), if_neg (show ¬ (1 : Int) = 0 by decide), zg_t (by omega), zl_n, zg_t (by omega), zl_n, q]
  · unfold f_X12_setsAlive
    rw [e_of hx8 (by omega), zc_n, e_puts hx8 (by omega), zc_n]
theorem G_kill (x : Int) : GO [1] (f_X11_kill x) (f_X12_kill x) := by
  intro dc ds hg hR
  obtain ⟨i0, i1, i2, i4, -⟩ := LR_2 hg.1
  obtain ⟨K, L, hr, hz⟩ := GR_L hg
  obtain ⟨-, -, -, -, -, -, -, -, -, -, -, -, -, -, hU, -⟩ := hr
  by_cases hx : 0 ≤ x ∧ x < ds 401 0
  · have hg0 := GR_0 (t := 0) hg
    obtain ⟨d1, s1, a1, a2, a3, a4, a5, a6⟩ := R_keep hg0
    have e0 : s1 401 = ds 401 := by rw [a5 401 (by omega) (by omega), zu_row (by omega)]
    obtain ⟨w, d2, s2, b1, b2, b3, b4, b5, b6, b7⟩ := R_life (v := 0) (x := x) a3.1 (by rw [e0]; exact hx) (Or.inl rfl)
    refine ⟨w, d2, w, s2, ?_, ?_, GR_line a3 (fun c c1 c2 => b6 c (by omega)) (fun c c1 c2 => b7 c c2) (fun j _ _ _ => by rw [b7 400 (by omega)]) b4 (by rw [b5.1]; exact a3.2.1), Fc.tr (keepF a4 a5).1 fun c hc => b6 c (by omega), Fm.tr (Fm.tr (Fm.u (by omega)) (keepF a4 a5).2) fun c hc => b7 c (by omega), ?_⟩
    · unfold f_X11_kill
      rw [e_has6, zc_n, if_pos (show 0 ≤ x ∧ x < dc 1 0 by rw [hU.1]; exact hx), if_neg (show ¬ (1 : Int) = 0 by decide), a1, zc_n, b1, zc_n]
    · unfold f_X12_kill
      rw [e_isTerminal (by omega), zc_n, if_pos hx, e_may11, zc_n, if_neg (show ¬ (1 : Int) = 0 by decide), a2, zc_n, b2, zc_n]
    · rw [b7 400 (by omega), a6 0 (by omega), zu_eq]; exact GX_ok rfl (zR_s (by omega) (by omega))
  · refine G_noT hg ?_ ?_ rfl
    · unfold f_X11_kill
      rw [e_has6, zc_n, if_neg (show ¬ (0 ≤ x ∧ x < dc 1 0) by rw [hU.1]; exact hx), if_pos rfl]
    · unfold f_X12_kill
      rw [e_isTerminal (by omega), zc_n, if_neg hx, e_may0, zc_n, if_pos (show (0 : Int) = 0 from rfl)]
theorem G_wake (x : Int) : GO [1] (f_X11_wake x) (f_X12_wake x) := by
  intro dc ds hg hR
  obtain ⟨i0, i1, i2, i4, -⟩ := LR_2 hg.1
  obtain ⟨K, L, hr, hz⟩ := GR_L hg
  obtain ⟨-, -, -, -, -, -, -, -, -, -, -, -, -, -, hU, -⟩ := hr
  by_cases hx : 0 ≤ x ∧ x < ds 401 0
  · have hg0 := GR_0 (t := 0) hg
    obtain ⟨d1, s1, a1, a2, a3, a4, a5, a6⟩ := R_keep hg0
    have e0 : s1 401 = ds 401 := by rw [a5 401 (by omega) (by omega), zu_row (by omega)]
    obtain ⟨w, d2, s2, b1, b2, b3, b4, b5, b6, b7⟩ := R_life (v := 1) (x := x) a3.1 (by rw [e0]; exact hx) (Or.inr rfl)
    refine ⟨w, d2, w, s2, ?_, ?_, GR_line a3 (fun c c1 c2 => b6 c (by omega)) (fun c c1 c2 => b7 c c2) (fun j _ _ _ => by rw [b7 400 (by omega)]) b4 (by rw [b5.1]; exact a3.2.1), Fc.tr (keepF a4 a5).1 fun c hc => b6 c (by omega), Fm.tr (Fm.tr (Fm.u (by omega)) (keepF a4 a5).2) fun c hc => b7 c (by omega), ?_⟩
    · unfold f_X11_wake
      rw [e_has6, zc_n, if_pos (show 0 ≤ x ∧ x < dc 1 0 by rw [hU.1]; exact hx), if_neg (show ¬ (1 : Int) = 0 by decide), a1, zc_n, b1, zc_n]
    · unfold f_X12_wake
      rw [e_isTerminal (by omega), zc_n, if_pos hx, e_may11, zc_n, if_neg (show ¬ (1 : Int) = 0 by decide), a2, zc_n, b2, zc_n]
    · rw [b7 400 (by omega), a6 0 (by omega), zu_eq]; exact GX_ok rfl (zR_s (by omega) (by omega))
  · refine G_noT hg ?_ ?_ rfl
    · unfold f_X11_wake
      rw [e_has6, zc_n, if_neg (show ¬ (0 ≤ x ∧ x < dc 1 0) by rw [hU.1]; exact hx), if_pos rfl]
    · unfold f_X12_wake
      rw [e_isTerminal (by omega), zc_n, if_neg hx, e_may0, zc_n, if_pos (show (0 : Int) = 0 from rfl)]
theorem Ft.fm {a c : zD} (h : Ft a c) : Fm a c := fun k hk => h.1 k (by omega) (by omega)
theorem G_run (x : Int) : GO [0] (f_X11_run x) (f_X12_run x) := by
  intro dc ds hg hR
  obtain ⟨i0, i1, i2, i4, -⟩ := LR_2 hg.1
  obtain ⟨s10, -⟩ := LR_10 hg.1
  have e4 : ds 401 (4 : Int).toNat = ds 401 4 := rfl
  by_cases hx : 1 ≤ x ∧ x ≤ 100
  · have hcan : f_X12_canRun x ds = some (if 9999 < ds 401 4 + x then 0 else 1, ds) := by
      unfold f_X12_canRun
      rw [zg_t (by omega), zl_n, e4, zl_n, zw_id (by omega) (by omega)]
      split <;> rfl
    by_cases hc : 9999 < ds 401 4 + x
    · refine G_noA0 hg ?_ ?_
      · unfold f_X11_run j_X11_run_26
        rw [if_neg (by omega), if_neg (by omega), zl_n, s10, zl_n, zw_id (by omega) (by omega), if_neg (by omega)]
      · unfold f_X12_run j_X12_run_23 j_X12_run_24
        rw [e_isIn, zc_n, if_pos hx, if_neg (show ¬ (1 : Int) = 0 by decide), hcan, zc_n, if_pos hc, if_pos (show (0 : Int) = 0 from rfl), e_may0, zc_n, if_pos (show (0 : Int) = 0 from rfl)]
    · have hg0 := GR_0 (t := 0) hg
      obtain ⟨d1, s1, a1, a2, a3, a4, a5, a6⟩ := R_keep hg0
      have e0 : s1 401 = ds 401 := by rw [a5 401 (by omega) (by omega), zu_row (by omega)]
      obtain ⟨d2, s2, b1, b2, b3, b4, b5, b6, b7⟩ := R_run (g := 6) a3.1 (by omega) (n := x) (by omega) (by rw [e0]; omega)
      obtain ⟨j0, j1, j2, j4, -⟩ := LR_2 b3
      have z1 := cSt_R (s := s1 401) (v := 3) (by rw [e0]; exact i2)
      have z2 := cSt_R (v := 3) j2
      refine ⟨cSt (s2 401) 3 - cSt (s1 401) 3, d2, cSt (s2 401) 3 - cSt (s1 401) 3, s2, ?_, ?_, GR_line a3 (fun c c1 c2 => b5 c c1 c2) (fun c c1 c2 => b6.1 c c2 c1) b6.2 b3 (by rw [b4, e0]; omega), Fc.tr (keepF a4 a5).1 fun c hc => b5 c (by omega) (by omega), Fm.tr (Fm.tr (Fm.u (by omega)) (keepF a4 a5).2) b6.fm, ?_⟩
      · unfold f_X11_run
        rw [if_neg (by omega), if_neg (by omega), zl_n, s10, zl_n, zw_id (by omega) (by omega), if_pos (by omega), a1, zc_n, k_delivered a3.1, zc_n, b1, zc_n, k_delivered b3, zc_n, zl_n, zw_id (by omega) (by omega)]
      · unfold f_X12_run j_X12_run_24
        rw [e_isIn, zc_n, if_pos hx, if_neg (show ¬ (1 : Int) = 0 by decide), hcan, zc_n, if_neg hc, if_neg (show ¬ (1 : Int) = 0 by decide), e_may11, zc_n, if_neg (show ¬ (1 : Int) = 0 by decide), a2, zc_n, b2, zc_n, zw_id (by omega) (by omega)]
      · rw [b6.2 0 (by omega) (by omega) (by omega), a6 0 (by omega), zu_eq]; exact GX_ok rfl (zR_s (by omega) (by omega))
  · refine G_noA0 hg ?_ ?_
    · unfold f_X11_run j_X11_run_26
      by_cases h0 : x < 1
      · rw [if_pos h0]
      · rw [if_neg h0, if_pos (by omega)]
    · unfold f_X12_run j_X12_run_23 j_X12_run_24
      rw [e_isIn, zc_n, if_neg hx, if_pos (show (0 : Int) = 0 from rfl), e_may0, zc_n, if_pos (show (0 : Int) = 0 from rfl)]
/-- another list -/
theorem LR_list {d d' : zD} {b : Nat} {s s' : Nat → Int} (h : LR d b s) (e : ∀ k, k ≠ 1 → k < 30 ∨ 46 ≤ k → s' k = s k) (ed : ∀ c, c ≠ b → c ≠ b + 29 → d' c = d c) (ed8 : ∀ j, j ≠ 8 → d' b j = d b j) (h8 : d' b 8 = s' 1) (h16 : 0 ≤ s' 1 ∧ s' 1 ≤ 16) (hl : ∀ k : Int, 0 ≤ k → k < s' 1 → d' (b + 29) k.toNat = s' (30 + k).toNat ∧ 0 ≤ s' (30 + k).toNat ∧ s' (30 + k).toNat < s 0) : LR d' b s' := by
  obtain ⟨K, L, h, hz⟩ := h
  obtain ⟨hS, hA, hQ, hM, hD, hK, hL, hKL, hP, hG, hI, hIL, hIT, hIM, hU, hb⟩ := h
  have hT : rT s' = rT s := by
    funext y u
    unfold rT
    split
    · rw [e _ (by omega) (by omega)]
    · rfl
  have hM' : rM s' = rM s := by
    funext y u
    unfold rM
    split
    · rw [e _ (by omega) (by omega)]
    · rfl
  refine ⟨K, L, ?_, ?_⟩
  · unfold RC
    rw [hT, hM', e 0 (by omega) (by omega), e 2 (by omega) (by omega), e 3 (by omega) (by omega), e 4 (by omega) (by omega), e 8 (by omega) (by omega), e 46 (by omega) (by omega)]
    refine ⟨?_, ⟨fun i i0 i6 => ?_, fun i i0 i13 => ?_, fun i i0 i1 => (hl i i0 i1).1⟩, RQ_d hQ fun c _ _ => ed c (by omega) (by omega), RM_d hM fun c _ _ => ed c (by omega) (by omega), RD_d hD (ed _ (by omega) (by omega)), KR_d hK fun c _ _ => ed c (by omega) (by omega), hL, hKL, hP, ?_, ?_, fun i i0 i1 => ?_, hIT, hIM, RU_d hU fun c _ _ => ed c (by omega) (by omega), hb⟩
    · obtain ⟨t1, t2, t3, t4, t5, t6, t7, t8, t9⟩ := hS
      unfold RS
      rw [ed8 9 (by omega), ed8 10 (by omega), ed8 11 (by omega), ed8 12 (by omega), ed8 13 (by omega), ed8 14 (by omega), ed8 15 (by omega), ed (b + 1) (by omega) (by omega), e 2 (by omega) (by omega), e 3 (by omega) (by omega), e 4 (by omega) (by omega), e 5 (by omega) (by omega), e 25 (by omega) (by omega), e 26 (by omega) (by omega), e 27 (by omega) (by omega), e 28 (by omega) (by omega)]
      exact ⟨h8, t2, t3, t4, t5, t6, t7, t8, t9⟩
    · rw [ed _ (by omega) (by omega), e _ (by omega) (by omega)]; exact hA.1 i i0 i6
    · rw [ed _ (by omega) (by omega), e _ (by omega) (by omega)]; exact hA.2.1 i i0 i13
    · obtain ⟨g1, g2, g3⟩ := hG
      refine ⟨by rw [ed _ (by omega) (by omega), e _ (by omega) (by omega)]; exact g1, by rw [ed _ (by omega) (by omega)]; exact g2, fun i w i0 i1 w0 w1 => ?_⟩
      rw [e 29 (by omega) (by omega)] at i1 ⊢
      rw [ed _ (by omega) (by omega), ed _ (by omega) (by omega), e _ (by omega) (by omega)]
      exact g3 i w i0 i1 w0 w1
    · obtain ⟨a0, a1, a2, a3, a4, a5, a6, a7, a8, a9, a10, a11, a12, a13, a14, a15, a16, a17⟩ := hI
      unfold RI
      rw [e 0 (by omega) (by omega), e 2 (by omega) (by omega), e 3 (by omega) (by omega), e 4 (by omega) (by omega), e 5 (by omega) (by omega), e 6 (by omega) (by omega), e 7 (by omega) (by omega), e 8 (by omega) (by omega), e 9 (by omega) (by omega), e 10 (by omega) (by omega), e 11 (by omega) (by omega), e 12 (by omega) (by omega), e 13 (by omega) (by omega), e 26 (by omega) (by omega), e 27 (by omega) (by omega), e 28 (by omega) (by omega), e 29 (by omega) (by omega), e 46 (by omega) (by omega)]
      exact ⟨a0, h16, a2, a3, a4, a5, a6, a7, a8, a9, a10, a11, a12, a13, a14, a15, a16, a17⟩
    · rw [e 0 (by omega) (by omega)]
      exact (hl i i0 i1).2
  · rw [hT, e 0 (by omega) (by omega), e 3 (by omega) (by omega)]
    exact hz
theorem LR_l {d : zD} {b : Nat} {s : Nat → Int} (h : LR d b s) : ∀ k : Int, 0 ≤ k → k < s 1 → d (b + 29) k.toNat = s (30 + k).toNat ∧ 0 ≤ s (30 + k).toNat ∧ s (30 + k).toNat < s 0 := by
  obtain ⟨K, L, ⟨-, ⟨-, -, hA⟩, -, -, -, -, -, -, -, -, -, hIL, -⟩, -⟩ := h
  exact fun k k0 k1 => ⟨hA k k0 k1, hIL k k0 k1⟩
theorem R_addPlace {dc ds : zD} {x : Int} (h : LR dc 30 (ds 401)) (hx : 0 ≤ x ∧ x < ds 401 0) (hn : ds 401 1 < 16) : ∃ dc' ds', f_X2_appendPlace 30 x dc = some (0, dc') ∧ f_X12_addsPlace x ds = some (ds 401 1 + 1, ds') ∧ LR dc' 30 (ds' 401) ∧ dc' 30 8 = ds 401 1 + 1 ∧ (ds' 401 4 = ds 401 4 ∧ ds' 401 2 = ds 401 2) ∧ (∀ c, c < 30 ∨ 60 ≤ c → dc' c = dc c) ∧ Fs ds ds' := by
  obtain ⟨i0, i1, i2, i4, -⟩ := LR_2 h
  obtain ⟨-, -, s8, -⟩ := LR_10 h
  have hl := LR_l h
  have e1 : ds 401 (1 : Int).toNat = ds 401 1 := rfl
  have hs : zu (zu ds 401 (30 + ds 401 1).toNat x) 401 1 (ds 401 1 + 1) 401 = us (us (ds 401) (30 + ds 401 1).toNat x) 1 (ds 401 1 + 1) := by rw [zu_r, zu_r]
  have s1 : zu (zu ds 401 (30 + ds 401 1).toNat x) 401 1 (ds 401 1 + 1) 401 1 = ds 401 1 + 1 := zu_eq
  refine ⟨zu (zu dc (30 + 29) (ds 401 1).toNat x) 30 8 (ds 401 1 + 1), zu (zu ds 401 (30 + ds 401 1).toNat x) 401 1 (ds 401 1 + 1), ?_, ?_, ?_, zu_eq, ?_, fun c hc => by rw [zu_row (by omega), zu_row (by omega)], Fs.tr Fs.u Fs.u⟩
  · unfold f_X2_appendPlace
    rw [zl_n, s8, if_neg (by omega), zl_n, zg_t (by omega), zl_n, zl_n, zu_o (by omega), s8, zl_n, zw_id (by omega) (by omega), zl_n]
  · have e1b : zu ds 401 (30 + ds 401 1).toNat x 401 (1 : Int).toNat = ds 401 1 := zu_ne (Or.inr (by show (1 : Nat) ≠ _; omega))
    unfold f_X12_addsPlace
    rw [zg_t (by omega), zl_n, e1, zl_n, zw_id (x := 30 + ds 401 1) (by omega) (by omega), zg_t (by omega), zl_n, zg_t (by omega), zl_n, e1b, zl_n, zw_id (x := ds 401 1 + 1) (by omega) (by omega), zg_t (by omega), zl_n, zg_t (by omega), zl_n]
    show some (zu (zu ds 401 (30 + ds 401 1).toNat x) 401 1 (ds 401 1 + 1) 401 1, _) = _
    rw [s1]
    rfl
  · refine LR_list h (fun k k1 k2 => ?_) (fun c c1 c2 => by rw [zu_row c1, zu_row c2]) (fun j hj => by rw [zu_ne (Or.inr hj), zu_o (by omega)]) (by rw [s1, zu_eq]) (by rw [s1]; omega) fun k k0 k1 => ?_
    · rw [hs, us_ne k1, us_ne (by omega)]
    · rw [s1] at k1
      rw [zu_o (by omega), hs, us_ne (by omega)]
      by_cases hk : k = ds 401 1
      · subst hk
        rw [zu_eq, us_eq]
        exact ⟨rfl, hx⟩
      · rw [zu_ne (Or.inr (by omega)), us_ne (by omega)]
        exact hl k k0 (by omega)
  · rw [hs]; exact ⟨by rw [us_ne (by omega), us_ne (by omega)], by rw [us_ne (by omega), us_ne (by omega)]⟩
theorem G_addPlace (x : Int) : GO [1, 2] (f_X11_addPlace x) (f_X12_addPlace x) := by
  intro dc ds hg hR
  obtain ⟨i0, i1, i2, i4, -⟩ := LR_2 hg.1
  obtain ⟨K, L, hr, hz⟩ := GR_L hg
  obtain ⟨-, -, -, -, -, -, -, -, -, -, -, -, -, -, hU, -⟩ := hr
  obtain ⟨-, -, s8, -⟩ := LR_10 hg.1
  have e1 : ds 401 (1 : Int).toNat = ds 401 1 := rfl
  by_cases hx : 0 ≤ x ∧ x < ds 401 0
  · have c1 : f_X6_has 1 x dc = some (1, dc) := by rw [e_has6, if_pos ⟨hx.1, by rw [hU.1]; exact hx.2⟩]
    have m1 : f_X12_isTerminal x ds = some (1, ds) := by rw [e_isTerminal (by omega), if_pos hx]
    by_cases hn : ds 401 1 < 16
    · have hg0 := GR_0 (t := 0) hg
      obtain ⟨d1, s1, a1, a2, a3, a4, a5, a6⟩ := R_keep hg0
      have e0 : s1 401 = ds 401 := by rw [a5 401 (by omega) (by omega), zu_row (by omega)]
      obtain ⟨d2, s2, b1, b2, b3, b4, b5, b6, b7⟩ := R_addPlace (x := x) a3.1 (by rw [e0]; exact hx) (by rw [e0]; exact hn)
      rw [e0] at b2 b4
      have t8 := (LR_10 a3.1).2.2.1
      refine ⟨ds 401 1 + 1, d2, ds 401 1 + 1, s2, ?_, ?_, GR_line a3 (fun c c1 c2 => b6 c (by omega)) (fun c c1 c2 => b7 c c2) (fun j _ _ _ => by rw [b7 400 (by omega)]) b3 (by rw [b5.1]; exact a3.2.1), Fc.tr (keepF a4 a5).1 fun c hc => b6 c (by omega), Fm.tr (Fm.tr (Fm.u (by omega)) (keepF a4 a5).2) fun c hc => b7 c (by omega), ?_⟩
      · unfold f_X11_addPlace
        rw [c1, zc_n, if_neg (show ¬ (1 : Int) = 0 by decide), zl_n, s8, if_pos hn, a1, zc_n, b1, zc_n, zl_n, b4]
      · unfold f_X12_addPlace j_X12_addPlace_22
        rw [m1, zc_n, zg_t (by omega), zl_n, e1, if_neg (by omega), e_may11, zc_n, if_neg (show ¬ (1 : Int) = 0 by decide), a2, zc_n, b2, zc_n]
      · rw [b7 400 (by omega), a6 0 (by omega), zu_eq]; exact GX_ok rfl (zR_s (by omega) (by omega))
    · refine GO_q hg (v := 4294967296 + 2) (v' := 0) (t := 2) ?_ ?_ (Or.inr ⟨1, 2, rfl, rfl, rfl⟩)
      · unfold f_X11_addPlace
        rw [c1, zc_n, if_neg (show ¬ (1 : Int) = 0 by decide), zl_n, s8, if_neg hn]
      · unfold f_X12_addPlace j_X12_addPlace_22
        rw [m1, zc_n, zg_t (by omega), zl_n, e1, if_pos (by omega), e_may10, zc_n, if_pos (show (0 : Int) = 0 from rfl)]
  · refine G_noT hg ?_ ?_ rfl
    · unfold f_X11_addPlace
      rw [e_has6, zc_n, if_neg (show ¬ (0 ≤ x ∧ x < dc 1 0) by rw [hU.1]; exact hx), if_pos rfl]
    · unfold f_X12_addPlace j_X12_addPlace_22
      rw [e_isTerminal (by omega), zc_n, if_neg hx, zg_t (by omega), zl_n]
      split
      · rw [e_may0, zc_n, if_pos (show (0 : Int) = 0 from rfl)]
      · rw [e_may0, zc_n, if_pos (show (0 : Int) = 0 from rfl)]
theorem L_drop {n t m0 : Int} (hn : 0 ≤ n ∧ n ≤ 15) (hm0 : m0 ≤ 8) : ∀ (k q q' : Nat) {dc ds : zD} {i : Int}, dc 30 8 = n → ds 401 1 = n → (∀ j : Int, 0 ≤ j → j ≤ n → dc (30 + 29) j.toNat = ds 401 (30 + j).toNat ∧ 0 ≤ ds 401 (30 + j).toNat ∧ ds 401 (30 + j).toNat < m0) → 0 ≤ i → i + k = n → k < q → k < q' → ∃ dc' ds', l_X2_removePlace_20 30 q i dc = some (0, dc') ∧ l_X12_dropsPlace_26 q' t i ds = some (t, ds') ∧ (∀ j : Int, 0 ≤ j → j ≤ n → dc' (30 + 29) j.toNat = ds' 401 (30 + j).toNat ∧ 0 ≤ ds' 401 (30 + j).toNat ∧ ds' 401 (30 + j).toNat < m0) ∧ (∀ c, c ≠ 30 + 29 → dc' c = dc c) ∧ Fs ds ds' ∧ (∀ j, j < 30 ∨ 46 ≤ j → ds' 401 j = ds 401 j) := by
  intro k
  induction k with
  | zero =>
    intro q q' dc ds i h8 h1 hl i0 ik hq hq'
    obtain ⟨q, rfl⟩ : ∃ q0, q = q0 + 1 := ⟨q - 1, by omega⟩
    obtain ⟨q', rfl⟩ : ∃ q0, q' = q0 + 1 := ⟨q' - 1, by omega⟩
    refine ⟨dc, ds, ?_, ?_, hl, fun _ _ => rfl, Fs.rf, fun _ _ => rfl⟩
    · show l_X2_removePlace_20F 30 _ i dc = _
      unfold l_X2_removePlace_20F
      rw [zl_n, h8, if_pos (by omega)]
    · show l_X12_dropsPlace_26F _ t i ds = _
      unfold l_X12_dropsPlace_26F
      rw [zg_t (by omega), zl_n]
      show (if ds 401 1 ≤ i then _ else _) = _
      rw [h1, if_pos (by omega)]
  | succ k ih =>
    intro q q' dc ds i h8 h1 hl i0 ik hq hq'
    obtain ⟨q, rfl⟩ : ∃ q0, q = q0 + 1 := ⟨q - 1, by omega⟩
    obtain ⟨q', rfl⟩ : ∃ q0, q' = q0 + 1 := ⟨q' - 1, by omega⟩
    have hv := hl (i + 1) (by omega) (by omega)
    have e31 : (30 + i + 1).toNat = (30 + (i + 1)).toNat := by omega
    obtain ⟨d2, s2, r1, r2, r3, r4, r5, r6⟩ := ih q q' (dc := zu dc (30 + 29) i.toNat (ds 401 (30 + (i + 1)).toNat)) (ds := zu ds 401 (30 + i).toNat (ds 401 (30 + (i + 1)).toNat)) (i := i + 1) (by rw [zu_o (by omega)]; exact h8) (by rw [zu_ne (Or.inr (by omega))]; exact h1) (fun j j0 j1 => by
      by_cases hj : j = i
      · subst hj
        rw [zu_eq, zu_eq]
        exact ⟨rfl, hv.2⟩
      · rw [zu_ne (Or.inr (by omega)), zu_ne (Or.inr (by omega))]
        exact hl j j0 j1) (by omega) (by omega) (by omega) (by omega)
    refine ⟨d2, s2, ?_, ?_, r3, fun c hc => (r4 c hc).trans (zu_row hc), Fs.tr Fs.u r5, fun j hj => (r6 j hj).trans (zu_ne (Or.inr (by omega)))⟩
    · show l_X2_removePlace_20F 30 _ i dc = _
      unfold l_X2_removePlace_20F
      rw [zl_n, h8, if_neg (by omega), zl_n, zw_id (x := i + 1) (by omega) (by omega), zg_t (by omega), zl_n, zg_t (by omega), zl_n, zl_n, hv.1]
      exact r1
    · show l_X12_dropsPlace_26F _ t i ds = _
      unfold l_X12_dropsPlace_26F
      rw [zg_t (by omega), zl_n]
      show (if ds 401 1 ≤ i then _ else _) = _
      rw [h1, if_neg (by omega), zl_n, zl_n, zl_n, zw_id (x := 30 + i) (by omega) (by omega), zw_id (x := 30 + i + 1) (by omega) (by omega), zg_t (by omega), zl_n, zg_t (by omega), zl_n, zl_n, zw_id (x := i + 1) (by omega) (by omega), e31]
      exact r2
theorem R_dropPlace {dc ds : zD} {x : Int} (h : LR dc 30 (ds 401)) (hx : 0 ≤ x ∧ x < ds 401 1) : ∃ dc' ds', f_X2_removePlace 30 x dc = some (0, dc') ∧ f_X12_dropsPlace x ds = some (ds 401 (30 + x).toNat, ds') ∧ LR dc' 30 (ds' 401) ∧ (ds' 401 4 = ds 401 4 ∧ ds' 401 2 = ds 401 2) ∧ (∀ c, c < 30 ∨ 60 ≤ c → dc' c = dc c) ∧ Fs ds ds' := by
  obtain ⟨i0, i1, i2, i4, -⟩ := LR_2 h
  obtain ⟨-, -, s8, -⟩ := LR_10 h
  have hl := LR_l h
  have e1 : ds 401 (1 : Int).toNat = ds 401 1 := rfl
  have hs : zu ds 401 1 (ds 401 1 - 1) 401 = us (ds 401) 1 (ds 401 1 - 1) := zu_r
  obtain ⟨d2, s2, r1, r2, r3, r4, r5, r6⟩ := L_drop (n := ds 401 1 - 1) (t := ds 401 (30 + x).toNat) (m0 := ds 401 0) (by omega) (by omega) (ds 401 1 - 1 - x).toNat zF zF (dc := zu dc 30 8 (ds 401 1 - 1)) (ds := zu ds 401 1 (ds 401 1 - 1)) (i := x) zu_eq zu_eq (fun j j0 j1 => by
    rw [zu_o (by omega), zu_ne (Or.inr (by omega))]
    exact hl j j0 (by omega)) hx.1 (by omega) (by have := zF_big; omega) (by have := zF_big; omega)
  have s21 : s2 401 1 = ds 401 1 - 1 := by rw [r6 1 (by omega), zu_eq]
  refine ⟨d2, s2, ?_, ?_, ?_, ⟨by rw [r6 4 (by omega), zu_ne (by omega)], by rw [r6 2 (by omega), zu_ne (by omega)]⟩, fun c hc => by rw [r4 c (by omega), zu_row (by omega)], Fs.tr Fs.u r5⟩
  · unfold f_X2_removePlace f_X2_hasPlace
    rw [if_neg (by omega), zl_n, s8, if_neg (by omega), zc_n, if_neg (show ¬ (1 : Int) = 0 by decide), zl_n, s8, zl_n, zw_id (by omega) (by omega), zl_n]
    exact r1
  · unfold f_X12_dropsPlace
    rw [zl_n, zw_id (x := 30 + x) (by omega) (by omega), zg_t (by omega), zl_n, zg_t (by omega), zl_n, e1, zl_n, zw_id (x := ds 401 1 - 1) (by omega) (by omega), zg_t (by omega), zl_n]
    exact r2
  · refine LR_list h (fun k k1 k2 => ?_) (fun c c1 c2 => by rw [r4 c c2, zu_row c1]) (fun j hj => by rw [r4 30 (by omega), zu_ne (Or.inr hj)]) (by rw [r4 30 (by omega), zu_eq, s21]) (by rw [s21]; omega) fun k k0 k1 => ?_
    · rw [r6 k (by omega), zu_ne (Or.inr k1)]
    · rw [s21] at k1
      exact r3 k k0 (by omega)
theorem G_dropPlace (x : Int) : GO [1] (f_X11_dropPlace x) (f_X12_dropPlace x) := by
  intro dc ds hg hR
  obtain ⟨i0, i1, i2, i4, -⟩ := LR_2 hg.1
  obtain ⟨-, -, s8, -⟩ := LR_10 hg.1
  have e1 : ds 401 (1 : Int).toNat = ds 401 1 := rfl
  by_cases hx : 0 ≤ x ∧ x < ds 401 1
  · have hg0 := GR_0 (t := 0) hg
    obtain ⟨d1, s1, a1, a2, a3, a4, a5, a6⟩ := R_keep hg0
    have e0 : s1 401 = ds 401 := by rw [a5 401 (by omega) (by omega), zu_row (by omega)]
    obtain ⟨d2, s2, b1, b2, b3, b5, b6, b7⟩ := R_dropPlace (x := x) a3.1 (by rw [e0]; exact hx)
    have hl := LR_l a3.1 x hx.1 (by rw [e0]; exact hx.2)
    rw [e0] at b2 hl
    refine ⟨ds 401 (30 + x).toNat, d2, ds 401 (30 + x).toNat, s2, ?_, ?_, GR_line a3 (fun c c1 c2 => b6 c (by omega)) (fun c c1 c2 => b7 c c2) (fun j _ _ _ => by rw [b7 400 (by omega)]) b3 (by rw [b5.1]; exact a3.2.1), Fc.tr (keepF a4 a5).1 fun c hc => b6 c (by omega), Fm.tr (Fm.tr (Fm.u (by omega)) (keepF a4 a5).2) fun c hc => b7 c (by omega), ?_⟩
    · unfold f_X11_dropPlace f_X2_hasPlace
      rw [if_neg (by omega), zl_n, s8, if_neg (by omega), zc_n, if_neg (show ¬ (1 : Int) = 0 by decide), a1, zc_n, zg_t (by omega), zl_n, hl.1, b1, zc_n]
    · unfold f_X12_dropPlace
      rw [zg_t (by omega), zl_n, e1, zl_n, zw_id (by omega) (by omega), e_isIn, zc_n, if_pos (by omega), e_may11, zc_n, if_neg (show ¬ (1 : Int) = 0 by decide), a2, zc_n, b2, zc_n]
    · rw [b7 400 (by omega), a6 0 (by omega), zu_eq]; exact GX_ok rfl (zR_s (by omega) (by omega))
  · refine G_noT hg ?_ ?_ rfl
    · unfold f_X11_dropPlace f_X2_hasPlace
      by_cases h0 : x < 0
      · rw [if_pos h0, zc_n, if_pos rfl]
      · rw [if_neg h0, zl_n, s8, if_pos (by omega), zc_n, if_pos rfl]
    · unfold f_X12_dropPlace
      rw [zg_t (by omega), zl_n, e1, zl_n, zw_id (by omega) (by omega), e_isIn, zc_n, if_neg (by omega), e_may0, zc_n, if_pos (show (0 : Int) = 0 from rfl)]
theorem ztab_lo {k : Nat} (hk : k < 6) : ztab 0 k = sLo k := by
  have hk6 : k = 0 ∨ k = 1 ∨ k = 2 ∨ k = 3 ∨ k = 4 ∨ k = 5 := by omega
  rcases hk6 with rfl | rfl | rfl | rfl | rfl | rfl <;> rfl
theorem ztab_hi {k : Nat} (hk : k < 6) : ztab 1 k = sHi k := by
  have hk6 : k = 0 ∨ k = 1 ∨ k = 2 ∨ k = 3 ∨ k = 4 ∨ k = 5 := by omega
  rcases hk6 with rfl | rfl | rfl | rfl | rfl | rfl <;> rfl
theorem e_least {x : Int} {d : zD} (hx : 0 ≤ x ∧ x ≤ 5) : f_X12_least x d = some (sLo x.toNat, d) := by
  unfold f_X12_least sLo
  by_cases h : 3 ≤ x
  · rw [if_pos h, if_neg (by omega)]
  · rw [if_neg h, if_pos (by omega)]
theorem e_greatest {x : Int} {d : zD} (hx : 0 ≤ x ∧ x ≤ 5) : f_X12_greatest x d = some (sHi x.toNat, d) := by
  have h6 : x = 0 ∨ x = 1 ∨ x = 2 ∨ x = 3 ∨ x = 4 ∨ x = 5 := by omega
  rcases h6 with rfl | rfl | rfl | rfl | rfl | rfl <;> rfl