/-! A terminal of a setup. -/
theorem SU_lay {dc ds dc' ds' : zD} {m a c y0 y1 y2 : Int} (hS : SU dc ds) (hm : ds 401 0 = m) (h8 : m < 8) (hn : nmr a c) (hy : (1 ≤ y0 ∧ y0 ≤ 9) ∧ (1 ≤ y1 ∧ y1 ≤ 4) ∧ 0 ≤ y2 ∧ y2 ≤ 30) (c13 : dc' 13 0 = m + 1) (c14 : dc' 14 m.toNat = a) (c15 : dc' 15 m.toNat = y0) (c16 : dc' 16 m.toNat = y1) (c17 : dc' 17 m.toNat = y2) (co : ∀ c j : Nat, 14 ≤ c → c ≤ 17 → j ≠ m.toNat → dc' c j = dc c j) (ck : ∀ c, c = 12 ∨ c = 18 ∨ c = 19 → dc' c = dc c) (o : ds' 401 = us (uT (uT (uT (uT (uT (uT (ds 401) m 0 y0) m 1 y1) m 2 y2) m 3 1) m 4 1) m 15 c) 0 (m + 1)) (o19 : ds' 400 19 = ds 400 19) : SU dc' ds' := by
  obtain ⟨⟨n1, n2, n3⟩, s2, ⟨f2, f3, f4, f12, f26, f27, f28, f29, f46, fT⟩, ⟨v1, v5, v6, v7, v8, v9, v10, v11, v30, vT⟩, s5, s6, s7, s8, s9, s10, s11⟩ := hS
  have m0 : 0 ≤ m ∧ m < 8 := by omega
  have eT : rT (ds' 401) = up2 (up2 (up2 (up2 (up2 (up2 (rT (ds 401)) m 0 y0) m 1 y1) m 2 y2) m 3 1) m 4 1) m 15 c := by
    rw [o, rT_f (by omega), rT_u m0 (by omega), rT_u m0 (by omega), rT_u m0 (by omega), rT_u m0 (by omega), rT_u m0 (by omega), rT_u m0 (by omega)]
  have eo : ∀ j, j ≠ 0 → j < 50 ∨ 178 ≤ j → ds' 401 j = ds 401 j := fun j j0 hj => by
    rw [o, us_ne j0, uT_k m0 (by omega) hj, uT_k m0 (by omega) hj, uT_k m0 (by omega) hj, uT_k m0 (by omega) hj, uT_k m0 (by omega) hj, uT_k m0 (by omega) hj]
  have e0 : ds' 401 0 = m + 1 := by rw [o, us_eq]
  have tne : ∀ x u : Int, x ≠ m → rT (ds' 401) x u = rT (ds 401) x u := fun x u hx => by
    rw [eT]
    simp (disch := omega) only [up2_ne]
  have t0 : rT (ds' 401) m 0 = y0 := by rw [eT]; simp (disch := omega) only [up2_ne, up2_eq]
  have t1 : rT (ds' 401) m 1 = y1 := by rw [eT]; simp (disch := omega) only [up2_ne, up2_eq]
  have t2 : rT (ds' 401) m 2 = y2 := by rw [eT]; simp (disch := omega) only [up2_ne, up2_eq]
  have t3 : rT (ds' 401) m 3 = 1 := by rw [eT]; simp (disch := omega) only [up2_ne, up2_eq]
  have t4 : rT (ds' 401) m 4 = 1 := by rw [eT]; simp (disch := omega) only [up2_ne, up2_eq]
  have t15 : rT (ds' 401) m 15 = c := by rw [eT, up2_eq]
  have tz : ∀ x u : Int, 5 ≤ u → u < 15 → rT (ds' 401) x u = rT (ds 401) x u := fun x u u0 u1 => by
    rw [eT]
    simp (disch := omega) only [up2_ne]
  refine ⟨⟨by rw [c13, e0], by rw [e0]; omega, fun x x0 x1 => ?_⟩, fun x x0 x1 => ?_, ⟨?_, ?_, ?_, fun k k0 k1 => by rw [eo k (by omega) (by omega)]; exact f12 k k0 k1, ?_, ?_, ?_, ?_, ?_, fun x u x0 x1 u0 u1 => by rw [tz x u u0 u1]; exact fT x u x0 x1 u0 u1⟩, ⟨?_, ?_, ?_, ?_, ?_, ?_, ?_, ?_, fun k k0 k1 => ?_, fun x x0 x1 => ?_⟩, ?_, ?_, fun j hj => ?_, fun k k0 k1 => ?_, ?_, ?_, ?_⟩
  · rw [e0] at x1
    show nmr (dc' 14 x.toNat) _
    by_cases e : x = m
    · rw [e, c14, t15]; exact hn
    · rw [co 14 _ (by omega) (by omega) (by omega), tne x 15 e]; exact n3 x x0 (by omega)
  · rw [e0] at x1
    by_cases e : x = m
    · rw [e, c15, c16, c17, t0, t1, t2]; exact ⟨rfl, rfl, rfl⟩
    · rw [co 15 _ (by omega) (by omega) (by omega), co 16 _ (by omega) (by omega) (by omega), co 17 _ (by omega) (by omega) (by omega), tne x 0 e, tne x 1 e, tne x 2 e]; exact s2 x x0 (by omega)
  · rw [eo 2 (by omega) (by omega)]; exact f2
  · rw [eo 3 (by omega) (by omega)]; exact f3
  · rw [eo 4 (by omega) (by omega)]; exact f4
  · rw [eo 26 (by omega) (by omega)]; exact f26
  · rw [eo 27 (by omega) (by omega)]; exact f27
  · rw [eo 28 (by omega) (by omega)]; exact f28
  · rw [eo 29 (by omega) (by omega)]; exact f29
  · rw [eo 46 (by omega) (by omega)]; exact f46
  · rw [eo 1 (by omega) (by omega)]; exact v1
  · rw [eo 5 (by omega) (by omega)]; exact v5
  · rw [eo 6 (by omega) (by omega)]; exact v6
  · rw [eo 7 (by omega) (by omega)]; exact v7
  · rw [eo 8 (by omega) (by omega)]; exact v8
  · rw [eo 9 (by omega) (by omega)]; exact v9
  · rw [eo 10 (by omega) (by omega)]; exact v10
  · rw [eo 11 (by omega) (by omega)]; exact v11
  · rw [eo 1 (by omega) (by omega)] at k1
    rw [eo _ (by omega) (by omega), e0]
    have := v30 k k0 k1
    omega
  · rw [e0] at x1
    by_cases e : x = m
    · rw [e, t0, t1, t2, t3, t4]; exact ⟨hy.1, hy.2.1, hy.2.2, rfl, rfl⟩
    · rw [tne x 0 e, tne x 1 e, tne x 2 e, tne x 3 e, tne x 4 e]; exact vT x x0 (by omega)
  · rw [ck 12 (by omega), eo 1 (by omega) (by omega)]; exact s5
  · rw [ck 12 (by omega), eo 5 (by omega) (by omega)]; exact s6
  · rw [ck 18 (by omega), eo _ (by omega) (by omega)]; exact s7 j hj
  · rw [eo 1 (by omega) (by omega)] at k1
    rw [ck 19 (by omega), eo _ (by omega) (by omega)]; exact s8 k k0 k1
  · rw [ck 12 (by omega), o19]; exact s9
  · rw [o19]; exact s10
  · rw [o19]; exact s11
theorem B_opt {d : zD} {t : Nat} {x y z : Int} (h : BD d) : f_X12_optional t x y z d = some (z, d) := by
  unfold f_X12_optional f_X12_takes
  rw [B_word h, zc_n, if_pos (show (0 : Int) = 0 from rfl), zc_n, if_pos (show (0 : Int) = 0 from rfl)]
theorem B_r50 {d : zD} (h : BD d) : j_X12_readsTerminal_50 d = some (0, d) := by
  unfold j_X12_readsTerminal_50
  rw [zl_n, B_on h, zc_n, B_opt h, zc_n, B_opt h, zc_n, B_opt h, zc_n, e_bad h, zc_n, if_pos (show (0 : Int) = 0 from rfl)]
theorem B_r30 {d : zD} (h : BD d) : j_X12_readsTerminal_30 d = some (0, d) := by
  unfold j_X12_readsTerminal_30
  rw [e_bad h, zc_n, if_pos (show (0 : Int) = 0 from rfl), B_r50 h]
theorem B_r14 {d : zD} (h : BD d) : j_X12_readsTerminal_14 d = some (0, d) := by
  obtain ⟨v, hv⟩ := B_name h
  unfold j_X12_readsTerminal_14
  rw [B_on h, zc_n, hv, zc_n, B_errs h, zc_n, B_r30 h]
  split <;> rfl
section K8
variable {B : Int → Int} {n : Int}
theorem P_opt {dc ds : zD} {t t' a2 : Nat} {lo hi df m : Int} (h : PG B n dc ds) (ht : (zt1 t).2.2.2 = (zt1 t').2.2.2) (hm : dc 13 0 = m + 1) (hm0 : 0 ≤ m ∧ m < 8) (ha : a2 = 15 ∨ a2 = 16 ∨ a2 = 17) (hlo : 0 ≤ lo) (hd : dc a2 m.toNat = df) (hdf : lo ≤ df ∧ df ≤ hi) : (∃ v dc1 ds1, f_X7_readOption t a2 8 lo hi dc = some (1, dc1) ∧ f_X12_optional t' lo hi df ds = some (v, ds1) ∧ PG B n dc1 ds1 ∧ dc1 a2 m.toNat = v ∧ (lo ≤ v ∧ v ≤ hi) ∧ (∀ c, c ≠ 10 → c ≠ a2 → dc1 c = dc c) ∧ (∀ j, j ≠ m.toNat → dc1 a2 j = dc a2 j) ∧ FY dc dc1 ∧ FS2 ds ds1) ∨ (∃ v dc1 ds1, f_X7_readOption t a2 8 lo hi dc = some (0, dc1) ∧ f_X12_optional t' lo hi df ds = some (v, ds1) ∧ PB dc1 ds1 ∧ FY dc dc1 ∧ FS2 ds ds1) := by
  obtain ⟨w, hw, w1, w2⟩ := P_word (t1 := t) (t2 := t') h ht
  rcases hw with e | e
  · rw [e] at w1 w2
    refine Or.inl ⟨df, dc, ds, ?_, ?_, h, hd, hdf, fun _ _ _ => rfl, fun _ _ => rfl, FT2.rf.y, FS2.rf⟩
    · unfold f_X7_readOption
      rw [w1, zc_n, if_pos (show (0 : Int) = 0 from rfl)]
    · unfold f_X12_optional f_X12_takes
      rw [w2, zc_n, if_pos (show (0 : Int) = 0 from rfl), zc_n, if_pos (show (0 : Int) = 0 from rfl)]
  · rw [e] at w1 w2
    obtain ⟨d1, s1, a1, a2', a3, a4, a5⟩ := P_scan h
    obtain ⟨v, w, d2, s2, b1, b2, b3, b4, b5⟩ := P_num (x := lo) (y := hi) a3 hlo
    have q13 : d2 13 0 = m + 1 := by rw [b4.1 13 (by omega), a4.1 13 (by omega), hm]
    have cl : f_X7_readOption t a2 8 lo hi dc = if v = -1 then some (0, d2) else some (1, zu d2 a2 m.toNat v) := by
      unfold f_X7_readOption
      rw [w1, zc_n, if_neg (show ¬ (1 : Int) = 0 by decide), a1, zc_n, b1, zc_n, zl_n, q13, zl_n, zw_id (x := m + 1 - 1) (by omega) (by omega), show m + 1 - 1 = m by omega, if_pos hm0.1, zg_t (by omega), zl_n]
    have re : f_X12_optional t' lo hi df ds = some (w, s2) := by
      unfold f_X12_optional f_X12_takes
      rw [w2, zc_n, if_neg (show ¬ (1 : Int) = 0 by decide), a2', zc_n, zc_n, if_neg (show ¬ (1 : Int) = 0 by decide), b2, zc_n]
    have fT := a4.tr b4
    rcases b3 with ⟨k1, k2, k3⟩ | ⟨k1, k2, k3⟩
    · refine Or.inl ⟨w, zu d2 a2 m.toNat v, s2, by rw [cl, if_neg (by omega)], re, PG_c k3 (zu_row (by omega)) (zu_row (by omega)), by rw [zu_eq]; exact k1, by omega, fun c c1 c2 => by rw [zu_row c2]; exact fT.1 c c1, fun j hj => by rw [zu_ne (Or.inr hj), fT.1 a2 (by omega)], fT.y.tr (FY.u (by omega)), a5.tr b5⟩
    · exact Or.inr ⟨w, d2, s2, by rw [cl, if_pos k1], re, k3, fT.y, a5.tr b5⟩
theorem P_rterm {dc ds : zD} (h : PG B n dc ds) (hS : SU dc ds) : (∃ dc1 ds1, f_X7_readTerminal dc = some (1, dc1) ∧ f_X12_readsTerminal ds = some (0, ds1) ∧ PG B n dc1 ds1 ∧ SU dc1 ds1 ∧ (ds1 401 0 = ds 401 0 + 1 ∧ ds1 400 19 = ds 400 19 ∧ ds1 401 1 = ds 401 1) ∧ FY dc dc1 ∧ FZ ds ds1) ∨ (∃ dc1 ds1, f_X7_readTerminal dc = some (0, dc1) ∧ f_X12_readsTerminal ds = some (0, ds1) ∧ PB dc1 ds1 ∧ FY dc dc1 ∧ FZ ds ds1) := by
  obtain ⟨⟨n1, n2, n3⟩, -⟩ := id hS
  obtain ⟨m, hm⟩ : ∃ m, ds 401 0 = m := ⟨_, rfl⟩
  by_cases h8 : m = 8
  · obtain ⟨d1, s1, a1, a2, a3, a4, a5⟩ := P_fail (e := 5) h (by decide)
    refine Or.inr ⟨d1, s1, ?_, ?_, a3, a4.y, a5.z⟩
    · unfold f_X7_readTerminal
      rw [zl_n, n1, hm, if_neg (by omega), a1, zc_n]
    · unfold f_X12_readsTerminal
      rw [e_many, zc_n, hm, if_pos h8, a2, zc_n, B_r14 a3.2.2]
  · obtain ⟨d1, s1, a1, a2, a3, a4, a5⟩ := P_adv h
    have hS1 := SU_t hS a4 a5
    obtain ⟨⟨p1, p2, p3⟩, -⟩ := id hS1
    have e401 : s1 401 = ds 401 := a5.1 401 (by omega)
    have c1 : ∀ {x : Option (Int × zD)}, (zc (f_X9_nameHere d1) fun v32 d => if (v32 : Int) = (-1) then (zc (f_X9_fail 1 d) fun v46 d => some (v46, d)) else (zc (f_X6_find 13 v32 d) fun v55 d => if (v55 : Int) = (-1) then (zc (f_X6_addTerminal 13 v32 d) fun _ d => zc (f_X9_advance d) fun _ d => zc (f_X7_readOption 6 (13 + 2) 8 1 9 d) fun v99 d => if (v99 : Int) = 0 then (some (0, d)) else (zc (f_X7_readOption 7 (13 + 3) 8 1 4 d) fun v117 d => if (v117 : Int) = 0 then (some (0, d)) else (zc (f_X7_readOption 8 (13 + 4) 8 0 30 d) fun v136 d => if (v136 : Int) = 0 then (some (0, d)) else (some (1, d))))) else (zc (f_X9_fail 4 d) fun v67 d => some (v67, d)))) = x → f_X7_readTerminal dc = x := fun {x} hx => by
      unfold f_X7_readTerminal
      rw [zl_n, n1, hm, if_pos (by omega), a1, zc_n]
      exact hx
    have r1 : f_X12_readsTerminal ds = zc (f_X12_isName s1) fun v19 d => if (v19 : Int) = 0 then (zc (f_X12_errs 1 d) fun _ d => j_X12_readsTerminal_30 d) else (j_X12_readsTerminal_30 d) := by
      unfold f_X12_readsTerminal j_X12_readsTerminal_14
      rw [e_many, zc_n, hm, if_neg h8, a2, zc_n]
    have g2 := a3.2.2.1
    rcases P_name a3 with ⟨m1, m2⟩ | ⟨a, m1, m2, m3⟩
    · obtain ⟨d2, s2, b1, b2, b3, b4, b5⟩ := P_fail (e := 1) a3 (by decide)
      refine Or.inr ⟨d2, s2, c1 ?_, ?_, b3, (a4.tr b4).y, (a5.tr b5).z⟩
      · rw [m1, zc_n, if_pos (show (-1 : Int) = -1 from rfl), b1, zc_n]
      · rw [r1, m2, zc_n, if_pos (show (0 : Int) = 0 from rfl), b2, zc_n, B_r30 b3.2.2]
    · have ap := nmr_pos m3
      obtain ⟨v, hv2, f1, f2⟩ := P_find (s := 13) p1 p2 p3 m3
      have r2 : f_X12_readsTerminal ds = if v = -1 then j_X12_readsTerminal_50 s1 else zc (f_X12_errs 4 s1) fun _ d => j_X12_readsTerminal_50 d := by
        rw [r1, m2, zc_n, if_neg (show ¬ (1 : Int) = 0 by decide)]
        unfold j_X12_readsTerminal_30
        rw [e_good g2, zc_n, if_neg (show ¬ (1 : Int) = 0 by decide), f2, zc_n]
      by_cases hv : v = -1
      · -- a new name
        have q13 : d1 13 0 = m := by rw [p1, e401, hm]
        have n2' : 0 ≤ m ∧ m ≤ 8 := by omega
        generalize hA : zu (zu (zu (zu (zu d1 (13 + 1) m.toNat a) (13 + 2) m.toNat 2) (13 + 3) m.toNat 2) (13 + 4) m.toNat 5) 13 0 (m + 1) = dA
        have eA : f_X6_addTerminal 13 a d1 = some (0, dA) := by
          unfold f_X6_addTerminal
          rw [zl_n, q13, if_neg (by omega), zl_n, zg_t (by omega), zl_n, zl_n, zu_ne (by omega), q13, zg_t (by omega), zl_n, zl_n, zu_ne (by omega), zu_ne (by omega), q13, zg_t (by omega), zl_n, zl_n, zu_ne (by omega), zu_ne (by omega), zu_ne (by omega), q13, zg_t (by omega), zl_n, zl_n, zu_ne (by omega), zu_ne (by omega), zu_ne (by omega), zu_ne (by omega), q13, zl_n, zw_id (by omega) (by omega), zl_n, ← hA]
        have kA : ∀ c, c < 13 ∨ 17 < c → dA c = d1 c := fun c hc => by rw [← hA]; simp (disch := omega) only [zu_row]
        have kj : ∀ c j : Nat, 14 ≤ c → c ≤ 17 → j ≠ m.toNat → dA c j = d1 c j := fun c j c0 c1 hj => by rw [← hA]; simp (disch := omega) only [zu_ne]
        have A13 : dA 13 0 = m + 1 := by rw [← hA, zu_eq]
        have A14 : dA 14 m.toNat = a := by rw [← hA, zu_ne (by omega), zu_ne (by omega), zu_ne (by omega), zu_ne (by omega)]; exact zu_eq
        have A15 : dA 15 m.toNat = 2 := by rw [← hA, zu_ne (by omega), zu_ne (by omega), zu_ne (by omega)]; exact zu_eq
        have A16 : dA 16 m.toNat = 2 := by rw [← hA, zu_ne (by omega), zu_ne (by omega)]; exact zu_eq
        have A17 : dA 17 m.toNat = 5 := by rw [← hA, zu_ne (by omega)]; exact zu_eq
        have fA : FY dc dA := a4.y.tr ⟨fun c c1 c2 => kA c (by omega), fun j hj => by rw [kA 10 (by omega)]⟩
        have hPA : PG B n dA s1 := PG_c a3 (kA 10 (by omega)) (kA 11 (by omega))
        obtain ⟨d2, s2, b1, b2, b3, b4, b5⟩ := P_adv hPA
        have cl2 : ∀ {x : Option (Int × zD)}, (zc (f_X7_readOption 6 (13 + 2) 8 1 9 d2) fun v99 d => if (v99 : Int) = 0 then (some (0, d)) else (zc (f_X7_readOption 7 (13 + 3) 8 1 4 d) fun v117 d => if (v117 : Int) = 0 then (some (0, d)) else (zc (f_X7_readOption 8 (13 + 4) 8 0 30 d) fun v136 d => if (v136 : Int) = 0 then (some (0, d)) else (some (1, d))))) = x → f_X7_readTerminal dc = x := fun {x} hx => c1 (by
          rw [m1, zc_n, if_neg (by omega), f1, zc_n, if_pos hv, eA, zc_n, b1, zc_n]
          exact hx)
        have r3 : f_X12_readsTerminal ds = zc (f_X12_optional 18 1 9 2 s2) fun v66 d => zc (f_X12_optional 19 1 4 2 d) fun v76 d => zc (f_X12_optional 20 0 30 5 d) fun v87 d => zc (f_X12_isGood d) fun v93 d => if (v93 : Int) = 0 then (some (0, d)) else (zc (f_X12_lays (s1 400 18) v66 v76 v87 d) fun _ d => some (0, d)) := by
          rw [r2, if_pos hv]
          unfold j_X12_readsTerminal_50
          rw [zl_n, b2, zc_n]
        rcases P_opt (t := 6) (t' := 18) (a2 := 15) (lo := 1) (hi := 9) (df := 2) (m := m) b3 rfl (by rw [b4.1 13 (by omega), A13]) (by omega) (by omega) (by omega) (by rw [b4.1 15 (by omega), A15]) (by omega) with ⟨y0, d3, s3, e1, e2, e3, e4, e5, e6, e7, e8, e9⟩ | ⟨y0, d3, s3, e1, e2, e3, e4, e5⟩
        · rcases P_opt (t := 7) (t' := 19) (a2 := 16) (lo := 1) (hi := 4) (df := 2) (m := m) e3 rfl (by rw [e6 13 (by omega) (by omega), b4.1 13 (by omega), A13]) (by omega) (by omega) (by omega) (by rw [e6 16 (by omega) (by omega), b4.1 16 (by omega), A16]) (by omega) with ⟨y1, d4, s4, g1, g2', g3, g4, g5, g6, g7, g8, g9⟩ | ⟨y1, d4, s4, g1, g2', g3, g4, g5⟩
          · rcases P_opt (t := 8) (t' := 20) (a2 := 17) (lo := 0) (hi := 30) (df := 5) (m := m) g3 rfl (by rw [g6 13 (by omega) (by omega), e6 13 (by omega) (by omega), b4.1 13 (by omega), A13]) (by omega) (by omega) (by omega) (by rw [g6 17 (by omega) (by omega), e6 17 (by omega) (by omega), b4.1 17 (by omega), A17]) (by omega) with ⟨y2, d5, s5, i1, i2, i3, i4, i5, i6, i7, i8, i9⟩ | ⟨y2, d5, s5, i1, i2, i3, i4, i5⟩
            · have fs : FS2 ds s5 := a5.tr (b5.tr (e9.tr (g9.tr i9)))
              have f401 : s5 401 = ds 401 := fs.1 401 (by omega)
              have el : f_X12_lays (s1 400 18) y0 y1 y2 s5 = some (0, zu (tD (tD (tD (tD (tD (tD s5 m 0 y0) m 1 y1) m 2 y2) m 3 1) m 4 1) m 15 (s1 400 18)) 401 0 (m + 1)) := by
                unfold f_X12_lays
                rw [e_many, zc_n, f401, hm, e_puts (by omega) (by omega), zc_n, e_puts (by omega) (by omega), zc_n, e_puts (by omega) (by omega), zc_n, e_puts (by omega) (by omega), zc_n, e_puts (by omega) (by omega), zc_n, e_puts (by omega) (by omega), zc_n, zl_n, zw_id (by omega) (by omega), zg_t (by omega), zl_n]
                rfl
              have tD_c : ∀ {d : zD} {x w v : Int} {c : Nat}, c ≠ 401 → tD d x w v c = d c := fun hc => zu_row hc
              have o400 : zu (tD (tD (tD (tD (tD (tD s5 m 0 y0) m 1 y1) m 2 y2) m 3 1) m 4 1) m 15 (s1 400 18)) 401 0 (m + 1) 400 = s5 400 := by rw [zu_row (by omega), tD_c (by omega), tD_c (by omega), tD_c (by omega), tD_c (by omega), tD_c (by omega), tD_c (by omega)]
              have fz : FZ s5 (zu (tD (tD (tD (tD (tD (tD s5 m 0 y0) m 1 y1) m 2 y2) m 3 1) m 4 1) m 15 (s1 400 18)) 401 0 (m + 1)) := ⟨fun c c1 c2 => by rw [zu_row c2, tD_c c2, tD_c c2, tD_c c2, tD_c c2, tD_c c2, tD_c c2], fun j hj => by rw [o400]⟩
              refine Or.inl ⟨d5, _, cl2 ?_, ?_, PG_x i3 rfl rfl (fz.1 405 (by omega) (by omega)) (fun j _ _ => by rw [o400]), ?_, ⟨by rw [zu_eq, hm], by rw [o400, fs.2 19 (by omega)], by rw [zu_ne (by omega)]; unfold tD; rw [zu_ne (by omega), zu_ne (by omega), zu_ne (by omega), zu_ne (by omega), zu_ne (by omega), zu_ne (by omega), f401]⟩, ?_, fs.z.tr fz⟩
              · rw [e1, zc_n, if_neg (show ¬ (1 : Int) = 0 by decide), g1, zc_n, if_neg (show ¬ (1 : Int) = 0 by decide), i1, zc_n, if_neg (show ¬ (1 : Int) = 0 by decide)]
              · rw [r3, e2, zc_n, g2', zc_n, i2, zc_n, e_good i3.2.2.1, zc_n, if_neg (show ¬ (1 : Int) = 0 by decide), el, zc_n]
              · refine SU_lay (m := m) (a := a) (c := s1 400 18) (y0 := y0) (y1 := y1) (y2 := y2) hS hm (by omega) m3 ⟨e5, g5, i5⟩ ?_ ?_ ?_ ?_ ?_ (fun c j c0 c1 hj => ?_) (fun c hc => ?_) ?_ ?_
                · rw [i6 13 (by omega) (by omega), g6 13 (by omega) (by omega), e6 13 (by omega) (by omega), b4.1 13 (by omega), A13]
                · rw [i6 14 (by omega) (by omega), g6 14 (by omega) (by omega), e6 14 (by omega) (by omega), b4.1 14 (by omega), A14]
                · rw [i6 15 (by omega) (by omega), g6 15 (by omega) (by omega)]; exact e4
                · rw [i6 16 (by omega) (by omega)]; exact g4
                · exact i4
                · have hA' : dA c j = dc c j := by rw [kj c j c0 c1 hj, a4.1 c (by omega)]
                  rw [← hA', ← b4.1 c (by omega)]
                  have h3 : d3 c j = d2 c j := by
                    by_cases e : c = 15
                    · rw [e]; exact e7 j hj
                    · rw [e6 c (by omega) e]
                  have h4 : d4 c j = d3 c j := by
                    by_cases e : c = 16
                    · rw [e]; exact g7 j hj
                    · rw [g6 c (by omega) e]
                  have h5 : d5 c j = d4 c j := by
                    by_cases e : c = 17
                    · rw [e]; exact i7 j hj
                    · rw [i6 c (by omega) e]
                  rw [h5, h4, h3]
                · rw [i6 c (by omega) (by omega), g6 c (by omega) (by omega), e6 c (by omega) (by omega), b4.1 c (by omega), kA c (by omega), a4.1 c (by omega)]
                · rw [zu_r, tD_s, tD_s, tD_s, tD_s, tD_s, tD_s, f401]
                · rw [o400, fs.2 19 (by omega)]
              · exact fA.tr (b4.y.tr (e8.tr (g8.tr i8)))
            · refine Or.inr ⟨d5, s5, cl2 ?_, ?_, i3, fA.tr (b4.y.tr (e8.tr (g8.tr i4))), (a5.tr (b5.tr (e9.tr (g9.tr i5)))).z⟩
              · rw [e1, zc_n, if_neg (show ¬ (1 : Int) = 0 by decide), g1, zc_n, if_neg (show ¬ (1 : Int) = 0 by decide), i1, zc_n, if_pos (show (0 : Int) = 0 from rfl)]
              · rw [r3, e2, zc_n, g2', zc_n, i2, zc_n, e_bad i3.2.2, zc_n, if_pos (show (0 : Int) = 0 from rfl)]
          · refine Or.inr ⟨d4, s4, cl2 ?_, ?_, g3, fA.tr (b4.y.tr (e8.tr g4)), (a5.tr (b5.tr (e9.tr g5))).z⟩
            · rw [e1, zc_n, if_neg (show ¬ (1 : Int) = 0 by decide), g1, zc_n, if_pos (show (0 : Int) = 0 from rfl)]
            · rw [r3, e2, zc_n, g2', zc_n, B_opt g3.2.2, zc_n, e_bad g3.2.2, zc_n, if_pos (show (0 : Int) = 0 from rfl)]
        · refine Or.inr ⟨d3, s3, cl2 ?_, ?_, e3, fA.tr (b4.y.tr e4), (a5.tr (b5.tr e5)).z⟩
          · rw [e1, zc_n, if_pos (show (0 : Int) = 0 from rfl)]
          · rw [r3, e2, zc_n, B_opt e3.2.2, zc_n, B_opt e3.2.2, zc_n, e_bad e3.2.2, zc_n, if_pos (show (0 : Int) = 0 from rfl)]
      · obtain ⟨d2, s2, b1, b2, b3, b4, b5⟩ := P_fail (e := 4) a3 (by decide)
        refine Or.inr ⟨d2, s2, c1 ?_, ?_, b3, (a4.tr b4).y, (a5.tr b5).z⟩
        · rw [m1, zc_n, if_neg (by omega), f1, zc_n, if_neg hv, b1, zc_n]
        · rw [r2, if_neg hv, b2, zc_n, B_r50 b3.2.2]
end K8
