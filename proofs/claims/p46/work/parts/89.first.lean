/-! The class and the reference begin alike. -/
theorem zdT_11 {D : zD} : ∀ (i : Nat) {j : Nat}, j < i → zdT D i 11 j = zsch 0 j := by
  intro i
  induction i with
  | zero => intro j h; exact absurd h (by omega)
  | succ i ih =>
    intro j h
    show zu (zu (zdT D i) 11 i (zsch 0 i)) 10 1 _ 11 j = _
    rw [zu_row (by omega)]
    by_cases hj : j = i
    · rw [hj, zu_eq]
    · rw [zu_ne (Or.inr hj)]
      exact ih (by omega)
theorem zdT_ne {D : zD} {c : Nat} (h : c ≠ 10 ∧ c ≠ 11) : ∀ i, zdT D i c = D c := by
  intro i
  induction i with
  | zero => rfl
  | succ i ih =>
    show zu (zu (zdT D i) 11 i (zsch 0 i)) 10 1 _ c = _
    rw [zu_row h.1, zu_row h.2, ih]
theorem zdC_z {c j : Nat} (h : c = 0 ∨ c = 8 ∨ (c = 10 ∧ j = 1) ∨ 360 ≤ c) : zdC zd0 c j = 0 := by
  unfold zdC
  rw [zdR_ne (by omega), zu_ne (by omega), zu_ne (by omega), zdY_ne (by omega), zdL_ne (by omega), zdH_ne (by omega), zdL_ne (by omega), zdH_ne (by omega), zdL_ne (by omega)]
  rfl
def sA : zD := fun c j => if c = 401 then sIni j else if c = 405 then (if j < 33 then zsch 0 j else 0) else if c = 400 ∧ j = 11 then 33 else 0
theorem zsl0n : zslen 0 = 33 := by decide +kernel
theorem first_read : ∃ d2, f_X7_readText zdA = some (1, d2) ∧ first_sees d2 = [0, -1, 2, 1, 2, 2, 2, 2, 2, 5, 5, 2, 1, 5, 3, 2, 8, 1, 0, 0, 1] ∧ FY zdA d2 := by
  have hF := zF_big
  have ev := first_ev
  generalize hd0 : zu (zu (zu (zcp (zu zdA 13 0 0) (ztab 2) (0 : Int).toNat 18 (0 : Int).toNat (6 : Int).toNat) 12 4 0) 12 5 1) 12 6 0 = d0
  have ecl0 : f_X7_readText zdA = zc (f_X9_begin d0) fun _ d => l_X7_readText_46 zF 0 d := by
    unfold f_X7_readText
    rw [zl_n, zcg_t (by omega), zl_n, zl_n, zl_n, zl_n, hd0]
  have k0 : ∀ c, c < 12 ∨ 18 < c → d0 c = zdA c := fun c hc => by rw [← hd0, zu_row (by omega), zu_row (by omega), zu_row (by omega), zcp_row (by omega), zu_row (by omega)]
  have k13 : d0 13 0 = 0 := by rw [← hd0, zu_row (by omega), zu_row (by omega), zu_row (by omega), zcp_row (by omega), zu_eq]
  have k18 : ∀ j : Nat, j < 6 → d0 18 j = ztab 2 j := fun j hj => by rw [← hd0, zu_row (by omega), zu_row (by omega), zu_row (by omega)]; exact zcp_0 (by exact hj)
  have k4 : d0 12 4 = 0 := by rw [← hd0, zu_ne (by omega), zu_ne (by omega), zu_eq]
  have k5 : d0 12 5 = 1 := by rw [← hd0, zu_ne (by omega), zu_eq]
  have k6 : d0 12 6 = 0 := by rw [← hd0, zu_eq]
  have f0 : FY zdA d0 := ⟨fun c c1 c2 => k0 c (by omega), fun j _ => by rw [k0 10 (by omega)]⟩
  have s11 : sA 400 11 = 33 := rfl
  have hI0 : IR d0 sA := by
    unfold IR
    rw [k0 10 (by omega), k0 11 (by omega), s11]
    refine ⟨?_, by omega, fun j j0 j1 => ?_⟩
    · show zdT (zdC zd0) 33 10 1 = 33
      rw [zdT_1 (zdC_z (by omega))]
      rfl
    · have hj : j.toNat < 33 := by omega
      have e1 : zdA 11 j.toNat = zsch 0 j.toNat := zdT_11 33 hj
      have e2 : sA 405 j.toNat = zsch 0 j.toNat := by
        show (if j.toNat < 33 then zsch 0 j.toNat else 0) = _
        rw [if_pos hj]
      obtain ⟨-, c2, -⟩ := zsc_ok (i := 0) (j := j.toNat) (by decide) (by rw [zsl0n]; exact hj)
      have c3 := zsc_ok0 0 (by decide) j.toNat (by rw [zsl0n]; exact hj)
      rw [e1, e2]
      exact ⟨c2.symm, c3.1, by omega⟩
  obtain ⟨B, n, d1, r1, a1, a2, a3, a4, ⟨a5, a6⟩, a7⟩ := P_start hI0
  have hSU : SU d1 r1 := SU_ini (fun j hj => by rw [a5 401 (by omega)]; rfl) (by rw [a4.1 13 (by omega)]; exact k13) (fun j hj => by rw [a4.1 18 (by omega)]; exact k18 j hj) (by rw [a4.1 12 (by omega)]; exact k4) (by rw [a4.1 12 (by omega)]; exact k5) (by rw [a4.1 12 (by omega)]; exact k6) (by rw [a6 19 (by omega) (by omega)]; rfl)
  have r401 : ∀ j : Nat, r1 401 j = sIni j := fun j => by rw [a5 401 (by omega)]; rfl
  have hLI : LI r1 := fun _ => r401 1
  have hmu : (0 : Int) = r1 401 0 + pop4 (r1 400 19) := by
    rw [r401 0, a6 19 (by omega) (by omega), show sA 400 19 = 0 from rfl]
    decide
  have hl := S_setup 12 zF zF a3 hSU hLI hmu (by omega) (by omega) (by omega)
  have f1 : FY zdA d1 := f0.tr a4.y
  rw [a1, zc_n] at ecl0
  rw [ecl0] at ev
  rcases hl with ⟨d2, r2, b1, b2, b3, b4, b5, b6⟩ | ⟨d2, r2, b1, -⟩
  · rw [b1] at ev ecl0
    by_cases h0 : 0 < d2 13 0
    · have ej : j_X7_readText_88 d2 = some (1, d2) := by
        unfold j_X7_readText_88
        rw [zl_n, if_pos h0]
      rw [ej] at ev ecl0
      exact ⟨d2, ecl0, (Prod.mk.inj (Option.some.inj ev)).2, f1.tr b5⟩
    · obtain ⟨d3, r3, c1, -⟩ := P_fail (e := 1) b3 (by decide)
      have ej : j_X7_readText_88 d2 = some (0, d3) := by
        unfold j_X7_readText_88
        rw [zl_n, if_neg h0, c1, zc_n, if_pos (show (0 : Int) = 0 from rfl)]
      rw [ej] at ev
      exact absurd (Prod.mk.inj (Option.some.inj ev)).1 (show ¬ (0 : Int) = 1 by decide)
  · rw [b1] at ev
    exact absurd (Prod.mk.inj (Option.some.inj ev)).1 (show ¬ (0 : Int) = 1 by decide)
/-- a terminal is laid -/
theorem e_lays {m t : Int} {d : zD} (ht : d 401 0 = t) (h : 0 ≤ t ∧ t < 7) : f_X12_lays m 2 2 5 d = some (0, zu (tD (tD (tD (tD (tD (tD d t 0 2) t 1 2) t 2 5) t 3 1) t 4 1) t 15 m) 401 0 (t + 1)) := by
  unfold f_X12_lays
  rw [e_many, zc_n, ht, e_puts (by omega) (by omega), zc_n, e_puts (by omega) (by omega), zc_n, e_puts (by omega) (by omega), zc_n, e_puts (by omega) (by omega), zc_n, e_puts (by omega) (by omega), zc_n, e_puts (by omega) (by omega), zc_n, zl_n, zw_id (by omega) (by omega), zg_t (by omega), zl_n]
  rfl
def sL (s : Nat → Int) (t m : Int) : Nat → Int := us (uT (uT (uT (uT (uT (uT s t 0 2) t 1 2) t 2 5) t 3 1) t 4 1) t 15 m) 0 (t + 1)
def sFst : Nat → Int := us (us (sL (sL sIni 0 1) 1 2) 1 2) 31 1
theorem us_c {s s' : Nat → Int} (h : ∀ k, k < 800 → s k = s' k) {i : Nat} {v : Int} : ∀ k, k < 800 → us s i v k = us s' i v k := fun k hk => by
  unfold us
  split
  · rfl
  · exact h k hk
theorem sL_c {s s' : Nat → Int} (h : ∀ k, k < 800 → s k = s' k) {t m : Int} : ∀ k, k < 800 → sL s t m k = sL s' t m k := us_c (us_c (us_c (us_c (us_c (us_c (us_c h))))))
theorem sFst_n : sFst 0 = 2 ∧ sFst 1 = 2 ∧ sFst 2 = 0 ∧ sFst 3 = 0 ∧ sFst 4 = 0 ∧ sFst 5 = 1 ∧ sFst 6 = 5 ∧ sFst 7 = 3 ∧ sFst 8 = 2 ∧ sFst 9 = 8 ∧ sFst 10 = 1 ∧ sFst 11 = 0 ∧ sFst 26 = -1 ∧ sFst 27 = -1 ∧ sFst 28 = -1 ∧ sFst 29 = 0 ∧ sFst 46 = 0 ∧ sFst 30 = 0 ∧ sFst 31 = 1 := by decide +kernel
theorem sFst_a : ∀ k, k < 26 → 12 ≤ k → sFst k = 0 := by decide +kernel
theorem sFst_t : ∀ x, x < 8 → ∀ u, u < 15 → 5 ≤ u → sFst (50 + 16 * x + u) = 0 := by decide +kernel
theorem sFst_b : ∀ x, x < 2 → sFst (50 + 16 * x + 0) = 2 ∧ sFst (50 + 16 * x + 1) = 2 ∧ sFst (50 + 16 * x + 2) = 5 ∧ sFst (50 + 16 * x + 3) = 1 ∧ sFst (50 + 16 * x + 4) = 1 ∧ sFst (50 + 16 * x + 15) = (x : Int) + 1 := by decide +kernel
theorem rT_n {s : Nat → Int} {x w : Nat} (h : x < 8 ∧ w < 16) : rT s x w = s (50 + 16 * x + w) := by
  unfold rT
  rw [if_pos (by omega), show (50 + 16 * (x : Int) + (w : Int)).toNat = 50 + 16 * x + w by omega]
theorem sFst_FR : FRm sFst := by
  obtain ⟨h0, h1, h2, h3, h4, h5, h6, h7, h8, h9, h10, h11, h26, h27, h28, h29, h46, h30, h31⟩ := sFst_n
  refine ⟨h2, h3, h4, fun k k0 k1 => sFst_a k k1 k0, h26, h27, h28, h29, h46, fun x u x0 x1 u0 u1 => ?_⟩
  obtain ⟨a, rfl⟩ := Int.eq_ofNat_of_zero_le x0
  obtain ⟨b, rfl⟩ := Int.eq_ofNat_of_zero_le (show 0 ≤ u by omega)
  exact (rT_n (by omega)).trans (sFst_t a (by omega) b (by omega) (by omega))
theorem sFst_x {x : Int} (x0 : 0 ≤ x) (x1 : x < 2) : rT sFst x 0 = 2 ∧ rT sFst x 1 = 2 ∧ rT sFst x 2 = 5 ∧ rT sFst x 3 = 1 ∧ rT sFst x 4 = 1 ∧ rT sFst x 15 = x + 1 := by
  obtain ⟨a, rfl⟩ := Int.eq_ofNat_of_zero_le x0
  obtain ⟨b0, b1, b2, b3, b4, b15⟩ := sFst_b a (by omega)
  exact ⟨(rT_n (w := 0) (by omega)).trans b0, (rT_n (w := 1) (by omega)).trans b1, (rT_n (w := 2) (by omega)).trans b2, (rT_n (w := 3) (by omega)).trans b3, (rT_n (w := 4) (by omega)).trans b4, (rT_n (w := 15) (by omega)).trans b15⟩
theorem sFst_SV : SV sFst := by
  obtain ⟨h0, h1, h2, h3, h4, h5, h6, h7, h8, h9, h10, h11, h26, h27, h28, h29, h46, h30, h31⟩ := sFst_n
  refine ⟨by rw [h1]; omega, by rw [h5]; omega, by rw [h6]; omega, by rw [h7]; omega, by rw [h8]; omega, by rw [h9]; omega, by rw [h10]; omega, by rw [h11]; omega, fun k k0 k1 => ?_, fun x x0 x1 => ?_⟩
  · rw [h1] at k1
    rw [h0]
    rcases (show k = 0 ∨ k = 1 by omega) with rfl | rfl
    · show 0 ≤ sFst 30 ∧ sFst 30 < 2
      rw [h30]; omega
    · show 0 ≤ sFst 31 ∧ sFst 31 < 2
      rw [h31]; omega
  · rw [h0] at x1
    obtain ⟨b0, b1, b2, b3, b4, -⟩ := sFst_x x0 x1
    exact ⟨by omega, by omega, by omega, b3, b4⟩
theorem GR_cong {dc ds dc' ds' : zD} (h : GR dc ds) (ec : ∀ c, c < 400 → dc' c = dc c) (es : ∀ c, 400 ≤ c → ds' c = ds c) : GR dc' ds' := by
  obtain ⟨h1, h2, ⟨a1, a2, a3, a4⟩, ⟨b1, b2, b3⟩, ⟨c1, c2, c3⟩, ⟨f1, f2⟩, ⟨g1, g2, g3⟩⟩ := h
  have ep : ∀ i, pst ds' i = pst ds i := fun i => by
    unfold pst
    rw [es 404 (by omega)]
  unfold GR HR SR IR ER OR
  rw [ec 8 (by omega), ec 0 (by omega), ec 10 (by omega), ec 11 (by omega), ec 25 (by omega), es 400 (by omega), es 401 (by omega), es 403 (by omega), es 405 (by omega), es 408 (by omega)]
  refine ⟨LR_d h1 fun c hc => ec c (by omega), h2, ⟨a1, a2, a3, fun i hi => ?_⟩, ⟨b1, b2, fun q => ⟨LR_d (b3 q).1 fun c hc => ec c (by omega), (b3 q).2⟩⟩, ⟨c1, c2, c3⟩, ⟨f1, f2⟩, ⟨g1, g2, g3⟩⟩
  rw [ep i]
  exact ⟨LR_d (a4 i hi).1 fun c hc => ec c (by omega), (a4 i hi).2⟩
/-- both makers run, and what they leave is alike -/
theorem first_GR : ∃ d1 d2 e1 e2 e3, f_X7_readText (zdT (zdC zd0) 33) = some (1, d1) ∧ f_X11_beginAnew d1 = some (0, d2) ∧ f_X12_begins (zu (zu d2 10 1 0) 400 13 (-1)) = some (0, e1) ∧ f_X12_lays 1 2 2 5 e1 = some (0, e2) ∧ f_X12_lays 2 2 2 5 e2 = some (0, e3) ∧ GR (zu (zu e3 401 1 2) 401 31 1) (zu (zu e3 401 1 2) 401 31 1) ∧ (∀ c j, 360 ≤ c → zu d2 10 1 0 c j = 0) ∧ ∀ j, zu (zu e3 401 1 2) 401 31 1 399 j = 0 := by
  obtain ⟨d2, hr, hs, ff⟩ := first_read
  simp only [first_sees, List.cons.injEq, and_true] at hs
  obtain ⟨v5, v6, m0, n0, n1, l0, l1, o0, o1, p0, p1, t4, t5, u0, u1, u2, u3, u4, u5, w0, w1⟩ := hs
  obtain ⟨d3, c1, c2, c3, c4, c5, c6, c7⟩ := k_setup (d := d2)
  obtain ⟨d4, y1, y2, y3⟩ := k_begin (b := 30) (d := d3) (by omega)
  have ebeg : f_X11_beginAnew d2 = some (0, zu (zu d4 8 2 0) 0 12 0) := by
    unfold f_X11_beginAnew
    rw [c1, zc_n, y1, zc_n, zl_n, zl_n]
  generalize hdA : zu (zu (zu d4 8 2 0) 0 12 0) 10 1 0 = dA
  have d3k : ∀ c, 5 < c → d3 c = d2 c := fun c hc => c2 c (by omega)
  have d2z : ∀ c j, c = 0 ∨ c = 8 ∨ 360 ≤ c → d2 c j = 0 := fun c j hc => by
    rw [ff.1 c (by omega) (by omega)]
    show zdT (zdC zd0) 33 c j = 0
    rw [zdT_ne (by omega)]
    exact zdC_z (by omega)
  have dAk : ∀ c, c ≠ 0 → c ≠ 8 → c ≠ 10 → dA c = d4 c := fun c g0 g8 g10 => by rw [← hdA, zu_row g10, zu_row g0, zu_row g8]
  have d4z : ∀ j, d4 0 j = 0 := fun j => by rw [y2 0 (by omega), c2 0 (by omega)]; exact d2z 0 j (by omega)
  have d48 : ∀ j, d4 8 j = 0 := fun j => by rw [y2 8 (by omega), c2 8 (by omega)]; exact d2z 8 j (by omega)
  have d410 : d4 10 = d2 10 := by rw [y2 10 (by omega), c2 10 (by omega)]
  have dAz : ∀ c j, 360 ≤ c → dA c j = 0 := fun c j hc => by rw [dAk c (by omega) (by omega) (by omega), y2 c (by omega), c2 c (by omega)]; exact d2z c j (by omega)
  obtain ⟨q1, z1, z2, z3⟩ := k_begins (d := zu dA 400 13 (-1))
  have s1 : ∀ k, k < 800 → q1 401 k = sIni k := z3
  have q10 : q1 401 0 = 0 := (s1 0 (by omega)).trans rfl
  have lay1 := e_lays (m := 1) q10 (by omega)
  generalize hq2 : zu (tD (tD (tD (tD (tD (tD q1 0 0 2) 0 1 2) 0 2 5) 0 3 1) 0 4 1) 0 15 1) 401 0 (0 + 1) = q2 at lay1
  have s2 : q2 401 = sL (q1 401) 0 1 := by rw [← hq2]; simp only [zu_r, tD_s]; rfl
  have q2c : ∀ c, c ≠ 401 → q2 c = q1 c := fun c hc => by rw [← hq2]; simp only [tD, zu_row hc]
  have q20 : q2 401 0 = 1 := by rw [s2]; exact us_eq
  have lay2 := e_lays (m := 2) q20 (by omega)
  generalize hq3 : zu (tD (tD (tD (tD (tD (tD q2 1 0 2) 1 1 2) 1 2 5) 1 3 1) 1 4 1) 1 15 2) 401 0 (1 + 1) = q3 at lay2
  have s3 : q3 401 = sL (q2 401) 1 2 := by rw [← hq3]; simp only [zu_r, tD_s]; rfl
  have q3c : ∀ c, c ≠ 401 → q3 c = q2 c := fun c hc => by rw [← hq3]; simp only [tD, zu_row hc]
  refine ⟨d2, _, q1, q2, q3, hr, ebeg, by rw [hdA]; exact z1, lay1, lay2, ?_, fun c j hc => by rw [hdA]; exact dAz c j hc, fun j => ?_⟩
  · generalize hdB : zu (zu q3 401 1 2) 401 31 1 = dB
    have sB : ∀ k, k < 800 → dB 401 k = sFst k := by
      rw [← hdB]
      simp only [zu_r]
      rw [s3, s2]
      exact us_c (us_c (sL_c (sL_c s1)))
    have dBc : ∀ c, c < 400 → dB c = dA c := fun c hc => by rw [← hdB, zu_row (by omega), zu_row (by omega), q3c c (by omega), q2c c (by omega), z2 c (by omega), zu_row (by omega)]
    have dB4 : ∀ j, dB 400 j = if j = 13 then -1 else 0 := fun j => by
      rw [← hdB, zu_row (by omega), zu_row (by omega), q3c 400 (by omega), q2c 400 (by omega), z2 400 (by omega)]
      by_cases hj : j = 13
      · rw [hj, zu_eq, if_pos rfl]
      · rw [zu_ne (Or.inr hj), if_neg hj]
        exact dAz 400 j (by omega)
    obtain ⟨h0, h1, h2, h3, h4, h5, h6, h7, h8, h9, h10, h11, h26, h27, h28, h29, h46, h30, h31⟩ := sFst_n
    have hLR : LR d4 30 sFst := by
      refine LR_begin y3 ⟨?_, fun x x0 x1 => ?_⟩ (by rw [h0]; omega) sFst_FR sFst_SV ?_ ?_ (fun j hj => ?_) (fun k k0' k1 => ?_)
      · rw [y2 1 (by omega), c3, m0, h0]
      · rw [h0] at x1
        obtain ⟨b0, b1, b2, -, -, b15⟩ := sFst_x x0 x1
        rw [y2 3 (by omega), y2 4 (by omega), y2 5 (by omega), y2 2 (by omega), c4 _ (by omega), c5 _ (by omega), c6 _ (by omega), c7 _ (by omega), b0, b1, b2, b15]
        rcases (show x = 0 ∨ x = 1 by omega) with rfl | rfl
        · exact ⟨l0, o0, p0, [1], ⟨by decide, by decide⟩, by decide, n0, by decide⟩
        · exact ⟨l1, o1, p1, [2], ⟨by decide, by decide⟩, by decide, n1, by decide⟩
      · rw [d3k 12 (by omega), h1]; exact t4
      · rw [d3k 12 (by omega), h5]; exact t5
      · rw [d3k 18 (by omega)]
        rcases (show j = 0 ∨ j = 1 ∨ j = 2 ∨ j = 3 ∨ j = 4 ∨ j = 5 by omega) with rfl | rfl | rfl | rfl | rfl | rfl
        · exact u0.trans h6.symm
        · exact u1.trans h7.symm
        · exact u2.trans h8.symm
        · exact u3.trans h9.symm
        · exact u4.trans h10.symm
        · exact u5.trans h11.symm
      · rw [d3k 19 (by omega)]
        rw [h1] at k1
        rcases (show k = 0 ∨ k = 1 by omega) with rfl | rfl
        · exact w0.trans h30.symm
        · exact w1.trans h31.symm
    have hLB : LR dB 30 (dB 401) := LR_s (LR_d hLR fun c hc => by rw [dBc c (by omega), dAk c (by omega) (by omega) (by omega)]) sB
    have b10 : ∀ j, j ≠ 1 → dB 10 j = d2 10 j := fun j hj => by rw [dBc 10 (by omega), ← hdA, zu_ne (Or.inr hj), zu_row (by omega), zu_row (by omega), d410]
    refine ⟨hLB, by rw [sB 4 (by omega), h4]; omega, ⟨?_, ?_, ?_, ?_⟩, ⟨?_, ?_, ?_⟩, ⟨?_, ?_, ?_⟩, ⟨?_, ?_⟩, ⟨?_, ?_, ?_⟩⟩
    · rw [dBc 8 (by omega), ← hdA, zu_row (by omega), zu_row (by omega), zu_ne (by omega), d48 1]; omega
    · rw [dBc 8 (by omega), ← hdA, zu_row (by omega), zu_row (by omega), zu_eq, dB4 5]; rfl
    · rw [dB4 5, if_neg (by decide)]; omega
    · intro i hi
      rw [dB4 5, if_neg (by decide)] at hi
      omega
    · rw [dBc 0 (by omega), ← hdA, zu_row (by omega), zu_eq, dB4 6]; rfl
    · rw [dB4 6]; exact Or.inl rfl
    · intro q
      rw [dB4 6] at q
      exact absurd q (by decide)
    · rw [dBc 10 (by omega), ← hdA, zu_eq, dB4 11]; rfl
    · rw [dB4 11, if_neg (by decide)]; omega
    · intro j j0 j1
      rw [dB4 11, if_neg (by decide)] at j1
      omega
    · rw [b10 5 (by decide), v5, dB4 12]; rfl
    · rw [b10 6 (by decide), v6, dB4 13]; rfl
    · rw [dBc 0 (by omega), ← hdA, zu_row (by omega), zu_ne (by omega), zu_row (by omega), d4z 11, dB4 24]; rfl
    · rw [dB4 24, if_neg (by decide)]; omega
    · intro j j0 j1
      rw [dB4 24, if_neg (by decide)] at j1
      omega
  · rw [zu_row (by omega), zu_row (by omega), q3c 399 (by omega), q2c 399 (by omega), z2 399 (by omega), zu_row (by omega)]
    exact dAz 399 j (by omega)
