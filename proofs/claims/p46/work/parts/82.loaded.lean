/-! The loading as a whole. -/
theorem G_loadLine : GO [] f_X11_loadLine f_X12_loadLine := by
  intro dc ds hg hR
  have hF := zF_big
  obtain ⟨h1, h2, hH, hS0, hI, -, hO⟩ := id hg
  -- the reference puts its row aside and begins another
  obtain ⟨s1, p1, p2, p3⟩ := e_copies (a0 := 401) (n0 := 800) (a2 := 402) (n2 := 800) (p := 0) (t := 0) (m := 800) (d := ds) (by omega) (by omega) (Or.inl (by omega)) (by omega) (by omega)
  have p1' : f_X12_copies 401 800 402 800 0 0 800 ds = some (0, s1) := p1
  have p402 : ∀ j, j < 800 → s1 402 j = ds 401 j := fun j hj => by rw [p3, if_pos (by omega), show 0 + (j - 0) = j by omega]
  obtain ⟨s2, q1, q2, q3⟩ := k_begins (d := s1)
  have s3 : ∀ c, c ≠ 400 → c ≠ 401 → c ≠ 402 → zu s2 400 19 0 c = ds c := fun c c0 c1 c2 => by rw [zu_row c0, q2 c c1, p2 c c2]
  have s3j : ∀ j, j ≠ 19 → zu s2 400 19 0 400 j = ds 400 j := fun j hj => by rw [zu_ne (Or.inr hj), q2 400 (by omega), p2 400 (by omega)]
  -- the class begins its draft
  generalize hd0 : zu (zu (zu (zcp (zu dc 13 0 0) (ztab 2) (0 : Int).toNat 18 (0 : Int).toNat (6 : Int).toNat) 12 4 0) 12 5 1) 12 6 0 = d0
  have ecl0 : f_X7_readText dc = zc (f_X9_begin d0) fun _ d => l_X7_readText_46 zF 0 d := by
    unfold f_X7_readText
    rw [zl_n, zcg_t (by omega), zl_n, zl_n, zl_n, zl_n, hd0]
  have k0 : ∀ c, c < 12 ∨ 18 < c → d0 c = dc c := fun c hc => by rw [← hd0, zu_row (by omega), zu_row (by omega), zu_row (by omega), zcp_row (by omega), zu_row (by omega)]
  have k13 : d0 13 0 = 0 := by rw [← hd0, zu_row (by omega), zu_row (by omega), zu_row (by omega), zcp_row (by omega), zu_eq]
  have k18 : ∀ j : Nat, j < 6 → d0 18 j = ztab 2 j := fun j hj => by rw [← hd0, zu_row (by omega), zu_row (by omega), zu_row (by omega)]; exact zcp_0 (by exact hj)
  have k4 : d0 12 4 = 0 := by rw [← hd0, zu_ne (by omega), zu_ne (by omega), zu_eq]
  have k5 : d0 12 5 = 1 := by rw [← hd0, zu_ne (by omega), zu_eq]
  have k6 : d0 12 6 = 0 := by rw [← hd0, zu_eq]
  have f0 : FY dc d0 := ⟨fun c c1 c2 => k0 c (by omega), fun j _ => by rw [k0 10 (by omega)]⟩
  have hI0 : IR d0 (zu s2 400 19 0) := by
    unfold IR
    rw [k0 10 (by omega), k0 11 (by omega), s3j 11 (by omega), s3 405 (by omega) (by omega) (by omega)]
    exact hI
  obtain ⟨B, n, d1, r1, a1, a2, a3, a4, ⟨a5, a6⟩, a7⟩ := P_start hI0
  have hSU : SU d1 r1 := SU_ini (fun j hj => by rw [a5 401 (by omega), zu_row (by omega)]; exact q3 j hj) (by rw [a4.1 13 (by omega)]; exact k13) (fun j hj => by rw [a4.1 18 (by omega)]; exact k18 j hj) (by rw [a4.1 12 (by omega)]; exact k4) (by rw [a4.1 12 (by omega)]; exact k5) (by rw [a4.1 12 (by omega)]; exact k6) (by rw [a6 19 (by omega) (by omega), zu_eq])
  have r401 : ∀ j : Nat, j < 800 → r1 401 j = sIni j := fun j hj => by rw [a5 401 (by omega), zu_row (by omega)]; exact q3 j hj
  have hLI : LI r1 := fun _ => r401 1 (by omega)
  have hmu : (0 : Int) = r1 401 0 + pop4 (r1 400 19) := by
    rw [r401 0 (by omega), a6 19 (by omega) (by omega), zu_eq]
    decide
  have hl := S_setup 12 zF zF a3 hSU hLI hmu (by omega) (by omega) (by omega)
  have f1 : FY dc d1 := f0.tr a4.y
  have rc : ∀ c, c ≠ 400 → c ≠ 401 → c ≠ 402 → r1 c = ds c := fun c c0 c1 c2 => by rw [a5 c c0, s3 c c0 c1 c2]
  have r402 : ∀ j, j < 800 → r1 402 j = ds 401 j := fun j hj => by rw [a5 402 (by omega), zu_row (by omega), q2 402 (by omega), p402 j hj]
  have rj : ∀ j, j ≠ 0 → j < 12 ∨ 19 < j → r1 400 j = ds 400 j := fun j j0 hj => by rw [a6 j j0 (by omega), s3j j (by omega)]
  have ecl : f_X11_loadLine dc = zc (l_X7_readText_46 zF 0 d1) fun v4 d => zl (zu d 10 1 0) fun d => if (v4 : Int) = 0 then (some ((-1), d)) else (zc (f_X11_beginAnew d) fun _ d => zl (d 1 0) fun v30 => some (v30, d)) := by
    unfold f_X11_loadLine
    rw [ecl0, a1, zc_n]
  have emod : f_X12_loadLine ds = l_X12_loadLine_29 zF r1 := by
    unfold f_X12_loadLine
    rw [p1', zc_n, q1, zc_n, zl_n, a2, zc_n]
  -- where it fails
  have failed : ∀ {d2 r2 : zD}, PB d2 r2 → FY d1 d2 → FZ r1 r2 → ∃ ds', j_X12_loadLine_62 r2 = some (-1, ds') ∧ GR (zu d2 10 1 0) ds' ∧ Fc dc (zu d2 10 1 0) ∧ Fm ds ds' ∧ ds' 400 0 = 0 := fun {d2 r2} hb f g => by
    obtain ⟨t1, y1, y2, y3⟩ := e_copies (a0 := 402) (n0 := 800) (a2 := 401) (n2 := 800) (p := 0) (t := 0) (m := 800) (d := zu r2 400 11 0) (by omega) (by omega) (Or.inl (by omega)) (by omega) (by omega)
    have y1' : f_X12_copies 402 800 401 800 0 0 800 (zu r2 400 11 0) = some (0, t1) := y1
    have t401 : ∀ j, j < 800 → t1 401 j = ds 401 j := fun j hj => by rw [y3, if_pos (by omega), show 0 + (j - 0) = j by omega, zu_row (by omega), g.1 402 (by omega) (by omega), r402 j hj]
    have tc : ∀ c, c ≠ 400 → c ≠ 401 → c ≠ 402 → t1 c = ds c := fun c c0 c1 c2 => by rw [y2 c c1, zu_row c0, g.1 c c0 c1, rc c c0 c1 c2]
    have t400 : t1 400 = zu r2 400 11 0 400 := y2 400 (by omega)
    have ff := f1.tr f
    refine ⟨t1, ?_, ?_, fun c hc => by rw [zu_row (by omega)]; exact ff.1 c (by omega) (by omega), fun c hc => tc c (by omega) (by omega) (by omega), by rw [t400, zu_ne (by omega), g.2 0 (by omega)]; exact a7⟩
    · unfold j_X12_loadLine_62
      rw [zl_n, e_bad (by unfold BD; rw [zu_ne (by omega)]; exact hb.2.2), zc_n, if_pos (show (0 : Int) = 0 from rfl), y1', zc_n]
    · have hX : GR (zu d2 10 1 0) (fun c => if c = 401 then ds 401 else t1 c) := by
        refine GR_text hg (fun c c1 c2 => ?_) zu_eq rfl (fun c hc => ?_) (fun j hj => ?_) ?_ ⟨?_, ?_⟩
        · rw [zu_row c1]; exact ff.1 c c1 (by omega)
        · show (if c = 401 then ds 401 else t1 c) = _
          rw [if_neg (by omega), tc c (by omega) (by omega) (by omega)]
        · show t1 400 j = _
          rw [t400, zu_ne (by omega), g.2 j (by omega), rj j (by omega) (by omega)]
        · show t1 400 11 = 0
          rw [t400, zu_eq]
        · show _ = t1 400 12
          rw [zu_ne (by omega), t400, zu_ne (by omega)]; exact hb.1
        · show _ = t1 400 13
          rw [zu_ne (by omega), t400, zu_ne (by omega)]; exact hb.2.1
      refine GR_s hX (fun c _ c1 _ => ?_) (fun k hk => ?_) (fun j _ _ _ _ => rfl)
      · show t1 c = if c = 401 then ds 401 else t1 c
        rw [if_neg c1]
      · show t1 401 k = ds 401 k
        exact t401 k hk
  have eb : ∀ {d2 : zD} {v : Int}, l_X7_readText_46 zF 0 d1 = some (0, d2) → f_X11_loadLine dc = some (-1, zu d2 10 1 0) := fun {d2 v} e => by
    rw [ecl, e, zc_n, zl_n, if_pos (show (0 : Int) = 0 from rfl)]
  rcases hl with ⟨d2, r2, b1, b2, b3, b4, b5, b6⟩ | ⟨d2, r2, b1, b2, b3, b4, b5⟩
  · obtain ⟨⟨n1, n2, n3⟩, sA, sF, sV, sL, sE, sS, sI, -⟩ := id b4
    have g2 := b3.2.2.1
    by_cases h0 : r2 401 0 = 0
    · -- no terminal
      obtain ⟨d3, r3, c1, c2, c3, c4, c5⟩ := P_fail (e := 1) b3 (by decide)
      obtain ⟨ds', e1, e2, e3, e4, e5⟩ := failed c3 (b5.tr c4.y) (b6.tr c5.z)
      refine ⟨-1, _, -1, ds', eb (v := 0) ?_, ?_, e2, e3, e4, by rw [e5]; exact GX_ok rfl (zR_s (by omega) (by omega))⟩
      · rw [b1]
        unfold j_X7_readText_88
        rw [zl_n, n1, if_neg (by omega), c1, zc_n, if_pos (show (0 : Int) = 0 from rfl)]
      · rw [emod, b2]
        unfold j_X12_loadLine_50
        rw [e_many, zc_n, if_pos h0, c2, zc_n, e1]
    · have ff := f1.tr b5
      obtain ⟨d3, c1, c2, c3, c4, c5, c6, c7⟩ := k_setup (d := zu d2 10 1 0)
      obtain ⟨d4, e1, e2, e3⟩ := k_begin (b := 30) (d := d3) (by omega)
      have d3k : ∀ c, 11 < c → d3 c = d2 c := fun c hc => by rw [c2 c (by omega), zu_row (by omega)]
      have hLR : LR d4 30 (r2 401) := by
        refine LR_begin e3 ⟨?_, fun x x0 x1 => ?_⟩ (by omega) sF sV ?_ ?_ (fun j hj => ?_) (fun k k0' k1 => ?_)
        · rw [e2 1 (by omega), c3, zu_row (by omega)]; exact n1
        · obtain ⟨y0, y1, y2⟩ := sA x x0 x1
          have yn := n3 x x0 x1
          rw [e2 3 (by omega), e2 4 (by omega), e2 5 (by omega), e2 2 (by omega), c4 _ (by omega), c5 _ (by omega), c6 _ (by omega), c7 _ (by omega), zu_row (by omega), zu_row (by omega), zu_row (by omega), zu_row (by omega)]
          exact ⟨y0, y1, y2, yn⟩
        · rw [d3k 12 (by omega)]; exact sL
        · rw [d3k 12 (by omega)]; exact sE
        · rw [d3k 18 (by omega)]; exact sS j hj
        · rw [d3k 19 (by omega)]; exact sI k k0' k1
      have d4k : ∀ c, 5 < c → c < 30 ∨ 60 ≤ c → c ≠ 10 → d4 c = d2 c := fun c g0 g1 g3 => by rw [e2 c (by omega), c2 c (by omega), zu_row g3]
      have d410 : d4 10 = zu d2 10 1 0 10 := by rw [e2 10 (by omega), c2 10 (by omega)]
      have d40 : d4 0 = dc 0 := by rw [e2 0 (by omega), c2 0 (by omega), zu_row (by omega)]; exact ff.1 0 (by omega) (by omega)
      have z4 : ∀ c, c ≠ 0 → c ≠ 8 → zu (zu d4 8 2 0) 0 12 0 c = d4 c := fun c g0 g8 => by rw [zu_row g0, zu_row g8]
      have z8 : zu (zu d4 8 2 0) 0 12 0 8 = zu d4 8 2 0 8 := zu_row (by omega)
      have ebeg : f_X11_beginAnew (zu d2 10 1 0) = some (0, zu (zu d4 8 2 0) 0 12 0) := by
        unfold f_X11_beginAnew
        rw [c1, zc_n, e1, zc_n, zl_n, zl_n]
      have w400 : ∀ j, j ≠ 5 → j ≠ 6 → j ≠ 11 → zu (zu (zu r2 400 11 0) 400 5 0) 400 6 0 400 j = r2 400 j := fun j j5 j6 j11 => by rw [zu_ne (Or.inr j6), zu_ne (Or.inr j5), zu_ne (Or.inr j11)]
      have wc : ∀ c, c ≠ 400 → zu (zu (zu r2 400 11 0) 400 5 0) 400 6 0 c = r2 c := fun c hc => by rw [zu_row hc, zu_row hc, zu_row hc]
      have w4 : r2 401 4 = 0 := sF.2.2.1
      have hd10 : d4 1 0 = r2 401 0 := by rw [e2 1 (by omega), c3, zu_row (by omega)]; exact n1
      obtain ⟨hh1, -⟩ := hH
      obtain ⟨g1', g2', g3'⟩ := hO
      have hd8 : ∀ j, j ≠ 2 → zu d4 8 2 0 8 j = dc 8 j := fun j hj => by rw [zu_ne (Or.inr hj), e2 8 (by omega), c2 8 (by omega), zu_row (by omega), ff.1 8 (by omega) (by omega)]
      refine ⟨r2 401 0, zu (zu d4 8 2 0) 0 12 0, r2 401 0, zu (zu (zu r2 400 11 0) 400 5 0) 400 6 0, ?_, ?_, ⟨?_, ?_, ⟨?_, ?_, ?_, ?_⟩, ⟨?_, ?_, ?_⟩, ⟨?_, ?_, ?_⟩, ⟨?_, ?_⟩, ⟨?_, ?_, ?_⟩⟩, fun c hc => ?_, fun c hc => ?_, ?_⟩
      · rw [ecl, b1]
        unfold j_X7_readText_88
        rw [zl_n, n1, if_pos (by omega), zc_n, zl_n, if_neg (show ¬ (1 : Int) = 0 by decide), ebeg, zc_n, zl_n, z4 1 (by omega) (by omega), hd10]
      · rw [emod, b2]
        unfold j_X12_loadLine_50 j_X12_loadLine_62
        rw [e_many, zc_n, if_neg h0, zl_n, e_good (by rw [zu_ne (by omega)]; exact g2), zc_n, if_neg (show ¬ (1 : Int) = 0 by decide), zl_n, zl_n, e_many, zc_n, wc 401 (by omega)]
      · rw [wc 401 (by omega)]
        exact LR_d hLR fun c hc => z4 c (by omega) (by omega)
      · rw [wc 401 (by omega), w4]; omega
      · rw [z8, hd8 1 (by omega)]; exact hh1
      · rw [z8, zu_eq, zu_ne (by omega), zu_eq]
      · rw [zu_ne (by omega), zu_eq]; omega
      · intro i hi
        rw [zu_ne (by omega), zu_eq] at hi
        omega
      · rw [zu_eq, zu_eq]
      · rw [zu_eq]; exact Or.inl rfl
      · intro q
        rw [zu_eq] at q
        exact absurd q (by decide)
      · rw [z4 10 (by omega) (by omega), d410, zu_eq, zu_ne (by omega), zu_ne (by omega), zu_eq]
      · rw [zu_ne (by omega), zu_ne (by omega), zu_eq]; omega
      · intro j j0 j1
        rw [zu_ne (by omega), zu_ne (by omega), zu_eq] at j1
        omega
      · rw [z4 10 (by omega) (by omega), d410, zu_ne (by omega), w400 12 (by omega) (by omega) (by omega), g2]; exact b3.2.1.1
      · rw [z4 10 (by omega) (by omega), d410, zu_ne (by omega), w400 13 (by omega) (by omega) (by omega), b3.2.2.2]; exact b3.2.1.2
      · rw [zu_ne (by omega), zu_row (by omega), d40, w400 24 (by omega) (by omega) (by omega), b6.2 24 (by omega), rj 24 (by omega) (by omega)]; exact g1'
      · rw [w400 24 (by omega) (by omega) (by omega), b6.2 24 (by omega), rj 24 (by omega) (by omega)]; exact g2'
      · intro j j0 j1
        rw [w400 24 (by omega) (by omega) (by omega), b6.2 24 (by omega), rj 24 (by omega) (by omega)] at j1
        rw [z4 25 (by omega) (by omega), d4k 25 (by omega) (by omega) (by omega), ff.1 25 (by omega) (by omega), wc 408 (by omega), b6.1 408 (by omega) (by omega), rc 408 (by omega) (by omega) (by omega)]
        exact g3' j j0 j1
      · rw [z4 c (by omega) (by omega), d4k c (by omega) (by omega) (by omega)]
        exact ff.1 c (by omega) (by omega)
      · rw [wc c (by omega), b6.1 c (by omega) (by omega), rc c (by omega) (by omega) (by omega)]
      · rw [w400 0 (by omega) (by omega) (by omega), b6.2 0 (by omega), a7]
        exact GX_ok rfl (zR_s (by omega) (by omega))
  · obtain ⟨ds', e1, e2, e3, e4, e5⟩ := failed b3 b4 b5
    refine ⟨-1, _, -1, ds', eb (v := 0) b1, ?_, e2, e3, e4, by rw [e5]; exact GX_ok rfl (zR_s (by omega) (by omega))⟩
    rw [emod, b2]
    unfold j_X12_loadLine_50
    rw [e_many, zc_n, B_errs b3.2.2, zc_n, e1]
    split <;> rfl
