/-! More queries. -/
theorem G_account (x : Int) : GO [0] (f_X11_account x) (f_X12_account x) := by
  intro dc ds hg hR
  obtain ⟨K, L, hr, hz⟩ := GR_L hg
  obtain ⟨-, ⟨-, hA, -⟩, -⟩ := hr
  have e401 : ∀ t, zu ds 400 0 t 401 = ds 401 := fun t => zu_row (by omega)
  by_cases hx : 0 ≤ x ∧ x ≤ 12
  · refine GO_q hg (v := dc (30 + 28) x.toNat) (v' := ds 401 (12 + x).toNat) (t := 0) ?_ ?_ (GX_ok (hA x hx.1 (by omega)) (hR _ _))
    · unfold f_X11_account
      rw [if_neg (by omega), if_pos (by omega), zg_t (by omega), zl_n]
    · unfold f_X12_account j_X12_account_16
      rw [e_isIn, zc_n, if_pos hx, if_neg (by decide), zl_n, zl_n, zu_q, if_pos rfl, zl_n, zw_id (by omega) (by omega), zg_t (by omega), zl_n, e401]
  · refine GO_q hg (v := 4294967296 + (0 : Nat)) (v' := 0) (t := ((0 : Nat) : Int) + 1) ?_ ?_ (GX_ex 0 0 rfl)
    · unfold f_X11_account j_X11_account_10
      by_cases h0 : x < 0
      · rw [if_pos h0]; rfl
      · rw [if_neg h0, if_neg (by omega)]; rfl
    · unfold f_X12_account j_X12_account_16
      rw [e_isIn, zc_n, if_neg hx, if_pos rfl, zl_n, zl_n, zu_q, if_neg (by decide)]; rfl
theorem G_setting (x : Int) : GO [0] (f_X11_setting x) (f_X12_setting x) := by
  intro dc ds hg hR
  obtain ⟨K, L, hr, hz⟩ := GR_L hg
  obtain ⟨-, ⟨hA, -, -⟩, -⟩ := hr
  have e401 : ∀ t, zu ds 400 0 t 401 = ds 401 := fun t => zu_row (by omega)
  by_cases hx : 0 ≤ x ∧ x ≤ 5
  · refine GO_q hg (v := dc (30 + 27) x.toNat) (v' := ds 401 (6 + x).toNat) (t := 0) ?_ ?_ (GX_ok (hA x hx.1 (by omega)) (hR _ _))
    · unfold f_X11_setting
      rw [if_neg (by omega), if_pos (by omega), zg_t (by omega), zl_n]
    · unfold f_X12_setting j_X12_setting_15
      rw [e_isIn, zc_n, if_pos hx, if_neg (by decide), zl_n, zl_n, zu_q, if_pos rfl, zl_n, zw_id (by omega) (by omega), zg_t (by omega), zl_n, e401]
  · refine GO_q hg (v := 4294967296 + (0 : Nat)) (v' := 0) (t := ((0 : Nat) : Int) + 1) ?_ ?_ (GX_ex 0 0 rfl)
    · unfold f_X11_setting j_X11_setting_10
      by_cases h0 : x < 0
      · rw [if_pos h0]; rfl
      · rw [if_neg h0, if_neg (by omega)]; rfl
    · unfold f_X12_setting j_X12_setting_15
      rw [e_isIn, zc_n, if_neg hx, if_pos rfl, zl_n, zl_n, zu_q, if_neg (by decide)]; rfl
theorem n10 {a : Int} (h : a = 0 ∨ a = 1) (P : Prop) [Decidable P] (e : a = if P then 1 else 0) : (a = 0 ↔ ¬ P) := by
  subst e
  by_cases hp : P
  · simp [hp]
  · simp [hp]
/-- no such terminal -/
theorem G_noT {es : List Nat} {mc : zD → Option (Int × zD)} {mr : zD → Option (Int × zD)} {dc ds : zD} (hg : GR dc ds) (h1 : mc dc = some (4294967296 + 1, dc)) (h2 : mr ds = some (0, zu ds 400 0 1)) (he : es[0]? = some 1) : ∃ v dc' v' ds', mc dc = some (v, dc') ∧ mr ds = some (v', ds') ∧ GR dc' ds' ∧ Fc dc dc' ∧ Fm ds ds' ∧ GX es v v' (ds' 400 0) :=
  GO_q hg h1 h2 (Or.inr ⟨0, 1, he, rfl, rfl⟩)
theorem G_noA {es : List Nat} {mc : zD → Option (Int × zD)} {mr : zD → Option (Int × zD)} {dc ds : zD} (hg : GR dc ds) (h1 : mc dc = some (4294967296 + 0, dc)) (h2 : mr ds = some (0, zu ds 400 0 2)) (he : es[1]? = some 0) : ∃ v dc' v' ds', mc dc = some (v, dc') ∧ mr ds = some (v', ds') ∧ GR dc' ds' ∧ Fc dc dc' ∧ Fm ds ds' ∧ GX es v v' (ds' 400 0) :=
  GO_q hg h1 h2 (Or.inr ⟨1, 0, he, rfl, rfl⟩)
theorem G_terminal (x w : Int) : GO [1, 0] (f_X11_terminal x w) (f_X12_terminal x w) := by
  intro dc ds hg hR
  obtain ⟨K, L, hr, hz⟩ := GR_L hg
  have hl := hg.1
  obtain ⟨i0, i1, i2, i4, -⟩ := LR_2 hl
  have hh := hr
  obtain ⟨-, -, hQ, -, -, hK, hL, hKL, -, -, -, -, -, -, hU, -⟩ := hh
  have e401 : ∀ t, zu ds 400 0 t 401 = ds 401 := fun t => zu_row (by omega)
  by_cases hx : 0 ≤ x ∧ x < ds 401 0
  · have c1 : f_X6_has 1 x dc = some (1, dc) := by rw [e_has6, if_pos ⟨hx.1, by rw [hU.1]; exact hx.2⟩]
    have m1 : f_X12_isTerminal x ds = some (1, ds) := by rw [e_isTerminal (by omega), if_pos hx]
    by_cases hw : 0 ≤ w ∧ w ≤ 13
    · have mm : ∀ {v' : Int}, (if 6 ≤ w then (if 9 ≤ w then (if w = 9 then (zc (f_X12_placesOf x (zu ds 400 0 0)) fun v58 d => some (v58, d)) else if w = 10 then j_X12_terminal_101 6 x (zu ds 400 0 0) else if w = 11 then j_X12_terminal_101 7 x (zu ds 400 0 0) else if w = 12 then j_X12_terminal_101 8 x (zu ds 400 0 0) else j_X12_terminal_101 9 x (zu ds 400 0 0)) else (zl (zw (w - 6)) fun v45 => zc (f_X12_inRowMany x v45 (zu ds 400 0 0)) fun v46 d => some (v46, d))) else (zc (f_X12_of x w (zu ds 400 0 0)) fun v30 d => some (v30, d))) = some (v', zu ds 400 0 0) → f_X12_terminal x w ds = some (v', zu ds 400 0 0) := fun {v'} he => by
        unfold f_X12_terminal
        rw [m1, zc_n, e_isIn, zc_n, if_pos hw, e_may11, zc_n, if_neg (show ¬ (1 : Int) = 0 by decide)]
        exact he
      have cc : ∀ {v : Int}, zsw w [(0, (zg 8 x <| zl (dc (1 + 2) x.toNat) fun v100 => some (v100, dc))), (1, (zg 8 x <| zl (dc (1 + 3) x.toNat) fun v110 => some (v110, dc))), (2, (zg 8 x <| zl (dc (1 + 4) x.toNat) fun v120 => some (v120, dc))), (3, (zg 8 x <| zl (dc (30 + 16) x.toNat) fun v133 => some (v133, dc))), (4, (zg 8 x <| zl (dc (30 + 17) x.toNat) fun v146 => some (v146, dc))), (5, (zg 8 x <| zl (dc (30 + 18) x.toNat) fun v159 => some (v159, dc))), (6, (zl (zw (w - 6)) fun v171 => zc (f_X4_sizeOf 30 v171 x dc) fun v173 d => some (v173, d))), (7, (zl (zw (w - 6)) fun v171 => zc (f_X4_sizeOf 30 v171 x dc) fun v173 d => some (v173, d))), (8, (zl (zw (w - 6)) fun v171 => zc (f_X4_sizeOf 30 v171 x dc) fun v173 d => some (v173, d))), (9, (zc (f_X2_placesWith 30 x dc) fun v182 d => some (v182, d))), (10, (zg 8 x <| zl (dc (30 + 19) x.toNat) fun v197 => some (v197, dc))), (11, (zg 8 x <| zl (dc (30 + 20) x.toNat) fun v210 => some (v210, dc))), (12, (zg 8 x <| zl (dc (30 + 21) x.toNat) fun v223 => some (v223, dc))), (13, (zg 8 x <| zl (dc (30 + 22) x.toNat) fun v236 => some (v236, dc)))] (some (4294967296 + 0, dc)) = some (v, dc) → f_X11_terminal x w dc = some (v, dc) := fun {v} he => by
        unfold f_X11_terminal
        rw [c1, zc_n, if_neg (by decide)]
        exact he
      have fin : ∀ {v : Int}, f_X11_terminal x w dc = some (v, dc) → f_X12_terminal x w ds = some (v, zu ds 400 0 0) → zR v → ∃ v dc' v' ds', f_X11_terminal x w dc = some (v, dc') ∧ f_X12_terminal x w ds = some (v', ds') ∧ GR dc' ds' ∧ Fc dc dc' ∧ Fm ds ds' ∧ GX [1, 0] v v' (ds' 400 0) := fun h1 h2 h3 => GO_q hg h1 h2 (GX_ok rfl h3)
      have of : ∀ {y : Int}, 0 ≤ y ∧ y < 16 → (zc (f_X12_of x y (zu ds 400 0 0)) fun v30 d => some (v30, d)) = some (rT (ds 401) x y, zu ds 400 0 0) := fun hy => by rw [e_of (by omega) hy, zc_n, e401]
      have j101 : ∀ {y : Int}, 0 ≤ y ∧ y < 16 → j_X12_terminal_101 y x (zu ds 400 0 0) = some (rT (ds 401) x y, zu ds 400 0 0) := fun hy => of hy
      have q := hQ x hx.1 hx.2
      have u := hU.2 x hx.1 hx.2
      have rd : ∀ {c : Nat} {y : Int}, dc c x.toNat = y → (zg 8 x <| zl (dc c x.toNat) fun v100 => some (v100, dc)) = some (y, dc) := fun h => by rw [zg_t (by omega), zl_n, h]
      have rz : ∀ {c : Nat} {y : Int}, dc c x.toNat = y → zR y := fun h => h ▸ hR _ _
      have rows : ∀ y : Int, w = y + 6 → 0 ≤ y ∧ y < 3 → f_X11_terminal x w dc = (zl (zw (w - 6)) fun v171 => zc (f_X4_sizeOf 30 v171 x dc) fun v173 d => some (v173, d)) → ∃ v dc' v' ds', f_X11_terminal x w dc = some (v, dc') ∧ f_X12_terminal x w ds = some (v', ds') ∧ GR dc' ds' ∧ Fc dc dc' ∧ Fm ds ds' ∧ GX [1, 0] v v' (ds' 400 0) := fun y hy hy2 he => by
        have hKx : K y x = L y x := by
          obtain ⟨g1, g2, g3⟩ := hKL x
          have hy3 : y = 0 ∨ y = 1 ∨ y = 2 := by omega
          rcases hy3 with rfl | rfl | rfl
          · exact g1
          · exact g2
          · exact g3
        have hlen := KR_len hK (r := y) (x := x) ⟨⟨by omega, by omega⟩, by omega, by omega⟩ i2.2 i2.1
        refine fin (v := ((L y x).length : Int)) ?_ (mm ?_) (by rw [hKx] at hlen; exact zR_s (by omega) (by omega))
        · rw [he, zl_n, show w - 6 = y by omega, zw_id (by omega) (by omega), KR_size hK (by omega), zc_n, hKx]
        · rw [if_pos (by omega), if_neg (by omega), zl_n, show w - 6 = y by omega, zw_id (by omega) (by omega), e_inRowMany (by rw [e401]; exact i2), zc_n, e401, rwl_many (hL y x (by omega) (by omega) hx.1 (by omega)) i2.1]
      have hc0 : w = 0 ∨ w = 1 ∨ w = 2 ∨ w = 3 ∨ w = 4 ∨ w = 5 ∨ w = 6 ∨ w = 7 ∨ w = 8 ∨ w = 9 ∨ w = 10 ∨ w = 11 ∨ w = 12 ∨ w = 13 := by omega
      rcases hc0 with e | e | e | e | e | e | e | e | e | e | e | e | e | e
      · subst e; exact fin (cc (rd u.1)) (mm (of (by decide))) (rz u.1)
      · subst e; exact fin (cc (rd u.2.1)) (mm (of (by decide))) (rz u.2.1)
      · subst e; exact fin (cc (rd u.2.2.1)) (mm (of (by decide))) (rz u.2.2.1)
      · subst e; exact fin (cc (rd q.1)) (mm (of (by decide))) (rz q.1)
      · subst e; exact fin (cc (rd q.2.1)) (mm (of (by decide))) (rz q.2.1)
      · subst e; exact fin (cc (rd q.2.2.1)) (mm (of (by decide))) (rz q.2.2.1)
      · refine rows 0 (by omega) (by omega) ?_
        unfold f_X11_terminal
        rw [c1, zc_n, if_neg (by decide), e]; rfl
      · refine rows 1 (by omega) (by omega) ?_
        unfold f_X11_terminal
        rw [c1, zc_n, if_neg (by decide), e]; rfl
      · refine rows 2 (by omega) (by omega) ?_
        unfold f_X11_terminal
        rw [c1, zc_n, if_neg (by decide), e]; rfl
      · subst e
        have hc := cnt_R (p := fun y => decide (ds 401 (30 + y).toNat = x)) (m := 0) (k := (ds 401 1).toNat)
        refine fin (v := cnt (fun y => decide (ds 401 (30 + y).toNat = x)) 0 (ds 401 1).toNat) (cc ?_) (mm ?_) (zR_s (by omega) (by omega))
        · show (zc (f_X2_placesWith 30 x dc) fun v182 d => some (v182, d)) = _
          unfold f_X2_placesWith
          rw [k_places hr (ds 401 1).toNat zF 0 0 (by have := zF_big; omega) (by omega) (by omega) (by omega) (by omega), zc_n, Int.zero_add]
        · rw [if_pos (by decide), if_pos (by decide), if_pos rfl]
          unfold f_X12_placesOf
          rw [m_places (by rw [e401]; exact i1) (zu ds 400 0 0 401 1).toNat zF 0 0 (by rw [e401]; have := zF_big; omega) (by omega) (by rw [e401]; omega) (by omega) (by omega), zc_n, e401, Int.zero_add]
      · subst e; exact fin (cc (rd q.2.2.2.1)) (mm (j101 (by decide))) (rz q.2.2.2.1)
      · subst e; exact fin (cc (rd q.2.2.2.2.1)) (mm (j101 (by decide))) (rz q.2.2.2.2.1)
      · subst e; exact fin (cc (rd q.2.2.2.2.2.1)) (mm (j101 (by decide))) (rz q.2.2.2.2.2.1)
      · subst e; exact fin (cc (rd q.2.2.2.2.2.2.1)) (mm (j101 (by decide))) (rz q.2.2.2.2.2.2.1)
    · refine G_noA hg ?_ ?_ rfl
      · unfold f_X11_terminal
        rw [c1, zc_n, if_neg (by decide)]
        simp only [zsw]
        rw [if_neg (by omega), if_neg (by omega), if_neg (by omega), if_neg (by omega), if_neg (by omega), if_neg (by omega), if_neg (by omega), if_neg (by omega), if_neg (by omega), if_neg (by omega), if_neg (by omega), if_neg (by omega), if_neg (by omega), if_neg (by omega)]
      · unfold f_X12_terminal
        rw [m1, zc_n, e_isIn, zc_n, if_neg hw, e_may10, zc_n, if_pos (show (0 : Int) = 0 from rfl)]
  · refine G_noT hg ?_ ?_ rfl
    · unfold f_X11_terminal
      rw [e_has6, zc_n, if_neg (show ¬ (0 ≤ x ∧ x < dc 1 0) by rw [hU.1]; exact hx), if_pos rfl]
    · unfold f_X12_terminal
      rw [e_isTerminal (by omega), zc_n, if_neg hx, e_isIn, zc_n, e_may0, zc_n, if_pos (show (0 : Int) = 0 from rfl)]
theorem G_message (x w : Int) : GO [1, 0] (f_X11_message x w) (f_X12_message x w) := by
  intro dc ds hg hR
  obtain ⟨K, L, hr, hz⟩ := GR_L hg
  obtain ⟨i0, i1, i2, i4, -⟩ := LR_2 hg.1
  have hh := hr
  obtain ⟨hS, -, -, hM, -⟩ := hh
  have sm := hS.2.2.2.2.2.2.2.2
  have e401 : ∀ t, zu ds 400 0 t 401 = ds 401 := fun t => zu_row (by omega)
  have e2 : ds 401 (2 : Int).toNat = ds 401 2 := rfl
  by_cases hx : 0 ≤ x ∧ x < ds 401 2
  · have c1 : f_X3_has 30 x dc = some (1, dc) := by rw [e_has3, if_pos ⟨hx.1, by rw [sm]; exact hx.2⟩]
    have m1 : ∀ {r : Option (Int × zD)}, (zc (f_X12_isIn w 0 7 ds) fun v18 d => zc (f_X12_may 1 v18 d) fun v21 d => if v21 = 0 then some (0, d) else zc (f_X12_message0 x w d) fun v30 d => some (v30, d)) = r → f_X12_message x w ds = r := fun he => by
      unfold f_X12_message
      rw [zg_t (by omega), zl_n, e2, zl_n, zw_id (by omega) (by omega), e_isIn, zc_n, if_pos (by omega)]
      exact he
    by_cases hw : 0 ≤ w ∧ w ≤ 7
    · have mm : f_X12_message x w ds = some (rM (ds 401) x w, zu ds 400 0 0) := m1 (by
        rw [e_isIn, zc_n, if_pos hw, e_may11, zc_n, if_neg (show ¬ (1 : Int) = 0 by decide), e_message0 (by omega) (by omega), zc_n, e401])
      have q := hM x hx.1 hx.2
      have q7 := q.2.2.2.2.2.2 (fun _ _ _ h => by cases h)
      have rd : ∀ {c : Nat} {y : Int}, dc c x.toNat = y → (zg 40 x <| zl (dc c x.toNat) fun v100 => some (v100, dc)) = some (y, dc) := fun h => by rw [zg_t (by omega), zl_n, h]
      have rz : ∀ {c : Nat} {y : Int}, dc c x.toNat = y → zR y := fun h => h ▸ hR _ _
      have fin : ∀ {c : Nat}, f_X11_message x w dc = (zg 40 x <| zl (dc c x.toNat) fun v100 => some (v100, dc)) → dc c x.toNat = rM (ds 401) x w → ∃ v dc' v' ds', f_X11_message x w dc = some (v, dc') ∧ f_X12_message x w ds = some (v', ds') ∧ GR dc' ds' ∧ Fc dc dc' ∧ Fm ds ds' ∧ GX [1, 0] v v' (ds' 400 0) := fun h1 h2 => GO_q hg (h1.trans (rd h2)) mm (GX_ok rfl (rz h2))
      have hc : ∀ {r : Option (Int × zD)}, zsw w [(0, (zg 40 x <| zl (dc (30 + 2) x.toNat) fun v77 => some (v77, dc))), (1, (zg 40 x <| zl (dc (30 + 3) x.toNat) fun v84 => some (v84, dc))), (2, (zg 40 x <| zl (dc (30 + 4) x.toNat) fun v91 => some (v91, dc))), (3, (zg 40 x <| zl (dc (30 + 5) x.toNat) fun v98 => some (v98, dc))), (4, (zg 40 x <| zl (dc (30 + 6) x.toNat) fun v105 => some (v105, dc))), (5, (zg 40 x <| zl (dc (30 + 7) x.toNat) fun v112 => some (v112, dc))), (6, (zg 40 x <| zl (dc (30 + 8) x.toNat) fun v119 => some (v119, dc))), (7, (zg 40 x <| zl (dc (30 + 9) x.toNat) fun v126 => some (v126, dc)))] (some (4294967296 + 0, dc)) = r → f_X11_message x w dc = r := fun he => by
        unfold f_X11_message
        rw [c1, zc_n, if_neg (by decide)]
        exact he
      have hc0 : w = 0 ∨ w = 1 ∨ w = 2 ∨ w = 3 ∨ w = 4 ∨ w = 5 ∨ w = 6 ∨ w = 7 := by omega
      rcases hc0 with e | e | e | e | e | e | e | e <;> subst e
      · exact fin (hc rfl) q.1
      · exact fin (hc rfl) q.2.1
      · exact fin (hc rfl) q.2.2.1
      · exact fin (hc rfl) q7.1
      · exact fin (hc rfl) q.2.2.2.1
      · exact fin (hc rfl) q.2.2.2.2.1
      · exact fin (hc rfl) q.2.2.2.2.2.1
      · exact fin (hc rfl) q7.2
    · refine G_noA hg ?_ (m1 ?_) rfl
      · unfold f_X11_message
        rw [c1, zc_n, if_neg (by decide)]
        simp only [zsw]
        rw [if_neg (by omega), if_neg (by omega), if_neg (by omega), if_neg (by omega), if_neg (by omega), if_neg (by omega), if_neg (by omega), if_neg (by omega)]
      · rw [e_isIn, zc_n, if_neg hw, e_may10, zc_n, if_pos (show (0 : Int) = 0 from rfl)]
  · refine G_noT hg ?_ ?_ rfl
    · unfold f_X11_message
      rw [e_has3, zc_n, if_neg (show ¬ (0 ≤ x ∧ x < dc (30 + 1) 0) by rw [sm]; exact hx), if_pos rfl]
    · unfold f_X12_message
      rw [zg_t (by omega), zl_n, e2, zl_n, zw_id (by omega) (by omega), e_isIn, zc_n, if_neg (by omega), e_isIn, zc_n, e_may0, zc_n, if_pos (show (0 : Int) = 0 from rfl)]
theorem k_messageAt {d : zD} {b : Nat} {n : Int} {M : zM} {K : Int → Int → List Int} {r x : Int} (h : KR K d b n M) (hr : (0 ≤ r ∧ r < 3) ∧ 0 ≤ x ∧ x < 8) (hn : 0 ≤ n ∧ n ≤ 40) {i : Int} {a : Int} {l1 l2 : List Int} (hl : K r x = l1 ++ a :: l2) (hi : i = l1.length) : f_X4_messageAt b r x i d = some (a, d) := by
  have hlen := KR_len h hr hn.2 hn.1
  have hsz := hlen
  rw [hl] at hsz
  simp at hsz
  obtain ⟨⟨-, -, hk⟩, -, hm⟩ := h r x hr.1.1 hr.1.2 hr.2.1 hr.2.2
  rw [hl] at hk hm
  have loop : ∀ (m1 : List Int) (q : Nat) (c j : Int), m1.length < q → kch d b r (m1 ++ a :: l2) → (∀ m, m ∈ m1 ++ a :: l2 → (0 ≤ m ∧ m < n) ∧ own M r m = x) → c = hd1 (m1 ++ a :: l2) → 0 ≤ j → j + m1.length = i → l_X4_messageAt_27 b q r i c j d = some (a, d) := by
    intro m1
    induction m1 with
    | nil =>
      intro q c j hq hk hm hc j0 hj
      obtain ⟨q, rfl⟩ : ∃ q', q = q' + 1 := ⟨q - 1, by omega⟩
      show l_X4_messageAt_27F b _ r i c j d = _
      unfold l_X4_messageAt_27F
      rw [if_pos (by simp at hj; omega), hc]
      rfl
    | cons e m1 ih =>
      intro q c j hq hk hm hc j0 hj
      obtain ⟨q, rfl⟩ : ∃ q', q = q' + 1 := ⟨q - 1, by omega⟩
      have he := (hm e List.mem_cons_self).1
      have hc : c = e := hc
      have hk2 : d (b + 14) (r * 40 + e).toNat = hd1 (m1 ++ a :: l2) ∧ kch d b r (m1 ++ a :: l2) := by
        cases m1 with
        | nil => exact hk
        | cons f m1 => exact hk
      show l_X4_messageAt_27F b _ r i c j d = _
      unfold l_X4_messageAt_27F
      simp at hj
      rw [if_neg (by omega), hc, e_nextOf (by omega), zc_n, zl_n, zw_id (by omega) (by omega), hk2.1]
      exact ih q _ (j + 1) (by simp at hq; omega) hk2.2 (fun m hm' => hm m (List.mem_cons_of_mem _ hm')) rfl (by omega) (by omega)
  unfold f_X4_messageAt
  rw [if_neg (by omega), KR_size h hr, zc_n, hl, if_pos (by simp; omega), KR_first h hr, zc_n, hl]
  exact loop l1 zF _ 0 (by have := zF_big; omega) hk hm rfl (by omega) (by omega)
theorem G_inRow (x r i : Int) : GO [1, 0] (f_X11_inRow x r i) (f_X12_inRow x r i) := by
  intro dc ds hg hR
  obtain ⟨K, L, hr, hz⟩ := GR_L hg
  obtain ⟨i0, i1, i2, i4, -⟩ := LR_2 hg.1
  have hh := hr
  obtain ⟨-, -, -, -, -, hK, hL, hKL, -, -, -, -, -, -, hU, -⟩ := hh
  have e401 : ∀ t, zu ds 400 0 t 401 = ds 401 := fun t => zu_row (by omega)
  by_cases hx : 0 ≤ x ∧ x < ds 401 0
  · have c1 : f_X6_has 1 x dc = some (1, dc) := by rw [e_has6, if_pos ⟨hx.1, by rw [hU.1]; exact hx.2⟩]
    have m1 : f_X12_isTerminal x ds = some (1, ds) := by rw [e_isTerminal (by omega), if_pos hx]
    by_cases hw : 0 ≤ r ∧ r ≤ 2
    · have hKx : K r x = L r x := by
        obtain ⟨g1, g2, g3⟩ := hKL x
        have hy3 : r = 0 ∨ r = 1 ∨ r = 2 := by omega
        rcases hy3 with rfl | rfl | rfl
        · exact g1
        · exact g2
        · exact g3
      have hrw := hL r x (by omega) (by omega) hx.1 (by omega)
      have ec : ∀ {v : Int}, f_X4_messageAt 30 r x i dc = some (v, dc) → f_X11_inRow x r i dc = some (v, dc) := fun he => by
        unfold f_X11_inRow
        rw [c1, zc_n, if_neg (by decide), if_neg (by omega), if_pos (by omega), he, zc_n]
      have em : ∀ {v : Int}, (if 0 ≤ i then (zc (f_X12_rowAt x r i (zu ds 400 0 0)) fun v32 d => some (v32, d)) else some (-1, zu ds 400 0 0)) = some (v, zu ds 400 0 0) → f_X12_inRow x r i ds = some (v, zu ds 400 0 0) := fun he => by
        unfold f_X12_inRow
        rw [m1, zc_n, e_isIn, zc_n, if_pos hw, e_may11, zc_n, if_neg (show ¬ (1 : Int) = 0 by decide)]
        exact he
      by_cases hin : 0 ≤ i ∧ i < ((L r x).length : Int)
      · have hlt : i.toNat < (L r x).length := by omega
        have hsp : L r x = (L r x).take i.toNat ++ (L r x)[i.toNat] :: (L r x).drop (i.toNat + 1) := by
          rw [List.getElem_cons_drop, List.take_append_drop]
        have hti : i = (((L r x).take i.toNat).length : Int) := by rw [List.length_take]; omega
        have hmem : (L r x)[i.toNat] ∈ L r x := List.getElem_mem hlt
        have hmr := ((hrw.2 _).mp hmem).1
        have hrw2 := hrw
        rw [hsp] at hrw2
        refine GO_q hg (v := (L r x)[i.toNat]) (ec (k_messageAt hK (by omega) i2 (by rw [hKx]; exact hsp) hti)) (em ?_) (GX_ok rfl (zR_s (by omega) (by omega)))
        rw [if_pos hin.1, e_rowAt (by rw [e401]; exact i2), zc_n, e401, rwl_at hrw2 i2.1 hti]
      · refine GO_q hg (v := -1) (ec ?_) (em ?_) (GX_ok rfl (zRk rfl))
        · unfold f_X4_messageAt
          by_cases h0 : i < 0
          · rw [if_pos h0]
          · rw [if_neg h0, KR_size hK (by omega), zc_n, hKx, if_neg (by omega)]
        · by_cases h0 : 0 ≤ i
          · rw [if_pos h0, e_rowAt (by rw [e401]; exact i2), zc_n, e401, rwl_off hrw i2.1 (Or.inr (by omega))]
          · rw [if_neg h0]
    · refine G_noA hg ?_ ?_ rfl
      · unfold f_X11_inRow j_X11_inRow_28
        rw [c1, zc_n, if_neg (by decide)]
        by_cases h0 : r < 0
        · rw [if_pos h0]
        · rw [if_neg h0, if_neg (by omega)]
      · unfold f_X12_inRow
        rw [m1, zc_n, e_isIn, zc_n, if_neg hw, e_may10, zc_n, if_pos (show (0 : Int) = 0 from rfl)]
  · refine G_noT hg ?_ ?_ rfl
    · unfold f_X11_inRow
      rw [e_has6, zc_n, if_neg (show ¬ (0 ≤ x ∧ x < dc 1 0) by rw [hU.1]; exact hx), if_pos rfl]
    · unfold f_X12_inRow
      rw [e_isTerminal (by omega), zc_n, if_neg hx, e_isIn, zc_n, e_may0, zc_n, if_pos (show (0 : Int) = 0 from rfl)]
theorem G_place (x : Int) : GO [1] (f_X11_place x) (f_X12_place x) := by
  intro dc ds hg hR
  obtain ⟨K, L, hr, hz⟩ := GR_L hg
  obtain ⟨i0, i1, i2, i4, -⟩ := LR_2 hg.1
  have hh := hr
  obtain ⟨⟨s8, -⟩, ⟨-, -, aL⟩, -⟩ := hh
  have e401 : ∀ t, zu ds 400 0 t 401 = ds 401 := fun t => zu_row (by omega)
  have e1 : ds 401 (1 : Int).toNat = ds 401 1 := rfl
  by_cases hx : 0 ≤ x ∧ x < ds 401 1
  · refine GO_q hg (v := dc (30 + 29) x.toNat) (v' := ds 401 (30 + x).toNat) (t := 0) ?_ ?_ (GX_ok (aL x hx.1 hx.2) (hR _ _))
    · unfold f_X11_place f_X2_hasPlace
      rw [if_neg (by omega), zl_n, s8, if_neg (by omega), zc_n, if_neg (by decide), zg_t (by omega), zl_n]
    · unfold f_X12_place
      rw [zg_t (by omega), zl_n, e1, zl_n, zw_id (by omega) (by omega), e_isIn, zc_n, if_pos (by omega), e_may11, zc_n, if_neg (show ¬ (1 : Int) = 0 by decide), zl_n, zw_id (by omega) (by omega), zg_t (by omega), zl_n, e401]
  · refine G_noT hg ?_ ?_ rfl
    · unfold f_X11_place f_X2_hasPlace
      by_cases h0 : x < 0
      · rw [if_pos h0, zc_n, if_pos rfl]
      · rw [if_neg h0, zl_n, s8, if_pos (by omega), zc_n, if_pos rfl]
    · unfold f_X12_place
      rw [zg_t (by omega), zl_n, e1, zl_n, zw_id (by omega) (by omega), e_isIn, zc_n, if_neg (by omega), e_may0, zc_n, if_pos (show (0 : Int) = 0 from rfl)]
theorem G_often (x w : Int) : GO [1, 0] (f_X11_often x w) (f_X12_often x w) := by
  intro dc ds hg hR
  obtain ⟨K, L, hr, hz⟩ := GR_L hg
  obtain ⟨i0, i1, i2, i4, -⟩ := LR_2 hg.1
  have hh := hr
  obtain ⟨-, -, hQ, -, -, -, -, -, -, -, -, -, -, -, hU, -⟩ := hh
  have e401 : ∀ t, zu ds 400 0 t 401 = ds 401 := fun t => zu_row (by omega)
  by_cases hx : 0 ≤ x ∧ x < ds 401 0
  · have c1 : f_X6_has 1 x dc = some (1, dc) := by rw [e_has6, if_pos ⟨hx.1, by rw [hU.1]; exact hx.2⟩]
    have m1 : f_X12_isTerminal x ds = some (1, ds) := by rw [e_isTerminal (by omega), if_pos hx]
    by_cases hw : 0 ≤ w ∧ w ≤ 3
    · have q := (hQ x hx.1 hx.2).2.2.2.2.2.2.2 w hw.1 (by omega)
      refine GO_q hg (v := dc (30 + 24) (w * 8 + x).toNat) (v' := rT (ds 401) x (11 + w)) (t := 0) ?_ ?_ (GX_ok q (hR _ _))
      · unfold f_X11_often f_X8_oftenOf
        rw [c1, zc_n, if_neg (by decide), if_neg (by omega), if_pos (by omega), zl_n, zl_n, zw_id (x := w * 8) (by omega) (by omega), zw_id (by omega) (by omega), if_neg (show ¬ w * 8 + x < 0 by omega), if_neg (show ¬ (32 : Int) ≤ w * 8 + x by omega), zg_t (by omega), zl_n, zc_n]
      · unfold f_X12_often
        rw [m1, zc_n, e_isIn, zc_n, if_pos hw, e_may11, zc_n, if_neg (show ¬ (1 : Int) = 0 by decide), zl_n, zw_id (by omega) (by omega), e_of (by omega) (by omega), zc_n, e401]
    · refine G_noA hg ?_ ?_ rfl
      · unfold f_X11_often j_X11_often_28
        rw [c1, zc_n, if_neg (by decide)]
        by_cases h0 : w < 0
        · rw [if_pos h0]
        · rw [if_neg h0, if_neg (by omega)]
      · unfold f_X12_often
        rw [m1, zc_n, e_isIn, zc_n, if_neg hw, e_may10, zc_n, if_pos (show (0 : Int) = 0 from rfl)]
  · refine G_noT hg ?_ ?_ rfl
    · unfold f_X11_often
      rw [e_has6, zc_n, if_neg (show ¬ (0 ≤ x ∧ x < dc 1 0) by rw [hU.1]; exact hx), if_pos rfl]
    · unfold f_X12_often
      rw [e_isTerminal (by omega), zc_n, if_neg hx, e_isIn, zc_n, e_may0, zc_n, if_pos (show (0 : Int) = 0 from rfl)]
theorem G_turn (x w : Int) : GO [1, 0] (f_X11_turn x w) (f_X12_turn x w) := by
  intro dc ds hg hR
  obtain ⟨K, L, hr, hz⟩ := GR_L hg
  have hh := hr
  obtain ⟨-, -, -, -, -, -, -, -, -, ⟨g1, g2, g3⟩, ⟨-, -, -, -, -, -, -, -, -, -, -, -, -, -, -, i29, -⟩, -⟩ := hh
  have e401 : ∀ t, zu ds 400 0 t 401 = ds 401 := fun t => zu_row (by omega)
  have e29 : ds 401 (29 : Int).toNat = ds 401 29 := rfl
  by_cases hx : 0 ≤ x ∧ x < ds 401 29
  · by_cases hw : 0 ≤ w ∧ w ≤ 4
    · have q := g3 x w hx.1 hx.2 hw.1 (by omega)
      have hrem := zrem_of (dc (30 + 25) 1 - 1 - x + 40) 20 (by omega) (by omega) (by omega) (by omega)
      refine GO_q hg (v := dc (30 + 26) ((dc (30 + 25) 1 + 39 - x) % 20 * 5 + w).toNat) (v' := ds 401 (700 + 5 * (ds 401 29 - 1 - x) + w).toNat) (t := 0) ?_ ?_ (GX_ok q (hR _ _))
      · unfold f_X11_turn f_X10_numberOf
        rw [if_neg (by omega), zl_n, g1, if_pos (by omega), if_neg (by omega), if_pos (by omega), zl_n, zl_n, zw_id (x := dc (30 + 25) 1 - 1) (by omega) (by omega), zl_n, zw_id (x := dc (30 + 25) 1 - 1 - x) (by omega) (by omega), zl_n, zw_id (x := dc (30 + 25) 1 - 1 - x + 40) (by omega) (by omega), zn_20, zl_n, hrem, zl_n, zw_id (x := (dc (30 + 25) 1 - 1 - x + 40) % 20 * 5) (by omega) (by omega), zl_n, zw_id (by omega) (by omega), zg_t (by omega), zl_n, zc_n, show dc (30 + 25) 1 - 1 - x + 40 = dc (30 + 25) 1 + 39 - x by omega]
      · unfold f_X12_turn
        have e29' : zu ds 400 0 0 401 (29 : Int).toNat = ds 401 29 := by rw [e401]; rfl
        rw [zg_t (by omega), zl_n, e29, zl_n, zw_id (x := ds 401 29 - 1) (by omega) (by omega), e_isIn, zc_n, if_pos (by omega), e_isIn, zc_n, if_pos hw, e_may11, zc_n, if_neg (show ¬ (1 : Int) = 0 by decide), zg_t (by omega), zl_n, e29', zl_n, zw_id (x := ds 401 29 - 1) (by omega) (by omega), zl_n, zw_id (x := ds 401 29 - 1 - x) (by omega) (by omega), zl_n, zw_id (x := 5 * (ds 401 29 - 1 - x)) (by omega) (by omega), zl_n, zw_id (x := 700 + 5 * (ds 401 29 - 1 - x)) (by omega) (by omega), zl_n, zw_id (by omega) (by omega), zg_t (by omega), zl_n, e401]
    · refine G_noA hg ?_ ?_ rfl
      · unfold f_X11_turn j_X11_turn_35
        rw [if_neg (by omega), zl_n, g1, if_pos (by omega)]
        by_cases h0 : w < 0
        · rw [if_pos h0]
        · rw [if_neg h0, if_neg (by omega)]
      · unfold f_X12_turn
        rw [zg_t (by omega), zl_n, e29, zl_n, zw_id (by omega) (by omega), e_isIn, zc_n, if_pos (by omega), e_isIn, zc_n, if_neg hw, e_may10, zc_n, if_pos (show (0 : Int) = 0 from rfl)]
  · refine G_noT hg ?_ ?_ rfl
    · unfold f_X11_turn j_X11_turn_18
      by_cases h0 : x < 0
      · rw [if_pos h0]
      · rw [if_neg h0, zl_n, g1, if_neg (by omega)]
    · unfold f_X12_turn
      rw [zg_t (by omega), zl_n, e29, zl_n, zw_id (by omega) (by omega), e_isIn, zc_n, if_neg (by omega), e_isIn, zc_n, e_may0, zc_n, if_pos (show (0 : Int) = 0 from rfl)]
