/-! A line is loaded. -/
theorem L_beg0 : ∀ (k q : Nat) {d : zD} {x : Int}, k < q → 0 ≤ x → x + k = 800 → ∃ d' r, l_X12_begins_2 q x d = l_X12_begins_2F r 800 d' ∧ (∀ c, c ≠ 401 → d' c = d c) ∧ ∀ j : Nat, d' 401 j = if x ≤ j ∧ j < 800 then 0 else d 401 j := by
  intro k
  induction k with
  | zero =>
    intro q d x hq x0 hx
    obtain ⟨q, rfl⟩ : ∃ q0, q = q0 + 1 := ⟨q - 1, by omega⟩
    refine ⟨d, l_X12_begins_2 q, ?_, fun _ _ => rfl, fun j => by rw [if_neg (by omega)]⟩
    show l_X12_begins_2F _ x d = _
    rw [show x = 800 by omega]
  | succ k ih =>
    intro q d x hq x0 hx
    obtain ⟨q, rfl⟩ : ∃ q0, q = q0 + 1 := ⟨q - 1, by omega⟩
    obtain ⟨d2, r, a1, a2, a3⟩ := ih q (d := zu d 401 x.toNat 0) (x := x + 1) (by omega) (by omega) (by omega)
    refine ⟨d2, r, ?_, fun c hc => by rw [a2 c hc, zu_row hc], fun j => ?_⟩
    · rw [← a1]
      show l_X12_begins_2F _ x d = _
      unfold l_X12_begins_2F
      rw [if_neg (by omega), zg_t (by omega), zl_n, zl_n, zw_id (by omega) (by omega)]
    · rw [a3]
      by_cases h1 : x ≤ j ∧ j < 800
      · rw [if_pos h1]
        by_cases h2 : x + 1 ≤ j ∧ j < 800
        · rw [if_pos h2]
        · rw [if_neg h2, show j = x.toNat by omega, zu_eq]
      · rw [if_neg h1, if_neg (by omega), zu_ne (by omega)]
/-- what the row holds where nothing is told yet -/
def sIni (j : Nat) : Int := if j = 5 then 1 else if j = 6 then 5 else if j = 7 then 3 else if j = 8 then 2 else if j = 9 then 8 else if j = 10 then 1 else if j = 26 ∨ j = 27 ∨ j = 28 then -1 else 0
theorem k_begins {d : zD} : ∃ d', f_X12_begins d = some (0, d') ∧ (∀ c, c ≠ 401 → d' c = d c) ∧ ∀ j : Nat, j < 800 → d' 401 j = sIni j := by
  have hF := zF_big
  obtain ⟨d1, r, a1, a2, a3⟩ := L_beg0 800 zF (d := d) (x := 0) (by omega) (by omega) (by omega)
  refine ⟨zu (zu (zu (zu (zu (zu (zu (zu (zu d1 401 5 1) 401 6 5) 401 7 3) 401 8 2) 401 9 8) 401 10 1) 401 26 (-1)) 401 27 (-1)) 401 28 (-1), ?_, fun c hc => ?_, fun j hj => ?_⟩
  · unfold f_X12_begins
    rw [a1]
    unfold l_X12_begins_2F
    rw [if_pos (by omega), zg_t (by omega), zl_n, zg_t (by omega), zl_n, zg_t (by omega), zl_n, zg_t (by omega), zl_n, zg_t (by omega), zl_n, zg_t (by omega), zl_n, zg_t (by omega), zl_n, zg_t (by omega), zl_n, zg_t (by omega), zl_n]
    rfl
  · rw [zu_row hc, zu_row hc, zu_row hc, zu_row hc, zu_row hc, zu_row hc, zu_row hc, zu_row hc, zu_row hc, a2 c hc]
  · have hz : d1 401 j = 0 := by rw [a3, if_pos (by omega)]
    unfold sIni
    by_cases e5 : j = 5
    · subst e5; rfl
    · by_cases e6 : j = 6
      · subst e6; rfl
      · by_cases e7 : j = 7
        · subst e7; rfl
        · by_cases e8 : j = 8
          · subst e8; rfl
          · by_cases e9 : j = 9
            · subst e9; rfl
            · by_cases e10 : j = 10
              · subst e10; rfl
              · by_cases e26 : j = 26
                · subst e26; rfl
                · by_cases e27 : j = 27
                  · subst e27; rfl
                  · by_cases e28 : j = 28
                    · subst e28; rfl
                    · rw [if_neg e5, if_neg e6, if_neg e7, if_neg e8, if_neg e9, if_neg e10, if_neg (by omega), zu_ne (Or.inr e28), zu_ne (Or.inr e27), zu_ne (Or.inr e26), zu_ne (Or.inr e10), zu_ne (Or.inr e9), zu_ne (Or.inr e8), zu_ne (Or.inr e7), zu_ne (Or.inr e6), zu_ne (Or.inr e5), hz]
theorem SU_ini {dc ds : zD} (h : ∀ j : Nat, j < 800 → ds 401 j = sIni j) (h13 : dc 13 0 = 0) (h18 : ∀ j : Nat, j < 6 → dc 18 j = ztab 2 j) (h4 : dc 12 4 = 0) (h5 : dc 12 5 = 1) (h6 : dc 12 6 = 0) (h19 : ds 400 19 = 0) : SU dc ds := by
  have e0 : ds 401 0 = 0 := h 0 (by omega)
  have e1 : ds 401 1 = 0 := h 1 (by omega)
  have eT : ∀ x u : Int, rT (ds 401) x u = 0 := fun x u => by
    unfold rT
    by_cases hc : (0 ≤ x ∧ x < 8) ∧ 0 ≤ u ∧ u < 16
    · rw [if_pos hc, h _ (by omega)]
      unfold sIni
      rw [if_neg (by omega), if_neg (by omega), if_neg (by omega), if_neg (by omega), if_neg (by omega), if_neg (by omega), if_neg (by omega)]
    · rw [if_neg hc]
  refine ⟨⟨by rw [h13, e0], by rw [e0]; omega, fun x x0 x1 => by rw [e0] at x1; omega⟩, fun x x0 x1 => by rw [e0] at x1; omega, ⟨h 2 (by omega), h 3 (by omega), h 4 (by omega), fun k k0 k1 => ?_, h 26 (by omega), h 27 (by omega), h 28 (by omega), h 29 (by omega), h 46 (by omega), fun x u _ _ _ _ => eT x u⟩, ⟨by rw [e1]; omega, ?_, ?_, ?_, ?_, ?_, ?_, ?_, fun k k0 k1 => by rw [e1] at k1; omega, fun x x0 x1 => by rw [e0] at x1; omega⟩, by rw [h4, e1], ?_, fun j hj => ?_, fun k k0 k1 => by rw [e1] at k1; omega, by rw [h6, h19], by rw [h19]; omega, by rw [h19]; omega⟩
  · rw [h k (by omega)]
    unfold sIni
    rw [if_neg (by omega), if_neg (by omega), if_neg (by omega), if_neg (by omega), if_neg (by omega), if_neg (by omega), if_neg (by omega)]
  · rw [h 5 (by omega)]; decide
  · rw [h 6 (by omega)]; decide
  · rw [h 7 (by omega)]; decide
  · rw [h 8 (by omega)]; decide
  · rw [h 9 (by omega)]; decide
  · rw [h 10 (by omega)]; decide
  · rw [h 11 (by omega)]; decide
  · rw [h5, h 5 (by omega)]; rfl
  · rw [h18 j hj, h (6 + j) (by omega)]
    have hj6 : j = 0 ∨ j = 1 ∨ j = 2 ∨ j = 3 ∨ j = 4 ∨ j = 5 := by omega
    rcases hj6 with rfl | rfl | rfl | rfl | rfl | rfl <;> rfl
section K11
variable {B : Int → Int} {n : Int}
theorem S_setup : ∀ (k q q' : Nat) {dc ds : zD} {x : Int}, PG B n dc ds → SU dc ds → LI ds → x = ds 401 0 + pop4 (ds 400 19) → x + k = 12 → k < q → k + 1 < q' → (∃ dc1 ds1, l_X7_readText_46 q x dc = j_X7_readText_88 dc1 ∧ l_X12_loadLine_29 q' ds = j_X12_loadLine_50 ds1 ∧ PG B n dc1 ds1 ∧ SU dc1 ds1 ∧ FY dc dc1 ∧ FZ ds ds1) ∨ (∃ dc1 ds1, l_X7_readText_46 q x dc = some (0, dc1) ∧ l_X12_loadLine_29 q' ds = j_X12_loadLine_50 ds1 ∧ PB dc1 ds1 ∧ FY dc dc1 ∧ FZ ds ds1) := by
  have bound : ∀ {dc ds : zD}, SU dc ds → ds 401 0 + pop4 (ds 400 19) ≤ 12 ∧ 0 ≤ ds 401 0 + pop4 (ds 400 19) := fun {dc ds} hS => by
    have h1 := hS.1.2.1
    unfold pop4
    omega
  have main : ∀ (q q' : Nat) {dc ds : zD} {x : Int}, PG B n dc ds → SU dc ds → LI ds → x = ds 401 0 + pop4 (ds 400 19) → ((∃ dc1 ds1, l_X7_readText_46 (q + 1) x dc = j_X7_readText_88 dc1 ∧ l_X12_loadLine_29 (q' + 1 + 1) ds = j_X12_loadLine_50 ds1 ∧ PG B n dc1 ds1 ∧ SU dc1 ds1 ∧ FY dc dc1 ∧ FZ ds ds1) ∨ (∃ dc1 ds1, l_X7_readText_46 (q + 1) x dc = some (0, dc1) ∧ l_X12_loadLine_29 (q' + 1 + 1) ds = j_X12_loadLine_50 ds1 ∧ PB dc1 ds1 ∧ FY dc dc1 ∧ FZ ds ds1)) ∨ (∃ dc2 ds2, l_X7_readText_46 (q + 1) x dc = l_X7_readText_46 q (x + 1) dc2 ∧ l_X12_loadLine_29 (q' + 1 + 1) ds = l_X12_loadLine_29 (q' + 1) ds2 ∧ PG B n dc2 ds2 ∧ SU dc2 ds2 ∧ LI ds2 ∧ x + 1 = ds2 401 0 + pop4 (ds2 400 19) ∧ FY dc dc2 ∧ FZ ds ds2) := by
    intro q q' dc ds x h hS hL hx
    have hb := bound hS
    have g2 := h.2.2.1
    have eE := P_atEnd h
    by_cases h16 : ds 400 16 = 0
    · refine Or.inl (Or.inl ⟨dc, ds, ?_, ?_, h, hS, FT2.rf.y, FS2.rf.z⟩)
      · show l_X7_readText_46F _ x dc = _
        unfold l_X7_readText_46F
        rw [if_neg (by omega), eE, zc_n, if_pos h16, if_neg (show ¬ (1 : Int) = 0 by decide)]
      · show l_X12_loadLine_29F _ ds = _
        unfold l_X12_loadLine_29F
        rw [e_good g2, zc_n, if_neg (show ¬ (1 : Int) = 0 by decide), zl_n, if_pos h16]
    · have cl : l_X7_readText_46 (q + 1) x dc = zc (f_X7_readStatement dc) fun v64 d => if (v64 : Int) = 0 then (some ((0 : Int), d)) else (zc (f_X9_readSemicolon d) fun v74 d => if (v74 : Int) = 0 then (some ((0 : Int), d)) else (zl (zw (x + 1)) fun v82 => l_X7_readText_46 q v82 d)) := by
        show l_X7_readText_46F _ x dc = _
        unfold l_X7_readText_46F
        rw [if_neg (by omega), eE, zc_n, if_neg h16, if_pos (show (0 : Int) = 0 from rfl)]
      have re : l_X12_loadLine_29 (q' + 1 + 1) ds = zc (f_X12_readsSetupStatement ds) fun _ d => l_X12_loadLine_29 (q' + 1) d := by
        show l_X12_loadLine_29F _ ds = _
        unfold l_X12_loadLine_29F
        rw [e_good g2, zc_n, if_neg (show ¬ (1 : Int) = 0 by decide), zl_n, if_neg h16]
      rcases P_stm h hS hL with ⟨d1, d2, s2, a1, a2, a3, a4, a5, a6, a7, a8, a9⟩ | ⟨d1, d2, s2, a1, a2, a3, a4, a5⟩
      · refine Or.inr ⟨d2, s2, ?_, ?_, a4, a5, a7, by rw [a6, hx], a8, a9⟩
        · rw [cl, a1, zc_n, if_neg (show ¬ (1 : Int) = 0 by decide), a2, zc_n, if_neg (show ¬ (1 : Int) = 0 by decide), zl_n, zw_id (by omega) (by omega)]
        · rw [re, a3, zc_n]
      · refine Or.inl (Or.inr ⟨d2, s2, ?_, ?_, a3, a4, a5⟩)
        · rcases a1 with a1 | ⟨a1, a1'⟩
          · rw [cl, a1, zc_n, if_pos (show (0 : Int) = 0 from rfl)]
          · rw [cl, a1, zc_n, if_neg (show ¬ (1 : Int) = 0 by decide), a1', zc_n, if_pos (show (0 : Int) = 0 from rfl)]
        · rw [re, a2, zc_n]
          show l_X12_loadLine_29F _ s2 = _
          unfold l_X12_loadLine_29F
          rw [e_bad a3.2.2, zc_n, if_pos (show (0 : Int) = 0 from rfl)]
  intro k
  induction k with
  | zero =>
    intro q q' dc ds x h hS hL hx hk hq hq'
    obtain ⟨q, rfl⟩ : ∃ q0, q = q0 + 1 := ⟨q - 1, by omega⟩
    obtain ⟨q', rfl⟩ : ∃ q0, q' = q0 + 1 + 1 := ⟨q' - 2, by omega⟩
    rcases main q q' h hS hL hx with r | ⟨d2, s2, a1, a2, a3, a4, a5, a6, -⟩
    · exact r
    · have := bound a4
      omega
  | succ k ih =>
    intro q q' dc ds x h hS hL hx hk hq hq'
    obtain ⟨q, rfl⟩ : ∃ q0, q = q0 + 1 := ⟨q - 1, by omega⟩
    obtain ⟨q', rfl⟩ : ∃ q0, q' = q0 + 1 + 1 := ⟨q' - 2, by omega⟩
    rcases main q q' h hS hL hx with r | ⟨d2, s2, a1, a2, a3, a4, a5, a6, a7, a8⟩
    · exact r
    · rcases ih q (q' + 1) a3 a4 a5 a6 (by omega) (by omega) (by omega) with ⟨d3, s3, b1, b2, b3, b4, b5, b6⟩ | ⟨d3, s3, b1, b2, b3, b4, b5⟩
      · exact Or.inl ⟨d3, s3, by rw [a1, b1], by rw [a2, b2], b3, b4, a7.tr b5, a8.tr b6⟩
      · exact Or.inr ⟨d3, s3, by rw [a1, b1], by rw [a2, b2], b3, a7.tr b4, a8.tr b5⟩
end K11
theorem k_setup {d : zD} : ∃ d', f_X6_copyFrom 1 13 d = some (0, d') ∧ (∀ c, c = 0 ∨ 5 < c → d' c = d c) ∧ d' 1 0 = d 13 0 ∧ (∀ j, j < 8 → d' 2 j = d 14 j) ∧ (∀ j, j < 8 → d' 3 j = d 15 j) ∧ (∀ j, j < 8 → d' 4 j = d 16 j) ∧ (∀ j, j < 8 → d' 5 j = d 17 j) := by
  unfold f_X6_copyFrom
  simp (disch := omega) only [zl_n, zcg_t, zcp_row, zu_row, Int.reduceToNat, Nat.reduceAdd]
  exact ⟨_, rfl, fun c hc => by simp (disch := omega) only [zcp_row, zu_row], by simp (disch := omega) only [zcp_row, zu_q], fun j hj => by simp (disch := omega) only [zcp_row, zcp_0], fun j hj => by simp (disch := omega) only [zcp_row, zcp_0], fun j hj => by simp (disch := omega) only [zcp_row, zcp_0], fun j hj => by simp (disch := omega) only [zcp_row, zcp_0]⟩
