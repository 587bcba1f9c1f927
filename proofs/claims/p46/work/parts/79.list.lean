/-! The list of a setup. -/
theorem SU_add {dc ds : zD} {v x : Int} (hS : SU dc ds) (hx : ds 401 1 = x) (h16 : x < 16) (hv : 0 ≤ v ∧ v < ds 401 0) : SU (zu (zu dc 19 x.toNat v) 12 4 (x + 1)) (zu (zu ds 401 (30 + x).toNat v) 401 1 (x + 1)) := by
  obtain ⟨⟨n1, n2, n3⟩, s2, ⟨f2, f3, f4, f12, f26, f27, f28, f29, f46, fT⟩, ⟨v1, v5, v6, v7, v8, v9, v10, v11, v30, vT⟩, s5, s6, s7, s8, s9, s10, s11⟩ := hS
  have e401 : zu (zu ds 401 (30 + x).toNat v) 401 1 (x + 1) 401 = us (us (ds 401) (30 + x).toNat v) 1 (x + 1) := by rw [zu_r, zu_r]
  have eT : rT (us (us (ds 401) (30 + x).toNat v) 1 (x + 1)) = rT (ds 401) := by rw [rT_f (by omega), rT_f (by omega)]
  have eo : ∀ j, j ≠ 1 → j < 30 ∨ 46 ≤ j → us (us (ds 401) (30 + x).toNat v) 1 (x + 1) j = ds 401 j := fun j j1 hj => by rw [us_ne j1, us_ne (by omega)]
  have el : ∀ k : Int, 0 ≤ k → us (us (ds 401) (30 + x).toNat v) 1 (x + 1) (30 + k).toNat = if k = x then v else ds 401 (30 + k).toNat := fun k k0 => by
    rw [us_ne (by omega)]
    by_cases e : k = x
    · rw [if_pos e, e, us_eq]
    · rw [if_neg e, us_ne (by omega)]
  have d12 : ∀ j, j ≠ 4 → zu (zu dc 19 x.toNat v) 12 4 (x + 1) 12 j = dc 12 j := fun j hj => by rw [zu_ne (by omega), zu_row (by omega)]
  have dc' : ∀ c, c ≠ 12 → c ≠ 19 → zu (zu dc 19 x.toNat v) 12 4 (x + 1) c = dc c := fun c c1 c2 => by rw [zu_row c1, zu_row c2]
  unfold SU NS FRm SV
  rw [e401, eT, us_eq, eo 0 (by omega) (by omega), eo 2 (by omega) (by omega), eo 3 (by omega) (by omega), eo 4 (by omega) (by omega), eo 5 (by omega) (by omega), eo 6 (by omega) (by omega), eo 7 (by omega) (by omega), eo 8 (by omega) (by omega), eo 9 (by omega) (by omega), eo 10 (by omega) (by omega), eo 11 (by omega) (by omega), eo 26 (by omega) (by omega), eo 27 (by omega) (by omega), eo 28 (by omega) (by omega), eo 29 (by omega) (by omega), eo 46 (by omega) (by omega), dc' 13 (by omega) (by omega), dc' (13 + 1) (by omega) (by omega), dc' 15 (by omega) (by omega), dc' 16 (by omega) (by omega), dc' 17 (by omega) (by omega), dc' 18 (by omega) (by omega), d12 5 (by omega), d12 6 (by omega), zu_eq, zu_row (b := 400) (by omega), zu_row (b := 400) (by omega)]
  refine ⟨⟨n1, n2, n3⟩, s2, ⟨f2, f3, f4, fun k k0 k1 => by rw [eo k (by omega) (by omega)]; exact f12 k k0 k1, f26, f27, f28, f29, f46, fT⟩, ⟨by omega, v5, v6, v7, v8, v9, v10, v11, fun k k0 k1 => ?_, vT⟩, rfl, s6, fun j hj => by rw [eo _ (by omega) (by omega)]; exact s7 j hj, fun k k0 k1 => ?_, s9, s10, s11⟩
  · rw [el k k0]
    by_cases e : k = x
    · rw [if_pos e]; exact hv
    · rw [if_neg e]; exact v30 k k0 (by omega)
  · rw [el k k0, zu_row (by omega)]
    by_cases e : k = x
    · rw [if_pos e, e, zu_eq]
    · rw [if_neg e, zu_ne (by omega)]; exact s8 k k0 (by omega)
section K9
variable {B : Int → Int} {n : Int}
/-- nothing stands on the list before it is told -/
def LI (ds : zD) : Prop := ds 400 19 % 2 = 0 → ds 401 1 = 0
def OUT (B : Int → Int) (n : Int) (f g : Option (Int × zD)) (dc ds : zD) : Prop := (∃ dc1 ds1, f = some (1, dc1) ∧ g = some (0, ds1) ∧ PG B n dc1 ds1 ∧ SU dc1 ds1 ∧ (ds1 401 0 + pop4 (ds1 400 19) = ds 401 0 + pop4 (ds 400 19) + 1) ∧ LI ds1 ∧ FY dc dc1 ∧ FZ ds ds1) ∨ (∃ dc1 dc2 ds1, (f = some (0, dc2) ∨ f = some (1, dc1) ∧ f_X9_readSemicolon dc1 = some (0, dc2)) ∧ g = some (0, ds1) ∧ PB dc2 ds1 ∧ FY dc dc2 ∧ FZ ds ds1)
theorem B_l10 {q : Nat} {d : zD} : l_X12_readsList_10 (q + 1) 0 d = some (0, d) := by
  show l_X12_readsList_10F _ 0 d = _
  unfold l_X12_readsList_10F
  rw [if_pos rfl]
theorem B_l35 {q : Nat} {x : Int} {d : zD} (h : BD d) : j_X12_readsList_35 (l_X12_readsList_10 (q + 1)) x d = some (0, d) := by
  unfold j_X12_readsList_35 j_X12_readsList_71
  rw [e_bad h, zc_n, if_pos (show (0 : Int) = 0 from rfl), B_on h, zc_n, e_bad h, zc_n, if_pos (show (0 : Int) = 0 from rfl), B_l10]
theorem P_list : ∀ (k q q' : Nat) {dc ds : zD} {x : Int}, PG B n dc ds → SU dc ds → ds 401 1 = x → x + k = 16 → k + 1 < q → k + 2 < q' → (0 < x → ds 400 16 = 1) → (∃ dc1 ds1, l_X7_readList_2 q x dc = some (1, dc1) ∧ l_X12_readsList_10 q' 1 ds = some (0, ds1) ∧ PG B n dc1 ds1 ∧ SU dc1 ds1 ∧ (ds1 401 0 = ds 401 0 ∧ ds1 400 19 = ds 400 19) ∧ FY dc dc1 ∧ FZ ds ds1) ∨ (∃ dc1 dc2 ds1, (l_X7_readList_2 q x dc = some (0, dc2) ∨ l_X7_readList_2 q x dc = some (1, dc1) ∧ f_X9_readSemicolon dc1 = some (0, dc2)) ∧ l_X12_readsList_10 q' 1 ds = some (0, ds1) ∧ PB dc2 ds1 ∧ FY dc dc2 ∧ FZ ds ds1) := by
  intro k
  induction k with
  | zero =>
    intro q q' dc ds x h hS hx hk hq hq' hw
    obtain ⟨q, rfl⟩ : ∃ q0, q = q0 + 1 := ⟨q - 1, by omega⟩
    obtain ⟨q', rfl⟩ : ∃ q0, q' = q0 + 1 + 1 := ⟨q' - 2, by omega⟩
    obtain ⟨⟨n1, n2, n3⟩, -, -, -, s5, -⟩ := id hS
    have g2 := h.2.2.1
    have x16 : x = 16 := by omega
    have re : l_X12_readsList_10 (q' + 1 + 1) 1 ds = zc (f_X12_terminalHere ds) fun v15 d => zg 800 1 <| zl (d 401 (1 : Int).toNat) fun v24 => if (v24 : Int) = 16 then (zc (f_X12_errs 5 d) fun _ d => j_X12_readsList_35 (l_X12_readsList_10 (q' + 1)) v15 d) else (j_X12_readsList_35 (l_X12_readsList_10 (q' + 1)) v15 d) := by
      show l_X12_readsList_10F _ 1 ds = _
      unfold l_X12_readsList_10F
      rw [if_neg (by decide)]
    -- an error of the reference, whatever the row
    have rB : ∀ {v : Int} {s1 : zD}, f_X12_terminalHere ds = some (v, s1) → BD s1 → l_X12_readsList_10 (q' + 1 + 1) 1 ds = some (0, s1) := fun {v s1} e hb => by
      rw [re, e, zc_n, zg_t (by omega), zl_n, B_errs hb, zc_n, B_l35 hb]
      split <;> rfl
    rcases P_name h with ⟨m1, m2⟩ | ⟨a, m1, m2, m3⟩
    · obtain ⟨d1, s1, a1, a2, a3, a4, a5⟩ := P_fail (e := 1) h (by decide)
      have et : f_X12_terminalHere ds = some (0, s1) := by
        unfold f_X12_terminalHere
        rw [m2, zc_n, if_pos (show (0 : Int) = 0 from rfl), a2, zc_n, B_th12 a3.2.2]
      refine Or.inr ⟨dc, d1, s1, Or.inr ⟨?_, ?_⟩, rB et a3.2.2, a3, a4.y, a5.z⟩
      · show l_X7_readList_2F _ x dc = _
        unfold l_X7_readList_2F
        rw [if_neg (by omega), m1, zc_n, if_pos (show (-1 : Int) = -1 from rfl), zl_n, s5, if_pos (by omega)]
      · have hk16 := hw (by omega)
        obtain ⟨⟨-, t, p, -, kk, -⟩, -⟩ := h
        unfold f_X9_readSemicolon
        rw [zl_n, if_neg, a1, zc_n]
        intro e2
        rcases kk with ⟨y1, -⟩ | ⟨y1, -⟩ | ⟨y1, y2, -⟩ | ⟨y1, -⟩ | ⟨y1, -⟩
        · rw [y1] at e2; exact absurd e2 (by decide)
        · rw [y1] at e2; exact absurd e2 (by decide)
        · rw [y2] at hk16; exact absurd hk16 (by decide)
        · rw [y1] at e2; exact absurd e2 (by decide)
        · rw [y1] at e2; exact absurd e2 (by decide)
    · obtain ⟨v, hv2, f1, f2⟩ := P_find (s := 13) n1 n2 n3 m3
      have ap := nmr_pos m3
      have et : f_X12_terminalHere ds = j_X12_terminalHere_27 v ds := by
        unfold f_X12_terminalHere j_X12_terminalHere_12
        rw [m2, zc_n, if_neg (show ¬ (1 : Int) = 0 by decide), e_good g2, zc_n, if_neg (show ¬ (1 : Int) = 0 by decide), f2, zc_n]
      by_cases hv : v = -1
      · obtain ⟨d1, s1, a1, a2, a3, a4, a5⟩ := P_fail (e := 3) h (by decide)
        have et2 : f_X12_terminalHere ds = some (0, s1) := by
          rw [et]
          unfold j_X12_terminalHere_27 j_X12_terminalHere_38
          rw [if_pos hv, a2, zc_n, e_bad a3.2.2, zc_n, if_pos (show (0 : Int) = 0 from rfl)]
        refine Or.inr ⟨dc, d1, s1, Or.inl ?_, rB et2 a3.2.2, a3, a4.y, a5.z⟩
        show l_X7_readList_2F _ x dc = _
        unfold l_X7_readList_2F
        rw [if_neg (by omega), m1, zc_n, if_neg (by omega), f1, zc_n, if_pos hv, a1, zc_n]
      · obtain ⟨d1, s1, a1, a2, a3, a4, a5⟩ := P_fail (e := 5) h (by decide)
        have et2 : f_X12_terminalHere ds = some (v, ds) := by
          rw [et]
          unfold j_X12_terminalHere_27 j_X12_terminalHere_38
          rw [if_neg hv, e_good g2, zc_n, if_neg (show ¬ (1 : Int) = 0 by decide)]
        refine Or.inr ⟨dc, d1, s1, Or.inl ?_, ?_, a3, a4.y, a5.z⟩
        · show l_X7_readList_2F _ x dc = _
          unfold l_X7_readList_2F
          rw [if_neg (by omega), m1, zc_n, if_neg (by omega), f1, zc_n, if_neg hv, zl_n, s5, if_neg (by omega), a1, zc_n]
        · rw [re, et2, zc_n, zg_t (by omega), zl_n, show (1 : Int).toNat = 1 from rfl, if_pos (by omega), a2, zc_n, B_l35 a3.2.2]
  | succ k ih =>
    intro q q' dc ds x h hS hx hk hq hq' hw
    obtain ⟨q, rfl⟩ : ∃ q0, q = q0 + 1 := ⟨q - 1, by omega⟩
    obtain ⟨q', rfl⟩ : ∃ q0, q' = q0 + 1 + 1 := ⟨q' - 2, by omega⟩
    obtain ⟨⟨n1, n2, n3⟩, -, -, ⟨v1, -⟩, s5, -⟩ := id hS
    have g2 := h.2.2.1
    have x16 : 0 ≤ x ∧ x < 16 := by omega
    have re : l_X12_readsList_10 (q' + 1 + 1) 1 ds = zc (f_X12_terminalHere ds) fun v15 d => zg 800 1 <| zl (d 401 (1 : Int).toNat) fun v24 => if (v24 : Int) = 16 then (zc (f_X12_errs 5 d) fun _ d => j_X12_readsList_35 (l_X12_readsList_10 (q' + 1)) v15 d) else (j_X12_readsList_35 (l_X12_readsList_10 (q' + 1)) v15 d) := by
      show l_X12_readsList_10F _ 1 ds = _
      unfold l_X12_readsList_10F
      rw [if_neg (by decide)]
    have rB : ∀ {v : Int} {s1 : zD}, f_X12_terminalHere ds = some (v, s1) → BD s1 → l_X12_readsList_10 (q' + 1 + 1) 1 ds = some (0, s1) := fun {v s1} e hb => by
      rw [re, e, zc_n, zg_t (by omega), zl_n, B_errs hb, zc_n, B_l35 hb]
      split <;> rfl
    rcases P_name h with ⟨m1, m2⟩ | ⟨a, m1, m2, m3⟩
    · obtain ⟨d1, s1, a1, a2, a3, a4, a5⟩ := P_fail (e := 1) h (by decide)
      have et : f_X12_terminalHere ds = some (0, s1) := by
        unfold f_X12_terminalHere
        rw [m2, zc_n, if_pos (show (0 : Int) = 0 from rfl), a2, zc_n, B_th12 a3.2.2]
      by_cases hx0 : 0 < x
      · refine Or.inr ⟨dc, d1, s1, Or.inr ⟨?_, ?_⟩, rB et a3.2.2, a3, a4.y, a5.z⟩
        · show l_X7_readList_2F _ x dc = _
          unfold l_X7_readList_2F
          rw [if_neg (by omega), m1, zc_n, if_pos (show (-1 : Int) = -1 from rfl), zl_n, s5, if_pos (by omega)]
        · have hk16 := hw (by omega)
          obtain ⟨⟨-, t, p, -, kk, -⟩, -⟩ := h
          unfold f_X9_readSemicolon
          rw [zl_n, if_neg, a1, zc_n]
          intro e2
          rcases kk with ⟨y1, -⟩ | ⟨y1, -⟩ | ⟨y1, y2, -⟩ | ⟨y1, -⟩ | ⟨y1, -⟩
          · rw [y1] at e2; exact absurd e2 (by decide)
          · rw [y1] at e2; exact absurd e2 (by decide)
          · rw [y2] at hk16; exact absurd hk16 (by decide)
          · rw [y1] at e2; exact absurd e2 (by decide)
          · rw [y1] at e2; exact absurd e2 (by decide)
      · refine Or.inr ⟨dc, d1, s1, Or.inl ?_, rB et a3.2.2, a3, a4.y, a5.z⟩
        show l_X7_readList_2F _ x dc = _
        unfold l_X7_readList_2F
        rw [if_neg (by omega), m1, zc_n, if_pos (show (-1 : Int) = -1 from rfl), zl_n, s5, if_neg (by omega), a1, zc_n, if_pos (show (0 : Int) = 0 from rfl)]
    · obtain ⟨v, hv2, f1, f2⟩ := P_find (s := 13) n1 n2 n3 m3
      have ap := nmr_pos m3
      have et : f_X12_terminalHere ds = j_X12_terminalHere_27 v ds := by
        unfold f_X12_terminalHere j_X12_terminalHere_12
        rw [m2, zc_n, if_neg (show ¬ (1 : Int) = 0 by decide), e_good g2, zc_n, if_neg (show ¬ (1 : Int) = 0 by decide), f2, zc_n]
      by_cases hv : v = -1
      · obtain ⟨d1, s1, a1, a2, a3, a4, a5⟩ := P_fail (e := 3) h (by decide)
        have et2 : f_X12_terminalHere ds = some (0, s1) := by
          rw [et]
          unfold j_X12_terminalHere_27 j_X12_terminalHere_38
          rw [if_pos hv, a2, zc_n, e_bad a3.2.2, zc_n, if_pos (show (0 : Int) = 0 from rfl)]
        refine Or.inr ⟨dc, d1, s1, Or.inl ?_, rB et2 a3.2.2, a3, a4.y, a5.z⟩
        show l_X7_readList_2F _ x dc = _
        unfold l_X7_readList_2F
        rw [if_neg (by omega), m1, zc_n, if_neg (by omega), f1, zc_n, if_pos hv, a1, zc_n]
      · have et2 : f_X12_terminalHere ds = some (v, ds) := by
          rw [et]
          unfold j_X12_terminalHere_27 j_X12_terminalHere_38
          rw [if_neg hv, e_good g2, zc_n, if_neg (show ¬ (1 : Int) = 0 by decide)]
        have hSA := SU_add hS hx x16.2 (v := v) (by omega)
        have hPA : PG B n (zu (zu dc 19 x.toNat v) 12 4 (x + 1)) (zu (zu ds 401 (30 + x).toNat v) 401 1 (x + 1)) := PG_x h (by rw [zu_row (by omega), zu_row (by omega)]) (by rw [zu_row (by omega), zu_row (by omega)]) (by rw [zu_row (by omega), zu_row (by omega)]) fun j _ _ => by rw [zu_row (by omega), zu_row (by omega)]
        obtain ⟨d1, s1, a1, a2, a3, a4, a5⟩ := P_adv hPA
        have hS1 := SU_t hSA a4 a5
        have fy : FY dc d1 := ((FY.u (by omega)).tr (FY.u (by omega))).tr a4.y
        have fz : FZ ds s1 := (FZ.u1.tr FZ.u1).tr a5.z
        have hx1 : s1 401 1 = x + 1 := by rw [a5.1 401 (by omega), zu_eq]
        have h00 : s1 401 0 = ds 401 0 ∧ s1 400 19 = ds 400 19 := ⟨by rw [a5.1 401 (by omega), zu_ne (by omega), zu_ne (by omega)], by rw [a5.2 19 (by omega), zu_ne (by omega), zu_ne (by omega)]⟩
        have g2' := a3.2.2.1
        have cl : l_X7_readList_2 (q + 1) x dc = l_X7_readList_2 q (x + 1) d1 := by
          show l_X7_readList_2F _ x dc = _
          unfold l_X7_readList_2F
          rw [if_neg (by omega), m1, zc_n, if_neg (by omega), f1, zc_n, if_neg hv, zl_n, s5, hx, if_pos x16.2, zl_n, zg_t (by omega), zl_n, zl_n, zu_ne (by omega), s5, hx, zl_n, zw_id (x := x + 1) (by omega) (by omega), zl_n, a1, zc_n, zl_n]
        have re2 : l_X12_readsList_10 (q' + 1 + 1) 1 ds = if s1 400 16 = 1 then l_X12_readsList_10 (q' + 1) 1 s1 else some (0, s1) := by
          rw [re, et2, zc_n, zg_t (by omega), zl_n, show (1 : Int).toNat = 1 from rfl, hx, if_neg (by omega)]
          unfold j_X12_readsList_35 j_X12_readsList_71
          rw [e_good g2, zc_n, if_neg (show ¬ (1 : Int) = 0 by decide), zg_t (by omega), zl_n, show (1 : Int).toNat = 1 from rfl, hx, zl_n, zw_id (x := 30 + x) (by omega) (by omega), zg_t (by omega), zl_n, zg_t (by omega), zl_n, zu_ne (by omega), hx, zl_n, zw_id (x := x + 1) (by omega) (by omega), zg_t (by omega), zl_n, a2, zc_n, e_good g2', zc_n, if_neg (show ¬ (1 : Int) = 0 by decide), zl_n, B_l10]
        rw [cl, re2]
        by_cases hw1 : s1 400 16 = 1
        · rw [if_pos hw1]
          rcases ih q (q' + 1) a3 hS1 hx1 (by omega) (by omega) (by omega) (fun _ => hw1) with ⟨d2, s2, b1, b2, b3, b4, ⟨b0, b9⟩, b5, b6⟩ | ⟨d2, d3, s2, b1, b2, b3, b4, b5⟩
          · exact Or.inl ⟨d2, s2, b1, b2, b3, b4, ⟨by rw [b0, h00.1], by rw [b9, h00.2]⟩, fy.tr b5, fz.tr b6⟩
          · exact Or.inr ⟨d2, d3, s2, b1, b2, b3, fy.tr b4, fz.tr b5⟩
        · rw [if_neg hw1]
          refine Or.inl ⟨d1, s1, ?_, rfl, a3, hS1, h00, fy, fz⟩
          obtain ⟨q, rfl⟩ : ∃ q0, q = q0 + 1 := ⟨q - 1, by omega⟩
          have e12 : d1 12 4 = x + 1 := by rw [hS1.2.2.2.2.1]; exact hx1
          have e10 : d1 10 2 ≠ 0 := by
            intro e2
            obtain ⟨⟨-, t, p, -, kk, -⟩, -⟩ := a3
            rcases kk with ⟨y1, y2, -⟩ | ⟨y1, -⟩ | ⟨y1, -⟩ | ⟨y1, -⟩ | ⟨y1, -⟩
            · exact hw1 y2
            · rw [y1] at e2; exact absurd e2 (by decide)
            · rw [y1] at e2; exact absurd e2 (by decide)
            · rw [y1] at e2; exact absurd e2 (by decide)
            · rw [y1] at e2; exact absurd e2 (by decide)
          have en : f_X9_nameHere d1 = some (-1, d1) := by
            unfold f_X9_nameHere
            rw [zl_n, if_neg e10]
          show l_X7_readList_2F _ (x + 1) d1 = _
          unfold l_X7_readList_2F
          rw [if_neg (by omega), en, zc_n, if_pos (show (-1 : Int) = -1 from rfl), zl_n, e12, if_pos (by omega)]
end K9
