/-! The beginning of a text. -/
theorem e01 {a b : Int} {d d' : zD} (h : some (a, d) = some (b, d')) : a = b := congrArg Prod.fst (Option.some.inj h)
theorem TI_of {dc ds : zD} (h : IR dc ds) : TI (fun p => if 0 ≤ p ∧ p < ds 400 11 then zand (ds 405 p.toNat) 255 else -1) (ds 400 11) dc ds := by
  obtain ⟨h1, h2, h3⟩ := h
  refine ⟨h2, h1, rfl, fun p p0 p1 => ?_, fun p hp => ?_⟩
  · have := h3 p p0 p1
    show dc 11 p.toNat = (if 0 ≤ p ∧ p < ds 400 11 then zand (ds 405 p.toNat) 255 else -1) ∧ zand (ds 405 p.toNat) 255 = (if 0 ≤ p ∧ p < ds 400 11 then zand (ds 405 p.toNat) 255 else -1) ∧ 0 ≤ (if 0 ≤ p ∧ p < ds 400 11 then zand (ds 405 p.toNat) 255 else -1) ∧ (if 0 ≤ p ∧ p < ds 400 11 then zand (ds 405 p.toNat) 255 else -1) ≤ 255
    rw [if_pos ⟨p0, p1⟩]
    refine ⟨this.1, rfl, ?_, ?_⟩
    · rw [← this.1]; exact this.2.1
    · rw [← this.1]; exact this.2.2
  · show (if 0 ≤ p ∧ p < ds 400 11 then zand (ds 405 p.toNat) 255 else -1) = _
    rw [if_neg (by omega)]
theorem P_start {dc ds : zD} (h : IR dc ds) : ∃ B n dc1 ds1, f_X9_begin dc = some (0, dc1) ∧ f_X12_startsText ds = some (0, ds1) ∧ PG B n dc1 ds1 ∧ FT2 dc dc1 ∧ ((∀ c, c ≠ 400 → ds1 c = ds c) ∧ (∀ j, j ≠ 0 → j < 12 ∨ 18 < j → ds1 400 j = ds 400 j)) ∧ ds1 400 0 = 0 := by
  obtain ⟨B, h0⟩ : ∃ B, TI B (ds 400 11) dc ds := ⟨_, TI_of h⟩
  obtain ⟨c1, c2, c3, c4, c5⟩ := id h0
  have h1 : TI B (ds 400 11) (zu (zu (zu dc 10 5 0) 10 6 (-1)) 10 4 0) (zu (zu (zu (zu ds 400 0 0) 400 12 0) 400 13 (-1)) 400 15 0) := by
    refine ⟨c1, by rw [zu_ne (by omega), zu_ne (by omega), zu_ne (by omega)]; exact c2, by rw [zu_ne (by omega), zu_ne (by omega), zu_ne (by omega), zu_ne (by omega)], fun p p0 p1 => ?_, c5⟩
    rw [zu_ne (by omega), zu_ne (by omega), zu_ne (by omega), zu_ne (by omega), zu_ne (by omega), zu_ne (by omega), zu_ne (by omega)]
    exact c4 p p0 p1
  obtain ⟨dc1, ds1, a1, a2, a3, a4, a5⟩ := T_adv h1 zu_eq zu_eq (by omega)
  refine ⟨_, _, dc1, ds1, ?_, ?_, ⟨a3, ⟨?_, ?_⟩, ?_, ?_⟩, ((FT2.u (by omega)).tr ((FT2.u (by omega)).tr (FT2.u (by omega)))).tr a4.two, ⟨fun c hc => ?_, fun j j0 hj => ?_⟩, ?_⟩
  · unfold f_X9_begin
    rw [zl_n, zl_n, zl_n, a1, zc_n]
  · unfold f_X12_startsText
    rw [zl_n, zl_n, zl_n, zl_n, a2, zc_n]
  · rw [a4.2 5 (by omega) (by omega) (by omega), zu_ne (by omega), zu_ne (by omega), zu_eq]
  · rw [a4.2 6 (by omega) (by omega) (by omega), zu_ne (by omega), zu_eq]
  · rw [a5.2 12 (by omega), zu_ne (by omega), zu_ne (by omega), zu_eq]
  · rw [a5.2 13 (by omega), zu_ne (by omega), zu_eq]
  · rw [a5.1 c hc, zu_row hc, zu_row hc, zu_row hc, zu_row hc]
  · rw [a5.2 j (by omega), zu_ne (by omega), zu_ne (by omega), zu_ne (by omega), zu_ne (by omega)]
  · rw [a5.2 0 (by omega), zu_ne (by omega), zu_ne (by omega), zu_ne (by omega), zu_eq]
theorem B_word {d : zD} {t : Nat} (h : BD d) : f_X12_isWord t d = some (0, d) := by
  unfold f_X12_isWord
  rw [e_bad h, zc_n, if_pos (show (0 : Int) = 0 from rfl)]
theorem B_name {d : zD} (h : BD d) : ∃ v, f_X12_isName d = some (v, d) := by
  unfold f_X12_isName
  rw [zl_n]
  by_cases h1 : d 400 16 = 1
  · rw [if_pos h1, zl_n, zl_n, zl_n, B_word h, zc_n]
    by_cases h2 : 6 < zw (d 400 15 - d 400 14)
    · rw [if_pos h2]; exact ⟨_, rfl⟩
    · rw [if_neg h2, if_pos (show (0 : Int) = 0 from rfl)]; exact ⟨_, rfl⟩
  · rw [if_neg h1]; exact ⟨_, rfl⟩
theorem B_th12 {d : zD} (h : BD d) : j_X12_terminalHere_12 d = some (0, d) := by
  unfold j_X12_terminalHere_12 j_X12_terminalHere_27 j_X12_terminalHere_38
  rw [e_bad h, zc_n, if_pos (show (0 : Int) = 0 from rfl), if_neg (by decide), e_bad h, zc_n, if_pos (show (0 : Int) = 0 from rfl)]
theorem B_th {d : zD} (h : BD d) : f_X12_terminalHere d = some (0, d) := by
  obtain ⟨v, hv⟩ := B_name h
  unfold f_X12_terminalHere
  rw [hv, zc_n, B_errs h, zc_n, B_th12 h]
  split <;> rfl
def NS (s : Nat) (dc ds : zD) : Prop := dc s 0 = ds 401 0 ∧ (0 ≤ ds 401 0 ∧ ds 401 0 ≤ 8) ∧ ∀ x, 0 ≤ x → x < ds 401 0 → nmr (dc (s + 1) x.toNat) (rT (ds 401) x 15)
section K4
variable {B : Int → Int} {n : Int}
theorem PG_x {dc ds dc' ds' : zD} (h : PG B n dc ds) (e : dc' 10 = dc 10) (e1 : dc' 11 = dc 11) (o : ds' 405 = ds 405) (o1 : ∀ j, 11 ≤ j → j ≤ 18 → ds' 400 j = ds 400 j) : PG B n dc' ds' := by
  obtain ⟨⟨⟨h1, n1, n2, h4, h5⟩, t, p, ⟨k1, k2, k3, k4⟩, kk, p0, p1, p2⟩, g1, g2, g3⟩ := h
  refine ⟨⟨⟨h1, by rw [e]; exact n1, by rw [o1 11 (by omega) (by omega)]; exact n2, fun q q0 q1 => by rw [e1, o]; exact h4 q q0 q1, h5⟩, t, p, ⟨by rw [e]; exact k1, by rw [o1 14 (by omega) (by omega)]; exact k2, by rw [e]; exact k3, by rw [o1 15 (by omega) (by omega)]; exact k4⟩, ?_, p0, p1, p2⟩, by rw [e]; exact g1, by rw [o1 12 (by omega) (by omega)]; exact g2, by rw [o1 13 (by omega) (by omega)]; exact g3⟩
  unfold TKk
  rw [e, o1 16 (by omega) (by omega), o1 17 (by omega) (by omega), o1 18 (by omega) (by omega)]
  exact kk
theorem PG_c {dc ds dc' : zD} (h : PG B n dc ds) (e : dc' 10 = dc 10) (e1 : dc' 11 = dc 11) : PG B n dc' ds := PG_x h e e1 rfl fun _ _ _ => rfl
theorem NS_f {s : Nat} {dc ds dc' ds' : zD} (h : NS s dc ds) (e : dc' s = dc s) (e1 : dc' (s + 1) = dc (s + 1)) (o : ds' 401 = ds 401) : NS s dc' ds' := by
  unfold NS
  rw [e, e1, o]
  exact h
end K4
theorem GR_text {dc ds dc' ds' : zD} (h : GR dc ds) (e1 : ∀ c, c ≠ 10 → c < 12 ∨ 24 < c → dc' c = dc c) (n1 : dc' 10 1 = 0) (o0 : ds' 401 = ds 401) (o1 : ∀ c, c = 403 ∨ c = 404 ∨ c = 408 → ds' c = ds c) (o2 : ∀ j, j = 5 ∨ j = 6 ∨ j = 24 → ds' 400 j = ds 400 j) (n2 : ds' 400 11 = 0) (he : ER dc' ds') : GR dc' ds' := by
  obtain ⟨h1, h2, ⟨a1, a2, a3, a4⟩, ⟨b1, b2, b3⟩, -, -, ⟨g1, g2, g3⟩⟩ := h
  have ep : ∀ i, pst ds' i = pst ds i := fun i => by
    unfold pst
    rw [o1 404 (by omega)]
  unfold GR HR SR OR
  rw [o0, o1 403 (by omega), o1 408 (by omega), e1 8 (by omega) (by omega), e1 0 (by omega) (by omega), e1 25 (by omega) (by omega), o2 5 (by omega), o2 6 (by omega), o2 24 (by omega)]
  exact ⟨LR_d h1 fun c hc => e1 c (by omega) (by omega), h2, ⟨a1, a2, a3, fun i hi => by rw [ep]; exact ⟨LR_d (a4 i hi).1 fun c hc => e1 c (by omega) (by omega), (a4 i hi).2⟩⟩, ⟨b1, b2, fun q => ⟨LR_d (b3 q).1 fun c hc => e1 c (by omega) (by omega), (b3 q).2⟩⟩, ⟨by rw [n1, n2], by rw [n2]; omega, fun j j0 j1 => by rw [n2] at j1; omega⟩, he, ⟨g1, g2, g3⟩⟩
