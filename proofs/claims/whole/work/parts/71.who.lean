/-! The beginning of a text; who is named there. -/
theorem e01 {a b : Int} {d d' : zD} (h : some (a, d) = some (b, d')) : a = b := congrArg Prod.fst (Option.some.inj h)
theorem TI_of {dc ds : zD} (h : IR dc ds) : TI (fun p => if 0 ≤ p ∧ p < ds 400 11 then zand (ds 405 p.toNat) 255 else -1) (ds 400 11) dc ds := by
  obtain ⟨h1, h2, h3⟩ := h
  refine ⟨h2, h1, rfl, fun p p0 p1 => ?_, fun p hp => ?_⟩
  · have := h3 p p0 p1
    show dc 11 p.toNat = (if 0 ≤ p ∧ p < ds 400 11 then zand (ds 405 p.toNat) 255 else -1) ∧ zand (ds 405 p.toNat) 255 = (if 0 ≤ p ∧ p < ds 400 11 then zand (ds 405 p.toNat) 255 else -1) ∧ 0 ≤ (if 0 ≤ p ∧ p < ds 400 11 then zand (ds 405 p.toNat) 255 else -1) ∧ (if 0 ≤ p ∧ p < ds 400 11 then zand (ds 405 p.toNat) 255 else -1) ≤ 255
    rw [if_pos ⟨p0, p1⟩]
    refine ⟨this.1, rfl, ?_, ?_⟩
    · rw [← this.1]; exact this.2.1
    · rw [← this.1]; exact this.2.2
  · show (if 0 ≤ p ∧ p < ds 400 11 then zand (ds 405 p.toNat) 255 else -1) = _
    rw [if_neg (by omega)]
/-- where a text begins; the reference is told nothing -/
theorem P_start {dc ds : zD} (h : IR dc ds) : ∃ B n dc1 ds1, f_X9_begin dc = some (0, dc1) ∧ f_X12_startsText ds = some (0, ds1) ∧ PG B n dc1 ds1 ∧ FT2 dc dc1 ∧ ((∀ c, c ≠ 400 → ds1 c = ds c) ∧ (∀ j, j ≠ 0 → j < 12 ∨ 18 < j → ds1 400 j = ds 400 j)) ∧ ds1 400 0 = 0 := by
  obtain ⟨B, h0⟩ : ∃ B, TI B (ds 400 11) dc ds := ⟨_, TI_of h⟩
  obtain ⟨c1, c2, c3, c4, c5⟩ := id h0
  have h1 : TI B (ds 400 11) (zu (zu (zu dc 10 5 0) 10 6 (-1)) 10 4 0) (zu (zu (zu (zu ds 400 0 0) 400 12 0) 400 13 (-1)) 400 15 0) := by
    refine ⟨c1, by rw [zu_ne (by omega), zu_ne (by omega), zu_ne (by omega)]; exact c2, by rw [zu_ne (by omega), zu_ne (by omega), zu_ne (by omega), zu_ne (by omega)], fun p p0 p1 => ?_, c5⟩
    rw [zu_ne (by omega), zu_ne (by omega), zu_ne (by omega), zu_ne (by omega), zu_ne (by omega), zu_ne (by omega), zu_ne (by omega)]
    exact c4 p p0 p1
  obtain ⟨dc1, ds1, a1, a2, a3, a4, a5⟩ := T_adv h1 zu_eq zu_eq (by omega)
  refine ⟨_, _, dc1, ds1, ?_, ?_, ⟨a3, ⟨?_, ?_⟩, ?_, ?_⟩, ((FT2.u (by omega)).tr ((FT2.u (by omega)).tr (FT2.u (by omega)))).tr a4.two, ⟨fun c hc => ?_, fun j j0 hj => ?_⟩, ?_⟩
  · unfold f_X9_begin
    rw [zl_n, zl_n, zl_n, a1, zc_n]
  · unfold f_X12_startsText
    rw [zl_n, zl_n, zl_n, zl_n, a2, zc_n]
  · rw [a4.2 5 (by omega) (by omega) (by omega), zu_ne (by omega), zu_ne (by omega), zu_eq]
  · rw [a4.2 6 (by omega) (by omega) (by omega), zu_ne (by omega), zu_eq]
  · rw [a5.2 12 (by omega), zu_ne (by omega), zu_ne (by omega), zu_eq]
  · rw [a5.2 13 (by omega), zu_ne (by omega), zu_eq]
  · rw [a5.1 c hc, zu_row hc, zu_row hc, zu_row hc, zu_row hc]
  · rw [a5.2 j (by omega), zu_ne (by omega), zu_ne (by omega), zu_ne (by omega), zu_ne (by omega)]
  · rw [a5.2 0 (by omega), zu_ne (by omega), zu_ne (by omega), zu_ne (by omega), zu_eq]
theorem B_word {d : zD} {t : Nat} (h : BD d) : f_X12_isWord t d = some (0, d) := by
  unfold f_X12_isWord
  rw [e_bad h, zc_n, if_pos (show (0 : Int) = 0 from rfl)]
theorem B_name {d : zD} (h : BD d) : ∃ v, f_X12_isName d = some (v, d) := by
  unfold f_X12_isName
  rw [zl_n]
  by_cases h1 : d 400 16 = 1
  · rw [if_pos h1, zl_n, zl_n, zl_n, B_word h, zc_n]
    by_cases h2 : 6 < zw (d 400 15 - d 400 14)
    · rw [if_pos h2]; exact ⟨_, rfl⟩
    · rw [if_neg h2, if_pos (show (0 : Int) = 0 from rfl)]; exact ⟨_, rfl⟩
  · rw [if_neg h1]; exact ⟨_, rfl⟩
theorem B_th12 {d : zD} (h : BD d) : j_X12_terminalHere_12 d = some (0, d) := by
  unfold j_X12_terminalHere_12 j_X12_terminalHere_27 j_X12_terminalHere_38
  rw [e_bad h, zc_n, if_pos (show (0 : Int) = 0 from rfl), if_neg (by decide), e_bad h, zc_n, if_pos (show (0 : Int) = 0 from rfl)]
theorem B_th {d : zD} (h : BD d) : f_X12_terminalHere d = some (0, d) := by
  obtain ⟨v, hv⟩ := B_name h
  unfold f_X12_terminalHere
  rw [hv, zc_n, B_errs h, zc_n, B_th12 h]
  split <;> rfl
theorem B_who {d : zD} (h : BD d) : f_X12_whoHere d = some (0, d) := by
  unfold f_X12_whoHere
  rw [B_word h, zc_n, if_pos (show (0 : Int) = 0 from rfl), B_th h, zc_n]
section K3
variable {B : Int → Int} {n : Int}
/-- the names of a setup, as the reference has them -/
def NS (s : Nat) (dc ds : zD) : Prop := dc s 0 = ds 401 0 ∧ (0 ≤ ds 401 0 ∧ ds 401 0 ≤ 8) ∧ ∀ x, 0 ≤ x → x < ds 401 0 → nmr (dc (s + 1) x.toNat) (rT (ds 401) x 15)
theorem P_term {dc ds : zD} (h : PG B n dc ds) (hN : NS 1 dc ds) : (∃ v, (0 ≤ v ∧ v < ds 401 0) ∧ f_X12_terminalHere ds = some (v, ds) ∧ f_X9_isAtWord 15 dc = some (0, dc) ∧ ∀ x, f_X5_readWho x dc = j_X5_readWho_57 x v dc) ∨ (∃ w dc1 ds1, f_X12_terminalHere ds = some (w, ds1) ∧ PB dc1 ds1 ∧ FT2 dc dc1 ∧ FS2 ds ds1 ∧ (f_X9_isAtWord 15 dc = some (1, dc) ∧ f_X9_fail 1 dc = some (0, dc1) ∨ f_X9_isAtWord 15 dc = some (0, dc) ∧ ∀ x, f_X5_readWho x dc = some (-2, dc1))) := by
  obtain ⟨hN1, hN2, hN3⟩ := hN
  obtain ⟨v15, hv, w1, -⟩ := P_word (t1 := 15) (t2 := 17) h rfl
  obtain ⟨v16, -, w16, w17⟩ := P_word (t1 := 16) (t2 := 17) h rfl
  obtain ⟨v15', -, w1', w17'⟩ := P_word (t1 := 15) (t2 := 17) h rfl
  have e1516 : v15 = v16 := by
    exact (e01 (w1.symm.trans w1')).trans (e01 (w17.symm.trans w17')).symm
  have g2 := h.2.2.1
  rcases P_name h with ⟨m1, m2⟩ | ⟨a, m1, m2, m3⟩
  · -- no name
    obtain ⟨dc1, ds1, a1, a2, a3, a4, a5⟩ := P_fail (e := 1) h (by decide)
    refine Or.inr ⟨0, dc1, ds1, ?_, a3, a4, a5, ?_⟩
    · unfold f_X12_terminalHere
      rw [m2, zc_n, if_pos (show (0 : Int) = 0 from rfl), a2, zc_n, B_th12 a3.2.2]
    · rcases hv with e | e
      · refine Or.inr ⟨by rw [w1, e], fun x => ?_⟩
        unfold f_X5_readWho j_X5_readWho_50
        rw [w1, e, zc_n, if_pos (show (0 : Int) = 0 from rfl), m1, zc_n, P_findno (N := ds 401 0) hN1 hN2 (fun x x0 x1 => nmr_pos (hN3 x x0 x1)), zc_n, if_pos (show (-1 : Int) = -1 from rfl), a1, zc_n]
        rfl
      · exact Or.inl ⟨by rw [w1, e], a1⟩
  · have e0 : f_X9_isAtWord 15 dc = some (0, dc) := by
      rcases hv with e | e
      · rw [w1, e]
      · exfalso
        have em : f_X12_isName ds = some (0, ds) ∨ False := by
          left
          unfold f_X12_isName at m2 ⊢
          rw [w17, ← e1516, e] at m2
          rw [w17, ← e1516, e]
          rw [zl_n] at m2 ⊢
          by_cases h1 : ds 400 16 = 1
          · rw [if_pos h1, zl_n, zl_n, zl_n, zc_n] at m2
            by_cases h2 : 6 < zw (ds 400 15 - ds 400 14)
            · rw [if_pos h2] at m2
              exact absurd (e01 m2) (by decide)
            · rw [if_neg h2, if_neg (show ¬ (1 : Int) = 0 by decide)] at m2
              exact absurd (e01 m2) (by decide)
          · rw [if_neg h1]
        rcases em with em | em
        · rw [em] at m2
          exact absurd (e01 m2) (by decide)
        · exact em
    obtain ⟨v, hv2, f1, f2⟩ := P_find (s := 1) hN1 hN2 hN3 m3
    have hcl : ∀ x, f_X5_readWho x dc = if v = -1 then j_X5_readWho_50 3 dc else j_X5_readWho_57 x v dc := fun x => by
      unfold f_X5_readWho
      rw [e0, zc_n, if_pos (show (0 : Int) = 0 from rfl), m1, zc_n, f1, zc_n]
      have := nmr_pos m3
      rw [if_neg (show ¬ a = -1 by omega)]
    have hre : f_X12_terminalHere ds = j_X12_terminalHere_27 v ds := by
      unfold f_X12_terminalHere j_X12_terminalHere_12
      rw [m2, zc_n, if_neg (show ¬ (1 : Int) = 0 by decide), e_good g2, zc_n, if_neg (show ¬ (1 : Int) = 0 by decide), f2, zc_n]
    by_cases hv1 : v = -1
    · obtain ⟨dc1, ds1, a1, a2, a3, a4, a5⟩ := P_fail (e := 3) h (by decide)
      refine Or.inr ⟨0, dc1, ds1, ?_, a3, a4, a5, Or.inr ⟨e0, fun x => ?_⟩⟩
      · rw [hre]
        unfold j_X12_terminalHere_27 j_X12_terminalHere_38
        rw [if_pos hv1, a2, zc_n, e_bad a3.2.2, zc_n, if_pos (show (0 : Int) = 0 from rfl)]
      · rw [hcl, if_pos hv1]
        unfold j_X5_readWho_50
        rw [a1, zc_n]
    · refine Or.inl ⟨v, by omega, ?_, e0, fun x => by rw [hcl, if_neg hv1]⟩
      rw [hre]
      unfold j_X12_terminalHere_27 j_X12_terminalHere_38
      rw [if_neg hv1, e_good g2, zc_n, if_neg (show ¬ (1 : Int) = 0 by decide)]
theorem P_who {dc ds : zD} (h : PG B n dc ds) (hN : NS 1 dc ds) : (∃ v, (-1 ≤ v ∧ v < ds 401 0) ∧ f_X12_whoHere ds = some (v, ds) ∧ ∀ x, f_X5_readWho x dc = j_X5_readWho_57 x v dc) ∨ (∃ w dc1 ds1, f_X12_whoHere ds = some (w, ds1) ∧ PB dc1 ds1 ∧ FT2 dc dc1 ∧ FS2 ds ds1 ∧ ∀ x, f_X5_readWho x dc = some (-2, dc1)) := by
  obtain ⟨v15, hv, w1, w2⟩ := P_word (t1 := 15) (t2 := 17) h rfl
  have hN2 := hN.2.1
  rcases hv with e | e
  · rw [e] at w1 w2
    have hw : f_X12_whoHere ds = zc (f_X12_terminalHere ds) fun v14 d => some (v14, d) := by
      unfold f_X12_whoHere
      rw [w2, zc_n, if_pos (show (0 : Int) = 0 from rfl)]
    rcases P_term h hN with ⟨v, b1, b2, b3, b4⟩ | ⟨w, dc1, ds1, b1, b2, b3, b4, b5⟩
    · exact Or.inl ⟨v, by omega, by rw [hw, b2, zc_n], b4⟩
    · refine Or.inr ⟨w, dc1, ds1, by rw [hw, b1, zc_n], b2, b3, b4, ?_⟩
      rcases b5 with ⟨b5, -⟩ | ⟨-, b5⟩
      · rw [w1] at b5
        exact absurd (e01 b5) (by decide)
      · exact b5
  · rw [e] at w1 w2
    refine Or.inl ⟨-1, by omega, ?_, fun x => ?_⟩
    · unfold f_X12_whoHere
      rw [w2, zc_n, if_neg (show ¬ (1 : Int) = 0 by decide)]
    · unfold f_X5_readWho
      rw [w1, zc_n, if_neg (show ¬ (1 : Int) = 0 by decide)]
/-- the verb of a statement -/
theorem P_kind {dc ds : zD} (h : PG B n dc ds) : ∃ v, (-1 ≤ v ∧ v ≤ 5) ∧ f_X5_verbHere dc = some (v, dc) ∧ f_X12_kindHere ds = some (v, ds) := by
  obtain ⟨a0, p0, c0, r0⟩ := P_word (t1 := 9) (t2 := 26) h rfl
  obtain ⟨a1, p1, c1, r1⟩ := P_word (t1 := 10) (t2 := 27) h rfl
  obtain ⟨a2, p2, c2, r2⟩ := P_word (t1 := 11) (t2 := 28) h rfl
  obtain ⟨a3, p3, c3, r3⟩ := P_word (t1 := 12) (t2 := 29) h rfl
  obtain ⟨a4, p4, c4, r4⟩ := P_word (t1 := 13) (t2 := 30) h rfl
  obtain ⟨a5, p5, c5, r5⟩ := P_word (t1 := 14) (t2 := 31) h rfl
  refine ⟨if a0 = 0 then (if a1 = 0 then (if a2 = 0 then (if a3 = 0 then (if a4 = 0 then (if a5 = 0 then -1 else 5) else 4) else 3) else 2) else 1) else 0, ?_, ?_, ?_⟩
  · repeat' split
    all_goals omega
  · unfold f_X5_verbHere
    rw [c0, zc_n, c1, zc_n, c2, zc_n, c3, zc_n, c4, zc_n, c5, zc_n]
    repeat' split
    all_goals rfl
  · unfold f_X12_kindHere
    rw [r0, zc_n, r1, zc_n, r2, zc_n, r3, zc_n, r4, zc_n, r5, zc_n]
    repeat' split
    all_goals rfl
end K3
