/-! All statements of a script. -/
theorem B_15 {x : Int} {d : zD} (h : BD d) : j_X12_readsStatement_15 x d = some (0, d) := by
  have e : j_X12_readsStatement_29 x d = some (0, d) := by rw [RRst_of, B_on h, zc_n, B_RR h]
  unfold j_X12_readsStatement_15
  rw [zl_n, B_errs h, zc_n, e]
  split <;> rfl
theorem PB.k {dc ds dc' : zD} (h : PB dc ds) (e : dc' 10 = dc 10) : PB dc' ds := by
  unfold PB
  rw [e]
  exact h
section K6
variable {B : Int → Int} {n : Int}
theorem S_stmts {N : Int} : ∀ (k q q' : Nat) {dc ds : zD} {m : Int}, PG B n dc ds → NS 1 dc ds → ds 401 0 = N → SC N dc ds m → m + k = 30 → k < q → k + 1 < q' → (∃ m1 dc1 ds1, l_X5_readText_14 q m dc = some (1, dc1) ∧ l_X12_playScript_9 q' ds = j_X12_playScript_30 ds1 ∧ PG B n dc1 ds1 ∧ SC N dc1 ds1 m1 ∧ FW dc dc1 ∧ FX ds ds1) ∨ (∃ dc1 ds1, l_X5_readText_14 q m dc = some (0, dc1) ∧ l_X12_playScript_9 q' ds = j_X12_playScript_30 ds1 ∧ PB dc1 ds1 ∧ FW dc dc1 ∧ FX ds ds1) := by
  intro k
  induction k with
  | zero =>
    intro q q' dc ds m h hN hNN hS hm hq hq'
    obtain ⟨q, rfl⟩ : ∃ q0, q = q0 + 1 := ⟨q - 1, by omega⟩
    obtain ⟨q', rfl⟩ : ∃ q0, q' = q0 + 1 + 1 := ⟨q' - 2, by omega⟩
    obtain ⟨s1, s2, s3, s4⟩ := id hS
    have g2 := h.2.2.1
    have eE := P_atEnd h
    have rB : ∀ {d : zD}, BD d → l_X12_playScript_9 (q' + 1) d = j_X12_playScript_30 d := fun {d} hb => by
      show l_X12_playScript_9F _ d = _
      unfold l_X12_playScript_9F
      rw [e_bad hb, zc_n, if_pos (show (0 : Int) = 0 from rfl)]
    by_cases h16 : ds 400 16 = 0
    · refine Or.inl ⟨m, dc, ds, ?_, ?_, h, hS, FT2.rf.w, FS2.rf.x⟩
      · show l_X5_readText_14F _ m dc = _
        unfold l_X5_readText_14F
        rw [if_neg (by omega), eE, zc_n, if_pos h16, if_neg (show ¬ (1 : Int) = 0 by decide)]
      · show l_X12_playScript_9F _ ds = _
        unfold l_X12_playScript_9F
        rw [e_good g2, zc_n, if_neg (show ¬ (1 : Int) = 0 by decide), zl_n, if_pos h16]
    · obtain ⟨v, hv, v1, v2⟩ := P_kind h
      have cl : ∀ {x : Option (Int × zD)}, (if v = -1 then (zc (f_X9_fail 1 dc) fun v46 d => some (v46, d)) else (zc (f_X9_fail 5 dc) fun v64 d => some (v64, d))) = x → l_X5_readText_14 (q + 1) m dc = x := fun {x} hx => by
        show l_X5_readText_14F _ m dc = _
        unfold l_X5_readText_14F
        rw [if_neg (by omega), eE, zc_n, if_neg h16, if_pos (show (0 : Int) = 0 from rfl), v1, zc_n, zl_n, s1, if_neg (show ¬ m < 30 by omega), hx]
      have re : l_X12_playScript_9 (q' + 1 + 1) ds = zc (f_X12_readsStatement ds) fun _ d => l_X12_playScript_9 (q' + 1) d := by
        show l_X12_playScript_9F _ ds = _
        unfold l_X12_playScript_9F
        rw [e_good g2, zc_n, if_neg (show ¬ (1 : Int) = 0 by decide), zl_n, if_neg h16]
      by_cases hv1 : v = -1
      · obtain ⟨dc1, ds1, a1, a2, a3, a4, a5⟩ := P_fail (e := 1) h (by decide)
        refine Or.inr ⟨dc1, ds1, cl (by rw [if_pos hv1, a1, zc_n]), ?_, a3, a4.w, a5.x⟩
        rw [re]
        unfold f_X12_readsStatement
        rw [v2, zc_n, if_pos hv1, a2, zc_n, B_15 a3.2.2, zc_n, rB a3.2.2]
      · obtain ⟨dc1, ds1, a1, a2, a3, a4, a5⟩ := P_fail (e := 5) h (by decide)
        refine Or.inr ⟨dc1, ds1, cl (by rw [if_neg hv1, a1, zc_n]), ?_, a3, a4.w, a5.x⟩
        rw [re]
        unfold f_X12_readsStatement j_X12_readsStatement_15
        rw [v2, zc_n, if_neg hv1, zl_n, s2, if_pos (by omega), a2, zc_n, RRst_of, B_on a3.2.2, zc_n, B_RR a3.2.2, zc_n, rB a3.2.2]
  | succ k ih =>
    intro q q' dc ds m h hN hNN hS hm hq hq'
    obtain ⟨q, rfl⟩ : ∃ q0, q = q0 + 1 := ⟨q - 1, by omega⟩
    obtain ⟨q', rfl⟩ : ∃ q0, q' = q0 + 1 + 1 := ⟨q' - 2, by omega⟩
    obtain ⟨s1, s2, s3, s4⟩ := id hS
    have g2 := h.2.2.1
    have eE := P_atEnd h
    have rB : ∀ {d : zD}, BD d → l_X12_playScript_9 (q' + 1) d = j_X12_playScript_30 d := fun {d} hb => by
      show l_X12_playScript_9F _ d = _
      unfold l_X12_playScript_9F
      rw [e_bad hb, zc_n, if_pos (show (0 : Int) = 0 from rfl)]
    by_cases h16 : ds 400 16 = 0
    · refine Or.inl ⟨m, dc, ds, ?_, ?_, h, hS, FT2.rf.w, FS2.rf.x⟩
      · show l_X5_readText_14F _ m dc = _
        unfold l_X5_readText_14F
        rw [if_neg (by omega), eE, zc_n, if_pos h16, if_neg (show ¬ (1 : Int) = 0 by decide)]
      · show l_X12_playScript_9F _ ds = _
        unfold l_X12_playScript_9F
        rw [e_good g2, zc_n, if_neg (show ¬ (1 : Int) = 0 by decide), zl_n, if_pos h16]
    · obtain ⟨v, hv, v1, v2⟩ := P_kind h
      have re : l_X12_playScript_9 (q' + 1 + 1) ds = zc (f_X12_readsStatement ds) fun _ d => l_X12_playScript_9 (q' + 1) d := by
        show l_X12_playScript_9F _ ds = _
        unfold l_X12_playScript_9F
        rw [e_good g2, zc_n, if_neg (show ¬ (1 : Int) = 0 by decide), zl_n, if_neg h16]
      by_cases hv1 : v = -1
      · obtain ⟨dc1, ds1, a1, a2, a3, a4, a5⟩ := P_fail (e := 1) h (by decide)
        refine Or.inr ⟨dc1, ds1, ?_, ?_, a3, a4.w, a5.x⟩
        · show l_X5_readText_14F _ m dc = _
          unfold l_X5_readText_14F
          rw [if_neg (by omega), eE, zc_n, if_neg h16, if_pos (show (0 : Int) = 0 from rfl), v1, zc_n, if_pos hv1, a1, zc_n]
        · rw [re]
          unfold f_X12_readsStatement
          rw [v2, zc_n, if_pos hv1, a2, zc_n, B_15 a3.2.2, zc_n, rB a3.2.2]
      · obtain ⟨dc1, ds1, a1, a2, a3, a4, a5⟩ := P_adv h
        have f1 : FW dc (zu dc1 21 m.toNat v) := a4.w.tr (FW.u (by omega))
        have h1 : PG B n (zu dc1 21 m.toNat v) ds1 := PG_c a3 (zu_row (by omega)) (zu_row (by omega))
        have o401 : ds1 401 = ds 401 := a5.1 401 (by omega)
        have n1 : NS 1 (zu dc1 21 m.toNat v) ds1 := NS_f hN (f1.1 1 (by omega) (by omega)) (f1.1 2 (by omega) (by omega)) o401
        have q20 : dc1 20 6 = m := by rw [a4.1 20 (by omega), s1]
        have q20' : zu dc1 21 m.toNat v 20 6 = m := by rw [zu_ne (by omega)]; exact q20
        have cl : l_X5_readText_14 (q + 1) m dc = zc (f_X5_readRest v (zu dc1 21 m.toNat v)) fun v87 d => if (v87 : Int) = 0 then (some (0, d)) else (zc (f_X9_readSemicolon d) fun v97 d => if (v97 : Int) = 0 then (some (0, d)) else (zl (d 20 6) fun v107 => zl (zw (v107 + 1)) fun v111 => zl (zu d 20 6 v111) fun d => zl (zw (m + 1)) fun v115 => l_X5_readText_14 q v115 d)) := by
          show l_X5_readText_14F _ m dc = _
          unfold l_X5_readText_14F
          rw [if_neg (by omega), eE, zc_n, if_neg h16, if_pos (show (0 : Int) = 0 from rfl), v1, zc_n, if_neg hv1, zl_n, s1, if_pos (show m < 30 by omega), a1, zc_n, zl_n, q20, zg_t (by omega), zl_n]
        have re2 : l_X12_playScript_9 (q' + 1 + 1) ds = zc (RRst v ds1) fun _ d => l_X12_playScript_9 (q' + 1) d := by
          rw [re]
          unfold f_X12_readsStatement j_X12_readsStatement_15
          rw [v2, zc_n, if_neg hv1, zl_n, s2, if_neg (by omega), RRst_of, a2, zc_n]
        rcases P_rest (m := m) (v := v) h1 n1 q20' (by omega) (by rw [a5.2 21 (by omega)]; exact s2) (by omega) with ⟨a, r, l, dc2, ds2, b1, b2, b3, b4, b5, b6, b7, b8⟩ | ⟨dc2, ds2, b1, b2, b3, b4, b5⟩
        · have fx : FX ds (adx ds2 m v a r l) := a5.x.tr (b8.x.tr adx_F)
          have h2 : PG B n dc2 (adx ds2 m v a r l) := PG_x b3 rfl rfl (adx_F.1 405 (by omega) (by omega)) fun j j1 j2 => by
            unfold adx
            rw [zu_ne (by omega), zu_row (by omega), zu_row (by omega), zu_row (by omega), zu_row (by omega)]
          obtain ⟨w, dc3, ds3, c1, c2, c3, c4, c5⟩ := P_semi h2
          have f3 : FW dc dc3 := f1.tr (b7.w.tr c4.w)
          have x3 : FX ds ds3 := fx.tr c5.x
          have q3 : dc3 20 6 = m := by rw [c4.1 20 (by omega), b7.1 20 (by omega) (by omega) (by omega) (by omega)]; exact q20'
          have re3 : l_X12_playScript_9 (q' + 1 + 1) ds = l_X12_playScript_9 (q' + 1) ds3 := by
            rw [re2, b2]
            unfold j_X12_readsStatement_99
            rw [c2, zc_n, zc_n]
          rcases c3 with ⟨e1, c3⟩ | ⟨e1, c3⟩
          · have o3 : ds3 401 = ds 401 := x3.1 401 (by omega) (by omega)
            have p3 : PG B n (zu dc3 20 6 (m + 1)) ds3 := PG_c c3 (zu_row (by omega)) (zu_row (by omega))
            have f4 : FW dc (zu dc3 20 6 (m + 1)) := f3.tr (FW.u (by omega))
            have o406 : ds3 406 = adx ds2 m v a r l 406 := by rw [c5.1 406 (by omega)]
            have o406' : ∀ j : Nat, j < (4 * m).toNat → ds3 406 j = ds 406 j := fun j hj => by rw [o406, adx_o hj s3.1, b8.1 406 (by omega), a5.1 406 (by omega)]
            obtain ⟨y1, y2, y3, y4⟩ := adx_v (ds := ds2) (m := m) (k := v) (a := a) (r := r) (l := l) s3.1
            have hS' : SC N (zu dc3 20 6 (m + 1)) ds3 (m + 1) := by
              refine ⟨zu_eq, ?_, by omega, fun i i0 i1 => ?_⟩
              · rw [c5.2 21 (by omega)]
                unfold adx
                exact zu_eq
              · by_cases hi : i = m
                · subst hi
                  rw [o406, y1, y2, y3, y4, zu_row (by omega), zu_row (by omega), zu_row (by omega), zu_row (by omega), c4.1 21 (by omega), c4.1 22 (by omega), c4.1 23 (by omega), c4.1 24 (by omega), b7.1 21 (by omega) (by omega) (by omega) (by omega)]
                  rw [o401, hNN] at b4
                  exact ⟨zu_eq, b5, b6, b4⟩
                · have hi2 : i < m := by omega
                  have ht : i.toNat ≠ m.toNat := by omega
                  obtain ⟨z1, z2, z3⟩ := b7.2.2 i.toNat ht
                  rw [o406' _ (by omega), o406' _ (by omega), o406' _ (by omega), o406' _ (by omega), zu_row (by omega), zu_row (by omega), zu_row (by omega), zu_row (by omega), c4.1 21 (by omega), c4.1 22 (by omega), c4.1 23 (by omega), c4.1 24 (by omega), b7.1 21 (by omega) (by omega) (by omega) (by omega), z1, z2, z3, zu_ne (Or.inr ht), zu_row (by omega), zu_row (by omega), zu_row (by omega), a4.1 21 (by omega), a4.1 22 (by omega), a4.1 23 (by omega), a4.1 24 (by omega)]
                  exact s4 i i0 hi2
            have n4 : NS 1 (zu dc3 20 6 (m + 1)) ds3 := NS_f hN (f4.1 1 (by omega) (by omega)) (f4.1 2 (by omega) (by omega)) o3
            have cl3 : l_X5_readText_14 (q + 1) m dc = l_X5_readText_14 q (m + 1) (zu dc3 20 6 (m + 1)) := by
              rw [cl, b1, zc_n, if_neg (show ¬ (1 : Int) = 0 by decide), c1, zc_n, if_neg (by omega), zl_n, q3, zl_n, zw_id (x := m + 1) (by omega) (by omega), zl_n, zl_n]
            rcases ih q (q' + 1) p3 n4 (by rw [o3]; exact hNN) hS' (by omega) (by omega) (by omega) with ⟨m1, dc4, ds4, i1, i2, i3, i4, i5, i6⟩ | ⟨dc4, ds4, i1, i2, i3, i4, i5⟩
            · exact Or.inl ⟨m1, dc4, ds4, by rw [cl3, i1], by rw [re3, i2], i3, i4, f4.tr i5, x3.tr i6⟩
            · exact Or.inr ⟨dc4, ds4, by rw [cl3, i1], by rw [re3, i2], i3, f4.tr i4, x3.tr i5⟩
          · refine Or.inr ⟨dc3, ds3, ?_, by rw [re3, rB c3.2.2], c3, f3, x3⟩
            rw [cl, b1, zc_n, if_neg (show ¬ (1 : Int) = 0 by decide), c1, zc_n, if_pos e1]
        · refine Or.inr ⟨dc2, ds2, ?_, by rw [re2, b2, zc_n, rB b3.2.2], b3, f1.tr b4.w, a5.x.tr b5.x⟩
          rw [cl, b1, zc_n, if_pos (show (0 : Int) = 0 from rfl)]
end K6
