/-! The statements of a setup. -/
theorem zc_assoc {x : Option (Int × zD)} {f g : Int → zD → Option (Int × zD)} : zc (zc x f) g = zc x fun v d => zc (f v d) g := by
  cases x with
  | none => rfl
  | some p => rfl
theorem SU_seed {dc ds : zD} {v : Int} (hS : SU dc ds) (hv : 0 ≤ v ∧ v ≤ 9999) : SU (zu dc 12 5 v) (zu ds 401 5 v) := by
  obtain ⟨⟨n1, n2, n3⟩, s2, ⟨f2, f3, f4, f12, f26, f27, f28, f29, f46, fT⟩, ⟨v1, v5, v6, v7, v8, v9, v10, v11, v30, vT⟩, s5, s6, s7, s8, s9, s10, s11⟩ := hS
  have e401 : zu ds 401 5 v 401 = us (ds 401) 5 v := zu_r
  have eT : rT (us (ds 401) 5 v) = rT (ds 401) := rT_f (by omega)
  have eo : ∀ j, j ≠ 5 → us (ds 401) 5 v j = ds 401 j := fun j hj => us_ne hj
  unfold SU NS FRm SV
  rw [e401, eT, us_eq, eo 0 (by omega), eo 1 (by omega), eo 2 (by omega), eo 3 (by omega), eo 4 (by omega), eo 6 (by omega), eo 7 (by omega), eo 8 (by omega), eo 9 (by omega), eo 10 (by omega), eo 11 (by omega), eo 26 (by omega), eo 27 (by omega), eo 28 (by omega), eo 29 (by omega), eo 46 (by omega), zu_row (b := 13) (by omega), zu_row (b := 13 + 1) (by omega), zu_row (b := 15) (by omega), zu_row (b := 16) (by omega), zu_row (b := 17) (by omega), zu_row (b := 18) (by omega), zu_row (b := 19) (by omega), zu_row (b := 400) (by omega), zu_ne (j := 4) (by omega), zu_ne (j := 6) (by omega), zu_eq]
  exact ⟨⟨n1, n2, n3⟩, s2, ⟨f2, f3, f4, fun k k0 k1 => by rw [eo k (by omega)]; exact f12 k k0 k1, f26, f27, f28, f29, f46, fT⟩, ⟨v1, hv, v6, v7, v8, v9, v10, v11, fun k k0 k1 => by rw [eo _ (by omega)]; exact v30 k k0 k1, vT⟩, s5, rfl, fun j hj => by rw [eo _ (by omega)]; exact s7 j hj, fun k k0 k1 => by rw [eo _ (by omega)]; exact s8 k k0 k1, s9, s10, s11⟩
theorem B_126 {d : zD} (h : BD d) : j_X12_readsSetupStatement_126 d = some (0, d) := by
  unfold j_X12_readsSetupStatement_126
  rw [B_semi h, zc_n]
section K10
variable {B : Int → Int} {n : Int}
theorem O_term {dc ds : zD} (h : PG B n dc ds) (hS : SU dc ds) (hL : LI ds) : OUT B n (zc (f_X7_readTerminal dc) fun v13 d => some (v13, d)) (f_X12_readsTerminal ds) dc ds := by
  rcases P_rterm h hS with ⟨d1, s1, a1, a2, a3, a4, ⟨a5, a6, a7⟩, a8, a9⟩ | ⟨d1, s1, a1, a2, a3, a4, a5⟩
  · exact Or.inl ⟨d1, s1, by rw [a1, zc_n], a2, a3, a4, by rw [a5, a6]; omega, fun q => by rw [a7]; exact hL (by rw [← a6]; exact q), a8, a9⟩
  · exact Or.inr ⟨d1, d1, s1, Or.inl (by rw [a1, zc_n]), a2, a3, a4, a5⟩
theorem O_list {dc ds : zD} (h : PG B n dc ds) (hS : SU dc ds) (hL : LI ds) : OUT B n (zc (f_X7_beginOnce 1 dc) fun v31 d => if (v31 : Int) = 0 then (some ((0 : Int), d)) else (zc (f_X7_readList d) fun v38 d => if (v38 : Int) = 0 then (some ((0 : Int), d)) else (some ((1 : Int), d)))) (f_X12_readsList ds) dc ds := by
  have hF := zF_big
  rcases P_once (k := 0) (w := 1) h hS ⟨by omega, by omega, rfl⟩ with ⟨d1, s1, a1, a2, a3, a4, ⟨a5, a6, a7, -, a8⟩, a9, a10⟩ | ⟨d1, s1, a1, a2, a3, a4, a5⟩
  · obtain ⟨t1, t2⟩ := a8 rfl
    have x0 : s1 401 1 = 0 := by rw [a7]; exact hL t2
    have re : f_X12_readsList ds = l_X12_readsList_10 zF 1 s1 := by
      unfold f_X12_readsList
      rw [a2, zc_n, e_good a3.2.2.1, zc_n]
    rcases P_list 16 zF zF a3 a4 x0 (by omega) (by omega) (by omega) (fun q => absurd q (by omega)) with ⟨d2, s2, b1, b2, b3, b4, ⟨b5, b6⟩, b7, b8⟩ | ⟨d2, d3, s2, b1, b2, b3, b4, b5⟩
    · refine Or.inl ⟨d2, s2, ?_, by rw [re, b2], b3, b4, by rw [b5, b6, a5, a6]; omega, fun q => ?_, a9.tr b7, a10.tr b8⟩
      · rw [a1, zc_n, if_neg (show ¬ (1 : Int) = 0 by decide)]
        unfold f_X7_readList
        rw [b1, zc_n, if_neg (show ¬ (1 : Int) = 0 by decide)]
      · rw [b6, t1] at q
        exact absurd q (by decide)
    · refine Or.inr ⟨d2, d3, s2, ?_, by rw [re, b2], b3, a9.tr b4, a10.tr b5⟩
      rcases b1 with b1 | ⟨b1, b1'⟩
      · left
        rw [a1, zc_n, if_neg (show ¬ (1 : Int) = 0 by decide)]
        unfold f_X7_readList
        rw [b1, zc_n, if_pos (show (0 : Int) = 0 from rfl)]
      · right
        refine ⟨?_, b1'⟩
        rw [a1, zc_n, if_neg (show ¬ (1 : Int) = 0 by decide)]
        unfold f_X7_readList
        rw [b1, zc_n, if_neg (show ¬ (1 : Int) = 0 by decide)]
  · refine Or.inr ⟨d1, d1, s1, Or.inl ?_, ?_, a3, a4, a5⟩
    · rw [a1, zc_n, if_pos (show (0 : Int) = 0 from rfl)]
    · obtain ⟨q, hq⟩ : ∃ q, zF = q + 1 := ⟨zF - 1, by omega⟩
      unfold f_X12_readsList
      rw [a2, zc_n, e_bad a3.2.2, zc_n, hq, B_l10]
theorem O_sets {dc ds : zD} {w k i e e' : Int} (h : PG B n dc ds) (hS : SU dc ds) (hL : LI ds) (hk : 0 < k ∧ k ≤ 3 ∧ w = ((2 ^ k.toNat : Nat) : Int)) (hi : 0 ≤ i ∧ i < e) (he : e ≤ 6) (he' : e' = e - 1) : (∃ dc1 ds1, (zc (f_X7_beginOnce w dc) fun v64 d => if (v64 : Int) = 0 then (some ((0 : Int), d)) else (zc (f_X7_readSettings i e' d) fun v73 d => if (v73 : Int) = 0 then (some ((0 : Int), d)) else (some ((1 : Int), d)))) = some (1, dc1) ∧ (zc (f_X12_once k ds) fun _ d => f_X12_readsSettings i e d) = some (0, ds1) ∧ PG B n dc1 ds1 ∧ SU dc1 ds1 ∧ (ds1 401 0 + pop4 (ds1 400 19) = ds 401 0 + pop4 (ds 400 19) + 1) ∧ LI ds1 ∧ FY dc dc1 ∧ FZ ds ds1) ∨ (∃ dc2 ds1, (zc (f_X7_beginOnce w dc) fun v64 d => if (v64 : Int) = 0 then (some ((0 : Int), d)) else (zc (f_X7_readSettings i e' d) fun v73 d => if (v73 : Int) = 0 then (some ((0 : Int), d)) else (some ((1 : Int), d)))) = some (0, dc2) ∧ (zc (f_X12_once k ds) fun _ d => f_X12_readsSettings i e d) = some (0, ds1) ∧ PB dc2 ds1 ∧ FY dc dc2 ∧ FZ ds ds1) := by
  have hF := zF_big
  subst he'
  rcases P_once (k := k) (w := w) h hS ⟨by omega, hk.2⟩ with ⟨d1, s1, a1, a2, a3, a4, ⟨a5, a6, a7, a8, -⟩, a9, a10⟩ | ⟨d1, s1, a1, a2, a3, a4, a5⟩
  · rcases P_sets (e - i).toNat zF zF (i := i) (e := e) a3 a4 (by omega) (by omega) hi.1 (by omega) he with ⟨d2, s2, b1, b2, b3, b4, ⟨b5, b6, b7⟩, b8, b9⟩ | ⟨d2, s2, b1, b2, b3, b4, b5⟩
    · refine Or.inl ⟨d2, s2, ?_, ?_, b3, b4, by rw [b5, b6, a5, a6]; omega, fun q => ?_, a9.tr b8, a10.tr b9⟩
      · rw [a1, zc_n, if_neg (show ¬ (1 : Int) = 0 by decide)]
        unfold f_X7_readSettings
        rw [b1, zc_n, if_neg (show ¬ (1 : Int) = 0 by decide)]
      · rw [a2, zc_n]; exact b2
      · rw [b6, a8 hk.1] at q
        rw [b7, a7]
        exact hL q
    · refine Or.inr ⟨d2, s2, ?_, ?_, b3, a9.tr b4, a10.tr b5⟩
      · rw [a1, zc_n, if_neg (show ¬ (1 : Int) = 0 by decide)]
        unfold f_X7_readSettings
        rw [b1, zc_n, if_pos (show (0 : Int) = 0 from rfl)]
      · rw [a2, zc_n]; exact b2
  · obtain ⟨s2, b1, b2⟩ := B_sets (e - i).toNat zF (i := i) (e := e) a3.2.2 (by omega) hi.1 (by omega) he
    refine Or.inr ⟨d1, s2, ?_, ?_, a3.q b2, a4, a5.tr b2.z⟩
    · rw [a1, zc_n, if_pos (show (0 : Int) = 0 from rfl)]
    · rw [a2, zc_n]; exact b1
theorem O_seed {dc ds : zD} (h : PG B n dc ds) (hS : SU dc ds) (hL : LI ds) : OUT B n (zc (f_X7_beginOnce 8 dc) fun v135 d => if (v135 : Int) = 0 then (some ((0 : Int), d)) else (zc (f_X7_readSettings 5 5 d) fun v144 d => if (v144 : Int) = 0 then (some ((0 : Int), d)) else (zc (f_X7_readSeed d) fun v151 d => if (v151 : Int) = 0 then (some ((0 : Int), d)) else (some ((1 : Int), d))))) (zc (zc (f_X12_once 3 ds) fun _ d => f_X12_readsSettings 5 6 d) fun _ d => zc (f_X12_number 0 9999 d) fun v114 d => zg 800 5 <| zl (zu d 401 (5 : Int).toNat v114) fun d => some ((0 : Int), d)) dc ds := by
  have cl : ∀ {v : Int} {d1 : zD}, (zc (f_X7_beginOnce 8 dc) fun v64 d => if (v64 : Int) = 0 then (some ((0 : Int), d)) else (zc (f_X7_readSettings 5 5 d) fun v73 d => if (v73 : Int) = 0 then (some ((0 : Int), d)) else (some ((1 : Int), d)))) = some (v, d1) → (zc (f_X7_beginOnce 8 dc) fun v135 d => if (v135 : Int) = 0 then (some ((0 : Int), d)) else (zc (f_X7_readSettings 5 5 d) fun v144 d => if (v144 : Int) = 0 then (some ((0 : Int), d)) else (zc (f_X7_readSeed d) fun v151 d => if (v151 : Int) = 0 then (some ((0 : Int), d)) else (some ((1 : Int), d))))) = if v = 0 then some (0, d1) else (zc (f_X7_readSeed d1) fun v151 d => if (v151 : Int) = 0 then (some ((0 : Int), d)) else (some ((1 : Int), d))) := fun {v d1} hx => by
    cases hb : f_X7_beginOnce 8 dc with
    | none => rw [hb] at hx; cases hx
    | some p =>
      obtain ⟨p1, p2⟩ := p
      rw [hb, zc_n] at hx
      rw [zc_n]
      by_cases h0 : p1 = 0
      · rw [if_pos h0] at hx ⊢
        injection hx with hx
        injection hx with h1 h2
        rw [← h1, if_pos rfl, h2]
      · rw [if_neg h0] at hx ⊢
        cases hb2 : f_X7_readSettings 5 5 p2 with
        | none => rw [hb2] at hx; cases hx
        | some r =>
          obtain ⟨r1, r2⟩ := r
          rw [hb2, zc_n] at hx
          rw [zc_n]
          by_cases h1 : r1 = 0
          · rw [if_pos h1] at hx ⊢
            injection hx with hx
            injection hx with h2 h3
            rw [← h2, if_pos rfl, h3]
          · rw [if_neg h1] at hx ⊢
            injection hx with hx
            injection hx with h2 h3
            rw [← h2, if_neg (by decide), h3]
  rcases O_sets (w := 8) (k := 3) (i := 5) (e := 6) (e' := 5) h hS hL ⟨by omega, by omega, rfl⟩ (by omega) (by omega) (by omega) with ⟨d1, s1, a1, a2, a3, a4, a5, a6, a7, a8⟩ | ⟨d1, s1, a1, a2, a3, a4, a5⟩
  · obtain ⟨v, w, d2, s2, b1, b2, b3, b4, b5⟩ := P_num (x := 0) (y := 9999) a3 (by omega)
    have cl2 := (cl a1).trans (if_neg (by decide))
    have e5 : ∀ {d : zD} {v : Int}, zu d 401 (5 : Int).toNat v = zu d 401 5 v := rfl
    have re : (zc (zc (f_X12_once 3 ds) fun _ d => f_X12_readsSettings 5 6 d) fun _ d => zc (f_X12_number 0 9999 d) fun v114 d => zg 800 5 <| zl (zu d 401 (5 : Int).toNat v114) fun d => some ((0 : Int), d)) = some (0, zu s2 401 5 w) := by
      rw [a2, zc_n, b2, zc_n, zg_t (by omega), zl_n]
      rfl
    rcases b3 with ⟨k1, k2, k3⟩ | ⟨k1, k2, k3⟩
    · refine Or.inl ⟨zu d2 12 5 v, zu s2 401 5 w, ?_, re, PG_x k3 (zu_row (by omega)) (zu_row (by omega)) (zu_row (by omega)) (fun j _ _ => by rw [zu_row (by omega)]), ?_, ?_, ?_, a7.tr (b4.y.tr (FY.u (by omega))), a8.tr (b5.z.tr FZ.u1)⟩
      · rw [cl2]
        unfold f_X7_readSeed
        rw [b1, zc_n, if_neg (by omega), zl_n, zc_n, if_neg (show ¬ (1 : Int) = 0 by decide)]
      · rw [← k1]; exact SU_seed (SU_t a4 b4 b5) k2
      · rw [zu_ne (by omega), zu_ne (by omega), b5.1 401 (by omega), b5.2 19 (by omega)]; exact a5
      · unfold LI
        rw [zu_ne (by omega), zu_ne (by omega), b5.1 401 (by omega), b5.2 19 (by omega)]; exact a6
    · refine Or.inr ⟨d2, d2, _, Or.inl ?_, re, k3.q FQ.u1, a7.tr b4.y, a8.tr (b5.z.tr FZ.u1)⟩
      rw [cl2]
      unfold f_X7_readSeed
      rw [b1, zc_n, if_pos k1, zc_n, if_pos (show (0 : Int) = 0 from rfl)]
  · refine Or.inr ⟨d1, d1, zu s1 401 5 0, Or.inl ((cl a1).trans (if_pos rfl)), ?_, a3.q FQ.u1, a4, a5.tr FZ.u1⟩
    rw [a2, zc_n, B_num a3.2.2, zc_n, zg_t (by omega), zl_n]
    rfl
theorem P_stm {dc ds : zD} (h : PG B n dc ds) (hS : SU dc ds) (hL : LI ds) : (∃ dc1 dc2 ds2, f_X7_readStatement dc = some (1, dc1) ∧ f_X9_readSemicolon dc1 = some (1, dc2) ∧ f_X12_readsSetupStatement ds = some (0, ds2) ∧ PG B n dc2 ds2 ∧ SU dc2 ds2 ∧ (ds2 401 0 + pop4 (ds2 400 19) = ds 401 0 + pop4 (ds 400 19) + 1) ∧ LI ds2 ∧ FY dc dc2 ∧ FZ ds ds2) ∨ (∃ dc1 dc2 ds2, (f_X7_readStatement dc = some (0, dc2) ∨ f_X7_readStatement dc = some (1, dc1) ∧ f_X9_readSemicolon dc1 = some (0, dc2)) ∧ f_X12_readsSetupStatement ds = some (0, ds2) ∧ PB dc2 ds2 ∧ FY dc dc2 ∧ FZ ds ds2) := by
  have fin : ∀ {g : Option (Int × zD)}, OUT B n (f_X7_readStatement dc) g dc ds → f_X12_readsSetupStatement ds = (zc g fun _ d => j_X12_readsSetupStatement_126 d) → (∃ dc1 dc2 ds2, f_X7_readStatement dc = some (1, dc1) ∧ f_X9_readSemicolon dc1 = some (1, dc2) ∧ f_X12_readsSetupStatement ds = some (0, ds2) ∧ PG B n dc2 ds2 ∧ SU dc2 ds2 ∧ (ds2 401 0 + pop4 (ds2 400 19) = ds 401 0 + pop4 (ds 400 19) + 1) ∧ LI ds2 ∧ FY dc dc2 ∧ FZ ds ds2) ∨ (∃ dc1 dc2 ds2, (f_X7_readStatement dc = some (0, dc2) ∨ f_X7_readStatement dc = some (1, dc1) ∧ f_X9_readSemicolon dc1 = some (0, dc2)) ∧ f_X12_readsSetupStatement ds = some (0, ds2) ∧ PB dc2 ds2 ∧ FY dc dc2 ∧ FZ ds ds2) := fun {g} ho hg => by
    rcases ho with ⟨d1, s1, a1, a2, a3, a4, a5, a6, a7, a8⟩ | ⟨d1, d2, s1, a1, a2, a3, a4, a5⟩
    · obtain ⟨v, d2, s2, b1, b2, b3, b4, b5⟩ := P_semi a3
      have re : f_X12_readsSetupStatement ds = some (0, s2) := by
        rw [hg, a2, zc_n]
        unfold j_X12_readsSetupStatement_126
        rw [b2, zc_n]
      rcases b3 with ⟨e, b3⟩ | ⟨e, b3⟩
      · refine Or.inl ⟨d1, d2, s2, a1, by rw [b1, e], re, b3, SU_t a4 b4 b5, ?_, ?_, a7.tr b4.y, a8.tr b5.z⟩
        · rw [b5.1 401 (by omega), b5.2 19 (by omega)]; exact a5
        · unfold LI
          rw [b5.1 401 (by omega), b5.2 19 (by omega)]; exact a6
      · exact Or.inr ⟨d1, d2, s2, Or.inr ⟨a1, by rw [b1, e]⟩, re, b3, a7.tr b4.y, a8.tr b5.z⟩
    · refine Or.inr ⟨d1, d2, s1, a1, ?_, a3, a4, a5⟩
      rw [hg, a2, zc_n, B_126 a3.2.2]
  obtain ⟨w1, hw1, c1, r1⟩ := P_word (t1 := 1) (t2 := 21) h rfl
  obtain ⟨w2, hw2, c2, r2⟩ := P_word (t1 := 2) (t2 := 22) h rfl
  obtain ⟨w3, hw3, c3, r3⟩ := P_word (t1 := 3) (t2 := 23) h rfl
  obtain ⟨w4, hw4, c4, r4⟩ := P_word (t1 := 4) (t2 := 24) h rfl
  obtain ⟨w5, hw5, c5, r5⟩ := P_word (t1 := 5) (t2 := 25) h rfl
  have n1 : ¬ (1 : Int) = 0 := by decide
  by_cases h1 : w1 = 0
  · by_cases h2 : w2 = 0
    · by_cases h3 : w3 = 0
      · by_cases h4 : w4 = 0
        · by_cases h5 : w5 = 0
          · -- no statement begins so
            obtain ⟨d1, s1, a1, a2, a3, a4, a5⟩ := P_fail (e := 1) h (by decide)
            refine Or.inr ⟨d1, d1, s1, Or.inl ?_, ?_, a3, a4.y, a5.z⟩
            · unfold f_X7_readStatement
              rw [c1, zc_n, if_pos h1, c2, zc_n, if_pos h2, c3, zc_n, if_pos h3, c4, zc_n, if_pos h4, c5, zc_n, if_pos h5, a1, zc_n]
            · unfold f_X12_readsSetupStatement
              rw [r1, zc_n, if_pos h1, r2, zc_n, if_pos h2, r3, zc_n, if_pos h3, r4, zc_n, if_pos h4, r5, zc_n, if_pos h5, a2, zc_n, B_126 a3.2.2]
          · refine fin (g := zc (zc (f_X12_once 3 ds) fun _ d => f_X12_readsSettings 5 6 d) fun _ d => zc (f_X12_number 0 9999 d) fun v114 d => zg 800 5 <| zl (zu d 401 (5 : Int).toNat v114) fun d => some ((0 : Int), d)) ?_ ?_
            · have e : f_X7_readStatement dc = zc (f_X7_beginOnce 8 dc) fun v135 d => if (v135 : Int) = 0 then (some ((0 : Int), d)) else (zc (f_X7_readSettings 5 5 d) fun v144 d => if (v144 : Int) = 0 then (some ((0 : Int), d)) else (zc (f_X7_readSeed d) fun v151 d => if (v151 : Int) = 0 then (some ((0 : Int), d)) else (some ((1 : Int), d)))) := by
                unfold f_X7_readStatement
                rw [c1, zc_n, if_pos h1, c2, zc_n, if_pos h2, c3, zc_n, if_pos h3, c4, zc_n, if_pos h4, c5, zc_n, if_neg h5]
              rw [e]
              exact O_seed h hS hL
            · unfold f_X12_readsSetupStatement
              rw [r1, zc_n, if_pos h1, r2, zc_n, if_pos h2, r3, zc_n, if_pos h3, r4, zc_n, if_pos h4, r5, zc_n, if_neg h5]
              have hz : ∀ {x : Option (Int × zD)}, zg 800 5 x = x := fun {x} => zg_t (by omega)
              simp only [zc_assoc, hz, zl_n, zc_n]
        · have e : f_X7_readStatement dc = zc (f_X7_beginOnce 4 dc) fun v64 d => if (v64 : Int) = 0 then (some ((0 : Int), d)) else (zc (f_X7_readSettings 4 4 d) fun v73 d => if (v73 : Int) = 0 then (some ((0 : Int), d)) else (some ((1 : Int), d))) := by
            unfold f_X7_readStatement
            rw [c1, zc_n, if_pos h1, c2, zc_n, if_pos h2, c3, zc_n, if_pos h3, c4, zc_n, if_neg h4]
          refine fin (g := zc (f_X12_once 2 ds) fun _ d => f_X12_readsSettings 4 5 d) ?_ ?_
          · rw [e]
            rcases O_sets (w := 4) (k := 2) (i := 4) (e := 5) (e' := 4) h hS hL ⟨by omega, by omega, rfl⟩ (by omega) (by omega) (by omega) with q | ⟨d1, s1, a1, a2⟩
            · exact Or.inl q
            · exact Or.inr ⟨d1, d1, s1, Or.inl a1, a2⟩
          · unfold f_X12_readsSetupStatement
            rw [r1, zc_n, if_pos h1, r2, zc_n, if_pos h2, r3, zc_n, if_pos h3, r4, zc_n, if_neg h4, zc_assoc]
      · have e : f_X7_readStatement dc = zc (f_X7_beginOnce 2 dc) fun v64 d => if (v64 : Int) = 0 then (some ((0 : Int), d)) else (zc (f_X7_readSettings 0 3 d) fun v73 d => if (v73 : Int) = 0 then (some ((0 : Int), d)) else (some ((1 : Int), d))) := by
          unfold f_X7_readStatement
          rw [c1, zc_n, if_pos h1, c2, zc_n, if_pos h2, c3, zc_n, if_neg h3]
        refine fin (g := zc (f_X12_once 1 ds) fun _ d => f_X12_readsSettings 0 4 d) ?_ ?_
        · rw [e]
          rcases O_sets (w := 2) (k := 1) (i := 0) (e := 4) (e' := 3) h hS hL ⟨by omega, by omega, rfl⟩ (by omega) (by omega) (by omega) with q | ⟨d1, s1, a1, a2⟩
          · exact Or.inl q
          · exact Or.inr ⟨d1, d1, s1, Or.inl a1, a2⟩
        · unfold f_X12_readsSetupStatement
          rw [r1, zc_n, if_pos h1, r2, zc_n, if_pos h2, r3, zc_n, if_neg h3, zc_assoc]
    · have e : f_X7_readStatement dc = (zc (f_X7_beginOnce 1 dc) fun v31 d => if (v31 : Int) = 0 then (some ((0 : Int), d)) else (zc (f_X7_readList d) fun v38 d => if (v38 : Int) = 0 then (some ((0 : Int), d)) else (some ((1 : Int), d)))) := by
        unfold f_X7_readStatement
        rw [c1, zc_n, if_pos h1, c2, zc_n, if_neg h2]
      refine fin (g := f_X12_readsList ds) ?_ ?_
      · rw [e]; exact O_list h hS hL
      · unfold f_X12_readsSetupStatement
        rw [r1, zc_n, if_pos h1, r2, zc_n, if_neg h2]
  · have e : f_X7_readStatement dc = (zc (f_X7_readTerminal dc) fun v13 d => some (v13, d)) := by
      unfold f_X7_readStatement
      rw [c1, zc_n, if_neg h1]
    refine fin (g := f_X12_readsTerminal ds) ?_ ?_
    · rw [e]; exact O_term h hS hL
    · unfold f_X12_readsSetupStatement
      rw [r1, zc_n, if_neg h1]
end K10
