/-! Undo, save, restore. -/
theorem G_undo : GO [3] f_X11_undo f_X12_undo := by
  intro dc ds hg hR
  have hgg := hg
  obtain ⟨h1, h2, ⟨a1, a2, a3, a4⟩, ⟨b1, b2, b3⟩, ⟨c1, c2, c3⟩, ⟨f1, f2⟩, ⟨g1, g2, g3⟩⟩ := hg
  by_cases h0 : ds 400 5 = 0
  · refine GO_q hgg (v := 4294967296 + 3) (v' := 0) (t := 1) ?_ ?_ (Or.inr ⟨0, 3, rfl, rfl, rfl⟩)
    · unfold f_X11_undo
      rw [zl_n, a2, if_pos h0]
    · unfold f_X12_undo j_X12_undo_13
      rw [zl_n, if_pos (by omega), e_may0, zc_n, if_pos rfl]
  · have hrem := zrem_of (dc 8 1 + (ds 400 5 - 1)) 8 (by omega) (by omega) (by omega) (by omega)
    have a := a4 (ds 400 5 - 1).toNat (by omega)
    have hb : (dc 8 1 + ((ds 400 5 - 1).toNat : Int)) % 8 = (dc 8 1 + (ds 400 5 - 1)) % 8 := by omega
    rw [hb] at a
    obtain ⟨d1, r1, r2, r3⟩ := R_copy (d := zu dc 8 2 (ds 400 5 - 1)) (b := 30) (b1 := 120 + 30 * ((dc 8 1 + (ds 400 5 - 1)) % 8).toNat) (s := pst ds (ds 400 5 - 1).toNat) (LR_d a.1 fun c hc => zu_row (by omega)) (by omega) (by omega)
    have ecl : f_X11_undo dc = some (ds 400 5 - 1, d1) := by
      unfold f_X11_undo f_X0_takeBack
      rw [zl_n, a2, if_neg h0, zl_n, if_neg (show ¬ ds 400 5 ≤ 0 by omega), zl_n, zl_n, zw_id (by omega) (by omega), zl_n, zl_n, zl_n, zu_eq, zu_ne (by omega), zl_n, zw_id (by omega) (by omega), zn_8, zl_n, hrem, zg_t (by omega), r1, zc_n, zc_n, zl_n, r2 8 (by omega), zu_eq]
    obtain ⟨s2, q1, q2, q3⟩ := e_copies (a0 := 404) (n0 := 6400) (a2 := 401) (n2 := 800) (p := 800 * (ds 400 5 - 1).toNat) (t := 0) (m := 800) (d := zu (zu ds 400 0 0) 400 5 (ds 400 5 - 1)) (by omega) (by omega) (Or.inl (by omega)) (by omega) (by omega)
    have q1' : f_X12_copies 404 6400 401 800 (800 * (ds 400 5 - 1)) 0 800 (zu (zu ds 400 0 0) 400 5 (ds 400 5 - 1)) = some (0, s2) := by
      have e : ((800 * (ds 400 5 - 1).toNat : Nat) : Int) = 800 * (ds 400 5 - 1) := by omega
      rw [e] at q1
      exact q1
    have o5 : s2 400 5 = ds 400 5 - 1 := by rw [q2 400 (by omega), zu_eq]
    have oj : ∀ j, j ≠ 0 → j ≠ 5 → s2 400 j = ds 400 j := fun j j0 j5 => by rw [q2 400 (by omega), zu_ne (Or.inr j5), zu_ne (Or.inr j0)]
    have oc : ∀ c, c ≠ 400 → c ≠ 401 → s2 c = ds c := fun c c0 c1 => by rw [q2 c c1, zu_row c0, zu_row c0]
    have op : ∀ j, j < 800 → s2 401 j = pst ds (ds 400 5 - 1).toNat j := fun j hj => by
      rw [q3, if_pos (by omega), zu_row (by omega), zu_row (by omega)]
      unfold pst
      rw [show 800 * (ds 400 5 - 1).toNat + (j - 0) = 800 * (ds 400 5 - 1).toNat + j by omega]
    have emod : f_X12_undo ds = some (ds 400 5 - 1, s2) := by
      unfold f_X12_undo j_X12_undo_13
      rw [zl_n, if_neg (by omega), e_may11, zc_n, if_neg (show ¬ (1 : Int) = 0 by decide), zl_n, zu_ne (by omega), zl_n, zw_id (by omega) (by omega), zl_n, zl_n, zu_eq, zl_n, zw_id (by omega) (by omega), q1', zc_n, zl_n, o5]
    have e81 : d1 8 1 = dc 8 1 := by rw [r2 8 (by omega), zu_ne (by omega)]
    have e82 : d1 8 2 = ds 400 5 - 1 := by rw [r2 8 (by omega), zu_eq]
    have ec : ∀ c, c ≠ 8 → c < 30 ∨ 60 ≤ c → d1 c = dc c := fun c c1 c2 => by rw [r2 c c2, zu_row c1]
    have ep : ∀ i, pst s2 i = pst ds i := fun i => by
      unfold pst
      rw [oc 404 (by omega) (by omega)]
    refine ⟨_, d1, _, s2, ecl, emod, ⟨LR_s r3 op, by rw [op 4 (by omega)]; exact a.2, ⟨by rw [e81]; exact a1, by rw [e82, o5], by rw [o5]; omega, fun i hi => ?_⟩, ?_, ?_, ?_, ?_⟩, fun c hc => ec c (by omega) (by omega), fun c hc => oc c (by omega) (by omega), ?_⟩
    · rw [o5] at hi
      rw [ep, e81]
      exact ⟨LR_d (a4 i (by omega)).1 fun c hc => ec c (by omega) (by omega), (a4 i (by omega)).2⟩
    · unfold SR
      rw [ec 0 (by omega) (by omega), oj 6 (by omega) (by omega), oc 403 (by omega) (by omega)]
      exact ⟨b1, b2, fun q => ⟨LR_d (b3 q).1 fun c hc => ec c (by omega) (by omega), (b3 q).2⟩⟩
    · unfold IR
      rw [ec 10 (by omega) (by omega), ec 11 (by omega) (by omega), oj 11 (by omega) (by omega), oc 405 (by omega) (by omega)]
      exact ⟨c1, c2, c3⟩
    · unfold ER
      rw [ec 10 (by omega) (by omega), oj 12 (by omega) (by omega), oj 13 (by omega) (by omega)]
      exact ⟨f1, f2⟩
    · unfold OR
      rw [ec 0 (by omega) (by omega), ec 25 (by omega) (by omega), oj 24 (by omega) (by omega), oc 408 (by omega) (by omega)]
      exact ⟨g1, g2, g3⟩
    · rw [q2 400 (by omega), zu_ne (by omega), zu_eq]
      exact GX_ok rfl (zR_s (by omega) (by omega))
theorem LR_3 {d : zD} {s : Nat → Int} (h : LR d 30 s) : d 30 9 = s 3 := by
  obtain ⟨K, L, ⟨⟨-, h2, -⟩, -⟩, -⟩ := h
  exact h2
theorem G_saveState : GO [] f_X11_saveState f_X12_saveState := by
  intro dc ds hg hR
  obtain ⟨h1, h2, ⟨a1, a2, a3, a4⟩, ⟨b1, b2, b3⟩, ⟨c1, c2, c3⟩, ⟨f1, f2⟩, ⟨g1, g2, g3⟩⟩ := hg
  obtain ⟨-, i3, -⟩ := LR_2 h1
  obtain ⟨d1, r1, r2, r3⟩ := R_copy (d := dc) (b := 90) h1 (by omega) (by omega)
  obtain ⟨s2, q1, q2, q3⟩ := e_copies (a0 := 401) (n0 := 800) (a2 := 403) (n2 := 800) (p := 0) (t := 0) (m := 800) (d := zu ds 400 0 0) (by omega) (by omega) (Or.inl (by omega)) (by omega) (by omega)
  have q1' : f_X12_copies 401 800 403 800 0 0 800 (zu ds 400 0 0) = some (0, s2) := q1
  have op : ∀ j, j < 800 → s2 403 j = ds 401 j := fun j hj => by
    rw [q3, if_pos (by omega), zu_row (by omega), show 0 + (j - 0) = j by omega]
  have oc : ∀ c, c ≠ 400 → c ≠ 403 → zu s2 400 6 1 c = ds c := fun c c0 c1 => by rw [zu_row c0, q2 c c1, zu_row c0]
  have oj : ∀ j, j ≠ 0 → j ≠ 6 → zu s2 400 6 1 400 j = ds 400 j := fun j j0 j6 => by rw [zu_ne (Or.inr j6), q2 400 (by omega), zu_ne (Or.inr j0)]
  have ec : ∀ c, c ≠ 0 → c < 90 ∨ 120 ≤ c → zu d1 0 12 1 c = dc c := fun c c1 c2 => by rw [zu_row c1, r2 c c2]
  have e0 : zu d1 0 12 1 0 11 = dc 0 11 := by rw [zu_ne (by omega), r2 0 (by omega)]
  have ecl : f_X11_saveState dc = some (ds 401 3, zu d1 0 12 1) := by
    unfold f_X11_saveState
    rw [r1, zc_n, zl_n, zl_n, ec 30 (by omega) (by omega), LR_3 h1]
  have emod : f_X12_saveState ds = some (ds 401 3, zu s2 400 6 1) := by
    unfold f_X12_saveState
    rw [zl_n, q1', zc_n, zl_n, zg_t (by omega), zl_n, oc 401 (by omega) (by omega)]
    rfl
  have ep : ∀ i, pst (zu s2 400 6 1) i = pst ds i := fun i => by
    unfold pst
    rw [oc 404 (by omega) (by omega)]
  have hL : ∀ {bb : Nat} {s : Nat → Int}, LR dc bb s → (bb + 30 ≤ 90 ∨ 120 ≤ bb) → 6 ≤ bb → LR (zu d1 0 12 1) bb s := fun h hb hb6 => LR_d h fun c hc => ec c (by omega) (by omega)
  have o401 : zu s2 400 6 1 401 = ds 401 := oc 401 (by omega) (by omega)
  refine ⟨_, _, _, _, ecl, emod, ⟨by rw [o401]; exact hL h1 (by omega) (by omega), by rw [o401]; exact h2, ⟨by rw [ec 8 (by omega) (by omega)]; exact a1, by rw [ec 8 (by omega) (by omega), oj 5 (by omega) (by omega)]; exact a2, by rw [oj 5 (by omega) (by omega)]; exact a3, fun i hi => ?_⟩, ⟨?_, ?_, fun _ => ⟨?_, ?_⟩⟩, ?_, ?_, ?_⟩, fun c hc => ec c (by omega) (by omega), fun c hc => oc c (by omega) (by omega), ?_⟩
  · rw [oj 5 (by omega) (by omega)] at hi
    rw [ep, ec 8 (by omega) (by omega)]
    exact ⟨hL (a4 i hi).1 (by omega) (by omega), (a4 i hi).2⟩
  · rw [zu_eq, zu_eq]
  · rw [zu_eq]; exact Or.inr rfl
  · rw [zu_row (by omega)]
    exact LR_s (LR_d r3 fun c hc => zu_row (by omega)) op
  · rw [zu_row (by omega), op 4 (by omega)]; exact h2
  · unfold IR
    rw [ec 10 (by omega) (by omega), ec 11 (by omega) (by omega), oj 11 (by omega) (by omega), oc 405 (by omega) (by omega)]
    exact ⟨c1, c2, c3⟩
  · unfold ER
    rw [ec 10 (by omega) (by omega), oj 12 (by omega) (by omega), oj 13 (by omega) (by omega)]
    exact ⟨f1, f2⟩
  · unfold OR
    rw [e0, ec 25 (by omega) (by omega), oj 24 (by omega) (by omega), oc 408 (by omega) (by omega)]
    exact ⟨g1, g2, g3⟩
  · rw [zu_ne (by omega), q2 400 (by omega), zu_eq]
    exact GX_ok rfl (by rw [← LR_3 h1]; exact hR 30 9)
theorem G_restoreState : GO [3] f_X11_restoreState f_X12_restoreState := by
  intro dc ds hg hR
  have hgg := hg
  obtain ⟨h1, h2, ⟨a1, a2, a3, a4⟩, ⟨b1, b2, b3⟩, ⟨c1, c2, c3⟩, ⟨f1, f2⟩, ⟨g1, g2, g3⟩⟩ := hg
  rcases b2 with h0 | h6
  · refine GO_q hgg (v := 4294967296 + 3) (v' := 0) (t := 1) ?_ ?_ (Or.inr ⟨0, 3, rfl, rfl, rfl⟩)
    · unfold f_X11_restoreState
      rw [zl_n, b1, if_pos h0]
    · unfold f_X12_restoreState
      rw [zl_n, h0, e_may0, zc_n, if_pos rfl]
  · obtain ⟨k1, k2⟩ := b3 h6
    obtain ⟨d1, r1, r2, r3⟩ := R_copy (d := dc) (b := 30) k1 (by omega) (by omega)
    obtain ⟨s2, q1, q2, q3⟩ := e_copies (a0 := 403) (n0 := 800) (a2 := 401) (n2 := 800) (p := 0) (t := 0) (m := 800) (d := zu ds 400 0 0) (by omega) (by omega) (Or.inl (by omega)) (by omega) (by omega)
    have q1' : f_X12_copies 403 800 401 800 0 0 800 (zu ds 400 0 0) = some (0, s2) := q1
    have op : ∀ j, j < 800 → s2 401 j = ds 403 j := fun j hj => by
      rw [q3, if_pos (by omega), zu_row (by omega), show 0 + (j - 0) = j by omega]
    have oc : ∀ c, c ≠ 400 → c ≠ 401 → zu s2 400 5 0 c = ds c := fun c c0 c1 => by rw [zu_row c0, q2 c c1, zu_row c0]
    have oj : ∀ j, j ≠ 0 → j ≠ 5 → zu s2 400 5 0 400 j = ds 400 j := fun j j0 j6 => by rw [zu_ne (Or.inr j6), q2 400 (by omega), zu_ne (Or.inr j0)]
    have ec : ∀ c, c ≠ 8 → c < 30 ∨ 60 ≤ c → zu d1 8 2 0 c = dc c := fun c c1 c2 => by rw [zu_row c1, r2 c c2]
    have e81 : zu d1 8 2 0 8 1 = dc 8 1 := by rw [zu_ne (by omega), r2 8 (by omega)]
    have l1 : LR (zu d1 8 2 0) 30 (ds 403) := LR_d r3 fun c hc => zu_row (by omega)
    have ecl : f_X11_restoreState dc = some (ds 403 3, zu d1 8 2 0) := by
      unfold f_X11_restoreState
      rw [zl_n, b1, h6, if_neg (by decide), r1, zc_n, zl_n, zl_n, LR_3 l1]
    have emod : f_X12_restoreState ds = some (ds 403 3, zu s2 400 5 0) := by
      unfold f_X12_restoreState
      rw [zl_n, h6, e_may11, zc_n, if_neg (show ¬ (1 : Int) = 0 by decide), q1', zc_n, zl_n, zg_t (by omega), zl_n, zu_row (by omega)]
      exact congrArg (fun v => some (v, zu s2 400 5 0)) (op 3 (by omega))
    have o401 : ∀ k, k < 800 → zu s2 400 5 0 401 k = ds 403 k := fun k hk => by rw [zu_row (by omega), op k hk]
    refine ⟨_, _, _, _, ecl, emod, ⟨LR_s l1 o401, by rw [o401 4 (by omega)]; exact k2, ⟨by rw [e81]; exact a1, by rw [zu_eq, zu_eq], by rw [zu_eq]; omega, fun i hi => ?_⟩, ?_, ?_, ?_, ?_⟩, fun c hc => ec c (by omega) (by omega), fun c hc => oc c (by omega) (by omega), ?_⟩
    · rw [zu_eq] at hi; omega
    · unfold SR
      rw [ec 0 (by omega) (by omega), oj 6 (by omega) (by omega), oc 403 (by omega) (by omega)]
      exact ⟨b1, Or.inr h6, fun q => ⟨LR_d (b3 q).1 fun c hc => ec c (by omega) (by omega), (b3 q).2⟩⟩
    · unfold IR
      rw [ec 10 (by omega) (by omega), ec 11 (by omega) (by omega), oj 11 (by omega) (by omega), oc 405 (by omega) (by omega)]
      exact ⟨c1, c2, c3⟩
    · unfold ER
      rw [ec 10 (by omega) (by omega), oj 12 (by omega) (by omega), oj 13 (by omega) (by omega)]
      exact ⟨f1, f2⟩
    · unfold OR
      rw [ec 0 (by omega) (by omega), ec 25 (by omega) (by omega), oj 24 (by omega) (by omega), oc 408 (by omega) (by omega)]
      exact ⟨g1, g2, g3⟩
    · rw [zu_ne (by omega), q2 400 (by omega), zu_eq]
      refine GX_ok rfl ?_
      obtain ⟨K, L, ⟨⟨-, t2, -⟩, -⟩, -⟩ := k1
      rw [← t2]
      exact hR _ _
