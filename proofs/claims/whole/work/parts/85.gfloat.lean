/-! The floats agree. -/
theorem zw_addw {x y : Int} : zw (x + zw y) = zw (x + y) := by
  show (zI (x + zw y)).toInt = (zI (x + y)).toInt
  have e1 : zI (x + zw y) = zI x + zI (zw y) := by
    show Int32.ofInt (x + zw y) = Int32.ofInt x + Int32.ofInt (zw y)
    exact Int32.ofInt_add x (zw y)
  have e2 : zI (x + y) = zI x + zI y := by
    show Int32.ofInt (x + y) = Int32.ofInt x + Int32.ofInt y
    exact Int32.ofInt_add x y
  rw [e1, e2, zI_w]
theorem zw_subw {x y : Int} : zw (zw x - y) = zw (x - y) := by
  show (zI (zw x - y)).toInt = (zI (x - y)).toInt
  have e1 : zI (zw x - y) = zI (zw x) - zI y := by
    show Int32.ofInt (zw x - y) = Int32.ofInt (zw x) - Int32.ofInt y
    exact Int32.ofInt_sub (zw x) y
  have e2 : zI (x - y) = zI x - zI y := by
    show Int32.ofInt (x - y) = Int32.ofInt x - Int32.ofInt y
    exact Int32.ofInt_sub x y
  rw [e1, e2, zI_w]
theorem L_mean {dc ds : zD} (h : LR dc 30 (ds 401)) : ∀ (k q q' : Nat) (x1 x2 : Int), k < q → k < q' → 0 ≤ x2 → x2 + k = ds 401 2 → ∃ v, l_X3_sumOfTimes_4 30 q x1 x2 dc = some (v, dc) ∧ l_X12_meanTime_9 q' x1 x2 ds = some (v, ds) := by
  obtain ⟨-, -, i2, -⟩ := LR_2 h
  have sm : dc (30 + 1) 0 = ds 401 2 := LR_s2 h
  obtain ⟨K, L, hr, -⟩ := h
  obtain ⟨-, -, -, hM, -⟩ := hr
  have t2 : (2 : Int).toNat = 2 := rfl
  intro k
  induction k with
  | zero =>
    intro q q' x1 x2 hq hq' x0 hx
    obtain ⟨q, rfl⟩ : ∃ q0, q = q0 + 1 := ⟨q - 1, by omega⟩
    obtain ⟨q', rfl⟩ : ∃ q0, q' = q0 + 1 := ⟨q' - 1, by omega⟩
    refine ⟨x1, ?_, ?_⟩
    · show l_X3_sumOfTimes_4F 30 _ x1 x2 dc = _
      unfold l_X3_sumOfTimes_4F
      rw [zl_n, sm, if_pos (by omega)]
    · show l_X12_meanTime_9F _ x1 x2 ds = _
      unfold l_X12_meanTime_9F
      rw [zg_t (by omega), zl_n, t2, if_pos (by omega)]
  | succ k ih =>
    intro q q' x1 x2 hq hq' x0 hx
    obtain ⟨q, rfl⟩ : ∃ q0, q = q0 + 1 := ⟨q - 1, by omega⟩
    obtain ⟨q', rfl⟩ : ∃ q0, q' = q0 + 1 := ⟨q' - 1, by omega⟩
    obtain ⟨-, -, -, m6, -, -, m59⟩ := hM x2 x0 (by omega)
    obtain ⟨m5, m9⟩ := m59 fun x _ _ => List.not_mem_nil
    have cl : l_X3_sumOfTimes_4 30 (q + 1) x1 x2 dc = if rM (ds 401) x2 3 = 3 then l_X3_sumOfTimes_4 30 q (zw (x1 + (rM (ds 401) x2 7 - rM (ds 401) x2 4))) (x2 + 1) dc else l_X3_sumOfTimes_4 30 q x1 (x2 + 1) dc := by
      show l_X3_sumOfTimes_4F 30 _ x1 x2 dc = _
      unfold l_X3_sumOfTimes_4F
      rw [zl_n, sm, if_neg (by omega), zg_t (by omega), zl_n, m5]
      by_cases e : rM (ds 401) x2 3 = 3
      · rw [if_pos e, if_pos e, zg_t (by omega), zl_n, m9, zg_t (by omega), zl_n, m6, zl_n, zl_n, zw_addw, zl_n, zw_id (x := x2 + 1) (by omega) (by omega)]
      · rw [if_neg e, if_neg e, zl_n, zw_id (x := x2 + 1) (by omega) (by omega)]
    have re : l_X12_meanTime_9 (q' + 1) x1 x2 ds = if rM (ds 401) x2 3 = 3 then l_X12_meanTime_9 q' (zw (x1 + (rM (ds 401) x2 7 - rM (ds 401) x2 4))) (x2 + 1) ds else l_X12_meanTime_9 q' x1 (x2 + 1) ds := by
      show l_X12_meanTime_9F _ x1 x2 ds = _
      unfold l_X12_meanTime_9F
      rw [zg_t (by omega), zl_n, t2, if_neg (by omega), e_message0 (by omega) (by omega), zc_n]
      by_cases e : rM (ds 401) x2 3 = 3
      · rw [if_pos e, if_pos e, e_message0 (by omega) (by omega), zc_n, zl_n, e_message0 (by omega) (by omega), zc_n, zl_n, zw_subw, zl_n, zw_id (x := x2 + 1) (by omega) (by omega), show x1 + rM (ds 401) x2 7 - rM (ds 401) x2 4 = x1 + (rM (ds 401) x2 7 - rM (ds 401) x2 4) by omega]
      · rw [if_neg e, if_neg e, zl_n, zw_id (x := x2 + 1) (by omega) (by omega)]
    rw [cl, re]
    by_cases e : rM (ds 401) x2 3 = 3
    · rw [if_pos e, if_pos e]
      exact ih q q' _ (x2 + 1) (by omega) (by omega) (by omega) (by omega)
    · rw [if_neg e, if_neg e]
      exact ih q q' _ (x2 + 1) (by omega) (by omega) (by omega) (by omega)
theorem G_meanTime {dc ds : zD} (hg : GR dc ds) : ∃ tv nv, f_X2_delivered 30 dc = some (nv, dc) ∧ f_X3_sumOfTimes 30 dc = some (tv, dc) ∧ l_X12_meanTime_9 zF 0 0 (zu ds 400 0 0) = some (tv, zu ds 400 0 0) ∧ f_X12_inState 3 (zu ds 400 0 0) = some (nv, zu ds 400 0 0) := by
  have hF := zF_big
  have e401 : zu ds 400 0 0 401 = ds 401 := zu_row (by omega)
  obtain ⟨-, -, i2, -⟩ := LR_2 hg.1
  obtain ⟨tv, a1, a2⟩ := L_mean (dc := dc) (ds := zu ds 400 0 0) (by rw [e401]; exact hg.1) (ds 401 2).toNat zF zF 0 0 (by omega) (by omega) (by omega) (by rw [e401]; omega)
  exact ⟨tv, _, k_delivered hg.1, a1, a2, by rw [e_inState (by rw [e401]; omega), e401]⟩
theorem G_clearShare {dc ds : zD} (hg : GR dc ds) : dc 58 0 = ds 401 12 ∧ dc 58 1 = ds 401 13 := by
  obtain ⟨K, L, hr, -⟩ := hg.1
  obtain ⟨-, ⟨-, hA, -⟩, -⟩ := hr
  exact ⟨hA 0 (by omega) (by omega), hA 1 (by omega) (by omega)⟩
