/-! What the law asks of a line. -/
section ASK
variable {K L : Int → Int → List Int} {d : zD} {s : Nat → Int} {N : Int}
theorem q_has (h : RC K L D0 d 30 s N) {x : Int} (hx : 0 ≤ x ∧ x < s 0) : f_X6_has 1 x d = some (1, d) := by
  obtain ⟨-, -, -, -, -, -, -, -, -, -, -, -, -, -, hU, -⟩ := h
  rw [e_has6, if_pos ⟨hx.1, by rw [hU.1]; exact hx.2⟩]
theorem q_rd {n : Nat} {c : Nat} {x y : Int} {d : zD} (hx : 0 ≤ x ∧ x < (n : Int)) (h : d c x.toNat = y) : (zg n x <| zl (d c x.toNat) fun v => some (v, d)) = some (y, d) := by rw [zg_t hx, zl_n, h]
theorem q_ter (h : RC K L D0 d 30 s N) {x : Int} (hx : 0 ≤ x ∧ x < s 0) : f_X11_terminal x 1 d = some (rT s x 1, d) ∧ f_X11_terminal x 2 d = some (rT s x 2, d) ∧ f_X11_terminal x 3 d = some (rT s x 3, d) ∧ f_X11_terminal x 4 d = some (rT s x 4, d) ∧ f_X11_terminal x 5 d = some (rT s x 5, d) ∧ f_X11_terminal x 10 d = some (rT s x 6, d) ∧ f_X11_terminal x 11 d = some (rT s x 7, d) ∧ f_X11_terminal x 12 d = some (rT s x 8, d) ∧ f_X11_terminal x 13 d = some (rT s x 9, d) := by
  obtain ⟨i0, -⟩ := RC_i h
  have c1 := q_has h hx
  obtain ⟨-, -, hQ, -, -, -, -, -, -, -, -, -, -, -, hU, -⟩ := h
  obtain ⟨a1, a2, a3, a4, a5, a6, a7, -⟩ := hQ x hx.1 hx.2
  obtain ⟨u1, u2, u3, -⟩ := hU.2 x hx.1 hx.2
  have h8 : 0 ≤ x ∧ x < ((8 : Nat) : Int) := ⟨hx.1, by omega⟩
  refine ⟨?_, ?_, ?_, ?_, ?_, ?_, ?_, ?_, ?_⟩ <;> (unfold f_X11_terminal; rw [c1, zc_n, if_neg (by decide)])
  · exact q_rd h8 u2
  · exact q_rd h8 u3
  · exact q_rd h8 a1
  · exact q_rd h8 a2
  · exact q_rd h8 a3
  · exact q_rd h8 a4
  · exact q_rd h8 a5
  · exact q_rd h8 a6
  · exact q_rd h8 a7
theorem q_K (h : RC K L D0 d 30 s N) {x r : Int} (hr : 0 ≤ r ∧ r < 3) : K r x = L r x := by
  obtain ⟨-, -, -, -, -, -, -, hKL, -⟩ := h
  obtain ⟨g1, g2, g3⟩ := hKL x
  have hy3 : r = 0 ∨ r = 1 ∨ r = 2 := by omega
  rcases hy3 with rfl | rfl | rfl
  · exact g1
  · exact g2
  · exact g3
theorem q_KR (h : RC K L D0 d 30 s N) : KR K d 30 (s 2) (rM s) := by
  obtain ⟨-, -, -, -, -, hK, -⟩ := h
  exact hK
theorem q_L40 (h : RC K L D0 d 30 s N) {x r : Int} (hr : 0 ≤ r ∧ r < 3) (hx : 0 ≤ x ∧ x < s 0) : ((L r x).length : Int) ≤ 40 := by
  obtain ⟨i0, -, i2, -⟩ := RC_i h
  have := KR_len (q_KR h) (r := r) (x := x) (by omega) i2.2 i2.1
  rw [q_K h hr] at this
  omega
theorem q_len (h : RC K L D0 d 30 s N) {x r : Int} (hr : 0 ≤ r ∧ r < 3) (hx : 0 ≤ x ∧ x < s 0) : f_X11_terminal x (6 + r) d = some (((L r x).length : Int), d) := by
  obtain ⟨i0, -, i2, -⟩ := RC_i h
  have c1 := q_has h hx
  have st : (zl (zw (6 + r - 6)) fun v171 => zc (f_X4_sizeOf 30 v171 x d) fun v173 d => some (v173, d)) = some (((L r x).length : Int), d) := by
    rw [zl_n, show 6 + r - 6 = r by omega, zw_id (by omega) (by omega), KR_size (q_KR h) (by omega), zc_n, q_K h hr]
  have hy3 : r = 0 ∨ r = 1 ∨ r = 2 := by omega
  rcases hy3 with rfl | rfl | rfl <;> (unfold f_X11_terminal; rw [c1, zc_n, if_neg (by decide)]; exact st)
theorem q_msg (h : RC K L D0 d 30 s N) {x : Int} (hx : 0 ≤ x ∧ x < s 2) : f_X11_message x 0 d = some (rM s x 0, d) ∧ f_X11_message x 1 d = some (rM s x 1, d) ∧ f_X11_message x 2 d = some (rM s x 2, d) ∧ f_X11_message x 3 d = some (rM s x 3, d) ∧ f_X11_message x 4 d = some (rM s x 4, d) ∧ f_X11_message x 5 d = some (rM s x 5, d) ∧ f_X11_message x 6 d = some (rM s x 6, d) ∧ f_X11_message x 7 d = some (rM s x 7, d) := by
  obtain ⟨i0, -, i2, -⟩ := RC_i h
  obtain ⟨⟨-, -, -, -, -, -, -, -, sm⟩, -, -, hM, -⟩ := h
  have c1 : f_X3_has 30 x d = some (1, d) := by rw [e_has3, if_pos ⟨hx.1, by rw [sm]; exact hx.2⟩]
  obtain ⟨a0, a1, a2, a4, a5, a6, q7⟩ := hM x hx.1 hx.2
  obtain ⟨a3, a7⟩ := q7 (fun _ _ _ h => by cases h)
  have h8 : 0 ≤ x ∧ x < ((40 : Nat) : Int) := ⟨hx.1, by omega⟩
  refine ⟨?_, ?_, ?_, ?_, ?_, ?_, ?_, ?_⟩ <;> (unfold f_X11_message; rw [c1, zc_n, if_neg (by decide)])
  · exact q_rd h8 a0
  · exact q_rd h8 a1
  · exact q_rd h8 a2
  · exact q_rd h8 a3
  · exact q_rd h8 a4
  · exact q_rd h8 a5
  · exact q_rd h8 a6
  · exact q_rd h8 a7
theorem q_row (h : RC K L D0 d 30 s N) {x r i : Int} (hr : 0 ≤ r ∧ r < 3) (hx : 0 ≤ x ∧ x < s 0) {l1 l2 : List Int} (e : L r x = l1 ++ l2) (hi : i = (l1.length : Int)) : f_X11_inRow x r i d = some (hd1 l2, d) := by
  obtain ⟨i0, -, i2, -⟩ := RC_i h
  have c1 := q_has h hx
  unfold f_X11_inRow
  rw [c1, zc_n, if_neg (by decide), if_neg (by omega), if_pos hr.2]
  cases l2 with
  | nil =>
    have : f_X4_messageAt 30 r x i d = some (-1, d) := by
      unfold f_X4_messageAt
      rw [if_neg (by omega), KR_size (q_KR h) (by omega), zc_n, q_K h hr, e, List.append_nil, if_neg (by omega)]
    rw [this, zc_n]
    rfl
  | cons a l2 =>
    rw [k_messageAt (q_KR h) (by omega) i2 (by rw [q_K h hr]; exact e) hi, zc_n]
    rfl
theorem q_in (h : RC K L D0 d 30 s N) {x r m : Int} (hr : 0 ≤ r ∧ r < 3) (hx : 0 ≤ x ∧ x < s 0) (hm : m ∈ L r x) : 0 ≤ m ∧ m < s 2 := by
  obtain ⟨i0, -⟩ := RC_i h
  exact (RC_own h (x := x) hr (by omega) (by rw [q_K h hr]; exact hm)).1
theorem q_rowMany (h : RC K L D0 d 30 s N) {x r : Int} (hr : 0 ≤ r ∧ r < 3) (hx : 0 ≤ x ∧ x < s 0) : f_L_rowMany x r d = some (((L r x).length : Int), d) := by
  have h40 := q_L40 h hr hx
  have loop : ∀ (l2 l1 : List Int) (q : Nat) (i : Int), L r x = l1 ++ l2 → i = (l1.length : Int) → l2.length < q → l_L_rowMany_2 q x r i d = some (((L r x).length : Int), d) := by
    intro l2
    induction l2 with
    | nil =>
      intro l1 q i e hi hq
      obtain ⟨q, rfl⟩ : ∃ q0, q = q0 + 1 := ⟨q - 1, by omega⟩
      show l_L_rowMany_2F _ x r i d = _
      unfold l_L_rowMany_2F
      rw [q_row h hr hx e hi, zc_n]
      show zx (-1) _ = _
      rw [zx_t (by omega), if_pos (show hd1 [] = -1 from rfl), e, List.append_nil, hi]
    | cons a l2 ih =>
      intro l1 q i e hi hq
      obtain ⟨q, rfl⟩ : ∃ q0, q = q0 + 1 := ⟨q - 1, by omega⟩
      have ha : 0 ≤ a ∧ a < s 2 := q_in h hr hx (by rw [e]; simp)
      obtain ⟨-, -, i2, -⟩ := RC_i h
      have hlen : (L r x).length = l1.length + (l2.length + 1) := by rw [e]; simp
      simp only [List.length_cons] at hq
      show l_L_rowMany_2F _ x r i d = _
      unfold l_L_rowMany_2F
      rw [q_row h hr hx e hi, zc_n]
      show zx a (if a = -1 then _ else _) = _
      rw [zx_t (by omega), if_neg (by omega), zl_n, zw_id (by omega) (by omega)]
      exact ih (l1 ++ [a]) q (i + 1) (by rw [e]; simp) (by simp; omega) (by omega)
  unfold f_L_rowMany
  have := zF_big
  exact loop (L r x) [] zF 0 rfl rfl (by omega)
theorem q_isInRow (h : RC K L D0 d 30 s N) {x r m : Int} (hr : 0 ≤ r ∧ r < 3) (hx : 0 ≤ x ∧ x < s 0) : f_L_isInRow m x r d = some (if m ∈ L r x then 1 else 0, d) := by
  have h40 := q_L40 h hr hx
  have loop : ∀ (l2 l1 : List Int) (q : Nat) (i : Int), L r x = l1 ++ l2 → i = (l1.length : Int) → l2.length < q → l_L_isInRow_3 q m x r i d = some (if m ∈ l2 then 1 else 0, d) := by
    intro l2
    induction l2 with
    | nil =>
      intro l1 q i e hi hq
      obtain ⟨q, rfl⟩ : ∃ q0, q = q0 + 1 := ⟨q - 1, by omega⟩
      show l_L_isInRow_3F _ m x r i d = _
      unfold l_L_isInRow_3F
      rw [zl_n, zw_id (by omega) (by omega), q_len h hr hx, zc_n, zx_t (by omega), if_pos (by rw [e, List.append_nil, hi]; exact Int.le_refl _), if_neg (by simp)]
    | cons a l2 ih =>
      intro l1 q i e hi hq
      obtain ⟨q, rfl⟩ : ∃ q0, q = q0 + 1 := ⟨q - 1, by omega⟩
      have ha : 0 ≤ a ∧ a < s 2 := q_in h hr hx (by rw [e]; simp)
      obtain ⟨-, -, i2, -⟩ := RC_i h
      have hlen : (L r x).length = l1.length + (l2.length + 1) := by rw [e]; simp
      simp only [List.length_cons] at hq
      show l_L_isInRow_3F _ m x r i d = _
      unfold l_L_isInRow_3F
      rw [zl_n, zw_id (by omega) (by omega), q_len h hr hx, zc_n, zx_t (by omega), if_neg (by omega), q_row h hr hx e hi, zc_n]
      show zx a (if a = m then _ else _) = _
      rw [zx_t (by omega)]
      by_cases hm : a = m
      · rw [if_pos hm, if_pos (by rw [hm]; exact List.mem_cons_self)]
      · rw [if_neg hm, zl_n, zw_id (by omega) (by omega), ih (l1 ++ [a]) q (i + 1) (by rw [e]; simp) (by simp; omega) (by omega)]
        have hiff : m ∈ a :: l2 ↔ m ∈ l2 := by
          rw [List.mem_cons]
          exact ⟨fun q => q.resolve_left fun p => hm p.symm, Or.inr⟩
        by_cases hm2 : m ∈ l2
        · rw [if_pos hm2, if_pos (hiff.mpr hm2)]
        · rw [if_neg hm2, if_neg fun q => hm2 (hiff.mp q)]
  unfold f_L_isInRow
  have := zF_big
  exact loop (L r x) [] zF 0 rfl rfl (by omega)
theorem q_count (h : RC K L D0 d 30 s N) : f_X11_count 0 d = some (s 0, d) ∧ f_X11_count 1 d = some (s 1, d) ∧ f_X11_count 2 d = some (s 2, d) ∧ f_X11_count 3 d = some (s 3, d) ∧ f_X11_count 12 d = some (d 8 2, d) := by
  obtain ⟨⟨s8, s9, s10, s11, -, -, -, -, sm⟩, -, -, -, -, -, -, -, -, -, -, -, -, -, hU, -⟩ := h
  refine ⟨?_, ?_, ?_, ?_, rfl⟩
  · exact congrArg (fun z => some (z, d)) hU.1
  · exact congrArg (fun z => some (z, d)) s8
  · exact congrArg (fun z => some (z, d)) sm
  · exact congrArg (fun z => some (z, d)) s9
theorem q_in3 (h : LR d 30 s) {v : Int} (hv : 0 ≤ v ∧ v ≤ 3) : f_X11_count (6 + v) d = some (cSt s v, d) := by
  have st : (zl (zw (6 + v - 6)) fun v129 => zc (f_X3_countIn 30 v129 d) fun v130 d => some (v130, d)) = some (cSt s v, d) := by
    rw [zl_n, show 6 + v - 6 = v by omega, zw_id (by omega) (by omega), k_countIn h, zc_n]
  have hy3 : v = 0 ∨ v = 1 ∨ v = 2 ∨ v = 3 := by omega
  rcases hy3 with rfl | rfl | rfl | rfl <;> exact st
theorem q_account (h : RC K L D0 d 30 s N) {x : Int} (hx : 0 ≤ x ∧ x < 13) : f_X11_account x d = some (s (12 + x).toNat, d) := by
  obtain ⟨-, ⟨-, hA, -⟩, -⟩ := h
  unfold f_X11_account
  rw [if_neg (by omega), if_pos (by omega), zg_t (by omega), zl_n]
  exact congrArg (fun z => some (z, d)) (hA x hx.1 hx.2)
theorem q_setting (h : RC K L D0 d 30 s N) {x : Int} (hx : 0 ≤ x ∧ x < 6) : f_X11_setting x d = some (s (6 + x).toNat, d) := by
  obtain ⟨-, ⟨hA, -, -⟩, -⟩ := h
  unfold f_X11_setting
  rw [if_neg (by omega), if_pos (by omega), zg_t (by omega), zl_n]
  exact congrArg (fun z => some (z, d)) (hA x hx.1 hx.2)
theorem q_often (h : RC K L D0 d 30 s N) {x w : Int} (hx : 0 ≤ x ∧ x < s 0) (hw : 0 ≤ w ∧ w < 4) : f_X11_often x w d = some (rT s x (11 + w), d) := by
  obtain ⟨i0, -⟩ := RC_i h
  have c1 := q_has h hx
  obtain ⟨-, -, hQ, -⟩ := h
  have q := (hQ x hx.1 hx.2).2.2.2.2.2.2.2 w hw.1 hw.2
  unfold f_X11_often f_X8_oftenOf
  rw [c1, zc_n, if_neg (by decide), if_neg (by omega), if_pos (by omega), zl_n, zl_n, zw_id (x := w * 8) (by omega) (by omega), zw_id (by omega) (by omega), if_neg (show ¬ w * 8 + x < 0 by omega), if_neg (show ¬ (32 : Int) ≤ w * 8 + x by omega), zg_t (by omega), zl_n, zc_n]
  exact congrArg (fun z => some (z, d)) q
theorem q_turn (h : RC K L D0 d 30 s N) {x w : Int} (hx : 0 ≤ x ∧ x < s 29) (hw : 0 ≤ w ∧ w < 5) : f_X11_turn x w d = some (s (700 + 5 * (s 29 - 1 - x) + w).toNat, d) := by
  obtain ⟨-, -, -, -, -, -, -, -, -, ⟨g1, g2, g3⟩, ⟨-, -, -, -, -, -, -, -, -, -, -, -, -, -, -, i29, -⟩, -⟩ := h
  have q := g3 x w hx.1 hx.2 hw.1 hw.2
  have hrem := zrem_of (d (30 + 25) 1 - 1 - x + 40) 20 (by omega) (by omega) (by omega) (by omega)
  unfold f_X11_turn f_X10_numberOf
  rw [if_neg (by omega), zl_n, g1, if_pos hx.2, if_neg (by omega), if_pos hw.2, zl_n, zl_n, zw_id (x := d (30 + 25) 1 - 1) (by omega) (by omega), zl_n, zw_id (x := d (30 + 25) 1 - 1 - x) (by omega) (by omega), zl_n, zw_id (x := d (30 + 25) 1 - 1 - x + 40) (by omega) (by omega), zn_20, zl_n, hrem, zl_n, zw_id (x := (d (30 + 25) 1 - 1 - x + 40) % 20 * 5) (by omega) (by omega), zl_n, zw_id (by omega) (by omega), zg_t (by omega), zl_n, zc_n, show d (30 + 25) 1 - 1 - x + 40 = d (30 + 25) 1 + 39 - x by omega]
  exact congrArg (fun z => some (z, d)) q
end ASK
