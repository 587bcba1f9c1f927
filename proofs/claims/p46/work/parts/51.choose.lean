/-! What the host does next. -/
def scn (p : Int → Bool) (a n : Int) : Int → Nat → Int
  | _, 0 => -1
  | i, k + 1 => if p (zrem (zw (a + i)) n) = true then zrem (zw (a + i)) n else scn p a n (i + 1) k
theorem scn_R {a n i : Int} (ha : -1 ≤ a ∧ a ≤ 1000) (hn : 1 ≤ n ∧ n ≤ 16) (hi : 1 ≤ i ∧ i ≤ 1000) : 0 ≤ zrem (zw (a + i)) n ∧ zrem (zw (a + i)) n < n := by
  rw [zw_id (by omega) (by omega), zrem_of _ _ (by omega) (by omega) (by omega) (by omega)]
  exact ⟨Int.emod_nonneg _ (by omega), Int.emod_lt_of_pos _ (by omega)⟩
theorem scn_in {p : Int → Bool} {a n : Int} (ha : -1 ≤ a ∧ a ≤ 1000) (hn : 0 ≤ n ∧ n ≤ 16) : ∀ (k : Nat) {i : Int}, 1 ≤ i → i + k = n + 1 → scn p a n i k = -1 ∨ (0 ≤ scn p a n i k ∧ scn p a n i k < n) ∧ p (scn p a n i k) = true := by
  intro k
  induction k with
  | zero => intro i _ _; exact Or.inl rfl
  | succ k ih =>
    intro i h1 h2
    unfold scn
    by_cases hp : p (zrem (zw (a + i)) n) = true
    · rw [if_pos hp]
      exact Or.inr ⟨scn_R ha (by omega) (by omega), hp⟩
    · rw [if_neg hp]
      exact ih (by omega) (by omega)
section CHOOSE
variable {K L : Int → Int → List Int} {D : Int → List Int} {d : zD} {b : Nat} {s : Nat → Int} {N : Int}
theorem RC_g {d' : zD} {g : Nat} (h : RC K L D d b s N) (hg : 6 ≤ g ∧ g < b) (e : ∀ c, c ≠ g → d' c = d c) : RC K L D d' b s N := by
  obtain ⟨hS, hA, hQ, hM, hD, hK, hL, hKL, hP, hG, hI, hIL, hIT, hIM, hU, hb⟩ := h
  refine ⟨?_, ?_, RQ_d hQ fun c _ _ => e c (by omega), RM_d hM fun c _ _ => e c (by omega), RD_d hD (e _ (by omega)), KR_d hK fun c _ _ => e c (by omega), hL, hKL, hP, RG_d hG (e _ (by omega)) (e _ (by omega)), hI, hIL, hIT, hIM, RU_d hU fun c _ _ => e c (by omega), hb⟩
  · unfold RS
    rw [e b (by omega), e (b + 1) (by omega)]
    exact hS
  · unfold RA
    rw [e (b + 27) (by omega), e (b + 28) (by omega), e (b + 29) (by omega)]
    exact hA
theorem e_has6 {x : Int} {d : zD} {c : Nat} : f_X6_has c x d = some (if 0 ≤ x ∧ x < d c 0 then 1 else 0, d) := by
  unfold f_X6_has
  by_cases h1 : x < 0
  · rw [if_pos h1, if_neg (by omega)]
  · rw [if_neg h1, zl_n]
    by_cases h2 : d c 0 ≤ x
    · rw [if_pos h2, if_neg (by omega)]
    · rw [if_neg h2, if_pos (by omega)]
theorem e_hasPlace {x : Int} {d : zD} {c : Nat} : f_X2_hasPlace c x d = some (if 0 ≤ x ∧ x < d c 8 then 1 else 0, d) := by
  unfold f_X2_hasPlace
  by_cases h1 : x < 0
  · rw [if_pos h1, if_neg (by omega)]
  · rw [if_neg h1, zl_n]
    by_cases h2 : d c 8 ≤ x
    · rw [if_pos h2, if_neg (by omega)]
    · rw [if_neg h2, if_pos (by omega)]
theorem RC_j (h : RC K L D d b s N) : (1 ≤ s 0 ∧ s 0 ≤ 8) ∧ (0 ≤ s 1 ∧ s 1 ≤ 16) ∧ (-1 ≤ s 26 ∧ s 26 < 16) ∧ (-1 ≤ s 27 ∧ s 27 < s 0) ∧ (-1 ≤ s 28 ∧ s 28 < s 0) := by
  obtain ⟨-, -, -, -, -, -, -, -, -, -, ⟨i0, i1, -, -, -, -, -, -, -, -, -, -, i26, i27, i28, -⟩, -⟩ := h
  exact ⟨i0, i1, i26, i27, i28⟩
theorem e_isOn {x : Int} (h : RC K L D d b s N) (hx : 0 ≤ x ∧ x < s 0) : f_X2_isOn b x d = some (if rT s x 4 = 1 then 1 else 0, d) := by
  obtain ⟨i0, -⟩ := RC_j h
  obtain ⟨-, -, hQ, -, -, -, -, -, -, -, -, -, -, -, hU, -⟩ := h
  have hu := hU.1
  unfold f_X2_isOn
  rw [e_has6, zc_n, if_pos (show 0 ≤ x ∧ x < d 1 0 by omega), if_neg (show ¬ (1 : Int) = 0 by decide), zg_t (by omega), zl_n, (hQ x hx.1 hx.2).2.1]
  split <;> rfl
theorem k_test {g : Nat} (h : RC K L D d b s N) : ∀ (k q : Nat) {i : Int}, 1 ≤ i → i + k = s 0 + 1 → k < q → l_X1_nextToTest_36 g b q (s 0) i d = some (scn (fun x => decide (rT s x 4 = 0)) (s 28) (s 0) i k, d) := by
  obtain ⟨i0, i1, i26, i27, i28⟩ := RC_j h
  have hh := h
  obtain ⟨⟨-, -, -, -, s12, -⟩, -, hQ, -⟩ := hh
  intro k
  induction k with
  | zero =>
    intro q i h1 h2 hq
    obtain ⟨q, rfl⟩ : ∃ q', q = q' + 1 := ⟨q - 1, by omega⟩
    show l_X1_nextToTest_36F g b _ (s 0) i d = _
    unfold l_X1_nextToTest_36F
    rw [if_pos (by omega)]
    rfl
  | succ k ih =>
    intro q i h1 h2 hq
    obtain ⟨q, rfl⟩ : ∃ q', q = q' + 1 := ⟨q - 1, by omega⟩
    have hr := scn_R (a := s 28) (n := s 0) (i := i) (by omega) (by omega) (by omega)
    show l_X1_nextToTest_36F g b _ (s 0) i d = _
    unfold l_X1_nextToTest_36F scn
    rw [if_neg (by omega), zl_n, s12, zl_n, zn_t (by omega), zl_n, zg_t (by omega), zl_n, (hQ _ hr.1 hr.2).2.1]
    by_cases hp : rT s (zrem (zw (s 28 + i)) (s 0)) 4 = 0
    · rw [if_pos hp, if_pos (decide_eq_true hp)]
    · rw [if_neg hp, if_neg (fun q => hp (of_decide_eq_true q)), zl_n, zw_id (by omega) (by omega), ih q (by omega) (by omega) (by omega)]
theorem m_test {ds : zD} (h : RC K L D d b s N) (e : ∀ k, k ≠ 4 → ds 401 k = s k) (eT : rT (ds 401) = rT s) : ∀ (k q : Nat) {i : Int}, 1 ≤ i → i + k = s 0 + 1 → k < q → l_X12_nextOff_2 q i ds = some (scn (fun x => decide (rT s x 4 = 0)) (s 28) (s 0) i k, ds) := by
  obtain ⟨i0, i1, i26, i27, i28⟩ := RC_j h
  intro k
  induction k with
  | zero =>
    intro q i h1 h2 hq
    obtain ⟨q, rfl⟩ : ∃ q', q = q' + 1 := ⟨q - 1, by omega⟩
    show l_X12_nextOff_2F _ i ds = _
    unfold l_X12_nextOff_2F
    rw [e_many, zc_n, e 0 (by omega), if_pos (by omega)]
    rfl
  | succ k ih =>
    intro q i h1 h2 hq
    obtain ⟨q, rfl⟩ : ∃ q', q = q' + 1 := ⟨q - 1, by omega⟩
    have hr := scn_R (a := s 28) (n := s 0) (i := i) (by omega) (by omega) (by omega)
    show l_X12_nextOff_2F _ i ds = _
    unfold l_X12_nextOff_2F scn
    have e28 : ds 401 (28 : Int).toNat = s 28 := e 28 (by omega)
    rw [e_many, zc_n, e 0 (by omega), if_neg (by omega), zg_t (by omega), zl_n, e28, zl_n, e_many, zc_n, e 0 (by omega), zn_t (by omega), zl_n, e_of (by omega) (by omega), zc_n, eT]
    by_cases hp : rT s (zrem (zw (s 28 + i)) (s 0)) 4 = 0
    · rw [if_pos hp, if_pos (decide_eq_true hp)]
    · rw [if_neg hp, if_neg (fun q => hp (of_decide_eq_true q)), zl_n, zw_id (by omega) (by omega), ih q (by omega) (by omega) (by omega)]
theorem k_sel {g : Nat} (h : RC K L D d b s N) : ∀ (k q : Nat) {i : Int}, 1 ≤ i → i + k = s 0 + 1 → k < q → l_X1_nextToSelect_13 g b q (s 0) i d = some (scn (fun x => decide (rT s x 4 = 1) && decide (L 1 x ≠ [])) (s 27) (s 0) i k, d) := by
  obtain ⟨i0, i1, i26, i27, i28⟩ := RC_j h
  have hh := h
  obtain ⟨⟨-, -, -, -, -, s13, -⟩, -, -, -, -, hK, -, hKL, -⟩ := hh
  intro k
  induction k with
  | zero =>
    intro q i h1 h2 hq
    obtain ⟨q, rfl⟩ : ∃ q', q = q' + 1 := ⟨q - 1, by omega⟩
    show l_X1_nextToSelect_13F g b _ (s 0) i d = _
    unfold l_X1_nextToSelect_13F
    rw [if_pos (by omega)]
    rfl
  | succ k ih =>
    intro q i h1 h2 hq
    obtain ⟨q, rfl⟩ : ∃ q', q = q' + 1 := ⟨q - 1, by omega⟩
    have hr := scn_R (a := s 27) (n := s 0) (i := i) (by omega) (by omega) (by omega)
    show l_X1_nextToSelect_13F g b _ (s 0) i d = _
    unfold l_X1_nextToSelect_13F scn
    rw [if_neg (by omega), zl_n, s13, zl_n, zn_t (by omega), zl_n, e_isOn h hr, zc_n]
    by_cases hp : rT s (zrem (zw (s 27 + i)) (s 0)) 4 = 1
    · rw [if_pos hp, if_neg (show ¬ (1 : Int) = 0 by decide), KR_size hK (by omega), zc_n, (hKL _).2.1]
      by_cases hp2 : L 1 (zrem (zw (s 27 + i)) (s 0)) = []
      · rw [if_pos (by rw [hp2]; exact Int.le_refl _), if_neg (by simp [hp2]), zl_n, zw_id (by omega) (by omega), ih q (by omega) (by omega) (by omega)]
      · have := List.length_pos_iff.mpr hp2
        rw [if_neg (by omega), if_pos (by simp [hp, hp2])]
    · rw [if_neg hp, if_pos rfl, if_neg (by simp [hp]), zl_n, zw_id (by omega) (by omega), ih q (by omega) (by omega) (by omega)]
theorem m_sel {ds : zD} (h : RC K L D d b s N) (e : ∀ k, k ≠ 4 → ds 401 k = s k) (eT : rT (ds 401) = rT s) (eM : rM (ds 401) = rM s) : ∀ (k q : Nat) {i : Int}, 1 ≤ i → i + k = s 0 + 1 → k < q → l_X12_nextSelected_2 q i ds = some (scn (fun x => decide (rT s x 4 = 1) && decide (L 1 x ≠ [])) (s 27) (s 0) i k, ds) := by
  obtain ⟨i0, i1, i26, i27, i28⟩ := RC_j h
  obtain ⟨-, -, i4, -⟩ := RC_i h
  have hh := h
  obtain ⟨-, -, -, -, -, -, hL, -⟩ := hh
  intro k
  induction k with
  | zero =>
    intro q i h1 h2 hq
    obtain ⟨q, rfl⟩ : ∃ q', q = q' + 1 := ⟨q - 1, by omega⟩
    show l_X12_nextSelected_2F _ i ds = _
    unfold l_X12_nextSelected_2F
    rw [e_many, zc_n, e 0 (by omega), if_pos (by omega)]
    rfl
  | succ k ih =>
    intro q i h1 h2 hq
    obtain ⟨q, rfl⟩ : ∃ q', q = q' + 1 := ⟨q - 1, by omega⟩
    have hr := scn_R (a := s 27) (n := s 0) (i := i) (by omega) (by omega) (by omega)
    show l_X12_nextSelected_2F _ i ds = _
    unfold l_X12_nextSelected_2F scn
    have e27 : ds 401 (27 : Int).toNat = s 27 := e 27 (by omega)
    rw [e_many, zc_n, e 0 (by omega), if_neg (by omega), zg_t (by omega), zl_n, e27, zl_n, e_many, zc_n, e 0 (by omega), zn_t (by omega), zl_n, e_of (by omega) (by omega), zc_n, eT]
    by_cases hp : rT s (zrem (zw (s 27 + i)) (s 0)) 4 = 1
    · have hl := hL 1 _ (by omega) (by omega) hr.1 (by omega : zrem (zw (s 27 + i)) (s 0) < 8)
      rw [if_pos hp, e_inRowMany (by rw [e 2 (by omega)]; exact i4), zc_n, e 2 (by omega), eM, rwl_many hl i4.1]
      by_cases hp2 : L 1 (zrem (zw (s 27 + i)) (s 0)) = []
      · rw [if_pos (by rw [hp2]; exact Int.le_refl _), if_neg (by simp [hp2]), zl_n, zw_id (by omega) (by omega), ih q (by omega) (by omega) (by omega)]
      · have := List.length_pos_iff.mpr hp2
        rw [if_neg (by omega), if_pos (by simp [hp, hp2])]
    · rw [if_neg hp, if_neg (by simp [hp]), zl_n, zw_id (by omega) (by omega), ih q (by omega) (by omega) (by omega)]
theorem k_place {g : Nat} {a : Int} (h : RC K L D d b s N) (ha : -1 ≤ a ∧ a < 16) : ∀ (k q : Nat) {i : Int}, 1 ≤ i → i + k = s 1 + 1 → k < q → l_X1_nextPlace_35 g b q (s 1) a i d = some (scn (fun x => decide (rT s (s (30 + x).toNat) 4 = 1)) a (s 1) i k, d) := by
  obtain ⟨i0, i1, i26, i27, i28⟩ := RC_j h
  have hh := h
  obtain ⟨-, ⟨-, -, hA⟩, -, -, -, -, -, -, -, -, -, hIL, -⟩ := hh
  intro k
  induction k with
  | zero =>
    intro q i h1 h2 hq
    obtain ⟨q, rfl⟩ : ∃ q', q = q' + 1 := ⟨q - 1, by omega⟩
    show l_X1_nextPlace_35F g b _ (s 1) a i d = _
    unfold l_X1_nextPlace_35F
    rw [if_pos (by omega)]
    rfl
  | succ k ih =>
    intro q i h1 h2 hq
    obtain ⟨q, rfl⟩ : ∃ q', q = q' + 1 := ⟨q - 1, by omega⟩
    have hr := scn_R (a := a) (n := s 1) (i := i) (by omega) (by omega) (by omega)
    show l_X1_nextPlace_35F g b _ (s 1) a i d = _
    unfold l_X1_nextPlace_35F scn
    rw [if_neg (by omega), zl_n, zn_t (by omega), zl_n, zg_t (by omega), zl_n, hA _ hr.1 hr.2, e_isOn h (hIL _ hr.1 hr.2), zc_n]
    by_cases hp : rT s (s (30 + zrem (zw (a + i)) (s 1)).toNat) 4 = 1
    · rw [if_pos hp, if_neg (show ¬ (1 : Int) = 0 by decide), if_pos (decide_eq_true hp)]
    · rw [if_neg hp, if_pos rfl, if_neg (fun q => hp (of_decide_eq_true q)), zl_n, zw_id (by omega) (by omega), ih q (by omega) (by omega) (by omega)]
theorem m_place {ds : zD} {a : Int} (h : RC K L D d b s N) (e : ∀ k, k ≠ 4 → ds 401 k = s k) (eT : rT (ds 401) = rT s) (ha : -1 ≤ a ∧ a < 16) : ∀ (k q : Nat) {i : Int}, 1 ≤ i → i + k = s 1 + 1 → k < q → l_X12_nextPlace_34 q (s 1) a i ds = some (scn (fun x => decide (rT s (s (30 + x).toNat) 4 = 1)) a (s 1) i k, ds) := by
  obtain ⟨i0, i1, i26, i27, i28⟩ := RC_j h
  have hh := h
  obtain ⟨-, -, -, -, -, -, -, -, -, -, -, hIL, -⟩ := hh
  intro k
  induction k with
  | zero =>
    intro q i h1 h2 hq
    obtain ⟨q, rfl⟩ : ∃ q', q = q' + 1 := ⟨q - 1, by omega⟩
    show l_X12_nextPlace_34F _ (s 1) a i ds = _
    unfold l_X12_nextPlace_34F
    rw [if_pos (by omega)]
    rfl
  | succ k ih =>
    intro q i h1 h2 hq
    obtain ⟨q, rfl⟩ : ∃ q', q = q' + 1 := ⟨q - 1, by omega⟩
    have hr := scn_R (a := a) (n := s 1) (i := i) (by omega) (by omega) (by omega)
    have hl := hIL _ hr.1 hr.2
    show l_X12_nextPlace_34F _ (s 1) a i ds = _
    unfold l_X12_nextPlace_34F scn
    rw [if_neg (by omega), zl_n, zn_t (by omega), zl_n, zl_n, zw_id (x := 30 + zrem (zw (a + i)) (s 1)) (by omega) (by omega), zg_t (by omega), zl_n, e _ (by omega), e_of (by omega) (by omega), zc_n, eT]
    by_cases hp : rT s (s (30 + zrem (zw (a + i)) (s 1)).toNat) 4 = 1
    · rw [if_pos hp, if_pos (decide_eq_true hp)]
    · rw [if_neg hp, if_neg (fun q => hp (of_decide_eq_true q)), zl_n, zw_id (by omega) (by omega), ih q (by omega) (by omega) (by omega)]
def cT (s : Nat → Int) (t : Int) : Int := if s 9 ≤ 0 then -1 else if zrem t (s 9) = 0 then scn (fun x => decide (rT s x 4 = 0)) (s 28) (s 0) 1 (s 0).toNat else -1
def cE (L : Int → Int → List Int) (s : Nat → Int) : Int := scn (fun x => decide (rT s x 4 = 1) && decide (L 1 x ≠ [])) (s 27) (s 0) 1 (s 0).toNat
def cP (s : Nat → Int) : Int := scn (fun x => decide (rT s (s (30 + x).toNat) 4 = 1)) (if s 1 ≤ s 26 then s 1 - 1 else s 26) (s 1) 1 (s 1).toNat
theorem cT_in (h : RC K L D d b s N) (t : Int) : cT s t = -1 ∨ (0 ≤ cT s t ∧ cT s t < s 0) ∧ rT s (cT s t) 4 = 0 := by
  obtain ⟨i0, i1, i26, i27, i28⟩ := RC_j h
  unfold cT
  split
  · exact Or.inl rfl
  · split
    · rcases scn_in (p := fun x => decide (rT s x 4 = 0)) (a := s 28) (n := s 0) (by omega) (by omega) (s 0).toNat (i := 1) (by omega) (by omega) with h1 | h1
      · exact Or.inl h1
      · exact Or.inr ⟨h1.1, of_decide_eq_true h1.2⟩
    · exact Or.inl rfl
theorem cE_in (h : RC K L D d b s N) : cE L s = -1 ∨ (0 ≤ cE L s ∧ cE L s < s 0) ∧ rT s (cE L s) 4 = 1 ∧ L 1 (cE L s) ≠ [] := by
  obtain ⟨i0, i1, i26, i27, i28⟩ := RC_j h
  unfold cE
  rcases scn_in (p := fun x => decide (rT s x 4 = 1) && decide (L 1 x ≠ [])) (a := s 27) (n := s 0) (by omega) (by omega) (s 0).toNat (i := 1) (by omega) (by omega) with h1 | h1
  · exact Or.inl h1
  · refine Or.inr ⟨h1.1, ?_⟩
    have := h1.2
    simp only [Bool.and_eq_true, decide_eq_true_eq] at this
    exact this
theorem cP_in (h : RC K L D d b s N) : cP s = -1 ∨ (0 ≤ cP s ∧ cP s < s 1) ∧ rT s (s (30 + cP s).toNat) 4 = 1 := by
  obtain ⟨i0, i1, i26, i27, i28⟩ := RC_j h
  unfold cP
  rcases scn_in (p := fun x => decide (rT s (s (30 + x).toNat) 4 = 1)) (a := if s 1 ≤ s 26 then s 1 - 1 else s 26) (n := s 1) (by split <;> omega) (by omega) (s 1).toNat (i := 1) (by omega) (by omega) with h1 | h1
  · exact Or.inl h1
  · exact Or.inr ⟨h1.1, of_decide_eq_true h1.2⟩
theorem k_nextToTest {g : Nat} {t : Int} (h : RC K L D d b s N) : f_X1_nextToTest g b t d = some (cT s t, d) := by
  obtain ⟨i0, i1, i26, i27, i28⟩ := RC_j h
  have hh := h
  obtain ⟨-, ⟨aS, -⟩, -, -, -, -, -, -, -, -, -, -, -, -, hU, -⟩ := hh
  have a3 : d (b + 27) (3 : Int).toNat = s 9 := aS 3 (by omega) (by omega)
  unfold f_X1_nextToTest cT
  rw [zg_t (by omega), zl_n, a3]
  by_cases h1 : s 9 ≤ 0
  · rw [if_pos h1, if_pos h1]
  · rw [if_neg h1, if_neg h1, zn_t (by omega), zl_n]
    by_cases h2 : zrem t (s 9) = 0
    · rw [if_pos h2, if_pos h2, zl_n, hU.1]
      exact k_test h _ _ (by omega) (by omega) (by have := zF_big; omega)
    · rw [if_neg h2, if_neg h2]
theorem k_nextToSelect {g : Nat} (h : RC K L D d b s N) : f_X1_nextToSelect g b d = some (cE L s, d) := by
  obtain ⟨i0, i1, i26, i27, i28⟩ := RC_j h
  have hh := h
  obtain ⟨-, -, -, -, -, -, -, -, -, -, -, -, -, -, hU, -⟩ := hh
  unfold f_X1_nextToSelect cE
  rw [zl_n, hU.1]
  exact k_sel h _ _ (by omega) (by omega) (by have := zF_big; omega)
theorem k_nextPlace {g : Nat} (h : RC K L D d b s N) : f_X1_nextPlace g b d = some (cP s, d) := by
  obtain ⟨i0, i1, i26, i27, i28⟩ := RC_j h
  have hh := h
  obtain ⟨⟨s8, -, -, -, -, -, s14, -⟩, -⟩ := hh
  unfold f_X1_nextPlace cP j_X1_nextPlace_32
  rw [zl_n, zl_n, s8, s14]
  by_cases h1 : s 1 ≤ s 26
  · rw [if_pos h1, if_pos h1, zl_n, zw_id (by omega) (by omega)]
    exact k_place h (by omega) _ _ (by omega) (by omega) (by have := zF_big; omega)
  · rw [if_neg h1, if_neg h1, zl_n]
    exact k_place h (by omega) _ _ (by omega) (by omega) (by have := zF_big; omega)
theorem m_nextPlace {ds : zD} (h : RC K L D d b s N) (e : ∀ k, k ≠ 4 → ds 401 k = s k) (eT : rT (ds 401) = rT s) : f_X12_nextPlace ds = some (cP s, ds) := by
  obtain ⟨i0, i1, i26, i27, i28⟩ := RC_j h
  have e1 : ds 401 (1 : Int).toNat = s 1 := e 1 (by omega)
  have e26 : ds 401 (26 : Int).toNat = s 26 := e 26 (by omega)
  unfold f_X12_nextPlace cP j_X12_nextPlace_31
  rw [zg_t (by omega), zl_n, zg_t (by omega), zl_n, e1, e26]
  by_cases h1 : s 1 ≤ s 26
  · rw [if_pos h1, if_pos h1, zl_n, zw_id (by omega) (by omega)]
    exact m_place h e eT (by omega) _ _ (by omega) (by omega) (by have := zF_big; omega)
  · rw [if_neg h1, if_neg h1, zg_t (by omega), zl_n]
    exact m_place h e eT (by omega) _ _ (by omega) (by omega) (by have := zF_big; omega)
/-- kind and terminal of a turn -/
def cK (L : Int → Int → List Int) (s : Nat → Int) (t : Int) : Int := if cT s t = -1 then (if s 25 < s 10 ∧ cE L s ≠ -1 then 1 else if cP s = -1 then (if cE L s = -1 then 3 else 1) else 0) else 2
def cX (L : Int → Int → List Int) (s : Nat → Int) (t : Int) : Int := if cT s t = -1 then (if s 25 < s 10 ∧ cE L s ≠ -1 then cE L s else if cP s = -1 then cE L s else s (30 + cP s).toNat) else cT s t
theorem k_choose {g : Nat} {t : Int} (h : RC K L D d b s N) (hg : 6 ≤ g ∧ g < b) : ∃ d', f_X1_choose g b t d = some (0, d') ∧ (∀ c, c ≠ g → d' c = d c) ∧ d' g 1 = cK L s t ∧ d' g 2 = cX L s t ∧ (cK L s t = 0 → d' g 3 = cP s) := by
  obtain ⟨i0, i1, i26, i27, i28⟩ := RC_j h
  have hh := h
  obtain ⟨⟨s8, -, -, -, -, -, -, s15, -⟩, ⟨aS, -, aL⟩, -, -, -, -, -, -, -, -, -, hIL, -⟩ := hh
  have a4 : d (b + 27) (4 : Int).toNat = s 10 := aS 4 (by omega) (by omega)
  have hgg : ∀ {i : Nat} {v : Int} {dd : zD}, (∀ c, c ≠ g → dd c = d c) → ∀ c, c ≠ g → zu dd g i v c = d c := fun hd c hc => (zu_row hc).trans (hd c hc)
  have hrc : ∀ {dd : zD}, (∀ c, c ≠ g → dd c = d c) → RC K L D dd b s N := fun hd => RC_g h hg hd
  have hpi := cP_in h
  have hei := cE_in h
  -- the end: nothing to do
  have n124 : ∀ dd : zD, dd g 2 ≠ -1 → j_X1_choose_130 g b dd = some (0, dd) := fun dd h1 => by
    unfold j_X1_choose_130
    rw [zl_n, if_neg h1]
  have n103 : ∀ dd : zD, dd g 2 ≠ -1 → j_X1_choose_109 g b dd = some (0, dd) := fun dd h1 => by
    unfold j_X1_choose_109
    rw [zl_n, if_neg h1, n124 dd h1]
  have n54 : ∀ dd : zD, dd g 2 ≠ -1 → j_X1_choose_54 g b dd = some (0, dd) := fun dd h1 => by
    unfold j_X1_choose_54
    rw [zl_n, if_neg h1, n103 dd h1]
  -- a place or a select
  have y54 : ∀ dd : zD, (∀ c, c ≠ g → dd c = d c) → dd g 2 = -1 → ∃ d', j_X1_choose_54 g b dd = some (0, d') ∧ (∀ c, c ≠ g → d' c = d c) ∧ d' g 1 = (if cP s = -1 then (if cE L s = -1 then 3 else 1) else 0) ∧ d' g 2 = (if cP s = -1 then cE L s else s (30 + cP s).toNat) ∧ (cP s ≠ -1 → d' g 3 = cP s) := fun dd hd h2 => by
    unfold j_X1_choose_54
    rw [zl_n, if_pos h2, zl_n, k_nextPlace (hrc (hgg hd)), zc_n, zl_n, zl_n, zu_q, e_hasPlace, zc_n]
    by_cases hp : cP s = -1
    · rw [if_neg (show ¬ (0 ≤ cP s ∧ cP s < (zu (zu dd g 1 0) g 3 (cP s)) b 8) by omega), if_pos rfl]
      unfold j_X1_choose_106 j_X1_choose_109
      rw [zl_n, zl_n, zu_q, if_pos rfl, zl_n, k_nextToSelect (hrc (hgg (hgg (hgg (hgg hd))))), zc_n, zl_n]
      unfold j_X1_choose_130
      rw [zl_n, zu_q]
      by_cases he : cE L s = -1
      · rw [if_pos he, zl_n]
        refine ⟨_, rfl, hgg (hgg (hgg (hgg (hgg (hgg hd))))), ?_, ?_, fun q => absurd hp q⟩
        · rw [zu_q, if_pos hp, if_pos he]
        · rw [zu_ne (by omega), zu_q, if_pos hp]
      · rw [if_neg he]
        refine ⟨_, rfl, hgg (hgg (hgg (hgg (hgg hd)))), ?_, ?_, fun q => absurd hp q⟩
        · rw [zu_ne (by omega), zu_q, if_pos hp, if_neg he]
        · rw [zu_q, if_pos hp]
    · have hpr := hpi.resolve_left hp
      have hl := hIL _ hpr.1.1 hpr.1.2
      have e29 : (zu (zu dd g 1 0) g 3 (cP s)) (b + 29) (cP s).toNat = s (30 + cP s).toNat := by
        rw [zu_o (by omega), zu_o (by omega), hd _ (by omega)]
        exact aL _ hpr.1.1 hpr.1.2
      have e8 : (zu (zu dd g 1 0) g 3 (cP s)) b 8 = s 1 := by
        rw [zu_o (by omega), zu_o (by omega), hd _ (by omega)]
        exact s8
      rw [if_pos (show 0 ≤ cP s ∧ cP s < (zu (zu dd g 1 0) g 3 (cP s)) b 8 by rw [e8]; exact hpr.1), if_neg (show ¬ (1 : Int) = 0 by decide), zl_n, zu_q, zg_t (by omega), zl_n, e29]
      unfold j_X1_choose_106
      rw [zl_n, n103 _ (by rw [zu_q]; omega)]
      refine ⟨_, rfl, hgg (hgg (hgg hd)), ?_, ?_, fun _ => ?_⟩
      · rw [zu_ne (by omega), zu_ne (by omega), zu_q, if_neg hp]
      · rw [zu_q, if_neg hp]
      · rw [zu_ne (by omega), zu_q]
  unfold f_X1_choose
  rw [zl_n, k_nextToTest (hrc (hgg fun _ _ => rfl)), zc_n, zl_n, zl_n, zu_q]
  by_cases ht : cT s t = -1
  · unfold cK cX
    rw [if_pos ht, if_pos ht, if_pos ht, zl_n, zg_t (by omega), zl_n, zu_o (by omega), zu_o (by omega), a4, zu_o (by omega), zu_o (by omega), s15]
    by_cases hb : s 10 ≤ s 25
    · have hnb : ¬ (s 25 < s 10 ∧ cE L s ≠ -1) := fun q => by omega
      rw [if_pos hb, if_neg hnb, if_neg hnb]
      obtain ⟨d', r1, r2, r3, r4, r5⟩ := y54 (zu (zu d g 1 2) g 2 (cT s t)) (hgg (hgg fun _ _ => rfl)) (by rw [zu_q, ht])
      refine ⟨d', r1, r2, r3, r4, fun q => r5 fun hp => ?_⟩
      rw [if_pos hp] at q
      split at q <;> omega
    · rw [if_neg hb, zl_n, k_nextToSelect (hrc (hgg (hgg (hgg fun _ _ => rfl)))), zc_n, zl_n]
      by_cases he : cE L s = -1
      · have hnb : ¬ (s 25 < s 10 ∧ cE L s ≠ -1) := fun q => q.2 he
        rw [if_neg hnb, if_neg hnb]
        obtain ⟨d', r1, r2, r3, r4, r5⟩ := y54 (zu (zu (zu (zu d g 1 2) g 2 (cT s t)) g 1 1) g 2 (cE L s)) (hgg (hgg (hgg (hgg fun _ _ => rfl)))) (by rw [zu_q, he])
        refine ⟨d', r1, r2, r3, r4, fun q => r5 fun hp => ?_⟩
        rw [if_pos hp] at q
        split at q <;> omega
      · have hnb : s 25 < s 10 ∧ cE L s ≠ -1 := ⟨by omega, he⟩
        rw [if_pos hnb, if_pos hnb, n54 _ (by rw [zu_q]; exact he)]
        refine ⟨_, rfl, hgg (hgg (hgg (hgg fun _ _ => rfl))), ?_, ?_, fun q => by omega⟩
        · rw [zu_ne (by omega), zu_q]
        · rw [zu_q]
  · unfold cK cX
    rw [if_neg ht, if_neg ht, if_neg ht, n54 _ (by rw [zu_q]; exact ht)]
    refine ⟨_, rfl, hgg (hgg fun _ _ => rfl), ?_, ?_, fun q => by omega⟩
    · rw [zu_ne (by omega), zu_q]
    · rw [zu_q]
theorem m_next {ds : zD} (h : RC K L D d b s N) (e : ∀ k, k ≠ 4 → ds 401 k = s k) (e4 : 0 ≤ ds 401 4 ∧ ds 401 4 ≤ 30000) : ∃ ds', f_X12_next ds = some (cK L s (ds 401 4 + 1), ds') ∧ (∀ c, c ≠ 400 → ds' c = ds c) ∧ (∀ j, j ≠ 8 → j ≠ 9 → ds' 400 j = ds 400 j) ∧ ds' 400 8 = cX L s (ds 401 4 + 1) ∧ (cK L s (ds 401 4 + 1) = 0 → ds' 400 9 = cP s) := by
  obtain ⟨i0, i1, i26, i27, i28⟩ := RC_j h
  have hpi := cP_in h
  have hh := h
  obtain ⟨-, -, -, -, -, -, -, -, -, -, -, hIL, -⟩ := hh
  have hTf : ∀ {dd : zD}, (∀ c, c ≠ 400 → dd c = ds c) → rT (dd 401) = rT s ∧ rM (dd 401) = rM s ∧ (∀ k, k ≠ 4 → dd 401 k = s k) := fun {dd} hd => by
    have e1 : ∀ k, k ≠ 4 → dd 401 k = s k := fun k hk => by rw [hd 401 (by omega)]; exact e k hk
    refine ⟨?_, ?_, e1⟩
    · funext y u
      unfold rT
      split
      · rw [e1 _ (by omega)]
      · rfl
    · funext y u
      unfold rM
      split
      · rw [e1 _ (by omega)]
      · rfl
  have hgg : ∀ {i : Nat} {v : Int} {dd : zD}, (∀ c, c ≠ 400 → dd c = ds c) → ∀ c, c ≠ 400 → zu dd 400 i v c = ds c := fun hd c hc => (zu_row hc).trans (hd c hc)
  have hsel : ∀ {dd : zD}, (∀ c, c ≠ 400 → dd c = ds c) → f_X12_nextSelected dd = some (cE L s, dd) := fun {dd} hd => by
    obtain ⟨g1, g2, g3⟩ := hTf hd
    exact m_sel h g3 g1 g2 _ _ (by omega) (by omega) (by have := zF_big; omega)
  have hpl : ∀ {dd : zD}, (∀ c, c ≠ 400 → dd c = ds c) → f_X12_nextPlace dd = some (cP s, dd) := fun {dd} hd => by
    obtain ⟨g1, g2, g3⟩ := hTf hd
    exact m_nextPlace h g3 g1
  have hoff : ∀ {dd : zD}, (∀ c, c ≠ 400 → dd c = ds c) → f_X12_nextOff dd = some (scn (fun x => decide (rT s x 4 = 0)) (s 28) (s 0) 1 (s 0).toNat, dd) := fun {dd} hd => by
    obtain ⟨g1, g2, g3⟩ := hTf hd
    exact m_test h g3 g1 _ _ (by omega) (by omega) (by have := zF_big; omega)
  have y88 : ∀ dd : zD, (∀ c, c ≠ 400 → dd c = ds c) → (∀ j, j ≠ 8 → j ≠ 9 → dd 400 j = ds 400 j) → dd 400 8 = cE L s → ∃ ds', j_X12_next_88 (cE L s) dd = some (if cP s = -1 then (if cE L s = -1 then 3 else 1) else 0, ds') ∧ (∀ c, c ≠ 400 → ds' c = ds c) ∧ (∀ j, j ≠ 8 → j ≠ 9 → ds' 400 j = ds 400 j) ∧ ds' 400 8 = (if cP s = -1 then cE L s else s (30 + cP s).toNat) ∧ (cP s ≠ -1 → ds' 400 9 = cP s) := fun dd hd hj h8 => by
    unfold j_X12_next_88
    rw [hpl hd, zc_n, zl_n, zl_n, zu_q]
    by_cases hp : cP s = -1
    · rw [if_pos hp, if_pos hp, if_pos hp]
      by_cases he : cE L s = -1
      · rw [if_pos he, if_pos he]
        exact ⟨_, rfl, hgg hd, fun j j1 j2 => by rw [zu_ne (Or.inr j2)]; exact hj j j1 j2, by rw [zu_ne (by omega)]; exact h8, fun q => absurd hp q⟩
      · rw [if_neg he, if_neg he]
        exact ⟨_, rfl, hgg hd, fun j j1 j2 => by rw [zu_ne (Or.inr j2)]; exact hj j j1 j2, by rw [zu_ne (by omega)]; exact h8, fun q => absurd hp q⟩
    · have hpr := hpi.resolve_left hp
      have e30 : (zu dd 400 9 (cP s)) 401 (30 + cP s).toNat = s (30 + cP s).toNat := (hTf (hgg hd)).2.2 _ (by omega)
      rw [if_neg hp, if_neg hp, if_neg hp, zl_n, zl_n, zw_id (by omega) (by omega), zg_t (by omega), zl_n, e30, zl_n]
      refine ⟨_, rfl, hgg (hgg hd), fun j j1 j2 => ?_, zu_q, fun _ => ?_⟩
      · rw [zu_ne (Or.inr j1), zu_ne (Or.inr j2)]; exact hj j j1 j2
      · rw [zu_ne (by omega), zu_q]
  have y41 : ∀ (dd : zD), (∀ c, c ≠ 400 → dd c = ds c) → (∀ j, j ≠ 8 → j ≠ 9 → dd 400 j = ds 400 j) → ∃ ds', j_X12_next_41 (cT s (ds 401 4 + 1)) dd = some (cK L s (ds 401 4 + 1), ds') ∧ (∀ c, c ≠ 400 → ds' c = ds c) ∧ (∀ j, j ≠ 8 → j ≠ 9 → ds' 400 j = ds 400 j) ∧ ds' 400 8 = cX L s (ds 401 4 + 1) ∧ (cK L s (ds 401 4 + 1) = 0 → ds' 400 9 = cP s) := fun dd hd hj => by
    unfold j_X12_next_41 cK cX
    rw [zl_n, zl_n, zu_q]
    by_cases ht : cT s (ds 401 4 + 1) = -1
    · rw [if_pos ht, if_pos ht, if_pos ht, hsel (hgg hd), zc_n, zl_n]
      have j2 : ∀ j, j ≠ 8 → j ≠ 9 → (zu (zu dd 400 8 (cT s (ds 401 4 + 1))) 400 8 (cE L s)) 400 j = ds 400 j := fun j j1 j2 => by
        rw [zu_ne (Or.inr j1), zu_ne (Or.inr j1)]; exact hj j j1 j2
      have fin : (¬ (s 25 < s 10 ∧ cE L s ≠ -1)) → ∃ ds', j_X12_next_88 (cE L s) (zu (zu dd 400 8 (cT s (ds 401 4 + 1))) 400 8 (cE L s)) = some (if s 25 < s 10 ∧ cE L s ≠ -1 then 1 else if cP s = -1 then (if cE L s = -1 then 3 else 1) else 0, ds') ∧ (∀ c, c ≠ 400 → ds' c = ds c) ∧ (∀ j, j ≠ 8 → j ≠ 9 → ds' 400 j = ds 400 j) ∧ ds' 400 8 = (if s 25 < s 10 ∧ cE L s ≠ -1 then cE L s else if cP s = -1 then cE L s else s (30 + cP s).toNat) ∧ ((if s 25 < s 10 ∧ cE L s ≠ -1 then (1 : Int) else if cP s = -1 then (if cE L s = -1 then 3 else 1) else 0) = 0 → ds' 400 9 = cP s) := fun hn => by
        rw [if_neg hn, if_neg hn]
        obtain ⟨d', r1, r2, r3, r4, r5⟩ := y88 _ (hgg (hgg hd)) j2 zu_q
        refine ⟨d', r1, r2, r3, r4, fun q => r5 fun hp => ?_⟩
        rw [if_pos hp] at q
        split at q <;> omega
      by_cases he : cE L s = -1
      · rw [if_pos he]
        exact fin (fun q => q.2 he)
      · have e25 : (zu (zu dd 400 8 (cT s (ds 401 4 + 1))) 400 8 (cE L s)) 401 (25 : Int).toNat = s 25 := (hTf (hgg (hgg hd))).2.2 25 (by omega)
        have e10 : (zu (zu dd 400 8 (cT s (ds 401 4 + 1))) 400 8 (cE L s)) 401 (10 : Int).toNat = s 10 := (hTf (hgg (hgg hd))).2.2 10 (by omega)
        rw [if_neg he, zg_t (by omega), zl_n, zg_t (by omega), zl_n, e25, e10]
        by_cases hb : s 10 ≤ s 25
        · rw [if_pos hb]
          exact fin (fun q => by omega)
        · rw [if_neg hb, if_pos ⟨by omega, he⟩, if_pos ⟨by omega, he⟩]
          exact ⟨_, rfl, hgg (hgg hd), j2, zu_q, fun q => absurd q (by decide)⟩
    · rw [if_neg ht, if_neg ht, if_neg ht]
      exact ⟨_, rfl, hgg hd, fun j j1 j2 => by rw [zu_ne (Or.inr j1)]; exact hj j j1 j2, zu_q, fun q => absurd q (by decide)⟩
  have e9 : ds 401 (9 : Int).toNat = s 9 := e 9 (by omega)
  have e4' : ds 401 (4 : Int).toNat = ds 401 4 := rfl
  have h9 : ∀ c, c ≠ 400 → zu ds 400 9 (-1) c = ds c := hgg fun _ _ => rfl
  have h9j : ∀ j, j ≠ 8 → j ≠ 9 → (zu ds 400 9 (-1)) 400 j = ds 400 j := fun j j1 j2 => zu_ne (Or.inr j2)
  have y := y41 _ h9 h9j
  unfold f_X12_next j_X12_next_40
  rw [zg_t (by omega), zl_n, e4', zl_n, zw_id (by omega) (by omega), zg_t (by omega), zl_n, e9, zl_n]
  by_cases h1 : s 9 ≤ 0
  · rw [if_pos h1]
    have ht : cT s (ds 401 4 + 1) = -1 := by unfold cT; rw [if_pos h1]
    rw [ht] at y
    exact y
  · rw [if_neg h1, zn_t (by omega), zl_n]
    by_cases h2 : zrem (ds 401 4 + 1) (s 9) = 0
    · rw [if_pos h2, hoff h9, zc_n]
      have ht : cT s (ds 401 4 + 1) = scn (fun x => decide (rT s x 4 = 0)) (s 28) (s 0) 1 (s 0).toNat := by unfold cT; rw [if_neg h1, if_pos h2]
      rw [← ht]
      exact y
    · rw [if_neg h2]
      have ht : cT s (ds 401 4 + 1) = -1 := by unfold cT; rw [if_neg h1, if_neg h2]
      rw [ht] at y
      exact y
end CHOOSE
