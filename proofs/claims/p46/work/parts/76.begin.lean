/-! A line begins. -/
section BEG
variable {b : Nat}
theorem L_clr4 : ∀ (k q : Nat) {d : zD} {x : Int}, k < q → 0 ≤ x → x + k = 24 → ∃ d', l_X4_clear_2 b q x d = some (0, d') ∧ (∀ c, c ≠ b + 13 → d' c = d c) ∧ ∀ j : Nat, d' (b + 13) j = if x ≤ j ∧ j < 24 then 0 else d (b + 13) j := by
  intro k
  induction k with
  | zero =>
    intro q d x hq x0 hx
    obtain ⟨q, rfl⟩ : ∃ q0, q = q0 + 1 := ⟨q - 1, by omega⟩
    refine ⟨d, ?_, fun _ _ => rfl, fun j => by rw [if_neg (by omega)]⟩
    show l_X4_clear_2F b _ x d = _
    unfold l_X4_clear_2F
    rw [if_pos (by omega)]
  | succ k ih =>
    intro q d x hq x0 hx
    obtain ⟨q, rfl⟩ : ∃ q0, q = q0 + 1 := ⟨q - 1, by omega⟩
    obtain ⟨d2, a1, a2, a3⟩ := ih q (d := zu d (b + 13) x.toNat 0) (x := x + 1) (by omega) (by omega) (by omega)
    refine ⟨d2, ?_, fun c hc => by rw [a2 c hc, zu_row hc], fun j => ?_⟩
    · show l_X4_clear_2F b _ x d = _
      unfold l_X4_clear_2F
      rw [if_neg (by omega), zg_t (by omega), zl_n, zl_n, zw_id (by omega) (by omega), a1]
    · rw [a3]
      by_cases h1 : x ≤ j ∧ j < 24
      · rw [if_pos h1]
        by_cases h2 : x + 1 ≤ j ∧ j < 24
        · rw [if_pos h2]
        · rw [if_neg h2, show j = x.toNat by omega, zu_eq]
      · rw [if_neg h1, if_neg (by omega), zu_ne (by omega)]
theorem L_clr72 : ∀ (k q : Nat) {d : zD} {x : Int}, k < q → 0 ≤ x → x + k = 32 → ∃ d', l_X8_clear_72 b q x d = some (0, d') ∧ (∀ c, c ≠ b + 24 → d' c = d c) ∧ ∀ j : Nat, d' (b + 24) j = if x ≤ j ∧ j < 32 then 0 else d (b + 24) j := by
  intro k
  induction k with
  | zero =>
    intro q d x hq x0 hx
    obtain ⟨q, rfl⟩ : ∃ q0, q = q0 + 1 := ⟨q - 1, by omega⟩
    refine ⟨d, ?_, fun _ _ => rfl, fun j => by rw [if_neg (by omega)]⟩
    show l_X8_clear_72F b _ x d = _
    unfold l_X8_clear_72F
    rw [if_pos (by omega)]
  | succ k ih =>
    intro q d x hq x0 hx
    obtain ⟨q, rfl⟩ : ∃ q0, q = q0 + 1 := ⟨q - 1, by omega⟩
    obtain ⟨d2, a1, a2, a3⟩ := ih q (d := zu d (b + 24) x.toNat 0) (x := x + 1) (by omega) (by omega) (by omega)
    refine ⟨d2, ?_, fun c hc => by rw [a2 c hc, zu_row hc], fun j => ?_⟩
    · show l_X8_clear_72F b _ x d = _
      unfold l_X8_clear_72F
      rw [if_neg (by omega), zg_t (by omega), zl_n, zl_n, zw_id (by omega) (by omega), a1]
    · rw [a3]
      by_cases h1 : x ≤ j ∧ j < 32
      · rw [if_pos h1]
        by_cases h2 : x + 1 ≤ j ∧ j < 32
        · rw [if_pos h2]
        · rw [if_neg h2, show j = x.toNat by omega, zu_eq]
      · rw [if_neg h1, if_neg (by omega), zu_ne (by omega)]
/-- the values a party begins with -/
def p0v (c : Nat) : Int := if c < 18 then 1 else 0
theorem L_clr8 : ∀ (k q : Nat) {d : zD} {x : Int}, k < q → 0 ≤ x → x + k = 8 → ∃ d', l_X8_clear_2 b q x d = l_X8_clear_72 b zF 0 d' ∧ (∀ c, c < b + 16 ∨ b + 23 < c → d' c = d c) ∧ ∀ (c j : Nat), 16 ≤ c → c ≤ 23 → d' (b + c) j = if x ≤ j ∧ j < 8 then p0v c else d (b + c) j := by
  intro k
  induction k with
  | zero =>
    intro q d x hq x0 hx
    obtain ⟨q, rfl⟩ : ∃ q0, q = q0 + 1 := ⟨q - 1, by omega⟩
    refine ⟨d, ?_, fun _ _ => rfl, fun c j _ _ => by rw [if_neg (by omega)]⟩
    show l_X8_clear_2F b _ x d = _
    unfold l_X8_clear_2F
    rw [if_pos (by omega)]
  | succ k ih =>
    intro q d x hq x0 hx
    obtain ⟨q, rfl⟩ : ∃ q0, q = q0 + 1 := ⟨q - 1, by omega⟩
    obtain ⟨d2, a1, a2, a3⟩ := ih q (d := zu (zu (zu (zu (zu (zu (zu (zu d (b + 16) x.toNat 1) (b + 17) x.toNat 1) (b + 18) x.toNat 0) (b + 19) x.toNat 0) (b + 20) x.toNat 0) (b + 21) x.toNat 0) (b + 22) x.toNat 0) (b + 23) x.toNat 0) (x := x + 1) (by omega) (by omega) (by omega)
    refine ⟨d2, ?_, fun c hc => ?_, fun c j c0 c1 => ?_⟩
    · show l_X8_clear_2F b _ x d = _
      unfold l_X8_clear_2F
      rw [if_neg (by omega), zg_t (by omega), zl_n, zg_t (by omega), zl_n, zg_t (by omega), zl_n, zg_t (by omega), zl_n, zg_t (by omega), zl_n, zg_t (by omega), zl_n, zg_t (by omega), zl_n, zg_t (by omega), zl_n, zl_n, zw_id (by omega) (by omega), a1]
    · rw [a2 c hc]
      simp (disch := omega) only [zu_row]
    · rw [a3 c j c0 c1]
      by_cases h1 : x ≤ j ∧ j < 8
      · rw [if_pos h1]
        by_cases h2 : x + 1 ≤ j ∧ j < 8
        · rw [if_pos h2]
        · rw [if_neg h2, show j = x.toNat by omega]
          have hc : c = 16 ∨ c = 17 ∨ c = 18 ∨ c = 19 ∨ c = 20 ∨ c = 21 ∨ c = 22 ∨ c = 23 := by omega
          rcases hc with rfl | rfl | rfl | rfl | rfl | rfl | rfl | rfl <;> simp (disch := omega) only [zu_row, zu_eq] <;> rfl
      · rw [if_neg h1, if_neg (by omega)]
        simp (disch := omega) only [zu_ne]
theorem L_beg : ∀ (k q : Nat) {d : zD} {x : Int}, k < q → 0 ≤ x → x + k = 13 → ∃ d' r, l_X2_begin_31 b q x d = l_X2_begin_31F b r 13 d' ∧ (∀ c, c ≠ b + 28 → d' c = d c) ∧ ∀ j : Nat, d' (b + 28) j = if x ≤ j ∧ j < 13 then 0 else d (b + 28) j := by
  intro k
  induction k with
  | zero =>
    intro q d x hq x0 hx
    obtain ⟨q, rfl⟩ : ∃ q0, q = q0 + 1 := ⟨q - 1, by omega⟩
    refine ⟨d, l_X2_begin_31 b q, ?_, fun _ _ => rfl, fun j => by rw [if_neg (by omega)]⟩
    show l_X2_begin_31F b _ x d = _
    rw [show x = 13 by omega]
  | succ k ih =>
    intro q d x hq x0 hx
    obtain ⟨q, rfl⟩ : ∃ q0, q = q0 + 1 := ⟨q - 1, by omega⟩
    obtain ⟨d2, r, a1, a2, a3⟩ := ih q (d := zu d (b + 28) x.toNat 0) (x := x + 1) (by omega) (by omega) (by omega)
    refine ⟨d2, r, ?_, fun c hc => by rw [a2 c hc, zu_row hc], fun j => ?_⟩
    · rw [← a1]
      show l_X2_begin_31F b _ x d = _
      unfold l_X2_begin_31F
      rw [if_neg (by omega), zg_t (by omega), zl_n, zl_n, zw_id (by omega) (by omega)]
    · rw [a3]
      by_cases h1 : x ≤ j ∧ j < 13
      · rw [if_pos h1]
        by_cases h2 : x + 1 ≤ j ∧ j < 13
        · rw [if_pos h2]
        · rw [if_neg h2, show j = x.toNat by omega, zu_eq]
      · rw [if_neg h1, if_neg (by omega), zu_ne (by omega)]
/-- what the class has when a line begins -/
def BG (d d' : zD) (b : Nat) : Prop := (d' b 8 = d 12 4 ∧ d' b 9 = 0 ∧ d' b 10 = 0 ∧ d' b 11 = d 12 5 ∧ d' b 12 = -1 ∧ d' b 13 = -1 ∧ d' b 14 = -1 ∧ d' b 15 = 0 ∧ d' (b + 1) 0 = 0) ∧ (∀ j : Nat, j < 24 → d' (b + 13) j = 0) ∧ (∀ c j : Nat, 16 ≤ c → c ≤ 23 → j < 8 → d' (b + c) j = p0v c) ∧ (∀ j : Nat, j < 32 → d' (b + 24) j = 0) ∧ (d' (b + 25) 0 = 0 ∧ d' (b + 25) 1 = 0) ∧ (∀ j : Nat, j < 6 → d' (b + 27) j = d 18 j) ∧ (∀ j : Nat, j < 13 → d' (b + 28) j = 0) ∧ ∀ j : Nat, j < 16 → d' (b + 29) j = d 19 j
theorem k_begin {d : zD} (hb : 20 ≤ b) : ∃ d', f_X2_begin b d = some (0, d') ∧ (∀ c, c < b ∨ b + 30 ≤ c → d' c = d c) ∧ BG d d' b := by
  have hF := zF_big
  obtain ⟨d1, r1, f1, g1⟩ := L_clr4 (b := b) 24 zF (d := zu d (b + 1) 0 0) (x := 0) (by omega) (by omega) (by omega)
  obtain ⟨d2, r2, f2, g2⟩ := L_clr8 (b := b) 8 zF (d := d1) (x := 0) (by omega) (by omega) (by omega)
  obtain ⟨d3, r3, f3, g3⟩ := L_clr72 (b := b) 32 zF (d := d2) (x := 0) (by omega) (by omega) (by omega)
  obtain ⟨d4, r, r4, f4, g4⟩ := L_beg (b := b) 13 zF (d := zu (zu d3 (b + 25) 0 0) (b + 25) 1 0) (x := 0) (by omega) (by omega) (by omega)
  have e : f_X2_begin b d = l_X2_begin_31F b r 13 d4 := by
    unfold f_X2_begin f_X4_clear f_X8_clear f_X10_clear
    rw [zl_n, r1, zc_n, r2, r3, zc_n, zl_n, zl_n, zc_n, r4]
  have k4 : ∀ c, c ≠ b + 28 → c ≠ b + 25 → c ≠ b + 24 → c < b + 16 ∨ b + 23 < c → c ≠ b + 13 → c ≠ b + 1 → d4 c = d c := fun c h1 h2 h3 h4 h5 h6 => by rw [f4 c h1, zu_row h2, zu_row h2, f3 c h3, f2 c h4, f1 c h5, zu_row h6]
  have k12 : d4 12 = d 12 := k4 12 (by omega) (by omega) (by omega) (by omega) (by omega) (by omega)
  have k18 : d4 18 = d 18 := k4 18 (by omega) (by omega) (by omega) (by omega) (by omega) (by omega)
  have k19 : d4 19 = d 19 := k4 19 (by omega) (by omega) (by omega) (by omega) (by omega) (by omega)
  rw [e]
  unfold l_X2_begin_31F
  rw [if_pos (by omega)]
  simp (disch := omega) only [zl_n, zcg_t, zcp_row, zu_row, Int.reduceToNat, k12, k18, k19]
  refine ⟨_, rfl, fun c hc => ?_, ⟨?_, ?_, ?_, ?_, ?_, ?_, ?_, ?_, ?_⟩, fun j hj => ?_, fun c j c0 c1 hj => ?_, fun j hj => ?_, ⟨?_, ?_⟩, fun j hj => ?_, fun j hj => ?_, fun j hj => ?_⟩
  · simp (disch := omega) only [zcp_row, zu_row]
    exact k4 c (by omega) (by omega) (by omega) (by omega) (by omega) (by omega)
  · simp (disch := omega) only [zu_ne, zu_q]
  · simp (disch := omega) only [zu_ne, zu_q]
  · simp (disch := omega) only [zu_ne, zu_q]
  · simp (disch := omega) only [zu_ne, zu_q]
  · simp (disch := omega) only [zu_ne, zu_q]
  · simp (disch := omega) only [zu_ne, zu_q]
  · simp (disch := omega) only [zu_ne, zu_q]
  · simp (disch := omega) only [zu_ne, zu_q]
  · simp (disch := omega) only [zcp_row, zu_row]
    rw [f4 _ (by omega), zu_row (by omega), zu_row (by omega), f3 _ (by omega), f2 _ (by omega), f1 _ (by omega), zu_eq]
  · simp (disch := omega) only [zcp_row, zu_row]
    rw [f4 _ (by omega), zu_row (by omega), zu_row (by omega), f3 _ (by omega), f2 _ (by omega), g1, if_pos (by omega)]
  · simp (disch := omega) only [zcp_row, zu_row]
    rw [f4 _ (by omega), zu_row (by omega), zu_row (by omega), f3 _ (by omega), g2 c j c0 c1, if_pos (by omega)]
  · simp (disch := omega) only [zcp_row, zu_row]
    rw [f4 _ (by omega), zu_row (by omega), zu_row (by omega), g3, if_pos (by omega)]
  · simp (disch := omega) only [zcp_row, zu_row]
    rw [f4 _ (by omega), zu_ne (by omega), zu_eq]
  · simp (disch := omega) only [zcp_row, zu_row]
    rw [f4 _ (by omega), zu_eq]
  · simp (disch := omega) only [zcp_row, zu_row, zcp_0]
  · simp (disch := omega) only [zcp_row, zu_row]
    rw [g4, if_pos (by omega)]
  · simp (disch := omega) only [zcp_row, zu_row, zcp_0]
end BEG
/-- a row as it begins -/
def FRm (s : Nat → Int) : Prop := s 2 = 0 ∧ s 3 = 0 ∧ s 4 = 0 ∧ (∀ k, 12 ≤ k → k < 26 → s k = 0) ∧ s 26 = -1 ∧ s 27 = -1 ∧ s 28 = -1 ∧ s 29 = 0 ∧ s 46 = 0 ∧ ∀ x u : Int, 0 ≤ x → x < 8 → 5 ≤ u → u < 15 → rT s x u = 0
/-- the ranges of a setup -/
def SV (s : Nat → Int) : Prop := (0 ≤ s 1 ∧ s 1 ≤ 16) ∧ (0 ≤ s 5 ∧ s 5 ≤ 9999) ∧ (1 ≤ s 6 ∧ s 6 ≤ 20) ∧ (1 ≤ s 7 ∧ s 7 ≤ 5) ∧ (1 ≤ s 8 ∧ s 8 ≤ 5) ∧ (0 ≤ s 9 ∧ s 9 ≤ 20) ∧ (0 ≤ s 10 ∧ s 10 ≤ 5) ∧ (0 ≤ s 11 ∧ s 11 ≤ 99) ∧ (∀ k : Int, 0 ≤ k → k < s 1 → 0 ≤ s (30 + k).toNat ∧ s (30 + k).toNat < s 0) ∧ ∀ x : Int, 0 ≤ x → x < s 0 → (1 ≤ rT s x 0 ∧ rT s x 0 ≤ 9) ∧ (1 ≤ rT s x 1 ∧ rT s x 1 ≤ 4) ∧ (0 ≤ rT s x 2 ∧ rT s x 2 ≤ 30) ∧ rT s x 3 = 1 ∧ rT s x 4 = 1
theorem LR_begin {d d' : zD} {s : Nat → Int} (hb : BG d d' 30) (hu : RU d' (s 0) (rT s)) (h0 : 1 ≤ s 0 ∧ s 0 ≤ 8) (hf : FRm s) (hv : SV s) (e4 : d 12 4 = s 1) (e5 : d 12 5 = s 5) (e18 : ∀ j : Nat, j < 6 → d 18 j = s (6 + j)) (e19 : ∀ k : Int, 0 ≤ k → k < s 1 → d 19 k.toNat = s (30 + k).toNat) : LR d' 30 s := by
  obtain ⟨⟨q1, q2, q3, q4, q5, q6, q7, q8, q9⟩, b1, b2, b3, ⟨b4, b5⟩, b6, b7, b8⟩ := hb
  obtain ⟨f2, f3, f4, f12, f26, f27, f28, f29, f46, fT⟩ := hf
  obtain ⟨v1, v5, v6, v7, v8, v9, v10, v11, v30, vT⟩ := hv
  refine ⟨fun _ _ => [], fun _ _ => [], ⟨⟨?_, ?_, ?_, ?_, ?_, ?_, ?_, ?_, ?_⟩, ⟨?_, ?_, ?_⟩, ?_, ?_, ?_, ?_, ?_, ?_, ?_, ⟨?_, ?_, ?_⟩, ?_, v30, ?_, ?_, hu, by omega⟩, ?_⟩
  · rw [q1, e4]
  · rw [q2, f3]
  · rw [q3, f4]
  · rw [q4, e5]
  · rw [q5, f28]
  · rw [q6, f27]
  · rw [q7, f26]
  · rw [q8, f12 25 (by omega) (by omega)]
  · rw [q9, f2]
  · intro k k0 k1
    rw [b6 _ (by omega), e18 _ (by omega), show 6 + k.toNat = (6 + k).toNat by omega]
  · intro k k0 k1
    rw [b7 _ (by omega), f12 _ (by omega) (by omega)]
  · intro k k0 k1
    rw [b8 _ (by omega), e19 k k0 k1]
  · intro x x0 x1
    obtain ⟨-, -, -, t3, t4⟩ := vT x x0 x1
    refine ⟨?_, ?_, ?_, ?_, ?_, ?_, ?_, fun w w0 w1 => ?_⟩
    · rw [b2 16 _ (by omega) (by omega) (by omega), t3]; rfl
    · rw [b2 17 _ (by omega) (by omega) (by omega), t4]; rfl
    · rw [b2 18 _ (by omega) (by omega) (by omega), fT x 5 x0 (by omega) (by omega) (by omega)]; rfl
    · rw [b2 19 _ (by omega) (by omega) (by omega), fT x 6 x0 (by omega) (by omega) (by omega)]; rfl
    · rw [b2 20 _ (by omega) (by omega) (by omega), fT x 7 x0 (by omega) (by omega) (by omega)]; rfl
    · rw [b2 21 _ (by omega) (by omega) (by omega), fT x 8 x0 (by omega) (by omega) (by omega)]; rfl
    · rw [b2 22 _ (by omega) (by omega) (by omega), fT x 9 x0 (by omega) (by omega) (by omega)]; rfl
    · rw [b3 _ (by omega), fT x (11 + w) x0 (by omega) (by omega) (by omega)]
  · intro m m0 m1
    rw [f2] at m1
    omega
  · intro x x0 x1
    show rT s x 10 = d' (30 + 23) x.toNat
    rw [b2 23 _ (by omega) (by omega) (by omega), fT x 10 x0 (by omega) (by omega) (by omega)]; rfl
  · intro r x r0 r1 x0 x1
    refine ⟨⟨?_, fun q => absurd rfl q, ?_⟩, List.nodup_nil, fun m hm => absurd hm List.not_mem_nil⟩
    · rw [b1 _ (by omega)]; rfl
    · trivial
  · intro r x r0 r1 x0 x1
    refine ⟨List.Pairwise.nil, fun m => ⟨fun hm => absurd hm List.not_mem_nil, fun hm => ?_⟩⟩
    have := hm.1
    rw [f2] at this
    omega
  · intro x
    exact ⟨rfl, rfl, rfl⟩
  · refine ⟨fun x x0 x1 => ?_, fun m m0 mk => ?_, fun x x0 x1 => ?_⟩
    · refine ⟨fun m l e => (by cases e), fun q => ?_, fun m l e => (by cases e), fun q => ?_⟩
      · exact absurd (by rw [fT x 6 x0 (by omega) (by omega) (by omega), fT x 9 x0 (by omega) (by omega) (by omega)]) q
      · exact absurd (by rw [fT x 8 x0 (by omega) (by omega) (by omega), fT x 7 x0 (by omega) (by omega) (by omega)]) q
    · rw [f2] at mk
      omega
    · obtain ⟨t0, t1, t2, t3, t4⟩ := vT x x0 x1
      have h5 := fT x 5 x0 (by omega) (by omega) (by omega)
      refine ⟨fun _ m l e => (by cases e), fun _ m l e => (by cases e), ?_, fun m l e => (by cases e), fun _ => ?_, ?_⟩
      · show ((0 : Nat) : Int) ≤ rT s x 1
        omega
      · omega
      · omega
  · rw [b4, f29]
  · rw [b5]; omega
  · intro i w i0 i1
    rw [f29] at i1
    omega
  · unfold RI
    rw [f2, f3, f4, f26, f27, f28, f29, f46]
    exact ⟨h0, v1, by omega, by omega, by omega, by omega, v6, v7, v8, v9, v10, v11, by omega, by omega, by omega, by omega, by omega, by omega, by rw [f12 13 (by omega) (by omega)]; exact Int.le_refl _, by rw [f12 12 (by omega) (by omega), f12 13 (by omega) (by omega)]; exact Int.le_refl _, by rw [f12 12 (by omega) (by omega)]; omega⟩
  · intro x x0 x1
    obtain ⟨t0, t1, t2, t3, t4⟩ := vT x x0 x1
    refine ⟨t0, t1, t2, Or.inr t3, Or.inr t4, Or.inl (fT x 6 x0 (by omega) (by omega) (by omega)), Or.inl (fT x 7 x0 (by omega) (by omega) (by omega)), Or.inl (fT x 8 x0 (by omega) (by omega) (by omega)), Or.inl (fT x 9 x0 (by omega) (by omega) (by omega)), ?_⟩
    rw [fT x 10 x0 (by omega) (by omega) (by omega), f3]
    omega
  · intro m m0 m1
    rw [f2] at m1
    omega
  · intro x x0 x1 q
    exact absurd rfl q
