/-! Copies of the reference's rows; the log; turns. -/
theorem r_copies {a0 n0 a2 n2 p t m : Nat} (hp : p + m ≤ n0) (ht : t + m ≤ n2) (hne : a0 ≠ a2 ∨ t ≤ p) (hs : p + m ≤ 1000000 ∧ t + m ≤ 1000000) : ∀ (k q i : Nat) (d : zD), i + k = m → k < q → ∃ d', l_X12_copies_3 a0 n0 a2 n2 q (p : Int) (t : Int) (m : Int) (i : Int) d = some (0, d') ∧ (∀ c, c ≠ a2 → d' c = d c) ∧ ∀ j, d' a2 j = if t + i ≤ j ∧ j < t + m then d a0 (p + (j - t)) else d a2 j := by
  intro k
  induction k with
  | zero =>
    intro q i d hi hq
    obtain ⟨q, rfl⟩ : ∃ q', q = q' + 1 := ⟨q - 1, by omega⟩
    refine ⟨d, ?_, fun _ _ => rfl, fun j => by rw [if_neg (by omega)]⟩
    show l_X12_copies_3F a0 n0 a2 n2 _ (p : Int) t m i d = _
    unfold l_X12_copies_3F
    rw [if_pos (by omega)]
  | succ k ih =>
    intro q i d hi hq
    obtain ⟨q, rfl⟩ : ∃ q', q = q' + 1 := ⟨q - 1, by omega⟩
    obtain ⟨d', r1, r2, r3⟩ := ih q (i + 1) (zu d a2 (t + i) (d a0 (p + i))) (by omega) (by omega)
    refine ⟨d', ?_, fun c hc => (r2 c hc).trans (zu_row hc), fun j => ?_⟩
    · show l_X12_copies_3F a0 n0 a2 n2 _ (p : Int) t m i d = _
      unfold l_X12_copies_3F
      have e1 : ((p : Int) + i).toNat = p + i := by omega
      have e2 : ((t : Int) + i).toNat = t + i := by omega
      have e3 : ((i : Int) + 1) = ((i + 1 : Nat) : Int) := by omega
      rw [if_neg (by omega), zl_n, zl_n, zw_id (x := (t : Int) + i) (by omega) (by omega), zw_id (x := (p : Int) + i) (by omega) (by omega), zg_t (by omega), zl_n, zg_t (by omega), zl_n, zl_n, zw_id (x := (i : Int) + 1) (by omega) (by omega), e1, e2, e3]
      exact r1
    · rw [r3 j]
      by_cases h1 : t + (i + 1) ≤ j ∧ j < t + m
      · rw [if_pos h1, if_pos (by omega)]
        rcases hne with hne | hne
        · rw [zu_o hne]
        · exact zu_ne (Or.inr (by omega))
      · rw [if_neg h1]
        by_cases h2 : j = t + i
        · rw [h2, zu_q, if_pos (by omega), show p + (t + i - t) = p + i by omega]
        · rw [zu_ne (Or.inr h2), if_neg (by omega)]
theorem e_copies {a0 n0 a2 n2 p t m : Nat} {d : zD} (hp : p + m ≤ n0) (ht : t + m ≤ n2) (hne : a0 ≠ a2 ∨ t ≤ p) (hs : p + m ≤ 1000000 ∧ t + m ≤ 1000000) (hm : m ≤ 10000) : ∃ d', f_X12_copies a0 n0 a2 n2 (p : Int) (t : Int) (m : Int) d = some (0, d') ∧ (∀ c, c ≠ a2 → d' c = d c) ∧ ∀ j, d' a2 j = if t ≤ j ∧ j < t + m then d a0 (p + (j - t)) else d a2 j := by
  have := zF_big
  obtain ⟨d', r1, r2, r3⟩ := r_copies hp ht hne hs m zF 0 d (by omega) (by omega)
  exact ⟨d', r1, r2, r3⟩
section TURNS
variable {K L : Int → Int → List Int} {D : Int → List Int} {d : zD} {b : Nat} {s : Nat → Int} {N : Int}
theorem RI_29 {v : Int} (q : RI N s) (hv : 0 ≤ v ∧ v ≤ 20) {s' : Nat → Int} (e : ∀ k, k < 50 → k ≠ 29 → s' k = s k) (e29 : s' 29 = v) : RI N s' := by
  unfold RI
  rw [e 0 (by omega) (by omega), e 1 (by omega) (by omega), e 2 (by omega) (by omega), e 3 (by omega) (by omega), e 4 (by omega) (by omega), e 5 (by omega) (by omega), e 6 (by omega) (by omega), e 7 (by omega) (by omega), e 8 (by omega) (by omega), e 9 (by omega) (by omega), e 10 (by omega) (by omega), e 11 (by omega) (by omega), e 12 (by omega) (by omega), e 13 (by omega) (by omega), e 26 (by omega) (by omega), e 27 (by omega) (by omega), e 28 (by omega) (by omega), e29, e 46 (by omega) (by omega)]
  obtain ⟨a0, a1, a2, a3, a4, a5, a6, a7, a8, a9, a10, a11, a12, a13, a14, a15, a16, a17⟩ := q
  exact ⟨a0, a1, a2, a3, a4, a5, a6, a7, a8, a9, a10, a11, a12, a13, a14, hv, a16, a17⟩
theorem RC_log {d' : zD} {s' : Nat → Int} {v : Int} (h : RC K L D d b s N) (e : ∀ k, k < 700 → k ≠ 29 → s' k = s k) (e29 : s' 29 = v) (hv : 0 ≤ v ∧ v ≤ 20) (ed : ∀ c, c ≠ b + 25 → c ≠ b + 26 → d' c = d c) (hG' : RG d' b s') : RC K L D d' b s' N := by
  obtain ⟨hS, hA, hQ, hM, hD, hK, hL, hKL, hP, hG, hI, hIL, hIT, hIM, hU, hb⟩ := h
  have hI1 := hI
  obtain ⟨-, ⟨-, i16⟩, -⟩ := hI1
  have hT : rT s' = rT s := by
    funext y u
    unfold rT
    split
    · rw [e _ (by omega) (by omega)]
    · rfl
  have hM' : rM s' = rM s := by
    funext y u
    unfold rM
    split
    · rw [e _ (by omega) (by omega)]
    · rfl
  unfold RC
  rw [hT, hM', e 0 (by omega) (by omega), e 2 (by omega) (by omega), e 3 (by omega) (by omega), e 8 (by omega) (by omega), e 46 (by omega) (by omega)]
  refine ⟨?_, ⟨fun k k0 k1 => ?_, fun k k0 k1 => ?_, fun k k0 k1 => ?_⟩, RQ_d hQ fun c _ _ => ed c (by omega) (by omega), RM_d hM fun c _ _ => ed c (by omega) (by omega), RD_d hD (ed _ (by omega) (by omega)), KR_d hK fun c _ _ => ed c (by omega) (by omega), hL, hKL, hP, hG', RI_29 hI hv (fun k h1 h2 => e k (by omega) h2) e29, fun k k0 k1 => ?_, hIT, hIM, RU_d hU fun c _ _ => ed c (by omega) (by omega), hb⟩
  · unfold RS
    rw [ed b (by omega) (by omega), ed (b + 1) (by omega) (by omega), e 1 (by omega) (by omega), e 2 (by omega) (by omega), e 3 (by omega) (by omega), e 4 (by omega) (by omega), e 5 (by omega) (by omega), e 25 (by omega) (by omega), e 26 (by omega) (by omega), e 27 (by omega) (by omega), e 28 (by omega) (by omega)]
    exact hS
  · rw [ed _ (by omega) (by omega), e _ (by omega) (by omega)]; exact hA.1 k k0 k1
  · rw [ed _ (by omega) (by omega), e _ (by omega) (by omega)]; exact hA.2.1 k k0 k1
  · rw [e 1 (by omega) (by omega)] at k1
    rw [ed _ (by omega) (by omega), e _ (by omega) (by omega)]; exact hA.2.2 k k0 k1
  · rw [e 1 (by omega) (by omega)] at k1
    rw [e _ (by omega) (by omega), e 0 (by omega) (by omega)]
    exact hIL k k0 k1
/-- five numbers of a turn in a row -/
def p5 (d : zD) (a : Nat) (at_ : Int) (k t e m tm : Int) : zD := zu (zu (zu (zu (zu d a at_.toNat k) a (at_ + 1).toNat t) a (at_ + 2).toNat e) a (at_ + 3).toNat m) a (at_ + 4).toNat tm
def w5 (w k t e m tm : Int) : Int := if w = 0 then k else if w = 1 then t else if w = 2 then e else if w = 3 then m else tm
theorem p5_in {a : Nat} {at_ k t e m tm w : Int} (h0 : 0 ≤ at_) (hw : 0 ≤ w ∧ w < 5) : p5 d a at_ k t e m tm a (at_ + w).toNat = w5 w k t e m tm := by
  unfold p5 w5
  rw [zu_t (by omega) (by omega), zu_t (by omega) (by omega), zu_t (by omega) (by omega), zu_t (by omega) (by omega), zu_t (by omega) (by omega)]
  by_cases h0 : w = 0
  · subst h0; rw [if_neg (by omega), if_neg (by omega), if_neg (by omega), if_neg (by omega), if_pos (by omega), if_pos rfl]
  · by_cases h1 : w = 1
    · subst h1; rw [if_neg (by omega), if_neg (by omega), if_neg (by omega), if_pos (by omega), if_neg (by omega), if_pos rfl]
    · by_cases h2 : w = 2
      · subst h2; rw [if_neg (by omega), if_neg (by omega), if_pos (by omega), if_neg (by omega), if_neg (by omega), if_pos rfl]
      · by_cases h3 : w = 3
        · subst h3; rw [if_neg (by omega), if_pos (by omega), if_neg (by omega), if_neg (by omega), if_neg (by omega), if_pos rfl]
        · have h4 : w = 4 := by omega
          subst h4; rw [if_pos (by omega), if_neg (by omega), if_neg (by omega), if_neg (by omega), if_neg (by omega)]
theorem p5_out {a : Nat} {at_ k t e m tm : Int} {j : Nat} (h0 : 0 ≤ at_) (hj : (j : Int) < at_ ∨ at_ + 5 ≤ j) : p5 d a at_ k t e m tm a j = d a j := by
  unfold p5
  rw [zu_ne (Or.inr (by omega)), zu_ne (Or.inr (by omega)), zu_ne (Or.inr (by omega)), zu_ne (Or.inr (by omega)), zu_ne (Or.inr (by omega))]
theorem p5_row {a c : Nat} {at_ k t e m tm : Int} (h : c ≠ a) : p5 d a at_ k t e m tm c = d c := by
  unfold p5
  rw [zu_row h, zu_row h, zu_row h, zu_row h, zu_row h]
theorem e_log {k t e m tm : Int} (h1 : 0 ≤ d (b + 25) 1 ∧ d (b + 25) 1 < 20) (h2 : 0 ≤ d (b + 25) 0 ∧ d (b + 25) 0 ≤ 20) : f_X10_add b k t e m tm d = some (0, if 20 ≤ d (b + 25) 0 then zu (p5 d (b + 26) (d (b + 25) 1 * 5) k t e m tm) (b + 25) 1 ((d (b + 25) 1 + 1) % 20) else zu (zu (p5 d (b + 26) (d (b + 25) 1 * 5) k t e m tm) (b + 25) 1 ((d (b + 25) 1 + 1) % 20)) (b + 25) 0 (d (b + 25) 0 + 1)) := by
  have hr := zrem_of (d (b + 25) 1 + 1) 20 (by omega) (by omega) (by omega) (by omega)
  unfold f_X10_add
  rw [zl_n, zl_n, zw_id (x := d (b + 25) 1 * 5) (by omega) (by omega), zg_t (by omega), zl_n, zl_n, zw_id (x := d (b + 25) 1 * 5 + 1) (by omega) (by omega), zg_t (by omega), zl_n, zl_n, zw_id (x := d (b + 25) 1 * 5 + 2) (by omega) (by omega), zg_t (by omega), zl_n, zl_n, zw_id (x := d (b + 25) 1 * 5 + 3) (by omega) (by omega), zg_t (by omega), zl_n, zl_n, zw_id (x := d (b + 25) 1 * 5 + 4) (by omega) (by omega), zg_t (by omega), zl_n]
  have hp : zu (zu (zu (zu (zu d (b + 26) (d (b + 25) 1 * 5).toNat k) (b + 26) (d (b + 25) 1 * 5 + 1).toNat t) (b + 26) (d (b + 25) 1 * 5 + 2).toNat e) (b + 26) (d (b + 25) 1 * 5 + 3).toNat m) (b + 26) (d (b + 25) 1 * 5 + 4).toNat tm = p5 d (b + 26) (d (b + 25) 1 * 5) k t e m tm := rfl
  rw [hp]
  have e25 : p5 d (b + 26) (d (b + 25) 1 * 5) k t e m tm (b + 25) = d (b + 25) := p5_row (by omega)
  generalize p5 d (b + 26) (d (b + 25) 1 * 5) k t e m tm = dp at e25
  rw [zl_n, zl_n, e25, zw_id (x := d (b + 25) 1 + 1) (by omega) (by omega), zn_20, zl_n, hr, zl_n, zl_n, zu_ne (by omega), e25]
  by_cases hc : 20 ≤ d (b + 25) 0
  · rw [if_pos hc, if_pos hc]
  · rw [if_neg hc, if_neg hc, zl_n, zl_n, zw_id (by omega) (by omega), zl_n]
theorem R_log {ds : zD} {k t e m : Int} (h : RC K L D d b (ds 401) N) : ∃ d' ds', f_X10_add b k t e m (d b 9) d = some (0, d') ∧ f_X12_keepsTurn k t e m ds = some (0, ds') ∧ RC K L D d' b (ds' 401) N ∧ (∀ c, c ≠ b + 25 → c ≠ b + 26 → d' c = d c) ∧ Fs ds ds' ∧ (∀ j, j < 700 → j ≠ 29 → ds' 401 j = ds 401 j) ∧ 1 ≤ ds' 401 29 ∧ ∀ w : Int, 0 ≤ w → w < 5 → ds' 401 (700 + 5 * (ds' 401 29 - 1) + w).toNat = w5 w k t e m (ds 401 3) := by
  have hh := h
  obtain ⟨⟨-, s9, -⟩, -, -, -, -, -, -, -, -, ⟨g1, g2, g3⟩, hI, -⟩ := hh
  have hI1 := hI
  obtain ⟨-, -, -, -, -, -, -, -, -, -, -, -, -, -, -, i29, -⟩ := hI1
  -- the reference, with its oldest turn away
  have hpre : ∃ s1 : zD, ∃ n : Int, f_X12_keepsTurn k t e m ds = j_X12_keepsTurn_47 k t e m s1 ∧ Fs ds s1 ∧ (∀ j, j < 700 → j ≠ 29 → s1 401 j = ds 401 j) ∧ s1 401 29 = n ∧ (0 ≤ n ∧ n ≤ 19) ∧ (n = ds 401 29 ∧ n < 20 ∨ n = 19 ∧ ds 401 29 = 20) ∧ ∀ i w : Int, 0 ≤ i → i < n → 0 ≤ w → w < 5 → s1 401 (700 + 5 * (n - 1 - i) + w).toNat = ds 401 (700 + 5 * (ds 401 29 - 1 - i) + w).toNat := by
    have e29 : ds 401 (29 : Int).toNat = ds 401 29 := rfl
    by_cases h20 : ds 401 29 = 20
    · obtain ⟨s0, r1, r2, r3⟩ := e_copies (a0 := 401) (n0 := 800) (a2 := 401) (n2 := 800) (p := 705) (t := 700) (m := 95) (d := ds) (by omega) (by omega) (Or.inr (by omega)) (by omega) (by omega)
      have r1' : f_X12_copies 401 800 401 800 705 700 95 ds = some (0, s0) := r1
      have e0 : s0 401 (29 : Int).toNat = 20 := by
        show s0 401 29 = 20
        rw [r3, if_neg (by omega)]; exact h20
      refine ⟨zu s0 401 29 19, 19, ?_, fun c hc => (zu_row hc).trans (r2 c hc), fun j j1 j2 => ?_, zu_eq, by omega, Or.inr ⟨rfl, h20⟩, fun i w i0 i1 w0 w1 => ?_⟩
      · unfold f_X12_keepsTurn
        rw [zg_t (by omega), zl_n, e29, if_pos h20, r1', zc_n, zg_t (by omega), zl_n, e0, zl_n, zg_t (by omega), zl_n]
        rfl
      · rw [zu_ne (Or.inr j2), r3, if_neg (by omega)]
      · rw [zu_ne (Or.inr (by omega)), r3, if_pos (by omega), h20, show 705 + ((700 + 5 * (19 - 1 - i) + w).toNat - 700) = (700 + 5 * (20 - 1 - i) + w).toNat by omega]
    · refine ⟨ds, ds 401 29, ?_, Fs.rf, fun _ _ _ => rfl, rfl, by omega, Or.inl ⟨rfl, by omega⟩, fun _ _ _ _ _ _ => rfl⟩
      unfold f_X12_keepsTurn
      rw [zg_t (by omega), zl_n, e29, if_neg h20]
  obtain ⟨s1, n, p1, p2, p3, p4, p5_, p6, p7⟩ := hpre
  have p3' : s1 401 3 = ds 401 3 := p3 3 (by omega) (by omega)
  have hat : 700 + 5 * n < 800 := by omega
  have ej : j_X12_keepsTurn_47 k t e m s1 = some (0, zu (p5 s1 401 (700 + 5 * n) k t e m (ds 401 3)) 401 29 (n + 1)) := by
    have e29 : s1 401 (29 : Int).toNat = n := p4
    unfold j_X12_keepsTurn_47
    rw [zg_t (by omega), zl_n, e29, zl_n, zw_id (x := 5 * n) (by omega) (by omega), zl_n, zw_id (x := 700 + 5 * n) (by omega) (by omega), zg_t (by omega), zl_n, zl_n, zw_id (x := 700 + 5 * n + 1) (by omega) (by omega), zg_t (by omega), zl_n, zl_n, zw_id (x := 700 + 5 * n + 2) (by omega) (by omega), zg_t (by omega), zl_n, zl_n, zw_id (x := 700 + 5 * n + 3) (by omega) (by omega), zg_t (by omega), zl_n, zl_n, zw_id (x := 700 + 5 * n + 4) (by omega) (by omega), zg_t (by omega), zl_n, zg_t (by omega), zl_n]
    have e3 : (zu (zu (zu (zu s1 401 (700 + 5 * n).toNat k) 401 (700 + 5 * n + 1).toNat t) 401 (700 + 5 * n + 2).toNat e) 401 (700 + 5 * n + 3).toNat m) 401 (3 : Int).toNat = ds 401 3 := by
      show _ = _
      rw [zu_ne (Or.inr (by omega)), zu_ne (Or.inr (by omega)), zu_ne (Or.inr (by omega)), zu_ne (Or.inr (by omega))]
      exact p3'
    rw [e3]
    have hp : zu (zu (zu (zu (zu s1 401 (700 + 5 * n).toNat k) 401 (700 + 5 * n + 1).toNat t) 401 (700 + 5 * n + 2).toNat e) 401 (700 + 5 * n + 3).toNat m) 401 (700 + 5 * n + 4).toNat (ds 401 3) = p5 s1 401 (700 + 5 * n) k t e m (ds 401 3) := rfl
    rw [hp]
    have e29b : p5 s1 401 (700 + 5 * n) k t e m (ds 401 3) 401 (29 : Int).toNat = n := by
      show p5 s1 401 (700 + 5 * n) k t e m (ds 401 3) 401 29 = n
      rw [p5_out (by omega) (by omega)]
      exact p4
    rw [zg_t (by omega), zl_n, e29b, zl_n, zw_id (by omega) (by omega), zg_t (by omega), zl_n]
    rfl
  generalize hs2 : zu (p5 s1 401 (700 + 5 * n) k t e m (ds 401 3)) 401 29 (n + 1) = s2 at ej
  have q29 : s2 401 29 = n + 1 := by rw [← hs2]; exact zu_eq
  have qlo : ∀ j, j < 700 → j ≠ 29 → s2 401 j = ds 401 j := fun j j1 j2 => by
    rw [← hs2, zu_ne (Or.inr j2), p5_out (by omega) (by omega)]
    exact p3 j j1 j2
  have qnew : ∀ w : Int, 0 ≤ w → w < 5 → s2 401 (700 + 5 * n + w).toNat = w5 w k t e m (ds 401 3) := fun w w0 w1 => by
    rw [← hs2, zu_ne (Or.inr (by omega)), p5_in (by omega) ⟨w0, w1⟩]
  have qold : ∀ i w : Int, 0 ≤ i → i < n → 0 ≤ w → w < 5 → s2 401 (700 + 5 * (n - 1 - i) + w).toNat = ds 401 (700 + 5 * (ds 401 29 - 1 - i) + w).toNat := fun i w i0 i1 w0 w1 => by
    rw [← hs2, zu_ne (Or.inr (by omega)), p5_out (by omega) (by omega)]
    exact p7 i w i0 i1 w0 w1
  -- the class
  have el := e_log (d := d) (b := b) (k := k) (t := t) (e := e) (m := m) (tm := d b 9) g2 (by rw [g1]; exact i29)
  generalize hd2 : (if 20 ≤ d (b + 25) 0 then zu (p5 d (b + 26) (d (b + 25) 1 * 5) k t e m (d b 9)) (b + 25) 1 ((d (b + 25) 1 + 1) % 20) else zu (zu (p5 d (b + 26) (d (b + 25) 1 * 5) k t e m (d b 9)) (b + 25) 1 ((d (b + 25) 1 + 1) % 20)) (b + 25) 0 (d (b + 25) 0 + 1)) = d2 at el
  have c26 : d2 (b + 26) = p5 d (b + 26) (d (b + 25) 1 * 5) k t e m (d b 9) (b + 26) := by
    rw [← hd2]
    split
    · rw [zu_row (by omega)]
    · rw [zu_row (by omega), zu_row (by omega)]
  have c1 : d2 (b + 25) 1 = (d (b + 25) 1 + 1) % 20 := by
    rw [← hd2]
    split
    · rw [zu_eq]
    · rw [zu_ne (by omega), zu_eq]
  have c0 : d2 (b + 25) 0 = n + 1 := by
    rw [← hd2, g1]
    rcases p6 with ⟨e1, e2⟩ | ⟨e1, e2⟩
    · rw [if_neg (by omega), zu_eq, e1]
    · rw [if_pos (by omega), zu_ne (by omega), p5_row (by omega), g1, e2, e1]
      rfl
  have cfr : ∀ c, c ≠ b + 25 → c ≠ b + 26 → d2 c = d c := fun c h1 h2 => by
    rw [← hd2]
    split
    · rw [zu_row h1, p5_row h2]
    · rw [zu_row h1, zu_row h1, p5_row h2]
  refine ⟨d2, s2, el, by rw [p1]; exact ej, ?_, cfr, fun c hc => by rw [← hs2, zu_row hc, p5_row hc]; exact p2 c hc, qlo, by rw [q29]; omega, fun w w0 w1 => by rw [q29, show 700 + 5 * (n + 1 - 1) + w = 700 + 5 * n + w by omega]; exact qnew w w0 w1⟩
  refine RC_log h qlo q29 (by omega) cfr ⟨c0.trans q29.symm, by rw [c1]; omega, fun i w i0 i1 w0 w1 => ?_⟩
  rw [q29] at i1 ⊢
  rw [c26, c1]
  by_cases hi : i = 0
  · subst hi
    rw [show ((d (b + 25) 1 + 1) % 20 + 39 - 0) % 20 * 5 + w = d (b + 25) 1 * 5 + w by omega, p5_in (by omega) ⟨w0, w1⟩, show 700 + 5 * (n + 1 - 1 - 0) + w = 700 + 5 * n + w by omega, qnew w w0 w1, s9]
  · rw [show 700 + 5 * (n + 1 - 1 - i) + w = 700 + 5 * (n - 1 - (i - 1)) + w by omega, qold (i - 1) w (by omega) (by omega) w0 w1, show ((d (b + 25) 1 + 1) % 20 + 39 - i) % 20 * 5 + w = (d (b + 25) 1 + 39 - (i - 1)) % 20 * 5 + w by omega, p5_out (by omega) (by omega)]
    exact g3 (i - 1) w (by omega) (by omega) w0 w1
/-- what is due is delivered at all terminals -/
theorem R_dues {g : Nat} {r j : Int} (hg : 6 ≤ g ∧ g < b) : ∀ (k q : Nat) {K : Int → Int → List Int} {D : Int → List Int} {d : zD} {i : Int}, RC K L D d b s N → RZ L (s 0) (s 3) (rT s) → 0 ≤ i → i + k = s 0 → (∀ y, 0 ≤ y → y < i → D y = []) → k < q → ∃ d1 K1 D1, l_X1_makeTurn_161 g b q j r i d = zc (f_X10_add b (d1 g 1) (d1 g 2) r j (d1 b 9) d1) (fun _ d => some (0, d)) ∧ RC K1 L D1 d1 b s N ∧ (∀ y, 0 ≤ y → y < s 0 → D1 y = []) ∧ Fr b d d1 := by
  intro k
  induction k with
  | zero =>
    intro q K D d i h hz i0 ik hD hq
    obtain ⟨q, rfl⟩ : ∃ q', q = q' + 1 := ⟨q - 1, by omega⟩
    have hh := h
    obtain ⟨-, -, -, -, -, -, -, -, -, -, -, -, -, -, hU, -⟩ := hh
    refine ⟨d, K, D, ?_, h, fun y y0 y1 => hD y y0 (by omega), Fr.rf⟩
    show l_X1_makeTurn_161F g b _ j r i d = _
    unfold l_X1_makeTurn_161F
    rw [zl_n, hU.1, if_pos (by omega), zl_n, zl_n, zl_n]
  | succ k ih =>
    intro q K D d i h hz i0 ik hD hq
    obtain ⟨q, rfl⟩ : ∃ q', q = q' + 1 := ⟨q - 1, by omega⟩
    obtain ⟨⟨i1, i2⟩, -⟩ := RC_i h
    have hh := h
    obtain ⟨-, -, -, -, -, -, -, -, -, -, -, -, -, -, hU, -⟩ := hh
    obtain ⟨d1, r1, r2, r3⟩ := R_due h hz (x := i) (by omega)
    obtain ⟨d2, K2, D2, q1, q2, q3, q4⟩ := ih q r2 hz (i := i + 1) (by omega) (by omega) (fun y y0 y1 => by
      by_cases hy : y = i
      · rw [hy, uD_eq]
      · rw [uD_ne hy]; exact hD y y0 (by omega)) (by omega)
    refine ⟨d2, K2, D2, ?_, q2, q3, Fr.tr r3 q4⟩
    show l_X1_makeTurn_161F g b _ j r i d = _
    unfold l_X1_makeTurn_161F
    rw [zl_n, hU.1, if_neg (by omega), r1, zc_n, zl_n, zw_id (by omega) (by omega), q1]
theorem RC_D0 (h : RC K L D d b s N) (hD0 : ∀ y, 0 ≤ y → y < s 0 → D y = []) : RC (fun r x => if r = 2 then L 2 x else K r x) L D0 d b s N := by
  have hown := fun {r y j} hr hy hj => RC_own h (r := r) (x := y) (m := j) hr hy hj
  obtain ⟨hS, hA, hQ, hM, hD, hK, hL, hKL, hP, hG, hI, hIL, hIT, hIM, hU, hb⟩ := h
  have hall : ∀ y, 0 ≤ y → y < 8 → D y = [] := fun y y0 y8 => by
    by_cases hy : y < s 0
    · exact hD0 y y0 hy
    · cases hl : D y with
      | nil => rfl
      | cons m l =>
        have h1 := hown (r := 2) (y := y) (j := m) (by omega) (by omega) (by rw [(hKL y).2.2, hl]; exact List.mem_cons_self)
        have h2 := hIM m h1.1.1 h1.1.2
        have h3 : rM s m 1 = y := h1.2
        omega
  refine ⟨hS, hA, hQ, ?_, ?_, ?_, hL, ?_, hP, hG, hI, hIL, hIT, hIM, hU, hb⟩
  · intro m m0 mn
    obtain ⟨f1, f2, f3, f4, f5, f6, f7⟩ := hM m m0 mn
    exact ⟨f1, f2, f3, f4, f5, f6, fun _ => f7 fun y y0 y8 hy => by rw [hall y y0 y8] at hy; cases hy⟩
  · intro y y0 yn
    have := hD y y0 yn
    rw [hD0 y y0 yn] at this
    exact this
  · intro r x r0 r3 x0 x8
    by_cases hr : r = 2
    · subst hr
      have e : K 2 x = L 2 x := by rw [(hKL x).2.2, hall x x0 x8]; rfl
      show krw d b 2 x (if (2 : Int) = 2 then L 2 x else K 2 x) ∧ _
      rw [if_pos rfl, ← e]
      have := hK 2 x r0 r3 x0 x8
      refine ⟨this.1, ?_⟩
      show (if (2 : Int) = 2 then L 2 x else K 2 x).Nodup ∧ ∀ m, m ∈ (if (2 : Int) = 2 then L 2 x else K 2 x) → _
      rw [if_pos rfl, ← e]
      exact this.2
    · show krw d b r x (if r = 2 then L 2 x else K r x) ∧ (if r = 2 then L 2 x else K r x).Nodup ∧ ∀ m, m ∈ (if r = 2 then L 2 x else K r x) → _
      rw [if_neg hr]
      exact hK r x r0 r3 x0 x8
  · intro x
    obtain ⟨g1, g2, g3⟩ := hKL x
    exact ⟨g1, g2, rfl⟩
def Ft (ds ds' : zD) : Prop := (∀ c, c ≠ 401 → c ≠ 400 → ds' c = ds c) ∧ ∀ j, j ≠ 7 → j ≠ 8 → j ≠ 9 → ds' 400 j = ds 400 j
theorem Ft.tr {a c e : zD} (h : Ft a c) (g : Ft c e) : Ft a e := ⟨fun k h1 h2 => (g.1 k h1 h2).trans (h.1 k h1 h2), fun j h1 h2 h3 => (g.2 j h1 h2 h3).trans (h.2 j h1 h2 h3)⟩
theorem Ft.rf {a : zD} : Ft a a := ⟨fun _ _ _ => rfl, fun _ _ _ _ => rfl⟩
theorem Fs.t {a c : zD} (h : Fs a c) : Ft a c := ⟨fun k h1 _ => h k h1, fun j _ _ _ => by rw [h 400 (by omega)]⟩
theorem Ft.u {a : zD} {i : Nat} {v : Int} (h : i = 7 ∨ i = 8 ∨ i = 9) : Ft a (zu a 400 i v) := ⟨fun k _ h2 => zu_row h2, fun j h1 h2 h3 => zu_ne (by omega)⟩
def Fq7 (s s' : Nat → Int) : Prop := (∀ k, k < 50 → k ≠ 3 → k ≠ 5 → k ≠ 46 → (k < 12 ∨ 25 ≤ k ∨ k = 23 ∨ k = 24) → s' k = s k) ∧ P3 s s'
theorem Fq.w7 {s s' : Nat → Int} (h : Fq s s') : Fq7 s s' := ⟨fun k a b c e f => h.1 k a b c e (by omega), h.2⟩
theorem Fq7.tr {s s' s2 : Nat → Int} (h : Fq7 s s') (g : Fq7 s' s2) : Fq7 s s2 := ⟨fun k a b c e f => (g.1 k a b c e f).trans (h.1 k a b c e f), h.2.tr g.2⟩
theorem Fq7.rf {s : Nat → Int} : Fq7 s s := ⟨fun _ _ _ _ _ _ => rfl, P3.rf⟩
theorem Fq7.a {ds : zD} : Fq7 (ds 401) (aD ds 7 401) := ⟨fun j a b c _ f => by
  unfold aD
  rw [zu_r, show (12 + 7 : Int).toNat = 19 from rfl, us_ne (by omega)], P3.e (aD_M (by omega))⟩
theorem aD7 {ds : zD} : aD ds 7 401 19 = zw (ds 401 19 + 1) := by
  unfold aD
  rw [zu_r, show (12 + 7 : Int).toNat = 19 from rfl, us_eq]
theorem zw_zw {a c : Int} : zw (zw a + c) = zw (a + c) := by
  show (Int32.ofInt (zw a + c)).toInt = (Int32.ofInt (a + c)).toInt
  rw [Int32.ofInt_add, Int32.ofInt_add]
  show (zI (zw a) + zI c).toInt = (zI a + zI c).toInt
  rw [zI_w]
/-- how a try may end -/
def TVr (k v : Int) : Prop := (k = 1 → v = 0 ∨ v = 2 ∨ v = 4) ∧ (k ≠ 1 → 0 ≤ v ∧ v ≤ 3)
/-- what tries tell -/
def TLR (x most j r m v : Int) (s s' : Nat → Int) : Prop :=
  (v ≠ 0 → r ≠ 0 ∨ rT s x 3 = 1) ∧ (j ≤ m ∧ (m ≤ most ∨ m = j)) ∧ (r = 0 → j < most → j < m ∧ s 3 < s' 3) ∧ s 3 ≤ s' 3 ∧
  zw (s' 19) = zw (s 19 + (m - j) - (if v = 0 then 0 else if r = 0 then 1 else 0)) ∧ (r ≠ 0 → m = j ∧ v = r) ∧ (zR (s 19) → zR (s' 19))
theorem TLR.rf {x most j r : Int} {s : Nat → Int} (h : most ≤ j ∨ r ≠ 0) : TLR x most j r j r s s := by
  refine ⟨fun q => Or.inl q, ⟨Int.le_refl _, Or.inr rfl⟩, fun q1 q2 => ?_, Int.le_refl _, ?_, fun _ => ⟨rfl, rfl⟩, fun q => q⟩
  · rcases h with h | h
    · omega
    · exact absurd q1 h
  · have e : (if r = 0 then (0 : Int) else if r = 0 then 1 else 0) = 0 := by
      by_cases h0 : r = 0
      · rw [if_pos h0]
      · rw [if_neg h0, if_neg h0]
    rw [e, show s 19 + (j - j) - 0 = s 19 by omega]
theorem TLR.step0 {x most j m v : Int} {s s1 s2 s' : Nat → Int} (hj : j < most) (h3 : s 3 < s1 3) (h19 : s1 19 = s 19) (hT : rT s1 x 3 = rT s x 3) (g3 : s2 3 = s1 3) (g19 : s2 19 = zw (s1 19 + 1)) (gT : rT s2 x 3 = rT s1 x 3) (h : TLR x most (j + 1) 0 m v s2 s') : TLR x most j 0 m v s s' := by
  obtain ⟨a, ⟨b1, b2⟩, c, e, f, g, g5⟩ := h
  refine ⟨fun q => Or.inr ?_, ⟨by omega, Or.inl (by omega)⟩, fun _ _ => ⟨by omega, by omega⟩, by omega, ?_, fun q => absurd rfl q, fun _ => g5 (by rw [g19]; exact zR_of _)⟩
  · rcases a q with q1 | q1
    · exact absurd rfl q1
    · rw [← hT, ← gT]; exact q1
  · rw [f, g19, h19, show zw (s 19 + 1) + (m - (j + 1)) - (if v = 0 then 0 else if (0 : Int) = 0 then 1 else 0) = zw (s 19 + 1) + ((m - (j + 1)) - (if v = 0 then 0 else if (0 : Int) = 0 then 1 else 0)) by omega, zw_zw]
    congr 1
    omega
theorem TLR.step1 {x most j m v r : Int} {s s1 s' : Nat → Int} (hj : j < most) (h3 : s 3 < s1 3) (h19 : s1 19 = s 19) (hr : r ≠ 0) (ha : rT s x 3 = 1) (h : TLR x most (j + 1) r m v s1 s') : TLR x most j 0 m v s s' := by
  obtain ⟨a, ⟨b1, b2⟩, c, e, f, g, g5⟩ := h
  obtain ⟨g1, g2⟩ := g hr
  refine ⟨fun q => Or.inr ha, ⟨by omega, Or.inl (by omega)⟩, fun _ _ => ⟨by omega, by omega⟩, by omega, ?_, fun q => absurd rfl q, fun q => g5 (by rw [h19]; exact q)⟩
  rw [f, h19, g2, if_neg hr, if_neg hr, if_neg hr, if_pos rfl]
  congr 1
  omega
/-- the tries of a poll, a select or a test -/
theorem R_tries {g : Nat} {k x most : Int} (hg : 6 ≤ g ∧ g < b) (hk : 0 ≤ k ∧ k ≤ 2) (hm : most ≤ 5) : ∀ (n q q' : Nat) {K L : Int → Int → List Int} {D : Int → List Int} {d ds : zD} {N j r : Int}, RC K L D d b (ds 401) N → RZ L (ds 401 0) (ds 401 3) (rT (ds 401)) → (0 ≤ x ∧ x < ds 401 0) → d g 1 = k → d g 2 = x → N + 150 * n ≤ 999999500 → 0 ≤ j → most ≤ j + n → ds 400 7 = j → (k = 1 → r = 0 → L 1 x ≠ []) → TVr k r → n < q → n < q' → ∃ m v d' ds' K' L' D', l_X1_makeTurn_71 g b q j r most d = j_X1_makeTurn_124 g b m v d' ∧ l_X12_tries_25 q' x k most r ds = some (v, ds') ∧ ds' 400 7 = m ∧ TVr k v ∧ RC K' L' D' d' b (ds' 401) (N + 150 * n) ∧ RZ L' (ds' 401 0) (ds' 401 3) (rT (ds' 401)) ∧ Fr b d d' ∧ Ft ds ds' ∧ Fq7 (ds 401) (ds' 401) ∧ TLR x most j r m v (ds 401) (ds' 401) := by
  intro n
  induction n with
  | zero =>
    intro q q' K L D d ds N j r h hz hx hgk hgx hN j0 hj h7 hs hr hq hq'
    obtain ⟨q, rfl⟩ : ∃ q0, q = q0 + 1 := ⟨q - 1, by omega⟩
    obtain ⟨q', rfl⟩ : ∃ q0, q' = q0 + 1 := ⟨q' - 1, by omega⟩
    refine ⟨j, r, d, ds, K, L, D, ?_, ?_, h7, hr, RC_N h (by omega) (by omega), hz, Fr.rf, Ft.rf, Fq7.rf, TLR.rf (Or.inl (by omega))⟩
    · show l_X1_makeTurn_71F g b _ j r most d = _
      unfold l_X1_makeTurn_71F
      rw [if_pos (by omega)]
    · show l_X12_tries_25F _ x k most r ds = _
      unfold l_X12_tries_25F
      by_cases hr0 : r = 0
      · rw [if_pos hr0, zl_n, h7, if_pos (by omega)]
      · rw [if_neg hr0]
  | succ n ih =>
    intro q q' K L D d ds N j r h hz hx hgk hgx hN j0 hj h7 hs hr hq hq'
    obtain ⟨q, rfl⟩ : ∃ q0, q = q0 + 1 := ⟨q - 1, by omega⟩
    obtain ⟨q', rfl⟩ : ∃ q0, q' = q0 + 1 := ⟨q' - 1, by omega⟩
    by_cases hstop : most ≤ j ∨ r ≠ 0
    · refine ⟨j, r, d, ds, K, L, D, ?_, ?_, h7, hr, RC_N h (by omega) (by omega), hz, Fr.rf, Ft.rf, Fq7.rf, TLR.rf hstop⟩
      · show l_X1_makeTurn_71F g b _ j r most d = _
        unfold l_X1_makeTurn_71F
        by_cases hmj : most ≤ j
        · rw [if_pos hmj]
        · rw [if_neg hmj, if_neg (by omega)]
      · show l_X12_tries_25F _ x k most r ds = _
        unfold l_X12_tries_25F
        by_cases hr0 : r = 0
        · rw [if_pos hr0, zl_n, h7, if_pos (by omega)]
        · rw [if_neg hr0]
    · have hr0 : r = 0 := by omega
      have e401 : zu ds 400 7 (j + 1) 401 = ds 401 := zu_row (by omega)
      have h1 : RC K L D d b (zu ds 400 7 (j + 1) 401) N := by rw [e401]; exact h
      have hx1 : 0 ≤ x ∧ x < zu ds 400 7 (j + 1) 401 0 := by rw [e401]; exact hx
      have key : ∃ v d1 s1 L1, (if k = 1 then f_X1_trySelect g b d else f_X1_tryPoll g b d) = some (v, d1) ∧ (if k = 1 then f_X12_selectTry x (zu ds 400 7 (j + 1)) else f_X12_pollTry x (zu ds 400 7 (j + 1))) = some (v, s1) ∧ (TVr k v ∧ (v ≠ 0 → rT (ds 401) x 3 = 1)) ∧ PP b (N + 150) 60 1 d (zu ds 400 7 (j + 1)) d1 s1 L1 ∧ (k = 1 → v = 0 → L1 1 x ≠ []) := by
        by_cases hk1 : k = 1
        · rw [if_pos hk1, if_pos hk1]
          obtain ⟨v, d1, s1, L1, a1, a2, a3, a4, a5⟩ := R_trySelect h1 hg.2 hx1 hgx (hs hk1 hr0) (by omega)
          exact ⟨v, d1, s1, L1, a1, a2, ⟨⟨fun _ => a3.1, fun q => absurd hk1 q⟩, fun q => by have := a3.2 q; rwa [e401] at this⟩, a4, fun _ => a5⟩
        · rw [if_neg hk1, if_neg hk1]
          obtain ⟨v, d1, s1, L1, a1, a2, a3, a4⟩ := R_tryPoll h1 hg.2 hx1 hgx (by omega)
          exact ⟨v, d1, s1, L1, a1, a2, ⟨⟨fun q => absurd q hk1, fun _ => a3.1⟩, fun q => by have := a3.2 q; rwa [e401] at this⟩, a4, fun q => absurd q hk1⟩
      obtain ⟨v, d1, s1, L1, a1, a2, ⟨a3, aal⟩, ⟨K1, D1, b1, b2, b3, b4, b5, b6⟩, a5⟩ := key
      rw [e401] at b6
      have hT3 : rT (s1 401) x 3 = rT (ds 401) x 3 := by
        have hq0 := h
        have hq1 := b1
        obtain ⟨-, -, hQ0, -⟩ := hq0
        obtain ⟨-, -, hQ1, -⟩ := hq1
        have z1 := (hQ1 x hx.1 (by rw [b5.1 0 (by omega) (by omega) (by omega) (by omega) (by omega), e401]; exact hx.2)).1
        rw [b3 (b + 16) (by omega)] at z1
        exact z1.symm.trans (hQ0 x hx.1 hx.2).1
      have h19 : s1 401 19 = ds 401 19 := by rw [b5.1 19 (by omega) (by omega) (by omega) (by omega) (by omega), e401]
      have hjm : j < most := by omega
      have e0 : s1 401 0 = ds 401 0 := by rw [b5.1 0 (by omega) (by omega) (by omega) (by omega) (by omega), e401]
      have hgk1 : d1 g 1 = k := by rw [b3 g (by omega)]; exact hgk
      have hgx1 : d1 g 2 = x := by rw [b3 g (by omega)]; exact hgx
      have h71 : s1 400 7 = j + 1 := by rw [b4 400 (by omega), zu_eq]
      have ft1 : Ft ds s1 := Ft.tr (Ft.u (by omega)) b4.t
      have fq1 : Fq7 (ds 401) (s1 401) := by rw [e401] at b5; exact b5.w7
      have ecl : l_X1_makeTurn_71 g b (q + 1) j r most d = j_X1_makeTurn_102 g b (l_X1_makeTurn_71 g b q) (j + 1) most v d1 := by
        show l_X1_makeTurn_71F g b _ j r most d = _
        unfold l_X1_makeTurn_71F
        rw [if_neg (by omega), if_pos hr0, zl_n, zw_id (by omega) (by omega), zl_n, hgk]
        by_cases hk1 : k = 1
        · rw [if_pos hk1] at a1 ⊢
          rw [a1, zc_n]
        · rw [if_neg hk1] at a1 ⊢
          rw [a1, zc_n]
      have erf : l_X12_tries_25 (q' + 1) x k most r ds = j_X12_tries_66 (l_X12_tries_25 q') x k most v s1 := by
        show l_X12_tries_25F _ x k most r ds = _
        unfold l_X12_tries_25F
        rw [if_pos hr0, zl_n, h7, if_neg (by omega), zl_n, zl_n, zw_id (by omega) (by omega), zl_n]
        by_cases hk1 : k = 1
        · rw [if_pos hk1] at a2 ⊢
          rw [a2, zc_n]
        · rw [if_neg hk1] at a2 ⊢
          rw [a2, zc_n]
      rw [ecl, erf]
      unfold j_X1_makeTurn_102 j_X12_tries_66
      have eN : N + 150 + 150 * (n : Int) = N + 150 * ((n + 1 : Nat) : Int) := by omega
      by_cases hv : v = 0
      · have b1' := R_acc b1 (k := 7) (by omega)
        rw [if_pos hv, if_pos hv, zg_t (by omega), zl_n, zl_n, zg_t (by omega), zl_n, e_counts (by omega), zc_n]
        obtain ⟨m, v', d', ds', K', L', D', c1, c2, c3, c4, c5, c6, c7, c8, c9, c10⟩ := ih q q' (j := j + 1) (r := v) b1' (RZ_acc b2 (by omega)) (by rw [aD_k (by omega) (by omega), e0]; exact hx) (by rw [zu_o (by omega)]; exact hgk1) (by rw [zu_o (by omega)]; exact hgx1) (by omega) (by omega) (by omega) (by rw [show aD s1 7 400 7 = s1 400 7 from by rw [Fs.a 400 (by omega)]]; exact h71) (fun q1 q2 => a5 q1 q2) a3 (by omega) (by omega)
        refine ⟨m, v', d', ds', K', L', D', c1, c2, c3, c4, by rw [← eN]; exact c5, c6, Fr.tr (Fr.tr b3 (Fr.u (by omega))) c7, Ft.tr (Ft.tr ft1 Fs.a.t) c8, Fq7.tr (Fq7.tr fq1 Fq7.a) c9, ?_⟩
        rw [hv] at c10
        rw [hr0]
        exact TLR.step0 hjm (by omega) h19 hT3 (aD_k (by omega) (by omega)) aD7 (by rw [aD_T (by omega)]) c10
      · rw [if_neg hv, if_neg hv]
        obtain ⟨m, v', d', ds', K', L', D', c1, c2, c3, c4, c5, c6, c7, c8, c9, c10⟩ := ih q q' (j := j + 1) (r := v) b1 b2 (by rw [e0]; exact hx) hgk1 hgx1 (by omega) (by omega) (by omega) h71 (fun q1 q2 => a5 q1 q2) a3 (by omega) (by omega)
        refine ⟨m, v', d', ds', K', L', D', c1, c2, c3, c4, by rw [← eN]; exact c5, c6, Fr.tr b3 c7, Ft.tr ft1 c8, Fq7.tr fq1 c9, ?_⟩
        rw [hr0]
        exact TLR.step1 hjm (by omega) h19 hv (aal hv) c10
end TURNS
