/-! The class reads the drawn statements. -/
theorem nL_c {c : Int} {l : List Int} (h : c < 97) : nL (c :: l) := fun x r e => by
  have := (List.cons.inj e).1
  omega
theorem nD_c {c : Int} {l : List Int} (h : c < 48 ∨ 57 < c) : nD (c :: l) := fun x r e => by
  have := (List.cons.inj e).1
  omega
theorem ztx_let : ∀ t, 1 ≤ t → t ≤ 8 → 0 < (ztx t).length ∧ ∀ i, i < (ztx t).length → 97 ≤ (ztx t).getD i 0 ∧ (ztx t).getD i 0 ≤ 122 := fun t h1 h8 => by
  have h : ∀ t, t < 9 → 1 ≤ t → 0 < (ztx t).length ∧ ∀ i, i < (ztx t).length → 97 ≤ (ztx t).getD i 0 ∧ (ztx t).getD i 0 ≤ 122 := by decide +kernel
  exact h t (by omega) h1
theorem v_zt {d : zD} {p t : Nat} {l : List Int} (b : Bool) (ht : 1 ≤ t ∧ t ≤ 8) (h : Nx d p ((if b then [32] else []) ++ (ztx t ++ l))) (hl : nL l) : ∃ d' t', f_X9_advance d = some (0, d') ∧ TK d' 0 t' (ztx t) l ∧ FT2 d d' := by
  obtain ⟨h1, h2⟩ := ztx_let t ht.1 ht.2
  have hm : ∀ y, y ∈ ztx t → 97 ≤ y ∧ y ≤ 122 := fun y hy => by
    obtain ⟨i, hi, e⟩ := List.mem_iff_getElem.mp hy
    have := h2 i hi
    rw [List.getD_eq_getElem?_getD, List.getElem?_eq_getElem hi] at this
    rw [← e]
    exact this
  cases hd : ztx t with
  | nil => rw [hd] at h1; exact absurd h1 (Nat.lt_irrefl _)
  | cons x u =>
    rw [hd] at h hm
    exact v_word b h hm hl
/-- the terminals that are told so far: a, b, .. -/
def YN (d : zD) (m : Nat) : Prop := d 13 0 = (m : Int) ∧ m ≤ 4 ∧ ∀ x, x < m → d 14 x = (x : Int) + 1
theorem YN.c {d d' : zD} {m : Nat} (h : YN d m) (e : d' 13 = d 13) (e1 : d' 14 = d 14) : YN d' m := ⟨by rw [e]; exact h.1, h.2.1, fun x hx => by rw [e1]; exact h.2.2 x hx⟩
theorem YN.t {d d' : zD} {m : Nat} (h : YN d m) (f : FT2 d d') : YN d' m := h.c (f.1 13 (by omega)) (f.1 14 (by omega))
theorem y_find {d : zD} {m k : Nat} (h : YN d m) (hk : k ≤ 26) : f_X6_find 13 ((k : Int) + 1) d = some (if k < m then (k : Int) else -1, d) := by
  obtain ⟨h0, h4, hx⟩ := h
  have hF := zF_big
  have loop : ∀ (r q : Nat) {x : Nat}, x + r = m → x ≤ k → r < q → l_X6_find_2 13 q ((k : Int) + 1) (x : Int) d = some (if k < m then (k : Int) else -1, d) := by
    intro r
    induction r with
    | zero =>
      intro q x hr hxk hq
      obtain ⟨q, rfl⟩ : ∃ q0, q = q0 + 1 := ⟨q - 1, by omega⟩
      show l_X6_find_2F 13 _ _ (x : Int) d = _
      unfold l_X6_find_2F
      rw [zl_n, h0, if_pos (by omega), if_neg (by omega)]
    | succ r ih =>
      intro q x hr hxk hq
      obtain ⟨q, rfl⟩ : ∃ q0, q = q0 + 1 := ⟨q - 1, by omega⟩
      show l_X6_find_2F 13 _ _ (x : Int) d = _
      unfold l_X6_find_2F
      rw [zl_n, h0, if_neg (by omega), zg_t (by omega), zl_n, Int.toNat_natCast, hx x (by omega)]
      by_cases e : x = k
      · subst e
        rw [if_pos rfl, if_pos (by omega)]
      · rw [if_neg (by omega), zl_n, zw_id (by omega) (by omega)]
        exact ih q (x := x + 1) (by omega) (by omega) (by omega)
  exact loop m zF (x := 0) (by omega) (by omega) (by omega)
theorem y_add {d : zD} {m : Nat} (h : YN d m) (hm : m < 4) : ∃ d', f_X6_addTerminal 13 ((m : Int) + 1) d = some (0, d') ∧ YN d' (m + 1) ∧ ∀ c, c < 13 → d' c = d c := by
  obtain ⟨h0, h4, hx⟩ := h
  refine ⟨zu (zu (zu (zu (zu d 14 m ((m : Int) + 1)) 15 m 2) 16 m 2) 17 m 5) 13 0 ((m : Int) + 1), ?_, ⟨by rw [zu_eq]; omega, by omega, fun x hx1 => ?_⟩, fun c hc => by rw [zu_row (by omega), zu_row (by omega), zu_row (by omega), zu_row (by omega), zu_row (by omega)]⟩
  · have G : ∀ (d1 : zD) (a : Nat) (v : Int), d1 13 0 = (m : Int) → a ≠ 13 → zu d1 a m v 13 0 = (m : Int) := fun d1 a v h9 ha => by rw [zu_row (Ne.symm ha)]; exact h9
    have g1 := G d 14 ((m : Int) + 1) h0 (by omega)
    have g2 := G _ 15 2 g1 (by omega)
    have g3 := G _ 16 2 g2 (by omega)
    have g4 := G _ 17 5 g3 (by omega)
    unfold f_X6_addTerminal
    rw [zl_n, h0, if_neg (by omega), zl_n, zg_t (by omega), zl_n, Int.toNat_natCast, zl_n, g1, zg_t (by omega), zl_n, Int.toNat_natCast, zl_n, g2, zg_t (by omega), zl_n, Int.toNat_natCast, zl_n, g3, zg_t (by omega), zl_n, Int.toNat_natCast, zl_n, g4, zl_n, zw_id (by omega) (by omega), zl_n]
  · rw [zu_row (by omega), zu_row (by omega), zu_row (by omega), zu_row (by omega)]
    by_cases e : x = m
    · rw [e, zu_eq]
    · rw [zu_ne (Or.inr e)]
      exact hx x (by omega)
/-- a word with its number -/
theorem y_opt {d : zD} {t0 t a2 m : Nat} {lo hi v : Int} {X : List Int} (ht : t < 40) (h : TK d 0 t0 (ztx t) ([32] ++ (dgs v ++ X))) (hX : nD X) (hv : 0 ≤ v ∧ v ≤ 9999) (hr : lo ≤ v ∧ v ≤ hi) (hm : d 13 0 = (m : Int) + 1) (hm8 : m < 8) : ∃ d1 t1, TK d1 1 t1 (dgs v) X ∧ FT2 d d1 ∧ ∀ d2, f_X9_advance d1 = some (0, d2) → FT2 d1 d2 → f_X7_readOption t a2 8 lo hi d = some (1, zu d2 a2 m v) := by
  obtain ⟨d1, t1, a1, a2', a3⟩ := v_dgs true h.nx hv hX
  refine ⟨d1, t1, a2', a3, fun d2 b1 b2 => ?_⟩
  unfold f_X7_readOption
  rw [i_word h t ht, if_pos rfl, zc_n, if_neg (by decide), a1, zc_n, i_rnum a2' hv hr, b1, zc_n, zc_n, zl_n, b2.1 13 (by omega), a3.1 13 (by omega), hm, zl_n, zw_id (by omega) (by omega), if_neg (by omega), if_pos (by omega), zg_t (by omega), zl_n, show ((m : Int) + 1 - 1).toNat = m by omega]
theorem e33 : ztx 33 = [32] ++ (ztx 6 ++ [32]) := by decide +kernel
theorem e34 : ztx 34 = [32] ++ (ztx 7 ++ [32]) := by decide +kernel
theorem e35 : ztx 35 = [32] ++ (ztx 8 ++ [32]) := by decide +kernel
theorem e32 : ztx 32 = ztx 1 ++ [32] := by decide +kernel
theorem e36 : ztx 36 = ztx 2 := by decide +kernel
theorem e37 : ztx 37 = [59] ++ (ztx 3 ++ [32]) := by decide +kernel
theorem e38 : ztx 38 = [59] ++ (ztx 4 ++ [32]) := by decide +kernel
theorem e39 : ztx 39 = [59] ++ (ztx 5 ++ [32]) := by decide +kernel
/-- a terminal's statement, its first word read -/
def sT1 (k : Nat) (v1 v2 v3 : Int) (X : List Int) : List Int := [32] ++ ([97 + (k : Int)] ++ ([32] ++ (ztx 6 ++ ([32] ++ (dgs v1 ++ ([32] ++ (ztx 7 ++ ([32] ++ (dgs v2 ++ ([32] ++ (ztx 8 ++ ([32] ++ (dgs v3 ++ ([59] ++ X))))))))))))))
theorem y_term {d : zD} {t0 m : Nat} {v1 v2 v3 : Int} {X : List Int} (h : TK d 0 t0 (ztx 1) (sT1 m v1 v2 v3 X)) (hn : YN d m) (hm : m < 4) (h1 : 1 ≤ v1 ∧ v1 ≤ 4) (h2 : 1 ≤ v2 ∧ v2 ≤ 4) (h3 : 0 ≤ v3 ∧ v3 ≤ 20) : ∃ d1 t1, f_X7_readStatement d = some (1, d1) ∧ TK d1 2 t1 [59] X ∧ YN d1 (m + 1) ∧ d1 12 = d 12 := by
  unfold sT1 at h
  obtain ⟨d1, t1, a1, a2, a3⟩ := v_word (x := 97 + (m : Int)) (u := []) true h.nx (fun y hy => by rw [List.mem_singleton] at hy; omega) (nL_c (by decide))
  obtain ⟨d2, b1, b2, b3⟩ := y_add (hn.t a3) hm
  obtain ⟨d3, t3, c1, c2, c3⟩ := v_zt (t := 6) true (by decide) (a2.c (b3 10 (by omega)) (b3 11 (by omega))).nx (nL_c (by decide))
  have n3 := b2.t c3
  obtain ⟨d4, t4, p1, p2, p3⟩ := y_opt (a2 := 15) (lo := 1) (hi := 9) (m := m) (by decide) c2 (nD_c (by decide)) (by omega) (by omega) (by have := n3.1; omega) (by omega)
  obtain ⟨d5, t5, g1, g2, g3⟩ := v_zt (t := 7) true (by decide) p1.nx (nL_c (by decide))
  have o1 := p3 d5 g1 g3
  have n5 : YN (zu d5 15 m v1) (m + 1) := ((n3.t p2).t g3).c (zu_row (by omega)) (zu_row (by omega))
  have k5 := g2.c (d' := zu d5 15 m v1) (zu_row (by omega)) (zu_row (by omega))
  obtain ⟨d6, t6, q1, q2, q3⟩ := y_opt (a2 := 16) (lo := 1) (hi := 4) (m := m) (by decide) k5 (nD_c (by decide)) (by omega) (by omega) (by have := n5.1; omega) (by omega)
  obtain ⟨d7, t7, r1, r2, r3⟩ := v_zt (t := 8) true (by decide) q1.nx (nL_c (by decide))
  have o2 := q3 d7 r1 r3
  have n7 : YN (zu d7 16 m v2) (m + 1) := ((n5.t q2).t r3).c (zu_row (by omega)) (zu_row (by omega))
  have k7 := r2.c (d' := zu d7 16 m v2) (zu_row (by omega)) (zu_row (by omega))
  obtain ⟨d8, t8, s1, s2, s3⟩ := y_opt (a2 := 17) (lo := 0) (hi := 30) (m := m) (by decide) k7 (nD_c (by decide)) (by omega) (by omega) (by have := n7.1; omega) (by omega)
  obtain ⟨d9, t9, w1, w2, w3⟩ := v_semi s1.nx
  have o3 := s3 d9 w1 w3
  have n9 : YN (zu d9 17 m v3) (m + 1) := ((n7.t s2).t w3).c (zu_row (by omega)) (zu_row (by omega))
  refine ⟨zu d9 17 m v3, t9, ?_, w2.c (zu_row (by omega)) (zu_row (by omega)), n9, ?_⟩
  · unfold f_X7_readStatement
    rw [i_word h 1 (by decide), if_pos rfl, zc_n, if_neg (by decide)]
    unfold f_X7_readTerminal
    rw [zl_n, hn.1, if_pos (by omega), a1, zc_n, i_name a2 (by omega), zc_n, if_neg (by omega), show 97 + (m : Int) - 96 = (m : Int) + 1 by omega, y_find (hn.t a3) (by omega), if_neg (Nat.lt_irrefl m), zc_n, if_pos rfl, b1, zc_n, c1, zc_n, show (13 + 2 : Nat) = 15 from rfl, o1, zc_n, if_neg (by decide), show (13 + 3 : Nat) = 16 from rfl, o2, zc_n, if_neg (by decide), show (13 + 4 : Nat) = 17 from rfl, o3, zc_n, if_neg (by decide), zc_n]
  · rw [zu_row (by omega), w3.1 12 (by omega), s2.1 12 (by omega), zu_row (by omega), r3.1 12 (by omega), q2.1 12 (by omega), zu_row (by omega), g3.1 12 (by omega), p2.1 12 (by omega), c3.1 12 (by omega), b3 12 (by omega), a3.1 12 (by omega)]
/-- a statement that may stand once is begun -/
theorem y_once {d : zD} {tv w tv' : Int} (h : d 12 6 = tv) (h1 : zand tv w = 0) (h2 : zor tv w = tv') : ∃ d1, (∀ c, c ≠ 12 → d1 c = d c) ∧ (∀ j, j ≠ 6 → d1 12 j = d 12 j) ∧ d1 12 6 = tv' ∧ ∀ d2, f_X9_advance d1 = some (0, d2) → f_X7_beginOnce w d = some (1, d2) := by
  refine ⟨zu d 12 6 tv', fun c hc => zu_row hc, fun j hj => zu_ne (Or.inr hj), zu_eq, fun d2 a => ?_⟩
  unfold f_X7_beginOnce
  rw [zl_n, h, zl_n, h1, if_pos rfl, zl_n, zl_n, h2, zl_n, a, zc_n]
/-- the list's places -/
def sPl : List Int → List Int → List Int
  | [], X => X
  | p :: ps, X => [32] ++ ([97 + p] ++ sPl ps X)
theorem y_places {m : Nat} {l : List Int} : ∀ (ps : List Int) (q : Nat) {x1 : Nat} {d : zD} {t0 n : Nat} {p : Int}, (∀ y, y ∈ p :: ps → 0 ≤ y ∧ y < (m : Int)) → TK d 0 t0 [97 + p] (sPl ps ([59] ++ l)) → YN d m → d 12 4 = (n : Int) → n + ps.length < 16 → x1 + ps.length < 500 → ps.length + 1 < q → ∃ d' t', l_X7_readList_2 q (x1 : Int) d = some (1, d') ∧ TK d' 2 t' [59] l ∧ YN d' m ∧ d' 12 6 = d 12 6 := by
  intro ps
  induction ps with
  | nil =>
    intro q x1 d t0 n p hp h hn h4 hn16 hx hq
    obtain ⟨q, rfl⟩ : ∃ q0, q = q0 + 1 + 1 := ⟨q - 2, by simp at hq; omega⟩
    have hp0 := hp p List.mem_cons_self
    have hm4 := hn.2.1
    obtain ⟨k, hk⟩ := Int.eq_ofNat_of_zero_le hp0.1
    subst hk
    have f12 : ∀ c, c ≠ 12 → c ≠ 19 → zu (zu d 19 n (k : Int)) 12 4 ((n : Int) + 1) c = d c := fun c c0 c1 => by rw [zu_row c0, zu_row c1]
    have k1 := h.c (d' := zu (zu d 19 n (k : Int)) 12 4 ((n : Int) + 1)) (f12 10 (by omega) (by omega)) (f12 11 (by omega) (by omega))
    obtain ⟨d2, t2, a1, a2, a3⟩ := v_semi k1.nx
    have n2 : YN d2 m := (hn.c (d' := zu (zu d 19 n (k : Int)) 12 4 ((n : Int) + 1)) (f12 13 (by omega) (by omega)) (f12 14 (by omega) (by omega))).t a3
    refine ⟨d2, t2, ?_, a2, n2, by rw [a3.1 12 (by omega), zu_ne (by omega), zu_row (by omega)]⟩
    show l_X7_readList_2F _ (x1 : Int) d = _
    unfold l_X7_readList_2F
    rw [if_neg (by omega), i_name h (by omega), zc_n, if_neg (by omega), show 97 + (k : Int) - 96 = (k : Int) + 1 by omega, y_find hn (by omega), if_pos (by omega), zc_n, if_neg (by omega), zl_n, h4, if_pos (by simp at hn16; omega), zl_n, zg_t (by simp at hn16; omega), zl_n, Int.toNat_natCast, zl_n, zu_row (by omega), h4, zl_n, zw_id (by omega) (by simp at hn16; omega), zl_n, a1, zc_n, zl_n, zw_id (by omega) (by omega)]
    show l_X7_readList_2F _ ((x1 : Int) + 1) d2 = _
    unfold l_X7_readList_2F
    rw [if_neg (by omega), i_noname (by rw [a2.1]; decide), zc_n, if_pos rfl, zl_n, a3.1 12 (by omega), zu_eq, if_pos (by omega)]
  | cons p2 ps ih =>
    intro q x1 d t0 n p hp h hn h4 hn16 hx hq
    rw [List.length_cons] at hn16 hx hq
    obtain ⟨q, rfl⟩ : ∃ q0, q = q0 + 1 := ⟨q - 1, by omega⟩
    have hp0 := hp p List.mem_cons_self
    have hp2 := hp p2 (List.mem_cons_of_mem _ List.mem_cons_self)
    have hm4 := hn.2.1
    obtain ⟨k, hk⟩ := Int.eq_ofNat_of_zero_le hp0.1
    subst hk
    have f12 : ∀ c, c ≠ 12 → c ≠ 19 → zu (zu d 19 n (k : Int)) 12 4 ((n : Int) + 1) c = d c := fun c c0 c1 => by rw [zu_row c0, zu_row c1]
    have k1 := h.c (d' := zu (zu d 19 n (k : Int)) 12 4 ((n : Int) + 1)) (f12 10 (by omega) (by omega)) (f12 11 (by omega) (by omega))
    have hnl : nL (sPl ps ([59] ++ l)) := by
      cases ps with
      | nil => exact nL_c (by decide)
      | cons a b => exact nL_c (by decide)
    obtain ⟨d2, t2, a1, a2, a3⟩ := v_word (x := 97 + p2) (u := []) true k1.nx (fun y hy => by rw [List.mem_singleton] at hy; omega) hnl
    have n2 : YN d2 m := (hn.c (d' := zu (zu d 19 n (k : Int)) 12 4 ((n : Int) + 1)) (f12 13 (by omega) (by omega)) (f12 14 (by omega) (by omega))).t a3
    obtain ⟨d3, t3, b1, b2, b3, b4⟩ := ih q (x1 := x1 + 1) (n := n + 1) (fun y hy => hp y (List.mem_cons_of_mem _ hy)) a2 n2 (by rw [a3.1 12 (by omega), zu_eq]; rfl) (by omega) (by omega) (by omega)
    refine ⟨d3, t3, ?_, b2, b3, by rw [b4, a3.1 12 (by omega), zu_ne (by omega), zu_row (by omega)]⟩
    rw [← b1]
    show l_X7_readList_2F _ (x1 : Int) d = _
    unfold l_X7_readList_2F
    rw [if_neg (by omega), i_name h (by omega), zc_n, if_neg (by omega), show 97 + (k : Int) - 96 = (k : Int) + 1 by omega, y_find hn (by omega), if_pos (by omega), zc_n, if_neg (by omega), zl_n, h4, if_pos (by omega), zl_n, zg_t (by omega), zl_n, Int.toNat_natCast, zl_n, zu_row (by omega), h4, zl_n, zw_id (by omega) (by omega), zl_n, a1, zc_n, zl_n, zw_id (by omega) (by omega)]
    rfl
theorem ztx_ne0 : ∀ s, s < 6 → ∀ t, t < 6 → (s = 0 ∨ t = 0 ∨ s = t ∨ ¬ ztx s = ztx t) := by decide +kernel
theorem ztx_ne (s : Nat) (hs : s < 6) (h1 : 1 ≤ s) (t : Nat) (ht : t < 6) (h2 : 1 ≤ t) (h : s ≠ t) : ztx s ≠ ztx t := by
  rcases ztx_ne0 s hs t ht with q | q | q | q
  · omega
  · omega
  · exact absurd q h
  · exact q
theorem y_list {d : zD} {t0 m : Nat} {p : Int} {ps X : List Int} (h : TK d 0 t0 (ztx 2) (sPl (p :: ps) ([59] ++ X))) (hn : YN d m) (hp : ∀ y, y ∈ p :: ps → 0 ≤ y ∧ y < (m : Int)) (hl : ps.length < 16) (h4 : d 12 4 = 0) (h6 : d 12 6 = 0) : ∃ d1 t1, f_X7_readStatement d = some (1, d1) ∧ TK d1 2 t1 [59] X ∧ YN d1 m ∧ d1 12 6 = 1 := by
  obtain ⟨d1, a1, a2, a3, a4⟩ := y_once (w := 1) (tv' := 1) h6 (by decide) (by decide)
  have hp0 := hp p List.mem_cons_self
  have hm4 := hn.2.1
  have hF := zF_big
  have hnl : nL (sPl ps ([59] ++ X)) := by
    cases ps with
    | nil => exact nL_c (by decide)
    | cons a b => exact nL_c (by decide)
  obtain ⟨d2, t2, b1, b2, b3⟩ := v_word (x := 97 + p) (u := []) true (h.c (a1 10 (by omega)) (a1 11 (by omega))).nx (fun y hy => by rw [List.mem_singleton] at hy; omega) hnl
  have n2 : YN d2 m := (hn.c (a1 13 (by omega)) (a1 14 (by omega))).t b3
  obtain ⟨d3, t3, c1, c2, c3, c4⟩ := y_places (m := m) ps zF (x1 := 0) (n := 0) hp b2 n2 (by rw [b3.1 12 (by omega), a2 4 (by omega), h4]; rfl) (by omega) (by omega) (by omega)
  refine ⟨d3, t3, ?_, c2, c3, by rw [c4, b3.1 12 (by omega), a3]⟩
  unfold f_X7_readStatement
  rw [i_word h 1 (by decide), if_neg (ztx_ne 2 (by decide) (by decide) 1 (by decide) (by decide) (by decide)), zc_n, if_pos rfl, i_word h 2 (by decide), if_pos rfl, zc_n, if_neg (by decide), a4 d2 b1, zc_n, if_neg (by decide)]
  unfold f_X7_readList
  rw [show (0 : Int) = ((0 : Nat) : Int) from rfl, c1, zc_n, if_neg (by decide)]
/-- settings -/
theorem y_set {d d2 : zD} {q t0 : Nat} {e : Int} {i : Nat} {v : Int} {X : List Int} (h : TK d 1 t0 (dgs v) X) (hi : (i : Int) ≤ e ∧ e < 6) (hv : 0 ≤ v ∧ v ≤ 9999) (hr : ztab 0 i ≤ v ∧ v ≤ ztab 1 i) (ha : f_X9_advance d = some (0, d2)) : l_X7_readSettings_2 (q + 1) e (i : Int) d = l_X7_readSettings_2 q e ((i + 1 : Nat) : Int) (zu d2 18 i v) := by
  show l_X7_readSettings_2F _ e (i : Int) d = _
  unfold l_X7_readSettings_2F
  rw [if_neg (by omega), zg_t (by omega), zl_n, zg_t (by omega), zl_n, Int.toNat_natCast, i_rnum h hv hr, ha, zc_n, zc_n, if_neg (by omega), zg_t (by omega), zl_n, zl_n, zw_id (by omega) (by omega)]
  rfl
theorem y_setn {d : zD} {q : Nat} {e i : Int} (h : e < i) : l_X7_readSettings_2 (q + 1) e i d = some (1, d) := by
  show l_X7_readSettings_2F _ e i d = _
  unfold l_X7_readSettings_2F
  rw [if_pos h]
theorem y_line {d : zD} {t0 m : Nat} {a b c e : Int} {X : List Int} (h : TK d 0 t0 (ztx 3) ([32] ++ (dgs a ++ ([32] ++ (dgs b ++ ([32] ++ (dgs c ++ ([32] ++ (dgs e ++ ([59] ++ X)))))))))) (hn : YN d m) (ha : 1 ≤ a ∧ a ≤ 8) (hb : 1 ≤ b ∧ b ≤ 5) (hc : 1 ≤ c ∧ c ≤ 3) (he : 0 ≤ e ∧ e ≤ 6) (h6 : d 12 6 = 1) : ∃ d1 t1, f_X7_readStatement d = some (1, d1) ∧ TK d1 2 t1 [59] X ∧ YN d1 m ∧ d1 12 6 = 3 := by
  obtain ⟨d1, a1, a2, a3, a4⟩ := y_once (w := 2) (tv' := 3) h6 (by decide) (by decide)
  obtain ⟨d2, t2, b1, b2, b3⟩ := v_dgs true (h.c (a1 10 (by omega)) (a1 11 (by omega))).nx (by omega) (nD_c (by decide))
  have n2 : YN d2 m := (hn.c (a1 13 (by omega)) (a1 14 (by omega))).t b3
  have g : ∀ (d3 : zD) {i : Nat} {v : Int} {c : Nat}, c ≠ 18 → zu d3 18 i v c = d3 c := fun d3 {i v c} hc => zu_row hc
  obtain ⟨d3, t3, c1, c2, c3⟩ := v_dgs true b2.nx (by omega) (nD_c (by decide))
  have k3 := c2.c (d' := zu d3 18 0 a) (g d3 (by omega)) (g d3 (by omega))
  obtain ⟨d4, t4, e1, e2, e3⟩ := v_dgs true k3.nx (by omega) (nD_c (by decide))
  have k4 := e2.c (d' := zu d4 18 1 b) (g d4 (by omega)) (g d4 (by omega))
  obtain ⟨d5, t5, f1, f2, f3⟩ := v_dgs true k4.nx (by omega) (nD_c (by decide))
  have k5 := f2.c (d' := zu d5 18 2 c) (g d5 (by omega)) (g d5 (by omega))
  obtain ⟨d6, t6, w1, w2, w3⟩ := v_semi k5.nx
  have all : ∀ k, k ≠ 10 → k ≠ 18 → zu d6 18 3 e k = d2 k := fun k h10 h18 => by rw [g d6 h18, w3.1 k h10, g d5 h18, f3.1 k h10, g d4 h18, e3.1 k h10, g d3 h18, c3.1 k h10]
  refine ⟨zu d6 18 3 e, t6, ?_, w2.c (g d6 (by omega)) (g d6 (by omega)), n2.c (all 13 (by omega) (by omega)) (all 14 (by omega) (by omega)), by rw [all 12 (by omega) (by omega), b3.1 12 (by omega), a3]⟩
  obtain ⟨q, hq⟩ := zF_5
  unfold f_X7_readStatement
  rw [i_word h 1 (by decide), if_neg (ztx_ne 3 (by decide) (by decide) 1 (by decide) (by decide) (by decide)), zc_n, if_pos rfl, i_word h 2 (by decide), if_neg (ztx_ne 3 (by decide) (by decide) 2 (by decide) (by decide) (by decide)), zc_n, if_pos rfl, i_word h 3 (by decide), if_pos rfl, zc_n, if_neg (by decide), a4 d2 b1, zc_n, if_neg (by decide)]
  unfold f_X7_readSettings
  rw [hq, show (0 : Int) = ((0 : Nat) : Int) from rfl, y_set (i := 0) b2 (by omega) (by omega) (by show (1 : Int) ≤ a ∧ a ≤ 20; omega) c1, y_set (i := 1) k3 (by omega) (by omega) (by show (1 : Int) ≤ b ∧ b ≤ 5; omega) e1, y_set (i := 2) k4 (by omega) (by omega) (by show (1 : Int) ≤ c ∧ c ≤ 5; omega) f1, y_set (i := 3) k5 (by omega) (by omega) (by show (0 : Int) ≤ e ∧ e ≤ 20; omega) w1, y_setn (by omega), zc_n, if_neg (by decide)]
theorem y_burst {d : zD} {t0 m : Nat} {a : Int} {X : List Int} (h : TK d 0 t0 (ztx 4) ([32] ++ (dgs a ++ ([59] ++ X)))) (hn : YN d m) (ha : 0 ≤ a ∧ a ≤ 3) (h6 : d 12 6 = 3) : ∃ d1 t1, f_X7_readStatement d = some (1, d1) ∧ TK d1 2 t1 [59] X ∧ YN d1 m ∧ d1 12 6 = 7 := by
  obtain ⟨d1, a1, a2, a3, a4⟩ := y_once (w := 4) (tv' := 7) h6 (by decide) (by decide)
  obtain ⟨d2, t2, b1, b2, b3⟩ := v_dgs true (h.c (a1 10 (by omega)) (a1 11 (by omega))).nx (by omega) (nD_c (by decide))
  have n2 : YN d2 m := (hn.c (a1 13 (by omega)) (a1 14 (by omega))).t b3
  obtain ⟨d6, t6, w1, w2, w3⟩ := v_semi b2.nx
  have all : ∀ k, k ≠ 10 → k ≠ 18 → zu d6 18 4 a k = d2 k := fun k h10 h18 => by rw [zu_row h18, w3.1 k h10]
  refine ⟨zu d6 18 4 a, t6, ?_, w2.c (zu_row (by omega)) (zu_row (by omega)), n2.c (all 13 (by omega) (by omega)) (all 14 (by omega) (by omega)), by rw [all 12 (by omega) (by omega), b3.1 12 (by omega), a3]⟩
  obtain ⟨q, hq⟩ := zF_5
  unfold f_X7_readStatement
  rw [i_word h 1 (by decide), if_neg (ztx_ne 4 (by decide) (by decide) 1 (by decide) (by decide) (by decide)), zc_n, if_pos rfl, i_word h 2 (by decide), if_neg (ztx_ne 4 (by decide) (by decide) 2 (by decide) (by decide) (by decide)), zc_n, if_pos rfl, i_word h 3 (by decide), if_neg (ztx_ne 4 (by decide) (by decide) 3 (by decide) (by decide) (by decide)), zc_n, if_pos rfl, i_word h 4 (by decide), if_pos rfl, zc_n, if_neg (by decide), a4 d2 b1, zc_n, if_neg (by decide)]
  unfold f_X7_readSettings
  rw [hq, show (4 : Int) = ((4 : Nat) : Int) from rfl, y_set (i := 4) b2 (by omega) (by omega) (by show (0 : Int) ≤ a ∧ a ≤ 5; omega) w1, y_setn (by omega), zc_n, if_neg (by decide)]
theorem y_noise {d : zD} {t0 m : Nat} {a b : Int} {X : List Int} (h : TK d 0 t0 (ztx 5) ([32] ++ (dgs a ++ ([32] ++ (dgs b ++ ([59] ++ X)))))) (hn : YN d m) (ha : 0 ≤ a ∧ a ≤ 60) (hb : 0 ≤ b ∧ b ≤ 9999) (h6 : d 12 6 = 7) : ∃ d1 t1, f_X7_readStatement d = some (1, d1) ∧ TK d1 2 t1 [59] X ∧ YN d1 m := by
  obtain ⟨d1, a1, a2, a3, a4⟩ := y_once (w := 8) (tv' := 15) h6 (by decide) (by decide)
  obtain ⟨d2, t2, b1, b2, b3⟩ := v_dgs true (h.c (a1 10 (by omega)) (a1 11 (by omega))).nx (by omega) (nD_c (by decide))
  have n2 : YN d2 m := (hn.c (a1 13 (by omega)) (a1 14 (by omega))).t b3
  obtain ⟨d3, t3, c1, c2, c3⟩ := v_dgs true b2.nx (by omega) (nD_c (by decide))
  have k3 := c2.c (d' := zu d3 18 5 a) (zu_row (by omega)) (zu_row (by omega))
  obtain ⟨d6, t6, w1, w2, w3⟩ := v_semi k3.nx
  have all : ∀ k, k ≠ 10 → k ≠ 18 → k ≠ 12 → zu d6 12 5 b k = d2 k := fun k h10 h18 h12 => by rw [zu_row h12, w3.1 k h10, zu_row h18, c3.1 k h10]
  refine ⟨zu d6 12 5 b, t6, ?_, w2.c (zu_row (by omega)) (zu_row (by omega)), n2.c (all 13 (by omega) (by omega) (by omega)) (all 14 (by omega) (by omega) (by omega))⟩
  obtain ⟨q, hq⟩ := zF_5
  unfold f_X7_readStatement
  rw [i_word h 1 (by decide), if_neg (ztx_ne 5 (by decide) (by decide) 1 (by decide) (by decide) (by decide)), zc_n, if_pos rfl, i_word h 2 (by decide), if_neg (ztx_ne 5 (by decide) (by decide) 2 (by decide) (by decide) (by decide)), zc_n, if_pos rfl, i_word h 3 (by decide), if_neg (ztx_ne 5 (by decide) (by decide) 3 (by decide) (by decide) (by decide)), zc_n, if_pos rfl, i_word h 4 (by decide), if_neg (ztx_ne 5 (by decide) (by decide) 4 (by decide) (by decide) (by decide)), zc_n, if_pos rfl, i_word h 5 (by decide), if_pos rfl, zc_n, if_neg (by decide), a4 d2 b1, zc_n, if_neg (by decide)]
  unfold f_X7_readSettings
  rw [hq, show (5 : Int) = ((5 : Nat) : Int) from rfl, y_set (i := 5) b2 (by omega) (by omega) (by show (0 : Int) ≤ a ∧ a ≤ 99; omega) c1, y_setn (by omega), zc_n, if_neg (by decide)]
  unfold f_X7_readSeed
  rw [i_rnum k3 hb (by omega), w1, zc_n, zc_n, if_neg (by omega), zl_n, zc_n, if_neg (by decide)]
/-- one statement of the text -/
theorem y_stm {d d1 d2 : zD} {q t1 : Nat} {x : Int} {X : List Int} (hx : 0 ≤ x ∧ x < 100) (h : d 10 2 ≠ 3) (hs : f_X7_readStatement d = some (1, d1)) (hk : TK d1 2 t1 [59] X) (ha : f_X9_advance d1 = some (0, d2)) : l_X7_readText_46 (q + 1) x d = l_X7_readText_46 q (x + 1) d2 := by
  show l_X7_readText_46F _ x d = _
  unfold l_X7_readText_46F
  have e : f_X9_isAtEnd d = some (0, d) := by
    unfold f_X9_isAtEnd
    rw [zl_n, if_neg h]
  rw [if_neg (by omega), e, zc_n, if_pos rfl, hs, zc_n, if_neg (by decide), i_rsemi hk.1, ha, zc_n, zc_n, if_neg (by decide), zl_n, zw_id (by omega) (by omega)]
theorem y_last {d : zD} {q m : Nat} {x : Int} (hx : 0 ≤ x ∧ x < 100) (h : d 10 2 = 3) (hn : YN d m) (hm : 0 < m) : l_X7_readText_46 (q + 1) x d = some (1, d) := by
  show l_X7_readText_46F _ x d = _
  unfold l_X7_readText_46F
  have e : f_X9_isAtEnd d = some (1, d) := by
    unfold f_X9_isAtEnd
    rw [zl_n, if_pos h]
  rw [if_neg (by omega), e, zc_n, if_neg (by decide)]
  unfold j_X7_readText_88
  rw [zl_n, hn.1, if_pos (by omega)]
