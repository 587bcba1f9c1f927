/-! The class reads: what remains of the text, and one token. -/
/-- from the place p on the text is l, to its end -/
def Rd (d : zD) (p : Nat) (l : List Int) : Prop := p + l.length ≤ 600 ∧ d 10 1 = ((p + l.length : Nat) : Int) ∧ ∀ i, i < l.length → d 11 (p + i) = l.getD i 0
theorem Rd.hd {d : zD} {p : Nat} {x : Int} {l : List Int} (h : Rd d p (x :: l)) : d 11 p = x ∧ (p : Int) < d 10 1 ∧ p < 600 := by
  obtain ⟨h1, h2, h3⟩ := h
  rw [List.length_cons] at h1 h2
  have e := h3 0 (by rw [List.length_cons]; omega)
  exact ⟨e, by rw [h2]; omega, by omega⟩
theorem Rd.tl {d : zD} {p : Nat} {x : Int} {l : List Int} (h : Rd d p (x :: l)) : Rd d (p + 1) l := by
  obtain ⟨h1, h2, h3⟩ := h
  rw [List.length_cons] at h1 h2
  refine ⟨by omega, by rw [h2]; omega, fun i hi => ?_⟩
  have e := h3 (i + 1) (by rw [List.length_cons]; omega)
  rw [show p + 1 + i = p + (i + 1) by omega]
  exact e
theorem Rd.nil {d : zD} {p : Nat} (h : Rd d p []) : d 10 1 = (p : Int) := h.2.1
theorem Rd.app {d : zD} : ∀ (u : List Int) {p : Nat} {l : List Int}, Rd d p (u ++ l) → Rd d (p + u.length) l := by
  intro u
  induction u with
  | nil => intro p l h; exact h
  | cons x u ih =>
    intro p l h
    have := ih (p := p + 1) (l := l) h.tl
    rw [List.length_cons, show p + (u.length + 1) = p + 1 + u.length by omega]
    exact this
theorem Rd.at {d : zD} {p : Nat} {u l : List Int} (h : Rd d p (u ++ l)) {i : Nat} (hi : i < u.length) : d 11 (p + i) = u.getD i 0 ∧ p + i < 600 := by
  obtain ⟨h1, h2, h3⟩ := h
  rw [List.length_append] at h1
  refine ⟨?_, by omega⟩
  rw [h3 i (by rw [List.length_append]; omega), List.getD_eq_getElem?_getD, List.getD_eq_getElem?_getD, List.getElem?_append_left hi]
def F4 (d d' : zD) : Prop := (∀ c, c ≠ 10 → d' c = d c) ∧ ∀ j, j ≠ 4 → d' 10 j = d 10 j
theorem F4.rf {d : zD} : F4 d d := ⟨fun _ _ => rfl, fun _ _ => rfl⟩
theorem F4.tr {a b c : zD} (h : F4 a b) (q : F4 b c) : F4 a c := ⟨fun k k1 => (q.1 k k1).trans (h.1 k k1), fun j j1 => (q.2 j j1).trans (h.2 j j1)⟩
theorem F4.u {d : zD} {v : Int} : F4 d (zu d 10 4 v) := ⟨fun k k1 => zu_row k1, fun j j1 => zu_ne (Or.inr j1)⟩
theorem Rd.f {d d' : zD} {p : Nat} {l : List Int} (h : Rd d p l) (f : F4 d d') : Rd d' p l := ⟨h.1, by rw [f.2 1 (by omega)]; exact h.2.1, fun i hi => by rw [f.1 11 (by omega)]; exact h.2.2 i hi⟩
theorem Rd.t {d d' : zD} {p : Nat} {l : List Int} (h : Rd d p l) (f : FT2 d d') : Rd d' p l := ⟨h.1, by rw [f.2 1 (by omega)]; exact h.2.1, fun i hi => by rw [f.1 11 (by omega)]; exact h.2.2 i hi⟩
theorem Rd.c {d d' : zD} {p : Nat} {l : List Int} (h : Rd d p l) (e : d' 10 = d 10) (e1 : d' 11 = d 11) : Rd d' p l := ⟨h.1, by rw [e]; exact h.2.1, fun i hi => by rw [e1]; exact h.2.2 i hi⟩
theorem F4.t {d d' : zD} (h : F4 d d') : FT2 d d' := ⟨h.1, fun j hj => h.2 j (by omega)⟩
/-- the rest doesn't begin with a letter, a digit -/
def nL (l : List Int) : Prop := ∀ x r, l = x :: r → ¬ (97 ≤ x ∧ x ≤ 122)
def nD (l : List Int) : Prop := ∀ x r, l = x :: r → ¬ (48 ≤ x ∧ x ≤ 57)
theorem y_word {l : List Int} (hl : nL l) : ∀ (u : List Int) (q : Nat) {d : zD} {p : Nat}, (∀ x, x ∈ u → 97 ≤ x ∧ x ≤ 122) → Rd d p (u ++ l) → d 10 4 = (p : Int) → u.length < q → ∃ d', l_X9_advance_114 q d = some (0, d') ∧ d' 10 4 = ((p + u.length : Nat) : Int) ∧ F4 d d' := by
  intro u
  induction u with
  | nil =>
    intro q d p _ h h4 hq
    obtain ⟨q, rfl⟩ : ∃ q0, q = q0 + 1 := ⟨q - 1, by simp at hq; omega⟩
    refine ⟨d, ?_, h4, F4.rf⟩
    show l_X9_advance_114F _ d = _
    unfold l_X9_advance_114F
    rw [zl_n, h4, zl_n]
    cases l with
    | nil => rw [Rd.nil h, if_pos (Int.le_refl _)]
    | cons x r =>
      obtain ⟨e1, e2, e3⟩ := Rd.hd h
      have hx := hl x r rfl
      rw [if_neg (by omega), zl_n, zg_t (by omega), zl_n, Int.toNat_natCast, e1]
      by_cases h1 : x < 97
      · rw [if_pos h1]
      · rw [if_neg h1, zl_n, zg_t (by omega), zl_n, Int.toNat_natCast, e1, if_pos (by omega)]
  | cons x u ih =>
    intro q d p hu h h4 hq
    rw [List.length_cons] at hq
    obtain ⟨q, rfl⟩ : ∃ q0, q = q0 + 1 := ⟨q - 1, by omega⟩
    obtain ⟨e1, e2, e3⟩ := Rd.hd h
    have hx := hu x List.mem_cons_self
    obtain ⟨d', a1, a2, a3⟩ := ih q (d := zu d 10 4 ((p + 1 : Nat) : Int)) (p := p + 1) (fun y hy => hu y (List.mem_cons_of_mem _ hy)) ((Rd.tl h).f F4.u) zu_eq (by omega)
    refine ⟨d', ?_, by rw [a2, List.length_cons]; omega, F4.tr F4.u a3⟩
    rw [← a1]
    show l_X9_advance_114F _ d = _
    unfold l_X9_advance_114F
    rw [zl_n, h4, zl_n, if_neg (by omega), zl_n, zg_t (by omega), zl_n, Int.toNat_natCast, e1, if_neg (by omega), zl_n, zg_t (by omega), zl_n, Int.toNat_natCast, e1, if_neg (by omega), zl_n, zl_n, zw_id (by omega) (by omega), zl_n]
    rfl
theorem y_num {l : List Int} (hl : nD l) : ∀ (u : List Int) (q : Nat) {d : zD} {p : Nat}, (∀ x, x ∈ u → 48 ≤ x ∧ x ≤ 57) → Rd d p (u ++ l) → d 10 4 = (p : Int) → u.length < q → ∃ d', l_X9_advance_178 q d = j_X9_advance_230 d' ∧ d' 10 4 = ((p + u.length : Nat) : Int) ∧ F4 d d' := by
  intro u
  induction u with
  | nil =>
    intro q d p _ h h4 hq
    obtain ⟨q, rfl⟩ : ∃ q0, q = q0 + 1 := ⟨q - 1, by simp at hq; omega⟩
    refine ⟨d, ?_, h4, F4.rf⟩
    show l_X9_advance_178F _ d = _
    unfold l_X9_advance_178F
    rw [zl_n, h4, zl_n]
    cases l with
    | nil => rw [Rd.nil h, if_pos (Int.le_refl _)]
    | cons x r =>
      obtain ⟨e1, e2, e3⟩ := Rd.hd h
      have hx := hl x r rfl
      rw [if_neg (by omega), zl_n, zg_t (by omega), zl_n, Int.toNat_natCast, e1]
      by_cases h1 : x < 48
      · rw [if_pos h1]
      · rw [if_neg h1, zl_n, zg_t (by omega), zl_n, Int.toNat_natCast, e1, if_pos (by omega)]
  | cons x u ih =>
    intro q d p hu h h4 hq
    rw [List.length_cons] at hq
    obtain ⟨q, rfl⟩ : ∃ q0, q = q0 + 1 := ⟨q - 1, by omega⟩
    obtain ⟨e1, e2, e3⟩ := Rd.hd h
    have hx := hu x List.mem_cons_self
    obtain ⟨d', a1, a2, a3⟩ := ih q (d := zu d 10 4 ((p + 1 : Nat) : Int)) (p := p + 1) (fun y hy => hu y (List.mem_cons_of_mem _ hy)) ((Rd.tl h).f F4.u) zu_eq (by omega)
    refine ⟨d', ?_, by rw [a2, List.length_cons]; omega, F4.tr F4.u a3⟩
    rw [← a1]
    show l_X9_advance_178F _ d = _
    unfold l_X9_advance_178F
    rw [zl_n, h4, zl_n, if_neg (by omega), zl_n, zg_t (by omega), zl_n, Int.toNat_natCast, e1, if_neg (by omega), zl_n, zg_t (by omega), zl_n, Int.toNat_natCast, e1, if_neg (by omega), zl_n, zl_n, zw_id (by omega) (by omega), zl_n]
    rfl
/-- the token at which the reading is: its kind, its place, its letters; what remains behind it -/
def TK (d : zD) (kd : Int) (t : Nat) (u l : List Int) : Prop := d 10 2 = kd ∧ d 10 3 = (t : Int) ∧ d 10 4 = ((t + u.length : Nat) : Int) ∧ Rd d t (u ++ l)
theorem TK.c {d d' : zD} {kd : Int} {t : Nat} {u l : List Int} (h : TK d kd t u l) (e : d' 10 = d 10) (e1 : d' 11 = d 11) : TK d' kd t u l := ⟨by rw [e]; exact h.1, by rw [e]; exact h.2.1, by rw [e]; exact h.2.2.1, h.2.2.2.c e e1⟩
/-- what is read next -/
def Nx (d : zD) (p : Nat) (l : List Int) : Prop := d 10 4 = (p : Int) ∧ Rd d p l
theorem TK.nx {d : zD} {kd : Int} {t : Nat} {u l : List Int} (h : TK d kd t u l) : Nx d (t + u.length) l := ⟨h.2.2.1, Rd.app u h.2.2.2⟩
theorem a_sp {d : zD} {p : Nat} {l : List Int} {q : Nat} (h : Nx d p (32 :: l)) : ∃ d', l_X9_advance_0 (q + 1) d = l_X9_advance_0 q d' ∧ Nx d' (p + 1) l ∧ F4 d d' := by
  obtain ⟨h4, hr⟩ := h
  obtain ⟨e1, e2, e3⟩ := Rd.hd hr
  refine ⟨zu d 10 4 ((p + 1 : Nat) : Int), ?_, ⟨zu_eq, (Rd.tl hr).f F4.u⟩, F4.u⟩
  show l_X9_advance_0F _ d = _
  unfold l_X9_advance_0F
  rw [zl_n, h4, zl_n, if_neg (by omega), zl_n, zg_t (by omega), zl_n, Int.toNat_natCast, e1, if_pos rfl]
  unfold j_X9_advance_39
  rw [zl_n, h4, zl_n, zw_id (by omega) (by omega), zl_n]
  rfl
theorem a_in {d : zD} {p : Nat} {x : Int} {l : List Int} {q : Nat} (h : Nx d p (x :: l)) (hx : x ≠ 32 ∧ x ≠ 10) : l_X9_advance_0 (q + 1) d = j_X9_advance_52 d := by
  obtain ⟨h4, hr⟩ := h
  obtain ⟨e1, e2, e3⟩ := Rd.hd hr
  show l_X9_advance_0F _ d = _
  unfold l_X9_advance_0F
  rw [zl_n, h4, zl_n, if_neg (by omega), zl_n, zg_t (by omega), zl_n, Int.toNat_natCast, e1, if_neg hx.1, zl_n, zg_t (by omega), zl_n, Int.toNat_natCast, e1, if_neg hx.2]
theorem a_word {d : zD} {p : Nat} {x : Int} {u l : List Int} (h : Nx d p (x :: u ++ l)) (hu : ∀ y, y ∈ x :: u → 97 ≤ y ∧ y ≤ 122) (hl : nL l) : ∃ d', j_X9_advance_52 d = some (0, d') ∧ TK d' 0 p (x :: u) l ∧ FT2 d d' := by
  obtain ⟨h4, hr⟩ := h
  have hF := zF_big
  have hx := hu x List.mem_cons_self
  obtain ⟨e1, e2, e3⟩ := Rd.hd (show Rd d p (x :: (u ++ l)) from hr)
  have hlen : u.length < 600 := by
    have := hr.1
    rw [List.length_append, List.length_cons] at this
    omega
  have k4 : zu d 10 3 (p : Int) 10 4 = (p : Int) := (zu_ne (by omega)).trans h4
  have k1 : zu d 10 3 (p : Int) 10 1 = d 10 1 := zu_ne (by omega)
  have k11 : zu d 10 3 (p : Int) 11 = d 11 := zu_row (by omega)
  have f0 : FT2 d (zu (zu (zu d 10 3 (p : Int)) 10 4 ((p + 1 : Nat) : Int)) 10 2 0) := ((FT2.u (by omega)).tr (FT2.u (by omega))).tr (FT2.u (by omega))
  obtain ⟨d', a1, a2, a3⟩ := y_word hl u zF (d := zu (zu (zu d 10 3 (p : Int)) 10 4 ((p + 1 : Nat) : Int)) 10 2 0) (p := p + 1) (fun y hy => hu y (List.mem_cons_of_mem _ hy)) ((Rd.tl (show Rd d p (x :: (u ++ l)) from hr)).t f0) (by rw [zu_ne (by omega), zu_eq]) (by omega)
  refine ⟨d', ?_, ⟨?_, ?_, ?_, (hr.t f0).t a3.t⟩, f0.tr a3.t⟩
  · unfold j_X9_advance_52
    rw [zl_n, h4, zl_n, zl_n, k4, zl_n, k1, if_pos (by omega), zl_n, zg_t (by omega), zl_n, Int.toNat_natCast, k11, e1, zl_n, zl_n, zw_id (by omega) (by omega), zl_n, if_neg (by omega), if_neg (by omega), zl_n]
    exact a1
  · rw [a3.2 2 (by omega), zu_eq]
  · rw [a3.2 3 (by omega), zu_ne (by omega), zu_ne (by omega), zu_eq]
  · rw [a2, List.length_cons]; omega
theorem a_num {d : zD} {p : Nat} {x : Int} {u l : List Int} (h : Nx d p (x :: u ++ l)) (hu : ∀ y, y ∈ x :: u → 48 ≤ y ∧ y ≤ 57) (h4l : u.length ≤ 3) (hl : nD l) : ∃ d', j_X9_advance_52 d = some (0, d') ∧ TK d' 1 p (x :: u) l ∧ FT2 d d' := by
  obtain ⟨h4, hr⟩ := h
  have hF := zF_big
  have hx := hu x List.mem_cons_self
  obtain ⟨e1, e2, e3⟩ := Rd.hd (show Rd d p (x :: (u ++ l)) from hr)
  have k4 : zu d 10 3 (p : Int) 10 4 = (p : Int) := (zu_ne (by omega)).trans h4
  have k1 : zu d 10 3 (p : Int) 10 1 = d 10 1 := zu_ne (by omega)
  have k11 : zu d 10 3 (p : Int) 11 = d 11 := zu_row (by omega)
  have f0 : FT2 d (zu (zu d 10 3 (p : Int)) 10 4 ((p + 1 : Nat) : Int)) := (FT2.u (by omega)).tr (FT2.u (by omega))
  obtain ⟨d', a1, a2, a3⟩ := y_num hl u zF (d := zu (zu d 10 3 (p : Int)) 10 4 ((p + 1 : Nat) : Int)) (p := p + 1) (fun y hy => hu y (List.mem_cons_of_mem _ hy)) ((Rd.tl (show Rd d p (x :: (u ++ l)) from hr)).t f0) zu_eq (by omega)
  have f1 : FT2 d' (zu d' 10 2 1) := FT2.u (by omega)
  refine ⟨zu d' 10 2 1, ?_, ⟨zu_eq, ?_, ?_, ((hr.t f0).t a3.t).t f1⟩, (f0.tr a3.t).tr f1⟩
  · unfold j_X9_advance_52
    rw [zl_n, h4, zl_n, zl_n, k4, zl_n, k1, if_pos (by omega), zl_n, zg_t (by omega), zl_n, Int.toNat_natCast, k11, e1, zl_n, zl_n, zw_id (by omega) (by omega), zl_n, if_pos (by omega)]
    unfold j_X9_advance_166
    rw [if_neg (by omega), if_neg (by omega)]
    refine a1.trans ?_
    unfold j_X9_advance_230
    rw [zl_n, a2, zl_n, a3.2 3 (by omega), zu_ne (by omega), zu_eq, zl_n, zw_id (by omega) (by omega), if_pos (by omega), zl_n]
  · rw [zu_ne (by omega), a3.2 3 (by omega), zu_ne (by omega), zu_eq]
  · rw [zu_ne (by omega), a2, List.length_cons]; omega
theorem a_semi {d : zD} {p : Nat} {l : List Int} (h : Nx d p (59 :: l)) : ∃ d', j_X9_advance_52 d = some (0, d') ∧ TK d' 2 p [59] l ∧ FT2 d d' := by
  obtain ⟨h4, hr⟩ := h
  obtain ⟨e1, e2, e3⟩ := Rd.hd hr
  have k4 : zu d 10 3 (p : Int) 10 4 = (p : Int) := (zu_ne (by omega)).trans h4
  have k1 : zu d 10 3 (p : Int) 10 1 = d 10 1 := zu_ne (by omega)
  have k11 : zu d 10 3 (p : Int) 11 = d 11 := zu_row (by omega)
  have f0 : FT2 d (zu (zu (zu d 10 3 (p : Int)) 10 4 ((p + 1 : Nat) : Int)) 10 2 2) := ((FT2.u (by omega)).tr (FT2.u (by omega))).tr (FT2.u (by omega))
  refine ⟨zu (zu (zu d 10 3 (p : Int)) 10 4 ((p + 1 : Nat) : Int)) 10 2 2, ?_, ⟨zu_eq, ?_, ?_, hr.t f0⟩, f0⟩
  · unfold j_X9_advance_52
    rw [zl_n, h4, zl_n, zl_n, k4, zl_n, k1, if_pos (by omega), zl_n, zg_t (by omega), zl_n, Int.toNat_natCast, k11, e1, zl_n, zl_n, zw_id (by omega) (by omega), zl_n, if_pos (by omega)]
    unfold j_X9_advance_166 j_X9_advance_255
    rw [if_neg (by omega), if_pos (by omega), if_pos rfl, zl_n]
    rfl
  · rw [zu_ne (by omega), zu_ne (by omega), zu_eq]
  · rw [zu_ne (by omega), zu_eq]; rfl
theorem a_end {d : zD} {p : Nat} {q : Nat} (h : Nx d p []) : ∃ d', l_X9_advance_0 (q + 1) d = some (0, d') ∧ d' 10 2 = 3 ∧ FT2 d d' := by
  obtain ⟨h4, hr⟩ := h
  have e := Rd.nil hr
  have k4 : zu d 10 3 (p : Int) 10 4 = (p : Int) := (zu_ne (by omega)).trans h4
  have k1 : zu d 10 3 (p : Int) 10 1 = d 10 1 := zu_ne (by omega)
  refine ⟨zu (zu d 10 3 (p : Int)) 10 2 3, ?_, zu_eq, (FT2.u (by omega)).tr (FT2.u (by omega))⟩
  show l_X9_advance_0F _ d = _
  unfold l_X9_advance_0F
  rw [zl_n, h4, zl_n, if_pos (by omega)]
  unfold j_X9_advance_52
  rw [zl_n, h4, zl_n, zl_n, k4, zl_n, k1, if_neg (by omega), zl_n]
theorem zF_2 : ∃ q, zF = q + 1 + 1 := ⟨99998, rfl⟩
/-- on to a word, a number, a semicolon, the end; behind a space or not -/
theorem v_word {d : zD} {p : Nat} {x : Int} {u l : List Int} (b : Bool) (h : Nx d p ((if b then [32] else []) ++ (x :: u ++ l))) (hu : ∀ y, y ∈ x :: u → 97 ≤ y ∧ y ≤ 122) (hl : nL l) : ∃ d' t, f_X9_advance d = some (0, d') ∧ TK d' 0 t (x :: u) l ∧ FT2 d d' := by
  obtain ⟨q, hq⟩ := zF_2
  have hx := hu x List.mem_cons_self
  unfold f_X9_advance
  rw [hq]
  cases b with
  | false =>
    obtain ⟨d', a1, a2, a3⟩ := a_word h hu hl
    exact ⟨d', p, (a_in (show Nx d p (x :: (u ++ l)) from h) (by omega)).trans a1, a2, a3⟩
  | true =>
    obtain ⟨d1, b1, b2, b3⟩ := a_sp (q := q + 1) (show Nx d p (32 :: (x :: u ++ l)) from h)
    obtain ⟨d', a1, a2, a3⟩ := a_word b2 hu hl
    exact ⟨d', p + 1, b1.trans ((a_in (show Nx d1 (p + 1) (x :: (u ++ l)) from b2) (by omega)).trans a1), a2, b3.t.tr a3⟩
theorem v_num {d : zD} {p : Nat} {x : Int} {u l : List Int} (b : Bool) (h : Nx d p ((if b then [32] else []) ++ (x :: u ++ l))) (hu : ∀ y, y ∈ x :: u → 48 ≤ y ∧ y ≤ 57) (h4l : u.length ≤ 3) (hl : nD l) : ∃ d' t, f_X9_advance d = some (0, d') ∧ TK d' 1 t (x :: u) l ∧ FT2 d d' := by
  obtain ⟨q, hq⟩ := zF_2
  have hx := hu x List.mem_cons_self
  unfold f_X9_advance
  rw [hq]
  cases b with
  | false =>
    obtain ⟨d', a1, a2, a3⟩ := a_num h hu h4l hl
    exact ⟨d', p, (a_in (show Nx d p (x :: (u ++ l)) from h) (by omega)).trans a1, a2, a3⟩
  | true =>
    obtain ⟨d1, b1, b2, b3⟩ := a_sp (q := q + 1) (show Nx d p (32 :: (x :: u ++ l)) from h)
    obtain ⟨d', a1, a2, a3⟩ := a_num b2 hu h4l hl
    exact ⟨d', p + 1, b1.trans ((a_in (show Nx d1 (p + 1) (x :: (u ++ l)) from b2) (by omega)).trans a1), a2, b3.t.tr a3⟩
theorem v_semi {d : zD} {p : Nat} {l : List Int} (h : Nx d p (59 :: l)) : ∃ d' t, f_X9_advance d = some (0, d') ∧ TK d' 2 t [59] l ∧ FT2 d d' := by
  obtain ⟨q, hq⟩ := zF_2
  unfold f_X9_advance
  rw [hq]
  obtain ⟨d', a1, a2, a3⟩ := a_semi h
  exact ⟨d', p, (a_in h (by omega)).trans a1, a2, a3⟩
theorem v_end {d : zD} {p : Nat} (h : Nx d p []) : ∃ d', f_X9_advance d = some (0, d') ∧ d' 10 2 = 3 ∧ FT2 d d' := by
  obtain ⟨q, hq⟩ := zF_2
  unfold f_X9_advance
  rw [hq]
  exact a_end h
/-- is it this word? -/
theorem k_word_y {t : Nat} {u : List Int} (hu : ∀ i, i < zslen t → u.getD i 0 = zsch t i) (hl : u.length = zslen t) (h33 : zslen t ≤ 33) : ∀ (m q : Nat) {k : Nat} {d : zD} {p : Nat} {l : List Int}, Rd d p (u ++ l) → d 10 3 = (p : Int) → k + m = zslen t → m < q → l_X9_isAtWord_27 t q (k : Int) d = some (1, d) := by
  intro m
  induction m with
  | zero =>
    intro q k d p l h h3 hk hq
    obtain ⟨q, rfl⟩ : ∃ q0, q = q0 + 1 := ⟨q - 1, by omega⟩
    show l_X9_isAtWord_27F t _ (k : Int) d = _
    unfold l_X9_isAtWord_27F
    rw [zl_n, if_pos (by omega)]
  | succ m ih =>
    intro q k d p l h h3 hk hq
    obtain ⟨q, rfl⟩ : ∃ q0, q = q0 + 1 := ⟨q - 1, by omega⟩
    obtain ⟨e1, e2⟩ := h.at (i := k) (by omega)
    have := ih q (k := k + 1) h h3 (by omega) (by omega)
    rw [← this]
    show l_X9_isAtWord_27F t _ (k : Int) d = _
    unfold l_X9_isAtWord_27F
    rw [zl_n, if_neg (by omega), zl_n, h3, zl_n, zw_id (by omega) (by omega), zg_t (by omega), zl_n, zg_t (by omega), zl_n, show ((p : Int) + (k : Int)).toNat = p + k by omega, e1, Int.toNat_natCast, if_pos (hu k (by omega)), zl_n, zw_id (by omega) (by omega)]
    rfl
theorem k_word_n {t : Nat} {u : List Int} (hl : u.length = zslen t) (h33 : zslen t ≤ 33) {j : Nat} (hj : j < zslen t) (hne : u.getD j 0 ≠ zsch t j) : ∀ (m q : Nat) {k : Nat} {d : zD} {p : Nat} {l : List Int}, Rd d p (u ++ l) → d 10 3 = (p : Int) → k + m = j → m < q → l_X9_isAtWord_27 t q (k : Int) d = some (0, d) := by
  intro m
  induction m with
  | zero =>
    intro q k d p l h h3 hk hq
    obtain ⟨q, rfl⟩ : ∃ q0, q = q0 + 1 := ⟨q - 1, by omega⟩
    obtain ⟨e1, e2⟩ := h.at (i := k) (by omega)
    have hkj : k = j := by omega
    subst hkj
    show l_X9_isAtWord_27F t _ (k : Int) d = _
    unfold l_X9_isAtWord_27F
    rw [zl_n, if_neg (by omega), zl_n, h3, zl_n, zw_id (by omega) (by omega), zg_t (by omega), zl_n, zg_t (by omega), zl_n, show ((p : Int) + (k : Int)).toNat = p + k by omega, e1, Int.toNat_natCast, if_neg hne]
  | succ m ih =>
    intro q k d p l h h3 hk hq
    obtain ⟨q, rfl⟩ : ∃ q0, q = q0 + 1 := ⟨q - 1, by omega⟩
    obtain ⟨e1, e2⟩ := h.at (i := k) (by omega)
    show l_X9_isAtWord_27F t _ (k : Int) d = _
    unfold l_X9_isAtWord_27F
    rw [zl_n, if_neg (by omega), zl_n, h3, zl_n, zw_id (by omega) (by omega), zg_t (by omega), zl_n, zg_t (by omega), zl_n, show ((p : Int) + (k : Int)).toNat = p + k by omega, e1, Int.toNat_natCast]
    by_cases hc : u.getD k 0 = zsch t k
    · rw [if_pos hc, zl_n, zw_id (by omega) (by omega)]
      exact ih q (k := k + 1) h h3 (by omega) (by omega)
    · rw [if_neg hc]
/-- the word at which the reading is -/
theorem i_word {d : zD} {t0 : Nat} {u l : List Int} (h : TK d 0 t0 u l) (t : Nat) (ht : t < 40) : f_X9_isAtWord t d = some (if u = ztx t then 1 else 0, d) := by
  obtain ⟨h2, h3, h4, hr⟩ := h
  have hF := zF_big
  have h33 := (zsl_ok t ht).2.2
  have h33' : zslen t ≤ 33 := by omega
  have hlen : u.length ≤ 600 := by
    have := hr.1
    rw [List.length_append] at this
    omega
  have ht0 : t0 ≤ 600 := by have := hr.1; omega
  unfold f_X9_isAtWord
  rw [zl_n, h2, if_pos rfl, zl_n, h4, zl_n, h3, zl_n, zw_id (by omega) (by omega), zl_n]
  by_cases hl : u.length = zslen t
  · rw [if_pos (by omega)]
    by_cases he : u = ztx t
    · rw [if_pos he]
      exact k_word_y (fun i _ => by rw [he]; exact ztx_at) hl h33' (zslen t) zF (k := 0) hr h3 (by omega) (by omega)
    · rw [if_neg he]
      have hex : ∃ j, j < zslen t ∧ u.getD j 0 ≠ zsch t j := by
        refine Classical.byContradiction fun hn => he ?_
        refine List.ext_getElem (by rw [hl, ztx_len]) fun i h1 h2 => ?_
        have h3 : u.getD i 0 = zsch t i := Classical.byContradiction fun q => hn ⟨i, by omega, q⟩
        rw [← ztx_at] at h3
        rw [List.getD_eq_getElem?_getD, List.getD_eq_getElem?_getD, List.getElem?_eq_getElem h1, List.getElem?_eq_getElem h2] at h3
        exact h3
      obtain ⟨j, hj, hne⟩ := hex
      exact k_word_n hl h33' hj hne j zF (k := 0) hr h3 (by omega) (by omega)
  · have he : u ≠ ztx t := fun q => hl (by rw [q, ztx_len])
    rw [if_neg he, if_neg (by omega)]
/-- at no word -/
theorem i_none {d : zD} {t : Nat} (h : d 10 2 ≠ 0) : f_X9_isAtWord t d = some (0, d) := by
  unfold f_X9_isAtWord
  rw [zl_n, if_neg h]
/-- a name of one letter -/
theorem i_name {d : zD} {t0 : Nat} {c : Int} {l : List Int} (h : TK d 0 t0 [c] l) (hc : 97 ≤ c ∧ c ≤ 122) : f_X9_nameHere d = some (c - 96, d) := by
  obtain ⟨q, hq⟩ := zF_2
  have hw := i_word h 16 (by decide)
  rw [if_neg (fun e => by have := congrArg List.length e; rw [ztx_len] at this; exact absurd (show 1 = zslen 16 from this) (by decide))] at hw
  obtain ⟨h2, h3, h4, hr⟩ := h
  obtain ⟨e1, e2, e3⟩ := Rd.hd (show Rd d t0 (c :: l) from hr)
  rw [List.length_singleton] at h4
  unfold f_X9_nameHere
  rw [zl_n, h2, if_pos rfl, zl_n, h4, zl_n, h3, zl_n, zw_id (by omega) (by omega), if_neg (by omega), hw, zc_n, if_pos rfl, zl_n, h4, zl_n, zw_id (by omega) (by omega), hq, show ((t0 + 1 : Nat) : Int) - 1 = (t0 : Int) by omega]
  show l_X9_nameHere_41F _ 0 (t0 : Int) d = _
  unfold l_X9_nameHere_41F
  have e5 : zshl 0 5 = 32 * 0 := z_shl5 (by omega)
  rw [zl_n, h3, if_neg (by omega), zl_n, zg_t (by omega), zl_n, Int.toNat_natCast, e1, zl_n, zw_id (x := c - 97) (by omega) (by omega), zl_n, zw_id (x := c - 97 + 1) (by omega) (by omega), zl_n, e5, z_or5 (by omega) (by omega), zl_n, zw_id (by omega) (by omega)]
  show l_X9_nameHere_41F _ _ ((t0 : Int) + -1) d = _
  unfold l_X9_nameHere_41F
  rw [zl_n, h3, if_pos (by omega)]
  congr 2
  omega
theorem i_noname {d : zD} (h : d 10 2 ≠ 0) : f_X9_nameHere d = some (-1, d) := by
  unfold f_X9_nameHere
  rw [zl_n, if_neg h]
/-- a number's value -/
theorem n_step {d : zD} {q : Nat} {acc b : Int} {x : Nat} {e : Int} (h4 : d 10 4 = e) (hx : (x : Int) < e) (h6 : x < 600) (hb : d 11 x = b) (hr : 48 ≤ b ∧ b ≤ 57) (ha : 0 ≤ acc ∧ acc ≤ 9999) : l_X9_numberHere_7 (q + 1) acc (x : Int) d = l_X9_numberHere_7 q (10 * acc + (b - 48)) ((x + 1 : Nat) : Int) d := by
  show l_X9_numberHere_7F _ acc (x : Int) d = _
  unfold l_X9_numberHere_7F
  rw [zl_n, h4, if_neg (by omega), zl_n, zw_id (x := 10 * acc) (by omega) (by omega), zg_t (by omega), zl_n, Int.toNat_natCast, hb, zl_n, zw_id (x := 10 * acc + b) (by omega) (by omega), zl_n, zw_id (x := 10 * acc + b - 48) (by omega) (by omega), zl_n, zw_id (x := (x : Int) + 1) (by omega) (by omega), show 10 * acc + b - 48 = 10 * acc + (b - 48) by omega]
  rfl
theorem n_end {d : zD} {q : Nat} {acc : Int} {x : Int} (h4 : d 10 4 = x) : l_X9_numberHere_7 (q + 1) acc x d = some (acc, d) := by
  show l_X9_numberHere_7F _ acc x d = _
  unfold l_X9_numberHere_7F
  rw [zl_n, h4, if_pos (Int.le_refl _)]
theorem zF_5 : ∃ q, zF = q + 1 + 1 + 1 + 1 + 1 := ⟨99995, rfl⟩
theorem i_num {d : zD} {t0 : Nat} {v : Int} {l : List Int} (h : TK d 1 t0 (dgs v) l) (hv : 0 ≤ v ∧ v ≤ 9999) : f_X9_numberHere d = some (v, d) := by
  obtain ⟨h2, h3, h4, hr⟩ := h
  obtain ⟨q, hq⟩ := zF_5
  have hb := dgs_b hv
  have hat : ∀ i, i < (dgs v).length → d 11 (t0 + i) = (dgs v).getD i 0 ∧ t0 + i < 600 := fun i hi => hr.at hi
  unfold f_X9_numberHere
  rw [zl_n, h3, hq]
  by_cases h1 : v < 10
  · have e : dgs v = [48 + v] := by unfold dgs; rw [if_pos h1]
    rw [e] at hat h4
    have h40 : d 10 4 = ((t0 + 1 : Nat) : Int) := h4
    obtain ⟨b0, c0⟩ := hat 0 (by show 0 < 1; decide)
    have b0' : d 11 t0 = 48 + v := b0
    rw [n_step h40 (by omega) (by omega) b0' (by omega) (by omega), n_end h40]
    congr 2
    omega
  · by_cases h2 : v < 100
    · have e : dgs v = [48 + v / 10, 48 + v % 10] := by unfold dgs; rw [if_neg h1, if_pos h2]
      rw [e] at hat h4
      have h40 : d 10 4 = ((t0 + 2 : Nat) : Int) := h4
      obtain ⟨b0, c0⟩ := hat 0 (by show 0 < 2; decide)
      obtain ⟨b1, c1⟩ := hat 1 (by show 1 < 2; decide)
      have b0' : d 11 t0 = 48 + v / 10 := b0
      have b1' : d 11 (t0 + 1) = 48 + v % 10 := b1
      rw [n_step h40 (by omega) (by omega) b0' (by omega) (by omega), n_step h40 (by omega) (by omega) b1' (by omega) (by omega), n_end h40]
      congr 2
      omega
    · by_cases h3 : v < 1000
      · have e : dgs v = [48 + v / 100, 48 + v % 100 / 10, 48 + v % 100 % 10] := by unfold dgs; rw [if_neg h1, if_neg h2, if_pos h3]
        rw [e] at hat h4
        have h40 : d 10 4 = ((t0 + 3 : Nat) : Int) := h4
        obtain ⟨b0, c0⟩ := hat 0 (by show 0 < 3; decide)
        obtain ⟨b1, c1⟩ := hat 1 (by show 1 < 3; decide)
        obtain ⟨b2, c2⟩ := hat 2 (by show 2 < 3; decide)
        have b0' : d 11 t0 = 48 + v / 100 := b0
        have b1' : d 11 (t0 + 1) = 48 + v % 100 / 10 := b1
        have b2' : d 11 (t0 + 2) = 48 + v % 100 % 10 := b2
        rw [n_step h40 (by omega) (by omega) b0' (by omega) (by omega), n_step h40 (by omega) (by omega) b1' (by omega) (by omega), n_step h40 (by omega) (by omega) b2' (by omega) (by omega), n_end h40]
        congr 2
        omega
      · have e : dgs v = [48 + v / 100 / 10, 48 + v / 100 % 10, 48 + v % 100 / 10, 48 + v % 100 % 10] := by unfold dgs; rw [if_neg h1, if_neg h2, if_neg h3]
        rw [e] at hat h4
        have h40 : d 10 4 = ((t0 + 4 : Nat) : Int) := h4
        obtain ⟨b0, c0⟩ := hat 0 (by show 0 < 4; decide)
        obtain ⟨b1, c1⟩ := hat 1 (by show 1 < 4; decide)
        obtain ⟨b2, c2⟩ := hat 2 (by show 2 < 4; decide)
        obtain ⟨b3, c3⟩ := hat 3 (by show 3 < 4; decide)
        have b0' : d 11 t0 = 48 + v / 100 / 10 := b0
        have b1' : d 11 (t0 + 1) = 48 + v / 100 % 10 := b1
        have b2' : d 11 (t0 + 2) = 48 + v % 100 / 10 := b2
        have b3' : d 11 (t0 + 3) = 48 + v % 100 % 10 := b3
        rw [n_step h40 (by omega) (by omega) b0' (by omega) (by omega), n_step h40 (by omega) (by omega) b1' (by omega) (by omega), n_step h40 (by omega) (by omega) b2' (by omega) (by omega), n_step h40 (by omega) (by omega) b3' (by omega) (by omega), n_end h40]
        congr 2
        omega
theorem i_rnum {d : zD} {t0 : Nat} {v lo hi : Int} {l : List Int} (h : TK d 1 t0 (dgs v) l) (hv : 0 ≤ v ∧ v ≤ 9999) (hr : lo ≤ v ∧ v ≤ hi) : f_X9_readNumber lo hi d = zc (f_X9_advance d) fun _ d => some (v, d) := by
  unfold f_X9_readNumber
  rw [zl_n, h.1, if_pos rfl, i_num h hv, zc_n, if_neg (by omega), if_pos hr.2]
theorem i_rsemi {d : zD} (h : d 10 2 = 2) : f_X9_readSemicolon d = zc (f_X9_advance d) fun _ d => some (1, d) := by
  unfold f_X9_readSemicolon
  rw [zl_n, h, if_pos rfl]
/-- a number comes next -/
theorem v_dgs {d : zD} {p : Nat} {v : Int} {l : List Int} (b : Bool) (h : Nx d p ((if b then [32] else []) ++ (dgs v ++ l))) (hv : 0 ≤ v ∧ v ≤ 9999) (hl : nD l) : ∃ d' t, f_X9_advance d = some (0, d') ∧ TK d' 1 t (dgs v) l ∧ FT2 d d' := by
  obtain ⟨h1, h2, h3⟩ := dgs_b hv
  have hm : ∀ y, y ∈ dgs v → 48 ≤ y ∧ y ≤ 57 := fun y hy => by
    obtain ⟨i, hi, e⟩ := List.mem_iff_getElem.mp hy
    have := h3 i hi
    rw [List.getD_eq_getElem?_getD, List.getElem?_eq_getElem hi] at this
    rw [← e]
    exact this
  cases hd : dgs v with
  | nil => rw [hd] at h1; exact absurd h1 (by decide)
  | cons x u =>
    rw [hd] at h hm h2
    exact v_num b h hm (by rw [List.length_cons] at h2; omega) hl
