/-! The queries. -/
def GX (es : List Nat) (v v' t : Int) : Prop := (t = 0 ∧ v = v' ∧ zR v) ∨ ∃ (i k : Nat), es[i]? = some k ∧ t = i + 1 ∧ v = 4294967296 + k
def GO (es : List Nat) (mc mr : zD → Option (Int × zD)) : Prop := ∀ {dc ds : zD}, GR dc ds → (∀ c j, zR (dc c j)) → ∃ v dc' v' ds', mc dc = some (v, dc') ∧ mr ds = some (v', ds') ∧ GR dc' ds' ∧ Fc dc dc' ∧ Fm ds ds' ∧ GX es v v' (ds' 400 0)
theorem GR_0 {dc ds : zD} {t : Int} (h : GR dc ds) : GR dc (zu ds 400 0 t) := GR_s h (fun c c1 _ _ => zu_row c1) (fun k _ => by rw [zu_row (by omega)]) fun j j0 _ _ _ => zu_ne (Or.inr j0)
theorem GO_q {es : List Nat} {mc mr : zD → Option (Int × zD)} {dc ds : zD} {v v' t : Int} (h : GR dc ds) (h1 : mc dc = some (v, dc)) (h2 : mr ds = some (v', zu ds 400 0 t)) (hx : GX es v v' t) : ∃ v dc' v' ds', mc dc = some (v, dc') ∧ mr ds = some (v', ds') ∧ GR dc' ds' ∧ Fc dc dc' ∧ Fm ds ds' ∧ GX es v v' (ds' 400 0) :=
  ⟨v, dc, v', zu ds 400 0 t, h1, h2, GR_0 h, Fc.rf, Fm.u (by omega), by rw [zu_eq]; exact hx⟩
theorem GX_ok {es : List Nat} {v v' : Int} (h : v = v') (hv : zR v) : GX es v v' 0 := Or.inl ⟨rfl, h, hv⟩
theorem GX_ex {es : List Nat} {v' : Int} (i k : Nat) (h : es[i]? = some k) : GX es (4294967296 + k) v' (i + 1) := Or.inr ⟨i, k, h, rfl, rfl⟩
theorem e_may {a b : Int} {d : zD} : f_X12_may a b d = some (if a = 0 then 0 else if b = 0 then 0 else 1, zu d 400 0 (if a = 0 then 1 else if b = 0 then 2 else 0)) := by
  unfold f_X12_may j_X12_may_18
  by_cases ha : a = 0
  · rw [if_pos ha, if_pos ha, if_pos ha, zl_n, zl_n, zu_q, if_neg (by decide)]
  · rw [if_neg ha, if_neg ha, if_neg ha]
    by_cases hb : b = 0
    · rw [if_pos hb, if_pos hb, if_pos hb, zl_n, zl_n, zu_q, if_neg (by decide)]
    · rw [if_neg hb, if_neg hb, if_neg hb, zl_n, zl_n, zu_q, if_pos rfl]
theorem e_may11 {d : zD} : f_X12_may 1 1 d = some (1, zu d 400 0 0) := by
  rw [e_may]
  rfl
theorem e_may0 {b : Int} {d : zD} : f_X12_may 0 b d = some (0, zu d 400 0 1) := by
  rw [e_may]
  rfl
theorem e_may10 {d : zD} : f_X12_may 1 0 d = some (0, zu d 400 0 2) := by
  rw [e_may]
  rfl
theorem GR_L {dc ds : zD} (h : GR dc ds) : ∃ K L, RC K L D0 dc 30 (ds 401) (1000 * ds 401 4 + ds 401 2) ∧ RZ L (ds 401 0) (ds 401 3) (rT (ds 401)) := h.1
theorem zR_s {v : Int} (h : -2147483648 ≤ v) (h2 : v ≤ 2147483647) : zR v := ⟨h, h2⟩
section Q
variable {K L : Int → Int → List Int} {d : zD} {b : Nat} {s : Nat → Int} {N : Int}
theorem k_sum {c : Nat} {w : Int} (h : RC K L D0 d b s N) (hT : ∀ x : Int, 0 ≤ x → x < s 0 → d c x.toNat = rT s x w ∧ (rT s x w = 0 ∨ rT s x w = 1)) : ∀ (k q : Nat) (n x : Int), k < q → 0 ≤ x → x + k = s 0 → 0 ≤ n → n ≤ x → l_X2_sumOf_4 b c 8 q n x d = some (n + cnt (fun x => decide (rT s x w = 1)) x k, d) := by
  obtain ⟨⟨i1, i2⟩, -⟩ := RC_i h
  obtain ⟨-, -, -, -, -, -, -, -, -, -, -, -, -, -, hU, -⟩ := h
  intro k
  induction k with
  | zero =>
    intro q n x hq h0 hx hn hnx
    obtain ⟨q, rfl⟩ : ∃ q', q = q' + 1 := ⟨q - 1, by omega⟩
    show l_X2_sumOf_4F b c 8 _ n x d = _
    unfold l_X2_sumOf_4F
    rw [zl_n, hU.1, if_pos (by omega)]
    simp [cnt]
  | succ k ih =>
    intro q n x hq h0 hx hn hnx
    obtain ⟨q, rfl⟩ : ∃ q', q = q' + 1 := ⟨q - 1, by omega⟩
    obtain ⟨t1, t2⟩ := hT x h0 (by omega)
    show l_X2_sumOf_4F b c 8 _ n x d = _
    unfold l_X2_sumOf_4F cnt
    rw [zl_n, hU.1, if_neg (by omega), zg_t (by omega), zl_n, t1, zl_n, zl_n, zw_id (x := x + 1) (by omega) (by omega)]
    rcases t2 with t2 | t2
    · rw [t2, zw_id (x := n + 0) (by omega) (by omega), ih q (n + 0) (x + 1) (by omega) (by omega) (by omega) (by omega) (by omega), if_neg (by decide)]
      congr 2
      omega
    · rw [t2, zw_id (x := n + 1) (by omega) (by omega), ih q (n + 1) (x + 1) (by omega) (by omega) (by omega) (by omega) (by omega), if_pos (by decide)]
      congr 2
      omega
theorem cnt_01 {T : zM} {w : Int} : ∀ (k : Nat) (x : Int), (∀ y, x ≤ y → y < x + k → T y w = 0 ∨ T y w = 1) → cnt (fun x => decide (T x w = 1)) x k + cnt (fun x => decide (T x w = 0)) x k = k := by
  intro k
  induction k with
  | zero => intro x _; rfl
  | succ k ih =>
    intro x hx
    have := ih (x + 1) fun y h1 h2 => hx y (by omega) (by omega)
    unfold cnt
    rcases hx x (by omega) (by omega) with h | h
    · rw [h, if_neg (by decide), if_pos (by decide)]; omega
    · rw [h, if_pos (by decide), if_neg (by decide)]; omega
theorem m_with {ds : zD} {w v : Int} (h : 0 ≤ ds 401 0 ∧ ds 401 0 ≤ 8) (hw : 0 ≤ w ∧ w < 16) : ∀ (k q : Nat) (n x : Int), k < q → 0 ≤ x → x + k = ds 401 0 → 0 ≤ n → n ≤ x → l_X12_terminalsWith_5 q w v n x ds = some (n + cnt (fun x => decide (rT (ds 401) x w = v)) x k, ds) := by
  intro k
  induction k with
  | zero =>
    intro q n x hq h0 hx hn hnx
    obtain ⟨q, rfl⟩ : ∃ q', q = q' + 1 := ⟨q - 1, by omega⟩
    show l_X12_terminalsWith_5F _ w v n x ds = _
    unfold l_X12_terminalsWith_5F
    rw [e_many, zc_n, if_pos (by omega)]
    simp [cnt]
  | succ k ih =>
    intro q n x hq h0 hx hn hnx
    obtain ⟨q, rfl⟩ : ∃ q', q = q' + 1 := ⟨q - 1, by omega⟩
    show l_X12_terminalsWith_5F _ w v n x ds = _
    unfold l_X12_terminalsWith_5F cnt
    rw [e_many, zc_n, if_neg (by omega), e_of (by omega) hw, zc_n]
    by_cases hp : rT (ds 401) x w = v
    · rw [if_pos hp, zl_n, zl_n, zw_id (x := n + 1) (by omega) (by omega), zw_id (x := x + 1) (by omega) (by omega), ih q (n + 1) (x + 1) (by omega) (by omega) (by omega) (by omega) (by omega), if_pos (decide_eq_true hp), Int.add_assoc]
    · rw [if_neg hp, zl_n, zw_id (x := x + 1) (by omega) (by omega), ih q n (x + 1) (by omega) (by omega) (by omega) (by omega) (by omega), if_neg (fun q => hp (of_decide_eq_true q)), Int.zero_add]
theorem k_places {t : Int} (h : RC K L D0 d b s N) : ∀ (k q : Nat) (n x : Int), k < q → 0 ≤ x → x + k = s 1 → 0 ≤ n → n ≤ x → l_X2_placesWith_4 b q t n x d = some (n + cnt (fun x => decide (s (30 + x).toNat = t)) x k, d) := by
  obtain ⟨-, i3, -⟩ := RC_i h
  obtain ⟨⟨s8, -⟩, ⟨-, -, aL⟩, -⟩ := h
  intro k
  induction k with
  | zero =>
    intro q n x hq h0 hx hn hnx
    obtain ⟨q, rfl⟩ : ∃ q', q = q' + 1 := ⟨q - 1, by omega⟩
    show l_X2_placesWith_4F b _ t n x d = _
    unfold l_X2_placesWith_4F
    rw [zl_n, s8, if_pos (by omega)]
    simp [cnt]
  | succ k ih =>
    intro q n x hq h0 hx hn hnx
    obtain ⟨q, rfl⟩ : ∃ q', q = q' + 1 := ⟨q - 1, by omega⟩
    show l_X2_placesWith_4F b _ t n x d = _
    unfold l_X2_placesWith_4F cnt
    rw [zl_n, s8, if_neg (by omega), zg_t (by omega), zl_n, aL x h0 (by omega)]
    by_cases hp : s (30 + x).toNat = t
    · rw [if_pos hp, zl_n, zl_n, zw_id (x := n + 1) (by omega) (by omega), zw_id (x := x + 1) (by omega) (by omega), ih q (n + 1) (x + 1) (by omega) (by omega) (by omega) (by omega) (by omega), if_pos (decide_eq_true hp), Int.add_assoc]
    · rw [if_neg hp, zl_n, zw_id (x := x + 1) (by omega) (by omega), ih q n (x + 1) (by omega) (by omega) (by omega) (by omega) (by omega), if_neg (fun q => hp (of_decide_eq_true q)), Int.zero_add]
theorem m_places {ds : zD} {t : Int} (h : 0 ≤ ds 401 1 ∧ ds 401 1 ≤ 16) : ∀ (k q : Nat) (n x : Int), k < q → 0 ≤ x → x + k = ds 401 1 → 0 ≤ n → n ≤ x → l_X12_placesOf_4 q t n x ds = some (n + cnt (fun x => decide (ds 401 (30 + x).toNat = t)) x k, ds) := by
  have e1 : ds 401 (1 : Int).toNat = ds 401 1 := rfl
  intro k
  induction k with
  | zero =>
    intro q n x hq h0 hx hn hnx
    obtain ⟨q, rfl⟩ : ∃ q', q = q' + 1 := ⟨q - 1, by omega⟩
    show l_X12_placesOf_4F _ t n x ds = _
    unfold l_X12_placesOf_4F
    rw [zg_t (by omega), zl_n, e1, if_pos (by omega)]
    simp [cnt]
  | succ k ih =>
    intro q n x hq h0 hx hn hnx
    obtain ⟨q, rfl⟩ : ∃ q', q = q' + 1 := ⟨q - 1, by omega⟩
    show l_X12_placesOf_4F _ t n x ds = _
    unfold l_X12_placesOf_4F cnt
    rw [zg_t (by omega), zl_n, e1, if_neg (by omega), zl_n, zw_id (x := 30 + x) (by omega) (by omega), zg_t (by omega), zl_n]
    by_cases hp : ds 401 (30 + x).toNat = t
    · rw [if_pos hp, zl_n, zl_n, zw_id (x := n + 1) (by omega) (by omega), zw_id (x := x + 1) (by omega) (by omega), ih q (n + 1) (x + 1) (by omega) (by omega) (by omega) (by omega) (by omega), if_pos (decide_eq_true hp), Int.add_assoc]
    · rw [if_neg hp, zl_n, zw_id (x := x + 1) (by omega) (by omega), ih q n (x + 1) (by omega) (by omega) (by omega) (by omega) (by omega), if_neg (fun q => hp (of_decide_eq_true q)), Int.zero_add]
theorem cSt_R {v : Int} (h : 0 ≤ s 2 ∧ s 2 ≤ 40) : 0 ≤ cSt s v ∧ cSt s v ≤ 40 := by
  have := cnt_R (p := fun m => decide (rM s m 3 = v)) (m := 0) (k := (s 2).toNat)
  unfold cSt
  omega
end Q
theorem G_count (x : Int) : GO [0] (f_X11_count x) (f_X12_count x) := by
  intro dc ds h hR
  have hg := h
  obtain ⟨K, L, hr, hz⟩ := GR_L h
  obtain ⟨hl, -, ⟨-, a2, a3, -⟩, -⟩ := h
  obtain ⟨i0, i1, i2, i4, -⟩ := LR_2 hl
  have hh := hr
  obtain ⟨⟨s8, s9, s10, s11, -, -, -, -, sm⟩, -, hQ, -, -, -, -, -, -, -, -, -, hIT, -, hU, -⟩ := hh
  have hz0 : ∀ {c j}, zR (dc c j) := fun {c j} => hR c j
  have eq12 : ∀ {t v' : Int}, j_X12_count_16 x t ds = some (v', zu ds 400 0 t) → (t = if 0 ≤ x ∧ x ≤ 12 then 0 else 1) → f_X12_count x ds = some (v', zu ds 400 0 t) := fun {t v'} h1 h2 => by
    unfold f_X12_count
    rw [e_isIn, zc_n]
    by_cases hx : 0 ≤ x ∧ x ≤ 12
    · rw [if_pos hx] at h2 ⊢
      rw [if_neg (by decide), ← h2]; exact h1
    · rw [if_neg hx] at h2 ⊢
      rw [if_pos rfl, ← h2]; exact h1
  have h400 : ∀ {t : Int} {c : Nat}, c ≠ 400 → zu ds 400 0 t c = ds c := fun hc => zu_row hc
  by_cases hx : 0 ≤ x ∧ x ≤ 12
  · -- within
    have ej : ∀ {v' : Int}, (if 6 ≤ x then (if 10 ≤ x then (if x = 10 then (zc (f_X12_terminalsWith 4 0 (zu ds 400 0 0)) fun v65 d => some (v65, d)) else if x = 11 then (zc (f_X12_terminalsWith 3 0 (zu ds 400 0 0)) fun v80 d => some (v80, d)) else (zl (zu ds 400 0 0 400 5) fun v87 => some (v87, zu ds 400 0 0))) else (zl (zw (x - 6)) fun v51 => zc (f_X12_inState v51 (zu ds 400 0 0)) fun v52 d => some (v52, d))) else (zg 800 x <| zl (zu ds 400 0 0 401 x.toNat) fun v39 => some (v39, zu ds 400 0 0))) = some (v', zu ds 400 0 0) → f_X12_count x ds = some (v', zu ds 400 0 0) := fun {v'} he => by
      refine eq12 ?_ (by rw [if_pos hx])
      unfold j_X12_count_16
      rw [zl_n, zl_n, zu_q, if_pos rfl]
      exact he
    have fin : ∀ {v : Int}, f_X11_count x dc = some (v, dc) → f_X12_count x ds = some (v, zu ds 400 0 0) → zR v → ∃ v dc' v' ds', f_X11_count x dc = some (v, dc') ∧ f_X12_count x ds = some (v', ds') ∧ GR dc' ds' ∧ Fc dc dc' ∧ Fm ds ds' ∧ GX [0] v v' (ds' 400 0) := fun h1 h2 h3 => by
      exact GO_q hg h1 h2 (GX_ok rfl h3)
    have e401 : zu ds 400 0 0 401 = ds 401 := zu_row (by omega)
    have st : ∀ (y : Int), x = y + 6 → 0 ≤ y ∧ y ≤ 3 → f_X11_count x dc = (zl (zw (x - 6)) fun v129 => zc (f_X3_countIn 30 v129 dc) fun v130 d => some (v130, d)) → ∃ v dc' v' ds', f_X11_count x dc = some (v, dc') ∧ f_X12_count x ds = some (v', ds') ∧ GR dc' ds' ∧ Fc dc dc' ∧ Fm ds ds' ∧ GX [0] v v' (ds' 400 0) := fun y hy hy2 he => by
      have hc := cSt_R (v := y) i2
      refine fin (v := cSt (ds 401) y) ?_ (ej ?_) (zR_s (by omega) (by omega))
      · rw [he, zl_n, show x - 6 = y by omega, zw_id (by omega) (by omega), k_countIn hl, zc_n]
      · rw [if_pos (by omega), if_neg (by omega), zl_n, show x - 6 = y by omega, zw_id (by omega) (by omega), e_inState (by rw [e401]; exact i2), zc_n, e401]
    have hc0 : x = 0 ∨ x = 1 ∨ x = 2 ∨ x = 3 ∨ x = 4 ∨ x = 5 ∨ x = 6 ∨ x = 7 ∨ x = 8 ∨ x = 9 ∨ x = 10 ∨ x = 11 ∨ x = 12 := by omega
    rcases hc0 with e | e | e | e | e | e | e | e | e | e | e | e | e
    · subst e; exact fin rfl (ej (by rw [if_neg (by decide), zg_t (by decide), zl_n, e401]; exact congrArg (fun z => some (z, zu ds 400 0 0)) hU.1.symm)) hz0
    · subst e; exact fin rfl (ej (by rw [if_neg (by decide), zg_t (by decide), zl_n, e401]; exact congrArg (fun z => some (z, zu ds 400 0 0)) s8.symm)) hz0
    · subst e; exact fin rfl (ej (by rw [if_neg (by decide), zg_t (by decide), zl_n, e401]; exact congrArg (fun z => some (z, zu ds 400 0 0)) sm.symm)) hz0
    · subst e; exact fin rfl (ej (by rw [if_neg (by decide), zg_t (by decide), zl_n, e401]; exact congrArg (fun z => some (z, zu ds 400 0 0)) s9.symm)) hz0
    · subst e; exact fin rfl (ej (by rw [if_neg (by decide), zg_t (by decide), zl_n, e401]; exact congrArg (fun z => some (z, zu ds 400 0 0)) s10.symm)) hz0
    · subst e; exact fin rfl (ej (by rw [if_neg (by decide), zg_t (by decide), zl_n, e401]; exact congrArg (fun z => some (z, zu ds 400 0 0)) s11.symm)) hz0
    · exact st 0 (by omega) (by omega) (by subst e; rfl)
    · exact st 1 (by omega) (by omega) (by subst e; rfl)
    · exact st 2 (by omega) (by omega) (by subst e; rfl)
    · exact st 3 (by omega) (by omega) (by subst e; rfl)
    · subst e
      have hs := cnt_01 (T := rT (ds 401)) (w := 4) (ds 401 0).toNat 0 fun y y0 y1 => (hIT y (by omega) (by omega)).2.2.2.2.1
      have hc := cnt_R (p := fun x => decide (rT (ds 401) x 4 = 0)) (m := 0) (k := (ds 401 0).toNat)
      refine fin (v := cnt (fun x => decide (rT (ds 401) x 4 = 0)) 0 (ds 401 0).toNat) ?_ (ej ?_) (zR_s (by omega) (by omega))
      · show (zl (dc 1 0) fun v138 => zc (f_X2_sumOf 30 (30 + 17) 8 dc) fun v155 d => zl (zw (v138 - v155)) fun v158 => some (v158, d)) = _
        unfold f_X2_sumOf
        rw [zl_n, k_sum hr (w := 4) (fun y y0 y1 => ⟨(hQ y y0 y1).2.1, (hIT y y0 y1).2.2.2.2.1⟩) (ds 401 0).toNat zF 0 0 (by have := zF_big; omega) (by omega) (by omega) (by omega) (by omega), zc_n, zl_n, hU.1, zw_id (by omega) (by omega)]
        congr 2
        omega
      · rw [if_pos (by decide), if_pos (by decide), if_pos rfl]
        unfold f_X12_terminalsWith
        rw [m_with (by rw [e401]; omega) (by omega) (zu ds 400 0 0 401 0).toNat zF 0 0 (by rw [e401]; have := zF_big; omega) (by omega) (by rw [e401]; omega) (by omega) (by omega), zc_n, e401, Int.zero_add]
    · subst e
      have hs := cnt_01 (T := rT (ds 401)) (w := 3) (ds 401 0).toNat 0 fun y y0 y1 => (hIT y (by omega) (by omega)).2.2.2.1
      have hc := cnt_R (p := fun x => decide (rT (ds 401) x 3 = 0)) (m := 0) (k := (ds 401 0).toNat)
      refine fin (v := cnt (fun x => decide (rT (ds 401) x 3 = 0)) 0 (ds 401 0).toNat) ?_ (ej ?_) (zR_s (by omega) (by omega))
      · show (zl (dc 1 0) fun v138 => zc (f_X2_sumOf 30 (30 + 16) 8 dc) fun v155 d => zl (zw (v138 - v155)) fun v158 => some (v158, d)) = _
        unfold f_X2_sumOf
        rw [zl_n, k_sum hr (w := 3) (fun y y0 y1 => ⟨(hQ y y0 y1).1, (hIT y y0 y1).2.2.2.1⟩) (ds 401 0).toNat zF 0 0 (by have := zF_big; omega) (by omega) (by omega) (by omega) (by omega), zc_n, zl_n, hU.1, zw_id (by omega) (by omega)]
        congr 2
        omega
      · rw [if_pos (by decide), if_pos (by decide), if_neg (by decide), if_pos rfl]
        unfold f_X12_terminalsWith
        rw [m_with (by rw [e401]; omega) (by omega) (zu ds 400 0 0 401 0).toNat zF 0 0 (by rw [e401]; have := zF_big; omega) (by omega) (by rw [e401]; omega) (by omega) (by omega), zc_n, e401, Int.zero_add]
    · subst e
      exact fin rfl (ej (by rw [if_pos (by decide), if_pos (by decide), if_neg (by decide), if_neg (by decide), zl_n, zu_ne (by omega)]; exact congrArg (fun z => some (z, zu ds 400 0 0)) a2.symm)) hz0
  · refine GO_q hg (v := 4294967296 + (0 : Nat)) (v' := 0) (t := ((0 : Nat) : Int) + 1) ?_ (eq12 ?_ (by rw [if_neg hx]; rfl)) (GX_ex 0 0 rfl)
    · unfold f_X11_count
      simp only [zsw]
      rw [if_neg (by omega), if_neg (by omega), if_neg (by omega), if_neg (by omega), if_neg (by omega), if_neg (by omega), if_neg (by omega), if_neg (by omega), if_neg (by omega), if_neg (by omega), if_neg (by omega), if_neg (by omega), if_neg (by omega)]
      rfl
    · unfold j_X12_count_16
      rw [zl_n, zl_n, zu_q, if_neg (by decide)]
