/-! Names. -/
theorem ncl_nn : ∀ {l : List Int}, (∀ x, x ∈ l → 1 ≤ x ∧ x ≤ 26) → 0 ≤ ncl l := by
  intro l
  induction l with
  | nil => intro _; show (0 : Int) ≤ 0; omega
  | cons x l ih =>
    intro h
    have h1 := ih fun y hy => h y (List.mem_cons_of_mem _ hy)
    have h2 := h x (List.mem_cons_self ..)
    show 0 ≤ x + 32 * ncl l
    omega
theorem ncl_inj : ∀ {l l' : List Int}, (∀ x, x ∈ l → 1 ≤ x ∧ x ≤ 26) → (∀ x, x ∈ l' → 1 ≤ x ∧ x ≤ 26) → ncl l = ncl l' → l = l' := by
  intro l
  induction l with
  | nil =>
    intro l' _ h' e
    cases l' with
    | nil => rfl
    | cons y l' =>
      exfalso
      have h1 := ncl_nn fun z hz => h' z (List.mem_cons_of_mem _ hz)
      have h2 := h' y (List.mem_cons_self ..)
      have e2 : (0 : Int) = y + 32 * ncl l' := e
      clear h'
      omega
  | cons x l ih =>
    intro l' h h' e
    cases l' with
    | nil =>
      exfalso
      have h1 := ncl_nn fun z hz => h z (List.mem_cons_of_mem _ hz)
      have h2 := h x (List.mem_cons_self ..)
      have e2 : x + 32 * ncl l = (0 : Int) := e
      clear h
      omega
    | cons y l' =>
      have h2 := h x (List.mem_cons_self ..)
      have h3 := h' y (List.mem_cons_self ..)
      have e2 : x + 32 * ncl l = y + 32 * ncl l' := e
      have e3 : x = y ∧ ncl l = ncl l' := by clear h h'; omega
      rw [e3.1, ih (fun z hz => h z (List.mem_cons_of_mem _ hz)) (fun z hz => h' z (List.mem_cons_of_mem _ hz)) e3.2]
theorem nrf_rev : ∀ (l r : List Int), nrf l (ncl r) = ncl (l.reverse ++ r) := by
  intro l
  induction l with
  | nil => intro r; rfl
  | cons x l ih =>
    intro r
    have := ih (x :: r)
    rw [List.reverse_cons, List.append_assoc]
    show nrf l (32 * ncl r + x) = _
    rw [show 32 * ncl r + x = ncl (x :: r) by show _ = x + 32 * ncl r; omega, this]
    rfl
theorem nmr_inj {a c a' c' : Int} (h : nmr a c) (h' : nmr a' c') : a = a' ↔ c = c' := by
  obtain ⟨l, -, hl, ea, ec⟩ := h
  obtain ⟨l', -, hl', ea', ec'⟩ := h'
  constructor
  · intro e
    have : l = l' := ncl_inj hl hl' (by rw [← ea, ← ea', e])
    rw [ec, ec', this]
  · intro e
    have r1 := nrf_rev l []
    have r2 := nrf_rev l' []
    have e2 : ncl (l.reverse ++ []) = ncl (l'.reverse ++ []) := by
      rw [← r1, ← r2]
      show nrf l 0 = nrf l' 0
      rw [← ec, ← ec', e]
    rw [List.append_nil, List.append_nil] at e2
    have := ncl_inj (fun x hx => hl x (List.mem_reverse.mp hx)) (fun x hx => hl' x (List.mem_reverse.mp hx)) e2
    rw [ea, ea', List.reverse_inj.mp this]
theorem nmr_pos {a c : Int} (h : nmr a c) : 1 ≤ a := by
  obtain ⟨l, ⟨h1, -⟩, hl, ea, -⟩ := h
  cases l with
  | nil => exact absurd h1 (by decide)
  | cons x l =>
    have h2 := ncl_nn fun z hz => hl z (List.mem_cons_of_mem _ hz)
    have h3 := hl x (List.mem_cons_self ..)
    have e2 : a = x + 32 * ncl l := ea
    clear hl
    omega
theorem P_find {dc ds : zD} {s : Nat} {a : Int} (hs : dc s 0 = ds 401 0) (h8 : 0 ≤ ds 401 0 ∧ ds 401 0 ≤ 8) (hn : ∀ x, 0 ≤ x → x < ds 401 0 → nmr (dc (s + 1) x.toNat) (rT (ds 401) x 15)) (ha : nmr a (ds 400 18)) : ∃ v, (-1 ≤ v ∧ v < ds 401 0) ∧ f_X6_find s a dc = some (v, dc) ∧ f_X12_named ds = some (v, ds) := by
  have hF := zF_big
  have loop : ∀ (k q q' : Nat) (x : Int), k < q → k < q' → 0 ≤ x → x + k = ds 401 0 → ∃ v, (-1 ≤ v ∧ v < ds 401 0) ∧ l_X6_find_2 s q a x dc = some (v, dc) ∧ l_X12_named_2 q' x ds = some (v, ds) := by
    intro k
    induction k with
    | zero =>
      intro q q' x hq hq' x0 hx
      obtain ⟨q, rfl⟩ : ∃ q0, q = q0 + 1 := ⟨q - 1, by omega⟩
      obtain ⟨q', rfl⟩ : ∃ q0, q' = q0 + 1 := ⟨q' - 1, by omega⟩
      refine ⟨-1, by omega, ?_, ?_⟩
      · show l_X6_find_2F s _ a x dc = _
        unfold l_X6_find_2F
        rw [zl_n, hs, if_pos (by omega)]
      · show l_X12_named_2F _ x ds = _
        unfold l_X12_named_2F
        rw [e_many, zc_n, if_pos (by omega)]
    | succ k ih =>
      intro q q' x hq hq' x0 hx
      obtain ⟨q, rfl⟩ : ∃ q0, q = q0 + 1 := ⟨q - 1, by omega⟩
      obtain ⟨q', rfl⟩ : ∃ q0, q' = q0 + 1 := ⟨q' - 1, by omega⟩
      have hi := nmr_inj (hn x x0 (by omega)) ha
      have c1 : l_X6_find_2 s (q + 1) a x dc = if dc (s + 1) x.toNat = a then some (x, dc) else l_X6_find_2 s q a (x + 1) dc := by
        show l_X6_find_2F s _ a x dc = _
        unfold l_X6_find_2F
        rw [zl_n, hs, if_neg (by omega), zg_t (by omega), zl_n, zl_n, zw_id (by omega) (by omega)]
      have c2 : l_X12_named_2 (q' + 1) x ds = if rT (ds 401) x 15 = ds 400 18 then some (x, ds) else l_X12_named_2 q' (x + 1) ds := by
        show l_X12_named_2F _ x ds = _
        unfold l_X12_named_2F
        rw [e_many, zc_n, if_neg (by omega), e_of (by omega) (by omega), zc_n, zl_n, zl_n, zw_id (by omega) (by omega)]
      rw [c1, c2]
      by_cases e : dc (s + 1) x.toNat = a
      · rw [if_pos e, if_pos (hi.mp e)]
        exact ⟨x, by omega, rfl, rfl⟩
      · rw [if_neg e, if_neg (fun q => e (hi.mpr q))]
        exact ih q q' (x + 1) (by omega) (by omega) (by omega) (by omega)
  exact loop (ds 401 0).toNat zF zF 0 (by omega) (by omega) (by omega) (by omega)
theorem P_findno {dc : zD} {s : Nat} {N : Int} (hs : dc s 0 = N) (h8 : 0 ≤ N ∧ N ≤ 8) (hn : ∀ x, 0 ≤ x → x < N → 1 ≤ dc (s + 1) x.toNat) : f_X6_find s (-1) dc = some (-1, dc) := by
  have hF := zF_big
  have loop : ∀ (k q : Nat) (x : Int), k < q → 0 ≤ x → x + k = N → l_X6_find_2 s q (-1) x dc = some (-1, dc) := by
    intro k
    induction k with
    | zero =>
      intro q x hq x0 hx
      obtain ⟨q, rfl⟩ : ∃ q0, q = q0 + 1 := ⟨q - 1, by omega⟩
      show l_X6_find_2F s _ (-1) x dc = _
      unfold l_X6_find_2F
      rw [zl_n, hs, if_pos (by omega)]
    | succ k ih =>
      intro q x hq x0 hx
      obtain ⟨q, rfl⟩ : ∃ q0, q = q0 + 1 := ⟨q - 1, by omega⟩
      have := hn x x0 (by omega)
      show l_X6_find_2F s _ (-1) x dc = _
      unfold l_X6_find_2F
      rw [zl_n, hs, if_neg (by omega), zg_t (by omega), zl_n, if_neg (by clear hn; omega), zl_n, zw_id (by omega) (by omega)]
      exact ih q (x + 1) (by omega) (by omega) (by omega)
  exact loop N.toNat zF 0 (by omega) (by omega) (by omega)
theorem ws_mem {B : Int → Int} : ∀ (k : Nat) (t : Int), (∀ i, t ≤ i → i < t + k → 97 ≤ B i ∧ B i ≤ 122) → ∀ x, x ∈ ws B t k → 1 ≤ x ∧ x ≤ 26 := by
  intro k
  induction k with
  | zero => intro t _ x hx; exact absurd hx (List.not_mem_nil)
  | succ k ih =>
    intro t h x hx
    have hx' : x ∈ (B t - 96) :: ws B (t + 1) k := hx
    rcases List.mem_cons.mp hx' with e | e
    · have := h t (by omega) (by omega)
      clear h
      omega
    · exact ih (t + 1) (fun i i0 i1 => h i (by omega) (by omega)) x e
theorem ws_len {B : Int → Int} : ∀ (k : Nat) (t : Int), (ws B t k).length = k := by
  intro k
  induction k with
  | zero => intro t; rfl
  | succ k ih => intro t; show (ws B (t + 1) k).length + 1 = k + 1; rw [ih]
theorem ncl_b {B : Int → Int} : ∀ (k : Nat) (t : Int), (∀ i, t ≤ i → i < t + k → 97 ≤ B i ∧ B i ≤ 122) → 0 ≤ ncl (ws B t k) ∧ ncl (ws B t k) < 32 ^ k := by
  intro k
  induction k with
  | zero => intro t _; exact ⟨by show (0 : Int) ≤ 0; omega, by show (0 : Int) < 32 ^ 0; decide⟩
  | succ k ih =>
    intro t h
    have := ih (t + 1) fun i i0 i1 => h i (by omega) (by omega)
    have hb := h t (by omega) (by omega)
    have e : (32 : Int) ^ (k + 1) = 32 * 32 ^ k := by rw [Int.pow_succ]; omega
    rw [e]
    show 0 ≤ (B t - 96) + 32 * ncl (ws B (t + 1) k) ∧ (B t - 96) + 32 * ncl (ws B (t + 1) k) < _
    omega
section K2
variable {B : Int → Int} {n : Int}
theorem P_name {dc ds : zD} (h : PG B n dc ds) : (f_X9_nameHere dc = some (-1, dc) ∧ f_X12_isName ds = some (0, ds)) ∨ ∃ a, f_X9_nameHere dc = some (a, dc) ∧ f_X12_isName ds = some (1, ds) ∧ nmr a (ds 400 18) := by
  have hF := zF_big
  obtain ⟨v, hv, w1, w2⟩ := P_word (t1 := 16) (t2 := 17) h rfl
  obtain ⟨⟨hT, t, p, ⟨k1, k2, k3, k4⟩, kk, p0, p1, p2⟩, g1, g2, g3⟩ := h
  obtain ⟨h1, n1, n2, h4, h5⟩ := id hT
  have hkind : dc 10 2 = 0 ↔ ds 400 16 = 1 := by
    rcases kk with ⟨q1, q2, -⟩ | ⟨q1, q2, -⟩ | ⟨q1, q2, -⟩ | ⟨q1, q2, -⟩ | ⟨q1, q2, -⟩ <;> rw [q1, q2] <;> decide
  have ec : f_X9_nameHere dc = if dc 10 2 = 0 then (if 6 < p - t then some (-1, dc) else if v = 0 then l_X9_nameHere_41 zF 0 (p - 1) dc else some (-1, dc)) else some (-1, dc) := by
    unfold f_X9_nameHere
    rw [zl_n, zl_n, k3, zl_n, k1, zl_n, zw_id (x := p - t) (by omega) (by omega), w1, zc_n, zl_n, k3, zl_n, zw_id (x := p - 1) (by omega) (by omega)]
  have em : f_X12_isName ds = if ds 400 16 = 1 then (if 6 < p - t then some (0, ds) else if v = 0 then some (1, ds) else some (0, ds)) else some (0, ds) := by
    unfold f_X12_isName
    rw [zl_n, zl_n, k4, zl_n, k2, zl_n, zw_id (x := p - t) (by omega) (by omega), w2, zc_n]
  rw [ec, em]
  by_cases hk : dc 10 2 = 0
  · rw [if_pos hk, if_pos (hkind.mp hk)]
    by_cases h6 : 6 < p - t
    · rw [if_pos h6, if_pos h6]
      exact Or.inl ⟨rfl, rfl⟩
    · rw [if_neg h6, if_neg h6]
      by_cases hv0 : v = 0
      · rw [if_pos hv0, if_pos hv0]
        have kk2 : t < p ∧ (∀ i, t ≤ i → i < p → 97 ≤ B i ∧ B i ≤ 122) ∧ (p - t ≤ 6 → ds 400 18 = nrf (ws B t (p - t).toNat) 0) := by
          rcases kk with ⟨-, -, q⟩ | ⟨q1, -⟩ | ⟨q1, -⟩ | ⟨q1, -⟩ | ⟨q1, -⟩
          · exact q
          · exact absurd (q1.symm.trans hk) (by decide)
          · exact absurd (q1.symm.trans hk) (by decide)
          · exact absurd (q1.symm.trans hk) (by decide)
          · exact absurd (q1.symm.trans hk) (by decide)
        obtain ⟨m1, m2, m3⟩ := kk2
        have loop : ∀ (k q : Nat) (x2 : Int), k < q → x2 < p → x2 + 1 = t + k → l_X9_nameHere_41 q (ncl (ws B (x2 + 1) (p - 1 - x2).toNat)) x2 dc = some (ncl (ws B t (p - t).toNat), dc) := by
          intro k
          induction k with
          | zero =>
            intro q x2 hq x0 hx
            obtain ⟨q, rfl⟩ : ∃ q0, q = q0 + 1 := ⟨q - 1, by omega⟩
            show l_X9_nameHere_41F _ _ x2 dc = _
            unfold l_X9_nameHere_41F
            rw [zl_n, k1, if_pos (by omega), show x2 + 1 = t by omega, show p - 1 - x2 = p - t by omega]
          | succ k ih =>
            intro q x2 hq x0 hx
            obtain ⟨q, rfl⟩ : ∃ q0, q = q0 + 1 := ⟨q - 1, by omega⟩
            have hb := h4 x2 (by omega) (by omega)
            have hm := m2 x2 (by omega) (by omega)
            have hv := ncl_b (B := B) (p - 1 - x2).toNat (x2 + 1) fun i i0 i1 => m2 i (by omega) (by omega)
            have hv2 := p32 (p - 1 - x2).toNat (by omega)
            have hs : ncl (ws B (x2 - 1 + 1) (p - 1 - (x2 - 1)).toNat) = 32 * ncl (ws B (x2 + 1) (p - 1 - x2).toNat) + (B x2 - 97 + 1) := by
              rw [show (p - 1 - (x2 - 1)).toNat = (p - 1 - x2).toNat + 1 by omega, show x2 - 1 + 1 = x2 by omega]
              show (B x2 - 96) + 32 * ncl (ws B (x2 + 1) (p - 1 - x2).toNat) = _
              omega
            show l_X9_nameHere_41F _ _ x2 dc = _
            unfold l_X9_nameHere_41F
            rw [zl_n, k1, if_neg (by omega), zl_n, z_shl5 (by omega), zg_t (by omega), zl_n, hb.1, zl_n, zw_id (x := B x2 - 97) (by omega) (by omega), zl_n, zw_id (x := B x2 - 97 + 1) (by omega) (by omega), zl_n, z_or5 (by omega) (by omega), zl_n, show x2 + -1 = x2 - 1 by omega, zw_id (x := x2 - 1) (by omega) (by omega), ← hs]
            exact ih q (x2 - 1) (by omega) (by omega) (by omega)
        have := loop (p - t).toNat zF (p - 1) (by omega) (by omega) (by omega)
        rw [show (p - 1 - (p - 1)).toNat = 0 by omega] at this
        refine Or.inr ⟨_, this, rfl, ws B t (p - t).toNat, ?_, ws_mem _ _ fun i i0 i1 => m2 i i0 (by omega), rfl, m3 (by omega)⟩
        rw [ws_len]
        omega
      · rw [if_neg hv0, if_neg hv0]
        exact Or.inl ⟨rfl, rfl⟩
  · rw [if_neg hk, if_neg (fun q => hk (hkind.mpr q))]
    exact Or.inl ⟨rfl, rfl⟩
end K2
