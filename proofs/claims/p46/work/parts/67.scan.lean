/-! The tokens of a text. -/
def TI (B : Int → Int) (n : Int) (dc ds : zD) : Prop := (0 ≤ n ∧ n ≤ 600) ∧ dc 10 1 = n ∧ ds 400 11 = n ∧ (∀ p, 0 ≤ p → p < n → dc 11 p.toNat = B p ∧ zand (ds 405 p.toNat) 255 = B p ∧ 0 ≤ B p ∧ B p ≤ 255) ∧ ∀ p, n ≤ p → B p = -1
def FT (d d' : zD) : Prop := (∀ c, c ≠ 10 → d' c = d c) ∧ ∀ j, j ≠ 2 → j ≠ 3 → j ≠ 4 → d' 10 j = d 10 j
def FS (d d' : zD) : Prop := (∀ c, c ≠ 400 → d' c = d c) ∧ ∀ j, j < 14 ∨ 18 < j → d' 400 j = d 400 j
theorem FT.tr {a b c : zD} (h : FT a b) (q : FT b c) : FT a c := ⟨fun k k1 => (q.1 k k1).trans (h.1 k k1), fun j j1 j2 j3 => (q.2 j j1 j2 j3).trans (h.2 j j1 j2 j3)⟩
theorem FS.tr {a b c : zD} (h : FS a b) (q : FS b c) : FS a c := ⟨fun k k1 => (q.1 k k1).trans (h.1 k k1), fun j j1 => (q.2 j j1).trans (h.2 j j1)⟩
theorem FT.rf {a : zD} : FT a a := ⟨fun _ _ => rfl, fun _ _ _ _ => rfl⟩
theorem FS.rf {a : zD} : FS a a := ⟨fun _ _ => rfl, fun _ _ => rfl⟩
theorem FT.u {a : zD} {i : Nat} {v : Int} (h : i = 2 ∨ i = 3 ∨ i = 4) : FT a (zu a 10 i v) := ⟨fun k k1 => zu_row k1, fun j j1 j2 j3 => zu_ne (by omega)⟩
theorem FS.u {a : zD} {i : Nat} {v : Int} (h : 14 ≤ i ∧ i ≤ 18) : FS a (zu a 400 i v) := ⟨fun k k1 => zu_row k1, fun j j1 => zu_ne (by omega)⟩
section T
variable {B : Int → Int} {n : Int}
theorem TI.f {dc ds dc' ds' : zD} (h : TI B n dc ds) (f : FT dc dc') (g : FS ds ds') : TI B n dc' ds' := by
  obtain ⟨h1, h2, h3, h4, h5⟩ := h
  refine ⟨h1, by rw [f.2 1 (by omega) (by omega) (by omega)]; exact h2, by rw [g.2 11 (by omega)]; exact h3, fun p p0 p1 => ?_, h5⟩
  rw [f.1 11 (by omega), g.1 405 (by omega)]
  exact h4 p p0 p1
theorem TI_B {dc ds : zD} (h : TI B n dc ds) {p : Int} (hp : 0 ≤ p) : -1 ≤ B p ∧ B p ≤ 255 := by
  obtain ⟨h1, h2, h3, h4, h5⟩ := h
  by_cases hn : p < n
  · have := h4 p hp hn
    omega
  · have := h5 p (by omega)
    omega
theorem e_bt {dc ds : zD} (h : TI B n dc ds) {p : Int} (hp : 0 ≤ p) : f_X12_byteAt p ds = some (B p, ds) := by
  obtain ⟨h1, h2, h3, h4, h5⟩ := h
  unfold f_X12_byteAt
  rw [zl_n, h3]
  by_cases hn : p < n
  · rw [if_neg (by omega), zg_t (by omega), zl_n, zl_n, (h4 p hp hn).2.1]
  · rw [if_pos (by omega), h5 p (by omega)]
def ws (B : Int → Int) (t : Int) : Nat → List Int
  | 0 => []
  | k + 1 => (B t - 96) :: ws B (t + 1) k
theorem ws_snoc : ∀ (k : Nat) (t : Int), ws B t (k + 1) = ws B t k ++ [B (t + k) - 96] := by
  intro k
  induction k with
  | zero =>
    intro t
    show [B t - 96] = [B (t + ((0 : Nat) : Int)) - 96]
    rw [show t + ((0 : Nat) : Int) = t by omega]
  | succ k ih =>
    intro t
    show (B t - 96) :: ws B (t + 1) (k + 1) = (B t - 96) :: (ws B (t + 1) k ++ [B (t + ((k + 1 : Nat) : Int)) - 96])
    rw [ih, show t + 1 + (k : Int) = t + ((k + 1 : Nat) : Int) by omega]
theorem nrf_app : ∀ (l : List Int) (a x : Int), nrf (l ++ [x]) a = 32 * nrf l a + x := by
  intro l
  induction l with
  | nil => intro a x; rfl
  | cons y l ih => intro a x; exact ih (32 * a + y) x
theorem ws_b : ∀ (k : Nat) (t : Int), k ≤ 5 → (∀ i, t ≤ i → i < t + k → 97 ≤ B i ∧ B i ≤ 122) → 0 ≤ nrf (ws B t k) 0 ∧ nrf (ws B t k) 0 < 32 ^ k := by
  intro k
  induction k with
  | zero => intro t _ _; exact ⟨by show (0 : Int) ≤ 0; omega, by show (0 : Int) < 32 ^ 0; decide⟩
  | succ k ih =>
    intro t hk h
    have := ih t (by omega) fun i i0 i1 => h i i0 (by omega)
    have hb := h (t + k) (by omega) (by omega)
    rw [ws_snoc, nrf_app]
    have e : (32 : Int) ^ (k + 1) = 32 * 32 ^ k := by rw [Int.pow_succ]; omega
    rw [e]
    omega
theorem p32 (k : Nat) (h : k ≤ 5) : (32 : Int) ^ k ≤ 33554432 := by
  have : k = 0 ∨ k = 1 ∨ k = 2 ∨ k = 3 ∨ k = 4 ∨ k = 5 := by omega
  rcases this with e | e | e | e | e | e <;> subst e <;> decide
def nvl (B : Int → Int) (t : Int) : Nat → Int
  | 0 => 0
  | k + 1 => 10 * nvl B t k + (B (t + k) - 48)
theorem nvl_b : ∀ (k : Nat) (t : Int), (∀ i, t ≤ i → i < t + k → 48 ≤ B i ∧ B i ≤ 57) → 0 ≤ nvl B t k ∧ nvl B t k < 10 ^ k := by
  intro k
  induction k with
  | zero => intro t _; exact ⟨by show (0 : Int) ≤ 0; omega, by show (0 : Int) < 1; omega⟩
  | succ k ih =>
    intro t h
    have := ih t fun i i0 i1 => h i i0 (by omega)
    have hb := h (t + k) (by omega) (by omega)
    have e : (10 : Int) ^ (k + 1) = 10 * 10 ^ k := by rw [Int.pow_succ]; omega
    rw [e]
    show 0 ≤ 10 * nvl B t k + (B (t + k) - 48) ∧ 10 * nvl B t k + (B (t + k) - 48) < _
    omega
theorem p10 (k : Nat) (h : k ≤ 4) : (10 : Int) ^ k ≤ 10000 := by
  have : k = 0 ∨ k = 1 ∨ k = 2 ∨ k = 3 ∨ k = 4 := by omega
  rcases this with e | e | e | e | e <;> subst e <;> decide
theorem p10' (k : Nat) (h : k ≤ 3) : (10 : Int) ^ k ≤ 1000 := by
  have : k = 0 ∨ k = 1 ∨ k = 2 ∨ k = 3 := by omega
  rcases this with e | e | e | e <;> subst e <;> decide
def TKp (dc ds : zD) (t p : Int) : Prop := dc 10 3 = t ∧ ds 400 14 = t ∧ dc 10 4 = p ∧ ds 400 15 = p
def TKk (B : Int → Int) (dc ds : zD) (t p : Int) : Prop := (dc 10 2 = 0 ∧ ds 400 16 = 1 ∧ t < p ∧ (∀ i, t ≤ i → i < p → 97 ≤ B i ∧ B i ≤ 122) ∧ (p - t ≤ 6 → ds 400 18 = nrf (ws B t (p - t).toNat) 0)) ∨ (dc 10 2 = 1 ∧ ds 400 16 = 2 ∧ t < p ∧ p - t ≤ 4 ∧ (∀ i, t ≤ i → i < p → 48 ≤ B i ∧ B i ≤ 57) ∧ ds 400 17 = nvl B t (p - t).toNat) ∨ (dc 10 2 = 2 ∧ ds 400 16 = 3 ∧ t < p) ∨ (dc 10 2 = 3 ∧ ds 400 16 = 0 ∧ t = n ∧ p = n) ∨ (dc 10 2 = 4 ∧ ds 400 16 = 4 ∧ t < p)
def TZ (B : Int → Int) (n : Int) (dc ds : zD) : Prop := TI B n dc ds ∧ ∃ t p, TKp dc ds t p ∧ TKk (n := n) B dc ds t p ∧ 0 ≤ t ∧ t ≤ p ∧ p ≤ n
/-- one letter more, in the reference -/
theorem T_w1 {dc ds : zD} {t p : Int} (h : TI B n dc ds) (hp : ds 400 15 = p) (ht : ds 400 14 = t) (h0 : 0 ≤ t ∧ t ≤ p ∧ p < n) (hl : 97 ≤ B p ∧ B p ≤ 122) (hls : ∀ i, t ≤ i → i < p → 97 ≤ B i ∧ B i ≤ 122) (hw : p - t ≤ 6 → ds 400 18 = nrf (ws B t (p - t).toNat) 0) : ∃ ds1, (∀ q, l_X12_scans_90 (q + 1) ds = l_X12_scans_90 q ds1) ∧ FS ds ds1 ∧ ds1 400 14 = t ∧ ds1 400 15 = p + 1 ∧ (p + 1 - t ≤ 6 → ds1 400 18 = nrf (ws B t (p + 1 - t).toNat) 0) := by
  have h600 := h.1
  by_cases h6 : p - t < 6
  · have hk := ws_b (B := B) (p - t).toNat t (by omega) fun i i0 i1 => hls i i0 (by omega)
    have hk2 := p32 (p - t).toNat (by omega)
    have ew := hw (by omega)
    refine ⟨zu (zu ds 400 18 (32 * ds 400 18 + B p - 97 + 1)) 400 15 (p + 1), fun q => ?_, (FS.u (by omega)).tr (FS.u (by omega)), by rw [zu_ne (by omega), zu_ne (by omega)]; exact ht, zu_eq, fun _ => ?_⟩
    · show l_X12_scans_90F _ ds = _
      unfold l_X12_scans_90F j_X12_scans_147
      rw [zl_n, hp, e_bt h (by omega), zc_n, e_isIn, zc_n, if_pos hl, if_neg (show ¬ (1 : Int) = 0 by decide), zl_n, hp, zl_n, ht, zl_n, zw_id (x := p - t) (by omega) (by omega), if_neg (by omega), zl_n, zl_n, zw_id (x := 32 * ds 400 18) (by omega) (by omega), zl_n, e_bt h (by omega), zc_n, zl_n, zw_id (x := 32 * ds 400 18 + B p) (by omega) (by omega), zl_n, zw_id (x := 32 * ds 400 18 + B p - 97) (by omega) (by omega), zl_n, zw_id (by omega) (by omega), zl_n, zl_n, zu_ne (by omega), hp, zl_n, zw_id (by omega) (by omega), zl_n]
    · rw [zu_ne (by omega), zu_eq, show (p + 1 - t).toNat = (p - t).toNat + 1 by omega, ws_snoc, nrf_app, ew, show t + ((p - t).toNat : Int) = p by omega]
      omega
  · refine ⟨zu ds 400 15 (p + 1), fun q => ?_, FS.u (by omega), by rw [zu_ne (by omega)]; exact ht, zu_eq, fun q => absurd q (by omega)⟩
    show l_X12_scans_90F _ ds = _
    unfold l_X12_scans_90F j_X12_scans_147
    rw [zl_n, hp, e_bt h (by omega), zc_n, e_isIn, zc_n, if_pos hl, if_neg (show ¬ (1 : Int) = 0 by decide), zl_n, hp, zl_n, ht, zl_n, zw_id (x := p - t) (by omega) (by omega), if_pos (by omega), zl_n, zl_n, zw_id (by omega) (by omega), zl_n]
theorem T_word : ∀ (k q q' : Nat) {dc ds : zD} {t p : Int}, TI B n dc ds → TKp dc ds t p → dc 10 2 = 0 → (0 ≤ t ∧ t < p ∧ p ≤ n) → p + k = n → (∀ i, t ≤ i → i < p → 97 ≤ B i ∧ B i ≤ 122) → (p - t ≤ 6 → ds 400 18 = nrf (ws B t (p - t).toNat) 0) → k < q → k < q' → ∃ dc1 ds1, l_X9_advance_114 q dc = some (0, dc1) ∧ l_X12_scans_90 q' ds = some (0, ds1) ∧ TZ B n dc1 ds1 ∧ FT dc dc1 ∧ FS ds ds1 := by
  intro k
  induction k with
  | zero =>
    intro q q' dc ds t p h hk h2 hp hn hl hw hq hq'
    obtain ⟨k1, k2, k3, k4⟩ := hk
    obtain ⟨h1, n1, n2, h4, h5⟩ := id h
    obtain ⟨q, rfl⟩ : ∃ q0, q = q0 + 1 := ⟨q - 1, by omega⟩
    obtain ⟨q', rfl⟩ : ∃ q0, q' = q0 + 1 := ⟨q' - 1, by omega⟩
    have hb := h5 p (by omega)
    refine ⟨dc, zu ds 400 16 1, ?_, ?_, ⟨h.f FT.rf (FS.u (by omega)), t, p, ⟨k1, by rw [zu_ne (by omega)]; exact k2, k3, by rw [zu_ne (by omega)]; exact k4⟩, Or.inl ⟨h2, zu_eq, by omega, hl, fun q => by rw [zu_ne (by omega)]; exact hw q⟩, by omega, by omega, by omega⟩, FT.rf, FS.u (by omega)⟩
    · show l_X9_advance_114F _ dc = _
      unfold l_X9_advance_114F
      rw [zl_n, k3, zl_n, n1, if_pos (by omega)]
    · show l_X12_scans_90F _ ds = _
      unfold l_X12_scans_90F
      rw [zl_n, k4, e_bt h (by omega), zc_n, e_isIn, zc_n, if_neg (show ¬ (97 ≤ B p ∧ B p ≤ 122) by omega), if_pos (show (0 : Int) = 0 from rfl), zl_n]
  | succ k ih =>
    intro q q' dc ds t p h hk h2 hp hn hl hw hq hq'
    obtain ⟨k1, k2, k3, k4⟩ := id hk
    obtain ⟨h1, n1, n2, h4, h5⟩ := id h
    obtain ⟨q, rfl⟩ : ∃ q0, q = q0 + 1 := ⟨q - 1, by omega⟩
    obtain ⟨q', rfl⟩ : ∃ q0, q' = q0 + 1 := ⟨q' - 1, by omega⟩
    have hb := h4 p (by omega) (by omega)
    by_cases hL : 97 ≤ B p ∧ B p ≤ 122
    · obtain ⟨ds1, r1, r2, r3, r4, r5⟩ := T_w1 h k4 k2 (by omega) hL hl hw
      have f1 : FT dc (zu dc 10 4 (p + 1)) := FT.u (by omega)
      obtain ⟨dc2, ds2, a1, a2, a3, a4, a5⟩ := ih q q' (t := t) (p := p + 1) (h.f f1 r2) ⟨by rw [zu_ne (by omega)]; exact k1, r3, zu_eq, r4⟩ (by rw [zu_ne (by omega)]; exact h2) (by omega) (by omega) (fun i i0 i1 => by
        by_cases e : i = p
        · rw [e]; exact hL
        · exact hl i i0 (by omega)) r5 (by omega) (by omega)
      refine ⟨dc2, ds2, ?_, by rw [r1]; exact a2, a3, f1.tr a4, r2.tr a5⟩
      show l_X9_advance_114F _ dc = _
      unfold l_X9_advance_114F
      rw [zl_n, k3, zl_n, n1, if_neg (by omega), zl_n, zg_t (by omega), zl_n, hb.1, if_neg (by omega), zl_n, zg_t (by omega), zl_n, hb.1, if_neg (by omega), zl_n, zl_n, zw_id (by omega) (by omega), zl_n]
      exact a1
    · refine ⟨dc, zu ds 400 16 1, ?_, ?_, ⟨h.f FT.rf (FS.u (by omega)), t, p, ⟨k1, by rw [zu_ne (by omega)]; exact k2, k3, by rw [zu_ne (by omega)]; exact k4⟩, Or.inl ⟨h2, zu_eq, by omega, hl, fun q => by rw [zu_ne (by omega)]; exact hw q⟩, by omega, by omega, by omega⟩, FT.rf, FS.u (by omega)⟩
      · show l_X9_advance_114F _ dc = _
        unfold l_X9_advance_114F
        rw [zl_n, k3, zl_n, n1, if_neg (by omega), zl_n, zg_t (by omega), zl_n, hb.1]
        by_cases h97 : B p < 97
        · rw [if_pos h97]
        · rw [if_neg h97, zl_n, zg_t (by omega), zl_n, hb.1, if_pos (by omega)]
      · show l_X12_scans_90F _ ds = _
        unfold l_X12_scans_90F
        rw [zl_n, k4, e_bt h (by omega), zc_n, e_isIn, zc_n, if_neg hL, if_pos (show (0 : Int) = 0 from rfl), zl_n]
end T
