/-! What a line of the class and the reference's row of numbers have in common. -/
abbrev zM : Type := Int → Int → Int
def up2 (T : zM) (x w v : Int) : zM := fun y u => if y = x ∧ u = w then v else T y u
theorem up2_eq {T : zM} {x w v : Int} : up2 T x w v x w = v := if_pos ⟨rfl, rfl⟩
theorem up2_ne {T : zM} {x w v y u : Int} (h : y ≠ x ∨ u ≠ w) : up2 T x w v y u = T y u := if_neg (fun q => by omega)
theorem rT_f {s : Nat → Int} {j : Nat} {v : Int} (h : j < 50 ∨ 178 ≤ j) : rT (us s j v) = rT s := by
  funext y u
  unfold rT
  split
  · rw [us_ne (by omega)]
  · rfl
theorem rM_f {s : Nat → Int} {j : Nat} {v : Int} (h : j < 200 ∨ 680 ≤ j) : rM (us s j v) = rM s := by
  funext y u
  unfold rM
  split
  · rw [us_ne (by omega)]
  · rfl
theorem rT_u {s : Nat → Int} {x w v : Int} (hx : 0 ≤ x ∧ x < 8) (hw : 0 ≤ w ∧ w < 16) : rT (uT s x w v) = up2 (rT s) x w v := by
  funext y u
  show (if (0 ≤ y ∧ y < 8) ∧ 0 ≤ u ∧ u < 16 then us s (50 + 16 * x + w).toNat v (50 + 16 * y + u).toNat else 0) = if y = x ∧ u = w then v else (if (0 ≤ y ∧ y < 8) ∧ 0 ≤ u ∧ u < 16 then s (50 + 16 * y + u).toNat else 0)
  by_cases h : y = x ∧ u = w
  · obtain ⟨rfl, rfl⟩ := h
    rw [if_pos ⟨hx, hw⟩, us_eq, if_pos ⟨rfl, rfl⟩]
  · rw [if_neg h]
    by_cases hb : (0 ≤ y ∧ y < 8) ∧ 0 ≤ u ∧ u < 16
    · rw [if_pos hb, if_pos hb, us_ne (by omega)]
    · rw [if_neg hb, if_neg hb]
theorem rM_u {s : Nat → Int} {x w v : Int} (hx : 0 ≤ x ∧ x < 40) (hw : 0 ≤ w ∧ w < 12) : rM (uM s x w v) = up2 (rM s) x w v := by
  funext y u
  show (if (0 ≤ y ∧ y < 40) ∧ 0 ≤ u ∧ u < 12 then us s (200 + 12 * x + w).toNat v (200 + 12 * y + u).toNat else 0) = if y = x ∧ u = w then v else (if (0 ≤ y ∧ y < 40) ∧ 0 ≤ u ∧ u < 12 then s (200 + 12 * y + u).toNat else 0)
  by_cases h : y = x ∧ u = w
  · obtain ⟨rfl, rfl⟩ := h
    rw [if_pos ⟨hx, hw⟩, us_eq, if_pos ⟨rfl, rfl⟩]
  · rw [if_neg h]
    by_cases hb : (0 ≤ y ∧ y < 40) ∧ 0 ≤ u ∧ u < 12
    · rw [if_pos hb, if_pos hb, us_ne (by omega)]
    · rw [if_neg hb, if_neg hb]
theorem rM_uT {s : Nat → Int} {x w v : Int} (hx : 0 ≤ x ∧ x < 8) (hw : 0 ≤ w ∧ w < 16) : rM (uT s x w v) = rM s := by
  unfold uT
  exact rM_f (by omega)
theorem rT_uM {s : Nat → Int} {x w v : Int} (hx : 0 ≤ x ∧ x < 40) (hw : 0 ≤ w ∧ w < 12) : rT (uM s x w v) = rT s := by
  unfold uM
  exact rT_f (by omega)
theorem uT_k {s : Nat → Int} {x w v : Int} {k : Nat} (hx : 0 ≤ x ∧ x < 8) (hw : 0 ≤ w ∧ w < 16) (h : k < 50 ∨ 178 ≤ k) : uT s x w v k = s k := us_ne (by omega)
theorem uM_k {s : Nat → Int} {x w v : Int} {k : Nat} (hx : 0 ≤ x ∧ x < 40) (hw : 0 ≤ w ∧ w < 12) (h : k < 200 ∨ 680 ≤ k) : uM s x w v k = s k := us_ne (by omega)
def RS (d : zD) (b : Nat) (s : Nat → Int) : Prop := d b 8 = s 1 ∧ d b 9 = s 3 ∧ d b 10 = s 4 ∧ d b 11 = s 5 ∧ d b 12 = s 28 ∧ d b 13 = s 27 ∧ d b 14 = s 26 ∧ d b 15 = s 25 ∧ d (b + 1) 0 = s 2
def RA (d : zD) (b : Nat) (s : Nat → Int) : Prop := (∀ k : Int, 0 ≤ k → k < 6 → d (b + 27) k.toNat = s (6 + k).toNat) ∧ (∀ k : Int, 0 ≤ k → k < 13 → d (b + 28) k.toNat = s (12 + k).toNat) ∧ ∀ k : Int, 0 ≤ k → k < s 1 → d (b + 29) k.toNat = s (30 + k).toNat
def RQ (d : zD) (b : Nat) (n : Int) (T : zM) : Prop := ∀ x : Int, 0 ≤ x → x < n → d (b + 16) x.toNat = T x 3 ∧ d (b + 17) x.toNat = T x 4 ∧ d (b + 18) x.toNat = T x 5 ∧ d (b + 19) x.toNat = T x 6 ∧ d (b + 20) x.toNat = T x 7 ∧ d (b + 21) x.toNat = T x 8 ∧ d (b + 22) x.toNat = T x 9 ∧ ∀ w : Int, 0 ≤ w → w < 4 → d (b + 24) (w * 8 + x).toNat = T x (11 + w)
def RM (D : Int → List Int) (d : zD) (b : Nat) (n : Int) (M : zM) : Prop := ∀ m : Int, 0 ≤ m → m < n → d (b + 2) m.toNat = M m 0 ∧ d (b + 3) m.toNat = M m 1 ∧ d (b + 4) m.toNat = M m 2 ∧ d (b + 6) m.toNat = M m 4 ∧ d (b + 7) m.toNat = M m 5 ∧ d (b + 8) m.toNat = M m 6 ∧ ((∀ x, 0 ≤ x → x < 8 → m ∉ D x) → d (b + 5) m.toNat = M m 3 ∧ d (b + 9) m.toNat = M m 7)
def due (M : zM) (P tm : Int) : Int → List Int → Int → Prop
  | F, [], E => E = F
  | F, m :: l, E => (M m 3 = 3 ∧ M m 7 = F + P ∧ F + P ≤ tm) ∧ due M P tm (F + P) l E
def RD (D : Int → List Int) (d : zD) (b : Nat) (n tm : Int) (T M : zM) : Prop := ∀ x : Int, 0 ≤ x → x < n → due M (T x 2) tm (d (b + 23) x.toNat) (D x) (T x 10)
def RZ (L : Int → Int → List Int) (n tm : Int) (T : zM) : Prop := ∀ x : Int, 0 ≤ x → x < n → L 2 x ≠ [] → tm < T x 10 + T x 2
def RLL (L : Int → Int → List Int) (n : Int) (M : zM) : Prop := ∀ r x, 0 ≤ r → r < 3 → 0 ≤ x → x < 8 → rwl M n r x (L r x)
def RKL (K L : Int → Int → List Int) (D : Int → List Int) : Prop := ∀ x, K 0 x = L 0 x ∧ K 1 x = L 1 x ∧ K 2 x = D x ++ L 2 x
/-- what the law asks of a message: its times, where it stands -/
def RJm (tm : Int) (T M : zM) (m : Int) : Prop :=
  (M m 3 = 0 → M m 5 = -1 ∧ M m 6 = -1 ∧ M m 7 = -1 ∧ M m 0 ≠ -1 ∧ M m 8 = 1) ∧
  (M m 3 ≠ 0 → M m 4 ≤ M m 5 ∧ (M m 0 ≠ -1 → M m 4 + M m 2 ≤ M m 5) ∧ M m 5 ≤ tm) ∧
  (M m 1 = -1 → M m 3 = 0 ∨ (M m 3 = 3 ∧ M m 7 = M m 5 ∧ M m 6 = -1)) ∧
  (M m 1 ≠ -1 → (M m 3 = 1 → M m 6 = -1 ∧ M m 7 = -1 ∧ 0 < M m 9) ∧ (M m 3 = 2 → M m 7 = -1 ∧ 0 < M m 10) ∧ (2 ≤ M m 3 → M m 5 + M m 2 ≤ M m 6) ∧ (M m 3 = 3 → M m 6 + T (M m 1) 2 ≤ M m 7 ∧ M m 7 ≤ tm)) ∧
  (M m 3 = 3 → M m 10 = 0) ∧ M m 4 ≤ tm
/-- .. of a terminal: its bits, its buffer, its misses -/
def RJx (L : Int → Int → List Int) (lim : Int) (T M : zM) (x : Int) : Prop :=
  (T x 6 ≠ T x 9 → ∀ m l, L 0 x = m :: l → M m 3 ≠ 0) ∧ (T x 8 ≠ T x 7 → ∀ m l, L 1 x = m :: l → 2 ≤ M m 3) ∧
  ((L 2 x).length : Int) ≤ T x 1 ∧ (∀ m l, L 2 x = m :: l → M m 6 ≤ T x 10 ∧ ∀ y, y ∈ l → M y 6 ≤ T x 10 + T x 2) ∧ (T x 4 = 1 → T x 5 < lim) ∧ 0 ≤ T x 5
def RJ (L : Int → Int → List Int) (n k tm lim : Int) (T M : zM) : Prop := (∀ m, 0 ≤ m → m < k → RJm tm T M m) ∧ ∀ x, 0 ≤ x → x < n → RJx L lim T M x
def RPo (L : Int → Int → List Int) (n : Int) (T M : zM) : Prop := ∀ x : Int, 0 ≤ x → x < n → (∀ m l, L 0 x = m :: l → (∀ y, y ∈ l → M y 3 = 0) ∧ (T x 6 = T x 9 → M m 3 = 0)) ∧ (T x 6 ≠ T x 9 → L 0 x ≠ []) ∧ (∀ m l, L 1 x = m :: l → (∀ y, y ∈ l → M y 3 = 1) ∧ (T x 8 = T x 7 → M m 3 = 1)) ∧ (T x 8 ≠ T x 7 → L 1 x ≠ [])
def RP (L : Int → Int → List Int) (n k tm lim : Int) (T M : zM) : Prop := RPo L n T M ∧ RJ L n k tm lim T M
def RG (d : zD) (b : Nat) (s : Nat → Int) : Prop := d (b + 25) 0 = s 29 ∧ (0 ≤ d (b + 25) 1 ∧ d (b + 25) 1 < 20) ∧ ∀ i w : Int, 0 ≤ i → i < s 29 → 0 ≤ w → w < 5 → d (b + 26) ((d (b + 25) 1 + 39 - i) % 20 * 5 + w).toNat = s (700 + 5 * (s 29 - 1 - i) + w).toNat
def RI (N : Int) (s : Nat → Int) : Prop := (1 ≤ s 0 ∧ s 0 ≤ 8) ∧ (0 ≤ s 1 ∧ s 1 ≤ 16) ∧ (0 ≤ s 2 ∧ s 2 ≤ 40) ∧ (0 ≤ s 3 ∧ s 3 ≤ N) ∧ (0 ≤ s 4 ∧ s 4 ≤ 20000) ∧ (0 ≤ s 5 ∧ s 5 < 65537) ∧ (1 ≤ s 6 ∧ s 6 ≤ 20) ∧ (1 ≤ s 7 ∧ s 7 ≤ 5) ∧ (1 ≤ s 8 ∧ s 8 ≤ 5) ∧ (0 ≤ s 9 ∧ s 9 ≤ 20) ∧ (0 ≤ s 10 ∧ s 10 ≤ 5) ∧ (0 ≤ s 11 ∧ s 11 ≤ 99) ∧ (-1 ≤ s 26 ∧ s 26 < 16) ∧ (-1 ≤ s 27 ∧ s 27 < s 0) ∧ (-1 ≤ s 28 ∧ s 28 < s 0) ∧ (0 ≤ s 29 ∧ s 29 ≤ 20) ∧ (0 ≤ s 46 ∧ s 46 ≤ N) ∧ N ≤ 1000000000 ∧ 0 ≤ s 13 ∧ s 13 ≤ s 12 ∧ s 12 ≤ N
def RIL (s : Nat → Int) : Prop := ∀ k : Int, 0 ≤ k → k < s 1 → 0 ≤ s (30 + k).toNat ∧ s (30 + k).toNat < s 0
def RIT (n tm : Int) (T : zM) : Prop := ∀ x : Int, 0 ≤ x → x < n → (1 ≤ T x 0 ∧ T x 0 ≤ 9) ∧ (1 ≤ T x 1 ∧ T x 1 ≤ 4) ∧ (0 ≤ T x 2 ∧ T x 2 ≤ 30) ∧ (T x 3 = 0 ∨ T x 3 = 1) ∧ (T x 4 = 0 ∨ T x 4 = 1) ∧ (T x 6 = 0 ∨ T x 6 = 1) ∧ (T x 7 = 0 ∨ T x 7 = 1) ∧ (T x 8 = 0 ∨ T x 8 = 1) ∧ (T x 9 = 0 ∨ T x 9 = 1) ∧ (0 ≤ T x 10 ∧ T x 10 ≤ tm)
def RIM (n k q : Int) (M : zM) : Prop := ∀ m : Int, 0 ≤ m → m < k → (-1 ≤ M m 0 ∧ M m 0 < n) ∧ (-1 ≤ M m 1 ∧ M m 1 < n) ∧ (1 ≤ M m 2 ∧ M m 2 ≤ 20) ∧ (0 ≤ M m 3 ∧ M m 3 ≤ 3) ∧ (0 ≤ M m 9 ∧ M m 9 ≤ q) ∧ (0 ≤ M m 10 ∧ M m 10 ≤ q) ∧ (M m 3 = 0 → M m 9 = 0 ∧ M m 10 = 0) ∧ (M m 3 = 1 → M m 10 = 0)
/-- a name as one number: the class has its first letter lowest, the reference highest -/
def ncl : List Int → Int
  | [] => 0
  | x :: l => x + 32 * ncl l
def nrf : List Int → Int → Int
  | [], a => a
  | x :: l, a => nrf l (32 * a + x)
def nmr (a c : Int) : Prop := ∃ l : List Int, (1 ≤ l.length ∧ l.length ≤ 6) ∧ (∀ x, x ∈ l → 1 ≤ x ∧ x ≤ 26) ∧ a = ncl l ∧ c = nrf l 0
def RU (d : zD) (n : Int) (T : zM) : Prop := d 1 0 = n ∧ ∀ x : Int, 0 ≤ x → x < n → d 3 x.toNat = T x 0 ∧ d 4 x.toNat = T x 1 ∧ d 5 x.toNat = T x 2 ∧ nmr (d 2 x.toNat) (T x 15)
/-- the relation of a line and a row, but for what is due -/
def RC (K L : Int → Int → List Int) (D : Int → List Int) (d : zD) (b : Nat) (s : Nat → Int) (N : Int) : Prop :=
  RS d b s ∧ RA d b s ∧ RQ d b (s 0) (rT s) ∧ RM D d b (s 2) (rM s) ∧ RD D d b (s 0) (s 3) (rT s) (rM s) ∧ KR K d b (s 2) (rM s) ∧ RLL L (s 2) (rM s) ∧ RKL K L D ∧ RP L (s 0) (s 2) (s 3) (s 8) (rT s) (rM s) ∧ RG d b s ∧ RI N s ∧ RIL s ∧ RIT (s 0) (s 3) (rT s) ∧ RIM (s 0) (s 2) (s 46) (rM s) ∧ RU d (s 0) (rT s) ∧ 6 ≤ b
theorem RS_s {d : zD} {b : Nat} {s s' : Nat → Int} (h : RS d b s) (e : ∀ k, k < 50 → s' k = s k) : RS d b s' := by
  unfold RS
  rw [e 1 (by omega), e 2 (by omega), e 3 (by omega), e 4 (by omega), e 5 (by omega), e 25 (by omega), e 26 (by omega), e 27 (by omega), e 28 (by omega)]
  exact h
theorem RA_s {d : zD} {b : Nat} {s s' : Nat → Int} (h : RA d b s) (hL : s 1 ≤ 16) (e : ∀ k, k < 50 → s' k = s k) : RA d b s' := by
  refine ⟨fun k h1 h2 => ?_, fun k h1 h2 => ?_, fun k h1 h2 => ?_⟩
  · rw [e _ (by omega)]; exact h.1 k h1 h2
  · rw [e _ (by omega)]; exact h.2.1 k h1 h2
  · rw [e 1 (by omega)] at h2
    rw [e _ (by omega)]
    exact h.2.2 k h1 h2
theorem RI_s {N : Int} {s s' : Nat → Int} (h : RI N s) (e : ∀ k, k < 50 → s' k = s k) : RI N s' := by
  unfold RI
  rw [e 0 (by omega), e 1 (by omega), e 2 (by omega), e 3 (by omega), e 4 (by omega), e 5 (by omega), e 6 (by omega), e 7 (by omega), e 8 (by omega), e 9 (by omega), e 10 (by omega), e 11 (by omega), e 12 (by omega), e 13 (by omega), e 26 (by omega), e 27 (by omega), e 28 (by omega), e 29 (by omega), e 46 (by omega)]
  exact h
theorem RIL_s {s s' : Nat → Int} (h : RIL s) (hL : s 1 ≤ 16) (e : ∀ k, k < 50 → s' k = s k) : RIL s' := by
  intro k h1 h2
  rw [e 1 (by omega)] at h2
  rw [e _ (by omega), e 0 (by omega)]
  exact h k h1 h2
theorem RG_s {d : zD} {b : Nat} {s s' : Nat → Int} (h : RG d b s) (e : ∀ k, k < 50 → s' k = s k) (e2 : ∀ k, 700 ≤ k → s' k = s k) : RG d b s' := by
  obtain ⟨h1, h2, h3⟩ := h
  refine ⟨by rw [e 29 (by omega)]; exact h1, h2, fun i w i0 i1 w0 w1 => ?_⟩
  rw [e 29 (by omega)] at i1 ⊢
  rw [e2 _ (by omega)]
  exact h3 i w i0 i1 w0 w1
theorem rwl_congr {M M' : zM} {n r x : Int} {l : List Int} (h : rwl M n r x l) (e : ∀ m, 0 ≤ m → m < n → ord M' r x m = ord M r x m) : rwl M' n r x l := by
  refine ⟨h.1.imp_of_mem fun {a c} ha hc hac => ?_, fun m => ?_⟩
  · have h1 := (h.2 a).mp ha
    have h2 := (h.2 c).mp hc
    rw [e a (by omega) (by omega), e c (by omega) (by omega)]
    exact hac
  · constructor
    · intro hm
      have h1 := (h.2 m).mp hm
      rw [e m (by omega) (by omega)]
      exact h1
    · intro hm
      rw [e m (by omega) (by omega)] at hm
      exact (h.2 m).mpr hm
/-- a first message leaves its row -/
theorem rwl_tail {M M' : zM} {n r x m : Int} {l : List Int} (h : rwl M n r x (m :: l)) (h0 : ord M' r x m ≤ 0) (e : ∀ j, j ≠ m → 0 ≤ j → j < n → ord M' r x j = ord M r x j) : rwl M' n r x l := by
  have hn := List.nodup_cons.mp (rwl_nodup h)
  refine ⟨(List.pairwise_cons.mp h.1).2.imp_of_mem fun {a c} ha hc hac => ?_, fun j => ?_⟩
  · have h1 := (h.2 a).mp (List.mem_cons_of_mem _ ha)
    have h2 := (h.2 c).mp (List.mem_cons_of_mem _ hc)
    rw [e a (fun q => hn.1 (by rw [← q]; exact ha)) (by omega) (by omega), e c (fun q => hn.1 (by rw [← q]; exact hc)) (by omega) (by omega)]
    exact hac
  · by_cases hj : j = m
    · subst hj
      constructor
      · intro hm; exact absurd hm hn.1
      · intro hm; omega
    · have h1 := h.2 j
      rw [List.mem_cons] at h1
      constructor
      · intro hm
        have h2 := h1.mp (Or.inr hm)
        rw [e j hj (by omega) (by omega)]
        exact h2
      · intro hm
        rw [e j hj (by omega) (by omega)] at hm
        rcases h1.mpr hm with h3 | h3
        · exact absurd h3 hj
        · exact h3
/-- a message comes behind the others -/
theorem rwl_snoc {M M' : zM} {n r x m : Int} {l : List Int} (h : rwl M n r x l) (hm : 0 ≤ m ∧ m < n) (hnm : m ∉ l) (h0 : 0 < ord M' r x m) (hb : ∀ j, j ∈ l → ord M r x j < ord M' r x m) (e : ∀ j, j ≠ m → 0 ≤ j → j < n → ord M' r x j = ord M r x j) : rwl M' n r x (l ++ [m]) := by
  refine ⟨List.pairwise_append.mpr ⟨h.1.imp_of_mem fun {a c} ha hc hac => ?_, List.pairwise_singleton _ _, fun a ha c hc => ?_⟩, fun j => ?_⟩
  · have h1 := (h.2 a).mp ha
    have h2 := (h.2 c).mp hc
    rw [e a (fun q => hnm (by rw [← q]; exact ha)) (by omega) (by omega), e c (fun q => hnm (by rw [← q]; exact hc)) (by omega) (by omega)]
    exact hac
  · have h1 := (h.2 a).mp ha
    rw [List.mem_singleton.mp hc, e a (fun q => hnm (by rw [← q]; exact ha)) (by omega) (by omega)]
    exact hb a ha
  · rw [List.mem_append, List.mem_singleton]
    by_cases hj : j = m
    · subst hj
      exact ⟨fun _ => ⟨hm, h0⟩, fun _ => Or.inr rfl⟩
    · have h1 := h.2 j
      constructor
      · intro hq
        rcases hq with hq | hq
        · have h2 := h1.mp hq
          rw [e j hj (by omega) (by omega)]
          exact h2
        · exact absurd hq hj
      · intro hq
        rw [e j hj (by omega) (by omega)] at hq
        exact Or.inl (h1.mpr hq)
theorem due_snoc {M M' : zM} {P tm m : Int} : ∀ {l : List Int} {F E : Int}, due M P tm F l E → (∀ j, j ∈ l → M' j 3 = M j 3 ∧ M' j 7 = M j 7) → M' m 3 = 3 → M' m 7 = E + P → E + P ≤ tm → due M' P tm F (l ++ [m]) (E + P)
  | [], F, E, h, _, h3, h7, ht => by
    have : E = F := h
    subst this
    exact ⟨⟨h3, h7, ht⟩, rfl⟩
  | j :: l, F, E, h, he, h3, h7, ht => by
    have hj := he j List.mem_cons_self
    refine ⟨⟨by rw [hj.1]; exact h.1.1, by rw [hj.2]; exact h.1.2.1, h.1.2.2⟩, due_snoc h.2 (fun i hi => he i (List.mem_cons_of_mem _ hi)) h3 h7 ht⟩
theorem due_congr {M M' : zM} {P tm tm' : Int} (ht : tm ≤ tm') : ∀ {l : List Int} {F E : Int}, due M P tm F l E → (∀ j, j ∈ l → M' j 3 = M j 3 ∧ M' j 7 = M j 7) → due M' P tm' F l E
  | [], _, _, h, _ => h
  | j :: l, F, E, h, he => by
    have hj := he j List.mem_cons_self
    exact ⟨⟨by rw [hj.1]; exact h.1.1, by rw [hj.2]; exact h.1.2.1, by have := h.1.2.2; omega⟩, due_congr ht h.2 (fun i hi => he i (List.mem_cons_of_mem _ hi))⟩
def uD (D : Int → List Int) (x : Int) (l : List Int) : Int → List Int := fun y => if y = x then l else D y
theorem uD_eq {D : Int → List Int} {x : Int} {l : List Int} : uD D x l x = l := if_pos rfl
theorem uD_ne {D : Int → List Int} {x y : Int} {l : List Int} (h : y ≠ x) : uD D x l y = D y := if_neg h
theorem RC_own {K L : Int → Int → List Int} {D : Int → List Int} {d : zD} {b : Nat} {s : Nat → Int} {N : Int} (h : RC K L D d b s N) {r x m : Int} (hr : 0 ≤ r ∧ r < 3) (hx : 0 ≤ x ∧ x < 8) (hm : m ∈ K r x) : (0 ≤ m ∧ m < s 2) ∧ own (rM s) r m = x := by
  obtain ⟨-, -, -, -, -, hK, -⟩ := h
  exact (hK r x hr.1 hr.2 hx.1 hx.2).2.2 m hm
theorem RJm_t {tm tm' : Int} {T M : zM} {m : Int} (h : RJm tm T M m) (ht : tm ≤ tm') : RJm tm' T M m := by
  obtain ⟨a, b, c, d, e, f⟩ := h
  exact ⟨a, fun q => ⟨(b q).1, (b q).2.1, by have := (b q).2.2; omega⟩, c, fun q => ⟨(d q).1, (d q).2.1, (d q).2.2.1, fun w => ⟨((d q).2.2.2 w).1, by have := ((d q).2.2.2 w).2; omega⟩⟩, e, by omega⟩
theorem RP_t {L : Int → Int → List Int} {n k tm tm' lim : Int} {T M : zM} (h : RP L n k tm lim T M) (ht : tm ≤ tm') : RP L n k tm' lim T M := ⟨h.1, fun m m0 mk => RJm_t (h.2.1 m m0 mk) ht, h.2.2⟩
/-- a message of which nothing has changed that is asked of it -/
theorem RJm_c {tm : Int} {T T' M M' : zM} {m : Int} (h : RJm tm T M m) (hM : ∀ w, w ≤ 10 → M' m w = M m w) (hT : T' (M m 1) 2 = T (M m 1) 2) : RJm tm T' M' m := by
  unfold RJm
  rw [hM 0 (by omega), hM 1 (by omega), hM 2 (by omega), hM 3 (by omega), hM 4 (by omega), hM 5 (by omega), hM 6 (by omega), hM 7 (by omega), hM 8 (by omega), hM 9 (by omega), hM 10 (by omega), hT]
  exact h
theorem RJm_8 {tm : Int} {T T' M M' : zM} {m : Int} (h : RJm tm T M m) (hM : ∀ w, w ≤ 10 → w ≠ 8 → M' m w = M m w) (hn : M m 3 ≠ 0) (hT : T' (M m 1) 2 = T (M m 1) 2) : RJm tm T' M' m := by
  obtain ⟨a, b, c, d, e, f⟩ := h
  unfold RJm
  rw [hM 0 (by omega) (by omega), hM 1 (by omega) (by omega), hM 2 (by omega) (by omega), hM 3 (by omega) (by omega), hM 4 (by omega) (by omega), hM 5 (by omega) (by omega), hM 6 (by omega) (by omega), hM 7 (by omega) (by omega), hM 9 (by omega) (by omega), hM 10 (by omega) (by omega), hT]
  exact ⟨fun q => absurd q hn, b, c, d, e, f⟩
theorem RJm_9 {tm : Int} {T T' M M' : zM} {m : Int} (h : RJm tm T M m) (hM : ∀ w, w ≤ 10 → w ≠ 9 → M' m w = M m w) (hn : M m 3 ≠ 1) (hT : T' (M m 1) 2 = T (M m 1) 2) : RJm tm T' M' m := by
  obtain ⟨a, b, c, d, e, f⟩ := h
  unfold RJm
  rw [hM 0 (by omega) (by omega), hM 1 (by omega) (by omega), hM 2 (by omega) (by omega), hM 3 (by omega) (by omega), hM 4 (by omega) (by omega), hM 5 (by omega) (by omega), hM 6 (by omega) (by omega), hM 7 (by omega) (by omega), hM 8 (by omega) (by omega), hM 10 (by omega) (by omega), hT]
  exact ⟨a, b, c, fun q => ⟨fun w => absurd w hn, (d q).2⟩, e, f⟩
