/-! Equations of the reference's small methods. -/
def us (s : Nat → Int) (i : Nat) (v : Int) : Nat → Int := fun j => if j = i then v else s j
theorem zu_r {d : zD} {a i : Nat} {v : Int} : zu d a i v a = us (d a) i v := by
  funext j
  unfold zu us
  by_cases h : j = i
  · rw [if_pos ⟨rfl, h⟩, if_pos h]
  · rw [if_neg (fun q => h q.2), if_neg h]
theorem us_eq {s : Nat → Int} {i : Nat} {v : Int} : us s i v i = v := if_pos rfl
theorem us_ne {s : Nat → Int} {i j : Nat} {v : Int} (h : j ≠ i) : us s i v j = s j := if_neg h
theorem zg_t {β : Type} {n : Nat} {i : Int} {x : Option β} (h : 0 ≤ i ∧ i < (n : Int)) : zg n i x = x := if_pos h
theorem zn_t {β : Type} {y : Int} {x : Option β} (h : y ≠ 0) : zn y x = x := if_neg h
theorem zz_t {β : Type} {y : Int} {x : Option β} (h : y = 0 ∨ y = 1) : zz y x = x := if_pos h
theorem zcg_t {β : Type} {n0 n1 : Nat} {sp dp n : Int} {x : Option β} (h : 0 ≤ sp ∧ 0 ≤ dp ∧ 0 ≤ n ∧ sp + n ≤ (n0 : Int) ∧ dp + n ≤ (n1 : Int)) : zcg n0 n1 sp dp n x = x := if_pos h
theorem zc_t {β : Type} {v : Int} {d : zD} {K : Int → zD → Option β} : zc (some (v, d)) K = K v d := rfl
theorem zl_n {α β : Type} {x : α} {K : α → Option β} : zl x K = K x := id rfl
theorem zc_n {β : Type} {v : Int} {d : zD} {K : Int → zD → Option β} : zc (some (v, d)) K = K v d := id rfl
theorem zu_q {d : zD} {a k : Nat} {v : Int} : zu d a k v a k = v := zu_eq
def rT (s : Nat → Int) (x w : Int) : Int := if (0 ≤ x ∧ x < 8) ∧ 0 ≤ w ∧ w < 16 then s (50 + 16 * x + w).toNat else 0
def rM (s : Nat → Int) (m w : Int) : Int := if (0 ≤ m ∧ m < 40) ∧ 0 ≤ w ∧ w < 12 then s (200 + 12 * m + w).toNat else 0
def uT (s : Nat → Int) (x w v : Int) : Nat → Int := us s (50 + 16 * x + w).toNat v
def uM (s : Nat → Int) (m w v : Int) : Nat → Int := us s (200 + 12 * m + w).toNat v
def tD (d : zD) (x w v : Int) : zD := zu d 401 (50 + 16 * x + w).toNat v
def mD (d : zD) (m w v : Int) : zD := zu d 401 (200 + 12 * m + w).toNat v
theorem tD_s {d : zD} {x w v : Int} : tD d x w v 401 = uT (d 401) x w v := zu_r
theorem mD_s {d : zD} {x w v : Int} : mD d x w v 401 = uM (d 401) x w v := zu_r
theorem e_many {d : zD} : f_X12_many d = some (d 401 0, d) := rfl
theorem e_isIn {x0 x1 x2 : Int} {d : zD} : f_X12_isIn x0 x1 x2 d = some (if x1 ≤ x0 ∧ x0 ≤ x2 then 1 else 0, d) := by
  unfold f_X12_isIn
  by_cases h1 : x0 < x1
  · rw [if_pos h1, if_neg (by omega)]
  · rw [if_neg h1]
    by_cases h2 : x2 < x0
    · rw [if_pos h2, if_neg (by omega)]
    · rw [if_neg h2, if_pos (by omega)]
theorem e_isTerminal {x : Int} {d : zD} (h : 0 ≤ d 401 0 ∧ d 401 0 ≤ 8) : f_X12_isTerminal x d = some (if 0 ≤ x ∧ x < d 401 0 then 1 else 0, d) := by
  simp (disch := omega) only [f_X12_isTerminal, e_many, zc_t, zl, zw_id, e_isIn]
  congr 2
  by_cases h1 : 0 ≤ x ∧ x < d 401 0
  · rw [if_pos h1, if_pos (by omega)]
  · rw [if_neg h1, if_neg (by omega)]
theorem e_of {x w : Int} {d : zD} (h : 0 ≤ x ∧ x < 8) (hw : 0 ≤ w ∧ w < 16) : f_X12_of x w d = some (rT (d 401) x w, d) := by
  simp (disch := omega) only [f_X12_of, zl, zw_id, zg_t, rT, if_pos (show (0 ≤ x ∧ x < 8) ∧ 0 ≤ w ∧ w < 16 from ⟨h, hw⟩)]
theorem e_puts {x w v : Int} {d : zD} (h : 0 ≤ x ∧ x < 8) (hw : 0 ≤ w ∧ w < 16) : f_X12_puts x w v d = some (0, tD d x w v) := by
  simp (disch := omega) only [f_X12_puts, zl, zw_id, zg_t, tD]
theorem e_turnsBit {x w : Int} {d : zD} (h : 0 ≤ x ∧ x < 8) (hw : 0 ≤ w ∧ w < 16) (hb : rT (d 401) x w = 0 ∨ rT (d 401) x w = 1) : f_X12_turnsBit x w d = some (0, tD d x w (1 - rT (d 401) x w)) := by
  simp (disch := omega) only [f_X12_turnsBit, e_of h hw, zc_t, zl, zw_id, e_puts h hw]
theorem e_grows {x w : Int} {d : zD} (h : 0 ≤ x ∧ x < 8) (hw : 0 ≤ w ∧ w < 16) : f_X12_grows x w d = some (0, tD d x w (zw (rT (d 401) x w + 1))) := by
  simp only [f_X12_grows, e_of h hw, zc_t, zl, e_puts h hw]
theorem e_message0 {x w : Int} {d : zD} (h : 0 ≤ x ∧ x < 40) (hw : 0 ≤ w ∧ w < 12) : f_X12_message0 x w d = some (rM (d 401) x w, d) := by
  simp (disch := omega) only [f_X12_message0, zl, zw_id, zg_t, rM, if_pos (show (0 ≤ x ∧ x < 40) ∧ 0 ≤ w ∧ w < 12 from ⟨h, hw⟩)]
theorem e_tells {x w v : Int} {d : zD} (h : 0 ≤ x ∧ x < 40) (hw : 0 ≤ w ∧ w < 12) : f_X12_tells x w v d = some (0, mD d x w v) := by
  simp (disch := omega) only [f_X12_tells, zl, zw_id, zg_t, mD]
def aD (d : zD) (k : Int) : zD := zu d 401 (12 + k).toNat (zw (d 401 (12 + k).toNat + 1))
theorem e_counts {k : Int} {d : zD} (h : 0 ≤ k ∧ k < 13) : f_X12_counts k d = some (0, aD d k) := by
  simp (disch := omega) only [f_X12_counts, zl, zw_id, zg_t, aD]
theorem e_nextNumber {d : zD} : f_X12_nextNumber d = some (zw (d 401 46 + 1), zu d 401 46 (zw (d 401 46 + 1))) := by
  simp (disch := omega) only [f_X12_nextNumber, zl, zg_t, Int.reduceToNat, zu_eq]
def ord (M : Int → Int → Int) (r x m : Int) : Int := if r = 0 then (if M m 0 = x then (if M m 8 = 1 then m + 1 else 0) else 0) else if M m 1 = x then M m (if r = 1 then 9 else 10) else 0
theorem e_orderIn {m x r : Int} {d : zD} (h : 0 ≤ m ∧ m < 40) : f_X12_orderIn m x r d = some (ord (rM (d 401)) r x m, d) := by
  simp (disch := omega) only [f_X12_orderIn, j_X12_orderIn_59, e_message0, zc_t, zl, zw_id, ord]
  by_cases h0 : r = 0
  · rw [if_pos h0, if_pos h0]
    by_cases h1 : rM (d 401) m 0 = x
    · rw [if_pos h1, if_pos h1]
      by_cases h2 : rM (d 401) m 8 = 1
      · rw [if_pos h2, if_pos h2]
      · rw [if_neg h2, if_neg h2]
    · rw [if_neg h1, if_neg h1]
  · rw [if_neg h0, if_neg h0]
    by_cases h1 : rM (d 401) m 1 = x
    · rw [if_pos h1, if_pos h1]
      by_cases h2 : r = 1
      · rw [if_pos h2, if_pos h2]
      · rw [if_neg h2, if_neg h2]
    · rw [if_neg h1, if_neg h1]
/-! Counting. -/
def cnt (p : Int → Bool) : Int → Nat → Int
  | _, 0 => 0
  | m, k + 1 => (if p m = true then 1 else 0) + cnt p (m + 1) k
def irg : Int → Nat → List Int
  | _, 0 => []
  | m, k + 1 => m :: irg (m + 1) k
theorem irg_mem {m j : Int} {k : Nat} : j ∈ irg m k ↔ m ≤ j ∧ j < m + k := by
  induction k generalizing m with
  | zero => simp [irg]
  | succ k ih =>
    simp only [irg, List.mem_cons, ih]
    omega
theorem irg_nodup {m : Int} {k : Nat} : (irg m k).Nodup := by
  induction k generalizing m with
  | zero => exact List.nodup_nil
  | succ k ih =>
    refine List.nodup_cons.mpr ⟨fun h => ?_, ih⟩
    have := irg_mem.mp h
    omega
theorem cnt_len {p : Int → Bool} {m : Int} {k : Nat} : cnt p m k = (((irg m k).filter p).length : Int) := by
  induction k generalizing m with
  | zero => rfl
  | succ k ih =>
    simp only [cnt, irg, ih]
    by_cases h : p m = true
    · rw [if_pos h, List.filter_cons_of_pos h]
      simp
      omega
    · rw [if_neg h, List.filter_cons_of_neg h]
      simp
theorem cnt_of {p : Int → Bool} {m : Int} {k : Nat} {l : List Int} (hn : l.Nodup) (hm : ∀ j, j ∈ l ↔ (m ≤ j ∧ j < m + k) ∧ p j = true) : cnt p m k = l.length := by
  rw [cnt_len]
  have h1 : ((irg m k).filter p).Nodup := List.Nodup.sublist List.filter_sublist irg_nodup
  have h2 := (List.perm_ext_iff_of_nodup h1 hn).mpr fun j => by
    rw [List.mem_filter, irg_mem, hm j]
  rw [h2.length_eq]
theorem cnt_R {p : Int → Bool} {m : Int} {k : Nat} : 0 ≤ cnt p m k ∧ cnt p m k ≤ k := by
  induction k generalizing m with
  | zero => exact ⟨Int.le_refl _, Int.le_refl _⟩
  | succ k ih =>
    have := ih (m := m + 1)
    unfold cnt
    split <;> omega
theorem cnt_congr {p q : Int → Bool} {m : Int} {k : Nat} (h : ∀ j, m ≤ j → j < m + k → p j = q j) : cnt p m k = cnt q m k := by
  induction k generalizing m with
  | zero => rfl
  | succ k ih =>
    unfold cnt
    rw [h m (by omega) (by omega), ih fun j h1 h2 => h j (by omega) (by omega)]
def fnd (p : Int → Bool) : Int → Nat → Int
  | _, 0 => -1
  | m, k + 1 => if p m = true then m else fnd p (m + 1) k
theorem fnd_none {p : Int → Bool} {m : Int} {k : Nat} (h : ∀ j, m ≤ j → j < m + k → p j = false) : fnd p m k = -1 := by
  induction k generalizing m with
  | zero => rfl
  | succ k ih =>
    unfold fnd
    rw [if_neg (by rw [h m (by omega) (by omega)]; decide)]
    exact ih fun j h1 h2 => h j (by omega) (by omega)
theorem fnd_one {p : Int → Bool} {a : Int} : ∀ {k : Nat} {m : Int}, m ≤ a → a < m + k → p a = true → (∀ j, m ≤ j → j < m + k → p j = true → j = a) → fnd p m k = a := by
  intro k
  induction k with
  | zero => intro m h1 h2; omega
  | succ k ih =>
    intro m h1 h2 h3 h4
    unfold fnd
    by_cases hp : p m = true
    · rw [if_pos hp]
      exact h4 m (by omega) (by omega) hp
    · rw [if_neg hp]
      have : m ≠ a := fun e => hp (by rw [e]; exact h3)
      exact ih (by omega) (by omega) h3 fun j g1 g2 => h4 j (by omega) (by omega)
/-! The reference's loops over the messages. -/
theorem r_inRowMany {d : zD} {x r : Int} (h40 : d 401 2 ≤ 40) : ∀ (k q : Nat) (n m : Int), k < q → 0 ≤ m → m + k = d 401 2 → 0 ≤ n → n ≤ m → l_X12_inRowMany_5 q x r n m d = some (n + cnt (fun j => decide (0 < ord (rM (d 401)) r x j)) m k, d) := by
  intro k
  induction k with
  | zero =>
    intro q n m hq h0 hm hn hnm
    obtain ⟨q, rfl⟩ : ∃ q', q = q' + 1 := ⟨q - 1, by omega⟩
    simp (disch := omega) only [l_X12_inRowMany_5, l_X12_inRowMany_5F, zl, zg_t, Int.reduceToNat]
    rw [if_pos (by omega)]
    simp [cnt]
  | succ k ih =>
    intro q n m hq h0 hm hn hnm
    obtain ⟨q, rfl⟩ : ∃ q', q = q' + 1 := ⟨q - 1, by omega⟩
    simp (disch := omega) only [l_X12_inRowMany_5, l_X12_inRowMany_5F, zl, zg_t, Int.reduceToNat, e_orderIn, zc_t, zw_id, cnt]
    rw [if_neg (by omega)]
    by_cases hp : ord (rM (d 401)) r x m ≤ 0
    · rw [if_pos hp, ih q n (m + 1) (by omega) (by omega) (by omega) (by omega) (by omega), if_neg (by simp; omega), Int.zero_add]
    · rw [if_neg hp, ih q (n + 1) (m + 1) (by omega) (by omega) (by omega) (by omega) (by omega), if_pos (by simp; omega), Int.add_assoc]
theorem r_aheadOf {d : zD} {a x r : Int} (h40 : d 401 2 ≤ 40) (ha : 0 ≤ a ∧ a < 40) : ∀ (k q : Nat) (n m : Int), k < q → 0 ≤ m → m + k = d 401 2 → 0 ≤ n → n ≤ m → l_X12_aheadOf_6 q a x r n m d = some (n + cnt (fun j => decide (0 < ord (rM (d 401)) r x j) && decide (ord (rM (d 401)) r x j < ord (rM (d 401)) r x a)) m k, d) := by
  intro k
  induction k with
  | zero =>
    intro q n m hq h0 hm hn hnm
    obtain ⟨q, rfl⟩ : ∃ q', q = q' + 1 := ⟨q - 1, by omega⟩
    simp (disch := omega) only [l_X12_aheadOf_6, l_X12_aheadOf_6F, zl, zg_t, Int.reduceToNat]
    rw [if_pos (by omega)]
    simp [cnt]
  | succ k ih =>
    intro q n m hq h0 hm hn hnm
    obtain ⟨q, rfl⟩ : ∃ q', q = q' + 1 := ⟨q - 1, by omega⟩
    simp (disch := omega) only [l_X12_aheadOf_6, l_X12_aheadOf_6F, zl, zg_t, Int.reduceToNat, e_orderIn, zc_t, zw_id, cnt]
    rw [if_neg (by omega)]
    by_cases hp : ord (rM (d 401)) r x m ≤ 0
    · rw [if_pos hp, ih q n (m + 1) (by omega) (by omega) (by omega) (by omega) (by omega), if_neg (by simp; omega), Int.zero_add]
    · rw [if_neg hp]
      by_cases hp2 : ord (rM (d 401)) r x a ≤ ord (rM (d 401)) r x m
      · rw [if_pos hp2, ih q n (m + 1) (by omega) (by omega) (by omega) (by omega) (by omega), if_neg (by simp; omega), Int.zero_add]
      · rw [if_neg hp2, ih q (n + 1) (m + 1) (by omega) (by omega) (by omega) (by omega) (by omega), if_pos (by simp; omega), Int.add_assoc]
def ahd (M : Int → Int → Int) (n r x a : Int) : Int := cnt (fun j => decide (0 < ord M r x j) && decide (ord M r x j < ord M r x a)) 0 n.toNat
theorem zF_big : 10000 < zF := by decide
theorem e_inRowMany {d : zD} {x r : Int} (h : 0 ≤ d 401 2 ∧ d 401 2 ≤ 40) : f_X12_inRowMany x r d = some (cnt (fun j => decide (0 < ord (rM (d 401)) r x j)) 0 (d 401 2).toNat, d) := by
  unfold f_X12_inRowMany
  rw [r_inRowMany h.2 (d 401 2).toNat zF 0 0 (by have := zF_big; omega) (by omega) (by omega) (by omega) (by omega), Int.zero_add]
theorem e_aheadOf {d : zD} {a x r : Int} (h : 0 ≤ d 401 2 ∧ d 401 2 ≤ 40) (ha : 0 ≤ a ∧ a < 40) : f_X12_aheadOf a x r d = some (ahd (rM (d 401)) (d 401 2) r x a, d) := by
  unfold f_X12_aheadOf
  rw [r_aheadOf h.2 ha (d 401 2).toNat zF 0 0 (by have := zF_big; omega) (by omega) (by omega) (by omega) (by omega), Int.zero_add]
  rfl
theorem r_rowAt {d : zD} {x r i : Int} (h2 : 0 ≤ d 401 2 ∧ d 401 2 ≤ 40) : ∀ (k q : Nat) (m : Int), k < q → 0 ≤ m → m + k = d 401 2 → l_X12_rowAt_3 q x r i m d = some (fnd (fun j => decide (0 < ord (rM (d 401)) r x j) && decide (ahd (rM (d 401)) (d 401 2) r x j = i)) m k, d) := by
  intro k
  induction k with
  | zero =>
    intro q m hq h0 hm
    obtain ⟨q, rfl⟩ : ∃ q', q = q' + 1 := ⟨q - 1, by omega⟩
    simp (disch := omega) only [l_X12_rowAt_3, l_X12_rowAt_3F, zl, zg_t, Int.reduceToNat]
    rw [if_pos (by omega)]
    rfl
  | succ k ih =>
    intro q m hq h0 hm
    obtain ⟨q, rfl⟩ : ∃ q', q = q' + 1 := ⟨q - 1, by omega⟩
    simp (disch := omega) only [l_X12_rowAt_3, l_X12_rowAt_3F, zl, zg_t, Int.reduceToNat, e_orderIn, e_aheadOf, zc_t, zw_id, fnd]
    rw [if_neg (by omega)]
    by_cases hp : ord (rM (d 401)) r x m ≤ 0
    · rw [if_pos hp, ih q (m + 1) (by omega) (by omega) (by omega), if_neg (by simp; omega)]
    · rw [if_neg hp]
      by_cases hp2 : ahd (rM (d 401)) (d 401 2) r x m = i
      · rw [if_pos hp2, if_pos (by simp; omega)]
      · rw [if_neg hp2, ih q (m + 1) (by omega) (by omega) (by omega), if_neg (by simp; omega)]
theorem e_rowAt {d : zD} {x r i : Int} (h : 0 ≤ d 401 2 ∧ d 401 2 ≤ 40) : f_X12_rowAt x r i d = some (fnd (fun j => decide (0 < ord (rM (d 401)) r x j) && decide (ahd (rM (d 401)) (d 401 2) r x j = i)) 0 (d 401 2).toNat, d) := by
  unfold f_X12_rowAt
  rw [r_rowAt h (d 401 2).toNat zF 0 (by have := zF_big; omega) (by omega) (by omega)]
/-! A row of messages as the reference has it. -/
def rwl (M : Int → Int → Int) (n : Int) (r x : Int) (l : List Int) : Prop := l.Pairwise (fun a b => ord M r x a < ord M r x b) ∧ ∀ m, m ∈ l ↔ (0 ≤ m ∧ m < n) ∧ 0 < ord M r x m
theorem rwl_nodup {M : Int → Int → Int} {n : Int} {r x : Int} {l : List Int} (h : rwl M n r x l) : l.Nodup := by
  refine h.1.imp fun {a b} hab e => ?_
  rw [e] at hab
  omega
theorem rwl_many {M : Int → Int → Int} {n : Int} {r x : Int} {l : List Int} (h : rwl M n r x l) (h2 : 0 ≤ n) : cnt (fun j => decide (0 < ord M r x j)) 0 n.toNat = l.length := by
  refine cnt_of (rwl_nodup h) fun j => ?_
  rw [h.2 j]
  simp
  omega
theorem rwl_ahd {M : Int → Int → Int} {n : Int} {r x : Int} {l1 l2 : List Int} {a : Int} (h : rwl M n r x (l1 ++ a :: l2)) (h2 : 0 ≤ n) : ahd M n r x a = l1.length := by
  have hp := List.pairwise_append.mp h.1
  have hp2 := List.pairwise_cons.mp hp.2.1
  have hn := List.pairwise_append.mp (rwl_nodup h)
  refine cnt_of hn.1 fun j => ?_
  have hj := h.2 j
  have ha : 0 < ord M r x a := ((h.2 a).mp (by simp)).2
  constructor
  · intro hm
    have h3 := hj.mp (List.mem_append_left _ hm)
    have h4 := hp.2.2 j hm a (by simp)
    simp
    omega
  · intro ⟨hm, hb⟩
    simp at hb
    have h3 : j ∈ l1 ++ a :: l2 := hj.mpr ⟨by omega, hb.1⟩
    rcases List.mem_append.mp h3 with h4 | h4
    · exact h4
    · exfalso
      rcases List.mem_cons.mp h4 with h5 | h5
      · rw [h5] at hb; omega
      · have := hp2.1 j h5; omega
theorem rwl_at {M : Int → Int → Int} {n : Int} {r x i : Int} {l1 l2 : List Int} {a : Int} (h : rwl M n r x (l1 ++ a :: l2)) (h2 : 0 ≤ n) (hi : i = l1.length) : fnd (fun j => decide (0 < ord M r x j) && decide (ahd M n r x j = i)) 0 n.toNat = a := by
  have ha := (h.2 a).mp (by simp)
  refine fnd_one (by omega) (by omega) ?_ fun j h3 h4 h5 => ?_
  · simp
    exact ⟨ha.2, by rw [rwl_ahd h h2, hi]⟩
  · simp at h5
    have h6 : j ∈ l1 ++ a :: l2 := (h.2 j).mpr ⟨by omega, h5.1⟩
    obtain ⟨m1, m2, e⟩ := List.append_of_mem h6
    have h7 := h
    rw [e] at h7
    have h8 := rwl_ahd h7 h2
    rw [h5.2, hi] at h8
    have h9 : l1.length = m1.length := by omega
    have := List.append_inj e h9
    have e2 := this.2
    cases e2
    rfl
theorem rwl_off {M : Int → Int → Int} {n : Int} {r x i : Int} {l : List Int} (h : rwl M n r x l) (h2 : 0 ≤ n) (hi : i < 0 ∨ (l.length : Int) ≤ i) : fnd (fun j => decide (0 < ord M r x j) && decide (ahd M n r x j = i)) 0 n.toNat = -1 := by
  refine fnd_none fun j h3 h4 => ?_
  by_cases hp : 0 < ord M r x j
  · have h6 : j ∈ l := (h.2 j).mpr ⟨by omega, hp⟩
    obtain ⟨m1, m2, e⟩ := List.append_of_mem h6
    have h7 := h
    rw [e] at h7
    have h8 := rwl_ahd h7 h2
    have h9 : l.length = m1.length + (m2.length + 1) := by rw [e]; simp
    simp
    intro _
    omega
  · simp
    intro q
    exact absurd q hp
def hd1 : List Int → Int
  | [] => -1
  | m :: _ => m
theorem rwl_hd {M : Int → Int → Int} {n : Int} {r x : Int} {l : List Int} (h : rwl M n r x l) (h2 : 0 ≤ n) : fnd (fun j => decide (0 < ord M r x j) && decide (ahd M n r x j = 0)) 0 n.toNat = hd1 l := by
  cases l with
  | nil => exact rwl_off h h2 (Or.inr (by simp))
  | cons a l => exact rwl_at (l1 := []) h h2 rfl
