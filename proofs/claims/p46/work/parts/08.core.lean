/-! The pure heap: cells by their numbers, whole numbers in them; what a machine state holds of it. -/
abbrev vwCl : List vw_C := [(RX0, TX0, 3), (RX1, TX1, 4), (RX2, TX2, 16), (RX3, TX3, 9), (RX4, TX4, 4), (RX5, TX5, 7), (RX6, TX6, 5), (RX7, TX7, 7), (RX8, TX8, 9), (RX9, TX9, 7), (RX10, TX10, 3), (RX11, TX11, 13), (RJ4, TJ4, 4), (RJ0, TJ0, 4)]
/-- a whole number as an int of the machine -/
def zI (x : Int) : Int32 := Int32.ofInt x
def zR (x : Int) : Prop := -2147483648 ≤ x ∧ x ≤ 2147483647
/-- the value that an int of the machine has for it -/
def zw (x : Int) : Int := (Int32.ofInt x).toInt
theorem zI_toInt {x : Int} (h : zR x) : (zI x).toInt = x := by
  obtain ⟨h1, h2⟩ := h
  show (Int32.ofInt x).toInt = x
  exact Int32.toInt_ofInt_of_le (by omega) (by omega)
theorem zw_id {x : Int} (h1 : -2147483648 ≤ x) (h2 : x ≤ 2147483647) : zw x = x := zI_toInt ⟨h1, h2⟩
theorem zw_R (x : Int) : zR (zw x) := by
  have h1 := Int32.le_toInt (Int32.ofInt x)
  have h2 := Int32.toInt_lt (Int32.ofInt x)
  constructor
  · show -2147483648 ≤ (Int32.ofInt x).toInt; omega
  · show (Int32.ofInt x).toInt ≤ 2147483647; omega
theorem zI_of (y : Int32) : zI y.toInt = y := by
  show Int32.ofInt y.toInt = y
  exact Int32.ofInt_toInt y
theorem zI_w (x : Int) : zI (zw x) = zI x := zI_of _
theorem zR_of (y : Int32) : zR y.toInt := by
  have h1 := Int32.le_toInt y
  have h2 := Int32.toInt_lt y
  constructor <;> omega
theorem zI_add (x y : Int) : zI x + zI y = zI (zw (x + y)) := by
  rw [zI_w]
  show Int32.ofInt x + Int32.ofInt y = Int32.ofInt (x + y)
  exact (Int32.ofInt_add x y).symm
theorem zI_sub (x y : Int) : zI x - zI y = zI (zw (x - y)) := by
  rw [zI_w]
  show Int32.ofInt x - Int32.ofInt y = Int32.ofInt (x - y)
  exact (Int32.ofInt_sub x y).symm
theorem zI_mul (x y : Int) : zI x * zI y = zI (zw (x * y)) := by
  rw [zI_w]
  show Int32.ofInt x * Int32.ofInt y = Int32.ofInt (x * y)
  exact (Int32.ofInt_mul x y).symm
theorem zI_lt {x y : Int} (hx : zR x) (hy : zR y) : zI x < zI y ↔ x < y := by
  rw [Int32.lt_iff_toInt_lt, zI_toInt hx, zI_toInt hy]
theorem zI_le {x y : Int} (hx : zR x) (hy : zR y) : zI x ≤ zI y ↔ x ≤ y := by
  rw [Int32.le_iff_toInt_le, zI_toInt hx, zI_toInt hy]
theorem zI_eq {x y : Int} (hx : zR x) (hy : zR y) : zI x = zI y ↔ x = y := by
  rw [← Int32.toInt_inj, zI_toInt hx, zI_toInt hy]
/-- bits, division and the rest of it, as the machine has them -/
def zand (x y : Int) : Int := (zI x &&& zI y).toInt
def zor (x y : Int) : Int := (zI x ||| zI y).toInt
def zxor (x y : Int) : Int := (zI x ^^^ zI y).toInt
def zshl (x y : Int) : Int := (zI x <<< (zI y &&& 31)).toInt
def zshr (x y : Int) : Int := (zI x >>> (zI y &&& 31)).toInt
def zdiv (x y : Int) : Int := (zI x / zI y).toInt
def zrem (x y : Int) : Int := (zI x - zI x / zI y * zI y).toInt
def zb8 (x : Int) : Int := ((zI x).toInt8.toInt32).toInt
/-- what a run of the machine is told by: a value is had, a cell is written, an index is in its row -/
abbrev zD : Type := Nat → Nat → Int
def zu (d : zD) (a k : Nat) (v : Int) : zD := fun b j => if b = a ∧ j = k then v else d b j
def zl {α β : Type} (x : α) (K : α → Option β) : Option β := K x
def zg {β : Type} (n : Nat) (i : Int) (x : Option β) : Option β := if 0 ≤ i ∧ i < (n : Int) then x else none
def zn {β : Type} (y : Int) (x : Option β) : Option β := if y = 0 then none else x
def zc {β : Type} (x : Option (Int × zD)) (K : Int → zD → Option β) : Option β := match x with
  | some (r, d) => K r d
  | none => none
def zfix {σ β : Type} : Nat → ((σ → zD → Option β) → σ → zD → Option β) → σ → zD → Option β
  | 0, _, _, _ => none
  | n + 1, F, s, d => F (zfix n F) s d
theorem zl_h {α β : Type} {x : α} {K : α → Option β} {r : β} (h : zl x K = some r) : K x = some r := h
theorem zg_h {β : Type} {n : Nat} {i : Int} {x : Option β} {r : β} (h : zg n i x = some r) : (0 ≤ i ∧ i < (n : Int)) ∧ x = some r := by
  unfold zg at h
  split at h
  · exact ⟨by assumption, h⟩
  · cases h
theorem zn_h {β : Type} {y : Int} {x : Option β} {r : β} (h : zn y x = some r) : y ≠ 0 ∧ x = some r := by
  unfold zn at h
  split at h
  · cases h
  · exact ⟨by assumption, h⟩
theorem zc_h {β : Type} {x : Option (Int × zD)} {K : Int → zD → Option β} {r : β} (h : zc x K = some r) : ∃ v d, x = some (v, d) ∧ K v d = some r := by
  unfold zc at h
  split at h
  · exact ⟨_, _, rfl, h⟩
  · cases h
theorem zif_h {α : Type} {c : Prop} {_ : Decidable c} {A B : Option α} {r : α} {P : Prop} (h : (if c then A else B) = some r) (kt : A = some r → P) (kf : B = some r → P) : P := by
  by_cases hc : c
  · rw [if_pos hc] at h; exact kt h
  · rw [if_neg hc] at h; exact kf h
/-- a cell: its kind (0 an object, 1 ints, 2 bytes, 3 lines, 4 longs), class or length, what each place of it is (0 an int, 1 null, t + 2 the cell t) -/
abbrev zS : Type := Nat × Nat × (Nat → Nat)
/-- class and slot numbers; the cells' places; their shapes; the arrays' classes; where the heap of the start ended; the texts' places -/
abbrev zW : Type := va_G × (Nat → Nat) × (Nat → Option zS) × (Nat → ClassId) × Nat × (Nat → Nat) × (Nat → Nat) × (Nat → Nat) × (Nat × Nat × (Nat → Int) × Option (Nat × Nat × Nat × (Nat → Int)))
abbrev zDD (W : zW) : va_G := W.1
abbrev zad (W : zW) : Nat → Nat := W.2.1
abbrev zsh (W : zW) : Nat → Option zS := W.2.2.1
abbrev zct (W : zW) : Nat → ClassId := W.2.2.2.1
abbrev zsz (W : zW) : Nat := W.2.2.2.2.1
/-- a text's place, its bytes' place; a static row's place -/
abbrev zsa (W : zW) : Nat → Nat := W.2.2.2.2.2.1
abbrev zsv (W : zW) : Nat → Nat := W.2.2.2.2.2.2.1
abbrev zst (W : zW) : Nat → Nat := W.2.2.2.2.2.2.2.1
/-- the script: its place, its length, its numbers -/
abbrev zqa (W : zW) : Nat := W.2.2.2.2.2.2.2.2.1
abbrev zqn (W : zW) : Nat := W.2.2.2.2.2.2.2.2.2.1
abbrev zqf (W : zW) : Nat → Int := W.2.2.2.2.2.2.2.2.2.2.1
/-- a text that was drawn: its place, its bytes' place, its length, its letters -/
abbrev zdr (W : zW) : Option (Nat × Nat × Nat × (Nat → Int)) := W.2.2.2.2.2.2.2.2.2.2.2
def zA (W : zW) : Nat → Prop := fun q => zsz W ≤ q ∧ ∀ r, zdr W = some r → q ≠ r.1 ∧ q ≠ r.2.1
def zfv (W : zW) (x : Nat) (v : Int) : Value := match x with
  | 0 => .int (zI v)
  | 1 => .null
  | t + 2 => .ref (zad W t)
def znf (ci : Nat) : Nat := match vwCl[ci]? with
  | some q => q.2.2
  | none => 0
def zE (W : zW) (x : zS) (da : Nat → Int) : va_E := match x.1 with
  | 0 => .inr (x.2.1, (List.range (znf x.2.1)).map fun j => zfv W (x.2.2 j) (da j))
  | 1 => .inl (zct W 0, x.2.1, .inl fun j => zI (da j))
  | 2 => .inl (zct W 1, x.2.1, .inl fun j => zI (da j))
  | 3 => .inl (zct W 2, x.2.1, .inr (.inr (.inr (.inr fun j => match x.2.2 j with
    | t + 2 => some (zad W t)
    | _ => none))))
  | _ => .inl (zct W 3, x.2.1, .inr (.inl fun j => (zI (da j)).toInt64))
def zty (W : zW) : List (ClassId × FieldType) := [(zct W 0, .int), (zct W 1, .byte), (zct W 2, .object RX2)]
def zRep (W : zW) (d : zD) (H : Heap) : Prop :=
  (∀ a x, zsh W a = some x → va_at (zDD W) vwCl (zad W a, zE W x (d a)) H ∧ zA W (zad W a)) ∧
  (∀ a b, (zsh W a).isSome = true → (zsh W b).isSome = true → zad W a = zad W b → a = b) ∧ ∀ a k, zR (d a k)
theorem zRep.one {W : zW} {d : zD} {H : Heap} (h : zRep W d H) {a : Nat} {x : zS} (hx : zsh W a = some x) : va_P (zDD W) vwCl [(zad W a, zE W x (d a))] H := by
  intro k q hq
  match k with
  | 0 => cases hq; exact (h.1 a x hx).1
  | k + 1 => simp at hq
theorem zRep.kept {W : zW} {d : zD} {H H1 : Heap} (h : zRep W d H) (hq : ∀ q : Nat, q < H.size → zA W q → H1[q]? = H[q]?) : zRep W d H1 :=
  ⟨fun a x hx => ⟨(h.1 a x hx).1.kept (hq _ (h.1 a x hx).1.lt (h.1 a x hx).2), (h.1 a x hx).2⟩, h.2⟩
theorem zu_eq {d : zD} {a k : Nat} {v : Int} : zu d a k v a k = v := by simp [zu]
theorem zu_ne {d : zD} {a k b j : Nat} {v : Int} (h : b ≠ a ∨ j ≠ k) : zu d a k v b j = d b j := by
  simp only [zu]
  rw [if_neg]
  rintro ⟨rfl, rfl⟩
  rcases h with h | h <;> exact h rfl
theorem zu_row {d : zD} {a k b : Nat} {v : Int} (h : b ≠ a) : zu d a k v b = d b := by
  funext j
  exact zu_ne (Or.inl h)
theorem zRep.set {W : zW} {d : zD} {H H1 : Heap} (h : zRep W d H) {a k : Nat} {x : zS} {v : Int} (hx : zsh W a = some x) (hv : zR v) (he : va_at (zDD W) vwCl (zad W a, zE W x (zu d a k v a)) H1) (oq : ∀ q : Nat, q ≠ zad W a → H1[q]? = H[q]?) : zRep W (zu d a k v) H1 := by
  refine ⟨fun b y hy => ⟨?_, (h.1 b y hy).2⟩, h.2.1, fun b j => ?_⟩
  · by_cases hb : b = a
    · subst hb
      cases hx.symm.trans hy
      exact he
    · rw [zu_row hb]
      exact (h.1 b y hy).1.kept (oq _ fun e => hb (h.2.1 b a (by rw [hy]; rfl) (by rw [hx]; rfl) e))
  · simp only [zu]
    split
    · exact hv
    · exact h.2.2 b j
