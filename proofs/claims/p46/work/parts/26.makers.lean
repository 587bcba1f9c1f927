/-! Makers of the system's objects. -/
def zF0 : Nat → Nat := fun k => match k with
  | 0 => 1
  | _ => 0
def zY0 : Nat → FieldType := fun k => match k with
  | 0 => (.array (.object "PolledLine$Line"))
  | 1 => .int
  | 2 => .int
  | _ => .int
theorem zY0_p : ∀ k, k < 3 → parseFieldDescriptor (TX0 k).2.2.1 = some (zY0 k) := by decide +kernel
theorem zF0_d : ∀ {V : zW} (j : Nat), j < 3 → defaultValue (zY0 j) = zfv V (zF0 j) 0 := fun j hj => by
  match j, hj with
  | 0, _ => rfl
  | 1, _ => rfl
  | 2, _ => rfl
  | j + 3, h => exact absurd h (by omega)
theorem zF0_r : ∀ j t, zF0 j = t + 2 → False := fun j t h => by
  unfold zF0 at h
  split at h <;> omega
def zF1 : Nat → Nat := fun k => match k with
  | 0 => 1
  | _ => 0
def zY1 : Nat → FieldType := fun k => match k with
  | 0 => (.object "PolledLine$Line")
  | 1 => .int
  | 2 => .int
  | 3 => .int
  | _ => .int
theorem zY1_p : ∀ k, k < 4 → parseFieldDescriptor (TX1 k).2.2.1 = some (zY1 k) := by decide +kernel
theorem zF1_d : ∀ {V : zW} (j : Nat), j < 4 → defaultValue (zY1 j) = zfv V (zF1 j) 0 := fun j hj => by
  match j, hj with
  | 0, _ => rfl
  | 1, _ => rfl
  | 2, _ => rfl
  | 3, _ => rfl
  | j + 4, h => exact absurd h (by omega)
theorem zF1_r : ∀ j t, zF1 j = t + 2 → False := fun j t h => by
  unfold zF1 at h
  split at h <;> omega
def zF2 : Nat → Nat := fun k => match k with
  | 0 => 1
  | 1 => 1
  | 2 => 1
  | 3 => 1
  | 4 => 1
  | 5 => 1
  | 6 => 1
  | 7 => 1
  | _ => 0
def zY2 : Nat → FieldType := fun k => match k with
  | 0 => (.object "PolledLine$Setup")
  | 1 => (.object "PolledLine$Messages")
  | 2 => (.object "PolledLine$Rows")
  | 3 => (.object "PolledLine$Stations")
  | 4 => (.object "PolledLine$TurnLog")
  | 5 => (.array .int)
  | 6 => (.array .int)
  | 7 => (.array .int)
  | 8 => .int
  | 9 => .int
  | 10 => .int
  | 11 => .int
  | 12 => .int
  | 13 => .int
  | 14 => .int
  | 15 => .int
  | _ => .int
theorem zY2_p : ∀ k, k < 16 → parseFieldDescriptor (TX2 k).2.2.1 = some (zY2 k) := by decide +kernel
theorem zF2_d : ∀ {V : zW} (j : Nat), j < 16 → defaultValue (zY2 j) = zfv V (zF2 j) 0 := fun j hj => by
  match j, hj with
  | 0, _ => rfl
  | 1, _ => rfl
  | 2, _ => rfl
  | 3, _ => rfl
  | 4, _ => rfl
  | 5, _ => rfl
  | 6, _ => rfl
  | 7, _ => rfl
  | 8, _ => rfl
  | 9, _ => rfl
  | 10, _ => rfl
  | 11, _ => rfl
  | 12, _ => rfl
  | 13, _ => rfl
  | 14, _ => rfl
  | 15, _ => rfl
  | j + 16, h => exact absurd h (by omega)
theorem zF2_r : ∀ j t, zF2 j = t + 2 → False := fun j t h => by
  unfold zF2 at h
  split at h <;> omega
def zF3 : Nat → Nat := fun k => match k with
  | 1 => 1
  | 2 => 1
  | 3 => 1
  | 4 => 1
  | 5 => 1
  | 6 => 1
  | 7 => 1
  | 8 => 1
  | _ => 0
def zY3 : Nat → FieldType := fun k => match k with
  | 0 => .int
  | 1 => (.array .int)
  | 2 => (.array .int)
  | 3 => (.array .int)
  | 4 => (.array .int)
  | 5 => (.array .int)
  | 6 => (.array .int)
  | 7 => (.array .int)
  | 8 => (.array .int)
  | _ => .int
theorem zY3_p : ∀ k, k < 9 → parseFieldDescriptor (TX3 k).2.2.1 = some (zY3 k) := by decide +kernel
theorem zF3_d : ∀ {V : zW} (j : Nat), j < 9 → defaultValue (zY3 j) = zfv V (zF3 j) 0 := fun j hj => by
  match j, hj with
  | 0, _ => rfl
  | 1, _ => rfl
  | 2, _ => rfl
  | 3, _ => rfl
  | 4, _ => rfl
  | 5, _ => rfl
  | 6, _ => rfl
  | 7, _ => rfl
  | 8, _ => rfl
  | j + 9, h => exact absurd h (by omega)
theorem zF3_r : ∀ j t, zF3 j = t + 2 → False := fun j t h => by
  unfold zF3 at h
  split at h <;> omega
def zF4 : Nat → Nat := fun k => match k with
  | 0 => 1
  | 1 => 1
  | 2 => 1
  | 3 => 1
  | _ => 0
def zY4 : Nat → FieldType := fun k => match k with
  | 0 => (.array .int)
  | 1 => (.array .int)
  | 2 => (.array .int)
  | 3 => (.array .int)
  | _ => .int
theorem zY4_p : ∀ k, k < 4 → parseFieldDescriptor (TX4 k).2.2.1 = some (zY4 k) := by decide +kernel
theorem zF4_d : ∀ {V : zW} (j : Nat), j < 4 → defaultValue (zY4 j) = zfv V (zF4 j) 0 := fun j hj => by
  match j, hj with
  | 0, _ => rfl
  | 1, _ => rfl
  | 2, _ => rfl
  | 3, _ => rfl
  | j + 4, h => exact absurd h (by omega)
theorem zF4_r : ∀ j t, zF4 j = t + 2 → False := fun j t h => by
  unfold zF4 at h
  split at h <;> omega
def zF5 : Nat → Nat := fun k => match k with
  | 0 => 1
  | 1 => 1
  | 2 => 1
  | 3 => 1
  | 4 => 1
  | 5 => 1
  | _ => 0
def zY5 : Nat → FieldType := fun k => match k with
  | 0 => (.object "PolledLine$Tokens")
  | 1 => (.object "PolledLine$Setup")
  | 2 => (.array .int)
  | 3 => (.array .int)
  | 4 => (.array .int)
  | 5 => (.array .int)
  | 6 => .int
  | _ => .int
theorem zY5_p : ∀ k, k < 7 → parseFieldDescriptor (TX5 k).2.2.1 = some (zY5 k) := by decide +kernel
theorem zF5_d : ∀ {V : zW} (j : Nat), j < 7 → defaultValue (zY5 j) = zfv V (zF5 j) 0 := fun j hj => by
  match j, hj with
  | 0, _ => rfl
  | 1, _ => rfl
  | 2, _ => rfl
  | 3, _ => rfl
  | 4, _ => rfl
  | 5, _ => rfl
  | 6, _ => rfl
  | j + 7, h => exact absurd h (by omega)
theorem zF5_r : ∀ j t, zF5 j = t + 2 → False := fun j t h => by
  unfold zF5 at h
  split at h <;> omega
def zF6 : Nat → Nat := fun k => match k with
  | 1 => 1
  | 2 => 1
  | 3 => 1
  | 4 => 1
  | _ => 0
def zY6 : Nat → FieldType := fun k => match k with
  | 0 => .int
  | 1 => (.array .int)
  | 2 => (.array .int)
  | 3 => (.array .int)
  | 4 => (.array .int)
  | _ => .int
theorem zY6_p : ∀ k, k < 5 → parseFieldDescriptor (TX6 k).2.2.1 = some (zY6 k) := by decide +kernel
theorem zF6_d : ∀ {V : zW} (j : Nat), j < 5 → defaultValue (zY6 j) = zfv V (zF6 j) 0 := fun j hj => by
  match j, hj with
  | 0, _ => rfl
  | 1, _ => rfl
  | 2, _ => rfl
  | 3, _ => rfl
  | 4, _ => rfl
  | j + 5, h => exact absurd h (by omega)
theorem zF6_r : ∀ j t, zF6 j = t + 2 → False := fun j t h => by
  unfold zF6 at h
  split at h <;> omega
def zF7 : Nat → Nat := fun k => match k with
  | 0 => 1
  | 1 => 1
  | 2 => 1
  | 3 => 1
  | _ => 0
def zY7 : Nat → FieldType := fun k => match k with
  | 0 => (.object "PolledLine$Tokens")
  | 1 => (.object "PolledLine$Setup")
  | 2 => (.array .int)
  | 3 => (.array .int)
  | 4 => .int
  | 5 => .int
  | 6 => .int
  | _ => .int
theorem zY7_p : ∀ k, k < 7 → parseFieldDescriptor (TX7 k).2.2.1 = some (zY7 k) := by decide +kernel
theorem zF7_d : ∀ {V : zW} (j : Nat), j < 7 → defaultValue (zY7 j) = zfv V (zF7 j) 0 := fun j hj => by
  match j, hj with
  | 0, _ => rfl
  | 1, _ => rfl
  | 2, _ => rfl
  | 3, _ => rfl
  | 4, _ => rfl
  | 5, _ => rfl
  | 6, _ => rfl
  | j + 7, h => exact absurd h (by omega)
theorem zF7_r : ∀ j t, zF7 j = t + 2 → False := fun j t h => by
  unfold zF7 at h
  split at h <;> omega
def zF8 : Nat → Nat := fun k => match k with
  | 0 => 1
  | 1 => 1
  | 2 => 1
  | 3 => 1
  | 4 => 1
  | 5 => 1
  | 6 => 1
  | 7 => 1
  | 8 => 1
  | _ => 0
def zY8 : Nat → FieldType := fun k => match k with
  | 0 => (.array .int)
  | 1 => (.array .int)
  | 2 => (.array .int)
  | 3 => (.array .int)
  | 4 => (.array .int)
  | 5 => (.array .int)
  | 6 => (.array .int)
  | 7 => (.array .int)
  | 8 => (.array .int)
  | _ => .int
theorem zY8_p : ∀ k, k < 9 → parseFieldDescriptor (TX8 k).2.2.1 = some (zY8 k) := by decide +kernel
theorem zF8_d : ∀ {V : zW} (j : Nat), j < 9 → defaultValue (zY8 j) = zfv V (zF8 j) 0 := fun j hj => by
  match j, hj with
  | 0, _ => rfl
  | 1, _ => rfl
  | 2, _ => rfl
  | 3, _ => rfl
  | 4, _ => rfl
  | 5, _ => rfl
  | 6, _ => rfl
  | 7, _ => rfl
  | 8, _ => rfl
  | j + 9, h => exact absurd h (by omega)
theorem zF8_r : ∀ j t, zF8 j = t + 2 → False := fun j t h => by
  unfold zF8 at h
  split at h <;> omega
def zF9 : Nat → Nat := fun k => match k with
  | 0 => 1
  | _ => 0
def zY9 : Nat → FieldType := fun k => match k with
  | 0 => (.array .int)
  | 1 => .int
  | 2 => .int
  | 3 => .int
  | 4 => .int
  | 5 => .int
  | 6 => .int
  | _ => .int
theorem zY9_p : ∀ k, k < 7 → parseFieldDescriptor (TX9 k).2.2.1 = some (zY9 k) := by decide +kernel
theorem zF9_d : ∀ {V : zW} (j : Nat), j < 7 → defaultValue (zY9 j) = zfv V (zF9 j) 0 := fun j hj => by
  match j, hj with
  | 0, _ => rfl
  | 1, _ => rfl
  | 2, _ => rfl
  | 3, _ => rfl
  | 4, _ => rfl
  | 5, _ => rfl
  | 6, _ => rfl
  | j + 7, h => exact absurd h (by omega)
theorem zF9_r : ∀ j t, zF9 j = t + 2 → False := fun j t h => by
  unfold zF9 at h
  split at h <;> omega
def zF10 : Nat → Nat := fun k => match k with
  | 2 => 1
  | _ => 0
def zY10 : Nat → FieldType := fun k => match k with
  | 0 => .int
  | 1 => .int
  | 2 => (.array .int)
  | _ => .int
theorem zY10_p : ∀ k, k < 3 → parseFieldDescriptor (TX10 k).2.2.1 = some (zY10 k) := by decide +kernel
theorem zF10_d : ∀ {V : zW} (j : Nat), j < 3 → defaultValue (zY10 j) = zfv V (zF10 j) 0 := fun j hj => by
  match j, hj with
  | 0, _ => rfl
  | 1, _ => rfl
  | 2, _ => rfl
  | j + 3, h => exact absurd h (by omega)
theorem zF10_r : ∀ j t, zF10 j = t + 2 → False := fun j t h => by
  unfold zF10 at h
  split at h <;> omega
def zF11 : Nat → Nat := fun k => match k with
  | 0 => 1
  | 1 => 1
  | 2 => 1
  | 3 => 1
  | 4 => 1
  | 5 => 1
  | 6 => 1
  | 7 => 1
  | 8 => 1
  | 9 => 1
  | 10 => 1
  | _ => 0
def zY11 : Nat → FieldType := fun k => match k with
  | 0 => (.object "PolledLine$Setup")
  | 1 => (.object "PolledLine$Line")
  | 2 => (.object "PolledLine$Host")
  | 3 => (.object "PolledLine$Line")
  | 4 => (.object "PolledLine$Host")
  | 5 => (.object "PolledLine$Line")
  | 6 => (.object "PolledLine$History")
  | 7 => (.object "PolledLine$Tokens")
  | 8 => (.object "PolledLine$SetupReader")
  | 9 => (.object "PolledLine$Script")
  | 10 => (.array .int)
  | 11 => .int
  | 12 => .boolean
  | _ => .int
theorem zY11_p : ∀ k, k < 13 → parseFieldDescriptor (TX11 k).2.2.1 = some (zY11 k) := by decide +kernel
theorem zF11_d : ∀ {V : zW} (j : Nat), j < 13 → defaultValue (zY11 j) = zfv V (zF11 j) 0 := fun j hj => by
  match j, hj with
  | 0, _ => rfl
  | 1, _ => rfl
  | 2, _ => rfl
  | 3, _ => rfl
  | 4, _ => rfl
  | 5, _ => rfl
  | 6, _ => rfl
  | 7, _ => rfl
  | 8, _ => rfl
  | 9, _ => rfl
  | 10, _ => rfl
  | 11, _ => rfl
  | 12, _ => rfl
  | j + 13, h => exact absurd h (by omega)
theorem zF11_r : ∀ j t, zF11 j = t + 2 → False := fun j t h => by
  unfold zF11 at h
  split at h <;> omega
theorem oi0 : Cond.methodLink RX0 3 Lib.objectInit ∈ zT ∧ Cond.instanceMethod Lib.objectInit ∈ zT ∧ Cond.code Lib.objectInit ⟨#[0xb1]⟩ 1 none ∈ zT := ⟨(zin 346 (by decide +kernel) (by decide +kernel)), (zin 59 (by decide +kernel) (by decide +kernel)), (zin 60 (by decide +kernel) (by decide +kernel))⟩
theorem oi1 : Cond.methodLink RX1 3 Lib.objectInit ∈ zT ∧ Cond.instanceMethod Lib.objectInit ∈ zT ∧ Cond.code Lib.objectInit ⟨#[0xb1]⟩ 1 none ∈ zT := ⟨(zin 325 (by decide +kernel) (by decide +kernel)), (zin 59 (by decide +kernel) (by decide +kernel)), (zin 60 (by decide +kernel) (by decide +kernel))⟩
theorem oi2 : Cond.methodLink RX2 3 Lib.objectInit ∈ zT ∧ Cond.instanceMethod Lib.objectInit ∈ zT ∧ Cond.code Lib.objectInit ⟨#[0xb1]⟩ 1 none ∈ zT := ⟨(zin 102 (by decide +kernel) (by decide +kernel)), (zin 59 (by decide +kernel) (by decide +kernel)), (zin 60 (by decide +kernel) (by decide +kernel))⟩
theorem oi3 : Cond.methodLink RX3 3 Lib.objectInit ∈ zT ∧ Cond.instanceMethod Lib.objectInit ∈ zT ∧ Cond.code Lib.objectInit ⟨#[0xb1]⟩ 1 none ∈ zT := ⟨(zin 108 (by decide +kernel) (by decide +kernel)), (zin 59 (by decide +kernel) (by decide +kernel)), (zin 60 (by decide +kernel) (by decide +kernel))⟩
theorem oi4 : Cond.methodLink RX4 3 Lib.objectInit ∈ zT ∧ Cond.instanceMethod Lib.objectInit ∈ zT ∧ Cond.code Lib.objectInit ⟨#[0xb1]⟩ 1 none ∈ zT := ⟨(zin 161 (by decide +kernel) (by decide +kernel)), (zin 59 (by decide +kernel) (by decide +kernel)), (zin 60 (by decide +kernel) (by decide +kernel))⟩
theorem oi5 : Cond.methodLink RX5 3 Lib.objectInit ∈ zT ∧ Cond.instanceMethod Lib.objectInit ∈ zT ∧ Cond.code Lib.objectInit ⟨#[0xb1]⟩ 1 none ∈ zT := ⟨(zin 430 (by decide +kernel) (by decide +kernel)), (zin 59 (by decide +kernel) (by decide +kernel)), (zin 60 (by decide +kernel) (by decide +kernel))⟩
theorem oi6 : Cond.methodLink RX6 3 Lib.objectInit ∈ zT ∧ Cond.instanceMethod Lib.objectInit ∈ zT ∧ Cond.code Lib.objectInit ⟨#[0xb1]⟩ 1 none ∈ zT := ⟨(zin 66 (by decide +kernel) (by decide +kernel)), (zin 59 (by decide +kernel) (by decide +kernel)), (zin 60 (by decide +kernel) (by decide +kernel))⟩
theorem oi7 : Cond.methodLink RX7 3 Lib.objectInit ∈ zT ∧ Cond.instanceMethod Lib.objectInit ∈ zT ∧ Cond.code Lib.objectInit ⟨#[0xb1]⟩ 1 none ∈ zT := ⟨(zin 395 (by decide +kernel) (by decide +kernel)), (zin 59 (by decide +kernel) (by decide +kernel)), (zin 60 (by decide +kernel) (by decide +kernel))⟩
theorem oi8 : Cond.methodLink RX8 3 Lib.objectInit ∈ zT ∧ Cond.instanceMethod Lib.objectInit ∈ zT ∧ Cond.code Lib.objectInit ⟨#[0xb1]⟩ 1 none ∈ zT := ⟨(zin 180 (by decide +kernel) (by decide +kernel)), (zin 59 (by decide +kernel) (by decide +kernel)), (zin 60 (by decide +kernel) (by decide +kernel))⟩
theorem oi9 : Cond.methodLink RX9 3 Lib.objectInit ∈ zT ∧ Cond.instanceMethod Lib.objectInit ∈ zT ∧ Cond.code Lib.objectInit ⟨#[0xb1]⟩ 1 none ∈ zT := ⟨(zin 366 (by decide +kernel) (by decide +kernel)), (zin 59 (by decide +kernel) (by decide +kernel)), (zin 60 (by decide +kernel) (by decide +kernel))⟩
theorem oi10 : Cond.methodLink RX10 3 Lib.objectInit ∈ zT ∧ Cond.instanceMethod Lib.objectInit ∈ zT ∧ Cond.code Lib.objectInit ⟨#[0xb1]⟩ 1 none ∈ zT := ⟨(zin 233 (by decide +kernel) (by decide +kernel)), (zin 59 (by decide +kernel) (by decide +kernel)), (zin 60 (by decide +kernel) (by decide +kernel))⟩
theorem oi11 : Cond.methodLink RX11 1 Lib.objectInit ∈ zT ∧ Cond.instanceMethod Lib.objectInit ∈ zT ∧ Cond.code Lib.objectInit ⟨#[0xb1]⟩ 1 none ∈ zT := ⟨(zin 58 (by decide +kernel) (by decide +kernel)), (zin 59 (by decide +kernel) (by decide +kernel)), (zin 60 (by decide +kernel) (by decide +kernel))⟩
def zq3 (V : zW) (b : Nat) : Prop := zsh V (b + 1) = some (0, 3, (kX3 b)) ∧ zsh V (b + 2) = some (1, 40, zk0) ∧ zsh V (b + 3) = some (1, 40, zk0) ∧ zsh V (b + 4) = some (1, 40, zk0) ∧ zsh V (b + 5) = some (1, 40, zk0) ∧ zsh V (b + 6) = some (1, 40, zk0) ∧ zsh V (b + 7) = some (1, 40, zk0) ∧ zsh V (b + 8) = some (1, 40, zk0) ∧ zsh V (b + 9) = some (1, 40, zk0)
def zq4 (V : zW) (b : Nat) : Prop := zsh V (b + 10) = some (0, 4, (kX4 b)) ∧ zsh V (b + 11) = some (1, 24, zk0) ∧ zsh V (b + 12) = some (1, 24, zk0) ∧ zsh V (b + 13) = some (1, 24, zk0) ∧ zsh V (b + 14) = some (1, 120, zk0)
def zq8 (V : zW) (b : Nat) : Prop := zsh V (b + 15) = some (0, 8, (kX8 b)) ∧ zsh V (b + 16) = some (1, 8, zk0) ∧ zsh V (b + 17) = some (1, 8, zk0) ∧ zsh V (b + 18) = some (1, 8, zk0) ∧ zsh V (b + 19) = some (1, 8, zk0) ∧ zsh V (b + 20) = some (1, 8, zk0) ∧ zsh V (b + 21) = some (1, 8, zk0) ∧ zsh V (b + 22) = some (1, 8, zk0) ∧ zsh V (b + 23) = some (1, 8, zk0) ∧ zsh V (b + 24) = some (1, 32, zk0)
def zq10 (V : zW) (b : Nat) : Prop := zsh V (b + 25) = some (0, 10, (kX10 b)) ∧ zsh V (b + 26) = some (1, 100, zk0)
theorem zq3.go {V V1 : zW} {S : Nat → Prop} {b : Nat} (E : zEy V V1 S) (h : zq3 V b) (hS : ∀ c, b + 1 ≤ c → c < b + 1 + 9 → ¬ S c) : zq3 V1 b := by
  have e : ∀ c, b + 1 ≤ c → c < b + 1 + 9 → zsh V1 c = zsh V c := fun c h1 h2 => E.2.2.1 c (hS c h1 h2)
  exact ⟨(e _ (by omega) (by omega)).trans h.1, (e _ (by omega) (by omega)).trans h.2.1, (e _ (by omega) (by omega)).trans h.2.2.1, (e _ (by omega) (by omega)).trans h.2.2.2.1, (e _ (by omega) (by omega)).trans h.2.2.2.2.1, (e _ (by omega) (by omega)).trans h.2.2.2.2.2.1, (e _ (by omega) (by omega)).trans h.2.2.2.2.2.2.1, (e _ (by omega) (by omega)).trans h.2.2.2.2.2.2.2.1, (e _ (by omega) (by omega)).trans h.2.2.2.2.2.2.2.2⟩
theorem zq4.go {V V1 : zW} {S : Nat → Prop} {b : Nat} (E : zEy V V1 S) (h : zq4 V b) (hS : ∀ c, b + 10 ≤ c → c < b + 10 + 5 → ¬ S c) : zq4 V1 b := by
  have e : ∀ c, b + 10 ≤ c → c < b + 10 + 5 → zsh V1 c = zsh V c := fun c h1 h2 => E.2.2.1 c (hS c h1 h2)
  exact ⟨(e _ (by omega) (by omega)).trans h.1, (e _ (by omega) (by omega)).trans h.2.1, (e _ (by omega) (by omega)).trans h.2.2.1, (e _ (by omega) (by omega)).trans h.2.2.2.1, (e _ (by omega) (by omega)).trans h.2.2.2.2⟩
theorem zq8.go {V V1 : zW} {S : Nat → Prop} {b : Nat} (E : zEy V V1 S) (h : zq8 V b) (hS : ∀ c, b + 15 ≤ c → c < b + 15 + 10 → ¬ S c) : zq8 V1 b := by
  have e : ∀ c, b + 15 ≤ c → c < b + 15 + 10 → zsh V1 c = zsh V c := fun c h1 h2 => E.2.2.1 c (hS c h1 h2)
  exact ⟨(e _ (by omega) (by omega)).trans h.1, (e _ (by omega) (by omega)).trans h.2.1, (e _ (by omega) (by omega)).trans h.2.2.1, (e _ (by omega) (by omega)).trans h.2.2.2.1, (e _ (by omega) (by omega)).trans h.2.2.2.2.1, (e _ (by omega) (by omega)).trans h.2.2.2.2.2.1, (e _ (by omega) (by omega)).trans h.2.2.2.2.2.2.1, (e _ (by omega) (by omega)).trans h.2.2.2.2.2.2.2.1, (e _ (by omega) (by omega)).trans h.2.2.2.2.2.2.2.2.1, (e _ (by omega) (by omega)).trans h.2.2.2.2.2.2.2.2.2⟩
theorem zq10.go {V V1 : zW} {S : Nat → Prop} {b : Nat} (E : zEy V V1 S) (h : zq10 V b) (hS : ∀ c, b + 25 ≤ c → c < b + 25 + 2 → ¬ S c) : zq10 V1 b := by
  have e : ∀ c, b + 25 ≤ c → c < b + 25 + 2 → zsh V1 c = zsh V c := fun c h1 h2 => E.2.2.1 c (hS c h1 h2)
  exact ⟨(e _ (by omega) (by omega)).trans h.1, (e _ (by omega) (by omega)).trans h.2⟩
theorem zo6.go {V V1 : zW} {S : Nat → Prop} {s : Nat} (E : zEy V V1 S) (h : zo6 V s) (hS : ∀ c, s ≤ c → c < s + 5 → ¬ S c) : zo6 V1 s := by
  have e : ∀ c, s ≤ c → c < s + 5 → zsh V1 c = zsh V c := fun c h1 h2 => E.2.2.1 c (hS c h1 h2)
  exact ⟨(e _ (by omega) (by omega)).trans h.1, (e _ (by omega) (by omega)).trans h.2.1, (e _ (by omega) (by omega)).trans h.2.2.1, (e _ (by omega) (by omega)).trans h.2.2.2.1, (e _ (by omega) (by omega)).trans h.2.2.2.2⟩
theorem zo9.go {V V1 : zW} {S : Nat → Prop}  (E : zEy V V1 S) (h : zo9 V) (hS : ∀ c, 10 ≤ c → c < 10 + 2 → ¬ S c) : zo9 V1 := by
  have e : ∀ c, 10 ≤ c → c < 10 + 2 → zsh V1 c = zsh V c := fun c h1 h2 => E.2.2.1 c (hS c h1 h2)
  exact ⟨(e _ (by omega) (by omega)).trans h.1, (e _ (by omega) (by omega)).trans h.2⟩
theorem zo2.go {V V1 : zW} {S : Nat → Prop} {b : Nat} (E : zEy V V1 S) (h : zo2 V b) (hS : ∀ c, b ≤ c → c < b + 30 → ¬ S c) (hS1 : ∀ c, 1 ≤ c → c < 1 + 5 → ¬ S c) : zo2 V1 b := by
  have e : ∀ c, b ≤ c → c < b + 30 → zsh V1 c = zsh V c := fun c h1 h2 => E.2.2.1 c (hS c h1 h2)
  exact ⟨(e _ (by omega) (by omega)).trans h.1, (e _ (by omega) (by omega)).trans h.2.1, (e _ (by omega) (by omega)).trans h.2.2.1, (e _ (by omega) (by omega)).trans h.2.2.2.1, (e _ (by omega) (by omega)).trans h.2.2.2.2.1, (e _ (by omega) (by omega)).trans h.2.2.2.2.2.1, (e _ (by omega) (by omega)).trans h.2.2.2.2.2.2.1, (e _ (by omega) (by omega)).trans h.2.2.2.2.2.2.2.1, (e _ (by omega) (by omega)).trans h.2.2.2.2.2.2.2.2.1, (e _ (by omega) (by omega)).trans h.2.2.2.2.2.2.2.2.2.1, (e _ (by omega) (by omega)).trans h.2.2.2.2.2.2.2.2.2.2.1, (e _ (by omega) (by omega)).trans h.2.2.2.2.2.2.2.2.2.2.2.1, (e _ (by omega) (by omega)).trans h.2.2.2.2.2.2.2.2.2.2.2.2.1, (e _ (by omega) (by omega)).trans h.2.2.2.2.2.2.2.2.2.2.2.2.2.1, (e _ (by omega) (by omega)).trans h.2.2.2.2.2.2.2.2.2.2.2.2.2.2.1, (e _ (by omega) (by omega)).trans h.2.2.2.2.2.2.2.2.2.2.2.2.2.2.2.1, (e _ (by omega) (by omega)).trans h.2.2.2.2.2.2.2.2.2.2.2.2.2.2.2.2.1, (e _ (by omega) (by omega)).trans h.2.2.2.2.2.2.2.2.2.2.2.2.2.2.2.2.2.1, (e _ (by omega) (by omega)).trans h.2.2.2.2.2.2.2.2.2.2.2.2.2.2.2.2.2.2.1, (e _ (by omega) (by omega)).trans h.2.2.2.2.2.2.2.2.2.2.2.2.2.2.2.2.2.2.2.1, (e _ (by omega) (by omega)).trans h.2.2.2.2.2.2.2.2.2.2.2.2.2.2.2.2.2.2.2.2.1, (e _ (by omega) (by omega)).trans h.2.2.2.2.2.2.2.2.2.2.2.2.2.2.2.2.2.2.2.2.2.1, (e _ (by omega) (by omega)).trans h.2.2.2.2.2.2.2.2.2.2.2.2.2.2.2.2.2.2.2.2.2.2.1, (e _ (by omega) (by omega)).trans h.2.2.2.2.2.2.2.2.2.2.2.2.2.2.2.2.2.2.2.2.2.2.2.1, (e _ (by omega) (by omega)).trans h.2.2.2.2.2.2.2.2.2.2.2.2.2.2.2.2.2.2.2.2.2.2.2.2.1, (e _ (by omega) (by omega)).trans h.2.2.2.2.2.2.2.2.2.2.2.2.2.2.2.2.2.2.2.2.2.2.2.2.2.1, (e _ (by omega) (by omega)).trans h.2.2.2.2.2.2.2.2.2.2.2.2.2.2.2.2.2.2.2.2.2.2.2.2.2.2.1, (e _ (by omega) (by omega)).trans h.2.2.2.2.2.2.2.2.2.2.2.2.2.2.2.2.2.2.2.2.2.2.2.2.2.2.2.1, (e _ (by omega) (by omega)).trans h.2.2.2.2.2.2.2.2.2.2.2.2.2.2.2.2.2.2.2.2.2.2.2.2.2.2.2.2.1, (e _ (by omega) (by omega)).trans h.2.2.2.2.2.2.2.2.2.2.2.2.2.2.2.2.2.2.2.2.2.2.2.2.2.2.2.2.2.1, zo6.go E h.2.2.2.2.2.2.2.2.2.2.2.2.2.2.2.2.2.2.2.2.2.2.2.2.2.2.2.2.2.2 hS1⟩
theorem zo1.go {V V1 : zW} {S : Nat → Prop} {g lb : Nat} (E : zEy V V1 S) (h : zo1 V g lb) (hg : ¬ S g) (hS : ∀ c, lb ≤ c → c < lb + 30 → ¬ S c) (hS1 : ∀ c, 1 ≤ c → c < 1 + 5 → ¬ S c) : zo1 V1 g lb := ⟨(E.2.2.1 _ hg).trans h.1, h.2.go E hS hS1⟩
theorem zo0.go {V V1 : zW} {S : Nat → Prop} (E : zEy V V1 S) (h : zo0 V) (h8 : ¬ S 8) (h9 : ¬ S 9) (hS : ∀ c, 120 ≤ c → c < 360 → ¬ S c) (hS1 : ∀ c, 1 ≤ c → c < 1 + 5 → ¬ S c) : zo0 V1 := ⟨(E.2.2.1 _ h8).trans h.1, (E.2.2.1 _ h9).trans h.2.1, fun i hi => (h.2.2 i hi).go E (fun c h1 h2 => hS c (by omega) (by omega)) hS1⟩
theorem zo7.go {V V1 : zW} {S : Nat → Prop} (E : zEy V V1 S) (h : zo7 V) (hS : ∀ c, 10 ≤ c → c < 20 → ¬ S c) : zo7 V1 := ⟨(E.2.2.1 _ (hS _ (by omega) (by omega))).trans h.1, (E.2.2.1 _ (hS _ (by omega) (by omega))).trans h.2.1, (E.2.2.1 _ (hS _ (by omega) (by omega))).trans h.2.2.1, h.2.2.2.1.go E fun c h1 h2 => hS c (by omega) (by omega), h.2.2.2.2.go E fun c h1 h2 => hS c (by omega) (by omega)⟩
theorem zo5.go {V V1 : zW} {S : Nat → Prop} (E : zEy V V1 S) (h : zo5 V) (hS0 : ∀ c, 10 ≤ c → c < 12 → ¬ S c) (hS1 : ∀ c, 1 ≤ c → c < 1 + 5 → ¬ S c) (hS2 : ∀ c, 20 ≤ c → c < 25 → ¬ S c) : zo5 V1 := ⟨(E.2.2.1 _ (hS2 _ (by omega) (by omega))).trans h.1, (E.2.2.1 _ (hS2 _ (by omega) (by omega))).trans h.2.1, (E.2.2.1 _ (hS2 _ (by omega) (by omega))).trans h.2.2.1, (E.2.2.1 _ (hS2 _ (by omega) (by omega))).trans h.2.2.2.1, (E.2.2.1 _ (hS2 _ (by omega) (by omega))).trans h.2.2.2.2.1, h.2.2.2.2.2.1.go E hS0, h.2.2.2.2.2.2.go E hS1⟩
theorem fr6_15 : zFR RX6 15 6 1 := ⟨RX6, TX6, 5, cf6, by decide, q72, rfl, _, rfl, fun _ => ⟨rfl, rfl⟩⟩
theorem fr6_19 : zFR RX6 19 6 2 := ⟨RX6, TX6, 5, cf6, by decide, q73, rfl, _, rfl, fun _ => ⟨rfl, rfl⟩⟩
theorem fr6_22 : zFR RX6 22 6 3 := ⟨RX6, TX6, 5, cf6, by decide, q77, rfl, _, rfl, fun _ => ⟨rfl, rfl⟩⟩
theorem fr6_25 : zFR RX6 25 6 4 := ⟨RX6, TX6, 5, cf6, by decide, q81, rfl, _, rfl, fun _ => ⟨rfl, rfl⟩⟩
theorem t_X6_init {V : zW} {s : Nat} {q0 : Nat} {d : zD} (wf : zWf V) (aO : zAt V s q0 (0, 6, zF6)) (hu : ∀ c, s + 1 ≤ c → c < s + 5 → zsh V c = none) (hd : ∀ c j, s ≤ c → c < s + 5 → d c j = 0) : zMetN V 1 4 32 yX6_init cX6_init 1 [.ref q0] d (fun V => zo6 V s) (fun c => s ≤ c ∧ c < s + 5) d := by
  refine zMetN_by RX6 pn6 rfl rfl (Nat.le_of_ble_eq_true rfl) [some (.ref q0)] rfl fun X C EN => ?_
  have HN := EN.x
  have E : zEy V V (fun c => s ≤ c ∧ c < s + 5) := zEy.rf
  refine zP_aload_n (pc := 0) (C := C) (x := q0) dX6_init_0 rfl rfl ?_
  refine zP_oinit (pc := 1) C oi6 dX6_init_1 ⟨Nat.le_of_ble_eq_true rfl, Nat.le_of_ble_eq_true rfl⟩ ?_
  refine zP_aload_n (pc := 4) (C := C) (x := q0) dX6_init_4 rfl rfl ?_
  refine zP_iconst (pc := 5) C dX6_init_5 ?_
  refine zP_putqz (pc := 6) C p6_9 dX6_init_6 aO rfl (zRk rfl) (hd _ _ (by omega) (by omega)) ?_
  refine zP_aload_n (pc := 9) (C := C) (x := q0) dX6_init_9 rfl rfl ?_
  refine zP_bipush (pc := 10) C dX6_init_10 rfl ?_
  refine zP_row (pc := 12) (t := s + 1) (N := 8) (z := 8) C HN fr6_15 dX6_init_12 dX6_init_14 aO wf (hu _ (by omega) (by omega)) (fun j => hd _ j (by omega) (by omega)) (zRk rfl) (by omega) rfl (Nat.le_of_ble_eq_true rfl) ⟨Nat.le_of_ble_eq_true rfl, Nat.le_of_ble_eq_true rfl⟩ fun V e wf aO s1 => ?_
  have C := e.ok C
  have E := E.tr e (fun c h => h) (fun c h => by omega)
  have hu := zUn.go (l1 := s + 2) (h1 := s + 5) e hu (by omega) (by omega) (fun c h1 h2 => by omega)
  refine zP_aload_n (pc := 17) (C := C) (x := q0) dX6_init_17 rfl rfl ?_
  refine zP_bipush (pc := 18) C dX6_init_18 rfl ?_
  refine zP_row (pc := 20) (t := s + 2) (N := 8) (z := 8) C HN fr6_19 dX6_init_20 dX6_init_22 aO wf (hu _ (by omega) (by omega)) (fun j => hd _ j (by omega) (by omega)) (zRk rfl) (by omega) rfl (Nat.le_of_ble_eq_true rfl) ⟨Nat.le_of_ble_eq_true rfl, Nat.le_of_ble_eq_true rfl⟩ fun V e wf aO s2 => ?_
  have C := e.ok C
  have E := E.tr e (fun c h => h) (fun c h => by omega)
  have hu := zUn.go (l1 := s + 3) (h1 := s + 5) e hu (by omega) (by omega) (fun c h1 h2 => by omega)
  have s1 := (e.2.2.1 _ (by omega)).trans s1
  refine zP_aload_n (pc := 25) (C := C) (x := q0) dX6_init_25 rfl rfl ?_
  refine zP_bipush (pc := 26) C dX6_init_26 rfl ?_
  refine zP_row (pc := 28) (t := s + 3) (N := 8) (z := 8) C HN fr6_22 dX6_init_28 dX6_init_30 aO wf (hu _ (by omega) (by omega)) (fun j => hd _ j (by omega) (by omega)) (zRk rfl) (by omega) rfl (Nat.le_of_ble_eq_true rfl) ⟨Nat.le_of_ble_eq_true rfl, Nat.le_of_ble_eq_true rfl⟩ fun V e wf aO s3 => ?_
  have C := e.ok C
  have E := E.tr e (fun c h => h) (fun c h => by omega)
  have hu := zUn.go (l1 := s + 4) (h1 := s + 5) e hu (by omega) (by omega) (fun c h1 h2 => by omega)
  have s1 := (e.2.2.1 _ (by omega)).trans s1
  have s2 := (e.2.2.1 _ (by omega)).trans s2
  refine zP_aload_n (pc := 33) (C := C) (x := q0) dX6_init_33 rfl rfl ?_
  refine zP_bipush (pc := 34) C dX6_init_34 rfl ?_
  refine zP_row (pc := 36) (t := s + 4) (N := 8) (z := 8) C HN fr6_25 dX6_init_36 dX6_init_38 aO wf (hu _ (by omega) (by omega)) (fun j => hd _ j (by omega) (by omega)) (zRk rfl) (by omega) rfl (Nat.le_of_ble_eq_true rfl) ⟨Nat.le_of_ble_eq_true rfl, Nat.le_of_ble_eq_true rfl⟩ fun V e wf aO s4 => ?_
  have C := e.ok C
  have E := E.tr e (fun c h => h) (fun c h => by omega)
  have hu := zUn.go (l1 := s + 5) (h1 := s + 5) e hu (by omega) (by omega) (fun c h1 h2 => by omega)
  have s1 := (e.2.2.1 _ (by omega)).trans s1
  have s2 := (e.2.2.1 _ (by omega)).trans s2
  have s3 := (e.2.2.1 _ (by omega)).trans s3
  have hk : (zfu (zfu (zfu (zfu zF6 1 (s + 1 + 2)) 2 (s + 2 + 2)) 3 (s + 3 + 2)) 4 (s + 4 + 2)) = kX6 s := by
    funext j
    match j with
    | 0 => rfl
    | 1 => rfl
    | 2 => rfl
    | 3 => rfl
    | 4 => rfl
    | j + 5 => simp [zfu, kX6, zF6]
  rw [hk] at aO
  exact zP_vretN (pc := 41) C EN E wf ⟨aO.1, s1, s2, s3, s4⟩ rfl dX6_init_41
theorem fr3_15 : zFR RX3 15 3 1 := ⟨RX3, TX3, 9, cf3, by decide, q112, rfl, _, rfl, fun _ => ⟨rfl, rfl⟩⟩
theorem fr3_19 : zFR RX3 19 3 2 := ⟨RX3, TX3, 9, cf3, by decide, q115, rfl, _, rfl, fun _ => ⟨rfl, rfl⟩⟩
theorem fr3_22 : zFR RX3 22 3 3 := ⟨RX3, TX3, 9, cf3, by decide, q118, rfl, _, rfl, fun _ => ⟨rfl, rfl⟩⟩
theorem fr3_25 : zFR RX3 25 3 4 := ⟨RX3, TX3, 9, cf3, by decide, q122, rfl, _, rfl, fun _ => ⟨rfl, rfl⟩⟩
theorem fr3_28 : zFR RX3 28 3 5 := ⟨RX3, TX3, 9, cf3, by decide, q125, rfl, _, rfl, fun _ => ⟨rfl, rfl⟩⟩
theorem fr3_31 : zFR RX3 31 3 6 := ⟨RX3, TX3, 9, cf3, by decide, q128, rfl, _, rfl, fun _ => ⟨rfl, rfl⟩⟩
theorem fr3_34 : zFR RX3 34 3 7 := ⟨RX3, TX3, 9, cf3, by decide, q131, rfl, _, rfl, fun _ => ⟨rfl, rfl⟩⟩
theorem fr3_37 : zFR RX3 37 3 8 := ⟨RX3, TX3, 9, cf3, by decide, q134, rfl, _, rfl, fun _ => ⟨rfl, rfl⟩⟩
theorem t_X3_init {V : zW} {b : Nat} {q0 : Nat} {d : zD} (wf : zWf V) (aO : zAt V (b + 1) q0 (0, 3, zF3)) (hu : ∀ c, b + 2 ≤ c → c < b + 1 + 9 → zsh V c = none) (hd : ∀ c j, b + 1 ≤ c → c < b + 1 + 9 → d c j = 0) : zMetN V 1 8 320 yX3_init cX3_init 1 [.ref q0] d (fun V => zq3 V b) (fun c => b + 1 ≤ c ∧ c < b + 1 + 9) d := by
  refine zMetN_by RX3 pn3 rfl rfl (Nat.le_of_ble_eq_true rfl) [some (.ref q0)] rfl fun X C EN => ?_
  have HN := EN.x
  have E : zEy V V (fun c => b + 1 ≤ c ∧ c < b + 1 + 9) := zEy.rf
  refine zP_aload_n (pc := 0) (C := C) (x := q0) dX3_init_0 rfl rfl ?_
  refine zP_oinit (pc := 1) C oi3 dX3_init_1 ⟨Nat.le_of_ble_eq_true rfl, Nat.le_of_ble_eq_true rfl⟩ ?_
  refine zP_aload_n (pc := 4) (C := C) (x := q0) dX3_init_4 rfl rfl ?_
  refine zP_iconst (pc := 5) C dX3_init_5 ?_
  refine zP_putqz (pc := 6) C p3_9 dX3_init_6 aO rfl (zRk rfl) (hd _ _ (by omega) (by omega)) ?_
  refine zP_aload_n (pc := 9) (C := C) (x := q0) dX3_init_9 rfl rfl ?_
  refine zP_bipush (pc := 10) C dX3_init_10 rfl ?_
  refine zP_row (pc := 12) (t := b + 2) (N := 40) (z := 40) C HN fr3_15 dX3_init_12 dX3_init_14 aO wf (hu _ (by omega) (by omega)) (fun j => hd _ j (by omega) (by omega)) (zRk rfl) (by omega) rfl (Nat.le_of_ble_eq_true rfl) ⟨Nat.le_of_ble_eq_true rfl, Nat.le_of_ble_eq_true rfl⟩ fun V e wf aO s1 => ?_
  have C := e.ok C
  have E := E.tr e (fun c h => h) (fun c h => by omega)
  have hu := zUn.go (l1 := b + 3) (h1 := b + 10) e hu (by omega) (by omega) (fun c h1 h2 => by omega)
  refine zP_aload_n (pc := 17) (C := C) (x := q0) dX3_init_17 rfl rfl ?_
  refine zP_bipush (pc := 18) C dX3_init_18 rfl ?_
  refine zP_row (pc := 20) (t := b + 3) (N := 40) (z := 40) C HN fr3_19 dX3_init_20 dX3_init_22 aO wf (hu _ (by omega) (by omega)) (fun j => hd _ j (by omega) (by omega)) (zRk rfl) (by omega) rfl (Nat.le_of_ble_eq_true rfl) ⟨Nat.le_of_ble_eq_true rfl, Nat.le_of_ble_eq_true rfl⟩ fun V e wf aO s2 => ?_
  have C := e.ok C
  have E := E.tr e (fun c h => h) (fun c h => by omega)
  have hu := zUn.go (l1 := b + 4) (h1 := b + 10) e hu (by omega) (by omega) (fun c h1 h2 => by omega)
  have s1 := (e.2.2.1 _ (by omega)).trans s1
  refine zP_aload_n (pc := 25) (C := C) (x := q0) dX3_init_25 rfl rfl ?_
  refine zP_bipush (pc := 26) C dX3_init_26 rfl ?_
  refine zP_row (pc := 28) (t := b + 4) (N := 40) (z := 40) C HN fr3_22 dX3_init_28 dX3_init_30 aO wf (hu _ (by omega) (by omega)) (fun j => hd _ j (by omega) (by omega)) (zRk rfl) (by omega) rfl (Nat.le_of_ble_eq_true rfl) ⟨Nat.le_of_ble_eq_true rfl, Nat.le_of_ble_eq_true rfl⟩ fun V e wf aO s3 => ?_
  have C := e.ok C
  have E := E.tr e (fun c h => h) (fun c h => by omega)
  have hu := zUn.go (l1 := b + 5) (h1 := b + 10) e hu (by omega) (by omega) (fun c h1 h2 => by omega)
  have s1 := (e.2.2.1 _ (by omega)).trans s1
  have s2 := (e.2.2.1 _ (by omega)).trans s2
  refine zP_aload_n (pc := 33) (C := C) (x := q0) dX3_init_33 rfl rfl ?_
  refine zP_bipush (pc := 34) C dX3_init_34 rfl ?_
  refine zP_row (pc := 36) (t := b + 5) (N := 40) (z := 40) C HN fr3_25 dX3_init_36 dX3_init_38 aO wf (hu _ (by omega) (by omega)) (fun j => hd _ j (by omega) (by omega)) (zRk rfl) (by omega) rfl (Nat.le_of_ble_eq_true rfl) ⟨Nat.le_of_ble_eq_true rfl, Nat.le_of_ble_eq_true rfl⟩ fun V e wf aO s4 => ?_
  have C := e.ok C
  have E := E.tr e (fun c h => h) (fun c h => by omega)
  have hu := zUn.go (l1 := b + 6) (h1 := b + 10) e hu (by omega) (by omega) (fun c h1 h2 => by omega)
  have s1 := (e.2.2.1 _ (by omega)).trans s1
  have s2 := (e.2.2.1 _ (by omega)).trans s2
  have s3 := (e.2.2.1 _ (by omega)).trans s3
  refine zP_aload_n (pc := 41) (C := C) (x := q0) dX3_init_41 rfl rfl ?_
  refine zP_bipush (pc := 42) C dX3_init_42 rfl ?_
  refine zP_row (pc := 44) (t := b + 6) (N := 40) (z := 40) C HN fr3_28 dX3_init_44 dX3_init_46 aO wf (hu _ (by omega) (by omega)) (fun j => hd _ j (by omega) (by omega)) (zRk rfl) (by omega) rfl (Nat.le_of_ble_eq_true rfl) ⟨Nat.le_of_ble_eq_true rfl, Nat.le_of_ble_eq_true rfl⟩ fun V e wf aO s5 => ?_
  have C := e.ok C
  have E := E.tr e (fun c h => h) (fun c h => by omega)
  have hu := zUn.go (l1 := b + 7) (h1 := b + 10) e hu (by omega) (by omega) (fun c h1 h2 => by omega)
  have s1 := (e.2.2.1 _ (by omega)).trans s1
  have s2 := (e.2.2.1 _ (by omega)).trans s2
  have s3 := (e.2.2.1 _ (by omega)).trans s3
  have s4 := (e.2.2.1 _ (by omega)).trans s4
  refine zP_aload_n (pc := 49) (C := C) (x := q0) dX3_init_49 rfl rfl ?_
  refine zP_bipush (pc := 50) C dX3_init_50 rfl ?_
  refine zP_row (pc := 52) (t := b + 7) (N := 40) (z := 40) C HN fr3_31 dX3_init_52 dX3_init_54 aO wf (hu _ (by omega) (by omega)) (fun j => hd _ j (by omega) (by omega)) (zRk rfl) (by omega) rfl (Nat.le_of_ble_eq_true rfl) ⟨Nat.le_of_ble_eq_true rfl, Nat.le_of_ble_eq_true rfl⟩ fun V e wf aO s6 => ?_
  have C := e.ok C
  have E := E.tr e (fun c h => h) (fun c h => by omega)
  have hu := zUn.go (l1 := b + 8) (h1 := b + 10) e hu (by omega) (by omega) (fun c h1 h2 => by omega)
  have s1 := (e.2.2.1 _ (by omega)).trans s1
  have s2 := (e.2.2.1 _ (by omega)).trans s2
  have s3 := (e.2.2.1 _ (by omega)).trans s3
  have s4 := (e.2.2.1 _ (by omega)).trans s4
  have s5 := (e.2.2.1 _ (by omega)).trans s5
  refine zP_aload_n (pc := 57) (C := C) (x := q0) dX3_init_57 rfl rfl ?_
  refine zP_bipush (pc := 58) C dX3_init_58 rfl ?_
  refine zP_row (pc := 60) (t := b + 8) (N := 40) (z := 40) C HN fr3_34 dX3_init_60 dX3_init_62 aO wf (hu _ (by omega) (by omega)) (fun j => hd _ j (by omega) (by omega)) (zRk rfl) (by omega) rfl (Nat.le_of_ble_eq_true rfl) ⟨Nat.le_of_ble_eq_true rfl, Nat.le_of_ble_eq_true rfl⟩ fun V e wf aO s7 => ?_
  have C := e.ok C
  have E := E.tr e (fun c h => h) (fun c h => by omega)
  have hu := zUn.go (l1 := b + 9) (h1 := b + 10) e hu (by omega) (by omega) (fun c h1 h2 => by omega)
  have s1 := (e.2.2.1 _ (by omega)).trans s1
  have s2 := (e.2.2.1 _ (by omega)).trans s2
  have s3 := (e.2.2.1 _ (by omega)).trans s3
  have s4 := (e.2.2.1 _ (by omega)).trans s4
  have s5 := (e.2.2.1 _ (by omega)).trans s5
  have s6 := (e.2.2.1 _ (by omega)).trans s6
  refine zP_aload_n (pc := 65) (C := C) (x := q0) dX3_init_65 rfl rfl ?_
  refine zP_bipush (pc := 66) C dX3_init_66 rfl ?_
  refine zP_row (pc := 68) (t := b + 9) (N := 40) (z := 40) C HN fr3_37 dX3_init_68 dX3_init_70 aO wf (hu _ (by omega) (by omega)) (fun j => hd _ j (by omega) (by omega)) (zRk rfl) (by omega) rfl (Nat.le_of_ble_eq_true rfl) ⟨Nat.le_of_ble_eq_true rfl, Nat.le_of_ble_eq_true rfl⟩ fun V e wf aO s8 => ?_
  have C := e.ok C
  have E := E.tr e (fun c h => h) (fun c h => by omega)
  have hu := zUn.go (l1 := b + 10) (h1 := b + 10) e hu (by omega) (by omega) (fun c h1 h2 => by omega)
  have s1 := (e.2.2.1 _ (by omega)).trans s1
  have s2 := (e.2.2.1 _ (by omega)).trans s2
  have s3 := (e.2.2.1 _ (by omega)).trans s3
  have s4 := (e.2.2.1 _ (by omega)).trans s4
  have s5 := (e.2.2.1 _ (by omega)).trans s5
  have s6 := (e.2.2.1 _ (by omega)).trans s6
  have s7 := (e.2.2.1 _ (by omega)).trans s7
  have hk : (zfu (zfu (zfu (zfu (zfu (zfu (zfu (zfu zF3 1 (b + 2 + 2)) 2 (b + 3 + 2)) 3 (b + 4 + 2)) 4 (b + 5 + 2)) 5 (b + 6 + 2)) 6 (b + 7 + 2)) 7 (b + 8 + 2)) 8 (b + 9 + 2)) = kX3 b := by
    funext j
    match j with
    | 0 => rfl
    | 1 => rfl
    | 2 => rfl
    | 3 => rfl
    | 4 => rfl
    | 5 => rfl
    | 6 => rfl
    | 7 => rfl
    | 8 => rfl
    | j + 9 => simp [zfu, kX3, zF3]
  rw [hk] at aO
  exact zP_vretN (pc := 73) C EN E wf ⟨aO.1, s1, s2, s3, s4, s5, s6, s7, s8⟩ rfl dX3_init_73
theorem fr4_11 : zFR RX4 11 4 0 := ⟨RX4, TX4, 4, cf4, by decide, q162, rfl, _, rfl, fun _ => ⟨rfl, rfl⟩⟩
theorem fr4_15 : zFR RX4 15 4 1 := ⟨RX4, TX4, 4, cf4, by decide, q163, rfl, _, rfl, fun _ => ⟨rfl, rfl⟩⟩
theorem fr4_18 : zFR RX4 18 4 2 := ⟨RX4, TX4, 4, cf4, by decide, q164, rfl, _, rfl, fun _ => ⟨rfl, rfl⟩⟩
theorem fr4_21 : zFR RX4 21 4 3 := ⟨RX4, TX4, 4, cf4, by decide, q165, rfl, _, rfl, fun _ => ⟨rfl, rfl⟩⟩
theorem t_X4_init {V : zW} {b : Nat} {q0 : Nat} {d : zD} (wf : zWf V) (aO : zAt V (b + 10) q0 (0, 4, zF4)) (hu : ∀ c, b + 11 ≤ c → c < b + 10 + 5 → zsh V c = none) (hd : ∀ c j, b + 10 ≤ c → c < b + 10 + 5 → d c j = 0) : zMetN V 1 4 192 yX4_init cX4_init 1 [.ref q0] d (fun V => zq4 V b) (fun c => b + 10 ≤ c ∧ c < b + 10 + 5) d := by
  refine zMetN_by RX4 pn4 rfl rfl (Nat.le_of_ble_eq_true rfl) [some (.ref q0)] rfl fun X C EN => ?_
  have HN := EN.x
  have E : zEy V V (fun c => b + 10 ≤ c ∧ c < b + 10 + 5) := zEy.rf
  refine zP_aload_n (pc := 0) (C := C) (x := q0) dX4_init_0 rfl rfl ?_
  refine zP_oinit (pc := 1) C oi4 dX4_init_1 ⟨Nat.le_of_ble_eq_true rfl, Nat.le_of_ble_eq_true rfl⟩ ?_
  refine zP_aload_n (pc := 4) (C := C) (x := q0) dX4_init_4 rfl rfl ?_
  refine zP_bipush (pc := 5) C dX4_init_5 rfl ?_
  refine zP_row (pc := 7) (t := b + 11) (N := 24) (z := 24) C HN fr4_11 dX4_init_7 dX4_init_9 aO wf (hu _ (by omega) (by omega)) (fun j => hd _ j (by omega) (by omega)) (zRk rfl) (by omega) rfl (Nat.le_of_ble_eq_true rfl) ⟨Nat.le_of_ble_eq_true rfl, Nat.le_of_ble_eq_true rfl⟩ fun V e wf aO s1 => ?_
  have C := e.ok C
  have E := E.tr e (fun c h => h) (fun c h => by omega)
  have hu := zUn.go (l1 := b + 12) (h1 := b + 15) e hu (by omega) (by omega) (fun c h1 h2 => by omega)
  refine zP_aload_n (pc := 12) (C := C) (x := q0) dX4_init_12 rfl rfl ?_
  refine zP_bipush (pc := 13) C dX4_init_13 rfl ?_
  refine zP_row (pc := 15) (t := b + 12) (N := 24) (z := 24) C HN fr4_15 dX4_init_15 dX4_init_17 aO wf (hu _ (by omega) (by omega)) (fun j => hd _ j (by omega) (by omega)) (zRk rfl) (by omega) rfl (Nat.le_of_ble_eq_true rfl) ⟨Nat.le_of_ble_eq_true rfl, Nat.le_of_ble_eq_true rfl⟩ fun V e wf aO s2 => ?_
  have C := e.ok C
  have E := E.tr e (fun c h => h) (fun c h => by omega)
  have hu := zUn.go (l1 := b + 13) (h1 := b + 15) e hu (by omega) (by omega) (fun c h1 h2 => by omega)
  have s1 := (e.2.2.1 _ (by omega)).trans s1
  refine zP_aload_n (pc := 20) (C := C) (x := q0) dX4_init_20 rfl rfl ?_
  refine zP_bipush (pc := 21) C dX4_init_21 rfl ?_
  refine zP_row (pc := 23) (t := b + 13) (N := 24) (z := 24) C HN fr4_18 dX4_init_23 dX4_init_25 aO wf (hu _ (by omega) (by omega)) (fun j => hd _ j (by omega) (by omega)) (zRk rfl) (by omega) rfl (Nat.le_of_ble_eq_true rfl) ⟨Nat.le_of_ble_eq_true rfl, Nat.le_of_ble_eq_true rfl⟩ fun V e wf aO s3 => ?_
  have C := e.ok C
  have E := E.tr e (fun c h => h) (fun c h => by omega)
  have hu := zUn.go (l1 := b + 14) (h1 := b + 15) e hu (by omega) (by omega) (fun c h1 h2 => by omega)
  have s1 := (e.2.2.1 _ (by omega)).trans s1
  have s2 := (e.2.2.1 _ (by omega)).trans s2
  refine zP_aload_n (pc := 28) (C := C) (x := q0) dX4_init_28 rfl rfl ?_
  refine zP_bipush (pc := 29) C dX4_init_29 rfl ?_
  refine zP_row (pc := 31) (t := b + 14) (N := 120) (z := 120) C HN fr4_21 dX4_init_31 dX4_init_33 aO wf (hu _ (by omega) (by omega)) (fun j => hd _ j (by omega) (by omega)) (zRk rfl) (by omega) rfl (Nat.le_of_ble_eq_true rfl) ⟨Nat.le_of_ble_eq_true rfl, Nat.le_of_ble_eq_true rfl⟩ fun V e wf aO s4 => ?_
  have C := e.ok C
  have E := E.tr e (fun c h => h) (fun c h => by omega)
  have hu := zUn.go (l1 := b + 15) (h1 := b + 15) e hu (by omega) (by omega) (fun c h1 h2 => by omega)
  have s1 := (e.2.2.1 _ (by omega)).trans s1
  have s2 := (e.2.2.1 _ (by omega)).trans s2
  have s3 := (e.2.2.1 _ (by omega)).trans s3
  have hk : (zfu (zfu (zfu (zfu zF4 0 (b + 11 + 2)) 1 (b + 12 + 2)) 2 (b + 13 + 2)) 3 (b + 14 + 2)) = kX4 b := by
    funext j
    match j with
    | 0 => rfl
    | 1 => rfl
    | 2 => rfl
    | 3 => rfl
    | j + 4 => simp [zfu, kX4, zF4]
  rw [hk] at aO
  exact zP_vretN (pc := 36) C EN E wf ⟨aO.1, s1, s2, s3, s4⟩ rfl dX4_init_36
theorem fr8_9 : zFR RX8 9 8 0 := ⟨RX8, TX8, 9, cf8, by decide, q181, rfl, _, rfl, fun _ => ⟨rfl, rfl⟩⟩
theorem fr8_15 : zFR RX8 15 8 1 := ⟨RX8, TX8, 9, cf8, by decide, q185, rfl, _, rfl, fun _ => ⟨rfl, rfl⟩⟩
theorem fr8_18 : zFR RX8 18 8 2 := ⟨RX8, TX8, 9, cf8, by decide, q189, rfl, _, rfl, fun _ => ⟨rfl, rfl⟩⟩
theorem fr8_21 : zFR RX8 21 8 3 := ⟨RX8, TX8, 9, cf8, by decide, q192, rfl, _, rfl, fun _ => ⟨rfl, rfl⟩⟩
theorem fr8_24 : zFR RX8 24 8 4 := ⟨RX8, TX8, 9, cf8, by decide, q195, rfl, _, rfl, fun _ => ⟨rfl, rfl⟩⟩
theorem fr8_27 : zFR RX8 27 8 5 := ⟨RX8, TX8, 9, cf8, by decide, q199, rfl, _, rfl, fun _ => ⟨rfl, rfl⟩⟩
theorem fr8_30 : zFR RX8 30 8 6 := ⟨RX8, TX8, 9, cf8, by decide, q202, rfl, _, rfl, fun _ => ⟨rfl, rfl⟩⟩
theorem fr8_33 : zFR RX8 33 8 7 := ⟨RX8, TX8, 9, cf8, by decide, q206, rfl, _, rfl, fun _ => ⟨rfl, rfl⟩⟩
theorem fr8_36 : zFR RX8 36 8 8 := ⟨RX8, TX8, 9, cf8, by decide, q208, rfl, _, rfl, fun _ => ⟨rfl, rfl⟩⟩
theorem t_X8_init {V : zW} {b : Nat} {q0 : Nat} {d : zD} (wf : zWf V) (aO : zAt V (b + 15) q0 (0, 8, zF8)) (hu : ∀ c, b + 16 ≤ c → c < b + 15 + 10 → zsh V c = none) (hd : ∀ c j, b + 15 ≤ c → c < b + 15 + 10 → d c j = 0) : zMetN V 1 9 96 yX8_init cX8_init 1 [.ref q0] d (fun V => zq8 V b) (fun c => b + 15 ≤ c ∧ c < b + 15 + 10) d := by
  refine zMetN_by RX8 pn8 rfl rfl (Nat.le_of_ble_eq_true rfl) [some (.ref q0)] rfl fun X C EN => ?_
  have HN := EN.x
  have E : zEy V V (fun c => b + 15 ≤ c ∧ c < b + 15 + 10) := zEy.rf
  refine zP_aload_n (pc := 0) (C := C) (x := q0) dX8_init_0 rfl rfl ?_
  refine zP_oinit (pc := 1) C oi8 dX8_init_1 ⟨Nat.le_of_ble_eq_true rfl, Nat.le_of_ble_eq_true rfl⟩ ?_
  refine zP_aload_n (pc := 4) (C := C) (x := q0) dX8_init_4 rfl rfl ?_
  refine zP_bipush (pc := 5) C dX8_init_5 rfl ?_
  refine zP_row (pc := 7) (t := b + 16) (N := 8) (z := 8) C HN fr8_9 dX8_init_7 dX8_init_9 aO wf (hu _ (by omega) (by omega)) (fun j => hd _ j (by omega) (by omega)) (zRk rfl) (by omega) rfl (Nat.le_of_ble_eq_true rfl) ⟨Nat.le_of_ble_eq_true rfl, Nat.le_of_ble_eq_true rfl⟩ fun V e wf aO s1 => ?_
  have C := e.ok C
  have E := E.tr e (fun c h => h) (fun c h => by omega)
  have hu := zUn.go (l1 := b + 17) (h1 := b + 25) e hu (by omega) (by omega) (fun c h1 h2 => by omega)
  refine zP_aload_n (pc := 12) (C := C) (x := q0) dX8_init_12 rfl rfl ?_
  refine zP_bipush (pc := 13) C dX8_init_13 rfl ?_
  refine zP_row (pc := 15) (t := b + 17) (N := 8) (z := 8) C HN fr8_15 dX8_init_15 dX8_init_17 aO wf (hu _ (by omega) (by omega)) (fun j => hd _ j (by omega) (by omega)) (zRk rfl) (by omega) rfl (Nat.le_of_ble_eq_true rfl) ⟨Nat.le_of_ble_eq_true rfl, Nat.le_of_ble_eq_true rfl⟩ fun V e wf aO s2 => ?_
  have C := e.ok C
  have E := E.tr e (fun c h => h) (fun c h => by omega)
  have hu := zUn.go (l1 := b + 18) (h1 := b + 25) e hu (by omega) (by omega) (fun c h1 h2 => by omega)
  have s1 := (e.2.2.1 _ (by omega)).trans s1
  refine zP_aload_n (pc := 20) (C := C) (x := q0) dX8_init_20 rfl rfl ?_
  refine zP_bipush (pc := 21) C dX8_init_21 rfl ?_
  refine zP_row (pc := 23) (t := b + 18) (N := 8) (z := 8) C HN fr8_18 dX8_init_23 dX8_init_25 aO wf (hu _ (by omega) (by omega)) (fun j => hd _ j (by omega) (by omega)) (zRk rfl) (by omega) rfl (Nat.le_of_ble_eq_true rfl) ⟨Nat.le_of_ble_eq_true rfl, Nat.le_of_ble_eq_true rfl⟩ fun V e wf aO s3 => ?_
  have C := e.ok C
  have E := E.tr e (fun c h => h) (fun c h => by omega)
  have hu := zUn.go (l1 := b + 19) (h1 := b + 25) e hu (by omega) (by omega) (fun c h1 h2 => by omega)
  have s1 := (e.2.2.1 _ (by omega)).trans s1
  have s2 := (e.2.2.1 _ (by omega)).trans s2
  refine zP_aload_n (pc := 28) (C := C) (x := q0) dX8_init_28 rfl rfl ?_
  refine zP_bipush (pc := 29) C dX8_init_29 rfl ?_
  refine zP_row (pc := 31) (t := b + 19) (N := 8) (z := 8) C HN fr8_21 dX8_init_31 dX8_init_33 aO wf (hu _ (by omega) (by omega)) (fun j => hd _ j (by omega) (by omega)) (zRk rfl) (by omega) rfl (Nat.le_of_ble_eq_true rfl) ⟨Nat.le_of_ble_eq_true rfl, Nat.le_of_ble_eq_true rfl⟩ fun V e wf aO s4 => ?_
  have C := e.ok C
  have E := E.tr e (fun c h => h) (fun c h => by omega)
  have hu := zUn.go (l1 := b + 20) (h1 := b + 25) e hu (by omega) (by omega) (fun c h1 h2 => by omega)
  have s1 := (e.2.2.1 _ (by omega)).trans s1
  have s2 := (e.2.2.1 _ (by omega)).trans s2
  have s3 := (e.2.2.1 _ (by omega)).trans s3
  refine zP_aload_n (pc := 36) (C := C) (x := q0) dX8_init_36 rfl rfl ?_
  refine zP_bipush (pc := 37) C dX8_init_37 rfl ?_
  refine zP_row (pc := 39) (t := b + 20) (N := 8) (z := 8) C HN fr8_24 dX8_init_39 dX8_init_41 aO wf (hu _ (by omega) (by omega)) (fun j => hd _ j (by omega) (by omega)) (zRk rfl) (by omega) rfl (Nat.le_of_ble_eq_true rfl) ⟨Nat.le_of_ble_eq_true rfl, Nat.le_of_ble_eq_true rfl⟩ fun V e wf aO s5 => ?_
  have C := e.ok C
  have E := E.tr e (fun c h => h) (fun c h => by omega)
  have hu := zUn.go (l1 := b + 21) (h1 := b + 25) e hu (by omega) (by omega) (fun c h1 h2 => by omega)
  have s1 := (e.2.2.1 _ (by omega)).trans s1
  have s2 := (e.2.2.1 _ (by omega)).trans s2
  have s3 := (e.2.2.1 _ (by omega)).trans s3
  have s4 := (e.2.2.1 _ (by omega)).trans s4
  refine zP_aload_n (pc := 44) (C := C) (x := q0) dX8_init_44 rfl rfl ?_
  refine zP_bipush (pc := 45) C dX8_init_45 rfl ?_
  refine zP_row (pc := 47) (t := b + 21) (N := 8) (z := 8) C HN fr8_27 dX8_init_47 dX8_init_49 aO wf (hu _ (by omega) (by omega)) (fun j => hd _ j (by omega) (by omega)) (zRk rfl) (by omega) rfl (Nat.le_of_ble_eq_true rfl) ⟨Nat.le_of_ble_eq_true rfl, Nat.le_of_ble_eq_true rfl⟩ fun V e wf aO s6 => ?_
  have C := e.ok C
  have E := E.tr e (fun c h => h) (fun c h => by omega)
  have hu := zUn.go (l1 := b + 22) (h1 := b + 25) e hu (by omega) (by omega) (fun c h1 h2 => by omega)
  have s1 := (e.2.2.1 _ (by omega)).trans s1
  have s2 := (e.2.2.1 _ (by omega)).trans s2
  have s3 := (e.2.2.1 _ (by omega)).trans s3
  have s4 := (e.2.2.1 _ (by omega)).trans s4
  have s5 := (e.2.2.1 _ (by omega)).trans s5
  refine zP_aload_n (pc := 52) (C := C) (x := q0) dX8_init_52 rfl rfl ?_
  refine zP_bipush (pc := 53) C dX8_init_53 rfl ?_
  refine zP_row (pc := 55) (t := b + 22) (N := 8) (z := 8) C HN fr8_30 dX8_init_55 dX8_init_57 aO wf (hu _ (by omega) (by omega)) (fun j => hd _ j (by omega) (by omega)) (zRk rfl) (by omega) rfl (Nat.le_of_ble_eq_true rfl) ⟨Nat.le_of_ble_eq_true rfl, Nat.le_of_ble_eq_true rfl⟩ fun V e wf aO s7 => ?_
  have C := e.ok C
  have E := E.tr e (fun c h => h) (fun c h => by omega)
  have hu := zUn.go (l1 := b + 23) (h1 := b + 25) e hu (by omega) (by omega) (fun c h1 h2 => by omega)
  have s1 := (e.2.2.1 _ (by omega)).trans s1
  have s2 := (e.2.2.1 _ (by omega)).trans s2
  have s3 := (e.2.2.1 _ (by omega)).trans s3
  have s4 := (e.2.2.1 _ (by omega)).trans s4
  have s5 := (e.2.2.1 _ (by omega)).trans s5
  have s6 := (e.2.2.1 _ (by omega)).trans s6
  refine zP_aload_n (pc := 60) (C := C) (x := q0) dX8_init_60 rfl rfl ?_
  refine zP_bipush (pc := 61) C dX8_init_61 rfl ?_
  refine zP_row (pc := 63) (t := b + 23) (N := 8) (z := 8) C HN fr8_33 dX8_init_63 dX8_init_65 aO wf (hu _ (by omega) (by omega)) (fun j => hd _ j (by omega) (by omega)) (zRk rfl) (by omega) rfl (Nat.le_of_ble_eq_true rfl) ⟨Nat.le_of_ble_eq_true rfl, Nat.le_of_ble_eq_true rfl⟩ fun V e wf aO s8 => ?_
  have C := e.ok C
  have E := E.tr e (fun c h => h) (fun c h => by omega)
  have hu := zUn.go (l1 := b + 24) (h1 := b + 25) e hu (by omega) (by omega) (fun c h1 h2 => by omega)
  have s1 := (e.2.2.1 _ (by omega)).trans s1
  have s2 := (e.2.2.1 _ (by omega)).trans s2
  have s3 := (e.2.2.1 _ (by omega)).trans s3
  have s4 := (e.2.2.1 _ (by omega)).trans s4
  have s5 := (e.2.2.1 _ (by omega)).trans s5
  have s6 := (e.2.2.1 _ (by omega)).trans s6
  have s7 := (e.2.2.1 _ (by omega)).trans s7
  refine zP_aload_n (pc := 68) (C := C) (x := q0) dX8_init_68 rfl rfl ?_
  refine zP_bipush (pc := 69) C dX8_init_69 rfl ?_
  refine zP_row (pc := 71) (t := b + 24) (N := 32) (z := 32) C HN fr8_36 dX8_init_71 dX8_init_73 aO wf (hu _ (by omega) (by omega)) (fun j => hd _ j (by omega) (by omega)) (zRk rfl) (by omega) rfl (Nat.le_of_ble_eq_true rfl) ⟨Nat.le_of_ble_eq_true rfl, Nat.le_of_ble_eq_true rfl⟩ fun V e wf aO s9 => ?_
  have C := e.ok C
  have E := E.tr e (fun c h => h) (fun c h => by omega)
  have hu := zUn.go (l1 := b + 25) (h1 := b + 25) e hu (by omega) (by omega) (fun c h1 h2 => by omega)
  have s1 := (e.2.2.1 _ (by omega)).trans s1
  have s2 := (e.2.2.1 _ (by omega)).trans s2
  have s3 := (e.2.2.1 _ (by omega)).trans s3
  have s4 := (e.2.2.1 _ (by omega)).trans s4
  have s5 := (e.2.2.1 _ (by omega)).trans s5
  have s6 := (e.2.2.1 _ (by omega)).trans s6
  have s7 := (e.2.2.1 _ (by omega)).trans s7
  have s8 := (e.2.2.1 _ (by omega)).trans s8
  have hk : (zfu (zfu (zfu (zfu (zfu (zfu (zfu (zfu (zfu zF8 0 (b + 16 + 2)) 1 (b + 17 + 2)) 2 (b + 18 + 2)) 3 (b + 19 + 2)) 4 (b + 20 + 2)) 5 (b + 21 + 2)) 6 (b + 22 + 2)) 7 (b + 23 + 2)) 8 (b + 24 + 2)) = kX8 b := by
    funext j
    match j with
    | 0 => rfl
    | 1 => rfl
    | 2 => rfl
    | 3 => rfl
    | 4 => rfl
    | 5 => rfl
    | 6 => rfl
    | 7 => rfl
    | 8 => rfl
    | j + 9 => simp [zfu, kX8, zF8]
  rw [hk] at aO
  exact zP_vretN (pc := 76) C EN E wf ⟨aO.1, s1, s2, s3, s4, s5, s6, s7, s8, s9⟩ rfl dX8_init_76
theorem fr10_18 : zFR RX10 18 10 2 := ⟨RX10, TX10, 3, cf10, by decide, q237, rfl, _, rfl, fun _ => ⟨rfl, rfl⟩⟩
theorem t_X10_init {V : zW} {b : Nat} {q0 : Nat} {d : zD} (wf : zWf V) (aO : zAt V (b + 25) q0 (0, 10, zF10)) (hu : ∀ c, b + 26 ≤ c → c < b + 25 + 2 → zsh V c = none) (hd : ∀ c j, b + 25 ≤ c → c < b + 25 + 2 → d c j = 0) : zMetN V 1 1 100 yX10_init cX10_init 1 [.ref q0] d (fun V => zq10 V b) (fun c => b + 25 ≤ c ∧ c < b + 25 + 2) d := by
  refine zMetN_by RX10 pn10 rfl rfl (Nat.le_of_ble_eq_true rfl) [some (.ref q0)] rfl fun X C EN => ?_
  have HN := EN.x
  have E : zEy V V (fun c => b + 25 ≤ c ∧ c < b + 25 + 2) := zEy.rf
  refine zP_aload_n (pc := 0) (C := C) (x := q0) dX10_init_0 rfl rfl ?_
  refine zP_oinit (pc := 1) C oi10 dX10_init_1 ⟨Nat.le_of_ble_eq_true rfl, Nat.le_of_ble_eq_true rfl⟩ ?_
  refine zP_aload_n (pc := 4) (C := C) (x := q0) dX10_init_4 rfl rfl ?_
  refine zP_iconst (pc := 5) C dX10_init_5 ?_
  refine zP_putqz (pc := 6) C p10_9 dX10_init_6 aO rfl (zRk rfl) (hd _ _ (by omega) (by omega)) ?_
  refine zP_aload_n (pc := 9) (C := C) (x := q0) dX10_init_9 rfl rfl ?_
  refine zP_iconst (pc := 10) C dX10_init_10 ?_
  refine zP_putqz (pc := 11) C p10_15 dX10_init_11 aO rfl (zRk rfl) (hd _ _ (by omega) (by omega)) ?_
  refine zP_aload_n (pc := 14) (C := C) (x := q0) dX10_init_14 rfl rfl ?_
  refine zP_bipush (pc := 15) C dX10_init_15 rfl ?_
  refine zP_row (pc := 17) (t := b + 26) (N := 100) (z := 100) C HN fr10_18 dX10_init_17 dX10_init_19 aO wf (hu _ (by omega) (by omega)) (fun j => hd _ j (by omega) (by omega)) (zRk rfl) (by omega) rfl (Nat.le_of_ble_eq_true rfl) ⟨Nat.le_of_ble_eq_true rfl, Nat.le_of_ble_eq_true rfl⟩ fun V e wf aO s1 => ?_
  have C := e.ok C
  have E := E.tr e (fun c h => h) (fun c h => by omega)
  have hu := zUn.go (l1 := b + 27) (h1 := b + 27) e hu (by omega) (by omega) (fun c h1 h2 => by omega)
  have hk : (zfu zF10 2 (b + 26 + 2)) = kX10 b := by
    funext j
    match j with
    | 0 => rfl
    | 1 => rfl
    | 2 => rfl
    | j + 3 => simp [zfu, kX10, zF10]
  rw [hk] at aO
  exact zP_vretN (pc := 22) C EN E wf ⟨aO.1, s1⟩ rfl dX10_init_22
theorem fr9_9 : zFR RX9 9 9 0 := ⟨RX9, TX9, 7, cf9, by decide, q367, rfl, _, rfl, fun _ => ⟨rfl, rfl⟩⟩
theorem t_X9_init {V : zW} {q0 : Nat} {d : zD} (wf : zWf V) (aO : zAt V 10 q0 (0, 9, zF9)) (hu : ∀ c, 11 ≤ c → c < 10 + 2 → zsh V c = none) (hd : ∀ c j, 10 ≤ c → c < 10 + 2 → d c j = 0) : zMetN V 1 1 600 yX9_init cX9_init 1 [.ref q0] d (fun V => zo9 V) (fun c => 10 ≤ c ∧ c < 10 + 2) (zu (zu d 10 2 3) 10 6 (-1)) := by
  refine zMetN_by RX9 pn9 rfl rfl (Nat.le_of_ble_eq_true rfl) [some (.ref q0)] rfl fun X C EN => ?_
  have HN := EN.x
  have E : zEy V V (fun c => 10 ≤ c ∧ c < 10 + 2) := zEy.rf
  refine zP_aload_n (pc := 0) (C := C) (x := q0) dX9_init_0 rfl rfl ?_
  refine zP_oinit (pc := 1) C oi9 dX9_init_1 ⟨Nat.le_of_ble_eq_true rfl, Nat.le_of_ble_eq_true rfl⟩ ?_
  refine zP_aload_n (pc := 4) (C := C) (x := q0) dX9_init_4 rfl rfl ?_
  refine zP_sipush (pc := 5) C dX9_init_5 rfl ?_
  refine zP_row (pc := 8) (t := 11) (N := 600) (z := 600) C HN fr9_9 dX9_init_8 dX9_init_10 aO wf (hu _ (by omega) (by omega)) (fun j => hd _ j (by omega) (by omega)) (zRk rfl) (by omega) rfl (Nat.le_of_ble_eq_true rfl) ⟨Nat.le_of_ble_eq_true rfl, Nat.le_of_ble_eq_true rfl⟩ fun V e wf aO s1 => ?_
  have C := e.ok C
  have E := E.tr e (fun c h => h) (fun c h => by omega)
  have hu := zUn.go (l1 := 12) (h1 := 12) e hu (by omega) (by omega) (fun c h1 h2 => by omega)
  refine zP_aload_n (pc := 13) (C := C) (x := q0) dX9_init_13 rfl rfl ?_
  refine zP_iconst (pc := 14) C dX9_init_14 ?_
  refine zP_putqz (pc := 15) C p9_15 dX9_init_15 aO rfl (zRk rfl) (hd _ _ (by omega) (by omega)) ?_
  refine zP_aload_n (pc := 18) (C := C) (x := q0) dX9_init_18 rfl rfl ?_
  refine zP_iconst (pc := 19) C dX9_init_19 ?_
  refine zP_putq (pc := 20) C p9_19 dX9_init_20 aO rfl (zRk rfl) ?_
  refine zP_aload_n (pc := 23) (C := C) (x := q0) dX9_init_23 rfl rfl ?_
  refine zP_iconst (pc := 24) C dX9_init_24 ?_
  refine zP_putqz (pc := 25) C p9_22 dX9_init_25 aO rfl (zRk rfl) ((zu_ne (Or.inr (by decide))).trans (hd _ _ (by omega) (by omega))) ?_
  refine zP_aload_n (pc := 28) (C := C) (x := q0) dX9_init_28 rfl rfl ?_
  refine zP_iconst (pc := 29) C dX9_init_29 ?_
  refine zP_putqz (pc := 30) C p9_25 dX9_init_30 aO rfl (zRk rfl) ((zu_ne (Or.inr (by decide))).trans (hd _ _ (by omega) (by omega))) ?_
  refine zP_aload_n (pc := 33) (C := C) (x := q0) dX9_init_33 rfl rfl ?_
  refine zP_iconst (pc := 34) C dX9_init_34 ?_
  refine zP_putqz (pc := 35) C p9_28 dX9_init_35 aO rfl (zRk rfl) ((zu_ne (Or.inr (by decide))).trans (hd _ _ (by omega) (by omega))) ?_
  refine zP_aload_n (pc := 38) (C := C) (x := q0) dX9_init_38 rfl rfl ?_
  refine zP_iconst (pc := 39) C dX9_init_39 ?_
  refine zP_putq (pc := 40) C p9_31 dX9_init_40 aO rfl (zRk rfl) ?_
  have hk : (zfu zF9 0 (11 + 2)) = kX9 := by
    funext j
    match j with
    | 0 => rfl
    | 1 => rfl
    | 2 => rfl
    | 3 => rfl
    | 4 => rfl
    | 5 => rfl
    | 6 => rfl
    | j + 7 => simp [zfu, kX9, zF9]
  rw [hk] at aO
  exact zP_vretN (pc := 43) C EN E wf ⟨aO.1, s1⟩ rfl dX9_init_43
