/-! The shapes of the system's cells, object by object, and the words of their fields. -/
def zk0 : Nat → Nat := fun _ => 0
def kX0  : Nat → Nat := fun k => match k with
  | 0 => 9 + 2
  | _ => 0
def kX1 (lb : Nat) : Nat → Nat := fun k => match k with
  | 0 => lb + 2
  | _ => 0
def kX2 (b : Nat) : Nat → Nat := fun k => match k with
  | 0 => 1 + 2
  | 1 => b + 1 + 2
  | 2 => b + 10 + 2
  | 3 => b + 15 + 2
  | 4 => b + 25 + 2
  | 5 => b + 27 + 2
  | 6 => b + 28 + 2
  | 7 => b + 29 + 2
  | _ => 0
def kX3 (b : Nat) : Nat → Nat := fun k => match k with
  | 1 => b + 2 + 2
  | 2 => b + 3 + 2
  | 3 => b + 4 + 2
  | 4 => b + 5 + 2
  | 5 => b + 6 + 2
  | 6 => b + 7 + 2
  | 7 => b + 8 + 2
  | 8 => b + 9 + 2
  | _ => 0
def kX4 (b : Nat) : Nat → Nat := fun k => match k with
  | 0 => b + 11 + 2
  | 1 => b + 12 + 2
  | 2 => b + 13 + 2
  | 3 => b + 14 + 2
  | _ => 0
def kX5  : Nat → Nat := fun k => match k with
  | 0 => 10 + 2
  | 1 => 1 + 2
  | 2 => 21 + 2
  | 3 => 22 + 2
  | 4 => 23 + 2
  | 5 => 24 + 2
  | _ => 0
def kX6 (s : Nat) : Nat → Nat := fun k => match k with
  | 1 => s + 1 + 2
  | 2 => s + 2 + 2
  | 3 => s + 3 + 2
  | 4 => s + 4 + 2
  | _ => 0
def kX7  : Nat → Nat := fun k => match k with
  | 0 => 10 + 2
  | 1 => 13 + 2
  | 2 => 18 + 2
  | 3 => 19 + 2
  | _ => 0
def kX8 (b : Nat) : Nat → Nat := fun k => match k with
  | 0 => b + 16 + 2
  | 1 => b + 17 + 2
  | 2 => b + 18 + 2
  | 3 => b + 19 + 2
  | 4 => b + 20 + 2
  | 5 => b + 21 + 2
  | 6 => b + 22 + 2
  | 7 => b + 23 + 2
  | 8 => b + 24 + 2
  | _ => 0
def kX9  : Nat → Nat := fun k => match k with
  | 0 => 11 + 2
  | _ => 0
def kX10 (b : Nat) : Nat → Nat := fun k => match k with
  | 2 => b + 26 + 2
  | _ => 0
def kX11  : Nat → Nat := fun k => match k with
  | 0 => 1 + 2
  | 1 => 30 + 2
  | 2 => 6 + 2
  | 3 => 60 + 2
  | 4 => 7 + 2
  | 5 => 90 + 2
  | 6 => 8 + 2
  | 7 => 10 + 2
  | 8 => 12 + 2
  | 9 => 20 + 2
  | 10 => 25 + 2
  | _ => 0
def kXk : Nat → Nat := fun j => if j < 8 then (120 + 30 * j) + 2 else 0
def zo6 (V : zW) (s : Nat) : Prop := zsh V (s) = some (0, 6, (kX6 s)) ∧ zsh V (s + 1) = some (1, 8, zk0) ∧ zsh V (s + 2) = some (1, 8, zk0) ∧ zsh V (s + 3) = some (1, 8, zk0) ∧ zsh V (s + 4) = some (1, 8, zk0)
theorem s_X6 {V : zW} {s : Nat} (h : zo6 V s) : zsh V (s) = some (0, 6, (kX6 s)) := h.1
theorem s_X6_names {V : zW} {s : Nat} (h : zo6 V s) : zsh V (s + 1) = some (1, 8, zk0) := h.2.1
theorem s_X6_delays {V : zW} {s : Nat} (h : zo6 V s) : zsh V (s + 2) = some (1, 8, zk0) := h.2.2.1
theorem s_X6_rooms {V : zW} {s : Nat} (h : zo6 V s) : zsh V (s + 3) = some (1, 8, zk0) := h.2.2.2.1
theorem s_X6_prints {V : zW} {s : Nat} (h : zo6 V s) : zsh V (s + 4) = some (1, 8, zk0) := h.2.2.2.2
def zo2 (V : zW) (b : Nat) : Prop := zsh V (b) = some (0, 2, (kX2 b)) ∧ zsh V (b + 27) = some (1, 6, zk0) ∧ zsh V (b + 28) = some (1, 13, zk0) ∧ zsh V (b + 29) = some (1, 16, zk0) ∧ zsh V (b + 1) = some (0, 3, (kX3 b)) ∧ zsh V (b + 2) = some (1, 40, zk0) ∧ zsh V (b + 3) = some (1, 40, zk0) ∧ zsh V (b + 4) = some (1, 40, zk0) ∧ zsh V (b + 5) = some (1, 40, zk0) ∧ zsh V (b + 6) = some (1, 40, zk0) ∧ zsh V (b + 7) = some (1, 40, zk0) ∧ zsh V (b + 8) = some (1, 40, zk0) ∧ zsh V (b + 9) = some (1, 40, zk0) ∧ zsh V (b + 10) = some (0, 4, (kX4 b)) ∧ zsh V (b + 11) = some (1, 24, zk0) ∧ zsh V (b + 12) = some (1, 24, zk0) ∧ zsh V (b + 13) = some (1, 24, zk0) ∧ zsh V (b + 14) = some (1, 120, zk0) ∧ zsh V (b + 15) = some (0, 8, (kX8 b)) ∧ zsh V (b + 16) = some (1, 8, zk0) ∧ zsh V (b + 17) = some (1, 8, zk0) ∧ zsh V (b + 18) = some (1, 8, zk0) ∧ zsh V (b + 19) = some (1, 8, zk0) ∧ zsh V (b + 20) = some (1, 8, zk0) ∧ zsh V (b + 21) = some (1, 8, zk0) ∧ zsh V (b + 22) = some (1, 8, zk0) ∧ zsh V (b + 23) = some (1, 8, zk0) ∧ zsh V (b + 24) = some (1, 32, zk0) ∧ zsh V (b + 25) = some (0, 10, (kX10 b)) ∧ zsh V (b + 26) = some (1, 100, zk0) ∧ zo6 V 1
theorem s_X2 {V : zW} {b : Nat} (h : zo2 V b) : zsh V (b) = some (0, 2, (kX2 b)) := h.1
theorem s_X2_settings {V : zW} {b : Nat} (h : zo2 V b) : zsh V (b + 27) = some (1, 6, zk0) := h.2.1
theorem s_X2_accounts {V : zW} {b : Nat} (h : zo2 V b) : zsh V (b + 28) = some (1, 13, zk0) := h.2.2.1
theorem s_X2_list {V : zW} {b : Nat} (h : zo2 V b) : zsh V (b + 29) = some (1, 16, zk0) := h.2.2.2.1
theorem s_X3 {V : zW} {b : Nat} (h : zo2 V b) : zsh V (b + 1) = some (0, 3, (kX3 b)) := h.2.2.2.2.1
theorem s_X3_senders {V : zW} {b : Nat} (h : zo2 V b) : zsh V (b + 2) = some (1, 40, zk0) := h.2.2.2.2.2.1
theorem s_X3_receivers {V : zW} {b : Nat} (h : zo2 V b) : zsh V (b + 3) = some (1, 40, zk0) := h.2.2.2.2.2.2.1
theorem s_X3_lengths {V : zW} {b : Nat} (h : zo2 V b) : zsh V (b + 4) = some (1, 40, zk0) := h.2.2.2.2.2.2.2.1
theorem s_X3_states {V : zW} {b : Nat} (h : zo2 V b) : zsh V (b + 5) = some (1, 40, zk0) := h.2.2.2.2.2.2.2.2.1
theorem s_X3_postTimes {V : zW} {b : Nat} (h : zo2 V b) : zsh V (b + 6) = some (1, 40, zk0) := h.2.2.2.2.2.2.2.2.2.1
theorem s_X3_hostTimes {V : zW} {b : Nat} (h : zo2 V b) : zsh V (b + 7) = some (1, 40, zk0) := h.2.2.2.2.2.2.2.2.2.2.1
theorem s_X3_bufferTimes {V : zW} {b : Nat} (h : zo2 V b) : zsh V (b + 8) = some (1, 40, zk0) := h.2.2.2.2.2.2.2.2.2.2.2.1
theorem s_X3_deliveryTimes {V : zW} {b : Nat} (h : zo2 V b) : zsh V (b + 9) = some (1, 40, zk0) := h.2.2.2.2.2.2.2.2.2.2.2.2.1
theorem s_X4 {V : zW} {b : Nat} (h : zo2 V b) : zsh V (b + 10) = some (0, 4, (kX4 b)) := h.2.2.2.2.2.2.2.2.2.2.2.2.2.1
theorem s_X4_firsts {V : zW} {b : Nat} (h : zo2 V b) : zsh V (b + 11) = some (1, 24, zk0) := h.2.2.2.2.2.2.2.2.2.2.2.2.2.2.1
theorem s_X4_lasts {V : zW} {b : Nat} (h : zo2 V b) : zsh V (b + 12) = some (1, 24, zk0) := h.2.2.2.2.2.2.2.2.2.2.2.2.2.2.2.1
theorem s_X4_sizes {V : zW} {b : Nat} (h : zo2 V b) : zsh V (b + 13) = some (1, 24, zk0) := h.2.2.2.2.2.2.2.2.2.2.2.2.2.2.2.2.1
theorem s_X4_nexts {V : zW} {b : Nat} (h : zo2 V b) : zsh V (b + 14) = some (1, 120, zk0) := h.2.2.2.2.2.2.2.2.2.2.2.2.2.2.2.2.2.1
theorem s_X8 {V : zW} {b : Nat} (h : zo2 V b) : zsh V (b + 15) = some (0, 8, (kX8 b)) := h.2.2.2.2.2.2.2.2.2.2.2.2.2.2.2.2.2.2.1
theorem s_X8_alive {V : zW} {b : Nat} (h : zo2 V b) : zsh V (b + 16) = some (1, 8, zk0) := h.2.2.2.2.2.2.2.2.2.2.2.2.2.2.2.2.2.2.2.1
theorem s_X8_on {V : zW} {b : Nat} (h : zo2 V b) : zsh V (b + 17) = some (1, 8, zk0) := h.2.2.2.2.2.2.2.2.2.2.2.2.2.2.2.2.2.2.2.2.1
theorem s_X8_misses {V : zW} {b : Nat} (h : zo2 V b) : zsh V (b + 18) = some (1, 8, zk0) := h.2.2.2.2.2.2.2.2.2.2.2.2.2.2.2.2.2.2.2.2.2.1
theorem s_X8_ownBits {V : zW} {b : Nat} (h : zo2 V b) : zsh V (b + 19) = some (1, 8, zk0) := h.2.2.2.2.2.2.2.2.2.2.2.2.2.2.2.2.2.2.2.2.2.2.1
theorem s_X8_expectedBits {V : zW} {b : Nat} (h : zo2 V b) : zsh V (b + 20) = some (1, 8, zk0) := h.2.2.2.2.2.2.2.2.2.2.2.2.2.2.2.2.2.2.2.2.2.2.2.1
theorem s_X8_hostBits {V : zW} {b : Nat} (h : zo2 V b) : zsh V (b + 21) = some (1, 8, zk0) := h.2.2.2.2.2.2.2.2.2.2.2.2.2.2.2.2.2.2.2.2.2.2.2.2.1
theorem s_X8_hostExpectedBits {V : zW} {b : Nat} (h : zo2 V b) : zsh V (b + 22) = some (1, 8, zk0) := h.2.2.2.2.2.2.2.2.2.2.2.2.2.2.2.2.2.2.2.2.2.2.2.2.2.1
theorem s_X8_firstSince {V : zW} {b : Nat} (h : zo2 V b) : zsh V (b + 23) = some (1, 8, zk0) := h.2.2.2.2.2.2.2.2.2.2.2.2.2.2.2.2.2.2.2.2.2.2.2.2.2.2.1
theorem s_X8_often {V : zW} {b : Nat} (h : zo2 V b) : zsh V (b + 24) = some (1, 32, zk0) := h.2.2.2.2.2.2.2.2.2.2.2.2.2.2.2.2.2.2.2.2.2.2.2.2.2.2.2.1
theorem s_X10 {V : zW} {b : Nat} (h : zo2 V b) : zsh V (b + 25) = some (0, 10, (kX10 b)) := h.2.2.2.2.2.2.2.2.2.2.2.2.2.2.2.2.2.2.2.2.2.2.2.2.2.2.2.2.1
theorem s_X10_numbers {V : zW} {b : Nat} (h : zo2 V b) : zsh V (b + 26) = some (1, 100, zk0) := h.2.2.2.2.2.2.2.2.2.2.2.2.2.2.2.2.2.2.2.2.2.2.2.2.2.2.2.2.2.1
theorem o_X2_setup {V : zW} {b : Nat} (h : zo2 V b) : zo6 V 1 := h.2.2.2.2.2.2.2.2.2.2.2.2.2.2.2.2.2.2.2.2.2.2.2.2.2.2.2.2.2.2
def zo1 (V : zW) (g : Nat) (lb : Nat) : Prop := zsh V (g) = some (0, 1, (kX1 lb)) ∧ zo2 V lb
theorem s_X1 {V : zW} {g : Nat} {lb : Nat} (h : zo1 V g lb) : zsh V (g) = some (0, 1, (kX1 lb)) := h.1
theorem o_X1_line {V : zW} {g : Nat} {lb : Nat} (h : zo1 V g lb) : zo2 V lb := h.2
def zo0 (V : zW)  : Prop := zsh V (8) = some (0, 0, kX0) ∧ zsh V (9) = some (3, 8, kXk) ∧ ∀ i, i < 8 → zo2 V (120 + 30 * i)
theorem s_X0 {V : zW}  (h : zo0 V ) : zsh V (8) = some (0, 0, kX0) := h.1
theorem s_X0_kept {V : zW}  (h : zo0 V ) : zsh V (9) = some (3, 8, kXk) := h.2.1
theorem o_X0_kept {V : zW}  (h : zo0 V ) : ∀ i, i < 8 → zo2 V (120 + 30 * i) := h.2.2
def zo9 (V : zW)  : Prop := zsh V (10) = some (0, 9, kX9) ∧ zsh V (11) = some (1, 600, zk0)
theorem s_X9 {V : zW}  (h : zo9 V ) : zsh V (10) = some (0, 9, kX9) := h.1
theorem s_X9_bytes {V : zW}  (h : zo9 V ) : zsh V (11) = some (1, 600, zk0) := h.2
def zo7 (V : zW)  : Prop := zsh V (12) = some (0, 7, kX7) ∧ zsh V (18) = some (1, 6, zk0) ∧ zsh V (19) = some (1, 16, zk0) ∧ zo9 V ∧ zo6 V 13
theorem s_X7 {V : zW}  (h : zo7 V ) : zsh V (12) = some (0, 7, kX7) := h.1
theorem s_X7_settings {V : zW}  (h : zo7 V ) : zsh V (18) = some (1, 6, zk0) := h.2.1
theorem s_X7_list {V : zW}  (h : zo7 V ) : zsh V (19) = some (1, 16, zk0) := h.2.2.1
theorem o_X7_tokens {V : zW}  (h : zo7 V ) : zo9 V := h.2.2.2.1
theorem o_X7_draft {V : zW}  (h : zo7 V ) : zo6 V 13 := h.2.2.2.2
def zo5 (V : zW)  : Prop := zsh V (20) = some (0, 5, kX5) ∧ zsh V (21) = some (1, 30, zk0) ∧ zsh V (22) = some (1, 30, zk0) ∧ zsh V (23) = some (1, 30, zk0) ∧ zsh V (24) = some (1, 30, zk0) ∧ zo9 V ∧ zo6 V 1
theorem s_X5 {V : zW}  (h : zo5 V ) : zsh V (20) = some (0, 5, kX5) := h.1
theorem s_X5_verbs {V : zW}  (h : zo5 V ) : zsh V (21) = some (1, 30, zk0) := h.2.1
theorem s_X5_first {V : zW}  (h : zo5 V ) : zsh V (22) = some (1, 30, zk0) := h.2.2.1
theorem s_X5_second {V : zW}  (h : zo5 V ) : zsh V (23) = some (1, 30, zk0) := h.2.2.2.1
theorem s_X5_third {V : zW}  (h : zo5 V ) : zsh V (24) = some (1, 30, zk0) := h.2.2.2.2.1
theorem o_X5_tokens {V : zW}  (h : zo5 V ) : zo9 V := h.2.2.2.2.2.1
theorem o_X5_setup {V : zW}  (h : zo5 V ) : zo6 V 1 := h.2.2.2.2.2.2
def zo11 (V : zW)  : Prop := zsh V (0) = some (0, 11, kX11) ∧ zsh V (25) = some (1, 160, zk0) ∧ zo6 V 1 ∧ zo2 V 30 ∧ zo1 V 6 30 ∧ zo2 V 60 ∧ zo1 V 7 60 ∧ zo2 V 90 ∧ zo0 V ∧ zo9 V ∧ zo7 V ∧ zo5 V
theorem s_X11 {V : zW}  (h : zo11 V ) : zsh V (0) = some (0, 11, kX11) := h.1
theorem s_X11_output {V : zW}  (h : zo11 V ) : zsh V (25) = some (1, 160, zk0) := h.2.1
theorem o_X11_setup {V : zW}  (h : zo11 V ) : zo6 V 1 := h.2.2.1
theorem o_X11_line {V : zW}  (h : zo11 V ) : zo2 V 30 := h.2.2.2.1
theorem o_X11_host {V : zW}  (h : zo11 V ) : zo1 V 6 30 := h.2.2.2.2.1
theorem o_X11_copy {V : zW}  (h : zo11 V ) : zo2 V 60 := h.2.2.2.2.2.1
theorem o_X11_copyHost {V : zW}  (h : zo11 V ) : zo1 V 7 60 := h.2.2.2.2.2.2.1
theorem o_X11_saved {V : zW}  (h : zo11 V ) : zo2 V 90 := h.2.2.2.2.2.2.2.1
theorem o_X11_history {V : zW}  (h : zo11 V ) : zo0 V := h.2.2.2.2.2.2.2.2.1
theorem o_X11_tokens {V : zW}  (h : zo11 V ) : zo9 V := h.2.2.2.2.2.2.2.2.2.1
theorem o_X11_setupReader {V : zW}  (h : zo11 V ) : zo7 V := h.2.2.2.2.2.2.2.2.2.2.1
theorem o_X11_script {V : zW}  (h : zo11 V ) : zo5 V := h.2.2.2.2.2.2.2.2.2.2.2
theorem l0_0 : u_lay RX0 TX0 0 ∈ zT := zin 354 (by decide +kernel) (by decide +kernel)
theorem l0_1 : u_lay RX0 TX0 1 ∈ zT := zin 356 (by decide +kernel) (by decide +kernel)
theorem l0_2 : u_lay RX0 TX0 2 ∈ zT := zin 358 (by decide +kernel) (by decide +kernel)
theorem cf0 : zCF 0 RX0 TX0 3 := ⟨rfl, fun w hw => by
  obtain ⟨k, hk, rfl⟩ := List.mem_map.mp hw
  have hk := List.mem_range.mp hk
  match k, hk with
  | 0, _ => exact l0_0
  | 1, _ => exact l0_1
  | 2, _ => exact l0_2
  | k + 3, hk => exact absurd hk (by omega), nmX0, tyX0, tyX0_ok⟩
theorem l1_0 : u_lay RX1 TX1 0 ∈ zT := zin 332 (by decide +kernel) (by decide +kernel)
theorem l1_1 : u_lay RX1 TX1 1 ∈ zT := zin 334 (by decide +kernel) (by decide +kernel)
theorem l1_2 : u_lay RX1 TX1 2 ∈ zT := zin 336 (by decide +kernel) (by decide +kernel)
theorem l1_3 : u_lay RX1 TX1 3 ∈ zT := zin 338 (by decide +kernel) (by decide +kernel)
theorem cf1 : zCF 1 RX1 TX1 4 := ⟨rfl, fun w hw => by
  obtain ⟨k, hk, rfl⟩ := List.mem_map.mp hw
  have hk := List.mem_range.mp hk
  match k, hk with
  | 0, _ => exact l1_0
  | 1, _ => exact l1_1
  | 2, _ => exact l1_2
  | 3, _ => exact l1_3
  | k + 4, hk => exact absurd hk (by omega), nmX1, tyX1, tyX1_ok⟩
theorem l2_0 : u_lay RX2 TX2 0 ∈ zT := zin 287 (by decide +kernel) (by decide +kernel)
theorem l2_1 : u_lay RX2 TX2 1 ∈ zT := zin 289 (by decide +kernel) (by decide +kernel)
theorem l2_2 : u_lay RX2 TX2 2 ∈ zT := zin 291 (by decide +kernel) (by decide +kernel)
theorem l2_3 : u_lay RX2 TX2 3 ∈ zT := zin 293 (by decide +kernel) (by decide +kernel)
theorem l2_4 : u_lay RX2 TX2 4 ∈ zT := zin 295 (by decide +kernel) (by decide +kernel)
theorem l2_5 : u_lay RX2 TX2 5 ∈ zT := zin 297 (by decide +kernel) (by decide +kernel)
theorem l2_6 : u_lay RX2 TX2 6 ∈ zT := zin 299 (by decide +kernel) (by decide +kernel)
theorem l2_7 : u_lay RX2 TX2 7 ∈ zT := zin 301 (by decide +kernel) (by decide +kernel)
theorem l2_8 : u_lay RX2 TX2 8 ∈ zT := zin 303 (by decide +kernel) (by decide +kernel)
theorem l2_9 : u_lay RX2 TX2 9 ∈ zT := zin 305 (by decide +kernel) (by decide +kernel)
theorem l2_10 : u_lay RX2 TX2 10 ∈ zT := zin 307 (by decide +kernel) (by decide +kernel)
theorem l2_11 : u_lay RX2 TX2 11 ∈ zT := zin 309 (by decide +kernel) (by decide +kernel)
theorem l2_12 : u_lay RX2 TX2 12 ∈ zT := zin 311 (by decide +kernel) (by decide +kernel)
theorem l2_13 : u_lay RX2 TX2 13 ∈ zT := zin 313 (by decide +kernel) (by decide +kernel)
theorem l2_14 : u_lay RX2 TX2 14 ∈ zT := zin 315 (by decide +kernel) (by decide +kernel)
theorem l2_15 : u_lay RX2 TX2 15 ∈ zT := zin 317 (by decide +kernel) (by decide +kernel)
theorem cf2 : zCF 2 RX2 TX2 16 := ⟨rfl, fun w hw => by
  obtain ⟨k, hk, rfl⟩ := List.mem_map.mp hw
  have hk := List.mem_range.mp hk
  match k, hk with
  | 0, _ => exact l2_0
  | 1, _ => exact l2_1
  | 2, _ => exact l2_2
  | 3, _ => exact l2_3
  | 4, _ => exact l2_4
  | 5, _ => exact l2_5
  | 6, _ => exact l2_6
  | 7, _ => exact l2_7
  | 8, _ => exact l2_8
  | 9, _ => exact l2_9
  | 10, _ => exact l2_10
  | 11, _ => exact l2_11
  | 12, _ => exact l2_12
  | 13, _ => exact l2_13
  | 14, _ => exact l2_14
  | 15, _ => exact l2_15
  | k + 16, hk => exact absurd hk (by omega), nmX2, tyX2, tyX2_ok⟩
theorem l3_0 : u_lay RX3 TX3 0 ∈ zT := zin 137 (by decide +kernel) (by decide +kernel)
theorem l3_1 : u_lay RX3 TX3 1 ∈ zT := zin 139 (by decide +kernel) (by decide +kernel)
theorem l3_2 : u_lay RX3 TX3 2 ∈ zT := zin 141 (by decide +kernel) (by decide +kernel)
theorem l3_3 : u_lay RX3 TX3 3 ∈ zT := zin 143 (by decide +kernel) (by decide +kernel)
theorem l3_4 : u_lay RX3 TX3 4 ∈ zT := zin 145 (by decide +kernel) (by decide +kernel)
theorem l3_5 : u_lay RX3 TX3 5 ∈ zT := zin 147 (by decide +kernel) (by decide +kernel)
theorem l3_6 : u_lay RX3 TX3 6 ∈ zT := zin 149 (by decide +kernel) (by decide +kernel)
theorem l3_7 : u_lay RX3 TX3 7 ∈ zT := zin 151 (by decide +kernel) (by decide +kernel)
theorem l3_8 : u_lay RX3 TX3 8 ∈ zT := zin 153 (by decide +kernel) (by decide +kernel)
theorem cf3 : zCF 3 RX3 TX3 9 := ⟨rfl, fun w hw => by
  obtain ⟨k, hk, rfl⟩ := List.mem_map.mp hw
  have hk := List.mem_range.mp hk
  match k, hk with
  | 0, _ => exact l3_0
  | 1, _ => exact l3_1
  | 2, _ => exact l3_2
  | 3, _ => exact l3_3
  | 4, _ => exact l3_4
  | 5, _ => exact l3_5
  | 6, _ => exact l3_6
  | 7, _ => exact l3_7
  | 8, _ => exact l3_8
  | k + 9, hk => exact absurd hk (by omega), nmX3, tyX3, tyX3_ok⟩
theorem l4_0 : u_lay RX4 TX4 0 ∈ zT := zin 166 (by decide +kernel) (by decide +kernel)
theorem l4_1 : u_lay RX4 TX4 1 ∈ zT := zin 168 (by decide +kernel) (by decide +kernel)
theorem l4_2 : u_lay RX4 TX4 2 ∈ zT := zin 170 (by decide +kernel) (by decide +kernel)
theorem l4_3 : u_lay RX4 TX4 3 ∈ zT := zin 172 (by decide +kernel) (by decide +kernel)
theorem cf4 : zCF 4 RX4 TX4 4 := ⟨rfl, fun w hw => by
  obtain ⟨k, hk, rfl⟩ := List.mem_map.mp hw
  have hk := List.mem_range.mp hk
  match k, hk with
  | 0, _ => exact l4_0
  | 1, _ => exact l4_1
  | 2, _ => exact l4_2
  | 3, _ => exact l4_3
  | k + 4, hk => exact absurd hk (by omega), nmX4, tyX4, tyX4_ok⟩
theorem l5_0 : u_lay RX5 TX5 0 ∈ zT := zin 438 (by decide +kernel) (by decide +kernel)
theorem l5_1 : u_lay RX5 TX5 1 ∈ zT := zin 440 (by decide +kernel) (by decide +kernel)
theorem l5_2 : u_lay RX5 TX5 2 ∈ zT := zin 442 (by decide +kernel) (by decide +kernel)
theorem l5_3 : u_lay RX5 TX5 3 ∈ zT := zin 444 (by decide +kernel) (by decide +kernel)
theorem l5_4 : u_lay RX5 TX5 4 ∈ zT := zin 446 (by decide +kernel) (by decide +kernel)
theorem l5_5 : u_lay RX5 TX5 5 ∈ zT := zin 448 (by decide +kernel) (by decide +kernel)
theorem l5_6 : u_lay RX5 TX5 6 ∈ zT := zin 450 (by decide +kernel) (by decide +kernel)
theorem cf5 : zCF 5 RX5 TX5 7 := ⟨rfl, fun w hw => by
  obtain ⟨k, hk, rfl⟩ := List.mem_map.mp hw
  have hk := List.mem_range.mp hk
  match k, hk with
  | 0, _ => exact l5_0
  | 1, _ => exact l5_1
  | 2, _ => exact l5_2
  | 3, _ => exact l5_3
  | 4, _ => exact l5_4
  | 5, _ => exact l5_5
  | 6, _ => exact l5_6
  | k + 7, hk => exact absurd hk (by omega), nmX5, tyX5, tyX5_ok⟩
theorem l6_0 : u_lay RX6 TX6 0 ∈ zT := zin 85 (by decide +kernel) (by decide +kernel)
theorem l6_1 : u_lay RX6 TX6 1 ∈ zT := zin 87 (by decide +kernel) (by decide +kernel)
theorem l6_2 : u_lay RX6 TX6 2 ∈ zT := zin 89 (by decide +kernel) (by decide +kernel)
theorem l6_3 : u_lay RX6 TX6 3 ∈ zT := zin 91 (by decide +kernel) (by decide +kernel)
theorem l6_4 : u_lay RX6 TX6 4 ∈ zT := zin 93 (by decide +kernel) (by decide +kernel)
theorem cf6 : zCF 6 RX6 TX6 5 := ⟨rfl, fun w hw => by
  obtain ⟨k, hk, rfl⟩ := List.mem_map.mp hw
  have hk := List.mem_range.mp hk
  match k, hk with
  | 0, _ => exact l6_0
  | 1, _ => exact l6_1
  | 2, _ => exact l6_2
  | 3, _ => exact l6_3
  | 4, _ => exact l6_4
  | k + 5, hk => exact absurd hk (by omega), nmX6, tyX6, tyX6_ok⟩
theorem l7_0 : u_lay RX7 TX7 0 ∈ zT := zin 410 (by decide +kernel) (by decide +kernel)
theorem l7_1 : u_lay RX7 TX7 1 ∈ zT := zin 412 (by decide +kernel) (by decide +kernel)
theorem l7_2 : u_lay RX7 TX7 2 ∈ zT := zin 414 (by decide +kernel) (by decide +kernel)
theorem l7_3 : u_lay RX7 TX7 3 ∈ zT := zin 416 (by decide +kernel) (by decide +kernel)
theorem l7_4 : u_lay RX7 TX7 4 ∈ zT := zin 418 (by decide +kernel) (by decide +kernel)
theorem l7_5 : u_lay RX7 TX7 5 ∈ zT := zin 420 (by decide +kernel) (by decide +kernel)
theorem l7_6 : u_lay RX7 TX7 6 ∈ zT := zin 422 (by decide +kernel) (by decide +kernel)
theorem cf7 : zCF 7 RX7 TX7 7 := ⟨rfl, fun w hw => by
  obtain ⟨k, hk, rfl⟩ := List.mem_map.mp hw
  have hk := List.mem_range.mp hk
  match k, hk with
  | 0, _ => exact l7_0
  | 1, _ => exact l7_1
  | 2, _ => exact l7_2
  | 3, _ => exact l7_3
  | 4, _ => exact l7_4
  | 5, _ => exact l7_5
  | 6, _ => exact l7_6
  | k + 7, hk => exact absurd hk (by omega), nmX7, tyX7, tyX7_ok⟩
theorem l8_0 : u_lay RX8 TX8 0 ∈ zT := zin 209 (by decide +kernel) (by decide +kernel)
theorem l8_1 : u_lay RX8 TX8 1 ∈ zT := zin 211 (by decide +kernel) (by decide +kernel)
theorem l8_2 : u_lay RX8 TX8 2 ∈ zT := zin 213 (by decide +kernel) (by decide +kernel)
theorem l8_3 : u_lay RX8 TX8 3 ∈ zT := zin 215 (by decide +kernel) (by decide +kernel)
theorem l8_4 : u_lay RX8 TX8 4 ∈ zT := zin 217 (by decide +kernel) (by decide +kernel)
theorem l8_5 : u_lay RX8 TX8 5 ∈ zT := zin 219 (by decide +kernel) (by decide +kernel)
theorem l8_6 : u_lay RX8 TX8 6 ∈ zT := zin 221 (by decide +kernel) (by decide +kernel)
theorem l8_7 : u_lay RX8 TX8 7 ∈ zT := zin 223 (by decide +kernel) (by decide +kernel)
theorem l8_8 : u_lay RX8 TX8 8 ∈ zT := zin 225 (by decide +kernel) (by decide +kernel)
theorem cf8 : zCF 8 RX8 TX8 9 := ⟨rfl, fun w hw => by
  obtain ⟨k, hk, rfl⟩ := List.mem_map.mp hw
  have hk := List.mem_range.mp hk
  match k, hk with
  | 0, _ => exact l8_0
  | 1, _ => exact l8_1
  | 2, _ => exact l8_2
  | 3, _ => exact l8_3
  | 4, _ => exact l8_4
  | 5, _ => exact l8_5
  | 6, _ => exact l8_6
  | 7, _ => exact l8_7
  | 8, _ => exact l8_8
  | k + 9, hk => exact absurd hk (by omega), nmX8, tyX8, tyX8_ok⟩
theorem l9_0 : u_lay RX9 TX9 0 ∈ zT := zin 375 (by decide +kernel) (by decide +kernel)
theorem l9_1 : u_lay RX9 TX9 1 ∈ zT := zin 377 (by decide +kernel) (by decide +kernel)
theorem l9_2 : u_lay RX9 TX9 2 ∈ zT := zin 379 (by decide +kernel) (by decide +kernel)
theorem l9_3 : u_lay RX9 TX9 3 ∈ zT := zin 381 (by decide +kernel) (by decide +kernel)
theorem l9_4 : u_lay RX9 TX9 4 ∈ zT := zin 383 (by decide +kernel) (by decide +kernel)
theorem l9_5 : u_lay RX9 TX9 5 ∈ zT := zin 385 (by decide +kernel) (by decide +kernel)
theorem l9_6 : u_lay RX9 TX9 6 ∈ zT := zin 387 (by decide +kernel) (by decide +kernel)
theorem cf9 : zCF 9 RX9 TX9 7 := ⟨rfl, fun w hw => by
  obtain ⟨k, hk, rfl⟩ := List.mem_map.mp hw
  have hk := List.mem_range.mp hk
  match k, hk with
  | 0, _ => exact l9_0
  | 1, _ => exact l9_1
  | 2, _ => exact l9_2
  | 3, _ => exact l9_3
  | 4, _ => exact l9_4
  | 5, _ => exact l9_5
  | 6, _ => exact l9_6
  | k + 7, hk => exact absurd hk (by omega), nmX9, tyX9, tyX9_ok⟩
theorem l10_0 : u_lay RX10 TX10 0 ∈ zT := zin 238 (by decide +kernel) (by decide +kernel)
theorem l10_1 : u_lay RX10 TX10 1 ∈ zT := zin 240 (by decide +kernel) (by decide +kernel)
theorem l10_2 : u_lay RX10 TX10 2 ∈ zT := zin 242 (by decide +kernel) (by decide +kernel)
theorem cf10 : zCF 10 RX10 TX10 3 := ⟨rfl, fun w hw => by
  obtain ⟨k, hk, rfl⟩ := List.mem_map.mp hw
  have hk := List.mem_range.mp hk
  match k, hk with
  | 0, _ => exact l10_0
  | 1, _ => exact l10_1
  | 2, _ => exact l10_2
  | k + 3, hk => exact absurd hk (by omega), nmX10, tyX10, tyX10_ok⟩
theorem l11_0 : u_lay RX11 TX11 0 ∈ zT := zin 644 (by decide +kernel) (by decide +kernel)
theorem l11_1 : u_lay RX11 TX11 1 ∈ zT := zin 646 (by decide +kernel) (by decide +kernel)
theorem l11_2 : u_lay RX11 TX11 2 ∈ zT := zin 648 (by decide +kernel) (by decide +kernel)
theorem l11_3 : u_lay RX11 TX11 3 ∈ zT := zin 650 (by decide +kernel) (by decide +kernel)
theorem l11_4 : u_lay RX11 TX11 4 ∈ zT := zin 652 (by decide +kernel) (by decide +kernel)
theorem l11_5 : u_lay RX11 TX11 5 ∈ zT := zin 654 (by decide +kernel) (by decide +kernel)
theorem l11_6 : u_lay RX11 TX11 6 ∈ zT := zin 656 (by decide +kernel) (by decide +kernel)
theorem l11_7 : u_lay RX11 TX11 7 ∈ zT := zin 658 (by decide +kernel) (by decide +kernel)
theorem l11_8 : u_lay RX11 TX11 8 ∈ zT := zin 660 (by decide +kernel) (by decide +kernel)
theorem l11_9 : u_lay RX11 TX11 9 ∈ zT := zin 662 (by decide +kernel) (by decide +kernel)
theorem l11_10 : u_lay RX11 TX11 10 ∈ zT := zin 664 (by decide +kernel) (by decide +kernel)
theorem l11_11 : u_lay RX11 TX11 11 ∈ zT := zin 666 (by decide +kernel) (by decide +kernel)
theorem l11_12 : u_lay RX11 TX11 12 ∈ zT := zin 668 (by decide +kernel) (by decide +kernel)
theorem cf11 : zCF 11 RX11 TX11 13 := ⟨rfl, fun w hw => by
  obtain ⟨k, hk, rfl⟩ := List.mem_map.mp hw
  have hk := List.mem_range.mp hk
  match k, hk with
  | 0, _ => exact l11_0
  | 1, _ => exact l11_1
  | 2, _ => exact l11_2
  | 3, _ => exact l11_3
  | 4, _ => exact l11_4
  | 5, _ => exact l11_5
  | 6, _ => exact l11_6
  | 7, _ => exact l11_7
  | 8, _ => exact l11_8
  | 9, _ => exact l11_9
  | 10, _ => exact l11_10
  | 11, _ => exact l11_11
  | 12, _ => exact l11_12
  | k + 13, hk => exact absurd hk (by omega), nmX11, tyX11, tyX11_ok⟩
theorem g0_11 : zFL RX0 11 0 0 := ⟨RX0, TX0, 3, cf0, by decide, q350⟩
theorem g0_17 : zFL RX0 17 0 1 := ⟨RX0, TX0, 3, cf0, by decide, q351⟩
theorem p0_17 : zFP RX0 17 0 1 := ⟨RX0, TX0, 3, cf0, by decide, q351, rfl, rfl⟩
theorem g0_21 : zFL RX0 21 0 2 := ⟨RX0, TX0, 3, cf0, by decide, q352⟩
theorem p0_21 : zFP RX0 21 0 2 := ⟨RX0, TX0, 3, cf0, by decide, q352, rfl, rfl⟩
theorem g1_9 : zFL RX1 9 1 1 := ⟨RX1, TX1, 4, cf1, by decide, q327⟩
theorem p1_9 : zFP RX1 9 1 1 := ⟨RX1, TX1, 4, cf1, by decide, q327, rfl, rfl⟩
theorem g1_15 : zFL RX1 15 1 2 := ⟨RX1, TX1, 4, cf1, by decide, q329⟩
theorem p1_15 : zFP RX1 15 1 2 := ⟨RX1, TX1, 4, cf1, by decide, q329, rfl, rfl⟩
theorem g1_18 : zFL RX1 18 1 3 := ⟨RX1, TX1, 4, cf1, by decide, q331⟩
theorem p1_18 : zFP RX1 18 1 3 := ⟨RX1, TX1, 4, cf1, by decide, q331, rfl, rfl⟩
theorem g1_21 : zFL RX1 21 1 0 := ⟨RX1, TX1, 4, cf1, by decide, q326⟩
theorem g1_29 : zFL RX1 29 2 15 := ⟨RX2, TX2, 16, cf2, by decide, q286⟩
theorem p1_29 : zFP RX1 29 2 15 := ⟨RX2, TX2, 16, cf2, by decide, q286, rfl, rfl⟩
theorem g1_34 : zFL RX1 34 2 5 := ⟨RX2, TX2, 16, cf2, by decide, q260⟩
theorem g1_49 : zFL RX1 49 2 7 := ⟨RX2, TX2, 16, cf2, by decide, q266⟩
theorem g1_52 : zFL RX1 52 2 0 := ⟨RX2, TX2, 16, cf2, by decide, q246⟩
theorem g1_56 : zFL RX1 56 6 0 := ⟨RX6, TX6, 5, cf6, by decide, q69⟩
theorem g1_61 : zFL RX1 61 2 12 := ⟨RX2, TX2, 16, cf2, by decide, q280⟩
theorem p1_61 : zFP RX1 61 2 12 := ⟨RX2, TX2, 16, cf2, by decide, q280, rfl, rfl⟩
theorem g1_64 : zFL RX1 64 2 3 := ⟨RX2, TX2, 16, cf2, by decide, q254⟩
theorem g1_68 : zFL RX1 68 8 1 := ⟨RX8, TX8, 9, cf8, by decide, q186⟩
theorem g1_73 : zFL RX1 73 2 13 := ⟨RX2, TX2, 16, cf2, by decide, q282⟩
theorem p1_73 : zFP RX1 73 2 13 := ⟨RX2, TX2, 16, cf2, by decide, q282, rfl, rfl⟩
theorem g1_79 : zFL RX1 79 2 2 := ⟨RX2, TX2, 16, cf2, by decide, q251⟩
theorem g1_89 : zFL RX1 89 2 8 := ⟨RX2, TX2, 16, cf2, by decide, q269⟩
theorem g1_92 : zFL RX1 92 2 14 := ⟨RX2, TX2, 16, cf2, by decide, q284⟩
theorem p1_92 : zFP RX1 92 2 14 := ⟨RX2, TX2, 16, cf2, by decide, q284, rfl, rfl⟩
theorem g1_98 : zFL RX1 98 2 10 := ⟨RX2, TX2, 16, cf2, by decide, q275⟩
theorem p1_98 : zFP RX1 98 2 10 := ⟨RX2, TX2, 16, cf2, by decide, q275, rfl, rfl⟩
theorem g1_117 : zFL RX1 117 2 6 := ⟨RX2, TX2, 16, cf2, by decide, q263⟩
theorem g1_123 : zFL RX1 123 2 9 := ⟨RX2, TX2, 16, cf2, by decide, q272⟩
theorem p1_123 : zFP RX1 123 2 9 := ⟨RX2, TX2, 16, cf2, by decide, q272, rfl, rfl⟩
theorem g1_129 : zFL RX1 129 2 4 := ⟨RX2, TX2, 16, cf2, by decide, q257⟩
theorem g1_143 : zFL RX1 143 8 2 := ⟨RX8, TX8, 9, cf8, by decide, q190⟩
theorem g1_149 : zFL RX1 149 8 0 := ⟨RX8, TX8, 9, cf8, by decide, q183⟩
theorem g1_152 : zFL RX1 152 6 2 := ⟨RX6, TX6, 5, cf6, by decide, q75⟩
theorem g1_162 : zFL RX1 162 2 1 := ⟨RX2, TX2, 16, cf2, by decide, q249⟩
theorem g1_169 : zFL RX1 169 3 3 := ⟨RX3, TX3, 9, cf3, by decide, q120⟩
theorem g1_175 : zFL RX1 175 8 3 := ⟨RX8, TX8, 9, cf8, by decide, q193⟩
theorem g1_178 : zFL RX1 178 8 6 := ⟨RX8, TX8, 9, cf8, by decide, q203⟩
theorem g1_187 : zFL RX1 187 6 3 := ⟨RX6, TX6, 5, cf6, by decide, q79⟩
theorem g1_190 : zFL RX1 190 8 5 := ⟨RX8, TX8, 9, cf8, by decide, q200⟩
theorem g1_193 : zFL RX1 193 8 4 := ⟨RX8, TX8, 9, cf8, by decide, q196⟩
theorem g2_12 : zFL RX2 12 2 1 := ⟨RX2, TX2, 16, cf2, by decide, q247⟩
theorem g2_21 : zFL RX2 21 2 2 := ⟨RX2, TX2, 16, cf2, by decide, q250⟩
theorem g2_28 : zFL RX2 28 2 3 := ⟨RX2, TX2, 16, cf2, by decide, q253⟩
theorem g2_35 : zFL RX2 35 2 4 := ⟨RX2, TX2, 16, cf2, by decide, q256⟩
theorem g2_39 : zFL RX2 39 2 5 := ⟨RX2, TX2, 16, cf2, by decide, q259⟩
theorem g2_43 : zFL RX2 43 2 6 := ⟨RX2, TX2, 16, cf2, by decide, q262⟩
theorem g2_46 : zFL RX2 46 2 7 := ⟨RX2, TX2, 16, cf2, by decide, q265⟩
theorem g2_49 : zFL RX2 49 2 8 := ⟨RX2, TX2, 16, cf2, by decide, q268⟩
theorem p2_49 : zFP RX2 49 2 8 := ⟨RX2, TX2, 16, cf2, by decide, q268, rfl, rfl⟩
theorem g2_53 : zFL RX2 53 2 9 := ⟨RX2, TX2, 16, cf2, by decide, q271⟩
theorem p2_53 : zFP RX2 53 2 9 := ⟨RX2, TX2, 16, cf2, by decide, q271, rfl, rfl⟩
theorem g2_56 : zFL RX2 56 2 10 := ⟨RX2, TX2, 16, cf2, by decide, q274⟩
theorem p2_56 : zFP RX2 56 2 10 := ⟨RX2, TX2, 16, cf2, by decide, q274, rfl, rfl⟩
theorem g2_59 : zFL RX2 59 2 11 := ⟨RX2, TX2, 16, cf2, by decide, q277⟩
theorem p2_59 : zFP RX2 59 2 11 := ⟨RX2, TX2, 16, cf2, by decide, q277, rfl, rfl⟩
theorem g2_62 : zFL RX2 62 2 12 := ⟨RX2, TX2, 16, cf2, by decide, q279⟩
theorem p2_62 : zFP RX2 62 2 12 := ⟨RX2, TX2, 16, cf2, by decide, q279, rfl, rfl⟩
theorem g2_65 : zFL RX2 65 2 13 := ⟨RX2, TX2, 16, cf2, by decide, q281⟩
theorem p2_65 : zFP RX2 65 2 13 := ⟨RX2, TX2, 16, cf2, by decide, q281, rfl, rfl⟩
theorem g2_68 : zFL RX2 68 2 14 := ⟨RX2, TX2, 16, cf2, by decide, q283⟩
theorem p2_68 : zFP RX2 68 2 14 := ⟨RX2, TX2, 16, cf2, by decide, q283, rfl, rfl⟩
theorem g2_71 : zFL RX2 71 2 15 := ⟨RX2, TX2, 16, cf2, by decide, q285⟩
theorem p2_71 : zFP RX2 71 2 15 := ⟨RX2, TX2, 16, cf2, by decide, q285, rfl, rfl⟩
theorem g2_74 : zFL RX2 74 2 0 := ⟨RX2, TX2, 16, cf2, by decide, q245⟩
theorem g2_78 : zFL RX2 78 3 0 := ⟨RX3, TX3, 9, cf3, by decide, q110⟩
theorem p2_78 : zFP RX2 78 3 0 := ⟨RX3, TX3, 9, cf3, by decide, q110, rfl, rfl⟩
theorem g2_86 : zFL RX2 86 7 2 := ⟨RX7, TX7, 7, cf7, by decide, q402⟩
theorem g2_95 : zFL RX2 95 7 3 := ⟨RX7, TX7, 7, cf7, by decide, q404⟩
theorem g2_96 : zFL RX2 96 7 4 := ⟨RX7, TX7, 7, cf7, by decide, q406⟩
theorem g2_97 : zFL RX2 97 7 5 := ⟨RX7, TX7, 7, cf7, by decide, q408⟩
theorem g2_115 : zFL RX2 115 6 0 := ⟨RX6, TX6, 5, cf6, by decide, q71⟩
theorem g2_122 : zFL RX2 122 8 1 := ⟨RX8, TX8, 9, cf8, by decide, q187⟩
theorem g2_125 : zFL RX2 125 8 0 := ⟨RX8, TX8, 9, cf8, by decide, q182⟩
theorem g2_131 : zFL RX2 131 3 1 := ⟨RX3, TX3, 9, cf3, by decide, q113⟩
theorem g2_134 : zFL RX2 134 3 2 := ⟨RX3, TX3, 9, cf3, by decide, q116⟩
theorem g2_137 : zFL RX2 137 3 3 := ⟨RX3, TX3, 9, cf3, by decide, q119⟩
theorem g2_140 : zFL RX2 140 3 5 := ⟨RX3, TX3, 9, cf3, by decide, q126⟩
theorem g2_143 : zFL RX2 143 3 6 := ⟨RX3, TX3, 9, cf3, by decide, q129⟩
theorem g2_146 : zFL RX2 146 3 7 := ⟨RX3, TX3, 9, cf3, by decide, q132⟩
theorem g2_149 : zFL RX2 149 3 8 := ⟨RX3, TX3, 9, cf3, by decide, q135⟩
theorem g2_152 : zFL RX2 152 3 4 := ⟨RX3, TX3, 9, cf3, by decide, q123⟩
theorem g2_160 : zFL RX2 160 8 6 := ⟨RX8, TX8, 9, cf8, by decide, q205⟩
theorem g2_163 : zFL RX2 163 8 4 := ⟨RX8, TX8, 9, cf8, by decide, q198⟩
theorem g2_170 : zFL RX2 170 8 7 := ⟨RX8, TX8, 9, cf8, by decide, q207⟩
theorem g2_176 : zFL RX2 176 6 4 := ⟨RX6, TX6, 5, cf6, by decide, q84⟩
theorem g3_9 : zFL RX3 9 3 0 := ⟨RX3, TX3, 9, cf3, by decide, q109⟩
theorem p3_9 : zFP RX3 9 3 0 := ⟨RX3, TX3, 9, cf3, by decide, q109, rfl, rfl⟩
theorem g3_15 : zFL RX3 15 3 1 := ⟨RX3, TX3, 9, cf3, by decide, q112⟩
theorem g3_19 : zFL RX3 19 3 2 := ⟨RX3, TX3, 9, cf3, by decide, q115⟩
theorem g3_22 : zFL RX3 22 3 3 := ⟨RX3, TX3, 9, cf3, by decide, q118⟩
theorem g3_25 : zFL RX3 25 3 4 := ⟨RX3, TX3, 9, cf3, by decide, q122⟩
theorem g3_28 : zFL RX3 28 3 5 := ⟨RX3, TX3, 9, cf3, by decide, q125⟩
theorem g3_31 : zFL RX3 31 3 6 := ⟨RX3, TX3, 9, cf3, by decide, q128⟩
theorem g3_34 : zFL RX3 34 3 7 := ⟨RX3, TX3, 9, cf3, by decide, q131⟩
theorem g3_37 : zFL RX3 37 3 8 := ⟨RX3, TX3, 9, cf3, by decide, q134⟩
theorem g4_11 : zFL RX4 11 4 0 := ⟨RX4, TX4, 4, cf4, by decide, q162⟩
theorem g4_15 : zFL RX4 15 4 1 := ⟨RX4, TX4, 4, cf4, by decide, q163⟩
theorem g4_18 : zFL RX4 18 4 2 := ⟨RX4, TX4, 4, cf4, by decide, q164⟩
theorem g4_21 : zFL RX4 21 4 3 := ⟨RX4, TX4, 4, cf4, by decide, q165⟩
theorem g5_9 : zFL RX5 9 5 2 := ⟨RX5, TX5, 7, cf5, by decide, q433⟩
theorem g5_15 : zFL RX5 15 5 3 := ⟨RX5, TX5, 7, cf5, by decide, q434⟩
theorem g5_18 : zFL RX5 18 5 4 := ⟨RX5, TX5, 7, cf5, by decide, q435⟩
theorem g5_21 : zFL RX5 21 5 5 := ⟨RX5, TX5, 7, cf5, by decide, q436⟩
theorem p5_24 : zFP RX5 24 5 6 := ⟨RX5, TX5, 7, cf5, by decide, q437, rfl, rfl⟩
theorem g5_28 : zFL RX5 28 5 0 := ⟨RX5, TX5, 7, cf5, by decide, q431⟩
theorem g5_32 : zFL RX5 32 5 1 := ⟨RX5, TX5, 7, cf5, by decide, q432⟩
theorem g6_9 : zFL RX6 9 6 0 := ⟨RX6, TX6, 5, cf6, by decide, q67⟩
theorem p6_9 : zFP RX6 9 6 0 := ⟨RX6, TX6, 5, cf6, by decide, q67, rfl, rfl⟩
theorem g6_15 : zFL RX6 15 6 1 := ⟨RX6, TX6, 5, cf6, by decide, q72⟩
theorem g6_19 : zFL RX6 19 6 2 := ⟨RX6, TX6, 5, cf6, by decide, q73⟩
theorem g6_22 : zFL RX6 22 6 3 := ⟨RX6, TX6, 5, cf6, by decide, q77⟩
theorem g6_25 : zFL RX6 25 6 4 := ⟨RX6, TX6, 5, cf6, by decide, q81⟩
theorem g7_12 : zFL RX7 12 7 1 := ⟨RX7, TX7, 7, cf7, by decide, q399⟩
theorem g7_18 : zFL RX7 18 7 2 := ⟨RX7, TX7, 7, cf7, by decide, q401⟩
theorem g7_22 : zFL RX7 22 7 3 := ⟨RX7, TX7, 7, cf7, by decide, q403⟩
theorem g7_25 : zFL RX7 25 7 4 := ⟨RX7, TX7, 7, cf7, by decide, q405⟩
theorem p7_25 : zFP RX7 25 7 4 := ⟨RX7, TX7, 7, cf7, by decide, q405, rfl, rfl⟩
theorem p7_29 : zFP RX7 29 7 5 := ⟨RX7, TX7, 7, cf7, by decide, q407, rfl, rfl⟩
theorem g7_32 : zFL RX7 32 7 6 := ⟨RX7, TX7, 7, cf7, by decide, q409⟩
theorem p7_32 : zFP RX7 32 7 6 := ⟨RX7, TX7, 7, cf7, by decide, q409, rfl, rfl⟩
theorem g7_35 : zFL RX7 35 7 0 := ⟨RX7, TX7, 7, cf7, by decide, q398⟩
theorem g7_39 : zFL RX7 39 6 0 := ⟨RX6, TX6, 5, cf6, by decide, q68⟩
theorem p7_39 : zFP RX7 39 6 0 := ⟨RX6, TX6, 5, cf6, by decide, q68, rfl, rfl⟩
theorem g7_116 : zFL RX7 116 6 2 := ⟨RX6, TX6, 5, cf6, by decide, q74⟩
theorem g7_125 : zFL RX7 125 6 3 := ⟨RX6, TX6, 5, cf6, by decide, q78⟩
theorem g7_130 : zFL RX7 130 6 4 := ⟨RX6, TX6, 5, cf6, by decide, q82⟩
theorem g8_9 : zFL RX8 9 8 0 := ⟨RX8, TX8, 9, cf8, by decide, q181⟩
theorem g8_15 : zFL RX8 15 8 1 := ⟨RX8, TX8, 9, cf8, by decide, q185⟩
theorem g8_18 : zFL RX8 18 8 2 := ⟨RX8, TX8, 9, cf8, by decide, q189⟩
theorem g8_21 : zFL RX8 21 8 3 := ⟨RX8, TX8, 9, cf8, by decide, q192⟩
theorem g8_24 : zFL RX8 24 8 4 := ⟨RX8, TX8, 9, cf8, by decide, q195⟩
theorem g8_27 : zFL RX8 27 8 5 := ⟨RX8, TX8, 9, cf8, by decide, q199⟩
theorem g8_30 : zFL RX8 30 8 6 := ⟨RX8, TX8, 9, cf8, by decide, q202⟩
theorem g8_33 : zFL RX8 33 8 7 := ⟨RX8, TX8, 9, cf8, by decide, q206⟩
theorem g8_36 : zFL RX8 36 8 8 := ⟨RX8, TX8, 9, cf8, by decide, q208⟩
theorem g9_9 : zFL RX9 9 9 0 := ⟨RX9, TX9, 7, cf9, by decide, q367⟩
theorem g9_15 : zFL RX9 15 9 1 := ⟨RX9, TX9, 7, cf9, by decide, q368⟩
theorem p9_15 : zFP RX9 15 9 1 := ⟨RX9, TX9, 7, cf9, by decide, q368, rfl, rfl⟩
theorem g9_19 : zFL RX9 19 9 2 := ⟨RX9, TX9, 7, cf9, by decide, q370⟩
theorem p9_19 : zFP RX9 19 9 2 := ⟨RX9, TX9, 7, cf9, by decide, q370, rfl, rfl⟩
theorem g9_22 : zFL RX9 22 9 3 := ⟨RX9, TX9, 7, cf9, by decide, q371⟩
theorem p9_22 : zFP RX9 22 9 3 := ⟨RX9, TX9, 7, cf9, by decide, q371, rfl, rfl⟩
theorem g9_25 : zFL RX9 25 9 4 := ⟨RX9, TX9, 7, cf9, by decide, q372⟩
theorem p9_25 : zFP RX9 25 9 4 := ⟨RX9, TX9, 7, cf9, by decide, q372, rfl, rfl⟩
theorem p9_28 : zFP RX9 28 9 5 := ⟨RX9, TX9, 7, cf9, by decide, q373, rfl, rfl⟩
theorem p9_31 : zFP RX9 31 9 6 := ⟨RX9, TX9, 7, cf9, by decide, q374, rfl, rfl⟩
theorem g10_9 : zFL RX10 9 10 0 := ⟨RX10, TX10, 3, cf10, by decide, q234⟩
theorem p10_9 : zFP RX10 9 10 0 := ⟨RX10, TX10, 3, cf10, by decide, q234, rfl, rfl⟩
theorem g10_15 : zFL RX10 15 10 1 := ⟨RX10, TX10, 3, cf10, by decide, q236⟩
theorem p10_15 : zFP RX10 15 10 1 := ⟨RX10, TX10, 3, cf10, by decide, q236, rfl, rfl⟩
theorem g10_18 : zFL RX10 18 10 2 := ⟨RX10, TX10, 3, cf10, by decide, q237⟩
theorem g11_10 : zFL RX11 10 11 0 := ⟨RX11, TX11, 13, cf11, by decide, q631⟩
theorem g11_21 : zFL RX11 21 11 1 := ⟨RX11, TX11, 13, cf11, by decide, q632⟩
theorem g11_30 : zFL RX11 30 11 2 := ⟨RX11, TX11, 13, cf11, by decide, q633⟩
theorem g11_34 : zFL RX11 34 11 3 := ⟨RX11, TX11, 13, cf11, by decide, q634⟩
theorem g11_37 : zFL RX11 37 11 4 := ⟨RX11, TX11, 13, cf11, by decide, q635⟩
theorem g11_40 : zFL RX11 40 11 5 := ⟨RX11, TX11, 13, cf11, by decide, q636⟩
theorem g11_46 : zFL RX11 46 11 6 := ⟨RX11, TX11, 13, cf11, by decide, q637⟩
theorem g11_53 : zFL RX11 53 11 7 := ⟨RX11, TX11, 13, cf11, by decide, q638⟩
theorem g11_62 : zFL RX11 62 11 8 := ⟨RX11, TX11, 13, cf11, by decide, q639⟩
theorem g11_71 : zFL RX11 71 11 9 := ⟨RX11, TX11, 13, cf11, by decide, q640⟩
theorem g11_75 : zFL RX11 75 11 10 := ⟨RX11, TX11, 13, cf11, by decide, q641⟩
theorem p11_79 : zFP RX11 79 11 11 := ⟨RX11, TX11, 13, cf11, by decide, q642, rfl, rfl⟩
theorem g11_83 : zFL RX11 83 11 12 := ⟨RX11, TX11, 13, cf11, by decide, q643⟩
theorem p11_83 : zFZ RX11 83 11 12 := ⟨RX11, TX11, 13, cf11, by decide, q643, rfl, rfl⟩
theorem g11_110 : zFL RX11 110 9 1 := ⟨RX9, TX9, 7, cf9, by decide, q369⟩
theorem p11_110 : zFP RX11 110 9 1 := ⟨RX9, TX9, 7, cf9, by decide, q369, rfl, rfl⟩
theorem g11_115 : zFL RX11 115 6 0 := ⟨RX6, TX6, 5, cf6, by decide, q70⟩
theorem g11_118 : zFL RX11 118 7 1 := ⟨RX7, TX7, 7, cf7, by decide, q400⟩
theorem g11_128 : zFL RX11 128 0 2 := ⟨RX0, TX0, 3, cf0, by decide, q353⟩
theorem p11_128 : zFP RX11 128 0 2 := ⟨RX0, TX0, 3, cf0, by decide, q353, rfl, rfl⟩
theorem g11_144 : zFL RX11 144 2 1 := ⟨RX2, TX2, 16, cf2, by decide, q248⟩
theorem g11_167 : zFL RX11 167 2 10 := ⟨RX2, TX2, 16, cf2, by decide, q276⟩
theorem g11_173 : zFL RX11 173 2 8 := ⟨RX2, TX2, 16, cf2, by decide, q270⟩
theorem g11_188 : zFL RX11 188 3 0 := ⟨RX3, TX3, 9, cf3, by decide, q111⟩
theorem g11_189 : zFL RX11 189 2 9 := ⟨RX2, TX2, 16, cf2, by decide, q273⟩
theorem g11_192 : zFL RX11 192 2 11 := ⟨RX2, TX2, 16, cf2, by decide, q278⟩
theorem g11_199 : zFL RX11 199 2 3 := ⟨RX2, TX2, 16, cf2, by decide, q255⟩
theorem g11_203 : zFL RX11 203 8 1 := ⟨RX8, TX8, 9, cf8, by decide, q188⟩
theorem g11_212 : zFL RX11 212 8 0 := ⟨RX8, TX8, 9, cf8, by decide, q184⟩
theorem g11_218 : zFL RX11 218 2 6 := ⟨RX2, TX2, 16, cf2, by decide, q264⟩
theorem g11_221 : zFL RX11 221 2 5 := ⟨RX2, TX2, 16, cf2, by decide, q261⟩
theorem g11_230 : zFL RX11 230 6 2 := ⟨RX6, TX6, 5, cf6, by decide, q76⟩
theorem g11_233 : zFL RX11 233 6 3 := ⟨RX6, TX6, 5, cf6, by decide, q80⟩
theorem g11_236 : zFL RX11 236 6 4 := ⟨RX6, TX6, 5, cf6, by decide, q83⟩
theorem g11_239 : zFL RX11 239 8 2 := ⟨RX8, TX8, 9, cf8, by decide, q191⟩
theorem g11_242 : zFL RX11 242 2 2 := ⟨RX2, TX2, 16, cf2, by decide, q252⟩
theorem g11_254 : zFL RX11 254 8 3 := ⟨RX8, TX8, 9, cf8, by decide, q194⟩
theorem g11_257 : zFL RX11 257 8 4 := ⟨RX8, TX8, 9, cf8, by decide, q197⟩
theorem g11_260 : zFL RX11 260 8 5 := ⟨RX8, TX8, 9, cf8, by decide, q201⟩
theorem g11_263 : zFL RX11 263 8 6 := ⟨RX8, TX8, 9, cf8, by decide, q204⟩
theorem g11_270 : zFL RX11 270 3 1 := ⟨RX3, TX3, 9, cf3, by decide, q114⟩
theorem g11_273 : zFL RX11 273 3 2 := ⟨RX3, TX3, 9, cf3, by decide, q117⟩
theorem g11_276 : zFL RX11 276 3 3 := ⟨RX3, TX3, 9, cf3, by decide, q121⟩
theorem g11_279 : zFL RX11 279 3 4 := ⟨RX3, TX3, 9, cf3, by decide, q124⟩
theorem g11_282 : zFL RX11 282 3 5 := ⟨RX3, TX3, 9, cf3, by decide, q127⟩
theorem g11_285 : zFL RX11 285 3 6 := ⟨RX3, TX3, 9, cf3, by decide, q130⟩
theorem g11_288 : zFL RX11 288 3 7 := ⟨RX3, TX3, 9, cf3, by decide, q133⟩
theorem g11_291 : zFL RX11 291 3 8 := ⟨RX3, TX3, 9, cf3, by decide, q136⟩
theorem g11_300 : zFL RX11 300 2 7 := ⟨RX2, TX2, 16, cf2, by decide, q267⟩
theorem g11_303 : zFL RX11 303 2 4 := ⟨RX2, TX2, 16, cf2, by decide, q258⟩
theorem g11_307 : zFL RX11 307 10 0 := ⟨RX10, TX10, 3, cf10, by decide, q235⟩
theorem g11_316 : zFL RX11 316 1 1 := ⟨RX1, TX1, 4, cf1, by decide, q328⟩
theorem g11_319 : zFL RX11 319 1 2 := ⟨RX1, TX1, 4, cf1, by decide, q330⟩
theorem ac2_89 : Cond.methodLink RX2 89 arraycopyName ∈ zT ∧ Cond.native arraycopyName ∈ zT ∧ Cond.static arraycopyName ∈ zT ∧ Cond.initialized "java/lang/System" ∈ zT := ⟨q630, q514, q513, q38⟩
theorem ac3_40 : Cond.methodLink RX3 40 arraycopyName ∈ zT ∧ Cond.native arraycopyName ∈ zT ∧ Cond.static arraycopyName ∈ zT ∧ Cond.initialized "java/lang/System" ∈ zT := ⟨q783, q514, q513, q38⟩
theorem ac4_34 : Cond.methodLink RX4 34 arraycopyName ∈ zT ∧ Cond.native arraycopyName ∈ zT ∧ Cond.static arraycopyName ∈ zT ∧ Cond.initialized "java/lang/System" ∈ zT := ⟨q788, q514, q513, q38⟩
theorem ac6_32 : Cond.methodLink RX6 32 arraycopyName ∈ zT ∧ Cond.native arraycopyName ∈ zT ∧ Cond.static arraycopyName ∈ zT ∧ Cond.initialized "java/lang/System" ∈ zT := ⟨q613, q514, q513, q38⟩
theorem ac7_45 : Cond.methodLink RX7 45 arraycopyName ∈ zT ∧ Cond.native arraycopyName ∈ zT ∧ Cond.static arraycopyName ∈ zT ∧ Cond.initialized "java/lang/System" ∈ zT := ⟨q512, q514, q513, q38⟩
theorem ac8_39 : Cond.methodLink RX8 39 arraycopyName ∈ zT ∧ Cond.native arraycopyName ∈ zT ∧ Cond.static arraycopyName ∈ zT ∧ Cond.initialized "java/lang/System" ∈ zT := ⟨q793, q514, q513, q38⟩
theorem ac10_22 : Cond.methodLink RX10 22 arraycopyName ∈ zT ∧ Cond.native arraycopyName ∈ zT ∧ Cond.static arraycopyName ∈ zT ∧ Cond.initialized "java/lang/System" ∈ zT := ⟨q798, q514, q513, q38⟩
theorem m0_27 : zMV RX0 27 RX2 yX2_copyFrom cX2_copyFrom 2 (Option.none : Option FieldType) 1 := ⟨q932, q776, q777, q24, q778, rfl, ⟨by decide +kernel, by decide +kernel⟩, by decide +kernel⟩
theorem m1_25 : zMV RX1 25 RX1 yX1_nextToTest cX1_nextToTest 6 (Option.some FieldType.int) 1 := ⟨q811, q813, q10, q29, q814, rfl, ⟨by decide +kernel, by decide +kernel⟩, by decide +kernel⟩
theorem m1_38 : zMV RX1 38 RX1 yX1_nextToSelect cX1_nextToSelect 4 (Option.some FieldType.int) 0 := ⟨q815, q817, q11, q29, q818, rfl, ⟨by decide +kernel, by decide +kernel⟩, by decide +kernel⟩
theorem m1_42 : zMV RX1 42 RX1 yX1_nextPlace cX1_nextPlace 5 (Option.some FieldType.int) 0 := ⟨q831, q833, q12, q29, q834, rfl, ⟨by decide +kernel, by decide +kernel⟩, by decide +kernel⟩
theorem m1_45 : zMV RX1 45 RX2 yX2_hasPlace cX2_hasPlace 2 (Option.some FieldType.boolean) 1 := ⟨q835, q836, q837, q24, q838, rfl, ⟨by decide +kernel, by decide +kernel⟩, by decide +kernel⟩
theorem m1_76 : zMV RX1 76 RX2 yX2_isOn cX2_isOn 2 (Option.some FieldType.boolean) 1 := ⟨q819, q820, q821, q24, q822, rfl, ⟨by decide +kernel, by decide +kernel⟩, by decide +kernel⟩
theorem m1_83 : zMV RX1 83 RX4 yX4_sizeOf cX4_sizeOf 4 (Option.some FieldType.int) 2 := ⟨q827, q828, q829, q26, q830, rfl, ⟨by decide +kernel, by decide +kernel⟩, by decide +kernel⟩
theorem m1_95 : zMV RX1 95 RX1 yX1_makeTurn cX1_makeTurn 4 (Option.none : Option FieldType) 0 := ⟨q803, q804, q805, q29, q806, rfl, ⟨by decide +kernel, by decide +kernel⟩, by decide +kernel⟩
theorem m1_101 : zMV RX1 101 RX1 yX1_choose cX1_choose 2 (Option.none : Option FieldType) 1 := ⟨q807, q808, q809, q29, q810, rfl, ⟨by decide +kernel, by decide +kernel⟩, by decide +kernel⟩
theorem m1_105 : zMV RX1 105 RX6 yX6_has cX6_has 2 (Option.some FieldType.boolean) 1 := ⟨q839, q824, q825, q23, q826, rfl, ⟨by decide +kernel, by decide +kernel⟩, by decide +kernel⟩
theorem m1_108 : zMV RX1 108 RX1 yX1_noteBeginning cX1_noteBeginning 1 (Option.none : Option FieldType) 0 := ⟨q840, q842, q13, q29, q843, rfl, ⟨by decide +kernel, by decide +kernel⟩, by decide +kernel⟩
theorem m1_111 : zMV RX1 111 RX1 yX1_trySelect cX1_trySelect 4 (Option.some FieldType.int) 0 := ⟨q848, q850, q14, q29, q851, rfl, ⟨by decide +kernel, by decide +kernel⟩, by decide +kernel⟩
theorem m1_114 : zMV RX1 114 RX1 yX1_tryPoll cX1_tryPoll 4 (Option.some FieldType.int) 0 := ⟨q894, q896, q18, q29, q897, rfl, ⟨by decide +kernel, by decide +kernel⟩, by decide +kernel⟩
theorem m1_120 : zMV RX1 120 RX1 yX1_noteEnd cX1_noteEnd 3 (Option.none : Option FieldType) 1 := ⟨q902, q904, q19, q29, q905, rfl, ⟨by decide +kernel, by decide +kernel⟩, by decide +kernel⟩
theorem m1_126 : zMV RX1 126 RX2 yX2_deliverDue cX2_deliverDue 5 (Option.none : Option FieldType) 1 := ⟨q866, q867, q868, q24, q869, rfl, ⟨by decide +kernel, by decide +kernel⟩, by decide +kernel⟩
theorem m1_133 : zMV RX1 133 RX10 yX10_add cX10_add 7 (Option.none : Option FieldType) 5 := ⟨q906, q907, q908, q28, q909, rfl, ⟨by decide +kernel, by decide +kernel⟩, by decide +kernel⟩
theorem m1_139 : zMV RX1 139 RX8 yX8_countOften cX8_countOften 4 (Option.none : Option FieldType) 2 := ⟨q844, q845, q846, q27, q847, rfl, ⟨by decide +kernel, by decide +kernel⟩, by decide +kernel⟩
theorem m1_146 : zMV RX1 146 RX2 yX2_send cX2_send 2 (Option.some FieldType.boolean) 1 := ⟨q861, q862, q863, q24, q864, rfl, ⟨by decide +kernel, by decide +kernel⟩, by decide +kernel⟩
theorem m1_155 : zMV RX1 155 RX1 yX1_call cX1_call 3 (Option.some FieldType.boolean) 0 := ⟨q857, q859, q15, q29, q860, rfl, ⟨by decide +kernel, by decide +kernel⟩, by decide +kernel⟩
theorem m1_159 : zMV RX1 159 RX4 yX4_firstOf cX4_firstOf 4 (Option.some FieldType.int) 2 := ⟨q852, q853, q854, q26, q855, rfl, ⟨by decide +kernel, by decide +kernel⟩, by decide +kernel⟩
theorem m1_166 : zMV RX1 166 RX3 yX3_has cX3_has 2 (Option.some FieldType.boolean) 1 := ⟨q856, q753, q754, q25, q755, rfl, ⟨by decide +kernel, by decide +kernel⟩, by decide +kernel⟩
theorem m1_172 : zMV RX1 172 RX1 yX1_sendNegativeAnswer cX1_sendNegativeAnswer 1 (Option.none : Option FieldType) 0 := ⟨q880, q882, q17, q29, q883, rfl, ⟨by decide +kernel, by decide +kernel⟩, by decide +kernel⟩
theorem m1_181 : zMV RX1 181 RX2 yX2_takeAtHost cX2_takeAtHost 4 (Option.none : Option FieldType) 2 := ⟨q898, q899, q900, q24, q901, rfl, ⟨by decide +kernel, by decide +kernel⟩, by decide +kernel⟩
theorem m1_184 : zMV RX1 184 RX4 yX4_removeFirst cX4_removeFirst 4 (Option.none : Option FieldType) 2 := ⟨q893, q873, q874, q26, q875, rfl, ⟨by decide +kernel, by decide +kernel⟩, by decide +kernel⟩
theorem m1_196 : zMV RX1 196 RX2 yX2_takeAtTerminal cX2_takeAtTerminal 3 (Option.none : Option FieldType) 2 := ⟨q884, q885, q886, q24, q887, rfl, ⟨by decide +kernel, by decide +kernel⟩, by decide +kernel⟩
theorem m2_81 : zMV RX2 81 RX4 yX4_clear cX4_clear 2 (Option.none : Option FieldType) 0 := ⟨q618, q619, q620, q26, q621, rfl, ⟨by decide +kernel, by decide +kernel⟩, by decide +kernel⟩
theorem m2_84 : zMV RX2 84 RX8 yX8_clear cX8_clear 2 (Option.none : Option FieldType) 0 := ⟨q622, q623, q624, q27, q625, rfl, ⟨by decide +kernel, by decide +kernel⟩, by decide +kernel⟩
theorem m2_85 : zMV RX2 85 RX10 yX10_clear cX10_clear 1 (Option.none : Option FieldType) 0 := ⟨q626, q627, q628, q28, q629, rfl, ⟨by decide +kernel, by decide +kernel⟩, by decide +kernel⟩
theorem m2_98 : zMV RX2 98 RX3 yX3_copyFrom cX3_copyFrom 2 (Option.none : Option FieldType) 1 := ⟨q779, q780, q781, q25, q782, rfl, ⟨by decide +kernel, by decide +kernel⟩, by decide +kernel⟩
theorem m2_102 : zMV RX2 102 RX4 yX4_copyFrom cX4_copyFrom 2 (Option.none : Option FieldType) 1 := ⟨q784, q785, q786, q26, q787, rfl, ⟨by decide +kernel, by decide +kernel⟩, by decide +kernel⟩
theorem m2_105 : zMV RX2 105 RX8 yX8_copyFrom cX8_copyFrom 2 (Option.none : Option FieldType) 1 := ⟨q789, q790, q791, q27, q792, rfl, ⟨by decide +kernel, by decide +kernel⟩, by decide +kernel⟩
theorem m2_108 : zMV RX2 108 RX10 yX10_copyFrom cX10_copyFrom 2 (Option.none : Option FieldType) 1 := ⟨q794, q795, q796, q28, q797, rfl, ⟨by decide +kernel, by decide +kernel⟩, by decide +kernel⟩
theorem m2_111 : zMV RX2 111 RX3 yX3_countIn cX3_countIn 4 (Option.some FieldType.int) 1 := ⟨q914, q677, q678, q25, q679, rfl, ⟨by decide +kernel, by decide +kernel⟩, by decide +kernel⟩
theorem m2_118 : zMV RX2 118 RX6 yX6_has cX6_has 2 (Option.some FieldType.boolean) 1 := ⟨q823, q824, q825, q23, q826, rfl, ⟨by decide +kernel, by decide +kernel⟩, by decide +kernel⟩
theorem m2_128 : zMV RX2 128 RX2 yX2_hasPlace cX2_hasPlace 2 (Option.some FieldType.boolean) 1 := ⟨q1381, q836, q837, q24, q838, rfl, ⟨by decide +kernel, by decide +kernel⟩, by decide +kernel⟩
theorem m2_155 : zMV RX2 155 RX4 yX4_append cX4_append 6 (Option.none : Option FieldType) 3 := ⟨q889, q890, q891, q26, q892, rfl, ⟨by decide +kernel, by decide +kernel⟩, by decide +kernel⟩
theorem m2_166 : zMV RX2 166 RX4 yX4_sizeOf cX4_sizeOf 4 (Option.some FieldType.int) 2 := ⟨q888, q828, q829, q26, q830, rfl, ⟨by decide +kernel, by decide +kernel⟩, by decide +kernel⟩
theorem m2_173 : zMV RX2 173 RX4 yX4_firstOf cX4_firstOf 4 (Option.some FieldType.int) 2 := ⟨q870, q853, q854, q26, q855, rfl, ⟨by decide +kernel, by decide +kernel⟩, by decide +kernel⟩
theorem m2_179 : zMV RX2 179 RX3 yX3_has cX3_has 2 (Option.some FieldType.boolean) 1 := ⟨q871, q753, q754, q25, q755, rfl, ⟨by decide +kernel, by decide +kernel⟩, by decide +kernel⟩
theorem m2_180 : zMV RX2 180 RX4 yX4_removeFirst cX4_removeFirst 4 (Option.none : Option FieldType) 2 := ⟨q872, q873, q874, q26, q875, rfl, ⟨by decide +kernel, by decide +kernel⟩, by decide +kernel⟩
theorem m4_24 : zMV RX4 24 RX4 yX4_sizeOf cX4_sizeOf 4 (Option.some FieldType.int) 2 := ⟨q1270, q828, q829, q26, q830, rfl, ⟨by decide +kernel, by decide +kernel⟩, by decide +kernel⟩
theorem m4_28 : zMV RX4 28 RX4 yX4_firstOf cX4_firstOf 4 (Option.some FieldType.int) 2 := ⟨q1271, q853, q854, q26, q855, rfl, ⟨by decide +kernel, by decide +kernel⟩, by decide +kernel⟩
theorem m4_31 : zMV RX4 31 RX4 yX4_nextOf cX4_nextOf 4 (Option.some FieldType.int) 2 := ⟨q876, q878, q16, q26, q879, rfl, ⟨by decide +kernel, by decide +kernel⟩, by decide +kernel⟩
theorem m7_51 : zMV RX7 51 RX9 yX9_begin cX9_begin 1 (Option.none : Option FieldType) 0 := ⟨q515, q516, q517, q31, q518, rfl, ⟨by decide +kernel, by decide +kernel⟩, by decide +kernel⟩
theorem m7_56 : zMV RX7 56 RX9 yX9_isAtEnd cX9_isAtEnd 1 (Option.some FieldType.boolean) 0 := ⟨q523, q524, q525, q31, q526, rfl, ⟨by decide +kernel, by decide +kernel⟩, by decide +kernel⟩
theorem m7_60 : zMV RX7 60 RX7 yX7_readStatement cX7_readStatement 1 (Option.some FieldType.boolean) 0 := ⟨q527, q529, q0, q32, q530, rfl, ⟨by decide +kernel, by decide +kernel⟩, by decide +kernel⟩
theorem m7_63 : zMV RX7 63 RX9 yX9_readSemicolon cX9_readSemicolon 1 (Option.some FieldType.boolean) 0 := ⟨q601, q602, q603, q31, q604, rfl, ⟨by decide +kernel, by decide +kernel⟩, by decide +kernel⟩
theorem m7_66 : zMV RX7 66 RX9 yX9_fail cX9_fail 2 (Option.some FieldType.boolean) 1 := ⟨q542, q543, q544, q31, q545, rfl, ⟨by decide +kernel, by decide +kernel⟩, by decide +kernel⟩
theorem m7_72 : zMV RX7 72 RX9 yX9_isAtWord cX9_isAtWord 3 (Option.some FieldType.boolean) 1 := ⟨q532, q533, q534, q31, q535, rfl, ⟨by decide +kernel, by decide +kernel⟩, by decide +kernel⟩
theorem m7_76 : zMV RX7 76 RX7 yX7_readTerminal cX7_readTerminal 2 (Option.some FieldType.boolean) 0 := ⟨q538, q540, q1, q32, q541, rfl, ⟨by decide +kernel, by decide +kernel⟩, by decide +kernel⟩
theorem m7_80 : zMV RX7 80 RX7 yX7_beginOnce cX7_beginOnce 2 (Option.some FieldType.boolean) 1 := ⟨q578, q580, q4, q32, q581, rfl, ⟨by decide +kernel, by decide +kernel⟩, by decide +kernel⟩
theorem m7_83 : zMV RX7 83 RX7 yX7_readList cX7_readList 4 (Option.some FieldType.boolean) 0 := ⟨q582, q584, q5, q32, q585, rfl, ⟨by decide +kernel, by decide +kernel⟩, by decide +kernel⟩
theorem m7_88 : zMV RX7 88 RX7 yX7_readSettings cX7_readSettings 5 (Option.some FieldType.boolean) 2 := ⟨q587, q589, q6, q32, q590, rfl, ⟨by decide +kernel, by decide +kernel⟩, by decide +kernel⟩
theorem m7_96 : zMV RX7 96 RX7 yX7_readSeed cX7_readSeed 2 (Option.some FieldType.boolean) 0 := ⟨q597, q599, q7, q32, q600, rfl, ⟨by decide +kernel, by decide +kernel⟩, by decide +kernel⟩
theorem m7_99 : zMV RX7 99 RX9 yX9_advance cX9_advance 2 (Option.none : Option FieldType) 0 := ⟨q546, q520, q521, q31, q522, rfl, ⟨by decide +kernel, by decide +kernel⟩, by decide +kernel⟩
theorem m7_102 : zMV RX7 102 RX9 yX9_nameHere cX9_nameHere 3 (Option.some FieldType.int) 0 := ⟨q547, q548, q549, q31, q550, rfl, ⟨by decide +kernel, by decide +kernel⟩, by decide +kernel⟩
theorem m7_106 : zMV RX7 106 RX6 yX6_find cX6_find 3 (Option.some FieldType.int) 1 := ⟨q553, q554, q555, q23, q556, rfl, ⟨by decide +kernel, by decide +kernel⟩, by decide +kernel⟩
theorem m7_110 : zMV RX7 110 RX6 yX6_addTerminal cX6_addTerminal 2 (Option.none : Option FieldType) 1 := ⟨q557, q558, q559, q23, q560, rfl, ⟨by decide +kernel, by decide +kernel⟩, by decide +kernel⟩
theorem m7_119 : zMV RX7 119 RX7 yX7_readOption cX7_readOption 7 (Option.some FieldType.boolean) 4 := ⟨q562, q564, q2, q32, q565, rfl, ⟨by decide +kernel, by decide +kernel⟩, by decide +kernel⟩
theorem m7_133 : zMV RX7 133 RX9 yX9_readNumber cX9_readNumber 4 (Option.some FieldType.int) 2 := ⟨q566, q567, q568, q31, q569, rfl, ⟨by decide +kernel, by decide +kernel⟩, by decide +kernel⟩
theorem m9_34 : zMV RX9 34 RX9 yX9_addByte cX9_addByte 2 (Option.none : Option FieldType) 1 := ⟨q988, q503, q504, q31, q505, rfl, ⟨by decide +kernel, by decide +kernel⟩, by decide +kernel⟩
theorem m9_38 : zMV RX9 38 RX9 yX9_advance cX9_advance 2 (Option.none : Option FieldType) 0 := ⟨q519, q520, q521, q31, q522, rfl, ⟨by decide +kernel, by decide +kernel⟩, by decide +kernel⟩
theorem m9_52 : zMV RX9 52 RX9 yX9_isAtWord cX9_isAtWord 3 (Option.some FieldType.boolean) 1 := ⟨q552, q533, q534, q31, q535, rfl, ⟨by decide +kernel, by decide +kernel⟩, by decide +kernel⟩
theorem m9_58 : zMV RX9 58 RX9 yX9_fail cX9_fail 2 (Option.some FieldType.boolean) 1 := ⟨q570, q543, q544, q31, q545, rfl, ⟨by decide +kernel, by decide +kernel⟩, by decide +kernel⟩
theorem m9_62 : zMV RX9 62 RX9 yX9_numberHere cX9_numberHere 3 (Option.some FieldType.int) 0 := ⟨q571, q573, q3, q31, q574, rfl, ⟨by decide +kernel, by decide +kernel⟩, by decide +kernel⟩
theorem m11_99 : zMV RX11 99 RX9 yX9_addByte cX9_addByte 2 (Option.none : Option FieldType) 1 := ⟨q502, q503, q504, q31, q505, rfl, ⟨by decide +kernel, by decide +kernel⟩, by decide +kernel⟩
theorem m11_103 : zMV RX11 103 RX7 yX7_readText cX7_readText 2 (Option.some FieldType.boolean) 0 := ⟨q506, q507, q508, q32, q509, rfl, ⟨by decide +kernel, by decide +kernel⟩, by decide +kernel⟩
theorem m11_107 : zMV RX11 107 RX11 yX11_beginAnew cX11_beginAnew 1 (Option.none : Option FieldType) 0 := ⟨q605, q607, q8, q22, q608, rfl, ⟨by decide +kernel, by decide +kernel⟩, by decide +kernel⟩
theorem m11_112 : zMV RX11 112 RX9 yX9_addFourBytes cX9_addFourBytes 3 (Option.none : Option FieldType) 1 := ⟨q984, q985, q986, q31, q987, rfl, ⟨by decide +kernel, by decide +kernel⟩, by decide +kernel⟩
theorem m11_121 : zMV RX11 121 RX6 yX6_copyFrom cX6_copyFrom 2 (Option.none : Option FieldType) 1 := ⟨q609, q610, q611, q23, q612, rfl, ⟨by decide +kernel, by decide +kernel⟩, by decide +kernel⟩
theorem m11_124 : zMV RX11 124 RX2 yX2_begin cX2_begin 3 (Option.none : Option FieldType) 1 := ⟨q614, q615, q616, q24, q617, rfl, ⟨by decide +kernel, by decide +kernel⟩, by decide +kernel⟩
theorem m11_130 : zMV RX11 130 RX0 yX0_remember cX0_remember 2 (Option.none : Option FieldType) 1 := ⟨q928, q929, q930, q30, q931, rfl, ⟨by decide +kernel, by decide +kernel⟩, by decide +kernel⟩
theorem m11_148 : zMV RX11 148 RX3 yX3_isFull cX3_isFull 1 (Option.some FieldType.boolean) 0 := ⟨q1329, q1330, q1331, q25, q1332, rfl, ⟨by decide +kernel, by decide +kernel⟩, by decide +kernel⟩
theorem m11_159 : zMV RX11 159 RX2 yX2_addMessage cX2_addMessage 6 (Option.some FieldType.int) 3 := ⟨q1348, q1349, q1350, q24, q1351, rfl, ⟨by decide +kernel, by decide +kernel⟩, by decide +kernel⟩
theorem m11_163 : zMV RX11 163 RX2 yX2_setLife cX2_setLife 4 (Option.some FieldType.int) 2 := ⟨q1356, q1357, q1358, q24, q1359, rfl, ⟨by decide +kernel, by decide +kernel⟩, by decide +kernel⟩
theorem m11_170 : zMV RX11 170 RX1 yX1_makeTurns cX1_makeTurns 3 (Option.none : Option FieldType) 1 := ⟨q799, q800, q801, q29, q802, rfl, ⟨by decide +kernel, by decide +kernel⟩, by decide +kernel⟩
theorem m11_176 : zMV RX11 176 RX2 yX2_appendPlace cX2_appendPlace 2 (Option.none : Option FieldType) 1 := ⟨q1368, q1369, q1370, q24, q1371, rfl, ⟨by decide +kernel, by decide +kernel⟩, by decide +kernel⟩
theorem m11_179 : zMV RX11 179 RX2 yX2_removePlace cX2_removePlace 3 (Option.none : Option FieldType) 1 := ⟨q1377, q1378, q1379, q24, q1380, rfl, ⟨by decide +kernel, by decide +kernel⟩, by decide +kernel⟩
theorem m11_195 : zMV RX11 195 RX3 yX3_countIn cX3_countIn 4 (Option.some FieldType.int) 1 := ⟨q676, q677, q678, q25, q679, rfl, ⟨by decide +kernel, by decide +kernel⟩, by decide +kernel⟩
theorem m11_208 : zMV RX11 208 RX2 yX2_sumOf cX2_sumOf 4 (Option.some FieldType.int) 1 := ⟨q680, q681, q682, q24, q683, rfl, ⟨by decide +kernel, by decide +kernel⟩, by decide +kernel⟩
theorem m11_224 : zMV RX11 224 RX6 yX6_has cX6_has 2 (Option.some FieldType.boolean) 1 := ⟨q1256, q824, q825, q23, q826, rfl, ⟨by decide +kernel, by decide +kernel⟩, by decide +kernel⟩
theorem m11_246 : zMV RX11 246 RX4 yX4_sizeOf cX4_sizeOf 4 (Option.some FieldType.int) 2 := ⟨q1257, q828, q829, q26, q830, rfl, ⟨by decide +kernel, by decide +kernel⟩, by decide +kernel⟩
theorem m11_251 : zMV RX11 251 RX2 yX2_placesWith cX2_placesWith 4 (Option.some FieldType.int) 1 := ⟨q1258, q1259, q1260, q24, q1261, rfl, ⟨by decide +kernel, by decide +kernel⟩, by decide +kernel⟩
theorem m11_269 : zMV RX11 269 RX3 yX3_has cX3_has 2 (Option.some FieldType.boolean) 1 := ⟨q752, q753, q754, q25, q755, rfl, ⟨by decide +kernel, by decide +kernel⟩, by decide +kernel⟩
theorem m11_294 : zMV RX11 294 RX4 yX4_messageAt cX4_messageAt 6 (Option.some FieldType.int) 3 := ⟨q1266, q1267, q1268, q26, q1269, rfl, ⟨by decide +kernel, by decide +kernel⟩, by decide +kernel⟩
theorem m11_297 : zMV RX11 297 RX2 yX2_hasPlace cX2_hasPlace 2 (Option.some FieldType.boolean) 1 := ⟨q1376, q836, q837, q24, q838, rfl, ⟨by decide +kernel, by decide +kernel⟩, by decide +kernel⟩
theorem m11_310 : zMV RX11 310 RX10 yX10_numberOf cX10_numberOf 4 (Option.some FieldType.int) 2 := ⟨q1310, q1311, q1312, q28, q1313, rfl, ⟨by decide +kernel, by decide +kernel⟩, by decide +kernel⟩
theorem m11_313 : zMV RX11 313 RX1 yX1_choose cX1_choose 2 (Option.none : Option FieldType) 1 := ⟨q1289, q808, q809, q29, q810, rfl, ⟨by decide +kernel, by decide +kernel⟩, by decide +kernel⟩
theorem m11_322 : zMV RX11 322 RX2 yX2_copyFrom cX2_copyFrom 2 (Option.none : Option FieldType) 1 := ⟨q775, q776, q777, q24, q778, rfl, ⟨by decide +kernel, by decide +kernel⟩, by decide +kernel⟩
theorem m11_324 : zMV RX11 324 RX2 yX2_delivered cX2_delivered 1 (Option.some FieldType.int) 0 := ⟨q910, q911, q912, q24, q913, rfl, ⟨by decide +kernel, by decide +kernel⟩, by decide +kernel⟩
theorem m11_327 : zMV RX11 327 RX1 yX1_makeTurn cX1_makeTurn 4 (Option.none : Option FieldType) 0 := ⟨q919, q804, q805, q29, q806, rfl, ⟨by decide +kernel, by decide +kernel⟩, by decide +kernel⟩
theorem m11_339 : zMV RX11 339 RX8 yX8_oftenOf cX8_oftenOf 4 (Option.some FieldType.int) 2 := ⟨q1302, q1303, q1304, q27, q1305, rfl, ⟨by decide +kernel, by decide +kernel⟩, by decide +kernel⟩
theorem m11_345 : zMV RX11 345 RX11 yX11_isParty cX11_isParty 2 (Option.some FieldType.boolean) 1 := ⟨q1325, q1327, q20, q22, q1328, rfl, ⟨by decide +kernel, by decide +kernel⟩, by decide +kernel⟩
theorem m11_354 : zMV RX11 354 RX0 yX0_takeBack cX0_takeBack 2 (Option.none : Option FieldType) 1 := ⟨q952, q953, q954, q30, q955, rfl, ⟨by decide +kernel, by decide +kernel⟩, by decide +kernel⟩
theorem pn0 : plainName RX0 = true := by decide +kernel
theorem pn1 : plainName RX1 = true := by decide +kernel
theorem pn2 : plainName RX2 = true := by decide +kernel
theorem pn3 : plainName RX3 = true := by decide +kernel
theorem pn4 : plainName RX4 = true := by decide +kernel
theorem pn5 : plainName RX5 = true := by decide +kernel
theorem pn6 : plainName RX6 = true := by decide +kernel
theorem pn7 : plainName RX7 = true := by decide +kernel
theorem pn8 : plainName RX8 = true := by decide +kernel
theorem pn9 : plainName RX9 = true := by decide +kernel
theorem pn10 : plainName RX10 = true := by decide +kernel
theorem pn11 : plainName RX11 = true := by decide +kernel
theorem pn12 : plainName RX12 = true := by decide +kernel
/-- more rounds than any loop makes -/
def zF : Nat := 100000
section HELP
variable {V : zW} {X : zX} {cc : ByteArray} {own : String} {nL k n pc : Nat} {R0 : Room} {ret : Option FieldType} {L L' : List (Option Value)} {st : List Value} {d : zD}
/-- fewer locals are asked of than stand there -/
def zmask : List Bool → List (Option Value) → List (Option Value)
  | true :: m, x :: L => x :: zmask m L
  | false :: m, _ :: L => none :: zmask m L
  | _, _ => []
theorem zmask_at : ∀ {m : List Bool} {L : List (Option Value)} {i : Nat} {v : Value}, (zmask m L)[i]? = some (some v) → L[i]? = some (some v)
  | true :: m, x :: L, 0, v, h => by simpa [zmask] using h
  | false :: m, x :: L, 0, v, h => by simp [zmask] at h
  | true :: m, x :: L, i + 1, v, h => by
    have h : (zmask m L)[i]? = some (some v) := by simpa [zmask] using h
    simpa using zmask_at h
  | false :: m, x :: L, i + 1, v, h => by
    have h : (zmask m L)[i]? = some (some v) := by simpa [zmask] using h
    simpa using zmask_at h
  | [], L, i, v, h => by simp [zmask] at h
  | b :: m, [], i, v, h => by cases b <;> simp [zmask] at h
theorem zP_mask (m : List Bool) (kk : zP V X nL k n pc (zmask m L) st d) : zP V X nL k n pc L st d := by
  obtain ⟨p, l, e, R, s, me, args, below, meth, c, Q⟩ := X
  intro ls H locs hl hP hS
  refine kk ls H locs ⟨hl.1, hl.2.1, fun q hq => ?_⟩ hP hS
  obtain ⟨-, h2⟩ := zLp_of (i := 0) (j := q.1) (v := q.2) hq
  rw [Nat.sub_zero] at h2
  have h3 := zLp_mem (i := 0) (zmask_at h2)
  rw [Nat.zero_add] at h3
  exact hl.2.2 q h3
theorem z01 {v : Int} (h : v = 0 ∨ v = 1) : zR v := by
  rcases h with rfl | rfl <;> exact zRk rfl
end HELP
