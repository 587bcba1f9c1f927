/-! The shapes of the system's cells, object by object, and the words of their fields. -/
def zk0 : Nat → Nat := fun _ => 0
def kX0  : Nat → Nat := fun k => match k with
  | 0 => 9 + 2
  | _ => 0
def kX1 (lb : Nat) : Nat → Nat := fun k => match k with
  | 0 => lb + 2
  | _ => 0
def kX2 (b : Nat) : Nat → Nat := fun k => match k with
  | 0 => 1 + 2
  | 1 => b + 1 + 2
  | 2 => b + 10 + 2
  | 3 => b + 15 + 2
  | 4 => b + 25 + 2
  | 5 => b + 27 + 2
  | 6 => b + 28 + 2
  | 7 => b + 29 + 2
  | _ => 0
def kX3 (b : Nat) : Nat → Nat := fun k => match k with
  | 1 => b + 2 + 2
  | 2 => b + 3 + 2
  | 3 => b + 4 + 2
  | 4 => b + 5 + 2
  | 5 => b + 6 + 2
  | 6 => b + 7 + 2
  | 7 => b + 8 + 2
  | 8 => b + 9 + 2
  | _ => 0
def kX4 (b : Nat) : Nat → Nat := fun k => match k with
  | 0 => b + 11 + 2
  | 1 => b + 12 + 2
  | 2 => b + 13 + 2
  | 3 => b + 14 + 2
  | _ => 0
def kX5  : Nat → Nat := fun k => match k with
  | 0 => 10 + 2
  | 1 => 1 + 2
  | 2 => 21 + 2
  | 3 => 22 + 2
  | 4 => 23 + 2
  | 5 => 24 + 2
  | _ => 0
def kX6 (s : Nat) : Nat → Nat := fun k => match k with
  | 1 => s + 1 + 2
  | 2 => s + 2 + 2
  | 3 => s + 3 + 2
  | 4 => s + 4 + 2
  | _ => 0
def kX7  : Nat → Nat := fun k => match k with
  | 0 => 10 + 2
  | 1 => 13 + 2
  | 2 => 18 + 2
  | 3 => 19 + 2
  | _ => 0
def kX8 (b : Nat) : Nat → Nat := fun k => match k with
  | 0 => b + 16 + 2
  | 1 => b + 17 + 2
  | 2 => b + 18 + 2
  | 3 => b + 19 + 2
  | 4 => b + 20 + 2
  | 5 => b + 21 + 2
  | 6 => b + 22 + 2
  | 7 => b + 23 + 2
  | 8 => b + 24 + 2
  | _ => 0
def kX9  : Nat → Nat := fun k => match k with
  | 0 => 11 + 2
  | _ => 0
def kX10 (b : Nat) : Nat → Nat := fun k => match k with
  | 2 => b + 26 + 2
  | _ => 0
def kX11  : Nat → Nat := fun k => match k with
  | 0 => 1 + 2
  | 1 => 30 + 2
  | 2 => 6 + 2
  | 3 => 60 + 2
  | 4 => 7 + 2
  | 5 => 90 + 2
  | 6 => 8 + 2
  | 7 => 10 + 2
  | 8 => 12 + 2
  | 9 => 20 + 2
  | 10 => 25 + 2
  | _ => 0
def kX12  : Nat → Nat := fun k => match k with
  | 1 => 401 + 2
  | 2 => 402 + 2
  | 3 => 403 + 2
  | 4 => 404 + 2
  | 10 => 405 + 2
  | 20 => 406 + 2
  | 22 => 407 + 2
  | 23 => 408 + 2
  | _ => 0
def kXk : Nat → Nat := fun j => if j < 8 then (120 + 30 * j) + 2 else 0
def zo6 (V : zW) (s : Nat) : Prop := zsh V (s) = some (0, 6, (kX6 s)) ∧ zsh V (s + 1) = some (1, 8, zk0) ∧ zsh V (s + 2) = some (1, 8, zk0) ∧ zsh V (s + 3) = some (1, 8, zk0) ∧ zsh V (s + 4) = some (1, 8, zk0)
theorem s_X6 {V : zW} {s : Nat} (h : zo6 V s) : zsh V (s) = some (0, 6, (kX6 s)) := h.1
theorem s_X6_names {V : zW} {s : Nat} (h : zo6 V s) : zsh V (s + 1) = some (1, 8, zk0) := h.2.1
theorem s_X6_delays {V : zW} {s : Nat} (h : zo6 V s) : zsh V (s + 2) = some (1, 8, zk0) := h.2.2.1
theorem s_X6_rooms {V : zW} {s : Nat} (h : zo6 V s) : zsh V (s + 3) = some (1, 8, zk0) := h.2.2.2.1
theorem s_X6_prints {V : zW} {s : Nat} (h : zo6 V s) : zsh V (s + 4) = some (1, 8, zk0) := h.2.2.2.2
def zo2 (V : zW) (b : Nat) : Prop := zsh V (b) = some (0, 2, (kX2 b)) ∧ zsh V (b + 27) = some (1, 6, zk0) ∧ zsh V (b + 28) = some (1, 13, zk0) ∧ zsh V (b + 29) = some (1, 16, zk0) ∧ zsh V (b + 1) = some (0, 3, (kX3 b)) ∧ zsh V (b + 2) = some (1, 40, zk0) ∧ zsh V (b + 3) = some (1, 40, zk0) ∧ zsh V (b + 4) = some (1, 40, zk0) ∧ zsh V (b + 5) = some (1, 40, zk0) ∧ zsh V (b + 6) = some (1, 40, zk0) ∧ zsh V (b + 7) = some (1, 40, zk0) ∧ zsh V (b + 8) = some (1, 40, zk0) ∧ zsh V (b + 9) = some (1, 40, zk0) ∧ zsh V (b + 10) = some (0, 4, (kX4 b)) ∧ zsh V (b + 11) = some (1, 24, zk0) ∧ zsh V (b + 12) = some (1, 24, zk0) ∧ zsh V (b + 13) = some (1, 24, zk0) ∧ zsh V (b + 14) = some (1, 120, zk0) ∧ zsh V (b + 15) = some (0, 8, (kX8 b)) ∧ zsh V (b + 16) = some (1, 8, zk0) ∧ zsh V (b + 17) = some (1, 8, zk0) ∧ zsh V (b + 18) = some (1, 8, zk0) ∧ zsh V (b + 19) = some (1, 8, zk0) ∧ zsh V (b + 20) = some (1, 8, zk0) ∧ zsh V (b + 21) = some (1, 8, zk0) ∧ zsh V (b + 22) = some (1, 8, zk0) ∧ zsh V (b + 23) = some (1, 8, zk0) ∧ zsh V (b + 24) = some (1, 32, zk0) ∧ zsh V (b + 25) = some (0, 10, (kX10 b)) ∧ zsh V (b + 26) = some (1, 100, zk0) ∧ zo6 V 1
theorem s_X2 {V : zW} {b : Nat} (h : zo2 V b) : zsh V (b) = some (0, 2, (kX2 b)) := h.1
theorem s_X2_settings {V : zW} {b : Nat} (h : zo2 V b) : zsh V (b + 27) = some (1, 6, zk0) := h.2.1
theorem s_X2_accounts {V : zW} {b : Nat} (h : zo2 V b) : zsh V (b + 28) = some (1, 13, zk0) := h.2.2.1
theorem s_X2_list {V : zW} {b : Nat} (h : zo2 V b) : zsh V (b + 29) = some (1, 16, zk0) := h.2.2.2.1
theorem s_X3 {V : zW} {b : Nat} (h : zo2 V b) : zsh V (b + 1) = some (0, 3, (kX3 b)) := h.2.2.2.2.1
theorem s_X3_senders {V : zW} {b : Nat} (h : zo2 V b) : zsh V (b + 2) = some (1, 40, zk0) := h.2.2.2.2.2.1
theorem s_X3_receivers {V : zW} {b : Nat} (h : zo2 V b) : zsh V (b + 3) = some (1, 40, zk0) := h.2.2.2.2.2.2.1
theorem s_X3_lengths {V : zW} {b : Nat} (h : zo2 V b) : zsh V (b + 4) = some (1, 40, zk0) := h.2.2.2.2.2.2.2.1
theorem s_X3_states {V : zW} {b : Nat} (h : zo2 V b) : zsh V (b + 5) = some (1, 40, zk0) := h.2.2.2.2.2.2.2.2.1
theorem s_X3_postTimes {V : zW} {b : Nat} (h : zo2 V b) : zsh V (b + 6) = some (1, 40, zk0) := h.2.2.2.2.2.2.2.2.2.1
theorem s_X3_hostTimes {V : zW} {b : Nat} (h : zo2 V b) : zsh V (b + 7) = some (1, 40, zk0) := h.2.2.2.2.2.2.2.2.2.2.1
theorem s_X3_bufferTimes {V : zW} {b : Nat} (h : zo2 V b) : zsh V (b + 8) = some (1, 40, zk0) := h.2.2.2.2.2.2.2.2.2.2.2.1
theorem s_X3_deliveryTimes {V : zW} {b : Nat} (h : zo2 V b) : zsh V (b + 9) = some (1, 40, zk0) := h.2.2.2.2.2.2.2.2.2.2.2.2.1
theorem s_X4 {V : zW} {b : Nat} (h : zo2 V b) : zsh V (b + 10) = some (0, 4, (kX4 b)) := h.2.2.2.2.2.2.2.2.2.2.2.2.2.1
theorem s_X4_firsts {V : zW} {b : Nat} (h : zo2 V b) : zsh V (b + 11) = some (1, 24, zk0) := h.2.2.2.2.2.2.2.2.2.2.2.2.2.2.1
theorem s_X4_lasts {V : zW} {b : Nat} (h : zo2 V b) : zsh V (b + 12) = some (1, 24, zk0) := h.2.2.2.2.2.2.2.2.2.2.2.2.2.2.2.1
theorem s_X4_sizes {V : zW} {b : Nat} (h : zo2 V b) : zsh V (b + 13) = some (1, 24, zk0) := h.2.2.2.2.2.2.2.2.2.2.2.2.2.2.2.2.1
theorem s_X4_nexts {V : zW} {b : Nat} (h : zo2 V b) : zsh V (b + 14) = some (1, 120, zk0) := h.2.2.2.2.2.2.2.2.2.2.2.2.2.2.2.2.2.1
theorem s_X8 {V : zW} {b : Nat} (h : zo2 V b) : zsh V (b + 15) = some (0, 8, (kX8 b)) := h.2.2.2.2.2.2.2.2.2.2.2.2.2.2.2.2.2.2.1
theorem s_X8_alive {V : zW} {b : Nat} (h : zo2 V b) : zsh V (b + 16) = some (1, 8, zk0) := h.2.2.2.2.2.2.2.2.2.2.2.2.2.2.2.2.2.2.2.1
theorem s_X8_on {V : zW} {b : Nat} (h : zo2 V b) : zsh V (b + 17) = some (1, 8, zk0) := h.2.2.2.2.2.2.2.2.2.2.2.2.2.2.2.2.2.2.2.2.1
theorem s_X8_misses {V : zW} {b : Nat} (h : zo2 V b) : zsh V (b + 18) = some (1, 8, zk0) := h.2.2.2.2.2.2.2.2.2.2.2.2.2.2.2.2.2.2.2.2.2.1
theorem s_X8_ownBits {V : zW} {b : Nat} (h : zo2 V b) : zsh V (b + 19) = some (1, 8, zk0) := h.2.2.2.2.2.2.2.2.2.2.2.2.2.2.2.2.2.2.2.2.2.2.1
theorem s_X8_expectedBits {V : zW} {b : Nat} (h : zo2 V b) : zsh V (b + 20) = some (1, 8, zk0) := h.2.2.2.2.2.2.2.2.2.2.2.2.2.2.2.2.2.2.2.2.2.2.2.1
theorem s_X8_hostBits {V : zW} {b : Nat} (h : zo2 V b) : zsh V (b + 21) = some (1, 8, zk0) := h.2.2.2.2.2.2.2.2.2.2.2.2.2.2.2.2.2.2.2.2.2.2.2.2.1
theorem s_X8_hostExpectedBits {V : zW} {b : Nat} (h : zo2 V b) : zsh V (b + 22) = some (1, 8, zk0) := h.2.2.2.2.2.2.2.2.2.2.2.2.2.2.2.2.2.2.2.2.2.2.2.2.2.1
theorem s_X8_firstSince {V : zW} {b : Nat} (h : zo2 V b) : zsh V (b + 23) = some (1, 8, zk0) := h.2.2.2.2.2.2.2.2.2.2.2.2.2.2.2.2.2.2.2.2.2.2.2.2.2.2.1
theorem s_X8_often {V : zW} {b : Nat} (h : zo2 V b) : zsh V (b + 24) = some (1, 32, zk0) := h.2.2.2.2.2.2.2.2.2.2.2.2.2.2.2.2.2.2.2.2.2.2.2.2.2.2.2.1
theorem s_X10 {V : zW} {b : Nat} (h : zo2 V b) : zsh V (b + 25) = some (0, 10, (kX10 b)) := h.2.2.2.2.2.2.2.2.2.2.2.2.2.2.2.2.2.2.2.2.2.2.2.2.2.2.2.2.1
theorem s_X10_numbers {V : zW} {b : Nat} (h : zo2 V b) : zsh V (b + 26) = some (1, 100, zk0) := h.2.2.2.2.2.2.2.2.2.2.2.2.2.2.2.2.2.2.2.2.2.2.2.2.2.2.2.2.2.1
theorem o_X2_setup {V : zW} {b : Nat} (h : zo2 V b) : zo6 V 1 := h.2.2.2.2.2.2.2.2.2.2.2.2.2.2.2.2.2.2.2.2.2.2.2.2.2.2.2.2.2.2
def zo1 (V : zW) (g : Nat) (lb : Nat) : Prop := zsh V (g) = some (0, 1, (kX1 lb)) ∧ zo2 V lb
theorem s_X1 {V : zW} {g : Nat} {lb : Nat} (h : zo1 V g lb) : zsh V (g) = some (0, 1, (kX1 lb)) := h.1
theorem o_X1_line {V : zW} {g : Nat} {lb : Nat} (h : zo1 V g lb) : zo2 V lb := h.2
def zo0 (V : zW)  : Prop := zsh V (8) = some (0, 0, kX0) ∧ zsh V (9) = some (3, 8, kXk) ∧ ∀ i, i < 8 → zo2 V (120 + 30 * i)
theorem s_X0 {V : zW}  (h : zo0 V ) : zsh V (8) = some (0, 0, kX0) := h.1
theorem s_X0_kept {V : zW}  (h : zo0 V ) : zsh V (9) = some (3, 8, kXk) := h.2.1
theorem o_X0_kept {V : zW}  (h : zo0 V ) : ∀ i, i < 8 → zo2 V (120 + 30 * i) := h.2.2
def zo9 (V : zW)  : Prop := zsh V (10) = some (0, 9, kX9) ∧ zsh V (11) = some (1, 600, zk0)
theorem s_X9 {V : zW}  (h : zo9 V ) : zsh V (10) = some (0, 9, kX9) := h.1
theorem s_X9_bytes {V : zW}  (h : zo9 V ) : zsh V (11) = some (1, 600, zk0) := h.2
def zo7 (V : zW)  : Prop := zsh V (12) = some (0, 7, kX7) ∧ zsh V (18) = some (1, 6, zk0) ∧ zsh V (19) = some (1, 16, zk0) ∧ zo9 V ∧ zo6 V 13
theorem s_X7 {V : zW}  (h : zo7 V ) : zsh V (12) = some (0, 7, kX7) := h.1
theorem s_X7_settings {V : zW}  (h : zo7 V ) : zsh V (18) = some (1, 6, zk0) := h.2.1
theorem s_X7_list {V : zW}  (h : zo7 V ) : zsh V (19) = some (1, 16, zk0) := h.2.2.1
theorem o_X7_tokens {V : zW}  (h : zo7 V ) : zo9 V := h.2.2.2.1
theorem o_X7_draft {V : zW}  (h : zo7 V ) : zo6 V 13 := h.2.2.2.2
def zo5 (V : zW)  : Prop := zsh V (20) = some (0, 5, kX5) ∧ zsh V (21) = some (1, 30, zk0) ∧ zsh V (22) = some (1, 30, zk0) ∧ zsh V (23) = some (1, 30, zk0) ∧ zsh V (24) = some (1, 30, zk0) ∧ zo9 V ∧ zo6 V 1
theorem s_X5 {V : zW}  (h : zo5 V ) : zsh V (20) = some (0, 5, kX5) := h.1
theorem s_X5_verbs {V : zW}  (h : zo5 V ) : zsh V (21) = some (1, 30, zk0) := h.2.1
theorem s_X5_first {V : zW}  (h : zo5 V ) : zsh V (22) = some (1, 30, zk0) := h.2.2.1
theorem s_X5_second {V : zW}  (h : zo5 V ) : zsh V (23) = some (1, 30, zk0) := h.2.2.2.1
theorem s_X5_third {V : zW}  (h : zo5 V ) : zsh V (24) = some (1, 30, zk0) := h.2.2.2.2.1
theorem o_X5_tokens {V : zW}  (h : zo5 V ) : zo9 V := h.2.2.2.2.2.1
theorem o_X5_setup {V : zW}  (h : zo5 V ) : zo6 V 1 := h.2.2.2.2.2.2
def zo11 (V : zW)  : Prop := zsh V (0) = some (0, 11, kX11) ∧ zsh V (25) = some (1, 160, zk0) ∧ zo6 V 1 ∧ zo2 V 30 ∧ zo1 V 6 30 ∧ zo2 V 60 ∧ zo1 V 7 60 ∧ zo2 V 90 ∧ zo0 V ∧ zo9 V ∧ zo7 V ∧ zo5 V
theorem s_X11 {V : zW}  (h : zo11 V ) : zsh V (0) = some (0, 11, kX11) := h.1
theorem s_X11_output {V : zW}  (h : zo11 V ) : zsh V (25) = some (1, 160, zk0) := h.2.1
theorem o_X11_setup {V : zW}  (h : zo11 V ) : zo6 V 1 := h.2.2.1
theorem o_X11_line {V : zW}  (h : zo11 V ) : zo2 V 30 := h.2.2.2.1
theorem o_X11_host {V : zW}  (h : zo11 V ) : zo1 V 6 30 := h.2.2.2.2.1
theorem o_X11_copy {V : zW}  (h : zo11 V ) : zo2 V 60 := h.2.2.2.2.2.1
theorem o_X11_copyHost {V : zW}  (h : zo11 V ) : zo1 V 7 60 := h.2.2.2.2.2.2.1
theorem o_X11_saved {V : zW}  (h : zo11 V ) : zo2 V 90 := h.2.2.2.2.2.2.2.1
theorem o_X11_history {V : zW}  (h : zo11 V ) : zo0 V := h.2.2.2.2.2.2.2.2.1
theorem o_X11_tokens {V : zW}  (h : zo11 V ) : zo9 V := h.2.2.2.2.2.2.2.2.2.1
theorem o_X11_setupReader {V : zW}  (h : zo11 V ) : zo7 V := h.2.2.2.2.2.2.2.2.2.2.1
theorem o_X11_script {V : zW}  (h : zo11 V ) : zo5 V := h.2.2.2.2.2.2.2.2.2.2.2
def zo12 (V : zW)  : Prop := zsh V (400) = some (0, 12, kX12) ∧ zsh V (401) = some (1, 800, zk0) ∧ zsh V (402) = some (1, 800, zk0) ∧ zsh V (403) = some (1, 800, zk0) ∧ zsh V (404) = some (1, 6400, zk0) ∧ zsh V (405) = some (2, 600, zk0) ∧ zsh V (406) = some (1, 120, zk0) ∧ zsh V (407) = some (1, 800, zk0) ∧ zsh V (408) = some (2, 250, zk0)
theorem s_X12 {V : zW}  (h : zo12 V ) : zsh V (400) = some (0, 12, kX12) := h.1
theorem s_X12_s {V : zW}  (h : zo12 V ) : zsh V (401) = some (1, 800, zk0) := h.2.1
theorem s_X12_draft {V : zW}  (h : zo12 V ) : zsh V (402) = some (1, 800, zk0) := h.2.2.1
theorem s_X12_kept {V : zW}  (h : zo12 V ) : zsh V (403) = some (1, 800, zk0) := h.2.2.2.1
theorem s_X12_past {V : zW}  (h : zo12 V ) : zsh V (404) = some (1, 6400, zk0) := h.2.2.2.2.1
theorem s_X12_input {V : zW}  (h : zo12 V ) : zsh V (405) = some (2, 600, zk0) := h.2.2.2.2.2.1
theorem s_X12_statement {V : zW}  (h : zo12 V ) : zsh V (406) = some (1, 120, zk0) := h.2.2.2.2.2.2.1
theorem s_X12_aside {V : zW}  (h : zo12 V ) : zsh V (407) = some (1, 800, zk0) := h.2.2.2.2.2.2.2.1
theorem s_X12_output {V : zW}  (h : zo12 V ) : zsh V (408) = some (2, 250, zk0) := h.2.2.2.2.2.2.2.2
theorem l0_0 : u_lay RX0 TX0 0 ∈ zT := zin 438 (by decide +kernel) (by decide +kernel)
theorem l0_1 : u_lay RX0 TX0 1 ∈ zT := zin 440 (by decide +kernel) (by decide +kernel)
theorem l0_2 : u_lay RX0 TX0 2 ∈ zT := zin 442 (by decide +kernel) (by decide +kernel)
theorem cf0 : zCF 0 RX0 TX0 3 := ⟨rfl, fun w hw => by
  obtain ⟨k, hk, rfl⟩ := List.mem_map.mp hw
  have hk := List.mem_range.mp hk
  match k, hk with
  | 0, _ => exact l0_0
  | 1, _ => exact l0_1
  | 2, _ => exact l0_2
  | k + 3, hk => exact absurd hk (by omega), nmX0, tyX0, tyX0_ok⟩
theorem l1_0 : u_lay RX1 TX1 0 ∈ zT := zin 416 (by decide +kernel) (by decide +kernel)
theorem l1_1 : u_lay RX1 TX1 1 ∈ zT := zin 418 (by decide +kernel) (by decide +kernel)
theorem l1_2 : u_lay RX1 TX1 2 ∈ zT := zin 420 (by decide +kernel) (by decide +kernel)
theorem l1_3 : u_lay RX1 TX1 3 ∈ zT := zin 422 (by decide +kernel) (by decide +kernel)
theorem cf1 : zCF 1 RX1 TX1 4 := ⟨rfl, fun w hw => by
  obtain ⟨k, hk, rfl⟩ := List.mem_map.mp hw
  have hk := List.mem_range.mp hk
  match k, hk with
  | 0, _ => exact l1_0
  | 1, _ => exact l1_1
  | 2, _ => exact l1_2
  | 3, _ => exact l1_3
  | k + 4, hk => exact absurd hk (by omega), nmX1, tyX1, tyX1_ok⟩
theorem l2_0 : u_lay RX2 TX2 0 ∈ zT := zin 371 (by decide +kernel) (by decide +kernel)
theorem l2_1 : u_lay RX2 TX2 1 ∈ zT := zin 373 (by decide +kernel) (by decide +kernel)
theorem l2_2 : u_lay RX2 TX2 2 ∈ zT := zin 375 (by decide +kernel) (by decide +kernel)
theorem l2_3 : u_lay RX2 TX2 3 ∈ zT := zin 377 (by decide +kernel) (by decide +kernel)
theorem l2_4 : u_lay RX2 TX2 4 ∈ zT := zin 379 (by decide +kernel) (by decide +kernel)
theorem l2_5 : u_lay RX2 TX2 5 ∈ zT := zin 381 (by decide +kernel) (by decide +kernel)
theorem l2_6 : u_lay RX2 TX2 6 ∈ zT := zin 383 (by decide +kernel) (by decide +kernel)
theorem l2_7 : u_lay RX2 TX2 7 ∈ zT := zin 385 (by decide +kernel) (by decide +kernel)
theorem l2_8 : u_lay RX2 TX2 8 ∈ zT := zin 387 (by decide +kernel) (by decide +kernel)
theorem l2_9 : u_lay RX2 TX2 9 ∈ zT := zin 389 (by decide +kernel) (by decide +kernel)
theorem l2_10 : u_lay RX2 TX2 10 ∈ zT := zin 391 (by decide +kernel) (by decide +kernel)
theorem l2_11 : u_lay RX2 TX2 11 ∈ zT := zin 393 (by decide +kernel) (by decide +kernel)
theorem l2_12 : u_lay RX2 TX2 12 ∈ zT := zin 395 (by decide +kernel) (by decide +kernel)
theorem l2_13 : u_lay RX2 TX2 13 ∈ zT := zin 397 (by decide +kernel) (by decide +kernel)
theorem l2_14 : u_lay RX2 TX2 14 ∈ zT := zin 399 (by decide +kernel) (by decide +kernel)
theorem l2_15 : u_lay RX2 TX2 15 ∈ zT := zin 401 (by decide +kernel) (by decide +kernel)
theorem cf2 : zCF 2 RX2 TX2 16 := ⟨rfl, fun w hw => by
  obtain ⟨k, hk, rfl⟩ := List.mem_map.mp hw
  have hk := List.mem_range.mp hk
  match k, hk with
  | 0, _ => exact l2_0
  | 1, _ => exact l2_1
  | 2, _ => exact l2_2
  | 3, _ => exact l2_3
  | 4, _ => exact l2_4
  | 5, _ => exact l2_5
  | 6, _ => exact l2_6
  | 7, _ => exact l2_7
  | 8, _ => exact l2_8
  | 9, _ => exact l2_9
  | 10, _ => exact l2_10
  | 11, _ => exact l2_11
  | 12, _ => exact l2_12
  | 13, _ => exact l2_13
  | 14, _ => exact l2_14
  | 15, _ => exact l2_15
  | k + 16, hk => exact absurd hk (by omega), nmX2, tyX2, tyX2_ok⟩
theorem l3_0 : u_lay RX3 TX3 0 ∈ zT := zin 221 (by decide +kernel) (by decide +kernel)
theorem l3_1 : u_lay RX3 TX3 1 ∈ zT := zin 223 (by decide +kernel) (by decide +kernel)
theorem l3_2 : u_lay RX3 TX3 2 ∈ zT := zin 225 (by decide +kernel) (by decide +kernel)
theorem l3_3 : u_lay RX3 TX3 3 ∈ zT := zin 227 (by decide +kernel) (by decide +kernel)
theorem l3_4 : u_lay RX3 TX3 4 ∈ zT := zin 229 (by decide +kernel) (by decide +kernel)
theorem l3_5 : u_lay RX3 TX3 5 ∈ zT := zin 231 (by decide +kernel) (by decide +kernel)
theorem l3_6 : u_lay RX3 TX3 6 ∈ zT := zin 233 (by decide +kernel) (by decide +kernel)
theorem l3_7 : u_lay RX3 TX3 7 ∈ zT := zin 235 (by decide +kernel) (by decide +kernel)
theorem l3_8 : u_lay RX3 TX3 8 ∈ zT := zin 237 (by decide +kernel) (by decide +kernel)
theorem cf3 : zCF 3 RX3 TX3 9 := ⟨rfl, fun w hw => by
  obtain ⟨k, hk, rfl⟩ := List.mem_map.mp hw
  have hk := List.mem_range.mp hk
  match k, hk with
  | 0, _ => exact l3_0
  | 1, _ => exact l3_1
  | 2, _ => exact l3_2
  | 3, _ => exact l3_3
  | 4, _ => exact l3_4
  | 5, _ => exact l3_5
  | 6, _ => exact l3_6
  | 7, _ => exact l3_7
  | 8, _ => exact l3_8
  | k + 9, hk => exact absurd hk (by omega), nmX3, tyX3, tyX3_ok⟩
theorem l4_0 : u_lay RX4 TX4 0 ∈ zT := zin 250 (by decide +kernel) (by decide +kernel)
theorem l4_1 : u_lay RX4 TX4 1 ∈ zT := zin 252 (by decide +kernel) (by decide +kernel)
theorem l4_2 : u_lay RX4 TX4 2 ∈ zT := zin 254 (by decide +kernel) (by decide +kernel)
theorem l4_3 : u_lay RX4 TX4 3 ∈ zT := zin 256 (by decide +kernel) (by decide +kernel)
theorem cf4 : zCF 4 RX4 TX4 4 := ⟨rfl, fun w hw => by
  obtain ⟨k, hk, rfl⟩ := List.mem_map.mp hw
  have hk := List.mem_range.mp hk
  match k, hk with
  | 0, _ => exact l4_0
  | 1, _ => exact l4_1
  | 2, _ => exact l4_2
  | 3, _ => exact l4_3
  | k + 4, hk => exact absurd hk (by omega), nmX4, tyX4, tyX4_ok⟩
theorem l5_0 : u_lay RX5 TX5 0 ∈ zT := zin 529 (by decide +kernel) (by decide +kernel)
theorem l5_1 : u_lay RX5 TX5 1 ∈ zT := zin 531 (by decide +kernel) (by decide +kernel)
theorem l5_2 : u_lay RX5 TX5 2 ∈ zT := zin 533 (by decide +kernel) (by decide +kernel)
theorem l5_3 : u_lay RX5 TX5 3 ∈ zT := zin 535 (by decide +kernel) (by decide +kernel)
theorem l5_4 : u_lay RX5 TX5 4 ∈ zT := zin 537 (by decide +kernel) (by decide +kernel)
theorem l5_5 : u_lay RX5 TX5 5 ∈ zT := zin 539 (by decide +kernel) (by decide +kernel)
theorem l5_6 : u_lay RX5 TX5 6 ∈ zT := zin 541 (by decide +kernel) (by decide +kernel)
theorem cf5 : zCF 5 RX5 TX5 7 := ⟨rfl, fun w hw => by
  obtain ⟨k, hk, rfl⟩ := List.mem_map.mp hw
  have hk := List.mem_range.mp hk
  match k, hk with
  | 0, _ => exact l5_0
  | 1, _ => exact l5_1
  | 2, _ => exact l5_2
  | 3, _ => exact l5_3
  | 4, _ => exact l5_4
  | 5, _ => exact l5_5
  | 6, _ => exact l5_6
  | k + 7, hk => exact absurd hk (by omega), nmX5, tyX5, tyX5_ok⟩
theorem l6_0 : u_lay RX6 TX6 0 ∈ zT := zin 169 (by decide +kernel) (by decide +kernel)
theorem l6_1 : u_lay RX6 TX6 1 ∈ zT := zin 171 (by decide +kernel) (by decide +kernel)
theorem l6_2 : u_lay RX6 TX6 2 ∈ zT := zin 173 (by decide +kernel) (by decide +kernel)
theorem l6_3 : u_lay RX6 TX6 3 ∈ zT := zin 175 (by decide +kernel) (by decide +kernel)
theorem l6_4 : u_lay RX6 TX6 4 ∈ zT := zin 177 (by decide +kernel) (by decide +kernel)
theorem cf6 : zCF 6 RX6 TX6 5 := ⟨rfl, fun w hw => by
  obtain ⟨k, hk, rfl⟩ := List.mem_map.mp hw
  have hk := List.mem_range.mp hk
  match k, hk with
  | 0, _ => exact l6_0
  | 1, _ => exact l6_1
  | 2, _ => exact l6_2
  | 3, _ => exact l6_3
  | 4, _ => exact l6_4
  | k + 5, hk => exact absurd hk (by omega), nmX6, tyX6, tyX6_ok⟩
theorem l7_0 : u_lay RX7 TX7 0 ∈ zT := zin 496 (by decide +kernel) (by decide +kernel)
theorem l7_1 : u_lay RX7 TX7 1 ∈ zT := zin 498 (by decide +kernel) (by decide +kernel)
theorem l7_2 : u_lay RX7 TX7 2 ∈ zT := zin 500 (by decide +kernel) (by decide +kernel)
theorem l7_3 : u_lay RX7 TX7 3 ∈ zT := zin 502 (by decide +kernel) (by decide +kernel)
theorem l7_4 : u_lay RX7 TX7 4 ∈ zT := zin 504 (by decide +kernel) (by decide +kernel)
theorem l7_5 : u_lay RX7 TX7 5 ∈ zT := zin 506 (by decide +kernel) (by decide +kernel)
theorem l7_6 : u_lay RX7 TX7 6 ∈ zT := zin 508 (by decide +kernel) (by decide +kernel)
theorem cf7 : zCF 7 RX7 TX7 7 := ⟨rfl, fun w hw => by
  obtain ⟨k, hk, rfl⟩ := List.mem_map.mp hw
  have hk := List.mem_range.mp hk
  match k, hk with
  | 0, _ => exact l7_0
  | 1, _ => exact l7_1
  | 2, _ => exact l7_2
  | 3, _ => exact l7_3
  | 4, _ => exact l7_4
  | 5, _ => exact l7_5
  | 6, _ => exact l7_6
  | k + 7, hk => exact absurd hk (by omega), nmX7, tyX7, tyX7_ok⟩
theorem l8_0 : u_lay RX8 TX8 0 ∈ zT := zin 293 (by decide +kernel) (by decide +kernel)
theorem l8_1 : u_lay RX8 TX8 1 ∈ zT := zin 295 (by decide +kernel) (by decide +kernel)
theorem l8_2 : u_lay RX8 TX8 2 ∈ zT := zin 297 (by decide +kernel) (by decide +kernel)
theorem l8_3 : u_lay RX8 TX8 3 ∈ zT := zin 299 (by decide +kernel) (by decide +kernel)
theorem l8_4 : u_lay RX8 TX8 4 ∈ zT := zin 301 (by decide +kernel) (by decide +kernel)
theorem l8_5 : u_lay RX8 TX8 5 ∈ zT := zin 303 (by decide +kernel) (by decide +kernel)
theorem l8_6 : u_lay RX8 TX8 6 ∈ zT := zin 305 (by decide +kernel) (by decide +kernel)
theorem l8_7 : u_lay RX8 TX8 7 ∈ zT := zin 307 (by decide +kernel) (by decide +kernel)
theorem l8_8 : u_lay RX8 TX8 8 ∈ zT := zin 309 (by decide +kernel) (by decide +kernel)
theorem cf8 : zCF 8 RX8 TX8 9 := ⟨rfl, fun w hw => by
  obtain ⟨k, hk, rfl⟩ := List.mem_map.mp hw
  have hk := List.mem_range.mp hk
  match k, hk with
  | 0, _ => exact l8_0
  | 1, _ => exact l8_1
  | 2, _ => exact l8_2
  | 3, _ => exact l8_3
  | 4, _ => exact l8_4
  | 5, _ => exact l8_5
  | 6, _ => exact l8_6
  | 7, _ => exact l8_7
  | 8, _ => exact l8_8
  | k + 9, hk => exact absurd hk (by omega), nmX8, tyX8, tyX8_ok⟩
theorem l9_0 : u_lay RX9 TX9 0 ∈ zT := zin 461 (by decide +kernel) (by decide +kernel)
theorem l9_1 : u_lay RX9 TX9 1 ∈ zT := zin 463 (by decide +kernel) (by decide +kernel)
theorem l9_2 : u_lay RX9 TX9 2 ∈ zT := zin 465 (by decide +kernel) (by decide +kernel)
theorem l9_3 : u_lay RX9 TX9 3 ∈ zT := zin 467 (by decide +kernel) (by decide +kernel)
theorem l9_4 : u_lay RX9 TX9 4 ∈ zT := zin 469 (by decide +kernel) (by decide +kernel)
theorem l9_5 : u_lay RX9 TX9 5 ∈ zT := zin 471 (by decide +kernel) (by decide +kernel)
theorem l9_6 : u_lay RX9 TX9 6 ∈ zT := zin 473 (by decide +kernel) (by decide +kernel)
theorem cf9 : zCF 9 RX9 TX9 7 := ⟨rfl, fun w hw => by
  obtain ⟨k, hk, rfl⟩ := List.mem_map.mp hw
  have hk := List.mem_range.mp hk
  match k, hk with
  | 0, _ => exact l9_0
  | 1, _ => exact l9_1
  | 2, _ => exact l9_2
  | 3, _ => exact l9_3
  | 4, _ => exact l9_4
  | 5, _ => exact l9_5
  | 6, _ => exact l9_6
  | k + 7, hk => exact absurd hk (by omega), nmX9, tyX9, tyX9_ok⟩
theorem l10_0 : u_lay RX10 TX10 0 ∈ zT := zin 322 (by decide +kernel) (by decide +kernel)
theorem l10_1 : u_lay RX10 TX10 1 ∈ zT := zin 324 (by decide +kernel) (by decide +kernel)
theorem l10_2 : u_lay RX10 TX10 2 ∈ zT := zin 326 (by decide +kernel) (by decide +kernel)
theorem cf10 : zCF 10 RX10 TX10 3 := ⟨rfl, fun w hw => by
  obtain ⟨k, hk, rfl⟩ := List.mem_map.mp hw
  have hk := List.mem_range.mp hk
  match k, hk with
  | 0, _ => exact l10_0
  | 1, _ => exact l10_1
  | 2, _ => exact l10_2
  | k + 3, hk => exact absurd hk (by omega), nmX10, tyX10, tyX10_ok⟩
theorem l11_0 : u_lay RX11 TX11 0 ∈ zT := zin 735 (by decide +kernel) (by decide +kernel)
theorem l11_1 : u_lay RX11 TX11 1 ∈ zT := zin 737 (by decide +kernel) (by decide +kernel)
theorem l11_2 : u_lay RX11 TX11 2 ∈ zT := zin 739 (by decide +kernel) (by decide +kernel)
theorem l11_3 : u_lay RX11 TX11 3 ∈ zT := zin 741 (by decide +kernel) (by decide +kernel)
theorem l11_4 : u_lay RX11 TX11 4 ∈ zT := zin 743 (by decide +kernel) (by decide +kernel)
theorem l11_5 : u_lay RX11 TX11 5 ∈ zT := zin 745 (by decide +kernel) (by decide +kernel)
theorem l11_6 : u_lay RX11 TX11 6 ∈ zT := zin 747 (by decide +kernel) (by decide +kernel)
theorem l11_7 : u_lay RX11 TX11 7 ∈ zT := zin 749 (by decide +kernel) (by decide +kernel)
theorem l11_8 : u_lay RX11 TX11 8 ∈ zT := zin 751 (by decide +kernel) (by decide +kernel)
theorem l11_9 : u_lay RX11 TX11 9 ∈ zT := zin 753 (by decide +kernel) (by decide +kernel)
theorem l11_10 : u_lay RX11 TX11 10 ∈ zT := zin 755 (by decide +kernel) (by decide +kernel)
theorem l11_11 : u_lay RX11 TX11 11 ∈ zT := zin 757 (by decide +kernel) (by decide +kernel)
theorem l11_12 : u_lay RX11 TX11 12 ∈ zT := zin 759 (by decide +kernel) (by decide +kernel)
theorem cf11 : zCF 11 RX11 TX11 13 := ⟨rfl, fun w hw => by
  obtain ⟨k, hk, rfl⟩ := List.mem_map.mp hw
  have hk := List.mem_range.mp hk
  match k, hk with
  | 0, _ => exact l11_0
  | 1, _ => exact l11_1
  | 2, _ => exact l11_2
  | 3, _ => exact l11_3
  | 4, _ => exact l11_4
  | 5, _ => exact l11_5
  | 6, _ => exact l11_6
  | 7, _ => exact l11_7
  | 8, _ => exact l11_8
  | 9, _ => exact l11_9
  | 10, _ => exact l11_10
  | 11, _ => exact l11_11
  | 12, _ => exact l11_12
  | k + 13, hk => exact absurd hk (by omega), nmX11, tyX11, tyX11_ok⟩
theorem l12_0 : u_lay RX12 TX12 0 ∈ zT := zin 1455 (by decide +kernel) (by decide +kernel)
theorem l12_1 : u_lay RX12 TX12 1 ∈ zT := zin 1457 (by decide +kernel) (by decide +kernel)
theorem l12_2 : u_lay RX12 TX12 2 ∈ zT := zin 1459 (by decide +kernel) (by decide +kernel)
theorem l12_3 : u_lay RX12 TX12 3 ∈ zT := zin 1461 (by decide +kernel) (by decide +kernel)
theorem l12_4 : u_lay RX12 TX12 4 ∈ zT := zin 1463 (by decide +kernel) (by decide +kernel)
theorem l12_5 : u_lay RX12 TX12 5 ∈ zT := zin 1465 (by decide +kernel) (by decide +kernel)
theorem l12_6 : u_lay RX12 TX12 6 ∈ zT := zin 1467 (by decide +kernel) (by decide +kernel)
theorem l12_7 : u_lay RX12 TX12 7 ∈ zT := zin 1469 (by decide +kernel) (by decide +kernel)
theorem l12_8 : u_lay RX12 TX12 8 ∈ zT := zin 1471 (by decide +kernel) (by decide +kernel)
theorem l12_9 : u_lay RX12 TX12 9 ∈ zT := zin 1473 (by decide +kernel) (by decide +kernel)
theorem l12_10 : u_lay RX12 TX12 10 ∈ zT := zin 1475 (by decide +kernel) (by decide +kernel)
theorem l12_11 : u_lay RX12 TX12 11 ∈ zT := zin 1477 (by decide +kernel) (by decide +kernel)
theorem l12_12 : u_lay RX12 TX12 12 ∈ zT := zin 1479 (by decide +kernel) (by decide +kernel)
theorem l12_13 : u_lay RX12 TX12 13 ∈ zT := zin 1481 (by decide +kernel) (by decide +kernel)
theorem l12_14 : u_lay RX12 TX12 14 ∈ zT := zin 1483 (by decide +kernel) (by decide +kernel)
theorem l12_15 : u_lay RX12 TX12 15 ∈ zT := zin 1485 (by decide +kernel) (by decide +kernel)
theorem l12_16 : u_lay RX12 TX12 16 ∈ zT := zin 1487 (by decide +kernel) (by decide +kernel)
theorem l12_17 : u_lay RX12 TX12 17 ∈ zT := zin 1489 (by decide +kernel) (by decide +kernel)
theorem l12_18 : u_lay RX12 TX12 18 ∈ zT := zin 1491 (by decide +kernel) (by decide +kernel)
theorem l12_19 : u_lay RX12 TX12 19 ∈ zT := zin 1493 (by decide +kernel) (by decide +kernel)
theorem l12_20 : u_lay RX12 TX12 20 ∈ zT := zin 1495 (by decide +kernel) (by decide +kernel)
theorem l12_21 : u_lay RX12 TX12 21 ∈ zT := zin 1497 (by decide +kernel) (by decide +kernel)
theorem l12_22 : u_lay RX12 TX12 22 ∈ zT := zin 1499 (by decide +kernel) (by decide +kernel)
theorem l12_23 : u_lay RX12 TX12 23 ∈ zT := zin 1501 (by decide +kernel) (by decide +kernel)
theorem l12_24 : u_lay RX12 TX12 24 ∈ zT := zin 1503 (by decide +kernel) (by decide +kernel)
theorem cf12 : zCF 12 RX12 TX12 25 := ⟨rfl, fun w hw => by
  obtain ⟨k, hk, rfl⟩ := List.mem_map.mp hw
  have hk := List.mem_range.mp hk
  match k, hk with
  | 0, _ => exact l12_0
  | 1, _ => exact l12_1
  | 2, _ => exact l12_2
  | 3, _ => exact l12_3
  | 4, _ => exact l12_4
  | 5, _ => exact l12_5
  | 6, _ => exact l12_6
  | 7, _ => exact l12_7
  | 8, _ => exact l12_8
  | 9, _ => exact l12_9
  | 10, _ => exact l12_10
  | 11, _ => exact l12_11
  | 12, _ => exact l12_12
  | 13, _ => exact l12_13
  | 14, _ => exact l12_14
  | 15, _ => exact l12_15
  | 16, _ => exact l12_16
  | 17, _ => exact l12_17
  | 18, _ => exact l12_18
  | 19, _ => exact l12_19
  | 20, _ => exact l12_20
  | 21, _ => exact l12_21
  | 22, _ => exact l12_22
  | 23, _ => exact l12_23
  | 24, _ => exact l12_24
  | k + 25, hk => exact absurd hk (by omega), nmX12, tyX12, tyX12_ok⟩
theorem g0_11 : zFL RX0 11 0 0 := ⟨RX0, TX0, 3, cf0, by decide, q434⟩
theorem g0_17 : zFL RX0 17 0 1 := ⟨RX0, TX0, 3, cf0, by decide, q435⟩
theorem p0_17 : zFP RX0 17 0 1 := ⟨RX0, TX0, 3, cf0, by decide, q435, rfl, rfl⟩
theorem g0_21 : zFL RX0 21 0 2 := ⟨RX0, TX0, 3, cf0, by decide, q436⟩
theorem p0_21 : zFP RX0 21 0 2 := ⟨RX0, TX0, 3, cf0, by decide, q436, rfl, rfl⟩
theorem g1_9 : zFL RX1 9 1 1 := ⟨RX1, TX1, 4, cf1, by decide, q411⟩
theorem p1_9 : zFP RX1 9 1 1 := ⟨RX1, TX1, 4, cf1, by decide, q411, rfl, rfl⟩
theorem g1_15 : zFL RX1 15 1 2 := ⟨RX1, TX1, 4, cf1, by decide, q413⟩
theorem p1_15 : zFP RX1 15 1 2 := ⟨RX1, TX1, 4, cf1, by decide, q413, rfl, rfl⟩
theorem g1_18 : zFL RX1 18 1 3 := ⟨RX1, TX1, 4, cf1, by decide, q415⟩
theorem p1_18 : zFP RX1 18 1 3 := ⟨RX1, TX1, 4, cf1, by decide, q415, rfl, rfl⟩
theorem g1_21 : zFL RX1 21 1 0 := ⟨RX1, TX1, 4, cf1, by decide, q410⟩
theorem g1_29 : zFL RX1 29 2 15 := ⟨RX2, TX2, 16, cf2, by decide, q370⟩
theorem p1_29 : zFP RX1 29 2 15 := ⟨RX2, TX2, 16, cf2, by decide, q370, rfl, rfl⟩
theorem g1_34 : zFL RX1 34 2 5 := ⟨RX2, TX2, 16, cf2, by decide, q344⟩
theorem g1_49 : zFL RX1 49 2 7 := ⟨RX2, TX2, 16, cf2, by decide, q350⟩
theorem g1_52 : zFL RX1 52 2 0 := ⟨RX2, TX2, 16, cf2, by decide, q330⟩
theorem g1_56 : zFL RX1 56 6 0 := ⟨RX6, TX6, 5, cf6, by decide, q153⟩
theorem g1_61 : zFL RX1 61 2 12 := ⟨RX2, TX2, 16, cf2, by decide, q364⟩
theorem p1_61 : zFP RX1 61 2 12 := ⟨RX2, TX2, 16, cf2, by decide, q364, rfl, rfl⟩
theorem g1_64 : zFL RX1 64 2 3 := ⟨RX2, TX2, 16, cf2, by decide, q338⟩
theorem g1_68 : zFL RX1 68 8 1 := ⟨RX8, TX8, 9, cf8, by decide, q270⟩
theorem g1_73 : zFL RX1 73 2 13 := ⟨RX2, TX2, 16, cf2, by decide, q366⟩
theorem p1_73 : zFP RX1 73 2 13 := ⟨RX2, TX2, 16, cf2, by decide, q366, rfl, rfl⟩
theorem g1_79 : zFL RX1 79 2 2 := ⟨RX2, TX2, 16, cf2, by decide, q335⟩
theorem g1_89 : zFL RX1 89 2 8 := ⟨RX2, TX2, 16, cf2, by decide, q353⟩
theorem g1_92 : zFL RX1 92 2 14 := ⟨RX2, TX2, 16, cf2, by decide, q368⟩
theorem p1_92 : zFP RX1 92 2 14 := ⟨RX2, TX2, 16, cf2, by decide, q368, rfl, rfl⟩
theorem g1_98 : zFL RX1 98 2 10 := ⟨RX2, TX2, 16, cf2, by decide, q359⟩
theorem p1_98 : zFP RX1 98 2 10 := ⟨RX2, TX2, 16, cf2, by decide, q359, rfl, rfl⟩
theorem g1_117 : zFL RX1 117 2 6 := ⟨RX2, TX2, 16, cf2, by decide, q347⟩
theorem g1_123 : zFL RX1 123 2 9 := ⟨RX2, TX2, 16, cf2, by decide, q356⟩
theorem p1_123 : zFP RX1 123 2 9 := ⟨RX2, TX2, 16, cf2, by decide, q356, rfl, rfl⟩
theorem g1_129 : zFL RX1 129 2 4 := ⟨RX2, TX2, 16, cf2, by decide, q341⟩
theorem g1_143 : zFL RX1 143 8 2 := ⟨RX8, TX8, 9, cf8, by decide, q274⟩
theorem g1_149 : zFL RX1 149 8 0 := ⟨RX8, TX8, 9, cf8, by decide, q267⟩
theorem g1_152 : zFL RX1 152 6 2 := ⟨RX6, TX6, 5, cf6, by decide, q159⟩
theorem g1_162 : zFL RX1 162 2 1 := ⟨RX2, TX2, 16, cf2, by decide, q333⟩
theorem g1_169 : zFL RX1 169 3 3 := ⟨RX3, TX3, 9, cf3, by decide, q204⟩
theorem g1_175 : zFL RX1 175 8 3 := ⟨RX8, TX8, 9, cf8, by decide, q277⟩
theorem g1_178 : zFL RX1 178 8 6 := ⟨RX8, TX8, 9, cf8, by decide, q287⟩
theorem g1_187 : zFL RX1 187 6 3 := ⟨RX6, TX6, 5, cf6, by decide, q163⟩
theorem g1_190 : zFL RX1 190 8 5 := ⟨RX8, TX8, 9, cf8, by decide, q284⟩
theorem g1_193 : zFL RX1 193 8 4 := ⟨RX8, TX8, 9, cf8, by decide, q280⟩
theorem g2_12 : zFL RX2 12 2 1 := ⟨RX2, TX2, 16, cf2, by decide, q331⟩
theorem g2_21 : zFL RX2 21 2 2 := ⟨RX2, TX2, 16, cf2, by decide, q334⟩
theorem g2_28 : zFL RX2 28 2 3 := ⟨RX2, TX2, 16, cf2, by decide, q337⟩
theorem g2_35 : zFL RX2 35 2 4 := ⟨RX2, TX2, 16, cf2, by decide, q340⟩
theorem g2_39 : zFL RX2 39 2 5 := ⟨RX2, TX2, 16, cf2, by decide, q343⟩
theorem g2_43 : zFL RX2 43 2 6 := ⟨RX2, TX2, 16, cf2, by decide, q346⟩
theorem g2_46 : zFL RX2 46 2 7 := ⟨RX2, TX2, 16, cf2, by decide, q349⟩
theorem g2_49 : zFL RX2 49 2 8 := ⟨RX2, TX2, 16, cf2, by decide, q352⟩
theorem p2_49 : zFP RX2 49 2 8 := ⟨RX2, TX2, 16, cf2, by decide, q352, rfl, rfl⟩
theorem g2_53 : zFL RX2 53 2 9 := ⟨RX2, TX2, 16, cf2, by decide, q355⟩
theorem p2_53 : zFP RX2 53 2 9 := ⟨RX2, TX2, 16, cf2, by decide, q355, rfl, rfl⟩
theorem g2_56 : zFL RX2 56 2 10 := ⟨RX2, TX2, 16, cf2, by decide, q358⟩
theorem p2_56 : zFP RX2 56 2 10 := ⟨RX2, TX2, 16, cf2, by decide, q358, rfl, rfl⟩
theorem g2_59 : zFL RX2 59 2 11 := ⟨RX2, TX2, 16, cf2, by decide, q361⟩
theorem p2_59 : zFP RX2 59 2 11 := ⟨RX2, TX2, 16, cf2, by decide, q361, rfl, rfl⟩
theorem g2_62 : zFL RX2 62 2 12 := ⟨RX2, TX2, 16, cf2, by decide, q363⟩
theorem p2_62 : zFP RX2 62 2 12 := ⟨RX2, TX2, 16, cf2, by decide, q363, rfl, rfl⟩
theorem g2_65 : zFL RX2 65 2 13 := ⟨RX2, TX2, 16, cf2, by decide, q365⟩
theorem p2_65 : zFP RX2 65 2 13 := ⟨RX2, TX2, 16, cf2, by decide, q365, rfl, rfl⟩
theorem g2_68 : zFL RX2 68 2 14 := ⟨RX2, TX2, 16, cf2, by decide, q367⟩
theorem p2_68 : zFP RX2 68 2 14 := ⟨RX2, TX2, 16, cf2, by decide, q367, rfl, rfl⟩
theorem g2_71 : zFL RX2 71 2 15 := ⟨RX2, TX2, 16, cf2, by decide, q369⟩
theorem p2_71 : zFP RX2 71 2 15 := ⟨RX2, TX2, 16, cf2, by decide, q369, rfl, rfl⟩
theorem g2_74 : zFL RX2 74 2 0 := ⟨RX2, TX2, 16, cf2, by decide, q329⟩
theorem g2_78 : zFL RX2 78 3 0 := ⟨RX3, TX3, 9, cf3, by decide, q194⟩
theorem p2_78 : zFP RX2 78 3 0 := ⟨RX3, TX3, 9, cf3, by decide, q194, rfl, rfl⟩
theorem g2_86 : zFL RX2 86 7 2 := ⟨RX7, TX7, 7, cf7, by decide, q488⟩
theorem g2_95 : zFL RX2 95 7 3 := ⟨RX7, TX7, 7, cf7, by decide, q490⟩
theorem g2_96 : zFL RX2 96 7 4 := ⟨RX7, TX7, 7, cf7, by decide, q492⟩
theorem g2_97 : zFL RX2 97 7 5 := ⟨RX7, TX7, 7, cf7, by decide, q494⟩
theorem g2_115 : zFL RX2 115 6 0 := ⟨RX6, TX6, 5, cf6, by decide, q155⟩
theorem g2_122 : zFL RX2 122 8 1 := ⟨RX8, TX8, 9, cf8, by decide, q271⟩
theorem g2_125 : zFL RX2 125 8 0 := ⟨RX8, TX8, 9, cf8, by decide, q266⟩
theorem g2_131 : zFL RX2 131 3 1 := ⟨RX3, TX3, 9, cf3, by decide, q197⟩
theorem g2_134 : zFL RX2 134 3 2 := ⟨RX3, TX3, 9, cf3, by decide, q200⟩
theorem g2_137 : zFL RX2 137 3 3 := ⟨RX3, TX3, 9, cf3, by decide, q203⟩
theorem g2_140 : zFL RX2 140 3 5 := ⟨RX3, TX3, 9, cf3, by decide, q210⟩
theorem g2_143 : zFL RX2 143 3 6 := ⟨RX3, TX3, 9, cf3, by decide, q213⟩
theorem g2_146 : zFL RX2 146 3 7 := ⟨RX3, TX3, 9, cf3, by decide, q216⟩
theorem g2_149 : zFL RX2 149 3 8 := ⟨RX3, TX3, 9, cf3, by decide, q219⟩
theorem g2_152 : zFL RX2 152 3 4 := ⟨RX3, TX3, 9, cf3, by decide, q207⟩
theorem g2_160 : zFL RX2 160 8 6 := ⟨RX8, TX8, 9, cf8, by decide, q289⟩
theorem g2_163 : zFL RX2 163 8 4 := ⟨RX8, TX8, 9, cf8, by decide, q282⟩
theorem g2_170 : zFL RX2 170 8 7 := ⟨RX8, TX8, 9, cf8, by decide, q291⟩
theorem g2_176 : zFL RX2 176 6 4 := ⟨RX6, TX6, 5, cf6, by decide, q168⟩
theorem g3_9 : zFL RX3 9 3 0 := ⟨RX3, TX3, 9, cf3, by decide, q193⟩
theorem p3_9 : zFP RX3 9 3 0 := ⟨RX3, TX3, 9, cf3, by decide, q193, rfl, rfl⟩
theorem g3_15 : zFL RX3 15 3 1 := ⟨RX3, TX3, 9, cf3, by decide, q196⟩
theorem g3_19 : zFL RX3 19 3 2 := ⟨RX3, TX3, 9, cf3, by decide, q199⟩
theorem g3_22 : zFL RX3 22 3 3 := ⟨RX3, TX3, 9, cf3, by decide, q202⟩
theorem g3_25 : zFL RX3 25 3 4 := ⟨RX3, TX3, 9, cf3, by decide, q206⟩
theorem g3_28 : zFL RX3 28 3 5 := ⟨RX3, TX3, 9, cf3, by decide, q209⟩
theorem g3_31 : zFL RX3 31 3 6 := ⟨RX3, TX3, 9, cf3, by decide, q212⟩
theorem g3_34 : zFL RX3 34 3 7 := ⟨RX3, TX3, 9, cf3, by decide, q215⟩
theorem g3_37 : zFL RX3 37 3 8 := ⟨RX3, TX3, 9, cf3, by decide, q218⟩
theorem g4_11 : zFL RX4 11 4 0 := ⟨RX4, TX4, 4, cf4, by decide, q246⟩
theorem g4_15 : zFL RX4 15 4 1 := ⟨RX4, TX4, 4, cf4, by decide, q247⟩
theorem g4_18 : zFL RX4 18 4 2 := ⟨RX4, TX4, 4, cf4, by decide, q248⟩
theorem g4_21 : zFL RX4 21 4 3 := ⟨RX4, TX4, 4, cf4, by decide, q249⟩
theorem g5_9 : zFL RX5 9 5 2 := ⟨RX5, TX5, 7, cf5, by decide, q519⟩
theorem g5_15 : zFL RX5 15 5 3 := ⟨RX5, TX5, 7, cf5, by decide, q521⟩
theorem g5_18 : zFL RX5 18 5 4 := ⟨RX5, TX5, 7, cf5, by decide, q523⟩
theorem g5_21 : zFL RX5 21 5 5 := ⟨RX5, TX5, 7, cf5, by decide, q525⟩
theorem g5_24 : zFL RX5 24 5 6 := ⟨RX5, TX5, 7, cf5, by decide, q527⟩
theorem p5_24 : zFP RX5 24 5 6 := ⟨RX5, TX5, 7, cf5, by decide, q527, rfl, rfl⟩
theorem g5_28 : zFL RX5 28 5 0 := ⟨RX5, TX5, 7, cf5, by decide, q517⟩
theorem g5_32 : zFL RX5 32 5 1 := ⟨RX5, TX5, 7, cf5, by decide, q518⟩
theorem g6_9 : zFL RX6 9 6 0 := ⟨RX6, TX6, 5, cf6, by decide, q151⟩
theorem p6_9 : zFP RX6 9 6 0 := ⟨RX6, TX6, 5, cf6, by decide, q151, rfl, rfl⟩
theorem g6_15 : zFL RX6 15 6 1 := ⟨RX6, TX6, 5, cf6, by decide, q156⟩
theorem g6_19 : zFL RX6 19 6 2 := ⟨RX6, TX6, 5, cf6, by decide, q157⟩
theorem g6_22 : zFL RX6 22 6 3 := ⟨RX6, TX6, 5, cf6, by decide, q161⟩
theorem g6_25 : zFL RX6 25 6 4 := ⟨RX6, TX6, 5, cf6, by decide, q165⟩
theorem g7_12 : zFL RX7 12 7 1 := ⟨RX7, TX7, 7, cf7, by decide, q485⟩
theorem g7_18 : zFL RX7 18 7 2 := ⟨RX7, TX7, 7, cf7, by decide, q487⟩
theorem g7_22 : zFL RX7 22 7 3 := ⟨RX7, TX7, 7, cf7, by decide, q489⟩
theorem g7_25 : zFL RX7 25 7 4 := ⟨RX7, TX7, 7, cf7, by decide, q491⟩
theorem p7_25 : zFP RX7 25 7 4 := ⟨RX7, TX7, 7, cf7, by decide, q491, rfl, rfl⟩
theorem p7_29 : zFP RX7 29 7 5 := ⟨RX7, TX7, 7, cf7, by decide, q493, rfl, rfl⟩
theorem g7_32 : zFL RX7 32 7 6 := ⟨RX7, TX7, 7, cf7, by decide, q495⟩
theorem p7_32 : zFP RX7 32 7 6 := ⟨RX7, TX7, 7, cf7, by decide, q495, rfl, rfl⟩
theorem g7_35 : zFL RX7 35 7 0 := ⟨RX7, TX7, 7, cf7, by decide, q484⟩
theorem g7_39 : zFL RX7 39 6 0 := ⟨RX6, TX6, 5, cf6, by decide, q152⟩
theorem p7_39 : zFP RX7 39 6 0 := ⟨RX6, TX6, 5, cf6, by decide, q152, rfl, rfl⟩
theorem g7_116 : zFL RX7 116 6 2 := ⟨RX6, TX6, 5, cf6, by decide, q158⟩
theorem g7_125 : zFL RX7 125 6 3 := ⟨RX6, TX6, 5, cf6, by decide, q162⟩
theorem g7_130 : zFL RX7 130 6 4 := ⟨RX6, TX6, 5, cf6, by decide, q166⟩
theorem g8_9 : zFL RX8 9 8 0 := ⟨RX8, TX8, 9, cf8, by decide, q265⟩
theorem g8_15 : zFL RX8 15 8 1 := ⟨RX8, TX8, 9, cf8, by decide, q269⟩
theorem g8_18 : zFL RX8 18 8 2 := ⟨RX8, TX8, 9, cf8, by decide, q273⟩
theorem g8_21 : zFL RX8 21 8 3 := ⟨RX8, TX8, 9, cf8, by decide, q276⟩
theorem g8_24 : zFL RX8 24 8 4 := ⟨RX8, TX8, 9, cf8, by decide, q279⟩
theorem g8_27 : zFL RX8 27 8 5 := ⟨RX8, TX8, 9, cf8, by decide, q283⟩
theorem g8_30 : zFL RX8 30 8 6 := ⟨RX8, TX8, 9, cf8, by decide, q286⟩
theorem g8_33 : zFL RX8 33 8 7 := ⟨RX8, TX8, 9, cf8, by decide, q290⟩
theorem g8_36 : zFL RX8 36 8 8 := ⟨RX8, TX8, 9, cf8, by decide, q292⟩
theorem g9_9 : zFL RX9 9 9 0 := ⟨RX9, TX9, 7, cf9, by decide, q451⟩
theorem g9_15 : zFL RX9 15 9 1 := ⟨RX9, TX9, 7, cf9, by decide, q452⟩
theorem p9_15 : zFP RX9 15 9 1 := ⟨RX9, TX9, 7, cf9, by decide, q452, rfl, rfl⟩
theorem g9_19 : zFL RX9 19 9 2 := ⟨RX9, TX9, 7, cf9, by decide, q454⟩
theorem p9_19 : zFP RX9 19 9 2 := ⟨RX9, TX9, 7, cf9, by decide, q454, rfl, rfl⟩
theorem g9_22 : zFL RX9 22 9 3 := ⟨RX9, TX9, 7, cf9, by decide, q455⟩
theorem p9_22 : zFP RX9 22 9 3 := ⟨RX9, TX9, 7, cf9, by decide, q455, rfl, rfl⟩
theorem g9_25 : zFL RX9 25 9 4 := ⟨RX9, TX9, 7, cf9, by decide, q456⟩
theorem p9_25 : zFP RX9 25 9 4 := ⟨RX9, TX9, 7, cf9, by decide, q456, rfl, rfl⟩
theorem p9_28 : zFP RX9 28 9 5 := ⟨RX9, TX9, 7, cf9, by decide, q457, rfl, rfl⟩
theorem p9_31 : zFP RX9 31 9 6 := ⟨RX9, TX9, 7, cf9, by decide, q459, rfl, rfl⟩
theorem g10_9 : zFL RX10 9 10 0 := ⟨RX10, TX10, 3, cf10, by decide, q318⟩
theorem p10_9 : zFP RX10 9 10 0 := ⟨RX10, TX10, 3, cf10, by decide, q318, rfl, rfl⟩
theorem g10_15 : zFL RX10 15 10 1 := ⟨RX10, TX10, 3, cf10, by decide, q320⟩
theorem p10_15 : zFP RX10 15 10 1 := ⟨RX10, TX10, 3, cf10, by decide, q320, rfl, rfl⟩
theorem g10_18 : zFL RX10 18 10 2 := ⟨RX10, TX10, 3, cf10, by decide, q321⟩
theorem g11_10 : zFL RX11 10 11 0 := ⟨RX11, TX11, 13, cf11, by decide, q722⟩
theorem g11_21 : zFL RX11 21 11 1 := ⟨RX11, TX11, 13, cf11, by decide, q723⟩
theorem g11_30 : zFL RX11 30 11 2 := ⟨RX11, TX11, 13, cf11, by decide, q724⟩
theorem g11_34 : zFL RX11 34 11 3 := ⟨RX11, TX11, 13, cf11, by decide, q725⟩
theorem g11_37 : zFL RX11 37 11 4 := ⟨RX11, TX11, 13, cf11, by decide, q726⟩
theorem g11_40 : zFL RX11 40 11 5 := ⟨RX11, TX11, 13, cf11, by decide, q727⟩
theorem g11_46 : zFL RX11 46 11 6 := ⟨RX11, TX11, 13, cf11, by decide, q728⟩
theorem g11_53 : zFL RX11 53 11 7 := ⟨RX11, TX11, 13, cf11, by decide, q729⟩
theorem g11_62 : zFL RX11 62 11 8 := ⟨RX11, TX11, 13, cf11, by decide, q730⟩
theorem g11_71 : zFL RX11 71 11 9 := ⟨RX11, TX11, 13, cf11, by decide, q731⟩
theorem g11_75 : zFL RX11 75 11 10 := ⟨RX11, TX11, 13, cf11, by decide, q732⟩
theorem g11_79 : zFL RX11 79 11 11 := ⟨RX11, TX11, 13, cf11, by decide, q733⟩
theorem p11_79 : zFP RX11 79 11 11 := ⟨RX11, TX11, 13, cf11, by decide, q733, rfl, rfl⟩
theorem g11_83 : zFL RX11 83 11 12 := ⟨RX11, TX11, 13, cf11, by decide, q734⟩
theorem p11_83 : zFZ RX11 83 11 12 := ⟨RX11, TX11, 13, cf11, by decide, q734, rfl, rfl⟩
theorem g11_110 : zFL RX11 110 9 1 := ⟨RX9, TX9, 7, cf9, by decide, q453⟩
theorem p11_110 : zFP RX11 110 9 1 := ⟨RX9, TX9, 7, cf9, by decide, q453, rfl, rfl⟩
theorem g11_115 : zFL RX11 115 6 0 := ⟨RX6, TX6, 5, cf6, by decide, q154⟩
theorem g11_118 : zFL RX11 118 7 1 := ⟨RX7, TX7, 7, cf7, by decide, q486⟩
theorem g11_128 : zFL RX11 128 0 2 := ⟨RX0, TX0, 3, cf0, by decide, q437⟩
theorem p11_128 : zFP RX11 128 0 2 := ⟨RX0, TX0, 3, cf0, by decide, q437, rfl, rfl⟩
theorem g11_133 : zFL RX11 133 5 6 := ⟨RX5, TX5, 7, cf5, by decide, q528⟩
theorem g11_138 : zFL RX11 138 5 3 := ⟨RX5, TX5, 7, cf5, by decide, q522⟩
theorem g11_141 : zFL RX11 141 5 2 := ⟨RX5, TX5, 7, cf5, by decide, q520⟩
theorem g11_144 : zFL RX11 144 2 1 := ⟨RX2, TX2, 16, cf2, by decide, q332⟩
theorem g11_153 : zFL RX11 153 5 4 := ⟨RX5, TX5, 7, cf5, by decide, q524⟩
theorem g11_156 : zFL RX11 156 5 5 := ⟨RX5, TX5, 7, cf5, by decide, q526⟩
theorem g11_167 : zFL RX11 167 2 10 := ⟨RX2, TX2, 16, cf2, by decide, q360⟩
theorem g11_173 : zFL RX11 173 2 8 := ⟨RX2, TX2, 16, cf2, by decide, q354⟩
theorem g11_182 : zFL RX11 182 9 5 := ⟨RX9, TX9, 7, cf9, by decide, q458⟩
theorem g11_185 : zFL RX11 185 9 6 := ⟨RX9, TX9, 7, cf9, by decide, q460⟩
theorem g11_188 : zFL RX11 188 3 0 := ⟨RX3, TX3, 9, cf3, by decide, q195⟩
theorem g11_189 : zFL RX11 189 2 9 := ⟨RX2, TX2, 16, cf2, by decide, q357⟩
theorem g11_192 : zFL RX11 192 2 11 := ⟨RX2, TX2, 16, cf2, by decide, q362⟩
theorem g11_199 : zFL RX11 199 2 3 := ⟨RX2, TX2, 16, cf2, by decide, q339⟩
theorem g11_203 : zFL RX11 203 8 1 := ⟨RX8, TX8, 9, cf8, by decide, q272⟩
theorem g11_212 : zFL RX11 212 8 0 := ⟨RX8, TX8, 9, cf8, by decide, q268⟩
theorem g11_218 : zFL RX11 218 2 6 := ⟨RX2, TX2, 16, cf2, by decide, q348⟩
theorem g11_221 : zFL RX11 221 2 5 := ⟨RX2, TX2, 16, cf2, by decide, q345⟩
theorem g11_230 : zFL RX11 230 6 2 := ⟨RX6, TX6, 5, cf6, by decide, q160⟩
theorem g11_233 : zFL RX11 233 6 3 := ⟨RX6, TX6, 5, cf6, by decide, q164⟩
theorem g11_236 : zFL RX11 236 6 4 := ⟨RX6, TX6, 5, cf6, by decide, q167⟩
theorem g11_239 : zFL RX11 239 8 2 := ⟨RX8, TX8, 9, cf8, by decide, q275⟩
theorem g11_242 : zFL RX11 242 2 2 := ⟨RX2, TX2, 16, cf2, by decide, q336⟩
theorem g11_254 : zFL RX11 254 8 3 := ⟨RX8, TX8, 9, cf8, by decide, q278⟩
theorem g11_257 : zFL RX11 257 8 4 := ⟨RX8, TX8, 9, cf8, by decide, q281⟩
theorem g11_260 : zFL RX11 260 8 5 := ⟨RX8, TX8, 9, cf8, by decide, q285⟩
theorem g11_263 : zFL RX11 263 8 6 := ⟨RX8, TX8, 9, cf8, by decide, q288⟩
theorem g11_270 : zFL RX11 270 3 1 := ⟨RX3, TX3, 9, cf3, by decide, q198⟩
theorem g11_273 : zFL RX11 273 3 2 := ⟨RX3, TX3, 9, cf3, by decide, q201⟩
theorem g11_276 : zFL RX11 276 3 3 := ⟨RX3, TX3, 9, cf3, by decide, q205⟩
theorem g11_279 : zFL RX11 279 3 4 := ⟨RX3, TX3, 9, cf3, by decide, q208⟩
theorem g11_282 : zFL RX11 282 3 5 := ⟨RX3, TX3, 9, cf3, by decide, q211⟩
theorem g11_285 : zFL RX11 285 3 6 := ⟨RX3, TX3, 9, cf3, by decide, q214⟩
theorem g11_288 : zFL RX11 288 3 7 := ⟨RX3, TX3, 9, cf3, by decide, q217⟩
theorem g11_291 : zFL RX11 291 3 8 := ⟨RX3, TX3, 9, cf3, by decide, q220⟩
theorem g11_300 : zFL RX11 300 2 7 := ⟨RX2, TX2, 16, cf2, by decide, q351⟩
theorem g11_303 : zFL RX11 303 2 4 := ⟨RX2, TX2, 16, cf2, by decide, q342⟩
theorem g11_307 : zFL RX11 307 10 0 := ⟨RX10, TX10, 3, cf10, by decide, q319⟩
theorem g11_316 : zFL RX11 316 1 1 := ⟨RX1, TX1, 4, cf1, by decide, q412⟩
theorem g11_319 : zFL RX11 319 1 2 := ⟨RX1, TX1, 4, cf1, by decide, q414⟩
theorem g12_1 : zFL RX12 1 12 0 := ⟨RX12, TX12, 25, cf12, by decide, q1428⟩
theorem p12_1 : zFP RX12 1 12 0 := ⟨RX12, TX12, 25, cf12, by decide, q1428, rfl, rfl⟩
theorem g12_13 : zFL RX12 13 12 1 := ⟨RX12, TX12, 25, cf12, by decide, q1429⟩
theorem g12_17 : zFL RX12 17 12 2 := ⟨RX12, TX12, 25, cf12, by decide, q1430⟩
theorem g12_20 : zFL RX12 20 12 3 := ⟨RX12, TX12, 25, cf12, by decide, q1431⟩
theorem g12_23 : zFL RX12 23 12 4 := ⟨RX12, TX12, 25, cf12, by decide, q1432⟩
theorem g12_26 : zFL RX12 26 12 10 := ⟨RX12, TX12, 25, cf12, by decide, q1438⟩
theorem g12_30 : zFL RX12 30 12 13 := ⟨RX12, TX12, 25, cf12, by decide, q1441⟩
theorem p12_30 : zFP RX12 30 12 13 := ⟨RX12, TX12, 25, cf12, by decide, q1441, rfl, rfl⟩
theorem g12_33 : zFL RX12 33 12 20 := ⟨RX12, TX12, 25, cf12, by decide, q1448⟩
theorem g12_36 : zFL RX12 36 12 22 := ⟨RX12, TX12, 25, cf12, by decide, q1450⟩
theorem g12_39 : zFL RX12 39 12 23 := ⟨RX12, TX12, 25, cf12, by decide, q1451⟩
theorem g12_121 : zFL RX12 121 12 7 := ⟨RX12, TX12, 25, cf12, by decide, q1435⟩
theorem p12_121 : zFP RX12 121 12 7 := ⟨RX12, TX12, 25, cf12, by decide, q1435, rfl, rfl⟩
theorem g12_134 : zFL RX12 134 12 9 := ⟨RX12, TX12, 25, cf12, by decide, q1437⟩
theorem p12_134 : zFP RX12 134 12 9 := ⟨RX12, TX12, 25, cf12, by decide, q1437, rfl, rfl⟩
theorem g12_140 : zFL RX12 140 12 8 := ⟨RX12, TX12, 25, cf12, by decide, q1436⟩
theorem p12_140 : zFP RX12 140 12 8 := ⟨RX12, TX12, 25, cf12, by decide, q1436, rfl, rfl⟩
theorem g12_174 : zFL RX12 174 12 11 := ⟨RX12, TX12, 25, cf12, by decide, q1439⟩
theorem p12_174 : zFP RX12 174 12 11 := ⟨RX12, TX12, 25, cf12, by decide, q1439, rfl, rfl⟩
theorem g12_180 : zFL RX12 180 12 12 := ⟨RX12, TX12, 25, cf12, by decide, q1440⟩
theorem p12_180 : zFP RX12 180 12 12 := ⟨RX12, TX12, 25, cf12, by decide, q1440, rfl, rfl⟩
theorem g12_183 : zFL RX12 183 12 15 := ⟨RX12, TX12, 25, cf12, by decide, q1443⟩
theorem p12_183 : zFP RX12 183 12 15 := ⟨RX12, TX12, 25, cf12, by decide, q1443, rfl, rfl⟩
theorem g12_189 : zFL RX12 189 12 14 := ⟨RX12, TX12, 25, cf12, by decide, q1442⟩
theorem p12_189 : zFP RX12 189 12 14 := ⟨RX12, TX12, 25, cf12, by decide, q1442, rfl, rfl⟩
theorem g12_192 : zFL RX12 192 12 17 := ⟨RX12, TX12, 25, cf12, by decide, q1445⟩
theorem p12_192 : zFP RX12 192 12 17 := ⟨RX12, TX12, 25, cf12, by decide, q1445, rfl, rfl⟩
theorem g12_195 : zFL RX12 195 12 18 := ⟨RX12, TX12, 25, cf12, by decide, q1446⟩
theorem p12_195 : zFP RX12 195 12 18 := ⟨RX12, TX12, 25, cf12, by decide, q1446, rfl, rfl⟩
theorem g12_198 : zFL RX12 198 12 16 := ⟨RX12, TX12, 25, cf12, by decide, q1444⟩
theorem p12_198 : zFP RX12 198 12 16 := ⟨RX12, TX12, 25, cf12, by decide, q1444, rfl, rfl⟩
theorem g12_244 : zFL RX12 244 12 19 := ⟨RX12, TX12, 25, cf12, by decide, q1447⟩
theorem p12_244 : zFP RX12 244 12 19 := ⟨RX12, TX12, 25, cf12, by decide, q1447, rfl, rfl⟩
theorem g12_294 : zFL RX12 294 12 5 := ⟨RX12, TX12, 25, cf12, by decide, q1433⟩
theorem p12_294 : zFP RX12 294 12 5 := ⟨RX12, TX12, 25, cf12, by decide, q1433, rfl, rfl⟩
theorem g12_297 : zFL RX12 297 12 6 := ⟨RX12, TX12, 25, cf12, by decide, q1434⟩
theorem p12_297 : zFZ RX12 297 12 6 := ⟨RX12, TX12, 25, cf12, by decide, q1434, rfl, rfl⟩
theorem g12_301 : zFL RX12 301 12 21 := ⟨RX12, TX12, 25, cf12, by decide, q1449⟩
theorem p12_301 : zFP RX12 301 12 21 := ⟨RX12, TX12, 25, cf12, by decide, q1449, rfl, rfl⟩
theorem g12_391 : zFL RX12 391 12 24 := ⟨RX12, TX12, 25, cf12, by decide, q1452⟩
theorem p12_391 : zFP RX12 391 12 24 := ⟨RX12, TX12, 25, cf12, by decide, q1452, rfl, rfl⟩
theorem ac2_89 : Cond.methodLink RX2 89 arraycopyName ∈ zT ∧ Cond.native arraycopyName ∈ zT ∧ Cond.static arraycopyName ∈ zT ∧ Cond.initialized "java/lang/System" ∈ zT := ⟨q721, q605, q604, q128⟩
theorem ac3_40 : Cond.methodLink RX3 40 arraycopyName ∈ zT ∧ Cond.native arraycopyName ∈ zT ∧ Cond.static arraycopyName ∈ zT ∧ Cond.initialized "java/lang/System" ∈ zT := ⟨q832, q605, q604, q128⟩
theorem ac4_34 : Cond.methodLink RX4 34 arraycopyName ∈ zT ∧ Cond.native arraycopyName ∈ zT ∧ Cond.static arraycopyName ∈ zT ∧ Cond.initialized "java/lang/System" ∈ zT := ⟨q837, q605, q604, q128⟩
theorem ac6_32 : Cond.methodLink RX6 32 arraycopyName ∈ zT ∧ Cond.native arraycopyName ∈ zT ∧ Cond.static arraycopyName ∈ zT ∧ Cond.initialized "java/lang/System" ∈ zT := ⟨q704, q605, q604, q128⟩
theorem ac7_45 : Cond.methodLink RX7 45 arraycopyName ∈ zT ∧ Cond.native arraycopyName ∈ zT ∧ Cond.static arraycopyName ∈ zT ∧ Cond.initialized "java/lang/System" ∈ zT := ⟨q603, q605, q604, q128⟩
theorem ac8_39 : Cond.methodLink RX8 39 arraycopyName ∈ zT ∧ Cond.native arraycopyName ∈ zT ∧ Cond.static arraycopyName ∈ zT ∧ Cond.initialized "java/lang/System" ∈ zT := ⟨q842, q605, q604, q128⟩
theorem ac10_22 : Cond.methodLink RX10 22 arraycopyName ∈ zT ∧ Cond.native arraycopyName ∈ zT ∧ Cond.static arraycopyName ∈ zT ∧ Cond.initialized "java/lang/System" ∈ zT := ⟨q847, q605, q604, q128⟩
theorem m0_27 : zMV RX0 27 RX2 yX2_copyFrom cX2_copyFrom 2 (Option.none : Option FieldType) 1 := ⟨q824, q825, q826, q114, q827, rfl, ⟨by decide +kernel, by decide +kernel⟩, by decide +kernel⟩
theorem m1_25 : zMV RX1 25 RX1 yX1_nextToTest cX1_nextToTest 6 (Option.some FieldType.int) 1 := ⟨q884, q886, q14, q119, q887, rfl, ⟨by decide +kernel, by decide +kernel⟩, by decide +kernel⟩
theorem m1_38 : zMV RX1 38 RX1 yX1_nextToSelect cX1_nextToSelect 4 (Option.some FieldType.int) 0 := ⟨q888, q890, q15, q119, q891, rfl, ⟨by decide +kernel, by decide +kernel⟩, by decide +kernel⟩
theorem m1_42 : zMV RX1 42 RX1 yX1_nextPlace cX1_nextPlace 5 (Option.some FieldType.int) 0 := ⟨q900, q902, q16, q119, q903, rfl, ⟨by decide +kernel, by decide +kernel⟩, by decide +kernel⟩
theorem m1_45 : zMV RX1 45 RX2 yX2_hasPlace cX2_hasPlace 2 (Option.some FieldType.boolean) 1 := ⟨q3904, q982, q983, q114, q984, rfl, ⟨by decide +kernel, by decide +kernel⟩, by decide +kernel⟩
theorem m1_76 : zMV RX1 76 RX2 yX2_isOn cX2_isOn 2 (Option.some FieldType.boolean) 1 := ⟨q892, q893, q894, q114, q895, rfl, ⟨by decide +kernel, by decide +kernel⟩, by decide +kernel⟩
theorem m1_83 : zMV RX1 83 RX4 yX4_sizeOf cX4_sizeOf 4 (Option.some FieldType.int) 2 := ⟨q896, q897, q898, q116, q899, rfl, ⟨by decide +kernel, by decide +kernel⟩, by decide +kernel⟩
theorem m1_95 : zMV RX1 95 RX1 yX1_makeTurn cX1_makeTurn 4 (Option.none : Option FieldType) 0 := ⟨q876, q877, q878, q119, q879, rfl, ⟨by decide +kernel, by decide +kernel⟩, by decide +kernel⟩
theorem m1_101 : zMV RX1 101 RX1 yX1_choose cX1_choose 2 (Option.none : Option FieldType) 1 := ⟨q880, q881, q882, q119, q883, rfl, ⟨by decide +kernel, by decide +kernel⟩, by decide +kernel⟩
theorem m1_105 : zMV RX1 105 RX6 yX6_has cX6_has 2 (Option.some FieldType.boolean) 1 := ⟨q3908, q869, q870, q113, q871, rfl, ⟨by decide +kernel, by decide +kernel⟩, by decide +kernel⟩
theorem m1_108 : zMV RX1 108 RX1 yX1_noteBeginning cX1_noteBeginning 1 (Option.none : Option FieldType) 0 := ⟨q904, q906, q17, q119, q907, rfl, ⟨by decide +kernel, by decide +kernel⟩, by decide +kernel⟩
theorem m1_111 : zMV RX1 111 RX1 yX1_trySelect cX1_trySelect 4 (Option.some FieldType.int) 0 := ⟨q912, q914, q18, q119, q915, rfl, ⟨by decide +kernel, by decide +kernel⟩, by decide +kernel⟩
theorem m1_114 : zMV RX1 114 RX1 yX1_tryPoll cX1_tryPoll 4 (Option.some FieldType.int) 0 := ⟨q957, q959, q22, q119, q960, rfl, ⟨by decide +kernel, by decide +kernel⟩, by decide +kernel⟩
theorem m1_120 : zMV RX1 120 RX1 yX1_noteEnd cX1_noteEnd 3 (Option.none : Option FieldType) 1 := ⟨q965, q967, q23, q119, q968, rfl, ⟨by decide +kernel, by decide +kernel⟩, by decide +kernel⟩
theorem m1_126 : zMV RX1 126 RX2 yX2_deliverDue cX2_deliverDue 5 (Option.none : Option FieldType) 1 := ⟨q933, q934, q935, q114, q936, rfl, ⟨by decide +kernel, by decide +kernel⟩, by decide +kernel⟩
theorem m1_133 : zMV RX1 133 RX10 yX10_add cX10_add 7 (Option.none : Option FieldType) 5 := ⟨q969, q970, q971, q118, q972, rfl, ⟨by decide +kernel, by decide +kernel⟩, by decide +kernel⟩
theorem m1_139 : zMV RX1 139 RX8 yX8_countOften cX8_countOften 4 (Option.none : Option FieldType) 2 := ⟨q908, q909, q910, q117, q911, rfl, ⟨by decide +kernel, by decide +kernel⟩, by decide +kernel⟩
theorem m1_146 : zMV RX1 146 RX2 yX2_send cX2_send 2 (Option.some FieldType.boolean) 1 := ⟨q928, q929, q930, q114, q931, rfl, ⟨by decide +kernel, by decide +kernel⟩, by decide +kernel⟩
theorem m1_155 : zMV RX1 155 RX1 yX1_call cX1_call 3 (Option.some FieldType.boolean) 0 := ⟨q924, q926, q19, q119, q927, rfl, ⟨by decide +kernel, by decide +kernel⟩, by decide +kernel⟩
theorem m1_159 : zMV RX1 159 RX4 yX4_firstOf cX4_firstOf 4 (Option.some FieldType.int) 2 := ⟨q916, q917, q918, q116, q919, rfl, ⟨by decide +kernel, by decide +kernel⟩, by decide +kernel⟩
theorem m1_166 : zMV RX1 166 RX3 yX3_has cX3_has 2 (Option.some FieldType.boolean) 1 := ⟨q920, q921, q922, q115, q923, rfl, ⟨by decide +kernel, by decide +kernel⟩, by decide +kernel⟩
theorem m1_172 : zMV RX1 172 RX1 yX1_sendNegativeAnswer cX1_sendNegativeAnswer 1 (Option.none : Option FieldType) 0 := ⟨q947, q949, q21, q119, q950, rfl, ⟨by decide +kernel, by decide +kernel⟩, by decide +kernel⟩
theorem m1_181 : zMV RX1 181 RX2 yX2_takeAtHost cX2_takeAtHost 4 (Option.none : Option FieldType) 2 := ⟨q961, q962, q963, q114, q964, rfl, ⟨by decide +kernel, by decide +kernel⟩, by decide +kernel⟩
theorem m1_184 : zMV RX1 184 RX4 yX4_removeFirst cX4_removeFirst 4 (Option.none : Option FieldType) 2 := ⟨q956, q940, q941, q116, q942, rfl, ⟨by decide +kernel, by decide +kernel⟩, by decide +kernel⟩
theorem m1_196 : zMV RX1 196 RX2 yX2_takeAtTerminal cX2_takeAtTerminal 3 (Option.none : Option FieldType) 2 := ⟨q951, q952, q953, q114, q954, rfl, ⟨by decide +kernel, by decide +kernel⟩, by decide +kernel⟩
theorem m2_81 : zMV RX2 81 RX4 yX4_clear cX4_clear 2 (Option.none : Option FieldType) 0 := ⟨q709, q710, q711, q116, q712, rfl, ⟨by decide +kernel, by decide +kernel⟩, by decide +kernel⟩
theorem m2_84 : zMV RX2 84 RX8 yX8_clear cX8_clear 2 (Option.none : Option FieldType) 0 := ⟨q713, q714, q715, q117, q716, rfl, ⟨by decide +kernel, by decide +kernel⟩, by decide +kernel⟩
theorem m2_85 : zMV RX2 85 RX10 yX10_clear cX10_clear 1 (Option.none : Option FieldType) 0 := ⟨q717, q718, q719, q118, q720, rfl, ⟨by decide +kernel, by decide +kernel⟩, by decide +kernel⟩
theorem m2_98 : zMV RX2 98 RX3 yX3_copyFrom cX3_copyFrom 2 (Option.none : Option FieldType) 1 := ⟨q828, q829, q830, q115, q831, rfl, ⟨by decide +kernel, by decide +kernel⟩, by decide +kernel⟩
theorem m2_102 : zMV RX2 102 RX4 yX4_copyFrom cX4_copyFrom 2 (Option.none : Option FieldType) 1 := ⟨q833, q834, q835, q116, q836, rfl, ⟨by decide +kernel, by decide +kernel⟩, by decide +kernel⟩
theorem m2_105 : zMV RX2 105 RX8 yX8_copyFrom cX8_copyFrom 2 (Option.none : Option FieldType) 1 := ⟨q838, q839, q840, q117, q841, rfl, ⟨by decide +kernel, by decide +kernel⟩, by decide +kernel⟩
theorem m2_108 : zMV RX2 108 RX10 yX10_copyFrom cX10_copyFrom 2 (Option.none : Option FieldType) 1 := ⟨q843, q844, q845, q118, q846, rfl, ⟨by decide +kernel, by decide +kernel⟩, by decide +kernel⟩
theorem m2_111 : zMV RX2 111 RX3 yX3_countIn cX3_countIn 4 (Option.some FieldType.int) 1 := ⟨q1023, q1011, q1012, q115, q1013, rfl, ⟨by decide +kernel, by decide +kernel⟩, by decide +kernel⟩
theorem m2_118 : zMV RX2 118 RX6 yX6_has cX6_has 2 (Option.some FieldType.boolean) 1 := ⟨q868, q869, q870, q113, q871, rfl, ⟨by decide +kernel, by decide +kernel⟩, by decide +kernel⟩
theorem m2_128 : zMV RX2 128 RX2 yX2_hasPlace cX2_hasPlace 2 (Option.some FieldType.boolean) 1 := ⟨q981, q982, q983, q114, q984, rfl, ⟨by decide +kernel, by decide +kernel⟩, by decide +kernel⟩
theorem m2_155 : zMV RX2 155 RX4 yX4_append cX4_append 6 (Option.none : Option FieldType) 3 := ⟨q860, q861, q862, q116, q863, rfl, ⟨by decide +kernel, by decide +kernel⟩, by decide +kernel⟩
theorem m2_166 : zMV RX2 166 RX4 yX4_sizeOf cX4_sizeOf 4 (Option.some FieldType.int) 2 := ⟨q955, q897, q898, q116, q899, rfl, ⟨by decide +kernel, by decide +kernel⟩, by decide +kernel⟩
theorem m2_173 : zMV RX2 173 RX4 yX4_firstOf cX4_firstOf 4 (Option.some FieldType.int) 2 := ⟨q937, q917, q918, q116, q919, rfl, ⟨by decide +kernel, by decide +kernel⟩, by decide +kernel⟩
theorem m2_179 : zMV RX2 179 RX3 yX3_has cX3_has 2 (Option.some FieldType.boolean) 1 := ⟨q938, q921, q922, q115, q923, rfl, ⟨by decide +kernel, by decide +kernel⟩, by decide +kernel⟩
theorem m2_180 : zMV RX2 180 RX4 yX4_removeFirst cX4_removeFirst 4 (Option.none : Option FieldType) 2 := ⟨q939, q940, q941, q116, q942, rfl, ⟨by decide +kernel, by decide +kernel⟩, by decide +kernel⟩
theorem m4_24 : zMV RX4 24 RX4 yX4_sizeOf cX4_sizeOf 4 (Option.some FieldType.int) 2 := ⟨q1223, q897, q898, q116, q899, rfl, ⟨by decide +kernel, by decide +kernel⟩, by decide +kernel⟩
theorem m4_28 : zMV RX4 28 RX4 yX4_firstOf cX4_firstOf 4 (Option.some FieldType.int) 2 := ⟨q1224, q917, q918, q116, q919, rfl, ⟨by decide +kernel, by decide +kernel⟩, by decide +kernel⟩
theorem m4_31 : zMV RX4 31 RX4 yX4_nextOf cX4_nextOf 4 (Option.some FieldType.int) 2 := ⟨q943, q945, q20, q116, q946, rfl, ⟨by decide +kernel, by decide +kernel⟩, by decide +kernel⟩
theorem m5_36 : zMV RX5 36 RX9 yX9_begin cX9_begin 1 (Option.none : Option FieldType) 0 := ⟨q788, q607, q608, q121, q609, rfl, ⟨by decide +kernel, by decide +kernel⟩, by decide +kernel⟩
theorem m5_41 : zMV RX5 41 RX9 yX9_isAtEnd cX9_isAtEnd 1 (Option.some FieldType.boolean) 0 := ⟨q789, q615, q616, q121, q617, rfl, ⟨by decide +kernel, by decide +kernel⟩, by decide +kernel⟩
theorem m5_45 : zMV RX5 45 RX5 yX5_verbHere cX5_verbHere 1 (Option.some FieldType.int) 0 := ⟨q790, q792, q9, q123, q793, rfl, ⟨by decide +kernel, by decide +kernel⟩, by decide +kernel⟩
theorem m5_49 : zMV RX5 49 RX9 yX9_fail cX9_fail 2 (Option.some FieldType.boolean) 1 := ⟨q801, q634, q635, q121, q636, rfl, ⟨by decide +kernel, by decide +kernel⟩, by decide +kernel⟩
theorem m5_53 : zMV RX5 53 RX9 yX9_advance cX9_advance 2 (Option.none : Option FieldType) 0 := ⟨q802, q611, q612, q121, q613, rfl, ⟨by decide +kernel, by decide +kernel⟩, by decide +kernel⟩
theorem m5_56 : zMV RX5 56 RX5 yX5_readRest cX5_readRest 2 (Option.some FieldType.boolean) 1 := ⟨q803, q805, q10, q123, q806, rfl, ⟨by decide +kernel, by decide +kernel⟩, by decide +kernel⟩
theorem m5_59 : zMV RX5 59 RX9 yX9_readSemicolon cX9_readSemicolon 1 (Option.some FieldType.boolean) 0 := ⟨q819, q693, q694, q121, q695, rfl, ⟨by decide +kernel, by decide +kernel⟩, by decide +kernel⟩
theorem m5_64 : zMV RX5 64 RX9 yX9_isAtWord cX9_isAtWord 3 (Option.some FieldType.boolean) 1 := ⟨q795, q624, q625, q121, q626, rfl, ⟨by decide +kernel, by decide +kernel⟩, by decide +kernel⟩
theorem m5_78 : zMV RX5 78 RX5 yX5_readPost cX5_readPost 1 (Option.some FieldType.boolean) 0 := ⟨q807, q809, q11, q123, q810, rfl, ⟨by decide +kernel, by decide +kernel⟩, by decide +kernel⟩
theorem m5_81 : zMV RX5 81 RX9 yX9_readNumber cX9_readNumber 4 (Option.some FieldType.int) 2 := ⟨q818, q658, q659, q121, q660, rfl, ⟨by decide +kernel, by decide +kernel⟩, by decide +kernel⟩
theorem m5_87 : zMV RX5 87 RX5 yX5_readWho cX5_readWho 4 (Option.some FieldType.int) 1 := ⟨q811, q813, q12, q123, q814, rfl, ⟨by decide +kernel, by decide +kernel⟩, by decide +kernel⟩
theorem m5_91 : zMV RX5 91 RX9 yX9_nameHere cX9_nameHere 3 (Option.some FieldType.int) 0 := ⟨q816, q639, q640, q121, q641, rfl, ⟨by decide +kernel, by decide +kernel⟩, by decide +kernel⟩
theorem m5_94 : zMV RX5 94 RX6 yX6_find cX6_find 3 (Option.some FieldType.int) 1 := ⟨q817, q645, q646, q113, q647, rfl, ⟨by decide +kernel, by decide +kernel⟩, by decide +kernel⟩
theorem m6_28 : zMV RX6 28 RX6 yX6_has cX6_has 2 (Option.some FieldType.boolean) 1 := ⟨q1061, q869, q870, q113, q871, rfl, ⟨by decide +kernel, by decide +kernel⟩, by decide +kernel⟩
theorem m7_51 : zMV RX7 51 RX9 yX9_begin cX9_begin 1 (Option.none : Option FieldType) 0 := ⟨q606, q607, q608, q121, q609, rfl, ⟨by decide +kernel, by decide +kernel⟩, by decide +kernel⟩
theorem m7_56 : zMV RX7 56 RX9 yX9_isAtEnd cX9_isAtEnd 1 (Option.some FieldType.boolean) 0 := ⟨q614, q615, q616, q121, q617, rfl, ⟨by decide +kernel, by decide +kernel⟩, by decide +kernel⟩
theorem m7_60 : zMV RX7 60 RX7 yX7_readStatement cX7_readStatement 1 (Option.some FieldType.boolean) 0 := ⟨q618, q620, q0, q122, q621, rfl, ⟨by decide +kernel, by decide +kernel⟩, by decide +kernel⟩
theorem m7_63 : zMV RX7 63 RX9 yX9_readSemicolon cX9_readSemicolon 1 (Option.some FieldType.boolean) 0 := ⟨q692, q693, q694, q121, q695, rfl, ⟨by decide +kernel, by decide +kernel⟩, by decide +kernel⟩
theorem m7_66 : zMV RX7 66 RX9 yX9_fail cX9_fail 2 (Option.some FieldType.boolean) 1 := ⟨q633, q634, q635, q121, q636, rfl, ⟨by decide +kernel, by decide +kernel⟩, by decide +kernel⟩
theorem m7_72 : zMV RX7 72 RX9 yX9_isAtWord cX9_isAtWord 3 (Option.some FieldType.boolean) 1 := ⟨q623, q624, q625, q121, q626, rfl, ⟨by decide +kernel, by decide +kernel⟩, by decide +kernel⟩
theorem m7_76 : zMV RX7 76 RX7 yX7_readTerminal cX7_readTerminal 2 (Option.some FieldType.boolean) 0 := ⟨q629, q631, q1, q122, q632, rfl, ⟨by decide +kernel, by decide +kernel⟩, by decide +kernel⟩
theorem m7_80 : zMV RX7 80 RX7 yX7_beginOnce cX7_beginOnce 2 (Option.some FieldType.boolean) 1 := ⟨q669, q671, q4, q122, q672, rfl, ⟨by decide +kernel, by decide +kernel⟩, by decide +kernel⟩
theorem m7_83 : zMV RX7 83 RX7 yX7_readList cX7_readList 4 (Option.some FieldType.boolean) 0 := ⟨q673, q675, q5, q122, q676, rfl, ⟨by decide +kernel, by decide +kernel⟩, by decide +kernel⟩
theorem m7_88 : zMV RX7 88 RX7 yX7_readSettings cX7_readSettings 5 (Option.some FieldType.boolean) 2 := ⟨q678, q680, q6, q122, q681, rfl, ⟨by decide +kernel, by decide +kernel⟩, by decide +kernel⟩
theorem m7_96 : zMV RX7 96 RX7 yX7_readSeed cX7_readSeed 2 (Option.some FieldType.boolean) 0 := ⟨q688, q690, q7, q122, q691, rfl, ⟨by decide +kernel, by decide +kernel⟩, by decide +kernel⟩
theorem m7_99 : zMV RX7 99 RX9 yX9_advance cX9_advance 2 (Option.none : Option FieldType) 0 := ⟨q637, q611, q612, q121, q613, rfl, ⟨by decide +kernel, by decide +kernel⟩, by decide +kernel⟩
theorem m7_102 : zMV RX7 102 RX9 yX9_nameHere cX9_nameHere 3 (Option.some FieldType.int) 0 := ⟨q638, q639, q640, q121, q641, rfl, ⟨by decide +kernel, by decide +kernel⟩, by decide +kernel⟩
theorem m7_106 : zMV RX7 106 RX6 yX6_find cX6_find 3 (Option.some FieldType.int) 1 := ⟨q644, q645, q646, q113, q647, rfl, ⟨by decide +kernel, by decide +kernel⟩, by decide +kernel⟩
theorem m7_110 : zMV RX7 110 RX6 yX6_addTerminal cX6_addTerminal 2 (Option.none : Option FieldType) 1 := ⟨q648, q649, q650, q113, q651, rfl, ⟨by decide +kernel, by decide +kernel⟩, by decide +kernel⟩
theorem m7_119 : zMV RX7 119 RX7 yX7_readOption cX7_readOption 7 (Option.some FieldType.boolean) 4 := ⟨q653, q655, q2, q122, q656, rfl, ⟨by decide +kernel, by decide +kernel⟩, by decide +kernel⟩
theorem m7_133 : zMV RX7 133 RX9 yX9_readNumber cX9_readNumber 4 (Option.some FieldType.int) 2 := ⟨q657, q658, q659, q121, q660, rfl, ⟨by decide +kernel, by decide +kernel⟩, by decide +kernel⟩
theorem m9_34 : zMV RX9 34 RX9 yX9_addByte cX9_addByte 2 (Option.none : Option FieldType) 1 := ⟨q771, q594, q595, q121, q596, rfl, ⟨by decide +kernel, by decide +kernel⟩, by decide +kernel⟩
theorem m9_38 : zMV RX9 38 RX9 yX9_advance cX9_advance 2 (Option.none : Option FieldType) 0 := ⟨q610, q611, q612, q121, q613, rfl, ⟨by decide +kernel, by decide +kernel⟩, by decide +kernel⟩
theorem m9_52 : zMV RX9 52 RX9 yX9_isAtWord cX9_isAtWord 3 (Option.some FieldType.boolean) 1 := ⟨q643, q624, q625, q121, q626, rfl, ⟨by decide +kernel, by decide +kernel⟩, by decide +kernel⟩
theorem m9_58 : zMV RX9 58 RX9 yX9_fail cX9_fail 2 (Option.some FieldType.boolean) 1 := ⟨q661, q634, q635, q121, q636, rfl, ⟨by decide +kernel, by decide +kernel⟩, by decide +kernel⟩
theorem m9_62 : zMV RX9 62 RX9 yX9_numberHere cX9_numberHere 3 (Option.some FieldType.int) 0 := ⟨q662, q664, q3, q121, q665, rfl, ⟨by decide +kernel, by decide +kernel⟩, by decide +kernel⟩
theorem m11_99 : zMV RX11 99 RX9 yX9_addByte cX9_addByte 2 (Option.none : Option FieldType) 1 := ⟨q593, q594, q595, q121, q596, rfl, ⟨by decide +kernel, by decide +kernel⟩, by decide +kernel⟩
theorem m11_103 : zMV RX11 103 RX7 yX7_readText cX7_readText 2 (Option.some FieldType.boolean) 0 := ⟨q597, q598, q599, q122, q600, rfl, ⟨by decide +kernel, by decide +kernel⟩, by decide +kernel⟩
theorem m11_107 : zMV RX11 107 RX11 yX11_beginAnew cX11_beginAnew 1 (Option.none : Option FieldType) 0 := ⟨q696, q698, q8, q112, q699, rfl, ⟨by decide +kernel, by decide +kernel⟩, by decide +kernel⟩
theorem m11_112 : zMV RX11 112 RX9 yX9_addFourBytes cX9_addFourBytes 3 (Option.none : Option FieldType) 1 := ⟨q767, q768, q769, q121, q770, rfl, ⟨by decide +kernel, by decide +kernel⟩, by decide +kernel⟩
theorem m11_121 : zMV RX11 121 RX6 yX6_copyFrom cX6_copyFrom 2 (Option.none : Option FieldType) 1 := ⟨q700, q701, q702, q113, q703, rfl, ⟨by decide +kernel, by decide +kernel⟩, by decide +kernel⟩
theorem m11_124 : zMV RX11 124 RX2 yX2_begin cX2_begin 3 (Option.none : Option FieldType) 1 := ⟨q705, q706, q707, q114, q708, rfl, ⟨by decide +kernel, by decide +kernel⟩, by decide +kernel⟩
theorem m11_129 : zMV RX11 129 RX5 yX5_readText cX5_readText 3 (Option.some FieldType.boolean) 0 := ⟨q784, q785, q786, q123, q787, rfl, ⟨by decide +kernel, by decide +kernel⟩, by decide +kernel⟩
theorem m11_130 : zMV RX11 130 RX0 yX0_remember cX0_remember 2 (Option.none : Option FieldType) 1 := ⟨q820, q821, q822, q120, q823, rfl, ⟨by decide +kernel, by decide +kernel⟩, by decide +kernel⟩
theorem m11_134 : zMV RX11 134 RX11 yX11_perform cX11_perform 3 (Option.some FieldType.boolean) 1 := ⟨q848, q850, q13, q112, q851, rfl, ⟨by decide +kernel, by decide +kernel⟩, by decide +kernel⟩
theorem m11_148 : zMV RX11 148 RX3 yX3_isFull cX3_isFull 1 (Option.some FieldType.boolean) 0 := ⟨q852, q853, q854, q115, q855, rfl, ⟨by decide +kernel, by decide +kernel⟩, by decide +kernel⟩
theorem m11_159 : zMV RX11 159 RX2 yX2_addMessage cX2_addMessage 6 (Option.some FieldType.int) 3 := ⟨q856, q857, q858, q114, q859, rfl, ⟨by decide +kernel, by decide +kernel⟩, by decide +kernel⟩
theorem m11_163 : zMV RX11 163 RX2 yX2_setLife cX2_setLife 4 (Option.some FieldType.int) 2 := ⟨q864, q865, q866, q114, q867, rfl, ⟨by decide +kernel, by decide +kernel⟩, by decide +kernel⟩
theorem m11_170 : zMV RX11 170 RX1 yX1_makeTurns cX1_makeTurns 3 (Option.none : Option FieldType) 1 := ⟨q872, q873, q874, q119, q875, rfl, ⟨by decide +kernel, by decide +kernel⟩, by decide +kernel⟩
theorem m11_176 : zMV RX11 176 RX2 yX2_appendPlace cX2_appendPlace 2 (Option.none : Option FieldType) 1 := ⟨q973, q974, q975, q114, q976, rfl, ⟨by decide +kernel, by decide +kernel⟩, by decide +kernel⟩
theorem m11_179 : zMV RX11 179 RX2 yX2_removePlace cX2_removePlace 3 (Option.none : Option FieldType) 1 := ⟨q977, q978, q979, q114, q980, rfl, ⟨by decide +kernel, by decide +kernel⟩, by decide +kernel⟩
theorem m11_195 : zMV RX11 195 RX3 yX3_countIn cX3_countIn 4 (Option.some FieldType.int) 1 := ⟨q1010, q1011, q1012, q115, q1013, rfl, ⟨by decide +kernel, by decide +kernel⟩, by decide +kernel⟩
theorem m11_208 : zMV RX11 208 RX2 yX2_sumOf cX2_sumOf 4 (Option.some FieldType.int) 1 := ⟨q1087, q1088, q1089, q114, q1090, rfl, ⟨by decide +kernel, by decide +kernel⟩, by decide +kernel⟩
theorem m11_224 : zMV RX11 224 RX6 yX6_has cX6_has 2 (Option.some FieldType.boolean) 1 := ⟨q1177, q869, q870, q113, q871, rfl, ⟨by decide +kernel, by decide +kernel⟩, by decide +kernel⟩
theorem m11_246 : zMV RX11 246 RX4 yX4_sizeOf cX4_sizeOf 4 (Option.some FieldType.int) 2 := ⟨q1062, q897, q898, q116, q899, rfl, ⟨by decide +kernel, by decide +kernel⟩, by decide +kernel⟩
theorem m11_251 : zMV RX11 251 RX2 yX2_placesWith cX2_placesWith 4 (Option.some FieldType.int) 1 := ⟨q1193, q1194, q1195, q114, q1196, rfl, ⟨by decide +kernel, by decide +kernel⟩, by decide +kernel⟩
theorem m11_266 : zMV RX11 266 RX6 yX6_letterOf cX6_letterOf 3 (Option.some FieldType.int) 2 := ⟨q1057, q1058, q1059, q113, q1060, rfl, ⟨by decide +kernel, by decide +kernel⟩, by decide +kernel⟩
theorem m11_269 : zMV RX11 269 RX3 yX3_has cX3_has 2 (Option.some FieldType.boolean) 1 := ⟨q1211, q921, q922, q115, q923, rfl, ⟨by decide +kernel, by decide +kernel⟩, by decide +kernel⟩
theorem m11_294 : zMV RX11 294 RX4 yX4_messageAt cX4_messageAt 6 (Option.some FieldType.int) 3 := ⟨q1219, q1220, q1221, q116, q1222, rfl, ⟨by decide +kernel, by decide +kernel⟩, by decide +kernel⟩
theorem m11_297 : zMV RX11 297 RX2 yX2_hasPlace cX2_hasPlace 2 (Option.some FieldType.boolean) 1 := ⟨q1232, q982, q983, q114, q984, rfl, ⟨by decide +kernel, by decide +kernel⟩, by decide +kernel⟩
theorem m11_310 : zMV RX11 310 RX10 yX10_numberOf cX10_numberOf 4 (Option.some FieldType.int) 2 := ⟨q1240, q1241, q1242, q118, q1243, rfl, ⟨by decide +kernel, by decide +kernel⟩, by decide +kernel⟩
theorem m11_313 : zMV RX11 313 RX1 yX1_choose cX1_choose 2 (Option.none : Option FieldType) 1 := ⟨q1001, q881, q882, q119, q883, rfl, ⟨by decide +kernel, by decide +kernel⟩, by decide +kernel⟩
theorem m11_322 : zMV RX11 322 RX2 yX2_copyFrom cX2_copyFrom 2 (Option.none : Option FieldType) 1 := ⟨q1018, q825, q826, q114, q827, rfl, ⟨by decide +kernel, by decide +kernel⟩, by decide +kernel⟩
theorem m11_324 : zMV RX11 324 RX2 yX2_delivered cX2_delivered 1 (Option.some FieldType.int) 0 := ⟨q1019, q1020, q1021, q114, q1022, rfl, ⟨by decide +kernel, by decide +kernel⟩, by decide +kernel⟩
theorem m11_327 : zMV RX11 327 RX1 yX1_makeTurn cX1_makeTurn 4 (Option.none : Option FieldType) 0 := ⟨q1024, q877, q878, q119, q879, rfl, ⟨by decide +kernel, by decide +kernel⟩, by decide +kernel⟩
theorem m11_336 : zMV RX11 336 RX11 yX11_deliveredWith cX11_deliveredWith 4 (Option.some FieldType.int) 3 := ⟨q1281, q1283, q28, q112, q1284, rfl, ⟨by decide +kernel, by decide +kernel⟩, by decide +kernel⟩
theorem m11_339 : zMV RX11 339 RX8 yX8_oftenOf cX8_oftenOf 4 (Option.some FieldType.int) 2 := ⟨q1029, q1030, q1031, q117, q1032, rfl, ⟨by decide +kernel, by decide +kernel⟩, by decide +kernel⟩
theorem m11_342 : zMV RX11 342 RX3 yX3_sumOfTimes cX3_sumOfTimes 3 (Option.some FieldType.int) 0 := ⟨q1037, q1038, q1039, q115, q1040, rfl, ⟨by decide +kernel, by decide +kernel⟩, by decide +kernel⟩
theorem m11_345 : zMV RX11 345 RX11 yX11_isParty cX11_isParty 2 (Option.some FieldType.boolean) 1 := ⟨q1307, q1309, q29, q112, q1310, rfl, ⟨by decide +kernel, by decide +kernel⟩, by decide +kernel⟩
theorem m11_354 : zMV RX11 354 RX0 yX0_takeBack cX0_takeBack 2 (Option.none : Option FieldType) 1 := ⟨q1391, q1392, q1393, q120, q1394, rfl, ⟨by decide +kernel, by decide +kernel⟩, by decide +kernel⟩
theorem m11_357 : zMV RX11 357 RX11 yX11_writeByte cX11_writeByte 2 (Option.none : Option FieldType) 1 := ⟨q1049, q1051, q24, q112, q1052, rfl, ⟨by decide +kernel, by decide +kernel⟩, by decide +kernel⟩
theorem m11_360 : zMV RX11 360 RX11 yX11_writeName cX11_writeName 4 (Option.none : Option FieldType) 1 := ⟨q1053, q1055, q25, q112, q1056, rfl, ⟨by decide +kernel, by decide +kernel⟩, by decide +kernel⟩
theorem m11_363 : zMV RX11 363 RX11 yX11_writeNumber cX11_writeNumber 2 (Option.none : Option FieldType) 1 := ⟨q1063, q1065, q26, q112, q1066, rfl, ⟨by decide +kernel, by decide +kernel⟩, by decide +kernel⟩
theorem m12_42 : zMV RX12 42 RX12 yX12_begins cX12_begins 2 (Option.none : Option FieldType) 0 := ⟨q1412, q1414, q30, q129, q1415, rfl, ⟨by decide +kernel, by decide +kernel⟩, by decide +kernel⟩
theorem m12_45 : zMV RX12 45 RX12 yX12_lays cX12_lays 6 (Option.none : Option FieldType) 4 := ⟨q1416, q1418, q31, q129, q1419, rfl, ⟨by decide +kernel, by decide +kernel⟩, by decide +kernel⟩
theorem m12_49 : zMV RX12 49 RX12 yX12_many cX12_many 1 (Option.some FieldType.int) 0 := ⟨q1420, q1422, q32, q129, q1423, rfl, ⟨by decide +kernel, by decide +kernel⟩, by decide +kernel⟩
theorem m12_53 : zMS RX12 53 yX12_isIn cX12_isIn 3 (Option.some FieldType.boolean) 3 := ⟨q1516, q1517, q129, q1518, ⟨by decide +kernel, by decide +kernel⟩, by decide +kernel⟩
theorem m12_57 : zMV RX12 57 RX12 yX12_of cX12_of 3 (Option.some FieldType.int) 2 := ⟨q1582, q1584, q46, q129, q1585, rfl, ⟨by decide +kernel, by decide +kernel⟩, by decide +kernel⟩
theorem m12_61 : zMV RX12 61 RX12 yX12_puts cX12_puts 4 (Option.none : Option FieldType) 3 := ⟨q1424, q1426, q33, q129, q1427, rfl, ⟨by decide +kernel, by decide +kernel⟩, by decide +kernel⟩
theorem m12_65 : zMV RX12 65 RX12 yX12_message0 cX12_message0 3 (Option.some FieldType.int) 2 := ⟨q1697, q1699, q69, q129, q1700, rfl, ⟨by decide +kernel, by decide +kernel⟩, by decide +kernel⟩
theorem m12_68 : zMV RX12 68 RX12 yX12_orderIn cX12_orderIn 4 (Option.some FieldType.int) 3 := ⟨q1721, q1723, q75, q129, q1724, rfl, ⟨by decide +kernel, by decide +kernel⟩, by decide +kernel⟩
theorem m12_72 : zMV RX12 72 RX12 yX12_aheadOf cX12_aheadOf 6 (Option.some FieldType.int) 3 := ⟨q1745, q1747, q81, q129, q1748, rfl, ⟨by decide +kernel, by decide +kernel⟩, by decide +kernel⟩
theorem m12_75 : zMV RX12 75 RX12 yX12_tells cX12_tells 4 (Option.none : Option FieldType) 3 := ⟨q1677, q1679, q64, q129, q1680, rfl, ⟨by decide +kernel, by decide +kernel⟩, by decide +kernel⟩
theorem m12_78 : zMV RX12 78 RX12 yX12_rowAt cX12_rowAt 5 (Option.some FieldType.int) 3 := ⟨q1741, q1743, q80, q129, q1744, rfl, ⟨by decide +kernel, by decide +kernel⟩, by decide +kernel⟩
theorem m12_81 : zMV RX12 81 RX12 yX12_delivers cX12_delivers 3 (Option.none : Option FieldType) 2 := ⟨q1749, q1751, q82, q129, q1752, rfl, ⟨by decide +kernel, by decide +kernel⟩, by decide +kernel⟩
theorem m12_85 : zMV RX12 85 RX12 yX12_settles cX12_settles 3 (Option.none : Option FieldType) 1 := ⟨q1737, q1739, q79, q129, q1740, rfl, ⟨by decide +kernel, by decide +kernel⟩, by decide +kernel⟩
theorem m12_89 : zMV RX12 89 RX12 yX12_counts cX12_counts 2 (Option.none : Option FieldType) 1 := ⟨q1729, q1731, q77, q129, q1732, rfl, ⟨by decide +kernel, by decide +kernel⟩, by decide +kernel⟩
theorem m12_92 : zMV RX12 92 RX12 yX12_passes cX12_passes 3 (Option.none : Option FieldType) 1 := ⟨q1733, q1735, q78, q129, q1736, rfl, ⟨by decide +kernel, by decide +kernel⟩, by decide +kernel⟩
theorem m12_96 : zMV RX12 96 RX12 yX12_sends cX12_sends 3 (Option.some FieldType.boolean) 1 := ⟨q1777, q1779, q89, q129, q1780, rfl, ⟨by decide +kernel, by decide +kernel⟩, by decide +kernel⟩
theorem m12_100 : zMV RX12 100 RX12 yX12_nextNumber cX12_nextNumber 1 (Option.some FieldType.int) 0 := ⟨q1681, q1683, q65, q129, q1684, rfl, ⟨by decide +kernel, by decide +kernel⟩, by decide +kernel⟩
theorem m12_103 : zMV RX12 103 RX12 yX12_calls cX12_calls 4 (Option.some FieldType.boolean) 1 := ⟨q1773, q1775, q88, q129, q1776, rfl, ⟨by decide +kernel, by decide +kernel⟩, by decide +kernel⟩
theorem m12_106 : zMV RX12 106 RX12 yX12_refuses cX12_refuses 2 (Option.none : Option FieldType) 0 := ⟨q1782, q1784, q90, q129, q1785, rfl, ⟨by decide +kernel, by decide +kernel⟩, by decide +kernel⟩
theorem m12_109 : zMV RX12 109 RX12 yX12_hostTakes cX12_hostTakes 2 (Option.none : Option FieldType) 1 := ⟨q1798, q1800, q94, q129, q1801, rfl, ⟨by decide +kernel, by decide +kernel⟩, by decide +kernel⟩
theorem m12_112 : zMV RX12 112 RX12 yX12_turnsBit cX12_turnsBit 3 (Option.none : Option FieldType) 2 := ⟨q1790, q1792, q92, q129, q1793, rfl, ⟨by decide +kernel, by decide +kernel⟩, by decide +kernel⟩
theorem m12_115 : zMV RX12 115 RX12 yX12_inRowMany cX12_inRowMany 5 (Option.some FieldType.int) 2 := ⟨q1717, q1719, q74, q129, q1720, rfl, ⟨by decide +kernel, by decide +kernel⟩, by decide +kernel⟩
theorem m12_118 : zMV RX12 118 RX12 yX12_comesIntoBuffer cX12_comesIntoBuffer 3 (Option.none : Option FieldType) 2 := ⟨q1786, q1788, q91, q129, q1789, rfl, ⟨by decide +kernel, by decide +kernel⟩, by decide +kernel⟩
theorem m12_124 : zMV RX12 124 RX12 yX12_selectTry cX12_selectTry 4 (Option.some FieldType.int) 1 := ⟨q1769, q1771, q87, q129, q1772, rfl, ⟨by decide +kernel, by decide +kernel⟩, by decide +kernel⟩
theorem m12_128 : zMV RX12 128 RX12 yX12_pollTry cX12_pollTry 4 (Option.some FieldType.int) 1 := ⟨q1794, q1796, q93, q129, q1797, rfl, ⟨by decide +kernel, by decide +kernel⟩, by decide +kernel⟩
theorem m12_131 : zMV RX12 131 RX12 yX12_grows cX12_grows 3 (Option.none : Option FieldType) 2 := ⟨q1761, q1763, q85, q129, q1764, rfl, ⟨by decide +kernel, by decide +kernel⟩, by decide +kernel⟩
theorem m12_137 : zMV RX12 137 RX12 yX12_nextOff cX12_nextOff 3 (Option.some FieldType.int) 0 := ⟨q1709, q1711, q72, q129, q1712, rfl, ⟨by decide +kernel, by decide +kernel⟩, by decide +kernel⟩
theorem m12_143 : zMV RX12 143 RX12 yX12_nextSelected cX12_nextSelected 3 (Option.some FieldType.int) 0 := ⟨q1713, q1715, q73, q129, q1716, rfl, ⟨by decide +kernel, by decide +kernel⟩, by decide +kernel⟩
theorem m12_146 : zMV RX12 146 RX12 yX12_nextPlace cX12_nextPlace 5 (Option.some FieldType.int) 0 := ⟨q1725, q1727, q76, q129, q1728, rfl, ⟨by decide +kernel, by decide +kernel⟩, by decide +kernel⟩
theorem m12_149 : zMS RX12 149 yX12_copies cX12_copies 6 (Option.none : Option FieldType) 5 := ⟨q1531, q1532, q129, q1533, ⟨by decide +kernel, by decide +kernel⟩, by decide +kernel⟩
theorem m12_153 : zMV RX12 153 RX12 yX12_next cX12_next 4 (Option.some FieldType.int) 0 := ⟨q1705, q1707, q71, q129, q1708, rfl, ⟨by decide +kernel, by decide +kernel⟩, by decide +kernel⟩
theorem m12_156 : zMV RX12 156 RX12 yX12_keepsTurn cX12_keepsTurn 6 (Option.none : Option FieldType) 4 := ⟨q1753, q1755, q83, q129, q1756, rfl, ⟨by decide +kernel, by decide +kernel⟩, by decide +kernel⟩
theorem m12_159 : zMV RX12 159 RX12 yX12_remembers cX12_remembers 3 (Option.none : Option FieldType) 2 := ⟨q1757, q1759, q84, q129, q1760, rfl, ⟨by decide +kernel, by decide +kernel⟩, by decide +kernel⟩
theorem m12_162 : zMV RX12 162 RX12 yX12_tries cX12_tries 5 (Option.some FieldType.int) 2 := ⟨q1765, q1767, q86, q129, q1768, rfl, ⟨by decide +kernel, by decide +kernel⟩, by decide +kernel⟩
theorem m12_165 : zMV RX12 165 RX12 yX12_isMissed cX12_isMissed 2 (Option.none : Option FieldType) 1 := ⟨q1802, q1804, q95, q129, q1805, rfl, ⟨by decide +kernel, by decide +kernel⟩, by decide +kernel⟩
theorem m12_168 : zMV RX12 168 RX12 yX12_inState cX12_inState 4 (Option.some FieldType.int) 1 := ⟨q1693, q1695, q68, q129, q1696, rfl, ⟨by decide +kernel, by decide +kernel⟩, by decide +kernel⟩
theorem m12_171 : zMV RX12 171 RX12 yX12_turns cX12_turns 4 (Option.none : Option FieldType) 0 := ⟨q1701, q1703, q70, q129, q1704, rfl, ⟨by decide +kernel, by decide +kernel⟩, by decide +kernel⟩
theorem m12_177 : zMV RX12 177 RX12 yX12_puts4 cX12_puts4 3 (Option.none : Option FieldType) 1 := ⟨q1508, q1510, q34, q129, q1511, rfl, ⟨by decide +kernel, by decide +kernel⟩, by decide +kernel⟩
theorem m12_186 : zMV RX12 186 RX12 yX12_byteAt cX12_byteAt 2 (Option.some FieldType.int) 1 := ⟨q1542, q1544, q37, q129, q1545, rfl, ⟨by decide +kernel, by decide +kernel⟩, by decide +kernel⟩
theorem m12_201 : zMV RX12 201 RX12 yX12_scans cX12_scans 2 (Option.none : Option FieldType) 0 := ⟨q1538, q1540, q36, q129, q1541, rfl, ⟨by decide +kernel, by decide +kernel⟩, by decide +kernel⟩
theorem m12_204 : zMV RX12 204 RX12 yX12_isGood cX12_isGood 1 (Option.some FieldType.boolean) 0 := ⟨q1546, q1548, q38, q129, q1549, rfl, ⟨by decide +kernel, by decide +kernel⟩, by decide +kernel⟩
theorem m12_217 : zMV RX12 217 RX12 yX12_isWord cX12_isWord 3 (Option.some FieldType.boolean) 1 := ⟨q1555, q1557, q40, q129, q1558, rfl, ⟨by decide +kernel, by decide +kernel⟩, by decide +kernel⟩
theorem m12_221 : zMV RX12 221 RX12 yX12_errs cX12_errs 2 (Option.none : Option FieldType) 1 := ⟨q1565, q1567, q42, q129, q1568, rfl, ⟨by decide +kernel, by decide +kernel⟩, by decide +kernel⟩
theorem m12_224 : zMV RX12 224 RX12 yX12_goesOn cX12_goesOn 1 (Option.none : Option FieldType) 0 := ⟨q1569, q1571, q43, q129, q1572, rfl, ⟨by decide +kernel, by decide +kernel⟩, by decide +kernel⟩
theorem m12_227 : zMV RX12 227 RX12 yX12_takes cX12_takes 3 (Option.some FieldType.boolean) 1 := ⟨q1591, q1593, q48, q129, q1594, rfl, ⟨by decide +kernel, by decide +kernel⟩, by decide +kernel⟩
theorem m12_230 : zMV RX12 230 RX12 yX12_number cX12_number 4 (Option.some FieldType.int) 2 := ⟨q1595, q1597, q49, q129, q1598, rfl, ⟨by decide +kernel, by decide +kernel⟩, by decide +kernel⟩
theorem m12_235 : zMV RX12 235 RX12 yX12_isName cX12_isName 1 (Option.some FieldType.boolean) 0 := ⟨q1573, q1575, q44, q129, q1576, rfl, ⟨by decide +kernel, by decide +kernel⟩, by decide +kernel⟩
theorem m12_238 : zMV RX12 238 RX12 yX12_named cX12_named 2 (Option.some FieldType.int) 0 := ⟨q1578, q1580, q45, q129, q1581, rfl, ⟨by decide +kernel, by decide +kernel⟩, by decide +kernel⟩
theorem m12_241 : zMV RX12 241 RX12 yX12_terminalHere cX12_terminalHere 2 (Option.some FieldType.int) 0 := ⟨q1610, q1612, q52, q129, q1613, rfl, ⟨by decide +kernel, by decide +kernel⟩, by decide +kernel⟩
theorem m12_249 : zMV RX12 249 RX12 yX12_optional cX12_optional 5 (Option.some FieldType.int) 4 := ⟨q1587, q1589, q47, q129, q1590, rfl, ⟨by decide +kernel, by decide +kernel⟩, by decide +kernel⟩
theorem m12_257 : zMV RX12 257 RX12 yX12_once cX12_once 2 (Option.none : Option FieldType) 1 := ⟨q1606, q1608, q51, q129, q1609, rfl, ⟨by decide +kernel, by decide +kernel⟩, by decide +kernel⟩
theorem m12_260 : zMS RX12 260 yX12_least cX12_least 1 (Option.some FieldType.int) 1 := ⟨q1619, q1620, q129, q1621, ⟨by decide +kernel, by decide +kernel⟩, by decide +kernel⟩
theorem m12_263 : zMS RX12 263 yX12_greatest cX12_greatest 1 (Option.some FieldType.int) 1 := ⟨q1622, q1623, q129, q1624, ⟨by decide +kernel, by decide +kernel⟩, by decide +kernel⟩
theorem m12_268 : zMV RX12 268 RX12 yX12_readsTerminal cX12_readsTerminal 5 (Option.none : Option FieldType) 0 := ⟨q1561, q1563, q41, q129, q1564, rfl, ⟨by decide +kernel, by decide +kernel⟩, by decide +kernel⟩
theorem m12_273 : zMV RX12 273 RX12 yX12_readsList cX12_readsList 3 (Option.none : Option FieldType) 0 := ⟨q1602, q1604, q50, q129, q1605, rfl, ⟨by decide +kernel, by decide +kernel⟩, by decide +kernel⟩
theorem m12_278 : zMV RX12 278 RX12 yX12_readsSettings cX12_readsSettings 4 (Option.none : Option FieldType) 2 := ⟨q1615, q1617, q53, q129, q1618, rfl, ⟨by decide +kernel, by decide +kernel⟩, by decide +kernel⟩
theorem m12_285 : zMV RX12 285 RX12 yX12_semicolon cX12_semicolon 1 (Option.none : Option FieldType) 0 := ⟨q1627, q1629, q54, q129, q1630, rfl, ⟨by decide +kernel, by decide +kernel⟩, by decide +kernel⟩
theorem m12_288 : zMV RX12 288 RX12 yX12_startsText cX12_startsText 1 (Option.none : Option FieldType) 0 := ⟨q1534, q1536, q35, q129, q1537, rfl, ⟨by decide +kernel, by decide +kernel⟩, by decide +kernel⟩
theorem m12_291 : zMV RX12 291 RX12 yX12_readsSetupStatement cX12_readsSetupStatement 1 (Option.none : Option FieldType) 0 := ⟨q1550, q1552, q39, q129, q1553, rfl, ⟨by decide +kernel, by decide +kernel⟩, by decide +kernel⟩
theorem m12_315 : zMV RX12 315 RX12 yX12_whoHere cX12_whoHere 1 (Option.some FieldType.int) 0 := ⟨q1653, q1655, q58, q129, q1656, rfl, ⟨by decide +kernel, by decide +kernel⟩, by decide +kernel⟩
theorem m12_318 : zMV RX12 318 RX12 yX12_adds cX12_adds 6 (Option.none : Option FieldType) 4 := ⟨q1657, q1659, q59, q129, q1660, rfl, ⟨by decide +kernel, by decide +kernel⟩, by decide +kernel⟩
theorem m12_321 : zMV RX12 321 RX12 yX12_kindHere cX12_kindHere 1 (Option.some FieldType.int) 0 := ⟨q1639, q1641, q56, q129, q1642, rfl, ⟨by decide +kernel, by decide +kernel⟩, by decide +kernel⟩
theorem m12_324 : zMV RX12 324 RX12 yX12_readsPost cX12_readsPost 4 (Option.none : Option FieldType) 0 := ⟨q1649, q1651, q57, q129, q1652, rfl, ⟨by decide +kernel, by decide +kernel⟩, by decide +kernel⟩
theorem m12_327 : zMV RX12 327 RX12 yX12_terminal0 cX12_terminal0 2 (Option.some FieldType.int) 0 := ⟨q1661, q1663, q60, q129, q1664, rfl, ⟨by decide +kernel, by decide +kernel⟩, by decide +kernel⟩
theorem m12_330 : zMV RX12 330 RX12 yX12_postsNow cX12_postsNow 6 (Option.some FieldType.int) 3 := ⟨q1673, q1675, q63, q129, q1676, rfl, ⟨by decide +kernel, by decide +kernel⟩, by decide +kernel⟩
theorem m12_333 : zMV RX12 333 RX12 yX12_canRun cX12_canRun 2 (Option.some FieldType.boolean) 1 := ⟨q1685, q1687, q66, q129, q1688, rfl, ⟨by decide +kernel, by decide +kernel⟩, by decide +kernel⟩
theorem m12_336 : zMV RX12 336 RX12 yX12_runsNow cX12_runsNow 4 (Option.some FieldType.int) 1 := ⟨q1689, q1691, q67, q129, q1692, rfl, ⟨by decide +kernel, by decide +kernel⟩, by decide +kernel⟩
theorem m12_339 : zMV RX12 339 RX12 yX12_addsPlace cX12_addsPlace 2 (Option.some FieldType.int) 1 := ⟨q1806, q1808, q96, q129, q1809, rfl, ⟨by decide +kernel, by decide +kernel⟩, by decide +kernel⟩
theorem m12_342 : zMV RX12 342 RX12 yX12_dropsPlace cX12_dropsPlace 4 (Option.some FieldType.int) 1 := ⟨q1810, q1812, q97, q129, q1813, rfl, ⟨by decide +kernel, by decide +kernel⟩, by decide +kernel⟩
theorem m12_345 : zMV RX12 345 RX12 yX12_setsAlive cX12_setsAlive 4 (Option.some FieldType.int) 2 := ⟨q1814, q1816, q98, q129, q1817, rfl, ⟨by decide +kernel, by decide +kernel⟩, by decide +kernel⟩
theorem m12_348 : zMV RX12 348 RX12 yX12_readsStatement cX12_readsStatement 2 (Option.none : Option FieldType) 0 := ⟨q1635, q1637, q55, q129, q1638, rfl, ⟨by decide +kernel, by decide +kernel⟩, by decide +kernel⟩
theorem m12_351 : zMV RX12 351 RX12 yX12_keeps cX12_keeps 1 (Option.none : Option FieldType) 0 := ⟨q1665, q1667, q61, q129, q1668, rfl, ⟨by decide +kernel, by decide +kernel⟩, by decide +kernel⟩
theorem m12_354 : zMV RX12 354 RX12 yX12_does cX12_does 9 (Option.some FieldType.boolean) 1 := ⟨q1669, q1671, q62, q129, q1672, rfl, ⟨by decide +kernel, by decide +kernel⟩, by decide +kernel⟩
theorem m12_357 : zMV RX12 357 RX12 yX12_terminalsWith cX12_terminalsWith 5 (Option.some FieldType.int) 2 := ⟨q1822, q1824, q99, q129, q1825, rfl, ⟨by decide +kernel, by decide +kernel⟩, by decide +kernel⟩
theorem m12_360 : zMV RX12 360 RX12 yX12_isTerminal cX12_isTerminal 2 (Option.some FieldType.boolean) 1 := ⟨q1838, q1840, q100, q129, q1841, rfl, ⟨by decide +kernel, by decide +kernel⟩, by decide +kernel⟩
theorem m12_363 : zMV RX12 363 RX12 yX12_may cX12_may 3 (Option.some FieldType.boolean) 2 := ⟨q1842, q1844, q101, q129, q1845, rfl, ⟨by decide +kernel, by decide +kernel⟩, by decide +kernel⟩
theorem m12_367 : zMV RX12 367 RX12 yX12_placesOf cX12_placesOf 4 (Option.some FieldType.int) 1 := ⟨q1846, q1848, q102, q129, q1849, rfl, ⟨by decide +kernel, by decide +kernel⟩, by decide +kernel⟩
theorem m12_370 : zMS RX12 370 yX12_lettersOf cX12_lettersOf 3 (Option.some FieldType.int) 1 := ⟨q1857, q1858, q129, q1859, ⟨by decide +kernel, by decide +kernel⟩, by decide +kernel⟩
theorem m12_373 : zMS RX12 373 yX12_letterOf cX12_letterOf 3 (Option.some FieldType.int) 2 := ⟨q1854, q1855, q129, q1856, ⟨by decide +kernel, by decide +kernel⟩, by decide +kernel⟩
theorem m12_376 : zMV RX12 376 RX12 yX12_back cX12_back 2 (Option.some FieldType.int) 1 := ⟨q1904, q1906, q105, q129, q1907, rfl, ⟨by decide +kernel, by decide +kernel⟩, by decide +kernel⟩
theorem m12_379 : zMV RX12 379 RX12 yX12_trial cX12_trial 1 (Option.none : Option FieldType) 0 := ⟨q1896, q1898, q103, q129, q1899, rfl, ⟨by decide +kernel, by decide +kernel⟩, by decide +kernel⟩
theorem m12_382 : zMV RX12 382 RX12 yX12_deliveredBy cX12_deliveredBy 3 (Option.some FieldType.int) 1 := ⟨q1900, q1902, q104, q129, q1903, rfl, ⟨by decide +kernel, by decide +kernel⟩, by decide +kernel⟩
theorem m12_385 : zMV RX12 385 RX12 yX12_deliveredWith cX12_deliveredWith 4 (Option.some FieldType.int) 3 := ⟨q1928, q1930, q106, q129, q1931, rfl, ⟨by decide +kernel, by decide +kernel⟩, by decide +kernel⟩
theorem m12_388 : zMV RX12 388 RX12 yX12_isWho cX12_isWho 2 (Option.some FieldType.boolean) 1 := ⟨q1956, q1958, q107, q129, q1959, rfl, ⟨by decide +kernel, by decide +kernel⟩, by decide +kernel⟩
theorem m12_394 : zMV RX12 394 RX12 yX12_writesNumber cX12_writesNumber 2 (Option.none : Option FieldType) 1 := ⟨q2000, q2002, q110, q129, q2003, rfl, ⟨by decide +kernel, by decide +kernel⟩, by decide +kernel⟩
theorem m12_397 : zMV RX12 397 RX12 yX12_writes cX12_writes 2 (Option.none : Option FieldType) 1 := ⟨q1992, q1994, q108, q129, q1995, rfl, ⟨by decide +kernel, by decide +kernel⟩, by decide +kernel⟩
theorem m12_400 : zMV RX12 400 RX12 yX12_writesName cX12_writesName 4 (Option.none : Option FieldType) 1 := ⟨q1996, q1998, q109, q129, q1999, rfl, ⟨by decide +kernel, by decide +kernel⟩, by decide +kernel⟩
theorem pn0 : plainName RX0 = true := by decide +kernel
theorem pn1 : plainName RX1 = true := by decide +kernel
theorem pn2 : plainName RX2 = true := by decide +kernel
theorem pn3 : plainName RX3 = true := by decide +kernel
theorem pn4 : plainName RX4 = true := by decide +kernel
theorem pn5 : plainName RX5 = true := by decide +kernel
theorem pn6 : plainName RX6 = true := by decide +kernel
theorem pn7 : plainName RX7 = true := by decide +kernel
theorem pn8 : plainName RX8 = true := by decide +kernel
theorem pn9 : plainName RX9 = true := by decide +kernel
theorem pn10 : plainName RX10 = true := by decide +kernel
theorem pn11 : plainName RX11 = true := by decide +kernel
theorem pn12 : plainName RX12 = true := by decide +kernel
/-- more rounds than any loop makes -/
def zF : Nat := 100000
section HELP
variable {V : zW} {X : zX} {cc : ByteArray} {own : String} {nL k n pc : Nat} {R0 : Room} {ret : Option FieldType} {L L' : List (Option Value)} {st : List Value} {d : zD}
/-- fewer locals are asked of than stand there -/
def zmask : List Bool → List (Option Value) → List (Option Value)
  | true :: m, x :: L => x :: zmask m L
  | false :: m, _ :: L => none :: zmask m L
  | _, _ => []
theorem zmask_at : ∀ {m : List Bool} {L : List (Option Value)} {i : Nat} {v : Value}, (zmask m L)[i]? = some (some v) → L[i]? = some (some v)
  | true :: m, x :: L, 0, v, h => by simpa [zmask] using h
  | false :: m, x :: L, 0, v, h => by simp [zmask] at h
  | true :: m, x :: L, i + 1, v, h => by
    have h : (zmask m L)[i]? = some (some v) := by simpa [zmask] using h
    simpa using zmask_at h
  | false :: m, x :: L, i + 1, v, h => by
    have h : (zmask m L)[i]? = some (some v) := by simpa [zmask] using h
    simpa using zmask_at h
  | [], L, i, v, h => by simp [zmask] at h
  | b :: m, [], i, v, h => by cases b <;> simp [zmask] at h
theorem zP_mask (m : List Bool) (kk : zP V X nL k n pc (zmask m L) st d) : zP V X nL k n pc L st d := by
  obtain ⟨p, l, e, R, s, me, args, below, meth, c, Q⟩ := X
  intro ls H locs hl hP hS
  refine kk ls H locs ⟨hl.1, hl.2.1, fun q hq => ?_⟩ hP hS
  obtain ⟨-, h2⟩ := zLp_of (i := 0) (j := q.1) (v := q.2) hq
  rw [Nat.sub_zero] at h2
  have h3 := zLp_mem (i := 0) (zmask_at h2)
  rw [Nat.zero_add] at h3
  exact hl.2.2 q h3
theorem z01 {v : Int} (h : v = 0 ∨ v = 1) : zR v := by
  rcases h with rfl | rfl <;> exact zRk rfl
end HELP
