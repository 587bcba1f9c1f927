def RX0 : String := "PolledLine$History"
def TX0 : u_T := fun k => match k with
  | 0 => ("PolledLine$History", "kept", "[LPolledLine$Line;", true)
  | 1 => ("PolledLine$History", "oldest", "I", false)
  | _ => ("PolledLine$History", "size", "I", false)
def tyX0 : Nat → FieldType := fun k => match k with
  | 0 => .array (.object "PolledLine$Line")
  | 1 => .int
  | _ => .int
abbrev wsX00 : List Cond := u_ws RX0 TX0 3
theorem nmX0 : ∀ a, a < 3 → ∀ b, b < 3 → a ≠ b → (TX0 a).2.1 ≠ (TX0 b).2.1 := by decide +kernel
theorem tyX0_ok : ∀ k, k < 3 → parseFieldDescriptor (TX0 k).2.2.1 = some (tyX0 k) := by decide +kernel
abbrev cX0_init : ByteArray := prog_2_method_1_code
def yX0_init : MethodName := ⟨RX0, "<init>", "(LPolledLine$Setup;)V"⟩
abbrev cX0_remember : ByteArray := prog_2_method_2_code
def yX0_remember : MethodName := ⟨RX0, "remember", "(LPolledLine$Line;)V"⟩
abbrev cX0_takeBack : ByteArray := prog_2_method_3_code
def yX0_takeBack : MethodName := ⟨RX0, "takeBack", "(LPolledLine$Line;)V"⟩
def RX1 : String := "PolledLine$Host"
def TX1 : u_T := fun k => match k with
  | 0 => ("PolledLine$Host", "line", "LPolledLine$Line;", true)
  | 1 => ("PolledLine$Host", "kind", "I", false)
  | 2 => ("PolledLine$Host", "terminal", "I", false)
  | _ => ("PolledLine$Host", "place", "I", false)
def tyX1 : Nat → FieldType := fun k => match k with
  | 0 => .object "PolledLine$Line"
  | 1 => .int
  | 2 => .int
  | _ => .int
abbrev wsX10 : List Cond := u_ws RX1 TX1 4
theorem nmX1 : ∀ a, a < 4 → ∀ b, b < 4 → a ≠ b → (TX1 a).2.1 ≠ (TX1 b).2.1 := by decide +kernel
theorem tyX1_ok : ∀ k, k < 4 → parseFieldDescriptor (TX1 k).2.2.1 = some (tyX1 k) := by decide +kernel
abbrev cX1_init : ByteArray := prog_3_method_1_code
def yX1_init : MethodName := ⟨RX1, "<init>", "(LPolledLine$Line;)V"⟩
abbrev cX1_choose : ByteArray := prog_3_method_2_code
def yX1_choose : MethodName := ⟨RX1, "choose", "(I)V"⟩
abbrev cX1_nextToTest : ByteArray := prog_3_method_3_code
def yX1_nextToTest : MethodName := ⟨RX1, "nextToTest", "(I)I"⟩
abbrev cX1_nextToSelect : ByteArray := prog_3_method_4_code
def yX1_nextToSelect : MethodName := ⟨RX1, "nextToSelect", "()I"⟩
abbrev cX1_nextPlace : ByteArray := prog_3_method_5_code
def yX1_nextPlace : MethodName := ⟨RX1, "nextPlace", "()I"⟩
abbrev cX1_makeTurns : ByteArray := prog_3_method_6_code
def yX1_makeTurns : MethodName := ⟨RX1, "makeTurns", "(I)V"⟩
abbrev cX1_makeTurn : ByteArray := prog_3_method_7_code
def yX1_makeTurn : MethodName := ⟨RX1, "makeTurn", "()V"⟩
abbrev cX1_noteBeginning : ByteArray := prog_3_method_8_code
def yX1_noteBeginning : MethodName := ⟨RX1, "noteBeginning", "()V"⟩
abbrev cX1_noteEnd : ByteArray := prog_3_method_9_code
def yX1_noteEnd : MethodName := ⟨RX1, "noteEnd", "(I)V"⟩
abbrev cX1_call : ByteArray := prog_3_method_10_code
def yX1_call : MethodName := ⟨RX1, "call", "()Z"⟩
abbrev cX1_sendNegativeAnswer : ByteArray := prog_3_method_11_code
def yX1_sendNegativeAnswer : MethodName := ⟨RX1, "sendNegativeAnswer", "()V"⟩
abbrev cX1_tryPoll : ByteArray := prog_3_method_12_code
def yX1_tryPoll : MethodName := ⟨RX1, "tryPoll", "()I"⟩
abbrev cX1_trySelect : ByteArray := prog_3_method_13_code
def yX1_trySelect : MethodName := ⟨RX1, "trySelect", "()I"⟩
def RX2 : String := "PolledLine$Line"
def TX2 : u_T := fun k => match k with
  | 0 => ("PolledLine$Line", "setup", "LPolledLine$Setup;", true)
  | 1 => ("PolledLine$Line", "messages", "LPolledLine$Messages;", true)
  | 2 => ("PolledLine$Line", "rows", "LPolledLine$Rows;", true)
  | 3 => ("PolledLine$Line", "stations", "LPolledLine$Stations;", true)
  | 4 => ("PolledLine$Line", "log", "LPolledLine$TurnLog;", true)
  | 5 => ("PolledLine$Line", "settings", "[I", true)
  | 6 => ("PolledLine$Line", "accounts", "[I", true)
  | 7 => ("PolledLine$Line", "list", "[I", true)
  | 8 => ("PolledLine$Line", "listSize", "I", false)
  | 9 => ("PolledLine$Line", "time", "I", false)
  | 10 => ("PolledLine$Line", "turn", "I", false)
  | 11 => ("PolledLine$Line", "seed", "I", false)
  | 12 => ("PolledLine$Line", "lastTested", "I", false)
  | 13 => ("PolledLine$Line", "lastSelected", "I", false)
  | 14 => ("PolledLine$Line", "lastPlace", "I", false)
  | _ => ("PolledLine$Line", "selectsSincePoll", "I", false)
def tyX2 : Nat → FieldType := fun k => match k with
  | 0 => .object "PolledLine$Setup"
  | 1 => .object "PolledLine$Messages"
  | 2 => .object "PolledLine$Rows"
  | 3 => .object "PolledLine$Stations"
  | 4 => .object "PolledLine$TurnLog"
  | 5 => .array .int
  | 6 => .array .int
  | 7 => .array .int
  | 8 => .int
  | 9 => .int
  | 10 => .int
  | 11 => .int
  | 12 => .int
  | 13 => .int
  | 14 => .int
  | _ => .int
abbrev wsX20 : List Cond := u_ws RX2 TX2 16
theorem nmX2 : ∀ a, a < 16 → ∀ b, b < 16 → a ≠ b → (TX2 a).2.1 ≠ (TX2 b).2.1 := by decide +kernel
theorem tyX2_ok : ∀ k, k < 16 → parseFieldDescriptor (TX2 k).2.2.1 = some (tyX2 k) := by decide +kernel
abbrev cX2_init : ByteArray := prog_4_method_1_code
def yX2_init : MethodName := ⟨RX2, "<init>", "(LPolledLine$Setup;)V"⟩
abbrev cX2_begin : ByteArray := prog_4_method_2_code
def yX2_begin : MethodName := ⟨RX2, "begin", "(LPolledLine$SetupReader;)V"⟩
abbrev cX2_copyFrom : ByteArray := prog_4_method_3_code
def yX2_copyFrom : MethodName := ⟨RX2, "copyFrom", "(LPolledLine$Line;)V"⟩
abbrev cX2_delivered : ByteArray := prog_4_method_4_code
def yX2_delivered : MethodName := ⟨RX2, "delivered", "()I"⟩
abbrev cX2_sumOf : ByteArray := prog_4_method_5_code
def yX2_sumOf : MethodName := ⟨RX2, "sumOf", "([I)I"⟩
abbrev cX2_isOn : ByteArray := prog_4_method_6_code
def yX2_isOn : MethodName := ⟨RX2, "isOn", "(I)Z"⟩
abbrev cX2_setLife : ByteArray := prog_4_method_7_code
def yX2_setLife : MethodName := ⟨RX2, "setLife", "(II)I"⟩
abbrev cX2_hasPlace : ByteArray := prog_4_method_8_code
def yX2_hasPlace : MethodName := ⟨RX2, "hasPlace", "(I)Z"⟩
abbrev cX2_placesWith : ByteArray := prog_4_method_9_code
def yX2_placesWith : MethodName := ⟨RX2, "placesWith", "(I)I"⟩
abbrev cX2_appendPlace : ByteArray := prog_4_method_10_code
def yX2_appendPlace : MethodName := ⟨RX2, "appendPlace", "(I)V"⟩
abbrev cX2_removePlace : ByteArray := prog_4_method_11_code
def yX2_removePlace : MethodName := ⟨RX2, "removePlace", "(I)V"⟩
abbrev cX2_addMessage : ByteArray := prog_4_method_12_code
def yX2_addMessage : MethodName := ⟨RX2, "addMessage", "(III)I"⟩
abbrev cX2_send : ByteArray := prog_4_method_13_code
def yX2_send : MethodName := ⟨RX2, "send", "(I)Z"⟩
abbrev cX2_takeAtHost : ByteArray := prog_4_method_14_code
def yX2_takeAtHost : MethodName := ⟨RX2, "takeAtHost", "(II)V"⟩
abbrev cX2_takeAtTerminal : ByteArray := prog_4_method_15_code
def yX2_takeAtTerminal : MethodName := ⟨RX2, "takeAtTerminal", "(II)V"⟩
abbrev cX2_deliverDue : ByteArray := prog_4_method_16_code
def yX2_deliverDue : MethodName := ⟨RX2, "deliverDue", "(I)V"⟩
def RX3 : String := "PolledLine$Messages"
def TX3 : u_T := fun k => match k with
  | 0 => ("PolledLine$Messages", "size", "I", false)
  | 1 => ("PolledLine$Messages", "senders", "[I", true)
  | 2 => ("PolledLine$Messages", "receivers", "[I", true)
  | 3 => ("PolledLine$Messages", "lengths", "[I", true)
  | 4 => ("PolledLine$Messages", "states", "[I", true)
  | 5 => ("PolledLine$Messages", "postTimes", "[I", true)
  | 6 => ("PolledLine$Messages", "hostTimes", "[I", true)
  | 7 => ("PolledLine$Messages", "bufferTimes", "[I", true)
  | _ => ("PolledLine$Messages", "deliveryTimes", "[I", true)
def tyX3 : Nat → FieldType := fun k => match k with
  | 0 => .int
  | 1 => .array .int
  | 2 => .array .int
  | 3 => .array .int
  | 4 => .array .int
  | 5 => .array .int
  | 6 => .array .int
  | 7 => .array .int
  | _ => .array .int
abbrev wsX30 : List Cond := u_ws RX3 TX3 9
theorem nmX3 : ∀ a, a < 9 → ∀ b, b < 9 → a ≠ b → (TX3 a).2.1 ≠ (TX3 b).2.1 := by decide +kernel
theorem tyX3_ok : ∀ k, k < 9 → parseFieldDescriptor (TX3 k).2.2.1 = some (tyX3 k) := by decide +kernel
abbrev cX3_init : ByteArray := prog_5_method_1_code
def yX3_init : MethodName := ⟨RX3, "<init>", "()V"⟩
abbrev cX3_has : ByteArray := prog_5_method_2_code
def yX3_has : MethodName := ⟨RX3, "has", "(I)Z"⟩
abbrev cX3_isFull : ByteArray := prog_5_method_3_code
def yX3_isFull : MethodName := ⟨RX3, "isFull", "()Z"⟩
abbrev cX3_countIn : ByteArray := prog_5_method_4_code
def yX3_countIn : MethodName := ⟨RX3, "countIn", "(I)I"⟩
abbrev cX3_copyFrom : ByteArray := prog_5_method_6_code
def yX3_copyFrom : MethodName := ⟨RX3, "copyFrom", "(LPolledLine$Messages;)V"⟩
def RX4 : String := "PolledLine$Rows"
def TX4 : u_T := fun k => match k with
  | 0 => ("PolledLine$Rows", "firsts", "[I", true)
  | 1 => ("PolledLine$Rows", "lasts", "[I", true)
  | 2 => ("PolledLine$Rows", "sizes", "[I", true)
  | _ => ("PolledLine$Rows", "nexts", "[I", true)
def tyX4 : Nat → FieldType := fun k => match k with
  | 0 => .array .int
  | 1 => .array .int
  | 2 => .array .int
  | _ => .array .int
abbrev wsX40 : List Cond := u_ws RX4 TX4 4
theorem nmX4 : ∀ a, a < 4 → ∀ b, b < 4 → a ≠ b → (TX4 a).2.1 ≠ (TX4 b).2.1 := by decide +kernel
theorem tyX4_ok : ∀ k, k < 4 → parseFieldDescriptor (TX4 k).2.2.1 = some (tyX4 k) := by decide +kernel
abbrev cX4_init : ByteArray := prog_6_method_1_code
def yX4_init : MethodName := ⟨RX4, "<init>", "()V"⟩
abbrev cX4_clear : ByteArray := prog_6_method_2_code
def yX4_clear : MethodName := ⟨RX4, "clear", "()V"⟩
abbrev cX4_sizeOf : ByteArray := prog_6_method_3_code
def yX4_sizeOf : MethodName := ⟨RX4, "sizeOf", "(II)I"⟩
abbrev cX4_firstOf : ByteArray := prog_6_method_4_code
def yX4_firstOf : MethodName := ⟨RX4, "firstOf", "(II)I"⟩
abbrev cX4_nextOf : ByteArray := prog_6_method_5_code
def yX4_nextOf : MethodName := ⟨RX4, "nextOf", "(II)I"⟩
abbrev cX4_messageAt : ByteArray := prog_6_method_6_code
def yX4_messageAt : MethodName := ⟨RX4, "messageAt", "(III)I"⟩
abbrev cX4_append : ByteArray := prog_6_method_7_code
def yX4_append : MethodName := ⟨RX4, "append", "(III)V"⟩
abbrev cX4_removeFirst : ByteArray := prog_6_method_8_code
def yX4_removeFirst : MethodName := ⟨RX4, "removeFirst", "(II)V"⟩
abbrev cX4_copyFrom : ByteArray := prog_6_method_9_code
def yX4_copyFrom : MethodName := ⟨RX4, "copyFrom", "(LPolledLine$Rows;)V"⟩
def RX5 : String := "PolledLine$Script"
def TX5 : u_T := fun k => match k with
  | 0 => ("PolledLine$Script", "tokens", "LPolledLine$Tokens;", true)
  | 1 => ("PolledLine$Script", "setup", "LPolledLine$Setup;", true)
  | 2 => ("PolledLine$Script", "verbs", "[I", true)
  | 3 => ("PolledLine$Script", "first", "[I", true)
  | 4 => ("PolledLine$Script", "second", "[I", true)
  | 5 => ("PolledLine$Script", "third", "[I", true)
  | _ => ("PolledLine$Script", "size", "I", false)
def tyX5 : Nat → FieldType := fun k => match k with
  | 0 => .object "PolledLine$Tokens"
  | 1 => .object "PolledLine$Setup"
  | 2 => .array .int
  | 3 => .array .int
  | 4 => .array .int
  | 5 => .array .int
  | _ => .int
abbrev wsX50 : List Cond := u_ws RX5 TX5 7
theorem nmX5 : ∀ a, a < 7 → ∀ b, b < 7 → a ≠ b → (TX5 a).2.1 ≠ (TX5 b).2.1 := by decide +kernel
theorem tyX5_ok : ∀ k, k < 7 → parseFieldDescriptor (TX5 k).2.2.1 = some (tyX5 k) := by decide +kernel
abbrev cX5_init : ByteArray := prog_7_method_1_code
def yX5_init : MethodName := ⟨RX5, "<init>", "(LPolledLine$Tokens;LPolledLine$Setup;)V"⟩
def RX6 : String := "PolledLine$Setup"
def TX6 : u_T := fun k => match k with
  | 0 => ("PolledLine$Setup", "size", "I", false)
  | 1 => ("PolledLine$Setup", "names", "[I", true)
  | 2 => ("PolledLine$Setup", "delays", "[I", true)
  | 3 => ("PolledLine$Setup", "rooms", "[I", true)
  | _ => ("PolledLine$Setup", "prints", "[I", true)
def tyX6 : Nat → FieldType := fun k => match k with
  | 0 => .int
  | 1 => .array .int
  | 2 => .array .int
  | 3 => .array .int
  | _ => .array .int
abbrev wsX60 : List Cond := u_ws RX6 TX6 5
theorem nmX6 : ∀ a, a < 5 → ∀ b, b < 5 → a ≠ b → (TX6 a).2.1 ≠ (TX6 b).2.1 := by decide +kernel
theorem tyX6_ok : ∀ k, k < 5 → parseFieldDescriptor (TX6 k).2.2.1 = some (tyX6 k) := by decide +kernel
abbrev cX6_init : ByteArray := prog_8_method_1_code
def yX6_init : MethodName := ⟨RX6, "<init>", "()V"⟩
abbrev cX6_has : ByteArray := prog_8_method_2_code
def yX6_has : MethodName := ⟨RX6, "has", "(I)Z"⟩
abbrev cX6_addTerminal : ByteArray := prog_8_method_3_code
def yX6_addTerminal : MethodName := ⟨RX6, "addTerminal", "(I)V"⟩
abbrev cX6_find : ByteArray := prog_8_method_4_code
def yX6_find : MethodName := ⟨RX6, "find", "(I)I"⟩
abbrev cX6_copyFrom : ByteArray := prog_8_method_6_code
def yX6_copyFrom : MethodName := ⟨RX6, "copyFrom", "(LPolledLine$Setup;)V"⟩
def RX7 : String := "PolledLine$SetupReader"
def TX7 : u_T := fun k => match k with
  | 0 => ("PolledLine$SetupReader", "tokens", "LPolledLine$Tokens;", true)
  | 1 => ("PolledLine$SetupReader", "draft", "LPolledLine$Setup;", true)
  | 2 => ("PolledLine$SetupReader", "settings", "[I", true)
  | 3 => ("PolledLine$SetupReader", "list", "[I", true)
  | 4 => ("PolledLine$SetupReader", "listSize", "I", false)
  | 5 => ("PolledLine$SetupReader", "seed", "I", false)
  | _ => ("PolledLine$SetupReader", "told", "I", false)
def tyX7 : Nat → FieldType := fun k => match k with
  | 0 => .object "PolledLine$Tokens"
  | 1 => .object "PolledLine$Setup"
  | 2 => .array .int
  | 3 => .array .int
  | 4 => .int
  | 5 => .int
  | _ => .int
abbrev wsX70 : List Cond := u_ws RX7 TX7 7
theorem nmX7 : ∀ a, a < 7 → ∀ b, b < 7 → a ≠ b → (TX7 a).2.1 ≠ (TX7 b).2.1 := by decide +kernel
theorem tyX7_ok : ∀ k, k < 7 → parseFieldDescriptor (TX7 k).2.2.1 = some (tyX7 k) := by decide +kernel
abbrev cX7_init : ByteArray := prog_9_method_1_code
def yX7_init : MethodName := ⟨RX7, "<init>", "(LPolledLine$Tokens;)V"⟩
abbrev cX7_readText : ByteArray := prog_9_method_2_code
def yX7_readText : MethodName := ⟨RX7, "readText", "()Z"⟩
abbrev cX7_readStatement : ByteArray := prog_9_method_3_code
def yX7_readStatement : MethodName := ⟨RX7, "readStatement", "()Z"⟩
abbrev cX7_beginOnce : ByteArray := prog_9_method_4_code
def yX7_beginOnce : MethodName := ⟨RX7, "beginOnce", "(I)Z"⟩
abbrev cX7_readTerminal : ByteArray := prog_9_method_5_code
def yX7_readTerminal : MethodName := ⟨RX7, "readTerminal", "()Z"⟩
abbrev cX7_readOption : ByteArray := prog_9_method_6_code
def yX7_readOption : MethodName := ⟨RX7, "readOption", "(Ljava/lang/String;[III)Z"⟩
abbrev cX7_readList : ByteArray := prog_9_method_7_code
def yX7_readList : MethodName := ⟨RX7, "readList", "()Z"⟩
abbrev cX7_readSettings : ByteArray := prog_9_method_8_code
def yX7_readSettings : MethodName := ⟨RX7, "readSettings", "(II)Z"⟩
abbrev cX7_readSeed : ByteArray := prog_9_method_9_code
def yX7_readSeed : MethodName := ⟨RX7, "readSeed", "()Z"⟩
def RX8 : String := "PolledLine$Stations"
def TX8 : u_T := fun k => match k with
  | 0 => ("PolledLine$Stations", "alive", "[I", true)
  | 1 => ("PolledLine$Stations", "on", "[I", true)
  | 2 => ("PolledLine$Stations", "misses", "[I", true)
  | 3 => ("PolledLine$Stations", "ownBits", "[I", true)
  | 4 => ("PolledLine$Stations", "expectedBits", "[I", true)
  | 5 => ("PolledLine$Stations", "hostBits", "[I", true)
  | 6 => ("PolledLine$Stations", "hostExpectedBits", "[I", true)
  | 7 => ("PolledLine$Stations", "firstSince", "[I", true)
  | _ => ("PolledLine$Stations", "often", "[I", true)
def tyX8 : Nat → FieldType := fun k => match k with
  | 0 => .array .int
  | 1 => .array .int
  | 2 => .array .int
  | 3 => .array .int
  | 4 => .array .int
  | 5 => .array .int
  | 6 => .array .int
  | 7 => .array .int
  | _ => .array .int
abbrev wsX80 : List Cond := u_ws RX8 TX8 9
theorem nmX8 : ∀ a, a < 9 → ∀ b, b < 9 → a ≠ b → (TX8 a).2.1 ≠ (TX8 b).2.1 := by decide +kernel
theorem tyX8_ok : ∀ k, k < 9 → parseFieldDescriptor (TX8 k).2.2.1 = some (tyX8 k) := by decide +kernel
abbrev cX8_init : ByteArray := prog_10_method_1_code
def yX8_init : MethodName := ⟨RX8, "<init>", "()V"⟩
abbrev cX8_clear : ByteArray := prog_10_method_2_code
def yX8_clear : MethodName := ⟨RX8, "clear", "()V"⟩
abbrev cX8_countOften : ByteArray := prog_10_method_3_code
def yX8_countOften : MethodName := ⟨RX8, "countOften", "(II)V"⟩
abbrev cX8_oftenOf : ByteArray := prog_10_method_4_code
def yX8_oftenOf : MethodName := ⟨RX8, "oftenOf", "(II)I"⟩
abbrev cX8_copyFrom : ByteArray := prog_10_method_5_code
def yX8_copyFrom : MethodName := ⟨RX8, "copyFrom", "(LPolledLine$Stations;)V"⟩
def RX9 : String := "PolledLine$Tokens"
def TX9 : u_T := fun k => match k with
  | 0 => ("PolledLine$Tokens", "bytes", "[I", true)
  | 1 => ("PolledLine$Tokens", "length", "I", false)
  | 2 => ("PolledLine$Tokens", "kind", "I", false)
  | 3 => ("PolledLine$Tokens", "start", "I", false)
  | 4 => ("PolledLine$Tokens", "position", "I", false)
  | 5 => ("PolledLine$Tokens", "errorCode", "I", false)
  | _ => ("PolledLine$Tokens", "errorOffset", "I", false)
def tyX9 : Nat → FieldType := fun k => match k with
  | 0 => .array .int
  | 1 => .int
  | 2 => .int
  | 3 => .int
  | 4 => .int
  | 5 => .int
  | _ => .int
abbrev wsX90 : List Cond := u_ws RX9 TX9 7
theorem nmX9 : ∀ a, a < 7 → ∀ b, b < 7 → a ≠ b → (TX9 a).2.1 ≠ (TX9 b).2.1 := by decide +kernel
theorem tyX9_ok : ∀ k, k < 7 → parseFieldDescriptor (TX9 k).2.2.1 = some (tyX9 k) := by decide +kernel
abbrev cX9_init : ByteArray := prog_11_method_1_code
def yX9_init : MethodName := ⟨RX9, "<init>", "()V"⟩
abbrev cX9_addByte : ByteArray := prog_11_method_2_code
def yX9_addByte : MethodName := ⟨RX9, "addByte", "(I)V"⟩
abbrev cX9_addFourBytes : ByteArray := prog_11_method_3_code
def yX9_addFourBytes : MethodName := ⟨RX9, "addFourBytes", "(I)V"⟩
abbrev cX9_begin : ByteArray := prog_11_method_4_code
def yX9_begin : MethodName := ⟨RX9, "begin", "()V"⟩
abbrev cX9_advance : ByteArray := prog_11_method_5_code
def yX9_advance : MethodName := ⟨RX9, "advance", "()V"⟩
abbrev cX9_isAtEnd : ByteArray := prog_11_method_6_code
def yX9_isAtEnd : MethodName := ⟨RX9, "isAtEnd", "()Z"⟩
abbrev cX9_isAtWord : ByteArray := prog_11_method_7_code
def yX9_isAtWord : MethodName := ⟨RX9, "isAtWord", "(Ljava/lang/String;)Z"⟩
abbrev cX9_nameHere : ByteArray := prog_11_method_8_code
def yX9_nameHere : MethodName := ⟨RX9, "nameHere", "()I"⟩
abbrev cX9_numberHere : ByteArray := prog_11_method_9_code
def yX9_numberHere : MethodName := ⟨RX9, "numberHere", "()I"⟩
abbrev cX9_fail : ByteArray := prog_11_method_10_code
def yX9_fail : MethodName := ⟨RX9, "fail", "(I)Z"⟩
abbrev cX9_readNumber : ByteArray := prog_11_method_11_code
def yX9_readNumber : MethodName := ⟨RX9, "readNumber", "(II)I"⟩
abbrev cX9_readSemicolon : ByteArray := prog_11_method_12_code
def yX9_readSemicolon : MethodName := ⟨RX9, "readSemicolon", "()Z"⟩
def RX10 : String := "PolledLine$TurnLog"
def TX10 : u_T := fun k => match k with
  | 0 => ("PolledLine$TurnLog", "size", "I", false)
  | 1 => ("PolledLine$TurnLog", "next", "I", false)
  | _ => ("PolledLine$TurnLog", "numbers", "[I", true)
def tyX10 : Nat → FieldType := fun k => match k with
  | 0 => .int
  | 1 => .int
  | _ => .array .int
abbrev wsX100 : List Cond := u_ws RX10 TX10 3
theorem nmX10 : ∀ a, a < 3 → ∀ b, b < 3 → a ≠ b → (TX10 a).2.1 ≠ (TX10 b).2.1 := by decide +kernel
theorem tyX10_ok : ∀ k, k < 3 → parseFieldDescriptor (TX10 k).2.2.1 = some (tyX10 k) := by decide +kernel
abbrev cX10_init : ByteArray := prog_12_method_1_code
def yX10_init : MethodName := ⟨RX10, "<init>", "()V"⟩
abbrev cX10_clear : ByteArray := prog_12_method_2_code
def yX10_clear : MethodName := ⟨RX10, "clear", "()V"⟩
abbrev cX10_add : ByteArray := prog_12_method_3_code
def yX10_add : MethodName := ⟨RX10, "add", "(IIIII)V"⟩
abbrev cX10_numberOf : ByteArray := prog_12_method_4_code
def yX10_numberOf : MethodName := ⟨RX10, "numberOf", "(II)I"⟩
abbrev cX10_copyFrom : ByteArray := prog_12_method_5_code
def yX10_copyFrom : MethodName := ⟨RX10, "copyFrom", "(LPolledLine$TurnLog;)V"⟩
def RX11 : String := "PolledLine"
def TX11 : u_T := fun k => match k with
  | 0 => ("PolledLine", "setup", "LPolledLine$Setup;", true)
  | 1 => ("PolledLine", "line", "LPolledLine$Line;", true)
  | 2 => ("PolledLine", "host", "LPolledLine$Host;", true)
  | 3 => ("PolledLine", "copy", "LPolledLine$Line;", true)
  | 4 => ("PolledLine", "copyHost", "LPolledLine$Host;", true)
  | 5 => ("PolledLine", "saved", "LPolledLine$Line;", true)
  | 6 => ("PolledLine", "history", "LPolledLine$History;", true)
  | 7 => ("PolledLine", "tokens", "LPolledLine$Tokens;", true)
  | 8 => ("PolledLine", "setupReader", "LPolledLine$SetupReader;", true)
  | 9 => ("PolledLine", "script", "LPolledLine$Script;", true)
  | 10 => ("PolledLine", "output", "[I", true)
  | 11 => ("PolledLine", "outputLength", "I", false)
  | _ => ("PolledLine", "hasSaved", "Z", false)
def tyX11 : Nat → FieldType := fun k => match k with
  | 0 => .object "PolledLine$Setup"
  | 1 => .object "PolledLine$Line"
  | 2 => .object "PolledLine$Host"
  | 3 => .object "PolledLine$Line"
  | 4 => .object "PolledLine$Host"
  | 5 => .object "PolledLine$Line"
  | 6 => .object "PolledLine$History"
  | 7 => .object "PolledLine$Tokens"
  | 8 => .object "PolledLine$SetupReader"
  | 9 => .object "PolledLine$Script"
  | 10 => .array .int
  | 11 => .int
  | _ => .boolean
abbrev wsX110 : List Cond := u_ws RX11 TX11 13
theorem nmX11 : ∀ a, a < 13 → ∀ b, b < 13 → a ≠ b → (TX11 a).2.1 ≠ (TX11 b).2.1 := by decide +kernel
theorem tyX11_ok : ∀ k, k < 13 → parseFieldDescriptor (TX11 k).2.2.1 = some (tyX11 k) := by decide +kernel
abbrev cX11_init : ByteArray := prog_1_method_1_code
def yX11_init : MethodName := ⟨RX11, "<init>", "()V"⟩
abbrev cX11_appendInput : ByteArray := prog_1_method_2_code
def yX11_appendInput : MethodName := ⟨RX11, "appendInput", "(IIIII)I"⟩
abbrev cX11_truncateInput : ByteArray := prog_1_method_3_code
def yX11_truncateInput : MethodName := ⟨RX11, "truncateInput", "(I)Z"⟩
abbrev cX11_loadLine : ByteArray := prog_1_method_4_code
def yX11_loadLine : MethodName := ⟨RX11, "loadLine", "()I"⟩
abbrev cX11_beginAnew : ByteArray := prog_1_method_5_code
def yX11_beginAnew : MethodName := ⟨RX11, "beginAnew", "()V"⟩
abbrev cX11_count : ByteArray := prog_1_method_10_code
def yX11_count : MethodName := ⟨RX11, "count", "(I)I"⟩
abbrev cX11_account : ByteArray := prog_1_method_11_code
def yX11_account : MethodName := ⟨RX11, "account", "(I)I"⟩
abbrev cX11_setting : ByteArray := prog_1_method_12_code
def yX11_setting : MethodName := ⟨RX11, "setting", "(I)I"⟩
abbrev cX11_terminal : ByteArray := prog_1_method_13_code
def yX11_terminal : MethodName := ⟨RX11, "terminal", "(II)I"⟩
abbrev cX11_message : ByteArray := prog_1_method_15_code
def yX11_message : MethodName := ⟨RX11, "message", "(II)I"⟩
abbrev cX11_inRow : ByteArray := prog_1_method_16_code
def yX11_inRow : MethodName := ⟨RX11, "inRow", "(III)I"⟩
abbrev cX11_off : ByteArray := prog_1_method_18_code
def yX11_off : MethodName := ⟨RX11, "off", "()I"⟩
abbrev cX11_turn : ByteArray := prog_1_method_19_code
def yX11_turn : MethodName := ⟨RX11, "turn", "(II)I"⟩
abbrev cX11_nextKind : ByteArray := prog_1_method_20_code
def yX11_nextKind : MethodName := ⟨RX11, "nextKind", "()I"⟩
abbrev cX11_nextTerminal : ByteArray := prog_1_method_21_code
def yX11_nextTerminal : MethodName := ⟨RX11, "nextTerminal", "()I"⟩
abbrev cX11_gap : ByteArray := prog_1_method_22_code
def yX11_gap : MethodName := ⟨RX11, "gap", "()I"⟩
abbrev cX11_deliveredIn : ByteArray := prog_1_method_23_code
def yX11_deliveredIn : MethodName := ⟨RX11, "deliveredIn", "(I)I"⟩
abbrev cX11_timeIn : ByteArray := prog_1_method_24_code
def yX11_timeIn : MethodName := ⟨RX11, "timeIn", "(I)I"⟩
abbrev cX11_deliversIn : ByteArray := prog_1_method_25_code
def yX11_deliversIn : MethodName := ⟨RX11, "deliversIn", "(I)I"⟩
abbrev cX11_quietIn : ByteArray := prog_1_method_26_code
def yX11_quietIn : MethodName := ⟨RX11, "quietIn", "()I"⟩
abbrev cX11_often : ByteArray := prog_1_method_32_code
def yX11_often : MethodName := ⟨RX11, "often", "(II)I"⟩
abbrev cX11_post : ByteArray := prog_1_method_35_code
def yX11_post : MethodName := ⟨RX11, "post", "(III)I"⟩
abbrev cX11_isParty : ByteArray := prog_1_method_36_code
def yX11_isParty : MethodName := ⟨RX11, "isParty", "(I)Z"⟩
abbrev cX11_kill : ByteArray := prog_1_method_37_code
def yX11_kill : MethodName := ⟨RX11, "kill", "(I)I"⟩
abbrev cX11_wake : ByteArray := prog_1_method_38_code
def yX11_wake : MethodName := ⟨RX11, "wake", "(I)I"⟩
abbrev cX11_run : ByteArray := prog_1_method_39_code
def yX11_run : MethodName := ⟨RX11, "run", "(I)I"⟩
abbrev cX11_addPlace : ByteArray := prog_1_method_40_code
def yX11_addPlace : MethodName := ⟨RX11, "addPlace", "(I)I"⟩
abbrev cX11_dropPlace : ByteArray := prog_1_method_41_code
def yX11_dropPlace : MethodName := ⟨RX11, "dropPlace", "(I)I"⟩
abbrev cX11_undo : ByteArray := prog_1_method_43_code
def yX11_undo : MethodName := ⟨RX11, "undo", "()I"⟩
abbrev cX11_saveState : ByteArray := prog_1_method_50_code
def yX11_saveState : MethodName := ⟨RX11, "saveState", "()I"⟩
abbrev cX11_restoreState : ByteArray := prog_1_method_51_code
def yX11_restoreState : MethodName := ⟨RX11, "restoreState", "()I"⟩
def RX12 : String := "PolledLineModel"
def TX12 : u_T := fun k => match k with
  | _ => ("", "", "", false)
def tyX12 : Nat → FieldType := fun k => match k with
  | _ => .int
abbrev wsX120 : List Cond := u_ws RX12 TX12 0
theorem nmX12 : ∀ a, a < 0 → ∀ b, b < 0 → a ≠ b → (TX12 a).2.1 ≠ (TX12 b).2.1 := by decide +kernel
theorem tyX12_ok : ∀ k, k < 0 → parseFieldDescriptor (TX12 k).2.2.1 = some (tyX12 k) := by decide +kernel
def RJx145de : String := "java/io/Serializable"
def TJx145de : u_T := fun k => match k with
  | _ => ("", "", "", false)
def tyJx145de : Nat → FieldType := fun k => match k with
  | _ => .int
abbrev wsJx145de0 : List Cond := u_ws RJx145de TJx145de 0
theorem nmJx145de : ∀ a, a < 0 → ∀ b, b < 0 → a ≠ b → (TJx145de a).2.1 ≠ (TJx145de b).2.1 := by decide +kernel
theorem tyJx145de_ok : ∀ k, k < 0 → parseFieldDescriptor (TJx145de k).2.2.1 = some (tyJx145de k) := by decide +kernel
def RJ5 : String := "java/lang/AbstractStringBuilder"
def TJ5 : u_T := fun k => match k with
  | _ => ("", "", "", false)
def tyJ5 : Nat → FieldType := fun k => match k with
  | _ => .int
abbrev wsJ50 : List Cond := u_ws RJ5 TJ5 0
theorem nmJ5 : ∀ a, a < 0 → ∀ b, b < 0 → a ≠ b → (TJ5 a).2.1 ≠ (TJ5 b).2.1 := by decide +kernel
theorem tyJ5_ok : ∀ k, k < 0 → parseFieldDescriptor (TJ5 k).2.2.1 = some (tyJ5 k) := by decide +kernel
abbrev cJ5_init_d00df : ByteArray := prog_16_method_2_code
def yJ5_init_d00df : MethodName := ⟨RJ5, "<init>", "(I)V"⟩
abbrev cJ5_length_8abf5 : ByteArray := prog_16_method_6_code
def yJ5_length_8abf5 : MethodName := ⟨RJ5, "length", "()I"⟩
abbrev cJ5_ensureCapacityInternal_d00df : ByteArray := prog_16_method_9_code
def yJ5_ensureCapacityInternal_d00df : MethodName := ⟨RJ5, "ensureCapacityInternal", "(I)V"⟩
abbrev cJ5_newCapacity_0f7a4 : ByteArray := prog_16_method_10_code
def yJ5_newCapacity_0f7a4 : MethodName := ⟨RJ5, "newCapacity", "(I)I"⟩
abbrev cJ5_inflate_da8c8 : ByteArray := prog_16_method_11_code
def yJ5_inflate_da8c8 : MethodName := ⟨RJ5, "inflate", "()V"⟩
abbrev cJ5_append_cf1ce : ByteArray := prog_16_method_22_code
def yJ5_append_cf1ce : MethodName := ⟨RJ5, "append", "(Ljava/lang/String;)Ljava/lang/AbstractStringBuilder;"⟩
abbrev cJ5_appendNull_278bc : ByteArray := prog_16_method_26_code
def yJ5_appendNull_278bc : MethodName := ⟨RJ5, "appendNull", "()Ljava/lang/AbstractStringBuilder;"⟩
abbrev cJ5_append_3fe6f : ByteArray := prog_16_method_31_code
def yJ5_append_3fe6f : MethodName := ⟨RJ5, "append", "(C)Ljava/lang/AbstractStringBuilder;"⟩
abbrev cJ5_append_c97b9 : ByteArray := prog_16_method_32_code
def yJ5_append_c97b9 : MethodName := ⟨RJ5, "append", "(I)Ljava/lang/AbstractStringBuilder;"⟩
abbrev cJ5_getValue_6d5f1 : ByteArray := prog_16_method_64_code
def yJ5_getValue_6d5f1 : MethodName := ⟨RJ5, "getValue", "()[B"⟩
abbrev cJ5_isLatin1_aae02 : ByteArray := prog_16_method_68_code
def yJ5_isLatin1_aae02 : MethodName := ⟨RJ5, "isLatin1", "()Z"⟩
abbrev cJ5_inflateIfNeededFor_a7421 : ByteArray := prog_16_method_71_code
def yJ5_inflateIfNeededFor_a7421 : MethodName := ⟨RJ5, "inflateIfNeededFor", "(Ljava/lang/String;)V"⟩
abbrev cJ5_putStringAt_47b60 : ByteArray := prog_16_method_73_code
def yJ5_putStringAt_47b60 : MethodName := ⟨RJ5, "putStringAt", "(ILjava/lang/String;)V"⟩
def RJx2cfe8 : String := "java/lang/Appendable"
def TJx2cfe8 : u_T := fun k => match k with
  | _ => ("", "", "", false)
def tyJx2cfe8 : Nat → FieldType := fun k => match k with
  | _ => .int
abbrev wsJx2cfe80 : List Cond := u_ws RJx2cfe8 TJx2cfe8 0
theorem nmJx2cfe8 : ∀ a, a < 0 → ∀ b, b < 0 → a ≠ b → (TJx2cfe8 a).2.1 ≠ (TJx2cfe8 b).2.1 := by decide +kernel
theorem tyJx2cfe8_ok : ∀ k, k < 0 → parseFieldDescriptor (TJx2cfe8 k).2.2.1 = some (tyJx2cfe8 k) := by decide +kernel
def RJx9f9b0 : String := "java/lang/CharSequence"
def TJx9f9b0 : u_T := fun k => match k with
  | _ => ("", "", "", false)
def tyJx9f9b0 : Nat → FieldType := fun k => match k with
  | _ => .int
abbrev wsJx9f9b00 : List Cond := u_ws RJx9f9b0 TJx9f9b0 0
theorem nmJx9f9b0 : ∀ a, a < 0 → ∀ b, b < 0 → a ≠ b → (TJx9f9b0 a).2.1 ≠ (TJx9f9b0 b).2.1 := by decide +kernel
theorem tyJx9f9b0_ok : ∀ k, k < 0 → parseFieldDescriptor (TJx9f9b0 k).2.2.1 = some (tyJx9f9b0 k) := by decide +kernel
def RJx8e188 : String := "java/lang/Cloneable"
def TJx8e188 : u_T := fun k => match k with
  | _ => ("", "", "", false)
def tyJx8e188 : Nat → FieldType := fun k => match k with
  | _ => .int
abbrev wsJx8e1880 : List Cond := u_ws RJx8e188 TJx8e188 0
theorem nmJx8e188 : ∀ a, a < 0 → ∀ b, b < 0 → a ≠ b → (TJx8e188 a).2.1 ≠ (TJx8e188 b).2.1 := by decide +kernel
theorem tyJx8e188_ok : ∀ k, k < 0 → parseFieldDescriptor (TJx8e188 k).2.2.1 = some (tyJx8e188 k) := by decide +kernel
def RJxb160c : String := "java/lang/Comparable"
def TJxb160c : u_T := fun k => match k with
  | _ => ("", "", "", false)
def tyJxb160c : Nat → FieldType := fun k => match k with
  | _ => .int
abbrev wsJxb160c0 : List Cond := u_ws RJxb160c TJxb160c 0
theorem nmJxb160c : ∀ a, a < 0 → ∀ b, b < 0 → a ≠ b → (TJxb160c a).2.1 ≠ (TJxb160c b).2.1 := by decide +kernel
theorem tyJxb160c_ok : ∀ k, k < 0 → parseFieldDescriptor (TJxb160c k).2.2.1 = some (tyJxb160c k) := by decide +kernel
def RJ6 : String := "java/lang/Integer"
def TJ6 : u_T := fun k => match k with
  | _ => ("", "", "", false)
def tyJ6 : Nat → FieldType := fun k => match k with
  | _ => .int
abbrev wsJ60 : List Cond := u_ws RJ6 TJ6 0
theorem nmJ6 : ∀ a, a < 0 → ∀ b, b < 0 → a ≠ b → (TJ6 a).2.1 ≠ (TJ6 b).2.1 := by decide +kernel
theorem tyJ6_ok : ∀ k, k < 0 → parseFieldDescriptor (TJ6 k).2.2.1 = some (tyJ6 k) := by decide +kernel
abbrev cJ6_getChars_ba4f3 : ByteArray := prog_25_method_12_code
def yJ6_getChars_ba4f3 : MethodName := ⟨RJ6, "getChars", "(II[B)I"⟩
abbrev cJ6_stringSize_0f7a4 : ByteArray := prog_25_method_13_code
def yJ6_stringSize_0f7a4 : MethodName := ⟨RJ6, "stringSize", "(I)I"⟩
def RJ9 : String := "java/lang/Math"
def TJ9 : u_T := fun k => match k with
  | _ => ("", "", "", false)
def tyJ9 : Nat → FieldType := fun k => match k with
  | _ => .int
abbrev wsJ90 : List Cond := u_ws RJ9 TJ9 0
theorem nmJ9 : ∀ a, a < 0 → ∀ b, b < 0 → a ≠ b → (TJ9 a).2.1 ≠ (TJ9 b).2.1 := by decide +kernel
theorem tyJ9_ok : ∀ k, k < 0 → parseFieldDescriptor (TJ9 k).2.2.1 = some (tyJ9 k) := by decide +kernel
abbrev cJ9_max_7cf53 : ByteArray := prog_26_method_65_code
def yJ9_max_7cf53 : MethodName := ⟨RJ9, "max", "(II)I"⟩
abbrev cJ9_min_7cf53 : ByteArray := prog_26_method_69_code
def yJ9_min_7cf53 : MethodName := ⟨RJ9, "min", "(II)I"⟩
def RJxd2413 : String := "java/lang/Number"
def TJxd2413 : u_T := fun k => match k with
  | _ => ("", "", "", false)
def tyJxd2413 : Nat → FieldType := fun k => match k with
  | _ => .int
abbrev wsJxd24130 : List Cond := u_ws RJxd2413 TJxd2413 0
theorem nmJxd2413 : ∀ a, a < 0 → ∀ b, b < 0 → a ≠ b → (TJxd2413 a).2.1 ≠ (TJxd2413 b).2.1 := by decide +kernel
theorem tyJxd2413_ok : ∀ k, k < 0 → parseFieldDescriptor (TJxd2413 k).2.2.1 = some (tyJxd2413 k) := by decide +kernel
def RJ0 : String := "java/lang/String"
def TJ0 : u_T := fun k => match k with
  | 0 => ("java/lang/String", "value", "[B", true)
  | 1 => ("java/lang/String", "coder", "B", true)
  | 2 => ("java/lang/String", "hash", "I", false)
  | _ => ("java/lang/String", "hashIsZero", "Z", false)
def tyJ0 : Nat → FieldType := fun k => match k with
  | 0 => .array .byte
  | 1 => .byte
  | 2 => .int
  | _ => .boolean
abbrev wsJ00 : List Cond := u_ws RJ0 TJ0 4
theorem nmJ0 : ∀ a, a < 4 → ∀ b, b < 4 → a ≠ b → (TJ0 a).2.1 ≠ (TJ0 b).2.1 := by decide +kernel
theorem tyJ0_ok : ∀ k, k < 4 → parseFieldDescriptor (TJ0 k).2.2.1 = some (tyJ0 k) := by decide +kernel
abbrev cJ0_init_81219 : ByteArray := prog_29_method_53_code
def yJ0_init_81219 : MethodName := ⟨RJ0, "<init>", "(Ljava/lang/StringBuilder;)V"⟩
abbrev cJ0_length_8abf5 : ByteArray := prog_29_method_54_code
def yJ0_length_8abf5 : MethodName := ⟨RJ0, "length", "()I"⟩
abbrev cJ0_charAt_5068e : ByteArray := prog_29_method_56_code
def yJ0_charAt_5068e : MethodName := ⟨RJ0, "charAt", "(I)C"⟩
abbrev cJ0_getBytes_840e7 : ByteArray := prog_29_method_147_code
def yJ0_getBytes_840e7 : MethodName := ⟨RJ0, "getBytes", "([BIB)V"⟩
abbrev cJ0_init_db425 : ByteArray := prog_29_method_150_code
def yJ0_init_db425 : MethodName := ⟨RJ0, "<init>", "(Ljava/lang/AbstractStringBuilder;Ljava/lang/Void;)V"⟩
abbrev cJ0_coder_7d493 : ByteArray := prog_29_method_152_code
def yJ0_coder_7d493 : MethodName := ⟨RJ0, "coder", "()B"⟩
abbrev cJ0_isLatin1_aae02 : ByteArray := prog_29_method_154_code
def yJ0_isLatin1_aae02 : MethodName := ⟨RJ0, "isLatin1", "()Z"⟩
abbrev cJ0_checkIndex_df160 : ByteArray := prog_29_method_155_code
def yJ0_checkIndex_df160 : MethodName := ⟨RJ0, "checkIndex", "(II)V"⟩
abbrev cJ0_checkBoundsOffCount_cabcc : ByteArray := prog_29_method_157_code
def yJ0_checkBoundsOffCount_cabcc : MethodName := ⟨RJ0, "checkBoundsOffCount", "(III)I"⟩
abbrev cJ0_checkBoundsBeginEnd_23922 : ByteArray := prog_29_method_158_code
def yJ0_checkBoundsBeginEnd_23922 : MethodName := ⟨RJ0, "checkBoundsBeginEnd", "(III)V"⟩
def RJ4 : String := "java/lang/StringBuilder"
def TJ4 : u_T := fun k => match k with
  | 0 => ("java/lang/AbstractStringBuilder", "value", "[B", false)
  | 1 => ("java/lang/AbstractStringBuilder", "coder", "B", false)
  | 2 => ("java/lang/AbstractStringBuilder", "maybeLatin1", "Z", false)
  | _ => ("java/lang/AbstractStringBuilder", "count", "I", false)
def tyJ4 : Nat → FieldType := fun k => match k with
  | 0 => .array .byte
  | 1 => .byte
  | 2 => .boolean
  | _ => .int
abbrev wsJ40 : List Cond := u_ws RJ4 TJ4 4
theorem nmJ4 : ∀ a, a < 4 → ∀ b, b < 4 → a ≠ b → (TJ4 a).2.1 ≠ (TJ4 b).2.1 := by decide +kernel
theorem tyJ4_ok : ∀ k, k < 4 → parseFieldDescriptor (TJ4 k).2.2.1 = some (tyJ4 k) := by decide +kernel
abbrev cJ4_init_da8c8 : ByteArray := prog_30_method_1_code
def yJ4_init_da8c8 : MethodName := ⟨RJ4, "<init>", "()V"⟩
abbrev cJ4_append_15ec4 : ByteArray := prog_30_method_7_code
def yJ4_append_15ec4 : MethodName := ⟨RJ4, "append", "(Ljava/lang/String;)Ljava/lang/StringBuilder;"⟩
abbrev cJ4_append_cf468 : ByteArray := prog_30_method_14_code
def yJ4_append_cf468 : MethodName := ⟨RJ4, "append", "(C)Ljava/lang/StringBuilder;"⟩
abbrev cJ4_append_bf812 : ByteArray := prog_30_method_15_code
def yJ4_append_bf812 : MethodName := ⟨RJ4, "append", "(I)Ljava/lang/StringBuilder;"⟩
abbrev cJ4_toString_0e30d : ByteArray := prog_30_method_42_code
def yJ4_toString_0e30d : MethodName := ⟨RJ4, "toString", "()Ljava/lang/String;"⟩
abbrev cJ4_length_8abf5 : ByteArray := prog_30_method_93_code
def yJ4_length_8abf5 : MethodName := ⟨RJ4, "length", "()I"⟩
def RJ1 : String := "java/lang/StringLatin1"
def TJ1 : u_T := fun k => match k with
  | _ => ("", "", "", false)
def tyJ1 : Nat → FieldType := fun k => match k with
  | _ => .int
abbrev wsJ10 : List Cond := u_ws RJ1 TJ1 0
theorem nmJ1 : ∀ a, a < 0 → ∀ b, b < 0 → a ≠ b → (TJ1 a).2.1 ≠ (TJ1 b).2.1 := by decide +kernel
theorem tyJ1_ok : ∀ k, k < 0 → parseFieldDescriptor (TJ1 k).2.2.1 = some (tyJ1 k) := by decide +kernel
abbrev cJ1_charAt_3b067 : ByteArray := prog_31_method_2_code
def yJ1_charAt_3b067 : MethodName := ⟨RJ1, "charAt", "([BI)C"⟩
abbrev cJ1_canEncode_fc78d : ByteArray := prog_31_method_3_code
def yJ1_canEncode_fc78d : MethodName := ⟨RJ1, "canEncode", "(C)Z"⟩
abbrev cJ1_inflate_0e8fd : ByteArray := prog_31_method_50_code
def yJ1_inflate_0e8fd : MethodName := ⟨RJ1, "inflate", "([BI[BII)V"⟩
def RJ2 : String := "java/lang/StringUTF16"
def TJ2 : u_T := fun k => match k with
  | _ => ("", "", "", false)
def tyJ2 : Nat → FieldType := fun k => match k with
  | _ => .int
abbrev wsJ20 : List Cond := u_ws RJ2 TJ2 0
theorem nmJ2 : ∀ a, a < 0 → ∀ b, b < 0 → a ≠ b → (TJ2 a).2.1 ≠ (TJ2 b).2.1 := by decide +kernel
theorem tyJ2_ok : ∀ k, k < 0 → parseFieldDescriptor (TJ2 k).2.2.1 = some (tyJ2 k) := by decide +kernel
abbrev cJ2_newBytesFor_77867 : ByteArray := prog_32_method_2_code
def yJ2_newBytesFor_77867 : MethodName := ⟨RJ2, "newBytesFor", "(I)[B"⟩
abbrev cJ2_newBytesLength_0f7a4 : ByteArray := prog_32_method_3_code
def yJ2_newBytesLength_0f7a4 : MethodName := ⟨RJ2, "newBytesLength", "(I)I"⟩
abbrev cJ2_putChar_b72d1 : ByteArray := prog_32_method_4_code
def yJ2_putChar_b72d1 : MethodName := ⟨RJ2, "putChar", "([BII)V"⟩
abbrev cJ2_getChar_3b067 : ByteArray := prog_32_method_5_code
def yJ2_getChar_3b067 : MethodName := ⟨RJ2, "getChar", "([BI)C"⟩
abbrev cJ2_length_9d52b : ByteArray := prog_32_method_6_code
def yJ2_length_9d52b : MethodName := ⟨RJ2, "length", "([B)I"⟩
abbrev cJ2_coderFromArrayLen_85cad : ByteArray := prog_32_method_15_code
def yJ2_coderFromArrayLen_85cad : MethodName := ⟨RJ2, "coderFromArrayLen", "([BI)B"⟩
abbrev cJ2_compress_39247 : ByteArray := prog_32_method_17_code
def yJ2_compress_39247 : MethodName := ⟨RJ2, "compress", "([BII)[B"⟩
abbrev cJ2_compress_5af95 : ByteArray := prog_32_method_22_code
def yJ2_compress_5af95 : MethodName := ⟨RJ2, "compress", "([BI[BII)I"⟩
abbrev cJ2_putCharSB_b72d1 : ByteArray := prog_32_method_71_code
def yJ2_putCharSB_b72d1 : MethodName := ⟨RJ2, "putCharSB", "([BII)V"⟩
abbrev cJ2_getChars_46870 : ByteArray := prog_32_method_77_code
def yJ2_getChars_46870 : MethodName := ⟨RJ2, "getChars", "(III[B)I"⟩
abbrev cJ2_putCharsAt_cd4e5 : ByteArray := prog_32_method_81_code
def yJ2_putCharsAt_cd4e5 : MethodName := ⟨RJ2, "putCharsAt", "([BICCCC)I"⟩
abbrev cJ2_charAt_3b067 : ByteArray := prog_32_method_83_code
def yJ2_charAt_3b067 : MethodName := ⟨RJ2, "charAt", "([BI)C"⟩
abbrev cJ2_inflate_0e8fd : ByteArray := prog_32_method_86_code
def yJ2_inflate_0e8fd : MethodName := ⟨RJ2, "inflate", "([BI[BII)V"⟩
abbrev cJ2_getChars_ba4f3 : ByteArray := prog_32_method_89_code
def yJ2_getChars_ba4f3 : MethodName := ⟨RJ2, "getChars", "(II[B)I"⟩
abbrev cJ2_checkIndex_2214a : ByteArray := prog_32_method_91_code
def yJ2_checkIndex_2214a : MethodName := ⟨RJ2, "checkIndex", "(I[B)V"⟩
abbrev cJ2_checkBoundsBeginEnd_d044e : ByteArray := prog_32_method_93_code
def yJ2_checkBoundsBeginEnd_d044e : MethodName := ⟨RJ2, "checkBoundsBeginEnd", "(II[B)V"⟩
abbrev cJ2_checkBoundsOffCount_d044e : ByteArray := prog_32_method_94_code
def yJ2_checkBoundsOffCount_d044e : MethodName := ⟨RJ2, "checkBoundsOffCount", "(II[B)V"⟩
def RJ10 : String := "java/lang/System"
def TJ10 : u_T := fun k => match k with
  | _ => ("", "", "", false)
def tyJ10 : Nat → FieldType := fun k => match k with
  | _ => .int
abbrev wsJ100 : List Cond := u_ws RJ10 TJ10 0
theorem nmJ10 : ∀ a, a < 0 → ∀ b, b < 0 → a ≠ b → (TJ10 a).2.1 ≠ (TJ10 b).2.1 := by decide +kernel
theorem tyJ10_ok : ∀ k, k < 0 → parseFieldDescriptor (TJ10 k).2.2.1 = some (tyJ10 k) := by decide +kernel
def RJxfd54e : String := "java/lang/constant/Constable"
def TJxfd54e : u_T := fun k => match k with
  | _ => ("", "", "", false)
def tyJxfd54e : Nat → FieldType := fun k => match k with
  | _ => .int
abbrev wsJxfd54e0 : List Cond := u_ws RJxfd54e TJxfd54e 0
theorem nmJxfd54e : ∀ a, a < 0 → ∀ b, b < 0 → a ≠ b → (TJxfd54e a).2.1 ≠ (TJxfd54e b).2.1 := by decide +kernel
theorem tyJxfd54e_ok : ∀ k, k < 0 → parseFieldDescriptor (TJxfd54e k).2.2.1 = some (tyJxfd54e k) := by decide +kernel
def RJx3cf43 : String := "java/lang/constant/ConstantDesc"
def TJx3cf43 : u_T := fun k => match k with
  | _ => ("", "", "", false)
def tyJx3cf43 : Nat → FieldType := fun k => match k with
  | _ => .int
abbrev wsJx3cf430 : List Cond := u_ws RJx3cf43 TJx3cf43 0
theorem nmJx3cf43 : ∀ a, a < 0 → ∀ b, b < 0 → a ≠ b → (TJx3cf43 a).2.1 ≠ (TJx3cf43 b).2.1 := by decide +kernel
theorem tyJx3cf43_ok : ∀ k, k < 0 → parseFieldDescriptor (TJx3cf43 k).2.2.1 = some (tyJx3cf43 k) := by decide +kernel
def RJ7 : String := "java/util/Arrays"
def TJ7 : u_T := fun k => match k with
  | _ => ("", "", "", false)
def tyJ7 : Nat → FieldType := fun k => match k with
  | _ => .int
abbrev wsJ70 : List Cond := u_ws RJ7 TJ7 0
theorem nmJ7 : ∀ a, a < 0 → ∀ b, b < 0 → a ≠ b → (TJ7 a).2.1 ≠ (TJ7 b).2.1 := by decide +kernel
theorem tyJ7_ok : ∀ k, k < 0 → parseFieldDescriptor (TJ7 k).2.2.1 = some (tyJ7 k) := by decide +kernel
abbrev cJ7_copyOf_9075b : ByteArray := prog_37_method_121_code
def yJ7_copyOf_9075b : MethodName := ⟨RJ7, "copyOf", "([BI)[B"⟩
abbrev cJ7_checkLength_df160 : ByteArray := prog_37_method_131_code
def yJ7_checkLength_df160 : MethodName := ⟨RJ7, "checkLength", "(II)V"⟩
abbrev cJ7_copyOfRange_39247 : ByteArray := prog_37_method_132_code
def yJ7_copyOfRange_39247 : MethodName := ⟨RJ7, "copyOfRange", "([BII)[B"⟩
abbrev cJ7_copyOfRangeByte_39247 : ByteArray := prog_37_method_133_code
def yJ7_copyOfRangeByte_39247 : MethodName := ⟨RJ7, "copyOfRangeByte", "([BII)[B"⟩
def RJ8 : String := "jdk/internal/util/ArraysSupport"
def TJ8 : u_T := fun k => match k with
  | _ => ("", "", "", false)
def tyJ8 : Nat → FieldType := fun k => match k with
  | _ => .int
abbrev wsJ80 : List Cond := u_ws RJ8 TJ8 0
theorem nmJ8 : ∀ a, a < 0 → ∀ b, b < 0 → a ≠ b → (TJ8 a).2.1 ≠ (TJ8 b).2.1 := by decide +kernel
theorem tyJ8_ok : ∀ k, k < 0 → parseFieldDescriptor (TJ8 k).2.2.1 = some (tyJ8 k) := by decide +kernel
abbrev cJ8_newLength_cabcc : ByteArray := prog_39_method_27_code
def yJ8_newLength_cabcc : MethodName := ⟨RJ8, "newLength", "(III)I"⟩
abbrev cJ8_hugeLength_7cf53 : ByteArray := prog_39_method_28_code
def yJ8_hugeLength_7cf53 : MethodName := ⟨RJ8, "hugeLength", "(II)I"⟩
def RJ3 : String := "jdk/internal/util/Preconditions"
def TJ3 : u_T := fun k => match k with
  | _ => ("", "", "", false)
def tyJ3 : Nat → FieldType := fun k => match k with
  | _ => .int
abbrev wsJ30 : List Cond := u_ws RJ3 TJ3 0
theorem nmJ3 : ∀ a, a < 0 → ∀ b, b < 0 → a ≠ b → (TJ3 a).2.1 ≠ (TJ3 b).2.1 := by decide +kernel
theorem tyJ3_ok : ∀ k, k < 0 → parseFieldDescriptor (TJ3 k).2.2.1 = some (tyJ3 k) := by decide +kernel
abbrev cJ3_checkIndex_8e157 : ByteArray := prog_40_method_11_code
def yJ3_checkIndex_8e157 : MethodName := ⟨RJ3, "checkIndex", "(IILjava/util/function/BiFunction;)I"⟩
abbrev cJ3_checkFromToIndex_8c36e : ByteArray := prog_40_method_12_code
def yJ3_checkFromToIndex_8c36e : MethodName := ⟨RJ3, "checkFromToIndex", "(IIILjava/util/function/BiFunction;)I"⟩
abbrev cJ3_checkFromIndexSize_8c36e : ByteArray := prog_40_method_13_code
def yJ3_checkFromIndexSize_8c36e : MethodName := ⟨RJ3, "checkFromIndexSize", "(IIILjava/util/function/BiFunction;)I"⟩
def RL : String := "PolledLineLaw"
abbrev cL_cell : ByteArray := method_2_code
def yL_cell : MethodName := ⟨RL, "cell", "([II)I"⟩
abbrev cL_draw : ByteArray := method_3_code
def yL_draw : MethodName := ⟨RL, "draw", "([IIII)I"⟩
abbrev cL_feeds : ByteArray := method_4_code
def yL_feeds : MethodName := ⟨RL, "feeds", "(LPolledLine;Ljava/lang/String;)V"⟩
abbrev cL_loaded : ByteArray := method_5_code
def yL_loaded : MethodName := ⟨RL, "loaded", "(LPolledLine;Ljava/lang/String;)I"⟩
abbrev cL_letter : ByteArray := method_6_code
def yL_letter : MethodName := ⟨RL, "letter", "(I)C"⟩
abbrev cL_setup : ByteArray := method_7_code
def yL_setup : MethodName := ⟨RL, "setup", "([II)Ljava/lang/String;"⟩
abbrev cL_rowMany : ByteArray := method_8_code
def yL_rowMany : MethodName := ⟨RL, "rowMany", "(LPolledLine;II)I"⟩
abbrev cL_isInRow : ByteArray := method_9_code
def yL_isInRow : MethodName := ⟨RL, "isInRow", "(LPolledLine;III)Z"⟩
abbrev cL_isMessage : ByteArray := method_10_code
def yL_isMessage : MethodName := ⟨RL, "isMessage", "(LPolledLine;I)Z"⟩
abbrev cL_isTerminal : ByteArray := method_11_code
def yL_isTerminal : MethodName := ⟨RL, "isTerminal", "(LPolledLine;I)Z"⟩
abbrev cL_isSound : ByteArray := method_12_code
def yL_isSound : MethodName := ⟨RL, "isSound", "(LPolledLine;)Z"⟩
abbrev cL_isTurned : ByteArray := method_13_code
def yL_isTurned : MethodName := ⟨RL, "isTurned", "(LPolledLine;)Z"⟩
abbrev cL_acts : ByteArray := method_14_code
def yL_acts : MethodName := ⟨RL, "acts", "(LPolledLine;[III)V"⟩
abbrev cL_law : ByteArray := code
def yL_law : MethodName := ⟨RL, "law", "([I)Z"⟩
