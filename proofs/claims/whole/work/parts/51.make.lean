theorem hd_X0_init : yX0_init.cls ≠ "java/lang/invoke/MethodHandle" ∧ yX0_init.cls ≠ "java/lang/invoke/VarHandle" ∧ (parseMethodDescriptor yX0_init.desc).map (fun d => d.parameters.length) = some 0 := by sorry
theorem hd_X1_init : yX1_init.cls ≠ "java/lang/invoke/MethodHandle" ∧ yX1_init.cls ≠ "java/lang/invoke/VarHandle" ∧ (parseMethodDescriptor yX1_init.desc).map (fun d => d.parameters.length) = some 0 := by sorry
theorem hd_X2_init : yX2_init.cls ≠ "java/lang/invoke/MethodHandle" ∧ yX2_init.cls ≠ "java/lang/invoke/VarHandle" ∧ (parseMethodDescriptor yX2_init.desc).map (fun d => d.parameters.length) = some 0 := by sorry
theorem hd_X3_init : yX3_init.cls ≠ "java/lang/invoke/MethodHandle" ∧ yX3_init.cls ≠ "java/lang/invoke/VarHandle" ∧ (parseMethodDescriptor yX3_init.desc).map (fun d => d.parameters.length) = some 3 := by sorry
theorem hd_X4_init : yX4_init.cls ≠ "java/lang/invoke/MethodHandle" ∧ yX4_init.cls ≠ "java/lang/invoke/VarHandle" ∧ (parseMethodDescriptor yX4_init.desc).map (fun d => d.parameters.length) = some 0 := by sorry
theorem hd_X5_init : yX5_init.cls ≠ "java/lang/invoke/MethodHandle" ∧ yX5_init.cls ≠ "java/lang/invoke/VarHandle" ∧ (parseMethodDescriptor yX5_init.desc).map (fun d => d.parameters.length) = some 0 := by sorry
theorem hd_X6_init : yX6_init.cls ≠ "java/lang/invoke/MethodHandle" ∧ yX6_init.cls ≠ "java/lang/invoke/VarHandle" ∧ (parseMethodDescriptor yX6_init.desc).map (fun d => d.parameters.length) = some 0 := by sorry
theorem hd_X7_newState : yX7_newState.cls ≠ "java/lang/invoke/MethodHandle" ∧ yX7_newState.cls ≠ "java/lang/invoke/VarHandle" ∧ (parseMethodDescriptor yX7_newState.desc).map (fun d => d.parameters.length) = some 0 := by sorry
theorem nl_0 : ("PopovRows$History", 17, ⟨"PopovRows", "newState", "()LPopovRows$Rows;"⟩, "PopovRows") ∈ nestL := by sorry
theorem nl_1 : ("PopovRows", 29, ⟨"PopovRows$Popov", "<init>", "()V"⟩, "PopovRows") ∈ nestL := by sorry
theorem nl_2 : ("PopovRows$Popov", 25, ⟨"PopovRows$Step", "<init>", "()V"⟩, "PopovRows") ∈ nestL := by sorry
theorem nl_3 : ("PopovRows$Step", 9, ⟨"PopovRows$Shape", "<init>", "()V"⟩, "PopovRows") ∈ nestL := by sorry
theorem nl_4 : ("PopovRows$Popov", 32, ⟨"PopovRows$Shape", "<init>", "()V"⟩, "PopovRows") ∈ nestL := by sorry
theorem nl_5 : ("PopovRows", 39, ⟨"PopovRows$Determinant", "<init>", "()V"⟩, "PopovRows") ∈ nestL := by sorry
theorem nl_6 : ("PopovRows", 46, ⟨"PopovRows$Step", "<init>", "()V"⟩, "PopovRows") ∈ nestL := by sorry
theorem nl_7 : ("PopovRows", 53, ⟨"PopovRows$Script", "<init>", "()V"⟩, "PopovRows") ∈ nestL := by sorry
abbrev rm_X3_init_5_3_7 : Room := { frames := 1, cells := 1, slots := 105, locals := 14 }
theorem fX3_init_5_3_7_0 : Cond.methodLink RX3 3 objectInit ∈ wsX3_init := by sorry
theorem fX3_init_5_3_7_1 : Cond.instanceMethod objectInit ∈ wsX3_init := by sorry
theorem fX3_init_5_3_7_2 : Cond.code objectInit ⟨#[0xb1]⟩ 1 none ∈ wsX3_init := by sorry
theorem fX3_init_5_3_7_3 : Cond.fieldLink RX3 9 "PopovRows$Rows" "p" "I" ∈ wsX3_init := by sorry
theorem iX3_init_5_3_7_X3 : ∀ w ∈ wsX30, w ∈ wsX3_init := by sorry
theorem fX3_init_5_3_7_5 : Cond.fieldLink RX3 15 "PopovRows$Rows" "columns" "I" ∈ wsX3_init := by sorry
theorem fX3_init_5_3_7_6 : Cond.fieldLink RX3 18 "PopovRows$Rows" "room" "I" ∈ wsX3_init := by sorry
theorem fX3_init_5_3_7_7 : Cond.fieldLink RX3 21 "PopovRows$Rows" "width" "I" ∈ wsX3_init := by sorry
theorem fX3_init_5_3_7_8 : Cond.fieldLink RX3 24 "PopovRows$Rows" "powers" "I" ∈ wsX3_init := by sorry
theorem fX3_init_5_3_7_9 : Cond.methodLink RX3 27 Lib.Math.max.name ∈ wsX3_init := by sorry
theorem fX3_init_5_3_7_10 : Cond.static Lib.Math.max.name ∈ wsX3_init := by sorry
theorem fX3_init_5_3_7_11 : Cond.initialized "java/lang/Math" ∈ wsX3_init := by sorry
theorem fX3_init_5_3_7_12 : Cond.code Lib.Math.max.name Lib.Math.max.code 2 (some .int) ∈ wsX3_init := by sorry
theorem fX3_init_5_3_7_13 : Cond.arrayClass .int ∈ wsX3_init := by sorry
theorem fX3_init_5_3_7_14 : Cond.fieldLink RX3 33 "PopovRows$Rows" "numbers" "[I" ∈ wsX3_init := by sorry
set_option maxHeartbeats 4000000 in
set_option maxRecDepth 100000 in
theorem mtX3_init_5_3_7 (l : Launch) (D : va_G) (cI cB cR : ClassId) (ah : Nat) (sz : Nat) : Met l yX3_init wsX3_init rm_X3_init_5_3_7 (qPc D cI cB cR [.ref ah, .int (5 : Int32), .int (3 : Int32), .int (7 : Int32)] ([(ah, .inr (3, [.int (0 : Int32), .int (0 : Int32), .int (0 : Int32), .null, .int (0 : Int32), .int (0 : Int32), .int (0 : Int32)]))] : va_W) sz) (qVC D (fun _ => True) ([(ah, .inr (3, [.int (0 : Int32), .int (0 : Int32), .int (0 : Int32), .null, .int (0 : Int32), .int (0 : Int32), .int (0 : Int32)]))] : va_W) (fun u => (wR cI ah (u 0) 105 5 3 7 7 2 0 (fun _ => 0))) sz) 1 105 (va_A ([(ah, .inr (3, [.int (0 : Int32), .int (0 : Int32), .int (0 : Int32), .null, .int (0 : Int32), .int (0 : Int32), .int (0 : Int32)]))] : va_W) sz) := by sorry
abbrev rm_X3_init_5_8_25 : Room := { frames := 1, cells := 1, slots := 1000, locals := 14 }
theorem fX3_init_5_8_25_0 : Cond.methodLink RX3 3 objectInit ∈ wsX3_init := by sorry
theorem fX3_init_5_8_25_1 : Cond.instanceMethod objectInit ∈ wsX3_init := by sorry
theorem fX3_init_5_8_25_2 : Cond.code objectInit ⟨#[0xb1]⟩ 1 none ∈ wsX3_init := by sorry
theorem fX3_init_5_8_25_3 : Cond.fieldLink RX3 9 "PopovRows$Rows" "p" "I" ∈ wsX3_init := by sorry
theorem iX3_init_5_8_25_X3 : ∀ w ∈ wsX30, w ∈ wsX3_init := by sorry
theorem fX3_init_5_8_25_5 : Cond.fieldLink RX3 15 "PopovRows$Rows" "columns" "I" ∈ wsX3_init := by sorry
theorem fX3_init_5_8_25_6 : Cond.fieldLink RX3 18 "PopovRows$Rows" "room" "I" ∈ wsX3_init := by sorry
theorem fX3_init_5_8_25_7 : Cond.fieldLink RX3 21 "PopovRows$Rows" "width" "I" ∈ wsX3_init := by sorry
theorem fX3_init_5_8_25_8 : Cond.fieldLink RX3 24 "PopovRows$Rows" "powers" "I" ∈ wsX3_init := by sorry
theorem fX3_init_5_8_25_9 : Cond.methodLink RX3 27 Lib.Math.max.name ∈ wsX3_init := by sorry
theorem fX3_init_5_8_25_10 : Cond.static Lib.Math.max.name ∈ wsX3_init := by sorry
theorem fX3_init_5_8_25_11 : Cond.initialized "java/lang/Math" ∈ wsX3_init := by sorry
theorem fX3_init_5_8_25_12 : Cond.code Lib.Math.max.name Lib.Math.max.code 2 (some .int) ∈ wsX3_init := by sorry
theorem fX3_init_5_8_25_13 : Cond.arrayClass .int ∈ wsX3_init := by sorry
theorem fX3_init_5_8_25_14 : Cond.fieldLink RX3 33 "PopovRows$Rows" "numbers" "[I" ∈ wsX3_init := by sorry
set_option maxHeartbeats 4000000 in
set_option maxRecDepth 100000 in
theorem mtX3_init_5_8_25 (l : Launch) (D : va_G) (cI cB cR : ClassId) (ah : Nat) (sz : Nat) : Met l yX3_init wsX3_init rm_X3_init_5_8_25 (qPc D cI cB cR [.ref ah, .int (5 : Int32), .int (8 : Int32), .int (25 : Int32)] ([(ah, .inr (3, [.int (0 : Int32), .int (0 : Int32), .int (0 : Int32), .null, .int (0 : Int32), .int (0 : Int32), .int (0 : Int32)]))] : va_W) sz) (qVC D (fun _ => True) ([(ah, .inr (3, [.int (0 : Int32), .int (0 : Int32), .int (0 : Int32), .null, .int (0 : Int32), .int (0 : Int32), .int (0 : Int32)]))] : va_W) (fun u => (wR cI ah (u 0) 1000 5 8 25 7 2 0 (fun _ => 0))) sz) 1 1000 (va_A ([(ah, .inr (3, [.int (0 : Int32), .int (0 : Int32), .int (0 : Int32), .null, .int (0 : Int32), .int (0 : Int32), .int (0 : Int32)]))] : va_W) sz) := by sorry
abbrev rm_X3_init_1_8_25 : Room := { frames := 1, cells := 1, slots := 200, locals := 14 }
theorem fX3_init_1_8_25_0 : Cond.methodLink RX3 3 objectInit ∈ wsX3_init := by sorry
theorem fX3_init_1_8_25_1 : Cond.instanceMethod objectInit ∈ wsX3_init := by sorry
theorem fX3_init_1_8_25_2 : Cond.code objectInit ⟨#[0xb1]⟩ 1 none ∈ wsX3_init := by sorry
theorem fX3_init_1_8_25_3 : Cond.fieldLink RX3 9 "PopovRows$Rows" "p" "I" ∈ wsX3_init := by sorry
theorem iX3_init_1_8_25_X3 : ∀ w ∈ wsX30, w ∈ wsX3_init := by sorry
theorem fX3_init_1_8_25_5 : Cond.fieldLink RX3 15 "PopovRows$Rows" "columns" "I" ∈ wsX3_init := by sorry
theorem fX3_init_1_8_25_6 : Cond.fieldLink RX3 18 "PopovRows$Rows" "room" "I" ∈ wsX3_init := by sorry
theorem fX3_init_1_8_25_7 : Cond.fieldLink RX3 21 "PopovRows$Rows" "width" "I" ∈ wsX3_init := by sorry
theorem fX3_init_1_8_25_8 : Cond.fieldLink RX3 24 "PopovRows$Rows" "powers" "I" ∈ wsX3_init := by sorry
theorem fX3_init_1_8_25_9 : Cond.methodLink RX3 27 Lib.Math.max.name ∈ wsX3_init := by sorry
theorem fX3_init_1_8_25_10 : Cond.static Lib.Math.max.name ∈ wsX3_init := by sorry
theorem fX3_init_1_8_25_11 : Cond.initialized "java/lang/Math" ∈ wsX3_init := by sorry
theorem fX3_init_1_8_25_12 : Cond.code Lib.Math.max.name Lib.Math.max.code 2 (some .int) ∈ wsX3_init := by sorry
theorem fX3_init_1_8_25_13 : Cond.arrayClass .int ∈ wsX3_init := by sorry
theorem fX3_init_1_8_25_14 : Cond.fieldLink RX3 33 "PopovRows$Rows" "numbers" "[I" ∈ wsX3_init := by sorry
set_option maxHeartbeats 4000000 in
set_option maxRecDepth 100000 in
theorem mtX3_init_1_8_25 (l : Launch) (D : va_G) (cI cB cR : ClassId) (ah : Nat) (sz : Nat) : Met l yX3_init wsX3_init rm_X3_init_1_8_25 (qPc D cI cB cR [.ref ah, .int (1 : Int32), .int (8 : Int32), .int (25 : Int32)] ([(ah, .inr (3, [.int (0 : Int32), .int (0 : Int32), .int (0 : Int32), .null, .int (0 : Int32), .int (0 : Int32), .int (0 : Int32)]))] : va_W) sz) (qVC D (fun _ => True) ([(ah, .inr (3, [.int (0 : Int32), .int (0 : Int32), .int (0 : Int32), .null, .int (0 : Int32), .int (0 : Int32), .int (0 : Int32)]))] : va_W) (fun u => (wR cI ah (u 0) 200 1 8 25 7 2 0 (fun _ => 0))) sz) 1 200 (va_A ([(ah, .inr (3, [.int (0 : Int32), .int (0 : Int32), .int (0 : Int32), .null, .int (0 : Int32), .int (0 : Int32), .int (0 : Int32)]))] : va_W) sz) := by sorry
abbrev rm_X7_newState : Room := { frames := 2, cells := 2, slots := 112, locals := 37 }
theorem iX7_newState_X3 : ∀ w ∈ wsX30, w ∈ wsX7_newState := by sorry
theorem fX7_newState_1 : Cond.classLink RX7 63 RX3 ∈ wsX7_newState := by sorry
theorem fX7_newState_2 : Cond.instantiable RX3 7 ∈ wsX7_newState := by sorry
theorem fX7_newState_3 : Cond.initialized RX3 ∈ wsX7_newState := by sorry
theorem fX7_newState_4 : Cond.methodLink RX7 246 yX3_init ∈ wsX7_newState := by sorry
theorem fX7_newState_5 : Cond.instanceMethod yX3_init ∈ wsX7_newState := by sorry
set_option maxHeartbeats 4000000 in
set_option maxRecDepth 100000 in
theorem mtX7_newState (l : Launch) (D : va_G) (cI cB cR : ClassId) (sz : Nat) : Met l yX7_newState wsX7_newState rm_X7_newState (qPc D cI cB cR [] ([] : va_W) sz) (qRC D ([] : va_W) (fun u => (wR cI (u 0) (u 1) 105 5 3 7 7 2 0 (fun _ => 0))) sz) 2 112 (va_A ([] : va_W) sz) := by sorry
abbrev rm_X5_init : Room := { frames := 1, cells := 1, slots := 5, locals := 12 }
theorem fX5_init_0 : Cond.methodLink RX5 3 objectInit ∈ wsX5_init := by sorry
theorem fX5_init_1 : Cond.instanceMethod objectInit ∈ wsX5_init := by sorry
theorem fX5_init_2 : Cond.code objectInit ⟨#[0xb1]⟩ 1 none ∈ wsX5_init := by sorry
theorem fX5_init_3 : Cond.arrayClass .int ∈ wsX5_init := by sorry
theorem fX5_init_4 : Cond.fieldLink RX5 9 "PopovRows$Shape" "places" "[I" ∈ wsX5_init := by sorry
theorem iX5_init_X5 : ∀ w ∈ wsX50, w ∈ wsX5_init := by sorry
set_option maxHeartbeats 4000000 in
set_option maxRecDepth 100000 in
theorem mtX5_init (l : Launch) (D : va_G) (cI cB cR : ClassId) (ah : Nat) (sz : Nat) : Met l yX5_init wsX5_init rm_X5_init (qPc D cI cB cR [.ref ah] ([(ah, .inr (5, [.null, .int (0 : Int32)]))] : va_W) sz) (qVC D (fun _ => True) ([(ah, .inr (5, [.null, .int (0 : Int32)]))] : va_W) (fun u => (wSH cI ah (u 0) 0 (fun _ => 0))) sz) 1 5 (va_A ([(ah, .inr (5, [.null, .int (0 : Int32)]))] : va_W) sz) := by sorry
abbrev rm_X0_init : Room := { frames := 1, cells := 2, slots := 22, locals := 12 }
theorem fX0_init_0 : Cond.methodLink RX0 3 objectInit ∈ wsX0_init := by sorry
theorem fX0_init_1 : Cond.instanceMethod objectInit ∈ wsX0_init := by sorry
theorem fX0_init_2 : Cond.code objectInit ⟨#[0xb1]⟩ 1 none ∈ wsX0_init := by sorry
theorem fX0_init_3 : Cond.arrayClass .int ∈ wsX0_init := by sorry
theorem fX0_init_4 : Cond.fieldLink RX0 9 "PopovRows$Determinant" "numbers" "[I" ∈ wsX0_init := by sorry
theorem iX0_init_X0 : ∀ w ∈ wsX00, w ∈ wsX0_init := by sorry
theorem fX0_init_6 : Cond.fieldLink RX0 15 "PopovRows$Determinant" "chosen" "[I" ∈ wsX0_init := by sorry
set_option maxHeartbeats 4000000 in
set_option maxRecDepth 100000 in
theorem mtX0_init (l : Launch) (D : va_G) (cI cB cR : ClassId) (ah : Nat) (sz : Nat) : Met l yX0_init wsX0_init rm_X0_init (qPc D cI cB cR [.ref ah] ([(ah, .inr (0, [.null, .null, .int (0 : Int32)]))] : va_W) sz) (qVC D (fun _ => True) ([(ah, .inr (0, [.null, .null, .int (0 : Int32)]))] : va_W) (fun u => (wDE cI ah (u 0) (u 1) 0 (fun _ => 0) (fun _ => 0))) sz) 2 22 (va_A ([(ah, .inr (0, [.null, .null, .int (0 : Int32)]))] : va_W) sz) := by sorry
abbrev rm_X4_init : Room := { frames := 1, cells := 3, slots := 175, locals := 12 }
theorem fX4_init_0 : Cond.methodLink RX4 3 objectInit ∈ wsX4_init := by sorry
theorem fX4_init_1 : Cond.instanceMethod objectInit ∈ wsX4_init := by sorry
theorem fX4_init_2 : Cond.code objectInit ⟨#[0xb1]⟩ 1 none ∈ wsX4_init := by sorry
theorem fX4_init_3 : Cond.arrayClass .byte ∈ wsX4_init := by sorry
theorem fX4_init_4 : Cond.fieldLink RX4 9 "PopovRows$Script" "bytes" "[B" ∈ wsX4_init := by sorry
theorem iX4_init_X4 : ∀ w ∈ wsX40, w ∈ wsX4_init := by sorry
theorem fX4_init_6 : Cond.arrayClass .int ∈ wsX4_init := by sorry
theorem fX4_init_7 : Cond.fieldLink RX4 15 "PopovRows$Script" "digits" "[I" ∈ wsX4_init := by sorry
theorem fX4_init_8 : Cond.fieldLink RX4 19 "PopovRows$Script" "entries" "[I" ∈ wsX4_init := by sorry
set_option maxHeartbeats 4000000 in
set_option maxRecDepth 100000 in
theorem mtX4_init (l : Launch) (D : va_G) (cI cB cR : ClassId) (ah : Nat) (sz : Nat) : Met l yX4_init wsX4_init rm_X4_init (qPc D cI cB cR [.ref ah] ([(ah, .inr (4, [.null, .null, .null, .int (0 : Int32), .int (0 : Int32), .int (0 : Int32), .int (0 : Int32)]))] : va_W) sz) (qVC D (fun _ => True) ([(ah, .inr (4, [.null, .null, .null, .int (0 : Int32), .int (0 : Int32), .int (0 : Int32), .int (0 : Int32)]))] : va_W) (fun u => (wSC cI cB ah (u 0) (u 1) (u 2) 0 0 0 0 (fun _ => 0) (fun _ => 0) (fun _ => 0))) sz) 3 175 (va_A ([(ah, .inr (4, [.null, .null, .null, .int (0 : Int32), .int (0 : Int32), .int (0 : Int32), .int (0 : Int32)]))] : va_W) sz) := by sorry
abbrev rm_X6_init : Room := { frames := 2, cells := 2, slots := 7, locals := 32 }
theorem fX6_init_0 : Cond.methodLink RX6 1 objectInit ∈ wsX6_init := by sorry
theorem fX6_init_1 : Cond.instanceMethod objectInit ∈ wsX6_init := by sorry
theorem fX6_init_2 : Cond.code objectInit ⟨#[0xb1]⟩ 1 none ∈ wsX6_init := by sorry
theorem iX6_init_X5 : ∀ w ∈ wsX50, w ∈ wsX6_init := by sorry
theorem fX6_init_4 : Cond.classLink RX6 7 RX5 ∈ wsX6_init := by sorry
theorem fX6_init_5 : Cond.instantiable RX5 2 ∈ wsX6_init := by sorry
theorem fX6_init_6 : Cond.initialized RX5 ∈ wsX6_init := by sorry
theorem fX6_init_7 : Cond.instanceMethod yX5_init ∈ wsX6_init := by sorry
theorem fX6_init_8 : Cond.fieldLink RX6 10 "PopovRows$Step" "shape" "LPopovRows$Shape;" ∈ wsX6_init := by sorry
theorem iX6_init_X6 : ∀ w ∈ wsX60, w ∈ wsX6_init := by sorry
set_option maxHeartbeats 4000000 in
set_option maxRecDepth 100000 in
theorem mtX6_init (l : Launch) (D : va_G) (cI cB cR : ClassId) (ah : Nat) (sz : Nat) : Met l yX6_init wsX6_init rm_X6_init (qPc D cI cB cR [.ref ah] ([(ah, .inr (6, [.null, .int (0 : Int32), .int (0 : Int32), .int (0 : Int32), .int (0 : Int32)]))] : va_W) sz) (qVC D (fun _ => True) ([(ah, .inr (6, [.null, .int (0 : Int32), .int (0 : Int32), .int (0 : Int32), .int (0 : Int32)]))] : va_W) (fun u => (wST cI ah (u 0) (u 1) 0 0 0 0 0 (fun _ => 0))) sz) 2 7 (va_A ([(ah, .inr (6, [.null, .int (0 : Int32), .int (0 : Int32), .int (0 : Int32), .int (0 : Int32)]))] : va_W) sz) := by sorry
abbrev rm_X1_init : Room := { frames := 3, cells := 11, slots := 565, locals := 56 }
theorem fX1_init_0 : Cond.methodLink RX1 3 objectInit ∈ wsX1_init := by sorry
theorem fX1_init_1 : Cond.instanceMethod objectInit ∈ wsX1_init := by sorry
theorem fX1_init_2 : Cond.code objectInit ⟨#[0xb1]⟩ 1 none ∈ wsX1_init := by sorry
theorem fX1_init_3 : Cond.classLink RX1 9 RX3 ∈ wsX1_init := by sorry
theorem fX1_init_4 : Cond.fieldLink RX1 11 "PopovRows$History" "kept" "[LPopovRows$Rows;" ∈ wsX1_init := by sorry
theorem iX1_init_X1 : ∀ w ∈ wsX10, w ∈ wsX1_init := by sorry
theorem fX1_init_6 : Cond.initialized RX7 ∈ wsX1_init := by sorry
theorem fX1_init_7 : Cond.static yX7_newState ∈ wsX1_init := by sorry
set_option maxHeartbeats 4000000 in
set_option maxRecDepth 100000 in
theorem mtX1_init (l : Launch) (D : va_G) (cI cB cR : ClassId) (ah : Nat) (sz : Nat) : Met l yX1_init wsX1_init rm_X1_init (qPc D cI cB cR [.ref ah] ([(ah, .inr (1, [.null, .int (0 : Int32)]))] : va_W) sz) (qVC D (fun _ => True) ([(ah, .inr (1, [.null, .int (0 : Int32)]))] : va_W) (fun u => (wHI cI cR ah (u 0) (fun i => u (i + 1)) 0 7 2 0 (fun _ => 0) 7 2 0 (fun _ => 0) 7 2 0 (fun _ => 0) 7 2 0 (fun _ => 0) 7 2 0 (fun _ => 0))) sz) 11 565 (va_A ([(ah, .inr (1, [.null, .int (0 : Int32)]))] : va_W) sz) := by sorry
abbrev rm_X2_init : Room := { frames := 3, cells := 9, slots := 1233, locals := 52 }
theorem fX2_init_0 : Cond.methodLink RX2 3 objectInit ∈ wsX2_init := by sorry
theorem fX2_init_1 : Cond.instanceMethod objectInit ∈ wsX2_init := by sorry
theorem fX2_init_2 : Cond.code objectInit ⟨#[0xb1]⟩ 1 none ∈ wsX2_init := by sorry
theorem iX2_init_X3 : ∀ w ∈ wsX30, w ∈ wsX2_init := by sorry
theorem fX2_init_4 : Cond.classLink RX2 9 RX3 ∈ wsX2_init := by sorry
theorem fX2_init_5 : Cond.instantiable RX3 7 ∈ wsX2_init := by sorry
theorem fX2_init_6 : Cond.initialized RX3 ∈ wsX2_init := by sorry
theorem fX2_init_7 : Cond.methodLink RX2 11 yX3_init ∈ wsX2_init := by sorry
theorem fX2_init_8 : Cond.instanceMethod yX3_init ∈ wsX2_init := by sorry
theorem fX2_init_9 : Cond.fieldLink RX2 14 "PopovRows$Popov" "list" "LPopovRows$Rows;" ∈ wsX2_init := by sorry
theorem iX2_init_X2 : ∀ w ∈ wsX20, w ∈ wsX2_init := by sorry
theorem fX2_init_11 : Cond.fieldLink RX2 20 "PopovRows$Popov" "left" "LPopovRows$Rows;" ∈ wsX2_init := by sorry
theorem iX2_init_X6 : ∀ w ∈ wsX60, w ∈ wsX2_init := by sorry
theorem fX2_init_13 : Cond.classLink RX2 23 RX6 ∈ wsX2_init := by sorry
theorem fX2_init_14 : Cond.instantiable RX6 5 ∈ wsX2_init := by sorry
theorem fX2_init_15 : Cond.initialized RX6 ∈ wsX2_init := by sorry
theorem fX2_init_16 : Cond.instanceMethod yX6_init ∈ wsX2_init := by sorry
theorem fX2_init_17 : Cond.fieldLink RX2 26 "PopovRows$Popov" "step" "LPopovRows$Step;" ∈ wsX2_init := by sorry
theorem iX2_init_X5 : ∀ w ∈ wsX50, w ∈ wsX2_init := by sorry
theorem fX2_init_19 : Cond.classLink RX2 30 RX5 ∈ wsX2_init := by sorry
theorem fX2_init_20 : Cond.instantiable RX5 2 ∈ wsX2_init := by sorry
theorem fX2_init_21 : Cond.initialized RX5 ∈ wsX2_init := by sorry
theorem fX2_init_22 : Cond.instanceMethod yX5_init ∈ wsX2_init := by sorry
theorem fX2_init_23 : Cond.fieldLink RX2 33 "PopovRows$Popov" "shape" "LPopovRows$Shape;" ∈ wsX2_init := by sorry
set_option maxHeartbeats 4000000 in
set_option maxRecDepth 100000 in
theorem mtX2_init (l : Launch) (D : va_G) (cI cB cR : ClassId) (ah : Nat) (sz : Nat) : Met l yX2_init wsX2_init rm_X2_init (qPc D cI cB cR [.ref ah] ([(ah, .inr (2, [.null, .null, .null, .null]))] : va_W) sz) (qVC D (fun _ => True) ([(ah, .inr (2, [.null, .null, .null, .null]))] : va_W) (fun u => ((ah, .inr (2, [.ref (u 0), .ref (u 2), .ref (u 4), .ref (u 7)])) :: ((wR cI (u 0) (u 1) 1000 5 8 25 7 2 0 (fun _ => 0)) ++ (wR cI (u 2) (u 3) 200 1 8 25 7 2 0 (fun _ => 0)) ++ (wST cI (u 4) (u 5) (u 6) 0 0 0 0 0 (fun _ => 0)) ++ (wSH cI (u 7) (u 8) 0 (fun _ => 0))))) sz) 9 1233 (va_A ([(ah, .inr (2, [.null, .null, .null, .null]))] : va_W) sz) := by sorry
abbrev rm_X7_init : Room := { frames := 4, cells := 46, slots := 3484, locals := 77 }
theorem fX7_init_0 : Cond.methodLink RX7 3 objectInit ∈ wsX7_init := by sorry
theorem fX7_init_1 : Cond.instanceMethod objectInit ∈ wsX7_init := by sorry
theorem fX7_init_2 : Cond.code objectInit ⟨#[0xb1]⟩ 1 none ∈ wsX7_init := by sorry
theorem fX7_init_3 : Cond.fieldLink RX7 13 "PopovRows" "now" "LPopovRows$Rows;" ∈ wsX7_init := by sorry
theorem iX7_init_X7 : ∀ w ∈ wsX70, w ∈ wsX7_init := by sorry
theorem fX7_init_5 : Cond.fieldLink RX7 17 "PopovRows" "before" "LPopovRows$Rows;" ∈ wsX7_init := by sorry
theorem iX7_init_X1 : ∀ w ∈ wsX10, w ∈ wsX7_init := by sorry
theorem fX7_init_7 : Cond.classLink RX7 20 RX1 ∈ wsX7_init := by sorry
theorem fX7_init_8 : Cond.instantiable RX1 2 ∈ wsX7_init := by sorry
theorem fX7_init_9 : Cond.initialized RX1 ∈ wsX7_init := by sorry
theorem fX7_init_10 : Cond.methodLink RX7 22 yX1_init ∈ wsX7_init := by sorry
theorem fX7_init_11 : Cond.instanceMethod yX1_init ∈ wsX7_init := by sorry
theorem fX7_init_12 : Cond.fieldLink RX7 23 "PopovRows" "history" "LPopovRows$History;" ∈ wsX7_init := by sorry
theorem iX7_init_X2 : ∀ w ∈ wsX20, w ∈ wsX7_init := by sorry
theorem fX7_init_14 : Cond.classLink RX7 27 RX2 ∈ wsX7_init := by sorry
theorem fX7_init_15 : Cond.instantiable RX2 4 ∈ wsX7_init := by sorry
theorem fX7_init_16 : Cond.initialized RX2 ∈ wsX7_init := by sorry
theorem fX7_init_17 : Cond.instanceMethod yX2_init ∈ wsX7_init := by sorry
theorem fX7_init_18 : Cond.fieldLink RX7 30 "PopovRows" "popov" "LPopovRows$Popov;" ∈ wsX7_init := by sorry
theorem fX7_init_19 : Cond.fieldLink RX7 34 "PopovRows" "secondPopov" "LPopovRows$Popov;" ∈ wsX7_init := by sorry
theorem iX7_init_X0 : ∀ w ∈ wsX00, w ∈ wsX7_init := by sorry
theorem fX7_init_21 : Cond.classLink RX7 37 RX0 ∈ wsX7_init := by sorry
theorem fX7_init_22 : Cond.instantiable RX0 3 ∈ wsX7_init := by sorry
theorem fX7_init_23 : Cond.initialized RX0 ∈ wsX7_init := by sorry
theorem fX7_init_24 : Cond.instanceMethod yX0_init ∈ wsX7_init := by sorry
theorem fX7_init_25 : Cond.fieldLink RX7 40 "PopovRows" "determinant" "LPopovRows$Determinant;" ∈ wsX7_init := by sorry
theorem iX7_init_X6 : ∀ w ∈ wsX60, w ∈ wsX7_init := by sorry
theorem fX7_init_27 : Cond.classLink RX7 44 RX6 ∈ wsX7_init := by sorry
theorem fX7_init_28 : Cond.instantiable RX6 5 ∈ wsX7_init := by sorry
theorem fX7_init_29 : Cond.initialized RX6 ∈ wsX7_init := by sorry
theorem fX7_init_30 : Cond.instanceMethod yX6_init ∈ wsX7_init := by sorry
theorem fX7_init_31 : Cond.fieldLink RX7 47 "PopovRows" "step" "LPopovRows$Step;" ∈ wsX7_init := by sorry
theorem iX7_init_X4 : ∀ w ∈ wsX40, w ∈ wsX7_init := by sorry
theorem fX7_init_33 : Cond.classLink RX7 51 RX4 ∈ wsX7_init := by sorry
theorem fX7_init_34 : Cond.instantiable RX4 7 ∈ wsX7_init := by sorry
theorem fX7_init_35 : Cond.initialized RX4 ∈ wsX7_init := by sorry
theorem fX7_init_36 : Cond.instanceMethod yX4_init ∈ wsX7_init := by sorry
theorem fX7_init_37 : Cond.fieldLink RX7 54 "PopovRows" "script" "LPopovRows$Script;" ∈ wsX7_init := by sorry
theorem fX7_init_38 : Cond.fieldLink RX7 58 "PopovRows" "stopIndex" "I" ∈ wsX7_init := by sorry
set_option maxHeartbeats 4000000 in
set_option maxRecDepth 100000 in
theorem mtX7_init (l : Launch) (D : va_G) (cI cB cR : ClassId) (ah : Nat) (sz : Nat) : Met l yX7_init wsX7_init rm_X7_init (qPc D cI cB cR [.ref ah] ([(ah, .inr (7, [.null, .null, .null, .null, .null, .null, .null, .null, .int (0 : Int32), .int (0 : Int32), .int (0 : Int32), .int (0 : Int32), .int (0 : Int32)]))] : va_W) sz) (qVC D (fun u => u 0 = ah) ([(ah, .inr (7, [.null, .null, .null, .null, .null, .null, .null, .null, .int (0 : Int32), .int (0 : Int32), .int (0 : Int32), .int (0 : Int32), .int (0 : Int32)]))] : va_W) (fun u => (wPR cI cB cR u (fun i => u (i + 37)) 0 0 0 0 (-1) 7 2 0 (fun _ => 0) 7 2 0 (fun _ => 0) 0 7 2 0 (fun _ => 0) 7 2 0 (fun _ => 0) 7 2 0 (fun _ => 0) 7 2 0 (fun _ => 0) 7 2 0 (fun _ => 0) 7 2 0 (fun _ => 0) 7 2 0 (fun _ => 0) 0 0 0 0 0 (fun _ => 0) 0 (fun _ => 0) 7 2 0 (fun _ => 0) 7 2 0 (fun _ => 0) 0 0 0 0 0 (fun _ => 0) 0 (fun _ => 0) 0 (fun _ => 0) (fun _ => 0) 0 0 0 0 0 (fun _ => 0) 0 0 0 0 (fun _ => 0) (fun _ => 0) (fun _ => 0))) sz) 46 3484 (va_A ([(ah, .inr (7, [.null, .null, .null, .null, .null, .null, .null, .null, .int (0 : Int32), .int (0 : Int32), .int (0 : Int32), .int (0 : Int32), .int (0 : Int32)]))] : va_W) sz) := by sorry
abbrev rm_X8_init : Room := { frames := 1, cells := 16, slots := 1353, locals := 12 }
theorem fX8_init_0 : Cond.methodLink RX8 1 objectInit ∈ wsX8_init := by sorry
theorem fX8_init_1 : Cond.instanceMethod objectInit ∈ wsX8_init := by sorry
theorem fX8_init_2 : Cond.code objectInit ⟨#[0xb1]⟩ 1 none ∈ wsX8_init := by sorry
theorem fX8_init_3 : Cond.arrayClass .int ∈ wsX8_init := by sorry
theorem fX8_init_4 : Cond.fieldLink RX8 7 "PopovRowsModel" "all" "[I" ∈ wsX8_init := by sorry
theorem iX8_init_X8 : ∀ w ∈ wsX80, w ∈ wsX8_init := by sorry
theorem fX8_init_6 : Cond.fieldLink RX8 13 "PopovRowsModel" "past" "[I" ∈ wsX8_init := by sorry
theorem fX8_init_7 : Cond.fieldLink RX8 16 "PopovRowsModel" "refused" "[I" ∈ wsX8_init := by sorry
theorem fX8_init_8 : Cond.fieldLink RX8 19 "PopovRowsModel" "whyOrder" "I" ∈ wsX8_init := by sorry
theorem fX8_init_9 : Cond.fieldLink RX8 23 "PopovRowsModel" "work" "[I" ∈ wsX8_init := by sorry
theorem fX8_init_10 : Cond.fieldLink RX8 26 "PopovRowsModel" "kept" "[I" ∈ wsX8_init := by sorry
theorem fX8_init_11 : Cond.fieldLink RX8 29 "PopovRowsModel" "chosen" "[I" ∈ wsX8_init := by sorry
theorem fX8_init_12 : Cond.fieldLink RX8 32 "PopovRowsModel" "across" "[I" ∈ wsX8_init := by sorry
theorem fX8_init_13 : Cond.fieldLink RX8 35 "PopovRowsModel" "sum" "[I" ∈ wsX8_init := by sorry
theorem fX8_init_14 : Cond.fieldLink RX8 38 "PopovRowsModel" "one" "[I" ∈ wsX8_init := by sorry
theorem fX8_init_15 : Cond.fieldLink RX8 41 "PopovRowsModel" "two" "[I" ∈ wsX8_init := by sorry
theorem fX8_init_16 : Cond.fieldLink RX8 44 "PopovRowsModel" "base" "[I" ∈ wsX8_init := by sorry
theorem fX8_init_17 : Cond.fieldLink RX8 47 "PopovRowsModel" "quotients" "[I" ∈ wsX8_init := by sorry
theorem fX8_init_18 : Cond.fieldLink RX8 50 "PopovRowsModel" "text" "[I" ∈ wsX8_init := by sorry
theorem fX8_init_19 : Cond.fieldLink RX8 53 "PopovRowsModel" "numbers" "[I" ∈ wsX8_init := by sorry
theorem fX8_init_20 : Cond.fieldLink RX8 56 "PopovRowsModel" "entries" "[I" ∈ wsX8_init := by sorry
theorem fX8_init_21 : Cond.fieldLink RX8 59 "PopovRowsModel" "before" "[I" ∈ wsX8_init := by sorry
set_option maxHeartbeats 4000000 in
set_option maxRecDepth 100000 in
theorem mtX8_init (l : Launch) (D : va_G) (cI cB cR : ClassId) (ah : Nat) (sz : Nat) : Met l yX8_init wsX8_init rm_X8_init (qPc D cI cB cR [.ref ah] ([(ah, .inr (8, [.null, .null, .int (0 : Int32), .null, .int (0 : Int32), .int (0 : Int32), .null, .int (0 : Int32), .int (0 : Int32), .null, .null, .null, .null, .null, .null, .null, .null, .null, .int (0 : Int32), .int (0 : Int32), .null, .null, .int (0 : Int32), .null]))] : va_W) sz) (qVC D (fun u => u 0 = ah) ([(ah, .inr (8, [.null, .null, .int (0 : Int32), .null, .int (0 : Int32), .int (0 : Int32), .null, .int (0 : Int32), .int (0 : Int32), .null, .null, .null, .null, .null, .null, .null, .null, .null, .int (0 : Int32), .int (0 : Int32), .null, .null, .int (0 : Int32), .null]))] : va_W) (fun u => (wM cI u 0 0 (-1) 0 0 0 0 0 (upd (upd (fun _ => 0) (0 : Int32).toNatClampNeg 7) (1 : Int32).toNatClampNeg 2) (fun _ => 0) (fun _ => 0) (fun _ => 0) (fun _ => 0) (fun _ => 0) (fun _ => 0) (fun _ => 0) (fun _ => 0) (fun _ => 0) (fun _ => 0) (fun _ => 0) (fun _ => 0) (fun _ => 0) (fun _ => 0) (fun _ => 0))) sz) 16 1353 (va_A ([(ah, .inr (8, [.null, .null, .int (0 : Int32), .null, .int (0 : Int32), .int (0 : Int32), .null, .int (0 : Int32), .int (0 : Int32), .null, .null, .null, .null, .null, .null, .null, .null, .null, .int (0 : Int32), .int (0 : Int32), .null, .null, .int (0 : Int32), .null]))] : va_W) sz) := by sorry
