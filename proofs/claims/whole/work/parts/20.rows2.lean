abbrev rm_X6_find : Room := { frames := 3, cells := 0, slots := 0, locals := 69 }
theorem iX6_find_X6 : ∀ w ∈ wsX60, w ∈ wsX6_find := by sorry
theorem fX6_find_1 : Cond.fieldLink RX6 10 "PopovRows$Step" "shape" "LPopovRows$Shape;" ∈ wsX6_find := by sorry
theorem iX6_find_X5 : ∀ w ∈ wsX50, w ∈ wsX6_find := by sorry
theorem fX6_find_3 : Cond.fieldLink RX6 20 "PopovRows$Shape" "count" "I" ∈ wsX6_find := by sorry
theorem fX6_find_4 : Cond.fieldLink RX6 28 "PopovRows$Step" "target" "I" ∈ wsX6_find := by sorry
theorem fX6_find_5 : Cond.fieldLink RX6 31 "PopovRows$Step" "source" "I" ∈ wsX6_find := by sorry
theorem iX6_find_X3 : ∀ w ∈ wsX30, w ∈ wsX6_find := by sorry
theorem fX6_find_7 : Cond.fieldLink RX6 40 "PopovRows$Rows" "p" "I" ∈ wsX6_find := by sorry
theorem fX6_find_8 : Cond.initialized RX7 ∈ wsX6_find := by sorry
theorem fX6_find_9 : Cond.static yX7_inverse ∈ wsX6_find := by sorry
theorem fX6_find_10 : Cond.static yX7_modulo ∈ wsX6_find := by sorry
theorem fX6_find_11 : Cond.fieldLink RX6 52 "PopovRows$Step" "number" "I" ∈ wsX6_find := by sorry
theorem fX6_find_12 : Cond.static yX7_powerAt ∈ wsX6_find := by sorry
theorem fX6_find_13 : Cond.fieldLink RX6 61 "PopovRows$Step" "power" "I" ∈ wsX6_find := by sorry
set_option maxHeartbeats 4000000 in
set_option maxRecDepth 100000 in
theorem mtX6_find (l : Launch) (D : va_G) (cI cB cR : ClassId) (ah : Nat) (zah : Nat) (zan : Nat) (qah : Nat) (qan : Nat) (sz : Nat) (target : Int32) (source : Int32) (number : Int32) (power : Int32) (zcount : Int32) (zplaces : Nat → Int32) (qL : Nat) (qroom : Int32) (qwidth : Int32) (qpowers : Int32) (qpp : Int32) (qcolumns : Int32) (qcount : Int32) (qnum : Nat → Int32) (res : Int32 × Int32 × Int32 × Int32 × Int32 × Int32 × (Nat → Int32)) (hf : fX6_find target source number power zplaces qL qroom qwidth qpowers qpp qcolumns qcount qnum = some res) : Met l yX6_find wsX6_find rm_X6_find (qP D cI cB cR [.ref ah, .ref qah] ((wST cI ah zah zan target source number power zcount zplaces) ++ (wR cI qah qan qL qroom qwidth qpowers qpp qcolumns qcount qnum)) sz) (qZ D res.1 ((wST cI ah zah zan target source number power zcount zplaces) ++ (wR cI qah qan qL qroom qwidth qpowers qpp qcolumns qcount qnum)) ((wST cI ah zah zan res.2.1 res.2.2.1 res.2.2.2.1 res.2.2.2.2.1 res.2.2.2.2.2.1 res.2.2.2.2.2.2) ++ (wR cI qah qan qL qroom qwidth qpowers qpp qcolumns qcount qnum)) sz) 0 0 (va_A ((wST cI ah zah zan target source number power zcount zplaces) ++ (wR cI qah qan qL qroom qwidth qpowers qpp qcolumns qcount qnum)) sz) := by sorry
abbrev rm_X0_at : Room := { frames := 0, cells := 0, slots := 0, locals := 0 }
theorem iX0_at_X0 : ∀ w ∈ wsX00, w ∈ wsX0_at := by sorry
theorem fX0_at_1 : Cond.fieldLink RX0 9 "PopovRows$Determinant" "numbers" "[I" ∈ wsX0_at := by sorry
set_option maxHeartbeats 4000000 in
set_option maxRecDepth 100000 in
theorem mtX0_at (l : Launch) (D : va_G) (cI cB cR : ClassId) (ah : Nat) (an : Nat) (ak : Nat) (sz : Nat) (chosenCount : Int32) (numbers : Nat → Int32) (chosen : Nat → Int32) (a0 : Int32) (res : Int32) (hf : fX0_at numbers a0 = some res) : Met l yX0_at wsX0_at rm_X0_at (qP D cI cB cR [.ref ah, .int a0] (wDE cI ah an ak chosenCount numbers chosen) sz) (qI D res (wDE cI ah an ak chosenCount numbers chosen) (wDE cI ah an ak chosenCount numbers chosen) sz) 0 0 (va_A (wDE cI ah an ak chosenCount numbers chosen) sz) := by sorry
abbrev rm_X0_degree : Room := { frames := 0, cells := 0, slots := 0, locals := 0 }
theorem iX0_degree_X0 : ∀ w ∈ wsX00, w ∈ wsX0_degree := by sorry
theorem fX0_degree_1 : Cond.fieldLink RX0 9 "PopovRows$Determinant" "numbers" "[I" ∈ wsX0_degree := by sorry
set_option maxHeartbeats 4000000 in
set_option maxRecDepth 100000 in
theorem mtX0_degree (l : Launch) (D : va_G) (cI cB cR : ClassId) (ah : Nat) (an : Nat) (ak : Nat) (sz : Nat) (chosenCount : Int32) (numbers : Nat → Int32) (chosen : Nat → Int32) (res : Int32) (hf : fX0_degree numbers = some res) : Met l yX0_degree wsX0_degree rm_X0_degree (qP D cI cB cR [.ref ah] (wDE cI ah an ak chosenCount numbers chosen) sz) (qI D res (wDE cI ah an ak chosenCount numbers chosen) (wDE cI ah an ak chosenCount numbers chosen) sz) 0 0 (va_A (wDE cI ah an ak chosenCount numbers chosen) sz) := by sorry
abbrev rm_X7_isWithin : Room := { frames := 0, cells := 0, slots := 0, locals := 0 }
set_option maxHeartbeats 4000000 in
set_option maxRecDepth 100000 in
theorem mtX7_isWithin (l : Launch) (D : va_G) (cI cB cR : ClassId) (sz : Nat) (a0 : Int32) (a1 : Int32) (a2 : Int32) (res : Int32) (hf : fX7_isWithin a0 a1 a2 = res) : Met l yX7_isWithin wsX7_isWithin rm_X7_isWithin (qP D cI cB cR [.int a0, .int a1, .int a2] ([] : va_W) sz) (qZ D res ([] : va_W) ([] : va_W) sz) 0 0 (va_A ([] : va_W) sz) := by sorry
abbrev rm_X7_isInSet : Room := { frames := 1, cells := 0, slots := 0, locals := 22 }
set_option maxHeartbeats 4000000 in
set_option maxRecDepth 100000 in
theorem mtX7_isInSet (l : Launch) (D : va_G) (cI cB cR : ClassId) (sz : Nat) (a0 : Int32) (a1 : Int32) (res : Int32) (hf : fX7_isInSet a0 a1 = res) : Met l yX7_isInSet wsX7_isInSet rm_X7_isInSet (qP D cI cB cR [.int a0, .int a1] ([] : va_W) sz) (qZ D res ([] : va_W) ([] : va_W) sz) 0 0 (va_A ([] : va_W) sz) := by sorry
abbrev rm_X0_choose : Room := { frames := 2, cells := 0, slots := 0, locals := 43 }
theorem iX0_choose_X0 : ∀ w ∈ wsX00, w ∈ wsX0_choose := by sorry
theorem fX0_choose_1 : Cond.fieldLink RX0 39 "PopovRows$Determinant" "chosenCount" "I" ∈ wsX0_choose := by sorry
theorem iX0_choose_X3 : ∀ w ∈ wsX30, w ∈ wsX0_choose := by sorry
theorem fX0_choose_3 : Cond.fieldLink RX0 42 "PopovRows$Rows" "count" "I" ∈ wsX0_choose := by sorry
theorem fX0_choose_4 : Cond.initialized RX7 ∈ wsX0_choose := by sorry
theorem fX0_choose_5 : Cond.static yX7_isInSet ∈ wsX0_choose := by sorry
theorem fX0_choose_6 : Cond.fieldLink RX0 15 "PopovRows$Determinant" "chosen" "[I" ∈ wsX0_choose := by sorry
set_option maxHeartbeats 4000000 in
set_option maxRecDepth 100000 in
theorem mtX0_choose (l : Launch) (D : va_G) (cI cB cR : ClassId) (ah : Nat) (an : Nat) (ak : Nat) (qah : Nat) (qan : Nat) (sz : Nat) (chosenCount : Int32) (numbers : Nat → Int32) (chosen : Nat → Int32) (qL : Nat) (qroom : Int32) (qwidth : Int32) (qpowers : Int32) (qpp : Int32) (qcolumns : Int32) (qcount : Int32) (qnum : Nat → Int32) (a1 : Int32) (res : Int32 × (Nat → Int32)) (hf : fX0_choose chosen qcount a1 = some res) : Met l yX0_choose wsX0_choose rm_X0_choose (qP D cI cB cR [.ref ah, .ref qah, .int a1] ((wDE cI ah an ak chosenCount numbers chosen) ++ (wR cI qah qan qL qroom qwidth qpowers qpp qcolumns qcount qnum)) sz) (qV D ((wDE cI ah an ak chosenCount numbers chosen) ++ (wR cI qah qan qL qroom qwidth qpowers qpp qcolumns qcount qnum)) ((wDE cI ah an ak res.1 numbers res.2) ++ (wR cI qah qan qL qroom qwidth qpowers qpp qcolumns qcount qnum)) sz) 0 0 (va_A ((wDE cI ah an ak chosenCount numbers chosen) ++ (wR cI qah qan qL qroom qwidth qpowers qpp qcolumns qcount qnum)) sz) := by sorry
abbrev rm_X0_entryAt : Room := { frames := 1, cells := 0, slots := 0, locals := 24 }
theorem iX0_entryAt_X0 : ∀ w ∈ wsX00, w ∈ wsX0_entryAt := by sorry
theorem fX0_entryAt_1 : Cond.fieldLink RX0 39 "PopovRows$Determinant" "chosenCount" "I" ∈ wsX0_entryAt := by sorry
theorem fX0_entryAt_2 : Cond.fieldLink RX0 15 "PopovRows$Determinant" "chosen" "[I" ∈ wsX0_entryAt := by sorry
theorem iX0_entryAt_X3 : ∀ w ∈ wsX30, w ∈ wsX0_entryAt := by sorry
theorem fX0_entryAt_4 : Cond.fieldLink RX0 49 "PopovRows$Rows" "columns" "I" ∈ wsX0_entryAt := by sorry
set_option maxHeartbeats 4000000 in
set_option maxRecDepth 100000 in
theorem mtX0_entryAt (l : Launch) (D : va_G) (cI cB cR : ClassId) (ah : Nat) (an : Nat) (ak : Nat) (qah : Nat) (qan : Nat) (sz : Nat) (chosenCount : Int32) (numbers : Nat → Int32) (chosen : Nat → Int32) (qL : Nat) (qroom : Int32) (qwidth : Int32) (qpowers : Int32) (qpp : Int32) (qcolumns : Int32) (qcount : Int32) (qnum : Nat → Int32) (a1 : Int32) (a2 : Int32) (a3 : Int32) (res : Int32) (hf : fX0_entryAt chosenCount chosen qL qroom qwidth qpowers qcolumns qnum a1 a2 a3 = some res) : Met l yX0_entryAt wsX0_entryAt rm_X0_entryAt (qP D cI cB cR [.ref ah, .ref qah, .int a1, .int a2, .int a3] ((wDE cI ah an ak chosenCount numbers chosen) ++ (wR cI qah qan qL qroom qwidth qpowers qpp qcolumns qcount qnum)) sz) (qI D res ((wDE cI ah an ak chosenCount numbers chosen) ++ (wR cI qah qan qL qroom qwidth qpowers qpp qcolumns qcount qnum)) ((wDE cI ah an ak chosenCount numbers chosen) ++ (wR cI qah qan qL qroom qwidth qpowers qpp qcolumns qcount qnum)) sz) 0 0 (va_A ((wDE cI ah an ak chosenCount numbers chosen) ++ (wR cI qah qan qL qroom qwidth qpowers qpp qcolumns qcount qnum)) sz) := by sorry
abbrev rm_X0_addAt : Room := { frames := 0, cells := 0, slots := 0, locals := 0 }
theorem iX0_addAt_X0 : ∀ w ∈ wsX00, w ∈ wsX0_addAt := by sorry
theorem fX0_addAt_1 : Cond.fieldLink RX0 9 "PopovRows$Determinant" "numbers" "[I" ∈ wsX0_addAt := by sorry
set_option maxHeartbeats 4000000 in
set_option maxRecDepth 100000 in
theorem mtX0_addAt (l : Launch) (D : va_G) (cI cB cR : ClassId) (ah : Nat) (an : Nat) (ak : Nat) (sz : Nat) (chosenCount : Int32) (numbers : Nat → Int32) (chosen : Nat → Int32) (a0 : Int32) (a1 : Int32) (res : Nat → Int32) (hf : fX0_addAt numbers a0 a1 = some res) : Met l yX0_addAt wsX0_addAt rm_X0_addAt (qP D cI cB cR [.ref ah, .int a0, .int a1] (wDE cI ah an ak chosenCount numbers chosen) sz) (qV D (wDE cI ah an ak chosenCount numbers chosen) (wDE cI ah an ak chosenCount res chosen) sz) 0 0 (va_A (wDE cI ah an ak chosenCount numbers chosen) sz) := by sorry
abbrev rm_X0_addProduct : Room := { frames := 2, cells := 0, slots := 0, locals := 48 }
set_option maxHeartbeats 4000000 in
set_option maxRecDepth 100000 in
theorem mtX0_addProduct (l : Launch) (D : va_G) (cI cB cR : ClassId) (ah : Nat) (an : Nat) (ak : Nat) (qah : Nat) (qan : Nat) (sz : Nat) (chosenCount : Int32) (numbers : Nat → Int32) (chosen : Nat → Int32) (qL : Nat) (qroom : Int32) (qwidth : Int32) (qpowers : Int32) (qpp : Int32) (qcolumns : Int32) (qcount : Int32) (qnum : Nat → Int32) (a1 : Int32) (a2 : Int32) (a3 : Int32) (a4 : Int32) (res : Nat → Int32) (hf : fX0_addProduct chosenCount numbers chosen qL qroom qwidth qpowers qcolumns qnum a1 a2 a3 a4 = some res) : Met l yX0_addProduct wsX0_addProduct rm_X0_addProduct (qP D cI cB cR [.ref ah, .ref qah, .int a1, .int a2, .int a3, .int a4] ((wDE cI ah an ak chosenCount numbers chosen) ++ (wR cI qah qan qL qroom qwidth qpowers qpp qcolumns qcount qnum)) sz) (qV D ((wDE cI ah an ak chosenCount numbers chosen) ++ (wR cI qah qan qL qroom qwidth qpowers qpp qcolumns qcount qnum)) ((wDE cI ah an ak chosenCount res chosen) ++ (wR cI qah qan qL qroom qwidth qpowers qpp qcolumns qcount qnum)) sz) 0 0 (va_A ((wDE cI ah an ak chosenCount numbers chosen) ++ (wR cI qah qan qL qroom qwidth qpowers qpp qcolumns qcount qnum)) sz) := by sorry
abbrev rm_X4_append : Room := { frames := 0, cells := 0, slots := 0, locals := 0 }
theorem iX4_append_X4 : ∀ w ∈ wsX40, w ∈ wsX4_append := by sorry
theorem fX4_append_1 : Cond.fieldLink RX4 22 "PopovRows$Script" "length" "I" ∈ wsX4_append := by sorry
theorem fX4_append_2 : Cond.fieldLink RX4 9 "PopovRows$Script" "bytes" "[B" ∈ wsX4_append := by sorry
set_option maxHeartbeats 4000000 in
set_option maxRecDepth 100000 in
theorem mtX4_append (l : Launch) (D : va_G) (cI cB cR : ClassId) (ah : Nat) (ab : Nat) (ag : Nat) (an : Nat) (sz : Nat) (length : Int32) (place : Int32) (letter : Int32) (rowColumns : Int32) (bytes : Nat → Int32) (digits : Nat → Int32) (entries : Nat → Int32) (a0 : Int32) (res : Int32 × Int32 × (Nat → Int32)) (hf : fX4_append length bytes a0 = some res) : Met l yX4_append wsX4_append rm_X4_append (qP D cI cB cR [.ref ah, .int a0] (wSC cI cB ah ab ag an length place letter rowColumns bytes digits entries) sz) (qZ D res.1 (wSC cI cB ah ab ag an length place letter rowColumns bytes digits entries) (wSC cI cB ah ab ag an res.2.1 place letter rowColumns res.2.2 digits entries) sz) 0 0 (va_A (wSC cI cB ah ab ag an length place letter rowColumns bytes digits entries) sz) := by sorry
abbrev rm_X4_begin : Room := { frames := 0, cells := 0, slots := 0, locals := 0 }
theorem iX4_begin_X4 : ∀ w ∈ wsX40, w ∈ wsX4_begin := by sorry
theorem fX4_begin_1 : Cond.fieldLink RX4 26 "PopovRows$Script" "place" "I" ∈ wsX4_begin := by sorry
theorem fX4_begin_2 : Cond.fieldLink RX4 29 "PopovRows$Script" "rowColumns" "I" ∈ wsX4_begin := by sorry
set_option maxHeartbeats 4000000 in
set_option maxRecDepth 100000 in
theorem mtX4_begin (l : Launch) (D : va_G) (cI cB cR : ClassId) (ah : Nat) (ab : Nat) (ag : Nat) (an : Nat) (sz : Nat) (length : Int32) (place : Int32) (letter : Int32) (rowColumns : Int32) (bytes : Nat → Int32) (digits : Nat → Int32) (entries : Nat → Int32) (a0 : Int32) (res : Int32 × Int32) (hf : fX4_begin a0 = some res) : Met l yX4_begin wsX4_begin rm_X4_begin (qP D cI cB cR [.ref ah, .int a0] (wSC cI cB ah ab ag an length place letter rowColumns bytes digits entries) sz) (qV D (wSC cI cB ah ab ag an length place letter rowColumns bytes digits entries) (wSC cI cB ah ab ag an length res.1 letter res.2 bytes digits entries) sz) 0 0 (va_A (wSC cI cB ah ab ag an length place letter rowColumns bytes digits entries) sz) := by sorry
