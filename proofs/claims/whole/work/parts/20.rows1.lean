abbrev rm_X3_placeOf : Room := { frames := 1, cells := 0, slots := 0, locals := 24 }
theorem iX3_placeOf_X3 : ∀ w ∈ wsX30, w ∈ wsX3_placeOf := by sorry
theorem fX3_placeOf_1 : Cond.fieldLink RX3 15 "PopovRows$Rows" "columns" "I" ∈ wsX3_placeOf := by sorry
set_option maxHeartbeats 4000000 in
set_option maxRecDepth 100000 in
theorem mtX3_placeOf (l : Launch) (D : va_G) (cI cB cR : ClassId) (ah : Nat) (an : Nat) (sz : Nat) (L : Nat) (room : Int32) (width : Int32) (powers : Int32) (pp : Int32) (columns : Int32) (count : Int32) (num : Nat → Int32) (a0 : Int32) (res : Int32) (hf : fX3_placeOf L room width powers columns num a0 = some res) : Met l yX3_placeOf wsX3_placeOf rm_X3_placeOf (qP D cI cB cR [.ref ah, .int a0] (wR cI ah an L room width powers pp columns count num) sz) (qI D res (wR cI ah an L room width powers pp columns count num) (wR cI ah an L room width powers pp columns count num) sz) 0 0 (va_A (wR cI ah an L room width powers pp columns count num) sz) := by sorry
abbrev rm_X7_powerAt : Room := { frames := 0, cells := 0, slots := 0, locals := 0 }
set_option maxHeartbeats 4000000 in
set_option maxRecDepth 100000 in
theorem mtX7_powerAt (l : Launch) (D : va_G) (cI cB cR : ClassId) (sz : Nat) (a0 : Int32) (res : Int32) (hf : fX7_powerAt a0 = res) : Met l yX7_powerAt wsX7_powerAt rm_X7_powerAt (qP D cI cB cR [.int a0] ([] : va_W) sz) (qI D res ([] : va_W) ([] : va_W) sz) 0 0 (va_A ([] : va_W) sz) := by sorry
abbrev rm_X3_degreeOf : Room := { frames := 2, cells := 0, slots := 0, locals := 47 }
theorem fX3_degreeOf_0 : Cond.initialized RX7 ∈ wsX3_degreeOf := by sorry
theorem fX3_degreeOf_1 : Cond.static yX7_powerAt ∈ wsX3_degreeOf := by sorry
set_option maxHeartbeats 4000000 in
set_option maxRecDepth 100000 in
theorem mtX3_degreeOf (l : Launch) (D : va_G) (cI cB cR : ClassId) (ah : Nat) (an : Nat) (sz : Nat) (L : Nat) (room : Int32) (width : Int32) (powers : Int32) (pp : Int32) (columns : Int32) (count : Int32) (num : Nat → Int32) (a0 : Int32) (res : Int32) (hf : fX3_degreeOf L room width powers columns num a0 = some res) : Met l yX3_degreeOf wsX3_degreeOf rm_X3_degreeOf (qP D cI cB cR [.ref ah, .int a0] (wR cI ah an L room width powers pp columns count num) sz) (qI D res (wR cI ah an L room width powers pp columns count num) (wR cI ah an L room width powers pp columns count num) sz) 0 0 (va_A (wR cI ah an L room width powers pp columns count num) sz) := by sorry
abbrev rm_X7_columnAt : Room := { frames := 0, cells := 0, slots := 0, locals := 0 }
set_option maxHeartbeats 4000000 in
set_option maxRecDepth 100000 in
theorem mtX7_columnAt (l : Launch) (D : va_G) (cI cB cR : ClassId) (sz : Nat) (a0 : Int32) (res : Int32) (hf : fX7_columnAt a0 = res) : Met l yX7_columnAt wsX7_columnAt rm_X7_columnAt (qP D cI cB cR [.int a0] ([] : va_W) sz) (qI D res ([] : va_W) ([] : va_W) sz) 0 0 (va_A ([] : va_W) sz) := by sorry
abbrev rm_X3_pivotOf : Room := { frames := 2, cells := 0, slots := 0, locals := 47 }
theorem fX3_pivotOf_0 : Cond.initialized RX7 ∈ wsX3_pivotOf := by sorry
theorem fX3_pivotOf_1 : Cond.static yX7_columnAt ∈ wsX3_pivotOf := by sorry
set_option maxHeartbeats 4000000 in
set_option maxRecDepth 100000 in
theorem mtX3_pivotOf (l : Launch) (D : va_G) (cI cB cR : ClassId) (ah : Nat) (an : Nat) (sz : Nat) (L : Nat) (room : Int32) (width : Int32) (powers : Int32) (pp : Int32) (columns : Int32) (count : Int32) (num : Nat → Int32) (a0 : Int32) (res : Int32) (hf : fX3_pivotOf L room width powers columns num a0 = some res) : Met l yX3_pivotOf wsX3_pivotOf rm_X3_pivotOf (qP D cI cB cR [.ref ah, .int a0] (wR cI ah an L room width powers pp columns count num) sz) (qI D res (wR cI ah an L room width powers pp columns count num) (wR cI ah an L room width powers pp columns count num) sz) 0 0 (va_A (wR cI ah an L room width powers pp columns count num) sz) := by sorry
abbrev rm_X3_leadOf : Room := { frames := 2, cells := 0, slots := 0, locals := 47 }
theorem fX3_leadOf_0 : Cond.initialized RX7 ∈ wsX3_leadOf := by sorry
theorem fX3_leadOf_1 : Cond.static yX7_columnAt ∈ wsX3_leadOf := by sorry
theorem fX3_leadOf_2 : Cond.static yX7_powerAt ∈ wsX3_leadOf := by sorry
set_option maxHeartbeats 4000000 in
set_option maxRecDepth 100000 in
theorem mtX3_leadOf (l : Launch) (D : va_G) (cI cB cR : ClassId) (ah : Nat) (an : Nat) (sz : Nat) (L : Nat) (room : Int32) (width : Int32) (powers : Int32) (pp : Int32) (columns : Int32) (count : Int32) (num : Nat → Int32) (a0 : Int32) (res : Int32) (hf : fX3_leadOf L room width powers columns num a0 = some res) : Met l yX3_leadOf wsX3_leadOf rm_X3_leadOf (qP D cI cB cR [.ref ah, .int a0] (wR cI ah an L room width powers pp columns count num) sz) (qI D res (wR cI ah an L room width powers pp columns count num) (wR cI ah an L room width powers pp columns count num) sz) 0 0 (va_A (wR cI ah an L room width powers pp columns count num) sz) := by sorry
abbrev rm_X3_hasEntriesOf : Room := { frames := 1, cells := 0, slots := 0, locals := 24 }
theorem iX3_hasEntriesOf_X3 : ∀ w ∈ wsX30, w ∈ wsX3_hasEntriesOf := by sorry
theorem fX3_hasEntriesOf_1 : Cond.fieldLink RX3 37 "PopovRows$Rows" "count" "I" ∈ wsX3_hasEntriesOf := by sorry
theorem fX3_hasEntriesOf_2 : Cond.fieldLink RX3 15 "PopovRows$Rows" "columns" "I" ∈ wsX3_hasEntriesOf := by sorry
set_option maxHeartbeats 4000000 in
set_option maxRecDepth 100000 in
theorem mtX3_hasEntriesOf (l : Launch) (D : va_G) (cI cB cR : ClassId) (ah : Nat) (an : Nat) (qah : Nat) (qan : Nat) (sz : Nat) (L : Nat) (room : Int32) (width : Int32) (powers : Int32) (pp : Int32) (columns : Int32) (count : Int32) (num : Nat → Int32) (qL : Nat) (qroom : Int32) (qwidth : Int32) (qpowers : Int32) (qpp : Int32) (qcolumns : Int32) (qcount : Int32) (qnum : Nat → Int32) (res : Int32) (hf : fX3_hasEntriesOf L room width powers columns count num qL qroom qwidth qpowers qcount qnum = some res) : Met l yX3_hasEntriesOf wsX3_hasEntriesOf rm_X3_hasEntriesOf (qP D cI cB cR [.ref ah, .ref qah] ((wR cI ah an L room width powers pp columns count num) ++ (wR cI qah qan qL qroom qwidth qpowers qpp qcolumns qcount qnum)) sz) (qZ D res ((wR cI ah an L room width powers pp columns count num) ++ (wR cI qah qan qL qroom qwidth qpowers qpp qcolumns qcount qnum)) ((wR cI ah an L room width powers pp columns count num) ++ (wR cI qah qan qL qroom qwidth qpowers qpp qcolumns qcount qnum)) sz) 0 0 (va_A ((wR cI ah an L room width powers pp columns count num) ++ (wR cI qah qan qL qroom qwidth qpowers qpp qcolumns qcount qnum)) sz) := by sorry
abbrev rm_X5_measure : Room := { frames := 2, cells := 0, slots := 0, locals := 47 }
theorem iX5_measure_X3 : ∀ w ∈ wsX30, w ∈ wsX5_measure := by sorry
theorem fX5_measure_1 : Cond.fieldLink RX5 15 "PopovRows$Rows" "count" "I" ∈ wsX5_measure := by sorry
theorem iX5_measure_X5 : ∀ w ∈ wsX50, w ∈ wsX5_measure := by sorry
theorem fX5_measure_3 : Cond.fieldLink RX5 9 "PopovRows$Shape" "places" "[I" ∈ wsX5_measure := by sorry
theorem fX5_measure_4 : Cond.methodLink RX5 21 Lib.Math.min.name ∈ wsX5_measure := by sorry
theorem fX5_measure_5 : Cond.static Lib.Math.min.name ∈ wsX5_measure := by sorry
theorem fX5_measure_6 : Cond.initialized "java/lang/Math" ∈ wsX5_measure := by sorry
theorem fX5_measure_7 : Cond.code Lib.Math.min.name Lib.Math.min.code 2 (some .int) ∈ wsX5_measure := by sorry
theorem fX5_measure_8 : Cond.fieldLink RX5 27 "PopovRows$Shape" "count" "I" ∈ wsX5_measure := by sorry
set_option maxHeartbeats 4000000 in
set_option maxRecDepth 100000 in
theorem mtX5_measure (l : Launch) (D : va_G) (cI cB cR : ClassId) (ah : Nat) (an : Nat) (qah : Nat) (qan : Nat) (sz : Nat) (count : Int32) (places : Nat → Int32) (qL : Nat) (qroom : Int32) (qwidth : Int32) (qpowers : Int32) (qpp : Int32) (qcolumns : Int32) (qcount : Int32) (qnum : Nat → Int32) (res : Int32 × (Nat → Int32)) (hf : fX5_measure places qL qroom qwidth qpowers qcolumns qcount qnum = some res) : Met l yX5_measure wsX5_measure rm_X5_measure (qP D cI cB cR [.ref ah, .ref qah] ((wSH cI ah an count places) ++ (wR cI qah qan qL qroom qwidth qpowers qpp qcolumns qcount qnum)) sz) (qV D ((wSH cI ah an count places) ++ (wR cI qah qan qL qroom qwidth qpowers qpp qcolumns qcount qnum)) ((wSH cI ah an res.1 res.2) ++ (wR cI qah qan qL qroom qwidth qpowers qpp qcolumns qcount qnum)) sz) 0 0 (va_A ((wSH cI ah an count places) ++ (wR cI qah qan qL qroom qwidth qpowers qpp qcolumns qcount qnum)) sz) := by sorry
abbrev rm_X5_placeAt : Room := { frames := 0, cells := 0, slots := 0, locals := 0 }
theorem iX5_placeAt_X5 : ∀ w ∈ wsX50, w ∈ wsX5_placeAt := by sorry
theorem fX5_placeAt_1 : Cond.fieldLink RX5 9 "PopovRows$Shape" "places" "[I" ∈ wsX5_placeAt := by sorry
set_option maxHeartbeats 4000000 in
set_option maxRecDepth 100000 in
theorem mtX5_placeAt (l : Launch) (D : va_G) (cI cB cR : ClassId) (ah : Nat) (an : Nat) (sz : Nat) (count : Int32) (places : Nat → Int32) (a0 : Int32) (res : Int32) (hf : fX5_placeAt places a0 = some res) : Met l yX5_placeAt wsX5_placeAt rm_X5_placeAt (qP D cI cB cR [.ref ah, .int a0] (wSH cI ah an count places) sz) (qI D res (wSH cI ah an count places) (wSH cI ah an count places) sz) 0 0 (va_A (wSH cI ah an count places) sz) := by sorry
abbrev rm_X5_canStep : Room := { frames := 1, cells := 0, slots := 0, locals := 21 }
theorem fX5_canStep_0 : Cond.initialized RX7 ∈ wsX5_canStep := by sorry
theorem fX5_canStep_1 : Cond.static yX7_columnAt ∈ wsX5_canStep := by sorry
set_option maxHeartbeats 4000000 in
set_option maxRecDepth 100000 in
theorem mtX5_canStep (l : Launch) (D : va_G) (cI cB cR : ClassId) (ah : Nat) (an : Nat) (sz : Nat) (count : Int32) (places : Nat → Int32) (a0 : Int32) (a1 : Int32) (res : Int32) (hf : fX5_canStep places a0 a1 = some res) : Met l yX5_canStep wsX5_canStep rm_X5_canStep (qP D cI cB cR [.ref ah, .int a0, .int a1] (wSH cI ah an count places) sz) (qZ D res (wSH cI ah an count places) (wSH cI ah an count places) sz) 0 0 (va_A (wSH cI ah an count places) sz) := by sorry
abbrev rm_X5_rowFor : Room := { frames := 1, cells := 0, slots := 0, locals := 21 }
theorem iX5_rowFor_X5 : ∀ w ∈ wsX50, w ∈ wsX5_rowFor := by sorry
theorem fX5_rowFor_1 : Cond.fieldLink RX5 27 "PopovRows$Shape" "count" "I" ∈ wsX5_rowFor := by sorry
theorem fX5_rowFor_2 : Cond.initialized RX7 ∈ wsX5_rowFor := by sorry
theorem fX5_rowFor_3 : Cond.static yX7_columnAt ∈ wsX5_rowFor := by sorry
theorem fX5_rowFor_4 : Cond.static yX7_powerAt ∈ wsX5_rowFor := by sorry
set_option maxHeartbeats 4000000 in
set_option maxRecDepth 100000 in
theorem mtX5_rowFor (l : Launch) (D : va_G) (cI cB cR : ClassId) (ah : Nat) (an : Nat) (sz : Nat) (count : Int32) (places : Nat → Int32) (a0 : Int32) (a1 : Int32) (a2 : Int32) (res : Int32) (hf : fX5_rowFor count places a0 a1 a2 = some res) : Met l yX5_rowFor wsX5_rowFor rm_X5_rowFor (qP D cI cB cR [.ref ah, .int a0, .int a1, .int a2] (wSH cI ah an count places) sz) (qI D res (wSH cI ah an count places) (wSH cI ah an count places) sz) 0 0 (va_A (wSH cI ah an count places) sz) := by sorry
abbrev rm_X7_inverse : Room := { frames := 2, cells := 0, slots := 0, locals := 43 }
set_option maxHeartbeats 4000000 in
set_option maxRecDepth 100000 in
theorem mtX7_inverse (l : Launch) (D : va_G) (cI cB cR : ClassId) (sz : Nat) (a0 : Int32) (a1 : Int32) (res : Int32) (hf : fX7_inverse a0 a1 = some res) : Met l yX7_inverse wsX7_inverse rm_X7_inverse (qP D cI cB cR [.int a0, .int a1] ([] : va_W) sz) (qI D res ([] : va_W) ([] : va_W) sz) 0 0 (va_A ([] : va_W) sz) := by sorry
