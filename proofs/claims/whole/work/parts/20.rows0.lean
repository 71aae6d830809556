abbrev rm_X3_hasRow : Room := { frames := 0, cells := 0, slots := 0, locals := 0 }
theorem iX3_hasRow_X3 : ∀ w ∈ wsX30, w ∈ wsX3_hasRow := by sorry
theorem fX3_hasRow_1 : Cond.fieldLink RX3 37 "PopovRows$Rows" "count" "I" ∈ wsX3_hasRow := by sorry
set_option maxHeartbeats 4000000 in
set_option maxRecDepth 100000 in
theorem mtX3_hasRow (l : Launch) (D : va_G) (cI cB cR : ClassId) (ah : Nat) (an : Nat) (sz : Nat) (L : Nat) (room : Int32) (width : Int32) (powers : Int32) (pp : Int32) (columns : Int32) (count : Int32) (num : Nat → Int32) (a0 : Int32) (res : Int32) (hf : fX3_hasRow count a0 = res) : Met l yX3_hasRow wsX3_hasRow rm_X3_hasRow (qP D cI cB cR [.ref ah, .int a0] (wR cI ah an L room width powers pp columns count num) sz) (qZ D res (wR cI ah an L room width powers pp columns count num) (wR cI ah an L room width powers pp columns count num) sz) 0 0 (va_A (wR cI ah an L room width powers pp columns count num) sz) := by sorry
abbrev rm_X3_hasColumn : Room := { frames := 0, cells := 0, slots := 0, locals := 0 }
theorem iX3_hasColumn_X3 : ∀ w ∈ wsX30, w ∈ wsX3_hasColumn := by sorry
theorem fX3_hasColumn_1 : Cond.fieldLink RX3 15 "PopovRows$Rows" "columns" "I" ∈ wsX3_hasColumn := by sorry
set_option maxHeartbeats 4000000 in
set_option maxRecDepth 100000 in
theorem mtX3_hasColumn (l : Launch) (D : va_G) (cI cB cR : ClassId) (ah : Nat) (an : Nat) (sz : Nat) (L : Nat) (room : Int32) (width : Int32) (powers : Int32) (pp : Int32) (columns : Int32) (count : Int32) (num : Nat → Int32) (a0 : Int32) (res : Int32) (hf : fX3_hasColumn columns a0 = res) : Met l yX3_hasColumn wsX3_hasColumn rm_X3_hasColumn (qP D cI cB cR [.ref ah, .int a0] (wR cI ah an L room width powers pp columns count num) sz) (qZ D res (wR cI ah an L room width powers pp columns count num) (wR cI ah an L room width powers pp columns count num) sz) 0 0 (va_A (wR cI ah an L room width powers pp columns count num) sz) := by sorry
abbrev rm_X3_hasSet : Room := { frames := 0, cells := 0, slots := 0, locals := 0 }
theorem iX3_hasSet_X3 : ∀ w ∈ wsX30, w ∈ wsX3_hasSet := by sorry
theorem fX3_hasSet_1 : Cond.fieldLink RX3 37 "PopovRows$Rows" "count" "I" ∈ wsX3_hasSet := by sorry
set_option maxHeartbeats 4000000 in
set_option maxRecDepth 100000 in
theorem mtX3_hasSet (l : Launch) (D : va_G) (cI cB cR : ClassId) (ah : Nat) (an : Nat) (sz : Nat) (L : Nat) (room : Int32) (width : Int32) (powers : Int32) (pp : Int32) (columns : Int32) (count : Int32) (num : Nat → Int32) (a0 : Int32) (res : Int32) (hf : fX3_hasSet count a0 = res) : Met l yX3_hasSet wsX3_hasSet rm_X3_hasSet (qP D cI cB cR [.ref ah, .int a0] (wR cI ah an L room width powers pp columns count num) sz) (qZ D res (wR cI ah an L room width powers pp columns count num) (wR cI ah an L room width powers pp columns count num) sz) 0 0 (va_A (wR cI ah an L room width powers pp columns count num) sz) := by sorry
abbrev rm_X3_at : Room := { frames := 0, cells := 0, slots := 0, locals := 0 }
theorem iX3_at_X3 : ∀ w ∈ wsX30, w ∈ wsX3_at := by sorry
theorem fX3_at_1 : Cond.fieldLink RX3 18 "PopovRows$Rows" "room" "I" ∈ wsX3_at := by sorry
theorem fX3_at_2 : Cond.fieldLink RX3 21 "PopovRows$Rows" "width" "I" ∈ wsX3_at := by sorry
theorem fX3_at_3 : Cond.fieldLink RX3 24 "PopovRows$Rows" "powers" "I" ∈ wsX3_at := by sorry
theorem fX3_at_4 : Cond.fieldLink RX3 33 "PopovRows$Rows" "numbers" "[I" ∈ wsX3_at := by sorry
set_option maxHeartbeats 4000000 in
set_option maxRecDepth 100000 in
theorem mtX3_at (l : Launch) (D : va_G) (cI cB cR : ClassId) (ah : Nat) (an : Nat) (sz : Nat) (L : Nat) (room : Int32) (width : Int32) (powers : Int32) (pp : Int32) (columns : Int32) (count : Int32) (num : Nat → Int32) (a0 : Int32) (a1 : Int32) (a2 : Int32) (res : Int32) (hf : fX3_at L room width powers num a0 a1 a2 = some res) : Met l yX3_at wsX3_at rm_X3_at (qP D cI cB cR [.ref ah, .int a0, .int a1, .int a2] (wR cI ah an L room width powers pp columns count num) sz) (qI D res (wR cI ah an L room width powers pp columns count num) (wR cI ah an L room width powers pp columns count num) sz) 0 0 (va_A (wR cI ah an L room width powers pp columns count num) sz) := by sorry
abbrev rm_J9_floorMod_7cf53 : Room := { frames := 0, cells := 0, slots := 0, locals := 0 }
set_option maxHeartbeats 4000000 in
set_option maxRecDepth 100000 in
theorem mtJ9_floorMod_7cf53 (l : Launch) (D : va_G) (cI cB cR : ClassId) (sz : Nat) (a0 : Int32) (a1 : Int32) (res : Int32) (hf : fJ9_floorMod_7cf53 a0 a1 = some res) : Met l yJ9_floorMod_7cf53 wsJ9_floorMod_7cf53 rm_J9_floorMod_7cf53 (qP D cI cB cR [.int a0, .int a1] ([] : va_W) sz) (qI D res ([] : va_W) ([] : va_W) sz) 0 0 (va_A ([] : va_W) sz) := by sorry
abbrev rm_X7_modulo : Room := { frames := 1, cells := 0, slots := 0, locals := 22 }
set_option maxHeartbeats 4000000 in
set_option maxRecDepth 100000 in
theorem mtX7_modulo (l : Launch) (D : va_G) (cI cB cR : ClassId) (sz : Nat) (a0 : Int32) (a1 : Int32) (res : Int32) (hf : fX7_modulo a0 a1 = some res) : Met l yX7_modulo wsX7_modulo rm_X7_modulo (qP D cI cB cR [.int a0, .int a1] ([] : va_W) sz) (qI D res ([] : va_W) ([] : va_W) sz) 0 0 (va_A ([] : va_W) sz) := by sorry
abbrev rm_X3_put : Room := { frames := 2, cells := 0, slots := 0, locals := 43 }
theorem iX3_put_X3 : ∀ w ∈ wsX30, w ∈ wsX3_put := by sorry
theorem fX3_put_1 : Cond.fieldLink RX3 18 "PopovRows$Rows" "room" "I" ∈ wsX3_put := by sorry
theorem fX3_put_2 : Cond.fieldLink RX3 21 "PopovRows$Rows" "width" "I" ∈ wsX3_put := by sorry
theorem fX3_put_3 : Cond.fieldLink RX3 24 "PopovRows$Rows" "powers" "I" ∈ wsX3_put := by sorry
theorem fX3_put_4 : Cond.fieldLink RX3 33 "PopovRows$Rows" "numbers" "[I" ∈ wsX3_put := by sorry
theorem fX3_put_5 : Cond.fieldLink RX3 9 "PopovRows$Rows" "p" "I" ∈ wsX3_put := by sorry
theorem fX3_put_6 : Cond.initialized RX7 ∈ wsX3_put := by sorry
theorem fX3_put_7 : Cond.static yX7_modulo ∈ wsX3_put := by sorry
set_option maxHeartbeats 4000000 in
set_option maxRecDepth 100000 in
theorem mtX3_put (l : Launch) (D : va_G) (cI cB cR : ClassId) (ah : Nat) (an : Nat) (sz : Nat) (L : Nat) (room : Int32) (width : Int32) (powers : Int32) (pp : Int32) (columns : Int32) (count : Int32) (num : Nat → Int32) (a0 : Int32) (a1 : Int32) (a2 : Int32) (a3 : Int32) (res : Nat → Int32) (hf : fX3_put L room width powers pp num a0 a1 a2 a3 = some res) : Met l yX3_put wsX3_put rm_X3_put (qP D cI cB cR [.ref ah, .int a0, .int a1, .int a2, .int a3] (wR cI ah an L room width powers pp columns count num) sz) (qV D (wR cI ah an L room width powers pp columns count num) (wR cI ah an L room width powers pp columns count res) sz) 0 0 (va_A (wR cI ah an L room width powers pp columns count num) sz) := by sorry
abbrev rm_X3_reset : Room := { frames := 0, cells := 0, slots := 0, locals := 0 }
theorem iX3_reset_X3 : ∀ w ∈ wsX30, w ∈ wsX3_reset := by sorry
theorem fX3_reset_1 : Cond.fieldLink RX3 9 "PopovRows$Rows" "p" "I" ∈ wsX3_reset := by sorry
theorem fX3_reset_2 : Cond.fieldLink RX3 15 "PopovRows$Rows" "columns" "I" ∈ wsX3_reset := by sorry
theorem fX3_reset_3 : Cond.fieldLink RX3 37 "PopovRows$Rows" "count" "I" ∈ wsX3_reset := by sorry
set_option maxHeartbeats 4000000 in
set_option maxRecDepth 100000 in
theorem mtX3_reset (l : Launch) (D : va_G) (cI cB cR : ClassId) (ah : Nat) (an : Nat) (sz : Nat) (L : Nat) (room : Int32) (width : Int32) (powers : Int32) (pp : Int32) (columns : Int32) (count : Int32) (num : Nat → Int32) (a0 : Int32) (a1 : Int32) (res : Int32 × Int32 × Int32) (hf : fX3_reset a0 a1 = some res) : Met l yX3_reset wsX3_reset rm_X3_reset (qP D cI cB cR [.ref ah, .int a0, .int a1] (wR cI ah an L room width powers pp columns count num) sz) (qV D (wR cI ah an L room width powers pp columns count num) (wR cI ah an L room width powers res.1 res.2.1 res.2.2 num) sz) 0 0 (va_A (wR cI ah an L room width powers pp columns count num) sz) := by sorry
abbrev rm_X3_scale : Room := { frames := 3, cells := 0, slots := 0, locals := 68 }
theorem iX3_scale_X3 : ∀ w ∈ wsX30, w ∈ wsX3_scale := by sorry
theorem fX3_scale_1 : Cond.fieldLink RX3 21 "PopovRows$Rows" "width" "I" ∈ wsX3_scale := by sorry
theorem fX3_scale_2 : Cond.fieldLink RX3 24 "PopovRows$Rows" "powers" "I" ∈ wsX3_scale := by sorry
set_option maxHeartbeats 4000000 in
set_option maxRecDepth 100000 in
theorem mtX3_scale (l : Launch) (D : va_G) (cI cB cR : ClassId) (ah : Nat) (an : Nat) (sz : Nat) (L : Nat) (room : Int32) (width : Int32) (powers : Int32) (pp : Int32) (columns : Int32) (count : Int32) (num : Nat → Int32) (a0 : Int32) (a1 : Int32) (res : Nat → Int32) (hf : fX3_scale L room width powers pp num a0 a1 = some res) : Met l yX3_scale wsX3_scale rm_X3_scale (qP D cI cB cR [.ref ah, .int a0, .int a1] (wR cI ah an L room width powers pp columns count num) sz) (qV D (wR cI ah an L room width powers pp columns count num) (wR cI ah an L room width powers pp columns count res) sz) 0 0 (va_A (wR cI ah an L room width powers pp columns count num) sz) := by sorry
abbrev rm_X3_append : Room := { frames := 4, cells := 0, slots := 0, locals := 92 }
theorem iX3_append_X3 : ∀ w ∈ wsX30, w ∈ wsX3_append := by sorry
theorem fX3_append_1 : Cond.fieldLink RX3 37 "PopovRows$Rows" "count" "I" ∈ wsX3_append := by sorry
theorem fX3_append_2 : Cond.fieldLink RX3 18 "PopovRows$Rows" "room" "I" ∈ wsX3_append := by sorry
set_option maxHeartbeats 4000000 in
set_option maxRecDepth 100000 in
theorem mtX3_append (l : Launch) (D : va_G) (cI cB cR : ClassId) (ah : Nat) (an : Nat) (sz : Nat) (L : Nat) (room : Int32) (width : Int32) (powers : Int32) (pp : Int32) (columns : Int32) (count : Int32) (num : Nat → Int32) (res : Int32 × Int32 × (Nat → Int32)) (hf : fX3_append L room width powers pp count num = some res) : Met l yX3_append wsX3_append rm_X3_append (qP D cI cB cR [.ref ah] (wR cI ah an L room width powers pp columns count num) sz) (qI D res.1 (wR cI ah an L room width powers pp columns count num) (wR cI ah an L room width powers pp columns res.2.1 res.2.2) sz) 0 0 (va_A (wR cI ah an L room width powers pp columns count num) sz) := by sorry
abbrev rm_X3_remove : Room := { frames := 1, cells := 0, slots := 0, locals := 40 }
theorem iX3_remove_X3 : ∀ w ∈ wsX30, w ∈ wsX3_remove := by sorry
theorem fX3_remove_1 : Cond.fieldLink RX3 21 "PopovRows$Rows" "width" "I" ∈ wsX3_remove := by sorry
theorem fX3_remove_2 : Cond.fieldLink RX3 24 "PopovRows$Rows" "powers" "I" ∈ wsX3_remove := by sorry
theorem fX3_remove_3 : Cond.fieldLink RX3 33 "PopovRows$Rows" "numbers" "[I" ∈ wsX3_remove := by sorry
theorem fX3_remove_4 : Cond.fieldLink RX3 37 "PopovRows$Rows" "count" "I" ∈ wsX3_remove := by sorry
theorem fX3_remove_5 : Cond.methodLink RX3 51 arraycopyName ∈ wsX3_remove := by sorry
theorem fX3_remove_6 : Cond.native arraycopyName ∈ wsX3_remove := by sorry
theorem fX3_remove_7 : Cond.static arraycopyName ∈ wsX3_remove := by sorry
theorem fX3_remove_8 : Cond.initialized "java/lang/System" ∈ wsX3_remove := by sorry
set_option maxHeartbeats 4000000 in
set_option maxRecDepth 100000 in
theorem mtX3_remove (l : Launch) (D : va_G) (cI cB cR : ClassId) (ah : Nat) (an : Nat) (sz : Nat) (L : Nat) (room : Int32) (width : Int32) (powers : Int32) (pp : Int32) (columns : Int32) (count : Int32) (num : Nat → Int32) (a0 : Int32) (res : Int32 × (Nat → Int32)) (hf : fX3_remove L width powers count num a0 = some res) : Met l yX3_remove wsX3_remove rm_X3_remove (qP D cI cB cR [.ref ah, .int a0] (wR cI ah an L room width powers pp columns count num) sz) (qV D (wR cI ah an L room width powers pp columns count num) (wR cI ah an L room width powers pp columns res.1 res.2) sz) 0 0 (va_A (wR cI ah an L room width powers pp columns count num) sz) := by sorry
abbrev rm_X3_copyFrom : Room := { frames := 1, cells := 0, slots := 0, locals := 40 }
theorem iX3_copyFrom_X3 : ∀ w ∈ wsX30, w ∈ wsX3_copyFrom := by sorry
theorem fX3_copyFrom_1 : Cond.fieldLink RX3 9 "PopovRows$Rows" "p" "I" ∈ wsX3_copyFrom := by sorry
theorem fX3_copyFrom_2 : Cond.fieldLink RX3 15 "PopovRows$Rows" "columns" "I" ∈ wsX3_copyFrom := by sorry
theorem fX3_copyFrom_3 : Cond.fieldLink RX3 37 "PopovRows$Rows" "count" "I" ∈ wsX3_copyFrom := by sorry
theorem fX3_copyFrom_4 : Cond.fieldLink RX3 33 "PopovRows$Rows" "numbers" "[I" ∈ wsX3_copyFrom := by sorry
theorem fX3_copyFrom_5 : Cond.methodLink RX3 57 Lib.Math.min.name ∈ wsX3_copyFrom := by sorry
theorem fX3_copyFrom_6 : Cond.static Lib.Math.min.name ∈ wsX3_copyFrom := by sorry
theorem fX3_copyFrom_7 : Cond.initialized "java/lang/Math" ∈ wsX3_copyFrom := by sorry
theorem fX3_copyFrom_8 : Cond.code Lib.Math.min.name Lib.Math.min.code 2 (some .int) ∈ wsX3_copyFrom := by sorry
theorem fX3_copyFrom_9 : Cond.methodLink RX3 51 arraycopyName ∈ wsX3_copyFrom := by sorry
theorem fX3_copyFrom_10 : Cond.native arraycopyName ∈ wsX3_copyFrom := by sorry
theorem fX3_copyFrom_11 : Cond.static arraycopyName ∈ wsX3_copyFrom := by sorry
theorem fX3_copyFrom_12 : Cond.initialized "java/lang/System" ∈ wsX3_copyFrom := by sorry
set_option maxHeartbeats 4000000 in
set_option maxRecDepth 100000 in
theorem mtX3_copyFrom (l : Launch) (D : va_G) (cI cB cR : ClassId) (ah : Nat) (an : Nat) (qah : Nat) (qan : Nat) (sz : Nat) (L : Nat) (room : Int32) (width : Int32) (powers : Int32) (pp : Int32) (columns : Int32) (count : Int32) (num : Nat → Int32) (qL : Nat) (qroom : Int32) (qwidth : Int32) (qpowers : Int32) (qpp : Int32) (qcolumns : Int32) (qcount : Int32) (qnum : Nat → Int32) (res : Int32 × Int32 × Int32 × (Nat → Int32)) (hf : fX3_copyFrom L num qL qpp qcolumns qcount qnum = some res) : Met l yX3_copyFrom wsX3_copyFrom rm_X3_copyFrom (qP D cI cB cR [.ref ah, .ref qah] ((wR cI ah an L room width powers pp columns count num) ++ (wR cI qah qan qL qroom qwidth qpowers qpp qcolumns qcount qnum)) sz) (qV D ((wR cI ah an L room width powers pp columns count num) ++ (wR cI qah qan qL qroom qwidth qpowers qpp qcolumns qcount qnum)) ((wR cI ah an L room width powers res.1 res.2.1 res.2.2.1 res.2.2.2) ++ (wR cI qah qan qL qroom qwidth qpowers qpp qcolumns qcount qnum)) sz) 0 0 (va_A ((wR cI ah an L room width powers pp columns count num) ++ (wR cI qah qan qL qroom qwidth qpowers qpp qcolumns qcount qnum)) sz) := by sorry
abbrev rm_X3_swap : Room := { frames := 3, cells := 0, slots := 0, locals := 68 }
theorem iX3_swap_X3 : ∀ w ∈ wsX30, w ∈ wsX3_swap := by sorry
theorem fX3_swap_1 : Cond.fieldLink RX3 21 "PopovRows$Rows" "width" "I" ∈ wsX3_swap := by sorry
theorem fX3_swap_2 : Cond.fieldLink RX3 24 "PopovRows$Rows" "powers" "I" ∈ wsX3_swap := by sorry
set_option maxHeartbeats 4000000 in
set_option maxRecDepth 100000 in
theorem mtX3_swap (l : Launch) (D : va_G) (cI cB cR : ClassId) (ah : Nat) (an : Nat) (sz : Nat) (L : Nat) (room : Int32) (width : Int32) (powers : Int32) (pp : Int32) (columns : Int32) (count : Int32) (num : Nat → Int32) (a0 : Int32) (a1 : Int32) (res : Nat → Int32) (hf : fX3_swap L room width powers pp num a0 a1 = some res) : Met l yX3_swap wsX3_swap rm_X3_swap (qP D cI cB cR [.ref ah, .int a0, .int a1] (wR cI ah an L room width powers pp columns count num) sz) (qV D (wR cI ah an L room width powers pp columns count num) (wR cI ah an L room width powers pp columns count res) sz) 0 0 (va_A (wR cI ah an L room width powers pp columns count num) sz) := by sorry
abbrev rm_X3_addTimes : Room := { frames := 3, cells := 0, slots := 0, locals := 68 }
theorem iX3_addTimes_X3 : ∀ w ∈ wsX30, w ∈ wsX3_addTimes := by sorry
theorem fX3_addTimes_1 : Cond.fieldLink RX3 21 "PopovRows$Rows" "width" "I" ∈ wsX3_addTimes := by sorry
theorem fX3_addTimes_2 : Cond.fieldLink RX3 24 "PopovRows$Rows" "powers" "I" ∈ wsX3_addTimes := by sorry
set_option maxHeartbeats 4000000 in
set_option maxRecDepth 100000 in
theorem mtX3_addTimes (l : Launch) (D : va_G) (cI cB cR : ClassId) (ah : Nat) (an : Nat) (qah : Nat) (qan : Nat) (sz : Nat) (L : Nat) (room : Int32) (width : Int32) (powers : Int32) (pp : Int32) (columns : Int32) (count : Int32) (num : Nat → Int32) (qL : Nat) (qroom : Int32) (qwidth : Int32) (qpowers : Int32) (qpp : Int32) (qcolumns : Int32) (qcount : Int32) (qnum : Nat → Int32) (a0 : Int32) (a2 : Int32) (a3 : Int32) (a4 : Int32) (res : Nat → Int32) (hf : fX3_addTimes L room width powers pp num qL qroom qwidth qpowers qnum a0 a2 a3 a4 = some res) : Met l yX3_addTimes wsX3_addTimes rm_X3_addTimes (qP D cI cB cR [.ref ah, .int a0, .ref qah, .int a2, .int a3, .int a4] ((wR cI ah an L room width powers pp columns count num) ++ (wR cI qah qan qL qroom qwidth qpowers qpp qcolumns qcount qnum)) sz) (qV D ((wR cI ah an L room width powers pp columns count num) ++ (wR cI qah qan qL qroom qwidth qpowers qpp qcolumns qcount qnum)) ((wR cI ah an L room width powers pp columns count res) ++ (wR cI qah qan qL qroom qwidth qpowers qpp qcolumns qcount qnum)) sz) 0 0 (va_A ((wR cI ah an L room width powers pp columns count num) ++ (wR cI qah qan qL qroom qwidth qpowers qpp qcolumns qcount qnum)) sz) := by sorry
