abbrev rm_X4_byteHere : Room := { frames := 0, cells := 0, slots := 0, locals := 0 }
theorem iX4_byteHere_X4 : ∀ w ∈ wsX40, w ∈ wsX4_byteHere := by sorry
theorem fX4_byteHere_1 : Cond.fieldLink RX4 26 "PopovRows$Script" "place" "I" ∈ wsX4_byteHere := by sorry
theorem fX4_byteHere_2 : Cond.fieldLink RX4 22 "PopovRows$Script" "length" "I" ∈ wsX4_byteHere := by sorry
theorem fX4_byteHere_3 : Cond.fieldLink RX4 9 "PopovRows$Script" "bytes" "[B" ∈ wsX4_byteHere := by sorry
set_option maxHeartbeats 4000000 in
set_option maxRecDepth 100000 in
theorem mtX4_byteHere (l : Launch) (D : va_G) (cI cB cR : ClassId) (ah : Nat) (ab : Nat) (ag : Nat) (an : Nat) (sz : Nat) (length : Int32) (place : Int32) (letter : Int32) (rowColumns : Int32) (bytes : Nat → Int32) (digits : Nat → Int32) (entries : Nat → Int32) (res : Int32) (hf : fX4_byteHere length place bytes = some res) : Met l yX4_byteHere wsX4_byteHere rm_X4_byteHere (qP D cI cB cR [.ref ah] (wSC cI cB ah ab ag an length place letter rowColumns bytes digits entries) sz) (qI D res (wSC cI cB ah ab ag an length place letter rowColumns bytes digits entries) (wSC cI cB ah ab ag an length place letter rowColumns bytes digits entries) sz) 0 0 (va_A (wSC cI cB ah ab ag an length place letter rowColumns bytes digits entries) sz) := by sorry
abbrev rm_X4_skipBlanks : Room := { frames := 1, cells := 0, slots := 0, locals := 20 }
theorem iX4_skipBlanks_X4 : ∀ w ∈ wsX40, w ∈ wsX4_skipBlanks := by sorry
theorem fX4_skipBlanks_1 : Cond.fieldLink RX4 26 "PopovRows$Script" "place" "I" ∈ wsX4_skipBlanks := by sorry
set_option maxHeartbeats 4000000 in
set_option maxRecDepth 100000 in
theorem mtX4_skipBlanks (l : Launch) (D : va_G) (cI cB cR : ClassId) (ah : Nat) (ab : Nat) (ag : Nat) (an : Nat) (sz : Nat) (length : Int32) (place : Int32) (letter : Int32) (rowColumns : Int32) (bytes : Nat → Int32) (digits : Nat → Int32) (entries : Nat → Int32) (res : Int32) (hf : fX4_skipBlanks length place bytes = some res) : Met l yX4_skipBlanks wsX4_skipBlanks rm_X4_skipBlanks (qP D cI cB cR [.ref ah] (wSC cI cB ah ab ag an length place letter rowColumns bytes digits entries) sz) (qV D (wSC cI cB ah ab ag an length place letter rowColumns bytes digits entries) (wSC cI cB ah ab ag an length res letter rowColumns bytes digits entries) sz) 0 0 (va_A (wSC cI cB ah ab ag an length place letter rowColumns bytes digits entries) sz) := by sorry
abbrev rm_X4_hasMore : Room := { frames := 2, cells := 0, slots := 0, locals := 41 }
theorem iX4_hasMore_X4 : ∀ w ∈ wsX40, w ∈ wsX4_hasMore := by sorry
theorem fX4_hasMore_1 : Cond.fieldLink RX4 26 "PopovRows$Script" "place" "I" ∈ wsX4_hasMore := by sorry
theorem fX4_hasMore_2 : Cond.fieldLink RX4 22 "PopovRows$Script" "length" "I" ∈ wsX4_hasMore := by sorry
set_option maxHeartbeats 4000000 in
set_option maxRecDepth 100000 in
theorem mtX4_hasMore (l : Launch) (D : va_G) (cI cB cR : ClassId) (ah : Nat) (ab : Nat) (ag : Nat) (an : Nat) (sz : Nat) (length : Int32) (place : Int32) (letter : Int32) (rowColumns : Int32) (bytes : Nat → Int32) (digits : Nat → Int32) (entries : Nat → Int32) (res : Int32 × Int32) (hf : fX4_hasMore length place bytes = some res) : Met l yX4_hasMore wsX4_hasMore rm_X4_hasMore (qP D cI cB cR [.ref ah] (wSC cI cB ah ab ag an length place letter rowColumns bytes digits entries) sz) (qZ D res.1 (wSC cI cB ah ab ag an length place letter rowColumns bytes digits entries) (wSC cI cB ah ab ag an length res.2 letter rowColumns bytes digits entries) sz) 0 0 (va_A (wSC cI cB ah ab ag an length place letter rowColumns bytes digits entries) sz) := by sorry
abbrev rm_X4_digitAt : Room := { frames := 0, cells := 0, slots := 0, locals := 0 }
theorem iX4_digitAt_X4 : ∀ w ∈ wsX40, w ∈ wsX4_digitAt := by sorry
theorem fX4_digitAt_1 : Cond.fieldLink RX4 15 "PopovRows$Script" "digits" "[I" ∈ wsX4_digitAt := by sorry
set_option maxHeartbeats 4000000 in
set_option maxRecDepth 100000 in
theorem mtX4_digitAt (l : Launch) (D : va_G) (cI cB cR : ClassId) (ah : Nat) (ab : Nat) (ag : Nat) (an : Nat) (sz : Nat) (length : Int32) (place : Int32) (letter : Int32) (rowColumns : Int32) (bytes : Nat → Int32) (digits : Nat → Int32) (entries : Nat → Int32) (a0 : Int32) (res : Int32) (hf : fX4_digitAt digits a0 = some res) : Met l yX4_digitAt wsX4_digitAt rm_X4_digitAt (qP D cI cB cR [.ref ah, .int a0] (wSC cI cB ah ab ag an length place letter rowColumns bytes digits entries) sz) (qI D res (wSC cI cB ah ab ag an length place letter rowColumns bytes digits entries) (wSC cI cB ah ab ag an length place letter rowColumns bytes digits entries) sz) 0 0 (va_A (wSC cI cB ah ab ag an length place letter rowColumns bytes digits entries) sz) := by sorry
abbrev rm_X4_entryIndex : Room := { frames := 1, cells := 0, slots := 0, locals := 22 }
theorem fX4_entryIndex_0 : Cond.initialized RX7 ∈ wsX4_entryIndex := by sorry
theorem fX4_entryIndex_1 : Cond.static yX7_isWithin ∈ wsX4_entryIndex := by sorry
set_option maxHeartbeats 4000000 in
set_option maxRecDepth 100000 in
theorem mtX4_entryIndex (l : Launch) (D : va_G) (cI cB cR : ClassId) (ah : Nat) (ab : Nat) (ag : Nat) (an : Nat) (sz : Nat) (length : Int32) (place : Int32) (letter : Int32) (rowColumns : Int32) (bytes : Nat → Int32) (digits : Nat → Int32) (entries : Nat → Int32) (a0 : Int32) (a1 : Int32) (res : Int32) (hf : fX4_entryIndex a0 a1 = some res) : Met l yX4_entryIndex wsX4_entryIndex rm_X4_entryIndex (qP D cI cB cR [.ref ah, .int a0, .int a1] (wSC cI cB ah ab ag an length place letter rowColumns bytes digits entries) sz) (qI D res (wSC cI cB ah ab ag an length place letter rowColumns bytes digits entries) (wSC cI cB ah ab ag an length place letter rowColumns bytes digits entries) sz) 0 0 (va_A (wSC cI cB ah ab ag an length place letter rowColumns bytes digits entries) sz) := by sorry
abbrev rm_X4_entryAt : Room := { frames := 2, cells := 0, slots := 0, locals := 45 }
theorem iX4_entryAt_X4 : ∀ w ∈ wsX40, w ∈ wsX4_entryAt := by sorry
theorem fX4_entryAt_1 : Cond.fieldLink RX4 19 "PopovRows$Script" "entries" "[I" ∈ wsX4_entryAt := by sorry
set_option maxHeartbeats 4000000 in
set_option maxRecDepth 100000 in
theorem mtX4_entryAt (l : Launch) (D : va_G) (cI cB cR : ClassId) (ah : Nat) (ab : Nat) (ag : Nat) (an : Nat) (sz : Nat) (length : Int32) (place : Int32) (letter : Int32) (rowColumns : Int32) (bytes : Nat → Int32) (digits : Nat → Int32) (entries : Nat → Int32) (a0 : Int32) (a1 : Int32) (res : Int32) (hf : fX4_entryAt entries a0 a1 = some res) : Met l yX4_entryAt wsX4_entryAt rm_X4_entryAt (qP D cI cB cR [.ref ah, .int a0, .int a1] (wSC cI cB ah ab ag an length place letter rowColumns bytes digits entries) sz) (qI D res (wSC cI cB ah ab ag an length place letter rowColumns bytes digits entries) (wSC cI cB ah ab ag an length place letter rowColumns bytes digits entries) sz) 0 0 (va_A (wSC cI cB ah ab ag an length place letter rowColumns bytes digits entries) sz) := by sorry
abbrev rm_X4_digitHere : Room := { frames := 2, cells := 0, slots := 0, locals := 41 }
theorem fX4_digitHere_0 : Cond.initialized RX7 ∈ wsX4_digitHere := by sorry
theorem fX4_digitHere_1 : Cond.static yX7_isWithin ∈ wsX4_digitHere := by sorry
set_option maxHeartbeats 4000000 in
set_option maxRecDepth 100000 in
theorem mtX4_digitHere (l : Launch) (D : va_G) (cI cB cR : ClassId) (ah : Nat) (ab : Nat) (ag : Nat) (an : Nat) (sz : Nat) (length : Int32) (place : Int32) (letter : Int32) (rowColumns : Int32) (bytes : Nat → Int32) (digits : Nat → Int32) (entries : Nat → Int32) (res : Int32 × Int32) (hf : fX4_digitHere length place bytes = some res) : Met l yX4_digitHere wsX4_digitHere rm_X4_digitHere (qP D cI cB cR [.ref ah] (wSC cI cB ah ab ag an length place letter rowColumns bytes digits entries) sz) (qI D res.1 (wSC cI cB ah ab ag an length place letter rowColumns bytes digits entries) (wSC cI cB ah ab ag an length res.2 letter rowColumns bytes digits entries) sz) 0 0 (va_A (wSC cI cB ah ab ag an length place letter rowColumns bytes digits entries) sz) := by sorry
abbrev rm_X4_readDigits : Room := { frames := 3, cells := 0, slots := 0, locals := 62 }
theorem iX4_readDigits_X4 : ∀ w ∈ wsX40, w ∈ wsX4_readDigits := by sorry
theorem fX4_readDigits_1 : Cond.fieldLink RX4 15 "PopovRows$Script" "digits" "[I" ∈ wsX4_readDigits := by sorry
theorem fX4_readDigits_2 : Cond.fieldLink RX4 26 "PopovRows$Script" "place" "I" ∈ wsX4_readDigits := by sorry
set_option maxHeartbeats 4000000 in
set_option maxRecDepth 100000 in
theorem mtX4_readDigits (l : Launch) (D : va_G) (cI cB cR : ClassId) (ah : Nat) (ab : Nat) (ag : Nat) (an : Nat) (sz : Nat) (length : Int32) (place : Int32) (letter : Int32) (rowColumns : Int32) (bytes : Nat → Int32) (digits : Nat → Int32) (entries : Nat → Int32) (a0 : Int32) (res : Int32 × Int32 × (Nat → Int32)) (hf : fX4_readDigits length place bytes digits a0 = some res) : Met l yX4_readDigits wsX4_readDigits rm_X4_readDigits (qP D cI cB cR [.ref ah, .int a0] (wSC cI cB ah ab ag an length place letter rowColumns bytes digits entries) sz) (qZ D res.1 (wSC cI cB ah ab ag an length place letter rowColumns bytes digits entries) (wSC cI cB ah ab ag an length res.2.1 letter rowColumns bytes res.2.2 entries) sz) 0 0 (va_A (wSC cI cB ah ab ag an length place letter rowColumns bytes digits entries) sz) := by sorry
abbrev rm_X4_readColumns : Room := { frames := 4, cells := 0, slots := 0, locals := 85 }
theorem fX4_readColumns_0 : Cond.initialized RX7 ∈ wsX4_readColumns := by sorry
theorem fX4_readColumns_1 : Cond.static yX7_isWithin ∈ wsX4_readColumns := by sorry
theorem iX4_readColumns_X4 : ∀ w ∈ wsX40, w ∈ wsX4_readColumns := by sorry
theorem fX4_readColumns_3 : Cond.fieldLink RX4 29 "PopovRows$Script" "rowColumns" "I" ∈ wsX4_readColumns := by sorry
set_option maxHeartbeats 4000000 in
set_option maxRecDepth 100000 in
theorem mtX4_readColumns (l : Launch) (D : va_G) (cI cB cR : ClassId) (ah : Nat) (ab : Nat) (ag : Nat) (an : Nat) (sz : Nat) (length : Int32) (place : Int32) (letter : Int32) (rowColumns : Int32) (bytes : Nat → Int32) (digits : Nat → Int32) (entries : Nat → Int32) (res : Int32 × Int32 × Int32 × (Nat → Int32)) (hf : fX4_readColumns length place rowColumns bytes digits = some res) : Met l yX4_readColumns wsX4_readColumns rm_X4_readColumns (qP D cI cB cR [.ref ah] (wSC cI cB ah ab ag an length place letter rowColumns bytes digits entries) sz) (qZ D res.1 (wSC cI cB ah ab ag an length place letter rowColumns bytes digits entries) (wSC cI cB ah ab ag an length res.2.1 letter res.2.2.1 bytes res.2.2.2 entries) sz) 0 0 (va_A (wSC cI cB ah ab ag an length place letter rowColumns bytes digits entries) sz) := by sorry
abbrev rm_X4_accept : Room := { frames := 2, cells := 0, slots := 0, locals := 41 }
theorem iX4_accept_X4 : ∀ w ∈ wsX40, w ∈ wsX4_accept := by sorry
theorem fX4_accept_1 : Cond.fieldLink RX4 26 "PopovRows$Script" "place" "I" ∈ wsX4_accept := by sorry
set_option maxHeartbeats 4000000 in
set_option maxRecDepth 100000 in
theorem mtX4_accept (l : Launch) (D : va_G) (cI cB cR : ClassId) (ah : Nat) (ab : Nat) (ag : Nat) (an : Nat) (sz : Nat) (length : Int32) (place : Int32) (letter : Int32) (rowColumns : Int32) (bytes : Nat → Int32) (digits : Nat → Int32) (entries : Nat → Int32) (a0 : Int32) (res : Int32 × Int32) (hf : fX4_accept length place bytes a0 = some res) : Met l yX4_accept wsX4_accept rm_X4_accept (qP D cI cB cR [.ref ah, .int a0] (wSC cI cB ah ab ag an length place letter rowColumns bytes digits entries) sz) (qZ D res.1 (wSC cI cB ah ab ag an length place letter rowColumns bytes digits entries) (wSC cI cB ah ab ag an length res.2 letter rowColumns bytes digits entries) sz) 0 0 (va_A (wSC cI cB ah ab ag an length place letter rowColumns bytes digits entries) sz) := by sorry
abbrev rm_X7_isPrime : Room := { frames := 0, cells := 0, slots := 0, locals := 0 }
set_option maxHeartbeats 4000000 in
set_option maxRecDepth 100000 in
theorem mtX7_isPrime (l : Launch) (D : va_G) (cI cB cR : ClassId) (sz : Nat) (a0 : Int32) (res : Int32) (hf : fX7_isPrime a0 = some res) : Met l yX7_isPrime wsX7_isPrime rm_X7_isPrime (qP D cI cB cR [.int a0] ([] : va_W) sz) (qZ D res ([] : va_W) ([] : va_W) sz) 0 0 (va_A ([] : va_W) sz) := by sorry
abbrev rm_X4_addToEntry : Room := { frames := 2, cells := 0, slots := 0, locals := 45 }
theorem iX4_addToEntry_X4 : ∀ w ∈ wsX40, w ∈ wsX4_addToEntry := by sorry
theorem fX4_addToEntry_1 : Cond.fieldLink RX4 19 "PopovRows$Script" "entries" "[I" ∈ wsX4_addToEntry := by sorry
set_option maxHeartbeats 4000000 in
set_option maxRecDepth 100000 in
theorem mtX4_addToEntry (l : Launch) (D : va_G) (cI cB cR : ClassId) (ah : Nat) (ab : Nat) (ag : Nat) (an : Nat) (sz : Nat) (length : Int32) (place : Int32) (letter : Int32) (rowColumns : Int32) (bytes : Nat → Int32) (digits : Nat → Int32) (entries : Nat → Int32) (a0 : Int32) (a1 : Int32) (a2 : Int32) (res : Nat → Int32) (hf : fX4_addToEntry entries a0 a1 a2 = some res) : Met l yX4_addToEntry wsX4_addToEntry rm_X4_addToEntry (qP D cI cB cR [.ref ah, .int a0, .int a1, .int a2] (wSC cI cB ah ab ag an length place letter rowColumns bytes digits entries) sz) (qV D (wSC cI cB ah ab ag an length place letter rowColumns bytes digits entries) (wSC cI cB ah ab ag an length place letter rowColumns bytes digits res) sz) 0 0 (va_A (wSC cI cB ah ab ag an length place letter rowColumns bytes digits entries) sz) := by sorry
abbrev rm_X4_readPower : Room := { frames := 1, cells := 0, slots := 0, locals := 22 }
theorem fX4_readPower_0 : Cond.initialized RX7 ∈ wsX4_readPower := by sorry
theorem fX4_readPower_1 : Cond.static yX7_isWithin ∈ wsX4_readPower := by sorry
theorem iX4_readPower_X4 : ∀ w ∈ wsX40, w ∈ wsX4_readPower := by sorry
theorem fX4_readPower_3 : Cond.fieldLink RX4 26 "PopovRows$Script" "place" "I" ∈ wsX4_readPower := by sorry
set_option maxHeartbeats 4000000 in
set_option maxRecDepth 100000 in
theorem mtX4_readPower (l : Launch) (D : va_G) (cI cB cR : ClassId) (ah : Nat) (ab : Nat) (ag : Nat) (an : Nat) (sz : Nat) (length : Int32) (place : Int32) (letter : Int32) (rowColumns : Int32) (bytes : Nat → Int32) (digits : Nat → Int32) (entries : Nat → Int32) (res : Int32 × Int32) (hf : fX4_readPower length place bytes = some res) : Met l yX4_readPower wsX4_readPower rm_X4_readPower (qP D cI cB cR [.ref ah] (wSC cI cB ah ab ag an length place letter rowColumns bytes digits entries) sz) (qI D res.1 (wSC cI cB ah ab ag an length place letter rowColumns bytes digits entries) (wSC cI cB ah ab ag an length res.2 letter rowColumns bytes digits entries) sz) 0 0 (va_A (wSC cI cB ah ab ag an length place letter rowColumns bytes digits entries) sz) := by sorry
abbrev rm_X4_readTerm : Room := { frames := 3, cells := 0, slots := 0, locals := 69 }
theorem iX4_readTerm_X4 : ∀ w ∈ wsX40, w ∈ wsX4_readTerm := by sorry
theorem fX4_readTerm_1 : Cond.fieldLink RX4 26 "PopovRows$Script" "place" "I" ∈ wsX4_readTerm := by sorry
set_option maxHeartbeats 4000000 in
set_option maxRecDepth 100000 in
theorem mtX4_readTerm (l : Launch) (D : va_G) (cI cB cR : ClassId) (ah : Nat) (ab : Nat) (ag : Nat) (an : Nat) (sz : Nat) (length : Int32) (place : Int32) (letter : Int32) (rowColumns : Int32) (bytes : Nat → Int32) (digits : Nat → Int32) (entries : Nat → Int32) (a0 : Int32) (res : Int32 × Int32 × (Nat → Int32)) (hf : fX4_readTerm length place bytes entries a0 = some res) : Met l yX4_readTerm wsX4_readTerm rm_X4_readTerm (qP D cI cB cR [.ref ah, .int a0] (wSC cI cB ah ab ag an length place letter rowColumns bytes digits entries) sz) (qZ D res.1 (wSC cI cB ah ab ag an length place letter rowColumns bytes digits entries) (wSC cI cB ah ab ag an length res.2.1 letter rowColumns bytes digits res.2.2) sz) 0 0 (va_A (wSC cI cB ah ab ag an length place letter rowColumns bytes digits entries) sz) := by sorry
abbrev rm_X4_readRow : Room := { frames := 4, cells := 0, slots := 0, locals := 92 }
theorem iX4_readRow_X4 : ∀ w ∈ wsX40, w ∈ wsX4_readRow := by sorry
theorem fX4_readRow_1 : Cond.fieldLink RX4 19 "PopovRows$Script" "entries" "[I" ∈ wsX4_readRow := by sorry
theorem fX4_readRow_2 : Cond.fieldLink RX4 29 "PopovRows$Script" "rowColumns" "I" ∈ wsX4_readRow := by sorry
set_option maxHeartbeats 4000000 in
set_option maxRecDepth 100000 in
theorem mtX4_readRow (l : Launch) (D : va_G) (cI cB cR : ClassId) (ah : Nat) (ab : Nat) (ag : Nat) (an : Nat) (sz : Nat) (length : Int32) (place : Int32) (letter : Int32) (rowColumns : Int32) (bytes : Nat → Int32) (digits : Nat → Int32) (entries : Nat → Int32) (res : Int32 × Int32 × (Nat → Int32)) (hf : fX4_readRow length place rowColumns bytes entries = some res) : Met l yX4_readRow wsX4_readRow rm_X4_readRow (qP D cI cB cR [.ref ah] (wSC cI cB ah ab ag an length place letter rowColumns bytes digits entries) sz) (qZ D res.1 (wSC cI cB ah ab ag an length place letter rowColumns bytes digits entries) (wSC cI cB ah ab ag an length res.2.1 letter rowColumns bytes digits res.2.2) sz) 0 0 (va_A (wSC cI cB ah ab ag an length place letter rowColumns bytes digits entries) sz) := by sorry
