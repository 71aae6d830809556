theorem sp_told {badCalls : Int32} {noCalls : Int32} {fullCalls : Int32} {stopError : Int32} {stopIndex : Int32} {npp : Int32} {ncolumns : Int32} {ncount : Int32} {nnum : Nat → Int32} {gcount : Int32} {gg0pp : Int32} {gg0columns : Int32} {gg0count : Int32} {gg0num : Nat → Int32} {gg1pp : Int32} {gg1columns : Int32} {gg1count : Int32} {gg1num : Nat → Int32} {gg2pp : Int32} {gg2columns : Int32} {gg2count : Int32} {gg2num : Nat → Int32} {gg3pp : Int32} {gg3columns : Int32} {gg3count : Int32} {gg3num : Nat → Int32} {gg4pp : Int32} {gg4columns : Int32} {gg4count : Int32} {gg4num : Nat → Int32} {clength : Int32} {cbytes : Nat → Int32} {states : Int32} {whyKind : Int32} {whyOrder : Int32} {textLong : Int32} {all : Nat → Int32} {past : Nat → Int32} {refused : Nat → Int32} {text : Nat → Int32} (a0 : Int32) (hI : Inv badCalls noCalls fullCalls stopError stopIndex npp ncolumns ncount nnum gcount gg0pp gg0columns gg0count gg0num gg1pp gg1columns gg1count gg1num gg2pp gg2columns gg2count gg2num gg3pp gg3columns gg3count gg3num gg4pp gg4columns gg4count gg4num clength cbytes states whyKind whyOrder textLong all past refused text) : ∃ (r : Int32) (x_badCalls : Int32) (x_noCalls : Int32) (x_fullCalls : Int32) (m_refused : Nat → Int32), fX7_told badCalls noCalls fullCalls npp ncolumns ncount gcount clength a0 = some (r, x_badCalls, x_noCalls, x_fullCalls) ∧ fX8_told states textLong all refused a0 = some (r, m_refused) ∧ Inv x_badCalls x_noCalls x_fullCalls stopError stopIndex npp ncolumns ncount nnum gcount gg0pp gg0columns gg0count gg0num gg1pp gg1columns gg1count gg1num gg2pp gg2columns gg2count gg2num gg3pp gg3columns gg3count gg3num gg4pp gg4columns gg4count gg4num clength cbytes states whyKind whyOrder textLong all past m_refused text := by
  obtain ⟨hst, hk, c1, c2, c3, k1, k2, htx⟩ := hI
  have hst' := hst
  have hk' := hk
  have htx' := htx
  obtain ⟨p, C, n, -, -, -, -, e1, e2, e3, b0, b1, b2, -⟩ := hst'
  obtain ⟨gn, -, g1, g2, -⟩ := hk'
  obtain ⟨t, -, t1, t2, -⟩ := htx'
  unfold fX7_told fX8_told
  rw [show fX8_in a0.toInt64 (0 : Int64) (7 : Int64) = fX7_isWithin a0 0 7 from in_wi a0 0 7]
  by_cases q1 : fX7_isWithin a0 0 7 = 0
  · obtain ⟨x, y, z, m, h2, h3, h4⟩ := cnt_a (a := -2) (Or.inl rfl) c1 c2 c3
    rw [if_pos q1, if_pos q1, bd4_t h2, bd2_t h3]
    exact ⟨_, x, y, z, m, rfl, rfl, hst, hk, h4.1, h4.2.1, h4.2.2, k1, k2, htx⟩
  · rw [if_neg q1, if_neg q1]
    obtain ⟨v, hv, ev⟩ := wi_of (hi := 7) (by omega) q1
    subst ev
    have key : fX8_toldOf states textLong all refused (nI v) = some (fX7_total badCalls noCalls fullCalls npp ncolumns ncount gcount clength (nI v)) := by
      have hv8 : v = 0 ∨ v = 1 ∨ v = 2 ∨ v = 3 ∨ v = 4 ∨ v = 5 ∨ v = 6 ∨ v = 7 := by omega
      rcases hv8 with e | e | e | e | e | e | e | e <;> subst e
      · rw [show fX7_total badCalls noCalls fullCalls npp ncolumns ncount gcount clength (nI 0) = badCalls from rfl, c1]
        unfold fX8_toldOf
        rw [if_neg (by decide), gd_t (vp_in_nI (by omega) (by omega))]
        rfl
      · rw [show fX7_total badCalls noCalls fullCalls npp ncolumns ncount gcount clength (nI 1) = noCalls from rfl, c2]
        unfold fX8_toldOf
        rw [if_neg (by decide), gd_t (vp_in_nI (by omega) (by omega))]
        rfl
      · rw [show fX7_total badCalls noCalls fullCalls npp ncolumns ncount gcount clength (nI 2) = fullCalls from rfl, c3]
        unfold fX8_toldOf
        rw [if_neg (by decide), gd_t (vp_in_nI (by omega) (by omega))]
        rfl
      · rw [show fX7_total badCalls noCalls fullCalls npp ncolumns ncount gcount clength (nI 3) = clength from rfl, t1, t2]
        rfl
      · rw [show fX7_total badCalls noCalls fullCalls npp ncolumns ncount gcount clength (nI 4) = npp from rfl, e1, ← b0]
        unfold fX8_toldOf
        rw [if_pos (by decide), if_neg (by decide), if_neg (by decide), show nI 4 - (4 : Int32) = nI 0 from rfl, gd_t (show vp_in (nI 0) 108 from vp_in_nI (by omega) (by omega))]
        rfl
      · rw [show fX7_total badCalls noCalls fullCalls npp ncolumns ncount gcount clength (nI 5) = ncolumns from rfl, e2, ← b1]
        unfold fX8_toldOf
        rw [if_pos (by decide), if_neg (by decide), if_neg (by decide), show nI 5 - (4 : Int32) = nI 1 from rfl, gd_t (show vp_in (nI 1) 108 from vp_in_nI (by omega) (by omega))]
        rfl
      · rw [show fX7_total badCalls noCalls fullCalls npp ncolumns ncount gcount clength (nI 6) = ncount from rfl, e3, ← b2]
        unfold fX8_toldOf
        rw [if_pos (by decide), if_neg (by decide), if_neg (by decide), show nI 6 - (4 : Int32) = nI 2 from rfl, gd_t (show vp_in (nI 2) 108 from vp_in_nI (by omega) (by omega))]
        rfl
      · rw [show fX7_total badCalls noCalls fullCalls npp ncolumns ncount gcount clength (nI 7) = gcount from rfl, g1, g2]
        rfl
    rw [bd_t key]
    exact ⟨_, _, _, _, _, rfl, rfl, hst, hk, c1, c2, c3, k1, k2, htx⟩
