theorem sp_of {badCalls : Int32} {noCalls : Int32} {fullCalls : Int32} {stopError : Int32} {stopIndex : Int32} {npp : Int32} {ncolumns : Int32} {ncount : Int32} {nnum : Nat → Int32} {gcount : Int32} {gg0pp : Int32} {gg0columns : Int32} {gg0count : Int32} {gg0num : Nat → Int32} {gg1pp : Int32} {gg1columns : Int32} {gg1count : Int32} {gg1num : Nat → Int32} {gg2pp : Int32} {gg2columns : Int32} {gg2count : Int32} {gg2num : Nat → Int32} {gg3pp : Int32} {gg3columns : Int32} {gg3count : Int32} {gg3num : Nat → Int32} {gg4pp : Int32} {gg4columns : Int32} {gg4count : Int32} {gg4num : Nat → Int32} {clength : Int32} {cbytes : Nat → Int32} {states : Int32} {whyKind : Int32} {whyOrder : Int32} {textLong : Int32} {all : Nat → Int32} {past : Nat → Int32} {refused : Nat → Int32} {text : Nat → Int32} (a0 : Int32) (a1 : Int32) (a2 : Int32) (hI : Inv badCalls noCalls fullCalls stopError stopIndex npp ncolumns ncount nnum gcount gg0pp gg0columns gg0count gg0num gg1pp gg1columns gg1count gg1num gg2pp gg2columns gg2count gg2num gg3pp gg3columns gg3count gg3num gg4pp gg4columns gg4count gg4num clength cbytes states whyKind whyOrder textLong all past refused text) : ∃ (r : Int32) (x_badCalls : Int32) (x_noCalls : Int32) (x_fullCalls : Int32) (m_refused : Nat → Int32), fX7_of badCalls noCalls fullCalls ncolumns ncount nnum a0 a1 a2 = some (r, x_badCalls, x_noCalls, x_fullCalls) ∧ fX8_of all refused a0 a1 a2 = some (r, m_refused) ∧ Inv x_badCalls x_noCalls x_fullCalls stopError stopIndex npp ncolumns ncount nnum gcount gg0pp gg0columns gg0count gg0num gg1pp gg1columns gg1count gg1num gg2pp gg2columns gg2count gg2num gg3pp gg3columns gg3count gg3num gg4pp gg4columns gg4count gg4num clength cbytes states whyKind whyOrder textLong all past m_refused text := by
  obtain ⟨⟨p, C, n, hp, hC1, hC, hn, e1, e2, e3, b0, b1, b2, hcell⟩, hk, c1, c2, c3, hrest⟩ := hI
  subst e1 e2 e3
  have hst : stRel (nI p) (nI C) (nI n) nnum all := ⟨p, C, n, hp, hC1, hC, hn, rfl, rfl, rfl, b0, b1, b2, hcell⟩
  obtain ⟨x, y, z, m, h2, h3, h4⟩ := cnt_a (a := -2) (Or.inl rfl) c1 c2 c3
  unfold fX7_of fX8_of
  rw [bd_t (X8isRow (by omega) b2)]
  by_cases g1 : fX3_hasRow (nI n) a0 = 0
  · rw [if_pos g1, if_pos g1, bd4_t h2, bd2_t h3]
    exact ⟨_, x, y, z, m, rfl, rfl, hst, hk, h4.1, h4.2.1, h4.2.2, hrest⟩
  · rw [if_neg g1, if_neg g1, bd_t (X8isColumn (by omega) b1), hasCol]
    by_cases g2 : fX3_hasRow (nI C) a1 = 0
    · rw [if_pos g2, if_pos g2, bd4_t h2, bd2_t h3]
      exact ⟨_, x, y, z, m, rfl, rfl, hst, hk, h4.1, h4.2.1, h4.2.2, hrest⟩
    · rw [if_neg g2, if_neg g2, show fX8_in a2.toInt64 (0 : Int64) (6 : Int64) = fX7_isWithin a2 0 (nI 6) from in_wi a2 0 6]
      by_cases g3 : fX7_isWithin a2 0 (nI 6) = 0
      · rw [if_pos (show fX7_isWithin a2 (0 : Int32) (6 : Int32) = 0 from g3), if_pos g3, bd4_t h2, bd2_t h3]
        exact ⟨_, x, y, z, m, rfl, rfl, hst, hk, h4.1, h4.2.1, h4.2.2, hrest⟩
      · rw [if_neg (show ¬ fX7_isWithin a2 (0 : Int32) (6 : Int32) = 0 from g3), if_neg g3]
        obtain ⟨i, hi, ei⟩ := row_of (by omega) g1
        obtain ⟨c, hc, ec⟩ := row_of (by omega) g2
        obtain ⟨k, hk7, ek⟩ := wi_of (by omega) g3
        subst ei ec ek
        obtain ⟨v, hv, v1, v2, v3⟩ := hcell i hi c (by omega) k (by omega)
        have q1 : fX3_at 105 (5 : Int32) (3 : Int32) (7 : Int32) nnum (nI i) (nI c) (nI k) = some (nI v) := (X3at_in (L := 105) (R := 5) (w := 3) (q := 7) rfl (by omega) (by omega) (by omega) (by omega) (by omega) (by omega) (by omega)).trans (congrArg some v1)
        rw [bd_t q1, X8place, gd_t (vp_in_nI (by omega) (by omega)), nI_clamp (by omega), v2]
        exact ⟨_, _, _, _, _, rfl, rfl, hst, hk, c1, c2, c3, hrest⟩
