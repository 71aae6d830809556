theorem sp_about {badCalls : Int32} {noCalls : Int32} {fullCalls : Int32} {stopError : Int32} {stopIndex : Int32} {npp : Int32} {ncolumns : Int32} {ncount : Int32} {nnum : Nat → Int32} {gcount : Int32} {gg0pp : Int32} {gg0columns : Int32} {gg0count : Int32} {gg0num : Nat → Int32} {gg1pp : Int32} {gg1columns : Int32} {gg1count : Int32} {gg1num : Nat → Int32} {gg2pp : Int32} {gg2columns : Int32} {gg2count : Int32} {gg2num : Nat → Int32} {gg3pp : Int32} {gg3columns : Int32} {gg3count : Int32} {gg3num : Nat → Int32} {gg4pp : Int32} {gg4columns : Int32} {gg4count : Int32} {gg4num : Nat → Int32} {clength : Int32} {cbytes : Nat → Int32} {states : Int32} {whyKind : Int32} {whyOrder : Int32} {textLong : Int32} {all : Nat → Int32} {past : Nat → Int32} {refused : Nat → Int32} {text : Nat → Int32} (a0 : Int32) (a1 : Int32) (hI : Inv badCalls noCalls fullCalls stopError stopIndex npp ncolumns ncount nnum gcount gg0pp gg0columns gg0count gg0num gg1pp gg1columns gg1count gg1num gg2pp gg2columns gg2count gg2num gg3pp gg3columns gg3count gg3num gg4pp gg4columns gg4count gg4num clength cbytes states whyKind whyOrder textLong all past refused text) : ∃ (r : Int32) (x_badCalls : Int32) (x_noCalls : Int32) (x_fullCalls : Int32) (m_refused : Nat → Int32), fX7_about badCalls noCalls fullCalls ncolumns ncount nnum a0 a1 = some (r, x_badCalls, x_noCalls, x_fullCalls) ∧ fX8_about all refused a0 a1 = some (r, m_refused) ∧ Inv x_badCalls x_noCalls x_fullCalls stopError stopIndex npp ncolumns ncount nnum gcount gg0pp gg0columns gg0count gg0num gg1pp gg1columns gg1count gg1num gg2pp gg2columns gg2count gg2num gg3pp gg3columns gg3count gg3num gg4pp gg4columns gg4count gg4num clength cbytes states whyKind whyOrder textLong all past m_refused text := by
  obtain ⟨hst, hk, c1, c2, c3, hrest⟩ := hI
  have hst2 := hst
  obtain ⟨p, C, n, hp, hC1, hC, hn, e1, e2, e3, b0, b1, b2, hcell⟩ := hst2
  subst e1 e2 e3
  obtain ⟨x, y, z, m, h2, h3, h4⟩ := cnt_a (a := -2) (Or.inl rfl) c1 c2 c3
  unfold fX7_about fX8_about
  rw [bd_t (X8isRow (by omega) b2)]
  by_cases g1 : fX3_hasRow (nI n) a0 = 0
  · rw [if_pos g1, if_pos g1, bd4_t h2, bd2_t h3]
    exact ⟨_, _, _, _, _, rfl, rfl, hst, hk, h4.1, h4.2.1, h4.2.2, hrest⟩
  · rw [if_neg g1, if_neg g1, show fX8_in a1.toInt64 (0 : Int64) (2 : Int64) = fX7_isWithin a1 0 2 from in_wi a1 0 2]
    by_cases g2 : fX7_isWithin a1 0 2 = 0
    · rw [if_pos g2, if_pos g2, bd4_t h2, bd2_t h3]
      exact ⟨_, _, _, _, _, rfl, rfl, hst, hk, h4.1, h4.2.1, h4.2.2, hrest⟩
    · rw [if_neg g2, if_neg g2]
      obtain ⟨i, hi, ei⟩ := row_of (by omega) g1
      subst ei
      obtain ⟨V, hV⟩ := stV (by omega) hcell
      obtain ⟨hP, v, -, -, -, l1, l2⟩ := lead_both (by omega) hC hn b1 hV hi (by omega)
      have hle := aP_le all C i
      have d1 : fX3_degreeOf 105 (5 : Int32) (3 : Int32) (7 : Int32) (nI C) nnum (nI i) = some (pv (pw (aP all C i))) := (X3deg (L := 105) (R := 5) (w := 3) (q := 7) rfl (by omega) (by omega) (by omega) (by omega) (by omega) hC (by omega)).trans (by rw [hP, powerAt_pv (by omega)])
      have q1 : fX3_pivotOf 105 (5 : Int32) (3 : Int32) (7 : Int32) (nI C) nnum (nI i) = some (pv (cp (aP all C i))) := (X3piv (L := 105) (R := 5) (w := 3) (q := 7) rfl (by omega) (by omega) (by omega) (by omega) (by omega) hC (by omega)).trans (by rw [hP, columnAt_pv (by omega)])
      unfold fX8_aboutRow
      by_cases k1 : a1 = 0
      · rw [if_pos k1, if_pos k1, bd_t d1, bd_t (X8degree b1 (by omega) hC), bd_t rfl]
        exact ⟨_, _, _, _, _, rfl, rfl, hst, hk, c1, c2, c3, hrest⟩
      · rw [if_neg k1, if_neg k1]
        by_cases k2 : a1 = 1
        · rw [if_pos k2, if_pos k2, bd_t q1, bd_t (X8pivot b1 (by omega) hC), bd_t rfl]
          exact ⟨_, _, _, _, _, rfl, rfl, hst, hk, c1, c2, c3, hrest⟩
        · rw [if_neg k2, if_neg k2, bd_t l1, bd_t l2, bd_t rfl]
          exact ⟨_, _, _, _, _, rfl, rfl, hst, hk, c1, c2, c3, hrest⟩
