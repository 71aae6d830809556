theorem sp_next {badCalls : Int32} {noCalls : Int32} {fullCalls : Int32} {stopError : Int32} {stopIndex : Int32} {npp : Int32} {ncolumns : Int32} {ncount : Int32} {nnum : Nat → Int32} {gcount : Int32} {gg0pp : Int32} {gg0columns : Int32} {gg0count : Int32} {gg0num : Nat → Int32} {gg1pp : Int32} {gg1columns : Int32} {gg1count : Int32} {gg1num : Nat → Int32} {gg2pp : Int32} {gg2columns : Int32} {gg2count : Int32} {gg2num : Nat → Int32} {gg3pp : Int32} {gg3columns : Int32} {gg3count : Int32} {gg3num : Nat → Int32} {gg4pp : Int32} {gg4columns : Int32} {gg4count : Int32} {gg4num : Nat → Int32} {clength : Int32} {cbytes : Nat → Int32} {states : Int32} {whyKind : Int32} {whyOrder : Int32} {textLong : Int32} {all : Nat → Int32} {past : Nat → Int32} {refused : Nat → Int32} {text : Nat → Int32} (starget : Int32) (ssource : Int32) (snumber : Int32) (spower : Int32) (szcount : Int32) (szplaces : Nat → Int32) (a0 : Int32) (hI : Inv badCalls noCalls fullCalls stopError stopIndex npp ncolumns ncount nnum gcount gg0pp gg0columns gg0count gg0num gg1pp gg1columns gg1count gg1num gg2pp gg2columns gg2count gg2num gg3pp gg3columns gg3count gg3num gg4pp gg4columns gg4count gg4num clength cbytes states whyKind whyOrder textLong all past refused text) : ∃ (r : Int32) (x_badCalls : Int32) (x_noCalls : Int32) (x_fullCalls : Int32) (x_starget : Int32) (x_ssource : Int32) (x_snumber : Int32) (x_spower : Int32) (x_szcount : Int32) (x_szplaces : Nat → Int32) (m_refused : Nat → Int32), fX7_next badCalls noCalls fullCalls npp ncolumns ncount nnum starget ssource snumber spower szcount szplaces a0 = some (r, x_badCalls, x_noCalls, x_fullCalls, x_starget, x_ssource, x_snumber, x_spower, x_szcount, x_szplaces) ∧ fX8_next all refused a0 = some (r, m_refused) ∧ Inv x_badCalls x_noCalls x_fullCalls stopError stopIndex npp ncolumns ncount nnum gcount gg0pp gg0columns gg0count gg0num gg1pp gg1columns gg1count gg1num gg2pp gg2columns gg2count gg2num gg3pp gg3columns gg3count gg3num gg4pp gg4columns gg4count gg4num clength cbytes states whyKind whyOrder textLong all past m_refused text := by
  obtain ⟨hst, hk, c1, c2, c3, hrest⟩ := hI
  have hst2 := hst
  obtain ⟨p, C, n, hp, hC1, hC, hn, e1, e2, e3, b0, b1, b2, hcell⟩ := hst2
  subst e1 e2 e3
  obtain ⟨x, y, z, m, h2, h3, h4⟩ := cnt_a (a := -2) (Or.inl rfl) c1 c2 c3
  unfold fX7_next fX8_next
  rw [show fX8_in a0.toInt64 (0 : Int64) (3 : Int64) = fX7_isWithin a0 0 3 from in_wi a0 0 3]
  by_cases g1 : fX7_isWithin a0 0 3 = 0
  · rw [if_pos g1, if_pos g1, bd4_t h2, bd2_t h3]
    exact ⟨_, _, _, _, _, _, _, _, _, _, _, rfl, rfl, hst, hk, h4.1, h4.2.1, h4.2.2, hrest⟩
  · rw [if_neg g1, if_neg g1]
    rcases next_both (t0 := starget) (s0 := ssource) (n0 := snumber) (p0 := spower) (places := szplaces) hp hC hn b0 b1 b2 hcell with ⟨pl, q1, q2⟩ | ⟨y0, y1, y2, y3, pl, q1, q2⟩
    · rw [bd7_t q1, if_pos rfl, bd_t (q2 a0)]
      exact ⟨_, _, _, _, _, _, _, _, _, _, _, rfl, rfl, hst, hk, c1, c2, c3, hrest⟩
    · rw [bd7_t q1, if_neg (by decide), bd_t (q2 a0)]
      by_cases w0 : a0 = 0
      · rw [if_pos w0, if_pos w0]
        exact ⟨_, _, _, _, _, _, _, _, _, _, _, rfl, rfl, hst, hk, c1, c2, c3, hrest⟩
      rw [if_neg w0, if_neg w0]
      by_cases w1 : a0 = 1
      · rw [if_pos w1, if_pos w1]
        exact ⟨_, _, _, _, _, _, _, _, _, _, _, rfl, rfl, hst, hk, c1, c2, c3, hrest⟩
      rw [if_neg w1, if_neg w1]
      by_cases w2 : a0 = 2
      · rw [if_pos w2, if_pos w2]
        exact ⟨_, _, _, _, _, _, _, _, _, _, _, rfl, rfl, hst, hk, c1, c2, c3, hrest⟩
      rw [if_neg w2, if_neg w2]
      exact ⟨_, _, _, _, _, _, _, _, _, _, _, rfl, rfl, hst, hk, c1, c2, c3, hrest⟩
