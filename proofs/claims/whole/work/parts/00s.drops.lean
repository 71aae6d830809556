theorem sp_drops {badCalls : Int32} {noCalls : Int32} {fullCalls : Int32} {stopError : Int32} {stopIndex : Int32} {npp : Int32} {ncolumns : Int32} {ncount : Int32} {nnum : Nat → Int32} {gcount : Int32} {gg0pp : Int32} {gg0columns : Int32} {gg0count : Int32} {gg0num : Nat → Int32} {gg1pp : Int32} {gg1columns : Int32} {gg1count : Int32} {gg1num : Nat → Int32} {gg2pp : Int32} {gg2columns : Int32} {gg2count : Int32} {gg2num : Nat → Int32} {gg3pp : Int32} {gg3columns : Int32} {gg3count : Int32} {gg3num : Nat → Int32} {gg4pp : Int32} {gg4columns : Int32} {gg4count : Int32} {gg4num : Nat → Int32} {clength : Int32} {cbytes : Nat → Int32} {states : Int32} {whyKind : Int32} {whyOrder : Int32} {textLong : Int32} {all : Nat → Int32} {past : Nat → Int32} {refused : Nat → Int32} {text : Nat → Int32} (bnum : Nat → Int32) (a0 : Int32) (hI : Inv badCalls noCalls fullCalls stopError stopIndex npp ncolumns ncount nnum gcount gg0pp gg0columns gg0count gg0num gg1pp gg1columns gg1count gg1num gg2pp gg2columns gg2count gg2num gg3pp gg3columns gg3count gg3num gg4pp gg4columns gg4count gg4num clength cbytes states whyKind whyOrder textLong all past refused text) : ∃ (r : Int32) (x_badCalls : Int32) (x_noCalls : Int32) (x_fullCalls : Int32) (x_ncount : Int32) (x_nnum : Nat → Int32) (x_bpp : Int32) (x_bcolumns : Int32) (x_bcount : Int32) (x_bnum : Nat → Int32) (x_gcount : Int32) (x_gg0pp : Int32) (x_gg0columns : Int32) (x_gg0count : Int32) (x_gg0num : Nat → Int32) (x_gg1pp : Int32) (x_gg1columns : Int32) (x_gg1count : Int32) (x_gg1num : Nat → Int32) (x_gg2pp : Int32) (x_gg2columns : Int32) (x_gg2count : Int32) (x_gg2num : Nat → Int32) (x_gg3pp : Int32) (x_gg3columns : Int32) (x_gg3count : Int32) (x_gg3num : Nat → Int32) (x_gg4pp : Int32) (x_gg4columns : Int32) (x_gg4count : Int32) (x_gg4num : Nat → Int32) (m_states : Int32) (m_all : Nat → Int32) (m_past : Nat → Int32) (m_refused : Nat → Int32), fX7_drops badCalls noCalls fullCalls npp ncolumns ncount nnum bnum gcount gg0pp gg0columns gg0count gg0num gg1pp gg1columns gg1count gg1num gg2pp gg2columns gg2count gg2num gg3pp gg3columns gg3count gg3num gg4pp gg4columns gg4count gg4num a0 = some (r, x_badCalls, x_noCalls, x_fullCalls, x_ncount, x_nnum, x_bpp, x_bcolumns, x_bcount, x_bnum, x_gcount, x_gg0pp, x_gg0columns, x_gg0count, x_gg0num, x_gg1pp, x_gg1columns, x_gg1count, x_gg1num, x_gg2pp, x_gg2columns, x_gg2count, x_gg2num, x_gg3pp, x_gg3columns, x_gg3count, x_gg3num, x_gg4pp, x_gg4columns, x_gg4count, x_gg4num) ∧ fX8_drops states all past refused a0 = some (r, m_states, m_all, m_past, m_refused) ∧ Inv x_badCalls x_noCalls x_fullCalls stopError stopIndex npp ncolumns x_ncount x_nnum x_gcount x_gg0pp x_gg0columns x_gg0count x_gg0num x_gg1pp x_gg1columns x_gg1count x_gg1num x_gg2pp x_gg2columns x_gg2count x_gg2num x_gg3pp x_gg3columns x_gg3count x_gg3num x_gg4pp x_gg4columns x_gg4count x_gg4num clength cbytes m_states whyKind whyOrder textLong m_all m_past m_refused text := by
  obtain ⟨hst, hk, c1, c2, c3, k1, k2, htx⟩ := hI
  have hst2 := hst
  obtain ⟨p, C, n, hp, hC1, hC, hn, e1, e2, e3, b0, b1, b2, hcell⟩ := hst2
  obtain ⟨bn, hb1, hb2⟩ := copy105 bnum nnum npp ncolumns ncount
  have hsb : stRel npp ncolumns ncount bn all := stRel_cong hst hb2 (fun _ _ => rfl)
  subst e1 e2 e3
  unfold fX7_drops fX8_drops
  rw [bd4_t hb1, bd_t (X8isRow (by omega) b2)]
  by_cases hq : fX3_hasRow (nI n) a0 = 0
  · have hc : fX7_dropRow (nI n) nnum a0 = some (-2, nI n, nnum) := by
      unfold fX7_dropRow
      rw [if_pos hq]
    obtain ⟨x, y, z, m, s1, s2, s3, s4, s5⟩ := settle_e (a := -2) (bpp := nI p) (bcolumns := nI C) (bcount := nI n) (bnum := bn) (gcount := gcount) (g0pp := gg0pp) (g0columns := gg0columns) (g0count := gg0count) (g0num := gg0num) (g1pp := gg1pp) (g1columns := gg1columns) (g1count := gg1count) (g1num := gg1num) (g2pp := gg2pp) (g2columns := gg2columns) (g2count := gg2count) (g2num := gg2num) (g3pp := gg3pp) (g3columns := gg3columns) (g3count := gg3count) (g3num := gg3num) (g4pp := gg4pp) (g4columns := gg4columns) (g4count := gg4count) (g4num := gg4num) (Or.inl rfl) c1 c2 c3
    rw [bd3_t hc, bd25_t s1, if_pos hq, bd2_t s2]
    exact ⟨_, _, _, _, _, _, _, _, _, _, _, _, _, _, _, _, _, _, _, _, _, _, _, _, _, _, _, _, _, _, _, _, _, _, _, rfl, rfl, hst, hk, s3, s4, s5, k1, k2, htx⟩
  · obtain ⟨i, hi, ei⟩ := row_of (by omega) hq
    subst ei
    obtain ⟨num2, hc, hd⟩ := X3remove105 (m := n) (i := i) (num := nnum) hn hi
    have hc2 : fX7_dropRow (nI n) nnum (nI i) = some (nI (n - 1), nI (n - 1), num2) := by
      unfold fX7_dropRow
      rw [if_neg hq, bd2_t hc]
    obtain ⟨y, y0pp, y0columns, y0count, y1pp, y1columns, y1count, y2pp, y2columns, y2count, y3pp, y3columns, y3count, y4pp, y4columns, y4count, y0num, y1num, y2num, y3num, y4num, st, past2, s1, s2, s3⟩ := settle_k (a := nI (n - 1)) (bad := badCalls) (no := noCalls) (full := fullCalls) (isErr_nI (by omega)) hk hsb
    obtain ⟨A, p1, p2, p3, p4⟩ := X8dropNow (n := n) (i := i) b2 hn hi
    rw [bd3_t hc2, bd25_t s1, if_neg hq, bd2_t s2, bd2_t p1]
    refine ⟨_, _, _, _, _, _, _, _, _, _, _, _, _, _, _, _, _, _, _, _, _, _, _, _, _, _, _, _, _, _, _, _, _, _, _, rfl, rfl, ⟨p, C, n - 1, hp, hC1, hC, by omega, rfl, rfl, rfl, (p4 0 (by omega) (by omega)).trans b0, (p4 1 (by omega) (by omega)).trans b1, p2, ?_⟩, s3, c1, c2, c3, k1, k2, htx⟩
    intro a ha c hc3 k hk7
    rw [hd _ (by omega)]
    by_cases e : a < i
    · obtain ⟨v, v1, v2, v3, v4⟩ := hcell a (by omega) c hc3 k hk7
      refine ⟨v, v1, by rw [if_pos (by omega)]; exact v2, ?_, v4⟩
      rw [p4 _ (by omega) (by omega)]
      exact v3
    · obtain ⟨v, v1, v2, v3, v4⟩ := hcell (a + 1) (by omega) c hc3 k hk7
      refine ⟨v, v1, ?_, ?_, v4⟩
      · rw [if_neg (by omega), show (a * 3 + c) * 7 + k + 21 = ((a + 1) * 3 + c) * 7 + k by omega]
        exact v2
      · rw [p3 _ (by omega) (by omega), show 3 + (a * 3 + c) * 7 + k + 21 = 3 + ((a + 1) * 3 + c) * 7 + k by omega]
        exact v3
