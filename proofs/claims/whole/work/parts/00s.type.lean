theorem sp_type {badCalls : Int32} {noCalls : Int32} {fullCalls : Int32} {stopError : Int32} {stopIndex : Int32} {npp : Int32} {ncolumns : Int32} {ncount : Int32} {nnum : Nat → Int32} {gcount : Int32} {gg0pp : Int32} {gg0columns : Int32} {gg0count : Int32} {gg0num : Nat → Int32} {gg1pp : Int32} {gg1columns : Int32} {gg1count : Int32} {gg1num : Nat → Int32} {gg2pp : Int32} {gg2columns : Int32} {gg2count : Int32} {gg2num : Nat → Int32} {gg3pp : Int32} {gg3columns : Int32} {gg3count : Int32} {gg3num : Nat → Int32} {gg4pp : Int32} {gg4columns : Int32} {gg4count : Int32} {gg4num : Nat → Int32} {clength : Int32} {cbytes : Nat → Int32} {states : Int32} {whyKind : Int32} {whyOrder : Int32} {textLong : Int32} {all : Nat → Int32} {past : Nat → Int32} {refused : Nat → Int32} {text : Nat → Int32} (a0 : Int32) (hI : Inv badCalls noCalls fullCalls stopError stopIndex npp ncolumns ncount nnum gcount gg0pp gg0columns gg0count gg0num gg1pp gg1columns gg1count gg1num gg2pp gg2columns gg2count gg2num gg3pp gg3columns gg3count gg3num gg4pp gg4columns gg4count gg4num clength cbytes states whyKind whyOrder textLong all past refused text) : ∃ (r : Int32) (x_badCalls : Int32) (x_noCalls : Int32) (x_fullCalls : Int32) (x_clength : Int32) (x_cbytes : Nat → Int32) (m_textLong : Int32) (m_refused : Nat → Int32) (m_text : Nat → Int32), fX7_type badCalls noCalls fullCalls clength cbytes a0 = some (r, x_badCalls, x_noCalls, x_fullCalls, x_clength, x_cbytes) ∧ fX8_type textLong refused text a0 = some (r, m_textLong, m_refused, m_text) ∧ Inv x_badCalls x_noCalls x_fullCalls stopError stopIndex npp ncolumns ncount nnum gcount gg0pp gg0columns gg0count gg0num gg1pp gg1columns gg1count gg1num gg2pp gg2columns gg2count gg2num gg3pp gg3columns gg3count gg3num gg4pp gg4columns gg4count gg4num x_clength x_cbytes states whyKind whyOrder m_textLong all past m_refused m_text := by
  obtain ⟨hst, hk, c1, c2, c3, k1, k2, t, ht, e1, e2, hb⟩ := hI
  have htx : textRel clength textLong cbytes text := ⟨t, ht, e1, e2, hb⟩
  unfold fX7_type fX8_type
  rw [show fX8_in a0.toInt64 (0 : Int64) (127 : Int64) = fX7_isWithin a0 0 127 from in_wi a0 0 127]
  by_cases g1 : fX7_isWithin a0 0 127 = 0
  · obtain ⟨x, y, z, m, h2, h3, h4⟩ := cnt_a (a := -2) (Or.inl rfl) c1 c2 c3
    rw [if_pos g1, if_pos g1, bd4_t h2, bd2_t h3]
    exact ⟨_, x, y, z, _, _, _, m, _, rfl, rfl, hst, hk, h4.1, h4.2.1, h4.2.2, k1, k2, htx⟩
  · rw [if_neg g1, if_neg g1]
    obtain ⟨v, hv, ev⟩ := wi_of (hi := 127) (by omega) g1
    by_cases g2 : t = 150
    · obtain ⟨x, y, z, m, h2, h3, h4⟩ := cnt_a (a := -4) (Or.inr (Or.inr rfl)) c1 c2 c3
      have q : fX4_append clength cbytes a0 = some (0, clength, cbytes) := by
        unfold fX4_append
        rw [e1, g2, if_neg (by decide), if_neg (by decide)]
      rw [bd3_t q, if_pos rfl, bd4_t h2, if_pos (show textLong = (150 : Int32) by rw [e2, g2]; rfl), bd2_t h3]
      exact ⟨_, x, y, z, _, _, _, m, _, rfl, rfl, hst, hk, h4.1, h4.2.1, h4.2.2, k1, k2, htx⟩
    · have ht2 : t < 150 := by omega
      have q : fX4_append clength cbytes a0 = some (1, nI (t + 1), upd cbytes t (nI v)) := by
        unfold fX4_append
        rw [e1, if_neg (nI_pos (by omega)), if_pos (show nI t < (150 : Int32) from (nI_lt ht2 (by omega) : nI t < nI 150)), gd_t (show vp_in (nI t) 150 from vp_in_nI ht2 (by omega)), nI_clamp (by omega), ev, byte_id hv, nI_1]
      have hne : ¬ textLong = (150 : Int32) := by
        intro h
        have h1 := congrArg Int32.toInt h
        rw [e2, nI_toInt (by omega), show (150 : Int32).toInt = 150 by decide] at h1
        omega
      rw [bd3_t q, if_neg (by decide), if_neg hne, e2, gd_t (vp_in_nI (by omega) (by omega)), nI_clamp (by omega), nI_1, ev]
      refine ⟨_, _, _, _, _, _, _, _, _, rfl, rfl, hst, hk, c1, c2, c3, k1, k2, t + 1, by omega, rfl, rfl, ?_⟩
      intro j hj
      by_cases ej : j = t
      · exact ⟨v, by omega, if_pos ej, if_pos ej⟩
      · obtain ⟨c, hc, h1, h2⟩ := hb j (by omega)
        exact ⟨c, hc, (if_neg ej).trans h1, (if_neg ej).trans h2⟩
