theorem sp_sets {badCalls : Int32} {noCalls : Int32} {fullCalls : Int32} {stopError : Int32} {stopIndex : Int32} {npp : Int32} {ncolumns : Int32} {ncount : Int32} {nnum : Nat → Int32} {gcount : Int32} {gg0pp : Int32} {gg0columns : Int32} {gg0count : Int32} {gg0num : Nat → Int32} {gg1pp : Int32} {gg1columns : Int32} {gg1count : Int32} {gg1num : Nat → Int32} {gg2pp : Int32} {gg2columns : Int32} {gg2count : Int32} {gg2num : Nat → Int32} {gg3pp : Int32} {gg3columns : Int32} {gg3count : Int32} {gg3num : Nat → Int32} {gg4pp : Int32} {gg4columns : Int32} {gg4count : Int32} {gg4num : Nat → Int32} {clength : Int32} {cbytes : Nat → Int32} {states : Int32} {whyKind : Int32} {whyOrder : Int32} {textLong : Int32} {all : Nat → Int32} {past : Nat → Int32} {refused : Nat → Int32} {text : Nat → Int32} (bpp : Int32) (bcolumns : Int32) (bcount : Int32) (bnum : Nat → Int32) (a0 : Int32) (a1 : Int32) (a2 : Int32) (a3 : Int32) (hI : Inv badCalls noCalls fullCalls stopError stopIndex npp ncolumns ncount nnum gcount gg0pp gg0columns gg0count gg0num gg1pp gg1columns gg1count gg1num gg2pp gg2columns gg2count gg2num gg3pp gg3columns gg3count gg3num gg4pp gg4columns gg4count gg4num clength cbytes states whyKind whyOrder textLong all past refused text) : ∃ (r : Int32) (x_badCalls : Int32) (x_noCalls : Int32) (x_fullCalls : Int32) (x_nnum : Nat → Int32) (x_bpp : Int32) (x_bcolumns : Int32) (x_bcount : Int32) (x_bnum : Nat → Int32) (x_gcount : Int32) (x_gg0pp : Int32) (x_gg0columns : Int32) (x_gg0count : Int32) (x_gg0num : Nat → Int32) (x_gg1pp : Int32) (x_gg1columns : Int32) (x_gg1count : Int32) (x_gg1num : Nat → Int32) (x_gg2pp : Int32) (x_gg2columns : Int32) (x_gg2count : Int32) (x_gg2num : Nat → Int32) (x_gg3pp : Int32) (x_gg3columns : Int32) (x_gg3count : Int32) (x_gg3num : Nat → Int32) (x_gg4pp : Int32) (x_gg4columns : Int32) (x_gg4count : Int32) (x_gg4num : Nat → Int32) (m_states : Int32) (m_all : Nat → Int32) (m_past : Nat → Int32) (m_refused : Nat → Int32), fX7_sets badCalls noCalls fullCalls npp ncolumns ncount nnum bpp bcolumns bcount bnum gcount gg0pp gg0columns gg0count gg0num gg1pp gg1columns gg1count gg1num gg2pp gg2columns gg2count gg2num gg3pp gg3columns gg3count gg3num gg4pp gg4columns gg4count gg4num a0 a1 a2 a3 = some (r, x_badCalls, x_noCalls, x_fullCalls, x_nnum, x_bpp, x_bcolumns, x_bcount, x_bnum, x_gcount, x_gg0pp, x_gg0columns, x_gg0count, x_gg0num, x_gg1pp, x_gg1columns, x_gg1count, x_gg1num, x_gg2pp, x_gg2columns, x_gg2count, x_gg2num, x_gg3pp, x_gg3columns, x_gg3count, x_gg3num, x_gg4pp, x_gg4columns, x_gg4count, x_gg4num) ∧ fX8_sets states all past refused a0 a1 a2 a3 = some (r, m_states, m_all, m_past, m_refused) ∧ Inv x_badCalls x_noCalls x_fullCalls stopError stopIndex npp ncolumns ncount x_nnum x_gcount x_gg0pp x_gg0columns x_gg0count x_gg0num x_gg1pp x_gg1columns x_gg1count x_gg1num x_gg2pp x_gg2columns x_gg2count x_gg2num x_gg3pp x_gg3columns x_gg3count x_gg3num x_gg4pp x_gg4columns x_gg4count x_gg4num clength cbytes m_states whyKind whyOrder textLong m_all m_past m_refused text := by
  obtain ⟨hst, hk, c1, c2, c3, k1, k2, htx⟩ := hI
  have hst2 := hst
  obtain ⟨p, C, n, hp, hC1, hC, hn, e1, e2, e3, b0, b1, b2, hcell⟩ := hst2
  obtain ⟨bn, hb1, hb2⟩ := copy105 bnum nnum npp ncolumns ncount
  have hsb : stRel npp ncolumns ncount bn all := stRel_cong hst hb2 (fun _ _ => rfl)
  subst e1 e2 e3
  obtain ⟨x, y, z, m, h2, h3, h4⟩ := cnt_a (a := -2) (Or.inl rfl) c1 c2 c3
  unfold fX7_sets fX8_sets
  rw [bd_t (X8isRow (by omega) b2)]
  by_cases g1 : fX3_hasRow (nI n) a0 = 0
  · rw [if_pos g1, if_pos g1, bd4_t h2, bd2_t h3]
    exact ⟨_, _, _, _, _, _, _, _, _, _, _, _, _, _, _, _, _, _, _, _, _, _, _, _, _, _, _, _, _, _, _, _, _, _, rfl, rfl, hst, hk, h4.1, h4.2.1, h4.2.2, k1, k2, htx⟩
  · rw [if_neg g1, if_neg g1, bd_t (X8isColumn (by omega) b1), hasCol]
    by_cases g2 : fX3_hasRow (nI C) a1 = 0
    · rw [if_pos g2, if_pos g2, bd4_t h2, bd2_t h3]
      exact ⟨_, _, _, _, _, _, _, _, _, _, _, _, _, _, _, _, _, _, _, _, _, _, _, _, _, _, _, _, _, _, _, _, _, _, rfl, rfl, hst, hk, h4.1, h4.2.1, h4.2.2, k1, k2, htx⟩
    · rw [if_neg g2, if_neg g2, show fX8_in a2.toInt64 (0 : Int64) (6 : Int64) = fX7_isWithin a2 0 (nI 6) from in_wi a2 0 6]
      by_cases g3 : fX7_isWithin a2 0 (nI 6) = 0
      · rw [if_pos (show fX7_isWithin a2 (0 : Int32) (6 : Int32) = 0 from g3), if_pos g3, bd4_t h2, bd2_t h3]
        exact ⟨_, _, _, _, _, _, _, _, _, _, _, _, _, _, _, _, _, _, _, _, _, _, _, _, _, _, _, _, _, _, _, _, _, _, rfl, rfl, hst, hk, h4.1, h4.2.1, h4.2.2, k1, k2, htx⟩
      · rw [if_neg (show ¬ fX7_isWithin a2 (0 : Int32) (6 : Int32) = 0 from g3), if_neg g3]
        obtain ⟨i, hi, ei⟩ := row_of (by omega) g1
        obtain ⟨c, hc, ec⟩ := row_of (by omega) g2
        obtain ⟨k, hk7, ek⟩ := wi_of (by omega) g3
        subst ei ec ek
        obtain ⟨v, hv, v1, v2, v3⟩ := hcell i hi c (by omega) k (by omega)
        have hp0 : 0 < p := by omega
        have q1 : fX3_at 105 (5 : Int32) (3 : Int32) (7 : Int32) nnum (nI i) (nI c) (nI k) = some (nI v) := (X3at_in (L := 105) (R := 5) (w := 3) (q := 7) rfl (by omega) (by omega) (by omega) (by omega) (by omega) (by omega) (by omega)).trans (congrArg some v1)
        obtain ⟨u, hu, u1, u2⟩ := big_mod a3 (p := p) hp0 (by omega)
        have q2 : fX3_put 105 (5 : Int32) (3 : Int32) (7 : Int32) (nI p) nnum (nI i) (nI c) (nI k) a3 = some (upd nnum ((i * 3 + c) * 7 + k) (nI u)) := by
          unfold fX3_put
          rw [if_neg (nI_pos (by omega)), if_neg (show ¬ (5 : Int32) ≤ nI i from (nI_ge (by omega) (by omega) : ¬ nI 5 ≤ nI i)), if_neg (nI_pos (by omega)), if_neg (show ¬ (3 : Int32) ≤ nI c from (nI_ge (by omega) (by omega) : ¬ nI 3 ≤ nI c)), if_neg (nI_pos (by omega)), if_neg (show ¬ (7 : Int32) ≤ nI k from (nI_ge (by omega) (by omega) : ¬ nI 7 ≤ nI k)), bd_t rfl, if_neg (by decide), bd_t u1]
          rw [show (((nI i * (3 : Int32)) + nI c) * (7 : Int32)) + nI k = nI ((i * 3 + c) * 7 + k) by
            show (((nI i * nI 3) + nI c) * nI 7) + nI k = _
            rw [pk_mul, nI_add, pk_mul, nI_add], gd_t (vp_in_nI (by omega) (by omega)), nI_clamp (by omega)]
        obtain ⟨y, y0pp, y0columns, y0count, y1pp, y1columns, y1count, y2pp, y2columns, y2count, y3pp, y3columns, y3count, y4pp, y4columns, y4count, y0num, y1num, y2num, y3num, y4num, st, past2, s1, s2, s3⟩ := settle_k (a := nI v) (bad := badCalls) (no := noCalls) (full := fullCalls) (isErr_nI (by omega)) hk hsb
        rw [bd4_t hb1, bd_t q1, bd_t q2, bd25_t s1, bd2_t s2, X8place, gd_t (vp_in_nI (by omega) (by omega)), bd_t (u2 b0), gd_t (vp_in_nI (by omega) (by omega)), nI_clamp (by omega), v2]
        refine ⟨_, _, _, _, _, _, _, _, _, _, _, _, _, _, _, _, _, _, _, _, _, _, _, _, _, _, _, _, _, _, _, _, _, _, rfl, rfl, ⟨p, C, n, hp, hC1, hC, hn, rfl, rfl, rfl, (pk_un (by omega)).trans b0, (pk_un (by omega)).trans b1, (pk_un (by omega)).trans b2, ?_⟩, s3, c1, c2, c3, k1, k2, htx⟩
        intro i2 hi2 c4 hc4 k4 hk4
        by_cases e : (i2 * 3 + c4) * 7 + k4 = (i * 3 + c) * 7 + k
        · refine ⟨u, hu, by rw [e]; exact pk_us, by rw [show 3 + (i2 * 3 + c4) * 7 + k4 = 3 + (i * 3 + c) * 7 + k by omega]; exact pk_us, fun h => ?_⟩
          omega
        · obtain ⟨w, w0, w1, w2, w3⟩ := hcell i2 hi2 c4 hc4 k4 hk4
          exact ⟨w, w0, (pk_un e).trans w1, (pk_un (by omega)).trans w2, w3⟩
