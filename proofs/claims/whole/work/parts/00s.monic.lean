theorem sp_monic {badCalls : Int32} {noCalls : Int32} {fullCalls : Int32} {stopError : Int32} {stopIndex : Int32} {npp : Int32} {ncolumns : Int32} {ncount : Int32} {nnum : Nat → Int32} {gcount : Int32} {gg0pp : Int32} {gg0columns : Int32} {gg0count : Int32} {gg0num : Nat → Int32} {gg1pp : Int32} {gg1columns : Int32} {gg1count : Int32} {gg1num : Nat → Int32} {gg2pp : Int32} {gg2columns : Int32} {gg2count : Int32} {gg2num : Nat → Int32} {gg3pp : Int32} {gg3columns : Int32} {gg3count : Int32} {gg3num : Nat → Int32} {gg4pp : Int32} {gg4columns : Int32} {gg4count : Int32} {gg4num : Nat → Int32} {clength : Int32} {cbytes : Nat → Int32} {states : Int32} {whyKind : Int32} {whyOrder : Int32} {textLong : Int32} {all : Nat → Int32} {past : Nat → Int32} {refused : Nat → Int32} {text : Nat → Int32} (bnum : Nat → Int32) (a0 : Int32) (hI : Inv badCalls noCalls fullCalls stopError stopIndex npp ncolumns ncount nnum gcount gg0pp gg0columns gg0count gg0num gg1pp gg1columns gg1count gg1num gg2pp gg2columns gg2count gg2num gg3pp gg3columns gg3count gg3num gg4pp gg4columns gg4count gg4num clength cbytes states whyKind whyOrder textLong all past refused text) : ∃ (r : Int32) (x_badCalls : Int32) (x_noCalls : Int32) (x_fullCalls : Int32) (x_nnum : Nat → Int32) (x_bpp : Int32) (x_bcolumns : Int32) (x_bcount : Int32) (x_bnum : Nat → Int32) (x_gcount : Int32) (x_gg0pp : Int32) (x_gg0columns : Int32) (x_gg0count : Int32) (x_gg0num : Nat → Int32) (x_gg1pp : Int32) (x_gg1columns : Int32) (x_gg1count : Int32) (x_gg1num : Nat → Int32) (x_gg2pp : Int32) (x_gg2columns : Int32) (x_gg2count : Int32) (x_gg2num : Nat → Int32) (x_gg3pp : Int32) (x_gg3columns : Int32) (x_gg3count : Int32) (x_gg3num : Nat → Int32) (x_gg4pp : Int32) (x_gg4columns : Int32) (x_gg4count : Int32) (x_gg4num : Nat → Int32) (m_states : Int32) (m_all : Nat → Int32) (m_past : Nat → Int32) (m_refused : Nat → Int32), fX7_monic badCalls noCalls fullCalls npp ncolumns ncount nnum bnum gcount gg0pp gg0columns gg0count gg0num gg1pp gg1columns gg1count gg1num gg2pp gg2columns gg2count gg2num gg3pp gg3columns gg3count gg3num gg4pp gg4columns gg4count gg4num a0 = some (r, x_badCalls, x_noCalls, x_fullCalls, x_nnum, x_bpp, x_bcolumns, x_bcount, x_bnum, x_gcount, x_gg0pp, x_gg0columns, x_gg0count, x_gg0num, x_gg1pp, x_gg1columns, x_gg1count, x_gg1num, x_gg2pp, x_gg2columns, x_gg2count, x_gg2num, x_gg3pp, x_gg3columns, x_gg3count, x_gg3num, x_gg4pp, x_gg4columns, x_gg4count, x_gg4num) ∧ fX8_monic states all past refused a0 = some (r, m_states, m_all, m_past, m_refused) ∧ Inv x_badCalls x_noCalls x_fullCalls stopError stopIndex npp ncolumns ncount x_nnum x_gcount x_gg0pp x_gg0columns x_gg0count x_gg0num x_gg1pp x_gg1columns x_gg1count x_gg1num x_gg2pp x_gg2columns x_gg2count x_gg2num x_gg3pp x_gg3columns x_gg3count x_gg3num x_gg4pp x_gg4columns x_gg4count x_gg4num clength cbytes m_states whyKind whyOrder textLong m_all m_past m_refused text := by
  obtain ⟨hst, hk, c1, c2, c3, k1, k2, htx⟩ := hI
  have hst2 := hst
  obtain ⟨p, C, n, hp, hC1, hC, hn, e1, e2, e3, b0, b1, b2, hcell⟩ := hst2
  obtain ⟨bn, hb1, hb2⟩ := copy105 bnum nnum npp ncolumns ncount
  have hsb : stRel npp ncolumns ncount bn all := stRel_cong hst hb2 (fun _ _ => rfl)
  subst e1 e2 e3
  obtain ⟨V, hV⟩ := stV (by omega) hcell
  by_cases hbad : ∃ a : Int32, (a = -2 ∨ a = -3 ∨ a = -4) ∧ fX7_makeMonic (nI p) (nI C) (nI n) nnum a0 = some (a, nnum) ∧ fX8_canMonic all a0 = some a
  · obtain ⟨a, ha, q1, q2⟩ := hbad
    obtain ⟨x, y, z, m, s1, s2, s3, s4, s5⟩ := settle_e (a := a) (bpp := nI p) (bcolumns := nI C) (bcount := nI n) (bnum := bn) (gcount := gcount) (g0pp := gg0pp) (g0columns := gg0columns) (g0count := gg0count) (g0num := gg0num) (g1pp := gg1pp) (g1columns := gg1columns) (g1count := gg1count) (g1num := gg1num) (g2pp := gg2pp) (g2columns := gg2columns) (g2count := gg2count) (g2num := gg2num) (g3pp := gg3pp) (g3columns := gg3columns) (g3count := gg3count) (g3num := gg3num) (g4pp := gg4pp) (g4columns := gg4columns) (g4count := gg4count) (g4num := gg4num) ha c1 c2 c3
    unfold fX7_monic fX8_monic
    have hneg : ¬ 0 ≤ a := by rcases ha with e | e | e <;> subst e <;> decide
    rw [bd4_t hb1, bd2_t q1, bd25_t s1, bd_t q2, if_neg hneg, bd2_t s2]
    exact ⟨_, _, _, _, _, _, _, _, _, _, _, _, _, _, _, _, _, _, _, _, _, _, _, _, _, _, _, _, _, _, _, _, _, _, rfl, rfl, hst, hk, s3, s4, s5, k1, k2, htx⟩
  by_cases hq : fX3_hasRow (nI n) a0 = 0
  · refine absurd ⟨-2, Or.inl rfl, ?_, ?_⟩ hbad
    · unfold fX7_makeMonic
      rw [if_pos hq]
    · unfold fX8_canMonic
      rw [bd_t (X8isRow (by omega) b2), if_pos hq]
  · obtain ⟨i, hi, ei⟩ := row_of (by omega) hq
    subst ei
    obtain ⟨hP, v, hv, hv0, hvm, l1, l2⟩ := lead_both (by omega) hC hn b1 hV hi (by omega)
    by_cases hz : v = 0
    · refine absurd ⟨-3, Or.inr (Or.inl rfl), ?_, ?_⟩ hbad
      · unfold fX7_makeMonic
        rw [if_neg hq, bd_t l1, if_pos (by rw [hz]; rfl)]
      · unfold fX8_canMonic
        rw [bd_t (X8isRow (by omega) b2), if_neg hq, bd_t l2, if_pos (by rw [hz]; rfl)]
    · have hvn : ¬ nI v = 0 := nI_ne0 (by omega) (by omega)
      obtain ⟨u, hu, hue⟩ := X7inv hp (show 0 < v by omega) hv
      obtain ⟨u2, hu2, hue2⟩ := X8inverse b0 hp (show 0 < v by omega) hv
      have eu := inv_uniq hp hu2 hu
      subst eu
      have hu7 : u2 < 7 := by have := hu.2.1; omega
      obtain ⟨num2, g1, g2⟩ := X3scale (L := 105) (R := 5) (w := 3) (q := 7) (i := i) (p := p) (t := u2) (num := nnum) rfl (by omega) (by omega) (by omega) (by omega) (by omega) (by omega) (by omega) (by omega) (fun c k hc hk => ⟨V i c k, by have := (hV i c k hi hc hk).1; omega, (hV i c k hi hc hk).2.1⟩)
      have q1 : fX7_makeMonic (nI p) (nI C) (nI n) nnum (nI i) = some (nI v, num2) := by
        unfold fX7_makeMonic
        rw [if_neg hq, bd_t l1, if_neg hvn, bd_t hue, bd_t (show fX3_scale 105 (5 : Int32) (3 : Int32) (7 : Int32) (nI p) nnum (nI i) (nI u2) = some num2 from g1)]
      have q2 : fX8_canMonic all (nI i) = some 0 := by
        unfold fX8_canMonic
        rw [bd_t (X8isRow (by omega) b2), if_neg hq, bd_t l2, if_neg hvn]
      obtain ⟨A, m1, m2, m3⟩ := X8monicLoop (A := all) (p := p) (i := i) (u := u2) b0 (by omega) (by omega) (by omega) (by omega) (fun k hk => ⟨V i (k / 7) (k % 7), by have := (hV i (k / 7) (k % 7) hi (by omega) (by omega)).1; omega, by
        have := (hV i (k / 7) (k % 7) hi (by omega) (by omega)).2.2.1
        rw [show 3 + i * 21 + k = 3 + (i * 3 + k / 7) * 7 + k % 7 by omega]
        exact this⟩)
      have q3 : fX8_monicNow all (nI i) = some (nI v, A) := by
        unfold fX8_monicNow
        rw [bd_t l2, bd_t hue2]
        exact bd_t m1
      obtain ⟨y, y0pp, y0columns, y0count, y1pp, y1columns, y1count, y2pp, y2columns, y2count, y3pp, y3columns, y3count, y4pp, y4columns, y4count, y0num, y1num, y2num, y3num, y4num, st, past2, s1, s2, s3⟩ := settle_k (a := nI v) (bad := badCalls) (no := noCalls) (full := fullCalls) (isErr_nI (by omega)) hk hsb
      unfold fX7_monic fX8_monic
      rw [bd4_t hb1, bd2_t q1, bd25_t s1, bd_t q2, if_pos (by decide), bd2_t s2, bd2_t q3]
      refine ⟨_, _, _, _, _, _, _, _, _, _, _, _, _, _, _, _, _, _, _, _, _, _, _, _, _, _, _, _, _, _, _, _, _, _, rfl, rfl, ⟨p, C, n, hp, hC1, hC, hn, rfl, rfl, rfl, (m3 0 (by omega)).trans b0, (m3 1 (by omega)).trans b1, (m3 2 (by omega)).trans b2, ?_⟩, s3, c1, c2, c3, k1, k2, htx⟩
      intro a ha c hc k hk
      obtain ⟨v1, v2, v3, v4⟩ := hV a c k ha hc hk
      by_cases e : a = i
      · subst e
        have w := m2 (c * 7 + k) (by omega)
        rw [show 3 + a * 21 + (c * 7 + k) = 3 + (a * 3 + c) * 7 + k by omega, v3] at w
        refine ⟨md ((u2 : Int) * (nI (V a c k)).toInt) p, md_lt (by omega), ?_, w, fun h => ?_⟩
        · rw [g2 a c k hc hk, if_pos rfl, v2]
        · rw [v4 h, show (nI 0).toInt = 0 from rfl, Int.mul_zero]
          exact md_small (n := 0) (by omega)
      · refine ⟨V a c k, v1, ?_, ?_, v4⟩
        · rw [g2 a c k hc hk, if_neg e, v2]
        · rw [m3 _ (by omega)]
          exact v3
