theorem sp_quotient {badCalls : Int32} {noCalls : Int32} {fullCalls : Int32} {stopError : Int32} {stopIndex : Int32} {npp : Int32} {ncolumns : Int32} {ncount : Int32} {nnum : Nat → Int32} {gcount : Int32} {gg0pp : Int32} {gg0columns : Int32} {gg0count : Int32} {gg0num : Nat → Int32} {gg1pp : Int32} {gg1columns : Int32} {gg1count : Int32} {gg1num : Nat → Int32} {gg2pp : Int32} {gg2columns : Int32} {gg2count : Int32} {gg2num : Nat → Int32} {gg3pp : Int32} {gg3columns : Int32} {gg3count : Int32} {gg3num : Nat → Int32} {gg4pp : Int32} {gg4columns : Int32} {gg4count : Int32} {gg4num : Nat → Int32} {clength : Int32} {cbytes : Nat → Int32} {states : Int32} {whyKind : Int32} {whyOrder : Int32} {textLong : Int32} {all : Nat → Int32} {past : Nat → Int32} {refused : Nat → Int32} {text : Nat → Int32} (vlpp : Int32) (vlcolumns : Int32) (vlcount : Int32) (vlnum : Nat → Int32) (vstarget : Int32) (vssource : Int32) (vsnumber : Int32) (vspower : Int32) (vszcount : Int32) (vszplaces : Nat → Int32) (vycount : Int32) (vyplaces : Nat → Int32) (many : Int32) (wide : Int32) (work : Nat → Int32) (a0 : Int32) (a1 : Int32) (a2 : Int32) (a3 : Int32) (a4 : Int32) (hI : Inv badCalls noCalls fullCalls stopError stopIndex npp ncolumns ncount nnum gcount gg0pp gg0columns gg0count gg0num gg1pp gg1columns gg1count gg1num gg2pp gg2columns gg2count gg2num gg3pp gg3columns gg3count gg3num gg4pp gg4columns gg4count gg4num clength cbytes states whyKind whyOrder textLong all past refused text) : ∃ (r : Int32) (x_badCalls : Int32) (x_noCalls : Int32) (x_fullCalls : Int32) (x_vlpp : Int32) (x_vlcolumns : Int32) (x_vlcount : Int32) (x_vlnum : Nat → Int32) (x_vstarget : Int32) (x_vssource : Int32) (x_vsnumber : Int32) (x_vspower : Int32) (x_vszcount : Int32) (x_vszplaces : Nat → Int32) (x_vycount : Int32) (x_vyplaces : Nat → Int32) (m_many : Int32) (m_wide : Int32) (m_refused : Nat → Int32) (m_work : Nat → Int32), fX7_quotient badCalls noCalls fullCalls npp ncolumns ncount nnum vlpp vlcolumns vlcount vlnum vstarget vssource vsnumber vspower vszcount vszplaces vycount vyplaces a0 a1 a2 a3 a4 = some (r, x_badCalls, x_noCalls, x_fullCalls, x_vlpp, x_vlcolumns, x_vlcount, x_vlnum, x_vstarget, x_vssource, x_vsnumber, x_vspower, x_vszcount, x_vszplaces, x_vycount, x_vyplaces) ∧ fX8_quotient many wide all refused work a0 a1 a2 a3 a4 = some (r, m_many, m_wide, m_refused, m_work) ∧ Inv x_badCalls x_noCalls x_fullCalls stopError stopIndex npp ncolumns ncount nnum gcount gg0pp gg0columns gg0count gg0num gg1pp gg1columns gg1count gg1num gg2pp gg2columns gg2count gg2num gg3pp gg3columns gg3count gg3num gg4pp gg4columns gg4count gg4num clength cbytes states whyKind whyOrder textLong all past m_refused text := by
  obtain ⟨hst, hk, c1, c2, c3, hrest⟩ := hI
  have hst2 := hst
  obtain ⟨p, C, n, hp, hC1, hC, hn, e1, e2, e3, b0, b1, b2, hcell⟩ := hst2
  subst e1 e2 e3
  obtain ⟨V, hV⟩ := stV (by omega) hcell
  obtain ⟨x, y, z, m0, h2, h3, h4⟩ := cnt_a (a := -2) (Or.inl rfl) c1 c2 c3
  have hp0 : 0 < p := by omega
  unfold fX7_quotient fX8_quotient
  rw [bd_t (X8isRow (by omega) b2), hasCol]
  rw [show fX8_in a2.toInt64 (1 : Int64) (7 : Int64) = fX7_isWithin a2 1 7 from in_wi a2 1 7, show fX8_in a3.toInt64 (0 : Int64) (1 : Int64) = fX7_isWithin a3 0 1 from in_wi a3 0 1, show fX8_in a4.toInt64 (0 : Int64) (7 : Int64) = fX7_isWithin a4 0 7 from in_wi a4 0 7]
  by_cases g1 : fX3_hasRow (nI n) a0 = 0
  · rw [if_pos g1, if_pos g1, bd4_t h2, bd_t rfl, if_pos rfl, bd2_t h3]
    exact ⟨_, _, _, _, _, _, _, _, _, _, _, _, _, _, _, _, _, _, _, _, rfl, rfl, hst, hk, h4.1, h4.2.1, h4.2.2, hrest⟩
  rw [if_neg g1, if_neg g1, bd_t (X8isColumn (by omega) b1)]
  by_cases g2 : fX3_hasRow (nI C) a1 = 0
  · rw [if_pos g2, if_pos g2, bd4_t h2, bd_t rfl, if_pos rfl, bd2_t h3]
    exact ⟨_, _, _, _, _, _, _, _, _, _, _, _, _, _, _, _, _, _, _, _, rfl, rfl, hst, hk, h4.1, h4.2.1, h4.2.2, hrest⟩
  rw [if_neg g2, if_neg g2]
  by_cases g3 : fX7_isWithin a2 1 7 = 0
  · rw [if_pos g3, if_pos g3, bd4_t h2, bd_t rfl, if_pos rfl, bd2_t h3]
    exact ⟨_, _, _, _, _, _, _, _, _, _, _, _, _, _, _, _, _, _, _, _, rfl, rfl, hst, hk, h4.1, h4.2.1, h4.2.2, hrest⟩
  rw [if_neg g3, if_neg g3]
  by_cases g4 : fX7_isWithin a3 0 1 = 0
  · rw [if_pos g4, if_pos g4, bd4_t h2, bd_t rfl, if_pos rfl, bd2_t h3]
    exact ⟨_, _, _, _, _, _, _, _, _, _, _, _, _, _, _, _, _, _, _, _, rfl, rfl, hst, hk, h4.1, h4.2.1, h4.2.2, hrest⟩
  rw [if_neg g4, if_neg g4, bd_t rfl, if_neg (show ¬ (1 : Int32) = 0 by decide)]
  by_cases g5 : fX7_isWithin a4 0 7 = 0
  · rw [if_pos g5, if_pos g5, bd4_t h2, bd2_t h3]
    exact ⟨_, _, _, _, _, _, _, _, _, _, _, _, _, _, _, _, _, _, _, _, rfl, rfl, hst, hk, h4.1, h4.2.1, h4.2.2, hrest⟩
  rw [if_neg g5, if_neg g5]
  obtain ⟨i, hi, ei⟩ := row_of (by omega) g1
  obtain ⟨c, hc, ec⟩ := row_of (by omega) g2
  obtain ⟨N, hN1, hN, eN⟩ := wi_of2 (lo := 1) (hi := 7) (by omega) (by omega) g3
  obtain ⟨w, hw, ew⟩ := wi_of (hi := 1) (by omega) g4
  obtain ⟨k, hk7, ek⟩ := wi_of (hi := 7) (by omega) g5
  subst ei ec eN ew ek
  obtain ⟨m, num2, y1, y2, y3, y4, y5, y6, y7, y8, f1, f2, f3, f4, f5, f6, f7⟩ := buildPade8 (lnum := vlnum) (pl := vszplaces) (yp := vyplaces) (x1 := vstarget) (x2 := vssource) (x3 := vsnumber) (x4 := vspower) (x5 := vszcount) (x6 := vycount) (i := i) (c := c) (N := N) V hp hn hi (by omega) hN (fun i c k hi hc hk => ⟨(hV i c k hi hc hk).1, (hV i c k hi hc hk).2.1⟩)
  obtain ⟨m', W2, q2, q3, q4, q5, q6, q7⟩ := X8pade (A := all) (W := work) (i := i) (c := c) (N := N) V hp b0 hn hi (by omega) hN (fun i c k hi hc hk => ⟨(hV i c k hi hc hk).1, (hV i c k hi hc hk).2.2.1⟩)
  obtain ⟨em, hrows⟩ := popv_uniq (show 1 < p by omega) f7 q6 (SameM_t (SameM_s f5) q4)
  subst em
  have hm0 : 0 < m := by
    apply Classical.byContradiction
    intro h0
    have e0 : m = 0 := by omega
    subst e0
    have h1 := Span_nil (f5.1 1 (by omega)) 1 (by omega) 0
    have e1 : pdR V i c N 1 1 0 = 1 := rfl
    rw [e1] at h1
    unfold r0 at h1
    exact not_dvd1 (p := p) (x := 1) (by omega) ⟨0, by omega⟩ (by rw [Int.sub_zero] at h1; exact h1)
  have hcl : num2 ((0 * 8 + w) * 25 + k) = W2 (24 * 0 + 8 * w + k) := by
    obtain ⟨v, v1, v2⟩ := f3 0 w k hm0 (by omega) (by omega)
    obtain ⟨u, u1, u2, -⟩ := q3 0 w k hm0 (by omega) (by omega)
    have h := (hrows 0 hm0).2 w (by omega) k
    unfold rw8 at h
    rw [if_pos (by omega), if_pos (by omega), cl8_emb (by omega) (by omega) (by omega) u2] at h
    unfold cl8 at h
    rw [v2, nI_toInt (by omega)] at h
    rw [v2, u2, small_eq v1 u1 h]
  have w1 : fX3_at 1000 (5 : Int32) (8 : Int32) (25 : Int32) num2 (0 : Int32) (nI w) (nI k) = some (W2 (24 * 0 + 8 * w + k)) := (X3at_in (L := 1000) (R := 5) (w := 8) (q := 25) (i := 0) rfl (by omega) (by omega) (by omega) (by omega) (by omega) (by omega) (by omega)).trans (congrArg some hcl)
  rw [bd12_t f1, bd_t w1, bd4_t (q7 w k (by omega) (by omega))]
  exact ⟨_, _, _, _, _, _, _, _, _, _, _, _, _, _, _, _, _, _, _, _, rfl, rfl, hst, hk, c1, c2, c3, hrest⟩
