theorem sp_made {badCalls : Int32} {noCalls : Int32} {fullCalls : Int32} {stopError : Int32} {stopIndex : Int32} {npp : Int32} {ncolumns : Int32} {ncount : Int32} {nnum : Nat → Int32} {gcount : Int32} {gg0pp : Int32} {gg0columns : Int32} {gg0count : Int32} {gg0num : Nat → Int32} {gg1pp : Int32} {gg1columns : Int32} {gg1count : Int32} {gg1num : Nat → Int32} {gg2pp : Int32} {gg2columns : Int32} {gg2count : Int32} {gg2num : Nat → Int32} {gg3pp : Int32} {gg3columns : Int32} {gg3count : Int32} {gg3num : Nat → Int32} {gg4pp : Int32} {gg4columns : Int32} {gg4count : Int32} {gg4num : Nat → Int32} {clength : Int32} {cbytes : Nat → Int32} {states : Int32} {whyKind : Int32} {whyOrder : Int32} {textLong : Int32} {all : Nat → Int32} {past : Nat → Int32} {refused : Nat → Int32} {text : Nat → Int32} (vlpp : Int32) (vlcolumns : Int32) (vlcount : Int32) (vlnum : Nat → Int32) (vfpp : Int32) (vfcolumns : Int32) (vfcount : Int32) (vfnum : Nat → Int32) (vstarget : Int32) (vssource : Int32) (vsnumber : Int32) (vspower : Int32) (vszcount : Int32) (vszplaces : Nat → Int32) (vycount : Int32) (vyplaces : Nat → Int32) (many : Int32) (wide : Int32) (work : Nat → Int32) (a0 : Int32) (a1 : Int32) (hI : Inv badCalls noCalls fullCalls stopError stopIndex npp ncolumns ncount nnum gcount gg0pp gg0columns gg0count gg0num gg1pp gg1columns gg1count gg1num gg2pp gg2columns gg2count gg2num gg3pp gg3columns gg3count gg3num gg4pp gg4columns gg4count gg4num clength cbytes states whyKind whyOrder textLong all past refused text) : ∃ (r : Int32) (x_badCalls : Int32) (x_noCalls : Int32) (x_fullCalls : Int32) (x_vlpp : Int32) (x_vlcolumns : Int32) (x_vlcount : Int32) (x_vlnum : Nat → Int32) (x_vfpp : Int32) (x_vfcolumns : Int32) (x_vfcount : Int32) (x_vfnum : Nat → Int32) (x_vstarget : Int32) (x_vssource : Int32) (x_vsnumber : Int32) (x_vspower : Int32) (x_vszcount : Int32) (x_vszplaces : Nat → Int32) (x_vycount : Int32) (x_vyplaces : Nat → Int32) (m_many : Int32) (m_wide : Int32) (m_refused : Nat → Int32) (m_work : Nat → Int32), fX7_made badCalls noCalls fullCalls npp ncolumns ncount nnum vlpp vlcolumns vlcount vlnum vfpp vfcolumns vfcount vfnum vstarget vssource vsnumber vspower vszcount vszplaces vycount vyplaces a0 a1 = some (r, x_badCalls, x_noCalls, x_fullCalls, x_vlpp, x_vlcolumns, x_vlcount, x_vlnum, x_vfpp, x_vfcolumns, x_vfcount, x_vfnum, x_vstarget, x_vssource, x_vsnumber, x_vspower, x_vszcount, x_vszplaces, x_vycount, x_vyplaces) ∧ fX8_made many wide all refused work a0 a1 = some (r, m_many, m_wide, m_refused, m_work) ∧ Inv x_badCalls x_noCalls x_fullCalls stopError stopIndex npp ncolumns ncount nnum gcount gg0pp gg0columns gg0count gg0num gg1pp gg1columns gg1count gg1num gg2pp gg2columns gg2count gg2num gg3pp gg3columns gg3count gg3num gg4pp gg4columns gg4count gg4num clength cbytes states whyKind whyOrder textLong all past m_refused text := by
  obtain ⟨hst, hk, c1, c2, c3, hrest⟩ := hI
  have hst2 := hst
  obtain ⟨p, C, n, hp, hC1, hC, hn, e1, e2, e3, b0, b1, b2, hcell⟩ := hst2
  subst e1 e2 e3
  obtain ⟨V, hV⟩ := stV (by omega) hcell
  obtain ⟨x, y, z, m0, h2, h3, h4⟩ := cnt_a (a := -2) (Or.inl rfl) c1 c2 c3
  unfold fX7_made fX8_made
  rw [bd_t (with_both hn b2)]
  by_cases g1 : fX7_isRowBeside (nI n) a0 a1 = 0
  · rw [if_pos g1, if_pos g1, bd4_t h2, bd2_t h3]
    exact ⟨_, _, _, _, _, _, _, _, _, _, _, _, _, _, _, _, _, _, _, _, _, _, _, _, rfl, rfl, hst, hk, h4.1, h4.2.1, h4.2.2, hrest⟩
  rw [if_neg g1, if_neg g1]
  obtain ⟨i, hi, ei, -, -⟩ := beside_of hn g1
  subst ei
  obtain ⟨K, sel, m, num2, y1, y2, y3, y4, y5, y6, y7, y8, f2, pl2, W2, q1, q2, q3, -, -, hm5, q4, q5, q6, -, -, q7, q8, -, -, -, -, -, -⟩ := rests_both (lnum := vlnum) (fnum := vfnum) (pl := vszplaces) (yp := vyplaces) (work := work) (x1 := vstarget) (x2 := vssource) (x3 := vsnumber) (x4 := vspower) (x5 := vszcount) (x6 := vycount) (a := a1) V (fun _ _ _ _ => True) hp b0 b1 b2 hC hn hi hV (fun _ _ => JC_true) (fun _ _ _ _ _ _ _ => trivial) (fun _ _ _ _ _ => True) (fun _ _ _ _ _ _ _ _ => trivial) (fun _ _ _ _ _ _ _ _ _ _ _ _ _ _ _ _ _ _ _ _ _ => trivial)
  obtain ⟨d, d1, -, d3, d4⟩ := divided_both hC (show m < 6 by omega) q8
  have w2 : fX8_isMade all work (nI i) a1 = some (d, nI m, nI C, W2) := by
    unfold fX8_isMade
    rw [bd3_t q3]
    exact d4 _ _ 0
  rw [bd12_t q1, bd6_t q2, bd_t d3, bd4_t w2]
  rcases d1 with e | e
  · subst e
    rw [if_pos rfl, if_pos rfl]
    exact ⟨_, _, _, _, _, _, _, _, _, _, _, _, _, _, _, _, _, _, _, _, _, _, _, _, rfl, rfl, hst, hk, c1, c2, c3, hrest⟩
  · subst e
    rw [if_neg (by decide), if_neg (by decide)]
    exact ⟨_, _, _, _, _, _, _, _, _, _, _, _, _, _, _, _, _, _, _, _, _, _, _, _, rfl, rfl, hst, hk, c1, c2, c3, hrest⟩
