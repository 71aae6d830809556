theorem sp_form {badCalls : Int32} {noCalls : Int32} {fullCalls : Int32} {stopError : Int32} {stopIndex : Int32} {npp : Int32} {ncolumns : Int32} {ncount : Int32} {nnum : Nat → Int32} {gcount : Int32} {gg0pp : Int32} {gg0columns : Int32} {gg0count : Int32} {gg0num : Nat → Int32} {gg1pp : Int32} {gg1columns : Int32} {gg1count : Int32} {gg1num : Nat → Int32} {gg2pp : Int32} {gg2columns : Int32} {gg2count : Int32} {gg2num : Nat → Int32} {gg3pp : Int32} {gg3columns : Int32} {gg3count : Int32} {gg3num : Nat → Int32} {gg4pp : Int32} {gg4columns : Int32} {gg4count : Int32} {gg4num : Nat → Int32} {clength : Int32} {cbytes : Nat → Int32} {states : Int32} {whyKind : Int32} {whyOrder : Int32} {textLong : Int32} {all : Nat → Int32} {past : Nat → Int32} {refused : Nat → Int32} {text : Nat → Int32} (vlpp : Int32) (vlcolumns : Int32) (vlcount : Int32) (vlnum : Nat → Int32) (vstarget : Int32) (vssource : Int32) (vsnumber : Int32) (vspower : Int32) (vszcount : Int32) (vszplaces : Nat → Int32) (vycount : Int32) (vyplaces : Nat → Int32) (many : Int32) (wide : Int32) (work : Nat → Int32) (a0 : Int32) (a1 : Int32) (a2 : Int32) (a3 : Int32) (hI : Inv badCalls noCalls fullCalls stopError stopIndex npp ncolumns ncount nnum gcount gg0pp gg0columns gg0count gg0num gg1pp gg1columns gg1count gg1num gg2pp gg2columns gg2count gg2num gg3pp gg3columns gg3count gg3num gg4pp gg4columns gg4count gg4num clength cbytes states whyKind whyOrder textLong all past refused text) : ∃ (r : Int32) (x_badCalls : Int32) (x_noCalls : Int32) (x_fullCalls : Int32) (x_vlpp : Int32) (x_vlcolumns : Int32) (x_vlcount : Int32) (x_vlnum : Nat → Int32) (x_vstarget : Int32) (x_vssource : Int32) (x_vsnumber : Int32) (x_vspower : Int32) (x_vszcount : Int32) (x_vszplaces : Nat → Int32) (x_vycount : Int32) (x_vyplaces : Nat → Int32) (m_many : Int32) (m_wide : Int32) (m_refused : Nat → Int32) (m_work : Nat → Int32), fX7_form badCalls noCalls fullCalls npp ncolumns ncount nnum vlpp vlcolumns vlcount vlnum vstarget vssource vsnumber vspower vszcount vszplaces vycount vyplaces a0 a1 a2 a3 = some (r, x_badCalls, x_noCalls, x_fullCalls, x_vlpp, x_vlcolumns, x_vlcount, x_vlnum, x_vstarget, x_vssource, x_vsnumber, x_vspower, x_vszcount, x_vszplaces, x_vycount, x_vyplaces) ∧ fX8_form many wide all refused work a0 a1 a2 a3 = some (r, m_many, m_wide, m_refused, m_work) ∧ Inv x_badCalls x_noCalls x_fullCalls stopError stopIndex npp ncolumns ncount nnum gcount gg0pp gg0columns gg0count gg0num gg1pp gg1columns gg1count gg1num gg2pp gg2columns gg2count gg2num gg3pp gg3columns gg3count gg3num gg4pp gg4columns gg4count gg4num clength cbytes states whyKind whyOrder textLong all past m_refused text := by
  obtain ⟨hst, hk, c1, c2, c3, hrest⟩ := hI
  have hst2 := hst
  obtain ⟨p, C, n, hp, hC1, hC, hn, e1, e2, e3, b0, b1, b2, hcell⟩ := hst2
  subst e1 e2 e3
  obtain ⟨V, hV⟩ := stV (by omega) hcell
  obtain ⟨x, y, z, m0, h2, h3, h4⟩ := cnt_a (a := -2) (Or.inl rfl) c1 c2 c3
  unfold fX7_form fX8_form
  have hj2 : (if a2 = (-1 : Int32) then (some (1 : Int32)) else (some (6 : Int32))) = some (if a2 = (-1 : Int32) then (1 : Int32) else (6 : Int32)) := by split <;> rfl
  have hj6 : (if a2 = (-1 : Int32) then (some (1 : Int32)) else (if (fX3_hasColumn (nI C) a2) = 0 then (some (0 : Int32)) else (some (1 : Int32)))) = some (if a2 = (-1 : Int32) then (1 : Int32) else if fX3_hasColumn (nI C) a2 = 0 then (0 : Int32) else (1 : Int32)) := by
    split
    · rfl
    · split <;> rfl
  rw [bd_t hj2, bd_t hj6]
  -- the reference's own question
  have hj10 : (if a2 = (-1 : Int32) then (some (fX8_in (a3.toInt64) (0 : Int64) (1 : Int64))) else (bd (fX8_isColumn all a2) (fun (r_2 : Int32) => if r_2 = 0 then (some (0 : Int32)) else (if (fX8_in (a3.toInt64) (0 : Int64) (6 : Int64)) = 0 then (some (0 : Int32)) else (some (1 : Int32)))))) = some (if a2 = (-1 : Int32) then fX7_isWithin a3 0 1 else if fX3_hasRow (nI C) a2 = 0 then (0 : Int32) else if fX7_isWithin a3 0 6 = 0 then (0 : Int32) else (1 : Int32)) := by
    rw [show fX8_in a3.toInt64 (0 : Int64) (1 : Int64) = fX7_isWithin a3 0 1 from in_wi a3 0 1, show fX8_in a3.toInt64 (0 : Int64) (6 : Int64) = fX7_isWithin a3 0 6 from in_wi a3 0 6]
    by_cases hz : a2 = (-1 : Int32)
    · rw [if_pos hz, if_pos hz]
    · rw [if_neg hz, if_neg hz, bd_t (X8isColumn (by omega) b1)]
      by_cases hz2 : fX3_hasRow (nI C) a2 = 0
      · rw [if_pos hz2, if_pos hz2]
      · rw [if_neg hz2, if_neg hz2]
        by_cases hz3 : fX7_isWithin a3 0 6 = 0
        · rw [if_pos hz3, if_pos hz3]
        · rw [if_neg hz3, if_neg hz3]
  rw [bd_t hj10, bd_t (set_both hn b2), hasCol]
  by_cases g1 : fX3_hasSet (nI n) a0 = 0
  · rw [if_pos g1, if_pos g1, bd4_t h2, bd2_t h3]
    exact ⟨_, _, _, _, _, _, _, _, _, _, _, _, _, _, _, _, _, _, _, _, rfl, rfl, hst, hk, h4.1, h4.2.1, h4.2.2, hrest⟩
  rw [if_neg g1, if_neg g1]
  by_cases g2 : a1 < 0
  · rw [if_pos g2, if_pos g2, bd4_t h2, bd2_t h3]
    exact ⟨_, _, _, _, _, _, _, _, _, _, _, _, _, _, _, _, _, _, _, _, rfl, rfl, hst, hk, h4.1, h4.2.1, h4.2.2, hrest⟩
  rw [if_neg g2, if_neg g2]
  by_cases hbad : (if a2 = (-1 : Int32) then fX7_isWithin a3 0 1 else if fX3_hasRow (nI C) a2 = 0 then (0 : Int32) else if fX7_isWithin a3 0 6 = 0 then (0 : Int32) else (1 : Int32)) = 0
  · rw [if_pos hbad, bd2_t h3]
    by_cases hz : a2 = (-1 : Int32)
    · rw [if_pos hz] at hbad
      rw [if_pos hz, if_pos hz, if_neg (by decide), if_pos hbad, bd4_t h2]
      exact ⟨_, _, _, _, _, _, _, _, _, _, _, _, _, _, _, _, _, _, _, _, rfl, rfl, hst, hk, h4.1, h4.2.1, h4.2.2, hrest⟩
    · rw [if_neg hz] at hbad
      rw [if_neg hz, if_neg hz]
      by_cases hz2 : fX3_hasRow (nI C) a2 = 0
      · rw [if_pos hz2, if_pos rfl, bd4_t h2]
        exact ⟨_, _, _, _, _, _, _, _, _, _, _, _, _, _, _, _, _, _, _, _, rfl, rfl, hst, hk, h4.1, h4.2.1, h4.2.2, hrest⟩
      · rw [if_neg hz2] at hbad
        rw [if_neg hz2, if_neg (by decide)]
        have hz3 : fX7_isWithin a3 0 6 = 0 := by
          apply Classical.byContradiction
          intro hz3
          rw [if_neg hz3] at hbad
          exact absurd hbad (by decide)
        rw [if_pos hz3, bd4_t h2]
        exact ⟨_, _, _, _, _, _, _, _, _, _, _, _, _, _, _, _, _, _, _, _, rfl, rfl, hst, hk, h4.1, h4.2.1, h4.2.2, hrest⟩
  rw [if_neg hbad]
  have hgood : ¬ (if a2 = (-1 : Int32) then (1 : Int32) else if fX3_hasRow (nI C) a2 = 0 then (0 : Int32) else (1 : Int32)) = 0 ∧ ¬ fX7_isWithin a3 0 (if a2 = (-1 : Int32) then (1 : Int32) else (6 : Int32)) = 0 := by
    by_cases hz : a2 = (-1 : Int32)
    · rw [if_pos hz] at hbad
      rw [if_pos hz, if_pos hz]
      exact ⟨by decide, hbad⟩
    · rw [if_neg hz] at hbad
      rw [if_neg hz, if_neg hz]
      by_cases hz2 : fX3_hasRow (nI C) a2 = 0
      · rw [if_pos hz2] at hbad
        exact absurd rfl hbad
      · rw [if_neg hz2] at hbad
        rw [if_neg hz2]
        refine ⟨by decide, fun hz3 => ?_⟩
        rw [if_pos hz3] at hbad
        exact hbad rfl
  rw [if_neg hgood.1, if_neg hgood.2]
  obtain ⟨K, sel, m, num2, W2, y1, y2, y3, y4, y5, y6, y7, y8, f1, f2, -, -, hm5, f5, f6, f7, -, f9, f10, f11, f12, f13, f14, f15, f16, f17⟩ := forms_both (lnum := vlnum) (pl := vszplaces) (yp := vyplaces) (work := work) (x1 := vstarget) (x2 := vssource) (x3 := vsnumber) (x4 := vspower) (x5 := vszcount) (x6 := vycount) (a := a0) V (fun _ _ _ _ => True) hp b0 b1 b2 hC hn hV (fun _ _ => JC_true) (fun _ _ _ _ _ _ _ => trivial)
  rw [bd12_t f1]
  have hlow : a1.toInt ≥ 0 := by
    rw [Int32.lt_iff_toInt_lt, show (0 : Int32).toInt = 0 from rfl] at g2
    omega
  have hrow : fX3_hasRow (nI m) a1 = 0 ↔ ¬ a1 < nI m := by
    unfold fX3_hasRow
    rw [if_neg g2]
    rw [Int32.lt_iff_toInt_lt]
    by_cases h : nI m ≤ a1
    · rw [if_pos h]
      rw [Int32.le_iff_toInt_le] at h
      exact ⟨fun _ => by omega, fun _ => rfl⟩
    · rw [if_neg h]
      rw [Int32.le_iff_toInt_le] at h
      exact ⟨fun z => absurd z (by decide), fun z => absurd (by omega) z⟩
  by_cases hr : a1 < nI m
  · have hr2 : ¬ fX3_hasRow (nI m) a1 = 0 := fun z => (hrow.mp z) hr
    obtain ⟨i, hi, ei⟩ := row_of (by omega) hr2
    subst ei
    rw [if_neg hr2]
    by_cases hz : a2 = (-1 : Int32)
    · rw [if_pos hz]
      by_cases hk0 : a3 = 0
      · have q : fX8_formOf all work a0 (nI i) a2 a3 = some (pv (pw (P8 num2 C i)), nI m, nI C, W2) := by
          unfold fX8_formOf
          rw [bd3_t f2, if_pos hr, if_pos hz, if_pos hk0, bd_t (X8wDeg (show i < 6 by omega) hC), ← (f9 i hi).1]
        rw [if_pos hk0, bd_t (deg8 hC (by omega)), bd4_t q]
        exact ⟨_, _, _, _, _, _, _, _, _, _, _, _, _, _, _, _, _, _, _, _, rfl, rfl, hst, hk, c1, c2, c3, hrest⟩
      · have q : fX8_formOf all work a0 (nI i) a2 a3 = some (pv (cp (P8 num2 C i)), nI m, nI C, W2) := by
          unfold fX8_formOf
          rw [bd3_t f2, if_pos hr, if_pos hz, if_neg hk0, bd_t (X8wPiv (show i < 6 by omega) hC), ← (f9 i hi).1]
        rw [if_neg hk0, bd_t (piv8 hC (by omega)), bd4_t q]
        exact ⟨_, _, _, _, _, _, _, _, _, _, _, _, _, _, _, _, _, _, _, _, rfl, rfl, hst, hk, c1, c2, c3, hrest⟩
    · rw [if_neg hz]
      rw [if_neg hz, if_neg hz] at hgood
      have hz2 : ¬ fX3_hasRow (nI C) a2 = 0 := fun z => hgood.1 (if_pos z)
      obtain ⟨c, hc, ec⟩ := row_of (by omega) hz2
      obtain ⟨k, hk6, ek⟩ := wi_of (hi := 6) (by omega) hgood.2
      subst ec ek
      have q : fX8_formOf all work a0 (nI i) (nI c) (nI k) = some (W2 (24 * i + 8 * c + k), nI m, nI C, W2) := by
        unfold fX8_formOf
        rw [bd3_t f2, if_pos hr, if_neg hz, X8cell, gd_t (vp_in_nI (by omega) (by omega)), nI_clamp (by omega)]
      have q2 : fX3_at 1000 (5 : Int32) (8 : Int32) (25 : Int32) num2 (nI i) (nI c) (nI k) = some (W2 (24 * i + 8 * c + k)) := (X3at_in (L := 1000) (R := 5) (w := 8) (q := 25) rfl (by omega) (by omega) (by omega) (by omega) (by omega) (by omega) (by omega)).trans (congrArg some (f10 i c k hi hc (by omega)))
      rw [bd_t q2, bd4_t q]
      exact ⟨_, _, _, _, _, _, _, _, _, _, _, _, _, _, _, _, _, _, _, _, rfl, rfl, hst, hk, c1, c2, c3, hrest⟩
  · have q : fX8_formOf all work a0 a1 a2 a3 = some (-5, nI m, nI C, W2) := by
      unfold fX8_formOf
      rw [bd3_t f2, if_neg hr]
    rw [if_pos (hrow.mpr hr), bd4_t q]
    exact ⟨_, _, _, _, _, _, _, _, _, _, _, _, _, _, _, _, _, _, _, _, rfl, rfl, hst, hk, c1, c2, c3, hrest⟩
