theorem sp_factor {badCalls : Int32} {noCalls : Int32} {fullCalls : Int32} {stopError : Int32} {stopIndex : Int32} {npp : Int32} {ncolumns : Int32} {ncount : Int32} {nnum : Nat → Int32} {gcount : Int32} {gg0pp : Int32} {gg0columns : Int32} {gg0count : Int32} {gg0num : Nat → Int32} {gg1pp : Int32} {gg1columns : Int32} {gg1count : Int32} {gg1num : Nat → Int32} {gg2pp : Int32} {gg2columns : Int32} {gg2count : Int32} {gg2num : Nat → Int32} {gg3pp : Int32} {gg3columns : Int32} {gg3count : Int32} {gg3num : Nat → Int32} {gg4pp : Int32} {gg4columns : Int32} {gg4count : Int32} {gg4num : Nat → Int32} {clength : Int32} {cbytes : Nat → Int32} {states : Int32} {whyKind : Int32} {whyOrder : Int32} {textLong : Int32} {all : Nat → Int32} {past : Nat → Int32} {refused : Nat → Int32} {text : Nat → Int32} (vlpp : Int32) (vlcolumns : Int32) (vlcount : Int32) (vlnum : Nat → Int32) (vfpp : Int32) (vfcolumns : Int32) (vfcount : Int32) (vfnum : Nat → Int32) (vstarget : Int32) (vssource : Int32) (vsnumber : Int32) (vspower : Int32) (vszcount : Int32) (vszplaces : Nat → Int32) (vycount : Int32) (vyplaces : Nat → Int32) (many : Int32) (wide : Int32) (work : Nat → Int32) (chosen : Nat → Int32) (across : Nat → Int32) (sum : Nat → Int32) (one : Nat → Int32) (two : Nat → Int32) (base : Nat → Int32) (quotients : Nat → Int32) (a0 : Int32) (a1 : Int32) (a2 : Int32) (a3 : Int32) (hI : Inv badCalls noCalls fullCalls stopError stopIndex npp ncolumns ncount nnum gcount gg0pp gg0columns gg0count gg0num gg1pp gg1columns gg1count gg1num gg2pp gg2columns gg2count gg2num gg3pp gg3columns gg3count gg3num gg4pp gg4columns gg4count gg4num clength cbytes states whyKind whyOrder textLong all past refused text) : ∃ (r : Int32) (x_badCalls : Int32) (x_noCalls : Int32) (x_fullCalls : Int32) (x_vlpp : Int32) (x_vlcolumns : Int32) (x_vlcount : Int32) (x_vlnum : Nat → Int32) (x_vfpp : Int32) (x_vfcolumns : Int32) (x_vfcount : Int32) (x_vfnum : Nat → Int32) (x_vstarget : Int32) (x_vssource : Int32) (x_vsnumber : Int32) (x_vspower : Int32) (x_vszcount : Int32) (x_vszplaces : Nat → Int32) (x_vycount : Int32) (x_vyplaces : Nat → Int32) (m_many : Int32) (m_wide : Int32) (m_refused : Nat → Int32) (m_work : Nat → Int32) (m_chosen : Nat → Int32) (m_across : Nat → Int32) (m_sum : Nat → Int32) (m_one : Nat → Int32) (m_two : Nat → Int32) (m_base : Nat → Int32) (m_quotients : Nat → Int32), fX7_factor badCalls noCalls fullCalls npp ncolumns ncount nnum vlpp vlcolumns vlcount vlnum vfpp vfcolumns vfcount vfnum vstarget vssource vsnumber vspower vszcount vszplaces vycount vyplaces a0 a1 a2 a3 = some (r, x_badCalls, x_noCalls, x_fullCalls, x_vlpp, x_vlcolumns, x_vlcount, x_vlnum, x_vfpp, x_vfcolumns, x_vfcount, x_vfnum, x_vstarget, x_vssource, x_vsnumber, x_vspower, x_vszcount, x_vszplaces, x_vycount, x_vyplaces) ∧ fX8_factor many wide all refused work chosen across sum one two base quotients a0 a1 a2 a3 = some (r, m_many, m_wide, m_refused, m_work, m_chosen, m_across, m_sum, m_one, m_two, m_base, m_quotients) ∧ Inv x_badCalls x_noCalls x_fullCalls stopError stopIndex npp ncolumns ncount nnum gcount gg0pp gg0columns gg0count gg0num gg1pp gg1columns gg1count gg1num gg2pp gg2columns gg2count gg2num gg3pp gg3columns gg3count gg3num gg4pp gg4columns gg4count gg4num clength cbytes states whyKind whyOrder textLong all past m_refused text := by
  obtain ⟨hst, hk, c1, c2, c3, hrest⟩ := hI
  have hst2 := hst
  obtain ⟨p, C, n, hp, hC1, hC, hn, e1, e2, e3, b0, b1, b2, hcell⟩ := hst2
  subst e1 e2 e3
  obtain ⟨V, hV⟩ := stV (by omega) hcell
  have hp0 : 0 < p := by omega
  obtain ⟨x, y, z, m0, h2, h3, h4⟩ := cnt_a (a := -2) (Or.inl rfl) c1 c2 c3
  obtain ⟨x', y', z', m', i2, i3, i4⟩ := cnt_a (a := -3) (Or.inr (Or.inl rfl)) c1 c2 c3
  unfold fX7_factor fX8_factor
  rw [bd_t (with_both hn b2), show fX8_in a3.toInt64 (0 : Int64) (24 : Int64) = fX7_isWithin a3 0 24 from in_wi a3 0 24]
  by_cases g1 : fX7_isRowBeside (nI n) a0 a1 = 0
  · rw [if_pos g1, if_pos g1, bd4_t h2, bd_t rfl, if_pos rfl, bd2_t h3]
    exact ⟨_, _, _, _, _, _, _, _, _, _, _, _, _, _, _, _, _, _, _, _, _, _, _, _, _, _, _, _, _, _, _, rfl, rfl, hst, hk, h4.1, h4.2.1, h4.2.2, hrest⟩
  rw [if_neg g1, if_neg g1]
  obtain ⟨i, hi, ei, -, hset⟩ := beside_of hn g1
  subst ei
  rw [bd_t (member_both hn b2 hset)]
  by_cases g2 : fX7_isInSet a2 a1 = 0
  · rw [if_pos g2, if_pos g2, bd4_t h2, bd2_t h3]
    exact ⟨_, _, _, _, _, _, _, _, _, _, _, _, _, _, _, _, _, _, _, _, _, _, _, _, _, _, _, _, _, _, _, rfl, rfl, hst, hk, h4.1, h4.2.1, h4.2.2, hrest⟩
  rw [if_neg g2, if_neg g2]
  by_cases g3 : fX7_isWithin a3 0 24 = 0
  · rw [if_pos g3, if_pos g3, bd4_t h2, bd2_t h3]
    exact ⟨_, _, _, _, _, _, _, _, _, _, _, _, _, _, _, _, _, _, _, _, _, _, _, _, _, _, _, _, _, _, _, rfl, rfl, hst, hk, h4.1, h4.2.1, h4.2.2, hrest⟩
  rw [if_neg g3, if_neg g3]
  obtain ⟨k, hk24, ek⟩ := wi_of (hi := 24) (by omega) g3
  subst ek
  obtain ⟨K, sel, m, num2, y1, y2, y3, y4, y5, y6, y7, y8, f2, pl2, W2, q1, q2, q3, hsel, hmK, hm5, q4, q5, q6, ⟨jc, jd⟩, jf, q7, q8, -, -, -, -, -, -, hpop⟩ := rests_both (lnum := vlnum) (fnum := vfnum) (pl := vszplaces) (yp := vyplaces) (work := work) (x1 := vstarget) (x2 := vssource) (x3 := vsnumber) (x4 := vspower) (x5 := vszcount) (x6 := vycount) (a := a1) V (fun K sel n num => cofJ p C V K sel n num ∧ detJ p C V K sel n num) hp b0 b1 b2 hC hn hi hV (fun K sel => JC_and (JC_cof hp0 (by omega) hC) (JC_det hp0 (by omega) hC)) (fun K sel num hc _ _ h => ⟨cof_0 (n := n) (a := a1) (by omega) (by omega) hC hc (fun i c k hi hc hk => (hV i c k hi hc hk).1) h, det_0 (n := n) (a := a1) (by omega) (by omega) hC hc (fun i c k hi hc hk => (hV i c k hi hc hk).1) h⟩) (fun K sel m num f => facJ p C V i K sel f) (fun K sel m num f hc _ h => fac_0 (n := n) (by omega) hC hi (fun i c k hi hc hk => (hV i c k hi hc hk).1) h) (fun K sel m num f f' j v pw hc hm hr hl hJ hr1 hl1 hj hpw ho hl2 h => fac_s hp0 (by omega) hC hl hj hpw ho hJ.1 h)
  have hKe := Chosen_cnt hsel
  have hcle := cnt_le a1 n
  obtain ⟨d, d1, d2, d3, d4⟩ := divided_both hC (show m < 6 by omega) q8
  have w2 : fX8_isMade all work (nI i) a1 = some (d, nI m, nI C, W2) := by
    unfold fX8_isMade
    rw [bd3_t q3]
    exact d4 _ _ 0
  obtain ⟨ch, u1, u2⟩ := X8chooses (ch := chosen) (a := a1) b2 hn
  rw [bd12_t q1, bd6_t q2, bd_t d3, bitc hn hset]
  unfold fX8_factorOf
  rw [bd2_t u1, bd4_t w2]
  rcases d1 with e | e
  · subst e
    rw [if_pos rfl, if_pos rfl, bd4_t i2]
    refine ⟨_, _, _, _, _, _, _, _, _, _, _, _, _, _, _, _, _, _, _, _, _, _, _, _, _, _, _, _, _, _, _, rfl, bd12_t (bd2_t i3), hst, hk, i4.1, i4.2.1, i4.2.2, hrest⟩
  have hd0 : ¬ d = 0 := by rw [e]; decide
  rw [if_neg hd0, if_neg hd0]
  by_cases em : m = K
  · rw [if_pos (nI_le (by omega) (by omega)), if_pos (by rw [em, hKe])]
    subst em
    have hsl : ∀ l, l < m → sel l < n := fun l hl => (hsel.1 l hl).1
    have hinj : ∀ l l', l < m → l' < m → sel l = sel l' → l = l' := by
      intro l l' hl hl' he
      apply Classical.byContradiction
      intro hne
      rcases (show l < l' ∨ l' < l by omega) with h | h
      · have := hsel.2.2 l l' h hl'; omega
      · have := hsel.2.2 l' l h hl; omega
    have hw : ¬ fX7_isWithin a2 (0 : Int32) (4 : Int32) = 0 := by
      intro w
      unfold fX7_isInSet at g2
      rw [if_pos w] at g2
      exact g2 rfl
    obtain ⟨j, hj, ej⟩ := wi_of (hi := 4) (by omega) hw
    subst ej
    obtain ⟨l0, hl0, el0⟩ := hsel.2.1 j (mem_lt hn (by omega) hset g2) g2
    subst el0
    obtain ⟨hK3, ac', S', o', t', B', ch', S2, o2, t2, S3, Q, s1, s2, s3, s4, s5⟩ := factor_main (A := all) (ch := ch) (ac := across) (sum := sum) (one := one) (two := two) (base := base) (qs := quotients) (f := f2) (num := num2) (n := n) (i := i) V hp b0 b1 hC hn hi (fun i c k hi hc hk => ⟨(hV i c k hi hc hk).1, (hV i c k hi hc hk).2.2.1⟩) hl0 hsl hinj (fun l hl h3 => u2 sel (hKe ▸ hsel) l (by omega) h3) hpop jd jf q4 q5 (d2.mp e)
    rw [← hKe, bd_t (s5 k (by omega))]
    refine ⟨_, _, _, _, _, _, _, _, _, _, _, _, _, _, _, _, _, _, _, _, _, _, _, _, _, _, _, _, _, _, _, rfl, bd12_t ((bd5_t s1).trans ((bd_t s2).trans ((bd3_t s3).trans ((bd2_t s4).trans ((gd_t (vp_in_nI (show k < 25 by omega) (by omega))).trans (by rw [nI_clamp (show k < 2 ^ 31 by omega)])))))), hst, hk, c1, c2, c3, hrest⟩
  · rw [if_neg (nI_ge (by omega) (by omega)), if_neg (fun z => em (by have := (nI_eq (by omega) (by omega)).mp z; omega)), bd4_t i2]
    refine ⟨_, _, _, _, _, _, _, _, _, _, _, _, _, _, _, _, _, _, _, _, _, _, _, _, _, _, _, _, _, _, _, rfl, bd12_t (bd2_t i3), hst, hk, i4.1, i4.2.1, i4.2.2, hrest⟩
