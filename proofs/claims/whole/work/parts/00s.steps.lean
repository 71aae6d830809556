theorem sp_steps {badCalls : Int32} {noCalls : Int32} {fullCalls : Int32} {stopError : Int32} {stopIndex : Int32} {npp : Int32} {ncolumns : Int32} {ncount : Int32} {nnum : Nat → Int32} {gcount : Int32} {gg0pp : Int32} {gg0columns : Int32} {gg0count : Int32} {gg0num : Nat → Int32} {gg1pp : Int32} {gg1columns : Int32} {gg1count : Int32} {gg1num : Nat → Int32} {gg2pp : Int32} {gg2columns : Int32} {gg2count : Int32} {gg2num : Nat → Int32} {gg3pp : Int32} {gg3columns : Int32} {gg3count : Int32} {gg3num : Nat → Int32} {gg4pp : Int32} {gg4columns : Int32} {gg4count : Int32} {gg4num : Nat → Int32} {clength : Int32} {cbytes : Nat → Int32} {states : Int32} {whyKind : Int32} {whyOrder : Int32} {textLong : Int32} {all : Nat → Int32} {past : Nat → Int32} {refused : Nat → Int32} {text : Nat → Int32} (bnum : Nat → Int32) (a0 : Int32) (a1 : Int32) (a2 : Int32) (a3 : Int32) (hI : Inv badCalls noCalls fullCalls stopError stopIndex npp ncolumns ncount nnum gcount gg0pp gg0columns gg0count gg0num gg1pp gg1columns gg1count gg1num gg2pp gg2columns gg2count gg2num gg3pp gg3columns gg3count gg3num gg4pp gg4columns gg4count gg4num clength cbytes states whyKind whyOrder textLong all past refused text) : ∃ (r : Int32) (x_badCalls : Int32) (x_noCalls : Int32) (x_fullCalls : Int32) (x_nnum : Nat → Int32) (x_bpp : Int32) (x_bcolumns : Int32) (x_bcount : Int32) (x_bnum : Nat → Int32) (x_gcount : Int32) (x_gg0pp : Int32) (x_gg0columns : Int32) (x_gg0count : Int32) (x_gg0num : Nat → Int32) (x_gg1pp : Int32) (x_gg1columns : Int32) (x_gg1count : Int32) (x_gg1num : Nat → Int32) (x_gg2pp : Int32) (x_gg2columns : Int32) (x_gg2count : Int32) (x_gg2num : Nat → Int32) (x_gg3pp : Int32) (x_gg3columns : Int32) (x_gg3count : Int32) (x_gg3num : Nat → Int32) (x_gg4pp : Int32) (x_gg4columns : Int32) (x_gg4count : Int32) (x_gg4num : Nat → Int32) (m_states : Int32) (m_all : Nat → Int32) (m_past : Nat → Int32) (m_refused : Nat → Int32), fX7_steps badCalls noCalls fullCalls npp ncolumns ncount nnum bnum gcount gg0pp gg0columns gg0count gg0num gg1pp gg1columns gg1count gg1num gg2pp gg2columns gg2count gg2num gg3pp gg3columns gg3count gg3num gg4pp gg4columns gg4count gg4num a0 a1 a2 a3 = some (r, x_badCalls, x_noCalls, x_fullCalls, x_nnum, x_bpp, x_bcolumns, x_bcount, x_bnum, x_gcount, x_gg0pp, x_gg0columns, x_gg0count, x_gg0num, x_gg1pp, x_gg1columns, x_gg1count, x_gg1num, x_gg2pp, x_gg2columns, x_gg2count, x_gg2num, x_gg3pp, x_gg3columns, x_gg3count, x_gg3num, x_gg4pp, x_gg4columns, x_gg4count, x_gg4num) ∧ fX8_steps states all past refused a0 a1 a2 a3 = some (r, m_states, m_all, m_past, m_refused) ∧ Inv x_badCalls x_noCalls x_fullCalls stopError stopIndex npp ncolumns ncount x_nnum x_gcount x_gg0pp x_gg0columns x_gg0count x_gg0num x_gg1pp x_gg1columns x_gg1count x_gg1num x_gg2pp x_gg2columns x_gg2count x_gg2num x_gg3pp x_gg3columns x_gg3count x_gg3num x_gg4pp x_gg4columns x_gg4count x_gg4num clength cbytes m_states whyKind whyOrder textLong m_all m_past m_refused text := by
  obtain ⟨hst, hk, c1, c2, c3, k1, k2, htx⟩ := hI
  have hst2 := hst
  obtain ⟨p, C, n, hp, hC1, hC, hn, e1, e2, e3, b0, b1, b2, hcell⟩ := hst2
  obtain ⟨bn, hb1, hb2⟩ := copy105 bnum nnum npp ncolumns ncount
  have hsb : stRel npp ncolumns ncount bn all := stRel_cong hst hb2 (fun _ _ => rfl)
  subst e1 e2 e3
  obtain ⟨V, hV⟩ := stV (by omega) hcell
  by_cases hbad : ∃ a : Int32, (a = -2 ∨ a = -3 ∨ a = -4) ∧ fX7_stepRow (nI p) (nI C) (nI n) nnum a0 a1 a2 a3 = some (a, nnum) ∧ fX8_canStep all a0 a1 a2 a3 = some a
  · obtain ⟨a, ha, q1, q2⟩ := hbad
    obtain ⟨x, y, z, m, s1, s2, s3, s4, s5⟩ := settle_e (a := a) (bpp := nI p) (bcolumns := nI C) (bcount := nI n) (bnum := bn) (gcount := gcount) (g0pp := gg0pp) (g0columns := gg0columns) (g0count := gg0count) (g0num := gg0num) (g1pp := gg1pp) (g1columns := gg1columns) (g1count := gg1count) (g1num := gg1num) (g2pp := gg2pp) (g2columns := gg2columns) (g2count := gg2count) (g2num := gg2num) (g3pp := gg3pp) (g3columns := gg3columns) (g3count := gg3count) (g3num := gg3num) (g4pp := gg4pp) (g4columns := gg4columns) (g4count := gg4count) (g4num := gg4num) ha c1 c2 c3
    unfold fX7_steps fX8_steps
    have hneg : ¬ 0 ≤ a := by rcases ha with e | e | e <;> subst e <;> decide
    rw [bd4_t hb1, bd2_t q1, bd25_t s1, bd_t q2, if_neg hneg, bd2_t s2]
    exact ⟨_, _, _, _, _, _, _, _, _, _, _, _, _, _, _, _, _, _, _, _, _, _, _, _, _, _, _, _, _, _, _, _, _, _, rfl, rfl, hst, hk, s3, s4, s5, k1, k2, htx⟩
  by_cases g1 : fX3_hasRow (nI n) a0 = 0
  · refine absurd ⟨-2, Or.inl rfl, ?_, ?_⟩ hbad
    · unfold fX7_stepRow; rw [if_pos g1]
    · unfold fX8_canStep; rw [bd_t (X8isRow (by omega) b2), if_pos g1]
  by_cases g2 : fX3_hasRow (nI n) a1 = 0
  · refine absurd ⟨-2, Or.inl rfl, ?_, ?_⟩ hbad
    · unfold fX7_stepRow; rw [if_neg g1, if_pos g2]
    · unfold fX8_canStep; rw [bd_t (X8isRow (by omega) b2), if_neg g1, bd_t (X8isRow (by omega) b2), if_pos g2]
  by_cases g3 : a0 = a1
  · refine absurd ⟨-2, Or.inl rfl, ?_, ?_⟩ hbad
    · unfold fX7_stepRow; rw [if_neg g1, if_neg g2, if_pos g3]
    · unfold fX8_canStep; rw [bd_t (X8isRow (by omega) b2), if_neg g1, bd_t (X8isRow (by omega) b2), if_neg g2, if_pos g3]
  have w1 : fX8_in a2.toInt64 (0 : Int64) (6 : Int64) = fX7_isWithin a2 0 (nI 6) := in_wi a2 0 6
  have w2 : fX8_in a3.toInt64 (0 : Int64) (6 : Int64) = fX7_isWithin a3 0 (nI 6) := in_wi a3 0 6
  by_cases g4 : fX7_isWithin a2 0 (nI 6) = 0
  · refine absurd ⟨-2, Or.inl rfl, ?_, ?_⟩ hbad
    · unfold fX7_stepRow; rw [if_neg g1, if_neg g2, if_neg g3, if_pos (show fX7_isWithin a2 (0 : Int32) (6 : Int32) = 0 from g4)]
    · unfold fX8_canStep; rw [bd_t (X8isRow (by omega) b2), if_neg g1, bd_t (X8isRow (by omega) b2), if_neg g2, if_neg g3, w1, if_pos g4]
  by_cases g5 : fX7_isWithin a3 0 (nI 6) = 0
  · refine absurd ⟨-2, Or.inl rfl, ?_, ?_⟩ hbad
    · unfold fX7_stepRow; rw [if_neg g1, if_neg g2, if_neg g3, if_neg (show ¬ fX7_isWithin a2 (0 : Int32) (6 : Int32) = 0 from g4), if_pos (show fX7_isWithin a3 (0 : Int32) (6 : Int32) = 0 from g5)]
    · unfold fX8_canStep; rw [bd_t (X8isRow (by omega) b2), if_neg g1, bd_t (X8isRow (by omega) b2), if_neg g2, if_neg g3, w1, if_neg g4, w2, if_pos g5]
  obtain ⟨i, hi, ei⟩ := row_of (by omega) g1
  obtain ⟨j, hj, ej⟩ := row_of (by omega) g2
  obtain ⟨c, hc, ec⟩ := wi_of (by omega) g4
  obtain ⟨k, hk6, ek⟩ := wi_of (by omega) g5
  subst ei ej ec ek
  have hij : i ≠ j := fun e => g3 (by rw [e])
  have hp0 : 0 < p := by omega
  have hcp : c % p < p := Nat.mod_lt _ hp0
  have md1 : fX7_modulo (nI c) (nI p) = some (nI (c % p)) := (fm_any hp0 (by omega)).trans (by rw [nI_toInt (by omega), md_nat])
  have rm1 : rem32 (nI c) (nI p) = nI (c % p) := pk_rem (by omega) (by omega) (by omega)
  obtain ⟨hPi, -⟩ := lead_both (by omega) hC hn b1 hV hi hp0
  obtain ⟨hPj, -⟩ := lead_both (by omega) hC hn b1 hV hj hp0
  have hlj := aP_le all C j
  have dj1 : fX3_degreeOf 105 (5 : Int32) (3 : Int32) (7 : Int32) (nI C) nnum (nI j) = some (pv (pw (aP all C j))) := (X3deg (L := 105) (R := 5) (w := 3) (q := 7) rfl (by omega) (by omega) (by omega) (by omega) (by omega) hC (by omega)).trans (by rw [hPj, powerAt_pv (by omega)])
  have dj2 := X8degree b1 (show j < 5 by omega) hC
  have hpw : pw (aP all C j) ≤ 8 := by unfold pw; omega
  by_cases hfull : c % p ≠ 0 ∧ pw (aP all C j) ≠ 0 ∧ 6 < pw (aP all C j) - 1 + k
  · obtain ⟨f1, f2, f3⟩ := hfull
    obtain ⟨d, hd⟩ : ∃ d, pw (aP all C j) = d + 1 := ⟨pw (aP all C j) - 1, by omega⟩
    rw [hd] at dj1 dj2 f3
    rw [pv_s] at dj1 dj2
    have e6 : ¬ nI d + nI k ≤ (6 : Int32) := by rw [nI_add]; exact (nI_ge (by omega) (by omega) : ¬ nI (d + k) ≤ nI 6)
    refine absurd ⟨-4, Or.inr (Or.inr rfl), ?_, ?_⟩ hbad
    · unfold fX7_stepRow
      rw [if_neg g1, if_neg g2, if_neg g3, if_neg (show ¬ fX7_isWithin (nI c) (0 : Int32) (6 : Int32) = 0 from g4), if_neg (show ¬ fX7_isWithin (nI k) (0 : Int32) (6 : Int32) = 0 from g5), bd_t md1, bd_t dj1, if_neg (nI_ne0 (by omega) (by omega)), if_neg (nI_m1 (by omega)), if_neg e6]
    · unfold fX8_canStep
      rw [bd_t (X8isRow (by omega) b2), if_neg g1, bd_t (X8isRow (by omega) b2), if_neg g2, if_neg g3, w1, if_neg g4, w2, if_neg g5, bd_t (X8modulus b0), gd_t (nI_ne0 hp0 (by omega)), rm1, if_neg (nI_ne0 (by omega) (by omega)), bd_t dj2, if_neg (nI_pos (by omega)), bd_t dj2, if_neg e6]
  have hV10 : ∀ a e m, a < n → e < 3 → m < 7 → V a e m ≤ 10 := fun a e m ha he hm => by have := (hV a e m ha he hm).1; omega
  obtain ⟨num2, x1, x2, x3⟩ := X3addS (L := 105) (R := 5) (w := 3) (q := 7) (i := i) (j := j) (p := p) (pw := k) (num := nnum) (t := nI (c % p)) (fun e m => V j e m) rfl (by omega) (by omega) (by omega) (by omega) (by omega) (by omega) (fun e => hij e.symm) hp0 (by omega) (by omega) (by rw [nI_toInt (by omega)]; omega) (by rw [nI_toInt (by omega)]; omega) (fun e m he hm => ⟨hV10 j e m hj he hm, (hV j e m hj he hm).2.1⟩) (fun e m he hm => ⟨V i e m, (hV i e m hi he hm).1, (hV i e m hi he hm).2.1⟩)
  obtain ⟨A, y1, y2, y3⟩ := X8stepNow (A := all) (p := p) (C := C) (i := i) (j := j) (c := c) (k := k) b0 b1 hp0 (by omega) hC (by omega) (by omega) hij (by omega) (by omega) (fun a e m ha he hm => by
    rcases ha with h | h <;> subst h
    · exact ⟨V a e m, hV10 a e m hi he hm, (hV a e m hi he hm).2.2.1⟩
    · exact ⟨V a e m, hV10 a e m hj he hm, (hV a e m hj he hm).2.2.1⟩)
  have hnew : ∀ a e m, a < n → e < 3 → m < 7 → ∃ v : Nat, v < p ∧ num2 ((a * 3 + e) * 7 + m) = nI v ∧ A (3 + (a * 3 + e) * 7 + m) = nI v ∧ (C ≤ e → v = 0) := by
    intro a e m ha he hm
    obtain ⟨v1, v2, v3, v4⟩ := hV a e m ha he hm
    by_cases ea : a = i
    · subst ea
      have z1 := x2 e m he hm
      rw [v2, nI_toInt (by omega), nI_toInt (by omega)] at z1
      by_cases hkm : k ≤ m
      · obtain ⟨u1, u2, u3, u4⟩ := hV j e (m - k) hj he (by omega)
        rw [if_pos ⟨hkm, by omega⟩] at z1
        by_cases hCe : C ≤ e
        · rw [v4 hCe, u4 hCe] at z1
          refine ⟨0, hp0, ?_, ?_, fun _ => rfl⟩
          · rw [z1, md_zero hp0 ⟨0, by omega⟩]
          · rw [y3 _ (fun e' m' h1 h2 h3 => by omega), v3, v4 hCe]
        · refine ⟨_, md_lt hp0, z1, ?_, fun h => absurd h hCe⟩
          have z2 := y2 e m (by omega) hkm hm
          rw [v3, u3, nI_toInt (by omega), nI_toInt (by omega)] at z2
          rw [z2]
          refine congrArg nI (md_congr hp0 ?_)
          have e1 := Nat.div_add_mod c p
          refine ⟨(c / p : Nat) * (V j e (m - k) : Int), ?_⟩
          have e2 : (c : Int) = p * (c / p : Nat) + (c % p : Nat) := by rw [← Int.natCast_mul, ← Int.natCast_add, e1]
          rw [e2, Int.add_mul, Int.mul_assoc]
          omega
      · rw [if_neg (fun z => hkm z.1), Int.add_zero, md_small v1] at z1
        exact ⟨_, v1, z1, (y3 _ (fun e' m' h1 h2 h3 => by omega)).trans v3, v4⟩
    · exact ⟨_, v1, (x3 a e m ea he hm).trans v2, (y3 _ (fun e' m' h1 h2 h3 => by omega)).trans v3, v4⟩
  have A1 : A 1 = nI C := (y3 1 (fun _ _ _ _ _ => by omega)).trans b1
  have hP2 : rP num2 3 7 C i = aP A C i := aP_rP hC (fun e m he hm => by
    obtain ⟨v, -, q1, q2, -⟩ := hnew i e m hi he hm
    rw [q1, q2])
  have hl2 := aP_le A C i
  have di1 : fX3_degreeOf 105 (5 : Int32) (3 : Int32) (7 : Int32) (nI C) num2 (nI i) = some (pv (pw (aP A C i))) := (X3deg (L := 105) (R := 5) (w := 3) (q := 7) rfl (by omega) (by omega) (by omega) (by omega) (by omega) hC (by omega)).trans (by rw [hP2, powerAt_pv (by omega)])
  have di2 := X8degree A1 (show i < 5 by omega) hC
  have q1 : fX7_stepRow (nI p) (nI C) (nI n) nnum (nI i) (nI j) (nI c) (nI k) = some (pv (pw (aP A C i)), num2) := by
    have x1' : fX3_addTimes_e0 105 (5 : Int32) (3 : Int32) (7 : Int32) (nI p) nnum (nI i) (nI j) (nI (c % p)) (nI k) = some num2 := x1
    unfold fX7_stepRow
    rw [if_neg g1, if_neg g2, if_neg g3, if_neg (show ¬ fX7_isWithin (nI c) (0 : Int32) (6 : Int32) = 0 from g4), if_neg (show ¬ fX7_isWithin (nI k) (0 : Int32) (6 : Int32) = 0 from g5), bd_t md1, bd_t dj1]
    by_cases f1 : c % p = 0
    · rw [if_pos (by rw [f1]; rfl), bd_t x1', bd_t di1]
    · rw [if_neg (nI_ne0 (by omega) (by omega))]
      by_cases f2 : pw (aP all C j) = 0
      · rw [if_pos (by rw [f2]; rfl), bd_t x1', bd_t di1]
      · obtain ⟨d, hd⟩ : ∃ d, pw (aP all C j) = d + 1 := ⟨pw (aP all C j) - 1, by omega⟩
        rw [hd, pv_s, if_neg (nI_m1 (by omega)), if_pos (by rw [nI_add]; exact (nI_le (by omega) (by omega) : nI (d + k) ≤ nI 6)), bd_t x1', bd_t di1]
  have q2 : fX8_canStep all (nI i) (nI j) (nI c) (nI k) = some 0 := by
    unfold fX8_canStep
    rw [bd_t (X8isRow (by omega) b2), if_neg g1, bd_t (X8isRow (by omega) b2), if_neg g2, if_neg g3, w1, if_neg g4, w2, if_neg g5, bd_t (X8modulus b0), gd_t (nI_ne0 hp0 (by omega)), rm1]
    by_cases f1 : c % p = 0
    · rw [if_pos (by rw [f1]; rfl)]
    · rw [if_neg (nI_ne0 (by omega) (by omega)), bd_t dj2]
      by_cases f2 : pw (aP all C j) = 0
      · rw [if_pos (by rw [f2]; decide)]
      · obtain ⟨d, hd⟩ : ∃ d, pw (aP all C j) = d + 1 := ⟨pw (aP all C j) - 1, by omega⟩
        rw [hd, pv_s] at dj2
        rw [hd, pv_s, if_neg (nI_pos (by omega)), bd_t dj2, if_pos (by rw [nI_add]; exact (nI_le (by omega) (by omega) : nI (d + k) ≤ nI 6))]
  have q3 : fX8_stepNow all (nI i) (nI j) (nI c) (nI k) = some (pv (pw (aP A C i)), A) := by
    unfold fX8_stepNow
    exact (bd_t y1).trans (bd_t di2)
  have hpw2 : pw (aP A C i) ≤ 8 := by unfold pw; omega
  obtain ⟨y, y0pp, y0columns, y0count, y1pp, y1columns, y1count, y2pp, y2columns, y2count, y3pp, y3columns, y3count, y4pp, y4columns, y4count, y0num, y1num, y2num, y3num, y4num, st, past2, s1, s2, s3⟩ := settle_k (a := pv (pw (aP A C i))) (bad := badCalls) (no := noCalls) (full := fullCalls) (isErr_pv (by omega)) hk hsb
  unfold fX7_steps fX8_steps
  rw [bd4_t hb1, bd2_t q1, bd25_t s1, bd_t q2, if_pos (by decide), bd2_t s2, bd2_t q3]
  exact ⟨_, _, _, _, _, _, _, _, _, _, _, _, _, _, _, _, _, _, _, _, _, _, _, _, _, _, _, _, _, _, _, _, _, _, rfl, rfl, ⟨p, C, n, hp, hC1, hC, hn, rfl, rfl, rfl, (y3 0 (fun _ _ _ _ _ => by omega)).trans b0, A1, (y3 2 (fun _ _ _ _ _ => by omega)).trans b2, fun a ha e he m hm => hnew a e m ha he hm⟩, s3, c1, c2, c3, k1, k2, htx⟩
