/-! what a command does: both sides alike -/
def act (cls : Option (Int32 × Int32 × Int32 × Int32 × (Nat → Int32))) (can : Option Int32) (now : Option (Nat → Int32)) : Prop := ∃ r p c n num, cls = some (r, p, c, n, num) ∧ (((r = -2 ∨ r = -3 ∨ r = -4) ∧ can = some r) ∨ (fX7_isError r = 0 ∧ can = some 0 ∧ ∃ A, now = some A ∧ stRel p c n num A))
theorem act_m {npp ncolumns ncount : Int32} {nnum all : Nat → Int32} (a0 : Int32) (hst : stRel npp ncolumns ncount nnum all) : ∃ r num2, fX7_makeMonic npp ncolumns ncount nnum a0 = some (r, num2) ∧ (((r = -2 ∨ r = -3 ∨ r = -4) ∧ fX8_canMonic all a0 = some r) ∨ (fX7_isError r = 0 ∧ fX8_canMonic all a0 = some 0 ∧ ∃ w A, fX8_monicNow all a0 = some (w, A) ∧ stRel npp ncolumns ncount num2 A)) := by
  have hst2 := hst
  obtain ⟨p, C, n, hp, hC1, hC, hn, e1, e2, e3, b0, b1, b2, hcell⟩ := hst2
  subst e1 e2 e3
  obtain ⟨V, hV⟩ := stV (by omega) hcell
  by_cases hbad : ∃ a : Int32, (a = -2 ∨ a = -3 ∨ a = -4) ∧ fX7_makeMonic (nI p) (nI C) (nI n) nnum a0 = some (a, nnum) ∧ fX8_canMonic all a0 = some a
  · obtain ⟨a, ha, q1, q2⟩ := hbad
    exact ⟨a, nnum, q1, Or.inl ⟨ha, q2⟩⟩
  by_cases hq : fX3_hasRow (nI n) a0 = 0
  · refine absurd ⟨-2, Or.inl rfl, ?_, ?_⟩ hbad
    · unfold fX7_makeMonic
      rw [if_pos hq]
    · unfold fX8_canMonic
      rw [bd_t (X8isRow (by omega) b2), if_pos hq]
  · obtain ⟨i, hi, ei⟩ := row_of (by omega) hq
    subst ei
    obtain ⟨hP, v, hv, hv0, hvm, l1, l2⟩ := lead_both (by omega) hC hn b1 hV hi (by omega)
    by_cases hz : v = 0
    · refine absurd ⟨-3, Or.inr (Or.inl rfl), ?_, ?_⟩ hbad
      · unfold fX7_makeMonic
        rw [if_neg hq, bd_t l1, if_pos (by rw [hz]; rfl)]
      · unfold fX8_canMonic
        rw [bd_t (X8isRow (by omega) b2), if_neg hq, bd_t l2, if_pos (by rw [hz]; rfl)]
    · have hvn : ¬ nI v = 0 := nI_ne0 (by omega) (by omega)
      obtain ⟨u, hu, hue⟩ := X7inv hp (show 0 < v by omega) hv
      obtain ⟨u2, hu2, hue2⟩ := X8inverse b0 hp (show 0 < v by omega) hv
      have eu := inv_uniq hp hu2 hu
      subst eu
      have hu7 : u2 < 7 := by have := hu.2.1; omega
      obtain ⟨num2, g1, g2⟩ := X3scale (L := 105) (R := 5) (w := 3) (q := 7) (i := i) (p := p) (t := u2) (num := nnum) rfl (by omega) (by omega) (by omega) (by omega) (by omega) (by omega) (by omega) (by omega) (fun c k hc hk => ⟨V i c k, by have := (hV i c k hi hc hk).1; omega, (hV i c k hi hc hk).2.1⟩)
      have q1 : fX7_makeMonic (nI p) (nI C) (nI n) nnum (nI i) = some (nI v, num2) := by
        unfold fX7_makeMonic
        rw [if_neg hq, bd_t l1, if_neg hvn, bd_t hue, bd_t (show fX3_scale 105 (5 : Int32) (3 : Int32) (7 : Int32) (nI p) nnum (nI i) (nI u2) = some num2 from g1)]
      have q2 : fX8_canMonic all (nI i) = some 0 := by
        unfold fX8_canMonic
        rw [bd_t (X8isRow (by omega) b2), if_neg hq, bd_t l2, if_neg hvn]
      obtain ⟨A, m1, m2, m3⟩ := X8monicLoop (A := all) (p := p) (i := i) (u := u2) b0 (by omega) (by omega) (by omega) (by omega) (fun k hk => ⟨V i (k / 7) (k % 7), by have := (hV i (k / 7) (k % 7) hi (by omega) (by omega)).1; omega, by
        have := (hV i (k / 7) (k % 7) hi (by omega) (by omega)).2.2.1
        rw [show 3 + i * 21 + k = 3 + (i * 3 + k / 7) * 7 + k % 7 by omega]
        exact this⟩)
      have q3 : fX8_monicNow all (nI i) = some (nI v, A) := by
        unfold fX8_monicNow
        rw [bd_t l2, bd_t hue2]
        exact bd_t m1
      refine ⟨nI v, num2, q1, Or.inr ⟨isErr_nI (by omega), q2, nI v, A, q3, p, C, n, hp, hC1, hC, hn, rfl, rfl, rfl, (m3 0 (by omega)).trans b0, (m3 1 (by omega)).trans b1, (m3 2 (by omega)).trans b2, ?_⟩⟩
      intro a ha c hc k hk
      obtain ⟨v1, v2, v3, v4⟩ := hV a c k ha hc hk
      by_cases e : a = i
      · subst e
        have w := m2 (c * 7 + k) (by omega)
        rw [show 3 + a * 21 + (c * 7 + k) = 3 + (a * 3 + c) * 7 + k by omega, v3] at w
        refine ⟨md ((u2 : Int) * (nI (V a c k)).toInt) p, md_lt (by omega), ?_, w, fun h => ?_⟩
        · rw [g2 a c k hc hk, if_pos rfl, v2]
        · rw [v4 h, show (nI 0).toInt = 0 from rfl, Int.mul_zero]
          exact md_small (n := 0) (by omega)
      · refine ⟨V a c k, v1, ?_, ?_, v4⟩
        · rw [g2 a c k hc hk, if_neg e, v2]
        · rw [m3 _ (by omega)]
          exact v3
theorem act_s {npp ncolumns ncount : Int32} {nnum all : Nat → Int32} (a0 a1 a2 a3 : Int32) (hst : stRel npp ncolumns ncount nnum all) : ∃ r num2, fX7_stepRow npp ncolumns ncount nnum a0 a1 a2 a3 = some (r, num2) ∧ (((r = -2 ∨ r = -3 ∨ r = -4) ∧ fX8_canStep all a0 a1 a2 a3 = some r) ∨ (fX7_isError r = 0 ∧ fX8_canStep all a0 a1 a2 a3 = some 0 ∧ ∃ w A, fX8_stepNow all a0 a1 a2 a3 = some (w, A) ∧ stRel npp ncolumns ncount num2 A)) := by
  have hst2 := hst
  obtain ⟨p, C, n, hp, hC1, hC, hn, e1, e2, e3, b0, b1, b2, hcell⟩ := hst2
  subst e1 e2 e3
  obtain ⟨V, hV⟩ := stV (by omega) hcell
  by_cases hbad : ∃ a : Int32, (a = -2 ∨ a = -3 ∨ a = -4) ∧ fX7_stepRow (nI p) (nI C) (nI n) nnum a0 a1 a2 a3 = some (a, nnum) ∧ fX8_canStep all a0 a1 a2 a3 = some a
  · obtain ⟨a, ha, q1, q2⟩ := hbad
    exact ⟨a, nnum, q1, Or.inl ⟨ha, q2⟩⟩
  by_cases g1 : fX3_hasRow (nI n) a0 = 0
  · refine absurd ⟨-2, Or.inl rfl, ?_, ?_⟩ hbad
    · unfold fX7_stepRow; rw [if_pos g1]
    · unfold fX8_canStep; rw [bd_t (X8isRow (by omega) b2), if_pos g1]
  by_cases g2 : fX3_hasRow (nI n) a1 = 0
  · refine absurd ⟨-2, Or.inl rfl, ?_, ?_⟩ hbad
    · unfold fX7_stepRow; rw [if_neg g1, if_pos g2]
    · unfold fX8_canStep; rw [bd_t (X8isRow (by omega) b2), if_neg g1, bd_t (X8isRow (by omega) b2), if_pos g2]
  by_cases g3 : a0 = a1
  · refine absurd ⟨-2, Or.inl rfl, ?_, ?_⟩ hbad
    · unfold fX7_stepRow; rw [if_neg g1, if_neg g2, if_pos g3]
    · unfold fX8_canStep; rw [bd_t (X8isRow (by omega) b2), if_neg g1, bd_t (X8isRow (by omega) b2), if_neg g2, if_pos g3]
  have w1 : fX8_in a2.toInt64 (0 : Int64) (6 : Int64) = fX7_isWithin a2 0 (nI 6) := in_wi a2 0 6
  have w2 : fX8_in a3.toInt64 (0 : Int64) (6 : Int64) = fX7_isWithin a3 0 (nI 6) := in_wi a3 0 6
  by_cases g4 : fX7_isWithin a2 0 (nI 6) = 0
  · refine absurd ⟨-2, Or.inl rfl, ?_, ?_⟩ hbad
    · unfold fX7_stepRow; rw [if_neg g1, if_neg g2, if_neg g3, if_pos (show fX7_isWithin a2 (0 : Int32) (6 : Int32) = 0 from g4)]
    · unfold fX8_canStep; rw [bd_t (X8isRow (by omega) b2), if_neg g1, bd_t (X8isRow (by omega) b2), if_neg g2, if_neg g3, w1, if_pos g4]
  by_cases g5 : fX7_isWithin a3 0 (nI 6) = 0
  · refine absurd ⟨-2, Or.inl rfl, ?_, ?_⟩ hbad
    · unfold fX7_stepRow; rw [if_neg g1, if_neg g2, if_neg g3, if_neg (show ¬ fX7_isWithin a2 (0 : Int32) (6 : Int32) = 0 from g4), if_pos (show fX7_isWithin a3 (0 : Int32) (6 : Int32) = 0 from g5)]
    · unfold fX8_canStep; rw [bd_t (X8isRow (by omega) b2), if_neg g1, bd_t (X8isRow (by omega) b2), if_neg g2, if_neg g3, w1, if_neg g4, w2, if_pos g5]
  obtain ⟨i, hi, ei⟩ := row_of (by omega) g1
  obtain ⟨j, hj, ej⟩ := row_of (by omega) g2
  obtain ⟨c, hc, ec⟩ := wi_of (by omega) g4
  obtain ⟨k, hk6, ek⟩ := wi_of (by omega) g5
  subst ei ej ec ek
  have hij : i ≠ j := fun e => g3 (by rw [e])
  have hp0 : 0 < p := by omega
  have hcp : c % p < p := Nat.mod_lt _ hp0
  have md1 : fX7_modulo (nI c) (nI p) = some (nI (c % p)) := (fm_any hp0 (by omega)).trans (by rw [nI_toInt (by omega), md_nat])
  have rm1 : rem32 (nI c) (nI p) = nI (c % p) := pk_rem (by omega) (by omega) (by omega)
  obtain ⟨hPi, -⟩ := lead_both (by omega) hC hn b1 hV hi hp0
  obtain ⟨hPj, -⟩ := lead_both (by omega) hC hn b1 hV hj hp0
  have hlj := aP_le all C j
  have dj1 : fX3_degreeOf 105 (5 : Int32) (3 : Int32) (7 : Int32) (nI C) nnum (nI j) = some (pv (pw (aP all C j))) := (X3deg (L := 105) (R := 5) (w := 3) (q := 7) rfl (by omega) (by omega) (by omega) (by omega) (by omega) hC (by omega)).trans (by rw [hPj, powerAt_pv (by omega)])
  have dj2 := X8degree b1 (show j < 5 by omega) hC
  have hpw : pw (aP all C j) ≤ 8 := by unfold pw; omega
  by_cases hfull : c % p ≠ 0 ∧ pw (aP all C j) ≠ 0 ∧ 6 < pw (aP all C j) - 1 + k
  · obtain ⟨f1, f2, f3⟩ := hfull
    obtain ⟨d, hd⟩ : ∃ d, pw (aP all C j) = d + 1 := ⟨pw (aP all C j) - 1, by omega⟩
    rw [hd] at dj1 dj2 f3
    rw [pv_s] at dj1 dj2
    have e6 : ¬ nI d + nI k ≤ (6 : Int32) := by rw [nI_add]; exact (nI_ge (by omega) (by omega) : ¬ nI (d + k) ≤ nI 6)
    refine absurd ⟨-4, Or.inr (Or.inr rfl), ?_, ?_⟩ hbad
    · unfold fX7_stepRow
      rw [if_neg g1, if_neg g2, if_neg g3, if_neg (show ¬ fX7_isWithin (nI c) (0 : Int32) (6 : Int32) = 0 from g4), if_neg (show ¬ fX7_isWithin (nI k) (0 : Int32) (6 : Int32) = 0 from g5), bd_t md1, bd_t dj1, if_neg (nI_ne0 (by omega) (by omega)), if_neg (nI_m1 (by omega)), if_neg e6]
    · unfold fX8_canStep
      rw [bd_t (X8isRow (by omega) b2), if_neg g1, bd_t (X8isRow (by omega) b2), if_neg g2, if_neg g3, w1, if_neg g4, w2, if_neg g5, bd_t (X8modulus b0), gd_t (nI_ne0 hp0 (by omega)), rm1, if_neg (nI_ne0 (by omega) (by omega)), bd_t dj2, if_neg (nI_pos (by omega)), bd_t dj2, if_neg e6]
  have hV10 : ∀ a e m, a < n → e < 3 → m < 7 → V a e m ≤ 10 := fun a e m ha he hm => by have := (hV a e m ha he hm).1; omega
  obtain ⟨num2, x1, x2, x3⟩ := X3addS (L := 105) (R := 5) (w := 3) (q := 7) (i := i) (j := j) (p := p) (pw := k) (num := nnum) (t := nI (c % p)) (fun e m => V j e m) rfl (by omega) (by omega) (by omega) (by omega) (by omega) (by omega) (fun e => hij e.symm) hp0 (by omega) (by omega) (by rw [nI_toInt (by omega)]; omega) (by rw [nI_toInt (by omega)]; omega) (fun e m he hm => ⟨hV10 j e m hj he hm, (hV j e m hj he hm).2.1⟩) (fun e m he hm => ⟨V i e m, (hV i e m hi he hm).1, (hV i e m hi he hm).2.1⟩)
  obtain ⟨A, y1, y2, y3⟩ := X8stepNow (A := all) (p := p) (C := C) (i := i) (j := j) (c := c) (k := k) b0 b1 hp0 (by omega) hC (by omega) (by omega) hij (by omega) (by omega) (fun a e m ha he hm => by
    rcases ha with h | h <;> subst h
    · exact ⟨V a e m, hV10 a e m hi he hm, (hV a e m hi he hm).2.2.1⟩
    · exact ⟨V a e m, hV10 a e m hj he hm, (hV a e m hj he hm).2.2.1⟩)
  have hnew : ∀ a e m, a < n → e < 3 → m < 7 → ∃ v : Nat, v < p ∧ num2 ((a * 3 + e) * 7 + m) = nI v ∧ A (3 + (a * 3 + e) * 7 + m) = nI v ∧ (C ≤ e → v = 0) := by
    intro a e m ha he hm
    obtain ⟨v1, v2, v3, v4⟩ := hV a e m ha he hm
    by_cases ea : a = i
    · subst ea
      have z1 := x2 e m he hm
      rw [v2, nI_toInt (by omega), nI_toInt (by omega)] at z1
      by_cases hkm : k ≤ m
      · obtain ⟨u1, u2, u3, u4⟩ := hV j e (m - k) hj he (by omega)
        rw [if_pos ⟨hkm, by omega⟩] at z1
        by_cases hCe : C ≤ e
        · rw [v4 hCe, u4 hCe] at z1
          refine ⟨0, hp0, ?_, ?_, fun _ => rfl⟩
          · rw [z1, md_zero hp0 ⟨0, by omega⟩]
          · rw [y3 _ (fun e' m' h1 h2 h3 => by omega), v3, v4 hCe]
        · refine ⟨_, md_lt hp0, z1, ?_, fun h => absurd h hCe⟩
          have z2 := y2 e m (by omega) hkm hm
          rw [v3, u3, nI_toInt (by omega), nI_toInt (by omega)] at z2
          rw [z2]
          refine congrArg nI (md_congr hp0 ?_)
          have e1 := Nat.div_add_mod c p
          refine ⟨(c / p : Nat) * (V j e (m - k) : Int), ?_⟩
          have e2 : (c : Int) = p * (c / p : Nat) + (c % p : Nat) := by rw [← Int.natCast_mul, ← Int.natCast_add, e1]
          rw [e2, Int.add_mul, Int.mul_assoc]
          omega
      · rw [if_neg (fun z => hkm z.1), Int.add_zero, md_small v1] at z1
        exact ⟨_, v1, z1, (y3 _ (fun e' m' h1 h2 h3 => by omega)).trans v3, v4⟩
    · exact ⟨_, v1, (x3 a e m ea he hm).trans v2, (y3 _ (fun e' m' h1 h2 h3 => by omega)).trans v3, v4⟩
  have A1 : A 1 = nI C := (y3 1 (fun _ _ _ _ _ => by omega)).trans b1
  have hP2 : rP num2 3 7 C i = aP A C i := aP_rP hC (fun e m he hm => by
    obtain ⟨v, -, q1, q2, -⟩ := hnew i e m hi he hm
    rw [q1, q2])
  have hl2 := aP_le A C i
  have di1 : fX3_degreeOf 105 (5 : Int32) (3 : Int32) (7 : Int32) (nI C) num2 (nI i) = some (pv (pw (aP A C i))) := (X3deg (L := 105) (R := 5) (w := 3) (q := 7) rfl (by omega) (by omega) (by omega) (by omega) (by omega) hC (by omega)).trans (by rw [hP2, powerAt_pv (by omega)])
  have di2 := X8degree A1 (show i < 5 by omega) hC
  have q1 : fX7_stepRow (nI p) (nI C) (nI n) nnum (nI i) (nI j) (nI c) (nI k) = some (pv (pw (aP A C i)), num2) := by
    have x1' : fX3_addTimes_e0 105 (5 : Int32) (3 : Int32) (7 : Int32) (nI p) nnum (nI i) (nI j) (nI (c % p)) (nI k) = some num2 := x1
    unfold fX7_stepRow
    rw [if_neg g1, if_neg g2, if_neg g3, if_neg (show ¬ fX7_isWithin (nI c) (0 : Int32) (6 : Int32) = 0 from g4), if_neg (show ¬ fX7_isWithin (nI k) (0 : Int32) (6 : Int32) = 0 from g5), bd_t md1, bd_t dj1]
    by_cases f1 : c % p = 0
    · rw [if_pos (by rw [f1]; rfl), bd_t x1', bd_t di1]
    · rw [if_neg (nI_ne0 (by omega) (by omega))]
      by_cases f2 : pw (aP all C j) = 0
      · rw [if_pos (by rw [f2]; rfl), bd_t x1', bd_t di1]
      · obtain ⟨d, hd⟩ : ∃ d, pw (aP all C j) = d + 1 := ⟨pw (aP all C j) - 1, by omega⟩
        rw [hd, pv_s, if_neg (nI_m1 (by omega)), if_pos (by rw [nI_add]; exact (nI_le (by omega) (by omega) : nI (d + k) ≤ nI 6)), bd_t x1', bd_t di1]
  have q2 : fX8_canStep all (nI i) (nI j) (nI c) (nI k) = some 0 := by
    unfold fX8_canStep
    rw [bd_t (X8isRow (by omega) b2), if_neg g1, bd_t (X8isRow (by omega) b2), if_neg g2, if_neg g3, w1, if_neg g4, w2, if_neg g5, bd_t (X8modulus b0), gd_t (nI_ne0 hp0 (by omega)), rm1]
    by_cases f1 : c % p = 0
    · rw [if_pos (by rw [f1]; rfl)]
    · rw [if_neg (nI_ne0 (by omega) (by omega)), bd_t dj2]
      by_cases f2 : pw (aP all C j) = 0
      · rw [if_pos (by rw [f2]; decide)]
      · obtain ⟨d, hd⟩ : ∃ d, pw (aP all C j) = d + 1 := ⟨pw (aP all C j) - 1, by omega⟩
        rw [hd, pv_s] at dj2
        rw [hd, pv_s, if_neg (nI_pos (by omega)), bd_t dj2, if_pos (by rw [nI_add]; exact (nI_le (by omega) (by omega) : nI (d + k) ≤ nI 6))]
  have q3 : fX8_stepNow all (nI i) (nI j) (nI c) (nI k) = some (pv (pw (aP A C i)), A) := by
    unfold fX8_stepNow
    exact (bd_t y1).trans (bd_t di2)
  have hpw2 : pw (aP A C i) ≤ 8 := by unfold pw; omega
  exact ⟨pv (pw (aP A C i)), num2, q1, Or.inr ⟨isErr_pv (by omega), q2, pv (pw (aP A C i)), A, q3, p, C, n, hp, hC1, hC, hn, rfl, rfl, rfl, (y3 0 (fun _ _ _ _ _ => by omega)).trans b0, A1, (y3 2 (fun _ _ _ _ _ => by omega)).trans b2, fun a ha e he m hm => hnew a e m ha he hm⟩⟩
theorem act_x {npp ncolumns ncount : Int32} {nnum all : Nat → Int32} (a0 : Int32) (hst : stRel npp ncolumns ncount nnum all) : ∃ r c2 num2, fX7_dropRow ncount nnum a0 = some (r, c2, num2) ∧ ((r = -2 ∧ fX3_hasRow ncount a0 = 0 ∧ fX8_isRow all a0 = some 0) ∨ (fX7_isError r = 0 ∧ fX8_isRow all a0 = some 1 ∧ ∃ w A, fX8_dropNow all a0 = some (w, A) ∧ stRel npp ncolumns c2 num2 A)) := by
  have hst2 := hst
  obtain ⟨p, C, n, hp, hC1, hC, hn, e1, e2, e3, b0, b1, b2, hcell⟩ := hst2
  subst e1 e2 e3
  rw [X8isRow (show n ≤ 100 by omega) b2]
  by_cases hq : fX3_hasRow (nI n) a0 = 0
  · have hc : fX7_dropRow (nI n) nnum a0 = some (-2, nI n, nnum) := by
      unfold fX7_dropRow
      rw [if_pos hq]
    exact ⟨_, _, _, hc, Or.inl ⟨rfl, hq, by rw [hq]⟩⟩
  · have hq1 : fX3_hasRow (nI n) a0 = 1 := by
      unfold fX3_hasRow at hq ⊢
      by_cases h1 : a0 < 0
      · rw [if_pos h1] at hq; exact absurd rfl hq
      · rw [if_neg h1] at hq ⊢
        by_cases h2 : nI n ≤ a0
        · rw [if_pos h2] at hq; exact absurd rfl hq
        · rw [if_neg h2]
    obtain ⟨i, hi, ei⟩ := row_of (by omega) hq
    subst ei
    obtain ⟨num2, hc, hd⟩ := X3remove105 (m := n) (i := i) (num := nnum) hn hi
    have hc2 : fX7_dropRow (nI n) nnum (nI i) = some (nI (n - 1), nI (n - 1), num2) := by
      unfold fX7_dropRow
      rw [if_neg hq, bd2_t hc]
    obtain ⟨A, p1, p2, p3, p4⟩ := X8dropNow (n := n) (i := i) b2 hn hi
    refine ⟨_, _, _, hc2, Or.inr ⟨isErr_nI (by omega), by rw [hq1], _, A, p1, p, C, n - 1, hp, hC1, hC, by omega, rfl, rfl, rfl, (p4 0 (by omega) (by omega)).trans b0, (p4 1 (by omega) (by omega)).trans b1, p2, ?_⟩⟩
    intro a ha c hc3 k hk7
    rw [hd _ (by omega)]
    by_cases e : a < i
    · obtain ⟨v, v1, v2, v3, v4⟩ := hcell a (by omega) c hc3 k hk7
      refine ⟨v, v1, by rw [if_pos (by omega)]; exact v2, ?_, v4⟩
      rw [p4 _ (by omega) (by omega)]
      exact v3
    · obtain ⟨v, v1, v2, v3, v4⟩ := hcell (a + 1) (by omega) c hc3 k hk7
      refine ⟨v, v1, ?_, ?_, v4⟩
      · rw [if_neg (by omega), show (a * 3 + c) * 7 + k + 21 = ((a + 1) * 3 + c) * 7 + k by omega]
        exact v2
      · rw [p3 _ (by omega) (by omega), show 3 + (a * 3 + c) * 7 + k + 21 = 3 + ((a + 1) * 3 + c) * 7 + k by omega]
        exact v3
theorem X3put_any {i c k p : Nat} {num : Nat → Int32} {v : Int32} (hi : i < 5) (hc : c < 3) (hk : k < 7) (hp : 0 < p) (hp2 : p < 1000) : fX3_put 105 (5 : Int32) (3 : Int32) (7 : Int32) (nI p) num (nI i) (nI c) (nI k) v = some (upd num ((i * 3 + c) * 7 + k) (nI (md v.toInt p))) := by
  have e : ((nI i * (3 : Int32)) + nI c) * (7 : Int32) + nI k = nI ((i * 3 + c) * 7 + k) := by
    rw [show (3 : Int32) = nI 3 from rfl, show (7 : Int32) = nI 7 from rfl, pk_mul, nI_add, pk_mul, nI_add]
  unfold fX3_put
  rw [if_neg (nI_pos (by omega)), if_neg (show ¬ (5 : Int32) ≤ nI i from (nI_ge hi (by omega) : ¬ nI 5 ≤ nI i)), if_neg (nI_pos (by omega)), if_neg (show ¬ (3 : Int32) ≤ nI c from (nI_ge hc (by omega) : ¬ nI 3 ≤ nI c)), if_neg (nI_pos (by omega)), if_neg (show ¬ (7 : Int32) ≤ nI k from (nI_ge hk (by omega) : ¬ nI 7 ≤ nI k)), bd_t rfl, if_neg (by decide), bd_t (fm_any hp hp2), e, gd_t (vp_in_nI (by omega) (by omega)), nI_clamp (by omega)]
theorem X4entryAt {E : Nat → Int32} {c q : Nat} (hc : c < 3) (hq : q < 7) : fX4_entryAt E (nI c) (nI q) = some (E (7 * c + q)) := by
  have e : fX4_entryIndex (nI c) (nI q) = some (nI (7 * c + q)) := by
    unfold fX4_entryIndex
    rw [if_neg (show ¬ fX7_isWithin (nI c) (0 : Int32) (2 : Int32) = 0 from wi_yes (lo := 0) (hi := 2) (by omega) (by omega) (by omega)), if_neg (show ¬ fX7_isWithin (nI q) (0 : Int32) (6 : Int32) = 0 from wi_yes (lo := 0) (hi := 6) (by omega) (by omega) (by omega)), bd_t rfl, if_neg (by decide), show (7 : Int32) = nI 7 from rfl, pk_mul, nI_add, Nat.mul_comm]
  unfold fX4_entryAt
  rw [bd_t e, if_neg (nI_pos (by omega)), if_neg (show ¬ (21 : Int32) ≤ nI (7 * c + q) from (nI_ge (by omega) (by omega) : ¬ nI 21 ≤ nI (7 * c + q))), gd_t (vp_in_nI (by omega) (by omega)), nI_clamp (by omega)]
theorem act_r {npp ncolumns ncount : Int32} {nnum all : Nat → Int32} {E E2 : Nat → Int32} (hst : stRel npp ncolumns ncount nnum all) (hE : ∀ k, k < 21 → E k = E2 k) : ∃ r c2 num2, fX7_addScriptRow npp ncolumns ncount nnum E = some (r, c2, num2) ∧ ∃ m, fX8_rows all = some m ∧ ((r = -4 ∧ m = 5) ∨ (fX7_isError r = 0 ∧ ¬ m = 5 ∧ ∃ w A, fX8_laysRow all E2 = some (w, A) ∧ stRel npp ncolumns c2 num2 A)) := by
  have hst2 := hst
  obtain ⟨p, C, n, hp, hC1, hC, hn, e1, e2, e3, b0, b1, b2, hcell⟩ := hst2
  subst e1 e2 e3
  have hp0 : 0 < p := by omega
  unfold fX7_addScriptRow
  rw [X8rows b2]
  by_cases hq : n = 5
  · have hc : fX3_append 105 (5 : Int32) (3 : Int32) (7 : Int32) (nI p) (nI n) nnum = some (-4, nI n, nnum) := by
      unfold fX3_append
      rw [hq, if_neg (by decide)]
    rw [bd3_t hc, if_pos rfl]
    exact ⟨_, _, _, rfl, _, rfl, Or.inl ⟨rfl, by rw [hq]; rfl⟩⟩
  · have hq2 : ¬ nI n = (5 : Int32) := fun e => hq ((nI_eq (by omega) (by omega)).mp (show nI n = nI 5 from e))
    obtain ⟨num1, hc, hd⟩ := X3append (L := 105) (R := 5) (w := 3) (q := 7) (n := n) (p := p) (num := nnum) rfl (by omega) (by omega) (by omega) (by omega) (by omega) (by omega) (by omega)
    obtain ⟨A1, p1, p2, p3, p4⟩ := X8rowNow (n := n) b2 (by omega)
    obtain ⟨num2, h1, h2, h3⟩ := Lp_arr2 (gi := fun i_1 z => fX7_addScriptRow_s32 (nI p) E i_1 (nI n) z.1 z.2) (go := fun z => fX7_addScriptRow_s19 (nI p) (nI C) E (nI n) z.1 z.2) (W := C) (a := 0) (N := 7) (A := num1) (fun c k => (n * 3 + c) * 7 + k) (fun c k => nI (md (E (7 * c + k)).toInt p)) (by omega) (fun e m e' m' _ _ _ _ _ _ h => by omega)
      (fun c k s hc' _ hk _ => by
        dsimp only
        unfold fX7_addScriptRow_s32
        rw [if_neg (show ¬ (6 : Int32) < nI k from (nI_nlt (by omega) (by omega) : ¬ nI 6 < nI k)), bd_t (X4entryAt (by omega) hk), bd_t (X3put_any (by omega) (by omega) hk hp0 (by omega))])
      (fun c s hc' => by
        dsimp only
        unfold fX7_addScriptRow_s32
        rw [if_pos (show (6 : Int32) < nI 7 by decide)])
      (fun c s hc' _ => by
        dsimp only
        unfold fX7_addScriptRow_s19
        rw [if_neg (nI_ge hc' (by omega))]
        rfl)
      (fun s _ => by
        dsimp only
        unfold fX7_addScriptRow_s19
        rw [if_pos (nI_le (Nat.le_refl _) (by omega))])
    obtain ⟨A2, q1, q2, q3⟩ := Lp_arr (g := fun (z : Int32 × (Nat → Int32)) => fX8_laysRow_s7 E2 (nI n) z.1 z.2) (a := 0) (N := C * 7) (A := A1) (fun k => 3 + n * 21 + k) (fun k => nI (md (E2 k).toInt p)) (by omega) (fun i j _ h _ => by omega) (fun k s _ hk hs => by
      dsimp only
      unfold fX8_laysRow_s7
      have s0 : s 0 = nI p := (hs 0 (fun j _ hj => by omega)).trans ((p4 0 (by omega) (by omega)).trans b0)
      have s1 : s 1 = nI C := (hs 1 (fun j _ hj => by omega)).trans ((p4 1 (by omega) (by omega)).trans b1)
      rw [bd_t (X8width s1), show nI C * (7 : Int32) = nI (C * 7) from pk_mul C 7, if_neg (nI_ge hk (by omega)), gd_t (vp_in_nI (by omega) (by omega)), nI_clamp (by omega), bd_t (X8left_any s0 hp0 (by omega)), show fX8_place (nI n) (0 : Int32) (nI k) = nI (3 + (n * 3 + 0) * 7 + k) from X8place n 0 k, gd_t (vp_in_nI (by omega) (by omega)), nI_clamp (by omega), show 3 + (n * 3 + 0) * 7 + k = 3 + n * 21 + k by omega]) (fun s hs => by
      dsimp only
      unfold fX8_laysRow_s7
      have s1 : s 1 = nI C := (hs 1 (fun j _ hj => by omega)).trans ((p4 1 (by omega) (by omega)).trans b1)
      rw [bd_t (X8width s1), show nI C * (7 : Int32) = nI (C * 7) from pk_mul C 7, if_pos (nI_le (Nat.le_refl _) (by omega))])
    have q0 : fX8_laysRow all E2 = some (nI n, A2) := by
      unfold fX8_laysRow
      rw [bd2_t p1]
      exact bd_t q1
    rw [bd3_t (show fX3_append 105 (5 : Int32) (3 : Int32) (7 : Int32) (nI p) (nI n) nnum = _ from hc), if_neg (fun z => nI_pos (show n < 2 ^ 31 by omega) (by rw [z]; decide))]
    refine ⟨_, _, _, bd_t h1, _, rfl, Or.inr ⟨isErr_nI (by omega), hq2, _, A2, q0, p, C, n + 1, hp, hC1, hC, by omega, rfl, rfl, rfl, (q3 0 (fun j _ _ => by omega)).trans ((p4 0 (by omega) (by omega)).trans b0), (q3 1 (fun j _ _ => by omega)).trans ((p4 1 (by omega) (by omega)).trans b1), (q3 2 (fun j _ _ => by omega)).trans p2, ?_⟩⟩
    intro i hi c hc3 k hk7
    by_cases e : i = n
    · subst e
      by_cases hcC : c < C
      · refine ⟨_, md_lt hp0, h2 c k hcC (by omega) hk7, ?_, fun h => absurd h (by omega)⟩
        rw [show 3 + (i * 3 + c) * 7 + k = 3 + i * 21 + (7 * c + k) by omega, q2 (7 * c + k) (by omega) (by omega), hE (7 * c + k) (by omega)]
      · refine ⟨0, hp0, ?_, ?_, fun _ => rfl⟩
        · rw [h3 _ (fun c' k' h1 _ h2 => by omega), hd i c k hc3 hk7, if_pos rfl]; rfl
        · rw [show 3 + (i * 3 + c) * 7 + k = 3 + i * 21 + (c * 7 + k) by omega, q3 _ (fun j _ hj => by omega)]
          exact p3 _ (by omega)
    · obtain ⟨v, v1, v2, v3, v4⟩ := hcell i (by omega) c hc3 k hk7
      refine ⟨v, v1, ?_, ?_, v4⟩
      · rw [h3 _ (fun c' k' h1 _ h2 => by omega), hd i c k hc3 hk7, if_neg e]; exact v2
      · rw [q3 _ (fun j _ hj => by omega), p4 _ (by omega) (by omega)]
        exact v3
theorem X4digitAt {D : Nat → Int32} {k : Nat} (hk : k < 4) : fX4_digitAt D (nI k) = some (D k) := by
  unfold fX4_digitAt
  rw [if_neg (nI_pos (by omega)), if_neg (show ¬ (4 : Int32) ≤ nI k from (nI_ge hk (by omega) : ¬ nI 4 ≤ nI k)), gd_t (vp_in_nI (by omega) (by omega)), nI_clamp (by omega)]
theorem carry_both {npp ncolumns ncount : Int32} {nnum all : Nat → Int32} {D E N E2 : Nat → Int32} {a : Int32} (hst : stRel npp ncolumns ncount nnum all) (hl : isL a) (ha : agr a D E N E2) : act (fX7_carryOut npp ncolumns ncount nnum a D E) (fX8_can all N a) (fX8_does all N E2 a) := by
  have hst2 := hst
  obtain ⟨p, C, n, hp, hC1, hC, hn, e1, e2, e3, b0, b1, b2, hcell⟩ := hst2
  have d0 : fX4_digitAt D (0 : Int32) = some (D 0) := X4digitAt (k := 0) (by omega)
  have z0 : (0 : Int32).toNatClampNeg = 0 := rfl
  unfold fX7_carryOut fX8_can fX8_does
  rw [bd_t d0]
  simp only [gd_t v04, z0]
  rcases hl with e | e | e | e | e | e <;> subst e
  · -- p
    obtain ⟨d, hd, f1, f2, -, f3⟩ := ha.2.2 (by decide)
    have f3 := f3 rfl
    have i1 : fX7_isPrime (nI d) = some 1 := by rcases f3 with e | e | e | e <;> subst e <;> rfl
    have hc : fX7_changePrime npp ncolumns ncount (nI d) = some (npp, nI d, ncolumns, 0) := by
      unfold fX7_changePrime
      rw [bd_t i1, if_neg (by decide)]
      rfl
    obtain ⟨A, p1, p2, p3, p4⟩ := X8primeNow (all := all) (x := npp) (b0.trans e1.symm) (nI d)
    rw [if_neg (by decide), if_pos rfl, f1, bd4_t hc, if_neg (by decide), if_neg (by decide), if_neg (by decide), if_neg (by decide), if_pos rfl, f2, bd2_t p1]
    exact ⟨_, _, _, _, _, rfl, Or.inr ⟨by rw [e1]; exact isErr_nI (by omega), rfl, A, rfl, d, C, 0, f3, hC1, hC, by omega, rfl, e2, rfl, p2, p3.trans b1, p4, fun i hi => absurd hi (by omega)⟩⟩
  · -- c
    obtain ⟨d, hd, f1, f2, f3, -⟩ := ha.2.2 (by decide)
    have f3 := f3 rfl
    have hc : fX7_changeColumns npp ncolumns ncount (nI d) = some (ncolumns, npp, nI d, 0) := by
      unfold fX7_changeColumns
      rw [if_neg (show ¬ fX7_isWithin (nI d) 1 3 = 0 from wi_yes (lo := 1) (hi := 3) (by omega) (by omega) (by omega))]
      rfl
    obtain ⟨A, p1, p2, p3, p4⟩ := X8columnsNow (all := all) (x := ncolumns) (b1.trans e2.symm) (nI d)
    rw [if_pos rfl, f1, bd4_t hc, if_neg (by decide), if_neg (by decide), if_neg (by decide), if_neg (by decide), if_neg (by decide), if_pos rfl, f2, bd2_t p1]
    exact ⟨_, _, _, _, _, rfl, Or.inr ⟨by rw [e2]; exact isErr_nI (by omega), rfl, A, rfl, p, d, 0, hp, by omega, by omega, by omega, e1, rfl, rfl, p2.trans b0, p3, p4, fun i hi => absurd hi (by omega)⟩⟩
  · -- r
    obtain ⟨r, c2, num2, h1, m, h2, h3⟩ := act_r hst (ha.1 rfl)
    rw [if_neg (by decide), if_neg (by decide), if_pos rfl, bd3_t h1, if_neg (by decide), if_pos rfl, bd_t h2]
    rcases h3 with ⟨h3, h4⟩ | ⟨h3, h4, w, A, h5, h6⟩
    · rw [if_pos h4]
      exact ⟨_, _, _, _, _, rfl, Or.inl ⟨Or.inr (Or.inr h3), by rw [h3]⟩⟩
    · rw [if_neg h4, if_neg (by decide), if_neg (by decide), if_pos rfl, bd2_t h5]
      exact ⟨_, _, _, _, _, rfl, Or.inr ⟨h3, rfl, A, rfl, h6⟩⟩
  · -- x
    obtain ⟨r, c2, num2, h1, h2⟩ := act_x (D 0) hst
    obtain ⟨d, hd, f1, f2, -, -⟩ := ha.2.2 (by decide)
    have fe : D 0 = N 0 := by rw [f1, f2]
    rw [if_neg (by decide), if_neg (by decide), if_neg (by decide), if_neg (by decide), if_pos rfl, bd3_t h1, if_neg (by decide), if_neg (by decide), if_neg (by decide), if_pos rfl, if_neg (by decide), if_neg (by decide), if_neg (by decide), if_pos rfl, ← fe]
    rcases h2 with ⟨h2, -, h3⟩ | ⟨h2, h3, w, A, h4, h5⟩
    · rw [bd_t h3, if_pos rfl]
      exact ⟨_, _, _, _, _, rfl, Or.inl ⟨Or.inl h2, by rw [h2]⟩⟩
    · rw [bd_t h3, if_neg (by decide), bd2_t h4]
      exact ⟨_, _, _, _, _, rfl, Or.inr ⟨h2, rfl, A, rfl, h5⟩⟩
  · -- s
    have f := ha.2.1 rfl
    have fe : ∀ k, k < 4 → D k = N k := fun k hk => by
      obtain ⟨d, -, f1, f2⟩ := f k hk
      rw [f1, f2]
    have d1 : fX4_digitAt D (1 : Int32) = some (D 1) := X4digitAt (k := 1) (by omega)
    have d2 : fX4_digitAt D (2 : Int32) = some (D 2) := X4digitAt (k := 2) (by omega)
    have d3 : fX4_digitAt D (3 : Int32) = some (D 3) := X4digitAt (k := 3) (by omega)
    have w1 : vp_in (1 : Int32) 4 := (vp_in_nI (by omega) (by omega) : vp_in (nI 1) 4)
    have w2 : vp_in (2 : Int32) 4 := (vp_in_nI (by omega) (by omega) : vp_in (nI 2) 4)
    have w3 : vp_in (3 : Int32) 4 := (vp_in_nI (by omega) (by omega) : vp_in (nI 3) 4)
    simp only [gd_t w1, gd_t w2, gd_t w3, show (1 : Int32).toNatClampNeg = 1 from rfl, show (2 : Int32).toNatClampNeg = 2 from rfl, show (3 : Int32).toNatClampNeg = 3 from rfl]
    obtain ⟨r, num2, h1, h2⟩ := act_s (D 0) (D 1) (D 2) (D 3) hst
    rw [if_neg (by decide), if_neg (by decide), if_neg (by decide), if_pos trivial, bd_t d1, bd_t d2, bd_t d3, bd2_t h1, if_neg (by decide), if_neg (by decide), if_pos trivial, if_neg (by decide), if_neg (by decide), if_neg (by decide), if_neg (by decide), if_pos trivial, ← fe 0 (by omega), ← fe 1 (by omega), ← fe 2 (by omega), ← fe 3 (by omega)]
    rcases h2 with ⟨h2, h3⟩ | ⟨h2, h3, w, A, h4, h5⟩
    · rw [bd_t h3]
      exact ⟨_, _, _, _, _, rfl, Or.inl ⟨h2, rfl⟩⟩
    · rw [bd_t h3, bd2_t h4]
      exact ⟨_, _, _, _, _, rfl, Or.inr ⟨h2, rfl, A, rfl, h5⟩⟩
  · -- m
    obtain ⟨r, num2, h1, h2⟩ := act_m (D 0) hst
    obtain ⟨d, hd, f1, f2, -, -⟩ := ha.2.2 (by decide)
    have fe : D 0 = N 0 := by rw [f1, f2]
    rw [if_neg (by decide), if_neg (by decide), if_neg (by decide), if_neg (by decide), if_neg (by decide), bd2_t h1, if_pos rfl, if_neg (by decide), if_neg (by decide), if_neg (by decide), if_neg (by decide), if_neg (by decide), ← fe]
    rcases h2 with ⟨h2, h3⟩ | ⟨h2, h3, w, A, h4, h5⟩
    · rw [bd_t h3]
      exact ⟨_, _, _, _, _, rfl, Or.inl ⟨h2, rfl⟩⟩
    · rw [bd_t h3, bd2_t h4]
      exact ⟨_, _, _, _, _, rfl, Or.inr ⟨h2, rfl, A, rfl, h5⟩⟩
