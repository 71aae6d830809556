/-! the states kept: both sides alike -/
theorem isErr_nI {k : Nat} (h : k < 2 ^ 31) : fX7_isError (nI k) = 0 := by
  have hk : (nI k).toInt = (k : Int) := nI_toInt h
  have f : ∀ {z : Int32}, z.toInt < 0 → ¬ nI k = z := fun hz e => by rw [e] at hk; omega
  unfold fX7_isError
  rw [if_neg (f (by decide)), if_neg (f (by decide)), if_neg (f (by decide))]
theorem isErr_m1 : fX7_isError (-1) = 0 := by decide
theorem isErr_pv {k : Nat} (h : k < 2 ^ 31) : fX7_isError (pv k) = 0 := by
  cases k with
  | zero => exact isErr_m1
  | succ k => rw [pv_s]; exact isErr_nI (by omega)
theorem keeps {gcount states g0pp g0columns g0count g1pp g1columns g1count g2pp g2columns g2count g3pp g3columns g3count g4pp g4columns g4count : Int32} {g0num g1num g2num g3num g4num past : Nat → Int32} {bpp bcolumns bcount : Int32} {bnum all : Nat → Int32} (hk : keptRel gcount states g0pp g0columns g0count g1pp g1columns g1count g2pp g2columns g2count g3pp g3columns g3count g4pp g4columns g4count g0num g1num g2num g3num g4num past) (hs : stRel bpp bcolumns bcount bnum all) : ∃ (y y0pp y0columns y0count y1pp y1columns y1count y2pp y2columns y2count y3pp y3columns y3count y4pp y4columns y4count : Int32) (y0num y1num y2num y3num y4num : Nat → Int32) (st : Int32) (past2 : Nat → Int32), fX1_keep gcount g0pp g0columns g0count g0num g1pp g1columns g1count g1num g2pp g2columns g2count g2num g3pp g3columns g3count g3num g4pp g4columns g4count g4num 105 bpp bcolumns bcount bnum = some (y, y0pp, y0columns, y0count, y0num, y1pp, y1columns, y1count, y1num, y2pp, y2columns, y2count, y2num, y3pp, y3columns, y3count, y3num, y4pp, y4columns, y4count, y4num) ∧ fX8_keep states all past = some (st, past2) ∧ keptRel y st y0pp y0columns y0count y1pp y1columns y1count y2pp y2columns y2count y3pp y3columns y3count y4pp y4columns y4count y0num y1num y2num y3num y4num past2 := by
  obtain ⟨n, hn, e1, e2, hall⟩ := hk
  subst e1 e2
  obtain ⟨past2, k1, k2, k3⟩ := X8keep (all := all) (past := past) hn
  rcases (show n = 0 ∨ n = 1 ∨ n = 2 ∨ n = 3 ∨ n = 4 ∨ n = 5 by omega) with e | e | e | e | e | e <;> subst e
  · obtain ⟨q, q1, q2⟩ := copy105 g0num bnum bpp bcolumns bcount
    obtain ⟨c1, c2⟩ := k2 (by omega)
    refine ⟨nI 1, bpp, bcolumns, bcount, g1pp, g1columns, g1count, g2pp, g2columns, g2count, g3pp, g3columns, g3count, g4pp, g4columns, g4count, q, g1num, g2num, g3num, g4num, _, past2, ?_, k1, 1, by omega, rfl, rfl, ?_⟩
    · unfold fX1_keep
      rw [if_pos (by decide), bd21_t rfl]
      rw [if_neg (by decide), if_neg (by decide), gd_t (vp_in_nI (by omega) (by omega)), if_pos (by decide), bd4_t q1]
      rfl
    · intro j hj
      rcases (show j = 0 by omega) with e
      subst e
      · exact stRel_cong hs q2 (fun k hk => c1 k hk)
  · obtain ⟨q, q1, q2⟩ := copy105 g1num bnum bpp bcolumns bcount
    obtain ⟨c1, c2⟩ := k2 (by omega)
    refine ⟨nI 2, g0pp, g0columns, g0count, bpp, bcolumns, bcount, g2pp, g2columns, g2count, g3pp, g3columns, g3count, g4pp, g4columns, g4count, g0num, q, g2num, g3num, g4num, _, past2, ?_, k1, 2, by omega, rfl, rfl, ?_⟩
    · unfold fX1_keep
      rw [if_pos (by decide), bd21_t rfl]
      rw [if_neg (by decide), if_neg (by decide), gd_t (vp_in_nI (by omega) (by omega)), if_neg (by decide), if_pos (by decide), bd4_t q1]
      rfl
    · intro j hj
      rcases (show j = 0 ∨ j = 1 by omega) with e | e <;> subst e
      · exact stRel_cong (hall 0 (by omega)) (fun k _ => rfl) (fun k hk => c2 (108 * 0 + k) (by omega))
      · exact stRel_cong hs q2 (fun k hk => c1 k hk)
  · obtain ⟨q, q1, q2⟩ := copy105 g2num bnum bpp bcolumns bcount
    obtain ⟨c1, c2⟩ := k2 (by omega)
    refine ⟨nI 3, g0pp, g0columns, g0count, g1pp, g1columns, g1count, bpp, bcolumns, bcount, g3pp, g3columns, g3count, g4pp, g4columns, g4count, g0num, g1num, q, g3num, g4num, _, past2, ?_, k1, 3, by omega, rfl, rfl, ?_⟩
    · unfold fX1_keep
      rw [if_pos (by decide), bd21_t rfl]
      rw [if_neg (by decide), if_neg (by decide), gd_t (vp_in_nI (by omega) (by omega)), if_neg (by decide), if_neg (by decide), if_pos (by decide), bd4_t q1]
      rfl
    · intro j hj
      rcases (show j = 0 ∨ j = 1 ∨ j = 2 by omega) with e | e | e <;> subst e
      · exact stRel_cong (hall 0 (by omega)) (fun k _ => rfl) (fun k hk => c2 (108 * 0 + k) (by omega))
      · exact stRel_cong (hall 1 (by omega)) (fun k _ => rfl) (fun k hk => c2 (108 * 1 + k) (by omega))
      · exact stRel_cong hs q2 (fun k hk => c1 k hk)
  · obtain ⟨q, q1, q2⟩ := copy105 g3num bnum bpp bcolumns bcount
    obtain ⟨c1, c2⟩ := k2 (by omega)
    refine ⟨nI 4, g0pp, g0columns, g0count, g1pp, g1columns, g1count, g2pp, g2columns, g2count, bpp, bcolumns, bcount, g4pp, g4columns, g4count, g0num, g1num, g2num, q, g4num, _, past2, ?_, k1, 4, by omega, rfl, rfl, ?_⟩
    · unfold fX1_keep
      rw [if_pos (by decide), bd21_t rfl]
      rw [if_neg (by decide), if_neg (by decide), gd_t (vp_in_nI (by omega) (by omega)), if_neg (by decide), if_neg (by decide), if_neg (by decide), if_pos (by decide), bd4_t q1]
      rfl
    · intro j hj
      rcases (show j = 0 ∨ j = 1 ∨ j = 2 ∨ j = 3 by omega) with e | e | e | e <;> subst e
      · exact stRel_cong (hall 0 (by omega)) (fun k _ => rfl) (fun k hk => c2 (108 * 0 + k) (by omega))
      · exact stRel_cong (hall 1 (by omega)) (fun k _ => rfl) (fun k hk => c2 (108 * 1 + k) (by omega))
      · exact stRel_cong (hall 2 (by omega)) (fun k _ => rfl) (fun k hk => c2 (108 * 2 + k) (by omega))
      · exact stRel_cong hs q2 (fun k hk => c1 k hk)
  · obtain ⟨q, q1, q2⟩ := copy105 g4num bnum bpp bcolumns bcount
    obtain ⟨c1, c2⟩ := k2 (by omega)
    refine ⟨nI 5, g0pp, g0columns, g0count, g1pp, g1columns, g1count, g2pp, g2columns, g2count, g3pp, g3columns, g3count, bpp, bcolumns, bcount, g0num, g1num, g2num, g3num, q, _, past2, ?_, k1, 5, by omega, rfl, rfl, ?_⟩
    · unfold fX1_keep
      rw [if_pos (by decide), bd21_t rfl]
      rw [if_neg (by decide), if_neg (by decide), gd_t (vp_in_nI (by omega) (by omega)), if_neg (by decide), if_neg (by decide), if_neg (by decide), if_neg (by decide), bd4_t q1]
      rfl
    · intro j hj
      rcases (show j = 0 ∨ j = 1 ∨ j = 2 ∨ j = 3 ∨ j = 4 by omega) with e | e | e | e | e <;> subst e
      · exact stRel_cong (hall 0 (by omega)) (fun k _ => rfl) (fun k hk => c2 (108 * 0 + k) (by omega))
      · exact stRel_cong (hall 1 (by omega)) (fun k _ => rfl) (fun k hk => c2 (108 * 1 + k) (by omega))
      · exact stRel_cong (hall 2 (by omega)) (fun k _ => rfl) (fun k hk => c2 (108 * 2 + k) (by omega))
      · exact stRel_cong (hall 3 (by omega)) (fun k _ => rfl) (fun k hk => c2 (108 * 3 + k) (by omega))
      · exact stRel_cong hs q2 (fun k hk => c1 k hk)
  · obtain ⟨q, q1, q2⟩ := copy105 g0num bnum bpp bcolumns bcount
    obtain ⟨c1, c2⟩ := k3 rfl
    refine ⟨nI 5, g1pp, g1columns, g1count, g2pp, g2columns, g2count, g3pp, g3columns, g3count, g4pp, g4columns, g4count, bpp, bcolumns, bcount, g1num, g2num, g3num, g4num, q, _, past2, ?_, k1, 5, by omega, rfl, rfl, ?_⟩
    · unfold fX1_keep fX1_forgetOldest
      rw [if_neg (by decide), bd21_t rfl, bd21_t rfl, show nI 5 - (1 : Int32) = nI 4 from rfl]
      rw [if_neg (by decide), if_neg (by decide), gd_t (vp_in_nI (by omega) (by omega)), if_neg (by decide), if_neg (by decide), if_neg (by decide), if_neg (by decide), bd4_t q1]
      rfl
    · intro j hj
      rcases (show j = 0 ∨ j = 1 ∨ j = 2 ∨ j = 3 ∨ j = 4 by omega) with e | e | e | e | e <;> subst e
      · exact stRel_cong (hall 1 (by omega)) (fun k _ => rfl) (fun k hk => (c2 (108 * 0 + k) (by omega)).trans (congrArg past (by omega)))
      · exact stRel_cong (hall 2 (by omega)) (fun k _ => rfl) (fun k hk => (c2 (108 * 1 + k) (by omega)).trans (congrArg past (by omega)))
      · exact stRel_cong (hall 3 (by omega)) (fun k _ => rfl) (fun k hk => (c2 (108 * 2 + k) (by omega)).trans (congrArg past (by omega)))
      · exact stRel_cong (hall 4 (by omega)) (fun k _ => rfl) (fun k hk => (c2 (108 * 3 + k) (by omega)).trans (congrArg past (by omega)))
      · exact stRel_cong hs q2 (fun k hk => c1 k hk)
theorem settle_e {bad no full a gcount g0pp g0columns g0count g1pp g1columns g1count g2pp g2columns g2count g3pp g3columns g3count g4pp g4columns g4count bpp bcolumns bcount : Int32} {bnum g0num g1num g2num g3num g4num refused : Nat → Int32} (ha : a = -2 ∨ a = -3 ∨ a = -4) (h1 : bad = refused 0) (h2 : no = refused 1) (h3 : full = refused 2) : ∃ x y z m, fX7_settle bad no full bpp bcolumns bcount bnum gcount g0pp g0columns g0count g0num g1pp g1columns g1count g1num g2pp g2columns g2count g2num g3pp g3columns g3count g3num g4pp g4columns g4count g4num a = some (a, x, y, z, gcount, g0pp, g0columns, g0count, g0num, g1pp, g1columns, g1count, g1num, g2pp, g2columns, g2count, g2num, g3pp, g3columns, g3count, g3num, g4pp, g4columns, g4count, g4num) ∧ fX8_refuses refused a = some (a, m) ∧ x = m 0 ∧ y = m 1 ∧ z = m 2 := by
  obtain ⟨x, y, z, m, e1, e2, e3⟩ := cnt_a ha h1 h2 h3
  refine ⟨x, y, z, m, ?_, e2, e3⟩
  unfold fX7_settle
  have h : ¬ fX7_isError a = 0 := by
    rcases ha with e | e | e <;> subst e <;> decide
  rw [if_neg h, bd4_t e1]
theorem settle_k {bad no full a gcount states g0pp g0columns g0count g1pp g1columns g1count g2pp g2columns g2count g3pp g3columns g3count g4pp g4columns g4count bpp bcolumns bcount : Int32} {bnum g0num g1num g2num g3num g4num past all : Nat → Int32} (ha : fX7_isError a = 0) (hk : keptRel gcount states g0pp g0columns g0count g1pp g1columns g1count g2pp g2columns g2count g3pp g3columns g3count g4pp g4columns g4count g0num g1num g2num g3num g4num past) (hs : stRel bpp bcolumns bcount bnum all) : ∃ (y y0pp y0columns y0count y1pp y1columns y1count y2pp y2columns y2count y3pp y3columns y3count y4pp y4columns y4count : Int32) (y0num y1num y2num y3num y4num : Nat → Int32) (st : Int32) (past2 : Nat → Int32), fX7_settle bad no full bpp bcolumns bcount bnum gcount g0pp g0columns g0count g0num g1pp g1columns g1count g1num g2pp g2columns g2count g2num g3pp g3columns g3count g3num g4pp g4columns g4count g4num a = some (a, bad, no, full, y, y0pp, y0columns, y0count, y0num, y1pp, y1columns, y1count, y1num, y2pp, y2columns, y2count, y2num, y3pp, y3columns, y3count, y3num, y4pp, y4columns, y4count, y4num) ∧ fX8_keep states all past = some (st, past2) ∧ keptRel y st y0pp y0columns y0count y1pp y1columns y1count y2pp y2columns y2count y3pp y3columns y3count y4pp y4columns y4count y0num y1num y2num y3num y4num past2 := by
  obtain ⟨y, y0pp, y0columns, y0count, y1pp, y1columns, y1count, y2pp, y2columns, y2count, y3pp, y3columns, y3count, y4pp, y4columns, y4count, y0num, y1num, y2num, y3num, y4num, st, past2, e1, e2, e3⟩ := keeps hk hs
  refine ⟨y, y0pp, y0columns, y0count, y1pp, y1columns, y1count, y2pp, y2columns, y2count, y3pp, y3columns, y3count, y4pp, y4columns, y4count, y0num, y1num, y2num, y3num, y4num, st, past2, ?_, e2, e3⟩
  unfold fX7_settle
  rw [if_pos ha, bd21_t e1]
theorem restores {gcount states g0pp g0columns g0count g1pp g1columns g1count g2pp g2columns g2count g3pp g3columns g3count g4pp g4columns g4count : Int32} {g0num g1num g2num g3num g4num past : Nat → Int32} {qpp qcolumns qcount : Int32} {qnum : Nat → Int32} (hk : keptRel gcount states g0pp g0columns g0count g1pp g1columns g1count g2pp g2columns g2count g3pp g3columns g3count g4pp g4columns g4count g0num g1num g2num g3num g4num past) (h0 : ¬ states = 0) : ∃ (m : Nat) (x y z : Int32) (q : Nat → Int32), states = nI (m + 1) ∧ m < 5 ∧ fX1_restore gcount g0pp g0columns g0count g0num g1pp g1columns g1count g1num g2pp g2columns g2count g2num g3pp g3columns g3count g3num g4pp g4columns g4count g4num 105 qpp qcolumns qcount qnum = some (1, nI m, x, y, z, q) ∧ stRel x y z q (fun k => past (108 * m + k)) ∧ keptRel (nI m) (nI m) g0pp g0columns g0count g1pp g1columns g1count g2pp g2columns g2count g3pp g3columns g3count g4pp g4columns g4count g0num g1num g2num g3num g4num past := by
  obtain ⟨n, hn, e1, e2, hall⟩ := hk
  subst e1 e2
  rcases (show n = 0 ∨ n = 1 ∨ n = 2 ∨ n = 3 ∨ n = 4 ∨ n = 5 by omega) with e | e | e | e | e | e <;> subst e
  · exact absurd rfl h0
  · obtain ⟨q, q1, q2⟩ := copy105 qnum g0num g0pp g0columns g0count
    refine ⟨0, g0pp, g0columns, g0count, q, rfl, by omega, ?_, stRel_cong (hall 0 (by omega)) q2 (fun k _ => rfl), 0, by omega, rfl, rfl, fun j hj => hall j (by omega)⟩
    unfold fX1_restore
    rw [if_neg (by decide), if_pos (by decide), show nI 1 - (1 : Int32) = nI 0 from rfl, gd_t (vp_in_nI (by omega) (by omega)), if_pos (by decide), bd4_t q1]
  · obtain ⟨q, q1, q2⟩ := copy105 qnum g1num g1pp g1columns g1count
    refine ⟨1, g1pp, g1columns, g1count, q, rfl, by omega, ?_, stRel_cong (hall 1 (by omega)) q2 (fun k _ => rfl), 1, by omega, rfl, rfl, fun j hj => hall j (by omega)⟩
    unfold fX1_restore
    rw [if_neg (by decide), if_pos (by decide), show nI 2 - (1 : Int32) = nI 1 from rfl, gd_t (vp_in_nI (by omega) (by omega)), if_neg (by decide), if_pos (by decide), bd4_t q1]
  · obtain ⟨q, q1, q2⟩ := copy105 qnum g2num g2pp g2columns g2count
    refine ⟨2, g2pp, g2columns, g2count, q, rfl, by omega, ?_, stRel_cong (hall 2 (by omega)) q2 (fun k _ => rfl), 2, by omega, rfl, rfl, fun j hj => hall j (by omega)⟩
    unfold fX1_restore
    rw [if_neg (by decide), if_pos (by decide), show nI 3 - (1 : Int32) = nI 2 from rfl, gd_t (vp_in_nI (by omega) (by omega)), if_neg (by decide), if_neg (by decide), if_pos (by decide), bd4_t q1]
  · obtain ⟨q, q1, q2⟩ := copy105 qnum g3num g3pp g3columns g3count
    refine ⟨3, g3pp, g3columns, g3count, q, rfl, by omega, ?_, stRel_cong (hall 3 (by omega)) q2 (fun k _ => rfl), 3, by omega, rfl, rfl, fun j hj => hall j (by omega)⟩
    unfold fX1_restore
    rw [if_neg (by decide), if_pos (by decide), show nI 4 - (1 : Int32) = nI 3 from rfl, gd_t (vp_in_nI (by omega) (by omega)), if_neg (by decide), if_neg (by decide), if_neg (by decide), if_pos (by decide), bd4_t q1]
  · obtain ⟨q, q1, q2⟩ := copy105 qnum g4num g4pp g4columns g4count
    refine ⟨4, g4pp, g4columns, g4count, q, rfl, by omega, ?_, stRel_cong (hall 4 (by omega)) q2 (fun k _ => rfl), 4, by omega, rfl, rfl, fun j hj => hall j (by omega)⟩
    unfold fX1_restore
    rw [if_neg (by decide), if_pos (by decide), show nI 5 - (1 : Int32) = nI 4 from rfl, gd_t (vp_in_nI (by omega) (by omega)), if_neg (by decide), if_neg (by decide), if_neg (by decide), if_neg (by decide), bd4_t q1]
