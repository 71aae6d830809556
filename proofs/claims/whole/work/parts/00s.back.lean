theorem sp_back {badCalls : Int32} {noCalls : Int32} {fullCalls : Int32} {stopError : Int32} {stopIndex : Int32} {npp : Int32} {ncolumns : Int32} {ncount : Int32} {nnum : Nat → Int32} {gcount : Int32} {gg0pp : Int32} {gg0columns : Int32} {gg0count : Int32} {gg0num : Nat → Int32} {gg1pp : Int32} {gg1columns : Int32} {gg1count : Int32} {gg1num : Nat → Int32} {gg2pp : Int32} {gg2columns : Int32} {gg2count : Int32} {gg2num : Nat → Int32} {gg3pp : Int32} {gg3columns : Int32} {gg3count : Int32} {gg3num : Nat → Int32} {gg4pp : Int32} {gg4columns : Int32} {gg4count : Int32} {gg4num : Nat → Int32} {clength : Int32} {cbytes : Nat → Int32} {states : Int32} {whyKind : Int32} {whyOrder : Int32} {textLong : Int32} {all : Nat → Int32} {past : Nat → Int32} {refused : Nat → Int32} {text : Nat → Int32} (hI : Inv badCalls noCalls fullCalls stopError stopIndex npp ncolumns ncount nnum gcount gg0pp gg0columns gg0count gg0num gg1pp gg1columns gg1count gg1num gg2pp gg2columns gg2count gg2num gg3pp gg3columns gg3count gg3num gg4pp gg4columns gg4count gg4num clength cbytes states whyKind whyOrder textLong all past refused text) : ∃ (r : Int32) (x_badCalls : Int32) (x_noCalls : Int32) (x_fullCalls : Int32) (x_npp : Int32) (x_ncolumns : Int32) (x_ncount : Int32) (x_nnum : Nat → Int32) (x_gcount : Int32) (m_states : Int32) (m_all : Nat → Int32) (m_refused : Nat → Int32), fX7_back badCalls noCalls fullCalls npp ncolumns ncount nnum gcount gg0pp gg0columns gg0count gg0num gg1pp gg1columns gg1count gg1num gg2pp gg2columns gg2count gg2num gg3pp gg3columns gg3count gg3num gg4pp gg4columns gg4count gg4num = some (r, x_badCalls, x_noCalls, x_fullCalls, x_npp, x_ncolumns, x_ncount, x_nnum, x_gcount) ∧ fX8_back states all past refused = some (r, m_states, m_all, m_refused) ∧ Inv x_badCalls x_noCalls x_fullCalls stopError stopIndex x_npp x_ncolumns x_ncount x_nnum x_gcount gg0pp gg0columns gg0count gg0num gg1pp gg1columns gg1count gg1num gg2pp gg2columns gg2count gg2num gg3pp gg3columns gg3count gg3num gg4pp gg4columns gg4count gg4num clength cbytes m_states whyKind whyOrder textLong m_all past m_refused text := by
  obtain ⟨hst, hk, c1, c2, c3, k1, k2, htx⟩ := hI
  unfold fX7_back fX8_back
  by_cases h0 : states = 0
  · have hr : fX1_restore gcount gg0pp gg0columns gg0count gg0num gg1pp gg1columns gg1count gg1num gg2pp gg2columns gg2count gg2num gg3pp gg3columns gg3count gg3num gg4pp gg4columns gg4count gg4num 105 npp ncolumns ncount nnum = some (0, gcount, npp, ncolumns, ncount, nnum) := by
      have hg : gcount = 0 := by
        obtain ⟨gn, -, g1, g2, -⟩ := hk
        rw [g1, ← g2, h0]
      unfold fX1_restore
      rw [hg, if_pos (by decide)]
    obtain ⟨x, y, z, m, s1, s2, s3⟩ := cnt_a (a := -3) (Or.inr (Or.inl rfl)) c1 c2 c3
    rw [bd6_t hr, if_pos rfl, bd4_t s1, if_pos h0, bd2_t s2]
    exact ⟨_, _, _, _, _, _, _, _, _, _, _, _, rfl, rfl, hst, hk, s3.1, s3.2.1, s3.2.2, k1, k2, htx⟩
  · obtain ⟨m, x, y, z, q, r1, r2, r3, r4, r5⟩ := restores (qpp := npp) (qcolumns := ncolumns) (qcount := ncount) (qnum := nnum) hk h0
    obtain ⟨A, h1, h2, h3⟩ := Lp_arr (g := fun (z : Int32 × (Nat → Int32)) => fX8_back_s26 states past z.1 z.2) (a := 0) (N := 108) (A := all) (fun k => k) (fun k => past (108 * m + k)) (by omega) (fun i j _ h _ => by omega) (fun k s hk1 hk2 _ => by
      dsimp only
      unfold fX8_back_s26
      have e : ((108 : Int32) * (states - (1 : Int32))) + nI k = nI (108 * m + k) := by
        rw [r1, show nI (m + 1) - (1 : Int32) = nI m from pk_sub (a := m + 1) (b := 1) (by omega)]
        show (nI 108 * nI m) + nI k = _
        rw [pk_mul, nI_add]
      rw [if_neg (show ¬ (108 : Int32) ≤ nI k from (nI_ge hk2 (by omega) : ¬ nI 108 ≤ nI k)), e, gd_t (vp_in_nI (by omega) (by omega)), gd_t (vp_in_nI (by omega) (by omega)), nI_clamp (by omega), nI_clamp (by omega)]) (fun s _ => by
      dsimp only
      unfold fX8_back_s26
      rw [if_pos (show (108 : Int32) ≤ nI 108 from nI_le (Nat.le_refl 108) (by omega))])
    have em : states - (1 : Int32) = nI m := by rw [r1]; exact pk_sub (a := m + 1) (b := 1) (by omega)
    rw [bd6_t r3, if_neg (by decide), if_neg h0, bd_t (show Lp (fun (z : Int32 × (Nat → Int32)) => fX8_back_s26 states past z.1 z.2) ((0 : Int32), all) = some A from h1), em]
    exact ⟨_, _, _, _, _, _, _, _, _, _, _, _, rfl, rfl, stRel_cong r4 (fun _ _ => rfl) (fun k hk => h2 k (by omega) hk), r5, c1, c2, c3, k1, k2, htx⟩
