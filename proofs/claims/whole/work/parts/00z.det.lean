theorem sp_det {badCalls : Int32} {noCalls : Int32} {fullCalls : Int32} {stopError : Int32} {stopIndex : Int32} {npp : Int32} {ncolumns : Int32} {ncount : Int32} {nnum : Nat → Int32} {gcount : Int32} {gg0pp : Int32} {gg0columns : Int32} {gg0count : Int32} {gg0num : Nat → Int32} {gg1pp : Int32} {gg1columns : Int32} {gg1count : Int32} {gg1num : Nat → Int32} {gg2pp : Int32} {gg2columns : Int32} {gg2count : Int32} {gg2num : Nat → Int32} {gg3pp : Int32} {gg3columns : Int32} {gg3count : Int32} {gg3num : Nat → Int32} {gg4pp : Int32} {gg4columns : Int32} {gg4count : Int32} {gg4num : Nat → Int32} {clength : Int32} {cbytes : Nat → Int32} {states : Int32} {whyKind : Int32} {whyOrder : Int32} {textLong : Int32} {all : Nat → Int32} {past : Nat → Int32} {refused : Nat → Int32} {text : Nat → Int32} (dchosenCount : Int32) (dnumbers : Nat → Int32) (dchosen : Nat → Int32) (chosen : Nat → Int32) (across : Nat → Int32) (sum : Nat → Int32) (one : Nat → Int32) (two : Nat → Int32) (a0 : Int32) (a1 : Int32) (hI : Inv badCalls noCalls fullCalls stopError stopIndex npp ncolumns ncount nnum gcount gg0pp gg0columns gg0count gg0num gg1pp gg1columns gg1count gg1num gg2pp gg2columns gg2count gg2num gg3pp gg3columns gg3count gg3num gg4pp gg4columns gg4count gg4num clength cbytes states whyKind whyOrder textLong all past refused text) : ∃ (r : Int32) (x_badCalls : Int32) (x_noCalls : Int32) (x_fullCalls : Int32) (x_dchosenCount : Int32) (x_dnumbers : Nat → Int32) (x_dchosen : Nat → Int32) (m_refused : Nat → Int32) (m_chosen : Nat → Int32) (m_across : Nat → Int32) (m_sum : Nat → Int32) (m_one : Nat → Int32) (m_two : Nat → Int32), fX7_det badCalls noCalls fullCalls npp ncolumns ncount nnum dchosenCount dnumbers dchosen a0 a1 = some (r, x_badCalls, x_noCalls, x_fullCalls, x_dchosenCount, x_dnumbers, x_dchosen) ∧ fX8_det all refused chosen across sum one two a0 a1 = some (r, m_refused, m_chosen, m_across, m_sum, m_one, m_two) ∧ Inv x_badCalls x_noCalls x_fullCalls stopError stopIndex npp ncolumns ncount nnum gcount gg0pp gg0columns gg0count gg0num gg1pp gg1columns gg1count gg1num gg2pp gg2columns gg2count gg2num gg3pp gg3columns gg3count gg3num gg4pp gg4columns gg4count gg4num clength cbytes states whyKind whyOrder textLong all past m_refused text := by
  obtain ⟨hst, hk, c1, c2, c3, hrest⟩ := hI
  have hst2 := hst
  obtain ⟨p, C, n, hp, hC1, hC, hn, e1, e2, e3, b0, b1, b2, hcell⟩ := hst2
  subst e1 e2 e3
  obtain ⟨V, hV⟩ := stV (by omega) hcell
  obtain ⟨x, y, z, m0, h2, h3, h4⟩ := cnt_a (a := -2) (Or.inl rfl) c1 c2 c3
  obtain ⟨x', y', z', m', i2, i3, i4⟩ := cnt_a (a := -3) (Or.inr (Or.inl rfl)) c1 c2 c3
  have hp0 : 0 < p := by omega
  unfold fX7_det fX8_det
  rw [bd_t (set_both hn b2), show fX8_in a1.toInt64 (-1 : Int64) (18 : Int64) = fX7_isWithin a1 (-1) 18 from in_wi a1 (-1) 18]
  by_cases g1 : fX3_hasSet (nI n) a0 = 0
  · rw [if_pos g1, if_pos g1, bd4_t h2, bd2_t h3]
    exact ⟨_, _, _, _, _, _, _, _, _, _, _, _, _, rfl, rfl, hst, hk, h4.1, h4.2.1, h4.2.2, hrest⟩
  rw [if_neg g1, if_neg g1]
  by_cases g2 : fX7_isWithin a1 (-1) 18 = 0
  · rw [if_pos g2, if_pos g2, bd4_t h2, bd2_t h3]
    exact ⟨_, _, _, _, _, _, _, _, _, _, _, _, _, rfl, rfl, hst, hk, h4.1, h4.2.1, h4.2.2, hrest⟩
  rw [if_neg g2, if_neg g2, bitc hn g1]
  obtain ⟨ch, q1, q2⟩ := X8chooses (ch := chosen) (a := a0) b2 hn
  have hle := cnt_le a0 n
  by_cases g3 : cnt a0 n = C
  · rw [g3] at q1 q2 ⊢
    rw [if_pos rfl]
    obtain ⟨D, dch, dq1, dq2⟩ := X0build (dn := dnumbers) (dc := dchosen) V hp hC1 hC hn g3 (fun i c k hi hc hk => ⟨(hV i c k hi hc hk).1, (hV i c k hi hc hk).2.1⟩)
    obtain ⟨sel, hsel⟩ := chosen_ex a0 n
    rw [g3] at hsel
    obtain ⟨ac, a1', a2', -⟩ := Lp_arr (g := fun (z : Int32 × (Nat → Int32)) => fX8_detOf_s24 z.1 z.2) (a := 0) (N := 3) (A := across) (fun k => k) (fun k => nI k) (by omega) (fun i j _ h _ => by omega) (fun k s _ hk _ => by
      dsimp only
      unfold fX8_detOf_s24
      rw [if_neg (show ¬ (3 : Int32) ≤ nI k from (nI_ge hk (by omega) : ¬ nI 3 ≤ nI k)), gd_t (vp_in_nI (by omega) (by omega)), nI_clamp (by omega)]) (fun s _ => by
      dsimp only
      unfold fX8_detOf_s24
      rw [if_pos (show (3 : Int32) ≤ nI 3 from (nI_le (Nat.le_refl 3) (by omega) : nI 3 ≤ nI 3))])
    obtain ⟨S, o2, t2, s1, s2, s3⟩ := X8determines (A := all) (ch := ch) (ac := ac) (sum := sum) (one := one) (two := two) (size := C) V sel (fun c => c) b0 (show 1 < p by omega) (by omega) hn (fun i c k hi hc hk => ⟨(hV i c k hi hc hk).1, (hV i c k hi hc hk).2.2.1⟩) hC1 hC (fun l hl => ⟨(hsel.1 l hl).1, q2 sel hsel l hl (by omega)⟩) (fun l hl => ⟨by omega, a2' l (by omega) (by omega)⟩)
    have hDS : ∀ K, K < 19 → D K = S K := by
      intro K hK
      obtain ⟨v, v1, v2⟩ := s2 K (by omega)
      have h9 := s3 K
      rw [show ap 25 S K = (S K).toInt from if_pos (by omega), v2, nI_toInt (by omega)] at h9
      obtain ⟨w, hw⟩ := md_dvd (x := dt C (rm V sel (fun c => c)) K) hp0
      obtain ⟨u, hu⟩ := h9
      rw [dq2 sel hsel K hK, v2, small_eq (md_lt (x := dt C (rm V sel (fun c => c)) K) hp0) v1 ⟨w - u, by rw [Int.mul_sub]; omega⟩]
    have hShi : ∀ K, 19 ≤ K → K < 25 → S K = 0 := by
      intro K hK hK2
      obtain ⟨v, v1, v2⟩ := s2 K hK2
      have h9 := s3 K
      have hz : dt C (rm V sel (fun c => c)) K = 0 := by
        have zz2 : ∀ a b K, 19 ≤ K → pm (rm V sel (fun c => c) 0 a) (rm V sel (fun c => c) 1 b) K = 0 := fun a b K hK => pm_hi (N := 7) (M := 7) en_hi en_hi (by omega)
        have zz3 : ∀ a b c K, 19 ≤ K → pm (pm (rm V sel (fun c => c) 0 a) (rm V sel (fun c => c) 1 b)) (rm V sel (fun c => c) 2 c) K = 0 := fun a b c K hK => pm_hi (N := 13) (M := 7) (fun k hk => pm_hi (N := 7) (M := 7) en_hi en_hi (by omega)) en_hi (by omega)
        unfold dt
        rcases (show C = 1 ∨ C = 2 ∨ C = 3 by omega) with e | e | e <;> subst e
        · rw [if_pos rfl]
          exact en_hi K (by omega)
        · rw [if_neg (by omega), if_pos rfl]
          unfold d2
          rw [pa_at, pn_at, zz2 _ _ K hK, zz2 _ _ K hK]
          rfl
        · rw [if_neg (by omega), if_neg (by omega)]
          unfold d3
          simp only [pa_at, pn_at, zz3 _ _ _ K hK]
          rfl
      rw [show ap 25 S K = (S K).toInt from if_pos hK2, v2, nI_toInt (by omega), hz] at h9
      rw [v2, small_eq v1 hp0 (by rw [Int.natCast_zero]; exact h9)]
      rfl
    have r1 : fX8_detOf all refused chosen across sum one two a0 a1 = (if a1 = (-1 : Int32) then some (pv (dgr (fun k => k < 25 ∧ S k ≠ 0) 25), refused, ch, ac, S, o2, t2) else gd (vp_in a1 25) (some ((S a1.toNatClampNeg), refused, ch, ac, S, o2, t2))) := by
      unfold fX8_detOf
      rw [bd2_t q1, bd_t (X8width b1), if_pos rfl]
      refine (bd_t a1').trans ?_
      rw [bd3_t s1]
      by_cases e : a1 = (-1 : Int32)
      · rw [if_pos e, if_pos e, bd_t (X8degreeOf S)]
      · rw [if_neg e, if_neg e]
    rw [bd3_t dq1, r1]
    by_cases e : a1 = (-1 : Int32)
    · rw [if_pos e, if_pos e, bd_t (X0degree D), bd7_t rfl]
      have hd : dgr (fun k => D k ≠ 0) 19 = dgr (fun k => k < 25 ∧ S k ≠ 0) 25 := dgr_congr (by omega) (fun k hk => by rw [hDS k hk]; exact ⟨fun z => ⟨by omega, z⟩, fun z => z.2⟩) (fun k hk hk2 z => z.2 (hShi k hk hk2))
      rw [hd]
      exact ⟨_, _, _, _, _, _, _, _, _, _, _, _, _, rfl, rfl, hst, hk, c1, c2, c3, hrest⟩
    · rw [if_neg e, if_neg e]
      have hk18 : ∃ k, k ≤ 18 ∧ a1 = nI k := by
        unfold fX7_isWithin at g2
        by_cases w1 : a1 < (-1 : Int32)
        · rw [if_pos w1] at g2; exact absurd rfl g2
        · rw [if_neg w1] at g2
          by_cases w2 : (18 : Int32) < a1
          · rw [if_pos w2] at g2; exact absurd rfl g2
          · rw [Int32.lt_iff_toInt_lt, show (-1 : Int32).toInt = -1 by decide] at w1
            rw [Int32.lt_iff_toInt_lt, show (18 : Int32).toInt = 18 by decide] at w2
            have w3 : a1.toInt ≠ -1 := fun q => e (i32_eq (by rw [q]; decide))
            exact ⟨a1.toInt.toNat, by omega, i32_nI (by omega) (by omega)⟩
      obtain ⟨k, hk18, ek⟩ := hk18
      subst ek
      have w : fX0_at D (nI k) = some (S k) := by
        unfold fX0_at
        rw [if_neg (nI_pos (by omega)), if_neg (show ¬ (19 : Int32) ≤ nI k from (nI_ge (by omega) (by omega) : ¬ nI 19 ≤ nI k)), gd_t (vp_in_nI (by omega) (by omega)), nI_clamp (by omega), hDS k (by omega)]
      rw [bd_t w, gd_t (vp_in_nI (by omega) (by omega)), nI_clamp (by omega), bd7_t rfl]
      exact ⟨_, _, _, _, _, _, _, _, _, _, _, _, _, rfl, rfl, hst, hk, c1, c2, c3, hrest⟩
  · have hne : ¬ nI (cnt a0 n) = nI C := fun e => g3 ((nI_eq (by omega) (by omega)).mp e)
    have r1 : fX8_detOf all refused chosen across sum one two a0 a1 = some (-3, m', ch, across, sum, one, two) := by
      unfold fX8_detOf
      rw [bd2_t q1, bd_t (X8width b1), if_neg hne, bd2_t i3]
    rw [if_neg hne, bd4_t i2, bd7_t r1]
    exact ⟨_, _, _, _, _, _, _, _, _, _, _, _, _, rfl, rfl, hst, hk, i4.1, i4.2.1, i4.2.2, hrest⟩
