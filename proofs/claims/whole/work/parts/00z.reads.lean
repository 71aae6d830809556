/-! a text -/
theorem bx12_t {α1 α2 α3 α4 α5 α6 α7 α8 α9 α10 α11 α12 β : Type} {o : Option ((α1 × α2 × α3 × α4 × α5 × α6 × α7 × α8 × α9 × α10 × α11 × α12) ⊕ β)} {K : α1 → α2 → α3 → α4 → α5 → α6 → α7 → α8 → α9 → α10 → α11 → α12 → Option β} {a1 : α1} {a2 : α2} {a3 : α3} {a4 : α4} {a5 : α5} {a6 : α6} {a7 : α7} {a8 : α8} {a9 : α9} {a10 : α10} {a11 : α11} {a12 : α12} (h : o = some (.inl (a1, a2, a3, a4, a5, a6, a7, a8, a9, a10, a11, a12))) : bx12 o K = K a1 a2 a3 a4 a5 a6 a7 a8 a9 a10 a11 a12 := by rw [h]; rfl
theorem bx8_t {α1 α2 α3 α4 α5 α6 α7 α8 β : Type} {o : Option ((α1 × α2 × α3 × α4 × α5 × α6 × α7 × α8) ⊕ β)} {K : α1 → α2 → α3 → α4 → α5 → α6 → α7 → α8 → Option β} {a1 : α1} {a2 : α2} {a3 : α3} {a4 : α4} {a5 : α5} {a6 : α6} {a7 : α7} {a8 : α8} (h : o = some (.inl (a1, a2, a3, a4, a5, a6, a7, a8))) : bx8 o K = K a1 a2 a3 a4 a5 a6 a7 a8 := by rw [h]; rfl
theorem bx12_r {α1 α2 α3 α4 α5 α6 α7 α8 α9 α10 α11 α12 β : Type} {o : Option ((α1 × α2 × α3 × α4 × α5 × α6 × α7 × α8 × α9 × α10 × α11 × α12) ⊕ β)} {K : α1 → α2 → α3 → α4 → α5 → α6 → α7 → α8 → α9 → α10 → α11 → α12 → Option β} {b : β} (h : o = some (.inr b)) : bx12 o K = some b := by rw [h]; rfl
theorem bx8_r {α1 α2 α3 α4 α5 α6 α7 α8 β : Type} {o : Option ((α1 × α2 × α3 × α4 × α5 × α6 × α7 × α8) ⊕ β)} {K : α1 → α2 → α3 → α4 → α5 → α6 → α7 → α8 → Option β} {b : β} (h : o = some (.inr b)) : bx8 o K = some b := by rw [h]; rfl
theorem rc_spn {L s : Nat} {B D E : Nat → Int32} {rc : Int32} (hL : L ≤ 150) (hs : s ≤ L) : fX4_readCommand (nI L) (nI (spn L B s)) rc B D E = fX4_readCommand (nI L) (nI s) rc B D E := by
  have hs2 := spn_spec B hs
  unfold fX4_readCommand
  rw [bd_t (X4skipBlanks hL hs), bd_t (X4skipBlanks hL hs2.2.1), spn_id hs2.2.2]
theorem X4hasMore {L s : Nat} {B : Nat → Int32} (hL : L ≤ 150) (hs : s ≤ L) : fX4_hasMore (nI L) (nI s) B = some (if spn L B s < L then ((1 : Int32), nI (spn L B s)) else (0, nI (spn L B s))) := by
  have hs2 := spn_spec B hs
  unfold fX4_hasMore
  rw [bd_t (X4skipBlanks hL hs)]
  by_cases h : spn L B s < L
  · rw [if_neg (nI_ge h (by omega)), if_pos h]
  · rw [if_pos (nI_le (by omega) (by omega)), if_neg h]
theorem X8copies (A b : Nat → Int32) : ∃ x, Lp (fun (z : Int32 × (Nat → Int32)) => fX8_reads_s56 A z.1 z.2) ((0 : Int32), b) = some x ∧ ∀ k, k < 108 → x k = A k := by
  obtain ⟨r, f1, f2, -⟩ := Lp_arr (g := fun (z : Int32 × (Nat → Int32)) => fX8_reads_s56 A z.1 z.2) (a := 0) (N := 108) (A := b) (fun k => k) (fun k => A k) (by omega) (fun i j _ h _ => by omega) (fun k s _ hk _ => by
    dsimp only
    unfold fX8_reads_s56
    have v := vp_in_nI (n := k) (N := 108) hk (by omega)
    rw [if_neg (show ¬ (108 : Int32) ≤ nI k from (nI_ge hk (by omega) : ¬ nI 108 ≤ nI k)), gd_t v, gd_t v, nI_clamp (by omega)]) (fun s _ => by
    dsimp only
    unfold fX8_reads_s56
    rw [if_pos (show (108 : Int32) ≤ nI 108 from (nI_le (Nat.le_refl 108) (by omega) : nI 108 ≤ nI 108))])
  exact ⟨r, f1, fun k hk => f2 k (by omega) hk⟩
theorem sp_reads {badCalls : Int32} {noCalls : Int32} {fullCalls : Int32} {stopError : Int32} {stopIndex : Int32} {npp : Int32} {ncolumns : Int32} {ncount : Int32} {nnum : Nat → Int32} {gcount : Int32} {gg0pp : Int32} {gg0columns : Int32} {gg0count : Int32} {gg0num : Nat → Int32} {gg1pp : Int32} {gg1columns : Int32} {gg1count : Int32} {gg1num : Nat → Int32} {gg2pp : Int32} {gg2columns : Int32} {gg2count : Int32} {gg2num : Nat → Int32} {gg3pp : Int32} {gg3columns : Int32} {gg3count : Int32} {gg3num : Nat → Int32} {gg4pp : Int32} {gg4columns : Int32} {gg4count : Int32} {gg4num : Nat → Int32} {clength : Int32} {cbytes : Nat → Int32} {states : Int32} {whyKind : Int32} {whyOrder : Int32} {textLong : Int32} {all : Nat → Int32} {past : Nat → Int32} {refused : Nat → Int32} {text : Nat → Int32} (bnum : Nat → Int32) (cletter : Int32) (cdigits : Nat → Int32) (centries : Nat → Int32) (numbers : Nat → Int32) (entries : Nat → Int32) (before : Nat → Int32) (hI : Inv badCalls noCalls fullCalls stopError stopIndex npp ncolumns ncount nnum gcount gg0pp gg0columns gg0count gg0num gg1pp gg1columns gg1count gg1num gg2pp gg2columns gg2count gg2num gg3pp gg3columns gg3count gg3num gg4pp gg4columns gg4count gg4num clength cbytes states whyKind whyOrder textLong all past refused text) : ∃ (r : Int32) (x_stopError : Int32) (x_stopIndex : Int32) (x_npp : Int32) (x_ncolumns : Int32) (x_ncount : Int32) (x_nnum : Nat → Int32) (x_bpp : Int32) (x_bcolumns : Int32) (x_bcount : Int32) (x_bnum : Nat → Int32) (x_gcount : Int32) (x_gg0pp : Int32) (x_gg0columns : Int32) (x_gg0count : Int32) (x_gg0num : Nat → Int32) (x_gg1pp : Int32) (x_gg1columns : Int32) (x_gg1count : Int32) (x_gg1num : Nat → Int32) (x_gg2pp : Int32) (x_gg2columns : Int32) (x_gg2count : Int32) (x_gg2num : Nat → Int32) (x_gg3pp : Int32) (x_gg3columns : Int32) (x_gg3count : Int32) (x_gg3num : Nat → Int32) (x_gg4pp : Int32) (x_gg4columns : Int32) (x_gg4count : Int32) (x_gg4num : Nat → Int32) (x_cplace : Int32) (x_cletter : Int32) (x_crowColumns : Int32) (x_cdigits : Nat → Int32) (x_centries : Nat → Int32) (m_states : Int32) (m_whyKind : Int32) (m_whyOrder : Int32) (m_spot : Int32) (m_readColumns : Int32) (m_all : Nat → Int32) (m_past : Nat → Int32) (m_numbers : Nat → Int32) (m_entries : Nat → Int32) (m_before : Nat → Int32), fX7_reads stopError stopIndex npp ncolumns ncount nnum bnum gcount gg0pp gg0columns gg0count gg0num gg1pp gg1columns gg1count gg1num gg2pp gg2columns gg2count gg2num gg3pp gg3columns gg3count gg3num gg4pp gg4columns gg4count gg4num clength cletter cbytes cdigits centries = some (r, x_stopError, x_stopIndex, x_npp, x_ncolumns, x_ncount, x_nnum, x_bpp, x_bcolumns, x_bcount, x_bnum, x_gcount, x_gg0pp, x_gg0columns, x_gg0count, x_gg0num, x_gg1pp, x_gg1columns, x_gg1count, x_gg1num, x_gg2pp, x_gg2columns, x_gg2count, x_gg2num, x_gg3pp, x_gg3columns, x_gg3count, x_gg3num, x_gg4pp, x_gg4columns, x_gg4count, x_gg4num, x_cplace, x_cletter, x_crowColumns, x_cdigits, x_centries) ∧ fX8_reads states whyKind whyOrder textLong all past text numbers entries before = some (r, m_states, m_whyKind, m_whyOrder, m_spot, m_readColumns, m_all, m_past, m_numbers, m_entries, m_before) ∧ Inv badCalls noCalls fullCalls x_stopError x_stopIndex x_npp x_ncolumns x_ncount x_nnum x_gcount x_gg0pp x_gg0columns x_gg0count x_gg0num x_gg1pp x_gg1columns x_gg1count x_gg1num x_gg2pp x_gg2columns x_gg2count x_gg2num x_gg3pp x_gg3columns x_gg3count x_gg3num x_gg4pp x_gg4columns x_gg4count x_gg4num clength cbytes m_states m_whyKind m_whyOrder textLong m_all m_past refused text := by
  obtain ⟨hst, hk, c1, c2, c3, k1, k2, htx⟩ := hI
  have hst2 := hst
  obtain ⟨p, C, n, hp, hC1, hC, hn, e1, e2, e3, b0, b1, b2, hcell⟩ := hst2
  have htx2 := htx
  obtain ⟨L, hL, eL1, eL2, hbytes⟩ := htx2
  have hX : TX L cbytes text := ⟨hL, hbytes⟩
  subst e1 e2 e3 eL1 eL2
  obtain ⟨bn, hb1, hb2⟩ := copy105 bnum nnum (nI p) (nI C) (nI n)
  have hsb : stRel (nI p) (nI C) (nI n) bn all := stRel_cong hst hb2 (fun _ _ => rfl)
  obtain ⟨x54, x1, x2⟩ := X8copies all before
  have hg1 : HG1 L cbytes (fun (z : Int32 × Int32 × Int32 × (Nat → Int32) × (Nat → Int32) × Int32 × Int32 × Int32 × Int32 × Int32 × (Nat → Int32) × Int32) => fX7_reads_s31 stopError stopIndex gcount gg0pp gg0columns gg0count gg0num gg1pp gg1columns gg1count gg1num gg2pp gg2columns gg2count gg2num gg3pp gg3columns gg3count gg3num gg4pp gg4columns gg4count gg4num (nI L) cbytes (nI p) (nI C) (nI n) bn z.1 z.2.1 z.2.2.1 z.2.2.2.1 z.2.2.2.2.1 z.2.2.2.2.2.1 z.2.2.2.2.2.2.1 z.2.2.2.2.2.2.2.1 z.2.2.2.2.2.2.2.2.1 z.2.2.2.2.2.2.2.2.2.1 z.2.2.2.2.2.2.2.2.2.2.1 z.2.2.2.2.2.2.2.2.2.2.2) (fun num u_26 u_27 u_28 u_29 u_30 => bd4 (fX3_copyFrom 105 num 105 (nI p) (nI C) (nI n) bn) (fun (u_50 : Int32) (u_51 : Int32) (u_52 : Int32) (u_53 : Nat → Int32) => some (.inr (.inr (((-10 : Int32) - u_26), stopError, stopIndex, u_50, u_51, u_52, u_53, nI p, nI C, nI n, bn, gcount, gg0pp, gg0columns, gg0count, gg0num, gg1pp, gg1columns, gg1count, gg1num, gg2pp, gg2columns, gg2count, gg2num, gg3pp, gg3columns, gg3count, gg3num, gg4pp, gg4columns, gg4count, gg4num, u_26, u_27, u_28, u_29, u_30))))) := by
    intro err idx cnt D E l s C' cols count num pp hc hs hor
    dsimp only
    unfold fX7_reads_s31
    rw [if_neg (show ¬ (150 : Int32) ≤ nI cnt from (nI_ge hc (by omega) : ¬ nI 150 ≤ nI cnt))]
    by_cases h0 : cnt = 0
    · subst h0
      rw [if_pos (show nI 0 = (0 : Int32) from rfl)]
      rfl
    · rw [if_neg (nI_ne0 (by omega) (by omega)), X4hasMore hL hs, if_pos (by omega), bd2_t rfl, if_neg (by decide), rc_spn hL hs]
      rfl
  have hg2 : HG2 L cbytes (fun (z : Int32 × Int32 × Int32 × (Nat → Int32) × (Nat → Int32) × Int32 × Int32 × Int32 × Int32 × Int32 × (Nat → Int32) × Int32) => fX7_reads_s31 stopError stopIndex gcount gg0pp gg0columns gg0count gg0num gg1pp gg1columns gg1count gg1num gg2pp gg2columns gg2count gg2num gg3pp gg3columns gg3count gg3num gg4pp gg4columns gg4count gg4num (nI L) cbytes (nI p) (nI C) (nI n) bn z.1 z.2.1 z.2.2.1 z.2.2.2.1 z.2.2.2.2.1 z.2.2.2.2.2.1 z.2.2.2.2.2.2.1 z.2.2.2.2.2.2.2.1 z.2.2.2.2.2.2.2.2.1 z.2.2.2.2.2.2.2.2.2.1 z.2.2.2.2.2.2.2.2.2.2.1 z.2.2.2.2.2.2.2.2.2.2.2) := by
    intro err idx cnt D E l s C' cols count num pp hc hcs hs hsp
    dsimp only
    unfold fX7_reads_s31
    by_cases h150 : cnt < 150
    · rw [if_neg (show ¬ (150 : Int32) ≤ nI cnt from (nI_ge h150 (by omega) : ¬ nI 150 ≤ nI cnt)), if_neg (nI_ne0 (by omega) (by omega)), X4hasMore hL hs, if_neg (by omega), bd2_t rfl, if_pos rfl, hsp]
    · rw [if_pos (show (150 : Int32) ≤ nI cnt from (nI_le (by omega) (by omega) : nI 150 ≤ nI cnt)), show s = L by omega]
  have hf : HF bn (fun num' t l rc D E => ((-10 : Int32) - t, stopError, stopIndex, nI p, nI C, nI n, num', nI p, nI C, nI n, bn, gcount, gg0pp, gg0columns, gg0count, gg0num, gg1pp, gg1columns, gg1count, gg1num, gg2pp, gg2columns, gg2count, gg2num, gg3pp, gg3columns, gg3count, gg3num, gg4pp, gg4columns, gg4count, gg4num, t, l, rc, D, E)) (fun num u_26 u_27 u_28 u_29 u_30 => bd4 (fX3_copyFrom 105 num 105 (nI p) (nI C) (nI n) bn) (fun (u_50 : Int32) (u_51 : Int32) (u_52 : Int32) (u_53 : Nat → Int32) => some (.inr (.inr (((-10 : Int32) - u_26), stopError, stopIndex, u_50, u_51, u_52, u_53, nI p, nI C, nI n, bn, gcount, gg0pp, gg0columns, gg0count, gg0num, gg1pp, gg1columns, gg1count, gg1num, gg2pp, gg2columns, gg2count, gg2num, gg3pp, gg3columns, gg3count, gg3num, gg4pp, gg4columns, gg4count, gg4num, u_26, u_27, u_28, u_29, u_30))))) := by
    intro num t l rc D E
    obtain ⟨num', q1, q2⟩ := copy105 num bn (nI p) (nI C) (nI n)
    exact ⟨num', bd4_t q1, q2⟩
  have main := first_both (states := states) (past := past) (x54 := x54) hX hg1 hg2 hf hC1 hC
  unfold fX7_reads fX8_reads
  rw [bd4_t hb1, bd2_t (show fX4_begin (nI C) = some (0, nI C) from rfl), bd_t (X8width b1)]
  rcases main with ⟨t, m1, m2, m3⟩ | ⟨n2, m1, m3, m2⟩
  · obtain ⟨num', l', rc, D', E', q1, q2⟩ := m2 cdigits centries (-1) cletter (nI C) (nI n) nnum (nI p) all hst
    obtain ⟨r4, u7, u8, u9, u10, u11, N', E2', rc2, f1, f2⟩ := m3 all entries numbers whyKind whyOrder
    rw [bx12_r q1, bd8_t f1, bd8_t f2, if_pos rfl]
    exact ⟨_, _, _, _, _, _, _, _, _, _, _, _, _, _, _, _, _, _, _, _, _, _, _, _, _, _, _, _, _, _, _, _, _, _, _, _, _, _, _, _, _, _, _, _, _, _, _, rfl, rfl, stRel_cong hsb q2 (fun _ _ => rfl), hk, c1, c2, c3, k1, k2, htx⟩
  · obtain ⟨r4, u7, u8, u9, u10, u11, N', E2', rc2, sp2, f1, f2⟩ := m3 all entries numbers whyKind whyOrder
    rw [bd8_t f1, bd8_t f2, if_neg (by decide), bd_t x1, bd_t (X8width b1)]
    obtain ⟨D', E', l', pl, rc, N3, E3, rc3, sp3, q⟩ := m2 cdigits centries (-1) cletter (nI C) (nI n) nnum (nI p) all E2' N' whyKind whyOrder hst
    rcases q with ⟨cols', count', num', pp', all', q1, q2, q3⟩ | ⟨e, i, cols', count', num', pp', u83, u84, q0, q1, q2, q3⟩
    · obtain ⟨u95, u96, w1, w2, w3⟩ := X8swaps all' x54
      obtain ⟨u103, u104, w4, w5, w6⟩ := X8swaps u95 u96
      have hs95 : stRel (nI p) (nI C) (nI n) bn u95 := stRel_cong hsb (fun _ _ => rfl) (fun k hk => by rw [w2 k hk, x2 k hk])
      obtain ⟨y, y0pp, y0columns, y0count, y1pp, y1columns, y1count, y2pp, y2columns, y2count, y3pp, y3columns, y3count, y4pp, y4columns, y4count, y0num, y1num, y2num, y3num, y4num, st, past2, s1, s2, s3⟩ := keeps hk hs95
      rw [bx12_t q1, if_pos rfl, bd21_t s1, bx8_t q2, bd2_t w1, bd2_t s2, bd2_t w4]
      exact ⟨_, _, _, _, _, _, _, _, _, _, _, _, _, _, _, _, _, _, _, _, _, _, _, _, _, _, _, _, _, _, _, _, _, _, _, _, _, _, _, _, _, _, _, _, _, _, _, rfl, rfl, stRel_cong q3 (fun _ _ => rfl) (fun k hk => by rw [w5 k hk, w3 k hk]), s3, c1, c2, c3, k1, k2, htx⟩
    · obtain ⟨num2, w1, w2⟩ := copy105 num' bn (nI p) (nI C) (nI n)
      rw [bx12_t q1, if_neg (by rcases q0 with z | z | z <;> subst z <;> decide), bd4_t w1, bx8_r q2]
      exact ⟨_, _, _, _, _, _, _, _, _, _, _, _, _, _, _, _, _, _, _, _, _, _, _, _, _, _, _, _, _, _, _, _, _, _, _, _, _, _, _, _, _, _, _, _, _, _, _, rfl, rfl, stRel_cong hsb w2 (fun k hk => by rw [q3 k hk, x2 k hk]), hk, c1, c2, c3, rfl, rfl, htx⟩
