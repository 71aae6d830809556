theorem sp_same {badCalls : Int32} {noCalls : Int32} {fullCalls : Int32} {stopError : Int32} {stopIndex : Int32} {npp : Int32} {ncolumns : Int32} {ncount : Int32} {nnum : Nat → Int32} {gcount : Int32} {gg0pp : Int32} {gg0columns : Int32} {gg0count : Int32} {gg0num : Nat → Int32} {gg1pp : Int32} {gg1columns : Int32} {gg1count : Int32} {gg1num : Nat → Int32} {gg2pp : Int32} {gg2columns : Int32} {gg2count : Int32} {gg2num : Nat → Int32} {gg3pp : Int32} {gg3columns : Int32} {gg3count : Int32} {gg3num : Nat → Int32} {gg4pp : Int32} {gg4columns : Int32} {gg4count : Int32} {gg4num : Nat → Int32} {clength : Int32} {cbytes : Nat → Int32} {states : Int32} {whyKind : Int32} {whyOrder : Int32} {textLong : Int32} {all : Nat → Int32} {past : Nat → Int32} {refused : Nat → Int32} {text : Nat → Int32} (vlpp : Int32) (vlcolumns : Int32) (vlcount : Int32) (vlnum : Nat → Int32) (vstarget : Int32) (vssource : Int32) (vsnumber : Int32) (vspower : Int32) (vszcount : Int32) (vszplaces : Nat → Int32) (vycount : Int32) (vyplaces : Nat → Int32) (wlpp : Int32) (wlcolumns : Int32) (wlcount : Int32) (wlnum : Nat → Int32) (wstarget : Int32) (wssource : Int32) (wsnumber : Int32) (wspower : Int32) (wszcount : Int32) (wszplaces : Nat → Int32) (wycount : Int32) (wyplaces : Nat → Int32) (many : Int32) (wide : Int32) (work : Nat → Int32) (kept : Nat → Int32) (a0 : Int32) (a1 : Int32) (hI : Inv badCalls noCalls fullCalls stopError stopIndex npp ncolumns ncount nnum gcount gg0pp gg0columns gg0count gg0num gg1pp gg1columns gg1count gg1num gg2pp gg2columns gg2count gg2num gg3pp gg3columns gg3count gg3num gg4pp gg4columns gg4count gg4num clength cbytes states whyKind whyOrder textLong all past refused text) : ∃ (r : Int32) (x_badCalls : Int32) (x_noCalls : Int32) (x_fullCalls : Int32) (x_vlpp : Int32) (x_vlcolumns : Int32) (x_vlcount : Int32) (x_vlnum : Nat → Int32) (x_vstarget : Int32) (x_vssource : Int32) (x_vsnumber : Int32) (x_vspower : Int32) (x_vszcount : Int32) (x_vszplaces : Nat → Int32) (x_vycount : Int32) (x_vyplaces : Nat → Int32) (x_wlpp : Int32) (x_wlcolumns : Int32) (x_wlcount : Int32) (x_wlnum : Nat → Int32) (x_wstarget : Int32) (x_wssource : Int32) (x_wsnumber : Int32) (x_wspower : Int32) (x_wszcount : Int32) (x_wszplaces : Nat → Int32) (x_wycount : Int32) (x_wyplaces : Nat → Int32) (m_many : Int32) (m_wide : Int32) (m_refused : Nat → Int32) (m_work : Nat → Int32) (m_kept : Nat → Int32), fX7_same badCalls noCalls fullCalls npp ncolumns ncount nnum vlpp vlcolumns vlcount vlnum vstarget vssource vsnumber vspower vszcount vszplaces vycount vyplaces wlpp wlcolumns wlcount wlnum wstarget wssource wsnumber wspower wszcount wszplaces wycount wyplaces a0 a1 = some (r, x_badCalls, x_noCalls, x_fullCalls, x_vlpp, x_vlcolumns, x_vlcount, x_vlnum, x_vstarget, x_vssource, x_vsnumber, x_vspower, x_vszcount, x_vszplaces, x_vycount, x_vyplaces, x_wlpp, x_wlcolumns, x_wlcount, x_wlnum, x_wstarget, x_wssource, x_wsnumber, x_wspower, x_wszcount, x_wszplaces, x_wycount, x_wyplaces) ∧ fX8_same many wide all refused work kept a0 a1 = some (r, m_many, m_wide, m_refused, m_work, m_kept) ∧ Inv x_badCalls x_noCalls x_fullCalls stopError stopIndex npp ncolumns ncount nnum gcount gg0pp gg0columns gg0count gg0num gg1pp gg1columns gg1count gg1num gg2pp gg2columns gg2count gg2num gg3pp gg3columns gg3count gg3num gg4pp gg4columns gg4count gg4num clength cbytes states whyKind whyOrder textLong all past m_refused text := by
  obtain ⟨hst, hk, c1, c2, c3, hrest⟩ := hI
  have hst2 := hst
  obtain ⟨p, C, n, hp, hC1, hC, hn, e1, e2, e3, b0, b1, b2, hcell⟩ := hst2
  subst e1 e2 e3
  obtain ⟨V, hV⟩ := stV (by omega) hcell
  obtain ⟨x, y, z, m0, h2, h3, h4⟩ := cnt_a (a := -2) (Or.inl rfl) c1 c2 c3
  unfold fX7_same fX8_same
  rw [bd_t (set_both hn b2)]
  by_cases g1 : fX3_hasSet (nI n) a0 = 0
  · rw [if_pos g1, if_pos g1, bd4_t h2, bd2_t h3]
    exact ⟨_, _, _, _, _, _, _, _, _, _, _, _, _, _, _, _, _, _, _, _, _, _, _, _, _, _, _, _, _, _, _, _, _, rfl, rfl, hst, hk, h4.1, h4.2.1, h4.2.2, hrest⟩
  rw [if_neg g1, if_neg g1, bd_t (set_both hn b2)]
  by_cases g2 : fX3_hasSet (nI n) a1 = 0
  · rw [if_pos g2, if_pos g2, bd4_t h2, bd2_t h3]
    exact ⟨_, _, _, _, _, _, _, _, _, _, _, _, _, _, _, _, _, _, _, _, _, _, _, _, _, _, _, _, _, _, _, _, _, rfl, rfl, hst, hk, h4.1, h4.2.1, h4.2.2, hrest⟩
  rw [if_neg g2, if_neg g2]
  obtain ⟨K, sel, m, num2, W2, y1, y2, y3, y4, y5, y6, y7, y8, f1, f2, f3, -, hm5, f5, f6, f7, -, f9, f10, f11, f12, -, -, -, -, -⟩ := forms_both (lnum := vlnum) (pl := vszplaces) (yp := vyplaces) (work := work) (x1 := vstarget) (x2 := vssource) (x3 := vsnumber) (x4 := vspower) (x5 := vszcount) (x6 := vycount) (a := a0) V (fun _ _ _ _ => True) hp b0 b1 b2 hC hn hV (fun _ _ => JC_true) (fun _ _ _ _ _ _ _ => trivial)
  obtain ⟨K', sel', m', num3, W3, z1, z2, z3, z4, z5, z6, z7, z8, i1, i2, i3, -, im5, i5, i6, i7, -, i9, i10, i11, i12, -, -, -, -, -⟩ := forms_both (lnum := wlnum) (pl := wszplaces) (yp := wyplaces) (work := W2) (x1 := wstarget) (x2 := wssource) (x3 := wsnumber) (x4 := wspower) (x5 := wszcount) (x6 := wycount) (a := a1) V (fun _ _ _ _ => True) hp b0 b1 b2 hC hn hV (fun _ _ => JC_true) (fun _ _ _ _ _ _ _ => trivial)
  obtain ⟨r, r1, r2⟩ := hasE (num1 := num2) (num2 := num3) hC hm5 im5
  obtain ⟨Kp, s1, s, s2, s3⟩ := sameR (m := m) (m2 := m') (W1 := W2) (W2 := W3) (kept := kept) hm5 im5
  have l2 := form_low (show 1 < p by omega) f6 f3 f11 f12 f5 (by omega) hC
  have l3 := form_low (show 1 < p by omega) i6 i3 i11 i12 i5 (by omega) hC
  have hEE : (m = m' ∧ ∀ i c k, i < m → c < C → k < 7 → num2 ((i * 8 + c) * 25 + k) = num3 ((i * 8 + c) * 25 + k)) ↔ (m = m' ∧ ∀ x, x < 24 * m → W2 x = W3 x) := by
    constructor
    · rintro ⟨e, h⟩
      subst e
      refine ⟨rfl, fun x hx => ?_⟩
      have ex : x = 24 * (x / 24) + 8 * (x % 24 / 8) + x % 8 := by omega
      by_cases hcC : x % 24 / 8 < C
      · rw [ex, ← f10 (x / 24) (x % 24 / 8) (x % 8) (by omega) hcC (by omega), ← i10 (x / 24) (x % 24 / 8) (x % 8) (by omega) hcC (by omega)]
        by_cases h7 : x % 8 < 7
        · exact h _ _ _ (by omega) hcC h7
        · rw [show x % 8 = 7 by omega, l2 _ _ (by omega) hcC, l3 _ _ (by omega) hcC]
      · obtain ⟨v, -, v1, v2⟩ := f7 (x / 24) (x % 24 / 8) (x % 8) (by omega) (by omega) (by omega)
        obtain ⟨w, -, w1, w2⟩ := i7 (x / 24) (x % 24 / 8) (x % 8) (by omega) (by omega) (by omega)
        rw [ex, v1, w1, v2 (by omega), w2 (by omega)]
    · rintro ⟨e, h⟩
      subst e
      refine ⟨rfl, fun i c k hi hc hk => ?_⟩
      rw [f10 i c k hi hc (by omega), i10 i c k hi hc (by omega)]
      exact h _ (by omega)
  have hrs : r = s := by
    rcases r2 with ⟨e, h⟩ | ⟨e, h⟩
    · rcases s3 with ⟨e2, h2⟩ | ⟨e2, h2⟩
      · rw [e, e2]
      · exact absurd (hEE.mp h) h2
    · rcases s3 with ⟨e2, h2⟩ | ⟨e2, h2⟩
      · exact absurd (hEE.mpr h2) h
      · rw [e, e2]
  subst hrs
  have hcmp : (if nI m = nI m' then (some (1 : Int32)) else (some (0 : Int32))) = some (if m = m' then (1 : Int32) else 0) := by
    by_cases e : m = m'
    · rw [if_pos (by rw [e]), if_pos e]
    · rw [if_neg (fun q => e ((nI_eq (by omega) (by omega)).mp q)), if_neg e]
  have q : fX8_areSame all work kept a0 a1 = some (r, nI m', nI C, W3, Kp) := by
    unfold fX8_areSame
    rw [bd3_t f2, bd_t s1, bd3_t i2, bd_t hcmp, bd_t s2]
    rcases r2 with ⟨e, -⟩ | ⟨e, -⟩
    · rw [e, if_neg (by decide)]
    · rw [e, if_pos rfl]
  rw [bd12_t f1, bd12_t i1, bd_t r1, bd5_t q]
  rcases r2 with ⟨e, -⟩ | ⟨e, -⟩
  · rw [e, if_neg (by decide)]
    exact ⟨_, _, _, _, _, _, _, _, _, _, _, _, _, _, _, _, _, _, _, _, _, _, _, _, _, _, _, _, _, _, _, _, _, rfl, rfl, hst, hk, c1, c2, c3, hrest⟩
  · rw [e, if_pos rfl]
    exact ⟨_, _, _, _, _, _, _, _, _, _, _, _, _, _, _, _, _, _, _, _, _, _, _, _, _, _, _, _, _, _, _, _, _, rfl, rfl, hst, hk, c1, c2, c3, hrest⟩
