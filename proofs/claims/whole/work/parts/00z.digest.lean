theorem sp_digest {badCalls : Int32} {noCalls : Int32} {fullCalls : Int32} {stopError : Int32} {stopIndex : Int32} {npp : Int32} {ncolumns : Int32} {ncount : Int32} {nnum : Nat → Int32} {gcount : Int32} {gg0pp : Int32} {gg0columns : Int32} {gg0count : Int32} {gg0num : Nat → Int32} {gg1pp : Int32} {gg1columns : Int32} {gg1count : Int32} {gg1num : Nat → Int32} {gg2pp : Int32} {gg2columns : Int32} {gg2count : Int32} {gg2num : Nat → Int32} {gg3pp : Int32} {gg3columns : Int32} {gg3count : Int32} {gg3num : Nat → Int32} {gg4pp : Int32} {gg4columns : Int32} {gg4count : Int32} {gg4num : Nat → Int32} {clength : Int32} {cbytes : Nat → Int32} {states : Int32} {whyKind : Int32} {whyOrder : Int32} {textLong : Int32} {all : Nat → Int32} {past : Nat → Int32} {refused : Nat → Int32} {text : Nat → Int32} (vlnum : Nat → Int32) (vstarget : Int32) (vssource : Int32) (vsnumber : Int32) (vspower : Int32) (vszcount : Int32) (vszplaces : Nat → Int32) (vycount : Int32) (vyplaces : Nat → Int32) (starget : Int32) (ssource : Int32) (snumber : Int32) (spower : Int32) (szplaces : Nat → Int32) (work : Nat → Int32) (hI : Inv badCalls noCalls fullCalls stopError stopIndex npp ncolumns ncount nnum gcount gg0pp gg0columns gg0count gg0num gg1pp gg1columns gg1count gg1num gg2pp gg2columns gg2count gg2num gg3pp gg3columns gg3count gg3num gg4pp gg4columns gg4count gg4num clength cbytes states whyKind whyOrder textLong all past refused text) : ∃ (r : Int64) (x_vlpp : Int32) (x_vlcolumns : Int32) (x_vlcount : Int32) (x_vlnum : Nat → Int32) (x_vstarget : Int32) (x_vssource : Int32) (x_vsnumber : Int32) (x_vspower : Int32) (x_vszcount : Int32) (x_vszplaces : Nat → Int32) (x_vycount : Int32) (x_vyplaces : Nat → Int32) (x_starget : Int32) (x_ssource : Int32) (x_snumber : Int32) (x_spower : Int32) (x_szcount : Int32) (x_szplaces : Nat → Int32) (m_many : Int32) (m_wide : Int32) (m_work : Nat → Int32), fX7_digest badCalls noCalls fullCalls stopError stopIndex npp ncolumns ncount nnum gcount vlnum vstarget vssource vsnumber vspower vszcount vszplaces vycount vyplaces starget ssource snumber spower szplaces clength = some (r, x_vlpp, x_vlcolumns, x_vlcount, x_vlnum, x_vstarget, x_vssource, x_vsnumber, x_vspower, x_vszcount, x_vszplaces, x_vycount, x_vyplaces, x_starget, x_ssource, x_snumber, x_spower, x_szcount, x_szplaces) ∧ fX8_digest states whyKind whyOrder textLong all refused work = some (r, m_many, m_wide, m_work) ∧ Inv badCalls noCalls fullCalls stopError stopIndex npp ncolumns ncount nnum gcount gg0pp gg0columns gg0count gg0num gg1pp gg1columns gg1count gg1num gg2pp gg2columns gg2count gg2num gg3pp gg3columns gg3count gg3num gg4pp gg4columns gg4count gg4num clength cbytes states whyKind whyOrder textLong all past refused text := by
  obtain ⟨hst, hk, c1, c2, c3, k1, k2, htx⟩ := hI
  have hst2 := hst
  have hk2 := hk
  have htx2 := htx
  obtain ⟨p, C, n, hp, hC1, hC, hn, e1, e2, e3, b0, b1, b2, hcell⟩ := hst2
  obtain ⟨gn, -, q1, q2, -⟩ := hk2
  obtain ⟨t, -, t1, t2, -⟩ := htx2
  obtain ⟨V, hV⟩ := stV (by omega) hcell
  have hloop1 : Lp (fun (z : Int64 × Int32) => fX7_digest_s6 badCalls noCalls fullCalls npp ncolumns ncount gcount clength z.1 z.2) ((2441 : Int64), (0 : Int32)) = some (foldN (mx (fun v => fX7_total badCalls noCalls fullCalls npp ncolumns ncount gcount clength (nI v))) 8 2441) := by
    refine fold_loop _ 8 (fun j h hj => ?_) (fun h => ?_) 2441
    · dsimp only
      unfold fX7_digest_s6
      rw [if_neg (show ¬ (7 : Int32) < nI j from (nI_nlt (by omega) (by omega) : ¬ nI 7 < nI j))]
      rfl
    · dsimp only
      unfold fX7_digest_s6
      rw [if_pos (show (7 : Int32) < nI 8 from (nI_lt (by omega) (by omega) : nI 7 < nI 8))]
  have hloop2 : Lp (fun (z : Int64 × Int32) => fX8_digest_s6 states textLong all refused z.1 z.2) ((2441 : Int64), (0 : Int32)) = some (foldN (mx (fun v => fX7_total badCalls noCalls fullCalls npp ncolumns ncount gcount clength (nI v))) 8 2441) := by
    refine fold_loop _ 8 (fun j h hj => ?_) (fun h => ?_) 2441
    · dsimp only
      unfold fX8_digest_s6
      rw [if_neg (show ¬ (8 : Int32) ≤ nI j from (nI_ge hj (by omega) : ¬ nI 8 ≤ nI j)), bd_t (total_both (v := j) (by omega) c1 c2 c3 e1 e2 e3 b0 b1 b2 q1 q2 t1 t2)]
      rfl
    · dsimp only
      unfold fX8_digest_s6
      rw [if_pos (show (8 : Int32) ≤ nI 8 from nI_le (Nat.le_refl 8) (by omega))]
  generalize foldN (mx (fun v => fX7_total badCalls noCalls fullCalls npp ncolumns ncount gcount clength (nI v))) 8 2441 = h1 at hloop1 hloop2
  have hmx : (fX7_mixed (fX7_mixed h1 stopError) stopIndex) = (((31 : Int64) * (((31 : Int64) * h1) + (whyKind.toInt64))) + (whyOrder.toInt64)) := by rw [k1, k2]; rfl
  subst e1 e2 e3
  obtain ⟨h2, r1, r2⟩ := rows_mix (p := p) (by omega) (by omega) hC hn b1 b2 hV (fX7_mixed (fX7_mixed h1 stopError) stopIndex)
  have eall : fX7_allRows (nI n) = (((1 : Int32) <<< (nI n &&& 31)) - (1 : Int32)) := rfl
  obtain ⟨K, sel, m, num2, W2, y1, y2, y3, y4, y5, y6, y7, y8, f1, f2, -, -, hm5, f5, f6, f7, -, f9, f10, f11, f12, f13, f14, f15, f16, f17⟩ := forms_both (lnum := vlnum) (pl := vszplaces) (yp := vyplaces) (work := work) (x1 := vstarget) (x2 := vssource) (x3 := vsnumber) (x4 := vspower) (x5 := vszcount) (x6 := vycount) (a := fX7_allRows (nI n)) V (fun _ _ _ _ => True) hp b0 b1 b2 hC hn hV (fun _ _ => JC_true) (fun _ _ _ _ _ _ _ => trivial)
  obtain ⟨K', sel', m', num3, W3, z1, z2, z3, z4, z5, z6, z7, z8, f1', f2', -, -, hm5', -, -, -, -, f9', -, -, -, -, -, -, -, -⟩ := forms_both (lnum := vlnum) (pl := vszplaces) (yp := vyplaces) (work := W2) (x1 := vstarget) (x2 := vssource) (x3 := vsnumber) (x4 := vspower) (x5 := vszcount) (x6 := vycount) (a := fX7_allRows (nI n)) V (fun _ _ _ _ => True) hp b0 b1 b2 hC hn hV (fun _ _ => JC_true) (fun _ _ _ _ _ _ _ => trivial)
  have hinj := Option.some.inj (f1.symm.trans f1')
  have em : m = m' := (nI_eq (by omega) (by omega)).mp (congrArg (fun x => x.2.2.1) hinj)
  have enum : num2 = num3 := congrArg (fun x => x.2.2.2.1) hinj
  subst em enum
  have d1 := least_class (num := num2) hC hm5
  obtain ⟨s9, d2a, d2b⟩ := bd_s (least_ref (W := W3) hC hm5)
  have d3 : lsum (P8 num2 C) m = lsum (P8 (emb W3) C) m := lsum_congr (fun i hi => (f9' i hi).1)
  have g1 : fX8_rankOf all work (fX7_allRows (nI n)) = some (nI m, nI m, nI C, W2) := by
    unfold fX8_rankOf
    rw [bd3_t f2]
  have g2 : fX8_leastOf all W2 (fX7_allRows (nI n)) = some (lsum (P8 num2 C) m, nI m, nI C, W3) := by
    unfold fX8_leastOf
    rw [bd3_t f2']
    exact (bd_t d2a).trans (by rw [Option.some.inj d2b, d3])
  rw [eall] at f1 g1 g2
  unfold fX7_digest fX8_digest
  rw [bd_t hloop1, bd_t r1, bd12_t (by rw [eall]; exact f1), bd_t d1, bd_t hloop2, ← hmx, bd_t r2, bd_t (X8rows b2), bd4_t g1, bd4_t g2]
  rcases next_both (t0 := starget) (s0 := ssource) (n0 := snumber) (p0 := spower) (places := szplaces) hp hC hn b0 b1 b2 hcell with ⟨pl, w1, w2⟩ | ⟨u0, u1, u2, u3, pl, w1, w2⟩
  · rw [bd7_t w1, if_pos rfl, bd_t rfl, if_pos rfl, bd_t (w2 0), bd_t (w2 1)]
    exact ⟨_, _, _, _, _, _, _, _, _, _, _, _, _, _, _, _, _, _, _, _, _, _, rfl, rfl, hst, hk, c1, c2, c3, k1, k2, htx⟩
  · rw [bd7_t w1, if_neg (by decide), bd_t rfl, if_neg (by decide), bd_t (w2 0), bd_t (w2 1), if_pos rfl, if_neg (by decide), if_pos rfl]
    exact ⟨_, _, _, _, _, _, _, _, _, _, _, _, _, _, _, _, _, _, _, _, _, _, rfl, rfl, hst, hk, c1, c2, c3, k1, k2, htx⟩
