/-! the reference's workplace, in the class's coordinates -/
def emb (W : Nat → Int32) : Nat → Int32 := fun x => if x / 25 % 8 < 3 ∧ x % 25 < 8 then W (24 * (x / 200) + 8 * (x / 25 % 8) + x % 25) else 0
theorem emb_at {W : Nat → Int32} {i c k : Nat} (hc : c < 8) (hk : k < 25) : emb W ((i * 8 + c) * 25 + k) = if c < 3 ∧ k < 8 then W (24 * i + 8 * c + k) else 0 := by
  unfold emb
  rw [show ((i * 8 + c) * 25 + k) / 25 % 8 = c by omega, show ((i * 8 + c) * 25 + k) % 25 = k by omega, show ((i * 8 + c) * 25 + k) / 200 = i by omega]
theorem emb_in {W : Nat → Int32} {i c k : Nat} (hc : c < 3) (hk : k < 8) : emb W ((i * 8 + c) * 25 + k) = W (24 * i + 8 * c + k) := by rw [emb_at (by omega) (by omega), if_pos ⟨hc, hk⟩]
theorem emb_out {W : Nat → Int32} {i c k : Nat} (hc : c < 8) (hk : k < 25) (h : ¬ (c < 3 ∧ k < 8)) : emb W ((i * 8 + c) * 25 + k) = 0 := by rw [emb_at hc hk, if_neg h]
def WR (p C N : Nat) (W : Nat → Int32) : Prop := ∀ i e k, i < N → e < 3 → k < 8 → ∃ v : Nat, v < p ∧ W (24 * i + 8 * e + k) = nI v ∧ (C ≤ e → v = 0)
theorem WR_rep {p C N : Nat} {W : Nat → Int32} (hp : 0 < p) (h : WR p C N W) : Rep8 p N (emb W) := by
  intro i c k hi hc hk
  by_cases hin : c < 3 ∧ k < 8
  · obtain ⟨v, h1, h2, -⟩ := h i c k hi hin.1 hin.2
    exact ⟨v, h1, (emb_in hin.1 hin.2).trans h2⟩
  · exact ⟨0, hp, emb_out hc hk hin⟩
theorem WR_low {C N : Nat} {W : Nat → Int32} (hC : C ≤ 3) : Low8 C N (emb W) := fun i c k _ hc h8 hk => emb_out (by omega) hk (by omega)
def wz (W : Nat → Int32) (i c : Nat) : Nat → Prop := fun k => cel (emb W) 8 25 i c k ≠ 0
theorem wz_iff {W : Nat → Int32} {i c k : Nat} (hc : c < 3) (hk : k < 8) : wz W i c k ↔ W (24 * i + 8 * c + k) ≠ 0 := by
  unfold wz cel
  rw [if_pos (by omega), emb_in hc hk]
theorem wz_hi {W : Nat → Int32} {i c k : Nat} (hc : c < 3) (hk : 8 ≤ k) : ¬ wz W i c k := by
  unfold wz cel
  by_cases h : k < 25
  · rw [if_pos h, emb_out (by omega) h (by omega)]
    exact fun z => z rfl
  · rw [if_neg h]
    exact fun z => z rfl
theorem X8cell (i c k : Nat) : fX8_cell (nI i) (nI c) (nI k) = nI (24 * i + 8 * c + k) := by
  unfold fX8_cell
  show ((nI 24 * nI i) + (nI 8 * nI c)) + nI k = _
  rw [pk_mul, pk_mul, nI_add, nI_add]
theorem X8wDegAt {W : Nat → Int32} {i c : Nat} (hi : i < 6) (hc : c < 3) : fX8_workDegreeAt W (nI i) (nI c) = some (pv (dgr (wz W i c) 8)) := by
  unfold fX8_workDegreeAt
  have h := dgr_loop (g := fun z => fX8_workDegreeAt_s3 W (nI i) (nI c) z) (nz := wz W i c) 8 (fun j hj h => by
    unfold fX8_workDegreeAt_s3
    rw [if_neg (nI_pos (by omega)), X8cell, gd_t (vp_in_nI (by omega) (by omega)), nI_clamp (by omega), if_pos (Classical.byContradiction fun z => h ((wz_iff hc hj).mpr z))]) (fun j hj h => by
    unfold fX8_workDegreeAt_s3
    rw [if_neg (nI_pos (by omega)), X8cell, gd_t (vp_in_nI (by omega) (by omega)), nI_clamp (by omega), if_neg ((wz_iff hc hj).mp h)]) (by
    unfold fX8_workDegreeAt_s3
    rw [if_pos (by decide)])
  exact bd_t (show Lp (fun z => fX8_workDegreeAt_s3 W (nI i) (nI c) z) (7 : Int32) = _ from h)
theorem X8wDeg0 {W : Nat → Int32} {i C : Nat} (hi : i < 6) (hC : C ≤ 3) : fX8_workDegree (nI C) W (nI i) = some (pv (mxd (fun c => dgr (wz W i c) 8) C)) := by
  obtain ⟨r, h2, h3⟩ := Lp_up (fun j (s : Int32) => (s, j)) (g := fun (z : Int32 × Int32) => fX8_workDegree_s4 (nI C) W (nI i) z.1 z.2) C (fun j s => s = pv (mxd (fun c => dgr (wz W i c) 8) j)) (fun r => r = pv (mxd (fun c => dgr (wz W i c) 8) C))
    (fun j s hj hI => by
      have hat := X8wDegAt (W := W) hi (show j < 3 by omega)
      have hl := dgr_le (wz W i j) 8
      have hm := mxd_le (fun c => dgr (wz W i c) 8) (B := 8) j (fun c _ => dgr_le _ 8)
      refine Or.inl ⟨pv (mxd (fun c => dgr (wz W i c) 8) (j + 1)), ?_, rfl⟩
      dsimp only
      unfold fX8_workDegree_s4
      rw [if_neg (nI_ge hj (by omega)), bd_t hat, hI]
      by_cases h : dgr (wz W i j) 8 ≤ mxd (fun c => dgr (wz W i c) 8) j
      · rw [if_pos ((pv_leq (by omega) (by omega)).mpr h)]
        rw [show mxd (fun c => dgr (wz W i c) 8) (j + 1) = mxd (fun c => dgr (wz W i c) 8) j from if_pos h]
      · rw [if_neg (fun z => h ((pv_leq (by omega) (by omega)).mp z))]
        rw [show mxd (fun c => dgr (wz W i c) 8) (j + 1) = dgr (wz W i j) 8 from if_neg h])
    (fun s hI => by
      refine ⟨s, ?_, hI⟩
      dsimp only
      unfold fX8_workDegree_s4
      rw [if_pos (nI_le (Nat.le_refl _) (by omega))]) 0 (-1) (Nat.zero_le _) pv_0.symm
  unfold fX8_workDegree
  exact (bd_t h2).trans (congrArg some h3)
theorem X8wDeg {W : Nat → Int32} {i C : Nat} (hi : i < 6) (hC : C ≤ 3) : fX8_workDegree (nI C) W (nI i) = some (pv (pw (P8 (emb W) C i))) := by
  rw [X8wDeg0 hi hC, (deg_pl (nz := wz W i) hC (Nat.le_refl 8) (fun c k hc hk => wz_hi (by omega) hk)).1]
  rfl
theorem X8wPiv {W : Nat → Int32} {i C : Nat} (hi : i < 6) (hC : C ≤ 3) : fX8_workPivot (nI C) W (nI i) = some (pv (cp (P8 (emb W) C i))) := by
  have hd := X8wDeg0 (W := W) hi hC
  have hD := mxd_le (fun c => dgr (wz W i c) 8) (B := 8) C (fun c _ => dgr_le _ 8)
  generalize hDe : mxd (fun c => dgr (wz W i c) 8) C = D at hd hD
  obtain ⟨r, h2, h3⟩ := Lp_up (fun j (s : Int32) => (s, j)) (g := fun (z : Int32 × Int32) => fX8_workPivot_s11 (nI C) W (nI i) (pv D) z.1 z.2) C (fun j s => s = pv (pvt (fun c => dgr (wz W i c) 8) D j)) (fun r => r = pv (pvt (fun c => dgr (wz W i c) 8) D C))
    (fun j s hj hI => by
      have hat := X8wDegAt (W := W) hi (show j < 3 by omega)
      have hl := dgr_le (wz W i j) 8
      have hle : dgr (wz W i j) 8 ≤ D := by rw [← hDe]; exact mxd_ge (fun c => dgr (wz W i c) 8) C j hj
      refine Or.inl ⟨pv (pvt (fun c => dgr (wz W i c) 8) D (j + 1)), ?_, rfl⟩
      dsimp only
      unfold fX8_workPivot_s11
      rw [if_neg (nI_ge hj (by omega)), hI]
      by_cases h0 : D = 0
      · rw [if_pos ((pv_lt0 (by omega)).mpr h0)]
        rw [show pvt (fun c => dgr (wz W i c) 8) D (j + 1) = pvt (fun c => dgr (wz W i c) 8) D j from if_neg (fun z => z.2 (show dgr (wz W i j) 8 = 0 by omega))]
      · rw [if_neg (fun z => h0 ((pv_lt0 (by omega)).mp z)), bd_t hat]
        by_cases h : dgr (wz W i j) 8 = D
        · rw [if_pos (by rw [h]), show pvt (fun c => dgr (wz W i c) 8) D (j + 1) = j + 1 from if_pos ⟨h, show dgr (wz W i j) 8 ≠ 0 by omega⟩, pv_s]
        · rw [if_neg (fun z => h ((pv_eqq (by omega) (by omega)).mp z)), show pvt (fun c => dgr (wz W i c) 8) D (j + 1) = pvt (fun c => dgr (wz W i c) 8) D j from if_neg (fun z => h z.1)])
    (fun s hI => by
      refine ⟨s, ?_, hI⟩
      dsimp only
      unfold fX8_workPivot_s11
      rw [if_pos (nI_le (Nat.le_refl _) (by omega))]) 0 (-1) (Nat.zero_le _) pv_0.symm
  unfold fX8_workPivot
  rw [bd_t hd]
  refine (bd_t h2).trans (congrArg some (h3.trans ?_))
  rw [← hDe, (deg_pl (nz := wz W i) hC (Nat.le_refl 8) (fun c k hc hk => wz_hi (by omega) hk)).2]
  rfl
theorem OpA_t {p n i j pw : Nat} {t t' : Int} {num num' : Nat → Int32} (hp : 0 < p) (h : (p : Int) ∣ t - t') (ho : OpA p n num num' i j t pw) : OpA p n num num' i j t' pw := by
  obtain ⟨h1, h2, h3, h4, h5, h6⟩ := ho
  refine ⟨h1, h2, h3, h4, fun c k hc hk => ?_, h6⟩
  rw [h5 c k hc hk]
  refine congrArg nI (md_congr hp ?_)
  obtain ⟨z, hz⟩ := h
  by_cases hpk : pw ≤ k
  · rw [if_pos hpk, if_pos hpk]
    refine ⟨z * cl8 num j c (k - pw), ?_⟩
    have e : t = t' + p * z := by omega
    rw [e, Int.add_mul, Int.mul_assoc]
    omega
  · rw [if_neg hpk, if_neg hpk]
    exact ⟨0, by omega⟩
theorem cl8_emb {W : Nat → Int32} {i c k v : Nat} (hc : c < 3) (hk : k < 8) (hv : v < 1000) (h : W (24 * i + 8 * c + k) = nI v) : cl8 (emb W) i c k = (v : Int) := by
  unfold cl8
  rw [emb_in hc hk, h, nI_toInt (by omega)]
theorem cl8_out {W : Nat → Int32} {i c k : Nat} (hc : c < 8) (hk : k < 25) (h : ¬ (c < 3 ∧ k < 8)) : cl8 (emb W) i c k = 0 := by
  unfold cl8
  rw [emb_out hc hk h]
  rfl
/-- takes: a step -/
theorem X8takes {p C N i j c a b vi vj u : Nat} {A W : Nat → Int32} (hp : p = 2 ∨ p = 3 ∨ p = 5 ∨ p = 7) (b0 : A 0 = nI p) (hC : C ≤ 3) (hN : N ≤ 6) (hW : WR p C N W) (hi : i < N) (hj : j < N) (hij : i ≠ j) (hc : c < C) (ha : dgr (wz W i c) 8 = a + 1) (hb : dgr (wz W j c) 8 = b + 1) (hab : b ≤ a) (hvi : W (24 * i + 8 * c + a) = nI vi) (hvip : vi < p) (hvj : W (24 * j + 8 * c + b) = nI vj) (hvj0 : 0 < vj) (hvjp : vj < p) (hu : isinv p vj u) (hdeg : ∀ e k, e < C → b < k → k < 8 → W (24 * j + 8 * e + k) = 0) :
    ∃ W', fX8_takes (nI C) A W (nI i) (nI j) (nI c) = some W' ∧ WR p C N W' ∧ OpA p N (emb W) (emb W') i j (-((vi * u % p : Nat) : Int)) (a - b) ∧ ∀ x y, x ≠ i → y < 24 → W' (24 * x + y) = W (24 * x + y) := by
  have hp0 : 0 < p := by omega
  have ha8 : a < 8 := by have := dgr_le (wz W i c) 8; omega
  have hb8 : b < 8 := by omega
  have htp : vi * u % p < p := Nat.mod_lt _ hp0
  have hu7 : u < 7 := by have := hu.2.1; omega
  obtain ⟨u2, hu2, hue⟩ := X8inverse b0 hp hvj0 hvjp
  have eu := inv_uniq hp hu2 hu
  subst eu
  have hmb : vi * u2 ≤ 7 * 7 := Nat.mul_le_mul (by omega) (by omega)
  obtain ⟨W', h1, h2, h3⟩ := Lp_arr2 (gi := fun i_1 z => fX8_takes_s75 A W (nI i) (nI j) (nI c) (nI a) (nI b) (nI u2) i_1 (nI p) z.1 z.2) (go := fun z => fX8_takes_s62 (nI C) A W (nI i) (nI j) (nI c) (nI a) (nI b) (nI u2) (nI p) z.1 z.2) (W := C) (a := a - b) (N := 8) (A := W) (fun e m => 24 * i + 8 * e + m) (fun e m => nI (md ((W (24 * i + 8 * e + m)).toInt - (vi * u2 % p : Nat) * (W (24 * j + 8 * e + (m - (a - b)))).toInt) p)) (by omega) (fun e m e' m' _ _ _ _ _ _ h => by omega)
    (fun e m s he hm1 hm2 hs => by
      dsimp only
      obtain ⟨v, hv, ev, -⟩ := hW i e m hi (by omega) hm2
      obtain ⟨w, hw, ew, -⟩ := hW j e (m - (a - b)) hj (by omega) (by omega)
      have si : s (24 * i + 8 * e + m) = nI v := (hs _ (fun _ _ _ _ _ => by omega)).trans ev
      have sj : s (24 * j + 8 * e + (m - (a - b))) = nI w := (hs _ (fun _ _ _ _ _ => by omega)).trans ew
      have hb2 : vi * u2 % p * w ≤ 7 * 7 := Nat.mul_le_mul (by omega) (by omega)
      unfold fX8_takes_s75
      rw [if_neg (show ¬ (8 : Int32) ≤ nI m from (nI_ge hm2 (by omega) : ¬ nI 8 ≤ nI m)), show nI a - nI b = nI (a - b) from pk_sub hab, show nI m - nI (a - b) = nI (m - (a - b)) from pk_sub hm1, X8cell, X8cell, X8cell, gd_t (vp_in_nI (by omega) (by omega)), gd_t (vp_in_nI (by omega) (by omega)), nI_clamp (by omega), nI_clamp (by omega), nI_clamp (by omega), si, sj, hvi, pk_mul, show rem32 (nI (vi * u2)) (nI p) = nI (vi * u2 % p) from pk_rem (by omega) (by omega) (by omega), pk_mul, bd_t (X8left_any b0 hp0 (by omega)), gd_t (vp_in_nI (by omega) (by omega)), pk_sub_toInt (by omega) (by omega), ev, ew, nI_toInt (by omega), nI_toInt (by omega), Int.natCast_mul])
    (fun e s he => by
      dsimp only
      unfold fX8_takes_s75
      rw [if_pos (show (8 : Int32) ≤ nI 8 from nI_le (Nat.le_refl 8) (by omega))])
    (fun e s he hs => by
      dsimp only
      unfold fX8_takes_s62
      rw [if_neg (nI_ge he (by omega)), show nI a - nI b = nI (a - b) from pk_sub hab])
    (fun s hs => by
      dsimp only
      unfold fX8_takes_s62
      rw [if_pos (nI_le (Nat.le_refl _) (by omega))])
  have hoth : ∀ x y, x ≠ i → y < 24 → W' (24 * x + y) = W (24 * x + y) := fun x y hx hy => h3 _ (fun e m he hm1 hm2 => by omega)
  refine ⟨W', ?_, ?_, ?_, hoth⟩
  · have hda := X8wDegAt (W := W) (show i < 6 by omega) (show c < 3 by omega)
    have hdb := X8wDegAt (W := W) (show j < 6 by omega) (show c < 3 by omega)
    rw [ha, pv_s] at hda
    rw [hb, pv_s] at hdb
    unfold fX8_takes
    rw [bd_t hda, bd_t hdb, X8cell, X8cell, gd_t (vp_in_nI (by omega) (by omega)), gd_t (vp_in_nI (by omega) (by omega)), nI_clamp (by omega), hvj, bd_t hue, bd_t (X8modulus b0), gd_t (nI_ne0 hp0 (by omega))]
    exact bd_t h1
  · intro x e k hx he hk
    by_cases ex : x = i
    · subst ex
      by_cases hec : e < C ∧ a - b ≤ k
      · exact ⟨_, md_lt hp0, h2 e k hec.1 hec.2 hk, fun h => by omega⟩
      · rw [h3 _ (fun e' m' q1 q2 q3 => by omega)]
        exact hW x e k hx he hk
    · rw [show 24 * x + 8 * e + k = 24 * x + (8 * e + k) by omega, hoth x _ ex (by omega), ← Nat.add_assoc]
      exact hW x e k hx he hk
  · refine ⟨hi, hj, hij, by omega, ?_, ?_⟩
    · intro e k he hk
      by_cases hin : e < 3 ∧ k < 8
      · obtain ⟨v, v1, v2, v3⟩ := hW i e k hi hin.1 hin.2
        rw [emb_in hin.1 hin.2, cl8_emb hin.1 hin.2 (by omega) v2]
        by_cases hak : a - b ≤ k
        · obtain ⟨w, w1, w2, w3⟩ := hW j e (k - (a - b)) hj hin.1 (by omega)
          rw [if_pos hak, cl8_emb hin.1 (by omega) (by omega) w2]
          by_cases hec : e < C
          · rw [h2 e k hec hak hin.2, v2, w2, nI_toInt (by omega), nI_toInt (by omega), Int.sub_eq_add_neg, Int.neg_mul]
          · rw [h3 _ (fun e' m' q1 q2 q3 => by omega), v2, v3 (by omega), w3 (by omega), Int.natCast_zero, Int.mul_zero, md_zero hp0 ⟨0, by omega⟩]
        · rw [if_neg hak, Int.add_zero, md_small v1, h3 _ (fun e' m' q1 q2 q3 => by omega), v2]
      · rw [emb_out he hk hin, cl8_out he hk hin]
        have hz : (if a - b ≤ k then (-((vi * u2 % p : Nat) : Int)) * cl8 (emb W) j e (k - (a - b)) else 0) = 0 := by
          by_cases hak : a - b ≤ k
          · rw [if_pos hak]
            have : cl8 (emb W) j e (k - (a - b)) = 0 := by
              by_cases hin2 : e < 3 ∧ k - (a - b) < 8
              · obtain ⟨w, w1, w2, w3⟩ := hW j e (k - (a - b)) hj hin2.1 hin2.2
                by_cases hec : e < C
                · unfold cl8
                  rw [emb_in hin2.1 hin2.2, hdeg e _ hec (by omega) hin2.2]
                  rfl
                · rw [cl8_emb hin2.1 hin2.2 (by omega) w2, w3 (by omega)]
                  rfl
              · exact cl8_out he (by omega) hin2
            rw [this, Int.mul_zero]
          · rw [if_neg hak]
        rw [hz, Int.add_zero, md_zero hp0 ⟨0, by omega⟩]
        rfl
    · intro x e k hx he hk
      rw [emb_at he hk, emb_at he hk]
      by_cases hin : e < 3 ∧ k < 8
      · rw [if_pos hin, if_pos hin, show 24 * x + 8 * e + k = 24 * x + (8 * e + k) by omega, hoth x _ hx (by omega)]
      · rw [if_neg hin, if_neg hin]
