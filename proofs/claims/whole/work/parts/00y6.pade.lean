/-! the two rows of an approximant -/
def pdV (V : Nat → Nat → Nat → Nat) (i c N r e k : Nat) : Nat := if r = 0 then (if e = 0 ∧ k = N then 1 else 0) else if e = 0 then (if k < 7 then V i c k else 0) else if e = 1 ∧ k = 0 then 1 else 0
theorem pdV_lt {p i c N r e k : Nat} {V : Nat → Nat → Nat → Nat} (hp : 1 < p) (hV : ∀ k, k < 7 → V i c k < p) : pdV V i c N r e k < p := by
  unfold pdV
  by_cases h0 : r = 0
  · rw [if_pos h0]; split <;> omega
  · rw [if_neg h0]
    by_cases h1 : e = 0
    · rw [if_pos h1]
      by_cases h7 : k < 7
      · rw [if_pos h7]; exact hV k h7
      · rw [if_neg h7]; omega
    · rw [if_neg h1]; split <;> omega
def pdR (V : Nat → Nat → Nat → Nat) (i c N r : Nat) : Rw := fun e k => if k < 8 then (pdV V i c N r e k : Int) else 0
theorem Span_nil {p C : Nat} {a : Nat → Rw} {v : Rw} (h : Span p C 0 a v) : eqv p C v r0 := by
  refine h (fun v => eqv p C v r0) ⟨eqv_r _, fun v w h1 h2 => eqv_t (eqv_s h2) h1, fun v w h1 h2 => ?_, fun v t s h1 => ?_⟩ (fun j hj => absurd hj (Nat.not_lt_zero _))
  · intro c hc k
    obtain ⟨z, hz⟩ := h1 c hc k
    obtain ⟨y, hy⟩ := h2 c hc k
    refine ⟨z + y, ?_⟩
    unfold radd r0 at *
    rw [Int.mul_add]
    omega
  · intro c hc k
    unfold rsh
    by_cases hs : s ≤ k
    · obtain ⟨z, hz⟩ := h1 c hc (k - s)
      refine ⟨t * z, ?_⟩
      unfold r0 at *
      rw [if_pos hs, Int.sub_zero] at *
      rw [hz, ← Int.mul_assoc, Int.mul_comm t, Int.mul_assoc]
    · rw [if_neg hs]
      exact ⟨0, by unfold r0; omega⟩
theorem buildPade8 {p n i c N : Nat} {nnum lnum pl yp : Nat → Int32} {x1 x2 x3 x4 x5 x6 : Int32} (V : Nat → Nat → Nat → Nat) (hp : p = 2 ∨ p = 3 ∨ p = 5 ∨ p = 7) (hn : n ≤ 5) (hi : i < n) (hc : c < 3) (hN : N ≤ 7) (hV : ∀ i c k, i < n → c < 3 → k < 7 → V i c k < p ∧ nnum ((i * 3 + c) * 7 + k) = nI (V i c k)) :
    ∃ m num' b1 b2 b3 b4 b5 b6 b7 b8, fX2_buildPade lnum x1 x2 x3 x4 x5 pl x6 yp 105 (5 : Int32) (3 : Int32) (7 : Int32) (nI p) nnum (nI i) (nI c) (nI N) = some (nI p, 2, nI m, num', b1, b2, b3, b4, b5, b6, b7, b8) ∧ m ≤ 2 ∧ Rep8 p m num' ∧ Low8 2 m num' ∧ SameM p 2 2 (pdR V i c N) m (rw8 num') ∧ (∀ i, i < m → P8 num' 2 i ≠ 0) ∧ Popv p 2 m (rw8 num') (fun i => P8 num' 2 i - 1) := by
  have hp0 : 0 < p := by omega
  have hone : (1 : Int32).toInt = ((1 : Nat) : Int) := by decide
  have hm1 : md (1 : Int32).toInt p = 1 := by rw [hone]; exact md_small (by omega)
  obtain ⟨n1, h1, c1⟩ := X3append (L := 1000) (R := 5) (w := 8) (q := 25) (n := 0) (p := p) (num := lnum) rfl (by omega) (by omega) (by omega) (by omega) (by omega) hp0 (by omega)
  have h2 := X3put_in (L := 1000) (R := 5) (w := 8) (q := 25) (i := 0) (c := 0) (k := N) (p := p) (num := n1) (v := 1) rfl (by omega) (by omega) (by omega) (by omega) (by omega) (by omega) (by omega) hp0 (by omega) (by decide) (by decide)
  rw [hm1] at h2
  obtain ⟨n3, h3, c3⟩ := X3append (L := 1000) (R := 5) (w := 8) (q := 25) (n := 1) (p := p) (num := upd n1 ((0 * 8 + 0) * 25 + N) (nI 1)) rfl (by omega) (by omega) (by omega) (by omega) (by omega) hp0 (by omega)
  obtain ⟨n4, h4, c4, d4⟩ := Lp_arr (g := fun (z : Int32 × (Nat → Int32)) => fX2_buildPade_s46 105 (5 : Int32) (3 : Int32) (7 : Int32) nnum (nI i) (nI c) (nI p) 1 z.1 z.2) (a := 0) (N := 7) (A := n3) (fun k => (1 * 8 + 0) * 25 + k) (fun k => nI (V i c k)) (by omega) (fun i j _ h _ => by omega) (fun k s _ hk _ => by
      dsimp only
      obtain ⟨v1, v2⟩ := hV i c k hi hc hk
      have hat : fX3_at 105 (5 : Int32) (3 : Int32) (7 : Int32) nnum (nI i) (nI c) (nI k) = some (nI (V i c k)) := (X3at_in (L := 105) (R := 5) (w := 3) (q := 7) rfl (by omega) (by omega) (by omega) (by omega) (by omega) hc hk).trans (congrArg some v2)
      have hput := X3put_in (L := 1000) (R := 5) (w := 8) (q := 25) (i := 1) (c := 0) (k := k) (p := p) (num := s) (v := nI (V i c k)) rfl (by omega) (by omega) (by omega) (by omega) (by omega) (by omega) (by omega) hp0 (by omega) (by rw [nI_toInt (by omega)]; omega) (by rw [nI_toInt (by omega)]; omega)
      rw [nI_toInt (by omega), md_small v1] at hput
      unfold fX2_buildPade_s46
      rw [if_neg (show ¬ (6 : Int32) < nI k from (nI_nlt (by omega) (by omega) : ¬ nI 6 < nI k)), bd_t hat, bd_t (show fX3_put 1000 (5 : Int32) (8 : Int32) (25 : Int32) (nI p) s (1 : Int32) (0 : Int32) (nI k) (nI (V i c k)) = _ from hput)]) (fun s _ => by
      dsimp only
      unfold fX2_buildPade_s46
      rw [if_pos (show (6 : Int32) < nI 7 from (nI_lt (by omega) (by omega) : nI 6 < nI 7))])
  have h5 := X3put_in (L := 1000) (R := 5) (w := 8) (q := 25) (i := 1) (c := 1) (k := 0) (p := p) (num := n4) (v := 1) rfl (by omega) (by omega) (by omega) (by omega) (by omega) (by omega) (by omega) hp0 (by omega) (by decide) (by decide)
  rw [hm1] at h5
  have hcells : ∀ r e k, r < 2 → e < 8 → k < 25 → upd n4 ((1 * 8 + 1) * 25 + 0) (nI 1) ((r * 8 + e) * 25 + k) = nI (pdV V i c N r e k) := by
    intro r e k hr he hk
    unfold pdV
    by_cases hr0 : r = 0
    · subst hr0
      rw [if_pos rfl, pk_un (by omega), d4 _ (fun j _ hj => by omega), c3 0 e k he hk, if_neg (by omega)]
      by_cases hx : e = 0 ∧ k = N
      · rw [if_pos hx, hx.1, hx.2, pk_us]
      · rw [if_neg hx, pk_un (by omega), c1 0 e k he hk, if_pos rfl]
        rfl
    · have hr1 : r = 1 := by omega
      subst hr1
      rw [if_neg (by omega)]
      by_cases he0 : e = 0
      · subst he0
        rw [if_pos rfl, pk_un (by omega)]
        by_cases hk7 : k < 7
        · rw [if_pos hk7]
          exact c4 k (by omega) hk7
        · rw [if_neg hk7, d4 _ (fun j _ hj => by omega), c3 1 0 k (by omega) hk, if_pos rfl]
          rfl
      · rw [if_neg he0]
        by_cases hx : e = 1 ∧ k = 0
        · rw [if_pos hx, hx.1, hx.2, pk_us]
        · rw [if_neg hx, pk_un (by omega), d4 _ (fun j _ hj => by omega), c3 1 e k he hk, if_pos rfl]
          rfl
  have hlt : ∀ r e k, pdV V i c N r e k < p := fun r e k => pdV_lt (by omega) (fun k hk => (hV i c k hi hc hk).1)
  have hz8 : ∀ r e k, 8 ≤ k → pdV V i c N r e k = 0 := by
    intro r e k hk
    unfold pdV
    by_cases h0 : r = 0
    · rw [if_pos h0, if_neg (by omega)]
    · rw [if_neg h0]
      by_cases h1 : e = 0
      · rw [if_pos h1, if_neg (by omega)]
      · rw [if_neg h1, if_neg (by omega)]
  have hrep : Rep8 p 2 (upd n4 ((1 * 8 + 1) * 25 + 0) (nI 1)) := fun r e k hr he hk => ⟨_, hlt r e k, hcells r e k hr he hk⟩
  have hlow : Low8 2 2 (upd n4 ((1 * 8 + 1) * 25 + 0) (nI 1)) := fun r e k hr he h8 hk => by
    rw [hcells r e k hr (by omega) hk, hz8 r e k h8]
    rfl
  have hsame : SameM p 2 2 (pdR V i c N) 2 (rw8 (upd n4 ((1 * 8 + 1) * 25 + 0) (nI 1))) := SameM_e (fun r hr => eqv_same (fun e he k => by
    unfold pdR rw8 cl8
    by_cases h8 : k < 8
    · rw [if_pos h8, if_pos (by omega), hcells r e k hr (by omega) (by omega), nI_toInt (by have := hlt r e k; omega)]
    · rw [if_neg h8]
      by_cases h25 : k < 25
      · rw [if_pos h25, hcells r e k hr (by omega) h25, hz8 r e k (by omega)]
        rfl
      · rw [if_neg h25]))
  obtain ⟨m, num', b1, b2, b3, b4, b5, b6, b7, b8, g1, g2, g3, g4, g5, g6, g7⟩ := toForm8 (pl := pl) (yp := yp) (a1 := x1) (a2 := x2) (a3 := x3) (a4 := x4) (a5 := x5) (a6 := x6) (fun n num => SameM p 2 2 (pdR V i c N) n (rw8 num)) hp (show 2 ≤ 3 by omega) (by omega) (JC_mod hp0 (by omega) (by omega)) hrep hlow hsame
  refine ⟨m, num', b1, b2, b3, b4, b5, b6, b7, b8, ?_, g2, g3, g4, g5, g6, g7⟩
  unfold fX2_buildPade
  rw [bd3_t (show fX3_reset (nI p) (2 : Int32) = some (nI p, 2, 0) from rfl), bd3_t (show fX3_append 1000 (5 : Int32) (8 : Int32) (25 : Int32) (nI p) (0 : Int32) lnum = some (0, 1, n1) from h1), bd_t (show fX3_put 1000 (5 : Int32) (8 : Int32) (25 : Int32) (nI p) n1 (0 : Int32) (0 : Int32) (nI N) (1 : Int32) = some _ from h2), bd3_t (show fX3_append 1000 (5 : Int32) (8 : Int32) (25 : Int32) (nI p) (1 : Int32) (upd n1 ((0 * 8 + 0) * 25 + N) (nI 1)) = some (1, 2, n3) from h3)]
  refine (bd_t h4).trans ?_
  rw [bd_t (show fX3_put 1000 (5 : Int32) (8 : Int32) (25 : Int32) (nI p) n4 (1 : Int32) (1 : Int32) (0 : Int32) (1 : Int32) = some _ from h5)]
  exact bd10_t (show fX2_toForm (nI p) (2 : Int32) (2 : Int32) _ x1 x2 x3 x4 x5 pl x6 yp = _ from g1)
theorem X8pade {p n i c N : Nat} {A W : Nat → Int32} (V : Nat → Nat → Nat → Nat) (hp : p = 2 ∨ p = 3 ∨ p = 5 ∨ p = 7) (b0 : A 0 = nI p) (hn : n ≤ 5) (hi : i < n) (hc : c < 3) (hN : N ≤ 7) (hV : ∀ i c k, i < n → c < 3 → k < 7 → V i c k < p ∧ A (3 + (i * 3 + c) * 7 + k) = nI (V i c k)) :
    ∃ m W', m ≤ 2 ∧ WR p 2 m W' ∧ SameM p 2 2 (pdR V i c N) m (rw8 (emb W')) ∧ (∀ i, i < m → P8 (emb W') 2 i ≠ 0) ∧ Popv p 2 m (rw8 (emb W')) (fun i => P8 (emb W') 2 i - 1) ∧ ∀ w k, w < 2 → k < 8 → fX8_quotientOf A W (nI i) (nI c) (nI N) (nI w) (nI k) = some (W' (24 * 0 + 8 * w + k), nI m, 2, W') := by
  have hp0 : 0 < p := by omega
  obtain ⟨w1, h1, c1, d1⟩ := Lp_arr (g := fun (z : Int32 × (Nat → Int32)) => fX8_quotientOf_s13 z.1 z.2) (a := 0) (N := 48) (A := W) (fun k => k) (fun _ => 0) (by omega) (fun i j _ h _ => by omega) (fun k s _ hk _ => by
      dsimp only
      unfold fX8_quotientOf_s13
      rw [if_neg (show ¬ (48 : Int32) ≤ nI k from (nI_ge hk (by omega) : ¬ nI 48 ≤ nI k)), gd_t (vp_in_nI (by omega) (by omega)), nI_clamp (by omega)]) (fun s _ => by
      dsimp only
      unfold fX8_quotientOf_s13
      rw [if_pos (show (48 : Int32) ≤ nI 48 from nI_le (Nat.le_refl 48) (by omega))])
  obtain ⟨w3, h3, c3, d3⟩ := Lp_arr (g := fun (z : Int32 × (Nat → Int32)) => fX8_quotientOf_s49 A (nI i) (nI c) z.1 z.2) (a := 0) (N := 7) (A := upd w1 (24 * 0 + 8 * 0 + N) 1) (fun k => 24 * 1 + 8 * 0 + k) (fun k => nI (V i c k)) (by omega) (fun i j _ h _ => by omega) (fun k s _ hk _ => by
      dsimp only
      obtain ⟨v1, v2⟩ := hV i c k hi hc hk
      unfold fX8_quotientOf_s49
      rw [if_neg (show ¬ (7 : Int32) ≤ nI k from (nI_ge hk (by omega) : ¬ nI 7 ≤ nI k)), X8place, show fX8_cell (1 : Int32) (0 : Int32) (nI k) = nI (24 * 1 + 8 * 0 + k) from X8cell 1 0 k, gd_t (vp_in_nI (by omega) (by omega)), gd_t (vp_in_nI (by omega) (by omega)), nI_clamp (by omega), nI_clamp (by omega), v2]) (fun s _ => by
      dsimp only
      unfold fX8_quotientOf_s49
      rw [if_pos (show (7 : Int32) ≤ nI 7 from nI_le (Nat.le_refl 7) (by omega))])
  have hcells : ∀ r e k, r < 2 → e < 3 → k < 8 → upd w3 (24 * 1 + 8 * 1 + 0) 1 (24 * r + 8 * e + k) = nI (pdV V i c N r e k) := by
    intro r e k hr he hk
    unfold pdV
    by_cases hr0 : r = 0
    · subst hr0
      rw [if_pos rfl, pk_un (by omega), d3 _ (fun j _ hj => by omega)]
      by_cases hx : e = 0 ∧ k = N
      · rw [if_pos hx, hx.1, hx.2, pk_us]
        rfl
      · rw [if_neg hx, pk_un (by omega), c1 _ (by omega) (by omega)]
        rfl
    · have hr1 : r = 1 := by omega
      subst hr1
      rw [if_neg (by omega)]
      by_cases he0 : e = 0
      · subst he0
        rw [if_pos rfl, pk_un (by omega)]
        by_cases hk7 : k < 7
        · rw [if_pos hk7]
          exact c3 k (by omega) hk7
        · rw [if_neg hk7, d3 _ (fun j _ hj => by omega), pk_un (by omega), c1 _ (by omega) (by omega)]
          rfl
      · rw [if_neg he0]
        by_cases hx : e = 1 ∧ k = 0
        · rw [if_pos hx, hx.1, hx.2, pk_us]
          rfl
        · rw [if_neg hx, pk_un (by omega), d3 _ (fun j _ hj => by omega), pk_un (by omega), c1 _ (by omega) (by omega)]
          rfl
  have hlt : ∀ r e k, pdV V i c N r e k < p := fun r e k => pdV_lt (by omega) (fun k hk => (hV i c k hi hc hk).1)
  have hWR : WR p 2 2 (upd w3 (24 * 1 + 8 * 1 + 0) 1) := fun r e k hr he hk => ⟨_, hlt r e k, hcells r e k hr he hk, fun h => by
    unfold pdV
    by_cases h0 : r = 0
    · rw [if_pos h0, if_neg (by omega)]
    · rw [if_neg h0, if_neg (by omega), if_neg (by omega)]⟩
  have hsame : SameM p 2 2 (pdR V i c N) 2 (rw8 (emb (upd w3 (24 * 1 + 8 * 1 + 0) 1))) := SameM_e (fun r hr => eqv_same (fun e he k => by
    unfold pdR rw8
    by_cases h8 : k < 8
    · rw [if_pos h8, if_pos (by omega), cl8_emb (by omega) h8 (by have := hlt r e k; omega) (hcells r e k hr (by omega) h8)]
    · rw [if_neg h8]
      by_cases h25 : k < 25
      · rw [if_pos h25, cl8_out (by omega) h25 (by omega)]
      · rw [if_neg h25]))
  obtain ⟨m, W', g1, g2, g3, g4, g5, g6, g7⟩ := X8forms (A := A) (fun n num => SameM p 2 2 (pdR V i c N) n (rw8 num)) hp b0 (show 2 ≤ 3 by omega) (show 2 ≤ 5 by omega) (JC_mod hp0 (by omega) (by omega)) hWR hsame
  refine ⟨m, W', g2, g3, g4, g5.1, g7, fun w k hw hk => ?_⟩
  unfold fX8_quotientOf
  refine (bd_t h1).trans ?_
  rw [show fX8_cell (0 : Int32) (0 : Int32) (nI N) = nI (24 * 0 + 8 * 0 + N) from X8cell 0 0 N, gd_t (vp_in_nI (by omega) (by omega)), nI_clamp (by omega)]
  refine (bd_t h3).trans ?_
  rw [show fX8_cell (1 : Int32) (1 : Int32) (0 : Int32) = nI (24 * 1 + 8 * 1 + 0) from X8cell 1 1 0, gd_t (vp_in_nI (by omega) (by omega)), nI_clamp (by omega), bd2_t (show fX8_forms (2 : Int32) (2 : Int32) A (upd w3 (24 * 1 + 8 * 1 + 0) 1) = some (nI m, W') from g1), show fX8_cell (0 : Int32) (nI w) (nI k) = nI (24 * 0 + 8 * w + k) from X8cell 0 w k, gd_t (vp_in_nI (by omega) (by omega)), nI_clamp (by omega)]
