/-! the forms of a set on both sides -/
theorem inSet_iff {i : Nat} {a : Int32} (hi : i < 5) : fX7_isInSet (nI i) a ≠ 0 ↔ ((a >>> (nI i &&& 31)) &&& (1 : Int32)) = (1 : Int32) := by
  have h : ¬ fX7_isWithin (nI i) (0 : Int32) (4 : Int32) = 0 := by
    unfold fX7_isWithin
    rw [if_neg (nI_pos (by omega)), if_neg (show ¬ (4 : Int32) < nI i from (nI_nlt (by omega) (by omega) : ¬ nI 4 < nI i))]
    decide
  unfold fX7_isInSet
  rw [if_neg h]
  by_cases hb : ((a >>> (nI i &&& 31)) &&& (1 : Int32)) = (1 : Int32)
  · rw [if_pos hb]
    exact ⟨fun _ => hb, fun _ => by decide⟩
  · rw [if_neg hb]
    exact ⟨fun z => absurd rfl z, fun z => absurd z hb⟩
theorem X8lays {A W : Nat → Int32} {t i C : Nat} (b1 : A 1 = nI C) (hC : C ≤ 3) (ht : t < 6) (hi : i < 5) : ∃ W', fX8_lays A W (nI t) (nI i) = some W' ∧ (∀ c k, c < 3 → k < 8 → W' (24 * t + 8 * c + k) = if c < C ∧ k < 7 then A (3 + (i * 3 + c) * 7 + k) else 0) ∧ ∀ x y, x ≠ t → y < 24 → W' (24 * x + y) = W (24 * x + y) := by
  obtain ⟨W', h1, h2, h3⟩ := Lp_arr2 (gi := fun i_1 z => fX8_lays_s10 A (nI t) (nI i) i_1 z.1 z.2) (go := fun z => fX8_lays_s2 A (nI t) (nI i) z.1 z.2) (W := 3) (a := 0) (N := 8) (A := W) (fun c k => 24 * t + 8 * c + k) (fun c k => if c < C ∧ k < 7 then A (3 + (i * 3 + c) * 7 + k) else 0) (by omega) (fun e m e' m' _ _ _ _ _ _ h => by omega)
    (fun c k s hc _ hk hs => by
      dsimp only
      unfold fX8_lays_s10
      rw [if_neg (show ¬ (8 : Int32) ≤ nI k from (nI_ge hk (by omega) : ¬ nI 8 ≤ nI k)), bd_t (X8width b1), X8cell]
      by_cases h1 : c < C
      · rw [if_neg (nI_ge h1 (by omega))]
        by_cases h2 : k < 7
        · rw [if_neg (show ¬ (7 : Int32) ≤ nI k from (nI_ge h2 (by omega) : ¬ nI 7 ≤ nI k)), X8place, gd_t (vp_in_nI (by omega) (by omega)), gd_t (vp_in_nI (by omega) (by omega)), nI_clamp (by omega), nI_clamp (by omega), if_pos ⟨h1, h2⟩]
        · rw [if_pos (show (7 : Int32) ≤ nI k from (nI_le (by omega) (by omega) : nI 7 ≤ nI k)), gd_t (vp_in_nI (by omega) (by omega)), nI_clamp (by omega), if_neg (fun z => h2 z.2)]
      · rw [if_pos (nI_le (by omega) (by omega)), gd_t (vp_in_nI (by omega) (by omega)), nI_clamp (by omega), if_neg (fun z => h1 z.1)])
    (fun c s hc => by
      dsimp only
      unfold fX8_lays_s10
      rw [if_pos (show (8 : Int32) ≤ nI 8 from nI_le (Nat.le_refl 8) (by omega))])
    (fun c s hc hs => by
      dsimp only
      unfold fX8_lays_s2
      rw [if_neg (show ¬ (3 : Int32) ≤ nI c from (nI_ge hc (by omega) : ¬ nI 3 ≤ nI c))]
      rfl)
    (fun s hs => by
      dsimp only
      unfold fX8_lays_s2
      rw [if_pos (show (3 : Int32) ≤ nI 3 from nI_le (Nat.le_refl 3) (by omega))])
  refine ⟨W', ?_, fun c k hc hk => h2 c k hc (Nat.zero_le _) hk, fun x y hx hy => h3 _ (fun c k hc _ hk => by omega)⟩
  unfold fX8_lays
  exact bd_t h1
/-- a row of the workplace with a state's numbers -/
def lv (V : Nat → Nat → Nat → Nat) (s c k : Nat) : Nat := if k < 7 then V s c k else 0
theorem X8laysV {p C n t i : Nat} {A W : Nat → Int32} (V : Nat → Nat → Nat → Nat) (b1 : A 1 = nI C) (hC : C ≤ 3) (ht : t < 6) (hi : i < n) (hn : n ≤ 5) (hV : ∀ i c k, i < n → c < 3 → k < 7 → V i c k < p ∧ A (3 + (i * 3 + c) * 7 + k) = nI (V i c k) ∧ (C ≤ c → V i c k = 0)) : ∃ W', fX8_lays A W (nI t) (nI i) = some W' ∧ (∀ c k, c < 3 → k < 8 → W' (24 * t + 8 * c + k) = nI (lv V i c k)) ∧ ∀ x y, x ≠ t → y < 24 → W' (24 * x + y) = W (24 * x + y) := by
  obtain ⟨W', h1, h2, h3⟩ := X8lays (A := A) (W := W) (t := t) (i := i) b1 hC ht (by omega)
  refine ⟨W', h1, fun c k hc hk => ?_, h3⟩
  rw [h2 c k hc hk]
  unfold lv
  by_cases h7 : k < 7
  · obtain ⟨v1, v2, v3⟩ := hV i c k hi hc h7
    rw [if_pos h7]
    by_cases hcC : c < C
    · rw [if_pos ⟨hcC, h7⟩, v2]
    · rw [if_neg (fun z => hcC z.1), v3 (by omega)]
      rfl
  · rw [if_neg h7, if_neg (fun z => h7 z.2)]
    rfl
theorem X8chosen {p C n : Nat} {A W : Nat → Int32} {a : Int32} (V : Nat → Nat → Nat → Nat) (b1 : A 1 = nI C) (b2 : A 2 = nI n) (hC : C ≤ 3) (hn : n ≤ 5) (hV : ∀ i c k, i < n → c < 3 → k < 7 → V i c k < p ∧ A (3 + (i * 3 + c) * 7 + k) = nI (V i c k) ∧ (C ≤ c → V i c k = 0)) :
    ∃ K W' sel, Lp (fun (z : Int32 × Int32 × (Nat → Int32)) => fX8_formsOf_s15 A a z.1 z.2.1 z.2.2) ((0 : Int32), (0 : Int32), W) = some (nI K, W') ∧ Chosen n a K sel ∧ ∀ m c k, m < K → c < 3 → k < 8 → W' (24 * m + 8 * c + k) = nI (lv V (sel m) c k) := by
  have key := Lp_up (E := fun (j : Int32) (s : Int32 × (Nat → Int32)) => (j, s.1, s.2)) (g := fun (z : Int32 × Int32 × (Nat → Int32)) => fX8_formsOf_s15 A a z.1 z.2.1 z.2.2) n
    (fun j s => ∃ K sel, s.1 = nI K ∧ Chosen j a K sel ∧ ∀ m c k, m < K → c < 3 → k < 8 → s.2 (24 * m + 8 * c + k) = nI (lv V (sel m) c k))
    (fun r => ∃ K sel, r.1 = nI K ∧ Chosen n a K sel ∧ ∀ m c k, m < K → c < 3 → k < 8 → r.2 (24 * m + 8 * c + k) = nI (lv V (sel m) c k))
    (by
      rintro j ⟨s1, s2⟩ hj ⟨K, sel, e, hc, hs⟩
      dsimp only at e hs
      subst e
      dsimp only
      have hKj := Chosen_le hc
      left
      unfold fX8_formsOf_s15
      rw [bd_t (X8rows b2), if_neg (nI_ge hj (by omega))]
      by_cases hb : ((a >>> (nI j &&& 31)) &&& (1 : Int32)) = (1 : Int32)
      · have hin := (inSet_iff (show j < 5 by omega)).mpr hb
        rw [if_pos hb]
        obtain ⟨W', h1, h2, h3⟩ := X8laysV (W := s2) (t := K) V b1 hC (by omega) hj hn hV
        rw [bd_t h1, nI_1 K]
        refine ⟨(nI (K + 1), W'), rfl, K + 1, fun m => if m = K then j else sel m, rfl, ⟨?_, ?_, ?_⟩, ?_⟩
        · intro m hm
          dsimp only
          by_cases e : m = K
          · rw [if_pos e]; exact ⟨by omega, hin⟩
          · rw [if_neg e]
            have := hc.1 m (by omega)
            exact ⟨by omega, this.2⟩
        · intro i hi hin2
          by_cases e : i = j
          · exact ⟨K, by omega, by dsimp only; rw [if_pos rfl, e]⟩
          · obtain ⟨m, hm, hm2⟩ := hc.2.1 i (by omega) hin2
            exact ⟨m, by omega, by dsimp only; rw [if_neg (by omega)]; exact hm2⟩
        · intro m m' hm hm'
          dsimp only
          rw [if_neg (by omega)]
          by_cases e : m' = K
          · rw [if_pos e]
            exact (hc.1 m (by omega)).1
          · rw [if_neg e]
            exact hc.2.2 m m' hm (by omega)
        · intro m c k hm hc3 hk
          dsimp only
          by_cases e : m = K
          · rw [if_pos e, e]
            exact h2 c k hc3 hk
          · rw [if_neg e, show 24 * m + 8 * c + k = 24 * m + (8 * c + k) by omega, h3 m _ e (by omega), ← Nat.add_assoc]
            exact hs m c k (by omega) hc3 hk
      · rw [if_neg hb]
        refine ⟨(nI K, s2), rfl, K, sel, rfl, ⟨fun m hm => ⟨by have := (hc.1 m hm).1; omega, (hc.1 m hm).2⟩, fun i hi hin => ?_, hc.2.2⟩, hs⟩
        by_cases e : i = j
        · subst e; exact absurd ((inSet_iff (by omega)).mp hin) hb
        · exact hc.2.1 i (by omega) hin)
    (by
      rintro ⟨s1, s2⟩ h
      dsimp only
      refine ⟨(s1, s2), ?_, h⟩
      unfold fX8_formsOf_s15
      rw [bd_t (X8rows b2), if_pos (nI_le (Nat.le_refl n) (by omega))])
    0 (0, W) (Nat.zero_le n) ⟨0, fun m => m, rfl, ⟨fun m hm => absurd hm (by omega), fun i hi => absurd hi (by omega), fun m m' hm hm' => absurd hm' (by omega)⟩, fun m c k hm => absurd hm (by omega)⟩
  obtain ⟨⟨r1, r2⟩, h1, K, sel, h2, h3, h4⟩ := key
  dsimp only at h2 h4
  subst h2
  exact ⟨K, r2, sel, h1, h3, h4⟩
theorem rw8_lv {p s m c : Nat} {W : Nat → Int32} {V : Nat → Nat → Nat → Nat} (hp : p < 1000) (hc : c < 3) (hb : ∀ c k, c < 3 → lv V s c k < p) (h : ∀ c k, c < 3 → k < 8 → W (24 * m + 8 * c + k) = nI (lv V s c k)) (k : Nat) : rw8 (emb W) m c k = rwV V s c k := by
  unfold rw8 rwV
  by_cases h8 : k < 8
  · rw [if_pos (by omega), cl8_emb hc h8 (by have := hb c k hc; omega) (h c k hc h8)]
    unfold lv
    by_cases h7 : k < 7
    · rw [if_pos h7, if_pos ⟨hc, h7⟩]
    · rw [if_neg h7, if_neg (by omega)]
      rfl
  · rw [if_neg (show ¬ (c < 3 ∧ k < 7) by omega)]
    by_cases h25 : k < 25
    · rw [if_pos h25, cl8_out (by omega) h25 (by omega)]
    · rw [if_neg h25]
theorem lvq_lt {p n s c k : Nat} {V : Nat → Nat → Nat → Nat} (hp : 0 < p) (hs : s < n) (hc : c < 3) (hV : ∀ i c k, i < n → c < 3 → k < 7 → V i c k < p) : lv V s c k < p := by
  unfold lv
  by_cases h : k < 7
  · rw [if_pos h]; exact hV s c k hs hc h
  · rw [if_neg h]; exact hp
theorem X8formsOf {p C n : Nat} {A W : Nat → Int32} {a : Int32} (V : Nat → Nat → Nat → Nat) (hp : p = 2 ∨ p = 3 ∨ p = 5 ∨ p = 7) (b0 : A 0 = nI p) (b1 : A 1 = nI C) (b2 : A 2 = nI n) (hC : C ≤ 3) (hn : n ≤ 5) (hV : ∀ i c k, i < n → c < 3 → k < 7 → V i c k < p ∧ A (3 + (i * 3 + c) * 7 + k) = nI (V i c k) ∧ (C ≤ c → V i c k = 0)) :
    ∃ K sel m W', fX8_formsOf A W a = some (nI m, nI C, W') ∧ Chosen n a K sel ∧ m ≤ K ∧ WR p C m W' ∧ SameM p C K (fun x => rwV V (sel x)) m (rw8 (emb W')) ∧ DP m (P8 (emb W') C) ∧ ld1 C m (emb W') ∧ Popv p C m (rw8 (emb W')) (fun i => P8 (emb W') C i - 1) := by
  have hp0 : 0 < p := by omega
  obtain ⟨K, W0, sel, h1, hc, h2⟩ := X8chosen (W := W) (a := a) V b1 b2 hC hn hV
  have hK := Chosen_le hc
  have hVl : ∀ i c k, i < n → c < 3 → k < 7 → V i c k < p := fun i c k hi hc hk => (hV i c k hi hc hk).1
  have hWR : WR p C K W0 := by
    intro x e k hx he hk
    refine ⟨lv V (sel x) e k, lvq_lt hp0 (hc.1 x hx).1 he hVl, h2 x e k hx he hk, fun h => ?_⟩
    unfold lv
    by_cases h7 : k < 7
    · rw [if_pos h7]; exact (hV _ e k (hc.1 x hx).1 he h7).2.2 h
    · rw [if_neg h7]
  have hsame : SameM p C K (fun x => rwV V (sel x)) K (rw8 (emb W0)) := SameM_e (fun x hx => eqv_same (fun c hcC k => (rw8_lv (p := p) (by omega) (by omega) (fun c k hc3 => lvq_lt hp0 (hc.1 x hx).1 hc3 hVl) (fun c k hc3 hk => h2 x c k hx hc3 hk) k).symm))
  obtain ⟨m, W', g1, g2, g3, g4, g5, g6, g7⟩ := X8forms (fun n num => SameM p C K (fun x => rwV V (sel x)) n (rw8 num)) hp b0 hC (by omega) (JC_mod hp0 (by omega) hC) hWR hsame
  refine ⟨K, sel, m, W', ?_, hc, g2, g3, g4, g5, g6, g7⟩
  unfold fX8_formsOf
  rw [bd_t (X8width b1), bd2_t h1, bd2_t g1]
theorem JC_true {p C : Nat} : JC p C (fun _ _ => True) := ⟨fun _ _ _ _ _ _ _ _ _ _ _ _ _ => trivial, fun _ _ _ _ _ _ _ _ _ _ => trivial, fun _ _ _ _ _ _ _ _ _ => trivial, fun _ _ _ _ _ _ _ _ => trivial⟩
theorem Chosen_same {p C n K K' : Nat} {a : Int32} {sel sel' : Nat → Nat} (R : Nat → Rw) (h : Chosen n a K sel) (h' : Chosen n a K' sel') : SameM p C K (fun x => R (sel x)) K' (fun x => R (sel' x)) := by
  refine SameM_sel (fun i hi => Or.inr ?_) (fun j hj => Or.inr ?_)
  · obtain ⟨h1, h2⟩ := h.1 i hi
    obtain ⟨m, hm, e⟩ := h'.2.1 (sel i) h1 h2
    exact ⟨m, hm, by rw [e]; exact eqv_r _⟩
  · obtain ⟨h1, h2⟩ := h'.1 j hj
    obtain ⟨m, hm, e⟩ := h.2.1 (sel' j) h1 h2
    exact ⟨m, hm, by rw [e]; exact eqv_r _⟩
/-- two small numbers that are alike modulo p are the same -/
theorem small_eq {p v w : Nat} (hv : v < p) (hw : w < p) (h : (p : Int) ∣ (v : Int) - w) : v = w := by
  obtain ⟨z, hz⟩ := h
  apply Classical.byContradiction
  intro hne
  have hz0 : z ≠ 0 := by
    intro e
    rw [e, Int.mul_zero] at hz
    omega
  by_cases hpos : 0 < z
  · have := Int.mul_le_mul_of_nonneg_left (show (1 : Int) ≤ z by omega) (show (0 : Int) ≤ (p : Int) by omega)
    omega
  · have := Int.mul_le_mul_of_nonneg_left (show (z : Int) ≤ -1 by omega) (show (0 : Int) ≤ (p : Int) by omega)
    omega
theorem forms_both {p C n : Nat} {nnum all lnum pl yp work : Nat → Int32} {a x1 x2 x3 x4 x5 x6 : Int32} (V : Nat → Nat → Nat → Nat) (J : Nat → (Nat → Nat) → Nat → (Nat → Int32) → Prop) (hp : p = 2 ∨ p = 3 ∨ p = 5 ∨ p = 7) (b0 : all 0 = nI p) (b1 : all 1 = nI C) (b2 : all 2 = nI n) (hC : C ≤ 3) (hn : n ≤ 5) (hV : ∀ i c k, i < n → c < 3 → k < 7 → V i c k < p ∧ nnum ((i * 3 + c) * 7 + k) = nI (V i c k) ∧ all (3 + (i * 3 + c) * 7 + k) = nI (V i c k) ∧ (C ≤ c → V i c k = 0)) (hJC : ∀ K sel, JC p C (J K sel))
    (hJ0 : ∀ K sel num, Chosen n a K sel → Rep8 p K num → Low8 C K num → (∀ m c k, m < K → c < 8 → k < 25 → num ((m * 8 + c) * 25 + k) = nI (blk V (sel m) c k)) → J K sel K num) :
    ∃ K sel m num' W' y1 y2 y3 y4 y5 y6 y7 y8, fX2_buildFrom lnum x1 x2 x3 x4 x5 pl x6 yp 105 (5 : Int32) (3 : Int32) (7 : Int32) (nI p) (nI C) (nI n) nnum a = some (nI p, nI C, nI m, num', y1, y2, y3, y4, y5, y6, y7, y8) ∧ fX8_formsOf all work a = some (nI m, nI C, W') ∧ Chosen n a K sel ∧ m ≤ K ∧ m ≤ 5 ∧ Rep8 p m num' ∧ Low8 C m num' ∧ WR p C m W' ∧ J K sel m num' ∧ (∀ i, i < m → P8 num' C i = P8 (emb W') C i ∧ P8 num' C i ≠ 0) ∧ (∀ i c k, i < m → c < C → k < 8 → num' ((i * 8 + c) * 25 + k) = W' (24 * i + 8 * c + k)) ∧ Popv p C m (rw8 num') (fun i => P8 num' C i - 1) ∧ SameM p C K (fun x => rwV V (sel x)) m (rw8 num') ∧ SameM p C m (rw8 num') m (rw8 (emb W')) ∧ DP m (P8 num' C) ∧ ld1 C m num' ∧ DP m (P8 (emb W') C) ∧ ld1 C m (emb W') := by
  have hp0 : 0 < p := by omega
  obtain ⟨K, sel, m, num', y1, y2, y3, y4, y5, y6, y7, y8, g1, g2, g3, g4, g5, ⟨g6, g6b⟩, g7, g8⟩ := buildFrom8 (lnum := lnum) (pl := pl) (yp := yp) (x1 := x1) (x2 := x2) (x3 := x3) (x4 := x4) (x5 := x5) (x6 := x6) (a1 := a) V (fun K sel n num => SameM p C K (fun x => rwV V (sel x)) n (rw8 num) ∧ J K sel n num) hp hC hn (fun i c k hi hc hk => ⟨(hV i c k hi hc hk).1, (hV i c k hi hc hk).2.1⟩) (fun K sel => JC_and (JC_mod hp0 (by omega) hC) (hJC K sel))
    (fun K sel num hc hr hl h => ⟨build_mod V (by omega) (by omega) hC (fun i c k hi hc hk => (hV i c k hi hc hk).1) K sel num hc hr hl h, hJ0 K sel num hc hr hl h⟩)
  obtain ⟨K', sel', m', W', f1, f2, f3, f4, f5, f6, f7, f8⟩ := X8formsOf (A := all) (W := work) (a := a) V hp b0 b1 b2 hC hn (fun i c k hi hc hk => ⟨(hV i c k hi hc hk).1, (hV i c k hi hc hk).2.2⟩)
  have hss : SameM p C m (rw8 num') m' (rw8 (emb W')) := SameM_t (SameM_s g6) (SameM_t (Chosen_same (rwV V) g2 f2) f5)
  obtain ⟨e1, e2⟩ := popv_uniq (show 1 < p by omega) g8 f8 hss
  subst e1
  have hKn := Chosen_le g2
  have hPP : ∀ i, i < m → P8 num' C i = P8 (emb W') C i := fun i hi => by
    have h1 := (e2 i hi).1
    have h2 := g7 i hi
    have h3 := f6.1 i hi
    omega
  have hcell : ∀ i c k, i < m → c < C → k < 8 → num' ((i * 8 + c) * 25 + k) = W' (24 * i + 8 * c + k) := by
    intro i c k hi hc hk
    obtain ⟨v, v1, v2⟩ := g4 i c k hi (by omega) (by omega)
    obtain ⟨w, w1, w2, -⟩ := f4 i c k hi (by omega) hk
    have h := (e2 i hi).2 c hc k
    unfold rw8 at h
    rw [if_pos (by omega), if_pos (by omega), cl8_emb (by omega) hk (by omega) w2] at h
    unfold cl8 at h
    rw [v2, nI_toInt (by omega)] at h
    rw [v2, w2, small_eq v1 w1 h]
  refine ⟨K, sel, m, num', W', y1, y2, y3, y4, y5, y6, y7, y8, g1, f1, g2, g3, by omega, g4, g5, f4, g6b, fun i hi => ⟨hPP i hi, g7 i hi⟩, hcell, g8, g6, hss, ?_, ?_, f6, f7⟩
  · exact ⟨g7, fun i j hi hj hij => by rw [hPP i hi, hPP j hj]; exact f6.2 i j hi hj hij⟩
  · intro i b hi hb
    have hb3 := (plc_spec _ _ _ _ hb).1
    have hbC := (plc_spec _ _ _ _ hb).2.1
    rw [hcell i (b % 3) (b / 3) hi hbC (by omega), ← emb_in (W := W') (i := i) (by omega) (by omega)]
    exact f7 i b hi (by rw [← hPP i hi]; exact hb)
theorem shr_zero {a s : Int32} {k : Nat} (hs : (s.toBitVec.smod 32).toNat = k) : (a >>> s) = 0 ↔ 0 ≤ a.toInt ∧ a.toInt < 2 ^ k := by
  have h := pk_shr a s k hs
  have hk : a.toInt >>> k = a.toInt / 2 ^ k := by
    rw [Int.shiftRight_eq_div_pow]
    norm_cast
  rw [hk] at h
  have hpos : (0 : Int) < 2 ^ k := Int.pow_pos (by decide)
  constructor
  · intro e
    rw [e, show (0 : Int32).toInt = 0 from rfl] at h
    have h1 := Int.emod_add_mul_ediv a.toInt (2 ^ k)
    have h2 := Int.emod_nonneg a.toInt (show (2 : Int) ^ k ≠ 0 by omega)
    have h3 := Int.emod_lt_of_pos a.toInt hpos
    rw [← h, Int.mul_zero, Int.add_zero] at h1
    omega
  · rintro ⟨h1, h2⟩
    apply i32_eq
    rw [h, Int.ediv_eq_zero_of_lt h1 h2]
    rfl
theorem set_both {all : Nat → Int32} {n : Nat} {a : Int32} (hn : n ≤ 5) (b2 : all 2 = nI n) : fX8_isSet all a = some (fX3_hasSet (nI n) a) := by
  unfold fX8_isSet
  rw [bd_t (X8rows b2)]
  refine congrArg some ?_
  have hq : ∀ N : Nat, N < 100 → ((((1 : Int32) <<< (nI n &&& 31)) - (1 : Int32))) = nI (N - 1) → 0 < N → ((a >>> (nI n &&& 31)) = 0 ↔ 0 ≤ a.toInt ∧ a.toInt < N) → fX8_in a.toInt64 (0 : Int64) ((((1 : Int32) <<< (nI n &&& 31)) - (1 : Int32)).toInt64) = fX3_hasSet (nI n) a := by
    intro N hN e hN0 hiff
    rw [e]
    rw [show fX8_in a.toInt64 (0 : Int64) (nI (N - 1)).toInt64 = fX7_isWithin a 0 (nI (N - 1)) from in_wi a 0 (nI (N - 1))]
    unfold fX7_isWithin fX3_hasSet
    by_cases h : (a >>> (nI n &&& 31)) = 0
    · obtain ⟨h1, h2⟩ := hiff.mp h
      rw [if_pos h, if_neg, if_neg]
      · rw [Int32.lt_iff_toInt_lt, nI_toInt (by omega)]; omega
      · rw [Int32.lt_iff_toInt_lt, show (0 : Int32).toInt = 0 from rfl]; omega
    · rw [if_neg h]
      by_cases h0 : a < 0
      · rw [if_pos h0]
      · rw [if_neg h0, if_pos]
        rw [Int32.lt_iff_toInt_lt, show (0 : Int32).toInt = 0 from rfl] at h0
        rw [Int32.lt_iff_toInt_lt, nI_toInt (by omega)]
        apply Classical.byContradiction
        intro h1
        exact h (hiff.mpr (by omega))
  rcases (show n = 0 ∨ n = 1 ∨ n = 2 ∨ n = 3 ∨ n = 4 ∨ n = 5 by omega) with e | e | e | e | e | e <;> subst e
  · exact hq 1 (by omega) (by decide) (by omega) (shr_zero (k := 0) (by decide))
  · exact hq 2 (by omega) (by decide) (by omega) (shr_zero (k := 1) (by decide))
  · exact hq 4 (by omega) (by decide) (by omega) (shr_zero (k := 2) (by decide))
  · exact hq 8 (by omega) (by decide) (by omega) (shr_zero (k := 3) (by decide))
  · exact hq 16 (by omega) (by decide) (by omega) (shr_zero (k := 4) (by decide))
  · exact hq 32 (by omega) (by decide) (by omega) (shr_zero (k := 5) (by decide))
