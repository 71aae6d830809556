/-! the same module: what class and reference compare -/
theorem sm_ext {n m : Nat} {f : Nat → Int} (h : n ≤ m) (hz : ∀ i, n ≤ i → i < m → f i = 0) : sm m f = sm n f := by
  induction m with
  | zero => rw [show n = 0 by omega]
  | succ m ih =>
    by_cases e : n = m + 1
    · rw [e]
    · rw [sm_s, ih (by omega) (fun i h1 h2 => hz i h1 (by omega)), hz m (by omega) (by omega), Int.add_zero]
theorem sm_drop {n m : Nat} {p : Int} {f : Nat → Int} (h : n ≤ m) (hz : ∀ i, n ≤ i → i < m → p ∣ f i) : p ∣ sm m f - sm n f := by
  induction m with
  | zero => rw [show n = 0 by omega]; exact ⟨0, by omega⟩
  | succ m ih =>
    by_cases e : n = m + 1
    · rw [e]; exact ⟨0, by omega⟩
    · obtain ⟨z, hz1⟩ := ih (by omega) (fun i h1 h2 => hz i h1 (by omega))
      obtain ⟨y, hy⟩ := hz m (by omega) (by omega)
      exact ⟨z + y, by rw [sm_s, Int.mul_add]; omega⟩
theorem Span_sm {p C n : Nat} {a : Nat → Rw} (G : Nat → Rw) (N : Nat) (h : ∀ s, s < N → Span p C n a (G s)) : Span p C n a (fun c k => sm N (fun s => G s c k)) := by
  have cl := Span_cl p C n a
  induction N with
  | zero => exact cl.1
  | succ N ih => exact cl.2.2.1 _ _ (ih (fun s hs => h s (by omega))) (h N (by omega))
theorem comb_span {p C n N : Nat} {a : Nat → Rw} {q : Nat → Nat → Int} (hq : ∀ j s, N ≤ s → q j s = 0) : Span p C n a (comb n q a) := by
  have cl := Span_cl p C n a
  refine Span_sm (fun j c k => sm (k + 1) (fun s => q j s * a j c (k - s))) n (fun j hj => ?_)
  refine cl.2.1 _ _ (Span_sm (fun s => rsh (q j s) s (a j)) N (fun s _ => cl.2.2.2 _ _ _ (Span_in hj))) ?_
  intro c _ k
  refine ⟨0, ?_⟩
  have e1 : sm (k + 1) (fun s => q j s * a j c (k - s)) = sm (N + k + 1) (fun s => if s ≤ k then q j s * a j c (k - s) else 0) := by
    rw [sm_ext (n := k + 1) (m := N + k + 1) (by omega) (fun i h1 h2 => if_neg (by omega))]
    exact sm_congr (fun i hi => by rw [if_pos (by omega)])
  have e2 : sm N (fun s => rsh (q j s) s (a j) c k) = sm (N + k + 1) (fun s => if s ≤ k then q j s * a j c (k - s) else 0) := by
    rw [sm_ext (n := N) (m := N + k + 1) (by omega) (fun i h1 h2 => by
      by_cases h : i ≤ k
      · rw [if_pos h, hq j i h1, Int.zero_mul]
      · rw [if_neg h])]
    exact sm_congr (fun i hi => rfl)
  show sm N (fun s => rsh (q j s) s (a j) c k) - sm (k + 1) (fun s => q j s * a j c (k - s)) = ↑p * 0
  rw [e1, e2]
  omega
/-- rows that lie low span what lies low -/
theorem popv_low {p C n K X : Nat} {a b : Nat → Rw} {Q : Nat → Nat} (hp : 1 < p) (hb : Popv p C n b Q) (hs : SameM p C K a n b) (ha : ∀ i, i < K → ∀ c k, c < C → X ≤ k * 3 + c → (p : Int) ∣ a i c k) : ∀ j, j < n → Q j < X := by
  obtain ⟨b1, b2, b3, b4⟩ := hb
  intro j0 hj0
  apply Classical.byContradiction
  intro hge
  have hcut : ∃ n', n' ≤ n ∧ (∀ j, j < n' → Q j < X) ∧ ∀ j, n' ≤ j → j < n → X ≤ Q j := by
    have : ∀ m, m ≤ n → ∃ n', n' ≤ m ∧ (∀ j, j < n' → Q j < X) ∧ ∀ j, n' ≤ j → j < m → X ≤ Q j := by
      intro m
      induction m with
      | zero => intro _; exact ⟨0, Nat.le_refl _, fun j h => absurd h (Nat.not_lt_zero _), fun j _ h => absurd h (Nat.not_lt_zero _)⟩
      | succ m ih =>
        intro hm
        obtain ⟨n', h1, h2, h3⟩ := ih (by omega)
        by_cases h : Q m < X
        · refine ⟨m + 1, Nat.le_refl _, fun j hj => ?_, fun j h4 h5 => absurd h5 (by omega)⟩
          by_cases e : j = m
          · rw [e]; exact h
          · have := b4 j m (by omega) (by omega)
            omega
        · refine ⟨n', by omega, h2, fun j h4 h5 => ?_⟩
          by_cases e : j = m
          · rw [e]; omega
          · exact h3 j h4 (by omega)
    exact this n (Nat.le_refl n)
  obtain ⟨n', hn', c1, c2⟩ := hcut
  obtain ⟨B, hB⟩ := bound_ex n Q
  have hin : ∀ i, i < K → Span p C n' b (a i) := by
    intro i hi
    obtain ⟨N, q, h1, h2⟩ := Span_comb (hs.1 i hi)
    have key : ∀ d j s, j < n → 3 * N + B + 3 ≤ 3 * s + Q j + d → X ≤ 3 * s + Q j → (p : Int) ∣ q j s := by
      intro d
      induction d with
      | zero =>
        intro j s hj h _
        have := hB j hj
        rw [h1 j s (by omega)]
        exact ⟨0, by omega⟩
      | succ d ih =>
        intro j s hj h hX
        have g1 := comb_at (N := N) (X := B) b1 b2 (q := q) (j := j) (s := s) hj (fun j' s' hj' h' => ih j' s' hj' (by omega) (by omega))
        have g2 := ha i hi (Q j % 3) (s + Q j / 3) (b1 j hj).1 (by omega)
        have g3 := h2 _ (b1 j hj).1 (s + Q j / 3)
        obtain ⟨z, hz⟩ := g1
        obtain ⟨y, hy⟩ := g2
        obtain ⟨x, hx⟩ := g3
        exact ⟨y - x - z, by rw [Int.mul_sub, Int.mul_sub]; omega⟩
    refine (Span_cl p C n' b).2.1 _ _ (comb_span (n := n') (q := q) h1) ?_
    intro c hc k
    obtain ⟨z, hz⟩ := h2 c hc k
    have hd : (p : Int) ∣ comb n q b c k - comb n' q b c k := by
      unfold comb
      exact sm_drop hn' (fun j h3 h4 => sm_dvd0 (fun s _ => dvd_mul_l (key (3 * N + B + 3) j s h4 (by omega) (by have := c2 j h3 h4; omega))))
    obtain ⟨y, hy⟩ := hd
    exact ⟨-z - y, by rw [Int.mul_sub, Int.mul_neg]; omega⟩
  have h0 : Span p C n' b (b j0) := Span_tr hin (hs.2 j0 hj0)
  obtain ⟨j, hj, e1, e2⟩ := lead_hit hp (fun j hj => b1 j (by omega)) (fun i j hi hj e => b2 i j (by omega) (by omega) e) h0 (b1 j0 hj0)
  have := c1 j hj
  exact b2 j j0 (by omega) hj0 (fun e => by rw [e] at this; exact hge this) e1
theorem hasE {C m m2 : Nat} {num1 num2 : Nat → Int32} (hC : C ≤ 3) (hm : m ≤ 5) (hm2 : m2 ≤ 5) : ∃ r : Int32, fX3_hasEntriesOf 1000 (5 : Int32) (8 : Int32) (25 : Int32) (nI C) (nI m) num1 1000 (5 : Int32) (8 : Int32) (25 : Int32) (nI m2) num2 = some r ∧ (r = 1 ∧ (m = m2 ∧ ∀ i c k, i < m → c < C → k < 7 → num1 ((i * 8 + c) * 25 + k) = num2 ((i * 8 + c) * 25 + k)) ∨ r = 0 ∧ ¬ (m = m2 ∧ ∀ i c k, i < m → c < C → k < 7 → num1 ((i * 8 + c) * 25 + k) = num2 ((i * 8 + c) * 25 + k))) := by
  by_cases hmm : m = m2
  · subst hmm
    obtain ⟨r, h1, h2⟩ := Lp_up (fun (i : Int32) (_ : Unit) => i) (g := fun z => fX3_hasEntriesOf_s15 1000 (5 : Int32) (8 : Int32) (25 : Int32) (nI C) (nI m) num1 1000 (5 : Int32) (8 : Int32) (25 : Int32) num2 z) m (fun i _ => ∀ a c k, a < i → c < C → k < 7 → num1 ((a * 8 + c) * 25 + k) = num2 ((a * 8 + c) * 25 + k))
      (fun r => r = .inl () ∧ (∀ a c k, a < m → c < C → k < 7 → num1 ((a * 8 + c) * 25 + k) = num2 ((a * 8 + c) * 25 + k)) ∨ r = .inr 0 ∧ ∃ a c k, a < m ∧ c < C ∧ k < 7 ∧ num1 ((a * 8 + c) * 25 + k) ≠ num2 ((a * 8 + c) * 25 + k))
      (fun i _ hi hI => by
        obtain ⟨r, g1, g2⟩ := Lp_up (fun (i : Int32) (_ : Unit) => i) (g := fun z => fX3_hasEntriesOf_s25 1000 (5 : Int32) (8 : Int32) (25 : Int32) (nI C) num1 1000 (5 : Int32) (8 : Int32) (25 : Int32) num2 (nI i) z) C (fun c _ => ∀ b k, b < c → k < 7 → num1 ((i * 8 + b) * 25 + k) = num2 ((i * 8 + b) * 25 + k))
          (fun r => r = .inl () ∧ (∀ c k, c < C → k < 7 → num1 ((i * 8 + c) * 25 + k) = num2 ((i * 8 + c) * 25 + k)) ∨ r = .inr (.inr (.inr 0)) ∧ ∃ c k, c < C ∧ k < 7 ∧ num1 ((i * 8 + c) * 25 + k) ≠ num2 ((i * 8 + c) * 25 + k))
          (fun c _ hc hI2 => by
            obtain ⟨r, f1, f2⟩ := Lp_up (fun (i : Int32) (_ : Unit) => i) (g := fun z => fX3_hasEntriesOf_s36 1000 (5 : Int32) (8 : Int32) (25 : Int32) num1 1000 (5 : Int32) (8 : Int32) (25 : Int32) num2 (nI i) (nI c) z) 7 (fun k _ => ∀ b, b < k → num1 ((i * 8 + c) * 25 + b) = num2 ((i * 8 + c) * 25 + b))
              (fun r => r = .inl () ∧ (∀ k, k < 7 → num1 ((i * 8 + c) * 25 + k) = num2 ((i * 8 + c) * 25 + k)) ∨ r = .inr (.inr (.inr (.inr (.inr 0)))) ∧ ∃ k, k < 7 ∧ num1 ((i * 8 + c) * 25 + k) ≠ num2 ((i * 8 + c) * 25 + k))
              (fun k _ hk hI3 => by
                have at1 : fX3_at 1000 (5 : Int32) (8 : Int32) (25 : Int32) num1 (nI i) (nI c) (nI k) = some (num1 ((i * 8 + c) * 25 + k)) := X3at_in (L := 1000) (R := 5) (w := 8) (q := 25) (i := i) (c := c) (k := k) rfl (by omega) (by omega) (by omega) (by omega) (by omega) (by omega) (by omega)
                have at2 : fX3_at 1000 (5 : Int32) (8 : Int32) (25 : Int32) num2 (nI i) (nI c) (nI k) = some (num2 ((i * 8 + c) * 25 + k)) := X3at_in (L := 1000) (R := 5) (w := 8) (q := 25) (i := i) (c := c) (k := k) rfl (by omega) (by omega) (by omega) (by omega) (by omega) (by omega) (by omega)
                unfold fX3_hasEntriesOf_s36
                rw [if_neg (show ¬ (6 : Int32) < nI k from (nI_nlt (by omega) (by omega) : ¬ nI 6 < nI k)), bd_t at1, bd_t at2]
                by_cases e : num1 ((i * 8 + c) * 25 + k) = num2 ((i * 8 + c) * 25 + k)
                · rw [if_pos e]
                  refine Or.inl ⟨(), rfl, fun b hb => ?_⟩
                  by_cases eb : b = k
                  · rw [eb]; exact e
                  · exact hI3 b (by omega)
                · rw [if_neg e]
                  exact Or.inr ⟨_, rfl, Or.inr ⟨rfl, k, hk, e⟩⟩)
              (fun _ hI3 => by
                refine ⟨.inl (), ?_, Or.inl ⟨rfl, hI3⟩⟩
                unfold fX3_hasEntriesOf_s36
                rw [if_pos (show (6 : Int32) < nI 7 from (nI_lt (by omega) (by omega) : nI 6 < nI 7))]) 0 () (Nat.zero_le _) (fun b hb => absurd hb (Nat.not_lt_zero _))
            unfold fX3_hasEntriesOf_s25
            rw [if_neg (nI_ge hc (by omega)), show Lp (fun z => fX3_hasEntriesOf_s36 1000 (5 : Int32) (8 : Int32) (25 : Int32) num1 1000 (5 : Int32) (8 : Int32) (25 : Int32) num2 (nI i) (nI c) z) (0 : Int32) = some r from f1]
            rcases f2 with ⟨e, f3⟩ | ⟨e, k, f3, f4⟩
            · subst e
              refine Or.inl ⟨(), rfl, fun b k hb hk => ?_⟩
              by_cases eb : b = c
              · rw [eb]; exact f3 k hk
              · exact hI2 b k (by omega) hk
            · subst e
              exact Or.inr ⟨_, rfl, Or.inr ⟨rfl, c, k, hc, f3, f4⟩⟩)
          (fun _ hI2 => by
            refine ⟨.inl (), ?_, Or.inl ⟨rfl, hI2⟩⟩
            unfold fX3_hasEntriesOf_s25
            rw [if_pos (nI_le (Nat.le_refl _) (by omega))]) 0 () (Nat.zero_le _) (fun b k hb => absurd hb (Nat.not_lt_zero _))
        unfold fX3_hasEntriesOf_s15
        rw [if_neg (nI_ge hi (by omega)), show Lp (fun z => fX3_hasEntriesOf_s25 1000 (5 : Int32) (8 : Int32) (25 : Int32) (nI C) num1 1000 (5 : Int32) (8 : Int32) (25 : Int32) num2 (nI i) z) (0 : Int32) = some r from g1]
        rcases g2 with ⟨e, f3⟩ | ⟨e, c, k, f3, f4, f5⟩
        · subst e
          refine Or.inl ⟨(), rfl, fun a c k ha hc hk => ?_⟩
          by_cases ea : a = i
          · rw [ea]; exact f3 c k hc hk
          · exact hI a c k (by omega) hc hk
        · subst e
          exact Or.inr ⟨_, rfl, Or.inr ⟨rfl, i, c, k, hi, f3, f4, f5⟩⟩)
      (fun _ hI => by
        refine ⟨.inl (), ?_, Or.inl ⟨rfl, hI⟩⟩
        unfold fX3_hasEntriesOf_s15
        rw [if_pos (nI_le (Nat.le_refl _) (by omega))]) 0 () (Nat.zero_le _) (fun a c k ha => absurd ha (Nat.not_lt_zero _))
    unfold fX3_hasEntriesOf
    rw [if_pos rfl, show Lp (fun z => fX3_hasEntriesOf_s15 1000 (5 : Int32) (8 : Int32) (25 : Int32) (nI C) (nI m) num1 1000 (5 : Int32) (8 : Int32) (25 : Int32) num2 z) (0 : Int32) = some r from h1]
    rcases h2 with ⟨e, f3⟩ | ⟨e, a, c, k, f3, f4, f5, f6⟩
    · subst e
      exact ⟨1, rfl, Or.inl ⟨rfl, rfl, f3⟩⟩
    · subst e
      exact ⟨0, rfl, Or.inr ⟨rfl, fun z => f6 (z.2 a c k f3 f4 f5)⟩⟩
  · refine ⟨0, ?_, Or.inr ⟨rfl, fun z => hmm z.1⟩⟩
    unfold fX3_hasEntriesOf
    rw [if_neg (fun e => hmm ((nI_eq (by omega) (by omega)).mp e))]
theorem sameR {m m2 : Nat} {W1 W2 kept : Nat → Int32} (hm : m ≤ 5) (hm2 : m2 ≤ 5) : ∃ K : Nat → Int32, Lp (fun (z : Int32 × (Nat → Int32)) => fX8_areSame_s13 (nI m) W1 z.1 z.2) ((0 : Int32), kept) = some K ∧ ∃ r : Int32, Lp (fun (z : Int32 × Int32) => fX8_areSame_s65 (nI m) W2 K z.1 z.2) ((if m = m2 then (1 : Int32) else 0), (0 : Int32)) = some r ∧ (r = 1 ∧ (m = m2 ∧ ∀ x, x < 24 * m → W1 x = W2 x) ∨ r = 0 ∧ ¬ (m = m2 ∧ ∀ x, x < 24 * m → W1 x = W2 x)) := by
  have e24 : (24 : Int32) * nI m = nI (24 * m) := pk_mul 24 m
  obtain ⟨K, h1, h2, -⟩ := Lp_arr (g := fun (z : Int32 × (Nat → Int32)) => fX8_areSame_s13 (nI m) W1 z.1 z.2) (a := 0) (N := 24 * m) (A := kept) (fun k => k) (fun k => W1 k) (by omega) (fun i j _ h _ => by omega) (fun k s _ hk _ => by
      dsimp only
      unfold fX8_areSame_s13
      rw [e24, if_neg (nI_ge hk (by omega)), gd_t (vp_in_nI (by omega) (by omega)), gd_t (vp_in_nI (by omega) (by omega)), nI_clamp (by omega)]) (fun s _ => by
      dsimp only
      unfold fX8_areSame_s13
      rw [e24, if_pos (nI_le (Nat.le_refl _) (by omega))])
  refine ⟨K, h1, ?_⟩
  by_cases hmm : m = m2
  · rw [if_pos hmm]
    obtain ⟨r, g1, g2⟩ := Lp_up (fun j (s : Int32) => (s, j)) (g := fun (z : Int32 × Int32) => fX8_areSame_s65 (nI m) W2 K z.1 z.2) (24 * m) (fun j s => s = 1 ∧ (∀ x, x < j → W1 x = W2 x) ∨ s = 0 ∧ ∃ x, x < 24 * m ∧ W1 x ≠ W2 x)
      (fun r => r = 1 ∧ (∀ x, x < 24 * m → W1 x = W2 x) ∨ r = 0 ∧ ∃ x, x < 24 * m ∧ W1 x ≠ W2 x)
      (fun j s hj hI => by
        dsimp only
        unfold fX8_areSame_s65
        rw [e24, if_neg (nI_ge hj (by omega))]
        rcases hI with ⟨e, f⟩ | ⟨e, f⟩
        · subst e
          rw [if_neg (by decide), gd_t (vp_in_nI (by omega) (by omega)), gd_t (vp_in_nI (by omega) (by omega)), nI_clamp (by omega), h2 j (by omega) hj]
          by_cases hx : W1 j = W2 j
          · rw [if_pos hx]
            refine Or.inl ⟨1, rfl, Or.inl ⟨rfl, fun x hxj => ?_⟩⟩
            by_cases ex : x = j
            · rw [ex]; exact hx
            · exact f x (by omega)
          · rw [if_neg hx]
            exact Or.inl ⟨0, rfl, Or.inr ⟨rfl, j, hj, hx⟩⟩
        · subst e
          rw [if_pos rfl]
          exact Or.inr ⟨0, rfl, Or.inr ⟨rfl, f⟩⟩)
      (fun s hI => by
        refine ⟨s, ?_, hI⟩
        dsimp only
        unfold fX8_areSame_s65
        rw [e24, if_pos (nI_le (Nat.le_refl _) (by omega))]) 0 1 (Nat.zero_le _) (Or.inl ⟨rfl, fun x hx => absurd hx (Nat.not_lt_zero _)⟩)
    refine ⟨r, g1, ?_⟩
    rcases g2 with ⟨e, f⟩ | ⟨e, x, f1, f2⟩
    · exact Or.inl ⟨e, hmm, f⟩
    · exact Or.inr ⟨e, fun z => f2 (z.2 x f1)⟩
  · rw [if_neg hmm]
    refine ⟨0, Lp_end ?_, Or.inr ⟨rfl, fun z => hmm z.1⟩⟩
    dsimp only
    unfold fX8_areSame_s65
    by_cases h0 : (24 : Int32) * nI m ≤ 0
    · rw [if_pos h0]
    · rw [if_neg h0, if_pos rfl]
/-- a form of the state's rows has no power 7 -/
theorem form_low {p C n K m : Nat} {a : Int32} {sel : Nat → Nat} {num : Nat → Int32} {V : Nat → Nat → Nat → Nat} (hp : 1 < p) (hlow : Low8 C m num) (hc : Chosen n a K sel) (hP : Popv p C m (rw8 num) (fun i => P8 num C i - 1)) (hs : SameM p C K (fun x => rwV V (sel x)) m (rw8 num)) (hrep : Rep8 p m num) (hp2 : p < 1000) (hC : C ≤ 3) : ∀ i c, i < m → c < C → num ((i * 8 + c) * 25 + 7) = 0 := by
  have h := popv_low (X := 21) hp hP hs (fun i hi c k hcC hk => ⟨0, by
    show rwV V (sel i) c k = _
    unfold rwV
    rw [if_neg (by omega)]
    omega⟩)
  intro i c hi hcC
  have h9 : P8 num C i - 1 < 21 := h i hi
  have h1 := (hP.1 i hi).2.2 c 7 hcC (by show P8 num C i - 1 < 7 * 3 + c; omega)
  obtain ⟨v, v1, v2⟩ := hrep i c 7 hi (by omega) (by omega)
  unfold rw8 cl8 at h1
  rw [if_pos (by omega), v2, nI_toInt (by omega)] at h1
  rw [v2, small_eq v1 (show 0 < p by omega) (by rw [Int.natCast_zero, Int.sub_zero]; exact h1)]
  rfl
