/-! leads: rows with unlike pivots, and what follows for their sums -/
/-- row v has its lead 1 at the place P, nothing above it -/
def ldAt (p C : Nat) (v : Rw) (P : Nat) : Prop := P % 3 < C ∧ (p : Int) ∣ v (P % 3) (P / 3) - 1 ∧ ∀ c k, c < C → P < k * 3 + c → (p : Int) ∣ v c k
theorem dvd_mul_l {p a b : Int} (h : p ∣ a) : p ∣ a * b := by
  obtain ⟨z, hz⟩ := h
  exact ⟨z * b, by rw [hz, Int.mul_assoc]⟩
theorem dvd_mul_r {p a b : Int} (h : p ∣ b) : p ∣ a * b := by
  rw [Int.mul_comm]
  exact dvd_mul_l h
theorem sm_dvd0 {n : Nat} {p : Int} {f : Nat → Int} (h : ∀ i, i < n → p ∣ f i) : p ∣ sm n f := by
  have := sm_dvd (n := n) (p := p) (f := f) (g := fun _ => 0) (fun i hi => by rw [Int.sub_zero]; exact h i hi)
  rw [sm_zero, Int.sub_zero] at this
  exact this
theorem sm_dvd1 {n i : Nat} {p x : Int} {f : Nat → Int} (hi : i < n) (hx : p ∣ f i - x) (h : ∀ j, j < n → j ≠ i → p ∣ f j) : p ∣ sm n f - x := by
  have h1 := sm_dvd (n := n) (p := p) (f := f) (g := fun j => if j = i then f i else 0) (fun j hj => by
    by_cases e : j = i
    · rw [if_pos e, e]; exact ⟨0, by omega⟩
    · rw [if_neg e, Int.sub_zero]; exact h j hj e)
  rw [sm_one hi (f := fun j => if j = i then f i else 0) (fun j _ e => if_neg e), if_pos rfl] at h1
  obtain ⟨z, hz⟩ := h1
  obtain ⟨y, hy⟩ := hx
  exact ⟨z + y, by rw [Int.mul_add]; omega⟩
theorem comb_at {p C n N X : Nat} {a : Nat → Rw} {P : Nat → Nat} {q : Nat → Nat → Int} (ha : ∀ j, j < n → ldAt p C (a j) (P j)) (hd : ∀ i j, i < n → j < n → i ≠ j → P i % 3 ≠ P j % 3) {j s : Nat} (hj : j < n) (hq : ∀ j' s', j' < n → 3 * s + P j < 3 * s' + P j' → (p : Int) ∣ q j' s') : (p : Int) ∣ comb n q a (P j % 3) (s + P j / 3) - q j s := by
  have hPj := ha j hj
  have hdm : P j = P j / 3 * 3 + P j % 3 := by omega
  unfold comb
  refine sm_dvd1 hj ?_ ?_
  · refine sm_dvd1 (i := s) (by omega) ?_ ?_
    · rw [show s + P j / 3 - s = P j / 3 by omega]
      obtain ⟨z, hz⟩ := hPj.2.1
      exact ⟨q j s * z, by rw [← Int.mul_assoc, Int.mul_comm (p : Int), Int.mul_assoc, ← hz, Int.mul_sub, Int.mul_one]⟩
    · intro s' hs' hne
      by_cases hlt : s < s'
      · exact dvd_mul_l (hq j s' hj (by omega))
      · exact dvd_mul_r (hPj.2.2 _ _ hPj.1 (by omega))
  · intro j' hj' hne
    refine sm_dvd0 (fun s' hs' => ?_)
    have hne2 := hd j' j hj' hj hne
    by_cases hlt : 3 * s + P j < 3 * s' + P j'
    · exact dvd_mul_l (hq j' s' hj' hlt)
    · refine dvd_mul_r ((ha j' hj').2.2 _ _ hPj.1 ?_)
      omega
/-- a sum that is nowhere at or above a lead is nought -/
theorem comb_zero {p C n N X : Nat} {a : Nat → Rw} {P : Nat → Nat} {q : Nat → Nat → Int} (hX : ∀ j, j < n → P j ≤ X) (ha : ∀ j, j < n → ldAt p C (a j) (P j)) (hd : ∀ i j, i < n → j < n → i ≠ j → P i % 3 ≠ P j % 3) (hN : ∀ j s, N ≤ s → q j s = 0) (hr : ∀ j, j < n → ∀ k, P j / 3 ≤ k → (p : Int) ∣ comb n q a (P j % 3) k) : ∀ j s, j < n → (p : Int) ∣ q j s := by
  have key : ∀ d j s, j < n → 3 * N + X + 3 ≤ 3 * s + P j + d → (p : Int) ∣ q j s := by
    intro d
    induction d with
    | zero =>
      intro j s hj h
      have := hX j hj
      rw [hN j s (by omega)]
      exact ⟨0, by omega⟩
    | succ d ih =>
      intro j s hj h
      have h1 := comb_at (N := N) (X := X) ha hd (q := q) (j := j) (s := s) hj (fun j' s' hj' hlt => ih j' s' hj' (by omega))
      have h2 := hr j hj (s + P j / 3) (by omega)
      obtain ⟨z, hz⟩ := h1
      obtain ⟨y, hy⟩ := h2
      exact ⟨y - z, by rw [Int.mul_sub]; omega⟩
  exact fun j s hj => key (3 * N + X + 3) j s hj (by omega)
theorem comb_dvd {p n : Nat} {a : Nat → Rw} {q : Nat → Nat → Int} (h : ∀ j s, j < n → (p : Int) ∣ q j s) (c k : Nat) : (p : Int) ∣ comb n q a c k := by
  unfold comb
  exact sm_dvd0 (fun j hj => sm_dvd0 (fun s _ => dvd_mul_l (h j s hj)))
theorem bound_ex (n : Nat) (P : Nat → Nat) : ∃ X, ∀ j, j < n → P j ≤ X := by
  induction n with
  | zero => exact ⟨0, fun j h => absurd h (Nat.not_lt_zero _)⟩
  | succ n ih =>
    obtain ⟨X, hX⟩ := ih
    refine ⟨X + P n, fun j hj => ?_⟩
    by_cases e : j = n
    · rw [e]; omega
    · have := hX j (by omega); omega
theorem Span_red0 {p C n : Nat} {a : Nat → Rw} {P : Nat → Nat} {v : Rw} (ha : ∀ j, j < n → ldAt p C (a j) (P j)) (hd : ∀ i j, i < n → j < n → i ≠ j → P i % 3 ≠ P j % 3) (hv : Span p C n a v) (hr : ∀ j, j < n → ∀ k, P j / 3 ≤ k → (p : Int) ∣ v (P j % 3) k) : eqv p C v r0 := by
  obtain ⟨N, q, h1, h2⟩ := Span_comb hv
  obtain ⟨X, hX⟩ := bound_ex n P
  have hq := comb_zero (N := N) (X := X) hX ha hd h1 (fun j hj k hk => by
    obtain ⟨z, hz⟩ := h2 _ (ha j hj).1 k
    obtain ⟨y, hy⟩ := hr j hj k hk
    exact ⟨y - z, by rw [Int.mul_sub]; omega⟩)
  intro c hc k
  obtain ⟨z, hz⟩ := h2 c hc k
  obtain ⟨y, hy⟩ := comb_dvd (a := a) hq c k
  exact ⟨z + y, by unfold r0; rw [Int.mul_add]; omega⟩
/-- the plain form: leads 1 at unlike pivots, each row below the others' leads in their columns -/
def Popv (p C n : Nat) (a : Nat → Rw) (P : Nat → Nat) : Prop := (∀ j, j < n → ldAt p C (a j) (P j)) ∧ (∀ i j, i < n → j < n → i ≠ j → P i % 3 ≠ P j % 3) ∧ (∀ i j, i < n → j < n → i ≠ j → ∀ k, P j / 3 ≤ k → (p : Int) ∣ a i (P j % 3) k) ∧ ∀ i j, i < j → j < n → P i < P j
theorem not_dvd1 {p : Nat} (hp : 1 < p) {x : Int} (h : (p : Int) ∣ x - 1) : ¬ (p : Int) ∣ x := by
  rintro ⟨y, hy⟩
  obtain ⟨z, hz⟩ := h
  have e : (p : Int) * (y - z) = 1 := by rw [Int.mul_sub]; omega
  have := Int.le_of_dvd (show (0 : Int) < 1 by omega) ⟨y - z, e.symm⟩
  omega
/-- a row of the span has its lead where a row's lead is, or above it in that column -/
theorem lead_hit {p C m : Nat} {b : Nat → Rw} {Q : Nat → Nat} {v : Rw} {P : Nat} (hp : 1 < p) (hb : ∀ j, j < m → ldAt p C (b j) (Q j)) (hd : ∀ i j, i < m → j < m → i ≠ j → Q i % 3 ≠ Q j % 3) (hv : Span p C m b v) (hl : ldAt p C v P) : ∃ j, j < m ∧ Q j % 3 = P % 3 ∧ Q j ≤ P := by
  apply Classical.byContradiction
  intro hno
  obtain ⟨N, q, h1, h2⟩ := Span_comb hv
  obtain ⟨X, hX⟩ := bound_ex m Q
  have key : ∀ d j s, j < m → 3 * N + X + 3 ≤ 3 * s + Q j + d → P < 3 * s + Q j → (p : Int) ∣ q j s := by
    intro d
    induction d with
    | zero =>
      intro j s hj h _
      have := hX j hj
      rw [h1 j s (by omega)]
      exact ⟨0, by omega⟩
    | succ d ih =>
      intro j s hj h hlt
      have g1 := comb_at (N := N) (X := X) hb hd (q := q) (j := j) (s := s) hj (fun j' s' hj' h' => ih j' s' hj' (by omega) (by omega))
      have g2 := hl.2.2 (Q j % 3) (s + Q j / 3) (hb j hj).1 (by omega)
      have g3 := h2 _ (hb j hj).1 (s + Q j / 3)
      obtain ⟨z, hz⟩ := g1
      obtain ⟨y, hy⟩ := g2
      obtain ⟨x, hx⟩ := g3
      exact ⟨y - x - z, by rw [Int.mul_sub, Int.mul_sub]; omega⟩
  have h0 : (p : Int) ∣ comb m q b (P % 3) (P / 3) := by
    unfold comb
    refine sm_dvd0 (fun j hj => sm_dvd0 (fun s hs => ?_))
    by_cases h : P < 3 * s + Q j
    · exact dvd_mul_l (key (3 * N + X + 3) j s hj (by omega) h)
    · refine dvd_mul_r ((hb j hj).2.2 _ _ hl.1 ?_)
      have hne : ¬ 3 * s + Q j = P := fun e => hno ⟨j, hj, by omega, by omega⟩
      omega
  obtain ⟨z, hz⟩ := h2 _ hl.1 (P / 3)
  obtain ⟨y, hy⟩ := h0
  exact not_dvd1 hp hl.2.1 ⟨z + y, by rw [Int.mul_add]; omega⟩
theorem asc_le {n : Nat} {P : Nat → Nat} (h : ∀ i j, i < j → j < n → P i < P j) {i j : Nat} (hij : i ≤ j) (hj : j < n) : P i ≤ P j := by
  by_cases e : i = j
  · rw [e]; exact Nat.le_refl _
  · exact Nat.le_of_lt (h i j (by omega) hj)
theorem asc_eq {n m : Nat} {P Q : Nat → Nat} (hP : ∀ i j, i < j → j < n → P i < P j) (hQ : ∀ i j, i < j → j < m → Q i < Q j) (h1 : ∀ i, i < n → ∃ j, j < m ∧ Q j = P i) (h2 : ∀ j, j < m → ∃ i, i < n ∧ P i = Q j) : n = m ∧ ∀ i, i < n → P i = Q i := by
  have key : ∀ i, i < n → i < m → P i = Q i := by
    intro i
    induction i using Nat.strongRecOn with
    | _ i ih =>
      intro hn hm
      obtain ⟨j, hj, e1⟩ := h1 i hn
      obtain ⟨i', hi', e2⟩ := h2 i hm
      have a1 : i ≤ j := by
        apply Classical.byContradiction
        intro hlt
        have := ih j (by omega) (by omega) hj
        have := hP j i (by omega) hn
        omega
      have a2 : i ≤ i' := by
        apply Classical.byContradiction
        intro hlt
        have := ih i' (by omega) hi' (by omega)
        have := hQ i' i (by omega) hm
        omega
      have b1 := asc_le hQ a1 hj
      have b2 := asc_le hP a2 hi'
      omega
  have hnm : n = m := by
    apply Classical.byContradiction
    intro hne
    by_cases hlt : n < m
    · obtain ⟨i', hi', e⟩ := h2 n hlt
      have e3 := key i' hi' (by omega)
      have := hQ i' n hi' hlt
      omega
    · obtain ⟨j, hj, e⟩ := h1 m (by omega)
      have e3 := key j (by omega) hj
      have := hP j m hj (by omega)
      omega
  exact ⟨hnm, fun i hi => key i hi (by omega)⟩
/-- two rows that differ by a row of the span, both reduced, are the same -/
theorem red_uniq {p C n : Nat} {a : Nat → Rw} {P : Nat → Nat} {v w : Rw} (ha : ∀ j, j < n → ldAt p C (a j) (P j)) (hd : ∀ i j, i < n → j < n → i ≠ j → P i % 3 ≠ P j % 3) (hvw : Span p C n a (radd v (rsh (-1) 0 w))) (hv : ∀ j, j < n → ∀ k, P j / 3 ≤ k → (p : Int) ∣ v (P j % 3) k) (hw : ∀ j, j < n → ∀ k, P j / 3 ≤ k → (p : Int) ∣ w (P j % 3) k) : eqv p C v w := by
  have h0 := Span_red0 ha hd hvw (fun j hj k hk => by
    obtain ⟨z, hz⟩ := hv j hj k hk
    obtain ⟨y, hy⟩ := hw j hj k hk
    refine ⟨z - y, ?_⟩
    unfold radd rsh
    rw [if_pos (Nat.zero_le _), Nat.sub_zero, Int.mul_sub]
    omega)
  intro c hc k
  obtain ⟨z, hz⟩ := h0 c hc k
  refine ⟨z, ?_⟩
  unfold radd rsh r0 at hz
  rw [if_pos (Nat.zero_le _), Nat.sub_zero] at hz
  omega
theorem popv_uniq {p C n m : Nat} {a b : Nat → Rw} {P Q : Nat → Nat} (hp : 1 < p) (ha : Popv p C n a P) (hb : Popv p C m b Q) (hs : SameM p C n a m b) : n = m ∧ ∀ i, i < n → P i = Q i ∧ eqv p C (a i) (b i) := by
  obtain ⟨a1, a2, a3, a4⟩ := ha
  obtain ⟨b1, b2, b3, b4⟩ := hb
  have h1 : ∀ i, i < n → ∃ j, j < m ∧ Q j = P i := by
    intro i hi
    obtain ⟨j, hj, e1, e2⟩ := lead_hit hp b1 b2 (hs.1 i hi) (a1 i hi)
    obtain ⟨i', hi', e3, e4⟩ := lead_hit hp a1 a2 (hs.2 j hj) (b1 j hj)
    have e : i' = i := by
      apply Classical.byContradiction
      intro hne
      exact a2 i' i hi' hi hne (by omega)
    subst e
    exact ⟨j, hj, by omega⟩
  have h2 : ∀ j, j < m → ∃ i, i < n ∧ P i = Q j := by
    intro j hj
    obtain ⟨i, hi, e1, e2⟩ := lead_hit hp a1 a2 (hs.2 j hj) (b1 j hj)
    obtain ⟨j', hj', e3, e4⟩ := lead_hit hp b1 b2 (hs.1 i hi) (a1 i hi)
    have e : j' = j := by
      apply Classical.byContradiction
      intro hne
      exact b2 j' j hj' hj hne (by omega)
    subst e
    exact ⟨i, hi, by omega⟩
  obtain ⟨hnm, hPQ⟩ := asc_eq a4 b4 h1 h2
  refine ⟨hnm, fun i hi => ⟨hPQ i hi, ?_⟩⟩
  have him : i < m := by omega
  have cb := Span_cl p C m b
  refine eqv_t (eqv_s ?_) (eqv_r _)
  refine eqv_s ?_
  have hD : Span p C m b (radd (a i) (rsh (-1) 0 (b i))) := cb.2.2.1 _ _ (hs.1 i hi) (cb.2.2.2 _ _ _ (Span_in him))
  have h0 := Span_red0 b1 b2 hD (fun j hj k hk => by
    unfold radd rsh
    rw [if_pos (Nat.zero_le _), Nat.sub_zero]
    by_cases e : j = i
    · subst e
      by_cases hk2 : k = Q j / 3
      · have e1 := (a1 j hi).2.1
        have e2 := (b1 j hj).2.1
        rw [hPQ j hi] at e1
        rw [hk2]
        obtain ⟨z, hz⟩ := e1
        obtain ⟨y, hy⟩ := e2
        exact ⟨z - y, by rw [Int.mul_sub]; omega⟩
      · have e1 := (a1 j hi).2.2 (Q j % 3) k (b1 j hj).1 (by rw [hPQ j hi]; omega)
        have e2 := (b1 j hj).2.2 (Q j % 3) k (b1 j hj).1 (by omega)
        obtain ⟨z, hz⟩ := e1
        obtain ⟨y, hy⟩ := e2
        exact ⟨z - y, by rw [Int.mul_sub]; omega⟩
    · have hjn : j < n := by omega
      have e1 := a3 i j hi hjn (fun z => e z.symm) k (by rw [hPQ j hjn]; exact hk)
      rw [hPQ j hjn] at e1
      have e2 := b3 i j him hj (fun z => e z.symm) k hk
      obtain ⟨z, hz⟩ := e1
      obtain ⟨y, hy⟩ := e2
      exact ⟨z - y, by rw [Int.mul_sub]; omega⟩)
  intro c hc k
  obtain ⟨z, hz⟩ := h0 c hc k
  refine ⟨z, ?_⟩
  unfold radd rsh r0 at hz
  rw [if_pos (Nat.zero_le _), Nat.sub_zero] at hz
  omega
