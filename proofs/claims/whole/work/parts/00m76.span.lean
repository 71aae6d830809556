/-! rows of polynomials modulo p, and what they span -/
abbrev Rw : Type := Nat → Nat → Int
def eqv (p C : Nat) (v w : Rw) : Prop := ∀ c, c < C → ∀ k, (p : Int) ∣ v c k - w c k
theorem eqv_r {p C : Nat} (v : Rw) : eqv p C v v := fun c _ k => ⟨0, by omega⟩
theorem eqv_s {p C : Nat} {v w : Rw} (h : eqv p C v w) : eqv p C w v := fun c hc k => by
  obtain ⟨z, hz⟩ := h c hc k
  exact ⟨-z, by rw [Int.mul_neg]; omega⟩
theorem eqv_t {p C : Nat} {u v w : Rw} (h : eqv p C u v) (h' : eqv p C v w) : eqv p C u w := fun c hc k => by
  obtain ⟨z, hz⟩ := h c hc k
  obtain ⟨y, hy⟩ := h' c hc k
  exact ⟨z + y, by rw [Int.mul_add]; omega⟩
def radd (v w : Rw) : Rw := fun c k => v c k + w c k
/-- t times x^s times v -/
def rsh (t : Int) (s : Nat) (v : Rw) : Rw := fun c k => if s ≤ k then t * v c (k - s) else 0
def r0 : Rw := fun _ _ => 0
def Cl (p C : Nat) (S : Rw → Prop) : Prop := S r0 ∧ (∀ v w, S v → eqv p C v w → S w) ∧ (∀ v w, S v → S w → S (radd v w)) ∧ ∀ v t s, S v → S (rsh t s v)
def Span (p C n : Nat) (a : Nat → Rw) (v : Rw) : Prop := ∀ S : Rw → Prop, Cl p C S → (∀ j, j < n → S (a j)) → S v
theorem Span_cl (p C n : Nat) (a : Nat → Rw) : Cl p C (Span p C n a) := ⟨fun S h _ => h.1, fun v w hv e S h ha => h.2.1 v w (hv S h ha) e, fun v w hv hw S h ha => h.2.2.1 v w (hv S h ha) (hw S h ha), fun v t s hv S h ha => h.2.2.2 v t s (hv S h ha)⟩
theorem Span_in {p C n : Nat} {a : Nat → Rw} {j : Nat} (h : j < n) : Span p C n a (a j) := fun S _ ha => ha j h
theorem Span_tr {p C n m : Nat} {a b : Nat → Rw} (h : ∀ j, j < n → Span p C m b (a j)) {v : Rw} (hv : Span p C n a v) : Span p C m b v := hv _ (Span_cl p C m b) h
def SameM (p C n : Nat) (a : Nat → Rw) (m : Nat) (b : Nat → Rw) : Prop := (∀ i, i < n → Span p C m b (a i)) ∧ ∀ i, i < m → Span p C n a (b i)
theorem SameM_r {p C n : Nat} {a : Nat → Rw} : SameM p C n a n a := ⟨fun _ h => Span_in h, fun _ h => Span_in h⟩
theorem SameM_s {p C n m : Nat} {a b : Nat → Rw} (h : SameM p C n a m b) : SameM p C m b n a := ⟨h.2, h.1⟩
theorem SameM_t {p C n m l : Nat} {a b c : Nat → Rw} (h : SameM p C n a m b) (h' : SameM p C m b l c) : SameM p C n a l c := ⟨fun i hi => Span_tr h'.1 (h.1 i hi), fun i hi => Span_tr h.2 (h'.2 i hi)⟩
theorem SameM_e {p C n : Nat} {a b : Nat → Rw} (h : ∀ i, i < n → eqv p C (a i) (b i)) : SameM p C n a n b := ⟨fun i hi => (Span_cl p C n b).2.1 _ _ (Span_in hi) (eqv_s (h i hi)), fun i hi => (Span_cl p C n a).2.1 _ _ (Span_in hi) (h i hi)⟩
theorem eqv_cancel {p C : Nat} (v w : Rw) (t : Int) (s : Nat) : eqv p C (radd (radd v (rsh t s w)) (rsh (-t) s w)) v := fun c hc k => by
  refine ⟨0, ?_⟩
  unfold radd rsh
  by_cases h : s ≤ k
  · rw [if_pos h, if_pos h, Int.neg_mul]; omega
  · rw [if_neg h, if_neg h]; omega
/-- a step -/
theorem SameM_step {p C n i j s : Nat} {t : Int} {a b : Nat → Rw} (hi : i < n) (hj : j < n) (hij : i ≠ j) (h1 : eqv p C (b i) (radd (a i) (rsh t s (a j)))) (h2 : ∀ i', i' < n → i' ≠ i → eqv p C (b i') (a i')) : SameM p C n a n b := by
  have cb := Span_cl p C n b
  have ca := Span_cl p C n a
  have hbj : Span p C n b (a j) := cb.2.1 _ _ (Span_in hj) (h2 j hj (fun e => hij e.symm))
  refine ⟨fun i' hi' => ?_, fun i' hi' => ?_⟩
  · by_cases e : i' = i
    · subst e
      have x1 : Span p C n b (radd (b i') (rsh (-t) s (a j))) := cb.2.2.1 _ _ (Span_in hi') (cb.2.2.2 _ _ _ hbj)
      refine cb.2.1 _ _ x1 (eqv_t ?_ (eqv_cancel (p := p) (C := C) (a i') (a j) t s))
      intro c hc k
      obtain ⟨z, hz⟩ := h1 c hc k
      exact ⟨z, by rw [← hz]; unfold radd; omega⟩
    · exact cb.2.1 _ _ (Span_in hi') (h2 i' hi' e)
  · by_cases e : i' = i
    · subst e
      exact ca.2.1 _ _ (ca.2.2.1 _ _ (Span_in hi') (ca.2.2.2 _ t s (Span_in hj))) (eqv_s h1)
    · exact ca.2.1 _ _ (Span_in hi') (eqv_s (h2 i' hi' e))
/-- a row times a unit -/
theorem SameM_unit {p C n i : Nat} {u u' : Int} {a b : Nat → Rw} (hi : i < n) (hu : (p : Int) ∣ u * u' - 1) (h1 : eqv p C (b i) (rsh u 0 (a i))) (h2 : ∀ i', i' < n → i' ≠ i → eqv p C (b i') (a i')) : SameM p C n a n b := by
  have cb := Span_cl p C n b
  have ca := Span_cl p C n a
  refine ⟨fun i' hi' => ?_, fun i' hi' => ?_⟩
  · by_cases e : i' = i
    · subst e
      refine cb.2.1 _ _ (cb.2.2.2 _ u' 0 (Span_in hi')) ?_
      intro c hc k
      obtain ⟨z, hz⟩ := h1 c hc k
      obtain ⟨y, hy⟩ := hu
      unfold rsh at hz ⊢
      rw [if_pos (Nat.zero_le _)] at hz ⊢
      rw [Nat.sub_zero] at hz ⊢
      refine ⟨u' * z + y * a i' c k, ?_⟩
      have e1 : b i' c k = u * a i' c k + p * z := by omega
      have e2 : u * u' = 1 + p * y := by omega
      rw [e1, Int.mul_add, ← Int.mul_assoc, Int.mul_comm u' u, e2, Int.add_mul, Int.one_mul, Int.mul_add]
      have e3 : u' * (↑p * z) = ↑p * (u' * z) := by rw [← Int.mul_assoc, Int.mul_comm u' p, Int.mul_assoc]
      have e4 : ↑p * y * a i' c k = ↑p * (y * a i' c k) := Int.mul_assoc ..
      rw [e3, e4]
      omega
    · exact cb.2.1 _ _ (Span_in hi') (h2 i' hi' e)
  · by_cases e : i' = i
    · subst e
      exact ca.2.1 _ _ (ca.2.2.2 _ u 0 (Span_in hi')) (eqv_s h1)
    · exact ca.2.1 _ _ (Span_in hi') (eqv_s (h2 i' hi' e))
/-- the same rows in another order, noughts left out or put in -/
theorem SameM_sel {p C n m : Nat} {a b : Nat → Rw} (h1 : ∀ i, i < n → eqv p C (a i) r0 ∨ ∃ j, j < m ∧ eqv p C (b j) (a i)) (h2 : ∀ j, j < m → eqv p C (b j) r0 ∨ ∃ i, i < n ∧ eqv p C (a i) (b j)) : SameM p C n a m b := by
  have cb := Span_cl p C m b
  have ca := Span_cl p C n a
  refine ⟨fun i hi => ?_, fun j hj => ?_⟩
  · rcases h1 i hi with h | ⟨j, hj, e⟩
    · exact cb.2.1 _ _ cb.1 (eqv_s h)
    · exact cb.2.1 _ _ (Span_in hj) e
  · rcases h2 j hj with h | ⟨i, hi, e⟩
    · exact ca.2.1 _ _ ca.1 (eqv_s h)
    · exact ca.2.1 _ _ (Span_in hi) e
/-! sums -/
def sm : Nat → (Nat → Int) → Int
  | 0, _ => 0
  | n + 1, f => sm n f + f n
theorem sm_s (n : Nat) (f : Nat → Int) : sm (n + 1) f = sm n f + f n := rfl
theorem sm_add (n : Nat) (f g : Nat → Int) : sm n (fun i => f i + g i) = sm n f + sm n g := by
  induction n with
  | zero => rfl
  | succ n ih => rw [sm_s, sm_s, sm_s, ih]; omega
theorem sm_mul (n : Nat) (t : Int) (f : Nat → Int) : sm n (fun i => t * f i) = t * sm n f := by
  induction n with
  | zero => unfold sm; omega
  | succ n ih => rw [sm_s, sm_s, ih, Int.mul_add]
theorem sm_congr {n : Nat} {f g : Nat → Int} (h : ∀ i, i < n → f i = g i) : sm n f = sm n g := by
  induction n with
  | zero => rfl
  | succ n ih => unfold sm; rw [ih (fun i hi => h i (by omega)), h n (by omega)]
theorem sm_dvd {n : Nat} {p : Int} {f g : Nat → Int} (h : ∀ i, i < n → p ∣ f i - g i) : p ∣ sm n f - sm n g := by
  induction n with
  | zero => exact ⟨0, by unfold sm; omega⟩
  | succ n ih =>
    obtain ⟨z, hz⟩ := ih (fun i hi => h i (by omega))
    obtain ⟨y, hy⟩ := h n (by omega)
    exact ⟨z + y, by unfold sm; rw [Int.mul_add]; omega⟩
theorem sm_zero {n : Nat} : sm n (fun _ => 0) = 0 := by
  induction n with
  | zero => rfl
  | succ n ih => unfold sm; rw [ih]; rfl
theorem sm_one {n i : Nat} (hi : i < n) {f : Nat → Int} (h : ∀ j, j < n → j ≠ i → f j = 0) : sm n f = f i := by
  induction n with
  | zero => omega
  | succ n ih =>
    unfold sm
    by_cases e : i = n
    · subst e
      have e0 : sm i f = sm i (fun _ => 0) := sm_congr (fun j hj => h j (by omega) (by omega))
      rw [e0, sm_zero]; omega
    · rw [ih (by omega) (fun j hj hne => h j (by omega) hne), h n (by omega) (fun z => e z.symm)]; omega
theorem sm_shift (n s : Nat) (f : Nat → Int) : sm n (fun i => if s ≤ i then f (i - s) else 0) = sm (n - s) f := by
  induction n with
  | zero => rw [Nat.zero_sub]; rfl
  | succ n ih =>
    rw [sm_s, ih]
    by_cases h : s ≤ n
    · rw [if_pos h, show n + 1 - s = (n - s) + 1 by omega]
      rfl
    · rw [if_neg h, show n + 1 - s = n - s by omega]; omega
/-- sums of products by polynomials, written out -/
def comb (n : Nat) (q : Nat → Nat → Int) (a : Nat → Rw) : Rw := fun c k => sm n (fun j => sm (k + 1) (fun s => q j s * a j c (k - s)))
theorem Span_comb {p C n : Nat} {a : Nat → Rw} {v : Rw} (h : Span p C n a v) : ∃ (N : Nat) (q : Nat → Nat → Int), (∀ j s, N ≤ s → q j s = 0) ∧ eqv p C v (comb n q a) := by
  refine h (fun v => ∃ (N : Nat) (q : Nat → Nat → Int), (∀ j s, N ≤ s → q j s = 0) ∧ eqv p C v (comb n q a)) ⟨?_, ?_, ?_, ?_⟩ ?_
  · refine ⟨0, fun _ _ => 0, fun _ _ _ => rfl, fun c _ k => ⟨0, ?_⟩⟩
    unfold comb r0
    have e1 : ∀ j, j < n → sm (k + 1) (fun s => 0 * a j c (k - s)) = 0 := fun j _ => by
      rw [show (fun s => 0 * a j c (k - s)) = (fun _ => (0 : Int)) from funext fun s => Int.zero_mul _]
      exact sm_zero
    rw [sm_congr (g := fun _ => 0) e1, sm_zero]
    rfl
  · rintro v w ⟨N, q, h1, h2⟩ e
    exact ⟨N, q, h1, eqv_t (eqv_s e) h2⟩
  · rintro v w ⟨N, q, h1, h2⟩ ⟨N', q', h1', h2'⟩
    refine ⟨N + N', fun j s => q j s + q' j s, fun j s hs => by dsimp only; rw [h1 j s (by omega), h1' j s (by omega)]; rfl, fun c hc k => ?_⟩
    obtain ⟨z, hz⟩ := h2 c hc k
    obtain ⟨y, hy⟩ := h2' c hc k
    refine ⟨z + y, ?_⟩
    have e : comb n (fun j s => q j s + q' j s) a c k = comb n q a c k + comb n q' a c k := by
      unfold comb
      rw [← sm_add]
      refine sm_congr (fun j _ => ?_)
      rw [← sm_add]
      exact sm_congr (fun s _ => Int.add_mul _ _ _)
    rw [e]
    unfold radd
    rw [Int.mul_add]
    omega
  · rintro v t s ⟨N, q, h1, h2⟩
    refine ⟨N + s, fun j s' => if s ≤ s' then t * q j (s' - s) else 0, fun j s' hs => ?_, fun c hc k => ?_⟩
    · dsimp only
      rw [if_pos (by omega), h1 j (s' - s) (by omega), Int.mul_zero]
    · have e : comb n (fun j s' => if s ≤ s' then t * q j (s' - s) else 0) a c k = if s ≤ k then t * comb n q a c (k - s) else 0 := by
        unfold comb
        have e1 : ∀ j, sm (k + 1) (fun s' => (if s ≤ s' then t * q j (s' - s) else 0) * a j c (k - s')) = if s ≤ k then t * sm (k - s + 1) (fun s' => q j s' * a j c (k - s - s')) else 0 := by
          intro j
          have e2 : sm (k + 1) (fun s' => (if s ≤ s' then t * q j (s' - s) else 0) * a j c (k - s')) = sm (k + 1) (fun s' => if s ≤ s' then t * (q j (s' - s) * a j c (k - s - (s' - s))) else 0) := by
            refine sm_congr (fun s' _ => ?_)
            by_cases hs : s ≤ s'
            · rw [if_pos hs, if_pos hs, Int.mul_assoc, show k - s - (s' - s) = k - s' by omega]
            · rw [if_neg hs, if_neg hs, Int.zero_mul]
          rw [e2, sm_shift (k + 1) s (fun y => t * (q j y * a j c (k - s - y)))]
          by_cases hk : s ≤ k
          · rw [if_pos hk, show k + 1 - s = k - s + 1 by omega, sm_mul]
          · rw [if_neg hk, show k + 1 - s = 0 by omega]
            rfl
        rw [sm_congr (fun j _ => e1 j)]
        by_cases hk : s ≤ k
        · rw [if_pos hk, ← sm_mul]
          exact sm_congr (fun j _ => by rw [if_pos hk])
        · rw [if_neg hk, sm_congr (g := fun _ => 0) (fun j _ => by rw [if_neg hk]), sm_zero]
      rw [e]
      unfold rsh
      by_cases hk : s ≤ k
      · rw [if_pos hk, if_pos hk]
        obtain ⟨z, hz⟩ := h2 c hc (k - s)
        exact ⟨t * z, by rw [← Int.mul_sub, hz, ← Int.mul_assoc, ← Int.mul_assoc, Int.mul_comm t p]⟩
      · rw [if_neg hk, if_neg hk]
        exact ⟨0, by omega⟩
  · intro j hj
    refine ⟨1, fun j' s => if j' = j ∧ s = 0 then 1 else 0, fun j' s hs => if_neg (by omega), fun c _ k => ⟨0, ?_⟩⟩
    have e : comb n (fun j' s => if j' = j ∧ s = 0 then 1 else 0) a c k = a j c k := by
      unfold comb
      have e1 := sm_one hj (f := fun j' => sm (k + 1) (fun s => (if j' = j ∧ s = 0 then (1 : Int) else 0) * a j' c (k - s))) (fun j' _ hne => by
        rw [sm_congr (g := fun _ => 0) (fun s _ => by rw [if_neg (fun z => hne z.1), Int.zero_mul]), sm_zero])
      have e2 := sm_one (Nat.zero_lt_succ k) (f := fun s => (if j = j ∧ s = 0 then (1 : Int) else 0) * a j c (k - s)) (fun s _ hne => by
        rw [if_neg (fun z => hne z.2), Int.zero_mul])
      rw [e1, e2, if_pos ⟨rfl, rfl⟩, Int.one_mul, Nat.sub_zero]
    rw [e]
    omega
