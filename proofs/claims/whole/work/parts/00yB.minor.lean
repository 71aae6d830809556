/-! a minor that is not nought -/
theorem pm_top {p : Nat} {f g : Pl} {a b : Nat} (hf : ∀ k, a < k → (p : Int) ∣ f k) (hg : ∀ k, b < k → (p : Int) ∣ g k) : ((p : Int) ∣ pm f g (a + b) - f a * g b) ∧ ∀ k, a + b < k → (p : Int) ∣ pm f g k := by
  constructor
  · unfold pm
    refine sm_dvd1 (i := a) (by omega) ?_ (fun j hj hne => ?_)
    · rw [show a + b - a = b by omega]
      exact ⟨0, by omega⟩
    · by_cases h : a < j
      · exact dvd_mul_l (hf j h)
      · exact dvd_mul_r (hg _ (by omega))
  · intro k hk
    unfold pm
    refine sm_dvd0 (fun j hj => ?_)
    by_cases h : a < j
    · exact dvd_mul_l (hf j h)
    · exact dvd_mul_r (hg _ (by omega))
theorem dvd_mul2 {p x y a b : Int} (h1 : p ∣ x - a) (h2 : p ∣ y - b) : p ∣ x * y - a * b := by
  obtain ⟨q1, h1⟩ := h1
  obtain ⟨q2, h2⟩ := h2
  refine ⟨q1 * y + a * q2, ?_⟩
  have e1 : x = a + p * q1 := by omega
  have e2 : y * a = b * a + p * (a * q2) := by
    have : y = b + p * q2 := by omega
    rw [this, Int.add_mul, Int.mul_assoc, Int.mul_comm q2]
  rw [e1, Int.add_mul, Int.mul_add, Int.mul_comm a y, Int.mul_comm a b, e2, Int.mul_assoc]
  omega
theorem dvd_tr {p x y z : Int} (h1 : p ∣ x - y) (h2 : p ∣ y - z) : p ∣ x - z := by
  obtain ⟨q1, h1⟩ := h1
  obtain ⟨q2, h2⟩ := h2
  exact ⟨q1 + q2, by rw [Int.mul_add]; omega⟩
theorem t2_top {p : Nat} {f g : Pl} {a b : Nat} {m1 m2 : Int} (hf : ∀ k, a < k → (p : Int) ∣ f k) (hg : ∀ k, b < k → (p : Int) ∣ g k) (h1 : (p : Int) ∣ f a - m1) (h2 : (p : Int) ∣ g b - m2) {S : Nat} (hS : S = a + b) : (p : Int) ∣ pm f g S - m1 * m2 := by
  subst hS
  exact dvd_tr (pm_top hf hg).1 (dvd_mul2 h1 h2)
theorem t3_top {p : Nat} {f g h : Pl} {a b c : Nat} {m1 m2 m3 : Int} (hf : ∀ k, a < k → (p : Int) ∣ f k) (hg : ∀ k, b < k → (p : Int) ∣ g k) (hh : ∀ k, c < k → (p : Int) ∣ h k) (h1 : (p : Int) ∣ f a - m1) (h2 : (p : Int) ∣ g b - m2) (h3 : (p : Int) ∣ h c - m3) {S : Nat} (hS : S = a + b + c) : (p : Int) ∣ pm (pm f g) h S - m1 * m2 * m3 := by
  subst hS
  exact dvd_tr (pm_top (pm_top hf hg).2 hh).1 (dvd_mul2 (t2_top hf hg h1 h2 rfl) h3)
theorem bit_all : ∀ c : Fin 5, ∀ s : Fin 32, (fX7_isInSet (nI c.val) (nI s.val) = 0 ↔ ¬ s.val / 2 ^ c.val % 2 = 1) := by decide +kernel
theorem bit_in {c s : Nat} (hc : c < 5) (hs : s < 32) : fX7_isInSet (nI c) (nI s) ≠ 0 ↔ s / 2 ^ c % 2 = 1 := by
  have := bit_all ⟨c, hc⟩ ⟨s, hs⟩
  dsimp only at this
  constructor
  · intro h
    apply Classical.byContradiction
    intro h2
    exact h (this.mpr h2)
  · intro h h2
    exact this.mp h2 h
theorem mask_ex {C : Nat} (P : Nat → Prop) (hC : C ≤ 3) (hP : ∀ c, P c → c < C) : ∃ mask, mask < 2 ^ C ∧ mask < 8 ∧ ∀ c, c < 3 → (fX7_isInSet (nI c) (nI mask) ≠ 0 ↔ P c) := by
  have key : ∀ b0 b1 b2 : Nat, b0 ≤ 1 → b1 ≤ 1 → b2 ≤ 1 → (b0 = 1 ↔ P 0) → (b1 = 1 ↔ P 1) → (b2 = 1 ↔ P 2) → ∃ mask, mask < 2 ^ C ∧ mask < 8 ∧ ∀ c, c < 3 → (fX7_isInSet (nI c) (nI mask) ≠ 0 ↔ P c) := by
    intro b0 b1 b2 h0 h1 h2 e0 e1 e2
    refine ⟨b0 + 2 * b1 + 4 * b2, ?_, by omega, fun c hc => ?_⟩
    · have f0 : b0 = 1 → 0 < C := fun h => hP 0 (e0.mp h)
      have f1 : b1 = 1 → 1 < C := fun h => hP 1 (e1.mp h)
      have f2 : b2 = 1 → 2 < C := fun h => hP 2 (e2.mp h)
      rcases (show C = 0 ∨ C = 1 ∨ C = 2 ∨ C = 3 by omega) with e | e | e | e <;> subst e <;> simp <;> omega
    · rw [bit_in (by omega) (by omega)]
      rcases (show c = 0 ∨ c = 1 ∨ c = 2 by omega) with e | e | e <;> subst e
      · rw [← e0]; simp; omega
      · rw [← e1]; simp; omega
      · rw [← e2]; simp; omega
  have hb : ∀ X : Prop, ∃ b : Nat, b ≤ 1 ∧ (b = 1 ↔ X) := by
    intro X
    by_cases h : X
    · exact ⟨1, by omega, fun _ => h, fun _ => rfl⟩
    · exact ⟨0, by omega, fun z => by omega, fun z => absurd z h⟩
  obtain ⟨b0, h0, e0⟩ := hb (P 0)
  obtain ⟨b1, h1, e1⟩ := hb (P 1)
  obtain ⟨b2, h2, e2⟩ := hb (P 2)
  exact key b0 b1 b2 h0 h1 h2 e0 e1 e2
theorem inj3 {a b : Nat} {f : Nat → Nat} (ha : a ≤ 3) (h1 : ∀ i, i < a → f i < b) (h2 : ∀ i j, i < j → j < a → f i ≠ f j) : a ≤ b := by
  rcases (show a = 0 ∨ a = 1 ∨ a = 2 ∨ a = 3 by omega) with e | e | e | e <;> subst e
  · omega
  · have := h1 0 (by omega); omega
  · have := h1 0 (by omega)
    have := h1 1 (by omega)
    have := h2 0 1 (by omega) (by omega)
    omega
  · have := h1 0 (by omega)
    have := h1 1 (by omega)
    have := h1 2 (by omega)
    have := h2 0 1 (by omega) (by omega)
    have := h2 0 2 (by omega) (by omega)
    have := h2 1 2 (by omega) (by omega)
    omega
theorem minor_ex {p C K : Nat} {b : Nat → Rw} {Q : Nat → Nat} (hp : 1 < p) (hC : C ≤ 3) (hK1 : 1 ≤ K) (hb : Popv p C K b Q) : K ≤ C ∧ ∃ mask, 1 ≤ mask ∧ mask < 2 ^ C ∧ mask < 8 ∧ cnt (nI mask) C = K ∧ ∀ selm, Chosen C (nI mask) K selm → ¬ pq p (dt K (fun l c => b l (selm c))) z0 := by
  obtain ⟨b1, b2, b3, b4⟩ := hb
  have hKC : K ≤ C := by
    by_cases h : K ≤ 3
    · exact inj3 (f := fun l => Q l % 3) h (fun i hi => (b1 i hi).1) (fun i j hij hj => b2 i j (by omega) hj (by omega))
    · have := inj3 (a := 3) (b := C) (f := fun l => Q l % 3) (by omega) (fun i hi => (b1 i (by omega)).1) (fun i j hij hj => b2 i j (by omega) (by omega) (by omega))
      have q0 := b2 0 3 (by omega) (by omega) (by omega)
      have q1 := b2 1 3 (by omega) (by omega) (by omega)
      have q2 := b2 2 3 (by omega) (by omega) (by omega)
      have q3 := b2 0 1 (by omega) (by omega) (by omega)
      have q4 := b2 0 2 (by omega) (by omega) (by omega)
      have q5 := b2 1 2 (by omega) (by omega) (by omega)
      omega
  refine ⟨hKC, ?_⟩
  obtain ⟨mask, m1, m2, m3⟩ := mask_ex (fun c => ∃ l, l < K ∧ Q l % 3 = c) hC (by
    rintro c ⟨l, hl, e⟩
    have := (b1 l hl).1
    omega)
  have hin : ∀ l, l < K → fX7_isInSet (nI (Q l % 3)) (nI mask) ≠ 0 := fun l hl => (m3 (Q l % 3) (by omega)).mpr ⟨l, hl, rfl⟩
  -- for columns that are chosen: whose pivots they are
  have htau : ∀ K' selm, Chosen C (nI mask) K' selm → ∃ tau : Nat → Nat, (∀ c, c < K' → tau c < K ∧ Q (tau c) % 3 = selm c) := by
    intro K' selm hs
    have : ∀ c, ∃ l, c < K' → l < K ∧ Q l % 3 = selm c := by
      intro c
      by_cases hc : c < K'
      · obtain ⟨l, hl, e⟩ := (m3 (selm c) (by have := (hs.1 c hc).1; omega)).mp (hs.1 c hc).2
        exact ⟨l, fun _ => ⟨hl, e⟩⟩
      · exact ⟨0, fun h => absurd h hc⟩
    exact ⟨fun c => Classical.choose (this c), fun c hc => Classical.choose_spec (this c) hc⟩
  have hcnt : cnt (nI mask) C = K := by
    obtain ⟨selm, hs⟩ := chosen_ex (nI mask) C
    obtain ⟨tau, ht⟩ := htau _ selm hs
    have hle := cnt_le (nI mask) C
    have a1 : cnt (nI mask) C ≤ K := inj3 (f := tau) (by omega) (fun i hi => (ht i hi).1) (fun i j hij hj e => by
      have h1 := (ht i (by omega)).2
      have h2 := (ht j hj).2
      have h3 := hs.2.2 i j hij hj
      rw [e] at h1
      omega)
    have hsig : ∀ l, ∃ c, l < K → c < cnt (nI mask) C ∧ selm c = Q l % 3 := by
      intro l
      by_cases hl : l < K
      · obtain ⟨c, hc, e⟩ := hs.2.1 (Q l % 3) (b1 l hl).1 (hin l hl)
        exact ⟨c, fun _ => ⟨hc, e⟩⟩
      · exact ⟨0, fun h => absurd h hl⟩
    have a2 : K ≤ cnt (nI mask) C := inj3 (f := fun l => Classical.choose (hsig l)) (by omega) (fun i hi => (Classical.choose_spec (hsig i) hi).1) (fun i j hij hj e => by
      have h1 := (Classical.choose_spec (hsig i) (by omega)).2
      have h2 := (Classical.choose_spec (hsig j) hj).2
      rw [e, h2] at h1
      exact b2 i j (by omega) hj (by omega) h1.symm)
    omega
  refine ⟨mask, ?_, m1, m2, hcnt, fun selm hs hz => ?_⟩
  · apply Classical.byContradiction
    intro h
    have e : mask = 0 := by omega
    have := (bit_in (c := Q 0 % 3) (s := mask) (by omega) (by omega)).mp (hin 0 (by omega))
    rw [e, Nat.zero_div] at this
    omega
  · obtain ⟨tau, ht⟩ := htau K selm hs
    have hne : ∀ i j, i < j → j < K → tau i ≠ tau j := fun i j hij hj e => by
      have h1 := (ht i (by omega)).2
      have h2 := (ht j hj).2
      have h3 := hs.2.2 i j hij hj
      rw [e] at h1
      omega
    -- degrees by columns
    have hbd : ∀ l c, l < K → c < K → ∀ k, Q (tau c) / 3 < k → (p : Int) ∣ b l (selm c) k := by
      intro l c hl hc k hk
      obtain ⟨h1, h2⟩ := ht c hc
      rw [← h2]
      by_cases e : l = tau c
      · rw [e]
        exact (b1 (tau c) h1).2.2 _ k (b1 (tau c) h1).1 (by omega)
      · exact b3 l (tau c) hl h1 e k (by omega)
    have hM : ∀ l c, l < K → c < K → (p : Int) ∣ b l (selm c) (Q (tau c) / 3) - (if l = tau c then 1 else 0) := by
      intro l c hl hc
      obtain ⟨h1, h2⟩ := ht c hc
      rw [← h2]
      by_cases e : l = tau c
      · rw [if_pos e, e]
        exact (b1 (tau c) h1).2.1
      · rw [if_neg e, Int.sub_zero]
        exact b3 l (tau c) hl h1 e _ (Nat.le_refl _)
    have h1n : ∀ x : Int, (p : Int) ∣ x - 1 → ¬ (p : Int) ∣ x := fun x hx => not_dvd1 hp hx
    have h1m : ∀ x : Int, (p : Int) ∣ x - (-1) → ¬ (p : Int) ∣ x := by
      intro x hx h
      obtain ⟨y, hy⟩ := hx
      obtain ⟨z, hz⟩ := h
      exact h1n (-x) ⟨-y, by rw [Int.mul_neg]; omega⟩ ⟨-z, by rw [Int.mul_neg]; omega⟩
    rcases (show K = 1 ∨ K = 2 ∨ K = 3 by omega) with e | e | e <;> subst e
    · have h0 := hM 0 0 (by omega) (by omega)
      have t0 := (ht 0 (by omega)).1
      rw [if_pos (show 0 = tau 0 by omega)] at h0
      have hzz := hz (Q (tau 0) / 3)
      unfold z0 at hzz
      rw [Int.sub_zero] at hzz
      exact h1n _ h0 hzz
    · have t0 := (ht 0 (by omega)).1
      have t1 := (ht 1 (by omega)).1
      have t01 := hne 0 1 (by omega) (by omega)
      have hzz := hz (Q (tau 0) / 3 + Q (tau 1) / 3)
      unfold z0 at hzz
      rw [Int.sub_zero] at hzz
      have w1 := t2_top (hbd 0 0 (by omega) (by omega)) (hbd 1 1 (by omega) (by omega)) (hM 0 0 (by omega) (by omega)) (hM 1 1 (by omega) (by omega)) (S := Q (tau 0) / 3 + Q (tau 1) / 3) rfl
      have w2 := t2_top (hbd 0 1 (by omega) (by omega)) (hbd 1 0 (by omega) (by omega)) (hM 0 1 (by omega) (by omega)) (hM 1 0 (by omega) (by omega)) (S := Q (tau 0) / 3 + Q (tau 1) / 3) (by omega)
      have hd : dt 2 (fun l c => b l (selm c)) (Q (tau 0) / 3 + Q (tau 1) / 3) = pm (b 0 (selm 0)) (b 1 (selm 1)) (Q (tau 0) / 3 + Q (tau 1) / 3) + -pm (b 0 (selm 1)) (b 1 (selm 0)) (Q (tau 0) / 3 + Q (tau 1) / 3) := rfl
      rw [hd] at hzz
      generalize pm (b 0 (selm 0)) (b 1 (selm 1)) (Q (tau 0) / 3 + Q (tau 1) / 3) = X1 at *
      generalize pm (b 0 (selm 1)) (b 1 (selm 0)) (Q (tau 0) / 3 + Q (tau 1) / 3) = X2 at *
      obtain ⟨y1, w1⟩ := w1
      obtain ⟨y2, w2⟩ := w2
      rcases (show tau 0 = 0 ∧ tau 1 = 1 ∨ tau 0 = 1 ∧ tau 1 = 0 by omega) with ⟨q0, q1⟩ | ⟨q0, q1⟩
      · simp [q0, q1] at w1 w2
        exact h1n _ ⟨y1 - y2, by rw [Int.mul_sub]; omega⟩ hzz
      · simp [q0, q1] at w1 w2
        exact h1m _ ⟨y1 - y2, by rw [Int.mul_sub]; omega⟩ hzz
    · have t0 := (ht 0 (by omega)).1
      have t1 := (ht 1 (by omega)).1
      have t2 := (ht 2 (by omega)).1
      have t01 := hne 0 1 (by omega) (by omega)
      have t02 := hne 0 2 (by omega) (by omega)
      have t12 := hne 1 2 (by omega) (by omega)
      have hzz := hz (Q (tau 0) / 3 + Q (tau 1) / 3 + Q (tau 2) / 3)
      unfold z0 at hzz
      rw [Int.sub_zero] at hzz
      have term : ∀ x y z, x < 3 → y < 3 → z < 3 → Q (tau 0) / 3 + Q (tau 1) / 3 + Q (tau 2) / 3 = Q (tau x) / 3 + Q (tau y) / 3 + Q (tau z) / 3 → (p : Int) ∣ pm (pm (b 0 (selm x)) (b 1 (selm y))) (b 2 (selm z)) (Q (tau 0) / 3 + Q (tau 1) / 3 + Q (tau 2) / 3) - (if 0 = tau x then 1 else 0) * (if 1 = tau y then 1 else 0) * (if 2 = tau z then 1 else 0) := fun x y z hx hy hz hS => t3_top (hbd 0 x (by omega) hx) (hbd 1 y (by omega) hy) (hbd 2 z (by omega) hz) (hM 0 x (by omega) hx) (hM 1 y (by omega) hy) (hM 2 z (by omega) hz) hS
      have w1 := term 0 1 2 (by omega) (by omega) (by omega) (by omega)
      have w2 := term 1 0 2 (by omega) (by omega) (by omega) (by omega)
      have w3 := term 1 2 0 (by omega) (by omega) (by omega) (by omega)
      have w4 := term 2 0 1 (by omega) (by omega) (by omega) (by omega)
      have w5 := term 2 1 0 (by omega) (by omega) (by omega) (by omega)
      have w6 := term 0 2 1 (by omega) (by omega) (by omega) (by omega)
      generalize Q (tau 0) / 3 + Q (tau 1) / 3 + Q (tau 2) / 3 = S at *
      have hd : dt 3 (fun l c => b l (selm c)) S = pm (pm (b 0 (selm 0)) (b 1 (selm 1))) (b 2 (selm 2)) S + -pm (pm (b 0 (selm 1)) (b 1 (selm 0))) (b 2 (selm 2)) S + pm (pm (b 0 (selm 1)) (b 1 (selm 2))) (b 2 (selm 0)) S + pm (pm (b 0 (selm 2)) (b 1 (selm 0))) (b 2 (selm 1)) S + -pm (pm (b 0 (selm 2)) (b 1 (selm 1))) (b 2 (selm 0)) S + -pm (pm (b 0 (selm 0)) (b 1 (selm 2))) (b 2 (selm 1)) S := rfl
      rw [hd] at hzz
      generalize pm (pm (b 0 (selm 0)) (b 1 (selm 1))) (b 2 (selm 2)) S = X1 at *
      generalize pm (pm (b 0 (selm 1)) (b 1 (selm 0))) (b 2 (selm 2)) S = X2 at *
      generalize pm (pm (b 0 (selm 1)) (b 1 (selm 2))) (b 2 (selm 0)) S = X3 at *
      generalize pm (pm (b 0 (selm 2)) (b 1 (selm 0))) (b 2 (selm 1)) S = X4 at *
      generalize pm (pm (b 0 (selm 2)) (b 1 (selm 1))) (b 2 (selm 0)) S = X5 at *
      generalize pm (pm (b 0 (selm 0)) (b 1 (selm 2))) (b 2 (selm 1)) S = X6 at *
      obtain ⟨y1, w1⟩ := w1
      obtain ⟨y2, w2⟩ := w2
      obtain ⟨y3, w3⟩ := w3
      obtain ⟨y4, w4⟩ := w4
      obtain ⟨y5, w5⟩ := w5
      obtain ⟨y6, w6⟩ := w6
      have hy : (p : Int) * (y1 - y2 + y3 + y4 - y5 - y6) = p * y1 - p * y2 + p * y3 + p * y4 - p * y5 - p * y6 := by
        rw [Int.mul_sub, Int.mul_sub, Int.mul_add, Int.mul_add, Int.mul_sub]
      rcases (show tau 0 = 0 ∧ tau 1 = 1 ∧ tau 2 = 2 ∨ tau 0 = 0 ∧ tau 1 = 2 ∧ tau 2 = 1 ∨ tau 0 = 1 ∧ tau 1 = 0 ∧ tau 2 = 2 ∨ tau 0 = 1 ∧ tau 1 = 2 ∧ tau 2 = 0 ∨ tau 0 = 2 ∧ tau 1 = 0 ∧ tau 2 = 1 ∨ tau 0 = 2 ∧ tau 1 = 1 ∧ tau 2 = 0 by omega) with ⟨q0, q1, q2⟩ | ⟨q0, q1, q2⟩ | ⟨q0, q1, q2⟩ | ⟨q0, q1, q2⟩ | ⟨q0, q1, q2⟩ | ⟨q0, q1, q2⟩
      · simp [q0, q1, q2] at w1 w2 w3 w4 w5 w6
        exact h1n _ ⟨y1 - y2 + y3 + y4 - y5 - y6, by rw [hy]; omega⟩ hzz
      · simp [q0, q1, q2] at w1 w2 w3 w4 w5 w6
        exact h1m _ ⟨y1 - y2 + y3 + y4 - y5 - y6, by rw [hy]; omega⟩ hzz
      · simp [q0, q1, q2] at w1 w2 w3 w4 w5 w6
        exact h1m _ ⟨y1 - y2 + y3 + y4 - y5 - y6, by rw [hy]; omega⟩ hzz
      · simp [q0, q1, q2] at w1 w2 w3 w4 w5 w6
        exact h1n _ ⟨y1 - y2 + y3 + y4 - y5 - y6, by rw [hy]; omega⟩ hzz
      · simp [q0, q1, q2] at w1 w2 w3 w4 w5 w6
        exact h1n _ ⟨y1 - y2 + y3 + y4 - y5 - y6, by rw [hy]; omega⟩ hzz
      · simp [q0, q1, q2] at w1 w2 w3 w4 w5 w6
        exact h1m _ ⟨y1 - y2 + y3 + y4 - y5 - y6, by rw [hy]; omega⟩ hzz
