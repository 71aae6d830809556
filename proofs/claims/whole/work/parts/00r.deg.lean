/-! degrees, pivots, leads: the reference's loops and the class's places -/
theorem pv_toInt {a : Nat} (h : a < 100000) : (pv a).toInt = (a : Int) - 1 := by
  cases a with
  | zero => rfl
  | succ a => rw [pv_s, nI_toInt (by omega)]; omega
theorem pv_leq {a b : Nat} (ha : a < 100000) (hb : b < 100000) : pv a ≤ pv b ↔ a ≤ b := by
  rw [Int32.le_iff_toInt_le, pv_toInt ha, pv_toInt hb]; omega
theorem pv_ltq {a b : Nat} (ha : a < 100000) (hb : b < 100000) : pv a < pv b ↔ a < b := by
  rw [Int32.lt_iff_toInt_lt, pv_toInt ha, pv_toInt hb]; omega
theorem pv_eqq {a b : Nat} (ha : a < 100000) (hb : b < 100000) : pv a = pv b ↔ a = b := by
  constructor
  · intro h
    have h1 := pv_toInt ha
    rw [h, pv_toInt hb] at h1
    omega
  · intro h; rw [h]
theorem pv_lt0 {a : Nat} (ha : a < 100000) : pv a < 0 ↔ a = 0 := by
  rw [Int32.lt_iff_toInt_lt, pv_toInt ha, show (0 : Int32).toInt = 0 from rfl]; omega
theorem pv_ge0 {a : Nat} (ha : a < 100000) : 0 ≤ pv a ↔ a ≠ 0 := by
  rw [Int32.le_iff_toInt_le, pv_toInt ha, show (0 : Int32).toInt = 0 from rfl]; omega
noncomputable def dgr (nz : Nat → Prop) : Nat → Nat
  | 0 => 0
  | n + 1 => @ite _ (nz n) (Classical.propDecidable _) (n + 1) (dgr nz n)
theorem dgr_y {nz : Nat → Prop} {n : Nat} (h : nz n) : dgr nz (n + 1) = n + 1 := by unfold dgr; rw [if_pos h]
theorem dgr_n {nz : Nat → Prop} {n : Nat} (h : ¬ nz n) : dgr nz (n + 1) = dgr nz n := by rw [dgr, if_neg h]
theorem dgr_le (nz : Nat → Prop) : ∀ n, dgr nz n ≤ n := by
  intro n
  induction n with
  | zero => exact Nat.le_refl _
  | succ n ih =>
    unfold dgr
    split
    · exact Nat.le_refl _
    · omega
theorem dgr_is {nz : Nat → Prop} : ∀ n P, dgr nz n = P + 1 → P < n ∧ nz P ∧ ∀ m, P < m → m < n → ¬ nz m := by
  intro n
  induction n with
  | zero => intro P h; cases h
  | succ n ih =>
    intro P h
    by_cases h2 : nz n
    · rw [dgr_y h2] at h
      have e : P = n := by omega
      subst e
      exact ⟨by omega, h2, fun m h1 h2 => by omega⟩
    · rw [dgr_n h2] at h
      obtain ⟨h3, h4, h6⟩ := ih P h
      refine ⟨by omega, h4, fun m h7 h8 => ?_⟩
      by_cases hm : m = n
      · rw [hm]; exact h2
      · exact h6 m h7 (by omega)
theorem dgr_no {nz : Nat → Prop} : ∀ n, dgr nz n = 0 → ∀ m, m < n → ¬ nz m := by
  intro n
  induction n with
  | zero => intro _ m h; exact absurd h (Nat.not_lt_zero _)
  | succ n ih =>
    intro h m hm
    by_cases h2 : nz n
    · rw [dgr_y h2] at h; cases h
    · rw [dgr_n h2] at h
      by_cases hmn : m = n
      · rw [hmn]; exact h2
      · exact ih h m (by omega)
theorem dgr_loop {g : Int32 → Option (Int32 ⊕ Int32)} {nz : Nat → Prop} (N : Nat) (h0 : ∀ j, j < N → ¬ nz j → g (nI j) = some (.inl (nI j + (-1)))) (h1 : ∀ j, j < N → nz j → g (nI j) = some (.inr (nI j))) (he : g (-1) = some (.inr (-1))) : Lp g (nI N + (-1)) = some (pv (dgr nz N)) := by
  obtain ⟨r, h2, h3⟩ := Lp_dn (fun (i : Int32) (_ : Unit) => i) (g := g) (fun k _ => dgr nz N = dgr nz k) (fun r => r = pv (dgr nz N)) N
    (fun j _ hj hI => by
      by_cases h : nz j
      · refine Or.inr ⟨_, h1 j hj h, ?_⟩
        rw [hI, dgr_y h, pv_s]
      · exact Or.inl ⟨(), h0 j hj h, by rw [hI, dgr_n h]⟩)
    (fun _ hI => ⟨_, he, by rw [hI, show dgr nz 0 = 0 from rfl]; exact pv_0.symm⟩) N () (Nat.le_refl _) rfl
  rw [h2, h3]
/-- the greatest of some numbers, the last place where it is taken -/
def mxd (f : Nat → Nat) : Nat → Nat
  | 0 => 0
  | n + 1 => if f n ≤ mxd f n then mxd f n else f n
def pvt (f : Nat → Nat) (D : Nat) : Nat → Nat
  | 0 => 0
  | n + 1 => if f n = D ∧ f n ≠ 0 then n + 1 else pvt f D n
theorem mxd_ge (f : Nat → Nat) : ∀ n c, c < n → f c ≤ mxd f n := by
  intro n
  induction n with
  | zero => intro c h; omega
  | succ n ih =>
    intro c hc
    unfold mxd
    by_cases e : c = n
    · subst e
      split <;> omega
    · have := ih c (by omega)
      split <;> omega
theorem mxd_in (f : Nat → Nat) : ∀ n, mxd f n = 0 ∨ ∃ c, c < n ∧ f c = mxd f n := by
  intro n
  induction n with
  | zero => exact Or.inl rfl
  | succ n ih =>
    unfold mxd
    by_cases h : f n ≤ mxd f n
    · rw [if_pos h]
      rcases ih with h1 | ⟨c, h1, h2⟩
      · exact Or.inl h1
      · exact Or.inr ⟨c, by omega, h2⟩
    · rw [if_neg h]
      exact Or.inr ⟨n, by omega, rfl⟩
theorem mxd_le (f : Nat → Nat) {B : Nat} : ∀ n, (∀ c, c < n → f c ≤ B) → mxd f n ≤ B := by
  intro n h
  rcases mxd_in f n with e | ⟨c, h1, h2⟩
  · omega
  · rw [← h2]; exact h c h1
theorem pvt_is (f : Nat → Nat) (D : Nat) {c : Nat} : ∀ n, c < n → f c = D → D ≠ 0 → (∀ c2, c < c2 → c2 < n → f c2 ≠ D) → pvt f D n = c + 1 := by
  intro n
  induction n with
  | zero => intro h; omega
  | succ n ih =>
    intro hc h1 h2 h3
    unfold pvt
    by_cases e : c = n
    · subst e
      rw [if_pos ⟨h1, by omega⟩]
    · rw [if_neg (fun z => h3 n (by omega) (by omega) z.1)]
      exact ih (by omega) h1 h2 (fun c2 a b => h3 c2 a (by omega))
theorem pvt_no (f : Nat → Nat) (D : Nat) : ∀ n, (∀ c, c < n → f c = 0) → pvt f D n = 0 := by
  intro n
  induction n with
  | zero => intro _; rfl
  | succ n ih =>
    intro h
    unfold pvt
    rw [if_neg (fun z => z.2 (h n (by omega)))]
    exact ih (fun c hc => h c (by omega))
theorem pvt_le (f : Nat → Nat) (D : Nat) : ∀ n, pvt f D n ≤ n := by
  intro n
  induction n with
  | zero => exact Nat.le_refl _
  | succ n ih => unfold pvt; split <;> omega
def pw (P : Nat) : Nat := (P + 2) / 3
def cp (P : Nat) : Nat := if P = 0 then 0 else (P - 1) % 3 + 1
theorem pw_s (m : Nat) : pw (m + 1) = m / 3 + 1 := by unfold pw; omega
theorem cp_s (m : Nat) : cp (m + 1) = m % 3 + 1 := by unfold cp; rw [if_neg (by omega)]; rfl
theorem powerAt_pv {P : Nat} (h : P < 1000) : fX7_powerAt (pv P) = pv (pw P) := by
  cases P with
  | zero => rfl
  | succ m => rw [pv_s, powerAt_nI (by omega), pw_s, pv_s]
theorem columnAt_pv {P : Nat} (h : P < 1000) : fX7_columnAt (pv P) = pv (cp P) := by
  cases P with
  | zero => rfl
  | succ m => rw [pv_s, columnAt_nI (by omega), cp_s, pv_s]
theorem deg_pl {C K : Nat} {nz : Nat → Nat → Prop} (hC : C ≤ 3) (hK : K ≤ 8) (hz : ∀ c k, c < C → K ≤ k → ¬ nz c k) : mxd (fun c => dgr (nz c) K) C = pw (plc C nz 24) ∧ pvt (fun c => dgr (nz c) K) (mxd (fun c => dgr (nz c) K) C) C = cp (plc C nz 24) := by
  cases hP : plc C nz 24 with
  | zero =>
    have h0 : ∀ c, c < C → dgr (nz c) K = 0 := by
      intro c hc
      cases hd : dgr (nz c) K with
      | zero => rfl
      | succ k =>
        obtain ⟨h1, h2, -⟩ := dgr_is K k hd
        have := plc_zero C nz 24 hP (k * 3 + c) (by omega)
        rw [show (k * 3 + c) % 3 = c by omega, show (k * 3 + c) / 3 = k by omega] at this
        exact absurd ⟨hc, h2⟩ this
    have hm : mxd (fun c => dgr (nz c) K) C = 0 := by
      have := mxd_le (fun c => dgr (nz c) K) (B := 0) C (fun c hc => by rw [h0 c hc]; exact Nat.le_refl _)
      omega
    exact ⟨hm, pvt_no _ _ C h0⟩
  | succ m =>
    obtain ⟨h1, h2, h3, h4⟩ := plc_spec C nz 24 m hP
    have hkK : m / 3 < K := by
      apply Classical.byContradiction
      intro h
      exact hz _ _ h2 (by omega) h3
    have hab : ∀ c k, c < C → k < K → nz c k → k * 3 + c ≤ m := by
      intro c k hc hk hn
      apply Classical.byContradiction
      intro h
      have := h4 (k * 3 + c) (by omega) (by omega)
      rw [show (k * 3 + c) % 3 = c by omega, show (k * 3 + c) / 3 = k by omega] at this
      exact this ⟨hc, hn⟩
    have hle : ∀ c, c < C → dgr (nz c) K ≤ m / 3 + 1 := by
      intro c hc
      cases hd : dgr (nz c) K with
      | zero => omega
      | succ k =>
        obtain ⟨h5, h6, -⟩ := dgr_is K k hd
        have := hab c k hc h5 h6
        omega
    have hat : dgr (nz (m % 3)) K = m / 3 + 1 := by
      have h5 := hle _ h2
      cases hd : dgr (nz (m % 3)) K with
      | zero => exact absurd h3 (dgr_no K hd _ hkK)
      | succ k =>
        obtain ⟨h6, h7, h8⟩ := dgr_is K k hd
        rw [hd] at h5
        by_cases e : k < m / 3
        · exact absurd h3 (h8 _ e hkK)
        · omega
    have hmx : mxd (fun c => dgr (nz c) K) C = m / 3 + 1 := by
      have a1 := mxd_le (fun c => dgr (nz c) K) (B := m / 3 + 1) C hle
      have a2 : dgr (nz (m % 3)) K ≤ _ := mxd_ge (fun c => dgr (nz c) K) C (m % 3) h2
      rw [hat] at a2
      omega
    rw [pw_s, cp_s]
    refine ⟨hmx, ?_⟩
    rw [hmx]
    refine pvt_is _ _ C h2 hat (by omega) (fun c2 h5 h6 e => ?_)
    obtain ⟨h7, h8, -⟩ := dgr_is K (m / 3) (show dgr (nz c2) K = m / 3 + 1 from e)
    have := hab c2 (m / 3) h6 h7 h8
    omega
/-- of the reference's state: the place of row i -/
def anz (A : Nat → Int32) (i : Nat) : Nat → Nat → Prop := fun c k => k < 7 ∧ A (3 + (i * 3 + c) * 7 + k) ≠ 0
noncomputable def aP (A : Nat → Int32) (C i : Nat) : Nat := plc C (anz A i) 24
theorem X8degreeAt {A : Nat → Int32} {i c : Nat} (hi : i < 5) (hc : c < 3) : fX8_degreeAt A (nI i) (nI c) = some (pv (dgr (anz A i c) 7)) := by
  unfold fX8_degreeAt
  have h := dgr_loop (g := fun z => fX8_degreeAt_s3 A (nI i) (nI c) z) (nz := anz A i c) 7 (fun j hj h => by
    unfold fX8_degreeAt_s3
    rw [if_neg (nI_pos (by omega)), X8place, gd_t (vp_in_nI (by omega) (by omega)), nI_clamp (by omega), if_pos (Classical.byContradiction fun z => h ⟨hj, z⟩)]) (fun j hj h => by
    unfold fX8_degreeAt_s3
    rw [if_neg (nI_pos (by omega)), X8place, gd_t (vp_in_nI (by omega) (by omega)), nI_clamp (by omega), if_neg h.2]) (by
    unfold fX8_degreeAt_s3
    rw [if_pos (by decide)])
  exact bd_t (show Lp (fun z => fX8_degreeAt_s3 A (nI i) (nI c) z) (6 : Int32) = _ from h)
theorem X8degree0 {A : Nat → Int32} {i C : Nat} (h1 : A 1 = nI C) (hi : i < 5) (hC : C ≤ 3) : fX8_degree A (nI i) = some (pv (mxd (fun c => dgr (anz A i c) 7) C)) := by
  obtain ⟨r, h2, h3⟩ := Lp_up (fun j (s : Int32) => (s, j)) (g := fun (z : Int32 × Int32) => fX8_degree_s4 A (nI i) z.1 z.2) C (fun j s => s = pv (mxd (fun c => dgr (anz A i c) 7) j)) (fun r => r = pv (mxd (fun c => dgr (anz A i c) 7) C))
    (fun j s hj hI => by
      have hat := X8degreeAt (A := A) hi (show j < 3 by omega)
      have hl := dgr_le (anz A i j) 7
      have hm := mxd_le (fun c => dgr (anz A i c) 7) (B := 7) j (fun c _ => dgr_le _ 7)
      refine Or.inl ⟨pv (mxd (fun c => dgr (anz A i c) 7) (j + 1)), ?_, rfl⟩
      dsimp only
      unfold fX8_degree_s4
      rw [bd_t (X8width h1), if_neg (nI_ge hj (by omega)), bd_t hat, hI]
      by_cases h : dgr (anz A i j) 7 ≤ mxd (fun c => dgr (anz A i c) 7) j
      · rw [if_pos ((pv_leq (by omega) (by omega)).mpr h)]
        rw [show mxd (fun c => dgr (anz A i c) 7) (j + 1) = mxd (fun c => dgr (anz A i c) 7) j from if_pos h]
      · rw [if_neg (fun z => h ((pv_leq (by omega) (by omega)).mp z)), bd_t hat]
        rw [show mxd (fun c => dgr (anz A i c) 7) (j + 1) = dgr (anz A i j) 7 from if_neg h])
    (fun s hI => by
      refine ⟨s, ?_, hI⟩
      dsimp only
      unfold fX8_degree_s4
      rw [bd_t (X8width h1), if_pos (nI_le (Nat.le_refl _) (by omega))]) 0 (-1) (Nat.zero_le _) pv_0.symm
  unfold fX8_degree
  exact (bd_t h2).trans (congrArg some h3)
theorem anz_hz {A : Nat → Int32} {i C : Nat} : ∀ c k, c < C → 7 ≤ k → ¬ anz A i c k := fun c k _ h z => by have := z.1; omega
theorem X8degree {A : Nat → Int32} {i C : Nat} (h1 : A 1 = nI C) (hi : i < 5) (hC : C ≤ 3) : fX8_degree A (nI i) = some (pv (pw (aP A C i))) := by
  rw [X8degree0 h1 hi hC, (deg_pl hC (by omega) anz_hz).1]
  rfl
theorem X8pivot {A : Nat → Int32} {i C : Nat} (h1 : A 1 = nI C) (hi : i < 5) (hC : C ≤ 3) : fX8_pivot A (nI i) = some (pv (cp (aP A C i))) := by
  have hd := X8degree0 h1 hi hC
  have hD := mxd_le (fun c => dgr (anz A i c) 7) (B := 7) C (fun c _ => dgr_le _ 7)
  generalize hDe : mxd (fun c => dgr (anz A i c) 7) C = D at hd hD
  obtain ⟨r, h2, h3⟩ := Lp_up (fun j (s : Int32) => (s, j)) (g := fun (z : Int32 × Int32) => fX8_pivot_s4 A (nI i) z.1 z.2) C (fun j s => s = pv (pvt (fun c => dgr (anz A i c) 7) D j)) (fun r => r = pv (pvt (fun c => dgr (anz A i c) 7) D C))
    (fun j s hj hI => by
      have hat := X8degreeAt (A := A) hi (show j < 3 by omega)
      have hl := dgr_le (anz A i j) 7
      refine Or.inl ⟨pv (pvt (fun c => dgr (anz A i c) 7) D (j + 1)), ?_, rfl⟩
      dsimp only
      unfold fX8_pivot_s4
      rw [bd_t (X8width h1), if_neg (nI_ge hj (by omega)), bd_t hat, hI]
      by_cases h0 : dgr (anz A i j) 7 = 0
      · rw [if_pos ((pv_lt0 (by omega)).mpr h0)]
        rw [show pvt (fun c => dgr (anz A i c) 7) D (j + 1) = pvt (fun c => dgr (anz A i c) 7) D j from if_neg (fun z => z.2 h0)]
      · rw [if_neg (fun z => h0 ((pv_lt0 (by omega)).mp z)), bd_t hat, bd_t hd]
        by_cases h : dgr (anz A i j) 7 = D
        · rw [if_pos (by rw [h]), show pvt (fun c => dgr (anz A i c) 7) D (j + 1) = j + 1 from if_pos ⟨h, h0⟩, pv_s]
        · rw [if_neg (fun z => h ((pv_eqq (by omega) (by omega)).mp z)), show pvt (fun c => dgr (anz A i c) 7) D (j + 1) = pvt (fun c => dgr (anz A i c) 7) D j from if_neg (fun z => h z.1)])
    (fun s hI => by
      refine ⟨s, ?_, hI⟩
      dsimp only
      unfold fX8_pivot_s4
      rw [bd_t (X8width h1), if_pos (nI_le (Nat.le_refl _) (by omega))]) 0 (-1) (Nat.zero_le _) pv_0.symm
  unfold fX8_pivot
  refine (bd_t h2).trans (congrArg some (h3.trans ?_))
  rw [← hDe, (deg_pl hC (by omega) anz_hz).2]
  rfl
theorem aP_le (A : Nat → Int32) (C i : Nat) : aP A C i ≤ 24 := plc_le _ _ _
theorem X8lead {A : Nat → Int32} {i C m : Nat} (h1 : A 1 = nI C) (hi : i < 5) (hC : C ≤ 3) (hm : aP A C i = m + 1) : fX8_lead A (nI i) = some (A (3 + (i * 3 + m % 3) * 7 + m / 3)) := by
  have hs := plc_spec _ _ _ _ hm
  have h7 := hs.2.2.1.1
  have hpz : 0 ≤ nI (m % 3) := by rw [← pv_s]; exact (pv_ge0 (by omega)).mpr (by omega)
  unfold fX8_lead
  rw [bd_t (X8pivot h1 hi hC), hm, cp_s, pv_s, if_pos hpz, bd_t (X8degree h1 hi hC), hm, pw_s, pv_s, X8place, gd_t (vp_in_nI (by omega) (by omega)), nI_clamp (by omega)]
theorem X8lead0 {A : Nat → Int32} {i C : Nat} (h1 : A 1 = nI C) (hi : i < 5) (hC : C ≤ 3) (hm : aP A C i = 0) : fX8_lead A (nI i) = some 0 := by
  unfold fX8_lead
  rw [bd_t (X8pivot h1 hi hC), hm, show cp 0 = 0 from rfl, pv_0, if_neg (by decide)]
/-- the same places on both sides -/
theorem aP_rP {num A : Nat → Int32} {C i : Nat} (hC : C ≤ 3) (h : ∀ c k, c < 3 → k < 7 → num ((i * 3 + c) * 7 + k) = A (3 + (i * 3 + c) * 7 + k)) : rP num 3 7 C i = aP A C i := by
  refine plc_congr 24 (fun m hm hmc => ?_)
  unfold cel anz
  by_cases h7 : m / 3 < 7
  · rw [if_pos h7, h (m % 3) (m / 3) (by omega) h7]
    exact ⟨fun z => ⟨h7, z⟩, fun z => z.2⟩
  · rw [if_neg h7]
    exact ⟨fun z => absurd rfl z, fun z => absurd z.1 h7⟩
