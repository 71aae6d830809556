/-! loops that write a grid; loops that look for a pair; the reference's steps -/
theorem Lp_arr2 {gi : Int32 → Int32 × (Nat → Int32) → Option ((Int32 × (Nat → Int32)) ⊕ (Nat → Int32))} {go : Int32 × (Nat → Int32) → Option ((Int32 × (Nat → Int32)) ⊕ (Nat → Int32))} {W a N : Nat} {A : Nat → Int32} (ix : Nat → Nat → Nat) (val : Nat → Nat → Int32) (haN : a ≤ N) (hinj : ∀ c k c' k', c < W → c' < W → a ≤ k → k < N → a ≤ k' → k' < N → ix c k = ix c' k' → c = c' ∧ k = k')
    (hs : ∀ c k s, c < W → a ≤ k → k < N → (∀ m, (∀ c' k', (c' < c ∨ c' = c ∧ k' < k) → a ≤ k' → k' < N → m ≠ ix c' k') → s m = A m) → gi (nI c) (nI k, s) = some (.inl (nI k + 1, upd s (ix c k) (val c k))))
    (he : ∀ c s, c < W → gi (nI c) (nI N, s) = some (.inr s))
    (ho : ∀ c s, c < W → (∀ m, (∀ c' k', c' < c → a ≤ k' → k' < N → m ≠ ix c' k') → s m = A m) → go (nI c, s) = bd (Lp (gi (nI c)) (nI a, s)) (fun x => some (.inl (nI c + 1, x))))
    (hoe : ∀ s, (∀ m, (∀ c' k', c' < W → a ≤ k' → k' < N → m ≠ ix c' k') → s m = A m) → go (nI W, s) = some (.inr s)) :
    ∃ r, Lp go (0, A) = some r ∧ (∀ c k, c < W → a ≤ k → k < N → r (ix c k) = val c k) ∧ ∀ m, (∀ c k, c < W → a ≤ k → k < N → m ≠ ix c k) → r m = A m := by
  refine Lp_up (fun i s => (i, s)) W (fun c s => (∀ c' k, c' < c → a ≤ k → k < N → s (ix c' k) = val c' k) ∧ ∀ m, (∀ c' k', c' < c → a ≤ k' → k' < N → m ≠ ix c' k') → s m = A m) (fun (r : Nat → Int32) => (∀ c k, c < W → a ≤ k → k < N → r (ix c k) = val c k) ∧ ∀ m, (∀ c k, c < W → a ≤ k → k < N → m ≠ ix c k) → r m = A m) ?_ ?_ 0 A (Nat.zero_le _) ⟨fun c' k h => absurd h (Nat.not_lt_zero _), fun _ _ => rfl⟩
  · rintro c s hc ⟨h1, h2⟩
    obtain ⟨r, g1, g2, g3⟩ := Lp_arr (g := gi (nI c)) (a := a) (N := N) (A := s) (ix c) (val c) haN (fun i j hi hij hj e => by
      have := (hinj c i c j hc hc hi (by omega) (by omega) hj e).2
      omega) (fun k t hk1 hk2 ht => hs c k t hc hk1 hk2 (fun m hm => (ht m (fun j hj1 hj2 => hm c j (Or.inr ⟨rfl, hj2⟩) hj1 (by omega))).trans (h2 m (fun c' k' hc' a1 a2 => hm c' k' (Or.inl hc') a1 a2)))) (fun t _ => he c t hc)
    refine Or.inl ⟨r, (ho c s hc h2).trans (bd_t g1), fun c' k hc' hk1 hk2 => ?_, fun m hm => ?_⟩
    · by_cases e : c' = c
      · rw [e]; exact g2 k hk1 hk2
      · rw [g3 (ix c' k) (fun j hj1 hj2 z => e (hinj c' k c j (by omega) hc hk1 hk2 hj1 hj2 z).1)]
        exact h1 c' k (by omega) hk1 hk2
    · rw [g3 m (fun j hj1 hj2 => hm c j (by omega) hj1 hj2)]
      exact h2 m (fun c' k' hc' a1 a2 => hm c' k' (by omega) a1 a2)
  · rintro s ⟨h1, h2⟩
    exact ⟨s, hoe s h2, h1, h2⟩
/-- the search for the first pair -/
theorem fp_loop {R : Type} {n : Nat} (S : Nat → Nat → Prop) {gi : Int32 → Int32 → Option (Int32 ⊕ (Unit ⊕ (Int32 ⊕ (Unit ⊕ R))))} {go : Int32 → Option (Int32 ⊕ (Unit ⊕ R))}
    (h0 : ∀ i j, i < n → j < n → ¬ S i j → gi (nI i) (nI j) = some (.inl (nI j + 1)))
    (he : ∀ i, i < n → gi (nI i) (nI n) = some (.inr (.inl ())))
    (ho : ∀ i, i < n → go (nI i) = bx (Lp (gi (nI i)) 0) (fun (_ : Unit) => some (.inl (nI i + 1))))
    (hoe : go (nI n) = some (.inr (.inl ()))) :
    ((∀ i j, i < n → j < n → ¬ S i j) → Lp go 0 = some (.inl ())) ∧ ∀ i j, FP n S i j → ∀ r, gi (nI i) (nI j) = some (.inr (.inr (.inr (.inr r)))) → Lp go 0 = some (.inr r) := by
  have hin : ∀ i, i < n → (∀ j, j < n → ¬ S i j) → Lp (gi (nI i)) 0 = some (.inl ()) := by
    intro i hi hno
    obtain ⟨r, g1, g2⟩ := Lp_up (fun (i : Int32) (_ : Unit) => i) (g := gi (nI i)) n (fun _ _ => True) (fun r => r = .inl ()) (fun j _ hj _ => Or.inl ⟨(), h0 i j hi hj (hno j hj), trivial⟩) (fun _ _ => ⟨_, he i hi, rfl⟩) 0 () (Nat.zero_le _) trivial
    exact g1.trans (congrArg some g2)
  constructor
  · intro hno
    obtain ⟨r, g1, g2⟩ := Lp_up (fun (i : Int32) (_ : Unit) => i) (g := go) n (fun _ _ => True) (fun r => r = .inl ()) (fun i _ hi _ => Or.inl ⟨(), by rw [ho i hi, hin i hi (fun j hj => hno i j hi hj)]; rfl, trivial⟩) (fun _ _ => ⟨_, hoe, rfl⟩) 0 () (Nat.zero_le _) trivial
    exact g1.trans (congrArg some g2)
  · rintro i j ⟨hi, hj, hS, hf⟩ r hr
    have hij : Lp (gi (nI i)) 0 = some (.inr (.inr (.inr r))) := by
      obtain ⟨x, g1, g2⟩ := Lp_up (fun (i : Int32) (_ : Unit) => i) (g := gi (nI i)) n (fun j2 _ => j2 ≤ j) (fun x => x = .inr (.inr (.inr r))) (fun j2 _ hj2 hI => by
        by_cases e : j2 = j
        · rw [e]; exact Or.inr ⟨_, hr, rfl⟩
        · exact Or.inl ⟨(), h0 i j2 hi hj2 (hf i j2 hi hj2 (Or.inr ⟨rfl, by omega⟩)), by omega⟩) (fun _ hI => by omega) 0 () (Nat.zero_le _) (Nat.zero_le _)
      exact g1.trans (congrArg some g2)
    obtain ⟨x, g1, g2⟩ := Lp_up (fun (i : Int32) (_ : Unit) => i) (g := go) n (fun i2 _ => i2 ≤ i) (fun x => x = .inr r) (fun i2 _ hi2 hI => by
      by_cases e : i2 = i
      · rw [e]
        exact Or.inr ⟨.inr r, by rw [ho i hi, hij]; rfl, rfl⟩
      · exact Or.inl ⟨(), by rw [ho i2 hi2, hin i2 hi2 (fun j2 hj2 => hf i2 j2 hi2 hj2 (Or.inl (by omega)))]; rfl, by omega⟩) (fun _ hI => by omega) 0 () (Nat.zero_le _) (Nat.zero_le _)
    exact g1.trans (congrArg some g2)
theorem md_congr {x y : Int} {p : Nat} (hp : 0 < p) (h : (p : Int) ∣ x - y) : md x p = md y p := by
  have h1 := md_cast (x := x) hp
  have h2 := md_cast (x := y) hp
  have h4 : x % (p : Int) = y % p := Int.emod_eq_emod_iff_emod_sub_eq_zero.mpr (Int.emod_eq_zero_of_dvd h)
  omega
theorem X8inverse {A : Nat → Int32} {p v : Nat} (h0 : A 0 = nI p) (hp : p = 2 ∨ p = 3 ∨ p = 5 ∨ p = 7) (hv0 : 0 < v) (hv : v < p) : ∃ u, isinv p v u ∧ fX8_inverse A (nI v) = some (nI u) := by
  obtain ⟨w, hw⟩ := inv_ex hp hv0 hv
  obtain ⟨hw1, hw2, hw3⟩ := hw
  obtain ⟨r, h1, h2⟩ := Lp_up (fun (i : Int32) (_ : Unit) => i) (g := fun z => fX8_inverse_s2 A (nI v) z) p (fun j _ => 1 ≤ j ∧ j ≤ w) (fun r => ∃ u, isinv p v u ∧ r = nI u)
    (fun j _ hj hI => by
      have hb : v * j ≤ 7 * 7 := Nat.mul_le_mul (by omega) (by omega)
      unfold fX8_inverse_s2
      rw [bd_t (X8modulus h0), gd_t (nI_ne0 (by omega) (by omega)), pk_mul, show rem32 (nI (v * j)) (nI p) = nI (v * j % p) from pk_rem (by omega) (by omega) (by omega)]
      by_cases h : v * j % p = 1
      · rw [h, if_pos (show nI 1 = (1 : Int32) from rfl)]
        exact Or.inr ⟨_, rfl, j, ⟨hI.1, hj, h⟩, rfl⟩
      · rw [if_neg]
        · refine Or.inl ⟨(), rfl, by omega, ?_⟩
          by_cases hjw : j = w
          · rw [hjw] at h
            exact absurd hw3 h
          · omega
        · intro e
          apply h
          have hm : v * j % p < p := Nat.mod_lt _ (by omega)
          exact (nI_eq (by omega) (by omega)).mp (show nI (v * j % p) = nI 1 from e))
    (fun _ hI => by omega) 1 () (by omega) ⟨Nat.le_refl _, hw1⟩
  obtain ⟨u, hu, e⟩ := h2
  refine ⟨u, hu, ?_⟩
  unfold fX8_inverse
  exact (bd_t (show Lp (fun z => fX8_inverse_s2 A (nI v) z) (1 : Int32) = _ from h1)).trans (congrArg some e)
/-- the numbers of a state -/
theorem stV {p C n : Nat} {nnum all : Nat → Int32} (hp : p < 1000) (hcell : ∀ i, i < n → ∀ c, c < 3 → ∀ k, k < 7 → ∃ v : Nat, v < p ∧ nnum ((i * 3 + c) * 7 + k) = nI v ∧ all (3 + (i * 3 + c) * 7 + k) = nI v ∧ (C ≤ c → v = 0)) : ∃ V : Nat → Nat → Nat → Nat, ∀ i c k, i < n → c < 3 → k < 7 → V i c k < p ∧ nnum ((i * 3 + c) * 7 + k) = nI (V i c k) ∧ all (3 + (i * 3 + c) * 7 + k) = nI (V i c k) ∧ (C ≤ c → V i c k = 0) := by
  refine ⟨fun i c k => (nnum ((i * 3 + c) * 7 + k)).toInt.toNat, fun i c k hi hc hk => ?_⟩
  obtain ⟨v, h1, h2, h3, h4⟩ := hcell i hi c hc k hk
  have e : (nnum ((i * 3 + c) * 7 + k)).toInt.toNat = v := by rw [h2, nI_toInt (by omega)]; omega
  dsimp only
  rw [e]
  exact ⟨h1, h2, h3, h4⟩
/-- the lead of a row on both sides -/
theorem lead_both {p C n i : Nat} {nnum all : Nat → Int32} {V : Nat → Nat → Nat → Nat} (hp : p < 1000) (hC : C ≤ 3) (hn : n ≤ 5) (b1 : all 1 = nI C) (hV : ∀ i c k, i < n → c < 3 → k < 7 → V i c k < p ∧ nnum ((i * 3 + c) * 7 + k) = nI (V i c k) ∧ all (3 + (i * 3 + c) * 7 + k) = nI (V i c k) ∧ (C ≤ c → V i c k = 0)) (hi : i < n) (h1p : 0 < p) : rP nnum 3 7 C i = aP all C i ∧ ∃ v : Nat, v < p ∧ (v = 0 ↔ aP all C i = 0) ∧ (∀ m, aP all C i = m + 1 → cel nnum 3 7 i (m % 3) (m / 3) = nI v ∧ m / 3 < 7 ∧ m % 3 < C ∧ v = V i (m % 3) (m / 3)) ∧ fX3_leadOf 105 (5 : Int32) (3 : Int32) (7 : Int32) (nI C) nnum (nI i) = some (nI v) ∧ fX8_lead all (nI i) = some (nI v) := by
  have hP : rP nnum 3 7 C i = aP all C i := aP_rP hC (fun c k hc hk => (hV i c k hi hc hk).2.1.trans (hV i c k hi hc hk).2.2.1.symm)
  refine ⟨hP, ?_⟩
  cases hm : aP all C i with
  | zero =>
    exact ⟨0, h1p, ⟨fun _ => rfl, fun _ => rfl⟩, fun m h => absurd h (by omega), X3lead0 (L := 105) (R := 5) (w := 3) (q := 7) rfl (by omega) (by omega) (by omega) (by omega) (by omega) hC (by omega) (hP.trans hm), X8lead0 b1 (by omega) hC hm⟩
  | succ m =>
    obtain ⟨-, h2, ⟨h3, h4⟩, -⟩ := plc_spec _ _ _ _ hm
    obtain ⟨v1, v2, v3, v4⟩ := hV i (m % 3) (m / 3) hi (by omega) h3
    have hc : cel nnum 3 7 i (m % 3) (m / 3) = nI (V i (m % 3) (m / 3)) := by unfold cel; rw [if_pos h3]; exact v2
    refine ⟨V i (m % 3) (m / 3), v1, ⟨fun e => absurd ?_ h4, fun e => absurd e (by omega)⟩, ?_, ?_, ?_⟩
    · rw [v3, e]; rfl
    · intro m2 hm2
      have e : m2 = m := by omega
      subst e
      exact ⟨hc, h3, h2, rfl⟩
    · exact (X3lead (L := 105) (R := 5) (w := 3) (q := 7) rfl (by omega) (by omega) (by omega) (by omega) (by omega) hC (by omega) (hP.trans hm)).trans (congrArg some hc)
    · exact (X8lead b1 (by omega) hC hm).trans (congrArg some v3)
/-- monic: the reference's row times a number -/
theorem X8monicLoop {A : Nat → Int32} {p i u : Nat} (h0 : A 0 = nI p) (hp : 0 < p) (hp2 : p < 1000) (hi : i < 5) (hu : u ≤ 10) (hV : ∀ k, k < 21 → ∃ v : Nat, v ≤ 10 ∧ A (3 + i * 21 + k) = nI v) : ∃ r, Lp (fun (z : Int32 × (Nat → Int32)) => fX8_monicNow_s15 (nI i) (nI u) z.1 z.2) ((0 : Int32), A) = some r ∧ (∀ k, k < 21 → r (3 + i * 21 + k) = nI (md ((u : Int) * (A (3 + i * 21 + k)).toInt) p)) ∧ ∀ m, (m < 3 + i * 21 ∨ 3 + i * 21 + 21 ≤ m) → r m = A m := by
  obtain ⟨r, h1, h2, h3⟩ := Lp_arr (g := fun (z : Int32 × (Nat → Int32)) => fX8_monicNow_s15 (nI i) (nI u) z.1 z.2) (a := 0) (N := 21) (A := A) (fun k => 3 + i * 21 + k) (fun k => nI (md ((u : Int) * (A (3 + i * 21 + k)).toInt) p)) (by omega) (fun i j _ h _ => by omega) (fun k s hk1 hk2 hs => by
      dsimp only
      obtain ⟨v, hv, ev⟩ := hV k hk2
      have s0 : s 0 = nI p := (hs 0 (fun j _ _ => by omega)).trans h0
      have sk : s (3 + i * 21 + k) = nI v := (hs _ (fun j _ _ => by omega)).trans ev
      have hb : v * u ≤ 10 * 10 := Nat.mul_le_mul hv hu
      unfold fX8_monicNow_s15
      rw [if_neg (show ¬ (21 : Int32) ≤ nI k from (nI_ge hk2 (by omega) : ¬ nI 21 ≤ nI k)), show fX8_place (nI i) (0 : Int32) (nI k) = nI (3 + i * 21 + k) from (X8place i 0 k).trans (by rw [show 3 + (i * 3 + 0) * 7 + k = 3 + i * 21 + k by omega]), gd_t (vp_in_nI (by omega) (by omega)), nI_clamp (by omega), sk, pk_mul, bd_t (X8left_any s0 hp hp2), gd_t (vp_in_nI (by omega) (by omega)), nI_toInt (by omega), ev, nI_toInt (by omega), Int.natCast_mul, Int.mul_comm (u : Int)]) (fun s _ => by
      dsimp only
      unfold fX8_monicNow_s15
      rw [if_pos (show (21 : Int32) ≤ nI 21 from nI_le (Nat.le_refl 21) (by omega))])
  exact ⟨r, h1, fun k hk => h2 k (by omega) hk, fun m hm => h3 m (fun j _ _ => by omega)⟩
/-- the reference's step -/
theorem X8stepNow {A : Nat → Int32} {p C i j c k : Nat} (h0 : A 0 = nI p) (h1 : A 1 = nI C) (hp : 0 < p) (hp2 : p < 1000) (hC : C ≤ 3) (hi : i < 5) (hj : j < 5) (hij : i ≠ j) (hc : c ≤ 10) (hk : k ≤ 6) (hV : ∀ a e m, (a = i ∨ a = j) → e < 3 → m < 7 → ∃ v : Nat, v ≤ 10 ∧ A (3 + (a * 3 + e) * 7 + m) = nI v) : ∃ r, Lp (fun (z : Int32 × (Nat → Int32)) => fX8_stepNow_s3 (nI i) (nI j) (nI c) (nI k) z.1 z.2) ((0 : Int32), A) = some r ∧ (∀ e m, e < C → k ≤ m → m < 7 → r (3 + (i * 3 + e) * 7 + m) = nI (md ((A (3 + (i * 3 + e) * 7 + m)).toInt + (c : Int) * (A (3 + (j * 3 + e) * 7 + (m - k))).toInt) p)) ∧ ∀ x, (∀ e m, e < C → k ≤ m → m < 7 → x ≠ 3 + (i * 3 + e) * 7 + m) → r x = A x := by
  refine Lp_arr2 (gi := fun i_1 z => fX8_stepNow_s16 (nI i) (nI j) (nI c) (nI k) i_1 z.1 z.2) (go := fun z => fX8_stepNow_s3 (nI i) (nI j) (nI c) (nI k) z.1 z.2) (W := C) (a := k) (N := 7) (A := A) (fun e m => 3 + (i * 3 + e) * 7 + m) (fun e m => nI (md ((A (3 + (i * 3 + e) * 7 + m)).toInt + (c : Int) * (A (3 + (j * 3 + e) * 7 + (m - k))).toInt) p)) (by omega) (fun e m e' m' _ _ _ _ _ _ h => by omega) ?_ ?_ ?_ ?_
  · intro e m s he hm1 hm2 hs
    dsimp only
    obtain ⟨v, hv, ev⟩ := hV i e m (Or.inl rfl) (by omega) hm2
    obtain ⟨w, hw, ew⟩ := hV j e (m - k) (Or.inr rfl) (by omega) (by omega)
    have s0 : s 0 = nI p := (hs 0 (fun _ _ _ _ _ => by omega)).trans h0
    have si : s (3 + (i * 3 + e) * 7 + m) = nI v := (hs _ (fun _ _ _ _ _ => by omega)).trans ev
    have sj : s (3 + (j * 3 + e) * 7 + (m - k)) = nI w := (hs _ (fun _ _ _ _ _ => by omega)).trans ew
    have hb : c * w ≤ 10 * 10 := Nat.mul_le_mul hc hw
    unfold fX8_stepNow_s16
    rw [if_neg (show ¬ (6 : Int32) < nI m from (nI_nlt (by omega) (by omega) : ¬ nI 6 < nI m)), X8place, show nI m - nI k = nI (m - k) from pk_sub hm1, X8place, gd_t (vp_in_nI (by omega) (by omega)), gd_t (vp_in_nI (by omega) (by omega)), nI_clamp (by omega), nI_clamp (by omega), si, sj, pk_mul, nI_add, bd_t (X8left_any s0 hp hp2), gd_t (vp_in_nI (by omega) (by omega)), nI_toInt (by omega), ev, ew, nI_toInt (by omega), nI_toInt (by omega), Int.natCast_add, Int.natCast_mul]
  · intro e s he
    dsimp only
    unfold fX8_stepNow_s16
    rw [if_pos (show (6 : Int32) < nI 7 from (nI_lt (by omega) (by omega) : nI 6 < nI 7))]
  · intro e s he hs
    dsimp only
    have s1 : s 1 = nI C := (hs 1 (fun _ _ _ _ _ => by omega)).trans h1
    unfold fX8_stepNow_s3
    rw [bd_t (X8width s1), if_neg (nI_ge he (by omega))]
  · intro s hs
    dsimp only
    have s1 : s 1 = nI C := (hs 1 (fun _ _ _ _ _ => by omega)).trans h1
    unfold fX8_stepNow_s3
    rw [bd_t (X8width s1), if_pos (nI_le (Nat.le_refl _) (by omega))]
/-- the pairs, by degrees and pivots -/
theorem CS_iff {P : Nat → Nat} {i j : Nat} (hi : P i ≠ 0) (hj : P j ≠ 0) (hij : i ≠ j) : CS P i j ↔ cp (P i) = cp (P j) ∧ pw (P j) ≤ pw (P i) := by
  obtain ⟨a, ha⟩ : ∃ a, P i = a + 1 := ⟨P i - 1, by omega⟩
  obtain ⟨b, hb⟩ : ∃ b, P j = b + 1 := ⟨P j - 1, by omega⟩
  unfold CS
  rw [ha, hb, cp_s, cp_s, pw_s, pw_s]
  constructor
  · rintro ⟨-, -, -, h1, h2⟩
    constructor <;> omega
  · rintro ⟨h1, h2⟩
    exact ⟨hij, by omega, by omega, by omega, by omega⟩
theorem CS_congr {P Q : Nat → Nat} {n i j : Nat} (h : ∀ a, a < n → P a = Q a) (hi : i < n) (hj : j < n) : CS P i j ↔ CS Q i j := by
  unfold CS
  rw [h i hi, h j hj]
theorem FP_congr {S T : Nat → Nat → Prop} {n i j : Nat} (h : ∀ a b, a < n → b < n → (S a b ↔ T a b)) (hf : FP n S i j) : FP n T i j := by
  obtain ⟨h1, h2, h3, h4⟩ := hf
  exact ⟨h1, h2, (h i j h1 h2).mp h3, fun i' j' a b c d => h4 i' j' a b c ((h i' j' a b).mpr d)⟩
/-- the reference's next step -/
theorem X8nextOf {A : Nat → Int32} {p C n : Nat} {what : Int32} (hp : p = 2 ∨ p = 3 ∨ p = 5 ∨ p = 7) (hC : C ≤ 3) (hn : n ≤ 5) (b0 : A 0 = nI p) (b1 : A 1 = nI C) (b2 : A 2 = nI n) (hA : ∀ i c k, i < n → c < 3 → k < 7 → ∃ v : Nat, v < p ∧ A (3 + (i * 3 + c) * 7 + k) = nI v) :
    ((∀ i j, i < n → j < n → ¬ CS (aP A C) i j) → fX8_nextOf A what = some (-1)) ∧ ∀ i j a b vi vj u, FP n (CS (aP A C)) i j → aP A C i = a + 1 → aP A C j = b + 1 → A (3 + (i * 3 + a % 3) * 7 + a / 3) = nI vi → A (3 + (j * 3 + b % 3) * 7 + b / 3) = nI vj → 0 < vi → vi < p → 0 < vj → vj < p → isinv p vj u → fX8_nextOf A what = some (if what = 0 then nI i else if what = 1 then nI j else if what = 2 then nI (md (-(vi : Int) * u) p) else nI (a / 3 - b / 3)) := by
  have hp0 : 0 < p := by omega
  have hw : ∀ i, aP A C i ≤ 24 := fun i => aP_le A C i
  have hpw : ∀ i, pw (aP A C i) ≤ 8 := fun i => by have := hw i; unfold pw; omega
  have hcp : ∀ i, cp (aP A C i) ≤ 3 := fun i => by unfold cp; split <;> omega
  obtain ⟨f1, f2⟩ := fp_loop (R := Int32) (n := n) (CS (aP A C)) (gi := fun i z => fX8_nextOf_s12 A what i z) (go := fun z => fX8_nextOf_s2 A what z)
    (fun i j hi hj hS => by
      unfold fX8_nextOf_s12
      rw [bd_t (X8rows b2), if_neg (nI_ge hj (by omega))]
      by_cases hij : i = j
      · rw [if_pos (by rw [hij]), bd_t rfl, if_pos rfl]
      rw [if_neg (fun e => hij ((nI_eq (by omega) (by omega)).mp e)), bd_t (X8degree b1 (by omega) hC)]
      by_cases hPi : aP A C i = 0
      · rw [hPi, if_pos (by decide), bd_t rfl, if_pos rfl]
      have hpi : pw (aP A C i) ≠ 0 := by unfold pw; omega
      rw [if_neg (fun e => hpi ((pv_lt0 (by have := hpw i; omega)).mp e)), bd_t (X8degree b1 (show j < 5 by omega) hC)]
      by_cases hPj : aP A C j = 0
      · rw [hPj, if_pos (by decide), bd_t rfl, if_pos rfl]
      have hpj : pw (aP A C j) ≠ 0 := by unfold pw; omega
      rw [if_neg (fun e => hpj ((pv_lt0 (by have := hpw j; omega)).mp e)), bd_t rfl, if_neg (by decide), bd_t (X8pivot b1 (show i < 5 by omega) hC), bd_t (X8pivot b1 (show j < 5 by omega) hC)]
      by_cases hc : cp (aP A C i) = cp (aP A C j)
      · rw [if_pos (by rw [hc]), bd_t (X8degree b1 (show j < 5 by omega) hC), bd_t (X8degree b1 (show i < 5 by omega) hC)]
        have hlt : pw (aP A C i) < pw (aP A C j) := by
          apply Classical.byContradiction
          intro h
          exact hS ((CS_iff hPi hPj hij).mpr ⟨hc, by omega⟩)
        rw [if_pos ((pv_ltq (by have := hpw i; omega) (by have := hpw j; omega)).mpr hlt)]
      · rw [if_neg (fun e => hc ((pv_eqq (by have := hcp i; omega) (by have := hcp j; omega)).mp e))])
    (fun i hi => by
      unfold fX8_nextOf_s12
      rw [bd_t (X8rows b2), if_pos (nI_le (Nat.le_refl _) (by omega))])
    (fun i hi => by
      unfold fX8_nextOf_s2
      rw [bd_t (X8rows b2), if_neg (nI_ge hi (by omega))])
    (by
      unfold fX8_nextOf_s2
      rw [bd_t (X8rows b2), if_pos (nI_le (Nat.le_refl _) (by omega))])
  constructor
  · intro hno
    unfold fX8_nextOf
    rw [show Lp (fun z => fX8_nextOf_s2 A what z) (0 : Int32) = some (.inl ()) from f1 hno]
    rfl
  · intro i j a b vi vj u hfp ha hb hvi hvj hvi0 hvip hvj0 hvjp hu
    have hfp2 := hfp
    obtain ⟨hi, hj, hS, -⟩ := hfp
    have hij := hS.1
    have hPi := hS.2.1
    have hPj := hS.2.2.1
    obtain ⟨hc, hd⟩ := (CS_iff hPi hPj hij).mp hS
    have hpi : pw (aP A C i) ≠ 0 := by unfold pw; omega
    have hpj : pw (aP A C j) ≠ 0 := by unfold pw; omega
    obtain ⟨u2, hu2, hue⟩ := X8inverse b0 hp hvj0 hvjp
    have eu := inv_uniq hp hu2 hu
    subst eu
    have li := (X8lead b1 (show i < 5 by omega) hC ha).trans (congrArg some hvi)
    have lj := (X8lead b1 (show j < 5 by omega) hC hb).trans (congrArg some hvj)
    have hu7 : u2 < 7 ∧ vi < 7 := by have := hu.2.1; omega
    have hmulb : vi * u2 ≤ 7 * 7 := Nat.mul_le_mul (by omega) (by omega)
    have hviI : (nI vi).toInt = (vi : Int) := nI_toInt (by omega)
    have huI : (nI u2).toInt = (u2 : Int) := nI_toInt (by omega)
    have hneg : (-nI vi).toInt = -(vi : Int) := by rw [i32_neg (by omega), hviI]
    have hprod : (-(vi : Int) * (u2 : Int)) = -((vi * u2 : Nat) : Int) := by rw [Int.neg_mul]; rfl
    have hmul : (-nI vi * nI u2).toInt = -(vi : Int) * (u2 : Int) := by
      rw [i32_mul] <;> rw [hneg, huI, hprod] <;> omega
    have hlft : fX8_left A (-nI vi * nI u2) = some (nI (md (-(vi : Int) * u2) p)) := (X8left_any b0 hp0 (by omega)).trans (by rw [hmul])
    have hsub : pv (pw (aP A C i)) - pv (pw (aP A C j)) = nI (a / 3 - b / 3) := by
      rw [ha, hb, pw_s, pw_s] at hd
      rw [ha, hb, pw_s, pw_s, pv_s, pv_s, pk_sub (by omega)]
    have hg : ∀ r, (if what = 0 then nI i else if what = 1 then nI j else if what = 2 then nI (md (-(vi : Int) * u2) p) else nI (a / 3 - b / 3)) = r → fX8_nextOf_s12 A what (nI i) (nI j) = some (.inr (.inr (.inr (.inr r)))) := by
      intro r hr
      unfold fX8_nextOf_s12
      rw [bd_t (X8rows b2), if_neg (nI_ge hj (by omega)), if_neg (fun e => hij ((nI_eq (by omega) (by omega)).mp e)), bd_t (X8degree b1 (show i < 5 by omega) hC), if_neg (fun e => hpi ((pv_lt0 (by have := hpw i; omega)).mp e)), bd_t (X8degree b1 (show j < 5 by omega) hC), if_neg (fun e => hpj ((pv_lt0 (by have := hpw j; omega)).mp e)), bd_t rfl, if_neg (by decide), bd_t (X8pivot b1 (show i < 5 by omega) hC), bd_t (X8pivot b1 (show j < 5 by omega) hC), if_pos (by rw [hc]), bd_t (X8degree b1 (show j < 5 by omega) hC), bd_t (X8degree b1 (show i < 5 by omega) hC)]
      rw [if_neg (fun e => absurd ((pv_ltq (by have := hpw i; omega) (by have := hpw j; omega)).mp e) (by omega)), bd_t li, bd_t lj, bd_t hue, bd_t hlft]
      by_cases w0 : what = 0
      · rw [if_pos w0] at hr ⊢
        rw [hr]
      rw [if_neg w0] at hr ⊢
      by_cases w1 : what = 1
      · rw [if_pos w1] at hr ⊢
        rw [hr]
      rw [if_neg w1] at hr ⊢
      by_cases w2 : what = 2
      · rw [if_pos w2] at hr ⊢
        rw [hr]
      rw [if_neg w2] at hr ⊢
      rw [bd_t (X8degree b1 (show i < 5 by omega) hC), bd_t (X8degree b1 (show j < 5 by omega) hC), hsub, hr]
    unfold fX8_nextOf
    rw [show Lp (fun z => fX8_nextOf_s2 A what z) (0 : Int32) = some (.inr _) from f2 i j hfp2 _ (hg _ rfl)]
    rfl
/-- the next step on both sides -/
theorem next_both {p C n : Nat} {nnum all places : Nat → Int32} {t0 s0 n0 p0 : Int32} (hp : p = 2 ∨ p = 3 ∨ p = 5 ∨ p = 7) (hC : C ≤ 3) (hn : n ≤ 5) (b0 : all 0 = nI p) (b1 : all 1 = nI C) (b2 : all 2 = nI n) (hcell : ∀ i, i < n → ∀ c, c < 3 → ∀ k, k < 7 → ∃ v : Nat, v < p ∧ nnum ((i * 3 + c) * 7 + k) = nI v ∧ all (3 + (i * 3 + c) * 7 + k) = nI v ∧ (C ≤ c → v = 0)) :
    (∃ pl, fX6_find t0 s0 n0 p0 places 105 (5 : Int32) (3 : Int32) (7 : Int32) (nI p) (nI C) (nI n) nnum = some (0, t0, s0, n0, p0, nI n, pl) ∧ ∀ w, fX8_nextOf all w = some (-1)) ∨
    ∃ (y0 y1 y2 y3 : Int32) (pl : Nat → Int32), fX6_find t0 s0 n0 p0 places 105 (5 : Int32) (3 : Int32) (7 : Int32) (nI p) (nI C) (nI n) nnum = some (1, y0, y1, y2, y3, nI n, pl) ∧ ∀ w, fX8_nextOf all w = some (if w = 0 then y0 else if w = 1 then y1 else if w = 2 then y2 else y3) := by
  obtain ⟨V, hV⟩ := stV (by omega) hcell
  have hP : ∀ i, i < n → rP nnum 3 7 C i = aP all C i := fun i hi => aP_rP hC (fun c k hc hk => (hV i c k hi hc hk).2.1.trans (hV i c k hi hc hk).2.2.1.symm)
  have hA : ∀ i c k, i < n → c < 3 → k < 7 → ∃ v : Nat, v < p ∧ all (3 + (i * 3 + c) * 7 + k) = nI v := fun i c k hi hc hk => ⟨_, (hV i c k hi hc hk).1, (hV i c k hi hc hk).2.2.1⟩
  rcases X6find (L := 105) (R := 5) (w := 3) (q := 7) (n := n) (C := C) (p := p) (num := nnum) (places := places) (t0 := t0) (s0 := s0) (n0 := n0) (p0 := p0) rfl (by omega) (by omega) (by omega) (by omega) hn hn hC (by omega) hp (fun i c k hi hc hk => ⟨_, (hV i c k hi hc hk).1, (hV i c k hi hc hk).2.1⟩) with ⟨pl, h1, h2⟩ | ⟨i, j, a, b, vi, vj, u, pl, hfp, ha, hb, hvi, hvj, hvi0, hvip, hvj0, hvjp, hu, h1⟩
  · exact Or.inl ⟨pl, h1, fun w => (X8nextOf (what := w) hp hC hn b0 b1 b2 hA).1 (fun i j hi hj h => h2 i j hi hj ((CS_congr hP hi hj).mpr h))⟩
  · refine Or.inr ⟨_, _, _, _, pl, h1, fun w => ?_⟩
    have hi := hfp.1
    have hj := hfp.2.1
    have hfp2 := FP_congr (fun x y hx hy => CS_congr hP hx hy) hfp
    rw [hP i hi] at ha
    rw [hP j hj] at hb
    have ea := (plc_spec _ _ _ _ ha).2.2.1.1
    have eb := (plc_spec _ _ _ _ hb).2.2.1.1
    unfold cel at hvi hvj
    rw [if_pos ea] at hvi
    rw [if_pos eb] at hvj
    have qi := hV i (a % 3) (a / 3) hi (by omega) ea
    have qj := hV j (b % 3) (b / 3) hj (by omega) eb
    exact (X8nextOf (what := w) hp hC hn b0 b1 b2 hA).2 i j a b vi vj u hfp2 ha hb (qi.2.2.1.trans (qi.2.1.symm.trans hvi)) (qj.2.2.1.trans (qj.2.1.symm.trans hvj)) hvi0 hvip hvj0 hvjp hu
