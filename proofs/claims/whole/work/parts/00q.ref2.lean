/-! the reference's changes, by coordinates -/
/-- a loop that writes one place a turn -/
theorem Lp_arr {g : Int32 × (Nat → Int32) → Option ((Int32 × (Nat → Int32)) ⊕ (Nat → Int32))} {a N : Nat} {A : Nat → Int32} (ix : Nat → Nat) (val : Nat → Int32) (haN : a ≤ N) (hinj : ∀ i j, a ≤ i → i < j → j < N → ix i ≠ ix j) (hs : ∀ k s, a ≤ k → k < N → (∀ m, (∀ j, a ≤ j → j < k → m ≠ ix j) → s m = A m) → g (nI k, s) = some (.inl (nI k + 1, upd s (ix k) (val k)))) (he : ∀ s, (∀ m, (∀ j, a ≤ j → j < N → m ≠ ix j) → s m = A m) → g (nI N, s) = some (.inr s)) : ∃ r, Lp g (nI a, A) = some r ∧ (∀ k, a ≤ k → k < N → r (ix k) = val k) ∧ ∀ m, (∀ j, a ≤ j → j < N → m ≠ ix j) → r m = A m := by
  refine Lp_up (fun i s => (i, s)) N (fun j s => a ≤ j ∧ (∀ k, a ≤ k → k < j → s (ix k) = val k) ∧ ∀ m, (∀ i, a ≤ i → i < j → m ≠ ix i) → s m = A m) (fun (r : Nat → Int32) => (∀ k, a ≤ k → k < N → r (ix k) = val k) ∧ ∀ m, (∀ j, a ≤ j → j < N → m ≠ ix j) → r m = A m) ?_ ?_ a A haN ⟨Nat.le_refl _, fun k h1 h2 => absurd h2 (by omega), fun _ _ => rfl⟩
  · rintro j s hj ⟨h1, h2, h3⟩
    refine Or.inl ⟨_, hs j s h1 hj h3, by omega, fun k hk1 hk2 => ?_, fun m hm => ?_⟩
    · by_cases e : k = j
      · rw [e]; exact pk_us
      · rw [pk_un (hinj k j hk1 (by omega) hj)]
        exact h2 k hk1 (by omega)
    · rw [pk_un (hm j h1 (by omega))]
      exact h3 m (fun i hi1 hi2 => hm i hi1 (by omega))
  · rintro s ⟨h1, h2, h3⟩
    exact ⟨s, he s h3, h2, h3⟩
theorem X8left {all : Nat → Int32} {x : Int32} {p : Nat} (h : all 0 = nI p) (hp : 0 < p) (hp2 : p < 1000) (hx : -1000000 ≤ x.toInt) (hx2 : x.toInt ≤ 1000000) : fX8_left all x = some (nI (md x.toInt p)) := by
  have hpI : (nI p).toInt = (p : Int) := nI_toInt (by omega)
  have hp0 : ¬ nI p = 0 := nI_ne0 hp (by omega)
  have hr := i32_rem (x := x) (y := nI p) hx hx2 (by rw [hpI]; omega)
  rw [hpI] at hr
  have hmd := md_lt (x := x.toInt) hp
  have hmc := md_cast (x := x.toInt) hp
  have ht := Int.tmod_eq_emod (a := x.toInt) (b := (p : Int))
  have hlt : (x.toInt.tmod p).natAbs < p := by
    rw [Int.natAbs_tmod]
    exact Nat.mod_lt _ (by simpa using hp)
  have h6 : ((p : Int).natAbs : Int) = p := by omega
  unfold fX8_left
  rw [bd_t (X8modulus h), gd_t hp0]
  by_cases hs : 0 ≤ rem32 x (nI p)
  · rw [if_pos hs]
    have hs2 : 0 ≤ x.toInt.tmod p := by
      rw [Int32.le_iff_toInt_le] at hs
      rw [← hr]
      exact hs
    refine congrArg some (i32_nI (by omega) ?_)
    rw [hr, hmc]
    by_cases h5 : 0 ≤ x.toInt ∨ (p : Int) ∣ x.toInt
    · rw [if_pos h5] at ht; omega
    · rw [if_neg h5] at ht
      have := Int.emod_lt_of_pos x.toInt (show (0 : Int) < p by omega)
      omega
  · rw [if_neg hs, bd_t (X8modulus h)]
    have hs2 : ¬ 0 ≤ x.toInt.tmod p := by
      rw [Int32.le_iff_toInt_le] at hs
      rw [← hr]
      exact hs
    refine congrArg some (i32_nI (by omega) ?_)
    rw [i32_add] <;> rw [hr, hpI]
    · rw [hmc]
      by_cases h5 : 0 ≤ x.toInt ∨ (p : Int) ∣ x.toInt
      · rw [if_pos h5] at ht
        have := Int.emod_nonneg x.toInt (show (p : Int) ≠ 0 by omega)
        omega
      · rw [if_neg h5] at ht; omega
    · omega
    · omega
theorem X8clears (A : Nat → Int32) : ∃ A2, fX8_clears A = some A2 ∧ (∀ k, 2 ≤ k → k < 108 → A2 k = 0) ∧ ∀ k, k < 2 → A2 k = A k := by
  obtain ⟨r, h1, h2, h3⟩ := Lp_arr (g := fun (z : Int32 × (Nat → Int32)) => fX8_clears_s2 z.1 z.2) (a := 2) (N := 108) (A := A) (fun k => k) (fun _ => 0) (by omega) (fun i j _ h _ => by omega) (fun k s hk1 hk2 _ => by
      dsimp only
      unfold fX8_clears_s2
      rw [if_neg (show ¬ (108 : Int32) ≤ nI k from (nI_ge hk2 (by omega) : ¬ nI 108 ≤ nI k)), gd_t (vp_in_nI hk2 (by omega)), nI_clamp (by omega)]) (fun s _ => by
      dsimp only
      unfold fX8_clears_s2
      rw [if_pos (show (108 : Int32) ≤ nI 108 from nI_le (Nat.le_refl 108) (by omega))])
  refine ⟨r, ?_, h2, fun k hk => h3 k (fun j hj1 hj2 => by omega)⟩
  unfold fX8_clears
  exact bd_t h1
theorem X8primeNow {all : Nat → Int32} {x : Int32} (h : all 0 = x) (a : Int32) : ∃ A, fX8_primeNow all a = some (x, A) ∧ A 0 = a ∧ A 1 = all 1 ∧ A 2 = 0 := by
  obtain ⟨A, h1, h2, h3⟩ := X8clears (upd all 0 a)
  refine ⟨A, ?_, (h3 0 (by omega)).trans pk_us, (h3 1 (by omega)).trans (pk_un (by omega)), h2 2 (by omega) (by omega)⟩
  unfold fX8_primeNow
  rw [bd_t (X8modulus h), gd_t (vi0 (by omega) (by omega))]
  exact bd_t h1
theorem X8columnsNow {all : Nat → Int32} {x : Int32} (h : all 1 = x) (a : Int32) : ∃ A, fX8_columnsNow all a = some (x, A) ∧ A 0 = all 0 ∧ A 1 = a ∧ A 2 = 0 := by
  obtain ⟨A, h1, h2, h3⟩ := X8clears (upd all 1 a)
  refine ⟨A, ?_, (h3 0 (by omega)).trans (pk_un (by omega)), (h3 1 (by omega)).trans pk_us, h2 2 (by omega) (by omega)⟩
  unfold fX8_columnsNow
  rw [bd_t (X8width h), gd_t (vi1 (by omega) (by omega))]
  exact bd_t h1
theorem X8rowNow {all : Nat → Int32} {n : Nat} (h : all 2 = nI n) (hn : n < 5) : ∃ A, fX8_rowNow all = some (nI n, A) ∧ A 2 = nI (n + 1) ∧ (∀ k, k < 21 → A (3 + n * 21 + k) = 0) ∧ ∀ m, m ≠ 2 → (m < 3 + n * 21 ∨ 3 + n * 21 + 21 ≤ m) → A m = all m := by
  obtain ⟨r, h1, h2, h3⟩ := Lp_arr (g := fun (z : Int32 × (Nat → Int32)) => fX8_rowNow_s7 (nI n) z.1 z.2) (a := 0) (N := 21) (A := all) (fun k => 3 + n * 21 + k) (fun _ => 0) (by omega) (fun i j _ h _ => by omega) (fun k s hk1 hk2 _ => by
      dsimp only
      unfold fX8_rowNow_s7
      rw [if_neg (show ¬ (21 : Int32) ≤ nI k from (nI_ge hk2 (by omega) : ¬ nI 21 ≤ nI k)), show fX8_place (nI n) (0 : Int32) (nI k) = nI (3 + (n * 3 + 0) * 7 + k) from X8place n 0 k, gd_t (vp_in_nI (by omega) (by omega)), nI_clamp (by omega), show 3 + (n * 3 + 0) * 7 + k = 3 + n * 21 + k by omega]) (fun s _ => by
      dsimp only
      unfold fX8_rowNow_s7
      rw [if_pos (show (21 : Int32) ≤ nI 21 from nI_le (Nat.le_refl 21) (by omega))])
  have hr2 : r 2 = nI n := (h3 2 (fun j _ _ => by omega)).trans h
  refine ⟨upd r 2 (r 2 + 1), ?_, ?_, fun k hk => ?_, fun m hm1 hm2 => ?_⟩
  · unfold fX8_rowNow
    rw [bd_t (X8rows h)]
    refine (bd_t h1).trans ?_
    rw [gd_t (vi2 (by omega) (by omega)), gd_t (vi2 (by omega) (by omega))]
    rfl
  · rw [pk_us, hr2, nI_1]
  · rw [pk_un (by omega)]
    exact h2 k (by omega) hk
  · rw [pk_un hm1]
    exact h3 m (fun j _ _ => by omega)
theorem X8dropNow {all : Nat → Int32} {n i : Nat} (h : all 2 = nI n) (hn : n ≤ 5) (hi : i < n) : ∃ A, fX8_dropNow all (nI i) = some (nI (n - 1), A) ∧ A 2 = nI (n - 1) ∧ (∀ m, 3 + i * 21 ≤ m → m < 3 + (n - 1) * 21 → A m = all (m + 21)) ∧ ∀ m, m ≠ 2 → (m < 3 + i * 21 ∨ 3 + (n - 1) * 21 ≤ m) → A m = all m := by
  have e0 : upd all 2 (all 2 - 1) 2 = nI (n - 1) := by rw [pk_us, h]; exact pk_sub (b := 1) (by omega)
  obtain ⟨r, h1, h2, h3⟩ := Lp_arr (g := fun (z : Int32 × (Nat → Int32)) => fX8_dropNow_s17 z.1 z.2) (a := 3 + i * 21) (N := 3 + (n - 1) * 21) (A := upd all 2 (all 2 - 1)) (fun k => k) (fun k => all (k + 21)) (by omega) (fun i j _ h _ => by omega) (fun k s hk1 hk2 hs => by
      dsimp only
      have s2 : s 2 = nI (n - 1) := (hs 2 (fun j _ _ => by omega)).trans e0
      have s21 : s (k + 21) = all (k + 21) := (hs (k + 21) (fun j _ _ => by omega)).trans (pk_un (by omega))
      unfold fX8_dropNow_s17
      rw [bd_t (X8rows s2), show fX8_place (nI (n - 1)) (0 : Int32) (0 : Int32) = nI (3 + ((n - 1) * 3 + 0) * 7 + 0) from X8place (n - 1) 0 0, if_neg (nI_ge (by omega) (by omega)), show nI k + (21 : Int32) = nI (k + 21) from nI_add k 21, gd_t (vp_in_nI (by omega) (by omega)), gd_t (vp_in_nI (by omega) (by omega)), nI_clamp (by omega), nI_clamp (by omega), s21]) (fun s hs => by
      dsimp only
      have s2 : s 2 = nI (n - 1) := (hs 2 (fun j _ _ => by omega)).trans e0
      unfold fX8_dropNow_s17
      rw [bd_t (X8rows s2), show fX8_place (nI (n - 1)) (0 : Int32) (0 : Int32) = nI (3 + ((n - 1) * 3 + 0) * 7 + 0) from X8place (n - 1) 0 0, if_pos (nI_le (by omega) (by omega))])
  have r2 : r 2 = nI (n - 1) := (h3 2 (fun j _ _ => by omega)).trans e0
  refine ⟨r, ?_, r2, fun m hm1 hm2 => h2 m hm1 hm2, fun m hm1 hm2 => (h3 m (fun j _ _ => by omega)).trans (pk_un hm1)⟩
  unfold fX8_dropNow
  rw [gd_t (vi2 (by omega) (by omega)), gd_t (vi2 (by omega) (by omega)), show fX8_place (nI i) (0 : Int32) (0 : Int32) = nI (3 + i * 21) from (X8place i 0 0).trans (by rw [show 3 + (i * 3 + 0) * 7 + 0 = 3 + i * 21 by omega])]
  refine (bd_t h1).trans ?_
  rw [bd_t (X8rows r2)]
theorem X3remove105 {m i : Nat} {num : Nat → Int32} (hm : m ≤ 5) (hi : i < m) : ∃ num', fX3_remove 105 (3 : Int32) (7 : Int32) (nI m) num (nI i) = some (nI (m - 1), num') ∧ ∀ k, k < (m - 1) * 21 → num' k = num (if k < i * 21 then k else k + 21) := by
  refine ⟨va_cpy num num ((i + 1) * 21) (i * 21) ((m - 1 - i) * 21), ?_, ?_⟩
  · have e1 : ((nI i + (1 : Int32)) * ((3 : Int32) * (7 : Int32))) = nI ((i + 1) * 21) := by rw [show ((3 : Int32) * (7 : Int32)) = nI 21 from rfl, nI_1, pk_mul]
    have e2 : (nI i * ((3 : Int32) * (7 : Int32))) = nI (i * 21) := by rw [show ((3 : Int32) * (7 : Int32)) = nI 21 from rfl, pk_mul]
    have e0 : (nI m - (1 : Int32)) = nI (m - 1) := pk_sub (b := 1) (by omega)
    have e3 : (((nI m - (1 : Int32)) - nI i) * ((3 : Int32) * (7 : Int32))) = nI ((m - 1 - i) * 21) := by rw [e0, pk_sub (by omega), show ((3 : Int32) * (7 : Int32)) = nI 21 from rfl, pk_mul]
    have hr : fX3_hasRow (nI m) (nI i) = 1 := by
      unfold fX3_hasRow
      rw [if_neg (nI_pos (by omega)), if_neg (nI_ge hi (by omega))]
    unfold fX3_remove
    rw [hr, if_neg (by decide), e1, e2, e3, e0, gd_t (nI_pos (by omega)), gd_t (nI_pos (by omega)), gd_t (nI_pos (by omega)), nI_clamp (by omega), nI_clamp (by omega), nI_clamp (by omega), gd_t (by omega), gd_t (by omega)]
  · intro k hk
    by_cases h : k < i * 21
    · rw [if_pos h, pk_cpy_out (by omega)]
    · rw [if_neg h, pk_cpy_in (by omega) (by omega)]
      congr 1
      omega
theorem wi_of2 {lo hi : Nat} {a : Int32} (hn : hi ≤ 1000) (hl : lo ≤ 1000) (h : ¬ fX7_isWithin a (nI lo) (nI hi) = 0) : ∃ i, lo ≤ i ∧ i ≤ hi ∧ a = nI i := by
  unfold fX7_isWithin at h
  by_cases h0 : a < nI lo
  · rw [if_pos h0] at h; exact absurd rfl h
  · rw [if_neg h0] at h
    by_cases h1 : nI hi < a
    · rw [if_pos h1] at h; exact absurd rfl h
    · rw [Int32.lt_iff_toInt_lt, nI_toInt (by omega)] at h0
      rw [Int32.lt_iff_toInt_lt, nI_toInt (by omega)] at h1
      exact ⟨a.toInt.toNat, by omega, by omega, i32_nI (by omega) (by omega)⟩
theorem hasRow1 {n i : Nat} (hi : i < n) (hn : n ≤ 100) : fX3_hasRow (nI n) (nI i) = 1 := by
  unfold fX3_hasRow
  rw [if_neg (nI_pos (by omega)), if_neg (nI_ge hi (by omega))]
/-- any int modulo p: both sides -/
theorem rem_big {x : Int32} {p : Nat} (hp : 0 < p) (hp2 : p < 1000) : (rem32 x (nI p)).toInt = x.toInt.tmod p := by
  have hpI : (nI p).toInt = (p : Int) := nI_toInt (by omega)
  have hx1 := x.le_toInt
  have hx2 := x.toInt_lt
  have hdiv : (x / nI p).toInt = x.toInt.tdiv p := by
    rw [Int32.toInt_div, hpI]
    by_cases h1 : p = 1
    · subst h1
      rw [show ((1 : Nat) : Int) = 1 from rfl, Int.tdiv_one, Int.bmod_def]
      omega
    · have h1 : (x.toInt.tdiv p).natAbs ≤ x.toInt.natAbs := by
        rw [Int.natAbs_tdiv]
        exact Nat.div_le_self _ _
      have h2 : 2 * (x.toInt.tdiv p).natAbs ≤ x.toInt.natAbs := by
        rw [Int.natAbs_tdiv, show ((p : Int)).natAbs = p by omega]
        show 2 * (x.toInt.natAbs / p) ≤ x.toInt.natAbs
        have := Nat.div_mul_le_self x.toInt.natAbs p
        have h3 := Nat.mul_le_mul_left (x.toInt.natAbs / p) (show 2 ≤ p by omega)
        omega
      rw [Int.bmod_def]
      omega
  have e := Int.mul_tdiv_add_tmod x.toInt p
  have b : (x.toInt.tmod p).natAbs < p := by
    rw [Int.natAbs_tmod]
    exact Nat.mod_lt _ (by simpa using hp)
  have b2 : (x.toInt.tmod p).natAbs ≤ x.toInt.natAbs := by
    rw [Int.natAbs_tmod]
    exact Nat.mod_le _ _
  have bs : 0 ≤ x.toInt → 0 ≤ x.toInt.tmod p := fun h => Int.tmod_nonneg _ h
  have bs2 : x.toInt ≤ 0 → x.toInt.tmod p ≤ 0 := fun h => by
    have := Int.tmod_nonneg (a := -x.toInt) p (by omega)
    rw [Int.neg_tmod] at this
    omega
  have e2 : x.toInt.tdiv p * p = x.toInt - x.toInt.tmod p := by rw [Int.mul_comm]; omega
  have hm : (x / nI p * nI p).toInt = x.toInt.tdiv p * p := by
    rw [i32_mul] <;> rw [hdiv, hpI, e2] <;> omega
  unfold rem32
  rw [i32_sub] <;> rw [hm, e2] <;> omega
theorem fm_any {x : Int32} {p : Nat} (hp : 0 < p) (hp2 : p < 1000) : fX7_modulo x (nI p) = some (nI (md x.toInt p)) := by
  have hpI : (nI p).toInt = (p : Int) := nI_toInt (by omega)
  have hp0 : ¬ nI p = 0 := nI_ne0 hp (by omega)
  have hr := rem_big (x := x) hp hp2
  have hmd := md_lt (x := x.toInt) hp
  have hmc := md_cast (x := x.toInt) hp
  unfold fX7_modulo
  rw [if_neg hp0]
  unfold fJ9_floorMod_7cf53
  rw [gd_t hp0]
  have hx0 : (0 ≤ (x ^^^ nI p)) ↔ 0 ≤ x.toInt := by
    rw [Int32.le_iff_toInt_le]
    have hz : (0 : Int32).toInt = 0 := rfl
    rw [hz]
    have e1 : (x ^^^ nI p).toBitVec = x.toBitVec ^^^ (nI p).toBitVec := rfl
    have e2 : (nI p).toBitVec.msb = false := by
      rw [BitVec.msb_eq_false_iff_two_mul_lt]
      have : (nI p).toBitVec.toNat = p := pk_tn (by omega)
      rw [this]
      omega
    have e3 : ∀ y : Int32, 0 ≤ y.toInt ↔ y.toBitVec.msb = false := by
      intro y
      show 0 ≤ y.toBitVec.toInt ↔ _
      rw [BitVec.toInt_eq_msb_cond]
      cases y.toBitVec.msb
      · simp
      · simp only [Bool.true_eq_false, if_true, iff_false]
        have := y.toBitVec.isLt
        omega
    rw [e3, e3, e1, BitVec.msb_xor, e2]
    simp
  by_cases hs : 0 ≤ x.toInt
  · rw [if_pos (hx0.mpr hs), bd_t rfl]
    refine congrArg some (i32_nI (by omega) ?_)
    rw [hr, hmc, Int.tmod_eq_emod_of_nonneg hs]
  · rw [if_neg (fun h => hs (hx0.mp h))]
    have ht := Int.tmod_eq_emod (a := x.toInt) (b := (p : Int))
    by_cases h0 : rem32 x (nI p) = 0
    · rw [if_pos h0, bd_t rfl]
      have e0 : (rem32 x (nI p)).toInt = 0 := by rw [h0]; rfl
      rw [hr] at e0
      refine congrArg some (i32_nI (by omega) ?_)
      rw [h0, hmc]
      have := Int.dvd_of_tmod_eq_zero e0
      have := Int.emod_eq_zero_of_dvd this
      rw [this]
      rfl
    · rw [if_neg h0, bd_t rfl]
      have e0 : ¬ x.toInt.tmod p = 0 := by
        intro h
        apply h0
        apply i32_eq
        rw [hr, h]
        rfl
      have hlt : (x.toInt.tmod p).natAbs < p := by
        rw [Int.natAbs_tmod]
        exact Nat.mod_lt _ (by simpa using hp)
      refine congrArg some (i32_nI (by omega) ?_)
      rw [i32_add] <;> rw [hr, hpI]
      · rw [hmc]
        have hne : ¬ (p : Int) ∣ x.toInt := fun h => e0 (Int.tmod_eq_zero_of_dvd h)
        have h5 : ¬ (0 ≤ x.toInt ∨ (p : Int) ∣ x.toInt) := fun h => h.elim hs hne
        rw [if_neg h5] at ht
        have h6 : ((p : Int).natAbs : Int) = p := by omega
        omega
      · omega
      · omega
theorem X8left_any {all : Nat → Int32} {x : Int32} {p : Nat} (h : all 0 = nI p) (hp : 0 < p) (hp2 : p < 1000) : fX8_left all x = some (nI (md x.toInt p)) := by
  have hpI : (nI p).toInt = (p : Int) := nI_toInt (by omega)
  have hp0 : ¬ nI p = 0 := nI_ne0 hp (by omega)
  have hr := rem_big (x := x) hp hp2
  have hmd := md_lt (x := x.toInt) hp
  have hmc := md_cast (x := x.toInt) hp
  have ht := Int.tmod_eq_emod (a := x.toInt) (b := (p : Int))
  have hlt : (x.toInt.tmod p).natAbs < p := by
    rw [Int.natAbs_tmod]
    exact Nat.mod_lt _ (by simpa using hp)
  have h6 : ((p : Int).natAbs : Int) = p := by omega
  unfold fX8_left
  rw [bd_t (X8modulus h), gd_t hp0]
  by_cases hs : 0 ≤ rem32 x (nI p)
  · rw [if_pos hs]
    have hs2 : 0 ≤ x.toInt.tmod p := by
      rw [Int32.le_iff_toInt_le] at hs
      rw [← hr]
      exact hs
    refine congrArg some (i32_nI (by omega) ?_)
    rw [hr, hmc]
    by_cases h5 : 0 ≤ x.toInt ∨ (p : Int) ∣ x.toInt
    · rw [if_pos h5] at ht; omega
    · rw [if_neg h5] at ht
      have := Int.emod_lt_of_pos x.toInt (show (0 : Int) < p by omega)
      omega
  · rw [if_neg hs, bd_t (X8modulus h)]
    have hs2 : ¬ 0 ≤ x.toInt.tmod p := by
      rw [Int32.le_iff_toInt_le] at hs
      rw [← hr]
      exact hs
    refine congrArg some (i32_nI (by omega) ?_)
    rw [i32_add] <;> rw [hr, hpI]
    · rw [hmc]
      by_cases h5 : 0 ≤ x.toInt ∨ (p : Int) ∣ x.toInt
      · rw [if_pos h5] at ht
        have := Int.emod_nonneg x.toInt (show (p : Int) ≠ 0 by omega)
        omega
      · rw [if_neg h5] at ht; omega
    · omega
    · omega
theorem big_mod (x : Int32) {p : Nat} (hp : 0 < p) (hp2 : p < 1000) : ∃ u : Nat, u < p ∧ fX7_modulo x (nI p) = some (nI u) ∧ ∀ {all : Nat → Int32}, all 0 = nI p → fX8_left all x = some (nI u) := ⟨md x.toInt p, md_lt hp, fm_any hp hp2, fun h => X8left_any h hp hp2⟩
