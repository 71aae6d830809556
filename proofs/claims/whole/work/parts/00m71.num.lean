/-! numbers, and loops that count -/
theorem nI_ng (n : Nat) (h : n < 2 ^ 31) : ¬ nI n < 0 := nI_pos h
theorem nI_nlt0 {a b : Nat} (h : b ≤ a) (ha : a < 2 ^ 31) : ¬ nI a < nI b := nI_nlt h ha
/-- the remainder as floorMod has it -/
def md (x : Int) (p : Nat) : Nat := (x % (p : Int)).toNat
theorem md_lt {x : Int} {p : Nat} (hp : 0 < p) : md x p < p := by
  have h1 := Int.emod_nonneg x (show (p : Int) ≠ 0 by omega)
  have h2 := Int.emod_lt_of_pos x (show (0 : Int) < p by omega)
  unfold md
  omega
theorem md_cast {x : Int} {p : Nat} (hp : 0 < p) : (md x p : Int) = x % p := by
  have h1 := Int.emod_nonneg x (show (p : Int) ≠ 0 by omega)
  unfold md
  omega
theorem md_small {n p : Nat} (h : n < p) : md n p = n := by
  have e : ((n : Int) % (p : Int)) = n := Int.emod_eq_of_lt (by omega) (by omega)
  unfold md
  rw [e]
  rfl
theorem md_nat (n p : Nat) : md n p = n % p := by
  unfold md
  rw [← Int.natCast_emod]
  rfl
theorem i32_eq {x y : Int32} (h : x.toInt = y.toInt) : x = y := Int32.toInt_inj.mp h
theorem i32_nI {x : Int32} {n : Nat} (hn : n < 2 ^ 31) (h : x.toInt = n) : x = nI n := i32_eq (by rw [h, nI_toInt hn])
/-- a small int, given by its value -/
theorem i32_add {x y : Int32} (h1 : -2147483648 ≤ x.toInt + y.toInt) (h2 : x.toInt + y.toInt < 2147483648) : (x + y).toInt = x.toInt + y.toInt := by
  rw [Int32.toInt_add, Int.bmod_def]
  omega
theorem i32_sub {x y : Int32} (h1 : -2147483648 ≤ x.toInt - y.toInt) (h2 : x.toInt - y.toInt < 2147483648) : (x - y).toInt = x.toInt - y.toInt := by
  rw [Int32.toInt_sub, Int.bmod_def]
  omega
theorem i32_mul {x y : Int32} (h1 : -2147483648 ≤ x.toInt * y.toInt) (h2 : x.toInt * y.toInt < 2147483648) : (x * y).toInt = x.toInt * y.toInt := by
  rw [Int32.toInt_mul, Int.bmod_def]
  generalize x.toInt * y.toInt = z at h1 h2
  omega
theorem i32_neg {x : Int32} (h1 : -2147483648 < x.toInt) : (-x).toInt = -x.toInt := by
  rw [Int32.toInt_neg, Int.bmod_def]
  have := x.toInt_lt
  omega
theorem i32_rem {x y : Int32} (hx : -1000000 ≤ x.toInt) (hx2 : x.toInt ≤ 1000000) (hy : 0 < y.toInt) : (rem32 x y).toInt = x.toInt.tmod y.toInt := by
  have hdiv : (x / y).toInt = x.toInt.tdiv y.toInt := by
    rw [Int32.toInt_div]
    have h1 : (x.toInt.tdiv y.toInt).natAbs ≤ x.toInt.natAbs := by
      rw [Int.natAbs_tdiv]
      exact Nat.div_le_self _ _
    rw [Int.bmod_def]
    omega
  have e := Int.mul_tdiv_add_tmod x.toInt y.toInt
  have hm : (x / y * y).toInt = x.toInt.tdiv y.toInt * y.toInt := by
    have b : (x.toInt.tmod y.toInt).natAbs ≤ x.toInt.natAbs := by
      rw [Int.natAbs_tmod]
      exact Nat.mod_le _ _
    have e2 : x.toInt.tdiv y.toInt * y.toInt = x.toInt - x.toInt.tmod y.toInt := by rw [Int.mul_comm]; omega
    rw [i32_mul] <;> rw [hdiv, e2] <;> omega
  unfold rem32
  have b : (x.toInt.tmod y.toInt).natAbs ≤ x.toInt.natAbs := by
    rw [Int.natAbs_tmod]
    exact Nat.mod_le _ _
  have e2 : x.toInt.tdiv y.toInt * y.toInt = x.toInt - x.toInt.tmod y.toInt := by rw [Int.mul_comm]; omega
  rw [i32_sub] <;> rw [hm, e2] <;> omega
/-- loops: an invariant, a measure that falls -/
theorem Lp_all {σ ρ : Type} {g : σ → Option (σ ⊕ ρ)} (I : σ → Prop) (μ : σ → Nat) (post : ρ → Prop) (hs : ∀ s, I s → (∃ t, g s = some (.inl t) ∧ I t ∧ μ t < μ s) ∨ ∃ r, g s = some (.inr r) ∧ post r) : ∀ s, I s → ∃ r, Lp g s = some r ∧ post r := by
  have key : ∀ (n : Nat) (s : σ), μ s < n → I s → ∃ r, Lp g s = some r ∧ post r := by
    intro n
    induction n with
    | zero => intro s h; exact absurd h (Nat.not_lt_zero _)
    | succ n ih =>
      intro s hn hI
      rcases hs s hI with ⟨t, h1, h2, h3⟩ | ⟨r, h1, h2⟩
      · obtain ⟨r, h4, h5⟩ := ih t (by omega) h2
        exact ⟨r, (Lp_go h1).trans h4, h5⟩
      · exact ⟨r, Lp_end h1, h2⟩
  exact fun s hI => key (μ s + 1) s (Nat.lt_succ_self _) hI
/-- up from j to N, by one, with a state t; E puts counter and state together -/
theorem Lp_up {σ τ ρ : Type} (E : Int32 → τ → σ) {g : σ → Option (σ ⊕ ρ)} (N : Nat) (I : Nat → τ → Prop) (post : ρ → Prop) (hs : ∀ j s, j < N → I j s → (∃ t, g (E (nI j) s) = some (.inl (E (nI j + 1) t)) ∧ I (j + 1) t) ∨ ∃ r, g (E (nI j) s) = some (.inr r) ∧ post r) (he : ∀ s, I N s → ∃ r, g (E (nI N) s) = some (.inr r) ∧ post r) : ∀ (j : Nat) (s : τ), j ≤ N → I j s → ∃ r, Lp g (E (nI j) s) = some r ∧ post r := by
  have key : ∀ (d j : Nat) (s : τ), j + d = N → I j s → ∃ r, Lp g (E (nI j) s) = some r ∧ post r := by
    intro d
    induction d with
    | zero =>
      intro j s hj hI
      have hj : j = N := hj
      subst hj
      obtain ⟨r, h1, h2⟩ := he s hI
      exact ⟨r, Lp_end h1, h2⟩
    | succ d ih =>
      intro j s hj hI
      rcases hs j s (by omega) hI with ⟨t, h1, h2⟩ | ⟨r, h1, h2⟩
      · obtain ⟨r, h4, h5⟩ := ih (j + 1) t (by omega) h2
        rw [nI_1] at h1
        exact ⟨r, (Lp_go h1).trans h4, h5⟩
      · exact ⟨r, Lp_end h1, h2⟩
  exact fun j s hj hI => key (N - j) j s (by omega) hI
/-- down from n - 1 to 0; it ends at -1 -/
theorem Lp_dn {σ τ ρ : Type} (E : Int32 → τ → σ) {g : σ → Option (σ ⊕ ρ)} (I : Nat → τ → Prop) (post : ρ → Prop) (N : Nat) (hs : ∀ j s, j < N → I (j + 1) s → (∃ t, g (E (nI j) s) = some (.inl (E (nI j + (-1)) t)) ∧ I j t) ∨ ∃ r, g (E (nI j) s) = some (.inr r) ∧ post r) (he : ∀ s, I 0 s → ∃ r, g (E (-1) s) = some (.inr r) ∧ post r) : ∀ (n : Nat) (s : τ), n ≤ N → I n s → ∃ r, Lp g (E (nI n + (-1)) s) = some r ∧ post r := by
  intro n
  induction n with
  | zero =>
    intro s _ hI
    obtain ⟨r, h1, h2⟩ := he s hI
    exact ⟨r, Lp_end h1, h2⟩
  | succ n ih =>
    intro s hn hI
    rw [pk_m1]
    rcases hs n s (by omega) hI with ⟨t, h1, h2⟩ | ⟨r, h1, h2⟩
    · obtain ⟨r, h4, h5⟩ := ih t (by omega) h2
      exact ⟨r, (Lp_go h1).trans h4, h5⟩
    · exact ⟨r, Lp_end h1, h2⟩
/-- what floorMod answers -/
theorem fm_at {x : Int32} {p : Nat} (hp : 0 < p) (hp2 : p < 1000) (hx : -1000000 ≤ x.toInt) (hx2 : x.toInt ≤ 1000000) : fX7_modulo x (nI p) = some (nI (md x.toInt p)) := by
  have hpI : (nI p).toInt = (p : Int) := nI_toInt (by omega)
  have hp0 : ¬ nI p = 0 := nI_ne0 hp (by omega)
  have hr := i32_rem (x := x) (y := nI p) hx hx2 (by rw [hpI]; omega)
  rw [hpI] at hr
  have hmd := md_lt (x := x.toInt) hp
  have hmc := md_cast (x := x.toInt) hp
  unfold fX7_modulo
  rw [if_neg hp0]
  unfold fJ9_floorMod_7cf53
  rw [gd_t hp0]
  have hx0 : (0 ≤ (x ^^^ nI p)) ↔ 0 ≤ x.toInt := by
    rw [Int32.le_iff_toInt_le]
    have hz : (0 : Int32).toInt = 0 := rfl
    rw [hz]
    have e1 : (x ^^^ nI p).toBitVec = x.toBitVec ^^^ (nI p).toBitVec := rfl
    have e2 : (nI p).toBitVec.msb = false := by
      rw [BitVec.msb_eq_false_iff_two_mul_lt]
      have : (nI p).toBitVec.toNat = p := pk_tn (by omega)
      rw [this]
      omega
    have e3 : ∀ y : Int32, 0 ≤ y.toInt ↔ y.toBitVec.msb = false := by
      intro y
      show 0 ≤ y.toBitVec.toInt ↔ _
      rw [BitVec.toInt_eq_msb_cond]
      cases y.toBitVec.msb
      · simp
      · simp only [Bool.true_eq_false, if_true, iff_false]
        have := y.toBitVec.isLt
        omega
    rw [e3, e3, e1, BitVec.msb_xor, e2]
    simp
  by_cases hs : 0 ≤ x.toInt
  · rw [if_pos (hx0.mpr hs), bd_t rfl]
    refine congrArg some (i32_nI (by omega) ?_)
    rw [hr, hmc, Int.tmod_eq_emod_of_nonneg hs]
  · rw [if_neg (fun h => hs (hx0.mp h))]
    have ht := Int.tmod_eq_emod (a := x.toInt) (b := (p : Int))
    by_cases h0 : rem32 x (nI p) = 0
    · rw [if_pos h0, bd_t rfl]
      have e0 : (rem32 x (nI p)).toInt = 0 := by rw [h0]; rfl
      rw [hr] at e0
      refine congrArg some (i32_nI (by omega) ?_)
      rw [h0, hmc]
      have := Int.dvd_of_tmod_eq_zero e0
      have := Int.emod_eq_zero_of_dvd this
      rw [this]
      rfl
    · rw [if_neg h0, bd_t rfl]
      have e0 : ¬ x.toInt.tmod p = 0 := by
        intro h
        apply h0
        apply i32_eq
        rw [hr, h]
        rfl
      have hlt : (x.toInt.tmod p).natAbs < p := by
        rw [Int.natAbs_tmod]
        exact Nat.mod_lt _ (by simpa using hp)
      refine congrArg some (i32_nI (by omega) ?_)
      rw [i32_add] <;> rw [hr, hpI]
      · rw [hmc]
        have hne : ¬ (p : Int) ∣ x.toInt := fun h => e0 (Int.tmod_eq_zero_of_dvd h)
        have h5 : ¬ (0 ≤ x.toInt ∨ (p : Int) ∣ x.toInt) := fun h => h.elim hs hne
        rw [if_neg h5] at ht
        have h6 : ((p : Int).natAbs : Int) = p := by omega
        omega
      · omega
      · omega
