/-! the states kept -/
theorem copy105 (num q : Nat → Int32) (pp c n : Int32) : ∃ num', fX3_copyFrom 105 num 105 pp c n q = some (pp, c, n, num') ∧ ∀ k, k < 105 → num' k = q k := by
  unfold fX3_copyFrom
  rw [show min32 (Int32.ofNat 105) (Int32.ofNat 105) = nI 105 from by decide, show (0 : Int32).toNatClampNeg = 0 from rfl, show (nI 105).toNatClampNeg = 105 from nI_clamp (by omega)]
  rw [gd_t (by decide), gd_t (by decide), gd_t (nI_pos (by omega)), gd_t (by omega), gd_t (by omega)]
  refine ⟨_, rfl, fun k hk => ?_⟩
  show (if 0 ≤ k ∧ k < 0 + 105 then q (0 + (k - 0)) else num k) = q k
  rw [if_pos (by omega), Nat.zero_add, Nat.sub_zero]
theorem stRel_cong {pp c n : Int32} {num num' A A' : Nat → Int32} (h : stRel pp c n num A) (h1 : ∀ k, k < 105 → num' k = num k) (h2 : ∀ k, k < 108 → A' k = A k) : stRel pp c n num' A' := by
  obtain ⟨p, C, m, hp, hC1, hC, hm, e1, e2, e3, b0, b1, b2, hcell⟩ := h
  refine ⟨p, C, m, hp, hC1, hC, hm, e1, e2, e3, (h2 0 (by omega)).trans b0, (h2 1 (by omega)).trans b1, (h2 2 (by omega)).trans b2, fun i hi c hc k hk => ?_⟩
  obtain ⟨v, v0, v1, v2, v3⟩ := hcell i hi c hc k hk
  exact ⟨v, v0, (h1 _ (by omega)).trans v1, (h2 _ (by omega)).trans v2, v3⟩
theorem keep_s10 {past : Nat → Int32} : ∃ r, Lp (fun (z : Int32 × (Nat → Int32)) => fX8_keep_s10 z.1 z.2) ((0 : Int32), past) = some r ∧ ∀ k, k < 432 → r k = past (k + 108) := by
  refine Lp_up (E := fun (j : Int32) (s : Nat → Int32) => (j, s)) (g := fun (z : Int32 × (Nat → Int32)) => fX8_keep_s10 z.1 z.2) 432 (fun j s => (∀ k, k < j → s k = past (k + 108)) ∧ ∀ k, j ≤ k → s k = past k) (fun r => ∀ k, k < 432 → r k = past (k + 108)) ?_ ?_ 0 past (by omega) ⟨fun k hk => absurd hk (by omega), fun k _ => rfl⟩
  · intro j s hj hI
    left
    dsimp only
    unfold fX8_keep_s10
    rw [if_neg (show ¬ (432 : Int32) ≤ nI j from (nI_ge hj (by omega) : ¬ nI 432 ≤ nI j)), show nI j + (108 : Int32) = nI (j + 108) from nI_add j 108, gd_t (vp_in_nI (by omega) (by omega)), gd_t (vp_in_nI (by omega) (by omega)), nI_clamp (by omega), nI_clamp (by omega)]
    refine ⟨_, rfl, fun k hk => ?_, fun k hk => ?_⟩
    · show (if k = j then s (j + 108) else s k) = past (k + 108)
      by_cases e : k = j
      · rw [if_pos e, e, hI.2 (j + 108) (by omega)]
      · rw [if_neg e, hI.1 k (by omega)]
    · show (if k = j then s (j + 108) else s k) = past k
      rw [if_neg (by omega), hI.2 k (by omega)]
  · intro s hI
    dsimp only
    unfold fX8_keep_s10
    rw [if_pos (show (432 : Int32) ≤ nI 432 from nI_le (Nat.le_refl 432) (by omega))]
    exact ⟨s, rfl, hI.1⟩
theorem keep_s50 {all past : Nat → Int32} {n : Nat} (hn : n ≤ 4) : ∃ r, Lp (fun (z : Int32 × (Nat → Int32)) => fX8_keep_s50 all (nI n) z.1 z.2) ((0 : Int32), past) = some r ∧ (∀ k, k < 108 → r (108 * n + k) = all k) ∧ ∀ k, k < 108 * n → r k = past k := by
  refine Lp_up (E := fun (j : Int32) (s : Nat → Int32) => (j, s)) (g := fun (z : Int32 × (Nat → Int32)) => fX8_keep_s50 all (nI n) z.1 z.2) 108 (fun j s => (∀ k, k < j → s (108 * n + k) = all k) ∧ ∀ k, k < 108 * n → s k = past k) (fun r => (∀ k, k < 108 → r (108 * n + k) = all k) ∧ ∀ k, k < 108 * n → r k = past k) ?_ ?_ 0 past (by omega) ⟨fun k hk => absurd hk (by omega), fun k _ => rfl⟩
  · intro j s hj hI
    left
    dsimp only
    unfold fX8_keep_s50
    have e : ((108 : Int32) * nI n) + nI j = nI (108 * n + j) := by
      show (nI 108 * nI n) + nI j = _
      rw [pk_mul, nI_add]
    rw [if_neg (show ¬ (108 : Int32) ≤ nI j from (nI_ge hj (by omega) : ¬ nI 108 ≤ nI j)), e, gd_t (vp_in_nI (by omega) (by omega)), gd_t (vp_in_nI (by omega) (by omega)), nI_clamp (by omega), nI_clamp (by omega)]
    refine ⟨_, rfl, fun k hk => ?_, fun k hk => ?_⟩
    · show (if 108 * n + k = 108 * n + j then all j else s (108 * n + k)) = all k
      by_cases e : k = j
      · rw [if_pos (by omega), e]
      · rw [if_neg (by omega), hI.1 k (by omega)]
    · show (if k = 108 * n + j then all j else s k) = past k
      rw [if_neg (by omega), hI.2 k hk]
  · intro s hI
    dsimp only
    unfold fX8_keep_s50
    rw [if_pos (show (108 : Int32) ≤ nI 108 from nI_le (Nat.le_refl 108) (by omega))]
    exact ⟨s, rfl, hI⟩
theorem X8keep {all past : Nat → Int32} {n : Nat} (hn : n ≤ 5) : ∃ past', fX8_keep (nI n) all past = some (nI (if n = 5 then 5 else n + 1), past') ∧ (n < 5 → (∀ k, k < 108 → past' (108 * n + k) = all k) ∧ ∀ k, k < 108 * n → past' k = past k) ∧ (n = 5 → (∀ k, k < 108 → past' (108 * 4 + k) = all k) ∧ ∀ k, k < 432 → past' k = past (k + 108)) := by
  unfold fX8_keep
  by_cases e : n = 5
  · subst e
    obtain ⟨r, h1, h2⟩ := keep_s10 (past := past)
    obtain ⟨r2, h3, h4, h5⟩ := keep_s50 (all := all) (past := r) (n := 4) (by omega)
    rw [if_pos (show nI 5 = (5 : Int32) from rfl), bd_t h1, bd2_t rfl, show nI 5 - (1 : Int32) = nI 4 from rfl, bd_t h3]
    refine ⟨r2, rfl, fun h => absurd h (by omega), fun _ => ⟨h4, fun k hk => ?_⟩⟩
    rw [h5 k (by omega), h2 k hk]
  · have hne : ¬ nI n = (5 : Int32) := by
      intro h
      have h1 := congrArg Int32.toInt h
      rw [nI_toInt (by omega), show (5 : Int32).toInt = 5 by decide] at h1
      omega
    obtain ⟨r2, h3, h4, h5⟩ := keep_s50 (all := all) (past := past) (n := n) (by omega)
    rw [if_neg hne, bd2_t rfl, bd_t h3, nI_1]
    exact ⟨r2, by rw [if_neg e], fun _ => ⟨h4, h5⟩, fun h => absurd h e⟩
