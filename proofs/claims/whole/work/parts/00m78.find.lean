/-! Shape and Step -/
def CS (P : Nat → Nat) (i j : Nat) : Prop := i ≠ j ∧ P i ≠ 0 ∧ P j ≠ 0 ∧ P j ≤ P i ∧ (P i - 1) % 3 = (P j - 1) % 3
/-- the first pair, by i, then by j -/
def FP (n : Nat) (S : Nat → Nat → Prop) (i j : Nat) : Prop := i < n ∧ j < n ∧ S i j ∧ ∀ i' j', i' < n → j' < n → (i' < i ∨ i' = i ∧ j' < j) → ¬ S i' j'
theorem X5measure {L R w q n C : Nat} {num places : Nat → Int32} (hL : R * w * q = L) (hLb : L ≤ 1000) (hR : R ≤ 25) (hw : w ≤ 25) (hq : q ≤ 25) (hn : n ≤ 5) (hnR : n ≤ R) (hC : C ≤ 3) (hCw : C ≤ w) : ∃ pl, fX5_measure places L (nI R) (nI w) (nI q) (nI C) (nI n) num = some (nI n, pl) ∧ ∀ i, i < n → pl i = pv (rP num w q C i) := by
  have hmin : min32 (nI n) (5 : Int32) = nI n := by
    unfold min32
    rw [show (5 : Int32) = nI 5 from rfl]
    by_cases h : nI 5 < nI n
    · exact absurd h (nI_nlt hn (by omega))
    · rw [if_neg h]
  obtain ⟨pl, h1, h2⟩ := Lp_up (fun i s => (i, s)) (g := fun (z : Int32 × (Nat → Int32)) => fX5_measure_s18 L (nI R) (nI w) (nI q) (nI C) (nI n) num z.1 z.2) n (fun j pl => ∀ i, i < j → pl i = pv (rP num w q C i)) (fun pl => ∀ i, i < n → pl i = pv (rP num w q C i))
    (fun j pl hj hI => by
      refine Or.inl ⟨upd pl j (pv (rP num w q C j)), ?_, ?_⟩
      · dsimp only
        unfold fX5_measure_s18
        rw [hmin, if_neg (nI_ge hj (by omega)), if_neg (by rw [show (5 : Int32) = nI 5 from rfl]; exact nI_ge (by omega) (by omega)), bd_t (X3place' hL hLb hR hw hq (by omega) hC hCw), gd_t (vp_in_nI (by omega) (by omega)), nI_clamp (by omega)]
      · intro i hi
        by_cases e : i = j
        · subst e
          exact pk_us
        · rw [pk_un e]
          exact hI i (by omega))
    (fun pl hI => by
      refine ⟨pl, ?_, hI⟩
      dsimp only
      unfold fX5_measure_s18
      rw [hmin, if_pos (nI_le (Nat.le_refl _) (by omega))]) 0 places (Nat.zero_le _) (fun i hi => absurd hi (Nat.not_lt_zero _))
  refine ⟨pl, ?_, h2⟩
  unfold fX5_measure
  rw [show (0 : Int32) = nI 0 from rfl, bd_t h1, hmin]
theorem pv_m1 {P : Nat} (h : P < 1000) : pv P = -1 ↔ P = 0 := by
  cases P with
  | zero => exact ⟨fun _ => rfl, fun _ => rfl⟩
  | succ m => rw [pv_s]; exact ⟨fun e => absurd e (nI_m1 (by omega)), fun e => absurd e (by omega)⟩
theorem X5canStep {P : Nat → Nat} {pl : Nat → Int32} {n i j : Nat} (hn : n ≤ 5) (hi : i < n) (hj : j < n) (hP : ∀ i, P i ≤ 24) (hpl : ∀ i, i < n → pl i = pv (P i)) : (CS P i j → fX5_canStep pl (nI i) (nI j) = some 1) ∧ (¬ CS P i j → fX5_canStep pl (nI i) (nI j) = some 0) := by
  have e1 := X5placeAt (places := pl) (i := i) (by omega)
  have e2 := X5placeAt (places := pl) (i := j) (by omega)
  rw [hpl i hi] at e1
  rw [hpl j hj] at e2
  have hPi := hP i
  have hPj := hP j
  unfold fX5_canStep
  rw [bd_t e1, bd_t e2]
  by_cases hij : i = j
  · subst hij
    rw [if_pos rfl]
    exact ⟨fun h => absurd rfl h.1, fun _ => rfl⟩
  rw [if_neg (fun e => hij ((nI_eq (by omega) (by omega)).mp e))]
  by_cases h1 : P i = 0
  · rw [if_pos ((pv_m1 (by omega)).mpr h1)]
    exact ⟨fun h => absurd h1 h.2.1, fun _ => rfl⟩
  rw [if_neg (fun e => h1 ((pv_m1 (by omega)).mp e))]
  by_cases h2 : P j = 0
  · rw [if_pos ((pv_m1 (by omega)).mpr h2)]
    exact ⟨fun h => absurd h2 h.2.2.1, fun _ => rfl⟩
  rw [if_neg (fun e => h2 ((pv_m1 (by omega)).mp e))]
  obtain ⟨a, ha⟩ : ∃ a, P i = a + 1 := ⟨P i - 1, by omega⟩
  obtain ⟨b, hb⟩ : ∃ b, P j = b + 1 := ⟨P j - 1, by omega⟩
  rw [ha, hb, pv_s, pv_s]
  by_cases h3 : a < b
  · rw [if_pos (nI_lt h3 (by omega))]
    exact ⟨fun h => absurd h.2.2.2.1 (by omega), fun _ => rfl⟩
  rw [if_neg (nI_nlt (by omega) (by omega)), columnAt_nI (by omega), columnAt_nI (by omega)]
  by_cases h4 : b % 3 = a % 3
  · rw [if_pos (by rw [h4])]
    exact ⟨fun _ => rfl, fun h => absurd ⟨hij, h1, h2, by omega, by rw [ha, hb]; omega⟩ h⟩
  · rw [if_neg (fun e => h4 ((nI_eq (by omega) (by omega)).mp e))]
    exact ⟨fun h => absurd h.2.2.2.2 (by rw [ha, hb]; omega), fun _ => rfl⟩
/-- find: the first pair, or none -/
theorem X6find {L R w q n C p : Nat} {num places : Nat → Int32} {t0 s0 n0 p0 : Int32} (hL : R * w * q = L) (hLb : L ≤ 1000) (hR : R ≤ 25) (hw : w ≤ 25) (hq : q ≤ 25) (hn : n ≤ 5) (hnR : n ≤ R) (hC : C ≤ 3) (hCw : C ≤ w) (hp : p = 2 ∨ p = 3 ∨ p = 5 ∨ p = 7) (hnum : ∀ i c k, i < n → c < w → k < q → ∃ v : Nat, v < p ∧ num ((i * w + c) * q + k) = nI v) :
    (∃ pl, fX6_find t0 s0 n0 p0 places L (nI R) (nI w) (nI q) (nI p) (nI C) (nI n) num = some (0, t0, s0, n0, p0, nI n, pl) ∧ ∀ i j, i < n → j < n → ¬ CS (rP num w q C) i j) ∨
    ∃ i j a b vi vj u pl, FP n (CS (rP num w q C)) i j ∧ rP num w q C i = a + 1 ∧ rP num w q C j = b + 1 ∧ cel num w q i (a % 3) (a / 3) = nI vi ∧ cel num w q j (b % 3) (b / 3) = nI vj ∧ 0 < vi ∧ vi < p ∧ 0 < vj ∧ vj < p ∧ isinv p vj u ∧ fX6_find t0 s0 n0 p0 places L (nI R) (nI w) (nI q) (nI p) (nI C) (nI n) num = some (1, nI i, nI j, nI (md (-(vi : Int) * u) p), nI (a / 3 - b / 3), nI n, pl) := by
  obtain ⟨pl, hm1, hm2⟩ := X5measure (places := places) (num := num) hL hLb hR hw hq hn hnR hC hCw
  have hP : ∀ i, rP num w q C i ≤ 24 := fun i => rP_le num w q C i
  have hlead : ∀ i a, i < n → rP num w q C i = a + 1 → ∃ v : Nat, 0 < v ∧ v < p ∧ cel num w q i (a % 3) (a / 3) = nI v := by
    intro i a hi ha
    have hs := plc_spec _ _ _ _ ha
    have hne := hs.2.2.1
    have hk : a / 3 < q := by
      apply Classical.byContradiction
      intro h
      apply hne
      unfold cel
      rw [if_neg h]
    obtain ⟨v, hv, hve⟩ := hnum i (a % 3) (a / 3) hi (by omega) hk
    refine ⟨v, ?_, hv, ?_⟩
    · apply Classical.byContradiction
      intro h
      apply hne
      unfold cel
      rw [if_pos hk, hve, show v = 0 by omega]
      rfl
    · unfold cel
      rw [if_pos hk, hve]
  obtain ⟨r, h1, h2⟩ := Lp_up (fun (i : Int32) (_ : Unit) => i) (g := fun z => fX6_find_s10 L (nI R) (nI w) (nI q) (nI p) (nI C) num (nI n) pl z) n (fun i _ => ∀ i' j', i' < i → j' < n → ¬ CS (rP num w q C) i' j')
    (fun r => match r with | .inl _ => ∀ i j, i < n → j < n → ¬ CS (rP num w q C) i j | .inr x => ∃ i j a b vi vj u, FP n (CS (rP num w q C)) i j ∧ rP num w q C i = a + 1 ∧ rP num w q C j = b + 1 ∧ cel num w q i (a % 3) (a / 3) = nI vi ∧ cel num w q j (b % 3) (b / 3) = nI vj ∧ 0 < vi ∧ vi < p ∧ 0 < vj ∧ vj < p ∧ isinv p vj u ∧ x = (1, nI i, nI j, nI (md (-(vi : Int) * u) p), nI (a / 3 - b / 3), nI n, pl))
    (fun i _ hi hI => by
      obtain ⟨r, g1, g2⟩ := Lp_up (fun (i : Int32) (_ : Unit) => i) (g := fun z => fX6_find_s23 L (nI R) (nI w) (nI q) (nI p) (nI C) num (nI i) (nI n) pl z) n (fun j _ => ∀ j', j' < j → ¬ CS (rP num w q C) i j')
        (fun r => match r with | .inl _ => ∀ j', j' < n → ¬ CS (rP num w q C) i j' | .inr (.inl _) => False | .inr (.inr (.inl _)) => False | .inr (.inr (.inr x)) => ∃ j a b vi vj u, FP n (CS (rP num w q C)) i j ∧ rP num w q C i = a + 1 ∧ rP num w q C j = b + 1 ∧ cel num w q i (a % 3) (a / 3) = nI vi ∧ cel num w q j (b % 3) (b / 3) = nI vj ∧ 0 < vi ∧ vi < p ∧ 0 < vj ∧ vj < p ∧ isinv p vj u ∧ x = (1, nI i, nI j, nI (md (-(vi : Int) * u) p), nI (a / 3 - b / 3), nI n, pl))
        (fun j _ hj hJ => by
          have hcs := X5canStep (P := rP num w q C) (pl := pl) hn hi hj hP hm2
          unfold fX6_find_s23
          rw [if_neg (nI_ge hj (by omega))]
          by_cases hc : CS (rP num w q C) i j
          · rw [bd_t (hcs.1 hc), if_neg (by decide)]
            obtain ⟨a, ha⟩ : ∃ a, rP num w q C i = a + 1 := ⟨rP num w q C i - 1, by have := hc.2.1; omega⟩
            obtain ⟨b, hb⟩ : ∃ b, rP num w q C j = b + 1 := ⟨rP num w q C j - 1, by have := hc.2.2.1; omega⟩
            obtain ⟨vi, hvi0, hvip, hvie⟩ := hlead i a hi ha
            obtain ⟨vj, hvj0, hvjp, hvje⟩ := hlead j b hj hb
            obtain ⟨u, hu, hue⟩ := X7inv hp hvj0 hvjp
            have hab : b ≤ a := by have := hc.2.2.2.1; omega
            have ha24 := hP i
            have hu7 : u < 7 ∧ vi < 7 := by have := hu.2.1; omega
            have hmulb : vi * u ≤ 7 * 7 := Nat.mul_le_mul (by omega) (by omega)
            have hviI : (nI vi).toInt = (vi : Int) := nI_toInt (by omega)
            have huI : (nI u).toInt = (u : Int) := nI_toInt (by omega)
            have hneg : (-nI vi).toInt = -(vi : Int) := by rw [i32_neg (by omega), hviI]
            have hprod : (-(vi : Int) * (u : Int)) = -((vi * u : Nat) : Int) := by rw [Int.neg_mul]; rfl
            have hmul : (-nI vi * nI u).toInt = -(vi : Int) * (u : Int) := by
              rw [i32_mul] <;> rw [hneg, huI, hprod] <;> omega
            rw [bd_t (X3lead hL hLb hR hw hq (by omega) hC hCw ha), bd_t (X3lead hL hLb hR hw hq (by omega) hC hCw hb), hvie, hvje, bd_t hue]
            rw [bd_t (fm_at (x := -nI vi * nI u) (p := p) (by omega) (by omega) (by rw [hmul, hprod]; omega) (by rw [hmul, hprod]; omega))]
            have q1 := X5placeAt (places := pl) (i := i) (by omega)
            have q2 := X5placeAt (places := pl) (i := j) (by omega)
            rw [hm2 i hi, ha, pv_s] at q1
            rw [hm2 j hj, hb, pv_s] at q2
            rw [bd_t q1, bd_t q2, powerAt_nI (by omega), powerAt_nI (by omega), pk_sub (by omega), hmul]
            refine Or.inr ⟨_, rfl, j, a, b, vi, vj, u, ⟨hi, hj, hc, ?_⟩, ha, hb, hvie, hvje, hvi0, hvip, hvj0, hvjp, hu, rfl⟩
            intro i' j' hi' hj' h
            rcases h with h | ⟨h, h'⟩
            · exact hI i' j' h hj'
            · rw [h]; exact hJ j' h'
          · rw [bd_t (hcs.2 hc), if_pos rfl]
            refine Or.inl ⟨(), rfl, fun j' hj' => ?_⟩
            by_cases e : j' = j
            · rw [e]; exact hc
            · exact hJ j' (by omega))
        (fun _ hJ => by
          refine ⟨.inl (), ?_, hJ⟩
          unfold fX6_find_s23
          rw [if_pos (nI_le (Nat.le_refl _) (by omega))]) 0 () (Nat.zero_le _) (fun j' hj' => absurd hj' (Nat.not_lt_zero _))
      unfold fX6_find_s10
      rw [if_neg (nI_ge hi (by omega)), show (0 : Int32) = nI 0 from rfl]
      match r, g2 with
      | .inl _, g2 =>
        refine Or.inl ⟨(), by rw [g1]; rfl, fun i' j' hi' hj' => ?_⟩
        by_cases e : i' = i
        · rw [e]; exact g2 j' hj'
        · exact hI i' j' (by omega) hj'
      | .inr (.inr (.inr x)), g2 =>
        obtain ⟨j, a, b, vi, vj, u, g⟩ := g2
        exact Or.inr ⟨.inr x, by rw [g1]; rfl, i, j, a, b, vi, vj, u, g⟩)
    (fun _ hI => by
      refine ⟨.inl (), ?_, fun i j hi hj => hI i j hi hj⟩
      unfold fX6_find_s10
      rw [if_pos (nI_le (Nat.le_refl _) (by omega))]) 0 () (Nat.zero_le _) (fun i' j' hi' => absurd hi' (Nat.not_lt_zero _))
  have hf : fX6_find t0 s0 n0 p0 places L (nI R) (nI w) (nI q) (nI p) (nI C) (nI n) num = bx (Lp (fun z => fX6_find_s10 L (nI R) (nI w) (nI q) (nI p) (nI C) num (nI n) pl z) (nI 0)) (fun (_ : Unit) => some ((0 : Int32), t0, s0, n0, p0, nI n, pl)) := by
    unfold fX6_find
    rw [bd2_t hm1]
    rfl
  rw [hf, h1]
  match r, h2 with
  | .inl _, h2 => exact Or.inl ⟨pl, rfl, h2⟩
  | .inr x, h2 =>
    obtain ⟨i, j, a, b, vi, vj, u, g1, g2, g3, g4, g5, g6, g7, g8, g9, g10, g11⟩ := h2
    exact Or.inr ⟨i, j, a, b, vi, vj, u, pl, g1, g2, g3, g4, g5, g6, g7, g8, g9, g10, by rw [g11]; rfl⟩
