/-! the place of a row's lead -/
/-- one more than the greatest place below n with a number; 0 if there is none -/
noncomputable def plc (C : Nat) (nz : Nat → Nat → Prop) : Nat → Nat
  | 0 => 0
  | n + 1 => @ite _ (n % 3 < C ∧ nz (n % 3) (n / 3)) (Classical.propDecidable _) (n + 1) (plc C nz n)
theorem plc_hit {C : Nat} {nz : Nat → Nat → Prop} {c k : Nat} (hc : c < C) (hC : C ≤ 3) (h : nz c k) : plc C nz (k * 3 + c + 1) = k * 3 + c + 1 := by
  unfold plc
  rw [if_pos ⟨by omega, by rw [show (k * 3 + c) % 3 = c by omega, show (k * 3 + c) / 3 = k by omega]; exact h⟩]
theorem plc_skip {C : Nat} {nz : Nat → Nat → Prop} {c k : Nat} (hc : c < 3) (h : ¬ (c < C ∧ nz c k)) : plc C nz (k * 3 + c + 1) = plc C nz (k * 3 + c) := by
  rw [plc, if_neg]
  intro z
  apply h
  rw [show (k * 3 + c) % 3 = c by omega, show (k * 3 + c) / 3 = k by omega] at z
  exact z
theorem plc_row {C : Nat} {nz : Nat → Nat → Prop} {k : Nat} (hC : C ≤ 3) : plc C nz (k * 3 + 3) = plc C nz (k * 3 + C) := by
  have t : ∀ c, C ≤ c → c < 3 → plc C nz (k * 3 + c + 1) = plc C nz (k * 3 + c) := fun c h1 h2 => plc_skip h2 (fun z => absurd z.1 (by omega))
  rcases (show C = 0 ∨ C = 1 ∨ C = 2 ∨ C = 3 by omega) with rfl | rfl | rfl | rfl
  · exact (t 2 (by omega) (by omega)).trans ((t 1 (by omega) (by omega)).trans (t 0 (by omega) (by omega)))
  · exact (t 2 (by omega) (by omega)).trans (t 1 (by omega) (by omega))
  · exact t 2 (by omega) (by omega)
  · rfl
theorem plc_le (C : Nat) (nz : Nat → Nat → Prop) : ∀ n, plc C nz n ≤ n := by
  intro n
  induction n with
  | zero => exact Nat.le_refl _
  | succ n ih =>
    unfold plc
    split
    · exact Nat.le_refl _
    · omega
theorem plc_spec (C : Nat) (nz : Nat → Nat → Prop) : ∀ n P, plc C nz n = P + 1 → P < n ∧ P % 3 < C ∧ nz (P % 3) (P / 3) ∧ ∀ m, P < m → m < n → ¬ (m % 3 < C ∧ nz (m % 3) (m / 3)) := by
  intro n
  induction n with
  | zero => intro P h; cases h
  | succ n ih =>
    intro P h
    unfold plc at h
    split at h
    · rename_i h2
      have e : P = n := by omega
      subst e
      exact ⟨by omega, h2.1, h2.2, fun m h1 h2 => by omega⟩
    · rename_i h2
      obtain ⟨h3, h4, h5, h6⟩ := ih P h
      refine ⟨by omega, h4, h5, fun m h7 h8 => ?_⟩
      by_cases hm : m = n
      · rw [hm]; exact h2
      · exact h6 m h7 (by omega)
theorem plc_zero (C : Nat) (nz : Nat → Nat → Prop) : ∀ n, plc C nz n = 0 → ∀ m, m < n → ¬ (m % 3 < C ∧ nz (m % 3) (m / 3)) := by
  intro n
  induction n with
  | zero => intro _ m h; exact absurd h (Nat.not_lt_zero _)
  | succ n ih =>
    intro h m hm
    unfold plc at h
    split at h
    · cases h
    · rename_i h2
      by_cases hmn : m = n
      · rw [hmn]; exact h2
      · exact ih h m (by omega)
theorem plc_congr {C : Nat} {nz nz' : Nat → Nat → Prop} : ∀ n, (∀ m, m < n → m % 3 < C → (nz (m % 3) (m / 3) ↔ nz' (m % 3) (m / 3))) → plc C nz n = plc C nz' n := by
  intro n
  induction n with
  | zero => intro _; rfl
  | succ n ih =>
    intro h
    have e := ih (fun m hm => h m (by omega))
    unfold plc
    by_cases h1 : n % 3 < C ∧ nz (n % 3) (n / 3)
    · rw [if_pos h1, if_pos ⟨h1.1, (h n (by omega) h1.1).mp h1.2⟩]
    · rw [if_neg h1, if_neg (fun z => h1 ⟨z.1, (h n (by omega) z.1).mpr z.2⟩), e]
/-- the number at a place of a row, 0 behind its powers -/
def cel (num : Nat → Int32) (w q i c k : Nat) : Int32 := if k < q then num ((i * w + c) * q + k) else 0
theorem X3place {L R w q i C : Nat} {num : Nat → Int32} (hL : R * w * q = L) (hLb : L ≤ 1000) (hR : R ≤ 25) (hw : w ≤ 25) (hq : q ≤ 25) (hi : i < R) (hC : C ≤ 3) (hCw : C ≤ w) : fX3_placeOf L (nI R) (nI w) (nI q) (nI C) num (nI i) = some (nI (plc C (fun c k => cel num w q i c k ≠ 0) 24) + (-1)) := by
  have hat : ∀ c k, c < w → k < 1000 → fX3_at L (nI R) (nI w) (nI q) num (nI i) (nI c) (nI k) = some (cel num w q i c k) := by
    intro c k hc hk
    unfold cel
    by_cases h : k < q
    · rw [if_pos h]; exact X3at_in hL hLb hR hw hq hi hc h
    · rw [if_neg h]; exact X3at_hi (by omega) (by omega) hi hc (by omega) hk
  obtain ⟨v, h1, h2⟩ := Lp_dn (fun (i : Int32) (_ : Unit) => i) (g := fun z => fX3_placeOf_s3 L (nI R) (nI w) (nI q) (nI C) num (nI i) z)
    (fun k _ => plc C (fun c k => cel num w q i c k ≠ 0) 24 = plc C (fun c k => cel num w q i c k ≠ 0) (k * 3))
    (fun v => match v with | .inl _ => plc C (fun c k => cel num w q i c k ≠ 0) 24 = 0 | .inr x => x = nI (plc C (fun c k => cel num w q i c k ≠ 0) 24) + (-1)) 8
    (fun k _ hk hI => by
      obtain ⟨u, g1, g2⟩ := Lp_dn (fun (i : Int32) (_ : Unit) => i) (g := fun z => fX3_placeOf_s14 L (nI R) (nI w) (nI q) num (nI i) (nI k) z)
        (fun c _ => plc C (fun c k => cel num w q i c k ≠ 0) 24 = plc C (fun c k => cel num w q i c k ≠ 0) (k * 3 + c))
        (fun v => match v with | .inl _ => plc C (fun c k => cel num w q i c k ≠ 0) 24 = plc C (fun c k => cel num w q i c k ≠ 0) (k * 3) | .inr (.inl _) => False | .inr (.inr (.inl _)) => False | .inr (.inr (.inr x)) => x = nI (plc C (fun c k => cel num w q i c k ≠ 0) 24) + (-1)) C
        (fun c _ hc hI2 => by
          have hcw : c < w := by omega
          unfold fX3_placeOf_s14
          rw [if_neg (nI_pos (by omega)), bd_t (hat c k hcw (by omega))]
          by_cases h0 : cel num w q i c k = 0
          · rw [if_pos h0]
            refine Or.inl ⟨(), rfl, ?_⟩
            rw [hI2, ← Nat.add_assoc, plc_skip (nz := fun c k => cel num w q i c k ≠ 0) (c := c) (k := k) (by omega) (fun z => z.2 h0)]
          · rw [if_neg h0]
            refine Or.inr ⟨_, rfl, ?_⟩
            show nI k * 3 + nI c = _
            rw [hI2, ← Nat.add_assoc, plc_hit hc hC h0, pk_m1, show (3 : Int32) = nI 3 from rfl, pk_mul, nI_add])
        (fun _ hI2 => by
          refine ⟨.inl (), ?_, hI2⟩
          unfold fX3_placeOf_s14
          rw [if_pos (by decide)]) C () (Nat.le_refl _) (by rw [hI, show (k + 1) * 3 = k * 3 + 3 by omega, plc_row hC])
      unfold fX3_placeOf_s3
      rw [if_neg (nI_pos (by omega)), show (nI C - (1 : Int32)) = nI C + (-1) from Int32.sub_eq_add_neg ..]
      match u, g2 with
      | .inl _, g2 =>
        refine Or.inl ⟨(), ?_, g2⟩
        rw [g1]
        rfl
      | .inr (.inr (.inr x)), g2 =>
        refine Or.inr ⟨.inr x, ?_, g2⟩
        rw [g1]
        rfl)
    (fun _ hI => by
      refine ⟨.inl (), ?_, ?_⟩
      · unfold fX3_placeOf_s3
        rw [if_pos (by decide)]
      · exact hI) 8 () (Nat.le_refl _) rfl
  have h7 : nI 8 + (-1) = (7 : Int32) := by decide
  rw [h7] at h1
  unfold fX3_placeOf
  match v, h2 with
  | .inl _, h2 => rw [h1, h2]; rfl
  | .inr x, h2 => rw [h1, h2]; rfl
