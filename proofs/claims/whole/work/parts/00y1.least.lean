/-! sums of degrees; the form's own questions -/
def lsum (P : Nat → Nat) : Nat → Int32
  | 0 => 0
  | n + 1 => lsum P n + pv (pw (P n))
theorem lsum_congr {P Q : Nat → Nat} {n : Nat} (h : ∀ i, i < n → P i = Q i) : lsum P n = lsum Q n := by
  induction n with
  | zero => rfl
  | succ n ih =>
    unfold lsum
    rw [ih (fun i hi => h i (by omega)), h n (by omega)]
theorem deg8 {num : Nat → Int32} {C i : Nat} (hC : C ≤ 3) (hi : i < 5) : fX3_degreeOf 1000 (5 : Int32) (8 : Int32) (25 : Int32) (nI C) num (nI i) = some (pv (pw (P8 num C i))) := by
  have hP : P8 num C i ≤ 24 := rP_le num 8 25 C i
  exact (X3deg (L := 1000) (R := 5) (w := 8) (q := 25) rfl (by omega) (by omega) (by omega) (by omega) hi hC (by omega)).trans (congrArg some (powerAt_pv (show P8 num C i < 1000 by omega)))
theorem piv8 {num : Nat → Int32} {C i : Nat} (hC : C ≤ 3) (hi : i < 5) : fX3_pivotOf 1000 (5 : Int32) (8 : Int32) (25 : Int32) (nI C) num (nI i) = some (pv (cp (P8 num C i))) := by
  have hP : P8 num C i ≤ 24 := rP_le num 8 25 C i
  exact (X3piv (L := 1000) (R := 5) (w := 8) (q := 25) rfl (by omega) (by omega) (by omega) (by omega) hi hC (by omega)).trans (congrArg some (columnAt_pv (show P8 num C i < 1000 by omega)))
theorem least_class {num : Nat → Int32} {C m : Nat} (hC : C ≤ 3) (hm : m ≤ 5) : fX2_degreeSum (nI C) (nI m) num = some (lsum (P8 num C) m) := by
  obtain ⟨r, h1, h2⟩ := Lp_up (fun j (s : Int32) => (s, j)) (g := fun (z : Int32 × Int32) => fX2_degreeSum_s4 (nI C) (nI m) num z.1 z.2) m (fun j s => s = lsum (P8 num C) j) (fun r => r = lsum (P8 num C) m)
    (fun j s hj hI => by
      refine Or.inl ⟨lsum (P8 num C) (j + 1), ?_, rfl⟩
      dsimp only
      unfold fX2_degreeSum_s4
      rw [if_neg (nI_ge hj (by omega)), bd_t (deg8 hC (by omega)), hI]
      rfl)
    (fun s hI => by
      refine ⟨s, ?_, hI⟩
      dsimp only
      unfold fX2_degreeSum_s4
      rw [if_pos (nI_le (Nat.le_refl _) (by omega))]) 0 0 (Nat.zero_le _) rfl
  unfold fX2_degreeSum
  exact (bd_t h1).trans (congrArg some h2)
theorem least_ref {W : Nat → Int32} {C m : Nat} (hC : C ≤ 3) (hm : m ≤ 5) : bd (Lp (fun (z : Int32 × Int32) => fX8_leastOf_s9 (nI m) (nI C) W z.1 z.2) ((0 : Int32), (0 : Int32))) (fun (x : Int32) => some x) = some (lsum (P8 (emb W) C) m) := by
  obtain ⟨r, h1, h2⟩ := Lp_up (fun j (s : Int32) => (s, j)) (g := fun (z : Int32 × Int32) => fX8_leastOf_s9 (nI m) (nI C) W z.1 z.2) m (fun j s => s = lsum (P8 (emb W) C) j) (fun r => r = lsum (P8 (emb W) C) m)
    (fun j s hj hI => by
      refine Or.inl ⟨lsum (P8 (emb W) C) (j + 1), ?_, rfl⟩
      dsimp only
      unfold fX8_leastOf_s9
      rw [if_neg (nI_ge hj (by omega)), bd_t (X8wDeg (show j < 6 by omega) hC), hI]
      rfl)
    (fun s hI => by
      refine ⟨s, ?_, hI⟩
      dsimp only
      unfold fX8_leastOf_s9
      rw [if_pos (nI_le (Nat.le_refl _) (by omega))]) 0 0 (Nat.zero_le _) rfl
  exact (bd_t h1).trans (congrArg some h2)
