/-! the reference's small questions -/
theorem lgc_lt {a b : Int64} : lg_cmp a b < 0 ↔ a.toInt < b.toInt := by
  unfold lg_cmp
  by_cases h : a > b
  · rw [if_pos h]
    have h2 : b.toInt < a.toInt := Int64.lt_iff_toInt_lt.mp h
    exact ⟨fun h' => absurd h' (by decide), fun h' => by omega⟩
  · rw [if_neg h]
    by_cases e : a = b
    · subst e
      rw [if_pos rfl]
      exact ⟨fun h' => absurd h' (by decide), fun h' => by omega⟩
    · rw [if_neg e]
      have h1 : ¬ b.toInt < a.toInt := fun h' => h (Int64.lt_iff_toInt_lt.mpr h')
      have h2 : a.toInt ≠ b.toInt := fun h' => e (Int64.toInt_inj.mp h')
      exact ⟨fun _ => by omega, fun _ => by decide⟩
theorem lgc_gt {a b : Int64} : 0 < lg_cmp a b ↔ b.toInt < a.toInt := by
  unfold lg_cmp
  by_cases h : a > b
  · rw [if_pos h]
    have h2 : b.toInt < a.toInt := Int64.lt_iff_toInt_lt.mp h
    exact ⟨fun _ => h2, fun _ => by decide⟩
  · rw [if_neg h]
    have h1 : ¬ b.toInt < a.toInt := fun h' => h (Int64.lt_iff_toInt_lt.mpr h')
    by_cases e : a = b
    · rw [if_pos e]
      exact ⟨fun h' => absurd h' (by decide), fun h' => absurd h' h1⟩
    · rw [if_neg e]
      exact ⟨fun h' => absurd h' (by decide), fun h' => absurd h' h1⟩
theorem in_wi (a lo hi : Int32) : fX8_in a.toInt64 lo.toInt64 hi.toInt64 = fX7_isWithin a lo hi := by
  unfold fX8_in fX7_isWithin
  have e1 : lg_cmp a.toInt64 lo.toInt64 < 0 ↔ a < lo := by rw [lgc_lt, Int32.toInt_toInt64, Int32.toInt_toInt64, Int32.lt_iff_toInt_lt]
  have e2 : 0 < lg_cmp a.toInt64 hi.toInt64 ↔ hi < a := by rw [lgc_gt, Int32.toInt_toInt64, Int32.toInt_toInt64, Int32.lt_iff_toInt_lt]
  by_cases h1 : a < lo
  · rw [if_pos (e1.mpr h1), if_pos h1]
  · rw [if_neg (fun h => h1 (e1.mp h)), if_neg h1]
    by_cases h2 : hi < a
    · rw [if_pos (e2.mpr h2), if_pos h2]
    · rw [if_neg (fun h => h2 (e2.mp h)), if_neg h2]
theorem wi_row {n : Nat} {a : Int32} (hn : n ≤ 100) : fX7_isWithin a 0 (nI n - 1) = fX3_hasRow (nI n) a := by
  unfold fX7_isWithin fX3_hasRow
  have e : (nI n - 1) < a ↔ nI n ≤ a := by
    have h1 : (nI n).toInt = n := nI_toInt (by omega)
    have h2 : (1 : Int32).toInt = 1 := by decide
    rw [Int32.lt_iff_toInt_lt, Int32.le_iff_toInt_le, i32_sub (by omega) (by omega)]
    omega
  by_cases h0 : a < 0
  · rw [if_pos h0, if_pos h0]
  · rw [if_neg h0, if_neg h0]
    by_cases h1 : nI n ≤ a
    · rw [if_pos (e.mpr h1), if_pos h1]
    · rw [if_neg (fun h => h1 (e.mp h)), if_neg h1]
theorem vi0 {N : Nat} (h : 0 < N) (hN : N < 2 ^ 31) : vp_in (0 : Int32) N := (vp_in_nI h hN : vp_in (nI 0) N)
theorem vi1 {N : Nat} (h : 1 < N) (hN : N < 2 ^ 31) : vp_in (1 : Int32) N := (vp_in_nI h hN : vp_in (nI 1) N)
theorem vi2 {N : Nat} (h : 2 < N) (hN : N < 2 ^ 31) : vp_in (2 : Int32) N := (vp_in_nI h hN : vp_in (nI 2) N)
theorem vi3 {N : Nat} (h : 3 < N) (hN : N < 2 ^ 31) : vp_in (3 : Int32) N := (vp_in_nI h hN : vp_in (nI 3) N)
theorem X8modulus {all : Nat → Int32} {x : Int32} (h : all 0 = x) : fX8_modulus all = some x := by
  unfold fX8_modulus
  rw [gd_t (vi0 (by omega) (by omega))]
  exact congrArg some h
theorem X8width {all : Nat → Int32} {x : Int32} (h : all 1 = x) : fX8_width all = some x := by
  unfold fX8_width
  rw [gd_t (vi1 (by omega) (by omega))]
  exact congrArg some h
theorem X8rows {all : Nat → Int32} {x : Int32} (h : all 2 = x) : fX8_rows all = some x := by
  unfold fX8_rows
  rw [gd_t (vi2 (by omega) (by omega))]
  exact congrArg some h
theorem X8isRow {all : Nat → Int32} {n : Nat} {a : Int32} (hn : n ≤ 100) (h : all 2 = nI n) : fX8_isRow all a = some (fX3_hasRow (nI n) a) := by
  unfold fX8_isRow
  rw [bd_t (X8rows h)]
  exact congrArg some ((in_wi a 0 (nI n - 1)).trans (wi_row hn))
theorem X8isColumn {all : Nat → Int32} {n : Nat} {a : Int32} (hn : n ≤ 100) (h : all 1 = nI n) : fX8_isColumn all a = some (fX3_hasRow (nI n) a) := by
  unfold fX8_isColumn
  rw [bd_t (X8width h)]
  exact congrArg some ((in_wi a 0 (nI n - 1)).trans (wi_row hn))
theorem hasCol (c a : Int32) : fX3_hasColumn c a = fX3_hasRow c a := rfl
theorem row_of {n : Nat} {a : Int32} (hn : n ≤ 100) (h : ¬ fX3_hasRow (nI n) a = 0) : ∃ i, i < n ∧ a = nI i := by
  unfold fX3_hasRow at h
  by_cases h0 : a < 0
  · rw [if_pos h0] at h; exact absurd rfl h
  · rw [if_neg h0] at h
    by_cases h1 : nI n ≤ a
    · rw [if_pos h1] at h; exact absurd rfl h
    · rw [Int32.lt_iff_toInt_lt, show (0 : Int32).toInt = 0 from rfl] at h0
      rw [Int32.le_iff_toInt_le, nI_toInt (by omega)] at h1
      exact ⟨a.toInt.toNat, by omega, i32_nI (by omega) (by omega)⟩
theorem wi_of {hi : Nat} {a : Int32} (hn : hi ≤ 1000) (h : ¬ fX7_isWithin a 0 (nI hi) = 0) : ∃ i, i ≤ hi ∧ a = nI i := by
  unfold fX7_isWithin at h
  by_cases h0 : a < 0
  · rw [if_pos h0] at h; exact absurd rfl h
  · rw [if_neg h0] at h
    by_cases h1 : nI hi < a
    · rw [if_pos h1] at h; exact absurd rfl h
    · rw [Int32.lt_iff_toInt_lt, show (0 : Int32).toInt = 0 from rfl] at h0
      rw [Int32.lt_iff_toInt_lt, nI_toInt (by omega)] at h1
      exact ⟨a.toInt.toNat, by omega, i32_nI (by omega) (by omega)⟩
theorem X8place (i c k : Nat) : fX8_place (nI i) (nI c) (nI k) = nI (3 + (i * 3 + c) * 7 + k) := by
  unfold fX8_place
  show (nI 3 + (nI 3 * nI i + nI c) * nI 7) + nI k = _
  rw [pk_mul, nI_add, pk_mul, nI_add, nI_add, Nat.mul_comm 3 i]
theorem cnt_a {b n f a : Int32} {refused : Nat → Int32} (ha : a = -2 ∨ a = -3 ∨ a = -4) (h1 : b = refused 0) (h2 : n = refused 1) (h3 : f = refused 2) : ∃ x y z m, fX7_counted b n f a = some (a, x, y, z) ∧ fX8_refuses refused a = some (a, m) ∧ x = m 0 ∧ y = m 1 ∧ z = m 2 := by
  rcases ha with e | e | e <;> subst e
  · refine ⟨b + 1, n, f, upd refused 0 (refused 0 + 1), rfl, ?_, by rw [h1]; rfl, h2, h3⟩
    unfold fX8_refuses
    rw [show ((-2 : Int32) - (-2)) = 0 from by decide, gd_t (vi0 (by omega) (by omega)), gd_t (vi0 (by omega) (by omega))]
    rfl
  · refine ⟨b, n + 1, f, upd refused 1 (refused 1 + 1), rfl, ?_, h1, by rw [h2]; rfl, h3⟩
    unfold fX8_refuses
    rw [show ((-2 : Int32) - (-3)) = 1 from by decide, gd_t (vi1 (by omega) (by omega)), gd_t (vi1 (by omega) (by omega))]
    rfl
  · refine ⟨b, n, f + 1, upd refused 2 (refused 2 + 1), rfl, ?_, h1, h2, by rw [h3]; rfl⟩
    unfold fX8_refuses
    rw [show ((-2 : Int32) - (-4)) = 2 from by decide, gd_t (vi2 (by omega) (by omega)), gd_t (vi2 (by omega) (by omega))]
    rfl
theorem byte_all : ∀ v : Fin 128, vp_nar .byte ((nI v.val).toInt8.toInt32) = nI v.val := by decide +kernel
theorem byte_id {v : Nat} (h : v ≤ 127) : vp_nar .byte ((nI v).toInt8.toInt32) = nI v := byte_all ⟨v, by omega⟩
