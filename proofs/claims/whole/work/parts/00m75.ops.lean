/-! powers, columns, inverses, leads; append's row of noughts -/
def pv (P : Nat) : Int32 := nI P + (-1)
theorem pv_0 : pv 0 = -1 := rfl
theorem pv_s (m : Nat) : pv (m + 1) = nI m := pk_m1 m
theorem powerAt_nI {m : Nat} (h : m < 1000) : fX7_powerAt (nI m) = nI (m / 3) := by
  unfold fX7_powerAt
  have hne : ¬ nI m = -1 := by
    intro e
    have e1 : (nI m).toInt = (m : Int) := nI_toInt (by omega)
    rw [e] at e1
    have e2 : (-1 : Int32).toInt = -1 := rfl
    omega
  rw [if_neg hne, show (3 : Int32) = nI 3 from rfl, pk_div (by omega) (by omega) (by omega)]
theorem powerAt_m1 : fX7_powerAt (-1) = -1 := rfl
theorem columnAt_nI {m : Nat} (h : m < 1000) : fX7_columnAt (nI m) = nI (m % 3) := by
  unfold fX7_columnAt
  have hne : ¬ nI m = -1 := by
    intro e
    have e1 : (nI m).toInt = (m : Int) := nI_toInt (by omega)
    rw [e] at e1
    have e2 : (-1 : Int32).toInt = -1 := rfl
    omega
  rw [if_neg hne, show (3 : Int32) = nI 3 from rfl]
  exact pk_rem (by omega) (by omega) (by omega)
theorem columnAt_m1 : fX7_columnAt (-1) = -1 := rfl
theorem nI_m1 {m : Nat} (h : m < 2 ^ 31) : ¬ nI m = -1 := by
  intro e
  have e1 : (nI m).toInt = (m : Int) := nI_toInt h
  rw [e] at e1
  have e2 : (-1 : Int32).toInt = -1 := rfl
  omega
theorem m1_nI {m : Nat} (h : m < 2 ^ 31) : ¬ (-1 : Int32) = nI m := fun e => nI_m1 h e.symm
/-- the inverse that both sides look for -/
def isinv (p v u : Nat) : Prop := 1 ≤ u ∧ u < p ∧ v * u % p = 1
theorem inv_ex {p v : Nat} (hp : p = 2 ∨ p = 3 ∨ p = 5 ∨ p = 7) (h0 : 0 < v) (hv : v < p) : ∃ u, isinv p v u := by
  unfold isinv
  rcases hp with rfl | rfl | rfl | rfl
  · exact ⟨1, by omega, by omega, by rw [show v = 1 by omega]⟩
  · rcases (show v = 1 ∨ v = 2 by omega) with rfl | rfl
    · exact ⟨1, by decide⟩
    · exact ⟨2, by decide⟩
  · rcases (show v = 1 ∨ v = 2 ∨ v = 3 ∨ v = 4 by omega) with rfl | rfl | rfl | rfl
    · exact ⟨1, by decide⟩
    · exact ⟨3, by decide⟩
    · exact ⟨2, by decide⟩
    · exact ⟨4, by decide⟩
  · rcases (show v = 1 ∨ v = 2 ∨ v = 3 ∨ v = 4 ∨ v = 5 ∨ v = 6 by omega) with rfl | rfl | rfl | rfl | rfl | rfl
    · exact ⟨1, by decide⟩
    · exact ⟨4, by decide⟩
    · exact ⟨5, by decide⟩
    · exact ⟨2, by decide⟩
    · exact ⟨3, by decide⟩
    · exact ⟨6, by decide⟩
theorem inv_uniq {p v u u' : Nat} (hp : p = 2 ∨ p = 3 ∨ p = 5 ∨ p = 7) (h : isinv p v u) (h' : isinv p v u') : u = u' := by
  obtain ⟨a1, a2, a3⟩ := h
  obtain ⟨b1, b2, b3⟩ := h'
  have e : u * (v * u') % p = u * 1 % p := by rw [Nat.mul_mod, b3, ← Nat.mul_mod_mod]; simp [Nat.mod_mod]
  have e2 : u * (v * u') % p = u' * 1 % p := by rw [show u * (v * u') = (v * u) * u' by rw [← Nat.mul_assoc, Nat.mul_comm u v], Nat.mul_mod, a3, Nat.mul_comm u' 1, Nat.mul_mod 1 u']; simp
  rw [e, Nat.mul_one, Nat.mul_one, Nat.mod_eq_of_lt a2, Nat.mod_eq_of_lt b2] at e2
  exact e2
theorem X7inv {p v : Nat} (hp : p = 2 ∨ p = 3 ∨ p = 5 ∨ p = 7) (h0 : 0 < v) (hv : v < p) : ∃ u, isinv p v u ∧ fX7_inverse (nI v) (nI p) = some (nI u) := by
  have hp1 : 0 < p := by omega
  obtain ⟨w, hw1, hw2, hw3⟩ := inv_ex hp h0 hv
  have hstep : ∀ j, j < p → fX7_modulo (nI v * nI j) (nI p) = some (nI (v * j % p)) := by
    intro j hj
    have hb : v * j ≤ 7 * 7 := Nat.mul_le_mul (by omega) (by omega)
    have e : (nI v * nI j).toInt = ((v * j : Nat) : Int) := by rw [pk_mul, nI_toInt (by omega)]
    rw [fm_at hp1 (by omega) (by rw [e]; omega) (by rw [e]; omega), e, md_nat]
  obtain ⟨r, h1, h2⟩ := Lp_up (fun (i : Int32) (_ : Unit) => i) (g := fun z => fX7_inverse_s2 (nI v) (nI p) z) p (fun j _ => 1 ≤ j ∧ j ≤ w) (fun r => match r with | .inl _ => False | .inr x => ∃ u, isinv p v u ∧ x = nI u)
    (fun j _ hj hI => by
      unfold fX7_inverse_s2
      rw [if_neg (nI_ge hj (by omega)), bd_t (hstep j hj)]
      by_cases h : v * j % p = 1
      · rw [h, if_pos (show nI 1 = (1 : Int32) from rfl)]
        exact Or.inr ⟨_, rfl, j, ⟨hI.1, hj, h⟩, rfl⟩
      · rw [if_neg]
        · refine Or.inl ⟨(), rfl, by omega, ?_⟩
          by_cases hjw : j = w
          · rw [hjw] at h
            exact absurd hw3 h
          · omega
        · intro e
          apply h
          have hm : v * j % p < p := Nat.mod_lt _ hp1
          exact (nI_eq (by omega) (by omega)).mp (show nI (v * j % p) = nI 1 from e))
    (fun _ hI => by omega) 1 () (by omega) ⟨Nat.le_refl _, hw1⟩
  unfold fX7_inverse
  match r, h2 with
  | .inr x, h2 =>
    obtain ⟨u, hu, rfl⟩ := h2
    refine ⟨u, hu, ?_⟩
    rw [show (1 : Int32) = nI 1 from rfl, h1]
    rfl
theorem X5placeAt {places : Nat → Int32} {i : Nat} (hi : i < 5) : fX5_placeAt places (nI i) = some (places i) := by
  unfold fX5_placeAt
  rw [if_neg (nI_pos (by omega)), if_neg (by rw [show (5 : Int32) = nI 5 from rfl]; exact nI_ge hi (by omega)), gd_t (vp_in_nI hi (by omega)), nI_clamp (by omega)]
/-- the place of row i of some numbers, plus one -/
noncomputable def rP (num : Nat → Int32) (w q C i : Nat) : Nat := plc C (fun c k => cel num w q i c k ≠ 0) 24
theorem rP_le (num : Nat → Int32) (w q C i : Nat) : rP num w q C i ≤ 24 := plc_le _ _ _
theorem X3place' {L R w q i C : Nat} {num : Nat → Int32} (hL : R * w * q = L) (hLb : L ≤ 1000) (hR : R ≤ 25) (hw : w ≤ 25) (hq : q ≤ 25) (hi : i < R) (hC : C ≤ 3) (hCw : C ≤ w) : fX3_placeOf L (nI R) (nI w) (nI q) (nI C) num (nI i) = some (pv (rP num w q C i)) := X3place hL hLb hR hw hq hi hC hCw
theorem X3lead {L R w q i C m : Nat} {num : Nat → Int32} (hL : R * w * q = L) (hLb : L ≤ 1000) (hR : R ≤ 25) (hw : w ≤ 25) (hq : q ≤ 25) (hi : i < R) (hC : C ≤ 3) (hCw : C ≤ w) (hm : rP num w q C i = m + 1) : fX3_leadOf L (nI R) (nI w) (nI q) (nI C) num (nI i) = some (cel num w q i (m % 3) (m / 3)) := by
  have hm24 := rP_le num w q C i
  have hs := plc_spec _ _ _ _ hm
  unfold fX3_leadOf
  rw [bd_t (X3place' hL hLb hR hw hq hi hC hCw), hm, pv_s, columnAt_nI (by omega), powerAt_nI (by omega)]
  have hat : fX3_at L (nI R) (nI w) (nI q) num (nI i) (nI (m % 3)) (nI (m / 3)) = some (cel num w q i (m % 3) (m / 3)) := by
    unfold cel
    by_cases h : m / 3 < q
    · rw [if_pos h]; exact X3at_in hL hLb hR hw hq hi (by omega) h
    · rw [if_neg h]; exact X3at_hi (by omega) (by omega) hi (by omega) (by omega) (by omega)
  rw [bd_t hat]
theorem X3lead0 {L R w q i C : Nat} {num : Nat → Int32} (hL : R * w * q = L) (hLb : L ≤ 1000) (hR : R ≤ 25) (hw : w ≤ 25) (hq : q ≤ 25) (hi : i < R) (hC : C ≤ 3) (hCw : C ≤ w) (hm : rP num w q C i = 0) : fX3_leadOf L (nI R) (nI w) (nI q) (nI C) num (nI i) = some 0 := by
  unfold fX3_leadOf
  rw [bd_t (X3place' hL hLb hR hw hq hi hC hCw), hm, pv_0, columnAt_m1, powerAt_m1, bd_t (X3at_neg (by omega) hi)]
theorem X3deg {L R w q i C : Nat} {num : Nat → Int32} (hL : R * w * q = L) (hLb : L ≤ 1000) (hR : R ≤ 25) (hw : w ≤ 25) (hq : q ≤ 25) (hi : i < R) (hC : C ≤ 3) (hCw : C ≤ w) : fX3_degreeOf L (nI R) (nI w) (nI q) (nI C) num (nI i) = some (fX7_powerAt (pv (rP num w q C i))) := by
  unfold fX3_degreeOf
  rw [bd_t (X3place' hL hLb hR hw hq hi hC hCw)]
theorem X3piv {L R w q i C : Nat} {num : Nat → Int32} (hL : R * w * q = L) (hLb : L ≤ 1000) (hR : R ≤ 25) (hw : w ≤ 25) (hq : q ≤ 25) (hi : i < R) (hC : C ≤ 3) (hCw : C ≤ w) : fX3_pivotOf L (nI R) (nI w) (nI q) (nI C) num (nI i) = some (fX7_columnAt (pv (rP num w q C i))) := by
  unfold fX3_pivotOf
  rw [bd_t (X3place' hL hLb hR hw hq hi hC hCw)]
/-- scale by nought -/
theorem X3scale0 {L R w q i p : Nat} {num : Nat → Int32} (hL : R * w * q = L) (hLb : L ≤ 1000) (hR : R ≤ 25) (hw : w ≤ 25) (hq : q ≤ 25) (hi : i < R) (hp : 0 < p) (hp2 : p < 1000) : ∃ num', fX3_scale L (nI R) (nI w) (nI q) (nI p) num (nI i) 0 = some num' ∧ ∀ i' c k, c < w → k < q → num' ((i' * w + c) * q + k) = if i' = i then 0 else num ((i' * w + c) * q + k) := by
  have key := loop2 (w := w) (q := q) (fun i_1 z => fX3_scale_s13 L (nI R) (nI w) (nI q) (nI p) (nI i) 0 i_1 z.1 z.2) (fun z => fX3_scale_s2 L (nI R) (nI w) (nI q) (nI p) (nI i) 0 z.1 z.2)
    (fun c0 k0 m => ∀ i' c k, c < w → k < q → m ((i' * w + c) * q + k) = if i' = i ∧ (c < c0 ∨ c = c0 ∧ k < k0) then 0 else num ((i' * w + c) * q + k)) ?_ ?_ ?_ ?_ num ?_
  · obtain ⟨num', h1, h2⟩ := key
    refine ⟨num', ?_, ?_⟩
    · unfold fX3_scale
      exact bd_t h1
    · intro i' c k hc hk
      rw [h2 i' c k hc hk]
      by_cases h : i' = i
      · rw [if_pos ⟨h, Or.inl hc⟩, if_pos h]
      · rw [if_neg (fun z => h z.1), if_neg h]
  · intro c k m hc hk hI
    have z0 : ((0 : Int32) * m ((i * w + c) * q + k)) = 0 := Int32.zero_mul
    refine ⟨upd m ((i * w + c) * q + k) 0, ?_, ?_⟩
    · dsimp only
      unfold fX3_scale_s13
      rw [if_neg (nI_ge hk (by omega)), bd_t (X3at_in hL hLb hR hw hq hi hc hk), z0]
      rw [bd_t (X3put_in hL hLb hR hw hq hi hc hk hp hp2 (by decide) (by decide))]
      rw [show (0 : Int32).toInt = ((0 : Nat) : Int) from rfl, md_small hp]
      rfl
    · intro i' c' k' hc' hk'
      by_cases he : (i' * w + c') * q + k' = (i * w + c) * q + k
      · obtain ⟨e1, e2, e3⟩ := idx_inj hc' hk' hc hk he
        subst e1; subst e2; subst e3
        rw [pk_us, if_pos (by omega)]
      · rw [pk_un he, hI i' c' k' hc' hk']
        by_cases h : i' = i ∧ (c' < c ∨ c' = c ∧ k' < k)
        · rw [if_pos h, if_pos (by omega)]
        · rw [if_neg h, if_neg]
          intro z
          apply h
          refine ⟨z.1, ?_⟩
          rcases z.2 with z2 | z2
          · exact Or.inl z2
          · refine Or.inr ⟨z2.1, ?_⟩
            by_cases hkk : k' = k
            · exfalso
              apply he
              rw [z.1, z2.1, hkk]
            · omega
  · intro c m hc hI
    refine ⟨?_, ?_⟩
    · dsimp only
      unfold fX3_scale_s13
      rw [if_pos (nI_le (Nat.le_refl _) (by omega))]
    · intro i' c' k' hc' hk'
      rw [hI i' c' k' hc' hk']
      by_cases h : i' = i ∧ (c' < c ∨ c' = c ∧ k' < q)
      · rw [if_pos h, if_pos (by omega)]
      · rw [if_neg h, if_neg (by omega)]
  · intro c m hc
    dsimp only
    unfold fX3_scale_s2
    rw [if_neg (nI_ge hc (by omega))]
  · intro m
    dsimp only
    unfold fX3_scale_s2
    rw [if_pos (nI_le (Nat.le_refl _) (by omega))]
  · intro i' c k hc hk
    rw [if_neg (by omega)]
theorem X3append {L R w q n p : Nat} {num : Nat → Int32} (hL : R * w * q = L) (hLb : L ≤ 1000) (hR : R ≤ 25) (hw : w ≤ 25) (hq : q ≤ 25) (hn : n < R) (hp : 0 < p) (hp2 : p < 1000) : ∃ num', fX3_append L (nI R) (nI w) (nI q) (nI p) (nI n) num = some (nI n, nI (n + 1), num') ∧ ∀ i' c k, c < w → k < q → num' ((i' * w + c) * q + k) = if i' = n then 0 else num ((i' * w + c) * q + k) := by
  obtain ⟨num', h1, h2⟩ := X3scale0 (num := num) hL hLb hR hw hq hn hp hp2
  refine ⟨num', ?_, h2⟩
  have e : ((nI n + (1 : Int32)) - (1 : Int32)) = nI n := by rw [nI_1, nI_pred]
  unfold fX3_append
  rw [if_pos (nI_lt hn (by omega)), e, bd_t h1, nI_1]
