/-! the list: noughts go, leads become 1 -/
theorem X3remove8 {m i : Nat} {num : Nat → Int32} (hm : m ≤ 5) (hi : i < m) : ∃ num', fX3_remove 1000 (8 : Int32) (25 : Int32) (nI m) num (nI i) = some (nI (m - 1), num') ∧ ∀ i' c k, i' < m - 1 → c < 8 → k < 25 → num' ((i' * 8 + c) * 25 + k) = num (((if i' < i then i' else i' + 1) * 8 + c) * 25 + k) := by
  refine ⟨va_cpy num num ((i + 1) * 200) (i * 200) ((m - 1 - i) * 200), ?_, ?_⟩
  · have e1 : ((nI i + (1 : Int32)) * ((8 : Int32) * (25 : Int32))) = nI ((i + 1) * 200) := by rw [show ((8 : Int32) * (25 : Int32)) = nI 200 from rfl, nI_1, pk_mul]
    have e2 : (nI i * ((8 : Int32) * (25 : Int32))) = nI (i * 200) := by rw [show ((8 : Int32) * (25 : Int32)) = nI 200 from rfl, pk_mul]
    have e0 : (nI m - (1 : Int32)) = nI (m - 1) := pk_sub (b := 1) (by omega)
    have e3 : (((nI m - (1 : Int32)) - nI i) * ((8 : Int32) * (25 : Int32))) = nI ((m - 1 - i) * 200) := by rw [e0, pk_sub (by omega), show ((8 : Int32) * (25 : Int32)) = nI 200 from rfl, pk_mul]
    have hr : fX3_hasRow (nI m) (nI i) = 1 := by
      unfold fX3_hasRow
      rw [if_neg (nI_pos (by omega)), if_neg (nI_ge hi (by omega))]
    unfold fX3_remove
    rw [hr, if_neg (by decide), e1, e2, e3, e0, gd_t (nI_pos (by omega)), gd_t (nI_pos (by omega)), gd_t (nI_pos (by omega)), nI_clamp (by omega), nI_clamp (by omega), nI_clamp (by omega), gd_t (by omega), gd_t (by omega)]
  · intro i' c k hi' hc hk
    by_cases h : i' < i
    · rw [if_pos h, pk_cpy_out (by omega)]
    · rw [if_neg h, pk_cpy_in (by omega) (by omega)]
      congr 1
      omega
theorem Rep8_R {p C m i : Nat} {num num' : Nat → Int32} (h : Rep8 p m num) (ho : OpR C m num num' i) : Rep8 p (m - 1) num' := by
  intro i' c k hi' hc hk
  rw [ho.2.2 i' c k hi' hc hk]
  exact h _ c k (by split <;> omega) hc hk
theorem Low8_R {C m i : Nat} {num num' : Nat → Int32} (hC : C ≤ 3) (h : Low8 C m num) (ho : OpR C m num num' i) : Low8 C (m - 1) num' := by
  intro i' c k hi' hc h8 hk
  rw [ho.2.2 i' c k hi' (by omega) hk]
  exact h _ c k (by split <;> omega) hc h8 hk
theorem P8_R {C m i i' : Nat} {num num' : Nat → Int32} (hC : C ≤ 3) (ho : OpR C m num num' i) (hi' : i' < m - 1) : P8 num' C i' = P8 num C (if i' < i then i' else i' + 1) := P8_same hC (fun c k hc hk => ho.2.2 i' c k hi' hc hk)
theorem noCS_R {C m i : Nat} {num num' : Nat → Int32} (hC : C ≤ 3) (ho : OpR C m num num' i) (h : ∀ a b, a < m → b < m → ¬ CS (P8 num C) a b) : ∀ a b, a < m - 1 → b < m - 1 → ¬ CS (P8 num' C) a b := by
  intro a b ha hb hcs
  unfold CS at hcs
  rw [P8_R hC ho ha, P8_R hC ho hb] at hcs
  refine h (if a < i then a else a + 1) (if b < i then b else b + 1) (by split <;> omega) (by split <;> omega) ⟨?_, hcs.2⟩
  intro e
  apply hcs.1
  by_cases h1 : a < i <;> by_cases h2 : b < i <;> simp only [h1, h2, if_true, if_false] at e <;> omega
theorem removes8 {p C n : Nat} {num : Nat → Int32} (J : Nat → (Nat → Int32) → Prop) (hp : p = 2 ∨ p = 3 ∨ p = 5 ∨ p = 7) (hC : C ≤ 3) (hn : n ≤ 5) (hJC : JC p C J) (hrep : Rep8 p n num) (hlow : Low8 C n num) (hJ : J n num) (hcs : ∀ i j, i < n → j < n → ¬ CS (P8 num C) i j) : ∃ m num', fX2_removeZeros (nI C) (nI n) num = some (nI m, num') ∧ m ≤ n ∧ Rep8 p m num' ∧ Low8 C m num' ∧ J m num' ∧ (∀ i j, i < m → j < m → ¬ CS (P8 num' C) i j) ∧ ∀ i, i < m → P8 num' C i ≠ 0 := by
  obtain ⟨r, h1, m, num', h2, h3⟩ := Lp_dn (fun i (s : Int32 × (Nat → Int32)) => (i, s.1, s.2)) (g := fun (z : Int32 × Int32 × (Nat → Int32)) => fX2_removeZeros_s10 (nI C) z.1 z.2.1 z.2.2) (fun j s => ∃ m, s.1 = nI m ∧ j ≤ m ∧ m ≤ n ∧ Rep8 p m s.2 ∧ Low8 C m s.2 ∧ J m s.2 ∧ (∀ a b, a < m → b < m → ¬ CS (P8 s.2 C) a b) ∧ ∀ a, j ≤ a → a < m → P8 s.2 C a ≠ 0)
    (fun r => ∃ m num', r = (nI m, num') ∧ m ≤ n ∧ Rep8 p m num' ∧ Low8 C m num' ∧ J m num' ∧ (∀ i j, i < m → j < m → ¬ CS (P8 num' C) i j) ∧ ∀ i, i < m → P8 num' C i ≠ 0) n
    (fun j s hj hI => by
      obtain ⟨s1, s2⟩ := s
      obtain ⟨m, e, hjm, hmn, q1, q2, q3, q4, q5⟩ := hI
      dsimp only at e q1 q2 q3 q4 q5 ⊢
      subst e
      have hd := X3deg (L := 1000) (R := 5) (w := 8) (q := 25) (i := j) (C := C) (num := s2) rfl (by omega) (by omega) (by omega) (by omega) (by omega) hC (by omega)
      have hPle := rP_le s2 8 25 C j
      unfold fX2_removeZeros_s10
      rw [if_neg (nI_pos (by omega))]
      by_cases h0 : P8 s2 C j = 0
      · have hd2 : fX3_degreeOf 1000 5 8 25 (nI C) s2 (nI j) = some (-1) := by
          have : rP s2 8 25 C j = 0 := h0
          rw [this, pv_0, powerAt_m1] at hd
          exact hd
        obtain ⟨num', g1, g2⟩ := X3remove8 (num := s2) (m := m) (i := j) (by omega) (by omega)
        have hop : OpR C m s2 num' j := ⟨by omega, fun c k hc hk => zero8 hC q2 (by omega) h0 hc hk, g2⟩
        refine Or.inl ⟨(nI (m - 1), num'), (bd_t hd2).trans ((if_pos rfl).trans (bd2_t g1)), m - 1, rfl, by omega, by omega, Rep8_R q1 hop, Low8_R hC q2 hop, hJC.2.2.2 m s2 num' j (by omega) q1 q3 hop, noCS_R hC hop q4, ?_⟩
        intro a ha1 ha2
        dsimp only
        rw [P8_R hC hop ha2, if_neg (by omega)]
        exact q5 (a + 1) (by omega) (by omega)
      · obtain ⟨a, ha⟩ : ∃ a, P8 s2 C j = a + 1 := ⟨P8 s2 C j - 1, by omega⟩
        have ha2 : rP s2 8 25 C j = a + 1 := ha
        rw [ha2, pv_s, powerAt_nI (by omega)] at hd
        refine Or.inl ⟨(nI m, s2), (bd_t hd).trans (if_neg (nI_m1 (by omega))), m, rfl, by omega, hmn, q1, q2, q3, q4, ?_⟩
        intro b hb1 hb2
        by_cases e : b = j
        · rw [e]; exact h0
        · exact q5 b (by omega) hb2)
    (fun s hI => by
      obtain ⟨s1, s2⟩ := s
      obtain ⟨m, e, hjm, hmn, q1, q2, q3, q4, q5⟩ := hI
      dsimp only at e q1 q2 q3 q4 q5 ⊢
      subst e
      refine ⟨(nI m, s2), ?_, m, s2, rfl, hmn, q1, q2, q3, q4, fun i hi => q5 i (Nat.zero_le _) hi⟩
      unfold fX2_removeZeros_s10
      rw [if_pos (by decide)]) n (nI n, num) (Nat.le_refl _) ⟨n, rfl, Nat.le_refl _, Nat.le_refl _, hrep, hlow, hJ, hcs, fun a h1 h2 => absurd h2 (by omega)⟩
  refine ⟨m, num', ?_, h3⟩
  subst h2
  unfold fX2_removeZeros
  have e : (nI n - (1 : Int32)) = nI n + (-1) := Int32.sub_eq_add_neg ..
  rw [e]
  exact bd2_t h1
/-! leads 1 -/
def ld1 (C m : Nat) (num : Nat → Int32) : Prop := ∀ i a, i < m → P8 num C i = a + 1 → num ((i * 8 + a % 3) * 25 + a / 3) = 1
theorem S_zero {p : Nat} {u u' : Int} {v : Nat} (hp : 0 < p) (hv : v < p) (hu : (p : Int) ∣ u * u' - 1) (h : md (u * (v : Int)) p = 0) : v = 0 := by
  have h1 := md_cast (x := u * (v : Int)) hp
  rw [h] at h1
  have h2 : (p : Int) ∣ u * (v : Int) := Int.dvd_of_emod_eq_zero h1.symm
  obtain ⟨z, hz⟩ := h2
  obtain ⟨y, hy⟩ := hu
  have h3 : (p : Int) ∣ (v : Int) := by
    refine ⟨u' * z - y * v, ?_⟩
    have e1 : u * u' = 1 + p * y := by omega
    have e2 : (v : Int) * (u * u') = v + v * (p * y) := by rw [e1, Int.mul_add, Int.mul_one]
    have e3 : (v : Int) * (u * u') = u' * (p * z) := by rw [← hz, Int.mul_comm u u', ← Int.mul_assoc, Int.mul_comm (v : Int) u', Int.mul_assoc, Int.mul_comm (v : Int) u]
    have e4 : (v : Int) * (↑p * y) = ↑p * (y * ↑v) := by rw [← Int.mul_assoc, Int.mul_comm (v : Int) p, Int.mul_assoc, Int.mul_comm (v : Int) y]
    have e5 : u' * (↑p * z) = ↑p * (u' * z) := by rw [← Int.mul_assoc, Int.mul_comm u' p, Int.mul_assoc]
    rw [Int.mul_sub, ← e5, ← e4]
    omega
  obtain ⟨y, hy⟩ := h3
  have : (v : Int) = 0 := by
    apply Classical.byContradiction
    intro hne
    have h5 := Int.le_of_dvd (show (0 : Int) < v by omega) ⟨y, hy⟩
    omega
  omega
theorem P8_S {p C n i : Nat} {u : Int} {num num' : Nat → Int32} (hp : 0 < p) (hp2 : p < 1000) (hC : C ≤ 3) (hrep : Rep8 p n num) (ho : OpS p n num num' i u) : P8 num' C i = P8 num C i := by
  obtain ⟨hi, ⟨u', hu⟩, h1, -⟩ := ho
  unfold P8 rP
  refine plc_congr 24 (fun m hm hmc => ?_)
  unfold cel
  rw [if_pos (by omega), if_pos (by omega), h1 (m % 3) (m / 3) (by omega) (by omega)]
  obtain ⟨v, hv, hve⟩ := hrep i (m % 3) (m / 3) hi (by omega) (by omega)
  have hcl : cl8 num i (m % 3) (m / 3) = (v : Int) := by unfold cl8; rw [hve, nI_toInt (by omega)]
  rw [hcl, hve]
  constructor
  · intro h e
    apply h
    have : v = 0 := by
      apply Classical.byContradiction
      intro hne
      exact nI_ne0 (by omega) (by omega) e
    rw [this, Int.natCast_zero, Int.mul_zero, md_zero hp ⟨0, by omega⟩]
    rfl
  · intro h e
    apply h
    have hm0 : md (u * (v : Int)) p = 0 := by
      apply Classical.byContradiction
      intro hne
      have := md_lt (x := u * (v : Int)) hp
      exact nI_ne0 (by omega) (by omega) e
    rw [S_zero hp hv hu hm0]
    rfl
theorem Rep8_S {p n i : Nat} {u : Int} {num num' : Nat → Int32} (hp : 0 < p) (h : Rep8 p n num) (ho : OpS p n num num' i u) : Rep8 p n num' := by
  intro i' c k hi' hc hk
  by_cases e : i' = i
  · subst e
    exact ⟨_, md_lt hp, ho.2.2.1 c k hc hk⟩
  · rw [ho.2.2.2 i' c k e hc hk]
    exact h i' c k hi' hc hk
theorem Low8_S {p C n i : Nat} {u : Int} {num num' : Nat → Int32} (hp : 0 < p) (hC : C ≤ 3) (h : Low8 C n num) (ho : OpS p n num num' i u) : Low8 C n num' := by
  intro i' c k hi' hc h8 hk
  by_cases e : i' = i
  · subst e
    have e0 : cl8 num i' c k = 0 := by unfold cl8; rw [h i' c k hi' hc h8 hk]; rfl
    rw [ho.2.2.1 c k (by omega) hk, e0, Int.mul_zero, md_zero hp ⟨0, by omega⟩]
    rfl
  · rw [ho.2.2.2 i' c k e (by omega) hk]
    exact h i' c k hi' hc h8 hk
theorem scales8 {p C m : Nat} {num : Nat → Int32} (J : Nat → (Nat → Int32) → Prop) (hp : p = 2 ∨ p = 3 ∨ p = 5 ∨ p = 7) (hC : C ≤ 3) (hm : m ≤ 5) (hJC : JC p C J) (hrep : Rep8 p m num) (hlow : Low8 C m num) (hJ : J m num) (hne : ∀ i, i < m → P8 num C i ≠ 0) : ∃ num', Lp (fun (z : Int32 × (Nat → Int32)) => fX2_toForm_s74 (nI p) (nI C) (nI m) z.1 z.2) ((0 : Int32), num) = some num' ∧ Rep8 p m num' ∧ Low8 C m num' ∧ J m num' ∧ (∀ i, i < m → P8 num' C i = P8 num C i) ∧ ld1 C m num' := by
  refine Lp_up (fun i s => (i, s)) m (fun j s => Rep8 p m s ∧ Low8 C m s ∧ J m s ∧ (∀ i, i < m → P8 s C i = P8 num C i) ∧ ∀ i a, i < j → P8 s C i = a + 1 → s ((i * 8 + a % 3) * 25 + a / 3) = 1) _ ?_ ?_ 0 num (Nat.zero_le _) ⟨hrep, hlow, hJ, fun _ _ => rfl, fun i a hi => absurd hi (Nat.not_lt_zero _)⟩
  · rintro j s hj ⟨q1, q2, q3, q4, q5⟩
    obtain ⟨a, ha⟩ : ∃ a, P8 s C j = a + 1 := ⟨P8 s C j - 1, by have := hne j hj; have := q4 j hj; omega⟩
    have ha2 : rP s 8 25 C j = a + 1 := ha
    have ha24 : a < 24 := (plc_spec _ _ _ _ ha).1
    have hnz := (plc_spec _ _ _ _ ha).2.2.1
    obtain ⟨v, hv, hve⟩ := q1 j (a % 3) (a / 3) hj (by omega) (by omega)
    have hcel : cel s 8 25 j (a % 3) (a / 3) = nI v := by unfold cel; rw [if_pos (by omega), hve]
    have hv0 : 0 < v := by
      apply Classical.byContradiction
      intro h
      apply hnz
      rw [hcel, show v = 0 by omega]
      rfl
    obtain ⟨u, hu, hue⟩ := X7inv hp hv0 hv
    have hl := X3lead (L := 1000) (R := 5) (w := 8) (q := 25) (i := j) (C := C) (num := s) rfl (by omega) (by omega) (by omega) (by omega) (by omega) hC (by omega) ha2
    rw [hcel] at hl
    obtain ⟨num', g1, g2⟩ := X3scale (L := 1000) (R := 5) (w := 8) (q := 25) (i := j) (p := p) (t := u) (num := s) rfl (by omega) (by omega) (by omega) (by omega) (by omega) (by omega) (by omega) (by have := hu.2.1; omega) (fun c k hc hk => by
      obtain ⟨v, hv, e⟩ := q1 j c k hj hc hk
      exact ⟨v, by omega, e⟩)
    have huv : (p : Int) ∣ (u : Int) * (v : Int) - 1 := by
      have h3 := hu.2.2
      have h4 := Nat.div_add_mod (v * u) p
      rw [h3] at h4
      refine ⟨((v * u / p : Nat) : Int), ?_⟩
      have h5 : ((p * (v * u / p) + 1 : Nat) : Int) = ((v * u : Nat) : Int) := by rw [h4]
      rw [Int.natCast_add, Int.natCast_mul, Int.natCast_mul] at h5
      rw [Int.mul_comm (u : Int) v]
      omega
    have hop : OpS p m s num' j (u : Int) := by
      refine ⟨hj, ⟨v, huv⟩, fun c k hc hk => ?_, fun i' c k e hc hk => ?_⟩
      · rw [g2 j c k hc hk, if_pos rfl]
        rfl
      · rw [g2 i' c k hc hk, if_neg e]
    have hPj := P8_S (by omega) (by omega) hC q1 hop
    have hPo : ∀ i, i ≠ j → P8 num' C i = P8 s C i := fun i e => P8_same hC (fun c k hc hk => hop.2.2.2 i c k e hc hk)
    refine Or.inl ⟨num', ?_, Rep8_S (by omega) q1 hop, Low8_S (by omega) hC q2 hop, hJC.2.1 m s num' j u hm q1 q2 q3 hop, ?_, ?_⟩
    · dsimp only
      unfold fX2_toForm_s74
      rw [if_neg (nI_ge hj (by omega))]
      exact (bd_t hl).trans ((bd_t hue).trans (bd_t g1))
    · intro i hi
      by_cases e : i = j
      · rw [e, hPj]; exact q4 j hj
      · rw [hPo i e]; exact q4 i hi
    · intro i b hi hb
      by_cases e : i = j
      · subst e
        rw [hPj, ha] at hb
        have : b = a := by omega
        subst this
        have hcl : cl8 s i (b % 3) (b / 3) = (v : Int) := by unfold cl8; rw [hve, nI_toInt (by omega)]
        rw [hop.2.2.1 (b % 3) (b / 3) (by omega) (by omega), hcl]
        have e1 : md ((u : Int) * (v : Int)) p = 1 := by
          have h3 := hu.2.2
          have h4 : ((u : Int) * (v : Int)) = ((v * u : Nat) : Int) := by rw [Int.natCast_mul, Int.mul_comm]
          rw [h4, md_nat, h3]
        rw [e1]
        rfl
      · rw [hPo i e] at hb
        rw [hop.2.2.2 i (b % 3) (b / 3) e (by omega) (by have := (plc_spec _ _ _ _ hb).1; omega)]
        exact q5 i b (by omega) hb
  · rintro s ⟨q1, q2, q3, q4, q5⟩
    refine ⟨s, ?_, q1, q2, q3, q4, q5⟩
    dsimp only
    unfold fX2_toForm_s74
    rw [if_pos (nI_le (Nat.le_refl _) (by omega))]
