/-! the list of a form: rows of 8 columns and 25 powers; what is done to it -/
def cl8 (num : Nat → Int32) (i c k : Nat) : Int := (num ((i * 8 + c) * 25 + k)).toInt
def Rep8 (p n : Nat) (num : Nat → Int32) : Prop := ∀ i c k, i < n → c < 8 → k < 25 → ∃ v : Nat, v < p ∧ num ((i * 8 + c) * 25 + k) = nI v
def Low8 (C n : Nat) (num : Nat → Int32) : Prop := ∀ i c k, i < n → c < C → 8 ≤ k → k < 25 → num ((i * 8 + c) * 25 + k) = 0
def rw8 (num : Nat → Int32) (i : Nat) : Rw := fun c k => if k < 25 then cl8 num i c k else 0
noncomputable def P8 (num : Nat → Int32) (C i : Nat) : Nat := rP num 8 25 C i
def OpA (p n : Nat) (num num' : Nat → Int32) (i j : Nat) (t : Int) (pw : Nat) : Prop := i < n ∧ j < n ∧ i ≠ j ∧ pw ≤ 7 ∧ (∀ c k, c < 8 → k < 25 → num' ((i * 8 + c) * 25 + k) = nI (md (cl8 num i c k + (if pw ≤ k then t * cl8 num j c (k - pw) else 0)) p)) ∧ ∀ i' c k, i' ≠ i → c < 8 → k < 25 → num' ((i' * 8 + c) * 25 + k) = num ((i' * 8 + c) * 25 + k)
def OpS (p n : Nat) (num num' : Nat → Int32) (i : Nat) (u : Int) : Prop := i < n ∧ (∃ u', (p : Int) ∣ u * u' - 1) ∧ (∀ c k, c < 8 → k < 25 → num' ((i * 8 + c) * 25 + k) = nI (md (u * cl8 num i c k) p)) ∧ ∀ i' c k, i' ≠ i → c < 8 → k < 25 → num' ((i' * 8 + c) * 25 + k) = num ((i' * 8 + c) * 25 + k)
def OpW (n : Nat) (num num' : Nat → Int32) (i j : Nat) : Prop := i < n ∧ j < n ∧ ∀ i' c k, i' < n → c < 8 → k < 25 → num' ((i' * 8 + c) * 25 + k) = num (((if i' = i then j else if i' = j then i else i') * 8 + c) * 25 + k)
def OpR (C n : Nat) (num num' : Nat → Int32) (i : Nat) : Prop := i < n ∧ (∀ c k, c < C → k < 25 → num ((i * 8 + c) * 25 + k) = 0) ∧ ∀ i' c k, i' < n - 1 → c < 8 → k < 25 → num' ((i' * 8 + c) * 25 + k) = num (((if i' < i then i' else i' + 1) * 8 + c) * 25 + k)
/-- kept by all that is done to a list -/
def JC (p C : Nat) (J : Nat → (Nat → Int32) → Prop) : Prop :=
  (∀ n num num' i j t pw, n ≤ 5 → Rep8 p n num → Low8 C n num → J n num → OpA p n num num' i j t pw → Low8 C n num' → J n num') ∧ (∀ n num num' i u, n ≤ 5 → Rep8 p n num → Low8 C n num → J n num → OpS p n num num' i u → J n num') ∧ (∀ n num num' i j, n ≤ 5 → Rep8 p n num → J n num → OpW n num num' i j → J n num') ∧ ∀ n num num' i, n ≤ 5 → Rep8 p n num → J n num → OpR C n num num' i → J (n - 1) num'
theorem md_zero {x : Int} {p : Nat} (hp : 0 < p) (h : (p : Int) ∣ x) : md x p = 0 := by
  have h1 := md_cast (x := x) hp
  rw [Int.emod_eq_zero_of_dvd h] at h1
  omega
theorem md_dvd {x : Int} {p : Nat} (hp : 0 < p) : (p : Int) ∣ (md x p : Int) - x := by
  rw [md_cast hp]
  exact ⟨-(x / p), by
    have := Int.emod_add_mul_ediv x p
    rw [Int.mul_neg]
    omega⟩
theorem nI_md_toInt {x : Int} {p : Nat} (hp : 0 < p) (hp2 : p < 1000) : (nI (md x p)).toInt = (md x p : Int) := nI_toInt (by have := md_lt (x := x) hp; omega)
theorem cel8 (num : Nat → Int32) (i c k : Nat) : (cel num 8 25 i c k).toInt = rw8 num i c k := by
  unfold cel rw8 cl8
  by_cases h : k < 25
  · rw [if_pos h, if_pos h]
  · rw [if_neg h, if_neg h]; rfl
theorem cel8_0 (num : Nat → Int32) (i c k : Nat) : cel num 8 25 i c k = 0 ↔ rw8 num i c k = 0 := by
  rw [← cel8]
  exact ⟨fun h => by rw [h]; rfl, fun h => i32_eq (by rw [h]; rfl)⟩
theorem Rep8_A {p n i j pw : Nat} {t : Int} {num num' : Nat → Int32} (hp : 0 < p) (h : Rep8 p n num) (ho : OpA p n num num' i j t pw) : Rep8 p n num' := by
  intro i' c k hi' hc hk
  by_cases e : i' = i
  · subst e
    exact ⟨_, md_lt hp, ho.2.2.2.2.1 c k hc hk⟩
  · rw [ho.2.2.2.2.2 i' c k e hc hk]
    exact h i' c k hi' hc hk
theorem Rep8_le {p n : Nat} {num : Nat → Int32} {i c k : Nat} (hp2 : p < 1000) (h : Rep8 p n num) (hi : i < n) (hc : c < 8) (hk : k < 25) : 0 ≤ cl8 num i c k ∧ cl8 num i c k < p := by
  obtain ⟨v, hv, e⟩ := h i c k hi hc hk
  unfold cl8
  rw [e, nI_toInt (by omega)]
  omega
theorem plc_bound {C a : Nat} {nz : Nat → Nat → Prop} : ∀ n, (∀ m, a ≤ m → m < n → ¬ (m % 3 < C ∧ nz (m % 3) (m / 3))) → plc C nz n ≤ a := by
  intro n
  induction n with
  | zero => intro _; exact Nat.zero_le _
  | succ n ih =>
    intro h
    unfold plc
    by_cases h1 : n % 3 < C ∧ nz (n % 3) (n / 3)
    · rw [if_pos h1]
      by_cases h2 : a ≤ n
      · exact absurd h1 (h n h2 (by omega))
      · omega
    · rw [if_neg h1]
      exact ih (fun m h2 h3 => h m h2 (by omega))
/-- what lies above a lead is nought -/
theorem above8 {C n i a c k : Nat} {num : Nat → Int32} (hC : C ≤ 3) (hlow : Low8 C n num) (hi : i < n) (ha : P8 num C i = a + 1) (hc : c < C) (hk : k < 25) (h : a < k * 3 + c) : num ((i * 8 + c) * 25 + k) = 0 := by
  by_cases h8 : 8 ≤ k
  · exact hlow i c k hi hc h8 hk
  · have hs := (plc_spec _ _ _ _ ha).2.2.2 (k * 3 + c) h (by omega)
    rw [show (k * 3 + c) % 3 = c by omega, show (k * 3 + c) / 3 = k by omega] at hs
    apply Classical.byContradiction
    intro hne
    apply hs
    refine ⟨hc, ?_⟩
    unfold cel
    rw [if_pos hk]
    exact hne
theorem zero8 {C n i c k : Nat} {num : Nat → Int32} (hC : C ≤ 3) (hlow : Low8 C n num) (hi : i < n) (ha : P8 num C i = 0) (hc : c < C) (hk : k < 25) : num ((i * 8 + c) * 25 + k) = 0 := by
  by_cases h8 : 8 ≤ k
  · exact hlow i c k hi hc h8 hk
  · have hs := plc_zero _ _ _ ha (k * 3 + c) (by omega)
    rw [show (k * 3 + c) % 3 = c by omega, show (k * 3 + c) / 3 = k by omega] at hs
    apply Classical.byContradiction
    intro hne
    apply hs
    refine ⟨hc, ?_⟩
    unfold cel
    rw [if_pos hk]
    exact hne
theorem P8_same {C i i2 : Nat} {num num' : Nat → Int32} (hC : C ≤ 3) (h : ∀ c k, c < 8 → k < 25 → num' ((i2 * 8 + c) * 25 + k) = num ((i * 8 + c) * 25 + k)) : P8 num' C i2 = P8 num C i := by
  unfold P8 rP
  refine plc_congr 24 (fun m hm hmc => ?_)
  unfold cel
  rw [if_pos (by omega), if_pos (by omega), h (m % 3) (m / 3) (by omega) (by omega)]
/-- a step that takes a lead away -/
theorem step8 {p C n i j a b vi vj u : Nat} {num num' : Nat → Int32} (hp : p = 2 ∨ p = 3 ∨ p = 5 ∨ p = 7) (hC : C ≤ 3) (hrep : Rep8 p n num) (hlow : Low8 C n num) (hcs : CS (P8 num C) i j) (hi : i < n) (hj : j < n) (ha : P8 num C i = a + 1) (hb : P8 num C j = b + 1) (hvi : cel num 8 25 i (a % 3) (a / 3) = nI vi) (hvj : cel num 8 25 j (b % 3) (b / 3) = nI vj) (hvip : vi < p) (hvjp : vj < p) (hu : isinv p vj u) (ho : OpA p n num num' i j (md (-(vi : Int) * u) p) (a / 3 - b / 3)) : Low8 C n num' ∧ P8 num' C i ≤ a ∧ ∀ i', i' ≠ i → P8 num' C i' = P8 num C i' := by
  have hp0 : 0 < p := by omega
  obtain ⟨-, -, hij, hpw, h1, h2⟩ := ho
  have hab : b ≤ a := by have := hcs.2.2.2.1; omega
  have hmod : a % 3 = b % 3 := by have := hcs.2.2.2.2; rw [ha, hb] at this; omega
  have ha24 : a < 24 := (plc_spec _ _ _ _ ha).1
  have haC : a % 3 < C := (plc_spec _ _ _ _ ha).2.1
  have hzero : ∀ c k, c < C → k < 25 → a < k * 3 + c → num' ((i * 8 + c) * 25 + k) = 0 := by
    intro c k hc hk h
    have e1 : cl8 num i c k = 0 := by
      unfold cl8
      rw [above8 hC hlow hi ha hc hk h]
      rfl
    have e2 : (if a / 3 - b / 3 ≤ k then (md (-(vi : Int) * u) p : Int) * cl8 num j c (k - (a / 3 - b / 3)) else 0) = 0 := by
      by_cases hpk : a / 3 - b / 3 ≤ k
      · rw [if_pos hpk]
        have e3 : cl8 num j c (k - (a / 3 - b / 3)) = 0 := by
          unfold cl8
          rw [above8 hC hlow hj hb hc (by omega) (by omega)]
          rfl
        rw [e3, Int.mul_zero]
      · rw [if_neg hpk]
    rw [h1 c k (by omega) hk, e1, e2, Int.add_zero, md_zero hp0 ⟨0, by omega⟩]
    rfl
  refine ⟨?_, ?_, ?_⟩
  · intro i' c k hi' hc h8 hk
    by_cases e : i' = i
    · rw [e]
      exact hzero c k hc hk (by omega)
    · rw [h2 i' c k e (by omega) hk]
      exact hlow i' c k hi' hc h8 hk
  · show plc C (fun c k => cel num' 8 25 i c k ≠ 0) 24 ≤ a
    refine plc_bound 24 (fun m hm1 hm2 => ?_)
    rintro ⟨hm3, hm4⟩
    apply hm4
    unfold cel
    rw [if_pos (by omega)]
    by_cases e : m = a
    · subst e
      rw [h1 (m % 3) (m / 3) (by omega) (by omega)]
      have e1 : cl8 num i (m % 3) (m / 3) = (vi : Int) := by
        have := hvi
        unfold cel at this
        rw [if_pos (by omega)] at this
        unfold cl8
        rw [this, nI_toInt (by omega)]
      have e2 : cl8 num j (m % 3) (m / 3 - (m / 3 - b / 3)) = (vj : Int) := by
        have := hvj
        unfold cel at this
        rw [if_pos (by omega)] at this
        unfold cl8
        rw [hmod, show m / 3 - (m / 3 - b / 3) = b / 3 by omega, this, nI_toInt (by omega)]
      rw [if_pos (by omega), e1, e2, md_zero hp0]
      · rfl
      · obtain ⟨z, hz⟩ := md_dvd (x := -(vi : Int) * u) hp0
        have hmod2 : (p : Int) ∣ (vj : Int) * u - 1 := by
          have h3 := hu.2.2
          have h4 := Nat.div_add_mod (vj * u) p
          rw [h3] at h4
          refine ⟨((vj * u / p : Nat) : Int), ?_⟩
          have h5 : ((p * (vj * u / p) + 1 : Nat) : Int) = ((vj * u : Nat) : Int) := by rw [h4]
          rw [Int.natCast_add, Int.natCast_mul, Int.natCast_mul] at h5
          omega
        obtain ⟨y, hy⟩ := hmod2
        refine ⟨z * vj - vi * y, ?_⟩
        have e3 : (md (-(vi : Int) * u) p : Int) = -(vi : Int) * u + p * z := by omega
        have e4 : (vj : Int) * u = 1 + p * y := by omega
        rw [e3, Int.add_mul, Int.mul_assoc, Int.mul_comm (u : Int) vj, e4, Int.mul_add, Int.mul_one, Int.mul_sub, Int.neg_mul]
        have e5 : (vi : Int) * (↑p * y) = ↑p * (↑vi * y) := by rw [← Int.mul_assoc, Int.mul_comm (vi : Int) p, Int.mul_assoc]
        have e6 : ↑p * z * (vj : Int) = ↑p * (z * ↑vj) := Int.mul_assoc ..
        rw [e5, e6]
        omega
    · have := hzero (m % 3) (m / 3) hm3 (by omega) (by omega)
      exact this
  · intro i' e
    exact P8_same hC (fun c k hc hk => h2 i' c k e hc hk)
def sN : Nat → (Nat → Nat) → Nat
  | 0, _ => 0
  | n + 1, f => sN n f + f n
theorem sN_lt {n i : Nat} {f g : Nat → Nat} (hi : i < n) (h1 : f i < g i) (h2 : ∀ j, j ≠ i → f j = g j) : sN n f < sN n g := by
  induction n with
  | zero => omega
  | succ n ih =>
    show sN n f + f n < sN n g + g n
    by_cases e : i = n
    · subst e
      have e1 : ∀ m, m ≤ i → sN m f = sN m g := by
        intro m
        induction m with
        | zero => intro _; rfl
        | succ m ihm => intro hm; show sN m f + f m = sN m g + g m; rw [ihm (by omega), h2 m (by omega)]
      have := e1 i (Nat.le_refl _)
      omega
    · have := ih (by omega)
      have := h2 n (fun z => e z.symm)
      omega
theorem sN_le {n B : Nat} {f : Nat → Nat} (h : ∀ i, f i ≤ B) : sN n f ≤ n * B := by
  induction n with
  | zero => exact Nat.zero_le _
  | succ n ih =>
    show sN n f + f n ≤ _
    rw [Nat.succ_mul]
    have := h n
    omega
/-- the class's loop of steps -/
theorem steps8 {p C n : Nat} {num : Nat → Int32} {n0 p0 s0 t0 z0 : Int32} {pl : Nat → Int32} (J : Nat → (Nat → Int32) → Prop) (hp : p = 2 ∨ p = 3 ∨ p = 5 ∨ p = 7) (hC : C ≤ 3) (hn : n ≤ 5) (hJC : JC p C J) (hrep : Rep8 p n num) (hlow : Low8 C n num) (hJ : J n num) :
    ∃ r, Lp (fun (z : Int32 × (Nat → Int32) × Int32 × Int32 × Int32 × Int32 × Int32 × (Nat → Int32)) => fX2_toForm_s2 (nI p) (nI C) (nI n) z.1 z.2.1 z.2.2.1 z.2.2.2.1 z.2.2.2.2.1 z.2.2.2.2.2.1 z.2.2.2.2.2.2.1 z.2.2.2.2.2.2.2) ((0 : Int32), num, n0, p0, s0, t0, z0, pl) = some r ∧ Rep8 p n r.1 ∧ Low8 C n r.1 ∧ J n r.1 ∧ ∀ i j, i < n → j < n → ¬ CS (P8 r.1 C) i j := by
  refine Lp_all (fun s => ∃ j, s.1 = nI j ∧ j + sN n (P8 s.2.1 C) ≤ 200 ∧ Rep8 p n s.2.1 ∧ Low8 C n s.2.1 ∧ J n s.2.1) (fun s => sN n (P8 s.2.1 C)) _ ?_ ((0 : Int32), num, n0, p0, s0, t0, z0, pl) ⟨0, rfl, ?_, hrep, hlow, hJ⟩
  · rintro ⟨s1, m, s3, s4, s5, s6, s7, s8⟩ ⟨j, hj, hjm, hr, hl, hJm⟩
    dsimp only at hj hjm hr hl hJm ⊢
    subst hj
    unfold fX2_toForm_s2
    rw [show (10000 : Int32) = nI 10000 from rfl, if_neg (nI_ge (by omega) (by omega))]
    rcases X6find (L := 1000) (R := 5) (w := 8) (q := 25) (n := n) (C := C) (p := p) (num := m) (places := s8) (t0 := s6) (s0 := s5) (n0 := s3) (p0 := s4) rfl (by omega) (by omega) (by omega) (by omega) hn hn hC (by omega) hp hr with ⟨pl', h1, h2⟩ | ⟨i, j', a, b, vi, vj, u, pl', hfp, ha, hb, hvi, hvj, hvi0, hvip, hvj0, hvjp, hu, h1⟩
    · refine Or.inr ⟨_, (bd7_t h1).trans (if_pos rfl), hr, hl, hJm, h2⟩
    · have hcs := hfp.2.2.1
      have hi := hfp.1
      have hj' := hfp.2.1
      have ha24 : a < 24 := (plc_spec _ _ _ _ ha).1
      have hmdI : (nI (md (-(vi : Int) * u) p)).toInt = (md (-(vi : Int) * u) p : Int) := nI_md_toInt (by omega) (by omega)
      have hmdl := md_lt (x := -(vi : Int) * u) (show 0 < p by omega)
      obtain ⟨num', g1, g2, g3⟩ := X3addS (L := 1000) (R := 5) (w := 8) (q := 25) (i := i) (j := j') (p := p) (pw := a / 3 - b / 3) (num := m) (t := nI (md (-(vi : Int) * u) p)) (fun c k => (m ((j' * 8 + c) * 25 + k)).toInt.toNat) rfl (by omega) (by omega) (by omega) (by omega) (by omega) (by omega) (fun e => hcs.1 e.symm) (by omega) (by omega) (by omega) (by rw [hmdI]; omega) (by rw [hmdI]; omega)
        (fun c k hc hk => by
          obtain ⟨v, hv, e⟩ := hr j' c k hj' hc hk
          rw [e, nI_toInt (by omega)]
          exact ⟨by omega, rfl⟩)
        (fun c k hc hk => hr i c k hi hc hk)
      have hop : OpA p n m num' i j' (md (-(vi : Int) * u) p) (a / 3 - b / 3) := by
        refine ⟨hi, hj', hcs.1, by omega, ?_, g3⟩
        intro c k hc hk
        rw [g2 c k hc hk, hmdI]
        have e1 : (if a / 3 - b / 3 ≤ k ∧ k - (a / 3 - b / 3) < 25 then (md (-(vi : Int) * u) p : Int) * (((m ((j' * 8 + c) * 25 + (k - (a / 3 - b / 3)))).toInt.toNat : Nat) : Int) else 0) = (if a / 3 - b / 3 ≤ k then (md (-(vi : Int) * u) p : Int) * cl8 m j' c (k - (a / 3 - b / 3)) else 0) := by
          by_cases h : a / 3 - b / 3 ≤ k
          · rw [if_pos ⟨h, by omega⟩, if_pos h]
            have := (Rep8_le (by omega) hr hj' hc (show k - (a / 3 - b / 3) < 25 by omega)).1
            unfold cl8 at this ⊢
            rw [Int.toNat_of_nonneg this]
          · rw [if_neg (fun z => h z.1), if_neg h]
        rw [e1]
        rfl
      obtain ⟨q1, q2, q3⟩ := step8 hp hC hr hl hcs hi hj' ha hb hvi hvj hvip hvjp hu hop
      have hJ' := hJC.1 n m num' i j' _ _ hn hr hl hJm hop q1
      have hdec : sN n (P8 num' C) < sN n (P8 m C) := sN_lt hi (by have : P8 m C i = a + 1 := ha; omega) q3
      refine Or.inl ⟨_, (bd7_t h1).trans ((if_neg (by decide)).trans (bd_t g1)), ⟨j + 1, nI_1 j, ?_, Rep8_A (by omega) hr hop, q1, hJ'⟩, hdec⟩
      dsimp only
      omega
  · have := sN_le (n := n) (f := P8 num C) (fun i => rP_le num 8 25 C i)
    have : n * 24 ≤ 5 * 24 := Nat.mul_le_mul_right 24 hn
    dsimp only
    omega
