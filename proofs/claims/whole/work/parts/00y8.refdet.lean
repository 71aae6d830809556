/-! the reference's determinants -/
/-- numbers of an array as a polynomial -/
def ap (N : Nat) (X : Nat → Int32) : Pl := fun k => if k < N then (X k).toInt else 0
def smallA (p N : Nat) (X : Nat → Int32) : Prop := ∀ k, k < N → ∃ v : Nat, v < p ∧ X k = nI v
/-- an entry of the state as a polynomial -/
def en (V : Nat → Nat → Nat → Nat) (i c : Nat) : Pl := fun k => if k < 7 then (V i c k : Int) else 0
theorem en_hi {V : Nat → Nat → Nat → Nat} {i c : Nat} : ∀ k, 7 ≤ k → en V i c k = 0 := fun k h => if_neg (by omega)
theorem X8begins10 (X : Nat → Int32) : ∃ Y, fX8_begins_e0x10 X = some Y ∧ ∀ k, k < 25 → Y k = 0 := by
  obtain ⟨r, h1, h2, -⟩ := Lp_arr (g := fun (z : Int32 × (Nat → Int32)) => fX8_begins_e0x10_s2 z.1 z.2) (a := 0) (N := 25) (A := X) (fun k => k) (fun _ => 0) (by omega) (fun i j _ h _ => by omega) (fun k s _ hk _ => by
      dsimp only
      unfold fX8_begins_e0x10_s2
      rw [if_neg (show ¬ (25 : Int32) ≤ nI k from (nI_ge hk (by omega) : ¬ nI 25 ≤ nI k)), gd_t (vp_in_nI (by omega) (by omega)), nI_clamp (by omega)]) (fun s _ => by
      dsimp only
      unfold fX8_begins_e0x10_s2
      rw [if_pos (show (25 : Int32) ≤ nI 25 from nI_le (Nat.le_refl 25) (by omega))])
  refine ⟨r, ?_, fun k hk => h2 k (by omega) hk⟩
  unfold fX8_begins_e0x10
  exact bd_t h1
theorem X8begins9 (X : Nat → Int32) : ∃ Y, fX8_begins_e0x9 X = some Y ∧ ∀ k, k < 25 → Y k = 0 := by
  obtain ⟨Y, h1, h2⟩ := X8begins10 X
  exact ⟨Y, h1, h2⟩
theorem X8begins8 (X : Nat → Int32) : ∃ Y, fX8_begins_e0x8 X = some Y ∧ ∀ k, k < 25 → Y k = 0 := by
  obtain ⟨Y, h1, h2⟩ := X8begins10 X
  exact ⟨Y, h1, h2⟩
theorem X8begins12 (X : Nat → Int32) : ∃ Y, fX8_begins_e0x12 X = some Y ∧ ∀ k, k < 25 → Y k = 0 := by
  obtain ⟨Y, h1, h2⟩ := X8begins10 X
  exact ⟨Y, h1, h2⟩
theorem ap_nI {p N k v : Nat} {X : Nat → Int32} (hk : k < N) (hv : v < 1000) (h : X k = nI v) : ap N X k = (v : Int) := by
  unfold ap
  rw [if_pos hk, h, nI_toInt (by omega)]
/-- one times an entry -/
theorem X8multiplies {p n i c L : Nat} {A one two : Nat → Int32} (V : Nat → Nat → Nat → Nat) (b0 : A 0 = nI p) (hp0 : 0 < p) (hp10 : p < 10) (hn : n ≤ 5) (hi : i < n) (hc : c < 3) (hV : ∀ i c k, i < n → c < 3 → k < 7 → V i c k < p ∧ A (3 + (i * 3 + c) * 7 + k) = nI (V i c k)) (ho : smallA p 25 one) (hL : L + 6 ≤ 25) (hz : ∀ k, L ≤ k → k < 25 → one k = 0) :
    ∃ Y Z, fX8_multiplies A one two (nI i) (nI c) = some (Y, Z) ∧ smallA p 25 Y ∧ pq p (ap 25 Y) (pm (ap 25 one) (en V i c)) ∧ ∀ k, L + 6 ≤ k → k < 25 → Y k = 0 := by
  obtain ⟨Y0, h0, z0⟩ := X8begins10 two
  -- the sum so far: of the first k powers, and of m more of the next
  let S : Nat → Nat → Nat → Int := fun k m K => sm k (fun a => if a ≤ K then ap 25 one a * en V i c (K - a) else 0) + (if k ≤ K ∧ K - k < m then ap 25 one k * en V i c (K - k) else 0)
  have hin : ∀ k X, k < 25 → smallA p 25 X → (∀ K, K < 25 → (p : Int) ∣ (X K).toInt - S k 0 K) → ∃ X', Lp (fun (z : Int32 × (Nat → Int32)) => fX8_multiplies_s19 A one (nI i) (nI c) (nI k) z.1 z.2) ((0 : Int32), X) = some X' ∧ smallA p 25 X' ∧ ∀ K, K < 25 → (p : Int) ∣ (X' K).toInt - S k 7 K := by
    intro k X hk hX hS
    obtain ⟨w, hw, ew⟩ := ho k hk
    have eap := ap_nI (p := p) hk (by omega) ew
    have hS1 : ∀ m K, m < 7 → S k (m + 1) K = S k m K + (if K = k + m then ap 25 one k * en V i c m else 0) := by
      intro m K hm
      show sm k _ + _ = (sm k _ + _) + _
      by_cases e : K = k + m
      · rw [if_pos (show k ≤ K ∧ K - k < m + 1 by omega), if_neg (show ¬ (k ≤ K ∧ K - k < m) by omega), if_pos e, show K - k = m by omega]
        omega
      · rw [if_neg e]
        by_cases h2 : k ≤ K ∧ K - k < m
        · rw [if_pos h2, if_pos (show k ≤ K ∧ K - k < m + 1 by omega)]
          omega
        · rw [if_neg h2, if_neg (show ¬ (k ≤ K ∧ K - k < m + 1) by omega)]
          omega
    refine Lp_up (fun i s => (i, s)) 7 (fun m X => smallA p 25 X ∧ ∀ K, K < 25 → (p : Int) ∣ (X K).toInt - S k m K) (fun (X : Nat → Int32) => smallA p 25 X ∧ ∀ K, K < 25 → (p : Int) ∣ (X K).toInt - S k 7 K) ?_ ?_ 0 X (Nat.zero_le _) ⟨hX, hS⟩
    · intro m X hm hI
      obtain ⟨hX, hS⟩ := hI
      obtain ⟨v1, v2⟩ := hV i c m hi hc hm
      have een : en V i c m = (V i c m : Int) := if_pos hm
      dsimp only
      unfold fX8_multiplies_s19
      rw [if_neg (show ¬ (7 : Int32) ≤ nI m from (nI_ge hm (by omega) : ¬ nI 7 ≤ nI m)), gd_t (vp_in_nI hk (by omega)), nI_clamp (by omega), ew]
      by_cases hw0 : w = 0
      · rw [if_pos (by rw [hw0]; rfl)]
        refine Or.inr ⟨X, rfl, hX, fun K hK => ?_⟩
        have e0 : ap 25 one k = 0 := by rw [eap, hw0]; rfl
        have e7 : S k 7 K = S k m K := by
          show sm k _ + _ = sm k _ + _
          rw [e0]
          congr 1
          by_cases h1 : k ≤ K ∧ K - k < 7 <;> by_cases h2 : k ≤ K ∧ K - k < m <;> simp [h1, h2]
        rw [e7]
        exact hS K hK
      · have hkL : k < L := by
          apply Classical.byContradiction
          intro h
          have := hz k (by omega) hk
          rw [ew] at this
          exact hw0 ((nI_eq (by omega) (by omega)).mp this)
        rw [if_neg (nI_ne0 (by omega) (by omega)), X8place, gd_t (vp_in_nI (by omega) (by omega)), nI_clamp (by omega), v2]
        by_cases hv0 : V i c m = 0
        · rw [if_pos (by rw [hv0]; rfl)]
          refine Or.inl ⟨X, rfl, hX, fun K hK => ?_⟩
          rw [hS1 m K hm, een, hv0, Int.natCast_zero, Int.mul_zero]
          have : (if K = k + m then (0 : Int) else 0) = 0 := by split <;> rfl
          rw [this, Int.add_zero]
          exact hS K hK
        · obtain ⟨x, hx, ex⟩ := hX (k + m) (by omega)
          have hb : w * V i c m ≤ 10 * 10 := Nat.mul_le_mul (by omega) (by omega)
          rw [if_neg (nI_ne0 (by omega) (by omega)), nI_add, gd_t (vp_in_nI (by omega) (by omega)), gd_t (vp_in_nI hk (by omega)), bd_t (X8modulus b0), gd_t (nI_ne0 hp0 (by omega)), gd_t (vp_in_nI (by omega) (by omega)), nI_clamp (by omega), ex, pk_mul, nI_add, show rem32 (nI (x + w * V i c m)) (nI p) = nI ((x + w * V i c m) % p) from pk_rem (by omega) hp0 (by omega)]
          refine Or.inl ⟨_, rfl, fun K hK => ?_, fun K hK => ?_⟩
          · by_cases e : K = k + m
            · rw [e]; exact ⟨_, Nat.mod_lt _ hp0, pk_us⟩
            · rw [pk_un e]; exact hX K hK
          · rw [hS1 m K hm]
            by_cases e : K = k + m
            · have h9 := hS K hK
              subst e
              rw [pk_us, if_pos rfl, nI_toInt (by have := Nat.mod_lt (x + w * V i c m) hp0; omega), eap, een]
              rw [ex, nI_toInt (by omega)] at h9
              obtain ⟨z, hz⟩ := h9
              have e1 := Nat.div_add_mod (x + w * V i c m) p
              have e2 : ((x + w * V i c m : Nat) : Int) = p * ((x + w * V i c m) / p : Nat) + ((x + w * V i c m) % p : Nat) := by rw [← Int.natCast_mul, ← Int.natCast_add, e1]
              rw [Int.natCast_add, Int.natCast_mul] at e2
              refine ⟨z - ((x + w * V i c m) / p : Nat), ?_⟩
              rw [Int.mul_sub]
              omega
            · rw [pk_un e, if_neg e, Int.add_zero]
              exact hS K hK
    · rintro X ⟨hX, hS⟩
      refine ⟨X, ?_, hX, hS⟩
      dsimp only
      unfold fX8_multiplies_s19
      rw [if_pos (show (7 : Int32) ≤ nI 7 from nI_le (Nat.le_refl 7) (by omega))]
  have hS0 : ∀ k K, S (k + 1) 0 K = S k 7 K := by
    intro k K
    show sm (k + 1) _ + _ = sm k _ + _
    rw [sm_s, if_neg (show ¬ (k + 1 ≤ K ∧ K - (k + 1) < 0) by omega), Int.add_zero]
    congr 1
    by_cases h1 : k ≤ K
    · rw [if_pos h1]
      by_cases h2 : K - k < 7
      · rw [if_pos ⟨h1, h2⟩]
      · rw [if_neg (fun z => h2 z.2), en_hi (K - k) (by omega), Int.mul_zero]
    · rw [if_neg h1, if_neg (fun z => h1 z.1)]
  obtain ⟨Z, g1, g2, g3⟩ := Lp_up (fun i s => (i, s)) (g := fun (z : Int32 × (Nat → Int32)) => fX8_multiplies_s10 A one (nI i) (nI c) z.1 z.2) 25 (fun k X => smallA p 25 X ∧ ∀ K, K < 25 → (p : Int) ∣ (X K).toInt - S k 0 K) (fun (X : Nat → Int32) => smallA p 25 X ∧ ∀ K, K < 25 → (p : Int) ∣ (X K).toInt - S 25 0 K)
    (fun k X hk hI => by
      obtain ⟨X', q1, q2, q3⟩ := hin k X hk hI.1 hI.2
      refine Or.inl ⟨X', ?_, q2, fun K hK => by rw [hS0]; exact q3 K hK⟩
      dsimp only
      unfold fX8_multiplies_s10
      rw [if_neg (show ¬ (25 : Int32) ≤ nI k from (nI_ge hk (by omega) : ¬ nI 25 ≤ nI k))]
      exact bd_t q1)
    (fun X hI => by
      refine ⟨X, ?_, hI⟩
      dsimp only
      unfold fX8_multiplies_s10
      rw [if_pos (show (25 : Int32) ≤ nI 25 from nI_le (Nat.le_refl 25) (by omega))]) 0 Y0 (Nat.zero_le _) ⟨fun k hk => ⟨0, hp0, z0 k hk⟩, fun K hK => by
        rw [z0 K hK]
        refine ⟨0, ?_⟩
        show (0 : Int32).toInt - (sm 0 _ + _) = _
        rw [if_neg (by omega)]
        rfl⟩
  obtain ⟨Y, f1, f2, -⟩ := Lp_arr (g := fun (z : Int32 × (Nat → Int32)) => fX8_multiplies_s101 Z z.1 z.2) (a := 0) (N := 25) (A := one) (fun k => k) (fun k => Z k) (by omega) (fun i j _ h _ => by omega) (fun k s _ hk _ => by
      dsimp only
      unfold fX8_multiplies_s101
      rw [if_neg (show ¬ (25 : Int32) ≤ nI k from (nI_ge hk (by omega) : ¬ nI 25 ≤ nI k)), gd_t (vp_in_nI (by omega) (by omega)), gd_t (vp_in_nI (by omega) (by omega)), nI_clamp (by omega)]) (fun s _ => by
      dsimp only
      unfold fX8_multiplies_s101
      rw [if_pos (show (25 : Int32) ≤ nI 25 from nI_le (Nat.le_refl 25) (by omega))])
  have hone25 : ∀ k, 25 ≤ k → ap 25 one k = 0 := fun k hk => if_neg (by omega)
  have honeL : ∀ k, L ≤ k → ap 25 one k = 0 := by
    intro k hk
    unfold ap
    by_cases h : k < 25
    · rw [if_pos h, hz k hk h]; rfl
    · rw [if_neg h]
  have hS25 : ∀ K, S 25 0 K = pm (ap 25 one) (en V i c) K := by
    intro K
    show sm 25 _ + _ = _
    rw [if_neg (show ¬ (25 ≤ K ∧ K - 25 < 0) by omega), Int.add_zero, pm_rng hone25]
  have hYc : pq p (ap 25 Y) (pm (ap 25 one) (en V i c)) := by
    intro K
    by_cases hK : K < 25
    · rw [show ap 25 Y K = (Y K).toInt from if_pos hK, f2 K (by omega) hK, ← hS25]
      exact g3 K hK
    · rw [show ap 25 Y K = 0 from if_neg hK, pm_hi (N := L) (M := 7) honeL en_hi (by omega)]
      exact ⟨0, by omega⟩
  refine ⟨Y, Z, ?_, fun k hk => by rw [f2 k (by omega) hk]; exact g2 k hk, hYc, fun k hk hk2 => ?_⟩
  · unfold fX8_multiplies
    rw [bd_t h0]
    exact (bd_t g1).trans (bd_t f1)
  · obtain ⟨v, v1, v2⟩ := g2 k hk2
    have h9 := g3 k hk2
    rw [hS25, pm_hi (N := L) (M := 7) honeL en_hi (by omega), v2, nI_toInt (by omega), Int.sub_zero] at h9
    rw [f2 k (by omega) hk2, v2, small_eq v1 hp0 (by rw [Int.natCast_zero, Int.sub_zero]; exact h9)]
    rfl
/-- so many rows that are chosen, by columns in an order, plus or minus -/
theorem X8comes {p n size i0 i1 i2 : Nat} {A ch ac sum one two : Nat → Int32} {sg : Int32} (V : Nat → Nat → Nat → Nat) (R Cc : Nat → Nat) (b0 : A 0 = nI p) (hp1 : 1 < p) (hp10 : p < 10) (hn : n ≤ 5) (hV : ∀ i c k, i < n → c < 3 → k < 7 → V i c k < p ∧ A (3 + (i * 3 + c) * 7 + k) = nI (V i c k)) (hs1 : 1 ≤ size) (hs3 : size ≤ 3) (hch : ∀ l, l < size → R l < n ∧ ch l = nI (R l)) (hac : ∀ l, l < size → Cc l < 3 ∧ ac l = nI (Cc l)) (h0 : i0 < size) (h1 : 1 < size → i1 < size) (h2 : 2 < size → i2 < size) (hi1 : i1 < 3) (hi2 : i2 < 3) (hsum : smallA p 25 sum) (hsg : sg = 1 ∨ sg = -1) :
    ∃ S2 o2 t2, fX8_comes A ch ac sum one two (nI size) (nI i0) (nI i1) (nI i2) sg = some (S2, o2, t2) ∧ smallA p 25 S2 ∧ pq p (ap 25 S2) (pa (ap 25 sum) (pm (cst sg.toInt) (pm (pm (en V (R 0) (Cc i0)) (if 1 < size then en V (R 1) (Cc i1) else u1)) (if 2 < size then en V (R 2) (Cc i2) else u1)))) := by
  have hp0 : 0 < p := by omega
  obtain ⟨Y0, g0, z0⟩ := X8begins9 one
  have hone : smallA p 25 (upd Y0 0 1) := by
    intro k hk
    by_cases e : k = 0
    · rw [e]; exact ⟨1, hp1, pk_us⟩
    · rw [pk_un e]; exact ⟨0, hp0, z0 k hk⟩
  have hapu : ap 25 (upd Y0 0 1) = u1 := by
    funext k
    unfold ap u1
    by_cases e : k = 0
    · rw [e, if_pos (by omega), pk_us, if_pos rfl]; decide
    · rw [if_neg e]
      by_cases h : k < 25
      · rw [if_pos h, pk_un e, z0 k h]; rfl
      · rw [if_neg h]
  obtain ⟨Y1, Z1, q1, q2, q3, q4⟩ := X8multiplies (two := two) (L := 1) V b0 hp0 hp10 hn (hch 0 (by omega)).1 (hac i0 h0).1 hV hone (by omega) (fun k hk hk2 => by rw [pk_un (by omega)]; exact z0 k hk2)
  rw [hapu, pm_u] at q3
  have hstep2 : ∃ Y2 Z2, (if nI size ≤ (1 : Int32) then (some (Y1, Z1)) else (gd (vp_in (1 : Int32) 3) (gd (vp_in (nI i1) 3) (bd2 (fX8_multiplies A Y1 Z1 (ch (1 : Int32).toNatClampNeg) (ac (nI i1).toNatClampNeg)) (fun (u_14 : Nat → Int32) (u_15 : Nat → Int32) => some (u_14, u_15)))))) = some (Y2, Z2) ∧ smallA p 25 Y2 ∧ pq p (ap 25 Y2) (pm (en V (R 0) (Cc i0)) (if 1 < size then en V (R 1) (Cc i1) else u1)) ∧ ∀ k, 13 ≤ k → k < 25 → Y2 k = 0 := by
    by_cases hs : 1 < size
    · obtain ⟨Y2, Z2, r1, r2, r3, r4⟩ := X8multiplies (two := Z1) (L := 7) V b0 hp0 hp10 hn (hch 1 hs).1 (hac i1 (h1 hs)).1 hV q2 (by omega) (fun k hk hk2 => q4 k (by omega) hk2)
      refine ⟨Y2, Z2, ?_, r2, ?_, r4⟩
      · rw [if_neg (show ¬ nI size ≤ (1 : Int32) from (nI_ge hs (by omega) : ¬ nI size ≤ nI 1)), gd_t (vi1 (by omega) (by omega)), gd_t (vp_in_nI hi1 (by omega)), nI_clamp (by omega), (hac i1 (h1 hs)).2, show ch (1 : Int32).toNatClampNeg = nI (R 1) from (hch 1 hs).2, bd2_t r1]
      · rw [if_pos hs]
        exact pq_t r3 (pq_m1 q3)
    · refine ⟨Y1, Z1, ?_, q2, ?_, fun k hk hk2 => q4 k (by omega) hk2⟩
      · rw [if_pos (show nI size ≤ (1 : Int32) from (nI_le (by omega) (by omega) : nI size ≤ nI 1))]
      · rw [if_neg hs, pm_u']
        exact q3
  obtain ⟨Y2, Z2, r1, r2, r3, r4⟩ := hstep2
  have hstep3 : ∃ Y3 Z3, (if nI size ≤ (2 : Int32) then (some (Y2, Z2)) else (gd (vp_in (2 : Int32) 3) (gd (vp_in (nI i2) 3) (bd2 (fX8_multiplies A Y2 Z2 (ch (2 : Int32).toNatClampNeg) (ac (nI i2).toNatClampNeg)) (fun (u_23 : Nat → Int32) (u_24 : Nat → Int32) => some (u_23, u_24)))))) = some (Y3, Z3) ∧ smallA p 25 Y3 ∧ pq p (ap 25 Y3) (pm (pm (en V (R 0) (Cc i0)) (if 1 < size then en V (R 1) (Cc i1) else u1)) (if 2 < size then en V (R 2) (Cc i2) else u1)) := by
    by_cases hs : 2 < size
    · obtain ⟨Y3, Z3, t1, t2, t3, t4⟩ := X8multiplies (two := Z2) (L := 13) V b0 hp0 hp10 hn (hch 2 hs).1 (hac i2 (h2 hs)).1 hV r2 (by omega) r4
      refine ⟨Y3, Z3, ?_, t2, ?_⟩
      · rw [if_neg (show ¬ nI size ≤ (2 : Int32) from (nI_ge hs (by omega) : ¬ nI size ≤ nI 2)), gd_t (vi2 (by omega) (by omega)), gd_t (vp_in_nI hi2 (by omega)), nI_clamp (by omega), (hac i2 (h2 hs)).2, show ch (2 : Int32).toNatClampNeg = nI (R 2) from (hch 2 hs).2, bd2_t t1]
      · rw [if_pos hs]
        exact pq_t t3 (pq_m1 r3)
    · refine ⟨Y2, Z2, ?_, r2, ?_⟩
      · rw [if_pos (show nI size ≤ (2 : Int32) from (nI_le (by omega) (by omega) : nI size ≤ nI 2))]
      · rw [if_neg hs, pm_u']
        exact r3
  obtain ⟨Y3, Z3, t1, t2, t3⟩ := hstep3
  have hsgb : sg.toInt = 1 ∨ sg.toInt = -1 := by rcases hsg with e | e <;> subst e <;> decide
  obtain ⟨S2, s1, s2, -⟩ := Lp_arr (g := fun (z : Int32 × (Nat → Int32)) => fX8_comes_s77 A sg Y3 z.1 z.2) (a := 0) (N := 25) (A := sum) (fun k => k) (fun k => nI (md ((sum k).toInt + sg.toInt * (Y3 k).toInt) p)) (by omega) (fun i j _ h _ => by omega) (fun k s _ hk hs => by
      dsimp only
      obtain ⟨v, v1, v2⟩ := hsum k hk
      obtain ⟨w, w1, w2⟩ := t2 k hk
      have sk : s k = nI v := (hs k (fun j _ hj => by omega)).trans v2
      have hm : (sg * nI w).toInt = sg.toInt * (w : Int) := by
        rw [i32_mul] <;> rw [nI_toInt (by omega)] <;> rcases hsgb with e | e <;> rw [e] <;> omega
      have ha : (nI v + sg * nI w).toInt = (v : Int) + sg.toInt * (w : Int) := by
        rw [i32_add] <;> rw [nI_toInt (by omega), hm] <;> rcases hsgb with e | e <;> rw [e] <;> omega
      unfold fX8_comes_s77
      rw [if_neg (show ¬ (25 : Int32) ≤ nI k from (nI_ge hk (by omega) : ¬ nI 25 ≤ nI k)), gd_t (vp_in_nI (by omega) (by omega)), gd_t (vp_in_nI (by omega) (by omega)), nI_clamp (by omega), sk, w2, bd_t (X8left_any b0 hp0 (by omega)), gd_t (vp_in_nI (by omega) (by omega)), ha, v2, nI_toInt (by omega), nI_toInt (by omega)]) (fun s _ => by
      dsimp only
      unfold fX8_comes_s77
      rw [if_pos (show (25 : Int32) ≤ nI 25 from nI_le (Nat.le_refl 25) (by omega))])
  refine ⟨S2, Y3, Z3, ?_, fun k hk => ⟨_, md_lt hp0, s2 k (by omega) hk⟩, ?_⟩
  · unfold fX8_comes
    rw [bd_t g0, gd_t (vi0 (by omega) (by omega)), gd_t (vi0 (by omega) (by omega)), gd_t (vp_in_nI (show i0 < 3 by omega) (by omega)), nI_clamp (by omega), (hac i0 h0).2, show ch (0 : Int32).toNatClampNeg = nI (R 0) from (hch 0 (by omega)).2, bd2_t (show fX8_multiplies A (upd Y0 (0 : Int32).toNatClampNeg (1 : Int32)) two (nI (R 0)) (nI (Cc i0)) = _ from q1)]
    rw [show (nI i1).toNatClampNeg = i1 from nI_clamp (by omega), show (nI i2).toNatClampNeg = i2 from nI_clamp (by omega)] at *
    refine (bd2_t r1).trans ((bd2_t t1).trans (bd_t s1))
  · intro K
    have hsc : pm (cst sg.toInt) (pm (pm (en V (R 0) (Cc i0)) (if 1 < size then en V (R 1) (Cc i1) else u1)) (if 2 < size then en V (R 2) (Cc i2) else u1)) K = sg.toInt * pm (pm (en V (R 0) (Cc i0)) (if 1 < size then en V (R 1) (Cc i1) else u1)) (if 2 < size then en V (R 2) (Cc i2) else u1) K := pm_c _ _ K
    obtain ⟨z, hz⟩ := t3 K
    show (p : Int) ∣ ap 25 S2 K - (ap 25 sum K + pm _ _ K)
    rw [hsc]
    generalize pm (pm (en V (R 0) (Cc i0)) (if 1 < size then en V (R 1) (Cc i1) else u1)) (if 2 < size then en V (R 2) (Cc i2) else u1) K = X at hz ⊢
    by_cases hK : K < 25
    · unfold ap at hz ⊢
      rw [if_pos hK] at hz ⊢
      rw [if_pos hK, s2 K (by omega) hK, nI_md_toInt hp0 (by omega)]
      obtain ⟨y, hy⟩ := md_dvd (x := (sum K).toInt + sg.toInt * (Y3 K).toInt) hp0
      refine ⟨y + sg.toInt * z, ?_⟩
      rw [Int.mul_add, ← Int.mul_assoc, Int.mul_comm (p : Int) sg.toInt, Int.mul_assoc, ← hz, Int.mul_sub]
      omega
    · rw [show ap 25 S2 K = 0 from if_neg hK, show ap 25 sum K = 0 from if_neg hK]
      rw [show ap 25 Y3 K = 0 from if_neg hK] at hz
      refine ⟨sg.toInt * z, ?_⟩
      rw [← Int.mul_assoc, Int.mul_comm (p : Int) sg.toInt, Int.mul_assoc, ← hz, Int.mul_sub]
      omega
/-- the rows' entries that a determinant takes -/
def rm (V : Nat → Nat → Nat → Nat) (R Cc : Nat → Nat) : Nat → Nat → Pl := fun l c => en V (R l) (Cc c)
theorem pq_c {p : Nat} {f g h X : Pl} (h1 : pq p f (pa g X)) (h2 : pq p g h) : pq p f (pa h X) := pq_t h1 (pq_a h2 (pq_r X))
theorem X8determines {p n size : Nat} {A ch ac sum one two : Nat → Int32} (V : Nat → Nat → Nat → Nat) (R Cc : Nat → Nat) (b0 : A 0 = nI p) (hp1 : 1 < p) (hp10 : p < 10) (hn : n ≤ 5) (hV : ∀ i c k, i < n → c < 3 → k < 7 → V i c k < p ∧ A (3 + (i * 3 + c) * 7 + k) = nI (V i c k)) (hs1 : 1 ≤ size) (hs3 : size ≤ 3) (hch : ∀ l, l < size → R l < n ∧ ch l = nI (R l)) (hac : ∀ l, l < size → Cc l < 3 ∧ ac l = nI (Cc l)) :
    ∃ S2 o2 t2, fX8_determines A ch ac sum one two (nI size) = some (S2, o2, t2) ∧ smallA p 25 S2 ∧ pq p (ap 25 S2) (dt size (rm V R Cc)) := by
  have hp0 : 0 < p := by omega
  obtain ⟨Y0, g0, y0⟩ := X8begins8 sum
  have hY0 : smallA p 25 Y0 := fun k hk => ⟨0, hp0, y0 k hk⟩
  have hap0 : ap 25 Y0 = z0 := by
    funext k
    unfold ap z0
    by_cases h : k < 25
    · rw [if_pos h, y0 k h]; rfl
    · rw [if_neg h]
  have e1 : (1 : Int32).toInt = 1 := by decide
  have em : (-1 : Int32).toInt = -1 := by decide
  obtain ⟨S1, o1, w1, c1, c2, c3⟩ := X8comes (size := size) (i0 := 0) (i1 := 1) (i2 := 2) (sum := Y0) (one := one) (two := two) (sg := 1) V R Cc b0 hp1 hp10 hn hV hs1 hs3 hch hac (by omega) (fun h => h) (fun h => h) (by omega) (by omega) hY0 (Or.inl rfl)
  rw [e1, hap0, pm_c1] at c3
  unfold fX8_determines
  rw [bd_t g0, bd3_t (show fX8_comes A ch ac Y0 one two (nI size) (0 : Int32) (1 : Int32) (2 : Int32) (1 : Int32) = _ from c1)]
  by_cases hs : size = 1
  · subst hs
    rw [if_pos (show nI 1 ≤ (1 : Int32) from (nI_le (Nat.le_refl 1) (by omega) : nI 1 ≤ nI 1)), bd3_t rfl, if_pos (show nI 1 ≤ (2 : Int32) from (nI_le (by omega) (by omega) : nI 1 ≤ nI 2))]
    refine ⟨_, _, _, rfl, c2, ?_⟩
    unfold dt
    rw [if_pos rfl]
    rw [if_neg (by omega), if_neg (by omega), pm_u', pm_u'] at c3
    refine pq_t c3 (fun k => ⟨0, ?_⟩)
    show (0 : Int) + en V (R 0) (Cc 0) k - en V (R 0) (Cc 0) k = _
    omega
  · obtain ⟨S2, o2, w2, f1, f2, f3⟩ := X8comes (size := size) (i0 := 1) (i1 := 0) (i2 := 2) (sum := S1) (one := o1) (two := w1) (sg := -1) V R Cc b0 hp1 hp10 hn hV hs1 hs3 hch hac (by omega) (fun h => by omega) (fun h => h) (by omega) (by omega) c2 (Or.inr rfl)
    rw [em, pm_cm] at f3
    rw [if_neg (show ¬ nI size ≤ (1 : Int32) from (nI_ge (by omega) (by omega) : ¬ nI size ≤ nI 1)), bd3_t ((bd3_t (show fX8_comes A ch ac S1 o1 w1 (nI size) (1 : Int32) (0 : Int32) (2 : Int32) (-1 : Int32) = _ from f1)).trans rfl)]
    have f4 := pq_c f3 c3
    by_cases hs2 : size = 2
    · subst hs2
      rw [if_pos (show nI 2 ≤ (2 : Int32) from (nI_le (Nat.le_refl 2) (by omega) : nI 2 ≤ nI 2))]
      refine ⟨_, _, _, rfl, f2, ?_⟩
      unfold dt
      rw [if_neg (by omega), if_pos rfl]
      rw [if_pos (by omega), if_neg (by omega), if_pos (by omega), pm_u', pm_u'] at f4
      refine pq_t f4 (fun k => ⟨0, ?_⟩)
      show (0 : Int) + _ + _ - (_ + _) = _
      unfold rm
      omega
    · have hs33 : size = 3 := by omega
      subst hs33
      rw [if_neg (show ¬ nI 3 ≤ (2 : Int32) from (nI_ge (by omega) (by omega) : ¬ nI 3 ≤ nI 2))]
      obtain ⟨S3, o3, w3, i1, i2, i3⟩ := X8comes (size := 3) (i0 := 1) (i1 := 2) (i2 := 0) (sum := S2) (one := o2) (two := w2) (sg := 1) V R Cc b0 hp1 hp10 hn hV (by omega) (by omega) hch hac (by omega) (fun h => by omega) (fun h => by omega) (by omega) (by omega) f2 (Or.inl rfl)
      obtain ⟨S4, o4, w4, j1, j2, j3⟩ := X8comes (size := 3) (i0 := 2) (i1 := 0) (i2 := 1) (sum := S3) (one := o3) (two := w3) (sg := 1) V R Cc b0 hp1 hp10 hn hV (by omega) (by omega) hch hac (by omega) (fun h => by omega) (fun h => by omega) (by omega) (by omega) i2 (Or.inl rfl)
      obtain ⟨S5, o5, w5, k1, k2, k3⟩ := X8comes (size := 3) (i0 := 2) (i1 := 1) (i2 := 0) (sum := S4) (one := o4) (two := w4) (sg := -1) V R Cc b0 hp1 hp10 hn hV (by omega) (by omega) hch hac (by omega) (fun h => by omega) (fun h => by omega) (by omega) (by omega) j2 (Or.inr rfl)
      obtain ⟨S6, o6, w6, l1, l2, l3⟩ := X8comes (size := 3) (i0 := 0) (i1 := 2) (i2 := 1) (sum := S5) (one := o5) (two := w5) (sg := -1) V R Cc b0 hp1 hp10 hn hV (by omega) (by omega) hch hac (by omega) (fun h => by omega) (fun h => by omega) (by omega) (by omega) k2 (Or.inr rfl)
      rw [e1, pm_c1] at i3 j3
      rw [em, pm_cm] at k3 l3
      rw [bd3_t (show fX8_comes A ch ac S2 o2 w2 (nI 3) (1 : Int32) (2 : Int32) (0 : Int32) (1 : Int32) = _ from i1), bd3_t (show fX8_comes A ch ac S3 o3 w3 (nI 3) (2 : Int32) (0 : Int32) (1 : Int32) (1 : Int32) = _ from j1), bd3_t (show fX8_comes A ch ac S4 o4 w4 (nI 3) (2 : Int32) (1 : Int32) (0 : Int32) (-1 : Int32) = _ from k1), bd3_t (show fX8_comes A ch ac S5 o5 w5 (nI 3) (0 : Int32) (2 : Int32) (1 : Int32) (-1 : Int32) = _ from l1)]
      refine ⟨_, _, _, rfl, l2, ?_⟩
      have l4 := pq_c l3 (pq_c k3 (pq_c j3 (pq_c i3 f4)))
      unfold dt
      rw [if_neg (by omega), if_neg (by omega)]
      simp only [show (1 : Nat) < 3 from by omega, show (2 : Nat) < 3 from by omega, if_true] at l4
      refine pq_t l4 (fun k => ⟨0, ?_⟩)
      unfold d3 rm
      simp only [pa_at, pn_at]
      unfold z0
      omega
