/-! the reference's columns with a minor, and its division -/
theorem X8cols {C mask : Nat} {A ac : Nat → Int32} (b1 : A 1 = nI C) (hC : C ≤ 3) (hm : mask < 32) : ∃ ac', Lp (fun (z : Int32 × Int32 × (Nat → Int32)) => fX8_choosesColumns_s13 A (nI mask) z.1 z.2.1 z.2.2) ((0 : Int32), (0 : Int32), ac) = some (nI (cnt (nI mask) C), ac') ∧ ∀ sel, Chosen C (nI mask) (cnt (nI mask) C) sel → ∀ l, l < cnt (nI mask) C → ac' l = nI (sel l) := by
  obtain ⟨r, h1, ch', h2, h3⟩ := Lp_up (fun j (s : Int32 × (Nat → Int32)) => (s.1, j, s.2)) (g := fun (z : Int32 × Int32 × (Nat → Int32)) => fX8_choosesColumns_s13 A (nI mask) z.1 z.2.1 z.2.2) C (fun j s => s.1 = nI (cnt (nI mask) j) ∧ ∀ sel, Chosen j (nI mask) (cnt (nI mask) j) sel → ∀ l, l < cnt (nI mask) j → s.2 l = nI (sel l)) (fun r => ∃ ch', r = (nI (cnt (nI mask) C), ch') ∧ ∀ sel, Chosen C (nI mask) (cnt (nI mask) C) sel → ∀ l, l < cnt (nI mask) C → ch' l = nI (sel l))
    (fun j s hj hI => by
      obtain ⟨s1, s2⟩ := s
      obtain ⟨e, hs⟩ := hI
      dsimp only at e hs ⊢
      subst e
      have hle := cnt_le (nI mask) j
      have hiff := inSet_iff (a := nI mask) (show j < 5 by omega)
      unfold fX8_choosesColumns_s13
      rw [bd_t (X8width b1), if_neg (nI_ge hj (by omega))]
      by_cases hb : fX7_isInSet (nI j) (nI mask) = 0
      · have hc : cnt (nI mask) (j + 1) = cnt (nI mask) j := if_pos hb
        rw [if_neg (fun z => hiff.mpr z hb)]
        refine Or.inl ⟨(nI (cnt (nI mask) j), s2), rfl, by rw [hc], fun sel hsel l hl => ?_⟩
        rw [hc] at hsel hl
        refine hs sel ⟨fun m hm => ⟨?_, (hsel.1 m hm).2⟩, fun i hi hin => hsel.2.1 i (by omega) hin, hsel.2.2⟩ l hl
        have h5 := hsel.1 m hm
        by_cases e : sel m = j
        · exact absurd hb (by rw [← e]; exact h5.2)
        · omega
      · have hc : cnt (nI mask) (j + 1) = cnt (nI mask) j + 1 := if_neg hb
        rw [if_pos (hiff.mp hb), gd_t (vp_in_nI (by omega) (by omega)), nI_clamp (by omega), nI_1 (cnt (nI mask) j)]
        refine Or.inl ⟨(nI (cnt (nI mask) j + 1), upd s2 (cnt (nI mask) j) (nI j)), rfl, by rw [hc], fun sel hsel l hl => ?_⟩
        rw [hc] at hsel hl
        have hlast : sel (cnt (nI mask) j) = j := by
          obtain ⟨m, hm, em⟩ := hsel.2.1 j (by omega) hb
          have hlast : m = cnt (nI mask) j := by
            apply Classical.byContradiction
            intro hne
            have h5 := hsel.2.2 m (cnt (nI mask) j) (by omega) (by omega)
            have h6 := (hsel.1 (cnt (nI mask) j) (by omega)).1
            omega
          rw [← hlast]
          exact em
        by_cases e : l = cnt (nI mask) j
        · rw [e, hlast]; exact pk_us
        · refine (pk_un e).trans (hs sel ⟨fun m hm => ⟨?_, (hsel.1 m (by omega)).2⟩, fun i hi hin => ?_, fun m m' h5 h6 => hsel.2.2 m m' h5 (by omega)⟩ l (by omega))
          · have := hsel.2.2 m (cnt (nI mask) j) hm (by omega)
            omega
          · obtain ⟨m, hm, em2⟩ := hsel.2.1 i (by omega) hin
            refine ⟨m, ?_, em2⟩
            apply Classical.byContradiction
            intro hge
            rw [show m = cnt (nI mask) j by omega, hlast] at em2
            omega)
    (fun s hI => by
      obtain ⟨s1, s2⟩ := s
      obtain ⟨e, hs⟩ := hI
      dsimp only at e hs ⊢
      subst e
      refine ⟨(nI (cnt (nI mask) C), s2), ?_, s2, rfl, hs⟩
      unfold fX8_choosesColumns_s13
      rw [bd_t (X8width b1), if_pos (nI_le (Nat.le_refl _) (by omega))]) 0 (0, ac) (Nat.zero_le _) ⟨rfl, fun sel _ l hl => absurd hl (Nat.not_lt_zero _)⟩
  subst h2
  exact ⟨ch', h1, h3⟩
theorem nought_arr {p : Nat} {X : Nat → Int32} (hX : smallA p 25 X) (h : dgr (fun k => k < 25 ∧ X k ≠ 0) 25 = 0) : ap 25 X = z0 := by
  funext k
  unfold ap z0
  by_cases hk : k < 25
  · rw [if_pos hk]
    have := dgr_no 25 h k hk
    have e : X k = 0 := Classical.byContradiction fun z => this ⟨hk, z⟩
    rw [e]
    rfl
  · rw [if_neg hk]
theorem X8choosesColumns {p n C K M : Nat} {A ch ac sum one two base : Nat → Int32} (V : Nat → Nat → Nat → Nat) (R : Nat → Nat) (b0 : A 0 = nI p) (b1 : A 1 = nI C) (hp1 : 1 < p) (hp10 : p < 10) (hC : C ≤ 3) (hn : n ≤ 5) (hV : ∀ i c k, i < n → c < 3 → k < 7 → V i c k < p ∧ A (3 + (i * 3 + c) * 7 + k) = nI (V i c k)) (hK1 : 1 ≤ K) (hK3 : K ≤ 3) (hch : ∀ l, l < K → R l < n ∧ ch l = nI (R l)) (hM1 : 1 ≤ M) (hM8 : M < 8) (hM2 : M < 2 ^ C) (hMc : cnt (nI M) C = K) (hMn : ∀ selm, Chosen C (nI M) K selm → ¬ pq p (dt K (rm V R selm)) z0) :
    ∃ ac' S' o' t' B', fX8_choosesColumns A ch ac sum one two base (nI K) = some (ac', S', o', t', B') ∧ ∃ selm, (∀ l, l < K → selm l < C ∧ ac' l = nI (selm l)) ∧ smallA p 25 B' ∧ pq p (ap 25 B') (dt K (rm V R selm)) ∧ dgr (fun k => k < 25 ∧ B' k ≠ 0) 25 ≠ 0 := by
  have h2C : (2 : Nat) ^ C ≤ 8 := by
    rcases (show C = 0 ∨ C = 1 ∨ C = 2 ∨ C = 3 by omega) with e | e | e | e <;> subst e <;> decide
  have hshl : ((1 : Int32) <<< (nI C &&& 31)) = nI (2 ^ C) := by
    rcases (show C = 0 ∨ C = 1 ∨ C = 2 ∨ C = 3 by omega) with e | e | e | e <;> subst e <;> decide
  obtain ⟨r, h1, ac', S', o', t', B', e, h2⟩ := Lp_up (fun j (s : (Nat → Int32) × (Nat → Int32) × (Nat → Int32) × (Nat → Int32)) => (j, s.1, s.2.1, s.2.2.1, s.2.2.2)) (g := fun (z : Int32 × (Nat → Int32) × (Nat → Int32) × (Nat → Int32) × (Nat → Int32)) => fX8_choosesColumns_s2 A ch base (nI K) z.1 z.2.1 z.2.2.1 z.2.2.2.1 z.2.2.2.2) 8 (fun j _ => 1 ≤ j ∧ j ≤ M) (fun r => ∃ ac' S' o' t' B', r = .inr (ac', S', o', t', B') ∧ ∃ selm, (∀ l, l < K → selm l < C ∧ ac' l = nI (selm l)) ∧ smallA p 25 B' ∧ pq p (ap 25 B') (dt K (rm V R selm)) ∧ dgr (fun k => k < 25 ∧ B' k ≠ 0) 25 ≠ 0)
    (fun j s hj hI => by
      obtain ⟨s2, s3, s4, s5⟩ := s
      obtain ⟨hI1, hI2⟩ := hI
      dsimp only
      unfold fX8_choosesColumns_s2
      rw [if_neg (show ¬ (8 : Int32) ≤ nI j from (nI_ge hj (by omega) : ¬ nI 8 ≤ nI j))]
      obtain ⟨ac1, q1, q2⟩ := X8cols (C := C) (mask := j) (A := A) (ac := s2) b1 hC (by omega)
      have hcl := cnt_le (nI j) C
      rw [bd2_t q1]
      by_cases hcK : cnt (nI j) C = K
      · rw [hcK] at q2 ⊢
        rw [if_pos rfl, bd_t (X8width b1), hshl]
        by_cases hbig : 2 ^ C ≤ j
        · exfalso; omega
        · rw [if_neg (nI_ge (by omega) (by omega))]
          obtain ⟨selm, hs⟩ := chosen_ex (nI j) C
          rw [hcK] at hs
          obtain ⟨S1, o1, t1, d1', d2', d3'⟩ := X8determines (A := A) (ch := ch) (ac := ac1) (sum := s4) (one := s3) (two := s5) (size := K) V R selm b0 hp1 hp10 hn hV hK1 hK3 hch (fun l hl => ⟨by have := (hs.1 l hl).1; omega, q2 selm hs l hl⟩)
          rw [bd3_t d1', bd_t (X8degreeOf S1)]
          have hdle := dgr_le (fun k => k < 25 ∧ S1 k ≠ 0) 25
          by_cases hz : dgr (fun k => k < 25 ∧ S1 k ≠ 0) 25 = 0
          · rw [if_pos ((pv_lt0 (by omega)).mpr hz)]
            refine Or.inl ⟨(ac1, o1, S1, t1), rfl, by omega, ?_⟩
            by_cases ej : j = M
            · exfalso
              subst ej
              refine hMn selm hs ?_
              rw [nought_arr d2' hz] at d3'
              exact pq_s d3'
            · omega
          · rw [if_neg (fun z => hz ((pv_lt0 (by omega)).mp z))]
            obtain ⟨B1, f1, f2, -⟩ := Lp_arr (g := fun (z : Int32 × (Nat → Int32)) => fX8_choosesColumns_s82 S1 z.1 z.2) (a := 0) (N := 25) (A := base) (fun k => k) (fun k => S1 k) (by omega) (fun i j _ h _ => by omega) (fun k s _ hk _ => by
              dsimp only
              unfold fX8_choosesColumns_s82
              rw [if_neg (show ¬ (25 : Int32) ≤ nI k from (nI_ge hk (by omega) : ¬ nI 25 ≤ nI k)), gd_t (vp_in_nI (by omega) (by omega)), gd_t (vp_in_nI (by omega) (by omega)), nI_clamp (by omega)]) (fun s _ => by
              dsimp only
              unfold fX8_choosesColumns_s82
              rw [if_pos (show (25 : Int32) ≤ nI 25 from (nI_le (Nat.le_refl 25) (by omega) : nI 25 ≤ nI 25))])
            have hB : ap 25 B1 = ap 25 S1 := by
              funext k
              unfold ap
              by_cases hk : k < 25
              · rw [if_pos hk, if_pos hk, f2 k (by omega) hk]
              · rw [if_neg hk, if_neg hk]
            refine Or.inr ⟨.inr (ac1, S1, o1, t1, B1), bd_t f1, ac1, S1, o1, t1, B1, rfl, selm, fun l hl => ⟨(hs.1 l hl).1, q2 selm hs l hl⟩, fun k hk => by rw [f2 k (by omega) hk]; exact d2' k hk, by rw [hB]; exact d3', ?_⟩
            rw [← dgr_congr (nz := fun k => k < 25 ∧ S1 k ≠ 0) (nz' := fun k => k < 25 ∧ B1 k ≠ 0) (n := 25) (m := 25) (Nat.le_refl _) (fun k hk => by rw [f2 k (by omega) hk]) (fun k h1 h2 => by omega)]
            exact hz
      · rw [if_neg (fun e => hcK ((nI_eq (by omega) (by omega)).mp e))]
        refine Or.inl ⟨(ac1, s3, s4, s5), rfl, by omega, ?_⟩
        by_cases ej : j = M
        · exfalso; rw [ej] at hcK; exact hcK hMc
        · omega)
    (fun s hI => by omega) 1 (ac, one, sum, two) (by omega) ⟨Nat.le_refl _, hM1⟩
  subst e
  refine ⟨ac', S', o', t', B', ?_, h2⟩
  unfold fX8_choosesColumns
  rw [show Lp (fun (z : Int32 × (Nat → Int32) × (Nat → Int32) × (Nat → Int32) × (Nat → Int32)) => fX8_choosesColumns_s2 A ch base (nI K) z.1 z.2.1 z.2.2.1 z.2.2.2.1 z.2.2.2.2) ((1 : Int32), ac, one, sum, two) = some (.inr (ac', S', o', t', B')) from h1]
  rfl
/-- a factor of which the product has no more than so many powers -/
theorem dom_hi {p b bv T N : Nat} {g B S : Pl} (hp : p = 2 ∨ p = 3 ∨ p = 5 ∨ p = 7) (hbv0 : 0 < bv) (hbvp : bv < p) (hB : (p : Int) ∣ B b - bv) (hBhi : ∀ k, b < k → (p : Int) ∣ B k) (hg : ∀ k, N ≤ k → g k = 0) (hS : pq p S (pm g B)) (hShi : ∀ k, T ≤ k → (p : Int) ∣ S k) : ∀ k, T ≤ k + b → (p : Int) ∣ g k := by
  obtain ⟨u, hu⟩ := inv_ex hp hbv0 hbvp
  have huv : (p : Int) ∣ (bv : Int) * u - 1 := by
    have h4 := Nat.div_add_mod (bv * u) p
    rw [hu.2.2] at h4
    refine ⟨((bv * u / p : Nat) : Int), ?_⟩
    have h5 : ((p * (bv * u / p) + 1 : Nat) : Int) = ((bv * u : Nat) : Int) := by rw [h4]
    rw [Int.natCast_add, Int.natCast_mul, Int.natCast_mul] at h5
    omega
  have key : ∀ d k, N ≤ k + d → T ≤ k + b → (p : Int) ∣ g k := by
    intro d
    induction d with
    | zero => intro k h _; rw [hg k h]; exact ⟨0, by omega⟩
    | succ d ih =>
      intro k h hT
      have h1 := hShi (k + b) hT
      have h2 := hS (k + b)
      have h3 : (p : Int) ∣ pm g B (k + b) - g k * bv := dvd_tr (pm_top (a := k) (b := b) (fun j hj => ih j (by omega) (by omega)) hBhi).1 (by
        obtain ⟨z, hz⟩ := hB
        exact ⟨g k * z, by rw [← Int.mul_sub, hz, ← Int.mul_assoc, ← Int.mul_assoc, Int.mul_comm (g k)]⟩)
      obtain ⟨z1, h1⟩ := h1
      obtain ⟨z2, h2⟩ := h2
      obtain ⟨z3, h3⟩ := h3
      obtain ⟨z4, h4⟩ := huv
      have e1 : g k * bv = p * (z1 - z2 - z3) := by rw [Int.mul_sub, Int.mul_sub]; omega
      have e2 : g k = g k * (bv * u) - g k * (p * z4) := by
        have : (bv : Int) * u = 1 + p * z4 := by omega
        rw [this, Int.mul_add, Int.mul_one]
        omega
      rw [e2, ← Int.mul_assoc, e1, ← Int.mul_assoc (g k), Int.mul_comm (g k) p, Int.mul_assoc, Int.mul_assoc (p : Int) (g k), ← Int.mul_sub]
      exact ⟨_, rfl⟩
  exact fun k hk => key N k (by omega) hk
theorem X8divides {p N : Nat} {A sum base qs : Nat → Int32} (F : Pl) (hp : p = 2 ∨ p = 3 ∨ p = 5 ∨ p = 7) (b0 : A 0 = nI p) (hs : smallA p 25 sum) (hb : smallA p 25 base) (hbn : dgr (fun k => k < 25 ∧ base k ≠ 0) 25 ≠ 0) (hF : ∀ k, N ≤ k → F k = 0) (hq : pq p (ap 25 sum) (pm F (ap 25 base))) :
    ∃ S' Q, fX8_divides A sum base qs = some (S', Q) ∧ smallA p 25 Q ∧ ∀ k, k < 25 → (p : Int) ∣ (Q k).toInt - F k := by
  have hp0 : 0 < p := by omega
  obtain ⟨Q0, g0, z0'⟩ := X8begins12 qs
  obtain ⟨b, hbd⟩ : ∃ b, dgr (fun k => k < 25 ∧ base k ≠ 0) 25 = b + 1 := ⟨dgr (fun k => k < 25 ∧ base k ≠ 0) 25 - 1, by omega⟩
  obtain ⟨b25, ⟨-, bne⟩, bhi⟩ := dgr_is 25 b hbd
  obtain ⟨bv, bvp, bve⟩ := hb b b25
  have bv0 : 0 < bv := by
    apply Classical.byContradiction
    intro h
    apply bne
    rw [bve, show bv = 0 by omega]
    rfl
  obtain ⟨u, hu, hue⟩ := X8inverse b0 hp bv0 bvp
  have hu7 : u < 7 := by have := hu.2.1; omega
  have huv : (p : Int) ∣ (bv : Int) * u - 1 := by
    have h4 := Nat.div_add_mod (bv * u) p
    rw [hu.2.2] at h4
    refine ⟨((bv * u / p : Nat) : Int), ?_⟩
    have h5 : ((p * (bv * u / p) + 1 : Nat) : Int) = ((bv * u : Nat) : Int) := by rw [h4]
    rw [Int.natCast_add, Int.natCast_mul, Int.natCast_mul] at h5
    omega
  have hBb : (p : Int) ∣ ap 25 base b - bv := by rw [ap_nI (p := p) b25 (by omega) bve]; exact ⟨0, by omega⟩
  have hBz : ∀ k, b < k → ap 25 base k = 0 := by
    intro k hk
    unfold ap
    by_cases h : k < 25
    · have := bhi k hk h
      have e : base k = 0 := Classical.byContradiction fun z => this ⟨h, z⟩
      rw [if_pos h, e]
      rfl
    · rw [if_neg h]
  have hBhi : ∀ k, b < k → (p : Int) ∣ ap 25 base k := fun k hk => by rw [hBz k hk]; exact ⟨0, by omega⟩
  have hdeg : ∀ S : Nat → Int32, smallA p 25 S → ∀ k, dgr (fun k => k < 25 ∧ S k ≠ 0) 25 ≤ k → ap 25 S k = 0 := by
    intro S hS k hk
    unfold ap
    by_cases h : k < 25
    · rw [if_pos h]
      have : ¬ (k < 25 ∧ S k ≠ 0) := by
        cases hd : dgr (fun k => k < 25 ∧ S k ≠ 0) 25 with
        | zero => exact dgr_no 25 hd k h
        | succ d => exact (dgr_is 25 d hd).2.2 k (by omega) h
      have e : S k = 0 := Classical.byContradiction fun z => this ⟨h, z⟩
      rw [e]
      rfl
    · rw [if_neg h]
  obtain ⟨⟨Q, S'⟩, h1, h2, h3⟩ := Lp_all (g := fun (z : Int32 × (Nat → Int32) × (Nat → Int32)) => fX8_divides_s35 A base (nI b) (nI u) z.1 z.2.1 z.2.2)
    (fun s => s.1 = pv (dgr (fun k => k < 25 ∧ s.2.2 k ≠ 0) 25) ∧ smallA p 25 s.2.1 ∧ smallA p 25 s.2.2 ∧ ∃ (g : Pl) (N' : Nat), (∀ k, N' ≤ k → g k = 0) ∧ pq p (ap 25 s.2.2) (pm g (ap 25 base)) ∧ (∀ k, k < 25 → (p : Int) ∣ (s.2.1 k).toInt - (F k - g k)) ∧ ∀ k, k < 25 → k + b < dgr (fun k => k < 25 ∧ s.2.2 k ≠ 0) 25 → s.2.1 k = 0)
    (fun s => dgr (fun k => k < 25 ∧ s.2.2 k ≠ 0) 25)
    (fun (r : (Nat → Int32) × (Nat → Int32)) => smallA p 25 r.1 ∧ ∀ k, k < 25 → (p : Int) ∣ (r.1 k).toInt - F k)
    (by
      rintro ⟨i, Q, S⟩ ⟨ei, hQ, hS, g, N', hg, hSg, hQg, hQ0⟩
      dsimp only at ei hQ hS hSg hQg hQ0 ⊢
      subst ei
      have hdle := dgr_le (fun k => k < 25 ∧ S k ≠ 0) 25
      have hdg := hdeg S hS
      have hghi := dom_hi (T := dgr (fun k => k < 25 ∧ S k ≠ 0) 25) (N := N') hp bv0 bvp hBb hBhi hg hSg (fun k hk => by rw [hdg k hk]; exact ⟨0, by omega⟩)
      unfold fX8_divides_s35
      by_cases hlt : dgr (fun k => k < 25 ∧ S k ≠ 0) 25 < b + 1
      · rw [if_pos (by rw [← pv_s]; exact (pv_ltq (by omega) (by omega)).mpr hlt)]
        refine Or.inr ⟨(Q, S), rfl, hQ, fun k hk => ?_⟩
        obtain ⟨z, hz⟩ := hQg k hk
        obtain ⟨y, hy⟩ := hghi k (by omega)
        show (p : Int) ∣ (Q k).toInt - F k
        exact ⟨z - y, by rw [Int.mul_sub]; omega⟩
      · rw [if_neg (by rw [← pv_s]; exact fun z => hlt ((pv_ltq (by omega) (by omega)).mp z))]
        obtain ⟨T, hT⟩ : ∃ T, dgr (fun k => k < 25 ∧ S k ≠ 0) 25 = T + 1 := ⟨dgr (fun k => k < 25 ∧ S k ≠ 0) 25 - 1, by omega⟩
        rw [hT] at hghi hQ0 hlt hdg ⊢
        obtain ⟨T25, ⟨-, Tne⟩, -⟩ := dgr_is 25 T hT
        obtain ⟨sv, svp, sve⟩ := hS T T25
        have hmb : sv * u ≤ 7 * 7 := Nat.mul_le_mul (by omega) (by omega)
        have hvp : sv * u % p < p := Nat.mod_lt _ hp0
        have hbT : b ≤ T := by omega
        obtain ⟨S2, f1, f2, f3⟩ := Lp_arr (g := fun (z : Int32 × (Nat → Int32)) => fX8_divides_s68 A base (nI b) (nI u) (nI T) S (nI p) z.1 z.2) (a := 0) (N := b + 1) (A := S) (fun k => T - b + k) (fun k => nI (md ((S (T - b + k)).toInt - (sv * u % p : Nat) * (base k).toInt) p)) (by omega) (fun i j _ h _ => by omega) (fun k s _ hk hs' => by
          dsimp only
          obtain ⟨x, xp', xe'⟩ := hS (T - b + k) (by omega)
          obtain ⟨w, wp, we⟩ := hb k (by omega)
          have sk : s (T - b + k) = nI x := (hs' _ (fun j _ hj => by omega)).trans xe'
          have hb2 : sv * u % p * w ≤ 7 * 7 := Nat.mul_le_mul (by omega) (by omega)
          unfold fX8_divides_s68
          rw [if_neg (nI_nlt (by omega) (by omega)), show nI T - nI b = nI (T - b) from pk_sub hbT, nI_add, gd_t (vp_in_nI (by omega) (by omega)), gd_t (vp_in_nI (by omega) (by omega)), nI_clamp (by omega), nI_clamp (by omega), nI_clamp (by omega), sk, we, sve, pk_mul, show rem32 (nI (sv * u)) (nI p) = nI (sv * u % p) from pk_rem (by omega) hp0 (by omega), pk_mul, bd_t (X8left_any b0 hp0 (by omega)), gd_t (vp_in_nI (by omega) (by omega)), pk_sub_toInt (by omega) (by omega), xe', nI_toInt (by omega), nI_toInt (by omega), Int.natCast_mul]) (fun s _ => by
          dsimp only
          unfold fX8_divides_s68
          rw [if_pos (nI_lt (by omega) (by omega))])
        have hS2 : smallA p 25 S2 := by
          intro k hk
          by_cases hin : T - b ≤ k ∧ k ≤ T
          · have := f2 (k - (T - b)) (by omega) (by omega)
            rw [show T - b + (k - (T - b)) = k by omega] at this
            exact ⟨_, md_lt hp0, this⟩
          · rw [f3 k (fun j _ hj => by omega)]
            exact hS k hk
        have hap2 : pq p (ap 25 S2) (pa (ap 25 S) (pn (pm (xs (sv * u % p : Nat) (T - b)) (ap 25 base)))) := by
          intro k
          rw [pa_at, pn_at, pm_xs]
          show (p : Int) ∣ ap 25 S2 k - (ap 25 S k + -(if T - b ≤ k then ((sv * u % p : Nat) : Int) * ap 25 base (k - (T - b)) else 0))
          by_cases hk : k < 25
          · by_cases hin : T - b ≤ k ∧ k ≤ T
            · have := f2 (k - (T - b)) (by omega) (by omega)
              rw [show T - b + (k - (T - b)) = k by omega] at this
              rw [show ap 25 S2 k = (S2 k).toInt from if_pos hk, show ap 25 S k = (S k).toInt from if_pos hk, this, nI_md_toInt hp0 (by omega), if_pos hin.1, show ap 25 base (k - (T - b)) = (base (k - (T - b))).toInt from if_pos (by omega)]
              obtain ⟨z, hz⟩ := md_dvd (x := (S k).toInt - (sv * u % p : Nat) * (base (k - (T - b))).toInt) hp0
              exact ⟨z, by omega⟩
            · rw [show ap 25 S2 k = (S2 k).toInt from if_pos hk, show ap 25 S k = (S k).toInt from if_pos hk, f3 k (fun j _ hj => by omega)]
              by_cases hlo : T - b ≤ k
              · rw [if_pos hlo, hBz (k - (T - b)) (by omega), Int.mul_zero]
                exact ⟨0, by omega⟩
              · rw [if_neg hlo]
                exact ⟨0, by omega⟩
          · rw [show ap 25 S2 k = 0 from if_neg hk, show ap 25 S k = 0 from if_neg hk]
            by_cases hlo : T - b ≤ k
            · rw [if_pos hlo, hBz (k - (T - b)) (by omega), Int.mul_zero]
              exact ⟨0, by omega⟩
            · rw [if_neg hlo]
              exact ⟨0, by omega⟩
        have hg' : pq p (ap 25 S2) (pm (pa g (pn (xs (sv * u % p : Nat) (T - b)))) (ap 25 base)) := by
          refine pq_t hap2 ?_
          rw [pm_add, pm_n]
          exact pq_a hSg (pq_r _)
        -- the number that is taken is the factor's own
        have hgT : (p : Int) ∣ g (T - b) - (sv * u % p : Nat) := by
          have h5 : (p : Int) ∣ pm g (ap 25 base) (T - b + b) - g (T - b) * ap 25 base b := (pm_top (a := T - b) (b := b) (fun j hj => hghi j (by omega)) hBhi).1
          have h6 := hSg T
          rw [show T - b + b = T by omega] at h5
          rw [ap_nI (p := p) T25 (by omega) sve] at h6
          rw [ap_nI (p := p) b25 (by omega) bve] at h5
          obtain ⟨z1, h5⟩ := h5
          obtain ⟨z2, h6⟩ := h6
          obtain ⟨z3, h7⟩ := huv
          have e1 := Nat.div_add_mod (sv * u) p
          have e2 : ((sv * u : Nat) : Int) = p * (sv * u / p : Nat) + (sv * u % p : Nat) := by rw [← Int.natCast_mul, ← Int.natCast_add, e1]
          rw [Int.natCast_mul] at e2
          have e3 : (sv : Int) = g (T - b) * bv + p * (z1 + z2) := by rw [Int.mul_add]; omega
          have e4 : g (T - b) * bv * u = g (T - b) + p * (g (T - b) * z3) := by
            have : (bv : Int) * u = 1 + p * z3 := by omega
            rw [Int.mul_assoc, this, Int.mul_add, Int.mul_one, ← Int.mul_assoc, Int.mul_comm (g (T - b)) p, Int.mul_assoc]
          have e5 : (sv : Int) * u = g (T - b) + p * (g (T - b) * z3) + p * ((z1 + z2) * u) := by rw [e3, Int.add_mul, e4, Int.mul_assoc]
          refine ⟨(sv * u / p : Nat) - g (T - b) * z3 - (z1 + z2) * u, ?_⟩
          rw [Int.mul_sub, Int.mul_sub]
          omega
        have hg'hi : ∀ k, T ≤ k + b → (p : Int) ∣ pa g (pn (xs (sv * u % p : Nat) (T - b))) k := by
          intro k hk
          rw [pa_at, pn_at]
          unfold xs
          by_cases e : k = T - b
          · rw [if_pos e, e]
            obtain ⟨z, hz⟩ := hgT
            exact ⟨z, by omega⟩
          · rw [if_neg e]
            obtain ⟨z, hz⟩ := hghi k (by omega)
            exact ⟨z, by omega⟩
        -- what is left is lower
        have hlow : dgr (fun k => k < 25 ∧ S2 k ≠ 0) 25 < T + 1 := by
          apply Classical.byContradiction
          intro hge
          obtain ⟨D, hD⟩ : ∃ D, dgr (fun k => k < 25 ∧ S2 k ≠ 0) 25 = D + 1 := ⟨dgr (fun k => k < 25 ∧ S2 k ≠ 0) 25 - 1, by omega⟩
          obtain ⟨D25, ⟨-, Dne⟩, -⟩ := dgr_is 25 D hD
          apply Dne
          obtain ⟨x, xp', xe'⟩ := hS2 D D25
          have h5 := hg' D
          rw [ap_nI (p := p) D25 (by omega) xe'] at h5
          have h6 : (p : Int) ∣ pm (pa g (pn (xs (sv * u % p : Nat) (T - b)))) (ap 25 base) D := by
            unfold pm
            refine sm_dvd0 (fun j hj => ?_)
            by_cases hjb : T ≤ j + b
            · exact dvd_mul_l (hg'hi j hjb)
            · exact dvd_mul_r (hBhi _ (by omega))
          obtain ⟨z1, h5⟩ := h5
          obtain ⟨z2, h6⟩ := h6
          rw [xe', small_eq xp' hp0 ⟨z1 + z2, by rw [Int.mul_add]; omega⟩]
          rfl
        refine Or.inl ⟨(pv (dgr (fun k => k < 25 ∧ S2 k ≠ 0) 25), upd Q (T - b) (nI (sv * u % p)), S2), ?_, ⟨rfl, ?_, hS2, pa g (pn (xs (sv * u % p : Nat) (T - b))), N' + T + 1, ?_, hg', ?_, ?_⟩, ?_⟩
        · rw [pv_s, gd_t (vp_in_nI T25 (by omega)), bd_t (X8modulus b0), gd_t (nI_ne0 hp0 (by omega)), show nI T - nI b = nI (T - b) from pk_sub hbT, gd_t (vp_in_nI (by omega) (by omega))]
          refine (bd_t f1).trans ((bd_t (X8degreeOf S2)).trans ?_)
          rw [nI_clamp (by omega), nI_clamp (by omega), sve, pk_mul, show rem32 (nI (sv * u)) (nI p) = nI (sv * u % p) from pk_rem (by omega) hp0 (by omega)]
        · intro k hk
          by_cases e : k = T - b
          · rw [e]; exact ⟨_, hvp, pk_us⟩
          · exact ⟨_, (hQ k hk).choose_spec.1, (pk_un e).trans (hQ k hk).choose_spec.2⟩
        · intro k hk
          rw [pa_at, pn_at, hg k (by omega)]
          unfold xs
          rw [if_neg (by omega)]
          rfl
        · intro k hk
          dsimp only
          by_cases e : k = T - b
          · have h5 := hQg k hk
            have h6 := hg'hi k (by omega)
            rw [e, pk_us, nI_toInt (by omega)]
            rw [e] at h5 h6
            rw [hQ0 (T - b) (by omega) (by omega)] at h5
            rw [show (0 : Int32).toInt = 0 from rfl] at h5
            obtain ⟨z1, h5⟩ := h5
            obtain ⟨z2, h6⟩ := h6
            obtain ⟨z3, h7⟩ := hgT
            refine ⟨z1 + z2 - z3, ?_⟩
            rw [Int.mul_sub, Int.mul_add]
            omega
          · rw [pk_un e]
            obtain ⟨z, hz⟩ := hQg k hk
            refine ⟨z, ?_⟩
            rw [pa_at, pn_at]
            unfold xs
            rw [if_neg e]
            omega
        · intro k hk hkb
          dsimp only at hkb ⊢
          rw [pk_un (by omega)]
          exact hQ0 k hk (by omega)
        · dsimp only
          omega)
    (pv (dgr (fun k => k < 25 ∧ sum k ≠ 0) 25), Q0, sum) ⟨rfl, fun k hk => ⟨0, hp0, z0' k hk⟩, hs, F, N, hF, hq, fun k hk => ⟨0, by dsimp only; rw [z0' k hk, show (0 : Int32).toInt = 0 from rfl]; omega⟩, fun k hk _ => z0' k hk⟩
  refine ⟨S', Q, ?_, h2, h3⟩
  unfold fX8_divides
  rw [bd_t g0, bd_t (X8degreeOf base), hbd, pv_s, gd_t (vp_in_nI b25 (by omega)), nI_clamp (by omega), bve, bd_t hue, bd_t (X8degreeOf sum)]
  exact bd2_t h1
