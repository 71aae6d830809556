/-! the reference's form, whole -/
theorem popv8 {p C m : Nat} {num : Nat → Int32} (hC : C ≤ 3) (w2 : Low8 C m num) (w4 : DP m (P8 num C)) (w5 : ld1 C m num) (w6 : ∀ i, i < m → Redd C m num i) (w7 : ∀ a b, a < b → b < m → P8 num C a < P8 num C b) : Popv p C m (rw8 num) (fun i => P8 num C i - 1) := by
  have hpd : ∀ i, i < m → ∃ a, P8 num C i = a + 1 := fun i hi => ⟨P8 num C i - 1, by have := w4.1 i hi; omega⟩
  refine ⟨fun i hi => ?_, fun i j hi hj e => w4.2 i j hi hj e, fun i j hi hj e k hk => ?_, fun i j hij hj => ?_⟩
  · obtain ⟨a, ha⟩ := hpd i hi
    obtain ⟨s1, s2, -, -⟩ := plc_spec _ _ _ _ ha
    dsimp only
    rw [ha, Nat.add_sub_cancel]
    refine ⟨s2, ?_, fun c k hc hlt => ⟨0, ?_⟩⟩
    · refine ⟨0, ?_⟩
      unfold rw8 cl8
      rw [if_pos (by omega), w5 i a hi ha]
      rfl
    · unfold rw8 cl8
      by_cases hk : k < 25
      · rw [if_pos hk, above8 hC w2 hi ha hc hk hlt]
        rfl
      · rw [if_neg hk]
        rfl
  · obtain ⟨b, hb⟩ := hpd j hj
    dsimp only at hk ⊢
    rw [hb, Nat.add_sub_cancel] at hk ⊢
    refine ⟨0, ?_⟩
    unfold rw8 cl8
    by_cases hk2 : k < 25
    · rw [if_pos hk2, w6 i hi j b k hj (fun z => e z.symm) hb hk hk2]
      rfl
    · rw [if_neg hk2]
      rfl
  · have := w7 i j hij hj
    have := w4.1 i (by omega)
    dsimp only
    omega
theorem X8reduces {p C m : Nat} {A W : Nat → Int32} (J : Nat → (Nat → Int32) → Prop) (hp : p = 2 ∨ p = 3 ∨ p = 5 ∨ p = 7) (b0 : A 0 = nI p) (hC : C ≤ 3) (hm : m ≤ 5) (hJC : JC p C J) (hW : WR p C m W) (hJ : J m (emb W)) (hdp : DP m (P8 (emb W) C)) (hld : ld1 C m (emb W)) : ∃ W', Lp (fun (z : Int32 × (Nat → Int32)) => fX8_forms_s147 (nI C) A (nI m) z.1 z.2) ((0 : Int32), W) = some W' ∧ WR p C m W' ∧ J m (emb W') ∧ DP m (P8 (emb W') C) ∧ ld1 C m (emb W') ∧ ∀ i, i < m → Redd C m (emb W') i := by
  have hp0 : 0 < p := by omega
  refine Lp_up (fun i s => (i, s)) m (fun j s => WR p C m s ∧ J m (emb s) ∧ DP m (P8 (emb s) C) ∧ ld1 C m (emb s) ∧ ∀ i, i < j → Redd C m (emb s) i) (fun (r : Nat → Int32) => WR p C m r ∧ J m (emb r) ∧ DP m (P8 (emb r) C) ∧ ld1 C m (emb r) ∧ ∀ i, i < m → Redd C m (emb r) i) ?_ ?_ 0 W (Nat.zero_le _) ⟨hW, hJ, hdp, hld, fun i hi => absurd hi (Nat.not_lt_zero _)⟩
  · rintro i X hi ⟨q1, q3, q4, q5, q6⟩
    obtain ⟨X', g1, g2, g3, g4, g5, g6⟩ := X8lowers (A := A) (fun E => J m E) hp b0 hC (show m ≤ 6 by omega) hm (Nat.le_refl m) hi q1 q4 q5 q3 (fun E E' j v pw hr hl hj hji ho hl' hJE => hJC.1 m E E' i j _ pw hm hr hl hJE ho hl')
    have hoth : ∀ a c k, a ≠ i → c < 8 → k < 25 → emb X' ((a * 8 + c) * 25 + k) = emb X ((a * 8 + c) * 25 + k) := fun a c k ha hc hk => by
      rw [emb_at hc hk, emb_at hc hk]
      by_cases hin : c < 3 ∧ k < 8
      · rw [if_pos hin, if_pos hin, show 24 * a + 8 * c + k = 24 * a + (8 * c + k) by omega, g4 a _ ha (by omega)]
      · rw [if_neg hin, if_neg hin]
    obtain ⟨a, ha⟩ : ∃ a, P8 (emb X) C i = a + 1 := ⟨P8 (emb X) C i - 1, by have := q4.1 i hi; omega⟩
    have ha24 : a < 24 := (plc_spec _ _ _ _ ha).1
    have haC : a % 3 < C := (plc_spec _ _ _ _ ha).2.1
    have hsame : ∀ c k, c < C → k < 8 → a ≤ k * 3 + c → X' (24 * i + 8 * c + k) = X (24 * i + 8 * c + k) := fun c k hc hk h => g5 hi c k hc hk (by omega)
    have hPi : P8 (emb X') C i = a + 1 := by
      have hs := plc_spec _ _ _ _ ha
      have hw := wlead hC (by omega) q1 hi ha
      apply Nat.le_antisymm
      · show plc C (fun c k => cel (emb X') 8 25 i c k ≠ 0) 24 ≤ a + 1
        refine plc_bound 24 (fun s hs1 hs2 => ?_)
        rintro ⟨hs3, hs4⟩
        have h1 := (wz_iff (W := X') (i := i) (c := s % 3) (k := s / 3) (by omega) (by omega)).mp hs4
        apply h1
        rw [hsame (s % 3) (s / 3) hs3 (by omega) (by omega)]
        exact hw.2.2.2.2 (s % 3) (s / 3) hs3 (by omega) (by omega)
      · apply Classical.byContradiction
        intro hlt
        have hnz : wz X' i (a % 3) (a / 3) := (wz_iff (W := X') (i := i) (c := a % 3) (k := a / 3) (by omega) (by omega)).mpr (by
          rw [hsame (a % 3) (a / 3) haC (by omega) (by omega)]
          exact (wz_iff (W := X) (i := i) (c := a % 3) (k := a / 3) (by omega) (by omega)).mp hs.2.2.1)
        cases hP : P8 (emb X') C i with
        | zero => exact plc_zero _ _ _ hP a (by omega) ⟨haC, hnz⟩
        | succ P => exact (plc_spec _ _ _ _ hP).2.2.2 a (by omega) (by omega) ⟨haC, hnz⟩
    have hP : ∀ i', i' < m → P8 (emb X') C i' = P8 (emb X) C i' := by
      intro i' hi'
      by_cases e : i' = i
      · rw [e, hPi, ha]
      · exact P8_same hC (fun c k hc hk => hoth i' c k e hc hk)
    refine Or.inl ⟨X', ?_, g2, g3, ⟨fun i' hi' => by rw [hP i' hi']; exact q4.1 i' hi', fun i' j' hi' hj' hne => by rw [hP i' hi', hP j' hj']; exact q4.2 i' j' hi' hj' hne⟩, ?_, ?_⟩
    · dsimp only
      unfold fX8_forms_s147
      rw [if_neg (nI_ge hi (by omega))]
      exact bd_t g1
    · intro i' b hi' hb
      rw [hP i' hi'] at hb
      by_cases e : i' = i
      · subst e
        rw [ha] at hb
        have eb : b = a := by omega
        subst eb
        have h1 := q5 i' b hi' ha
        rw [emb_in (by omega) (by omega)] at h1 ⊢
        rw [hsame (b % 3) (b / 3) haC (by omega) (by omega)]
        exact h1
      · rw [hoth i' (b % 3) (b / 3) e (by omega) (by have := (plc_spec _ _ _ _ hb).1; omega)]
        exact q5 i' b hi' hb
    · intro i' hi' j b k hj hji hb hbk hk
      rw [hP j hj] at hb
      by_cases e : i' = i
      · subst e
        have hb3 : b % 3 < C := (plc_spec _ _ _ _ hb).2.1
        by_cases hk8 : k < 8
        · rw [emb_in (by omega) hk8]
          exact g6 j b k hj hji hb hbk hk8
        · exact emb_out (by omega) hk (by omega)
      · rw [hoth i' (b % 3) k e (by omega) hk]
        exact q6 i' (by omega) j b k hj hji hb hbk hk
  · rintro s ⟨q1, q3, q4, q5, q6⟩
    refine ⟨s, ?_, q1, q3, q4, q5, q6⟩
    dsimp only
    unfold fX8_forms_s147
    rw [if_pos (nI_le (Nat.le_refl _) (by omega))]
/-- the order by 8 times the degree and the pivot is the places' own -/
theorem far_ge {P Q : Nat} (hP : P ≤ 24) (hQ : Q ≤ 24) (hP0 : P ≠ 0) (hQ0 : Q ≠ 0) : 0 ≤ ((((8 : Int32) * pv (pw Q)) + pv (cp Q)) - ((8 : Int32) * pv (pw P))) - pv (cp P) ↔ P ≤ Q := by
  obtain ⟨a, rfl⟩ : ∃ a, P = a + 1 := ⟨P - 1, by omega⟩
  obtain ⟨b, rfl⟩ : ∃ b, Q = b + 1 := ⟨Q - 1, by omega⟩
  rw [pw_s, cp_s, pw_s, cp_s, pv_s, pv_s, pv_s, pv_s]
  rw [show (8 : Int32) * nI (b / 3) = nI (8 * (b / 3)) from pk_mul 8 (b / 3), show (8 : Int32) * nI (a / 3) = nI (8 * (a / 3)) from pk_mul 8 (a / 3), nI_add]
  have h1 := pk_sub_toInt (a := 8 * (b / 3) + b % 3) (b := 8 * (a / 3)) (by omega) (by omega)
  have h2 : (nI (a % 3)).toInt = ((a % 3 : Nat) : Int) := nI_toInt (by omega)
  rw [Int32.le_iff_toInt_le, i32_sub (by rw [h1, h2]; omega) (by rw [h1, h2]; omega), h1, h2, show (0 : Int32).toInt = 0 from rfl]
  omega
theorem X8sorts {p C m : Nat} {W : Nat → Int32} (J : Nat → (Nat → Int32) → Prop) (hp : p = 2 ∨ p = 3 ∨ p = 5 ∨ p = 7) (hC : C ≤ 3) (hm : m ≤ 5) (hJC : JC p C J) (hW : WR p C m W) (hJ : J m (emb W)) (hdp : DP m (P8 (emb W) C)) (hld : ld1 C m (emb W)) (hred : ∀ i, i < m → Redd C m (emb W) i) :
    ∃ W', Lp (fun (z : Int32 × (Nat → Int32)) => fX8_forms_s173 (nI C) (nI m) z.1 z.2) ((0 : Int32), W) = some W' ∧ WR p C m W' ∧ J m (emb W') ∧ DP m (P8 (emb W') C) ∧ ld1 C m (emb W') ∧ (∀ i, i < m → Redd C m (emb W') i) ∧ ∀ a b, a < b → b < m → P8 (emb W') C a < P8 (emb W') C b := by
  have hp0 : 0 < p := by omega
  let G : (Nat → Int32) → Prop := fun x => WR p C m x ∧ J m (emb x) ∧ DP m (P8 (emb x) C) ∧ ld1 C m (emb x) ∧ ∀ i, i < m → Redd C m (emb x) i
  obtain ⟨W', h1, h2, h3⟩ := Lp_up (fun i s => (i, s)) (g := fun (z : Int32 × (Nat → Int32)) => fX8_forms_s173 (nI C) (nI m) z.1 z.2) m (fun i x => G x ∧ ∀ a b, a < i → a < b → b < m → P8 (emb x) C a < P8 (emb x) C b) (fun (x : Nat → Int32) => G x ∧ ∀ a b, a < b → b < m → P8 (emb x) C a < P8 (emb x) C b)
    (fun i x hi hI => by
      obtain ⟨hG, hA⟩ := hI
      obtain ⟨x', g1, g2, g3⟩ := Lp_up (fun i s => (i, s)) (g := fun (z : Int32 × (Nat → Int32)) => fX8_forms_s185 (nI C) (nI i) (nI m) z.1 z.2) m (fun j x => i < j ∧ G x ∧ (∀ a b, a < i → a < b → b < m → P8 (emb x) C a < P8 (emb x) C b) ∧ ∀ b, i < b → b < j → P8 (emb x) C i < P8 (emb x) C b) (fun (x : Nat → Int32) => G x ∧ ∀ a b, a < i + 1 → a < b → b < m → P8 (emb x) C a < P8 (emb x) C b)
        (fun j x hj hI => by
          obtain ⟨hlt, hG, hA, hB⟩ := hI
          obtain ⟨q1, q3, q4, q5, q6⟩ := hG
          have lj : P8 (emb x) C j ≤ 24 := rP_le (emb x) 8 25 C j
          have li : P8 (emb x) C i ≤ 24 := rP_le (emb x) 8 25 C i
          have hne : i ≠ j → P8 (emb x) C i ≠ P8 (emb x) C j := fun e z => q4.2 i j hi hj e (by rw [z])
          have hfar := far_ge li lj (q4.1 i hi) (q4.1 j hj)
          dsimp only
          unfold fX8_forms_s185
          rw [if_neg (nI_ge hj (by omega)), bd_t (X8wDeg (show j < 6 by omega) hC), bd_t (X8wPiv (show j < 6 by omega) hC), bd_t (X8wDeg (show i < 6 by omega) hC), bd_t (X8wPiv (show i < 6 by omega) hC)]
          by_cases hle : P8 (emb x) C i ≤ P8 (emb x) C j
          · rw [if_pos (hfar.mpr hle)]
            refine Or.inl ⟨x, rfl, by omega, ⟨q1, q3, q4, q5, q6⟩, hA, ?_⟩
            intro b hb1 hb2
            by_cases e : b = j
            · subst e
              have := hne (by omega)
              omega
            · exact hB b hb1 (by omega)
          · rw [if_neg (fun z => hle (hfar.mp z))]
            have hij : i ≠ j := fun e => hle (by rw [e]; exact Nat.le_refl _)
            obtain ⟨x', g1, g2⟩ := X8exch (N := m) (i := i) (j := j) (W := x) (by omega) hi hj
            obtain ⟨g3, g4⟩ := exch_WR (i := i) (j := j) hi hj q1 g2
            have hop := g4 m hi hj
            obtain ⟨r1, r2, r3, r4, r5, r6⟩ := swap_keeps hC hop (WR_rep hp0 q1) (WR_low hC) q4 q5 q6
            refine Or.inl ⟨x', bd_t g1, by omega, ⟨g3, hJC.2.2.1 m _ _ i j hm (WR_rep hp0 q1) q3 hop, r3, r4, r5⟩, ?_, ?_⟩
            · intro a b ha hab hb
              rw [r6 a (by omega), r6 b hb]
              have ea : sw2 i j a = a := by
                unfold sw2
                rw [if_neg (by omega), if_neg (by omega)]
              rw [ea]
              have hlt : a < sw2 i j b := by
                unfold sw2
                split
                · omega
                · split <;> omega
              exact hA a _ ha hlt (sw2_lt hi hj hb)
            · intro b hb1 hb2
              have e1 : sw2 i j i = j := by unfold sw2; rw [if_pos rfl]
              rw [r6 i hi, e1, r6 b (by omega)]
              by_cases e : b = j
              · subst e
                have e2 : sw2 i b b = i := by unfold sw2; rw [if_neg (by omega), if_pos rfl]
                rw [e2]
                omega
              · have e2 : sw2 i j b = b := by unfold sw2; rw [if_neg (by omega), if_neg e]
                rw [e2]
                have := hB b hb1 (by omega)
                omega)
        (fun x hI => by
          obtain ⟨hlt, hG, hA, hB⟩ := hI
          refine ⟨x, ?_, hG, ?_⟩
          · dsimp only
            unfold fX8_forms_s185
            rw [if_pos (nI_le (Nat.le_refl _) (by omega))]
          · intro a b ha hab hb
            by_cases e : a = i
            · rw [e] at hab ⊢; exact hB b hab hb
            · exact hA a b (by omega) hab hb) (i + 1) x (by omega) ⟨by omega, hG, hA, fun b h1 h2 => by omega⟩
      refine Or.inl ⟨x', ?_, g2, g3⟩
      dsimp only
      unfold fX8_forms_s173
      rw [if_neg (nI_ge hi (by omega)), nI_1]
      exact bd_t g1)
    (fun x hI => by
      refine ⟨x, ?_, hI.1, fun a b hab hb => hI.2 a b (by omega) hab hb⟩
      dsimp only
      unfold fX8_forms_s173
      rw [if_pos (nI_le (Nat.le_refl _) (by omega))]) 0 W (Nat.zero_le _) ⟨⟨hW, hJ, hdp, hld, hred⟩, fun a b h => absurd h (Nat.not_lt_zero _)⟩
  obtain ⟨q1, q3, q4, q5, q6⟩ := h2
  exact ⟨W', h1, q1, q3, q4, q5, q6, h3⟩
theorem X8forms {p C n : Nat} {A W : Nat → Int32} (J : Nat → (Nat → Int32) → Prop) (hp : p = 2 ∨ p = 3 ∨ p = 5 ∨ p = 7) (b0 : A 0 = nI p) (hC : C ≤ 3) (hn : n ≤ 5) (hJC : JC p C J) (hW : WR p C n W) (hJ : J n (emb W)) :
    ∃ m W', fX8_forms (nI n) (nI C) A W = some (nI m, W') ∧ m ≤ n ∧ WR p C m W' ∧ J m (emb W') ∧ DP m (P8 (emb W') C) ∧ ld1 C m (emb W') ∧ Popv p C m (rw8 (emb W')) (fun i => P8 (emb W') C i - 1) := by
  obtain ⟨x1, h1, s1, s3, s4⟩ := X8stepsAll J hp b0 hC hn hJC hW hJ
  obtain ⟨m, x2, h2, hmn, t1, t3, t4, t5⟩ := X8removes J hp hC hn hJC s1 s3 s4
  obtain ⟨x3, h3, u1, u3, u4, u5⟩ := X8scales J hp b0 hC (by omega) hJC t1 t3 t5
  have hdp : DP m (P8 (emb x3) C) := by
    have := DP_of t5 t4
    exact ⟨fun i hi => by rw [u4 i hi]; exact this.1 i hi, fun i j hi hj e => by rw [u4 i hi, u4 j hj]; exact this.2 i j hi hj e⟩
  obtain ⟨x4, h4, v1, v3, v4, v5, v6⟩ := X8reduces J hp b0 hC (by omega) hJC u1 u3 hdp u5
  obtain ⟨x5, h5, w1, w3, w4, w5, w6, w7⟩ := X8sorts J hp hC (by omega) hJC v1 v3 v4 v5 v6
  refine ⟨m, x5, ?_, hmn, w1, w3, w4, w5, popv8 hC (WR_low hC) w4 w5 w6 w7⟩
  have e : (nI n - (1 : Int32)) = nI n + (-1) := Int32.sub_eq_add_neg ..
  unfold fX8_forms
  rw [e]
  refine (bd_t h1).trans ((bd2_t h2).trans ?_)
  exact (bd_t h3).trans ((bd_t h4).trans (bd_t h5))
