/-! a row is brought below the others' leads -/
theorem X5rowFor {P : Nat → Nat} {pl : Nat → Int32} {n c k : Nat} {but : Int32} (hn : n ≤ 5) (hc : c < 3) (hk : k < 100) (hP : ∀ i, P i ≤ 24) (hpl : ∀ i, i < n → pl i = pv (P i)) : (∃ j b, j < n ∧ nI j ≠ but ∧ P j = b + 1 ∧ b % 3 = c ∧ b / 3 ≤ k ∧ fX5_rowFor (nI n) pl (nI c) (nI k) but = some (nI j)) ∨ ((∀ j b, j < n → nI j ≠ but → P j = b + 1 → b % 3 = c → ¬ b / 3 ≤ k) ∧ fX5_rowFor (nI n) pl (nI c) (nI k) but = some (-1)) := by
  obtain ⟨r, h1, h2⟩ := Lp_up (fun (i : Int32) (_ : Unit) => i) (g := fun z => fX5_rowFor_s3 (nI n) pl (nI c) (nI k) but z) n (fun i _ => ∀ j b, j < i → nI j ≠ but → P j = b + 1 → b % 3 = c → ¬ b / 3 ≤ k)
    (fun r => match r with | .inl _ => ∀ j b, j < n → nI j ≠ but → P j = b + 1 → b % 3 = c → ¬ b / 3 ≤ k | .inr x => ∃ j b, j < n ∧ nI j ≠ but ∧ P j = b + 1 ∧ b % 3 = c ∧ b / 3 ≤ k ∧ x = nI j)
    (fun i _ hi hI => by
      have e1 := X5placeAt (places := pl) (i := i) (by omega)
      rw [hpl i hi] at e1
      have hPi := hP i
      unfold fX5_rowFor_s3
      rw [if_neg (nI_ge hi (by omega)), bd_t e1]
      by_cases hb : nI i = but
      · rw [if_pos hb]
        refine Or.inl ⟨(), rfl, fun j b hj hj2 => ?_⟩
        by_cases e : j = i
        · rw [e] at hj2; exact absurd hb hj2
        · exact hI j b (by omega) hj2
      · rw [if_neg hb]
        by_cases h0 : P i = 0
        · rw [h0, pv_0, columnAt_m1, if_neg (m1_nI (by omega))]
          refine Or.inl ⟨(), rfl, fun j b hj hj2 hj3 => ?_⟩
          by_cases e : j = i
          · rw [e] at hj3; omega
          · exact hI j b (by omega) hj2 hj3
        · obtain ⟨b, hb2⟩ : ∃ b, P i = b + 1 := ⟨P i - 1, by omega⟩
          rw [hb2, pv_s, columnAt_nI (by omega), powerAt_nI (by omega)]
          by_cases h3 : b % 3 = c
          · rw [if_pos (by rw [h3])]
            by_cases h4 : b / 3 ≤ k
            · rw [if_neg (nI_nlt h4 (by omega))]
              exact Or.inr ⟨_, rfl, i, b, hi, hb, hb2, h3, h4, rfl⟩
            · rw [if_pos (nI_lt (by omega) (by omega))]
              refine Or.inl ⟨(), rfl, fun j b' hj hj2 hj3 => ?_⟩
              by_cases e : j = i
              · rw [e, hb2] at hj3
                intro _
                omega
              · exact hI j b' (by omega) hj2 hj3
          · rw [if_neg (fun e => h3 ((nI_eq (by omega) (by omega)).mp e))]
            refine Or.inl ⟨(), rfl, fun j b' hj hj2 hj3 hj4 => ?_⟩
            by_cases e : j = i
            · rw [e, hb2] at hj3
              omega
            · exact hI j b' (by omega) hj2 hj3 hj4)
    (fun _ hI => by
      refine ⟨.inl (), ?_, hI⟩
      unfold fX5_rowFor_s3
      rw [if_pos (nI_le (Nat.le_refl _) (by omega))]) 0 () (Nat.zero_le _) (fun j b hj => absurd hj (Nat.not_lt_zero _))
  unfold fX5_rowFor
  rw [show (0 : Int32) = nI 0 from rfl, h1]
  match r, h2 with
  | .inl _, h2 => exact Or.inr ⟨h2, rfl⟩
  | .inr x, h2 =>
    obtain ⟨j, b, g1, g2, g3, g4, g5, rfl⟩ := h2
    exact Or.inl ⟨j, b, g1, g2, g3, g4, g5, rfl⟩
/-- leads at unlike columns, none nought -/
def DP (m : Nat) (P : Nat → Nat) : Prop := (∀ i, i < m → P i ≠ 0) ∧ ∀ i j, i < m → j < m → i ≠ j → (P i - 1) % 3 ≠ (P j - 1) % 3
theorem DP_of {m : Nat} {P : Nat → Nat} (h0 : ∀ i, i < m → P i ≠ 0) (h : ∀ i j, i < m → j < m → ¬ CS P i j) : DP m P := by
  refine ⟨h0, fun i j hi hj hij e => ?_⟩
  by_cases hle : P j ≤ P i
  · exact h i j hi hj ⟨hij, h0 i hi, h0 j hj, hle, e⟩
  · exact h j i hj hi ⟨fun z => hij z.symm, h0 j hj, h0 i hi, by omega, e.symm⟩
/-- one step of a reduction of row i by row j at the place k, c -/
theorem red_step8 {p C m i j b c k v : Nat} {num num' : Nat → Int32} (hp : p = 2 ∨ p = 3 ∨ p = 5 ∨ p = 7) (hC : C ≤ 3) (hrep : Rep8 p m num) (hlow : Low8 C m num) (hj : j < m) (hb : P8 num C j = b + 1) (h1 : num ((j * 8 + b % 3) * 25 + b / 3) = 1) (hbc : b % 3 = c) (hbk : b / 3 ≤ k) (hk : k < 8) (hc : c < C) (hv : v < p) (hve : num ((i * 8 + c) * 25 + k) = nI v) (ho : OpA p m num num' i j (-(v : Int)) (k - b / 3)) : num' ((i * 8 + c) * 25 + k) = 0 ∧ ∀ c' k', c' < C → k' < 25 → k * 3 + c < k' * 3 + c' → num' ((i * 8 + c') * 25 + k') = num ((i * 8 + c') * 25 + k') := by
  have hp0 : 0 < p := by omega
  obtain ⟨hi, -, -, -, g1, -⟩ := ho
  constructor
  · have e1 : cl8 num i c k = (v : Int) := by unfold cl8; rw [hve, nI_toInt (by omega)]
    have e2 : cl8 num j c (k - (k - b / 3)) = 1 := by
      unfold cl8
      rw [show k - (k - b / 3) = b / 3 by omega, ← hbc, h1]
      rfl
    rw [g1 c k (by omega) (by omega), if_pos (by omega), e1, e2, md_zero hp0 ⟨0, by omega⟩]
    rfl
  · intro c' k' hc' hk' hlt
    have e2 : (if k - b / 3 ≤ k' then -(v : Int) * cl8 num j c' (k' - (k - b / 3)) else 0) = 0 := by
      by_cases h : k - b / 3 ≤ k'
      · rw [if_pos h]
        have : cl8 num j c' (k' - (k - b / 3)) = 0 := by
          unfold cl8
          rw [above8 hC hlow hj hb hc' (by omega) (by omega)]
          rfl
        rw [this, Int.mul_zero]
      · rw [if_neg h]
    obtain ⟨w, hw, hwe⟩ := hrep i c' k' hi (by omega) hk'
    have e1 : cl8 num i c' k' = (w : Int) := by unfold cl8; rw [hwe, nI_toInt (by omega)]
    rw [g1 c' k' (by omega) hk', e2, e1, Int.add_zero, md_small hw, hwe]
/-- the class's reduce of a row of the list itself -/
theorem reduceS {p C m i : Nat} {num yp : Nat → Int32} (J : Nat → (Nat → Int32) → Prop) (hp : p = 2 ∨ p = 3 ∨ p = 5 ∨ p = 7) (hC : C ≤ 3) (hm : m ≤ 5) (hJC : JC p C J) (hrep : Rep8 p m num) (hlow : Low8 C m num) (hJ : J m num) (hi : i < m) (hdp : DP m (P8 num C)) (hld : ld1 C m num) :
    ∃ num' pl, fX2_reduce_e00 (nI p) (nI C) (nI m) num yp (nI i) (nI i) = some (num', nI m, pl) ∧ Rep8 p m num' ∧ Low8 C m num' ∧ J m num' ∧ (∀ i', i' < m → P8 num' C i' = P8 num C i') ∧ ld1 C m num' ∧ (∀ i' c k, i' ≠ i → c < 8 → k < 25 → num' ((i' * 8 + c) * 25 + k) = num ((i' * 8 + c) * 25 + k)) ∧ ∀ j b k, j < m → j ≠ i → P8 num C j = b + 1 → b / 3 ≤ k → k < 25 → num' ((i * 8 + b % 3) * 25 + k) = 0 := by
  have hp0 : 0 < p := by omega
  obtain ⟨pl, hm1, hm2⟩ := X5measure (places := yp) (L := 1000) (R := 5) (w := 8) (q := 25) (n := m) (C := C) (num := num) rfl (by omega) (by omega) (by omega) (by omega) hm hm hC (by omega)
  have hPle : ∀ i, P8 num C i ≤ 24 := fun i => rP_le num 8 25 C i
  obtain ⟨a, ha⟩ : ∃ a, P8 num C i = a + 1 := ⟨P8 num C i - 1, by have := hdp.1 i hi; omega⟩
  have ha24 : a < 24 := (plc_spec _ _ _ _ ha).1
  have haC : a % 3 < C := (plc_spec _ _ _ _ ha).2.1
  -- what holds when the places from s on are done
  let RI : Nat → (Nat → Int32) → Prop := fun s x => Rep8 p m x ∧ Low8 C m x ∧ J m x ∧ (∀ i' c k, i' ≠ i → c < 8 → k < 25 → x ((i' * 8 + c) * 25 + k) = num ((i' * 8 + c) * 25 + k)) ∧ (∀ c k, c < C → k < 25 → a ≤ k * 3 + c → x ((i * 8 + c) * 25 + k) = num ((i * 8 + c) * 25 + k)) ∧ ∀ j b k, j < m → j ≠ i → P8 num C j = b + 1 → b / 3 ≤ k → k < 25 → s ≤ k * 3 + b % 3 → x ((i * 8 + b % 3) * 25 + k) = 0
  have hin : ∀ c k x, c < C → k < 8 → RI (k * 3 + (c + 1)) x → ∃ x', fX2_reduce_e00_s31 (nI p) (nI i) (nI i) (nI k) (nI m) pl (nI c) x = some (.inl (nI c + (-1), x')) ∧ RI (k * 3 + c) x' := by
    intro c k x hc hk hI
    obtain ⟨q1, q2, q3, q4, q5, q6⟩ := hI
    obtain ⟨v, hv, hve⟩ := q1 i c k hi (by omega) (by omega)
    have hat := X3at_in (L := 1000) (R := 5) (w := 8) (q := 25) (i := i) (c := c) (k := k) (num := x) rfl (by omega) (by omega) (by omega) (by omega) (by omega) (by omega) (by omega)
    rw [hve] at hat
    have hPx : ∀ j, j ≠ i → P8 x C j = P8 num C j := fun j e => P8_same hC (fun c k hc hk => q4 j c k e hc hk)
    unfold fX2_reduce_e00_s31
    rw [if_neg (nI_pos (by omega))]
    by_cases hv0 : v = 0
    · subst hv0
      refine ⟨x, (bd_t hat).trans ((bd_t (if_pos rfl)).trans (if_pos rfl)), q1, q2, q3, q4, q5, ?_⟩
      intro j b k' hj hji hb hbk hk' hs
      by_cases e : k' * 3 + b % 3 = k * 3 + c
      · have hb3 : b % 3 < C := (plc_spec _ _ _ _ hb).2.1
        have e1 : b % 3 = c := by omega
        have e2 : k' = k := by omega
        rw [e1, e2]
        exact hve
      · exact q6 j b k' hj hji hb hbk hk' (by omega)
    · have hvn : ¬ nI v = 0 := nI_ne0 (by omega) (by omega)
      rcases X5rowFor (P := P8 num C) (pl := pl) (n := m) (c := c) (k := k) (but := nI i) hm (by omega) (by omega) hPle hm2 with ⟨j, b, hj, hjb, hb, hbc, hbk, hf⟩ | ⟨hno, hf⟩
      · have hji : j ≠ i := fun e => hjb (by rw [e])
        have hne : k * 3 + c ≠ a := by
          intro e
          have := hdp.2 i j hi hj (fun z => hji z.symm)
          rw [ha, hb] at this
          omega
        have hlt : k * 3 + c < a := by
          apply Classical.byContradiction
          intro h
          have h5 := q5 c k hc (by omega) (by omega)
          rw [above8 hC hlow hi ha hc (by omega) (by omega)] at h5
          rw [hve] at h5
          exact hvn h5
        have hbx : P8 x C j = b + 1 := by rw [hPx j hji]; exact hb
        have hb24 : b < 24 := (plc_spec _ _ _ _ hb).1
        have hl1 : x ((j * 8 + b % 3) * 25 + b / 3) = 1 := by
          rw [q4 j (b % 3) (b / 3) hji (by omega) (by omega)]
          exact hld j b hj hb
        have hpa := X5placeAt (places := pl) (i := j) (by omega)
        rw [hm2 j hj] at hpa
        have hb2 : rP num 8 25 C j = b + 1 := hb
        rw [hb2, pv_s] at hpa
        have hvI : (nI v).toInt = (v : Int) := nI_toInt (by omega)
        have hneg : (-nI v).toInt = -(v : Int) := by rw [i32_neg (by omega), hvI]
        obtain ⟨x', g1, g2, g3⟩ := X3addS (L := 1000) (R := 5) (w := 8) (q := 25) (i := i) (j := j) (p := p) (pw := k - b / 3) (num := x) (t := -nI v) (fun c k => (x ((j * 8 + c) * 25 + k)).toInt.toNat) rfl (by omega) (by omega) (by omega) (by omega) (by omega) (by omega) hji hp0 (by omega) (by omega) (by rw [hneg]; omega) (by rw [hneg]; omega)
          (fun c k hc hk => by
            obtain ⟨v, hv, e⟩ := q1 j c k hj hc hk
            rw [e, nI_toInt (by omega)]
            exact ⟨by omega, rfl⟩)
          (fun c k hc hk => q1 i c k hi hc hk)
        have hop : OpA p m x x' i j (-(v : Int)) (k - b / 3) := by
          refine ⟨hi, hj, fun e => hji e.symm, by omega, ?_, g3⟩
          intro c' k' hc' hk'
          rw [g2 c' k' hc' hk', hneg]
          have e1 : (if k - b / 3 ≤ k' ∧ k' - (k - b / 3) < 25 then -(v : Int) * (((x ((j * 8 + c') * 25 + (k' - (k - b / 3)))).toInt.toNat : Nat) : Int) else 0) = (if k - b / 3 ≤ k' then -(v : Int) * cl8 x j c' (k' - (k - b / 3)) else 0) := by
            by_cases h : k - b / 3 ≤ k'
            · rw [if_pos ⟨h, by omega⟩, if_pos h]
              have := (Rep8_le (by omega) q1 hj hc' (show k' - (k - b / 3) < 25 by omega)).1
              unfold cl8 at this ⊢
              rw [Int.toNat_of_nonneg this]
            · rw [if_neg (fun z => h z.1), if_neg h]
          rw [e1]
          rfl
        obtain ⟨r1, r2⟩ := red_step8 hp hC q1 q2 hj hbx hl1 hbc hbk hk hc hv hve hop
        have hlow' : Low8 C m x' := by
          intro i' c' k' hi' hc' h8 hk'
          by_cases e : i' = i
          · rw [e, r2 c' k' hc' hk' (by omega)]
            exact q2 i c' k' hi hc' h8 hk'
          · rw [g3 i' c' k' e (by omega) hk']
            exact q2 i' c' k' hi' hc' h8 hk'
        refine ⟨x', (bd_t hat).trans ((bd_t ((if_neg hvn).trans ((bd_t hf).trans rfl))).trans ((if_neg (nI_m1 (by omega))).trans ((bd_t hpa).trans ?_))), Rep8_A hp0 q1 hop, hlow', hJC.1 m x x' i j _ _ hm q1 q2 q3 hop hlow', ?_, ?_, ?_⟩
        · rw [powerAt_nI (by omega), pk_sub hbk]
          exact bd_t g1
        · intro i' c' k' e hc' hk'
          rw [g3 i' c' k' e hc' hk']
          exact q4 i' c' k' e hc' hk'
        · intro c' k' hc' hk' h
          rw [r2 c' k' hc' hk' (by omega)]
          exact q5 c' k' hc' hk' h
        · intro j' b' k' hj' hji' hb' hbk' hk' hs
          have hb3 : b' % 3 < C := (plc_spec _ _ _ _ hb').2.1
          by_cases e : k' * 3 + b' % 3 = k * 3 + c
          · have e1 : b' % 3 = c := by omega
            have e2 : k' = k := by omega
            rw [e1, e2]
            exact r1
          · rw [r2 (b' % 3) k' hb3 hk' (by omega)]
            exact q6 j' b' k' hj' hji' hb' hbk' hk' (by omega)
      · refine ⟨x, (bd_t hat).trans ((bd_t ((if_neg hvn).trans ((bd_t hf).trans rfl))).trans (if_pos rfl)), q1, q2, q3, q4, q5, ?_⟩
        intro j b k' hj hji hb hbk hk' hs
        have hb3 : b % 3 < C := (plc_spec _ _ _ _ hb).2.1
        by_cases e : k' * 3 + b % 3 = k * 3 + c
        · exfalso
          have e2 : k' = k := by omega
          refine hno j b hj (fun z => hji ?_) hb (by omega) (by omega)
          exact (nI_eq (by omega) (by omega)).mp z
        · exact q6 j b k' hj hji hb hbk hk' (by omega)
  obtain ⟨num', h1, h2⟩ := Lp_dn (fun i s => (i, s)) (g := fun (z : Int32 × (Nat → Int32)) => fX2_reduce_e00_s15 (nI p) (nI C) (nI i) (nI i) (nI m) pl z.1 z.2) (fun k x => RI (k * 3) x) (fun x => RI 0 x) 8
    (fun k x hk hI => by
      obtain ⟨x', g1, g2⟩ := Lp_dn (fun i s => (i, s)) (g := fun (z : Int32 × (Nat → Int32)) => fX2_reduce_e00_s31 (nI p) (nI i) (nI i) (nI k) (nI m) pl z.1 z.2) (fun c x => RI (k * 3 + c) x) (fun x => RI (k * 3) x) C
        (fun c x hc hI => by
          obtain ⟨x', g1, g2⟩ := hin c k x hc hk hI
          exact Or.inl ⟨x', g1, g2⟩)
        (fun x hI => by
          refine ⟨x, ?_, hI⟩
          dsimp only
          unfold fX2_reduce_e00_s31
          rw [if_pos (by decide)]) C x (Nat.le_refl _) (by
          obtain ⟨q1, q2, q3, q4, q5, q6⟩ := hI
          refine ⟨q1, q2, q3, q4, q5, fun j b k' hj hji hb hbk hk' hs => ?_⟩
          have hb3 : b % 3 < C := (plc_spec _ _ _ _ hb).2.1
          exact q6 j b k' hj hji hb hbk hk' (by omega))
      refine Or.inl ⟨x', ?_, g2⟩
      dsimp only
      unfold fX2_reduce_e00_s15
      rw [if_neg (nI_pos (by omega)), show (nI C - (1 : Int32)) = nI C + (-1) from Int32.sub_eq_add_neg ..]
      exact bd_t g1)
    (fun x hI => by
      refine ⟨x, ?_, hI⟩
      dsimp only
      unfold fX2_reduce_e00_s15
      rw [if_pos (by decide)]) 8 num (Nat.le_refl _) ⟨hrep, hlow, hJ, fun _ _ _ _ _ _ => rfl, fun _ _ _ _ _ => rfl, fun j b k hj hji hb hbk hk hs => hlow i (b % 3) k hi (plc_spec _ _ _ _ hb).2.1 (by omega) hk⟩
  obtain ⟨q1, q2, q3, q4, q5, q6⟩ := h2
  have hPi : P8 num' C i = P8 num C i := by
    rw [ha]
    have hs := plc_spec _ _ _ _ ha
    apply Nat.le_antisymm
    · show plc C (fun c k => cel num' 8 25 i c k ≠ 0) 24 ≤ a + 1
      refine plc_bound 24 (fun s hs1 hs2 => ?_)
      rintro ⟨hs3, hs4⟩
      apply hs4
      unfold cel
      rw [if_pos (by omega), q5 (s % 3) (s / 3) hs3 (by omega) (by omega)]
      exact above8 hC hlow hi ha hs3 (by omega) (by omega)
    · apply Classical.byContradiction
      intro hlt
      have hz : ∀ P, P8 num' C i = P → P < a + 1 → False := by
        intro P hP hPa
        have hnz : cel num' 8 25 i (a % 3) (a / 3) ≠ 0 := by
          unfold cel
          rw [if_pos (by omega), q5 (a % 3) (a / 3) haC (by omega) (by omega)]
          have := hs.2.2.1
          unfold cel at this
          rw [if_pos (by omega)] at this
          exact this
        cases P with
        | zero => exact plc_zero _ _ _ hP a (by omega) ⟨haC, hnz⟩
        | succ P => exact (plc_spec _ _ _ _ hP).2.2.2 a (by omega) (by omega) ⟨haC, hnz⟩
      exact hz _ rfl (by omega)
  refine ⟨num', pl, ?_, q1, q2, q3, ?_, ?_, q4, fun j b k hj hji hb hbk hk => q6 j b k hj hji hb hbk hk (Nat.zero_le _)⟩
  · unfold fX2_reduce_e00
    have h7 : nI 8 + (-1) = (7 : Int32) := by decide
    rw [h7] at h1
    exact (bd2_t hm1).trans (bd_t h1)
  · intro i' hi'
    by_cases e : i' = i
    · rw [e]; exact hPi
    · exact P8_same hC (fun c k hc hk => q4 i' c k e hc hk)
  · intro i' b hi' hb
    by_cases e : i' = i
    · subst e
      rw [hPi] at hb
      have eb : b = a := by omega
      subst eb
      rw [q5 (b % 3) (b / 3) haC (by omega) (by omega)]
      exact hld i' b hi' ha
    · have hb' : P8 num C i' = b + 1 := by rw [← hb]; exact (P8_same hC (fun c k hc hk => q4 i' c k e hc hk)).symm
      rw [q4 i' (b % 3) (b / 3) e (by omega) (by have := (plc_spec _ _ _ _ hb).1; omega)]
      exact hld i' b hi' hb'
