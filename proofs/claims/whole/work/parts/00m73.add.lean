/-! addTimes, by coordinates: the same for another's rows and for one's own -/
theorem addCore {L R w q q2 i p pw : Nat} {num : Nat → Int32} {t : Int32} (src : Nat → Nat → Nat) (gi : Int32 → (Int32 × (Nat → Int32)) → Option ((Int32 × (Nat → Int32)) ⊕ (Nat → Int32))) (go : Int32 × (Nat → Int32) → Option ((Int32 × (Nat → Int32)) ⊕ (Nat → Int32))) (hL : R * w * q = L) (hLb : L ≤ 1000) (hR : R ≤ 25) (hw : w ≤ 25) (hq : q ≤ 25) (hq2 : q2 ≤ 25) (hi : i < R) (hp : 0 < p) (hp2 : p < 1000) (hpw : pw ≤ 100) (ht : -10 ≤ t.toInt) (ht2 : t.toInt ≤ 10) (hsrc : ∀ c k, c < w → k < q2 → src c k ≤ 10) (hn : ∀ c k, c < w → k < q → ∃ v : Nat, v < p ∧ num ((i * w + c) * q + k) = nI v)
    (hgi : ∀ c k m, c < w → k < q2 → (∀ i' c' k', i' ≠ i → c' < w → k' < q → m ((i' * w + c') * q + k') = num ((i' * w + c') * q + k')) → gi (nI c) (nI k, m) = if (t * nI (src c k)) = 0 then some (.inl (nI k + 1, m)) else bd (fX3_at L (nI R) (nI w) (nI q) m (nI i) (nI c) (nI k + nI pw)) (fun r => bd (fX3_put L (nI R) (nI w) (nI q) (nI p) m (nI i) (nI c) (nI k + nI pw) (r + t * nI (src c k))) (fun u => some (.inl (nI k + 1, u)))))
    (hgie : ∀ c m, c < w → gi (nI c) (nI q2, m) = some (.inr m))
    (ho : ∀ c m, c < w → go (nI c, m) = bd (Lp (gi (nI c)) (0, m)) (fun x => some (.inl (nI c + 1, x))))
    (hoe : ∀ m, go (nI w, m) = some (.inr m)) : ∃ num', Lp go (0, num) = some num' ∧ (∀ c k, c < w → k < q → num' ((i * w + c) * q + k) = nI (md ((num ((i * w + c) * q + k)).toInt + (if pw ≤ k ∧ k - pw < q2 then t.toInt * (src c (k - pw) : Int) else 0)) p)) ∧ ∀ i' c k, i' ≠ i → c < w → k < q → num' ((i' * w + c) * q + k) = num ((i' * w + c) * q + k) := by
  have key := loop2 (w := w) (q := q2) gi go
    (fun c0 k0 m => (∀ c k, c < w → k < q → m ((i * w + c) * q + k) = if c < c0 ∨ c = c0 ∧ k < k0 + pw then nI (md ((num ((i * w + c) * q + k)).toInt + (if pw ≤ k ∧ k - pw < q2 then t.toInt * (src c (k - pw) : Int) else 0)) p) else num ((i * w + c) * q + k)) ∧ ∀ i' c k, i' ≠ i → c < w → k < q → m ((i' * w + c) * q + k) = num ((i' * w + c) * q + k)) ?_ ?_ ho hoe num ?_
  · obtain ⟨num', h1, h2, h3⟩ := key
    refine ⟨num', h1, ?_, h3⟩
    intro c k hc hk
    rw [h2 c k hc hk, if_pos (Or.inl hc)]
  · intro c k m hc hk hI
    obtain ⟨hI1, hI2⟩ := hI
    have hs := hsrc c k hc hk
    have htI : (t * nI (src c k)).toInt = t.toInt * (src c k : Int) := by
      have h1 := Int.mul_le_mul_of_nonneg_right ht2 (show (0 : Int) ≤ (src c k : Int) by omega)
      have h2 := Int.mul_le_mul_of_nonneg_right ht (show (0 : Int) ≤ (src c k : Int) by omega)
      have hsn : (nI (src c k)).toInt = (src c k : Int) := nI_toInt (by omega)
      rw [i32_mul] <;> rw [hsn]
      · omega
      · omega
    have hbnd : -100 ≤ t.toInt * (src c k : Int) ∧ t.toInt * (src c k : Int) ≤ 100 := by
      have h1 := Int.mul_le_mul_of_nonneg_right ht2 (show (0 : Int) ≤ (src c k : Int) by omega)
      have h2 := Int.mul_le_mul_of_nonneg_right ht (show (0 : Int) ≤ (src c k : Int) by omega)
      omega
    have hg := hgi c k m hc hk hI2
    by_cases h0 : t * nI (src c k) = 0
    · rw [if_pos h0] at hg
      refine ⟨m, hg, ?_, hI2⟩
      intro c' k' hc' hk'
      rw [hI1 c' k' hc' hk']
      have hz : t.toInt * (src c k : Int) = 0 := by
        rw [← htI, h0]
        rfl
      by_cases h : c' < c ∨ c' = c ∧ k' < k + pw
      · rw [if_pos h, if_pos (show c' < c ∨ c' = c ∧ k' < k + 1 + pw by omega)]
      · rw [if_neg h]
        by_cases h2 : c' < c ∨ c' = c ∧ k' < k + 1 + pw
        · rw [if_pos h2]
          have e1 : c' = c := by omega
          have e2 : k' = k + pw := by omega
          subst e1; subst e2
          obtain ⟨v, hv, hve⟩ := hn c' (k + pw) hc' hk'
          rw [if_pos (by omega), show k + pw - pw = k by omega, hz, hve, nI_toInt (by omega), Int.add_zero, md_small hv]
        · rw [if_neg h2]
    · rw [if_neg h0, nI_add] at hg
      by_cases hkq : k + pw < q
      · obtain ⟨v, hv, hve⟩ := hn c (k + pw) hc hkq
        have hm : m ((i * w + c) * q + (k + pw)) = nI v := by
          rw [hI1 c (k + pw) hc hkq, if_neg (by omega), hve]
        have hvI : (nI v).toInt = (v : Int) := nI_toInt (by omega)
        have hsum : (nI v + t * nI (src c k)).toInt = (v : Int) + t.toInt * (src c k : Int) := by
          rw [i32_add] <;> rw [hvI, htI] <;> omega
        rw [bd_t (X3at_in hL hLb hR hw hq hi hc hkq), hm] at hg
        rw [bd_t (X3put_in hL hLb hR hw hq hi hc hkq hp hp2 (by rw [hsum]; omega) (by rw [hsum]; omega))] at hg
        refine ⟨_, hg, ?_, ?_⟩
        · intro c' k' hc' hk'
          by_cases he : (i * w + c') * q + k' = (i * w + c) * q + (k + pw)
          · obtain ⟨-, e2, e3⟩ := idx_inj hc' hk' hc hkq he
            subst e2; subst e3
            rw [pk_us, if_pos (by omega), if_pos (by omega), show k + pw - pw = k by omega, hve, hvI, hsum]
          · rw [pk_un he, hI1 c' k' hc' hk']
            by_cases h : c' < c ∨ c' = c ∧ k' < k + pw
            · rw [if_pos h, if_pos (show c' < c ∨ c' = c ∧ k' < k + 1 + pw by omega)]
            · rw [if_neg h, if_neg]
              intro z
              apply h
              rcases z with z | z
              · exact Or.inl z
              · refine Or.inr ⟨z.1, ?_⟩
                by_cases hkk : k' = k + pw
                · exfalso
                  apply he
                  rw [z.1, hkk]
                · omega
        · intro i' c' k' hi' hc' hk'
          have he : (i' * w + c') * q + k' ≠ (i * w + c) * q + (k + pw) := fun he => hi' (idx_inj hc' hk' hc hkq he).1
          rw [pk_un he, hI2 i' c' k' hi' hc' hk']
      · rw [bd_t (X3at_hi (by omega) (by omega) hi hc (by omega) (by omega)), bd_t (X3put_hi (by omega) (by omega) hi hc (by omega) (by omega))] at hg
        refine ⟨m, hg, ?_, hI2⟩
        intro c' k' hc' hk'
        rw [hI1 c' k' hc' hk']
        by_cases h : c' < c ∨ c' = c ∧ k' < k + pw
        · rw [if_pos h, if_pos (show c' < c ∨ c' = c ∧ k' < k + 1 + pw by omega)]
        · rw [if_neg h, if_neg (show ¬ (c' < c ∨ c' = c ∧ k' < k + 1 + pw) by omega)]
  · intro c m hc hI
    obtain ⟨hI1, hI2⟩ := hI
    refine ⟨hgie c m hc, ?_, hI2⟩
    intro c' k' hc' hk'
    rw [hI1 c' k' hc' hk']
    by_cases h : c' < c ∨ c' = c ∧ k' < q2 + pw
    · rw [if_pos h]
      by_cases h3 : c' < c + 1 ∨ c' = c + 1 ∧ k' < 0 + pw
      · rw [if_pos h3]
      · omega
    · rw [if_neg h]
      by_cases h3 : c' < c + 1 ∨ c' = c + 1 ∧ k' < 0 + pw
      · rw [if_pos h3]
        obtain ⟨v, hv, hve⟩ := hn c' k' hc' hk'
        rw [if_neg (by omega), hve, nI_toInt (by omega), Int.add_zero, md_small hv]
      · rw [if_neg h3]
  · refine ⟨?_, fun _ _ _ _ _ _ => rfl⟩
    intro c k hc hk
    by_cases h3 : c < 0 ∨ c = 0 ∧ k < 0 + pw
    · rw [if_pos h3]
      obtain ⟨v, hv, hve⟩ := hn c k hc hk
      rw [if_neg (by omega), hve, nI_toInt (by omega), Int.add_zero, md_small hv]
    · rw [if_neg h3]
/-- addTimes with another's row -/
theorem X3add {L R w q L2 R2 w2 q2 i j p pw : Nat} {num qnum : Nat → Int32} {t : Int32} (src : Nat → Nat → Nat) (hL : R * w * q = L) (hLb : L ≤ 1000) (hR : R ≤ 25) (hw : w ≤ 25) (hq : q ≤ 25) (hq2 : q2 ≤ 25) (hi : i < R) (hp : 0 < p) (hp2 : p < 1000) (hpw : pw ≤ 100) (ht : -10 ≤ t.toInt) (ht2 : t.toInt ≤ 10) (hsrc : ∀ c k, c < w → k < q2 → src c k ≤ 10 ∧ fX3_at L2 (nI R2) (nI w2) (nI q2) qnum (nI j) (nI c) (nI k) = some (nI (src c k))) (hn : ∀ c k, c < w → k < q → ∃ v : Nat, v < p ∧ num ((i * w + c) * q + k) = nI v) : ∃ num', fX3_addTimes L (nI R) (nI w) (nI q) (nI p) num L2 (nI R2) (nI w2) (nI q2) qnum (nI i) (nI j) t (nI pw) = some num' ∧ (∀ c k, c < w → k < q → num' ((i * w + c) * q + k) = nI (md ((num ((i * w + c) * q + k)).toInt + (if pw ≤ k ∧ k - pw < q2 then t.toInt * (src c (k - pw) : Int) else 0)) p)) ∧ ∀ i' c k, i' ≠ i → c < w → k < q → num' ((i' * w + c) * q + k) = num ((i' * w + c) * q + k) := by
  obtain ⟨num', h1, h2, h3⟩ := addCore (L := L) (R := R) (w := w) (q := q) (q2 := q2) (i := i) (p := p) (pw := pw) (num := num) (t := t) src
    (fun i_1 z => fX3_addTimes_s15 L (nI R) (nI w) (nI q) (nI p) L2 (nI R2) (nI w2) (nI q2) qnum (nI i) (nI j) t (nI pw) i_1 z.1 z.2) (fun z => fX3_addTimes_s3 L (nI R) (nI w) (nI q) (nI p) L2 (nI R2) (nI w2) (nI q2) qnum (nI i) (nI j) t (nI pw) z.1 z.2) hL hLb hR hw hq hq2 hi hp hp2 hpw ht ht2 (fun c k hc hk => (hsrc c k hc hk).1) hn
    (fun c k m hc hk _ => by
      dsimp only
      unfold fX3_addTimes_s15
      rw [if_neg (nI_ge hk (by omega)), bd_t (hsrc c k hc hk).2])
    (fun c m hc => by
      dsimp only
      unfold fX3_addTimes_s15
      rw [if_pos (nI_le (Nat.le_refl _) (by omega))])
    (fun c m hc => by
      dsimp only
      unfold fX3_addTimes_s3
      rw [if_neg (nI_ge hc (by omega))])
    (fun m => by
      dsimp only
      unfold fX3_addTimes_s3
      rw [if_pos (nI_le (Nat.le_refl _) (by omega))])
  refine ⟨num', ?_, h2, h3⟩
  unfold fX3_addTimes
  exact bd_t h1
/-- addTimes with a row of one's own -/
theorem X3addS {L R w q i j p pw : Nat} {num : Nat → Int32} {t : Int32} (src : Nat → Nat → Nat) (hL : R * w * q = L) (hLb : L ≤ 1000) (hR : R ≤ 25) (hw : w ≤ 25) (hq : q ≤ 25) (hi : i < R) (hj : j < R) (hij : j ≠ i) (hp : 0 < p) (hp2 : p < 1000) (hpw : pw ≤ 100) (ht : -10 ≤ t.toInt) (ht2 : t.toInt ≤ 10) (hsrc : ∀ c k, c < w → k < q → src c k ≤ 10 ∧ num ((j * w + c) * q + k) = nI (src c k)) (hn : ∀ c k, c < w → k < q → ∃ v : Nat, v < p ∧ num ((i * w + c) * q + k) = nI v) : ∃ num', fX3_addTimes_e0 L (nI R) (nI w) (nI q) (nI p) num (nI i) (nI j) t (nI pw) = some num' ∧ (∀ c k, c < w → k < q → num' ((i * w + c) * q + k) = nI (md ((num ((i * w + c) * q + k)).toInt + (if pw ≤ k ∧ k - pw < q then t.toInt * (src c (k - pw) : Int) else 0)) p)) ∧ ∀ i' c k, i' ≠ i → c < w → k < q → num' ((i' * w + c) * q + k) = num ((i' * w + c) * q + k) := by
  obtain ⟨num', h1, h2, h3⟩ := addCore (L := L) (R := R) (w := w) (q := q) (q2 := q) (i := i) (p := p) (pw := pw) (num := num) (t := t) src
    (fun i_1 z => fX3_addTimes_e0_s15 L (nI R) (nI w) (nI q) (nI p) (nI i) (nI j) t (nI pw) i_1 z.1 z.2) (fun z => fX3_addTimes_e0_s3 L (nI R) (nI w) (nI q) (nI p) (nI i) (nI j) t (nI pw) z.1 z.2) hL hLb hR hw hq hq hi hp hp2 hpw ht ht2 (fun c k hc hk => (hsrc c k hc hk).1) hn
    (fun c k m hc hk hm => by
      dsimp only
      unfold fX3_addTimes_e0_s15
      rw [if_neg (nI_ge hk (by omega)), bd_t (X3at_in hL hLb hR hw hq hj hc hk), hm j c k hij hc hk, (hsrc c k hc hk).2])
    (fun c m hc => by
      dsimp only
      unfold fX3_addTimes_e0_s15
      rw [if_pos (nI_le (Nat.le_refl _) (by omega))])
    (fun c m hc => by
      dsimp only
      unfold fX3_addTimes_e0_s3
      rw [if_neg (nI_ge hc (by omega))])
    (fun m => by
      dsimp only
      unfold fX3_addTimes_e0_s3
      rw [if_pos (nI_le (Nat.le_refl _) (by omega))])
  refine ⟨num', ?_, h2, h3⟩
  unfold fX3_addTimes_e0
  exact bd_t h1
