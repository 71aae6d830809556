/-! Rows: what its operations do, by coordinates -/
theorem idx_lt {R w q i c k : Nat} (hi : i < R) (hc : c < w) (hk : k < q) : (i * w + c) * q + k < R * w * q := by
  have h1 : i * w + c + 1 ≤ R * w := by
    have := Nat.mul_le_mul_right w (show i + 1 ≤ R from hi)
    rw [Nat.succ_mul] at this
    omega
  have h2 := Nat.mul_le_mul_right q h1
  rw [Nat.succ_mul] at h2
  omega
theorem idx_inj {w q i c k i' c' k' : Nat} (hc : c < w) (hk : k < q) (hc' : c' < w) (hk' : k' < q) (h : (i * w + c) * q + k = (i' * w + c') * q + k') : i = i' ∧ c = c' ∧ k = k' := by
  have hq : 0 < q := by omega
  have hw : 0 < w := by omega
  have e1 : ((i * w + c) * q + k) / q = i * w + c := by
    rw [Nat.add_comm, Nat.add_mul_div_right _ _ hq, Nat.div_eq_of_lt hk, Nat.zero_add]
  have e2 : ((i' * w + c') * q + k') / q = i' * w + c' := by
    rw [Nat.add_comm, Nat.add_mul_div_right _ _ hq, Nat.div_eq_of_lt hk', Nat.zero_add]
  have e3 : i * w + c = i' * w + c' := by rw [← e1, ← e2, h]
  have f1 : (i * w + c) / w = i := by
    rw [Nat.add_comm, Nat.add_mul_div_right _ _ hw, Nat.div_eq_of_lt hc, Nat.zero_add]
  have f2 : (i' * w + c') / w = i' := by
    rw [Nat.add_comm, Nat.add_mul_div_right _ _ hw, Nat.div_eq_of_lt hc', Nat.zero_add]
  have e4 : i = i' := by rw [← f1, ← f2, e3]
  subst e4
  have e5 : c = c' := by omega
  subst e5
  exact ⟨rfl, rfl, by omega⟩
theorem X3at_in {L R w q i c k : Nat} {num : Nat → Int32} (hL : R * w * q = L) (hLb : L ≤ 1000) (hR : R ≤ 25) (hw : w ≤ 25) (hq : q ≤ 25) (hi : i < R) (hc : c < w) (hk : k < q) : fX3_at L (nI R) (nI w) (nI q) num (nI i) (nI c) (nI k) = some (num ((i * w + c) * q + k)) := by
  have hx := idx_lt hi hc hk
  unfold fX3_at
  rw [if_neg (nI_pos (by omega)), if_neg (nI_ge hi (by omega)), if_neg (nI_pos (by omega)), if_neg (nI_ge hc (by omega)), if_neg (nI_pos (by omega)), if_neg (nI_ge hk (by omega)), bd_t rfl, if_neg (by decide)]
  rw [pk_mul, nI_add, pk_mul, nI_add, gd_t (vp_in_nI (by omega) (by omega)), nI_clamp (by omega)]
theorem X3at_hi {L R w q i c k : Nat} {num : Nat → Int32} (hR : R ≤ 1000) (hw : w ≤ 1000) (hi : i < R) (hc : c < w) (hk : q ≤ k) (hk2 : k < 1000) : fX3_at L (nI R) (nI w) (nI q) num (nI i) (nI c) (nI k) = some 0 := by
  unfold fX3_at
  rw [if_neg (nI_pos (by omega)), if_neg (nI_ge hi (by omega)), if_neg (nI_pos (by omega)), if_neg (nI_ge hc (by omega)), if_neg (nI_pos (by omega)), if_pos (nI_le hk (by omega)), bd_t rfl, if_pos rfl]
theorem X3at_wide {L R w q i c k : Nat} {num : Nat → Int32} (hR : R ≤ 1000) (hi : i < R) (hc : w ≤ c) (hc2 : c < 1000) : fX3_at L (nI R) (nI w) (nI q) num (nI i) (nI c) (nI k) = some 0 := by
  unfold fX3_at
  rw [if_neg (nI_pos (by omega)), if_neg (nI_ge hi (by omega)), if_neg (nI_pos (by omega)), if_pos (nI_le hc (by omega)), bd_t rfl, if_pos rfl]
theorem X3at_neg {L R w q i : Nat} {x : Int32} {num : Nat → Int32} (hR : R ≤ 1000) (hi : i < R) : fX3_at L (nI R) (nI w) (nI q) num (nI i) (-1) x = some 0 := by
  unfold fX3_at
  rw [if_neg (nI_pos (by omega)), if_neg (nI_ge hi (by omega)), if_pos (by decide), bd_t rfl, if_pos rfl]
theorem X3put_in {L R w q i c k p : Nat} {num : Nat → Int32} {v : Int32} (hL : R * w * q = L) (hLb : L ≤ 1000) (hR : R ≤ 25) (hw : w ≤ 25) (hq : q ≤ 25) (hi : i < R) (hc : c < w) (hk : k < q) (hp : 0 < p) (hp2 : p < 1000) (hv : -1000000 ≤ v.toInt) (hv2 : v.toInt ≤ 1000000) : fX3_put L (nI R) (nI w) (nI q) (nI p) num (nI i) (nI c) (nI k) v = some (upd num ((i * w + c) * q + k) (nI (md v.toInt p))) := by
  have hx := idx_lt hi hc hk
  unfold fX3_put
  rw [if_neg (nI_pos (by omega)), if_neg (nI_ge hi (by omega)), if_neg (nI_pos (by omega)), if_neg (nI_ge hc (by omega)), if_neg (nI_pos (by omega)), if_neg (nI_ge hk (by omega)), bd_t rfl, if_neg (by decide)]
  rw [fm_at hp hp2 hv hv2, bd_t rfl]
  rw [pk_mul, nI_add, pk_mul, nI_add, gd_t (vp_in_nI (by omega) (by omega)), nI_clamp (by omega)]
theorem X3put_hi {L R w q i c k : Nat} {pp : Int32} {num : Nat → Int32} {v : Int32} (hR : R ≤ 1000) (hw : w ≤ 1000) (hi : i < R) (hc : c < w) (hk : q ≤ k) (hk2 : k < 1000) : fX3_put L (nI R) (nI w) (nI q) pp num (nI i) (nI c) (nI k) v = some num := by
  unfold fX3_put
  rw [if_neg (nI_pos (by omega)), if_neg (nI_ge hi (by omega)), if_neg (nI_pos (by omega)), if_neg (nI_ge hc (by omega)), if_neg (nI_pos (by omega)), if_pos (nI_le hk (by omega)), bd_t rfl, if_pos rfl]
/-- two loops, one inside the other, over columns and powers -/
theorem loop2 {w q : Nat} (gi : Int32 → (Int32 × (Nat → Int32)) → Option ((Int32 × (Nat → Int32)) ⊕ (Nat → Int32))) (go : Int32 × (Nat → Int32) → Option ((Int32 × (Nat → Int32)) ⊕ (Nat → Int32))) (I : Nat → Nat → (Nat → Int32) → Prop)
    (hin : ∀ c k num, c < w → k < q → I c k num → ∃ num', gi (nI c) (nI k, num) = some (.inl (nI k + 1, num')) ∧ I c (k + 1) num')
    (hine : ∀ c num, c < w → I c q num → gi (nI c) (nI q, num) = some (.inr num) ∧ I (c + 1) 0 num)
    (ho : ∀ c num, c < w → go (nI c, num) = bd (Lp (gi (nI c)) (0, num)) (fun x => some (.inl (nI c + 1, x))))
    (hoe : ∀ num, go (nI w, num) = some (.inr num)) (num : Nat → Int32) (h0 : I 0 0 num) : ∃ num', Lp go (0, num) = some num' ∧ I w 0 num' := by
  refine Lp_up (fun i s => (i, s)) w (fun c num => I c 0 num) (fun r => I w 0 r) ?_ ?_ 0 num (Nat.zero_le _) h0
  · intro c num hc hI
    refine Or.inl ?_
    obtain ⟨num', h1, h2⟩ := Lp_up (fun i s => (i, s)) (g := gi (nI c)) q (fun k num => I c k num) (fun r => I (c + 1) 0 r) (fun k num hk hI => by
      obtain ⟨num', h1, h2⟩ := hin c k num hc hk hI
      exact Or.inl ⟨num', h1, h2⟩) (fun num hI => by
      obtain ⟨h1, h2⟩ := hine c num hc hI
      exact ⟨num, h1, h2⟩) 0 num (Nat.zero_le _) hI
    refine ⟨num', ?_, h2⟩
    show go (nI c, num) = _
    rw [ho c num hc]
    exact bd_t h1
  · intro num hI
    exact ⟨num, hoe num, hI⟩
/-- scale: one row's numbers times t -/
theorem X3scale {L R w q i p t : Nat} {num : Nat → Int32} (hL : R * w * q = L) (hLb : L ≤ 1000) (hR : R ≤ 25) (hw : w ≤ 25) (hq : q ≤ 25) (hi : i < R) (hp : 0 < p) (hp2 : p < 1000) (ht : t ≤ 10) (hn : ∀ c k, c < w → k < q → ∃ v : Nat, v ≤ 10 ∧ num ((i * w + c) * q + k) = nI v) : ∃ num', fX3_scale L (nI R) (nI w) (nI q) (nI p) num (nI i) (nI t) = some num' ∧ ∀ i' c k, c < w → k < q → num' ((i' * w + c) * q + k) = if i' = i then nI (md ((t : Int) * (num ((i * w + c) * q + k)).toInt) p) else num ((i' * w + c) * q + k) := by
  have key := loop2 (w := w) (q := q) (fun i_1 z => fX3_scale_s13 L (nI R) (nI w) (nI q) (nI p) (nI i) (nI t) i_1 z.1 z.2) (fun z => fX3_scale_s2 L (nI R) (nI w) (nI q) (nI p) (nI i) (nI t) z.1 z.2)
    (fun c0 k0 m => ∀ i' c k, c < w → k < q → m ((i' * w + c) * q + k) = if i' = i ∧ (c < c0 ∨ c = c0 ∧ k < k0) then nI (md ((t : Int) * (num ((i * w + c) * q + k)).toInt) p) else num ((i' * w + c) * q + k)) ?_ ?_ ?_ ?_ num ?_
  · obtain ⟨num', h1, h2⟩ := key
    refine ⟨num', ?_, ?_⟩
    · unfold fX3_scale
      exact bd_t h1
    · intro i' c k hc hk
      rw [h2 i' c k hc hk]
      by_cases h : i' = i
      · rw [if_pos ⟨h, Or.inl hc⟩, if_pos h]
      · rw [if_neg (fun z => h z.1), if_neg h]
  · intro c k m hc hk hI
    obtain ⟨v, hv, hve⟩ := hn c k hc hk
    have hm : m ((i * w + c) * q + k) = nI v := by
      rw [hI i c k hc hk, if_neg (by omega), hve]
    have hb : t * v ≤ 100 := Nat.mul_le_mul ht hv
    refine ⟨upd m ((i * w + c) * q + k) (nI (md ((nI t * nI v).toInt) p)), ?_, ?_⟩
    · dsimp only
      unfold fX3_scale_s13
      rw [if_neg (nI_ge hk (by omega)), bd_t (X3at_in hL hLb hR hw hq hi hc hk), hm]
      rw [bd_t (X3put_in hL hLb hR hw hq hi hc hk hp hp2 (by rw [pk_mul, nI_toInt (by omega)]; omega) (by rw [pk_mul, nI_toInt (by omega)]; omega))]
    · intro i' c' k' hc' hk'
      by_cases he : (i' * w + c') * q + k' = (i * w + c) * q + k
      · obtain ⟨e1, e2, e3⟩ := idx_inj hc' hk' hc hk he
        subst e1; subst e2; subst e3
        rw [pk_us, if_pos (by omega), hve, pk_mul, nI_toInt (by omega), nI_toInt (by omega)]
        rfl
      · rw [pk_un he, hI i' c' k' hc' hk']
        by_cases h : i' = i ∧ (c' < c ∨ c' = c ∧ k' < k)
        · rw [if_pos h, if_pos (by omega)]
        · rw [if_neg h, if_neg]
          intro z
          apply h
          refine ⟨z.1, ?_⟩
          rcases z.2 with z2 | z2
          · exact Or.inl z2
          · refine Or.inr ⟨z2.1, ?_⟩
            by_cases hkk : k' = k
            · exfalso
              apply he
              rw [z.1, z2.1, hkk]
            · omega
  · intro c m hc hI
    refine ⟨?_, ?_⟩
    · dsimp only
      unfold fX3_scale_s13
      rw [if_pos (nI_le (Nat.le_refl _) (by omega))]
    · intro i' c' k' hc' hk'
      rw [hI i' c' k' hc' hk']
      by_cases h : i' = i ∧ (c' < c ∨ c' = c ∧ k' < q)
      · rw [if_pos h, if_pos (by omega)]
      · rw [if_neg h, if_neg (by omega)]
  · intro c m hc
    dsimp only
    unfold fX3_scale_s2
    rw [if_neg (nI_ge hc (by omega))]
  · intro m
    dsimp only
    unfold fX3_scale_s2
    rw [if_pos (nI_le (Nat.le_refl _) (by omega))]
  · intro i' c k hc hk
    rw [if_neg (by omega)]
