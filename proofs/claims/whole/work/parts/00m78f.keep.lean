/-! what the steps keep: the module -/
theorem rw8_z {C n j c k : Nat} {num : Nat → Int32} (hlow : Low8 C n num) (hj : j < n) (hc : c < C) (hk : 8 ≤ k) : rw8 num j c k = 0 := by
  unfold rw8
  by_cases h : k < 25
  · rw [if_pos h]
    unfold cl8
    rw [hlow j c k hj hc hk h]
    rfl
  · exact if_neg h
theorem rw8_same {num num' : Nat → Int32} {i i' c : Nat} (h : ∀ k, k < 25 → num' ((i * 8 + c) * 25 + k) = num ((i' * 8 + c) * 25 + k)) (k : Nat) : rw8 num' i c k = rw8 num i' c k := by
  unfold rw8
  by_cases hk : k < 25
  · rw [if_pos hk, if_pos hk]
    unfold cl8
    rw [h k hk]
  · rw [if_neg hk, if_neg hk]
theorem eqv_same {p C : Nat} {v w : Rw} (h : ∀ c, c < C → ∀ k, v c k = w c k) : eqv p C v w := fun c hc k => ⟨0, by rw [h c hc k]; omega⟩
theorem OpA_row {p C n i j pw : Nat} {t : Int} {num num' : Nat → Int32} (hp : 0 < p) (hp2 : p < 1000) (hC : C ≤ 3) (hlow : Low8 C n num) (ho : OpA p n num num' i j t pw) : eqv p C (rw8 num' i) (radd (rw8 num i) (rsh t pw (rw8 num j))) := by
  obtain ⟨h1, h2, h3, h4, h5, h6⟩ := ho
  intro c hc k
  show (p : Int) ∣ rw8 num' i c k - (rw8 num i c k + if pw ≤ k then t * rw8 num j c (k - pw) else 0)
  by_cases hk : k < 25
  · have e1 : rw8 num' i c k = (md (cl8 num i c k + (if pw ≤ k then t * cl8 num j c (k - pw) else 0)) p : Int) := by
      rw [show rw8 num' i c k = cl8 num' i c k from if_pos hk]
      unfold cl8
      rw [h5 c k (by omega) hk]
      exact nI_md_toInt hp hp2
    have e : rw8 num i c k = cl8 num i c k := if_pos hk
    have e2 : (if pw ≤ k then t * rw8 num j c (k - pw) else 0) = (if pw ≤ k then t * cl8 num j c (k - pw) else 0) := by
      by_cases hpk : pw ≤ k
      · rw [if_pos hpk, if_pos hpk, show rw8 num j c (k - pw) = cl8 num j c (k - pw) from if_pos (by omega)]
      · rw [if_neg hpk, if_neg hpk]
    rw [e1, e, e2]
    exact md_dvd hp
  · have e : rw8 num i c k = 0 := if_neg hk
    have e1 : rw8 num' i c k = 0 := if_neg hk
    have e2 : (if pw ≤ k then t * rw8 num j c (k - pw) else 0) = 0 := by
      by_cases hpk : pw ≤ k
      · rw [if_pos hpk, rw8_z hlow h2 hc (by omega), Int.mul_zero]
      · exact if_neg hpk
    rw [e1, e, e2]
    exact ⟨0, by omega⟩
theorem OpS_row {p C n i : Nat} {u : Int} {num num' : Nat → Int32} (hp : 0 < p) (hp2 : p < 1000) (hC : C ≤ 3) (ho : OpS p n num num' i u) : eqv p C (rw8 num' i) (rsh u 0 (rw8 num i)) := by
  obtain ⟨h1, h2, h5, h6⟩ := ho
  intro c hc k
  show (p : Int) ∣ rw8 num' i c k - (if 0 ≤ k then u * rw8 num i c (k - 0) else 0)
  rw [if_pos (Nat.zero_le k), Nat.sub_zero]
  by_cases hk : k < 25
  · have e1 : rw8 num' i c k = (md (u * cl8 num i c k) p : Int) := by
      rw [show rw8 num' i c k = cl8 num' i c k from if_pos hk]
      unfold cl8
      rw [h5 c k (by omega) hk]
      exact nI_md_toInt hp hp2
    have e : rw8 num i c k = cl8 num i c k := if_pos hk
    rw [e1, e]
    exact md_dvd hp
  · have e : rw8 num i c k = 0 := if_neg hk
    have e1 : rw8 num' i c k = 0 := if_neg hk
    rw [e1, e]
    exact ⟨0, by omega⟩
theorem sw2_sw2 {i j a : Nat} : sw2 i j (sw2 i j a) = a := by
  apply sw2_inj (i := i) (j := j)
  unfold sw2
  by_cases h1 : a = i
  · subst h1
    by_cases h2 : j = a
    · subst h2; simp
    · simp [h2]
  · by_cases h2 : a = j
    · subst h2
      simp [h1]
    · simp [h1, h2]
theorem JC_mod {p C K : Nat} {R : Nat → Rw} (hp : 0 < p) (hp2 : p < 1000) (hC : C ≤ 3) : JC p C (fun n num => SameM p C K R n (rw8 num)) := by
  refine ⟨?_, ?_, ?_, ?_⟩
  · intro n num num' i j t pw hn hrep hlow hJ ho hlow'
    refine SameM_t hJ (SameM_step ho.1 ho.2.1 ho.2.2.1 (OpA_row hp hp2 hC hlow ho) ?_)
    intro i' hi' hne
    exact eqv_same (fun c hc k => rw8_same (fun k hk => ho.2.2.2.2.2 i' c k hne (by omega) hk) k)
  · intro n num num' i u hn hrep hlow hJ ho
    obtain ⟨u', hu⟩ := ho.2.1
    refine SameM_t hJ (SameM_unit ho.1 hu (OpS_row hp hp2 hC ho) ?_)
    intro i' hi' hne
    exact eqv_same (fun c hc k => rw8_same (fun k hk => ho.2.2.2 i' c k hne (by omega) hk) k)
  · intro n num num' i j hn hrep hJ ho
    have hrow : ∀ a, a < n → ∀ c, c < C → ∀ k, rw8 num' a c k = rw8 num (sw2 i j a) c k := fun a ha c hc k => rw8_same (fun k hk => ho.2.2 a c k ha (by omega) hk) k
    refine SameM_t hJ (SameM_sel ?_ ?_)
    · intro a ha
      refine Or.inr ⟨sw2 i j a, sw2_lt ho.1 ho.2.1 ha, eqv_same (fun c hc k => ?_)⟩
      rw [hrow _ (sw2_lt ho.1 ho.2.1 ha) c hc k, sw2_sw2]
    · intro a ha
      exact Or.inr ⟨sw2 i j a, sw2_lt ho.1 ho.2.1 ha, eqv_same (fun c hc k => (hrow a ha c hc k).symm)⟩
  · intro n num num' i hn hrep hJ ho
    have hrow : ∀ a, a < n - 1 → ∀ c, c < C → ∀ k, rw8 num' a c k = rw8 num (if a < i then a else a + 1) c k := fun a ha c hc k => rw8_same (fun k hk => ho.2.2 a c k ha (by omega) hk) k
    refine SameM_t hJ (SameM_sel ?_ ?_)
    · intro a ha
      by_cases e : a = i
      · subst e
        refine Or.inl (eqv_same (fun c hc k => ?_))
        show rw8 num a c k = 0
        unfold rw8
        by_cases hk : k < 25
        · rw [if_pos hk]
          unfold cl8
          rw [ho.2.1 c k hc hk]
          rfl
        · exact if_neg hk
      · by_cases h : a < i
        · refine Or.inr ⟨a, by have := ho.1; omega, eqv_same (fun c hc k => ?_)⟩
          rw [hrow a (by have := ho.1; omega) c hc k, if_pos h]
        · refine Or.inr ⟨a - 1, by omega, eqv_same (fun c hc k => ?_)⟩
          rw [hrow (a - 1) (by omega) c hc k, if_neg (by omega), show a - 1 + 1 = a by omega]
    · intro a ha
      by_cases h : a < i
      · refine Or.inr ⟨a, by omega, eqv_same (fun c hc k => ?_)⟩
        rw [hrow a ha c hc k, if_pos h]
      · refine Or.inr ⟨a + 1, by omega, eqv_same (fun c hc k => ?_)⟩
        rw [hrow a ha c hc k, if_neg h]
theorem JC_and {p C : Nat} {J1 J2 : Nat → (Nat → Int32) → Prop} (h1 : JC p C J1) (h2 : JC p C J2) : JC p C (fun n num => J1 n num ∧ J2 n num) :=
  ⟨fun n num num' i j t pw hn hr hl hJ ho hl' => ⟨h1.1 n num num' i j t pw hn hr hl hJ.1 ho hl', h2.1 n num num' i j t pw hn hr hl hJ.2 ho hl'⟩, fun n num num' i u hn hr hl hJ ho => ⟨h1.2.1 n num num' i u hn hr hl hJ.1 ho, h2.2.1 n num num' i u hn hr hl hJ.2 ho⟩, fun n num num' i j hn hr hJ ho => ⟨h1.2.2.1 n num num' i j hn hr hJ.1 ho, h2.2.2.1 n num num' i j hn hr hJ.2 ho⟩, fun n num num' i hn hr hJ ho => ⟨h1.2.2.2 n num num' i hn hr hJ.1 ho, h2.2.2.2 n num num' i hn hr hJ.2 ho⟩⟩
