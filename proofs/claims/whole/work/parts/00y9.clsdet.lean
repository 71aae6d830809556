/-! how many are chosen; the class's determinant -/
noncomputable def cnt (a : Int32) : Nat → Nat
  | 0 => 0
  | n + 1 => if fX7_isInSet (nI n) a = 0 then cnt a n else cnt a n + 1
theorem chosen_ex (a : Int32) : ∀ n, ∃ sel, Chosen n a (cnt a n) sel := by
  intro n
  induction n with
  | zero => exact ⟨fun m => m, fun m hm => absurd hm (Nat.not_lt_zero _), fun i hi => absurd hi (Nat.not_lt_zero _), fun m m' hm hm' => absurd hm' (Nat.not_lt_zero _)⟩
  | succ n ih =>
    obtain ⟨sel, hc⟩ := ih
    unfold cnt
    by_cases hb : fX7_isInSet (nI n) a = 0
    · rw [if_pos hb]
      refine ⟨sel, fun m hm => ⟨by have := (hc.1 m hm).1; omega, (hc.1 m hm).2⟩, fun i hi hin => ?_, hc.2.2⟩
      by_cases e : i = n
      · subst e; exact absurd hb hin
      · exact hc.2.1 i (by omega) hin
    · rw [if_neg hb]
      refine ⟨fun m => if m = cnt a n then n else sel m, ?_, ?_, ?_⟩
      · intro m hm
        dsimp only
        by_cases e : m = cnt a n
        · rw [if_pos e]; exact ⟨by omega, hb⟩
        · rw [if_neg e]
          have := hc.1 m (by omega)
          exact ⟨by omega, this.2⟩
      · intro i hi hin2
        by_cases e : i = n
        · exact ⟨cnt a n, by omega, by dsimp only; rw [if_pos rfl, e]⟩
        · obtain ⟨m, hm, hm2⟩ := hc.2.1 i (by omega) hin2
          exact ⟨m, by omega, by dsimp only; rw [if_neg (by omega)]; exact hm2⟩
      · intro m m' hm hm'
        dsimp only
        rw [if_neg (by omega)]
        by_cases e : m' = cnt a n
        · rw [if_pos e]
          exact (hc.1 m (by omega)).1
        · rw [if_neg e]
          exact hc.2.2 m m' hm (by omega)
theorem Chosen_uniq {n K K' : Nat} {a : Int32} {sel sel' : Nat → Nat} (h : Chosen n a K sel) (h' : Chosen n a K' sel') : K = K' ∧ ∀ m, m < K → sel m = sel' m := asc_eq h.2.2 h'.2.2 (fun i hi => h'.2.1 (sel i) (h.1 i hi).1 (h.1 i hi).2) (fun j hj => h.2.1 (sel' j) (h'.1 j hj).1 (h'.1 j hj).2)
theorem Chosen_cnt {n K : Nat} {a : Int32} {sel : Nat → Nat} (h : Chosen n a K sel) : K = cnt a n := by
  obtain ⟨sel', h'⟩ := chosen_ex a n
  exact (Chosen_uniq h h').1
theorem cnt_le (a : Int32) (n : Nat) : cnt a n ≤ n := by
  obtain ⟨sel', h'⟩ := chosen_ex a n
  exact Chosen_le h'
theorem set_of {n : Nat} {a : Int32} (hn : n ≤ 5) (h : ¬ fX3_hasSet (nI n) a = 0) : ∃ s : Nat, s < 2 ^ n ∧ a = nI s := by
  have hz : (a >>> (nI n &&& 31)) = 0 := by
    apply Classical.byContradiction
    intro hz
    unfold fX3_hasSet at h
    rw [if_neg hz] at h
    exact h rfl
  have hk : ((nI n &&& 31).toBitVec.smod 32).toNat = n := by
    rcases (show n = 0 ∨ n = 1 ∨ n = 2 ∨ n = 3 ∨ n = 4 ∨ n = 5 by omega) with e | e | e | e | e | e <;> subst e <;> decide
  obtain ⟨h1, h2⟩ := (shr_zero (a := a) hk).mp hz
  have h32 : (2 : Nat) ^ n ≤ 32 := by
    rcases (show n = 0 ∨ n = 1 ∨ n = 2 ∨ n = 3 ∨ n = 4 ∨ n = 5 by omega) with e | e | e | e | e | e <;> subst e <;> decide
  have h2b : a.toInt < ((2 ^ n : Nat) : Int) := by rw [Int.natCast_pow]; exact h2
  exact ⟨a.toInt.toNat, by omega, i32_nI (by omega) (by omega)⟩
theorem bc0 : ∀ s : Fin 1, fJ6_bitCount_0f7a4 (nI s.val) = nI (cnt (nI s.val) 0) := by decide +kernel
theorem bc1 : ∀ s : Fin 2, fJ6_bitCount_0f7a4 (nI s.val) = nI (cnt (nI s.val) 1) := by decide +kernel
theorem bc2 : ∀ s : Fin 4, fJ6_bitCount_0f7a4 (nI s.val) = nI (cnt (nI s.val) 2) := by decide +kernel
theorem bc3 : ∀ s : Fin 8, fJ6_bitCount_0f7a4 (nI s.val) = nI (cnt (nI s.val) 3) := by decide +kernel
theorem bc4 : ∀ s : Fin 16, fJ6_bitCount_0f7a4 (nI s.val) = nI (cnt (nI s.val) 4) := by decide +kernel
theorem bc5 : ∀ s : Fin 32, fJ6_bitCount_0f7a4 (nI s.val) = nI (cnt (nI s.val) 5) := by decide +kernel
theorem bitc {n : Nat} {a : Int32} (hn : n ≤ 5) (h : ¬ fX3_hasSet (nI n) a = 0) : fJ6_bitCount_0f7a4 a = nI (cnt a n) := by
  obtain ⟨s, hs, ea⟩ := set_of hn h
  subst ea
  rcases (show n = 0 ∨ n = 1 ∨ n = 2 ∨ n = 3 ∨ n = 4 ∨ n = 5 by omega) with e | e | e | e | e | e <;> subst e
  · exact bc0 ⟨s, hs⟩
  · exact bc1 ⟨s, hs⟩
  · exact bc2 ⟨s, hs⟩
  · exact bc3 ⟨s, hs⟩
  · exact bc4 ⟨s, hs⟩
  · exact bc5 ⟨s, hs⟩
/-- the reference chooses -/
theorem X8chooses {n : Nat} {A ch : Nat → Int32} {a : Int32} (b2 : A 2 = nI n) (hn : n ≤ 5) : ∃ ch', fX8_chooses A ch a = some (nI (cnt a n), ch') ∧ ∀ sel, Chosen n a (cnt a n) sel → ∀ l, l < cnt a n → l < 3 → ch' l = nI (sel l) := by
  obtain ⟨r, h1, ch', h2, h3⟩ := Lp_up (fun j (s : Int32 × (Nat → Int32)) => (s.1, j, s.2)) (g := fun (z : Int32 × Int32 × (Nat → Int32)) => fX8_chooses_s4 A a z.1 z.2.1 z.2.2) n (fun j s => s.1 = nI (cnt a j) ∧ ∀ sel, Chosen j a (cnt a j) sel → ∀ l, l < cnt a j → l < 3 → s.2 l = nI (sel l)) (fun r => ∃ ch', r = (nI (cnt a n), ch') ∧ ∀ sel, Chosen n a (cnt a n) sel → ∀ l, l < cnt a n → l < 3 → ch' l = nI (sel l))
    (fun j s hj hI => by
      obtain ⟨s1, s2⟩ := s
      obtain ⟨e, hs⟩ := hI
      dsimp only at e hs ⊢
      subst e
      have hle := cnt_le a j
      have hiff := inSet_iff (a := a) (show j < 5 by omega)
      unfold fX8_chooses_s4
      rw [bd_t (X8rows b2), if_neg (nI_ge hj (by omega))]
      by_cases hb : fX7_isInSet (nI j) a = 0
      · have hc : cnt a (j + 1) = cnt a j := if_pos hb
        rw [if_neg (fun z => hiff.mpr z hb)]
        refine Or.inl ⟨(nI (cnt a j), s2), rfl, by rw [hc], fun sel hsel l hl hl3 => ?_⟩
        rw [hc] at hsel hl
        refine hs sel ⟨fun m hm => ⟨?_, (hsel.1 m hm).2⟩, fun i hi hin => hsel.2.1 i (by omega) hin, hsel.2.2⟩ l hl hl3
        have h5 := hsel.1 m hm
        by_cases e : sel m = j
        · exact absurd hb (by rw [← e]; exact h5.2)
        · omega
      · have hc : cnt a (j + 1) = cnt a j + 1 := if_neg hb
        rw [if_pos (hiff.mp hb)]
        have hnew : ∀ sel, Chosen (j + 1) a (cnt a j + 1) sel → sel (cnt a j) = j ∧ Chosen j a (cnt a j) sel := by
          intro sel hsel
          obtain ⟨m, hm, em⟩ := hsel.2.1 j (by omega) hb
          have hlast : m = cnt a j := by
            apply Classical.byContradiction
            intro hne
            have h5 := hsel.2.2 m (cnt a j) (by omega) (by omega)
            have h6 := (hsel.1 (cnt a j) (by omega)).1
            omega
          rw [hlast] at em
          refine ⟨em, fun m hm => ⟨?_, (hsel.1 m (by omega)).2⟩, fun i hi hin => ?_, fun m m' h5 h6 => hsel.2.2 m m' h5 (by omega)⟩
          · have := hsel.2.2 m (cnt a j) hm (by omega)
            omega
          · obtain ⟨m, hm, em2⟩ := hsel.2.1 i (by omega) hin
            refine ⟨m, ?_, em2⟩
            apply Classical.byContradiction
            intro hge
            rw [show m = cnt a j by omega, em] at em2
            omega
        by_cases h3 : 3 ≤ cnt a j
        · rw [if_pos (show (3 : Int32) ≤ nI (cnt a j) from (nI_le h3 (by omega) : nI 3 ≤ nI (cnt a j))), nI_1]
          refine Or.inl ⟨(nI (cnt a j + 1), s2), rfl, by rw [hc], fun sel hsel l hl hl3 => ?_⟩
          rw [hc] at hsel hl
          exact hs sel (hnew sel hsel).2 l (by omega) hl3
        · rw [if_neg (show ¬ (3 : Int32) ≤ nI (cnt a j) from (nI_ge (by omega) (by omega) : ¬ nI 3 ≤ nI (cnt a j))), gd_t (vp_in_nI (by omega) (by omega)), nI_clamp (by omega), nI_1]
          refine Or.inl ⟨(nI (cnt a j + 1), upd s2 (cnt a j) (nI j)), rfl, by rw [hc], fun sel hsel l hl hl3 => ?_⟩
          rw [hc] at hsel hl
          obtain ⟨n1, n2⟩ := hnew sel hsel
          by_cases e : l = cnt a j
          · rw [e, n1]; exact pk_us
          · exact (pk_un e).trans (hs sel n2 l (by omega) hl3))
    (fun s hI => by
      obtain ⟨s1, s2⟩ := s
      obtain ⟨e, hs⟩ := hI
      dsimp only at e hs ⊢
      subst e
      refine ⟨(nI (cnt a n), s2), ?_, s2, rfl, hs⟩
      unfold fX8_chooses_s4
      rw [bd_t (X8rows b2), if_pos (nI_le (Nat.le_refl _) (by omega))]) 0 (0, ch) (Nat.zero_le _) ⟨rfl, fun sel _ l hl => absurd hl (Nat.not_lt_zero _)⟩
  refine ⟨ch', ?_, h3⟩
  subst h2
  unfold fX8_chooses
  exact bd2_t h1
/-- the class chooses, where there are no more than three -/
theorem X0choose {n : Nat} {ch : Nat → Int32} {a : Int32} (hn : n ≤ 5) (h3 : cnt a n ≤ 3) : ∃ ch', fX0_choose ch (nI n) a = some (nI (cnt a n), ch') ∧ ∀ sel, Chosen n a (cnt a n) sel → ∀ l, l < cnt a n → ch' l = nI (sel l) := by
  have hmono : ∀ j d, cnt a j ≤ cnt a (j + d) := by
    intro j d
    induction d with
    | zero => exact Nat.le_refl _
    | succ d ih =>
      have : cnt a (j + d) ≤ cnt a (j + d + 1) := by
        show _ ≤ (if fX7_isInSet (nI (j + d)) a = 0 then cnt a (j + d) else cnt a (j + d) + 1)
        split <;> omega
      show cnt a j ≤ cnt a (j + d + 1)
      omega
  obtain ⟨r, h1, ch', h2, h3'⟩ := Lp_up (fun j (s : (Nat → Int32) × Int32) => (j, s.1, s.2)) (g := fun (z : Int32 × (Nat → Int32) × Int32) => fX0_choose_s7 (nI n) a z.1 z.2.1 z.2.2) n (fun j s => s.2 = nI (cnt a j) ∧ ∀ sel, Chosen j a (cnt a j) sel → ∀ l, l < cnt a j → s.1 l = nI (sel l)) (fun r => ∃ ch', r = (ch', nI (cnt a n)) ∧ ∀ sel, Chosen n a (cnt a n) sel → ∀ l, l < cnt a n → ch' l = nI (sel l))
    (fun j s hj hI => by
      obtain ⟨s1, s2⟩ := s
      obtain ⟨e, hs⟩ := hI
      dsimp only at e hs ⊢
      subst e
      have hle := cnt_le a j
      have hm := hmono (j + 1) (n - (j + 1))
      rw [show j + 1 + (n - (j + 1)) = n by omega] at hm
      unfold fX0_choose_s7
      rw [if_neg (nI_ge hj (by omega))]
      by_cases hb : fX7_isInSet (nI j) a = 0
      · have hc : cnt a (j + 1) = cnt a j := if_pos hb
        rw [if_pos hb]
        refine Or.inl ⟨(s1, nI (cnt a j)), rfl, by rw [hc], fun sel hsel l hl => ?_⟩
        rw [hc] at hsel hl
        refine hs sel ⟨fun m hm => ⟨?_, (hsel.1 m hm).2⟩, fun i hi hin => hsel.2.1 i (by omega) hin, hsel.2.2⟩ l hl
        have h5 := hsel.1 m hm
        by_cases e : sel m = j
        · exact absurd hb (by rw [← e]; exact h5.2)
        · omega
      · have hc : cnt a (j + 1) = cnt a j + 1 := if_neg hb
        rw [if_neg hb, if_neg (show ¬ (3 : Int32) ≤ nI (cnt a j) from (nI_ge (by omega) (by omega) : ¬ nI 3 ≤ nI (cnt a j))), gd_t (vp_in_nI (by omega) (by omega)), nI_clamp (by omega), nI_1 (cnt a j)]
        refine Or.inl ⟨(upd s1 (cnt a j) (nI j), nI (cnt a j + 1)), rfl, by rw [hc], fun sel hsel l hl => ?_⟩
        rw [hc] at hsel hl
        have hlast : sel (cnt a j) = j := by
          obtain ⟨m, hm, em⟩ := hsel.2.1 j (by omega) hb
          have hlast : m = cnt a j := by
            apply Classical.byContradiction
            intro hne
            have h5 := hsel.2.2 m (cnt a j) (by omega) (by omega)
            have h6 := (hsel.1 (cnt a j) (by omega)).1
            omega
          rw [← hlast]
          exact em
        by_cases e : l = cnt a j
        · rw [e, hlast]; exact pk_us
        · refine (pk_un e).trans (hs sel ⟨fun m hm => ⟨?_, (hsel.1 m (by omega)).2⟩, fun i hi hin => ?_, fun m m' h5 h6 => hsel.2.2 m m' h5 (by omega)⟩ l (by omega))
          · have := hsel.2.2 m (cnt a j) hm (by omega)
            omega
          · obtain ⟨m, hm, em2⟩ := hsel.2.1 i (by omega) hin
            refine ⟨m, ?_, em2⟩
            apply Classical.byContradiction
            intro hge
            rw [show m = cnt a j by omega, hlast] at em2
            omega)
    (fun s hI => by
      obtain ⟨s1, s2⟩ := s
      obtain ⟨e, hs⟩ := hI
      dsimp only at e hs ⊢
      subst e
      refine ⟨(s1, nI (cnt a n)), ?_, s1, rfl, hs⟩
      unfold fX0_choose_s7
      rw [if_pos (nI_le (Nat.le_refl _) (by omega))]) 0 (ch, 0) (Nat.zero_le _) ⟨rfl, fun sel _ l hl => absurd hl (Nat.not_lt_zero _)⟩
  refine ⟨ch', ?_, h3'⟩
  subst h2
  unfold fX0_choose
  exact bd2_t h1
