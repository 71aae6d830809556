/-! the list of the chosen rows, each with its own 1 beside it -/
def Chosen (n : Nat) (a : Int32) (K : Nat) (sel : Nat → Nat) : Prop := (∀ m, m < K → sel m < n ∧ fX7_isInSet (nI (sel m)) a ≠ 0) ∧ (∀ i, i < n → fX7_isInSet (nI i) a ≠ 0 → ∃ m, m < K ∧ sel m = i) ∧ ∀ m m', m < m' → m' < K → sel m < sel m'
def blk (V : Nat → Nat → Nat → Nat) (s c k : Nat) : Nat := if c < 3 then (if k < 7 then V s c k else 0) else if c = 3 + s ∧ k = 0 then 1 else 0
theorem Chosen_le {n K : Nat} {a : Int32} {sel : Nat → Nat} (h : Chosen n a K sel) : K ≤ n := by
  have key : ∀ m, m < K → m ≤ sel m := by
    intro m
    induction m with
    | zero => intro _; exact Nat.zero_le _
    | succ m ih =>
      intro hm
      have h1 := ih (by omega)
      have h2 := h.2.2 m (m + 1) (by omega) hm
      omega
  by_cases h0 : K = 0
  · omega
  · have h1 := key (K - 1) (by omega)
    have h2 := (h.1 (K - 1) (by omega)).1
    omega
theorem append_row {p K j : Nat} {num qnum : Nat → Int32} (V : Nat → Nat → Nat → Nat) (hp : 1 < p) (hp2 : p < 10) (hK : K < 5) (hj : j < 5) (hV : ∀ c k, c < 3 → k < 7 → V j c k < p ∧ qnum ((j * 3 + c) * 7 + k) = nI (V j c k)) :
    ∃ n1 n2 n3, fX3_append 1000 (5 : Int32) (8 : Int32) (25 : Int32) (nI p) (nI K) num = some (nI K, nI (K + 1), n1) ∧ fX3_addTimes 1000 (5 : Int32) (8 : Int32) (25 : Int32) (nI p) n1 105 (5 : Int32) (3 : Int32) (7 : Int32) qnum (nI K) (nI j) (1 : Int32) (0 : Int32) = some n2 ∧ fX3_put 1000 (5 : Int32) (8 : Int32) (25 : Int32) (nI p) n2 (nI K) ((3 : Int32) + nI j) (0 : Int32) (1 : Int32) = some n3 ∧ ∀ i' c k, c < 8 → k < 25 → n3 ((i' * 8 + c) * 25 + k) = if i' = K then nI (blk V j c k) else num ((i' * 8 + c) * 25 + k) := by
  obtain ⟨n1, h1, c1⟩ := X3append (L := 1000) (R := 5) (w := 8) (q := 25) (n := K) (p := p) (num := num) rfl (by omega) (by omega) (by omega) (by omega) hK (by omega) (by omega)
  obtain ⟨n2, h2, c2, d2⟩ := X3add (L := 1000) (R := 5) (w := 8) (q := 25) (L2 := 105) (R2 := 5) (w2 := 3) (q2 := 7) (i := K) (j := j) (p := p) (pw := 0) (num := n1) (qnum := qnum) (t := 1) (fun c k => if c < 3 then V j c k else 0) rfl (by omega) (by omega) (by omega) (by omega) (by omega) hK (by omega) (by omega) (by omega) (by decide) (by decide)
    (by
      intro c k hc hk
      by_cases h3 : c < 3
      · rw [if_pos h3]
        have := hV c k h3 hk
        exact ⟨by omega, by rw [X3at_in (by rfl) (by omega) (by omega) (by omega) (by omega) hj h3 hk, this.2]⟩
      · rw [if_neg h3]
        exact ⟨by omega, X3at_wide (by omega) hj (by omega) (by omega)⟩)
    (by
      intro c k hc hk
      refine ⟨0, by omega, ?_⟩
      rw [c1 K c k hc hk, if_pos rfl]
      rfl)
  have h3 := X3put_in (L := 1000) (R := 5) (w := 8) (q := 25) (i := K) (c := 3 + j) (k := 0) (p := p) (num := n2) (v := 1) rfl (by omega) (by omega) (by omega) (by omega) hK (by omega) (by omega) (by omega) (by omega) (by decide) (by decide)
  refine ⟨n1, n2, upd n2 ((K * 8 + (3 + j)) * 25 + 0) (nI (md (1 : Int32).toInt p)), h1, h2, ?_, ?_⟩
  · have e : (3 : Int32) + nI j = nI (3 + j) := nI_add 3 j
    rw [e]
    exact h3
  · intro i' c k hc hk
    have h11 : md (1 : Int32).toInt p = 1 := by
      rw [show (1 : Int32).toInt = ((1 : Nat) : Int) from by decide]
      exact md_small hp
    rw [h11]
    show (if (i' * 8 + c) * 25 + k = (K * 8 + (3 + j)) * 25 + 0 then nI 1 else n2 ((i' * 8 + c) * 25 + k)) = _
    by_cases hi : i' = K
    · subst hi
      rw [if_pos rfl]
      by_cases hx : (i' * 8 + c) * 25 + k = (i' * 8 + (3 + j)) * 25 + 0
      · have e2 : blk V j c k = 1 := by unfold blk; rw [if_neg (by omega), if_pos (by omega)]
        rw [if_pos hx, e2]
      · rw [if_neg hx, c2 c k hc hk, c1 i' c k hc hk, if_pos rfl]
        by_cases hk7 : k < 7
        · rw [if_pos (show 0 ≤ k ∧ k - 0 < 7 by omega), Nat.sub_zero]
          by_cases hc3 : c < 3
          · have e2 : blk V j c k = V j c k := by unfold blk; rw [if_pos hc3, if_pos hk7]
            rw [e2, if_pos hc3, show (0 : Int32).toInt = 0 from rfl, show (1 : Int32).toInt = 1 from by decide, Int.zero_add, Int.one_mul, md_small (hV c k hc3 hk7).1]
          · have e2 : blk V j c k = 0 := by unfold blk; rw [if_neg hc3, if_neg (by omega)]
            rw [e2, if_neg hc3, show (0 : Int32).toInt + (1 : Int32).toInt * ((0 : Nat) : Int) = ((0 : Nat) : Int) from by decide, md_small (by omega)]
        · have e2 : blk V j c k = 0 := by
            unfold blk
            by_cases hc3 : c < 3
            · rw [if_pos hc3, if_neg hk7]
            · rw [if_neg hc3, if_neg (by omega)]
          rw [e2, if_neg (show ¬ (0 ≤ k ∧ k - 0 < 7) by omega), show (0 : Int32).toInt + (0 : Int) = ((0 : Nat) : Int) from rfl, md_small (by omega)]
    · rw [if_neg hi, if_neg (by omega), d2 i' c k hi hc hk, c1 i' c k hc hk, if_neg hi]
theorem build8L {p n : Nat} {qnum lnum : Nat → Int32} {a1 : Int32} (V : Nat → Nat → Nat → Nat) (hp : 1 < p) (hp2 : p < 10) (hn : n ≤ 5) (hV : ∀ i c k, i < n → c < 3 → k < 7 → V i c k < p ∧ qnum ((i * 3 + c) * 7 + k) = nI (V i c k)) :
    ∃ K num sel, Lp (fun (z : Int32 × Int32 × (Nat → Int32)) => fX2_buildFrom_s17 105 (5 : Int32) (3 : Int32) (7 : Int32) (nI n) qnum a1 (nI p) z.1 z.2.1 z.2.2) ((0 : Int32), (0 : Int32), lnum) = some (nI K, num) ∧ Chosen n a1 K sel ∧ ∀ m c k, m < K → c < 8 → k < 25 → num ((m * 8 + c) * 25 + k) = nI (blk V (sel m) c k) := by
  have key := Lp_up (E := fun (j : Int32) (s : Int32 × (Nat → Int32)) => (j, s.1, s.2)) (g := fun (z : Int32 × Int32 × (Nat → Int32)) => fX2_buildFrom_s17 105 (5 : Int32) (3 : Int32) (7 : Int32) (nI n) qnum a1 (nI p) z.1 z.2.1 z.2.2) n
    (fun j s => ∃ K sel, s.1 = nI K ∧ Chosen j a1 K sel ∧ ∀ m c k, m < K → c < 8 → k < 25 → s.2 ((m * 8 + c) * 25 + k) = nI (blk V (sel m) c k))
    (fun r => ∃ K sel, r.1 = nI K ∧ Chosen n a1 K sel ∧ ∀ m c k, m < K → c < 8 → k < 25 → r.2 ((m * 8 + c) * 25 + k) = nI (blk V (sel m) c k))
    (by
      rintro j ⟨s1, s2⟩ hj ⟨K, sel, e, hc, hs⟩
      dsimp only at e hs
      subst e
      dsimp only
      have hKj := Chosen_le hc
      left
      unfold fX2_buildFrom_s17
      rw [if_neg (nI_ge hj (by omega))]
      by_cases hb : fX7_isInSet (nI j) a1 = 0
      · rw [if_pos hb]
        refine ⟨(nI K, s2), rfl, K, sel, rfl, ⟨fun m hm => ⟨by have := (hc.1 m hm).1; omega, (hc.1 m hm).2⟩, fun i hi hin => ?_, hc.2.2⟩, hs⟩
        by_cases e : i = j
        · subst e; exact absurd hb hin
        · exact hc.2.1 i (by omega) hin
      · rw [if_neg hb]
        obtain ⟨n1, n2, n3, h1, h2, h3, h4⟩ := append_row (p := p) (K := K) (j := j) (num := s2) (qnum := qnum) V hp hp2 (by omega) (by omega) (fun c k hc hk => hV j c k hj hc hk)
        rw [bd3_t h1, bd_t h2, bd_t h3]
        refine ⟨(nI (K + 1), n3), rfl, K + 1, fun m => if m = K then j else sel m, rfl, ⟨?_, ?_, ?_⟩, ?_⟩
        · intro m hm
          dsimp only
          by_cases e : m = K
          · rw [if_pos e]; exact ⟨by omega, hb⟩
          · rw [if_neg e]
            have := hc.1 m (by omega)
            exact ⟨by omega, this.2⟩
        · intro i hi hin
          by_cases e : i = j
          · exact ⟨K, by omega, by dsimp only; rw [if_pos rfl, e]⟩
          · obtain ⟨m, hm, hm2⟩ := hc.2.1 i (by omega) hin
            exact ⟨m, by omega, by dsimp only; rw [if_neg (by omega)]; exact hm2⟩
        · intro m m' hm hm'
          dsimp only
          rw [if_neg (by omega)]
          by_cases e : m' = K
          · rw [if_pos e]
            exact (hc.1 m (by omega)).1
          · rw [if_neg e]
            exact hc.2.2 m m' hm (by omega)
        · intro m c k hm hc8 hk
          dsimp only
          rw [h4 m c k hc8 hk]
          by_cases e : m = K
          · rw [if_pos e, if_pos e]
          · rw [if_neg e, if_neg e]
            exact hs m c k (by omega) hc8 hk)
    (by
      rintro ⟨s1, s2⟩ h
      dsimp only
      refine ⟨(s1, s2), ?_, h⟩
      unfold fX2_buildFrom_s17
      rw [if_pos (nI_le (Nat.le_refl n) (by omega))])
    0 (0, lnum) (Nat.zero_le n) ⟨0, fun m => m, rfl, ⟨fun m hm => absurd hm (by omega), fun i hi => absurd hi (by omega), fun m m' hm hm' => absurd hm' (by omega)⟩, fun m c k hm => absurd hm (by omega)⟩
  obtain ⟨⟨r1, r2⟩, h1, K, sel, h2, h3, h4⟩ := key
  dsimp only at h2 h4
  subst h2
  exact ⟨K, r2, sel, h1, h3, h4⟩
