/-! the text's commands: both readers alike -/
def TX (L : Nat) (B T : Nat → Int32) : Prop := L ≤ 150 ∧ ∀ j, j < L → ∃ c : Nat, c < 128 ∧ B j = nI c ∧ T j = nI c
def atL (L : Nat) (B : Nat → Int32) (k : Nat) : Int32 := if k < L then B k else -1
def sk (L : Nat) (B : Nat → Int32) : Nat → Nat → Nat
  | 0, s => s
  | n + 1, s => if s < L ∧ B s = 32 then sk L B n (s + 1) else s
def spn (L : Nat) (B : Nat → Int32) (s : Nat) : Nat := sk L B (L - s) s
theorem sk_spec {L : Nat} {B : Nat → Int32} : ∀ n s, L = s + n → s ≤ sk L B n s ∧ sk L B n s ≤ L ∧ atL L B (sk L B n s) ≠ 32 := by
  intro n
  induction n with
  | zero =>
    intro s h
    refine ⟨Nat.le_refl _, by unfold sk; omega, ?_⟩
    unfold sk atL
    rw [if_neg (by omega)]
    decide
  | succ n ih =>
    intro s h
    unfold sk
    by_cases hb : s < L ∧ B s = 32
    · rw [if_pos hb]
      have := ih (s + 1) (by omega)
      exact ⟨by omega, this.2⟩
    · rw [if_neg hb]
      refine ⟨Nat.le_refl _, by omega, ?_⟩
      unfold atL
      rw [if_pos (by omega)]
      exact fun z => hb ⟨by omega, z⟩
theorem spn_spec {L s : Nat} (B : Nat → Int32) (h : s ≤ L) : s ≤ spn L B s ∧ spn L B s ≤ L ∧ atL L B (spn L B s) ≠ 32 := sk_spec (L - s) s (by omega)
theorem spn_id {L s : Nat} {B : Nat → Int32} (h : atL L B s ≠ 32) : spn L B s = s := by
  unfold spn
  cases hn : L - s with
  | zero => rfl
  | succ n =>
    unfold sk
    rw [if_neg]
    rintro ⟨h1, h2⟩
    apply h
    unfold atL
    rw [if_pos h1, h2]
theorem X4byteHere {L k : Nat} {B : Nat → Int32} (hL : L ≤ 150) (hk : k ≤ 1000) : fX4_byteHere (nI L) (nI k) B = some (atL L B k) := by
  unfold fX4_byteHere atL
  rw [if_neg (nI_pos (by omega))]
  by_cases h : k < L
  · rw [if_neg (nI_ge h (by omega)), if_neg (show ¬ (150 : Int32) ≤ nI k from (nI_ge (by omega) (by omega) : ¬ nI 150 ≤ nI k)), gd_t (vp_in_nI (by omega) (by omega)), nI_clamp (by omega), if_pos h]
  · rw [if_pos (nI_le (by omega) (by omega)), if_neg h]
theorem X4skipBlanks {L s : Nat} {B : Nat → Int32} (hL : L ≤ 150) (hs : s ≤ L) : fX4_skipBlanks (nI L) (nI s) B = some (nI (spn L B s)) := by
  have key : ∀ n s i, L = s + n → i + n ≤ 150 → Lp (fun (z : Int32 × Int32) => fX4_skipBlanks_s2 (nI L) B z.1 z.2) (nI i, nI s) = some (nI (sk L B n s)) := by
    intro n
    induction n with
    | zero =>
      intro s i h h2
      apply Lp_end
      dsimp only
      unfold fX4_skipBlanks_s2
      by_cases hi : (150 : Int32) ≤ nI i
      · rw [if_pos hi]; rfl
      · rw [if_neg hi, bd_t (X4byteHere hL (by omega)), if_neg (by unfold atL; rw [if_neg (by omega)]; decide)]; rfl
    | succ n ih =>
      intro s i h h2
      have e : fX4_skipBlanks_s2 (nI L) B (nI i) (nI s) = if B s = 32 then (some (.inl ((nI i + 1), (nI s + (1 : Int32))))) else (some (.inr (nI s))) := by
        unfold fX4_skipBlanks_s2
        rw [if_neg (show ¬ (150 : Int32) ≤ nI i from (nI_ge (by omega) (by omega) : ¬ nI 150 ≤ nI i)), bd_t (X4byteHere hL (by omega)), show atL L B s = B s from if_pos (by omega)]
      unfold sk
      by_cases hb : B s = 32
      · rw [if_pos ⟨by omega, hb⟩, Lp_go (t := (nI (i + 1), nI (s + 1))) (e.trans (by rw [if_pos hb, show nI i + 1 = nI (i + 1) from nI_add i 1, show nI s + 1 = nI (s + 1) from nI_add s 1]))]
        exact ih (s + 1) (i + 1) (by omega) (by omega)
      · rw [if_neg (fun z => hb z.2)]
        exact Lp_end (e.trans (if_neg hb))
  unfold fX4_skipBlanks
  exact bd_t (key (L - s) s 0 (by omega) (by omega))
theorem tx_at {L k : Nat} {B T : Nat → Int32} (hX : TX L B T) (hk : k < L) : T k = atL L B k ∧ B k = atL L B k ∧ ∃ c : Nat, c < 128 ∧ atL L B k = nI c := by
  obtain ⟨c, h1, h2, h3⟩ := hX.2 k hk
  have e : atL L B k = B k := if_pos hk
  exact ⟨by rw [e, h2, h3], e.symm, c, h1, by rw [e, h2]⟩
theorem X8here {L s : Nat} {B T : Nat → Int32} (hX : TX L B T) (hs : s ≤ L) : fX8_here (nI L) (nI s) T = some (atL L B (spn L B s), nI (spn L B s)) := by
  have hL := hX.1
  have key : ∀ n s, L = s + n → Lp (fun (z : Int32) => fX8_here_s0 (nI L) T z) (nI s) = some (nI (sk L B n s)) := by
    intro n
    induction n with
    | zero =>
      intro s h
      apply Lp_end
      unfold fX8_here_s0
      rw [if_pos (nI_le (by omega) (by omega))]; rfl
    | succ n ih =>
      intro s h
      have e : fX8_here_s0 (nI L) T (nI s) = if B s = 32 then (some (.inl (nI s + (1 : Int32)))) else (some (.inr (nI s))) := by
        unfold fX8_here_s0
        rw [if_neg (nI_ge (by omega) (by omega)), gd_t (vp_in_nI (by omega) (by omega)), nI_clamp (by omega), (tx_at hX (show s < L by omega)).1, ← (tx_at hX (show s < L by omega)).2.1]
      unfold sk
      by_cases hb : B s = 32
      · rw [if_pos ⟨by omega, hb⟩, Lp_go (t := nI (s + 1)) (e.trans (by rw [if_pos hb, show nI s + 1 = nI (s + 1) from nI_add s 1]))]
        exact ih (s + 1) (by omega)
      · rw [if_neg (fun z => hb z.2)]
        exact Lp_end (e.trans (if_neg hb))
  have hs2 := spn_spec B hs
  unfold fX8_here
  rw [bd_t (key (L - s) s (by omega))]
  show (if nI L ≤ nI (spn L B s) then some ((-1 : Int32), nI (spn L B s)) else gd (vp_in (nI (spn L B s)) 150) (some (T (nI (spn L B s)).toNatClampNeg, nI (spn L B s)))) = _
  by_cases h : spn L B s < L
  · rw [if_neg (nI_ge h (by omega)), gd_t (vp_in_nI (by omega) (by omega)), nI_clamp (by omega), (tx_at hX h).1]
  · rw [if_pos (nI_le (by omega) (by omega)), show atL L B (spn L B s) = -1 from if_neg h]
theorem X4accept {L s : Nat} {B : Nat → Int32} (a : Int32) (hL : L ≤ 150) (hs : s ≤ L) : fX4_accept (nI L) (nI s) B a = some (if atL L B (spn L B s) = a then ((1 : Int32), nI (spn L B s + 1)) else (0, nI (spn L B s))) := by
  have hs2 := spn_spec B hs
  unfold fX4_accept
  rw [bd_t (X4skipBlanks hL hs), bd_t (X4byteHere hL (by omega))]
  by_cases h : atL L B (spn L B s) = a
  · rw [if_pos h, if_pos h, show nI (spn L B s) + 1 = nI (spn L B s + 1) from nI_add _ 1]
  · rw [if_neg h, if_neg h]
theorem at_lt {L t : Nat} {B : Nat → Int32} {a : Nat} (ha : a < 128) (h : atL L B t = nI a) : t < L := by
  apply Classical.byContradiction
  intro hn
  rw [show atL L B t = -1 from if_neg hn] at h
  exact nI_pos (show a < 2 ^ 31 by omega) (by rw [← h]; decide)
theorem fig_of {L t : Nat} {B : Nat → Int32} (h : ¬ fX7_isWithin (atL L B t) 48 57 = 0) : t < L ∧ ∃ d, d < 10 ∧ atL L B t = nI (48 + d) := by
  obtain ⟨N, h1, h2, h3⟩ := wi_of2 (lo := 48) (hi := 57) (by omega) (by omega) h
  exact ⟨at_lt (a := N) (by omega) h3, N - 48, by omega, by rw [h3, show 48 + (N - 48) = N by omega]⟩
theorem X4digitHere {L s : Nat} {B : Nat → Int32} (hL : L ≤ 150) (hs : s ≤ L) : fX4_digitHere (nI L) (nI s) B = some (if fX7_isWithin (atL L B (spn L B s)) 48 57 = 0 then ((-1 : Int32), nI (spn L B s)) else (atL L B (spn L B s) - 48, nI (spn L B s))) := by
  have hs2 := spn_spec B hs
  unfold fX4_digitHere
  rw [bd_t (X4skipBlanks hL hs), bd_t (X4byteHere hL (by omega))]
  by_cases h : fX7_isWithin (atL L B (spn L B s)) 48 57 = 0
  · rw [if_pos h, if_pos h]
  · rw [if_neg h, if_neg h]
theorem X8isFigure (a : Int32) : fX8_isFigure a = fX7_isWithin a 48 57 := in_wi a 48 57
/-- figures -/
theorem digs_both {L Nn : Nat} {B T E2 : Nat → Int32} {rc : Int32} (hX : TX L B T) (hN : Nn ≤ 4) : ∀ m i s D N, i + m = Nn → s ≤ L → (∀ k, k < i → ∃ d : Nat, d < 10 ∧ D k = nI d ∧ N k = nI d) → ∃ (t : Nat) (D' N' : Nat → Int32), s ≤ t ∧ t ≤ L ∧
    ((s + m ≤ t ∧ Lp (fun (z : Int32 × (Nat → Int32) × Int32) => fX4_readDigits_s2 (nI L) B (nI Nn) z.1 z.2.1 z.2.2) (nI i, D, nI s) = some (.inl (D', nI t)) ∧ Lp (fun (z : Int32 × (Nat → Int32) × Int32) => fX8_takesRest_s25 (nI L) rc T E2 (nI Nn) z.1 z.2.1 z.2.2) (nI i, N, nI s) = some (.inl (N', nI t)) ∧ ∀ k, k < Nn → ∃ d : Nat, d < 10 ∧ D' k = nI d ∧ N' k = nI d) ∨
     (Lp (fun (z : Int32 × (Nat → Int32) × Int32) => fX4_readDigits_s2 (nI L) B (nI Nn) z.1 z.2.1 z.2.2) (nI i, D, nI s) = some (.inr ((0 : Int32), nI t, D')) ∧ Lp (fun (z : Int32 × (Nat → Int32) × Int32) => fX8_takesRest_s25 (nI L) rc T E2 (nI Nn) z.1 z.2.1 z.2.2) (nI i, N, nI s) = some (.inr ((0 : Int32), nI t, rc, N', E2)))) := by
  have hL := hX.1
  intro m
  induction m with
  | zero =>
    intro i s D N hi hs hD
    have e : i = Nn := by omega
    subst e
    refine ⟨s, D, N, Nat.le_refl _, hs, Or.inl ⟨by omega, Lp_end ?_, Lp_end ?_, hD⟩⟩
    · dsimp only
      unfold fX4_readDigits_s2
      rw [if_pos (nI_le (Nat.le_refl _) (by omega))]
    · dsimp only
      unfold fX8_takesRest_s25
      rw [if_pos (nI_le (Nat.le_refl _) (by omega))]
  | succ m ih =>
    intro i s D N hi hs hD
    have hs2 := spn_spec B hs
    by_cases hf : fX7_isWithin (atL L B (spn L B s)) 48 57 = 0
    · refine ⟨spn L B s, D, N, hs2.1, hs2.2.1, Or.inr ⟨Lp_end ?_, Lp_end ?_⟩⟩
      · dsimp only
        unfold fX4_readDigits_s2
        rw [if_neg (nI_ge (by omega) (by omega)), if_neg (show ¬ (4 : Int32) ≤ nI i from (nI_ge (by omega) (by omega) : ¬ nI 4 ≤ nI i)), X4digitHere hL hs, if_pos hf]
        rfl
      · dsimp only
        unfold fX8_takesRest_s25 fX8_takesFigure
        rw [if_neg (nI_ge (by omega) (by omega)), bd2_t (X8here hX hs), X8isFigure, if_pos hf]
        rfl
    · obtain ⟨ht, d, hd, ed⟩ := fig_of hf
      have e48 : nI (48 + d) - 48 = nI d := by
        rw [show (48 : Int32) = nI 48 from rfl, pk_sub (by omega), show 48 + d - 48 = d by omega]
      have g1 : fX4_readDigits_s2 (nI L) B (nI Nn) (nI i) D (nI s) = some (.inl (nI (i + 1), upd D i (nI d), nI (spn L B s + 1))) := by
        unfold fX4_readDigits_s2
        rw [if_neg (nI_ge (by omega) (by omega)), if_neg (show ¬ (4 : Int32) ≤ nI i from (nI_ge (by omega) (by omega) : ¬ nI 4 ≤ nI i)), X4digitHere hL hs, if_neg hf, ed, e48]
        show (if nI d = (-1 : Int32) then _ else _) = _
        rw [if_neg (fun z => nI_pos (show d < 2 ^ 31 by omega) (by rw [z]; decide)), gd_t (vp_in_nI (by omega) (by omega)), nI_clamp (by omega), show nI i + 1 = nI (i + 1) from nI_add i 1, show nI (spn L B s) + 1 = nI (spn L B s + 1) from nI_add _ 1]
      have g2 : fX8_takesRest_s25 (nI L) rc T E2 (nI Nn) (nI i) N (nI s) = some (.inl (nI (i + 1), upd N i (nI d), nI (spn L B s + 1))) := by
        unfold fX8_takesRest_s25 fX8_takesFigure
        rw [if_neg (nI_ge (by omega) (by omega)), bd2_t (X8here hX hs), X8isFigure, if_neg hf, gd_t (vp_in_nI (by omega) (by omega)), ed, e48, nI_clamp (by omega), show nI (spn L B s) + 1 = nI (spn L B s + 1) from nI_add _ 1, bd3_t rfl, if_neg (by decide), show nI i + 1 = nI (i + 1) from nI_add i 1]
      obtain ⟨t, D', N', h1, h2, h3⟩ := ih (i + 1) (spn L B s + 1) (upd D i (nI d)) (upd N i (nI d)) (by omega) (by omega) (fun k hk => by
        by_cases e : k = i
        · rw [e]; exact ⟨d, hd, pk_us, pk_us⟩
        · rw [pk_un e, pk_un e]; exact hD k (by omega))
      refine ⟨t, D', N', by omega, h2, ?_⟩
      have l1 : Lp (fun (z : Int32 × (Nat → Int32) × Int32) => fX4_readDigits_s2 (nI L) B (nI Nn) z.1 z.2.1 z.2.2) (nI i, D, nI s) = Lp (fun (z : Int32 × (Nat → Int32) × Int32) => fX4_readDigits_s2 (nI L) B (nI Nn) z.1 z.2.1 z.2.2) (nI (i + 1), upd D i (nI d), nI (spn L B s + 1)) := Lp_go (s := (nI i, D, nI s)) (t := (nI (i + 1), upd D i (nI d), nI (spn L B s + 1))) g1
      have l2 : Lp (fun (z : Int32 × (Nat → Int32) × Int32) => fX8_takesRest_s25 (nI L) rc T E2 (nI Nn) z.1 z.2.1 z.2.2) (nI i, N, nI s) = Lp (fun (z : Int32 × (Nat → Int32) × Int32) => fX8_takesRest_s25 (nI L) rc T E2 (nI Nn) z.1 z.2.1 z.2.2) (nI (i + 1), upd N i (nI d), nI (spn L B s + 1)) := Lp_go (s := (nI i, N, nI s)) (t := (nI (i + 1), upd N i (nI d), nI (spn L B s + 1))) g2
      rw [l1, l2]
      rcases h3 with h3 | h3
      · exact Or.inl ⟨by omega, h3.2⟩
      · exact Or.inr h3
