/-! the text's rows: both readers alike -/
theorem wi_yes {a lo hi : Nat} (h1 : lo ≤ a) (h2 : a ≤ hi) (h3 : hi < 1000) : ¬ fX7_isWithin (nI a) (nI lo) (nI hi) = 0 := by
  unfold fX7_isWithin
  rw [if_neg (nI_nlt h1 (by omega)), if_neg (nI_nlt h2 (by omega))]
  decide
theorem X4addTo {E : Nat → Int32} {c q : Nat} (w : Int32) (hc : c < 3) (hq : q < 7) : fX4_addToEntry E (nI c) (nI q) w = some (upd E (7 * c + q) (E (7 * c + q) + w)) := by
  have e : fX4_entryIndex (nI c) (nI q) = some (nI (7 * c + q)) := by
    unfold fX4_entryIndex
    rw [if_neg (show ¬ fX7_isWithin (nI c) (0 : Int32) (2 : Int32) = 0 from wi_yes (lo := 0) (hi := 2) (by omega) (by omega) (by omega)), if_neg (show ¬ fX7_isWithin (nI q) (0 : Int32) (6 : Int32) = 0 from wi_yes (lo := 0) (hi := 6) (by omega) (by omega) (by omega)), bd_t rfl, if_neg (by decide), show (7 : Int32) = nI 7 from rfl, pk_mul, nI_add, Nat.mul_comm]
  unfold fX4_addToEntry
  rw [bd_t e, if_neg (nI_pos (by omega)), if_neg (show ¬ (21 : Int32) ≤ nI (7 * c + q) from (nI_ge (by omega) (by omega) : ¬ nI 21 ≤ nI (7 * c + q))), gd_t (vp_in_nI (by omega) (by omega)), gd_t (vp_in_nI (by omega) (by omega)), nI_clamp (by omega)]
noncomputable def powR (textLong : Int32) (text : Nat → Int32) (entries : Nat → Int32) (a0 u w : Int32) : Option (Int32 × Int32 × (Nat → Int32)) := if textLong ≤ (u + (1 : Int32)) then (gd (vp_in (((7 : Int32) * a0) + (1 : Int32)) 21) (gd (vp_in (((7 : Int32) * a0) + (1 : Int32)) 21) (some ((1 : Int32), (u + (1 : Int32)), (upd entries (((7 : Int32) * a0) + (1 : Int32)).toNatClampNeg ((entries (((7 : Int32) * a0) + (1 : Int32)).toNatClampNeg) + w)))))) else (gd (vp_in (u + (1 : Int32)) 150) (if (fX8_isFigure (text (u + (1 : Int32)).toNatClampNeg)) = 0 then (gd (vp_in (((7 : Int32) * a0) + (1 : Int32)) 21) (gd (vp_in (((7 : Int32) * a0) + (1 : Int32)) 21) (some ((1 : Int32), (u + (1 : Int32)), (upd entries (((7 : Int32) * a0) + (1 : Int32)).toNatClampNeg ((entries (((7 : Int32) * a0) + (1 : Int32)).toNatClampNeg) + w)))))) else (gd (vp_in (u + (1 : Int32)) 150) (if (fX8_in ((((text (u + (1 : Int32)).toNatClampNeg) - (48 : Int32))).toInt64) (1 : Int64) (6 : Int64)) = 0 then (some ((0 : Int32), (u + (1 : Int32)), entries)) else (gd (vp_in (((7 : Int32) * a0) + ((text (u + (1 : Int32)).toNatClampNeg) - (48 : Int32))) 21) (gd (vp_in (((7 : Int32) * a0) + ((text (u + (1 : Int32)).toNatClampNeg) - (48 : Int32))) 21) (some ((1 : Int32), ((u + (1 : Int32)) + (1 : Int32)), (upd entries (((7 : Int32) * a0) + ((text (u + (1 : Int32)).toNatClampNeg) - (48 : Int32))).toNatClampNeg ((entries (((7 : Int32) * a0) + ((text (u + (1 : Int32)).toNatClampNeg) - (48 : Int32))).toNatClampNeg) + w))))))))))
theorem pow_both {L c t : Nat} {B T E2 : Nat → Int32} (w : Int32) (hX : TX L B T) (hc : c < 3) (ht : t < L) : ∃ q t' : Nat, q < 7 ∧ t < t' ∧ t' ≤ L ∧ fX4_readPower (nI L) (nI (t + 1)) B = some (nI q, nI t') ∧ (powR (nI L) T E2 (nI c) (nI t) w = some (1, nI t', upd E2 (7 * c + q) (E2 (7 * c + q) + w)) ∨ powR (nI L) T E2 (nI c) (nI t) w = some (0, nI t', E2) ∧ ¬ fX7_isWithin (atL L B t') 48 57 = 0) := by
  have hL := hX.1
  have e1 : nI t + (1 : Int32) = nI (t + 1) := nI_add t 1
  have e7 : ∀ q : Nat, (7 : Int32) * nI c + nI q = nI (7 * c + q) := fun q => by rw [show (7 : Int32) = nI 7 from rfl, pk_mul, nI_add]
  have hone : (7 : Int32) * nI c + (1 : Int32) = nI (7 * c + 1) := e7 1
  by_cases hend : t + 1 < L
  · have hat := (tx_at hX hend).1
    by_cases hf : fX7_isWithin (atL L B (t + 1)) 48 57 = 0
    · refine ⟨1, t + 1, by omega, by omega, by omega, ?_, Or.inl ?_⟩
      · unfold fX4_readPower
        rw [bd_t (X4byteHere hL (by omega)), if_pos]
        · rfl
        · apply Classical.byContradiction
          intro h
          obtain ⟨N, h1, h2, h3⟩ := wi_of2 (lo := 49) (hi := 54) (by omega) (by omega) h
          rw [h3] at hf
          exact wi_yes (lo := 48) (hi := 57) (by omega) (by omega) (by omega) hf
      · unfold powR
        rw [e1, if_neg (nI_ge hend (by omega)), gd_t (vp_in_nI (by omega) (by omega)), nI_clamp (by omega), hat, X8isFigure, if_pos hf, hone, gd_t (vp_in_nI (by omega) (by omega)), gd_t (vp_in_nI (by omega) (by omega)), nI_clamp (by omega)]
    · obtain ⟨-, d, hd, ed⟩ := fig_of hf
      have e48 : nI (48 + d) - 48 = nI d := by
        rw [show (48 : Int32) = nI 48 from rfl, pk_sub (by omega), show 48 + d - 48 = d by omega]
      have hin : fX8_in ((nI d).toInt64) (1 : Int64) (6 : Int64) = fX7_isWithin (nI d) 1 6 := in_wi (nI d) 1 6
      by_cases h16 : 1 ≤ d ∧ d ≤ 6
      · refine ⟨d, t + 2, by omega, by omega, by omega, ?_, Or.inl ?_⟩
        · unfold fX4_readPower
          rw [bd_t (X4byteHere hL (by omega)), ed, if_neg (show ¬ fX7_isWithin (nI (48 + d)) 49 54 = 0 from wi_yes (lo := 49) (hi := 54) (by omega) (by omega) (by omega)), e48, show nI (t + 1) + (1 : Int32) = nI (t + 2) from nI_add (t + 1) 1]
        · unfold powR
          rw [e1, if_neg (nI_ge hend (by omega)), gd_t (vp_in_nI (by omega) (by omega)), nI_clamp (by omega), hat, X8isFigure, if_neg hf, gd_t (vp_in_nI (by omega) (by omega)), ed, e48, hin, if_neg (show ¬ fX7_isWithin (nI d) 1 6 = 0 from wi_yes (lo := 1) (hi := 6) (by omega) (by omega) (by omega)), e7, gd_t (vp_in_nI (by omega) (by omega)), gd_t (vp_in_nI (by omega) (by omega)), nI_clamp (by omega), show nI (t + 1) + (1 : Int32) = nI (t + 2) from nI_add (t + 1) 1]
      · refine ⟨1, t + 1, by omega, by omega, by omega, ?_, Or.inr ⟨?_, hf⟩⟩
        · unfold fX4_readPower
          rw [bd_t (X4byteHere hL (by omega)), ed, if_pos]
          · rfl
          · apply Classical.byContradiction
            intro h
            obtain ⟨N, h1, h2, h3⟩ := wi_of2 (lo := 49) (hi := 54) (by omega) (by omega) h
            have := (nI_eq (by omega) (by omega)).mp h3
            omega
        · unfold powR
          rw [e1, if_neg (nI_ge hend (by omega)), gd_t (vp_in_nI (by omega) (by omega)), nI_clamp (by omega), hat, X8isFigure, if_neg hf, gd_t (vp_in_nI (by omega) (by omega)), ed, e48, hin, if_pos]
          apply Classical.byContradiction
          intro h
          obtain ⟨N, h1, h2, h3⟩ := wi_of2 (lo := 1) (hi := 6) (by omega) (by omega) h
          have := (nI_eq (by omega) (by omega)).mp h3
          omega
  · refine ⟨1, t + 1, by omega, by omega, by omega, ?_, Or.inl ?_⟩
    · unfold fX4_readPower
      rw [bd_t (X4byteHere hL (by omega)), show atL L B (t + 1) = -1 from if_neg hend, if_pos (by unfold fX7_isWithin; decide)]
      rfl
    · unfold powR
      rw [e1, if_pos (nI_le (by omega) (by omega)), hone, gd_t (vp_in_nI (by omega) (by omega)), gd_t (vp_in_nI (by omega) (by omega)), nI_clamp (by omega)]
theorem upd_eq21 {E E2 : Nat → Int32} {j : Nat} (w : Int32) (hj : j < 21) (hE : ∀ k, k < 21 → E k = E2 k) : ∀ k, k < 21 → upd E j (E j + w) k = upd E2 j (E2 j + w) k := by
  intro k hk
  by_cases e : k = j
  · rw [e, pk_us, pk_us, hE j hj]
  · rw [pk_un e, pk_un e, hE k hk]
theorem term_both {L c s : Nat} {B T E E2 : Nat → Int32} (hX : TX L B T) (hc : c < 3) (hs : s ≤ L) (hE : ∀ k, k < 21 → E k = E2 k) : ∃ (t : Nat) (ok : Int32) (E' E2' : Nat → Int32), s ≤ t ∧ t ≤ L ∧ fX4_readTerm (nI L) (nI s) B E (nI c) = some (ok, nI t, E') ∧ ((ok = 1 ∧ fX8_takesTerm (nI L) (nI s) T E2 (nI c) = some (1, nI t, E2') ∧ s < t ∧ ∀ k, k < 21 → E' k = E2' k) ∨ (fX8_takesTerm (nI L) (nI s) T E2 (nI c) = some (0, nI t, E2') ∧ (ok = 0 ∨ ok = 1 ∧ ¬ fX7_isWithin (atL L B t) 48 57 = 0))) := by
  have hL := hX.1
  have hs2 := spn_spec B hs
  have e7 : (7 : Int32) * nI c = nI (7 * c + 0) := by rw [show (7 : Int32) = nI 7 from rfl, pk_mul]; rfl
  by_cases hf : fX7_isWithin (atL L B (spn L B s)) 48 57 = 0
  · -- no figure
    have hid : spn L B (spn L B s) = spn L B s := spn_id hs2.2.2
    by_cases hx : atL L B (spn L B s) = 120
    · have ht : spn L B s < L := at_lt (a := 120) (by omega) hx
      obtain ⟨q, t', hq, h1, h2, h3, h4⟩ := pow_both (E2 := E2) (1 : Int32) hX hc ht
      have hcl : fX4_readTerm (nI L) (nI s) B E (nI c) = some (1, nI t', upd E (7 * c + q) (E (7 * c + q) + 1)) := by
        unfold fX4_readTerm
        rw [X4digitHere hL hs, if_pos hf, bd2_t rfl, if_pos rfl, bd_t rfl, X4accept 120 hL hs2.2.1, hid, if_pos hx, bd2_t rfl, if_neg (by decide), bd2_t h3, if_pos rfl, bd_t (X4addTo 1 hc hq)]
      have hre : fX8_takesTerm (nI L) (nI s) T E2 (nI c) = powR (nI L) T E2 (nI c) (nI (spn L B s)) 1 := by
        unfold fX8_takesTerm
        rw [bd2_t (X8here hX hs), X8isFigure, if_pos hf, if_pos hx]
        rfl
      rcases h4 with h4 | h4
      · exact ⟨t', 1, _, _, by omega, h2, hcl, Or.inl ⟨rfl, hre.trans h4, by omega, upd_eq21 1 (by omega) hE⟩⟩
      · exact ⟨t', 1, _, _, by omega, h2, hcl, Or.inr ⟨hre.trans h4.1, Or.inr ⟨rfl, h4.2⟩⟩⟩
    · refine ⟨spn L B s, 0, E, E2, hs2.1, hs2.2.1, ?_, Or.inr ⟨?_, Or.inl rfl⟩⟩
      · unfold fX4_readTerm
        rw [X4digitHere hL hs, if_pos hf, bd2_t rfl, if_pos rfl, bd_t rfl, X4accept 120 hL hs2.2.1, hid, if_neg hx, bd2_t rfl, if_pos rfl, if_pos rfl]
      · unfold fX8_takesTerm
        rw [bd2_t (X8here hX hs), X8isFigure, if_pos hf, if_neg hx]
  · obtain ⟨ht, d, hd, ed⟩ := fig_of hf
    have e48 : nI (48 + d) - 48 = nI d := by
      rw [show (48 : Int32) = nI 48 from rfl, pk_sub (by omega), show 48 + d - 48 = d by omega]
    have hd1 : ¬ nI d = (-1 : Int32) := fun z => nI_pos (show d < 2 ^ 31 by omega) (by rw [z]; decide)
    have e1 : nI (spn L B s) + (1 : Int32) = nI (spn L B s + 1) := nI_add _ 1
    have hs3 := spn_spec B (show spn L B s + 1 ≤ L by omega)
    by_cases hx : atL L B (spn L B (spn L B s + 1)) = 120
    · have ht2 : spn L B (spn L B s + 1) < L := at_lt (a := 120) (by omega) hx
      obtain ⟨q, t', hq, h1, h2, h3, h4⟩ := pow_both (E2 := E2) (nI d) hX hc ht2
      have hcl : fX4_readTerm (nI L) (nI s) B E (nI c) = some (1, nI t', upd E (7 * c + q) (E (7 * c + q) + nI d)) := by
        unfold fX4_readTerm
        rw [X4digitHere hL hs, if_neg hf, bd2_t rfl, ed, e48, if_neg hd1, bd_t rfl, e1, X4accept 120 hL (by omega), if_pos hx, bd2_t rfl, if_neg (by decide), bd2_t h3, if_neg hd1, bd_t (X4addTo (nI d) hc hq)]
      have hre : fX8_takesTerm (nI L) (nI s) T E2 (nI c) = powR (nI L) T E2 (nI c) (nI (spn L B (spn L B s + 1))) (nI d) := by
        unfold fX8_takesTerm
        rw [bd2_t (X8here hX hs), X8isFigure, if_neg hf, e1, bd2_t (X8here hX (by omega)), if_pos hx, if_pos hx, ed, e48]
        rfl
      rcases h4 with h4 | h4
      · exact ⟨t', 1, _, _, by omega, h2, hcl, Or.inl ⟨rfl, hre.trans h4, by omega, upd_eq21 (nI d) (by omega) hE⟩⟩
      · exact ⟨t', 1, _, _, by omega, h2, hcl, Or.inr ⟨hre.trans h4.1, Or.inr ⟨rfl, h4.2⟩⟩⟩
    · refine ⟨spn L B (spn L B s + 1), 1, upd E (7 * c + 0) (E (7 * c + 0) + nI d), upd E2 (7 * c + 0) (E2 (7 * c + 0) + nI d), by omega, hs3.2.1, ?_, Or.inl ⟨rfl, ?_, by omega, upd_eq21 (nI d) (by omega) hE⟩⟩
      · unfold fX4_readTerm
        rw [X4digitHere hL hs, if_neg hf, bd2_t rfl, ed, e48, if_neg hd1, bd_t rfl, e1, X4accept 120 hL (by omega), if_neg hx, bd2_t rfl, if_pos rfl, if_neg hd1, if_neg hd1]
        exact bd_t (X4addTo (q := 0) (nI d) hc (by omega))
      · unfold fX8_takesTerm
        rw [bd2_t (X8here hX hs), X8isFigure, if_neg hf, e1, bd2_t (X8here hX (by omega)), if_neg hx, e7, gd_t (vp_in_nI (by omega) (by omega)), gd_t (vp_in_nI (by omega) (by omega)), nI_clamp (by omega), ed, e48]
/-- a reader that stops at t, or goes on there at a figure, which nothing takes -/
def badRow (L : Nat) (B : Nat → Int32) (r : Option (((Nat → Int32) × Int32) ⊕ (Int32 × Int32 × (Nat → Int32)))) (t : Nat) : Prop := ∃ E', r = some (.inr (0, nI t, E')) ∨ (r = some (.inr (1, nI t, E')) ∧ ¬ fX7_isWithin (atL L B t) 48 57 = 0)
theorem fig_ne {L t a : Nat} {B : Nat → Int32} (h : ¬ fX7_isWithin (atL L B t) 48 57 = 0) (ha : a < 48) : atL L B t ≠ nI a := by
  obtain ⟨-, d, hd, ed⟩ := fig_of h
  rw [ed]
  intro z
  have := (nI_eq (by omega) (by omega)).mp z
  omega
theorem col_both {L c C : Nat} {B T : Nat → Int32} (hX : TX L B T) (hc : c < 3) (hC : C ≤ 3) : ∀ n s cnt E E2, L ≤ s + n → s ≤ L → cnt + (L - s) < 150 → (∀ k, k < 21 → E k = E2 k) →
    (∃ (t : Nat) (E2' : Nat → Int32), s ≤ t ∧ t ≤ L ∧ Lp (fun (z : Int32 × (Nat → Int32) × Int32) => fX8_takesRow_s58 (nI L) T (nI c) z.1 z.2.1 z.2.2) ((1 : Int32), E2, nI s) = some (.inr (.inr (.inr ((0 : Int32), nI t, E2')))) ∧ badRow L B (Lp (fun (z : Int32 × Int32 × (Nat → Int32) × Int32) => fX4_readRow_s28 (nI L) (nI C) B z.1 z.2.1 z.2.2.1 z.2.2.2) (nI c, nI cnt, E, nI s)) t) ∨
    (∃ (t : Nat) (E' E2' : Nat → Int32) (cnt' : Nat), s < t ∧ t ≤ L ∧ spn L B t = t ∧ (∀ k, k < 21 → E' k = E2' k) ∧ cnt' + (L - t) < 150 ∧ Lp (fun (z : Int32 × (Nat → Int32) × Int32) => fX8_takesRow_s58 (nI L) T (nI c) z.1 z.2.1 z.2.2) ((1 : Int32), E2, nI s) = some (.inl (E2', nI t)) ∧
      Lp (fun (z : Int32 × Int32 × (Nat → Int32) × Int32) => fX4_readRow_s28 (nI L) (nI C) B z.1 z.2.1 z.2.2.1 z.2.2.2) (nI c, nI cnt, E, nI s) = (if c + 1 < C then (if atL L B t = 44 then Lp (fun (z : Int32 × Int32 × (Nat → Int32) × Int32) => fX4_readRow_s28 (nI L) (nI C) B z.1 z.2.1 z.2.2.1 z.2.2.2) (nI (c + 1), nI (cnt' + 1), E', nI (t + 1)) else some (.inr ((0 : Int32), nI t, E'))) else some (.inr ((1 : Int32), nI t, E')))) := by
  have hL := hX.1
  intro n
  induction n with
  | zero =>
    intro s cnt E E2 hn hs hcnt hE
    have e : s = L := by omega
    obtain ⟨t, ok, E', E2', h1, h2, h3, h4⟩ := term_both (E := E) (E2 := E2) hX hc hs hE
    have e2 : t = L := by omega
    rcases h4 with h4 | h4
    · omega
    · rcases h4.2 with h5 | h5
      · left
        refine ⟨t, E2', h1, h2, Lp_end ?_, E', Or.inl (Lp_end ?_)⟩
        · dsimp only
          unfold fX8_takesRow_s58
          rw [if_neg (by decide), bd3_t h4.1, if_pos rfl]
        · dsimp only
          unfold fX4_readRow_s28
          rw [if_neg (show ¬ (150 : Int32) ≤ nI cnt from (nI_ge (by omega) (by omega) : ¬ nI 150 ≤ nI cnt)), bd3_t h3, if_pos h5]
      · exfalso
        have := (fig_of h5.2).1
        omega
  | succ n ih =>
    intro s cnt E E2 hn hs hcnt hE
    have h150 : ¬ (150 : Int32) ≤ nI cnt := (nI_ge (by omega) (by omega) : ¬ nI 150 ≤ nI cnt)
    obtain ⟨t, ok, E', E2', h1, h2, h3, h4⟩ := term_both (E := E) (E2 := E2) hX hc hs hE
    rcases h4 with ⟨h4, h5, h6, h7⟩ | h4
    · subst h4
      have ht2 := spn_spec B h2
      by_cases hp : atL L B (spn L B t) = 43
      · have hlt : spn L B t < L := at_lt (a := 43) (by omega) hp
        have e1 : nI (spn L B t) + (1 : Int32) = nI (spn L B t + 1) := nI_add _ 1
        have l1 : Lp (fun (z : Int32 × (Nat → Int32) × Int32) => fX8_takesRow_s58 (nI L) T (nI c) z.1 z.2.1 z.2.2) ((1 : Int32), E2, nI s) = Lp (fun (z : Int32 × (Nat → Int32) × Int32) => fX8_takesRow_s58 (nI L) T (nI c) z.1 z.2.1 z.2.2) ((1 : Int32), E2', nI (spn L B t + 1)) := Lp_go (s := ((1 : Int32), E2, nI s)) (t := ((1 : Int32), E2', nI (spn L B t + 1))) (by
          dsimp only
          unfold fX8_takesRow_s58
          rw [if_neg (by decide), bd3_t h5, if_neg (by decide), bd2_t (X8here hX h2), if_pos hp, bd_t rfl, if_neg (by decide), e1])
        have l2 : Lp (fun (z : Int32 × Int32 × (Nat → Int32) × Int32) => fX4_readRow_s28 (nI L) (nI C) B z.1 z.2.1 z.2.2.1 z.2.2.2) (nI c, nI cnt, E, nI s) = Lp (fun (z : Int32 × Int32 × (Nat → Int32) × Int32) => fX4_readRow_s28 (nI L) (nI C) B z.1 z.2.1 z.2.2.1 z.2.2.2) (nI c, nI (cnt + 1), E', nI (spn L B t + 1)) := Lp_go (s := (nI c, nI cnt, E, nI s)) (t := (nI c, nI (cnt + 1), E', nI (spn L B t + 1))) (by
          dsimp only
          unfold fX4_readRow_s28
          rw [if_neg h150, bd3_t h3, if_neg (by decide), X4accept 43 hL h2, if_pos hp, bd2_t rfl, if_neg (by decide), show nI cnt + 1 = nI (cnt + 1) from nI_add cnt 1])
        rw [l1, l2]
        rcases ih (spn L B t + 1) (cnt + 1) E' E2' (by omega) (by omega) (by omega) h7 with ⟨t', E2'', g1, g2, g3, g4⟩ | ⟨t', E3', E2'', cnt', g1, g2, g3, g4, g5, g6, g7⟩
        · exact Or.inl ⟨t', E2'', by omega, g2, g3, g4⟩
        · exact Or.inr ⟨t', E3', E2'', cnt', by omega, g2, g3, g4, g5, g6, g7⟩
      · right
        have hid : spn L B (spn L B t) = spn L B t := spn_id ht2.2.2
        refine ⟨spn L B t, E', E2', cnt, by omega, ht2.2.1, hid, h7, by omega, ?_, ?_⟩
        · rw [Lp_go (s := ((1 : Int32), E2, nI s)) (t := ((0 : Int32), E2', nI (spn L B t))) (by
            dsimp only
            unfold fX8_takesRow_s58
            rw [if_neg (by decide), bd3_t h5, if_neg (by decide), bd2_t (X8here hX h2), if_neg hp, bd_t rfl, if_pos rfl, show nI (spn L B t) + (0 : Int32) = nI (spn L B t) from nI_add _ 0])]
          exact Lp_end (by
            dsimp only
            unfold fX8_takesRow_s58
            rw [if_pos rfl])
        · have hstep : fX4_readRow_s28 (nI L) (nI C) B (nI c) (nI cnt) E (nI s) = (if (nI c + 1) < nI C then (bd2 (fX4_accept (nI L) (nI (spn L B t)) B (44 : Int32)) (fun (r_25 : Int32) (u_26 : Int32) => if r_25 = 0 then (some (.inr (.inr ((0 : Int32), u_26, E')))) else (some (.inl ((nI c + 1), (nI cnt + 1), E', u_26))))) else (some (.inr (.inr ((1 : Int32), nI (spn L B t), E'))))) := by
            unfold fX4_readRow_s28
            rw [if_neg h150, bd3_t h3, if_neg (by decide), X4accept 43 hL h2, if_neg hp, bd2_t rfl, if_pos rfl]
          rw [show nI c + 1 = nI (c + 1) from nI_add c 1, show nI cnt + 1 = nI (cnt + 1) from nI_add cnt 1, X4accept 44 hL ht2.2.1, hid] at hstep
          by_cases hcc : c + 1 < C
          · rw [if_pos (nI_lt hcc (by omega))] at hstep
            rw [if_pos hcc]
            by_cases h44 : atL L B (spn L B t) = 44
            · rw [if_pos h44, bd2_t rfl, if_neg (by decide)] at hstep
              rw [if_pos h44]
              exact Lp_go (s := (nI c, nI cnt, E, nI s)) (t := (nI (c + 1), nI (cnt + 1), E', nI (spn L B t + 1))) hstep
            · rw [if_neg h44, bd2_t rfl, if_pos rfl] at hstep
              rw [if_neg h44]
              exact Lp_end hstep
          · rw [if_neg (nI_nlt (by omega) (by omega))] at hstep
            rw [if_neg hcc]
            exact Lp_end hstep
    · left
      refine ⟨t, E2', h1, h2, Lp_end ?_, E', ?_⟩
      · dsimp only
        unfold fX8_takesRow_s58
        rw [if_neg (by decide), bd3_t h4.1, if_pos rfl]
      · rcases h4.2 with h5 | ⟨h5, h6⟩
        · left
          refine Lp_end ?_
          dsimp only
          unfold fX4_readRow_s28
          rw [if_neg h150, bd3_t h3, if_pos h5]
        · subst h5
          have hsp : spn L B t = t := spn_id (fig_ne (a := 32) h6 (by omega))
          have hstep : fX4_readRow_s28 (nI L) (nI C) B (nI c) (nI cnt) E (nI s) = (if (nI c + 1) < nI C then (bd2 (fX4_accept (nI L) (nI t) B (44 : Int32)) (fun (r_25 : Int32) (u_26 : Int32) => if r_25 = 0 then (some (.inr (.inr ((0 : Int32), u_26, E')))) else (some (.inl ((nI c + 1), (nI cnt + 1), E', u_26))))) else (some (.inr (.inr ((1 : Int32), nI t, E'))))) := by
            unfold fX4_readRow_s28
            rw [if_neg h150, bd3_t h3, if_neg (by decide), X4accept 43 hL h2, hsp, if_neg (show ¬ atL L B t = 43 from fig_ne (a := 43) h6 (by omega)), bd2_t rfl, if_pos rfl]
          rw [X4accept 44 hL h2, hsp, if_neg (show ¬ atL L B t = 44 from fig_ne (a := 44) h6 (by omega)), bd2_t rfl, if_pos rfl] at hstep
          by_cases hcc : nI c + 1 < nI C
          · rw [if_pos hcc] at hstep
            exact Or.inl (Lp_end hstep)
          · rw [if_neg hcc] at hstep
            exact Or.inr ⟨Lp_end hstep, h6⟩
