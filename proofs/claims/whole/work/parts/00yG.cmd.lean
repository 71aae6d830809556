/-! the text's commands: both readers alike -/
theorem row_both {L C : Nat} {B T : Nat → Int32} (hX : TX L B T) (hC : C ≤ 3) : ∀ m c s cnt E E2 (σ : Int32 × (Nat → Int32) × Int32), c + (m + 1) = C → s ≤ L → cnt + (L - s) < 150 → (∀ k, k < 21 → E k = E2 k) →
    fX8_takesRow_s23 (nI L) (nI C) T σ.1 σ.2.1 σ.2.2 = bx2 (Lp (fun (z : Int32 × (Nat → Int32) × Int32) => fX8_takesRow_s58 (nI L) T (nI c) z.1 z.2.1 z.2.2) ((1 : Int32), E2, nI s)) (fun x y => some (.inl ((nI c + 1), x, y))) →
    ∃ t : Nat, s ≤ t ∧ t ≤ L ∧ ((∃ E2', Lp (fun (z : Int32 × (Nat → Int32) × Int32) => fX8_takesRow_s23 (nI L) (nI C) T z.1 z.2.1 z.2.2) σ = some (.inr ((0 : Int32), nI t, E2')) ∧ badRow L B (Lp (fun (z : Int32 × Int32 × (Nat → Int32) × Int32) => fX4_readRow_s28 (nI L) (nI C) B z.1 z.2.1 z.2.2.1 z.2.2.2) (nI c, nI cnt, E, nI s)) t) ∨
      ∃ E' E2', s < t ∧ Lp (fun (z : Int32 × (Nat → Int32) × Int32) => fX8_takesRow_s23 (nI L) (nI C) T z.1 z.2.1 z.2.2) σ = some (.inl (E2', nI t)) ∧ Lp (fun (z : Int32 × Int32 × (Nat → Int32) × Int32) => fX4_readRow_s28 (nI L) (nI C) B z.1 z.2.1 z.2.2.1 z.2.2.2) (nI c, nI cnt, E, nI s) = some (.inr ((1 : Int32), nI t, E')) ∧ ∀ k, k < 21 → E' k = E2' k) := by
  have hL := hX.1
  intro m
  induction m with
  | zero =>
    intro c s cnt E E2 σ hc hs hcnt hE hst
    rcases col_both (c := c) (C := C) hX (by omega) hC (L - s) s cnt E E2 (by omega) hs hcnt hE with ⟨t, E2', h1, h2, h3, h4⟩ | ⟨t, E', E2', cnt', h1, h2, h3, h4, h5, h6, h7⟩
    · refine ⟨t, h1, h2, Or.inl ⟨E2', Lp_end (hst.trans ?_), h4⟩⟩
      rw [h3]; rfl
    · refine ⟨t, by omega, h2, Or.inr ⟨E', E2', h1, ?_, ?_, h4⟩⟩
      · have l1 : Lp (fun (z : Int32 × (Nat → Int32) × Int32) => fX8_takesRow_s23 (nI L) (nI C) T z.1 z.2.1 z.2.2) σ = Lp (fun (z : Int32 × (Nat → Int32) × Int32) => fX8_takesRow_s23 (nI L) (nI C) T z.1 z.2.1 z.2.2) (nI (c + 1), E2', nI t) := Lp_go (s := σ) (t := (nI (c + 1), E2', nI t)) (hst.trans (by rw [h6, ← nI_add c 1]; rfl))
        rw [l1]
        exact Lp_end (by
          dsimp only
          unfold fX8_takesRow_s23
          rw [if_pos (nI_le (by omega) (by omega))])
      · rw [h7, if_neg (by omega)]
  | succ m ih =>
    intro c s cnt E E2 σ hc hs hcnt hE hst
    rcases col_both (c := c) (C := C) hX (by omega) hC (L - s) s cnt E E2 (by omega) hs hcnt hE with ⟨t, E2', h1, h2, h3, h4⟩ | ⟨t, E', E2', cnt', h1, h2, h3, h4, h5, h6, h7⟩
    · refine ⟨t, h1, h2, Or.inl ⟨E2', Lp_end (hst.trans ?_), h4⟩⟩
      rw [h3]; rfl
    · have l1 : Lp (fun (z : Int32 × (Nat → Int32) × Int32) => fX8_takesRow_s23 (nI L) (nI C) T z.1 z.2.1 z.2.2) σ = Lp (fun (z : Int32 × (Nat → Int32) × Int32) => fX8_takesRow_s23 (nI L) (nI C) T z.1 z.2.1 z.2.2) (nI (c + 1), E2', nI t) := Lp_go (s := σ) (t := (nI (c + 1), E2', nI t)) (hst.trans (by rw [h6, ← nI_add c 1]; rfl))
      have hnl : ¬ nI (c + 1) ≤ (0 : Int32) := by
        intro z
        rw [Int32.le_iff_toInt_le, nI_toInt (by omega), show (0 : Int32).toInt = 0 from rfl] at z
        omega
      rw [if_pos (by omega)] at h7
      by_cases h44 : atL L B t = 44
      · have htL : t < L := at_lt (a := 44) (by omega) h44
        rw [if_pos h44] at h7
        obtain ⟨t', g1, g2, g3⟩ := ih (c + 1) (t + 1) (cnt' + 1) E' E2' (nI (c + 1), E2', nI t) (by omega) (by omega) (by omega) h4 (by
          dsimp only
          unfold fX8_takesRow_s23
          rw [if_neg (nI_ge (by omega) (by omega)), if_neg hnl, bd2_t (X8here hX h2), h3, if_pos h44, show nI t + (1 : Int32) = nI (t + 1) from nI_add t 1]
          rfl)
        rw [l1, h7]
        refine ⟨t', by omega, g2, ?_⟩
        rcases g3 with g3 | ⟨E3, E4, g3, g4⟩
        · exact Or.inl g3
        · exact Or.inr ⟨E3, E4, by omega, g4⟩
      · rw [if_neg h44] at h7
        refine ⟨t, by omega, h2, Or.inl ⟨E2', ?_, E', Or.inl h7⟩⟩
        rw [l1]
        exact Lp_end (by
          dsimp only
          unfold fX8_takesRow_s23
          rw [if_neg (nI_ge (by omega) (by omega)), if_neg hnl, bd2_t (X8here hX h2), h3, if_neg h44])
theorem rowR_both {L C s : Nat} {B T E E2 : Nat → Int32} (hX : TX L B T) (hC1 : 1 ≤ C) (hC : C ≤ 3) (hs1 : 1 ≤ s) (hs : s ≤ L) : ∃ (t : Nat) (ok : Int32) (E' E2' : Nat → Int32), s ≤ t ∧ t ≤ L ∧ fX4_readRow (nI L) (nI s) (nI C) B E = some (ok, nI t, E') ∧ ((ok = 1 ∧ fX8_takesRow (nI L) (nI s) (nI C) T E2 = some (1, nI t, E2') ∧ s < t ∧ ∀ k, k < 21 → E' k = E2' k) ∨ (fX8_takesRow (nI L) (nI s) (nI C) T E2 = some (0, nI t, E2') ∧ (ok = 0 ∨ ok = 1 ∧ ¬ fX7_isWithin (atL L B t) 48 57 = 0))) := by
  have hL := hX.1
  have zero : ∀ X : Nat → Int32, ∃ X', Lp (fun (z : Int32 × (Nat → Int32)) => fX4_readRow_s2 z.1 z.2) ((0 : Int32), X) = some X' ∧ ∀ k, k < 21 → X' k = 0 := by
    intro X
    obtain ⟨r, f1, f2, -⟩ := Lp_arr (g := fun (z : Int32 × (Nat → Int32)) => fX4_readRow_s2 z.1 z.2) (a := 0) (N := 21) (A := X) (fun k => k) (fun _ => 0) (by omega) (fun i j _ h _ => by omega) (fun k s _ hk _ => by
      dsimp only
      unfold fX4_readRow_s2
      rw [if_neg (show ¬ (21 : Int32) ≤ nI k from (nI_ge hk (by omega) : ¬ nI 21 ≤ nI k)), gd_t (vp_in_nI (by omega) (by omega)), nI_clamp (by omega)]) (fun s _ => by
      dsimp only
      unfold fX4_readRow_s2
      rw [if_pos (show (21 : Int32) ≤ nI 21 from (nI_le (Nat.le_refl 21) (by omega) : nI 21 ≤ nI 21))])
    exact ⟨r, f1, fun k hk => f2 k (by omega) hk⟩
  obtain ⟨X1, f1, f2⟩ := zero E
  obtain ⟨X2, g1, g2⟩ := zero E2
  have g1' : Lp (fun (z : Int32 × (Nat → Int32)) => fX8_takesRow_s2 z.1 z.2) ((0 : Int32), E2) = some X2 := g1
  obtain ⟨t, h1, h2, h3⟩ := row_both hX hC (C - 1) 0 s 0 X1 X2 (0, X2, nI s) (by omega) hs (by omega) (fun k hk => by rw [f2 k hk, g2 k hk]) (by
    dsimp only
    unfold fX8_takesRow_s23
    rw [if_neg (show ¬ nI C ≤ (0 : Int32) from (nI_ge (by omega) (by omega) : ¬ nI C ≤ nI 0)), if_pos (by decide)]
    rfl)
  unfold fX4_readRow fX8_takesRow
  rw [bd_t f1, bd_t g1']
  rcases h3 with ⟨E2', h3, E', h4⟩ | ⟨E', E2', h3, h4, h5, h6⟩
  · rcases h4 with h4 | ⟨h4, h5⟩
    · exact ⟨t, 0, E', E2', h1, h2, by rw [show Lp (fun (z : Int32 × Int32 × (Nat → Int32) × Int32) => fX4_readRow_s28 (nI L) (nI C) B z.1 z.2.1 z.2.2.1 z.2.2.2) ((0 : Int32), (0 : Int32), X1, nI s) = _ from h4]; rfl, Or.inr ⟨by rw [h3]; rfl, Or.inl rfl⟩⟩
    · exact ⟨t, 1, E', E2', h1, h2, by rw [show Lp (fun (z : Int32 × Int32 × (Nat → Int32) × Int32) => fX4_readRow_s28 (nI L) (nI C) B z.1 z.2.1 z.2.2.1 z.2.2.2) ((0 : Int32), (0 : Int32), X1, nI s) = _ from h4]; rfl, Or.inr ⟨by rw [h3]; rfl, Or.inr ⟨rfl, h5⟩⟩⟩
  · exact ⟨t, 1, E', E2', h1, h2, by rw [show Lp (fun (z : Int32 × Int32 × (Nat → Int32) × Int32) => fX4_readRow_s28 (nI L) (nI C) B z.1 z.2.1 z.2.2.1 z.2.2.2) ((0 : Int32), (0 : Int32), X1, nI s) = _ from h5]; rfl, Or.inl ⟨rfl, by rw [h4]; rfl, h3, h6⟩⟩
theorem dig1 {L s : Nat} {B T N D E2 : Nat → Int32} {rc : Int32} (hX : TX L B T) (hs : s ≤ L) :
    (fX7_isWithin (atL L B (spn L B s)) 48 57 = 0 ∧ fX4_readDigits (nI L) (nI s) B D (1 : Int32) = some (0, nI (spn L B s), D) ∧ Lp (fun (z : Int32 × (Nat → Int32) × Int32) => fX8_takesRest_s25 (nI L) rc T E2 (1 : Int32) z.1 z.2.1 z.2.2) ((0 : Int32), N, nI s) = some (.inr ((0 : Int32), nI (spn L B s), rc, N, E2))) ∨
    (∃ d : Nat, d < 10 ∧ ¬ fX7_isWithin (atL L B (spn L B s)) 48 57 = 0 ∧ spn L B s < L ∧ atL L B (spn L B s) - 48 = nI d ∧ fX4_readDigits (nI L) (nI s) B D (1 : Int32) = some (1, nI (spn L B s + 1), upd D 0 (nI d)) ∧ Lp (fun (z : Int32 × (Nat → Int32) × Int32) => fX8_takesRest_s25 (nI L) rc T E2 (1 : Int32) z.1 z.2.1 z.2.2) ((0 : Int32), N, nI s) = some (.inl (upd N 0 (nI d), nI (spn L B s + 1)))) := by
  have hL := hX.1
  by_cases hf : fX7_isWithin (atL L B (spn L B s)) 48 57 = 0
  · refine Or.inl ⟨hf, ?_, Lp_end ?_⟩
    · unfold fX4_readDigits
      rw [Lp_end (g := fun (z : Int32 × (Nat → Int32) × Int32) => fX4_readDigits_s2 (nI L) B (1 : Int32) z.1 z.2.1 z.2.2) (s := ((0 : Int32), D, nI s)) (r := .inr ((0 : Int32), nI (spn L B s), D)) (by
        dsimp only
        unfold fX4_readDigits_s2
        rw [if_neg (by decide), if_neg (by decide), X4digitHere hL hs, if_pos hf]
        rfl)]
      rfl
    · dsimp only
      unfold fX8_takesRest_s25 fX8_takesFigure
      rw [if_neg (by decide), bd2_t (X8here hX hs), X8isFigure, if_pos hf]
      rfl
  · obtain ⟨ht, d, hd, ed⟩ := fig_of hf
    have e48 : nI (48 + d) - 48 = nI d := by
      rw [show (48 : Int32) = nI 48 from rfl, pk_sub (by omega), show 48 + d - 48 = d by omega]
    refine Or.inr ⟨d, hd, hf, ht, by rw [ed, e48], ?_, ?_⟩
    · unfold fX4_readDigits
      rw [Lp_go (g := fun (z : Int32 × (Nat → Int32) × Int32) => fX4_readDigits_s2 (nI L) B (1 : Int32) z.1 z.2.1 z.2.2) (s := ((0 : Int32), D, nI s)) (t := ((1 : Int32), upd D 0 (nI d), nI (spn L B s + 1))) (by
        dsimp only
        unfold fX4_readDigits_s2
        rw [if_neg (by decide), if_neg (by decide), X4digitHere hL hs, if_neg hf, ed, e48, bd2_t rfl, if_neg (fun z => nI_pos (show d < 2 ^ 31 by omega) (by rw [z]; decide)), gd_t (show vp_in (0 : Int32) 4 from (vp_in_nI (by omega) (by omega) : vp_in (nI 0) 4)), show nI (spn L B s) + (1 : Int32) = nI (spn L B s + 1) from nI_add _ 1]
        rfl), Lp_end (g := fun (z : Int32 × (Nat → Int32) × Int32) => fX4_readDigits_s2 (nI L) B (1 : Int32) z.1 z.2.1 z.2.2) (s := ((1 : Int32), upd D 0 (nI d), nI (spn L B s + 1))) (r := .inl (upd D 0 (nI d), nI (spn L B s + 1))) (by
        dsimp only
        unfold fX4_readDigits_s2
        rw [if_pos (by decide)])]
      rfl
    · rw [Lp_go (g := fun (z : Int32 × (Nat → Int32) × Int32) => fX8_takesRest_s25 (nI L) rc T E2 (1 : Int32) z.1 z.2.1 z.2.2) (s := ((0 : Int32), N, nI s)) (t := ((1 : Int32), upd N 0 (nI d), nI (spn L B s + 1))) (by
        dsimp only
        unfold fX8_takesRest_s25 fX8_takesFigure
        rw [if_neg (by decide), bd2_t (X8here hX hs), X8isFigure, if_neg hf, gd_t (show vp_in (0 : Int32) 4 from (vp_in_nI (by omega) (by omega) : vp_in (nI 0) 4)), ed, e48, show nI (spn L B s) + (1 : Int32) = nI (spn L B s + 1) from nI_add _ 1, bd3_t rfl, if_neg (by decide)]
        rfl)]
      exact Lp_end (by
        dsimp only
        unfold fX8_takesRest_s25
        rw [if_pos (by decide)])
