/-! one order of the text, whatever lies in the readers' own arrays -/
theorem isLetter_y {a : Int32} (h : isL a) : fX8_isLetter a = some 1 := by
  rcases h with e | e | e | e | e | e <;> subst e <;> rfl
theorem isLetter_n {a : Int32} (h : ¬ isL a) : fX8_isLetter a = some 0 := by
  unfold fX8_isLetter
  rw [if_neg (fun e => h (Or.inl e)), if_neg (fun e => h (Or.inr (Or.inl e))), if_neg (fun e => h (Or.inr (Or.inr (Or.inl e)))), if_neg (fun e => h (Or.inr (Or.inr (Or.inr (Or.inl e))))), if_neg (fun e => h (Or.inr (Or.inr (Or.inr (Or.inr (Or.inl e)))))), if_neg (fun e => h (Or.inr (Or.inr (Or.inr (Or.inr (Or.inr e))))))]
  rfl
def okOrd (L C s : Nat) (B T D E N E2 : Nat → Int32) (t C' : Nat) : Prop := ∃ D' E' N' E2', agr (atL L B (spn L B s)) D' E' N' E2' ∧ fX4_readCommand (nI L) (nI s) (nI C) B D E = some (1, nI t, atL L B (spn L B s), nI C', D', E') ∧ ∀ wk wo all o, fX8_readsOrder wk wo (nI L) (nI s) (nI C) all T N E2 o 0 = some (1, wk, wo, nI t, nI C', all, N', E2') ∧ fX8_readsOrder wk wo (nI L) (nI s) (nI C) all T N E2 o 1 = bd (fX8_can all N' (atL L B (spn L B s))) (fun (r : Int32) => if 0 ≤ r then bd (fX8_does all N' E2' (atL L B (spn L B s))) (fun (u : Nat → Int32) => some (1, wk, wo, nI t, nI C', u, N', E2')) else some (0, -r, o, nI t, nI C', all, N', E2'))
def noOrd (L C s : Nat) (B T D E N E2 : Nat → Int32) (t : Nat) : Prop := ∃ l rc D' E' rc2 N' E2', fX4_readCommand (nI L) (nI s) (nI C) B D E = some (0, nI t, l, rc, D', E') ∧ ∀ wk wo all o, fX8_readsOrder wk wo (nI L) (nI s) (nI C) all T N E2 o 0 = some (0, wk, wo, nI t, rc2, all, N', E2')
theorem order_one {L C s : Nat} {B T : Nat → Int32} (D E N E2 : Nat → Int32) (hX : TX L B T) (hC1 : 1 ≤ C) (hC : C ≤ 3) (hs : s ≤ L) :
    (∃ t C' : Nat, s < t ∧ t ≤ L ∧ 1 ≤ C' ∧ C' ≤ 3 ∧ isL (atL L B (spn L B s)) ∧ okOrd L C s B T D E N E2 t C') ∨ (∃ t : Nat, t ≤ L ∧ noOrd L C s B T D E N E2 t) := by
  have hL := hX.1
  have hs2 := spn_spec B hs
  by_cases hl : isL (atL L B (spn L B s))
  · have e1 : nI (spn L B s) + (1 : Int32) = nI (spn L B s + 1) := nI_add _ 1
    rcases read_both (D := D) (E := E) (N := N) (E2 := E2) hX hC1 hC hs hl with ⟨t1, C', D', E', N', E2', h1, h2, h3, h4, h5, h6, h7⟩ | ⟨t1, rc, rc2, D', E', N', E2', h1, h2, h3⟩
    · have ht := spn_spec B h2
      by_cases h59 : atL L B (spn L B t1) = 59
      · left
        have hlt : spn L B t1 < L := at_lt (a := 59) (by omega) h59
        rw [if_pos h59] at h5
        refine ⟨spn L B t1 + 1, C', by omega, by omega, h3, h4, hl, D', E', N', E2', h7, h5, fun wk wo all o => ⟨?_, ?_⟩⟩
        · unfold fX8_readsOrder
          rw [bd2_t (X8here hX hs), bd_t (isLetter_y hl), if_neg (by decide), e1, bd5_t h6, if_neg (by decide), bd2_t (X8here hX h2), if_pos h59, if_pos rfl, show nI (spn L B t1) + (1 : Int32) = nI (spn L B t1 + 1) from nI_add _ 1]
        · unfold fX8_readsOrder
          rw [bd2_t (X8here hX hs), bd_t (isLetter_y hl), if_neg (by decide), e1, bd5_t h6, if_neg (by decide), bd2_t (X8here hX h2), if_pos h59, if_neg (by decide), show nI (spn L B t1) + (1 : Int32) = nI (spn L B t1 + 1) from nI_add _ 1]
      · right
        rw [if_neg h59] at h5
        refine ⟨spn L B t1, ht.2.1, _, _, D', E', nI C', N', E2', h5, fun wk wo all o => ?_⟩
        unfold fX8_readsOrder
        rw [bd2_t (X8here hX hs), bd_t (isLetter_y hl), if_neg (by decide), e1, bd5_t h6, if_neg (by decide), bd2_t (X8here hX h2), if_neg h59]
    · right
      refine ⟨t1, h1, _, _, D', E', rc2, N', E2', h2, fun wk wo all o => ?_⟩
      unfold fX8_readsOrder
      rw [bd2_t (X8here hX hs), bd_t (isLetter_y hl), if_neg (by decide), e1, bd5_t h3, if_pos rfl]
  · right
    refine ⟨spn L B s, hs2.2.1, atL L B (spn L B s), nI C, D, E, nI C, N, E2, ?_, fun wk wo all o => ?_⟩
    · unfold fX4_readCommand
      rw [bd_t (X4skipBlanks hL hs), bd_t (X4byteHere hL (by omega)), if_neg (fun e => hl (Or.inr (Or.inl e))), if_neg (fun e => hl (Or.inr (Or.inr (Or.inr (Or.inr (Or.inr e)))))), if_neg (fun e => hl (Or.inl e)), if_neg (fun e => hl (Or.inr (Or.inr (Or.inl e)))), if_neg (fun e => hl (Or.inr (Or.inr (Or.inr (Or.inr (Or.inl e)))))), if_neg (fun e => hl (Or.inr (Or.inr (Or.inr (Or.inl e)))))]
    · unfold fX8_readsOrder
      rw [bd2_t (X8here hX hs), bd_t (isLetter_n hl), if_pos rfl]
theorem order_det {L C s t t2 C' C2 : Nat} {B T D E N E2 D2 E3 N2 E4 : Nat → Int32} (ht : t < 1000) (ht2 : t2 < 1000) (hC : C' < 1000) (hC2 : C2 < 1000) (h : okOrd L C s B T D E N E2 t C') (h2 : okOrd L C s B T D2 E3 N2 E4 t2 C2) (hsame : (D = D2 ∧ E = E3) ∨ (N = N2 ∧ E2 = E4)) : t = t2 ∧ C' = C2 := by
  obtain ⟨d1, d2, d3, d4, -, a1, a2⟩ := h
  obtain ⟨f1, f2, f3, f4, -, b1, b2⟩ := h2
  rcases hsame with ⟨e1, e2⟩ | ⟨e1, e2⟩
  · subst e1 e2
    rw [a1] at b1
    have := Option.some.inj b1
    simp only [Prod.mk.injEq] at this
    exact ⟨(nI_eq (by omega) (by omega)).mp this.2.1, (nI_eq (by omega) (by omega)).mp this.2.2.2.1⟩
  · subst e1 e2
    have b3 := (b2 0 0 (fun _ => 0) 0).1
    rw [(a2 0 0 (fun _ => 0) 0).1] at b3
    have := Option.some.inj b3
    simp only [Prod.mk.injEq] at this
    exact ⟨(nI_eq (by omega) (by omega)).mp this.2.2.2.1, (nI_eq (by omega) (by omega)).mp this.2.2.2.2.1⟩
theorem order_nd {L C s t t2 : Nat} {B T D E N E2 D2 E3 N2 E4 : Nat → Int32} (ht : t < 1000) (ht2 : t2 < 1000) (h : noOrd L C s B T D E N E2 t) (h2 : noOrd L C s B T D2 E3 N2 E4 t2) (hsame : (D = D2 ∧ E = E3) ∨ (N = N2 ∧ E2 = E4)) : t = t2 := by
  obtain ⟨c1, c2, d1, d2, c3, d3, d4, a1, a2⟩ := h
  obtain ⟨g1, g2, f1, f2, g3, f3, f4, b1, b2⟩ := h2
  rcases hsame with ⟨e1, e2⟩ | ⟨e1, e2⟩
  · subst e1 e2
    rw [a1] at b1
    have := Option.some.inj b1
    simp only [Prod.mk.injEq] at this
    exact (nI_eq (by omega) (by omega)).mp this.2.1
  · subst e1 e2
    have b3 := b2 0 0 (fun _ => 0) 0
    rw [a2 0 0 (fun _ => 0) 0] at b3
    have := Option.some.inj b3
    simp only [Prod.mk.injEq] at this
    exact (nI_eq (by omega) (by omega)).mp this.2.2.2.1
theorem order_no {L C s t t2 C' : Nat} {B T D E N E2 D2 E3 N2 E4 : Nat → Int32} (h : okOrd L C s B T D E N E2 t C') (h2 : noOrd L C s B T D2 E3 N2 E4 t2) (hsame : (D = D2 ∧ E = E3) ∨ (N = N2 ∧ E2 = E4)) : False := by
  obtain ⟨d1, d2, d3, d4, -, a1, a2⟩ := h
  obtain ⟨g1, g2, f1, f2, g3, f3, f4, b1, b2⟩ := h2
  rcases hsame with ⟨e1, e2⟩ | ⟨e1, e2⟩
  · subst e1 e2
    rw [a1] at b1
    have := Option.some.inj b1
    simp only [Prod.mk.injEq] at this
    exact absurd this.1 (by decide)
  · subst e1 e2
    have b3 := b2 0 0 (fun _ => 0) 0
    rw [(a2 0 0 (fun _ => 0) 0).1] at b3
    have := Option.some.inj b3
    simp only [Prod.mk.injEq] at this
    exact absurd this.1 (by decide)
theorem order_both {L C s : Nat} {B T : Nat → Int32} (hX : TX L B T) (hC1 : 1 ≤ C) (hC : C ≤ 3) (hs : s ≤ L) :
    (∃ t C' : Nat, s < t ∧ t ≤ L ∧ 1 ≤ C' ∧ C' ≤ 3 ∧ isL (atL L B (spn L B s)) ∧ ∀ D E N E2, okOrd L C s B T D E N E2 t C') ∨ (∃ t : Nat, t ≤ L ∧ ∀ D E N E2, noOrd L C s B T D E N E2 t) := by
  have hL := hX.1
  rcases order_one (fun _ => 0) (fun _ => 0) (fun _ => 0) (fun _ => 0) hX hC1 hC hs with ⟨t, C', h1, h2, h3, h4, h5, h6⟩ | ⟨t, h1, h2⟩
  · left
    refine ⟨t, C', h1, h2, h3, h4, h5, fun D E N E2 => ?_⟩
    rcases order_one D E (fun _ => 0) (fun _ => 0) hX hC1 hC hs with ⟨t', C'', g1, g2, g3, g4, g5, g6⟩ | ⟨t', g1, g2⟩
    · obtain ⟨q1, q2⟩ := order_det (by omega) (by omega) (by omega) (by omega) h6 g6 (Or.inr ⟨rfl, rfl⟩)
      subst q1 q2
      rcases order_one D E N E2 hX hC1 hC hs with ⟨t'', C3, k1, k2, k3, k4, k5, k6⟩ | ⟨t'', k1, k2⟩
      · obtain ⟨q1, q2⟩ := order_det (by omega) (by omega) (by omega) (by omega) g6 k6 (Or.inl ⟨rfl, rfl⟩)
        subst q1 q2
        exact k6
      · exact (order_no g6 k2 (Or.inl ⟨rfl, rfl⟩)).elim
    · exact (order_no h6 g2 (Or.inr ⟨rfl, rfl⟩)).elim
  · right
    refine ⟨t, h1, fun D E N E2 => ?_⟩
    rcases order_one D E (fun _ => 0) (fun _ => 0) hX hC1 hC hs with ⟨t', C'', g1, g2, g3, g4, g5, g6⟩ | ⟨t', g1, g2⟩
    · exact (order_no g6 h2 (Or.inr ⟨rfl, rfl⟩)).elim
    · have q1 := order_nd (by omega) (by omega) h2 g2 (Or.inr ⟨rfl, rfl⟩)
      subst q1
      rcases order_one D E N E2 hX hC1 hC hs with ⟨t'', C3, k1, k2, k3, k4, k5, k6⟩ | ⟨t'', k1, k2⟩
      · exact (order_no k6 g2 (Or.inl ⟨rfl, rfl⟩)).elim
      · have q2 := order_nd (by omega) (by omega) g2 k2 (Or.inl ⟨rfl, rfl⟩)
        subst q2
        exact k2
