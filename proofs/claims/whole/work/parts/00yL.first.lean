/-! the first order; the whole text -/
theorem order_run {R : Type} {L : Nat} {B T base x54 past : Nat → Int32} {states : Int32} {g : S12 → Option (S12 ⊕ (S12 ⊕ R))} {mk : (Nat → Int32) → Int32 → Int32 → Int32 → (Nat → Int32) → (Nat → Int32) → R} {FF : (Nat → Int32) → Int32 → Int32 → Int32 → (Nat → Int32) → (Nat → Int32) → Option (S12 ⊕ (S12 ⊕ R))} (hX : TX L B T) (h1 : HG1 L B g FF) (h2 : HG2 L B g) (hF : HF base mk FF) {s C cnt t C' : Nat} (hs : s ≤ L) (hc150 : cnt < 150) (hlt : spn L B s < L) (k5 : isL (atL L B (spn L B s))) (k6 : ∀ D E N E2, okOrd L C s B T D E N E2 t C') : ∀ D E idx l cols count num pp all E3 N3 wk wo, stRel pp cols count num all → ∃ D' E' N' E3' pp' cols' count' num',
            (∃ all', Lp g ((0 : Int32), idx, nI cnt, D, E, l, nI s, nI C, cols, count, num, pp) = Lp g ((0 : Int32), idx, nI (cnt + 1), D', E', atL L B (spn L B s), nI t, nI C', cols', count', num', pp') ∧ Lp (fun (z : Int32 × (Nat → Int32) × (Nat → Int32) × (Nat → Int32) × Int32 × Int32 × Int32 × Int32) => fX8_reads_s95 states (nI L) past T x54 z.1 z.2.1 z.2.2.1 z.2.2.2.1 z.2.2.2.2.1 z.2.2.2.2.2.1 z.2.2.2.2.2.2.1 z.2.2.2.2.2.2.2) (nI cnt, all, E3, N3, nI C, nI s, wk, wo) = Lp (fun (z : Int32 × (Nat → Int32) × (Nat → Int32) × (Nat → Int32) × Int32 × Int32 × Int32 × Int32) => fX8_reads_s95 states (nI L) past T x54 z.1 z.2.1 z.2.2.1 z.2.2.2.1 z.2.2.2.2.1 z.2.2.2.2.2.1 z.2.2.2.2.2.2.1 z.2.2.2.2.2.2.2) (nI (cnt + 1), all', E3', N', nI C', nI t, wk, wo) ∧ stRel pp' cols' count' num' all') ∨
            (∃ e u83 u84, (e = -2 ∨ e = -3 ∨ e = -4) ∧ Lp g ((0 : Int32), idx, nI cnt, D, E, l, nI s, nI C, cols, count, num, pp) = Lp g (e, nI cnt, nI (cnt + 1), D', E', atL L B (spn L B s), nI t, nI C', cols', count', num', pp') ∧ Lp (fun (z : Int32 × (Nat → Int32) × (Nat → Int32) × (Nat → Int32) × Int32 × Int32 × Int32 × Int32) => fX8_reads_s95 states (nI L) past T x54 z.1 z.2.1 z.2.2.1 z.2.2.2.1 z.2.2.2.2.1 z.2.2.2.2.2.1 z.2.2.2.2.2.2.1 z.2.2.2.2.2.2.2) (nI cnt, all, E3, N3, nI C, nI s, wk, wo) = some (.inr ((-1000 : Int32) - nI cnt, states, -e, nI cnt, nI t, nI C', u83, past, N', E3', u84)) ∧ ∀ k, k < 108 → u83 k = x54 k) := by
  have hL := hX.1
  have hat : ¬ atL L B (spn L B s) = -1 := by
    obtain ⟨c, c1, c2⟩ := (tx_at hX hlt).2.2
    rw [c2]
    intro z
    exact nI_pos (show c < 2 ^ 31 by omega) (by rw [z]; decide)
  have ecnt : nI cnt + 1 = nI (cnt + 1) := nI_add cnt 1
  intro D E idx l cols count num pp all E3 N3 wk wo hst
  obtain ⟨D', E', N', E3', qa, q, q2⟩ := k6 D E N3 E3
  obtain ⟨r, pp', cols', count', num', c1, c2⟩ := carry_both hst k5 qa
  have q3 := (q2 wk wo all (nI cnt)).2
  have hg := h1 0 idx cnt D E l s C cols count num pp hc150 hs (Or.inr hlt)
  unfold stepK at hg
  rw [bd6_t q, if_neg (by decide), if_pos rfl, c1, bd5_t rfl, bd5_t rfl, ecnt] at hg
  refine ⟨D', E', N', E3', pp', cols', count', num', ?_⟩
  rcases c2 with ⟨c2, c3⟩ | ⟨c2, c3, A, c4, c5⟩
  · right
    rw [if_neg (isErr_y c2)] at hg
    rw [c3, bd_t rfl, if_neg (by rcases c2 with e | e | e <;> subst e <;> decide)] at q3
    obtain ⟨u83, u84, w1, w2, -⟩ := X8swaps all x54
    refine ⟨r, u83, u84, c2, Lp_go hg, Lp_end ?_, w2⟩
    dsimp only
    unfold fX8_reads_s95
    rw [bd2_t (X8here hX hs), if_neg hat, ro_spn hX hs, bd8_t q3, if_pos rfl, bd2_t w1]
  · left
    rw [if_pos c2] at hg
    rw [c3, bd_t rfl, if_pos (by decide), bd_t c4] at q3
    refine ⟨A, Lp_go hg, Lp_go (s := (nI cnt, all, E3, N3, nI C, nI s, wk, wo)) (t := (nI (cnt + 1), A, E3', N', nI C', nI t, wk, wo)) ?_, c5⟩
    dsimp only
    unfold fX8_reads_s95
    rw [bd2_t (X8here hX hs), if_neg hat, ro_spn hX hs, bd8_t q3, if_neg (by decide), ecnt]
theorem first_both {R : Type} {L : Nat} {B T base x54 past : Nat → Int32} {states : Int32} {g : S12 → Option (S12 ⊕ (S12 ⊕ R))} {mk : (Nat → Int32) → Int32 → Int32 → Int32 → (Nat → Int32) → (Nat → Int32) → R} {FF : (Nat → Int32) → Int32 → Int32 → Int32 → (Nat → Int32) → (Nat → Int32) → Option (S12 ⊕ (S12 ⊕ R))} (hX : TX L B T) (h1 : HG1 L B g FF) (h2 : HG2 L B g) (hF : HF base mk FF) {C : Nat} (hC1 : 1 ≤ C) (hC : C ≤ 3) :
    (∃ t : Nat, t ≤ L ∧ (∀ D E idx l cols count num pp all, stRel pp cols count num all → ∃ num' l' rc D' E', Lp g ((0 : Int32), idx, (0 : Int32), D, E, l, (0 : Int32), nI C, cols, count, num, pp) = some (.inr (mk num' (nI t) l' rc D' E')) ∧ ∀ k, k < 105 → num' k = base k) ∧ (∀ all E2 N wk wo, ∃ r4 u7 u8 u9 u10 u11 N' E2' rc, fX8_readsOrder wk wo (nI L) (0 : Int32) (nI C) all T N E2 (0 : Int32) (0 : Int32) = some (r4, wk, wo, u7, u8, u9, u10, u11) ∧ Lp (fun (z : Int32 × (Nat → Int32) × (Nat → Int32) × (Nat → Int32) × Int32 × Int32 × Int32 × Int32) => fX8_reads_s20 (nI L) T z.1 z.2.1 z.2.2.1 z.2.2.2.1 z.2.2.2.2.1 z.2.2.2.2.2.1 z.2.2.2.2.2.2.1 z.2.2.2.2.2.2.2) (r4, u9, u11, u10, u8, u7, wk, wo) = some ((0 : Int32), all, E2', N', rc, nI t, wk, wo))) ∨
    (∃ n : Nat, n ≤ 150 ∧ (∀ all E2 N wk wo, ∃ r4 u7 u8 u9 u10 u11 N' E2' rc sp, fX8_readsOrder wk wo (nI L) (0 : Int32) (nI C) all T N E2 (0 : Int32) (0 : Int32) = some (r4, wk, wo, u7, u8, u9, u10, u11) ∧ Lp (fun (z : Int32 × (Nat → Int32) × (Nat → Int32) × (Nat → Int32) × Int32 × Int32 × Int32 × Int32) => fX8_reads_s20 (nI L) T z.1 z.2.1 z.2.2.1 z.2.2.2.1 z.2.2.2.2.1 z.2.2.2.2.2.1 z.2.2.2.2.2.2.1 z.2.2.2.2.2.2.2) (r4, u9, u11, u10, u8, u7, wk, wo) = some ((1 : Int32), all, E2', N', rc, sp, wk, wo)) ∧
      (∀ D E idx l cols count num pp all E3 N3 wk wo, stRel pp cols count num all → ∃ D' E' l' pl rc N' E3' rc2 sp,
        (∃ cols' count' num' pp' all', Lp g ((0 : Int32), idx, (0 : Int32), D, E, l, (0 : Int32), nI C, cols, count, num, pp) = some (.inl ((0 : Int32), idx, nI n, D', E', l', pl, rc, cols', count', num', pp')) ∧ Lp (fun (z : Int32 × (Nat → Int32) × (Nat → Int32) × (Nat → Int32) × Int32 × Int32 × Int32 × Int32) => fX8_reads_s95 states (nI L) past T x54 z.1 z.2.1 z.2.2.1 z.2.2.2.1 z.2.2.2.2.1 z.2.2.2.2.2.1 z.2.2.2.2.2.2.1 z.2.2.2.2.2.2.2) ((0 : Int32), all, E3, N3, nI C, (0 : Int32), wk, wo) = some (.inl (nI n, all', E3', N', rc2, sp, wk, wo)) ∧ stRel pp' cols' count' num' all') ∨
        (∃ e i cols' count' num' pp' u83 u84, (e = -2 ∨ e = -3 ∨ e = -4) ∧ Lp g ((0 : Int32), idx, (0 : Int32), D, E, l, (0 : Int32), nI C, cols, count, num, pp) = some (.inl (e, i, nI n, D', E', l', pl, rc, cols', count', num', pp')) ∧ Lp (fun (z : Int32 × (Nat → Int32) × (Nat → Int32) × (Nat → Int32) × Int32 × Int32 × Int32 × Int32) => fX8_reads_s95 states (nI L) past T x54 z.1 z.2.1 z.2.2.1 z.2.2.2.1 z.2.2.2.2.1 z.2.2.2.2.2.1 z.2.2.2.2.2.2.1 z.2.2.2.2.2.2.2) ((0 : Int32), all, E3, N3, nI C, (0 : Int32), wk, wo) = some (.inr ((-1000 : Int32) - i, states, -e, i, sp, rc2, u83, past, N', E3', u84)) ∧ ∀ k, k < 108 → u83 k = x54 k))) := by
  have hL := hX.1
  have h00 : (0 : Int32) = nI 0 := rfl
  rcases order_both hX hC1 hC (Nat.zero_le L) with ⟨t, C', k1, k2, k3, k4, k5, k6⟩ | ⟨t, k1, k2⟩
  · have hlt : spn L B 0 < L := by
      rcases k5 with e | e | e | e | e | e
      · exact at_lt (a := 112) (by omega) e
      · exact at_lt (a := 99) (by omega) e
      · exact at_lt (a := 114) (by omega) e
      · exact at_lt (a := 120) (by omega) e
      · exact at_lt (a := 115) (by omega) e
      · exact at_lt (a := 109) (by omega) e
    have pr := order_run (states := states) (past := past) (x54 := x54) hX h1 h2 hF (Nat.zero_le L) (show 0 < 150 by omega) hlt k5 k6
    rcases loop_both (states := states) (past := past) (x54 := x54) hX h1 h2 hF (L - t) t C' 1 (by omega) k2 k3 k4 (by omega) (by omega) with ⟨t', i1, i2, i3⟩ | ⟨n, i1, i2, i3, i4, i5⟩
    · left
      refine ⟨t', i1, fun D E idx l cols count num pp all hst => ?_, fun all E2 N wk wo => ?_⟩
      · obtain ⟨D', E', N', E3', pp', cols', count', num', q⟩ := pr D E idx l cols count num pp all (fun _ => 0) (fun _ => 0) 0 0 hst
        rcases q with ⟨all', q1, q2, q3⟩ | ⟨e, u83, u84, q0, q1, q2, q3⟩
        · obtain ⟨a1, a2, a3, a4, a5, a6⟩ := i2 D' E' 0 idx (atL L B (spn L B 0)) cols' count' num' pp' (Or.inr ⟨all', q3⟩)
          exact ⟨a1, a2, a3, a4, a5, q1.trans a6.1, a6.2⟩
        · obtain ⟨a1, a2, a3, a4, a5, a6⟩ := i2 D' E' e (nI 0) (atL L B (spn L B 0)) cols' count' num' pp' (Or.inl (by rcases q0 with z | z | z <;> subst z <;> decide))
          exact ⟨a1, a2, a3, a4, a5, q1.trans a6.1, a6.2⟩
      · obtain ⟨D', E', N', E2', -, -, q⟩ := k6 (fun _ => 0) (fun _ => 0) N E2
        obtain ⟨a1, a2, a3, a4⟩ := i3 all E2' N' wk wo
        exact ⟨_, _, _, _, _, _, a1, a2, a3, (q wk wo all 0).1, a4⟩
    · right
      refine ⟨n, i2, fun all E2 N wk wo => ?_, fun D E idx l cols count num pp all E3 N3 wk wo hst => ?_⟩
      · obtain ⟨D', E', N', E2', -, -, q⟩ := k6 (fun _ => 0) (fun _ => 0) N E2
        obtain ⟨a1, a2, a3, a4, a5⟩ := i3 all E2' N' wk wo
        exact ⟨_, _, _, _, _, _, a1, a2, a3, a4, (q wk wo all 0).1, a5⟩
      · obtain ⟨D', E', N', E3', pp', cols', count', num', q⟩ := pr D E idx l cols count num pp all E3 N3 wk wo hst
        rcases q with ⟨all', q1, q2, q3⟩ | ⟨e, u83, u84, q0, q1, q2, q3⟩
        · obtain ⟨b1, b2, b3, b4, b5, b6, b7, b8, b9, b⟩ := i5 D' E' idx (atL L B (spn L B 0)) cols' count' num' pp' all' E3' N' wk wo q3
          refine ⟨b1, b2, b3, b4, b5, b6, b7, b8, b9, ?_⟩
          rcases b with ⟨c1, c2, c3, c4, c5, c6, c7, c8⟩ | ⟨c1, c2, c3, c4, c5, c6, c7, c8, d1, d2, d3, d4⟩
          · exact Or.inl ⟨c1, c2, c3, c4, c5, q1.trans c6, q2.trans c7, c8⟩
          · exact Or.inr ⟨c1, c2, c3, c4, c5, c6, c7, c8, d1, q1.trans d2, q2.trans d3, d4⟩
        · obtain ⟨D2, E4, l2, pl, rc, w⟩ := i4 D' E' e (nI 0) (atL L B (spn L B 0)) cols' count' num' pp' (by rcases q0 with z | z | z <;> subst z <;> decide)
          exact ⟨D2, E4, l2, pl, rc, N', E3', nI C', nI t, Or.inr ⟨e, nI 0, cols', count', num', pp', u83, u84, q0, q1.trans w, q2, q3⟩⟩
  · left
    refine ⟨t, k1, fun D E idx l cols count num pp all hst => ?_, fun all E2 N wk wo => ?_⟩
    · obtain ⟨l', rc, D', E', -, -, -, q, -⟩ := k2 D E (fun _ => 0) (fun _ => 0)
      obtain ⟨num', f1, f2⟩ := hF num (nI t) l' rc D' E'
      refine ⟨num', l', rc, D', E', Lp_end ((h1 0 idx 0 D E l 0 C cols count num pp (by omega) (Nat.zero_le L) (Or.inl rfl)).trans ?_), f2⟩
      unfold stepK
      rw [bd6_t q, if_pos rfl]
      exact f1
    · obtain ⟨-, -, -, -, rc2, N', E2', -, q⟩ := k2 (fun _ => 0) (fun _ => 0) N E2
      exact ⟨_, _, _, _, _, _, N', E2', rc2, q wk wo all 0, Lp_end (by
        dsimp only
        unfold fX8_reads_s20
        rw [if_pos rfl])⟩
