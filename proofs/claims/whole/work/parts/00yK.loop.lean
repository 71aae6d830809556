/-! the text from its first order to its last -/
abbrev S12 : Type := Int32 × Int32 × Int32 × (Nat → Int32) × (Nat → Int32) × Int32 × Int32 × Int32 × Int32 × Int32 × (Nat → Int32) × Int32
noncomputable def stepK {R : Type} (FF : (Nat → Int32) → Int32 → Int32 → Int32 → (Nat → Int32) → (Nat → Int32) → Option (S12 ⊕ (S12 ⊕ R))) (err idx cnt cols count : Int32) (num : Nat → Int32) (pp : Int32) (cmd : Option (Int32 × Int32 × Int32 × Int32 × (Nat → Int32) × (Nat → Int32))) : Option (S12 ⊕ (S12 ⊕ R)) :=
  bd6 cmd (fun (r_25 : Int32) (u_26 : Int32) (u_27 : Int32) (u_28 : Int32) (u_29 : Nat → Int32) (u_30 : Nat → Int32) => if r_25 = 0 then FF num u_26 u_27 u_28 u_29 u_30 else (bd5 (if err = 0 then (bd5 (fX7_carryOut pp cols count num u_27 u_29 u_30) (fun (r_36 : Int32) (u_37 : Int32) (u_38 : Int32) (u_39 : Int32) (u_40 : Nat → Int32) => some (r_36, u_38, u_39, u_40, u_37))) else (some ((0 : Int32), cols, count, num, pp))) (fun (j_43 : Int32) (j_44 : Int32) (j_45 : Int32) (j_46 : Nat → Int32) (j_47 : Int32) => if (fX7_isError j_43) = 0 then (some (.inl (err, idx, (cnt + 1), u_29, u_30, u_27, u_26, u_28, j_44, j_45, j_46, j_47))) else (some (.inl (j_43, cnt, (cnt + 1), u_29, u_30, u_27, u_26, u_28, j_44, j_45, j_46, j_47))))))
def HG1 {R : Type} (L : Nat) (B : Nat → Int32) (g : S12 → Option (S12 ⊕ (S12 ⊕ R))) (FF : (Nat → Int32) → Int32 → Int32 → Int32 → (Nat → Int32) → (Nat → Int32) → Option (S12 ⊕ (S12 ⊕ R))) : Prop := ∀ (err idx : Int32) (cnt : Nat) (D E : Nat → Int32) (l : Int32) (s C : Nat) (cols count : Int32) (num : Nat → Int32) (pp : Int32), cnt < 150 → s ≤ L → (cnt = 0 ∨ spn L B s < L) → g (err, idx, nI cnt, D, E, l, nI s, nI C, cols, count, num, pp) = stepK FF err idx (nI cnt) cols count num pp (fX4_readCommand (nI L) (nI s) (nI C) B D E)
def HG2 {R : Type} (L : Nat) (B : Nat → Int32) (g : S12 → Option (S12 ⊕ (S12 ⊕ R))) : Prop := ∀ (err idx : Int32) (cnt : Nat) (D E : Nat → Int32) (l : Int32) (s C : Nat) (cols count : Int32) (num : Nat → Int32) (pp : Int32), 0 < cnt → cnt ≤ s → s ≤ L → spn L B s = L → g (err, idx, nI cnt, D, E, l, nI s, nI C, cols, count, num, pp) = some (.inr (.inl (err, idx, nI cnt, D, E, l, nI L, nI C, cols, count, num, pp)))
def HF {R : Type} (base : Nat → Int32) (mk : (Nat → Int32) → Int32 → Int32 → Int32 → (Nat → Int32) → (Nat → Int32) → R) (FF : (Nat → Int32) → Int32 → Int32 → Int32 → (Nat → Int32) → (Nat → Int32) → Option (S12 ⊕ (S12 ⊕ R))) : Prop := ∀ num t l rc D E, ∃ num', FF num t l rc D E = some (.inr (.inr (mk num' t l rc D E))) ∧ ∀ k, k < 105 → num' k = base k
theorem ro_spn {L s : Nat} {B T : Nat → Int32} (hX : TX L B T) (hs : s ≤ L) (wk wo rc : Int32) (all N E2 : Nat → Int32) (o a1 : Int32) : fX8_readsOrder wk wo (nI L) (nI (spn L B s)) rc all T N E2 o a1 = fX8_readsOrder wk wo (nI L) (nI s) rc all T N E2 o a1 := by
  have hs2 := spn_spec B hs
  unfold fX8_readsOrder
  rw [bd2_t (X8here hX hs), bd2_t (X8here hX hs2.2.1), spn_id hs2.2.2]
theorem X8swaps (x y : Nat → Int32) : ∃ x' y', fX8_swaps x y = some (x', y') ∧ (∀ k, k < 108 → x' k = y k) ∧ ∀ k, k < 108 → y' k = x k := by
  obtain ⟨r, h1, h2⟩ := Lp_up (g := fun (z : Int32 × (Nat → Int32) × (Nat → Int32)) => fX8_swaps_s2 z.1 z.2.1 z.2.2) (fun i (s : (Nat → Int32) × (Nat → Int32)) => (i, s.1, s.2)) 108 (fun j s => (∀ k, k < j → s.1 k = y k ∧ s.2 k = x k) ∧ ∀ k, j ≤ k → s.1 k = x k ∧ s.2 k = y k) (fun (r : (Nat → Int32) × (Nat → Int32)) => ∀ k, k < 108 → r.1 k = y k ∧ r.2 k = x k)
    (by
      rintro j ⟨s1, s2⟩ hj ⟨a1, a2⟩
      refine Or.inl ⟨(upd s1 j (s2 j), upd s2 j (s1 j)), ?_, fun k hk => ?_, fun k hk => ?_⟩
      · dsimp only
        unfold fX8_swaps_s2
        have v := vp_in_nI (n := j) (N := 108) hj (by omega)
        rw [if_neg (show ¬ (108 : Int32) ≤ nI j from (nI_ge hj (by omega) : ¬ nI 108 ≤ nI j)), gd_t v, gd_t v, gd_t v, gd_t v, nI_clamp (by omega)]
      · dsimp only
        by_cases e : k = j
        · subst e
          rw [pk_us, pk_us]
          exact ⟨(a2 k (Nat.le_refl _)).2, (a2 k (Nat.le_refl _)).1⟩
        · rw [pk_un e, pk_un e]
          exact a1 k (by omega)
      · dsimp only
        rw [pk_un (by omega), pk_un (by omega)]
        exact a2 k (by omega))
    (by
      rintro ⟨s1, s2⟩ ⟨a1, -⟩
      refine ⟨(s1, s2), ?_, a1⟩
      dsimp only
      unfold fX8_swaps_s2
      rw [if_pos (show (108 : Int32) ≤ nI 108 from (nI_le (Nat.le_refl 108) (by omega) : nI 108 ≤ nI 108))])
    0 (x, y) (by omega) ⟨fun k hk => absurd hk (by omega), fun k _ => ⟨rfl, rfl⟩⟩
  refine ⟨r.1, r.2, ?_, fun k hk => (h2 k hk).1, fun k hk => (h2 k hk).2⟩
  unfold fX8_swaps
  exact bd2_t h1
theorem isErr_y {r : Int32} (h : r = -2 ∨ r = -3 ∨ r = -4) : ¬ fX7_isError r = 0 := by
  rcases h with e | e | e <;> subst e <;> decide
theorem loop_both {R : Type} {L : Nat} {B T base x54 past : Nat → Int32} {states : Int32} {g : S12 → Option (S12 ⊕ (S12 ⊕ R))} {mk : (Nat → Int32) → Int32 → Int32 → Int32 → (Nat → Int32) → (Nat → Int32) → R} {FF : (Nat → Int32) → Int32 → Int32 → Int32 → (Nat → Int32) → (Nat → Int32) → Option (S12 ⊕ (S12 ⊕ R))} (hX : TX L B T) (h1 : HG1 L B g FF) (h2 : HG2 L B g) (hF : HF base mk FF) : ∀ m s C cnt, L ≤ s + m → s ≤ L → 1 ≤ C → C ≤ 3 → 1 ≤ cnt → cnt ≤ s →
    (∃ t : Nat, t ≤ L ∧ (∀ D E err idx l cols count num pp, (¬ err = 0 ∨ ∃ all, stRel pp cols count num all) → ∃ num' l' rc D' E', Lp g (err, idx, nI cnt, D, E, l, nI s, nI C, cols, count, num, pp) = some (.inr (mk num' (nI t) l' rc D' E')) ∧ ∀ k, k < 105 → num' k = base k) ∧ (∀ all E2 N wk wo, ∃ N' E2' rc, Lp (fun (z : Int32 × (Nat → Int32) × (Nat → Int32) × (Nat → Int32) × Int32 × Int32 × Int32 × Int32) => fX8_reads_s20 (nI L) T z.1 z.2.1 z.2.2.1 z.2.2.2.1 z.2.2.2.2.1 z.2.2.2.2.2.1 z.2.2.2.2.2.2.1 z.2.2.2.2.2.2.2) ((1 : Int32), all, E2, N, nI C, nI s, wk, wo) = some ((0 : Int32), all, E2', N', rc, nI t, wk, wo))) ∨
    (∃ n : Nat, cnt ≤ n ∧ n ≤ 150 ∧ (∀ all E2 N wk wo, ∃ N' E2' rc sp, Lp (fun (z : Int32 × (Nat → Int32) × (Nat → Int32) × (Nat → Int32) × Int32 × Int32 × Int32 × Int32) => fX8_reads_s20 (nI L) T z.1 z.2.1 z.2.2.1 z.2.2.2.1 z.2.2.2.2.1 z.2.2.2.2.2.1 z.2.2.2.2.2.2.1 z.2.2.2.2.2.2.2) ((1 : Int32), all, E2, N, nI C, nI s, wk, wo) = some ((1 : Int32), all, E2', N', rc, sp, wk, wo)) ∧
      (∀ D E err idx l cols count num pp, ¬ err = 0 → ∃ D' E' l' pl rc, Lp g (err, idx, nI cnt, D, E, l, nI s, nI C, cols, count, num, pp) = some (.inl (err, idx, nI n, D', E', l', pl, rc, cols, count, num, pp))) ∧
      (∀ D E idx l cols count num pp all E3 N3 wk wo, stRel pp cols count num all → ∃ D' E' l' pl rc N' E3' rc2 sp,
        (∃ cols' count' num' pp' all', Lp g ((0 : Int32), idx, nI cnt, D, E, l, nI s, nI C, cols, count, num, pp) = some (.inl ((0 : Int32), idx, nI n, D', E', l', pl, rc, cols', count', num', pp')) ∧ Lp (fun (z : Int32 × (Nat → Int32) × (Nat → Int32) × (Nat → Int32) × Int32 × Int32 × Int32 × Int32) => fX8_reads_s95 states (nI L) past T x54 z.1 z.2.1 z.2.2.1 z.2.2.2.1 z.2.2.2.2.1 z.2.2.2.2.2.1 z.2.2.2.2.2.2.1 z.2.2.2.2.2.2.2) (nI cnt, all, E3, N3, nI C, nI s, wk, wo) = some (.inl (nI n, all', E3', N', rc2, sp, wk, wo)) ∧ stRel pp' cols' count' num' all') ∨
        (∃ e i cols' count' num' pp' u83 u84, (e = -2 ∨ e = -3 ∨ e = -4) ∧ Lp g ((0 : Int32), idx, nI cnt, D, E, l, nI s, nI C, cols, count, num, pp) = some (.inl (e, i, nI n, D', E', l', pl, rc, cols', count', num', pp')) ∧ Lp (fun (z : Int32 × (Nat → Int32) × (Nat → Int32) × (Nat → Int32) × Int32 × Int32 × Int32 × Int32) => fX8_reads_s95 states (nI L) past T x54 z.1 z.2.1 z.2.2.1 z.2.2.2.1 z.2.2.2.2.1 z.2.2.2.2.2.1 z.2.2.2.2.2.2.1 z.2.2.2.2.2.2.2) (nI cnt, all, E3, N3, nI C, nI s, wk, wo) = some (.inr ((-1000 : Int32) - i, states, -e, i, sp, rc2, u83, past, N', E3', u84)) ∧ ∀ k, k < 108 → u83 k = x54 k))) := by
  have hL := hX.1
  intro m
  induction m with
  | zero =>
    intro s C cnt hm hs hC1 hC hc1 hcs
    right
    have hsp : spn L B s = L := by have := spn_spec B hs; omega
    have hat : atL L B (spn L B s) = -1 := by rw [hsp]; exact if_neg (by omega)
    refine ⟨cnt, Nat.le_refl _, by omega, fun all E2 N wk wo => ⟨N, E2, nI C, nI (spn L B s), Lp_end ?_⟩, fun D E err idx l cols count num pp _ => ⟨D, E, l, nI L, nI C, Lp_end (h2 _ _ _ _ _ _ _ _ _ _ _ _ hc1 hcs hs hsp)⟩, fun D E idx l cols count num pp all E3 N3 wk wo hst => ⟨D, E, l, nI L, nI C, N3, E3, nI C, nI (spn L B s), Or.inl ⟨cols, count, num, pp, all, Lp_end (h2 _ _ _ _ _ _ _ _ _ _ _ _ hc1 hcs hs hsp), Lp_end ?_, hst⟩⟩⟩
    · dsimp only
      unfold fX8_reads_s20
      rw [if_neg (by decide), bd2_t (X8here hX hs), if_pos hat]
    · dsimp only
      unfold fX8_reads_s95
      rw [bd2_t (X8here hX hs), if_pos hat]
  | succ m ih =>
    intro s C cnt hm hs hC1 hC hc1 hcs
    have hs2 := spn_spec B hs
    by_cases hsp : spn L B s = L
    · right
      have hat : atL L B (spn L B s) = -1 := by rw [hsp]; exact if_neg (by omega)
      refine ⟨cnt, Nat.le_refl _, by omega, fun all E2 N wk wo => ⟨N, E2, nI C, nI (spn L B s), Lp_end ?_⟩, fun D E err idx l cols count num pp _ => ⟨D, E, l, nI L, nI C, Lp_end (h2 _ _ _ _ _ _ _ _ _ _ _ _ hc1 hcs hs hsp)⟩, fun D E idx l cols count num pp all E3 N3 wk wo hst => ⟨D, E, l, nI L, nI C, N3, E3, nI C, nI (spn L B s), Or.inl ⟨cols, count, num, pp, all, Lp_end (h2 _ _ _ _ _ _ _ _ _ _ _ _ hc1 hcs hs hsp), Lp_end ?_, hst⟩⟩⟩
      · dsimp only
        unfold fX8_reads_s20
        rw [if_neg (by decide), bd2_t (X8here hX hs), if_pos hat]
      · dsimp only
        unfold fX8_reads_s95
        rw [bd2_t (X8here hX hs), if_pos hat]
    · have hlt : spn L B s < L := by omega
      have hat : ¬ atL L B (spn L B s) = -1 := by
        obtain ⟨c, c1, c2⟩ := (tx_at hX hlt).2.2
        rw [c2]
        intro z
        exact nI_pos (show c < 2 ^ 31 by omega) (by rw [z]; decide)
      have hc150 : cnt < 150 := by omega
      have ecnt : nI cnt + 1 = nI (cnt + 1) := nI_add cnt 1
      rcases order_both hX hC1 hC hs with ⟨t, C', k1, k2, k3, k4, k5, k6⟩ | ⟨t, k1, k2⟩
      · -- the order is read
        have p1 : ∀ all E2 N wk wo, ∃ N' E2', Lp (fun (z : Int32 × (Nat → Int32) × (Nat → Int32) × (Nat → Int32) × Int32 × Int32 × Int32 × Int32) => fX8_reads_s20 (nI L) T z.1 z.2.1 z.2.2.1 z.2.2.2.1 z.2.2.2.2.1 z.2.2.2.2.2.1 z.2.2.2.2.2.2.1 z.2.2.2.2.2.2.2) ((1 : Int32), all, E2, N, nI C, nI s, wk, wo) = Lp (fun (z : Int32 × (Nat → Int32) × (Nat → Int32) × (Nat → Int32) × Int32 × Int32 × Int32 × Int32) => fX8_reads_s20 (nI L) T z.1 z.2.1 z.2.2.1 z.2.2.2.1 z.2.2.2.2.1 z.2.2.2.2.2.1 z.2.2.2.2.2.2.1 z.2.2.2.2.2.2.2) ((1 : Int32), all, E2', N', nI C', nI t, wk, wo) := by
          intro all E2 N wk wo
          obtain ⟨D', E', N', E2', -, -, q⟩ := k6 (fun _ => 0) (fun _ => 0) N E2
          refine ⟨N', E2', Lp_go (s := ((1 : Int32), all, E2, N, nI C, nI s, wk, wo)) (t := ((1 : Int32), all, E2', N', nI C', nI t, wk, wo)) ?_⟩
          dsimp only
          unfold fX8_reads_s20
          rw [if_neg (by decide), bd2_t (X8here hX hs), if_neg hat, ro_spn hX hs, bd8_t (q wk wo all 0).1]
        have pe : ∀ D E err idx l cols count num pp, ¬ err = 0 → ∃ D' E', Lp g (err, idx, nI cnt, D, E, l, nI s, nI C, cols, count, num, pp) = Lp g (err, idx, nI (cnt + 1), D', E', atL L B (spn L B s), nI t, nI C', cols, count, num, pp) := by
          intro D E err idx l cols count num pp herr
          obtain ⟨D', E', N', E2', -, q, -⟩ := k6 D E (fun _ => 0) (fun _ => 0)
          refine ⟨D', E', Lp_go ((h1 err idx cnt D E l s C cols count num pp hc150 hs (Or.inr hlt)).trans ?_)⟩
          unfold stepK
          rw [bd6_t q, if_neg (by decide), if_neg herr, bd5_t rfl, if_pos (show fX7_isError 0 = 0 by decide), ecnt]
        have pr : ∀ D E idx l cols count num pp all E3 N3 wk wo, stRel pp cols count num all → ∃ D' E' N' E3' pp' cols' count' num',
            (∃ all', Lp g ((0 : Int32), idx, nI cnt, D, E, l, nI s, nI C, cols, count, num, pp) = Lp g ((0 : Int32), idx, nI (cnt + 1), D', E', atL L B (spn L B s), nI t, nI C', cols', count', num', pp') ∧ Lp (fun (z : Int32 × (Nat → Int32) × (Nat → Int32) × (Nat → Int32) × Int32 × Int32 × Int32 × Int32) => fX8_reads_s95 states (nI L) past T x54 z.1 z.2.1 z.2.2.1 z.2.2.2.1 z.2.2.2.2.1 z.2.2.2.2.2.1 z.2.2.2.2.2.2.1 z.2.2.2.2.2.2.2) (nI cnt, all, E3, N3, nI C, nI s, wk, wo) = Lp (fun (z : Int32 × (Nat → Int32) × (Nat → Int32) × (Nat → Int32) × Int32 × Int32 × Int32 × Int32) => fX8_reads_s95 states (nI L) past T x54 z.1 z.2.1 z.2.2.1 z.2.2.2.1 z.2.2.2.2.1 z.2.2.2.2.2.1 z.2.2.2.2.2.2.1 z.2.2.2.2.2.2.2) (nI (cnt + 1), all', E3', N', nI C', nI t, wk, wo) ∧ stRel pp' cols' count' num' all') ∨
            (∃ e u83 u84, (e = -2 ∨ e = -3 ∨ e = -4) ∧ Lp g ((0 : Int32), idx, nI cnt, D, E, l, nI s, nI C, cols, count, num, pp) = Lp g (e, nI cnt, nI (cnt + 1), D', E', atL L B (spn L B s), nI t, nI C', cols', count', num', pp') ∧ Lp (fun (z : Int32 × (Nat → Int32) × (Nat → Int32) × (Nat → Int32) × Int32 × Int32 × Int32 × Int32) => fX8_reads_s95 states (nI L) past T x54 z.1 z.2.1 z.2.2.1 z.2.2.2.1 z.2.2.2.2.1 z.2.2.2.2.2.1 z.2.2.2.2.2.2.1 z.2.2.2.2.2.2.2) (nI cnt, all, E3, N3, nI C, nI s, wk, wo) = some (.inr ((-1000 : Int32) - nI cnt, states, -e, nI cnt, nI t, nI C', u83, past, N', E3', u84)) ∧ ∀ k, k < 108 → u83 k = x54 k) := by
          intro D E idx l cols count num pp all E3 N3 wk wo hst
          obtain ⟨D', E', N', E3', qa, q, q2⟩ := k6 D E N3 E3
          obtain ⟨r, pp', cols', count', num', c1, c2⟩ := carry_both hst k5 qa
          have q3 := (q2 wk wo all (nI cnt)).2
          have hg := h1 0 idx cnt D E l s C cols count num pp hc150 hs (Or.inr hlt)
          unfold stepK at hg
          rw [bd6_t q, if_neg (by decide), if_pos rfl, c1, bd5_t rfl, bd5_t rfl, ecnt] at hg
          refine ⟨D', E', N', E3', pp', cols', count', num', ?_⟩
          rcases c2 with ⟨c2, c3⟩ | ⟨c2, c3, A, c4, c5⟩
          · right
            rw [if_neg (isErr_y c2)] at hg
            rw [c3, bd_t rfl, if_neg (by rcases c2 with e | e | e <;> subst e <;> decide)] at q3
            obtain ⟨u83, u84, w1, w2, -⟩ := X8swaps all x54
            refine ⟨r, u83, u84, c2, Lp_go hg, Lp_end ?_, w2⟩
            dsimp only
            unfold fX8_reads_s95
            rw [bd2_t (X8here hX hs), if_neg hat, ro_spn hX hs, bd8_t q3, if_pos rfl, bd2_t w1]
          · left
            rw [if_pos c2] at hg
            rw [c3, bd_t rfl, if_pos (by decide), bd_t c4] at q3
            refine ⟨A, Lp_go hg, Lp_go (s := (nI cnt, all, E3, N3, nI C, nI s, wk, wo)) (t := (nI (cnt + 1), A, E3', N', nI C', nI t, wk, wo)) ?_, c5⟩
            dsimp only
            unfold fX8_reads_s95
            rw [bd2_t (X8here hX hs), if_neg hat, ro_spn hX hs, bd8_t q3, if_neg (by decide), ecnt]
        rcases ih t C' (cnt + 1) (by omega) k2 k3 k4 (by omega) (by omega) with ⟨t', i1, i2, i3⟩ | ⟨n, i1, i2, i3, i4, i5⟩
        · left
          refine ⟨t', i1, fun D E err idx l cols count num pp hok => ?_, fun all E2 N wk wo => ?_⟩
          · by_cases herr : err = 0
            · subst herr
              obtain ⟨all, hst⟩ : ∃ all, stRel pp cols count num all := hok.resolve_left (fun z => z rfl)
              obtain ⟨D', E', N', E3', pp', cols', count', num', q⟩ := pr D E idx l cols count num pp all (fun _ => 0) (fun _ => 0) 0 0 hst
              rcases q with ⟨all', q1, q2, q3⟩ | ⟨e, u83, u84, q0, q1, q2, q3⟩
              · rw [q1]
                exact i2 _ _ _ _ _ _ _ _ _ (Or.inr ⟨all', q3⟩)
              · rw [q1]
                exact i2 _ _ _ _ _ _ _ _ _ (Or.inl (by rcases q0 with z | z | z <;> subst z <;> decide))
            · obtain ⟨D', E', q⟩ := pe D E err idx l cols count num pp herr
              rw [q]
              exact i2 _ _ _ _ _ _ _ _ _ (Or.inl herr)
          · obtain ⟨N', E2', q⟩ := p1 all E2 N wk wo
            rw [q]
            exact i3 _ _ _ _ _
        · right
          refine ⟨n, by omega, i2, fun all E2 N wk wo => ?_, fun D E err idx l cols count num pp herr => ?_, fun D E idx l cols count num pp all E3 N3 wk wo hst => ?_⟩
          · obtain ⟨N', E2', q⟩ := p1 all E2 N wk wo
            rw [q]
            exact i3 _ _ _ _ _
          · obtain ⟨D', E', q⟩ := pe D E err idx l cols count num pp herr
            rw [q]
            exact i4 _ _ _ _ _ _ _ _ _ herr
          · obtain ⟨D', E', N', E3', pp', cols', count', num', q⟩ := pr D E idx l cols count num pp all E3 N3 wk wo hst
            rcases q with ⟨all', q1, q2, q3⟩ | ⟨e, u83, u84, q0, q1, q2, q3⟩
            · rw [q1, q2]
              exact i5 _ _ _ _ _ _ _ _ _ _ _ _ _ q3
            · rw [q1, q2]
              obtain ⟨D2, E4, l2, pl, rc, w⟩ := i4 D' E' e (nI cnt) (atL L B (spn L B s)) cols' count' num' pp' (by rcases q0 with z | z | z <;> subst z <;> decide)
              exact ⟨D2, E4, l2, pl, rc, N', E3', nI C', nI t, Or.inr ⟨e, nI cnt, cols', count', num', pp', u83, u84, q0, w, rfl, q3⟩⟩
      · -- the order has a fault
        left
        refine ⟨t, k1, fun D E err idx l cols count num pp _ => ?_, fun all E2 N wk wo => ?_⟩
        · obtain ⟨l', rc, D', E', -, -, -, q, -⟩ := k2 D E (fun _ => 0) (fun _ => 0)
          obtain ⟨num', f1, f2⟩ := hF num (nI t) l' rc D' E'
          refine ⟨num', l', rc, D', E', Lp_end ((h1 err idx cnt D E l s C cols count num pp hc150 hs (Or.inr hlt)).trans ?_), f2⟩
          unfold stepK
          rw [bd6_t q, if_pos rfl]
          exact f1
        · obtain ⟨-, -, -, -, rc2, N', E2', -, q⟩ := k2 (fun _ => 0) (fun _ => 0) N E2
          refine ⟨N', E2', rc2, ?_⟩
          have l1 : Lp (fun (z : Int32 × (Nat → Int32) × (Nat → Int32) × (Nat → Int32) × Int32 × Int32 × Int32 × Int32) => fX8_reads_s20 (nI L) T z.1 z.2.1 z.2.2.1 z.2.2.2.1 z.2.2.2.2.1 z.2.2.2.2.2.1 z.2.2.2.2.2.2.1 z.2.2.2.2.2.2.2) ((1 : Int32), all, E2, N, nI C, nI s, wk, wo) = Lp (fun (z : Int32 × (Nat → Int32) × (Nat → Int32) × (Nat → Int32) × Int32 × Int32 × Int32 × Int32) => fX8_reads_s20 (nI L) T z.1 z.2.1 z.2.2.1 z.2.2.2.1 z.2.2.2.2.1 z.2.2.2.2.2.1 z.2.2.2.2.2.2.1 z.2.2.2.2.2.2.2) ((0 : Int32), all, E2', N', rc2, nI t, wk, wo) := Lp_go (s := ((1 : Int32), all, E2, N, nI C, nI s, wk, wo)) (t := ((0 : Int32), all, E2', N', rc2, nI t, wk, wo)) (by
            dsimp only
            unfold fX8_reads_s20
            rw [if_neg (by decide), bd2_t (X8here hX hs), if_neg hat, ro_spn hX hs, bd8_t (q wk wo all 0)])
          rw [l1]
          exact Lp_end (by
            dsimp only
            unfold fX8_reads_s20
            rw [if_pos rfl])
