/-! one command: both readers alike -/
def agr (a : Int32) (D E N E2 : Nat → Int32) : Prop := (a = 114 → ∀ k, k < 21 → E k = E2 k) ∧ (a = 115 → ∀ k, k < 4 → ∃ d : Nat, d < 10 ∧ D k = nI d ∧ N k = nI d) ∧ (a ≠ 114 → ∃ d : Nat, d < 10 ∧ D 0 = nI d ∧ N 0 = nI d ∧ (a = 99 → 1 ≤ d ∧ d ≤ 3) ∧ (a = 112 → d = 2 ∨ d = 3 ∨ d = 5 ∨ d = 7))
def isL (a : Int32) : Prop := a = 112 ∨ a = 99 ∨ a = 114 ∨ a = 120 ∨ a = 115 ∨ a = 109
theorem bx2_t {α1 α2 β : Type} {o : Option ((α1 × α2) ⊕ β)} {K : α1 → α2 → Option β} {a1 : α1} {a2 : α2} (h : o = some (.inl (a1, a2))) : bx2 o K = K a1 a2 := by rw [h]; rfl
theorem v04 : vp_in (0 : Int32) 4 := (vp_in_nI (by omega) (by omega) : vp_in (nI 0) 4)
theorem prime_dec {d : Nat} (h : d < 10) : ((d = 2 ∨ d = 3 ∨ d = 5 ∨ d = 7) ∧ fX7_isPrime (nI d) = some 1 ∧ fX8_isPrime (nI d) = some 1) ∨ (fX7_isPrime (nI d) = some 0 ∧ fX8_isPrime (nI d) = some 0) := by
  rcases (show d = 0 ∨ d = 1 ∨ d = 2 ∨ d = 3 ∨ d = 4 ∨ d = 5 ∨ d = 6 ∨ d = 7 ∨ d = 8 ∨ d = 9 by omega) with e | e | e | e | e | e | e | e | e | e <;> subst e
  · exact Or.inr ⟨rfl, rfl⟩
  · exact Or.inr ⟨rfl, rfl⟩
  · exact Or.inl ⟨by omega, rfl, rfl⟩
  · exact Or.inl ⟨by omega, rfl, rfl⟩
  · exact Or.inr ⟨rfl, rfl⟩
  · exact Or.inl ⟨by omega, rfl, rfl⟩
  · exact Or.inr ⟨rfl, rfl⟩
  · exact Or.inl ⟨by omega, rfl, rfl⟩
  · exact Or.inr ⟨rfl, rfl⟩
  · exact Or.inr ⟨rfl, rfl⟩
theorem tail59 {L t : Nat} {B : Nat → Int32} (a rc : Int32) (D E : Nat → Int32) (hL : L ≤ 150) (ht : t ≤ L) : bd2 (fX4_accept (nI L) (nI t) B (59 : Int32)) (fun (r : Int32) (u : Int32) => if r = 0 then (some ((0 : Int32), u, a, rc, D, E)) else (some ((1 : Int32), u, a, rc, D, E))) = (if atL L B (spn L B t) = 59 then some ((1 : Int32), nI (spn L B t + 1), a, rc, D, E) else some ((0 : Int32), nI (spn L B t), a, rc, D, E)) := by
  rw [X4accept 59 hL ht]
  by_cases h : atL L B (spn L B t) = 59
  · rw [if_pos h, if_pos h, bd2_t rfl, if_neg (by decide)]
  · rw [if_neg h, if_neg h, bd2_t rfl, if_pos rfl]
theorem rest1 {L u : Nat} {B T N E2 : Nat → Int32} {a rc : Int32} (D : Nat → Int32) (hX : TX L B T) (hu : u ≤ L) (h1 : a ≠ 114) (h2 : a ≠ 115) :
    (fX7_isWithin (atL L B (spn L B u)) 48 57 = 0 ∧ fX4_readDigits (nI L) (nI u) B D (1 : Int32) = some (0, nI (spn L B u), D) ∧ fX8_takesRest (nI L) (nI u) rc T N E2 a = some (0, nI (spn L B u), rc, N, E2)) ∨
    (∃ d : Nat, d < 10 ∧ ¬ fX7_isWithin (atL L B (spn L B u)) 48 57 = 0 ∧ spn L B u < L ∧ atL L B (spn L B u) - 48 = nI d ∧ fX4_readDigits (nI L) (nI u) B D (1 : Int32) = some (1, nI (spn L B u + 1), upd D 0 (nI d)) ∧ fX8_takesRest (nI L) (nI u) rc T N E2 a = bd (if a = (112 : Int32) then (bd (fX8_isPrime (nI d)) (fun (r_23 : Int32) => some r_23)) else (if a = (99 : Int32) then (if fX7_isWithin (nI d) 1 3 = 0 then (some (0 : Int32)) else (some (1 : Int32))) else (some (1 : Int32)))) (fun (j_27 : Int32) => bd (if j_27 = 0 then (some (1 : Int32)) else (some (0 : Int32))) (fun (j_29 : Int32) => if a = (99 : Int32) then (if j_27 = 0 then (some (j_27, (nI (spn L B u + 1) - j_29), rc, upd N 0 (nI d), E2)) else (some (j_27, (nI (spn L B u + 1) - j_29), nI d, upd N 0 (nI d), E2))) else (some (j_27, (nI (spn L B u + 1) - j_29), rc, upd N 0 (nI d), E2))))) := by
  rcases dig1 (D := D) (N := N) (E2 := E2) (rc := rc) hX hu with ⟨g1, g2, g3⟩ | ⟨d, g1, g2, g3, g4, g5, g6⟩
  · refine Or.inl ⟨g1, g2, ?_⟩
    unfold fX8_takesRest
    rw [if_neg h1, if_neg h2, bd_t rfl, g3]
    rfl
  · refine Or.inr ⟨d, g1, g2, g3, g4, g5, ?_⟩
    unfold fX8_takesRest
    rw [if_neg h1, if_neg h2, bd_t rfl, bx2_t g6]
    simp only [gd_t v04]
    rw [show (upd N 0 (nI d)) (0 : Int32).toNatClampNeg = nI d from pk_us, show fX8_in (nI d).toInt64 (1 : Int64) (3 : Int64) = fX7_isWithin (nI d) 1 3 from in_wi (nI d) 1 3]
theorem read_both {L C s : Nat} {B T D E N E2 : Nat → Int32} (hX : TX L B T) (hC1 : 1 ≤ C) (hC : C ≤ 3) (hs : s ≤ L) (hl : isL (atL L B (spn L B s))) :
    (∃ (t1 C' : Nat) (D' E' N' E2' : Nat → Int32), spn L B s < t1 ∧ t1 ≤ L ∧ 1 ≤ C' ∧ C' ≤ 3 ∧ fX4_readCommand (nI L) (nI s) (nI C) B D E = (if atL L B (spn L B t1) = 59 then some ((1 : Int32), nI (spn L B t1 + 1), atL L B (spn L B s), nI C', D', E') else some ((0 : Int32), nI (spn L B t1), atL L B (spn L B s), nI C', D', E')) ∧ fX8_takesRest (nI L) (nI (spn L B s + 1)) (nI C) T N E2 (atL L B (spn L B s)) = some (1, nI t1, nI C', N', E2') ∧ agr (atL L B (spn L B s)) D' E' N' E2') ∨
    (∃ (t1 : Nat) (rc' rc2 : Int32) (D' E' N' E2' : Nat → Int32), t1 ≤ L ∧ fX4_readCommand (nI L) (nI s) (nI C) B D E = some ((0 : Int32), nI t1, atL L B (spn L B s), rc', D', E') ∧ fX8_takesRest (nI L) (nI (spn L B s + 1)) (nI C) T N E2 (atL L B (spn L B s)) = some (0, nI t1, rc2, N', E2')) := by
  have hL := hX.1
  have hs2 := spn_spec B hs
  have htl : spn L B s < L := by
    rcases hl with e | e | e | e | e | e
    · exact at_lt (a := 112) (by omega) e
    · exact at_lt (a := 99) (by omega) e
    · exact at_lt (a := 114) (by omega) e
    · exact at_lt (a := 120) (by omega) e
    · exact at_lt (a := 115) (by omega) e
    · exact at_lt (a := 109) (by omega) e
  have e1 : nI (spn L B s) + (1 : Int32) = nI (spn L B s + 1) := nI_add _ 1
  have hu : spn L B s + 1 ≤ L := htl
  have hs3 := spn_spec B hu
  have hid : spn L B (spn L B (spn L B s + 1)) = spn L B (spn L B s + 1) := spn_id hs3.2.2
  have em1 : ∀ t : Nat, nI (t + 1) - (1 : Int32) = nI t := fun t => by rw [show (1 : Int32) = nI 1 from rfl, pk_sub (by omega), Nat.add_sub_cancel]
  have em0 : ∀ t : Nat, nI t - (0 : Int32) = nI t := fun t => by rw [show (0 : Int32) = nI 0 from rfl, pk_sub (by omega), Nat.sub_zero]
  unfold fX4_readCommand
  rw [bd_t (X4skipBlanks hL hs), bd_t (X4byteHere hL (by omega))]
  rcases hl with ha | ha | ha | ha | ha | ha <;> rw [ha]
  · -- p
    rw [if_neg (by decide), if_neg (by decide), if_pos rfl, e1, X4digitHere hL hu]
    rcases rest1 (a := 112) (rc := nI C) (N := N) (E2 := E2) D hX hu (by decide) (by decide) with ⟨g1, g2, g3⟩ | ⟨d, hd, g1, g2, g4, g5, g6⟩
    · right
      rw [if_pos g1, bd2_t rfl, bd_t (show fX7_isPrime (-1) = some 0 from rfl), if_pos rfl]
      exact ⟨_, _, _, _, _, _, _, hs3.2.1, rfl, g3⟩
    · rw [if_neg g1, bd2_t rfl, g4]
      rw [if_pos rfl] at g6
      rcases prime_dec hd with ⟨p0, p1, p2⟩ | ⟨p1, p2⟩
      · left
        rw [p2, bd_t rfl, bd_t rfl, if_neg (by decide), bd_t rfl, if_neg (by decide), em0] at g6
        rw [bd_t p1, if_neg (by decide)]
        rcases rest1 (a := 112) (rc := nI C) (N := N) (E2 := E2) D hX (show spn L B (spn L B s + 1) ≤ L by omega) (by decide) (by decide) with ⟨k1, -, -⟩ | ⟨d', hd', k1, k2, k4, k5, -⟩
        · rw [hid] at k1; exact absurd k1 g1
        · rw [hid] at k4 k5 k1
          rw [g4] at k4
          rw [← k4] at k5
          rw [bd3_t k5, if_neg (by decide), tail59 _ _ _ _ hL (by omega)]
          exact ⟨_, C, _, _, _, _, by omega, by omega, hC1, hC, rfl, g6, fun z => absurd z (by decide), fun z => absurd z (by decide), fun _ => ⟨d, hd, pk_us, pk_us, fun z => absurd z (by decide), fun _ => p0⟩⟩
      · right
        rw [p2, bd_t rfl, bd_t rfl, if_pos rfl, bd_t rfl, if_neg (by decide), em1] at g6
        rw [bd_t p1, if_pos rfl]
        exact ⟨_, _, _, _, _, _, _, hs3.2.1, rfl, g6⟩
  · -- c
    rw [if_pos rfl, e1]
    unfold fX4_readColumns
    rw [X4digitHere hL hu]
    rcases rest1 (a := 99) (rc := nI C) (N := N) (E2 := E2) D hX hu (by decide) (by decide) with ⟨g1, g2, g3⟩ | ⟨d, hd, g1, g2, g4, g5, g6⟩
    · right
      rw [if_pos g1, bd2_t rfl, if_pos (show fX7_isWithin (-1) 1 3 = 0 by unfold fX7_isWithin; decide), bd4_t rfl, if_pos rfl]
      exact ⟨_, _, _, _, _, _, _, hs3.2.1, rfl, g3⟩
    · rw [if_neg g1, bd2_t rfl, g4]
      rw [if_neg (by decide), if_pos rfl] at g6
      by_cases h13 : fX7_isWithin (nI d) 1 3 = 0
      · right
        rw [if_pos h13, bd_t rfl, if_pos rfl, bd_t rfl, if_pos rfl, if_pos rfl, em1] at g6
        rw [if_pos h13, bd4_t rfl, if_pos rfl]
        exact ⟨_, _, _, _, _, _, _, hs3.2.1, rfl, g6⟩
      · left
        obtain ⟨N0, q1, q2, q3⟩ := wi_of2 (lo := 1) (hi := 3) (by omega) (by omega) h13
        have q4 := (nI_eq (by omega) (by omega)).mp q3
        rw [if_neg h13, bd_t rfl, if_neg (by decide), bd_t rfl, if_pos rfl, if_neg (by decide), em0] at g6
        rw [if_neg h13]
        rcases rest1 (a := 112) (rc := nI C) (N := N) (E2 := E2) D hX (show spn L B (spn L B s + 1) ≤ L by omega) (by decide) (by decide) with ⟨k1, -, -⟩ | ⟨d', hd', k1, k2, k4, k5, -⟩
        · rw [hid] at k1; exact absurd k1 g1
        · rw [hid] at k4 k5 k1
          rw [g4] at k4
          rw [← k4] at k5
          rw [bd3_t k5, bd4_t rfl, if_neg (by decide), tail59 _ _ _ _ hL (by omega)]
          exact ⟨_, d, _, _, _, _, by omega, by omega, by omega, by omega, rfl, g6, fun z => absurd z (by decide), fun z => absurd z (by decide), fun _ => ⟨d, hd, pk_us, pk_us, fun _ => by omega, fun z => absurd z (by decide)⟩⟩
  · -- r
    rw [if_neg (by decide), if_neg (by decide), if_neg (by decide), if_pos rfl, e1]
    obtain ⟨t, ok, E', E2', g1, g2, g3, g4⟩ := rowR_both (E := E) (E2 := E2) hX hC1 hC (show 1 ≤ spn L B s + 1 by omega) hu
    rw [bd3_t g3]
    have hr : ∀ (v : Int32) (X : Nat → Int32), fX8_takesRow (nI L) (nI (spn L B s + 1)) (nI C) T E2 = some (v, nI t, X) → fX8_takesRest (nI L) (nI (spn L B s + 1)) (nI C) T N E2 114 = some (v, nI t, nI C, N, X) := by
      intro v X h
      unfold fX8_takesRest
      rw [if_pos rfl, bd3_t h]
    rcases g4 with ⟨g4, g5, g6, g7⟩ | ⟨g4, g5⟩
    · left
      rw [if_neg (by rw [g4]; decide), tail59 _ _ _ _ hL g2]
      exact ⟨t, C, _, _, _, _, by omega, g2, hC1, hC, rfl, hr _ _ g5, fun _ => g7, fun z => absurd z (by decide), fun z => absurd rfl z⟩
    · right
      rcases g5 with g5 | ⟨g5, g6⟩
      · rw [if_pos g5]
        exact ⟨t, _, _, _, _, _, _, g2, rfl, hr _ _ g4⟩
      · have hsp : spn L B t = t := spn_id (fig_ne (a := 32) g6 (by omega))
        have h59 : ¬ atL L B t = 59 := by
          obtain ⟨-, d, hd, ed⟩ := fig_of g6
          intro z
          rw [ed] at z
          have := (nI_eq (b := 59) (by omega) (by omega)).mp z
          omega
        rw [if_neg (by rw [g5]; decide), tail59 _ _ _ _ hL g2, hsp, if_neg h59]
        exact ⟨t, _, _, _, _, _, _, g2, rfl, hr _ _ g4⟩
  · -- x
    rw [if_neg (by decide), if_neg (by decide), if_neg (by decide), if_neg (by decide), if_neg (by decide), if_pos rfl, e1]
    rcases rest1 (a := 120) (rc := nI C) (N := N) (E2 := E2) D hX hu (by decide) (by decide) with ⟨g1, g2, g3⟩ | ⟨d, hd, g1, g2, g4, g5, g6⟩
    · right
      rw [bd3_t g2, if_pos rfl]
      exact ⟨_, _, _, _, _, _, _, hs3.2.1, rfl, g3⟩
    · left
      rw [if_neg (by decide), if_neg (by decide), bd_t rfl, if_neg (by decide), bd_t rfl, if_neg (by decide), em0] at g6
      rw [bd3_t g5, if_neg (by decide), tail59 _ _ _ _ hL (by omega)]
      exact ⟨_, C, _, _, _, _, by omega, by omega, hC1, hC, rfl, g6, fun z => absurd z (by decide), fun z => absurd z (by decide), fun _ => ⟨d, hd, pk_us, pk_us, fun z => absurd z (by decide), fun z => absurd z (by decide)⟩⟩
  · -- s
    rw [if_neg (by decide), if_neg (by decide), if_neg (by decide), if_neg (by decide), if_pos rfl, e1]
    obtain ⟨t, D', N', g1, g2, g3⟩ := digs_both (Nn := 4) (E2 := E2) (rc := nI C) hX (by omega) 4 0 (spn L B s + 1) D N (by omega) hu (fun k hk => absurd hk (by omega))
    have hr : ∀ (v : ((Nat → Int32) × Int32) ⊕ (Int32 × Int32 × Int32 × (Nat → Int32) × (Nat → Int32))), Lp (fun (z : Int32 × (Nat → Int32) × Int32) => fX8_takesRest_s25 (nI L) (nI C) T E2 (nI 4) z.1 z.2.1 z.2.2) (nI 0, N, nI (spn L B s + 1)) = some v → Lp (fun (z : Int32 × (Nat → Int32) × Int32) => fX8_takesRest_s25 (nI L) (nI C) T E2 (4 : Int32) z.1 z.2.1 z.2.2) ((0 : Int32), N, nI (spn L B s + 1)) = some v := fun v h => h
    rcases g3 with ⟨g3, g4, g5, g6⟩ | ⟨g3, g4⟩
    · left
      have k1 : fX4_readDigits (nI L) (nI (spn L B s + 1)) B D (4 : Int32) = some (1, nI t, D') := by
        unfold fX4_readDigits
        rw [show Lp (fun (z : Int32 × (Nat → Int32) × Int32) => fX4_readDigits_s2 (nI L) B (4 : Int32) z.1 z.2.1 z.2.2) ((0 : Int32), D, nI (spn L B s + 1)) = _ from g4]
        rfl
      have k2 : fX8_takesRest (nI L) (nI (spn L B s + 1)) (nI C) T N E2 115 = some (1, nI t, nI C, N', E2) := by
        unfold fX8_takesRest
        rw [if_neg (by decide), if_pos rfl, bd_t rfl, bx2_t (hr _ g5), if_neg (by decide), if_neg (by decide), bd_t rfl, if_neg (by decide), bd_t rfl, if_neg (by decide), em0]
      rw [bd3_t k1, if_neg (by decide), tail59 _ _ _ _ hL g2]
      exact ⟨t, C, _, _, _, _, by omega, g2, hC1, hC, rfl, k2, fun z => absurd z (by decide), fun _ => g6, fun _ => by
        obtain ⟨d, d1, d2, d3⟩ := g6 0 (by omega)
        exact ⟨d, d1, d2, d3, fun z => absurd z (by decide), fun z => absurd z (by decide)⟩⟩
    · right
      have k1 : fX4_readDigits (nI L) (nI (spn L B s + 1)) B D (4 : Int32) = some (0, nI t, D') := by
        unfold fX4_readDigits
        rw [show Lp (fun (z : Int32 × (Nat → Int32) × Int32) => fX4_readDigits_s2 (nI L) B (4 : Int32) z.1 z.2.1 z.2.2) ((0 : Int32), D, nI (spn L B s + 1)) = _ from g3]
        rfl
      have k2 : fX8_takesRest (nI L) (nI (spn L B s + 1)) (nI C) T N E2 115 = some (0, nI t, nI C, N', E2) := by
        unfold fX8_takesRest
        rw [if_neg (by decide), if_pos rfl, bd_t rfl, hr _ g4]
        rfl
      rw [bd3_t k1, if_pos rfl]
      exact ⟨t, _, _, _, _, _, _, g2, rfl, k2⟩
  · -- m
    rw [if_neg (by decide), if_pos rfl, e1]
    rcases rest1 (a := 109) (rc := nI C) (N := N) (E2 := E2) D hX hu (by decide) (by decide) with ⟨g1, g2, g3⟩ | ⟨d, hd, g1, g2, g4, g5, g6⟩
    · right
      rw [bd3_t g2, if_pos rfl]
      exact ⟨_, _, _, _, _, _, _, hs3.2.1, rfl, g3⟩
    · left
      rw [if_neg (by decide), if_neg (by decide), bd_t rfl, if_neg (by decide), bd_t rfl, if_neg (by decide), em0] at g6
      rw [bd3_t g5, if_neg (by decide), tail59 _ _ _ _ hL (by omega)]
      exact ⟨_, C, _, _, _, _, by omega, by omega, hC1, hC, rfl, g6, fun z => absurd z (by decide), fun z => absurd z (by decide), fun _ => ⟨d, hd, pk_us, pk_us, fun z => absurd z (by decide), fun z => absurd z (by decide)⟩⟩
