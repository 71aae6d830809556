/-! the digest's loops -/
def foldN (F : Nat → Int64 → Int64) : Nat → Int64 → Int64
  | 0, h => h
  | n + 1, h => F n (foldN F n h)
theorem fold_loop {g : Int64 × Int32 → Option ((Int64 × Int32) ⊕ Int64)} (F : Nat → Int64 → Int64) (N : Nat) (hs : ∀ j h, j < N → g (h, nI j) = some (.inl (F j h, nI j + 1))) (he : ∀ h, g (h, nI N) = some (.inr h)) (h0 : Int64) : Lp g (h0, 0) = some (foldN F N h0) := by
  obtain ⟨r, h1, h2⟩ := Lp_up (fun j (s : Int64) => (s, j)) (g := g) N (fun j s => s = foldN F j h0) (fun r => r = foldN F N h0) (fun j s hj hI => Or.inl ⟨_, hs j s hj, by rw [hI]; rfl⟩) (fun s hI => ⟨s, he s, hI⟩) 0 h0 (Nat.zero_le _) rfl
  exact h1.trans (congrArg some h2)
theorem fold_congr {F G : Nat → Int64 → Int64} {n : Nat} (h : ∀ i, i < n → ∀ x, F i x = G i x) (x : Int64) : foldN F n x = foldN G n x := by
  induction n with
  | zero => rfl
  | succ n ih =>
    unfold foldN
    rw [ih (fun i hi => h i (by omega)), h n (by omega)]
def mx (f : Nat → Int32) : Nat → Int64 → Int64 := fun j h => (((31 : Int64) * h) + (f j).toInt64)
/-- the entries of a row: by columns and powers, or straight on -/
theorem mix_cls {C i : Nat} {nnum : Nat → Int32} (f : Nat → Int32) (hC : C ≤ 3) (hi : i < 5) (hf : ∀ c k, c < C → k < 7 → nnum ((i * 3 + c) * 7 + k) = f (7 * c + k)) (h0 : Int64) : Lp (fun (z : Int64 × Int32) => fX7_mixedRow_s42 (nI C) nnum (nI i) z.1 z.2) (h0, (0 : Int32)) = some (foldN (mx f) (C * 7) h0) := by
  obtain ⟨r, h1, h2⟩ := Lp_up (fun j (s : Int64) => (s, j)) (g := fun (z : Int64 × Int32) => fX7_mixedRow_s42 (nI C) nnum (nI i) z.1 z.2) C (fun c s => s = foldN (mx f) (7 * c) h0) (fun r => r = foldN (mx f) (C * 7) h0)
    (fun c s hc hI => by
      obtain ⟨r, g1, g2⟩ := Lp_up (fun j (s : Int64) => (s, j)) (g := fun (z : Int64 × Int32) => fX7_mixedRow_s57 nnum (nI i) (nI c) z.1 z.2) 7 (fun k s => s = foldN (mx f) (7 * c + k) h0) (fun r => r = foldN (mx f) (7 * c + 7) h0)
        (fun k s hk hI => by
          have hat : fX3_at 105 (5 : Int32) (3 : Int32) (7 : Int32) nnum (nI i) (nI c) (nI k) = some (f (7 * c + k)) := (X3at_in (L := 105) (R := 5) (w := 3) (q := 7) rfl (by omega) (by omega) (by omega) (by omega) hi (by omega) hk).trans (congrArg some (hf c k hc hk))
          refine Or.inl ⟨foldN (mx f) (7 * c + (k + 1)) h0, ?_, rfl⟩
          dsimp only
          unfold fX7_mixedRow_s57
          rw [if_neg (show ¬ (6 : Int32) < nI k from (nI_nlt (by omega) (by omega) : ¬ nI 6 < nI k)), bd_t hat, hI]
          rfl)
        (fun s hI => by
          refine ⟨s, ?_, hI⟩
          dsimp only
          unfold fX7_mixedRow_s57
          rw [if_pos (show (6 : Int32) < nI 7 from (nI_lt (by omega) (by omega) : nI 6 < nI 7))]) 0 s (Nat.zero_le _) hI
      refine Or.inl ⟨r, ?_, by rw [g2]; rfl⟩
      dsimp only
      unfold fX7_mixedRow_s42
      rw [if_neg (nI_ge hc (by omega))]
      exact bd_t g1)
    (fun s hI => by
      refine ⟨s, ?_, by rw [hI, Nat.mul_comm]⟩
      dsimp only
      unfold fX7_mixedRow_s42
      rw [if_pos (nI_le (Nat.le_refl _) (by omega))]) 0 h0 (Nat.zero_le _) rfl
  exact h1.trans (congrArg some h2)
theorem mix_ref {C i : Nat} {all : Nat → Int32} (f : Nat → Int32) (b1 : all 1 = nI C) (hC : C ≤ 3) (hi : i < 5) (hf : ∀ c k, c < C → k < 7 → all (3 + (i * 3 + c) * 7 + k) = f (7 * c + k)) (h0 : Int64) : Lp (fun (z : Int64 × Int32) => fX8_digest_s96 all (nI i) z.1 z.2) (h0, (0 : Int32)) = some (foldN (mx f) (C * 7) h0) := by
  have e7 : nI C * (7 : Int32) = nI (C * 7) := pk_mul C 7
  refine fold_loop (mx f) (C * 7) (fun j h hj => ?_) (fun h => ?_) h0
  · dsimp only
    unfold fX8_digest_s96
    have := hf (j / 7) (j % 7) (by omega) (by omega)
    rw [show 3 + (i * 3 + j / 7) * 7 + j % 7 = 3 + (i * 3 + 0) * 7 + j by omega, show 7 * (j / 7) + j % 7 = j by omega] at this
    rw [bd_t (X8width b1), e7, if_neg (nI_ge hj (by omega)), show fX8_place (nI i) (0 : Int32) (nI j) = nI (3 + (i * 3 + 0) * 7 + j) from X8place i 0 j, gd_t (vp_in_nI (by omega) (by omega)), nI_clamp (by omega), this]
    rfl
  · dsimp only
    unfold fX8_digest_s96
    rw [bd_t (X8width b1), e7, if_pos (nI_le (Nat.le_refl _) (by omega))]
/-- all that is mixed of the rows -/
theorem rows_mix {p C n : Nat} {nnum all : Nat → Int32} {V : Nat → Nat → Nat → Nat} (hp : p < 1000) (hp0 : 0 < p) (hC : C ≤ 3) (hn : n ≤ 5) (b1 : all 1 = nI C) (b2 : all 2 = nI n) (hV : ∀ i c k, i < n → c < 3 → k < 7 → V i c k < p ∧ nnum ((i * 3 + c) * 7 + k) = nI (V i c k) ∧ all (3 + (i * 3 + c) * 7 + k) = nI (V i c k) ∧ (C ≤ c → V i c k = 0)) (h0 : Int64) : ∃ x, Lp (fun (z : Int64 × Int32) => fX7_digest_s48 (nI C) (nI n) nnum z.1 z.2) (h0, (0 : Int32)) = some x ∧ Lp (fun (z : Int64 × Int32) => fX8_digest_s55 all z.1 z.2) (h0, (0 : Int32)) = some x := by
  have hrow : ∀ i, i < n → ∃ L : Int32, fX3_leadOf 105 (5 : Int32) (3 : Int32) (7 : Int32) (nI C) nnum (nI i) = some L ∧ fX8_lead all (nI i) = some L ∧ fX3_degreeOf 105 (5 : Int32) (3 : Int32) (7 : Int32) (nI C) nnum (nI i) = some (pv (pw (aP all C i))) ∧ fX3_pivotOf 105 (5 : Int32) (3 : Int32) (7 : Int32) (nI C) nnum (nI i) = some (pv (cp (aP all C i))) := by
    intro i hi
    obtain ⟨hP, v, -, -, -, l1, l2⟩ := lead_both hp hC hn b1 hV hi hp0
    have hle := aP_le all C i
    exact ⟨nI v, l1, l2, (X3deg (L := 105) (R := 5) (w := 3) (q := 7) rfl (by omega) (by omega) (by omega) (by omega) (by omega) hC (by omega)).trans (by rw [hP, powerAt_pv (by omega)]), (X3piv (L := 105) (R := 5) (w := 3) (q := 7) rfl (by omega) (by omega) (by omega) (by omega) (by omega) hC (by omega)).trans (by rw [hP, columnAt_pv (by omega)])⟩
  let Lf : Nat → Int32 := fun i => (fX8_lead all (nI i)).getD 0
  let F : Nat → Int64 → Int64 := fun i h => foldN (mx (fun k => nI (V i (k / 7) (k % 7)))) (C * 7) (fX7_mixed (fX7_mixed (fX7_mixed h (pv (pw (aP all C i)))) (pv (cp (aP all C i)))) (Lf i))
  refine ⟨foldN F n h0, fold_loop F n (fun i h hi => ?_) (fun h => ?_) h0, fold_loop F n (fun i h hi => ?_) (fun h => ?_) h0⟩
  · obtain ⟨L, l1, l2, d1, q1⟩ := hrow i hi
    have hL : Lf i = L := by show (fX8_lead all (nI i)).getD 0 = L; rw [l2]; rfl
    dsimp only
    unfold fX7_digest_s48 fX7_mixedRow
    have hm := mix_cls (C := C) (i := i) (nnum := nnum) (fun k => nI (V i (k / 7) (k % 7))) hC (by omega) (fun c k hc hk => by rw [(hV i c k hi (by omega) hk).2.1, show (7 * c + k) / 7 = c by omega, show (7 * c + k) % 7 = k by omega]) (fX7_mixed (fX7_mixed (fX7_mixed h (pv (pw (aP all C i)))) (pv (cp (aP all C i)))) L)
    rw [if_neg (nI_ge hi (by omega)), bd_t d1, bd_t q1, bd_t l1]
    refine (bd_t (bd_t hm)).trans ?_
    rw [← hL]
  · dsimp only
    unfold fX7_digest_s48
    rw [if_pos (nI_le (Nat.le_refl _) (by omega))]
  · obtain ⟨L, l1, l2, d1, q1⟩ := hrow i hi
    have hL : Lf i = L := by show (fX8_lead all (nI i)).getD 0 = L; rw [l2]; rfl
    dsimp only
    unfold fX8_digest_s55
    rw [bd_t (X8rows b2), if_neg (nI_ge hi (by omega))]
    have hthree : Lp (fun (z : Int64 × Int32) => fX8_digest_s66 all (nI i) z.1 z.2) (h, (0 : Int32)) = some (fX7_mixed (fX7_mixed (fX7_mixed h (pv (pw (aP all C i)))) (pv (cp (aP all C i)))) L) := by
      have r0 : fX8_aboutRow all (nI i) 0 = some (pv (pw (aP all C i))) := by
        unfold fX8_aboutRow
        rw [if_pos rfl, bd_t (X8degree b1 (by omega) hC)]
      have r1 : fX8_aboutRow all (nI i) 1 = some (pv (cp (aP all C i))) := by
        unfold fX8_aboutRow
        rw [if_neg (by decide), if_pos rfl, bd_t (X8pivot b1 (by omega) hC)]
      have r2 : fX8_aboutRow all (nI i) 2 = some L := by
        unfold fX8_aboutRow
        rw [if_neg (by decide), if_neg (by decide), bd_t l2]
      refine (Lp_go (t := (fX7_mixed h (pv (pw (aP all C i))), (1 : Int32))) ?_).trans ((Lp_go (t := (fX7_mixed (fX7_mixed h (pv (pw (aP all C i)))) (pv (cp (aP all C i))), (2 : Int32))) ?_).trans ((Lp_go (t := (fX7_mixed (fX7_mixed (fX7_mixed h (pv (pw (aP all C i)))) (pv (cp (aP all C i)))) L, (3 : Int32))) ?_).trans (Lp_end ?_)))
      · dsimp only
        unfold fX8_digest_s66
        rw [if_neg (by decide), bd_t r0]
        rfl
      · dsimp only
        unfold fX8_digest_s66
        rw [if_neg (by decide), bd_t r1]
        rfl
      · dsimp only
        unfold fX8_digest_s66
        rw [if_neg (by decide), bd_t r2]
        rfl
      · dsimp only
        unfold fX8_digest_s66
        rw [if_pos (by decide)]
    have hm := mix_ref (C := C) (i := i) (all := all) (fun k => nI (V i (k / 7) (k % 7))) b1 hC (by omega) (fun c k hc hk => by rw [(hV i c k hi (by omega) hk).2.2.1, show (7 * c + k) / 7 = c by omega, show (7 * c + k) % 7 = k by omega]) (fX7_mixed (fX7_mixed (fX7_mixed h (pv (pw (aP all C i)))) (pv (cp (aP all C i)))) L)
    refine (bd_t hthree).trans ((bd_t hm).trans ?_)
    rw [← hL]
  · dsimp only
    unfold fX8_digest_s55
    rw [bd_t (X8rows b2), if_pos (nI_le (Nat.le_refl _) (by omega))]
theorem total_both {v p C n gn t : Nat} {badCalls noCalls fullCalls npp ncolumns ncount gcount clength states textLong : Int32} {all refused : Nat → Int32} (hv : v ≤ 7) (c1 : badCalls = refused 0) (c2 : noCalls = refused 1) (c3 : fullCalls = refused 2) (e1 : npp = nI p) (e2 : ncolumns = nI C) (e3 : ncount = nI n) (b0 : all 0 = nI p) (b1 : all 1 = nI C) (b2 : all 2 = nI n) (g1 : gcount = nI gn) (g2 : states = nI gn) (t1 : clength = nI t) (t2 : textLong = nI t) : fX8_toldOf states textLong all refused (nI v) = some (fX7_total badCalls noCalls fullCalls npp ncolumns ncount gcount clength (nI v)) := by
  have hv8 : v = 0 ∨ v = 1 ∨ v = 2 ∨ v = 3 ∨ v = 4 ∨ v = 5 ∨ v = 6 ∨ v = 7 := by omega
  rcases hv8 with e | e | e | e | e | e | e | e <;> subst e
  · rw [show fX7_total badCalls noCalls fullCalls npp ncolumns ncount gcount clength (nI 0) = badCalls from rfl, c1]
    unfold fX8_toldOf
    rw [if_neg (by decide), gd_t (vp_in_nI (by omega) (by omega))]
    rfl
  · rw [show fX7_total badCalls noCalls fullCalls npp ncolumns ncount gcount clength (nI 1) = noCalls from rfl, c2]
    unfold fX8_toldOf
    rw [if_neg (by decide), gd_t (vp_in_nI (by omega) (by omega))]
    rfl
  · rw [show fX7_total badCalls noCalls fullCalls npp ncolumns ncount gcount clength (nI 2) = fullCalls from rfl, c3]
    unfold fX8_toldOf
    rw [if_neg (by decide), gd_t (vp_in_nI (by omega) (by omega))]
    rfl
  · rw [show fX7_total badCalls noCalls fullCalls npp ncolumns ncount gcount clength (nI 3) = clength from rfl, t1, t2]
    rfl
  · rw [show fX7_total badCalls noCalls fullCalls npp ncolumns ncount gcount clength (nI 4) = npp from rfl, e1, ← b0]
    unfold fX8_toldOf
    rw [if_pos (by decide), if_neg (by decide), if_neg (by decide), show nI 4 - (4 : Int32) = nI 0 from rfl, gd_t (show vp_in (nI 0) 108 from vp_in_nI (by omega) (by omega))]
    rfl
  · rw [show fX7_total badCalls noCalls fullCalls npp ncolumns ncount gcount clength (nI 5) = ncolumns from rfl, e2, ← b1]
    unfold fX8_toldOf
    rw [if_pos (by decide), if_neg (by decide), if_neg (by decide), show nI 5 - (4 : Int32) = nI 1 from rfl, gd_t (show vp_in (nI 1) 108 from vp_in_nI (by omega) (by omega))]
    rfl
  · rw [show fX7_total badCalls noCalls fullCalls npp ncolumns ncount gcount clength (nI 6) = ncount from rfl, e3, ← b2]
    unfold fX8_toldOf
    rw [if_pos (by decide), if_neg (by decide), if_neg (by decide), show nI 6 - (4 : Int32) = nI 2 from rfl, gd_t (show vp_in (nI 2) 108 from vp_in_nI (by omega) (by omega))]
    rfl
  · rw [show fX7_total badCalls noCalls fullCalls npp ncolumns ncount gcount clength (nI 7) = gcount from rfl, g1, g2]
    rfl
