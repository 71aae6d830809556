/-! a row divided by the form: both sides alike -/
theorem OpT_row {p C m j pw : Nat} {t : Int} {num f f' : Nat → Int32} (hp : 0 < p) (hp2 : p < 1000) (hC : C ≤ 3) (hlow : Low8 C m num) (hj : j < m) (hpw : pw ≤ 7) (ho : OpT p num f f' j t pw) : eqv p C (rw8 f' 0) (radd (rw8 f 0) (rsh t pw (rw8 num j))) := by
  intro c hc k
  show (p : Int) ∣ rw8 f' 0 c k - (rw8 f 0 c k + if pw ≤ k then t * rw8 num j c (k - pw) else 0)
  by_cases hk : k < 25
  · have e1 : rw8 f' 0 c k = (md (cl8 f 0 c k + (if pw ≤ k then t * cl8 num j c (k - pw) else 0)) p : Int) := by
      rw [show rw8 f' 0 c k = cl8 f' 0 c k from if_pos hk]
      unfold cl8
      rw [ho c k (by omega) hk]
      exact nI_md_toInt hp hp2
    have e : rw8 f 0 c k = cl8 f 0 c k := if_pos hk
    have e2 : (if pw ≤ k then t * rw8 num j c (k - pw) else 0) = (if pw ≤ k then t * cl8 num j c (k - pw) else 0) := by
      by_cases hpk : pw ≤ k
      · rw [if_pos hpk, if_pos hpk, show rw8 num j c (k - pw) = cl8 num j c (k - pw) from if_pos (by omega)]
      · rw [if_neg hpk, if_neg hpk]
    rw [e1, e, e2]
    exact md_dvd hp
  · have e : rw8 f 0 c k = 0 := if_neg hk
    have e1 : rw8 f' 0 c k = 0 := if_neg hk
    have e2 : (if pw ≤ k then t * rw8 num j c (k - pw) else 0) = 0 := by
      by_cases hpk : pw ≤ k
      · rw [if_pos hpk, rw8_z hlow hj hc (by omega), Int.mul_zero]
      · exact if_neg hpk
    rw [e1, e, e2]
    exact ⟨0, by omega⟩
/-- v less w -/
def rdf (v w : Rw) : Rw := radd v (rsh (-1) 0 w)
theorem rdf_at (v w : Rw) (c k : Nat) : rdf v w c k = v c k - w c k := by
  unfold rdf radd rsh
  rw [if_pos (Nat.zero_le _), Nat.sub_zero]
  omega
theorem Span_df0 {p C n : Nat} {a : Nat → Rw} {v w : Rw} (h : ∀ c, c < C → ∀ k, v c k = w c k) : Span p C n a (rdf v w) := (Span_cl p C n a).2.1 _ _ (Span_cl p C n a).1 (fun c hc k => ⟨0, by rw [rdf_at, h c hc k]; unfold r0; omega⟩)
theorem Span_dfs {p C n j s : Nat} {t : Int} {a : Nat → Rw} {v v' w : Rw} (hj : j < n) (h : Span p C n a (rdf v w)) (e : eqv p C v' (radd v (rsh t s (a j)))) : Span p C n a (rdf v' w) := by
  have cl := Span_cl p C n a
  refine cl.2.1 _ _ (cl.2.2.1 _ _ h (cl.2.2.2 _ t s (Span_in hj))) ?_
  intro c hc k
  obtain ⟨z, hz⟩ := e c hc k
  refine ⟨-z, ?_⟩
  rw [rdf_at]
  unfold radd at hz ⊢
  rw [rdf_at, Int.mul_neg]
  omega
theorem Span_dfd {p C n : Nat} {a : Nat → Rw} {v v' w : Rw} (h : Span p C n a (rdf v w)) (h' : Span p C n a (rdf v' w)) : Span p C n a (rdf v v') := by
  have cl := Span_cl p C n a
  refine cl.2.1 _ _ (cl.2.2.1 _ _ h (cl.2.2.2 _ (-1) 0 h')) ?_
  intro c hc k
  refine ⟨0, ?_⟩
  rw [rdf_at]
  unfold radd rsh
  rw [if_pos (Nat.zero_le _), Nat.sub_zero, rdf_at, rdf_at]
  omega
theorem rests_both {p C n i : Nat} {nnum all lnum fnum pl yp work : Nat → Int32} {a x1 x2 x3 x4 x5 x6 : Int32} (V : Nat → Nat → Nat → Nat) (J : Nat → (Nat → Nat) → Nat → (Nat → Int32) → Prop) (hp : p = 2 ∨ p = 3 ∨ p = 5 ∨ p = 7) (b0 : all 0 = nI p) (b1 : all 1 = nI C) (b2 : all 2 = nI n) (hC : C ≤ 3) (hn : n ≤ 5) (hi : i < n) (hV : ∀ i c k, i < n → c < 3 → k < 7 → V i c k < p ∧ nnum ((i * 3 + c) * 7 + k) = nI (V i c k) ∧ all (3 + (i * 3 + c) * 7 + k) = nI (V i c k) ∧ (C ≤ c → V i c k = 0)) (hJC : ∀ K sel, JC p C (J K sel))
    (hJ0 : ∀ K sel num, Chosen n a K sel → Rep8 p K num → Low8 C K num → (∀ m c k, m < K → c < 8 → k < 25 → num ((m * 8 + c) * 25 + k) = nI (blk V (sel m) c k)) → J K sel K num)
    (JT : Nat → (Nat → Nat) → Nat → (Nat → Int32) → (Nat → Int32) → Prop) (hJT0 : ∀ K sel m num f, Chosen n a K sel → J K sel m num → (∀ c k, c < 8 → k < 25 → f ((0 * 8 + c) * 25 + k) = nI (ftl V i c k)) → JT K sel m num f)
    (hJT : ∀ K sel m num f f' j v pw, Chosen n a K sel → m ≤ K → Rep8 p m num → Low8 C m num → J K sel m num → Rep8 p 1 f → Low8 C 1 f → j < m → pw ≤ 7 → OpT p num f f' j (-((v : Nat) : Int)) pw → Low8 C 1 f' → JT K sel m num f → JT K sel m num f') :
    ∃ K sel m num' y1 y2 y3 y4 y5 y6 y7 y8 f' pl' W', fX2_buildFrom lnum x1 x2 x3 x4 x5 pl x6 yp 105 (5 : Int32) (3 : Int32) (7 : Int32) (nI p) (nI C) (nI n) nnum a = some (nI p, nI C, nI m, num', y1, y2, y3, y4, y5, y6, y7, y8) ∧ fX2_divide (nI C) (nI m) num' fnum y8 105 (5 : Int32) (3 : Int32) (7 : Int32) (nI p) (nI C) nnum (nI i) = some (nI p, nI C, 1, f', nI m, pl') ∧ fX8_rests all work (nI i) a = some (nI m, nI C, W') ∧ Chosen n a K sel ∧ m ≤ K ∧ m ≤ 5 ∧ Rep8 p 1 f' ∧ Low8 C 1 f' ∧ WR p C (m + 1) W' ∧ J K sel m num' ∧ JT K sel m num' f' ∧ (∀ c k, c < C → k < 8 → f' ((0 * 8 + c) * 25 + k) = W' (24 * m + 8 * c + k)) ∧ P8 f' C 0 = P8 (emb W') C m ∧ Span p C K (fun x => rwV V (sel x)) (rdf (rw8 f' 0) (rwV V i)) ∧ DP m (P8 num' C) ∧ ld1 C m num' ∧ Rep8 p m num' ∧ Low8 C m num' ∧ SameM p C K (fun x => rwV V (sel x)) m (rw8 num') ∧ Popv p C m (rw8 num') (fun x => P8 num' C x - 1) := by
  have hp0 : 0 < p := by omega
  obtain ⟨K, sel, m, num', W0, y1, y2, y3, y4, y5, y6, y7, y8, f1, f2, g2, g3, hm5, f5, f6, f7, g6b, f9, f10, f11, f12, f13, f14, f15, f16, f17⟩ := forms_both (lnum := lnum) (pl := pl) (yp := yp) (work := work) (x1 := x1) (x2 := x2) (x3 := x3) (x4 := x4) (x5 := x5) (x6 := x6) (a := a) V J hp b0 b1 b2 hC hn hV hJC hJ0
  -- the class
  obtain ⟨f', pl', d1, d2, d3, ⟨d4, d4b⟩, d5⟩ := divide8 (p := p) (C := C) (n := n) (m := m) (i := i) (num := num') (nnum := nnum) (fnum := fnum) (yp := y8) V (fun f => Span p C m (rw8 num') (rdf (rw8 f 0) (rwV V i)) ∧ JT K sel m num' f) hp hC hm5 hn hi (fun i c k hi hc hk => ⟨(hV i c k hi hc hk).1, (hV i c k hi hc hk).2.1⟩) f5 f6 f15
    (fun f hf => ⟨Span_df0 (fun c hc k => by
      unfold rw8 rwV
      by_cases hk : k < 25
      · rw [if_pos hk]
        unfold cl8
        rw [hf c k (by omega) hk]
        unfold ftl
        by_cases h7 : c < 3 ∧ k < 7
        · rw [if_pos h7, if_pos h7, nI_toInt (by have := (hV i c k hi h7.1 h7.2).1; omega)]
        · rw [if_neg h7, if_neg h7]
          rfl
      · rw [if_neg hk, if_neg (by omega)]), hJT0 K sel m num' f g2 g6b hf⟩)
    (fun f f' j v pw hr hl hj hpw ho hl' hJf => ⟨Span_dfs hj hJf.1 (OpT_row hp0 (by omega) hC f6 hj hpw ho), hJT K sel m num' f f' j v pw g2 g3 f5 f6 g6b hr hl hj hpw ho hl' hJf.2⟩)
  -- the reference
  obtain ⟨W1, l1, l2, l3⟩ := X8laysV (p := p) (C := C) (n := n) (t := m) (i := i) (A := all) (W := W0) V b1 hC (by omega) hi hn (fun i c k hi hc hk => ⟨(hV i c k hi hc hk).1, (hV i c k hi hc hk).2.2⟩)
  have hW1 : WR p C (m + 1) W1 := by
    intro x e k hx he hk
    by_cases ex : x = m
    · subst ex
      refine ⟨lv V i e k, lvq_lt hp0 hi he (fun i c k hi hc hk => (hV i c k hi hc hk).1), l2 e k he hk, fun h => ?_⟩
      unfold lv
      by_cases h7 : k < 7
      · rw [if_pos h7]; exact (hV i e k hi he h7).2.2.2 h
      · rw [if_neg h7]
    · rw [show 24 * x + 8 * e + k = 24 * x + (8 * e + k) by omega, l3 x _ ex (by omega), ← Nat.add_assoc]
      exact f7 x e k (by omega) he hk
  have hE1 : ∀ x c k, x < m → c < 8 → k < 25 → emb W1 ((x * 8 + c) * 25 + k) = emb W0 ((x * 8 + c) * 25 + k) := fun x c k hx hc hk => by
    rw [emb_at hc hk, emb_at hc hk]
    by_cases hin : c < 3 ∧ k < 8
    · rw [if_pos hin, if_pos hin, show 24 * x + 8 * c + k = 24 * x + (8 * c + k) by omega, l3 x _ (by omega) (by omega)]
    · rw [if_neg hin, if_neg hin]
  have hP1 : ∀ x, x < m → P8 (emb W1) C x = P8 (emb W0) C x := fun x hx => P8_same hC (fun c k hc hk => hE1 x c k hx hc hk)
  obtain ⟨W', t1, t2, ⟨t3, t3b⟩, t4, -, t6⟩ := X8lowers (A := all) (N := m + 1) (m := m) (i := m) (fun E => (∀ j, j < m → ∀ c, c < C → ∀ k, rw8 E j c k = rw8 (emb W0) j c k) ∧ Span p C m (rw8 (emb W0)) (rdf (rw8 E m) (rwV V i))) hp b0 hC (by omega) hm5 (by omega) (by omega) hW1
    ⟨fun x hx => by rw [hP1 x hx]; exact f16.1 x hx, fun x y hx hy hxy => by rw [hP1 x hx, hP1 y hy]; exact f16.2 x y hx hy hxy⟩
    (fun x b hx hb => by
      rw [hE1 x (b % 3) (b / 3) hx (by omega) (by have := (plc_spec _ _ _ _ hb).1; omega)]
      exact f17 x b hx (by rw [← hP1 x hx]; exact hb))
    ⟨fun j hj c hc k => rw8_same (fun k hk => hE1 j c k hj (by omega) hk) k, Span_df0 (fun c hc k => rw8_lv (p := p) (by omega) (by omega) (fun c k hc => lvq_lt hp0 hi hc (fun i c k hi hc hk => (hV i c k hi hc hk).1)) (fun c k hc hk => l2 c k hc hk) k)⟩
    (fun E E' j v pw hr hl hj hji ho hl' hJE => by
      refine ⟨fun x hx c hc k => ?_, ?_⟩
      · rw [rw8_same (num := E) (num' := E') (i := x) (i' := x) (fun k hk => ho.2.2.2.2.2 x c k (by omega) (by omega) hk) k]
        exact hJE.1 x hx c hc k
      · refine Span_dfs (t := -((v : Nat) : Int)) (s := pw) hj hJE.2 (eqv_t (OpA_row hp0 (by omega) hC hl ho) ?_)
        intro c hc k
        refine ⟨0, ?_⟩
        unfold radd rsh
        by_cases h : pw ≤ k
        · rw [if_pos h, if_pos h, hJE.1 j hj c hc]; omega
        · rw [if_neg h, if_neg h]; omega)
  have hrest : fX8_rests all work (nI i) a = some (nI m, nI C, W') := by
    unfold fX8_rests
    rw [bd3_t f2, bd_t l1, bd_t t1]
  -- the same remainder
  have hs1 : Span p C m (rw8 num') (rdf (rw8 (emb W') m) (rwV V i)) := Span_tr f13.2 t3b
  have hred := red_uniq (p := p) (C := C) (n := m) (a := rw8 num') (P := fun x => P8 num' C x - 1) (v := rw8 f' 0) (w := rw8 (emb W') m) f11.1 f11.2.1 (Span_dfd d4 hs1)
    (fun j hj k hk => by
      have hne := (f9 j hj).2
      obtain ⟨b, hb⟩ : ∃ b, P8 num' C j = b + 1 := ⟨P8 num' C j - 1, by omega⟩
      rw [hb, Nat.add_sub_cancel] at hk ⊢
      refine ⟨0, ?_⟩
      unfold rw8 cl8
      by_cases h25 : k < 25
      · rw [if_pos h25, d5 j b k hj hb hk h25]
        rfl
      · rw [if_neg h25]
        rfl)
    (fun j hj k hk => by
      have hne := (f9 j hj).2
      obtain ⟨b, hb⟩ : ∃ b, P8 num' C j = b + 1 := ⟨P8 num' C j - 1, by omega⟩
      have hbC : b % 3 < C := (plc_spec _ _ _ _ hb).2.1
      rw [hb, Nat.add_sub_cancel] at hk ⊢
      refine ⟨0, ?_⟩
      unfold rw8
      by_cases h25 : k < 25
      · rw [if_pos h25]
        by_cases h8 : k < 8
        · unfold cl8
          rw [emb_in (by omega) h8, t6 j b k hj (by omega) (by rw [hP1 j hj, ← (f9 j hj).1]; exact hb) hk h8]
          rfl
        · rw [cl8_out (by omega) h25 (by omega)]
          rfl
      · rw [if_neg h25]
        rfl)
  have hcell : ∀ c k, c < C → k < 8 → f' ((0 * 8 + c) * 25 + k) = W' (24 * m + 8 * c + k) := by
    intro c k hc hk
    obtain ⟨v, v1, v2⟩ := d2 0 c k (by omega) (by omega) (by omega)
    obtain ⟨w, w1, w2, -⟩ := t2 m c k (by omega) (by omega) hk
    have h := hred c hc k
    unfold rw8 at h
    rw [if_pos (by omega), if_pos (by omega), cl8_emb (by omega) hk (by omega) w2] at h
    unfold cl8 at h
    rw [v2, nI_toInt (by omega)] at h
    rw [v2, w2, small_eq v1 w1 h]
  have hPf : P8 f' C 0 = P8 (emb W') C m := by
    unfold P8 rP
    refine plc_congr 24 (fun s hs hsc => ?_)
    unfold cel
    rw [if_pos (by omega), if_pos (by omega), hcell (s % 3) (s / 3) hsc (by omega), emb_in (by omega) (by omega)]
  exact ⟨K, sel, m, num', y1, y2, y3, y4, y5, y6, y7, y8, f', pl', W', f1, d1, hrest, g2, g3, hm5, d2, d3, t2, g6b, d4b, hcell, hPf, Span_tr f12.2 d4, f14, f15, f5, f6, f12, f11⟩
/-- a row beside a set, on both sides -/
theorem with_both {all : Nat → Int32} {n : Nat} {a s : Int32} (hn : n ≤ 5) (b2 : all 2 = nI n) : fX8_isWith all a s = some (fX7_isRowBeside (nI n) a s) := by
  unfold fX8_isWith fX7_isRowBeside
  rw [bd_t (X8isRow (by omega) b2)]
  by_cases h1 : fX3_hasRow (nI n) a = 0
  · rw [if_pos h1, if_pos h1]
  · rw [if_neg h1, if_neg h1, bd_t (set_both hn b2)]
    by_cases h2 : fX3_hasSet (nI n) s = 0
    · rw [if_pos h2, if_pos h2]
    · rw [if_neg h2, if_neg h2]
      obtain ⟨i, hi, ei⟩ := row_of (by omega) h1
      subst ei
      have hbit : ∃ b : Nat, b < 2 ∧ ((s >>> (nI i &&& 31)) &&& (1 : Int32)) = nI b := pk_andE _ 1 (by decide)
      obtain ⟨b, hb, eb⟩ := hbit
      have hin := inSet_iff (a := s) (show i < 5 by omega)
      rcases (show b = 0 ∨ b = 1 by omega) with e | e
      · subst e
        have h0 : fX7_isInSet (nI i) s = 0 := by
          apply Classical.byContradiction
          intro z
          have := hin.mp z
          rw [eb] at this
          exact absurd this (by decide)
        rw [eb, h0, if_pos rfl]
        exact if_pos rfl
      · subst e
        have h0 : ¬ fX7_isInSet (nI i) s = 0 := hin.mpr (by rw [eb]; rfl)
        rw [eb, if_neg h0, if_neg (by decide)]
theorem beside_of {n : Nat} {a s : Int32} (hn : n ≤ 5) (h : ¬ fX7_isRowBeside (nI n) a s = 0) : ∃ i, i < n ∧ a = nI i ∧ fX7_isInSet (nI i) s = 0 ∧ ¬ fX3_hasSet (nI n) s = 0 := by
  unfold fX7_isRowBeside at h
  by_cases h1 : fX3_hasRow (nI n) a = 0
  · rw [if_pos h1] at h; exact absurd rfl h
  · rw [if_neg h1] at h
    by_cases h2 : fX3_hasSet (nI n) s = 0
    · rw [if_pos h2] at h; exact absurd rfl h
    · rw [if_neg h2] at h
      obtain ⟨i, hi, ei⟩ := row_of (by omega) h1
      subst ei
      by_cases h3 : fX7_isInSet (nI i) s = 0
      · exact ⟨i, hi, rfl, h3, h2⟩
      · rw [if_neg h3] at h; exact absurd rfl h
theorem divided_both {C m : Nat} {f W : Nat → Int32} (hC : C ≤ 3) (hm : m < 6) (hP : P8 f C 0 = P8 (emb W) C m) : ∃ d : Int32, (d = 0 ∨ d = 1) ∧ (d = 1 ↔ P8 f C 0 = 0) ∧ fX2_isDivided (nI C) f = some d ∧ ∀ u1 u2 u3 : Int32, (bd (fX8_workDegree (nI C) W (nI m)) (fun (r_6 : Int32) => if 0 ≤ r_6 then (some ((0 : Int32), u1, u2, W)) else (some ((1 : Int32), u1, u2, W)))) = some (d, u1, u2, W) := by
  have hle : P8 f C 0 ≤ 24 := rP_le f 8 25 C 0
  have hpw : pw (P8 f C 0) ≤ 8 := by unfold pw; omega
  have hdeg : fX3_degreeOf 200 (1 : Int32) (8 : Int32) (25 : Int32) (nI C) f (0 : Int32) = some (pv (pw (P8 f C 0))) := (X3deg (L := 200) (R := 1) (w := 8) (q := 25) (i := 0) rfl (by omega) (by omega) (by omega) (by omega) (by omega) hC (by omega)).trans (congrArg some (powerAt_pv (show P8 f C 0 < 1000 by omega)))
  have hd2 := X8wDeg (W := W) hm hC
  rw [← hP] at hd2
  by_cases h : P8 f C 0 = 0
  · refine ⟨1, Or.inr rfl, ⟨fun _ => h, fun _ => rfl⟩, ?_, fun u1 u2 u3 => ?_⟩
    · unfold fX2_isDivided
      rw [bd_t hdeg, h, show pv (pw 0) = -1 from pv_0, if_pos rfl]
    · rw [bd_t hd2, h, if_neg (by decide)]
  · have hne : pw (P8 f C 0) ≠ 0 := by unfold pw; omega
    refine ⟨0, Or.inl rfl, ⟨fun z => absurd z (by decide), fun z => absurd z h⟩, ?_, fun u1 u2 u3 => ?_⟩
    · unfold fX2_isDivided
      rw [bd_t hdeg, if_neg (show ¬ pv (pw (P8 f C 0)) = -1 from fun z => hne ((pv_eqq (b := 0) (by omega) (by omega)).mp (z.trans pv_0.symm)))]
    · rw [bd_t hd2, if_pos ((pv_ge0 (by omega)).mpr hne)]
