/-! a row divided by the form: the class -/
def OpT (p : Nat) (num f f' : Nat → Int32) (j : Nat) (t : Int) (pw : Nat) : Prop := ∀ c k, c < 8 → k < 25 → f' ((0 * 8 + c) * 25 + k) = nI (md (cl8 f 0 c k + (if pw ≤ k then t * cl8 num j c (k - pw) else 0)) p)
theorem reduceT {p C m : Nat} {num fnum yp : Nat → Int32} (J : (Nat → Int32) → Prop) (hp : p = 2 ∨ p = 3 ∨ p = 5 ∨ p = 7) (hC : C ≤ 3) (hm : m ≤ 5) (hrep : Rep8 p m num) (hlow : Low8 C m num) (hld : ld1 C m num) (hf : Rep8 p 1 fnum) (hfl : Low8 C 1 fnum) (hJ0 : J fnum)
    (hJ : ∀ f f' j v pw, Rep8 p 1 f → Low8 C 1 f → j < m → pw ≤ 7 → OpT p num f f' j (-((v : Nat) : Int)) pw → Low8 C 1 f' → J f → J f') :
    ∃ f' pl, fX2_reduce_e01 (nI C) (nI m) num (nI p) fnum yp 0 (-1) = some (f', nI m, pl) ∧ Rep8 p 1 f' ∧ Low8 C 1 f' ∧ J f' ∧ ∀ j b k, j < m → P8 num C j = b + 1 → b / 3 ≤ k → k < 25 → f' ((0 * 8 + b % 3) * 25 + k) = 0 := by
  have hp0 : 0 < p := by omega
  obtain ⟨pl, hm1, hm2⟩ := X5measure (places := yp) (L := 1000) (R := 5) (w := 8) (q := 25) (n := m) (C := C) (num := num) rfl (by omega) (by omega) (by omega) (by omega) hm hm hC (by omega)
  have hPle : ∀ i, P8 num C i ≤ 24 := fun i => rP_le num 8 25 C i
  let RI : Nat → (Nat → Int32) → Prop := fun s x => Rep8 p 1 x ∧ Low8 C 1 x ∧ J x ∧ ∀ j b k, j < m → P8 num C j = b + 1 → b / 3 ≤ k → k < 25 → s ≤ k * 3 + b % 3 → x ((0 * 8 + b % 3) * 25 + k) = 0
  have hin : ∀ c k x, c < C → k < 8 → RI (k * 3 + (c + 1)) x → ∃ x', fX2_reduce_e01_s31 num (nI p) 0 (-1) (nI k) (nI m) pl (nI c) x = some (.inl (nI c + (-1), x')) ∧ RI (k * 3 + c) x' := by
    intro c k x hc hk hI
    obtain ⟨q1, q2, q3, q6⟩ := hI
    obtain ⟨v, hv, hve⟩ := q1 0 c k (by omega) (by omega) (by omega)
    have hat : fX3_at 200 (1 : Int32) (8 : Int32) (25 : Int32) x (0 : Int32) (nI c) (nI k) = some (nI v) := (X3at_in (L := 200) (R := 1) (w := 8) (q := 25) (i := 0) (c := c) (k := k) (num := x) rfl (by omega) (by omega) (by omega) (by omega) (by omega) (by omega) (by omega)).trans (congrArg some hve)
    unfold fX2_reduce_e01_s31
    rw [if_neg (nI_pos (by omega))]
    by_cases hv0 : v = 0
    · subst hv0
      refine ⟨x, (bd_t hat).trans ((bd_t (if_pos rfl)).trans (if_pos rfl)), q1, q2, q3, ?_⟩
      intro j b k' hj hb hbk hk' hs
      by_cases e : k' * 3 + b % 3 = k * 3 + c
      · have hb3 : b % 3 < C := (plc_spec _ _ _ _ hb).2.1
        have e1 : b % 3 = c := by omega
        have e2 : k' = k := by omega
        rw [e1, e2]
        exact hve
      · exact q6 j b k' hj hb hbk hk' (by omega)
    · have hvn : ¬ nI v = 0 := nI_ne0 (by omega) (by omega)
      rcases X5rowFor (P := P8 num C) (pl := pl) (n := m) (c := c) (k := k) (but := (-1 : Int32)) hm (by omega) (by omega) hPle hm2 with ⟨j, b, hj, hjb, hb, hbc, hbk, hff⟩ | ⟨hno, hff⟩
      · have hb24 : b < 24 := (plc_spec _ _ _ _ hb).1
        have hpa := X5placeAt (places := pl) (i := j) (by omega)
        rw [hm2 j hj] at hpa
        have hb2 : rP num 8 25 C j = b + 1 := hb
        rw [hb2, pv_s] at hpa
        have hvI : (nI v).toInt = (v : Int) := nI_toInt (by omega)
        have hneg : (-nI v).toInt = -(v : Int) := by rw [i32_neg (by omega), hvI]
        obtain ⟨x', g1, g2, g3⟩ := X3add (L := 200) (R := 1) (w := 8) (q := 25) (L2 := 1000) (R2 := 5) (w2 := 8) (q2 := 25) (i := 0) (j := j) (p := p) (pw := k - b / 3) (num := x) (qnum := num) (t := -nI v) (fun c k => (num ((j * 8 + c) * 25 + k)).toInt.toNat) rfl (by omega) (by omega) (by omega) (by omega) (by omega) (by omega) hp0 (by omega) (by omega) (by rw [hneg]; omega) (by rw [hneg]; omega)
          (fun c k hc hk => by
            obtain ⟨w, hw, e⟩ := hrep j c k hj hc hk
            have e2 : (num ((j * 8 + c) * 25 + k)).toInt.toNat = w := by rw [e, nI_toInt (by omega)]; omega
            rw [e2]
            exact ⟨by omega, (X3at_in (L := 1000) (R := 5) (w := 8) (q := 25) rfl (by omega) (by omega) (by omega) (by omega) (by omega) hc hk).trans (congrArg some e)⟩)
          (fun c k hc hk => q1 0 c k (by omega) hc hk)
        have hop : OpT p num x x' j (-(v : Int)) (k - b / 3) := by
          intro c' k' hc' hk'
          rw [g2 c' k' hc' hk', hneg]
          have e1 : (if k - b / 3 ≤ k' ∧ k' - (k - b / 3) < 25 then -(v : Int) * (((num ((j * 8 + c') * 25 + (k' - (k - b / 3)))).toInt.toNat : Nat) : Int) else 0) = (if k - b / 3 ≤ k' then -(v : Int) * cl8 num j c' (k' - (k - b / 3)) else 0) := by
            by_cases h : k - b / 3 ≤ k'
            · rw [if_pos ⟨h, by omega⟩, if_pos h]
              have := (Rep8_le (by omega) hrep hj hc' (show k' - (k - b / 3) < 25 by omega)).1
              unfold cl8 at this ⊢
              rw [Int.toNat_of_nonneg this]
            · rw [if_neg (fun z => h z.1), if_neg h]
          rw [e1]
          rfl
        have hl1 := hld j b hj hb
        have r1 : x' ((0 * 8 + c) * 25 + k) = 0 := by
          have e1 : cl8 x 0 c k = (v : Int) := by unfold cl8; rw [hve, nI_toInt (by omega)]
          have e2 : cl8 num j c (k - (k - b / 3)) = 1 := by
            unfold cl8
            rw [show k - (k - b / 3) = b / 3 by omega, ← hbc, hl1]
            rfl
          rw [hop c k (by omega) (by omega), if_pos (by omega), e1, e2, md_zero hp0 ⟨0, by omega⟩]
          rfl
        have r2 : ∀ c' k', c' < C → k' < 25 → k * 3 + c < k' * 3 + c' → x' ((0 * 8 + c') * 25 + k') = x ((0 * 8 + c') * 25 + k') := by
          intro c' k' hc' hk' hlt
          have e2 : (if k - b / 3 ≤ k' then -(v : Int) * cl8 num j c' (k' - (k - b / 3)) else 0) = 0 := by
            by_cases h : k - b / 3 ≤ k'
            · rw [if_pos h]
              have : cl8 num j c' (k' - (k - b / 3)) = 0 := by
                unfold cl8
                rw [above8 hC hlow hj hb hc' (by omega) (by omega)]
                rfl
              rw [this, Int.mul_zero]
            · rw [if_neg h]
          obtain ⟨w, hw, hwe⟩ := q1 0 c' k' (by omega) (by omega) hk'
          have e1 : cl8 x 0 c' k' = (w : Int) := by unfold cl8; rw [hwe, nI_toInt (by omega)]
          rw [hop c' k' (by omega) hk', e2, e1, Int.add_zero, md_small hw, hwe]
        have hlow' : Low8 C 1 x' := by
          intro i' c' k' hi' hc' h8 hk'
          have e0 : i' = 0 := by omega
          rw [e0, r2 c' k' hc' hk' (by omega)]
          exact q2 0 c' k' (by omega) hc' h8 hk'
        refine ⟨x', (bd_t hat).trans ((bd_t ((if_neg hvn).trans ((bd_t hff).trans rfl))).trans ((if_neg (nI_m1 (by omega))).trans ((bd_t hpa).trans ?_))), ?_, hlow', hJ x x' j v _ q1 q2 hj (by omega) hop hlow' q3, ?_⟩
        · rw [powerAt_nI (by omega), pk_sub hbk]
          exact bd_t g1
        · intro i' c' k' hi' hc' hk'
          have e0 : i' = 0 := by omega
          rw [e0]
          exact ⟨_, md_lt hp0, hop c' k' hc' hk'⟩
        · intro j' b' k' hj' hb' hbk' hk' hs
          have hb3 : b' % 3 < C := (plc_spec _ _ _ _ hb').2.1
          by_cases e : k' * 3 + b' % 3 = k * 3 + c
          · have e1 : b' % 3 = c := by omega
            have e2 : k' = k := by omega
            rw [e1, e2]
            exact r1
          · rw [r2 (b' % 3) k' hb3 hk' (by omega)]
            exact q6 j' b' k' hj' hb' hbk' hk' (by omega)
      · refine ⟨x, (bd_t hat).trans ((bd_t ((if_neg hvn).trans ((bd_t hff).trans rfl))).trans (if_pos rfl)), q1, q2, q3, ?_⟩
        intro j b k' hj hb hbk hk' hs
        have hb3 : b % 3 < C := (plc_spec _ _ _ _ hb).2.1
        by_cases e : k' * 3 + b % 3 = k * 3 + c
        · exfalso
          have e2 : k' = k := by omega
          exact hno j b hj (nI_m1 (by omega)) hb (by omega) (by omega)
        · exact q6 j b k' hj hb hbk hk' (by omega)
  obtain ⟨f', h1, h2⟩ := Lp_dn (fun i s => (i, s)) (g := fun (z : Int32 × (Nat → Int32)) => fX2_reduce_e01_s15 (nI C) num (nI p) 0 (-1) (nI m) pl z.1 z.2) (fun k x => RI (k * 3) x) (fun x => RI 0 x) 8
    (fun k x hk hI => by
      obtain ⟨x', g1, g2⟩ := Lp_dn (fun i s => (i, s)) (g := fun (z : Int32 × (Nat → Int32)) => fX2_reduce_e01_s31 num (nI p) 0 (-1) (nI k) (nI m) pl z.1 z.2) (fun c x => RI (k * 3 + c) x) (fun x => RI (k * 3) x) C
        (fun c x hc hI => by
          obtain ⟨x', g1, g2⟩ := hin c k x hc hk hI
          exact Or.inl ⟨x', g1, g2⟩)
        (fun x hI => by
          refine ⟨x, ?_, hI⟩
          dsimp only
          unfold fX2_reduce_e01_s31
          rw [if_pos (by decide)]) C x (Nat.le_refl _) (by
          obtain ⟨q1, q2, q3, q6⟩ := hI
          refine ⟨q1, q2, q3, fun j b k' hj hb hbk hk' hs => ?_⟩
          have hb3 : b % 3 < C := (plc_spec _ _ _ _ hb).2.1
          exact q6 j b k' hj hb hbk hk' (by omega))
      refine Or.inl ⟨x', ?_, g2⟩
      dsimp only
      unfold fX2_reduce_e01_s15
      rw [if_neg (nI_pos (by omega)), show (nI C - (1 : Int32)) = nI C + (-1) from Int32.sub_eq_add_neg ..]
      exact bd_t g1)
    (fun x hI => by
      refine ⟨x, ?_, hI⟩
      dsimp only
      unfold fX2_reduce_e01_s15
      rw [if_pos (by decide)]) 8 fnum (Nat.le_refl _) ⟨hf, hfl, hJ0, fun j b k hj hb hbk hk hs => hfl 0 (b % 3) k (by omega) (plc_spec _ _ _ _ hb).2.1 (by omega) hk⟩
  obtain ⟨q1, q2, q3, q6⟩ := h2
  refine ⟨f', pl, ?_, q1, q2, q3, fun j b k hj hb hbk hk => q6 j b k hj hb hbk hk (Nat.zero_le _)⟩
  unfold fX2_reduce_e01
  have h7 : nI 8 + (-1) = (7 : Int32) := by decide
  rw [h7] at h1
  exact (bd2_t hm1).trans (bd_t h1)
/-- the row that is divided, laid -/
def ftl (V : Nat → Nat → Nat → Nat) (s c k : Nat) : Nat := if c < 3 ∧ k < 7 then V s c k else 0
theorem lay_left {p i : Nat} {nnum fnum : Nat → Int32} (V : Nat → Nat → Nat → Nat) (hp : 1 < p) (hp2 : p < 10) (hi : i < 5) (hV : ∀ c k, c < 3 → k < 7 → V i c k < p ∧ nnum ((i * 3 + c) * 7 + k) = nI (V i c k)) :
    ∃ n1 n2, fX3_append 200 (1 : Int32) (8 : Int32) (25 : Int32) (nI p) (0 : Int32) fnum = some (0, 1, n1) ∧ fX3_addTimes 200 (1 : Int32) (8 : Int32) (25 : Int32) (nI p) n1 105 (5 : Int32) (3 : Int32) (7 : Int32) nnum (0 : Int32) (nI i) (1 : Int32) (0 : Int32) = some n2 ∧ ∀ c k, c < 8 → k < 25 → n2 ((0 * 8 + c) * 25 + k) = nI (ftl V i c k) := by
  obtain ⟨n1, h1, c1⟩ := X3append (L := 200) (R := 1) (w := 8) (q := 25) (n := 0) (p := p) (num := fnum) rfl (by omega) (by omega) (by omega) (by omega) (by omega) (by omega) (by omega)
  obtain ⟨n2, h2, c2, d2⟩ := X3add (L := 200) (R := 1) (w := 8) (q := 25) (L2 := 105) (R2 := 5) (w2 := 3) (q2 := 7) (i := 0) (j := i) (p := p) (pw := 0) (num := n1) (qnum := nnum) (t := 1) (fun c k => if c < 3 then V i c k else 0) rfl (by omega) (by omega) (by omega) (by omega) (by omega) (by omega) (by omega) (by omega) (by omega) (by decide) (by decide)
    (by
      intro c k hc hk
      by_cases h3 : c < 3
      · rw [if_pos h3]
        have := hV c k h3 hk
        exact ⟨by omega, by rw [X3at_in (by rfl) (by omega) (by omega) (by omega) (by omega) hi h3 hk, this.2]⟩
      · rw [if_neg h3]
        exact ⟨by omega, X3at_wide (by omega) hi (by omega) (by omega)⟩)
    (by
      intro c k hc hk
      refine ⟨0, by omega, ?_⟩
      rw [c1 0 c k hc hk, if_pos rfl]
      rfl)
  refine ⟨n1, n2, h1, h2, ?_⟩
  intro c k hc hk
  rw [c2 c k hc hk, c1 0 c k hc hk, if_pos rfl]
  unfold ftl
  by_cases hk7 : k < 7
  · rw [if_pos (show 0 ≤ k ∧ k - 0 < 7 by omega), Nat.sub_zero]
    by_cases hc3 : c < 3
    · rw [if_pos hc3, if_pos ⟨hc3, hk7⟩, show (0 : Int32).toInt = 0 from rfl, show (1 : Int32).toInt = 1 from by decide, Int.zero_add, Int.one_mul, md_small (hV c k hc3 hk7).1]
    · rw [if_neg hc3, if_neg (fun z => hc3 z.1), show (0 : Int32).toInt + (1 : Int32).toInt * ((0 : Nat) : Int) = ((0 : Nat) : Int) from by decide, md_small (by omega)]
  · rw [if_neg (show ¬ (0 ≤ k ∧ k - 0 < 7) by omega), if_neg (fun z => hk7 z.2), show (0 : Int32).toInt + (0 : Int) = ((0 : Nat) : Int) from rfl, md_small (by omega)]
theorem divide8 {p C n m i : Nat} {num nnum fnum yp : Nat → Int32} (V : Nat → Nat → Nat → Nat) (J : (Nat → Int32) → Prop) (hp : p = 2 ∨ p = 3 ∨ p = 5 ∨ p = 7) (hC : C ≤ 3) (hm : m ≤ 5) (hn : n ≤ 5) (hi : i < n) (hV : ∀ i c k, i < n → c < 3 → k < 7 → V i c k < p ∧ nnum ((i * 3 + c) * 7 + k) = nI (V i c k)) (hrep : Rep8 p m num) (hlow : Low8 C m num) (hld : ld1 C m num)
    (hJ0 : ∀ f, (∀ c k, c < 8 → k < 25 → f ((0 * 8 + c) * 25 + k) = nI (ftl V i c k)) → J f)
    (hJ : ∀ f f' j v pw, Rep8 p 1 f → Low8 C 1 f → j < m → pw ≤ 7 → OpT p num f f' j (-((v : Nat) : Int)) pw → Low8 C 1 f' → J f → J f') :
    ∃ f' pl, fX2_divide (nI C) (nI m) num fnum yp 105 (5 : Int32) (3 : Int32) (7 : Int32) (nI p) (nI C) nnum (nI i) = some (nI p, nI C, 1, f', nI m, pl) ∧ Rep8 p 1 f' ∧ Low8 C 1 f' ∧ J f' ∧ ∀ j b k, j < m → P8 num C j = b + 1 → b / 3 ≤ k → k < 25 → f' ((0 * 8 + b % 3) * 25 + k) = 0 := by
  obtain ⟨n1, n2, h1, h2, h3⟩ := lay_left (p := p) (i := i) (nnum := nnum) (fnum := fnum) V (by omega) (by omega) (by omega) (fun c k hc hk => hV i c k hi hc hk)
  have hlt : ∀ c k, ftl V i c k < p := by
    intro c k
    unfold ftl
    by_cases h : c < 3 ∧ k < 7
    · rw [if_pos h]; exact (hV i c k hi h.1 h.2).1
    · rw [if_neg h]; omega
  have hf : Rep8 p 1 n2 := by
    intro a c k ha hc hk
    have e0 : a = 0 := by omega
    rw [e0]
    exact ⟨_, hlt c k, h3 c k hc hk⟩
  have hfl : Low8 C 1 n2 := by
    intro a c k ha hc h8 hk
    have e0 : a = 0 := by omega
    rw [e0, h3 c k (by omega) hk]
    unfold ftl
    rw [if_neg (by omega)]
    rfl
  obtain ⟨f', pl, g1, g2, g3, g4, g5⟩ := reduceT (yp := yp) J hp hC hm hrep hlow hld hf hfl (hJ0 n2 h3) hJ
  refine ⟨f', pl, ?_, g2, g3, g4, g5⟩
  unfold fX2_divide
  rw [bd3_t (show fX3_reset (nI p) (nI C) = some (nI p, nI C, 0) from rfl), bd3_t h1, bd_t h2, bd3_t g1]
