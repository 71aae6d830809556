/-! the class's form, whole -/
def Redd (C m : Nat) (num : Nat → Int32) (i : Nat) : Prop := ∀ j b k, j < m → j ≠ i → P8 num C j = b + 1 → b / 3 ≤ k → k < 25 → num ((i * 8 + b % 3) * 25 + k) = 0
theorem reduces8 {p C m : Nat} {num yp : Nat → Int32} {yc : Int32} (J : Nat → (Nat → Int32) → Prop) (hp : p = 2 ∨ p = 3 ∨ p = 5 ∨ p = 7) (hC : C ≤ 3) (hm : m ≤ 5) (hJC : JC p C J) (hrep : Rep8 p m num) (hlow : Low8 C m num) (hJ : J m num) (hdp : DP m (P8 num C)) (hld : ld1 C m num) :
    ∃ r, Lp (fun (z : Int32 × (Nat → Int32) × Int32 × (Nat → Int32)) => fX2_toForm_s119 (nI p) (nI C) (nI m) z.1 z.2.1 z.2.2.1 z.2.2.2) ((0 : Int32), num, yc, yp) = some r ∧ Rep8 p m r.1 ∧ Low8 C m r.1 ∧ J m r.1 ∧ DP m (P8 r.1 C) ∧ ld1 C m r.1 ∧ ∀ i, i < m → Redd C m r.1 i := by
  refine Lp_up (fun i (s : (Nat → Int32) × Int32 × (Nat → Int32)) => (i, s.1, s.2.1, s.2.2)) m (fun j s => Rep8 p m s.1 ∧ Low8 C m s.1 ∧ J m s.1 ∧ DP m (P8 s.1 C) ∧ ld1 C m s.1 ∧ ∀ i, i < j → Redd C m s.1 i) _ ?_ ?_ 0 (num, yc, yp) (Nat.zero_le _) ⟨hrep, hlow, hJ, hdp, hld, fun i hi => absurd hi (Nat.not_lt_zero _)⟩
  · rintro i ⟨x, c0, y0⟩ hi ⟨q1, q2, q3, q4, q5, q6⟩
    dsimp only at q1 q2 q3 q4 q5 q6 ⊢
    obtain ⟨x', pl, g1, g2, g3, g4, g5, g6, g7, g8⟩ := reduceS (yp := y0) J hp hC hm hJC q1 q2 q3 hi q4 q5
    refine Or.inl ⟨(x', nI m, pl), ?_, g2, g3, g4, ?_, g6, ?_⟩
    · unfold fX2_toForm_s119
      rw [if_neg (nI_ge hi (by omega))]
      exact bd3_t g1
    · refine ⟨fun i' hi' => by rw [g5 i' hi']; exact q4.1 i' hi', fun i' j' hi' hj' hne => by rw [g5 i' hi', g5 j' hj']; exact q4.2 i' j' hi' hj' hne⟩
    · intro i' hi' j b k hj hji hb hbk hk
      dsimp only at hb ⊢
      have hb2 : P8 x C j = b + 1 := by rw [← g5 j hj]; exact hb
      by_cases e : i' = i
      · subst e
        exact g8 j b k hj hji hb2 hbk hk
      · rw [g7 i' (b % 3) k e (by omega) hk]
        exact q6 i' (by omega) j b k hj hji hb2 hbk hk
  · rintro ⟨x, c0, y0⟩ ⟨q1, q2, q3, q4, q5, q6⟩
    refine ⟨_, ?_, q1, q2, q3, q4, q5, q6⟩
    dsimp only
    unfold fX2_toForm_s119
    rw [if_pos (nI_le (Nat.le_refl _) (by omega))]
/-- swap -/
theorem X3swap8 {p m i j : Nat} {num : Nat → Int32} (hp : 0 < p) (hp2 : p < 1000) (hm : m ≤ 5) (hi : i < m) (hj : j < m) (hij : i ≠ j) (hrep : Rep8 p m num) : ∃ num', fX3_swap 1000 (5 : Int32) (8 : Int32) (25 : Int32) (nI p) num (nI i) (nI j) = some num' ∧ OpW m num num' i j := by
  have key := loop2 (w := 8) (q := 25) (fun i_1 z => fX3_swap_s13 1000 (nI 5) (nI 8) (nI 25) (nI p) (nI i) (nI j) i_1 z.1 z.2) (fun z => fX3_swap_s2 1000 (nI 5) (nI 8) (nI 25) (nI p) (nI i) (nI j) z.1 z.2)
    (fun c0 k0 x => ∀ i' c k, i' < m → c < 8 → k < 25 → x ((i' * 8 + c) * 25 + k) = if c < c0 ∨ c = c0 ∧ k < k0 then num (((if i' = i then j else if i' = j then i else i') * 8 + c) * 25 + k) else num ((i' * 8 + c) * 25 + k)) ?_ ?_ ?_ ?_ num ?_
  · obtain ⟨num', h1, h2⟩ := key
    refine ⟨num', ?_, hi, hj, ?_⟩
    · unfold fX3_swap
      exact bd_t h1
    · intro i' c k hi' hc hk
      rw [h2 i' c k hi' hc hk, if_pos (Or.inl hc)]
  · intro c k x hc hk hI
    obtain ⟨vi, hvi, hvie⟩ := hrep i c k hi hc hk
    obtain ⟨vj, hvj, hvje⟩ := hrep j c k hj hc hk
    have hxi : x ((i * 8 + c) * 25 + k) = nI vi := by rw [hI i c k hi hc hk, if_neg (by omega), hvie]
    have hxj : x ((j * 8 + c) * 25 + k) = nI vj := by rw [hI j c k hj hc hk, if_neg (by omega), hvje]
    have hviI : (nI vi).toInt = (vi : Int) := nI_toInt (by omega)
    have hvjI : (nI vj).toInt = (vj : Int) := nI_toInt (by omega)
    have hne : (i * 8 + c) * 25 + k ≠ (j * 8 + c) * 25 + k := by omega
    have p1 := X3put_in (L := 1000) (R := 5) (w := 8) (q := 25) (i := i) (c := c) (k := k) (p := p) (num := x) (v := nI vj) rfl (by omega) (by omega) (by omega) (by omega) (by omega) hc hk hp hp2 (by rw [hvjI]; omega) (by rw [hvjI]; omega)
    rw [hvjI, md_small hvj] at p1
    have p2 := X3put_in (L := 1000) (R := 5) (w := 8) (q := 25) (i := j) (c := c) (k := k) (p := p) (num := upd x ((i * 8 + c) * 25 + k) (nI vj)) (v := nI vi) rfl (by omega) (by omega) (by omega) (by omega) (by omega) hc hk hp hp2 (by rw [hviI]; omega) (by rw [hviI]; omega)
    rw [hviI, md_small hvi] at p2
    refine ⟨upd (upd x ((i * 8 + c) * 25 + k) (nI vj)) ((j * 8 + c) * 25 + k) (nI vi), ?_, ?_⟩
    · dsimp only
      unfold fX3_swap_s13
      rw [if_neg (nI_ge hk (by omega))]
      rw [bd_t (X3at_in (L := 1000) (R := 5) (w := 8) (q := 25) rfl (by omega) (by omega) (by omega) (by omega) (show i < 5 by omega) hc hk), bd_t (X3at_in (L := 1000) (R := 5) (w := 8) (q := 25) rfl (by omega) (by omega) (by omega) (by omega) (show j < 5 by omega) hc hk), hxi, hxj, bd_t p1, bd_t p2]
    · intro i' c' k' hi' hc' hk'
      by_cases ej : (i' * 8 + c') * 25 + k' = (j * 8 + c) * 25 + k
      · have e1 : i' = j := by omega
        have e2 : c' = c := by omega
        have e3 : k' = k := by omega
        subst e1; subst e2; subst e3
        rw [pk_us, if_pos (by omega), if_neg (fun z => hij z.symm), if_pos rfl, hvie]
      · rw [pk_un ej]
        by_cases ei : (i' * 8 + c') * 25 + k' = (i * 8 + c) * 25 + k
        · have e1 : i' = i := by omega
          have e2 : c' = c := by omega
          have e3 : k' = k := by omega
          subst e1; subst e2; subst e3
          rw [pk_us, if_pos (show c' < c' ∨ c' = c' ∧ k' < k' + 1 by omega), if_pos rfl, hvje]
        · rw [pk_un ei, hI i' c' k' hi' hc' hk']
          by_cases h : c' < c ∨ c' = c ∧ k' < k
          · rw [if_pos h, if_pos (show c' < c ∨ c' = c ∧ k' < k + 1 by omega)]
          · rw [if_neg h]
            by_cases h2 : c' < c ∨ c' = c ∧ k' < k + 1
            · rw [if_pos h2, if_neg (by omega), if_neg (by omega)]
            · rw [if_neg h2]
  · intro c x hc hI
    refine ⟨?_, ?_⟩
    · dsimp only
      unfold fX3_swap_s13
      rw [if_pos (nI_le (Nat.le_refl _) (by omega))]
    · intro i' c' k' hi' hc' hk'
      rw [hI i' c' k' hi' hc' hk']
      by_cases h : c' < c ∨ c' = c ∧ k' < 25
      · rw [if_pos h, if_pos (show c' < c + 1 ∨ c' = c + 1 ∧ k' < 0 by omega)]
      · rw [if_neg h, if_neg (show ¬ (c' < c + 1 ∨ c' = c + 1 ∧ k' < 0) by omega)]
  · intro c x hc
    dsimp only
    unfold fX3_swap_s2
    rw [if_neg (nI_ge hc (by omega))]
  · intro x
    dsimp only
    unfold fX3_swap_s2
    rw [if_pos (nI_le (Nat.le_refl _) (by omega))]
  · intro i' c k _ hc hk
    rw [if_neg (by omega)]
def sw2 (i j a : Nat) : Nat := if a = i then j else if a = j then i else a
theorem sw2_lt {m i j a : Nat} (hi : i < m) (hj : j < m) (ha : a < m) : sw2 i j a < m := by
  unfold sw2
  split
  · exact hj
  · split
    · exact hi
    · exact ha
theorem sw2_inj {i j a b : Nat} (h : sw2 i j a = sw2 i j b) : a = b := by
  unfold sw2 at h
  split at h <;> split at h <;> (try split at h) <;> (try split at h) <;> omega
/-- all that a swap keeps -/
theorem swap_keeps {p C m i j : Nat} {num num' : Nat → Int32} (hC : C ≤ 3) (ho : OpW m num num' i j) (h1 : Rep8 p m num) (h2 : Low8 C m num) (h3 : DP m (P8 num C)) (h4 : ld1 C m num) (h5 : ∀ i, i < m → Redd C m num i) : Rep8 p m num' ∧ Low8 C m num' ∧ DP m (P8 num' C) ∧ ld1 C m num' ∧ (∀ i, i < m → Redd C m num' i) ∧ ∀ a, a < m → P8 num' C a = P8 num C (sw2 i j a) := by
  obtain ⟨hi, hj, ho⟩ := ho
  have hP : ∀ a, a < m → P8 num' C a = P8 num C (sw2 i j a) := fun a ha => P8_same hC (fun c k hc hk => ho a c k ha hc hk)
  refine ⟨?_, ?_, ⟨?_, ?_⟩, ?_, ?_, hP⟩
  · intro a c k ha hc hk
    rw [ho a c k ha hc hk]
    exact h1 _ c k (sw2_lt hi hj ha) hc hk
  · intro a c k ha hc h8 hk
    rw [ho a c k ha (by omega) hk]
    exact h2 _ c k (sw2_lt hi hj ha) hc h8 hk
  · intro a ha
    rw [hP a ha]
    exact h3.1 _ (sw2_lt hi hj ha)
  · intro a b ha hb hne
    rw [hP a ha, hP b hb]
    exact h3.2 _ _ (sw2_lt hi hj ha) (sw2_lt hi hj hb) (fun e => hne (sw2_inj e))
  · intro a b ha hb
    have hb2 : P8 num C (sw2 i j a) = b + 1 := by rw [← hP a ha]; exact hb
    rw [ho a (b % 3) (b / 3) ha (by omega) (by have := (plc_spec _ _ _ _ hb).1; omega)]
    exact h4 (sw2 i j a) b (sw2_lt hi hj ha) hb2
  · intro a ha a' b k ha' hne hb hbk hk
    have hb2 : P8 num C (sw2 i j a') = b + 1 := by rw [← hP a' ha']; exact hb
    rw [ho a (b % 3) k ha (by omega) hk]
    exact h5 (sw2 i j a) (sw2_lt hi hj ha) (sw2 i j a') b k (sw2_lt hi hj ha') (fun e => hne (sw2_inj e)) hb2 hbk hk
theorem pv_le {P Q : Nat} (hP : P < 1000) (hQ : Q < 1000) (h1 : P ≠ 0) (h2 : Q ≠ 0) : pv P ≤ pv Q ↔ P ≤ Q := by
  obtain ⟨a, rfl⟩ : ∃ a, P = a + 1 := ⟨P - 1, by omega⟩
  obtain ⟨b, rfl⟩ : ∃ b, Q = b + 1 := ⟨Q - 1, by omega⟩
  rw [pv_s, pv_s, nI_leI (by omega) (by omega)]
  omega
theorem sort8 {p C m : Nat} {num : Nat → Int32} (J : Nat → (Nat → Int32) → Prop) (hp : p = 2 ∨ p = 3 ∨ p = 5 ∨ p = 7) (hC : C ≤ 3) (hm : m ≤ 5) (hJC : JC p C J) (hrep : Rep8 p m num) (hlow : Low8 C m num) (hJ : J m num) (hdp : DP m (P8 num C)) (hld : ld1 C m num) (hred : ∀ i, i < m → Redd C m num i) :
    ∃ num', fX2_sort (nI p) (nI C) (nI m) num = some num' ∧ Rep8 p m num' ∧ Low8 C m num' ∧ J m num' ∧ DP m (P8 num' C) ∧ ld1 C m num' ∧ (∀ i, i < m → Redd C m num' i) ∧ ∀ a b, a < b → b < m → P8 num' C a < P8 num' C b := by
  let G : (Nat → Int32) → Prop := fun x => Rep8 p m x ∧ Low8 C m x ∧ J m x ∧ DP m (P8 x C) ∧ ld1 C m x ∧ ∀ i, i < m → Redd C m x i
  obtain ⟨num', h1, h2, h3⟩ := Lp_up (fun i s => (i, s)) (g := fun (z : Int32 × (Nat → Int32)) => fX2_sort_s2 (nI p) (nI C) (nI m) z.1 z.2) m (fun i x => G x ∧ ∀ a b, a < i → a < b → b < m → P8 x C a < P8 x C b) (fun x => G x ∧ ∀ a b, a < b → b < m → P8 x C a < P8 x C b)
    (fun i x hi hI => by
      obtain ⟨hG, hA⟩ := hI
      obtain ⟨x', g1, g2, g3⟩ := Lp_up (fun i s => (i, s)) (g := fun (z : Int32 × (Nat → Int32)) => fX2_sort_s17 (nI p) (nI C) (nI m) (nI i) z.1 z.2) m (fun j x => i < j ∧ G x ∧ (∀ a b, a < i → a < b → b < m → P8 x C a < P8 x C b) ∧ ∀ b, i < b → b < j → P8 x C i < P8 x C b) (fun x => G x ∧ ∀ a b, a < i + 1 → a < b → b < m → P8 x C a < P8 x C b)
        (fun j x hj hI => by
          obtain ⟨hlt, hG, hA, hB⟩ := hI
          obtain ⟨q1, q2, q3, q4, q5, q6⟩ := hG
          have pj := X3place' (L := 1000) (R := 5) (w := 8) (q := 25) (i := j) (C := C) (num := x) rfl (by omega) (by omega) (by omega) (by omega) (by omega) hC (by omega)
          have pi := X3place' (L := 1000) (R := 5) (w := 8) (q := 25) (i := i) (C := C) (num := x) rfl (by omega) (by omega) (by omega) (by omega) (by omega) hC (by omega)
          have lj : P8 x C j ≤ 24 := rP_le x 8 25 C j
          have li : P8 x C i ≤ 24 := rP_le x 8 25 C i
          have hne : i ≠ j → P8 x C i ≠ P8 x C j := fun e z => q4.2 i j hi hj e (by rw [z])
          dsimp only
          unfold fX2_sort_s17
          rw [if_neg (nI_ge hj (by omega))]
          by_cases hle : P8 x C i ≤ P8 x C j
          · refine Or.inl ⟨x, (bd_t pj).trans ((bd_t pi).trans (if_pos ((pv_le (by show P8 x C i < 1000; omega) (by show P8 x C j < 1000; omega) (q4.1 i hi) (q4.1 j hj)).mpr hle))), by omega, ⟨q1, q2, q3, q4, q5, q6⟩, hA, ?_⟩
            intro b hb1 hb2
            by_cases e : b = j
            · subst e
              have := hne (by omega)
              omega
            · exact hB b hb1 (by omega)
          · have hij : i ≠ j := fun e => hle (by rw [e]; exact Nat.le_refl _)
            obtain ⟨x', g1, g2⟩ := X3swap8 (p := p) (m := m) (i := i) (j := j) (num := x) (by omega) (by omega) hm hi hj hij q1
            obtain ⟨r1, r2, r3, r4, r5, r6⟩ := swap_keeps hC g2 q1 q2 q4 q5 q6
            refine Or.inl ⟨x', (bd_t pj).trans ((bd_t pi).trans ((if_neg (fun h => hle ((pv_le (by show P8 x C i < 1000; omega) (by show P8 x C j < 1000; omega) (q4.1 i hi) (q4.1 j hj)).mp h))).trans (bd_t g1))), by omega, ⟨r1, r2, hJC.2.2.1 m x x' i j hm q1 q3 g2, r3, r4, r5⟩, ?_, ?_⟩
            · intro a b ha hab hb
              · rw [r6 a (by omega), r6 b hb]
                have ea : sw2 i j a = a := by
                  unfold sw2
                  rw [if_neg (by omega), if_neg (by omega)]
                rw [ea]
                have hlt : a < sw2 i j b := by
                  unfold sw2
                  split
                  · omega
                  · split <;> omega
                exact hA a _ ha hlt (sw2_lt hi hj hb)
            · intro b hb1 hb2
              have e1 : sw2 i j i = j := by unfold sw2; rw [if_pos rfl]
              rw [r6 i hi, e1, r6 b (by omega)]
              by_cases e : b = j
              · subst e
                have e2 : sw2 i b b = i := by unfold sw2; rw [if_neg (by omega), if_pos rfl]
                rw [e2]
                omega
              · have e2 : sw2 i j b = b := by unfold sw2; rw [if_neg (by omega), if_neg e]
                rw [e2]
                have := hB b hb1 (by omega)
                omega)
        (fun x hI => by
          obtain ⟨hlt, hG, hA, hB⟩ := hI
          refine ⟨x, ?_, hG, ?_⟩
          · dsimp only
            unfold fX2_sort_s17
            rw [if_pos (nI_le (Nat.le_refl _) (by omega))]
          · intro a b ha hab hb
            by_cases e : a = i
            · rw [e] at hab ⊢; exact hB b hab hb
            · exact hA a b (by omega) hab hb) (i + 1) x (by omega) ⟨by omega, hG, hA, fun b h1 h2 => by omega⟩
      refine Or.inl ⟨x', ?_, g2, g3⟩
      dsimp only
      unfold fX2_sort_s2
      rw [if_neg (nI_ge hi (by omega)), nI_1]
      exact bd_t g1)
    (fun x hI => by
      refine ⟨x, ?_, hI.1, fun a b hab hb => hI.2 a b (by omega) hab hb⟩
      dsimp only
      unfold fX2_sort_s2
      rw [if_pos (nI_le (Nat.le_refl _) (by omega))]) 0 num (Nat.zero_le _) ⟨⟨hrep, hlow, hJ, hdp, hld, hred⟩, fun a b h => absurd h (Nat.not_lt_zero _)⟩
  obtain ⟨q1, q2, q3, q4, q5, q6⟩ := h2
  refine ⟨num', ?_, q1, q2, q3, q4, q5, q6, h3⟩
  unfold fX2_sort
  exact bd_t h1
/-- toForm -/
theorem toForm8 {p C n : Nat} {num pl yp : Nat → Int32} {a1 a2 a3 a4 a5 a6 : Int32} (J : Nat → (Nat → Int32) → Prop) (hp : p = 2 ∨ p = 3 ∨ p = 5 ∨ p = 7) (hC : C ≤ 3) (hn : n ≤ 5) (hJC : JC p C J) (hrep : Rep8 p n num) (hlow : Low8 C n num) (hJ : J n num) :
    ∃ m num' b1 b2 b3 b4 b5 b6 b7 b8, fX2_toForm (nI p) (nI C) (nI n) num a1 a2 a3 a4 a5 pl a6 yp = some (nI m, num', b1, b2, b3, b4, b5, b6, b7, b8) ∧ m ≤ n ∧ Rep8 p m num' ∧ Low8 C m num' ∧ J m num' ∧ (∀ i, i < m → P8 num' C i ≠ 0) ∧ Popv p C m (rw8 num') (fun i => P8 num' C i - 1) := by
  obtain ⟨⟨x1, y1, y2, y3, y4, y5, y6⟩, h1, s1, s2, s3, s4⟩ := steps8 (n0 := a3) (p0 := a4) (s0 := a2) (t0 := a1) (z0 := a5) (pl := pl) J hp hC hn hJC hrep hlow hJ
  dsimp only at s1 s2 s3 s4
  obtain ⟨m, x2, h2, hmn, t1, t2, t3, t4, t5⟩ := removes8 J hp hC hn hJC s1 s2 s3 s4
  obtain ⟨x3, h3, u1, u2, u3, u4, u5⟩ := scales8 J hp hC (by omega) hJC t1 t2 t3 t5
  have hdp : DP m (P8 x3 C) := by
    have := DP_of t5 t4
    exact ⟨fun i hi => by rw [u4 i hi]; exact this.1 i hi, fun i j hi hj e => by rw [u4 i hi, u4 j hj]; exact this.2 i j hi hj e⟩
  obtain ⟨⟨x4, z1, z2⟩, h4, v1, v2, v3, v4, v5, v6⟩ := reduces8 (yp := yp) (yc := a6) J hp hC (by omega) hJC u1 u2 u3 hdp u5
  dsimp only at v1 v2 v3 v4 v5 v6
  obtain ⟨x5, h5, w1, w2, w3, w4, w5, w6, w7⟩ := sort8 J hp hC (by omega) hJC v1 v2 v3 v4 v5 v6
  refine ⟨m, x5, y4, y3, y1, y2, y5, y6, z1, z2, ?_, hmn, w1, w2, w3, w4.1, ?_⟩
  · unfold fX2_toForm
    exact (bd7_t h1).trans ((bd2_t h2).trans ((bd_t h3).trans ((bd3_t h4).trans (bd_t h5))))
  · have hpd : ∀ i, i < m → ∃ a, P8 x5 C i = a + 1 := fun i hi => ⟨P8 x5 C i - 1, by have := w4.1 i hi; omega⟩
    refine ⟨fun i hi => ?_, fun i j hi hj e => w4.2 i j hi hj e, fun i j hi hj e k hk => ?_, fun i j hij hj => ?_⟩
    · obtain ⟨a, ha⟩ := hpd i hi
      dsimp only
      rw [ha, Nat.add_sub_cancel]
      have hs := plc_spec _ _ _ _ ha
      refine ⟨hs.2.1, ⟨0, ?_⟩, fun c k hc hlt => ⟨0, ?_⟩⟩
      · unfold rw8 cl8
        rw [if_pos (by omega), w5 i a hi ha]
        rfl
      · unfold rw8 cl8
        by_cases hk : k < 25
        · rw [if_pos hk, above8 hC w2 hi ha hc hk hlt]
          rfl
        · rw [if_neg hk]
          rfl
    · obtain ⟨b, hb⟩ := hpd j hj
      dsimp only at hk ⊢
      rw [hb, Nat.add_sub_cancel] at hk ⊢
      refine ⟨0, ?_⟩
      unfold rw8 cl8
      by_cases hk2 : k < 25
      · rw [if_pos hk2, w6 i hi j b k hj (fun z => e z.symm) hb hk hk2]
        rfl
      · rw [if_neg hk2]
        rfl
    · have := w7 i j hij hj
      have := w4.1 i (by omega)
      dsimp only
      omega
