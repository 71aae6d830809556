/-! the factor: both sides alike -/
def rowE (V : Nat → Nat → Nat → Nat) (i : Nat) : Rw := fun c k => if c < 3 then rwV V i c k else 0
def facJ (p C : Nat) (V : Nat → Nat → Nat → Nat) (i K : Nat) (sel : Nat → Nat) (f : Nat → Int32) : Prop := ∃ X : Rw, Span p 8 K (GG V sel) (rdf X (rowE V i)) ∧ ∀ c k, (c < C ∨ 3 ≤ c ∧ c < 8 ∧ k < 25) → (p : Int) ∣ X c k - rw8 f 0 c k
theorem fac_0 {p C n K i : Nat} {V : Nat → Nat → Nat → Nat} {sel : Nat → Nat} {f : Nat → Int32} (hp2 : p < 1000) (hC : C ≤ 3) (hi : i < n) (hV : ∀ i c k, i < n → c < 3 → k < 7 → V i c k < p) (h : ∀ c k, c < 8 → k < 25 → f ((0 * 8 + c) * 25 + k) = nI (ftl V i c k)) : facJ p C V i K sel f := by
  refine ⟨rowE V i, Span_df0 (fun c _ k => rfl), fun c k hck => ⟨0, ?_⟩⟩
  unfold rowE rw8 rwV
  by_cases hk : k < 25
  · rw [if_pos hk]
    unfold cl8
    rw [h c k (by omega) hk]
    unfold ftl
    by_cases h7 : c < 3 ∧ k < 7
    · rw [if_pos h7.1, if_pos h7, if_pos h7, nI_toInt (by have := hV i c k hi h7.1 h7.2; omega)]
      omega
    · rw [if_neg h7, if_neg h7]
      by_cases h3 : c < 3
      · rw [if_pos h3]; rfl
      · rw [if_neg h3]; rfl
  · rw [if_neg hk, if_pos (by omega), if_neg (by omega)]
    omega
theorem OpT_at {p C m j pw : Nat} {t : Int} {num f f' : Nat → Int32} (hp : 0 < p) (hp2 : p < 1000) (hC : C ≤ 3) (hlow : Low8 C m num) (hj : j < m) (hpw : pw ≤ 7) (ho : OpT p num f f' j t pw) {c k : Nat} (hck : c < C ∨ 3 ≤ c ∧ c < 8 ∧ k < 25) : (p : Int) ∣ rw8 f' 0 c k - (rw8 f 0 c k + if pw ≤ k then t * rw8 num j c (k - pw) else 0) := by
  rcases hck with h | ⟨h1, h2, h3⟩
  · exact OpT_row hp hp2 hC hlow hj hpw ho c h k
  · have e1 : rw8 f' 0 c k = (md (cl8 f 0 c k + (if pw ≤ k then t * cl8 num j c (k - pw) else 0)) p : Int) := by
      rw [show rw8 f' 0 c k = cl8 f' 0 c k from if_pos h3]
      unfold cl8
      rw [ho c k h2 h3]
      exact nI_md_toInt hp hp2
    have e : rw8 f 0 c k = cl8 f 0 c k := if_pos h3
    have e2 : (if pw ≤ k then t * rw8 num j c (k - pw) else 0) = (if pw ≤ k then t * cl8 num j c (k - pw) else 0) := by
      by_cases hpk : pw ≤ k
      · rw [if_pos hpk, if_pos hpk, show rw8 num j c (k - pw) = cl8 num j c (k - pw) from if_pos (by omega)]
      · rw [if_neg hpk, if_neg hpk]
    rw [e1, e, e2]
    exact md_dvd hp
theorem fac_s {p C K m i j pw : Nat} {t : Int} {V : Nat → Nat → Nat → Nat} {sel : Nat → Nat} {num f f' : Nat → Int32} (hp : 0 < p) (hp2 : p < 1000) (hC : C ≤ 3) (hlow : Low8 C m num) (hj : j < m) (hpw : pw ≤ 7) (ho : OpT p num f f' j t pw) (hc : cofJ p C V K sel m num) (h : facJ p C V i K sel f) : facJ p C V i K sel f' := by
  have cl := Span_cl p 8 K (GG V sel)
  obtain ⟨Y, hY⟩ := hc
  obtain ⟨X, hX1, hX2⟩ := h
  refine ⟨radd X (rsh t pw (Y j)), cl.2.1 _ _ (cl.2.2.1 _ _ hX1 (cl.2.2.2 _ t pw (hY j hj).1)) (fun c hc k => ⟨0, ?_⟩), fun c k hck => ?_⟩
  · rw [rdf_at]
    unfold radd
    rw [rdf_at]
    omega
  · have h0 := OpT_at hp hp2 hC hlow hj hpw ho hck
    have h1 := hX2 c k hck
    by_cases hpk : pw ≤ k
    · have h2 := (hY j hj).2 c (k - pw) (by omega)
      rw [if_pos hpk] at h0
      exact dvd_comb (t := t) h1 h2 h0 (by unfold radd rsh; rw [if_pos hpk])
    · rw [if_neg hpk] at h0
      refine dvd_comb (t := 0) (y := 0) (b := 0) h1 ⟨0, by omega⟩ (by rw [Int.mul_zero]; exact h0) ?_
      unfold radd rsh
      rw [if_neg hpk]
      omega
/-- what a row that is divided is made of -/
theorem fac_end {p C K i : Nat} {V : Nat → Nat → Nat → Nat} {sel : Nat → Nat} {f : Nat → Int32} (hC : C ≤ 3) (hs5 : ∀ l, l < K → sel l < 5) (hinj : ∀ l l', l < K → l' < K → sel l = sel l' → l = l') (h : facJ p C V i K sel f) (hz : ∀ c k, c < C → rw8 f 0 c k = 0) : ∃ (F : Nat → Pl) (N : Nat), (∀ l k, N ≤ k → F l k = 0) ∧ (∀ c, c < C → pq p (en V i c) (fun k => sm K (fun j => pm (F j) (en V (sel j) c) k))) ∧ ∀ l, l < K → ∀ k, k < 25 → (p : Int) ∣ F l k + cl8 f 0 (3 + sel l) k := by
  obtain ⟨X, hX1, hX2⟩ := h
  obtain ⟨N, q, q1, q2⟩ := Span_comb hX1
  refine ⟨fun l => pn (q l), N, fun l k hk => ?_, fun c hc k => ?_, fun l hl k hk => ?_⟩
  · show -(q l k) = 0
    rw [q1 l k hk]; rfl
  · have h1 := q2 c (by omega) k
    have h2 := hX2 c k (Or.inl hc)
    rw [hz c k hc] at h2
    rw [rdf_at] at h1
    have e1 : rowE V i c k = en V i c k := by
      unfold rowE en rwV
      rw [if_pos (by omega)]
      by_cases h7 : k < 7
      · rw [if_pos h7, if_pos ⟨by omega, h7⟩]
      · rw [if_neg h7, if_neg (by omega)]
    have e2 : comb K q (GG V sel) c k = sm K (fun j => pm (q j) (en V (sel j) c) k) := by
      unfold comb
      refine sm_congr (fun j hj => ?_)
      unfold pm
      refine sm_congr (fun s hs => ?_)
      unfold GG en rwV
      rw [if_pos (show c < 3 by omega)]
      by_cases h7 : k - s < 7
      · rw [if_pos h7, if_pos ⟨by omega, h7⟩]
      · rw [if_neg h7, if_neg (by omega)]
    have e3 : sm K (fun j => pm (pn (q j)) (en V (sel j) c) k) = -1 * sm K (fun j => pm (q j) (en V (sel j) c) k) := by
      rw [← sm_mul]
      refine sm_congr (fun j hj => ?_)
      rw [pm_n, pn_at, Int.neg_one_mul]
    rw [e1, e2] at h1
    show (p : Int) ∣ en V i c k - sm K (fun j => pm (pn (q j)) (en V (sel j) c) k)
    rw [e3]
    obtain ⟨z1, h1⟩ := h1
    obtain ⟨z2, h2⟩ := h2
    refine ⟨z2 - z1, ?_⟩
    rw [Int.mul_sub]
    omega
  · have h5 := hs5 l hl
    have h1 := q2 (3 + sel l) (by omega) k
    have h2 := hX2 (3 + sel l) k (Or.inr ⟨by omega, by omega, hk⟩)
    rw [rdf_at] at h1
    have e1 : rowE V i (3 + sel l) k = 0 := if_neg (by omega)
    have e2 : comb K q (GG V sel) (3 + sel l) k = q l k := by
      unfold comb
      rw [sm_one (i := l) hl (fun j hj hne => ?_)]
      · rw [sm_one (i := k) (by omega) (fun s hs hne => ?_)]
        · unfold GG
          rw [if_neg (by omega), if_pos ⟨rfl, by omega⟩, Int.mul_one]
        · unfold GG
          rw [if_neg (by omega), if_neg (by omega), Int.mul_zero]
      · rw [sm_congr (g := fun _ => 0) (fun s hs => ?_), sm_zero]
        unfold GG
        rw [if_neg (by omega), if_neg (fun z => hne (hinj j l hj hl (by omega))), Int.mul_zero]
    have e3 : rw8 f 0 (3 + sel l) k = cl8 f 0 (3 + sel l) k := if_pos hk
    rw [e1, e2] at h1
    rw [e3] at h2
    show (p : Int) ∣ -(q l k) + cl8 f 0 (3 + sel l) k
    obtain ⟨z1, h1⟩ := h1
    obtain ⟨z2, h2⟩ := h2
    refine ⟨z1 - z2, ?_⟩
    rw [Int.mul_sub]
    omega
theorem dt_zero {n i : Nat} {r : Nat → Nat → Pl} (hn : 1 ≤ n) (hn3 : n ≤ 3) (hi : i < n) : dt n (rp r i (fun _ => z0)) = z0 := by
  have h := dt_mul (r := r) (v := fun _ => z0) z0 hn hn3 hi
  rw [pm_z] at h
  exact h.trans (pm_z _)
theorem dt_sm {n i : Nat} {r : Nat → Nat → Pl} (G : Nat → Pl) (hn : 1 ≤ n) (hn3 : n ≤ 3) (hi : i < n) : ∀ M, dt n (rp r i (fun c => fun k => sm M (fun j => pm (G j) (r j c) k))) = fun k => sm M (fun j => pm (G j) (dt n (rp r i (r j))) k) := by
  intro M
  induction M with
  | zero => exact dt_zero hn hn3 hi
  | succ M ih =>
    have e : (fun c => fun k => sm (M + 1) (fun j => pm (G j) (r j c) k)) = (fun c => pa ((fun c => fun k => sm M (fun j => pm (G j) (r j c) k)) c) ((fun c => pm (G M) (r M c)) c)) := by
      funext c k
      rfl
    rw [e, dt_add hn hn3 hi, ih, dt_mul (v := r M) (G M) hn hn3 hi]
    rfl
theorem dt_mine {n i : Nat} {r : Nat → Nat → Pl} (G : Nat → Pl) (hn : 1 ≤ n) (hn3 : n ≤ 3) (hi : i < n) : dt n (rp r i (fun c => fun k => sm n (fun j => pm (G j) (r j c) k))) = pm (G i) (dt n r) := by
  rw [dt_sm G hn hn3 hi n]
  funext k
  rw [sm_one (i := i) hi (fun j hj hne => by rw [dt_same (r := r) hn hn3 hi hj (fun e => hne e.symm), pm_z']; rfl), rp_self]
theorem mem_lt {n c : Nat} {a : Int32} (hn : n ≤ 5) (hc : c < 5) (h : ¬ fX3_hasSet (nI n) a = 0) (hin : fX7_isInSet (nI c) a ≠ 0) : c < n := by
  obtain ⟨s, hs, es⟩ := set_of hn h
  subst es
  have h32 : (2 : Nat) ^ n ≤ 32 := by
    rcases (show n = 0 ∨ n = 1 ∨ n = 2 ∨ n = 3 ∨ n = 4 ∨ n = 5 by omega) with e | e | e | e | e | e <;> subst e <;> decide
  have hb := (bit_in hc (by omega)).mp hin
  apply Classical.byContradiction
  intro hge
  have : 2 ^ n ≤ 2 ^ c := Nat.pow_le_pow_right (by omega) (by omega)
  rw [Nat.div_eq_of_lt (by omega)] at hb
  omega
/-- one row of a set -/
theorem member_both {n : Nat} {all : Nat → Int32} {a s : Int32} (hn : n ≤ 5) (b2 : all 2 = nI n) (h : ¬ fX3_hasSet (nI n) s = 0) : bd (fX8_isRow all a) (fun (r_6 : Int32) => if r_6 = 0 then (some (0 : Int32)) else (if ((s >>> (a &&& 31)) &&& (1 : Int32)) = (1 : Int32) then (some (1 : Int32)) else (some (0 : Int32)))) = some (fX7_isInSet a s) := by
  rw [bd_t (X8isRow (by omega) b2)]
  by_cases h1 : fX3_hasRow (nI n) a = 0
  · rw [if_pos h1]
    have : fX7_isInSet a s = 0 := by
      apply Classical.byContradiction
      intro z
      have hw : ¬ fX7_isWithin a (0 : Int32) (4 : Int32) = 0 := by
        intro w
        unfold fX7_isInSet at z
        rw [if_pos w] at z
        exact z rfl
      obtain ⟨c, hc, ec⟩ := wi_of (hi := 4) (by omega) hw
      subst ec
      have := mem_lt hn (by omega) h z
      unfold fX3_hasRow at h1
      rw [if_neg (nI_pos (by omega)), if_neg (nI_ge this (by omega))] at h1
      exact absurd h1 (by decide)
    rw [this]
  · rw [if_neg h1]
    obtain ⟨c, hc, ec⟩ := row_of (by omega) h1
    subst ec
    have hw : ¬ fX7_isWithin (nI c) (0 : Int32) (4 : Int32) = 0 := by
      unfold fX7_isWithin
      rw [if_neg (nI_pos (by omega)), if_neg (show ¬ (4 : Int32) < nI c from (nI_nlt (by omega) (by omega) : ¬ nI 4 < nI c))]
      decide
    unfold fX7_isInSet
    rw [if_neg hw]
    split <;> rfl
/-- the reference's own division -/
theorem X8factorOf_s41 {n K l0 i : Nat} {A ch : Nat → Int32} {sel : Nat → Nat} (hK : K ≤ 3) (hn : n ≤ 5) (hl0 : l0 < K) (hs : ∀ l, l < K → sel l < n ∧ ch l = nI (sel l)) (hinj : ∀ l l', l < K → l' < K → sel l = sel l' → l = l') : ∃ ch', Lp (fun (z : Int32 × (Nat → Int32)) => fX8_factorOf_s41 (nI i) (nI (sel l0)) (nI K) z.1 z.2) ((0 : Int32), ch) = some ch' ∧ ∀ l, l < K → ch' l = nI (if l = l0 then i else sel l) := by
  obtain ⟨r, f1, f2, -⟩ := Lp_arr (g := fun (z : Int32 × (Nat → Int32)) => fX8_factorOf_s41 (nI i) (nI (sel l0)) (nI K) z.1 z.2) (a := 0) (N := K) (A := ch) (fun k => k) (fun k => nI (if k = l0 then i else sel k)) (by omega) (fun i j _ h _ => by omega) (fun k s _ hk hs' => by
    dsimp only
    have e := (hs' k (fun j _ hj => by omega)).trans (hs k hk).2
    unfold fX8_factorOf_s41
    have h1 := (hs k hk).1
    have h2 := (hs l0 hl0).1
    rw [if_neg (nI_ge hk (by omega)), gd_t (vp_in_nI (by omega) (by omega)), nI_clamp (by omega), e]
    by_cases el : k = l0
    · rw [if_pos (by rw [el]), if_pos el, gd_t (vp_in_nI (by omega) (by omega))]
    · rw [if_neg (fun z => el (hinj k l0 hk hl0 ((nI_eq (by omega) (by omega)).mp z))), if_neg el, gd_t (vp_in_nI (by omega) (by omega)), gd_t (vp_in_nI (by omega) (by omega))]) (fun s _ => by
    dsimp only
    unfold fX8_factorOf_s41
    rw [if_pos (nI_le (Nat.le_refl K) (by omega))])
  exact ⟨r, f1, fun l hl => f2 l (by omega) hl⟩
theorem factor_main {p C n K i l0 : Nat} {A ch ac sum one two base qs f num : Nat → Int32} {sel : Nat → Nat} (V : Nat → Nat → Nat → Nat) (hp : p = 2 ∨ p = 3 ∨ p = 5 ∨ p = 7) (b0 : A 0 = nI p) (b1 : A 1 = nI C) (hC : C ≤ 3) (hn : n ≤ 5) (hi : i < n) (hV : ∀ i c k, i < n → c < 3 → k < 7 → V i c k < p ∧ A (3 + (i * 3 + c) * 7 + k) = nI (V i c k)) (hl0 : l0 < K) (hs : ∀ l, l < K → sel l < n) (hinj : ∀ l l', l < K → l' < K → sel l = sel l' → l = l') (hch : ∀ l, l < K → l < 3 → ch l = nI (sel l)) (hP : Popv p C K (rw8 num) (fun x => P8 num C x - 1)) (hd : detJ p C V K sel K num) (hf : facJ p C V i K sel f) (hrep : Rep8 p 1 f) (hlow : Low8 C 1 f) (hz : P8 f C 0 = 0) :
    K ≤ 3 ∧ ∃ ac' S' o' t' B' ch' S2 o2 t2 S3 Q, fX8_choosesColumns A ch ac sum one two base (nI K) = some (ac', S', o', t', B') ∧ Lp (fun (z : Int32 × (Nat → Int32)) => fX8_factorOf_s41 (nI i) (nI (sel l0)) (nI K) z.1 z.2) ((0 : Int32), ch) = some ch' ∧ fX8_determines A ch' ac' S' o' t' (nI K) = some (S2, o2, t2) ∧ fX8_divides A S2 B' qs = some (S3, Q) ∧ ∀ k, k < 25 → fX2_factorAt (nI p) f (nI (sel l0)) (nI k) = some (Q k) := by
  have hp0 : 0 < p := by omega
  obtain ⟨hKC, M, m1, m2, m3, m4, m5⟩ := minor_ex (show 1 < p by omega) hC (show 1 ≤ K by omega) hP
  have hK3 : K ≤ 3 := by omega
  refine ⟨hK3, ?_⟩
  have hch' : ∀ l, l < K → sel l < n ∧ ch l = nI (sel l) := fun l hl => ⟨hs l hl, hch l hl (by omega)⟩
  obtain ⟨w, w', hw, hdw⟩ := hd.2 rfl (by omega) hK3
  have hminor : ∀ selm, Chosen C (nI M) K selm → ¬ pq p (dt K (rm V sel selm)) z0 := by
    intro selm hsel hbad
    refine m5 selm hsel (pq_t (hdw selm (fun c hc => (hsel.1 c hc).1)) ?_)
    have e : pq p (dt K (fun l c => rwV V (sel l) (selm c))) (dt K (rm V sel selm)) := dt_pq (by omega) hK3 (fun l c hl hc k => ⟨0, by
      have h3 := (hsel.1 c hc).1
      unfold rm en rwV
      by_cases h7 : k < 7
      · rw [if_pos h7, if_pos ⟨by omega, h7⟩]; omega
      · rw [if_neg h7, if_neg (by omega)]; omega⟩)
    have h := pq_m (pq_r (cst w)) (pq_t e hbad)
    rw [pm_z'] at h
    exact h
  obtain ⟨ac', S', o', t', B', c1, selm, c2, c3, c4, c5⟩ := X8choosesColumns (A := A) (ch := ch) (ac := ac) (sum := sum) (one := one) (two := two) (base := base) V sel b0 b1 (show 1 < p by omega) (by omega) hC hn hV (by omega) hK3 hch' m1 m3 m2 m4 hminor
  obtain ⟨ch', l1, l2⟩ := X8factorOf_s41 (A := A) (i := i) hK3 hn hl0 hch' hinj
  obtain ⟨S2, o2, t2, d1, d2, d3⟩ := X8determines (A := A) (ch := ch') (ac := ac') (sum := S') (one := o') (two := t') (size := K) V (fun l => if l = l0 then i else sel l) selm b0 (show 1 < p by omega) (by omega) hn hV (by omega) hK3 (fun l hl => ⟨by
    have := hs l hl
    split <;> omega, l2 l hl⟩) (fun l hl => ⟨by have := (c2 l hl).1; omega, (c2 l hl).2⟩)
  have hz8 : ∀ c k, c < C → rw8 f 0 c k = 0 := by
    intro c k hc
    unfold rw8
    by_cases hk : k < 25
    · rw [if_pos hk]
      unfold cl8
      by_cases h8 : k < 8
      · have h := plc_zero C (fun c k => cel f 8 25 0 c k ≠ 0) 24 hz (k * 3 + c) (by omega)
        rw [show (k * 3 + c) % 3 = c by omega, show (k * 3 + c) / 3 = k by omega] at h
        have e : f ((0 * 8 + c) * 25 + k) = 0 := by
          apply Classical.byContradiction
          intro z
          refine h ⟨hc, ?_⟩
          unfold cel
          rw [if_pos hk]
          exact z
        rw [e]; rfl
      · rw [hlow 0 c k (by omega) hc (by omega) hk]; rfl
    · rw [if_neg hk]
  obtain ⟨F, N, F1, F2, F3⟩ := fac_end hC (fun l hl => by have := hs l hl; omega) hinj hf hz8
  have hq : pq p (ap 25 S2) (pm (F l0) (ap 25 B')) := by
    refine pq_t d3 (pq_t ?_ (pq_m (pq_r (F l0)) (pq_s c4)))
    rw [← dt_mine F (show 1 ≤ K by omega) hK3 hl0]
    refine dt_pq (by omega) hK3 (fun l c hl hc => ?_)
    unfold rp
    by_cases e : l = l0
    · rw [if_pos e]
      unfold rm
      dsimp only
      rw [if_pos e]
      exact F2 (selm c) (c2 c hc).1
    · rw [if_neg e]
      unfold rm
      dsimp only
      rw [if_neg e]
      exact pq_r _
  obtain ⟨S3, Q, v1, v2, v3⟩ := X8divides (A := A) (sum := S2) (base := B') (qs := qs) (F l0) hp b0 d2 c3 c5 (fun k hk => F1 l0 k hk) hq
  refine ⟨ac', S', o', t', B', ch', S2, o2, t2, S3, Q, c1, l1, d1, v1, fun k hk => ?_⟩
  have h5 := hs l0 hl0
  obtain ⟨v, w1, w2⟩ := hrep 0 (3 + sel l0) k (by omega) (by omega) hk
  obtain ⟨u, u1, u2⟩ := v2 k hk
  have g1 : fX3_at 200 (1 : Int32) (8 : Int32) (25 : Int32) f (0 : Int32) ((3 : Int32) + nI (sel l0)) (nI k) = some (nI v) := by
    rw [show (3 : Int32) + nI (sel l0) = nI (3 + sel l0) from nI_add 3 _]
    exact (X3at_in (L := 200) (R := 1) (w := 8) (q := 25) (i := 0) rfl (by omega) (by omega) (by omega) (by omega) (by omega) (by omega) hk).trans (congrArg some w2)
  have g2 : (-(nI v)).toInt = -(v : Int) := by
    rw [Int32.toInt_neg, nI_toInt (by omega), Int.bmod_def]
    omega
  unfold fX2_factorAt
  rw [bd_t g1, bd_t (fm_any hp0 (by omega)), g2, u2]
  have h6 := F3 l0 hl0 k hk
  unfold cl8 at h6
  rw [w2, nI_toInt (by omega)] at h6
  have h7 := v3 k hk
  rw [u2, nI_toInt (by omega)] at h7
  obtain ⟨z1, h6⟩ := h6
  obtain ⟨z2, h7⟩ := h7
  obtain ⟨z3, h8⟩ := md_dvd (x := -(v : Int)) hp0
  rw [small_eq (md_lt hp0) u1 ⟨z3 - z2 - z1, by rw [Int.mul_sub, Int.mul_sub]; omega⟩]
