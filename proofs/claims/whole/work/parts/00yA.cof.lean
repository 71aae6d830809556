/-! what the class's list carries: cofactors, minors -/
def xs (t : Int) (s : Nat) : Pl := fun k => if k = s then t else 0
theorem pm_xs (t : Int) (s : Nat) (f : Pl) : pm (xs t s) f = fun k => if s ≤ k then t * f (k - s) else 0 := by
  funext k
  unfold pm xs
  by_cases h : s ≤ k
  · rw [if_pos h, sm_one (i := s) (by omega) (fun j hj hne => by rw [if_neg hne, Int.zero_mul]), if_pos rfl]
  · rw [if_neg h, sm_congr (g := fun _ => 0) (fun j hj => by rw [if_neg (by omega), Int.zero_mul]), sm_zero]
/-- what a step does, all columns -/
theorem OpA_at {p C n i j pw : Nat} {t : Int} {num num' : Nat → Int32} (hp : 0 < p) (hp2 : p < 1000) (hC : C ≤ 3) (hlow : Low8 C n num) (ho : OpA p n num num' i j t pw) {c k : Nat} (hck : c < C ∨ 3 ≤ c ∧ c < 8 ∧ k < 25) : (p : Int) ∣ rw8 num' i c k - (rw8 num i c k + if pw ≤ k then t * rw8 num j c (k - pw) else 0) := by
  rcases hck with h | ⟨h1, h2, h3⟩
  · exact OpA_row hp hp2 hC hlow ho c h k
  · have e1 : rw8 num' i c k = (md (cl8 num i c k + (if pw ≤ k then t * cl8 num j c (k - pw) else 0)) p : Int) := by
      rw [show rw8 num' i c k = cl8 num' i c k from if_pos h3]
      unfold cl8
      rw [ho.2.2.2.2.1 c k h2 h3]
      exact nI_md_toInt hp hp2
    have e : rw8 num i c k = cl8 num i c k := if_pos h3
    have e2 : (if pw ≤ k then t * rw8 num j c (k - pw) else 0) = (if pw ≤ k then t * cl8 num j c (k - pw) else 0) := by
      by_cases hpk : pw ≤ k
      · rw [if_pos hpk, if_pos hpk, show rw8 num j c (k - pw) = cl8 num j c (k - pw) from if_pos (by omega)]
      · rw [if_neg hpk, if_neg hpk]
    rw [e1, e, e2]
    exact md_dvd hp
theorem OpS_at {p C n i : Nat} {u : Int} {num num' : Nat → Int32} (hp : 0 < p) (hp2 : p < 1000) (hC : C ≤ 3) (ho : OpS p n num num' i u) {c k : Nat} (hck : c < C ∨ 3 ≤ c ∧ c < 8 ∧ k < 25) : (p : Int) ∣ rw8 num' i c k - u * rw8 num i c k := by
  by_cases h3 : k < 25
  · have h8 : c < 8 := by omega
    have e1 : rw8 num' i c k = (md (u * cl8 num i c k) p : Int) := by
      rw [show rw8 num' i c k = cl8 num' i c k from if_pos h3]
      unfold cl8
      rw [ho.2.2.1 c k h8 h3]
      exact nI_md_toInt hp hp2
    have e : rw8 num i c k = cl8 num i c k := if_pos h3
    rw [e1, e]
    exact md_dvd hp
  · have e1 : rw8 num' i c k = 0 := if_neg h3
    have e : rw8 num i c k = 0 := if_neg h3
    rw [e1, e, Int.mul_zero]
    exact ⟨0, by omega⟩
/-- a chosen row and its own 1 beside it -/
def GG (V : Nat → Nat → Nat → Nat) (sel : Nat → Nat) : Nat → Rw := fun l c k => if c < 3 then rwV V (sel l) c k else if c = 3 + sel l ∧ k = 0 then 1 else 0
def cofJ (p C : Nat) (V : Nat → Nat → Nat → Nat) (K : Nat) (sel : Nat → Nat) (n : Nat) (num : Nat → Int32) : Prop := ∃ X : Nat → Rw, ∀ i, i < n → Span p 8 K (GG V sel) (X i) ∧ ∀ c k, (c < C ∨ 3 ≤ c ∧ c < 8 ∧ k < 25) → (p : Int) ∣ X i c k - rw8 num i c k
theorem dvd_comb {p : Int} {x y z w t a b : Int} (h1 : p ∣ x - a) (h2 : p ∣ y - b) (h3 : p ∣ z - (a + t * b)) (h4 : w = x + t * y) : p ∣ w - z := by
  obtain ⟨q1, h1⟩ := h1
  obtain ⟨q2, h2⟩ := h2
  obtain ⟨q3, h3⟩ := h3
  refine ⟨q1 + t * q2 - q3, ?_⟩
  have e : y = b + p * q2 := by omega
  have e2 : t * y = t * b + p * (t * q2) := by rw [e, Int.mul_add, ← Int.mul_assoc, Int.mul_comm t p, Int.mul_assoc]
  rw [Int.mul_sub, Int.mul_add]
  omega
theorem JC_cof {p C K : Nat} {V : Nat → Nat → Nat → Nat} {sel : Nat → Nat} (hp : 0 < p) (hp2 : p < 1000) (hC : C ≤ 3) : JC p C (cofJ p C V K sel) := by
  have cl := Span_cl p 8 K (GG V sel)
  refine ⟨?_, ?_, ?_, ?_⟩
  · rintro n num num' i j t pw hn hrep hlow ⟨X, hX⟩ ho hlow'
    refine ⟨fun m => if m = i then radd (X i) (rsh t pw (X j)) else X m, fun m hm => ?_⟩
    dsimp only
    by_cases e : m = i
    · subst e
      rw [if_pos rfl]
      refine ⟨cl.2.2.1 _ _ (hX m hm).1 (cl.2.2.2 _ _ _ (hX j ho.2.1).1), fun c k hck => ?_⟩
      have h0 := OpA_at hp hp2 hC hlow ho hck
      have h1 := (hX m hm).2 c k hck
      by_cases hpk : pw ≤ k
      · have h2 := (hX j ho.2.1).2 c (k - pw) (by omega)
        rw [if_pos hpk] at h0
        exact dvd_comb (t := t) h1 h2 h0 (by unfold radd rsh; rw [if_pos hpk])
      · rw [if_neg hpk] at h0
        refine dvd_comb (t := 0) (y := 0) (b := 0) h1 ⟨0, by omega⟩ (by rw [Int.mul_zero]; exact h0) ?_
        unfold radd rsh
        rw [if_neg hpk]
        omega
    · rw [if_neg e]
      refine ⟨(hX m hm).1, fun c k hck => ?_⟩
      rw [rw8_same (num := num) (num' := num') (i := m) (i' := m) (fun k hk => ho.2.2.2.2.2 m c k e (by omega) hk) k]
      exact (hX m hm).2 c k hck
  · rintro n num num' i u hn hrep hlow ⟨X, hX⟩ ho
    refine ⟨fun m => if m = i then rsh u 0 (X i) else X m, fun m hm => ?_⟩
    dsimp only
    by_cases e : m = i
    · subst e
      rw [if_pos rfl]
      refine ⟨cl.2.2.2 _ _ _ (hX m hm).1, fun c k hck => ?_⟩
      have h0 := OpS_at hp hp2 hC ho hck
      have h1 := (hX m hm).2 c k hck
      refine dvd_comb (x := 0) (a := 0) (t := u) ⟨0, by omega⟩ h1 (by rw [Int.zero_add]; exact h0) ?_
      unfold rsh
      rw [if_pos (Nat.zero_le _), Nat.sub_zero]
      omega
    · rw [if_neg e]
      refine ⟨(hX m hm).1, fun c k hck => ?_⟩
      rw [rw8_same (num := num) (num' := num') (i := m) (i' := m) (fun k hk => ho.2.2.2 m c k e (by omega) hk) k]
      exact (hX m hm).2 c k hck
  · rintro n num num' i j hn hrep ⟨X, hX⟩ ho
    refine ⟨fun m => X (sw2 i j m), fun m hm => ⟨(hX _ (sw2_lt ho.1 ho.2.1 hm)).1, fun c k hck => ?_⟩⟩
    rw [rw8_same (num := num) (num' := num') (i := m) (i' := sw2 i j m) (fun k hk => ho.2.2 m c k hm (by omega) hk) k]
    exact (hX _ (sw2_lt ho.1 ho.2.1 hm)).2 c k hck
  · rintro n num num' i hn hrep ⟨X, hX⟩ ho
    refine ⟨fun m => X (if m < i then m else m + 1), fun m hm => ⟨(hX _ (by split <;> omega)).1, fun c k hck => ?_⟩⟩
    rw [rw8_same (num := num) (num' := num') (i := m) (i' := if m < i then m else m + 1) (fun k hk => ho.2.2 m c k hm (by omega) hk) k]
    exact (hX _ (by split <;> omega)).2 c k hck
theorem cof_0 {p C n K : Nat} {a : Int32} {V : Nat → Nat → Nat → Nat} {sel : Nat → Nat} {num : Nat → Int32} (hp : 1 < p) (hp2 : p < 1000) (hC : C ≤ 3) (hc : Chosen n a K sel) (hV : ∀ i c k, i < n → c < 3 → k < 7 → V i c k < p) (h : ∀ m c k, m < K → c < 8 → k < 25 → num ((m * 8 + c) * 25 + k) = nI (blk V (sel m) c k)) : cofJ p C V K sel K num := by
  refine ⟨GG V sel, fun m hm => ⟨Span_in hm, fun c k hck => ⟨0, ?_⟩⟩⟩
  have hlt := fun c k => blk_lt (n := n) (s := sel m) (c := c) (k := k) V hp (hc.1 m hm).1 hV
  by_cases h3 : c < 3
  · have e := rw8_blk (p := p) (num := num) (m := m) hp2 h3 (fun c k => hlt c k) (fun c k h8 hk => h m c k hm h8 hk) k
    unfold GG
    rw [if_pos h3, e]
    omega
  · have hk : k < 25 := by omega
    have e : rw8 num m c k = (blk V (sel m) c k : Int) := by
      rw [show rw8 num m c k = cl8 num m c k from if_pos hk]
      unfold cl8
      rw [h m c k hm (by omega) hk, nI_toInt (by have := hlt c k; omega)]
    unfold GG
    rw [if_neg h3, e]
    unfold blk
    rw [if_neg h3]
    split <;> rfl
/-- minors -/
theorem dt_swap {n i j : Nat} {r : Nat → Nat → Pl} (hn : 1 ≤ n) (hn3 : n ≤ 3) (hi : i < n) (hj : j < n) (hij : i ≠ j) : dt n (fun l c => r (sw2 i j l) c) = pn (dt n r) := by
  have key : ∀ i j, i < j → j < n → dt n (fun l c => r (sw2 i j l) c) = pn (dt n r) := by
    intro i j hij hj
    unfold dt
    rcases (show n = 1 ∨ n = 2 ∨ n = 3 by omega) with e | e | e <;> subst e
    · omega
    · rw [if_neg (by omega), if_pos rfl, if_neg (by omega), if_pos rfl]
      have e1 : i = 0 := by omega
      have e2 : j = 1 := by omega
      subst e1; subst e2
      unfold d2
      funext k
      simp only [pa_at, pn_at, show sw2 0 1 0 = 1 from rfl, show sw2 0 1 1 = 0 from rfl]
      rw [pm_comm (r 1 0) (r 0 1), pm_comm (r 1 1) (r 0 0)]
      omega
    · rw [if_neg (by omega), if_neg (by omega), if_neg (by omega), if_neg (by omega)]
      unfold d3
      funext k
      rcases (show i = 0 ∧ j = 1 ∨ i = 0 ∧ j = 2 ∨ i = 1 ∧ j = 2 by omega) with ⟨e1, e2⟩ | ⟨e1, e2⟩ | ⟨e1, e2⟩ <;> subst e1 <;> subst e2
      · simp only [pa_at, pn_at, show sw2 0 1 0 = 1 from rfl, show sw2 0 1 1 = 0 from rfl, show sw2 0 1 2 = 2 from rfl]
        rw [pm_comm (r 1 0) (r 0 1), pm_comm (r 1 1) (r 0 0), pm_comm (r 1 1) (r 0 2), pm_comm (r 1 2) (r 0 0), pm_comm (r 1 2) (r 0 1), pm_comm (r 1 0) (r 0 2)]
        omega
      · simp only [pa_at, pn_at, show sw2 0 2 0 = 2 from rfl, show sw2 0 2 1 = 1 from rfl, show sw2 0 2 2 = 0 from rfl]
        rw [pm_l (r 2 0) (r 1 1) (r 0 2), pm_l (r 2 1) (r 1 0) (r 0 2), pm_l (r 2 1) (r 1 2) (r 0 0), pm_l (r 2 2) (r 1 0) (r 0 1), pm_l (r 2 2) (r 1 1) (r 0 0), pm_l (r 2 0) (r 1 2) (r 0 1)]
        omega
      · simp only [pa_at, pn_at, show sw2 1 2 0 = 0 from rfl, show sw2 1 2 1 = 2 from rfl, show sw2 1 2 2 = 1 from rfl]
        rw [pm_r (r 0 0) (r 2 1) (r 1 2), pm_r (r 0 1) (r 2 0) (r 1 2), pm_r (r 0 1) (r 2 2) (r 1 0), pm_r (r 0 2) (r 2 0) (r 1 1), pm_r (r 0 2) (r 2 1) (r 1 0), pm_r (r 0 0) (r 2 2) (r 1 1)]
        omega
  by_cases h : i < j
  · exact key i j h hj
  · have e : (fun l c => r (sw2 i j l) c) = (fun l c => r (sw2 j i l) c) := by
      funext l c
      have : sw2 i j l = sw2 j i l := by
        unfold sw2
        by_cases h1 : l = i
        · rw [if_pos h1, if_neg (by omega), if_pos h1]
        · rw [if_neg h1]
          by_cases h2 : l = j
          · rw [if_pos h2, if_pos h2]
          · rw [if_neg h2, if_neg h2, if_neg h1]
      rw [this]
    rw [e]
    exact key j i (by omega) hi
def detJ (p C : Nat) (V : Nat → Nat → Nat → Nat) (K : Nat) (sel : Nat → Nat) (n : Nat) (num : Nat → Int32) : Prop := n ≤ K ∧ (n = K → 1 ≤ K → K ≤ 3 → ∃ w w' : Int, (p : Int) ∣ w * w' - 1 ∧ ∀ Cc : Nat → Nat, (∀ c, c < K → Cc c < C) → pq p (dt K (fun l c => rw8 num l (Cc c))) (pm (cst w) (dt K (fun l c => rwV V (sel l) (Cc c)))))
theorem pm_cc (a b : Int) (f : Pl) : pm (cst a) (pm (cst b) f) = pm (cst (a * b)) f := by
  funext k
  rw [pm_c, pm_c, pm_c, Int.mul_assoc]
theorem rp_self (r : Nat → Nat → Pl) (i : Nat) : rp r i (r i) = r := by
  funext l c
  unfold rp
  by_cases h : l = i
  · rw [if_pos h, h]
  · rw [if_neg h]
theorem JC_det {p C K : Nat} {V : Nat → Nat → Nat → Nat} {sel : Nat → Nat} (hp : 0 < p) (hp2 : p < 1000) (hC : C ≤ 3) : JC p C (detJ p C V K sel) := by
  refine ⟨?_, ?_, ?_, ?_⟩
  · rintro n num num' i j t pw hn hrep hlow ⟨hJ1, hJ2⟩ ho hlow'
    refine ⟨hJ1, fun e h1 h3 => ?_⟩
    obtain ⟨w, w', hw, hd⟩ := hJ2 e h1 h3
    subst e
    refine ⟨w, w', hw, fun Cc hCc => pq_t ?_ (hd Cc hCc)⟩
    have hrow := OpA_row hp hp2 hC hlow ho
    have h5 : pq p (dt n (fun l c => rw8 num' l (Cc c))) (dt n (rp (fun l c => rw8 num l (Cc c)) i (fun c => pa (rw8 num i (Cc c)) (pm (xs t pw) (rw8 num j (Cc c)))))) := by
      refine dt_pq h1 h3 (fun l c hl hc => ?_)
      unfold rp
      by_cases el : l = i
      · rw [if_pos el, el]
        intro k
        have := hrow (Cc c) (hCc c hc) k
        show (p : Int) ∣ rw8 num' i (Cc c) k - (rw8 num i (Cc c) k + pm (xs t pw) (rw8 num j (Cc c)) k)
        rw [pm_xs]
        exact this
      · rw [if_neg el]
        intro k
        refine ⟨0, ?_⟩
        show rw8 num' l (Cc c) k - rw8 num l (Cc c) k = _
        rw [rw8_same (num := num) (num' := num') (i := l) (i' := l) (fun k hk => ho.2.2.2.2.2 l (Cc c) k el (by have := hCc c hc; omega) hk) k]
        omega
    have h6 : dt n (rp (fun l c => rw8 num l (Cc c)) i (fun c => pa (rw8 num i (Cc c)) (pm (xs t pw) (rw8 num j (Cc c))))) = dt n (fun l c => rw8 num l (Cc c)) := by
      rw [dt_add h1 h3 ho.1, dt_mul (xs t pw) h1 h3 ho.1, show rp (fun l c => rw8 num l (Cc c)) i (fun c => rw8 num i (Cc c)) = (fun l c => rw8 num l (Cc c)) from rp_self (fun l c => rw8 num l (Cc c)) i, show dt n (rp (fun l c => rw8 num l (Cc c)) i (fun c => rw8 num j (Cc c))) = z0 from dt_same (r := fun l c => rw8 num l (Cc c)) h1 h3 ho.1 ho.2.1 ho.2.2.1, pm_z']
      funext k
      show _ + (0 : Int) = _
      omega
    rw [h6] at h5
    exact h5
  · rintro n num num' i u hn hrep hlow ⟨hJ1, hJ2⟩ ho
    refine ⟨hJ1, fun e h1 h3 => ?_⟩
    obtain ⟨w, w', hw, hd⟩ := hJ2 e h1 h3
    obtain ⟨u', hu⟩ := ho.2.1
    subst e
    refine ⟨u * w, u' * w', ?_, fun Cc hCc => ?_⟩
    · obtain ⟨y, hy⟩ := hw
      obtain ⟨z, hz⟩ := hu
      refine ⟨z + y + p * (z * y), ?_⟩
      have e1 : u * w * (u' * w') = (u * u') * (w * w') := by rw [Int.mul_assoc, Int.mul_assoc, ← Int.mul_assoc w, Int.mul_comm w u', Int.mul_assoc u']
      have e2 : u * u' = 1 + p * z := by omega
      have e3 : w * w' = 1 + p * y := by omega
      rw [e1, e2, e3, Int.mul_add, Int.mul_one, Int.add_mul, Int.one_mul, Int.mul_add, Int.mul_add]
      have e4 : (p : Int) * z * (p * y) = p * (p * (z * y)) := by rw [Int.mul_assoc, ← Int.mul_assoc z, Int.mul_comm z, Int.mul_assoc]
      rw [e4]
      omega
    · have h5 : pq p (dt n (fun l c => rw8 num' l (Cc c))) (dt n (rp (fun l c => rw8 num l (Cc c)) i (fun c => pm (cst u) (rw8 num i (Cc c))))) := by
        refine dt_pq h1 h3 (fun l c hl hc => ?_)
        unfold rp
        by_cases el : l = i
        · rw [if_pos el, el]
          intro k
          show (p : Int) ∣ rw8 num' i (Cc c) k - pm (cst u) (rw8 num i (Cc c)) k
          rw [pm_c]
          exact OpS_at hp hp2 hC ho (Or.inl (hCc c hc))
        · rw [if_neg el]
          intro k
          refine ⟨0, ?_⟩
          show rw8 num' l (Cc c) k - rw8 num l (Cc c) k = _
          rw [rw8_same (num := num) (num' := num') (i := l) (i' := l) (fun k hk => ho.2.2.2 l (Cc c) k el (by have := hCc c hc; omega) hk) k]
          omega
      rw [dt_mul (cst u) h1 h3 ho.1, show rp (fun l c => rw8 num l (Cc c)) i (fun c => rw8 num i (Cc c)) = (fun l c => rw8 num l (Cc c)) from rp_self (fun l c => rw8 num l (Cc c)) i] at h5
      rw [← pm_cc]
      exact pq_t h5 (pq_m (pq_r _) (hd Cc hCc))
  · rintro n num num' i j hn hrep ⟨hJ1, hJ2⟩ ho
    refine ⟨hJ1, fun e h1 h3 => ?_⟩
    obtain ⟨w, w', hw, hd⟩ := hJ2 e h1 h3
    subst e
    have hrow : ∀ Cc : Nat → Nat, (∀ c, c < n → Cc c < C) → pq p (dt n (fun l c => rw8 num' l (Cc c))) (dt n (fun l c => (fun l c => rw8 num l (Cc c)) (sw2 i j l) c)) := fun Cc hCc => dt_pq h1 h3 (fun l c hl hc k => ⟨0, by
      dsimp only
      rw [rw8_same (num := num) (num' := num') (i := l) (i' := sw2 i j l) (fun k hk => ho.2.2 l (Cc c) k hl (by have := hCc c hc; omega) hk) k]
      omega⟩)
    by_cases hij : i = j
    · refine ⟨w, w', hw, fun Cc hCc => pq_t (hrow Cc hCc) ?_⟩
      have e : (fun l c => (fun l c => rw8 num l (Cc c)) (sw2 i j l) c) = (fun l c => rw8 num l (Cc c)) := by
        funext l c
        have : sw2 i j l = l := by
          unfold sw2
          by_cases h : l = i
          · rw [if_pos h, h, hij]
          · rw [if_neg h, if_neg (by omega)]
        rw [this]
      rw [e]
      exact hd Cc hCc
    · refine ⟨-w, -w', by rw [Int.neg_mul_neg]; exact hw, fun Cc hCc => pq_t (hrow Cc hCc) ?_⟩
      have hs : dt n (fun l c => rw8 num (sw2 i j l) (Cc c)) = pn (dt n (fun l c => rw8 num l (Cc c))) := dt_swap (r := fun l c => rw8 num l (Cc c)) h1 h3 ho.1 ho.2.1 hij
      show pq p (dt n (fun l c => rw8 num (sw2 i j l) (Cc c))) _
      rw [hs]
      refine pq_t (pq_n (hd Cc hCc)) (fun k => ⟨0, ?_⟩)
      rw [pn_at, pm_c, pm_c, Int.neg_mul]
      omega
  · rintro n num num' i hn hrep ⟨hJ1, hJ2⟩ ho
    have := ho.1
    exact ⟨by omega, fun e => by omega⟩
theorem det_0 {p C n K : Nat} {a : Int32} {V : Nat → Nat → Nat → Nat} {sel : Nat → Nat} {num : Nat → Int32} (hp : 1 < p) (hp2 : p < 1000) (hC : C ≤ 3) (hc : Chosen n a K sel) (hV : ∀ i c k, i < n → c < 3 → k < 7 → V i c k < p) (h : ∀ m c k, m < K → c < 8 → k < 25 → num ((m * 8 + c) * 25 + k) = nI (blk V (sel m) c k)) : detJ p C V K sel K num := by
  refine ⟨Nat.le_refl _, fun _ h1 h3 => ⟨1, 1, ⟨0, by omega⟩, fun Cc hCc => ?_⟩⟩
  rw [pm_c1]
  refine dt_pq h1 h3 (fun l c hl hcK k => ⟨0, ?_⟩)
  have hlt := fun c k => blk_lt (n := n) (s := sel l) (c := c) (k := k) V hp (hc.1 l hl).1 hV
  rw [rw8_blk (p := p) (num := num) (m := l) hp2 (by have := hCc c hcK; omega) (fun c k => hlt c k) (fun c k h8 hk => h l c k hl h8 hk) k]
  omega
