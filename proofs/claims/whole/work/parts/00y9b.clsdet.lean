/-! the class's determinant: products added up -/
def xn (V : Nat → Nat → Nat → Nat) (R : Nat → Nat) (C l c k : Nat) : Nat := if l < C then (if c < C then V (R l) c k else 0) else if l = c ∧ k = 0 then 1 else 0
def xe (V : Nat → Nat → Nat → Nat) (R : Nat → Nat) (C l c : Nat) : Pl := fun k => if k < 7 then (xn V R C l c k : Int) else 0
theorem xe_hi {V : Nat → Nat → Nat → Nat} {R : Nat → Nat} {C l c : Nat} : ∀ k, 7 ≤ k → xe V R C l c k = 0 := fun k h => if_neg (by omega)
theorem X0entry {p C n l c k : Nat} {ch nnum : Nat → Int32} (V : Nat → Nat → Nat → Nat) (R : Nat → Nat) (hp : 1 < p) (hC : C ≤ 3) (hn : n ≤ 5) (hch : ∀ l, l < C → R l < n ∧ ch l = nI (R l)) (hV : ∀ i c k, i < n → c < 3 → k < 7 → V i c k < p ∧ nnum ((i * 3 + c) * 7 + k) = nI (V i c k)) (hl : l < 3) (hc : c < 3) (hk : k < 7) : fX0_entryAt (nI C) ch 105 (5 : Int32) (3 : Int32) (7 : Int32) (nI C) nnum (nI l) (nI c) (nI k) = some (nI (xn V R C l c k)) ∧ xn V R C l c k < p := by
  unfold fX0_entryAt xn
  rw [if_neg (nI_pos (by omega))]
  by_cases h1 : l < C
  · rw [if_neg (nI_ge h1 (by omega)), if_neg (show ¬ (3 : Int32) ≤ nI l from (nI_ge hl (by omega) : ¬ nI 3 ≤ nI l)), if_pos h1]
    by_cases h2 : c < C
    · obtain ⟨v1, v2⟩ := hV (R l) c k (hch l h1).1 hc hk
      rw [if_neg (nI_ge h2 (by omega)), gd_t (vp_in_nI hl (by omega)), nI_clamp (by omega), (hch l h1).2, if_pos h2]
      have hat : fX3_at 105 (5 : Int32) (3 : Int32) (7 : Int32) nnum (nI (R l)) (nI c) (nI k) = some (nI (V (R l) c k)) := (X3at_in (L := 105) (R := 5) (w := 3) (q := 7) rfl (by omega) (by omega) (by omega) (by omega) (by have := (hch l h1).1; omega) hc hk).trans (congrArg some v2)
      exact ⟨bd_t hat, v1⟩
    · rw [if_pos (nI_le (by omega) (by omega)), if_neg h2]
      exact ⟨rfl, by omega⟩
  · rw [if_pos (nI_le (by omega) (by omega)), if_neg h1]
    by_cases h2 : l = c
    · rw [if_pos (by rw [h2])]
      by_cases h3 : k = 0
      · rw [if_pos (by rw [h3]; rfl), if_pos ⟨h2, h3⟩]
        exact ⟨rfl, by omega⟩
      · rw [if_neg (nI_ne0 (by omega) (by omega)), if_neg (fun z => h3 z.2)]
        exact ⟨rfl, by omega⟩
    · rw [if_neg (fun e => h2 ((nI_eq (by omega) (by omega)).mp e)), if_neg (fun z => h2 z.1)]
      exact ⟨rfl, by omega⟩
def pick (z : Pl) (t K : Nat) : Int := if t ≤ K ∧ K - t < 7 then z (K - t) else 0
theorem pick_bd {z : Pl} {t K : Nat} (hz : ∀ k, 0 ≤ z k ∧ z k ≤ 6) : 0 ≤ pick z t K ∧ pick z t K ≤ 6 := by
  unfold pick
  split
  · exact hz _
  · omega
theorem mul_bd {a b A B : Int} (ha : 0 ≤ a) (ha2 : a ≤ A) (hb : 0 ≤ b) (hb2 : b ≤ B) : 0 ≤ a * b ∧ a * b ≤ A * B := ⟨Int.mul_nonneg ha hb, Int.mul_le_mul ha2 hb2 hb (by omega)⟩
theorem T_eq {x y z : Pl} (hx : ∀ k, 7 ≤ k → x k = 0) (hy : ∀ k, 7 ≤ k → y k = 0) (hz : ∀ k, 7 ≤ k → z k = 0) (K : Nat) : sm 7 (fun a => x a * sm 7 (fun b => y b * pick z (a + b) K)) = pm x (pm y z) K := by
  rw [pm_rng hx]
  refine sm_congr (fun a _ => ?_)
  by_cases h : a ≤ K
  · rw [if_pos h, pm_rng hy]
    congr 1
    refine sm_congr (fun b _ => ?_)
    unfold pick
    by_cases h2 : b ≤ K - a
    · rw [if_pos h2]
      by_cases h3 : K - (a + b) < 7
      · rw [if_pos ⟨by omega, h3⟩, show K - (a + b) = K - a - b by omega]
      · rw [if_neg (fun q => h3 q.2), hz (K - a - b) (by omega), Int.mul_zero]
    · rw [if_neg h2, if_neg (fun q => h2 (by omega)), Int.mul_zero]
  · rw [if_neg h]
    rw [sm_congr (g := fun _ => 0) (fun b _ => by
      unfold pick
      rw [if_neg (fun q => h (by omega)), Int.mul_zero]), sm_zero, Int.mul_zero]
theorem X0product {p C n c0 c1 c2 : Nat} {ch nnum N0 : Nat → Int32} {sg : Int32} {B : Int} (V : Nat → Nat → Nat → Nat) (R : Nat → Nat) (hp : 1 < p) (hp10 : p ≤ 7) (hC : C ≤ 3) (hn : n ≤ 5) (hch : ∀ l, l < C → R l < n ∧ ch l = nI (R l)) (hV : ∀ i c k, i < n → c < 3 → k < 7 → V i c k < p ∧ nnum ((i * 3 + c) * 7 + k) = nI (V i c k)) (h0 : c0 < 3) (h1 : c1 < 3) (h2 : c2 < 3) (hsg : sg = 1 ∨ sg = -1) (hB0 : 0 ≤ B) (hB : B ≤ 1000000) (hN : ∀ K, K < 19 → -B ≤ (N0 K).toInt ∧ (N0 K).toInt ≤ B) :
    ∃ N1, fX0_addProduct (nI C) N0 ch 105 (5 : Int32) (3 : Int32) (7 : Int32) (nI C) nnum sg (nI c0) (nI c1) (nI c2) = some N1 ∧ ∀ K, K < 19 → (N1 K).toInt = (N0 K).toInt + sg.toInt * pm (xe V R C 0 c0) (pm (xe V R C 1 c1) (xe V R C 2 c2)) K ∧ -(B + 10584) ≤ (N1 K).toInt ∧ (N1 K).toInt ≤ B + 10584 := by
  have hsgI : sg.toInt = 1 ∨ sg.toInt = -1 := by rcases hsg with e | e <;> subst e <;> decide
  have hx6 : ∀ l c k, l < 3 → c < 3 → 0 ≤ xe V R C l c k ∧ xe V R C l c k ≤ 6 := by
    intro l c k hl hc
    unfold xe
    by_cases hk : k < 7
    · rw [if_pos hk]
      have := (X0entry (p := p) V R hp hC hn hch hV hl hc hk).2
      omega
    · rw [if_neg hk]; omega
  let x := xe V R C 0 c0
  let y := xe V R C 1 c1
  let z := xe V R C 2 c2
  have hxk : ∀ k, 0 ≤ x k ∧ x k ≤ 6 := fun k => hx6 0 c0 k (by omega) h0
  have hyk : ∀ k, 0 ≤ y k ∧ y k ≤ 6 := fun k => hx6 1 c1 k (by omega) h1
  have hzk : ∀ k, 0 ≤ z k ∧ z k ≤ 6 := fun k => hx6 2 c2 k (by omega) h2
  have hsgm : ∀ X : Int, 0 ≤ X → ∀ M : Int, X ≤ M → -M ≤ sg.toInt * X ∧ sg.toInt * X ≤ M := by
    intro X h1 M h2
    rcases hsgI with e | e <;> rw [e] <;> omega
  -- the innermost loop
  have inner : ∀ a b (X : Nat → Int32) (B1 : Int), a < 7 → b < 7 → 0 ≤ B1 → B1 ≤ 2000000 → (∀ K, K < 19 → -B1 ≤ (X K).toInt ∧ (X K).toInt ≤ B1) → ∃ X', Lp (fun (w : Int32 × (Nat → Int32)) => fX0_addProduct_s56 (nI C) ch 105 (5 : Int32) (3 : Int32) (7 : Int32) (nI C) nnum sg (nI c2) (nI a) (nI b) (nI (xn V R C 0 c0 a)) (nI (xn V R C 1 c1 b)) w.1 w.2) ((0 : Int32), X) = some X' ∧ ∀ K, K < 19 → (X' K).toInt = (X K).toInt + sg.toInt * (x a * (y b * pick z (a + b) K)) := by
    intro a b X B1 ha hb hB1 hB1b hX
    have ex : x a = (xn V R C 0 c0 a : Int) := if_pos ha
    have ey : y b = (xn V R C 1 c1 b : Int) := if_pos hb
    have hxa := hxk a
    have hyb := hyk b
    have hxy := mul_bd hxa.1 hxa.2 hyb.1 hyb.2
    have hP1 : (sg * nI (xn V R C 0 c0 a)).toInt = sg.toInt * x a := by
      rw [ex] at hxa ⊢
      have := hsgm _ hxa.1 6 hxa.2
      rw [i32_mul] <;> rw [nI_toInt (by omega)] <;> omega
    have hP : ((sg * nI (xn V R C 0 c0 a)) * nI (xn V R C 1 c1 b)).toInt = sg.toInt * (x a * y b) := by
      have h9 := hsgm _ hxy.1 36 hxy.2
      have e9 : sg.toInt * x a * y b = sg.toInt * (x a * y b) := Int.mul_assoc _ _ _
      rw [i32_mul] <;> rw [hP1, nI_toInt (by rw [ey] at hyb; omega), ← ey, e9] <;> omega
    refine Lp_up (fun i s => (i, s)) 7 (fun d s => ∀ K, K < 19 → (s K).toInt = (X K).toInt + sg.toInt * (x a * (y b * (if a + b ≤ K ∧ K - (a + b) < d then z (K - (a + b)) else 0)))) (fun (s : Nat → Int32) => ∀ K, K < 19 → (s K).toInt = (X K).toInt + sg.toInt * (x a * (y b * pick z (a + b) K))) ?_ ?_ 0 X (Nat.zero_le _) (fun K hK => by rw [if_neg (by omega), Int.mul_zero, Int.mul_zero, Int.mul_zero, Int.add_zero])
    · intro d s hd hs
      dsimp only
      unfold fX0_addProduct_s56
      rw [if_neg (show ¬ (6 : Int32) < nI d from (nI_nlt (by omega) (by omega) : ¬ nI 6 < nI d))]
      by_cases hP0 : (sg * nI (xn V R C 0 c0 a)) * nI (xn V R C 1 c1 b) = 0
      · rw [if_pos hP0]
        have hz0 : sg.toInt * (x a * y b) = 0 := by rw [← hP, hP0]; rfl
        refine Or.inr ⟨s, rfl, fun K hK => ?_⟩
        rw [hs K hK, ← Int.mul_assoc (x a), ← Int.mul_assoc sg.toInt, hz0, ← Int.mul_assoc (x a), ← Int.mul_assoc sg.toInt, hz0, Int.zero_mul, Int.zero_mul]
      · rw [if_neg hP0]
        obtain ⟨q1, q2⟩ := X0entry (p := p) (l := 2) (c := c2) (k := d) V R hp hC hn hch hV (by omega) h2 hd
        have ez : z d = (xn V R C 2 c2 d : Int) := if_pos hd
        have hzd := hzk d
        have hxyz := mul_bd hxy.1 hxy.2 hzd.1 hzd.2
        have hPz : (((sg * nI (xn V R C 0 c0 a)) * nI (xn V R C 1 c1 b)) * nI (xn V R C 2 c2 d)).toInt = sg.toInt * (x a * y b * z d) := by
          have h9 := hsgm _ hxyz.1 216 hxyz.2
          have e9 : sg.toInt * (x a * y b) * z d = sg.toInt * (x a * y b * z d) := Int.mul_assoc _ _ _
          rw [i32_mul] <;> rw [hP, nI_toInt (by rw [ez] at hzd; omega), ← ez, e9] <;> omega
        have hsb : (s (a + b + d)).toInt = (X (a + b + d)).toInt := by rw [hs _ (by omega), if_neg (by omega), Int.mul_zero, Int.mul_zero, Int.mul_zero, Int.add_zero]
        have hXb := hX (a + b + d) (by omega)
        have h9 := hsgm _ hxyz.1 216 hxyz.2
        refine Or.inl ⟨upd s (a + b + d) (s (a + b + d) + ((sg * nI (xn V R C 0 c0 a)) * nI (xn V R C 1 c1 b)) * nI (xn V R C 2 c2 d)), ?_, fun K hK => ?_⟩
        · rw [bd_t (show fX0_entryAt (nI C) ch 105 (5 : Int32) (3 : Int32) (7 : Int32) (nI C) nnum (2 : Int32) (nI c2) (nI d) = _ from q1)]
          unfold fX0_addAt
          rw [nI_add, nI_add, if_neg (nI_pos (by omega)), if_neg (show ¬ (19 : Int32) ≤ nI (a + b + d) from (nI_ge (by omega) (by omega) : ¬ nI 19 ≤ nI (a + b + d))), gd_t (vp_in_nI (by omega) (by omega)), gd_t (vp_in_nI (by omega) (by omega)), nI_clamp (by omega)]
          rfl
        · by_cases e : K = a + b + d
          · subst e
            rw [pk_us, if_pos (show a + b ≤ a + b + d ∧ a + b + d - (a + b) < d + 1 by omega), show a + b + d - (a + b) = d by omega]
            rw [i32_add] <;> rw [hsb, hPz]
            · rw [Int.mul_assoc (x a)]
            · omega
            · omega
          · rw [pk_un e, hs K hK]
            by_cases h3 : a + b ≤ K ∧ K - (a + b) < d
            · rw [if_pos h3, if_pos (show a + b ≤ K ∧ K - (a + b) < d + 1 by omega)]
            · rw [if_neg h3, if_neg (show ¬ (a + b ≤ K ∧ K - (a + b) < d + 1) by omega)]
    · intro s hs
      refine ⟨s, ?_, hs⟩
      dsimp only
      unfold fX0_addProduct_s56
      rw [if_pos (show (6 : Int32) < nI 7 from (nI_lt (by omega) (by omega) : nI 6 < nI 7))]
  -- the middle loop
  have hsmb : ∀ a b K, b ≤ 7 → 0 ≤ sm b (fun b' => y b' * pick z (a + b') K) ∧ sm b (fun b' => y b' * pick z (a + b') K) ≤ 252 := by
    intro a b K hb
    have := sm_bd (n := b) (B := 36) (f := fun b' => y b' * pick z (a + b') K) (fun i _ => mul_bd (hyk i).1 (hyk i).2 (pick_bd hzk).1 (pick_bd hzk).2)
    omega
  have middle : ∀ a (X : Nat → Int32) (B1 : Int), a < 7 → 0 ≤ B1 → B1 ≤ 1900000 → (∀ K, K < 19 → -B1 ≤ (X K).toInt ∧ (X K).toInt ≤ B1) → ∃ X', Lp (fun (w : Int32 × (Nat → Int32)) => fX0_addProduct_s26 (nI C) ch 105 (5 : Int32) (3 : Int32) (7 : Int32) (nI C) nnum sg (nI c1) (nI c2) (nI a) (nI (xn V R C 0 c0 a)) w.1 w.2) ((0 : Int32), X) = some X' ∧ ∀ K, K < 19 → (X' K).toInt = (X K).toInt + sg.toInt * (x a * sm 7 (fun b => y b * pick z (a + b) K)) := by
    intro a X B1 ha hB1 hB1b hX
    have ex : x a = (xn V R C 0 c0 a : Int) := if_pos ha
    have hxa := hxk a
    have hP1 : (sg * nI (xn V R C 0 c0 a)).toInt = sg.toInt * x a := by
      rw [ex] at hxa ⊢
      have := hsgm _ hxa.1 6 hxa.2
      rw [i32_mul] <;> rw [nI_toInt (by omega)] <;> omega
    refine Lp_up (fun i s => (i, s)) 7 (fun b s => ∀ K, K < 19 → (s K).toInt = (X K).toInt + sg.toInt * (x a * sm b (fun b => y b * pick z (a + b) K))) (fun (s : Nat → Int32) => ∀ K, K < 19 → (s K).toInt = (X K).toInt + sg.toInt * (x a * sm 7 (fun b => y b * pick z (a + b) K))) ?_ ?_ 0 X (Nat.zero_le _) (fun K hK => by show _ = _ + sg.toInt * (x a * 0); rw [Int.mul_zero, Int.mul_zero, Int.add_zero])
    · intro b s hb hs
      dsimp only
      unfold fX0_addProduct_s26
      rw [if_neg (show ¬ (6 : Int32) < nI b from (nI_nlt (by omega) (by omega) : ¬ nI 6 < nI b))]
      by_cases hP0 : sg * nI (xn V R C 0 c0 a) = 0
      · rw [if_pos hP0]
        have hz0 : sg.toInt * x a = 0 := by rw [← hP1, hP0]; rfl
        refine Or.inr ⟨s, rfl, fun K hK => ?_⟩
        rw [hs K hK, ← Int.mul_assoc, hz0, ← Int.mul_assoc, hz0, Int.zero_mul, Int.zero_mul]
      · rw [if_neg hP0]
        obtain ⟨q1, q2⟩ := X0entry (p := p) (l := 1) (c := c1) (k := b) V R hp hC hn hch hV (by omega) h1 hb
        obtain ⟨X', g1, g2⟩ := inner a b s (B1 + 1512) ha hb (by omega) (by omega) (fun K hK => by
          have h5 := hX K hK
          have h6 := hsmb a b K (by omega)
          have h7 := mul_bd hxa.1 hxa.2 h6.1 h6.2
          have h8 := hsgm _ h7.1 1512 h7.2
          rw [hs K hK]
          omega)
        refine Or.inl ⟨X', ?_, fun K hK => ?_⟩
        · rw [bd_t (show fX0_entryAt (nI C) ch 105 (5 : Int32) (3 : Int32) (7 : Int32) (nI C) nnum (1 : Int32) (nI c1) (nI b) = _ from q1)]
          exact bd_t g1
        · rw [g2 K hK, hs K hK, sm_s, Int.mul_add, Int.mul_add, Int.add_assoc]
    · intro s hs
      refine ⟨s, ?_, hs⟩
      dsimp only
      unfold fX0_addProduct_s26
      rw [if_pos (show (6 : Int32) < nI 7 from (nI_lt (by omega) (by omega) : nI 6 < nI 7))]
  have hsma : ∀ a K, a ≤ 7 → 0 ≤ sm a (fun a' => x a' * sm 7 (fun b => y b * pick z (a' + b) K)) ∧ sm a (fun a' => x a' * sm 7 (fun b => y b * pick z (a' + b) K)) ≤ 10584 := by
    intro a K ha
    have := sm_bd (n := a) (B := 1512) (f := fun a' => x a' * sm 7 (fun b => y b * pick z (a' + b) K)) (fun i _ => mul_bd (hxk i).1 (hxk i).2 (hsmb i 7 K (by omega)).1 (hsmb i 7 K (by omega)).2)
    omega
  obtain ⟨N1, g1, g2⟩ := Lp_up (fun i s => (i, s)) (g := fun (w : Int32 × (Nat → Int32)) => fX0_addProduct_s3 (nI C) ch 105 (5 : Int32) (3 : Int32) (7 : Int32) (nI C) nnum sg (nI c0) (nI c1) (nI c2) w.1 w.2) 7 (fun a s => ∀ K, K < 19 → (s K).toInt = (N0 K).toInt + sg.toInt * sm a (fun a' => x a' * sm 7 (fun b => y b * pick z (a' + b) K))) (fun (s : Nat → Int32) => ∀ K, K < 19 → (s K).toInt = (N0 K).toInt + sg.toInt * sm 7 (fun a' => x a' * sm 7 (fun b => y b * pick z (a' + b) K)))
    (fun a s ha hs => by
      dsimp only
      unfold fX0_addProduct_s3
      rw [if_neg (show ¬ (6 : Int32) < nI a from (nI_nlt (by omega) (by omega) : ¬ nI 6 < nI a))]
      obtain ⟨q1, q2⟩ := X0entry (p := p) (l := 0) (c := c0) (k := a) V R hp hC hn hch hV (by omega) h0 ha
      obtain ⟨X', g1, g2⟩ := middle a s (B + 10584) ha (by omega) (by omega) (fun K hK => by
        have h5 := hN K hK
        have h6 := hsma a K (by omega)
        have h8 := hsgm _ h6.1 10584 h6.2
        rw [hs K hK]
        omega)
      refine Or.inl ⟨X', ?_, fun K hK => ?_⟩
      · rw [bd_t (show fX0_entryAt (nI C) ch 105 (5 : Int32) (3 : Int32) (7 : Int32) (nI C) nnum (0 : Int32) (nI c0) (nI a) = _ from q1)]
        exact bd_t g1
      · rw [g2 K hK, hs K hK, sm_s a, Int.mul_add, Int.add_assoc])
    (fun s hs => by
      refine ⟨s, ?_, hs⟩
      dsimp only
      unfold fX0_addProduct_s3
      rw [if_pos (show (6 : Int32) < nI 7 from (nI_lt (by omega) (by omega) : nI 6 < nI 7))]) 0 N0 (Nat.zero_le _) (fun K hK => by show _ = _ + sg.toInt * 0; rw [Int.mul_zero, Int.add_zero])
  refine ⟨N1, ?_, fun K hK => ?_⟩
  · unfold fX0_addProduct
    exact bd_t g1
  · have h6 := hsma 7 K (by omega)
    have h8 := hsgm _ h6.1 10584 h6.2
    have h5 := hN K hK
    have h9 := g2 K hK
    refine ⟨?_, by rw [h9]; omega, by rw [h9]; omega⟩
    rw [h9, T_eq xe_hi xe_hi xe_hi]
/-- the six orders -/
def dx (V : Nat → Nat → Nat → Nat) (R : Nat → Nat) (C : Nat) : Pl := fun K => pm (xe V R C 0 0) (pm (xe V R C 1 1) (xe V R C 2 2)) K + pm (xe V R C 0 1) (pm (xe V R C 1 2) (xe V R C 2 0)) K + pm (xe V R C 0 2) (pm (xe V R C 1 0) (xe V R C 2 1)) K - pm (xe V R C 0 0) (pm (xe V R C 1 2) (xe V R C 2 1)) K - pm (xe V R C 0 1) (pm (xe V R C 1 0) (xe V R C 2 2)) K - pm (xe V R C 0 2) (pm (xe V R C 1 1) (xe V R C 2 0)) K
theorem dx_dt {V : Nat → Nat → Nat → Nat} {R : Nat → Nat} {C : Nat} (hC1 : 1 ≤ C) (hC : C ≤ 3) : dx V R C = dt C (rm V R (fun c => c)) := by
  have e1 : ∀ l c, l < C → c < C → xe V R C l c = en V (R l) c := by
    intro l c hl hc
    funext k
    unfold xe xn en
    rw [if_pos hl, if_pos hc]
  have e2 : ∀ l c, l < C → C ≤ c → xe V R C l c = z0 := by
    intro l c hl hc
    funext k
    have h : xn V R C l c k = 0 := by
      unfold xn
      rw [if_pos hl, if_neg (show ¬ c < C by omega)]
    unfold xe z0
    rw [h]
    split <;> rfl
  have e3 : ∀ l, C ≤ l → xe V R C l l = u1 := by
    intro l hl
    funext k
    have h : xn V R C l l k = if k = 0 then 1 else 0 := by
      unfold xn
      rw [if_neg (show ¬ l < C by omega)]
      by_cases h : k = 0
      · rw [if_pos ⟨rfl, h⟩, if_pos h]
      · rw [if_neg (fun q => h q.2), if_neg h]
    unfold xe u1
    rw [h]
    by_cases h0 : k = 0
    · subst h0
      rfl
    · rw [if_neg h0, if_neg h0]
      split <;> rfl
  have e4 : ∀ l c, C ≤ l → l ≠ c → xe V R C l c = z0 := by
    intro l c hl hne
    funext k
    have h : xn V R C l c k = 0 := by
      unfold xn
      rw [if_neg (show ¬ l < C by omega), if_neg (fun q => hne q.1)]
    unfold xe z0
    rw [h]
    split <;> rfl
  funext K
  unfold dx dt
  rcases (show C = 1 ∨ C = 2 ∨ C = 3 by omega) with e | e | e <;> subst e
  · rw [if_pos rfl]
    simp only [e1 0 0 (by omega) (by omega), e3 1 (by omega), e3 2 (by omega), e2 0 1 (by omega) (by omega), e2 0 2 (by omega) (by omega), e4 1 2 (by omega) (by omega), pm_z, pm_z', pm_u']
    unfold d1 rm z0
    show en V (R 0) 0 K + 0 + 0 - 0 - 0 - 0 = en V (R 0) 0 K
    omega
  · rw [if_neg (by omega), if_pos rfl]
    simp only [e1 0 0 (by omega) (by omega), e1 1 1 (by omega) (by omega), e1 0 1 (by omega) (by omega), e1 1 0 (by omega) (by omega), e3 2 (by omega), e2 0 2 (by omega) (by omega), e2 1 2 (by omega) (by omega), pm_z, pm_z', pm_u']
    unfold d2 rm z0
    simp only [pa_at, pn_at]
    omega
  · rw [if_neg (by omega), if_neg (by omega)]
    rw [e1 0 0 (by omega) (by omega), e1 0 1 (by omega) (by omega), e1 0 2 (by omega) (by omega), e1 1 0 (by omega) (by omega), e1 1 1 (by omega) (by omega), e1 1 2 (by omega) (by omega), e1 2 0 (by omega) (by omega), e1 2 1 (by omega) (by omega), e1 2 2 (by omega) (by omega)]
    simp only [← pm_assoc]
    unfold d3 rm
    simp only [pa_at, pn_at]
    omega
theorem X0build {p C n : Nat} {a : Int32} {dn dc nnum : Nat → Int32} (V : Nat → Nat → Nat → Nat) (hp : p = 2 ∨ p = 3 ∨ p = 5 ∨ p = 7) (hC1 : 1 ≤ C) (hC : C ≤ 3) (hn : n ≤ 5) (hcnt : cnt a n = C) (hV : ∀ i c k, i < n → c < 3 → k < 7 → V i c k < p ∧ nnum ((i * 3 + c) * 7 + k) = nI (V i c k)) :
    ∃ D ch, fX0_buildFrom dn dc 105 (5 : Int32) (3 : Int32) (7 : Int32) (nI p) (nI C) (nI n) nnum a = some (nI C, D, ch) ∧ ∀ sel, Chosen n a C sel → ∀ K, K < 19 → D K = nI (md (dt C (rm V sel (fun c => c)) K) p) := by
  have hp0 : 0 < p := by omega
  obtain ⟨ch, c1, c2⟩ := X0choose (ch := dc) (a := a) hn (by omega)
  rw [hcnt] at c1 c2
  obtain ⟨Z, z1, z2, -⟩ := Lp_arr (g := fun (z : Int32 × (Nat → Int32)) => fX0_buildFrom_s8 z.1 z.2) (a := 0) (N := 19) (A := dn) (fun k => k) (fun _ => 0) (by omega) (fun i j _ h _ => by omega) (fun k s _ hk _ => by
      dsimp only
      unfold fX0_buildFrom_s8
      rw [if_neg (show ¬ (19 : Int32) ≤ nI k from (nI_ge hk (by omega) : ¬ nI 19 ≤ nI k)), gd_t (vp_in_nI (by omega) (by omega)), nI_clamp (by omega)]) (fun s _ => by
      dsimp only
      unfold fX0_buildFrom_s8
      rw [if_pos (show (19 : Int32) ≤ nI 19 from (nI_le (Nat.le_refl 19) (by omega) : nI 19 ≤ nI 19))])
  obtain ⟨sel, hsel⟩ := chosen_ex a n
  rw [hcnt] at hsel
  have hch : ∀ l, l < C → sel l < n ∧ ch l = nI (sel l) := fun l hl => ⟨(hsel.1 l hl).1, c2 sel hsel l hl⟩
  have s1 : (1 : Int32).toInt = 1 := by decide
  have s2 : (-1 : Int32).toInt = -1 := by decide
  obtain ⟨N1, f1, g1⟩ := X0product (c0 := 0) (c1 := 1) (c2 := 2) (N0 := Z) (sg := 1) (B := 0) V sel (show 1 < p by omega) (by omega) hC hn hch hV (by omega) (by omega) (by omega) (Or.inl rfl) (by omega) (by omega) (fun K hK => by rw [z2 K (by omega) hK]; decide)
  obtain ⟨N2, f2, g2⟩ := X0product (c0 := 1) (c1 := 2) (c2 := 0) (N0 := N1) (sg := 1) (B := 10584) V sel (show 1 < p by omega) (by omega) hC hn hch hV (by omega) (by omega) (by omega) (Or.inl rfl) (by omega) (by omega) (fun K hK => by have := (g1 K hK).2; omega)
  obtain ⟨N3, f3, g3⟩ := X0product (c0 := 2) (c1 := 0) (c2 := 1) (N0 := N2) (sg := 1) (B := 21168) V sel (show 1 < p by omega) (by omega) hC hn hch hV (by omega) (by omega) (by omega) (Or.inl rfl) (by omega) (by omega) (fun K hK => by have := (g2 K hK).2; omega)
  obtain ⟨N4, f4, g4⟩ := X0product (c0 := 0) (c1 := 2) (c2 := 1) (N0 := N3) (sg := -1) (B := 31752) V sel (show 1 < p by omega) (by omega) hC hn hch hV (by omega) (by omega) (by omega) (Or.inr rfl) (by omega) (by omega) (fun K hK => by have := (g3 K hK).2; omega)
  obtain ⟨N5, f5, g5⟩ := X0product (c0 := 1) (c1 := 0) (c2 := 2) (N0 := N4) (sg := -1) (B := 42336) V sel (show 1 < p by omega) (by omega) hC hn hch hV (by omega) (by omega) (by omega) (Or.inr rfl) (by omega) (by omega) (fun K hK => by have := (g4 K hK).2; omega)
  obtain ⟨N6, f6, g6⟩ := X0product (c0 := 2) (c1 := 1) (c2 := 0) (N0 := N5) (sg := -1) (B := 52920) V sel (show 1 < p by omega) (by omega) hC hn hch hV (by omega) (by omega) (by omega) (Or.inr rfl) (by omega) (by omega) (fun K hK => by have := (g5 K hK).2; omega)
  have hloop : Lp (fun (z : Int32 × (Nat → Int32)) => fX0_buildFrom_s32 105 (5 : Int32) (3 : Int32) (7 : Int32) (nI C) nnum (nI C) ch z.1 z.2) ((0 : Int32), Z) = some N6 := by
    refine (Lp_go (t := ((3 : Int32), N1)) ?_).trans ((Lp_go (t := ((6 : Int32), N2)) ?_).trans ((Lp_go (t := ((9 : Int32), N3)) ?_).trans ((Lp_go (t := ((12 : Int32), N4)) ?_).trans ((Lp_go (t := ((15 : Int32), N5)) ?_).trans ((Lp_go (t := ((18 : Int32), N6)) ?_).trans (Lp_end ?_))))))
    · dsimp only
      unfold fX0_buildFrom_s32
      rw [if_neg (by decide), if_neg (by decide), bd_t rfl, gd_t (show vp_in (0 : Int32) 18 from (vp_in_nI (by omega) (by omega) : vp_in (nI 0) 18)), gd_t (show vp_in ((0 : Int32) + (1 : Int32)) 18 from (vp_in_nI (by omega) (by omega) : vp_in (nI 1) 18)), gd_t (show vp_in ((0 : Int32) + (2 : Int32)) 18 from (vp_in_nI (by omega) (by omega) : vp_in (nI 2) 18))]
      exact bd_t f1
    · dsimp only
      unfold fX0_buildFrom_s32
      rw [if_neg (by decide), if_neg (by decide), bd_t rfl, gd_t (show vp_in (3 : Int32) 18 from (vp_in_nI (by omega) (by omega) : vp_in (nI 3) 18)), gd_t (show vp_in ((3 : Int32) + (1 : Int32)) 18 from (vp_in_nI (by omega) (by omega) : vp_in (nI 4) 18)), gd_t (show vp_in ((3 : Int32) + (2 : Int32)) 18 from (vp_in_nI (by omega) (by omega) : vp_in (nI 5) 18))]
      exact bd_t f2
    · dsimp only
      unfold fX0_buildFrom_s32
      rw [if_neg (by decide), if_neg (by decide), bd_t rfl, gd_t (show vp_in (6 : Int32) 18 from (vp_in_nI (by omega) (by omega) : vp_in (nI 6) 18)), gd_t (show vp_in ((6 : Int32) + (1 : Int32)) 18 from (vp_in_nI (by omega) (by omega) : vp_in (nI 7) 18)), gd_t (show vp_in ((6 : Int32) + (2 : Int32)) 18 from (vp_in_nI (by omega) (by omega) : vp_in (nI 8) 18))]
      exact bd_t f3
    · dsimp only
      unfold fX0_buildFrom_s32
      rw [if_neg (by decide), if_pos (by decide), bd_t rfl, gd_t (show vp_in (9 : Int32) 18 from (vp_in_nI (by omega) (by omega) : vp_in (nI 9) 18)), gd_t (show vp_in ((9 : Int32) + (1 : Int32)) 18 from (vp_in_nI (by omega) (by omega) : vp_in (nI 10) 18)), gd_t (show vp_in ((9 : Int32) + (2 : Int32)) 18 from (vp_in_nI (by omega) (by omega) : vp_in (nI 11) 18))]
      exact bd_t f4
    · dsimp only
      unfold fX0_buildFrom_s32
      rw [if_neg (by decide), if_pos (by decide), bd_t rfl, gd_t (show vp_in (12 : Int32) 18 from (vp_in_nI (by omega) (by omega) : vp_in (nI 12) 18)), gd_t (show vp_in ((12 : Int32) + (1 : Int32)) 18 from (vp_in_nI (by omega) (by omega) : vp_in (nI 13) 18)), gd_t (show vp_in ((12 : Int32) + (2 : Int32)) 18 from (vp_in_nI (by omega) (by omega) : vp_in (nI 14) 18))]
      exact bd_t f5
    · dsimp only
      unfold fX0_buildFrom_s32
      rw [if_neg (by decide), if_pos (by decide), bd_t rfl, gd_t (show vp_in (15 : Int32) 18 from (vp_in_nI (by omega) (by omega) : vp_in (nI 15) 18)), gd_t (show vp_in ((15 : Int32) + (1 : Int32)) 18 from (vp_in_nI (by omega) (by omega) : vp_in (nI 16) 18)), gd_t (show vp_in ((15 : Int32) + (2 : Int32)) 18 from (vp_in_nI (by omega) (by omega) : vp_in (nI 17) 18))]
      exact bd_t f6
    · dsimp only
      unfold fX0_buildFrom_s32
      rw [if_pos (by decide)]
  obtain ⟨D, dq1, dq2, -⟩ := Lp_arr (g := fun (z : Int32 × (Nat → Int32)) => fX0_buildFrom_s89 (nI p) z.1 z.2) (a := 0) (N := 19) (A := N6) (fun k => k) (fun k => nI (md (N6 k).toInt p)) (by omega) (fun i j _ h _ => by omega) (fun k s _ hk hs => by
      dsimp only
      have sk : s k = N6 k := hs k (fun j _ hj => by omega)
      unfold fX0_buildFrom_s89
      rw [if_neg (show ¬ (19 : Int32) ≤ nI k from (nI_ge hk (by omega) : ¬ nI 19 ≤ nI k)), gd_t (vp_in_nI (by omega) (by omega)), nI_clamp (by omega), sk, bd_t (fm_any hp0 (by omega)), gd_t (vp_in_nI (by omega) (by omega))]) (fun s _ => by
      dsimp only
      unfold fX0_buildFrom_s89
      rw [if_pos (show (19 : Int32) ≤ nI 19 from (nI_le (Nat.le_refl 19) (by omega) : nI 19 ≤ nI 19))])
  refine ⟨D, ch, ?_, fun sel' hsel' K hK => ?_⟩
  · unfold fX0_buildFrom
    rw [bd2_t c1]
    exact (bd_t z1).trans ((bd_t hloop).trans (bd_t dq1))
  · have hN6 : (N6 K).toInt = dx V sel C K := by
      have h1 := (g1 K hK).1
      have h2 := (g2 K hK).1
      have h3 := (g3 K hK).1
      have h4 := (g4 K hK).1
      have h5 := (g5 K hK).1
      have h6 := (g6 K hK).1
      rw [z2 K (by omega) hK, s1, show (0 : Int32).toInt = 0 from rfl] at h1
      rw [s1] at h2 h3
      rw [s2] at h4 h5 h6
      unfold dx
      omega
    have hss := Chosen_uniq hsel' hsel
    have e : rm V sel (fun c => c) = rm V sel (fun c => c) := rfl
    rw [dq2 K (by omega) hK, hN6, dx_dt hC1 hC]
    have hd : dt C (rm V sel' (fun c => c)) = dt C (rm V sel (fun c => c)) := by
      have hr : ∀ l, l < C → ∀ c, rm V sel' (fun c => c) l c = rm V sel (fun c => c) l c := fun l hl c => by unfold rm; rw [hss.2 l hl]
      unfold dt
      rcases (show C = 1 ∨ C = 2 ∨ C = 3 by omega) with e | e | e <;> subst e
      · rw [if_pos rfl, if_pos rfl]
        unfold d1
        rw [hr 0 (by omega)]
      · rw [if_neg (by omega), if_pos rfl, if_neg (by omega), if_pos rfl]
        unfold d2
        rw [hr 0 (by omega), hr 0 (by omega), hr 1 (by omega), hr 1 (by omega)]
      · rw [if_neg (by omega), if_neg (by omega), if_neg (by omega), if_neg (by omega)]
        unfold d3
        simp only [hr 0 (by omega), hr 1 (by omega), hr 2 (by omega)]
    rw [hd]
theorem X8degreeOf (X : Nat → Int32) : fX8_degreeOf 25 X = some (pv (dgr (fun k => k < 25 ∧ X k ≠ 0) 25)) := by
  unfold fX8_degreeOf
  have h := dgr_loop (g := fun z => fX8_degreeOf_s3 25 X z) (nz := fun k => k < 25 ∧ X k ≠ 0) 25 (fun j hj h => by
    unfold fX8_degreeOf_s3
    rw [if_neg (nI_pos (by omega)), gd_t (vp_in_nI (by omega) (by omega)), nI_clamp (by omega), if_pos (Classical.byContradiction fun z => h ⟨hj, z⟩)]) (fun j hj h => by
    unfold fX8_degreeOf_s3
    rw [if_neg (nI_pos (by omega)), gd_t (vp_in_nI (by omega) (by omega)), nI_clamp (by omega), if_neg h.2]) (by
    unfold fX8_degreeOf_s3
    rw [if_pos (by decide)])
  exact bd_t (show Lp (fun z => fX8_degreeOf_s3 25 X z) (24 : Int32) = _ from h)
theorem X0degree (X : Nat → Int32) : fX0_degree X = some (pv (dgr (fun k => X k ≠ 0) 19)) := by
  obtain ⟨r, h1, h2⟩ := Lp_dn (fun (i : Int32) (_ : Unit) => i) (g := fun z => fX0_degree_s8 X z) (fun k _ => dgr (fun k => X k ≠ 0) 19 = dgr (fun k => X k ≠ 0) k) (fun r => r = .inl () ∧ dgr (fun k => X k ≠ 0) 19 = 0 ∨ ∃ v, r = .inr v ∧ v = pv (dgr (fun k => X k ≠ 0) 19)) 19
    (fun j _ hj hI => by
      unfold fX0_degree_s8
      rw [if_neg (nI_pos (by omega)), gd_t (vp_in_nI (by omega) (by omega)), nI_clamp (by omega)]
      by_cases h : X j = 0
      · rw [if_pos h]
        exact Or.inl ⟨(), rfl, by rw [hI, dgr_n (nz := fun k => X k ≠ 0) (fun z => z h)]⟩
      · rw [if_neg h]
        refine Or.inr ⟨_, rfl, Or.inr ⟨nI j, rfl, ?_⟩⟩
        rw [hI, dgr_y (nz := fun k => X k ≠ 0) h, pv_s])
    (fun _ hI => by
      refine ⟨.inl (), ?_, Or.inl ⟨rfl, hI⟩⟩
      unfold fX0_degree_s8
      rw [if_pos (by decide)]) 19 () (Nat.le_refl _) rfl
  unfold fX0_degree
  rw [show Lp (fun z => fX0_degree_s8 X z) ((19 : Int32) - (1 : Int32)) = some r from h1]
  rcases h2 with ⟨e, e2⟩ | ⟨v, e, e2⟩
  · subst e
    rw [e2]
    rfl
  · subst e e2
    rfl
theorem dgr_congr {nz nz' : Nat → Prop} {n m : Nat} (hnm : n ≤ m) (h : ∀ k, k < n → (nz k ↔ nz' k)) (h2 : ∀ k, n ≤ k → k < m → ¬ nz' k) : dgr nz n = dgr nz' m := by
  have h1 : dgr nz n = dgr nz' n := by
    have : ∀ j, j ≤ n → dgr nz j = dgr nz' j := by
      intro j
      induction j with
      | zero => intro _; rfl
      | succ j ih =>
        intro hj
        by_cases e : nz j
        · rw [dgr_y e, dgr_y ((h j (by omega)).mp e)]
        · rw [dgr_n e, dgr_n (fun z => e ((h j (by omega)).mpr z)), ih (by omega)]
    exact this n (Nat.le_refl n)
  have h3 : ∀ d, n + d ≤ m → dgr nz' (n + d) = dgr nz' n := by
    intro d
    induction d with
    | zero => intro _; rfl
    | succ d ih =>
      intro hd
      rw [show n + (d + 1) = n + d + 1 by omega, dgr_n (h2 (n + d) (by omega) (by omega)), ih (by omega)]
  have := h3 (m - n) (by omega)
  rw [show n + (m - n) = m by omega] at this
  rw [h1, this]
