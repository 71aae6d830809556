/-! the class's form of the chosen rows -/
theorem blk_lt {p n s c k : Nat} (V : Nat → Nat → Nat → Nat) (hp : 1 < p) (hs : s < n) (hV : ∀ i c k, i < n → c < 3 → k < 7 → V i c k < p) : blk V s c k < p := by
  unfold blk
  by_cases h3 : c < 3
  · rw [if_pos h3]
    by_cases h7 : k < 7
    · rw [if_pos h7]; exact hV s c k hs h3 h7
    · rw [if_neg h7]; omega
  · rw [if_neg h3]
    split <;> omega
/-- a row of the state -/
def rwV (V : Nat → Nat → Nat → Nat) (s : Nat) : Rw := fun c k => if c < 3 ∧ k < 7 then (V s c k : Int) else 0
theorem rw8_blk {V : Nat → Nat → Nat → Nat} {num : Nat → Int32} {m s c p : Nat} (hp2 : p < 1000) (hc : c < 3) (hb : ∀ c k, blk V s c k < p) (h : ∀ c k, c < 8 → k < 25 → num ((m * 8 + c) * 25 + k) = nI (blk V s c k)) (k : Nat) : rw8 num m c k = rwV V s c k := by
  unfold rw8 rwV
  by_cases hk : k < 25
  · rw [if_pos hk]
    unfold cl8
    rw [h c k (by omega) hk, nI_toInt (by have := hb c k; omega)]
    unfold blk
    rw [if_pos hc]
    by_cases h7 : k < 7
    · rw [if_pos h7, if_pos ⟨hc, h7⟩]
    · rw [if_neg h7, if_neg (by omega)]
      rfl
  · rw [if_neg hk, if_neg (by omega)]
theorem buildFrom8 {p C n : Nat} {qnum lnum pl yp : Nat → Int32} {a1 x1 x2 x3 x4 x5 x6 : Int32} (V : Nat → Nat → Nat → Nat) (J : Nat → (Nat → Nat) → Nat → (Nat → Int32) → Prop) (hp : p = 2 ∨ p = 3 ∨ p = 5 ∨ p = 7) (hC : C ≤ 3) (hn : n ≤ 5) (hV : ∀ i c k, i < n → c < 3 → k < 7 → V i c k < p ∧ qnum ((i * 3 + c) * 7 + k) = nI (V i c k)) (hJC : ∀ K sel, JC p C (J K sel))
    (hJ0 : ∀ K sel num, Chosen n a1 K sel → Rep8 p K num → Low8 C K num → (∀ m c k, m < K → c < 8 → k < 25 → num ((m * 8 + c) * 25 + k) = nI (blk V (sel m) c k)) → J K sel K num) :
    ∃ K sel m num' b1 b2 b3 b4 b5 b6 b7 b8, fX2_buildFrom lnum x1 x2 x3 x4 x5 pl x6 yp 105 (5 : Int32) (3 : Int32) (7 : Int32) (nI p) (nI C) (nI n) qnum a1 = some (nI p, nI C, nI m, num', b1, b2, b3, b4, b5, b6, b7, b8) ∧ Chosen n a1 K sel ∧ m ≤ K ∧ Rep8 p m num' ∧ Low8 C m num' ∧ J K sel m num' ∧ (∀ i, i < m → P8 num' C i ≠ 0) ∧ Popv p C m (rw8 num') (fun i => P8 num' C i - 1) := by
  obtain ⟨K, num, sel, h1, hc, h2⟩ := build8L (p := p) (n := n) (qnum := qnum) (lnum := lnum) (a1 := a1) V (by omega) (by omega) hn hV
  have hK := Chosen_le hc
  have hb : ∀ m, m < K → ∀ c k, blk V (sel m) c k < p := fun m hm c k => blk_lt (n := n) V (by omega) (hc.1 m hm).1 (fun i c k hi hc hk => (hV i c k hi hc hk).1)
  have hrep : Rep8 p K num := fun i c k hi hc hk => ⟨_, hb i hi c k, h2 i c k hi hc hk⟩
  have hlow : Low8 C K num := by
    intro i c k hi hc hk hk2
    rw [h2 i c k hi (by omega) hk2]
    unfold blk
    rw [if_pos (by omega), if_neg (by omega)]
    rfl
  obtain ⟨m, num', b1, b2, b3, b4, b5, b6, b7, b8, h3, h4, h5, h6, h7, h8, h9⟩ := toForm8 (pl := pl) (yp := yp) (a1 := x1) (a2 := x2) (a3 := x3) (a4 := x4) (a5 := x5) (a6 := x6) (J K sel) hp hC (by omega) (hJC K sel) hrep hlow (hJ0 K sel num hc hrep hlow h2)
  refine ⟨K, sel, m, num', b1, b2, b3, b4, b5, b6, b7, b8, ?_, hc, h4, h5, h6, h7, h8, h9⟩
  unfold fX2_buildFrom
  rw [bd3_t (show fX3_reset (nI p) (nI C) = some (nI p, nI C, 0) from rfl), bd2_t h1, bd10_t h3]
theorem build_mod {p C n : Nat} {a1 : Int32} (V : Nat → Nat → Nat → Nat) (hp : 1 < p) (hp2 : p < 1000) (hC : C ≤ 3) (hV : ∀ i c k, i < n → c < 3 → k < 7 → V i c k < p) : ∀ K sel num, Chosen n a1 K sel → Rep8 p K num → Low8 C K num → (∀ m c k, m < K → c < 8 → k < 25 → num ((m * 8 + c) * 25 + k) = nI (blk V (sel m) c k)) → SameM p C K (fun m => rwV V (sel m)) K (rw8 num) := by
  intro K sel num hc hrep hlow h
  refine SameM_e (fun m hm => eqv_same (fun c hcC k => ?_))
  exact (rw8_blk (p := p) hp2 (by omega) (fun c k => blk_lt (n := n) V hp (hc.1 m hm).1 hV) (fun c k h8 hk => h m c k hm h8 hk) k).symm
