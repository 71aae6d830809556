/-! the reference brings a row below the others' leads -/
/-- the place, plus one, at which row j could take from row i; 0 if it can't -/
noncomputable def xp (W : Nat → Int32) (C i j : Nat) : Nat := if j ≠ i ∧ P8 (emb W) C j ≠ 0 ∧ pw (P8 (emb W) C j) ≤ dgr (wz W i ((P8 (emb W) C j - 1) % 3)) 8 then (dgr (wz W i ((P8 (emb W) C j - 1) % 3)) 8 - 1) * 3 + (P8 (emb W) C j - 1) % 3 + 1 else 0
theorem xp_le (W : Nat → Int32) (C i j : Nat) : xp W C i j ≤ 24 := by
  unfold xp
  have := dgr_le (wz W i ((P8 (emb W) C j - 1) % 3)) 8
  split <;> omega
theorem X8search {C i m : Nat} {W : Nat → Int32} (hC : C ≤ 3) (hm : m ≤ 5) (hi : i < 6) : ∃ b : Int32, Lp (fun (z : Int32 × Int32 × Int32 × Int32) => fX8_lowers_s20 (nI C) (nI i) (nI m) W z.1 z.2.1 z.2.2.1 z.2.2.2) ((-1 : Int32), (-1 : Int32), (-1 : Int32), (0 : Int32)) = some (b, pv (cp (mxd (xp W C i) m))) ∧ (mxd (xp W C i) m = 0 ∧ b = -1 ∨ ∃ j, j < m ∧ b = nI j ∧ mxd (xp W C i) m ≠ 0 ∧ xp W C i j = mxd (xp W C i) m) := by
  obtain ⟨r, h1, b, h2, h3⟩ := Lp_up (fun j (s : Int32 × Int32 × Int32) => (s.1, s.2.1, s.2.2, j)) (g := fun (z : Int32 × Int32 × Int32 × Int32) => fX8_lowers_s20 (nI C) (nI i) (nI m) W z.1 z.2.1 z.2.2.1 z.2.2.2) m
    (fun j s => s.2.1 = pv (pw (mxd (xp W C i) j)) ∧ s.2.2 = pv (cp (mxd (xp W C i) j)) ∧ (mxd (xp W C i) j = 0 ∧ s.1 = -1 ∨ ∃ j', j' < j ∧ s.1 = nI j' ∧ mxd (xp W C i) j ≠ 0 ∧ xp W C i j' = mxd (xp W C i) j))
    (fun r => ∃ b, r = (b, pv (cp (mxd (xp W C i) m))) ∧ (mxd (xp W C i) m = 0 ∧ b = -1 ∨ ∃ j, j < m ∧ b = nI j ∧ mxd (xp W C i) m ≠ 0 ∧ xp W C i j = mxd (xp W C i) m))
    (fun j s hj hI => by
      obtain ⟨s1, s2, s3⟩ := s
      obtain ⟨e2, e3, e1⟩ := hI
      dsimp only at e1 e2 e3 ⊢
      subst e2 e3
      have hM := mxd_le (xp W C i) (B := 24) j (fun c _ => xp_le W C i c)
      have hPle : P8 (emb W) C j ≤ 24 := rP_le (emb W) 8 25 C j
      have hkeep : xp W C i j ≤ mxd (xp W C i) j → mxd (xp W C i) (j + 1) = mxd (xp W C i) j := fun h => if_pos h
      have htake : ¬ xp W C i j ≤ mxd (xp W C i) j → mxd (xp W C i) (j + 1) = xp W C i j := fun h => if_neg h
      have hold : mxd (xp W C i) (j + 1) = mxd (xp W C i) j → (mxd (xp W C i) (j + 1) = 0 ∧ s1 = -1 ∨ ∃ j', j' < j + 1 ∧ s1 = nI j' ∧ mxd (xp W C i) (j + 1) ≠ 0 ∧ xp W C i j' = mxd (xp W C i) (j + 1)) := by
        intro h
        rw [h]
        rcases e1 with h1 | ⟨j', h1, h2, h3, h4⟩
        · exact Or.inl h1
        · exact Or.inr ⟨j', by omega, h2, h3, h4⟩
      unfold fX8_lowers_s20
      rw [if_neg (nI_ge hj (by omega))]
      by_cases hji : j = i
      · have hx : xp W C i j = 0 := if_neg (fun z => z.1 hji)
        have hk := hkeep (by rw [hx]; exact Nat.zero_le _)
        rw [if_pos (by rw [hji]), bd_t rfl, if_neg (by decide), bd_t rfl, if_pos (by decide), bd_t rfl, if_pos rfl, bd3_t rfl]
        exact Or.inl ⟨(s1, pv (pw (mxd (xp W C i) j)), pv (cp (mxd (xp W C i) j))), rfl, by dsimp only; rw [hk], by dsimp only; rw [hk], hold hk⟩
      rw [if_neg (fun e => hji ((nI_eq (by omega) (by omega)).mp e)), bd_t ((bd_t (X8wPiv (W := W) (show j < 6 by omega) hC)).trans rfl)]
      by_cases hP : P8 (emb W) C j = 0
      · have hx : xp W C i j = 0 := if_neg (fun z => z.2.1 hP)
        have hk := hkeep (by rw [hx]; exact Nat.zero_le _)
        rw [hP, show cp 0 = 0 from rfl, if_neg (by decide), bd_t rfl, if_pos (by decide), bd_t rfl, if_pos rfl, bd3_t rfl]
        exact Or.inl ⟨(s1, pv (pw (mxd (xp W C i) j)), pv (cp (mxd (xp W C i) j))), rfl, by dsimp only; rw [hk], by dsimp only; rw [hk], hold hk⟩
      obtain ⟨b, hb⟩ : ∃ b, P8 (emb W) C j = b + 1 := ⟨P8 (emb W) C j - 1, by omega⟩
      have hbC : b % 3 < C := (plc_spec _ _ _ _ hb).2.1
      have hD := dgr_le (wz W i (b % 3)) 8
      have hxd : xp W C i j = if pw (b + 1) ≤ dgr (wz W i (b % 3)) 8 then (dgr (wz W i (b % 3)) 8 - 1) * 3 + b % 3 + 1 else 0 := by
        unfold xp
        rw [hb, Nat.add_sub_cancel]
        by_cases h : pw (b + 1) ≤ dgr (wz W i (b % 3)) 8
        · rw [if_pos ⟨hji, by omega, h⟩, if_pos h]
        · rw [if_neg (fun z => h z.2.2), if_neg h]
      rw [hb, cp_s, pv_s, if_pos (by rw [← pv_s]; exact (pv_ge0 (by omega)).mpr (by omega)), bd_t ((bd_t (X8wDegAt (W := W) hi (show b % 3 < 3 by omega))).trans rfl), if_neg (nI_pos (by omega)), bd_t (X8wDeg (W := W) (show j < 6 by omega) hC), hb]
      have hpwb : pw (b + 1) ≤ 8 := by rw [pw_s]; omega
      by_cases hcan : pw (b + 1) ≤ dgr (wz W i (b % 3)) 8
      · rw [if_pos hcan] at hxd
        have hD1 : 1 ≤ dgr (wz W i (b % 3)) 8 := by rw [pw_s] at hcan; omega
        have hpx : pw (xp W C i j) = dgr (wz W i (b % 3)) 8 := by rw [hxd, pw_s]; omega
        have hcx : cp (xp W C i j) = b % 3 + 1 := by rw [hxd, cp_s]; omega
        rw [if_neg (fun z => absurd ((pv_ltq (by omega) (by omega)).mp z) (by omega)), bd_t rfl, if_neg (by decide)]
        by_cases hle : xp W C i j ≤ mxd (xp W C i) j
        · have hk := hkeep hle
          have hgt : ¬ pw (mxd (xp W C i) j) < pw (xp W C i j) := by unfold pw; omega
          rw [hpx] at hgt
          have hpwM : pw (mxd (xp W C i) j) ≤ 8 := by unfold pw; omega
          rw [if_neg (fun z => hgt ((pv_ltq (by omega) (by omega)).mp z))]
          have hcase : pv (dgr (wz W i (b % 3)) 8) = pv (pw (mxd (xp W C i) j)) → nI (b % 3) ≤ pv (cp (mxd (xp W C i) j)) := by
            intro e
            have e2 := (pv_eqq (by omega) (by omega)).mp e
            rw [← pv_s, ← hcx]
            have hcM : cp (mxd (xp W C i) j) ≤ 3 := by unfold cp; split <;> omega
            refine (pv_leq (by rw [hcx]; omega) (by omega)).mpr ?_
            rw [hxd] at hle ⊢
            generalize mxd (xp W C i) j = M at *
            cases M with
            | zero => omega
            | succ M =>
              rw [cp_s, cp_s]
              rw [pw_s] at e2
              omega
          by_cases he : pv (dgr (wz W i (b % 3)) 8) = pv (pw (mxd (xp W C i) j))
          · rw [if_pos he, if_pos (hcase he), bd3_t rfl]
            exact Or.inl ⟨(s1, pv (pw (mxd (xp W C i) j)), pv (cp (mxd (xp W C i) j))), rfl, by dsimp only; rw [hk], by dsimp only; rw [hk], hold hk⟩
          · rw [if_neg he, bd3_t rfl]
            exact Or.inl ⟨(s1, pv (pw (mxd (xp W C i) j)), pv (cp (mxd (xp W C i) j))), rfl, by dsimp only; rw [hk], by dsimp only; rw [hk], hold hk⟩
        · have ht := htake hle
          have hpwM : pw (mxd (xp W C i) j) ≤ 8 := by unfold pw; omega
          have hcM : cp (mxd (xp W C i) j) ≤ 3 := by unfold cp; split <;> omega
          have hnew : (mxd (xp W C i) (j + 1) = 0 ∧ nI j = -1 ∨ ∃ j', j' < j + 1 ∧ nI j = nI j' ∧ mxd (xp W C i) (j + 1) ≠ 0 ∧ xp W C i j' = mxd (xp W C i) (j + 1)) := Or.inr ⟨j, by omega, rfl, by rw [ht]; omega, ht.symm⟩
          by_cases hlt : pw (mxd (xp W C i) j) < dgr (wz W i (b % 3)) 8
          · rw [if_pos ((pv_ltq (by omega) (by omega)).mpr hlt), bd3_t rfl]
            exact Or.inl ⟨(nI j, pv (dgr (wz W i (b % 3)) 8), nI (b % 3)), rfl, by dsimp only; rw [ht, hpx], by dsimp only; rw [ht, hcx, pv_s], hnew⟩
          · have he : dgr (wz W i (b % 3)) 8 = pw (mxd (xp W C i) j) := by
              rw [hxd] at hle
              unfold pw at hlt ⊢
              omega
            rw [if_neg (fun z => hlt ((pv_ltq (by omega) (by omega)).mp z)), if_pos (by rw [he])]
            have hc : ¬ nI (b % 3) ≤ pv (cp (mxd (xp W C i) j)) := by
              clear hold hnew e1
              rw [← pv_s]
              intro z
              have z2 := (pv_leq (by omega) (by omega)).mp z
              rw [hxd] at hle
              generalize mxd (xp W C i) j = M at *
              cases M with
              | zero => unfold pw at he; omega
              | succ M =>
                rw [cp_s] at z2
                rw [pw_s] at he
                omega
            rw [if_neg hc, bd3_t rfl]
            exact Or.inl ⟨(nI j, pv (dgr (wz W i (b % 3)) 8), nI (b % 3)), rfl, by dsimp only; rw [ht, hpx], by dsimp only; rw [ht, hcx, pv_s], hnew⟩
      · rw [if_neg hcan] at hxd
        have hk := hkeep (by rw [hxd]; exact Nat.zero_le _)
        rw [if_pos ((pv_ltq (by omega) (by omega)).mpr (by omega)), bd_t rfl, if_pos rfl, bd3_t rfl]
        exact Or.inl ⟨(s1, pv (pw (mxd (xp W C i) j)), pv (cp (mxd (xp W C i) j))), rfl, by dsimp only; rw [hk], by dsimp only; rw [hk], hold hk⟩)
    (fun s hI => by
      obtain ⟨s1, s2, s3⟩ := s
      obtain ⟨e2, e3, e1⟩ := hI
      dsimp only at e1 e2 e3 ⊢
      refine ⟨(s1, s3), ?_, s1, by rw [e3], e1⟩
      unfold fX8_lowers_s20
      rw [if_pos (nI_le (Nat.le_refl _) (by omega))]) 0 (-1, -1, -1) (Nat.zero_le _) ⟨by show (-1 : Int32) = pv (pw (mxd (xp W C i) 0)); rw [show mxd (xp W C i) 0 = 0 from rfl, show pw 0 = 0 from rfl]; exact pv_0.symm, by show (-1 : Int32) = pv (cp (mxd (xp W C i) 0)); rw [show mxd (xp W C i) 0 = 0 from rfl, show cp 0 = 0 from rfl]; exact pv_0.symm, Or.inl ⟨rfl, rfl⟩⟩
  exact ⟨b, h1.trans (congrArg some h2), h3⟩
theorem X8lowers {p C N m i : Nat} {A W : Nat → Int32} (J : (Nat → Int32) → Prop) (hp : p = 2 ∨ p = 3 ∨ p = 5 ∨ p = 7) (b0 : A 0 = nI p) (hC : C ≤ 3) (hN : N ≤ 6) (hm : m ≤ 5) (hmN : m ≤ N) (hi : i < N) (hW : WR p C N W) (hdp : DP m (P8 (emb W) C)) (hld : ld1 C m (emb W)) (hJ0 : J (emb W))
    (hJ : ∀ E E' j v pw, Rep8 p N E → Low8 C N E → j < m → j ≠ i → OpA p N E E' i j (-((v : Nat) : Int)) pw → Low8 C N E' → J E → J E') :
    ∃ W', fX8_lowers (nI C) A W (nI i) 0 (nI m) = some W' ∧ WR p C N W' ∧ J (emb W') ∧ (∀ x y, x ≠ i → y < 24 → W' (24 * x + y) = W (24 * x + y)) ∧ (i < m → ∀ c k, c < C → k < 8 → P8 (emb W) C i ≤ k * 3 + c + 1 → W' (24 * i + 8 * c + k) = W (24 * i + 8 * c + k)) ∧ ∀ j b k, j < m → j ≠ i → P8 (emb W) C j = b + 1 → b / 3 ≤ k → k < 8 → W' (24 * i + 8 * (b % 3) + k) = 0 := by
  have hp0 : 0 < p := by omega
  have hoP : ∀ X : Nat → Int32, (∀ x y, x ≠ i → y < 24 → X (24 * x + y) = W (24 * x + y)) → ∀ j, j ≠ i → P8 (emb X) C j = P8 (emb W) C j := fun X hX j hj => P8_same hC (fun c k hc hk => by
    rw [emb_at hc hk, emb_at hc hk]
    by_cases hin : c < 3 ∧ k < 8
    · rw [if_pos hin, if_pos hin, show 24 * j + 8 * c + k = 24 * j + (8 * c + k) by omega, hX j _ hj (by omega)]
    · rw [if_neg hin, if_neg hin])
  obtain ⟨W', h1, h2, h3, h4, h5, h6⟩ := Lp_all (g := fun (z : Int32 × (Nat → Int32)) => fX8_lowers_s3 (nI C) A (nI i) 0 (nI m) z.1 z.2) (fun s => WR p C N s.2 ∧ J (emb s.2) ∧ (∀ x y, x ≠ i → y < 24 → s.2 (24 * x + y) = W (24 * x + y)) ∧ (i < m → ∀ c k, c < C → k < 8 → P8 (emb W) C i ≤ k * 3 + c + 1 → s.2 (24 * i + 8 * c + k) = W (24 * i + 8 * c + k)) ∧ (s.1 = 1 ∨ s.1 = 0 ∧ mxd (xp s.2 C i) m = 0)) (fun s => 2 * mxd (xp s.2 C i) m + (if s.1 = 0 then 0 else 1))
    (fun (r : Nat → Int32) => WR p C N r ∧ J (emb r) ∧ (∀ x y, x ≠ i → y < 24 → r (24 * x + y) = W (24 * x + y)) ∧ (i < m → ∀ c k, c < C → k < 8 → P8 (emb W) C i ≤ k * 3 + c + 1 → r (24 * i + 8 * c + k) = W (24 * i + 8 * c + k)) ∧ mxd (xp r C i) m = 0)
    (by
      rintro ⟨s, X⟩ ⟨q1, q2, q3, q4, q5⟩
      dsimp only at q1 q2 q3 q4 q5 ⊢
      have hPX := hoP X q3
      rcases q5 with e | ⟨e, q6⟩
      · subst e
        unfold fX8_lowers_s3
        rw [if_neg (by decide)]
        obtain ⟨b, g1, g2⟩ := X8search (W := X) hC hm (show i < 6 by omega)
        rcases g2 with ⟨gM, gb⟩ | ⟨j, hj, gb, gM, gx⟩
        · refine Or.inl ⟨(0, X), (bd2_t g1).trans ?_, ⟨q1, q2, q3, q4, Or.inr ⟨rfl, gM⟩⟩, ?_⟩
          · rw [gb, if_pos rfl]
            exact (bd_t rfl).trans (if_pos rfl)
          · dsimp only
            rw [if_pos rfl, if_neg (by decide)]
            omega
        · have hxj : xp X C i j ≠ 0 := by omega
          have hcand : j ≠ i ∧ P8 (emb X) C j ≠ 0 ∧ pw (P8 (emb X) C j) ≤ dgr (wz X i ((P8 (emb X) C j - 1) % 3)) 8 := by
            apply Classical.byContradiction
            intro h
            exact hxj (if_neg h)
          obtain ⟨hji, hPj, hcd⟩ := hcand
          have hxe : xp X C i j = (dgr (wz X i ((P8 (emb X) C j - 1) % 3)) 8 - 1) * 3 + (P8 (emb X) C j - 1) % 3 + 1 := if_pos ⟨hji, hPj, hcd⟩
          obtain ⟨bb, hb⟩ : ∃ b, P8 (emb X) C j = b + 1 := ⟨P8 (emb X) C j - 1, by omega⟩
          rw [hb, Nat.add_sub_cancel] at hxe hcd
          rw [pw_s] at hcd
          have hjN : j < N := by omega
          obtain ⟨b1, b2, b3, ⟨vj, vj0, vjp, vje, vjc⟩, b5⟩ := wlead hC (by omega) q1 hjN hb
          have hb' : P8 (emb W) C j = bb + 1 := by rw [← hPX j hji]; exact hb
          -- the lead of row j is 1
          have hvj1 : vj = 1 := by
            have l1 := hld j bb hj hb'
            rw [emb_in (by omega) (by omega)] at l1
            have l2 : X (24 * j + 8 * (bb % 3) + bb / 3) = 1 := by
              rw [show 24 * j + 8 * (bb % 3) + bb / 3 = 24 * j + (8 * (bb % 3) + bb / 3) by omega, q3 j _ hji (by omega), ← Nat.add_assoc]
              exact l1
            rw [vje] at l2
            exact (nI_eq (by omega) (by omega)).mp (show nI vj = nI 1 from l2)
          subst hvj1
          obtain ⟨d, hd⟩ : ∃ d, dgr (wz X i (bb % 3)) 8 = d + 1 := ⟨dgr (wz X i (bb % 3)) 8 - 1, by omega⟩
          obtain ⟨d1, d2, d3⟩ := dgr_is 8 d hd
          rw [hd, Nat.add_sub_cancel] at hxe
          rw [hd] at hcd
          obtain ⟨vi, vip, vie, -⟩ := q1 i (bb % 3) d hi (by omega) d1
          have hu : isinv p 1 1 := ⟨Nat.le_refl _, by omega, by rcases hp with e | e | e | e <;> subst e <;> rfl⟩
          obtain ⟨W', t1, t2, t3, t4⟩ := X8takes (A := A) (W := X) hp b0 hC hN q1 hi hjN (fun e => hji e.symm) b2 hd b3 (by omega) vie vip vje (by omega) (by omega) hu (fun e k he hk hk8 => b5 e k he hk8 (by omega))
          have hvi1 : vi * 1 % p = vi := by rw [Nat.mul_one, Nat.mod_eq_of_lt vip]
          rw [hvi1] at t3
          have hl1 : emb X ((j * 8 + bb % 3) * 25 + bb / 3) = 1 := by rw [emb_in (by omega) (by omega), vje]; rfl
          obtain ⟨r1, r2⟩ := red_step8 hp hC (WR_rep hp0 q1) (WR_low hC) hjN hb hl1 rfl (by omega) (show d < 8 by omega) b2 vip ((emb_in (by omega) d1).trans vie) t3
          have q3' : ∀ x y, x ≠ i → y < 24 → W' (24 * x + y) = W (24 * x + y) := fun x y hx hy => (t4 x y hx hy).trans (q3 x y hx hy)
          have hup : ∀ c k, c < C → k < 8 → d * 3 + bb % 3 < k * 3 + c → W' (24 * i + 8 * c + k) = X (24 * i + 8 * c + k) := by
            intro c k hc hk hlt
            have := r2 c k hc (by omega) hlt
            rw [emb_in (by omega) hk, emb_in (by omega) hk] at this
            exact this
          have hat0 : W' (24 * i + 8 * (bb % 3) + d) = 0 := by
            rw [emb_in (by omega) d1] at r1
            exact r1
          have hdec : mxd (xp W' C i) m < mxd (xp X C i) m := by
            rcases mxd_in (xp W' C i) m with e | ⟨c, hc, e⟩
            · omega
            · rw [← e]
              apply Classical.byContradiction
              intro hge
              have hM : mxd (xp X C i) m = d * 3 + bb % 3 + 1 := by rw [← gx, hxe]
              have hxc : xp W' C i c ≠ 0 := by omega
              have hcand2 : c ≠ i ∧ P8 (emb W') C c ≠ 0 ∧ pw (P8 (emb W') C c) ≤ dgr (wz W' i ((P8 (emb W') C c - 1) % 3)) 8 := by
                apply Classical.byContradiction
                intro h
                exact hxc (if_neg h)
              obtain ⟨hci, hPc, hcd2⟩ := hcand2
              have hxe2 : xp W' C i c = (dgr (wz W' i ((P8 (emb W') C c - 1) % 3)) 8 - 1) * 3 + (P8 (emb W') C c - 1) % 3 + 1 := if_pos ⟨hci, hPc, hcd2⟩
              have hPcX : P8 (emb W') C c = P8 (emb X) C c := (hoP W' q3' c hci).trans (hPX c hci).symm
              rw [hPcX] at hPc hcd2 hxe2
              obtain ⟨f, hf⟩ : ∃ f, P8 (emb X) C c = f + 1 := ⟨P8 (emb X) C c - 1, by omega⟩
              rw [hf, Nat.add_sub_cancel] at hcd2 hxe2
              rw [pw_s] at hcd2
              have hfC : f % 3 < C := (plc_spec _ _ _ _ hf).2.1
              obtain ⟨d', hd'⟩ : ∃ d, dgr (wz W' i (f % 3)) 8 = d + 1 := ⟨dgr (wz W' i (f % 3)) 8 - 1, by omega⟩
              obtain ⟨z1, z2, z3⟩ := dgr_is 8 d' hd'
              rw [hd', Nat.add_sub_cancel] at hxe2
              have hnz := (wz_iff (W := W') (i := i) (c := f % 3) (k := d') (by omega) z1).mp z2
              by_cases hpl : d' * 3 + f % 3 = d * 3 + bb % 3
              · apply hnz
                rw [show f % 3 = bb % 3 by omega, show d' = d by omega]
                exact hat0
              · have hsame := hup (f % 3) d' hfC z1 (by omega)
                have hnzX : wz X i (f % 3) d' := (wz_iff (W := X) (i := i) (c := f % 3) (k := d') (by omega) z1).mpr (by rw [← hsame]; exact hnz)
                have hDX : d' + 1 ≤ dgr (wz X i (f % 3)) 8 := by
                  cases hDc : dgr (wz X i (f % 3)) 8 with
                  | zero => exact absurd hnzX (dgr_no 8 hDc d' z1)
                  | succ y =>
                    obtain ⟨y1, y2, y3⟩ := dgr_is 8 y hDc
                    by_cases hyd : y < d'
                    · exact absurd hnzX (y3 d' hyd z1)
                    · omega
                have hxX : xp X C i c = (dgr (wz X i (f % 3)) 8 - 1) * 3 + f % 3 + 1 := by
                  unfold xp
                  rw [hf, Nat.add_sub_cancel, pw_s, if_pos ⟨hci, by omega, by omega⟩]
                have := mxd_ge (xp X C i) m c hc
                omega
          refine Or.inl ⟨(1, W'), (bd2_t g1).trans ?_, ⟨t2, hJ _ _ j vi _ (WR_rep hp0 q1) (WR_low hC) hj hji t3 (WR_low hC) q2, q3', ?_, Or.inl rfl⟩, ?_⟩
          · have hcol : pv (cp (mxd (xp X C i) m)) = nI (bb % 3) := by
              rw [← gx, hxe, cp_s, pv_s]
              exact congrArg nI (by omega)
            rw [gb, if_neg (nI_m1 (by omega)), hcol]
            refine (bd_t rfl).trans ?_
            rw [if_neg (by decide), bd_t t1]
          · intro him c k hc hk hle
            have hPi := hdp.1 i him
            have hne := hdp.2 i j him hj (fun e => hji e.symm)
            rw [hb', Nat.add_sub_cancel] at hne
            obtain ⟨a, ha⟩ : ∃ a, P8 (emb W) C i = a + 1 := ⟨P8 (emb W) C i - 1, by omega⟩
            rw [ha, Nat.add_sub_cancel] at hne
            have hda : d * 3 + bb % 3 < a := by
              apply Classical.byContradiction
              intro h
              have h9 := q4 him (bb % 3) d b2 d1 (by omega)
              have h10 : W (24 * i + 8 * (bb % 3) + d) = 0 := (wlead hC (by omega) hW hi ha).2.2.2.2 (bb % 3) d b2 d1 (by omega)
              exact (wz_iff (W := X) (i := i) (c := bb % 3) (k := d) (by omega) d1).mp d2 (h9.trans h10)
            exact (hup c k hc hk (by omega)).trans (q4 him c k hc hk hle)
          · dsimp only
            rw [if_neg (by decide)]
            omega
      · subst e
        refine Or.inr ⟨X, ?_, q1, q2, q3, q4, q6⟩
        unfold fX8_lowers_s3
        rw [if_pos rfl])
    ((1 : Int32), W) ⟨hW, hJ0, fun _ _ _ _ => rfl, fun _ _ _ _ _ _ => rfl, Or.inl rfl⟩
  refine ⟨W', ?_, h2, h3, h4, h5, ?_⟩
  · unfold fX8_lowers
    exact bd_t h1
  · intro j b k hj hji hb hbk hk
    have hPj := hoP W' h4 j hji
    have hx : xp W' C i j = 0 := by
      have := mxd_ge (xp W' C i) m j hj
      omega
    apply Classical.byContradiction
    intro hnz
    have hnz2 : wz W' i (b % 3) k := (wz_iff (W := W') (i := i) (c := b % 3) (k := k) (by omega) hk).mpr hnz
    have hD : k + 1 ≤ dgr (wz W' i (b % 3)) 8 := by
      cases hDc : dgr (wz W' i (b % 3)) 8 with
      | zero => exact absurd hnz2 (dgr_no 8 hDc k hk)
      | succ y =>
        obtain ⟨y1, y2, y3⟩ := dgr_is 8 y hDc
        by_cases hyd : y < k
        · exact absurd hnz2 (y3 k hyd hk)
        · omega
    have : xp W' C i j = (dgr (wz W' i (b % 3)) 8 - 1) * 3 + b % 3 + 1 := by
      unfold xp
      rw [hPj, hb, Nat.add_sub_cancel, pw_s, if_pos ⟨hji, by omega, by omega⟩]
    omega
