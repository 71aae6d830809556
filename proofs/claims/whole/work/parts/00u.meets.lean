/-! the reference's steps, exchanges, removals, leads 1 -/
theorem dgr_pl {C m : Nat} {nz : Nat → Nat → Prop} (h : plc C nz 24 = m + 1) : dgr (nz (m % 3)) 8 = m / 3 + 1 := by
  obtain ⟨h1, h2, h3, h4⟩ := plc_spec C nz 24 m h
  cases hd : dgr (nz (m % 3)) 8 with
  | zero => exact absurd h3 (dgr_no 8 hd _ (by omega))
  | succ k =>
    obtain ⟨h6, h7, h8⟩ := dgr_is 8 k hd
    by_cases e : k < m / 3
    · exact absurd h3 (h8 _ e (by omega))
    · by_cases e2 : m / 3 < k
      · have := h4 (k * 3 + m % 3) (by omega) (by omega)
        rw [show (k * 3 + m % 3) % 3 = m % 3 by omega, show (k * 3 + m % 3) / 3 = k by omega] at this
        exact absurd ⟨h2, h7⟩ this
      · omega
/-- what the place of a row of the workplace tells -/
theorem wlead {p C N i a : Nat} {W : Nat → Int32} (hC : C ≤ 3) (hp : p < 1000) (hW : WR p C N W) (hi : i < N) (ha : P8 (emb W) C i = a + 1) : a < 24 ∧ a % 3 < C ∧ dgr (wz W i (a % 3)) 8 = a / 3 + 1 ∧ (∃ v : Nat, 0 < v ∧ v < p ∧ W (24 * i + 8 * (a % 3) + a / 3) = nI v ∧ cel (emb W) 8 25 i (a % 3) (a / 3) = nI v) ∧ ∀ e k, e < C → k < 8 → a < k * 3 + e → W (24 * i + 8 * e + k) = 0 := by
  obtain ⟨h1, h2, h3, h4⟩ := plc_spec _ _ _ _ ha
  refine ⟨h1, h2, dgr_pl (nz := wz W i) ha, ?_, ?_⟩
  · obtain ⟨v, v1, v2, -⟩ := hW i (a % 3) (a / 3) hi (by omega) (by omega)
    have hne := (wz_iff (W := W) (i := i) (c := a % 3) (k := a / 3) (by omega) (by omega)).mp h3
    refine ⟨v, ?_, v1, v2, ?_⟩
    · apply Classical.byContradiction
      intro h
      apply hne
      rw [v2, show v = 0 by omega]
      rfl
    · unfold cel
      rw [if_pos (by omega), emb_in (by omega) (by omega), v2]
  · intro e k he hk hlt
    have := h4 (k * 3 + e) hlt (by omega)
    rw [show (k * 3 + e) % 3 = e by omega, show (k * 3 + e) / 3 = k by omega] at this
    apply Classical.byContradiction
    intro h
    exact this ⟨he, (wz_iff (W := W) (i := i) (c := e) (k := k) (by omega) hk).mpr h⟩
theorem X8meets {p C n : Nat} {A W : Nat → Int32} (hp : p = 2 ∨ p = 3 ∨ p = 5 ∨ p = 7) (b0 : A 0 = nI p) (hC : C ≤ 3) (hn : n ≤ 5) (hW : WR p C n W) :
    ((∀ i j, i < n → j < n → ¬ CS (P8 (emb W) C) i j) → fX8_meets (nI n) (nI C) A W = some (0, W)) ∧ ∀ i j, FP n (CS (P8 (emb W) C)) i j → ∃ W', fX8_meets (nI n) (nI C) A W = some (1, W') ∧ WR p C n W' ∧ ∃ a b vi vj u, P8 (emb W) C i = a + 1 ∧ P8 (emb W) C j = b + 1 ∧ cel (emb W) 8 25 i (a % 3) (a / 3) = nI vi ∧ cel (emb W) 8 25 j (b % 3) (b / 3) = nI vj ∧ vi < p ∧ vj < p ∧ isinv p vj u ∧ OpA p n (emb W) (emb W') i j (md (-(vi : Int) * u) p) (a / 3 - b / 3) := by
  have hp0 : 0 < p := by omega
  have hw : ∀ i, P8 (emb W) C i ≤ 24 := fun i => rP_le (emb W) 8 25 C i
  have hpw : ∀ i, pw (P8 (emb W) C i) ≤ 8 := fun i => by have := hw i; unfold pw; omega
  have hcp : ∀ i, cp (P8 (emb W) C i) ≤ 3 := fun i => by unfold cp; split <;> omega
  obtain ⟨f1, f2⟩ := fp_loop (R := Int32 × (Nat → Int32)) (n := n) (CS (P8 (emb W) C)) (gi := fun i z => fX8_meets_s12 (nI n) (nI C) A W i z) (go := fun z => fX8_meets_s2 (nI n) (nI C) A W z)
    (fun i j hi hj hS => by
      unfold fX8_meets_s12
      rw [if_neg (nI_ge hj (by omega))]
      by_cases hij : i = j
      · rw [if_pos (by rw [hij]), bd_t rfl, if_pos rfl]
      rw [if_neg (fun e => hij ((nI_eq (by omega) (by omega)).mp e)), bd_t (X8wDeg (show i < 6 by omega) hC)]
      by_cases hPi : P8 (emb W) C i = 0
      · rw [hPi, if_pos (by decide), bd_t rfl, if_pos rfl]
      have hpi : pw (P8 (emb W) C i) ≠ 0 := by unfold pw; omega
      rw [if_neg (fun e => hpi ((pv_lt0 (by have := hpw i; omega)).mp e)), bd_t (X8wDeg (show j < 6 by omega) hC)]
      by_cases hPj : P8 (emb W) C j = 0
      · rw [hPj, if_pos (by decide), bd_t rfl, if_pos rfl]
      have hpj : pw (P8 (emb W) C j) ≠ 0 := by unfold pw; omega
      rw [if_neg (fun e => hpj ((pv_lt0 (by have := hpw j; omega)).mp e)), bd_t rfl, if_neg (by decide), bd_t (X8wPiv (show i < 6 by omega) hC), bd_t (X8wPiv (show j < 6 by omega) hC)]
      by_cases hc : cp (P8 (emb W) C i) = cp (P8 (emb W) C j)
      · rw [if_pos (by rw [hc]), bd_t (X8wDeg (show j < 6 by omega) hC), bd_t (X8wDeg (show i < 6 by omega) hC)]
        have hlt : pw (P8 (emb W) C i) < pw (P8 (emb W) C j) := by
          apply Classical.byContradiction
          intro h
          exact hS ((CS_iff hPi hPj hij).mpr ⟨hc, by omega⟩)
        rw [if_pos ((pv_ltq (by have := hpw i; omega) (by have := hpw j; omega)).mpr hlt)]
      · rw [if_neg (fun e => hc ((pv_eqq (by have := hcp i; omega) (by have := hcp j; omega)).mp e))])
    (fun i hi => by
      unfold fX8_meets_s12
      rw [if_pos (nI_le (Nat.le_refl _) (by omega))])
    (fun i hi => by
      unfold fX8_meets_s2
      rw [if_neg (nI_ge hi (by omega))])
    (by
      unfold fX8_meets_s2
      rw [if_pos (nI_le (Nat.le_refl _) (by omega))])
  constructor
  · intro hno
    unfold fX8_meets
    rw [show Lp (fun z => fX8_meets_s2 (nI n) (nI C) A W z) (0 : Int32) = some (.inl ()) from f1 hno]
    rfl
  · intro i j hfp
    have hfp2 := hfp
    obtain ⟨hi, hj, hS, -⟩ := hfp
    have hij := hS.1
    have hPi := hS.2.1
    have hPj := hS.2.2.1
    obtain ⟨hc, hd⟩ := (CS_iff hPi hPj hij).mp hS
    have hpi : pw (P8 (emb W) C i) ≠ 0 := by unfold pw; omega
    have hpj : pw (P8 (emb W) C j) ≠ 0 := by unfold pw; omega
    obtain ⟨a, ha⟩ : ∃ a, P8 (emb W) C i = a + 1 := ⟨P8 (emb W) C i - 1, by omega⟩
    obtain ⟨b, hb⟩ : ∃ b, P8 (emb W) C j = b + 1 := ⟨P8 (emb W) C j - 1, by omega⟩
    obtain ⟨a1, a2, a3, ⟨vi, vi0, vip, vie, vic⟩, a5⟩ := wlead hC (by omega) hW hi ha
    obtain ⟨q1, q2, q3, ⟨vj, vj0, vjp, vje, vjc⟩, q5⟩ := wlead hC (by omega) hW hj hb
    obtain ⟨u, hu⟩ := inv_ex hp vj0 vjp
    have hab : a % 3 = b % 3 ∧ b ≤ a := by
      have h4 := hS.2.2.2.1
      have h5 := hS.2.2.2.2
      rw [ha, hb] at h4 h5
      omega
    rw [← hab.1] at q3 vje
    obtain ⟨W', t1, t2, t3, -⟩ := X8takes (A := A) (W := W) hp b0 hC (by omega) hW hi hj hij a2 a3 q3 (by omega) vie vip vje vj0 vjp hu (fun e k he hk hk8 => q5 e k he hk8 (by omega))
    refine ⟨W', ?_, t2, a, b, vi, vj, u, ha, hb, vic, vjc, vip, vjp, hu, ?_⟩
    · have hg : fX8_meets_s12 (nI n) (nI C) A W (nI i) (nI j) = some (.inr (.inr (.inr (.inr ((1 : Int32), W'))))) := by
        have hpv : pv (cp (P8 (emb W) C i)) = nI (a % 3) := by rw [ha, cp_s, pv_s]
        unfold fX8_meets_s12
        rw [if_neg (nI_ge hj (by omega)), if_neg (fun e => hij ((nI_eq (by omega) (by omega)).mp e)), bd_t (X8wDeg (show i < 6 by omega) hC), if_neg (fun e => hpi ((pv_lt0 (by have := hpw i; omega)).mp e)), bd_t (X8wDeg (show j < 6 by omega) hC), if_neg (fun e => hpj ((pv_lt0 (by have := hpw j; omega)).mp e)), bd_t rfl, if_neg (by decide), bd_t (X8wPiv (show i < 6 by omega) hC), bd_t (X8wPiv (show j < 6 by omega) hC), if_pos (by rw [hc]), bd_t (X8wDeg (show j < 6 by omega) hC), bd_t (X8wDeg (show i < 6 by omega) hC)]
        rw [if_neg (fun e => absurd ((pv_ltq (by have := hpw i; omega) (by have := hpw j; omega)).mp e) (by omega)), bd_t (X8wPiv (show i < 6 by omega) hC), hpv, bd_t t1]
      unfold fX8_meets
      rw [show Lp (fun z => fX8_meets_s2 (nI n) (nI C) A W z) (0 : Int32) = some (.inr _) from f2 i j hfp2 _ hg]
      rfl
    · refine OpA_t hp0 ?_ t3
      have hm := md_dvd (x := -(vi : Int) * u) hp0
      obtain ⟨z, hz⟩ := hm
      have e1 := Nat.div_add_mod (vi * u) p
      have e2 : ((vi * u : Nat) : Int) = p * (vi * u / p : Nat) + (vi * u % p : Nat) := by rw [← Int.natCast_mul, ← Int.natCast_add, e1]
      refine ⟨((vi * u / p : Nat) : Int) - z, ?_⟩
      rw [Int.neg_mul, ← Int.natCast_mul] at hz
      rw [Int.neg_mul, ← Int.natCast_mul, Int.mul_sub]
      omega
/-- there is a first pair -/
theorem fp_ex {n : Nat} {S : Nat → Nat → Prop} (h : ¬ ∀ i j, i < n → j < n → ¬ S i j) : ∃ i j, FP n S i j := by
  have key : ∀ d i j, i < n → j < n → i * n + j ≤ d → S i j → ∃ i j, FP n S i j := by
    intro d
    induction d with
    | zero =>
      intro i j hi hj hd hS
      refine ⟨i, j, hi, hj, hS, fun i' j' hi' hj' hlt => ?_⟩
      have e0 : i = 0 := by
        apply Classical.byContradiction
        intro h0
        have := Nat.mul_le_mul_right n (show 1 ≤ i by omega)
        omega
      omega
    | succ d ih =>
      intro i j hi hj hd hS
      by_cases hex : ∃ i' j', i' < n ∧ j' < n ∧ (i' < i ∨ i' = i ∧ j' < j) ∧ S i' j'
      · obtain ⟨i', j', hi', hj', hlt, hS'⟩ := hex
        refine ih i' j' hi' hj' ?_ hS'
        rcases hlt with h1 | ⟨h1, h2⟩
        · have := Nat.mul_le_mul_right n (show i' + 1 ≤ i by omega)
          rw [Nat.succ_mul] at this
          omega
        · rw [h1]; omega
      · exact ⟨i, j, hi, hj, hS, fun i' j' hi' hj' hlt hS' => hex ⟨i', j', hi', hj', hlt, hS'⟩⟩
  apply Classical.byContradiction
  intro hno
  apply h
  intro i j hi hj hS
  exact hno (key (i * n + j) i j hi hj (Nat.le_refl _) hS)
theorem X8stepsAll {p C n : Nat} {A W : Nat → Int32} (J : Nat → (Nat → Int32) → Prop) (hp : p = 2 ∨ p = 3 ∨ p = 5 ∨ p = 7) (b0 : A 0 = nI p) (hC : C ≤ 3) (hn : n ≤ 5) (hJC : JC p C J) (hW : WR p C n W) (hJ : J n (emb W)) : ∃ W', Lp (fun (z : Int32 × (Nat → Int32)) => fX8_forms_s2 (nI n) (nI C) A z.1 z.2) ((1 : Int32), W) = some W' ∧ WR p C n W' ∧ J n (emb W') ∧ ∀ i j, i < n → j < n → ¬ CS (P8 (emb W') C) i j := by
  have hp0 : 0 < p := by omega
  refine Lp_all (fun s => WR p C n s.2 ∧ J n (emb s.2) ∧ (s.1 = 1 ∨ s.1 = 0 ∧ ∀ i j, i < n → j < n → ¬ CS (P8 (emb s.2) C) i j)) (fun s => 2 * sN n (P8 (emb s.2) C) + (if s.1 = 0 then 0 else 1)) (fun (r : Nat → Int32) => WR p C n r ∧ J n (emb r) ∧ ∀ i j, i < n → j < n → ¬ CS (P8 (emb r) C) i j) ?_ ((1 : Int32), W) ⟨hW, hJ, Or.inl rfl⟩
  rintro ⟨m, X⟩ ⟨q1, q2, q3⟩
  dsimp only at q1 q2 q3 ⊢
  rcases q3 with e | ⟨e, q4⟩
  · subst e
    unfold fX8_forms_s2
    rw [if_neg (by decide)]
    obtain ⟨m1, m2⟩ := X8meets (A := A) hp b0 hC hn q1
    by_cases hno : ∀ i j, i < n → j < n → ¬ CS (P8 (emb X) C) i j
    · refine Or.inl ⟨(0, X), bd2_t (m1 hno), ⟨q1, q2, Or.inr ⟨rfl, hno⟩⟩, ?_⟩
      dsimp only
      rw [if_pos rfl, if_neg (by decide)]
      omega
    · obtain ⟨i, j, hfp⟩ := fp_ex hno
      obtain ⟨W', t1, t2, a, b, vi, vj, u, ha, hb, hvi, hvj, hvip, hvjp, hu, hop⟩ := m2 i j hfp
      obtain ⟨r1, r2, r3⟩ := step8 hp hC (WR_rep hp0 q1) (WR_low hC) hfp.2.2.1 hfp.1 hfp.2.1 ha hb hvi hvj hvip hvjp hu hop
      have hdec : sN n (P8 (emb W') C) < sN n (P8 (emb X) C) := sN_lt hfp.1 (by omega) r3
      refine Or.inl ⟨(1, W'), bd2_t t1, ⟨t2, hJC.1 n _ _ i j _ _ hn (WR_rep hp0 q1) (WR_low hC) q2 hop r1, Or.inl rfl⟩, ?_⟩
      dsimp only
      rw [if_neg (by decide)]
      omega
  · subst e
    refine Or.inr ⟨X, ?_, q1, q2, q4⟩
    unfold fX8_forms_s2
    rw [if_pos rfl]
/-- exchanges -/
theorem X8exch {N i j : Nat} {W : Nat → Int32} (hN : N ≤ 6) (hi : i < N) (hj : j < N) : ∃ W', fX8_exchanges W (nI i) (nI j) = some W' ∧ ∀ x y, y < 24 → W' (24 * x + y) = W (24 * sw2 i j x + y) := by
  obtain ⟨W', h1, h2⟩ := Lp_up (fun i s => (i, s)) (g := fun (z : Int32 × (Nat → Int32)) => fX8_exchanges_s2 (nI i) (nI j) z.1 z.2) 24 (fun k s => ∀ x y, y < 24 → s (24 * x + y) = if y < k then W (24 * sw2 i j x + y) else W (24 * x + y)) (fun (r : Nat → Int32) => ∀ x y, y < 24 → r (24 * x + y) = W (24 * sw2 i j x + y))
    (fun k s hk hI => by
      have ei : ((24 : Int32) * nI i) + nI k = nI (24 * i + k) := by show (nI 24 * nI i) + nI k = _; rw [pk_mul, nI_add]
      have ej : ((24 : Int32) * nI j) + nI k = nI (24 * j + k) := by show (nI 24 * nI j) + nI k = _; rw [pk_mul, nI_add]
      have si : s (24 * i + k) = W (24 * i + k) := by rw [hI i k hk, if_neg (by omega)]
      have sj : s (24 * j + k) = W (24 * j + k) := by rw [hI j k hk, if_neg (by omega)]
      refine Or.inl ⟨upd (upd s (24 * i + k) (s (24 * j + k))) (24 * j + k) (s (24 * i + k)), ?_, ?_⟩
      · dsimp only
        unfold fX8_exchanges_s2
        rw [if_neg (show ¬ (24 : Int32) ≤ nI k from (nI_ge hk (by omega) : ¬ nI 24 ≤ nI k)), ei, ej, gd_t (vp_in_nI (by omega) (by omega)), gd_t (vp_in_nI (by omega) (by omega)), gd_t (vp_in_nI (by omega) (by omega)), gd_t (vp_in_nI (by omega) (by omega)), nI_clamp (by omega), nI_clamp (by omega)]
      · intro x y hy
        by_cases ex : 24 * x + y = 24 * j + k
        · have e1 : x = j := by omega
          have e2 : y = k := by omega
          subst e1; subst e2
          rw [pk_us, if_pos (by omega), si]
          unfold sw2
          by_cases e3 : x = i
          · rw [if_pos e3, e3]
          · rw [if_neg e3, if_pos rfl]
        · rw [pk_un ex]
          by_cases ex2 : 24 * x + y = 24 * i + k
          · have e1 : x = i := by omega
            have e2 : y = k := by omega
            subst e1; subst e2
            rw [pk_us, if_pos (by omega), sj]
            unfold sw2
            rw [if_pos rfl]
          · rw [pk_un ex2, hI x y hy]
            by_cases hyk : y < k
            · rw [if_pos hyk, if_pos (by omega)]
            · rw [if_neg hyk]
              by_cases hyk2 : y = k
              · subst hyk2
                rw [if_pos (by omega)]
                unfold sw2
                rw [if_neg (by omega), if_neg (by omega)]
              · rw [if_neg (by omega)])
    (fun s hI => by
      refine ⟨s, ?_, fun x y hy => by rw [hI x y hy, if_pos hy]⟩
      dsimp only
      unfold fX8_exchanges_s2
      rw [if_pos (show (24 : Int32) ≤ nI 24 from nI_le (Nat.le_refl 24) (by omega))]) 0 W (Nat.zero_le _) (fun x y hy => by rw [if_neg (by omega)])
  refine ⟨W', ?_, h2⟩
  unfold fX8_exchanges
  exact bd_t h1
theorem exch_WR {p C N i j : Nat} {W W' : Nat → Int32} (hi : i < N) (hj : j < N) (hW : WR p C N W) (h : ∀ x y, y < 24 → W' (24 * x + y) = W (24 * sw2 i j x + y)) : WR p C N W' ∧ ∀ n, i < n → j < n → OpW n (emb W) (emb W') i j := by
  refine ⟨fun x e k hx he hk => ?_, fun n hi2 hj2 => ⟨hi2, hj2, fun x c k hx hc hk => ?_⟩⟩
  · rw [show 24 * x + 8 * e + k = 24 * x + (8 * e + k) by omega, h x _ (by omega), ← Nat.add_assoc]
    exact hW _ e k (sw2_lt hi hj hx) he hk
  · rw [emb_at hc hk, emb_at hc hk]
    by_cases hin : c < 3 ∧ k < 8
    · rw [if_pos hin, if_pos hin, show 24 * x + 8 * c + k = 24 * x + (8 * c + k) by omega, h x _ (by omega), ← Nat.add_assoc]
      rfl
    · rw [if_neg hin, if_neg hin]
/-- noughts go to the end -/
theorem X8removes {p C n : Nat} {W : Nat → Int32} (J : Nat → (Nat → Int32) → Prop) (hp : p = 2 ∨ p = 3 ∨ p = 5 ∨ p = 7) (hC : C ≤ 3) (hn : n ≤ 5) (hJC : JC p C J) (hW : WR p C n W) (hJ : J n (emb W)) (hcs : ∀ i j, i < n → j < n → ¬ CS (P8 (emb W) C) i j) : ∃ m W', Lp (fun (z : Int32 × Int32 × (Nat → Int32)) => fX8_forms_s21 (nI C) z.1 z.2.1 z.2.2) (nI n + (-1), nI n, W) = some (nI m, W') ∧ m ≤ n ∧ WR p C m W' ∧ J m (emb W') ∧ (∀ i j, i < m → j < m → ¬ CS (P8 (emb W') C) i j) ∧ ∀ i, i < m → P8 (emb W') C i ≠ 0 := by
  have hp0 : 0 < p := by omega
  obtain ⟨r, h1, m, W', h2, h3⟩ := Lp_dn (fun i (s : Int32 × (Nat → Int32)) => (i, s.1, s.2)) (g := fun (z : Int32 × Int32 × (Nat → Int32)) => fX8_forms_s21 (nI C) z.1 z.2.1 z.2.2) (fun j s => ∃ m, s.1 = nI m ∧ j ≤ m ∧ m ≤ n ∧ WR p C m s.2 ∧ J m (emb s.2) ∧ (∀ a b, a < m → b < m → ¬ CS (P8 (emb s.2) C) a b) ∧ ∀ a, j ≤ a → a < m → P8 (emb s.2) C a ≠ 0)
    (fun r => ∃ m W', r = (nI m, W') ∧ m ≤ n ∧ WR p C m W' ∧ J m (emb W') ∧ (∀ i j, i < m → j < m → ¬ CS (P8 (emb W') C) i j) ∧ ∀ i, i < m → P8 (emb W') C i ≠ 0) n
    (fun j s hj hI => by
      obtain ⟨s1, s2⟩ := s
      obtain ⟨m, e, hjm, hmn, q1, q2, q4, q5⟩ := hI
      dsimp only at e q1 q2 q4 q5 ⊢
      subst e
      have hd := X8wDeg (W := s2) (show j < 6 by omega) hC
      have hPle : P8 s2 C j ≤ 24 := rP_le s2 8 25 C j
      have hPle2 : P8 (emb s2) C j ≤ 24 := rP_le (emb s2) 8 25 C j
      have hpw : pw (P8 (emb s2) C j) ≤ 8 := by unfold pw; omega
      unfold fX8_forms_s21
      rw [if_neg (nI_pos (by omega)), bd_t hd]
      by_cases h0 : P8 (emb s2) C j = 0
      · have hz : pw (P8 (emb s2) C j) = 0 := by rw [h0]; rfl
        rw [if_neg (fun z => (pv_ge0 (by omega)).mp z hz), show nI m - (1 : Int32) = nI (m - 1) from pk_sub (b := 1) (by omega)]
        obtain ⟨W', g1, g2⟩ := X8exch (N := m) (i := j) (j := m - 1) (W := s2) (by omega) (by omega) (by omega)
        obtain ⟨g3, g4⟩ := exch_WR (i := j) (j := m - 1) (by omega) (by omega) q1 g2
        have hop := g4 m (by omega) (by omega)
        have hP : ∀ a, a < m → P8 (emb W') C a = P8 (emb s2) C (sw2 j (m - 1) a) := fun a ha => P8_same hC (fun c k hc hk => hop.2.2 a c k ha hc hk)
        have hlast : P8 (emb W') C (m - 1) = 0 := by
          rw [hP (m - 1) (by omega)]
          have : sw2 j (m - 1) (m - 1) = j := by
            unfold sw2
            by_cases e : m - 1 = j
            · rw [if_pos e, e]
            · rw [if_neg e, if_pos rfl]
          rw [this, h0]
        have hopR : OpR C m (emb W') (emb W') (m - 1) := ⟨by omega, fun c k hc hk => zero8 hC (WR_low (N := m) hC) (show m - 1 < m by omega) hlast hc hk, fun a c k ha hc hk => by rw [if_pos ha]⟩
        have hJ1 := hJC.2.2.1 m _ _ j (m - 1) (by omega) (WR_rep hp0 q1) q2 hop
        have hJ2 := hJC.2.2.2 m _ _ (m - 1) (by omega) (WR_rep hp0 g3) hJ1 hopR
        refine Or.inl ⟨(nI (m - 1), W'), bd_t g1, m - 1, rfl, by omega, by omega, fun x e k hx he hk => g3 x e k (by omega) he hk, hJ2, ?_, ?_⟩
        · intro a b ha hb hS
          unfold CS at hS
          rw [hP a (by omega), hP b (by omega)] at hS
          exact q4 _ _ (sw2_lt (by omega) (by omega) (by omega)) (sw2_lt (by omega) (by omega) (by omega)) ⟨fun e => hS.1 (sw2_inj e), hS.2⟩
        · intro a ha1 ha2
          rw [hP a (by omega)]
          unfold sw2
          by_cases e : a = j
          · rw [if_pos e]
            exact q5 (m - 1) (by omega) (by omega)
          · rw [if_neg e, if_neg (by omega)]
            exact q5 a (by omega) (by omega)
      · have hz : pw (P8 (emb s2) C j) ≠ 0 := by unfold pw; omega
        rw [if_pos ((pv_ge0 (by omega)).mpr hz)]
        refine Or.inl ⟨(nI m, s2), rfl, m, rfl, by omega, hmn, q1, q2, q4, ?_⟩
        intro b hb1 hb2
        by_cases e : b = j
        · rw [e]; exact h0
        · exact q5 b (by omega) hb2)
    (fun s hI => by
      obtain ⟨s1, s2⟩ := s
      obtain ⟨m, e, hjm, hmn, q1, q2, q4, q5⟩ := hI
      dsimp only at e q1 q2 q4 q5 ⊢
      subst e
      refine ⟨(nI m, s2), ?_, m, s2, rfl, hmn, q1, q2, q4, fun i hi => q5 i (Nat.zero_le _) hi⟩
      unfold fX8_forms_s21
      rw [if_pos (by decide)]) n (nI n, W) (Nat.le_refl _) ⟨n, rfl, Nat.le_refl _, Nat.le_refl _, hW, hJ, hcs, fun a h1 h2 => absurd h2 (by omega)⟩
  refine ⟨m, W', ?_, h3⟩
  subst h2
  exact h1
/-- leads become 1 -/
theorem X8scales {p C m : Nat} {A W : Nat → Int32} (J : Nat → (Nat → Int32) → Prop) (hp : p = 2 ∨ p = 3 ∨ p = 5 ∨ p = 7) (b0 : A 0 = nI p) (hC : C ≤ 3) (hm : m ≤ 5) (hJC : JC p C J) (hW : WR p C m W) (hJ : J m (emb W)) (hne : ∀ i, i < m → P8 (emb W) C i ≠ 0) : ∃ W', Lp (fun (z : Int32 × (Nat → Int32)) => fX8_forms_s60 (nI C) A (nI m) z.1 z.2) ((0 : Int32), W) = some W' ∧ WR p C m W' ∧ J m (emb W') ∧ (∀ i, i < m → P8 (emb W') C i = P8 (emb W) C i) ∧ ld1 C m (emb W') := by
  have hp0 : 0 < p := by omega
  refine Lp_up (fun i s => (i, s)) m (fun j s => WR p C m s ∧ J m (emb s) ∧ (∀ i, i < m → P8 (emb s) C i = P8 (emb W) C i) ∧ ∀ i a, i < j → P8 (emb s) C i = a + 1 → emb s ((i * 8 + a % 3) * 25 + a / 3) = 1) (fun (r : Nat → Int32) => WR p C m r ∧ J m (emb r) ∧ (∀ i, i < m → P8 (emb r) C i = P8 (emb W) C i) ∧ ld1 C m (emb r)) ?_ ?_ 0 W (Nat.zero_le _) ⟨hW, hJ, fun _ _ => rfl, fun i a hi => absurd hi (Nat.not_lt_zero _)⟩
  · rintro j s hj ⟨q1, q3, q4, q5⟩
    obtain ⟨a, ha⟩ : ∃ a, P8 (emb s) C j = a + 1 := ⟨P8 (emb s) C j - 1, by have := hne j hj; have := q4 j hj; omega⟩
    obtain ⟨a1, a2, a3, ⟨v, v0, vp, ve, vc⟩, a5⟩ := wlead hC (by omega) q1 hj ha
    obtain ⟨u, hu, hue⟩ := X8inverse b0 hp v0 vp
    have hu7 : u < 7 := by have := hu.2.1; omega
    have huv : (p : Int) ∣ (u : Int) * (v : Int) - 1 := by
      have h3 := hu.2.2
      have h4 := Nat.div_add_mod (v * u) p
      rw [h3] at h4
      refine ⟨((v * u / p : Nat) : Int), ?_⟩
      have h5 : ((p * (v * u / p) + 1 : Nat) : Int) = ((v * u : Nat) : Int) := by rw [h4]
      rw [Int.natCast_add, Int.natCast_mul, Int.natCast_mul] at h5
      rw [Int.mul_comm (u : Int) v]
      omega
    obtain ⟨W', g1, g2, g3⟩ := Lp_arr (g := fun (z : Int32 × (Nat → Int32)) => fX8_forms_s95 A (nI j) (nI u) z.1 z.2) (a := 0) (N := 24) (A := s) (fun k => 24 * j + k) (fun k => rem32 (s (24 * j + k) * nI u) (nI p)) (by omega) (fun i j _ h _ => by omega) (fun k t hk1 hk2 ht => by
      dsimp only
      have tk : t (24 * j + k) = s (24 * j + k) := ht _ (fun _ _ _ => by omega)
      have ej : ((24 : Int32) * nI j) + nI k = nI (24 * j + k) := by show (nI 24 * nI j) + nI k = _; rw [pk_mul, nI_add]
      unfold fX8_forms_s95
      rw [if_neg (show ¬ (24 : Int32) ≤ nI k from (nI_ge hk2 (by omega) : ¬ nI 24 ≤ nI k)), ej, gd_t (vp_in_nI (by omega) (by omega)), bd_t (X8modulus b0), gd_t (nI_ne0 hp0 (by omega)), gd_t (vp_in_nI (by omega) (by omega)), nI_clamp (by omega), tk]) (fun t _ => by
      dsimp only
      unfold fX8_forms_s95
      rw [if_pos (show (24 : Int32) ≤ nI 24 from nI_le (Nat.le_refl 24) (by omega))])
    have hcell : ∀ e k, e < 3 → k < 8 → ∀ w : Nat, w < p → s (24 * j + 8 * e + k) = nI w → W' (24 * j + 8 * e + k) = nI (w * u % p) := by
      intro e k he hk w hw ew
      have h := g2 (8 * e + k) (by omega) (by omega)
      rw [← Nat.add_assoc] at h
      have hb : w * u ≤ 7 * 7 := Nat.mul_le_mul (by omega) (by omega)
      rw [h, ew, pk_mul]
      exact pk_rem (by omega) (by omega) (by omega)
    have hoth : ∀ x y, x ≠ j → y < 24 → W' (24 * x + y) = s (24 * x + y) := fun x y hx hy => g3 _ (fun k _ hk => by omega)
    have hWR : WR p C m W' := by
      intro x e k hx he hk
      obtain ⟨w, w1, w2, w3⟩ := q1 x e k hx he hk
      by_cases ex : x = j
      · subst ex
        refine ⟨w * u % p, Nat.mod_lt _ hp0, hcell e k he hk w w1 w2, fun h => ?_⟩
        rw [w3 h, Nat.zero_mul, Nat.zero_mod]
      · refine ⟨w, w1, ?_, w3⟩
        rw [show 24 * x + 8 * e + k = 24 * x + (8 * e + k) by omega, hoth x _ ex (by omega), ← Nat.add_assoc]
        exact w2
    have hop : OpS p m (emb s) (emb W') j (u : Int) := by
      refine ⟨hj, ⟨v, huv⟩, fun c k hc hk => ?_, fun x c k hx hc hk => ?_⟩
      · by_cases hin : c < 3 ∧ k < 8
        · obtain ⟨w, w1, w2, w3⟩ := q1 j c k hj hin.1 hin.2
          rw [emb_in hin.1 hin.2, hcell c k hin.1 hin.2 w w1 w2, cl8_emb hin.1 hin.2 (by omega) w2, ← Int.natCast_mul, md_nat, Nat.mul_comm]
        · rw [emb_out hc hk hin, cl8_out hc hk hin, Int.mul_zero, md_zero hp0 ⟨0, by omega⟩]
          rfl
      · rw [emb_at hc hk, emb_at hc hk]
        by_cases hin : c < 3 ∧ k < 8
        · rw [if_pos hin, if_pos hin, show 24 * x + 8 * c + k = 24 * x + (8 * c + k) by omega, hoth x _ hx (by omega)]
        · rw [if_neg hin, if_neg hin]
    have hPj := P8_S hp0 (by omega) hC (WR_rep hp0 q1) hop
    have hPo : ∀ i, i ≠ j → P8 (emb W') C i = P8 (emb s) C i := fun i e => P8_same hC (fun c k hc hk => hop.2.2.2 i c k e hc hk)
    refine Or.inl ⟨W', ?_, hWR, hJC.2.1 m _ _ j u hm (WR_rep hp0 q1) (WR_low hC) q3 hop, ?_, ?_⟩
    · have hd := X8wDeg (W := s) (show j < 6 by omega) hC
      have hv := X8wPiv (W := s) (show j < 6 by omega) hC
      rw [ha, pw_s, pv_s] at hd
      rw [ha, cp_s, pv_s] at hv
      dsimp only
      unfold fX8_forms_s60
      rw [if_neg (nI_ge hj (by omega)), bd_t hv, bd_t hd, X8cell, gd_t (vp_in_nI (by omega) (by omega)), nI_clamp (by omega), ve, bd_t hue]
      exact bd_t g1
    · intro i hi
      by_cases e : i = j
      · rw [e, hPj]; exact q4 j hj
      · rw [hPo i e]; exact q4 i hi
    · intro i b hi hb
      by_cases e : i = j
      · subst e
        rw [hPj, ha] at hb
        have : b = a := by omega
        subst this
        rw [emb_in (by omega) (by omega), hcell (b % 3) (b / 3) (by omega) (by omega) v vp ve, hu.2.2]
        rfl
      · rw [hPo i e] at hb
        rw [hop.2.2.2 i (b % 3) (b / 3) e (by omega) (by have := (plc_spec _ _ _ _ hb).1; omega)]
        exact q5 i b (by omega) hb
  · rintro s ⟨q1, q3, q4, q5⟩
    refine ⟨s, ?_, q1, q3, q4, q5⟩
    dsimp only
    unfold fX8_forms_s60
    rw [if_pos (nI_le (Nat.le_refl _) (by omega))]
