abbrev rm_X4_byteHere : Room := { frames := 0, cells := 0, slots := 0, locals := 0 }
theorem iX4_byteHere_X4 : ∀ w ∈ wsX40, w ∈ wsX4_byteHere := fun _ h => (List.mem_cons_of_mem _ (List.mem_append_right _ h))
theorem fX4_byteHere_1 : Cond.fieldLink RX4 26 "PopovRows$Script" "place" "I" ∈ wsX4_byteHere := (List.mem_cons_of_mem _ (List.mem_append_left _ (List.mem_of_getElem? (i := 0) rfl)))
theorem fX4_byteHere_2 : Cond.fieldLink RX4 22 "PopovRows$Script" "length" "I" ∈ wsX4_byteHere := (List.mem_cons_of_mem _ (List.mem_append_left _ (List.mem_of_getElem? (i := 1) rfl)))
theorem fX4_byteHere_3 : Cond.fieldLink RX4 9 "PopovRows$Script" "bytes" "[B" ∈ wsX4_byteHere := (List.mem_cons_of_mem _ (List.mem_append_left _ (List.mem_of_getElem? (i := 2) rfl)))
set_option maxHeartbeats 4000000 in
set_option maxRecDepth 100000 in
theorem mtX4_byteHere (l : Launch) (D : va_G) (cI cB cR : ClassId) (ah : Nat) (ab : Nat) (ag : Nat) (an : Nat) (sz : Nat) (length : Int32) (place : Int32) (letter : Int32) (rowColumns : Int32) (bytes : Nat → Int32) (digits : Nat → Int32) (entries : Nat → Int32) (res : Int32) (hf : fX4_byteHere length place bytes = some res) : Met l yX4_byteHere wsX4_byteHere rm_X4_byteHere (qP D cI cB cR [.ref ah] (wSC cI cB ah ab ag an length place letter rowColumns bytes digits entries) sz) (qI D res (wSC cI cB ah ab ag an length place letter rowColumns bytes digits entries) (wSC cI cB ah ab ag an length place letter rowColumns bytes digits entries) sz) 0 0 (va_A (wSC cI cB ah ab ag an length place letter rowColumns bytes digits entries) sz) := by
  refine entI (plainFor_of_name (by decide)) rfl (Nat.le_of_ble_eq_true rfl) ?_
  intro p e s m args below meth c Q A ls S hG hP hD hA hl hE
  obtain ⟨hx, hb, hml, hown, hts⟩ := S
  have hown : s.vm.findClass RX4 = some m.cls := hown
  have hS : va_S A s.heap s.heap [] := va_S.rf
  have hl : lv_has ls 1 [(0, .ref ah)] := hl
  have hq := hf
  unfold fX4_byteHere at hq
  obtain ⟨H, hH⟩ : ∃ H, H = s.heap := ⟨_, rfl⟩
  obtain ⟨locs, hlo⟩ : ∃ L : List Loc, L = [] := ⟨_, rfl⟩
  have hP : va_P D cls9 (wSC cI cB ah ab ag an length place letter rowColumns bytes digits entries) H := hH ▸ hP
  have hS : va_S A s.heap H locs := by rw [hH, hlo]; exact hS
  suffices hg : W p l e rm_X4_byteHere s m args below meth c H locs 0 0 Q (F0 m 0 ls []) by rw [hH, hlo] at hg; exact hg
  refine lv_aload_n hx hb dX4_byteHere_0 rfl (lv_at hl 0 rfl) ?_
  refine va_get (D := D) (ci := 4) (v := .int place) (C := RX4) (T := TX4) (N := 7) hx hb hts iX4_byteHere_X4 hown hG.1 hP 0 rfl rfl 4 (by decide) (hts _ fX4_byteHere_1) (fun _ h9 => h9) rfl dX4_byteHere_1 ?_
  refine lv_if_lt (tgt := 42) hx hb dX4_byteHere_4 (by decide) (fun c_1 => ?_) (fun c_1 => ?_)
  · have hq := it_t c_1 hq
    refine lv_iconst (v := -1) hx hb dX4_byteHere_42 (by decide) ?_
    have he := Option.some.inj hq
    subst he
    exact hE H locs _ _ _ rfl dX4_byteHere_43 hP hD hS
  · have hq := it_f c_1 hq
    refine lv_aload_n hx hb dX4_byteHere_7 rfl (lv_at hl 0 rfl) ?_
    refine va_get (D := D) (ci := 4) (v := .int place) (C := RX4) (T := TX4) (N := 7) hx hb hts iX4_byteHere_X4 hown hG.1 hP 0 rfl rfl 4 (by decide) (hts _ fX4_byteHere_1) (fun _ h9 => h9) rfl dX4_byteHere_8 ?_
    refine lv_aload_n hx hb dX4_byteHere_11 rfl (lv_at hl 0 rfl) ?_
    refine va_get (D := D) (ci := 4) (v := .int length) (C := RX4) (T := TX4) (N := 7) hx hb hts iX4_byteHere_X4 hown hG.1 hP 0 rfl rfl 3 (by decide) (hts _ fX4_byteHere_2) (fun _ h9 => h9) rfl dX4_byteHere_12 ?_
    refine lv_icmp_ge (tgt := 42) hx hb dX4_byteHere_15 (by decide) (fun c_2 => ?_) (fun c_2 => ?_)
    · have hq := it_t c_2 hq
      refine lv_iconst (v := -1) hx hb dX4_byteHere_42 (by decide) ?_
      have he := Option.some.inj hq
      subst he
      exact hE H locs _ _ _ rfl dX4_byteHere_43 hP hD hS
    · have hq := it_f c_2 hq
      refine lv_aload_n hx hb dX4_byteHere_18 rfl (lv_at hl 0 rfl) ?_
      refine va_get (D := D) (ci := 4) (v := .int place) (C := RX4) (T := TX4) (N := 7) hx hb hts iX4_byteHere_X4 hown hG.1 hP 0 rfl rfl 4 (by decide) (hts _ fX4_byteHere_1) (fun _ h9 => h9) rfl dX4_byteHere_19 ?_
      refine lv_aload_n hx hb dX4_byteHere_22 rfl (lv_at hl 0 rfl) ?_
      refine va_get (D := D) (ci := 4) (v := .ref ab) (C := RX4) (T := TX4) (N := 7) hx hb hts iX4_byteHere_X4 hown hG.1 hP 0 rfl rfl 0 (by decide) (hts _ fX4_byteHere_3) (fun _ h9 => h9) rfl dX4_byteHere_23 ?_
      refine va_alen (v := (150 : Int32)) hx hb hG.1 hP 1 1 rfl rfl rfl dX4_byteHere_26 ?_
      refine lv_icmp_ge (tgt := 42) hx hb dX4_byteHere_27 (by decide) (fun c_3 => ?_) (fun c_3 => ?_)
      · have hq := it_t c_3 hq
        refine lv_iconst (v := -1) hx hb dX4_byteHere_42 (by decide) ?_
        have he := Option.some.inj hq
        subst he
        exact hE H locs _ _ _ rfl dX4_byteHere_43 hP hD hS
      · have hq := it_f c_3 hq
        refine lv_aload_n hx hb dX4_byteHere_30 rfl (lv_at hl 0 rfl) ?_
        refine va_get (D := D) (ci := 4) (v := .ref ab) (C := RX4) (T := TX4) (N := 7) hx hb hts iX4_byteHere_X4 hown hG.1 hP 0 rfl rfl 0 (by decide) (hts _ fX4_byteHere_3) (fun _ h9 => h9) rfl dX4_byteHere_31 ?_
        refine lv_aload_n hx hb dX4_byteHere_34 rfl (lv_at hl 0 rfl) ?_
        refine va_get (D := D) (ci := 4) (v := .int place) (C := RX4) (T := TX4) (N := 7) hx hb hts iX4_byteHere_X4 hown hG.1 hP 0 rfl rfl 4 (by decide) (hts _ fX4_byteHere_1) (fun _ h9 => h9) rfl dX4_byteHere_35 ?_
        obtain ⟨h_4, hq⟩ := gd_s hq
        refine va_bald hx hb hG.1 hP 1 1 rfl rfl h_4 dX4_byteHere_38 ?_
        refine lv_goto (tgt := 43) hx hb dX4_byteHere_39 (by decide) ?_
        have he := Option.some.inj hq
        subst he
        exact hE H locs _ _ _ rfl dX4_byteHere_43 hP hD hS
abbrev rm_X4_skipBlanks : Room := { frames := 1, cells := 0, slots := 0, locals := 20 }
theorem iX4_skipBlanks_X4 : ∀ w ∈ wsX40, w ∈ wsX4_skipBlanks := fun _ h => (List.mem_cons_of_mem _ (List.mem_append_right _ h))
theorem fX4_skipBlanks_1 : Cond.fieldLink RX4 26 "PopovRows$Script" "place" "I" ∈ wsX4_skipBlanks := (List.mem_cons_of_mem _ (List.mem_append_left _ (List.mem_of_getElem? (i := 0) rfl)))
set_option maxHeartbeats 4000000 in
set_option maxRecDepth 100000 in
theorem mtX4_skipBlanks (l : Launch) (D : va_G) (cI cB cR : ClassId) (ah : Nat) (ab : Nat) (ag : Nat) (an : Nat) (sz : Nat) (length : Int32) (place : Int32) (letter : Int32) (rowColumns : Int32) (bytes : Nat → Int32) (digits : Nat → Int32) (entries : Nat → Int32) (res : Int32) (hf : fX4_skipBlanks length place bytes = some res) : Met l yX4_skipBlanks wsX4_skipBlanks rm_X4_skipBlanks (qP D cI cB cR [.ref ah] (wSC cI cB ah ab ag an length place letter rowColumns bytes digits entries) sz) (qV D (wSC cI cB ah ab ag an length place letter rowColumns bytes digits entries) (wSC cI cB ah ab ag an length res letter rowColumns bytes digits entries) sz) 0 0 (va_A (wSC cI cB ah ab ag an length place letter rowColumns bytes digits entries) sz) := by
  refine entV (plainFor_of_name (by decide)) rfl (Nat.le_of_ble_eq_true rfl) ?_
  intro p e s m args below meth c Q A ls S hG hP hD hA hl hE
  obtain ⟨hx, hb, hml, hown, hts⟩ := S
  have hown : s.vm.findClass RX4 = some m.cls := hown
  have hS : va_S A s.heap s.heap [] := va_S.rf
  have hl : lv_has ls 2 [(0, .ref ah)] := hl
  have hq := hf
  unfold fX4_skipBlanks at hq
  obtain ⟨H, hH⟩ : ∃ H, H = s.heap := ⟨_, rfl⟩
  obtain ⟨locs, hlo⟩ : ∃ L : List Loc, L = [] := ⟨_, rfl⟩
  have hP : va_P D cls9 (wSC cI cB ah ab ag an length place letter rowColumns bytes digits entries) H := hH ▸ hP
  have hS : va_S A s.heap H locs := by rw [hH, hlo]; exact hS
  suffices hg : W p l e rm_X4_skipBlanks s m args below meth c H locs 0 0 Q (F0 m 0 ls []) by rw [hH, hlo] at hg; exact hg
  refine lv_iconst (v := 0) hx hb dX4_skipBlanks_0 (by decide) ?_
  refine lv_istore_n (lv' := [(1, .int (0 : Int32)), (0, .ref ah)]) hx hb dX4_skipBlanks_1 rfl hl (by decide) rfl (fun ls hl => ?_)
  obtain ⟨w1, hw1, hk1⟩ := bd1_s hq
  have hX1 : ∀ (x_8 : Int32), w1 = x_8 → ∀ (H : Heap) (locs : List Loc), va_P D cls9 (wSC cI cB ah ab ag an length x_8 letter rowColumns bytes digits entries) H → va_D A (wSC cI cB ah ab ag an length x_8 letter rowColumns bytes digits entries) → va_S A s.heap H locs → ∀ (ls : Array Slot), lv_has ls 2 [] → W p l e rm_X4_skipBlanks s m args below meth c H locs 0 0 Q (F0 m 34 ls []) := by
    intro x_8 hq H locs hP hD hS ls hl
    have hq := hk1 _ hq
    have he := Option.some.inj hq
    subst he
    exact hE H locs _ _ dX4_skipBlanks_34 hP hD hS
  have hL1 : ∀ (n : Nat) (i_1 : Int32) (i_2 : Int32), lrun (fun (z : Int32 × Int32) => fX4_skipBlanks_s2 length bytes z.1 z.2) n (i_1, i_2) = some w1 → ∀ (H : Heap) (locs : List Loc), va_P D cls9 (wSC cI cB ah ab ag an length i_2 letter rowColumns bytes digits entries) H → va_D A (wSC cI cB ah ab ag an length i_2 letter rowColumns bytes digits entries) → va_S A s.heap H locs → ∀ (ls : Array Slot), lv_has ls 2 [(0, .ref ah), (1, .int i_1)] → W p l e rm_X4_skipBlanks s m args below meth c H locs 0 0 Q (F0 m 2 ls []) := by
    intro n
    induction n with
    | zero => intro i_1 i_2 h; cases h
    | succ n ih1 =>
      intro i_1 i_2 hr1 H locs hP hD hS ls hl
      obtain ⟨k, v1, hk, hr1, ht1, hv1⟩ := lrun_s hr1
      cases hk
      have hr1 : fX4_skipBlanks_s2 length bytes i_1 i_2 = some v1 := hr1
      unfold fX4_skipBlanks_s2 at hr1
      refine lv_iload_n hx hb dX4_skipBlanks_2 rfl (lv_at hl 1 rfl) ?_
      refine lv_sipush (v := 150) hx hb dX4_skipBlanks_3 (by decide) ?_
      refine lv_icmp_ge (tgt := 34) hx hb dX4_skipBlanks_6 (by decide) (fun c_3 => ?_) (fun c_3 => ?_)
      · have hr1 := it_t c_3 hr1
        exact hX1 i_2 (hv1 _ (Option.some.inj hr1).symm).symm H locs hP hD hS ls (lv_sub hl [] rfl)
      · have hr1 := it_f c_3 hr1
        refine lv_aload_n hx hb dX4_skipBlanks_9 rfl (lv_at hl 0 rfl) ?_
        obtain ⟨v_6, hq_5, hk⟩ := bd1_s hr1
        obtain ⟨r_4, rfl⟩ : ∃ y, y = v_6 := ⟨_, rfl⟩
        have hr1 := hk _ rfl
        refine callIA (gV (rest := []) ⟨hx, hb, hml, hown, hts⟩ hG hP hD 0 4 rfl rfl (mtX4_byteHere l D cI cB cR ah ab ag an H.size length i_2 letter rowColumns bytes digits entries r_4 hq_5) (cwV 0 hts gX4_skipBlanks_X4_byteHere rfl rfl rfl ⟨rfl, hd_X4_byteHere⟩ ⟨Nat.le_of_ble_eq_true rfl, Nat.le_of_ble_eq_true rfl⟩) rfl hl.1 rfl (Nat.le_of_ble_eq_true rfl) dX4_skipBlanks_10) hD hS hA (fun H locs hP hD hS => ?_)
        have hP : va_P D cls9 (wSC cI cB ah ab ag an length i_2 letter rowColumns bytes digits entries) H := hP
        have hD : va_D A (wSC cI cB ah ab ag an length i_2 letter rowColumns bytes digits entries) := hD
        refine lv_bipush (v := 32) hx hb dX4_skipBlanks_13 (by decide) ?_
        refine lv_icmp_ne (tgt := 34) hx hb dX4_skipBlanks_15 (by decide) (fun c_7 => ?_) (fun c_7 => ?_)
        · have hr1 := it_f c_7 hr1
          exact hX1 i_2 (hv1 _ (Option.some.inj hr1).symm).symm H locs hP hD hS ls (lv_sub hl [] rfl)
        · have hr1 := it_t c_7 hr1
          refine lv_aload_n hx hb dX4_skipBlanks_18 rfl (lv_at hl 0 rfl) ?_
          refine lv_dup hx hb dX4_skipBlanks_19 rfl ?_
          refine va_get (D := D) (ci := 4) (v := .int i_2) (C := RX4) (T := TX4) (N := 7) hx hb hts iX4_skipBlanks_X4 hown hG.1 hP 0 rfl rfl 4 (by decide) (hts _ fX4_skipBlanks_1) (fun _ h9 => h9) rfl dX4_skipBlanks_20 ?_
          refine lv_iconst (v := 1) hx hb dX4_skipBlanks_23 (by decide) ?_
          refine lv_iadd hx hb dX4_skipBlanks_24 ?_
          refine va_put (D := D) (ci := 4) (v := .int (i_2 + (1 : Int32))) (ty := .int) (C := RX4) (T := TX4) (N := 7) hx hb hts iX4_skipBlanks_X4 tyX4 tyX4_ok nmX4 hown hG.1 hP hD hS 0 rfl rfl 4 (by decide) (hts _ fX4_skipBlanks_1) (fun _ h9 => h9) rfl (by decide +kernel) rfl rfl (Nat.le_of_ble_eq_true rfl) dX4_skipBlanks_25 (fun H locs hP hD hS => ?_)
          have hP : va_P D cls9 (wSC cI cB ah ab ag an length (i_2 + (1 : Int32)) letter rowColumns bytes digits entries) H := hP
          have hD : va_D A (wSC cI cB ah ab ag an length (i_2 + (1 : Int32)) letter rowColumns bytes digits entries) := hD
          refine lv_iinc (v := (i_1 + 1)) (lv' := [(1, .int (i_1 + 1)), (0, .ref ah)]) hx hb dX4_skipBlanks_28 hl (k := 1) rfl rfl (by decide) rfl (fun ls hl => ?_)
          refine lv_goto (tgt := 2) hx hb dX4_skipBlanks_31 (by decide) ?_
          exact ih1 (i_1 + 1) (i_2 + (1 : Int32)) (ht1 _ (Option.some.inj hr1).symm) H locs hP hD hS ls (lv_sub hl [1, 0] rfl)
  obtain ⟨n1, hn1⟩ := Lp_s hw1
  exact hL1 n1 (0 : Int32) place hn1 H locs hP hD hS ls (lv_sub hl [1, 0] rfl)
abbrev rm_X4_hasMore : Room := { frames := 2, cells := 0, slots := 0, locals := 41 }
theorem iX4_hasMore_X4 : ∀ w ∈ wsX40, w ∈ wsX4_hasMore := fun _ h => (List.mem_cons_of_mem _ (List.mem_append_right _ h))
theorem fX4_hasMore_1 : Cond.fieldLink RX4 26 "PopovRows$Script" "place" "I" ∈ wsX4_hasMore := (List.mem_cons_of_mem _ (List.mem_append_left _ (List.mem_of_getElem? (i := 0) rfl)))
theorem fX4_hasMore_2 : Cond.fieldLink RX4 22 "PopovRows$Script" "length" "I" ∈ wsX4_hasMore := (List.mem_cons_of_mem _ (List.mem_append_left _ (List.mem_of_getElem? (i := 1) rfl)))
set_option maxHeartbeats 4000000 in
set_option maxRecDepth 100000 in
theorem mtX4_hasMore (l : Launch) (D : va_G) (cI cB cR : ClassId) (ah : Nat) (ab : Nat) (ag : Nat) (an : Nat) (sz : Nat) (length : Int32) (place : Int32) (letter : Int32) (rowColumns : Int32) (bytes : Nat → Int32) (digits : Nat → Int32) (entries : Nat → Int32) (res : Int32 × Int32) (hf : fX4_hasMore length place bytes = some res) : Met l yX4_hasMore wsX4_hasMore rm_X4_hasMore (qP D cI cB cR [.ref ah] (wSC cI cB ah ab ag an length place letter rowColumns bytes digits entries) sz) (qZ D res.1 (wSC cI cB ah ab ag an length place letter rowColumns bytes digits entries) (wSC cI cB ah ab ag an length res.2 letter rowColumns bytes digits entries) sz) 0 0 (va_A (wSC cI cB ah ab ag an length place letter rowColumns bytes digits entries) sz) := by
  refine entZ (plainFor_of_name (by decide)) rfl (Nat.le_of_ble_eq_true rfl) ?_
  intro p e s m args below meth c Q A ls S hG hP hD hA hl hE
  obtain ⟨hx, hb, hml, hown, hts⟩ := S
  have hown : s.vm.findClass RX4 = some m.cls := hown
  have hS : va_S A s.heap s.heap [] := va_S.rf
  have hl : lv_has ls 1 [(0, .ref ah)] := hl
  have hq := hf
  unfold fX4_hasMore at hq
  obtain ⟨H, hH⟩ : ∃ H, H = s.heap := ⟨_, rfl⟩
  obtain ⟨locs, hlo⟩ : ∃ L : List Loc, L = [] := ⟨_, rfl⟩
  have hP : va_P D cls9 (wSC cI cB ah ab ag an length place letter rowColumns bytes digits entries) H := hH ▸ hP
  have hS : va_S A s.heap H locs := by rw [hH, hlo]; exact hS
  suffices hg : W p l e rm_X4_hasMore s m args below meth c H locs 0 0 Q (F0 m 0 ls []) by rw [hH, hlo] at hg; exact hg
  refine lv_aload_n hx hb dX4_hasMore_0 rfl (lv_at hl 0 rfl) ?_
  obtain ⟨v_3, hq_2, hk⟩ := bd1_s hq
  obtain ⟨u_1, rfl⟩ : ∃ y, y = v_3 := ⟨_, rfl⟩
  have hq := hk _ rfl
  refine callVA (gV (rest := []) ⟨hx, hb, hml, hown, hts⟩ hG hP hD 0 4 rfl rfl (mtX4_skipBlanks l D cI cB cR ah ab ag an H.size length place letter rowColumns bytes digits entries u_1 hq_2) (cwV 0 hts gX4_hasMore_X4_skipBlanks rfl rfl rfl ⟨rfl, hd_X4_skipBlanks⟩ ⟨Nat.le_of_ble_eq_true rfl, Nat.le_of_ble_eq_true rfl⟩) rfl hl.1 rfl (Nat.le_of_ble_eq_true rfl) dX4_hasMore_1) hD hS hA (fun H locs hP hD hS => ?_)
  have hP : va_P D cls9 (wSC cI cB ah ab ag an length u_1 letter rowColumns bytes digits entries) H := hP
  have hD : va_D A (wSC cI cB ah ab ag an length u_1 letter rowColumns bytes digits entries) := hD
  refine lv_aload_n hx hb dX4_hasMore_4 rfl (lv_at hl 0 rfl) ?_
  refine va_get (D := D) (ci := 4) (v := .int u_1) (C := RX4) (T := TX4) (N := 7) hx hb hts iX4_hasMore_X4 hown hG.1 hP 0 rfl rfl 4 (by decide) (hts _ fX4_hasMore_1) (fun _ h9 => h9) rfl dX4_hasMore_5 ?_
  refine lv_aload_n hx hb dX4_hasMore_8 rfl (lv_at hl 0 rfl) ?_
  refine va_get (D := D) (ci := 4) (v := .int length) (C := RX4) (T := TX4) (N := 7) hx hb hts iX4_hasMore_X4 hown hG.1 hP 0 rfl rfl 3 (by decide) (hts _ fX4_hasMore_2) (fun _ h9 => h9) rfl dX4_hasMore_9 ?_
  refine lv_icmp_ge (tgt := 19) hx hb dX4_hasMore_12 (by decide) (fun c_4 => ?_) (fun c_4 => ?_)
  · have hq := it_t c_4 hq
    refine lv_iconst (v := 0) hx hb dX4_hasMore_19 (by decide) ?_
    have he := Option.some.inj hq
    subst he
    exact hE H locs _ _ _ rfl (Or.inl rfl) dX4_hasMore_20 hP hD hS
  · have hq := it_f c_4 hq
    refine lv_iconst (v := 1) hx hb dX4_hasMore_15 (by decide) ?_
    refine lv_goto (tgt := 20) hx hb dX4_hasMore_16 (by decide) ?_
    have he := Option.some.inj hq
    subst he
    exact hE H locs _ _ _ rfl (Or.inr rfl) dX4_hasMore_20 hP hD hS
abbrev rm_X4_digitAt : Room := { frames := 0, cells := 0, slots := 0, locals := 0 }
theorem iX4_digitAt_X4 : ∀ w ∈ wsX40, w ∈ wsX4_digitAt := fun _ h => (List.mem_cons_of_mem _ (List.mem_append_right _ h))
theorem fX4_digitAt_1 : Cond.fieldLink RX4 15 "PopovRows$Script" "digits" "[I" ∈ wsX4_digitAt := (List.mem_cons_of_mem _ (List.mem_append_left _ (List.mem_of_getElem? (i := 0) rfl)))
set_option maxHeartbeats 4000000 in
set_option maxRecDepth 100000 in
theorem mtX4_digitAt (l : Launch) (D : va_G) (cI cB cR : ClassId) (ah : Nat) (ab : Nat) (ag : Nat) (an : Nat) (sz : Nat) (length : Int32) (place : Int32) (letter : Int32) (rowColumns : Int32) (bytes : Nat → Int32) (digits : Nat → Int32) (entries : Nat → Int32) (a0 : Int32) (res : Int32) (hf : fX4_digitAt digits a0 = some res) : Met l yX4_digitAt wsX4_digitAt rm_X4_digitAt (qP D cI cB cR [.ref ah, .int a0] (wSC cI cB ah ab ag an length place letter rowColumns bytes digits entries) sz) (qI D res (wSC cI cB ah ab ag an length place letter rowColumns bytes digits entries) (wSC cI cB ah ab ag an length place letter rowColumns bytes digits entries) sz) 0 0 (va_A (wSC cI cB ah ab ag an length place letter rowColumns bytes digits entries) sz) := by
  refine entI (plainFor_of_name (by decide)) rfl (Nat.le_of_ble_eq_true rfl) ?_
  intro p e s m args below meth c Q A ls S hG hP hD hA hl hE
  obtain ⟨hx, hb, hml, hown, hts⟩ := S
  have hown : s.vm.findClass RX4 = some m.cls := hown
  have hS : va_S A s.heap s.heap [] := va_S.rf
  have hl : lv_has ls 2 [(0, .ref ah), (1, .int a0)] := hl
  have hq := hf
  unfold fX4_digitAt at hq
  obtain ⟨H, hH⟩ : ∃ H, H = s.heap := ⟨_, rfl⟩
  obtain ⟨locs, hlo⟩ : ∃ L : List Loc, L = [] := ⟨_, rfl⟩
  have hP : va_P D cls9 (wSC cI cB ah ab ag an length place letter rowColumns bytes digits entries) H := hH ▸ hP
  have hS : va_S A s.heap H locs := by rw [hH, hlo]; exact hS
  suffices hg : W p l e rm_X4_digitAt s m args below meth c H locs 0 0 Q (F0 m 0 ls []) by rw [hH, hlo] at hg; exact hg
  refine lv_iload_n hx hb dX4_digitAt_0 rfl (lv_at hl 1 rfl) ?_
  refine lv_if_lt (tgt := 22) hx hb dX4_digitAt_1 (by decide) (fun c_1 => ?_) (fun c_1 => ?_)
  · have hq := it_t c_1 hq
    refine lv_iconst (v := 0) hx hb dX4_digitAt_22 (by decide) ?_
    have he := Option.some.inj hq
    subst he
    exact hE H locs _ _ _ rfl dX4_digitAt_23 hP hD hS
  · have hq := it_f c_1 hq
    refine lv_iload_n hx hb dX4_digitAt_4 rfl (lv_at hl 1 rfl) ?_
    refine lv_aload_n hx hb dX4_digitAt_5 rfl (lv_at hl 0 rfl) ?_
    refine va_get (D := D) (ci := 4) (v := .ref ag) (C := RX4) (T := TX4) (N := 7) hx hb hts iX4_digitAt_X4 hown hG.1 hP 0 rfl rfl 1 (by decide) (hts _ fX4_digitAt_1) (fun _ h9 => h9) rfl dX4_digitAt_6 ?_
    refine va_alen (v := (4 : Int32)) hx hb hG.1 hP 2 0 rfl rfl rfl dX4_digitAt_9 ?_
    refine lv_icmp_ge (tgt := 22) hx hb dX4_digitAt_10 (by decide) (fun c_2 => ?_) (fun c_2 => ?_)
    · have hq := it_t c_2 hq
      refine lv_iconst (v := 0) hx hb dX4_digitAt_22 (by decide) ?_
      have he := Option.some.inj hq
      subst he
      exact hE H locs _ _ _ rfl dX4_digitAt_23 hP hD hS
    · have hq := it_f c_2 hq
      refine lv_aload_n hx hb dX4_digitAt_13 rfl (lv_at hl 0 rfl) ?_
      refine va_get (D := D) (ci := 4) (v := .ref ag) (C := RX4) (T := TX4) (N := 7) hx hb hts iX4_digitAt_X4 hown hG.1 hP 0 rfl rfl 1 (by decide) (hts _ fX4_digitAt_1) (fun _ h9 => h9) rfl dX4_digitAt_14 ?_
      refine lv_iload_n hx hb dX4_digitAt_17 rfl (lv_at hl 1 rfl) ?_
      obtain ⟨h_3, hq⟩ := gd_s hq
      refine va_iald hx hb hG.1 hP 2 0 rfl rfl h_3 dX4_digitAt_18 ?_
      refine lv_goto (tgt := 23) hx hb dX4_digitAt_19 (by decide) ?_
      have he := Option.some.inj hq
      subst he
      exact hE H locs _ _ _ rfl dX4_digitAt_23 hP hD hS
abbrev rm_X4_entryIndex : Room := { frames := 1, cells := 0, slots := 0, locals := 22 }
theorem fX4_entryIndex_0 : Cond.initialized RX7 ∈ wsX4_entryIndex := (List.mem_cons_of_mem _ (List.mem_of_getElem? (i := 1) rfl))
theorem fX4_entryIndex_1 : Cond.static yX7_isWithin ∈ wsX4_entryIndex := (List.mem_cons_of_mem _ (List.mem_of_getElem? (i := 0) rfl))
set_option maxHeartbeats 4000000 in
set_option maxRecDepth 100000 in
theorem mtX4_entryIndex (l : Launch) (D : va_G) (cI cB cR : ClassId) (ah : Nat) (ab : Nat) (ag : Nat) (an : Nat) (sz : Nat) (length : Int32) (place : Int32) (letter : Int32) (rowColumns : Int32) (bytes : Nat → Int32) (digits : Nat → Int32) (entries : Nat → Int32) (a0 : Int32) (a1 : Int32) (res : Int32) (hf : fX4_entryIndex a0 a1 = some res) : Met l yX4_entryIndex wsX4_entryIndex rm_X4_entryIndex (qP D cI cB cR [.ref ah, .int a0, .int a1] (wSC cI cB ah ab ag an length place letter rowColumns bytes digits entries) sz) (qI D res (wSC cI cB ah ab ag an length place letter rowColumns bytes digits entries) (wSC cI cB ah ab ag an length place letter rowColumns bytes digits entries) sz) 0 0 (va_A (wSC cI cB ah ab ag an length place letter rowColumns bytes digits entries) sz) := by
  refine entI (plainFor_of_name (by decide)) rfl (Nat.le_of_ble_eq_true rfl) ?_
  intro p e s m args below meth c Q A ls S hG hP hD hA hl hE
  obtain ⟨hx, hb, hml, hown, hts⟩ := S
  have hown : s.vm.findClass RX4 = some m.cls := hown
  have hS : va_S A s.heap s.heap [] := va_S.rf
  have hl : lv_has ls 4 [(0, .ref ah), (1, .int a0), (2, .int a1)] := hl
  have hq := hf
  unfold fX4_entryIndex at hq
  obtain ⟨H, hH⟩ : ∃ H, H = s.heap := ⟨_, rfl⟩
  obtain ⟨locs, hlo⟩ : ∃ L : List Loc, L = [] := ⟨_, rfl⟩
  have hP : va_P D cls9 (wSC cI cB ah ab ag an length place letter rowColumns bytes digits entries) H := hH ▸ hP
  have hS : va_S A s.heap H locs := by rw [hH, hlo]; exact hS
  suffices hg : W p l e rm_X4_entryIndex s m args below meth c H locs 0 0 Q (F0 m 0 ls []) by rw [hH, hlo] at hg; exact hg
  refine lv_iload_n hx hb dX4_entryIndex_0 rfl (lv_at hl 1 rfl) ?_
  refine lv_iconst (v := 0) hx hb dX4_entryIndex_1 (by decide) ?_
  refine lv_iconst (v := 2) hx hb dX4_entryIndex_2 (by decide) ?_
  refine callZ0 (gSN (rest := []) ⟨hx, hb, hml, hown, hts⟩ hG vaP0 (vaD0 (A := A)) (mtX7_isWithin l D cI cB cR H.size a0 (0 : Int32) (2 : Int32) _ rfl) (va_cnB (host := "PopovRows") 3 hts gX4_entryIndex_X7_isWithin_n66 rfl rfl rfl (hG.2 _ nl_22) (hts _ fX4_entryIndex_0) hd_X7_isWithin ⟨Nat.le_of_ble_eq_true rfl, Nat.le_of_ble_eq_true rfl⟩) (hts _ fX4_entryIndex_1) rfl hl.1 rfl (Nat.le_of_ble_eq_true rfl) dX4_entryIndex_3) hP hS hA (fun H locs z_1 hP hS => ?_)
  obtain ⟨v1, hj1, hk1⟩ := bd1_s hq
  have hJ1 : ∀ (j_5 : Int32), v1 = j_5 → (j_5 = 0 ∨ j_5 = 1) → ∀ (H : Heap) (locs : List Loc), va_P D cls9 (wSC cI cB ah ab ag an length place letter rowColumns bytes digits entries) H → va_D A (wSC cI cB ah ab ag an length place letter rowColumns bytes digits entries) → va_S A s.heap H locs → ∀ (ls : Array Slot), lv_has ls 4 [(1, .int a0), (2, .int a1)] → W p l e rm_X4_entryIndex s m args below meth c H locs 0 0 Q (F0 m 24 ls [.int j_5]) := by
    intro j_5 hq zj_5 H locs hP hD hS ls hl
    have hq := hk1 _ hq
    refine lv_istore_n (lv' := [(3, .int j_5), (1, .int a0), (2, .int a1)]) hx hb dX4_entryIndex_24 rfl hl (by decide) rfl (fun ls hl => ?_)
    refine lv_iload_n hx hb dX4_entryIndex_25 rfl (lv_at hl 0 rfl) ?_
    refine lv_if_eq (tgt := 38) hx hb dX4_entryIndex_26 (by decide) (fun c_6 => ?_) (fun c_6 => ?_)
    · have hq := it_t c_6 hq
      refine lv_iconst (v := -1) hx hb dX4_entryIndex_38 (by decide) ?_
      have he := Option.some.inj hq
      subst he
      exact hE H locs _ _ _ rfl dX4_entryIndex_39 hP hD hS
    · have hq := it_f c_6 hq
      refine lv_iload_n hx hb dX4_entryIndex_29 rfl (lv_at hl 1 rfl) ?_
      refine lv_bipush (v := 7) hx hb dX4_entryIndex_30 (by decide) ?_
      refine lv_imul hx hb dX4_entryIndex_32 ?_
      refine lv_iload_n hx hb dX4_entryIndex_33 rfl (lv_at hl 2 rfl) ?_
      refine lv_iadd hx hb dX4_entryIndex_34 ?_
      refine lv_goto (tgt := 39) hx hb dX4_entryIndex_35 (by decide) ?_
      have he := Option.some.inj hq
      subst he
      exact hE H locs _ _ _ rfl dX4_entryIndex_39 hP hD hS
  refine lv_if_eq (tgt := 23) hx hb dX4_entryIndex_6 (by decide) (fun c_2 => ?_) (fun c_2 => ?_)
  · have hj1 := it_t c_2 hj1
    refine lv_iconst (v := 0) hx hb dX4_entryIndex_23 (by decide) ?_
    exact hJ1 (0 : Int32) (Option.some.inj hj1).symm (Or.inl rfl) H locs hP hD hS ls (lv_sub hl [1, 2] rfl)
  · have hj1 := it_f c_2 hj1
    refine lv_iload_n hx hb dX4_entryIndex_9 rfl (lv_at hl 2 rfl) ?_
    refine lv_iconst (v := 0) hx hb dX4_entryIndex_10 (by decide) ?_
    refine lv_bipush (v := 6) hx hb dX4_entryIndex_11 (by decide) ?_
    refine callZ0 (gSN (rest := []) ⟨hx, hb, hml, hown, hts⟩ hG vaP0 (vaD0 (A := A)) (mtX7_isWithin l D cI cB cR H.size a1 (0 : Int32) (6 : Int32) _ rfl) (va_cnB (host := "PopovRows") 3 hts gX4_entryIndex_X7_isWithin_n66 rfl rfl rfl (hG.2 _ nl_22) (hts _ fX4_entryIndex_0) hd_X7_isWithin ⟨Nat.le_of_ble_eq_true rfl, Nat.le_of_ble_eq_true rfl⟩) (hts _ fX4_entryIndex_1) rfl hl.1 rfl (Nat.le_of_ble_eq_true rfl) dX4_entryIndex_13) hP hS hA (fun H locs z_3 hP hS => ?_)
    refine lv_if_eq (tgt := 23) hx hb dX4_entryIndex_16 (by decide) (fun c_4 => ?_) (fun c_4 => ?_)
    · have hj1 := it_t c_4 hj1
      refine lv_iconst (v := 0) hx hb dX4_entryIndex_23 (by decide) ?_
      exact hJ1 (0 : Int32) (Option.some.inj hj1).symm (Or.inl rfl) H locs hP hD hS ls (lv_sub hl [1, 2] rfl)
    · have hj1 := it_f c_4 hj1
      refine lv_iconst (v := 1) hx hb dX4_entryIndex_19 (by decide) ?_
      refine lv_goto (tgt := 24) hx hb dX4_entryIndex_20 (by decide) ?_
      exact hJ1 (1 : Int32) (Option.some.inj hj1).symm (Or.inr rfl) H locs hP hD hS ls (lv_sub hl [1, 2] rfl)
abbrev rm_X4_entryAt : Room := { frames := 2, cells := 0, slots := 0, locals := 45 }
theorem iX4_entryAt_X4 : ∀ w ∈ wsX40, w ∈ wsX4_entryAt := fun _ h => (List.mem_cons_of_mem _ (List.mem_append_right _ h))
theorem fX4_entryAt_1 : Cond.fieldLink RX4 19 "PopovRows$Script" "entries" "[I" ∈ wsX4_entryAt := (List.mem_cons_of_mem _ (List.mem_append_left _ (List.mem_of_getElem? (i := 0) rfl)))
set_option maxHeartbeats 4000000 in
set_option maxRecDepth 100000 in
theorem mtX4_entryAt (l : Launch) (D : va_G) (cI cB cR : ClassId) (ah : Nat) (ab : Nat) (ag : Nat) (an : Nat) (sz : Nat) (length : Int32) (place : Int32) (letter : Int32) (rowColumns : Int32) (bytes : Nat → Int32) (digits : Nat → Int32) (entries : Nat → Int32) (a0 : Int32) (a1 : Int32) (res : Int32) (hf : fX4_entryAt entries a0 a1 = some res) : Met l yX4_entryAt wsX4_entryAt rm_X4_entryAt (qP D cI cB cR [.ref ah, .int a0, .int a1] (wSC cI cB ah ab ag an length place letter rowColumns bytes digits entries) sz) (qI D res (wSC cI cB ah ab ag an length place letter rowColumns bytes digits entries) (wSC cI cB ah ab ag an length place letter rowColumns bytes digits entries) sz) 0 0 (va_A (wSC cI cB ah ab ag an length place letter rowColumns bytes digits entries) sz) := by
  refine entI (plainFor_of_name (by decide)) rfl (Nat.le_of_ble_eq_true rfl) ?_
  intro p e s m args below meth c Q A ls S hG hP hD hA hl hE
  obtain ⟨hx, hb, hml, hown, hts⟩ := S
  have hown : s.vm.findClass RX4 = some m.cls := hown
  have hS : va_S A s.heap s.heap [] := va_S.rf
  have hl : lv_has ls 4 [(0, .ref ah), (1, .int a0), (2, .int a1)] := hl
  have hq := hf
  unfold fX4_entryAt at hq
  obtain ⟨H, hH⟩ : ∃ H, H = s.heap := ⟨_, rfl⟩
  obtain ⟨locs, hlo⟩ : ∃ L : List Loc, L = [] := ⟨_, rfl⟩
  have hP : va_P D cls9 (wSC cI cB ah ab ag an length place letter rowColumns bytes digits entries) H := hH ▸ hP
  have hS : va_S A s.heap H locs := by rw [hH, hlo]; exact hS
  suffices hg : W p l e rm_X4_entryAt s m args below meth c H locs 0 0 Q (F0 m 0 ls []) by rw [hH, hlo] at hg; exact hg
  refine lv_aload_n hx hb dX4_entryAt_0 rfl (lv_at hl 0 rfl) ?_
  refine lv_iload_n hx hb dX4_entryAt_1 rfl (lv_at hl 1 rfl) ?_
  refine lv_iload_n hx hb dX4_entryAt_2 rfl (lv_at hl 2 rfl) ?_
  obtain ⟨v_3, hq_2, hk⟩ := bd1_s hq
  obtain ⟨r_1, rfl⟩ : ∃ y, y = v_3 := ⟨_, rfl⟩
  have hq := hk _ rfl
  refine callIA (gV (rest := []) ⟨hx, hb, hml, hown, hts⟩ hG hP hD 0 4 rfl rfl (mtX4_entryIndex l D cI cB cR ah ab ag an H.size length place letter rowColumns bytes digits entries a0 a1 r_1 hq_2) (cwV 2 hts gX4_entryAt_X4_entryIndex rfl rfl rfl ⟨rfl, hd_X4_entryIndex⟩ ⟨Nat.le_of_ble_eq_true rfl, Nat.le_of_ble_eq_true rfl⟩) rfl hl.1 rfl (Nat.le_of_ble_eq_true rfl) dX4_entryAt_3) hD hS hA (fun H locs hP hD hS => ?_)
  have hP : va_P D cls9 (wSC cI cB ah ab ag an length place letter rowColumns bytes digits entries) H := hP
  have hD : va_D A (wSC cI cB ah ab ag an length place letter rowColumns bytes digits entries) := hD
  refine lv_istore_n (lv' := [(3, .int r_1), (0, .ref ah), (1, .int a0), (2, .int a1)]) hx hb dX4_entryAt_6 rfl hl (by decide) rfl (fun ls hl => ?_)
  refine lv_iload_n hx hb dX4_entryAt_7 rfl (lv_at hl 0 rfl) ?_
  refine lv_if_lt (tgt := 29) hx hb dX4_entryAt_8 (by decide) (fun c_4 => ?_) (fun c_4 => ?_)
  · have hq := it_t c_4 hq
    refine lv_iconst (v := 0) hx hb dX4_entryAt_29 (by decide) ?_
    have he := Option.some.inj hq
    subst he
    exact hE H locs _ _ _ rfl dX4_entryAt_30 hP hD hS
  · have hq := it_f c_4 hq
    refine lv_iload_n hx hb dX4_entryAt_11 rfl (lv_at hl 0 rfl) ?_
    refine lv_aload_n hx hb dX4_entryAt_12 rfl (lv_at hl 1 rfl) ?_
    refine va_get (D := D) (ci := 4) (v := .ref an) (C := RX4) (T := TX4) (N := 7) hx hb hts iX4_entryAt_X4 hown hG.1 hP 0 rfl rfl 2 (by decide) (hts _ fX4_entryAt_1) (fun _ h9 => h9) rfl dX4_entryAt_13 ?_
    refine va_alen (v := (21 : Int32)) hx hb hG.1 hP 3 0 rfl rfl rfl dX4_entryAt_16 ?_
    refine lv_icmp_ge (tgt := 29) hx hb dX4_entryAt_17 (by decide) (fun c_5 => ?_) (fun c_5 => ?_)
    · have hq := it_t c_5 hq
      refine lv_iconst (v := 0) hx hb dX4_entryAt_29 (by decide) ?_
      have he := Option.some.inj hq
      subst he
      exact hE H locs _ _ _ rfl dX4_entryAt_30 hP hD hS
    · have hq := it_f c_5 hq
      refine lv_aload_n hx hb dX4_entryAt_20 rfl (lv_at hl 1 rfl) ?_
      refine va_get (D := D) (ci := 4) (v := .ref an) (C := RX4) (T := TX4) (N := 7) hx hb hts iX4_entryAt_X4 hown hG.1 hP 0 rfl rfl 2 (by decide) (hts _ fX4_entryAt_1) (fun _ h9 => h9) rfl dX4_entryAt_21 ?_
      refine lv_iload_n hx hb dX4_entryAt_24 rfl (lv_at hl 0 rfl) ?_
      obtain ⟨h_6, hq⟩ := gd_s hq
      refine va_iald hx hb hG.1 hP 3 0 rfl rfl h_6 dX4_entryAt_25 ?_
      refine lv_goto (tgt := 30) hx hb dX4_entryAt_26 (by decide) ?_
      have he := Option.some.inj hq
      subst he
      exact hE H locs _ _ _ rfl dX4_entryAt_30 hP hD hS
abbrev rm_X4_digitHere : Room := { frames := 2, cells := 0, slots := 0, locals := 41 }
theorem fX4_digitHere_0 : Cond.initialized RX7 ∈ wsX4_digitHere := (List.mem_cons_of_mem _ (List.mem_append_left _ (List.mem_of_getElem? (i := 13) rfl)))
theorem fX4_digitHere_1 : Cond.static yX7_isWithin ∈ wsX4_digitHere := (List.mem_cons_of_mem _ (List.mem_append_left _ (List.mem_of_getElem? (i := 12) rfl)))
set_option maxHeartbeats 4000000 in
set_option maxRecDepth 100000 in
theorem mtX4_digitHere (l : Launch) (D : va_G) (cI cB cR : ClassId) (ah : Nat) (ab : Nat) (ag : Nat) (an : Nat) (sz : Nat) (length : Int32) (place : Int32) (letter : Int32) (rowColumns : Int32) (bytes : Nat → Int32) (digits : Nat → Int32) (entries : Nat → Int32) (res : Int32 × Int32) (hf : fX4_digitHere length place bytes = some res) : Met l yX4_digitHere wsX4_digitHere rm_X4_digitHere (qP D cI cB cR [.ref ah] (wSC cI cB ah ab ag an length place letter rowColumns bytes digits entries) sz) (qI D res.1 (wSC cI cB ah ab ag an length place letter rowColumns bytes digits entries) (wSC cI cB ah ab ag an length res.2 letter rowColumns bytes digits entries) sz) 0 0 (va_A (wSC cI cB ah ab ag an length place letter rowColumns bytes digits entries) sz) := by
  refine entI (plainFor_of_name (by decide)) rfl (Nat.le_of_ble_eq_true rfl) ?_
  intro p e s m args below meth c Q A ls S hG hP hD hA hl hE
  obtain ⟨hx, hb, hml, hown, hts⟩ := S
  have hown : s.vm.findClass RX4 = some m.cls := hown
  have hS : va_S A s.heap s.heap [] := va_S.rf
  have hl : lv_has ls 2 [(0, .ref ah)] := hl
  have hq := hf
  unfold fX4_digitHere at hq
  obtain ⟨H, hH⟩ : ∃ H, H = s.heap := ⟨_, rfl⟩
  obtain ⟨locs, hlo⟩ : ∃ L : List Loc, L = [] := ⟨_, rfl⟩
  have hP : va_P D cls9 (wSC cI cB ah ab ag an length place letter rowColumns bytes digits entries) H := hH ▸ hP
  have hS : va_S A s.heap H locs := by rw [hH, hlo]; exact hS
  suffices hg : W p l e rm_X4_digitHere s m args below meth c H locs 0 0 Q (F0 m 0 ls []) by rw [hH, hlo] at hg; exact hg
  refine lv_aload_n hx hb dX4_digitHere_0 rfl (lv_at hl 0 rfl) ?_
  obtain ⟨v_3, hq_2, hk⟩ := bd1_s hq
  obtain ⟨u_1, rfl⟩ : ∃ y, y = v_3 := ⟨_, rfl⟩
  have hq := hk _ rfl
  refine callVA (gV (rest := []) ⟨hx, hb, hml, hown, hts⟩ hG hP hD 0 4 rfl rfl (mtX4_skipBlanks l D cI cB cR ah ab ag an H.size length place letter rowColumns bytes digits entries u_1 hq_2) (cwV 0 hts gX4_digitHere_X4_skipBlanks rfl rfl rfl ⟨rfl, hd_X4_skipBlanks⟩ ⟨Nat.le_of_ble_eq_true rfl, Nat.le_of_ble_eq_true rfl⟩) rfl hl.1 rfl (Nat.le_of_ble_eq_true rfl) dX4_digitHere_1) hD hS hA (fun H locs hP hD hS => ?_)
  have hP : va_P D cls9 (wSC cI cB ah ab ag an length u_1 letter rowColumns bytes digits entries) H := hP
  have hD : va_D A (wSC cI cB ah ab ag an length u_1 letter rowColumns bytes digits entries) := hD
  refine lv_aload_n hx hb dX4_digitHere_4 rfl (lv_at hl 0 rfl) ?_
  obtain ⟨v_6, hq_5, hk⟩ := bd1_s hq
  obtain ⟨r_4, rfl⟩ : ∃ y, y = v_6 := ⟨_, rfl⟩
  have hq := hk _ rfl
  refine callIA (gV (rest := []) ⟨hx, hb, hml, hown, hts⟩ hG hP hD 0 4 rfl rfl (mtX4_byteHere l D cI cB cR ah ab ag an H.size length u_1 letter rowColumns bytes digits entries r_4 hq_5) (cwV 0 hts gX4_digitHere_X4_byteHere rfl rfl rfl ⟨rfl, hd_X4_byteHere⟩ ⟨Nat.le_of_ble_eq_true rfl, Nat.le_of_ble_eq_true rfl⟩) rfl hl.1 rfl (Nat.le_of_ble_eq_true rfl) dX4_digitHere_5) hD hS hA (fun H locs hP hD hS => ?_)
  have hP : va_P D cls9 (wSC cI cB ah ab ag an length u_1 letter rowColumns bytes digits entries) H := hP
  have hD : va_D A (wSC cI cB ah ab ag an length u_1 letter rowColumns bytes digits entries) := hD
  refine lv_istore_n (lv' := [(1, .int r_4), (0, .ref ah)]) hx hb dX4_digitHere_8 rfl hl (by decide) rfl (fun ls hl => ?_)
  refine lv_iload_n hx hb dX4_digitHere_9 rfl (lv_at hl 0 rfl) ?_
  refine lv_bipush (v := 48) hx hb dX4_digitHere_10 (by decide) ?_
  refine lv_bipush (v := 57) hx hb dX4_digitHere_12 (by decide) ?_
  refine callZ0 (gSN (rest := []) ⟨hx, hb, hml, hown, hts⟩ hG vaP0 (vaD0 (A := A)) (mtX7_isWithin l D cI cB cR H.size r_4 (48 : Int32) (57 : Int32) _ rfl) (va_cnB (host := "PopovRows") 3 hts gX4_digitHere_X7_isWithin_n66 rfl rfl rfl (hG.2 _ nl_22) (hts _ fX4_digitHere_0) hd_X7_isWithin ⟨Nat.le_of_ble_eq_true rfl, Nat.le_of_ble_eq_true rfl⟩) (hts _ fX4_digitHere_1) rfl hl.1 rfl (Nat.le_of_ble_eq_true rfl) dX4_digitHere_14) hP hS hA (fun H locs z_7 hP hS => ?_)
  refine lv_if_eq (tgt := 27) hx hb dX4_digitHere_17 (by decide) (fun c_8 => ?_) (fun c_8 => ?_)
  · have hq := it_t c_8 hq
    refine lv_iconst (v := -1) hx hb dX4_digitHere_27 (by decide) ?_
    have he := Option.some.inj hq
    subst he
    exact hE H locs _ _ _ rfl dX4_digitHere_28 hP hD hS
  · have hq := it_f c_8 hq
    refine lv_iload_n hx hb dX4_digitHere_20 rfl (lv_at hl 0 rfl) ?_
    refine lv_bipush (v := 48) hx hb dX4_digitHere_21 (by decide) ?_
    refine lv_isub hx hb dX4_digitHere_23 ?_
    refine lv_goto (tgt := 28) hx hb dX4_digitHere_24 (by decide) ?_
    have he := Option.some.inj hq
    subst he
    exact hE H locs _ _ _ rfl dX4_digitHere_28 hP hD hS
abbrev rm_X4_readDigits : Room := { frames := 3, cells := 0, slots := 0, locals := 62 }
theorem iX4_readDigits_X4 : ∀ w ∈ wsX40, w ∈ wsX4_readDigits := fun _ h => (List.mem_cons_of_mem _ (List.mem_append_right _ h))
theorem fX4_readDigits_1 : Cond.fieldLink RX4 15 "PopovRows$Script" "digits" "[I" ∈ wsX4_readDigits := (List.mem_cons_of_mem _ (List.mem_append_left _ (List.mem_of_getElem? (i := 0) rfl)))
theorem fX4_readDigits_2 : Cond.fieldLink RX4 26 "PopovRows$Script" "place" "I" ∈ wsX4_readDigits := (List.mem_cons_of_mem _ (List.mem_append_left _ (List.mem_of_getElem? (i := 1) rfl)))
set_option maxHeartbeats 4000000 in
set_option maxRecDepth 100000 in
theorem mtX4_readDigits (l : Launch) (D : va_G) (cI cB cR : ClassId) (ah : Nat) (ab : Nat) (ag : Nat) (an : Nat) (sz : Nat) (length : Int32) (place : Int32) (letter : Int32) (rowColumns : Int32) (bytes : Nat → Int32) (digits : Nat → Int32) (entries : Nat → Int32) (a0 : Int32) (res : Int32 × Int32 × (Nat → Int32)) (hf : fX4_readDigits length place bytes digits a0 = some res) : Met l yX4_readDigits wsX4_readDigits rm_X4_readDigits (qP D cI cB cR [.ref ah, .int a0] (wSC cI cB ah ab ag an length place letter rowColumns bytes digits entries) sz) (qZ D res.1 (wSC cI cB ah ab ag an length place letter rowColumns bytes digits entries) (wSC cI cB ah ab ag an length res.2.1 letter rowColumns bytes res.2.2 entries) sz) 0 0 (va_A (wSC cI cB ah ab ag an length place letter rowColumns bytes digits entries) sz) := by
  refine entZ (plainFor_of_name (by decide)) rfl (Nat.le_of_ble_eq_true rfl) ?_
  intro p e s m args below meth c Q A ls S hG hP hD hA hl hE
  obtain ⟨hx, hb, hml, hown, hts⟩ := S
  have hown : s.vm.findClass RX4 = some m.cls := hown
  have hS : va_S A s.heap s.heap [] := va_S.rf
  have hl : lv_has ls 4 [(0, .ref ah), (1, .int a0)] := hl
  have hq := hf
  unfold fX4_readDigits at hq
  obtain ⟨H, hH⟩ : ∃ H, H = s.heap := ⟨_, rfl⟩
  obtain ⟨locs, hlo⟩ : ∃ L : List Loc, L = [] := ⟨_, rfl⟩
  have hP : va_P D cls9 (wSC cI cB ah ab ag an length place letter rowColumns bytes digits entries) H := hH ▸ hP
  have hS : va_S A s.heap H locs := by rw [hH, hlo]; exact hS
  suffices hg : W p l e rm_X4_readDigits s m args below meth c H locs 0 0 Q (F0 m 0 ls []) by rw [hH, hlo] at hg; exact hg
  refine lv_iconst (v := 0) hx hb dX4_readDigits_0 (by decide) ?_
  refine lv_istore_n (lv' := [(2, .int (0 : Int32)), (0, .ref ah), (1, .int a0)]) hx hb dX4_readDigits_1 rfl hl (by decide) rfl (fun ls hl => ?_)
  obtain ⟨w1, hw1, hk1, hO1⟩ := bx2_s hq
  have hX1 : ∀ (x_12 : Nat → Int32) (x_13 : Int32), w1 = .inl (x_12, x_13) → ∀ (H : Heap) (locs : List Loc), va_P D cls9 (wSC cI cB ah ab ag an length x_13 letter rowColumns bytes x_12 entries) H → va_D A (wSC cI cB ah ab ag an length x_13 letter rowColumns bytes x_12 entries) → va_S A s.heap H locs → ∀ (ls : Array Slot), lv_has ls 4 [] → W p l e rm_X4_readDigits s m args below meth c H locs 0 0 Q (F0 m 51 ls []) := by
    intro x_12 x_13 hq H locs hP hD hS ls hl
    have hq := hk1 _ _ hq
    refine lv_iconst (v := 1) hx hb dX4_readDigits_51 (by decide) ?_
    have he := Option.some.inj hq
    subst he
    exact hE H locs _ _ _ rfl (Or.inr rfl) dX4_readDigits_52 hP hD hS
  have hL1 : ∀ (n : Nat) (i_1 : Int32) (i_2 : Nat → Int32) (i_3 : Int32), lrun (fun (z : Int32 × (Nat → Int32) × Int32) => fX4_readDigits_s2 length bytes a0 z.1 z.2.1 z.2.2) n (i_1, i_2, i_3) = some w1 → ∀ (H : Heap) (locs : List Loc), va_P D cls9 (wSC cI cB ah ab ag an length i_3 letter rowColumns bytes i_2 entries) H → va_D A (wSC cI cB ah ab ag an length i_3 letter rowColumns bytes i_2 entries) → va_S A s.heap H locs → ∀ (ls : Array Slot), lv_has ls 4 [(0, .ref ah), (1, .int a0), (2, .int i_1)] → W p l e rm_X4_readDigits s m args below meth c H locs 0 0 Q (F0 m 2 ls []) := by
    intro n
    induction n with
    | zero => intro i_1 i_2 i_3 h; cases h
    | succ n ih1 =>
      intro i_1 i_2 i_3 hr1 H locs hP hD hS ls hl
      obtain ⟨k, v1, hk, hr1, ht1, hv1⟩ := lrun_s hr1
      cases hk
      have hr1 : fX4_readDigits_s2 length bytes a0 i_1 i_2 i_3 = some v1 := hr1
      unfold fX4_readDigits_s2 at hr1
      refine lv_iload_n hx hb dX4_readDigits_2 rfl (lv_at hl 2 rfl) ?_
      refine lv_iload_n hx hb dX4_readDigits_3 rfl (lv_at hl 1 rfl) ?_
      refine lv_icmp_ge (tgt := 51) hx hb dX4_readDigits_4 (by decide) (fun c_4 => ?_) (fun c_4 => ?_)
      · have hr1 := it_t c_4 hr1
        exact hX1 i_2 i_3 (hv1 _ (Option.some.inj hr1).symm).symm H locs hP hD hS ls (lv_sub hl [] rfl)
      · have hr1 := it_f c_4 hr1
        refine lv_iload_n hx hb dX4_readDigits_7 rfl (lv_at hl 2 rfl) ?_
        refine lv_aload_n hx hb dX4_readDigits_8 rfl (lv_at hl 0 rfl) ?_
        refine va_get (D := D) (ci := 4) (v := .ref ag) (C := RX4) (T := TX4) (N := 7) hx hb hts iX4_readDigits_X4 hown hG.1 hP 0 rfl rfl 1 (by decide) (hts _ fX4_readDigits_1) (fun _ h9 => h9) rfl dX4_readDigits_9 ?_
        refine va_alen (v := (4 : Int32)) hx hb hG.1 hP 2 0 rfl rfl rfl dX4_readDigits_12 ?_
        refine lv_icmp_ge (tgt := 51) hx hb dX4_readDigits_13 (by decide) (fun c_5 => ?_) (fun c_5 => ?_)
        · have hr1 := it_t c_5 hr1
          exact hX1 i_2 i_3 (hv1 _ (Option.some.inj hr1).symm).symm H locs hP hD hS ls (lv_sub hl [] rfl)
        · have hr1 := it_f c_5 hr1
          refine lv_aload_n hx hb dX4_readDigits_16 rfl (lv_at hl 0 rfl) ?_
          obtain ⟨v_9, hq_8, hk⟩ := bd2_s hr1
          obtain ⟨r_6, u_7⟩ := v_9
          have hr1 := hk _ _ rfl
          refine callIA (gV (rest := []) ⟨hx, hb, hml, hown, hts⟩ hG hP hD 0 4 rfl rfl (mtX4_digitHere l D cI cB cR ah ab ag an H.size length i_3 letter rowColumns bytes i_2 entries (r_6, u_7) hq_8) (cwV 0 hts gX4_readDigits_X4_digitHere rfl rfl rfl ⟨rfl, hd_X4_digitHere⟩ ⟨Nat.le_of_ble_eq_true rfl, Nat.le_of_ble_eq_true rfl⟩) rfl hl.1 rfl (Nat.le_of_ble_eq_true rfl) dX4_readDigits_17) hD hS hA (fun H locs hP hD hS => ?_)
          have hP : va_P D cls9 (wSC cI cB ah ab ag an length u_7 letter rowColumns bytes i_2 entries) H := hP
          have hD : va_D A (wSC cI cB ah ab ag an length u_7 letter rowColumns bytes i_2 entries) := hD
          refine lv_istore_n (lv' := [(3, .int r_6), (0, .ref ah), (1, .int a0), (2, .int i_1)]) hx hb dX4_readDigits_20 rfl hl (by decide) rfl (fun ls hl => ?_)
          refine lv_iload_n hx hb dX4_readDigits_21 rfl (lv_at hl 0 rfl) ?_
          refine lv_iconst (v := -1) hx hb dX4_readDigits_22 (by decide) ?_
          refine lv_icmp_ne (tgt := 28) hx hb dX4_readDigits_23 (by decide) (fun c_10 => ?_) (fun c_10 => ?_)
          · have hr1 := it_f c_10 hr1
            refine lv_aload_n hx hb dX4_readDigits_28 rfl (lv_at hl 1 rfl) ?_
            refine va_get (D := D) (ci := 4) (v := .ref ag) (C := RX4) (T := TX4) (N := 7) hx hb hts iX4_readDigits_X4 hown hG.1 hP 0 rfl rfl 1 (by decide) (hts _ fX4_readDigits_1) (fun _ h9 => h9) rfl dX4_readDigits_29 ?_
            refine lv_iload_n hx hb dX4_readDigits_32 rfl (lv_at hl 3 rfl) ?_
            refine lv_iload_n hx hb dX4_readDigits_33 rfl (lv_at hl 0 rfl) ?_
            obtain ⟨h_11, hr1⟩ := gd_s hr1
            refine va_iast hx hb hG.1 hP hD hS 2 0 rfl rfl h_11 dX4_readDigits_34 (fun H locs hP hD hS => ?_)
            have hP : va_P D cls9 (wSC cI cB ah ab ag an length u_7 letter rowColumns bytes (upd i_2 i_1.toNatClampNeg r_6) entries) H := hP
            have hD : va_D A (wSC cI cB ah ab ag an length u_7 letter rowColumns bytes (upd i_2 i_1.toNatClampNeg r_6) entries) := hD
            refine lv_aload_n hx hb dX4_readDigits_35 rfl (lv_at hl 1 rfl) ?_
            refine lv_dup hx hb dX4_readDigits_36 rfl ?_
            refine va_get (D := D) (ci := 4) (v := .int u_7) (C := RX4) (T := TX4) (N := 7) hx hb hts iX4_readDigits_X4 hown hG.1 hP 0 rfl rfl 4 (by decide) (hts _ fX4_readDigits_2) (fun _ h9 => h9) rfl dX4_readDigits_37 ?_
            refine lv_iconst (v := 1) hx hb dX4_readDigits_40 (by decide) ?_
            refine lv_iadd hx hb dX4_readDigits_41 ?_
            refine va_put (D := D) (ci := 4) (v := .int (u_7 + (1 : Int32))) (ty := .int) (C := RX4) (T := TX4) (N := 7) hx hb hts iX4_readDigits_X4 tyX4 tyX4_ok nmX4 hown hG.1 hP hD hS 0 rfl rfl 4 (by decide) (hts _ fX4_readDigits_2) (fun _ h9 => h9) rfl (by decide +kernel) rfl rfl (Nat.le_of_ble_eq_true rfl) dX4_readDigits_42 (fun H locs hP hD hS => ?_)
            have hP : va_P D cls9 (wSC cI cB ah ab ag an length (u_7 + (1 : Int32)) letter rowColumns bytes (upd i_2 i_1.toNatClampNeg r_6) entries) H := hP
            have hD : va_D A (wSC cI cB ah ab ag an length (u_7 + (1 : Int32)) letter rowColumns bytes (upd i_2 i_1.toNatClampNeg r_6) entries) := hD
            refine lv_iinc (v := (i_1 + 1)) (lv' := [(2, .int (i_1 + 1)), (3, .int r_6), (0, .ref ah), (1, .int a0)]) hx hb dX4_readDigits_45 hl (k := 3) rfl rfl (by decide) rfl (fun ls hl => ?_)
            refine lv_goto (tgt := 2) hx hb dX4_readDigits_48 (by decide) ?_
            exact ih1 (i_1 + 1) (upd i_2 i_1.toNatClampNeg r_6) (u_7 + (1 : Int32)) (ht1 _ (Option.some.inj hr1).symm) H locs hP hD hS ls (lv_sub hl [2, 3, 0] rfl)
          · have hr1 := it_t c_10 hr1
            refine lv_iconst (v := 0) hx hb dX4_readDigits_26 (by decide) ?_
            have he := (hO1 _ (hv1 _ (Option.some.inj hr1).symm).symm)
            subst he
            exact hE H locs _ _ _ rfl (Or.inl rfl) dX4_readDigits_27 hP hD hS
  obtain ⟨n1, hn1⟩ := Lp_s hw1
  exact hL1 n1 (0 : Int32) digits place hn1 H locs hP hD hS ls (lv_sub hl [1, 2, 0] rfl)
abbrev rm_X4_readColumns : Room := { frames := 4, cells := 0, slots := 0, locals := 85 }
theorem fX4_readColumns_0 : Cond.initialized RX7 ∈ wsX4_readColumns := (List.mem_cons_of_mem _ (List.mem_append_left _ (List.mem_append_left _ (List.mem_of_getElem? (i := 18) rfl))))
theorem fX4_readColumns_1 : Cond.static yX7_isWithin ∈ wsX4_readColumns := (List.mem_cons_of_mem _ (List.mem_append_left _ (List.mem_append_left _ (List.mem_of_getElem? (i := 17) rfl))))
theorem iX4_readColumns_X4 : ∀ w ∈ wsX40, w ∈ wsX4_readColumns := fun _ h => (List.mem_cons_of_mem _ (List.mem_append_right _ h))
theorem fX4_readColumns_3 : Cond.fieldLink RX4 29 "PopovRows$Script" "rowColumns" "I" ∈ wsX4_readColumns := (List.mem_cons_of_mem _ (List.mem_append_left _ (List.mem_append_left _ (List.mem_of_getElem? (i := 0) rfl))))
set_option maxHeartbeats 4000000 in
set_option maxRecDepth 100000 in
theorem mtX4_readColumns (l : Launch) (D : va_G) (cI cB cR : ClassId) (ah : Nat) (ab : Nat) (ag : Nat) (an : Nat) (sz : Nat) (length : Int32) (place : Int32) (letter : Int32) (rowColumns : Int32) (bytes : Nat → Int32) (digits : Nat → Int32) (entries : Nat → Int32) (res : Int32 × Int32 × Int32 × (Nat → Int32)) (hf : fX4_readColumns length place rowColumns bytes digits = some res) : Met l yX4_readColumns wsX4_readColumns rm_X4_readColumns (qP D cI cB cR [.ref ah] (wSC cI cB ah ab ag an length place letter rowColumns bytes digits entries) sz) (qZ D res.1 (wSC cI cB ah ab ag an length place letter rowColumns bytes digits entries) (wSC cI cB ah ab ag an length res.2.1 letter res.2.2.1 bytes res.2.2.2 entries) sz) 0 0 (va_A (wSC cI cB ah ab ag an length place letter rowColumns bytes digits entries) sz) := by
  refine entZ (plainFor_of_name (by decide)) rfl (Nat.le_of_ble_eq_true rfl) ?_
  intro p e s m args below meth c Q A ls S hG hP hD hA hl hE
  obtain ⟨hx, hb, hml, hown, hts⟩ := S
  have hown : s.vm.findClass RX4 = some m.cls := hown
  have hS : va_S A s.heap s.heap [] := va_S.rf
  have hl : lv_has ls 2 [(0, .ref ah)] := hl
  have hq := hf
  unfold fX4_readColumns at hq
  obtain ⟨H, hH⟩ : ∃ H, H = s.heap := ⟨_, rfl⟩
  obtain ⟨locs, hlo⟩ : ∃ L : List Loc, L = [] := ⟨_, rfl⟩
  have hP : va_P D cls9 (wSC cI cB ah ab ag an length place letter rowColumns bytes digits entries) H := hH ▸ hP
  have hS : va_S A s.heap H locs := by rw [hH, hlo]; exact hS
  suffices hg : W p l e rm_X4_readColumns s m args below meth c H locs 0 0 Q (F0 m 0 ls []) by rw [hH, hlo] at hg; exact hg
  refine lv_aload_n hx hb dX4_readColumns_0 rfl (lv_at hl 0 rfl) ?_
  obtain ⟨v_4, hq_3, hk⟩ := bd2_s hq
  obtain ⟨r_1, u_2⟩ := v_4
  have hq := hk _ _ rfl
  refine callIA (gV (rest := []) ⟨hx, hb, hml, hown, hts⟩ hG hP hD 0 4 rfl rfl (mtX4_digitHere l D cI cB cR ah ab ag an H.size length place letter rowColumns bytes digits entries (r_1, u_2) hq_3) (cwV 0 hts gX4_readColumns_X4_digitHere rfl rfl rfl ⟨rfl, hd_X4_digitHere⟩ ⟨Nat.le_of_ble_eq_true rfl, Nat.le_of_ble_eq_true rfl⟩) rfl hl.1 rfl (Nat.le_of_ble_eq_true rfl) dX4_readColumns_1) hD hS hA (fun H locs hP hD hS => ?_)
  have hP : va_P D cls9 (wSC cI cB ah ab ag an length u_2 letter rowColumns bytes digits entries) H := hP
  have hD : va_D A (wSC cI cB ah ab ag an length u_2 letter rowColumns bytes digits entries) := hD
  refine lv_istore_n (lv' := [(1, .int r_1), (0, .ref ah)]) hx hb dX4_readColumns_4 rfl hl (by decide) rfl (fun ls hl => ?_)
  refine lv_iload_n hx hb dX4_readColumns_5 rfl (lv_at hl 0 rfl) ?_
  refine lv_iconst (v := 1) hx hb dX4_readColumns_6 (by decide) ?_
  refine lv_iconst (v := 3) hx hb dX4_readColumns_7 (by decide) ?_
  refine callZ0 (gSN (rest := []) ⟨hx, hb, hml, hown, hts⟩ hG vaP0 (vaD0 (A := A)) (mtX7_isWithin l D cI cB cR H.size r_1 (1 : Int32) (3 : Int32) _ rfl) (va_cnB (host := "PopovRows") 3 hts gX4_readColumns_X7_isWithin_n66 rfl rfl rfl (hG.2 _ nl_22) (hts _ fX4_readColumns_0) hd_X7_isWithin ⟨Nat.le_of_ble_eq_true rfl, Nat.le_of_ble_eq_true rfl⟩) (hts _ fX4_readColumns_1) rfl hl.1 rfl (Nat.le_of_ble_eq_true rfl) dX4_readColumns_8) hP hS hA (fun H locs z_5 hP hS => ?_)
  refine lv_if_ne (tgt := 16) hx hb dX4_readColumns_11 (by decide) (fun c_6 => ?_) (fun c_6 => ?_)
  · have hq := it_f c_6 hq
    refine lv_aload_n hx hb dX4_readColumns_16 rfl (lv_at hl 1 rfl) ?_
    refine lv_iload_n hx hb dX4_readColumns_17 rfl (lv_at hl 0 rfl) ?_
    refine va_put (D := D) (ci := 4) (v := .int r_1) (ty := .int) (C := RX4) (T := TX4) (N := 7) hx hb hts iX4_readColumns_X4 tyX4 tyX4_ok nmX4 hown hG.1 hP hD hS 0 rfl rfl 6 (by decide) (hts _ fX4_readColumns_3) (fun _ h9 => h9) rfl (by decide +kernel) rfl rfl (Nat.le_of_ble_eq_true rfl) dX4_readColumns_18 (fun H locs hP hD hS => ?_)
    have hP : va_P D cls9 (wSC cI cB ah ab ag an length u_2 letter r_1 bytes digits entries) H := hP
    have hD : va_D A (wSC cI cB ah ab ag an length u_2 letter r_1 bytes digits entries) := hD
    refine lv_aload_n hx hb dX4_readColumns_21 rfl (lv_at hl 1 rfl) ?_
    refine lv_iconst (v := 1) hx hb dX4_readColumns_22 (by decide) ?_
    obtain ⟨v_11, hq_10, hk⟩ := bd3_s hq
    obtain ⟨r_7, u_8, u_9⟩ := v_11
    have hq := hk _ _ _ rfl
    refine callZA (gV (rest := []) ⟨hx, hb, hml, hown, hts⟩ hG hP hD 0 4 rfl rfl (mtX4_readDigits l D cI cB cR ah ab ag an H.size length u_2 letter r_1 bytes digits entries (1 : Int32) (r_7, u_8, u_9) hq_10) (cwV 1 hts gX4_readColumns_X4_readDigits rfl rfl rfl ⟨rfl, hd_X4_readDigits⟩ ⟨Nat.le_of_ble_eq_true rfl, Nat.le_of_ble_eq_true rfl⟩) rfl hl.1 rfl (Nat.le_of_ble_eq_true rfl) dX4_readColumns_23) hD hS hA (fun H locs z_12 hP hD hS => ?_)
    have hP : va_P D cls9 (wSC cI cB ah ab ag an length u_8 letter r_1 bytes u_9 entries) H := hP
    have hD : va_D A (wSC cI cB ah ab ag an length u_8 letter r_1 bytes u_9 entries) := hD
    have he := Option.some.inj hq
    subst he
    exact hE H locs _ _ _ rfl z_12 dX4_readColumns_26 hP hD hS
  · have hq := it_t c_6 hq
    refine lv_iconst (v := 0) hx hb dX4_readColumns_14 (by decide) ?_
    have he := Option.some.inj hq
    subst he
    exact hE H locs _ _ _ rfl (Or.inl rfl) dX4_readColumns_15 hP hD hS
abbrev rm_X4_accept : Room := { frames := 2, cells := 0, slots := 0, locals := 41 }
theorem iX4_accept_X4 : ∀ w ∈ wsX40, w ∈ wsX4_accept := fun _ h => (List.mem_cons_of_mem _ (List.mem_append_right _ h))
theorem fX4_accept_1 : Cond.fieldLink RX4 26 "PopovRows$Script" "place" "I" ∈ wsX4_accept := (List.mem_cons_of_mem _ (List.mem_append_left _ (List.mem_of_getElem? (i := 0) rfl)))
set_option maxHeartbeats 4000000 in
set_option maxRecDepth 100000 in
theorem mtX4_accept (l : Launch) (D : va_G) (cI cB cR : ClassId) (ah : Nat) (ab : Nat) (ag : Nat) (an : Nat) (sz : Nat) (length : Int32) (place : Int32) (letter : Int32) (rowColumns : Int32) (bytes : Nat → Int32) (digits : Nat → Int32) (entries : Nat → Int32) (a0 : Int32) (res : Int32 × Int32) (hf : fX4_accept length place bytes a0 = some res) : Met l yX4_accept wsX4_accept rm_X4_accept (qP D cI cB cR [.ref ah, .int a0] (wSC cI cB ah ab ag an length place letter rowColumns bytes digits entries) sz) (qZ D res.1 (wSC cI cB ah ab ag an length place letter rowColumns bytes digits entries) (wSC cI cB ah ab ag an length res.2 letter rowColumns bytes digits entries) sz) 0 0 (va_A (wSC cI cB ah ab ag an length place letter rowColumns bytes digits entries) sz) := by
  refine entZ (plainFor_of_name (by decide)) rfl (Nat.le_of_ble_eq_true rfl) ?_
  intro p e s m args below meth c Q A ls S hG hP hD hA hl hE
  obtain ⟨hx, hb, hml, hown, hts⟩ := S
  have hown : s.vm.findClass RX4 = some m.cls := hown
  have hS : va_S A s.heap s.heap [] := va_S.rf
  have hl : lv_has ls 2 [(0, .ref ah), (1, .int a0)] := hl
  have hq := hf
  unfold fX4_accept at hq
  obtain ⟨H, hH⟩ : ∃ H, H = s.heap := ⟨_, rfl⟩
  obtain ⟨locs, hlo⟩ : ∃ L : List Loc, L = [] := ⟨_, rfl⟩
  have hP : va_P D cls9 (wSC cI cB ah ab ag an length place letter rowColumns bytes digits entries) H := hH ▸ hP
  have hS : va_S A s.heap H locs := by rw [hH, hlo]; exact hS
  suffices hg : W p l e rm_X4_accept s m args below meth c H locs 0 0 Q (F0 m 0 ls []) by rw [hH, hlo] at hg; exact hg
  refine lv_aload_n hx hb dX4_accept_0 rfl (lv_at hl 0 rfl) ?_
  obtain ⟨v_3, hq_2, hk⟩ := bd1_s hq
  obtain ⟨u_1, rfl⟩ : ∃ y, y = v_3 := ⟨_, rfl⟩
  have hq := hk _ rfl
  refine callVA (gV (rest := []) ⟨hx, hb, hml, hown, hts⟩ hG hP hD 0 4 rfl rfl (mtX4_skipBlanks l D cI cB cR ah ab ag an H.size length place letter rowColumns bytes digits entries u_1 hq_2) (cwV 0 hts gX4_accept_X4_skipBlanks rfl rfl rfl ⟨rfl, hd_X4_skipBlanks⟩ ⟨Nat.le_of_ble_eq_true rfl, Nat.le_of_ble_eq_true rfl⟩) rfl hl.1 rfl (Nat.le_of_ble_eq_true rfl) dX4_accept_1) hD hS hA (fun H locs hP hD hS => ?_)
  have hP : va_P D cls9 (wSC cI cB ah ab ag an length u_1 letter rowColumns bytes digits entries) H := hP
  have hD : va_D A (wSC cI cB ah ab ag an length u_1 letter rowColumns bytes digits entries) := hD
  refine lv_aload_n hx hb dX4_accept_4 rfl (lv_at hl 0 rfl) ?_
  obtain ⟨v_6, hq_5, hk⟩ := bd1_s hq
  obtain ⟨r_4, rfl⟩ : ∃ y, y = v_6 := ⟨_, rfl⟩
  have hq := hk _ rfl
  refine callIA (gV (rest := []) ⟨hx, hb, hml, hown, hts⟩ hG hP hD 0 4 rfl rfl (mtX4_byteHere l D cI cB cR ah ab ag an H.size length u_1 letter rowColumns bytes digits entries r_4 hq_5) (cwV 0 hts gX4_accept_X4_byteHere rfl rfl rfl ⟨rfl, hd_X4_byteHere⟩ ⟨Nat.le_of_ble_eq_true rfl, Nat.le_of_ble_eq_true rfl⟩) rfl hl.1 rfl (Nat.le_of_ble_eq_true rfl) dX4_accept_5) hD hS hA (fun H locs hP hD hS => ?_)
  have hP : va_P D cls9 (wSC cI cB ah ab ag an length u_1 letter rowColumns bytes digits entries) H := hP
  have hD : va_D A (wSC cI cB ah ab ag an length u_1 letter rowColumns bytes digits entries) := hD
  refine lv_iload_n hx hb dX4_accept_8 rfl (lv_at hl 1 rfl) ?_
  refine lv_icmp_eq (tgt := 14) hx hb dX4_accept_9 (by decide) (fun c_7 => ?_) (fun c_7 => ?_)
  · have hq := it_t c_7 hq
    refine lv_aload_n hx hb dX4_accept_14 rfl (lv_at hl 0 rfl) ?_
    refine lv_dup hx hb dX4_accept_15 rfl ?_
    refine va_get (D := D) (ci := 4) (v := .int u_1) (C := RX4) (T := TX4) (N := 7) hx hb hts iX4_accept_X4 hown hG.1 hP 0 rfl rfl 4 (by decide) (hts _ fX4_accept_1) (fun _ h9 => h9) rfl dX4_accept_16 ?_
    refine lv_iconst (v := 1) hx hb dX4_accept_19 (by decide) ?_
    refine lv_iadd hx hb dX4_accept_20 ?_
    refine va_put (D := D) (ci := 4) (v := .int (u_1 + (1 : Int32))) (ty := .int) (C := RX4) (T := TX4) (N := 7) hx hb hts iX4_accept_X4 tyX4 tyX4_ok nmX4 hown hG.1 hP hD hS 0 rfl rfl 4 (by decide) (hts _ fX4_accept_1) (fun _ h9 => h9) rfl (by decide +kernel) rfl rfl (Nat.le_of_ble_eq_true rfl) dX4_accept_21 (fun H locs hP hD hS => ?_)
    have hP : va_P D cls9 (wSC cI cB ah ab ag an length (u_1 + (1 : Int32)) letter rowColumns bytes digits entries) H := hP
    have hD : va_D A (wSC cI cB ah ab ag an length (u_1 + (1 : Int32)) letter rowColumns bytes digits entries) := hD
    refine lv_iconst (v := 1) hx hb dX4_accept_24 (by decide) ?_
    have he := Option.some.inj hq
    subst he
    exact hE H locs _ _ _ rfl (Or.inr rfl) dX4_accept_25 hP hD hS
  · have hq := it_f c_7 hq
    refine lv_iconst (v := 0) hx hb dX4_accept_12 (by decide) ?_
    have he := Option.some.inj hq
    subst he
    exact hE H locs _ _ _ rfl (Or.inl rfl) dX4_accept_13 hP hD hS
abbrev rm_X7_isPrime : Room := { frames := 0, cells := 0, slots := 0, locals := 0 }
set_option maxHeartbeats 4000000 in
set_option maxRecDepth 100000 in
theorem mtX7_isPrime (l : Launch) (D : va_G) (cI cB cR : ClassId) (sz : Nat) (a0 : Int32) (res : Int32) (hf : fX7_isPrime a0 = some res) : Met l yX7_isPrime wsX7_isPrime rm_X7_isPrime (qP D cI cB cR [.int a0] ([] : va_W) sz) (qZ D res ([] : va_W) ([] : va_W) sz) 0 0 (va_A ([] : va_W) sz) := by
  refine entZ (plainFor_of_name (by decide)) rfl (Nat.le_of_ble_eq_true rfl) ?_
  intro p e s m args below meth c Q A ls S hG hP hD hA hl hE
  obtain ⟨hx, hb, hml, hown, hts⟩ := S
  have hown : s.vm.findClass RX7 = some m.cls := hown
  have hS : va_S A s.heap s.heap [] := va_S.rf
  have hl : lv_has ls 1 [(0, .int a0)] := hl
  have hq := hf
  unfold fX7_isPrime at hq
  obtain ⟨H, hH⟩ : ∃ H, H = s.heap := ⟨_, rfl⟩
  obtain ⟨locs, hlo⟩ : ∃ L : List Loc, L = [] := ⟨_, rfl⟩
  have hP : va_P D cls9 ([] : va_W) H := hH ▸ hP
  have hS : va_S A s.heap H locs := by rw [hH, hlo]; exact hS
  suffices hg : W p l e rm_X7_isPrime s m args below meth c H locs 0 0 Q (F0 m 0 ls []) by rw [hH, hlo] at hg; exact hg
  refine lv_iload_n hx hb dX7_isPrime_0 rfl (lv_at hl 0 rfl) ?_
  refine lv_iconst (v := 2) hx hb dX7_isPrime_1 (by decide) ?_
  obtain ⟨v1, hj1, hk1⟩ := bd1_s hq
  have hJ1 : ∀ (j_5 : Int32), v1 = j_5 → (j_5 = 0 ∨ j_5 = 1) → ∀ (H : Heap) (locs : List Loc), va_P D cls9 ([] : va_W) H → va_D A ([] : va_W) → va_S A s.heap H locs → ∀ (ls : Array Slot), lv_has ls 1 [] → W p l e rm_X7_isPrime s m args below meth c H locs 0 0 Q (F0 m 26 ls [.int j_5]) := by
    intro j_5 hq zj_5 H locs hP hD hS ls hl
    have hq := hk1 _ hq
    have he := Option.some.inj hq
    subst he
    exact hE H locs _ _ _ rfl zj_5 dX7_isPrime_26 hP hD hS
  refine lv_icmp_eq (tgt := 21) hx hb dX7_isPrime_2 (by decide) (fun c_1 => ?_) (fun c_1 => ?_)
  · have hj1 := it_t c_1 hj1
    refine lv_iconst (v := 1) hx hb dX7_isPrime_21 (by decide) ?_
    refine lv_goto (tgt := 26) hx hb dX7_isPrime_22 (by decide) ?_
    exact hJ1 (1 : Int32) (Option.some.inj hj1).symm (Or.inr rfl) H locs hP hD hS ls (lv_sub hl [] rfl)
  · have hj1 := it_f c_1 hj1
    refine lv_iload_n hx hb dX7_isPrime_5 rfl (lv_at hl 0 rfl) ?_
    refine lv_iconst (v := 3) hx hb dX7_isPrime_6 (by decide) ?_
    refine lv_icmp_eq (tgt := 21) hx hb dX7_isPrime_7 (by decide) (fun c_2 => ?_) (fun c_2 => ?_)
    · have hj1 := it_t c_2 hj1
      refine lv_iconst (v := 1) hx hb dX7_isPrime_21 (by decide) ?_
      refine lv_goto (tgt := 26) hx hb dX7_isPrime_22 (by decide) ?_
      exact hJ1 (1 : Int32) (Option.some.inj hj1).symm (Or.inr rfl) H locs hP hD hS ls (lv_sub hl [] rfl)
    · have hj1 := it_f c_2 hj1
      refine lv_iload_n hx hb dX7_isPrime_10 rfl (lv_at hl 0 rfl) ?_
      refine lv_iconst (v := 5) hx hb dX7_isPrime_11 (by decide) ?_
      refine lv_icmp_eq (tgt := 21) hx hb dX7_isPrime_12 (by decide) (fun c_3 => ?_) (fun c_3 => ?_)
      · have hj1 := it_t c_3 hj1
        refine lv_iconst (v := 1) hx hb dX7_isPrime_21 (by decide) ?_
        refine lv_goto (tgt := 26) hx hb dX7_isPrime_22 (by decide) ?_
        exact hJ1 (1 : Int32) (Option.some.inj hj1).symm (Or.inr rfl) H locs hP hD hS ls (lv_sub hl [] rfl)
      · have hj1 := it_f c_3 hj1
        refine lv_iload_n hx hb dX7_isPrime_15 rfl (lv_at hl 0 rfl) ?_
        refine lv_bipush (v := 7) hx hb dX7_isPrime_16 (by decide) ?_
        refine lv_icmp_ne (tgt := 25) hx hb dX7_isPrime_18 (by decide) (fun c_4 => ?_) (fun c_4 => ?_)
        · have hj1 := it_f c_4 hj1
          refine lv_iconst (v := 0) hx hb dX7_isPrime_25 (by decide) ?_
          exact hJ1 (0 : Int32) (Option.some.inj hj1).symm (Or.inl rfl) H locs hP hD hS ls (lv_sub hl [] rfl)
        · have hj1 := it_t c_4 hj1
          refine lv_iconst (v := 1) hx hb dX7_isPrime_21 (by decide) ?_
          refine lv_goto (tgt := 26) hx hb dX7_isPrime_22 (by decide) ?_
          exact hJ1 (1 : Int32) (Option.some.inj hj1).symm (Or.inr rfl) H locs hP hD hS ls (lv_sub hl [] rfl)
abbrev rm_X4_addToEntry : Room := { frames := 2, cells := 0, slots := 0, locals := 45 }
theorem iX4_addToEntry_X4 : ∀ w ∈ wsX40, w ∈ wsX4_addToEntry := fun _ h => (List.mem_cons_of_mem _ (List.mem_append_right _ h))
theorem fX4_addToEntry_1 : Cond.fieldLink RX4 19 "PopovRows$Script" "entries" "[I" ∈ wsX4_addToEntry := (List.mem_cons_of_mem _ (List.mem_append_left _ (List.mem_of_getElem? (i := 0) rfl)))
set_option maxHeartbeats 4000000 in
set_option maxRecDepth 100000 in
theorem mtX4_addToEntry (l : Launch) (D : va_G) (cI cB cR : ClassId) (ah : Nat) (ab : Nat) (ag : Nat) (an : Nat) (sz : Nat) (length : Int32) (place : Int32) (letter : Int32) (rowColumns : Int32) (bytes : Nat → Int32) (digits : Nat → Int32) (entries : Nat → Int32) (a0 : Int32) (a1 : Int32) (a2 : Int32) (res : Nat → Int32) (hf : fX4_addToEntry entries a0 a1 a2 = some res) : Met l yX4_addToEntry wsX4_addToEntry rm_X4_addToEntry (qP D cI cB cR [.ref ah, .int a0, .int a1, .int a2] (wSC cI cB ah ab ag an length place letter rowColumns bytes digits entries) sz) (qV D (wSC cI cB ah ab ag an length place letter rowColumns bytes digits entries) (wSC cI cB ah ab ag an length place letter rowColumns bytes digits res) sz) 0 0 (va_A (wSC cI cB ah ab ag an length place letter rowColumns bytes digits entries) sz) := by
  refine entV (plainFor_of_name (by decide)) rfl (Nat.le_of_ble_eq_true rfl) ?_
  intro p e s m args below meth c Q A ls S hG hP hD hA hl hE
  obtain ⟨hx, hb, hml, hown, hts⟩ := S
  have hown : s.vm.findClass RX4 = some m.cls := hown
  have hS : va_S A s.heap s.heap [] := va_S.rf
  have hl : lv_has ls 5 [(0, .ref ah), (1, .int a0), (2, .int a1), (3, .int a2)] := hl
  have hq := hf
  unfold fX4_addToEntry at hq
  obtain ⟨H, hH⟩ : ∃ H, H = s.heap := ⟨_, rfl⟩
  obtain ⟨locs, hlo⟩ : ∃ L : List Loc, L = [] := ⟨_, rfl⟩
  have hP : va_P D cls9 (wSC cI cB ah ab ag an length place letter rowColumns bytes digits entries) H := hH ▸ hP
  have hS : va_S A s.heap H locs := by rw [hH, hlo]; exact hS
  suffices hg : W p l e rm_X4_addToEntry s m args below meth c H locs 0 0 Q (F0 m 0 ls []) by rw [hH, hlo] at hg; exact hg
  refine lv_aload_n hx hb dX4_addToEntry_0 rfl (lv_at hl 0 rfl) ?_
  refine lv_iload_n hx hb dX4_addToEntry_1 rfl (lv_at hl 1 rfl) ?_
  refine lv_iload_n hx hb dX4_addToEntry_2 rfl (lv_at hl 2 rfl) ?_
  obtain ⟨v_3, hq_2, hk⟩ := bd1_s hq
  obtain ⟨r_1, rfl⟩ : ∃ y, y = v_3 := ⟨_, rfl⟩
  have hq := hk _ rfl
  refine callIA (gV (rest := []) ⟨hx, hb, hml, hown, hts⟩ hG hP hD 0 4 rfl rfl (mtX4_entryIndex l D cI cB cR ah ab ag an H.size length place letter rowColumns bytes digits entries a0 a1 r_1 hq_2) (cwV 2 hts gX4_addToEntry_X4_entryIndex rfl rfl rfl ⟨rfl, hd_X4_entryIndex⟩ ⟨Nat.le_of_ble_eq_true rfl, Nat.le_of_ble_eq_true rfl⟩) rfl hl.1 rfl (Nat.le_of_ble_eq_true rfl) dX4_addToEntry_3) hD hS hA (fun H locs hP hD hS => ?_)
  have hP : va_P D cls9 (wSC cI cB ah ab ag an length place letter rowColumns bytes digits entries) H := hP
  have hD : va_D A (wSC cI cB ah ab ag an length place letter rowColumns bytes digits entries) := hD
  refine lv_istore (lv' := [(4, .int r_1), (0, .ref ah), (1, .int a0), (2, .int a1), (3, .int a2)]) hx hb dX4_addToEntry_6 hl (by decide) rfl (fun ls hl => ?_)
  refine lv_iload hx hb dX4_addToEntry_8 (lv_at hl 0 rfl) ?_
  refine lv_if_lt (tgt := 34) hx hb dX4_addToEntry_10 (by decide) (fun c_4 => ?_) (fun c_4 => ?_)
  · have hq := it_t c_4 hq
    have he := Option.some.inj hq
    subst he
    exact hE H locs _ _ dX4_addToEntry_34 hP hD hS
  · have hq := it_f c_4 hq
    refine lv_iload hx hb dX4_addToEntry_13 (lv_at hl 0 rfl) ?_
    refine lv_aload_n hx hb dX4_addToEntry_15 rfl (lv_at hl 1 rfl) ?_
    refine va_get (D := D) (ci := 4) (v := .ref an) (C := RX4) (T := TX4) (N := 7) hx hb hts iX4_addToEntry_X4 hown hG.1 hP 0 rfl rfl 2 (by decide) (hts _ fX4_addToEntry_1) (fun _ h9 => h9) rfl dX4_addToEntry_16 ?_
    refine va_alen (v := (21 : Int32)) hx hb hG.1 hP 3 0 rfl rfl rfl dX4_addToEntry_19 ?_
    refine lv_icmp_ge (tgt := 34) hx hb dX4_addToEntry_20 (by decide) (fun c_5 => ?_) (fun c_5 => ?_)
    · have hq := it_t c_5 hq
      have he := Option.some.inj hq
      subst he
      exact hE H locs _ _ dX4_addToEntry_34 hP hD hS
    · have hq := it_f c_5 hq
      refine lv_aload_n hx hb dX4_addToEntry_23 rfl (lv_at hl 1 rfl) ?_
      refine va_get (D := D) (ci := 4) (v := .ref an) (C := RX4) (T := TX4) (N := 7) hx hb hts iX4_addToEntry_X4 hown hG.1 hP 0 rfl rfl 2 (by decide) (hts _ fX4_addToEntry_1) (fun _ h9 => h9) rfl dX4_addToEntry_24 ?_
      refine lv_iload hx hb dX4_addToEntry_27 (lv_at hl 0 rfl) ?_
      refine lv_dup2_11 hx hb dX4_addToEntry_29 rfl rfl ?_
      obtain ⟨h_6, hq⟩ := gd_s hq
      refine va_iald hx hb hG.1 hP 3 0 rfl rfl h_6 dX4_addToEntry_30 ?_
      refine lv_iload_n hx hb dX4_addToEntry_31 rfl (lv_at hl 4 rfl) ?_
      refine lv_iadd hx hb dX4_addToEntry_32 ?_
      obtain ⟨h_7, hq⟩ := gd_s hq
      refine va_iast hx hb hG.1 hP hD hS 3 0 rfl rfl h_7 dX4_addToEntry_33 (fun H locs hP hD hS => ?_)
      have hP : va_P D cls9 (wSC cI cB ah ab ag an length place letter rowColumns bytes digits (upd entries r_1.toNatClampNeg ((entries r_1.toNatClampNeg) + a2))) H := hP
      have hD : va_D A (wSC cI cB ah ab ag an length place letter rowColumns bytes digits (upd entries r_1.toNatClampNeg ((entries r_1.toNatClampNeg) + a2))) := hD
      have he := Option.some.inj hq
      subst he
      exact hE H locs _ _ dX4_addToEntry_34 hP hD hS
abbrev rm_X4_readPower : Room := { frames := 1, cells := 0, slots := 0, locals := 22 }
theorem fX4_readPower_0 : Cond.initialized RX7 ∈ wsX4_readPower := (List.mem_cons_of_mem _ (List.mem_append_left _ (List.mem_of_getElem? (i := 9) rfl)))
theorem fX4_readPower_1 : Cond.static yX7_isWithin ∈ wsX4_readPower := (List.mem_cons_of_mem _ (List.mem_append_left _ (List.mem_of_getElem? (i := 8) rfl)))
theorem iX4_readPower_X4 : ∀ w ∈ wsX40, w ∈ wsX4_readPower := fun _ h => (List.mem_cons_of_mem _ (List.mem_append_right _ h))
theorem fX4_readPower_3 : Cond.fieldLink RX4 26 "PopovRows$Script" "place" "I" ∈ wsX4_readPower := (List.mem_cons_of_mem _ (List.mem_append_left _ (List.mem_of_getElem? (i := 0) rfl)))
set_option maxHeartbeats 4000000 in
set_option maxRecDepth 100000 in
theorem mtX4_readPower (l : Launch) (D : va_G) (cI cB cR : ClassId) (ah : Nat) (ab : Nat) (ag : Nat) (an : Nat) (sz : Nat) (length : Int32) (place : Int32) (letter : Int32) (rowColumns : Int32) (bytes : Nat → Int32) (digits : Nat → Int32) (entries : Nat → Int32) (res : Int32 × Int32) (hf : fX4_readPower length place bytes = some res) : Met l yX4_readPower wsX4_readPower rm_X4_readPower (qP D cI cB cR [.ref ah] (wSC cI cB ah ab ag an length place letter rowColumns bytes digits entries) sz) (qI D res.1 (wSC cI cB ah ab ag an length place letter rowColumns bytes digits entries) (wSC cI cB ah ab ag an length res.2 letter rowColumns bytes digits entries) sz) 0 0 (va_A (wSC cI cB ah ab ag an length place letter rowColumns bytes digits entries) sz) := by
  refine entI (plainFor_of_name (by decide)) rfl (Nat.le_of_ble_eq_true rfl) ?_
  intro p e s m args below meth c Q A ls S hG hP hD hA hl hE
  obtain ⟨hx, hb, hml, hown, hts⟩ := S
  have hown : s.vm.findClass RX4 = some m.cls := hown
  have hS : va_S A s.heap s.heap [] := va_S.rf
  have hl : lv_has ls 2 [(0, .ref ah)] := hl
  have hq := hf
  unfold fX4_readPower at hq
  obtain ⟨H, hH⟩ : ∃ H, H = s.heap := ⟨_, rfl⟩
  obtain ⟨locs, hlo⟩ : ∃ L : List Loc, L = [] := ⟨_, rfl⟩
  have hP : va_P D cls9 (wSC cI cB ah ab ag an length place letter rowColumns bytes digits entries) H := hH ▸ hP
  have hS : va_S A s.heap H locs := by rw [hH, hlo]; exact hS
  suffices hg : W p l e rm_X4_readPower s m args below meth c H locs 0 0 Q (F0 m 0 ls []) by rw [hH, hlo] at hg; exact hg
  refine lv_aload_n hx hb dX4_readPower_0 rfl (lv_at hl 0 rfl) ?_
  obtain ⟨v_3, hq_2, hk⟩ := bd1_s hq
  obtain ⟨r_1, rfl⟩ : ∃ y, y = v_3 := ⟨_, rfl⟩
  have hq := hk _ rfl
  refine callIA (gV (rest := []) ⟨hx, hb, hml, hown, hts⟩ hG hP hD 0 4 rfl rfl (mtX4_byteHere l D cI cB cR ah ab ag an H.size length place letter rowColumns bytes digits entries r_1 hq_2) (cwV 0 hts gX4_readPower_X4_byteHere rfl rfl rfl ⟨rfl, hd_X4_byteHere⟩ ⟨Nat.le_of_ble_eq_true rfl, Nat.le_of_ble_eq_true rfl⟩) rfl hl.1 rfl (Nat.le_of_ble_eq_true rfl) dX4_readPower_1) hD hS hA (fun H locs hP hD hS => ?_)
  have hP : va_P D cls9 (wSC cI cB ah ab ag an length place letter rowColumns bytes digits entries) H := hP
  have hD : va_D A (wSC cI cB ah ab ag an length place letter rowColumns bytes digits entries) := hD
  refine lv_istore_n (lv' := [(1, .int r_1), (0, .ref ah)]) hx hb dX4_readPower_4 rfl hl (by decide) rfl (fun ls hl => ?_)
  refine lv_iload_n hx hb dX4_readPower_5 rfl (lv_at hl 0 rfl) ?_
  refine lv_bipush (v := 49) hx hb dX4_readPower_6 (by decide) ?_
  refine lv_bipush (v := 54) hx hb dX4_readPower_8 (by decide) ?_
  refine callZ0 (gSN (rest := []) ⟨hx, hb, hml, hown, hts⟩ hG vaP0 (vaD0 (A := A)) (mtX7_isWithin l D cI cB cR H.size r_1 (49 : Int32) (54 : Int32) _ rfl) (va_cnB (host := "PopovRows") 3 hts gX4_readPower_X7_isWithin_n66 rfl rfl rfl (hG.2 _ nl_22) (hts _ fX4_readPower_0) hd_X7_isWithin ⟨Nat.le_of_ble_eq_true rfl, Nat.le_of_ble_eq_true rfl⟩) (hts _ fX4_readPower_1) rfl hl.1 rfl (Nat.le_of_ble_eq_true rfl) dX4_readPower_10) hP hS hA (fun H locs z_4 hP hS => ?_)
  refine lv_if_ne (tgt := 18) hx hb dX4_readPower_13 (by decide) (fun c_5 => ?_) (fun c_5 => ?_)
  · have hq := it_f c_5 hq
    refine lv_aload_n hx hb dX4_readPower_18 rfl (lv_at hl 1 rfl) ?_
    refine lv_dup hx hb dX4_readPower_19 rfl ?_
    refine va_get (D := D) (ci := 4) (v := .int place) (C := RX4) (T := TX4) (N := 7) hx hb hts iX4_readPower_X4 hown hG.1 hP 0 rfl rfl 4 (by decide) (hts _ fX4_readPower_3) (fun _ h9 => h9) rfl dX4_readPower_20 ?_
    refine lv_iconst (v := 1) hx hb dX4_readPower_23 (by decide) ?_
    refine lv_iadd hx hb dX4_readPower_24 ?_
    refine va_put (D := D) (ci := 4) (v := .int (place + (1 : Int32))) (ty := .int) (C := RX4) (T := TX4) (N := 7) hx hb hts iX4_readPower_X4 tyX4 tyX4_ok nmX4 hown hG.1 hP hD hS 0 rfl rfl 4 (by decide) (hts _ fX4_readPower_3) (fun _ h9 => h9) rfl (by decide +kernel) rfl rfl (Nat.le_of_ble_eq_true rfl) dX4_readPower_25 (fun H locs hP hD hS => ?_)
    have hP : va_P D cls9 (wSC cI cB ah ab ag an length (place + (1 : Int32)) letter rowColumns bytes digits entries) H := hP
    have hD : va_D A (wSC cI cB ah ab ag an length (place + (1 : Int32)) letter rowColumns bytes digits entries) := hD
    refine lv_iload_n hx hb dX4_readPower_28 rfl (lv_at hl 0 rfl) ?_
    refine lv_bipush (v := 48) hx hb dX4_readPower_29 (by decide) ?_
    refine lv_isub hx hb dX4_readPower_31 ?_
    have he := Option.some.inj hq
    subst he
    exact hE H locs _ _ _ rfl dX4_readPower_32 hP hD hS
  · have hq := it_t c_5 hq
    refine lv_iconst (v := 1) hx hb dX4_readPower_16 (by decide) ?_
    have he := Option.some.inj hq
    subst he
    exact hE H locs _ _ _ rfl dX4_readPower_17 hP hD hS
abbrev rm_X4_readTerm : Room := { frames := 3, cells := 0, slots := 0, locals := 69 }
theorem iX4_readTerm_X4 : ∀ w ∈ wsX40, w ∈ wsX4_readTerm := fun _ h => (List.mem_cons_of_mem _ (List.mem_append_right _ h))
theorem fX4_readTerm_1 : Cond.fieldLink RX4 26 "PopovRows$Script" "place" "I" ∈ wsX4_readTerm := (List.mem_cons_of_mem _ (List.mem_append_left _ (List.mem_append_left _ (List.mem_of_getElem? (i := 0) rfl))))
set_option maxHeartbeats 4000000 in
set_option maxRecDepth 100000 in
theorem mtX4_readTerm (l : Launch) (D : va_G) (cI cB cR : ClassId) (ah : Nat) (ab : Nat) (ag : Nat) (an : Nat) (sz : Nat) (length : Int32) (place : Int32) (letter : Int32) (rowColumns : Int32) (bytes : Nat → Int32) (digits : Nat → Int32) (entries : Nat → Int32) (a0 : Int32) (res : Int32 × Int32 × (Nat → Int32)) (hf : fX4_readTerm length place bytes entries a0 = some res) : Met l yX4_readTerm wsX4_readTerm rm_X4_readTerm (qP D cI cB cR [.ref ah, .int a0] (wSC cI cB ah ab ag an length place letter rowColumns bytes digits entries) sz) (qZ D res.1 (wSC cI cB ah ab ag an length place letter rowColumns bytes digits entries) (wSC cI cB ah ab ag an length res.2.1 letter rowColumns bytes digits res.2.2) sz) 0 0 (va_A (wSC cI cB ah ab ag an length place letter rowColumns bytes digits entries) sz) := by
  refine entZ (plainFor_of_name (by decide)) rfl (Nat.le_of_ble_eq_true rfl) ?_
  intro p e s m args below meth c Q A ls S hG hP hD hA hl hE
  obtain ⟨hx, hb, hml, hown, hts⟩ := S
  have hown : s.vm.findClass RX4 = some m.cls := hown
  have hS : va_S A s.heap s.heap [] := va_S.rf
  have hl : lv_has ls 4 [(0, .ref ah), (1, .int a0)] := hl
  have hq := hf
  unfold fX4_readTerm at hq
  obtain ⟨H, hH⟩ : ∃ H, H = s.heap := ⟨_, rfl⟩
  obtain ⟨locs, hlo⟩ : ∃ L : List Loc, L = [] := ⟨_, rfl⟩
  have hP : va_P D cls9 (wSC cI cB ah ab ag an length place letter rowColumns bytes digits entries) H := hH ▸ hP
  have hS : va_S A s.heap H locs := by rw [hH, hlo]; exact hS
  suffices hg : W p l e rm_X4_readTerm s m args below meth c H locs 0 0 Q (F0 m 0 ls []) by rw [hH, hlo] at hg; exact hg
  refine lv_aload_n hx hb dX4_readTerm_0 rfl (lv_at hl 0 rfl) ?_
  obtain ⟨v_4, hq_3, hk⟩ := bd2_s hq
  obtain ⟨r_1, u_2⟩ := v_4
  have hq := hk _ _ rfl
  refine callIA (gV (rest := []) ⟨hx, hb, hml, hown, hts⟩ hG hP hD 0 4 rfl rfl (mtX4_digitHere l D cI cB cR ah ab ag an H.size length place letter rowColumns bytes digits entries (r_1, u_2) hq_3) (cwV 0 hts gX4_readTerm_X4_digitHere rfl rfl rfl ⟨rfl, hd_X4_digitHere⟩ ⟨Nat.le_of_ble_eq_true rfl, Nat.le_of_ble_eq_true rfl⟩) rfl hl.1 rfl (Nat.le_of_ble_eq_true rfl) dX4_readTerm_1) hD hS hA (fun H locs hP hD hS => ?_)
  have hP : va_P D cls9 (wSC cI cB ah ab ag an length u_2 letter rowColumns bytes digits entries) H := hP
  have hD : va_D A (wSC cI cB ah ab ag an length u_2 letter rowColumns bytes digits entries) := hD
  refine lv_istore_n (lv' := [(2, .int r_1), (0, .ref ah), (1, .int a0)]) hx hb dX4_readTerm_4 rfl hl (by decide) rfl (fun ls hl => ?_)
  refine lv_iload_n hx hb dX4_readTerm_5 rfl (lv_at hl 0 rfl) ?_
  refine lv_iconst (v := -1) hx hb dX4_readTerm_6 (by decide) ?_
  obtain ⟨v1, hj1, hk1⟩ := bd1_s hq
  have hJ1 : ∀ (j_6 : Int32), v1 = j_6 → ∀ (H : Heap) (locs : List Loc), va_P D cls9 (wSC cI cB ah ab ag an length j_6 letter rowColumns bytes digits entries) H → va_D A (wSC cI cB ah ab ag an length j_6 letter rowColumns bytes digits entries) → va_S A s.heap H locs → ∀ (ls : Array Slot), lv_has ls 4 [(0, .ref ah), (1, .int a0), (2, .int r_1)] → W p l e rm_X4_readTerm s m args below meth c H locs 0 0 Q (F0 m 20 ls []) := by
    intro j_6 hq H locs hP hD hS ls hl
    have hq := hk1 _ hq
    refine lv_iconst (v := 0) hx hb dX4_readTerm_20 (by decide) ?_
    refine lv_istore_n (lv' := [(3, .int (0 : Int32)), (0, .ref ah), (1, .int a0), (2, .int r_1)]) hx hb dX4_readTerm_21 rfl hl (by decide) rfl (fun ls hl => ?_)
    refine lv_aload_n hx hb dX4_readTerm_22 rfl (lv_at hl 1 rfl) ?_
    refine lv_bipush (v := 120) hx hb dX4_readTerm_23 (by decide) ?_
    obtain ⟨v_10, hq_9, hk⟩ := bd2_s hq
    obtain ⟨r_7, u_8⟩ := v_10
    have hq := hk _ _ rfl
    refine callZA (gV (rest := []) ⟨hx, hb, hml, hown, hts⟩ hG hP hD 0 4 rfl rfl (mtX4_accept l D cI cB cR ah ab ag an H.size length j_6 letter rowColumns bytes digits entries (120 : Int32) (r_7, u_8) hq_9) (cwV 1 hts gX4_readTerm_X4_accept rfl rfl rfl ⟨rfl, hd_X4_accept⟩ ⟨Nat.le_of_ble_eq_true rfl, Nat.le_of_ble_eq_true rfl⟩) rfl hl.1 rfl (Nat.le_of_ble_eq_true rfl) dX4_readTerm_25) hD hS hA (fun H locs z_11 hP hD hS => ?_)
    have hP : va_P D cls9 (wSC cI cB ah ab ag an length u_8 letter rowColumns bytes digits entries) H := hP
    have hD : va_D A (wSC cI cB ah ab ag an length u_8 letter rowColumns bytes digits entries) := hD
    refine lv_if_eq (tgt := 39) hx hb dX4_readTerm_28 (by decide) (fun c_12 => ?_) (fun c_12 => ?_)
    · have hq := it_t c_12 hq
      refine lv_iload_n hx hb dX4_readTerm_39 rfl (lv_at hl 3 rfl) ?_
      refine lv_iconst (v := -1) hx hb dX4_readTerm_40 (by decide) ?_
      refine lv_icmp_ne (tgt := 46) hx hb dX4_readTerm_41 (by decide) (fun c_13 => ?_) (fun c_13 => ?_)
      · have hq := it_f c_13 hq
        refine lv_aload_n hx hb dX4_readTerm_46 rfl (lv_at hl 1 rfl) ?_
        refine lv_iload_n hx hb dX4_readTerm_47 rfl (lv_at hl 2 rfl) ?_
        refine lv_iload_n hx hb dX4_readTerm_48 rfl (lv_at hl 0 rfl) ?_
        refine lv_iload_n hx hb dX4_readTerm_49 rfl (lv_at hl 3 rfl) ?_
        refine lv_iconst (v := -1) hx hb dX4_readTerm_50 (by decide) ?_
        refine lv_icmp_ne (tgt := 58) hx hb dX4_readTerm_51 (by decide) (fun c_14 => ?_) (fun c_14 => ?_)
        · have hq := it_f c_14 hq
          refine lv_iload_n hx hb dX4_readTerm_58 rfl (lv_at hl 3 rfl) ?_
          obtain ⟨v_17, hq_16, hk⟩ := bd1_s hq
          obtain ⟨u_15, rfl⟩ : ∃ y, y = v_17 := ⟨_, rfl⟩
          have hq := hk _ rfl
          refine callVA (gV (rest := []) ⟨hx, hb, hml, hown, hts⟩ hG hP hD 0 4 rfl rfl (mtX4_addToEntry l D cI cB cR ah ab ag an H.size length u_8 letter rowColumns bytes digits entries a0 (0 : Int32) r_1 u_15 hq_16) (cwV 3 hts gX4_readTerm_X4_addToEntry rfl rfl rfl ⟨rfl, hd_X4_addToEntry⟩ ⟨Nat.le_of_ble_eq_true rfl, Nat.le_of_ble_eq_true rfl⟩) rfl hl.1 rfl (Nat.le_of_ble_eq_true rfl) dX4_readTerm_59) hD hS hA (fun H locs hP hD hS => ?_)
          have hP : va_P D cls9 (wSC cI cB ah ab ag an length u_8 letter rowColumns bytes digits u_15) H := hP
          have hD : va_D A (wSC cI cB ah ab ag an length u_8 letter rowColumns bytes digits u_15) := hD
          refine lv_iconst (v := 1) hx hb dX4_readTerm_62 (by decide) ?_
          have he := Option.some.inj hq
          subst he
          exact hE H locs _ _ _ rfl (Or.inr rfl) dX4_readTerm_63 hP hD hS
        · have hq := it_t c_14 hq
          refine lv_iconst (v := 1) hx hb dX4_readTerm_54 (by decide) ?_
          refine lv_goto (tgt := 59) hx hb dX4_readTerm_55 (by decide) ?_
          obtain ⟨v_20, hq_19, hk⟩ := bd1_s hq
          obtain ⟨u_18, rfl⟩ : ∃ y, y = v_20 := ⟨_, rfl⟩
          have hq := hk _ rfl
          refine callVA (gV (rest := []) ⟨hx, hb, hml, hown, hts⟩ hG hP hD 0 4 rfl rfl (mtX4_addToEntry l D cI cB cR ah ab ag an H.size length u_8 letter rowColumns bytes digits entries a0 (0 : Int32) (1 : Int32) u_18 hq_19) (cwV 3 hts gX4_readTerm_X4_addToEntry rfl rfl rfl ⟨rfl, hd_X4_addToEntry⟩ ⟨Nat.le_of_ble_eq_true rfl, Nat.le_of_ble_eq_true rfl⟩) rfl hl.1 rfl (Nat.le_of_ble_eq_true rfl) dX4_readTerm_59) hD hS hA (fun H locs hP hD hS => ?_)
          have hP : va_P D cls9 (wSC cI cB ah ab ag an length u_8 letter rowColumns bytes digits u_18) H := hP
          have hD : va_D A (wSC cI cB ah ab ag an length u_8 letter rowColumns bytes digits u_18) := hD
          refine lv_iconst (v := 1) hx hb dX4_readTerm_62 (by decide) ?_
          have he := Option.some.inj hq
          subst he
          exact hE H locs _ _ _ rfl (Or.inr rfl) dX4_readTerm_63 hP hD hS
      · have hq := it_t c_13 hq
        refine lv_iconst (v := 0) hx hb dX4_readTerm_44 (by decide) ?_
        have he := Option.some.inj hq
        subst he
        exact hE H locs _ _ _ rfl (Or.inl rfl) dX4_readTerm_45 hP hD hS
    · have hq := it_f c_12 hq
      refine lv_aload_n hx hb dX4_readTerm_31 rfl (lv_at hl 1 rfl) ?_
      obtain ⟨v_24, hq_23, hk⟩ := bd2_s hq
      obtain ⟨r_21, u_22⟩ := v_24
      have hq := hk _ _ rfl
      refine callIA (gV (rest := []) ⟨hx, hb, hml, hown, hts⟩ hG hP hD 0 4 rfl rfl (mtX4_readPower l D cI cB cR ah ab ag an H.size length u_8 letter rowColumns bytes digits entries (r_21, u_22) hq_23) (cwV 0 hts gX4_readTerm_X4_readPower rfl rfl rfl ⟨rfl, hd_X4_readPower⟩ ⟨Nat.le_of_ble_eq_true rfl, Nat.le_of_ble_eq_true rfl⟩) rfl hl.1 rfl (Nat.le_of_ble_eq_true rfl) dX4_readTerm_32) hD hS hA (fun H locs hP hD hS => ?_)
      have hP : va_P D cls9 (wSC cI cB ah ab ag an length u_22 letter rowColumns bytes digits entries) H := hP
      have hD : va_D A (wSC cI cB ah ab ag an length u_22 letter rowColumns bytes digits entries) := hD
      refine lv_istore_n (lv' := [(3, .int r_21), (0, .ref ah), (1, .int a0), (2, .int r_1)]) hx hb dX4_readTerm_35 rfl hl (by decide) rfl (fun ls hl => ?_)
      refine lv_goto (tgt := 46) hx hb dX4_readTerm_36 (by decide) ?_
      refine lv_aload_n hx hb dX4_readTerm_46 rfl (lv_at hl 1 rfl) ?_
      refine lv_iload_n hx hb dX4_readTerm_47 rfl (lv_at hl 2 rfl) ?_
      refine lv_iload_n hx hb dX4_readTerm_48 rfl (lv_at hl 0 rfl) ?_
      refine lv_iload_n hx hb dX4_readTerm_49 rfl (lv_at hl 3 rfl) ?_
      refine lv_iconst (v := -1) hx hb dX4_readTerm_50 (by decide) ?_
      refine lv_icmp_ne (tgt := 58) hx hb dX4_readTerm_51 (by decide) (fun c_25 => ?_) (fun c_25 => ?_)
      · have hq := it_f c_25 hq
        refine lv_iload_n hx hb dX4_readTerm_58 rfl (lv_at hl 3 rfl) ?_
        obtain ⟨v_28, hq_27, hk⟩ := bd1_s hq
        obtain ⟨u_26, rfl⟩ : ∃ y, y = v_28 := ⟨_, rfl⟩
        have hq := hk _ rfl
        refine callVA (gV (rest := []) ⟨hx, hb, hml, hown, hts⟩ hG hP hD 0 4 rfl rfl (mtX4_addToEntry l D cI cB cR ah ab ag an H.size length u_22 letter rowColumns bytes digits entries a0 r_21 r_1 u_26 hq_27) (cwV 3 hts gX4_readTerm_X4_addToEntry rfl rfl rfl ⟨rfl, hd_X4_addToEntry⟩ ⟨Nat.le_of_ble_eq_true rfl, Nat.le_of_ble_eq_true rfl⟩) rfl hl.1 rfl (Nat.le_of_ble_eq_true rfl) dX4_readTerm_59) hD hS hA (fun H locs hP hD hS => ?_)
        have hP : va_P D cls9 (wSC cI cB ah ab ag an length u_22 letter rowColumns bytes digits u_26) H := hP
        have hD : va_D A (wSC cI cB ah ab ag an length u_22 letter rowColumns bytes digits u_26) := hD
        refine lv_iconst (v := 1) hx hb dX4_readTerm_62 (by decide) ?_
        have he := Option.some.inj hq
        subst he
        exact hE H locs _ _ _ rfl (Or.inr rfl) dX4_readTerm_63 hP hD hS
      · have hq := it_t c_25 hq
        refine lv_iconst (v := 1) hx hb dX4_readTerm_54 (by decide) ?_
        refine lv_goto (tgt := 59) hx hb dX4_readTerm_55 (by decide) ?_
        obtain ⟨v_31, hq_30, hk⟩ := bd1_s hq
        obtain ⟨u_29, rfl⟩ : ∃ y, y = v_31 := ⟨_, rfl⟩
        have hq := hk _ rfl
        refine callVA (gV (rest := []) ⟨hx, hb, hml, hown, hts⟩ hG hP hD 0 4 rfl rfl (mtX4_addToEntry l D cI cB cR ah ab ag an H.size length u_22 letter rowColumns bytes digits entries a0 r_21 (1 : Int32) u_29 hq_30) (cwV 3 hts gX4_readTerm_X4_addToEntry rfl rfl rfl ⟨rfl, hd_X4_addToEntry⟩ ⟨Nat.le_of_ble_eq_true rfl, Nat.le_of_ble_eq_true rfl⟩) rfl hl.1 rfl (Nat.le_of_ble_eq_true rfl) dX4_readTerm_59) hD hS hA (fun H locs hP hD hS => ?_)
        have hP : va_P D cls9 (wSC cI cB ah ab ag an length u_22 letter rowColumns bytes digits u_29) H := hP
        have hD : va_D A (wSC cI cB ah ab ag an length u_22 letter rowColumns bytes digits u_29) := hD
        refine lv_iconst (v := 1) hx hb dX4_readTerm_62 (by decide) ?_
        have he := Option.some.inj hq
        subst he
        exact hE H locs _ _ _ rfl (Or.inr rfl) dX4_readTerm_63 hP hD hS
  refine lv_icmp_eq (tgt := 20) hx hb dX4_readTerm_7 (by decide) (fun c_5 => ?_) (fun c_5 => ?_)
  · have hj1 := it_t c_5 hj1
    exact hJ1 u_2 (Option.some.inj hj1).symm  H locs hP hD hS ls (lv_sub hl [1, 2, 0] rfl)
  · have hj1 := it_f c_5 hj1
    refine lv_aload_n hx hb dX4_readTerm_10 rfl (lv_at hl 1 rfl) ?_
    refine lv_dup hx hb dX4_readTerm_11 rfl ?_
    refine va_get (D := D) (ci := 4) (v := .int u_2) (C := RX4) (T := TX4) (N := 7) hx hb hts iX4_readTerm_X4 hown hG.1 hP 0 rfl rfl 4 (by decide) (hts _ fX4_readTerm_1) (fun _ h9 => h9) rfl dX4_readTerm_12 ?_
    refine lv_iconst (v := 1) hx hb dX4_readTerm_15 (by decide) ?_
    refine lv_iadd hx hb dX4_readTerm_16 ?_
    refine va_put (D := D) (ci := 4) (v := .int (u_2 + (1 : Int32))) (ty := .int) (C := RX4) (T := TX4) (N := 7) hx hb hts iX4_readTerm_X4 tyX4 tyX4_ok nmX4 hown hG.1 hP hD hS 0 rfl rfl 4 (by decide) (hts _ fX4_readTerm_1) (fun _ h9 => h9) rfl (by decide +kernel) rfl rfl (Nat.le_of_ble_eq_true rfl) dX4_readTerm_17 (fun H locs hP hD hS => ?_)
    have hP : va_P D cls9 (wSC cI cB ah ab ag an length (u_2 + (1 : Int32)) letter rowColumns bytes digits entries) H := hP
    have hD : va_D A (wSC cI cB ah ab ag an length (u_2 + (1 : Int32)) letter rowColumns bytes digits entries) := hD
    exact hJ1 (u_2 + (1 : Int32)) (Option.some.inj hj1).symm  H locs hP hD hS ls (lv_sub hl [1, 2, 0] rfl)
abbrev rm_X4_readRow : Room := { frames := 4, cells := 0, slots := 0, locals := 92 }
theorem iX4_readRow_X4 : ∀ w ∈ wsX40, w ∈ wsX4_readRow := fun _ h => (List.mem_cons_of_mem _ (List.mem_append_right _ h))
theorem fX4_readRow_1 : Cond.fieldLink RX4 19 "PopovRows$Script" "entries" "[I" ∈ wsX4_readRow := (List.mem_cons_of_mem _ (List.mem_append_left _ (List.mem_append_left _ (List.mem_of_getElem? (i := 0) rfl))))
theorem fX4_readRow_2 : Cond.fieldLink RX4 29 "PopovRows$Script" "rowColumns" "I" ∈ wsX4_readRow := (List.mem_cons_of_mem _ (List.mem_append_left _ (List.mem_append_left _ (List.mem_of_getElem? (i := 1) rfl))))
set_option maxHeartbeats 4000000 in
set_option maxRecDepth 100000 in
theorem mtX4_readRow (l : Launch) (D : va_G) (cI cB cR : ClassId) (ah : Nat) (ab : Nat) (ag : Nat) (an : Nat) (sz : Nat) (length : Int32) (place : Int32) (letter : Int32) (rowColumns : Int32) (bytes : Nat → Int32) (digits : Nat → Int32) (entries : Nat → Int32) (res : Int32 × Int32 × (Nat → Int32)) (hf : fX4_readRow length place rowColumns bytes entries = some res) : Met l yX4_readRow wsX4_readRow rm_X4_readRow (qP D cI cB cR [.ref ah] (wSC cI cB ah ab ag an length place letter rowColumns bytes digits entries) sz) (qZ D res.1 (wSC cI cB ah ab ag an length place letter rowColumns bytes digits entries) (wSC cI cB ah ab ag an length res.2.1 letter rowColumns bytes digits res.2.2) sz) 0 0 (va_A (wSC cI cB ah ab ag an length place letter rowColumns bytes digits entries) sz) := by
  refine entZ (plainFor_of_name (by decide)) rfl (Nat.le_of_ble_eq_true rfl) ?_
  intro p e s m args below meth c Q A ls S hG hP hD hA hl hE
  obtain ⟨hx, hb, hml, hown, hts⟩ := S
  have hown : s.vm.findClass RX4 = some m.cls := hown
  have hS : va_S A s.heap s.heap [] := va_S.rf
  have hl : lv_has ls 3 [(0, .ref ah)] := hl
  have hq := hf
  unfold fX4_readRow at hq
  obtain ⟨H, hH⟩ : ∃ H, H = s.heap := ⟨_, rfl⟩
  obtain ⟨locs, hlo⟩ : ∃ L : List Loc, L = [] := ⟨_, rfl⟩
  have hP : va_P D cls9 (wSC cI cB ah ab ag an length place letter rowColumns bytes digits entries) H := hH ▸ hP
  have hS : va_S A s.heap H locs := by rw [hH, hlo]; exact hS
  suffices hg : W p l e rm_X4_readRow s m args below meth c H locs 0 0 Q (F0 m 0 ls []) by rw [hH, hlo] at hg; exact hg
  refine lv_iconst (v := 0) hx hb dX4_readRow_0 (by decide) ?_
  refine lv_istore_n (lv' := [(1, .int (0 : Int32)), (0, .ref ah)]) hx hb dX4_readRow_1 rfl hl (by decide) rfl (fun ls hl => ?_)
  obtain ⟨w1, hw1, hk1⟩ := bd1_s hq
  have hX1 : ∀ (x_5 : Nat → Int32), w1 = x_5 → ∀ (H : Heap) (locs : List Loc), va_P D cls9 (wSC cI cB ah ab ag an length place letter rowColumns bytes digits x_5) H → va_D A (wSC cI cB ah ab ag an length place letter rowColumns bytes digits x_5) → va_S A s.heap H locs → ∀ (ls : Array Slot), lv_has ls 3 [(0, .ref ah)] → W p l e rm_X4_readRow s m args below meth c H locs 0 0 Q (F0 m 24 ls []) := by
    intro x_5 hq H locs hP hD hS ls hl
    have hq := hk1 _ hq
    refine lv_iconst (v := 0) hx hb dX4_readRow_24 (by decide) ?_
    refine lv_istore_n (lv' := [(1, .int (0 : Int32)), (0, .ref ah)]) hx hb dX4_readRow_25 rfl hl (by decide) rfl (fun ls hl => ?_)
    refine lv_iconst (v := 0) hx hb dX4_readRow_26 (by decide) ?_
    refine lv_istore_n (lv' := [(2, .int (0 : Int32)), (1, .int (0 : Int32)), (0, .ref ah)]) hx hb dX4_readRow_27 rfl hl (by decide) rfl (fun ls hl => ?_)
    obtain ⟨w2, hw2, hk2, hO2⟩ := bx2_s hq
    have hX2 : ∀ (x_31 : Nat → Int32) (x_32 : Int32), w2 = .inl (x_31, x_32) → ∀ (H : Heap) (locs : List Loc), va_P D cls9 (wSC cI cB ah ab ag an length x_32 letter rowColumns bytes digits x_31) H → va_D A (wSC cI cB ah ab ag an length x_32 letter rowColumns bytes digits x_31) → va_S A s.heap H locs → ∀ (ls : Array Slot), lv_has ls 3 [] → W p l e rm_X4_readRow s m args below meth c H locs 0 0 Q (F0 m 84 ls []) := by
      intro x_31 x_32 hq H locs hP hD hS ls hl
      have hq := hk2 _ _ hq
      refine lv_iconst (v := 0) hx hb dX4_readRow_84 (by decide) ?_
      have he := Option.some.inj hq
      subst he
      exact hE H locs _ _ _ rfl (Or.inl rfl) dX4_readRow_85 hP hD hS
    have hL2 : ∀ (n : Nat) (i_6 : Int32) (i_7 : Int32) (i_8 : Nat → Int32) (i_9 : Int32), lrun (fun (z : Int32 × Int32 × (Nat → Int32) × Int32) => fX4_readRow_s28 length rowColumns bytes z.1 z.2.1 z.2.2.1 z.2.2.2) n (i_6, i_7, i_8, i_9) = some w2 → ∀ (H : Heap) (locs : List Loc), va_P D cls9 (wSC cI cB ah ab ag an length i_9 letter rowColumns bytes digits i_8) H → va_D A (wSC cI cB ah ab ag an length i_9 letter rowColumns bytes digits i_8) → va_S A s.heap H locs → ∀ (ls : Array Slot), lv_has ls 3 [(0, .ref ah), (1, .int i_6), (2, .int i_7)] → W p l e rm_X4_readRow s m args below meth c H locs 0 0 Q (F0 m 28 ls []) := by
      intro n
      induction n with
      | zero => intro i_6 i_7 i_8 i_9 h; cases h
      | succ n ih2 =>
        intro i_6 i_7 i_8 i_9 hr2 H locs hP hD hS ls hl
        obtain ⟨k, v2, hk, hr2, ht2, hv2⟩ := lrun_s hr2
        cases hk
        have hr2 : fX4_readRow_s28 length rowColumns bytes i_6 i_7 i_8 i_9 = some v2 := hr2
        unfold fX4_readRow_s28 at hr2
        refine lv_iload_n hx hb dX4_readRow_28 rfl (lv_at hl 2 rfl) ?_
        refine lv_sipush (v := 150) hx hb dX4_readRow_29 (by decide) ?_
        refine lv_icmp_ge (tgt := 84) hx hb dX4_readRow_32 (by decide) (fun c_10 => ?_) (fun c_10 => ?_)
        · have hr2 := it_t c_10 hr2
          exact hX2 i_8 i_9 (hv2 _ (Option.some.inj hr2).symm).symm H locs hP hD hS ls (lv_sub hl [] rfl)
        · have hr2 := it_f c_10 hr2
          refine lv_aload_n hx hb dX4_readRow_35 rfl (lv_at hl 0 rfl) ?_
          refine lv_iload_n hx hb dX4_readRow_36 rfl (lv_at hl 1 rfl) ?_
          obtain ⟨v_15, hq_14, hk⟩ := bd3_s hr2
          obtain ⟨r_11, u_12, u_13⟩ := v_15
          have hr2 := hk _ _ _ rfl
          refine callZA (gV (rest := []) ⟨hx, hb, hml, hown, hts⟩ hG hP hD 0 4 rfl rfl (mtX4_readTerm l D cI cB cR ah ab ag an H.size length i_9 letter rowColumns bytes digits i_8 i_6 (r_11, u_12, u_13) hq_14) (cwV 1 hts gX4_readRow_X4_readTerm rfl rfl rfl ⟨rfl, hd_X4_readTerm⟩ ⟨Nat.le_of_ble_eq_true rfl, Nat.le_of_ble_eq_true rfl⟩) rfl hl.1 rfl (Nat.le_of_ble_eq_true rfl) dX4_readRow_37) hD hS hA (fun H locs z_16 hP hD hS => ?_)
          have hP : va_P D cls9 (wSC cI cB ah ab ag an length u_12 letter rowColumns bytes digits u_13) H := hP
          have hD : va_D A (wSC cI cB ah ab ag an length u_12 letter rowColumns bytes digits u_13) := hD
          refine lv_if_ne (tgt := 45) hx hb dX4_readRow_40 (by decide) (fun c_17 => ?_) (fun c_17 => ?_)
          · have hr2 := it_f c_17 hr2
            refine lv_aload_n hx hb dX4_readRow_45 rfl (lv_at hl 0 rfl) ?_
            refine lv_bipush (v := 43) hx hb dX4_readRow_46 (by decide) ?_
            obtain ⟨v_21, hq_20, hk⟩ := bd2_s hr2
            obtain ⟨r_18, u_19⟩ := v_21
            have hr2 := hk _ _ rfl
            refine callZA (gV (rest := []) ⟨hx, hb, hml, hown, hts⟩ hG hP hD 0 4 rfl rfl (mtX4_accept l D cI cB cR ah ab ag an H.size length u_12 letter rowColumns bytes digits u_13 (43 : Int32) (r_18, u_19) hq_20) (cwV 1 hts gX4_readRow_X4_accept rfl rfl rfl ⟨rfl, hd_X4_accept⟩ ⟨Nat.le_of_ble_eq_true rfl, Nat.le_of_ble_eq_true rfl⟩) rfl hl.1 rfl (Nat.le_of_ble_eq_true rfl) dX4_readRow_48) hD hS hA (fun H locs z_22 hP hD hS => ?_)
            have hP : va_P D cls9 (wSC cI cB ah ab ag an length u_19 letter rowColumns bytes digits u_13) H := hP
            have hD : va_D A (wSC cI cB ah ab ag an length u_19 letter rowColumns bytes digits u_13) := hD
            refine lv_if_ne (tgt := 78) hx hb dX4_readRow_51 (by decide) (fun c_23 => ?_) (fun c_23 => ?_)
            · have hr2 := it_f c_23 hr2
              refine lv_iinc (v := (i_7 + 1)) (lv' := [(2, .int (i_7 + 1)), (0, .ref ah), (1, .int i_6)]) hx hb dX4_readRow_78 hl (k := 2) rfl rfl (by decide) rfl (fun ls hl => ?_)
              refine lv_goto (tgt := 28) hx hb dX4_readRow_81 (by decide) ?_
              exact ih2 i_6 (i_7 + 1) u_13 u_19 (ht2 _ (Option.some.inj hr2).symm) H locs hP hD hS ls (lv_sub hl [1, 2, 0] rfl)
            · have hr2 := it_t c_23 hr2
              refine lv_iinc (v := (i_6 + 1)) (lv' := [(1, .int (i_6 + 1)), (0, .ref ah), (2, .int i_7)]) hx hb dX4_readRow_54 hl (k := 1) rfl rfl (by decide) rfl (fun ls hl => ?_)
              refine lv_iload_n hx hb dX4_readRow_57 rfl (lv_at hl 0 rfl) ?_
              refine lv_aload_n hx hb dX4_readRow_58 rfl (lv_at hl 1 rfl) ?_
              refine va_get (D := D) (ci := 4) (v := .int rowColumns) (C := RX4) (T := TX4) (N := 7) hx hb hts iX4_readRow_X4 hown hG.1 hP 0 rfl rfl 6 (by decide) (hts _ fX4_readRow_2) (fun _ h9 => h9) rfl dX4_readRow_59 ?_
              refine lv_icmp_lt (tgt := 67) hx hb dX4_readRow_62 (by decide) (fun c_24 => ?_) (fun c_24 => ?_)
              · have hr2 := it_t c_24 hr2
                refine lv_aload_n hx hb dX4_readRow_67 rfl (lv_at hl 1 rfl) ?_
                refine lv_bipush (v := 44) hx hb dX4_readRow_68 (by decide) ?_
                obtain ⟨v_28, hq_27, hk⟩ := bd2_s hr2
                obtain ⟨r_25, u_26⟩ := v_28
                have hr2 := hk _ _ rfl
                refine callZA (gV (rest := []) ⟨hx, hb, hml, hown, hts⟩ hG hP hD 0 4 rfl rfl (mtX4_accept l D cI cB cR ah ab ag an H.size length u_19 letter rowColumns bytes digits u_13 (44 : Int32) (r_25, u_26) hq_27) (cwV 1 hts gX4_readRow_X4_accept rfl rfl rfl ⟨rfl, hd_X4_accept⟩ ⟨Nat.le_of_ble_eq_true rfl, Nat.le_of_ble_eq_true rfl⟩) rfl hl.1 rfl (Nat.le_of_ble_eq_true rfl) dX4_readRow_70) hD hS hA (fun H locs z_29 hP hD hS => ?_)
                have hP : va_P D cls9 (wSC cI cB ah ab ag an length u_26 letter rowColumns bytes digits u_13) H := hP
                have hD : va_D A (wSC cI cB ah ab ag an length u_26 letter rowColumns bytes digits u_13) := hD
                refine lv_if_ne (tgt := 78) hx hb dX4_readRow_73 (by decide) (fun c_30 => ?_) (fun c_30 => ?_)
                · have hr2 := it_f c_30 hr2
                  refine lv_iinc (v := (i_7 + 1)) (lv' := [(2, .int (i_7 + 1)), (1, .int (i_6 + 1)), (0, .ref ah)]) hx hb dX4_readRow_78 hl (k := 2) rfl rfl (by decide) rfl (fun ls hl => ?_)
                  refine lv_goto (tgt := 28) hx hb dX4_readRow_81 (by decide) ?_
                  exact ih2 (i_6 + 1) (i_7 + 1) u_13 u_26 (ht2 _ (Option.some.inj hr2).symm) H locs hP hD hS ls (lv_sub hl [2, 1, 0] rfl)
                · have hr2 := it_t c_30 hr2
                  refine lv_iconst (v := 0) hx hb dX4_readRow_76 (by decide) ?_
                  have he := (hO2 _ (hv2 _ (Option.some.inj hr2).symm).symm)
                  subst he
                  exact hE H locs _ _ _ rfl (Or.inl rfl) dX4_readRow_77 hP hD hS
              · have hr2 := it_f c_24 hr2
                refine lv_iconst (v := 1) hx hb dX4_readRow_65 (by decide) ?_
                have he := (hO2 _ (hv2 _ (Option.some.inj hr2).symm).symm)
                subst he
                exact hE H locs _ _ _ rfl (Or.inr rfl) dX4_readRow_66 hP hD hS
          · have hr2 := it_t c_17 hr2
            refine lv_iconst (v := 0) hx hb dX4_readRow_43 (by decide) ?_
            have he := (hO2 _ (hv2 _ (Option.some.inj hr2).symm).symm)
            subst he
            exact hE H locs _ _ _ rfl (Or.inl rfl) dX4_readRow_44 hP hD hS
    obtain ⟨n2, hn2⟩ := Lp_s hw2
    exact hL2 n2 (0 : Int32) (0 : Int32) x_5 place hn2 H locs hP hD hS ls (lv_sub hl [2, 1, 0] rfl)
  have hL1 : ∀ (n : Nat) (i_1 : Int32) (i_2 : Nat → Int32), lrun (fun (z : Int32 × (Nat → Int32)) => fX4_readRow_s2 z.1 z.2) n (i_1, i_2) = some w1 → ∀ (H : Heap) (locs : List Loc), va_P D cls9 (wSC cI cB ah ab ag an length place letter rowColumns bytes digits i_2) H → va_D A (wSC cI cB ah ab ag an length place letter rowColumns bytes digits i_2) → va_S A s.heap H locs → ∀ (ls : Array Slot), lv_has ls 3 [(0, .ref ah), (1, .int i_1)] → W p l e rm_X4_readRow s m args below meth c H locs 0 0 Q (F0 m 2 ls []) := by
    intro n
    induction n with
    | zero => intro i_1 i_2 h; cases h
    | succ n ih1 =>
      intro i_1 i_2 hr1 H locs hP hD hS ls hl
      obtain ⟨k, v1, hk, hr1, ht1, hv1⟩ := lrun_s hr1
      cases hk
      have hr1 : fX4_readRow_s2 i_1 i_2 = some v1 := hr1
      unfold fX4_readRow_s2 at hr1
      refine lv_iload_n hx hb dX4_readRow_2 rfl (lv_at hl 1 rfl) ?_
      refine lv_aload_n hx hb dX4_readRow_3 rfl (lv_at hl 0 rfl) ?_
      refine va_get (D := D) (ci := 4) (v := .ref an) (C := RX4) (T := TX4) (N := 7) hx hb hts iX4_readRow_X4 hown hG.1 hP 0 rfl rfl 2 (by decide) (hts _ fX4_readRow_1) (fun _ h9 => h9) rfl dX4_readRow_4 ?_
      refine va_alen (v := (21 : Int32)) hx hb hG.1 hP 3 0 rfl rfl rfl dX4_readRow_7 ?_
      refine lv_icmp_ge (tgt := 24) hx hb dX4_readRow_8 (by decide) (fun c_3 => ?_) (fun c_3 => ?_)
      · have hr1 := it_t c_3 hr1
        exact hX1 i_2 (hv1 _ (Option.some.inj hr1).symm).symm H locs hP hD hS ls (lv_sub hl [0] rfl)
      · have hr1 := it_f c_3 hr1
        refine lv_aload_n hx hb dX4_readRow_11 rfl (lv_at hl 0 rfl) ?_
        refine va_get (D := D) (ci := 4) (v := .ref an) (C := RX4) (T := TX4) (N := 7) hx hb hts iX4_readRow_X4 hown hG.1 hP 0 rfl rfl 2 (by decide) (hts _ fX4_readRow_1) (fun _ h9 => h9) rfl dX4_readRow_12 ?_
        refine lv_iload_n hx hb dX4_readRow_15 rfl (lv_at hl 1 rfl) ?_
        refine lv_iconst (v := 0) hx hb dX4_readRow_16 (by decide) ?_
        obtain ⟨h_4, hr1⟩ := gd_s hr1
        refine va_iast hx hb hG.1 hP hD hS 3 0 rfl rfl h_4 dX4_readRow_17 (fun H locs hP hD hS => ?_)
        have hP : va_P D cls9 (wSC cI cB ah ab ag an length place letter rowColumns bytes digits (upd i_2 i_1.toNatClampNeg (0 : Int32))) H := hP
        have hD : va_D A (wSC cI cB ah ab ag an length place letter rowColumns bytes digits (upd i_2 i_1.toNatClampNeg (0 : Int32))) := hD
        refine lv_iinc (v := (i_1 + 1)) (lv' := [(1, .int (i_1 + 1)), (0, .ref ah)]) hx hb dX4_readRow_18 hl (k := 1) rfl rfl (by decide) rfl (fun ls hl => ?_)
        refine lv_goto (tgt := 2) hx hb dX4_readRow_21 (by decide) ?_
        exact ih1 (i_1 + 1) (upd i_2 i_1.toNatClampNeg (0 : Int32)) (ht1 _ (Option.some.inj hr1).symm) H locs hP hD hS ls (lv_sub hl [1, 0] rfl)
  obtain ⟨n1, hn1⟩ := Lp_s hw1
  exact hL1 n1 (0 : Int32) entries hn1 H locs hP hD hS ls (lv_sub hl [1, 0] rfl)
