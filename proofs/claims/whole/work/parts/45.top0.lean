abbrev rm_X1_forgetOldest : Room := { frames := 0, cells := 0, slots := 0, locals := 0 }
theorem iX1_forgetOldest_X1 : ∀ w ∈ wsX10, w ∈ wsX1_forgetOldest := fun _ h => (List.mem_cons_of_mem _ (List.mem_append_right _ h))
theorem fX1_forgetOldest_1 : Cond.fieldLink RX1 11 "PopovRows$History" "kept" "[LPopovRows$Rows;" ∈ wsX1_forgetOldest := (List.mem_cons_of_mem _ (List.mem_append_left _ (List.mem_of_getElem? (i := 0) rfl)))
theorem fX1_forgetOldest_2 : Cond.fieldLink RX1 21 "PopovRows$History" "count" "I" ∈ wsX1_forgetOldest := (List.mem_cons_of_mem _ (List.mem_append_left _ (List.mem_of_getElem? (i := 1) rfl)))
set_option maxHeartbeats 4000000 in
set_option maxRecDepth 100000 in
theorem mtX1_forgetOldest (l : Launch) (D : va_G) (cI cB cR : ClassId) (ah : Nat) (ak : Nat) (kd : Nat → Nat) (sz : Nat) (count : Int32) (g0pp : Int32) (g0columns : Int32) (g0count : Int32) (g0num : Nat → Int32) (g1pp : Int32) (g1columns : Int32) (g1count : Int32) (g1num : Nat → Int32) (g2pp : Int32) (g2columns : Int32) (g2count : Int32) (g2num : Nat → Int32) (g3pp : Int32) (g3columns : Int32) (g3count : Int32) (g3num : Nat → Int32) (g4pp : Int32) (g4columns : Int32) (g4count : Int32) (g4num : Nat → Int32) (res : Int32 × Int32 × Int32 × Int32 × (Nat → Int32) × Int32 × Int32 × Int32 × (Nat → Int32) × Int32 × Int32 × Int32 × (Nat → Int32) × Int32 × Int32 × Int32 × (Nat → Int32) × Int32 × Int32 × Int32 × (Nat → Int32)) (hf : fX1_forgetOldest count g0pp g0columns g0count g0num g1pp g1columns g1count g1num g2pp g2columns g2count g2num g3pp g3columns g3count g3num g4pp g4columns g4count g4num = some res) : Met l yX1_forgetOldest wsX1_forgetOldest rm_X1_forgetOldest (qP D cI cB cR [.ref ah] (wHI cI cR ah ak kd count g0pp g0columns g0count g0num g1pp g1columns g1count g1num g2pp g2columns g2count g2num g3pp g3columns g3count g3num g4pp g4columns g4count g4num) sz) (qV D (wHI cI cR ah ak kd count g0pp g0columns g0count g0num g1pp g1columns g1count g1num g2pp g2columns g2count g2num g3pp g3columns g3count g3num g4pp g4columns g4count g4num) (wHI cI cR ah ak (rot5 kd) res.1 res.2.1 res.2.2.1 res.2.2.2.1 res.2.2.2.2.1 res.2.2.2.2.2.1 res.2.2.2.2.2.2.1 res.2.2.2.2.2.2.2.1 res.2.2.2.2.2.2.2.2.1 res.2.2.2.2.2.2.2.2.2.1 res.2.2.2.2.2.2.2.2.2.2.1 res.2.2.2.2.2.2.2.2.2.2.2.1 res.2.2.2.2.2.2.2.2.2.2.2.2.1 res.2.2.2.2.2.2.2.2.2.2.2.2.2.1 res.2.2.2.2.2.2.2.2.2.2.2.2.2.2.1 res.2.2.2.2.2.2.2.2.2.2.2.2.2.2.2.1 res.2.2.2.2.2.2.2.2.2.2.2.2.2.2.2.2.1 res.2.2.2.2.2.2.2.2.2.2.2.2.2.2.2.2.2.1 res.2.2.2.2.2.2.2.2.2.2.2.2.2.2.2.2.2.2.1 res.2.2.2.2.2.2.2.2.2.2.2.2.2.2.2.2.2.2.2.1 res.2.2.2.2.2.2.2.2.2.2.2.2.2.2.2.2.2.2.2.2) sz) 0 0 (va_A (wHI cI cR ah ak kd count g0pp g0columns g0count g0num g1pp g1columns g1count g1num g2pp g2columns g2count g2num g3pp g3columns g3count g3num g4pp g4columns g4count g4num) sz) := by
  refine entV (plainFor_of_name (by decide)) rfl (Nat.le_of_ble_eq_true rfl) ?_
  intro p e s m args below meth c Q A ls S hG hP hD hA hl hE
  obtain ⟨hx, hb, hml, hown, hts⟩ := S
  have hown : s.vm.findClass RX1 = some m.cls := hown
  have hS : va_S A s.heap s.heap [] := va_S.rf
  have hl : lv_has ls 3 [(0, .ref ah)] := hl
  have hq := hf
  unfold fX1_forgetOldest at hq
  obtain ⟨H, hH⟩ : ∃ H, H = s.heap := ⟨_, rfl⟩
  obtain ⟨locs, hlo⟩ : ∃ L : List Loc, L = [] := ⟨_, rfl⟩
  have hP : va_P D cls9 (wHI cI cR ah ak kd count g0pp g0columns g0count g0num g1pp g1columns g1count g1num g2pp g2columns g2count g2num g3pp g3columns g3count g3num g4pp g4columns g4count g4num) H := hH ▸ hP
  have hS : va_S A s.heap H locs := by rw [hH, hlo]; exact hS
  suffices hg : W p l e rm_X1_forgetOldest s m args below meth c H locs 0 0 Q (F0 m 0 ls []) by rw [hH, hlo] at hg; exact hg
  refine lv_aload_n hx hb dX1_forgetOldest_0 rfl (lv_at hl 0 rfl) ?_
  refine va_get (D := D) (ci := 1) (v := .ref ak) (C := RX1) (T := TX1) (N := 2) hx hb hts iX1_forgetOldest_X1 hown hG.1 hP 0 rfl rfl 0 (by decide) (hts _ fX1_forgetOldest_1) (fun _ h9 => h9) rfl dX1_forgetOldest_1 ?_
  refine lv_iconst (v := 0) hx hb dX1_forgetOldest_4 (by decide) ?_
  refine va_aldq hx hb hG.1 hP 1 2 rfl rfl (by unfold vp_in; decide) dX1_forgetOldest_5 ?_
  refine lv_asv (y := .ref (kd 0)) rfl ?_
  refine lv_astore_n (lv' := [(1, .ref (kd 0)), (0, .ref ah)]) hx hb dX1_forgetOldest_6 rfl hl (by decide) rfl (fun ls hl => ?_)
  refine lv_iconst (v := 0) hx hb dX1_forgetOldest_7 (by decide) ?_
  refine lv_istore_n (lv' := [(2, .int (0 : Int32)), (1, .ref (kd 0)), (0, .ref ah)]) hx hb dX1_forgetOldest_8 rfl hl (by decide) rfl (fun ls hl => ?_)
  refine lv_iload_n hx hb dX1_forgetOldest_9 rfl (lv_at hl 0 rfl) ?_
  refine lv_iconst (v := 1) hx hb dX1_forgetOldest_10 (by decide) ?_
  refine lv_iadd hx hb dX1_forgetOldest_11 ?_
  refine lv_asi (y := (1 : Int32)) (by decide) ?_
  refine lv_aload_n hx hb dX1_forgetOldest_12 rfl (lv_at hl 2 rfl) ?_
  refine va_get (D := D) (ci := 1) (v := .ref ak) (C := RX1) (T := TX1) (N := 2) hx hb hts iX1_forgetOldest_X1 hown hG.1 hP 0 rfl rfl 0 (by decide) (hts _ fX1_forgetOldest_1) (fun _ h9 => h9) rfl dX1_forgetOldest_13 ?_
  refine va_alen (v := (5 : Int32)) hx hb hG.1 hP 1 2 rfl rfl rfl dX1_forgetOldest_16 ?_
  refine lv_icmp_ge (tgt := 40) hx hb dX1_forgetOldest_17 (by decide) (fun c9 => absurd c9 (by decide)) (fun _ => ?_)
  refine lv_aload_n hx hb dX1_forgetOldest_20 rfl (lv_at hl 2 rfl) ?_
  refine va_get (D := D) (ci := 1) (v := .ref ak) (C := RX1) (T := TX1) (N := 2) hx hb hts iX1_forgetOldest_X1 hown hG.1 hP 0 rfl rfl 0 (by decide) (hts _ fX1_forgetOldest_1) (fun _ h9 => h9) rfl dX1_forgetOldest_21 ?_
  refine lv_iload_n hx hb dX1_forgetOldest_24 rfl (lv_at hl 0 rfl) ?_
  refine lv_aload_n hx hb dX1_forgetOldest_25 rfl (lv_at hl 2 rfl) ?_
  refine va_get (D := D) (ci := 1) (v := .ref ak) (C := RX1) (T := TX1) (N := 2) hx hb hts iX1_forgetOldest_X1 hown hG.1 hP 0 rfl rfl 0 (by decide) (hts _ fX1_forgetOldest_1) (fun _ h9 => h9) rfl dX1_forgetOldest_26 ?_
  refine lv_iload_n hx hb dX1_forgetOldest_29 rfl (lv_at hl 0 rfl) ?_
  refine lv_iconst (v := 1) hx hb dX1_forgetOldest_30 (by decide) ?_
  refine lv_iadd hx hb dX1_forgetOldest_31 ?_
  refine lv_asi (y := (1 : Int32)) (by decide) ?_
  refine va_aldq hx hb hG.1 hP 1 2 rfl rfl (by unfold vp_in; decide) dX1_forgetOldest_32 ?_
  refine lv_asv (y := .ref (kd 2)) rfl ?_
  refine va_astq hx hb hG.1 hP hD hS 1 2 4 3 (r := (RX3, TX3, 7)) rfl rfl rfl rfl (by unfold vp_in; decide) dX1_forgetOldest_33 (fun H locs hP hD hS => ?_)
  have eU := kf5_u0 (kd 0) (kd 2) (kd 4) (kd 6) (kd 8) (kd 2)
  have hP : va_P D cls9 [(ah, .inr (1, [.ref ak, .int count])), (ak, .inl (cR, 5, .inr (.inr (.inr (.inr (kf5 (kd 2) (kd 2) (kd 4) (kd 6) (kd 8))))))), (kd 0, .inr (3, [.int (5 : Int32), .int (3 : Int32), .int (7 : Int32), .ref (kd 1), .int g0pp, .int g0columns, .int g0count])), (kd 1, .inl (cI, 105, .inl g0num)), (kd 2, .inr (3, [.int (5 : Int32), .int (3 : Int32), .int (7 : Int32), .ref (kd 3), .int g1pp, .int g1columns, .int g1count])), (kd 3, .inl (cI, 105, .inl g1num)), (kd 4, .inr (3, [.int (5 : Int32), .int (3 : Int32), .int (7 : Int32), .ref (kd 5), .int g2pp, .int g2columns, .int g2count])), (kd 5, .inl (cI, 105, .inl g2num)), (kd 6, .inr (3, [.int (5 : Int32), .int (3 : Int32), .int (7 : Int32), .ref (kd 7), .int g3pp, .int g3columns, .int g3count])), (kd 7, .inl (cI, 105, .inl g3num)), (kd 8, .inr (3, [.int (5 : Int32), .int (3 : Int32), .int (7 : Int32), .ref (kd 9), .int g4pp, .int g4columns, .int g4count])), (kd 9, .inl (cI, 105, .inl g4num))] H := by rw [← eU]; exact hP
  have hD : va_D A [(ah, .inr (1, [.ref ak, .int count])), (ak, .inl (cR, 5, .inr (.inr (.inr (.inr (kf5 (kd 2) (kd 2) (kd 4) (kd 6) (kd 8))))))), (kd 0, .inr (3, [.int (5 : Int32), .int (3 : Int32), .int (7 : Int32), .ref (kd 1), .int g0pp, .int g0columns, .int g0count])), (kd 1, .inl (cI, 105, .inl g0num)), (kd 2, .inr (3, [.int (5 : Int32), .int (3 : Int32), .int (7 : Int32), .ref (kd 3), .int g1pp, .int g1columns, .int g1count])), (kd 3, .inl (cI, 105, .inl g1num)), (kd 4, .inr (3, [.int (5 : Int32), .int (3 : Int32), .int (7 : Int32), .ref (kd 5), .int g2pp, .int g2columns, .int g2count])), (kd 5, .inl (cI, 105, .inl g2num)), (kd 6, .inr (3, [.int (5 : Int32), .int (3 : Int32), .int (7 : Int32), .ref (kd 7), .int g3pp, .int g3columns, .int g3count])), (kd 7, .inl (cI, 105, .inl g3num)), (kd 8, .inr (3, [.int (5 : Int32), .int (3 : Int32), .int (7 : Int32), .ref (kd 9), .int g4pp, .int g4columns, .int g4count])), (kd 9, .inl (cI, 105, .inl g4num))] := by rw [← eU]; exact hD
  refine lv_iinc (v := (1 : Int32)) (lv' := [(2, .int (1 : Int32)), (1, .ref (kd 0)), (0, .ref ah)]) hx hb dX1_forgetOldest_34 hl (k := 0) rfl (by decide) (by decide) rfl (fun ls hl => ?_)
  refine lv_goto (tgt := 9) hx hb dX1_forgetOldest_37 (by decide) ?_
  refine lv_iload_n hx hb dX1_forgetOldest_9 rfl (lv_at hl 0 rfl) ?_
  refine lv_iconst (v := 1) hx hb dX1_forgetOldest_10 (by decide) ?_
  refine lv_iadd hx hb dX1_forgetOldest_11 ?_
  refine lv_asi (y := (2 : Int32)) (by decide) ?_
  refine lv_aload_n hx hb dX1_forgetOldest_12 rfl (lv_at hl 2 rfl) ?_
  refine va_get (D := D) (ci := 1) (v := .ref ak) (C := RX1) (T := TX1) (N := 2) hx hb hts iX1_forgetOldest_X1 hown hG.1 hP 0 rfl rfl 0 (by decide) (hts _ fX1_forgetOldest_1) (fun _ h9 => h9) rfl dX1_forgetOldest_13 ?_
  refine va_alen (v := (5 : Int32)) hx hb hG.1 hP 1 2 rfl rfl rfl dX1_forgetOldest_16 ?_
  refine lv_icmp_ge (tgt := 40) hx hb dX1_forgetOldest_17 (by decide) (fun c9 => absurd c9 (by decide)) (fun _ => ?_)
  refine lv_aload_n hx hb dX1_forgetOldest_20 rfl (lv_at hl 2 rfl) ?_
  refine va_get (D := D) (ci := 1) (v := .ref ak) (C := RX1) (T := TX1) (N := 2) hx hb hts iX1_forgetOldest_X1 hown hG.1 hP 0 rfl rfl 0 (by decide) (hts _ fX1_forgetOldest_1) (fun _ h9 => h9) rfl dX1_forgetOldest_21 ?_
  refine lv_iload_n hx hb dX1_forgetOldest_24 rfl (lv_at hl 0 rfl) ?_
  refine lv_aload_n hx hb dX1_forgetOldest_25 rfl (lv_at hl 2 rfl) ?_
  refine va_get (D := D) (ci := 1) (v := .ref ak) (C := RX1) (T := TX1) (N := 2) hx hb hts iX1_forgetOldest_X1 hown hG.1 hP 0 rfl rfl 0 (by decide) (hts _ fX1_forgetOldest_1) (fun _ h9 => h9) rfl dX1_forgetOldest_26 ?_
  refine lv_iload_n hx hb dX1_forgetOldest_29 rfl (lv_at hl 0 rfl) ?_
  refine lv_iconst (v := 1) hx hb dX1_forgetOldest_30 (by decide) ?_
  refine lv_iadd hx hb dX1_forgetOldest_31 ?_
  refine lv_asi (y := (2 : Int32)) (by decide) ?_
  refine va_aldq hx hb hG.1 hP 1 2 rfl rfl (by unfold vp_in; decide) dX1_forgetOldest_32 ?_
  refine lv_asv (y := .ref (kd 4)) rfl ?_
  refine va_astq hx hb hG.1 hP hD hS 1 2 6 3 (r := (RX3, TX3, 7)) rfl rfl rfl rfl (by unfold vp_in; decide) dX1_forgetOldest_33 (fun H locs hP hD hS => ?_)
  have eU := kf5_u1 (kd 2) (kd 2) (kd 4) (kd 6) (kd 8) (kd 4)
  have hP : va_P D cls9 [(ah, .inr (1, [.ref ak, .int count])), (ak, .inl (cR, 5, .inr (.inr (.inr (.inr (kf5 (kd 2) (kd 4) (kd 4) (kd 6) (kd 8))))))), (kd 0, .inr (3, [.int (5 : Int32), .int (3 : Int32), .int (7 : Int32), .ref (kd 1), .int g0pp, .int g0columns, .int g0count])), (kd 1, .inl (cI, 105, .inl g0num)), (kd 2, .inr (3, [.int (5 : Int32), .int (3 : Int32), .int (7 : Int32), .ref (kd 3), .int g1pp, .int g1columns, .int g1count])), (kd 3, .inl (cI, 105, .inl g1num)), (kd 4, .inr (3, [.int (5 : Int32), .int (3 : Int32), .int (7 : Int32), .ref (kd 5), .int g2pp, .int g2columns, .int g2count])), (kd 5, .inl (cI, 105, .inl g2num)), (kd 6, .inr (3, [.int (5 : Int32), .int (3 : Int32), .int (7 : Int32), .ref (kd 7), .int g3pp, .int g3columns, .int g3count])), (kd 7, .inl (cI, 105, .inl g3num)), (kd 8, .inr (3, [.int (5 : Int32), .int (3 : Int32), .int (7 : Int32), .ref (kd 9), .int g4pp, .int g4columns, .int g4count])), (kd 9, .inl (cI, 105, .inl g4num))] H := by rw [← eU]; exact hP
  have hD : va_D A [(ah, .inr (1, [.ref ak, .int count])), (ak, .inl (cR, 5, .inr (.inr (.inr (.inr (kf5 (kd 2) (kd 4) (kd 4) (kd 6) (kd 8))))))), (kd 0, .inr (3, [.int (5 : Int32), .int (3 : Int32), .int (7 : Int32), .ref (kd 1), .int g0pp, .int g0columns, .int g0count])), (kd 1, .inl (cI, 105, .inl g0num)), (kd 2, .inr (3, [.int (5 : Int32), .int (3 : Int32), .int (7 : Int32), .ref (kd 3), .int g1pp, .int g1columns, .int g1count])), (kd 3, .inl (cI, 105, .inl g1num)), (kd 4, .inr (3, [.int (5 : Int32), .int (3 : Int32), .int (7 : Int32), .ref (kd 5), .int g2pp, .int g2columns, .int g2count])), (kd 5, .inl (cI, 105, .inl g2num)), (kd 6, .inr (3, [.int (5 : Int32), .int (3 : Int32), .int (7 : Int32), .ref (kd 7), .int g3pp, .int g3columns, .int g3count])), (kd 7, .inl (cI, 105, .inl g3num)), (kd 8, .inr (3, [.int (5 : Int32), .int (3 : Int32), .int (7 : Int32), .ref (kd 9), .int g4pp, .int g4columns, .int g4count])), (kd 9, .inl (cI, 105, .inl g4num))] := by rw [← eU]; exact hD
  refine lv_iinc (v := (2 : Int32)) (lv' := [(2, .int (2 : Int32)), (1, .ref (kd 0)), (0, .ref ah)]) hx hb dX1_forgetOldest_34 hl (k := 0) rfl (by decide) (by decide) rfl (fun ls hl => ?_)
  refine lv_goto (tgt := 9) hx hb dX1_forgetOldest_37 (by decide) ?_
  refine lv_iload_n hx hb dX1_forgetOldest_9 rfl (lv_at hl 0 rfl) ?_
  refine lv_iconst (v := 1) hx hb dX1_forgetOldest_10 (by decide) ?_
  refine lv_iadd hx hb dX1_forgetOldest_11 ?_
  refine lv_asi (y := (3 : Int32)) (by decide) ?_
  refine lv_aload_n hx hb dX1_forgetOldest_12 rfl (lv_at hl 2 rfl) ?_
  refine va_get (D := D) (ci := 1) (v := .ref ak) (C := RX1) (T := TX1) (N := 2) hx hb hts iX1_forgetOldest_X1 hown hG.1 hP 0 rfl rfl 0 (by decide) (hts _ fX1_forgetOldest_1) (fun _ h9 => h9) rfl dX1_forgetOldest_13 ?_
  refine va_alen (v := (5 : Int32)) hx hb hG.1 hP 1 2 rfl rfl rfl dX1_forgetOldest_16 ?_
  refine lv_icmp_ge (tgt := 40) hx hb dX1_forgetOldest_17 (by decide) (fun c9 => absurd c9 (by decide)) (fun _ => ?_)
  refine lv_aload_n hx hb dX1_forgetOldest_20 rfl (lv_at hl 2 rfl) ?_
  refine va_get (D := D) (ci := 1) (v := .ref ak) (C := RX1) (T := TX1) (N := 2) hx hb hts iX1_forgetOldest_X1 hown hG.1 hP 0 rfl rfl 0 (by decide) (hts _ fX1_forgetOldest_1) (fun _ h9 => h9) rfl dX1_forgetOldest_21 ?_
  refine lv_iload_n hx hb dX1_forgetOldest_24 rfl (lv_at hl 0 rfl) ?_
  refine lv_aload_n hx hb dX1_forgetOldest_25 rfl (lv_at hl 2 rfl) ?_
  refine va_get (D := D) (ci := 1) (v := .ref ak) (C := RX1) (T := TX1) (N := 2) hx hb hts iX1_forgetOldest_X1 hown hG.1 hP 0 rfl rfl 0 (by decide) (hts _ fX1_forgetOldest_1) (fun _ h9 => h9) rfl dX1_forgetOldest_26 ?_
  refine lv_iload_n hx hb dX1_forgetOldest_29 rfl (lv_at hl 0 rfl) ?_
  refine lv_iconst (v := 1) hx hb dX1_forgetOldest_30 (by decide) ?_
  refine lv_iadd hx hb dX1_forgetOldest_31 ?_
  refine lv_asi (y := (3 : Int32)) (by decide) ?_
  refine va_aldq hx hb hG.1 hP 1 2 rfl rfl (by unfold vp_in; decide) dX1_forgetOldest_32 ?_
  refine lv_asv (y := .ref (kd 6)) rfl ?_
  refine va_astq hx hb hG.1 hP hD hS 1 2 8 3 (r := (RX3, TX3, 7)) rfl rfl rfl rfl (by unfold vp_in; decide) dX1_forgetOldest_33 (fun H locs hP hD hS => ?_)
  have eU := kf5_u2 (kd 2) (kd 4) (kd 4) (kd 6) (kd 8) (kd 6)
  have hP : va_P D cls9 [(ah, .inr (1, [.ref ak, .int count])), (ak, .inl (cR, 5, .inr (.inr (.inr (.inr (kf5 (kd 2) (kd 4) (kd 6) (kd 6) (kd 8))))))), (kd 0, .inr (3, [.int (5 : Int32), .int (3 : Int32), .int (7 : Int32), .ref (kd 1), .int g0pp, .int g0columns, .int g0count])), (kd 1, .inl (cI, 105, .inl g0num)), (kd 2, .inr (3, [.int (5 : Int32), .int (3 : Int32), .int (7 : Int32), .ref (kd 3), .int g1pp, .int g1columns, .int g1count])), (kd 3, .inl (cI, 105, .inl g1num)), (kd 4, .inr (3, [.int (5 : Int32), .int (3 : Int32), .int (7 : Int32), .ref (kd 5), .int g2pp, .int g2columns, .int g2count])), (kd 5, .inl (cI, 105, .inl g2num)), (kd 6, .inr (3, [.int (5 : Int32), .int (3 : Int32), .int (7 : Int32), .ref (kd 7), .int g3pp, .int g3columns, .int g3count])), (kd 7, .inl (cI, 105, .inl g3num)), (kd 8, .inr (3, [.int (5 : Int32), .int (3 : Int32), .int (7 : Int32), .ref (kd 9), .int g4pp, .int g4columns, .int g4count])), (kd 9, .inl (cI, 105, .inl g4num))] H := by rw [← eU]; exact hP
  have hD : va_D A [(ah, .inr (1, [.ref ak, .int count])), (ak, .inl (cR, 5, .inr (.inr (.inr (.inr (kf5 (kd 2) (kd 4) (kd 6) (kd 6) (kd 8))))))), (kd 0, .inr (3, [.int (5 : Int32), .int (3 : Int32), .int (7 : Int32), .ref (kd 1), .int g0pp, .int g0columns, .int g0count])), (kd 1, .inl (cI, 105, .inl g0num)), (kd 2, .inr (3, [.int (5 : Int32), .int (3 : Int32), .int (7 : Int32), .ref (kd 3), .int g1pp, .int g1columns, .int g1count])), (kd 3, .inl (cI, 105, .inl g1num)), (kd 4, .inr (3, [.int (5 : Int32), .int (3 : Int32), .int (7 : Int32), .ref (kd 5), .int g2pp, .int g2columns, .int g2count])), (kd 5, .inl (cI, 105, .inl g2num)), (kd 6, .inr (3, [.int (5 : Int32), .int (3 : Int32), .int (7 : Int32), .ref (kd 7), .int g3pp, .int g3columns, .int g3count])), (kd 7, .inl (cI, 105, .inl g3num)), (kd 8, .inr (3, [.int (5 : Int32), .int (3 : Int32), .int (7 : Int32), .ref (kd 9), .int g4pp, .int g4columns, .int g4count])), (kd 9, .inl (cI, 105, .inl g4num))] := by rw [← eU]; exact hD
  refine lv_iinc (v := (3 : Int32)) (lv' := [(2, .int (3 : Int32)), (1, .ref (kd 0)), (0, .ref ah)]) hx hb dX1_forgetOldest_34 hl (k := 0) rfl (by decide) (by decide) rfl (fun ls hl => ?_)
  refine lv_goto (tgt := 9) hx hb dX1_forgetOldest_37 (by decide) ?_
  refine lv_iload_n hx hb dX1_forgetOldest_9 rfl (lv_at hl 0 rfl) ?_
  refine lv_iconst (v := 1) hx hb dX1_forgetOldest_10 (by decide) ?_
  refine lv_iadd hx hb dX1_forgetOldest_11 ?_
  refine lv_asi (y := (4 : Int32)) (by decide) ?_
  refine lv_aload_n hx hb dX1_forgetOldest_12 rfl (lv_at hl 2 rfl) ?_
  refine va_get (D := D) (ci := 1) (v := .ref ak) (C := RX1) (T := TX1) (N := 2) hx hb hts iX1_forgetOldest_X1 hown hG.1 hP 0 rfl rfl 0 (by decide) (hts _ fX1_forgetOldest_1) (fun _ h9 => h9) rfl dX1_forgetOldest_13 ?_
  refine va_alen (v := (5 : Int32)) hx hb hG.1 hP 1 2 rfl rfl rfl dX1_forgetOldest_16 ?_
  refine lv_icmp_ge (tgt := 40) hx hb dX1_forgetOldest_17 (by decide) (fun c9 => absurd c9 (by decide)) (fun _ => ?_)
  refine lv_aload_n hx hb dX1_forgetOldest_20 rfl (lv_at hl 2 rfl) ?_
  refine va_get (D := D) (ci := 1) (v := .ref ak) (C := RX1) (T := TX1) (N := 2) hx hb hts iX1_forgetOldest_X1 hown hG.1 hP 0 rfl rfl 0 (by decide) (hts _ fX1_forgetOldest_1) (fun _ h9 => h9) rfl dX1_forgetOldest_21 ?_
  refine lv_iload_n hx hb dX1_forgetOldest_24 rfl (lv_at hl 0 rfl) ?_
  refine lv_aload_n hx hb dX1_forgetOldest_25 rfl (lv_at hl 2 rfl) ?_
  refine va_get (D := D) (ci := 1) (v := .ref ak) (C := RX1) (T := TX1) (N := 2) hx hb hts iX1_forgetOldest_X1 hown hG.1 hP 0 rfl rfl 0 (by decide) (hts _ fX1_forgetOldest_1) (fun _ h9 => h9) rfl dX1_forgetOldest_26 ?_
  refine lv_iload_n hx hb dX1_forgetOldest_29 rfl (lv_at hl 0 rfl) ?_
  refine lv_iconst (v := 1) hx hb dX1_forgetOldest_30 (by decide) ?_
  refine lv_iadd hx hb dX1_forgetOldest_31 ?_
  refine lv_asi (y := (4 : Int32)) (by decide) ?_
  refine va_aldq hx hb hG.1 hP 1 2 rfl rfl (by unfold vp_in; decide) dX1_forgetOldest_32 ?_
  refine lv_asv (y := .ref (kd 8)) rfl ?_
  refine va_astq hx hb hG.1 hP hD hS 1 2 10 3 (r := (RX3, TX3, 7)) rfl rfl rfl rfl (by unfold vp_in; decide) dX1_forgetOldest_33 (fun H locs hP hD hS => ?_)
  have eU := kf5_u3 (kd 2) (kd 4) (kd 6) (kd 6) (kd 8) (kd 8)
  have hP : va_P D cls9 [(ah, .inr (1, [.ref ak, .int count])), (ak, .inl (cR, 5, .inr (.inr (.inr (.inr (kf5 (kd 2) (kd 4) (kd 6) (kd 8) (kd 8))))))), (kd 0, .inr (3, [.int (5 : Int32), .int (3 : Int32), .int (7 : Int32), .ref (kd 1), .int g0pp, .int g0columns, .int g0count])), (kd 1, .inl (cI, 105, .inl g0num)), (kd 2, .inr (3, [.int (5 : Int32), .int (3 : Int32), .int (7 : Int32), .ref (kd 3), .int g1pp, .int g1columns, .int g1count])), (kd 3, .inl (cI, 105, .inl g1num)), (kd 4, .inr (3, [.int (5 : Int32), .int (3 : Int32), .int (7 : Int32), .ref (kd 5), .int g2pp, .int g2columns, .int g2count])), (kd 5, .inl (cI, 105, .inl g2num)), (kd 6, .inr (3, [.int (5 : Int32), .int (3 : Int32), .int (7 : Int32), .ref (kd 7), .int g3pp, .int g3columns, .int g3count])), (kd 7, .inl (cI, 105, .inl g3num)), (kd 8, .inr (3, [.int (5 : Int32), .int (3 : Int32), .int (7 : Int32), .ref (kd 9), .int g4pp, .int g4columns, .int g4count])), (kd 9, .inl (cI, 105, .inl g4num))] H := by rw [← eU]; exact hP
  have hD : va_D A [(ah, .inr (1, [.ref ak, .int count])), (ak, .inl (cR, 5, .inr (.inr (.inr (.inr (kf5 (kd 2) (kd 4) (kd 6) (kd 8) (kd 8))))))), (kd 0, .inr (3, [.int (5 : Int32), .int (3 : Int32), .int (7 : Int32), .ref (kd 1), .int g0pp, .int g0columns, .int g0count])), (kd 1, .inl (cI, 105, .inl g0num)), (kd 2, .inr (3, [.int (5 : Int32), .int (3 : Int32), .int (7 : Int32), .ref (kd 3), .int g1pp, .int g1columns, .int g1count])), (kd 3, .inl (cI, 105, .inl g1num)), (kd 4, .inr (3, [.int (5 : Int32), .int (3 : Int32), .int (7 : Int32), .ref (kd 5), .int g2pp, .int g2columns, .int g2count])), (kd 5, .inl (cI, 105, .inl g2num)), (kd 6, .inr (3, [.int (5 : Int32), .int (3 : Int32), .int (7 : Int32), .ref (kd 7), .int g3pp, .int g3columns, .int g3count])), (kd 7, .inl (cI, 105, .inl g3num)), (kd 8, .inr (3, [.int (5 : Int32), .int (3 : Int32), .int (7 : Int32), .ref (kd 9), .int g4pp, .int g4columns, .int g4count])), (kd 9, .inl (cI, 105, .inl g4num))] := by rw [← eU]; exact hD
  refine lv_iinc (v := (4 : Int32)) (lv' := [(2, .int (4 : Int32)), (1, .ref (kd 0)), (0, .ref ah)]) hx hb dX1_forgetOldest_34 hl (k := 0) rfl (by decide) (by decide) rfl (fun ls hl => ?_)
  refine lv_goto (tgt := 9) hx hb dX1_forgetOldest_37 (by decide) ?_
  refine lv_iload_n hx hb dX1_forgetOldest_9 rfl (lv_at hl 0 rfl) ?_
  refine lv_iconst (v := 1) hx hb dX1_forgetOldest_10 (by decide) ?_
  refine lv_iadd hx hb dX1_forgetOldest_11 ?_
  refine lv_asi (y := (5 : Int32)) (by decide) ?_
  refine lv_aload_n hx hb dX1_forgetOldest_12 rfl (lv_at hl 2 rfl) ?_
  refine va_get (D := D) (ci := 1) (v := .ref ak) (C := RX1) (T := TX1) (N := 2) hx hb hts iX1_forgetOldest_X1 hown hG.1 hP 0 rfl rfl 0 (by decide) (hts _ fX1_forgetOldest_1) (fun _ h9 => h9) rfl dX1_forgetOldest_13 ?_
  refine va_alen (v := (5 : Int32)) hx hb hG.1 hP 1 2 rfl rfl rfl dX1_forgetOldest_16 ?_
  refine lv_icmp_ge (tgt := 40) hx hb dX1_forgetOldest_17 (by decide) (fun _ => ?_) (fun c9 => absurd (by decide) c9)
  refine lv_aload_n hx hb dX1_forgetOldest_40 rfl (lv_at hl 2 rfl) ?_
  refine va_get (D := D) (ci := 1) (v := .ref ak) (C := RX1) (T := TX1) (N := 2) hx hb hts iX1_forgetOldest_X1 hown hG.1 hP 0 rfl rfl 0 (by decide) (hts _ fX1_forgetOldest_1) (fun _ h9 => h9) rfl dX1_forgetOldest_41 ?_
  refine lv_aload_n hx hb dX1_forgetOldest_44 rfl (lv_at hl 2 rfl) ?_
  refine va_get (D := D) (ci := 1) (v := .ref ak) (C := RX1) (T := TX1) (N := 2) hx hb hts iX1_forgetOldest_X1 hown hG.1 hP 0 rfl rfl 0 (by decide) (hts _ fX1_forgetOldest_1) (fun _ h9 => h9) rfl dX1_forgetOldest_45 ?_
  refine va_alen (v := (5 : Int32)) hx hb hG.1 hP 1 2 rfl rfl rfl dX1_forgetOldest_48 ?_
  refine lv_iconst (v := 1) hx hb dX1_forgetOldest_49 (by decide) ?_
  refine lv_isub hx hb dX1_forgetOldest_50 ?_
  refine lv_asi (y := (4 : Int32)) (by decide) ?_
  refine lv_aload_n hx hb dX1_forgetOldest_51 rfl (lv_at hl 1 rfl) ?_
  refine va_astq hx hb hG.1 hP hD hS 1 2 2 3 (r := (RX3, TX3, 7)) rfl rfl rfl rfl (by unfold vp_in; decide) dX1_forgetOldest_52 (fun H locs hP hD hS => ?_)
  have eU := kf5_u4 (kd 2) (kd 4) (kd 6) (kd 8) (kd 8) (kd 0)
  have hP : va_P D cls9 [(ah, .inr (1, [.ref ak, .int count])), (ak, .inl (cR, 5, .inr (.inr (.inr (.inr (kf5 (kd 2) (kd 4) (kd 6) (kd 8) (kd 0))))))), (kd 0, .inr (3, [.int (5 : Int32), .int (3 : Int32), .int (7 : Int32), .ref (kd 1), .int g0pp, .int g0columns, .int g0count])), (kd 1, .inl (cI, 105, .inl g0num)), (kd 2, .inr (3, [.int (5 : Int32), .int (3 : Int32), .int (7 : Int32), .ref (kd 3), .int g1pp, .int g1columns, .int g1count])), (kd 3, .inl (cI, 105, .inl g1num)), (kd 4, .inr (3, [.int (5 : Int32), .int (3 : Int32), .int (7 : Int32), .ref (kd 5), .int g2pp, .int g2columns, .int g2count])), (kd 5, .inl (cI, 105, .inl g2num)), (kd 6, .inr (3, [.int (5 : Int32), .int (3 : Int32), .int (7 : Int32), .ref (kd 7), .int g3pp, .int g3columns, .int g3count])), (kd 7, .inl (cI, 105, .inl g3num)), (kd 8, .inr (3, [.int (5 : Int32), .int (3 : Int32), .int (7 : Int32), .ref (kd 9), .int g4pp, .int g4columns, .int g4count])), (kd 9, .inl (cI, 105, .inl g4num))] H := by rw [← eU]; exact hP
  have hD : va_D A [(ah, .inr (1, [.ref ak, .int count])), (ak, .inl (cR, 5, .inr (.inr (.inr (.inr (kf5 (kd 2) (kd 4) (kd 6) (kd 8) (kd 0))))))), (kd 0, .inr (3, [.int (5 : Int32), .int (3 : Int32), .int (7 : Int32), .ref (kd 1), .int g0pp, .int g0columns, .int g0count])), (kd 1, .inl (cI, 105, .inl g0num)), (kd 2, .inr (3, [.int (5 : Int32), .int (3 : Int32), .int (7 : Int32), .ref (kd 3), .int g1pp, .int g1columns, .int g1count])), (kd 3, .inl (cI, 105, .inl g1num)), (kd 4, .inr (3, [.int (5 : Int32), .int (3 : Int32), .int (7 : Int32), .ref (kd 5), .int g2pp, .int g2columns, .int g2count])), (kd 5, .inl (cI, 105, .inl g2num)), (kd 6, .inr (3, [.int (5 : Int32), .int (3 : Int32), .int (7 : Int32), .ref (kd 7), .int g3pp, .int g3columns, .int g3count])), (kd 7, .inl (cI, 105, .inl g3num)), (kd 8, .inr (3, [.int (5 : Int32), .int (3 : Int32), .int (7 : Int32), .ref (kd 9), .int g4pp, .int g4columns, .int g4count])), (kd 9, .inl (cI, 105, .inl g4num))] := by rw [← eU]; exact hD
  refine lv_aload_n hx hb dX1_forgetOldest_53 rfl (lv_at hl 2 rfl) ?_
  refine lv_dup hx hb dX1_forgetOldest_54 rfl ?_
  refine va_get (D := D) (ci := 1) (v := .int count) (C := RX1) (T := TX1) (N := 2) hx hb hts iX1_forgetOldest_X1 hown hG.1 hP 0 rfl rfl 1 (by decide) (hts _ fX1_forgetOldest_2) (fun _ h9 => h9) rfl dX1_forgetOldest_55 ?_
  refine lv_iconst (v := 1) hx hb dX1_forgetOldest_58 (by decide) ?_
  refine lv_isub hx hb dX1_forgetOldest_59 ?_
  refine va_put (D := D) (ci := 1) (v := .int (count - (1 : Int32))) (ty := .int) (C := RX1) (T := TX1) (N := 2) hx hb hts iX1_forgetOldest_X1 tyX1 tyX1_ok nmX1 hown hG.1 hP hD hS 0 rfl rfl 1 (by decide) (hts _ fX1_forgetOldest_2) (fun _ h9 => h9) rfl (by decide +kernel) rfl rfl (Nat.le_of_ble_eq_true rfl) dX1_forgetOldest_60 (fun H locs hP hD hS => ?_)
  have hP : va_P D cls9 [(ah, .inr (1, [.ref ak, .int (count - (1 : Int32))])), (ak, .inl (cR, 5, .inr (.inr (.inr (.inr (kf5 (kd 2) (kd 4) (kd 6) (kd 8) (kd 0))))))), (kd 0, .inr (3, [.int (5 : Int32), .int (3 : Int32), .int (7 : Int32), .ref (kd 1), .int g0pp, .int g0columns, .int g0count])), (kd 1, .inl (cI, 105, .inl g0num)), (kd 2, .inr (3, [.int (5 : Int32), .int (3 : Int32), .int (7 : Int32), .ref (kd 3), .int g1pp, .int g1columns, .int g1count])), (kd 3, .inl (cI, 105, .inl g1num)), (kd 4, .inr (3, [.int (5 : Int32), .int (3 : Int32), .int (7 : Int32), .ref (kd 5), .int g2pp, .int g2columns, .int g2count])), (kd 5, .inl (cI, 105, .inl g2num)), (kd 6, .inr (3, [.int (5 : Int32), .int (3 : Int32), .int (7 : Int32), .ref (kd 7), .int g3pp, .int g3columns, .int g3count])), (kd 7, .inl (cI, 105, .inl g3num)), (kd 8, .inr (3, [.int (5 : Int32), .int (3 : Int32), .int (7 : Int32), .ref (kd 9), .int g4pp, .int g4columns, .int g4count])), (kd 9, .inl (cI, 105, .inl g4num))] H := hP
  have hD : va_D A [(ah, .inr (1, [.ref ak, .int (count - (1 : Int32))])), (ak, .inl (cR, 5, .inr (.inr (.inr (.inr (kf5 (kd 2) (kd 4) (kd 6) (kd 8) (kd 0))))))), (kd 0, .inr (3, [.int (5 : Int32), .int (3 : Int32), .int (7 : Int32), .ref (kd 1), .int g0pp, .int g0columns, .int g0count])), (kd 1, .inl (cI, 105, .inl g0num)), (kd 2, .inr (3, [.int (5 : Int32), .int (3 : Int32), .int (7 : Int32), .ref (kd 3), .int g1pp, .int g1columns, .int g1count])), (kd 3, .inl (cI, 105, .inl g1num)), (kd 4, .inr (3, [.int (5 : Int32), .int (3 : Int32), .int (7 : Int32), .ref (kd 5), .int g2pp, .int g2columns, .int g2count])), (kd 5, .inl (cI, 105, .inl g2num)), (kd 6, .inr (3, [.int (5 : Int32), .int (3 : Int32), .int (7 : Int32), .ref (kd 7), .int g3pp, .int g3columns, .int g3count])), (kd 7, .inl (cI, 105, .inl g3num)), (kd 8, .inr (3, [.int (5 : Int32), .int (3 : Int32), .int (7 : Int32), .ref (kd 9), .int g4pp, .int g4columns, .int g4count])), (kd 9, .inl (cI, 105, .inl g4num))] := hD
  have hP : va_P D cls9 (wHI cI cR ah ak (rot5 kd) (count - (1 : Int32)) g1pp g1columns g1count g1num g2pp g2columns g2count g2num g3pp g3columns g3count g3num g4pp g4columns g4count g4num g0pp g0columns g0count g0num) H := hPsub hP [0, 1, 4, 5, 6, 7, 8, 9, 10, 11, 2, 3] rfl
  have hD : va_D A (wHI cI cR ah ak (rot5 kd) (count - (1 : Int32)) g1pp g1columns g1count g1num g2pp g2columns g2count g2num g3pp g3columns g3count g3num g4pp g4columns g4count g4num g0pp g0columns g0count g0num) := hD.sub [0, 1, 4, 5, 6, 7, 8, 9, 10, 11, 2, 3] (by decide +kernel) rfl
  have he := Option.some.inj hq
  subst he
  exact hE H locs _ _ dX1_forgetOldest_63 hP hD hS
abbrev rm_X1_keep : Room := { frames := 2, cells := 0, slots := 0, locals := 61 }
theorem iX1_keep_X1 : ∀ w ∈ wsX10, w ∈ wsX1_keep := fun _ h => (List.mem_cons_of_mem _ (List.mem_append_left _ (List.mem_append_right _ h)))
theorem fX1_keep_1 : Cond.fieldLink RX1 21 "PopovRows$History" "count" "I" ∈ wsX1_keep := (List.mem_cons_of_mem _ (List.mem_append_left _ (List.mem_append_left _ (List.mem_of_getElem? (i := 0) rfl))))
theorem fX1_keep_2 : Cond.fieldLink RX1 11 "PopovRows$History" "kept" "[LPopovRows$Rows;" ∈ wsX1_keep := (List.mem_cons_of_mem _ (List.mem_append_left _ (List.mem_append_left _ (List.mem_of_getElem? (i := 1) rfl))))
set_option maxHeartbeats 4000000 in
set_option maxRecDepth 100000 in
theorem mtX1_keep (l : Launch) (D : va_G) (cI cB cR : ClassId) (ah : Nat) (ak : Nat) (kd : Nat → Nat) (qah : Nat) (qan : Nat) (sz : Nat) (count : Int32) (g0pp : Int32) (g0columns : Int32) (g0count : Int32) (g0num : Nat → Int32) (g1pp : Int32) (g1columns : Int32) (g1count : Int32) (g1num : Nat → Int32) (g2pp : Int32) (g2columns : Int32) (g2count : Int32) (g2num : Nat → Int32) (g3pp : Int32) (g3columns : Int32) (g3count : Int32) (g3num : Nat → Int32) (g4pp : Int32) (g4columns : Int32) (g4count : Int32) (g4num : Nat → Int32) (qL : Nat) (qroom : Int32) (qwidth : Int32) (qpowers : Int32) (qpp : Int32) (qcolumns : Int32) (qcount : Int32) (qnum : Nat → Int32) (res : Int32 × Int32 × Int32 × Int32 × (Nat → Int32) × Int32 × Int32 × Int32 × (Nat → Int32) × Int32 × Int32 × Int32 × (Nat → Int32) × Int32 × Int32 × Int32 × (Nat → Int32) × Int32 × Int32 × Int32 × (Nat → Int32)) (hf : fX1_keep count g0pp g0columns g0count g0num g1pp g1columns g1count g1num g2pp g2columns g2count g2num g3pp g3columns g3count g3num g4pp g4columns g4count g4num qL qpp qcolumns qcount qnum = some res) : Met l yX1_keep wsX1_keep rm_X1_keep (qP D cI cB cR [.ref ah, .ref qah] ((wHI cI cR ah ak kd count g0pp g0columns g0count g0num g1pp g1columns g1count g1num g2pp g2columns g2count g2num g3pp g3columns g3count g3num g4pp g4columns g4count g4num) ++ (wR cI qah qan qL qroom qwidth qpowers qpp qcolumns qcount qnum)) sz) (qVX D ((wHI cI cR ah ak kd count g0pp g0columns g0count g0num g1pp g1columns g1count g1num g2pp g2columns g2count g2num g3pp g3columns g3count g3num g4pp g4columns g4count g4num) ++ (wR cI qah qan qL qroom qwidth qpowers qpp qcolumns qcount qnum)) (fun kd => ((wHI cI cR ah ak kd res.1 res.2.1 res.2.2.1 res.2.2.2.1 res.2.2.2.2.1 res.2.2.2.2.2.1 res.2.2.2.2.2.2.1 res.2.2.2.2.2.2.2.1 res.2.2.2.2.2.2.2.2.1 res.2.2.2.2.2.2.2.2.2.1 res.2.2.2.2.2.2.2.2.2.2.1 res.2.2.2.2.2.2.2.2.2.2.2.1 res.2.2.2.2.2.2.2.2.2.2.2.2.1 res.2.2.2.2.2.2.2.2.2.2.2.2.2.1 res.2.2.2.2.2.2.2.2.2.2.2.2.2.2.1 res.2.2.2.2.2.2.2.2.2.2.2.2.2.2.2.1 res.2.2.2.2.2.2.2.2.2.2.2.2.2.2.2.2.1 res.2.2.2.2.2.2.2.2.2.2.2.2.2.2.2.2.2.1 res.2.2.2.2.2.2.2.2.2.2.2.2.2.2.2.2.2.2.1 res.2.2.2.2.2.2.2.2.2.2.2.2.2.2.2.2.2.2.2.1 res.2.2.2.2.2.2.2.2.2.2.2.2.2.2.2.2.2.2.2.2) ++ (wR cI qah qan qL qroom qwidth qpowers qpp qcolumns qcount qnum))) sz) 0 0 (va_A ((wHI cI cR ah ak kd count g0pp g0columns g0count g0num g1pp g1columns g1count g1num g2pp g2columns g2count g2num g3pp g3columns g3count g3num g4pp g4columns g4count g4num) ++ (wR cI qah qan qL qroom qwidth qpowers qpp qcolumns qcount qnum)) sz) := by
  refine entVX (plainFor_of_name (by decide)) rfl (Nat.le_of_ble_eq_true rfl) ?_
  intro p e s m args below meth c Q A ls S hG hP hD hA hl hE
  obtain ⟨hx, hb, hml, hown, hts⟩ := S
  have hown : s.vm.findClass RX1 = some m.cls := hown
  have hS : va_S A s.heap s.heap [] := va_S.rf
  have hl : lv_has ls 2 [(0, .ref ah), (1, .ref qah)] := hl
  have hq := hf
  unfold fX1_keep at hq
  obtain ⟨H, hH⟩ : ∃ H, H = s.heap := ⟨_, rfl⟩
  obtain ⟨locs, hlo⟩ : ∃ L : List Loc, L = [] := ⟨_, rfl⟩
  have hP : va_P D cls9 ((wHI cI cR ah ak kd count g0pp g0columns g0count g0num g1pp g1columns g1count g1num g2pp g2columns g2count g2num g3pp g3columns g3count g3num g4pp g4columns g4count g4num) ++ (wR cI qah qan qL qroom qwidth qpowers qpp qcolumns qcount qnum)) H := hH ▸ hP
  have hS : va_S A s.heap H locs := by rw [hH, hlo]; exact hS
  suffices hg : W p l e rm_X1_keep s m args below meth c H locs 0 0 Q (F0 m 0 ls []) by rw [hH, hlo] at hg; exact hg
  refine lv_aload_n hx hb dX1_keep_0 rfl (lv_at hl 0 rfl) ?_
  refine va_get (D := D) (ci := 1) (v := .int count) (C := RX1) (T := TX1) (N := 2) hx hb hts iX1_keep_X1 hown hG.1 hP 0 rfl rfl 1 (by decide) (hts _ fX1_keep_1) (fun _ h9 => h9) rfl dX1_keep_1 ?_
  refine lv_aload_n hx hb dX1_keep_4 rfl (lv_at hl 0 rfl) ?_
  refine va_get (D := D) (ci := 1) (v := .ref ak) (C := RX1) (T := TX1) (N := 2) hx hb hts iX1_keep_X1 hown hG.1 hP 0 rfl rfl 0 (by decide) (hts _ fX1_keep_2) (fun _ h9 => h9) rfl dX1_keep_5 ?_
  refine va_alen (v := (5 : Int32)) hx hb hG.1 hP 1 2 rfl rfl rfl dX1_keep_8 ?_
  obtain ⟨v1, hj1, hk1⟩ := bd21_s hq
  have hJ1 : ∀ (kd_46 : Nat → Nat) (j_25 : Int32) (j_26 : Int32) (j_27 : Int32) (j_28 : Nat → Int32) (j_29 : Int32) (j_30 : Int32) (j_31 : Int32) (j_32 : Nat → Int32) (j_33 : Int32) (j_34 : Int32) (j_35 : Int32) (j_36 : Nat → Int32) (j_37 : Int32) (j_38 : Int32) (j_39 : Int32) (j_40 : Nat → Int32) (j_41 : Int32) (j_42 : Int32) (j_43 : Int32) (j_44 : Nat → Int32) (j_45 : Int32), v1 = (j_25, j_26, j_27, j_28, j_29, j_30, j_31, j_32, j_33, j_34, j_35, j_36, j_37, j_38, j_39, j_40, j_41, j_42, j_43, j_44, j_45) → ∀ (H : Heap) (locs : List Loc), va_P D cls9 ((wHI cI cR ah ak kd_46 j_25 j_29 j_26 j_27 j_28 j_33 j_30 j_31 j_32 j_37 j_34 j_35 j_36 j_41 j_38 j_39 j_40 j_45 j_42 j_43 j_44) ++ (wR cI qah qan qL qroom qwidth qpowers qpp qcolumns qcount qnum)) H → va_D A ((wHI cI cR ah ak kd_46 j_25 j_29 j_26 j_27 j_28 j_33 j_30 j_31 j_32 j_37 j_34 j_35 j_36 j_41 j_38 j_39 j_40 j_45 j_42 j_43 j_44) ++ (wR cI qah qan qL qroom qwidth qpowers qpp qcolumns qcount qnum)) → va_S A s.heap H locs → ∀ (ls : Array Slot), lv_has ls 2 [(0, .ref ah), (1, .ref qah)] → W p l e rm_X1_keep s m args below meth c H locs 0 0 Q (F0 m 16 ls []) := by
    intro kd_46 j_25 j_26 j_27 j_28 j_29 j_30 j_31 j_32 j_33 j_34 j_35 j_36 j_37 j_38 j_39 j_40 j_41 j_42 j_43 j_44 j_45 hq H locs hP hD hS ls hl
    have hq := hk1 _ _ _ _ _ _ _ _ _ _ _ _ _ _ _ _ _ _ _ _ _ hq
    refine lv_aload_n hx hb dX1_keep_16 rfl (lv_at hl 0 rfl) ?_
    refine va_get (D := D) (ci := 1) (v := .int j_25) (C := RX1) (T := TX1) (N := 2) hx hb hts iX1_keep_X1 hown hG.1 hP 0 rfl rfl 1 (by decide) (hts _ fX1_keep_1) (fun _ h9 => h9) rfl dX1_keep_17 ?_
    refine lv_if_lt (tgt := 58) hx hb dX1_keep_20 (by decide) (fun c_47 => ?_) (fun c_47 => ?_)
    · have hq := it_t c_47 hq
      have he := Option.some.inj hq
      subst he
      exact hE kd_46 H locs _ _ dX1_keep_58 hP hD hS
    · have hq := it_f c_47 hq
      refine lv_aload_n hx hb dX1_keep_23 rfl (lv_at hl 0 rfl) ?_
      refine va_get (D := D) (ci := 1) (v := .int j_25) (C := RX1) (T := TX1) (N := 2) hx hb hts iX1_keep_X1 hown hG.1 hP 0 rfl rfl 1 (by decide) (hts _ fX1_keep_1) (fun _ h9 => h9) rfl dX1_keep_24 ?_
      refine lv_aload_n hx hb dX1_keep_27 rfl (lv_at hl 0 rfl) ?_
      refine va_get (D := D) (ci := 1) (v := .ref ak) (C := RX1) (T := TX1) (N := 2) hx hb hts iX1_keep_X1 hown hG.1 hP 0 rfl rfl 0 (by decide) (hts _ fX1_keep_2) (fun _ h9 => h9) rfl dX1_keep_28 ?_
      refine va_alen (v := (5 : Int32)) hx hb hG.1 hP 1 2 rfl rfl rfl dX1_keep_31 ?_
      refine lv_icmp_ge (tgt := 58) hx hb dX1_keep_32 (by decide) (fun c_48 => ?_) (fun c_48 => ?_)
      · have hq := it_t c_48 hq
        have he := Option.some.inj hq
        subst he
        exact hE kd_46 H locs _ _ dX1_keep_58 hP hD hS
      · have hq := it_f c_48 hq
        refine lv_aload_n hx hb dX1_keep_35 rfl (lv_at hl 0 rfl) ?_
        refine va_get (D := D) (ci := 1) (v := .ref ak) (C := RX1) (T := TX1) (N := 2) hx hb hts iX1_keep_X1 hown hG.1 hP 0 rfl rfl 0 (by decide) (hts _ fX1_keep_2) (fun _ h9 => h9) rfl dX1_keep_36 ?_
        refine lv_aload_n hx hb dX1_keep_39 rfl (lv_at hl 0 rfl) ?_
        refine va_get (D := D) (ci := 1) (v := .int j_25) (C := RX1) (T := TX1) (N := 2) hx hb hts iX1_keep_X1 hown hG.1 hP 0 rfl rfl 1 (by decide) (hts _ fX1_keep_1) (fun _ h9 => h9) rfl dX1_keep_40 ?_
        obtain ⟨h_49, hq⟩ := gd_s hq
        refine va_aldq hx hb hG.1 hP 1 2 rfl rfl h_49 dX1_keep_43 ?_
        by_cases c_50 : j_25 = (0 : Int32)
        · have hq := it_t c_50 hq
          refine lv_asv (y := .ref (kd_46 0)) (by rw [c_50]; rfl) ?_
          refine lv_aload_n hx hb dX1_keep_44 rfl (lv_at hl 1 rfl) ?_
          obtain ⟨v_56, hq_55, hk⟩ := bd4_s hq
          obtain ⟨u_51, u_52, u_53, u_54⟩ := v_56
          have hq := hk _ _ _ _ rfl
          have hPc : va_P D cls9 [(kd_46 0, .inr (3, [.int (5 : Int32), .int (3 : Int32), .int (7 : Int32), .ref (kd_46 1), .int j_29, .int j_26, .int j_27])), (kd_46 1, .inl (cI, 105, .inl j_28)), (qah, .inr (3, [.int qroom, .int qwidth, .int qpowers, .ref qan, .int qpp, .int qcolumns, .int qcount])), (qan, .inl (cI, qL, .inl qnum))] H := hPsub hP [2, 3, 12, 13] rfl
          have hDc : va_D A [(kd_46 0, .inr (3, [.int (5 : Int32), .int (3 : Int32), .int (7 : Int32), .ref (kd_46 1), .int j_29, .int j_26, .int j_27])), (kd_46 1, .inl (cI, 105, .inl j_28)), (qah, .inr (3, [.int qroom, .int qwidth, .int qpowers, .ref qan, .int qpp, .int qcolumns, .int qcount])), (qan, .inl (cI, qL, .inl qnum))] := hD.sub [2, 3, 12, 13] (by decide +kernel) rfl
          refine callVP (wr := [(ah, .inr (1, [.ref ak, .int j_25])), (ak, .inl (cR, 5, .inr (.inr (.inr (.inr (kf5 (kd_46 0) (kd_46 2) (kd_46 4) (kd_46 6) (kd_46 8))))))), (kd_46 2, .inr (3, [.int (5 : Int32), .int (3 : Int32), .int (7 : Int32), .ref (kd_46 3), .int j_33, .int j_30, .int j_31])), (kd_46 3, .inl (cI, 105, .inl j_32)), (kd_46 4, .inr (3, [.int (5 : Int32), .int (3 : Int32), .int (7 : Int32), .ref (kd_46 5), .int j_37, .int j_34, .int j_35])), (kd_46 5, .inl (cI, 105, .inl j_36)), (kd_46 6, .inr (3, [.int (5 : Int32), .int (3 : Int32), .int (7 : Int32), .ref (kd_46 7), .int j_41, .int j_38, .int j_39])), (kd_46 7, .inl (cI, 105, .inl j_40)), (kd_46 8, .inr (3, [.int (5 : Int32), .int (3 : Int32), .int (7 : Int32), .ref (kd_46 9), .int j_45, .int j_42, .int j_43])), (kd_46 9, .inl (cI, 105, .inl j_44))]) (ws2 := ((wHI cI cR ah ak kd_46 j_25 u_51 u_52 u_53 u_54 j_33 j_30 j_31 j_32 j_37 j_34 j_35 j_36 j_41 j_38 j_39 j_40 j_45 j_42 j_43 j_44) ++ (wR cI qah qan qL qroom qwidth qpowers qpp qcolumns qcount qnum))) (gV (rest := []) ⟨hx, hb, hml, hown, hts⟩ hG hPc hDc 0 3 rfl rfl (mtX3_copyFrom l D cI cB cR (kd_46 0) (kd_46 1) qah qan H.size 105 (5 : Int32) (3 : Int32) (7 : Int32) j_29 j_26 j_27 j_28 qL qroom qwidth qpowers qpp qcolumns qcount qnum (u_51, u_52, u_53, u_54) hq_55) (cwV 1 hts gX1_keep_X3_copyFrom rfl rfl rfl ⟨rfl, hd_X3_copyFrom⟩ ⟨Nat.le_of_ble_eq_true rfl, Nat.le_of_ble_eq_true rfl⟩) rfl hl.1 rfl (Nat.le_of_ble_eq_true rfl) dX1_keep_45) hP hD hS hA [2, 3, 12, 13] [0, 1, 4, 5, 6, 7, 8, 9, 10, 11] [0, 1, 10, 11, 2, 3, 4, 5, 6, 7, 8, 9, 12, 13] rfl rfl (by decide +kernel) (by decide +kernel) rfl (by decide +kernel) (fun H locs hP hD hS => ?_)
          refine lv_aload_n hx hb dX1_keep_48 rfl (lv_at hl 0 rfl) ?_
          refine lv_dup hx hb dX1_keep_49 rfl ?_
          refine va_get (D := D) (ci := 1) (v := .int j_25) (C := RX1) (T := TX1) (N := 2) hx hb hts iX1_keep_X1 hown hG.1 hP 0 rfl rfl 1 (by decide) (hts _ fX1_keep_1) (fun _ h9 => h9) rfl dX1_keep_50 ?_
          refine lv_iconst (v := 1) hx hb dX1_keep_53 (by decide) ?_
          refine lv_iadd hx hb dX1_keep_54 ?_
          refine va_put (D := D) (ci := 1) (v := .int (j_25 + (1 : Int32))) (ty := .int) (C := RX1) (T := TX1) (N := 2) hx hb hts iX1_keep_X1 tyX1 tyX1_ok nmX1 hown hG.1 hP hD hS 0 rfl rfl 1 (by decide) (hts _ fX1_keep_1) (fun _ h9 => h9) rfl (by decide +kernel) rfl rfl (Nat.le_of_ble_eq_true rfl) dX1_keep_55 (fun H locs hP hD hS => ?_)
          have hP : va_P D cls9 ((wHI cI cR ah ak kd_46 (j_25 + (1 : Int32)) u_51 u_52 u_53 u_54 j_33 j_30 j_31 j_32 j_37 j_34 j_35 j_36 j_41 j_38 j_39 j_40 j_45 j_42 j_43 j_44) ++ (wR cI qah qan qL qroom qwidth qpowers qpp qcolumns qcount qnum)) H := hP
          have hD : va_D A ((wHI cI cR ah ak kd_46 (j_25 + (1 : Int32)) u_51 u_52 u_53 u_54 j_33 j_30 j_31 j_32 j_37 j_34 j_35 j_36 j_41 j_38 j_39 j_40 j_45 j_42 j_43 j_44) ++ (wR cI qah qan qL qroom qwidth qpowers qpp qcolumns qcount qnum)) := hD
          have he := Option.some.inj hq
          subst he
          exact hE kd_46 H locs _ _ dX1_keep_58 hP hD hS
        · have hq := it_f c_50 hq
          by_cases c_57 : j_25 = (1 : Int32)
          · have hq := it_t c_57 hq
            refine lv_asv (y := .ref (kd_46 2)) (by rw [c_57]; rfl) ?_
            refine lv_aload_n hx hb dX1_keep_44 rfl (lv_at hl 1 rfl) ?_
            obtain ⟨v_63, hq_62, hk⟩ := bd4_s hq
            obtain ⟨u_58, u_59, u_60, u_61⟩ := v_63
            have hq := hk _ _ _ _ rfl
            have hPc : va_P D cls9 [(kd_46 2, .inr (3, [.int (5 : Int32), .int (3 : Int32), .int (7 : Int32), .ref (kd_46 3), .int j_33, .int j_30, .int j_31])), (kd_46 3, .inl (cI, 105, .inl j_32)), (qah, .inr (3, [.int qroom, .int qwidth, .int qpowers, .ref qan, .int qpp, .int qcolumns, .int qcount])), (qan, .inl (cI, qL, .inl qnum))] H := hPsub hP [4, 5, 12, 13] rfl
            have hDc : va_D A [(kd_46 2, .inr (3, [.int (5 : Int32), .int (3 : Int32), .int (7 : Int32), .ref (kd_46 3), .int j_33, .int j_30, .int j_31])), (kd_46 3, .inl (cI, 105, .inl j_32)), (qah, .inr (3, [.int qroom, .int qwidth, .int qpowers, .ref qan, .int qpp, .int qcolumns, .int qcount])), (qan, .inl (cI, qL, .inl qnum))] := hD.sub [4, 5, 12, 13] (by decide +kernel) rfl
            refine callVP (wr := [(ah, .inr (1, [.ref ak, .int j_25])), (ak, .inl (cR, 5, .inr (.inr (.inr (.inr (kf5 (kd_46 0) (kd_46 2) (kd_46 4) (kd_46 6) (kd_46 8))))))), (kd_46 0, .inr (3, [.int (5 : Int32), .int (3 : Int32), .int (7 : Int32), .ref (kd_46 1), .int j_29, .int j_26, .int j_27])), (kd_46 1, .inl (cI, 105, .inl j_28)), (kd_46 4, .inr (3, [.int (5 : Int32), .int (3 : Int32), .int (7 : Int32), .ref (kd_46 5), .int j_37, .int j_34, .int j_35])), (kd_46 5, .inl (cI, 105, .inl j_36)), (kd_46 6, .inr (3, [.int (5 : Int32), .int (3 : Int32), .int (7 : Int32), .ref (kd_46 7), .int j_41, .int j_38, .int j_39])), (kd_46 7, .inl (cI, 105, .inl j_40)), (kd_46 8, .inr (3, [.int (5 : Int32), .int (3 : Int32), .int (7 : Int32), .ref (kd_46 9), .int j_45, .int j_42, .int j_43])), (kd_46 9, .inl (cI, 105, .inl j_44))]) (ws2 := ((wHI cI cR ah ak kd_46 j_25 j_29 j_26 j_27 j_28 u_58 u_59 u_60 u_61 j_37 j_34 j_35 j_36 j_41 j_38 j_39 j_40 j_45 j_42 j_43 j_44) ++ (wR cI qah qan qL qroom qwidth qpowers qpp qcolumns qcount qnum))) (gV (rest := []) ⟨hx, hb, hml, hown, hts⟩ hG hPc hDc 0 3 rfl rfl (mtX3_copyFrom l D cI cB cR (kd_46 2) (kd_46 3) qah qan H.size 105 (5 : Int32) (3 : Int32) (7 : Int32) j_33 j_30 j_31 j_32 qL qroom qwidth qpowers qpp qcolumns qcount qnum (u_58, u_59, u_60, u_61) hq_62) (cwV 1 hts gX1_keep_X3_copyFrom rfl rfl rfl ⟨rfl, hd_X3_copyFrom⟩ ⟨Nat.le_of_ble_eq_true rfl, Nat.le_of_ble_eq_true rfl⟩) rfl hl.1 rfl (Nat.le_of_ble_eq_true rfl) dX1_keep_45) hP hD hS hA [4, 5, 12, 13] [0, 1, 2, 3, 6, 7, 8, 9, 10, 11] [0, 1, 2, 3, 10, 11, 4, 5, 6, 7, 8, 9, 12, 13] rfl rfl (by decide +kernel) (by decide +kernel) rfl (by decide +kernel) (fun H locs hP hD hS => ?_)
            refine lv_aload_n hx hb dX1_keep_48 rfl (lv_at hl 0 rfl) ?_
            refine lv_dup hx hb dX1_keep_49 rfl ?_
            refine va_get (D := D) (ci := 1) (v := .int j_25) (C := RX1) (T := TX1) (N := 2) hx hb hts iX1_keep_X1 hown hG.1 hP 0 rfl rfl 1 (by decide) (hts _ fX1_keep_1) (fun _ h9 => h9) rfl dX1_keep_50 ?_
            refine lv_iconst (v := 1) hx hb dX1_keep_53 (by decide) ?_
            refine lv_iadd hx hb dX1_keep_54 ?_
            refine va_put (D := D) (ci := 1) (v := .int (j_25 + (1 : Int32))) (ty := .int) (C := RX1) (T := TX1) (N := 2) hx hb hts iX1_keep_X1 tyX1 tyX1_ok nmX1 hown hG.1 hP hD hS 0 rfl rfl 1 (by decide) (hts _ fX1_keep_1) (fun _ h9 => h9) rfl (by decide +kernel) rfl rfl (Nat.le_of_ble_eq_true rfl) dX1_keep_55 (fun H locs hP hD hS => ?_)
            have hP : va_P D cls9 ((wHI cI cR ah ak kd_46 (j_25 + (1 : Int32)) j_29 j_26 j_27 j_28 u_58 u_59 u_60 u_61 j_37 j_34 j_35 j_36 j_41 j_38 j_39 j_40 j_45 j_42 j_43 j_44) ++ (wR cI qah qan qL qroom qwidth qpowers qpp qcolumns qcount qnum)) H := hP
            have hD : va_D A ((wHI cI cR ah ak kd_46 (j_25 + (1 : Int32)) j_29 j_26 j_27 j_28 u_58 u_59 u_60 u_61 j_37 j_34 j_35 j_36 j_41 j_38 j_39 j_40 j_45 j_42 j_43 j_44) ++ (wR cI qah qan qL qroom qwidth qpowers qpp qcolumns qcount qnum)) := hD
            have he := Option.some.inj hq
            subst he
            exact hE kd_46 H locs _ _ dX1_keep_58 hP hD hS
          · have hq := it_f c_57 hq
            by_cases c_64 : j_25 = (2 : Int32)
            · have hq := it_t c_64 hq
              refine lv_asv (y := .ref (kd_46 4)) (by rw [c_64]; rfl) ?_
              refine lv_aload_n hx hb dX1_keep_44 rfl (lv_at hl 1 rfl) ?_
              obtain ⟨v_70, hq_69, hk⟩ := bd4_s hq
              obtain ⟨u_65, u_66, u_67, u_68⟩ := v_70
              have hq := hk _ _ _ _ rfl
              have hPc : va_P D cls9 [(kd_46 4, .inr (3, [.int (5 : Int32), .int (3 : Int32), .int (7 : Int32), .ref (kd_46 5), .int j_37, .int j_34, .int j_35])), (kd_46 5, .inl (cI, 105, .inl j_36)), (qah, .inr (3, [.int qroom, .int qwidth, .int qpowers, .ref qan, .int qpp, .int qcolumns, .int qcount])), (qan, .inl (cI, qL, .inl qnum))] H := hPsub hP [6, 7, 12, 13] rfl
              have hDc : va_D A [(kd_46 4, .inr (3, [.int (5 : Int32), .int (3 : Int32), .int (7 : Int32), .ref (kd_46 5), .int j_37, .int j_34, .int j_35])), (kd_46 5, .inl (cI, 105, .inl j_36)), (qah, .inr (3, [.int qroom, .int qwidth, .int qpowers, .ref qan, .int qpp, .int qcolumns, .int qcount])), (qan, .inl (cI, qL, .inl qnum))] := hD.sub [6, 7, 12, 13] (by decide +kernel) rfl
              refine callVP (wr := [(ah, .inr (1, [.ref ak, .int j_25])), (ak, .inl (cR, 5, .inr (.inr (.inr (.inr (kf5 (kd_46 0) (kd_46 2) (kd_46 4) (kd_46 6) (kd_46 8))))))), (kd_46 0, .inr (3, [.int (5 : Int32), .int (3 : Int32), .int (7 : Int32), .ref (kd_46 1), .int j_29, .int j_26, .int j_27])), (kd_46 1, .inl (cI, 105, .inl j_28)), (kd_46 2, .inr (3, [.int (5 : Int32), .int (3 : Int32), .int (7 : Int32), .ref (kd_46 3), .int j_33, .int j_30, .int j_31])), (kd_46 3, .inl (cI, 105, .inl j_32)), (kd_46 6, .inr (3, [.int (5 : Int32), .int (3 : Int32), .int (7 : Int32), .ref (kd_46 7), .int j_41, .int j_38, .int j_39])), (kd_46 7, .inl (cI, 105, .inl j_40)), (kd_46 8, .inr (3, [.int (5 : Int32), .int (3 : Int32), .int (7 : Int32), .ref (kd_46 9), .int j_45, .int j_42, .int j_43])), (kd_46 9, .inl (cI, 105, .inl j_44))]) (ws2 := ((wHI cI cR ah ak kd_46 j_25 j_29 j_26 j_27 j_28 j_33 j_30 j_31 j_32 u_65 u_66 u_67 u_68 j_41 j_38 j_39 j_40 j_45 j_42 j_43 j_44) ++ (wR cI qah qan qL qroom qwidth qpowers qpp qcolumns qcount qnum))) (gV (rest := []) ⟨hx, hb, hml, hown, hts⟩ hG hPc hDc 0 3 rfl rfl (mtX3_copyFrom l D cI cB cR (kd_46 4) (kd_46 5) qah qan H.size 105 (5 : Int32) (3 : Int32) (7 : Int32) j_37 j_34 j_35 j_36 qL qroom qwidth qpowers qpp qcolumns qcount qnum (u_65, u_66, u_67, u_68) hq_69) (cwV 1 hts gX1_keep_X3_copyFrom rfl rfl rfl ⟨rfl, hd_X3_copyFrom⟩ ⟨Nat.le_of_ble_eq_true rfl, Nat.le_of_ble_eq_true rfl⟩) rfl hl.1 rfl (Nat.le_of_ble_eq_true rfl) dX1_keep_45) hP hD hS hA [6, 7, 12, 13] [0, 1, 2, 3, 4, 5, 8, 9, 10, 11] [0, 1, 2, 3, 4, 5, 10, 11, 6, 7, 8, 9, 12, 13] rfl rfl (by decide +kernel) (by decide +kernel) rfl (by decide +kernel) (fun H locs hP hD hS => ?_)
              refine lv_aload_n hx hb dX1_keep_48 rfl (lv_at hl 0 rfl) ?_
              refine lv_dup hx hb dX1_keep_49 rfl ?_
              refine va_get (D := D) (ci := 1) (v := .int j_25) (C := RX1) (T := TX1) (N := 2) hx hb hts iX1_keep_X1 hown hG.1 hP 0 rfl rfl 1 (by decide) (hts _ fX1_keep_1) (fun _ h9 => h9) rfl dX1_keep_50 ?_
              refine lv_iconst (v := 1) hx hb dX1_keep_53 (by decide) ?_
              refine lv_iadd hx hb dX1_keep_54 ?_
              refine va_put (D := D) (ci := 1) (v := .int (j_25 + (1 : Int32))) (ty := .int) (C := RX1) (T := TX1) (N := 2) hx hb hts iX1_keep_X1 tyX1 tyX1_ok nmX1 hown hG.1 hP hD hS 0 rfl rfl 1 (by decide) (hts _ fX1_keep_1) (fun _ h9 => h9) rfl (by decide +kernel) rfl rfl (Nat.le_of_ble_eq_true rfl) dX1_keep_55 (fun H locs hP hD hS => ?_)
              have hP : va_P D cls9 ((wHI cI cR ah ak kd_46 (j_25 + (1 : Int32)) j_29 j_26 j_27 j_28 j_33 j_30 j_31 j_32 u_65 u_66 u_67 u_68 j_41 j_38 j_39 j_40 j_45 j_42 j_43 j_44) ++ (wR cI qah qan qL qroom qwidth qpowers qpp qcolumns qcount qnum)) H := hP
              have hD : va_D A ((wHI cI cR ah ak kd_46 (j_25 + (1 : Int32)) j_29 j_26 j_27 j_28 j_33 j_30 j_31 j_32 u_65 u_66 u_67 u_68 j_41 j_38 j_39 j_40 j_45 j_42 j_43 j_44) ++ (wR cI qah qan qL qroom qwidth qpowers qpp qcolumns qcount qnum)) := hD
              have he := Option.some.inj hq
              subst he
              exact hE kd_46 H locs _ _ dX1_keep_58 hP hD hS
            · have hq := it_f c_64 hq
              by_cases c_71 : j_25 = (3 : Int32)
              · have hq := it_t c_71 hq
                refine lv_asv (y := .ref (kd_46 6)) (by rw [c_71]; rfl) ?_
                refine lv_aload_n hx hb dX1_keep_44 rfl (lv_at hl 1 rfl) ?_
                obtain ⟨v_77, hq_76, hk⟩ := bd4_s hq
                obtain ⟨u_72, u_73, u_74, u_75⟩ := v_77
                have hq := hk _ _ _ _ rfl
                have hPc : va_P D cls9 [(kd_46 6, .inr (3, [.int (5 : Int32), .int (3 : Int32), .int (7 : Int32), .ref (kd_46 7), .int j_41, .int j_38, .int j_39])), (kd_46 7, .inl (cI, 105, .inl j_40)), (qah, .inr (3, [.int qroom, .int qwidth, .int qpowers, .ref qan, .int qpp, .int qcolumns, .int qcount])), (qan, .inl (cI, qL, .inl qnum))] H := hPsub hP [8, 9, 12, 13] rfl
                have hDc : va_D A [(kd_46 6, .inr (3, [.int (5 : Int32), .int (3 : Int32), .int (7 : Int32), .ref (kd_46 7), .int j_41, .int j_38, .int j_39])), (kd_46 7, .inl (cI, 105, .inl j_40)), (qah, .inr (3, [.int qroom, .int qwidth, .int qpowers, .ref qan, .int qpp, .int qcolumns, .int qcount])), (qan, .inl (cI, qL, .inl qnum))] := hD.sub [8, 9, 12, 13] (by decide +kernel) rfl
                refine callVP (wr := [(ah, .inr (1, [.ref ak, .int j_25])), (ak, .inl (cR, 5, .inr (.inr (.inr (.inr (kf5 (kd_46 0) (kd_46 2) (kd_46 4) (kd_46 6) (kd_46 8))))))), (kd_46 0, .inr (3, [.int (5 : Int32), .int (3 : Int32), .int (7 : Int32), .ref (kd_46 1), .int j_29, .int j_26, .int j_27])), (kd_46 1, .inl (cI, 105, .inl j_28)), (kd_46 2, .inr (3, [.int (5 : Int32), .int (3 : Int32), .int (7 : Int32), .ref (kd_46 3), .int j_33, .int j_30, .int j_31])), (kd_46 3, .inl (cI, 105, .inl j_32)), (kd_46 4, .inr (3, [.int (5 : Int32), .int (3 : Int32), .int (7 : Int32), .ref (kd_46 5), .int j_37, .int j_34, .int j_35])), (kd_46 5, .inl (cI, 105, .inl j_36)), (kd_46 8, .inr (3, [.int (5 : Int32), .int (3 : Int32), .int (7 : Int32), .ref (kd_46 9), .int j_45, .int j_42, .int j_43])), (kd_46 9, .inl (cI, 105, .inl j_44))]) (ws2 := ((wHI cI cR ah ak kd_46 j_25 j_29 j_26 j_27 j_28 j_33 j_30 j_31 j_32 j_37 j_34 j_35 j_36 u_72 u_73 u_74 u_75 j_45 j_42 j_43 j_44) ++ (wR cI qah qan qL qroom qwidth qpowers qpp qcolumns qcount qnum))) (gV (rest := []) ⟨hx, hb, hml, hown, hts⟩ hG hPc hDc 0 3 rfl rfl (mtX3_copyFrom l D cI cB cR (kd_46 6) (kd_46 7) qah qan H.size 105 (5 : Int32) (3 : Int32) (7 : Int32) j_41 j_38 j_39 j_40 qL qroom qwidth qpowers qpp qcolumns qcount qnum (u_72, u_73, u_74, u_75) hq_76) (cwV 1 hts gX1_keep_X3_copyFrom rfl rfl rfl ⟨rfl, hd_X3_copyFrom⟩ ⟨Nat.le_of_ble_eq_true rfl, Nat.le_of_ble_eq_true rfl⟩) rfl hl.1 rfl (Nat.le_of_ble_eq_true rfl) dX1_keep_45) hP hD hS hA [8, 9, 12, 13] [0, 1, 2, 3, 4, 5, 6, 7, 10, 11] [0, 1, 2, 3, 4, 5, 6, 7, 10, 11, 8, 9, 12, 13] rfl rfl (by decide +kernel) (by decide +kernel) rfl (by decide +kernel) (fun H locs hP hD hS => ?_)
                refine lv_aload_n hx hb dX1_keep_48 rfl (lv_at hl 0 rfl) ?_
                refine lv_dup hx hb dX1_keep_49 rfl ?_
                refine va_get (D := D) (ci := 1) (v := .int j_25) (C := RX1) (T := TX1) (N := 2) hx hb hts iX1_keep_X1 hown hG.1 hP 0 rfl rfl 1 (by decide) (hts _ fX1_keep_1) (fun _ h9 => h9) rfl dX1_keep_50 ?_
                refine lv_iconst (v := 1) hx hb dX1_keep_53 (by decide) ?_
                refine lv_iadd hx hb dX1_keep_54 ?_
                refine va_put (D := D) (ci := 1) (v := .int (j_25 + (1 : Int32))) (ty := .int) (C := RX1) (T := TX1) (N := 2) hx hb hts iX1_keep_X1 tyX1 tyX1_ok nmX1 hown hG.1 hP hD hS 0 rfl rfl 1 (by decide) (hts _ fX1_keep_1) (fun _ h9 => h9) rfl (by decide +kernel) rfl rfl (Nat.le_of_ble_eq_true rfl) dX1_keep_55 (fun H locs hP hD hS => ?_)
                have hP : va_P D cls9 ((wHI cI cR ah ak kd_46 (j_25 + (1 : Int32)) j_29 j_26 j_27 j_28 j_33 j_30 j_31 j_32 j_37 j_34 j_35 j_36 u_72 u_73 u_74 u_75 j_45 j_42 j_43 j_44) ++ (wR cI qah qan qL qroom qwidth qpowers qpp qcolumns qcount qnum)) H := hP
                have hD : va_D A ((wHI cI cR ah ak kd_46 (j_25 + (1 : Int32)) j_29 j_26 j_27 j_28 j_33 j_30 j_31 j_32 j_37 j_34 j_35 j_36 u_72 u_73 u_74 u_75 j_45 j_42 j_43 j_44) ++ (wR cI qah qan qL qroom qwidth qpowers qpp qcolumns qcount qnum)) := hD
                have he := Option.some.inj hq
                subst he
                exact hE kd_46 H locs _ _ dX1_keep_58 hP hD hS
              · have hq := it_f c_71 hq
                have c_78 := in5_4 h_49 c_50 c_57 c_64 c_71
                refine lv_asv (y := .ref (kd_46 8)) (by rw [c_78]; rfl) ?_
                refine lv_aload_n hx hb dX1_keep_44 rfl (lv_at hl 1 rfl) ?_
                obtain ⟨v_84, hq_83, hk⟩ := bd4_s hq
                obtain ⟨u_79, u_80, u_81, u_82⟩ := v_84
                have hq := hk _ _ _ _ rfl
                have hPc : va_P D cls9 [(kd_46 8, .inr (3, [.int (5 : Int32), .int (3 : Int32), .int (7 : Int32), .ref (kd_46 9), .int j_45, .int j_42, .int j_43])), (kd_46 9, .inl (cI, 105, .inl j_44)), (qah, .inr (3, [.int qroom, .int qwidth, .int qpowers, .ref qan, .int qpp, .int qcolumns, .int qcount])), (qan, .inl (cI, qL, .inl qnum))] H := hPsub hP [10, 11, 12, 13] rfl
                have hDc : va_D A [(kd_46 8, .inr (3, [.int (5 : Int32), .int (3 : Int32), .int (7 : Int32), .ref (kd_46 9), .int j_45, .int j_42, .int j_43])), (kd_46 9, .inl (cI, 105, .inl j_44)), (qah, .inr (3, [.int qroom, .int qwidth, .int qpowers, .ref qan, .int qpp, .int qcolumns, .int qcount])), (qan, .inl (cI, qL, .inl qnum))] := hD.sub [10, 11, 12, 13] (by decide +kernel) rfl
                refine callVP (wr := [(ah, .inr (1, [.ref ak, .int j_25])), (ak, .inl (cR, 5, .inr (.inr (.inr (.inr (kf5 (kd_46 0) (kd_46 2) (kd_46 4) (kd_46 6) (kd_46 8))))))), (kd_46 0, .inr (3, [.int (5 : Int32), .int (3 : Int32), .int (7 : Int32), .ref (kd_46 1), .int j_29, .int j_26, .int j_27])), (kd_46 1, .inl (cI, 105, .inl j_28)), (kd_46 2, .inr (3, [.int (5 : Int32), .int (3 : Int32), .int (7 : Int32), .ref (kd_46 3), .int j_33, .int j_30, .int j_31])), (kd_46 3, .inl (cI, 105, .inl j_32)), (kd_46 4, .inr (3, [.int (5 : Int32), .int (3 : Int32), .int (7 : Int32), .ref (kd_46 5), .int j_37, .int j_34, .int j_35])), (kd_46 5, .inl (cI, 105, .inl j_36)), (kd_46 6, .inr (3, [.int (5 : Int32), .int (3 : Int32), .int (7 : Int32), .ref (kd_46 7), .int j_41, .int j_38, .int j_39])), (kd_46 7, .inl (cI, 105, .inl j_40))]) (ws2 := ((wHI cI cR ah ak kd_46 j_25 j_29 j_26 j_27 j_28 j_33 j_30 j_31 j_32 j_37 j_34 j_35 j_36 j_41 j_38 j_39 j_40 u_79 u_80 u_81 u_82) ++ (wR cI qah qan qL qroom qwidth qpowers qpp qcolumns qcount qnum))) (gV (rest := []) ⟨hx, hb, hml, hown, hts⟩ hG hPc hDc 0 3 rfl rfl (mtX3_copyFrom l D cI cB cR (kd_46 8) (kd_46 9) qah qan H.size 105 (5 : Int32) (3 : Int32) (7 : Int32) j_45 j_42 j_43 j_44 qL qroom qwidth qpowers qpp qcolumns qcount qnum (u_79, u_80, u_81, u_82) hq_83) (cwV 1 hts gX1_keep_X3_copyFrom rfl rfl rfl ⟨rfl, hd_X3_copyFrom⟩ ⟨Nat.le_of_ble_eq_true rfl, Nat.le_of_ble_eq_true rfl⟩) rfl hl.1 rfl (Nat.le_of_ble_eq_true rfl) dX1_keep_45) hP hD hS hA [10, 11, 12, 13] [0, 1, 2, 3, 4, 5, 6, 7, 8, 9] [0, 1, 2, 3, 4, 5, 6, 7, 8, 9, 10, 11, 12, 13] rfl rfl (by decide +kernel) (by decide +kernel) rfl (by decide +kernel) (fun H locs hP hD hS => ?_)
                refine lv_aload_n hx hb dX1_keep_48 rfl (lv_at hl 0 rfl) ?_
                refine lv_dup hx hb dX1_keep_49 rfl ?_
                refine va_get (D := D) (ci := 1) (v := .int j_25) (C := RX1) (T := TX1) (N := 2) hx hb hts iX1_keep_X1 hown hG.1 hP 0 rfl rfl 1 (by decide) (hts _ fX1_keep_1) (fun _ h9 => h9) rfl dX1_keep_50 ?_
                refine lv_iconst (v := 1) hx hb dX1_keep_53 (by decide) ?_
                refine lv_iadd hx hb dX1_keep_54 ?_
                refine va_put (D := D) (ci := 1) (v := .int (j_25 + (1 : Int32))) (ty := .int) (C := RX1) (T := TX1) (N := 2) hx hb hts iX1_keep_X1 tyX1 tyX1_ok nmX1 hown hG.1 hP hD hS 0 rfl rfl 1 (by decide) (hts _ fX1_keep_1) (fun _ h9 => h9) rfl (by decide +kernel) rfl rfl (Nat.le_of_ble_eq_true rfl) dX1_keep_55 (fun H locs hP hD hS => ?_)
                have hP : va_P D cls9 ((wHI cI cR ah ak kd_46 (j_25 + (1 : Int32)) j_29 j_26 j_27 j_28 j_33 j_30 j_31 j_32 j_37 j_34 j_35 j_36 j_41 j_38 j_39 j_40 u_79 u_80 u_81 u_82) ++ (wR cI qah qan qL qroom qwidth qpowers qpp qcolumns qcount qnum)) H := hP
                have hD : va_D A ((wHI cI cR ah ak kd_46 (j_25 + (1 : Int32)) j_29 j_26 j_27 j_28 j_33 j_30 j_31 j_32 j_37 j_34 j_35 j_36 j_41 j_38 j_39 j_40 u_79 u_80 u_81 u_82) ++ (wR cI qah qan qL qroom qwidth qpowers qpp qcolumns qcount qnum)) := hD
                have he := Option.some.inj hq
                subst he
                exact hE kd_46 H locs _ _ dX1_keep_58 hP hD hS
  refine lv_icmp_lt (tgt := 16) hx hb dX1_keep_9 (by decide) (fun c_1 => ?_) (fun c_1 => ?_)
  · have hj1 := it_t c_1 hj1
    exact hJ1 kd count g0columns g0count g0num g0pp g1columns g1count g1num g1pp g2columns g2count g2num g2pp g3columns g3count g3num g3pp g4columns g4count g4num g4pp (Option.some.inj hj1).symm  H locs hP hD hS ls (lv_sub hl [0, 1] rfl)
  · have hj1 := it_f c_1 hj1
    refine lv_aload_n hx hb dX1_keep_12 rfl (lv_at hl 0 rfl) ?_
    obtain ⟨v_24, hq_23, hk⟩ := bd21_s hj1
    obtain ⟨u_2, u_3, u_4, u_5, u_6, u_7, u_8, u_9, u_10, u_11, u_12, u_13, u_14, u_15, u_16, u_17, u_18, u_19, u_20, u_21, u_22⟩ := v_24
    have hj1 := hk _ _ _ _ _ _ _ _ _ _ _ _ _ _ _ _ _ _ _ _ _ rfl
    have hPc : va_P D cls9 [(ah, .inr (1, [.ref ak, .int count])), (ak, .inl (cR, 5, .inr (.inr (.inr (.inr (kf5 (kd 0) (kd 2) (kd 4) (kd 6) (kd 8))))))), (kd 0, .inr (3, [.int (5 : Int32), .int (3 : Int32), .int (7 : Int32), .ref (kd 1), .int g0pp, .int g0columns, .int g0count])), (kd 1, .inl (cI, 105, .inl g0num)), (kd 2, .inr (3, [.int (5 : Int32), .int (3 : Int32), .int (7 : Int32), .ref (kd 3), .int g1pp, .int g1columns, .int g1count])), (kd 3, .inl (cI, 105, .inl g1num)), (kd 4, .inr (3, [.int (5 : Int32), .int (3 : Int32), .int (7 : Int32), .ref (kd 5), .int g2pp, .int g2columns, .int g2count])), (kd 5, .inl (cI, 105, .inl g2num)), (kd 6, .inr (3, [.int (5 : Int32), .int (3 : Int32), .int (7 : Int32), .ref (kd 7), .int g3pp, .int g3columns, .int g3count])), (kd 7, .inl (cI, 105, .inl g3num)), (kd 8, .inr (3, [.int (5 : Int32), .int (3 : Int32), .int (7 : Int32), .ref (kd 9), .int g4pp, .int g4columns, .int g4count])), (kd 9, .inl (cI, 105, .inl g4num))] H := hPsub hP [0, 1, 2, 3, 4, 5, 6, 7, 8, 9, 10, 11] rfl
    have hDc : va_D A [(ah, .inr (1, [.ref ak, .int count])), (ak, .inl (cR, 5, .inr (.inr (.inr (.inr (kf5 (kd 0) (kd 2) (kd 4) (kd 6) (kd 8))))))), (kd 0, .inr (3, [.int (5 : Int32), .int (3 : Int32), .int (7 : Int32), .ref (kd 1), .int g0pp, .int g0columns, .int g0count])), (kd 1, .inl (cI, 105, .inl g0num)), (kd 2, .inr (3, [.int (5 : Int32), .int (3 : Int32), .int (7 : Int32), .ref (kd 3), .int g1pp, .int g1columns, .int g1count])), (kd 3, .inl (cI, 105, .inl g1num)), (kd 4, .inr (3, [.int (5 : Int32), .int (3 : Int32), .int (7 : Int32), .ref (kd 5), .int g2pp, .int g2columns, .int g2count])), (kd 5, .inl (cI, 105, .inl g2num)), (kd 6, .inr (3, [.int (5 : Int32), .int (3 : Int32), .int (7 : Int32), .ref (kd 7), .int g3pp, .int g3columns, .int g3count])), (kd 7, .inl (cI, 105, .inl g3num)), (kd 8, .inr (3, [.int (5 : Int32), .int (3 : Int32), .int (7 : Int32), .ref (kd 9), .int g4pp, .int g4columns, .int g4count])), (kd 9, .inl (cI, 105, .inl g4num))] := hD.sub [0, 1, 2, 3, 4, 5, 6, 7, 8, 9, 10, 11] (by decide +kernel) rfl
    refine callVP (wr := [(qah, .inr (3, [.int qroom, .int qwidth, .int qpowers, .ref qan, .int qpp, .int qcolumns, .int qcount])), (qan, .inl (cI, qL, .inl qnum))]) (ws2 := ((wHI cI cR ah ak (rot5 kd) u_2 u_3 u_4 u_5 u_6 u_7 u_8 u_9 u_10 u_11 u_12 u_13 u_14 u_15 u_16 u_17 u_18 u_19 u_20 u_21 u_22) ++ (wR cI qah qan qL qroom qwidth qpowers qpp qcolumns qcount qnum))) (gV (rest := []) ⟨hx, hb, hml, hown, hts⟩ hG hPc hDc 0 1 rfl rfl (mtX1_forgetOldest l D cI cB cR ah ak kd H.size count g0pp g0columns g0count g0num g1pp g1columns g1count g1num g2pp g2columns g2count g2num g3pp g3columns g3count g3num g4pp g4columns g4count g4num (u_2, u_3, u_4, u_5, u_6, u_7, u_8, u_9, u_10, u_11, u_12, u_13, u_14, u_15, u_16, u_17, u_18, u_19, u_20, u_21, u_22) hq_23) (cwV 0 hts gX1_keep_X1_forgetOldest rfl rfl rfl ⟨rfl, hd_X1_forgetOldest⟩ ⟨Nat.le_of_ble_eq_true rfl, Nat.le_of_ble_eq_true rfl⟩) rfl hl.1 rfl (Nat.le_of_ble_eq_true rfl) dX1_keep_13) hP hD hS hA [0, 1, 2, 3, 4, 5, 6, 7, 8, 9, 10, 11] [12, 13] [2, 3, 4, 5, 6, 7, 8, 9, 10, 11, 12, 13, 0, 1] rfl rfl (by decide +kernel) (by decide +kernel) rfl (by decide +kernel) (fun H locs hP hD hS => ?_)
    exact hJ1 (rot5 kd) u_2 u_4 u_5 u_6 u_3 u_8 u_9 u_10 u_7 u_12 u_13 u_14 u_11 u_16 u_17 u_18 u_15 u_20 u_21 u_22 u_19 (Option.some.inj hj1).symm  H locs hP hD hS ls (lv_sub hl [0, 1] rfl)
abbrev rm_X1_restore : Room := { frames := 2, cells := 0, slots := 0, locals := 61 }
theorem iX1_restore_X1 : ∀ w ∈ wsX10, w ∈ wsX1_restore := fun _ h => (List.mem_cons_of_mem _ (List.mem_append_left _ (List.mem_append_right _ h)))
theorem fX1_restore_1 : Cond.fieldLink RX1 21 "PopovRows$History" "count" "I" ∈ wsX1_restore := (List.mem_cons_of_mem _ (List.mem_append_left _ (List.mem_append_left _ (List.mem_of_getElem? (i := 0) rfl))))
theorem fX1_restore_2 : Cond.fieldLink RX1 11 "PopovRows$History" "kept" "[LPopovRows$Rows;" ∈ wsX1_restore := (List.mem_cons_of_mem _ (List.mem_append_left _ (List.mem_append_left _ (List.mem_of_getElem? (i := 1) rfl))))
set_option maxHeartbeats 4000000 in
set_option maxRecDepth 100000 in
theorem mtX1_restore (l : Launch) (D : va_G) (cI cB cR : ClassId) (ah : Nat) (ak : Nat) (kd : Nat → Nat) (qah : Nat) (qan : Nat) (sz : Nat) (count : Int32) (g0pp : Int32) (g0columns : Int32) (g0count : Int32) (g0num : Nat → Int32) (g1pp : Int32) (g1columns : Int32) (g1count : Int32) (g1num : Nat → Int32) (g2pp : Int32) (g2columns : Int32) (g2count : Int32) (g2num : Nat → Int32) (g3pp : Int32) (g3columns : Int32) (g3count : Int32) (g3num : Nat → Int32) (g4pp : Int32) (g4columns : Int32) (g4count : Int32) (g4num : Nat → Int32) (qL : Nat) (qroom : Int32) (qwidth : Int32) (qpowers : Int32) (qpp : Int32) (qcolumns : Int32) (qcount : Int32) (qnum : Nat → Int32) (res : Int32 × Int32 × Int32 × Int32 × Int32 × (Nat → Int32)) (hf : fX1_restore count g0pp g0columns g0count g0num g1pp g1columns g1count g1num g2pp g2columns g2count g2num g3pp g3columns g3count g3num g4pp g4columns g4count g4num qL qpp qcolumns qcount qnum = some res) : Met l yX1_restore wsX1_restore rm_X1_restore (qP D cI cB cR [.ref ah, .ref qah] ((wHI cI cR ah ak kd count g0pp g0columns g0count g0num g1pp g1columns g1count g1num g2pp g2columns g2count g2num g3pp g3columns g3count g3num g4pp g4columns g4count g4num) ++ (wR cI qah qan qL qroom qwidth qpowers qpp qcolumns qcount qnum)) sz) (qZ D res.1 ((wHI cI cR ah ak kd count g0pp g0columns g0count g0num g1pp g1columns g1count g1num g2pp g2columns g2count g2num g3pp g3columns g3count g3num g4pp g4columns g4count g4num) ++ (wR cI qah qan qL qroom qwidth qpowers qpp qcolumns qcount qnum)) ((wHI cI cR ah ak kd res.2.1 g0pp g0columns g0count g0num g1pp g1columns g1count g1num g2pp g2columns g2count g2num g3pp g3columns g3count g3num g4pp g4columns g4count g4num) ++ (wR cI qah qan qL qroom qwidth qpowers res.2.2.1 res.2.2.2.1 res.2.2.2.2.1 res.2.2.2.2.2)) sz) 0 0 (va_A ((wHI cI cR ah ak kd count g0pp g0columns g0count g0num g1pp g1columns g1count g1num g2pp g2columns g2count g2num g3pp g3columns g3count g3num g4pp g4columns g4count g4num) ++ (wR cI qah qan qL qroom qwidth qpowers qpp qcolumns qcount qnum)) sz) := by
  refine entZ (plainFor_of_name (by decide)) rfl (Nat.le_of_ble_eq_true rfl) ?_
  intro p e s m args below meth c Q A ls S hG hP hD hA hl hE
  obtain ⟨hx, hb, hml, hown, hts⟩ := S
  have hown : s.vm.findClass RX1 = some m.cls := hown
  have hS : va_S A s.heap s.heap [] := va_S.rf
  have hl : lv_has ls 2 [(0, .ref ah), (1, .ref qah)] := hl
  have hq := hf
  unfold fX1_restore at hq
  obtain ⟨H, hH⟩ : ∃ H, H = s.heap := ⟨_, rfl⟩
  obtain ⟨locs, hlo⟩ : ∃ L : List Loc, L = [] := ⟨_, rfl⟩
  have hP : va_P D cls9 ((wHI cI cR ah ak kd count g0pp g0columns g0count g0num g1pp g1columns g1count g1num g2pp g2columns g2count g2num g3pp g3columns g3count g3num g4pp g4columns g4count g4num) ++ (wR cI qah qan qL qroom qwidth qpowers qpp qcolumns qcount qnum)) H := hH ▸ hP
  have hS : va_S A s.heap H locs := by rw [hH, hlo]; exact hS
  suffices hg : W p l e rm_X1_restore s m args below meth c H locs 0 0 Q (F0 m 0 ls []) by rw [hH, hlo] at hg; exact hg
  refine lv_aload_n hx hb dX1_restore_0 rfl (lv_at hl 0 rfl) ?_
  refine va_get (D := D) (ci := 1) (v := .int count) (C := RX1) (T := TX1) (N := 2) hx hb hts iX1_restore_X1 hown hG.1 hP 0 rfl rfl 1 (by decide) (hts _ fX1_restore_1) (fun _ h9 => h9) rfl dX1_restore_1 ?_
  refine lv_if_le (tgt := 19) hx hb dX1_restore_4 (by decide) (fun c_1 => ?_) (fun c_1 => ?_)
  · have hq := it_t c_1 hq
    refine lv_iconst (v := 0) hx hb dX1_restore_19 (by decide) ?_
    have he := Option.some.inj hq
    subst he
    exact hE H locs _ _ _ rfl (Or.inl rfl) dX1_restore_20 hP hD hS
  · have hq := it_f c_1 hq
    refine lv_aload_n hx hb dX1_restore_7 rfl (lv_at hl 0 rfl) ?_
    refine va_get (D := D) (ci := 1) (v := .int count) (C := RX1) (T := TX1) (N := 2) hx hb hts iX1_restore_X1 hown hG.1 hP 0 rfl rfl 1 (by decide) (hts _ fX1_restore_1) (fun _ h9 => h9) rfl dX1_restore_8 ?_
    refine lv_aload_n hx hb dX1_restore_11 rfl (lv_at hl 0 rfl) ?_
    refine va_get (D := D) (ci := 1) (v := .ref ak) (C := RX1) (T := TX1) (N := 2) hx hb hts iX1_restore_X1 hown hG.1 hP 0 rfl rfl 0 (by decide) (hts _ fX1_restore_2) (fun _ h9 => h9) rfl dX1_restore_12 ?_
    refine va_alen (v := (5 : Int32)) hx hb hG.1 hP 1 2 rfl rfl rfl dX1_restore_15 ?_
    refine lv_icmp_le (tgt := 21) hx hb dX1_restore_16 (by decide) (fun c_2 => ?_) (fun c_2 => ?_)
    · have hq := it_t c_2 hq
      refine lv_aload_n hx hb dX1_restore_21 rfl (lv_at hl 0 rfl) ?_
      refine lv_dup hx hb dX1_restore_22 rfl ?_
      refine va_get (D := D) (ci := 1) (v := .int count) (C := RX1) (T := TX1) (N := 2) hx hb hts iX1_restore_X1 hown hG.1 hP 0 rfl rfl 1 (by decide) (hts _ fX1_restore_1) (fun _ h9 => h9) rfl dX1_restore_23 ?_
      refine lv_iconst (v := 1) hx hb dX1_restore_26 (by decide) ?_
      refine lv_isub hx hb dX1_restore_27 ?_
      refine va_put (D := D) (ci := 1) (v := .int (count - (1 : Int32))) (ty := .int) (C := RX1) (T := TX1) (N := 2) hx hb hts iX1_restore_X1 tyX1 tyX1_ok nmX1 hown hG.1 hP hD hS 0 rfl rfl 1 (by decide) (hts _ fX1_restore_1) (fun _ h9 => h9) rfl (by decide +kernel) rfl rfl (Nat.le_of_ble_eq_true rfl) dX1_restore_28 (fun H locs hP hD hS => ?_)
      have hP : va_P D cls9 ((wHI cI cR ah ak kd (count - (1 : Int32)) g0pp g0columns g0count g0num g1pp g1columns g1count g1num g2pp g2columns g2count g2num g3pp g3columns g3count g3num g4pp g4columns g4count g4num) ++ (wR cI qah qan qL qroom qwidth qpowers qpp qcolumns qcount qnum)) H := hP
      have hD : va_D A ((wHI cI cR ah ak kd (count - (1 : Int32)) g0pp g0columns g0count g0num g1pp g1columns g1count g1num g2pp g2columns g2count g2num g3pp g3columns g3count g3num g4pp g4columns g4count g4num) ++ (wR cI qah qan qL qroom qwidth qpowers qpp qcolumns qcount qnum)) := hD
      refine lv_aload_n hx hb dX1_restore_31 rfl (lv_at hl 1 rfl) ?_
      refine lv_aload_n hx hb dX1_restore_32 rfl (lv_at hl 0 rfl) ?_
      refine va_get (D := D) (ci := 1) (v := .ref ak) (C := RX1) (T := TX1) (N := 2) hx hb hts iX1_restore_X1 hown hG.1 hP 0 rfl rfl 0 (by decide) (hts _ fX1_restore_2) (fun _ h9 => h9) rfl dX1_restore_33 ?_
      refine lv_aload_n hx hb dX1_restore_36 rfl (lv_at hl 0 rfl) ?_
      refine va_get (D := D) (ci := 1) (v := .int (count - (1 : Int32))) (C := RX1) (T := TX1) (N := 2) hx hb hts iX1_restore_X1 hown hG.1 hP 0 rfl rfl 1 (by decide) (hts _ fX1_restore_1) (fun _ h9 => h9) rfl dX1_restore_37 ?_
      obtain ⟨h_3, hq⟩ := gd_s hq
      refine va_aldq hx hb hG.1 hP 1 2 rfl rfl h_3 dX1_restore_40 ?_
      by_cases c_4 : (count - (1 : Int32)) = (0 : Int32)
      · have hq := it_t c_4 hq
        refine lv_asv (y := .ref (kd 0)) (by rw [c_4]; rfl) ?_
        obtain ⟨v_10, hq_9, hk⟩ := bd4_s hq
        obtain ⟨u_5, u_6, u_7, u_8⟩ := v_10
        have hq := hk _ _ _ _ rfl
        have hPc : va_P D cls9 [(qah, .inr (3, [.int qroom, .int qwidth, .int qpowers, .ref qan, .int qpp, .int qcolumns, .int qcount])), (qan, .inl (cI, qL, .inl qnum)), (kd 0, .inr (3, [.int (5 : Int32), .int (3 : Int32), .int (7 : Int32), .ref (kd 1), .int g0pp, .int g0columns, .int g0count])), (kd 1, .inl (cI, 105, .inl g0num))] H := hPsub hP [12, 13, 2, 3] rfl
        have hDc : va_D A [(qah, .inr (3, [.int qroom, .int qwidth, .int qpowers, .ref qan, .int qpp, .int qcolumns, .int qcount])), (qan, .inl (cI, qL, .inl qnum)), (kd 0, .inr (3, [.int (5 : Int32), .int (3 : Int32), .int (7 : Int32), .ref (kd 1), .int g0pp, .int g0columns, .int g0count])), (kd 1, .inl (cI, 105, .inl g0num))] := hD.sub [12, 13, 2, 3] (by decide +kernel) rfl
        refine callVP (wr := [(ah, .inr (1, [.ref ak, .int (count - (1 : Int32))])), (ak, .inl (cR, 5, .inr (.inr (.inr (.inr (kf5 (kd 0) (kd 2) (kd 4) (kd 6) (kd 8))))))), (kd 2, .inr (3, [.int (5 : Int32), .int (3 : Int32), .int (7 : Int32), .ref (kd 3), .int g1pp, .int g1columns, .int g1count])), (kd 3, .inl (cI, 105, .inl g1num)), (kd 4, .inr (3, [.int (5 : Int32), .int (3 : Int32), .int (7 : Int32), .ref (kd 5), .int g2pp, .int g2columns, .int g2count])), (kd 5, .inl (cI, 105, .inl g2num)), (kd 6, .inr (3, [.int (5 : Int32), .int (3 : Int32), .int (7 : Int32), .ref (kd 7), .int g3pp, .int g3columns, .int g3count])), (kd 7, .inl (cI, 105, .inl g3num)), (kd 8, .inr (3, [.int (5 : Int32), .int (3 : Int32), .int (7 : Int32), .ref (kd 9), .int g4pp, .int g4columns, .int g4count])), (kd 9, .inl (cI, 105, .inl g4num))]) (ws2 := ((wHI cI cR ah ak kd (count - (1 : Int32)) g0pp g0columns g0count g0num g1pp g1columns g1count g1num g2pp g2columns g2count g2num g3pp g3columns g3count g3num g4pp g4columns g4count g4num) ++ (wR cI qah qan qL qroom qwidth qpowers u_5 u_6 u_7 u_8))) (gV (rest := []) ⟨hx, hb, hml, hown, hts⟩ hG hPc hDc 0 3 rfl rfl (mtX3_copyFrom l D cI cB cR qah qan (kd 0) (kd 1) H.size qL qroom qwidth qpowers qpp qcolumns qcount qnum 105 (5 : Int32) (3 : Int32) (7 : Int32) g0pp g0columns g0count g0num (u_5, u_6, u_7, u_8) hq_9) (cwV 1 hts gX1_restore_X3_copyFrom rfl rfl rfl ⟨rfl, hd_X3_copyFrom⟩ ⟨Nat.le_of_ble_eq_true rfl, Nat.le_of_ble_eq_true rfl⟩) rfl hl.1 rfl (Nat.le_of_ble_eq_true rfl) dX1_restore_41) hP hD hS hA [12, 13, 2, 3] [0, 1, 4, 5, 6, 7, 8, 9, 10, 11] [0, 1, 12, 13, 2, 3, 4, 5, 6, 7, 8, 9, 10, 11] rfl rfl (by decide +kernel) (by decide +kernel) rfl (by decide +kernel) (fun H locs hP hD hS => ?_)
        refine lv_iconst (v := 1) hx hb dX1_restore_44 (by decide) ?_
        have he := Option.some.inj hq
        subst he
        exact hE H locs _ _ _ rfl (Or.inr rfl) dX1_restore_45 hP hD hS
      · have hq := it_f c_4 hq
        by_cases c_11 : (count - (1 : Int32)) = (1 : Int32)
        · have hq := it_t c_11 hq
          refine lv_asv (y := .ref (kd 2)) (by rw [c_11]; rfl) ?_
          obtain ⟨v_17, hq_16, hk⟩ := bd4_s hq
          obtain ⟨u_12, u_13, u_14, u_15⟩ := v_17
          have hq := hk _ _ _ _ rfl
          have hPc : va_P D cls9 [(qah, .inr (3, [.int qroom, .int qwidth, .int qpowers, .ref qan, .int qpp, .int qcolumns, .int qcount])), (qan, .inl (cI, qL, .inl qnum)), (kd 2, .inr (3, [.int (5 : Int32), .int (3 : Int32), .int (7 : Int32), .ref (kd 3), .int g1pp, .int g1columns, .int g1count])), (kd 3, .inl (cI, 105, .inl g1num))] H := hPsub hP [12, 13, 4, 5] rfl
          have hDc : va_D A [(qah, .inr (3, [.int qroom, .int qwidth, .int qpowers, .ref qan, .int qpp, .int qcolumns, .int qcount])), (qan, .inl (cI, qL, .inl qnum)), (kd 2, .inr (3, [.int (5 : Int32), .int (3 : Int32), .int (7 : Int32), .ref (kd 3), .int g1pp, .int g1columns, .int g1count])), (kd 3, .inl (cI, 105, .inl g1num))] := hD.sub [12, 13, 4, 5] (by decide +kernel) rfl
          refine callVP (wr := [(ah, .inr (1, [.ref ak, .int (count - (1 : Int32))])), (ak, .inl (cR, 5, .inr (.inr (.inr (.inr (kf5 (kd 0) (kd 2) (kd 4) (kd 6) (kd 8))))))), (kd 0, .inr (3, [.int (5 : Int32), .int (3 : Int32), .int (7 : Int32), .ref (kd 1), .int g0pp, .int g0columns, .int g0count])), (kd 1, .inl (cI, 105, .inl g0num)), (kd 4, .inr (3, [.int (5 : Int32), .int (3 : Int32), .int (7 : Int32), .ref (kd 5), .int g2pp, .int g2columns, .int g2count])), (kd 5, .inl (cI, 105, .inl g2num)), (kd 6, .inr (3, [.int (5 : Int32), .int (3 : Int32), .int (7 : Int32), .ref (kd 7), .int g3pp, .int g3columns, .int g3count])), (kd 7, .inl (cI, 105, .inl g3num)), (kd 8, .inr (3, [.int (5 : Int32), .int (3 : Int32), .int (7 : Int32), .ref (kd 9), .int g4pp, .int g4columns, .int g4count])), (kd 9, .inl (cI, 105, .inl g4num))]) (ws2 := ((wHI cI cR ah ak kd (count - (1 : Int32)) g0pp g0columns g0count g0num g1pp g1columns g1count g1num g2pp g2columns g2count g2num g3pp g3columns g3count g3num g4pp g4columns g4count g4num) ++ (wR cI qah qan qL qroom qwidth qpowers u_12 u_13 u_14 u_15))) (gV (rest := []) ⟨hx, hb, hml, hown, hts⟩ hG hPc hDc 0 3 rfl rfl (mtX3_copyFrom l D cI cB cR qah qan (kd 2) (kd 3) H.size qL qroom qwidth qpowers qpp qcolumns qcount qnum 105 (5 : Int32) (3 : Int32) (7 : Int32) g1pp g1columns g1count g1num (u_12, u_13, u_14, u_15) hq_16) (cwV 1 hts gX1_restore_X3_copyFrom rfl rfl rfl ⟨rfl, hd_X3_copyFrom⟩ ⟨Nat.le_of_ble_eq_true rfl, Nat.le_of_ble_eq_true rfl⟩) rfl hl.1 rfl (Nat.le_of_ble_eq_true rfl) dX1_restore_41) hP hD hS hA [12, 13, 4, 5] [0, 1, 2, 3, 6, 7, 8, 9, 10, 11] [0, 1, 2, 3, 12, 13, 4, 5, 6, 7, 8, 9, 10, 11] rfl rfl (by decide +kernel) (by decide +kernel) rfl (by decide +kernel) (fun H locs hP hD hS => ?_)
          refine lv_iconst (v := 1) hx hb dX1_restore_44 (by decide) ?_
          have he := Option.some.inj hq
          subst he
          exact hE H locs _ _ _ rfl (Or.inr rfl) dX1_restore_45 hP hD hS
        · have hq := it_f c_11 hq
          by_cases c_18 : (count - (1 : Int32)) = (2 : Int32)
          · have hq := it_t c_18 hq
            refine lv_asv (y := .ref (kd 4)) (by rw [c_18]; rfl) ?_
            obtain ⟨v_24, hq_23, hk⟩ := bd4_s hq
            obtain ⟨u_19, u_20, u_21, u_22⟩ := v_24
            have hq := hk _ _ _ _ rfl
            have hPc : va_P D cls9 [(qah, .inr (3, [.int qroom, .int qwidth, .int qpowers, .ref qan, .int qpp, .int qcolumns, .int qcount])), (qan, .inl (cI, qL, .inl qnum)), (kd 4, .inr (3, [.int (5 : Int32), .int (3 : Int32), .int (7 : Int32), .ref (kd 5), .int g2pp, .int g2columns, .int g2count])), (kd 5, .inl (cI, 105, .inl g2num))] H := hPsub hP [12, 13, 6, 7] rfl
            have hDc : va_D A [(qah, .inr (3, [.int qroom, .int qwidth, .int qpowers, .ref qan, .int qpp, .int qcolumns, .int qcount])), (qan, .inl (cI, qL, .inl qnum)), (kd 4, .inr (3, [.int (5 : Int32), .int (3 : Int32), .int (7 : Int32), .ref (kd 5), .int g2pp, .int g2columns, .int g2count])), (kd 5, .inl (cI, 105, .inl g2num))] := hD.sub [12, 13, 6, 7] (by decide +kernel) rfl
            refine callVP (wr := [(ah, .inr (1, [.ref ak, .int (count - (1 : Int32))])), (ak, .inl (cR, 5, .inr (.inr (.inr (.inr (kf5 (kd 0) (kd 2) (kd 4) (kd 6) (kd 8))))))), (kd 0, .inr (3, [.int (5 : Int32), .int (3 : Int32), .int (7 : Int32), .ref (kd 1), .int g0pp, .int g0columns, .int g0count])), (kd 1, .inl (cI, 105, .inl g0num)), (kd 2, .inr (3, [.int (5 : Int32), .int (3 : Int32), .int (7 : Int32), .ref (kd 3), .int g1pp, .int g1columns, .int g1count])), (kd 3, .inl (cI, 105, .inl g1num)), (kd 6, .inr (3, [.int (5 : Int32), .int (3 : Int32), .int (7 : Int32), .ref (kd 7), .int g3pp, .int g3columns, .int g3count])), (kd 7, .inl (cI, 105, .inl g3num)), (kd 8, .inr (3, [.int (5 : Int32), .int (3 : Int32), .int (7 : Int32), .ref (kd 9), .int g4pp, .int g4columns, .int g4count])), (kd 9, .inl (cI, 105, .inl g4num))]) (ws2 := ((wHI cI cR ah ak kd (count - (1 : Int32)) g0pp g0columns g0count g0num g1pp g1columns g1count g1num g2pp g2columns g2count g2num g3pp g3columns g3count g3num g4pp g4columns g4count g4num) ++ (wR cI qah qan qL qroom qwidth qpowers u_19 u_20 u_21 u_22))) (gV (rest := []) ⟨hx, hb, hml, hown, hts⟩ hG hPc hDc 0 3 rfl rfl (mtX3_copyFrom l D cI cB cR qah qan (kd 4) (kd 5) H.size qL qroom qwidth qpowers qpp qcolumns qcount qnum 105 (5 : Int32) (3 : Int32) (7 : Int32) g2pp g2columns g2count g2num (u_19, u_20, u_21, u_22) hq_23) (cwV 1 hts gX1_restore_X3_copyFrom rfl rfl rfl ⟨rfl, hd_X3_copyFrom⟩ ⟨Nat.le_of_ble_eq_true rfl, Nat.le_of_ble_eq_true rfl⟩) rfl hl.1 rfl (Nat.le_of_ble_eq_true rfl) dX1_restore_41) hP hD hS hA [12, 13, 6, 7] [0, 1, 2, 3, 4, 5, 8, 9, 10, 11] [0, 1, 2, 3, 4, 5, 12, 13, 6, 7, 8, 9, 10, 11] rfl rfl (by decide +kernel) (by decide +kernel) rfl (by decide +kernel) (fun H locs hP hD hS => ?_)
            refine lv_iconst (v := 1) hx hb dX1_restore_44 (by decide) ?_
            have he := Option.some.inj hq
            subst he
            exact hE H locs _ _ _ rfl (Or.inr rfl) dX1_restore_45 hP hD hS
          · have hq := it_f c_18 hq
            by_cases c_25 : (count - (1 : Int32)) = (3 : Int32)
            · have hq := it_t c_25 hq
              refine lv_asv (y := .ref (kd 6)) (by rw [c_25]; rfl) ?_
              obtain ⟨v_31, hq_30, hk⟩ := bd4_s hq
              obtain ⟨u_26, u_27, u_28, u_29⟩ := v_31
              have hq := hk _ _ _ _ rfl
              have hPc : va_P D cls9 [(qah, .inr (3, [.int qroom, .int qwidth, .int qpowers, .ref qan, .int qpp, .int qcolumns, .int qcount])), (qan, .inl (cI, qL, .inl qnum)), (kd 6, .inr (3, [.int (5 : Int32), .int (3 : Int32), .int (7 : Int32), .ref (kd 7), .int g3pp, .int g3columns, .int g3count])), (kd 7, .inl (cI, 105, .inl g3num))] H := hPsub hP [12, 13, 8, 9] rfl
              have hDc : va_D A [(qah, .inr (3, [.int qroom, .int qwidth, .int qpowers, .ref qan, .int qpp, .int qcolumns, .int qcount])), (qan, .inl (cI, qL, .inl qnum)), (kd 6, .inr (3, [.int (5 : Int32), .int (3 : Int32), .int (7 : Int32), .ref (kd 7), .int g3pp, .int g3columns, .int g3count])), (kd 7, .inl (cI, 105, .inl g3num))] := hD.sub [12, 13, 8, 9] (by decide +kernel) rfl
              refine callVP (wr := [(ah, .inr (1, [.ref ak, .int (count - (1 : Int32))])), (ak, .inl (cR, 5, .inr (.inr (.inr (.inr (kf5 (kd 0) (kd 2) (kd 4) (kd 6) (kd 8))))))), (kd 0, .inr (3, [.int (5 : Int32), .int (3 : Int32), .int (7 : Int32), .ref (kd 1), .int g0pp, .int g0columns, .int g0count])), (kd 1, .inl (cI, 105, .inl g0num)), (kd 2, .inr (3, [.int (5 : Int32), .int (3 : Int32), .int (7 : Int32), .ref (kd 3), .int g1pp, .int g1columns, .int g1count])), (kd 3, .inl (cI, 105, .inl g1num)), (kd 4, .inr (3, [.int (5 : Int32), .int (3 : Int32), .int (7 : Int32), .ref (kd 5), .int g2pp, .int g2columns, .int g2count])), (kd 5, .inl (cI, 105, .inl g2num)), (kd 8, .inr (3, [.int (5 : Int32), .int (3 : Int32), .int (7 : Int32), .ref (kd 9), .int g4pp, .int g4columns, .int g4count])), (kd 9, .inl (cI, 105, .inl g4num))]) (ws2 := ((wHI cI cR ah ak kd (count - (1 : Int32)) g0pp g0columns g0count g0num g1pp g1columns g1count g1num g2pp g2columns g2count g2num g3pp g3columns g3count g3num g4pp g4columns g4count g4num) ++ (wR cI qah qan qL qroom qwidth qpowers u_26 u_27 u_28 u_29))) (gV (rest := []) ⟨hx, hb, hml, hown, hts⟩ hG hPc hDc 0 3 rfl rfl (mtX3_copyFrom l D cI cB cR qah qan (kd 6) (kd 7) H.size qL qroom qwidth qpowers qpp qcolumns qcount qnum 105 (5 : Int32) (3 : Int32) (7 : Int32) g3pp g3columns g3count g3num (u_26, u_27, u_28, u_29) hq_30) (cwV 1 hts gX1_restore_X3_copyFrom rfl rfl rfl ⟨rfl, hd_X3_copyFrom⟩ ⟨Nat.le_of_ble_eq_true rfl, Nat.le_of_ble_eq_true rfl⟩) rfl hl.1 rfl (Nat.le_of_ble_eq_true rfl) dX1_restore_41) hP hD hS hA [12, 13, 8, 9] [0, 1, 2, 3, 4, 5, 6, 7, 10, 11] [0, 1, 2, 3, 4, 5, 6, 7, 12, 13, 8, 9, 10, 11] rfl rfl (by decide +kernel) (by decide +kernel) rfl (by decide +kernel) (fun H locs hP hD hS => ?_)
              refine lv_iconst (v := 1) hx hb dX1_restore_44 (by decide) ?_
              have he := Option.some.inj hq
              subst he
              exact hE H locs _ _ _ rfl (Or.inr rfl) dX1_restore_45 hP hD hS
            · have hq := it_f c_25 hq
              have c_32 := in5_4 h_3 c_4 c_11 c_18 c_25
              refine lv_asv (y := .ref (kd 8)) (by rw [c_32]; rfl) ?_
              obtain ⟨v_38, hq_37, hk⟩ := bd4_s hq
              obtain ⟨u_33, u_34, u_35, u_36⟩ := v_38
              have hq := hk _ _ _ _ rfl
              have hPc : va_P D cls9 [(qah, .inr (3, [.int qroom, .int qwidth, .int qpowers, .ref qan, .int qpp, .int qcolumns, .int qcount])), (qan, .inl (cI, qL, .inl qnum)), (kd 8, .inr (3, [.int (5 : Int32), .int (3 : Int32), .int (7 : Int32), .ref (kd 9), .int g4pp, .int g4columns, .int g4count])), (kd 9, .inl (cI, 105, .inl g4num))] H := hPsub hP [12, 13, 10, 11] rfl
              have hDc : va_D A [(qah, .inr (3, [.int qroom, .int qwidth, .int qpowers, .ref qan, .int qpp, .int qcolumns, .int qcount])), (qan, .inl (cI, qL, .inl qnum)), (kd 8, .inr (3, [.int (5 : Int32), .int (3 : Int32), .int (7 : Int32), .ref (kd 9), .int g4pp, .int g4columns, .int g4count])), (kd 9, .inl (cI, 105, .inl g4num))] := hD.sub [12, 13, 10, 11] (by decide +kernel) rfl
              refine callVP (wr := [(ah, .inr (1, [.ref ak, .int (count - (1 : Int32))])), (ak, .inl (cR, 5, .inr (.inr (.inr (.inr (kf5 (kd 0) (kd 2) (kd 4) (kd 6) (kd 8))))))), (kd 0, .inr (3, [.int (5 : Int32), .int (3 : Int32), .int (7 : Int32), .ref (kd 1), .int g0pp, .int g0columns, .int g0count])), (kd 1, .inl (cI, 105, .inl g0num)), (kd 2, .inr (3, [.int (5 : Int32), .int (3 : Int32), .int (7 : Int32), .ref (kd 3), .int g1pp, .int g1columns, .int g1count])), (kd 3, .inl (cI, 105, .inl g1num)), (kd 4, .inr (3, [.int (5 : Int32), .int (3 : Int32), .int (7 : Int32), .ref (kd 5), .int g2pp, .int g2columns, .int g2count])), (kd 5, .inl (cI, 105, .inl g2num)), (kd 6, .inr (3, [.int (5 : Int32), .int (3 : Int32), .int (7 : Int32), .ref (kd 7), .int g3pp, .int g3columns, .int g3count])), (kd 7, .inl (cI, 105, .inl g3num))]) (ws2 := ((wHI cI cR ah ak kd (count - (1 : Int32)) g0pp g0columns g0count g0num g1pp g1columns g1count g1num g2pp g2columns g2count g2num g3pp g3columns g3count g3num g4pp g4columns g4count g4num) ++ (wR cI qah qan qL qroom qwidth qpowers u_33 u_34 u_35 u_36))) (gV (rest := []) ⟨hx, hb, hml, hown, hts⟩ hG hPc hDc 0 3 rfl rfl (mtX3_copyFrom l D cI cB cR qah qan (kd 8) (kd 9) H.size qL qroom qwidth qpowers qpp qcolumns qcount qnum 105 (5 : Int32) (3 : Int32) (7 : Int32) g4pp g4columns g4count g4num (u_33, u_34, u_35, u_36) hq_37) (cwV 1 hts gX1_restore_X3_copyFrom rfl rfl rfl ⟨rfl, hd_X3_copyFrom⟩ ⟨Nat.le_of_ble_eq_true rfl, Nat.le_of_ble_eq_true rfl⟩) rfl hl.1 rfl (Nat.le_of_ble_eq_true rfl) dX1_restore_41) hP hD hS hA [12, 13, 10, 11] [0, 1, 2, 3, 4, 5, 6, 7, 8, 9] [0, 1, 2, 3, 4, 5, 6, 7, 8, 9, 12, 13, 10, 11] rfl rfl (by decide +kernel) (by decide +kernel) rfl (by decide +kernel) (fun H locs hP hD hS => ?_)
              refine lv_iconst (v := 1) hx hb dX1_restore_44 (by decide) ?_
              have he := Option.some.inj hq
              subst he
              exact hE H locs _ _ _ rfl (Or.inr rfl) dX1_restore_45 hP hD hS
    · have hq := it_f c_2 hq
      refine lv_iconst (v := 0) hx hb dX1_restore_19 (by decide) ?_
      have he := Option.some.inj hq
      subst he
      exact hE H locs _ _ _ rfl (Or.inl rfl) dX1_restore_20 hP hD hS
abbrev rm_X7_changePrime : Room := { frames := 1, cells := 0, slots := 0, locals := 22 }
theorem iX7_changePrime_X7 : ∀ w ∈ wsX70, w ∈ wsX7_changePrime := fun _ h => (List.mem_cons_of_mem _ (List.mem_append_left _ (List.mem_append_right _ h)))
theorem fX7_changePrime_1 : Cond.fieldLink RX7 13 "PopovRows" "now" "LPopovRows$Rows;" ∈ wsX7_changePrime := (List.mem_cons_of_mem _ (List.mem_append_left _ (List.mem_append_left _ (List.mem_of_getElem? (i := 0) rfl))))
theorem iX7_changePrime_X3 : ∀ w ∈ wsX30, w ∈ wsX7_changePrime := fun _ h => (List.mem_cons_of_mem _ (List.mem_append_right _ h))
theorem fX7_changePrime_3 : Cond.fieldLink RX7 268 "PopovRows$Rows" "p" "I" ∈ wsX7_changePrime := (List.mem_cons_of_mem _ (List.mem_append_left _ (List.mem_append_left _ (List.mem_of_getElem? (i := 1) rfl))))
theorem fX7_changePrime_4 : Cond.fieldLink RX7 184 "PopovRows$Rows" "columns" "I" ∈ wsX7_changePrime := (List.mem_cons_of_mem _ (List.mem_append_left _ (List.mem_append_left _ (List.mem_of_getElem? (i := 2) rfl))))
set_option maxHeartbeats 4000000 in
set_option maxRecDepth 100000 in
theorem mtX7_changePrime (l : Launch) (D : va_G) (cI cB cR : ClassId) (ad : Nat → Nat) (kd : Nat → Nat) (sz : Nat) (badCalls : Int32) (noCalls : Int32) (fullCalls : Int32) (stopError : Int32) (stopIndex : Int32) (npp : Int32) (ncolumns : Int32) (ncount : Int32) (nnum : Nat → Int32) (bpp : Int32) (bcolumns : Int32) (bcount : Int32) (bnum : Nat → Int32) (gcount : Int32) (gg0pp : Int32) (gg0columns : Int32) (gg0count : Int32) (gg0num : Nat → Int32) (gg1pp : Int32) (gg1columns : Int32) (gg1count : Int32) (gg1num : Nat → Int32) (gg2pp : Int32) (gg2columns : Int32) (gg2count : Int32) (gg2num : Nat → Int32) (gg3pp : Int32) (gg3columns : Int32) (gg3count : Int32) (gg3num : Nat → Int32) (gg4pp : Int32) (gg4columns : Int32) (gg4count : Int32) (gg4num : Nat → Int32) (vlpp : Int32) (vlcolumns : Int32) (vlcount : Int32) (vlnum : Nat → Int32) (vfpp : Int32) (vfcolumns : Int32) (vfcount : Int32) (vfnum : Nat → Int32) (vstarget : Int32) (vssource : Int32) (vsnumber : Int32) (vspower : Int32) (vszcount : Int32) (vszplaces : Nat → Int32) (vycount : Int32) (vyplaces : Nat → Int32) (wlpp : Int32) (wlcolumns : Int32) (wlcount : Int32) (wlnum : Nat → Int32) (wfpp : Int32) (wfcolumns : Int32) (wfcount : Int32) (wfnum : Nat → Int32) (wstarget : Int32) (wssource : Int32) (wsnumber : Int32) (wspower : Int32) (wszcount : Int32) (wszplaces : Nat → Int32) (wycount : Int32) (wyplaces : Nat → Int32) (dchosenCount : Int32) (dnumbers : Nat → Int32) (dchosen : Nat → Int32) (starget : Int32) (ssource : Int32) (snumber : Int32) (spower : Int32) (szcount : Int32) (szplaces : Nat → Int32) (clength : Int32) (cplace : Int32) (cletter : Int32) (crowColumns : Int32) (cbytes : Nat → Int32) (cdigits : Nat → Int32) (centries : Nat → Int32) (a0 : Int32) (res : Int32 × Int32 × Int32 × Int32) (hf : fX7_changePrime npp ncolumns ncount a0 = some res) : Met l yX7_changePrime wsX7_changePrime rm_X7_changePrime (qP D cI cB cR [.ref (ad 0), .int a0] (wPR cI cB cR ad kd badCalls noCalls fullCalls stopError stopIndex npp ncolumns ncount nnum bpp bcolumns bcount bnum gcount gg0pp gg0columns gg0count gg0num gg1pp gg1columns gg1count gg1num gg2pp gg2columns gg2count gg2num gg3pp gg3columns gg3count gg3num gg4pp gg4columns gg4count gg4num vlpp vlcolumns vlcount vlnum vfpp vfcolumns vfcount vfnum vstarget vssource vsnumber vspower vszcount vszplaces vycount vyplaces wlpp wlcolumns wlcount wlnum wfpp wfcolumns wfcount wfnum wstarget wssource wsnumber wspower wszcount wszplaces wycount wyplaces dchosenCount dnumbers dchosen starget ssource snumber spower szcount szplaces clength cplace cletter crowColumns cbytes cdigits centries) sz) (qI D res.1 (wPR cI cB cR ad kd badCalls noCalls fullCalls stopError stopIndex npp ncolumns ncount nnum bpp bcolumns bcount bnum gcount gg0pp gg0columns gg0count gg0num gg1pp gg1columns gg1count gg1num gg2pp gg2columns gg2count gg2num gg3pp gg3columns gg3count gg3num gg4pp gg4columns gg4count gg4num vlpp vlcolumns vlcount vlnum vfpp vfcolumns vfcount vfnum vstarget vssource vsnumber vspower vszcount vszplaces vycount vyplaces wlpp wlcolumns wlcount wlnum wfpp wfcolumns wfcount wfnum wstarget wssource wsnumber wspower wszcount wszplaces wycount wyplaces dchosenCount dnumbers dchosen starget ssource snumber spower szcount szplaces clength cplace cletter crowColumns cbytes cdigits centries) (wPR cI cB cR ad kd badCalls noCalls fullCalls stopError stopIndex res.2.1 res.2.2.1 res.2.2.2 nnum bpp bcolumns bcount bnum gcount gg0pp gg0columns gg0count gg0num gg1pp gg1columns gg1count gg1num gg2pp gg2columns gg2count gg2num gg3pp gg3columns gg3count gg3num gg4pp gg4columns gg4count gg4num vlpp vlcolumns vlcount vlnum vfpp vfcolumns vfcount vfnum vstarget vssource vsnumber vspower vszcount vszplaces vycount vyplaces wlpp wlcolumns wlcount wlnum wfpp wfcolumns wfcount wfnum wstarget wssource wsnumber wspower wszcount wszplaces wycount wyplaces dchosenCount dnumbers dchosen starget ssource snumber spower szcount szplaces clength cplace cletter crowColumns cbytes cdigits centries) sz) 0 0 (va_A (wPR cI cB cR ad kd badCalls noCalls fullCalls stopError stopIndex npp ncolumns ncount nnum bpp bcolumns bcount bnum gcount gg0pp gg0columns gg0count gg0num gg1pp gg1columns gg1count gg1num gg2pp gg2columns gg2count gg2num gg3pp gg3columns gg3count gg3num gg4pp gg4columns gg4count gg4num vlpp vlcolumns vlcount vlnum vfpp vfcolumns vfcount vfnum vstarget vssource vsnumber vspower vszcount vszplaces vycount vyplaces wlpp wlcolumns wlcount wlnum wfpp wfcolumns wfcount wfnum wstarget wssource wsnumber wspower wszcount wszplaces wycount wyplaces dchosenCount dnumbers dchosen starget ssource snumber spower szcount szplaces clength cplace cletter crowColumns cbytes cdigits centries) sz) := by
  refine entI (plainFor_of_name (by decide)) rfl (Nat.le_of_ble_eq_true rfl) ?_
  intro p e s m args below meth c Q A ls S hG hP hD hA hl hE
  obtain ⟨hx, hb, hml, hown, hts⟩ := S
  have hown : s.vm.findClass RX7 = some m.cls := hown
  have hS : va_S A s.heap s.heap [] := va_S.rf
  have hl : lv_has ls 3 [(0, .ref (ad 0)), (1, .int a0)] := hl
  have hq := hf
  unfold fX7_changePrime at hq
  obtain ⟨H, hH⟩ : ∃ H, H = s.heap := ⟨_, rfl⟩
  obtain ⟨locs, hlo⟩ : ∃ L : List Loc, L = [] := ⟨_, rfl⟩
  have hP : va_P D cls9 (wPR cI cB cR ad kd badCalls noCalls fullCalls stopError stopIndex npp ncolumns ncount nnum bpp bcolumns bcount bnum gcount gg0pp gg0columns gg0count gg0num gg1pp gg1columns gg1count gg1num gg2pp gg2columns gg2count gg2num gg3pp gg3columns gg3count gg3num gg4pp gg4columns gg4count gg4num vlpp vlcolumns vlcount vlnum vfpp vfcolumns vfcount vfnum vstarget vssource vsnumber vspower vszcount vszplaces vycount vyplaces wlpp wlcolumns wlcount wlnum wfpp wfcolumns wfcount wfnum wstarget wssource wsnumber wspower wszcount wszplaces wycount wyplaces dchosenCount dnumbers dchosen starget ssource snumber spower szcount szplaces clength cplace cletter crowColumns cbytes cdigits centries) H := hH ▸ hP
  have hS : va_S A s.heap H locs := by rw [hH, hlo]; exact hS
  suffices hg : W p l e rm_X7_changePrime s m args below meth c H locs 0 0 Q (F0 m 0 ls []) by rw [hH, hlo] at hg; exact hg
  refine lv_iload_n hx hb dX7_changePrime_0 rfl (lv_at hl 1 rfl) ?_
  obtain ⟨v_3, hq_2, hk⟩ := bd1_s hq
  obtain ⟨r_1, rfl⟩ : ∃ y, y = v_3 := ⟨_, rfl⟩
  have hq := hk _ rfl
  refine callZ0 (gS (rest := []) ⟨hx, hb, hml, hown, hts⟩ hG vaP0 (vaD0 (A := A)) (mtX7_isPrime l D cI cB cR H.size a0 r_1 hq_2) (va_cwS 1 hts gX7_changePrime_X7_isPrime rfl rfl rfl hd_X7_isPrime ⟨Nat.le_of_ble_eq_true rfl, Nat.le_of_ble_eq_true rfl⟩) rfl hl.1 rfl (Nat.le_of_ble_eq_true rfl) dX7_changePrime_1) hP hS hA (fun H locs z_4 hP hS => ?_)
  refine lv_if_ne (tgt := 10) hx hb dX7_changePrime_4 (by decide) (fun c_5 => ?_) (fun c_5 => ?_)
  · have hq := it_f c_5 hq
    refine lv_aload_n hx hb dX7_changePrime_10 rfl (lv_at hl 0 rfl) ?_
    refine va_get (D := D) (ci := 7) (v := .ref (ad 1)) (C := RX7) (T := TX7) (N := 13) hx hb hts iX7_changePrime_X7 hown hG.1 hP 0 rfl rfl 0 (by decide) (hts _ fX7_changePrime_1) (fun _ h9 => h9) rfl dX7_changePrime_11 ?_
    refine va_get (D := D) (ci := 3) (v := .int npp) (C := RX3) (T := TX3) (N := 7) hx hb hts iX7_changePrime_X3 hown hG.1 hP 1 rfl rfl 4 (by decide) (hts _ fX7_changePrime_3) (fun _ h9 => h9) rfl dX7_changePrime_14 ?_
    refine lv_istore_n (lv' := [(2, .int npp), (0, .ref (ad 0)), (1, .int a0)]) hx hb dX7_changePrime_17 rfl hl (by decide) rfl (fun ls hl => ?_)
    refine lv_aload_n hx hb dX7_changePrime_18 rfl (lv_at hl 1 rfl) ?_
    refine va_get (D := D) (ci := 7) (v := .ref (ad 1)) (C := RX7) (T := TX7) (N := 13) hx hb hts iX7_changePrime_X7 hown hG.1 hP 0 rfl rfl 0 (by decide) (hts _ fX7_changePrime_1) (fun _ h9 => h9) rfl dX7_changePrime_19 ?_
    refine lv_iload_n hx hb dX7_changePrime_22 rfl (lv_at hl 2 rfl) ?_
    refine lv_aload_n hx hb dX7_changePrime_23 rfl (lv_at hl 1 rfl) ?_
    refine va_get (D := D) (ci := 7) (v := .ref (ad 1)) (C := RX7) (T := TX7) (N := 13) hx hb hts iX7_changePrime_X7 hown hG.1 hP 0 rfl rfl 0 (by decide) (hts _ fX7_changePrime_1) (fun _ h9 => h9) rfl dX7_changePrime_24 ?_
    refine va_get (D := D) (ci := 3) (v := .int ncolumns) (C := RX3) (T := TX3) (N := 7) hx hb hts iX7_changePrime_X3 hown hG.1 hP 1 rfl rfl 5 (by decide) (hts _ fX7_changePrime_4) (fun _ h9 => h9) rfl dX7_changePrime_27 ?_
    obtain ⟨v_10, hq_9, hk⟩ := bd3_s hq
    obtain ⟨u_6, u_7, u_8⟩ := v_10
    have hq := hk _ _ _ rfl
    have hPc : va_P D cls9 [(ad 1, .inr (3, [.int (5 : Int32), .int (3 : Int32), .int (7 : Int32), .ref (ad 2), .int npp, .int ncolumns, .int ncount])), (ad 2, .inl (cI, 105, .inl nnum))] H := hPsub hP [1, 2] rfl
    have hDc : va_D A [(ad 1, .inr (3, [.int (5 : Int32), .int (3 : Int32), .int (7 : Int32), .ref (ad 2), .int npp, .int ncolumns, .int ncount])), (ad 2, .inl (cI, 105, .inl nnum))] := hD.sub [1, 2] (by decide +kernel) rfl
    refine callVP (wr := [(ad 0, .inr (7, [.ref (ad 1), .ref (ad 3), .ref (ad 5), .ref (ad 7), .ref (ad 17), .ref (ad 27), .ref (ad 30), .ref (ad 33), .int badCalls, .int noCalls, .int fullCalls, .int stopError, .int stopIndex])), (ad 3, .inr (3, [.int (5 : Int32), .int (3 : Int32), .int (7 : Int32), .ref (ad 4), .int bpp, .int bcolumns, .int bcount])), (ad 4, .inl (cI, 105, .inl bnum)), (ad 5, .inr (1, [.ref (ad 6), .int gcount])), (ad 6, .inl (cR, 5, .inr (.inr (.inr (.inr (kf5 (kd 0) (kd 2) (kd 4) (kd 6) (kd 8))))))), (kd 0, .inr (3, [.int (5 : Int32), .int (3 : Int32), .int (7 : Int32), .ref (kd 1), .int gg0pp, .int gg0columns, .int gg0count])), (kd 1, .inl (cI, 105, .inl gg0num)), (kd 2, .inr (3, [.int (5 : Int32), .int (3 : Int32), .int (7 : Int32), .ref (kd 3), .int gg1pp, .int gg1columns, .int gg1count])), (kd 3, .inl (cI, 105, .inl gg1num)), (kd 4, .inr (3, [.int (5 : Int32), .int (3 : Int32), .int (7 : Int32), .ref (kd 5), .int gg2pp, .int gg2columns, .int gg2count])), (kd 5, .inl (cI, 105, .inl gg2num)), (kd 6, .inr (3, [.int (5 : Int32), .int (3 : Int32), .int (7 : Int32), .ref (kd 7), .int gg3pp, .int gg3columns, .int gg3count])), (kd 7, .inl (cI, 105, .inl gg3num)), (kd 8, .inr (3, [.int (5 : Int32), .int (3 : Int32), .int (7 : Int32), .ref (kd 9), .int gg4pp, .int gg4columns, .int gg4count])), (kd 9, .inl (cI, 105, .inl gg4num)), (ad 7, .inr (2, [.ref (ad 8), .ref (ad 10), .ref (ad 12), .ref (ad 15)])), (ad 8, .inr (3, [.int (5 : Int32), .int (8 : Int32), .int (25 : Int32), .ref (ad 9), .int vlpp, .int vlcolumns, .int vlcount])), (ad 9, .inl (cI, 1000, .inl vlnum)), (ad 10, .inr (3, [.int (1 : Int32), .int (8 : Int32), .int (25 : Int32), .ref (ad 11), .int vfpp, .int vfcolumns, .int vfcount])), (ad 11, .inl (cI, 200, .inl vfnum)), (ad 12, .inr (6, [.ref (ad 13), .int vstarget, .int vssource, .int vsnumber, .int vspower])), (ad 13, .inr (5, [.ref (ad 14), .int vszcount])), (ad 14, .inl (cI, 5, .inl vszplaces)), (ad 15, .inr (5, [.ref (ad 16), .int vycount])), (ad 16, .inl (cI, 5, .inl vyplaces)), (ad 17, .inr (2, [.ref (ad 18), .ref (ad 20), .ref (ad 22), .ref (ad 25)])), (ad 18, .inr (3, [.int (5 : Int32), .int (8 : Int32), .int (25 : Int32), .ref (ad 19), .int wlpp, .int wlcolumns, .int wlcount])), (ad 19, .inl (cI, 1000, .inl wlnum)), (ad 20, .inr (3, [.int (1 : Int32), .int (8 : Int32), .int (25 : Int32), .ref (ad 21), .int wfpp, .int wfcolumns, .int wfcount])), (ad 21, .inl (cI, 200, .inl wfnum)), (ad 22, .inr (6, [.ref (ad 23), .int wstarget, .int wssource, .int wsnumber, .int wspower])), (ad 23, .inr (5, [.ref (ad 24), .int wszcount])), (ad 24, .inl (cI, 5, .inl wszplaces)), (ad 25, .inr (5, [.ref (ad 26), .int wycount])), (ad 26, .inl (cI, 5, .inl wyplaces)), (ad 27, .inr (0, [.ref (ad 28), .ref (ad 29), .int dchosenCount])), (ad 28, .inl (cI, 19, .inl dnumbers)), (ad 29, .inl (cI, 3, .inl dchosen)), (ad 30, .inr (6, [.ref (ad 31), .int starget, .int ssource, .int snumber, .int spower])), (ad 31, .inr (5, [.ref (ad 32), .int szcount])), (ad 32, .inl (cI, 5, .inl szplaces)), (ad 33, .inr (4, [.ref (ad 34), .ref (ad 35), .ref (ad 36), .int clength, .int cplace, .int cletter, .int crowColumns])), (ad 34, .inl (cB, 150, .inl cbytes)), (ad 35, .inl (cI, 4, .inl cdigits)), (ad 36, .inl (cI, 21, .inl centries))]) (ws2 := (wPR cI cB cR ad kd badCalls noCalls fullCalls stopError stopIndex u_6 u_7 u_8 nnum bpp bcolumns bcount bnum gcount gg0pp gg0columns gg0count gg0num gg1pp gg1columns gg1count gg1num gg2pp gg2columns gg2count gg2num gg3pp gg3columns gg3count gg3num gg4pp gg4columns gg4count gg4num vlpp vlcolumns vlcount vlnum vfpp vfcolumns vfcount vfnum vstarget vssource vsnumber vspower vszcount vszplaces vycount vyplaces wlpp wlcolumns wlcount wlnum wfpp wfcolumns wfcount wfnum wstarget wssource wsnumber wspower wszcount wszplaces wycount wyplaces dchosenCount dnumbers dchosen starget ssource snumber spower szcount szplaces clength cplace cletter crowColumns cbytes cdigits centries)) (gV (rest := []) ⟨hx, hb, hml, hown, hts⟩ hG hPc hDc 0 3 rfl rfl (mtX3_reset l D cI cB cR (ad 1) (ad 2) H.size 105 (5 : Int32) (3 : Int32) (7 : Int32) npp ncolumns ncount nnum a0 ncolumns (u_6, u_7, u_8) hq_9) (cwV 2 hts gX7_changePrime_X3_reset rfl rfl rfl ⟨rfl, hd_X3_reset⟩ ⟨Nat.le_of_ble_eq_true rfl, Nat.le_of_ble_eq_true rfl⟩) rfl hl.1 rfl (Nat.le_of_ble_eq_true rfl) dX7_changePrime_30) hP hD hS hA [1, 2] [0, 3, 4, 5, 6, 7, 8, 9, 10, 11, 12, 13, 14, 15, 16, 17, 18, 19, 20, 21, 22, 23, 24, 25, 26, 27, 28, 29, 30, 31, 32, 33, 34, 35, 36, 37, 38, 39, 40, 41, 42, 43, 44, 45, 46] [0, 45, 46, 1, 2, 3, 4, 5, 6, 7, 8, 9, 10, 11, 12, 13, 14, 15, 16, 17, 18, 19, 20, 21, 22, 23, 24, 25, 26, 27, 28, 29, 30, 31, 32, 33, 34, 35, 36, 37, 38, 39, 40, 41, 42, 43, 44] rfl rfl (by decide +kernel) (by decide +kernel) rfl (by decide +kernel) (fun H locs hP hD hS => ?_)
    refine lv_iload_n hx hb dX7_changePrime_33 rfl (lv_at hl 0 rfl) ?_
    have he := Option.some.inj hq
    subst he
    exact hE H locs _ _ _ rfl dX7_changePrime_34 hP hD hS
  · have hq := it_t c_5 hq
    refine lv_bipush (v := -2) hx hb dX7_changePrime_7 (by decide) ?_
    have he := Option.some.inj hq
    subst he
    exact hE H locs _ _ _ rfl dX7_changePrime_9 hP hD hS
abbrev rm_X7_isError : Room := { frames := 0, cells := 0, slots := 0, locals := 0 }
set_option maxHeartbeats 4000000 in
set_option maxRecDepth 100000 in
theorem mtX7_isError (l : Launch) (D : va_G) (cI cB cR : ClassId) (sz : Nat) (a0 : Int32) (res : Int32) (hf : fX7_isError a0 = res) : Met l yX7_isError wsX7_isError rm_X7_isError (qP D cI cB cR [.int a0] ([] : va_W) sz) (qZ D res ([] : va_W) ([] : va_W) sz) 0 0 (va_A ([] : va_W) sz) := by
  refine entZ (plainFor_of_name (by decide)) rfl (Nat.le_of_ble_eq_true rfl) ?_
  intro p e s m args below meth c Q A ls S hG hP hD hA hl hE
  obtain ⟨hx, hb, hml, hown, hts⟩ := S
  have hown : s.vm.findClass RX7 = some m.cls := hown
  have hS : va_S A s.heap s.heap [] := va_S.rf
  have hl : lv_has ls 1 [(0, .int a0)] := hl
  have hq := hf
  unfold fX7_isError at hq
  obtain ⟨H, hH⟩ : ∃ H, H = s.heap := ⟨_, rfl⟩
  obtain ⟨locs, hlo⟩ : ∃ L : List Loc, L = [] := ⟨_, rfl⟩
  have hP : va_P D cls9 ([] : va_W) H := hH ▸ hP
  have hS : va_S A s.heap H locs := by rw [hH, hlo]; exact hS
  suffices hg : W p l e rm_X7_isError s m args below meth c H locs 0 0 Q (F0 m 0 ls []) by rw [hH, hlo] at hg; exact hg
  refine lv_iload_n hx hb dX7_isError_0 rfl (lv_at hl 0 rfl) ?_
  refine lv_bipush (v := -2) hx hb dX7_isError_1 (by decide) ?_
  refine lv_icmp_eq (tgt := 18) hx hb dX7_isError_3 (by decide) (fun c_1 => ?_) (fun c_1 => ?_)
  · have hq := it_t c_1 hq
    refine lv_iconst (v := 1) hx hb dX7_isError_18 (by decide) ?_
    refine lv_goto (tgt := 23) hx hb dX7_isError_19 (by decide) ?_
    have he := hq
    subst he
    exact hE H locs _ _ _ rfl (Or.inr rfl) dX7_isError_23 hP hD hS
  · have hq := it_f c_1 hq
    refine lv_iload_n hx hb dX7_isError_6 rfl (lv_at hl 0 rfl) ?_
    refine lv_bipush (v := -3) hx hb dX7_isError_7 (by decide) ?_
    refine lv_icmp_eq (tgt := 18) hx hb dX7_isError_9 (by decide) (fun c_2 => ?_) (fun c_2 => ?_)
    · have hq := it_t c_2 hq
      refine lv_iconst (v := 1) hx hb dX7_isError_18 (by decide) ?_
      refine lv_goto (tgt := 23) hx hb dX7_isError_19 (by decide) ?_
      have he := hq
      subst he
      exact hE H locs _ _ _ rfl (Or.inr rfl) dX7_isError_23 hP hD hS
    · have hq := it_f c_2 hq
      refine lv_iload_n hx hb dX7_isError_12 rfl (lv_at hl 0 rfl) ?_
      refine lv_bipush (v := -4) hx hb dX7_isError_13 (by decide) ?_
      refine lv_icmp_ne (tgt := 22) hx hb dX7_isError_15 (by decide) (fun c_3 => ?_) (fun c_3 => ?_)
      · have hq := it_f c_3 hq
        refine lv_iconst (v := 0) hx hb dX7_isError_22 (by decide) ?_
        have he := hq
        subst he
        exact hE H locs _ _ _ rfl (Or.inl rfl) dX7_isError_23 hP hD hS
      · have hq := it_t c_3 hq
        refine lv_iconst (v := 1) hx hb dX7_isError_18 (by decide) ?_
        refine lv_goto (tgt := 23) hx hb dX7_isError_19 (by decide) ?_
        have he := hq
        subst he
        exact hE H locs _ _ _ rfl (Or.inr rfl) dX7_isError_23 hP hD hS
abbrev rm_X7_counted : Room := { frames := 0, cells := 0, slots := 0, locals := 0 }
theorem iX7_counted_X7 : ∀ w ∈ wsX70, w ∈ wsX7_counted := fun _ h => (List.mem_cons_of_mem _ (List.mem_append_right _ h))
theorem fX7_counted_1 : Cond.fieldLink RX7 265 "PopovRows" "fullCalls" "I" ∈ wsX7_counted := (List.mem_cons_of_mem _ (List.mem_append_left _ (List.mem_of_getElem? (i := 2) rfl)))
theorem fX7_counted_2 : Cond.fieldLink RX7 262 "PopovRows" "noCalls" "I" ∈ wsX7_counted := (List.mem_cons_of_mem _ (List.mem_append_left _ (List.mem_of_getElem? (i := 1) rfl)))
theorem fX7_counted_3 : Cond.fieldLink RX7 259 "PopovRows" "badCalls" "I" ∈ wsX7_counted := (List.mem_cons_of_mem _ (List.mem_append_left _ (List.mem_of_getElem? (i := 0) rfl)))
set_option maxHeartbeats 4000000 in
set_option maxRecDepth 100000 in
theorem mtX7_counted (l : Launch) (D : va_G) (cI cB cR : ClassId) (ad : Nat → Nat) (kd : Nat → Nat) (sz : Nat) (badCalls : Int32) (noCalls : Int32) (fullCalls : Int32) (stopError : Int32) (stopIndex : Int32) (npp : Int32) (ncolumns : Int32) (ncount : Int32) (nnum : Nat → Int32) (bpp : Int32) (bcolumns : Int32) (bcount : Int32) (bnum : Nat → Int32) (gcount : Int32) (gg0pp : Int32) (gg0columns : Int32) (gg0count : Int32) (gg0num : Nat → Int32) (gg1pp : Int32) (gg1columns : Int32) (gg1count : Int32) (gg1num : Nat → Int32) (gg2pp : Int32) (gg2columns : Int32) (gg2count : Int32) (gg2num : Nat → Int32) (gg3pp : Int32) (gg3columns : Int32) (gg3count : Int32) (gg3num : Nat → Int32) (gg4pp : Int32) (gg4columns : Int32) (gg4count : Int32) (gg4num : Nat → Int32) (vlpp : Int32) (vlcolumns : Int32) (vlcount : Int32) (vlnum : Nat → Int32) (vfpp : Int32) (vfcolumns : Int32) (vfcount : Int32) (vfnum : Nat → Int32) (vstarget : Int32) (vssource : Int32) (vsnumber : Int32) (vspower : Int32) (vszcount : Int32) (vszplaces : Nat → Int32) (vycount : Int32) (vyplaces : Nat → Int32) (wlpp : Int32) (wlcolumns : Int32) (wlcount : Int32) (wlnum : Nat → Int32) (wfpp : Int32) (wfcolumns : Int32) (wfcount : Int32) (wfnum : Nat → Int32) (wstarget : Int32) (wssource : Int32) (wsnumber : Int32) (wspower : Int32) (wszcount : Int32) (wszplaces : Nat → Int32) (wycount : Int32) (wyplaces : Nat → Int32) (dchosenCount : Int32) (dnumbers : Nat → Int32) (dchosen : Nat → Int32) (starget : Int32) (ssource : Int32) (snumber : Int32) (spower : Int32) (szcount : Int32) (szplaces : Nat → Int32) (clength : Int32) (cplace : Int32) (cletter : Int32) (crowColumns : Int32) (cbytes : Nat → Int32) (cdigits : Nat → Int32) (centries : Nat → Int32) (a0 : Int32) (res : Int32 × Int32 × Int32 × Int32) (hf : fX7_counted badCalls noCalls fullCalls a0 = some res) : Met l yX7_counted wsX7_counted rm_X7_counted (qP D cI cB cR [.ref (ad 0), .int a0] (wPR cI cB cR ad kd badCalls noCalls fullCalls stopError stopIndex npp ncolumns ncount nnum bpp bcolumns bcount bnum gcount gg0pp gg0columns gg0count gg0num gg1pp gg1columns gg1count gg1num gg2pp gg2columns gg2count gg2num gg3pp gg3columns gg3count gg3num gg4pp gg4columns gg4count gg4num vlpp vlcolumns vlcount vlnum vfpp vfcolumns vfcount vfnum vstarget vssource vsnumber vspower vszcount vszplaces vycount vyplaces wlpp wlcolumns wlcount wlnum wfpp wfcolumns wfcount wfnum wstarget wssource wsnumber wspower wszcount wszplaces wycount wyplaces dchosenCount dnumbers dchosen starget ssource snumber spower szcount szplaces clength cplace cletter crowColumns cbytes cdigits centries) sz) (qI D res.1 (wPR cI cB cR ad kd badCalls noCalls fullCalls stopError stopIndex npp ncolumns ncount nnum bpp bcolumns bcount bnum gcount gg0pp gg0columns gg0count gg0num gg1pp gg1columns gg1count gg1num gg2pp gg2columns gg2count gg2num gg3pp gg3columns gg3count gg3num gg4pp gg4columns gg4count gg4num vlpp vlcolumns vlcount vlnum vfpp vfcolumns vfcount vfnum vstarget vssource vsnumber vspower vszcount vszplaces vycount vyplaces wlpp wlcolumns wlcount wlnum wfpp wfcolumns wfcount wfnum wstarget wssource wsnumber wspower wszcount wszplaces wycount wyplaces dchosenCount dnumbers dchosen starget ssource snumber spower szcount szplaces clength cplace cletter crowColumns cbytes cdigits centries) (wPR cI cB cR ad kd res.2.1 res.2.2.1 res.2.2.2 stopError stopIndex npp ncolumns ncount nnum bpp bcolumns bcount bnum gcount gg0pp gg0columns gg0count gg0num gg1pp gg1columns gg1count gg1num gg2pp gg2columns gg2count gg2num gg3pp gg3columns gg3count gg3num gg4pp gg4columns gg4count gg4num vlpp vlcolumns vlcount vlnum vfpp vfcolumns vfcount vfnum vstarget vssource vsnumber vspower vszcount vszplaces vycount vyplaces wlpp wlcolumns wlcount wlnum wfpp wfcolumns wfcount wfnum wstarget wssource wsnumber wspower wszcount wszplaces wycount wyplaces dchosenCount dnumbers dchosen starget ssource snumber spower szcount szplaces clength cplace cletter crowColumns cbytes cdigits centries) sz) 0 0 (va_A (wPR cI cB cR ad kd badCalls noCalls fullCalls stopError stopIndex npp ncolumns ncount nnum bpp bcolumns bcount bnum gcount gg0pp gg0columns gg0count gg0num gg1pp gg1columns gg1count gg1num gg2pp gg2columns gg2count gg2num gg3pp gg3columns gg3count gg3num gg4pp gg4columns gg4count gg4num vlpp vlcolumns vlcount vlnum vfpp vfcolumns vfcount vfnum vstarget vssource vsnumber vspower vszcount vszplaces vycount vyplaces wlpp wlcolumns wlcount wlnum wfpp wfcolumns wfcount wfnum wstarget wssource wsnumber wspower wszcount wszplaces wycount wyplaces dchosenCount dnumbers dchosen starget ssource snumber spower szcount szplaces clength cplace cletter crowColumns cbytes cdigits centries) sz) := by
  refine entI (plainFor_of_name (by decide)) rfl (Nat.le_of_ble_eq_true rfl) ?_
  intro p e s m args below meth c Q A ls S hG hP hD hA hl hE
  obtain ⟨hx, hb, hml, hown, hts⟩ := S
  have hown : s.vm.findClass RX7 = some m.cls := hown
  have hS : va_S A s.heap s.heap [] := va_S.rf
  have hl : lv_has ls 2 [(0, .ref (ad 0)), (1, .int a0)] := hl
  have hq := hf
  unfold fX7_counted at hq
  obtain ⟨H, hH⟩ : ∃ H, H = s.heap := ⟨_, rfl⟩
  obtain ⟨locs, hlo⟩ : ∃ L : List Loc, L = [] := ⟨_, rfl⟩
  have hP : va_P D cls9 (wPR cI cB cR ad kd badCalls noCalls fullCalls stopError stopIndex npp ncolumns ncount nnum bpp bcolumns bcount bnum gcount gg0pp gg0columns gg0count gg0num gg1pp gg1columns gg1count gg1num gg2pp gg2columns gg2count gg2num gg3pp gg3columns gg3count gg3num gg4pp gg4columns gg4count gg4num vlpp vlcolumns vlcount vlnum vfpp vfcolumns vfcount vfnum vstarget vssource vsnumber vspower vszcount vszplaces vycount vyplaces wlpp wlcolumns wlcount wlnum wfpp wfcolumns wfcount wfnum wstarget wssource wsnumber wspower wszcount wszplaces wycount wyplaces dchosenCount dnumbers dchosen starget ssource snumber spower szcount szplaces clength cplace cletter crowColumns cbytes cdigits centries) H := hH ▸ hP
  have hS : va_S A s.heap H locs := by rw [hH, hlo]; exact hS
  suffices hg : W p l e rm_X7_counted s m args below meth c H locs 0 0 Q (F0 m 0 ls []) by rw [hH, hlo] at hg; exact hg
  refine lv_iload_n hx hb dX7_counted_0 rfl (lv_at hl 1 rfl) ?_
  refine lv_bipush (v := -2) hx hb dX7_counted_1 (by decide) ?_
  refine lv_icmp_ne (tgt := 19) hx hb dX7_counted_3 (by decide) (fun c_1 => ?_) (fun c_1 => ?_)
  · have hq := it_f c_1 hq
    refine lv_iload_n hx hb dX7_counted_19 rfl (lv_at hl 1 rfl) ?_
    refine lv_bipush (v := -3) hx hb dX7_counted_20 (by decide) ?_
    refine lv_icmp_ne (tgt := 38) hx hb dX7_counted_22 (by decide) (fun c_2 => ?_) (fun c_2 => ?_)
    · have hq := it_f c_2 hq
      refine lv_iload_n hx hb dX7_counted_38 rfl (lv_at hl 1 rfl) ?_
      refine lv_bipush (v := -4) hx hb dX7_counted_39 (by decide) ?_
      refine lv_icmp_ne (tgt := 54) hx hb dX7_counted_41 (by decide) (fun c_3 => ?_) (fun c_3 => ?_)
      · have hq := it_f c_3 hq
        refine lv_iload_n hx hb dX7_counted_54 rfl (lv_at hl 1 rfl) ?_
        have he := Option.some.inj hq
        subst he
        exact hE H locs _ _ _ rfl dX7_counted_55 hP hD hS
      · have hq := it_t c_3 hq
        refine lv_aload_n hx hb dX7_counted_44 rfl (lv_at hl 0 rfl) ?_
        refine lv_dup hx hb dX7_counted_45 rfl ?_
        refine va_get (D := D) (ci := 7) (v := .int fullCalls) (C := RX7) (T := TX7) (N := 13) hx hb hts iX7_counted_X7 hown hG.1 hP 0 rfl rfl 10 (by decide) (hts _ fX7_counted_1) (fun _ h9 => h9) rfl dX7_counted_46 ?_
        refine lv_iconst (v := 1) hx hb dX7_counted_49 (by decide) ?_
        refine lv_iadd hx hb dX7_counted_50 ?_
        refine va_put (D := D) (ci := 7) (v := .int (fullCalls + (1 : Int32))) (ty := .int) (C := RX7) (T := TX7) (N := 13) hx hb hts iX7_counted_X7 tyX7 tyX7_ok nmX7 hown hG.1 hP hD hS 0 rfl rfl 10 (by decide) (hts _ fX7_counted_1) (fun _ h9 => h9) rfl (by decide +kernel) rfl rfl (Nat.le_of_ble_eq_true rfl) dX7_counted_51 (fun H locs hP hD hS => ?_)
        have hP : va_P D cls9 (wPR cI cB cR ad kd badCalls noCalls (fullCalls + (1 : Int32)) stopError stopIndex npp ncolumns ncount nnum bpp bcolumns bcount bnum gcount gg0pp gg0columns gg0count gg0num gg1pp gg1columns gg1count gg1num gg2pp gg2columns gg2count gg2num gg3pp gg3columns gg3count gg3num gg4pp gg4columns gg4count gg4num vlpp vlcolumns vlcount vlnum vfpp vfcolumns vfcount vfnum vstarget vssource vsnumber vspower vszcount vszplaces vycount vyplaces wlpp wlcolumns wlcount wlnum wfpp wfcolumns wfcount wfnum wstarget wssource wsnumber wspower wszcount wszplaces wycount wyplaces dchosenCount dnumbers dchosen starget ssource snumber spower szcount szplaces clength cplace cletter crowColumns cbytes cdigits centries) H := hP
        have hD : va_D A (wPR cI cB cR ad kd badCalls noCalls (fullCalls + (1 : Int32)) stopError stopIndex npp ncolumns ncount nnum bpp bcolumns bcount bnum gcount gg0pp gg0columns gg0count gg0num gg1pp gg1columns gg1count gg1num gg2pp gg2columns gg2count gg2num gg3pp gg3columns gg3count gg3num gg4pp gg4columns gg4count gg4num vlpp vlcolumns vlcount vlnum vfpp vfcolumns vfcount vfnum vstarget vssource vsnumber vspower vszcount vszplaces vycount vyplaces wlpp wlcolumns wlcount wlnum wfpp wfcolumns wfcount wfnum wstarget wssource wsnumber wspower wszcount wszplaces wycount wyplaces dchosenCount dnumbers dchosen starget ssource snumber spower szcount szplaces clength cplace cletter crowColumns cbytes cdigits centries) := hD
        refine lv_iload_n hx hb dX7_counted_54 rfl (lv_at hl 1 rfl) ?_
        have he := Option.some.inj hq
        subst he
        exact hE H locs _ _ _ rfl dX7_counted_55 hP hD hS
    · have hq := it_t c_2 hq
      refine lv_aload_n hx hb dX7_counted_25 rfl (lv_at hl 0 rfl) ?_
      refine lv_dup hx hb dX7_counted_26 rfl ?_
      refine va_get (D := D) (ci := 7) (v := .int noCalls) (C := RX7) (T := TX7) (N := 13) hx hb hts iX7_counted_X7 hown hG.1 hP 0 rfl rfl 9 (by decide) (hts _ fX7_counted_2) (fun _ h9 => h9) rfl dX7_counted_27 ?_
      refine lv_iconst (v := 1) hx hb dX7_counted_30 (by decide) ?_
      refine lv_iadd hx hb dX7_counted_31 ?_
      refine va_put (D := D) (ci := 7) (v := .int (noCalls + (1 : Int32))) (ty := .int) (C := RX7) (T := TX7) (N := 13) hx hb hts iX7_counted_X7 tyX7 tyX7_ok nmX7 hown hG.1 hP hD hS 0 rfl rfl 9 (by decide) (hts _ fX7_counted_2) (fun _ h9 => h9) rfl (by decide +kernel) rfl rfl (Nat.le_of_ble_eq_true rfl) dX7_counted_32 (fun H locs hP hD hS => ?_)
      have hP : va_P D cls9 (wPR cI cB cR ad kd badCalls (noCalls + (1 : Int32)) fullCalls stopError stopIndex npp ncolumns ncount nnum bpp bcolumns bcount bnum gcount gg0pp gg0columns gg0count gg0num gg1pp gg1columns gg1count gg1num gg2pp gg2columns gg2count gg2num gg3pp gg3columns gg3count gg3num gg4pp gg4columns gg4count gg4num vlpp vlcolumns vlcount vlnum vfpp vfcolumns vfcount vfnum vstarget vssource vsnumber vspower vszcount vszplaces vycount vyplaces wlpp wlcolumns wlcount wlnum wfpp wfcolumns wfcount wfnum wstarget wssource wsnumber wspower wszcount wszplaces wycount wyplaces dchosenCount dnumbers dchosen starget ssource snumber spower szcount szplaces clength cplace cletter crowColumns cbytes cdigits centries) H := hP
      have hD : va_D A (wPR cI cB cR ad kd badCalls (noCalls + (1 : Int32)) fullCalls stopError stopIndex npp ncolumns ncount nnum bpp bcolumns bcount bnum gcount gg0pp gg0columns gg0count gg0num gg1pp gg1columns gg1count gg1num gg2pp gg2columns gg2count gg2num gg3pp gg3columns gg3count gg3num gg4pp gg4columns gg4count gg4num vlpp vlcolumns vlcount vlnum vfpp vfcolumns vfcount vfnum vstarget vssource vsnumber vspower vszcount vszplaces vycount vyplaces wlpp wlcolumns wlcount wlnum wfpp wfcolumns wfcount wfnum wstarget wssource wsnumber wspower wszcount wszplaces wycount wyplaces dchosenCount dnumbers dchosen starget ssource snumber spower szcount szplaces clength cplace cletter crowColumns cbytes cdigits centries) := hD
      refine lv_goto (tgt := 54) hx hb dX7_counted_35 (by decide) ?_
      refine lv_iload_n hx hb dX7_counted_54 rfl (lv_at hl 1 rfl) ?_
      have he := Option.some.inj hq
      subst he
      exact hE H locs _ _ _ rfl dX7_counted_55 hP hD hS
  · have hq := it_t c_1 hq
    refine lv_aload_n hx hb dX7_counted_6 rfl (lv_at hl 0 rfl) ?_
    refine lv_dup hx hb dX7_counted_7 rfl ?_
    refine va_get (D := D) (ci := 7) (v := .int badCalls) (C := RX7) (T := TX7) (N := 13) hx hb hts iX7_counted_X7 hown hG.1 hP 0 rfl rfl 8 (by decide) (hts _ fX7_counted_3) (fun _ h9 => h9) rfl dX7_counted_8 ?_
    refine lv_iconst (v := 1) hx hb dX7_counted_11 (by decide) ?_
    refine lv_iadd hx hb dX7_counted_12 ?_
    refine va_put (D := D) (ci := 7) (v := .int (badCalls + (1 : Int32))) (ty := .int) (C := RX7) (T := TX7) (N := 13) hx hb hts iX7_counted_X7 tyX7 tyX7_ok nmX7 hown hG.1 hP hD hS 0 rfl rfl 8 (by decide) (hts _ fX7_counted_3) (fun _ h9 => h9) rfl (by decide +kernel) rfl rfl (Nat.le_of_ble_eq_true rfl) dX7_counted_13 (fun H locs hP hD hS => ?_)
    have hP : va_P D cls9 (wPR cI cB cR ad kd (badCalls + (1 : Int32)) noCalls fullCalls stopError stopIndex npp ncolumns ncount nnum bpp bcolumns bcount bnum gcount gg0pp gg0columns gg0count gg0num gg1pp gg1columns gg1count gg1num gg2pp gg2columns gg2count gg2num gg3pp gg3columns gg3count gg3num gg4pp gg4columns gg4count gg4num vlpp vlcolumns vlcount vlnum vfpp vfcolumns vfcount vfnum vstarget vssource vsnumber vspower vszcount vszplaces vycount vyplaces wlpp wlcolumns wlcount wlnum wfpp wfcolumns wfcount wfnum wstarget wssource wsnumber wspower wszcount wszplaces wycount wyplaces dchosenCount dnumbers dchosen starget ssource snumber spower szcount szplaces clength cplace cletter crowColumns cbytes cdigits centries) H := hP
    have hD : va_D A (wPR cI cB cR ad kd (badCalls + (1 : Int32)) noCalls fullCalls stopError stopIndex npp ncolumns ncount nnum bpp bcolumns bcount bnum gcount gg0pp gg0columns gg0count gg0num gg1pp gg1columns gg1count gg1num gg2pp gg2columns gg2count gg2num gg3pp gg3columns gg3count gg3num gg4pp gg4columns gg4count gg4num vlpp vlcolumns vlcount vlnum vfpp vfcolumns vfcount vfnum vstarget vssource vsnumber vspower vszcount vszplaces vycount vyplaces wlpp wlcolumns wlcount wlnum wfpp wfcolumns wfcount wfnum wstarget wssource wsnumber wspower wszcount wszplaces wycount wyplaces dchosenCount dnumbers dchosen starget ssource snumber spower szcount szplaces clength cplace cletter crowColumns cbytes cdigits centries) := hD
    refine lv_goto (tgt := 54) hx hb dX7_counted_16 (by decide) ?_
    refine lv_iload_n hx hb dX7_counted_54 rfl (lv_at hl 1 rfl) ?_
    have he := Option.some.inj hq
    subst he
    exact hE H locs _ _ _ rfl dX7_counted_55 hP hD hS
abbrev rm_X7_settle : Room := { frames := 3, cells := 0, slots := 0, locals := 82 }
theorem iX7_settle_X7 : ∀ w ∈ wsX70, w ∈ wsX7_settle := fun _ h => (List.mem_cons_of_mem _ (List.mem_append_left _ (List.mem_append_left _ (List.mem_append_right _ h))))
theorem fX7_settle_1 : Cond.fieldLink RX7 23 "PopovRows" "history" "LPopovRows$History;" ∈ wsX7_settle := (List.mem_cons_of_mem _ (List.mem_append_left _ (List.mem_append_left _ (List.mem_append_left _ (List.mem_append_left _ (List.mem_of_getElem? (i := 0) rfl))))))
theorem fX7_settle_2 : Cond.fieldLink RX7 17 "PopovRows" "before" "LPopovRows$Rows;" ∈ wsX7_settle := (List.mem_cons_of_mem _ (List.mem_append_left _ (List.mem_append_left _ (List.mem_append_left _ (List.mem_append_left _ (List.mem_of_getElem? (i := 1) rfl))))))
set_option maxHeartbeats 4000000 in
set_option maxRecDepth 100000 in
theorem mtX7_settle (l : Launch) (D : va_G) (cI cB cR : ClassId) (ad : Nat → Nat) (kd : Nat → Nat) (sz : Nat) (badCalls : Int32) (noCalls : Int32) (fullCalls : Int32) (stopError : Int32) (stopIndex : Int32) (npp : Int32) (ncolumns : Int32) (ncount : Int32) (nnum : Nat → Int32) (bpp : Int32) (bcolumns : Int32) (bcount : Int32) (bnum : Nat → Int32) (gcount : Int32) (gg0pp : Int32) (gg0columns : Int32) (gg0count : Int32) (gg0num : Nat → Int32) (gg1pp : Int32) (gg1columns : Int32) (gg1count : Int32) (gg1num : Nat → Int32) (gg2pp : Int32) (gg2columns : Int32) (gg2count : Int32) (gg2num : Nat → Int32) (gg3pp : Int32) (gg3columns : Int32) (gg3count : Int32) (gg3num : Nat → Int32) (gg4pp : Int32) (gg4columns : Int32) (gg4count : Int32) (gg4num : Nat → Int32) (vlpp : Int32) (vlcolumns : Int32) (vlcount : Int32) (vlnum : Nat → Int32) (vfpp : Int32) (vfcolumns : Int32) (vfcount : Int32) (vfnum : Nat → Int32) (vstarget : Int32) (vssource : Int32) (vsnumber : Int32) (vspower : Int32) (vszcount : Int32) (vszplaces : Nat → Int32) (vycount : Int32) (vyplaces : Nat → Int32) (wlpp : Int32) (wlcolumns : Int32) (wlcount : Int32) (wlnum : Nat → Int32) (wfpp : Int32) (wfcolumns : Int32) (wfcount : Int32) (wfnum : Nat → Int32) (wstarget : Int32) (wssource : Int32) (wsnumber : Int32) (wspower : Int32) (wszcount : Int32) (wszplaces : Nat → Int32) (wycount : Int32) (wyplaces : Nat → Int32) (dchosenCount : Int32) (dnumbers : Nat → Int32) (dchosen : Nat → Int32) (starget : Int32) (ssource : Int32) (snumber : Int32) (spower : Int32) (szcount : Int32) (szplaces : Nat → Int32) (clength : Int32) (cplace : Int32) (cletter : Int32) (crowColumns : Int32) (cbytes : Nat → Int32) (cdigits : Nat → Int32) (centries : Nat → Int32) (a0 : Int32) (res : Int32 × Int32 × Int32 × Int32 × Int32 × Int32 × Int32 × Int32 × (Nat → Int32) × Int32 × Int32 × Int32 × (Nat → Int32) × Int32 × Int32 × Int32 × (Nat → Int32) × Int32 × Int32 × Int32 × (Nat → Int32) × Int32 × Int32 × Int32 × (Nat → Int32)) (hf : fX7_settle badCalls noCalls fullCalls bpp bcolumns bcount bnum gcount gg0pp gg0columns gg0count gg0num gg1pp gg1columns gg1count gg1num gg2pp gg2columns gg2count gg2num gg3pp gg3columns gg3count gg3num gg4pp gg4columns gg4count gg4num a0 = some res) : Met l yX7_settle wsX7_settle rm_X7_settle (qP D cI cB cR [.ref (ad 0), .int a0] (wPR cI cB cR ad kd badCalls noCalls fullCalls stopError stopIndex npp ncolumns ncount nnum bpp bcolumns bcount bnum gcount gg0pp gg0columns gg0count gg0num gg1pp gg1columns gg1count gg1num gg2pp gg2columns gg2count gg2num gg3pp gg3columns gg3count gg3num gg4pp gg4columns gg4count gg4num vlpp vlcolumns vlcount vlnum vfpp vfcolumns vfcount vfnum vstarget vssource vsnumber vspower vszcount vszplaces vycount vyplaces wlpp wlcolumns wlcount wlnum wfpp wfcolumns wfcount wfnum wstarget wssource wsnumber wspower wszcount wszplaces wycount wyplaces dchosenCount dnumbers dchosen starget ssource snumber spower szcount szplaces clength cplace cletter crowColumns cbytes cdigits centries) sz) (qIX D res.1 (wPR cI cB cR ad kd badCalls noCalls fullCalls stopError stopIndex npp ncolumns ncount nnum bpp bcolumns bcount bnum gcount gg0pp gg0columns gg0count gg0num gg1pp gg1columns gg1count gg1num gg2pp gg2columns gg2count gg2num gg3pp gg3columns gg3count gg3num gg4pp gg4columns gg4count gg4num vlpp vlcolumns vlcount vlnum vfpp vfcolumns vfcount vfnum vstarget vssource vsnumber vspower vszcount vszplaces vycount vyplaces wlpp wlcolumns wlcount wlnum wfpp wfcolumns wfcount wfnum wstarget wssource wsnumber wspower wszcount wszplaces wycount wyplaces dchosenCount dnumbers dchosen starget ssource snumber spower szcount szplaces clength cplace cletter crowColumns cbytes cdigits centries) (fun kd => (wPR cI cB cR ad kd res.2.1 res.2.2.1 res.2.2.2.1 stopError stopIndex npp ncolumns ncount nnum bpp bcolumns bcount bnum res.2.2.2.2.1 res.2.2.2.2.2.1 res.2.2.2.2.2.2.1 res.2.2.2.2.2.2.2.1 res.2.2.2.2.2.2.2.2.1 res.2.2.2.2.2.2.2.2.2.1 res.2.2.2.2.2.2.2.2.2.2.1 res.2.2.2.2.2.2.2.2.2.2.2.1 res.2.2.2.2.2.2.2.2.2.2.2.2.1 res.2.2.2.2.2.2.2.2.2.2.2.2.2.1 res.2.2.2.2.2.2.2.2.2.2.2.2.2.2.1 res.2.2.2.2.2.2.2.2.2.2.2.2.2.2.2.1 res.2.2.2.2.2.2.2.2.2.2.2.2.2.2.2.2.1 res.2.2.2.2.2.2.2.2.2.2.2.2.2.2.2.2.2.1 res.2.2.2.2.2.2.2.2.2.2.2.2.2.2.2.2.2.2.1 res.2.2.2.2.2.2.2.2.2.2.2.2.2.2.2.2.2.2.2.1 res.2.2.2.2.2.2.2.2.2.2.2.2.2.2.2.2.2.2.2.2.1 res.2.2.2.2.2.2.2.2.2.2.2.2.2.2.2.2.2.2.2.2.2.1 res.2.2.2.2.2.2.2.2.2.2.2.2.2.2.2.2.2.2.2.2.2.2.1 res.2.2.2.2.2.2.2.2.2.2.2.2.2.2.2.2.2.2.2.2.2.2.2.1 res.2.2.2.2.2.2.2.2.2.2.2.2.2.2.2.2.2.2.2.2.2.2.2.2 vlpp vlcolumns vlcount vlnum vfpp vfcolumns vfcount vfnum vstarget vssource vsnumber vspower vszcount vszplaces vycount vyplaces wlpp wlcolumns wlcount wlnum wfpp wfcolumns wfcount wfnum wstarget wssource wsnumber wspower wszcount wszplaces wycount wyplaces dchosenCount dnumbers dchosen starget ssource snumber spower szcount szplaces clength cplace cletter crowColumns cbytes cdigits centries)) sz) 0 0 (va_A (wPR cI cB cR ad kd badCalls noCalls fullCalls stopError stopIndex npp ncolumns ncount nnum bpp bcolumns bcount bnum gcount gg0pp gg0columns gg0count gg0num gg1pp gg1columns gg1count gg1num gg2pp gg2columns gg2count gg2num gg3pp gg3columns gg3count gg3num gg4pp gg4columns gg4count gg4num vlpp vlcolumns vlcount vlnum vfpp vfcolumns vfcount vfnum vstarget vssource vsnumber vspower vszcount vszplaces vycount vyplaces wlpp wlcolumns wlcount wlnum wfpp wfcolumns wfcount wfnum wstarget wssource wsnumber wspower wszcount wszplaces wycount wyplaces dchosenCount dnumbers dchosen starget ssource snumber spower szcount szplaces clength cplace cletter crowColumns cbytes cdigits centries) sz) := by
  refine entIX (plainFor_of_name (by decide)) rfl (Nat.le_of_ble_eq_true rfl) ?_
  intro p e s m args below meth c Q A ls S hG hP hD hA hl hE
  obtain ⟨hx, hb, hml, hown, hts⟩ := S
  have hown : s.vm.findClass RX7 = some m.cls := hown
  have hS : va_S A s.heap s.heap [] := va_S.rf
  have hl : lv_has ls 2 [(0, .ref (ad 0)), (1, .int a0)] := hl
  have hq := hf
  unfold fX7_settle at hq
  obtain ⟨H, hH⟩ : ∃ H, H = s.heap := ⟨_, rfl⟩
  obtain ⟨locs, hlo⟩ : ∃ L : List Loc, L = [] := ⟨_, rfl⟩
  have hP : va_P D cls9 (wPR cI cB cR ad kd badCalls noCalls fullCalls stopError stopIndex npp ncolumns ncount nnum bpp bcolumns bcount bnum gcount gg0pp gg0columns gg0count gg0num gg1pp gg1columns gg1count gg1num gg2pp gg2columns gg2count gg2num gg3pp gg3columns gg3count gg3num gg4pp gg4columns gg4count gg4num vlpp vlcolumns vlcount vlnum vfpp vfcolumns vfcount vfnum vstarget vssource vsnumber vspower vszcount vszplaces vycount vyplaces wlpp wlcolumns wlcount wlnum wfpp wfcolumns wfcount wfnum wstarget wssource wsnumber wspower wszcount wszplaces wycount wyplaces dchosenCount dnumbers dchosen starget ssource snumber spower szcount szplaces clength cplace cletter crowColumns cbytes cdigits centries) H := hH ▸ hP
  have hS : va_S A s.heap H locs := by rw [hH, hlo]; exact hS
  suffices hg : W p l e rm_X7_settle s m args below meth c H locs 0 0 Q (F0 m 0 ls []) by rw [hH, hlo] at hg; exact hg
  refine lv_iload_n hx hb dX7_settle_0 rfl (lv_at hl 1 rfl) ?_
  refine callZ0 (gS (rest := []) ⟨hx, hb, hml, hown, hts⟩ hG vaP0 (vaD0 (A := A)) (mtX7_isError l D cI cB cR H.size a0 _ rfl) (va_cwS 1 hts gX7_settle_X7_isError rfl rfl rfl hd_X7_isError ⟨Nat.le_of_ble_eq_true rfl, Nat.le_of_ble_eq_true rfl⟩) rfl hl.1 rfl (Nat.le_of_ble_eq_true rfl) dX7_settle_1) hP hS hA (fun H locs z_1 hP hS => ?_)
  refine lv_if_eq (tgt := 13) hx hb dX7_settle_4 (by decide) (fun c_2 => ?_) (fun c_2 => ?_)
  · have hq := it_t c_2 hq
    refine lv_aload_n hx hb dX7_settle_13 rfl (lv_at hl 0 rfl) ?_
    refine va_get (D := D) (ci := 7) (v := .ref (ad 5)) (C := RX7) (T := TX7) (N := 13) hx hb hts iX7_settle_X7 hown hG.1 hP 0 rfl rfl 2 (by decide) (hts _ fX7_settle_1) (fun _ h9 => h9) rfl dX7_settle_14 ?_
    refine lv_aload_n hx hb dX7_settle_17 rfl (lv_at hl 0 rfl) ?_
    refine va_get (D := D) (ci := 7) (v := .ref (ad 3)) (C := RX7) (T := TX7) (N := 13) hx hb hts iX7_settle_X7 hown hG.1 hP 0 rfl rfl 1 (by decide) (hts _ fX7_settle_2) (fun _ h9 => h9) rfl dX7_settle_18 ?_
    obtain ⟨v_25, hq_24, hk⟩ := bd21_s hq
    obtain ⟨u_3, u_4, u_5, u_6, u_7, u_8, u_9, u_10, u_11, u_12, u_13, u_14, u_15, u_16, u_17, u_18, u_19, u_20, u_21, u_22, u_23⟩ := v_25
    have hq := hk _ _ _ _ _ _ _ _ _ _ _ _ _ _ _ _ _ _ _ _ _ rfl
    have hPc : va_P D cls9 [(ad 5, .inr (1, [.ref (ad 6), .int gcount])), (ad 6, .inl (cR, 5, .inr (.inr (.inr (.inr (kf5 (kd 0) (kd 2) (kd 4) (kd 6) (kd 8))))))), (kd 0, .inr (3, [.int (5 : Int32), .int (3 : Int32), .int (7 : Int32), .ref (kd 1), .int gg0pp, .int gg0columns, .int gg0count])), (kd 1, .inl (cI, 105, .inl gg0num)), (kd 2, .inr (3, [.int (5 : Int32), .int (3 : Int32), .int (7 : Int32), .ref (kd 3), .int gg1pp, .int gg1columns, .int gg1count])), (kd 3, .inl (cI, 105, .inl gg1num)), (kd 4, .inr (3, [.int (5 : Int32), .int (3 : Int32), .int (7 : Int32), .ref (kd 5), .int gg2pp, .int gg2columns, .int gg2count])), (kd 5, .inl (cI, 105, .inl gg2num)), (kd 6, .inr (3, [.int (5 : Int32), .int (3 : Int32), .int (7 : Int32), .ref (kd 7), .int gg3pp, .int gg3columns, .int gg3count])), (kd 7, .inl (cI, 105, .inl gg3num)), (kd 8, .inr (3, [.int (5 : Int32), .int (3 : Int32), .int (7 : Int32), .ref (kd 9), .int gg4pp, .int gg4columns, .int gg4count])), (kd 9, .inl (cI, 105, .inl gg4num)), (ad 3, .inr (3, [.int (5 : Int32), .int (3 : Int32), .int (7 : Int32), .ref (ad 4), .int bpp, .int bcolumns, .int bcount])), (ad 4, .inl (cI, 105, .inl bnum))] H := hPsub hP [5, 6, 7, 8, 9, 10, 11, 12, 13, 14, 15, 16, 3, 4] rfl
    have hDc : va_D A [(ad 5, .inr (1, [.ref (ad 6), .int gcount])), (ad 6, .inl (cR, 5, .inr (.inr (.inr (.inr (kf5 (kd 0) (kd 2) (kd 4) (kd 6) (kd 8))))))), (kd 0, .inr (3, [.int (5 : Int32), .int (3 : Int32), .int (7 : Int32), .ref (kd 1), .int gg0pp, .int gg0columns, .int gg0count])), (kd 1, .inl (cI, 105, .inl gg0num)), (kd 2, .inr (3, [.int (5 : Int32), .int (3 : Int32), .int (7 : Int32), .ref (kd 3), .int gg1pp, .int gg1columns, .int gg1count])), (kd 3, .inl (cI, 105, .inl gg1num)), (kd 4, .inr (3, [.int (5 : Int32), .int (3 : Int32), .int (7 : Int32), .ref (kd 5), .int gg2pp, .int gg2columns, .int gg2count])), (kd 5, .inl (cI, 105, .inl gg2num)), (kd 6, .inr (3, [.int (5 : Int32), .int (3 : Int32), .int (7 : Int32), .ref (kd 7), .int gg3pp, .int gg3columns, .int gg3count])), (kd 7, .inl (cI, 105, .inl gg3num)), (kd 8, .inr (3, [.int (5 : Int32), .int (3 : Int32), .int (7 : Int32), .ref (kd 9), .int gg4pp, .int gg4columns, .int gg4count])), (kd 9, .inl (cI, 105, .inl gg4num)), (ad 3, .inr (3, [.int (5 : Int32), .int (3 : Int32), .int (7 : Int32), .ref (ad 4), .int bpp, .int bcolumns, .int bcount])), (ad 4, .inl (cI, 105, .inl bnum))] := hD.sub [5, 6, 7, 8, 9, 10, 11, 12, 13, 14, 15, 16, 3, 4] (by decide +kernel) rfl
    refine callVPX (wr := [(ad 0, .inr (7, [.ref (ad 1), .ref (ad 3), .ref (ad 5), .ref (ad 7), .ref (ad 17), .ref (ad 27), .ref (ad 30), .ref (ad 33), .int badCalls, .int noCalls, .int fullCalls, .int stopError, .int stopIndex])), (ad 1, .inr (3, [.int (5 : Int32), .int (3 : Int32), .int (7 : Int32), .ref (ad 2), .int npp, .int ncolumns, .int ncount])), (ad 2, .inl (cI, 105, .inl nnum)), (ad 7, .inr (2, [.ref (ad 8), .ref (ad 10), .ref (ad 12), .ref (ad 15)])), (ad 8, .inr (3, [.int (5 : Int32), .int (8 : Int32), .int (25 : Int32), .ref (ad 9), .int vlpp, .int vlcolumns, .int vlcount])), (ad 9, .inl (cI, 1000, .inl vlnum)), (ad 10, .inr (3, [.int (1 : Int32), .int (8 : Int32), .int (25 : Int32), .ref (ad 11), .int vfpp, .int vfcolumns, .int vfcount])), (ad 11, .inl (cI, 200, .inl vfnum)), (ad 12, .inr (6, [.ref (ad 13), .int vstarget, .int vssource, .int vsnumber, .int vspower])), (ad 13, .inr (5, [.ref (ad 14), .int vszcount])), (ad 14, .inl (cI, 5, .inl vszplaces)), (ad 15, .inr (5, [.ref (ad 16), .int vycount])), (ad 16, .inl (cI, 5, .inl vyplaces)), (ad 17, .inr (2, [.ref (ad 18), .ref (ad 20), .ref (ad 22), .ref (ad 25)])), (ad 18, .inr (3, [.int (5 : Int32), .int (8 : Int32), .int (25 : Int32), .ref (ad 19), .int wlpp, .int wlcolumns, .int wlcount])), (ad 19, .inl (cI, 1000, .inl wlnum)), (ad 20, .inr (3, [.int (1 : Int32), .int (8 : Int32), .int (25 : Int32), .ref (ad 21), .int wfpp, .int wfcolumns, .int wfcount])), (ad 21, .inl (cI, 200, .inl wfnum)), (ad 22, .inr (6, [.ref (ad 23), .int wstarget, .int wssource, .int wsnumber, .int wspower])), (ad 23, .inr (5, [.ref (ad 24), .int wszcount])), (ad 24, .inl (cI, 5, .inl wszplaces)), (ad 25, .inr (5, [.ref (ad 26), .int wycount])), (ad 26, .inl (cI, 5, .inl wyplaces)), (ad 27, .inr (0, [.ref (ad 28), .ref (ad 29), .int dchosenCount])), (ad 28, .inl (cI, 19, .inl dnumbers)), (ad 29, .inl (cI, 3, .inl dchosen)), (ad 30, .inr (6, [.ref (ad 31), .int starget, .int ssource, .int snumber, .int spower])), (ad 31, .inr (5, [.ref (ad 32), .int szcount])), (ad 32, .inl (cI, 5, .inl szplaces)), (ad 33, .inr (4, [.ref (ad 34), .ref (ad 35), .ref (ad 36), .int clength, .int cplace, .int cletter, .int crowColumns])), (ad 34, .inl (cB, 150, .inl cbytes)), (ad 35, .inl (cI, 4, .inl cdigits)), (ad 36, .inl (cI, 21, .inl centries))]) (ws2 := fun kd_26 => (wPR cI cB cR ad kd_26 badCalls noCalls fullCalls stopError stopIndex npp ncolumns ncount nnum bpp bcolumns bcount bnum u_3 u_4 u_5 u_6 u_7 u_8 u_9 u_10 u_11 u_12 u_13 u_14 u_15 u_16 u_17 u_18 u_19 u_20 u_21 u_22 u_23 vlpp vlcolumns vlcount vlnum vfpp vfcolumns vfcount vfnum vstarget vssource vsnumber vspower vszcount vszplaces vycount vyplaces wlpp wlcolumns wlcount wlnum wfpp wfcolumns wfcount wfnum wstarget wssource wsnumber wspower wszcount wszplaces wycount wyplaces dchosenCount dnumbers dchosen starget ssource snumber spower szcount szplaces clength cplace cletter crowColumns cbytes cdigits centries)) (gV (rest := []) ⟨hx, hb, hml, hown, hts⟩ hG hPc hDc 0 1 rfl rfl (mtX1_keep l D cI cB cR (ad 5) (ad 6) kd (ad 3) (ad 4) H.size gcount gg0pp gg0columns gg0count gg0num gg1pp gg1columns gg1count gg1num gg2pp gg2columns gg2count gg2num gg3pp gg3columns gg3count gg3num gg4pp gg4columns gg4count gg4num 105 (5 : Int32) (3 : Int32) (7 : Int32) bpp bcolumns bcount bnum (u_3, u_4, u_5, u_6, u_7, u_8, u_9, u_10, u_11, u_12, u_13, u_14, u_15, u_16, u_17, u_18, u_19, u_20, u_21, u_22, u_23) hq_24) (cwV 1 hts gX7_settle_X1_keep rfl rfl rfl ⟨rfl, hd_X1_keep⟩ ⟨Nat.le_of_ble_eq_true rfl, Nat.le_of_ble_eq_true rfl⟩) rfl hl.1 rfl (Nat.le_of_ble_eq_true rfl) dX7_settle_21) hP hD hS hA [5, 6, 7, 8, 9, 10, 11, 12, 13, 14, 15, 16, 3, 4] [0, 1, 2, 17, 18, 19, 20, 21, 22, 23, 24, 25, 26, 27, 28, 29, 30, 31, 32, 33, 34, 35, 36, 37, 38, 39, 40, 41, 42, 43, 44, 45, 46] [0, 1, 2, 45, 46, 33, 34, 35, 36, 37, 38, 39, 40, 41, 42, 43, 44, 3, 4, 5, 6, 7, 8, 9, 10, 11, 12, 13, 14, 15, 16, 17, 18, 19, 20, 21, 22, 23, 24, 25, 26, 27, 28, 29, 30, 31, 32] rfl rfl (by decide +kernel) (by decide +kernel) (fun _ => rfl) (by decide +kernel) (fun kd_26 H locs hP hD hS => ?_)
    refine lv_iload_n hx hb dX7_settle_24 rfl (lv_at hl 1 rfl) ?_
    have he := Option.some.inj hq
    subst he
    exact hE kd_26 H locs _ _ _ rfl dX7_settle_25 hP hD hS
  · have hq := it_f c_2 hq
    refine lv_aload_n hx hb dX7_settle_7 rfl (lv_at hl 0 rfl) ?_
    refine lv_iload_n hx hb dX7_settle_8 rfl (lv_at hl 1 rfl) ?_
    obtain ⟨v_32, hq_31, hk⟩ := bd4_s hq
    obtain ⟨r_27, u_28, u_29, u_30⟩ := v_32
    have hq := hk _ _ _ _ rfl
    refine callIA (gV (rest := []) ⟨hx, hb, hml, hown, hts⟩ hG hP hD 0 7 rfl rfl (mtX7_counted l D cI cB cR ad kd H.size badCalls noCalls fullCalls stopError stopIndex npp ncolumns ncount nnum bpp bcolumns bcount bnum gcount gg0pp gg0columns gg0count gg0num gg1pp gg1columns gg1count gg1num gg2pp gg2columns gg2count gg2num gg3pp gg3columns gg3count gg3num gg4pp gg4columns gg4count gg4num vlpp vlcolumns vlcount vlnum vfpp vfcolumns vfcount vfnum vstarget vssource vsnumber vspower vszcount vszplaces vycount vyplaces wlpp wlcolumns wlcount wlnum wfpp wfcolumns wfcount wfnum wstarget wssource wsnumber wspower wszcount wszplaces wycount wyplaces dchosenCount dnumbers dchosen starget ssource snumber spower szcount szplaces clength cplace cletter crowColumns cbytes cdigits centries a0 (r_27, u_28, u_29, u_30) hq_31) (cwV 1 hts gX7_settle_X7_counted rfl rfl rfl ⟨rfl, hd_X7_counted⟩ ⟨Nat.le_of_ble_eq_true rfl, Nat.le_of_ble_eq_true rfl⟩) rfl hl.1 rfl (Nat.le_of_ble_eq_true rfl) dX7_settle_9) hD hS hA (fun H locs hP hD hS => ?_)
    have hP : va_P D cls9 (wPR cI cB cR ad kd u_28 u_29 u_30 stopError stopIndex npp ncolumns ncount nnum bpp bcolumns bcount bnum gcount gg0pp gg0columns gg0count gg0num gg1pp gg1columns gg1count gg1num gg2pp gg2columns gg2count gg2num gg3pp gg3columns gg3count gg3num gg4pp gg4columns gg4count gg4num vlpp vlcolumns vlcount vlnum vfpp vfcolumns vfcount vfnum vstarget vssource vsnumber vspower vszcount vszplaces vycount vyplaces wlpp wlcolumns wlcount wlnum wfpp wfcolumns wfcount wfnum wstarget wssource wsnumber wspower wszcount wszplaces wycount wyplaces dchosenCount dnumbers dchosen starget ssource snumber spower szcount szplaces clength cplace cletter crowColumns cbytes cdigits centries) H := hP
    have hD : va_D A (wPR cI cB cR ad kd u_28 u_29 u_30 stopError stopIndex npp ncolumns ncount nnum bpp bcolumns bcount bnum gcount gg0pp gg0columns gg0count gg0num gg1pp gg1columns gg1count gg1num gg2pp gg2columns gg2count gg2num gg3pp gg3columns gg3count gg3num gg4pp gg4columns gg4count gg4num vlpp vlcolumns vlcount vlnum vfpp vfcolumns vfcount vfnum vstarget vssource vsnumber vspower vszcount vszplaces vycount vyplaces wlpp wlcolumns wlcount wlnum wfpp wfcolumns wfcount wfnum wstarget wssource wsnumber wspower wszcount wszplaces wycount wyplaces dchosenCount dnumbers dchosen starget ssource snumber spower szcount szplaces clength cplace cletter crowColumns cbytes cdigits centries) := hD
    have he := Option.some.inj hq
    subst he
    exact hE kd H locs _ _ _ rfl dX7_settle_12 hP hD hS
