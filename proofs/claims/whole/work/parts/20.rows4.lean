abbrev rm_X4_readCommand : Room := { frames := 5, cells := 0, slots := 0, locals := 114 }
theorem iX4_readCommand_X4 : ∀ w ∈ wsX40, w ∈ wsX4_readCommand := fun _ h => (List.mem_cons_of_mem _ (List.mem_append_right _ h))
theorem fX4_readCommand_1 : Cond.fieldLink RX4 43 "PopovRows$Script" "letter" "I" ∈ wsX4_readCommand := (List.mem_cons_of_mem _ (List.mem_append_left _ (List.mem_append_left _ (List.mem_of_getElem? (i := 0) rfl))))
theorem fX4_readCommand_2 : Cond.fieldLink RX4 26 "PopovRows$Script" "place" "I" ∈ wsX4_readCommand := (List.mem_cons_of_mem _ (List.mem_append_left _ (List.mem_append_left _ (List.mem_of_getElem? (i := 1) rfl))))
theorem fX4_readCommand_3 : Cond.initialized RX7 ∈ wsX4_readCommand := (List.mem_cons_of_mem _ (List.mem_append_left _ (List.mem_append_left _ (List.mem_of_getElem? (i := 18) rfl))))
theorem fX4_readCommand_4 : Cond.static yX7_isPrime ∈ wsX4_readCommand := (List.mem_cons_of_mem _ (List.mem_append_left _ (List.mem_append_left _ (List.mem_of_getElem? (i := 20) rfl))))
set_option maxHeartbeats 4000000 in
set_option maxRecDepth 100000 in
theorem mtX4_readCommand (l : Launch) (D : va_G) (cI cB cR : ClassId) (ah : Nat) (ab : Nat) (ag : Nat) (an : Nat) (sz : Nat) (length : Int32) (place : Int32) (letter : Int32) (rowColumns : Int32) (bytes : Nat → Int32) (digits : Nat → Int32) (entries : Nat → Int32) (res : Int32 × Int32 × Int32 × Int32 × (Nat → Int32) × (Nat → Int32)) (hf : fX4_readCommand length place rowColumns bytes digits entries = some res) : Met l yX4_readCommand wsX4_readCommand rm_X4_readCommand (qP D cI cB cR [.ref ah] (wSC cI cB ah ab ag an length place letter rowColumns bytes digits entries) sz) (qZ D res.1 (wSC cI cB ah ab ag an length place letter rowColumns bytes digits entries) (wSC cI cB ah ab ag an length res.2.1 res.2.2.1 res.2.2.2.1 bytes res.2.2.2.2.1 res.2.2.2.2.2) sz) 0 0 (va_A (wSC cI cB ah ab ag an length place letter rowColumns bytes digits entries) sz) := by
  refine entZ (plainFor_of_name (by decide)) rfl (Nat.le_of_ble_eq_true rfl) ?_
  intro p e s m args below meth c Q A ls S hG hP hD hA hl hE
  obtain ⟨hx, hb, hml, hown, hts⟩ := S
  have hown : s.vm.findClass RX4 = some m.cls := hown
  have hS : va_S A s.heap s.heap [] := va_S.rf
  have hl : lv_has ls 1 [(0, .ref ah)] := hl
  have hq := hf
  unfold fX4_readCommand at hq
  obtain ⟨H, hH⟩ : ∃ H, H = s.heap := ⟨_, rfl⟩
  obtain ⟨locs, hlo⟩ : ∃ L : List Loc, L = [] := ⟨_, rfl⟩
  have hP : va_P D cls9 (wSC cI cB ah ab ag an length place letter rowColumns bytes digits entries) H := hH ▸ hP
  have hS : va_S A s.heap H locs := by rw [hH, hlo]; exact hS
  suffices hg : W p l e rm_X4_readCommand s m args below meth c H locs 0 0 Q (F0 m 0 ls []) by rw [hH, hlo] at hg; exact hg
  refine lv_aload_n hx hb dX4_readCommand_0 rfl (lv_at hl 0 rfl) ?_
  obtain ⟨v_3, hq_2, hk⟩ := bd1_s hq
  obtain ⟨u_1, rfl⟩ : ∃ y, y = v_3 := ⟨_, rfl⟩
  have hq := hk _ rfl
  refine callVA (gV (rest := []) ⟨hx, hb, hml, hown, hts⟩ hG hP hD 0 4 rfl rfl (mtX4_skipBlanks l D cI cB cR ah ab ag an H.size length place letter rowColumns bytes digits entries u_1 hq_2) (cwV 0 hts gX4_readCommand_X4_skipBlanks rfl rfl rfl ⟨rfl, hd_X4_skipBlanks⟩ ⟨Nat.le_of_ble_eq_true rfl, Nat.le_of_ble_eq_true rfl⟩) rfl hl.1 rfl (Nat.le_of_ble_eq_true rfl) dX4_readCommand_1) hD hS hA (fun H locs hP hD hS => ?_)
  have hP : va_P D cls9 (wSC cI cB ah ab ag an length u_1 letter rowColumns bytes digits entries) H := hP
  have hD : va_D A (wSC cI cB ah ab ag an length u_1 letter rowColumns bytes digits entries) := hD
  refine lv_aload_n hx hb dX4_readCommand_4 rfl (lv_at hl 0 rfl) ?_
  refine lv_aload_n hx hb dX4_readCommand_5 rfl (lv_at hl 0 rfl) ?_
  obtain ⟨v_6, hq_5, hk⟩ := bd1_s hq
  obtain ⟨r_4, rfl⟩ : ∃ y, y = v_6 := ⟨_, rfl⟩
  have hq := hk _ rfl
  refine callIA (gV (rest := [.ref ah]) ⟨hx, hb, hml, hown, hts⟩ hG hP hD 0 4 rfl rfl (mtX4_byteHere l D cI cB cR ah ab ag an H.size length u_1 letter rowColumns bytes digits entries r_4 hq_5) (cwV 0 hts gX4_readCommand_X4_byteHere rfl rfl rfl ⟨rfl, hd_X4_byteHere⟩ ⟨Nat.le_of_ble_eq_true rfl, Nat.le_of_ble_eq_true rfl⟩) rfl hl.1 rfl (Nat.le_of_ble_eq_true rfl) dX4_readCommand_6) hD hS hA (fun H locs hP hD hS => ?_)
  have hP : va_P D cls9 (wSC cI cB ah ab ag an length u_1 letter rowColumns bytes digits entries) H := hP
  have hD : va_D A (wSC cI cB ah ab ag an length u_1 letter rowColumns bytes digits entries) := hD
  refine va_put (D := D) (ci := 4) (v := .int r_4) (ty := .int) (C := RX4) (T := TX4) (N := 7) hx hb hts iX4_readCommand_X4 tyX4 tyX4_ok nmX4 hown hG.1 hP hD hS 0 rfl rfl 5 (by decide) (hts _ fX4_readCommand_1) (fun _ h9 => h9) rfl (by decide +kernel) rfl rfl (Nat.le_of_ble_eq_true rfl) dX4_readCommand_9 (fun H locs hP hD hS => ?_)
  have hP : va_P D cls9 (wSC cI cB ah ab ag an length u_1 r_4 rowColumns bytes digits entries) H := hP
  have hD : va_D A (wSC cI cB ah ab ag an length u_1 r_4 rowColumns bytes digits entries) := hD
  refine lv_aload_n hx hb dX4_readCommand_12 rfl (lv_at hl 0 rfl) ?_
  refine va_get (D := D) (ci := 4) (v := .int r_4) (C := RX4) (T := TX4) (N := 7) hx hb hts iX4_readCommand_X4 hown hG.1 hP 0 rfl rfl 5 (by decide) (hts _ fX4_readCommand_1) (fun _ h9 => h9) rfl dX4_readCommand_13 ?_
  by_cases c_16_0 : r_4 = (99 : Int32)
  · have hq := it_t c_16_0 hq
    refine lv_lookup (tgt := 119) hx hb dX4_readCommand_16 (by decide) (off := 103) (by rw [c_16_0]; rfl) (by decide) ?_
    refine lv_aload_n hx hb dX4_readCommand_119 rfl (lv_at hl 0 rfl) ?_
    refine lv_dup hx hb dX4_readCommand_120 rfl ?_
    refine va_get (D := D) (ci := 4) (v := .int u_1) (C := RX4) (T := TX4) (N := 7) hx hb hts iX4_readCommand_X4 hown hG.1 hP 0 rfl rfl 4 (by decide) (hts _ fX4_readCommand_2) (fun _ h9 => h9) rfl dX4_readCommand_121 ?_
    refine lv_iconst (v := 1) hx hb dX4_readCommand_124 (by decide) ?_
    refine lv_iadd hx hb dX4_readCommand_125 ?_
    refine va_put (D := D) (ci := 4) (v := .int (u_1 + (1 : Int32))) (ty := .int) (C := RX4) (T := TX4) (N := 7) hx hb hts iX4_readCommand_X4 tyX4 tyX4_ok nmX4 hown hG.1 hP hD hS 0 rfl rfl 4 (by decide) (hts _ fX4_readCommand_2) (fun _ h9 => h9) rfl (by decide +kernel) rfl rfl (Nat.le_of_ble_eq_true rfl) dX4_readCommand_126 (fun H locs hP hD hS => ?_)
    have hP : va_P D cls9 (wSC cI cB ah ab ag an length (u_1 + (1 : Int32)) r_4 rowColumns bytes digits entries) H := hP
    have hD : va_D A (wSC cI cB ah ab ag an length (u_1 + (1 : Int32)) r_4 rowColumns bytes digits entries) := hD
    refine lv_aload_n hx hb dX4_readCommand_129 rfl (lv_at hl 0 rfl) ?_
    obtain ⟨v_12, hq_11, hk⟩ := bd4_s hq
    obtain ⟨r_7, u_8, u_9, u_10⟩ := v_12
    have hq := hk _ _ _ _ rfl
    refine callZA (gV (rest := []) ⟨hx, hb, hml, hown, hts⟩ hG hP hD 0 4 rfl rfl (mtX4_readColumns l D cI cB cR ah ab ag an H.size length (u_1 + (1 : Int32)) r_4 rowColumns bytes digits entries (r_7, u_8, u_9, u_10) hq_11) (cwV 0 hts gX4_readCommand_X4_readColumns rfl rfl rfl ⟨rfl, hd_X4_readColumns⟩ ⟨Nat.le_of_ble_eq_true rfl, Nat.le_of_ble_eq_true rfl⟩) rfl hl.1 rfl (Nat.le_of_ble_eq_true rfl) dX4_readCommand_130) hD hS hA (fun H locs z_13 hP hD hS => ?_)
    have hP : va_P D cls9 (wSC cI cB ah ab ag an length u_8 r_4 u_9 bytes u_10 entries) H := hP
    have hD : va_D A (wSC cI cB ah ab ag an length u_8 r_4 u_9 bytes u_10 entries) := hD
    refine lv_if_eq (tgt := 149) hx hb dX4_readCommand_133 (by decide) (fun c_14 => ?_) (fun c_14 => ?_)
    · have hq := it_t c_14 hq
      refine lv_iconst (v := 0) hx hb dX4_readCommand_149 (by decide) ?_
      have he := Option.some.inj hq
      subst he
      exact hE H locs _ _ _ rfl (Or.inl rfl) dX4_readCommand_150 hP hD hS
    · have hq := it_f c_14 hq
      refine lv_aload_n hx hb dX4_readCommand_136 rfl (lv_at hl 0 rfl) ?_
      refine lv_bipush (v := 59) hx hb dX4_readCommand_137 (by decide) ?_
      obtain ⟨v_18, hq_17, hk⟩ := bd2_s hq
      obtain ⟨r_15, u_16⟩ := v_18
      have hq := hk _ _ rfl
      refine callZA (gV (rest := []) ⟨hx, hb, hml, hown, hts⟩ hG hP hD 0 4 rfl rfl (mtX4_accept l D cI cB cR ah ab ag an H.size length u_8 r_4 u_9 bytes u_10 entries (59 : Int32) (r_15, u_16) hq_17) (cwV 1 hts gX4_readCommand_X4_accept rfl rfl rfl ⟨rfl, hd_X4_accept⟩ ⟨Nat.le_of_ble_eq_true rfl, Nat.le_of_ble_eq_true rfl⟩) rfl hl.1 rfl (Nat.le_of_ble_eq_true rfl) dX4_readCommand_139) hD hS hA (fun H locs z_19 hP hD hS => ?_)
      have hP : va_P D cls9 (wSC cI cB ah ab ag an length u_16 r_4 u_9 bytes u_10 entries) H := hP
      have hD : va_D A (wSC cI cB ah ab ag an length u_16 r_4 u_9 bytes u_10 entries) := hD
      refine lv_if_eq (tgt := 149) hx hb dX4_readCommand_142 (by decide) (fun c_20 => ?_) (fun c_20 => ?_)
      · have hq := it_t c_20 hq
        refine lv_iconst (v := 0) hx hb dX4_readCommand_149 (by decide) ?_
        have he := Option.some.inj hq
        subst he
        exact hE H locs _ _ _ rfl (Or.inl rfl) dX4_readCommand_150 hP hD hS
      · have hq := it_f c_20 hq
        refine lv_iconst (v := 1) hx hb dX4_readCommand_145 (by decide) ?_
        refine lv_goto (tgt := 150) hx hb dX4_readCommand_146 (by decide) ?_
        have he := Option.some.inj hq
        subst he
        exact hE H locs _ _ _ rfl (Or.inr rfl) dX4_readCommand_150 hP hD hS
  · have hq := it_f c_16_0 hq
    by_cases c_16_1 : r_4 = (109 : Int32)
    · have hq := it_t c_16_1 hq
      refine lv_lookup (tgt := 183) hx hb dX4_readCommand_16 (by decide) (off := 167) (by rw [c_16_1]; rfl) (by decide) ?_
      refine lv_aload_n hx hb dX4_readCommand_183 rfl (lv_at hl 0 rfl) ?_
      refine lv_dup hx hb dX4_readCommand_184 rfl ?_
      refine va_get (D := D) (ci := 4) (v := .int u_1) (C := RX4) (T := TX4) (N := 7) hx hb hts iX4_readCommand_X4 hown hG.1 hP 0 rfl rfl 4 (by decide) (hts _ fX4_readCommand_2) (fun _ h9 => h9) rfl dX4_readCommand_185 ?_
      refine lv_iconst (v := 1) hx hb dX4_readCommand_188 (by decide) ?_
      refine lv_iadd hx hb dX4_readCommand_189 ?_
      refine va_put (D := D) (ci := 4) (v := .int (u_1 + (1 : Int32))) (ty := .int) (C := RX4) (T := TX4) (N := 7) hx hb hts iX4_readCommand_X4 tyX4 tyX4_ok nmX4 hown hG.1 hP hD hS 0 rfl rfl 4 (by decide) (hts _ fX4_readCommand_2) (fun _ h9 => h9) rfl (by decide +kernel) rfl rfl (Nat.le_of_ble_eq_true rfl) dX4_readCommand_190 (fun H locs hP hD hS => ?_)
      have hP : va_P D cls9 (wSC cI cB ah ab ag an length (u_1 + (1 : Int32)) r_4 rowColumns bytes digits entries) H := hP
      have hD : va_D A (wSC cI cB ah ab ag an length (u_1 + (1 : Int32)) r_4 rowColumns bytes digits entries) := hD
      refine lv_aload_n hx hb dX4_readCommand_193 rfl (lv_at hl 0 rfl) ?_
      refine lv_iconst (v := 1) hx hb dX4_readCommand_194 (by decide) ?_
      obtain ⟨v_25, hq_24, hk⟩ := bd3_s hq
      obtain ⟨r_21, u_22, u_23⟩ := v_25
      have hq := hk _ _ _ rfl
      refine callZA (gV (rest := []) ⟨hx, hb, hml, hown, hts⟩ hG hP hD 0 4 rfl rfl (mtX4_readDigits l D cI cB cR ah ab ag an H.size length (u_1 + (1 : Int32)) r_4 rowColumns bytes digits entries (1 : Int32) (r_21, u_22, u_23) hq_24) (cwV 1 hts gX4_readCommand_X4_readDigits rfl rfl rfl ⟨rfl, hd_X4_readDigits⟩ ⟨Nat.le_of_ble_eq_true rfl, Nat.le_of_ble_eq_true rfl⟩) rfl hl.1 rfl (Nat.le_of_ble_eq_true rfl) dX4_readCommand_195) hD hS hA (fun H locs z_26 hP hD hS => ?_)
      have hP : va_P D cls9 (wSC cI cB ah ab ag an length u_22 r_4 rowColumns bytes u_23 entries) H := hP
      have hD : va_D A (wSC cI cB ah ab ag an length u_22 r_4 rowColumns bytes u_23 entries) := hD
      refine lv_if_eq (tgt := 214) hx hb dX4_readCommand_198 (by decide) (fun c_27 => ?_) (fun c_27 => ?_)
      · have hq := it_t c_27 hq
        refine lv_iconst (v := 0) hx hb dX4_readCommand_214 (by decide) ?_
        have he := Option.some.inj hq
        subst he
        exact hE H locs _ _ _ rfl (Or.inl rfl) dX4_readCommand_215 hP hD hS
      · have hq := it_f c_27 hq
        refine lv_aload_n hx hb dX4_readCommand_201 rfl (lv_at hl 0 rfl) ?_
        refine lv_bipush (v := 59) hx hb dX4_readCommand_202 (by decide) ?_
        obtain ⟨v_31, hq_30, hk⟩ := bd2_s hq
        obtain ⟨r_28, u_29⟩ := v_31
        have hq := hk _ _ rfl
        refine callZA (gV (rest := []) ⟨hx, hb, hml, hown, hts⟩ hG hP hD 0 4 rfl rfl (mtX4_accept l D cI cB cR ah ab ag an H.size length u_22 r_4 rowColumns bytes u_23 entries (59 : Int32) (r_28, u_29) hq_30) (cwV 1 hts gX4_readCommand_X4_accept rfl rfl rfl ⟨rfl, hd_X4_accept⟩ ⟨Nat.le_of_ble_eq_true rfl, Nat.le_of_ble_eq_true rfl⟩) rfl hl.1 rfl (Nat.le_of_ble_eq_true rfl) dX4_readCommand_204) hD hS hA (fun H locs z_32 hP hD hS => ?_)
        have hP : va_P D cls9 (wSC cI cB ah ab ag an length u_29 r_4 rowColumns bytes u_23 entries) H := hP
        have hD : va_D A (wSC cI cB ah ab ag an length u_29 r_4 rowColumns bytes u_23 entries) := hD
        refine lv_if_eq (tgt := 214) hx hb dX4_readCommand_207 (by decide) (fun c_33 => ?_) (fun c_33 => ?_)
        · have hq := it_t c_33 hq
          refine lv_iconst (v := 0) hx hb dX4_readCommand_214 (by decide) ?_
          have he := Option.some.inj hq
          subst he
          exact hE H locs _ _ _ rfl (Or.inl rfl) dX4_readCommand_215 hP hD hS
        · have hq := it_f c_33 hq
          refine lv_iconst (v := 1) hx hb dX4_readCommand_210 (by decide) ?_
          refine lv_goto (tgt := 215) hx hb dX4_readCommand_211 (by decide) ?_
          have he := Option.some.inj hq
          subst he
          exact hE H locs _ _ _ rfl (Or.inr rfl) dX4_readCommand_215 hP hD hS
    · have hq := it_f c_16_1 hq
      by_cases c_16_2 : r_4 = (112 : Int32)
      · have hq := it_t c_16_2 hq
        refine lv_lookup (tgt := 76) hx hb dX4_readCommand_16 (by decide) (off := 60) (by rw [c_16_2]; rfl) (by decide) ?_
        refine lv_aload_n hx hb dX4_readCommand_76 rfl (lv_at hl 0 rfl) ?_
        refine lv_dup hx hb dX4_readCommand_77 rfl ?_
        refine va_get (D := D) (ci := 4) (v := .int u_1) (C := RX4) (T := TX4) (N := 7) hx hb hts iX4_readCommand_X4 hown hG.1 hP 0 rfl rfl 4 (by decide) (hts _ fX4_readCommand_2) (fun _ h9 => h9) rfl dX4_readCommand_78 ?_
        refine lv_iconst (v := 1) hx hb dX4_readCommand_81 (by decide) ?_
        refine lv_iadd hx hb dX4_readCommand_82 ?_
        refine va_put (D := D) (ci := 4) (v := .int (u_1 + (1 : Int32))) (ty := .int) (C := RX4) (T := TX4) (N := 7) hx hb hts iX4_readCommand_X4 tyX4 tyX4_ok nmX4 hown hG.1 hP hD hS 0 rfl rfl 4 (by decide) (hts _ fX4_readCommand_2) (fun _ h9 => h9) rfl (by decide +kernel) rfl rfl (Nat.le_of_ble_eq_true rfl) dX4_readCommand_83 (fun H locs hP hD hS => ?_)
        have hP : va_P D cls9 (wSC cI cB ah ab ag an length (u_1 + (1 : Int32)) r_4 rowColumns bytes digits entries) H := hP
        have hD : va_D A (wSC cI cB ah ab ag an length (u_1 + (1 : Int32)) r_4 rowColumns bytes digits entries) := hD
        refine lv_aload_n hx hb dX4_readCommand_86 rfl (lv_at hl 0 rfl) ?_
        obtain ⟨v_37, hq_36, hk⟩ := bd2_s hq
        obtain ⟨r_34, u_35⟩ := v_37
        have hq := hk _ _ rfl
        refine callIA (gV (rest := []) ⟨hx, hb, hml, hown, hts⟩ hG hP hD 0 4 rfl rfl (mtX4_digitHere l D cI cB cR ah ab ag an H.size length (u_1 + (1 : Int32)) r_4 rowColumns bytes digits entries (r_34, u_35) hq_36) (cwV 0 hts gX4_readCommand_X4_digitHere rfl rfl rfl ⟨rfl, hd_X4_digitHere⟩ ⟨Nat.le_of_ble_eq_true rfl, Nat.le_of_ble_eq_true rfl⟩) rfl hl.1 rfl (Nat.le_of_ble_eq_true rfl) dX4_readCommand_87) hD hS hA (fun H locs hP hD hS => ?_)
        have hP : va_P D cls9 (wSC cI cB ah ab ag an length u_35 r_4 rowColumns bytes digits entries) H := hP
        have hD : va_D A (wSC cI cB ah ab ag an length u_35 r_4 rowColumns bytes digits entries) := hD
        obtain ⟨v_40, hq_39, hk⟩ := bd1_s hq
        obtain ⟨r_38, rfl⟩ : ∃ y, y = v_40 := ⟨_, rfl⟩
        have hq := hk _ rfl
        refine callZ0 (gSN (rest := []) ⟨hx, hb, hml, hown, hts⟩ hG vaP0 (vaD0 (A := A)) (mtX7_isPrime l D cI cB cR H.size r_34 r_38 hq_39) (va_cnB (host := "PopovRows") 1 hts gX4_readCommand_X7_isPrime_n49 rfl rfl rfl (hG.2 _ nl_23) (hts _ fX4_readCommand_3) hd_X7_isPrime ⟨Nat.le_of_ble_eq_true rfl, Nat.le_of_ble_eq_true rfl⟩) (hts _ fX4_readCommand_4) rfl hl.1 rfl (Nat.le_of_ble_eq_true rfl) dX4_readCommand_90) hP hS hA (fun H locs z_41 hP hS => ?_)
        refine lv_if_eq (tgt := 117) hx hb dX4_readCommand_93 (by decide) (fun c_42 => ?_) (fun c_42 => ?_)
        · have hq := it_t c_42 hq
          refine lv_iconst (v := 0) hx hb dX4_readCommand_117 (by decide) ?_
          have he := Option.some.inj hq
          subst he
          exact hE H locs _ _ _ rfl (Or.inl rfl) dX4_readCommand_118 hP hD hS
        · have hq := it_f c_42 hq
          refine lv_aload_n hx hb dX4_readCommand_96 rfl (lv_at hl 0 rfl) ?_
          refine lv_iconst (v := 1) hx hb dX4_readCommand_97 (by decide) ?_
          obtain ⟨v_47, hq_46, hk⟩ := bd3_s hq
          obtain ⟨r_43, u_44, u_45⟩ := v_47
          have hq := hk _ _ _ rfl
          refine callZA (gV (rest := []) ⟨hx, hb, hml, hown, hts⟩ hG hP hD 0 4 rfl rfl (mtX4_readDigits l D cI cB cR ah ab ag an H.size length u_35 r_4 rowColumns bytes digits entries (1 : Int32) (r_43, u_44, u_45) hq_46) (cwV 1 hts gX4_readCommand_X4_readDigits rfl rfl rfl ⟨rfl, hd_X4_readDigits⟩ ⟨Nat.le_of_ble_eq_true rfl, Nat.le_of_ble_eq_true rfl⟩) rfl hl.1 rfl (Nat.le_of_ble_eq_true rfl) dX4_readCommand_98) hD hS hA (fun H locs z_48 hP hD hS => ?_)
          have hP : va_P D cls9 (wSC cI cB ah ab ag an length u_44 r_4 rowColumns bytes u_45 entries) H := hP
          have hD : va_D A (wSC cI cB ah ab ag an length u_44 r_4 rowColumns bytes u_45 entries) := hD
          refine lv_if_eq (tgt := 117) hx hb dX4_readCommand_101 (by decide) (fun c_49 => ?_) (fun c_49 => ?_)
          · have hq := it_t c_49 hq
            refine lv_iconst (v := 0) hx hb dX4_readCommand_117 (by decide) ?_
            have he := Option.some.inj hq
            subst he
            exact hE H locs _ _ _ rfl (Or.inl rfl) dX4_readCommand_118 hP hD hS
          · have hq := it_f c_49 hq
            refine lv_aload_n hx hb dX4_readCommand_104 rfl (lv_at hl 0 rfl) ?_
            refine lv_bipush (v := 59) hx hb dX4_readCommand_105 (by decide) ?_
            obtain ⟨v_53, hq_52, hk⟩ := bd2_s hq
            obtain ⟨r_50, u_51⟩ := v_53
            have hq := hk _ _ rfl
            refine callZA (gV (rest := []) ⟨hx, hb, hml, hown, hts⟩ hG hP hD 0 4 rfl rfl (mtX4_accept l D cI cB cR ah ab ag an H.size length u_44 r_4 rowColumns bytes u_45 entries (59 : Int32) (r_50, u_51) hq_52) (cwV 1 hts gX4_readCommand_X4_accept rfl rfl rfl ⟨rfl, hd_X4_accept⟩ ⟨Nat.le_of_ble_eq_true rfl, Nat.le_of_ble_eq_true rfl⟩) rfl hl.1 rfl (Nat.le_of_ble_eq_true rfl) dX4_readCommand_107) hD hS hA (fun H locs z_54 hP hD hS => ?_)
            have hP : va_P D cls9 (wSC cI cB ah ab ag an length u_51 r_4 rowColumns bytes u_45 entries) H := hP
            have hD : va_D A (wSC cI cB ah ab ag an length u_51 r_4 rowColumns bytes u_45 entries) := hD
            refine lv_if_eq (tgt := 117) hx hb dX4_readCommand_110 (by decide) (fun c_55 => ?_) (fun c_55 => ?_)
            · have hq := it_t c_55 hq
              refine lv_iconst (v := 0) hx hb dX4_readCommand_117 (by decide) ?_
              have he := Option.some.inj hq
              subst he
              exact hE H locs _ _ _ rfl (Or.inl rfl) dX4_readCommand_118 hP hD hS
            · have hq := it_f c_55 hq
              refine lv_iconst (v := 1) hx hb dX4_readCommand_113 (by decide) ?_
              refine lv_goto (tgt := 118) hx hb dX4_readCommand_114 (by decide) ?_
              have he := Option.some.inj hq
              subst he
              exact hE H locs _ _ _ rfl (Or.inr rfl) dX4_readCommand_118 hP hD hS
      · have hq := it_f c_16_2 hq
        by_cases c_16_3 : r_4 = (114 : Int32)
        · have hq := it_t c_16_3 hq
          refine lv_lookup (tgt := 151) hx hb dX4_readCommand_16 (by decide) (off := 135) (by rw [c_16_3]; rfl) (by decide) ?_
          refine lv_aload_n hx hb dX4_readCommand_151 rfl (lv_at hl 0 rfl) ?_
          refine lv_dup hx hb dX4_readCommand_152 rfl ?_
          refine va_get (D := D) (ci := 4) (v := .int u_1) (C := RX4) (T := TX4) (N := 7) hx hb hts iX4_readCommand_X4 hown hG.1 hP 0 rfl rfl 4 (by decide) (hts _ fX4_readCommand_2) (fun _ h9 => h9) rfl dX4_readCommand_153 ?_
          refine lv_iconst (v := 1) hx hb dX4_readCommand_156 (by decide) ?_
          refine lv_iadd hx hb dX4_readCommand_157 ?_
          refine va_put (D := D) (ci := 4) (v := .int (u_1 + (1 : Int32))) (ty := .int) (C := RX4) (T := TX4) (N := 7) hx hb hts iX4_readCommand_X4 tyX4 tyX4_ok nmX4 hown hG.1 hP hD hS 0 rfl rfl 4 (by decide) (hts _ fX4_readCommand_2) (fun _ h9 => h9) rfl (by decide +kernel) rfl rfl (Nat.le_of_ble_eq_true rfl) dX4_readCommand_158 (fun H locs hP hD hS => ?_)
          have hP : va_P D cls9 (wSC cI cB ah ab ag an length (u_1 + (1 : Int32)) r_4 rowColumns bytes digits entries) H := hP
          have hD : va_D A (wSC cI cB ah ab ag an length (u_1 + (1 : Int32)) r_4 rowColumns bytes digits entries) := hD
          refine lv_aload_n hx hb dX4_readCommand_161 rfl (lv_at hl 0 rfl) ?_
          obtain ⟨v_60, hq_59, hk⟩ := bd3_s hq
          obtain ⟨r_56, u_57, u_58⟩ := v_60
          have hq := hk _ _ _ rfl
          refine callZA (gV (rest := []) ⟨hx, hb, hml, hown, hts⟩ hG hP hD 0 4 rfl rfl (mtX4_readRow l D cI cB cR ah ab ag an H.size length (u_1 + (1 : Int32)) r_4 rowColumns bytes digits entries (r_56, u_57, u_58) hq_59) (cwV 0 hts gX4_readCommand_X4_readRow rfl rfl rfl ⟨rfl, hd_X4_readRow⟩ ⟨Nat.le_of_ble_eq_true rfl, Nat.le_of_ble_eq_true rfl⟩) rfl hl.1 rfl (Nat.le_of_ble_eq_true rfl) dX4_readCommand_162) hD hS hA (fun H locs z_61 hP hD hS => ?_)
          have hP : va_P D cls9 (wSC cI cB ah ab ag an length u_57 r_4 rowColumns bytes digits u_58) H := hP
          have hD : va_D A (wSC cI cB ah ab ag an length u_57 r_4 rowColumns bytes digits u_58) := hD
          refine lv_if_eq (tgt := 181) hx hb dX4_readCommand_165 (by decide) (fun c_62 => ?_) (fun c_62 => ?_)
          · have hq := it_t c_62 hq
            refine lv_iconst (v := 0) hx hb dX4_readCommand_181 (by decide) ?_
            have he := Option.some.inj hq
            subst he
            exact hE H locs _ _ _ rfl (Or.inl rfl) dX4_readCommand_182 hP hD hS
          · have hq := it_f c_62 hq
            refine lv_aload_n hx hb dX4_readCommand_168 rfl (lv_at hl 0 rfl) ?_
            refine lv_bipush (v := 59) hx hb dX4_readCommand_169 (by decide) ?_
            obtain ⟨v_66, hq_65, hk⟩ := bd2_s hq
            obtain ⟨r_63, u_64⟩ := v_66
            have hq := hk _ _ rfl
            refine callZA (gV (rest := []) ⟨hx, hb, hml, hown, hts⟩ hG hP hD 0 4 rfl rfl (mtX4_accept l D cI cB cR ah ab ag an H.size length u_57 r_4 rowColumns bytes digits u_58 (59 : Int32) (r_63, u_64) hq_65) (cwV 1 hts gX4_readCommand_X4_accept rfl rfl rfl ⟨rfl, hd_X4_accept⟩ ⟨Nat.le_of_ble_eq_true rfl, Nat.le_of_ble_eq_true rfl⟩) rfl hl.1 rfl (Nat.le_of_ble_eq_true rfl) dX4_readCommand_171) hD hS hA (fun H locs z_67 hP hD hS => ?_)
            have hP : va_P D cls9 (wSC cI cB ah ab ag an length u_64 r_4 rowColumns bytes digits u_58) H := hP
            have hD : va_D A (wSC cI cB ah ab ag an length u_64 r_4 rowColumns bytes digits u_58) := hD
            refine lv_if_eq (tgt := 181) hx hb dX4_readCommand_174 (by decide) (fun c_68 => ?_) (fun c_68 => ?_)
            · have hq := it_t c_68 hq
              refine lv_iconst (v := 0) hx hb dX4_readCommand_181 (by decide) ?_
              have he := Option.some.inj hq
              subst he
              exact hE H locs _ _ _ rfl (Or.inl rfl) dX4_readCommand_182 hP hD hS
            · have hq := it_f c_68 hq
              refine lv_iconst (v := 1) hx hb dX4_readCommand_177 (by decide) ?_
              refine lv_goto (tgt := 182) hx hb dX4_readCommand_178 (by decide) ?_
              have he := Option.some.inj hq
              subst he
              exact hE H locs _ _ _ rfl (Or.inr rfl) dX4_readCommand_182 hP hD hS
        · have hq := it_f c_16_3 hq
          by_cases c_16_4 : r_4 = (115 : Int32)
          · have hq := it_t c_16_4 hq
            refine lv_lookup (tgt := 216) hx hb dX4_readCommand_16 (by decide) (off := 200) (by rw [c_16_4]; rfl) (by decide) ?_
            refine lv_aload_n hx hb dX4_readCommand_216 rfl (lv_at hl 0 rfl) ?_
            refine lv_dup hx hb dX4_readCommand_217 rfl ?_
            refine va_get (D := D) (ci := 4) (v := .int u_1) (C := RX4) (T := TX4) (N := 7) hx hb hts iX4_readCommand_X4 hown hG.1 hP 0 rfl rfl 4 (by decide) (hts _ fX4_readCommand_2) (fun _ h9 => h9) rfl dX4_readCommand_218 ?_
            refine lv_iconst (v := 1) hx hb dX4_readCommand_221 (by decide) ?_
            refine lv_iadd hx hb dX4_readCommand_222 ?_
            refine va_put (D := D) (ci := 4) (v := .int (u_1 + (1 : Int32))) (ty := .int) (C := RX4) (T := TX4) (N := 7) hx hb hts iX4_readCommand_X4 tyX4 tyX4_ok nmX4 hown hG.1 hP hD hS 0 rfl rfl 4 (by decide) (hts _ fX4_readCommand_2) (fun _ h9 => h9) rfl (by decide +kernel) rfl rfl (Nat.le_of_ble_eq_true rfl) dX4_readCommand_223 (fun H locs hP hD hS => ?_)
            have hP : va_P D cls9 (wSC cI cB ah ab ag an length (u_1 + (1 : Int32)) r_4 rowColumns bytes digits entries) H := hP
            have hD : va_D A (wSC cI cB ah ab ag an length (u_1 + (1 : Int32)) r_4 rowColumns bytes digits entries) := hD
            refine lv_aload_n hx hb dX4_readCommand_226 rfl (lv_at hl 0 rfl) ?_
            refine lv_iconst (v := 4) hx hb dX4_readCommand_227 (by decide) ?_
            obtain ⟨v_73, hq_72, hk⟩ := bd3_s hq
            obtain ⟨r_69, u_70, u_71⟩ := v_73
            have hq := hk _ _ _ rfl
            refine callZA (gV (rest := []) ⟨hx, hb, hml, hown, hts⟩ hG hP hD 0 4 rfl rfl (mtX4_readDigits l D cI cB cR ah ab ag an H.size length (u_1 + (1 : Int32)) r_4 rowColumns bytes digits entries (4 : Int32) (r_69, u_70, u_71) hq_72) (cwV 1 hts gX4_readCommand_X4_readDigits rfl rfl rfl ⟨rfl, hd_X4_readDigits⟩ ⟨Nat.le_of_ble_eq_true rfl, Nat.le_of_ble_eq_true rfl⟩) rfl hl.1 rfl (Nat.le_of_ble_eq_true rfl) dX4_readCommand_228) hD hS hA (fun H locs z_74 hP hD hS => ?_)
            have hP : va_P D cls9 (wSC cI cB ah ab ag an length u_70 r_4 rowColumns bytes u_71 entries) H := hP
            have hD : va_D A (wSC cI cB ah ab ag an length u_70 r_4 rowColumns bytes u_71 entries) := hD
            refine lv_if_eq (tgt := 247) hx hb dX4_readCommand_231 (by decide) (fun c_75 => ?_) (fun c_75 => ?_)
            · have hq := it_t c_75 hq
              refine lv_iconst (v := 0) hx hb dX4_readCommand_247 (by decide) ?_
              have he := Option.some.inj hq
              subst he
              exact hE H locs _ _ _ rfl (Or.inl rfl) dX4_readCommand_248 hP hD hS
            · have hq := it_f c_75 hq
              refine lv_aload_n hx hb dX4_readCommand_234 rfl (lv_at hl 0 rfl) ?_
              refine lv_bipush (v := 59) hx hb dX4_readCommand_235 (by decide) ?_
              obtain ⟨v_79, hq_78, hk⟩ := bd2_s hq
              obtain ⟨r_76, u_77⟩ := v_79
              have hq := hk _ _ rfl
              refine callZA (gV (rest := []) ⟨hx, hb, hml, hown, hts⟩ hG hP hD 0 4 rfl rfl (mtX4_accept l D cI cB cR ah ab ag an H.size length u_70 r_4 rowColumns bytes u_71 entries (59 : Int32) (r_76, u_77) hq_78) (cwV 1 hts gX4_readCommand_X4_accept rfl rfl rfl ⟨rfl, hd_X4_accept⟩ ⟨Nat.le_of_ble_eq_true rfl, Nat.le_of_ble_eq_true rfl⟩) rfl hl.1 rfl (Nat.le_of_ble_eq_true rfl) dX4_readCommand_237) hD hS hA (fun H locs z_80 hP hD hS => ?_)
              have hP : va_P D cls9 (wSC cI cB ah ab ag an length u_77 r_4 rowColumns bytes u_71 entries) H := hP
              have hD : va_D A (wSC cI cB ah ab ag an length u_77 r_4 rowColumns bytes u_71 entries) := hD
              refine lv_if_eq (tgt := 247) hx hb dX4_readCommand_240 (by decide) (fun c_81 => ?_) (fun c_81 => ?_)
              · have hq := it_t c_81 hq
                refine lv_iconst (v := 0) hx hb dX4_readCommand_247 (by decide) ?_
                have he := Option.some.inj hq
                subst he
                exact hE H locs _ _ _ rfl (Or.inl rfl) dX4_readCommand_248 hP hD hS
              · have hq := it_f c_81 hq
                refine lv_iconst (v := 1) hx hb dX4_readCommand_243 (by decide) ?_
                refine lv_goto (tgt := 248) hx hb dX4_readCommand_244 (by decide) ?_
                have he := Option.some.inj hq
                subst he
                exact hE H locs _ _ _ rfl (Or.inr rfl) dX4_readCommand_248 hP hD hS
          · have hq := it_f c_16_4 hq
            by_cases c_16_5 : r_4 = (120 : Int32)
            · have hq := it_t c_16_5 hq
              refine lv_lookup (tgt := 183) hx hb dX4_readCommand_16 (by decide) (off := 167) (by rw [c_16_5]; rfl) (by decide) ?_
              refine lv_aload_n hx hb dX4_readCommand_183 rfl (lv_at hl 0 rfl) ?_
              refine lv_dup hx hb dX4_readCommand_184 rfl ?_
              refine va_get (D := D) (ci := 4) (v := .int u_1) (C := RX4) (T := TX4) (N := 7) hx hb hts iX4_readCommand_X4 hown hG.1 hP 0 rfl rfl 4 (by decide) (hts _ fX4_readCommand_2) (fun _ h9 => h9) rfl dX4_readCommand_185 ?_
              refine lv_iconst (v := 1) hx hb dX4_readCommand_188 (by decide) ?_
              refine lv_iadd hx hb dX4_readCommand_189 ?_
              refine va_put (D := D) (ci := 4) (v := .int (u_1 + (1 : Int32))) (ty := .int) (C := RX4) (T := TX4) (N := 7) hx hb hts iX4_readCommand_X4 tyX4 tyX4_ok nmX4 hown hG.1 hP hD hS 0 rfl rfl 4 (by decide) (hts _ fX4_readCommand_2) (fun _ h9 => h9) rfl (by decide +kernel) rfl rfl (Nat.le_of_ble_eq_true rfl) dX4_readCommand_190 (fun H locs hP hD hS => ?_)
              have hP : va_P D cls9 (wSC cI cB ah ab ag an length (u_1 + (1 : Int32)) r_4 rowColumns bytes digits entries) H := hP
              have hD : va_D A (wSC cI cB ah ab ag an length (u_1 + (1 : Int32)) r_4 rowColumns bytes digits entries) := hD
              refine lv_aload_n hx hb dX4_readCommand_193 rfl (lv_at hl 0 rfl) ?_
              refine lv_iconst (v := 1) hx hb dX4_readCommand_194 (by decide) ?_
              obtain ⟨v_86, hq_85, hk⟩ := bd3_s hq
              obtain ⟨r_82, u_83, u_84⟩ := v_86
              have hq := hk _ _ _ rfl
              refine callZA (gV (rest := []) ⟨hx, hb, hml, hown, hts⟩ hG hP hD 0 4 rfl rfl (mtX4_readDigits l D cI cB cR ah ab ag an H.size length (u_1 + (1 : Int32)) r_4 rowColumns bytes digits entries (1 : Int32) (r_82, u_83, u_84) hq_85) (cwV 1 hts gX4_readCommand_X4_readDigits rfl rfl rfl ⟨rfl, hd_X4_readDigits⟩ ⟨Nat.le_of_ble_eq_true rfl, Nat.le_of_ble_eq_true rfl⟩) rfl hl.1 rfl (Nat.le_of_ble_eq_true rfl) dX4_readCommand_195) hD hS hA (fun H locs z_87 hP hD hS => ?_)
              have hP : va_P D cls9 (wSC cI cB ah ab ag an length u_83 r_4 rowColumns bytes u_84 entries) H := hP
              have hD : va_D A (wSC cI cB ah ab ag an length u_83 r_4 rowColumns bytes u_84 entries) := hD
              refine lv_if_eq (tgt := 214) hx hb dX4_readCommand_198 (by decide) (fun c_88 => ?_) (fun c_88 => ?_)
              · have hq := it_t c_88 hq
                refine lv_iconst (v := 0) hx hb dX4_readCommand_214 (by decide) ?_
                have he := Option.some.inj hq
                subst he
                exact hE H locs _ _ _ rfl (Or.inl rfl) dX4_readCommand_215 hP hD hS
              · have hq := it_f c_88 hq
                refine lv_aload_n hx hb dX4_readCommand_201 rfl (lv_at hl 0 rfl) ?_
                refine lv_bipush (v := 59) hx hb dX4_readCommand_202 (by decide) ?_
                obtain ⟨v_92, hq_91, hk⟩ := bd2_s hq
                obtain ⟨r_89, u_90⟩ := v_92
                have hq := hk _ _ rfl
                refine callZA (gV (rest := []) ⟨hx, hb, hml, hown, hts⟩ hG hP hD 0 4 rfl rfl (mtX4_accept l D cI cB cR ah ab ag an H.size length u_83 r_4 rowColumns bytes u_84 entries (59 : Int32) (r_89, u_90) hq_91) (cwV 1 hts gX4_readCommand_X4_accept rfl rfl rfl ⟨rfl, hd_X4_accept⟩ ⟨Nat.le_of_ble_eq_true rfl, Nat.le_of_ble_eq_true rfl⟩) rfl hl.1 rfl (Nat.le_of_ble_eq_true rfl) dX4_readCommand_204) hD hS hA (fun H locs z_93 hP hD hS => ?_)
                have hP : va_P D cls9 (wSC cI cB ah ab ag an length u_90 r_4 rowColumns bytes u_84 entries) H := hP
                have hD : va_D A (wSC cI cB ah ab ag an length u_90 r_4 rowColumns bytes u_84 entries) := hD
                refine lv_if_eq (tgt := 214) hx hb dX4_readCommand_207 (by decide) (fun c_94 => ?_) (fun c_94 => ?_)
                · have hq := it_t c_94 hq
                  refine lv_iconst (v := 0) hx hb dX4_readCommand_214 (by decide) ?_
                  have he := Option.some.inj hq
                  subst he
                  exact hE H locs _ _ _ rfl (Or.inl rfl) dX4_readCommand_215 hP hD hS
                · have hq := it_f c_94 hq
                  refine lv_iconst (v := 1) hx hb dX4_readCommand_210 (by decide) ?_
                  refine lv_goto (tgt := 215) hx hb dX4_readCommand_211 (by decide) ?_
                  have he := Option.some.inj hq
                  subst he
                  exact hE H locs _ _ _ rfl (Or.inr rfl) dX4_readCommand_215 hP hD hS
            · have hq := it_f c_16_5 hq
              refine lv_lookup (tgt := 249) hx hb dX4_readCommand_16 (by decide) (off := 233) (by show Op.lookupswitch.offset [(99, 103), (109, 167), (112, 60), (114, 135), (115, 200), (120, 167)] 233 _ = 233; rw [Op.lookupswitch.offset_cons, if_neg (sw_ne (a := 99) c_16_0 rfl), Op.lookupswitch.offset_cons, if_neg (sw_ne (a := 109) c_16_1 rfl), Op.lookupswitch.offset_cons, if_neg (sw_ne (a := 112) c_16_2 rfl), Op.lookupswitch.offset_cons, if_neg (sw_ne (a := 114) c_16_3 rfl), Op.lookupswitch.offset_cons, if_neg (sw_ne (a := 115) c_16_4 rfl), Op.lookupswitch.offset_cons, if_neg (sw_ne (a := 120) c_16_5 rfl)]; rfl) (by decide) ?_
              refine lv_iconst (v := 0) hx hb dX4_readCommand_249 (by decide) ?_
              have he := Option.some.inj hq
              subst he
              exact hE H locs _ _ _ rfl (Or.inl rfl) dX4_readCommand_250 hP hD hS
abbrev rm_X3_addTimes_e0 : Room := { frames := 3, cells := 0, slots := 0, locals := 68 }
theorem iX3_addTimes_e0_X3 : ∀ w ∈ wsX30, w ∈ wsX3_addTimes := fun _ h => (List.mem_cons_of_mem _ (List.mem_append_right _ h))
theorem fX3_addTimes_e0_1 : Cond.fieldLink RX3 21 "PopovRows$Rows" "width" "I" ∈ wsX3_addTimes := (List.mem_cons_of_mem _ (List.mem_append_left _ (List.mem_of_getElem? (i := 0) rfl)))
theorem fX3_addTimes_e0_2 : Cond.fieldLink RX3 24 "PopovRows$Rows" "powers" "I" ∈ wsX3_addTimes := (List.mem_cons_of_mem _ (List.mem_append_left _ (List.mem_of_getElem? (i := 1) rfl)))
set_option maxHeartbeats 4000000 in
set_option maxRecDepth 100000 in
theorem mtX3_addTimes_e0 (l : Launch) (D : va_G) (cI cB cR : ClassId) (ah : Nat) (an : Nat) (sz : Nat) (L : Nat) (room : Int32) (width : Int32) (powers : Int32) (pp : Int32) (columns : Int32) (count : Int32) (num : Nat → Int32) (a0 : Int32) (a2 : Int32) (a3 : Int32) (a4 : Int32) (res : Nat → Int32) (hf : fX3_addTimes_e0 L room width powers pp num a0 a2 a3 a4 = some res) : Met l yX3_addTimes wsX3_addTimes rm_X3_addTimes_e0 (qP D cI cB cR [.ref ah, .int a0, .ref ah, .int a2, .int a3, .int a4] (wR cI ah an L room width powers pp columns count num) sz) (qV D (wR cI ah an L room width powers pp columns count num) (wR cI ah an L room width powers pp columns count res) sz) 0 0 (va_A (wR cI ah an L room width powers pp columns count num) sz) := by
  refine entV (plainFor_of_name (by decide)) rfl (Nat.le_of_ble_eq_true rfl) ?_
  intro p e s m args below meth c Q A ls S hG hP hD hA hl hE
  obtain ⟨hx, hb, hml, hown, hts⟩ := S
  have hown : s.vm.findClass RX3 = some m.cls := hown
  have hS : va_S A s.heap s.heap [] := va_S.rf
  have hl : lv_has ls 9 [(0, .ref ah), (1, .int a0), (2, .ref ah), (3, .int a2), (4, .int a3), (5, .int a4)] := hl
  have hq := hf
  unfold fX3_addTimes_e0 at hq
  obtain ⟨H, hH⟩ : ∃ H, H = s.heap := ⟨_, rfl⟩
  obtain ⟨locs, hlo⟩ : ∃ L : List Loc, L = [] := ⟨_, rfl⟩
  have hP : va_P D cls9 (wR cI ah an L room width powers pp columns count num) H := hH ▸ hP
  have hS : va_S A s.heap H locs := by rw [hH, hlo]; exact hS
  suffices hg : W p l e rm_X3_addTimes_e0 s m args below meth c H locs 0 0 Q (F0 m 0 ls []) by rw [hH, hlo] at hg; exact hg
  refine lv_iconst (v := 0) hx hb dX3_addTimes_0 (by decide) ?_
  refine lv_istore (lv' := [(6, .int (0 : Int32)), (0, .ref ah), (1, .int a0), (2, .ref ah), (3, .int a2), (4, .int a3), (5, .int a4)]) hx hb dX3_addTimes_1 hl (by decide) rfl (fun ls hl => ?_)
  obtain ⟨w1, hw1, hk1⟩ := bd1_s hq
  have hX1 : ∀ (x_18 : Nat → Int32), w1 = x_18 → ∀ (H : Heap) (locs : List Loc), va_P D cls9 (wR cI ah an L room width powers pp columns count x_18) H → va_D A (wR cI ah an L room width powers pp columns count x_18) → va_S A s.heap H locs → ∀ (ls : Array Slot), lv_has ls 9 [] → W p l e rm_X3_addTimes_e0 s m args below meth c H locs 0 0 Q (F0 m 82 ls []) := by
    intro x_18 hq H locs hP hD hS ls hl
    have hq := hk1 _ hq
    have he := Option.some.inj hq
    subst he
    exact hE H locs _ _ dX3_addTimes_82 hP hD hS
  have hL1 : ∀ (n : Nat) (i_1 : Int32) (i_2 : Nat → Int32), lrun (fun (z : Int32 × (Nat → Int32)) => fX3_addTimes_e0_s3 L room width powers pp a0 a2 a3 a4 z.1 z.2) n (i_1, i_2) = some w1 → ∀ (H : Heap) (locs : List Loc), va_P D cls9 (wR cI ah an L room width powers pp columns count i_2) H → va_D A (wR cI ah an L room width powers pp columns count i_2) → va_S A s.heap H locs → ∀ (ls : Array Slot), lv_has ls 9 [(0, .ref ah), (1, .int a0), (2, .ref ah), (3, .int a2), (4, .int a3), (5, .int a4), (6, .int i_1)] → W p l e rm_X3_addTimes_e0 s m args below meth c H locs 0 0 Q (F0 m 3 ls []) := by
    intro n
    induction n with
    | zero => intro i_1 i_2 h; cases h
    | succ n ih1 =>
      intro i_1 i_2 hr1 H locs hP hD hS ls hl
      obtain ⟨k, v1, hk, hr1, ht1, hv1⟩ := lrun_s hr1
      cases hk
      have hr1 : fX3_addTimes_e0_s3 L room width powers pp a0 a2 a3 a4 i_1 i_2 = some v1 := hr1
      unfold fX3_addTimes_e0_s3 at hr1
      refine lv_iload hx hb dX3_addTimes_3 (lv_at hl 6 rfl) ?_
      refine lv_aload_n hx hb dX3_addTimes_5 rfl (lv_at hl 0 rfl) ?_
      refine va_get (D := D) (ci := 3) (v := .int width) (C := RX3) (T := TX3) (N := 7) hx hb hts iX3_addTimes_e0_X3 hown hG.1 hP 0 rfl rfl 1 (by decide) (hts _ fX3_addTimes_e0_1) (fun _ h9 => h9) rfl dX3_addTimes_6 ?_
      refine lv_icmp_ge (tgt := 82) hx hb dX3_addTimes_9 (by decide) (fun c_3 => ?_) (fun c_3 => ?_)
      · have hr1 := it_t c_3 hr1
        exact hX1 i_2 (hv1 _ (Option.some.inj hr1).symm).symm H locs hP hD hS ls (lv_sub hl [] rfl)
      · have hr1 := it_f c_3 hr1
        refine lv_iconst (v := 0) hx hb dX3_addTimes_12 (by decide) ?_
        refine lv_istore (lv' := [(7, .int (0 : Int32)), (0, .ref ah), (1, .int a0), (2, .ref ah), (3, .int a2), (4, .int a3), (5, .int a4), (6, .int i_1)]) hx hb dX3_addTimes_13 hl (by decide) rfl (fun ls hl => ?_)
        obtain ⟨w2, hw2, hk2⟩ := bd1_s hr1
        have hX2 : ∀ (x_17 : Nat → Int32), w2 = x_17 → ∀ (H : Heap) (locs : List Loc), va_P D cls9 (wR cI ah an L room width powers pp columns count x_17) H → va_D A (wR cI ah an L room width powers pp columns count x_17) → va_S A s.heap H locs → ∀ (ls : Array Slot), lv_has ls 9 [(0, .ref ah), (1, .int a0), (2, .ref ah), (3, .int a2), (4, .int a3), (5, .int a4), (6, .int i_1)] → W p l e rm_X3_addTimes_e0 s m args below meth c H locs 0 0 Q (F0 m 76 ls []) := by
          intro x_17 hq H locs hP hD hS ls hl
          have hr1 := hk2 _ hq
          refine lv_iinc (v := (i_1 + 1)) (lv' := [(6, .int (i_1 + 1)), (0, .ref ah), (1, .int a0), (2, .ref ah), (3, .int a2), (4, .int a3), (5, .int a4)]) hx hb dX3_addTimes_76 hl (k := 6) rfl rfl (by decide) rfl (fun ls hl => ?_)
          refine lv_goto (tgt := 3) hx hb dX3_addTimes_79 (by decide) ?_
          exact ih1 (i_1 + 1) x_17 (ht1 _ (Option.some.inj hr1).symm) H locs hP hD hS ls (lv_sub hl [1, 2, 3, 4, 5, 6, 0] rfl)
        have hL2 : ∀ (n : Nat) (i_4 : Int32) (i_5 : Nat → Int32), lrun (fun (z : Int32 × (Nat → Int32)) => fX3_addTimes_e0_s15 L room width powers pp a0 a2 a3 a4 i_1 z.1 z.2) n (i_4, i_5) = some w2 → ∀ (H : Heap) (locs : List Loc), va_P D cls9 (wR cI ah an L room width powers pp columns count i_5) H → va_D A (wR cI ah an L room width powers pp columns count i_5) → va_S A s.heap H locs → ∀ (ls : Array Slot), lv_has ls 9 [(0, .ref ah), (1, .int a0), (2, .ref ah), (3, .int a2), (4, .int a3), (5, .int a4), (6, .int i_1), (7, .int i_4)] → W p l e rm_X3_addTimes_e0 s m args below meth c H locs 0 0 Q (F0 m 15 ls []) := by
          intro n
          induction n with
          | zero => intro i_4 i_5 h; cases h
          | succ n ih2 =>
            intro i_4 i_5 hr2 H locs hP hD hS ls hl
            obtain ⟨k, v2, hk, hr2, ht2, hv2⟩ := lrun_s hr2
            cases hk
            have hr2 : fX3_addTimes_e0_s15 L room width powers pp a0 a2 a3 a4 i_1 i_4 i_5 = some v2 := hr2
            unfold fX3_addTimes_e0_s15 at hr2
            refine lv_iload hx hb dX3_addTimes_15 (lv_at hl 7 rfl) ?_
            refine lv_aload_n hx hb dX3_addTimes_17 rfl (lv_at hl 2 rfl) ?_
            refine va_get (D := D) (ci := 3) (v := .int powers) (C := RX3) (T := TX3) (N := 7) hx hb hts iX3_addTimes_e0_X3 hown hG.1 hP 0 rfl rfl 2 (by decide) (hts _ fX3_addTimes_e0_2) (fun _ h9 => h9) rfl dX3_addTimes_18 ?_
            refine lv_icmp_ge (tgt := 76) hx hb dX3_addTimes_21 (by decide) (fun c_6 => ?_) (fun c_6 => ?_)
            · have hr2 := it_t c_6 hr2
              exact hX2 i_5 (hv2 _ (Option.some.inj hr2).symm).symm H locs hP hD hS ls (lv_sub hl [0, 1, 2, 3, 4, 5, 6] rfl)
            · have hr2 := it_f c_6 hr2
              refine lv_iload hx hb dX3_addTimes_24 (lv_at hl 4 rfl) ?_
              refine lv_aload_n hx hb dX3_addTimes_26 rfl (lv_at hl 2 rfl) ?_
              refine lv_iload_n hx hb dX3_addTimes_27 rfl (lv_at hl 3 rfl) ?_
              refine lv_iload hx hb dX3_addTimes_28 (lv_at hl 6 rfl) ?_
              refine lv_iload hx hb dX3_addTimes_30 (lv_at hl 7 rfl) ?_
              obtain ⟨v_9, hq_8, hk⟩ := bd1_s hr2
              obtain ⟨r_7, rfl⟩ : ∃ y, y = v_9 := ⟨_, rfl⟩
              have hr2 := hk _ rfl
              refine callIA (gV (rest := [.int a3]) ⟨hx, hb, hml, hown, hts⟩ hG hP hD 0 3 rfl rfl (mtX3_at l D cI cB cR ah an H.size L room width powers pp columns count i_5 a2 i_1 i_4 r_7 hq_8) (cwV 3 hts gX3_addTimes_X3_at rfl rfl rfl ⟨rfl, hd_X3_at⟩ ⟨Nat.le_of_ble_eq_true rfl, Nat.le_of_ble_eq_true rfl⟩) rfl hl.1 rfl (Nat.le_of_ble_eq_true rfl) dX3_addTimes_32) hD hS hA (fun H locs hP hD hS => ?_)
              have hP : va_P D cls9 (wR cI ah an L room width powers pp columns count i_5) H := hP
              have hD : va_D A (wR cI ah an L room width powers pp columns count i_5) := hD
              refine lv_imul hx hb dX3_addTimes_35 ?_
              refine lv_istore (lv' := [(8, .int (a3 * r_7)), (0, .ref ah), (1, .int a0), (2, .ref ah), (3, .int a2), (4, .int a3), (5, .int a4), (6, .int i_1), (7, .int i_4)]) hx hb dX3_addTimes_36 hl (by decide) rfl (fun ls hl => ?_)
              refine lv_iload hx hb dX3_addTimes_38 (lv_at hl 0 rfl) ?_
              refine lv_if_eq (tgt := 70) hx hb dX3_addTimes_40 (by decide) (fun c_10 => ?_) (fun c_10 => ?_)
              · have hr2 := it_t c_10 hr2
                refine lv_iinc (v := (i_4 + 1)) (lv' := [(7, .int (i_4 + 1)), (8, .int (a3 * r_7)), (0, .ref ah), (1, .int a0), (2, .ref ah), (3, .int a2), (4, .int a3), (5, .int a4), (6, .int i_1)]) hx hb dX3_addTimes_70 hl (k := 8) rfl rfl (by decide) rfl (fun ls hl => ?_)
                refine lv_goto (tgt := 15) hx hb dX3_addTimes_73 (by decide) ?_
                exact ih2 (i_4 + 1) i_5 (ht2 _ (Option.some.inj hr2).symm) H locs hP hD hS ls (lv_sub hl [2, 3, 4, 5, 6, 7, 8, 0] rfl)
              · have hr2 := it_f c_10 hr2
                refine lv_aload_n hx hb dX3_addTimes_43 rfl (lv_at hl 1 rfl) ?_
                refine lv_iload_n hx hb dX3_addTimes_44 rfl (lv_at hl 2 rfl) ?_
                refine lv_iload hx hb dX3_addTimes_45 (lv_at hl 7 rfl) ?_
                refine lv_iload hx hb dX3_addTimes_47 (lv_at hl 8 rfl) ?_
                refine lv_iload hx hb dX3_addTimes_49 (lv_at hl 6 rfl) ?_
                refine lv_iadd hx hb dX3_addTimes_51 ?_
                refine lv_aload_n hx hb dX3_addTimes_52 rfl (lv_at hl 1 rfl) ?_
                refine lv_iload_n hx hb dX3_addTimes_53 rfl (lv_at hl 2 rfl) ?_
                refine lv_iload hx hb dX3_addTimes_54 (lv_at hl 7 rfl) ?_
                refine lv_iload hx hb dX3_addTimes_56 (lv_at hl 8 rfl) ?_
                refine lv_iload hx hb dX3_addTimes_58 (lv_at hl 6 rfl) ?_
                refine lv_iadd hx hb dX3_addTimes_60 ?_
                obtain ⟨v_13, hq_12, hk⟩ := bd1_s hr2
                obtain ⟨r_11, rfl⟩ : ∃ y, y = v_13 := ⟨_, rfl⟩
                have hr2 := hk _ rfl
                refine callIA (gV (rest := [.int (i_4 + a4), .int i_1, .int a0, .ref ah]) ⟨hx, hb, hml, hown, hts⟩ hG hP hD 0 3 rfl rfl (mtX3_at l D cI cB cR ah an H.size L room width powers pp columns count i_5 a0 i_1 (i_4 + a4) r_11 hq_12) (cwV 3 hts gX3_addTimes_X3_at rfl rfl rfl ⟨rfl, hd_X3_at⟩ ⟨Nat.le_of_ble_eq_true rfl, Nat.le_of_ble_eq_true rfl⟩) rfl hl.1 rfl (Nat.le_of_ble_eq_true rfl) dX3_addTimes_61) hD hS hA (fun H locs hP hD hS => ?_)
                have hP : va_P D cls9 (wR cI ah an L room width powers pp columns count i_5) H := hP
                have hD : va_D A (wR cI ah an L room width powers pp columns count i_5) := hD
                refine lv_iload hx hb dX3_addTimes_64 (lv_at hl 0 rfl) ?_
                refine lv_iadd hx hb dX3_addTimes_66 ?_
                obtain ⟨v_16, hq_15, hk⟩ := bd1_s hr2
                obtain ⟨u_14, rfl⟩ : ∃ y, y = v_16 := ⟨_, rfl⟩
                have hr2 := hk _ rfl
                refine callVA (gV (rest := []) ⟨hx, hb, hml, hown, hts⟩ hG hP hD 0 3 rfl rfl (mtX3_put l D cI cB cR ah an H.size L room width powers pp columns count i_5 a0 i_1 (i_4 + a4) (r_11 + (a3 * r_7)) u_14 hq_15) (cwV 4 hts gX3_addTimes_X3_put rfl rfl rfl ⟨rfl, hd_X3_put⟩ ⟨Nat.le_of_ble_eq_true rfl, Nat.le_of_ble_eq_true rfl⟩) rfl hl.1 rfl (Nat.le_of_ble_eq_true rfl) dX3_addTimes_67) hD hS hA (fun H locs hP hD hS => ?_)
                have hP : va_P D cls9 (wR cI ah an L room width powers pp columns count u_14) H := hP
                have hD : va_D A (wR cI ah an L room width powers pp columns count u_14) := hD
                refine lv_iinc (v := (i_4 + 1)) (lv' := [(7, .int (i_4 + 1)), (8, .int (a3 * r_7)), (0, .ref ah), (1, .int a0), (2, .ref ah), (3, .int a2), (4, .int a3), (5, .int a4), (6, .int i_1)]) hx hb dX3_addTimes_70 hl (k := 8) rfl rfl (by decide) rfl (fun ls hl => ?_)
                refine lv_goto (tgt := 15) hx hb dX3_addTimes_73 (by decide) ?_
                exact ih2 (i_4 + 1) u_14 (ht2 _ (Option.some.inj hr2).symm) H locs hP hD hS ls (lv_sub hl [2, 3, 4, 5, 6, 7, 8, 0] rfl)
        obtain ⟨n2, hn2⟩ := Lp_s hw2
        exact hL2 n2 (0 : Int32) i_2 hn2 H locs hP hD hS ls (lv_sub hl [1, 2, 3, 4, 5, 6, 7, 0] rfl)
  obtain ⟨n1, hn1⟩ := Lp_s hw1
  exact hL1 n1 (0 : Int32) num hn1 H locs hP hD hS ls (lv_sub hl [1, 2, 3, 4, 5, 6, 0] rfl)
abbrev rm_X2_removeZeros : Room := { frames := 3, cells := 0, slots := 0, locals := 68 }
theorem iX2_removeZeros_X2 : ∀ w ∈ wsX20, w ∈ wsX2_removeZeros := fun _ h => (List.mem_cons_of_mem _ (List.mem_append_left _ (List.mem_append_right _ h)))
theorem fX2_removeZeros_1 : Cond.fieldLink RX2 14 "PopovRows$Popov" "list" "LPopovRows$Rows;" ∈ wsX2_removeZeros := (List.mem_cons_of_mem _ (List.mem_append_left _ (List.mem_append_left _ (List.mem_append_left _ (List.mem_of_getElem? (i := 0) rfl)))))
theorem iX2_removeZeros_X3 : ∀ w ∈ wsX30, w ∈ wsX2_removeZeros := fun _ h => (List.mem_cons_of_mem _ (List.mem_append_right _ h))
theorem fX2_removeZeros_3 : Cond.fieldLink RX2 48 "PopovRows$Rows" "count" "I" ∈ wsX2_removeZeros := (List.mem_cons_of_mem _ (List.mem_append_left _ (List.mem_append_left _ (List.mem_append_left _ (List.mem_of_getElem? (i := 1) rfl)))))
set_option maxHeartbeats 4000000 in
set_option maxRecDepth 100000 in
theorem mtX2_removeZeros (l : Launch) (D : va_G) (cI cB cR : ClassId) (ah : Nat) (lah : Nat) (lan : Nat) (fah : Nat) (fan : Nat) (sah : Nat) (szah : Nat) (szan : Nat) (yah : Nat) (yan : Nat) (sz : Nat) (lpp : Int32) (lcolumns : Int32) (lcount : Int32) (lnum : Nat → Int32) (fpp : Int32) (fcolumns : Int32) (fcount : Int32) (fnum : Nat → Int32) (starget : Int32) (ssource : Int32) (snumber : Int32) (spower : Int32) (szcount : Int32) (szplaces : Nat → Int32) (ycount : Int32) (yplaces : Nat → Int32) (res : Int32 × (Nat → Int32)) (hf : fX2_removeZeros lcolumns lcount lnum = some res) : Met l yX2_removeZeros wsX2_removeZeros rm_X2_removeZeros (qP D cI cB cR [.ref ah] ((ah, .inr (2, [.ref lah, .ref fah, .ref sah, .ref yah])) :: ((wR cI lah lan 1000 (5 : Int32) (8 : Int32) (25 : Int32) lpp lcolumns lcount lnum) ++ (wR cI fah fan 200 (1 : Int32) (8 : Int32) (25 : Int32) fpp fcolumns fcount fnum) ++ (wST cI sah szah szan starget ssource snumber spower szcount szplaces) ++ (wSH cI yah yan ycount yplaces))) sz) (qV D ((ah, .inr (2, [.ref lah, .ref fah, .ref sah, .ref yah])) :: ((wR cI lah lan 1000 (5 : Int32) (8 : Int32) (25 : Int32) lpp lcolumns lcount lnum) ++ (wR cI fah fan 200 (1 : Int32) (8 : Int32) (25 : Int32) fpp fcolumns fcount fnum) ++ (wST cI sah szah szan starget ssource snumber spower szcount szplaces) ++ (wSH cI yah yan ycount yplaces))) ((ah, .inr (2, [.ref lah, .ref fah, .ref sah, .ref yah])) :: ((wR cI lah lan 1000 (5 : Int32) (8 : Int32) (25 : Int32) lpp lcolumns res.1 res.2) ++ (wR cI fah fan 200 (1 : Int32) (8 : Int32) (25 : Int32) fpp fcolumns fcount fnum) ++ (wST cI sah szah szan starget ssource snumber spower szcount szplaces) ++ (wSH cI yah yan ycount yplaces))) sz) 0 0 (va_A ((ah, .inr (2, [.ref lah, .ref fah, .ref sah, .ref yah])) :: ((wR cI lah lan 1000 (5 : Int32) (8 : Int32) (25 : Int32) lpp lcolumns lcount lnum) ++ (wR cI fah fan 200 (1 : Int32) (8 : Int32) (25 : Int32) fpp fcolumns fcount fnum) ++ (wST cI sah szah szan starget ssource snumber spower szcount szplaces) ++ (wSH cI yah yan ycount yplaces))) sz) := by
  refine entV (plainFor_of_name (by decide)) rfl (Nat.le_of_ble_eq_true rfl) ?_
  intro p e s m args below meth c Q A ls S hG hP hD hA hl hE
  obtain ⟨hx, hb, hml, hown, hts⟩ := S
  have hown : s.vm.findClass RX2 = some m.cls := hown
  have hS : va_S A s.heap s.heap [] := va_S.rf
  have hl : lv_has ls 2 [(0, .ref ah)] := hl
  have hq := hf
  unfold fX2_removeZeros at hq
  obtain ⟨H, hH⟩ : ∃ H, H = s.heap := ⟨_, rfl⟩
  obtain ⟨locs, hlo⟩ : ∃ L : List Loc, L = [] := ⟨_, rfl⟩
  have hP : va_P D cls9 ((ah, .inr (2, [.ref lah, .ref fah, .ref sah, .ref yah])) :: ((wR cI lah lan 1000 (5 : Int32) (8 : Int32) (25 : Int32) lpp lcolumns lcount lnum) ++ (wR cI fah fan 200 (1 : Int32) (8 : Int32) (25 : Int32) fpp fcolumns fcount fnum) ++ (wST cI sah szah szan starget ssource snumber spower szcount szplaces) ++ (wSH cI yah yan ycount yplaces))) H := hH ▸ hP
  have hS : va_S A s.heap H locs := by rw [hH, hlo]; exact hS
  suffices hg : W p l e rm_X2_removeZeros s m args below meth c H locs 0 0 Q (F0 m 0 ls []) by rw [hH, hlo] at hg; exact hg
  refine lv_aload_n hx hb dX2_removeZeros_0 rfl (lv_at hl 0 rfl) ?_
  refine va_get (D := D) (ci := 2) (v := .ref lah) (C := RX2) (T := TX2) (N := 4) hx hb hts iX2_removeZeros_X2 hown hG.1 hP 0 rfl rfl 0 (by decide) (hts _ fX2_removeZeros_1) (fun _ h9 => h9) rfl dX2_removeZeros_1 ?_
  refine va_get (D := D) (ci := 3) (v := .int lcount) (C := RX3) (T := TX3) (N := 7) hx hb hts iX2_removeZeros_X3 hown hG.1 hP 1 rfl rfl 6 (by decide) (hts _ fX2_removeZeros_3) (fun _ h9 => h9) rfl dX2_removeZeros_4 ?_
  refine lv_iconst (v := 1) hx hb dX2_removeZeros_7 (by decide) ?_
  refine lv_isub hx hb dX2_removeZeros_8 ?_
  refine lv_istore_n (lv' := [(1, .int (lcount - (1 : Int32))), (0, .ref ah)]) hx hb dX2_removeZeros_9 rfl hl (by decide) rfl (fun ls hl => ?_)
  obtain ⟨w1, hw1, hk1⟩ := bd2_s hq
  have hX1 : ∀ (x_13 : Int32) (x_14 : Nat → Int32), w1 = (x_13, x_14) → ∀ (H : Heap) (locs : List Loc), va_P D cls9 ((ah, .inr (2, [.ref lah, .ref fah, .ref sah, .ref yah])) :: ((wR cI lah lan 1000 (5 : Int32) (8 : Int32) (25 : Int32) lpp lcolumns x_13 x_14) ++ (wR cI fah fan 200 (1 : Int32) (8 : Int32) (25 : Int32) fpp fcolumns fcount fnum) ++ (wST cI sah szah szan starget ssource snumber spower szcount szplaces) ++ (wSH cI yah yan ycount yplaces))) H → va_D A ((ah, .inr (2, [.ref lah, .ref fah, .ref sah, .ref yah])) :: ((wR cI lah lan 1000 (5 : Int32) (8 : Int32) (25 : Int32) lpp lcolumns x_13 x_14) ++ (wR cI fah fan 200 (1 : Int32) (8 : Int32) (25 : Int32) fpp fcolumns fcount fnum) ++ (wST cI sah szah szan starget ssource snumber spower szcount szplaces) ++ (wSH cI yah yan ycount yplaces))) → va_S A s.heap H locs → ∀ (ls : Array Slot), lv_has ls 2 [] → W p l e rm_X2_removeZeros s m args below meth c H locs 0 0 Q (F0 m 40 ls []) := by
    intro x_13 x_14 hq H locs hP hD hS ls hl
    have hq := hk1 _ _ hq
    have he := Option.some.inj hq
    subst he
    exact hE H locs _ _ dX2_removeZeros_40 hP hD hS
  have hL1 : ∀ (n : Nat) (i_1 : Int32) (i_2 : Int32) (i_3 : Nat → Int32), lrun (fun (z : Int32 × Int32 × (Nat → Int32)) => fX2_removeZeros_s10 lcolumns z.1 z.2.1 z.2.2) n (i_1, i_2, i_3) = some w1 → ∀ (H : Heap) (locs : List Loc), va_P D cls9 ((ah, .inr (2, [.ref lah, .ref fah, .ref sah, .ref yah])) :: ((wR cI lah lan 1000 (5 : Int32) (8 : Int32) (25 : Int32) lpp lcolumns i_2 i_3) ++ (wR cI fah fan 200 (1 : Int32) (8 : Int32) (25 : Int32) fpp fcolumns fcount fnum) ++ (wST cI sah szah szan starget ssource snumber spower szcount szplaces) ++ (wSH cI yah yan ycount yplaces))) H → va_D A ((ah, .inr (2, [.ref lah, .ref fah, .ref sah, .ref yah])) :: ((wR cI lah lan 1000 (5 : Int32) (8 : Int32) (25 : Int32) lpp lcolumns i_2 i_3) ++ (wR cI fah fan 200 (1 : Int32) (8 : Int32) (25 : Int32) fpp fcolumns fcount fnum) ++ (wST cI sah szah szan starget ssource snumber spower szcount szplaces) ++ (wSH cI yah yan ycount yplaces))) → va_S A s.heap H locs → ∀ (ls : Array Slot), lv_has ls 2 [(0, .ref ah), (1, .int i_1)] → W p l e rm_X2_removeZeros s m args below meth c H locs 0 0 Q (F0 m 10 ls []) := by
    intro n
    induction n with
    | zero => intro i_1 i_2 i_3 h; cases h
    | succ n ih1 =>
      intro i_1 i_2 i_3 hr1 H locs hP hD hS ls hl
      obtain ⟨k, v1, hk, hr1, ht1, hv1⟩ := lrun_s hr1
      cases hk
      have hr1 : fX2_removeZeros_s10 lcolumns i_1 i_2 i_3 = some v1 := hr1
      unfold fX2_removeZeros_s10 at hr1
      refine lv_iload_n hx hb dX2_removeZeros_10 rfl (lv_at hl 1 rfl) ?_
      refine lv_if_lt (tgt := 40) hx hb dX2_removeZeros_11 (by decide) (fun c_4 => ?_) (fun c_4 => ?_)
      · have hr1 := it_t c_4 hr1
        exact hX1 i_2 i_3 (hv1 _ (Option.some.inj hr1).symm).symm H locs hP hD hS ls (lv_sub hl [] rfl)
      · have hr1 := it_f c_4 hr1
        refine lv_aload_n hx hb dX2_removeZeros_14 rfl (lv_at hl 0 rfl) ?_
        refine va_get (D := D) (ci := 2) (v := .ref lah) (C := RX2) (T := TX2) (N := 4) hx hb hts iX2_removeZeros_X2 hown hG.1 hP 0 rfl rfl 0 (by decide) (hts _ fX2_removeZeros_1) (fun _ h9 => h9) rfl dX2_removeZeros_15 ?_
        refine lv_iload_n hx hb dX2_removeZeros_18 rfl (lv_at hl 1 rfl) ?_
        obtain ⟨v_7, hq_6, hk⟩ := bd1_s hr1
        obtain ⟨r_5, rfl⟩ : ∃ y, y = v_7 := ⟨_, rfl⟩
        have hr1 := hk _ rfl
        have hPc : va_P D cls9 [(lah, .inr (3, [.int (5 : Int32), .int (8 : Int32), .int (25 : Int32), .ref lan, .int lpp, .int lcolumns, .int i_2])), (lan, .inl (cI, 1000, .inl i_3))] H := hPsub hP [1, 2] rfl
        have hDc : va_D A [(lah, .inr (3, [.int (5 : Int32), .int (8 : Int32), .int (25 : Int32), .ref lan, .int lpp, .int lcolumns, .int i_2])), (lan, .inl (cI, 1000, .inl i_3))] := hD.sub [1, 2] (by decide +kernel) rfl
        refine callIP (wr := [(ah, .inr (2, [.ref lah, .ref fah, .ref sah, .ref yah])), (fah, .inr (3, [.int (1 : Int32), .int (8 : Int32), .int (25 : Int32), .ref fan, .int fpp, .int fcolumns, .int fcount])), (fan, .inl (cI, 200, .inl fnum)), (sah, .inr (6, [.ref szah, .int starget, .int ssource, .int snumber, .int spower])), (szah, .inr (5, [.ref szan, .int szcount])), (szan, .inl (cI, 5, .inl szplaces)), (yah, .inr (5, [.ref yan, .int ycount])), (yan, .inl (cI, 5, .inl yplaces))]) (ws2 := ((ah, .inr (2, [.ref lah, .ref fah, .ref sah, .ref yah])) :: ((wR cI lah lan 1000 (5 : Int32) (8 : Int32) (25 : Int32) lpp lcolumns i_2 i_3) ++ (wR cI fah fan 200 (1 : Int32) (8 : Int32) (25 : Int32) fpp fcolumns fcount fnum) ++ (wST cI sah szah szan starget ssource snumber spower szcount szplaces) ++ (wSH cI yah yan ycount yplaces)))) (gV (rest := []) ⟨hx, hb, hml, hown, hts⟩ hG hPc hDc 0 3 rfl rfl (mtX3_degreeOf l D cI cB cR lah lan H.size 1000 (5 : Int32) (8 : Int32) (25 : Int32) lpp lcolumns i_2 i_3 i_1 r_5 hq_6) (cwV 1 hts gX2_removeZeros_X3_degreeOf rfl rfl rfl ⟨rfl, hd_X3_degreeOf⟩ ⟨Nat.le_of_ble_eq_true rfl, Nat.le_of_ble_eq_true rfl⟩) rfl hl.1 rfl (Nat.le_of_ble_eq_true rfl) dX2_removeZeros_19) hP hD hS hA [1, 2] [0, 3, 4, 5, 6, 7, 8, 9] [0, 8, 9, 1, 2, 3, 4, 5, 6, 7] rfl rfl (by decide +kernel) (by decide +kernel) rfl (by decide +kernel) (fun H locs hP hD hS => ?_)
        refine lv_iconst (v := -1) hx hb dX2_removeZeros_22 (by decide) ?_
        refine lv_icmp_ne (tgt := 34) hx hb dX2_removeZeros_23 (by decide) (fun c_8 => ?_) (fun c_8 => ?_)
        · have hr1 := it_f c_8 hr1
          refine lv_iinc (v := (i_1 + (-1))) (lv' := [(1, .int (i_1 + (-1))), (0, .ref ah)]) hx hb dX2_removeZeros_34 hl (k := 1) rfl rfl (by decide) rfl (fun ls hl => ?_)
          refine lv_goto (tgt := 10) hx hb dX2_removeZeros_37 (by decide) ?_
          exact ih1 (i_1 + (-1)) i_2 i_3 (ht1 _ (Option.some.inj hr1).symm) H locs hP hD hS ls (lv_sub hl [1, 0] rfl)
        · have hr1 := it_t c_8 hr1
          refine lv_aload_n hx hb dX2_removeZeros_26 rfl (lv_at hl 0 rfl) ?_
          refine va_get (D := D) (ci := 2) (v := .ref lah) (C := RX2) (T := TX2) (N := 4) hx hb hts iX2_removeZeros_X2 hown hG.1 hP 0 rfl rfl 0 (by decide) (hts _ fX2_removeZeros_1) (fun _ h9 => h9) rfl dX2_removeZeros_27 ?_
          refine lv_iload_n hx hb dX2_removeZeros_30 rfl (lv_at hl 1 rfl) ?_
          obtain ⟨v_12, hq_11, hk⟩ := bd2_s hr1
          obtain ⟨u_9, u_10⟩ := v_12
          have hr1 := hk _ _ rfl
          have hPc : va_P D cls9 [(lah, .inr (3, [.int (5 : Int32), .int (8 : Int32), .int (25 : Int32), .ref lan, .int lpp, .int lcolumns, .int i_2])), (lan, .inl (cI, 1000, .inl i_3))] H := hPsub hP [1, 2] rfl
          have hDc : va_D A [(lah, .inr (3, [.int (5 : Int32), .int (8 : Int32), .int (25 : Int32), .ref lan, .int lpp, .int lcolumns, .int i_2])), (lan, .inl (cI, 1000, .inl i_3))] := hD.sub [1, 2] (by decide +kernel) rfl
          refine callVP (wr := [(ah, .inr (2, [.ref lah, .ref fah, .ref sah, .ref yah])), (fah, .inr (3, [.int (1 : Int32), .int (8 : Int32), .int (25 : Int32), .ref fan, .int fpp, .int fcolumns, .int fcount])), (fan, .inl (cI, 200, .inl fnum)), (sah, .inr (6, [.ref szah, .int starget, .int ssource, .int snumber, .int spower])), (szah, .inr (5, [.ref szan, .int szcount])), (szan, .inl (cI, 5, .inl szplaces)), (yah, .inr (5, [.ref yan, .int ycount])), (yan, .inl (cI, 5, .inl yplaces))]) (ws2 := ((ah, .inr (2, [.ref lah, .ref fah, .ref sah, .ref yah])) :: ((wR cI lah lan 1000 (5 : Int32) (8 : Int32) (25 : Int32) lpp lcolumns u_9 u_10) ++ (wR cI fah fan 200 (1 : Int32) (8 : Int32) (25 : Int32) fpp fcolumns fcount fnum) ++ (wST cI sah szah szan starget ssource snumber spower szcount szplaces) ++ (wSH cI yah yan ycount yplaces)))) (gV (rest := []) ⟨hx, hb, hml, hown, hts⟩ hG hPc hDc 0 3 rfl rfl (mtX3_remove l D cI cB cR lah lan H.size 1000 (5 : Int32) (8 : Int32) (25 : Int32) lpp lcolumns i_2 i_3 i_1 (u_9, u_10) hq_11) (cwV 1 hts gX2_removeZeros_X3_remove rfl rfl rfl ⟨rfl, hd_X3_remove⟩ ⟨Nat.le_of_ble_eq_true rfl, Nat.le_of_ble_eq_true rfl⟩) rfl hl.1 rfl (Nat.le_of_ble_eq_true rfl) dX2_removeZeros_31) hP hD hS hA [1, 2] [0, 3, 4, 5, 6, 7, 8, 9] [0, 8, 9, 1, 2, 3, 4, 5, 6, 7] rfl rfl (by decide +kernel) (by decide +kernel) rfl (by decide +kernel) (fun H locs hP hD hS => ?_)
          refine lv_iinc (v := (i_1 + (-1))) (lv' := [(1, .int (i_1 + (-1))), (0, .ref ah)]) hx hb dX2_removeZeros_34 hl (k := 1) rfl rfl (by decide) rfl (fun ls hl => ?_)
          refine lv_goto (tgt := 10) hx hb dX2_removeZeros_37 (by decide) ?_
          exact ih1 (i_1 + (-1)) u_9 u_10 (ht1 _ (Option.some.inj hr1).symm) H locs hP hD hS ls (lv_sub hl [1, 0] rfl)
  obtain ⟨n1, hn1⟩ := Lp_s hw1
  exact hL1 n1 (lcount - (1 : Int32)) lcount lnum hn1 H locs hP hD hS ls (lv_sub hl [1, 0] rfl)
abbrev rm_X2_reduce_e00 : Room := { frames := 4, cells := 0, slots := 0, locals := 96 }
theorem iX2_reduce_e00_X2 : ∀ w ∈ wsX20, w ∈ wsX2_reduce := fun _ h => (List.mem_cons_of_mem _ (List.mem_append_left _ (List.mem_append_left _ (List.mem_append_right _ h))))
theorem fX2_reduce_e00_1 : Cond.fieldLink RX2 33 "PopovRows$Popov" "shape" "LPopovRows$Shape;" ∈ wsX2_reduce := (List.mem_cons_of_mem _ (List.mem_append_left _ (List.mem_append_left _ (List.mem_append_left _ (List.mem_append_left _ (List.mem_of_getElem? (i := 0) rfl))))))
theorem fX2_reduce_e00_2 : Cond.fieldLink RX2 14 "PopovRows$Popov" "list" "LPopovRows$Rows;" ∈ wsX2_reduce := (List.mem_cons_of_mem _ (List.mem_append_left _ (List.mem_append_left _ (List.mem_append_left _ (List.mem_append_left _ (List.mem_of_getElem? (i := 1) rfl))))))
theorem iX2_reduce_e00_X3 : ∀ w ∈ wsX30, w ∈ wsX2_reduce := fun _ h => (List.mem_cons_of_mem _ (List.mem_append_left _ (List.mem_append_right _ h)))
theorem fX2_reduce_e00_4 : Cond.fieldLink RX2 41 "PopovRows$Rows" "columns" "I" ∈ wsX2_reduce := (List.mem_cons_of_mem _ (List.mem_append_left _ (List.mem_append_left _ (List.mem_append_left _ (List.mem_append_left _ (List.mem_of_getElem? (i := 2) rfl))))))
theorem fX2_reduce_e00_5 : Cond.initialized RX7 ∈ wsX2_reduce := (List.mem_cons_of_mem _ (List.mem_append_left _ (List.mem_append_left _ (List.mem_append_left _ (List.mem_append_right _ (List.mem_append_left _ (List.mem_of_getElem? (i := 15) rfl)))))))
theorem fX2_reduce_e00_6 : Cond.static yX7_powerAt ∈ wsX2_reduce := (List.mem_cons_of_mem _ (List.mem_append_left _ (List.mem_append_left _ (List.mem_append_left _ (List.mem_append_right _ (List.mem_append_left _ (List.mem_of_getElem? (i := 17) rfl)))))))
set_option maxHeartbeats 4000000 in
set_option maxRecDepth 100000 in
theorem mtX2_reduce_e00 (l : Launch) (D : va_G) (cI cB cR : ClassId) (ah : Nat) (lah : Nat) (lan : Nat) (fah : Nat) (fan : Nat) (sah : Nat) (szah : Nat) (szan : Nat) (yah : Nat) (yan : Nat) (sz : Nat) (lpp : Int32) (lcolumns : Int32) (lcount : Int32) (lnum : Nat → Int32) (fpp : Int32) (fcolumns : Int32) (fcount : Int32) (fnum : Nat → Int32) (starget : Int32) (ssource : Int32) (snumber : Int32) (spower : Int32) (szcount : Int32) (szplaces : Nat → Int32) (ycount : Int32) (yplaces : Nat → Int32) (a1 : Int32) (a2 : Int32) (res : (Nat → Int32) × Int32 × (Nat → Int32)) (hf : fX2_reduce_e00 lpp lcolumns lcount lnum yplaces a1 a2 = some res) : Met l yX2_reduce wsX2_reduce rm_X2_reduce_e00 (qP D cI cB cR [.ref ah, .ref lah, .int a1, .int a2] ((ah, .inr (2, [.ref lah, .ref fah, .ref sah, .ref yah])) :: ((wR cI lah lan 1000 (5 : Int32) (8 : Int32) (25 : Int32) lpp lcolumns lcount lnum) ++ (wR cI fah fan 200 (1 : Int32) (8 : Int32) (25 : Int32) fpp fcolumns fcount fnum) ++ (wST cI sah szah szan starget ssource snumber spower szcount szplaces) ++ (wSH cI yah yan ycount yplaces))) sz) (qV D ((ah, .inr (2, [.ref lah, .ref fah, .ref sah, .ref yah])) :: ((wR cI lah lan 1000 (5 : Int32) (8 : Int32) (25 : Int32) lpp lcolumns lcount lnum) ++ (wR cI fah fan 200 (1 : Int32) (8 : Int32) (25 : Int32) fpp fcolumns fcount fnum) ++ (wST cI sah szah szan starget ssource snumber spower szcount szplaces) ++ (wSH cI yah yan ycount yplaces))) ((ah, .inr (2, [.ref lah, .ref fah, .ref sah, .ref yah])) :: ((wR cI lah lan 1000 (5 : Int32) (8 : Int32) (25 : Int32) lpp lcolumns lcount res.1) ++ (wR cI fah fan 200 (1 : Int32) (8 : Int32) (25 : Int32) fpp fcolumns fcount fnum) ++ (wST cI sah szah szan starget ssource snumber spower szcount szplaces) ++ (wSH cI yah yan res.2.1 res.2.2))) sz) 0 0 (va_A ((ah, .inr (2, [.ref lah, .ref fah, .ref sah, .ref yah])) :: ((wR cI lah lan 1000 (5 : Int32) (8 : Int32) (25 : Int32) lpp lcolumns lcount lnum) ++ (wR cI fah fan 200 (1 : Int32) (8 : Int32) (25 : Int32) fpp fcolumns fcount fnum) ++ (wST cI sah szah szan starget ssource snumber spower szcount szplaces) ++ (wSH cI yah yan ycount yplaces))) sz) := by
  refine entV (plainFor_of_name (by decide)) rfl (Nat.le_of_ble_eq_true rfl) ?_
  intro p e s m args below meth c Q A ls S hG hP hD hA hl hE
  obtain ⟨hx, hb, hml, hown, hts⟩ := S
  have hown : s.vm.findClass RX2 = some m.cls := hown
  have hS : va_S A s.heap s.heap [] := va_S.rf
  have hl : lv_has ls 8 [(0, .ref ah), (1, .ref lah), (2, .int a1), (3, .int a2)] := hl
  have hq := hf
  unfold fX2_reduce_e00 at hq
  obtain ⟨H, hH⟩ : ∃ H, H = s.heap := ⟨_, rfl⟩
  obtain ⟨locs, hlo⟩ : ∃ L : List Loc, L = [] := ⟨_, rfl⟩
  have hP : va_P D cls9 ((ah, .inr (2, [.ref lah, .ref fah, .ref sah, .ref yah])) :: ((wR cI lah lan 1000 (5 : Int32) (8 : Int32) (25 : Int32) lpp lcolumns lcount lnum) ++ (wR cI fah fan 200 (1 : Int32) (8 : Int32) (25 : Int32) fpp fcolumns fcount fnum) ++ (wST cI sah szah szan starget ssource snumber spower szcount szplaces) ++ (wSH cI yah yan ycount yplaces))) H := hH ▸ hP
  have hS : va_S A s.heap H locs := by rw [hH, hlo]; exact hS
  suffices hg : W p l e rm_X2_reduce_e00 s m args below meth c H locs 0 0 Q (F0 m 0 ls []) by rw [hH, hlo] at hg; exact hg
  refine lv_aload_n hx hb dX2_reduce_0 rfl (lv_at hl 0 rfl) ?_
  refine va_get (D := D) (ci := 2) (v := .ref yah) (C := RX2) (T := TX2) (N := 4) hx hb hts iX2_reduce_e00_X2 hown hG.1 hP 0 rfl rfl 3 (by decide) (hts _ fX2_reduce_e00_1) (fun _ h9 => h9) rfl dX2_reduce_1 ?_
  refine lv_aload_n hx hb dX2_reduce_4 rfl (lv_at hl 0 rfl) ?_
  refine va_get (D := D) (ci := 2) (v := .ref lah) (C := RX2) (T := TX2) (N := 4) hx hb hts iX2_reduce_e00_X2 hown hG.1 hP 0 rfl rfl 0 (by decide) (hts _ fX2_reduce_e00_2) (fun _ h9 => h9) rfl dX2_reduce_5 ?_
  obtain ⟨v_4, hq_3, hk⟩ := bd2_s hq
  obtain ⟨u_1, u_2⟩ := v_4
  have hq := hk _ _ rfl
  have hPc : va_P D cls9 [(yah, .inr (5, [.ref yan, .int ycount])), (yan, .inl (cI, 5, .inl yplaces)), (lah, .inr (3, [.int (5 : Int32), .int (8 : Int32), .int (25 : Int32), .ref lan, .int lpp, .int lcolumns, .int lcount])), (lan, .inl (cI, 1000, .inl lnum))] H := hPsub hP [8, 9, 1, 2] rfl
  have hDc : va_D A [(yah, .inr (5, [.ref yan, .int ycount])), (yan, .inl (cI, 5, .inl yplaces)), (lah, .inr (3, [.int (5 : Int32), .int (8 : Int32), .int (25 : Int32), .ref lan, .int lpp, .int lcolumns, .int lcount])), (lan, .inl (cI, 1000, .inl lnum))] := hD.sub [8, 9, 1, 2] (by decide +kernel) rfl
  refine callVP (wr := [(ah, .inr (2, [.ref lah, .ref fah, .ref sah, .ref yah])), (fah, .inr (3, [.int (1 : Int32), .int (8 : Int32), .int (25 : Int32), .ref fan, .int fpp, .int fcolumns, .int fcount])), (fan, .inl (cI, 200, .inl fnum)), (sah, .inr (6, [.ref szah, .int starget, .int ssource, .int snumber, .int spower])), (szah, .inr (5, [.ref szan, .int szcount])), (szan, .inl (cI, 5, .inl szplaces))]) (ws2 := ((ah, .inr (2, [.ref lah, .ref fah, .ref sah, .ref yah])) :: ((wR cI lah lan 1000 (5 : Int32) (8 : Int32) (25 : Int32) lpp lcolumns lcount lnum) ++ (wR cI fah fan 200 (1 : Int32) (8 : Int32) (25 : Int32) fpp fcolumns fcount fnum) ++ (wST cI sah szah szan starget ssource snumber spower szcount szplaces) ++ (wSH cI yah yan u_1 u_2)))) (gV (rest := []) ⟨hx, hb, hml, hown, hts⟩ hG hPc hDc 0 5 rfl rfl (mtX5_measure l D cI cB cR yah yan lah lan H.size ycount yplaces 1000 (5 : Int32) (8 : Int32) (25 : Int32) lpp lcolumns lcount lnum (u_1, u_2) hq_3) (cwV 1 hts gX2_reduce_X5_measure rfl rfl rfl ⟨rfl, hd_X5_measure⟩ ⟨Nat.le_of_ble_eq_true rfl, Nat.le_of_ble_eq_true rfl⟩) rfl hl.1 rfl (Nat.le_of_ble_eq_true rfl) dX2_reduce_8) hP hD hS hA [8, 9, 1, 2] [0, 3, 4, 5, 6, 7] [0, 8, 9, 1, 2, 3, 4, 5, 6, 7] rfl rfl (by decide +kernel) (by decide +kernel) rfl (by decide +kernel) (fun H locs hP hD hS => ?_)
  refine lv_bipush (v := 7) hx hb dX2_reduce_11 (by decide) ?_
  refine lv_istore (lv' := [(4, .int (7 : Int32)), (0, .ref ah), (1, .ref lah), (2, .int a1), (3, .int a2)]) hx hb dX2_reduce_13 hl (by decide) rfl (fun ls hl => ?_)
  obtain ⟨w1, hw1, hk1⟩ := bd1_s hq
  have hX1 : ∀ (x_27 : Nat → Int32), w1 = x_27 → ∀ (H : Heap) (locs : List Loc), va_P D cls9 ((ah, .inr (2, [.ref lah, .ref fah, .ref sah, .ref yah])) :: ((wR cI lah lan 1000 (5 : Int32) (8 : Int32) (25 : Int32) lpp lcolumns lcount x_27) ++ (wR cI fah fan 200 (1 : Int32) (8 : Int32) (25 : Int32) fpp fcolumns fcount fnum) ++ (wST cI sah szah szan starget ssource snumber spower szcount szplaces) ++ (wSH cI yah yan u_1 u_2))) H → va_D A ((ah, .inr (2, [.ref lah, .ref fah, .ref sah, .ref yah])) :: ((wR cI lah lan 1000 (5 : Int32) (8 : Int32) (25 : Int32) lpp lcolumns lcount x_27) ++ (wR cI fah fan 200 (1 : Int32) (8 : Int32) (25 : Int32) fpp fcolumns fcount fnum) ++ (wST cI sah szah szan starget ssource snumber spower szcount szplaces) ++ (wSH cI yah yan u_1 u_2))) → va_S A s.heap H locs → ∀ (ls : Array Slot), lv_has ls 8 [] → W p l e rm_X2_reduce_e00 s m args below meth c H locs 0 0 Q (F0 m 117 ls []) := by
    intro x_27 hq H locs hP hD hS ls hl
    have hq := hk1 _ hq
    have he := Option.some.inj hq
    subst he
    exact hE H locs _ _ dX2_reduce_117 hP hD hS
  have hL1 : ∀ (n : Nat) (i_5 : Int32) (i_6 : Nat → Int32), lrun (fun (z : Int32 × (Nat → Int32)) => fX2_reduce_e00_s15 lpp lcolumns a1 a2 u_1 u_2 z.1 z.2) n (i_5, i_6) = some w1 → ∀ (H : Heap) (locs : List Loc), va_P D cls9 ((ah, .inr (2, [.ref lah, .ref fah, .ref sah, .ref yah])) :: ((wR cI lah lan 1000 (5 : Int32) (8 : Int32) (25 : Int32) lpp lcolumns lcount i_6) ++ (wR cI fah fan 200 (1 : Int32) (8 : Int32) (25 : Int32) fpp fcolumns fcount fnum) ++ (wST cI sah szah szan starget ssource snumber spower szcount szplaces) ++ (wSH cI yah yan u_1 u_2))) H → va_D A ((ah, .inr (2, [.ref lah, .ref fah, .ref sah, .ref yah])) :: ((wR cI lah lan 1000 (5 : Int32) (8 : Int32) (25 : Int32) lpp lcolumns lcount i_6) ++ (wR cI fah fan 200 (1 : Int32) (8 : Int32) (25 : Int32) fpp fcolumns fcount fnum) ++ (wST cI sah szah szan starget ssource snumber spower szcount szplaces) ++ (wSH cI yah yan u_1 u_2))) → va_S A s.heap H locs → ∀ (ls : Array Slot), lv_has ls 8 [(0, .ref ah), (1, .ref lah), (2, .int a1), (3, .int a2), (4, .int i_5)] → W p l e rm_X2_reduce_e00 s m args below meth c H locs 0 0 Q (F0 m 15 ls []) := by
    intro n
    induction n with
    | zero => intro i_5 i_6 h; cases h
    | succ n ih1 =>
      intro i_5 i_6 hr1 H locs hP hD hS ls hl
      obtain ⟨k, v1, hk, hr1, ht1, hv1⟩ := lrun_s hr1
      cases hk
      have hr1 : fX2_reduce_e00_s15 lpp lcolumns a1 a2 u_1 u_2 i_5 i_6 = some v1 := hr1
      unfold fX2_reduce_e00_s15 at hr1
      refine lv_iload hx hb dX2_reduce_15 (lv_at hl 4 rfl) ?_
      refine lv_if_lt (tgt := 117) hx hb dX2_reduce_17 (by decide) (fun c_7 => ?_) (fun c_7 => ?_)
      · have hr1 := it_t c_7 hr1
        exact hX1 i_6 (hv1 _ (Option.some.inj hr1).symm).symm H locs hP hD hS ls (lv_sub hl [] rfl)
      · have hr1 := it_f c_7 hr1
        refine lv_aload_n hx hb dX2_reduce_20 rfl (lv_at hl 0 rfl) ?_
        refine va_get (D := D) (ci := 2) (v := .ref lah) (C := RX2) (T := TX2) (N := 4) hx hb hts iX2_reduce_e00_X2 hown hG.1 hP 0 rfl rfl 0 (by decide) (hts _ fX2_reduce_e00_2) (fun _ h9 => h9) rfl dX2_reduce_21 ?_
        refine va_get (D := D) (ci := 3) (v := .int lcolumns) (C := RX3) (T := TX3) (N := 7) hx hb hts iX2_reduce_e00_X3 hown hG.1 hP 1 rfl rfl 5 (by decide) (hts _ fX2_reduce_e00_4) (fun _ h9 => h9) rfl dX2_reduce_24 ?_
        refine lv_iconst (v := 1) hx hb dX2_reduce_27 (by decide) ?_
        refine lv_isub hx hb dX2_reduce_28 ?_
        refine lv_istore (lv' := [(5, .int (lcolumns - (1 : Int32))), (0, .ref ah), (1, .ref lah), (2, .int a1), (3, .int a2), (4, .int i_5)]) hx hb dX2_reduce_29 hl (by decide) rfl (fun ls hl => ?_)
        obtain ⟨w2, hw2, hk2⟩ := bd1_s hr1
        have hX2 : ∀ (x_26 : Nat → Int32), w2 = x_26 → ∀ (H : Heap) (locs : List Loc), va_P D cls9 ((ah, .inr (2, [.ref lah, .ref fah, .ref sah, .ref yah])) :: ((wR cI lah lan 1000 (5 : Int32) (8 : Int32) (25 : Int32) lpp lcolumns lcount x_26) ++ (wR cI fah fan 200 (1 : Int32) (8 : Int32) (25 : Int32) fpp fcolumns fcount fnum) ++ (wST cI sah szah szan starget ssource snumber spower szcount szplaces) ++ (wSH cI yah yan u_1 u_2))) H → va_D A ((ah, .inr (2, [.ref lah, .ref fah, .ref sah, .ref yah])) :: ((wR cI lah lan 1000 (5 : Int32) (8 : Int32) (25 : Int32) lpp lcolumns lcount x_26) ++ (wR cI fah fan 200 (1 : Int32) (8 : Int32) (25 : Int32) fpp fcolumns fcount fnum) ++ (wST cI sah szah szan starget ssource snumber spower szcount szplaces) ++ (wSH cI yah yan u_1 u_2))) → va_S A s.heap H locs → ∀ (ls : Array Slot), lv_has ls 8 [(0, .ref ah), (1, .ref lah), (2, .int a1), (3, .int a2), (4, .int i_5)] → W p l e rm_X2_reduce_e00 s m args below meth c H locs 0 0 Q (F0 m 111 ls []) := by
          intro x_26 hq H locs hP hD hS ls hl
          have hr1 := hk2 _ hq
          refine lv_iinc (v := (i_5 + (-1))) (lv' := [(4, .int (i_5 + (-1))), (0, .ref ah), (1, .ref lah), (2, .int a1), (3, .int a2)]) hx hb dX2_reduce_111 hl (k := 4) rfl rfl (by decide) rfl (fun ls hl => ?_)
          refine lv_goto (tgt := 15) hx hb dX2_reduce_114 (by decide) ?_
          exact ih1 (i_5 + (-1)) x_26 (ht1 _ (Option.some.inj hr1).symm) H locs hP hD hS ls (lv_sub hl [1, 2, 3, 4, 0] rfl)
        have hL2 : ∀ (n : Nat) (i_8 : Int32) (i_9 : Nat → Int32), lrun (fun (z : Int32 × (Nat → Int32)) => fX2_reduce_e00_s31 lpp a1 a2 i_5 u_1 u_2 z.1 z.2) n (i_8, i_9) = some w2 → ∀ (H : Heap) (locs : List Loc), va_P D cls9 ((ah, .inr (2, [.ref lah, .ref fah, .ref sah, .ref yah])) :: ((wR cI lah lan 1000 (5 : Int32) (8 : Int32) (25 : Int32) lpp lcolumns lcount i_9) ++ (wR cI fah fan 200 (1 : Int32) (8 : Int32) (25 : Int32) fpp fcolumns fcount fnum) ++ (wST cI sah szah szan starget ssource snumber spower szcount szplaces) ++ (wSH cI yah yan u_1 u_2))) H → va_D A ((ah, .inr (2, [.ref lah, .ref fah, .ref sah, .ref yah])) :: ((wR cI lah lan 1000 (5 : Int32) (8 : Int32) (25 : Int32) lpp lcolumns lcount i_9) ++ (wR cI fah fan 200 (1 : Int32) (8 : Int32) (25 : Int32) fpp fcolumns fcount fnum) ++ (wST cI sah szah szan starget ssource snumber spower szcount szplaces) ++ (wSH cI yah yan u_1 u_2))) → va_S A s.heap H locs → ∀ (ls : Array Slot), lv_has ls 8 [(0, .ref ah), (1, .ref lah), (2, .int a1), (3, .int a2), (4, .int i_5), (5, .int i_8)] → W p l e rm_X2_reduce_e00 s m args below meth c H locs 0 0 Q (F0 m 31 ls []) := by
          intro n
          induction n with
          | zero => intro i_8 i_9 h; cases h
          | succ n ih2 =>
            intro i_8 i_9 hr2 H locs hP hD hS ls hl
            obtain ⟨k, v2, hk, hr2, ht2, hv2⟩ := lrun_s hr2
            cases hk
            have hr2 : fX2_reduce_e00_s31 lpp a1 a2 i_5 u_1 u_2 i_8 i_9 = some v2 := hr2
            unfold fX2_reduce_e00_s31 at hr2
            refine lv_iload hx hb dX2_reduce_31 (lv_at hl 5 rfl) ?_
            refine lv_if_lt (tgt := 111) hx hb dX2_reduce_33 (by decide) (fun c_10 => ?_) (fun c_10 => ?_)
            · have hr2 := it_t c_10 hr2
              exact hX2 i_9 (hv2 _ (Option.some.inj hr2).symm).symm H locs hP hD hS ls (lv_sub hl [0, 1, 2, 3, 4] rfl)
            · have hr2 := it_f c_10 hr2
              refine lv_aload_n hx hb dX2_reduce_36 rfl (lv_at hl 1 rfl) ?_
              refine lv_iload_n hx hb dX2_reduce_37 rfl (lv_at hl 2 rfl) ?_
              refine lv_iload hx hb dX2_reduce_38 (lv_at hl 5 rfl) ?_
              refine lv_iload hx hb dX2_reduce_40 (lv_at hl 4 rfl) ?_
              obtain ⟨v_13, hq_12, hk⟩ := bd1_s hr2
              obtain ⟨r_11, rfl⟩ : ∃ y, y = v_13 := ⟨_, rfl⟩
              have hr2 := hk _ rfl
              have hPc : va_P D cls9 [(lah, .inr (3, [.int (5 : Int32), .int (8 : Int32), .int (25 : Int32), .ref lan, .int lpp, .int lcolumns, .int lcount])), (lan, .inl (cI, 1000, .inl i_9))] H := hPsub hP [1, 2] rfl
              have hDc : va_D A [(lah, .inr (3, [.int (5 : Int32), .int (8 : Int32), .int (25 : Int32), .ref lan, .int lpp, .int lcolumns, .int lcount])), (lan, .inl (cI, 1000, .inl i_9))] := hD.sub [1, 2] (by decide +kernel) rfl
              refine callIP (wr := [(ah, .inr (2, [.ref lah, .ref fah, .ref sah, .ref yah])), (fah, .inr (3, [.int (1 : Int32), .int (8 : Int32), .int (25 : Int32), .ref fan, .int fpp, .int fcolumns, .int fcount])), (fan, .inl (cI, 200, .inl fnum)), (sah, .inr (6, [.ref szah, .int starget, .int ssource, .int snumber, .int spower])), (szah, .inr (5, [.ref szan, .int szcount])), (szan, .inl (cI, 5, .inl szplaces)), (yah, .inr (5, [.ref yan, .int u_1])), (yan, .inl (cI, 5, .inl u_2))]) (ws2 := ((ah, .inr (2, [.ref lah, .ref fah, .ref sah, .ref yah])) :: ((wR cI lah lan 1000 (5 : Int32) (8 : Int32) (25 : Int32) lpp lcolumns lcount i_9) ++ (wR cI fah fan 200 (1 : Int32) (8 : Int32) (25 : Int32) fpp fcolumns fcount fnum) ++ (wST cI sah szah szan starget ssource snumber spower szcount szplaces) ++ (wSH cI yah yan u_1 u_2)))) (gV (rest := []) ⟨hx, hb, hml, hown, hts⟩ hG hPc hDc 0 3 rfl rfl (mtX3_at l D cI cB cR lah lan H.size 1000 (5 : Int32) (8 : Int32) (25 : Int32) lpp lcolumns lcount i_9 a1 i_8 i_5 r_11 hq_12) (cwV 3 hts gX2_reduce_X3_at rfl rfl rfl ⟨rfl, hd_X3_at⟩ ⟨Nat.le_of_ble_eq_true rfl, Nat.le_of_ble_eq_true rfl⟩) rfl hl.1 rfl (Nat.le_of_ble_eq_true rfl) dX2_reduce_42) hP hD hS hA [1, 2] [0, 3, 4, 5, 6, 7, 8, 9] [0, 8, 9, 1, 2, 3, 4, 5, 6, 7] rfl rfl (by decide +kernel) (by decide +kernel) rfl (by decide +kernel) (fun H locs hP hD hS => ?_)
              refine lv_istore (lv' := [(6, .int r_11), (0, .ref ah), (1, .ref lah), (2, .int a1), (3, .int a2), (4, .int i_5), (5, .int i_8)]) hx hb dX2_reduce_45 hl (by decide) rfl (fun ls hl => ?_)
              refine lv_iload hx hb dX2_reduce_47 (lv_at hl 0 rfl) ?_
              obtain ⟨v3, hj3, hk3⟩ := bd1_s hr2
              have hJ3 : ∀ (j_18 : Int32), v3 = j_18 → ∀ (H : Heap) (locs : List Loc), va_P D cls9 ((ah, .inr (2, [.ref lah, .ref fah, .ref sah, .ref yah])) :: ((wR cI lah lan 1000 (5 : Int32) (8 : Int32) (25 : Int32) lpp lcolumns lcount i_9) ++ (wR cI fah fan 200 (1 : Int32) (8 : Int32) (25 : Int32) fpp fcolumns fcount fnum) ++ (wST cI sah szah szan starget ssource snumber spower szcount szplaces) ++ (wSH cI yah yan u_1 u_2))) H → va_D A ((ah, .inr (2, [.ref lah, .ref fah, .ref sah, .ref yah])) :: ((wR cI lah lan 1000 (5 : Int32) (8 : Int32) (25 : Int32) lpp lcolumns lcount i_9) ++ (wR cI fah fan 200 (1 : Int32) (8 : Int32) (25 : Int32) fpp fcolumns fcount fnum) ++ (wST cI sah szah szan starget ssource snumber spower szcount szplaces) ++ (wSH cI yah yan u_1 u_2))) → va_S A s.heap H locs → ∀ (ls : Array Slot), lv_has ls 8 [(0, .ref ah), (1, .ref lah), (2, .int a1), (3, .int a2), (4, .int i_5), (5, .int i_8), (6, .int r_11)] → W p l e rm_X2_reduce_e00 s m args below meth c H locs 0 0 Q (F0 m 68 ls [.int j_18]) := by
                intro j_18 hq H locs hP hD hS ls hl
                have hr2 := hk3 _ hq
                refine lv_istore (lv' := [(7, .int j_18), (0, .ref ah), (1, .ref lah), (2, .int a1), (3, .int a2), (4, .int i_5), (5, .int i_8), (6, .int r_11)]) hx hb dX2_reduce_68 hl (by decide) rfl (fun ls hl => ?_)
                refine lv_iload hx hb dX2_reduce_70 (lv_at hl 0 rfl) ?_
                refine lv_iconst (v := -1) hx hb dX2_reduce_72 (by decide) ?_
                refine lv_icmp_eq (tgt := 105) hx hb dX2_reduce_73 (by decide) (fun c_19 => ?_) (fun c_19 => ?_)
                · have hr2 := it_t c_19 hr2
                  refine lv_iinc (v := (i_8 + (-1))) (lv' := [(5, .int (i_8 + (-1))), (7, .int j_18), (0, .ref ah), (1, .ref lah), (2, .int a1), (3, .int a2), (4, .int i_5), (6, .int r_11)]) hx hb dX2_reduce_105 hl (k := 6) rfl rfl (by decide) rfl (fun ls hl => ?_)
                  refine lv_goto (tgt := 31) hx hb dX2_reduce_108 (by decide) ?_
                  exact ih2 (i_8 + (-1)) i_9 (ht2 _ (Option.some.inj hr2).symm) H locs hP hD hS ls (lv_sub hl [2, 3, 4, 5, 6, 0] rfl)
                · have hr2 := it_f c_19 hr2
                  refine lv_aload_n hx hb dX2_reduce_76 rfl (lv_at hl 2 rfl) ?_
                  refine lv_iload_n hx hb dX2_reduce_77 rfl (lv_at hl 3 rfl) ?_
                  refine lv_aload_n hx hb dX2_reduce_78 rfl (lv_at hl 1 rfl) ?_
                  refine va_get (D := D) (ci := 2) (v := .ref lah) (C := RX2) (T := TX2) (N := 4) hx hb hts iX2_reduce_e00_X2 hown hG.1 hP 0 rfl rfl 0 (by decide) (hts _ fX2_reduce_e00_2) (fun _ h9 => h9) rfl dX2_reduce_79 ?_
                  refine lv_iload hx hb dX2_reduce_82 (lv_at hl 0 rfl) ?_
                  refine lv_iload hx hb dX2_reduce_84 (lv_at hl 7 rfl) ?_
                  refine lv_ineg hx hb dX2_reduce_86 ?_
                  refine lv_iload hx hb dX2_reduce_87 (lv_at hl 5 rfl) ?_
                  refine lv_aload_n hx hb dX2_reduce_89 rfl (lv_at hl 1 rfl) ?_
                  refine va_get (D := D) (ci := 2) (v := .ref yah) (C := RX2) (T := TX2) (N := 4) hx hb hts iX2_reduce_e00_X2 hown hG.1 hP 0 rfl rfl 3 (by decide) (hts _ fX2_reduce_e00_1) (fun _ h9 => h9) rfl dX2_reduce_90 ?_
                  refine lv_iload hx hb dX2_reduce_93 (lv_at hl 0 rfl) ?_
                  obtain ⟨v_22, hq_21, hk⟩ := bd1_s hr2
                  obtain ⟨r_20, rfl⟩ : ∃ y, y = v_22 := ⟨_, rfl⟩
                  have hr2 := hk _ rfl
                  have hPc : va_P D cls9 [(yah, .inr (5, [.ref yan, .int u_1])), (yan, .inl (cI, 5, .inl u_2))] H := hPsub hP [8, 9] rfl
                  have hDc : va_D A [(yah, .inr (5, [.ref yan, .int u_1])), (yan, .inl (cI, 5, .inl u_2))] := hD.sub [8, 9] (by decide +kernel) rfl
                  refine callIP (wr := [(ah, .inr (2, [.ref lah, .ref fah, .ref sah, .ref yah])), (lah, .inr (3, [.int (5 : Int32), .int (8 : Int32), .int (25 : Int32), .ref lan, .int lpp, .int lcolumns, .int lcount])), (lan, .inl (cI, 1000, .inl i_9)), (fah, .inr (3, [.int (1 : Int32), .int (8 : Int32), .int (25 : Int32), .ref fan, .int fpp, .int fcolumns, .int fcount])), (fan, .inl (cI, 200, .inl fnum)), (sah, .inr (6, [.ref szah, .int starget, .int ssource, .int snumber, .int spower])), (szah, .inr (5, [.ref szan, .int szcount])), (szan, .inl (cI, 5, .inl szplaces))]) (ws2 := ((ah, .inr (2, [.ref lah, .ref fah, .ref sah, .ref yah])) :: ((wR cI lah lan 1000 (5 : Int32) (8 : Int32) (25 : Int32) lpp lcolumns lcount i_9) ++ (wR cI fah fan 200 (1 : Int32) (8 : Int32) (25 : Int32) fpp fcolumns fcount fnum) ++ (wST cI sah szah szan starget ssource snumber spower szcount szplaces) ++ (wSH cI yah yan u_1 u_2)))) (gV (rest := [.int i_5, .int (-r_11), .int j_18, .ref lah, .int a1, .ref lah]) ⟨hx, hb, hml, hown, hts⟩ hG hPc hDc 0 5 rfl rfl (mtX5_placeAt l D cI cB cR yah yan H.size u_1 u_2 j_18 r_20 hq_21) (cwV 1 hts gX2_reduce_X5_placeAt rfl rfl rfl ⟨rfl, hd_X5_placeAt⟩ ⟨Nat.le_of_ble_eq_true rfl, Nat.le_of_ble_eq_true rfl⟩) rfl hl.1 rfl (Nat.le_of_ble_eq_true rfl) dX2_reduce_95) hP hD hS hA [8, 9] [0, 1, 2, 3, 4, 5, 6, 7] [0, 1, 2, 3, 4, 5, 6, 7, 8, 9] rfl rfl (by decide +kernel) (by decide +kernel) rfl (by decide +kernel) (fun H locs hP hD hS => ?_)
                  refine callI0 (gSN (rest := [.int i_5, .int (-r_11), .int j_18, .ref lah, .int a1, .ref lah]) ⟨hx, hb, hml, hown, hts⟩ hG vaP0 (vaD0 (A := A)) (mtX7_powerAt l D cI cB cR H.size r_20 _ rfl) (va_cnB (host := "PopovRows") 1 hts gX2_reduce_X7_powerAt_n131 rfl rfl rfl (hG.2 _ nl_18) (hts _ fX2_reduce_e00_5) hd_X7_powerAt ⟨Nat.le_of_ble_eq_true rfl, Nat.le_of_ble_eq_true rfl⟩) (hts _ fX2_reduce_e00_6) rfl hl.1 rfl (Nat.le_of_ble_eq_true rfl) dX2_reduce_98) hP hS hA (fun H locs hP hS => ?_)
                  refine lv_isub hx hb dX2_reduce_101 ?_
                  obtain ⟨v_25, hq_24, hk⟩ := bd1_s hr2
                  obtain ⟨u_23, rfl⟩ : ∃ y, y = v_25 := ⟨_, rfl⟩
                  have hr2 := hk _ rfl
                  have hPc : va_P D cls9 [(lah, .inr (3, [.int (5 : Int32), .int (8 : Int32), .int (25 : Int32), .ref lan, .int lpp, .int lcolumns, .int lcount])), (lan, .inl (cI, 1000, .inl i_9))] H := hPsub hP [1, 2] rfl
                  have hDc : va_D A [(lah, .inr (3, [.int (5 : Int32), .int (8 : Int32), .int (25 : Int32), .ref lan, .int lpp, .int lcolumns, .int lcount])), (lan, .inl (cI, 1000, .inl i_9))] := hD.sub [1, 2] (by decide +kernel) rfl
                  refine callVP (wr := [(ah, .inr (2, [.ref lah, .ref fah, .ref sah, .ref yah])), (fah, .inr (3, [.int (1 : Int32), .int (8 : Int32), .int (25 : Int32), .ref fan, .int fpp, .int fcolumns, .int fcount])), (fan, .inl (cI, 200, .inl fnum)), (sah, .inr (6, [.ref szah, .int starget, .int ssource, .int snumber, .int spower])), (szah, .inr (5, [.ref szan, .int szcount])), (szan, .inl (cI, 5, .inl szplaces)), (yah, .inr (5, [.ref yan, .int u_1])), (yan, .inl (cI, 5, .inl u_2))]) (ws2 := ((ah, .inr (2, [.ref lah, .ref fah, .ref sah, .ref yah])) :: ((wR cI lah lan 1000 (5 : Int32) (8 : Int32) (25 : Int32) lpp lcolumns lcount u_23) ++ (wR cI fah fan 200 (1 : Int32) (8 : Int32) (25 : Int32) fpp fcolumns fcount fnum) ++ (wST cI sah szah szan starget ssource snumber spower szcount szplaces) ++ (wSH cI yah yan u_1 u_2)))) (gV (rest := []) ⟨hx, hb, hml, hown, hts⟩ hG hPc hDc 0 3 rfl rfl (mtX3_addTimes_e0 l D cI cB cR lah lan H.size 1000 (5 : Int32) (8 : Int32) (25 : Int32) lpp lcolumns lcount i_9 a1 j_18 (-r_11) (i_5 - (fX7_powerAt r_20)) u_23 hq_24) (cwV 5 hts gX2_reduce_X3_addTimes rfl rfl rfl ⟨rfl, hd_X3_addTimes⟩ ⟨Nat.le_of_ble_eq_true rfl, Nat.le_of_ble_eq_true rfl⟩) rfl hl.1 rfl (Nat.le_of_ble_eq_true rfl) dX2_reduce_102) hP hD hS hA [1, 2] [0, 3, 4, 5, 6, 7, 8, 9] [0, 8, 9, 1, 2, 3, 4, 5, 6, 7] rfl rfl (by decide +kernel) (by decide +kernel) rfl (by decide +kernel) (fun H locs hP hD hS => ?_)
                  refine lv_iinc (v := (i_8 + (-1))) (lv' := [(5, .int (i_8 + (-1))), (7, .int j_18), (0, .ref ah), (1, .ref lah), (2, .int a1), (3, .int a2), (4, .int i_5), (6, .int r_11)]) hx hb dX2_reduce_105 hl (k := 6) rfl rfl (by decide) rfl (fun ls hl => ?_)
                  refine lv_goto (tgt := 31) hx hb dX2_reduce_108 (by decide) ?_
                  exact ih2 (i_8 + (-1)) u_23 (ht2 _ (Option.some.inj hr2).symm) H locs hP hD hS ls (lv_sub hl [2, 3, 4, 5, 6, 0] rfl)
              refine lv_if_ne (tgt := 56) hx hb dX2_reduce_49 (by decide) (fun c_14 => ?_) (fun c_14 => ?_)
              · have hj3 := it_f c_14 hj3
                refine lv_aload_n hx hb dX2_reduce_56 rfl (lv_at hl 1 rfl) ?_
                refine va_get (D := D) (ci := 2) (v := .ref yah) (C := RX2) (T := TX2) (N := 4) hx hb hts iX2_reduce_e00_X2 hown hG.1 hP 0 rfl rfl 3 (by decide) (hts _ fX2_reduce_e00_1) (fun _ h9 => h9) rfl dX2_reduce_57 ?_
                refine lv_iload hx hb dX2_reduce_60 (lv_at hl 6 rfl) ?_
                refine lv_iload hx hb dX2_reduce_62 (lv_at hl 5 rfl) ?_
                refine lv_iload_n hx hb dX2_reduce_64 rfl (lv_at hl 4 rfl) ?_
                obtain ⟨v_17, hq_16, hk⟩ := bd1_s hj3
                obtain ⟨r_15, rfl⟩ : ∃ y, y = v_17 := ⟨_, rfl⟩
                have hj3 := hk _ rfl
                have hPc : va_P D cls9 [(yah, .inr (5, [.ref yan, .int u_1])), (yan, .inl (cI, 5, .inl u_2))] H := hPsub hP [8, 9] rfl
                have hDc : va_D A [(yah, .inr (5, [.ref yan, .int u_1])), (yan, .inl (cI, 5, .inl u_2))] := hD.sub [8, 9] (by decide +kernel) rfl
                refine callIP (wr := [(ah, .inr (2, [.ref lah, .ref fah, .ref sah, .ref yah])), (lah, .inr (3, [.int (5 : Int32), .int (8 : Int32), .int (25 : Int32), .ref lan, .int lpp, .int lcolumns, .int lcount])), (lan, .inl (cI, 1000, .inl i_9)), (fah, .inr (3, [.int (1 : Int32), .int (8 : Int32), .int (25 : Int32), .ref fan, .int fpp, .int fcolumns, .int fcount])), (fan, .inl (cI, 200, .inl fnum)), (sah, .inr (6, [.ref szah, .int starget, .int ssource, .int snumber, .int spower])), (szah, .inr (5, [.ref szan, .int szcount])), (szan, .inl (cI, 5, .inl szplaces))]) (ws2 := ((ah, .inr (2, [.ref lah, .ref fah, .ref sah, .ref yah])) :: ((wR cI lah lan 1000 (5 : Int32) (8 : Int32) (25 : Int32) lpp lcolumns lcount i_9) ++ (wR cI fah fan 200 (1 : Int32) (8 : Int32) (25 : Int32) fpp fcolumns fcount fnum) ++ (wST cI sah szah szan starget ssource snumber spower szcount szplaces) ++ (wSH cI yah yan u_1 u_2)))) (gV (rest := []) ⟨hx, hb, hml, hown, hts⟩ hG hPc hDc 0 5 rfl rfl (mtX5_rowFor l D cI cB cR yah yan H.size u_1 u_2 i_8 i_5 a2 r_15 hq_16) (cwV 3 hts gX2_reduce_X5_rowFor rfl rfl rfl ⟨rfl, hd_X5_rowFor⟩ ⟨Nat.le_of_ble_eq_true rfl, Nat.le_of_ble_eq_true rfl⟩) rfl hl.1 rfl (Nat.le_of_ble_eq_true rfl) dX2_reduce_65) hP hD hS hA [8, 9] [0, 1, 2, 3, 4, 5, 6, 7] [0, 1, 2, 3, 4, 5, 6, 7, 8, 9] rfl rfl (by decide +kernel) (by decide +kernel) rfl (by decide +kernel) (fun H locs hP hD hS => ?_)
                exact hJ3 r_15 (Option.some.inj hj3).symm  H locs hP hD hS ls (lv_sub hl [1, 2, 3, 4, 5, 6, 0] rfl)
              · have hj3 := it_t c_14 hj3
                refine lv_iconst (v := -1) hx hb dX2_reduce_52 (by decide) ?_
                refine lv_goto (tgt := 68) hx hb dX2_reduce_53 (by decide) ?_
                exact hJ3 (-1 : Int32) (Option.some.inj hj3).symm  H locs hP hD hS ls (lv_sub hl [1, 2, 3, 4, 5, 6, 0] rfl)
        obtain ⟨n2, hn2⟩ := Lp_s hw2
        exact hL2 n2 (lcolumns - (1 : Int32)) i_6 hn2 H locs hP hD hS ls (lv_sub hl [1, 2, 3, 4, 5, 0] rfl)
  obtain ⟨n1, hn1⟩ := Lp_s hw1
  exact hL1 n1 (7 : Int32) lnum hn1 H locs hP hD hS ls (lv_sub hl [1, 2, 3, 4, 0] rfl)
