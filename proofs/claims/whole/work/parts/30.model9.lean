abbrev rm_X8_factorOf : Room := { frames := 9, cells := 0, slots := 0, locals := 214 }
theorem iX8_factorOf_X8 : ∀ w ∈ wsX80, w ∈ wsX8_factorOf := fun _ h => (List.mem_cons_of_mem _ (List.mem_append_right _ h))
theorem fX8_factorOf_1 : Cond.fieldLink RX8 178 "PopovRowsModel" "many" "I" ∈ wsX8_factorOf := (List.mem_cons_of_mem _ (List.mem_append_left _ (List.mem_append_left _ (List.mem_of_getElem? (i := 0) rfl))))
theorem fX8_factorOf_2 : Cond.fieldLink RX8 29 "PopovRowsModel" "chosen" "[I" ∈ wsX8_factorOf := (List.mem_cons_of_mem _ (List.mem_append_left _ (List.mem_append_left _ (List.mem_of_getElem? (i := 1) rfl))))
theorem fX8_factorOf_3 : Cond.fieldLink RX8 47 "PopovRowsModel" "quotients" "[I" ∈ wsX8_factorOf := (List.mem_cons_of_mem _ (List.mem_append_left _ (List.mem_append_left _ (List.mem_of_getElem? (i := 2) rfl))))
set_option maxHeartbeats 4000000 in
set_option maxRecDepth 100000 in
theorem mtX8_factorOf (l : Launch) (D : va_G) (cI cB cR : ClassId) (ad : Nat → Nat) (sz : Nat) (states : Int32) (whyKind : Int32) (whyOrder : Int32) (many : Int32) (wide : Int32) (textLong : Int32) (spot : Int32) (readColumns : Int32) (all : Nat → Int32) (past : Nat → Int32) (refused : Nat → Int32) (work : Nat → Int32) (kept : Nat → Int32) (chosen : Nat → Int32) (across : Nat → Int32) (sum : Nat → Int32) (one : Nat → Int32) (two : Nat → Int32) (base : Nat → Int32) (quotients : Nat → Int32) (text : Nat → Int32) (numbers : Nat → Int32) (entries : Nat → Int32) (before : Nat → Int32) (a0 : Int32) (a1 : Int32) (a2 : Int32) (a3 : Int32) (res : Int32 × Int32 × Int32 × (Nat → Int32) × (Nat → Int32) × (Nat → Int32) × (Nat → Int32) × (Nat → Int32) × (Nat → Int32) × (Nat → Int32) × (Nat → Int32) × (Nat → Int32)) (hf : fX8_factorOf all refused work chosen across sum one two base quotients a0 a1 a2 a3 = some res) : Met l yX8_factorOf wsX8_factorOf rm_X8_factorOf (qP D cI cB cR [.ref (ad 0), .int a0, .int a1, .int a2, .int a3] (wM cI ad states whyKind whyOrder many wide textLong spot readColumns all past refused work kept chosen across sum one two base quotients text numbers entries before) sz) (qI D res.1 (wM cI ad states whyKind whyOrder many wide textLong spot readColumns all past refused work kept chosen across sum one two base quotients text numbers entries before) (wM cI ad states whyKind whyOrder res.2.1 res.2.2.1 textLong spot readColumns all past res.2.2.2.1 res.2.2.2.2.1 kept res.2.2.2.2.2.1 res.2.2.2.2.2.2.1 res.2.2.2.2.2.2.2.1 res.2.2.2.2.2.2.2.2.1 res.2.2.2.2.2.2.2.2.2.1 res.2.2.2.2.2.2.2.2.2.2.1 res.2.2.2.2.2.2.2.2.2.2.2 text numbers entries before) sz) 0 0 (va_A (wM cI ad states whyKind whyOrder many wide textLong spot readColumns all past refused work kept chosen across sum one two base quotients text numbers entries before) sz) := by
  refine entI (plainFor_of_name (by decide)) rfl (Nat.le_of_ble_eq_true rfl) ?_
  intro p e s m args below meth c Q A ls S hG hP hD hA hl hE
  obtain ⟨hx, hb, hml, hown, hts⟩ := S
  have hown : s.vm.findClass RX8 = some m.cls := hown
  have hS : va_S A s.heap s.heap [] := va_S.rf
  have hl : lv_has ls 7 [(0, .ref (ad 0)), (1, .int a0), (2, .int a1), (3, .int a2), (4, .int a3)] := hl
  have hq := hf
  unfold fX8_factorOf at hq
  obtain ⟨H, hH⟩ : ∃ H, H = s.heap := ⟨_, rfl⟩
  obtain ⟨locs, hlo⟩ : ∃ L : List Loc, L = [] := ⟨_, rfl⟩
  have hP : va_P D cls9 (wM cI ad states whyKind whyOrder many wide textLong spot readColumns all past refused work kept chosen across sum one two base quotients text numbers entries before) H := hH ▸ hP
  have hS : va_S A s.heap H locs := by rw [hH, hlo]; exact hS
  suffices hg : W p l e rm_X8_factorOf s m args below meth c H locs 0 0 Q (F0 m 0 ls []) by rw [hH, hlo] at hg; exact hg
  refine lv_aload_n hx hb dX8_factorOf_0 rfl (lv_at hl 0 rfl) ?_
  refine lv_iload_n hx hb dX8_factorOf_1 rfl (lv_at hl 2 rfl) ?_
  obtain ⟨v_4, hq_3, hk⟩ := bd2_s hq
  obtain ⟨r_1, u_2⟩ := v_4
  have hq := hk _ _ rfl
  refine callIA (gV (rest := []) ⟨hx, hb, hml, hown, hts⟩ hG hP hD 0 8 rfl rfl (mtX8_chooses l D cI cB cR ad H.size states whyKind whyOrder many wide textLong spot readColumns all past refused work kept chosen across sum one two base quotients text numbers entries before a1 (r_1, u_2) hq_3) (cwV 1 hts gX8_factorOf_X8_chooses rfl rfl rfl ⟨rfl, hd_X8_chooses⟩ ⟨Nat.le_of_ble_eq_true rfl, Nat.le_of_ble_eq_true rfl⟩) rfl hl.1 rfl (Nat.le_of_ble_eq_true rfl) dX8_factorOf_2) hD hS hA (fun H locs hP hD hS => ?_)
  have hP : va_P D cls9 (wM cI ad states whyKind whyOrder many wide textLong spot readColumns all past refused work kept u_2 across sum one two base quotients text numbers entries before) H := hP
  have hD : va_D A (wM cI ad states whyKind whyOrder many wide textLong spot readColumns all past refused work kept u_2 across sum one two base quotients text numbers entries before) := hD
  refine lv_istore (lv' := [(5, .int r_1), (0, .ref (ad 0)), (1, .int a0), (2, .int a1), (3, .int a2), (4, .int a3)]) hx hb dX8_factorOf_5 hl (by decide) rfl (fun ls hl => ?_)
  refine lv_aload_n hx hb dX8_factorOf_7 rfl (lv_at hl 1 rfl) ?_
  refine lv_iload_n hx hb dX8_factorOf_8 rfl (lv_at hl 2 rfl) ?_
  refine lv_iload_n hx hb dX8_factorOf_9 rfl (lv_at hl 3 rfl) ?_
  obtain ⟨v_10, hq_9, hk⟩ := bd4_s hq
  obtain ⟨r_5, u_6, u_7, u_8⟩ := v_10
  have hq := hk _ _ _ _ rfl
  refine callZA (gV (rest := []) ⟨hx, hb, hml, hown, hts⟩ hG hP hD 0 8 rfl rfl (mtX8_isMade l D cI cB cR ad H.size states whyKind whyOrder many wide textLong spot readColumns all past refused work kept u_2 across sum one two base quotients text numbers entries before a0 a1 (r_5, u_6, u_7, u_8) hq_9) (cwV 2 hts gX8_factorOf_X8_isMade rfl rfl rfl ⟨rfl, hd_X8_isMade⟩ ⟨Nat.le_of_ble_eq_true rfl, Nat.le_of_ble_eq_true rfl⟩) rfl hl.1 rfl (Nat.le_of_ble_eq_true rfl) dX8_factorOf_10) hD hS hA (fun H locs z_11 hP hD hS => ?_)
  have hP : va_P D cls9 (wM cI ad states whyKind whyOrder u_6 u_7 textLong spot readColumns all past refused u_8 kept u_2 across sum one two base quotients text numbers entries before) H := hP
  have hD : va_D A (wM cI ad states whyKind whyOrder u_6 u_7 textLong spot readColumns all past refused u_8 kept u_2 across sum one two base quotients text numbers entries before) := hD
  refine lv_if_eq (tgt := 25) hx hb dX8_factorOf_13 (by decide) (fun c_12 => ?_) (fun c_12 => ?_)
  · have hq := it_t c_12 hq
    refine lv_aload_n hx hb dX8_factorOf_25 rfl (lv_at hl 1 rfl) ?_
    refine lv_bipush (v := -3) hx hb dX8_factorOf_26 (by decide) ?_
    obtain ⟨v_16, hq_15, hk⟩ := bd2_s hq
    obtain ⟨r_13, u_14⟩ := v_16
    have hq := hk _ _ rfl
    refine callIA (gV (rest := []) ⟨hx, hb, hml, hown, hts⟩ hG hP hD 0 8 rfl rfl (mtX8_refuses l D cI cB cR ad H.size states whyKind whyOrder u_6 u_7 textLong spot readColumns all past refused u_8 kept u_2 across sum one two base quotients text numbers entries before (-3 : Int32) (r_13, u_14) hq_15) (cwV 1 hts gX8_factorOf_X8_refuses rfl rfl rfl ⟨rfl, hd_X8_refuses⟩ ⟨Nat.le_of_ble_eq_true rfl, Nat.le_of_ble_eq_true rfl⟩) rfl hl.1 rfl (Nat.le_of_ble_eq_true rfl) dX8_factorOf_28) hD hS hA (fun H locs hP hD hS => ?_)
    have hP : va_P D cls9 (wM cI ad states whyKind whyOrder u_6 u_7 textLong spot readColumns all past u_14 u_8 kept u_2 across sum one two base quotients text numbers entries before) H := hP
    have hD : va_D A (wM cI ad states whyKind whyOrder u_6 u_7 textLong spot readColumns all past u_14 u_8 kept u_2 across sum one two base quotients text numbers entries before) := hD
    have he := Option.some.inj hq
    subst he
    exact hE H locs _ _ _ rfl dX8_factorOf_31 hP hD hS
  · have hq := it_f c_12 hq
    refine lv_aload_n hx hb dX8_factorOf_16 rfl (lv_at hl 1 rfl) ?_
    refine va_get (D := D) (ci := 8) (v := .int u_6) (C := RX8) (T := TX8) (N := 24) hx hb hts iX8_factorOf_X8 hown hG.1 hP 0 rfl rfl 7 (by decide) (hts _ fX8_factorOf_1) (fun _ h9 => h9) rfl dX8_factorOf_17 ?_
    refine lv_iload hx hb dX8_factorOf_20 (lv_at hl 0 rfl) ?_
    refine lv_icmp_eq (tgt := 32) hx hb dX8_factorOf_22 (by decide) (fun c_17 => ?_) (fun c_17 => ?_)
    · have hq := it_t c_17 hq
      refine lv_aload_n hx hb dX8_factorOf_32 rfl (lv_at hl 1 rfl) ?_
      refine lv_iload hx hb dX8_factorOf_33 (lv_at hl 0 rfl) ?_
      obtain ⟨v_24, hq_23, hk⟩ := bd5_s hq
      obtain ⟨u_18, u_19, u_20, u_21, u_22⟩ := v_24
      have hq := hk _ _ _ _ _ rfl
      refine callVA (gV (rest := []) ⟨hx, hb, hml, hown, hts⟩ hG hP hD 0 8 rfl rfl (mtX8_choosesColumns l D cI cB cR ad H.size states whyKind whyOrder u_6 u_7 textLong spot readColumns all past refused u_8 kept u_2 across sum one two base quotients text numbers entries before r_1 (u_18, u_19, u_20, u_21, u_22) hq_23) (cwV 1 hts gX8_factorOf_X8_choosesColumns rfl rfl rfl ⟨rfl, hd_X8_choosesColumns⟩ ⟨Nat.le_of_ble_eq_true rfl, Nat.le_of_ble_eq_true rfl⟩) rfl hl.1 rfl (Nat.le_of_ble_eq_true rfl) dX8_factorOf_35) hD hS hA (fun H locs hP hD hS => ?_)
      have hP : va_P D cls9 (wM cI ad states whyKind whyOrder u_6 u_7 textLong spot readColumns all past refused u_8 kept u_2 u_18 u_19 u_20 u_21 u_22 quotients text numbers entries before) H := hP
      have hD : va_D A (wM cI ad states whyKind whyOrder u_6 u_7 textLong spot readColumns all past refused u_8 kept u_2 u_18 u_19 u_20 u_21 u_22 quotients text numbers entries before) := hD
      refine lv_iconst (v := 0) hx hb dX8_factorOf_38 (by decide) ?_
      refine lv_istore (lv' := [(6, .int (0 : Int32)), (5, .int r_1), (0, .ref (ad 0)), (1, .int a0), (2, .int a1), (3, .int a2), (4, .int a3)]) hx hb dX8_factorOf_39 hl (by decide) rfl (fun ls hl => ?_)
      obtain ⟨w1, hw1, hk1⟩ := bd1_s hq
      have hX1 : ∀ (x_33 : Nat → Int32), w1 = x_33 → ∀ (H : Heap) (locs : List Loc), va_P D cls9 (wM cI ad states whyKind whyOrder u_6 u_7 textLong spot readColumns all past refused u_8 kept x_33 u_18 u_19 u_20 u_21 u_22 quotients text numbers entries before) H → va_D A (wM cI ad states whyKind whyOrder u_6 u_7 textLong spot readColumns all past refused u_8 kept x_33 u_18 u_19 u_20 u_21 u_22 quotients text numbers entries before) → va_S A s.heap H locs → ∀ (ls : Array Slot), lv_has ls 7 [(0, .ref (ad 0)), (4, .int a3), (5, .int r_1)] → W p l e rm_X8_factorOf s m args below meth c H locs 0 0 Q (F0 m 83 ls []) := by
        intro x_33 hq H locs hP hD hS ls hl
        have hq := hk1 _ hq
        refine lv_aload_n hx hb dX8_factorOf_83 rfl (lv_at hl 0 rfl) ?_
        refine lv_iload hx hb dX8_factorOf_84 (lv_at hl 2 rfl) ?_
        obtain ⟨v_38, hq_37, hk⟩ := bd3_s hq
        obtain ⟨u_34, u_35, u_36⟩ := v_38
        have hq := hk _ _ _ rfl
        refine callVA (gV (rest := []) ⟨hx, hb, hml, hown, hts⟩ hG hP hD 0 8 rfl rfl (mtX8_determines l D cI cB cR ad H.size states whyKind whyOrder u_6 u_7 textLong spot readColumns all past refused u_8 kept x_33 u_18 u_19 u_20 u_21 u_22 quotients text numbers entries before r_1 (u_34, u_35, u_36) hq_37) (cwV 1 hts gX8_factorOf_X8_determines rfl rfl rfl ⟨rfl, hd_X8_determines⟩ ⟨Nat.le_of_ble_eq_true rfl, Nat.le_of_ble_eq_true rfl⟩) rfl hl.1 rfl (Nat.le_of_ble_eq_true rfl) dX8_factorOf_86) hD hS hA (fun H locs hP hD hS => ?_)
        have hP : va_P D cls9 (wM cI ad states whyKind whyOrder u_6 u_7 textLong spot readColumns all past refused u_8 kept x_33 u_18 u_34 u_35 u_36 u_22 quotients text numbers entries before) H := hP
        have hD : va_D A (wM cI ad states whyKind whyOrder u_6 u_7 textLong spot readColumns all past refused u_8 kept x_33 u_18 u_34 u_35 u_36 u_22 quotients text numbers entries before) := hD
        refine lv_aload_n hx hb dX8_factorOf_89 rfl (lv_at hl 0 rfl) ?_
        obtain ⟨v_42, hq_41, hk⟩ := bd2_s hq
        obtain ⟨u_39, u_40⟩ := v_42
        have hq := hk _ _ rfl
        refine callVA (gV (rest := []) ⟨hx, hb, hml, hown, hts⟩ hG hP hD 0 8 rfl rfl (mtX8_divides l D cI cB cR ad H.size states whyKind whyOrder u_6 u_7 textLong spot readColumns all past refused u_8 kept x_33 u_18 u_34 u_35 u_36 u_22 quotients text numbers entries before (u_39, u_40) hq_41) (cwV 0 hts gX8_factorOf_X8_divides rfl rfl rfl ⟨rfl, hd_X8_divides⟩ ⟨Nat.le_of_ble_eq_true rfl, Nat.le_of_ble_eq_true rfl⟩) rfl hl.1 rfl (Nat.le_of_ble_eq_true rfl) dX8_factorOf_90) hD hS hA (fun H locs hP hD hS => ?_)
        have hP : va_P D cls9 (wM cI ad states whyKind whyOrder u_6 u_7 textLong spot readColumns all past refused u_8 kept x_33 u_18 u_39 u_35 u_36 u_22 u_40 text numbers entries before) H := hP
        have hD : va_D A (wM cI ad states whyKind whyOrder u_6 u_7 textLong spot readColumns all past refused u_8 kept x_33 u_18 u_39 u_35 u_36 u_22 u_40 text numbers entries before) := hD
        refine lv_aload_n hx hb dX8_factorOf_93 rfl (lv_at hl 0 rfl) ?_
        refine va_get (D := D) (ci := 8) (v := .ref (ad 12)) (C := RX8) (T := TX8) (N := 24) hx hb hts iX8_factorOf_X8 hown hG.1 hP 0 rfl rfl 16 (by decide) (hts _ fX8_factorOf_3) (fun _ h9 => h9) rfl dX8_factorOf_94 ?_
        refine lv_iload hx hb dX8_factorOf_97 (lv_at hl 1 rfl) ?_
        obtain ⟨h_43, hq⟩ := gd_s hq
        refine va_iald hx hb hG.1 hP 12 0 rfl rfl h_43 dX8_factorOf_99 ?_
        have he := Option.some.inj hq
        subst he
        exact hE H locs _ _ _ rfl dX8_factorOf_100 hP hD hS
      have hL1 : ∀ (n : Nat) (i_25 : Int32) (i_26 : Nat → Int32), lrun (fun (z : Int32 × (Nat → Int32)) => fX8_factorOf_s41 a0 a2 r_1 z.1 z.2) n (i_25, i_26) = some w1 → ∀ (H : Heap) (locs : List Loc), va_P D cls9 (wM cI ad states whyKind whyOrder u_6 u_7 textLong spot readColumns all past refused u_8 kept i_26 u_18 u_19 u_20 u_21 u_22 quotients text numbers entries before) H → va_D A (wM cI ad states whyKind whyOrder u_6 u_7 textLong spot readColumns all past refused u_8 kept i_26 u_18 u_19 u_20 u_21 u_22 quotients text numbers entries before) → va_S A s.heap H locs → ∀ (ls : Array Slot), lv_has ls 7 [(0, .ref (ad 0)), (1, .int a0), (3, .int a2), (4, .int a3), (5, .int r_1), (6, .int i_25)] → W p l e rm_X8_factorOf s m args below meth c H locs 0 0 Q (F0 m 41 ls []) := by
        intro n
        induction n with
        | zero => intro i_25 i_26 h; cases h
        | succ n ih1 =>
          intro i_25 i_26 hr1 H locs hP hD hS ls hl
          obtain ⟨k, v1, hk, hr1, ht1, hv1⟩ := lrun_s hr1
          cases hk
          have hr1 : fX8_factorOf_s41 a0 a2 r_1 i_25 i_26 = some v1 := hr1
          unfold fX8_factorOf_s41 at hr1
          refine lv_iload hx hb dX8_factorOf_41 (lv_at hl 5 rfl) ?_
          refine lv_iload hx hb dX8_factorOf_43 (lv_at hl 4 rfl) ?_
          refine lv_icmp_ge (tgt := 83) hx hb dX8_factorOf_45 (by decide) (fun c_27 => ?_) (fun c_27 => ?_)
          · have hr1 := it_t c_27 hr1
            exact hX1 i_26 (hv1 _ (Option.some.inj hr1).symm).symm H locs hP hD hS ls (lv_sub hl [0, 3, 4] rfl)
          · have hr1 := it_f c_27 hr1
            refine lv_aload_n hx hb dX8_factorOf_48 rfl (lv_at hl 0 rfl) ?_
            refine va_get (D := D) (ci := 8) (v := .ref (ad 6)) (C := RX8) (T := TX8) (N := 24) hx hb hts iX8_factorOf_X8 hown hG.1 hP 0 rfl rfl 10 (by decide) (hts _ fX8_factorOf_2) (fun _ h9 => h9) rfl dX8_factorOf_49 ?_
            refine lv_iload hx hb dX8_factorOf_52 (lv_at hl 5 rfl) ?_
            refine lv_aload_n hx hb dX8_factorOf_54 rfl (lv_at hl 0 rfl) ?_
            refine va_get (D := D) (ci := 8) (v := .ref (ad 6)) (C := RX8) (T := TX8) (N := 24) hx hb hts iX8_factorOf_X8 hown hG.1 hP 0 rfl rfl 10 (by decide) (hts _ fX8_factorOf_2) (fun _ h9 => h9) rfl dX8_factorOf_55 ?_
            refine lv_iload hx hb dX8_factorOf_58 (lv_at hl 5 rfl) ?_
            obtain ⟨h_28, hr1⟩ := gd_s hr1
            refine va_iald hx hb hG.1 hP 6 0 rfl rfl h_28 dX8_factorOf_60 ?_
            refine lv_iload_n hx hb dX8_factorOf_61 rfl (lv_at hl 2 rfl) ?_
            refine lv_icmp_ne (tgt := 69) hx hb dX8_factorOf_62 (by decide) (fun c_29 => ?_) (fun c_29 => ?_)
            · have hr1 := it_f c_29 hr1
              refine lv_aload_n hx hb dX8_factorOf_69 rfl (lv_at hl 0 rfl) ?_
              refine va_get (D := D) (ci := 8) (v := .ref (ad 6)) (C := RX8) (T := TX8) (N := 24) hx hb hts iX8_factorOf_X8 hown hG.1 hP 0 rfl rfl 10 (by decide) (hts _ fX8_factorOf_2) (fun _ h9 => h9) rfl dX8_factorOf_70 ?_
              refine lv_iload hx hb dX8_factorOf_73 (lv_at hl 5 rfl) ?_
              obtain ⟨h_30, hr1⟩ := gd_s hr1
              refine va_iald hx hb hG.1 hP 6 0 rfl rfl h_30 dX8_factorOf_75 ?_
              obtain ⟨h_31, hr1⟩ := gd_s hr1
              refine va_iast hx hb hG.1 hP hD hS 6 0 rfl rfl h_31 dX8_factorOf_76 (fun H locs hP hD hS => ?_)
              have hP : va_P D cls9 (wM cI ad states whyKind whyOrder u_6 u_7 textLong spot readColumns all past refused u_8 kept (upd i_26 i_25.toNatClampNeg (i_26 i_25.toNatClampNeg)) u_18 u_19 u_20 u_21 u_22 quotients text numbers entries before) H := hP
              have hD : va_D A (wM cI ad states whyKind whyOrder u_6 u_7 textLong spot readColumns all past refused u_8 kept (upd i_26 i_25.toNatClampNeg (i_26 i_25.toNatClampNeg)) u_18 u_19 u_20 u_21 u_22 quotients text numbers entries before) := hD
              refine lv_iinc (v := (i_25 + 1)) (lv' := [(6, .int (i_25 + 1)), (0, .ref (ad 0)), (1, .int a0), (3, .int a2), (4, .int a3), (5, .int r_1)]) hx hb dX8_factorOf_77 hl (k := 5) rfl rfl (by decide) rfl (fun ls hl => ?_)
              refine lv_goto (tgt := 41) hx hb dX8_factorOf_80 (by decide) ?_
              exact ih1 (i_25 + 1) (upd i_26 i_25.toNatClampNeg (i_26 i_25.toNatClampNeg)) (ht1 _ (Option.some.inj hr1).symm) H locs hP hD hS ls (lv_sub hl [1, 2, 3, 4, 5, 0] rfl)
            · have hr1 := it_t c_29 hr1
              refine lv_iload_n hx hb dX8_factorOf_65 rfl (lv_at hl 1 rfl) ?_
              refine lv_goto (tgt := 76) hx hb dX8_factorOf_66 (by decide) ?_
              obtain ⟨h_32, hr1⟩ := gd_s hr1
              refine va_iast hx hb hG.1 hP hD hS 6 0 rfl rfl h_32 dX8_factorOf_76 (fun H locs hP hD hS => ?_)
              have hP : va_P D cls9 (wM cI ad states whyKind whyOrder u_6 u_7 textLong spot readColumns all past refused u_8 kept (upd i_26 i_25.toNatClampNeg a0) u_18 u_19 u_20 u_21 u_22 quotients text numbers entries before) H := hP
              have hD : va_D A (wM cI ad states whyKind whyOrder u_6 u_7 textLong spot readColumns all past refused u_8 kept (upd i_26 i_25.toNatClampNeg a0) u_18 u_19 u_20 u_21 u_22 quotients text numbers entries before) := hD
              refine lv_iinc (v := (i_25 + 1)) (lv' := [(6, .int (i_25 + 1)), (0, .ref (ad 0)), (1, .int a0), (3, .int a2), (4, .int a3), (5, .int r_1)]) hx hb dX8_factorOf_77 hl (k := 5) rfl rfl (by decide) rfl (fun ls hl => ?_)
              refine lv_goto (tgt := 41) hx hb dX8_factorOf_80 (by decide) ?_
              exact ih1 (i_25 + 1) (upd i_26 i_25.toNatClampNeg a0) (ht1 _ (Option.some.inj hr1).symm) H locs hP hD hS ls (lv_sub hl [1, 2, 3, 4, 5, 0] rfl)
      obtain ⟨n1, hn1⟩ := Lp_s hw1
      exact hL1 n1 (0 : Int32) u_2 hn1 H locs hP hD hS ls (lv_sub hl [2, 3, 5, 6, 1, 0] rfl)
    · have hq := it_f c_17 hq
      refine lv_aload_n hx hb dX8_factorOf_25 rfl (lv_at hl 1 rfl) ?_
      refine lv_bipush (v := -3) hx hb dX8_factorOf_26 (by decide) ?_
      obtain ⟨v_47, hq_46, hk⟩ := bd2_s hq
      obtain ⟨r_44, u_45⟩ := v_47
      have hq := hk _ _ rfl
      refine callIA (gV (rest := []) ⟨hx, hb, hml, hown, hts⟩ hG hP hD 0 8 rfl rfl (mtX8_refuses l D cI cB cR ad H.size states whyKind whyOrder u_6 u_7 textLong spot readColumns all past refused u_8 kept u_2 across sum one two base quotients text numbers entries before (-3 : Int32) (r_44, u_45) hq_46) (cwV 1 hts gX8_factorOf_X8_refuses rfl rfl rfl ⟨rfl, hd_X8_refuses⟩ ⟨Nat.le_of_ble_eq_true rfl, Nat.le_of_ble_eq_true rfl⟩) rfl hl.1 rfl (Nat.le_of_ble_eq_true rfl) dX8_factorOf_28) hD hS hA (fun H locs hP hD hS => ?_)
      have hP : va_P D cls9 (wM cI ad states whyKind whyOrder u_6 u_7 textLong spot readColumns all past u_45 u_8 kept u_2 across sum one two base quotients text numbers entries before) H := hP
      have hD : va_D A (wM cI ad states whyKind whyOrder u_6 u_7 textLong spot readColumns all past u_45 u_8 kept u_2 across sum one two base quotients text numbers entries before) := hD
      have he := Option.some.inj hq
      subst he
      exact hE H locs _ _ _ rfl dX8_factorOf_31 hP hD hS
abbrev rm_X8_factor : Room := { frames := 10, cells := 0, slots := 0, locals := 240 }
theorem fX8_factor_0 : Cond.constantLong RX8 264 (24) ∈ wsX8_factor := (List.mem_cons_of_mem _ (List.mem_append_left _ (List.mem_append_left _ (List.mem_of_getElem? (i := 0) rfl))))
set_option maxHeartbeats 4000000 in
set_option maxRecDepth 100000 in
theorem mtX8_factor (l : Launch) (D : va_G) (cI cB cR : ClassId) (ad : Nat → Nat) (sz : Nat) (states : Int32) (whyKind : Int32) (whyOrder : Int32) (many : Int32) (wide : Int32) (textLong : Int32) (spot : Int32) (readColumns : Int32) (all : Nat → Int32) (past : Nat → Int32) (refused : Nat → Int32) (work : Nat → Int32) (kept : Nat → Int32) (chosen : Nat → Int32) (across : Nat → Int32) (sum : Nat → Int32) (one : Nat → Int32) (two : Nat → Int32) (base : Nat → Int32) (quotients : Nat → Int32) (text : Nat → Int32) (numbers : Nat → Int32) (entries : Nat → Int32) (before : Nat → Int32) (a0 : Int32) (a1 : Int32) (a2 : Int32) (a3 : Int32) (res : Int32 × Int32 × Int32 × (Nat → Int32) × (Nat → Int32) × (Nat → Int32) × (Nat → Int32) × (Nat → Int32) × (Nat → Int32) × (Nat → Int32) × (Nat → Int32) × (Nat → Int32)) (hf : fX8_factor many wide all refused work chosen across sum one two base quotients a0 a1 a2 a3 = some res) : Met l yX8_factor wsX8_factor rm_X8_factor (qP D cI cB cR [.ref (ad 0), .int a0, .int a1, .int a2, .int a3] (wM cI ad states whyKind whyOrder many wide textLong spot readColumns all past refused work kept chosen across sum one two base quotients text numbers entries before) sz) (qI D res.1 (wM cI ad states whyKind whyOrder many wide textLong spot readColumns all past refused work kept chosen across sum one two base quotients text numbers entries before) (wM cI ad states whyKind whyOrder res.2.1 res.2.2.1 textLong spot readColumns all past res.2.2.2.1 res.2.2.2.2.1 kept res.2.2.2.2.2.1 res.2.2.2.2.2.2.1 res.2.2.2.2.2.2.2.1 res.2.2.2.2.2.2.2.2.1 res.2.2.2.2.2.2.2.2.2.1 res.2.2.2.2.2.2.2.2.2.2.1 res.2.2.2.2.2.2.2.2.2.2.2 text numbers entries before) sz) 0 0 (va_A (wM cI ad states whyKind whyOrder many wide textLong spot readColumns all past refused work kept chosen across sum one two base quotients text numbers entries before) sz) := by
  refine entI (plainFor_of_name (by decide)) rfl (Nat.le_of_ble_eq_true rfl) ?_
  intro p e s m args below meth c Q A ls S hG hP hD hA hl hE
  obtain ⟨hx, hb, hml, hown, hts⟩ := S
  have hown : s.vm.findClass RX8 = some m.cls := hown
  have hS : va_S A s.heap s.heap [] := va_S.rf
  have hl : lv_has ls 6 [(0, .ref (ad 0)), (1, .int a0), (2, .int a1), (3, .int a2), (4, .int a3)] := hl
  have hq := hf
  unfold fX8_factor at hq
  obtain ⟨H, hH⟩ : ∃ H, H = s.heap := ⟨_, rfl⟩
  obtain ⟨locs, hlo⟩ : ∃ L : List Loc, L = [] := ⟨_, rfl⟩
  have hP : va_P D cls9 (wM cI ad states whyKind whyOrder many wide textLong spot readColumns all past refused work kept chosen across sum one two base quotients text numbers entries before) H := hH ▸ hP
  have hS : va_S A s.heap H locs := by rw [hH, hlo]; exact hS
  suffices hg : W p l e rm_X8_factor s m args below meth c H locs 0 0 Q (F0 m 0 ls []) by rw [hH, hlo] at hg; exact hg
  refine lv_aload_n hx hb dX8_factor_0 rfl (lv_at hl 0 rfl) ?_
  refine lv_iload_n hx hb dX8_factor_1 rfl (lv_at hl 1 rfl) ?_
  refine lv_iload_n hx hb dX8_factor_2 rfl (lv_at hl 2 rfl) ?_
  obtain ⟨v_3, hq_2, hk⟩ := bd1_s hq
  obtain ⟨r_1, rfl⟩ : ∃ y, y = v_3 := ⟨_, rfl⟩
  have hq := hk _ rfl
  refine callZA (gV (rest := []) ⟨hx, hb, hml, hown, hts⟩ hG hP hD 0 8 rfl rfl (mtX8_isWith l D cI cB cR ad H.size states whyKind whyOrder many wide textLong spot readColumns all past refused work kept chosen across sum one two base quotients text numbers entries before a0 a1 r_1 hq_2) (cwV 2 hts gX8_factor_X8_isWith rfl rfl rfl ⟨rfl, hd_X8_isWith⟩ ⟨Nat.le_of_ble_eq_true rfl, Nat.le_of_ble_eq_true rfl⟩) rfl hl.1 rfl (Nat.le_of_ble_eq_true rfl) dX8_factor_3) hD hS hA (fun H locs z_4 hP hD hS => ?_)
  have hP : va_P D cls9 (wM cI ad states whyKind whyOrder many wide textLong spot readColumns all past refused work kept chosen across sum one two base quotients text numbers entries before) H := hP
  have hD : va_D A (wM cI ad states whyKind whyOrder many wide textLong spot readColumns all past refused work kept chosen across sum one two base quotients text numbers entries before) := hD
  obtain ⟨v1, hj1, hk1⟩ := bd1_s hq
  have hJ1 : ∀ (j_12 : Int32), v1 = j_12 → (j_12 = 0 ∨ j_12 = 1) → ∀ (H : Heap) (locs : List Loc), va_P D cls9 (wM cI ad states whyKind whyOrder many wide textLong spot readColumns all past refused work kept chosen across sum one two base quotients text numbers entries before) H → va_D A (wM cI ad states whyKind whyOrder many wide textLong spot readColumns all past refused work kept chosen across sum one two base quotients text numbers entries before) → va_S A s.heap H locs → ∀ (ls : Array Slot), lv_has ls 6 [(0, .ref (ad 0)), (1, .int a0), (2, .int a1), (3, .int a2), (4, .int a3)] → W p l e rm_X8_factor s m args below meth c H locs 0 0 Q (F0 m 31 ls [.int j_12]) := by
    intro j_12 hq zj_12 H locs hP hD hS ls hl
    have hq := hk1 _ hq
    refine lv_istore (lv' := [(5, .int j_12), (0, .ref (ad 0)), (1, .int a0), (2, .int a1), (3, .int a2), (4, .int a3)]) hx hb dX8_factor_31 hl (by decide) rfl (fun ls hl => ?_)
    refine lv_iload hx hb dX8_factor_33 (lv_at hl 0 rfl) ?_
    refine lv_if_eq (tgt := 63) hx hb dX8_factor_35 (by decide) (fun c_13 => ?_) (fun c_13 => ?_)
    · have hq := it_t c_13 hq
      refine lv_aload_n hx hb dX8_factor_63 rfl (lv_at hl 1 rfl) ?_
      refine lv_bipush (v := -2) hx hb dX8_factor_64 (by decide) ?_
      obtain ⟨v_17, hq_16, hk⟩ := bd2_s hq
      obtain ⟨r_14, u_15⟩ := v_17
      have hq := hk _ _ rfl
      refine callIA (gV (rest := []) ⟨hx, hb, hml, hown, hts⟩ hG hP hD 0 8 rfl rfl (mtX8_refuses l D cI cB cR ad H.size states whyKind whyOrder many wide textLong spot readColumns all past refused work kept chosen across sum one two base quotients text numbers entries before (-2 : Int32) (r_14, u_15) hq_16) (cwV 1 hts gX8_factor_X8_refuses rfl rfl rfl ⟨rfl, hd_X8_refuses⟩ ⟨Nat.le_of_ble_eq_true rfl, Nat.le_of_ble_eq_true rfl⟩) rfl hl.1 rfl (Nat.le_of_ble_eq_true rfl) dX8_factor_66) hD hS hA (fun H locs hP hD hS => ?_)
      have hP : va_P D cls9 (wM cI ad states whyKind whyOrder many wide textLong spot readColumns all past u_15 work kept chosen across sum one two base quotients text numbers entries before) H := hP
      have hD : va_D A (wM cI ad states whyKind whyOrder many wide textLong spot readColumns all past u_15 work kept chosen across sum one two base quotients text numbers entries before) := hD
      have he := Option.some.inj hq
      subst he
      exact hE H locs _ _ _ rfl dX8_factor_69 hP hD hS
    · have hq := it_f c_13 hq
      refine lv_iload hx hb dX8_factor_38 (lv_at hl 5 rfl) ?_
      refine lv_i2l (v := (a3.toInt64)) hx hb dX8_factor_40 rfl ?_
      refine lv_lconst (v := 0) hx hb dX8_factor_41 (by decide) ?_
      refine lv_ldc2 (v := 24) hx hb hown (hts _ fX8_factor_0) dX8_factor_42 ?_
      refine callZ0 (gS (rest := []) ⟨hx, hb, hml, hown, hts⟩ hG vaP0 (vaD0 (A := A)) (mtX8_in l D cI cB cR H.size (a3.toInt64) (0 : Int64) (24 : Int64) _ rfl) (va_cwS 3 hts gX8_factor_X8_in rfl rfl rfl hd_X8_in ⟨Nat.le_of_ble_eq_true rfl, Nat.le_of_ble_eq_true rfl⟩) rfl hl.1 rfl (Nat.le_of_ble_eq_true rfl) dX8_factor_45) hP hS hA (fun H locs z_18 hP hS => ?_)
      refine lv_if_eq (tgt := 63) hx hb dX8_factor_48 (by decide) (fun c_19 => ?_) (fun c_19 => ?_)
      · have hq := it_t c_19 hq
        refine lv_aload_n hx hb dX8_factor_63 rfl (lv_at hl 1 rfl) ?_
        refine lv_bipush (v := -2) hx hb dX8_factor_64 (by decide) ?_
        obtain ⟨v_23, hq_22, hk⟩ := bd2_s hq
        obtain ⟨r_20, u_21⟩ := v_23
        have hq := hk _ _ rfl
        refine callIA (gV (rest := []) ⟨hx, hb, hml, hown, hts⟩ hG hP hD 0 8 rfl rfl (mtX8_refuses l D cI cB cR ad H.size states whyKind whyOrder many wide textLong spot readColumns all past refused work kept chosen across sum one two base quotients text numbers entries before (-2 : Int32) (r_20, u_21) hq_22) (cwV 1 hts gX8_factor_X8_refuses rfl rfl rfl ⟨rfl, hd_X8_refuses⟩ ⟨Nat.le_of_ble_eq_true rfl, Nat.le_of_ble_eq_true rfl⟩) rfl hl.1 rfl (Nat.le_of_ble_eq_true rfl) dX8_factor_66) hD hS hA (fun H locs hP hD hS => ?_)
        have hP : va_P D cls9 (wM cI ad states whyKind whyOrder many wide textLong spot readColumns all past u_21 work kept chosen across sum one two base quotients text numbers entries before) H := hP
        have hD : va_D A (wM cI ad states whyKind whyOrder many wide textLong spot readColumns all past u_21 work kept chosen across sum one two base quotients text numbers entries before) := hD
        have he := Option.some.inj hq
        subst he
        exact hE H locs _ _ _ rfl dX8_factor_69 hP hD hS
      · have hq := it_f c_19 hq
        refine lv_aload_n hx hb dX8_factor_51 rfl (lv_at hl 1 rfl) ?_
        refine lv_iload_n hx hb dX8_factor_52 rfl (lv_at hl 2 rfl) ?_
        refine lv_iload_n hx hb dX8_factor_53 rfl (lv_at hl 3 rfl) ?_
        refine lv_iload_n hx hb dX8_factor_54 rfl (lv_at hl 4 rfl) ?_
        refine lv_iload hx hb dX8_factor_55 (lv_at hl 5 rfl) ?_
        obtain ⟨v_37, hq_36, hk⟩ := bd12_s hq
        obtain ⟨r_24, u_25, u_26, u_27, u_28, u_29, u_30, u_31, u_32, u_33, u_34, u_35⟩ := v_37
        have hq := hk _ _ _ _ _ _ _ _ _ _ _ _ rfl
        refine callIA (gV (rest := []) ⟨hx, hb, hml, hown, hts⟩ hG hP hD 0 8 rfl rfl (mtX8_factorOf l D cI cB cR ad H.size states whyKind whyOrder many wide textLong spot readColumns all past refused work kept chosen across sum one two base quotients text numbers entries before a0 a1 a2 a3 (r_24, u_25, u_26, u_27, u_28, u_29, u_30, u_31, u_32, u_33, u_34, u_35) hq_36) (cwV 4 hts gX8_factor_X8_factorOf rfl rfl rfl ⟨rfl, hd_X8_factorOf⟩ ⟨Nat.le_of_ble_eq_true rfl, Nat.le_of_ble_eq_true rfl⟩) rfl hl.1 rfl (Nat.le_of_ble_eq_true rfl) dX8_factor_57) hD hS hA (fun H locs hP hD hS => ?_)
        have hP : va_P D cls9 (wM cI ad states whyKind whyOrder u_25 u_26 textLong spot readColumns all past u_27 u_28 kept u_29 u_30 u_31 u_32 u_33 u_34 u_35 text numbers entries before) H := hP
        have hD : va_D A (wM cI ad states whyKind whyOrder u_25 u_26 textLong spot readColumns all past u_27 u_28 kept u_29 u_30 u_31 u_32 u_33 u_34 u_35 text numbers entries before) := hD
        refine lv_goto (tgt := 69) hx hb dX8_factor_60 (by decide) ?_
        have he := Option.some.inj hq
        subst he
        exact hE H locs _ _ _ rfl dX8_factor_69 hP hD hS
  refine lv_if_eq (tgt := 30) hx hb dX8_factor_6 (by decide) (fun c_5 => ?_) (fun c_5 => ?_)
  · have hj1 := it_t c_5 hj1
    refine lv_iconst (v := 0) hx hb dX8_factor_30 (by decide) ?_
    exact hJ1 (0 : Int32) (Option.some.inj hj1).symm (Or.inl rfl) H locs hP hD hS ls (lv_sub hl [0, 1, 2, 3, 4] rfl)
  · have hj1 := it_f c_5 hj1
    refine lv_aload_n hx hb dX8_factor_9 rfl (lv_at hl 0 rfl) ?_
    refine lv_iload_n hx hb dX8_factor_10 rfl (lv_at hl 3 rfl) ?_
    obtain ⟨v_8, hq_7, hk⟩ := bd1_s hj1
    obtain ⟨r_6, rfl⟩ : ∃ y, y = v_8 := ⟨_, rfl⟩
    have hj1 := hk _ rfl
    refine callZA (gV (rest := []) ⟨hx, hb, hml, hown, hts⟩ hG hP hD 0 8 rfl rfl (mtX8_isRow l D cI cB cR ad H.size states whyKind whyOrder many wide textLong spot readColumns all past refused work kept chosen across sum one two base quotients text numbers entries before a2 r_6 hq_7) (cwV 1 hts gX8_factor_X8_isRow rfl rfl rfl ⟨rfl, hd_X8_isRow⟩ ⟨Nat.le_of_ble_eq_true rfl, Nat.le_of_ble_eq_true rfl⟩) rfl hl.1 rfl (Nat.le_of_ble_eq_true rfl) dX8_factor_11) hD hS hA (fun H locs z_9 hP hD hS => ?_)
    have hP : va_P D cls9 (wM cI ad states whyKind whyOrder many wide textLong spot readColumns all past refused work kept chosen across sum one two base quotients text numbers entries before) H := hP
    have hD : va_D A (wM cI ad states whyKind whyOrder many wide textLong spot readColumns all past refused work kept chosen across sum one two base quotients text numbers entries before) := hD
    refine lv_if_eq (tgt := 30) hx hb dX8_factor_14 (by decide) (fun c_10 => ?_) (fun c_10 => ?_)
    · have hj1 := it_t c_10 hj1
      refine lv_iconst (v := 0) hx hb dX8_factor_30 (by decide) ?_
      exact hJ1 (0 : Int32) (Option.some.inj hj1).symm (Or.inl rfl) H locs hP hD hS ls (lv_sub hl [0, 1, 2, 3, 4] rfl)
    · have hj1 := it_f c_10 hj1
      refine lv_iload_n hx hb dX8_factor_17 rfl (lv_at hl 2 rfl) ?_
      refine lv_iload_n hx hb dX8_factor_18 rfl (lv_at hl 3 rfl) ?_
      refine lv_ishr hx hb dX8_factor_19 ?_
      refine lv_iconst (v := 1) hx hb dX8_factor_20 (by decide) ?_
      refine lv_iand hx hb dX8_factor_21 ?_
      refine lv_iconst (v := 1) hx hb dX8_factor_22 (by decide) ?_
      refine lv_icmp_ne (tgt := 30) hx hb dX8_factor_23 (by decide) (fun c_11 => ?_) (fun c_11 => ?_)
      · have hj1 := it_f c_11 hj1
        refine lv_iconst (v := 0) hx hb dX8_factor_30 (by decide) ?_
        exact hJ1 (0 : Int32) (Option.some.inj hj1).symm (Or.inl rfl) H locs hP hD hS ls (lv_sub hl [0, 1, 2, 3, 4] rfl)
      · have hj1 := it_t c_11 hj1
        refine lv_iconst (v := 1) hx hb dX8_factor_26 (by decide) ?_
        refine lv_goto (tgt := 31) hx hb dX8_factor_27 (by decide) ?_
        exact hJ1 (1 : Int32) (Option.some.inj hj1).symm (Or.inr rfl) H locs hP hD hS ls (lv_sub hl [0, 1, 2, 3, 4] rfl)
abbrev rm_X8_quotientOf : Room := { frames := 6, cells := 0, slots := 0, locals := 148 }
theorem iX8_quotientOf_X8 : ∀ w ∈ wsX80, w ∈ wsX8_quotientOf := fun _ h => (List.mem_cons_of_mem _ (List.mem_append_right _ h))
theorem fX8_quotientOf_1 : Cond.fieldLink RX8 162 "PopovRowsModel" "wide" "I" ∈ wsX8_quotientOf := (List.mem_cons_of_mem _ (List.mem_append_left _ (List.mem_append_left _ (List.mem_of_getElem? (i := 0) rfl))))
theorem fX8_quotientOf_2 : Cond.fieldLink RX8 178 "PopovRowsModel" "many" "I" ∈ wsX8_quotientOf := (List.mem_cons_of_mem _ (List.mem_append_left _ (List.mem_append_left _ (List.mem_of_getElem? (i := 1) rfl))))
theorem fX8_quotientOf_3 : Cond.fieldLink RX8 23 "PopovRowsModel" "work" "[I" ∈ wsX8_quotientOf := (List.mem_cons_of_mem _ (List.mem_append_left _ (List.mem_append_left _ (List.mem_of_getElem? (i := 2) rfl))))
theorem fX8_quotientOf_4 : Cond.fieldLink RX8 7 "PopovRowsModel" "all" "[I" ∈ wsX8_quotientOf := (List.mem_cons_of_mem _ (List.mem_append_left _ (List.mem_append_left _ (List.mem_of_getElem? (i := 3) rfl))))
set_option maxHeartbeats 4000000 in
set_option maxRecDepth 100000 in
theorem mtX8_quotientOf (l : Launch) (D : va_G) (cI cB cR : ClassId) (ad : Nat → Nat) (sz : Nat) (states : Int32) (whyKind : Int32) (whyOrder : Int32) (many : Int32) (wide : Int32) (textLong : Int32) (spot : Int32) (readColumns : Int32) (all : Nat → Int32) (past : Nat → Int32) (refused : Nat → Int32) (work : Nat → Int32) (kept : Nat → Int32) (chosen : Nat → Int32) (across : Nat → Int32) (sum : Nat → Int32) (one : Nat → Int32) (two : Nat → Int32) (base : Nat → Int32) (quotients : Nat → Int32) (text : Nat → Int32) (numbers : Nat → Int32) (entries : Nat → Int32) (before : Nat → Int32) (a0 : Int32) (a1 : Int32) (a2 : Int32) (a3 : Int32) (a4 : Int32) (res : Int32 × Int32 × Int32 × (Nat → Int32)) (hf : fX8_quotientOf all work a0 a1 a2 a3 a4 = some res) : Met l yX8_quotientOf wsX8_quotientOf rm_X8_quotientOf (qP D cI cB cR [.ref (ad 0), .int a0, .int a1, .int a2, .int a3, .int a4] (wM cI ad states whyKind whyOrder many wide textLong spot readColumns all past refused work kept chosen across sum one two base quotients text numbers entries before) sz) (qI D res.1 (wM cI ad states whyKind whyOrder many wide textLong spot readColumns all past refused work kept chosen across sum one two base quotients text numbers entries before) (wM cI ad states whyKind whyOrder res.2.1 res.2.2.1 textLong spot readColumns all past refused res.2.2.2 kept chosen across sum one two base quotients text numbers entries before) sz) 0 0 (va_A (wM cI ad states whyKind whyOrder many wide textLong spot readColumns all past refused work kept chosen across sum one two base quotients text numbers entries before) sz) := by
  refine entI (plainFor_of_name (by decide)) rfl (Nat.le_of_ble_eq_true rfl) ?_
  intro p e s m args below meth c Q A ls S hG hP hD hA hl hE
  obtain ⟨hx, hb, hml, hown, hts⟩ := S
  have hown : s.vm.findClass RX8 = some m.cls := hown
  have hS : va_S A s.heap s.heap [] := va_S.rf
  have hl : lv_has ls 7 [(0, .ref (ad 0)), (1, .int a0), (2, .int a1), (3, .int a2), (4, .int a3), (5, .int a4)] := hl
  have hq := hf
  unfold fX8_quotientOf at hq
  obtain ⟨H, hH⟩ : ∃ H, H = s.heap := ⟨_, rfl⟩
  obtain ⟨locs, hlo⟩ : ∃ L : List Loc, L = [] := ⟨_, rfl⟩
  have hP : va_P D cls9 (wM cI ad states whyKind whyOrder many wide textLong spot readColumns all past refused work kept chosen across sum one two base quotients text numbers entries before) H := hH ▸ hP
  have hS : va_S A s.heap H locs := by rw [hH, hlo]; exact hS
  suffices hg : W p l e rm_X8_quotientOf s m args below meth c H locs 0 0 Q (F0 m 0 ls []) by rw [hH, hlo] at hg; exact hg
  refine lv_aload_n hx hb dX8_quotientOf_0 rfl (lv_at hl 0 rfl) ?_
  refine lv_iconst (v := 2) hx hb dX8_quotientOf_1 (by decide) ?_
  refine va_put (D := D) (ci := 8) (v := .int (2 : Int32)) (ty := .int) (C := RX8) (T := TX8) (N := 24) hx hb hts iX8_quotientOf_X8 tyX8 tyX8_ok nmX8 hown hG.1 hP hD hS 0 rfl rfl 8 (by decide) (hts _ fX8_quotientOf_1) (fun _ h9 => h9) rfl (by decide +kernel) rfl rfl (Nat.le_of_ble_eq_true rfl) dX8_quotientOf_2 (fun H locs hP hD hS => ?_)
  have hP : va_P D cls9 (wM cI ad states whyKind whyOrder many (2 : Int32) textLong spot readColumns all past refused work kept chosen across sum one two base quotients text numbers entries before) H := hP
  have hD : va_D A (wM cI ad states whyKind whyOrder many (2 : Int32) textLong spot readColumns all past refused work kept chosen across sum one two base quotients text numbers entries before) := hD
  refine lv_aload_n hx hb dX8_quotientOf_5 rfl (lv_at hl 0 rfl) ?_
  refine lv_iconst (v := 2) hx hb dX8_quotientOf_6 (by decide) ?_
  refine va_put (D := D) (ci := 8) (v := .int (2 : Int32)) (ty := .int) (C := RX8) (T := TX8) (N := 24) hx hb hts iX8_quotientOf_X8 tyX8 tyX8_ok nmX8 hown hG.1 hP hD hS 0 rfl rfl 7 (by decide) (hts _ fX8_quotientOf_2) (fun _ h9 => h9) rfl (by decide +kernel) rfl rfl (Nat.le_of_ble_eq_true rfl) dX8_quotientOf_7 (fun H locs hP hD hS => ?_)
  have hP : va_P D cls9 (wM cI ad states whyKind whyOrder (2 : Int32) (2 : Int32) textLong spot readColumns all past refused work kept chosen across sum one two base quotients text numbers entries before) H := hP
  have hD : va_D A (wM cI ad states whyKind whyOrder (2 : Int32) (2 : Int32) textLong spot readColumns all past refused work kept chosen across sum one two base quotients text numbers entries before) := hD
  refine lv_iconst (v := 0) hx hb dX8_quotientOf_10 (by decide) ?_
  refine lv_istore (lv' := [(6, .int (0 : Int32)), (0, .ref (ad 0)), (1, .int a0), (2, .int a1), (3, .int a2), (4, .int a3), (5, .int a4)]) hx hb dX8_quotientOf_11 hl (by decide) rfl (fun ls hl => ?_)
  obtain ⟨w1, hw1, hk1⟩ := bd1_s hq
  have hX1 : ∀ (x_5 : Nat → Int32), w1 = x_5 → ∀ (H : Heap) (locs : List Loc), va_P D cls9 (wM cI ad states whyKind whyOrder (2 : Int32) (2 : Int32) textLong spot readColumns all past refused x_5 kept chosen across sum one two base quotients text numbers entries before) H → va_D A (wM cI ad states whyKind whyOrder (2 : Int32) (2 : Int32) textLong spot readColumns all past refused x_5 kept chosen across sum one two base quotients text numbers entries before) → va_S A s.heap H locs → ∀ (ls : Array Slot), lv_has ls 7 [(0, .ref (ad 0)), (1, .int a0), (2, .int a1), (3, .int a2), (4, .int a3), (5, .int a4)] → W p l e rm_X8_quotientOf s m args below meth c H locs 0 0 Q (F0 m 34 ls []) := by
    intro x_5 hq H locs hP hD hS ls hl
    have hq := hk1 _ hq
    refine lv_aload_n hx hb dX8_quotientOf_34 rfl (lv_at hl 0 rfl) ?_
    refine va_get (D := D) (ci := 8) (v := .ref (ad 4)) (C := RX8) (T := TX8) (N := 24) hx hb hts iX8_quotientOf_X8 hown hG.1 hP 0 rfl rfl 6 (by decide) (hts _ fX8_quotientOf_3) (fun _ h9 => h9) rfl dX8_quotientOf_35 ?_
    refine lv_iconst (v := 0) hx hb dX8_quotientOf_38 (by decide) ?_
    refine lv_iconst (v := 0) hx hb dX8_quotientOf_39 (by decide) ?_
    refine lv_iload_n hx hb dX8_quotientOf_40 rfl (lv_at hl 3 rfl) ?_
    refine callI0 (gS (rest := [.ref (ad 4)]) ⟨hx, hb, hml, hown, hts⟩ hG vaP0 (vaD0 (A := A)) (mtX8_cell l D cI cB cR H.size (0 : Int32) (0 : Int32) a2 _ rfl) (va_cwS 3 hts gX8_quotientOf_X8_cell rfl rfl rfl hd_X8_cell ⟨Nat.le_of_ble_eq_true rfl, Nat.le_of_ble_eq_true rfl⟩) rfl hl.1 rfl (Nat.le_of_ble_eq_true rfl) dX8_quotientOf_41) hP hS hA (fun H locs hP hS => ?_)
    refine lv_iconst (v := 1) hx hb dX8_quotientOf_44 (by decide) ?_
    obtain ⟨h_6, hq⟩ := gd_s hq
    refine va_iast hx hb hG.1 hP hD hS 4 0 rfl rfl h_6 dX8_quotientOf_45 (fun H locs hP hD hS => ?_)
    have hP : va_P D cls9 (wM cI ad states whyKind whyOrder (2 : Int32) (2 : Int32) textLong spot readColumns all past refused (upd x_5 (fX8_cell (0 : Int32) (0 : Int32) a2).toNatClampNeg (1 : Int32)) kept chosen across sum one two base quotients text numbers entries before) H := hP
    have hD : va_D A (wM cI ad states whyKind whyOrder (2 : Int32) (2 : Int32) textLong spot readColumns all past refused (upd x_5 (fX8_cell (0 : Int32) (0 : Int32) a2).toNatClampNeg (1 : Int32)) kept chosen across sum one two base quotients text numbers entries before) := hD
    refine lv_iconst (v := 0) hx hb dX8_quotientOf_46 (by decide) ?_
    refine lv_istore (lv' := [(6, .int (0 : Int32)), (0, .ref (ad 0)), (1, .int a0), (2, .int a1), (3, .int a2), (4, .int a3), (5, .int a4)]) hx hb dX8_quotientOf_47 hl (by decide) rfl (fun ls hl => ?_)
    obtain ⟨w2, hw2, hk2⟩ := bd1_s hq
    have hX2 : ∀ (x_12 : Nat → Int32), w2 = x_12 → ∀ (H : Heap) (locs : List Loc), va_P D cls9 (wM cI ad states whyKind whyOrder (2 : Int32) (2 : Int32) textLong spot readColumns all past refused x_12 kept chosen across sum one two base quotients text numbers entries before) H → va_D A (wM cI ad states whyKind whyOrder (2 : Int32) (2 : Int32) textLong spot readColumns all past refused x_12 kept chosen across sum one two base quotients text numbers entries before) → va_S A s.heap H locs → ∀ (ls : Array Slot), lv_has ls 7 [(0, .ref (ad 0)), (4, .int a3), (5, .int a4)] → W p l e rm_X8_quotientOf s m args below meth c H locs 0 0 Q (F0 m 86 ls []) := by
      intro x_12 hq H locs hP hD hS ls hl
      have hq := hk2 _ hq
      refine lv_aload_n hx hb dX8_quotientOf_86 rfl (lv_at hl 0 rfl) ?_
      refine va_get (D := D) (ci := 8) (v := .ref (ad 4)) (C := RX8) (T := TX8) (N := 24) hx hb hts iX8_quotientOf_X8 hown hG.1 hP 0 rfl rfl 6 (by decide) (hts _ fX8_quotientOf_3) (fun _ h9 => h9) rfl dX8_quotientOf_87 ?_
      refine lv_iconst (v := 1) hx hb dX8_quotientOf_90 (by decide) ?_
      refine lv_iconst (v := 1) hx hb dX8_quotientOf_91 (by decide) ?_
      refine lv_iconst (v := 0) hx hb dX8_quotientOf_92 (by decide) ?_
      refine callI0 (gS (rest := [.ref (ad 4)]) ⟨hx, hb, hml, hown, hts⟩ hG vaP0 (vaD0 (A := A)) (mtX8_cell l D cI cB cR H.size (1 : Int32) (1 : Int32) (0 : Int32) _ rfl) (va_cwS 3 hts gX8_quotientOf_X8_cell rfl rfl rfl hd_X8_cell ⟨Nat.le_of_ble_eq_true rfl, Nat.le_of_ble_eq_true rfl⟩) rfl hl.1 rfl (Nat.le_of_ble_eq_true rfl) dX8_quotientOf_93) hP hS hA (fun H locs hP hS => ?_)
      refine lv_iconst (v := 1) hx hb dX8_quotientOf_96 (by decide) ?_
      obtain ⟨h_13, hq⟩ := gd_s hq
      refine va_iast hx hb hG.1 hP hD hS 4 0 rfl rfl h_13 dX8_quotientOf_97 (fun H locs hP hD hS => ?_)
      have hP : va_P D cls9 (wM cI ad states whyKind whyOrder (2 : Int32) (2 : Int32) textLong spot readColumns all past refused (upd x_12 (fX8_cell (1 : Int32) (1 : Int32) (0 : Int32)).toNatClampNeg (1 : Int32)) kept chosen across sum one two base quotients text numbers entries before) H := hP
      have hD : va_D A (wM cI ad states whyKind whyOrder (2 : Int32) (2 : Int32) textLong spot readColumns all past refused (upd x_12 (fX8_cell (1 : Int32) (1 : Int32) (0 : Int32)).toNatClampNeg (1 : Int32)) kept chosen across sum one two base quotients text numbers entries before) := hD
      refine lv_aload_n hx hb dX8_quotientOf_98 rfl (lv_at hl 0 rfl) ?_
      obtain ⟨v_17, hq_16, hk⟩ := bd2_s hq
      obtain ⟨u_14, u_15⟩ := v_17
      have hq := hk _ _ rfl
      refine callVA (gV (rest := []) ⟨hx, hb, hml, hown, hts⟩ hG hP hD 0 8 rfl rfl (mtX8_forms l D cI cB cR ad H.size states whyKind whyOrder (2 : Int32) (2 : Int32) textLong spot readColumns all past refused (upd x_12 (fX8_cell (1 : Int32) (1 : Int32) (0 : Int32)).toNatClampNeg (1 : Int32)) kept chosen across sum one two base quotients text numbers entries before (u_14, u_15) hq_16) (cwV 0 hts gX8_quotientOf_X8_forms rfl rfl rfl ⟨rfl, hd_X8_forms⟩ ⟨Nat.le_of_ble_eq_true rfl, Nat.le_of_ble_eq_true rfl⟩) rfl hl.1 rfl (Nat.le_of_ble_eq_true rfl) dX8_quotientOf_99) hD hS hA (fun H locs hP hD hS => ?_)
      have hP : va_P D cls9 (wM cI ad states whyKind whyOrder u_14 (2 : Int32) textLong spot readColumns all past refused u_15 kept chosen across sum one two base quotients text numbers entries before) H := hP
      have hD : va_D A (wM cI ad states whyKind whyOrder u_14 (2 : Int32) textLong spot readColumns all past refused u_15 kept chosen across sum one two base quotients text numbers entries before) := hD
      refine lv_aload_n hx hb dX8_quotientOf_102 rfl (lv_at hl 0 rfl) ?_
      refine va_get (D := D) (ci := 8) (v := .ref (ad 4)) (C := RX8) (T := TX8) (N := 24) hx hb hts iX8_quotientOf_X8 hown hG.1 hP 0 rfl rfl 6 (by decide) (hts _ fX8_quotientOf_3) (fun _ h9 => h9) rfl dX8_quotientOf_103 ?_
      refine lv_iconst (v := 0) hx hb dX8_quotientOf_106 (by decide) ?_
      refine lv_iload hx hb dX8_quotientOf_107 (lv_at hl 1 rfl) ?_
      refine lv_iload hx hb dX8_quotientOf_109 (lv_at hl 2 rfl) ?_
      refine callI0 (gS (rest := [.ref (ad 4)]) ⟨hx, hb, hml, hown, hts⟩ hG vaP0 (vaD0 (A := A)) (mtX8_cell l D cI cB cR H.size (0 : Int32) a3 a4 _ rfl) (va_cwS 3 hts gX8_quotientOf_X8_cell rfl rfl rfl hd_X8_cell ⟨Nat.le_of_ble_eq_true rfl, Nat.le_of_ble_eq_true rfl⟩) rfl hl.1 rfl (Nat.le_of_ble_eq_true rfl) dX8_quotientOf_111) hP hS hA (fun H locs hP hS => ?_)
      obtain ⟨h_18, hq⟩ := gd_s hq
      refine va_iald hx hb hG.1 hP 4 0 rfl rfl h_18 dX8_quotientOf_114 ?_
      have he := Option.some.inj hq
      subst he
      exact hE H locs _ _ _ rfl dX8_quotientOf_115 hP hD hS
    have hL2 : ∀ (n : Nat) (i_7 : Int32) (i_8 : Nat → Int32), lrun (fun (z : Int32 × (Nat → Int32)) => fX8_quotientOf_s49 all a0 a1 z.1 z.2) n (i_7, i_8) = some w2 → ∀ (H : Heap) (locs : List Loc), va_P D cls9 (wM cI ad states whyKind whyOrder (2 : Int32) (2 : Int32) textLong spot readColumns all past refused i_8 kept chosen across sum one two base quotients text numbers entries before) H → va_D A (wM cI ad states whyKind whyOrder (2 : Int32) (2 : Int32) textLong spot readColumns all past refused i_8 kept chosen across sum one two base quotients text numbers entries before) → va_S A s.heap H locs → ∀ (ls : Array Slot), lv_has ls 7 [(0, .ref (ad 0)), (1, .int a0), (2, .int a1), (4, .int a3), (5, .int a4), (6, .int i_7)] → W p l e rm_X8_quotientOf s m args below meth c H locs 0 0 Q (F0 m 49 ls []) := by
      intro n
      induction n with
      | zero => intro i_7 i_8 h; cases h
      | succ n ih2 =>
        intro i_7 i_8 hr2 H locs hP hD hS ls hl
        obtain ⟨k, v2, hk, hr2, ht2, hv2⟩ := lrun_s hr2
        cases hk
        have hr2 : fX8_quotientOf_s49 all a0 a1 i_7 i_8 = some v2 := hr2
        unfold fX8_quotientOf_s49 at hr2
        refine lv_iload hx hb dX8_quotientOf_49 (lv_at hl 5 rfl) ?_
        refine lv_bipush (v := 7) hx hb dX8_quotientOf_51 (by decide) ?_
        refine lv_icmp_ge (tgt := 86) hx hb dX8_quotientOf_53 (by decide) (fun c_9 => ?_) (fun c_9 => ?_)
        · have hr2 := it_t c_9 hr2
          exact hX2 i_8 (hv2 _ (Option.some.inj hr2).symm).symm H locs hP hD hS ls (lv_sub hl [0, 3, 4] rfl)
        · have hr2 := it_f c_9 hr2
          refine lv_aload_n hx hb dX8_quotientOf_56 rfl (lv_at hl 0 rfl) ?_
          refine va_get (D := D) (ci := 8) (v := .ref (ad 4)) (C := RX8) (T := TX8) (N := 24) hx hb hts iX8_quotientOf_X8 hown hG.1 hP 0 rfl rfl 6 (by decide) (hts _ fX8_quotientOf_3) (fun _ h9 => h9) rfl dX8_quotientOf_57 ?_
          refine lv_iconst (v := 1) hx hb dX8_quotientOf_60 (by decide) ?_
          refine lv_iconst (v := 0) hx hb dX8_quotientOf_61 (by decide) ?_
          refine lv_iload hx hb dX8_quotientOf_62 (lv_at hl 5 rfl) ?_
          refine callI0 (gS (rest := [.ref (ad 4)]) ⟨hx, hb, hml, hown, hts⟩ hG vaP0 (vaD0 (A := A)) (mtX8_cell l D cI cB cR H.size (1 : Int32) (0 : Int32) i_7 _ rfl) (va_cwS 3 hts gX8_quotientOf_X8_cell rfl rfl rfl hd_X8_cell ⟨Nat.le_of_ble_eq_true rfl, Nat.le_of_ble_eq_true rfl⟩) rfl hl.1 rfl (Nat.le_of_ble_eq_true rfl) dX8_quotientOf_64) hP hS hA (fun H locs hP hS => ?_)
          refine lv_aload_n hx hb dX8_quotientOf_67 rfl (lv_at hl 0 rfl) ?_
          refine va_get (D := D) (ci := 8) (v := .ref (ad 1)) (C := RX8) (T := TX8) (N := 24) hx hb hts iX8_quotientOf_X8 hown hG.1 hP 0 rfl rfl 0 (by decide) (hts _ fX8_quotientOf_4) (fun _ h9 => h9) rfl dX8_quotientOf_68 ?_
          refine lv_iload_n hx hb dX8_quotientOf_71 rfl (lv_at hl 1 rfl) ?_
          refine lv_iload_n hx hb dX8_quotientOf_72 rfl (lv_at hl 2 rfl) ?_
          refine lv_iload hx hb dX8_quotientOf_73 (lv_at hl 5 rfl) ?_
          refine callI0 (gS (rest := [.ref (ad 1), .int (fX8_cell (1 : Int32) (0 : Int32) i_7), .ref (ad 4)]) ⟨hx, hb, hml, hown, hts⟩ hG vaP0 (vaD0 (A := A)) (mtX8_place l D cI cB cR H.size a0 a1 i_7 _ rfl) (va_cwS 3 hts gX8_quotientOf_X8_place rfl rfl rfl hd_X8_place ⟨Nat.le_of_ble_eq_true rfl, Nat.le_of_ble_eq_true rfl⟩) rfl hl.1 rfl (Nat.le_of_ble_eq_true rfl) dX8_quotientOf_75) hP hS hA (fun H locs hP hS => ?_)
          obtain ⟨h_10, hr2⟩ := gd_s hr2
          refine va_iald hx hb hG.1 hP 1 0 rfl rfl h_10 dX8_quotientOf_78 ?_
          obtain ⟨h_11, hr2⟩ := gd_s hr2
          refine va_iast hx hb hG.1 hP hD hS 4 0 rfl rfl h_11 dX8_quotientOf_79 (fun H locs hP hD hS => ?_)
          have hP : va_P D cls9 (wM cI ad states whyKind whyOrder (2 : Int32) (2 : Int32) textLong spot readColumns all past refused (upd i_8 (fX8_cell (1 : Int32) (0 : Int32) i_7).toNatClampNeg (all (fX8_place a0 a1 i_7).toNatClampNeg)) kept chosen across sum one two base quotients text numbers entries before) H := hP
          have hD : va_D A (wM cI ad states whyKind whyOrder (2 : Int32) (2 : Int32) textLong spot readColumns all past refused (upd i_8 (fX8_cell (1 : Int32) (0 : Int32) i_7).toNatClampNeg (all (fX8_place a0 a1 i_7).toNatClampNeg)) kept chosen across sum one two base quotients text numbers entries before) := hD
          refine lv_iinc (v := (i_7 + 1)) (lv' := [(6, .int (i_7 + 1)), (0, .ref (ad 0)), (1, .int a0), (2, .int a1), (4, .int a3), (5, .int a4)]) hx hb dX8_quotientOf_80 hl (k := 5) rfl rfl (by decide) rfl (fun ls hl => ?_)
          refine lv_goto (tgt := 49) hx hb dX8_quotientOf_83 (by decide) ?_
          exact ih2 (i_7 + 1) (upd i_8 (fX8_cell (1 : Int32) (0 : Int32) i_7).toNatClampNeg (all (fX8_place a0 a1 i_7).toNatClampNeg)) (ht2 _ (Option.some.inj hr2).symm) H locs hP hD hS ls (lv_sub hl [1, 2, 3, 4, 5, 0] rfl)
    obtain ⟨n2, hn2⟩ := Lp_s hw2
    exact hL2 n2 (0 : Int32) (upd x_5 (fX8_cell (0 : Int32) (0 : Int32) a2).toNatClampNeg (1 : Int32)) hn2 H locs hP hD hS ls (lv_sub hl [1, 2, 3, 5, 6, 0] rfl)
  have hL1 : ∀ (n : Nat) (i_1 : Int32) (i_2 : Nat → Int32), lrun (fun (z : Int32 × (Nat → Int32)) => fX8_quotientOf_s13 z.1 z.2) n (i_1, i_2) = some w1 → ∀ (H : Heap) (locs : List Loc), va_P D cls9 (wM cI ad states whyKind whyOrder (2 : Int32) (2 : Int32) textLong spot readColumns all past refused i_2 kept chosen across sum one two base quotients text numbers entries before) H → va_D A (wM cI ad states whyKind whyOrder (2 : Int32) (2 : Int32) textLong spot readColumns all past refused i_2 kept chosen across sum one two base quotients text numbers entries before) → va_S A s.heap H locs → ∀ (ls : Array Slot), lv_has ls 7 [(0, .ref (ad 0)), (1, .int a0), (2, .int a1), (3, .int a2), (4, .int a3), (5, .int a4), (6, .int i_1)] → W p l e rm_X8_quotientOf s m args below meth c H locs 0 0 Q (F0 m 13 ls []) := by
    intro n
    induction n with
    | zero => intro i_1 i_2 h; cases h
    | succ n ih1 =>
      intro i_1 i_2 hr1 H locs hP hD hS ls hl
      obtain ⟨k, v1, hk, hr1, ht1, hv1⟩ := lrun_s hr1
      cases hk
      have hr1 : fX8_quotientOf_s13 i_1 i_2 = some v1 := hr1
      unfold fX8_quotientOf_s13 at hr1
      refine lv_iload hx hb dX8_quotientOf_13 (lv_at hl 6 rfl) ?_
      refine lv_bipush (v := 48) hx hb dX8_quotientOf_15 (by decide) ?_
      refine lv_icmp_ge (tgt := 34) hx hb dX8_quotientOf_17 (by decide) (fun c_3 => ?_) (fun c_3 => ?_)
      · have hr1 := it_t c_3 hr1
        exact hX1 i_2 (hv1 _ (Option.some.inj hr1).symm).symm H locs hP hD hS ls (lv_sub hl [0, 1, 2, 3, 4, 5] rfl)
      · have hr1 := it_f c_3 hr1
        refine lv_aload_n hx hb dX8_quotientOf_20 rfl (lv_at hl 0 rfl) ?_
        refine va_get (D := D) (ci := 8) (v := .ref (ad 4)) (C := RX8) (T := TX8) (N := 24) hx hb hts iX8_quotientOf_X8 hown hG.1 hP 0 rfl rfl 6 (by decide) (hts _ fX8_quotientOf_3) (fun _ h9 => h9) rfl dX8_quotientOf_21 ?_
        refine lv_iload hx hb dX8_quotientOf_24 (lv_at hl 6 rfl) ?_
        refine lv_iconst (v := 0) hx hb dX8_quotientOf_26 (by decide) ?_
        obtain ⟨h_4, hr1⟩ := gd_s hr1
        refine va_iast hx hb hG.1 hP hD hS 4 0 rfl rfl h_4 dX8_quotientOf_27 (fun H locs hP hD hS => ?_)
        have hP : va_P D cls9 (wM cI ad states whyKind whyOrder (2 : Int32) (2 : Int32) textLong spot readColumns all past refused (upd i_2 i_1.toNatClampNeg (0 : Int32)) kept chosen across sum one two base quotients text numbers entries before) H := hP
        have hD : va_D A (wM cI ad states whyKind whyOrder (2 : Int32) (2 : Int32) textLong spot readColumns all past refused (upd i_2 i_1.toNatClampNeg (0 : Int32)) kept chosen across sum one two base quotients text numbers entries before) := hD
        refine lv_iinc (v := (i_1 + 1)) (lv' := [(6, .int (i_1 + 1)), (0, .ref (ad 0)), (1, .int a0), (2, .int a1), (3, .int a2), (4, .int a3), (5, .int a4)]) hx hb dX8_quotientOf_28 hl (k := 6) rfl rfl (by decide) rfl (fun ls hl => ?_)
        refine lv_goto (tgt := 13) hx hb dX8_quotientOf_31 (by decide) ?_
        exact ih1 (i_1 + 1) (upd i_2 i_1.toNatClampNeg (0 : Int32)) (ht1 _ (Option.some.inj hr1).symm) H locs hP hD hS ls (lv_sub hl [1, 2, 3, 4, 5, 6, 0] rfl)
  obtain ⟨n1, hn1⟩ := Lp_s hw1
  exact hL1 n1 (0 : Int32) work hn1 H locs hP hD hS ls (lv_sub hl [1, 2, 3, 4, 5, 6, 0] rfl)
abbrev rm_X8_quotient : Room := { frames := 7, cells := 0, slots := 0, locals := 174 }
theorem fX8_quotient_0 : Cond.constantLong RX8 269 (7) ∈ wsX8_quotient := (List.mem_cons_of_mem _ (List.mem_append_left _ (List.mem_append_left _ (List.mem_of_getElem? (i := 0) rfl))))
set_option maxHeartbeats 4000000 in
set_option maxRecDepth 100000 in
theorem mtX8_quotient (l : Launch) (D : va_G) (cI cB cR : ClassId) (ad : Nat → Nat) (sz : Nat) (states : Int32) (whyKind : Int32) (whyOrder : Int32) (many : Int32) (wide : Int32) (textLong : Int32) (spot : Int32) (readColumns : Int32) (all : Nat → Int32) (past : Nat → Int32) (refused : Nat → Int32) (work : Nat → Int32) (kept : Nat → Int32) (chosen : Nat → Int32) (across : Nat → Int32) (sum : Nat → Int32) (one : Nat → Int32) (two : Nat → Int32) (base : Nat → Int32) (quotients : Nat → Int32) (text : Nat → Int32) (numbers : Nat → Int32) (entries : Nat → Int32) (before : Nat → Int32) (a0 : Int32) (a1 : Int32) (a2 : Int32) (a3 : Int32) (a4 : Int32) (res : Int32 × Int32 × Int32 × (Nat → Int32) × (Nat → Int32)) (hf : fX8_quotient many wide all refused work a0 a1 a2 a3 a4 = some res) : Met l yX8_quotient wsX8_quotient rm_X8_quotient (qP D cI cB cR [.ref (ad 0), .int a0, .int a1, .int a2, .int a3, .int a4] (wM cI ad states whyKind whyOrder many wide textLong spot readColumns all past refused work kept chosen across sum one two base quotients text numbers entries before) sz) (qI D res.1 (wM cI ad states whyKind whyOrder many wide textLong spot readColumns all past refused work kept chosen across sum one two base quotients text numbers entries before) (wM cI ad states whyKind whyOrder res.2.1 res.2.2.1 textLong spot readColumns all past res.2.2.2.1 res.2.2.2.2 kept chosen across sum one two base quotients text numbers entries before) sz) 0 0 (va_A (wM cI ad states whyKind whyOrder many wide textLong spot readColumns all past refused work kept chosen across sum one two base quotients text numbers entries before) sz) := by
  refine entI (plainFor_of_name (by decide)) rfl (Nat.le_of_ble_eq_true rfl) ?_
  intro p e s m args below meth c Q A ls S hG hP hD hA hl hE
  obtain ⟨hx, hb, hml, hown, hts⟩ := S
  have hown : s.vm.findClass RX8 = some m.cls := hown
  have hS : va_S A s.heap s.heap [] := va_S.rf
  have hl : lv_has ls 7 [(0, .ref (ad 0)), (1, .int a0), (2, .int a1), (3, .int a2), (4, .int a3), (5, .int a4)] := hl
  have hq := hf
  unfold fX8_quotient at hq
  obtain ⟨H, hH⟩ : ∃ H, H = s.heap := ⟨_, rfl⟩
  obtain ⟨locs, hlo⟩ : ∃ L : List Loc, L = [] := ⟨_, rfl⟩
  have hP : va_P D cls9 (wM cI ad states whyKind whyOrder many wide textLong spot readColumns all past refused work kept chosen across sum one two base quotients text numbers entries before) H := hH ▸ hP
  have hS : va_S A s.heap H locs := by rw [hH, hlo]; exact hS
  suffices hg : W p l e rm_X8_quotient s m args below meth c H locs 0 0 Q (F0 m 0 ls []) by rw [hH, hlo] at hg; exact hg
  refine lv_aload_n hx hb dX8_quotient_0 rfl (lv_at hl 0 rfl) ?_
  refine lv_iload_n hx hb dX8_quotient_1 rfl (lv_at hl 1 rfl) ?_
  obtain ⟨v_3, hq_2, hk⟩ := bd1_s hq
  obtain ⟨r_1, rfl⟩ : ∃ y, y = v_3 := ⟨_, rfl⟩
  have hq := hk _ rfl
  refine callZA (gV (rest := []) ⟨hx, hb, hml, hown, hts⟩ hG hP hD 0 8 rfl rfl (mtX8_isRow l D cI cB cR ad H.size states whyKind whyOrder many wide textLong spot readColumns all past refused work kept chosen across sum one two base quotients text numbers entries before a0 r_1 hq_2) (cwV 1 hts gX8_quotient_X8_isRow rfl rfl rfl ⟨rfl, hd_X8_isRow⟩ ⟨Nat.le_of_ble_eq_true rfl, Nat.le_of_ble_eq_true rfl⟩) rfl hl.1 rfl (Nat.le_of_ble_eq_true rfl) dX8_quotient_2) hD hS hA (fun H locs z_4 hP hD hS => ?_)
  have hP : va_P D cls9 (wM cI ad states whyKind whyOrder many wide textLong spot readColumns all past refused work kept chosen across sum one two base quotients text numbers entries before) H := hP
  have hD : va_D A (wM cI ad states whyKind whyOrder many wide textLong spot readColumns all past refused work kept chosen across sum one two base quotients text numbers entries before) := hD
  obtain ⟨v1, hj1, hk1⟩ := bd1_s hq
  have hJ1 : ∀ (j_15 : Int32), v1 = j_15 → (j_15 = 0 ∨ j_15 = 1) → ∀ (H : Heap) (locs : List Loc), va_P D cls9 (wM cI ad states whyKind whyOrder many wide textLong spot readColumns all past refused work kept chosen across sum one two base quotients text numbers entries before) H → va_D A (wM cI ad states whyKind whyOrder many wide textLong spot readColumns all past refused work kept chosen across sum one two base quotients text numbers entries before) → va_S A s.heap H locs → ∀ (ls : Array Slot), lv_has ls 7 [(0, .ref (ad 0)), (1, .int a0), (2, .int a1), (3, .int a2), (4, .int a3), (5, .int a4)] → W p l e rm_X8_quotient s m args below meth c H locs 0 0 Q (F0 m 44 ls [.int j_15]) := by
    intro j_15 hq zj_15 H locs hP hD hS ls hl
    have hq := hk1 _ hq
    refine lv_istore (lv' := [(6, .int j_15), (0, .ref (ad 0)), (1, .int a0), (2, .int a1), (3, .int a2), (4, .int a3), (5, .int a4)]) hx hb dX8_quotient_44 hl (by decide) rfl (fun ls hl => ?_)
    refine lv_iload hx hb dX8_quotient_46 (lv_at hl 0 rfl) ?_
    refine lv_if_eq (tgt := 78) hx hb dX8_quotient_48 (by decide) (fun c_16 => ?_) (fun c_16 => ?_)
    · have hq := it_t c_16 hq
      refine lv_aload_n hx hb dX8_quotient_78 rfl (lv_at hl 1 rfl) ?_
      refine lv_bipush (v := -2) hx hb dX8_quotient_79 (by decide) ?_
      obtain ⟨v_20, hq_19, hk⟩ := bd2_s hq
      obtain ⟨r_17, u_18⟩ := v_20
      have hq := hk _ _ rfl
      refine callIA (gV (rest := []) ⟨hx, hb, hml, hown, hts⟩ hG hP hD 0 8 rfl rfl (mtX8_refuses l D cI cB cR ad H.size states whyKind whyOrder many wide textLong spot readColumns all past refused work kept chosen across sum one two base quotients text numbers entries before (-2 : Int32) (r_17, u_18) hq_19) (cwV 1 hts gX8_quotient_X8_refuses rfl rfl rfl ⟨rfl, hd_X8_refuses⟩ ⟨Nat.le_of_ble_eq_true rfl, Nat.le_of_ble_eq_true rfl⟩) rfl hl.1 rfl (Nat.le_of_ble_eq_true rfl) dX8_quotient_81) hD hS hA (fun H locs hP hD hS => ?_)
      have hP : va_P D cls9 (wM cI ad states whyKind whyOrder many wide textLong spot readColumns all past u_18 work kept chosen across sum one two base quotients text numbers entries before) H := hP
      have hD : va_D A (wM cI ad states whyKind whyOrder many wide textLong spot readColumns all past u_18 work kept chosen across sum one two base quotients text numbers entries before) := hD
      have he := Option.some.inj hq
      subst he
      exact hE H locs _ _ _ rfl dX8_quotient_84 hP hD hS
    · have hq := it_f c_16 hq
      refine lv_iload hx hb dX8_quotient_51 (lv_at hl 6 rfl) ?_
      refine lv_i2l (v := (a4.toInt64)) hx hb dX8_quotient_53 rfl ?_
      refine lv_lconst (v := 0) hx hb dX8_quotient_54 (by decide) ?_
      refine lv_ldc2 (v := 7) hx hb hown (hts _ fX8_quotient_0) dX8_quotient_55 ?_
      refine callZ0 (gS (rest := []) ⟨hx, hb, hml, hown, hts⟩ hG vaP0 (vaD0 (A := A)) (mtX8_in l D cI cB cR H.size (a4.toInt64) (0 : Int64) (7 : Int64) _ rfl) (va_cwS 3 hts gX8_quotient_X8_in rfl rfl rfl hd_X8_in ⟨Nat.le_of_ble_eq_true rfl, Nat.le_of_ble_eq_true rfl⟩) rfl hl.1 rfl (Nat.le_of_ble_eq_true rfl) dX8_quotient_58) hP hS hA (fun H locs z_21 hP hS => ?_)
      refine lv_if_eq (tgt := 78) hx hb dX8_quotient_61 (by decide) (fun c_22 => ?_) (fun c_22 => ?_)
      · have hq := it_t c_22 hq
        refine lv_aload_n hx hb dX8_quotient_78 rfl (lv_at hl 1 rfl) ?_
        refine lv_bipush (v := -2) hx hb dX8_quotient_79 (by decide) ?_
        obtain ⟨v_26, hq_25, hk⟩ := bd2_s hq
        obtain ⟨r_23, u_24⟩ := v_26
        have hq := hk _ _ rfl
        refine callIA (gV (rest := []) ⟨hx, hb, hml, hown, hts⟩ hG hP hD 0 8 rfl rfl (mtX8_refuses l D cI cB cR ad H.size states whyKind whyOrder many wide textLong spot readColumns all past refused work kept chosen across sum one two base quotients text numbers entries before (-2 : Int32) (r_23, u_24) hq_25) (cwV 1 hts gX8_quotient_X8_refuses rfl rfl rfl ⟨rfl, hd_X8_refuses⟩ ⟨Nat.le_of_ble_eq_true rfl, Nat.le_of_ble_eq_true rfl⟩) rfl hl.1 rfl (Nat.le_of_ble_eq_true rfl) dX8_quotient_81) hD hS hA (fun H locs hP hD hS => ?_)
        have hP : va_P D cls9 (wM cI ad states whyKind whyOrder many wide textLong spot readColumns all past u_24 work kept chosen across sum one two base quotients text numbers entries before) H := hP
        have hD : va_D A (wM cI ad states whyKind whyOrder many wide textLong spot readColumns all past u_24 work kept chosen across sum one two base quotients text numbers entries before) := hD
        have he := Option.some.inj hq
        subst he
        exact hE H locs _ _ _ rfl dX8_quotient_84 hP hD hS
      · have hq := it_f c_22 hq
        refine lv_aload_n hx hb dX8_quotient_64 rfl (lv_at hl 1 rfl) ?_
        refine lv_iload_n hx hb dX8_quotient_65 rfl (lv_at hl 2 rfl) ?_
        refine lv_iload_n hx hb dX8_quotient_66 rfl (lv_at hl 3 rfl) ?_
        refine lv_iload_n hx hb dX8_quotient_67 rfl (lv_at hl 4 rfl) ?_
        refine lv_iload hx hb dX8_quotient_68 (lv_at hl 5 rfl) ?_
        refine lv_iload hx hb dX8_quotient_70 (lv_at hl 6 rfl) ?_
        obtain ⟨v_32, hq_31, hk⟩ := bd4_s hq
        obtain ⟨r_27, u_28, u_29, u_30⟩ := v_32
        have hq := hk _ _ _ _ rfl
        refine callIA (gV (rest := []) ⟨hx, hb, hml, hown, hts⟩ hG hP hD 0 8 rfl rfl (mtX8_quotientOf l D cI cB cR ad H.size states whyKind whyOrder many wide textLong spot readColumns all past refused work kept chosen across sum one two base quotients text numbers entries before a0 a1 a2 a3 a4 (r_27, u_28, u_29, u_30) hq_31) (cwV 5 hts gX8_quotient_X8_quotientOf rfl rfl rfl ⟨rfl, hd_X8_quotientOf⟩ ⟨Nat.le_of_ble_eq_true rfl, Nat.le_of_ble_eq_true rfl⟩) rfl hl.1 rfl (Nat.le_of_ble_eq_true rfl) dX8_quotient_72) hD hS hA (fun H locs hP hD hS => ?_)
        have hP : va_P D cls9 (wM cI ad states whyKind whyOrder u_28 u_29 textLong spot readColumns all past refused u_30 kept chosen across sum one two base quotients text numbers entries before) H := hP
        have hD : va_D A (wM cI ad states whyKind whyOrder u_28 u_29 textLong spot readColumns all past refused u_30 kept chosen across sum one two base quotients text numbers entries before) := hD
        refine lv_goto (tgt := 84) hx hb dX8_quotient_75 (by decide) ?_
        have he := Option.some.inj hq
        subst he
        exact hE H locs _ _ _ rfl dX8_quotient_84 hP hD hS
  refine lv_if_eq (tgt := 43) hx hb dX8_quotient_5 (by decide) (fun c_5 => ?_) (fun c_5 => ?_)
  · have hj1 := it_t c_5 hj1
    refine lv_iconst (v := 0) hx hb dX8_quotient_43 (by decide) ?_
    exact hJ1 (0 : Int32) (Option.some.inj hj1).symm (Or.inl rfl) H locs hP hD hS ls (lv_sub hl [0, 1, 2, 3, 4, 5] rfl)
  · have hj1 := it_f c_5 hj1
    refine lv_aload_n hx hb dX8_quotient_8 rfl (lv_at hl 0 rfl) ?_
    refine lv_iload_n hx hb dX8_quotient_9 rfl (lv_at hl 2 rfl) ?_
    obtain ⟨v_8, hq_7, hk⟩ := bd1_s hj1
    obtain ⟨r_6, rfl⟩ : ∃ y, y = v_8 := ⟨_, rfl⟩
    have hj1 := hk _ rfl
    refine callZA (gV (rest := []) ⟨hx, hb, hml, hown, hts⟩ hG hP hD 0 8 rfl rfl (mtX8_isColumn l D cI cB cR ad H.size states whyKind whyOrder many wide textLong spot readColumns all past refused work kept chosen across sum one two base quotients text numbers entries before a1 r_6 hq_7) (cwV 1 hts gX8_quotient_X8_isColumn rfl rfl rfl ⟨rfl, hd_X8_isColumn⟩ ⟨Nat.le_of_ble_eq_true rfl, Nat.le_of_ble_eq_true rfl⟩) rfl hl.1 rfl (Nat.le_of_ble_eq_true rfl) dX8_quotient_10) hD hS hA (fun H locs z_9 hP hD hS => ?_)
    have hP : va_P D cls9 (wM cI ad states whyKind whyOrder many wide textLong spot readColumns all past refused work kept chosen across sum one two base quotients text numbers entries before) H := hP
    have hD : va_D A (wM cI ad states whyKind whyOrder many wide textLong spot readColumns all past refused work kept chosen across sum one two base quotients text numbers entries before) := hD
    refine lv_if_eq (tgt := 43) hx hb dX8_quotient_13 (by decide) (fun c_10 => ?_) (fun c_10 => ?_)
    · have hj1 := it_t c_10 hj1
      refine lv_iconst (v := 0) hx hb dX8_quotient_43 (by decide) ?_
      exact hJ1 (0 : Int32) (Option.some.inj hj1).symm (Or.inl rfl) H locs hP hD hS ls (lv_sub hl [0, 1, 2, 3, 4, 5] rfl)
    · have hj1 := it_f c_10 hj1
      refine lv_iload_n hx hb dX8_quotient_16 rfl (lv_at hl 3 rfl) ?_
      refine lv_i2l (v := (a2.toInt64)) hx hb dX8_quotient_17 rfl ?_
      refine lv_lconst (v := 1) hx hb dX8_quotient_18 (by decide) ?_
      refine lv_ldc2 (v := 7) hx hb hown (hts _ fX8_quotient_0) dX8_quotient_19 ?_
      refine callZ0 (gS (rest := []) ⟨hx, hb, hml, hown, hts⟩ hG vaP0 (vaD0 (A := A)) (mtX8_in l D cI cB cR H.size (a2.toInt64) (1 : Int64) (7 : Int64) _ rfl) (va_cwS 3 hts gX8_quotient_X8_in rfl rfl rfl hd_X8_in ⟨Nat.le_of_ble_eq_true rfl, Nat.le_of_ble_eq_true rfl⟩) rfl hl.1 rfl (Nat.le_of_ble_eq_true rfl) dX8_quotient_22) hP hS hA (fun H locs z_11 hP hS => ?_)
      refine lv_if_eq (tgt := 43) hx hb dX8_quotient_25 (by decide) (fun c_12 => ?_) (fun c_12 => ?_)
      · have hj1 := it_t c_12 hj1
        refine lv_iconst (v := 0) hx hb dX8_quotient_43 (by decide) ?_
        exact hJ1 (0 : Int32) (Option.some.inj hj1).symm (Or.inl rfl) H locs hP hD hS ls (lv_sub hl [0, 1, 2, 3, 4, 5] rfl)
      · have hj1 := it_f c_12 hj1
        refine lv_iload hx hb dX8_quotient_28 (lv_at hl 4 rfl) ?_
        refine lv_i2l (v := (a3.toInt64)) hx hb dX8_quotient_30 rfl ?_
        refine lv_lconst (v := 0) hx hb dX8_quotient_31 (by decide) ?_
        refine lv_lconst (v := 1) hx hb dX8_quotient_32 (by decide) ?_
        refine callZ0 (gS (rest := []) ⟨hx, hb, hml, hown, hts⟩ hG vaP0 (vaD0 (A := A)) (mtX8_in l D cI cB cR H.size (a3.toInt64) (0 : Int64) (1 : Int64) _ rfl) (va_cwS 3 hts gX8_quotient_X8_in rfl rfl rfl hd_X8_in ⟨Nat.le_of_ble_eq_true rfl, Nat.le_of_ble_eq_true rfl⟩) rfl hl.1 rfl (Nat.le_of_ble_eq_true rfl) dX8_quotient_33) hP hS hA (fun H locs z_13 hP hS => ?_)
        refine lv_if_eq (tgt := 43) hx hb dX8_quotient_36 (by decide) (fun c_14 => ?_) (fun c_14 => ?_)
        · have hj1 := it_t c_14 hj1
          refine lv_iconst (v := 0) hx hb dX8_quotient_43 (by decide) ?_
          exact hJ1 (0 : Int32) (Option.some.inj hj1).symm (Or.inl rfl) H locs hP hD hS ls (lv_sub hl [0, 1, 2, 3, 4, 5] rfl)
        · have hj1 := it_f c_14 hj1
          refine lv_iconst (v := 1) hx hb dX8_quotient_39 (by decide) ?_
          refine lv_goto (tgt := 44) hx hb dX8_quotient_40 (by decide) ?_
          exact hJ1 (1 : Int32) (Option.some.inj hj1).symm (Or.inr rfl) H locs hP hD hS ls (lv_sub hl [0, 1, 2, 3, 4, 5] rfl)
abbrev rm_X8_type : Room := { frames := 1, cells := 0, slots := 0, locals := 25 }
theorem fX8_type_0 : Cond.constantLong RX8 275 (127) ∈ wsX8_type := (List.mem_cons_of_mem _ (List.mem_append_left _ (List.mem_of_getElem? (i := 0) rfl)))
theorem iX8_type_X8 : ∀ w ∈ wsX80, w ∈ wsX8_type := fun _ h => (List.mem_cons_of_mem _ (List.mem_append_right _ h))
theorem fX8_type_2 : Cond.fieldLink RX8 277 "PopovRowsModel" "textLong" "I" ∈ wsX8_type := (List.mem_cons_of_mem _ (List.mem_append_left _ (List.mem_of_getElem? (i := 1) rfl)))
theorem fX8_type_3 : Cond.fieldLink RX8 50 "PopovRowsModel" "text" "[I" ∈ wsX8_type := (List.mem_cons_of_mem _ (List.mem_append_left _ (List.mem_of_getElem? (i := 2) rfl)))
set_option maxHeartbeats 4000000 in
set_option maxRecDepth 100000 in
theorem mtX8_type (l : Launch) (D : va_G) (cI cB cR : ClassId) (ad : Nat → Nat) (sz : Nat) (states : Int32) (whyKind : Int32) (whyOrder : Int32) (many : Int32) (wide : Int32) (textLong : Int32) (spot : Int32) (readColumns : Int32) (all : Nat → Int32) (past : Nat → Int32) (refused : Nat → Int32) (work : Nat → Int32) (kept : Nat → Int32) (chosen : Nat → Int32) (across : Nat → Int32) (sum : Nat → Int32) (one : Nat → Int32) (two : Nat → Int32) (base : Nat → Int32) (quotients : Nat → Int32) (text : Nat → Int32) (numbers : Nat → Int32) (entries : Nat → Int32) (before : Nat → Int32) (a0 : Int32) (res : Int32 × Int32 × (Nat → Int32) × (Nat → Int32)) (hf : fX8_type textLong refused text a0 = some res) : Met l yX8_type wsX8_type rm_X8_type (qP D cI cB cR [.ref (ad 0), .int a0] (wM cI ad states whyKind whyOrder many wide textLong spot readColumns all past refused work kept chosen across sum one two base quotients text numbers entries before) sz) (qI D res.1 (wM cI ad states whyKind whyOrder many wide textLong spot readColumns all past refused work kept chosen across sum one two base quotients text numbers entries before) (wM cI ad states whyKind whyOrder many wide res.2.1 spot readColumns all past res.2.2.1 work kept chosen across sum one two base quotients res.2.2.2 numbers entries before) sz) 0 0 (va_A (wM cI ad states whyKind whyOrder many wide textLong spot readColumns all past refused work kept chosen across sum one two base quotients text numbers entries before) sz) := by
  refine entI (plainFor_of_name (by decide)) rfl (Nat.le_of_ble_eq_true rfl) ?_
  intro p e s m args below meth c Q A ls S hG hP hD hA hl hE
  obtain ⟨hx, hb, hml, hown, hts⟩ := S
  have hown : s.vm.findClass RX8 = some m.cls := hown
  have hS : va_S A s.heap s.heap [] := va_S.rf
  have hl : lv_has ls 2 [(0, .ref (ad 0)), (1, .int a0)] := hl
  have hq := hf
  unfold fX8_type at hq
  obtain ⟨H, hH⟩ : ∃ H, H = s.heap := ⟨_, rfl⟩
  obtain ⟨locs, hlo⟩ : ∃ L : List Loc, L = [] := ⟨_, rfl⟩
  have hP : va_P D cls9 (wM cI ad states whyKind whyOrder many wide textLong spot readColumns all past refused work kept chosen across sum one two base quotients text numbers entries before) H := hH ▸ hP
  have hS : va_S A s.heap H locs := by rw [hH, hlo]; exact hS
  suffices hg : W p l e rm_X8_type s m args below meth c H locs 0 0 Q (F0 m 0 ls []) by rw [hH, hlo] at hg; exact hg
  refine lv_iload_n hx hb dX8_type_0 rfl (lv_at hl 1 rfl) ?_
  refine lv_i2l (v := (a0.toInt64)) hx hb dX8_type_1 rfl ?_
  refine lv_lconst (v := 0) hx hb dX8_type_2 (by decide) ?_
  refine lv_ldc2 (v := 127) hx hb hown (hts _ fX8_type_0) dX8_type_3 ?_
  refine callZ0 (gS (rest := []) ⟨hx, hb, hml, hown, hts⟩ hG vaP0 (vaD0 (A := A)) (mtX8_in l D cI cB cR H.size (a0.toInt64) (0 : Int64) (127 : Int64) _ rfl) (va_cwS 3 hts gX8_type_X8_in rfl rfl rfl hd_X8_in ⟨Nat.le_of_ble_eq_true rfl, Nat.le_of_ble_eq_true rfl⟩) rfl hl.1 rfl (Nat.le_of_ble_eq_true rfl) dX8_type_6) hP hS hA (fun H locs z_1 hP hS => ?_)
  refine lv_if_ne (tgt := 19) hx hb dX8_type_9 (by decide) (fun c_2 => ?_) (fun c_2 => ?_)
  · have hq := it_f c_2 hq
    refine lv_aload_n hx hb dX8_type_19 rfl (lv_at hl 0 rfl) ?_
    refine va_get (D := D) (ci := 8) (v := .int textLong) (C := RX8) (T := TX8) (N := 24) hx hb hts iX8_type_X8 hown hG.1 hP 0 rfl rfl 18 (by decide) (hts _ fX8_type_2) (fun _ h9 => h9) rfl dX8_type_20 ?_
    refine lv_sipush (v := 150) hx hb dX8_type_23 (by decide) ?_
    refine lv_icmp_ne (tgt := 36) hx hb dX8_type_26 (by decide) (fun c_3 => ?_) (fun c_3 => ?_)
    · have hq := it_f c_3 hq
      refine lv_aload_n hx hb dX8_type_36 rfl (lv_at hl 0 rfl) ?_
      refine va_get (D := D) (ci := 8) (v := .ref (ad 13)) (C := RX8) (T := TX8) (N := 24) hx hb hts iX8_type_X8 hown hG.1 hP 0 rfl rfl 17 (by decide) (hts _ fX8_type_3) (fun _ h9 => h9) rfl dX8_type_37 ?_
      refine lv_aload_n hx hb dX8_type_40 rfl (lv_at hl 0 rfl) ?_
      refine va_get (D := D) (ci := 8) (v := .int textLong) (C := RX8) (T := TX8) (N := 24) hx hb hts iX8_type_X8 hown hG.1 hP 0 rfl rfl 18 (by decide) (hts _ fX8_type_2) (fun _ h9 => h9) rfl dX8_type_41 ?_
      refine lv_iload_n hx hb dX8_type_44 rfl (lv_at hl 1 rfl) ?_
      obtain ⟨h_4, hq⟩ := gd_s hq
      refine va_iast hx hb hG.1 hP hD hS 13 0 rfl rfl h_4 dX8_type_45 (fun H locs hP hD hS => ?_)
      have hP : va_P D cls9 (wM cI ad states whyKind whyOrder many wide textLong spot readColumns all past refused work kept chosen across sum one two base quotients (upd text textLong.toNatClampNeg a0) numbers entries before) H := hP
      have hD : va_D A (wM cI ad states whyKind whyOrder many wide textLong spot readColumns all past refused work kept chosen across sum one two base quotients (upd text textLong.toNatClampNeg a0) numbers entries before) := hD
      refine lv_aload_n hx hb dX8_type_46 rfl (lv_at hl 0 rfl) ?_
      refine lv_dup hx hb dX8_type_47 rfl ?_
      refine va_get (D := D) (ci := 8) (v := .int textLong) (C := RX8) (T := TX8) (N := 24) hx hb hts iX8_type_X8 hown hG.1 hP 0 rfl rfl 18 (by decide) (hts _ fX8_type_2) (fun _ h9 => h9) rfl dX8_type_48 ?_
      refine lv_iconst (v := 1) hx hb dX8_type_51 (by decide) ?_
      refine lv_iadd hx hb dX8_type_52 ?_
      refine va_put (D := D) (ci := 8) (v := .int (textLong + (1 : Int32))) (ty := .int) (C := RX8) (T := TX8) (N := 24) hx hb hts iX8_type_X8 tyX8 tyX8_ok nmX8 hown hG.1 hP hD hS 0 rfl rfl 18 (by decide) (hts _ fX8_type_2) (fun _ h9 => h9) rfl (by decide +kernel) rfl rfl (Nat.le_of_ble_eq_true rfl) dX8_type_53 (fun H locs hP hD hS => ?_)
      have hP : va_P D cls9 (wM cI ad states whyKind whyOrder many wide (textLong + (1 : Int32)) spot readColumns all past refused work kept chosen across sum one two base quotients (upd text textLong.toNatClampNeg a0) numbers entries before) H := hP
      have hD : va_D A (wM cI ad states whyKind whyOrder many wide (textLong + (1 : Int32)) spot readColumns all past refused work kept chosen across sum one two base quotients (upd text textLong.toNatClampNeg a0) numbers entries before) := hD
      refine lv_aload_n hx hb dX8_type_56 rfl (lv_at hl 0 rfl) ?_
      refine va_get (D := D) (ci := 8) (v := .int (textLong + (1 : Int32))) (C := RX8) (T := TX8) (N := 24) hx hb hts iX8_type_X8 hown hG.1 hP 0 rfl rfl 18 (by decide) (hts _ fX8_type_2) (fun _ h9 => h9) rfl dX8_type_57 ?_
      have he := Option.some.inj hq
      subst he
      exact hE H locs _ _ _ rfl dX8_type_60 hP hD hS
    · have hq := it_t c_3 hq
      refine lv_aload_n hx hb dX8_type_29 rfl (lv_at hl 0 rfl) ?_
      refine lv_bipush (v := -4) hx hb dX8_type_30 (by decide) ?_
      obtain ⟨v_8, hq_7, hk⟩ := bd2_s hq
      obtain ⟨r_5, u_6⟩ := v_8
      have hq := hk _ _ rfl
      refine callIA (gV (rest := []) ⟨hx, hb, hml, hown, hts⟩ hG hP hD 0 8 rfl rfl (mtX8_refuses l D cI cB cR ad H.size states whyKind whyOrder many wide textLong spot readColumns all past refused work kept chosen across sum one two base quotients text numbers entries before (-4 : Int32) (r_5, u_6) hq_7) (cwV 1 hts gX8_type_X8_refuses rfl rfl rfl ⟨rfl, hd_X8_refuses⟩ ⟨Nat.le_of_ble_eq_true rfl, Nat.le_of_ble_eq_true rfl⟩) rfl hl.1 rfl (Nat.le_of_ble_eq_true rfl) dX8_type_32) hD hS hA (fun H locs hP hD hS => ?_)
      have hP : va_P D cls9 (wM cI ad states whyKind whyOrder many wide textLong spot readColumns all past u_6 work kept chosen across sum one two base quotients text numbers entries before) H := hP
      have hD : va_D A (wM cI ad states whyKind whyOrder many wide textLong spot readColumns all past u_6 work kept chosen across sum one two base quotients text numbers entries before) := hD
      have he := Option.some.inj hq
      subst he
      exact hE H locs _ _ _ rfl dX8_type_35 hP hD hS
  · have hq := it_t c_2 hq
    refine lv_aload_n hx hb dX8_type_12 rfl (lv_at hl 0 rfl) ?_
    refine lv_bipush (v := -2) hx hb dX8_type_13 (by decide) ?_
    obtain ⟨v_12, hq_11, hk⟩ := bd2_s hq
    obtain ⟨r_9, u_10⟩ := v_12
    have hq := hk _ _ rfl
    refine callIA (gV (rest := []) ⟨hx, hb, hml, hown, hts⟩ hG hP hD 0 8 rfl rfl (mtX8_refuses l D cI cB cR ad H.size states whyKind whyOrder many wide textLong spot readColumns all past refused work kept chosen across sum one two base quotients text numbers entries before (-2 : Int32) (r_9, u_10) hq_11) (cwV 1 hts gX8_type_X8_refuses rfl rfl rfl ⟨rfl, hd_X8_refuses⟩ ⟨Nat.le_of_ble_eq_true rfl, Nat.le_of_ble_eq_true rfl⟩) rfl hl.1 rfl (Nat.le_of_ble_eq_true rfl) dX8_type_15) hD hS hA (fun H locs hP hD hS => ?_)
    have hP : va_P D cls9 (wM cI ad states whyKind whyOrder many wide textLong spot readColumns all past u_10 work kept chosen across sum one two base quotients text numbers entries before) H := hP
    have hD : va_D A (wM cI ad states whyKind whyOrder many wide textLong spot readColumns all past u_10 work kept chosen across sum one two base quotients text numbers entries before) := hD
    have he := Option.some.inj hq
    subst he
    exact hE H locs _ _ _ rfl dX8_type_18 hP hD hS
abbrev rm_X8_clear : Room := { frames := 0, cells := 0, slots := 0, locals := 0 }
theorem iX8_clear_X8 : ∀ w ∈ wsX80, w ∈ wsX8_clear := fun _ h => (List.mem_cons_of_mem _ (List.mem_append_right _ h))
theorem fX8_clear_1 : Cond.fieldLink RX8 277 "PopovRowsModel" "textLong" "I" ∈ wsX8_clear := (List.mem_cons_of_mem _ (List.mem_append_left _ (List.mem_of_getElem? (i := 0) rfl)))
set_option maxHeartbeats 4000000 in
set_option maxRecDepth 100000 in
theorem mtX8_clear (l : Launch) (D : va_G) (cI cB cR : ClassId) (ad : Nat → Nat) (sz : Nat) (states : Int32) (whyKind : Int32) (whyOrder : Int32) (many : Int32) (wide : Int32) (textLong : Int32) (spot : Int32) (readColumns : Int32) (all : Nat → Int32) (past : Nat → Int32) (refused : Nat → Int32) (work : Nat → Int32) (kept : Nat → Int32) (chosen : Nat → Int32) (across : Nat → Int32) (sum : Nat → Int32) (one : Nat → Int32) (two : Nat → Int32) (base : Nat → Int32) (quotients : Nat → Int32) (text : Nat → Int32) (numbers : Nat → Int32) (entries : Nat → Int32) (before : Nat → Int32) (res : Int32 × Int32) (hf : fX8_clear textLong = some res) : Met l yX8_clear wsX8_clear rm_X8_clear (qP D cI cB cR [.ref (ad 0)] (wM cI ad states whyKind whyOrder many wide textLong spot readColumns all past refused work kept chosen across sum one two base quotients text numbers entries before) sz) (qI D res.1 (wM cI ad states whyKind whyOrder many wide textLong spot readColumns all past refused work kept chosen across sum one two base quotients text numbers entries before) (wM cI ad states whyKind whyOrder many wide res.2 spot readColumns all past refused work kept chosen across sum one two base quotients text numbers entries before) sz) 0 0 (va_A (wM cI ad states whyKind whyOrder many wide textLong spot readColumns all past refused work kept chosen across sum one two base quotients text numbers entries before) sz) := by
  refine entI (plainFor_of_name (by decide)) rfl (Nat.le_of_ble_eq_true rfl) ?_
  intro p e s m args below meth c Q A ls S hG hP hD hA hl hE
  obtain ⟨hx, hb, hml, hown, hts⟩ := S
  have hown : s.vm.findClass RX8 = some m.cls := hown
  have hS : va_S A s.heap s.heap [] := va_S.rf
  have hl : lv_has ls 2 [(0, .ref (ad 0))] := hl
  have hq := hf
  unfold fX8_clear at hq
  obtain ⟨H, hH⟩ : ∃ H, H = s.heap := ⟨_, rfl⟩
  obtain ⟨locs, hlo⟩ : ∃ L : List Loc, L = [] := ⟨_, rfl⟩
  have hP : va_P D cls9 (wM cI ad states whyKind whyOrder many wide textLong spot readColumns all past refused work kept chosen across sum one two base quotients text numbers entries before) H := hH ▸ hP
  have hS : va_S A s.heap H locs := by rw [hH, hlo]; exact hS
  suffices hg : W p l e rm_X8_clear s m args below meth c H locs 0 0 Q (F0 m 0 ls []) by rw [hH, hlo] at hg; exact hg
  refine lv_aload_n hx hb dX8_clear_0 rfl (lv_at hl 0 rfl) ?_
  refine va_get (D := D) (ci := 8) (v := .int textLong) (C := RX8) (T := TX8) (N := 24) hx hb hts iX8_clear_X8 hown hG.1 hP 0 rfl rfl 18 (by decide) (hts _ fX8_clear_1) (fun _ h9 => h9) rfl dX8_clear_1 ?_
  refine lv_istore_n (lv' := [(1, .int textLong), (0, .ref (ad 0))]) hx hb dX8_clear_4 rfl hl (by decide) rfl (fun ls hl => ?_)
  refine lv_aload_n hx hb dX8_clear_5 rfl (lv_at hl 1 rfl) ?_
  refine lv_iconst (v := 0) hx hb dX8_clear_6 (by decide) ?_
  refine va_put (D := D) (ci := 8) (v := .int (0 : Int32)) (ty := .int) (C := RX8) (T := TX8) (N := 24) hx hb hts iX8_clear_X8 tyX8 tyX8_ok nmX8 hown hG.1 hP hD hS 0 rfl rfl 18 (by decide) (hts _ fX8_clear_1) (fun _ h9 => h9) rfl (by decide +kernel) rfl rfl (Nat.le_of_ble_eq_true rfl) dX8_clear_7 (fun H locs hP hD hS => ?_)
  have hP : va_P D cls9 (wM cI ad states whyKind whyOrder many wide (0 : Int32) spot readColumns all past refused work kept chosen across sum one two base quotients text numbers entries before) H := hP
  have hD : va_D A (wM cI ad states whyKind whyOrder many wide (0 : Int32) spot readColumns all past refused work kept chosen across sum one two base quotients text numbers entries before) := hD
  refine lv_iload_n hx hb dX8_clear_10 rfl (lv_at hl 0 rfl) ?_
  have he := Option.some.inj hq
  subst he
  exact hE H locs _ _ _ rfl dX8_clear_11 hP hD hS
abbrev rm_X8_here : Room := { frames := 0, cells := 0, slots := 0, locals := 0 }
theorem iX8_here_X8 : ∀ w ∈ wsX80, w ∈ wsX8_here := fun _ h => (List.mem_cons_of_mem _ (List.mem_append_right _ h))
theorem fX8_here_1 : Cond.fieldLink RX8 280 "PopovRowsModel" "spot" "I" ∈ wsX8_here := (List.mem_cons_of_mem _ (List.mem_append_left _ (List.mem_of_getElem? (i := 0) rfl)))
theorem fX8_here_2 : Cond.fieldLink RX8 277 "PopovRowsModel" "textLong" "I" ∈ wsX8_here := (List.mem_cons_of_mem _ (List.mem_append_left _ (List.mem_of_getElem? (i := 1) rfl)))
theorem fX8_here_3 : Cond.fieldLink RX8 50 "PopovRowsModel" "text" "[I" ∈ wsX8_here := (List.mem_cons_of_mem _ (List.mem_append_left _ (List.mem_of_getElem? (i := 2) rfl)))
set_option maxHeartbeats 4000000 in
set_option maxRecDepth 100000 in
theorem mtX8_here (l : Launch) (D : va_G) (cI cB cR : ClassId) (ad : Nat → Nat) (sz : Nat) (states : Int32) (whyKind : Int32) (whyOrder : Int32) (many : Int32) (wide : Int32) (textLong : Int32) (spot : Int32) (readColumns : Int32) (all : Nat → Int32) (past : Nat → Int32) (refused : Nat → Int32) (work : Nat → Int32) (kept : Nat → Int32) (chosen : Nat → Int32) (across : Nat → Int32) (sum : Nat → Int32) (one : Nat → Int32) (two : Nat → Int32) (base : Nat → Int32) (quotients : Nat → Int32) (text : Nat → Int32) (numbers : Nat → Int32) (entries : Nat → Int32) (before : Nat → Int32) (res : Int32 × Int32) (hf : fX8_here textLong spot text = some res) : Met l yX8_here wsX8_here rm_X8_here (qP D cI cB cR [.ref (ad 0)] (wM cI ad states whyKind whyOrder many wide textLong spot readColumns all past refused work kept chosen across sum one two base quotients text numbers entries before) sz) (qI D res.1 (wM cI ad states whyKind whyOrder many wide textLong spot readColumns all past refused work kept chosen across sum one two base quotients text numbers entries before) (wM cI ad states whyKind whyOrder many wide textLong res.2 readColumns all past refused work kept chosen across sum one two base quotients text numbers entries before) sz) 0 0 (va_A (wM cI ad states whyKind whyOrder many wide textLong spot readColumns all past refused work kept chosen across sum one two base quotients text numbers entries before) sz) := by
  refine entI (plainFor_of_name (by decide)) rfl (Nat.le_of_ble_eq_true rfl) ?_
  intro p e s m args below meth c Q A ls S hG hP hD hA hl hE
  obtain ⟨hx, hb, hml, hown, hts⟩ := S
  have hown : s.vm.findClass RX8 = some m.cls := hown
  have hS : va_S A s.heap s.heap [] := va_S.rf
  have hl : lv_has ls 1 [(0, .ref (ad 0))] := hl
  have hq := hf
  unfold fX8_here at hq
  obtain ⟨H, hH⟩ : ∃ H, H = s.heap := ⟨_, rfl⟩
  obtain ⟨locs, hlo⟩ : ∃ L : List Loc, L = [] := ⟨_, rfl⟩
  have hP : va_P D cls9 (wM cI ad states whyKind whyOrder many wide textLong spot readColumns all past refused work kept chosen across sum one two base quotients text numbers entries before) H := hH ▸ hP
  have hS : va_S A s.heap H locs := by rw [hH, hlo]; exact hS
  suffices hg : W p l e rm_X8_here s m args below meth c H locs 0 0 Q (F0 m 0 ls []) by rw [hH, hlo] at hg; exact hg
  obtain ⟨w1, hw1, hk1⟩ := bd1_s hq
  have hX1 : ∀ (x_5 : Int32), w1 = x_5 → ∀ (H : Heap) (locs : List Loc), va_P D cls9 (wM cI ad states whyKind whyOrder many wide textLong x_5 readColumns all past refused work kept chosen across sum one two base quotients text numbers entries before) H → va_D A (wM cI ad states whyKind whyOrder many wide textLong x_5 readColumns all past refused work kept chosen across sum one two base quotients text numbers entries before) → va_S A s.heap H locs → ∀ (ls : Array Slot), lv_has ls 1 [(0, .ref (ad 0))] → W p l e rm_X8_here s m args below meth c H locs 0 0 Q (F0 m 38 ls []) := by
    intro x_5 hq H locs hP hD hS ls hl
    have hq := hk1 _ hq
    refine lv_aload_n hx hb dX8_here_38 rfl (lv_at hl 0 rfl) ?_
    refine va_get (D := D) (ci := 8) (v := .int x_5) (C := RX8) (T := TX8) (N := 24) hx hb hts iX8_here_X8 hown hG.1 hP 0 rfl rfl 19 (by decide) (hts _ fX8_here_1) (fun _ h9 => h9) rfl dX8_here_39 ?_
    refine lv_aload_n hx hb dX8_here_42 rfl (lv_at hl 0 rfl) ?_
    refine va_get (D := D) (ci := 8) (v := .int textLong) (C := RX8) (T := TX8) (N := 24) hx hb hts iX8_here_X8 hown hG.1 hP 0 rfl rfl 18 (by decide) (hts _ fX8_here_2) (fun _ h9 => h9) rfl dX8_here_43 ?_
    refine lv_icmp_ge (tgt := 61) hx hb dX8_here_46 (by decide) (fun c_6 => ?_) (fun c_6 => ?_)
    · have hq := it_t c_6 hq
      refine lv_iconst (v := -1) hx hb dX8_here_61 (by decide) ?_
      have he := Option.some.inj hq
      subst he
      exact hE H locs _ _ _ rfl dX8_here_62 hP hD hS
    · have hq := it_f c_6 hq
      refine lv_aload_n hx hb dX8_here_49 rfl (lv_at hl 0 rfl) ?_
      refine va_get (D := D) (ci := 8) (v := .ref (ad 13)) (C := RX8) (T := TX8) (N := 24) hx hb hts iX8_here_X8 hown hG.1 hP 0 rfl rfl 17 (by decide) (hts _ fX8_here_3) (fun _ h9 => h9) rfl dX8_here_50 ?_
      refine lv_aload_n hx hb dX8_here_53 rfl (lv_at hl 0 rfl) ?_
      refine va_get (D := D) (ci := 8) (v := .int x_5) (C := RX8) (T := TX8) (N := 24) hx hb hts iX8_here_X8 hown hG.1 hP 0 rfl rfl 19 (by decide) (hts _ fX8_here_1) (fun _ h9 => h9) rfl dX8_here_54 ?_
      obtain ⟨h_7, hq⟩ := gd_s hq
      refine va_iald hx hb hG.1 hP 13 0 rfl rfl h_7 dX8_here_57 ?_
      refine lv_goto (tgt := 62) hx hb dX8_here_58 (by decide) ?_
      have he := Option.some.inj hq
      subst he
      exact hE H locs _ _ _ rfl dX8_here_62 hP hD hS
  have hL1 : ∀ (n : Nat) (i_1 : Int32), lrun (fun (z : Int32) => fX8_here_s0 textLong text z) n i_1 = some w1 → ∀ (H : Heap) (locs : List Loc), va_P D cls9 (wM cI ad states whyKind whyOrder many wide textLong i_1 readColumns all past refused work kept chosen across sum one two base quotients text numbers entries before) H → va_D A (wM cI ad states whyKind whyOrder many wide textLong i_1 readColumns all past refused work kept chosen across sum one two base quotients text numbers entries before) → va_S A s.heap H locs → ∀ (ls : Array Slot), lv_has ls 1 [(0, .ref (ad 0))] → W p l e rm_X8_here s m args below meth c H locs 0 0 Q (F0 m 0 ls []) := by
    intro n
    induction n with
    | zero => intro i_1 h; cases h
    | succ n ih1 =>
      intro i_1 hr1 H locs hP hD hS ls hl
      obtain ⟨k, v1, hk, hr1, ht1, hv1⟩ := lrun_s hr1
      cases hk
      have hr1 : fX8_here_s0 textLong text i_1 = some v1 := hr1
      unfold fX8_here_s0 at hr1
      refine lv_aload_n hx hb dX8_here_0 rfl (lv_at hl 0 rfl) ?_
      refine va_get (D := D) (ci := 8) (v := .int i_1) (C := RX8) (T := TX8) (N := 24) hx hb hts iX8_here_X8 hown hG.1 hP 0 rfl rfl 19 (by decide) (hts _ fX8_here_1) (fun _ h9 => h9) rfl dX8_here_1 ?_
      refine lv_aload_n hx hb dX8_here_4 rfl (lv_at hl 0 rfl) ?_
      refine va_get (D := D) (ci := 8) (v := .int textLong) (C := RX8) (T := TX8) (N := 24) hx hb hts iX8_here_X8 hown hG.1 hP 0 rfl rfl 18 (by decide) (hts _ fX8_here_2) (fun _ h9 => h9) rfl dX8_here_5 ?_
      refine lv_icmp_ge (tgt := 38) hx hb dX8_here_8 (by decide) (fun c_2 => ?_) (fun c_2 => ?_)
      · have hr1 := it_t c_2 hr1
        exact hX1 i_1 (hv1 _ (Option.some.inj hr1).symm).symm H locs hP hD hS ls (lv_sub hl [0] rfl)
      · have hr1 := it_f c_2 hr1
        refine lv_aload_n hx hb dX8_here_11 rfl (lv_at hl 0 rfl) ?_
        refine va_get (D := D) (ci := 8) (v := .ref (ad 13)) (C := RX8) (T := TX8) (N := 24) hx hb hts iX8_here_X8 hown hG.1 hP 0 rfl rfl 17 (by decide) (hts _ fX8_here_3) (fun _ h9 => h9) rfl dX8_here_12 ?_
        refine lv_aload_n hx hb dX8_here_15 rfl (lv_at hl 0 rfl) ?_
        refine va_get (D := D) (ci := 8) (v := .int i_1) (C := RX8) (T := TX8) (N := 24) hx hb hts iX8_here_X8 hown hG.1 hP 0 rfl rfl 19 (by decide) (hts _ fX8_here_1) (fun _ h9 => h9) rfl dX8_here_16 ?_
        obtain ⟨h_3, hr1⟩ := gd_s hr1
        refine va_iald hx hb hG.1 hP 13 0 rfl rfl h_3 dX8_here_19 ?_
        refine lv_bipush (v := 32) hx hb dX8_here_20 (by decide) ?_
        refine lv_icmp_ne (tgt := 38) hx hb dX8_here_22 (by decide) (fun c_4 => ?_) (fun c_4 => ?_)
        · have hr1 := it_f c_4 hr1
          exact hX1 i_1 (hv1 _ (Option.some.inj hr1).symm).symm H locs hP hD hS ls (lv_sub hl [0] rfl)
        · have hr1 := it_t c_4 hr1
          refine lv_aload_n hx hb dX8_here_25 rfl (lv_at hl 0 rfl) ?_
          refine lv_dup hx hb dX8_here_26 rfl ?_
          refine va_get (D := D) (ci := 8) (v := .int i_1) (C := RX8) (T := TX8) (N := 24) hx hb hts iX8_here_X8 hown hG.1 hP 0 rfl rfl 19 (by decide) (hts _ fX8_here_1) (fun _ h9 => h9) rfl dX8_here_27 ?_
          refine lv_iconst (v := 1) hx hb dX8_here_30 (by decide) ?_
          refine lv_iadd hx hb dX8_here_31 ?_
          refine va_put (D := D) (ci := 8) (v := .int (i_1 + (1 : Int32))) (ty := .int) (C := RX8) (T := TX8) (N := 24) hx hb hts iX8_here_X8 tyX8 tyX8_ok nmX8 hown hG.1 hP hD hS 0 rfl rfl 19 (by decide) (hts _ fX8_here_1) (fun _ h9 => h9) rfl (by decide +kernel) rfl rfl (Nat.le_of_ble_eq_true rfl) dX8_here_32 (fun H locs hP hD hS => ?_)
          have hP : va_P D cls9 (wM cI ad states whyKind whyOrder many wide textLong (i_1 + (1 : Int32)) readColumns all past refused work kept chosen across sum one two base quotients text numbers entries before) H := hP
          have hD : va_D A (wM cI ad states whyKind whyOrder many wide textLong (i_1 + (1 : Int32)) readColumns all past refused work kept chosen across sum one two base quotients text numbers entries before) := hD
          refine lv_goto (tgt := 0) hx hb dX8_here_35 (by decide) ?_
          exact ih1 (i_1 + (1 : Int32)) (ht1 _ (Option.some.inj hr1).symm) H locs hP hD hS ls (lv_sub hl [0] rfl)
  obtain ⟨n1, hn1⟩ := Lp_s hw1
  exact hL1 n1 spot hn1 H locs hP hD hS ls (lv_sub hl [0] rfl)
abbrev rm_X8_isFigure : Room := { frames := 1, cells := 0, slots := 0, locals := 25 }
theorem fX8_isFigure_0 : Cond.constantLong RX8 283 (48) ∈ wsX8_isFigure := (List.mem_cons_of_mem _ (List.mem_of_getElem? (i := 0) rfl))
theorem fX8_isFigure_1 : Cond.constantLong RX8 285 (57) ∈ wsX8_isFigure := (List.mem_cons_of_mem _ (List.mem_of_getElem? (i := 1) rfl))
set_option maxHeartbeats 4000000 in
set_option maxRecDepth 100000 in
theorem mtX8_isFigure (l : Launch) (D : va_G) (cI cB cR : ClassId) (ad : Nat → Nat) (sz : Nat) (states : Int32) (whyKind : Int32) (whyOrder : Int32) (many : Int32) (wide : Int32) (textLong : Int32) (spot : Int32) (readColumns : Int32) (all : Nat → Int32) (past : Nat → Int32) (refused : Nat → Int32) (work : Nat → Int32) (kept : Nat → Int32) (chosen : Nat → Int32) (across : Nat → Int32) (sum : Nat → Int32) (one : Nat → Int32) (two : Nat → Int32) (base : Nat → Int32) (quotients : Nat → Int32) (text : Nat → Int32) (numbers : Nat → Int32) (entries : Nat → Int32) (before : Nat → Int32) (a0 : Int32) (res : Int32) (hf : fX8_isFigure a0 = res) : Met l yX8_isFigure wsX8_isFigure rm_X8_isFigure (qP D cI cB cR [.ref (ad 0), .int a0] (wM cI ad states whyKind whyOrder many wide textLong spot readColumns all past refused work kept chosen across sum one two base quotients text numbers entries before) sz) (qZ D res (wM cI ad states whyKind whyOrder many wide textLong spot readColumns all past refused work kept chosen across sum one two base quotients text numbers entries before) (wM cI ad states whyKind whyOrder many wide textLong spot readColumns all past refused work kept chosen across sum one two base quotients text numbers entries before) sz) 0 0 (va_A (wM cI ad states whyKind whyOrder many wide textLong spot readColumns all past refused work kept chosen across sum one two base quotients text numbers entries before) sz) := by
  refine entZ (plainFor_of_name (by decide)) rfl (Nat.le_of_ble_eq_true rfl) ?_
  intro p e s m args below meth c Q A ls S hG hP hD hA hl hE
  obtain ⟨hx, hb, hml, hown, hts⟩ := S
  have hown : s.vm.findClass RX8 = some m.cls := hown
  have hS : va_S A s.heap s.heap [] := va_S.rf
  have hl : lv_has ls 2 [(0, .ref (ad 0)), (1, .int a0)] := hl
  have hq := hf
  unfold fX8_isFigure at hq
  obtain ⟨H, hH⟩ : ∃ H, H = s.heap := ⟨_, rfl⟩
  obtain ⟨locs, hlo⟩ : ∃ L : List Loc, L = [] := ⟨_, rfl⟩
  have hP : va_P D cls9 (wM cI ad states whyKind whyOrder many wide textLong spot readColumns all past refused work kept chosen across sum one two base quotients text numbers entries before) H := hH ▸ hP
  have hS : va_S A s.heap H locs := by rw [hH, hlo]; exact hS
  suffices hg : W p l e rm_X8_isFigure s m args below meth c H locs 0 0 Q (F0 m 0 ls []) by rw [hH, hlo] at hg; exact hg
  refine lv_iload_n hx hb dX8_isFigure_0 rfl (lv_at hl 1 rfl) ?_
  refine lv_i2l (v := (a0.toInt64)) hx hb dX8_isFigure_1 rfl ?_
  refine lv_ldc2 (v := 48) hx hb hown (hts _ fX8_isFigure_0) dX8_isFigure_2 ?_
  refine lv_ldc2 (v := 57) hx hb hown (hts _ fX8_isFigure_1) dX8_isFigure_5 ?_
  refine callZ0 (gS (rest := []) ⟨hx, hb, hml, hown, hts⟩ hG vaP0 (vaD0 (A := A)) (mtX8_in l D cI cB cR H.size (a0.toInt64) (48 : Int64) (57 : Int64) _ rfl) (va_cwS 3 hts gX8_isFigure_X8_in rfl rfl rfl hd_X8_in ⟨Nat.le_of_ble_eq_true rfl, Nat.le_of_ble_eq_true rfl⟩) rfl hl.1 rfl (Nat.le_of_ble_eq_true rfl) dX8_isFigure_8) hP hS hA (fun H locs z_1 hP hS => ?_)
  have he := hq
  subst he
  exact hE H locs _ _ _ rfl z_1 dX8_isFigure_11 hP hD hS
