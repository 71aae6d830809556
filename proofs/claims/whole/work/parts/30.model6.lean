abbrev rm_X8_formOf : Room := { frames := 7, cells := 0, slots := 0, locals := 170 }
theorem iX8_formOf_X8 : ∀ w ∈ wsX80, w ∈ wsX8_formOf := fun _ h => (List.mem_cons_of_mem _ (List.mem_append_right _ h))
theorem fX8_formOf_1 : Cond.fieldLink RX8 178 "PopovRowsModel" "many" "I" ∈ wsX8_formOf := (List.mem_cons_of_mem _ (List.mem_append_left _ (List.mem_append_left _ (List.mem_of_getElem? (i := 0) rfl))))
theorem fX8_formOf_2 : Cond.fieldLink RX8 23 "PopovRowsModel" "work" "[I" ∈ wsX8_formOf := (List.mem_cons_of_mem _ (List.mem_append_left _ (List.mem_append_left _ (List.mem_of_getElem? (i := 1) rfl))))
set_option maxHeartbeats 4000000 in
set_option maxRecDepth 100000 in
theorem mtX8_formOf (l : Launch) (D : va_G) (cI cB cR : ClassId) (ad : Nat → Nat) (sz : Nat) (states : Int32) (whyKind : Int32) (whyOrder : Int32) (many : Int32) (wide : Int32) (textLong : Int32) (spot : Int32) (readColumns : Int32) (all : Nat → Int32) (past : Nat → Int32) (refused : Nat → Int32) (work : Nat → Int32) (kept : Nat → Int32) (chosen : Nat → Int32) (across : Nat → Int32) (sum : Nat → Int32) (one : Nat → Int32) (two : Nat → Int32) (base : Nat → Int32) (quotients : Nat → Int32) (text : Nat → Int32) (numbers : Nat → Int32) (entries : Nat → Int32) (before : Nat → Int32) (a0 : Int32) (a1 : Int32) (a2 : Int32) (a3 : Int32) (res : Int32 × Int32 × Int32 × (Nat → Int32)) (hf : fX8_formOf all work a0 a1 a2 a3 = some res) : Met l yX8_formOf wsX8_formOf rm_X8_formOf (qP D cI cB cR [.ref (ad 0), .int a0, .int a1, .int a2, .int a3] (wM cI ad states whyKind whyOrder many wide textLong spot readColumns all past refused work kept chosen across sum one two base quotients text numbers entries before) sz) (qI D res.1 (wM cI ad states whyKind whyOrder many wide textLong spot readColumns all past refused work kept chosen across sum one two base quotients text numbers entries before) (wM cI ad states whyKind whyOrder res.2.1 res.2.2.1 textLong spot readColumns all past refused res.2.2.2 kept chosen across sum one two base quotients text numbers entries before) sz) 0 0 (va_A (wM cI ad states whyKind whyOrder many wide textLong spot readColumns all past refused work kept chosen across sum one two base quotients text numbers entries before) sz) := by
  refine entI (plainFor_of_name (by decide)) rfl (Nat.le_of_ble_eq_true rfl) ?_
  intro p e s m args below meth c Q A ls S hG hP hD hA hl hE
  obtain ⟨hx, hb, hml, hown, hts⟩ := S
  have hown : s.vm.findClass RX8 = some m.cls := hown
  have hS : va_S A s.heap s.heap [] := va_S.rf
  have hl : lv_has ls 5 [(0, .ref (ad 0)), (1, .int a0), (2, .int a1), (3, .int a2), (4, .int a3)] := hl
  have hq := hf
  unfold fX8_formOf at hq
  obtain ⟨H, hH⟩ : ∃ H, H = s.heap := ⟨_, rfl⟩
  obtain ⟨locs, hlo⟩ : ∃ L : List Loc, L = [] := ⟨_, rfl⟩
  have hP : va_P D cls9 (wM cI ad states whyKind whyOrder many wide textLong spot readColumns all past refused work kept chosen across sum one two base quotients text numbers entries before) H := hH ▸ hP
  have hS : va_S A s.heap H locs := by rw [hH, hlo]; exact hS
  suffices hg : W p l e rm_X8_formOf s m args below meth c H locs 0 0 Q (F0 m 0 ls []) by rw [hH, hlo] at hg; exact hg
  refine lv_aload_n hx hb dX8_formOf_0 rfl (lv_at hl 0 rfl) ?_
  refine lv_iload_n hx hb dX8_formOf_1 rfl (lv_at hl 1 rfl) ?_
  obtain ⟨v_5, hq_4, hk⟩ := bd3_s hq
  obtain ⟨u_1, u_2, u_3⟩ := v_5
  have hq := hk _ _ _ rfl
  refine callVA (gV (rest := []) ⟨hx, hb, hml, hown, hts⟩ hG hP hD 0 8 rfl rfl (mtX8_formsOf l D cI cB cR ad H.size states whyKind whyOrder many wide textLong spot readColumns all past refused work kept chosen across sum one two base quotients text numbers entries before a0 (u_1, u_2, u_3) hq_4) (cwV 1 hts gX8_formOf_X8_formsOf rfl rfl rfl ⟨rfl, hd_X8_formsOf⟩ ⟨Nat.le_of_ble_eq_true rfl, Nat.le_of_ble_eq_true rfl⟩) rfl hl.1 rfl (Nat.le_of_ble_eq_true rfl) dX8_formOf_2) hD hS hA (fun H locs hP hD hS => ?_)
  have hP : va_P D cls9 (wM cI ad states whyKind whyOrder u_1 u_2 textLong spot readColumns all past refused u_3 kept chosen across sum one two base quotients text numbers entries before) H := hP
  have hD : va_D A (wM cI ad states whyKind whyOrder u_1 u_2 textLong spot readColumns all past refused u_3 kept chosen across sum one two base quotients text numbers entries before) := hD
  refine lv_iload_n hx hb dX8_formOf_5 rfl (lv_at hl 2 rfl) ?_
  refine lv_aload_n hx hb dX8_formOf_6 rfl (lv_at hl 0 rfl) ?_
  refine va_get (D := D) (ci := 8) (v := .int u_1) (C := RX8) (T := TX8) (N := 24) hx hb hts iX8_formOf_X8 hown hG.1 hP 0 rfl rfl 7 (by decide) (hts _ fX8_formOf_1) (fun _ h9 => h9) rfl dX8_formOf_7 ?_
  refine lv_icmp_lt (tgt := 18) hx hb dX8_formOf_10 (by decide) (fun c_6 => ?_) (fun c_6 => ?_)
  · have hq := it_t c_6 hq
    refine lv_iload_n hx hb dX8_formOf_18 rfl (lv_at hl 3 rfl) ?_
    refine lv_iconst (v := -1) hx hb dX8_formOf_19 (by decide) ?_
    refine lv_icmp_ne (tgt := 44) hx hb dX8_formOf_20 (by decide) (fun c_7 => ?_) (fun c_7 => ?_)
    · have hq := it_f c_7 hq
      refine lv_aload_n hx hb dX8_formOf_44 rfl (lv_at hl 0 rfl) ?_
      refine va_get (D := D) (ci := 8) (v := .ref (ad 4)) (C := RX8) (T := TX8) (N := 24) hx hb hts iX8_formOf_X8 hown hG.1 hP 0 rfl rfl 6 (by decide) (hts _ fX8_formOf_2) (fun _ h9 => h9) rfl dX8_formOf_45 ?_
      refine lv_iload_n hx hb dX8_formOf_48 rfl (lv_at hl 2 rfl) ?_
      refine lv_iload_n hx hb dX8_formOf_49 rfl (lv_at hl 3 rfl) ?_
      refine lv_iload hx hb dX8_formOf_50 (lv_at hl 4 rfl) ?_
      refine callI0 (gS (rest := [.ref (ad 4)]) ⟨hx, hb, hml, hown, hts⟩ hG vaP0 (vaD0 (A := A)) (mtX8_cell l D cI cB cR H.size a1 a2 a3 _ rfl) (va_cwS 3 hts gX8_formOf_X8_cell rfl rfl rfl hd_X8_cell ⟨Nat.le_of_ble_eq_true rfl, Nat.le_of_ble_eq_true rfl⟩) rfl hl.1 rfl (Nat.le_of_ble_eq_true rfl) dX8_formOf_52) hP hS hA (fun H locs hP hS => ?_)
      obtain ⟨h_8, hq⟩ := gd_s hq
      refine va_iald hx hb hG.1 hP 4 0 rfl rfl h_8 dX8_formOf_55 ?_
      have he := Option.some.inj hq
      subst he
      exact hE H locs _ _ _ rfl dX8_formOf_56 hP hD hS
    · have hq := it_t c_7 hq
      refine lv_iload hx hb dX8_formOf_23 (lv_at hl 4 rfl) ?_
      refine lv_if_ne (tgt := 36) hx hb dX8_formOf_25 (by decide) (fun c_9 => ?_) (fun c_9 => ?_)
      · have hq := it_f c_9 hq
        refine lv_aload_n hx hb dX8_formOf_36 rfl (lv_at hl 0 rfl) ?_
        refine lv_iload_n hx hb dX8_formOf_37 rfl (lv_at hl 2 rfl) ?_
        obtain ⟨v_12, hq_11, hk⟩ := bd1_s hq
        obtain ⟨r_10, rfl⟩ : ∃ y, y = v_12 := ⟨_, rfl⟩
        have hq := hk _ rfl
        refine callIA (gV (rest := []) ⟨hx, hb, hml, hown, hts⟩ hG hP hD 0 8 rfl rfl (mtX8_workPivot l D cI cB cR ad H.size states whyKind whyOrder u_1 u_2 textLong spot readColumns all past refused u_3 kept chosen across sum one two base quotients text numbers entries before a1 r_10 hq_11) (cwV 1 hts gX8_formOf_X8_workPivot rfl rfl rfl ⟨rfl, hd_X8_workPivot⟩ ⟨Nat.le_of_ble_eq_true rfl, Nat.le_of_ble_eq_true rfl⟩) rfl hl.1 rfl (Nat.le_of_ble_eq_true rfl) dX8_formOf_38) hD hS hA (fun H locs hP hD hS => ?_)
        have hP : va_P D cls9 (wM cI ad states whyKind whyOrder u_1 u_2 textLong spot readColumns all past refused u_3 kept chosen across sum one two base quotients text numbers entries before) H := hP
        have hD : va_D A (wM cI ad states whyKind whyOrder u_1 u_2 textLong spot readColumns all past refused u_3 kept chosen across sum one two base quotients text numbers entries before) := hD
        refine lv_goto (tgt := 56) hx hb dX8_formOf_41 (by decide) ?_
        have he := Option.some.inj hq
        subst he
        exact hE H locs _ _ _ rfl dX8_formOf_56 hP hD hS
      · have hq := it_t c_9 hq
        refine lv_aload_n hx hb dX8_formOf_28 rfl (lv_at hl 0 rfl) ?_
        refine lv_iload_n hx hb dX8_formOf_29 rfl (lv_at hl 2 rfl) ?_
        obtain ⟨v_15, hq_14, hk⟩ := bd1_s hq
        obtain ⟨r_13, rfl⟩ : ∃ y, y = v_15 := ⟨_, rfl⟩
        have hq := hk _ rfl
        refine callIA (gV (rest := []) ⟨hx, hb, hml, hown, hts⟩ hG hP hD 0 8 rfl rfl (mtX8_workDegree l D cI cB cR ad H.size states whyKind whyOrder u_1 u_2 textLong spot readColumns all past refused u_3 kept chosen across sum one two base quotients text numbers entries before a1 r_13 hq_14) (cwV 1 hts gX8_formOf_X8_workDegree rfl rfl rfl ⟨rfl, hd_X8_workDegree⟩ ⟨Nat.le_of_ble_eq_true rfl, Nat.le_of_ble_eq_true rfl⟩) rfl hl.1 rfl (Nat.le_of_ble_eq_true rfl) dX8_formOf_30) hD hS hA (fun H locs hP hD hS => ?_)
        have hP : va_P D cls9 (wM cI ad states whyKind whyOrder u_1 u_2 textLong spot readColumns all past refused u_3 kept chosen across sum one two base quotients text numbers entries before) H := hP
        have hD : va_D A (wM cI ad states whyKind whyOrder u_1 u_2 textLong spot readColumns all past refused u_3 kept chosen across sum one two base quotients text numbers entries before) := hD
        refine lv_goto (tgt := 56) hx hb dX8_formOf_33 (by decide) ?_
        have he := Option.some.inj hq
        subst he
        exact hE H locs _ _ _ rfl dX8_formOf_56 hP hD hS
  · have hq := it_f c_6 hq
    refine lv_bipush (v := -5) hx hb dX8_formOf_13 (by decide) ?_
    refine lv_goto (tgt := 56) hx hb dX8_formOf_15 (by decide) ?_
    have he := Option.some.inj hq
    subst he
    exact hE H locs _ _ _ rfl dX8_formOf_56 hP hD hS
abbrev rm_X8_form : Room := { frames := 8, cells := 0, slots := 0, locals := 194 }
theorem fX8_form_0 : Cond.constantLong RX8 124 (6) ∈ wsX8_form := (List.mem_cons_of_mem _ (List.mem_append_left _ (List.mem_append_left _ (List.mem_of_getElem? (i := 0) rfl))))
set_option maxHeartbeats 4000000 in
set_option maxRecDepth 100000 in
theorem mtX8_form (l : Launch) (D : va_G) (cI cB cR : ClassId) (ad : Nat → Nat) (sz : Nat) (states : Int32) (whyKind : Int32) (whyOrder : Int32) (many : Int32) (wide : Int32) (textLong : Int32) (spot : Int32) (readColumns : Int32) (all : Nat → Int32) (past : Nat → Int32) (refused : Nat → Int32) (work : Nat → Int32) (kept : Nat → Int32) (chosen : Nat → Int32) (across : Nat → Int32) (sum : Nat → Int32) (one : Nat → Int32) (two : Nat → Int32) (base : Nat → Int32) (quotients : Nat → Int32) (text : Nat → Int32) (numbers : Nat → Int32) (entries : Nat → Int32) (before : Nat → Int32) (a0 : Int32) (a1 : Int32) (a2 : Int32) (a3 : Int32) (res : Int32 × Int32 × Int32 × (Nat → Int32) × (Nat → Int32)) (hf : fX8_form many wide all refused work a0 a1 a2 a3 = some res) : Met l yX8_form wsX8_form rm_X8_form (qP D cI cB cR [.ref (ad 0), .int a0, .int a1, .int a2, .int a3] (wM cI ad states whyKind whyOrder many wide textLong spot readColumns all past refused work kept chosen across sum one two base quotients text numbers entries before) sz) (qI D res.1 (wM cI ad states whyKind whyOrder many wide textLong spot readColumns all past refused work kept chosen across sum one two base quotients text numbers entries before) (wM cI ad states whyKind whyOrder res.2.1 res.2.2.1 textLong spot readColumns all past res.2.2.2.1 res.2.2.2.2 kept chosen across sum one two base quotients text numbers entries before) sz) 0 0 (va_A (wM cI ad states whyKind whyOrder many wide textLong spot readColumns all past refused work kept chosen across sum one two base quotients text numbers entries before) sz) := by
  refine entI (plainFor_of_name (by decide)) rfl (Nat.le_of_ble_eq_true rfl) ?_
  intro p e s m args below meth c Q A ls S hG hP hD hA hl hE
  obtain ⟨hx, hb, hml, hown, hts⟩ := S
  have hown : s.vm.findClass RX8 = some m.cls := hown
  have hS : va_S A s.heap s.heap [] := va_S.rf
  have hl : lv_has ls 6 [(0, .ref (ad 0)), (1, .int a0), (2, .int a1), (3, .int a2), (4, .int a3)] := hl
  have hq := hf
  unfold fX8_form at hq
  obtain ⟨H, hH⟩ : ∃ H, H = s.heap := ⟨_, rfl⟩
  obtain ⟨locs, hlo⟩ : ∃ L : List Loc, L = [] := ⟨_, rfl⟩
  have hP : va_P D cls9 (wM cI ad states whyKind whyOrder many wide textLong spot readColumns all past refused work kept chosen across sum one two base quotients text numbers entries before) H := hH ▸ hP
  have hS : va_S A s.heap H locs := by rw [hH, hlo]; exact hS
  suffices hg : W p l e rm_X8_form s m args below meth c H locs 0 0 Q (F0 m 0 ls []) by rw [hH, hlo] at hg; exact hg
  refine lv_iload_n hx hb dX8_form_0 rfl (lv_at hl 3 rfl) ?_
  refine lv_iconst (v := -1) hx hb dX8_form_1 (by decide) ?_
  obtain ⟨v1, hj1, hk1⟩ := bd1_s hq
  have hJ1 : ∀ (j_10 : Int32), v1 = j_10 → (j_10 = 0 ∨ j_10 = 1) → ∀ (H : Heap) (locs : List Loc), va_P D cls9 (wM cI ad states whyKind whyOrder many wide textLong spot readColumns all past refused work kept chosen across sum one two base quotients text numbers entries before) H → va_D A (wM cI ad states whyKind whyOrder many wide textLong spot readColumns all past refused work kept chosen across sum one two base quotients text numbers entries before) → va_S A s.heap H locs → ∀ (ls : Array Slot), lv_has ls 6 [(0, .ref (ad 0)), (1, .int a0), (2, .int a1), (3, .int a2), (4, .int a3)] → W p l e rm_X8_form s m args below meth c H locs 0 0 Q (F0 m 42 ls [.int j_10]) := by
    intro j_10 hq zj_10 H locs hP hD hS ls hl
    have hq := hk1 _ hq
    refine lv_istore (lv' := [(5, .int j_10), (0, .ref (ad 0)), (1, .int a0), (2, .int a1), (3, .int a2), (4, .int a3)]) hx hb dX8_form_42 hl (by decide) rfl (fun ls hl => ?_)
    refine lv_aload_n hx hb dX8_form_44 rfl (lv_at hl 1 rfl) ?_
    refine lv_iload_n hx hb dX8_form_45 rfl (lv_at hl 2 rfl) ?_
    obtain ⟨v_13, hq_12, hk⟩ := bd1_s hq
    obtain ⟨r_11, rfl⟩ : ∃ y, y = v_13 := ⟨_, rfl⟩
    have hq := hk _ rfl
    refine callZA (gV (rest := []) ⟨hx, hb, hml, hown, hts⟩ hG hP hD 0 8 rfl rfl (mtX8_isSet l D cI cB cR ad H.size states whyKind whyOrder many wide textLong spot readColumns all past refused work kept chosen across sum one two base quotients text numbers entries before a0 r_11 hq_12) (cwV 1 hts gX8_form_X8_isSet rfl rfl rfl ⟨rfl, hd_X8_isSet⟩ ⟨Nat.le_of_ble_eq_true rfl, Nat.le_of_ble_eq_true rfl⟩) rfl hl.1 rfl (Nat.le_of_ble_eq_true rfl) dX8_form_46) hD hS hA (fun H locs z_14 hP hD hS => ?_)
    have hP : va_P D cls9 (wM cI ad states whyKind whyOrder many wide textLong spot readColumns all past refused work kept chosen across sum one two base quotients text numbers entries before) H := hP
    have hD : va_D A (wM cI ad states whyKind whyOrder many wide textLong spot readColumns all past refused work kept chosen across sum one two base quotients text numbers entries before) := hD
    refine lv_if_eq (tgt := 73) hx hb dX8_form_49 (by decide) (fun c_15 => ?_) (fun c_15 => ?_)
    · have hq := it_t c_15 hq
      refine lv_aload_n hx hb dX8_form_73 rfl (lv_at hl 1 rfl) ?_
      refine lv_bipush (v := -2) hx hb dX8_form_74 (by decide) ?_
      obtain ⟨v_19, hq_18, hk⟩ := bd2_s hq
      obtain ⟨r_16, u_17⟩ := v_19
      have hq := hk _ _ rfl
      refine callIA (gV (rest := []) ⟨hx, hb, hml, hown, hts⟩ hG hP hD 0 8 rfl rfl (mtX8_refuses l D cI cB cR ad H.size states whyKind whyOrder many wide textLong spot readColumns all past refused work kept chosen across sum one two base quotients text numbers entries before (-2 : Int32) (r_16, u_17) hq_18) (cwV 1 hts gX8_form_X8_refuses rfl rfl rfl ⟨rfl, hd_X8_refuses⟩ ⟨Nat.le_of_ble_eq_true rfl, Nat.le_of_ble_eq_true rfl⟩) rfl hl.1 rfl (Nat.le_of_ble_eq_true rfl) dX8_form_76) hD hS hA (fun H locs hP hD hS => ?_)
      have hP : va_P D cls9 (wM cI ad states whyKind whyOrder many wide textLong spot readColumns all past u_17 work kept chosen across sum one two base quotients text numbers entries before) H := hP
      have hD : va_D A (wM cI ad states whyKind whyOrder many wide textLong spot readColumns all past u_17 work kept chosen across sum one two base quotients text numbers entries before) := hD
      have he := Option.some.inj hq
      subst he
      exact hE H locs _ _ _ rfl dX8_form_79 hP hD hS
    · have hq := it_f c_15 hq
      refine lv_iload_n hx hb dX8_form_52 rfl (lv_at hl 3 rfl) ?_
      refine lv_if_lt (tgt := 73) hx hb dX8_form_53 (by decide) (fun c_20 => ?_) (fun c_20 => ?_)
      · have hq := it_t c_20 hq
        refine lv_aload_n hx hb dX8_form_73 rfl (lv_at hl 1 rfl) ?_
        refine lv_bipush (v := -2) hx hb dX8_form_74 (by decide) ?_
        obtain ⟨v_24, hq_23, hk⟩ := bd2_s hq
        obtain ⟨r_21, u_22⟩ := v_24
        have hq := hk _ _ rfl
        refine callIA (gV (rest := []) ⟨hx, hb, hml, hown, hts⟩ hG hP hD 0 8 rfl rfl (mtX8_refuses l D cI cB cR ad H.size states whyKind whyOrder many wide textLong spot readColumns all past refused work kept chosen across sum one two base quotients text numbers entries before (-2 : Int32) (r_21, u_22) hq_23) (cwV 1 hts gX8_form_X8_refuses rfl rfl rfl ⟨rfl, hd_X8_refuses⟩ ⟨Nat.le_of_ble_eq_true rfl, Nat.le_of_ble_eq_true rfl⟩) rfl hl.1 rfl (Nat.le_of_ble_eq_true rfl) dX8_form_76) hD hS hA (fun H locs hP hD hS => ?_)
        have hP : va_P D cls9 (wM cI ad states whyKind whyOrder many wide textLong spot readColumns all past u_22 work kept chosen across sum one two base quotients text numbers entries before) H := hP
        have hD : va_D A (wM cI ad states whyKind whyOrder many wide textLong spot readColumns all past u_22 work kept chosen across sum one two base quotients text numbers entries before) := hD
        have he := Option.some.inj hq
        subst he
        exact hE H locs _ _ _ rfl dX8_form_79 hP hD hS
      · have hq := it_f c_20 hq
        refine lv_iload hx hb dX8_form_56 (lv_at hl 0 rfl) ?_
        refine lv_if_eq (tgt := 73) hx hb dX8_form_58 (by decide) (fun c_25 => ?_) (fun c_25 => ?_)
        · have hq := it_t c_25 hq
          refine lv_aload_n hx hb dX8_form_73 rfl (lv_at hl 1 rfl) ?_
          refine lv_bipush (v := -2) hx hb dX8_form_74 (by decide) ?_
          obtain ⟨v_29, hq_28, hk⟩ := bd2_s hq
          obtain ⟨r_26, u_27⟩ := v_29
          have hq := hk _ _ rfl
          refine callIA (gV (rest := []) ⟨hx, hb, hml, hown, hts⟩ hG hP hD 0 8 rfl rfl (mtX8_refuses l D cI cB cR ad H.size states whyKind whyOrder many wide textLong spot readColumns all past refused work kept chosen across sum one two base quotients text numbers entries before (-2 : Int32) (r_26, u_27) hq_28) (cwV 1 hts gX8_form_X8_refuses rfl rfl rfl ⟨rfl, hd_X8_refuses⟩ ⟨Nat.le_of_ble_eq_true rfl, Nat.le_of_ble_eq_true rfl⟩) rfl hl.1 rfl (Nat.le_of_ble_eq_true rfl) dX8_form_76) hD hS hA (fun H locs hP hD hS => ?_)
          have hP : va_P D cls9 (wM cI ad states whyKind whyOrder many wide textLong spot readColumns all past u_27 work kept chosen across sum one two base quotients text numbers entries before) H := hP
          have hD : va_D A (wM cI ad states whyKind whyOrder many wide textLong spot readColumns all past u_27 work kept chosen across sum one two base quotients text numbers entries before) := hD
          have he := Option.some.inj hq
          subst he
          exact hE H locs _ _ _ rfl dX8_form_79 hP hD hS
        · have hq := it_f c_25 hq
          refine lv_aload_n hx hb dX8_form_61 rfl (lv_at hl 1 rfl) ?_
          refine lv_iload_n hx hb dX8_form_62 rfl (lv_at hl 2 rfl) ?_
          refine lv_iload_n hx hb dX8_form_63 rfl (lv_at hl 3 rfl) ?_
          refine lv_iload_n hx hb dX8_form_64 rfl (lv_at hl 4 rfl) ?_
          refine lv_iload hx hb dX8_form_65 (lv_at hl 5 rfl) ?_
          obtain ⟨v_35, hq_34, hk⟩ := bd4_s hq
          obtain ⟨r_30, u_31, u_32, u_33⟩ := v_35
          have hq := hk _ _ _ _ rfl
          refine callIA (gV (rest := []) ⟨hx, hb, hml, hown, hts⟩ hG hP hD 0 8 rfl rfl (mtX8_formOf l D cI cB cR ad H.size states whyKind whyOrder many wide textLong spot readColumns all past refused work kept chosen across sum one two base quotients text numbers entries before a0 a1 a2 a3 (r_30, u_31, u_32, u_33) hq_34) (cwV 4 hts gX8_form_X8_formOf rfl rfl rfl ⟨rfl, hd_X8_formOf⟩ ⟨Nat.le_of_ble_eq_true rfl, Nat.le_of_ble_eq_true rfl⟩) rfl hl.1 rfl (Nat.le_of_ble_eq_true rfl) dX8_form_67) hD hS hA (fun H locs hP hD hS => ?_)
          have hP : va_P D cls9 (wM cI ad states whyKind whyOrder u_31 u_32 textLong spot readColumns all past refused u_33 kept chosen across sum one two base quotients text numbers entries before) H := hP
          have hD : va_D A (wM cI ad states whyKind whyOrder u_31 u_32 textLong spot readColumns all past refused u_33 kept chosen across sum one two base quotients text numbers entries before) := hD
          refine lv_goto (tgt := 79) hx hb dX8_form_70 (by decide) ?_
          have he := Option.some.inj hq
          subst he
          exact hE H locs _ _ _ rfl dX8_form_79 hP hD hS
  refine lv_icmp_ne (tgt := 16) hx hb dX8_form_2 (by decide) (fun c_1 => ?_) (fun c_1 => ?_)
  · have hj1 := it_f c_1 hj1
    refine lv_aload_n hx hb dX8_form_16 rfl (lv_at hl 0 rfl) ?_
    refine lv_iload_n hx hb dX8_form_17 rfl (lv_at hl 3 rfl) ?_
    obtain ⟨v_4, hq_3, hk⟩ := bd1_s hj1
    obtain ⟨r_2, rfl⟩ : ∃ y, y = v_4 := ⟨_, rfl⟩
    have hj1 := hk _ rfl
    refine callZA (gV (rest := []) ⟨hx, hb, hml, hown, hts⟩ hG hP hD 0 8 rfl rfl (mtX8_isColumn l D cI cB cR ad H.size states whyKind whyOrder many wide textLong spot readColumns all past refused work kept chosen across sum one two base quotients text numbers entries before a2 r_2 hq_3) (cwV 1 hts gX8_form_X8_isColumn rfl rfl rfl ⟨rfl, hd_X8_isColumn⟩ ⟨Nat.le_of_ble_eq_true rfl, Nat.le_of_ble_eq_true rfl⟩) rfl hl.1 rfl (Nat.le_of_ble_eq_true rfl) dX8_form_18) hD hS hA (fun H locs z_5 hP hD hS => ?_)
    have hP : va_P D cls9 (wM cI ad states whyKind whyOrder many wide textLong spot readColumns all past refused work kept chosen across sum one two base quotients text numbers entries before) H := hP
    have hD : va_D A (wM cI ad states whyKind whyOrder many wide textLong spot readColumns all past refused work kept chosen across sum one two base quotients text numbers entries before) := hD
    refine lv_if_eq (tgt := 41) hx hb dX8_form_21 (by decide) (fun c_6 => ?_) (fun c_6 => ?_)
    · have hj1 := it_t c_6 hj1
      refine lv_iconst (v := 0) hx hb dX8_form_41 (by decide) ?_
      exact hJ1 (0 : Int32) (Option.some.inj hj1).symm (Or.inl rfl) H locs hP hD hS ls (lv_sub hl [0, 1, 2, 3, 4] rfl)
    · have hj1 := it_f c_6 hj1
      refine lv_iload hx hb dX8_form_24 (lv_at hl 4 rfl) ?_
      refine lv_i2l (v := (a3.toInt64)) hx hb dX8_form_26 rfl ?_
      refine lv_lconst (v := 0) hx hb dX8_form_27 (by decide) ?_
      refine lv_ldc2 (v := 6) hx hb hown (hts _ fX8_form_0) dX8_form_28 ?_
      refine callZ0 (gS (rest := []) ⟨hx, hb, hml, hown, hts⟩ hG vaP0 (vaD0 (A := A)) (mtX8_in l D cI cB cR H.size (a3.toInt64) (0 : Int64) (6 : Int64) _ rfl) (va_cwS 3 hts gX8_form_X8_in rfl rfl rfl hd_X8_in ⟨Nat.le_of_ble_eq_true rfl, Nat.le_of_ble_eq_true rfl⟩) rfl hl.1 rfl (Nat.le_of_ble_eq_true rfl) dX8_form_31) hP hS hA (fun H locs z_7 hP hS => ?_)
      refine lv_if_eq (tgt := 41) hx hb dX8_form_34 (by decide) (fun c_8 => ?_) (fun c_8 => ?_)
      · have hj1 := it_t c_8 hj1
        refine lv_iconst (v := 0) hx hb dX8_form_41 (by decide) ?_
        exact hJ1 (0 : Int32) (Option.some.inj hj1).symm (Or.inl rfl) H locs hP hD hS ls (lv_sub hl [0, 1, 2, 3, 4] rfl)
      · have hj1 := it_f c_8 hj1
        refine lv_iconst (v := 1) hx hb dX8_form_37 (by decide) ?_
        refine lv_goto (tgt := 42) hx hb dX8_form_38 (by decide) ?_
        exact hJ1 (1 : Int32) (Option.some.inj hj1).symm (Or.inr rfl) H locs hP hD hS ls (lv_sub hl [0, 1, 2, 3, 4] rfl)
  · have hj1 := it_t c_1 hj1
    refine lv_iload hx hb dX8_form_5 (lv_at hl 4 rfl) ?_
    refine lv_i2l (v := (a3.toInt64)) hx hb dX8_form_7 rfl ?_
    refine lv_lconst (v := 0) hx hb dX8_form_8 (by decide) ?_
    refine lv_lconst (v := 1) hx hb dX8_form_9 (by decide) ?_
    refine callZ0 (gS (rest := []) ⟨hx, hb, hml, hown, hts⟩ hG vaP0 (vaD0 (A := A)) (mtX8_in l D cI cB cR H.size (a3.toInt64) (0 : Int64) (1 : Int64) _ rfl) (va_cwS 3 hts gX8_form_X8_in rfl rfl rfl hd_X8_in ⟨Nat.le_of_ble_eq_true rfl, Nat.le_of_ble_eq_true rfl⟩) rfl hl.1 rfl (Nat.le_of_ble_eq_true rfl) dX8_form_10) hP hS hA (fun H locs z_9 hP hS => ?_)
    refine lv_goto (tgt := 42) hx hb dX8_form_13 (by decide) ?_
    exact hJ1 (fX8_in (a3.toInt64) (0 : Int64) (1 : Int64)) (Option.some.inj hj1).symm z_9 H locs hP hD hS ls (lv_sub hl [0, 1, 2, 3, 4] rfl)
abbrev rm_X8_leastOf : Room := { frames := 7, cells := 0, slots := 0, locals := 170 }
theorem iX8_leastOf_X8 : ∀ w ∈ wsX80, w ∈ wsX8_leastOf := fun _ h => (List.mem_cons_of_mem _ (List.mem_append_right _ h))
theorem fX8_leastOf_1 : Cond.fieldLink RX8 178 "PopovRowsModel" "many" "I" ∈ wsX8_leastOf := (List.mem_cons_of_mem _ (List.mem_append_left _ (List.mem_append_left _ (List.mem_of_getElem? (i := 0) rfl))))
set_option maxHeartbeats 4000000 in
set_option maxRecDepth 100000 in
theorem mtX8_leastOf (l : Launch) (D : va_G) (cI cB cR : ClassId) (ad : Nat → Nat) (sz : Nat) (states : Int32) (whyKind : Int32) (whyOrder : Int32) (many : Int32) (wide : Int32) (textLong : Int32) (spot : Int32) (readColumns : Int32) (all : Nat → Int32) (past : Nat → Int32) (refused : Nat → Int32) (work : Nat → Int32) (kept : Nat → Int32) (chosen : Nat → Int32) (across : Nat → Int32) (sum : Nat → Int32) (one : Nat → Int32) (two : Nat → Int32) (base : Nat → Int32) (quotients : Nat → Int32) (text : Nat → Int32) (numbers : Nat → Int32) (entries : Nat → Int32) (before : Nat → Int32) (a0 : Int32) (res : Int32 × Int32 × Int32 × (Nat → Int32)) (hf : fX8_leastOf all work a0 = some res) : Met l yX8_leastOf wsX8_leastOf rm_X8_leastOf (qP D cI cB cR [.ref (ad 0), .int a0] (wM cI ad states whyKind whyOrder many wide textLong spot readColumns all past refused work kept chosen across sum one two base quotients text numbers entries before) sz) (qI D res.1 (wM cI ad states whyKind whyOrder many wide textLong spot readColumns all past refused work kept chosen across sum one two base quotients text numbers entries before) (wM cI ad states whyKind whyOrder res.2.1 res.2.2.1 textLong spot readColumns all past refused res.2.2.2 kept chosen across sum one two base quotients text numbers entries before) sz) 0 0 (va_A (wM cI ad states whyKind whyOrder many wide textLong spot readColumns all past refused work kept chosen across sum one two base quotients text numbers entries before) sz) := by
  refine entI (plainFor_of_name (by decide)) rfl (Nat.le_of_ble_eq_true rfl) ?_
  intro p e s m args below meth c Q A ls S hG hP hD hA hl hE
  obtain ⟨hx, hb, hml, hown, hts⟩ := S
  have hown : s.vm.findClass RX8 = some m.cls := hown
  have hS : va_S A s.heap s.heap [] := va_S.rf
  have hl : lv_has ls 4 [(0, .ref (ad 0)), (1, .int a0)] := hl
  have hq := hf
  unfold fX8_leastOf at hq
  obtain ⟨H, hH⟩ : ∃ H, H = s.heap := ⟨_, rfl⟩
  obtain ⟨locs, hlo⟩ : ∃ L : List Loc, L = [] := ⟨_, rfl⟩
  have hP : va_P D cls9 (wM cI ad states whyKind whyOrder many wide textLong spot readColumns all past refused work kept chosen across sum one two base quotients text numbers entries before) H := hH ▸ hP
  have hS : va_S A s.heap H locs := by rw [hH, hlo]; exact hS
  suffices hg : W p l e rm_X8_leastOf s m args below meth c H locs 0 0 Q (F0 m 0 ls []) by rw [hH, hlo] at hg; exact hg
  refine lv_aload_n hx hb dX8_leastOf_0 rfl (lv_at hl 0 rfl) ?_
  refine lv_iload_n hx hb dX8_leastOf_1 rfl (lv_at hl 1 rfl) ?_
  obtain ⟨v_5, hq_4, hk⟩ := bd3_s hq
  obtain ⟨u_1, u_2, u_3⟩ := v_5
  have hq := hk _ _ _ rfl
  refine callVA (gV (rest := []) ⟨hx, hb, hml, hown, hts⟩ hG hP hD 0 8 rfl rfl (mtX8_formsOf l D cI cB cR ad H.size states whyKind whyOrder many wide textLong spot readColumns all past refused work kept chosen across sum one two base quotients text numbers entries before a0 (u_1, u_2, u_3) hq_4) (cwV 1 hts gX8_leastOf_X8_formsOf rfl rfl rfl ⟨rfl, hd_X8_formsOf⟩ ⟨Nat.le_of_ble_eq_true rfl, Nat.le_of_ble_eq_true rfl⟩) rfl hl.1 rfl (Nat.le_of_ble_eq_true rfl) dX8_leastOf_2) hD hS hA (fun H locs hP hD hS => ?_)
  have hP : va_P D cls9 (wM cI ad states whyKind whyOrder u_1 u_2 textLong spot readColumns all past refused u_3 kept chosen across sum one two base quotients text numbers entries before) H := hP
  have hD : va_D A (wM cI ad states whyKind whyOrder u_1 u_2 textLong spot readColumns all past refused u_3 kept chosen across sum one two base quotients text numbers entries before) := hD
  refine lv_iconst (v := 0) hx hb dX8_leastOf_5 (by decide) ?_
  refine lv_istore_n (lv' := [(2, .int (0 : Int32)), (0, .ref (ad 0)), (1, .int a0)]) hx hb dX8_leastOf_6 rfl hl (by decide) rfl (fun ls hl => ?_)
  refine lv_iconst (v := 0) hx hb dX8_leastOf_7 (by decide) ?_
  refine lv_istore_n (lv' := [(3, .int (0 : Int32)), (2, .int (0 : Int32)), (0, .ref (ad 0)), (1, .int a0)]) hx hb dX8_leastOf_8 rfl hl (by decide) rfl (fun ls hl => ?_)
  obtain ⟨w1, hw1, hk1⟩ := bd1_s hq
  have hX1 : ∀ (x_12 : Int32), w1 = x_12 → ∀ (H : Heap) (locs : List Loc), va_P D cls9 (wM cI ad states whyKind whyOrder u_1 u_2 textLong spot readColumns all past refused u_3 kept chosen across sum one two base quotients text numbers entries before) H → va_D A (wM cI ad states whyKind whyOrder u_1 u_2 textLong spot readColumns all past refused u_3 kept chosen across sum one two base quotients text numbers entries before) → va_S A s.heap H locs → ∀ (ls : Array Slot), lv_has ls 4 [(2, .int x_12)] → W p l e rm_X8_leastOf s m args below meth c H locs 0 0 Q (F0 m 31 ls []) := by
    intro x_12 hq H locs hP hD hS ls hl
    have hq := hk1 _ hq
    refine lv_iload_n hx hb dX8_leastOf_31 rfl (lv_at hl 0 rfl) ?_
    have he := Option.some.inj hq
    subst he
    exact hE H locs _ _ _ rfl dX8_leastOf_32 hP hD hS
  have hL1 : ∀ (n : Nat) (i_6 : Int32) (i_7 : Int32), lrun (fun (z : Int32 × Int32) => fX8_leastOf_s9 u_1 u_2 u_3 z.1 z.2) n (i_6, i_7) = some w1 → ∀ (H : Heap) (locs : List Loc), va_P D cls9 (wM cI ad states whyKind whyOrder u_1 u_2 textLong spot readColumns all past refused u_3 kept chosen across sum one two base quotients text numbers entries before) H → va_D A (wM cI ad states whyKind whyOrder u_1 u_2 textLong spot readColumns all past refused u_3 kept chosen across sum one two base quotients text numbers entries before) → va_S A s.heap H locs → ∀ (ls : Array Slot), lv_has ls 4 [(0, .ref (ad 0)), (2, .int i_6), (3, .int i_7)] → W p l e rm_X8_leastOf s m args below meth c H locs 0 0 Q (F0 m 9 ls []) := by
    intro n
    induction n with
    | zero => intro i_6 i_7 h; cases h
    | succ n ih1 =>
      intro i_6 i_7 hr1 H locs hP hD hS ls hl
      obtain ⟨k, v1, hk, hr1, ht1, hv1⟩ := lrun_s hr1
      cases hk
      have hr1 : fX8_leastOf_s9 u_1 u_2 u_3 i_6 i_7 = some v1 := hr1
      unfold fX8_leastOf_s9 at hr1
      refine lv_iload_n hx hb dX8_leastOf_9 rfl (lv_at hl 2 rfl) ?_
      refine lv_aload_n hx hb dX8_leastOf_10 rfl (lv_at hl 0 rfl) ?_
      refine va_get (D := D) (ci := 8) (v := .int u_1) (C := RX8) (T := TX8) (N := 24) hx hb hts iX8_leastOf_X8 hown hG.1 hP 0 rfl rfl 7 (by decide) (hts _ fX8_leastOf_1) (fun _ h9 => h9) rfl dX8_leastOf_11 ?_
      refine lv_icmp_ge (tgt := 31) hx hb dX8_leastOf_14 (by decide) (fun c_8 => ?_) (fun c_8 => ?_)
      · have hr1 := it_t c_8 hr1
        exact hX1 i_6 (hv1 _ (Option.some.inj hr1).symm).symm H locs hP hD hS ls (lv_sub hl [1] rfl)
      · have hr1 := it_f c_8 hr1
        refine lv_iload_n hx hb dX8_leastOf_17 rfl (lv_at hl 1 rfl) ?_
        refine lv_aload_n hx hb dX8_leastOf_18 rfl (lv_at hl 0 rfl) ?_
        refine lv_iload_n hx hb dX8_leastOf_19 rfl (lv_at hl 2 rfl) ?_
        obtain ⟨v_11, hq_10, hk⟩ := bd1_s hr1
        obtain ⟨r_9, rfl⟩ : ∃ y, y = v_11 := ⟨_, rfl⟩
        have hr1 := hk _ rfl
        refine callIA (gV (rest := [.int i_6]) ⟨hx, hb, hml, hown, hts⟩ hG hP hD 0 8 rfl rfl (mtX8_workDegree l D cI cB cR ad H.size states whyKind whyOrder u_1 u_2 textLong spot readColumns all past refused u_3 kept chosen across sum one two base quotients text numbers entries before i_7 r_9 hq_10) (cwV 1 hts gX8_leastOf_X8_workDegree rfl rfl rfl ⟨rfl, hd_X8_workDegree⟩ ⟨Nat.le_of_ble_eq_true rfl, Nat.le_of_ble_eq_true rfl⟩) rfl hl.1 rfl (Nat.le_of_ble_eq_true rfl) dX8_leastOf_20) hD hS hA (fun H locs hP hD hS => ?_)
        have hP : va_P D cls9 (wM cI ad states whyKind whyOrder u_1 u_2 textLong spot readColumns all past refused u_3 kept chosen across sum one two base quotients text numbers entries before) H := hP
        have hD : va_D A (wM cI ad states whyKind whyOrder u_1 u_2 textLong spot readColumns all past refused u_3 kept chosen across sum one two base quotients text numbers entries before) := hD
        refine lv_iadd hx hb dX8_leastOf_23 ?_
        refine lv_istore_n (lv' := [(2, .int (i_6 + r_9)), (0, .ref (ad 0)), (3, .int i_7)]) hx hb dX8_leastOf_24 rfl hl (by decide) rfl (fun ls hl => ?_)
        refine lv_iinc (v := (i_7 + 1)) (lv' := [(3, .int (i_7 + 1)), (2, .int (i_6 + r_9)), (0, .ref (ad 0))]) hx hb dX8_leastOf_25 hl (k := 2) rfl rfl (by decide) rfl (fun ls hl => ?_)
        refine lv_goto (tgt := 9) hx hb dX8_leastOf_28 (by decide) ?_
        exact ih1 (i_6 + r_9) (i_7 + 1) (ht1 _ (Option.some.inj hr1).symm) H locs hP hD hS ls (lv_sub hl [2, 1, 0] rfl)
  obtain ⟨n1, hn1⟩ := Lp_s hw1
  exact hL1 n1 (0 : Int32) (0 : Int32) hn1 H locs hP hD hS ls (lv_sub hl [2, 1, 0] rfl)
abbrev rm_X8_least : Room := { frames := 8, cells := 0, slots := 0, locals := 193 }
set_option maxHeartbeats 4000000 in
set_option maxRecDepth 100000 in
theorem mtX8_least (l : Launch) (D : va_G) (cI cB cR : ClassId) (ad : Nat → Nat) (sz : Nat) (states : Int32) (whyKind : Int32) (whyOrder : Int32) (many : Int32) (wide : Int32) (textLong : Int32) (spot : Int32) (readColumns : Int32) (all : Nat → Int32) (past : Nat → Int32) (refused : Nat → Int32) (work : Nat → Int32) (kept : Nat → Int32) (chosen : Nat → Int32) (across : Nat → Int32) (sum : Nat → Int32) (one : Nat → Int32) (two : Nat → Int32) (base : Nat → Int32) (quotients : Nat → Int32) (text : Nat → Int32) (numbers : Nat → Int32) (entries : Nat → Int32) (before : Nat → Int32) (a0 : Int32) (res : Int32 × Int32 × Int32 × (Nat → Int32) × (Nat → Int32)) (hf : fX8_least many wide all refused work a0 = some res) : Met l yX8_least wsX8_least rm_X8_least (qP D cI cB cR [.ref (ad 0), .int a0] (wM cI ad states whyKind whyOrder many wide textLong spot readColumns all past refused work kept chosen across sum one two base quotients text numbers entries before) sz) (qI D res.1 (wM cI ad states whyKind whyOrder many wide textLong spot readColumns all past refused work kept chosen across sum one two base quotients text numbers entries before) (wM cI ad states whyKind whyOrder res.2.1 res.2.2.1 textLong spot readColumns all past res.2.2.2.1 res.2.2.2.2 kept chosen across sum one two base quotients text numbers entries before) sz) 0 0 (va_A (wM cI ad states whyKind whyOrder many wide textLong spot readColumns all past refused work kept chosen across sum one two base quotients text numbers entries before) sz) := by
  refine entI (plainFor_of_name (by decide)) rfl (Nat.le_of_ble_eq_true rfl) ?_
  intro p e s m args below meth c Q A ls S hG hP hD hA hl hE
  obtain ⟨hx, hb, hml, hown, hts⟩ := S
  have hown : s.vm.findClass RX8 = some m.cls := hown
  have hS : va_S A s.heap s.heap [] := va_S.rf
  have hl : lv_has ls 2 [(0, .ref (ad 0)), (1, .int a0)] := hl
  have hq := hf
  unfold fX8_least at hq
  obtain ⟨H, hH⟩ : ∃ H, H = s.heap := ⟨_, rfl⟩
  obtain ⟨locs, hlo⟩ : ∃ L : List Loc, L = [] := ⟨_, rfl⟩
  have hP : va_P D cls9 (wM cI ad states whyKind whyOrder many wide textLong spot readColumns all past refused work kept chosen across sum one two base quotients text numbers entries before) H := hH ▸ hP
  have hS : va_S A s.heap H locs := by rw [hH, hlo]; exact hS
  suffices hg : W p l e rm_X8_least s m args below meth c H locs 0 0 Q (F0 m 0 ls []) by rw [hH, hlo] at hg; exact hg
  refine lv_aload_n hx hb dX8_least_0 rfl (lv_at hl 0 rfl) ?_
  refine lv_iload_n hx hb dX8_least_1 rfl (lv_at hl 1 rfl) ?_
  obtain ⟨v_3, hq_2, hk⟩ := bd1_s hq
  obtain ⟨r_1, rfl⟩ : ∃ y, y = v_3 := ⟨_, rfl⟩
  have hq := hk _ rfl
  refine callZA (gV (rest := []) ⟨hx, hb, hml, hown, hts⟩ hG hP hD 0 8 rfl rfl (mtX8_isSet l D cI cB cR ad H.size states whyKind whyOrder many wide textLong spot readColumns all past refused work kept chosen across sum one two base quotients text numbers entries before a0 r_1 hq_2) (cwV 1 hts gX8_least_X8_isSet rfl rfl rfl ⟨rfl, hd_X8_isSet⟩ ⟨Nat.le_of_ble_eq_true rfl, Nat.le_of_ble_eq_true rfl⟩) rfl hl.1 rfl (Nat.le_of_ble_eq_true rfl) dX8_least_2) hD hS hA (fun H locs z_4 hP hD hS => ?_)
  have hP : va_P D cls9 (wM cI ad states whyKind whyOrder many wide textLong spot readColumns all past refused work kept chosen across sum one two base quotients text numbers entries before) H := hP
  have hD : va_D A (wM cI ad states whyKind whyOrder many wide textLong spot readColumns all past refused work kept chosen across sum one two base quotients text numbers entries before) := hD
  refine lv_if_eq (tgt := 16) hx hb dX8_least_5 (by decide) (fun c_5 => ?_) (fun c_5 => ?_)
  · have hq := it_t c_5 hq
    refine lv_aload_n hx hb dX8_least_16 rfl (lv_at hl 0 rfl) ?_
    refine lv_bipush (v := -2) hx hb dX8_least_17 (by decide) ?_
    obtain ⟨v_9, hq_8, hk⟩ := bd2_s hq
    obtain ⟨r_6, u_7⟩ := v_9
    have hq := hk _ _ rfl
    refine callIA (gV (rest := []) ⟨hx, hb, hml, hown, hts⟩ hG hP hD 0 8 rfl rfl (mtX8_refuses l D cI cB cR ad H.size states whyKind whyOrder many wide textLong spot readColumns all past refused work kept chosen across sum one two base quotients text numbers entries before (-2 : Int32) (r_6, u_7) hq_8) (cwV 1 hts gX8_least_X8_refuses rfl rfl rfl ⟨rfl, hd_X8_refuses⟩ ⟨Nat.le_of_ble_eq_true rfl, Nat.le_of_ble_eq_true rfl⟩) rfl hl.1 rfl (Nat.le_of_ble_eq_true rfl) dX8_least_19) hD hS hA (fun H locs hP hD hS => ?_)
    have hP : va_P D cls9 (wM cI ad states whyKind whyOrder many wide textLong spot readColumns all past u_7 work kept chosen across sum one two base quotients text numbers entries before) H := hP
    have hD : va_D A (wM cI ad states whyKind whyOrder many wide textLong spot readColumns all past u_7 work kept chosen across sum one two base quotients text numbers entries before) := hD
    have he := Option.some.inj hq
    subst he
    exact hE H locs _ _ _ rfl dX8_least_22 hP hD hS
  · have hq := it_f c_5 hq
    refine lv_aload_n hx hb dX8_least_8 rfl (lv_at hl 0 rfl) ?_
    refine lv_iload_n hx hb dX8_least_9 rfl (lv_at hl 1 rfl) ?_
    obtain ⟨v_15, hq_14, hk⟩ := bd4_s hq
    obtain ⟨r_10, u_11, u_12, u_13⟩ := v_15
    have hq := hk _ _ _ _ rfl
    refine callIA (gV (rest := []) ⟨hx, hb, hml, hown, hts⟩ hG hP hD 0 8 rfl rfl (mtX8_leastOf l D cI cB cR ad H.size states whyKind whyOrder many wide textLong spot readColumns all past refused work kept chosen across sum one two base quotients text numbers entries before a0 (r_10, u_11, u_12, u_13) hq_14) (cwV 1 hts gX8_least_X8_leastOf rfl rfl rfl ⟨rfl, hd_X8_leastOf⟩ ⟨Nat.le_of_ble_eq_true rfl, Nat.le_of_ble_eq_true rfl⟩) rfl hl.1 rfl (Nat.le_of_ble_eq_true rfl) dX8_least_10) hD hS hA (fun H locs hP hD hS => ?_)
    have hP : va_P D cls9 (wM cI ad states whyKind whyOrder u_11 u_12 textLong spot readColumns all past refused u_13 kept chosen across sum one two base quotients text numbers entries before) H := hP
    have hD : va_D A (wM cI ad states whyKind whyOrder u_11 u_12 textLong spot readColumns all past refused u_13 kept chosen across sum one two base quotients text numbers entries before) := hD
    refine lv_goto (tgt := 22) hx hb dX8_least_13 (by decide) ?_
    have he := Option.some.inj hq
    subst he
    exact hE H locs _ _ _ rfl dX8_least_22 hP hD hS
abbrev rm_X8_areSame : Room := { frames := 7, cells := 0, slots := 0, locals := 170 }
theorem iX8_areSame_X8 : ∀ w ∈ wsX80, w ∈ wsX8_areSame := fun _ h => (List.mem_cons_of_mem _ (List.mem_append_right _ h))
theorem fX8_areSame_1 : Cond.fieldLink RX8 178 "PopovRowsModel" "many" "I" ∈ wsX8_areSame := (List.mem_cons_of_mem _ (List.mem_append_left _ (List.mem_append_left _ (List.mem_of_getElem? (i := 0) rfl))))
theorem fX8_areSame_2 : Cond.fieldLink RX8 26 "PopovRowsModel" "kept" "[I" ∈ wsX8_areSame := (List.mem_cons_of_mem _ (List.mem_append_left _ (List.mem_append_left _ (List.mem_of_getElem? (i := 1) rfl))))
theorem fX8_areSame_3 : Cond.fieldLink RX8 23 "PopovRowsModel" "work" "[I" ∈ wsX8_areSame := (List.mem_cons_of_mem _ (List.mem_append_left _ (List.mem_append_left _ (List.mem_of_getElem? (i := 2) rfl))))
set_option maxHeartbeats 4000000 in
set_option maxRecDepth 100000 in
theorem mtX8_areSame (l : Launch) (D : va_G) (cI cB cR : ClassId) (ad : Nat → Nat) (sz : Nat) (states : Int32) (whyKind : Int32) (whyOrder : Int32) (many : Int32) (wide : Int32) (textLong : Int32) (spot : Int32) (readColumns : Int32) (all : Nat → Int32) (past : Nat → Int32) (refused : Nat → Int32) (work : Nat → Int32) (kept : Nat → Int32) (chosen : Nat → Int32) (across : Nat → Int32) (sum : Nat → Int32) (one : Nat → Int32) (two : Nat → Int32) (base : Nat → Int32) (quotients : Nat → Int32) (text : Nat → Int32) (numbers : Nat → Int32) (entries : Nat → Int32) (before : Nat → Int32) (a0 : Int32) (a1 : Int32) (res : Int32 × Int32 × Int32 × (Nat → Int32) × (Nat → Int32)) (hf : fX8_areSame all work kept a0 a1 = some res) : Met l yX8_areSame wsX8_areSame rm_X8_areSame (qP D cI cB cR [.ref (ad 0), .int a0, .int a1] (wM cI ad states whyKind whyOrder many wide textLong spot readColumns all past refused work kept chosen across sum one two base quotients text numbers entries before) sz) (qI D res.1 (wM cI ad states whyKind whyOrder many wide textLong spot readColumns all past refused work kept chosen across sum one two base quotients text numbers entries before) (wM cI ad states whyKind whyOrder res.2.1 res.2.2.1 textLong spot readColumns all past refused res.2.2.2.1 res.2.2.2.2 chosen across sum one two base quotients text numbers entries before) sz) 0 0 (va_A (wM cI ad states whyKind whyOrder many wide textLong spot readColumns all past refused work kept chosen across sum one two base quotients text numbers entries before) sz) := by
  refine entI (plainFor_of_name (by decide)) rfl (Nat.le_of_ble_eq_true rfl) ?_
  intro p e s m args below meth c Q A ls S hG hP hD hA hl hE
  obtain ⟨hx, hb, hml, hown, hts⟩ := S
  have hown : s.vm.findClass RX8 = some m.cls := hown
  have hS : va_S A s.heap s.heap [] := va_S.rf
  have hl : lv_has ls 6 [(0, .ref (ad 0)), (1, .int a0), (2, .int a1)] := hl
  have hq := hf
  unfold fX8_areSame at hq
  obtain ⟨H, hH⟩ : ∃ H, H = s.heap := ⟨_, rfl⟩
  obtain ⟨locs, hlo⟩ : ∃ L : List Loc, L = [] := ⟨_, rfl⟩
  have hP : va_P D cls9 (wM cI ad states whyKind whyOrder many wide textLong spot readColumns all past refused work kept chosen across sum one two base quotients text numbers entries before) H := hH ▸ hP
  have hS : va_S A s.heap H locs := by rw [hH, hlo]; exact hS
  suffices hg : W p l e rm_X8_areSame s m args below meth c H locs 0 0 Q (F0 m 0 ls []) by rw [hH, hlo] at hg; exact hg
  refine lv_aload_n hx hb dX8_areSame_0 rfl (lv_at hl 0 rfl) ?_
  refine lv_iload_n hx hb dX8_areSame_1 rfl (lv_at hl 1 rfl) ?_
  obtain ⟨v_5, hq_4, hk⟩ := bd3_s hq
  obtain ⟨u_1, u_2, u_3⟩ := v_5
  have hq := hk _ _ _ rfl
  refine callVA (gV (rest := []) ⟨hx, hb, hml, hown, hts⟩ hG hP hD 0 8 rfl rfl (mtX8_formsOf l D cI cB cR ad H.size states whyKind whyOrder many wide textLong spot readColumns all past refused work kept chosen across sum one two base quotients text numbers entries before a0 (u_1, u_2, u_3) hq_4) (cwV 1 hts gX8_areSame_X8_formsOf rfl rfl rfl ⟨rfl, hd_X8_formsOf⟩ ⟨Nat.le_of_ble_eq_true rfl, Nat.le_of_ble_eq_true rfl⟩) rfl hl.1 rfl (Nat.le_of_ble_eq_true rfl) dX8_areSame_2) hD hS hA (fun H locs hP hD hS => ?_)
  have hP : va_P D cls9 (wM cI ad states whyKind whyOrder u_1 u_2 textLong spot readColumns all past refused u_3 kept chosen across sum one two base quotients text numbers entries before) H := hP
  have hD : va_D A (wM cI ad states whyKind whyOrder u_1 u_2 textLong spot readColumns all past refused u_3 kept chosen across sum one two base quotients text numbers entries before) := hD
  refine lv_aload_n hx hb dX8_areSame_5 rfl (lv_at hl 0 rfl) ?_
  refine va_get (D := D) (ci := 8) (v := .int u_1) (C := RX8) (T := TX8) (N := 24) hx hb hts iX8_areSame_X8 hown hG.1 hP 0 rfl rfl 7 (by decide) (hts _ fX8_areSame_1) (fun _ h9 => h9) rfl dX8_areSame_6 ?_
  refine lv_istore_n (lv' := [(3, .int u_1), (0, .ref (ad 0)), (1, .int a0), (2, .int a1)]) hx hb dX8_areSame_9 rfl hl (by decide) rfl (fun ls hl => ?_)
  refine lv_iconst (v := 0) hx hb dX8_areSame_10 (by decide) ?_
  refine lv_istore (lv' := [(4, .int (0 : Int32)), (3, .int u_1), (0, .ref (ad 0)), (1, .int a0), (2, .int a1)]) hx hb dX8_areSame_11 hl (by decide) rfl (fun ls hl => ?_)
  obtain ⟨w1, hw1, hk1⟩ := bd1_s hq
  have hX1 : ∀ (x_11 : Nat → Int32), w1 = x_11 → ∀ (H : Heap) (locs : List Loc), va_P D cls9 (wM cI ad states whyKind whyOrder u_1 u_2 textLong spot readColumns all past refused u_3 x_11 chosen across sum one two base quotients text numbers entries before) H → va_D A (wM cI ad states whyKind whyOrder u_1 u_2 textLong spot readColumns all past refused u_3 x_11 chosen across sum one two base quotients text numbers entries before) → va_S A s.heap H locs → ∀ (ls : Array Slot), lv_has ls 6 [(0, .ref (ad 0)), (2, .int a1), (3, .int u_1)] → W p l e rm_X8_areSame s m args below meth c H locs 0 0 Q (F0 m 42 ls []) := by
    intro x_11 hq H locs hP hD hS ls hl
    have hq := hk1 _ hq
    refine lv_aload_n hx hb dX8_areSame_42 rfl (lv_at hl 0 rfl) ?_
    refine lv_iload_n hx hb dX8_areSame_43 rfl (lv_at hl 1 rfl) ?_
    obtain ⟨v_16, hq_15, hk⟩ := bd3_s hq
    obtain ⟨u_12, u_13, u_14⟩ := v_16
    have hq := hk _ _ _ rfl
    refine callVA (gV (rest := []) ⟨hx, hb, hml, hown, hts⟩ hG hP hD 0 8 rfl rfl (mtX8_formsOf l D cI cB cR ad H.size states whyKind whyOrder u_1 u_2 textLong spot readColumns all past refused u_3 x_11 chosen across sum one two base quotients text numbers entries before a1 (u_12, u_13, u_14) hq_15) (cwV 1 hts gX8_areSame_X8_formsOf rfl rfl rfl ⟨rfl, hd_X8_formsOf⟩ ⟨Nat.le_of_ble_eq_true rfl, Nat.le_of_ble_eq_true rfl⟩) rfl hl.1 rfl (Nat.le_of_ble_eq_true rfl) dX8_areSame_44) hD hS hA (fun H locs hP hD hS => ?_)
    have hP : va_P D cls9 (wM cI ad states whyKind whyOrder u_12 u_13 textLong spot readColumns all past refused u_14 x_11 chosen across sum one two base quotients text numbers entries before) H := hP
    have hD : va_D A (wM cI ad states whyKind whyOrder u_12 u_13 textLong spot readColumns all past refused u_14 x_11 chosen across sum one two base quotients text numbers entries before) := hD
    refine lv_iload_n hx hb dX8_areSame_47 rfl (lv_at hl 2 rfl) ?_
    refine lv_aload_n hx hb dX8_areSame_48 rfl (lv_at hl 0 rfl) ?_
    refine va_get (D := D) (ci := 8) (v := .int u_12) (C := RX8) (T := TX8) (N := 24) hx hb hts iX8_areSame_X8 hown hG.1 hP 0 rfl rfl 7 (by decide) (hts _ fX8_areSame_1) (fun _ h9 => h9) rfl dX8_areSame_49 ?_
    obtain ⟨v2, hj2, hk2⟩ := bd1_s hq
    have hJ2 : ∀ (j_18 : Int32), v2 = j_18 → (j_18 = 0 ∨ j_18 = 1) → ∀ (H : Heap) (locs : List Loc), va_P D cls9 (wM cI ad states whyKind whyOrder u_12 u_13 textLong spot readColumns all past refused u_14 x_11 chosen across sum one two base quotients text numbers entries before) H → va_D A (wM cI ad states whyKind whyOrder u_12 u_13 textLong spot readColumns all past refused u_14 x_11 chosen across sum one two base quotients text numbers entries before) → va_S A s.heap H locs → ∀ (ls : Array Slot), lv_has ls 6 [(0, .ref (ad 0)), (3, .int u_1)] → W p l e rm_X8_areSame s m args below meth c H locs 0 0 Q (F0 m 60 ls [.int j_18]) := by
      intro j_18 hq zj_18 H locs hP hD hS ls hl
      have hq := hk2 _ hq
      refine lv_istore (lv' := [(4, .int j_18), (0, .ref (ad 0)), (3, .int u_1)]) hx hb dX8_areSame_60 hl (by decide) rfl (fun ls hl => ?_)
      refine lv_iconst (v := 0) hx hb dX8_areSame_62 (by decide) ?_
      refine lv_istore (lv' := [(5, .int (0 : Int32)), (4, .int j_18), (0, .ref (ad 0)), (3, .int u_1)]) hx hb dX8_areSame_63 hl (by decide) rfl (fun ls hl => ?_)
      obtain ⟨w3, hw3, hk3⟩ := bd1_s hq
      have hX3 : ∀ (x_26 : Int32), w3 = x_26 → ∀ (H : Heap) (locs : List Loc), va_P D cls9 (wM cI ad states whyKind whyOrder u_12 u_13 textLong spot readColumns all past refused u_14 x_11 chosen across sum one two base quotients text numbers entries before) H → va_D A (wM cI ad states whyKind whyOrder u_12 u_13 textLong spot readColumns all past refused u_14 x_11 chosen across sum one two base quotients text numbers entries before) → va_S A s.heap H locs → ∀ (ls : Array Slot), lv_has ls 6 [(4, .int x_26)] → W p l e rm_X8_areSame s m args below meth c H locs 0 0 Q (F0 m 109 ls []) := by
        intro x_26 hq H locs hP hD hS ls hl
        have hq := hk3 _ hq
        refine lv_iload hx hb dX8_areSame_109 (lv_at hl 0 rfl) ?_
        refine lv_if_eq (tgt := 118) hx hb dX8_areSame_111 (by decide) (fun c_27 => ?_) (fun c_27 => ?_)
        · have hq := it_t c_27 hq
          refine lv_iconst (v := 0) hx hb dX8_areSame_118 (by decide) ?_
          have he := Option.some.inj hq
          subst he
          exact hE H locs _ _ _ rfl dX8_areSame_119 hP hD hS
        · have hq := it_f c_27 hq
          refine lv_iconst (v := 1) hx hb dX8_areSame_114 (by decide) ?_
          refine lv_goto (tgt := 119) hx hb dX8_areSame_115 (by decide) ?_
          have he := Option.some.inj hq
          subst he
          exact hE H locs _ _ _ rfl dX8_areSame_119 hP hD hS
      have hL3 : ∀ (n : Nat) (i_19 : Int32) (i_20 : Int32), lrun (fun (z : Int32 × Int32) => fX8_areSame_s65 u_1 u_14 x_11 z.1 z.2) n (i_19, i_20) = some w3 → ∀ (H : Heap) (locs : List Loc), va_P D cls9 (wM cI ad states whyKind whyOrder u_12 u_13 textLong spot readColumns all past refused u_14 x_11 chosen across sum one two base quotients text numbers entries before) H → va_D A (wM cI ad states whyKind whyOrder u_12 u_13 textLong spot readColumns all past refused u_14 x_11 chosen across sum one two base quotients text numbers entries before) → va_S A s.heap H locs → ∀ (ls : Array Slot), lv_has ls 6 [(0, .ref (ad 0)), (3, .int u_1), (4, .int i_19), (5, .int i_20)] → W p l e rm_X8_areSame s m args below meth c H locs 0 0 Q (F0 m 65 ls []) := by
        intro n
        induction n with
        | zero => intro i_19 i_20 h; cases h
        | succ n ih3 =>
          intro i_19 i_20 hr3 H locs hP hD hS ls hl
          obtain ⟨k, v3, hk, hr3, ht3, hv3⟩ := lrun_s hr3
          cases hk
          have hr3 : fX8_areSame_s65 u_1 u_14 x_11 i_19 i_20 = some v3 := hr3
          unfold fX8_areSame_s65 at hr3
          refine lv_iload hx hb dX8_areSame_65 (lv_at hl 3 rfl) ?_
          refine lv_bipush (v := 24) hx hb dX8_areSame_67 (by decide) ?_
          refine lv_iload_n hx hb dX8_areSame_69 rfl (lv_at hl 1 rfl) ?_
          refine lv_imul hx hb dX8_areSame_70 ?_
          refine lv_icmp_ge (tgt := 109) hx hb dX8_areSame_71 (by decide) (fun c_21 => ?_) (fun c_21 => ?_)
          · have hr3 := it_t c_21 hr3
            exact hX3 i_19 (hv3 _ (Option.some.inj hr3).symm).symm H locs hP hD hS ls (lv_sub hl [2] rfl)
          · have hr3 := it_f c_21 hr3
            refine lv_iload hx hb dX8_areSame_74 (lv_at hl 2 rfl) ?_
            refine lv_if_eq (tgt := 109) hx hb dX8_areSame_76 (by decide) (fun c_22 => ?_) (fun c_22 => ?_)
            · have hr3 := it_t c_22 hr3
              exact hX3 i_19 (hv3 _ (Option.some.inj hr3).symm).symm H locs hP hD hS ls (lv_sub hl [2] rfl)
            · have hr3 := it_f c_22 hr3
              refine lv_aload_n hx hb dX8_areSame_79 rfl (lv_at hl 0 rfl) ?_
              refine va_get (D := D) (ci := 8) (v := .ref (ad 5)) (C := RX8) (T := TX8) (N := 24) hx hb hts iX8_areSame_X8 hown hG.1 hP 0 rfl rfl 9 (by decide) (hts _ fX8_areSame_2) (fun _ h9 => h9) rfl dX8_areSame_80 ?_
              refine lv_iload hx hb dX8_areSame_83 (lv_at hl 3 rfl) ?_
              obtain ⟨h_23, hr3⟩ := gd_s hr3
              refine va_iald hx hb hG.1 hP 5 0 rfl rfl h_23 dX8_areSame_85 ?_
              refine lv_aload_n hx hb dX8_areSame_86 rfl (lv_at hl 0 rfl) ?_
              refine va_get (D := D) (ci := 8) (v := .ref (ad 4)) (C := RX8) (T := TX8) (N := 24) hx hb hts iX8_areSame_X8 hown hG.1 hP 0 rfl rfl 6 (by decide) (hts _ fX8_areSame_3) (fun _ h9 => h9) rfl dX8_areSame_87 ?_
              refine lv_iload hx hb dX8_areSame_90 (lv_at hl 3 rfl) ?_
              obtain ⟨h_24, hr3⟩ := gd_s hr3
              refine va_iald hx hb hG.1 hP 4 0 rfl rfl h_24 dX8_areSame_92 ?_
              refine lv_icmp_ne (tgt := 100) hx hb dX8_areSame_93 (by decide) (fun c_25 => ?_) (fun c_25 => ?_)
              · have hr3 := it_f c_25 hr3
                refine lv_iconst (v := 0) hx hb dX8_areSame_100 (by decide) ?_
                refine lv_istore (lv' := [(4, .int (0 : Int32)), (0, .ref (ad 0)), (3, .int u_1), (5, .int i_20)]) hx hb dX8_areSame_101 hl (by decide) rfl (fun ls hl => ?_)
                refine lv_iinc (v := (i_20 + 1)) (lv' := [(5, .int (i_20 + 1)), (4, .int (0 : Int32)), (0, .ref (ad 0)), (3, .int u_1)]) hx hb dX8_areSame_103 hl (k := 3) rfl rfl (by decide) rfl (fun ls hl => ?_)
                refine lv_goto (tgt := 65) hx hb dX8_areSame_106 (by decide) ?_
                exact ih3 (0 : Int32) (i_20 + 1) (ht3 _ (Option.some.inj hr3).symm) H locs hP hD hS ls (lv_sub hl [2, 3, 1, 0] rfl)
              · have hr3 := it_t c_25 hr3
                refine lv_iconst (v := 1) hx hb dX8_areSame_96 (by decide) ?_
                refine lv_goto (tgt := 101) hx hb dX8_areSame_97 (by decide) ?_
                refine lv_istore (lv' := [(4, .int (1 : Int32)), (0, .ref (ad 0)), (3, .int u_1), (5, .int i_20)]) hx hb dX8_areSame_101 hl (by decide) rfl (fun ls hl => ?_)
                refine lv_iinc (v := (i_20 + 1)) (lv' := [(5, .int (i_20 + 1)), (4, .int (1 : Int32)), (0, .ref (ad 0)), (3, .int u_1)]) hx hb dX8_areSame_103 hl (k := 3) rfl rfl (by decide) rfl (fun ls hl => ?_)
                refine lv_goto (tgt := 65) hx hb dX8_areSame_106 (by decide) ?_
                exact ih3 (1 : Int32) (i_20 + 1) (ht3 _ (Option.some.inj hr3).symm) H locs hP hD hS ls (lv_sub hl [2, 3, 1, 0] rfl)
      obtain ⟨n3, hn3⟩ := Lp_s hw3
      exact hL3 n3 j_18 (0 : Int32) hn3 H locs hP hD hS ls (lv_sub hl [2, 3, 1, 0] rfl)
    refine lv_icmp_ne (tgt := 59) hx hb dX8_areSame_52 (by decide) (fun c_17 => ?_) (fun c_17 => ?_)
    · have hj2 := it_f c_17 hj2
      refine lv_iconst (v := 0) hx hb dX8_areSame_59 (by decide) ?_
      exact hJ2 (0 : Int32) (Option.some.inj hj2).symm (Or.inl rfl) H locs hP hD hS ls (lv_sub hl [0, 2] rfl)
    · have hj2 := it_t c_17 hj2
      refine lv_iconst (v := 1) hx hb dX8_areSame_55 (by decide) ?_
      refine lv_goto (tgt := 60) hx hb dX8_areSame_56 (by decide) ?_
      exact hJ2 (1 : Int32) (Option.some.inj hj2).symm (Or.inr rfl) H locs hP hD hS ls (lv_sub hl [0, 2] rfl)
  have hL1 : ∀ (n : Nat) (i_6 : Int32) (i_7 : Nat → Int32), lrun (fun (z : Int32 × (Nat → Int32)) => fX8_areSame_s13 u_1 u_3 z.1 z.2) n (i_6, i_7) = some w1 → ∀ (H : Heap) (locs : List Loc), va_P D cls9 (wM cI ad states whyKind whyOrder u_1 u_2 textLong spot readColumns all past refused u_3 i_7 chosen across sum one two base quotients text numbers entries before) H → va_D A (wM cI ad states whyKind whyOrder u_1 u_2 textLong spot readColumns all past refused u_3 i_7 chosen across sum one two base quotients text numbers entries before) → va_S A s.heap H locs → ∀ (ls : Array Slot), lv_has ls 6 [(0, .ref (ad 0)), (2, .int a1), (3, .int u_1), (4, .int i_6)] → W p l e rm_X8_areSame s m args below meth c H locs 0 0 Q (F0 m 13 ls []) := by
    intro n
    induction n with
    | zero => intro i_6 i_7 h; cases h
    | succ n ih1 =>
      intro i_6 i_7 hr1 H locs hP hD hS ls hl
      obtain ⟨k, v1, hk, hr1, ht1, hv1⟩ := lrun_s hr1
      cases hk
      have hr1 : fX8_areSame_s13 u_1 u_3 i_6 i_7 = some v1 := hr1
      unfold fX8_areSame_s13 at hr1
      refine lv_iload hx hb dX8_areSame_13 (lv_at hl 3 rfl) ?_
      refine lv_bipush (v := 24) hx hb dX8_areSame_15 (by decide) ?_
      refine lv_iload_n hx hb dX8_areSame_17 rfl (lv_at hl 2 rfl) ?_
      refine lv_imul hx hb dX8_areSame_18 ?_
      refine lv_icmp_ge (tgt := 42) hx hb dX8_areSame_19 (by decide) (fun c_8 => ?_) (fun c_8 => ?_)
      · have hr1 := it_t c_8 hr1
        exact hX1 i_7 (hv1 _ (Option.some.inj hr1).symm).symm H locs hP hD hS ls (lv_sub hl [0, 1, 2] rfl)
      · have hr1 := it_f c_8 hr1
        refine lv_aload_n hx hb dX8_areSame_22 rfl (lv_at hl 0 rfl) ?_
        refine va_get (D := D) (ci := 8) (v := .ref (ad 5)) (C := RX8) (T := TX8) (N := 24) hx hb hts iX8_areSame_X8 hown hG.1 hP 0 rfl rfl 9 (by decide) (hts _ fX8_areSame_2) (fun _ h9 => h9) rfl dX8_areSame_23 ?_
        refine lv_iload hx hb dX8_areSame_26 (lv_at hl 3 rfl) ?_
        refine lv_aload_n hx hb dX8_areSame_28 rfl (lv_at hl 0 rfl) ?_
        refine va_get (D := D) (ci := 8) (v := .ref (ad 4)) (C := RX8) (T := TX8) (N := 24) hx hb hts iX8_areSame_X8 hown hG.1 hP 0 rfl rfl 6 (by decide) (hts _ fX8_areSame_3) (fun _ h9 => h9) rfl dX8_areSame_29 ?_
        refine lv_iload hx hb dX8_areSame_32 (lv_at hl 3 rfl) ?_
        obtain ⟨h_9, hr1⟩ := gd_s hr1
        refine va_iald hx hb hG.1 hP 4 0 rfl rfl h_9 dX8_areSame_34 ?_
        obtain ⟨h_10, hr1⟩ := gd_s hr1
        refine va_iast hx hb hG.1 hP hD hS 5 0 rfl rfl h_10 dX8_areSame_35 (fun H locs hP hD hS => ?_)
        have hP : va_P D cls9 (wM cI ad states whyKind whyOrder u_1 u_2 textLong spot readColumns all past refused u_3 (upd i_7 i_6.toNatClampNeg (u_3 i_6.toNatClampNeg)) chosen across sum one two base quotients text numbers entries before) H := hP
        have hD : va_D A (wM cI ad states whyKind whyOrder u_1 u_2 textLong spot readColumns all past refused u_3 (upd i_7 i_6.toNatClampNeg (u_3 i_6.toNatClampNeg)) chosen across sum one two base quotients text numbers entries before) := hD
        refine lv_iinc (v := (i_6 + 1)) (lv' := [(4, .int (i_6 + 1)), (0, .ref (ad 0)), (2, .int a1), (3, .int u_1)]) hx hb dX8_areSame_36 hl (k := 3) rfl rfl (by decide) rfl (fun ls hl => ?_)
        refine lv_goto (tgt := 13) hx hb dX8_areSame_39 (by decide) ?_
        exact ih1 (i_6 + 1) (upd i_7 i_6.toNatClampNeg (u_3 i_6.toNatClampNeg)) (ht1 _ (Option.some.inj hr1).symm) H locs hP hD hS ls (lv_sub hl [1, 2, 3, 0] rfl)
  obtain ⟨n1, hn1⟩ := Lp_s hw1
  exact hL1 n1 (0 : Int32) kept hn1 H locs hP hD hS ls (lv_sub hl [2, 4, 1, 0] rfl)
abbrev rm_X8_same : Room := { frames := 8, cells := 0, slots := 0, locals := 195 }
set_option maxHeartbeats 4000000 in
set_option maxRecDepth 100000 in
theorem mtX8_same (l : Launch) (D : va_G) (cI cB cR : ClassId) (ad : Nat → Nat) (sz : Nat) (states : Int32) (whyKind : Int32) (whyOrder : Int32) (many : Int32) (wide : Int32) (textLong : Int32) (spot : Int32) (readColumns : Int32) (all : Nat → Int32) (past : Nat → Int32) (refused : Nat → Int32) (work : Nat → Int32) (kept : Nat → Int32) (chosen : Nat → Int32) (across : Nat → Int32) (sum : Nat → Int32) (one : Nat → Int32) (two : Nat → Int32) (base : Nat → Int32) (quotients : Nat → Int32) (text : Nat → Int32) (numbers : Nat → Int32) (entries : Nat → Int32) (before : Nat → Int32) (a0 : Int32) (a1 : Int32) (res : Int32 × Int32 × Int32 × (Nat → Int32) × (Nat → Int32) × (Nat → Int32)) (hf : fX8_same many wide all refused work kept a0 a1 = some res) : Met l yX8_same wsX8_same rm_X8_same (qP D cI cB cR [.ref (ad 0), .int a0, .int a1] (wM cI ad states whyKind whyOrder many wide textLong spot readColumns all past refused work kept chosen across sum one two base quotients text numbers entries before) sz) (qI D res.1 (wM cI ad states whyKind whyOrder many wide textLong spot readColumns all past refused work kept chosen across sum one two base quotients text numbers entries before) (wM cI ad states whyKind whyOrder res.2.1 res.2.2.1 textLong spot readColumns all past res.2.2.2.1 res.2.2.2.2.1 res.2.2.2.2.2 chosen across sum one two base quotients text numbers entries before) sz) 0 0 (va_A (wM cI ad states whyKind whyOrder many wide textLong spot readColumns all past refused work kept chosen across sum one two base quotients text numbers entries before) sz) := by
  refine entI (plainFor_of_name (by decide)) rfl (Nat.le_of_ble_eq_true rfl) ?_
  intro p e s m args below meth c Q A ls S hG hP hD hA hl hE
  obtain ⟨hx, hb, hml, hown, hts⟩ := S
  have hown : s.vm.findClass RX8 = some m.cls := hown
  have hS : va_S A s.heap s.heap [] := va_S.rf
  have hl : lv_has ls 3 [(0, .ref (ad 0)), (1, .int a0), (2, .int a1)] := hl
  have hq := hf
  unfold fX8_same at hq
  obtain ⟨H, hH⟩ : ∃ H, H = s.heap := ⟨_, rfl⟩
  obtain ⟨locs, hlo⟩ : ∃ L : List Loc, L = [] := ⟨_, rfl⟩
  have hP : va_P D cls9 (wM cI ad states whyKind whyOrder many wide textLong spot readColumns all past refused work kept chosen across sum one two base quotients text numbers entries before) H := hH ▸ hP
  have hS : va_S A s.heap H locs := by rw [hH, hlo]; exact hS
  suffices hg : W p l e rm_X8_same s m args below meth c H locs 0 0 Q (F0 m 0 ls []) by rw [hH, hlo] at hg; exact hg
  refine lv_aload_n hx hb dX8_same_0 rfl (lv_at hl 0 rfl) ?_
  refine lv_iload_n hx hb dX8_same_1 rfl (lv_at hl 1 rfl) ?_
  obtain ⟨v_3, hq_2, hk⟩ := bd1_s hq
  obtain ⟨r_1, rfl⟩ : ∃ y, y = v_3 := ⟨_, rfl⟩
  have hq := hk _ rfl
  refine callZA (gV (rest := []) ⟨hx, hb, hml, hown, hts⟩ hG hP hD 0 8 rfl rfl (mtX8_isSet l D cI cB cR ad H.size states whyKind whyOrder many wide textLong spot readColumns all past refused work kept chosen across sum one two base quotients text numbers entries before a0 r_1 hq_2) (cwV 1 hts gX8_same_X8_isSet rfl rfl rfl ⟨rfl, hd_X8_isSet⟩ ⟨Nat.le_of_ble_eq_true rfl, Nat.le_of_ble_eq_true rfl⟩) rfl hl.1 rfl (Nat.le_of_ble_eq_true rfl) dX8_same_2) hD hS hA (fun H locs z_4 hP hD hS => ?_)
  have hP : va_P D cls9 (wM cI ad states whyKind whyOrder many wide textLong spot readColumns all past refused work kept chosen across sum one two base quotients text numbers entries before) H := hP
  have hD : va_D A (wM cI ad states whyKind whyOrder many wide textLong spot readColumns all past refused work kept chosen across sum one two base quotients text numbers entries before) := hD
  refine lv_if_eq (tgt := 25) hx hb dX8_same_5 (by decide) (fun c_5 => ?_) (fun c_5 => ?_)
  · have hq := it_t c_5 hq
    refine lv_aload_n hx hb dX8_same_25 rfl (lv_at hl 0 rfl) ?_
    refine lv_bipush (v := -2) hx hb dX8_same_26 (by decide) ?_
    obtain ⟨v_9, hq_8, hk⟩ := bd2_s hq
    obtain ⟨r_6, u_7⟩ := v_9
    have hq := hk _ _ rfl
    refine callIA (gV (rest := []) ⟨hx, hb, hml, hown, hts⟩ hG hP hD 0 8 rfl rfl (mtX8_refuses l D cI cB cR ad H.size states whyKind whyOrder many wide textLong spot readColumns all past refused work kept chosen across sum one two base quotients text numbers entries before (-2 : Int32) (r_6, u_7) hq_8) (cwV 1 hts gX8_same_X8_refuses rfl rfl rfl ⟨rfl, hd_X8_refuses⟩ ⟨Nat.le_of_ble_eq_true rfl, Nat.le_of_ble_eq_true rfl⟩) rfl hl.1 rfl (Nat.le_of_ble_eq_true rfl) dX8_same_28) hD hS hA (fun H locs hP hD hS => ?_)
    have hP : va_P D cls9 (wM cI ad states whyKind whyOrder many wide textLong spot readColumns all past u_7 work kept chosen across sum one two base quotients text numbers entries before) H := hP
    have hD : va_D A (wM cI ad states whyKind whyOrder many wide textLong spot readColumns all past u_7 work kept chosen across sum one two base quotients text numbers entries before) := hD
    have he := Option.some.inj hq
    subst he
    exact hE H locs _ _ _ rfl dX8_same_31 hP hD hS
  · have hq := it_f c_5 hq
    refine lv_aload_n hx hb dX8_same_8 rfl (lv_at hl 0 rfl) ?_
    refine lv_iload_n hx hb dX8_same_9 rfl (lv_at hl 2 rfl) ?_
    obtain ⟨v_12, hq_11, hk⟩ := bd1_s hq
    obtain ⟨r_10, rfl⟩ : ∃ y, y = v_12 := ⟨_, rfl⟩
    have hq := hk _ rfl
    refine callZA (gV (rest := []) ⟨hx, hb, hml, hown, hts⟩ hG hP hD 0 8 rfl rfl (mtX8_isSet l D cI cB cR ad H.size states whyKind whyOrder many wide textLong spot readColumns all past refused work kept chosen across sum one two base quotients text numbers entries before a1 r_10 hq_11) (cwV 1 hts gX8_same_X8_isSet rfl rfl rfl ⟨rfl, hd_X8_isSet⟩ ⟨Nat.le_of_ble_eq_true rfl, Nat.le_of_ble_eq_true rfl⟩) rfl hl.1 rfl (Nat.le_of_ble_eq_true rfl) dX8_same_10) hD hS hA (fun H locs z_13 hP hD hS => ?_)
    have hP : va_P D cls9 (wM cI ad states whyKind whyOrder many wide textLong spot readColumns all past refused work kept chosen across sum one two base quotients text numbers entries before) H := hP
    have hD : va_D A (wM cI ad states whyKind whyOrder many wide textLong spot readColumns all past refused work kept chosen across sum one two base quotients text numbers entries before) := hD
    refine lv_if_eq (tgt := 25) hx hb dX8_same_13 (by decide) (fun c_14 => ?_) (fun c_14 => ?_)
    · have hq := it_t c_14 hq
      refine lv_aload_n hx hb dX8_same_25 rfl (lv_at hl 0 rfl) ?_
      refine lv_bipush (v := -2) hx hb dX8_same_26 (by decide) ?_
      obtain ⟨v_18, hq_17, hk⟩ := bd2_s hq
      obtain ⟨r_15, u_16⟩ := v_18
      have hq := hk _ _ rfl
      refine callIA (gV (rest := []) ⟨hx, hb, hml, hown, hts⟩ hG hP hD 0 8 rfl rfl (mtX8_refuses l D cI cB cR ad H.size states whyKind whyOrder many wide textLong spot readColumns all past refused work kept chosen across sum one two base quotients text numbers entries before (-2 : Int32) (r_15, u_16) hq_17) (cwV 1 hts gX8_same_X8_refuses rfl rfl rfl ⟨rfl, hd_X8_refuses⟩ ⟨Nat.le_of_ble_eq_true rfl, Nat.le_of_ble_eq_true rfl⟩) rfl hl.1 rfl (Nat.le_of_ble_eq_true rfl) dX8_same_28) hD hS hA (fun H locs hP hD hS => ?_)
      have hP : va_P D cls9 (wM cI ad states whyKind whyOrder many wide textLong spot readColumns all past u_16 work kept chosen across sum one two base quotients text numbers entries before) H := hP
      have hD : va_D A (wM cI ad states whyKind whyOrder many wide textLong spot readColumns all past u_16 work kept chosen across sum one two base quotients text numbers entries before) := hD
      have he := Option.some.inj hq
      subst he
      exact hE H locs _ _ _ rfl dX8_same_31 hP hD hS
    · have hq := it_f c_14 hq
      refine lv_aload_n hx hb dX8_same_16 rfl (lv_at hl 0 rfl) ?_
      refine lv_iload_n hx hb dX8_same_17 rfl (lv_at hl 1 rfl) ?_
      refine lv_iload_n hx hb dX8_same_18 rfl (lv_at hl 2 rfl) ?_
      obtain ⟨v_25, hq_24, hk⟩ := bd5_s hq
      obtain ⟨r_19, u_20, u_21, u_22, u_23⟩ := v_25
      have hq := hk _ _ _ _ _ rfl
      refine callIA (gV (rest := []) ⟨hx, hb, hml, hown, hts⟩ hG hP hD 0 8 rfl rfl (mtX8_areSame l D cI cB cR ad H.size states whyKind whyOrder many wide textLong spot readColumns all past refused work kept chosen across sum one two base quotients text numbers entries before a0 a1 (r_19, u_20, u_21, u_22, u_23) hq_24) (cwV 2 hts gX8_same_X8_areSame rfl rfl rfl ⟨rfl, hd_X8_areSame⟩ ⟨Nat.le_of_ble_eq_true rfl, Nat.le_of_ble_eq_true rfl⟩) rfl hl.1 rfl (Nat.le_of_ble_eq_true rfl) dX8_same_19) hD hS hA (fun H locs hP hD hS => ?_)
      have hP : va_P D cls9 (wM cI ad states whyKind whyOrder u_20 u_21 textLong spot readColumns all past refused u_22 u_23 chosen across sum one two base quotients text numbers entries before) H := hP
      have hD : va_D A (wM cI ad states whyKind whyOrder u_20 u_21 textLong spot readColumns all past refused u_22 u_23 chosen across sum one two base quotients text numbers entries before) := hD
      refine lv_goto (tgt := 31) hx hb dX8_same_22 (by decide) ?_
      have he := Option.some.inj hq
      subst he
      exact hE H locs _ _ _ rfl dX8_same_31 hP hD hS
abbrev rm_X8_isWith : Room := { frames := 2, cells := 0, slots := 0, locals := 46 }
set_option maxHeartbeats 4000000 in
set_option maxRecDepth 100000 in
theorem mtX8_isWith (l : Launch) (D : va_G) (cI cB cR : ClassId) (ad : Nat → Nat) (sz : Nat) (states : Int32) (whyKind : Int32) (whyOrder : Int32) (many : Int32) (wide : Int32) (textLong : Int32) (spot : Int32) (readColumns : Int32) (all : Nat → Int32) (past : Nat → Int32) (refused : Nat → Int32) (work : Nat → Int32) (kept : Nat → Int32) (chosen : Nat → Int32) (across : Nat → Int32) (sum : Nat → Int32) (one : Nat → Int32) (two : Nat → Int32) (base : Nat → Int32) (quotients : Nat → Int32) (text : Nat → Int32) (numbers : Nat → Int32) (entries : Nat → Int32) (before : Nat → Int32) (a0 : Int32) (a1 : Int32) (res : Int32) (hf : fX8_isWith all a0 a1 = some res) : Met l yX8_isWith wsX8_isWith rm_X8_isWith (qP D cI cB cR [.ref (ad 0), .int a0, .int a1] (wM cI ad states whyKind whyOrder many wide textLong spot readColumns all past refused work kept chosen across sum one two base quotients text numbers entries before) sz) (qZ D res (wM cI ad states whyKind whyOrder many wide textLong spot readColumns all past refused work kept chosen across sum one two base quotients text numbers entries before) (wM cI ad states whyKind whyOrder many wide textLong spot readColumns all past refused work kept chosen across sum one two base quotients text numbers entries before) sz) 0 0 (va_A (wM cI ad states whyKind whyOrder many wide textLong spot readColumns all past refused work kept chosen across sum one two base quotients text numbers entries before) sz) := by
  refine entZ (plainFor_of_name (by decide)) rfl (Nat.le_of_ble_eq_true rfl) ?_
  intro p e s m args below meth c Q A ls S hG hP hD hA hl hE
  obtain ⟨hx, hb, hml, hown, hts⟩ := S
  have hown : s.vm.findClass RX8 = some m.cls := hown
  have hS : va_S A s.heap s.heap [] := va_S.rf
  have hl : lv_has ls 3 [(0, .ref (ad 0)), (1, .int a0), (2, .int a1)] := hl
  have hq := hf
  unfold fX8_isWith at hq
  obtain ⟨H, hH⟩ : ∃ H, H = s.heap := ⟨_, rfl⟩
  obtain ⟨locs, hlo⟩ : ∃ L : List Loc, L = [] := ⟨_, rfl⟩
  have hP : va_P D cls9 (wM cI ad states whyKind whyOrder many wide textLong spot readColumns all past refused work kept chosen across sum one two base quotients text numbers entries before) H := hH ▸ hP
  have hS : va_S A s.heap H locs := by rw [hH, hlo]; exact hS
  suffices hg : W p l e rm_X8_isWith s m args below meth c H locs 0 0 Q (F0 m 0 ls []) by rw [hH, hlo] at hg; exact hg
  refine lv_aload_n hx hb dX8_isWith_0 rfl (lv_at hl 0 rfl) ?_
  refine lv_iload_n hx hb dX8_isWith_1 rfl (lv_at hl 1 rfl) ?_
  obtain ⟨v_3, hq_2, hk⟩ := bd1_s hq
  obtain ⟨r_1, rfl⟩ : ∃ y, y = v_3 := ⟨_, rfl⟩
  have hq := hk _ rfl
  refine callZA (gV (rest := []) ⟨hx, hb, hml, hown, hts⟩ hG hP hD 0 8 rfl rfl (mtX8_isRow l D cI cB cR ad H.size states whyKind whyOrder many wide textLong spot readColumns all past refused work kept chosen across sum one two base quotients text numbers entries before a0 r_1 hq_2) (cwV 1 hts gX8_isWith_X8_isRow rfl rfl rfl ⟨rfl, hd_X8_isRow⟩ ⟨Nat.le_of_ble_eq_true rfl, Nat.le_of_ble_eq_true rfl⟩) rfl hl.1 rfl (Nat.le_of_ble_eq_true rfl) dX8_isWith_2) hD hS hA (fun H locs z_4 hP hD hS => ?_)
  have hP : va_P D cls9 (wM cI ad states whyKind whyOrder many wide textLong spot readColumns all past refused work kept chosen across sum one two base quotients text numbers entries before) H := hP
  have hD : va_D A (wM cI ad states whyKind whyOrder many wide textLong spot readColumns all past refused work kept chosen across sum one two base quotients text numbers entries before) := hD
  refine lv_if_eq (tgt := 28) hx hb dX8_isWith_5 (by decide) (fun c_5 => ?_) (fun c_5 => ?_)
  · have hq := it_t c_5 hq
    refine lv_iconst (v := 0) hx hb dX8_isWith_28 (by decide) ?_
    have he := Option.some.inj hq
    subst he
    exact hE H locs _ _ _ rfl (Or.inl rfl) dX8_isWith_29 hP hD hS
  · have hq := it_f c_5 hq
    refine lv_aload_n hx hb dX8_isWith_8 rfl (lv_at hl 0 rfl) ?_
    refine lv_iload_n hx hb dX8_isWith_9 rfl (lv_at hl 2 rfl) ?_
    obtain ⟨v_8, hq_7, hk⟩ := bd1_s hq
    obtain ⟨r_6, rfl⟩ : ∃ y, y = v_8 := ⟨_, rfl⟩
    have hq := hk _ rfl
    refine callZA (gV (rest := []) ⟨hx, hb, hml, hown, hts⟩ hG hP hD 0 8 rfl rfl (mtX8_isSet l D cI cB cR ad H.size states whyKind whyOrder many wide textLong spot readColumns all past refused work kept chosen across sum one two base quotients text numbers entries before a1 r_6 hq_7) (cwV 1 hts gX8_isWith_X8_isSet rfl rfl rfl ⟨rfl, hd_X8_isSet⟩ ⟨Nat.le_of_ble_eq_true rfl, Nat.le_of_ble_eq_true rfl⟩) rfl hl.1 rfl (Nat.le_of_ble_eq_true rfl) dX8_isWith_10) hD hS hA (fun H locs z_9 hP hD hS => ?_)
    have hP : va_P D cls9 (wM cI ad states whyKind whyOrder many wide textLong spot readColumns all past refused work kept chosen across sum one two base quotients text numbers entries before) H := hP
    have hD : va_D A (wM cI ad states whyKind whyOrder many wide textLong spot readColumns all past refused work kept chosen across sum one two base quotients text numbers entries before) := hD
    refine lv_if_eq (tgt := 28) hx hb dX8_isWith_13 (by decide) (fun c_10 => ?_) (fun c_10 => ?_)
    · have hq := it_t c_10 hq
      refine lv_iconst (v := 0) hx hb dX8_isWith_28 (by decide) ?_
      have he := Option.some.inj hq
      subst he
      exact hE H locs _ _ _ rfl (Or.inl rfl) dX8_isWith_29 hP hD hS
    · have hq := it_f c_10 hq
      refine lv_iload_n hx hb dX8_isWith_16 rfl (lv_at hl 2 rfl) ?_
      refine lv_iload_n hx hb dX8_isWith_17 rfl (lv_at hl 1 rfl) ?_
      refine lv_ishr hx hb dX8_isWith_18 ?_
      refine lv_iconst (v := 1) hx hb dX8_isWith_19 (by decide) ?_
      refine lv_iand hx hb dX8_isWith_20 ?_
      refine lv_if_ne (tgt := 28) hx hb dX8_isWith_21 (by decide) (fun c_11 => ?_) (fun c_11 => ?_)
      · have hq := it_f c_11 hq
        refine lv_iconst (v := 0) hx hb dX8_isWith_28 (by decide) ?_
        have he := Option.some.inj hq
        subst he
        exact hE H locs _ _ _ rfl (Or.inl rfl) dX8_isWith_29 hP hD hS
      · have hq := it_t c_11 hq
        refine lv_iconst (v := 1) hx hb dX8_isWith_24 (by decide) ?_
        refine lv_goto (tgt := 29) hx hb dX8_isWith_25 (by decide) ?_
        have he := Option.some.inj hq
        subst he
        exact hE H locs _ _ _ rfl (Or.inr rfl) dX8_isWith_29 hP hD hS
abbrev rm_X8_rests : Room := { frames := 7, cells := 0, slots := 0, locals := 170 }
theorem iX8_rests_X8 : ∀ w ∈ wsX80, w ∈ wsX8_rests := fun _ h => (List.mem_cons_of_mem _ (List.mem_append_right _ h))
theorem fX8_rests_1 : Cond.fieldLink RX8 178 "PopovRowsModel" "many" "I" ∈ wsX8_rests := (List.mem_cons_of_mem _ (List.mem_append_left _ (List.mem_append_left _ (List.mem_of_getElem? (i := 0) rfl))))
set_option maxHeartbeats 4000000 in
set_option maxRecDepth 100000 in
theorem mtX8_rests (l : Launch) (D : va_G) (cI cB cR : ClassId) (ad : Nat → Nat) (sz : Nat) (states : Int32) (whyKind : Int32) (whyOrder : Int32) (many : Int32) (wide : Int32) (textLong : Int32) (spot : Int32) (readColumns : Int32) (all : Nat → Int32) (past : Nat → Int32) (refused : Nat → Int32) (work : Nat → Int32) (kept : Nat → Int32) (chosen : Nat → Int32) (across : Nat → Int32) (sum : Nat → Int32) (one : Nat → Int32) (two : Nat → Int32) (base : Nat → Int32) (quotients : Nat → Int32) (text : Nat → Int32) (numbers : Nat → Int32) (entries : Nat → Int32) (before : Nat → Int32) (a0 : Int32) (a1 : Int32) (res : Int32 × Int32 × (Nat → Int32)) (hf : fX8_rests all work a0 a1 = some res) : Met l yX8_rests wsX8_rests rm_X8_rests (qP D cI cB cR [.ref (ad 0), .int a0, .int a1] (wM cI ad states whyKind whyOrder many wide textLong spot readColumns all past refused work kept chosen across sum one two base quotients text numbers entries before) sz) (qV D (wM cI ad states whyKind whyOrder many wide textLong spot readColumns all past refused work kept chosen across sum one two base quotients text numbers entries before) (wM cI ad states whyKind whyOrder res.1 res.2.1 textLong spot readColumns all past refused res.2.2 kept chosen across sum one two base quotients text numbers entries before) sz) 0 0 (va_A (wM cI ad states whyKind whyOrder many wide textLong spot readColumns all past refused work kept chosen across sum one two base quotients text numbers entries before) sz) := by
  refine entV (plainFor_of_name (by decide)) rfl (Nat.le_of_ble_eq_true rfl) ?_
  intro p e s m args below meth c Q A ls S hG hP hD hA hl hE
  obtain ⟨hx, hb, hml, hown, hts⟩ := S
  have hown : s.vm.findClass RX8 = some m.cls := hown
  have hS : va_S A s.heap s.heap [] := va_S.rf
  have hl : lv_has ls 3 [(0, .ref (ad 0)), (1, .int a0), (2, .int a1)] := hl
  have hq := hf
  unfold fX8_rests at hq
  obtain ⟨H, hH⟩ : ∃ H, H = s.heap := ⟨_, rfl⟩
  obtain ⟨locs, hlo⟩ : ∃ L : List Loc, L = [] := ⟨_, rfl⟩
  have hP : va_P D cls9 (wM cI ad states whyKind whyOrder many wide textLong spot readColumns all past refused work kept chosen across sum one two base quotients text numbers entries before) H := hH ▸ hP
  have hS : va_S A s.heap H locs := by rw [hH, hlo]; exact hS
  suffices hg : W p l e rm_X8_rests s m args below meth c H locs 0 0 Q (F0 m 0 ls []) by rw [hH, hlo] at hg; exact hg
  refine lv_aload_n hx hb dX8_rests_0 rfl (lv_at hl 0 rfl) ?_
  refine lv_iload_n hx hb dX8_rests_1 rfl (lv_at hl 2 rfl) ?_
  obtain ⟨v_5, hq_4, hk⟩ := bd3_s hq
  obtain ⟨u_1, u_2, u_3⟩ := v_5
  have hq := hk _ _ _ rfl
  refine callVA (gV (rest := []) ⟨hx, hb, hml, hown, hts⟩ hG hP hD 0 8 rfl rfl (mtX8_formsOf l D cI cB cR ad H.size states whyKind whyOrder many wide textLong spot readColumns all past refused work kept chosen across sum one two base quotients text numbers entries before a1 (u_1, u_2, u_3) hq_4) (cwV 1 hts gX8_rests_X8_formsOf rfl rfl rfl ⟨rfl, hd_X8_formsOf⟩ ⟨Nat.le_of_ble_eq_true rfl, Nat.le_of_ble_eq_true rfl⟩) rfl hl.1 rfl (Nat.le_of_ble_eq_true rfl) dX8_rests_2) hD hS hA (fun H locs hP hD hS => ?_)
  have hP : va_P D cls9 (wM cI ad states whyKind whyOrder u_1 u_2 textLong spot readColumns all past refused u_3 kept chosen across sum one two base quotients text numbers entries before) H := hP
  have hD : va_D A (wM cI ad states whyKind whyOrder u_1 u_2 textLong spot readColumns all past refused u_3 kept chosen across sum one two base quotients text numbers entries before) := hD
  refine lv_aload_n hx hb dX8_rests_5 rfl (lv_at hl 0 rfl) ?_
  refine lv_aload_n hx hb dX8_rests_6 rfl (lv_at hl 0 rfl) ?_
  refine va_get (D := D) (ci := 8) (v := .int u_1) (C := RX8) (T := TX8) (N := 24) hx hb hts iX8_rests_X8 hown hG.1 hP 0 rfl rfl 7 (by decide) (hts _ fX8_rests_1) (fun _ h9 => h9) rfl dX8_rests_7 ?_
  refine lv_iload_n hx hb dX8_rests_10 rfl (lv_at hl 1 rfl) ?_
  obtain ⟨v_8, hq_7, hk⟩ := bd1_s hq
  obtain ⟨u_6, rfl⟩ : ∃ y, y = v_8 := ⟨_, rfl⟩
  have hq := hk _ rfl
  refine callVA (gV (rest := []) ⟨hx, hb, hml, hown, hts⟩ hG hP hD 0 8 rfl rfl (mtX8_lays l D cI cB cR ad H.size states whyKind whyOrder u_1 u_2 textLong spot readColumns all past refused u_3 kept chosen across sum one two base quotients text numbers entries before u_1 a0 u_6 hq_7) (cwV 2 hts gX8_rests_X8_lays rfl rfl rfl ⟨rfl, hd_X8_lays⟩ ⟨Nat.le_of_ble_eq_true rfl, Nat.le_of_ble_eq_true rfl⟩) rfl hl.1 rfl (Nat.le_of_ble_eq_true rfl) dX8_rests_11) hD hS hA (fun H locs hP hD hS => ?_)
  have hP : va_P D cls9 (wM cI ad states whyKind whyOrder u_1 u_2 textLong spot readColumns all past refused u_6 kept chosen across sum one two base quotients text numbers entries before) H := hP
  have hD : va_D A (wM cI ad states whyKind whyOrder u_1 u_2 textLong spot readColumns all past refused u_6 kept chosen across sum one two base quotients text numbers entries before) := hD
  refine lv_aload_n hx hb dX8_rests_14 rfl (lv_at hl 0 rfl) ?_
  refine lv_aload_n hx hb dX8_rests_15 rfl (lv_at hl 0 rfl) ?_
  refine va_get (D := D) (ci := 8) (v := .int u_1) (C := RX8) (T := TX8) (N := 24) hx hb hts iX8_rests_X8 hown hG.1 hP 0 rfl rfl 7 (by decide) (hts _ fX8_rests_1) (fun _ h9 => h9) rfl dX8_rests_16 ?_
  refine lv_iconst (v := 0) hx hb dX8_rests_19 (by decide) ?_
  refine lv_aload_n hx hb dX8_rests_20 rfl (lv_at hl 0 rfl) ?_
  refine va_get (D := D) (ci := 8) (v := .int u_1) (C := RX8) (T := TX8) (N := 24) hx hb hts iX8_rests_X8 hown hG.1 hP 0 rfl rfl 7 (by decide) (hts _ fX8_rests_1) (fun _ h9 => h9) rfl dX8_rests_21 ?_
  obtain ⟨v_11, hq_10, hk⟩ := bd1_s hq
  obtain ⟨u_9, rfl⟩ : ∃ y, y = v_11 := ⟨_, rfl⟩
  have hq := hk _ rfl
  refine callVA (gV (rest := []) ⟨hx, hb, hml, hown, hts⟩ hG hP hD 0 8 rfl rfl (mtX8_lowers l D cI cB cR ad H.size states whyKind whyOrder u_1 u_2 textLong spot readColumns all past refused u_6 kept chosen across sum one two base quotients text numbers entries before u_1 (0 : Int32) u_1 u_9 hq_10) (cwV 3 hts gX8_rests_X8_lowers rfl rfl rfl ⟨rfl, hd_X8_lowers⟩ ⟨Nat.le_of_ble_eq_true rfl, Nat.le_of_ble_eq_true rfl⟩) rfl hl.1 rfl (Nat.le_of_ble_eq_true rfl) dX8_rests_24) hD hS hA (fun H locs hP hD hS => ?_)
  have hP : va_P D cls9 (wM cI ad states whyKind whyOrder u_1 u_2 textLong spot readColumns all past refused u_9 kept chosen across sum one two base quotients text numbers entries before) H := hP
  have hD : va_D A (wM cI ad states whyKind whyOrder u_1 u_2 textLong spot readColumns all past refused u_9 kept chosen across sum one two base quotients text numbers entries before) := hD
  have he := Option.some.inj hq
  subst he
  exact hE H locs _ _ dX8_rests_27 hP hD hS
abbrev rm_X8_restOf : Room := { frames := 8, cells := 0, slots := 0, locals := 192 }
theorem iX8_restOf_X8 : ∀ w ∈ wsX80, w ∈ wsX8_restOf := fun _ h => (List.mem_cons_of_mem _ (List.mem_append_right _ h))
theorem fX8_restOf_1 : Cond.fieldLink RX8 23 "PopovRowsModel" "work" "[I" ∈ wsX8_restOf := (List.mem_cons_of_mem _ (List.mem_append_left _ (List.mem_append_left _ (List.mem_of_getElem? (i := 0) rfl))))
theorem fX8_restOf_2 : Cond.fieldLink RX8 178 "PopovRowsModel" "many" "I" ∈ wsX8_restOf := (List.mem_cons_of_mem _ (List.mem_append_left _ (List.mem_append_left _ (List.mem_of_getElem? (i := 1) rfl))))
set_option maxHeartbeats 4000000 in
set_option maxRecDepth 100000 in
theorem mtX8_restOf (l : Launch) (D : va_G) (cI cB cR : ClassId) (ad : Nat → Nat) (sz : Nat) (states : Int32) (whyKind : Int32) (whyOrder : Int32) (many : Int32) (wide : Int32) (textLong : Int32) (spot : Int32) (readColumns : Int32) (all : Nat → Int32) (past : Nat → Int32) (refused : Nat → Int32) (work : Nat → Int32) (kept : Nat → Int32) (chosen : Nat → Int32) (across : Nat → Int32) (sum : Nat → Int32) (one : Nat → Int32) (two : Nat → Int32) (base : Nat → Int32) (quotients : Nat → Int32) (text : Nat → Int32) (numbers : Nat → Int32) (entries : Nat → Int32) (before : Nat → Int32) (a0 : Int32) (a1 : Int32) (a2 : Int32) (a3 : Int32) (res : Int32 × Int32 × Int32 × (Nat → Int32)) (hf : fX8_restOf all work a0 a1 a2 a3 = some res) : Met l yX8_restOf wsX8_restOf rm_X8_restOf (qP D cI cB cR [.ref (ad 0), .int a0, .int a1, .int a2, .int a3] (wM cI ad states whyKind whyOrder many wide textLong spot readColumns all past refused work kept chosen across sum one two base quotients text numbers entries before) sz) (qI D res.1 (wM cI ad states whyKind whyOrder many wide textLong spot readColumns all past refused work kept chosen across sum one two base quotients text numbers entries before) (wM cI ad states whyKind whyOrder res.2.1 res.2.2.1 textLong spot readColumns all past refused res.2.2.2 kept chosen across sum one two base quotients text numbers entries before) sz) 0 0 (va_A (wM cI ad states whyKind whyOrder many wide textLong spot readColumns all past refused work kept chosen across sum one two base quotients text numbers entries before) sz) := by
  refine entI (plainFor_of_name (by decide)) rfl (Nat.le_of_ble_eq_true rfl) ?_
  intro p e s m args below meth c Q A ls S hG hP hD hA hl hE
  obtain ⟨hx, hb, hml, hown, hts⟩ := S
  have hown : s.vm.findClass RX8 = some m.cls := hown
  have hS : va_S A s.heap s.heap [] := va_S.rf
  have hl : lv_has ls 5 [(0, .ref (ad 0)), (1, .int a0), (2, .int a1), (3, .int a2), (4, .int a3)] := hl
  have hq := hf
  unfold fX8_restOf at hq
  obtain ⟨H, hH⟩ : ∃ H, H = s.heap := ⟨_, rfl⟩
  obtain ⟨locs, hlo⟩ : ∃ L : List Loc, L = [] := ⟨_, rfl⟩
  have hP : va_P D cls9 (wM cI ad states whyKind whyOrder many wide textLong spot readColumns all past refused work kept chosen across sum one two base quotients text numbers entries before) H := hH ▸ hP
  have hS : va_S A s.heap H locs := by rw [hH, hlo]; exact hS
  suffices hg : W p l e rm_X8_restOf s m args below meth c H locs 0 0 Q (F0 m 0 ls []) by rw [hH, hlo] at hg; exact hg
  refine lv_aload_n hx hb dX8_restOf_0 rfl (lv_at hl 0 rfl) ?_
  refine lv_iload_n hx hb dX8_restOf_1 rfl (lv_at hl 1 rfl) ?_
  refine lv_iload_n hx hb dX8_restOf_2 rfl (lv_at hl 2 rfl) ?_
  obtain ⟨v_5, hq_4, hk⟩ := bd3_s hq
  obtain ⟨u_1, u_2, u_3⟩ := v_5
  have hq := hk _ _ _ rfl
  refine callVA (gV (rest := []) ⟨hx, hb, hml, hown, hts⟩ hG hP hD 0 8 rfl rfl (mtX8_rests l D cI cB cR ad H.size states whyKind whyOrder many wide textLong spot readColumns all past refused work kept chosen across sum one two base quotients text numbers entries before a0 a1 (u_1, u_2, u_3) hq_4) (cwV 2 hts gX8_restOf_X8_rests rfl rfl rfl ⟨rfl, hd_X8_rests⟩ ⟨Nat.le_of_ble_eq_true rfl, Nat.le_of_ble_eq_true rfl⟩) rfl hl.1 rfl (Nat.le_of_ble_eq_true rfl) dX8_restOf_3) hD hS hA (fun H locs hP hD hS => ?_)
  have hP : va_P D cls9 (wM cI ad states whyKind whyOrder u_1 u_2 textLong spot readColumns all past refused u_3 kept chosen across sum one two base quotients text numbers entries before) H := hP
  have hD : va_D A (wM cI ad states whyKind whyOrder u_1 u_2 textLong spot readColumns all past refused u_3 kept chosen across sum one two base quotients text numbers entries before) := hD
  refine lv_aload_n hx hb dX8_restOf_6 rfl (lv_at hl 0 rfl) ?_
  refine va_get (D := D) (ci := 8) (v := .ref (ad 4)) (C := RX8) (T := TX8) (N := 24) hx hb hts iX8_restOf_X8 hown hG.1 hP 0 rfl rfl 6 (by decide) (hts _ fX8_restOf_1) (fun _ h9 => h9) rfl dX8_restOf_7 ?_
  refine lv_aload_n hx hb dX8_restOf_10 rfl (lv_at hl 0 rfl) ?_
  refine va_get (D := D) (ci := 8) (v := .int u_1) (C := RX8) (T := TX8) (N := 24) hx hb hts iX8_restOf_X8 hown hG.1 hP 0 rfl rfl 7 (by decide) (hts _ fX8_restOf_2) (fun _ h9 => h9) rfl dX8_restOf_11 ?_
  refine lv_iload_n hx hb dX8_restOf_14 rfl (lv_at hl 3 rfl) ?_
  refine lv_iload hx hb dX8_restOf_15 (lv_at hl 4 rfl) ?_
  refine callI0 (gS (rest := [.ref (ad 4)]) ⟨hx, hb, hml, hown, hts⟩ hG vaP0 (vaD0 (A := A)) (mtX8_cell l D cI cB cR H.size u_1 a2 a3 _ rfl) (va_cwS 3 hts gX8_restOf_X8_cell rfl rfl rfl hd_X8_cell ⟨Nat.le_of_ble_eq_true rfl, Nat.le_of_ble_eq_true rfl⟩) rfl hl.1 rfl (Nat.le_of_ble_eq_true rfl) dX8_restOf_17) hP hS hA (fun H locs hP hS => ?_)
  obtain ⟨h_6, hq⟩ := gd_s hq
  refine va_iald hx hb hG.1 hP 4 0 rfl rfl h_6 dX8_restOf_20 ?_
  have he := Option.some.inj hq
  subst he
  exact hE H locs _ _ _ rfl dX8_restOf_21 hP hD hS
abbrev rm_X8_rest : Room := { frames := 9, cells := 0, slots := 0, locals := 216 }
theorem fX8_rest_0 : Cond.constantLong RX8 124 (6) ∈ wsX8_rest := (List.mem_cons_of_mem _ (List.mem_append_left _ (List.mem_append_left _ (List.mem_of_getElem? (i := 0) rfl))))
set_option maxHeartbeats 4000000 in
set_option maxRecDepth 100000 in
theorem mtX8_rest (l : Launch) (D : va_G) (cI cB cR : ClassId) (ad : Nat → Nat) (sz : Nat) (states : Int32) (whyKind : Int32) (whyOrder : Int32) (many : Int32) (wide : Int32) (textLong : Int32) (spot : Int32) (readColumns : Int32) (all : Nat → Int32) (past : Nat → Int32) (refused : Nat → Int32) (work : Nat → Int32) (kept : Nat → Int32) (chosen : Nat → Int32) (across : Nat → Int32) (sum : Nat → Int32) (one : Nat → Int32) (two : Nat → Int32) (base : Nat → Int32) (quotients : Nat → Int32) (text : Nat → Int32) (numbers : Nat → Int32) (entries : Nat → Int32) (before : Nat → Int32) (a0 : Int32) (a1 : Int32) (a2 : Int32) (a3 : Int32) (res : Int32 × Int32 × Int32 × (Nat → Int32) × (Nat → Int32)) (hf : fX8_rest many wide all refused work a0 a1 a2 a3 = some res) : Met l yX8_rest wsX8_rest rm_X8_rest (qP D cI cB cR [.ref (ad 0), .int a0, .int a1, .int a2, .int a3] (wM cI ad states whyKind whyOrder many wide textLong spot readColumns all past refused work kept chosen across sum one two base quotients text numbers entries before) sz) (qI D res.1 (wM cI ad states whyKind whyOrder many wide textLong spot readColumns all past refused work kept chosen across sum one two base quotients text numbers entries before) (wM cI ad states whyKind whyOrder res.2.1 res.2.2.1 textLong spot readColumns all past res.2.2.2.1 res.2.2.2.2 kept chosen across sum one two base quotients text numbers entries before) sz) 0 0 (va_A (wM cI ad states whyKind whyOrder many wide textLong spot readColumns all past refused work kept chosen across sum one two base quotients text numbers entries before) sz) := by
  refine entI (plainFor_of_name (by decide)) rfl (Nat.le_of_ble_eq_true rfl) ?_
  intro p e s m args below meth c Q A ls S hG hP hD hA hl hE
  obtain ⟨hx, hb, hml, hown, hts⟩ := S
  have hown : s.vm.findClass RX8 = some m.cls := hown
  have hS : va_S A s.heap s.heap [] := va_S.rf
  have hl : lv_has ls 5 [(0, .ref (ad 0)), (1, .int a0), (2, .int a1), (3, .int a2), (4, .int a3)] := hl
  have hq := hf
  unfold fX8_rest at hq
  obtain ⟨H, hH⟩ : ∃ H, H = s.heap := ⟨_, rfl⟩
  obtain ⟨locs, hlo⟩ : ∃ L : List Loc, L = [] := ⟨_, rfl⟩
  have hP : va_P D cls9 (wM cI ad states whyKind whyOrder many wide textLong spot readColumns all past refused work kept chosen across sum one two base quotients text numbers entries before) H := hH ▸ hP
  have hS : va_S A s.heap H locs := by rw [hH, hlo]; exact hS
  suffices hg : W p l e rm_X8_rest s m args below meth c H locs 0 0 Q (F0 m 0 ls []) by rw [hH, hlo] at hg; exact hg
  refine lv_aload_n hx hb dX8_rest_0 rfl (lv_at hl 0 rfl) ?_
  refine lv_iload_n hx hb dX8_rest_1 rfl (lv_at hl 1 rfl) ?_
  refine lv_iload_n hx hb dX8_rest_2 rfl (lv_at hl 2 rfl) ?_
  obtain ⟨v_3, hq_2, hk⟩ := bd1_s hq
  obtain ⟨r_1, rfl⟩ : ∃ y, y = v_3 := ⟨_, rfl⟩
  have hq := hk _ rfl
  refine callZA (gV (rest := []) ⟨hx, hb, hml, hown, hts⟩ hG hP hD 0 8 rfl rfl (mtX8_isWith l D cI cB cR ad H.size states whyKind whyOrder many wide textLong spot readColumns all past refused work kept chosen across sum one two base quotients text numbers entries before a0 a1 r_1 hq_2) (cwV 2 hts gX8_rest_X8_isWith rfl rfl rfl ⟨rfl, hd_X8_isWith⟩ ⟨Nat.le_of_ble_eq_true rfl, Nat.le_of_ble_eq_true rfl⟩) rfl hl.1 rfl (Nat.le_of_ble_eq_true rfl) dX8_rest_3) hD hS hA (fun H locs z_4 hP hD hS => ?_)
  have hP : va_P D cls9 (wM cI ad states whyKind whyOrder many wide textLong spot readColumns all past refused work kept chosen across sum one two base quotients text numbers entries before) H := hP
  have hD : va_D A (wM cI ad states whyKind whyOrder many wide textLong spot readColumns all past refused work kept chosen across sum one two base quotients text numbers entries before) := hD
  refine lv_if_eq (tgt := 42) hx hb dX8_rest_6 (by decide) (fun c_5 => ?_) (fun c_5 => ?_)
  · have hq := it_t c_5 hq
    refine lv_aload_n hx hb dX8_rest_42 rfl (lv_at hl 0 rfl) ?_
    refine lv_bipush (v := -2) hx hb dX8_rest_43 (by decide) ?_
    obtain ⟨v_9, hq_8, hk⟩ := bd2_s hq
    obtain ⟨r_6, u_7⟩ := v_9
    have hq := hk _ _ rfl
    refine callIA (gV (rest := []) ⟨hx, hb, hml, hown, hts⟩ hG hP hD 0 8 rfl rfl (mtX8_refuses l D cI cB cR ad H.size states whyKind whyOrder many wide textLong spot readColumns all past refused work kept chosen across sum one two base quotients text numbers entries before (-2 : Int32) (r_6, u_7) hq_8) (cwV 1 hts gX8_rest_X8_refuses rfl rfl rfl ⟨rfl, hd_X8_refuses⟩ ⟨Nat.le_of_ble_eq_true rfl, Nat.le_of_ble_eq_true rfl⟩) rfl hl.1 rfl (Nat.le_of_ble_eq_true rfl) dX8_rest_45) hD hS hA (fun H locs hP hD hS => ?_)
    have hP : va_P D cls9 (wM cI ad states whyKind whyOrder many wide textLong spot readColumns all past u_7 work kept chosen across sum one two base quotients text numbers entries before) H := hP
    have hD : va_D A (wM cI ad states whyKind whyOrder many wide textLong spot readColumns all past u_7 work kept chosen across sum one two base quotients text numbers entries before) := hD
    have he := Option.some.inj hq
    subst he
    exact hE H locs _ _ _ rfl dX8_rest_48 hP hD hS
  · have hq := it_f c_5 hq
    refine lv_aload_n hx hb dX8_rest_9 rfl (lv_at hl 0 rfl) ?_
    refine lv_iload_n hx hb dX8_rest_10 rfl (lv_at hl 3 rfl) ?_
    obtain ⟨v_12, hq_11, hk⟩ := bd1_s hq
    obtain ⟨r_10, rfl⟩ : ∃ y, y = v_12 := ⟨_, rfl⟩
    have hq := hk _ rfl
    refine callZA (gV (rest := []) ⟨hx, hb, hml, hown, hts⟩ hG hP hD 0 8 rfl rfl (mtX8_isColumn l D cI cB cR ad H.size states whyKind whyOrder many wide textLong spot readColumns all past refused work kept chosen across sum one two base quotients text numbers entries before a2 r_10 hq_11) (cwV 1 hts gX8_rest_X8_isColumn rfl rfl rfl ⟨rfl, hd_X8_isColumn⟩ ⟨Nat.le_of_ble_eq_true rfl, Nat.le_of_ble_eq_true rfl⟩) rfl hl.1 rfl (Nat.le_of_ble_eq_true rfl) dX8_rest_11) hD hS hA (fun H locs z_13 hP hD hS => ?_)
    have hP : va_P D cls9 (wM cI ad states whyKind whyOrder many wide textLong spot readColumns all past refused work kept chosen across sum one two base quotients text numbers entries before) H := hP
    have hD : va_D A (wM cI ad states whyKind whyOrder many wide textLong spot readColumns all past refused work kept chosen across sum one two base quotients text numbers entries before) := hD
    refine lv_if_eq (tgt := 42) hx hb dX8_rest_14 (by decide) (fun c_14 => ?_) (fun c_14 => ?_)
    · have hq := it_t c_14 hq
      refine lv_aload_n hx hb dX8_rest_42 rfl (lv_at hl 0 rfl) ?_
      refine lv_bipush (v := -2) hx hb dX8_rest_43 (by decide) ?_
      obtain ⟨v_18, hq_17, hk⟩ := bd2_s hq
      obtain ⟨r_15, u_16⟩ := v_18
      have hq := hk _ _ rfl
      refine callIA (gV (rest := []) ⟨hx, hb, hml, hown, hts⟩ hG hP hD 0 8 rfl rfl (mtX8_refuses l D cI cB cR ad H.size states whyKind whyOrder many wide textLong spot readColumns all past refused work kept chosen across sum one two base quotients text numbers entries before (-2 : Int32) (r_15, u_16) hq_17) (cwV 1 hts gX8_rest_X8_refuses rfl rfl rfl ⟨rfl, hd_X8_refuses⟩ ⟨Nat.le_of_ble_eq_true rfl, Nat.le_of_ble_eq_true rfl⟩) rfl hl.1 rfl (Nat.le_of_ble_eq_true rfl) dX8_rest_45) hD hS hA (fun H locs hP hD hS => ?_)
      have hP : va_P D cls9 (wM cI ad states whyKind whyOrder many wide textLong spot readColumns all past u_16 work kept chosen across sum one two base quotients text numbers entries before) H := hP
      have hD : va_D A (wM cI ad states whyKind whyOrder many wide textLong spot readColumns all past u_16 work kept chosen across sum one two base quotients text numbers entries before) := hD
      have he := Option.some.inj hq
      subst he
      exact hE H locs _ _ _ rfl dX8_rest_48 hP hD hS
    · have hq := it_f c_14 hq
      refine lv_iload hx hb dX8_rest_17 (lv_at hl 4 rfl) ?_
      refine lv_i2l (v := (a3.toInt64)) hx hb dX8_rest_19 rfl ?_
      refine lv_lconst (v := 0) hx hb dX8_rest_20 (by decide) ?_
      refine lv_ldc2 (v := 6) hx hb hown (hts _ fX8_rest_0) dX8_rest_21 ?_
      refine callZ0 (gS (rest := []) ⟨hx, hb, hml, hown, hts⟩ hG vaP0 (vaD0 (A := A)) (mtX8_in l D cI cB cR H.size (a3.toInt64) (0 : Int64) (6 : Int64) _ rfl) (va_cwS 3 hts gX8_rest_X8_in rfl rfl rfl hd_X8_in ⟨Nat.le_of_ble_eq_true rfl, Nat.le_of_ble_eq_true rfl⟩) rfl hl.1 rfl (Nat.le_of_ble_eq_true rfl) dX8_rest_24) hP hS hA (fun H locs z_19 hP hS => ?_)
      refine lv_if_eq (tgt := 42) hx hb dX8_rest_27 (by decide) (fun c_20 => ?_) (fun c_20 => ?_)
      · have hq := it_t c_20 hq
        refine lv_aload_n hx hb dX8_rest_42 rfl (lv_at hl 0 rfl) ?_
        refine lv_bipush (v := -2) hx hb dX8_rest_43 (by decide) ?_
        obtain ⟨v_24, hq_23, hk⟩ := bd2_s hq
        obtain ⟨r_21, u_22⟩ := v_24
        have hq := hk _ _ rfl
        refine callIA (gV (rest := []) ⟨hx, hb, hml, hown, hts⟩ hG hP hD 0 8 rfl rfl (mtX8_refuses l D cI cB cR ad H.size states whyKind whyOrder many wide textLong spot readColumns all past refused work kept chosen across sum one two base quotients text numbers entries before (-2 : Int32) (r_21, u_22) hq_23) (cwV 1 hts gX8_rest_X8_refuses rfl rfl rfl ⟨rfl, hd_X8_refuses⟩ ⟨Nat.le_of_ble_eq_true rfl, Nat.le_of_ble_eq_true rfl⟩) rfl hl.1 rfl (Nat.le_of_ble_eq_true rfl) dX8_rest_45) hD hS hA (fun H locs hP hD hS => ?_)
        have hP : va_P D cls9 (wM cI ad states whyKind whyOrder many wide textLong spot readColumns all past u_22 work kept chosen across sum one two base quotients text numbers entries before) H := hP
        have hD : va_D A (wM cI ad states whyKind whyOrder many wide textLong spot readColumns all past u_22 work kept chosen across sum one two base quotients text numbers entries before) := hD
        have he := Option.some.inj hq
        subst he
        exact hE H locs _ _ _ rfl dX8_rest_48 hP hD hS
      · have hq := it_f c_20 hq
        refine lv_aload_n hx hb dX8_rest_30 rfl (lv_at hl 0 rfl) ?_
        refine lv_iload_n hx hb dX8_rest_31 rfl (lv_at hl 1 rfl) ?_
        refine lv_iload_n hx hb dX8_rest_32 rfl (lv_at hl 2 rfl) ?_
        refine lv_iload_n hx hb dX8_rest_33 rfl (lv_at hl 3 rfl) ?_
        refine lv_iload hx hb dX8_rest_34 (lv_at hl 4 rfl) ?_
        obtain ⟨v_30, hq_29, hk⟩ := bd4_s hq
        obtain ⟨r_25, u_26, u_27, u_28⟩ := v_30
        have hq := hk _ _ _ _ rfl
        refine callIA (gV (rest := []) ⟨hx, hb, hml, hown, hts⟩ hG hP hD 0 8 rfl rfl (mtX8_restOf l D cI cB cR ad H.size states whyKind whyOrder many wide textLong spot readColumns all past refused work kept chosen across sum one two base quotients text numbers entries before a0 a1 a2 a3 (r_25, u_26, u_27, u_28) hq_29) (cwV 4 hts gX8_rest_X8_restOf rfl rfl rfl ⟨rfl, hd_X8_restOf⟩ ⟨Nat.le_of_ble_eq_true rfl, Nat.le_of_ble_eq_true rfl⟩) rfl hl.1 rfl (Nat.le_of_ble_eq_true rfl) dX8_rest_36) hD hS hA (fun H locs hP hD hS => ?_)
        have hP : va_P D cls9 (wM cI ad states whyKind whyOrder u_26 u_27 textLong spot readColumns all past refused u_28 kept chosen across sum one two base quotients text numbers entries before) H := hP
        have hD : va_D A (wM cI ad states whyKind whyOrder u_26 u_27 textLong spot readColumns all past refused u_28 kept chosen across sum one two base quotients text numbers entries before) := hD
        refine lv_goto (tgt := 48) hx hb dX8_rest_39 (by decide) ?_
        have he := Option.some.inj hq
        subst he
        exact hE H locs _ _ _ rfl dX8_rest_48 hP hD hS
