abbrev rm_X8_takesFigure : Room := { frames := 2, cells := 0, slots := 0, locals := 46 }
theorem iX8_takesFigure_X8 : ∀ w ∈ wsX80, w ∈ wsX8_takesFigure := fun _ h => (List.mem_cons_of_mem _ (List.mem_append_right _ h))
theorem fX8_takesFigure_1 : Cond.fieldLink RX8 53 "PopovRowsModel" "numbers" "[I" ∈ wsX8_takesFigure := (List.mem_cons_of_mem _ (List.mem_append_left _ (List.mem_of_getElem? (i := 0) rfl)))
theorem fX8_takesFigure_2 : Cond.fieldLink RX8 280 "PopovRowsModel" "spot" "I" ∈ wsX8_takesFigure := (List.mem_cons_of_mem _ (List.mem_append_left _ (List.mem_of_getElem? (i := 1) rfl)))
set_option maxHeartbeats 4000000 in
set_option maxRecDepth 100000 in
theorem mtX8_takesFigure (l : Launch) (D : va_G) (cI cB cR : ClassId) (ad : Nat → Nat) (sz : Nat) (states : Int32) (whyKind : Int32) (whyOrder : Int32) (many : Int32) (wide : Int32) (textLong : Int32) (spot : Int32) (readColumns : Int32) (all : Nat → Int32) (past : Nat → Int32) (refused : Nat → Int32) (work : Nat → Int32) (kept : Nat → Int32) (chosen : Nat → Int32) (across : Nat → Int32) (sum : Nat → Int32) (one : Nat → Int32) (two : Nat → Int32) (base : Nat → Int32) (quotients : Nat → Int32) (text : Nat → Int32) (numbers : Nat → Int32) (entries : Nat → Int32) (before : Nat → Int32) (a0 : Int32) (res : Int32 × Int32 × (Nat → Int32)) (hf : fX8_takesFigure textLong spot text numbers a0 = some res) : Met l yX8_takesFigure wsX8_takesFigure rm_X8_takesFigure (qP D cI cB cR [.ref (ad 0), .int a0] (wM cI ad states whyKind whyOrder many wide textLong spot readColumns all past refused work kept chosen across sum one two base quotients text numbers entries before) sz) (qZ D res.1 (wM cI ad states whyKind whyOrder many wide textLong spot readColumns all past refused work kept chosen across sum one two base quotients text numbers entries before) (wM cI ad states whyKind whyOrder many wide textLong res.2.1 readColumns all past refused work kept chosen across sum one two base quotients text res.2.2 entries before) sz) 0 0 (va_A (wM cI ad states whyKind whyOrder many wide textLong spot readColumns all past refused work kept chosen across sum one two base quotients text numbers entries before) sz) := by
  refine entZ (plainFor_of_name (by decide)) rfl (Nat.le_of_ble_eq_true rfl) ?_
  intro p e s m args below meth c Q A ls S hG hP hD hA hl hE
  obtain ⟨hx, hb, hml, hown, hts⟩ := S
  have hown : s.vm.findClass RX8 = some m.cls := hown
  have hS : va_S A s.heap s.heap [] := va_S.rf
  have hl : lv_has ls 3 [(0, .ref (ad 0)), (1, .int a0)] := hl
  have hq := hf
  unfold fX8_takesFigure at hq
  obtain ⟨H, hH⟩ : ∃ H, H = s.heap := ⟨_, rfl⟩
  obtain ⟨locs, hlo⟩ : ∃ L : List Loc, L = [] := ⟨_, rfl⟩
  have hP : va_P D cls9 (wM cI ad states whyKind whyOrder many wide textLong spot readColumns all past refused work kept chosen across sum one two base quotients text numbers entries before) H := hH ▸ hP
  have hS : va_S A s.heap H locs := by rw [hH, hlo]; exact hS
  suffices hg : W p l e rm_X8_takesFigure s m args below meth c H locs 0 0 Q (F0 m 0 ls []) by rw [hH, hlo] at hg; exact hg
  refine lv_aload_n hx hb dX8_takesFigure_0 rfl (lv_at hl 0 rfl) ?_
  obtain ⟨v_4, hq_3, hk⟩ := bd2_s hq
  obtain ⟨r_1, u_2⟩ := v_4
  have hq := hk _ _ rfl
  refine callIA (gV (rest := []) ⟨hx, hb, hml, hown, hts⟩ hG hP hD 0 8 rfl rfl (mtX8_here l D cI cB cR ad H.size states whyKind whyOrder many wide textLong spot readColumns all past refused work kept chosen across sum one two base quotients text numbers entries before (r_1, u_2) hq_3) (cwV 0 hts gX8_takesFigure_X8_here rfl rfl rfl ⟨rfl, hd_X8_here⟩ ⟨Nat.le_of_ble_eq_true rfl, Nat.le_of_ble_eq_true rfl⟩) rfl hl.1 rfl (Nat.le_of_ble_eq_true rfl) dX8_takesFigure_1) hD hS hA (fun H locs hP hD hS => ?_)
  have hP : va_P D cls9 (wM cI ad states whyKind whyOrder many wide textLong u_2 readColumns all past refused work kept chosen across sum one two base quotients text numbers entries before) H := hP
  have hD : va_D A (wM cI ad states whyKind whyOrder many wide textLong u_2 readColumns all past refused work kept chosen across sum one two base quotients text numbers entries before) := hD
  refine lv_istore_n (lv' := [(2, .int r_1), (0, .ref (ad 0)), (1, .int a0)]) hx hb dX8_takesFigure_4 rfl hl (by decide) rfl (fun ls hl => ?_)
  refine lv_aload_n hx hb dX8_takesFigure_5 rfl (lv_at hl 1 rfl) ?_
  refine lv_iload_n hx hb dX8_takesFigure_6 rfl (lv_at hl 0 rfl) ?_
  refine callZA (gV (rest := []) ⟨hx, hb, hml, hown, hts⟩ hG hP hD 0 8 rfl rfl (mtX8_isFigure l D cI cB cR ad H.size states whyKind whyOrder many wide textLong u_2 readColumns all past refused work kept chosen across sum one two base quotients text numbers entries before r_1 _ rfl) (cwV 1 hts gX8_takesFigure_X8_isFigure rfl rfl rfl ⟨rfl, hd_X8_isFigure⟩ ⟨Nat.le_of_ble_eq_true rfl, Nat.le_of_ble_eq_true rfl⟩) rfl hl.1 rfl (Nat.le_of_ble_eq_true rfl) dX8_takesFigure_7) hD hS hA (fun H locs z_5 hP hD hS => ?_)
  have hP : va_P D cls9 (wM cI ad states whyKind whyOrder many wide textLong u_2 readColumns all past refused work kept chosen across sum one two base quotients text numbers entries before) H := hP
  have hD : va_D A (wM cI ad states whyKind whyOrder many wide textLong u_2 readColumns all past refused work kept chosen across sum one two base quotients text numbers entries before) := hD
  refine lv_if_ne (tgt := 15) hx hb dX8_takesFigure_10 (by decide) (fun c_6 => ?_) (fun c_6 => ?_)
  · have hq := it_f c_6 hq
    refine lv_aload_n hx hb dX8_takesFigure_15 rfl (lv_at hl 1 rfl) ?_
    refine va_get (D := D) (ci := 8) (v := .ref (ad 14)) (C := RX8) (T := TX8) (N := 24) hx hb hts iX8_takesFigure_X8 hown hG.1 hP 0 rfl rfl 20 (by decide) (hts _ fX8_takesFigure_1) (fun _ h9 => h9) rfl dX8_takesFigure_16 ?_
    refine lv_iload_n hx hb dX8_takesFigure_19 rfl (lv_at hl 2 rfl) ?_
    refine lv_iload_n hx hb dX8_takesFigure_20 rfl (lv_at hl 0 rfl) ?_
    refine lv_bipush (v := 48) hx hb dX8_takesFigure_21 (by decide) ?_
    refine lv_isub hx hb dX8_takesFigure_23 ?_
    obtain ⟨h_7, hq⟩ := gd_s hq
    refine va_iast hx hb hG.1 hP hD hS 14 0 rfl rfl h_7 dX8_takesFigure_24 (fun H locs hP hD hS => ?_)
    have hP : va_P D cls9 (wM cI ad states whyKind whyOrder many wide textLong u_2 readColumns all past refused work kept chosen across sum one two base quotients text (upd numbers a0.toNatClampNeg (r_1 - (48 : Int32))) entries before) H := hP
    have hD : va_D A (wM cI ad states whyKind whyOrder many wide textLong u_2 readColumns all past refused work kept chosen across sum one two base quotients text (upd numbers a0.toNatClampNeg (r_1 - (48 : Int32))) entries before) := hD
    refine lv_aload_n hx hb dX8_takesFigure_25 rfl (lv_at hl 1 rfl) ?_
    refine lv_dup hx hb dX8_takesFigure_26 rfl ?_
    refine va_get (D := D) (ci := 8) (v := .int u_2) (C := RX8) (T := TX8) (N := 24) hx hb hts iX8_takesFigure_X8 hown hG.1 hP 0 rfl rfl 19 (by decide) (hts _ fX8_takesFigure_2) (fun _ h9 => h9) rfl dX8_takesFigure_27 ?_
    refine lv_iconst (v := 1) hx hb dX8_takesFigure_30 (by decide) ?_
    refine lv_iadd hx hb dX8_takesFigure_31 ?_
    refine va_put (D := D) (ci := 8) (v := .int (u_2 + (1 : Int32))) (ty := .int) (C := RX8) (T := TX8) (N := 24) hx hb hts iX8_takesFigure_X8 tyX8 tyX8_ok nmX8 hown hG.1 hP hD hS 0 rfl rfl 19 (by decide) (hts _ fX8_takesFigure_2) (fun _ h9 => h9) rfl (by decide +kernel) rfl rfl (Nat.le_of_ble_eq_true rfl) dX8_takesFigure_32 (fun H locs hP hD hS => ?_)
    have hP : va_P D cls9 (wM cI ad states whyKind whyOrder many wide textLong (u_2 + (1 : Int32)) readColumns all past refused work kept chosen across sum one two base quotients text (upd numbers a0.toNatClampNeg (r_1 - (48 : Int32))) entries before) H := hP
    have hD : va_D A (wM cI ad states whyKind whyOrder many wide textLong (u_2 + (1 : Int32)) readColumns all past refused work kept chosen across sum one two base quotients text (upd numbers a0.toNatClampNeg (r_1 - (48 : Int32))) entries before) := hD
    refine lv_iconst (v := 1) hx hb dX8_takesFigure_35 (by decide) ?_
    have he := Option.some.inj hq
    subst he
    exact hE H locs _ _ _ rfl (Or.inr rfl) dX8_takesFigure_36 hP hD hS
  · have hq := it_t c_6 hq
    refine lv_iconst (v := 0) hx hb dX8_takesFigure_13 (by decide) ?_
    have he := Option.some.inj hq
    subst he
    exact hE H locs _ _ _ rfl (Or.inl rfl) dX8_takesFigure_14 hP hD hS
abbrev rm_X8_takesTerm : Room := { frames := 2, cells := 0, slots := 0, locals := 46 }
theorem iX8_takesTerm_X8 : ∀ w ∈ wsX80, w ∈ wsX8_takesTerm := fun _ h => (List.mem_cons_of_mem _ (List.mem_append_right _ h))
theorem fX8_takesTerm_1 : Cond.fieldLink RX8 280 "PopovRowsModel" "spot" "I" ∈ wsX8_takesTerm := (List.mem_cons_of_mem _ (List.mem_append_left _ (List.mem_of_getElem? (i := 0) rfl)))
theorem fX8_takesTerm_2 : Cond.fieldLink RX8 277 "PopovRowsModel" "textLong" "I" ∈ wsX8_takesTerm := (List.mem_cons_of_mem _ (List.mem_append_left _ (List.mem_of_getElem? (i := 2) rfl)))
theorem fX8_takesTerm_3 : Cond.fieldLink RX8 56 "PopovRowsModel" "entries" "[I" ∈ wsX8_takesTerm := (List.mem_cons_of_mem _ (List.mem_append_left _ (List.mem_of_getElem? (i := 1) rfl)))
theorem fX8_takesTerm_4 : Cond.fieldLink RX8 50 "PopovRowsModel" "text" "[I" ∈ wsX8_takesTerm := (List.mem_cons_of_mem _ (List.mem_append_left _ (List.mem_of_getElem? (i := 3) rfl)))
theorem fX8_takesTerm_5 : Cond.constantLong RX8 124 (6) ∈ wsX8_takesTerm := (List.mem_cons_of_mem _ (List.mem_append_left _ (List.mem_of_getElem? (i := 4) rfl)))
set_option maxHeartbeats 4000000 in
set_option maxRecDepth 100000 in
theorem mtX8_takesTerm (l : Launch) (D : va_G) (cI cB cR : ClassId) (ad : Nat → Nat) (sz : Nat) (states : Int32) (whyKind : Int32) (whyOrder : Int32) (many : Int32) (wide : Int32) (textLong : Int32) (spot : Int32) (readColumns : Int32) (all : Nat → Int32) (past : Nat → Int32) (refused : Nat → Int32) (work : Nat → Int32) (kept : Nat → Int32) (chosen : Nat → Int32) (across : Nat → Int32) (sum : Nat → Int32) (one : Nat → Int32) (two : Nat → Int32) (base : Nat → Int32) (quotients : Nat → Int32) (text : Nat → Int32) (numbers : Nat → Int32) (entries : Nat → Int32) (before : Nat → Int32) (a0 : Int32) (res : Int32 × Int32 × (Nat → Int32)) (hf : fX8_takesTerm textLong spot text entries a0 = some res) : Met l yX8_takesTerm wsX8_takesTerm rm_X8_takesTerm (qP D cI cB cR [.ref (ad 0), .int a0] (wM cI ad states whyKind whyOrder many wide textLong spot readColumns all past refused work kept chosen across sum one two base quotients text numbers entries before) sz) (qZ D res.1 (wM cI ad states whyKind whyOrder many wide textLong spot readColumns all past refused work kept chosen across sum one two base quotients text numbers entries before) (wM cI ad states whyKind whyOrder many wide textLong res.2.1 readColumns all past refused work kept chosen across sum one two base quotients text numbers res.2.2 before) sz) 0 0 (va_A (wM cI ad states whyKind whyOrder many wide textLong spot readColumns all past refused work kept chosen across sum one two base quotients text numbers entries before) sz) := by
  refine entZ (plainFor_of_name (by decide)) rfl (Nat.le_of_ble_eq_true rfl) ?_
  intro p e s m args below meth c Q A ls S hG hP hD hA hl hE
  obtain ⟨hx, hb, hml, hown, hts⟩ := S
  have hown : s.vm.findClass RX8 = some m.cls := hown
  have hS : va_S A s.heap s.heap [] := va_S.rf
  have hl : lv_has ls 5 [(0, .ref (ad 0)), (1, .int a0)] := hl
  have hq := hf
  unfold fX8_takesTerm at hq
  obtain ⟨H, hH⟩ : ∃ H, H = s.heap := ⟨_, rfl⟩
  obtain ⟨locs, hlo⟩ : ∃ L : List Loc, L = [] := ⟨_, rfl⟩
  have hP : va_P D cls9 (wM cI ad states whyKind whyOrder many wide textLong spot readColumns all past refused work kept chosen across sum one two base quotients text numbers entries before) H := hH ▸ hP
  have hS : va_S A s.heap H locs := by rw [hH, hlo]; exact hS
  suffices hg : W p l e rm_X8_takesTerm s m args below meth c H locs 0 0 Q (F0 m 0 ls []) by rw [hH, hlo] at hg; exact hg
  refine lv_aload_n hx hb dX8_takesTerm_0 rfl (lv_at hl 0 rfl) ?_
  obtain ⟨v_4, hq_3, hk⟩ := bd2_s hq
  obtain ⟨r_1, u_2⟩ := v_4
  have hq := hk _ _ rfl
  refine callIA (gV (rest := []) ⟨hx, hb, hml, hown, hts⟩ hG hP hD 0 8 rfl rfl (mtX8_here l D cI cB cR ad H.size states whyKind whyOrder many wide textLong spot readColumns all past refused work kept chosen across sum one two base quotients text numbers entries before (r_1, u_2) hq_3) (cwV 0 hts gX8_takesTerm_X8_here rfl rfl rfl ⟨rfl, hd_X8_here⟩ ⟨Nat.le_of_ble_eq_true rfl, Nat.le_of_ble_eq_true rfl⟩) rfl hl.1 rfl (Nat.le_of_ble_eq_true rfl) dX8_takesTerm_1) hD hS hA (fun H locs hP hD hS => ?_)
  have hP : va_P D cls9 (wM cI ad states whyKind whyOrder many wide textLong u_2 readColumns all past refused work kept chosen across sum one two base quotients text numbers entries before) H := hP
  have hD : va_D A (wM cI ad states whyKind whyOrder many wide textLong u_2 readColumns all past refused work kept chosen across sum one two base quotients text numbers entries before) := hD
  refine lv_istore_n (lv' := [(2, .int r_1), (0, .ref (ad 0)), (1, .int a0)]) hx hb dX8_takesTerm_4 rfl hl (by decide) rfl (fun ls hl => ?_)
  refine lv_iconst (v := 1) hx hb dX8_takesTerm_5 (by decide) ?_
  refine lv_istore_n (lv' := [(3, .int (1 : Int32)), (2, .int r_1), (0, .ref (ad 0)), (1, .int a0)]) hx hb dX8_takesTerm_6 rfl hl (by decide) rfl (fun ls hl => ?_)
  refine lv_aload_n hx hb dX8_takesTerm_7 rfl (lv_at hl 2 rfl) ?_
  refine lv_iload_n hx hb dX8_takesTerm_8 rfl (lv_at hl 1 rfl) ?_
  refine callZA (gV (rest := []) ⟨hx, hb, hml, hown, hts⟩ hG hP hD 0 8 rfl rfl (mtX8_isFigure l D cI cB cR ad H.size states whyKind whyOrder many wide textLong u_2 readColumns all past refused work kept chosen across sum one two base quotients text numbers entries before r_1 _ rfl) (cwV 1 hts gX8_takesTerm_X8_isFigure rfl rfl rfl ⟨rfl, hd_X8_isFigure⟩ ⟨Nat.le_of_ble_eq_true rfl, Nat.le_of_ble_eq_true rfl⟩) rfl hl.1 rfl (Nat.le_of_ble_eq_true rfl) dX8_takesTerm_9) hD hS hA (fun H locs z_5 hP hD hS => ?_)
  have hP : va_P D cls9 (wM cI ad states whyKind whyOrder many wide textLong u_2 readColumns all past refused work kept chosen across sum one two base quotients text numbers entries before) H := hP
  have hD : va_D A (wM cI ad states whyKind whyOrder many wide textLong u_2 readColumns all past refused work kept chosen across sum one two base quotients text numbers entries before) := hD
  refine lv_if_eq (tgt := 56) hx hb dX8_takesTerm_12 (by decide) (fun c_6 => ?_) (fun c_6 => ?_)
  · have hq := it_t c_6 hq
    refine lv_iload_n hx hb dX8_takesTerm_56 rfl (lv_at hl 1 rfl) ?_
    refine lv_bipush (v := 120) hx hb dX8_takesTerm_57 (by decide) ?_
    refine lv_icmp_eq (tgt := 64) hx hb dX8_takesTerm_59 (by decide) (fun c_7 => ?_) (fun c_7 => ?_)
    · have hq := it_t c_7 hq
      refine lv_aload_n hx hb dX8_takesTerm_64 rfl (lv_at hl 2 rfl) ?_
      refine lv_dup hx hb dX8_takesTerm_65 rfl ?_
      refine va_get (D := D) (ci := 8) (v := .int u_2) (C := RX8) (T := TX8) (N := 24) hx hb hts iX8_takesTerm_X8 hown hG.1 hP 0 rfl rfl 19 (by decide) (hts _ fX8_takesTerm_1) (fun _ h9 => h9) rfl dX8_takesTerm_66 ?_
      refine lv_iconst (v := 1) hx hb dX8_takesTerm_69 (by decide) ?_
      refine lv_iadd hx hb dX8_takesTerm_70 ?_
      refine va_put (D := D) (ci := 8) (v := .int (u_2 + (1 : Int32))) (ty := .int) (C := RX8) (T := TX8) (N := 24) hx hb hts iX8_takesTerm_X8 tyX8 tyX8_ok nmX8 hown hG.1 hP hD hS 0 rfl rfl 19 (by decide) (hts _ fX8_takesTerm_1) (fun _ h9 => h9) rfl (by decide +kernel) rfl rfl (Nat.le_of_ble_eq_true rfl) dX8_takesTerm_71 (fun H locs hP hD hS => ?_)
      have hP : va_P D cls9 (wM cI ad states whyKind whyOrder many wide textLong (u_2 + (1 : Int32)) readColumns all past refused work kept chosen across sum one two base quotients text numbers entries before) H := hP
      have hD : va_D A (wM cI ad states whyKind whyOrder many wide textLong (u_2 + (1 : Int32)) readColumns all past refused work kept chosen across sum one two base quotients text numbers entries before) := hD
      refine lv_iconst (v := 1) hx hb dX8_takesTerm_74 (by decide) ?_
      refine lv_istore (lv' := [(4, .int (1 : Int32)), (3, .int (1 : Int32)), (2, .int r_1), (0, .ref (ad 0)), (1, .int a0)]) hx hb dX8_takesTerm_75 hl (by decide) rfl (fun ls hl => ?_)
      refine lv_aload_n hx hb dX8_takesTerm_77 rfl (lv_at hl 3 rfl) ?_
      refine va_get (D := D) (ci := 8) (v := .int (u_2 + (1 : Int32))) (C := RX8) (T := TX8) (N := 24) hx hb hts iX8_takesTerm_X8 hown hG.1 hP 0 rfl rfl 19 (by decide) (hts _ fX8_takesTerm_1) (fun _ h9 => h9) rfl dX8_takesTerm_78 ?_
      refine lv_aload_n hx hb dX8_takesTerm_81 rfl (lv_at hl 3 rfl) ?_
      refine va_get (D := D) (ci := 8) (v := .int textLong) (C := RX8) (T := TX8) (N := 24) hx hb hts iX8_takesTerm_X8 hown hG.1 hP 0 rfl rfl 18 (by decide) (hts _ fX8_takesTerm_2) (fun _ h9 => h9) rfl dX8_takesTerm_82 ?_
      refine lv_icmp_ge (tgt := 143) hx hb dX8_takesTerm_85 (by decide) (fun c_8 => ?_) (fun c_8 => ?_)
      · have hq := it_t c_8 hq
        refine lv_aload_n hx hb dX8_takesTerm_143 rfl (lv_at hl 3 rfl) ?_
        refine va_get (D := D) (ci := 8) (v := .ref (ad 15)) (C := RX8) (T := TX8) (N := 24) hx hb hts iX8_takesTerm_X8 hown hG.1 hP 0 rfl rfl 21 (by decide) (hts _ fX8_takesTerm_3) (fun _ h9 => h9) rfl dX8_takesTerm_144 ?_
        refine lv_bipush (v := 7) hx hb dX8_takesTerm_147 (by decide) ?_
        refine lv_iload_n hx hb dX8_takesTerm_149 rfl (lv_at hl 4 rfl) ?_
        refine lv_imul hx hb dX8_takesTerm_150 ?_
        refine lv_iload hx hb dX8_takesTerm_151 (lv_at hl 0 rfl) ?_
        refine lv_iadd hx hb dX8_takesTerm_153 ?_
        refine lv_dup2_11 hx hb dX8_takesTerm_154 rfl rfl ?_
        obtain ⟨h_9, hq⟩ := gd_s hq
        refine va_iald hx hb hG.1 hP 15 0 rfl rfl h_9 dX8_takesTerm_155 ?_
        refine lv_iload_n hx hb dX8_takesTerm_156 rfl (lv_at hl 1 rfl) ?_
        refine lv_iadd hx hb dX8_takesTerm_157 ?_
        obtain ⟨h_10, hq⟩ := gd_s hq
        refine va_iast hx hb hG.1 hP hD hS 15 0 rfl rfl h_10 dX8_takesTerm_158 (fun H locs hP hD hS => ?_)
        have hP : va_P D cls9 (wM cI ad states whyKind whyOrder many wide textLong (u_2 + (1 : Int32)) readColumns all past refused work kept chosen across sum one two base quotients text numbers (upd entries (((7 : Int32) * a0) + (1 : Int32)).toNatClampNeg ((entries (((7 : Int32) * a0) + (1 : Int32)).toNatClampNeg) + (1 : Int32))) before) H := hP
        have hD : va_D A (wM cI ad states whyKind whyOrder many wide textLong (u_2 + (1 : Int32)) readColumns all past refused work kept chosen across sum one two base quotients text numbers (upd entries (((7 : Int32) * a0) + (1 : Int32)).toNatClampNeg ((entries (((7 : Int32) * a0) + (1 : Int32)).toNatClampNeg) + (1 : Int32))) before) := hD
        refine lv_iconst (v := 1) hx hb dX8_takesTerm_159 (by decide) ?_
        have he := Option.some.inj hq
        subst he
        exact hE H locs _ _ _ rfl (Or.inr rfl) dX8_takesTerm_160 hP hD hS
      · have hq := it_f c_8 hq
        refine lv_aload_n hx hb dX8_takesTerm_88 rfl (lv_at hl 3 rfl) ?_
        refine lv_aload_n hx hb dX8_takesTerm_89 rfl (lv_at hl 3 rfl) ?_
        refine va_get (D := D) (ci := 8) (v := .ref (ad 13)) (C := RX8) (T := TX8) (N := 24) hx hb hts iX8_takesTerm_X8 hown hG.1 hP 0 rfl rfl 17 (by decide) (hts _ fX8_takesTerm_4) (fun _ h9 => h9) rfl dX8_takesTerm_90 ?_
        refine lv_aload_n hx hb dX8_takesTerm_93 rfl (lv_at hl 3 rfl) ?_
        refine va_get (D := D) (ci := 8) (v := .int (u_2 + (1 : Int32))) (C := RX8) (T := TX8) (N := 24) hx hb hts iX8_takesTerm_X8 hown hG.1 hP 0 rfl rfl 19 (by decide) (hts _ fX8_takesTerm_1) (fun _ h9 => h9) rfl dX8_takesTerm_94 ?_
        obtain ⟨h_11, hq⟩ := gd_s hq
        refine va_iald hx hb hG.1 hP 13 0 rfl rfl h_11 dX8_takesTerm_97 ?_
        refine callZA (gV (rest := []) ⟨hx, hb, hml, hown, hts⟩ hG hP hD 0 8 rfl rfl (mtX8_isFigure l D cI cB cR ad H.size states whyKind whyOrder many wide textLong (u_2 + (1 : Int32)) readColumns all past refused work kept chosen across sum one two base quotients text numbers entries before (text (u_2 + (1 : Int32)).toNatClampNeg) _ rfl) (cwV 1 hts gX8_takesTerm_X8_isFigure rfl rfl rfl ⟨rfl, hd_X8_isFigure⟩ ⟨Nat.le_of_ble_eq_true rfl, Nat.le_of_ble_eq_true rfl⟩) rfl hl.1 rfl (Nat.le_of_ble_eq_true rfl) dX8_takesTerm_98) hD hS hA (fun H locs z_12 hP hD hS => ?_)
        have hP : va_P D cls9 (wM cI ad states whyKind whyOrder many wide textLong (u_2 + (1 : Int32)) readColumns all past refused work kept chosen across sum one two base quotients text numbers entries before) H := hP
        have hD : va_D A (wM cI ad states whyKind whyOrder many wide textLong (u_2 + (1 : Int32)) readColumns all past refused work kept chosen across sum one two base quotients text numbers entries before) := hD
        refine lv_if_eq (tgt := 143) hx hb dX8_takesTerm_101 (by decide) (fun c_13 => ?_) (fun c_13 => ?_)
        · have hq := it_t c_13 hq
          refine lv_aload_n hx hb dX8_takesTerm_143 rfl (lv_at hl 3 rfl) ?_
          refine va_get (D := D) (ci := 8) (v := .ref (ad 15)) (C := RX8) (T := TX8) (N := 24) hx hb hts iX8_takesTerm_X8 hown hG.1 hP 0 rfl rfl 21 (by decide) (hts _ fX8_takesTerm_3) (fun _ h9 => h9) rfl dX8_takesTerm_144 ?_
          refine lv_bipush (v := 7) hx hb dX8_takesTerm_147 (by decide) ?_
          refine lv_iload_n hx hb dX8_takesTerm_149 rfl (lv_at hl 4 rfl) ?_
          refine lv_imul hx hb dX8_takesTerm_150 ?_
          refine lv_iload hx hb dX8_takesTerm_151 (lv_at hl 0 rfl) ?_
          refine lv_iadd hx hb dX8_takesTerm_153 ?_
          refine lv_dup2_11 hx hb dX8_takesTerm_154 rfl rfl ?_
          obtain ⟨h_14, hq⟩ := gd_s hq
          refine va_iald hx hb hG.1 hP 15 0 rfl rfl h_14 dX8_takesTerm_155 ?_
          refine lv_iload_n hx hb dX8_takesTerm_156 rfl (lv_at hl 1 rfl) ?_
          refine lv_iadd hx hb dX8_takesTerm_157 ?_
          obtain ⟨h_15, hq⟩ := gd_s hq
          refine va_iast hx hb hG.1 hP hD hS 15 0 rfl rfl h_15 dX8_takesTerm_158 (fun H locs hP hD hS => ?_)
          have hP : va_P D cls9 (wM cI ad states whyKind whyOrder many wide textLong (u_2 + (1 : Int32)) readColumns all past refused work kept chosen across sum one two base quotients text numbers (upd entries (((7 : Int32) * a0) + (1 : Int32)).toNatClampNeg ((entries (((7 : Int32) * a0) + (1 : Int32)).toNatClampNeg) + (1 : Int32))) before) H := hP
          have hD : va_D A (wM cI ad states whyKind whyOrder many wide textLong (u_2 + (1 : Int32)) readColumns all past refused work kept chosen across sum one two base quotients text numbers (upd entries (((7 : Int32) * a0) + (1 : Int32)).toNatClampNeg ((entries (((7 : Int32) * a0) + (1 : Int32)).toNatClampNeg) + (1 : Int32))) before) := hD
          refine lv_iconst (v := 1) hx hb dX8_takesTerm_159 (by decide) ?_
          have he := Option.some.inj hq
          subst he
          exact hE H locs _ _ _ rfl (Or.inr rfl) dX8_takesTerm_160 hP hD hS
        · have hq := it_f c_13 hq
          refine lv_aload_n hx hb dX8_takesTerm_104 rfl (lv_at hl 3 rfl) ?_
          refine va_get (D := D) (ci := 8) (v := .ref (ad 13)) (C := RX8) (T := TX8) (N := 24) hx hb hts iX8_takesTerm_X8 hown hG.1 hP 0 rfl rfl 17 (by decide) (hts _ fX8_takesTerm_4) (fun _ h9 => h9) rfl dX8_takesTerm_105 ?_
          refine lv_aload_n hx hb dX8_takesTerm_108 rfl (lv_at hl 3 rfl) ?_
          refine va_get (D := D) (ci := 8) (v := .int (u_2 + (1 : Int32))) (C := RX8) (T := TX8) (N := 24) hx hb hts iX8_takesTerm_X8 hown hG.1 hP 0 rfl rfl 19 (by decide) (hts _ fX8_takesTerm_1) (fun _ h9 => h9) rfl dX8_takesTerm_109 ?_
          obtain ⟨h_16, hq⟩ := gd_s hq
          refine va_iald hx hb hG.1 hP 13 0 rfl rfl h_16 dX8_takesTerm_112 ?_
          refine lv_bipush (v := 48) hx hb dX8_takesTerm_113 (by decide) ?_
          refine lv_isub hx hb dX8_takesTerm_115 ?_
          refine lv_istore (lv' := [(4, .int ((text (u_2 + (1 : Int32)).toNatClampNeg) - (48 : Int32))), (3, .int (1 : Int32)), (2, .int r_1), (0, .ref (ad 0)), (1, .int a0)]) hx hb dX8_takesTerm_116 hl (by decide) rfl (fun ls hl => ?_)
          refine lv_iload hx hb dX8_takesTerm_118 (lv_at hl 0 rfl) ?_
          refine lv_i2l (v := ((((text (u_2 + (1 : Int32)).toNatClampNeg) - (48 : Int32))).toInt64)) hx hb dX8_takesTerm_120 rfl ?_
          refine lv_lconst (v := 1) hx hb dX8_takesTerm_121 (by decide) ?_
          refine lv_ldc2 (v := 6) hx hb hown (hts _ fX8_takesTerm_5) dX8_takesTerm_122 ?_
          refine callZ0 (gS (rest := []) ⟨hx, hb, hml, hown, hts⟩ hG vaP0 (vaD0 (A := A)) (mtX8_in l D cI cB cR H.size ((((text (u_2 + (1 : Int32)).toNatClampNeg) - (48 : Int32))).toInt64) (1 : Int64) (6 : Int64) _ rfl) (va_cwS 3 hts gX8_takesTerm_X8_in rfl rfl rfl hd_X8_in ⟨Nat.le_of_ble_eq_true rfl, Nat.le_of_ble_eq_true rfl⟩) rfl hl.1 rfl (Nat.le_of_ble_eq_true rfl) dX8_takesTerm_125) hP hS hA (fun H locs z_17 hP hS => ?_)
          refine lv_if_ne (tgt := 133) hx hb dX8_takesTerm_128 (by decide) (fun c_18 => ?_) (fun c_18 => ?_)
          · have hq := it_f c_18 hq
            refine lv_aload_n hx hb dX8_takesTerm_133 rfl (lv_at hl 3 rfl) ?_
            refine lv_dup hx hb dX8_takesTerm_134 rfl ?_
            refine va_get (D := D) (ci := 8) (v := .int (u_2 + (1 : Int32))) (C := RX8) (T := TX8) (N := 24) hx hb hts iX8_takesTerm_X8 hown hG.1 hP 0 rfl rfl 19 (by decide) (hts _ fX8_takesTerm_1) (fun _ h9 => h9) rfl dX8_takesTerm_135 ?_
            refine lv_iconst (v := 1) hx hb dX8_takesTerm_138 (by decide) ?_
            refine lv_iadd hx hb dX8_takesTerm_139 ?_
            refine va_put (D := D) (ci := 8) (v := .int ((u_2 + (1 : Int32)) + (1 : Int32))) (ty := .int) (C := RX8) (T := TX8) (N := 24) hx hb hts iX8_takesTerm_X8 tyX8 tyX8_ok nmX8 hown hG.1 hP hD hS 0 rfl rfl 19 (by decide) (hts _ fX8_takesTerm_1) (fun _ h9 => h9) rfl (by decide +kernel) rfl rfl (Nat.le_of_ble_eq_true rfl) dX8_takesTerm_140 (fun H locs hP hD hS => ?_)
            have hP : va_P D cls9 (wM cI ad states whyKind whyOrder many wide textLong ((u_2 + (1 : Int32)) + (1 : Int32)) readColumns all past refused work kept chosen across sum one two base quotients text numbers entries before) H := hP
            have hD : va_D A (wM cI ad states whyKind whyOrder many wide textLong ((u_2 + (1 : Int32)) + (1 : Int32)) readColumns all past refused work kept chosen across sum one two base quotients text numbers entries before) := hD
            refine lv_aload_n hx hb dX8_takesTerm_143 rfl (lv_at hl 3 rfl) ?_
            refine va_get (D := D) (ci := 8) (v := .ref (ad 15)) (C := RX8) (T := TX8) (N := 24) hx hb hts iX8_takesTerm_X8 hown hG.1 hP 0 rfl rfl 21 (by decide) (hts _ fX8_takesTerm_3) (fun _ h9 => h9) rfl dX8_takesTerm_144 ?_
            refine lv_bipush (v := 7) hx hb dX8_takesTerm_147 (by decide) ?_
            refine lv_iload_n hx hb dX8_takesTerm_149 rfl (lv_at hl 4 rfl) ?_
            refine lv_imul hx hb dX8_takesTerm_150 ?_
            refine lv_iload hx hb dX8_takesTerm_151 (lv_at hl 0 rfl) ?_
            refine lv_iadd hx hb dX8_takesTerm_153 ?_
            refine lv_dup2_11 hx hb dX8_takesTerm_154 rfl rfl ?_
            obtain ⟨h_19, hq⟩ := gd_s hq
            refine va_iald hx hb hG.1 hP 15 0 rfl rfl h_19 dX8_takesTerm_155 ?_
            refine lv_iload_n hx hb dX8_takesTerm_156 rfl (lv_at hl 1 rfl) ?_
            refine lv_iadd hx hb dX8_takesTerm_157 ?_
            obtain ⟨h_20, hq⟩ := gd_s hq
            refine va_iast hx hb hG.1 hP hD hS 15 0 rfl rfl h_20 dX8_takesTerm_158 (fun H locs hP hD hS => ?_)
            have hP : va_P D cls9 (wM cI ad states whyKind whyOrder many wide textLong ((u_2 + (1 : Int32)) + (1 : Int32)) readColumns all past refused work kept chosen across sum one two base quotients text numbers (upd entries (((7 : Int32) * a0) + ((text (u_2 + (1 : Int32)).toNatClampNeg) - (48 : Int32))).toNatClampNeg ((entries (((7 : Int32) * a0) + ((text (u_2 + (1 : Int32)).toNatClampNeg) - (48 : Int32))).toNatClampNeg) + (1 : Int32))) before) H := hP
            have hD : va_D A (wM cI ad states whyKind whyOrder many wide textLong ((u_2 + (1 : Int32)) + (1 : Int32)) readColumns all past refused work kept chosen across sum one two base quotients text numbers (upd entries (((7 : Int32) * a0) + ((text (u_2 + (1 : Int32)).toNatClampNeg) - (48 : Int32))).toNatClampNeg ((entries (((7 : Int32) * a0) + ((text (u_2 + (1 : Int32)).toNatClampNeg) - (48 : Int32))).toNatClampNeg) + (1 : Int32))) before) := hD
            refine lv_iconst (v := 1) hx hb dX8_takesTerm_159 (by decide) ?_
            have he := Option.some.inj hq
            subst he
            exact hE H locs _ _ _ rfl (Or.inr rfl) dX8_takesTerm_160 hP hD hS
          · have hq := it_t c_18 hq
            refine lv_iconst (v := 0) hx hb dX8_takesTerm_131 (by decide) ?_
            have he := Option.some.inj hq
            subst he
            exact hE H locs _ _ _ rfl (Or.inl rfl) dX8_takesTerm_132 hP hD hS
    · have hq := it_f c_7 hq
      refine lv_iconst (v := 0) hx hb dX8_takesTerm_62 (by decide) ?_
      have he := Option.some.inj hq
      subst he
      exact hE H locs _ _ _ rfl (Or.inl rfl) dX8_takesTerm_63 hP hD hS
  · have hq := it_f c_6 hq
    refine lv_iload_n hx hb dX8_takesTerm_15 rfl (lv_at hl 1 rfl) ?_
    refine lv_bipush (v := 48) hx hb dX8_takesTerm_16 (by decide) ?_
    refine lv_isub hx hb dX8_takesTerm_18 ?_
    refine lv_istore_n (lv' := [(3, .int (r_1 - (48 : Int32))), (2, .int r_1), (0, .ref (ad 0)), (1, .int a0)]) hx hb dX8_takesTerm_19 rfl hl (by decide) rfl (fun ls hl => ?_)
    refine lv_aload_n hx hb dX8_takesTerm_20 rfl (lv_at hl 2 rfl) ?_
    refine lv_dup hx hb dX8_takesTerm_21 rfl ?_
    refine va_get (D := D) (ci := 8) (v := .int u_2) (C := RX8) (T := TX8) (N := 24) hx hb hts iX8_takesTerm_X8 hown hG.1 hP 0 rfl rfl 19 (by decide) (hts _ fX8_takesTerm_1) (fun _ h9 => h9) rfl dX8_takesTerm_22 ?_
    refine lv_iconst (v := 1) hx hb dX8_takesTerm_25 (by decide) ?_
    refine lv_iadd hx hb dX8_takesTerm_26 ?_
    refine va_put (D := D) (ci := 8) (v := .int (u_2 + (1 : Int32))) (ty := .int) (C := RX8) (T := TX8) (N := 24) hx hb hts iX8_takesTerm_X8 tyX8 tyX8_ok nmX8 hown hG.1 hP hD hS 0 rfl rfl 19 (by decide) (hts _ fX8_takesTerm_1) (fun _ h9 => h9) rfl (by decide +kernel) rfl rfl (Nat.le_of_ble_eq_true rfl) dX8_takesTerm_27 (fun H locs hP hD hS => ?_)
    have hP : va_P D cls9 (wM cI ad states whyKind whyOrder many wide textLong (u_2 + (1 : Int32)) readColumns all past refused work kept chosen across sum one two base quotients text numbers entries before) H := hP
    have hD : va_D A (wM cI ad states whyKind whyOrder many wide textLong (u_2 + (1 : Int32)) readColumns all past refused work kept chosen across sum one two base quotients text numbers entries before) := hD
    refine lv_aload_n hx hb dX8_takesTerm_30 rfl (lv_at hl 2 rfl) ?_
    obtain ⟨v_24, hq_23, hk⟩ := bd2_s hq
    obtain ⟨r_21, u_22⟩ := v_24
    have hq := hk _ _ rfl
    refine callIA (gV (rest := []) ⟨hx, hb, hml, hown, hts⟩ hG hP hD 0 8 rfl rfl (mtX8_here l D cI cB cR ad H.size states whyKind whyOrder many wide textLong (u_2 + (1 : Int32)) readColumns all past refused work kept chosen across sum one two base quotients text numbers entries before (r_21, u_22) hq_23) (cwV 0 hts gX8_takesTerm_X8_here rfl rfl rfl ⟨rfl, hd_X8_here⟩ ⟨Nat.le_of_ble_eq_true rfl, Nat.le_of_ble_eq_true rfl⟩) rfl hl.1 rfl (Nat.le_of_ble_eq_true rfl) dX8_takesTerm_31) hD hS hA (fun H locs hP hD hS => ?_)
    have hP : va_P D cls9 (wM cI ad states whyKind whyOrder many wide textLong u_22 readColumns all past refused work kept chosen across sum one two base quotients text numbers entries before) H := hP
    have hD : va_D A (wM cI ad states whyKind whyOrder many wide textLong u_22 readColumns all past refused work kept chosen across sum one two base quotients text numbers entries before) := hD
    refine lv_istore_n (lv' := [(2, .int r_21), (3, .int (r_1 - (48 : Int32))), (0, .ref (ad 0)), (1, .int a0)]) hx hb dX8_takesTerm_34 rfl hl (by decide) rfl (fun ls hl => ?_)
    refine lv_iload_n hx hb dX8_takesTerm_35 rfl (lv_at hl 0 rfl) ?_
    refine lv_bipush (v := 120) hx hb dX8_takesTerm_36 (by decide) ?_
    refine lv_icmp_eq (tgt := 56) hx hb dX8_takesTerm_38 (by decide) (fun c_25 => ?_) (fun c_25 => ?_)
    · have hq := it_t c_25 hq
      refine lv_iload_n hx hb dX8_takesTerm_56 rfl (lv_at hl 0 rfl) ?_
      refine lv_bipush (v := 120) hx hb dX8_takesTerm_57 (by decide) ?_
      refine lv_icmp_eq (tgt := 64) hx hb dX8_takesTerm_59 (by decide) (fun c_26 => ?_) (fun c_26 => ?_)
      · have hq := it_t c_26 hq
        refine lv_aload_n hx hb dX8_takesTerm_64 rfl (lv_at hl 2 rfl) ?_
        refine lv_dup hx hb dX8_takesTerm_65 rfl ?_
        refine va_get (D := D) (ci := 8) (v := .int u_22) (C := RX8) (T := TX8) (N := 24) hx hb hts iX8_takesTerm_X8 hown hG.1 hP 0 rfl rfl 19 (by decide) (hts _ fX8_takesTerm_1) (fun _ h9 => h9) rfl dX8_takesTerm_66 ?_
        refine lv_iconst (v := 1) hx hb dX8_takesTerm_69 (by decide) ?_
        refine lv_iadd hx hb dX8_takesTerm_70 ?_
        refine va_put (D := D) (ci := 8) (v := .int (u_22 + (1 : Int32))) (ty := .int) (C := RX8) (T := TX8) (N := 24) hx hb hts iX8_takesTerm_X8 tyX8 tyX8_ok nmX8 hown hG.1 hP hD hS 0 rfl rfl 19 (by decide) (hts _ fX8_takesTerm_1) (fun _ h9 => h9) rfl (by decide +kernel) rfl rfl (Nat.le_of_ble_eq_true rfl) dX8_takesTerm_71 (fun H locs hP hD hS => ?_)
        have hP : va_P D cls9 (wM cI ad states whyKind whyOrder many wide textLong (u_22 + (1 : Int32)) readColumns all past refused work kept chosen across sum one two base quotients text numbers entries before) H := hP
        have hD : va_D A (wM cI ad states whyKind whyOrder many wide textLong (u_22 + (1 : Int32)) readColumns all past refused work kept chosen across sum one two base quotients text numbers entries before) := hD
        refine lv_iconst (v := 1) hx hb dX8_takesTerm_74 (by decide) ?_
        refine lv_istore (lv' := [(4, .int (1 : Int32)), (2, .int r_21), (3, .int (r_1 - (48 : Int32))), (0, .ref (ad 0)), (1, .int a0)]) hx hb dX8_takesTerm_75 hl (by decide) rfl (fun ls hl => ?_)
        refine lv_aload_n hx hb dX8_takesTerm_77 rfl (lv_at hl 3 rfl) ?_
        refine va_get (D := D) (ci := 8) (v := .int (u_22 + (1 : Int32))) (C := RX8) (T := TX8) (N := 24) hx hb hts iX8_takesTerm_X8 hown hG.1 hP 0 rfl rfl 19 (by decide) (hts _ fX8_takesTerm_1) (fun _ h9 => h9) rfl dX8_takesTerm_78 ?_
        refine lv_aload_n hx hb dX8_takesTerm_81 rfl (lv_at hl 3 rfl) ?_
        refine va_get (D := D) (ci := 8) (v := .int textLong) (C := RX8) (T := TX8) (N := 24) hx hb hts iX8_takesTerm_X8 hown hG.1 hP 0 rfl rfl 18 (by decide) (hts _ fX8_takesTerm_2) (fun _ h9 => h9) rfl dX8_takesTerm_82 ?_
        refine lv_icmp_ge (tgt := 143) hx hb dX8_takesTerm_85 (by decide) (fun c_27 => ?_) (fun c_27 => ?_)
        · have hq := it_t c_27 hq
          refine lv_aload_n hx hb dX8_takesTerm_143 rfl (lv_at hl 3 rfl) ?_
          refine va_get (D := D) (ci := 8) (v := .ref (ad 15)) (C := RX8) (T := TX8) (N := 24) hx hb hts iX8_takesTerm_X8 hown hG.1 hP 0 rfl rfl 21 (by decide) (hts _ fX8_takesTerm_3) (fun _ h9 => h9) rfl dX8_takesTerm_144 ?_
          refine lv_bipush (v := 7) hx hb dX8_takesTerm_147 (by decide) ?_
          refine lv_iload_n hx hb dX8_takesTerm_149 rfl (lv_at hl 4 rfl) ?_
          refine lv_imul hx hb dX8_takesTerm_150 ?_
          refine lv_iload hx hb dX8_takesTerm_151 (lv_at hl 0 rfl) ?_
          refine lv_iadd hx hb dX8_takesTerm_153 ?_
          refine lv_dup2_11 hx hb dX8_takesTerm_154 rfl rfl ?_
          obtain ⟨h_28, hq⟩ := gd_s hq
          refine va_iald hx hb hG.1 hP 15 0 rfl rfl h_28 dX8_takesTerm_155 ?_
          refine lv_iload_n hx hb dX8_takesTerm_156 rfl (lv_at hl 2 rfl) ?_
          refine lv_iadd hx hb dX8_takesTerm_157 ?_
          obtain ⟨h_29, hq⟩ := gd_s hq
          refine va_iast hx hb hG.1 hP hD hS 15 0 rfl rfl h_29 dX8_takesTerm_158 (fun H locs hP hD hS => ?_)
          have hP : va_P D cls9 (wM cI ad states whyKind whyOrder many wide textLong (u_22 + (1 : Int32)) readColumns all past refused work kept chosen across sum one two base quotients text numbers (upd entries (((7 : Int32) * a0) + (1 : Int32)).toNatClampNeg ((entries (((7 : Int32) * a0) + (1 : Int32)).toNatClampNeg) + (r_1 - (48 : Int32)))) before) H := hP
          have hD : va_D A (wM cI ad states whyKind whyOrder many wide textLong (u_22 + (1 : Int32)) readColumns all past refused work kept chosen across sum one two base quotients text numbers (upd entries (((7 : Int32) * a0) + (1 : Int32)).toNatClampNeg ((entries (((7 : Int32) * a0) + (1 : Int32)).toNatClampNeg) + (r_1 - (48 : Int32)))) before) := hD
          refine lv_iconst (v := 1) hx hb dX8_takesTerm_159 (by decide) ?_
          have he := Option.some.inj hq
          subst he
          exact hE H locs _ _ _ rfl (Or.inr rfl) dX8_takesTerm_160 hP hD hS
        · have hq := it_f c_27 hq
          refine lv_aload_n hx hb dX8_takesTerm_88 rfl (lv_at hl 3 rfl) ?_
          refine lv_aload_n hx hb dX8_takesTerm_89 rfl (lv_at hl 3 rfl) ?_
          refine va_get (D := D) (ci := 8) (v := .ref (ad 13)) (C := RX8) (T := TX8) (N := 24) hx hb hts iX8_takesTerm_X8 hown hG.1 hP 0 rfl rfl 17 (by decide) (hts _ fX8_takesTerm_4) (fun _ h9 => h9) rfl dX8_takesTerm_90 ?_
          refine lv_aload_n hx hb dX8_takesTerm_93 rfl (lv_at hl 3 rfl) ?_
          refine va_get (D := D) (ci := 8) (v := .int (u_22 + (1 : Int32))) (C := RX8) (T := TX8) (N := 24) hx hb hts iX8_takesTerm_X8 hown hG.1 hP 0 rfl rfl 19 (by decide) (hts _ fX8_takesTerm_1) (fun _ h9 => h9) rfl dX8_takesTerm_94 ?_
          obtain ⟨h_30, hq⟩ := gd_s hq
          refine va_iald hx hb hG.1 hP 13 0 rfl rfl h_30 dX8_takesTerm_97 ?_
          refine callZA (gV (rest := []) ⟨hx, hb, hml, hown, hts⟩ hG hP hD 0 8 rfl rfl (mtX8_isFigure l D cI cB cR ad H.size states whyKind whyOrder many wide textLong (u_22 + (1 : Int32)) readColumns all past refused work kept chosen across sum one two base quotients text numbers entries before (text (u_22 + (1 : Int32)).toNatClampNeg) _ rfl) (cwV 1 hts gX8_takesTerm_X8_isFigure rfl rfl rfl ⟨rfl, hd_X8_isFigure⟩ ⟨Nat.le_of_ble_eq_true rfl, Nat.le_of_ble_eq_true rfl⟩) rfl hl.1 rfl (Nat.le_of_ble_eq_true rfl) dX8_takesTerm_98) hD hS hA (fun H locs z_31 hP hD hS => ?_)
          have hP : va_P D cls9 (wM cI ad states whyKind whyOrder many wide textLong (u_22 + (1 : Int32)) readColumns all past refused work kept chosen across sum one two base quotients text numbers entries before) H := hP
          have hD : va_D A (wM cI ad states whyKind whyOrder many wide textLong (u_22 + (1 : Int32)) readColumns all past refused work kept chosen across sum one two base quotients text numbers entries before) := hD
          refine lv_if_eq (tgt := 143) hx hb dX8_takesTerm_101 (by decide) (fun c_32 => ?_) (fun c_32 => ?_)
          · have hq := it_t c_32 hq
            refine lv_aload_n hx hb dX8_takesTerm_143 rfl (lv_at hl 3 rfl) ?_
            refine va_get (D := D) (ci := 8) (v := .ref (ad 15)) (C := RX8) (T := TX8) (N := 24) hx hb hts iX8_takesTerm_X8 hown hG.1 hP 0 rfl rfl 21 (by decide) (hts _ fX8_takesTerm_3) (fun _ h9 => h9) rfl dX8_takesTerm_144 ?_
            refine lv_bipush (v := 7) hx hb dX8_takesTerm_147 (by decide) ?_
            refine lv_iload_n hx hb dX8_takesTerm_149 rfl (lv_at hl 4 rfl) ?_
            refine lv_imul hx hb dX8_takesTerm_150 ?_
            refine lv_iload hx hb dX8_takesTerm_151 (lv_at hl 0 rfl) ?_
            refine lv_iadd hx hb dX8_takesTerm_153 ?_
            refine lv_dup2_11 hx hb dX8_takesTerm_154 rfl rfl ?_
            obtain ⟨h_33, hq⟩ := gd_s hq
            refine va_iald hx hb hG.1 hP 15 0 rfl rfl h_33 dX8_takesTerm_155 ?_
            refine lv_iload_n hx hb dX8_takesTerm_156 rfl (lv_at hl 2 rfl) ?_
            refine lv_iadd hx hb dX8_takesTerm_157 ?_
            obtain ⟨h_34, hq⟩ := gd_s hq
            refine va_iast hx hb hG.1 hP hD hS 15 0 rfl rfl h_34 dX8_takesTerm_158 (fun H locs hP hD hS => ?_)
            have hP : va_P D cls9 (wM cI ad states whyKind whyOrder many wide textLong (u_22 + (1 : Int32)) readColumns all past refused work kept chosen across sum one two base quotients text numbers (upd entries (((7 : Int32) * a0) + (1 : Int32)).toNatClampNeg ((entries (((7 : Int32) * a0) + (1 : Int32)).toNatClampNeg) + (r_1 - (48 : Int32)))) before) H := hP
            have hD : va_D A (wM cI ad states whyKind whyOrder many wide textLong (u_22 + (1 : Int32)) readColumns all past refused work kept chosen across sum one two base quotients text numbers (upd entries (((7 : Int32) * a0) + (1 : Int32)).toNatClampNeg ((entries (((7 : Int32) * a0) + (1 : Int32)).toNatClampNeg) + (r_1 - (48 : Int32)))) before) := hD
            refine lv_iconst (v := 1) hx hb dX8_takesTerm_159 (by decide) ?_
            have he := Option.some.inj hq
            subst he
            exact hE H locs _ _ _ rfl (Or.inr rfl) dX8_takesTerm_160 hP hD hS
          · have hq := it_f c_32 hq
            refine lv_aload_n hx hb dX8_takesTerm_104 rfl (lv_at hl 3 rfl) ?_
            refine va_get (D := D) (ci := 8) (v := .ref (ad 13)) (C := RX8) (T := TX8) (N := 24) hx hb hts iX8_takesTerm_X8 hown hG.1 hP 0 rfl rfl 17 (by decide) (hts _ fX8_takesTerm_4) (fun _ h9 => h9) rfl dX8_takesTerm_105 ?_
            refine lv_aload_n hx hb dX8_takesTerm_108 rfl (lv_at hl 3 rfl) ?_
            refine va_get (D := D) (ci := 8) (v := .int (u_22 + (1 : Int32))) (C := RX8) (T := TX8) (N := 24) hx hb hts iX8_takesTerm_X8 hown hG.1 hP 0 rfl rfl 19 (by decide) (hts _ fX8_takesTerm_1) (fun _ h9 => h9) rfl dX8_takesTerm_109 ?_
            obtain ⟨h_35, hq⟩ := gd_s hq
            refine va_iald hx hb hG.1 hP 13 0 rfl rfl h_35 dX8_takesTerm_112 ?_
            refine lv_bipush (v := 48) hx hb dX8_takesTerm_113 (by decide) ?_
            refine lv_isub hx hb dX8_takesTerm_115 ?_
            refine lv_istore (lv' := [(4, .int ((text (u_22 + (1 : Int32)).toNatClampNeg) - (48 : Int32))), (2, .int r_21), (3, .int (r_1 - (48 : Int32))), (0, .ref (ad 0)), (1, .int a0)]) hx hb dX8_takesTerm_116 hl (by decide) rfl (fun ls hl => ?_)
            refine lv_iload hx hb dX8_takesTerm_118 (lv_at hl 0 rfl) ?_
            refine lv_i2l (v := ((((text (u_22 + (1 : Int32)).toNatClampNeg) - (48 : Int32))).toInt64)) hx hb dX8_takesTerm_120 rfl ?_
            refine lv_lconst (v := 1) hx hb dX8_takesTerm_121 (by decide) ?_
            refine lv_ldc2 (v := 6) hx hb hown (hts _ fX8_takesTerm_5) dX8_takesTerm_122 ?_
            refine callZ0 (gS (rest := []) ⟨hx, hb, hml, hown, hts⟩ hG vaP0 (vaD0 (A := A)) (mtX8_in l D cI cB cR H.size ((((text (u_22 + (1 : Int32)).toNatClampNeg) - (48 : Int32))).toInt64) (1 : Int64) (6 : Int64) _ rfl) (va_cwS 3 hts gX8_takesTerm_X8_in rfl rfl rfl hd_X8_in ⟨Nat.le_of_ble_eq_true rfl, Nat.le_of_ble_eq_true rfl⟩) rfl hl.1 rfl (Nat.le_of_ble_eq_true rfl) dX8_takesTerm_125) hP hS hA (fun H locs z_36 hP hS => ?_)
            refine lv_if_ne (tgt := 133) hx hb dX8_takesTerm_128 (by decide) (fun c_37 => ?_) (fun c_37 => ?_)
            · have hq := it_f c_37 hq
              refine lv_aload_n hx hb dX8_takesTerm_133 rfl (lv_at hl 3 rfl) ?_
              refine lv_dup hx hb dX8_takesTerm_134 rfl ?_
              refine va_get (D := D) (ci := 8) (v := .int (u_22 + (1 : Int32))) (C := RX8) (T := TX8) (N := 24) hx hb hts iX8_takesTerm_X8 hown hG.1 hP 0 rfl rfl 19 (by decide) (hts _ fX8_takesTerm_1) (fun _ h9 => h9) rfl dX8_takesTerm_135 ?_
              refine lv_iconst (v := 1) hx hb dX8_takesTerm_138 (by decide) ?_
              refine lv_iadd hx hb dX8_takesTerm_139 ?_
              refine va_put (D := D) (ci := 8) (v := .int ((u_22 + (1 : Int32)) + (1 : Int32))) (ty := .int) (C := RX8) (T := TX8) (N := 24) hx hb hts iX8_takesTerm_X8 tyX8 tyX8_ok nmX8 hown hG.1 hP hD hS 0 rfl rfl 19 (by decide) (hts _ fX8_takesTerm_1) (fun _ h9 => h9) rfl (by decide +kernel) rfl rfl (Nat.le_of_ble_eq_true rfl) dX8_takesTerm_140 (fun H locs hP hD hS => ?_)
              have hP : va_P D cls9 (wM cI ad states whyKind whyOrder many wide textLong ((u_22 + (1 : Int32)) + (1 : Int32)) readColumns all past refused work kept chosen across sum one two base quotients text numbers entries before) H := hP
              have hD : va_D A (wM cI ad states whyKind whyOrder many wide textLong ((u_22 + (1 : Int32)) + (1 : Int32)) readColumns all past refused work kept chosen across sum one two base quotients text numbers entries before) := hD
              refine lv_aload_n hx hb dX8_takesTerm_143 rfl (lv_at hl 3 rfl) ?_
              refine va_get (D := D) (ci := 8) (v := .ref (ad 15)) (C := RX8) (T := TX8) (N := 24) hx hb hts iX8_takesTerm_X8 hown hG.1 hP 0 rfl rfl 21 (by decide) (hts _ fX8_takesTerm_3) (fun _ h9 => h9) rfl dX8_takesTerm_144 ?_
              refine lv_bipush (v := 7) hx hb dX8_takesTerm_147 (by decide) ?_
              refine lv_iload_n hx hb dX8_takesTerm_149 rfl (lv_at hl 4 rfl) ?_
              refine lv_imul hx hb dX8_takesTerm_150 ?_
              refine lv_iload hx hb dX8_takesTerm_151 (lv_at hl 0 rfl) ?_
              refine lv_iadd hx hb dX8_takesTerm_153 ?_
              refine lv_dup2_11 hx hb dX8_takesTerm_154 rfl rfl ?_
              obtain ⟨h_38, hq⟩ := gd_s hq
              refine va_iald hx hb hG.1 hP 15 0 rfl rfl h_38 dX8_takesTerm_155 ?_
              refine lv_iload_n hx hb dX8_takesTerm_156 rfl (lv_at hl 2 rfl) ?_
              refine lv_iadd hx hb dX8_takesTerm_157 ?_
              obtain ⟨h_39, hq⟩ := gd_s hq
              refine va_iast hx hb hG.1 hP hD hS 15 0 rfl rfl h_39 dX8_takesTerm_158 (fun H locs hP hD hS => ?_)
              have hP : va_P D cls9 (wM cI ad states whyKind whyOrder many wide textLong ((u_22 + (1 : Int32)) + (1 : Int32)) readColumns all past refused work kept chosen across sum one two base quotients text numbers (upd entries (((7 : Int32) * a0) + ((text (u_22 + (1 : Int32)).toNatClampNeg) - (48 : Int32))).toNatClampNeg ((entries (((7 : Int32) * a0) + ((text (u_22 + (1 : Int32)).toNatClampNeg) - (48 : Int32))).toNatClampNeg) + (r_1 - (48 : Int32)))) before) H := hP
              have hD : va_D A (wM cI ad states whyKind whyOrder many wide textLong ((u_22 + (1 : Int32)) + (1 : Int32)) readColumns all past refused work kept chosen across sum one two base quotients text numbers (upd entries (((7 : Int32) * a0) + ((text (u_22 + (1 : Int32)).toNatClampNeg) - (48 : Int32))).toNatClampNeg ((entries (((7 : Int32) * a0) + ((text (u_22 + (1 : Int32)).toNatClampNeg) - (48 : Int32))).toNatClampNeg) + (r_1 - (48 : Int32)))) before) := hD
              refine lv_iconst (v := 1) hx hb dX8_takesTerm_159 (by decide) ?_
              have he := Option.some.inj hq
              subst he
              exact hE H locs _ _ _ rfl (Or.inr rfl) dX8_takesTerm_160 hP hD hS
            · have hq := it_t c_37 hq
              refine lv_iconst (v := 0) hx hb dX8_takesTerm_131 (by decide) ?_
              have he := Option.some.inj hq
              subst he
              exact hE H locs _ _ _ rfl (Or.inl rfl) dX8_takesTerm_132 hP hD hS
      · have hq := it_f c_26 hq
        refine lv_iconst (v := 0) hx hb dX8_takesTerm_62 (by decide) ?_
        have he := Option.some.inj hq
        subst he
        exact hE H locs _ _ _ rfl (Or.inl rfl) dX8_takesTerm_63 hP hD hS
    · have hq := it_f c_25 hq
      refine lv_aload_n hx hb dX8_takesTerm_41 rfl (lv_at hl 2 rfl) ?_
      refine va_get (D := D) (ci := 8) (v := .ref (ad 15)) (C := RX8) (T := TX8) (N := 24) hx hb hts iX8_takesTerm_X8 hown hG.1 hP 0 rfl rfl 21 (by decide) (hts _ fX8_takesTerm_3) (fun _ h9 => h9) rfl dX8_takesTerm_42 ?_
      refine lv_bipush (v := 7) hx hb dX8_takesTerm_45 (by decide) ?_
      refine lv_iload_n hx hb dX8_takesTerm_47 rfl (lv_at hl 3 rfl) ?_
      refine lv_imul hx hb dX8_takesTerm_48 ?_
      refine lv_dup2_11 hx hb dX8_takesTerm_49 rfl rfl ?_
      obtain ⟨h_40, hq⟩ := gd_s hq
      refine va_iald hx hb hG.1 hP 15 0 rfl rfl h_40 dX8_takesTerm_50 ?_
      refine lv_iload_n hx hb dX8_takesTerm_51 rfl (lv_at hl 1 rfl) ?_
      refine lv_iadd hx hb dX8_takesTerm_52 ?_
      obtain ⟨h_41, hq⟩ := gd_s hq
      refine va_iast hx hb hG.1 hP hD hS 15 0 rfl rfl h_41 dX8_takesTerm_53 (fun H locs hP hD hS => ?_)
      have hP : va_P D cls9 (wM cI ad states whyKind whyOrder many wide textLong u_22 readColumns all past refused work kept chosen across sum one two base quotients text numbers (upd entries ((7 : Int32) * a0).toNatClampNeg ((entries ((7 : Int32) * a0).toNatClampNeg) + (r_1 - (48 : Int32)))) before) H := hP
      have hD : va_D A (wM cI ad states whyKind whyOrder many wide textLong u_22 readColumns all past refused work kept chosen across sum one two base quotients text numbers (upd entries ((7 : Int32) * a0).toNatClampNeg ((entries ((7 : Int32) * a0).toNatClampNeg) + (r_1 - (48 : Int32)))) before) := hD
      refine lv_iconst (v := 1) hx hb dX8_takesTerm_54 (by decide) ?_
      have he := Option.some.inj hq
      subst he
      exact hE H locs _ _ _ rfl (Or.inr rfl) dX8_takesTerm_55 hP hD hS
abbrev rm_X8_takesRow : Room := { frames := 3, cells := 0, slots := 0, locals := 70 }
theorem iX8_takesRow_X8 : ∀ w ∈ wsX80, w ∈ wsX8_takesRow := fun _ h => (List.mem_cons_of_mem _ (List.mem_append_right _ h))
theorem fX8_takesRow_1 : Cond.fieldLink RX8 56 "PopovRowsModel" "entries" "[I" ∈ wsX8_takesRow := (List.mem_cons_of_mem _ (List.mem_append_left _ (List.mem_of_getElem? (i := 0) rfl)))
theorem fX8_takesRow_2 : Cond.fieldLink RX8 293 "PopovRowsModel" "readColumns" "I" ∈ wsX8_takesRow := (List.mem_cons_of_mem _ (List.mem_append_left _ (List.mem_of_getElem? (i := 1) rfl)))
theorem fX8_takesRow_3 : Cond.fieldLink RX8 280 "PopovRowsModel" "spot" "I" ∈ wsX8_takesRow := (List.mem_cons_of_mem _ (List.mem_append_left _ (List.mem_of_getElem? (i := 2) rfl)))
set_option maxHeartbeats 4000000 in
set_option maxRecDepth 100000 in
theorem mtX8_takesRow (l : Launch) (D : va_G) (cI cB cR : ClassId) (ad : Nat → Nat) (sz : Nat) (states : Int32) (whyKind : Int32) (whyOrder : Int32) (many : Int32) (wide : Int32) (textLong : Int32) (spot : Int32) (readColumns : Int32) (all : Nat → Int32) (past : Nat → Int32) (refused : Nat → Int32) (work : Nat → Int32) (kept : Nat → Int32) (chosen : Nat → Int32) (across : Nat → Int32) (sum : Nat → Int32) (one : Nat → Int32) (two : Nat → Int32) (base : Nat → Int32) (quotients : Nat → Int32) (text : Nat → Int32) (numbers : Nat → Int32) (entries : Nat → Int32) (before : Nat → Int32) (res : Int32 × Int32 × (Nat → Int32)) (hf : fX8_takesRow textLong spot readColumns text entries = some res) : Met l yX8_takesRow wsX8_takesRow rm_X8_takesRow (qP D cI cB cR [.ref (ad 0)] (wM cI ad states whyKind whyOrder many wide textLong spot readColumns all past refused work kept chosen across sum one two base quotients text numbers entries before) sz) (qZ D res.1 (wM cI ad states whyKind whyOrder many wide textLong spot readColumns all past refused work kept chosen across sum one two base quotients text numbers entries before) (wM cI ad states whyKind whyOrder many wide textLong res.2.1 readColumns all past refused work kept chosen across sum one two base quotients text numbers res.2.2 before) sz) 0 0 (va_A (wM cI ad states whyKind whyOrder many wide textLong spot readColumns all past refused work kept chosen across sum one two base quotients text numbers entries before) sz) := by
  refine entZ (plainFor_of_name (by decide)) rfl (Nat.le_of_ble_eq_true rfl) ?_
  intro p e s m args below meth c Q A ls S hG hP hD hA hl hE
  obtain ⟨hx, hb, hml, hown, hts⟩ := S
  have hown : s.vm.findClass RX8 = some m.cls := hown
  have hS : va_S A s.heap s.heap [] := va_S.rf
  have hl : lv_has ls 3 [(0, .ref (ad 0))] := hl
  have hq := hf
  unfold fX8_takesRow at hq
  obtain ⟨H, hH⟩ : ∃ H, H = s.heap := ⟨_, rfl⟩
  obtain ⟨locs, hlo⟩ : ∃ L : List Loc, L = [] := ⟨_, rfl⟩
  have hP : va_P D cls9 (wM cI ad states whyKind whyOrder many wide textLong spot readColumns all past refused work kept chosen across sum one two base quotients text numbers entries before) H := hH ▸ hP
  have hS : va_S A s.heap H locs := by rw [hH, hlo]; exact hS
  suffices hg : W p l e rm_X8_takesRow s m args below meth c H locs 0 0 Q (F0 m 0 ls []) by rw [hH, hlo] at hg; exact hg
  refine lv_iconst (v := 0) hx hb dX8_takesRow_0 (by decide) ?_
  refine lv_istore_n (lv' := [(1, .int (0 : Int32)), (0, .ref (ad 0))]) hx hb dX8_takesRow_1 rfl hl (by decide) rfl (fun ls hl => ?_)
  obtain ⟨w1, hw1, hk1⟩ := bd1_s hq
  have hX1 : ∀ (x_5 : Nat → Int32), w1 = x_5 → ∀ (H : Heap) (locs : List Loc), va_P D cls9 (wM cI ad states whyKind whyOrder many wide textLong spot readColumns all past refused work kept chosen across sum one two base quotients text numbers x_5 before) H → va_D A (wM cI ad states whyKind whyOrder many wide textLong spot readColumns all past refused work kept chosen across sum one two base quotients text numbers x_5 before) → va_S A s.heap H locs → ∀ (ls : Array Slot), lv_has ls 3 [(0, .ref (ad 0))] → W p l e rm_X8_takesRow s m args below meth c H locs 0 0 Q (F0 m 21 ls []) := by
    intro x_5 hq H locs hP hD hS ls hl
    have hq := hk1 _ hq
    refine lv_iconst (v := 0) hx hb dX8_takesRow_21 (by decide) ?_
    refine lv_istore_n (lv' := [(1, .int (0 : Int32)), (0, .ref (ad 0))]) hx hb dX8_takesRow_22 rfl hl (by decide) rfl (fun ls hl => ?_)
    obtain ⟨w2, hw2, hk2, hO2⟩ := bx2_s hq
    have hX2 : ∀ (x_56 : Nat → Int32) (x_57 : Int32), w2 = .inl (x_56, x_57) → ∀ (H : Heap) (locs : List Loc), va_P D cls9 (wM cI ad states whyKind whyOrder many wide textLong x_57 readColumns all past refused work kept chosen across sum one two base quotients text numbers x_56 before) H → va_D A (wM cI ad states whyKind whyOrder many wide textLong x_57 readColumns all past refused work kept chosen across sum one two base quotients text numbers x_56 before) → va_S A s.heap H locs → ∀ (ls : Array Slot), lv_has ls 3 [] → W p l e rm_X8_takesRow s m args below meth c H locs 0 0 Q (F0 m 114 ls []) := by
      intro x_56 x_57 hq H locs hP hD hS ls hl
      have hq := hk2 _ _ hq
      refine lv_iconst (v := 1) hx hb dX8_takesRow_114 (by decide) ?_
      have he := Option.some.inj hq
      subst he
      exact hE H locs _ _ _ rfl (Or.inr rfl) dX8_takesRow_115 hP hD hS
    have hL2 : ∀ (n : Nat) (i_6 : Int32) (i_7 : Nat → Int32) (i_8 : Int32), lrun (fun (z : Int32 × (Nat → Int32) × Int32) => fX8_takesRow_s23 textLong readColumns text z.1 z.2.1 z.2.2) n (i_6, i_7, i_8) = some w2 → ∀ (H : Heap) (locs : List Loc), va_P D cls9 (wM cI ad states whyKind whyOrder many wide textLong i_8 readColumns all past refused work kept chosen across sum one two base quotients text numbers i_7 before) H → va_D A (wM cI ad states whyKind whyOrder many wide textLong i_8 readColumns all past refused work kept chosen across sum one two base quotients text numbers i_7 before) → va_S A s.heap H locs → ∀ (ls : Array Slot), lv_has ls 3 [(0, .ref (ad 0)), (1, .int i_6)] → W p l e rm_X8_takesRow s m args below meth c H locs 0 0 Q (F0 m 23 ls []) := by
      intro n
      induction n with
      | zero => intro i_6 i_7 i_8 h; cases h
      | succ n ih2 =>
        intro i_6 i_7 i_8 hr2 H locs hP hD hS ls hl
        obtain ⟨k, v2, hk, hr2, ht2, hv2⟩ := lrun_s hr2
        cases hk
        have hr2 : fX8_takesRow_s23 textLong readColumns text i_6 i_7 i_8 = some v2 := hr2
        unfold fX8_takesRow_s23 at hr2
        refine lv_iload_n hx hb dX8_takesRow_23 rfl (lv_at hl 1 rfl) ?_
        refine lv_aload_n hx hb dX8_takesRow_24 rfl (lv_at hl 0 rfl) ?_
        refine va_get (D := D) (ci := 8) (v := .int readColumns) (C := RX8) (T := TX8) (N := 24) hx hb hts iX8_takesRow_X8 hown hG.1 hP 0 rfl rfl 22 (by decide) (hts _ fX8_takesRow_2) (fun _ h9 => h9) rfl dX8_takesRow_25 ?_
        refine lv_icmp_ge (tgt := 114) hx hb dX8_takesRow_28 (by decide) (fun c_9 => ?_) (fun c_9 => ?_)
        · have hr2 := it_t c_9 hr2
          exact hX2 i_7 i_8 (hv2 _ (Option.some.inj hr2).symm).symm H locs hP hD hS ls (lv_sub hl [] rfl)
        · have hr2 := it_f c_9 hr2
          refine lv_iload_n hx hb dX8_takesRow_31 rfl (lv_at hl 1 rfl) ?_
          refine lv_if_le (tgt := 56) hx hb dX8_takesRow_32 (by decide) (fun c_10 => ?_) (fun c_10 => ?_)
          · have hr2 := it_t c_10 hr2
            refine lv_iconst (v := 1) hx hb dX8_takesRow_56 (by decide) ?_
            refine lv_istore_n (lv' := [(2, .int (1 : Int32)), (0, .ref (ad 0)), (1, .int i_6)]) hx hb dX8_takesRow_57 rfl hl (by decide) rfl (fun ls hl => ?_)
            obtain ⟨w3, hw3, hk3, hO3⟩ := bx2_s hr2
            have hX3 : ∀ (x_29 : Nat → Int32) (x_30 : Int32), w3 = .inl (x_29, x_30) → ∀ (H : Heap) (locs : List Loc), va_P D cls9 (wM cI ad states whyKind whyOrder many wide textLong x_30 readColumns all past refused work kept chosen across sum one two base quotients text numbers x_29 before) H → va_D A (wM cI ad states whyKind whyOrder many wide textLong x_30 readColumns all past refused work kept chosen across sum one two base quotients text numbers x_29 before) → va_S A s.heap H locs → ∀ (ls : Array Slot), lv_has ls 3 [(0, .ref (ad 0)), (1, .int i_6)] → W p l e rm_X8_takesRow s m args below meth c H locs 0 0 Q (F0 m 108 ls []) := by
              intro x_29 x_30 hq H locs hP hD hS ls hl
              have hr2 := hk3 _ _ hq
              refine lv_iinc (v := (i_6 + 1)) (lv' := [(1, .int (i_6 + 1)), (0, .ref (ad 0))]) hx hb dX8_takesRow_108 hl (k := 1) rfl rfl (by decide) rfl (fun ls hl => ?_)
              refine lv_goto (tgt := 23) hx hb dX8_takesRow_111 (by decide) ?_
              exact ih2 (i_6 + 1) x_29 x_30 (ht2 _ (Option.some.inj hr2).symm) H locs hP hD hS ls (lv_sub hl [1, 0] rfl)
            have hL3 : ∀ (n : Nat) (i_11 : Int32) (i_12 : Nat → Int32) (i_13 : Int32), lrun (fun (z : Int32 × (Nat → Int32) × Int32) => fX8_takesRow_s58 textLong text i_6 z.1 z.2.1 z.2.2) n (i_11, i_12, i_13) = some w3 → ∀ (H : Heap) (locs : List Loc), va_P D cls9 (wM cI ad states whyKind whyOrder many wide textLong i_13 readColumns all past refused work kept chosen across sum one two base quotients text numbers i_12 before) H → va_D A (wM cI ad states whyKind whyOrder many wide textLong i_13 readColumns all past refused work kept chosen across sum one two base quotients text numbers i_12 before) → va_S A s.heap H locs → ∀ (ls : Array Slot), lv_has ls 3 [(0, .ref (ad 0)), (1, .int i_6), (2, .int i_11)] → W p l e rm_X8_takesRow s m args below meth c H locs 0 0 Q (F0 m 58 ls []) := by
              intro n
              induction n with
              | zero => intro i_11 i_12 i_13 h; cases h
              | succ n ih3 =>
                intro i_11 i_12 i_13 hr3 H locs hP hD hS ls hl
                obtain ⟨k, v3, hk, hr3, ht3, hv3⟩ := lrun_s hr3
                cases hk
                have hr3 : fX8_takesRow_s58 textLong text i_6 i_11 i_12 i_13 = some v3 := hr3
                unfold fX8_takesRow_s58 at hr3
                refine lv_iload_n hx hb dX8_takesRow_58 rfl (lv_at hl 2 rfl) ?_
                refine lv_if_eq (tgt := 108) hx hb dX8_takesRow_59 (by decide) (fun c_14 => ?_) (fun c_14 => ?_)
                · have hr3 := it_t c_14 hr3
                  exact hX3 i_12 i_13 (hv3 _ (Option.some.inj hr3).symm).symm H locs hP hD hS ls (lv_sub hl [0, 1] rfl)
                · have hr3 := it_f c_14 hr3
                  refine lv_aload_n hx hb dX8_takesRow_62 rfl (lv_at hl 0 rfl) ?_
                  refine lv_iload_n hx hb dX8_takesRow_63 rfl (lv_at hl 1 rfl) ?_
                  obtain ⟨v_19, hq_18, hk⟩ := bd3_s hr3
                  obtain ⟨r_15, u_16, u_17⟩ := v_19
                  have hr3 := hk _ _ _ rfl
                  refine callZA (gV (rest := []) ⟨hx, hb, hml, hown, hts⟩ hG hP hD 0 8 rfl rfl (mtX8_takesTerm l D cI cB cR ad H.size states whyKind whyOrder many wide textLong i_13 readColumns all past refused work kept chosen across sum one two base quotients text numbers i_12 before i_6 (r_15, u_16, u_17) hq_18) (cwV 1 hts gX8_takesRow_X8_takesTerm rfl rfl rfl ⟨rfl, hd_X8_takesTerm⟩ ⟨Nat.le_of_ble_eq_true rfl, Nat.le_of_ble_eq_true rfl⟩) rfl hl.1 rfl (Nat.le_of_ble_eq_true rfl) dX8_takesRow_64) hD hS hA (fun H locs z_20 hP hD hS => ?_)
                  have hP : va_P D cls9 (wM cI ad states whyKind whyOrder many wide textLong u_16 readColumns all past refused work kept chosen across sum one two base quotients text numbers u_17 before) H := hP
                  have hD : va_D A (wM cI ad states whyKind whyOrder many wide textLong u_16 readColumns all past refused work kept chosen across sum one two base quotients text numbers u_17 before) := hD
                  refine lv_if_ne (tgt := 72) hx hb dX8_takesRow_67 (by decide) (fun c_21 => ?_) (fun c_21 => ?_)
                  · have hr3 := it_f c_21 hr3
                    refine lv_aload_n hx hb dX8_takesRow_72 rfl (lv_at hl 0 rfl) ?_
                    obtain ⟨v_25, hq_24, hk⟩ := bd2_s hr3
                    obtain ⟨r_22, u_23⟩ := v_25
                    have hr3 := hk _ _ rfl
                    refine callIA (gV (rest := []) ⟨hx, hb, hml, hown, hts⟩ hG hP hD 0 8 rfl rfl (mtX8_here l D cI cB cR ad H.size states whyKind whyOrder many wide textLong u_16 readColumns all past refused work kept chosen across sum one two base quotients text numbers u_17 before (r_22, u_23) hq_24) (cwV 0 hts gX8_takesRow_X8_here rfl rfl rfl ⟨rfl, hd_X8_here⟩ ⟨Nat.le_of_ble_eq_true rfl, Nat.le_of_ble_eq_true rfl⟩) rfl hl.1 rfl (Nat.le_of_ble_eq_true rfl) dX8_takesRow_73) hD hS hA (fun H locs hP hD hS => ?_)
                    have hP : va_P D cls9 (wM cI ad states whyKind whyOrder many wide textLong u_23 readColumns all past refused work kept chosen across sum one two base quotients text numbers u_17 before) H := hP
                    have hD : va_D A (wM cI ad states whyKind whyOrder many wide textLong u_23 readColumns all past refused work kept chosen across sum one two base quotients text numbers u_17 before) := hD
                    refine lv_bipush (v := 43) hx hb dX8_takesRow_76 (by decide) ?_
                    obtain ⟨v4, hj4, hk4⟩ := bd1_s hr3
                    have hJ4 : ∀ (j_27 : Int32), v4 = j_27 → (j_27 = 0 ∨ j_27 = 1) → ∀ (H : Heap) (locs : List Loc), va_P D cls9 (wM cI ad states whyKind whyOrder many wide textLong u_23 readColumns all past refused work kept chosen across sum one two base quotients text numbers u_17 before) H → va_D A (wM cI ad states whyKind whyOrder many wide textLong u_23 readColumns all past refused work kept chosen across sum one two base quotients text numbers u_17 before) → va_S A s.heap H locs → ∀ (ls : Array Slot), lv_has ls 3 [(0, .ref (ad 0)), (1, .int i_6)] → W p l e rm_X8_takesRow s m args below meth c H locs 0 0 Q (F0 m 86 ls [.int j_27]) := by
                      intro j_27 hq zj_27 H locs hP hD hS ls hl
                      have hr3 := hk4 _ hq
                      refine lv_istore_n (lv' := [(2, .int j_27), (0, .ref (ad 0)), (1, .int i_6)]) hx hb dX8_takesRow_86 rfl hl (by decide) rfl (fun ls hl => ?_)
                      refine lv_aload_n hx hb dX8_takesRow_87 rfl (lv_at hl 1 rfl) ?_
                      refine lv_dup hx hb dX8_takesRow_88 rfl ?_
                      refine va_get (D := D) (ci := 8) (v := .int u_23) (C := RX8) (T := TX8) (N := 24) hx hb hts iX8_takesRow_X8 hown hG.1 hP 0 rfl rfl 19 (by decide) (hts _ fX8_takesRow_3) (fun _ h9 => h9) rfl dX8_takesRow_89 ?_
                      refine lv_iload_n hx hb dX8_takesRow_92 rfl (lv_at hl 0 rfl) ?_
                      refine lv_if_eq (tgt := 100) hx hb dX8_takesRow_93 (by decide) (fun c_28 => ?_) (fun c_28 => ?_)
                      · have hr3 := it_t c_28 hr3
                        refine lv_iconst (v := 0) hx hb dX8_takesRow_100 (by decide) ?_
                        refine lv_iadd hx hb dX8_takesRow_101 ?_
                        refine va_put (D := D) (ci := 8) (v := .int (u_23 + (0 : Int32))) (ty := .int) (C := RX8) (T := TX8) (N := 24) hx hb hts iX8_takesRow_X8 tyX8 tyX8_ok nmX8 hown hG.1 hP hD hS 0 rfl rfl 19 (by decide) (hts _ fX8_takesRow_3) (fun _ h9 => h9) rfl (by decide +kernel) rfl rfl (Nat.le_of_ble_eq_true rfl) dX8_takesRow_102 (fun H locs hP hD hS => ?_)
                        have hP : va_P D cls9 (wM cI ad states whyKind whyOrder many wide textLong (u_23 + (0 : Int32)) readColumns all past refused work kept chosen across sum one two base quotients text numbers u_17 before) H := hP
                        have hD : va_D A (wM cI ad states whyKind whyOrder many wide textLong (u_23 + (0 : Int32)) readColumns all past refused work kept chosen across sum one two base quotients text numbers u_17 before) := hD
                        refine lv_goto (tgt := 58) hx hb dX8_takesRow_105 (by decide) ?_
                        exact ih3 j_27 u_17 (u_23 + (0 : Int32)) (ht3 _ (Option.some.inj hr3).symm) H locs hP hD hS ls (lv_sub hl [1, 2, 0] rfl)
                      · have hr3 := it_f c_28 hr3
                        refine lv_iconst (v := 1) hx hb dX8_takesRow_96 (by decide) ?_
                        refine lv_goto (tgt := 101) hx hb dX8_takesRow_97 (by decide) ?_
                        refine lv_iadd hx hb dX8_takesRow_101 ?_
                        refine va_put (D := D) (ci := 8) (v := .int (u_23 + (1 : Int32))) (ty := .int) (C := RX8) (T := TX8) (N := 24) hx hb hts iX8_takesRow_X8 tyX8 tyX8_ok nmX8 hown hG.1 hP hD hS 0 rfl rfl 19 (by decide) (hts _ fX8_takesRow_3) (fun _ h9 => h9) rfl (by decide +kernel) rfl rfl (Nat.le_of_ble_eq_true rfl) dX8_takesRow_102 (fun H locs hP hD hS => ?_)
                        have hP : va_P D cls9 (wM cI ad states whyKind whyOrder many wide textLong (u_23 + (1 : Int32)) readColumns all past refused work kept chosen across sum one two base quotients text numbers u_17 before) H := hP
                        have hD : va_D A (wM cI ad states whyKind whyOrder many wide textLong (u_23 + (1 : Int32)) readColumns all past refused work kept chosen across sum one two base quotients text numbers u_17 before) := hD
                        refine lv_goto (tgt := 58) hx hb dX8_takesRow_105 (by decide) ?_
                        exact ih3 j_27 u_17 (u_23 + (1 : Int32)) (ht3 _ (Option.some.inj hr3).symm) H locs hP hD hS ls (lv_sub hl [1, 2, 0] rfl)
                    refine lv_icmp_ne (tgt := 85) hx hb dX8_takesRow_78 (by decide) (fun c_26 => ?_) (fun c_26 => ?_)
                    · have hj4 := it_f c_26 hj4
                      refine lv_iconst (v := 0) hx hb dX8_takesRow_85 (by decide) ?_
                      exact hJ4 (0 : Int32) (Option.some.inj hj4).symm (Or.inl rfl) H locs hP hD hS ls (lv_sub hl [0, 1] rfl)
                    · have hj4 := it_t c_26 hj4
                      refine lv_iconst (v := 1) hx hb dX8_takesRow_81 (by decide) ?_
                      refine lv_goto (tgt := 86) hx hb dX8_takesRow_82 (by decide) ?_
                      exact hJ4 (1 : Int32) (Option.some.inj hj4).symm (Or.inr rfl) H locs hP hD hS ls (lv_sub hl [0, 1] rfl)
                  · have hr3 := it_t c_21 hr3
                    refine lv_iconst (v := 0) hx hb dX8_takesRow_70 (by decide) ?_
                    have he := (hO2 _ (hv2 _ ((hO3 _ (hv3 _ (Option.some.inj hr3).symm).symm)).symm).symm)
                    subst he
                    exact hE H locs _ _ _ rfl (Or.inl rfl) dX8_takesRow_71 hP hD hS
            obtain ⟨n3, hn3⟩ := Lp_s hw3
            exact hL3 n3 (1 : Int32) i_7 i_8 hn3 H locs hP hD hS ls (lv_sub hl [1, 2, 0] rfl)
          · have hr2 := it_f c_10 hr2
            refine lv_aload_n hx hb dX8_takesRow_35 rfl (lv_at hl 0 rfl) ?_
            obtain ⟨v_34, hq_33, hk⟩ := bd2_s hr2
            obtain ⟨r_31, u_32⟩ := v_34
            have hr2 := hk _ _ rfl
            refine callIA (gV (rest := []) ⟨hx, hb, hml, hown, hts⟩ hG hP hD 0 8 rfl rfl (mtX8_here l D cI cB cR ad H.size states whyKind whyOrder many wide textLong i_8 readColumns all past refused work kept chosen across sum one two base quotients text numbers i_7 before (r_31, u_32) hq_33) (cwV 0 hts gX8_takesRow_X8_here rfl rfl rfl ⟨rfl, hd_X8_here⟩ ⟨Nat.le_of_ble_eq_true rfl, Nat.le_of_ble_eq_true rfl⟩) rfl hl.1 rfl (Nat.le_of_ble_eq_true rfl) dX8_takesRow_36) hD hS hA (fun H locs hP hD hS => ?_)
            have hP : va_P D cls9 (wM cI ad states whyKind whyOrder many wide textLong u_32 readColumns all past refused work kept chosen across sum one two base quotients text numbers i_7 before) H := hP
            have hD : va_D A (wM cI ad states whyKind whyOrder many wide textLong u_32 readColumns all past refused work kept chosen across sum one two base quotients text numbers i_7 before) := hD
            refine lv_bipush (v := 44) hx hb dX8_takesRow_39 (by decide) ?_
            refine lv_icmp_eq (tgt := 46) hx hb dX8_takesRow_41 (by decide) (fun c_35 => ?_) (fun c_35 => ?_)
            · have hr2 := it_t c_35 hr2
              refine lv_aload_n hx hb dX8_takesRow_46 rfl (lv_at hl 0 rfl) ?_
              refine lv_dup hx hb dX8_takesRow_47 rfl ?_
              refine va_get (D := D) (ci := 8) (v := .int u_32) (C := RX8) (T := TX8) (N := 24) hx hb hts iX8_takesRow_X8 hown hG.1 hP 0 rfl rfl 19 (by decide) (hts _ fX8_takesRow_3) (fun _ h9 => h9) rfl dX8_takesRow_48 ?_
              refine lv_iconst (v := 1) hx hb dX8_takesRow_51 (by decide) ?_
              refine lv_iadd hx hb dX8_takesRow_52 ?_
              refine va_put (D := D) (ci := 8) (v := .int (u_32 + (1 : Int32))) (ty := .int) (C := RX8) (T := TX8) (N := 24) hx hb hts iX8_takesRow_X8 tyX8 tyX8_ok nmX8 hown hG.1 hP hD hS 0 rfl rfl 19 (by decide) (hts _ fX8_takesRow_3) (fun _ h9 => h9) rfl (by decide +kernel) rfl rfl (Nat.le_of_ble_eq_true rfl) dX8_takesRow_53 (fun H locs hP hD hS => ?_)
              have hP : va_P D cls9 (wM cI ad states whyKind whyOrder many wide textLong (u_32 + (1 : Int32)) readColumns all past refused work kept chosen across sum one two base quotients text numbers i_7 before) H := hP
              have hD : va_D A (wM cI ad states whyKind whyOrder many wide textLong (u_32 + (1 : Int32)) readColumns all past refused work kept chosen across sum one two base quotients text numbers i_7 before) := hD
              refine lv_iconst (v := 1) hx hb dX8_takesRow_56 (by decide) ?_
              refine lv_istore_n (lv' := [(2, .int (1 : Int32)), (0, .ref (ad 0)), (1, .int i_6)]) hx hb dX8_takesRow_57 rfl hl (by decide) rfl (fun ls hl => ?_)
              obtain ⟨w5, hw5, hk5, hO5⟩ := bx2_s hr2
              have hX5 : ∀ (x_54 : Nat → Int32) (x_55 : Int32), w5 = .inl (x_54, x_55) → ∀ (H : Heap) (locs : List Loc), va_P D cls9 (wM cI ad states whyKind whyOrder many wide textLong x_55 readColumns all past refused work kept chosen across sum one two base quotients text numbers x_54 before) H → va_D A (wM cI ad states whyKind whyOrder many wide textLong x_55 readColumns all past refused work kept chosen across sum one two base quotients text numbers x_54 before) → va_S A s.heap H locs → ∀ (ls : Array Slot), lv_has ls 3 [(0, .ref (ad 0)), (1, .int i_6)] → W p l e rm_X8_takesRow s m args below meth c H locs 0 0 Q (F0 m 108 ls []) := by
                intro x_54 x_55 hq H locs hP hD hS ls hl
                have hr2 := hk5 _ _ hq
                refine lv_iinc (v := (i_6 + 1)) (lv' := [(1, .int (i_6 + 1)), (0, .ref (ad 0))]) hx hb dX8_takesRow_108 hl (k := 1) rfl rfl (by decide) rfl (fun ls hl => ?_)
                refine lv_goto (tgt := 23) hx hb dX8_takesRow_111 (by decide) ?_
                exact ih2 (i_6 + 1) x_54 x_55 (ht2 _ (Option.some.inj hr2).symm) H locs hP hD hS ls (lv_sub hl [1, 0] rfl)
              have hL5 : ∀ (n : Nat) (i_36 : Int32) (i_37 : Nat → Int32) (i_38 : Int32), lrun (fun (z : Int32 × (Nat → Int32) × Int32) => fX8_takesRow_s58a textLong text i_6 z.1 z.2.1 z.2.2) n (i_36, i_37, i_38) = some w5 → ∀ (H : Heap) (locs : List Loc), va_P D cls9 (wM cI ad states whyKind whyOrder many wide textLong i_38 readColumns all past refused work kept chosen across sum one two base quotients text numbers i_37 before) H → va_D A (wM cI ad states whyKind whyOrder many wide textLong i_38 readColumns all past refused work kept chosen across sum one two base quotients text numbers i_37 before) → va_S A s.heap H locs → ∀ (ls : Array Slot), lv_has ls 3 [(0, .ref (ad 0)), (1, .int i_6), (2, .int i_36)] → W p l e rm_X8_takesRow s m args below meth c H locs 0 0 Q (F0 m 58 ls []) := by
                intro n
                induction n with
                | zero => intro i_36 i_37 i_38 h; cases h
                | succ n ih5 =>
                  intro i_36 i_37 i_38 hr5 H locs hP hD hS ls hl
                  obtain ⟨k, v5, hk, hr5, ht5, hv5⟩ := lrun_s hr5
                  cases hk
                  have hr5 : fX8_takesRow_s58a textLong text i_6 i_36 i_37 i_38 = some v5 := hr5
                  unfold fX8_takesRow_s58a at hr5
                  refine lv_iload_n hx hb dX8_takesRow_58 rfl (lv_at hl 2 rfl) ?_
                  refine lv_if_eq (tgt := 108) hx hb dX8_takesRow_59 (by decide) (fun c_39 => ?_) (fun c_39 => ?_)
                  · have hr5 := it_t c_39 hr5
                    exact hX5 i_37 i_38 (hv5 _ (Option.some.inj hr5).symm).symm H locs hP hD hS ls (lv_sub hl [0, 1] rfl)
                  · have hr5 := it_f c_39 hr5
                    refine lv_aload_n hx hb dX8_takesRow_62 rfl (lv_at hl 0 rfl) ?_
                    refine lv_iload_n hx hb dX8_takesRow_63 rfl (lv_at hl 1 rfl) ?_
                    obtain ⟨v_44, hq_43, hk⟩ := bd3_s hr5
                    obtain ⟨r_40, u_41, u_42⟩ := v_44
                    have hr5 := hk _ _ _ rfl
                    refine callZA (gV (rest := []) ⟨hx, hb, hml, hown, hts⟩ hG hP hD 0 8 rfl rfl (mtX8_takesTerm l D cI cB cR ad H.size states whyKind whyOrder many wide textLong i_38 readColumns all past refused work kept chosen across sum one two base quotients text numbers i_37 before i_6 (r_40, u_41, u_42) hq_43) (cwV 1 hts gX8_takesRow_X8_takesTerm rfl rfl rfl ⟨rfl, hd_X8_takesTerm⟩ ⟨Nat.le_of_ble_eq_true rfl, Nat.le_of_ble_eq_true rfl⟩) rfl hl.1 rfl (Nat.le_of_ble_eq_true rfl) dX8_takesRow_64) hD hS hA (fun H locs z_45 hP hD hS => ?_)
                    have hP : va_P D cls9 (wM cI ad states whyKind whyOrder many wide textLong u_41 readColumns all past refused work kept chosen across sum one two base quotients text numbers u_42 before) H := hP
                    have hD : va_D A (wM cI ad states whyKind whyOrder many wide textLong u_41 readColumns all past refused work kept chosen across sum one two base quotients text numbers u_42 before) := hD
                    refine lv_if_ne (tgt := 72) hx hb dX8_takesRow_67 (by decide) (fun c_46 => ?_) (fun c_46 => ?_)
                    · have hr5 := it_f c_46 hr5
                      refine lv_aload_n hx hb dX8_takesRow_72 rfl (lv_at hl 0 rfl) ?_
                      obtain ⟨v_50, hq_49, hk⟩ := bd2_s hr5
                      obtain ⟨r_47, u_48⟩ := v_50
                      have hr5 := hk _ _ rfl
                      refine callIA (gV (rest := []) ⟨hx, hb, hml, hown, hts⟩ hG hP hD 0 8 rfl rfl (mtX8_here l D cI cB cR ad H.size states whyKind whyOrder many wide textLong u_41 readColumns all past refused work kept chosen across sum one two base quotients text numbers u_42 before (r_47, u_48) hq_49) (cwV 0 hts gX8_takesRow_X8_here rfl rfl rfl ⟨rfl, hd_X8_here⟩ ⟨Nat.le_of_ble_eq_true rfl, Nat.le_of_ble_eq_true rfl⟩) rfl hl.1 rfl (Nat.le_of_ble_eq_true rfl) dX8_takesRow_73) hD hS hA (fun H locs hP hD hS => ?_)
                      have hP : va_P D cls9 (wM cI ad states whyKind whyOrder many wide textLong u_48 readColumns all past refused work kept chosen across sum one two base quotients text numbers u_42 before) H := hP
                      have hD : va_D A (wM cI ad states whyKind whyOrder many wide textLong u_48 readColumns all past refused work kept chosen across sum one two base quotients text numbers u_42 before) := hD
                      refine lv_bipush (v := 43) hx hb dX8_takesRow_76 (by decide) ?_
                      obtain ⟨v6, hj6, hk6⟩ := bd1_s hr5
                      have hJ6 : ∀ (j_52 : Int32), v6 = j_52 → (j_52 = 0 ∨ j_52 = 1) → ∀ (H : Heap) (locs : List Loc), va_P D cls9 (wM cI ad states whyKind whyOrder many wide textLong u_48 readColumns all past refused work kept chosen across sum one two base quotients text numbers u_42 before) H → va_D A (wM cI ad states whyKind whyOrder many wide textLong u_48 readColumns all past refused work kept chosen across sum one two base quotients text numbers u_42 before) → va_S A s.heap H locs → ∀ (ls : Array Slot), lv_has ls 3 [(0, .ref (ad 0)), (1, .int i_6)] → W p l e rm_X8_takesRow s m args below meth c H locs 0 0 Q (F0 m 86 ls [.int j_52]) := by
                        intro j_52 hq zj_52 H locs hP hD hS ls hl
                        have hr5 := hk6 _ hq
                        refine lv_istore_n (lv' := [(2, .int j_52), (0, .ref (ad 0)), (1, .int i_6)]) hx hb dX8_takesRow_86 rfl hl (by decide) rfl (fun ls hl => ?_)
                        refine lv_aload_n hx hb dX8_takesRow_87 rfl (lv_at hl 1 rfl) ?_
                        refine lv_dup hx hb dX8_takesRow_88 rfl ?_
                        refine va_get (D := D) (ci := 8) (v := .int u_48) (C := RX8) (T := TX8) (N := 24) hx hb hts iX8_takesRow_X8 hown hG.1 hP 0 rfl rfl 19 (by decide) (hts _ fX8_takesRow_3) (fun _ h9 => h9) rfl dX8_takesRow_89 ?_
                        refine lv_iload_n hx hb dX8_takesRow_92 rfl (lv_at hl 0 rfl) ?_
                        refine lv_if_eq (tgt := 100) hx hb dX8_takesRow_93 (by decide) (fun c_53 => ?_) (fun c_53 => ?_)
                        · have hr5 := it_t c_53 hr5
                          refine lv_iconst (v := 0) hx hb dX8_takesRow_100 (by decide) ?_
                          refine lv_iadd hx hb dX8_takesRow_101 ?_
                          refine va_put (D := D) (ci := 8) (v := .int (u_48 + (0 : Int32))) (ty := .int) (C := RX8) (T := TX8) (N := 24) hx hb hts iX8_takesRow_X8 tyX8 tyX8_ok nmX8 hown hG.1 hP hD hS 0 rfl rfl 19 (by decide) (hts _ fX8_takesRow_3) (fun _ h9 => h9) rfl (by decide +kernel) rfl rfl (Nat.le_of_ble_eq_true rfl) dX8_takesRow_102 (fun H locs hP hD hS => ?_)
                          have hP : va_P D cls9 (wM cI ad states whyKind whyOrder many wide textLong (u_48 + (0 : Int32)) readColumns all past refused work kept chosen across sum one two base quotients text numbers u_42 before) H := hP
                          have hD : va_D A (wM cI ad states whyKind whyOrder many wide textLong (u_48 + (0 : Int32)) readColumns all past refused work kept chosen across sum one two base quotients text numbers u_42 before) := hD
                          refine lv_goto (tgt := 58) hx hb dX8_takesRow_105 (by decide) ?_
                          exact ih5 j_52 u_42 (u_48 + (0 : Int32)) (ht5 _ (Option.some.inj hr5).symm) H locs hP hD hS ls (lv_sub hl [1, 2, 0] rfl)
                        · have hr5 := it_f c_53 hr5
                          refine lv_iconst (v := 1) hx hb dX8_takesRow_96 (by decide) ?_
                          refine lv_goto (tgt := 101) hx hb dX8_takesRow_97 (by decide) ?_
                          refine lv_iadd hx hb dX8_takesRow_101 ?_
                          refine va_put (D := D) (ci := 8) (v := .int (u_48 + (1 : Int32))) (ty := .int) (C := RX8) (T := TX8) (N := 24) hx hb hts iX8_takesRow_X8 tyX8 tyX8_ok nmX8 hown hG.1 hP hD hS 0 rfl rfl 19 (by decide) (hts _ fX8_takesRow_3) (fun _ h9 => h9) rfl (by decide +kernel) rfl rfl (Nat.le_of_ble_eq_true rfl) dX8_takesRow_102 (fun H locs hP hD hS => ?_)
                          have hP : va_P D cls9 (wM cI ad states whyKind whyOrder many wide textLong (u_48 + (1 : Int32)) readColumns all past refused work kept chosen across sum one two base quotients text numbers u_42 before) H := hP
                          have hD : va_D A (wM cI ad states whyKind whyOrder many wide textLong (u_48 + (1 : Int32)) readColumns all past refused work kept chosen across sum one two base quotients text numbers u_42 before) := hD
                          refine lv_goto (tgt := 58) hx hb dX8_takesRow_105 (by decide) ?_
                          exact ih5 j_52 u_42 (u_48 + (1 : Int32)) (ht5 _ (Option.some.inj hr5).symm) H locs hP hD hS ls (lv_sub hl [1, 2, 0] rfl)
                      refine lv_icmp_ne (tgt := 85) hx hb dX8_takesRow_78 (by decide) (fun c_51 => ?_) (fun c_51 => ?_)
                      · have hj6 := it_f c_51 hj6
                        refine lv_iconst (v := 0) hx hb dX8_takesRow_85 (by decide) ?_
                        exact hJ6 (0 : Int32) (Option.some.inj hj6).symm (Or.inl rfl) H locs hP hD hS ls (lv_sub hl [0, 1] rfl)
                      · have hj6 := it_t c_51 hj6
                        refine lv_iconst (v := 1) hx hb dX8_takesRow_81 (by decide) ?_
                        refine lv_goto (tgt := 86) hx hb dX8_takesRow_82 (by decide) ?_
                        exact hJ6 (1 : Int32) (Option.some.inj hj6).symm (Or.inr rfl) H locs hP hD hS ls (lv_sub hl [0, 1] rfl)
                    · have hr5 := it_t c_46 hr5
                      refine lv_iconst (v := 0) hx hb dX8_takesRow_70 (by decide) ?_
                      have he := (hO2 _ (hv2 _ ((hO5 _ (hv5 _ (Option.some.inj hr5).symm).symm)).symm).symm)
                      subst he
                      exact hE H locs _ _ _ rfl (Or.inl rfl) dX8_takesRow_71 hP hD hS
              obtain ⟨n5, hn5⟩ := Lp_s hw5
              exact hL5 n5 (1 : Int32) i_7 (u_32 + (1 : Int32)) hn5 H locs hP hD hS ls (lv_sub hl [1, 2, 0] rfl)
            · have hr2 := it_f c_35 hr2
              refine lv_iconst (v := 0) hx hb dX8_takesRow_44 (by decide) ?_
              have he := (hO2 _ (hv2 _ (Option.some.inj hr2).symm).symm)
              subst he
              exact hE H locs _ _ _ rfl (Or.inl rfl) dX8_takesRow_45 hP hD hS
    obtain ⟨n2, hn2⟩ := Lp_s hw2
    exact hL2 n2 (0 : Int32) x_5 spot hn2 H locs hP hD hS ls (lv_sub hl [1, 0] rfl)
  have hL1 : ∀ (n : Nat) (i_1 : Int32) (i_2 : Nat → Int32), lrun (fun (z : Int32 × (Nat → Int32)) => fX8_takesRow_s2 z.1 z.2) n (i_1, i_2) = some w1 → ∀ (H : Heap) (locs : List Loc), va_P D cls9 (wM cI ad states whyKind whyOrder many wide textLong spot readColumns all past refused work kept chosen across sum one two base quotients text numbers i_2 before) H → va_D A (wM cI ad states whyKind whyOrder many wide textLong spot readColumns all past refused work kept chosen across sum one two base quotients text numbers i_2 before) → va_S A s.heap H locs → ∀ (ls : Array Slot), lv_has ls 3 [(0, .ref (ad 0)), (1, .int i_1)] → W p l e rm_X8_takesRow s m args below meth c H locs 0 0 Q (F0 m 2 ls []) := by
    intro n
    induction n with
    | zero => intro i_1 i_2 h; cases h
    | succ n ih1 =>
      intro i_1 i_2 hr1 H locs hP hD hS ls hl
      obtain ⟨k, v1, hk, hr1, ht1, hv1⟩ := lrun_s hr1
      cases hk
      have hr1 : fX8_takesRow_s2 i_1 i_2 = some v1 := hr1
      unfold fX8_takesRow_s2 at hr1
      refine lv_iload_n hx hb dX8_takesRow_2 rfl (lv_at hl 1 rfl) ?_
      refine lv_bipush (v := 21) hx hb dX8_takesRow_3 (by decide) ?_
      refine lv_icmp_ge (tgt := 21) hx hb dX8_takesRow_5 (by decide) (fun c_3 => ?_) (fun c_3 => ?_)
      · have hr1 := it_t c_3 hr1
        exact hX1 i_2 (hv1 _ (Option.some.inj hr1).symm).symm H locs hP hD hS ls (lv_sub hl [0] rfl)
      · have hr1 := it_f c_3 hr1
        refine lv_aload_n hx hb dX8_takesRow_8 rfl (lv_at hl 0 rfl) ?_
        refine va_get (D := D) (ci := 8) (v := .ref (ad 15)) (C := RX8) (T := TX8) (N := 24) hx hb hts iX8_takesRow_X8 hown hG.1 hP 0 rfl rfl 21 (by decide) (hts _ fX8_takesRow_1) (fun _ h9 => h9) rfl dX8_takesRow_9 ?_
        refine lv_iload_n hx hb dX8_takesRow_12 rfl (lv_at hl 1 rfl) ?_
        refine lv_iconst (v := 0) hx hb dX8_takesRow_13 (by decide) ?_
        obtain ⟨h_4, hr1⟩ := gd_s hr1
        refine va_iast hx hb hG.1 hP hD hS 15 0 rfl rfl h_4 dX8_takesRow_14 (fun H locs hP hD hS => ?_)
        have hP : va_P D cls9 (wM cI ad states whyKind whyOrder many wide textLong spot readColumns all past refused work kept chosen across sum one two base quotients text numbers (upd i_2 i_1.toNatClampNeg (0 : Int32)) before) H := hP
        have hD : va_D A (wM cI ad states whyKind whyOrder many wide textLong spot readColumns all past refused work kept chosen across sum one two base quotients text numbers (upd i_2 i_1.toNatClampNeg (0 : Int32)) before) := hD
        refine lv_iinc (v := (i_1 + 1)) (lv' := [(1, .int (i_1 + 1)), (0, .ref (ad 0))]) hx hb dX8_takesRow_15 hl (k := 1) rfl rfl (by decide) rfl (fun ls hl => ?_)
        refine lv_goto (tgt := 2) hx hb dX8_takesRow_18 (by decide) ?_
        exact ih1 (i_1 + 1) (upd i_2 i_1.toNatClampNeg (0 : Int32)) (ht1 _ (Option.some.inj hr1).symm) H locs hP hD hS ls (lv_sub hl [1, 0] rfl)
  obtain ⟨n1, hn1⟩ := Lp_s hw1
  exact hL1 n1 (0 : Int32) entries hn1 H locs hP hD hS ls (lv_sub hl [1, 0] rfl)
