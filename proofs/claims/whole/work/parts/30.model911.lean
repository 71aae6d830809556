abbrev rm_X8_takesRest : Room := { frames := 4, cells := 0, slots := 0, locals := 92 }
theorem iX8_takesRest_X8 : ∀ w ∈ wsX80, w ∈ wsX8_takesRest := fun _ h => (List.mem_cons_of_mem _ (List.mem_append_right _ h))
theorem fX8_takesRest_1 : Cond.fieldLink RX8 53 "PopovRowsModel" "numbers" "[I" ∈ wsX8_takesRest := (List.mem_cons_of_mem _ (List.mem_append_left _ (List.mem_append_left _ (List.mem_of_getElem? (i := 0) rfl))))
theorem fX8_takesRest_2 : Cond.constantLong RX8 110 (3) ∈ wsX8_takesRest := (List.mem_cons_of_mem _ (List.mem_append_left _ (List.mem_append_left _ (List.mem_of_getElem? (i := 1) rfl))))
theorem fX8_takesRest_3 : Cond.fieldLink RX8 280 "PopovRowsModel" "spot" "I" ∈ wsX8_takesRest := (List.mem_cons_of_mem _ (List.mem_append_left _ (List.mem_append_left _ (List.mem_of_getElem? (i := 2) rfl))))
theorem fX8_takesRest_4 : Cond.fieldLink RX8 293 "PopovRowsModel" "readColumns" "I" ∈ wsX8_takesRest := (List.mem_cons_of_mem _ (List.mem_append_left _ (List.mem_append_left _ (List.mem_of_getElem? (i := 3) rfl))))
set_option maxHeartbeats 4000000 in
set_option maxRecDepth 100000 in
theorem mtX8_takesRest (l : Launch) (D : va_G) (cI cB cR : ClassId) (ad : Nat → Nat) (sz : Nat) (states : Int32) (whyKind : Int32) (whyOrder : Int32) (many : Int32) (wide : Int32) (textLong : Int32) (spot : Int32) (readColumns : Int32) (all : Nat → Int32) (past : Nat → Int32) (refused : Nat → Int32) (work : Nat → Int32) (kept : Nat → Int32) (chosen : Nat → Int32) (across : Nat → Int32) (sum : Nat → Int32) (one : Nat → Int32) (two : Nat → Int32) (base : Nat → Int32) (quotients : Nat → Int32) (text : Nat → Int32) (numbers : Nat → Int32) (entries : Nat → Int32) (before : Nat → Int32) (a0 : Int32) (res : Int32 × Int32 × Int32 × (Nat → Int32) × (Nat → Int32)) (hf : fX8_takesRest textLong spot readColumns text numbers entries a0 = some res) : Met l yX8_takesRest wsX8_takesRest rm_X8_takesRest (qP D cI cB cR [.ref (ad 0), .int a0] (wM cI ad states whyKind whyOrder many wide textLong spot readColumns all past refused work kept chosen across sum one two base quotients text numbers entries before) sz) (qZ D res.1 (wM cI ad states whyKind whyOrder many wide textLong spot readColumns all past refused work kept chosen across sum one two base quotients text numbers entries before) (wM cI ad states whyKind whyOrder many wide textLong res.2.1 res.2.2.1 all past refused work kept chosen across sum one two base quotients text res.2.2.2.1 res.2.2.2.2 before) sz) 0 0 (va_A (wM cI ad states whyKind whyOrder many wide textLong spot readColumns all past refused work kept chosen across sum one two base quotients text numbers entries before) sz) := by
  refine entZ (plainFor_of_name (by decide)) rfl (Nat.le_of_ble_eq_true rfl) ?_
  intro p e s m args below meth c Q A ls S hG hP hD hA hl hE
  obtain ⟨hx, hb, hml, hown, hts⟩ := S
  have hown : s.vm.findClass RX8 = some m.cls := hown
  have hS : va_S A s.heap s.heap [] := va_S.rf
  have hl : lv_has ls 4 [(0, .ref (ad 0)), (1, .int a0)] := hl
  have hq := hf
  unfold fX8_takesRest at hq
  obtain ⟨H, hH⟩ : ∃ H, H = s.heap := ⟨_, rfl⟩
  obtain ⟨locs, hlo⟩ : ∃ L : List Loc, L = [] := ⟨_, rfl⟩
  have hP : va_P D cls9 (wM cI ad states whyKind whyOrder many wide textLong spot readColumns all past refused work kept chosen across sum one two base quotients text numbers entries before) H := hH ▸ hP
  have hS : va_S A s.heap H locs := by rw [hH, hlo]; exact hS
  suffices hg : W p l e rm_X8_takesRest s m args below meth c H locs 0 0 Q (F0 m 0 ls []) by rw [hH, hlo] at hg; exact hg
  refine lv_iload_n hx hb dX8_takesRest_0 rfl (lv_at hl 1 rfl) ?_
  refine lv_bipush (v := 114) hx hb dX8_takesRest_1 (by decide) ?_
  refine lv_icmp_ne (tgt := 11) hx hb dX8_takesRest_3 (by decide) (fun c_1 => ?_) (fun c_1 => ?_)
  · have hq := it_f c_1 hq
    refine lv_iload_n hx hb dX8_takesRest_11 rfl (lv_at hl 1 rfl) ?_
    refine lv_bipush (v := 115) hx hb dX8_takesRest_12 (by decide) ?_
    obtain ⟨v1, hj1, hk1⟩ := bd1_s hq
    have hJ1 : ∀ (j_3 : Int32), v1 = j_3 → ∀ (H : Heap) (locs : List Loc), va_P D cls9 (wM cI ad states whyKind whyOrder many wide textLong spot readColumns all past refused work kept chosen across sum one two base quotients text numbers entries before) H → va_D A (wM cI ad states whyKind whyOrder many wide textLong spot readColumns all past refused work kept chosen across sum one two base quotients text numbers entries before) → va_S A s.heap H locs → ∀ (ls : Array Slot), lv_has ls 4 [(0, .ref (ad 0)), (1, .int a0)] → W p l e rm_X8_takesRest s m args below meth c H locs 0 0 Q (F0 m 22 ls [.int j_3]) := by
      intro j_3 hq H locs hP hD hS ls hl
      have hq := hk1 _ hq
      refine lv_istore_n (lv' := [(2, .int j_3), (0, .ref (ad 0)), (1, .int a0)]) hx hb dX8_takesRest_22 rfl hl (by decide) rfl (fun ls hl => ?_)
      refine lv_iconst (v := 0) hx hb dX8_takesRest_23 (by decide) ?_
      refine lv_istore_n (lv' := [(3, .int (0 : Int32)), (2, .int j_3), (0, .ref (ad 0)), (1, .int a0)]) hx hb dX8_takesRest_24 rfl hl (by decide) rfl (fun ls hl => ?_)
      obtain ⟨w2, hw2, hk2, hO2⟩ := bx2_s hq
      have hX2 : ∀ (x_15 : Nat → Int32) (x_16 : Int32), w2 = .inl (x_15, x_16) → ∀ (H : Heap) (locs : List Loc), va_P D cls9 (wM cI ad states whyKind whyOrder many wide textLong x_16 readColumns all past refused work kept chosen across sum one two base quotients text x_15 entries before) H → va_D A (wM cI ad states whyKind whyOrder many wide textLong x_16 readColumns all past refused work kept chosen across sum one two base quotients text x_15 entries before) → va_S A s.heap H locs → ∀ (ls : Array Slot), lv_has ls 4 [(0, .ref (ad 0)), (1, .int a0)] → W p l e rm_X8_takesRest s m args below meth c H locs 0 0 Q (F0 m 46 ls []) := by
        intro x_15 x_16 hq H locs hP hD hS ls hl
        have hq := hk2 _ _ hq
        refine lv_iload_n hx hb dX8_takesRest_46 rfl (lv_at hl 1 rfl) ?_
        refine lv_bipush (v := 112) hx hb dX8_takesRest_47 (by decide) ?_
        obtain ⟨v3, hj3, hk3⟩ := bd1_s hq
        have hJ3 : ∀ (j_27 : Int32), v3 = j_27 → (j_27 = 0 ∨ j_27 = 1) → ∀ (H : Heap) (locs : List Loc), va_P D cls9 (wM cI ad states whyKind whyOrder many wide textLong x_16 readColumns all past refused work kept chosen across sum one two base quotients text x_15 entries before) H → va_D A (wM cI ad states whyKind whyOrder many wide textLong x_16 readColumns all past refused work kept chosen across sum one two base quotients text x_15 entries before) → va_S A s.heap H locs → ∀ (ls : Array Slot), lv_has ls 4 [(0, .ref (ad 0)), (1, .int a0)] → W p l e rm_X8_takesRest s m args below meth c H locs 0 0 Q (F0 m 92 ls [.int j_27]) := by
          intro j_27 hq zj_27 H locs hP hD hS ls hl
          have hq := hk3 _ hq
          refine lv_istore_n (lv' := [(3, .int j_27), (0, .ref (ad 0)), (1, .int a0)]) hx hb dX8_takesRest_92 rfl hl (by decide) rfl (fun ls hl => ?_)
          refine lv_aload_n hx hb dX8_takesRest_93 rfl (lv_at hl 1 rfl) ?_
          refine lv_dup hx hb dX8_takesRest_94 rfl ?_
          refine va_get (D := D) (ci := 8) (v := .int x_16) (C := RX8) (T := TX8) (N := 24) hx hb hts iX8_takesRest_X8 hown hG.1 hP 0 rfl rfl 19 (by decide) (hts _ fX8_takesRest_3) (fun _ h9 => h9) rfl dX8_takesRest_95 ?_
          refine lv_iload_n hx hb dX8_takesRest_98 rfl (lv_at hl 0 rfl) ?_
          obtain ⟨v4, hj4, hk4⟩ := bd1_s hq
          have hJ4 : ∀ (j_29 : Int32), v4 = j_29 → (j_29 = 0 ∨ j_29 = 1) → ∀ (H : Heap) (locs : List Loc), va_P D cls9 (wM cI ad states whyKind whyOrder many wide textLong x_16 readColumns all past refused work kept chosen across sum one two base quotients text x_15 entries before) H → va_D A (wM cI ad states whyKind whyOrder many wide textLong x_16 readColumns all past refused work kept chosen across sum one two base quotients text x_15 entries before) → va_S A s.heap H locs → ∀ (ls : Array Slot), lv_has ls 4 [(0, .ref (ad 0)), (1, .int a0), (3, .int j_27)] → W p l e rm_X8_takesRest s m args below meth c H locs 0 0 Q (F0 m 107 ls [.int j_29, .int x_16, .ref (ad 0)]) := by
            intro j_29 hq zj_29 H locs hP hD hS ls hl
            have hq := hk4 _ hq
            refine lv_isub hx hb dX8_takesRest_107 ?_
            refine va_put (D := D) (ci := 8) (v := .int (x_16 - j_29)) (ty := .int) (C := RX8) (T := TX8) (N := 24) hx hb hts iX8_takesRest_X8 tyX8 tyX8_ok nmX8 hown hG.1 hP hD hS 0 rfl rfl 19 (by decide) (hts _ fX8_takesRest_3) (fun _ h9 => h9) rfl (by decide +kernel) rfl rfl (Nat.le_of_ble_eq_true rfl) dX8_takesRest_108 (fun H locs hP hD hS => ?_)
            have hP : va_P D cls9 (wM cI ad states whyKind whyOrder many wide textLong (x_16 - j_29) readColumns all past refused work kept chosen across sum one two base quotients text x_15 entries before) H := hP
            have hD : va_D A (wM cI ad states whyKind whyOrder many wide textLong (x_16 - j_29) readColumns all past refused work kept chosen across sum one two base quotients text x_15 entries before) := hD
            refine lv_aload_n hx hb dX8_takesRest_111 rfl (lv_at hl 0 rfl) ?_
            refine lv_iload_n hx hb dX8_takesRest_112 rfl (lv_at hl 1 rfl) ?_
            refine lv_bipush (v := 99) hx hb dX8_takesRest_113 (by decide) ?_
            refine lv_icmp_ne (tgt := 131) hx hb dX8_takesRest_115 (by decide) (fun c_30 => ?_) (fun c_30 => ?_)
            · have hq := it_f c_30 hq
              refine lv_aload_n hx hb dX8_takesRest_131 rfl (lv_at hl 0 rfl) ?_
              refine va_get (D := D) (ci := 8) (v := .int readColumns) (C := RX8) (T := TX8) (N := 24) hx hb hts iX8_takesRest_X8 hown hG.1 hP 0 rfl rfl 22 (by decide) (hts _ fX8_takesRest_4) (fun _ h9 => h9) rfl dX8_takesRest_132 ?_
              refine va_put (D := D) (ci := 8) (v := .int readColumns) (ty := .int) (C := RX8) (T := TX8) (N := 24) hx hb hts iX8_takesRest_X8 tyX8 tyX8_ok nmX8 hown hG.1 hP hD hS 0 rfl rfl 22 (by decide) (hts _ fX8_takesRest_4) (fun _ h9 => h9) rfl (by decide +kernel) rfl rfl (Nat.le_of_ble_eq_true rfl) dX8_takesRest_135 (fun H locs hP hD hS => ?_)
              have hP : va_P D cls9 (wM cI ad states whyKind whyOrder many wide textLong (x_16 - j_29) readColumns all past refused work kept chosen across sum one two base quotients text x_15 entries before) H := hP
              have hD : va_D A (wM cI ad states whyKind whyOrder many wide textLong (x_16 - j_29) readColumns all past refused work kept chosen across sum one two base quotients text x_15 entries before) := hD
              refine lv_iload_n hx hb dX8_takesRest_138 rfl (lv_at hl 2 rfl) ?_
              have he := Option.some.inj hq
              subst he
              exact hE H locs _ _ _ rfl zj_27 dX8_takesRest_139 hP hD hS
            · have hq := it_t c_30 hq
              refine lv_iload_n hx hb dX8_takesRest_118 rfl (lv_at hl 2 rfl) ?_
              refine lv_if_eq (tgt := 131) hx hb dX8_takesRest_119 (by decide) (fun c_31 => ?_) (fun c_31 => ?_)
              · have hq := it_t c_31 hq
                refine lv_aload_n hx hb dX8_takesRest_131 rfl (lv_at hl 0 rfl) ?_
                refine va_get (D := D) (ci := 8) (v := .int readColumns) (C := RX8) (T := TX8) (N := 24) hx hb hts iX8_takesRest_X8 hown hG.1 hP 0 rfl rfl 22 (by decide) (hts _ fX8_takesRest_4) (fun _ h9 => h9) rfl dX8_takesRest_132 ?_
                refine va_put (D := D) (ci := 8) (v := .int readColumns) (ty := .int) (C := RX8) (T := TX8) (N := 24) hx hb hts iX8_takesRest_X8 tyX8 tyX8_ok nmX8 hown hG.1 hP hD hS 0 rfl rfl 22 (by decide) (hts _ fX8_takesRest_4) (fun _ h9 => h9) rfl (by decide +kernel) rfl rfl (Nat.le_of_ble_eq_true rfl) dX8_takesRest_135 (fun H locs hP hD hS => ?_)
                have hP : va_P D cls9 (wM cI ad states whyKind whyOrder many wide textLong (x_16 - j_29) readColumns all past refused work kept chosen across sum one two base quotients text x_15 entries before) H := hP
                have hD : va_D A (wM cI ad states whyKind whyOrder many wide textLong (x_16 - j_29) readColumns all past refused work kept chosen across sum one two base quotients text x_15 entries before) := hD
                refine lv_iload_n hx hb dX8_takesRest_138 rfl (lv_at hl 2 rfl) ?_
                have he := Option.some.inj hq
                subst he
                exact hE H locs _ _ _ rfl zj_27 dX8_takesRest_139 hP hD hS
              · have hq := it_f c_31 hq
                refine lv_aload_n hx hb dX8_takesRest_122 rfl (lv_at hl 0 rfl) ?_
                refine va_get (D := D) (ci := 8) (v := .ref (ad 14)) (C := RX8) (T := TX8) (N := 24) hx hb hts iX8_takesRest_X8 hown hG.1 hP 0 rfl rfl 20 (by decide) (hts _ fX8_takesRest_1) (fun _ h9 => h9) rfl dX8_takesRest_123 ?_
                refine lv_iconst (v := 0) hx hb dX8_takesRest_126 (by decide) ?_
                obtain ⟨h_32, hq⟩ := gd_s hq
                refine va_iald hx hb hG.1 hP 14 0 rfl rfl h_32 dX8_takesRest_127 ?_
                refine lv_goto (tgt := 135) hx hb dX8_takesRest_128 (by decide) ?_
                refine va_put (D := D) (ci := 8) (v := .int (x_15 (0 : Int32).toNatClampNeg)) (ty := .int) (C := RX8) (T := TX8) (N := 24) hx hb hts iX8_takesRest_X8 tyX8 tyX8_ok nmX8 hown hG.1 hP hD hS 0 rfl rfl 22 (by decide) (hts _ fX8_takesRest_4) (fun _ h9 => h9) rfl (by decide +kernel) rfl rfl (Nat.le_of_ble_eq_true rfl) dX8_takesRest_135 (fun H locs hP hD hS => ?_)
                have hP : va_P D cls9 (wM cI ad states whyKind whyOrder many wide textLong (x_16 - j_29) (x_15 (0 : Int32).toNatClampNeg) all past refused work kept chosen across sum one two base quotients text x_15 entries before) H := hP
                have hD : va_D A (wM cI ad states whyKind whyOrder many wide textLong (x_16 - j_29) (x_15 (0 : Int32).toNatClampNeg) all past refused work kept chosen across sum one two base quotients text x_15 entries before) := hD
                refine lv_iload_n hx hb dX8_takesRest_138 rfl (lv_at hl 2 rfl) ?_
                have he := Option.some.inj hq
                subst he
                exact hE H locs _ _ _ rfl zj_27 dX8_takesRest_139 hP hD hS
          refine lv_if_eq (tgt := 106) hx hb dX8_takesRest_99 (by decide) (fun c_28 => ?_) (fun c_28 => ?_)
          · have hj4 := it_t c_28 hj4
            refine lv_iconst (v := 1) hx hb dX8_takesRest_106 (by decide) ?_
            exact hJ4 (1 : Int32) (Option.some.inj hj4).symm (Or.inr rfl) H locs hP hD hS ls (lv_sub hl [1, 2, 0] rfl)
          · have hj4 := it_f c_28 hj4
            refine lv_iconst (v := 0) hx hb dX8_takesRest_102 (by decide) ?_
            refine lv_goto (tgt := 107) hx hb dX8_takesRest_103 (by decide) ?_
            exact hJ4 (0 : Int32) (Option.some.inj hj4).symm (Or.inl rfl) H locs hP hD hS ls (lv_sub hl [1, 2, 0] rfl)
        refine lv_icmp_ne (tgt := 64) hx hb dX8_takesRest_49 (by decide) (fun c_17 => ?_) (fun c_17 => ?_)
        · have hj3 := it_f c_17 hj3
          refine lv_iload_n hx hb dX8_takesRest_64 rfl (lv_at hl 1 rfl) ?_
          refine lv_bipush (v := 99) hx hb dX8_takesRest_65 (by decide) ?_
          refine lv_icmp_ne (tgt := 87) hx hb dX8_takesRest_67 (by decide) (fun c_18 => ?_) (fun c_18 => ?_)
          · have hj3 := it_f c_18 hj3
            refine lv_iconst (v := 1) hx hb dX8_takesRest_87 (by decide) ?_
            refine lv_goto (tgt := 92) hx hb dX8_takesRest_88 (by decide) ?_
            exact hJ3 (1 : Int32) (Option.some.inj hj3).symm (Or.inr rfl) H locs hP hD hS ls (lv_sub hl [0, 1] rfl)
          · have hj3 := it_t c_18 hj3
            refine lv_aload_n hx hb dX8_takesRest_70 rfl (lv_at hl 0 rfl) ?_
            refine va_get (D := D) (ci := 8) (v := .ref (ad 14)) (C := RX8) (T := TX8) (N := 24) hx hb hts iX8_takesRest_X8 hown hG.1 hP 0 rfl rfl 20 (by decide) (hts _ fX8_takesRest_1) (fun _ h9 => h9) rfl dX8_takesRest_71 ?_
            refine lv_iconst (v := 0) hx hb dX8_takesRest_74 (by decide) ?_
            obtain ⟨h_19, hj3⟩ := gd_s hj3
            refine va_iald hx hb hG.1 hP 14 0 rfl rfl h_19 dX8_takesRest_75 ?_
            refine lv_i2l (v := (((x_15 (0 : Int32).toNatClampNeg)).toInt64)) hx hb dX8_takesRest_76 rfl ?_
            refine lv_lconst (v := 1) hx hb dX8_takesRest_77 (by decide) ?_
            refine lv_ldc2 (v := 3) hx hb hown (hts _ fX8_takesRest_2) dX8_takesRest_78 ?_
            refine callZ0 (gS (rest := []) ⟨hx, hb, hml, hown, hts⟩ hG vaP0 (vaD0 (A := A)) (mtX8_in l D cI cB cR H.size (((x_15 (0 : Int32).toNatClampNeg)).toInt64) (1 : Int64) (3 : Int64) _ rfl) (va_cwS 3 hts gX8_takesRest_X8_in rfl rfl rfl hd_X8_in ⟨Nat.le_of_ble_eq_true rfl, Nat.le_of_ble_eq_true rfl⟩) rfl hl.1 rfl (Nat.le_of_ble_eq_true rfl) dX8_takesRest_81) hP hS hA (fun H locs z_20 hP hS => ?_)
            refine lv_if_eq (tgt := 91) hx hb dX8_takesRest_84 (by decide) (fun c_21 => ?_) (fun c_21 => ?_)
            · have hj3 := it_t c_21 hj3
              refine lv_iconst (v := 0) hx hb dX8_takesRest_91 (by decide) ?_
              exact hJ3 (0 : Int32) (Option.some.inj hj3).symm (Or.inl rfl) H locs hP hD hS ls (lv_sub hl [0, 1] rfl)
            · have hj3 := it_f c_21 hj3
              refine lv_iconst (v := 1) hx hb dX8_takesRest_87 (by decide) ?_
              refine lv_goto (tgt := 92) hx hb dX8_takesRest_88 (by decide) ?_
              exact hJ3 (1 : Int32) (Option.some.inj hj3).symm (Or.inr rfl) H locs hP hD hS ls (lv_sub hl [0, 1] rfl)
        · have hj3 := it_t c_17 hj3
          refine lv_aload_n hx hb dX8_takesRest_52 rfl (lv_at hl 0 rfl) ?_
          refine va_get (D := D) (ci := 8) (v := .ref (ad 14)) (C := RX8) (T := TX8) (N := 24) hx hb hts iX8_takesRest_X8 hown hG.1 hP 0 rfl rfl 20 (by decide) (hts _ fX8_takesRest_1) (fun _ h9 => h9) rfl dX8_takesRest_53 ?_
          refine lv_iconst (v := 0) hx hb dX8_takesRest_56 (by decide) ?_
          obtain ⟨h_22, hj3⟩ := gd_s hj3
          refine va_iald hx hb hG.1 hP 14 0 rfl rfl h_22 dX8_takesRest_57 ?_
          obtain ⟨v_25, hq_24, hk⟩ := bd1_s hj3
          obtain ⟨r_23, rfl⟩ : ∃ y, y = v_25 := ⟨_, rfl⟩
          have hj3 := hk _ rfl
          refine callZ0 (gS (rest := []) ⟨hx, hb, hml, hown, hts⟩ hG vaP0 (vaD0 (A := A)) (mtX8_isPrime l D cI cB cR H.size (x_15 (0 : Int32).toNatClampNeg) r_23 hq_24) (va_cwS 1 hts gX8_takesRest_X8_isPrime rfl rfl rfl hd_X8_isPrime ⟨Nat.le_of_ble_eq_true rfl, Nat.le_of_ble_eq_true rfl⟩) rfl hl.1 rfl (Nat.le_of_ble_eq_true rfl) dX8_takesRest_58) hP hS hA (fun H locs z_26 hP hS => ?_)
          refine lv_goto (tgt := 92) hx hb dX8_takesRest_61 (by decide) ?_
          exact hJ3 r_23 (Option.some.inj hj3).symm z_26 H locs hP hD hS ls (lv_sub hl [0, 1] rfl)
      have hL2 : ∀ (n : Nat) (i_4 : Int32) (i_5 : Nat → Int32) (i_6 : Int32), lrun (fun (z : Int32 × (Nat → Int32) × Int32) => fX8_takesRest_s25 textLong readColumns text entries j_3 z.1 z.2.1 z.2.2) n (i_4, i_5, i_6) = some w2 → ∀ (H : Heap) (locs : List Loc), va_P D cls9 (wM cI ad states whyKind whyOrder many wide textLong i_6 readColumns all past refused work kept chosen across sum one two base quotients text i_5 entries before) H → va_D A (wM cI ad states whyKind whyOrder many wide textLong i_6 readColumns all past refused work kept chosen across sum one two base quotients text i_5 entries before) → va_S A s.heap H locs → ∀ (ls : Array Slot), lv_has ls 4 [(0, .ref (ad 0)), (1, .int a0), (2, .int j_3), (3, .int i_4)] → W p l e rm_X8_takesRest s m args below meth c H locs 0 0 Q (F0 m 25 ls []) := by
        intro n
        induction n with
        | zero => intro i_4 i_5 i_6 h; cases h
        | succ n ih2 =>
          intro i_4 i_5 i_6 hr2 H locs hP hD hS ls hl
          obtain ⟨k, v2, hk, hr2, ht2, hv2⟩ := lrun_s hr2
          cases hk
          have hr2 : fX8_takesRest_s25 textLong readColumns text entries j_3 i_4 i_5 i_6 = some v2 := hr2
          unfold fX8_takesRest_s25 at hr2
          refine lv_iload_n hx hb dX8_takesRest_25 rfl (lv_at hl 3 rfl) ?_
          refine lv_iload_n hx hb dX8_takesRest_26 rfl (lv_at hl 2 rfl) ?_
          refine lv_icmp_ge (tgt := 46) hx hb dX8_takesRest_27 (by decide) (fun c_7 => ?_) (fun c_7 => ?_)
          · have hr2 := it_t c_7 hr2
            exact hX2 i_5 i_6 (hv2 _ (Option.some.inj hr2).symm).symm H locs hP hD hS ls (lv_sub hl [0, 1] rfl)
          · have hr2 := it_f c_7 hr2
            refine lv_aload_n hx hb dX8_takesRest_30 rfl (lv_at hl 0 rfl) ?_
            refine lv_iload_n hx hb dX8_takesRest_31 rfl (lv_at hl 3 rfl) ?_
            obtain ⟨v_12, hq_11, hk⟩ := bd3_s hr2
            obtain ⟨r_8, u_9, u_10⟩ := v_12
            have hr2 := hk _ _ _ rfl
            refine callZA (gV (rest := []) ⟨hx, hb, hml, hown, hts⟩ hG hP hD 0 8 rfl rfl (mtX8_takesFigure l D cI cB cR ad H.size states whyKind whyOrder many wide textLong i_6 readColumns all past refused work kept chosen across sum one two base quotients text i_5 entries before i_4 (r_8, u_9, u_10) hq_11) (cwV 1 hts gX8_takesRest_X8_takesFigure rfl rfl rfl ⟨rfl, hd_X8_takesFigure⟩ ⟨Nat.le_of_ble_eq_true rfl, Nat.le_of_ble_eq_true rfl⟩) rfl hl.1 rfl (Nat.le_of_ble_eq_true rfl) dX8_takesRest_32) hD hS hA (fun H locs z_13 hP hD hS => ?_)
            have hP : va_P D cls9 (wM cI ad states whyKind whyOrder many wide textLong u_9 readColumns all past refused work kept chosen across sum one two base quotients text u_10 entries before) H := hP
            have hD : va_D A (wM cI ad states whyKind whyOrder many wide textLong u_9 readColumns all past refused work kept chosen across sum one two base quotients text u_10 entries before) := hD
            refine lv_if_ne (tgt := 40) hx hb dX8_takesRest_35 (by decide) (fun c_14 => ?_) (fun c_14 => ?_)
            · have hr2 := it_f c_14 hr2
              refine lv_iinc (v := (i_4 + 1)) (lv' := [(3, .int (i_4 + 1)), (0, .ref (ad 0)), (1, .int a0), (2, .int j_3)]) hx hb dX8_takesRest_40 hl (k := 3) rfl rfl (by decide) rfl (fun ls hl => ?_)
              refine lv_goto (tgt := 25) hx hb dX8_takesRest_43 (by decide) ?_
              exact ih2 (i_4 + 1) u_10 u_9 (ht2 _ (Option.some.inj hr2).symm) H locs hP hD hS ls (lv_sub hl [1, 2, 3, 0] rfl)
            · have hr2 := it_t c_14 hr2
              refine lv_iconst (v := 0) hx hb dX8_takesRest_38 (by decide) ?_
              have he := (hO2 _ (hv2 _ (Option.some.inj hr2).symm).symm)
              subst he
              exact hE H locs _ _ _ rfl (Or.inl rfl) dX8_takesRest_39 hP hD hS
      obtain ⟨n2, hn2⟩ := Lp_s hw2
      exact hL2 n2 (0 : Int32) numbers spot hn2 H locs hP hD hS ls (lv_sub hl [2, 3, 1, 0] rfl)
    refine lv_icmp_ne (tgt := 21) hx hb dX8_takesRest_14 (by decide) (fun c_2 => ?_) (fun c_2 => ?_)
    · have hj1 := it_f c_2 hj1
      refine lv_iconst (v := 1) hx hb dX8_takesRest_21 (by decide) ?_
      exact hJ1 (1 : Int32) (Option.some.inj hj1).symm  H locs hP hD hS ls (lv_sub hl [0, 1] rfl)
    · have hj1 := it_t c_2 hj1
      refine lv_iconst (v := 4) hx hb dX8_takesRest_17 (by decide) ?_
      refine lv_goto (tgt := 22) hx hb dX8_takesRest_18 (by decide) ?_
      exact hJ1 (4 : Int32) (Option.some.inj hj1).symm  H locs hP hD hS ls (lv_sub hl [0, 1] rfl)
  · have hq := it_t c_1 hq
    refine lv_aload_n hx hb dX8_takesRest_6 rfl (lv_at hl 0 rfl) ?_
    obtain ⟨v_37, hq_36, hk⟩ := bd3_s hq
    obtain ⟨r_33, u_34, u_35⟩ := v_37
    have hq := hk _ _ _ rfl
    refine callZA (gV (rest := []) ⟨hx, hb, hml, hown, hts⟩ hG hP hD 0 8 rfl rfl (mtX8_takesRow l D cI cB cR ad H.size states whyKind whyOrder many wide textLong spot readColumns all past refused work kept chosen across sum one two base quotients text numbers entries before (r_33, u_34, u_35) hq_36) (cwV 0 hts gX8_takesRest_X8_takesRow rfl rfl rfl ⟨rfl, hd_X8_takesRow⟩ ⟨Nat.le_of_ble_eq_true rfl, Nat.le_of_ble_eq_true rfl⟩) rfl hl.1 rfl (Nat.le_of_ble_eq_true rfl) dX8_takesRest_7) hD hS hA (fun H locs z_38 hP hD hS => ?_)
    have hP : va_P D cls9 (wM cI ad states whyKind whyOrder many wide textLong u_34 readColumns all past refused work kept chosen across sum one two base quotients text numbers u_35 before) H := hP
    have hD : va_D A (wM cI ad states whyKind whyOrder many wide textLong u_34 readColumns all past refused work kept chosen across sum one two base quotients text numbers u_35 before) := hD
    have he := Option.some.inj hq
    subst he
    exact hE H locs _ _ _ rfl z_38 dX8_takesRest_10 hP hD hS
abbrev rm_X8_can : Room := { frames := 6, cells := 0, slots := 0, locals := 134 }
theorem iX8_can_X8 : ∀ w ∈ wsX80, w ∈ wsX8_can := fun _ h => (List.mem_cons_of_mem _ (List.mem_append_right _ h))
theorem fX8_can_1 : Cond.fieldLink RX8 53 "PopovRowsModel" "numbers" "[I" ∈ wsX8_can := (List.mem_cons_of_mem _ (List.mem_append_left _ (List.mem_append_left _ (List.mem_of_getElem? (i := 0) rfl))))
set_option maxHeartbeats 4000000 in
set_option maxRecDepth 100000 in
theorem mtX8_can (l : Launch) (D : va_G) (cI cB cR : ClassId) (ad : Nat → Nat) (sz : Nat) (states : Int32) (whyKind : Int32) (whyOrder : Int32) (many : Int32) (wide : Int32) (textLong : Int32) (spot : Int32) (readColumns : Int32) (all : Nat → Int32) (past : Nat → Int32) (refused : Nat → Int32) (work : Nat → Int32) (kept : Nat → Int32) (chosen : Nat → Int32) (across : Nat → Int32) (sum : Nat → Int32) (one : Nat → Int32) (two : Nat → Int32) (base : Nat → Int32) (quotients : Nat → Int32) (text : Nat → Int32) (numbers : Nat → Int32) (entries : Nat → Int32) (before : Nat → Int32) (a0 : Int32) (res : Int32) (hf : fX8_can all numbers a0 = some res) : Met l yX8_can wsX8_can rm_X8_can (qP D cI cB cR [.ref (ad 0), .int a0] (wM cI ad states whyKind whyOrder many wide textLong spot readColumns all past refused work kept chosen across sum one two base quotients text numbers entries before) sz) (qI D res (wM cI ad states whyKind whyOrder many wide textLong spot readColumns all past refused work kept chosen across sum one two base quotients text numbers entries before) (wM cI ad states whyKind whyOrder many wide textLong spot readColumns all past refused work kept chosen across sum one two base quotients text numbers entries before) sz) 0 0 (va_A (wM cI ad states whyKind whyOrder many wide textLong spot readColumns all past refused work kept chosen across sum one two base quotients text numbers entries before) sz) := by
  refine entI (plainFor_of_name (by decide)) rfl (Nat.le_of_ble_eq_true rfl) ?_
  intro p e s m args below meth c Q A ls S hG hP hD hA hl hE
  obtain ⟨hx, hb, hml, hown, hts⟩ := S
  have hown : s.vm.findClass RX8 = some m.cls := hown
  have hS : va_S A s.heap s.heap [] := va_S.rf
  have hl : lv_has ls 2 [(0, .ref (ad 0)), (1, .int a0)] := hl
  have hq := hf
  unfold fX8_can at hq
  obtain ⟨H, hH⟩ : ∃ H, H = s.heap := ⟨_, rfl⟩
  obtain ⟨locs, hlo⟩ : ∃ L : List Loc, L = [] := ⟨_, rfl⟩
  have hP : va_P D cls9 (wM cI ad states whyKind whyOrder many wide textLong spot readColumns all past refused work kept chosen across sum one two base quotients text numbers entries before) H := hH ▸ hP
  have hS : va_S A s.heap H locs := by rw [hH, hlo]; exact hS
  suffices hg : W p l e rm_X8_can s m args below meth c H locs 0 0 Q (F0 m 0 ls []) by rw [hH, hlo] at hg; exact hg
  refine lv_iload_n hx hb dX8_can_0 rfl (lv_at hl 1 rfl) ?_
  by_cases c_1_0 : a0 = (109 : Int32)
  · have hq := it_t c_1_0 hq
    refine lv_lookup (tgt := 108) hx hb dX8_can_1 (by decide) (off := 107) (by rw [c_1_0]; rfl) (by decide) ?_
    refine lv_aload_n hx hb dX8_can_108 rfl (lv_at hl 0 rfl) ?_
    refine lv_aload_n hx hb dX8_can_109 rfl (lv_at hl 0 rfl) ?_
    refine va_get (D := D) (ci := 8) (v := .ref (ad 14)) (C := RX8) (T := TX8) (N := 24) hx hb hts iX8_can_X8 hown hG.1 hP 0 rfl rfl 20 (by decide) (hts _ fX8_can_1) (fun _ h9 => h9) rfl dX8_can_110 ?_
    refine lv_iconst (v := 0) hx hb dX8_can_113 (by decide) ?_
    obtain ⟨h_1, hq⟩ := gd_s hq
    refine va_iald hx hb hG.1 hP 14 0 rfl rfl h_1 dX8_can_114 ?_
    obtain ⟨v_4, hq_3, hk⟩ := bd1_s hq
    obtain ⟨r_2, rfl⟩ : ∃ y, y = v_4 := ⟨_, rfl⟩
    have hq := hk _ rfl
    refine callIA (gV (rest := []) ⟨hx, hb, hml, hown, hts⟩ hG hP hD 0 8 rfl rfl (mtX8_canMonic l D cI cB cR ad H.size states whyKind whyOrder many wide textLong spot readColumns all past refused work kept chosen across sum one two base quotients text numbers entries before (numbers (0 : Int32).toNatClampNeg) r_2 hq_3) (cwV 1 hts gX8_can_X8_canMonic rfl rfl rfl ⟨rfl, hd_X8_canMonic⟩ ⟨Nat.le_of_ble_eq_true rfl, Nat.le_of_ble_eq_true rfl⟩) rfl hl.1 rfl (Nat.le_of_ble_eq_true rfl) dX8_can_115) hD hS hA (fun H locs hP hD hS => ?_)
    have hP : va_P D cls9 (wM cI ad states whyKind whyOrder many wide textLong spot readColumns all past refused work kept chosen across sum one two base quotients text numbers entries before) H := hP
    have hD : va_D A (wM cI ad states whyKind whyOrder many wide textLong spot readColumns all past refused work kept chosen across sum one two base quotients text numbers entries before) := hD
    have he := Option.some.inj hq
    subst he
    exact hE H locs _ _ _ rfl dX8_can_118 hP hD hS
  · have hq := it_f c_1_0 hq
    by_cases c_1_1 : a0 = (114 : Int32)
    · have hq := it_t c_1_1 hq
      refine lv_lookup (tgt := 44) hx hb dX8_can_1 (by decide) (off := 43) (by rw [c_1_1]; rfl) (by decide) ?_
      refine lv_aload_n hx hb dX8_can_44 rfl (lv_at hl 0 rfl) ?_
      obtain ⟨v_7, hq_6, hk⟩ := bd1_s hq
      obtain ⟨r_5, rfl⟩ : ∃ y, y = v_7 := ⟨_, rfl⟩
      have hq := hk _ rfl
      refine callIA (gV (rest := []) ⟨hx, hb, hml, hown, hts⟩ hG hP hD 0 8 rfl rfl (mtX8_rows l D cI cB cR ad H.size states whyKind whyOrder many wide textLong spot readColumns all past refused work kept chosen across sum one two base quotients text numbers entries before r_5 hq_6) (cwV 0 hts gX8_can_X8_rows rfl rfl rfl ⟨rfl, hd_X8_rows⟩ ⟨Nat.le_of_ble_eq_true rfl, Nat.le_of_ble_eq_true rfl⟩) rfl hl.1 rfl (Nat.le_of_ble_eq_true rfl) dX8_can_45) hD hS hA (fun H locs hP hD hS => ?_)
      have hP : va_P D cls9 (wM cI ad states whyKind whyOrder many wide textLong spot readColumns all past refused work kept chosen across sum one two base quotients text numbers entries before) H := hP
      have hD : va_D A (wM cI ad states whyKind whyOrder many wide textLong spot readColumns all past refused work kept chosen across sum one two base quotients text numbers entries before) := hD
      refine lv_iconst (v := 5) hx hb dX8_can_48 (by decide) ?_
      refine lv_icmp_ne (tgt := 57) hx hb dX8_can_49 (by decide) (fun c_8 => ?_) (fun c_8 => ?_)
      · have hq := it_f c_8 hq
        refine lv_iconst (v := 0) hx hb dX8_can_57 (by decide) ?_
        have he := Option.some.inj hq
        subst he
        exact hE H locs _ _ _ rfl dX8_can_58 hP hD hS
      · have hq := it_t c_8 hq
        refine lv_bipush (v := -4) hx hb dX8_can_52 (by decide) ?_
        refine lv_goto (tgt := 58) hx hb dX8_can_54 (by decide) ?_
        have he := Option.some.inj hq
        subst he
        exact hE H locs _ _ _ rfl dX8_can_58 hP hD hS
    · have hq := it_f c_1_1 hq
      by_cases c_1_2 : a0 = (115 : Int32)
      · have hq := it_t c_1_2 hq
        refine lv_lookup (tgt := 79) hx hb dX8_can_1 (by decide) (off := 78) (by rw [c_1_2]; rfl) (by decide) ?_
        refine lv_aload_n hx hb dX8_can_79 rfl (lv_at hl 0 rfl) ?_
        refine lv_aload_n hx hb dX8_can_80 rfl (lv_at hl 0 rfl) ?_
        refine va_get (D := D) (ci := 8) (v := .ref (ad 14)) (C := RX8) (T := TX8) (N := 24) hx hb hts iX8_can_X8 hown hG.1 hP 0 rfl rfl 20 (by decide) (hts _ fX8_can_1) (fun _ h9 => h9) rfl dX8_can_81 ?_
        refine lv_iconst (v := 0) hx hb dX8_can_84 (by decide) ?_
        obtain ⟨h_9, hq⟩ := gd_s hq
        refine va_iald hx hb hG.1 hP 14 0 rfl rfl h_9 dX8_can_85 ?_
        refine lv_aload_n hx hb dX8_can_86 rfl (lv_at hl 0 rfl) ?_
        refine va_get (D := D) (ci := 8) (v := .ref (ad 14)) (C := RX8) (T := TX8) (N := 24) hx hb hts iX8_can_X8 hown hG.1 hP 0 rfl rfl 20 (by decide) (hts _ fX8_can_1) (fun _ h9 => h9) rfl dX8_can_87 ?_
        refine lv_iconst (v := 1) hx hb dX8_can_90 (by decide) ?_
        obtain ⟨h_10, hq⟩ := gd_s hq
        refine va_iald hx hb hG.1 hP 14 0 rfl rfl h_10 dX8_can_91 ?_
        refine lv_aload_n hx hb dX8_can_92 rfl (lv_at hl 0 rfl) ?_
        refine va_get (D := D) (ci := 8) (v := .ref (ad 14)) (C := RX8) (T := TX8) (N := 24) hx hb hts iX8_can_X8 hown hG.1 hP 0 rfl rfl 20 (by decide) (hts _ fX8_can_1) (fun _ h9 => h9) rfl dX8_can_93 ?_
        refine lv_iconst (v := 2) hx hb dX8_can_96 (by decide) ?_
        obtain ⟨h_11, hq⟩ := gd_s hq
        refine va_iald hx hb hG.1 hP 14 0 rfl rfl h_11 dX8_can_97 ?_
        refine lv_aload_n hx hb dX8_can_98 rfl (lv_at hl 0 rfl) ?_
        refine va_get (D := D) (ci := 8) (v := .ref (ad 14)) (C := RX8) (T := TX8) (N := 24) hx hb hts iX8_can_X8 hown hG.1 hP 0 rfl rfl 20 (by decide) (hts _ fX8_can_1) (fun _ h9 => h9) rfl dX8_can_99 ?_
        refine lv_iconst (v := 3) hx hb dX8_can_102 (by decide) ?_
        obtain ⟨h_12, hq⟩ := gd_s hq
        refine va_iald hx hb hG.1 hP 14 0 rfl rfl h_12 dX8_can_103 ?_
        obtain ⟨v_15, hq_14, hk⟩ := bd1_s hq
        obtain ⟨r_13, rfl⟩ : ∃ y, y = v_15 := ⟨_, rfl⟩
        have hq := hk _ rfl
        refine callIA (gV (rest := []) ⟨hx, hb, hml, hown, hts⟩ hG hP hD 0 8 rfl rfl (mtX8_canStep l D cI cB cR ad H.size states whyKind whyOrder many wide textLong spot readColumns all past refused work kept chosen across sum one two base quotients text numbers entries before (numbers (0 : Int32).toNatClampNeg) (numbers (1 : Int32).toNatClampNeg) (numbers (2 : Int32).toNatClampNeg) (numbers (3 : Int32).toNatClampNeg) r_13 hq_14) (cwV 4 hts gX8_can_X8_canStep rfl rfl rfl ⟨rfl, hd_X8_canStep⟩ ⟨Nat.le_of_ble_eq_true rfl, Nat.le_of_ble_eq_true rfl⟩) rfl hl.1 rfl (Nat.le_of_ble_eq_true rfl) dX8_can_104) hD hS hA (fun H locs hP hD hS => ?_)
        have hP : va_P D cls9 (wM cI ad states whyKind whyOrder many wide textLong spot readColumns all past refused work kept chosen across sum one two base quotients text numbers entries before) H := hP
        have hD : va_D A (wM cI ad states whyKind whyOrder many wide textLong spot readColumns all past refused work kept chosen across sum one two base quotients text numbers entries before) := hD
        have he := Option.some.inj hq
        subst he
        exact hE H locs _ _ _ rfl dX8_can_107 hP hD hS
      · have hq := it_f c_1_2 hq
        by_cases c_1_3 : a0 = (120 : Int32)
        · have hq := it_t c_1_3 hq
          refine lv_lookup (tgt := 59) hx hb dX8_can_1 (by decide) (off := 58) (by rw [c_1_3]; rfl) (by decide) ?_
          refine lv_aload_n hx hb dX8_can_59 rfl (lv_at hl 0 rfl) ?_
          refine lv_aload_n hx hb dX8_can_60 rfl (lv_at hl 0 rfl) ?_
          refine va_get (D := D) (ci := 8) (v := .ref (ad 14)) (C := RX8) (T := TX8) (N := 24) hx hb hts iX8_can_X8 hown hG.1 hP 0 rfl rfl 20 (by decide) (hts _ fX8_can_1) (fun _ h9 => h9) rfl dX8_can_61 ?_
          refine lv_iconst (v := 0) hx hb dX8_can_64 (by decide) ?_
          obtain ⟨h_16, hq⟩ := gd_s hq
          refine va_iald hx hb hG.1 hP 14 0 rfl rfl h_16 dX8_can_65 ?_
          obtain ⟨v_19, hq_18, hk⟩ := bd1_s hq
          obtain ⟨r_17, rfl⟩ : ∃ y, y = v_19 := ⟨_, rfl⟩
          have hq := hk _ rfl
          refine callZA (gV (rest := []) ⟨hx, hb, hml, hown, hts⟩ hG hP hD 0 8 rfl rfl (mtX8_isRow l D cI cB cR ad H.size states whyKind whyOrder many wide textLong spot readColumns all past refused work kept chosen across sum one two base quotients text numbers entries before (numbers (0 : Int32).toNatClampNeg) r_17 hq_18) (cwV 1 hts gX8_can_X8_isRow rfl rfl rfl ⟨rfl, hd_X8_isRow⟩ ⟨Nat.le_of_ble_eq_true rfl, Nat.le_of_ble_eq_true rfl⟩) rfl hl.1 rfl (Nat.le_of_ble_eq_true rfl) dX8_can_66) hD hS hA (fun H locs z_20 hP hD hS => ?_)
          have hP : va_P D cls9 (wM cI ad states whyKind whyOrder many wide textLong spot readColumns all past refused work kept chosen across sum one two base quotients text numbers entries before) H := hP
          have hD : va_D A (wM cI ad states whyKind whyOrder many wide textLong spot readColumns all past refused work kept chosen across sum one two base quotients text numbers entries before) := hD
          refine lv_if_eq (tgt := 76) hx hb dX8_can_69 (by decide) (fun c_21 => ?_) (fun c_21 => ?_)
          · have hq := it_t c_21 hq
            refine lv_bipush (v := -2) hx hb dX8_can_76 (by decide) ?_
            have he := Option.some.inj hq
            subst he
            exact hE H locs _ _ _ rfl dX8_can_78 hP hD hS
          · have hq := it_f c_21 hq
            refine lv_iconst (v := 0) hx hb dX8_can_72 (by decide) ?_
            refine lv_goto (tgt := 78) hx hb dX8_can_73 (by decide) ?_
            have he := Option.some.inj hq
            subst he
            exact hE H locs _ _ _ rfl dX8_can_78 hP hD hS
        · have hq := it_f c_1_3 hq
          refine lv_lookup (tgt := 119) hx hb dX8_can_1 (by decide) (off := 118) (by show Op.lookupswitch.offset [(109, 107), (114, 43), (115, 78), (120, 58)] 118 _ = 118; rw [Op.lookupswitch.offset_cons, if_neg (sw_ne (a := 109) c_1_0 rfl), Op.lookupswitch.offset_cons, if_neg (sw_ne (a := 114) c_1_1 rfl), Op.lookupswitch.offset_cons, if_neg (sw_ne (a := 115) c_1_2 rfl), Op.lookupswitch.offset_cons, if_neg (sw_ne (a := 120) c_1_3 rfl)]; rfl) (by decide) ?_
          refine lv_iconst (v := 0) hx hb dX8_can_119 (by decide) ?_
          have he := Option.some.inj hq
          subst he
          exact hE H locs _ _ _ rfl dX8_can_120 hP hD hS
abbrev rm_X8_laysRow : Room := { frames := 2, cells := 0, slots := 0, locals := 44 }
theorem iX8_laysRow_X8 : ∀ w ∈ wsX80, w ∈ wsX8_laysRow := fun _ h => (List.mem_cons_of_mem _ (List.mem_append_right _ h))
theorem fX8_laysRow_1 : Cond.fieldLink RX8 7 "PopovRowsModel" "all" "[I" ∈ wsX8_laysRow := (List.mem_cons_of_mem _ (List.mem_append_left _ (List.mem_append_left _ (List.mem_of_getElem? (i := 0) rfl))))
theorem fX8_laysRow_2 : Cond.fieldLink RX8 56 "PopovRowsModel" "entries" "[I" ∈ wsX8_laysRow := (List.mem_cons_of_mem _ (List.mem_append_left _ (List.mem_append_left _ (List.mem_of_getElem? (i := 1) rfl))))
set_option maxHeartbeats 4000000 in
set_option maxRecDepth 100000 in
theorem mtX8_laysRow (l : Launch) (D : va_G) (cI cB cR : ClassId) (ad : Nat → Nat) (sz : Nat) (states : Int32) (whyKind : Int32) (whyOrder : Int32) (many : Int32) (wide : Int32) (textLong : Int32) (spot : Int32) (readColumns : Int32) (all : Nat → Int32) (past : Nat → Int32) (refused : Nat → Int32) (work : Nat → Int32) (kept : Nat → Int32) (chosen : Nat → Int32) (across : Nat → Int32) (sum : Nat → Int32) (one : Nat → Int32) (two : Nat → Int32) (base : Nat → Int32) (quotients : Nat → Int32) (text : Nat → Int32) (numbers : Nat → Int32) (entries : Nat → Int32) (before : Nat → Int32) (res : Int32 × (Nat → Int32)) (hf : fX8_laysRow all entries = some res) : Met l yX8_laysRow wsX8_laysRow rm_X8_laysRow (qP D cI cB cR [.ref (ad 0)] (wM cI ad states whyKind whyOrder many wide textLong spot readColumns all past refused work kept chosen across sum one two base quotients text numbers entries before) sz) (qI D res.1 (wM cI ad states whyKind whyOrder many wide textLong spot readColumns all past refused work kept chosen across sum one two base quotients text numbers entries before) (wM cI ad states whyKind whyOrder many wide textLong spot readColumns res.2 past refused work kept chosen across sum one two base quotients text numbers entries before) sz) 0 0 (va_A (wM cI ad states whyKind whyOrder many wide textLong spot readColumns all past refused work kept chosen across sum one two base quotients text numbers entries before) sz) := by
  refine entI (plainFor_of_name (by decide)) rfl (Nat.le_of_ble_eq_true rfl) ?_
  intro p e s m args below meth c Q A ls S hG hP hD hA hl hE
  obtain ⟨hx, hb, hml, hown, hts⟩ := S
  have hown : s.vm.findClass RX8 = some m.cls := hown
  have hS : va_S A s.heap s.heap [] := va_S.rf
  have hl : lv_has ls 3 [(0, .ref (ad 0))] := hl
  have hq := hf
  unfold fX8_laysRow at hq
  obtain ⟨H, hH⟩ : ∃ H, H = s.heap := ⟨_, rfl⟩
  obtain ⟨locs, hlo⟩ : ∃ L : List Loc, L = [] := ⟨_, rfl⟩
  have hP : va_P D cls9 (wM cI ad states whyKind whyOrder many wide textLong spot readColumns all past refused work kept chosen across sum one two base quotients text numbers entries before) H := hH ▸ hP
  have hS : va_S A s.heap H locs := by rw [hH, hlo]; exact hS
  suffices hg : W p l e rm_X8_laysRow s m args below meth c H locs 0 0 Q (F0 m 0 ls []) by rw [hH, hlo] at hg; exact hg
  refine lv_aload_n hx hb dX8_laysRow_0 rfl (lv_at hl 0 rfl) ?_
  obtain ⟨v_4, hq_3, hk⟩ := bd2_s hq
  obtain ⟨r_1, u_2⟩ := v_4
  have hq := hk _ _ rfl
  refine callIA (gV (rest := []) ⟨hx, hb, hml, hown, hts⟩ hG hP hD 0 8 rfl rfl (mtX8_rowNow l D cI cB cR ad H.size states whyKind whyOrder many wide textLong spot readColumns all past refused work kept chosen across sum one two base quotients text numbers entries before (r_1, u_2) hq_3) (cwV 0 hts gX8_laysRow_X8_rowNow rfl rfl rfl ⟨rfl, hd_X8_rowNow⟩ ⟨Nat.le_of_ble_eq_true rfl, Nat.le_of_ble_eq_true rfl⟩) rfl hl.1 rfl (Nat.le_of_ble_eq_true rfl) dX8_laysRow_1) hD hS hA (fun H locs hP hD hS => ?_)
  have hP : va_P D cls9 (wM cI ad states whyKind whyOrder many wide textLong spot readColumns u_2 past refused work kept chosen across sum one two base quotients text numbers entries before) H := hP
  have hD : va_D A (wM cI ad states whyKind whyOrder many wide textLong spot readColumns u_2 past refused work kept chosen across sum one two base quotients text numbers entries before) := hD
  refine lv_istore_n (lv' := [(1, .int r_1), (0, .ref (ad 0))]) hx hb dX8_laysRow_4 rfl hl (by decide) rfl (fun ls hl => ?_)
  refine lv_iconst (v := 0) hx hb dX8_laysRow_5 (by decide) ?_
  refine lv_istore_n (lv' := [(2, .int (0 : Int32)), (1, .int r_1), (0, .ref (ad 0))]) hx hb dX8_laysRow_6 rfl hl (by decide) rfl (fun ls hl => ?_)
  obtain ⟨w1, hw1, hk1⟩ := bd1_s hq
  have hX1 : ∀ (x_16 : Nat → Int32), w1 = x_16 → ∀ (H : Heap) (locs : List Loc), va_P D cls9 (wM cI ad states whyKind whyOrder many wide textLong spot readColumns x_16 past refused work kept chosen across sum one two base quotients text numbers entries before) H → va_D A (wM cI ad states whyKind whyOrder many wide textLong spot readColumns x_16 past refused work kept chosen across sum one two base quotients text numbers entries before) → va_S A s.heap H locs → ∀ (ls : Array Slot), lv_has ls 3 [(1, .int r_1)] → W p l e rm_X8_laysRow s m args below meth c H locs 0 0 Q (F0 m 45 ls []) := by
    intro x_16 hq H locs hP hD hS ls hl
    have hq := hk1 _ hq
    refine lv_iload_n hx hb dX8_laysRow_45 rfl (lv_at hl 0 rfl) ?_
    have he := Option.some.inj hq
    subst he
    exact hE H locs _ _ _ rfl dX8_laysRow_46 hP hD hS
  have hL1 : ∀ (n : Nat) (i_5 : Int32) (i_6 : Nat → Int32), lrun (fun (z : Int32 × (Nat → Int32)) => fX8_laysRow_s7 entries r_1 z.1 z.2) n (i_5, i_6) = some w1 → ∀ (H : Heap) (locs : List Loc), va_P D cls9 (wM cI ad states whyKind whyOrder many wide textLong spot readColumns i_6 past refused work kept chosen across sum one two base quotients text numbers entries before) H → va_D A (wM cI ad states whyKind whyOrder many wide textLong spot readColumns i_6 past refused work kept chosen across sum one two base quotients text numbers entries before) → va_S A s.heap H locs → ∀ (ls : Array Slot), lv_has ls 3 [(0, .ref (ad 0)), (1, .int r_1), (2, .int i_5)] → W p l e rm_X8_laysRow s m args below meth c H locs 0 0 Q (F0 m 7 ls []) := by
    intro n
    induction n with
    | zero => intro i_5 i_6 h; cases h
    | succ n ih1 =>
      intro i_5 i_6 hr1 H locs hP hD hS ls hl
      obtain ⟨k, v1, hk, hr1, ht1, hv1⟩ := lrun_s hr1
      cases hk
      have hr1 : fX8_laysRow_s7 entries r_1 i_5 i_6 = some v1 := hr1
      unfold fX8_laysRow_s7 at hr1
      refine lv_iload_n hx hb dX8_laysRow_7 rfl (lv_at hl 2 rfl) ?_
      refine lv_aload_n hx hb dX8_laysRow_8 rfl (lv_at hl 0 rfl) ?_
      obtain ⟨v_9, hq_8, hk⟩ := bd1_s hr1
      obtain ⟨r_7, rfl⟩ : ∃ y, y = v_9 := ⟨_, rfl⟩
      have hr1 := hk _ rfl
      refine callIA (gV (rest := [.int i_5]) ⟨hx, hb, hml, hown, hts⟩ hG hP hD 0 8 rfl rfl (mtX8_width l D cI cB cR ad H.size states whyKind whyOrder many wide textLong spot readColumns i_6 past refused work kept chosen across sum one two base quotients text numbers entries before r_7 hq_8) (cwV 0 hts gX8_laysRow_X8_width rfl rfl rfl ⟨rfl, hd_X8_width⟩ ⟨Nat.le_of_ble_eq_true rfl, Nat.le_of_ble_eq_true rfl⟩) rfl hl.1 rfl (Nat.le_of_ble_eq_true rfl) dX8_laysRow_9) hD hS hA (fun H locs hP hD hS => ?_)
      have hP : va_P D cls9 (wM cI ad states whyKind whyOrder many wide textLong spot readColumns i_6 past refused work kept chosen across sum one two base quotients text numbers entries before) H := hP
      have hD : va_D A (wM cI ad states whyKind whyOrder many wide textLong spot readColumns i_6 past refused work kept chosen across sum one two base quotients text numbers entries before) := hD
      refine lv_bipush (v := 7) hx hb dX8_laysRow_12 (by decide) ?_
      refine lv_imul hx hb dX8_laysRow_14 ?_
      refine lv_icmp_ge (tgt := 45) hx hb dX8_laysRow_15 (by decide) (fun c_10 => ?_) (fun c_10 => ?_)
      · have hr1 := it_t c_10 hr1
        exact hX1 i_6 (hv1 _ (Option.some.inj hr1).symm).symm H locs hP hD hS ls (lv_sub hl [1] rfl)
      · have hr1 := it_f c_10 hr1
        refine lv_aload_n hx hb dX8_laysRow_18 rfl (lv_at hl 0 rfl) ?_
        refine va_get (D := D) (ci := 8) (v := .ref (ad 1)) (C := RX8) (T := TX8) (N := 24) hx hb hts iX8_laysRow_X8 hown hG.1 hP 0 rfl rfl 0 (by decide) (hts _ fX8_laysRow_1) (fun _ h9 => h9) rfl dX8_laysRow_19 ?_
        refine lv_iload_n hx hb dX8_laysRow_22 rfl (lv_at hl 1 rfl) ?_
        refine lv_iconst (v := 0) hx hb dX8_laysRow_23 (by decide) ?_
        refine lv_iload_n hx hb dX8_laysRow_24 rfl (lv_at hl 2 rfl) ?_
        refine callI0 (gS (rest := [.ref (ad 1)]) ⟨hx, hb, hml, hown, hts⟩ hG vaP0 (vaD0 (A := A)) (mtX8_place l D cI cB cR H.size r_1 (0 : Int32) i_5 _ rfl) (va_cwS 3 hts gX8_laysRow_X8_place rfl rfl rfl hd_X8_place ⟨Nat.le_of_ble_eq_true rfl, Nat.le_of_ble_eq_true rfl⟩) rfl hl.1 rfl (Nat.le_of_ble_eq_true rfl) dX8_laysRow_25) hP hS hA (fun H locs hP hS => ?_)
        refine lv_aload_n hx hb dX8_laysRow_28 rfl (lv_at hl 0 rfl) ?_
        refine lv_aload_n hx hb dX8_laysRow_29 rfl (lv_at hl 0 rfl) ?_
        refine va_get (D := D) (ci := 8) (v := .ref (ad 15)) (C := RX8) (T := TX8) (N := 24) hx hb hts iX8_laysRow_X8 hown hG.1 hP 0 rfl rfl 21 (by decide) (hts _ fX8_laysRow_2) (fun _ h9 => h9) rfl dX8_laysRow_30 ?_
        refine lv_iload_n hx hb dX8_laysRow_33 rfl (lv_at hl 2 rfl) ?_
        obtain ⟨h_11, hr1⟩ := gd_s hr1
        refine va_iald hx hb hG.1 hP 15 0 rfl rfl h_11 dX8_laysRow_34 ?_
        obtain ⟨v_14, hq_13, hk⟩ := bd1_s hr1
        obtain ⟨r_12, rfl⟩ : ∃ y, y = v_14 := ⟨_, rfl⟩
        have hr1 := hk _ rfl
        refine callIA (gV (rest := [.int (fX8_place r_1 (0 : Int32) i_5), .ref (ad 1)]) ⟨hx, hb, hml, hown, hts⟩ hG hP hD 0 8 rfl rfl (mtX8_left l D cI cB cR ad H.size states whyKind whyOrder many wide textLong spot readColumns i_6 past refused work kept chosen across sum one two base quotients text numbers entries before (entries i_5.toNatClampNeg) r_12 hq_13) (cwV 1 hts gX8_laysRow_X8_left rfl rfl rfl ⟨rfl, hd_X8_left⟩ ⟨Nat.le_of_ble_eq_true rfl, Nat.le_of_ble_eq_true rfl⟩) rfl hl.1 rfl (Nat.le_of_ble_eq_true rfl) dX8_laysRow_35) hD hS hA (fun H locs hP hD hS => ?_)
        have hP : va_P D cls9 (wM cI ad states whyKind whyOrder many wide textLong spot readColumns i_6 past refused work kept chosen across sum one two base quotients text numbers entries before) H := hP
        have hD : va_D A (wM cI ad states whyKind whyOrder many wide textLong spot readColumns i_6 past refused work kept chosen across sum one two base quotients text numbers entries before) := hD
        obtain ⟨h_15, hr1⟩ := gd_s hr1
        refine va_iast hx hb hG.1 hP hD hS 1 0 rfl rfl h_15 dX8_laysRow_38 (fun H locs hP hD hS => ?_)
        have hP : va_P D cls9 (wM cI ad states whyKind whyOrder many wide textLong spot readColumns (upd i_6 (fX8_place r_1 (0 : Int32) i_5).toNatClampNeg r_12) past refused work kept chosen across sum one two base quotients text numbers entries before) H := hP
        have hD : va_D A (wM cI ad states whyKind whyOrder many wide textLong spot readColumns (upd i_6 (fX8_place r_1 (0 : Int32) i_5).toNatClampNeg r_12) past refused work kept chosen across sum one two base quotients text numbers entries before) := hD
        refine lv_iinc (v := (i_5 + 1)) (lv' := [(2, .int (i_5 + 1)), (0, .ref (ad 0)), (1, .int r_1)]) hx hb dX8_laysRow_39 hl (k := 2) rfl rfl (by decide) rfl (fun ls hl => ?_)
        refine lv_goto (tgt := 7) hx hb dX8_laysRow_42 (by decide) ?_
        exact ih1 (i_5 + 1) (upd i_6 (fX8_place r_1 (0 : Int32) i_5).toNatClampNeg r_12) (ht1 _ (Option.some.inj hr1).symm) H locs hP hD hS ls (lv_sub hl [1, 2, 0] rfl)
  obtain ⟨n1, hn1⟩ := Lp_s hw1
  exact hL1 n1 (0 : Int32) u_2 hn1 H locs hP hD hS ls (lv_sub hl [2, 1, 0] rfl)
abbrev rm_X8_does : Room := { frames := 6, cells := 0, slots := 0, locals := 137 }
theorem iX8_does_X8 : ∀ w ∈ wsX80, w ∈ wsX8_does := fun _ h => (List.mem_cons_of_mem _ (List.mem_append_right _ h))
theorem fX8_does_1 : Cond.fieldLink RX8 53 "PopovRowsModel" "numbers" "[I" ∈ wsX8_does := (List.mem_cons_of_mem _ (List.mem_append_left _ (List.mem_append_left _ (List.mem_of_getElem? (i := 0) rfl))))
set_option maxHeartbeats 4000000 in
set_option maxRecDepth 100000 in
theorem mtX8_does (l : Launch) (D : va_G) (cI cB cR : ClassId) (ad : Nat → Nat) (sz : Nat) (states : Int32) (whyKind : Int32) (whyOrder : Int32) (many : Int32) (wide : Int32) (textLong : Int32) (spot : Int32) (readColumns : Int32) (all : Nat → Int32) (past : Nat → Int32) (refused : Nat → Int32) (work : Nat → Int32) (kept : Nat → Int32) (chosen : Nat → Int32) (across : Nat → Int32) (sum : Nat → Int32) (one : Nat → Int32) (two : Nat → Int32) (base : Nat → Int32) (quotients : Nat → Int32) (text : Nat → Int32) (numbers : Nat → Int32) (entries : Nat → Int32) (before : Nat → Int32) (a0 : Int32) (res : Nat → Int32) (hf : fX8_does all numbers entries a0 = some res) : Met l yX8_does wsX8_does rm_X8_does (qP D cI cB cR [.ref (ad 0), .int a0] (wM cI ad states whyKind whyOrder many wide textLong spot readColumns all past refused work kept chosen across sum one two base quotients text numbers entries before) sz) (qV D (wM cI ad states whyKind whyOrder many wide textLong spot readColumns all past refused work kept chosen across sum one two base quotients text numbers entries before) (wM cI ad states whyKind whyOrder many wide textLong spot readColumns res past refused work kept chosen across sum one two base quotients text numbers entries before) sz) 0 0 (va_A (wM cI ad states whyKind whyOrder many wide textLong spot readColumns all past refused work kept chosen across sum one two base quotients text numbers entries before) sz) := by
  refine entV (plainFor_of_name (by decide)) rfl (Nat.le_of_ble_eq_true rfl) ?_
  intro p e s m args below meth c Q A ls S hG hP hD hA hl hE
  obtain ⟨hx, hb, hml, hown, hts⟩ := S
  have hown : s.vm.findClass RX8 = some m.cls := hown
  have hS : va_S A s.heap s.heap [] := va_S.rf
  have hl : lv_has ls 4 [(0, .ref (ad 0)), (1, .int a0)] := hl
  have hq := hf
  unfold fX8_does at hq
  obtain ⟨H, hH⟩ : ∃ H, H = s.heap := ⟨_, rfl⟩
  obtain ⟨locs, hlo⟩ : ∃ L : List Loc, L = [] := ⟨_, rfl⟩
  have hP : va_P D cls9 (wM cI ad states whyKind whyOrder many wide textLong spot readColumns all past refused work kept chosen across sum one two base quotients text numbers entries before) H := hH ▸ hP
  have hS : va_S A s.heap H locs := by rw [hH, hlo]; exact hS
  suffices hg : W p l e rm_X8_does s m args below meth c H locs 0 0 Q (F0 m 0 ls []) by rw [hH, hlo] at hg; exact hg
  refine lv_aload_n hx hb dX8_does_0 rfl (lv_at hl 0 rfl) ?_
  refine va_get (D := D) (ci := 8) (v := .ref (ad 14)) (C := RX8) (T := TX8) (N := 24) hx hb hts iX8_does_X8 hown hG.1 hP 0 rfl rfl 20 (by decide) (hts _ fX8_does_1) (fun _ h9 => h9) rfl dX8_does_1 ?_
  refine lv_iconst (v := 0) hx hb dX8_does_4 (by decide) ?_
  obtain ⟨h_1, hq⟩ := gd_s hq
  refine va_iald hx hb hG.1 hP 14 0 rfl rfl h_1 dX8_does_5 ?_
  refine lv_istore_n (lv' := [(2, .int (numbers (0 : Int32).toNatClampNeg)), (0, .ref (ad 0)), (1, .int a0)]) hx hb dX8_does_6 rfl hl (by decide) rfl (fun ls hl => ?_)
  refine lv_iload_n hx hb dX8_does_7 rfl (lv_at hl 2 rfl) ?_
  refine lv_bipush (v := 112) hx hb dX8_does_8 (by decide) ?_
  obtain ⟨v1, hj1, hk1⟩ := bd2_s hq
  have hJ1 : ∀ (j_34 : Int32) (j_35 : Nat → Int32), v1 = (j_34, j_35) → ∀ (H : Heap) (locs : List Loc), va_P D cls9 (wM cI ad states whyKind whyOrder many wide textLong spot readColumns j_35 past refused work kept chosen across sum one two base quotients text numbers entries before) H → va_D A (wM cI ad states whyKind whyOrder many wide textLong spot readColumns j_35 past refused work kept chosen across sum one two base quotients text numbers entries before) → va_S A s.heap H locs → ∀ (ls : Array Slot), lv_has ls 4 [] → W p l e rm_X8_does s m args below meth c H locs 0 0 Q (F0 m 99 ls [.int j_34]) := by
    intro j_34 j_35 hq H locs hP hD hS ls hl
    have hq := hk1 _ _ hq
    refine lv_istore_n (lv' := [(3, .int j_34)]) hx hb dX8_does_99 rfl hl (by decide) rfl (fun ls hl => ?_)
    have he := Option.some.inj hq
    subst he
    exact hE H locs _ _ dX8_does_100 hP hD hS
  refine lv_icmp_ne (tgt := 21) hx hb dX8_does_10 (by decide) (fun c_2 => ?_) (fun c_2 => ?_)
  · have hj1 := it_f c_2 hj1
    refine lv_iload_n hx hb dX8_does_21 rfl (lv_at hl 2 rfl) ?_
    refine lv_bipush (v := 99) hx hb dX8_does_22 (by decide) ?_
    refine lv_icmp_ne (tgt := 35) hx hb dX8_does_24 (by decide) (fun c_3 => ?_) (fun c_3 => ?_)
    · have hj1 := it_f c_3 hj1
      refine lv_iload_n hx hb dX8_does_35 rfl (lv_at hl 2 rfl) ?_
      refine lv_bipush (v := 114) hx hb dX8_does_36 (by decide) ?_
      refine lv_icmp_ne (tgt := 48) hx hb dX8_does_38 (by decide) (fun c_4 => ?_) (fun c_4 => ?_)
      · have hj1 := it_f c_4 hj1
        refine lv_iload_n hx hb dX8_does_48 rfl (lv_at hl 2 rfl) ?_
        refine lv_bipush (v := 120) hx hb dX8_does_49 (by decide) ?_
        refine lv_icmp_ne (tgt := 62) hx hb dX8_does_51 (by decide) (fun c_5 => ?_) (fun c_5 => ?_)
        · have hj1 := it_f c_5 hj1
          refine lv_iload_n hx hb dX8_does_62 rfl (lv_at hl 2 rfl) ?_
          refine lv_bipush (v := 115) hx hb dX8_does_63 (by decide) ?_
          refine lv_icmp_ne (tgt := 94) hx hb dX8_does_65 (by decide) (fun c_6 => ?_) (fun c_6 => ?_)
          · have hj1 := it_f c_6 hj1
            refine lv_aload_n hx hb dX8_does_94 rfl (lv_at hl 1 rfl) ?_
            refine lv_iload_n hx hb dX8_does_95 rfl (lv_at hl 0 rfl) ?_
            obtain ⟨v_10, hq_9, hk⟩ := bd2_s hj1
            obtain ⟨r_7, u_8⟩ := v_10
            have hj1 := hk _ _ rfl
            refine callIA (gV (rest := []) ⟨hx, hb, hml, hown, hts⟩ hG hP hD 0 8 rfl rfl (mtX8_monicNow l D cI cB cR ad H.size states whyKind whyOrder many wide textLong spot readColumns all past refused work kept chosen across sum one two base quotients text numbers entries before (numbers (0 : Int32).toNatClampNeg) (r_7, u_8) hq_9) (cwV 1 hts gX8_does_X8_monicNow rfl rfl rfl ⟨rfl, hd_X8_monicNow⟩ ⟨Nat.le_of_ble_eq_true rfl, Nat.le_of_ble_eq_true rfl⟩) rfl hl.1 rfl (Nat.le_of_ble_eq_true rfl) dX8_does_96) hD hS hA (fun H locs hP hD hS => ?_)
            have hP : va_P D cls9 (wM cI ad states whyKind whyOrder many wide textLong spot readColumns u_8 past refused work kept chosen across sum one two base quotients text numbers entries before) H := hP
            have hD : va_D A (wM cI ad states whyKind whyOrder many wide textLong spot readColumns u_8 past refused work kept chosen across sum one two base quotients text numbers entries before) := hD
            exact hJ1 r_7 u_8 (Option.some.inj hj1).symm  H locs hP hD hS ls (lv_sub hl [] rfl)
          · have hj1 := it_t c_6 hj1
            refine lv_aload_n hx hb dX8_does_68 rfl (lv_at hl 1 rfl) ?_
            refine lv_iload_n hx hb dX8_does_69 rfl (lv_at hl 0 rfl) ?_
            refine lv_aload_n hx hb dX8_does_70 rfl (lv_at hl 1 rfl) ?_
            refine va_get (D := D) (ci := 8) (v := .ref (ad 14)) (C := RX8) (T := TX8) (N := 24) hx hb hts iX8_does_X8 hown hG.1 hP 0 rfl rfl 20 (by decide) (hts _ fX8_does_1) (fun _ h9 => h9) rfl dX8_does_71 ?_
            refine lv_iconst (v := 1) hx hb dX8_does_74 (by decide) ?_
            obtain ⟨h_11, hj1⟩ := gd_s hj1
            refine va_iald hx hb hG.1 hP 14 0 rfl rfl h_11 dX8_does_75 ?_
            refine lv_aload_n hx hb dX8_does_76 rfl (lv_at hl 1 rfl) ?_
            refine va_get (D := D) (ci := 8) (v := .ref (ad 14)) (C := RX8) (T := TX8) (N := 24) hx hb hts iX8_does_X8 hown hG.1 hP 0 rfl rfl 20 (by decide) (hts _ fX8_does_1) (fun _ h9 => h9) rfl dX8_does_77 ?_
            refine lv_iconst (v := 2) hx hb dX8_does_80 (by decide) ?_
            obtain ⟨h_12, hj1⟩ := gd_s hj1
            refine va_iald hx hb hG.1 hP 14 0 rfl rfl h_12 dX8_does_81 ?_
            refine lv_aload_n hx hb dX8_does_82 rfl (lv_at hl 1 rfl) ?_
            refine va_get (D := D) (ci := 8) (v := .ref (ad 14)) (C := RX8) (T := TX8) (N := 24) hx hb hts iX8_does_X8 hown hG.1 hP 0 rfl rfl 20 (by decide) (hts _ fX8_does_1) (fun _ h9 => h9) rfl dX8_does_83 ?_
            refine lv_iconst (v := 3) hx hb dX8_does_86 (by decide) ?_
            obtain ⟨h_13, hj1⟩ := gd_s hj1
            refine va_iald hx hb hG.1 hP 14 0 rfl rfl h_13 dX8_does_87 ?_
            obtain ⟨v_17, hq_16, hk⟩ := bd2_s hj1
            obtain ⟨r_14, u_15⟩ := v_17
            have hj1 := hk _ _ rfl
            refine callIA (gV (rest := []) ⟨hx, hb, hml, hown, hts⟩ hG hP hD 0 8 rfl rfl (mtX8_stepNow l D cI cB cR ad H.size states whyKind whyOrder many wide textLong spot readColumns all past refused work kept chosen across sum one two base quotients text numbers entries before (numbers (0 : Int32).toNatClampNeg) (numbers (1 : Int32).toNatClampNeg) (numbers (2 : Int32).toNatClampNeg) (numbers (3 : Int32).toNatClampNeg) (r_14, u_15) hq_16) (cwV 4 hts gX8_does_X8_stepNow rfl rfl rfl ⟨rfl, hd_X8_stepNow⟩ ⟨Nat.le_of_ble_eq_true rfl, Nat.le_of_ble_eq_true rfl⟩) rfl hl.1 rfl (Nat.le_of_ble_eq_true rfl) dX8_does_88) hD hS hA (fun H locs hP hD hS => ?_)
            have hP : va_P D cls9 (wM cI ad states whyKind whyOrder many wide textLong spot readColumns u_15 past refused work kept chosen across sum one two base quotients text numbers entries before) H := hP
            have hD : va_D A (wM cI ad states whyKind whyOrder many wide textLong spot readColumns u_15 past refused work kept chosen across sum one two base quotients text numbers entries before) := hD
            refine lv_goto (tgt := 99) hx hb dX8_does_91 (by decide) ?_
            exact hJ1 r_14 u_15 (Option.some.inj hj1).symm  H locs hP hD hS ls (lv_sub hl [] rfl)
        · have hj1 := it_t c_5 hj1
          refine lv_aload_n hx hb dX8_does_54 rfl (lv_at hl 1 rfl) ?_
          refine lv_iload_n hx hb dX8_does_55 rfl (lv_at hl 0 rfl) ?_
          obtain ⟨v_21, hq_20, hk⟩ := bd2_s hj1
          obtain ⟨r_18, u_19⟩ := v_21
          have hj1 := hk _ _ rfl
          refine callIA (gV (rest := []) ⟨hx, hb, hml, hown, hts⟩ hG hP hD 0 8 rfl rfl (mtX8_dropNow l D cI cB cR ad H.size states whyKind whyOrder many wide textLong spot readColumns all past refused work kept chosen across sum one two base quotients text numbers entries before (numbers (0 : Int32).toNatClampNeg) (r_18, u_19) hq_20) (cwV 1 hts gX8_does_X8_dropNow rfl rfl rfl ⟨rfl, hd_X8_dropNow⟩ ⟨Nat.le_of_ble_eq_true rfl, Nat.le_of_ble_eq_true rfl⟩) rfl hl.1 rfl (Nat.le_of_ble_eq_true rfl) dX8_does_56) hD hS hA (fun H locs hP hD hS => ?_)
          have hP : va_P D cls9 (wM cI ad states whyKind whyOrder many wide textLong spot readColumns u_19 past refused work kept chosen across sum one two base quotients text numbers entries before) H := hP
          have hD : va_D A (wM cI ad states whyKind whyOrder many wide textLong spot readColumns u_19 past refused work kept chosen across sum one two base quotients text numbers entries before) := hD
          refine lv_goto (tgt := 99) hx hb dX8_does_59 (by decide) ?_
          exact hJ1 r_18 u_19 (Option.some.inj hj1).symm  H locs hP hD hS ls (lv_sub hl [] rfl)
      · have hj1 := it_t c_4 hj1
        refine lv_aload_n hx hb dX8_does_41 rfl (lv_at hl 1 rfl) ?_
        obtain ⟨v_25, hq_24, hk⟩ := bd2_s hj1
        obtain ⟨r_22, u_23⟩ := v_25
        have hj1 := hk _ _ rfl
        refine callIA (gV (rest := []) ⟨hx, hb, hml, hown, hts⟩ hG hP hD 0 8 rfl rfl (mtX8_laysRow l D cI cB cR ad H.size states whyKind whyOrder many wide textLong spot readColumns all past refused work kept chosen across sum one two base quotients text numbers entries before (r_22, u_23) hq_24) (cwV 0 hts gX8_does_X8_laysRow rfl rfl rfl ⟨rfl, hd_X8_laysRow⟩ ⟨Nat.le_of_ble_eq_true rfl, Nat.le_of_ble_eq_true rfl⟩) rfl hl.1 rfl (Nat.le_of_ble_eq_true rfl) dX8_does_42) hD hS hA (fun H locs hP hD hS => ?_)
        have hP : va_P D cls9 (wM cI ad states whyKind whyOrder many wide textLong spot readColumns u_23 past refused work kept chosen across sum one two base quotients text numbers entries before) H := hP
        have hD : va_D A (wM cI ad states whyKind whyOrder many wide textLong spot readColumns u_23 past refused work kept chosen across sum one two base quotients text numbers entries before) := hD
        refine lv_goto (tgt := 99) hx hb dX8_does_45 (by decide) ?_
        exact hJ1 r_22 u_23 (Option.some.inj hj1).symm  H locs hP hD hS ls (lv_sub hl [] rfl)
    · have hj1 := it_t c_3 hj1
      refine lv_aload_n hx hb dX8_does_27 rfl (lv_at hl 1 rfl) ?_
      refine lv_iload_n hx hb dX8_does_28 rfl (lv_at hl 0 rfl) ?_
      obtain ⟨v_29, hq_28, hk⟩ := bd2_s hj1
      obtain ⟨r_26, u_27⟩ := v_29
      have hj1 := hk _ _ rfl
      refine callIA (gV (rest := []) ⟨hx, hb, hml, hown, hts⟩ hG hP hD 0 8 rfl rfl (mtX8_columnsNow l D cI cB cR ad H.size states whyKind whyOrder many wide textLong spot readColumns all past refused work kept chosen across sum one two base quotients text numbers entries before (numbers (0 : Int32).toNatClampNeg) (r_26, u_27) hq_28) (cwV 1 hts gX8_does_X8_columnsNow rfl rfl rfl ⟨rfl, hd_X8_columnsNow⟩ ⟨Nat.le_of_ble_eq_true rfl, Nat.le_of_ble_eq_true rfl⟩) rfl hl.1 rfl (Nat.le_of_ble_eq_true rfl) dX8_does_29) hD hS hA (fun H locs hP hD hS => ?_)
      have hP : va_P D cls9 (wM cI ad states whyKind whyOrder many wide textLong spot readColumns u_27 past refused work kept chosen across sum one two base quotients text numbers entries before) H := hP
      have hD : va_D A (wM cI ad states whyKind whyOrder many wide textLong spot readColumns u_27 past refused work kept chosen across sum one two base quotients text numbers entries before) := hD
      refine lv_goto (tgt := 99) hx hb dX8_does_32 (by decide) ?_
      exact hJ1 r_26 u_27 (Option.some.inj hj1).symm  H locs hP hD hS ls (lv_sub hl [] rfl)
  · have hj1 := it_t c_2 hj1
    refine lv_aload_n hx hb dX8_does_13 rfl (lv_at hl 1 rfl) ?_
    refine lv_iload_n hx hb dX8_does_14 rfl (lv_at hl 0 rfl) ?_
    obtain ⟨v_33, hq_32, hk⟩ := bd2_s hj1
    obtain ⟨r_30, u_31⟩ := v_33
    have hj1 := hk _ _ rfl
    refine callIA (gV (rest := []) ⟨hx, hb, hml, hown, hts⟩ hG hP hD 0 8 rfl rfl (mtX8_primeNow l D cI cB cR ad H.size states whyKind whyOrder many wide textLong spot readColumns all past refused work kept chosen across sum one two base quotients text numbers entries before (numbers (0 : Int32).toNatClampNeg) (r_30, u_31) hq_32) (cwV 1 hts gX8_does_X8_primeNow rfl rfl rfl ⟨rfl, hd_X8_primeNow⟩ ⟨Nat.le_of_ble_eq_true rfl, Nat.le_of_ble_eq_true rfl⟩) rfl hl.1 rfl (Nat.le_of_ble_eq_true rfl) dX8_does_15) hD hS hA (fun H locs hP hD hS => ?_)
    have hP : va_P D cls9 (wM cI ad states whyKind whyOrder many wide textLong spot readColumns u_31 past refused work kept chosen across sum one two base quotients text numbers entries before) H := hP
    have hD : va_D A (wM cI ad states whyKind whyOrder many wide textLong spot readColumns u_31 past refused work kept chosen across sum one two base quotients text numbers entries before) := hD
    refine lv_goto (tgt := 99) hx hb dX8_does_18 (by decide) ?_
    exact hJ1 r_30 u_31 (Option.some.inj hj1).symm  H locs hP hD hS ls (lv_sub hl [] rfl)
abbrev rm_X8_isLetter : Room := { frames := 0, cells := 0, slots := 0, locals := 0 }
set_option maxHeartbeats 4000000 in
set_option maxRecDepth 100000 in
theorem mtX8_isLetter (l : Launch) (D : va_G) (cI cB cR : ClassId) (sz : Nat) (a0 : Int32) (res : Int32) (hf : fX8_isLetter a0 = some res) : Met l yX8_isLetter wsX8_isLetter rm_X8_isLetter (qP D cI cB cR [.int a0] ([] : va_W) sz) (qZ D res ([] : va_W) ([] : va_W) sz) 0 0 (va_A ([] : va_W) sz) := by
  refine entZ (plainFor_of_name (by decide)) rfl (Nat.le_of_ble_eq_true rfl) ?_
  intro p e s m args below meth c Q A ls S hG hP hD hA hl hE
  obtain ⟨hx, hb, hml, hown, hts⟩ := S
  have hown : s.vm.findClass RX8 = some m.cls := hown
  have hS : va_S A s.heap s.heap [] := va_S.rf
  have hl : lv_has ls 1 [(0, .int a0)] := hl
  have hq := hf
  unfold fX8_isLetter at hq
  obtain ⟨H, hH⟩ : ∃ H, H = s.heap := ⟨_, rfl⟩
  obtain ⟨locs, hlo⟩ : ∃ L : List Loc, L = [] := ⟨_, rfl⟩
  have hP : va_P D cls9 ([] : va_W) H := hH ▸ hP
  have hS : va_S A s.heap H locs := by rw [hH, hlo]; exact hS
  suffices hg : W p l e rm_X8_isLetter s m args below meth c H locs 0 0 Q (F0 m 0 ls []) by rw [hH, hlo] at hg; exact hg
  refine lv_iload_n hx hb dX8_isLetter_0 rfl (lv_at hl 0 rfl) ?_
  refine lv_bipush (v := 112) hx hb dX8_isLetter_1 (by decide) ?_
  obtain ⟨v1, hj1, hk1⟩ := bd1_s hq
  have hJ1 : ∀ (j_7 : Int32), v1 = j_7 → (j_7 = 0 ∨ j_7 = 1) → ∀ (H : Heap) (locs : List Loc), va_P D cls9 ([] : va_W) H → va_D A ([] : va_W) → va_S A s.heap H locs → ∀ (ls : Array Slot), lv_has ls 1 [] → W p l e rm_X8_isLetter s m args below meth c H locs 0 0 Q (F0 m 41 ls [.int j_7]) := by
    intro j_7 hq zj_7 H locs hP hD hS ls hl
    have hq := hk1 _ hq
    have he := Option.some.inj hq
    subst he
    exact hE H locs _ _ _ rfl zj_7 dX8_isLetter_41 hP hD hS
  refine lv_icmp_eq (tgt := 36) hx hb dX8_isLetter_3 (by decide) (fun c_1 => ?_) (fun c_1 => ?_)
  · have hj1 := it_t c_1 hj1
    refine lv_iconst (v := 1) hx hb dX8_isLetter_36 (by decide) ?_
    refine lv_goto (tgt := 41) hx hb dX8_isLetter_37 (by decide) ?_
    exact hJ1 (1 : Int32) (Option.some.inj hj1).symm (Or.inr rfl) H locs hP hD hS ls (lv_sub hl [] rfl)
  · have hj1 := it_f c_1 hj1
    refine lv_iload_n hx hb dX8_isLetter_6 rfl (lv_at hl 0 rfl) ?_
    refine lv_bipush (v := 99) hx hb dX8_isLetter_7 (by decide) ?_
    refine lv_icmp_eq (tgt := 36) hx hb dX8_isLetter_9 (by decide) (fun c_2 => ?_) (fun c_2 => ?_)
    · have hj1 := it_t c_2 hj1
      refine lv_iconst (v := 1) hx hb dX8_isLetter_36 (by decide) ?_
      refine lv_goto (tgt := 41) hx hb dX8_isLetter_37 (by decide) ?_
      exact hJ1 (1 : Int32) (Option.some.inj hj1).symm (Or.inr rfl) H locs hP hD hS ls (lv_sub hl [] rfl)
    · have hj1 := it_f c_2 hj1
      refine lv_iload_n hx hb dX8_isLetter_12 rfl (lv_at hl 0 rfl) ?_
      refine lv_bipush (v := 114) hx hb dX8_isLetter_13 (by decide) ?_
      refine lv_icmp_eq (tgt := 36) hx hb dX8_isLetter_15 (by decide) (fun c_3 => ?_) (fun c_3 => ?_)
      · have hj1 := it_t c_3 hj1
        refine lv_iconst (v := 1) hx hb dX8_isLetter_36 (by decide) ?_
        refine lv_goto (tgt := 41) hx hb dX8_isLetter_37 (by decide) ?_
        exact hJ1 (1 : Int32) (Option.some.inj hj1).symm (Or.inr rfl) H locs hP hD hS ls (lv_sub hl [] rfl)
      · have hj1 := it_f c_3 hj1
        refine lv_iload_n hx hb dX8_isLetter_18 rfl (lv_at hl 0 rfl) ?_
        refine lv_bipush (v := 120) hx hb dX8_isLetter_19 (by decide) ?_
        refine lv_icmp_eq (tgt := 36) hx hb dX8_isLetter_21 (by decide) (fun c_4 => ?_) (fun c_4 => ?_)
        · have hj1 := it_t c_4 hj1
          refine lv_iconst (v := 1) hx hb dX8_isLetter_36 (by decide) ?_
          refine lv_goto (tgt := 41) hx hb dX8_isLetter_37 (by decide) ?_
          exact hJ1 (1 : Int32) (Option.some.inj hj1).symm (Or.inr rfl) H locs hP hD hS ls (lv_sub hl [] rfl)
        · have hj1 := it_f c_4 hj1
          refine lv_iload_n hx hb dX8_isLetter_24 rfl (lv_at hl 0 rfl) ?_
          refine lv_bipush (v := 115) hx hb dX8_isLetter_25 (by decide) ?_
          refine lv_icmp_eq (tgt := 36) hx hb dX8_isLetter_27 (by decide) (fun c_5 => ?_) (fun c_5 => ?_)
          · have hj1 := it_t c_5 hj1
            refine lv_iconst (v := 1) hx hb dX8_isLetter_36 (by decide) ?_
            refine lv_goto (tgt := 41) hx hb dX8_isLetter_37 (by decide) ?_
            exact hJ1 (1 : Int32) (Option.some.inj hj1).symm (Or.inr rfl) H locs hP hD hS ls (lv_sub hl [] rfl)
          · have hj1 := it_f c_5 hj1
            refine lv_iload_n hx hb dX8_isLetter_30 rfl (lv_at hl 0 rfl) ?_
            refine lv_bipush (v := 109) hx hb dX8_isLetter_31 (by decide) ?_
            refine lv_icmp_ne (tgt := 40) hx hb dX8_isLetter_33 (by decide) (fun c_6 => ?_) (fun c_6 => ?_)
            · have hj1 := it_f c_6 hj1
              refine lv_iconst (v := 0) hx hb dX8_isLetter_40 (by decide) ?_
              exact hJ1 (0 : Int32) (Option.some.inj hj1).symm (Or.inl rfl) H locs hP hD hS ls (lv_sub hl [] rfl)
            · have hj1 := it_t c_6 hj1
              refine lv_iconst (v := 1) hx hb dX8_isLetter_36 (by decide) ?_
              refine lv_goto (tgt := 41) hx hb dX8_isLetter_37 (by decide) ?_
              exact hJ1 (1 : Int32) (Option.some.inj hj1).symm (Or.inr rfl) H locs hP hD hS ls (lv_sub hl [] rfl)
abbrev rm_X8_readsOrder : Room := { frames := 7, cells := 0, slots := 0, locals := 160 }
theorem iX8_readsOrder_X8 : ∀ w ∈ wsX80, w ∈ wsX8_readsOrder := fun _ h => (List.mem_cons_of_mem _ (List.mem_append_right _ h))
theorem fX8_readsOrder_1 : Cond.fieldLink RX8 280 "PopovRowsModel" "spot" "I" ∈ wsX8_readsOrder := (List.mem_cons_of_mem _ (List.mem_append_left _ (List.mem_append_left _ (List.mem_of_getElem? (i := 0) rfl))))
theorem fX8_readsOrder_2 : Cond.fieldLink RX8 317 "PopovRowsModel" "whyKind" "I" ∈ wsX8_readsOrder := (List.mem_cons_of_mem _ (List.mem_append_left _ (List.mem_append_left _ (List.mem_of_getElem? (i := 1) rfl))))
theorem fX8_readsOrder_3 : Cond.fieldLink RX8 19 "PopovRowsModel" "whyOrder" "I" ∈ wsX8_readsOrder := (List.mem_cons_of_mem _ (List.mem_append_left _ (List.mem_append_left _ (List.mem_of_getElem? (i := 2) rfl))))
set_option maxHeartbeats 4000000 in
set_option maxRecDepth 100000 in
theorem mtX8_readsOrder (l : Launch) (D : va_G) (cI cB cR : ClassId) (ad : Nat → Nat) (sz : Nat) (states : Int32) (whyKind : Int32) (whyOrder : Int32) (many : Int32) (wide : Int32) (textLong : Int32) (spot : Int32) (readColumns : Int32) (all : Nat → Int32) (past : Nat → Int32) (refused : Nat → Int32) (work : Nat → Int32) (kept : Nat → Int32) (chosen : Nat → Int32) (across : Nat → Int32) (sum : Nat → Int32) (one : Nat → Int32) (two : Nat → Int32) (base : Nat → Int32) (quotients : Nat → Int32) (text : Nat → Int32) (numbers : Nat → Int32) (entries : Nat → Int32) (before : Nat → Int32) (a0 : Int32) (a1 : Int32) (res : Int32 × Int32 × Int32 × Int32 × Int32 × (Nat → Int32) × (Nat → Int32) × (Nat → Int32)) (hf : fX8_readsOrder whyKind whyOrder textLong spot readColumns all text numbers entries a0 a1 = some res) : Met l yX8_readsOrder wsX8_readsOrder rm_X8_readsOrder (qP D cI cB cR [.ref (ad 0), .int a0, .int a1] (wM cI ad states whyKind whyOrder many wide textLong spot readColumns all past refused work kept chosen across sum one two base quotients text numbers entries before) sz) (qZ D res.1 (wM cI ad states whyKind whyOrder many wide textLong spot readColumns all past refused work kept chosen across sum one two base quotients text numbers entries before) (wM cI ad states res.2.1 res.2.2.1 many wide textLong res.2.2.2.1 res.2.2.2.2.1 res.2.2.2.2.2.1 past refused work kept chosen across sum one two base quotients text res.2.2.2.2.2.2.1 res.2.2.2.2.2.2.2 before) sz) 0 0 (va_A (wM cI ad states whyKind whyOrder many wide textLong spot readColumns all past refused work kept chosen across sum one two base quotients text numbers entries before) sz) := by
  refine entZ (plainFor_of_name (by decide)) rfl (Nat.le_of_ble_eq_true rfl) ?_
  intro p e s m args below meth c Q A ls S hG hP hD hA hl hE
  obtain ⟨hx, hb, hml, hown, hts⟩ := S
  have hown : s.vm.findClass RX8 = some m.cls := hown
  have hS : va_S A s.heap s.heap [] := va_S.rf
  have hl : lv_has ls 5 [(0, .ref (ad 0)), (1, .int a0), (2, .int a1)] := hl
  have hq := hf
  unfold fX8_readsOrder at hq
  obtain ⟨H, hH⟩ : ∃ H, H = s.heap := ⟨_, rfl⟩
  obtain ⟨locs, hlo⟩ : ∃ L : List Loc, L = [] := ⟨_, rfl⟩
  have hP : va_P D cls9 (wM cI ad states whyKind whyOrder many wide textLong spot readColumns all past refused work kept chosen across sum one two base quotients text numbers entries before) H := hH ▸ hP
  have hS : va_S A s.heap H locs := by rw [hH, hlo]; exact hS
  suffices hg : W p l e rm_X8_readsOrder s m args below meth c H locs 0 0 Q (F0 m 0 ls []) by rw [hH, hlo] at hg; exact hg
  refine lv_aload_n hx hb dX8_readsOrder_0 rfl (lv_at hl 0 rfl) ?_
  obtain ⟨v_4, hq_3, hk⟩ := bd2_s hq
  obtain ⟨r_1, u_2⟩ := v_4
  have hq := hk _ _ rfl
  refine callIA (gV (rest := []) ⟨hx, hb, hml, hown, hts⟩ hG hP hD 0 8 rfl rfl (mtX8_here l D cI cB cR ad H.size states whyKind whyOrder many wide textLong spot readColumns all past refused work kept chosen across sum one two base quotients text numbers entries before (r_1, u_2) hq_3) (cwV 0 hts gX8_readsOrder_X8_here rfl rfl rfl ⟨rfl, hd_X8_here⟩ ⟨Nat.le_of_ble_eq_true rfl, Nat.le_of_ble_eq_true rfl⟩) rfl hl.1 rfl (Nat.le_of_ble_eq_true rfl) dX8_readsOrder_1) hD hS hA (fun H locs hP hD hS => ?_)
  have hP : va_P D cls9 (wM cI ad states whyKind whyOrder many wide textLong u_2 readColumns all past refused work kept chosen across sum one two base quotients text numbers entries before) H := hP
  have hD : va_D A (wM cI ad states whyKind whyOrder many wide textLong u_2 readColumns all past refused work kept chosen across sum one two base quotients text numbers entries before) := hD
  refine lv_istore_n (lv' := [(3, .int r_1), (0, .ref (ad 0)), (1, .int a0), (2, .int a1)]) hx hb dX8_readsOrder_4 rfl hl (by decide) rfl (fun ls hl => ?_)
  refine lv_iload_n hx hb dX8_readsOrder_5 rfl (lv_at hl 0 rfl) ?_
  obtain ⟨v_7, hq_6, hk⟩ := bd1_s hq
  obtain ⟨r_5, rfl⟩ : ∃ y, y = v_7 := ⟨_, rfl⟩
  have hq := hk _ rfl
  refine callZ0 (gS (rest := []) ⟨hx, hb, hml, hown, hts⟩ hG vaP0 (vaD0 (A := A)) (mtX8_isLetter l D cI cB cR H.size r_1 r_5 hq_6) (va_cwS 1 hts gX8_readsOrder_X8_isLetter rfl rfl rfl hd_X8_isLetter ⟨Nat.le_of_ble_eq_true rfl, Nat.le_of_ble_eq_true rfl⟩) rfl hl.1 rfl (Nat.le_of_ble_eq_true rfl) dX8_readsOrder_6) hP hS hA (fun H locs z_8 hP hS => ?_)
  refine lv_if_ne (tgt := 14) hx hb dX8_readsOrder_9 (by decide) (fun c_9 => ?_) (fun c_9 => ?_)
  · have hq := it_f c_9 hq
    refine lv_aload_n hx hb dX8_readsOrder_14 rfl (lv_at hl 1 rfl) ?_
    refine lv_dup hx hb dX8_readsOrder_15 rfl ?_
    refine va_get (D := D) (ci := 8) (v := .int u_2) (C := RX8) (T := TX8) (N := 24) hx hb hts iX8_readsOrder_X8 hown hG.1 hP 0 rfl rfl 19 (by decide) (hts _ fX8_readsOrder_1) (fun _ h9 => h9) rfl dX8_readsOrder_16 ?_
    refine lv_iconst (v := 1) hx hb dX8_readsOrder_19 (by decide) ?_
    refine lv_iadd hx hb dX8_readsOrder_20 ?_
    refine va_put (D := D) (ci := 8) (v := .int (u_2 + (1 : Int32))) (ty := .int) (C := RX8) (T := TX8) (N := 24) hx hb hts iX8_readsOrder_X8 tyX8 tyX8_ok nmX8 hown hG.1 hP hD hS 0 rfl rfl 19 (by decide) (hts _ fX8_readsOrder_1) (fun _ h9 => h9) rfl (by decide +kernel) rfl rfl (Nat.le_of_ble_eq_true rfl) dX8_readsOrder_21 (fun H locs hP hD hS => ?_)
    have hP : va_P D cls9 (wM cI ad states whyKind whyOrder many wide textLong (u_2 + (1 : Int32)) readColumns all past refused work kept chosen across sum one two base quotients text numbers entries before) H := hP
    have hD : va_D A (wM cI ad states whyKind whyOrder many wide textLong (u_2 + (1 : Int32)) readColumns all past refused work kept chosen across sum one two base quotients text numbers entries before) := hD
    refine lv_aload_n hx hb dX8_readsOrder_24 rfl (lv_at hl 1 rfl) ?_
    refine lv_iload_n hx hb dX8_readsOrder_25 rfl (lv_at hl 0 rfl) ?_
    obtain ⟨v_16, hq_15, hk⟩ := bd5_s hq
    obtain ⟨r_10, u_11, u_12, u_13, u_14⟩ := v_16
    have hq := hk _ _ _ _ _ rfl
    refine callZA (gV (rest := []) ⟨hx, hb, hml, hown, hts⟩ hG hP hD 0 8 rfl rfl (mtX8_takesRest l D cI cB cR ad H.size states whyKind whyOrder many wide textLong (u_2 + (1 : Int32)) readColumns all past refused work kept chosen across sum one two base quotients text numbers entries before r_1 (r_10, u_11, u_12, u_13, u_14) hq_15) (cwV 1 hts gX8_readsOrder_X8_takesRest rfl rfl rfl ⟨rfl, hd_X8_takesRest⟩ ⟨Nat.le_of_ble_eq_true rfl, Nat.le_of_ble_eq_true rfl⟩) rfl hl.1 rfl (Nat.le_of_ble_eq_true rfl) dX8_readsOrder_26) hD hS hA (fun H locs z_17 hP hD hS => ?_)
    have hP : va_P D cls9 (wM cI ad states whyKind whyOrder many wide textLong u_11 u_12 all past refused work kept chosen across sum one two base quotients text u_13 u_14 before) H := hP
    have hD : va_D A (wM cI ad states whyKind whyOrder many wide textLong u_11 u_12 all past refused work kept chosen across sum one two base quotients text u_13 u_14 before) := hD
    refine lv_if_eq (tgt := 41) hx hb dX8_readsOrder_29 (by decide) (fun c_18 => ?_) (fun c_18 => ?_)
    · have hq := it_t c_18 hq
      refine lv_iconst (v := 0) hx hb dX8_readsOrder_41 (by decide) ?_
      have he := Option.some.inj hq
      subst he
      exact hE H locs _ _ _ rfl (Or.inl rfl) dX8_readsOrder_42 hP hD hS
    · have hq := it_f c_18 hq
      refine lv_aload_n hx hb dX8_readsOrder_32 rfl (lv_at hl 1 rfl) ?_
      obtain ⟨v_22, hq_21, hk⟩ := bd2_s hq
      obtain ⟨r_19, u_20⟩ := v_22
      have hq := hk _ _ rfl
      refine callIA (gV (rest := []) ⟨hx, hb, hml, hown, hts⟩ hG hP hD 0 8 rfl rfl (mtX8_here l D cI cB cR ad H.size states whyKind whyOrder many wide textLong u_11 u_12 all past refused work kept chosen across sum one two base quotients text u_13 u_14 before (r_19, u_20) hq_21) (cwV 0 hts gX8_readsOrder_X8_here rfl rfl rfl ⟨rfl, hd_X8_here⟩ ⟨Nat.le_of_ble_eq_true rfl, Nat.le_of_ble_eq_true rfl⟩) rfl hl.1 rfl (Nat.le_of_ble_eq_true rfl) dX8_readsOrder_33) hD hS hA (fun H locs hP hD hS => ?_)
      have hP : va_P D cls9 (wM cI ad states whyKind whyOrder many wide textLong u_20 u_12 all past refused work kept chosen across sum one two base quotients text u_13 u_14 before) H := hP
      have hD : va_D A (wM cI ad states whyKind whyOrder many wide textLong u_20 u_12 all past refused work kept chosen across sum one two base quotients text u_13 u_14 before) := hD
      refine lv_bipush (v := 59) hx hb dX8_readsOrder_36 (by decide) ?_
      refine lv_icmp_eq (tgt := 43) hx hb dX8_readsOrder_38 (by decide) (fun c_23 => ?_) (fun c_23 => ?_)
      · have hq := it_t c_23 hq
        refine lv_aload_n hx hb dX8_readsOrder_43 rfl (lv_at hl 1 rfl) ?_
        refine lv_dup hx hb dX8_readsOrder_44 rfl ?_
        refine va_get (D := D) (ci := 8) (v := .int u_20) (C := RX8) (T := TX8) (N := 24) hx hb hts iX8_readsOrder_X8 hown hG.1 hP 0 rfl rfl 19 (by decide) (hts _ fX8_readsOrder_1) (fun _ h9 => h9) rfl dX8_readsOrder_45 ?_
        refine lv_iconst (v := 1) hx hb dX8_readsOrder_48 (by decide) ?_
        refine lv_iadd hx hb dX8_readsOrder_49 ?_
        refine va_put (D := D) (ci := 8) (v := .int (u_20 + (1 : Int32))) (ty := .int) (C := RX8) (T := TX8) (N := 24) hx hb hts iX8_readsOrder_X8 tyX8 tyX8_ok nmX8 hown hG.1 hP hD hS 0 rfl rfl 19 (by decide) (hts _ fX8_readsOrder_1) (fun _ h9 => h9) rfl (by decide +kernel) rfl rfl (Nat.le_of_ble_eq_true rfl) dX8_readsOrder_50 (fun H locs hP hD hS => ?_)
        have hP : va_P D cls9 (wM cI ad states whyKind whyOrder many wide textLong (u_20 + (1 : Int32)) u_12 all past refused work kept chosen across sum one two base quotients text u_13 u_14 before) H := hP
        have hD : va_D A (wM cI ad states whyKind whyOrder many wide textLong (u_20 + (1 : Int32)) u_12 all past refused work kept chosen across sum one two base quotients text u_13 u_14 before) := hD
        refine lv_iload_n hx hb dX8_readsOrder_53 rfl (lv_at hl 3 rfl) ?_
        refine lv_if_ne (tgt := 59) hx hb dX8_readsOrder_54 (by decide) (fun c_24 => ?_) (fun c_24 => ?_)
        · have hq := it_f c_24 hq
          refine lv_aload_n hx hb dX8_readsOrder_59 rfl (lv_at hl 1 rfl) ?_
          refine lv_iload_n hx hb dX8_readsOrder_60 rfl (lv_at hl 0 rfl) ?_
          obtain ⟨v_27, hq_26, hk⟩ := bd1_s hq
          obtain ⟨r_25, rfl⟩ : ∃ y, y = v_27 := ⟨_, rfl⟩
          have hq := hk _ rfl
          refine callIA (gV (rest := []) ⟨hx, hb, hml, hown, hts⟩ hG hP hD 0 8 rfl rfl (mtX8_can l D cI cB cR ad H.size states whyKind whyOrder many wide textLong (u_20 + (1 : Int32)) u_12 all past refused work kept chosen across sum one two base quotients text u_13 u_14 before r_1 r_25 hq_26) (cwV 1 hts gX8_readsOrder_X8_can rfl rfl rfl ⟨rfl, hd_X8_can⟩ ⟨Nat.le_of_ble_eq_true rfl, Nat.le_of_ble_eq_true rfl⟩) rfl hl.1 rfl (Nat.le_of_ble_eq_true rfl) dX8_readsOrder_61) hD hS hA (fun H locs hP hD hS => ?_)
          have hP : va_P D cls9 (wM cI ad states whyKind whyOrder many wide textLong (u_20 + (1 : Int32)) u_12 all past refused work kept chosen across sum one two base quotients text u_13 u_14 before) H := hP
          have hD : va_D A (wM cI ad states whyKind whyOrder many wide textLong (u_20 + (1 : Int32)) u_12 all past refused work kept chosen across sum one two base quotients text u_13 u_14 before) := hD
          refine lv_istore (lv' := [(4, .int r_25), (3, .int r_1), (0, .ref (ad 0)), (1, .int a0), (2, .int a1)]) hx hb dX8_readsOrder_64 hl (by decide) rfl (fun ls hl => ?_)
          refine lv_iload hx hb dX8_readsOrder_66 (lv_at hl 0 rfl) ?_
          refine lv_if_ge (tgt := 85) hx hb dX8_readsOrder_68 (by decide) (fun c_28 => ?_) (fun c_28 => ?_)
          · have hq := it_t c_28 hq
            refine lv_aload_n hx hb dX8_readsOrder_85 rfl (lv_at hl 2 rfl) ?_
            refine lv_iload_n hx hb dX8_readsOrder_86 rfl (lv_at hl 1 rfl) ?_
            obtain ⟨v_31, hq_30, hk⟩ := bd1_s hq
            obtain ⟨u_29, rfl⟩ : ∃ y, y = v_31 := ⟨_, rfl⟩
            have hq := hk _ rfl
            refine callVA (gV (rest := []) ⟨hx, hb, hml, hown, hts⟩ hG hP hD 0 8 rfl rfl (mtX8_does l D cI cB cR ad H.size states whyKind whyOrder many wide textLong (u_20 + (1 : Int32)) u_12 all past refused work kept chosen across sum one two base quotients text u_13 u_14 before r_1 u_29 hq_30) (cwV 1 hts gX8_readsOrder_X8_does rfl rfl rfl ⟨rfl, hd_X8_does⟩ ⟨Nat.le_of_ble_eq_true rfl, Nat.le_of_ble_eq_true rfl⟩) rfl hl.1 rfl (Nat.le_of_ble_eq_true rfl) dX8_readsOrder_87) hD hS hA (fun H locs hP hD hS => ?_)
            have hP : va_P D cls9 (wM cI ad states whyKind whyOrder many wide textLong (u_20 + (1 : Int32)) u_12 u_29 past refused work kept chosen across sum one two base quotients text u_13 u_14 before) H := hP
            have hD : va_D A (wM cI ad states whyKind whyOrder many wide textLong (u_20 + (1 : Int32)) u_12 u_29 past refused work kept chosen across sum one two base quotients text u_13 u_14 before) := hD
            refine lv_iconst (v := 1) hx hb dX8_readsOrder_90 (by decide) ?_
            have he := Option.some.inj hq
            subst he
            exact hE H locs _ _ _ rfl (Or.inr rfl) dX8_readsOrder_91 hP hD hS
          · have hq := it_f c_28 hq
            refine lv_aload_n hx hb dX8_readsOrder_71 rfl (lv_at hl 2 rfl) ?_
            refine lv_iload hx hb dX8_readsOrder_72 (lv_at hl 0 rfl) ?_
            refine lv_ineg hx hb dX8_readsOrder_74 ?_
            refine va_put (D := D) (ci := 8) (v := .int (-r_25)) (ty := .int) (C := RX8) (T := TX8) (N := 24) hx hb hts iX8_readsOrder_X8 tyX8 tyX8_ok nmX8 hown hG.1 hP hD hS 0 rfl rfl 4 (by decide) (hts _ fX8_readsOrder_2) (fun _ h9 => h9) rfl (by decide +kernel) rfl rfl (Nat.le_of_ble_eq_true rfl) dX8_readsOrder_75 (fun H locs hP hD hS => ?_)
            have hP : va_P D cls9 (wM cI ad states (-r_25) whyOrder many wide textLong (u_20 + (1 : Int32)) u_12 all past refused work kept chosen across sum one two base quotients text u_13 u_14 before) H := hP
            have hD : va_D A (wM cI ad states (-r_25) whyOrder many wide textLong (u_20 + (1 : Int32)) u_12 all past refused work kept chosen across sum one two base quotients text u_13 u_14 before) := hD
            refine lv_aload_n hx hb dX8_readsOrder_78 rfl (lv_at hl 2 rfl) ?_
            refine lv_iload_n hx hb dX8_readsOrder_79 rfl (lv_at hl 3 rfl) ?_
            refine va_put (D := D) (ci := 8) (v := .int a0) (ty := .int) (C := RX8) (T := TX8) (N := 24) hx hb hts iX8_readsOrder_X8 tyX8 tyX8_ok nmX8 hown hG.1 hP hD hS 0 rfl rfl 5 (by decide) (hts _ fX8_readsOrder_3) (fun _ h9 => h9) rfl (by decide +kernel) rfl rfl (Nat.le_of_ble_eq_true rfl) dX8_readsOrder_80 (fun H locs hP hD hS => ?_)
            have hP : va_P D cls9 (wM cI ad states (-r_25) a0 many wide textLong (u_20 + (1 : Int32)) u_12 all past refused work kept chosen across sum one two base quotients text u_13 u_14 before) H := hP
            have hD : va_D A (wM cI ad states (-r_25) a0 many wide textLong (u_20 + (1 : Int32)) u_12 all past refused work kept chosen across sum one two base quotients text u_13 u_14 before) := hD
            refine lv_iconst (v := 0) hx hb dX8_readsOrder_83 (by decide) ?_
            have he := Option.some.inj hq
            subst he
            exact hE H locs _ _ _ rfl (Or.inl rfl) dX8_readsOrder_84 hP hD hS
        · have hq := it_t c_24 hq
          refine lv_iconst (v := 1) hx hb dX8_readsOrder_57 (by decide) ?_
          have he := Option.some.inj hq
          subst he
          exact hE H locs _ _ _ rfl (Or.inr rfl) dX8_readsOrder_58 hP hD hS
      · have hq := it_f c_23 hq
        refine lv_iconst (v := 0) hx hb dX8_readsOrder_41 (by decide) ?_
        have he := Option.some.inj hq
        subst he
        exact hE H locs _ _ _ rfl (Or.inl rfl) dX8_readsOrder_42 hP hD hS
  · have hq := it_t c_9 hq
    refine lv_iconst (v := 0) hx hb dX8_readsOrder_12 (by decide) ?_
    have he := Option.some.inj hq
    subst he
    exact hE H locs _ _ _ rfl (Or.inl rfl) dX8_readsOrder_13 hP hD hS
abbrev rm_X8_swaps : Room := { frames := 0, cells := 0, slots := 0, locals := 0 }
theorem iX8_swaps_X8 : ∀ w ∈ wsX80, w ∈ wsX8_swaps := fun _ h => (List.mem_cons_of_mem _ (List.mem_append_right _ h))
theorem fX8_swaps_1 : Cond.fieldLink RX8 7 "PopovRowsModel" "all" "[I" ∈ wsX8_swaps := (List.mem_cons_of_mem _ (List.mem_append_left _ (List.mem_of_getElem? (i := 0) rfl)))
theorem fX8_swaps_2 : Cond.fieldLink RX8 59 "PopovRowsModel" "before" "[I" ∈ wsX8_swaps := (List.mem_cons_of_mem _ (List.mem_append_left _ (List.mem_of_getElem? (i := 1) rfl)))
set_option maxHeartbeats 4000000 in
set_option maxRecDepth 100000 in
theorem mtX8_swaps (l : Launch) (D : va_G) (cI cB cR : ClassId) (ad : Nat → Nat) (sz : Nat) (states : Int32) (whyKind : Int32) (whyOrder : Int32) (many : Int32) (wide : Int32) (textLong : Int32) (spot : Int32) (readColumns : Int32) (all : Nat → Int32) (past : Nat → Int32) (refused : Nat → Int32) (work : Nat → Int32) (kept : Nat → Int32) (chosen : Nat → Int32) (across : Nat → Int32) (sum : Nat → Int32) (one : Nat → Int32) (two : Nat → Int32) (base : Nat → Int32) (quotients : Nat → Int32) (text : Nat → Int32) (numbers : Nat → Int32) (entries : Nat → Int32) (before : Nat → Int32) (res : (Nat → Int32) × (Nat → Int32)) (hf : fX8_swaps all before = some res) : Met l yX8_swaps wsX8_swaps rm_X8_swaps (qP D cI cB cR [.ref (ad 0)] (wM cI ad states whyKind whyOrder many wide textLong spot readColumns all past refused work kept chosen across sum one two base quotients text numbers entries before) sz) (qV D (wM cI ad states whyKind whyOrder many wide textLong spot readColumns all past refused work kept chosen across sum one two base quotients text numbers entries before) (wM cI ad states whyKind whyOrder many wide textLong spot readColumns res.1 past refused work kept chosen across sum one two base quotients text numbers entries res.2) sz) 0 0 (va_A (wM cI ad states whyKind whyOrder many wide textLong spot readColumns all past refused work kept chosen across sum one two base quotients text numbers entries before) sz) := by
  refine entV (plainFor_of_name (by decide)) rfl (Nat.le_of_ble_eq_true rfl) ?_
  intro p e s m args below meth c Q A ls S hG hP hD hA hl hE
  obtain ⟨hx, hb, hml, hown, hts⟩ := S
  have hown : s.vm.findClass RX8 = some m.cls := hown
  have hS : va_S A s.heap s.heap [] := va_S.rf
  have hl : lv_has ls 3 [(0, .ref (ad 0))] := hl
  have hq := hf
  unfold fX8_swaps at hq
  obtain ⟨H, hH⟩ : ∃ H, H = s.heap := ⟨_, rfl⟩
  obtain ⟨locs, hlo⟩ : ∃ L : List Loc, L = [] := ⟨_, rfl⟩
  have hP : va_P D cls9 (wM cI ad states whyKind whyOrder many wide textLong spot readColumns all past refused work kept chosen across sum one two base quotients text numbers entries before) H := hH ▸ hP
  have hS : va_S A s.heap H locs := by rw [hH, hlo]; exact hS
  suffices hg : W p l e rm_X8_swaps s m args below meth c H locs 0 0 Q (F0 m 0 ls []) by rw [hH, hlo] at hg; exact hg
  refine lv_iconst (v := 0) hx hb dX8_swaps_0 (by decide) ?_
  refine lv_istore_n (lv' := [(1, .int (0 : Int32)), (0, .ref (ad 0))]) hx hb dX8_swaps_1 rfl hl (by decide) rfl (fun ls hl => ?_)
  obtain ⟨w1, hw1, hk1⟩ := bd2_s hq
  have hX1 : ∀ (x_9 : Nat → Int32) (x_10 : Nat → Int32), w1 = (x_9, x_10) → ∀ (H : Heap) (locs : List Loc), va_P D cls9 (wM cI ad states whyKind whyOrder many wide textLong spot readColumns x_9 past refused work kept chosen across sum one two base quotients text numbers entries x_10) H → va_D A (wM cI ad states whyKind whyOrder many wide textLong spot readColumns x_9 past refused work kept chosen across sum one two base quotients text numbers entries x_10) → va_S A s.heap H locs → ∀ (ls : Array Slot), lv_has ls 3 [] → W p l e rm_X8_swaps s m args below meth c H locs 0 0 Q (F0 m 40 ls []) := by
    intro x_9 x_10 hq H locs hP hD hS ls hl
    have hq := hk1 _ _ hq
    have he := Option.some.inj hq
    subst he
    exact hE H locs _ _ dX8_swaps_40 hP hD hS
  have hL1 : ∀ (n : Nat) (i_1 : Int32) (i_2 : Nat → Int32) (i_3 : Nat → Int32), lrun (fun (z : Int32 × (Nat → Int32) × (Nat → Int32)) => fX8_swaps_s2 z.1 z.2.1 z.2.2) n (i_1, i_2, i_3) = some w1 → ∀ (H : Heap) (locs : List Loc), va_P D cls9 (wM cI ad states whyKind whyOrder many wide textLong spot readColumns i_2 past refused work kept chosen across sum one two base quotients text numbers entries i_3) H → va_D A (wM cI ad states whyKind whyOrder many wide textLong spot readColumns i_2 past refused work kept chosen across sum one two base quotients text numbers entries i_3) → va_S A s.heap H locs → ∀ (ls : Array Slot), lv_has ls 3 [(0, .ref (ad 0)), (1, .int i_1)] → W p l e rm_X8_swaps s m args below meth c H locs 0 0 Q (F0 m 2 ls []) := by
    intro n
    induction n with
    | zero => intro i_1 i_2 i_3 h; cases h
    | succ n ih1 =>
      intro i_1 i_2 i_3 hr1 H locs hP hD hS ls hl
      obtain ⟨k, v1, hk, hr1, ht1, hv1⟩ := lrun_s hr1
      cases hk
      have hr1 : fX8_swaps_s2 i_1 i_2 i_3 = some v1 := hr1
      unfold fX8_swaps_s2 at hr1
      refine lv_iload_n hx hb dX8_swaps_2 rfl (lv_at hl 1 rfl) ?_
      refine lv_bipush (v := 108) hx hb dX8_swaps_3 (by decide) ?_
      refine lv_icmp_ge (tgt := 40) hx hb dX8_swaps_5 (by decide) (fun c_4 => ?_) (fun c_4 => ?_)
      · have hr1 := it_t c_4 hr1
        exact hX1 i_2 i_3 (hv1 _ (Option.some.inj hr1).symm).symm H locs hP hD hS ls (lv_sub hl [] rfl)
      · have hr1 := it_f c_4 hr1
        refine lv_aload_n hx hb dX8_swaps_8 rfl (lv_at hl 0 rfl) ?_
        refine va_get (D := D) (ci := 8) (v := .ref (ad 1)) (C := RX8) (T := TX8) (N := 24) hx hb hts iX8_swaps_X8 hown hG.1 hP 0 rfl rfl 0 (by decide) (hts _ fX8_swaps_1) (fun _ h9 => h9) rfl dX8_swaps_9 ?_
        refine lv_iload_n hx hb dX8_swaps_12 rfl (lv_at hl 1 rfl) ?_
        obtain ⟨h_5, hr1⟩ := gd_s hr1
        refine va_iald hx hb hG.1 hP 1 0 rfl rfl h_5 dX8_swaps_13 ?_
        refine lv_istore_n (lv' := [(2, .int (i_2 i_1.toNatClampNeg)), (0, .ref (ad 0)), (1, .int i_1)]) hx hb dX8_swaps_14 rfl hl (by decide) rfl (fun ls hl => ?_)
        refine lv_aload_n hx hb dX8_swaps_15 rfl (lv_at hl 1 rfl) ?_
        refine va_get (D := D) (ci := 8) (v := .ref (ad 1)) (C := RX8) (T := TX8) (N := 24) hx hb hts iX8_swaps_X8 hown hG.1 hP 0 rfl rfl 0 (by decide) (hts _ fX8_swaps_1) (fun _ h9 => h9) rfl dX8_swaps_16 ?_
        refine lv_iload_n hx hb dX8_swaps_19 rfl (lv_at hl 2 rfl) ?_
        refine lv_aload_n hx hb dX8_swaps_20 rfl (lv_at hl 1 rfl) ?_
        refine va_get (D := D) (ci := 8) (v := .ref (ad 16)) (C := RX8) (T := TX8) (N := 24) hx hb hts iX8_swaps_X8 hown hG.1 hP 0 rfl rfl 23 (by decide) (hts _ fX8_swaps_2) (fun _ h9 => h9) rfl dX8_swaps_21 ?_
        refine lv_iload_n hx hb dX8_swaps_24 rfl (lv_at hl 2 rfl) ?_
        obtain ⟨h_6, hr1⟩ := gd_s hr1
        refine va_iald hx hb hG.1 hP 16 0 rfl rfl h_6 dX8_swaps_25 ?_
        obtain ⟨h_7, hr1⟩ := gd_s hr1
        refine va_iast hx hb hG.1 hP hD hS 1 0 rfl rfl h_7 dX8_swaps_26 (fun H locs hP hD hS => ?_)
        have hP : va_P D cls9 (wM cI ad states whyKind whyOrder many wide textLong spot readColumns (upd i_2 i_1.toNatClampNeg (i_3 i_1.toNatClampNeg)) past refused work kept chosen across sum one two base quotients text numbers entries i_3) H := hP
        have hD : va_D A (wM cI ad states whyKind whyOrder many wide textLong spot readColumns (upd i_2 i_1.toNatClampNeg (i_3 i_1.toNatClampNeg)) past refused work kept chosen across sum one two base quotients text numbers entries i_3) := hD
        refine lv_aload_n hx hb dX8_swaps_27 rfl (lv_at hl 1 rfl) ?_
        refine va_get (D := D) (ci := 8) (v := .ref (ad 16)) (C := RX8) (T := TX8) (N := 24) hx hb hts iX8_swaps_X8 hown hG.1 hP 0 rfl rfl 23 (by decide) (hts _ fX8_swaps_2) (fun _ h9 => h9) rfl dX8_swaps_28 ?_
        refine lv_iload_n hx hb dX8_swaps_31 rfl (lv_at hl 2 rfl) ?_
        refine lv_iload_n hx hb dX8_swaps_32 rfl (lv_at hl 0 rfl) ?_
        obtain ⟨h_8, hr1⟩ := gd_s hr1
        refine va_iast hx hb hG.1 hP hD hS 16 0 rfl rfl h_8 dX8_swaps_33 (fun H locs hP hD hS => ?_)
        have hP : va_P D cls9 (wM cI ad states whyKind whyOrder many wide textLong spot readColumns (upd i_2 i_1.toNatClampNeg (i_3 i_1.toNatClampNeg)) past refused work kept chosen across sum one two base quotients text numbers entries (upd i_3 i_1.toNatClampNeg (i_2 i_1.toNatClampNeg))) H := hP
        have hD : va_D A (wM cI ad states whyKind whyOrder many wide textLong spot readColumns (upd i_2 i_1.toNatClampNeg (i_3 i_1.toNatClampNeg)) past refused work kept chosen across sum one two base quotients text numbers entries (upd i_3 i_1.toNatClampNeg (i_2 i_1.toNatClampNeg))) := hD
        refine lv_iinc (v := (i_1 + 1)) (lv' := [(1, .int (i_1 + 1)), (2, .int (i_2 i_1.toNatClampNeg)), (0, .ref (ad 0))]) hx hb dX8_swaps_34 hl (k := 2) rfl rfl (by decide) rfl (fun ls hl => ?_)
        refine lv_goto (tgt := 2) hx hb dX8_swaps_37 (by decide) ?_
        exact ih1 (i_1 + 1) (upd i_2 i_1.toNatClampNeg (i_3 i_1.toNatClampNeg)) (upd i_3 i_1.toNatClampNeg (i_2 i_1.toNatClampNeg)) (ht1 _ (Option.some.inj hr1).symm) H locs hP hD hS ls (lv_sub hl [2, 0] rfl)
  obtain ⟨n1, hn1⟩ := Lp_s hw1
  exact hL1 n1 (0 : Int32) all before hn1 H locs hP hD hS ls (lv_sub hl [1, 0] rfl)
