abbrev rm_X8_reads : Room := { frames := 8, cells := 0, slots := 0, locals := 184 }
theorem iX8_reads_X8 : ∀ w ∈ wsX80, w ∈ wsX8_reads := fun _ h => (List.mem_cons_of_mem _ (List.mem_append_right _ h))
theorem fX8_reads_1 : Cond.fieldLink RX8 280 "PopovRowsModel" "spot" "I" ∈ wsX8_reads := (List.mem_cons_of_mem _ (List.mem_append_left _ (List.mem_append_left _ (List.mem_of_getElem? (i := 0) rfl))))
theorem fX8_reads_2 : Cond.fieldLink RX8 293 "PopovRowsModel" "readColumns" "I" ∈ wsX8_reads := (List.mem_cons_of_mem _ (List.mem_append_left _ (List.mem_append_left _ (List.mem_of_getElem? (i := 1) rfl))))
theorem fX8_reads_3 : Cond.fieldLink RX8 59 "PopovRowsModel" "before" "[I" ∈ wsX8_reads := (List.mem_cons_of_mem _ (List.mem_append_left _ (List.mem_append_left _ (List.mem_of_getElem? (i := 2) rfl))))
theorem fX8_reads_4 : Cond.fieldLink RX8 7 "PopovRowsModel" "all" "[I" ∈ wsX8_reads := (List.mem_cons_of_mem _ (List.mem_append_left _ (List.mem_append_left _ (List.mem_of_getElem? (i := 3) rfl))))
set_option maxHeartbeats 4000000 in
set_option maxRecDepth 100000 in
theorem mtX8_reads (l : Launch) (D : va_G) (cI cB cR : ClassId) (ad : Nat → Nat) (sz : Nat) (states : Int32) (whyKind : Int32) (whyOrder : Int32) (many : Int32) (wide : Int32) (textLong : Int32) (spot : Int32) (readColumns : Int32) (all : Nat → Int32) (past : Nat → Int32) (refused : Nat → Int32) (work : Nat → Int32) (kept : Nat → Int32) (chosen : Nat → Int32) (across : Nat → Int32) (sum : Nat → Int32) (one : Nat → Int32) (two : Nat → Int32) (base : Nat → Int32) (quotients : Nat → Int32) (text : Nat → Int32) (numbers : Nat → Int32) (entries : Nat → Int32) (before : Nat → Int32) (res : Int32 × Int32 × Int32 × Int32 × Int32 × Int32 × (Nat → Int32) × (Nat → Int32) × (Nat → Int32) × (Nat → Int32) × (Nat → Int32)) (hf : fX8_reads states whyKind whyOrder textLong all past text numbers entries before = some res) : Met l yX8_reads wsX8_reads rm_X8_reads (qP D cI cB cR [.ref (ad 0)] (wM cI ad states whyKind whyOrder many wide textLong spot readColumns all past refused work kept chosen across sum one two base quotients text numbers entries before) sz) (qI D res.1 (wM cI ad states whyKind whyOrder many wide textLong spot readColumns all past refused work kept chosen across sum one two base quotients text numbers entries before) (wM cI ad res.2.1 res.2.2.1 res.2.2.2.1 many wide textLong res.2.2.2.2.1 res.2.2.2.2.2.1 res.2.2.2.2.2.2.1 res.2.2.2.2.2.2.2.1 refused work kept chosen across sum one two base quotients text res.2.2.2.2.2.2.2.2.1 res.2.2.2.2.2.2.2.2.2.1 res.2.2.2.2.2.2.2.2.2.2) sz) 0 0 (va_A (wM cI ad states whyKind whyOrder many wide textLong spot readColumns all past refused work kept chosen across sum one two base quotients text numbers entries before) sz) := by
  refine entI (plainFor_of_name (by decide)) rfl (Nat.le_of_ble_eq_true rfl) ?_
  intro p e s m args below meth c Q A ls S hG hP hD hA hl hE
  obtain ⟨hx, hb, hml, hown, hts⟩ := S
  have hown : s.vm.findClass RX8 = some m.cls := hown
  have hS : va_S A s.heap s.heap [] := va_S.rf
  have hl : lv_has ls 3 [(0, .ref (ad 0))] := hl
  have hq := hf
  unfold fX8_reads at hq
  obtain ⟨H, hH⟩ : ∃ H, H = s.heap := ⟨_, rfl⟩
  obtain ⟨locs, hlo⟩ : ∃ L : List Loc, L = [] := ⟨_, rfl⟩
  have hP : va_P D cls9 (wM cI ad states whyKind whyOrder many wide textLong spot readColumns all past refused work kept chosen across sum one two base quotients text numbers entries before) H := hH ▸ hP
  have hS : va_S A s.heap H locs := by rw [hH, hlo]; exact hS
  suffices hg : W p l e rm_X8_reads s m args below meth c H locs 0 0 Q (F0 m 0 ls []) by rw [hH, hlo] at hg; exact hg
  refine lv_aload_n hx hb dX8_reads_0 rfl (lv_at hl 0 rfl) ?_
  refine lv_iconst (v := 0) hx hb dX8_reads_1 (by decide) ?_
  refine va_put (D := D) (ci := 8) (v := .int (0 : Int32)) (ty := .int) (C := RX8) (T := TX8) (N := 24) hx hb hts iX8_reads_X8 tyX8 tyX8_ok nmX8 hown hG.1 hP hD hS 0 rfl rfl 19 (by decide) (hts _ fX8_reads_1) (fun _ h9 => h9) rfl (by decide +kernel) rfl rfl (Nat.le_of_ble_eq_true rfl) dX8_reads_2 (fun H locs hP hD hS => ?_)
  have hP : va_P D cls9 (wM cI ad states whyKind whyOrder many wide textLong (0 : Int32) readColumns all past refused work kept chosen across sum one two base quotients text numbers entries before) H := hP
  have hD : va_D A (wM cI ad states whyKind whyOrder many wide textLong (0 : Int32) readColumns all past refused work kept chosen across sum one two base quotients text numbers entries before) := hD
  refine lv_aload_n hx hb dX8_reads_5 rfl (lv_at hl 0 rfl) ?_
  refine lv_aload_n hx hb dX8_reads_6 rfl (lv_at hl 0 rfl) ?_
  obtain ⟨v_3, hq_2, hk⟩ := bd1_s hq
  obtain ⟨r_1, rfl⟩ : ∃ y, y = v_3 := ⟨_, rfl⟩
  have hq := hk _ rfl
  refine callIA (gV (rest := [.ref (ad 0)]) ⟨hx, hb, hml, hown, hts⟩ hG hP hD 0 8 rfl rfl (mtX8_width l D cI cB cR ad H.size states whyKind whyOrder many wide textLong (0 : Int32) readColumns all past refused work kept chosen across sum one two base quotients text numbers entries before r_1 hq_2) (cwV 0 hts gX8_reads_X8_width rfl rfl rfl ⟨rfl, hd_X8_width⟩ ⟨Nat.le_of_ble_eq_true rfl, Nat.le_of_ble_eq_true rfl⟩) rfl hl.1 rfl (Nat.le_of_ble_eq_true rfl) dX8_reads_7) hD hS hA (fun H locs hP hD hS => ?_)
  have hP : va_P D cls9 (wM cI ad states whyKind whyOrder many wide textLong (0 : Int32) readColumns all past refused work kept chosen across sum one two base quotients text numbers entries before) H := hP
  have hD : va_D A (wM cI ad states whyKind whyOrder many wide textLong (0 : Int32) readColumns all past refused work kept chosen across sum one two base quotients text numbers entries before) := hD
  refine va_put (D := D) (ci := 8) (v := .int r_1) (ty := .int) (C := RX8) (T := TX8) (N := 24) hx hb hts iX8_reads_X8 tyX8 tyX8_ok nmX8 hown hG.1 hP hD hS 0 rfl rfl 22 (by decide) (hts _ fX8_reads_2) (fun _ h9 => h9) rfl (by decide +kernel) rfl rfl (Nat.le_of_ble_eq_true rfl) dX8_reads_10 (fun H locs hP hD hS => ?_)
  have hP : va_P D cls9 (wM cI ad states whyKind whyOrder many wide textLong (0 : Int32) r_1 all past refused work kept chosen across sum one two base quotients text numbers entries before) H := hP
  have hD : va_D A (wM cI ad states whyKind whyOrder many wide textLong (0 : Int32) r_1 all past refused work kept chosen across sum one two base quotients text numbers entries before) := hD
  refine lv_aload_n hx hb dX8_reads_13 rfl (lv_at hl 0 rfl) ?_
  refine lv_iconst (v := 0) hx hb dX8_reads_14 (by decide) ?_
  refine lv_iconst (v := 0) hx hb dX8_reads_15 (by decide) ?_
  obtain ⟨v_13, hq_12, hk⟩ := bd8_s hq
  obtain ⟨r_4, u_5, u_6, u_7, u_8, u_9, u_10, u_11⟩ := v_13
  have hq := hk _ _ _ _ _ _ _ _ rfl
  refine callZA (gV (rest := []) ⟨hx, hb, hml, hown, hts⟩ hG hP hD 0 8 rfl rfl (mtX8_readsOrder l D cI cB cR ad H.size states whyKind whyOrder many wide textLong (0 : Int32) r_1 all past refused work kept chosen across sum one two base quotients text numbers entries before (0 : Int32) (0 : Int32) (r_4, u_5, u_6, u_7, u_8, u_9, u_10, u_11) hq_12) (cwV 2 hts gX8_reads_X8_readsOrder rfl rfl rfl ⟨rfl, hd_X8_readsOrder⟩ ⟨Nat.le_of_ble_eq_true rfl, Nat.le_of_ble_eq_true rfl⟩) rfl hl.1 rfl (Nat.le_of_ble_eq_true rfl) dX8_reads_16) hD hS hA (fun H locs z_14 hP hD hS => ?_)
  have hP : va_P D cls9 (wM cI ad states u_5 u_6 many wide textLong u_7 u_8 u_9 past refused work kept chosen across sum one two base quotients text u_10 u_11 before) H := hP
  have hD : va_D A (wM cI ad states u_5 u_6 many wide textLong u_7 u_8 u_9 past refused work kept chosen across sum one two base quotients text u_10 u_11 before) := hD
  refine lv_istore_n (lv' := [(1, .int r_4), (0, .ref (ad 0))]) hx hb dX8_reads_19 rfl hl (by decide) rfl (fun ls hl => ?_)
  obtain ⟨w1, hw1, hk1⟩ := bd8_s hq
  have hX1 : ∀ (x_40 : Int32) (x_41 : Nat → Int32) (x_42 : Nat → Int32) (x_43 : Nat → Int32) (x_44 : Int32) (x_45 : Int32) (x_46 : Int32) (x_47 : Int32), w1 = (x_40, x_41, x_42, x_43, x_44, x_45, x_46, x_47) → ∀ (H : Heap) (locs : List Loc), va_P D cls9 (wM cI ad states x_46 x_47 many wide textLong x_45 x_44 x_41 past refused work kept chosen across sum one two base quotients text x_43 x_42 before) H → va_D A (wM cI ad states x_46 x_47 many wide textLong x_45 x_44 x_41 past refused work kept chosen across sum one two base quotients text x_43 x_42 before) → va_S A s.heap H locs → ∀ (ls : Array Slot), lv_has ls 3 [(0, .ref (ad 0)), (1, .int x_40)] → W p l e rm_X8_reads s m args below meth c H locs 0 0 Q (F0 m 42 ls []) := by
    intro x_40 x_41 x_42 x_43 x_44 x_45 x_46 x_47 hq H locs hP hD hS ls hl
    have hq := hk1 _ _ _ _ _ _ _ _ hq
    refine lv_iload_n hx hb dX8_reads_42 rfl (lv_at hl 1 rfl) ?_
    refine lv_if_ne (tgt := 54) hx hb dX8_reads_43 (by decide) (fun c_48 => ?_) (fun c_48 => ?_)
    · have hq := it_f c_48 hq
      refine lv_iconst (v := 0) hx hb dX8_reads_54 (by decide) ?_
      refine lv_istore_n (lv' := [(2, .int (0 : Int32)), (0, .ref (ad 0)), (1, .int x_40)]) hx hb dX8_reads_55 rfl hl (by decide) rfl (fun ls hl => ?_)
      obtain ⟨w2, hw2, hk2⟩ := bd1_s hq
      have hX2 : ∀ (x_54 : Nat → Int32), w2 = x_54 → ∀ (H : Heap) (locs : List Loc), va_P D cls9 (wM cI ad states x_46 x_47 many wide textLong x_45 x_44 x_41 past refused work kept chosen across sum one two base quotients text x_43 x_42 x_54) H → va_D A (wM cI ad states x_46 x_47 many wide textLong x_45 x_44 x_41 past refused work kept chosen across sum one two base quotients text x_43 x_42 x_54) → va_S A s.heap H locs → ∀ (ls : Array Slot), lv_has ls 3 [(0, .ref (ad 0))] → W p l e rm_X8_reads s m args below meth c H locs 0 0 Q (F0 m 80 ls []) := by
        intro x_54 hq H locs hP hD hS ls hl
        have hq := hk2 _ hq
        refine lv_iconst (v := 0) hx hb dX8_reads_80 (by decide) ?_
        refine lv_istore_n (lv' := [(2, .int (0 : Int32)), (0, .ref (ad 0))]) hx hb dX8_reads_81 rfl hl (by decide) rfl (fun ls hl => ?_)
        refine lv_aload_n hx hb dX8_reads_82 rfl (lv_at hl 1 rfl) ?_
        refine lv_iconst (v := 0) hx hb dX8_reads_83 (by decide) ?_
        refine va_put (D := D) (ci := 8) (v := .int (0 : Int32)) (ty := .int) (C := RX8) (T := TX8) (N := 24) hx hb hts iX8_reads_X8 tyX8 tyX8_ok nmX8 hown hG.1 hP hD hS 0 rfl rfl 19 (by decide) (hts _ fX8_reads_1) (fun _ h9 => h9) rfl (by decide +kernel) rfl rfl (Nat.le_of_ble_eq_true rfl) dX8_reads_84 (fun H locs hP hD hS => ?_)
        have hP : va_P D cls9 (wM cI ad states x_46 x_47 many wide textLong (0 : Int32) x_44 x_41 past refused work kept chosen across sum one two base quotients text x_43 x_42 x_54) H := hP
        have hD : va_D A (wM cI ad states x_46 x_47 many wide textLong (0 : Int32) x_44 x_41 past refused work kept chosen across sum one two base quotients text x_43 x_42 x_54) := hD
        refine lv_aload_n hx hb dX8_reads_87 rfl (lv_at hl 1 rfl) ?_
        refine lv_aload_n hx hb dX8_reads_88 rfl (lv_at hl 1 rfl) ?_
        obtain ⟨v_57, hq_56, hk⟩ := bd1_s hq
        obtain ⟨r_55, rfl⟩ : ∃ y, y = v_57 := ⟨_, rfl⟩
        have hq := hk _ rfl
        refine callIA (gV (rest := [.ref (ad 0)]) ⟨hx, hb, hml, hown, hts⟩ hG hP hD 0 8 rfl rfl (mtX8_width l D cI cB cR ad H.size states x_46 x_47 many wide textLong (0 : Int32) x_44 x_41 past refused work kept chosen across sum one two base quotients text x_43 x_42 x_54 r_55 hq_56) (cwV 0 hts gX8_reads_X8_width rfl rfl rfl ⟨rfl, hd_X8_width⟩ ⟨Nat.le_of_ble_eq_true rfl, Nat.le_of_ble_eq_true rfl⟩) rfl hl.1 rfl (Nat.le_of_ble_eq_true rfl) dX8_reads_89) hD hS hA (fun H locs hP hD hS => ?_)
        have hP : va_P D cls9 (wM cI ad states x_46 x_47 many wide textLong (0 : Int32) x_44 x_41 past refused work kept chosen across sum one two base quotients text x_43 x_42 x_54) H := hP
        have hD : va_D A (wM cI ad states x_46 x_47 many wide textLong (0 : Int32) x_44 x_41 past refused work kept chosen across sum one two base quotients text x_43 x_42 x_54) := hD
        refine va_put (D := D) (ci := 8) (v := .int r_55) (ty := .int) (C := RX8) (T := TX8) (N := 24) hx hb hts iX8_reads_X8 tyX8 tyX8_ok nmX8 hown hG.1 hP hD hS 0 rfl rfl 22 (by decide) (hts _ fX8_reads_2) (fun _ h9 => h9) rfl (by decide +kernel) rfl rfl (Nat.le_of_ble_eq_true rfl) dX8_reads_92 (fun H locs hP hD hS => ?_)
        have hP : va_P D cls9 (wM cI ad states x_46 x_47 many wide textLong (0 : Int32) r_55 x_41 past refused work kept chosen across sum one two base quotients text x_43 x_42 x_54) H := hP
        have hD : va_D A (wM cI ad states x_46 x_47 many wide textLong (0 : Int32) r_55 x_41 past refused work kept chosen across sum one two base quotients text x_43 x_42 x_54) := hD
        obtain ⟨w3, hw3, hk3, hO3⟩ := bx8_s hq
        have hX3 : ∀ (x_87 : Int32) (x_88 : Nat → Int32) (x_89 : Nat → Int32) (x_90 : Nat → Int32) (x_91 : Int32) (x_92 : Int32) (x_93 : Int32) (x_94 : Int32), w3 = .inl (x_87, x_88, x_89, x_90, x_91, x_92, x_93, x_94) → ∀ (H : Heap) (locs : List Loc), va_P D cls9 (wM cI ad states x_93 x_94 many wide textLong x_92 x_91 x_88 past refused work kept chosen across sum one two base quotients text x_90 x_89 x_54) H → va_D A (wM cI ad states x_93 x_94 many wide textLong x_92 x_91 x_88 past refused work kept chosen across sum one two base quotients text x_90 x_89 x_54) → va_S A s.heap H locs → ∀ (ls : Array Slot), lv_has ls 3 [(0, .ref (ad 0)), (2, .int x_87)] → W p l e rm_X8_reads s m args below meth c H locs 0 0 Q (F0 m 128 ls []) := by
          intro x_87 x_88 x_89 x_90 x_91 x_92 x_93 x_94 hq H locs hP hD hS ls hl
          have hq := hk3 _ _ _ _ _ _ _ _ hq
          refine lv_aload_n hx hb dX8_reads_128 rfl (lv_at hl 0 rfl) ?_
          obtain ⟨v_98, hq_97, hk⟩ := bd2_s hq
          obtain ⟨u_95, u_96⟩ := v_98
          have hq := hk _ _ rfl
          refine callVA (gV (rest := []) ⟨hx, hb, hml, hown, hts⟩ hG hP hD 0 8 rfl rfl (mtX8_swaps l D cI cB cR ad H.size states x_93 x_94 many wide textLong x_92 x_91 x_88 past refused work kept chosen across sum one two base quotients text x_90 x_89 x_54 (u_95, u_96) hq_97) (cwV 0 hts gX8_reads_X8_swaps rfl rfl rfl ⟨rfl, hd_X8_swaps⟩ ⟨Nat.le_of_ble_eq_true rfl, Nat.le_of_ble_eq_true rfl⟩) rfl hl.1 rfl (Nat.le_of_ble_eq_true rfl) dX8_reads_129) hD hS hA (fun H locs hP hD hS => ?_)
          have hP : va_P D cls9 (wM cI ad states x_93 x_94 many wide textLong x_92 x_91 u_95 past refused work kept chosen across sum one two base quotients text x_90 x_89 u_96) H := hP
          have hD : va_D A (wM cI ad states x_93 x_94 many wide textLong x_92 x_91 u_95 past refused work kept chosen across sum one two base quotients text x_90 x_89 u_96) := hD
          refine lv_aload_n hx hb dX8_reads_132 rfl (lv_at hl 0 rfl) ?_
          obtain ⟨v_102, hq_101, hk⟩ := bd2_s hq
          obtain ⟨u_99, u_100⟩ := v_102
          have hq := hk _ _ rfl
          refine callVA (gV (rest := []) ⟨hx, hb, hml, hown, hts⟩ hG hP hD 0 8 rfl rfl (mtX8_keep l D cI cB cR ad H.size states x_93 x_94 many wide textLong x_92 x_91 u_95 past refused work kept chosen across sum one two base quotients text x_90 x_89 u_96 (u_99, u_100) hq_101) (cwV 0 hts gX8_reads_X8_keep rfl rfl rfl ⟨rfl, hd_X8_keep⟩ ⟨Nat.le_of_ble_eq_true rfl, Nat.le_of_ble_eq_true rfl⟩) rfl hl.1 rfl (Nat.le_of_ble_eq_true rfl) dX8_reads_133) hD hS hA (fun H locs hP hD hS => ?_)
          have hP : va_P D cls9 (wM cI ad u_99 x_93 x_94 many wide textLong x_92 x_91 u_95 u_100 refused work kept chosen across sum one two base quotients text x_90 x_89 u_96) H := hP
          have hD : va_D A (wM cI ad u_99 x_93 x_94 many wide textLong x_92 x_91 u_95 u_100 refused work kept chosen across sum one two base quotients text x_90 x_89 u_96) := hD
          refine lv_aload_n hx hb dX8_reads_136 rfl (lv_at hl 0 rfl) ?_
          obtain ⟨v_106, hq_105, hk⟩ := bd2_s hq
          obtain ⟨u_103, u_104⟩ := v_106
          have hq := hk _ _ rfl
          refine callVA (gV (rest := []) ⟨hx, hb, hml, hown, hts⟩ hG hP hD 0 8 rfl rfl (mtX8_swaps l D cI cB cR ad H.size u_99 x_93 x_94 many wide textLong x_92 x_91 u_95 u_100 refused work kept chosen across sum one two base quotients text x_90 x_89 u_96 (u_103, u_104) hq_105) (cwV 0 hts gX8_reads_X8_swaps rfl rfl rfl ⟨rfl, hd_X8_swaps⟩ ⟨Nat.le_of_ble_eq_true rfl, Nat.le_of_ble_eq_true rfl⟩) rfl hl.1 rfl (Nat.le_of_ble_eq_true rfl) dX8_reads_137) hD hS hA (fun H locs hP hD hS => ?_)
          have hP : va_P D cls9 (wM cI ad u_99 x_93 x_94 many wide textLong x_92 x_91 u_103 u_100 refused work kept chosen across sum one two base quotients text x_90 x_89 u_104) H := hP
          have hD : va_D A (wM cI ad u_99 x_93 x_94 many wide textLong x_92 x_91 u_103 u_100 refused work kept chosen across sum one two base quotients text x_90 x_89 u_104) := hD
          refine lv_iload_n hx hb dX8_reads_140 rfl (lv_at hl 1 rfl) ?_
          have he := Option.some.inj hq
          subst he
          exact hE H locs _ _ _ rfl dX8_reads_141 hP hD hS
        have hL3 : ∀ (n : Nat) (i_58 : Int32) (i_59 : Nat → Int32) (i_60 : Nat → Int32) (i_61 : Nat → Int32) (i_62 : Int32) (i_63 : Int32) (i_64 : Int32) (i_65 : Int32), lrun (fun (z : Int32 × (Nat → Int32) × (Nat → Int32) × (Nat → Int32) × Int32 × Int32 × Int32 × Int32) => fX8_reads_s95 states textLong past text x_54 z.1 z.2.1 z.2.2.1 z.2.2.2.1 z.2.2.2.2.1 z.2.2.2.2.2.1 z.2.2.2.2.2.2.1 z.2.2.2.2.2.2.2) n (i_58, i_59, i_60, i_61, i_62, i_63, i_64, i_65) = some w3 → ∀ (H : Heap) (locs : List Loc), va_P D cls9 (wM cI ad states i_64 i_65 many wide textLong i_63 i_62 i_59 past refused work kept chosen across sum one two base quotients text i_61 i_60 x_54) H → va_D A (wM cI ad states i_64 i_65 many wide textLong i_63 i_62 i_59 past refused work kept chosen across sum one two base quotients text i_61 i_60 x_54) → va_S A s.heap H locs → ∀ (ls : Array Slot), lv_has ls 3 [(0, .ref (ad 0)), (2, .int i_58)] → W p l e rm_X8_reads s m args below meth c H locs 0 0 Q (F0 m 95 ls []) := by
          intro n
          induction n with
          | zero => intro i_58 i_59 i_60 i_61 i_62 i_63 i_64 i_65 h; cases h
          | succ n ih3 =>
            intro i_58 i_59 i_60 i_61 i_62 i_63 i_64 i_65 hr3 H locs hP hD hS ls hl
            obtain ⟨k, v3, hk, hr3, ht3, hv3⟩ := lrun_s hr3
            cases hk
            have hr3 : fX8_reads_s95 states textLong past text x_54 i_58 i_59 i_60 i_61 i_62 i_63 i_64 i_65 = some v3 := hr3
            unfold fX8_reads_s95 at hr3
            refine lv_aload_n hx hb dX8_reads_95 rfl (lv_at hl 0 rfl) ?_
            obtain ⟨v_69, hq_68, hk⟩ := bd2_s hr3
            obtain ⟨r_66, u_67⟩ := v_69
            have hr3 := hk _ _ rfl
            refine callIA (gV (rest := []) ⟨hx, hb, hml, hown, hts⟩ hG hP hD 0 8 rfl rfl (mtX8_here l D cI cB cR ad H.size states i_64 i_65 many wide textLong i_63 i_62 i_59 past refused work kept chosen across sum one two base quotients text i_61 i_60 x_54 (r_66, u_67) hq_68) (cwV 0 hts gX8_reads_X8_here rfl rfl rfl ⟨rfl, hd_X8_here⟩ ⟨Nat.le_of_ble_eq_true rfl, Nat.le_of_ble_eq_true rfl⟩) rfl hl.1 rfl (Nat.le_of_ble_eq_true rfl) dX8_reads_96) hD hS hA (fun H locs hP hD hS => ?_)
            have hP : va_P D cls9 (wM cI ad states i_64 i_65 many wide textLong u_67 i_62 i_59 past refused work kept chosen across sum one two base quotients text i_61 i_60 x_54) H := hP
            have hD : va_D A (wM cI ad states i_64 i_65 many wide textLong u_67 i_62 i_59 past refused work kept chosen across sum one two base quotients text i_61 i_60 x_54) := hD
            refine lv_iconst (v := -1) hx hb dX8_reads_99 (by decide) ?_
            refine lv_icmp_eq (tgt := 128) hx hb dX8_reads_100 (by decide) (fun c_70 => ?_) (fun c_70 => ?_)
            · have hr3 := it_t c_70 hr3
              exact hX3 i_58 i_59 i_60 i_61 i_62 u_67 i_64 i_65 (hv3 _ (Option.some.inj hr3).symm).symm H locs hP hD hS ls (lv_sub hl [0, 1] rfl)
            · have hr3 := it_f c_70 hr3
              refine lv_aload_n hx hb dX8_reads_103 rfl (lv_at hl 0 rfl) ?_
              refine lv_iload_n hx hb dX8_reads_104 rfl (lv_at hl 1 rfl) ?_
              refine lv_iconst (v := 1) hx hb dX8_reads_105 (by decide) ?_
              obtain ⟨v_80, hq_79, hk⟩ := bd8_s hr3
              obtain ⟨r_71, u_72, u_73, u_74, u_75, u_76, u_77, u_78⟩ := v_80
              have hr3 := hk _ _ _ _ _ _ _ _ rfl
              refine callZA (gV (rest := []) ⟨hx, hb, hml, hown, hts⟩ hG hP hD 0 8 rfl rfl (mtX8_readsOrder l D cI cB cR ad H.size states i_64 i_65 many wide textLong u_67 i_62 i_59 past refused work kept chosen across sum one two base quotients text i_61 i_60 x_54 i_58 (1 : Int32) (r_71, u_72, u_73, u_74, u_75, u_76, u_77, u_78) hq_79) (cwV 2 hts gX8_reads_X8_readsOrder rfl rfl rfl ⟨rfl, hd_X8_readsOrder⟩ ⟨Nat.le_of_ble_eq_true rfl, Nat.le_of_ble_eq_true rfl⟩) rfl hl.1 rfl (Nat.le_of_ble_eq_true rfl) dX8_reads_106) hD hS hA (fun H locs z_81 hP hD hS => ?_)
              have hP : va_P D cls9 (wM cI ad states u_72 u_73 many wide textLong u_74 u_75 u_76 past refused work kept chosen across sum one two base quotients text u_77 u_78 x_54) H := hP
              have hD : va_D A (wM cI ad states u_72 u_73 many wide textLong u_74 u_75 u_76 past refused work kept chosen across sum one two base quotients text u_77 u_78 x_54) := hD
              refine lv_if_ne (tgt := 122) hx hb dX8_reads_109 (by decide) (fun c_82 => ?_) (fun c_82 => ?_)
              · have hr3 := it_f c_82 hr3
                refine lv_iinc (v := (i_58 + 1)) (lv' := [(2, .int (i_58 + 1)), (0, .ref (ad 0))]) hx hb dX8_reads_122 hl (k := 1) rfl rfl (by decide) rfl (fun ls hl => ?_)
                refine lv_goto (tgt := 95) hx hb dX8_reads_125 (by decide) ?_
                exact ih3 (i_58 + 1) u_76 u_78 u_77 u_75 u_74 u_72 u_73 (ht3 _ (Option.some.inj hr3).symm) H locs hP hD hS ls (lv_sub hl [1, 0] rfl)
              · have hr3 := it_t c_82 hr3
                refine lv_aload_n hx hb dX8_reads_112 rfl (lv_at hl 0 rfl) ?_
                obtain ⟨v_86, hq_85, hk⟩ := bd2_s hr3
                obtain ⟨u_83, u_84⟩ := v_86
                have hr3 := hk _ _ rfl
                refine callVA (gV (rest := []) ⟨hx, hb, hml, hown, hts⟩ hG hP hD 0 8 rfl rfl (mtX8_swaps l D cI cB cR ad H.size states u_72 u_73 many wide textLong u_74 u_75 u_76 past refused work kept chosen across sum one two base quotients text u_77 u_78 x_54 (u_83, u_84) hq_85) (cwV 0 hts gX8_reads_X8_swaps rfl rfl rfl ⟨rfl, hd_X8_swaps⟩ ⟨Nat.le_of_ble_eq_true rfl, Nat.le_of_ble_eq_true rfl⟩) rfl hl.1 rfl (Nat.le_of_ble_eq_true rfl) dX8_reads_113) hD hS hA (fun H locs hP hD hS => ?_)
                have hP : va_P D cls9 (wM cI ad states u_72 u_73 many wide textLong u_74 u_75 u_83 past refused work kept chosen across sum one two base quotients text u_77 u_78 u_84) H := hP
                have hD : va_D A (wM cI ad states u_72 u_73 many wide textLong u_74 u_75 u_83 past refused work kept chosen across sum one two base quotients text u_77 u_78 u_84) := hD
                refine lv_sipush (v := -1000) hx hb dX8_reads_116 (by decide) ?_
                refine lv_iload_n hx hb dX8_reads_119 rfl (lv_at hl 1 rfl) ?_
                refine lv_isub hx hb dX8_reads_120 ?_
                have he := (hO3 _ (hv3 _ (Option.some.inj hr3).symm).symm)
                subst he
                exact hE H locs _ _ _ rfl dX8_reads_121 hP hD hS
        obtain ⟨n3, hn3⟩ := Lp_s hw3
        exact hL3 n3 (0 : Int32) x_41 x_42 x_43 r_55 (0 : Int32) x_46 x_47 hn3 H locs hP hD hS ls (lv_sub hl [1, 0] rfl)
      have hL2 : ∀ (n : Nat) (i_49 : Int32) (i_50 : Nat → Int32), lrun (fun (z : Int32 × (Nat → Int32)) => fX8_reads_s56 x_41 z.1 z.2) n (i_49, i_50) = some w2 → ∀ (H : Heap) (locs : List Loc), va_P D cls9 (wM cI ad states x_46 x_47 many wide textLong x_45 x_44 x_41 past refused work kept chosen across sum one two base quotients text x_43 x_42 i_50) H → va_D A (wM cI ad states x_46 x_47 many wide textLong x_45 x_44 x_41 past refused work kept chosen across sum one two base quotients text x_43 x_42 i_50) → va_S A s.heap H locs → ∀ (ls : Array Slot), lv_has ls 3 [(0, .ref (ad 0)), (2, .int i_49)] → W p l e rm_X8_reads s m args below meth c H locs 0 0 Q (F0 m 56 ls []) := by
        intro n
        induction n with
        | zero => intro i_49 i_50 h; cases h
        | succ n ih2 =>
          intro i_49 i_50 hr2 H locs hP hD hS ls hl
          obtain ⟨k, v2, hk, hr2, ht2, hv2⟩ := lrun_s hr2
          cases hk
          have hr2 : fX8_reads_s56 x_41 i_49 i_50 = some v2 := hr2
          unfold fX8_reads_s56 at hr2
          refine lv_iload_n hx hb dX8_reads_56 rfl (lv_at hl 1 rfl) ?_
          refine lv_bipush (v := 108) hx hb dX8_reads_57 (by decide) ?_
          refine lv_icmp_ge (tgt := 80) hx hb dX8_reads_59 (by decide) (fun c_51 => ?_) (fun c_51 => ?_)
          · have hr2 := it_t c_51 hr2
            exact hX2 i_50 (hv2 _ (Option.some.inj hr2).symm).symm H locs hP hD hS ls (lv_sub hl [0] rfl)
          · have hr2 := it_f c_51 hr2
            refine lv_aload_n hx hb dX8_reads_62 rfl (lv_at hl 0 rfl) ?_
            refine va_get (D := D) (ci := 8) (v := .ref (ad 16)) (C := RX8) (T := TX8) (N := 24) hx hb hts iX8_reads_X8 hown hG.1 hP 0 rfl rfl 23 (by decide) (hts _ fX8_reads_3) (fun _ h9 => h9) rfl dX8_reads_63 ?_
            refine lv_iload_n hx hb dX8_reads_66 rfl (lv_at hl 1 rfl) ?_
            refine lv_aload_n hx hb dX8_reads_67 rfl (lv_at hl 0 rfl) ?_
            refine va_get (D := D) (ci := 8) (v := .ref (ad 1)) (C := RX8) (T := TX8) (N := 24) hx hb hts iX8_reads_X8 hown hG.1 hP 0 rfl rfl 0 (by decide) (hts _ fX8_reads_4) (fun _ h9 => h9) rfl dX8_reads_68 ?_
            refine lv_iload_n hx hb dX8_reads_71 rfl (lv_at hl 1 rfl) ?_
            obtain ⟨h_52, hr2⟩ := gd_s hr2
            refine va_iald hx hb hG.1 hP 1 0 rfl rfl h_52 dX8_reads_72 ?_
            obtain ⟨h_53, hr2⟩ := gd_s hr2
            refine va_iast hx hb hG.1 hP hD hS 16 0 rfl rfl h_53 dX8_reads_73 (fun H locs hP hD hS => ?_)
            have hP : va_P D cls9 (wM cI ad states x_46 x_47 many wide textLong x_45 x_44 x_41 past refused work kept chosen across sum one two base quotients text x_43 x_42 (upd i_50 i_49.toNatClampNeg (x_41 i_49.toNatClampNeg))) H := hP
            have hD : va_D A (wM cI ad states x_46 x_47 many wide textLong x_45 x_44 x_41 past refused work kept chosen across sum one two base quotients text x_43 x_42 (upd i_50 i_49.toNatClampNeg (x_41 i_49.toNatClampNeg))) := hD
            refine lv_iinc (v := (i_49 + 1)) (lv' := [(2, .int (i_49 + 1)), (0, .ref (ad 0))]) hx hb dX8_reads_74 hl (k := 1) rfl rfl (by decide) rfl (fun ls hl => ?_)
            refine lv_goto (tgt := 56) hx hb dX8_reads_77 (by decide) ?_
            exact ih2 (i_49 + 1) (upd i_50 i_49.toNatClampNeg (x_41 i_49.toNatClampNeg)) (ht2 _ (Option.some.inj hr2).symm) H locs hP hD hS ls (lv_sub hl [1, 0] rfl)
      obtain ⟨n2, hn2⟩ := Lp_s hw2
      exact hL2 n2 (0 : Int32) before hn2 H locs hP hD hS ls (lv_sub hl [1, 0] rfl)
    · have hq := it_t c_48 hq
      refine lv_bipush (v := -10) hx hb dX8_reads_46 (by decide) ?_
      refine lv_aload_n hx hb dX8_reads_48 rfl (lv_at hl 0 rfl) ?_
      refine va_get (D := D) (ci := 8) (v := .int x_45) (C := RX8) (T := TX8) (N := 24) hx hb hts iX8_reads_X8 hown hG.1 hP 0 rfl rfl 19 (by decide) (hts _ fX8_reads_1) (fun _ h9 => h9) rfl dX8_reads_49 ?_
      refine lv_isub hx hb dX8_reads_52 ?_
      have he := Option.some.inj hq
      subst he
      exact hE H locs _ _ _ rfl dX8_reads_53 hP hD hS
  have hL1 : ∀ (n : Nat) (i_15 : Int32) (i_16 : Nat → Int32) (i_17 : Nat → Int32) (i_18 : Nat → Int32) (i_19 : Int32) (i_20 : Int32) (i_21 : Int32) (i_22 : Int32), lrun (fun (z : Int32 × (Nat → Int32) × (Nat → Int32) × (Nat → Int32) × Int32 × Int32 × Int32 × Int32) => fX8_reads_s20 textLong text z.1 z.2.1 z.2.2.1 z.2.2.2.1 z.2.2.2.2.1 z.2.2.2.2.2.1 z.2.2.2.2.2.2.1 z.2.2.2.2.2.2.2) n (i_15, i_16, i_17, i_18, i_19, i_20, i_21, i_22) = some w1 → ∀ (H : Heap) (locs : List Loc), va_P D cls9 (wM cI ad states i_21 i_22 many wide textLong i_20 i_19 i_16 past refused work kept chosen across sum one two base quotients text i_18 i_17 before) H → va_D A (wM cI ad states i_21 i_22 many wide textLong i_20 i_19 i_16 past refused work kept chosen across sum one two base quotients text i_18 i_17 before) → va_S A s.heap H locs → ∀ (ls : Array Slot), lv_has ls 3 [(0, .ref (ad 0)), (1, .int i_15)] → W p l e rm_X8_reads s m args below meth c H locs 0 0 Q (F0 m 20 ls []) := by
    intro n
    induction n with
    | zero => intro i_15 i_16 i_17 i_18 i_19 i_20 i_21 i_22 h; cases h
    | succ n ih1 =>
      intro i_15 i_16 i_17 i_18 i_19 i_20 i_21 i_22 hr1 H locs hP hD hS ls hl
      obtain ⟨k, v1, hk, hr1, ht1, hv1⟩ := lrun_s hr1
      cases hk
      have hr1 : fX8_reads_s20 textLong text i_15 i_16 i_17 i_18 i_19 i_20 i_21 i_22 = some v1 := hr1
      unfold fX8_reads_s20 at hr1
      refine lv_iload_n hx hb dX8_reads_20 rfl (lv_at hl 1 rfl) ?_
      refine lv_if_eq (tgt := 42) hx hb dX8_reads_21 (by decide) (fun c_23 => ?_) (fun c_23 => ?_)
      · have hr1 := it_t c_23 hr1
        exact hX1 i_15 i_16 i_17 i_18 i_19 i_20 i_21 i_22 (hv1 _ (Option.some.inj hr1).symm).symm H locs hP hD hS ls (lv_sub hl [0, 1] rfl)
      · have hr1 := it_f c_23 hr1
        refine lv_aload_n hx hb dX8_reads_24 rfl (lv_at hl 0 rfl) ?_
        obtain ⟨v_27, hq_26, hk⟩ := bd2_s hr1
        obtain ⟨r_24, u_25⟩ := v_27
        have hr1 := hk _ _ rfl
        refine callIA (gV (rest := []) ⟨hx, hb, hml, hown, hts⟩ hG hP hD 0 8 rfl rfl (mtX8_here l D cI cB cR ad H.size states i_21 i_22 many wide textLong i_20 i_19 i_16 past refused work kept chosen across sum one two base quotients text i_18 i_17 before (r_24, u_25) hq_26) (cwV 0 hts gX8_reads_X8_here rfl rfl rfl ⟨rfl, hd_X8_here⟩ ⟨Nat.le_of_ble_eq_true rfl, Nat.le_of_ble_eq_true rfl⟩) rfl hl.1 rfl (Nat.le_of_ble_eq_true rfl) dX8_reads_25) hD hS hA (fun H locs hP hD hS => ?_)
        have hP : va_P D cls9 (wM cI ad states i_21 i_22 many wide textLong u_25 i_19 i_16 past refused work kept chosen across sum one two base quotients text i_18 i_17 before) H := hP
        have hD : va_D A (wM cI ad states i_21 i_22 many wide textLong u_25 i_19 i_16 past refused work kept chosen across sum one two base quotients text i_18 i_17 before) := hD
        refine lv_iconst (v := -1) hx hb dX8_reads_28 (by decide) ?_
        refine lv_icmp_eq (tgt := 42) hx hb dX8_reads_29 (by decide) (fun c_28 => ?_) (fun c_28 => ?_)
        · have hr1 := it_t c_28 hr1
          exact hX1 i_15 i_16 i_17 i_18 i_19 u_25 i_21 i_22 (hv1 _ (Option.some.inj hr1).symm).symm H locs hP hD hS ls (lv_sub hl [0, 1] rfl)
        · have hr1 := it_f c_28 hr1
          refine lv_aload_n hx hb dX8_reads_32 rfl (lv_at hl 0 rfl) ?_
          refine lv_iconst (v := 0) hx hb dX8_reads_33 (by decide) ?_
          refine lv_iconst (v := 0) hx hb dX8_reads_34 (by decide) ?_
          obtain ⟨v_38, hq_37, hk⟩ := bd8_s hr1
          obtain ⟨r_29, u_30, u_31, u_32, u_33, u_34, u_35, u_36⟩ := v_38
          have hr1 := hk _ _ _ _ _ _ _ _ rfl
          refine callZA (gV (rest := []) ⟨hx, hb, hml, hown, hts⟩ hG hP hD 0 8 rfl rfl (mtX8_readsOrder l D cI cB cR ad H.size states i_21 i_22 many wide textLong u_25 i_19 i_16 past refused work kept chosen across sum one two base quotients text i_18 i_17 before (0 : Int32) (0 : Int32) (r_29, u_30, u_31, u_32, u_33, u_34, u_35, u_36) hq_37) (cwV 2 hts gX8_reads_X8_readsOrder rfl rfl rfl ⟨rfl, hd_X8_readsOrder⟩ ⟨Nat.le_of_ble_eq_true rfl, Nat.le_of_ble_eq_true rfl⟩) rfl hl.1 rfl (Nat.le_of_ble_eq_true rfl) dX8_reads_35) hD hS hA (fun H locs z_39 hP hD hS => ?_)
          have hP : va_P D cls9 (wM cI ad states u_30 u_31 many wide textLong u_32 u_33 u_34 past refused work kept chosen across sum one two base quotients text u_35 u_36 before) H := hP
          have hD : va_D A (wM cI ad states u_30 u_31 many wide textLong u_32 u_33 u_34 past refused work kept chosen across sum one two base quotients text u_35 u_36 before) := hD
          refine lv_istore_n (lv' := [(1, .int r_29), (0, .ref (ad 0))]) hx hb dX8_reads_38 rfl hl (by decide) rfl (fun ls hl => ?_)
          refine lv_goto (tgt := 20) hx hb dX8_reads_39 (by decide) ?_
          exact ih1 r_29 u_34 u_36 u_35 u_33 u_32 u_30 u_31 (ht1 _ (Option.some.inj hr1).symm) H locs hP hD hS ls (lv_sub hl [1, 0] rfl)
  obtain ⟨n1, hn1⟩ := Lp_s hw1
  exact hL1 n1 r_4 u_9 u_11 u_10 u_8 u_7 u_5 u_6 hn1 H locs hP hD hS ls (lv_sub hl [1, 0] rfl)
abbrev rm_X8_whyOf : Room := { frames := 0, cells := 0, slots := 0, locals := 0 }
theorem iX8_whyOf_X8 : ∀ w ∈ wsX80, w ∈ wsX8_whyOf := fun _ h => (List.mem_cons_of_mem _ (List.mem_append_right _ h))
theorem fX8_whyOf_1 : Cond.fieldLink RX8 19 "PopovRowsModel" "whyOrder" "I" ∈ wsX8_whyOf := (List.mem_cons_of_mem _ (List.mem_append_left _ (List.mem_of_getElem? (i := 1) rfl)))
theorem fX8_whyOf_2 : Cond.fieldLink RX8 317 "PopovRowsModel" "whyKind" "I" ∈ wsX8_whyOf := (List.mem_cons_of_mem _ (List.mem_append_left _ (List.mem_of_getElem? (i := 0) rfl)))
set_option maxHeartbeats 4000000 in
set_option maxRecDepth 100000 in
theorem mtX8_whyOf (l : Launch) (D : va_G) (cI cB cR : ClassId) (ad : Nat → Nat) (sz : Nat) (states : Int32) (whyKind : Int32) (whyOrder : Int32) (many : Int32) (wide : Int32) (textLong : Int32) (spot : Int32) (readColumns : Int32) (all : Nat → Int32) (past : Nat → Int32) (refused : Nat → Int32) (work : Nat → Int32) (kept : Nat → Int32) (chosen : Nat → Int32) (across : Nat → Int32) (sum : Nat → Int32) (one : Nat → Int32) (two : Nat → Int32) (base : Nat → Int32) (quotients : Nat → Int32) (text : Nat → Int32) (numbers : Nat → Int32) (entries : Nat → Int32) (before : Nat → Int32) (a0 : Int32) (res : Int32) (hf : fX8_whyOf whyKind whyOrder a0 = res) : Met l yX8_whyOf wsX8_whyOf rm_X8_whyOf (qP D cI cB cR [.ref (ad 0), .int a0] (wM cI ad states whyKind whyOrder many wide textLong spot readColumns all past refused work kept chosen across sum one two base quotients text numbers entries before) sz) (qI D res (wM cI ad states whyKind whyOrder many wide textLong spot readColumns all past refused work kept chosen across sum one two base quotients text numbers entries before) (wM cI ad states whyKind whyOrder many wide textLong spot readColumns all past refused work kept chosen across sum one two base quotients text numbers entries before) sz) 0 0 (va_A (wM cI ad states whyKind whyOrder many wide textLong spot readColumns all past refused work kept chosen across sum one two base quotients text numbers entries before) sz) := by
  refine entI (plainFor_of_name (by decide)) rfl (Nat.le_of_ble_eq_true rfl) ?_
  intro p e s m args below meth c Q A ls S hG hP hD hA hl hE
  obtain ⟨hx, hb, hml, hown, hts⟩ := S
  have hown : s.vm.findClass RX8 = some m.cls := hown
  have hS : va_S A s.heap s.heap [] := va_S.rf
  have hl : lv_has ls 2 [(0, .ref (ad 0)), (1, .int a0)] := hl
  have hq := hf
  unfold fX8_whyOf at hq
  obtain ⟨H, hH⟩ : ∃ H, H = s.heap := ⟨_, rfl⟩
  obtain ⟨locs, hlo⟩ : ∃ L : List Loc, L = [] := ⟨_, rfl⟩
  have hP : va_P D cls9 (wM cI ad states whyKind whyOrder many wide textLong spot readColumns all past refused work kept chosen across sum one two base quotients text numbers entries before) H := hH ▸ hP
  have hS : va_S A s.heap H locs := by rw [hH, hlo]; exact hS
  suffices hg : W p l e rm_X8_whyOf s m args below meth c H locs 0 0 Q (F0 m 0 ls []) by rw [hH, hlo] at hg; exact hg
  refine lv_iload_n hx hb dX8_whyOf_0 rfl (lv_at hl 1 rfl) ?_
  refine lv_if_ne (tgt := 11) hx hb dX8_whyOf_1 (by decide) (fun c_1 => ?_) (fun c_1 => ?_)
  · have hq := it_f c_1 hq
    refine lv_aload_n hx hb dX8_whyOf_11 rfl (lv_at hl 0 rfl) ?_
    refine va_get (D := D) (ci := 8) (v := .int whyOrder) (C := RX8) (T := TX8) (N := 24) hx hb hts iX8_whyOf_X8 hown hG.1 hP 0 rfl rfl 5 (by decide) (hts _ fX8_whyOf_1) (fun _ h9 => h9) rfl dX8_whyOf_12 ?_
    have he := hq
    subst he
    exact hE H locs _ _ _ rfl dX8_whyOf_15 hP hD hS
  · have hq := it_t c_1 hq
    refine lv_aload_n hx hb dX8_whyOf_4 rfl (lv_at hl 0 rfl) ?_
    refine va_get (D := D) (ci := 8) (v := .int whyKind) (C := RX8) (T := TX8) (N := 24) hx hb hts iX8_whyOf_X8 hown hG.1 hP 0 rfl rfl 4 (by decide) (hts _ fX8_whyOf_2) (fun _ h9 => h9) rfl dX8_whyOf_5 ?_
    refine lv_goto (tgt := 15) hx hb dX8_whyOf_8 (by decide) ?_
    have he := hq
    subst he
    exact hE H locs _ _ _ rfl dX8_whyOf_15 hP hD hS
abbrev rm_X8_why : Room := { frames := 1, cells := 0, slots := 0, locals := 25 }
set_option maxHeartbeats 4000000 in
set_option maxRecDepth 100000 in
theorem mtX8_why (l : Launch) (D : va_G) (cI cB cR : ClassId) (ad : Nat → Nat) (sz : Nat) (states : Int32) (whyKind : Int32) (whyOrder : Int32) (many : Int32) (wide : Int32) (textLong : Int32) (spot : Int32) (readColumns : Int32) (all : Nat → Int32) (past : Nat → Int32) (refused : Nat → Int32) (work : Nat → Int32) (kept : Nat → Int32) (chosen : Nat → Int32) (across : Nat → Int32) (sum : Nat → Int32) (one : Nat → Int32) (two : Nat → Int32) (base : Nat → Int32) (quotients : Nat → Int32) (text : Nat → Int32) (numbers : Nat → Int32) (entries : Nat → Int32) (before : Nat → Int32) (a0 : Int32) (res : Int32 × (Nat → Int32)) (hf : fX8_why whyKind whyOrder refused a0 = some res) : Met l yX8_why wsX8_why rm_X8_why (qP D cI cB cR [.ref (ad 0), .int a0] (wM cI ad states whyKind whyOrder many wide textLong spot readColumns all past refused work kept chosen across sum one two base quotients text numbers entries before) sz) (qI D res.1 (wM cI ad states whyKind whyOrder many wide textLong spot readColumns all past refused work kept chosen across sum one two base quotients text numbers entries before) (wM cI ad states whyKind whyOrder many wide textLong spot readColumns all past res.2 work kept chosen across sum one two base quotients text numbers entries before) sz) 0 0 (va_A (wM cI ad states whyKind whyOrder many wide textLong spot readColumns all past refused work kept chosen across sum one two base quotients text numbers entries before) sz) := by
  refine entI (plainFor_of_name (by decide)) rfl (Nat.le_of_ble_eq_true rfl) ?_
  intro p e s m args below meth c Q A ls S hG hP hD hA hl hE
  obtain ⟨hx, hb, hml, hown, hts⟩ := S
  have hown : s.vm.findClass RX8 = some m.cls := hown
  have hS : va_S A s.heap s.heap [] := va_S.rf
  have hl : lv_has ls 2 [(0, .ref (ad 0)), (1, .int a0)] := hl
  have hq := hf
  unfold fX8_why at hq
  obtain ⟨H, hH⟩ : ∃ H, H = s.heap := ⟨_, rfl⟩
  obtain ⟨locs, hlo⟩ : ∃ L : List Loc, L = [] := ⟨_, rfl⟩
  have hP : va_P D cls9 (wM cI ad states whyKind whyOrder many wide textLong spot readColumns all past refused work kept chosen across sum one two base quotients text numbers entries before) H := hH ▸ hP
  have hS : va_S A s.heap H locs := by rw [hH, hlo]; exact hS
  suffices hg : W p l e rm_X8_why s m args below meth c H locs 0 0 Q (F0 m 0 ls []) by rw [hH, hlo] at hg; exact hg
  refine lv_iload_n hx hb dX8_why_0 rfl (lv_at hl 1 rfl) ?_
  refine lv_i2l (v := (a0.toInt64)) hx hb dX8_why_1 rfl ?_
  refine lv_lconst (v := 0) hx hb dX8_why_2 (by decide) ?_
  refine lv_lconst (v := 1) hx hb dX8_why_3 (by decide) ?_
  refine callZ0 (gS (rest := []) ⟨hx, hb, hml, hown, hts⟩ hG vaP0 (vaD0 (A := A)) (mtX8_in l D cI cB cR H.size (a0.toInt64) (0 : Int64) (1 : Int64) _ rfl) (va_cwS 3 hts gX8_why_X8_in rfl rfl rfl hd_X8_in ⟨Nat.le_of_ble_eq_true rfl, Nat.le_of_ble_eq_true rfl⟩) rfl hl.1 rfl (Nat.le_of_ble_eq_true rfl) dX8_why_4) hP hS hA (fun H locs z_1 hP hS => ?_)
  refine lv_if_eq (tgt := 18) hx hb dX8_why_7 (by decide) (fun c_2 => ?_) (fun c_2 => ?_)
  · have hq := it_t c_2 hq
    refine lv_aload_n hx hb dX8_why_18 rfl (lv_at hl 0 rfl) ?_
    refine lv_bipush (v := -2) hx hb dX8_why_19 (by decide) ?_
    obtain ⟨v_6, hq_5, hk⟩ := bd2_s hq
    obtain ⟨r_3, u_4⟩ := v_6
    have hq := hk _ _ rfl
    refine callIA (gV (rest := []) ⟨hx, hb, hml, hown, hts⟩ hG hP hD 0 8 rfl rfl (mtX8_refuses l D cI cB cR ad H.size states whyKind whyOrder many wide textLong spot readColumns all past refused work kept chosen across sum one two base quotients text numbers entries before (-2 : Int32) (r_3, u_4) hq_5) (cwV 1 hts gX8_why_X8_refuses rfl rfl rfl ⟨rfl, hd_X8_refuses⟩ ⟨Nat.le_of_ble_eq_true rfl, Nat.le_of_ble_eq_true rfl⟩) rfl hl.1 rfl (Nat.le_of_ble_eq_true rfl) dX8_why_21) hD hS hA (fun H locs hP hD hS => ?_)
    have hP : va_P D cls9 (wM cI ad states whyKind whyOrder many wide textLong spot readColumns all past u_4 work kept chosen across sum one two base quotients text numbers entries before) H := hP
    have hD : va_D A (wM cI ad states whyKind whyOrder many wide textLong spot readColumns all past u_4 work kept chosen across sum one two base quotients text numbers entries before) := hD
    have he := Option.some.inj hq
    subst he
    exact hE H locs _ _ _ rfl dX8_why_24 hP hD hS
  · have hq := it_f c_2 hq
    refine lv_aload_n hx hb dX8_why_10 rfl (lv_at hl 0 rfl) ?_
    refine lv_iload_n hx hb dX8_why_11 rfl (lv_at hl 1 rfl) ?_
    refine callIA (gV (rest := []) ⟨hx, hb, hml, hown, hts⟩ hG hP hD 0 8 rfl rfl (mtX8_whyOf l D cI cB cR ad H.size states whyKind whyOrder many wide textLong spot readColumns all past refused work kept chosen across sum one two base quotients text numbers entries before a0 _ rfl) (cwV 1 hts gX8_why_X8_whyOf rfl rfl rfl ⟨rfl, hd_X8_whyOf⟩ ⟨Nat.le_of_ble_eq_true rfl, Nat.le_of_ble_eq_true rfl⟩) rfl hl.1 rfl (Nat.le_of_ble_eq_true rfl) dX8_why_12) hD hS hA (fun H locs hP hD hS => ?_)
    have hP : va_P D cls9 (wM cI ad states whyKind whyOrder many wide textLong spot readColumns all past refused work kept chosen across sum one two base quotients text numbers entries before) H := hP
    have hD : va_D A (wM cI ad states whyKind whyOrder many wide textLong spot readColumns all past refused work kept chosen across sum one two base quotients text numbers entries before) := hD
    refine lv_goto (tgt := 24) hx hb dX8_why_15 (by decide) ?_
    have he := Option.some.inj hq
    subst he
    exact hE H locs _ _ _ rfl dX8_why_24 hP hD hS
abbrev rm_X8_back : Room := { frames := 1, cells := 0, slots := 0, locals := 21 }
theorem iX8_back_X8 : ∀ w ∈ wsX80, w ∈ wsX8_back := fun _ h => (List.mem_cons_of_mem _ (List.mem_append_right _ h))
theorem fX8_back_1 : Cond.fieldLink RX8 62 "PopovRowsModel" "states" "I" ∈ wsX8_back := (List.mem_cons_of_mem _ (List.mem_append_left _ (List.mem_of_getElem? (i := 0) rfl)))
theorem fX8_back_2 : Cond.fieldLink RX8 7 "PopovRowsModel" "all" "[I" ∈ wsX8_back := (List.mem_cons_of_mem _ (List.mem_append_left _ (List.mem_of_getElem? (i := 1) rfl)))
theorem fX8_back_3 : Cond.fieldLink RX8 13 "PopovRowsModel" "past" "[I" ∈ wsX8_back := (List.mem_cons_of_mem _ (List.mem_append_left _ (List.mem_of_getElem? (i := 2) rfl)))
set_option maxHeartbeats 4000000 in
set_option maxRecDepth 100000 in
theorem mtX8_back (l : Launch) (D : va_G) (cI cB cR : ClassId) (ad : Nat → Nat) (sz : Nat) (states : Int32) (whyKind : Int32) (whyOrder : Int32) (many : Int32) (wide : Int32) (textLong : Int32) (spot : Int32) (readColumns : Int32) (all : Nat → Int32) (past : Nat → Int32) (refused : Nat → Int32) (work : Nat → Int32) (kept : Nat → Int32) (chosen : Nat → Int32) (across : Nat → Int32) (sum : Nat → Int32) (one : Nat → Int32) (two : Nat → Int32) (base : Nat → Int32) (quotients : Nat → Int32) (text : Nat → Int32) (numbers : Nat → Int32) (entries : Nat → Int32) (before : Nat → Int32) (res : Int32 × Int32 × (Nat → Int32) × (Nat → Int32)) (hf : fX8_back states all past refused = some res) : Met l yX8_back wsX8_back rm_X8_back (qP D cI cB cR [.ref (ad 0)] (wM cI ad states whyKind whyOrder many wide textLong spot readColumns all past refused work kept chosen across sum one two base quotients text numbers entries before) sz) (qI D res.1 (wM cI ad states whyKind whyOrder many wide textLong spot readColumns all past refused work kept chosen across sum one two base quotients text numbers entries before) (wM cI ad res.2.1 whyKind whyOrder many wide textLong spot readColumns res.2.2.1 past res.2.2.2 work kept chosen across sum one two base quotients text numbers entries before) sz) 0 0 (va_A (wM cI ad states whyKind whyOrder many wide textLong spot readColumns all past refused work kept chosen across sum one two base quotients text numbers entries before) sz) := by
  refine entI (plainFor_of_name (by decide)) rfl (Nat.le_of_ble_eq_true rfl) ?_
  intro p e s m args below meth c Q A ls S hG hP hD hA hl hE
  obtain ⟨hx, hb, hml, hown, hts⟩ := S
  have hown : s.vm.findClass RX8 = some m.cls := hown
  have hS : va_S A s.heap s.heap [] := va_S.rf
  have hl : lv_has ls 2 [(0, .ref (ad 0))] := hl
  have hq := hf
  unfold fX8_back at hq
  obtain ⟨H, hH⟩ : ∃ H, H = s.heap := ⟨_, rfl⟩
  obtain ⟨locs, hlo⟩ : ∃ L : List Loc, L = [] := ⟨_, rfl⟩
  have hP : va_P D cls9 (wM cI ad states whyKind whyOrder many wide textLong spot readColumns all past refused work kept chosen across sum one two base quotients text numbers entries before) H := hH ▸ hP
  have hS : va_S A s.heap H locs := by rw [hH, hlo]; exact hS
  suffices hg : W p l e rm_X8_back s m args below meth c H locs 0 0 Q (F0 m 0 ls []) by rw [hH, hlo] at hg; exact hg
  refine lv_aload_n hx hb dX8_back_0 rfl (lv_at hl 0 rfl) ?_
  refine va_get (D := D) (ci := 8) (v := .int states) (C := RX8) (T := TX8) (N := 24) hx hb hts iX8_back_X8 hown hG.1 hP 0 rfl rfl 2 (by decide) (hts _ fX8_back_1) (fun _ h9 => h9) rfl dX8_back_1 ?_
  refine lv_if_ne (tgt := 14) hx hb dX8_back_4 (by decide) (fun c_1 => ?_) (fun c_1 => ?_)
  · have hq := it_f c_1 hq
    refine lv_aload_n hx hb dX8_back_14 rfl (lv_at hl 0 rfl) ?_
    refine lv_dup hx hb dX8_back_15 rfl ?_
    refine va_get (D := D) (ci := 8) (v := .int states) (C := RX8) (T := TX8) (N := 24) hx hb hts iX8_back_X8 hown hG.1 hP 0 rfl rfl 2 (by decide) (hts _ fX8_back_1) (fun _ h9 => h9) rfl dX8_back_16 ?_
    refine lv_iconst (v := 1) hx hb dX8_back_19 (by decide) ?_
    refine lv_isub hx hb dX8_back_20 ?_
    refine va_put (D := D) (ci := 8) (v := .int (states - (1 : Int32))) (ty := .int) (C := RX8) (T := TX8) (N := 24) hx hb hts iX8_back_X8 tyX8 tyX8_ok nmX8 hown hG.1 hP hD hS 0 rfl rfl 2 (by decide) (hts _ fX8_back_1) (fun _ h9 => h9) rfl (by decide +kernel) rfl rfl (Nat.le_of_ble_eq_true rfl) dX8_back_21 (fun H locs hP hD hS => ?_)
    have hP : va_P D cls9 (wM cI ad (states - (1 : Int32)) whyKind whyOrder many wide textLong spot readColumns all past refused work kept chosen across sum one two base quotients text numbers entries before) H := hP
    have hD : va_D A (wM cI ad (states - (1 : Int32)) whyKind whyOrder many wide textLong spot readColumns all past refused work kept chosen across sum one two base quotients text numbers entries before) := hD
    refine lv_iconst (v := 0) hx hb dX8_back_24 (by decide) ?_
    refine lv_istore_n (lv' := [(1, .int (0 : Int32)), (0, .ref (ad 0))]) hx hb dX8_back_25 rfl hl (by decide) rfl (fun ls hl => ?_)
    obtain ⟨w1, hw1, hk1⟩ := bd1_s hq
    have hX1 : ∀ (x_7 : Nat → Int32), w1 = x_7 → ∀ (H : Heap) (locs : List Loc), va_P D cls9 (wM cI ad (states - (1 : Int32)) whyKind whyOrder many wide textLong spot readColumns x_7 past refused work kept chosen across sum one two base quotients text numbers entries before) H → va_D A (wM cI ad (states - (1 : Int32)) whyKind whyOrder many wide textLong spot readColumns x_7 past refused work kept chosen across sum one two base quotients text numbers entries before) → va_S A s.heap H locs → ∀ (ls : Array Slot), lv_has ls 2 [(0, .ref (ad 0))] → W p l e rm_X8_back s m args below meth c H locs 0 0 Q (F0 m 58 ls []) := by
      intro x_7 hq H locs hP hD hS ls hl
      have hq := hk1 _ hq
      refine lv_aload_n hx hb dX8_back_58 rfl (lv_at hl 0 rfl) ?_
      refine va_get (D := D) (ci := 8) (v := .int (states - (1 : Int32))) (C := RX8) (T := TX8) (N := 24) hx hb hts iX8_back_X8 hown hG.1 hP 0 rfl rfl 2 (by decide) (hts _ fX8_back_1) (fun _ h9 => h9) rfl dX8_back_59 ?_
      have he := Option.some.inj hq
      subst he
      exact hE H locs _ _ _ rfl dX8_back_62 hP hD hS
    have hL1 : ∀ (n : Nat) (i_2 : Int32) (i_3 : Nat → Int32), lrun (fun (z : Int32 × (Nat → Int32)) => fX8_back_s26 states past z.1 z.2) n (i_2, i_3) = some w1 → ∀ (H : Heap) (locs : List Loc), va_P D cls9 (wM cI ad (states - (1 : Int32)) whyKind whyOrder many wide textLong spot readColumns i_3 past refused work kept chosen across sum one two base quotients text numbers entries before) H → va_D A (wM cI ad (states - (1 : Int32)) whyKind whyOrder many wide textLong spot readColumns i_3 past refused work kept chosen across sum one two base quotients text numbers entries before) → va_S A s.heap H locs → ∀ (ls : Array Slot), lv_has ls 2 [(0, .ref (ad 0)), (1, .int i_2)] → W p l e rm_X8_back s m args below meth c H locs 0 0 Q (F0 m 26 ls []) := by
      intro n
      induction n with
      | zero => intro i_2 i_3 h; cases h
      | succ n ih1 =>
        intro i_2 i_3 hr1 H locs hP hD hS ls hl
        obtain ⟨k, v1, hk, hr1, ht1, hv1⟩ := lrun_s hr1
        cases hk
        have hr1 : fX8_back_s26 states past i_2 i_3 = some v1 := hr1
        unfold fX8_back_s26 at hr1
        refine lv_iload_n hx hb dX8_back_26 rfl (lv_at hl 1 rfl) ?_
        refine lv_bipush (v := 108) hx hb dX8_back_27 (by decide) ?_
        refine lv_icmp_ge (tgt := 58) hx hb dX8_back_29 (by decide) (fun c_4 => ?_) (fun c_4 => ?_)
        · have hr1 := it_t c_4 hr1
          exact hX1 i_3 (hv1 _ (Option.some.inj hr1).symm).symm H locs hP hD hS ls (lv_sub hl [0] rfl)
        · have hr1 := it_f c_4 hr1
          refine lv_aload_n hx hb dX8_back_32 rfl (lv_at hl 0 rfl) ?_
          refine va_get (D := D) (ci := 8) (v := .ref (ad 1)) (C := RX8) (T := TX8) (N := 24) hx hb hts iX8_back_X8 hown hG.1 hP 0 rfl rfl 0 (by decide) (hts _ fX8_back_2) (fun _ h9 => h9) rfl dX8_back_33 ?_
          refine lv_iload_n hx hb dX8_back_36 rfl (lv_at hl 1 rfl) ?_
          refine lv_aload_n hx hb dX8_back_37 rfl (lv_at hl 0 rfl) ?_
          refine va_get (D := D) (ci := 8) (v := .ref (ad 2)) (C := RX8) (T := TX8) (N := 24) hx hb hts iX8_back_X8 hown hG.1 hP 0 rfl rfl 1 (by decide) (hts _ fX8_back_3) (fun _ h9 => h9) rfl dX8_back_38 ?_
          refine lv_bipush (v := 108) hx hb dX8_back_41 (by decide) ?_
          refine lv_aload_n hx hb dX8_back_43 rfl (lv_at hl 0 rfl) ?_
          refine va_get (D := D) (ci := 8) (v := .int (states - (1 : Int32))) (C := RX8) (T := TX8) (N := 24) hx hb hts iX8_back_X8 hown hG.1 hP 0 rfl rfl 2 (by decide) (hts _ fX8_back_1) (fun _ h9 => h9) rfl dX8_back_44 ?_
          refine lv_imul hx hb dX8_back_47 ?_
          refine lv_iload_n hx hb dX8_back_48 rfl (lv_at hl 1 rfl) ?_
          refine lv_iadd hx hb dX8_back_49 ?_
          obtain ⟨h_5, hr1⟩ := gd_s hr1
          refine va_iald hx hb hG.1 hP 2 0 rfl rfl h_5 dX8_back_50 ?_
          obtain ⟨h_6, hr1⟩ := gd_s hr1
          refine va_iast hx hb hG.1 hP hD hS 1 0 rfl rfl h_6 dX8_back_51 (fun H locs hP hD hS => ?_)
          have hP : va_P D cls9 (wM cI ad (states - (1 : Int32)) whyKind whyOrder many wide textLong spot readColumns (upd i_3 i_2.toNatClampNeg (past (((108 : Int32) * (states - (1 : Int32))) + i_2).toNatClampNeg)) past refused work kept chosen across sum one two base quotients text numbers entries before) H := hP
          have hD : va_D A (wM cI ad (states - (1 : Int32)) whyKind whyOrder many wide textLong spot readColumns (upd i_3 i_2.toNatClampNeg (past (((108 : Int32) * (states - (1 : Int32))) + i_2).toNatClampNeg)) past refused work kept chosen across sum one two base quotients text numbers entries before) := hD
          refine lv_iinc (v := (i_2 + 1)) (lv' := [(1, .int (i_2 + 1)), (0, .ref (ad 0))]) hx hb dX8_back_52 hl (k := 1) rfl rfl (by decide) rfl (fun ls hl => ?_)
          refine lv_goto (tgt := 26) hx hb dX8_back_55 (by decide) ?_
          exact ih1 (i_2 + 1) (upd i_3 i_2.toNatClampNeg (past (((108 : Int32) * (states - (1 : Int32))) + i_2).toNatClampNeg)) (ht1 _ (Option.some.inj hr1).symm) H locs hP hD hS ls (lv_sub hl [1, 0] rfl)
    obtain ⟨n1, hn1⟩ := Lp_s hw1
    exact hL1 n1 (0 : Int32) all hn1 H locs hP hD hS ls (lv_sub hl [1, 0] rfl)
  · have hq := it_t c_1 hq
    refine lv_aload_n hx hb dX8_back_7 rfl (lv_at hl 0 rfl) ?_
    refine lv_bipush (v := -3) hx hb dX8_back_8 (by decide) ?_
    obtain ⟨v_11, hq_10, hk⟩ := bd2_s hq
    obtain ⟨r_8, u_9⟩ := v_11
    have hq := hk _ _ rfl
    refine callIA (gV (rest := []) ⟨hx, hb, hml, hown, hts⟩ hG hP hD 0 8 rfl rfl (mtX8_refuses l D cI cB cR ad H.size states whyKind whyOrder many wide textLong spot readColumns all past refused work kept chosen across sum one two base quotients text numbers entries before (-3 : Int32) (r_8, u_9) hq_10) (cwV 1 hts gX8_back_X8_refuses rfl rfl rfl ⟨rfl, hd_X8_refuses⟩ ⟨Nat.le_of_ble_eq_true rfl, Nat.le_of_ble_eq_true rfl⟩) rfl hl.1 rfl (Nat.le_of_ble_eq_true rfl) dX8_back_10) hD hS hA (fun H locs hP hD hS => ?_)
    have hP : va_P D cls9 (wM cI ad states whyKind whyOrder many wide textLong spot readColumns all past u_9 work kept chosen across sum one two base quotients text numbers entries before) H := hP
    have hD : va_D A (wM cI ad states whyKind whyOrder many wide textLong spot readColumns all past u_9 work kept chosen across sum one two base quotients text numbers entries before) := hD
    have he := Option.some.inj hq
    subst he
    exact hE H locs _ _ _ rfl dX8_back_13 hP hD hS
abbrev rm_X8_toldOf : Room := { frames := 0, cells := 0, slots := 0, locals := 0 }
theorem iX8_toldOf_X8 : ∀ w ∈ wsX80, w ∈ wsX8_toldOf := fun _ h => (List.mem_cons_of_mem _ (List.mem_append_right _ h))
theorem fX8_toldOf_1 : Cond.fieldLink RX8 7 "PopovRowsModel" "all" "[I" ∈ wsX8_toldOf := (List.mem_cons_of_mem _ (List.mem_append_left _ (List.mem_of_getElem? (i := 3) rfl)))
theorem fX8_toldOf_2 : Cond.fieldLink RX8 62 "PopovRowsModel" "states" "I" ∈ wsX8_toldOf := (List.mem_cons_of_mem _ (List.mem_append_left _ (List.mem_of_getElem? (i := 2) rfl)))
theorem fX8_toldOf_3 : Cond.fieldLink RX8 277 "PopovRowsModel" "textLong" "I" ∈ wsX8_toldOf := (List.mem_cons_of_mem _ (List.mem_append_left _ (List.mem_of_getElem? (i := 1) rfl)))
theorem fX8_toldOf_4 : Cond.fieldLink RX8 16 "PopovRowsModel" "refused" "[I" ∈ wsX8_toldOf := (List.mem_cons_of_mem _ (List.mem_append_left _ (List.mem_of_getElem? (i := 0) rfl)))
set_option maxHeartbeats 4000000 in
set_option maxRecDepth 100000 in
theorem mtX8_toldOf (l : Launch) (D : va_G) (cI cB cR : ClassId) (ad : Nat → Nat) (sz : Nat) (states : Int32) (whyKind : Int32) (whyOrder : Int32) (many : Int32) (wide : Int32) (textLong : Int32) (spot : Int32) (readColumns : Int32) (all : Nat → Int32) (past : Nat → Int32) (refused : Nat → Int32) (work : Nat → Int32) (kept : Nat → Int32) (chosen : Nat → Int32) (across : Nat → Int32) (sum : Nat → Int32) (one : Nat → Int32) (two : Nat → Int32) (base : Nat → Int32) (quotients : Nat → Int32) (text : Nat → Int32) (numbers : Nat → Int32) (entries : Nat → Int32) (before : Nat → Int32) (a0 : Int32) (res : Int32) (hf : fX8_toldOf states textLong all refused a0 = some res) : Met l yX8_toldOf wsX8_toldOf rm_X8_toldOf (qP D cI cB cR [.ref (ad 0), .int a0] (wM cI ad states whyKind whyOrder many wide textLong spot readColumns all past refused work kept chosen across sum one two base quotients text numbers entries before) sz) (qI D res (wM cI ad states whyKind whyOrder many wide textLong spot readColumns all past refused work kept chosen across sum one two base quotients text numbers entries before) (wM cI ad states whyKind whyOrder many wide textLong spot readColumns all past refused work kept chosen across sum one two base quotients text numbers entries before) sz) 0 0 (va_A (wM cI ad states whyKind whyOrder many wide textLong spot readColumns all past refused work kept chosen across sum one two base quotients text numbers entries before) sz) := by
  refine entI (plainFor_of_name (by decide)) rfl (Nat.le_of_ble_eq_true rfl) ?_
  intro p e s m args below meth c Q A ls S hG hP hD hA hl hE
  obtain ⟨hx, hb, hml, hown, hts⟩ := S
  have hown : s.vm.findClass RX8 = some m.cls := hown
  have hS : va_S A s.heap s.heap [] := va_S.rf
  have hl : lv_has ls 2 [(0, .ref (ad 0)), (1, .int a0)] := hl
  have hq := hf
  unfold fX8_toldOf at hq
  obtain ⟨H, hH⟩ : ∃ H, H = s.heap := ⟨_, rfl⟩
  obtain ⟨locs, hlo⟩ : ∃ L : List Loc, L = [] := ⟨_, rfl⟩
  have hP : va_P D cls9 (wM cI ad states whyKind whyOrder many wide textLong spot readColumns all past refused work kept chosen across sum one two base quotients text numbers entries before) H := hH ▸ hP
  have hS : va_S A s.heap H locs := by rw [hH, hlo]; exact hS
  suffices hg : W p l e rm_X8_toldOf s m args below meth c H locs 0 0 Q (F0 m 0 ls []) by rw [hH, hlo] at hg; exact hg
  refine lv_iload_n hx hb dX8_toldOf_0 rfl (lv_at hl 1 rfl) ?_
  refine lv_iconst (v := 3) hx hb dX8_toldOf_1 (by decide) ?_
  refine lv_icmp_ge (tgt := 14) hx hb dX8_toldOf_2 (by decide) (fun c_1 => ?_) (fun c_1 => ?_)
  · have hq := it_t c_1 hq
    refine lv_iload_n hx hb dX8_toldOf_14 rfl (lv_at hl 1 rfl) ?_
    refine lv_iconst (v := 3) hx hb dX8_toldOf_15 (by decide) ?_
    refine lv_icmp_ne (tgt := 26) hx hb dX8_toldOf_16 (by decide) (fun c_2 => ?_) (fun c_2 => ?_)
    · have hq := it_f c_2 hq
      refine lv_iload_n hx hb dX8_toldOf_26 rfl (lv_at hl 1 rfl) ?_
      refine lv_bipush (v := 7) hx hb dX8_toldOf_27 (by decide) ?_
      refine lv_icmp_ne (tgt := 39) hx hb dX8_toldOf_29 (by decide) (fun c_3 => ?_) (fun c_3 => ?_)
      · have hq := it_f c_3 hq
        refine lv_aload_n hx hb dX8_toldOf_39 rfl (lv_at hl 0 rfl) ?_
        refine va_get (D := D) (ci := 8) (v := .ref (ad 1)) (C := RX8) (T := TX8) (N := 24) hx hb hts iX8_toldOf_X8 hown hG.1 hP 0 rfl rfl 0 (by decide) (hts _ fX8_toldOf_1) (fun _ h9 => h9) rfl dX8_toldOf_40 ?_
        refine lv_iload_n hx hb dX8_toldOf_43 rfl (lv_at hl 1 rfl) ?_
        refine lv_iconst (v := 4) hx hb dX8_toldOf_44 (by decide) ?_
        refine lv_isub hx hb dX8_toldOf_45 ?_
        obtain ⟨h_4, hq⟩ := gd_s hq
        refine va_iald hx hb hG.1 hP 1 0 rfl rfl h_4 dX8_toldOf_46 ?_
        have he := Option.some.inj hq
        subst he
        exact hE H locs _ _ _ rfl dX8_toldOf_47 hP hD hS
      · have hq := it_t c_3 hq
        refine lv_aload_n hx hb dX8_toldOf_32 rfl (lv_at hl 0 rfl) ?_
        refine va_get (D := D) (ci := 8) (v := .int states) (C := RX8) (T := TX8) (N := 24) hx hb hts iX8_toldOf_X8 hown hG.1 hP 0 rfl rfl 2 (by decide) (hts _ fX8_toldOf_2) (fun _ h9 => h9) rfl dX8_toldOf_33 ?_
        refine lv_goto (tgt := 47) hx hb dX8_toldOf_36 (by decide) ?_
        have he := Option.some.inj hq
        subst he
        exact hE H locs _ _ _ rfl dX8_toldOf_47 hP hD hS
    · have hq := it_t c_2 hq
      refine lv_aload_n hx hb dX8_toldOf_19 rfl (lv_at hl 0 rfl) ?_
      refine va_get (D := D) (ci := 8) (v := .int textLong) (C := RX8) (T := TX8) (N := 24) hx hb hts iX8_toldOf_X8 hown hG.1 hP 0 rfl rfl 18 (by decide) (hts _ fX8_toldOf_3) (fun _ h9 => h9) rfl dX8_toldOf_20 ?_
      refine lv_goto (tgt := 47) hx hb dX8_toldOf_23 (by decide) ?_
      have he := Option.some.inj hq
      subst he
      exact hE H locs _ _ _ rfl dX8_toldOf_47 hP hD hS
  · have hq := it_f c_1 hq
    refine lv_aload_n hx hb dX8_toldOf_5 rfl (lv_at hl 0 rfl) ?_
    refine va_get (D := D) (ci := 8) (v := .ref (ad 3)) (C := RX8) (T := TX8) (N := 24) hx hb hts iX8_toldOf_X8 hown hG.1 hP 0 rfl rfl 3 (by decide) (hts _ fX8_toldOf_4) (fun _ h9 => h9) rfl dX8_toldOf_6 ?_
    refine lv_iload_n hx hb dX8_toldOf_9 rfl (lv_at hl 1 rfl) ?_
    obtain ⟨h_5, hq⟩ := gd_s hq
    refine va_iald hx hb hG.1 hP 3 0 rfl rfl h_5 dX8_toldOf_10 ?_
    refine lv_goto (tgt := 47) hx hb dX8_toldOf_11 (by decide) ?_
    have he := Option.some.inj hq
    subst he
    exact hE H locs _ _ _ rfl dX8_toldOf_47 hP hD hS
abbrev rm_X8_told : Room := { frames := 1, cells := 0, slots := 0, locals := 25 }
theorem fX8_told_0 : Cond.constantLong RX8 269 (7) ∈ wsX8_told := (List.mem_cons_of_mem _ (List.mem_append_left _ (List.mem_of_getElem? (i := 0) rfl)))
set_option maxHeartbeats 4000000 in
set_option maxRecDepth 100000 in
theorem mtX8_told (l : Launch) (D : va_G) (cI cB cR : ClassId) (ad : Nat → Nat) (sz : Nat) (states : Int32) (whyKind : Int32) (whyOrder : Int32) (many : Int32) (wide : Int32) (textLong : Int32) (spot : Int32) (readColumns : Int32) (all : Nat → Int32) (past : Nat → Int32) (refused : Nat → Int32) (work : Nat → Int32) (kept : Nat → Int32) (chosen : Nat → Int32) (across : Nat → Int32) (sum : Nat → Int32) (one : Nat → Int32) (two : Nat → Int32) (base : Nat → Int32) (quotients : Nat → Int32) (text : Nat → Int32) (numbers : Nat → Int32) (entries : Nat → Int32) (before : Nat → Int32) (a0 : Int32) (res : Int32 × (Nat → Int32)) (hf : fX8_told states textLong all refused a0 = some res) : Met l yX8_told wsX8_told rm_X8_told (qP D cI cB cR [.ref (ad 0), .int a0] (wM cI ad states whyKind whyOrder many wide textLong spot readColumns all past refused work kept chosen across sum one two base quotients text numbers entries before) sz) (qI D res.1 (wM cI ad states whyKind whyOrder many wide textLong spot readColumns all past refused work kept chosen across sum one two base quotients text numbers entries before) (wM cI ad states whyKind whyOrder many wide textLong spot readColumns all past res.2 work kept chosen across sum one two base quotients text numbers entries before) sz) 0 0 (va_A (wM cI ad states whyKind whyOrder many wide textLong spot readColumns all past refused work kept chosen across sum one two base quotients text numbers entries before) sz) := by
  refine entI (plainFor_of_name (by decide)) rfl (Nat.le_of_ble_eq_true rfl) ?_
  intro p e s m args below meth c Q A ls S hG hP hD hA hl hE
  obtain ⟨hx, hb, hml, hown, hts⟩ := S
  have hown : s.vm.findClass RX8 = some m.cls := hown
  have hS : va_S A s.heap s.heap [] := va_S.rf
  have hl : lv_has ls 2 [(0, .ref (ad 0)), (1, .int a0)] := hl
  have hq := hf
  unfold fX8_told at hq
  obtain ⟨H, hH⟩ : ∃ H, H = s.heap := ⟨_, rfl⟩
  obtain ⟨locs, hlo⟩ : ∃ L : List Loc, L = [] := ⟨_, rfl⟩
  have hP : va_P D cls9 (wM cI ad states whyKind whyOrder many wide textLong spot readColumns all past refused work kept chosen across sum one two base quotients text numbers entries before) H := hH ▸ hP
  have hS : va_S A s.heap H locs := by rw [hH, hlo]; exact hS
  suffices hg : W p l e rm_X8_told s m args below meth c H locs 0 0 Q (F0 m 0 ls []) by rw [hH, hlo] at hg; exact hg
  refine lv_iload_n hx hb dX8_told_0 rfl (lv_at hl 1 rfl) ?_
  refine lv_i2l (v := (a0.toInt64)) hx hb dX8_told_1 rfl ?_
  refine lv_lconst (v := 0) hx hb dX8_told_2 (by decide) ?_
  refine lv_ldc2 (v := 7) hx hb hown (hts _ fX8_told_0) dX8_told_3 ?_
  refine callZ0 (gS (rest := []) ⟨hx, hb, hml, hown, hts⟩ hG vaP0 (vaD0 (A := A)) (mtX8_in l D cI cB cR H.size (a0.toInt64) (0 : Int64) (7 : Int64) _ rfl) (va_cwS 3 hts gX8_told_X8_in rfl rfl rfl hd_X8_in ⟨Nat.le_of_ble_eq_true rfl, Nat.le_of_ble_eq_true rfl⟩) rfl hl.1 rfl (Nat.le_of_ble_eq_true rfl) dX8_told_6) hP hS hA (fun H locs z_1 hP hS => ?_)
  refine lv_if_eq (tgt := 20) hx hb dX8_told_9 (by decide) (fun c_2 => ?_) (fun c_2 => ?_)
  · have hq := it_t c_2 hq
    refine lv_aload_n hx hb dX8_told_20 rfl (lv_at hl 0 rfl) ?_
    refine lv_bipush (v := -2) hx hb dX8_told_21 (by decide) ?_
    obtain ⟨v_6, hq_5, hk⟩ := bd2_s hq
    obtain ⟨r_3, u_4⟩ := v_6
    have hq := hk _ _ rfl
    refine callIA (gV (rest := []) ⟨hx, hb, hml, hown, hts⟩ hG hP hD 0 8 rfl rfl (mtX8_refuses l D cI cB cR ad H.size states whyKind whyOrder many wide textLong spot readColumns all past refused work kept chosen across sum one two base quotients text numbers entries before (-2 : Int32) (r_3, u_4) hq_5) (cwV 1 hts gX8_told_X8_refuses rfl rfl rfl ⟨rfl, hd_X8_refuses⟩ ⟨Nat.le_of_ble_eq_true rfl, Nat.le_of_ble_eq_true rfl⟩) rfl hl.1 rfl (Nat.le_of_ble_eq_true rfl) dX8_told_23) hD hS hA (fun H locs hP hD hS => ?_)
    have hP : va_P D cls9 (wM cI ad states whyKind whyOrder many wide textLong spot readColumns all past u_4 work kept chosen across sum one two base quotients text numbers entries before) H := hP
    have hD : va_D A (wM cI ad states whyKind whyOrder many wide textLong spot readColumns all past u_4 work kept chosen across sum one two base quotients text numbers entries before) := hD
    have he := Option.some.inj hq
    subst he
    exact hE H locs _ _ _ rfl dX8_told_26 hP hD hS
  · have hq := it_f c_2 hq
    refine lv_aload_n hx hb dX8_told_12 rfl (lv_at hl 0 rfl) ?_
    refine lv_iload_n hx hb dX8_told_13 rfl (lv_at hl 1 rfl) ?_
    obtain ⟨v_9, hq_8, hk⟩ := bd1_s hq
    obtain ⟨r_7, rfl⟩ : ∃ y, y = v_9 := ⟨_, rfl⟩
    have hq := hk _ rfl
    refine callIA (gV (rest := []) ⟨hx, hb, hml, hown, hts⟩ hG hP hD 0 8 rfl rfl (mtX8_toldOf l D cI cB cR ad H.size states whyKind whyOrder many wide textLong spot readColumns all past refused work kept chosen across sum one two base quotients text numbers entries before a0 r_7 hq_8) (cwV 1 hts gX8_told_X8_toldOf rfl rfl rfl ⟨rfl, hd_X8_toldOf⟩ ⟨Nat.le_of_ble_eq_true rfl, Nat.le_of_ble_eq_true rfl⟩) rfl hl.1 rfl (Nat.le_of_ble_eq_true rfl) dX8_told_14) hD hS hA (fun H locs hP hD hS => ?_)
    have hP : va_P D cls9 (wM cI ad states whyKind whyOrder many wide textLong spot readColumns all past refused work kept chosen across sum one two base quotients text numbers entries before) H := hP
    have hD : va_D A (wM cI ad states whyKind whyOrder many wide textLong spot readColumns all past refused work kept chosen across sum one two base quotients text numbers entries before) := hD
    refine lv_goto (tgt := 26) hx hb dX8_told_17 (by decide) ?_
    have he := Option.some.inj hq
    subst he
    exact hE H locs _ _ _ rfl dX8_told_26 hP hD hS
abbrev rm_X8_digest : Room := { frames := 8, cells := 0, slots := 0, locals := 193 }
theorem fX8_digest_0 : Cond.constantLong RX8 336 (2441) ∈ wsX8_digest := (List.mem_cons_of_mem _ (List.mem_append_left _ (List.mem_append_left _ (List.mem_of_getElem? (i := 0) rfl))))
theorem fX8_digest_1 : Cond.constantLong RX8 338 (31) ∈ wsX8_digest := (List.mem_cons_of_mem _ (List.mem_append_left _ (List.mem_append_left _ (List.mem_of_getElem? (i := 1) rfl))))
theorem iX8_digest_X8 : ∀ w ∈ wsX80, w ∈ wsX8_digest := fun _ h => (List.mem_cons_of_mem _ (List.mem_append_right _ h))
theorem fX8_digest_3 : Cond.fieldLink RX8 317 "PopovRowsModel" "whyKind" "I" ∈ wsX8_digest := (List.mem_cons_of_mem _ (List.mem_append_left _ (List.mem_append_left _ (List.mem_of_getElem? (i := 2) rfl))))
theorem fX8_digest_4 : Cond.fieldLink RX8 19 "PopovRowsModel" "whyOrder" "I" ∈ wsX8_digest := (List.mem_cons_of_mem _ (List.mem_append_left _ (List.mem_append_left _ (List.mem_of_getElem? (i := 3) rfl))))
theorem fX8_digest_5 : Cond.fieldLink RX8 7 "PopovRowsModel" "all" "[I" ∈ wsX8_digest := (List.mem_cons_of_mem _ (List.mem_append_left _ (List.mem_append_left _ (List.mem_of_getElem? (i := 4) rfl))))
set_option maxHeartbeats 4000000 in
set_option maxRecDepth 100000 in
theorem mtX8_digest (l : Launch) (D : va_G) (cI cB cR : ClassId) (ad : Nat → Nat) (sz : Nat) (states : Int32) (whyKind : Int32) (whyOrder : Int32) (many : Int32) (wide : Int32) (textLong : Int32) (spot : Int32) (readColumns : Int32) (all : Nat → Int32) (past : Nat → Int32) (refused : Nat → Int32) (work : Nat → Int32) (kept : Nat → Int32) (chosen : Nat → Int32) (across : Nat → Int32) (sum : Nat → Int32) (one : Nat → Int32) (two : Nat → Int32) (base : Nat → Int32) (quotients : Nat → Int32) (text : Nat → Int32) (numbers : Nat → Int32) (entries : Nat → Int32) (before : Nat → Int32) (res : Int64 × Int32 × Int32 × (Nat → Int32)) (hf : fX8_digest states whyKind whyOrder textLong all refused work = some res) : Met l yX8_digest wsX8_digest rm_X8_digest (qP D cI cB cR [.ref (ad 0)] (wM cI ad states whyKind whyOrder many wide textLong spot readColumns all past refused work kept chosen across sum one two base quotients text numbers entries before) sz) (qL D res.1 (wM cI ad states whyKind whyOrder many wide textLong spot readColumns all past refused work kept chosen across sum one two base quotients text numbers entries before) (wM cI ad states whyKind whyOrder res.2.1 res.2.2.1 textLong spot readColumns all past refused res.2.2.2 kept chosen across sum one two base quotients text numbers entries before) sz) 0 0 (va_A (wM cI ad states whyKind whyOrder many wide textLong spot readColumns all past refused work kept chosen across sum one two base quotients text numbers entries before) sz) := by
  refine entL (plainFor_of_name (by decide)) rfl (Nat.le_of_ble_eq_true rfl) ?_
  intro p e s m args below meth c Q A ls S hG hP hD hA hl hE
  obtain ⟨hx, hb, hml, hown, hts⟩ := S
  have hown : s.vm.findClass RX8 = some m.cls := hown
  have hS : va_S A s.heap s.heap [] := va_S.rf
  have hl : lv_has ls 5 [(0, .ref (ad 0))] := hl
  have hq := hf
  unfold fX8_digest at hq
  obtain ⟨H, hH⟩ : ∃ H, H = s.heap := ⟨_, rfl⟩
  obtain ⟨locs, hlo⟩ : ∃ L : List Loc, L = [] := ⟨_, rfl⟩
  have hP : va_P D cls9 (wM cI ad states whyKind whyOrder many wide textLong spot readColumns all past refused work kept chosen across sum one two base quotients text numbers entries before) H := hH ▸ hP
  have hS : va_S A s.heap H locs := by rw [hH, hlo]; exact hS
  suffices hg : W p l e rm_X8_digest s m args below meth c H locs 0 0 Q (F0 m 0 ls []) by rw [hH, hlo] at hg; exact hg
  refine lv_ldc2 (v := 2441) hx hb hown (hts _ fX8_digest_0) dX8_digest_0 ?_
  refine lv_lstore_n (lv' := [(1, .long (2441 : Int64)), (0, .ref (ad 0))]) hx hb dX8_digest_3 rfl hl (by decide) rfl (fun ls hl => ?_)
  refine lv_iconst (v := 0) hx hb dX8_digest_4 (by decide) ?_
  refine lv_istore_n (lv' := [(3, .int (0 : Int32)), (1, .long (2441 : Int64)), (0, .ref (ad 0))]) hx hb dX8_digest_5 rfl hl (by decide) rfl (fun ls hl => ?_)
  obtain ⟨w1, hw1, hk1⟩ := bd1_s hq
  have hX1 : ∀ (x_7 : Int64), w1 = x_7 → ∀ (H : Heap) (locs : List Loc), va_P D cls9 (wM cI ad states whyKind whyOrder many wide textLong spot readColumns all past refused work kept chosen across sum one two base quotients text numbers entries before) H → va_D A (wM cI ad states whyKind whyOrder many wide textLong spot readColumns all past refused work kept chosen across sum one two base quotients text numbers entries before) → va_S A s.heap H locs → ∀ (ls : Array Slot), lv_has ls 5 [(0, .ref (ad 0)), (1, .long x_7)] → W p l e rm_X8_digest s m args below meth c H locs 0 0 Q (F0 m 31 ls []) := by
    intro x_7 hq H locs hP hD hS ls hl
    have hq := hk1 _ hq
    refine lv_ldc2 (v := 31) hx hb hown (hts _ fX8_digest_1) dX8_digest_31 ?_
    refine lv_ldc2 (v := 31) hx hb hown (hts _ fX8_digest_1) dX8_digest_34 ?_
    refine lv_lload_n hx hb dX8_digest_37 rfl (lv_at hl 1 rfl) ?_
    refine lv_lmul hx hb dX8_digest_38 ?_
    refine lv_aload_n hx hb dX8_digest_39 rfl (lv_at hl 0 rfl) ?_
    refine va_get (D := D) (ci := 8) (v := .int whyKind) (C := RX8) (T := TX8) (N := 24) hx hb hts iX8_digest_X8 hown hG.1 hP 0 rfl rfl 4 (by decide) (hts _ fX8_digest_3) (fun _ h9 => h9) rfl dX8_digest_40 ?_
    refine lv_i2l (v := (whyKind.toInt64)) hx hb dX8_digest_43 rfl ?_
    refine lv_ladd hx hb dX8_digest_44 ?_
    refine lv_lmul hx hb dX8_digest_45 ?_
    refine lv_aload_n hx hb dX8_digest_46 rfl (lv_at hl 0 rfl) ?_
    refine va_get (D := D) (ci := 8) (v := .int whyOrder) (C := RX8) (T := TX8) (N := 24) hx hb hts iX8_digest_X8 hown hG.1 hP 0 rfl rfl 5 (by decide) (hts _ fX8_digest_4) (fun _ h9 => h9) rfl dX8_digest_47 ?_
    refine lv_i2l (v := (whyOrder.toInt64)) hx hb dX8_digest_50 rfl ?_
    refine lv_ladd hx hb dX8_digest_51 ?_
    refine lv_lstore_n (lv' := [(1, .long (((31 : Int64) * (((31 : Int64) * x_7) + (whyKind.toInt64))) + (whyOrder.toInt64))), (0, .ref (ad 0))]) hx hb dX8_digest_52 rfl hl (by decide) rfl (fun ls hl => ?_)
    refine lv_iconst (v := 0) hx hb dX8_digest_53 (by decide) ?_
    refine lv_istore_n (lv' := [(3, .int (0 : Int32)), (1, .long (((31 : Int64) * (((31 : Int64) * x_7) + (whyKind.toInt64))) + (whyOrder.toInt64))), (0, .ref (ad 0))]) hx hb dX8_digest_54 rfl hl (by decide) rfl (fun ls hl => ?_)
    obtain ⟨w2, hw2, hk2⟩ := bd1_s hq
    have hX2 : ∀ (x_29 : Int64), w2 = x_29 → ∀ (H : Heap) (locs : List Loc), va_P D cls9 (wM cI ad states whyKind whyOrder many wide textLong spot readColumns all past refused work kept chosen across sum one two base quotients text numbers entries before) H → va_D A (wM cI ad states whyKind whyOrder many wide textLong spot readColumns all past refused work kept chosen across sum one two base quotients text numbers entries before) → va_S A s.heap H locs → ∀ (ls : Array Slot), lv_has ls 5 [(0, .ref (ad 0)), (1, .long x_29)] → W p l e rm_X8_digest s m args below meth c H locs 0 0 Q (F0 m 140 ls []) := by
      intro x_29 hq H locs hP hD hS ls hl
      have hq := hk2 _ hq
      refine lv_iconst (v := 1) hx hb dX8_digest_140 (by decide) ?_
      refine lv_aload_n hx hb dX8_digest_141 rfl (lv_at hl 0 rfl) ?_
      obtain ⟨v_32, hq_31, hk⟩ := bd1_s hq
      obtain ⟨r_30, rfl⟩ : ∃ y, y = v_32 := ⟨_, rfl⟩
      have hq := hk _ rfl
      refine callIA (gV (rest := [.int (1 : Int32)]) ⟨hx, hb, hml, hown, hts⟩ hG hP hD 0 8 rfl rfl (mtX8_rows l D cI cB cR ad H.size states whyKind whyOrder many wide textLong spot readColumns all past refused work kept chosen across sum one two base quotients text numbers entries before r_30 hq_31) (cwV 0 hts gX8_digest_X8_rows rfl rfl rfl ⟨rfl, hd_X8_rows⟩ ⟨Nat.le_of_ble_eq_true rfl, Nat.le_of_ble_eq_true rfl⟩) rfl hl.1 rfl (Nat.le_of_ble_eq_true rfl) dX8_digest_142) hD hS hA (fun H locs hP hD hS => ?_)
      have hP : va_P D cls9 (wM cI ad states whyKind whyOrder many wide textLong spot readColumns all past refused work kept chosen across sum one two base quotients text numbers entries before) H := hP
      have hD : va_D A (wM cI ad states whyKind whyOrder many wide textLong spot readColumns all past refused work kept chosen across sum one two base quotients text numbers entries before) := hD
      refine lv_ishl hx hb dX8_digest_145 ?_
      refine lv_iconst (v := 1) hx hb dX8_digest_146 (by decide) ?_
      refine lv_isub hx hb dX8_digest_147 ?_
      refine lv_istore_n (lv' := [(3, .int (((1 : Int32) <<< (r_30 &&& 31)) - (1 : Int32))), (0, .ref (ad 0)), (1, .long x_29)]) hx hb dX8_digest_148 rfl hl (by decide) rfl (fun ls hl => ?_)
      refine lv_ldc2 (v := 31) hx hb hown (hts _ fX8_digest_1) dX8_digest_149 ?_
      refine lv_ldc2 (v := 31) hx hb hown (hts _ fX8_digest_1) dX8_digest_152 ?_
      refine lv_lload_n hx hb dX8_digest_155 rfl (lv_at hl 2 rfl) ?_
      refine lv_lmul hx hb dX8_digest_156 ?_
      refine lv_aload_n hx hb dX8_digest_157 rfl (lv_at hl 1 rfl) ?_
      refine lv_iload_n hx hb dX8_digest_158 rfl (lv_at hl 0 rfl) ?_
      obtain ⟨v_38, hq_37, hk⟩ := bd4_s hq
      obtain ⟨r_33, u_34, u_35, u_36⟩ := v_38
      have hq := hk _ _ _ _ rfl
      refine callIA (gV (rest := [.long ((31 : Int64) * x_29), .long (31 : Int64)]) ⟨hx, hb, hml, hown, hts⟩ hG hP hD 0 8 rfl rfl (mtX8_rankOf l D cI cB cR ad H.size states whyKind whyOrder many wide textLong spot readColumns all past refused work kept chosen across sum one two base quotients text numbers entries before (((1 : Int32) <<< (r_30 &&& 31)) - (1 : Int32)) (r_33, u_34, u_35, u_36) hq_37) (cwV 1 hts gX8_digest_X8_rankOf rfl rfl rfl ⟨rfl, hd_X8_rankOf⟩ ⟨Nat.le_of_ble_eq_true rfl, Nat.le_of_ble_eq_true rfl⟩) rfl hl.1 rfl (Nat.le_of_ble_eq_true rfl) dX8_digest_159) hD hS hA (fun H locs hP hD hS => ?_)
      have hP : va_P D cls9 (wM cI ad states whyKind whyOrder u_34 u_35 textLong spot readColumns all past refused u_36 kept chosen across sum one two base quotients text numbers entries before) H := hP
      have hD : va_D A (wM cI ad states whyKind whyOrder u_34 u_35 textLong spot readColumns all past refused u_36 kept chosen across sum one two base quotients text numbers entries before) := hD
      refine lv_i2l (v := (r_33.toInt64)) hx hb dX8_digest_162 rfl ?_
      refine lv_ladd hx hb dX8_digest_163 ?_
      refine lv_lmul hx hb dX8_digest_164 ?_
      refine lv_aload_n hx hb dX8_digest_165 rfl (lv_at hl 1 rfl) ?_
      refine lv_iload_n hx hb dX8_digest_166 rfl (lv_at hl 0 rfl) ?_
      obtain ⟨v_44, hq_43, hk⟩ := bd4_s hq
      obtain ⟨r_39, u_40, u_41, u_42⟩ := v_44
      have hq := hk _ _ _ _ rfl
      refine callIA (gV (rest := [.long ((31 : Int64) * (((31 : Int64) * x_29) + (r_33.toInt64)))]) ⟨hx, hb, hml, hown, hts⟩ hG hP hD 0 8 rfl rfl (mtX8_leastOf l D cI cB cR ad H.size states whyKind whyOrder u_34 u_35 textLong spot readColumns all past refused u_36 kept chosen across sum one two base quotients text numbers entries before (((1 : Int32) <<< (r_30 &&& 31)) - (1 : Int32)) (r_39, u_40, u_41, u_42) hq_43) (cwV 1 hts gX8_digest_X8_leastOf rfl rfl rfl ⟨rfl, hd_X8_leastOf⟩ ⟨Nat.le_of_ble_eq_true rfl, Nat.le_of_ble_eq_true rfl⟩) rfl hl.1 rfl (Nat.le_of_ble_eq_true rfl) dX8_digest_167) hD hS hA (fun H locs hP hD hS => ?_)
      have hP : va_P D cls9 (wM cI ad states whyKind whyOrder u_40 u_41 textLong spot readColumns all past refused u_42 kept chosen across sum one two base quotients text numbers entries before) H := hP
      have hD : va_D A (wM cI ad states whyKind whyOrder u_40 u_41 textLong spot readColumns all past refused u_42 kept chosen across sum one two base quotients text numbers entries before) := hD
      refine lv_i2l (v := (r_39.toInt64)) hx hb dX8_digest_170 rfl ?_
      refine lv_ladd hx hb dX8_digest_171 ?_
      refine lv_lstore_n (lv' := [(1, .long (((31 : Int64) * (((31 : Int64) * x_29) + (r_33.toInt64))) + (r_39.toInt64))), (3, .int (((1 : Int32) <<< (r_30 &&& 31)) - (1 : Int32))), (0, .ref (ad 0))]) hx hb dX8_digest_172 rfl hl (by decide) rfl (fun ls hl => ?_)
      refine lv_ldc2 (v := 31) hx hb hown (hts _ fX8_digest_1) dX8_digest_173 ?_
      refine lv_ldc2 (v := 31) hx hb hown (hts _ fX8_digest_1) dX8_digest_176 ?_
      refine lv_lload_n hx hb dX8_digest_179 rfl (lv_at hl 0 rfl) ?_
      refine lv_lmul hx hb dX8_digest_180 ?_
      refine lv_aload_n hx hb dX8_digest_181 rfl (lv_at hl 2 rfl) ?_
      refine lv_iconst (v := 0) hx hb dX8_digest_182 (by decide) ?_
      obtain ⟨v_47, hq_46, hk⟩ := bd1_s hq
      obtain ⟨r_45, rfl⟩ : ∃ y, y = v_47 := ⟨_, rfl⟩
      have hq := hk _ rfl
      refine callIA (gV (rest := [.long ((31 : Int64) * (((31 : Int64) * (((31 : Int64) * x_29) + (r_33.toInt64))) + (r_39.toInt64))), .long (31 : Int64)]) ⟨hx, hb, hml, hown, hts⟩ hG hP hD 0 8 rfl rfl (mtX8_nextOf l D cI cB cR ad H.size states whyKind whyOrder u_40 u_41 textLong spot readColumns all past refused u_42 kept chosen across sum one two base quotients text numbers entries before (0 : Int32) r_45 hq_46) (cwV 1 hts gX8_digest_X8_nextOf rfl rfl rfl ⟨rfl, hd_X8_nextOf⟩ ⟨Nat.le_of_ble_eq_true rfl, Nat.le_of_ble_eq_true rfl⟩) rfl hl.1 rfl (Nat.le_of_ble_eq_true rfl) dX8_digest_183) hD hS hA (fun H locs hP hD hS => ?_)
      have hP : va_P D cls9 (wM cI ad states whyKind whyOrder u_40 u_41 textLong spot readColumns all past refused u_42 kept chosen across sum one two base quotients text numbers entries before) H := hP
      have hD : va_D A (wM cI ad states whyKind whyOrder u_40 u_41 textLong spot readColumns all past refused u_42 kept chosen across sum one two base quotients text numbers entries before) := hD
      refine lv_i2l (v := (r_45.toInt64)) hx hb dX8_digest_186 rfl ?_
      refine lv_ladd hx hb dX8_digest_187 ?_
      refine lv_lmul hx hb dX8_digest_188 ?_
      refine lv_aload_n hx hb dX8_digest_189 rfl (lv_at hl 2 rfl) ?_
      refine lv_iconst (v := 1) hx hb dX8_digest_190 (by decide) ?_
      obtain ⟨v_50, hq_49, hk⟩ := bd1_s hq
      obtain ⟨r_48, rfl⟩ : ∃ y, y = v_50 := ⟨_, rfl⟩
      have hq := hk _ rfl
      refine callIA (gV (rest := [.long ((31 : Int64) * (((31 : Int64) * (((31 : Int64) * (((31 : Int64) * x_29) + (r_33.toInt64))) + (r_39.toInt64))) + (r_45.toInt64)))]) ⟨hx, hb, hml, hown, hts⟩ hG hP hD 0 8 rfl rfl (mtX8_nextOf l D cI cB cR ad H.size states whyKind whyOrder u_40 u_41 textLong spot readColumns all past refused u_42 kept chosen across sum one two base quotients text numbers entries before (1 : Int32) r_48 hq_49) (cwV 1 hts gX8_digest_X8_nextOf rfl rfl rfl ⟨rfl, hd_X8_nextOf⟩ ⟨Nat.le_of_ble_eq_true rfl, Nat.le_of_ble_eq_true rfl⟩) rfl hl.1 rfl (Nat.le_of_ble_eq_true rfl) dX8_digest_191) hD hS hA (fun H locs hP hD hS => ?_)
      have hP : va_P D cls9 (wM cI ad states whyKind whyOrder u_40 u_41 textLong spot readColumns all past refused u_42 kept chosen across sum one two base quotients text numbers entries before) H := hP
      have hD : va_D A (wM cI ad states whyKind whyOrder u_40 u_41 textLong spot readColumns all past refused u_42 kept chosen across sum one two base quotients text numbers entries before) := hD
      refine lv_i2l (v := (r_48.toInt64)) hx hb dX8_digest_194 rfl ?_
      refine lv_ladd hx hb dX8_digest_195 ?_
      have he := Option.some.inj hq
      subst he
      exact hE H locs _ _ _ rfl dX8_digest_196 hP hD hS
    have hL2 : ∀ (n : Nat) (i_8 : Int64) (i_9 : Int32), lrun (fun (z : Int64 × Int32) => fX8_digest_s55 all z.1 z.2) n (i_8, i_9) = some w2 → ∀ (H : Heap) (locs : List Loc), va_P D cls9 (wM cI ad states whyKind whyOrder many wide textLong spot readColumns all past refused work kept chosen across sum one two base quotients text numbers entries before) H → va_D A (wM cI ad states whyKind whyOrder many wide textLong spot readColumns all past refused work kept chosen across sum one two base quotients text numbers entries before) → va_S A s.heap H locs → ∀ (ls : Array Slot), lv_has ls 5 [(0, .ref (ad 0)), (1, .long i_8), (3, .int i_9)] → W p l e rm_X8_digest s m args below meth c H locs 0 0 Q (F0 m 55 ls []) := by
      intro n
      induction n with
      | zero => intro i_8 i_9 h; cases h
      | succ n ih2 =>
        intro i_8 i_9 hr2 H locs hP hD hS ls hl
        obtain ⟨k, v2, hk, hr2, ht2, hv2⟩ := lrun_s hr2
        cases hk
        have hr2 : fX8_digest_s55 all i_8 i_9 = some v2 := hr2
        unfold fX8_digest_s55 at hr2
        refine lv_iload_n hx hb dX8_digest_55 rfl (lv_at hl 2 rfl) ?_
        refine lv_aload_n hx hb dX8_digest_56 rfl (lv_at hl 0 rfl) ?_
        obtain ⟨v_12, hq_11, hk⟩ := bd1_s hr2
        obtain ⟨r_10, rfl⟩ : ∃ y, y = v_12 := ⟨_, rfl⟩
        have hr2 := hk _ rfl
        refine callIA (gV (rest := [.int i_9]) ⟨hx, hb, hml, hown, hts⟩ hG hP hD 0 8 rfl rfl (mtX8_rows l D cI cB cR ad H.size states whyKind whyOrder many wide textLong spot readColumns all past refused work kept chosen across sum one two base quotients text numbers entries before r_10 hq_11) (cwV 0 hts gX8_digest_X8_rows rfl rfl rfl ⟨rfl, hd_X8_rows⟩ ⟨Nat.le_of_ble_eq_true rfl, Nat.le_of_ble_eq_true rfl⟩) rfl hl.1 rfl (Nat.le_of_ble_eq_true rfl) dX8_digest_57) hD hS hA (fun H locs hP hD hS => ?_)
        have hP : va_P D cls9 (wM cI ad states whyKind whyOrder many wide textLong spot readColumns all past refused work kept chosen across sum one two base quotients text numbers entries before) H := hP
        have hD : va_D A (wM cI ad states whyKind whyOrder many wide textLong spot readColumns all past refused work kept chosen across sum one two base quotients text numbers entries before) := hD
        refine lv_icmp_ge (tgt := 140) hx hb dX8_digest_60 (by decide) (fun c_13 => ?_) (fun c_13 => ?_)
        · have hr2 := it_t c_13 hr2
          exact hX2 i_8 (hv2 _ (Option.some.inj hr2).symm).symm H locs hP hD hS ls (lv_sub hl [0, 1] rfl)
        · have hr2 := it_f c_13 hr2
          refine lv_iconst (v := 0) hx hb dX8_digest_63 (by decide) ?_
          refine lv_istore (lv' := [(4, .int (0 : Int32)), (0, .ref (ad 0)), (1, .long i_8), (3, .int i_9)]) hx hb dX8_digest_64 hl (by decide) rfl (fun ls hl => ?_)
          obtain ⟨w3, hw3, hk3⟩ := bd1_s hr2
          have hX3 : ∀ (x_20 : Int64), w3 = x_20 → ∀ (H : Heap) (locs : List Loc), va_P D cls9 (wM cI ad states whyKind whyOrder many wide textLong spot readColumns all past refused work kept chosen across sum one two base quotients text numbers entries before) H → va_D A (wM cI ad states whyKind whyOrder many wide textLong spot readColumns all past refused work kept chosen across sum one two base quotients text numbers entries before) → va_S A s.heap H locs → ∀ (ls : Array Slot), lv_has ls 5 [(0, .ref (ad 0)), (1, .long x_20), (3, .int i_9)] → W p l e rm_X8_digest s m args below meth c H locs 0 0 Q (F0 m 93 ls []) := by
            intro x_20 hq H locs hP hD hS ls hl
            have hr2 := hk3 _ hq
            refine lv_iconst (v := 0) hx hb dX8_digest_93 (by decide) ?_
            refine lv_istore (lv' := [(4, .int (0 : Int32)), (0, .ref (ad 0)), (1, .long x_20), (3, .int i_9)]) hx hb dX8_digest_94 hl (by decide) rfl (fun ls hl => ?_)
            obtain ⟨w4, hw4, hk4⟩ := bd1_s hr2
            have hX4 : ∀ (x_28 : Int64), w4 = x_28 → ∀ (H : Heap) (locs : List Loc), va_P D cls9 (wM cI ad states whyKind whyOrder many wide textLong spot readColumns all past refused work kept chosen across sum one two base quotients text numbers entries before) H → va_D A (wM cI ad states whyKind whyOrder many wide textLong spot readColumns all past refused work kept chosen across sum one two base quotients text numbers entries before) → va_S A s.heap H locs → ∀ (ls : Array Slot), lv_has ls 5 [(0, .ref (ad 0)), (1, .long x_28), (3, .int i_9)] → W p l e rm_X8_digest s m args below meth c H locs 0 0 Q (F0 m 134 ls []) := by
              intro x_28 hq H locs hP hD hS ls hl
              have hr2 := hk4 _ hq
              refine lv_iinc (v := (i_9 + 1)) (lv' := [(3, .int (i_9 + 1)), (0, .ref (ad 0)), (1, .long x_28)]) hx hb dX8_digest_134 hl (k := 2) rfl rfl (by decide) rfl (fun ls hl => ?_)
              refine lv_goto (tgt := 55) hx hb dX8_digest_137 (by decide) ?_
              exact ih2 x_28 (i_9 + 1) (ht2 _ (Option.some.inj hr2).symm) H locs hP hD hS ls (lv_sub hl [1, 2, 0] rfl)
            have hL4 : ∀ (n : Nat) (i_21 : Int64) (i_22 : Int32), lrun (fun (z : Int64 × Int32) => fX8_digest_s96 all i_9 z.1 z.2) n (i_21, i_22) = some w4 → ∀ (H : Heap) (locs : List Loc), va_P D cls9 (wM cI ad states whyKind whyOrder many wide textLong spot readColumns all past refused work kept chosen across sum one two base quotients text numbers entries before) H → va_D A (wM cI ad states whyKind whyOrder many wide textLong spot readColumns all past refused work kept chosen across sum one two base quotients text numbers entries before) → va_S A s.heap H locs → ∀ (ls : Array Slot), lv_has ls 5 [(0, .ref (ad 0)), (1, .long i_21), (3, .int i_9), (4, .int i_22)] → W p l e rm_X8_digest s m args below meth c H locs 0 0 Q (F0 m 96 ls []) := by
              intro n
              induction n with
              | zero => intro i_21 i_22 h; cases h
              | succ n ih4 =>
                intro i_21 i_22 hr4 H locs hP hD hS ls hl
                obtain ⟨k, v4, hk, hr4, ht4, hv4⟩ := lrun_s hr4
                cases hk
                have hr4 : fX8_digest_s96 all i_9 i_21 i_22 = some v4 := hr4
                unfold fX8_digest_s96 at hr4
                refine lv_iload hx hb dX8_digest_96 (lv_at hl 3 rfl) ?_
                refine lv_aload_n hx hb dX8_digest_98 rfl (lv_at hl 0 rfl) ?_
                obtain ⟨v_25, hq_24, hk⟩ := bd1_s hr4
                obtain ⟨r_23, rfl⟩ : ∃ y, y = v_25 := ⟨_, rfl⟩
                have hr4 := hk _ rfl
                refine callIA (gV (rest := [.int i_22]) ⟨hx, hb, hml, hown, hts⟩ hG hP hD 0 8 rfl rfl (mtX8_width l D cI cB cR ad H.size states whyKind whyOrder many wide textLong spot readColumns all past refused work kept chosen across sum one two base quotients text numbers entries before r_23 hq_24) (cwV 0 hts gX8_digest_X8_width rfl rfl rfl ⟨rfl, hd_X8_width⟩ ⟨Nat.le_of_ble_eq_true rfl, Nat.le_of_ble_eq_true rfl⟩) rfl hl.1 rfl (Nat.le_of_ble_eq_true rfl) dX8_digest_99) hD hS hA (fun H locs hP hD hS => ?_)
                have hP : va_P D cls9 (wM cI ad states whyKind whyOrder many wide textLong spot readColumns all past refused work kept chosen across sum one two base quotients text numbers entries before) H := hP
                have hD : va_D A (wM cI ad states whyKind whyOrder many wide textLong spot readColumns all past refused work kept chosen across sum one two base quotients text numbers entries before) := hD
                refine lv_bipush (v := 7) hx hb dX8_digest_102 (by decide) ?_
                refine lv_imul hx hb dX8_digest_104 ?_
                refine lv_icmp_ge (tgt := 134) hx hb dX8_digest_105 (by decide) (fun c_26 => ?_) (fun c_26 => ?_)
                · have hr4 := it_t c_26 hr4
                  exact hX4 i_21 (hv4 _ (Option.some.inj hr4).symm).symm H locs hP hD hS ls (lv_sub hl [0, 1, 2] rfl)
                · have hr4 := it_f c_26 hr4
                  refine lv_ldc2 (v := 31) hx hb hown (hts _ fX8_digest_1) dX8_digest_108 ?_
                  refine lv_lload_n hx hb dX8_digest_111 rfl (lv_at hl 1 rfl) ?_
                  refine lv_lmul hx hb dX8_digest_112 ?_
                  refine lv_aload_n hx hb dX8_digest_113 rfl (lv_at hl 0 rfl) ?_
                  refine va_get (D := D) (ci := 8) (v := .ref (ad 1)) (C := RX8) (T := TX8) (N := 24) hx hb hts iX8_digest_X8 hown hG.1 hP 0 rfl rfl 0 (by decide) (hts _ fX8_digest_5) (fun _ h9 => h9) rfl dX8_digest_114 ?_
                  refine lv_iload_n hx hb dX8_digest_117 rfl (lv_at hl 2 rfl) ?_
                  refine lv_iconst (v := 0) hx hb dX8_digest_118 (by decide) ?_
                  refine lv_iload hx hb dX8_digest_119 (lv_at hl 3 rfl) ?_
                  refine callI0 (gS (rest := [.ref (ad 1), .long ((31 : Int64) * i_21)]) ⟨hx, hb, hml, hown, hts⟩ hG vaP0 (vaD0 (A := A)) (mtX8_place l D cI cB cR H.size i_9 (0 : Int32) i_22 _ rfl) (va_cwS 3 hts gX8_digest_X8_place rfl rfl rfl hd_X8_place ⟨Nat.le_of_ble_eq_true rfl, Nat.le_of_ble_eq_true rfl⟩) rfl hl.1 rfl (Nat.le_of_ble_eq_true rfl) dX8_digest_121) hP hS hA (fun H locs hP hS => ?_)
                  obtain ⟨h_27, hr4⟩ := gd_s hr4
                  refine va_iald hx hb hG.1 hP 1 0 rfl rfl h_27 dX8_digest_124 ?_
                  refine lv_i2l (v := (((all (fX8_place i_9 (0 : Int32) i_22).toNatClampNeg)).toInt64)) hx hb dX8_digest_125 rfl ?_
                  refine lv_ladd hx hb dX8_digest_126 ?_
                  refine lv_lstore_n (lv' := [(1, .long (((31 : Int64) * i_21) + (((all (fX8_place i_9 (0 : Int32) i_22).toNatClampNeg)).toInt64))), (0, .ref (ad 0)), (3, .int i_9), (4, .int i_22)]) hx hb dX8_digest_127 rfl hl (by decide) rfl (fun ls hl => ?_)
                  refine lv_iinc (v := (i_22 + 1)) (lv' := [(4, .int (i_22 + 1)), (1, .long (((31 : Int64) * i_21) + (((all (fX8_place i_9 (0 : Int32) i_22).toNatClampNeg)).toInt64))), (0, .ref (ad 0)), (3, .int i_9)]) hx hb dX8_digest_128 hl (k := 3) rfl rfl (by decide) rfl (fun ls hl => ?_)
                  refine lv_goto (tgt := 96) hx hb dX8_digest_131 (by decide) ?_
                  exact ih4 (((31 : Int64) * i_21) + (((all (fX8_place i_9 (0 : Int32) i_22).toNatClampNeg)).toInt64)) (i_22 + 1) (ht4 _ (Option.some.inj hr4).symm) H locs hP hD hS ls (lv_sub hl [2, 1, 3, 0] rfl)
            obtain ⟨n4, hn4⟩ := Lp_s hw4
            exact hL4 n4 x_20 (0 : Int32) hn4 H locs hP hD hS ls (lv_sub hl [1, 2, 3, 0] rfl)
          have hL3 : ∀ (n : Nat) (i_14 : Int64) (i_15 : Int32), lrun (fun (z : Int64 × Int32) => fX8_digest_s66 all i_9 z.1 z.2) n (i_14, i_15) = some w3 → ∀ (H : Heap) (locs : List Loc), va_P D cls9 (wM cI ad states whyKind whyOrder many wide textLong spot readColumns all past refused work kept chosen across sum one two base quotients text numbers entries before) H → va_D A (wM cI ad states whyKind whyOrder many wide textLong spot readColumns all past refused work kept chosen across sum one two base quotients text numbers entries before) → va_S A s.heap H locs → ∀ (ls : Array Slot), lv_has ls 5 [(0, .ref (ad 0)), (1, .long i_14), (3, .int i_9), (4, .int i_15)] → W p l e rm_X8_digest s m args below meth c H locs 0 0 Q (F0 m 66 ls []) := by
            intro n
            induction n with
            | zero => intro i_14 i_15 h; cases h
            | succ n ih3 =>
              intro i_14 i_15 hr3 H locs hP hD hS ls hl
              obtain ⟨k, v3, hk, hr3, ht3, hv3⟩ := lrun_s hr3
              cases hk
              have hr3 : fX8_digest_s66 all i_9 i_14 i_15 = some v3 := hr3
              unfold fX8_digest_s66 at hr3
              refine lv_iload hx hb dX8_digest_66 (lv_at hl 3 rfl) ?_
              refine lv_iconst (v := 3) hx hb dX8_digest_68 (by decide) ?_
              refine lv_icmp_ge (tgt := 93) hx hb dX8_digest_69 (by decide) (fun c_16 => ?_) (fun c_16 => ?_)
              · have hr3 := it_t c_16 hr3
                exact hX3 i_14 (hv3 _ (Option.some.inj hr3).symm).symm H locs hP hD hS ls (lv_sub hl [0, 1, 2] rfl)
              · have hr3 := it_f c_16 hr3
                refine lv_ldc2 (v := 31) hx hb hown (hts _ fX8_digest_1) dX8_digest_72 ?_
                refine lv_lload_n hx hb dX8_digest_75 rfl (lv_at hl 1 rfl) ?_
                refine lv_lmul hx hb dX8_digest_76 ?_
                refine lv_aload_n hx hb dX8_digest_77 rfl (lv_at hl 0 rfl) ?_
                refine lv_iload_n hx hb dX8_digest_78 rfl (lv_at hl 2 rfl) ?_
                refine lv_iload hx hb dX8_digest_79 (lv_at hl 3 rfl) ?_
                obtain ⟨v_19, hq_18, hk⟩ := bd1_s hr3
                obtain ⟨r_17, rfl⟩ : ∃ y, y = v_19 := ⟨_, rfl⟩
                have hr3 := hk _ rfl
                refine callIA (gV (rest := [.long ((31 : Int64) * i_14)]) ⟨hx, hb, hml, hown, hts⟩ hG hP hD 0 8 rfl rfl (mtX8_aboutRow l D cI cB cR ad H.size states whyKind whyOrder many wide textLong spot readColumns all past refused work kept chosen across sum one two base quotients text numbers entries before i_9 i_15 r_17 hq_18) (cwV 2 hts gX8_digest_X8_aboutRow rfl rfl rfl ⟨rfl, hd_X8_aboutRow⟩ ⟨Nat.le_of_ble_eq_true rfl, Nat.le_of_ble_eq_true rfl⟩) rfl hl.1 rfl (Nat.le_of_ble_eq_true rfl) dX8_digest_81) hD hS hA (fun H locs hP hD hS => ?_)
                have hP : va_P D cls9 (wM cI ad states whyKind whyOrder many wide textLong spot readColumns all past refused work kept chosen across sum one two base quotients text numbers entries before) H := hP
                have hD : va_D A (wM cI ad states whyKind whyOrder many wide textLong spot readColumns all past refused work kept chosen across sum one two base quotients text numbers entries before) := hD
                refine lv_i2l (v := (r_17.toInt64)) hx hb dX8_digest_84 rfl ?_
                refine lv_ladd hx hb dX8_digest_85 ?_
                refine lv_lstore_n (lv' := [(1, .long (((31 : Int64) * i_14) + (r_17.toInt64))), (0, .ref (ad 0)), (3, .int i_9), (4, .int i_15)]) hx hb dX8_digest_86 rfl hl (by decide) rfl (fun ls hl => ?_)
                refine lv_iinc (v := (i_15 + 1)) (lv' := [(4, .int (i_15 + 1)), (1, .long (((31 : Int64) * i_14) + (r_17.toInt64))), (0, .ref (ad 0)), (3, .int i_9)]) hx hb dX8_digest_87 hl (k := 3) rfl rfl (by decide) rfl (fun ls hl => ?_)
                refine lv_goto (tgt := 66) hx hb dX8_digest_90 (by decide) ?_
                exact ih3 (((31 : Int64) * i_14) + (r_17.toInt64)) (i_15 + 1) (ht3 _ (Option.some.inj hr3).symm) H locs hP hD hS ls (lv_sub hl [2, 1, 3, 0] rfl)
          obtain ⟨n3, hn3⟩ := Lp_s hw3
          exact hL3 n3 i_8 (0 : Int32) hn3 H locs hP hD hS ls (lv_sub hl [1, 2, 3, 0] rfl)
    obtain ⟨n2, hn2⟩ := Lp_s hw2
    exact hL2 n2 (((31 : Int64) * (((31 : Int64) * x_7) + (whyKind.toInt64))) + (whyOrder.toInt64)) (0 : Int32) hn2 H locs hP hD hS ls (lv_sub hl [2, 1, 0] rfl)
  have hL1 : ∀ (n : Nat) (i_1 : Int64) (i_2 : Int32), lrun (fun (z : Int64 × Int32) => fX8_digest_s6 states textLong all refused z.1 z.2) n (i_1, i_2) = some w1 → ∀ (H : Heap) (locs : List Loc), va_P D cls9 (wM cI ad states whyKind whyOrder many wide textLong spot readColumns all past refused work kept chosen across sum one two base quotients text numbers entries before) H → va_D A (wM cI ad states whyKind whyOrder many wide textLong spot readColumns all past refused work kept chosen across sum one two base quotients text numbers entries before) → va_S A s.heap H locs → ∀ (ls : Array Slot), lv_has ls 5 [(0, .ref (ad 0)), (1, .long i_1), (3, .int i_2)] → W p l e rm_X8_digest s m args below meth c H locs 0 0 Q (F0 m 6 ls []) := by
    intro n
    induction n with
    | zero => intro i_1 i_2 h; cases h
    | succ n ih1 =>
      intro i_1 i_2 hr1 H locs hP hD hS ls hl
      obtain ⟨k, v1, hk, hr1, ht1, hv1⟩ := lrun_s hr1
      cases hk
      have hr1 : fX8_digest_s6 states textLong all refused i_1 i_2 = some v1 := hr1
      unfold fX8_digest_s6 at hr1
      refine lv_iload_n hx hb dX8_digest_6 rfl (lv_at hl 2 rfl) ?_
      refine lv_bipush (v := 8) hx hb dX8_digest_7 (by decide) ?_
      refine lv_icmp_ge (tgt := 31) hx hb dX8_digest_9 (by decide) (fun c_3 => ?_) (fun c_3 => ?_)
      · have hr1 := it_t c_3 hr1
        exact hX1 i_1 (hv1 _ (Option.some.inj hr1).symm).symm H locs hP hD hS ls (lv_sub hl [0, 1] rfl)
      · have hr1 := it_f c_3 hr1
        refine lv_ldc2 (v := 31) hx hb hown (hts _ fX8_digest_1) dX8_digest_12 ?_
        refine lv_lload_n hx hb dX8_digest_15 rfl (lv_at hl 1 rfl) ?_
        refine lv_lmul hx hb dX8_digest_16 ?_
        refine lv_aload_n hx hb dX8_digest_17 rfl (lv_at hl 0 rfl) ?_
        refine lv_iload_n hx hb dX8_digest_18 rfl (lv_at hl 2 rfl) ?_
        obtain ⟨v_6, hq_5, hk⟩ := bd1_s hr1
        obtain ⟨r_4, rfl⟩ : ∃ y, y = v_6 := ⟨_, rfl⟩
        have hr1 := hk _ rfl
        refine callIA (gV (rest := [.long ((31 : Int64) * i_1)]) ⟨hx, hb, hml, hown, hts⟩ hG hP hD 0 8 rfl rfl (mtX8_toldOf l D cI cB cR ad H.size states whyKind whyOrder many wide textLong spot readColumns all past refused work kept chosen across sum one two base quotients text numbers entries before i_2 r_4 hq_5) (cwV 1 hts gX8_digest_X8_toldOf rfl rfl rfl ⟨rfl, hd_X8_toldOf⟩ ⟨Nat.le_of_ble_eq_true rfl, Nat.le_of_ble_eq_true rfl⟩) rfl hl.1 rfl (Nat.le_of_ble_eq_true rfl) dX8_digest_19) hD hS hA (fun H locs hP hD hS => ?_)
        have hP : va_P D cls9 (wM cI ad states whyKind whyOrder many wide textLong spot readColumns all past refused work kept chosen across sum one two base quotients text numbers entries before) H := hP
        have hD : va_D A (wM cI ad states whyKind whyOrder many wide textLong spot readColumns all past refused work kept chosen across sum one two base quotients text numbers entries before) := hD
        refine lv_i2l (v := (r_4.toInt64)) hx hb dX8_digest_22 rfl ?_
        refine lv_ladd hx hb dX8_digest_23 ?_
        refine lv_lstore_n (lv' := [(1, .long (((31 : Int64) * i_1) + (r_4.toInt64))), (0, .ref (ad 0)), (3, .int i_2)]) hx hb dX8_digest_24 rfl hl (by decide) rfl (fun ls hl => ?_)
        refine lv_iinc (v := (i_2 + 1)) (lv' := [(3, .int (i_2 + 1)), (1, .long (((31 : Int64) * i_1) + (r_4.toInt64))), (0, .ref (ad 0))]) hx hb dX8_digest_25 hl (k := 2) rfl rfl (by decide) rfl (fun ls hl => ?_)
        refine lv_goto (tgt := 6) hx hb dX8_digest_28 (by decide) ?_
        exact ih1 (((31 : Int64) * i_1) + (r_4.toInt64)) (i_2 + 1) (ht1 _ (Option.some.inj hr1).symm) H locs hP hD hS ls (lv_sub hl [2, 1, 0] rfl)
  obtain ⟨n1, hn1⟩ := Lp_s hw1
  exact hL1 n1 (2441 : Int64) (0 : Int32) hn1 H locs hP hD hS ls (lv_sub hl [2, 1, 0] rfl)
