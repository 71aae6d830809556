abbrev rm_X8_stepNow : Room := { frames := 3, cells := 0, slots := 0, locals := 68 }
theorem iX8_stepNow_X8 : ∀ w ∈ wsX80, w ∈ wsX8_stepNow := fun _ h => (List.mem_cons_of_mem _ (List.mem_append_right _ h))
theorem fX8_stepNow_1 : Cond.fieldLink RX8 7 "PopovRowsModel" "all" "[I" ∈ wsX8_stepNow := (List.mem_cons_of_mem _ (List.mem_append_left _ (List.mem_append_left _ (List.mem_of_getElem? (i := 0) rfl))))
set_option maxHeartbeats 4000000 in
set_option maxRecDepth 100000 in
theorem mtX8_stepNow (l : Launch) (D : va_G) (cI cB cR : ClassId) (ad : Nat → Nat) (sz : Nat) (states : Int32) (whyKind : Int32) (whyOrder : Int32) (many : Int32) (wide : Int32) (textLong : Int32) (spot : Int32) (readColumns : Int32) (all : Nat → Int32) (past : Nat → Int32) (refused : Nat → Int32) (work : Nat → Int32) (kept : Nat → Int32) (chosen : Nat → Int32) (across : Nat → Int32) (sum : Nat → Int32) (one : Nat → Int32) (two : Nat → Int32) (base : Nat → Int32) (quotients : Nat → Int32) (text : Nat → Int32) (numbers : Nat → Int32) (entries : Nat → Int32) (before : Nat → Int32) (a0 : Int32) (a1 : Int32) (a2 : Int32) (a3 : Int32) (res : Int32 × (Nat → Int32)) (hf : fX8_stepNow all a0 a1 a2 a3 = some res) : Met l yX8_stepNow wsX8_stepNow rm_X8_stepNow (qP D cI cB cR [.ref (ad 0), .int a0, .int a1, .int a2, .int a3] (wM cI ad states whyKind whyOrder many wide textLong spot readColumns all past refused work kept chosen across sum one two base quotients text numbers entries before) sz) (qI D res.1 (wM cI ad states whyKind whyOrder many wide textLong spot readColumns all past refused work kept chosen across sum one two base quotients text numbers entries before) (wM cI ad states whyKind whyOrder many wide textLong spot readColumns res.2 past refused work kept chosen across sum one two base quotients text numbers entries before) sz) 0 0 (va_A (wM cI ad states whyKind whyOrder many wide textLong spot readColumns all past refused work kept chosen across sum one two base quotients text numbers entries before) sz) := by
  refine entI (plainFor_of_name (by decide)) rfl (Nat.le_of_ble_eq_true rfl) ?_
  intro p e s m args below meth c Q A ls S hG hP hD hA hl hE
  obtain ⟨hx, hb, hml, hown, hts⟩ := S
  have hown : s.vm.findClass RX8 = some m.cls := hown
  have hS : va_S A s.heap s.heap [] := va_S.rf
  have hl : lv_has ls 7 [(0, .ref (ad 0)), (1, .int a0), (2, .int a1), (3, .int a2), (4, .int a3)] := hl
  have hq := hf
  unfold fX8_stepNow at hq
  obtain ⟨H, hH⟩ : ∃ H, H = s.heap := ⟨_, rfl⟩
  obtain ⟨locs, hlo⟩ : ∃ L : List Loc, L = [] := ⟨_, rfl⟩
  have hP : va_P D cls9 (wM cI ad states whyKind whyOrder many wide textLong spot readColumns all past refused work kept chosen across sum one two base quotients text numbers entries before) H := hH ▸ hP
  have hS : va_S A s.heap H locs := by rw [hH, hlo]; exact hS
  suffices hg : W p l e rm_X8_stepNow s m args below meth c H locs 0 0 Q (F0 m 0 ls []) by rw [hH, hlo] at hg; exact hg
  refine lv_iconst (v := 0) hx hb dX8_stepNow_0 (by decide) ?_
  refine lv_istore (lv' := [(5, .int (0 : Int32)), (0, .ref (ad 0)), (1, .int a0), (2, .int a1), (3, .int a2), (4, .int a3)]) hx hb dX8_stepNow_1 hl (by decide) rfl (fun ls hl => ?_)
  obtain ⟨w1, hw1, hk1⟩ := bd1_s hq
  have hX1 : ∀ (x_17 : Nat → Int32), w1 = x_17 → ∀ (H : Heap) (locs : List Loc), va_P D cls9 (wM cI ad states whyKind whyOrder many wide textLong spot readColumns x_17 past refused work kept chosen across sum one two base quotients text numbers entries before) H → va_D A (wM cI ad states whyKind whyOrder many wide textLong spot readColumns x_17 past refused work kept chosen across sum one two base quotients text numbers entries before) → va_S A s.heap H locs → ∀ (ls : Array Slot), lv_has ls 7 [(0, .ref (ad 0)), (1, .int a0)] → W p l e rm_X8_stepNow s m args below meth c H locs 0 0 Q (F0 m 84 ls []) := by
    intro x_17 hq H locs hP hD hS ls hl
    have hq := hk1 _ hq
    refine lv_aload_n hx hb dX8_stepNow_84 rfl (lv_at hl 0 rfl) ?_
    refine lv_iload_n hx hb dX8_stepNow_85 rfl (lv_at hl 1 rfl) ?_
    obtain ⟨v_20, hq_19, hk⟩ := bd1_s hq
    obtain ⟨r_18, rfl⟩ : ∃ y, y = v_20 := ⟨_, rfl⟩
    have hq := hk _ rfl
    refine callIA (gV (rest := []) ⟨hx, hb, hml, hown, hts⟩ hG hP hD 0 8 rfl rfl (mtX8_degree l D cI cB cR ad H.size states whyKind whyOrder many wide textLong spot readColumns x_17 past refused work kept chosen across sum one two base quotients text numbers entries before a0 r_18 hq_19) (cwV 1 hts gX8_stepNow_X8_degree rfl rfl rfl ⟨rfl, hd_X8_degree⟩ ⟨Nat.le_of_ble_eq_true rfl, Nat.le_of_ble_eq_true rfl⟩) rfl hl.1 rfl (Nat.le_of_ble_eq_true rfl) dX8_stepNow_86) hD hS hA (fun H locs hP hD hS => ?_)
    have hP : va_P D cls9 (wM cI ad states whyKind whyOrder many wide textLong spot readColumns x_17 past refused work kept chosen across sum one two base quotients text numbers entries before) H := hP
    have hD : va_D A (wM cI ad states whyKind whyOrder many wide textLong spot readColumns x_17 past refused work kept chosen across sum one two base quotients text numbers entries before) := hD
    have he := Option.some.inj hq
    subst he
    exact hE H locs _ _ _ rfl dX8_stepNow_89 hP hD hS
  have hL1 : ∀ (n : Nat) (i_1 : Int32) (i_2 : Nat → Int32), lrun (fun (z : Int32 × (Nat → Int32)) => fX8_stepNow_s3 a0 a1 a2 a3 z.1 z.2) n (i_1, i_2) = some w1 → ∀ (H : Heap) (locs : List Loc), va_P D cls9 (wM cI ad states whyKind whyOrder many wide textLong spot readColumns i_2 past refused work kept chosen across sum one two base quotients text numbers entries before) H → va_D A (wM cI ad states whyKind whyOrder many wide textLong spot readColumns i_2 past refused work kept chosen across sum one two base quotients text numbers entries before) → va_S A s.heap H locs → ∀ (ls : Array Slot), lv_has ls 7 [(0, .ref (ad 0)), (1, .int a0), (2, .int a1), (3, .int a2), (4, .int a3), (5, .int i_1)] → W p l e rm_X8_stepNow s m args below meth c H locs 0 0 Q (F0 m 3 ls []) := by
    intro n
    induction n with
    | zero => intro i_1 i_2 h; cases h
    | succ n ih1 =>
      intro i_1 i_2 hr1 H locs hP hD hS ls hl
      obtain ⟨k, v1, hk, hr1, ht1, hv1⟩ := lrun_s hr1
      cases hk
      have hr1 : fX8_stepNow_s3 a0 a1 a2 a3 i_1 i_2 = some v1 := hr1
      unfold fX8_stepNow_s3 at hr1
      refine lv_iload hx hb dX8_stepNow_3 (lv_at hl 5 rfl) ?_
      refine lv_aload_n hx hb dX8_stepNow_5 rfl (lv_at hl 0 rfl) ?_
      obtain ⟨v_5, hq_4, hk⟩ := bd1_s hr1
      obtain ⟨r_3, rfl⟩ : ∃ y, y = v_5 := ⟨_, rfl⟩
      have hr1 := hk _ rfl
      refine callIA (gV (rest := [.int i_1]) ⟨hx, hb, hml, hown, hts⟩ hG hP hD 0 8 rfl rfl (mtX8_width l D cI cB cR ad H.size states whyKind whyOrder many wide textLong spot readColumns i_2 past refused work kept chosen across sum one two base quotients text numbers entries before r_3 hq_4) (cwV 0 hts gX8_stepNow_X8_width rfl rfl rfl ⟨rfl, hd_X8_width⟩ ⟨Nat.le_of_ble_eq_true rfl, Nat.le_of_ble_eq_true rfl⟩) rfl hl.1 rfl (Nat.le_of_ble_eq_true rfl) dX8_stepNow_6) hD hS hA (fun H locs hP hD hS => ?_)
      have hP : va_P D cls9 (wM cI ad states whyKind whyOrder many wide textLong spot readColumns i_2 past refused work kept chosen across sum one two base quotients text numbers entries before) H := hP
      have hD : va_D A (wM cI ad states whyKind whyOrder many wide textLong spot readColumns i_2 past refused work kept chosen across sum one two base quotients text numbers entries before) := hD
      refine lv_icmp_ge (tgt := 84) hx hb dX8_stepNow_9 (by decide) (fun c_6 => ?_) (fun c_6 => ?_)
      · have hr1 := it_t c_6 hr1
        exact hX1 i_2 (hv1 _ (Option.some.inj hr1).symm).symm H locs hP hD hS ls (lv_sub hl [0, 1] rfl)
      · have hr1 := it_f c_6 hr1
        refine lv_iload hx hb dX8_stepNow_12 (lv_at hl 4 rfl) ?_
        refine lv_istore (lv' := [(6, .int a3), (0, .ref (ad 0)), (1, .int a0), (2, .int a1), (3, .int a2), (4, .int a3), (5, .int i_1)]) hx hb dX8_stepNow_14 hl (by decide) rfl (fun ls hl => ?_)
        obtain ⟨w2, hw2, hk2⟩ := bd1_s hr1
        have hX2 : ∀ (x_16 : Nat → Int32), w2 = x_16 → ∀ (H : Heap) (locs : List Loc), va_P D cls9 (wM cI ad states whyKind whyOrder many wide textLong spot readColumns x_16 past refused work kept chosen across sum one two base quotients text numbers entries before) H → va_D A (wM cI ad states whyKind whyOrder many wide textLong spot readColumns x_16 past refused work kept chosen across sum one two base quotients text numbers entries before) → va_S A s.heap H locs → ∀ (ls : Array Slot), lv_has ls 7 [(0, .ref (ad 0)), (1, .int a0), (2, .int a1), (3, .int a2), (4, .int a3), (5, .int i_1)] → W p l e rm_X8_stepNow s m args below meth c H locs 0 0 Q (F0 m 78 ls []) := by
          intro x_16 hq H locs hP hD hS ls hl
          have hr1 := hk2 _ hq
          refine lv_iinc (v := (i_1 + 1)) (lv' := [(5, .int (i_1 + 1)), (0, .ref (ad 0)), (1, .int a0), (2, .int a1), (3, .int a2), (4, .int a3)]) hx hb dX8_stepNow_78 hl (k := 5) rfl rfl (by decide) rfl (fun ls hl => ?_)
          refine lv_goto (tgt := 3) hx hb dX8_stepNow_81 (by decide) ?_
          exact ih1 (i_1 + 1) x_16 (ht1 _ (Option.some.inj hr1).symm) H locs hP hD hS ls (lv_sub hl [1, 2, 3, 4, 5, 0] rfl)
        have hL2 : ∀ (n : Nat) (i_7 : Int32) (i_8 : Nat → Int32), lrun (fun (z : Int32 × (Nat → Int32)) => fX8_stepNow_s16 a0 a1 a2 a3 i_1 z.1 z.2) n (i_7, i_8) = some w2 → ∀ (H : Heap) (locs : List Loc), va_P D cls9 (wM cI ad states whyKind whyOrder many wide textLong spot readColumns i_8 past refused work kept chosen across sum one two base quotients text numbers entries before) H → va_D A (wM cI ad states whyKind whyOrder many wide textLong spot readColumns i_8 past refused work kept chosen across sum one two base quotients text numbers entries before) → va_S A s.heap H locs → ∀ (ls : Array Slot), lv_has ls 7 [(0, .ref (ad 0)), (1, .int a0), (2, .int a1), (3, .int a2), (4, .int a3), (5, .int i_1), (6, .int i_7)] → W p l e rm_X8_stepNow s m args below meth c H locs 0 0 Q (F0 m 16 ls []) := by
          intro n
          induction n with
          | zero => intro i_7 i_8 h; cases h
          | succ n ih2 =>
            intro i_7 i_8 hr2 H locs hP hD hS ls hl
            obtain ⟨k, v2, hk, hr2, ht2, hv2⟩ := lrun_s hr2
            cases hk
            have hr2 : fX8_stepNow_s16 a0 a1 a2 a3 i_1 i_7 i_8 = some v2 := hr2
            unfold fX8_stepNow_s16 at hr2
            refine lv_iload hx hb dX8_stepNow_16 (lv_at hl 6 rfl) ?_
            refine lv_bipush (v := 6) hx hb dX8_stepNow_18 (by decide) ?_
            refine lv_icmp_gt (tgt := 78) hx hb dX8_stepNow_20 (by decide) (fun c_9 => ?_) (fun c_9 => ?_)
            · have hr2 := it_t c_9 hr2
              exact hX2 i_8 (hv2 _ (Option.some.inj hr2).symm).symm H locs hP hD hS ls (lv_sub hl [0, 1, 2, 3, 4, 5] rfl)
            · have hr2 := it_f c_9 hr2
              refine lv_aload_n hx hb dX8_stepNow_23 rfl (lv_at hl 0 rfl) ?_
              refine va_get (D := D) (ci := 8) (v := .ref (ad 1)) (C := RX8) (T := TX8) (N := 24) hx hb hts iX8_stepNow_X8 hown hG.1 hP 0 rfl rfl 0 (by decide) (hts _ fX8_stepNow_1) (fun _ h9 => h9) rfl dX8_stepNow_24 ?_
              refine lv_iload_n hx hb dX8_stepNow_27 rfl (lv_at hl 1 rfl) ?_
              refine lv_iload hx hb dX8_stepNow_28 (lv_at hl 5 rfl) ?_
              refine lv_iload hx hb dX8_stepNow_30 (lv_at hl 6 rfl) ?_
              refine callI0 (gS (rest := [.ref (ad 1)]) ⟨hx, hb, hml, hown, hts⟩ hG vaP0 (vaD0 (A := A)) (mtX8_place l D cI cB cR H.size a0 i_1 i_7 _ rfl) (va_cwS 3 hts gX8_stepNow_X8_place rfl rfl rfl hd_X8_place ⟨Nat.le_of_ble_eq_true rfl, Nat.le_of_ble_eq_true rfl⟩) rfl hl.1 rfl (Nat.le_of_ble_eq_true rfl) dX8_stepNow_32) hP hS hA (fun H locs hP hS => ?_)
              refine lv_aload_n hx hb dX8_stepNow_35 rfl (lv_at hl 0 rfl) ?_
              refine lv_aload_n hx hb dX8_stepNow_36 rfl (lv_at hl 0 rfl) ?_
              refine va_get (D := D) (ci := 8) (v := .ref (ad 1)) (C := RX8) (T := TX8) (N := 24) hx hb hts iX8_stepNow_X8 hown hG.1 hP 0 rfl rfl 0 (by decide) (hts _ fX8_stepNow_1) (fun _ h9 => h9) rfl dX8_stepNow_37 ?_
              refine lv_iload_n hx hb dX8_stepNow_40 rfl (lv_at hl 1 rfl) ?_
              refine lv_iload hx hb dX8_stepNow_41 (lv_at hl 5 rfl) ?_
              refine lv_iload hx hb dX8_stepNow_43 (lv_at hl 6 rfl) ?_
              refine callI0 (gS (rest := [.ref (ad 1), .ref (ad 0), .int (fX8_place a0 i_1 i_7), .ref (ad 1)]) ⟨hx, hb, hml, hown, hts⟩ hG vaP0 (vaD0 (A := A)) (mtX8_place l D cI cB cR H.size a0 i_1 i_7 _ rfl) (va_cwS 3 hts gX8_stepNow_X8_place rfl rfl rfl hd_X8_place ⟨Nat.le_of_ble_eq_true rfl, Nat.le_of_ble_eq_true rfl⟩) rfl hl.1 rfl (Nat.le_of_ble_eq_true rfl) dX8_stepNow_45) hP hS hA (fun H locs hP hS => ?_)
              obtain ⟨h_10, hr2⟩ := gd_s hr2
              refine va_iald hx hb hG.1 hP 1 0 rfl rfl h_10 dX8_stepNow_48 ?_
              refine lv_iload_n hx hb dX8_stepNow_49 rfl (lv_at hl 3 rfl) ?_
              refine lv_aload_n hx hb dX8_stepNow_50 rfl (lv_at hl 0 rfl) ?_
              refine va_get (D := D) (ci := 8) (v := .ref (ad 1)) (C := RX8) (T := TX8) (N := 24) hx hb hts iX8_stepNow_X8 hown hG.1 hP 0 rfl rfl 0 (by decide) (hts _ fX8_stepNow_1) (fun _ h9 => h9) rfl dX8_stepNow_51 ?_
              refine lv_iload_n hx hb dX8_stepNow_54 rfl (lv_at hl 2 rfl) ?_
              refine lv_iload hx hb dX8_stepNow_55 (lv_at hl 5 rfl) ?_
              refine lv_iload hx hb dX8_stepNow_57 (lv_at hl 6 rfl) ?_
              refine lv_iload hx hb dX8_stepNow_59 (lv_at hl 4 rfl) ?_
              refine lv_isub hx hb dX8_stepNow_61 ?_
              refine callI0 (gS (rest := [.ref (ad 1), .int a2, .int (i_8 (fX8_place a0 i_1 i_7).toNatClampNeg), .ref (ad 0), .int (fX8_place a0 i_1 i_7), .ref (ad 1)]) ⟨hx, hb, hml, hown, hts⟩ hG vaP0 (vaD0 (A := A)) (mtX8_place l D cI cB cR H.size a1 i_1 (i_7 - a3) _ rfl) (va_cwS 3 hts gX8_stepNow_X8_place rfl rfl rfl hd_X8_place ⟨Nat.le_of_ble_eq_true rfl, Nat.le_of_ble_eq_true rfl⟩) rfl hl.1 rfl (Nat.le_of_ble_eq_true rfl) dX8_stepNow_62) hP hS hA (fun H locs hP hS => ?_)
              obtain ⟨h_11, hr2⟩ := gd_s hr2
              refine va_iald hx hb hG.1 hP 1 0 rfl rfl h_11 dX8_stepNow_65 ?_
              refine lv_imul hx hb dX8_stepNow_66 ?_
              refine lv_iadd hx hb dX8_stepNow_67 ?_
              obtain ⟨v_14, hq_13, hk⟩ := bd1_s hr2
              obtain ⟨r_12, rfl⟩ : ∃ y, y = v_14 := ⟨_, rfl⟩
              have hr2 := hk _ rfl
              refine callIA (gV (rest := [.int (fX8_place a0 i_1 i_7), .ref (ad 1)]) ⟨hx, hb, hml, hown, hts⟩ hG hP hD 0 8 rfl rfl (mtX8_left l D cI cB cR ad H.size states whyKind whyOrder many wide textLong spot readColumns i_8 past refused work kept chosen across sum one two base quotients text numbers entries before ((i_8 (fX8_place a0 i_1 i_7).toNatClampNeg) + (a2 * (i_8 (fX8_place a1 i_1 (i_7 - a3)).toNatClampNeg))) r_12 hq_13) (cwV 1 hts gX8_stepNow_X8_left rfl rfl rfl ⟨rfl, hd_X8_left⟩ ⟨Nat.le_of_ble_eq_true rfl, Nat.le_of_ble_eq_true rfl⟩) rfl hl.1 rfl (Nat.le_of_ble_eq_true rfl) dX8_stepNow_68) hD hS hA (fun H locs hP hD hS => ?_)
              have hP : va_P D cls9 (wM cI ad states whyKind whyOrder many wide textLong spot readColumns i_8 past refused work kept chosen across sum one two base quotients text numbers entries before) H := hP
              have hD : va_D A (wM cI ad states whyKind whyOrder many wide textLong spot readColumns i_8 past refused work kept chosen across sum one two base quotients text numbers entries before) := hD
              obtain ⟨h_15, hr2⟩ := gd_s hr2
              refine va_iast hx hb hG.1 hP hD hS 1 0 rfl rfl h_15 dX8_stepNow_71 (fun H locs hP hD hS => ?_)
              have hP : va_P D cls9 (wM cI ad states whyKind whyOrder many wide textLong spot readColumns (upd i_8 (fX8_place a0 i_1 i_7).toNatClampNeg r_12) past refused work kept chosen across sum one two base quotients text numbers entries before) H := hP
              have hD : va_D A (wM cI ad states whyKind whyOrder many wide textLong spot readColumns (upd i_8 (fX8_place a0 i_1 i_7).toNatClampNeg r_12) past refused work kept chosen across sum one two base quotients text numbers entries before) := hD
              refine lv_iinc (v := (i_7 + 1)) (lv' := [(6, .int (i_7 + 1)), (0, .ref (ad 0)), (1, .int a0), (2, .int a1), (3, .int a2), (4, .int a3), (5, .int i_1)]) hx hb dX8_stepNow_72 hl (k := 6) rfl rfl (by decide) rfl (fun ls hl => ?_)
              refine lv_goto (tgt := 16) hx hb dX8_stepNow_75 (by decide) ?_
              exact ih2 (i_7 + 1) (upd i_8 (fX8_place a0 i_1 i_7).toNatClampNeg r_12) (ht2 _ (Option.some.inj hr2).symm) H locs hP hD hS ls (lv_sub hl [1, 2, 3, 4, 5, 6, 0] rfl)
        obtain ⟨n2, hn2⟩ := Lp_s hw2
        exact hL2 n2 a3 i_2 hn2 H locs hP hD hS ls (lv_sub hl [1, 2, 3, 4, 5, 6, 0] rfl)
  obtain ⟨n1, hn1⟩ := Lp_s hw1
  exact hL1 n1 (0 : Int32) all hn1 H locs hP hD hS ls (lv_sub hl [1, 2, 3, 4, 5, 0] rfl)
abbrev rm_X8_steps : Room := { frames := 4, cells := 0, slots := 0, locals := 94 }
set_option maxHeartbeats 4000000 in
set_option maxRecDepth 100000 in
theorem mtX8_steps (l : Launch) (D : va_G) (cI cB cR : ClassId) (ad : Nat → Nat) (sz : Nat) (states : Int32) (whyKind : Int32) (whyOrder : Int32) (many : Int32) (wide : Int32) (textLong : Int32) (spot : Int32) (readColumns : Int32) (all : Nat → Int32) (past : Nat → Int32) (refused : Nat → Int32) (work : Nat → Int32) (kept : Nat → Int32) (chosen : Nat → Int32) (across : Nat → Int32) (sum : Nat → Int32) (one : Nat → Int32) (two : Nat → Int32) (base : Nat → Int32) (quotients : Nat → Int32) (text : Nat → Int32) (numbers : Nat → Int32) (entries : Nat → Int32) (before : Nat → Int32) (a0 : Int32) (a1 : Int32) (a2 : Int32) (a3 : Int32) (res : Int32 × Int32 × (Nat → Int32) × (Nat → Int32) × (Nat → Int32)) (hf : fX8_steps states all past refused a0 a1 a2 a3 = some res) : Met l yX8_steps wsX8_steps rm_X8_steps (qP D cI cB cR [.ref (ad 0), .int a0, .int a1, .int a2, .int a3] (wM cI ad states whyKind whyOrder many wide textLong spot readColumns all past refused work kept chosen across sum one two base quotients text numbers entries before) sz) (qI D res.1 (wM cI ad states whyKind whyOrder many wide textLong spot readColumns all past refused work kept chosen across sum one two base quotients text numbers entries before) (wM cI ad res.2.1 whyKind whyOrder many wide textLong spot readColumns res.2.2.1 res.2.2.2.1 res.2.2.2.2 work kept chosen across sum one two base quotients text numbers entries before) sz) 0 0 (va_A (wM cI ad states whyKind whyOrder many wide textLong spot readColumns all past refused work kept chosen across sum one two base quotients text numbers entries before) sz) := by
  refine entI (plainFor_of_name (by decide)) rfl (Nat.le_of_ble_eq_true rfl) ?_
  intro p e s m args below meth c Q A ls S hG hP hD hA hl hE
  obtain ⟨hx, hb, hml, hown, hts⟩ := S
  have hown : s.vm.findClass RX8 = some m.cls := hown
  have hS : va_S A s.heap s.heap [] := va_S.rf
  have hl : lv_has ls 6 [(0, .ref (ad 0)), (1, .int a0), (2, .int a1), (3, .int a2), (4, .int a3)] := hl
  have hq := hf
  unfold fX8_steps at hq
  obtain ⟨H, hH⟩ : ∃ H, H = s.heap := ⟨_, rfl⟩
  obtain ⟨locs, hlo⟩ : ∃ L : List Loc, L = [] := ⟨_, rfl⟩
  have hP : va_P D cls9 (wM cI ad states whyKind whyOrder many wide textLong spot readColumns all past refused work kept chosen across sum one two base quotients text numbers entries before) H := hH ▸ hP
  have hS : va_S A s.heap H locs := by rw [hH, hlo]; exact hS
  suffices hg : W p l e rm_X8_steps s m args below meth c H locs 0 0 Q (F0 m 0 ls []) by rw [hH, hlo] at hg; exact hg
  refine lv_aload_n hx hb dX8_steps_0 rfl (lv_at hl 0 rfl) ?_
  refine lv_iload_n hx hb dX8_steps_1 rfl (lv_at hl 1 rfl) ?_
  refine lv_iload_n hx hb dX8_steps_2 rfl (lv_at hl 2 rfl) ?_
  refine lv_iload_n hx hb dX8_steps_3 rfl (lv_at hl 3 rfl) ?_
  refine lv_iload hx hb dX8_steps_4 (lv_at hl 4 rfl) ?_
  obtain ⟨v_3, hq_2, hk⟩ := bd1_s hq
  obtain ⟨r_1, rfl⟩ : ∃ y, y = v_3 := ⟨_, rfl⟩
  have hq := hk _ rfl
  refine callIA (gV (rest := []) ⟨hx, hb, hml, hown, hts⟩ hG hP hD 0 8 rfl rfl (mtX8_canStep l D cI cB cR ad H.size states whyKind whyOrder many wide textLong spot readColumns all past refused work kept chosen across sum one two base quotients text numbers entries before a0 a1 a2 a3 r_1 hq_2) (cwV 4 hts gX8_steps_X8_canStep rfl rfl rfl ⟨rfl, hd_X8_canStep⟩ ⟨Nat.le_of_ble_eq_true rfl, Nat.le_of_ble_eq_true rfl⟩) rfl hl.1 rfl (Nat.le_of_ble_eq_true rfl) dX8_steps_6) hD hS hA (fun H locs hP hD hS => ?_)
  have hP : va_P D cls9 (wM cI ad states whyKind whyOrder many wide textLong spot readColumns all past refused work kept chosen across sum one two base quotients text numbers entries before) H := hP
  have hD : va_D A (wM cI ad states whyKind whyOrder many wide textLong spot readColumns all past refused work kept chosen across sum one two base quotients text numbers entries before) := hD
  refine lv_istore (lv' := [(5, .int r_1), (0, .ref (ad 0)), (1, .int a0), (2, .int a1), (3, .int a2), (4, .int a3)]) hx hb dX8_steps_9 hl (by decide) rfl (fun ls hl => ?_)
  refine lv_iload hx hb dX8_steps_11 (lv_at hl 0 rfl) ?_
  refine lv_if_ge (tgt := 23) hx hb dX8_steps_13 (by decide) (fun c_4 => ?_) (fun c_4 => ?_)
  · have hq := it_t c_4 hq
    refine lv_aload_n hx hb dX8_steps_23 rfl (lv_at hl 1 rfl) ?_
    obtain ⟨v_8, hq_7, hk⟩ := bd2_s hq
    obtain ⟨u_5, u_6⟩ := v_8
    have hq := hk _ _ rfl
    refine callVA (gV (rest := []) ⟨hx, hb, hml, hown, hts⟩ hG hP hD 0 8 rfl rfl (mtX8_keep l D cI cB cR ad H.size states whyKind whyOrder many wide textLong spot readColumns all past refused work kept chosen across sum one two base quotients text numbers entries before (u_5, u_6) hq_7) (cwV 0 hts gX8_steps_X8_keep rfl rfl rfl ⟨rfl, hd_X8_keep⟩ ⟨Nat.le_of_ble_eq_true rfl, Nat.le_of_ble_eq_true rfl⟩) rfl hl.1 rfl (Nat.le_of_ble_eq_true rfl) dX8_steps_24) hD hS hA (fun H locs hP hD hS => ?_)
    have hP : va_P D cls9 (wM cI ad u_5 whyKind whyOrder many wide textLong spot readColumns all u_6 refused work kept chosen across sum one two base quotients text numbers entries before) H := hP
    have hD : va_D A (wM cI ad u_5 whyKind whyOrder many wide textLong spot readColumns all u_6 refused work kept chosen across sum one two base quotients text numbers entries before) := hD
    refine lv_aload_n hx hb dX8_steps_27 rfl (lv_at hl 1 rfl) ?_
    refine lv_iload_n hx hb dX8_steps_28 rfl (lv_at hl 2 rfl) ?_
    refine lv_iload_n hx hb dX8_steps_29 rfl (lv_at hl 3 rfl) ?_
    refine lv_iload_n hx hb dX8_steps_30 rfl (lv_at hl 4 rfl) ?_
    refine lv_iload hx hb dX8_steps_31 (lv_at hl 5 rfl) ?_
    obtain ⟨v_12, hq_11, hk⟩ := bd2_s hq
    obtain ⟨r_9, u_10⟩ := v_12
    have hq := hk _ _ rfl
    refine callIA (gV (rest := []) ⟨hx, hb, hml, hown, hts⟩ hG hP hD 0 8 rfl rfl (mtX8_stepNow l D cI cB cR ad H.size u_5 whyKind whyOrder many wide textLong spot readColumns all u_6 refused work kept chosen across sum one two base quotients text numbers entries before a0 a1 a2 a3 (r_9, u_10) hq_11) (cwV 4 hts gX8_steps_X8_stepNow rfl rfl rfl ⟨rfl, hd_X8_stepNow⟩ ⟨Nat.le_of_ble_eq_true rfl, Nat.le_of_ble_eq_true rfl⟩) rfl hl.1 rfl (Nat.le_of_ble_eq_true rfl) dX8_steps_33) hD hS hA (fun H locs hP hD hS => ?_)
    have hP : va_P D cls9 (wM cI ad u_5 whyKind whyOrder many wide textLong spot readColumns u_10 u_6 refused work kept chosen across sum one two base quotients text numbers entries before) H := hP
    have hD : va_D A (wM cI ad u_5 whyKind whyOrder many wide textLong spot readColumns u_10 u_6 refused work kept chosen across sum one two base quotients text numbers entries before) := hD
    have he := Option.some.inj hq
    subst he
    exact hE H locs _ _ _ rfl dX8_steps_36 hP hD hS
  · have hq := it_f c_4 hq
    refine lv_aload_n hx hb dX8_steps_16 rfl (lv_at hl 1 rfl) ?_
    refine lv_iload hx hb dX8_steps_17 (lv_at hl 0 rfl) ?_
    obtain ⟨v_16, hq_15, hk⟩ := bd2_s hq
    obtain ⟨r_13, u_14⟩ := v_16
    have hq := hk _ _ rfl
    refine callIA (gV (rest := []) ⟨hx, hb, hml, hown, hts⟩ hG hP hD 0 8 rfl rfl (mtX8_refuses l D cI cB cR ad H.size states whyKind whyOrder many wide textLong spot readColumns all past refused work kept chosen across sum one two base quotients text numbers entries before r_1 (r_13, u_14) hq_15) (cwV 1 hts gX8_steps_X8_refuses rfl rfl rfl ⟨rfl, hd_X8_refuses⟩ ⟨Nat.le_of_ble_eq_true rfl, Nat.le_of_ble_eq_true rfl⟩) rfl hl.1 rfl (Nat.le_of_ble_eq_true rfl) dX8_steps_19) hD hS hA (fun H locs hP hD hS => ?_)
    have hP : va_P D cls9 (wM cI ad states whyKind whyOrder many wide textLong spot readColumns all past u_14 work kept chosen across sum one two base quotients text numbers entries before) H := hP
    have hD : va_D A (wM cI ad states whyKind whyOrder many wide textLong spot readColumns all past u_14 work kept chosen across sum one two base quotients text numbers entries before) := hD
    have he := Option.some.inj hq
    subst he
    exact hE H locs _ _ _ rfl dX8_steps_22 hP hD hS
abbrev rm_X8_canMonic : Room := { frames := 5, cells := 0, slots := 0, locals := 113 }
set_option maxHeartbeats 4000000 in
set_option maxRecDepth 100000 in
theorem mtX8_canMonic (l : Launch) (D : va_G) (cI cB cR : ClassId) (ad : Nat → Nat) (sz : Nat) (states : Int32) (whyKind : Int32) (whyOrder : Int32) (many : Int32) (wide : Int32) (textLong : Int32) (spot : Int32) (readColumns : Int32) (all : Nat → Int32) (past : Nat → Int32) (refused : Nat → Int32) (work : Nat → Int32) (kept : Nat → Int32) (chosen : Nat → Int32) (across : Nat → Int32) (sum : Nat → Int32) (one : Nat → Int32) (two : Nat → Int32) (base : Nat → Int32) (quotients : Nat → Int32) (text : Nat → Int32) (numbers : Nat → Int32) (entries : Nat → Int32) (before : Nat → Int32) (a0 : Int32) (res : Int32) (hf : fX8_canMonic all a0 = some res) : Met l yX8_canMonic wsX8_canMonic rm_X8_canMonic (qP D cI cB cR [.ref (ad 0), .int a0] (wM cI ad states whyKind whyOrder many wide textLong spot readColumns all past refused work kept chosen across sum one two base quotients text numbers entries before) sz) (qI D res (wM cI ad states whyKind whyOrder many wide textLong spot readColumns all past refused work kept chosen across sum one two base quotients text numbers entries before) (wM cI ad states whyKind whyOrder many wide textLong spot readColumns all past refused work kept chosen across sum one two base quotients text numbers entries before) sz) 0 0 (va_A (wM cI ad states whyKind whyOrder many wide textLong spot readColumns all past refused work kept chosen across sum one two base quotients text numbers entries before) sz) := by
  refine entI (plainFor_of_name (by decide)) rfl (Nat.le_of_ble_eq_true rfl) ?_
  intro p e s m args below meth c Q A ls S hG hP hD hA hl hE
  obtain ⟨hx, hb, hml, hown, hts⟩ := S
  have hown : s.vm.findClass RX8 = some m.cls := hown
  have hS : va_S A s.heap s.heap [] := va_S.rf
  have hl : lv_has ls 2 [(0, .ref (ad 0)), (1, .int a0)] := hl
  have hq := hf
  unfold fX8_canMonic at hq
  obtain ⟨H, hH⟩ : ∃ H, H = s.heap := ⟨_, rfl⟩
  obtain ⟨locs, hlo⟩ : ∃ L : List Loc, L = [] := ⟨_, rfl⟩
  have hP : va_P D cls9 (wM cI ad states whyKind whyOrder many wide textLong spot readColumns all past refused work kept chosen across sum one two base quotients text numbers entries before) H := hH ▸ hP
  have hS : va_S A s.heap H locs := by rw [hH, hlo]; exact hS
  suffices hg : W p l e rm_X8_canMonic s m args below meth c H locs 0 0 Q (F0 m 0 ls []) by rw [hH, hlo] at hg; exact hg
  refine lv_aload_n hx hb dX8_canMonic_0 rfl (lv_at hl 0 rfl) ?_
  refine lv_iload_n hx hb dX8_canMonic_1 rfl (lv_at hl 1 rfl) ?_
  obtain ⟨v_3, hq_2, hk⟩ := bd1_s hq
  obtain ⟨r_1, rfl⟩ : ∃ y, y = v_3 := ⟨_, rfl⟩
  have hq := hk _ rfl
  refine callZA (gV (rest := []) ⟨hx, hb, hml, hown, hts⟩ hG hP hD 0 8 rfl rfl (mtX8_isRow l D cI cB cR ad H.size states whyKind whyOrder many wide textLong spot readColumns all past refused work kept chosen across sum one two base quotients text numbers entries before a0 r_1 hq_2) (cwV 1 hts gX8_canMonic_X8_isRow rfl rfl rfl ⟨rfl, hd_X8_isRow⟩ ⟨Nat.le_of_ble_eq_true rfl, Nat.le_of_ble_eq_true rfl⟩) rfl hl.1 rfl (Nat.le_of_ble_eq_true rfl) dX8_canMonic_2) hD hS hA (fun H locs z_4 hP hD hS => ?_)
  have hP : va_P D cls9 (wM cI ad states whyKind whyOrder many wide textLong spot readColumns all past refused work kept chosen across sum one two base quotients text numbers entries before) H := hP
  have hD : va_D A (wM cI ad states whyKind whyOrder many wide textLong spot readColumns all past refused work kept chosen across sum one two base quotients text numbers entries before) := hD
  refine lv_if_ne (tgt := 13) hx hb dX8_canMonic_5 (by decide) (fun c_5 => ?_) (fun c_5 => ?_)
  · have hq := it_f c_5 hq
    refine lv_aload_n hx hb dX8_canMonic_13 rfl (lv_at hl 0 rfl) ?_
    refine lv_iload_n hx hb dX8_canMonic_14 rfl (lv_at hl 1 rfl) ?_
    obtain ⟨v_8, hq_7, hk⟩ := bd1_s hq
    obtain ⟨r_6, rfl⟩ : ∃ y, y = v_8 := ⟨_, rfl⟩
    have hq := hk _ rfl
    refine callIA (gV (rest := []) ⟨hx, hb, hml, hown, hts⟩ hG hP hD 0 8 rfl rfl (mtX8_lead l D cI cB cR ad H.size states whyKind whyOrder many wide textLong spot readColumns all past refused work kept chosen across sum one two base quotients text numbers entries before a0 r_6 hq_7) (cwV 1 hts gX8_canMonic_X8_lead rfl rfl rfl ⟨rfl, hd_X8_lead⟩ ⟨Nat.le_of_ble_eq_true rfl, Nat.le_of_ble_eq_true rfl⟩) rfl hl.1 rfl (Nat.le_of_ble_eq_true rfl) dX8_canMonic_15) hD hS hA (fun H locs hP hD hS => ?_)
    have hP : va_P D cls9 (wM cI ad states whyKind whyOrder many wide textLong spot readColumns all past refused work kept chosen across sum one two base quotients text numbers entries before) H := hP
    have hD : va_D A (wM cI ad states whyKind whyOrder many wide textLong spot readColumns all past refused work kept chosen across sum one two base quotients text numbers entries before) := hD
    refine lv_if_ne (tgt := 26) hx hb dX8_canMonic_18 (by decide) (fun c_9 => ?_) (fun c_9 => ?_)
    · have hq := it_f c_9 hq
      refine lv_iconst (v := 0) hx hb dX8_canMonic_26 (by decide) ?_
      have he := Option.some.inj hq
      subst he
      exact hE H locs _ _ _ rfl dX8_canMonic_27 hP hD hS
    · have hq := it_t c_9 hq
      refine lv_bipush (v := -3) hx hb dX8_canMonic_21 (by decide) ?_
      refine lv_goto (tgt := 27) hx hb dX8_canMonic_23 (by decide) ?_
      have he := Option.some.inj hq
      subst he
      exact hE H locs _ _ _ rfl dX8_canMonic_27 hP hD hS
  · have hq := it_t c_5 hq
    refine lv_bipush (v := -2) hx hb dX8_canMonic_8 (by decide) ?_
    refine lv_goto (tgt := 27) hx hb dX8_canMonic_10 (by decide) ?_
    have he := Option.some.inj hq
    subst he
    exact hE H locs _ _ _ rfl dX8_canMonic_27 hP hD hS
abbrev rm_X8_monicNow : Room := { frames := 5, cells := 0, slots := 0, locals := 113 }
theorem iX8_monicNow_X8 : ∀ w ∈ wsX80, w ∈ wsX8_monicNow := fun _ h => (List.mem_cons_of_mem _ (List.mem_append_right _ h))
theorem fX8_monicNow_1 : Cond.fieldLink RX8 7 "PopovRowsModel" "all" "[I" ∈ wsX8_monicNow := (List.mem_cons_of_mem _ (List.mem_append_left _ (List.mem_append_left _ (List.mem_of_getElem? (i := 0) rfl))))
set_option maxHeartbeats 4000000 in
set_option maxRecDepth 100000 in
theorem mtX8_monicNow (l : Launch) (D : va_G) (cI cB cR : ClassId) (ad : Nat → Nat) (sz : Nat) (states : Int32) (whyKind : Int32) (whyOrder : Int32) (many : Int32) (wide : Int32) (textLong : Int32) (spot : Int32) (readColumns : Int32) (all : Nat → Int32) (past : Nat → Int32) (refused : Nat → Int32) (work : Nat → Int32) (kept : Nat → Int32) (chosen : Nat → Int32) (across : Nat → Int32) (sum : Nat → Int32) (one : Nat → Int32) (two : Nat → Int32) (base : Nat → Int32) (quotients : Nat → Int32) (text : Nat → Int32) (numbers : Nat → Int32) (entries : Nat → Int32) (before : Nat → Int32) (a0 : Int32) (res : Int32 × (Nat → Int32)) (hf : fX8_monicNow all a0 = some res) : Met l yX8_monicNow wsX8_monicNow rm_X8_monicNow (qP D cI cB cR [.ref (ad 0), .int a0] (wM cI ad states whyKind whyOrder many wide textLong spot readColumns all past refused work kept chosen across sum one two base quotients text numbers entries before) sz) (qI D res.1 (wM cI ad states whyKind whyOrder many wide textLong spot readColumns all past refused work kept chosen across sum one two base quotients text numbers entries before) (wM cI ad states whyKind whyOrder many wide textLong spot readColumns res.2 past refused work kept chosen across sum one two base quotients text numbers entries before) sz) 0 0 (va_A (wM cI ad states whyKind whyOrder many wide textLong spot readColumns all past refused work kept chosen across sum one two base quotients text numbers entries before) sz) := by
  refine entI (plainFor_of_name (by decide)) rfl (Nat.le_of_ble_eq_true rfl) ?_
  intro p e s m args below meth c Q A ls S hG hP hD hA hl hE
  obtain ⟨hx, hb, hml, hown, hts⟩ := S
  have hown : s.vm.findClass RX8 = some m.cls := hown
  have hS : va_S A s.heap s.heap [] := va_S.rf
  have hl : lv_has ls 5 [(0, .ref (ad 0)), (1, .int a0)] := hl
  have hq := hf
  unfold fX8_monicNow at hq
  obtain ⟨H, hH⟩ : ∃ H, H = s.heap := ⟨_, rfl⟩
  obtain ⟨locs, hlo⟩ : ∃ L : List Loc, L = [] := ⟨_, rfl⟩
  have hP : va_P D cls9 (wM cI ad states whyKind whyOrder many wide textLong spot readColumns all past refused work kept chosen across sum one two base quotients text numbers entries before) H := hH ▸ hP
  have hS : va_S A s.heap H locs := by rw [hH, hlo]; exact hS
  suffices hg : W p l e rm_X8_monicNow s m args below meth c H locs 0 0 Q (F0 m 0 ls []) by rw [hH, hlo] at hg; exact hg
  refine lv_aload_n hx hb dX8_monicNow_0 rfl (lv_at hl 0 rfl) ?_
  refine lv_iload_n hx hb dX8_monicNow_1 rfl (lv_at hl 1 rfl) ?_
  obtain ⟨v_3, hq_2, hk⟩ := bd1_s hq
  obtain ⟨r_1, rfl⟩ : ∃ y, y = v_3 := ⟨_, rfl⟩
  have hq := hk _ rfl
  refine callIA (gV (rest := []) ⟨hx, hb, hml, hown, hts⟩ hG hP hD 0 8 rfl rfl (mtX8_lead l D cI cB cR ad H.size states whyKind whyOrder many wide textLong spot readColumns all past refused work kept chosen across sum one two base quotients text numbers entries before a0 r_1 hq_2) (cwV 1 hts gX8_monicNow_X8_lead rfl rfl rfl ⟨rfl, hd_X8_lead⟩ ⟨Nat.le_of_ble_eq_true rfl, Nat.le_of_ble_eq_true rfl⟩) rfl hl.1 rfl (Nat.le_of_ble_eq_true rfl) dX8_monicNow_2) hD hS hA (fun H locs hP hD hS => ?_)
  have hP : va_P D cls9 (wM cI ad states whyKind whyOrder many wide textLong spot readColumns all past refused work kept chosen across sum one two base quotients text numbers entries before) H := hP
  have hD : va_D A (wM cI ad states whyKind whyOrder many wide textLong spot readColumns all past refused work kept chosen across sum one two base quotients text numbers entries before) := hD
  refine lv_istore_n (lv' := [(2, .int r_1), (0, .ref (ad 0)), (1, .int a0)]) hx hb dX8_monicNow_5 rfl hl (by decide) rfl (fun ls hl => ?_)
  refine lv_aload_n hx hb dX8_monicNow_6 rfl (lv_at hl 1 rfl) ?_
  refine lv_iload_n hx hb dX8_monicNow_7 rfl (lv_at hl 0 rfl) ?_
  obtain ⟨v_6, hq_5, hk⟩ := bd1_s hq
  obtain ⟨r_4, rfl⟩ : ∃ y, y = v_6 := ⟨_, rfl⟩
  have hq := hk _ rfl
  refine callIA (gV (rest := []) ⟨hx, hb, hml, hown, hts⟩ hG hP hD 0 8 rfl rfl (mtX8_inverse l D cI cB cR ad H.size states whyKind whyOrder many wide textLong spot readColumns all past refused work kept chosen across sum one two base quotients text numbers entries before r_1 r_4 hq_5) (cwV 1 hts gX8_monicNow_X8_inverse rfl rfl rfl ⟨rfl, hd_X8_inverse⟩ ⟨Nat.le_of_ble_eq_true rfl, Nat.le_of_ble_eq_true rfl⟩) rfl hl.1 rfl (Nat.le_of_ble_eq_true rfl) dX8_monicNow_8) hD hS hA (fun H locs hP hD hS => ?_)
  have hP : va_P D cls9 (wM cI ad states whyKind whyOrder many wide textLong spot readColumns all past refused work kept chosen across sum one two base quotients text numbers entries before) H := hP
  have hD : va_D A (wM cI ad states whyKind whyOrder many wide textLong spot readColumns all past refused work kept chosen across sum one two base quotients text numbers entries before) := hD
  refine lv_istore_n (lv' := [(3, .int r_4), (2, .int r_1), (0, .ref (ad 0)), (1, .int a0)]) hx hb dX8_monicNow_11 rfl hl (by decide) rfl (fun ls hl => ?_)
  refine lv_iconst (v := 0) hx hb dX8_monicNow_12 (by decide) ?_
  refine lv_istore (lv' := [(4, .int (0 : Int32)), (3, .int r_4), (2, .int r_1), (0, .ref (ad 0)), (1, .int a0)]) hx hb dX8_monicNow_13 hl (by decide) rfl (fun ls hl => ?_)
  obtain ⟨w1, hw1, hk1⟩ := bd1_s hq
  have hX1 : ∀ (x_15 : Nat → Int32), w1 = x_15 → ∀ (H : Heap) (locs : List Loc), va_P D cls9 (wM cI ad states whyKind whyOrder many wide textLong spot readColumns x_15 past refused work kept chosen across sum one two base quotients text numbers entries before) H → va_D A (wM cI ad states whyKind whyOrder many wide textLong spot readColumns x_15 past refused work kept chosen across sum one two base quotients text numbers entries before) → va_S A s.heap H locs → ∀ (ls : Array Slot), lv_has ls 5 [(2, .int r_1)] → W p l e rm_X8_monicNow s m args below meth c H locs 0 0 Q (F0 m 58 ls []) := by
    intro x_15 hq H locs hP hD hS ls hl
    have hq := hk1 _ hq
    refine lv_iload_n hx hb dX8_monicNow_58 rfl (lv_at hl 0 rfl) ?_
    have he := Option.some.inj hq
    subst he
    exact hE H locs _ _ _ rfl dX8_monicNow_59 hP hD hS
  have hL1 : ∀ (n : Nat) (i_7 : Int32) (i_8 : Nat → Int32), lrun (fun (z : Int32 × (Nat → Int32)) => fX8_monicNow_s15 a0 r_4 z.1 z.2) n (i_7, i_8) = some w1 → ∀ (H : Heap) (locs : List Loc), va_P D cls9 (wM cI ad states whyKind whyOrder many wide textLong spot readColumns i_8 past refused work kept chosen across sum one two base quotients text numbers entries before) H → va_D A (wM cI ad states whyKind whyOrder many wide textLong spot readColumns i_8 past refused work kept chosen across sum one two base quotients text numbers entries before) → va_S A s.heap H locs → ∀ (ls : Array Slot), lv_has ls 5 [(0, .ref (ad 0)), (1, .int a0), (2, .int r_1), (3, .int r_4), (4, .int i_7)] → W p l e rm_X8_monicNow s m args below meth c H locs 0 0 Q (F0 m 15 ls []) := by
    intro n
    induction n with
    | zero => intro i_7 i_8 h; cases h
    | succ n ih1 =>
      intro i_7 i_8 hr1 H locs hP hD hS ls hl
      obtain ⟨k, v1, hk, hr1, ht1, hv1⟩ := lrun_s hr1
      cases hk
      have hr1 : fX8_monicNow_s15 a0 r_4 i_7 i_8 = some v1 := hr1
      unfold fX8_monicNow_s15 at hr1
      refine lv_iload hx hb dX8_monicNow_15 (lv_at hl 4 rfl) ?_
      refine lv_bipush (v := 21) hx hb dX8_monicNow_17 (by decide) ?_
      refine lv_icmp_ge (tgt := 58) hx hb dX8_monicNow_19 (by decide) (fun c_9 => ?_) (fun c_9 => ?_)
      · have hr1 := it_t c_9 hr1
        exact hX1 i_8 (hv1 _ (Option.some.inj hr1).symm).symm H locs hP hD hS ls (lv_sub hl [2] rfl)
      · have hr1 := it_f c_9 hr1
        refine lv_aload_n hx hb dX8_monicNow_22 rfl (lv_at hl 0 rfl) ?_
        refine va_get (D := D) (ci := 8) (v := .ref (ad 1)) (C := RX8) (T := TX8) (N := 24) hx hb hts iX8_monicNow_X8 hown hG.1 hP 0 rfl rfl 0 (by decide) (hts _ fX8_monicNow_1) (fun _ h9 => h9) rfl dX8_monicNow_23 ?_
        refine lv_iload_n hx hb dX8_monicNow_26 rfl (lv_at hl 1 rfl) ?_
        refine lv_iconst (v := 0) hx hb dX8_monicNow_27 (by decide) ?_
        refine lv_iload hx hb dX8_monicNow_28 (lv_at hl 4 rfl) ?_
        refine callI0 (gS (rest := [.ref (ad 1)]) ⟨hx, hb, hml, hown, hts⟩ hG vaP0 (vaD0 (A := A)) (mtX8_place l D cI cB cR H.size a0 (0 : Int32) i_7 _ rfl) (va_cwS 3 hts gX8_monicNow_X8_place rfl rfl rfl hd_X8_place ⟨Nat.le_of_ble_eq_true rfl, Nat.le_of_ble_eq_true rfl⟩) rfl hl.1 rfl (Nat.le_of_ble_eq_true rfl) dX8_monicNow_30) hP hS hA (fun H locs hP hS => ?_)
        refine lv_aload_n hx hb dX8_monicNow_33 rfl (lv_at hl 0 rfl) ?_
        refine lv_aload_n hx hb dX8_monicNow_34 rfl (lv_at hl 0 rfl) ?_
        refine va_get (D := D) (ci := 8) (v := .ref (ad 1)) (C := RX8) (T := TX8) (N := 24) hx hb hts iX8_monicNow_X8 hown hG.1 hP 0 rfl rfl 0 (by decide) (hts _ fX8_monicNow_1) (fun _ h9 => h9) rfl dX8_monicNow_35 ?_
        refine lv_iload_n hx hb dX8_monicNow_38 rfl (lv_at hl 1 rfl) ?_
        refine lv_iconst (v := 0) hx hb dX8_monicNow_39 (by decide) ?_
        refine lv_iload hx hb dX8_monicNow_40 (lv_at hl 4 rfl) ?_
        refine callI0 (gS (rest := [.ref (ad 1), .ref (ad 0), .int (fX8_place a0 (0 : Int32) i_7), .ref (ad 1)]) ⟨hx, hb, hml, hown, hts⟩ hG vaP0 (vaD0 (A := A)) (mtX8_place l D cI cB cR H.size a0 (0 : Int32) i_7 _ rfl) (va_cwS 3 hts gX8_monicNow_X8_place rfl rfl rfl hd_X8_place ⟨Nat.le_of_ble_eq_true rfl, Nat.le_of_ble_eq_true rfl⟩) rfl hl.1 rfl (Nat.le_of_ble_eq_true rfl) dX8_monicNow_42) hP hS hA (fun H locs hP hS => ?_)
        obtain ⟨h_10, hr1⟩ := gd_s hr1
        refine va_iald hx hb hG.1 hP 1 0 rfl rfl h_10 dX8_monicNow_45 ?_
        refine lv_iload_n hx hb dX8_monicNow_46 rfl (lv_at hl 3 rfl) ?_
        refine lv_imul hx hb dX8_monicNow_47 ?_
        obtain ⟨v_13, hq_12, hk⟩ := bd1_s hr1
        obtain ⟨r_11, rfl⟩ : ∃ y, y = v_13 := ⟨_, rfl⟩
        have hr1 := hk _ rfl
        refine callIA (gV (rest := [.int (fX8_place a0 (0 : Int32) i_7), .ref (ad 1)]) ⟨hx, hb, hml, hown, hts⟩ hG hP hD 0 8 rfl rfl (mtX8_left l D cI cB cR ad H.size states whyKind whyOrder many wide textLong spot readColumns i_8 past refused work kept chosen across sum one two base quotients text numbers entries before ((i_8 (fX8_place a0 (0 : Int32) i_7).toNatClampNeg) * r_4) r_11 hq_12) (cwV 1 hts gX8_monicNow_X8_left rfl rfl rfl ⟨rfl, hd_X8_left⟩ ⟨Nat.le_of_ble_eq_true rfl, Nat.le_of_ble_eq_true rfl⟩) rfl hl.1 rfl (Nat.le_of_ble_eq_true rfl) dX8_monicNow_48) hD hS hA (fun H locs hP hD hS => ?_)
        have hP : va_P D cls9 (wM cI ad states whyKind whyOrder many wide textLong spot readColumns i_8 past refused work kept chosen across sum one two base quotients text numbers entries before) H := hP
        have hD : va_D A (wM cI ad states whyKind whyOrder many wide textLong spot readColumns i_8 past refused work kept chosen across sum one two base quotients text numbers entries before) := hD
        obtain ⟨h_14, hr1⟩ := gd_s hr1
        refine va_iast hx hb hG.1 hP hD hS 1 0 rfl rfl h_14 dX8_monicNow_51 (fun H locs hP hD hS => ?_)
        have hP : va_P D cls9 (wM cI ad states whyKind whyOrder many wide textLong spot readColumns (upd i_8 (fX8_place a0 (0 : Int32) i_7).toNatClampNeg r_11) past refused work kept chosen across sum one two base quotients text numbers entries before) H := hP
        have hD : va_D A (wM cI ad states whyKind whyOrder many wide textLong spot readColumns (upd i_8 (fX8_place a0 (0 : Int32) i_7).toNatClampNeg r_11) past refused work kept chosen across sum one two base quotients text numbers entries before) := hD
        refine lv_iinc (v := (i_7 + 1)) (lv' := [(4, .int (i_7 + 1)), (0, .ref (ad 0)), (1, .int a0), (2, .int r_1), (3, .int r_4)]) hx hb dX8_monicNow_52 hl (k := 4) rfl rfl (by decide) rfl (fun ls hl => ?_)
        refine lv_goto (tgt := 15) hx hb dX8_monicNow_55 (by decide) ?_
        exact ih1 (i_7 + 1) (upd i_8 (fX8_place a0 (0 : Int32) i_7).toNatClampNeg r_11) (ht1 _ (Option.some.inj hr1).symm) H locs hP hD hS ls (lv_sub hl [1, 2, 3, 4, 0] rfl)
  obtain ⟨n1, hn1⟩ := Lp_s hw1
  exact hL1 n1 (0 : Int32) all hn1 H locs hP hD hS ls (lv_sub hl [3, 4, 2, 1, 0] rfl)
abbrev rm_X8_monic : Room := { frames := 6, cells := 0, slots := 0, locals := 137 }
set_option maxHeartbeats 4000000 in
set_option maxRecDepth 100000 in
theorem mtX8_monic (l : Launch) (D : va_G) (cI cB cR : ClassId) (ad : Nat → Nat) (sz : Nat) (states : Int32) (whyKind : Int32) (whyOrder : Int32) (many : Int32) (wide : Int32) (textLong : Int32) (spot : Int32) (readColumns : Int32) (all : Nat → Int32) (past : Nat → Int32) (refused : Nat → Int32) (work : Nat → Int32) (kept : Nat → Int32) (chosen : Nat → Int32) (across : Nat → Int32) (sum : Nat → Int32) (one : Nat → Int32) (two : Nat → Int32) (base : Nat → Int32) (quotients : Nat → Int32) (text : Nat → Int32) (numbers : Nat → Int32) (entries : Nat → Int32) (before : Nat → Int32) (a0 : Int32) (res : Int32 × Int32 × (Nat → Int32) × (Nat → Int32) × (Nat → Int32)) (hf : fX8_monic states all past refused a0 = some res) : Met l yX8_monic wsX8_monic rm_X8_monic (qP D cI cB cR [.ref (ad 0), .int a0] (wM cI ad states whyKind whyOrder many wide textLong spot readColumns all past refused work kept chosen across sum one two base quotients text numbers entries before) sz) (qI D res.1 (wM cI ad states whyKind whyOrder many wide textLong spot readColumns all past refused work kept chosen across sum one two base quotients text numbers entries before) (wM cI ad res.2.1 whyKind whyOrder many wide textLong spot readColumns res.2.2.1 res.2.2.2.1 res.2.2.2.2 work kept chosen across sum one two base quotients text numbers entries before) sz) 0 0 (va_A (wM cI ad states whyKind whyOrder many wide textLong spot readColumns all past refused work kept chosen across sum one two base quotients text numbers entries before) sz) := by
  refine entI (plainFor_of_name (by decide)) rfl (Nat.le_of_ble_eq_true rfl) ?_
  intro p e s m args below meth c Q A ls S hG hP hD hA hl hE
  obtain ⟨hx, hb, hml, hown, hts⟩ := S
  have hown : s.vm.findClass RX8 = some m.cls := hown
  have hS : va_S A s.heap s.heap [] := va_S.rf
  have hl : lv_has ls 3 [(0, .ref (ad 0)), (1, .int a0)] := hl
  have hq := hf
  unfold fX8_monic at hq
  obtain ⟨H, hH⟩ : ∃ H, H = s.heap := ⟨_, rfl⟩
  obtain ⟨locs, hlo⟩ : ∃ L : List Loc, L = [] := ⟨_, rfl⟩
  have hP : va_P D cls9 (wM cI ad states whyKind whyOrder many wide textLong spot readColumns all past refused work kept chosen across sum one two base quotients text numbers entries before) H := hH ▸ hP
  have hS : va_S A s.heap H locs := by rw [hH, hlo]; exact hS
  suffices hg : W p l e rm_X8_monic s m args below meth c H locs 0 0 Q (F0 m 0 ls []) by rw [hH, hlo] at hg; exact hg
  refine lv_aload_n hx hb dX8_monic_0 rfl (lv_at hl 0 rfl) ?_
  refine lv_iload_n hx hb dX8_monic_1 rfl (lv_at hl 1 rfl) ?_
  obtain ⟨v_3, hq_2, hk⟩ := bd1_s hq
  obtain ⟨r_1, rfl⟩ : ∃ y, y = v_3 := ⟨_, rfl⟩
  have hq := hk _ rfl
  refine callIA (gV (rest := []) ⟨hx, hb, hml, hown, hts⟩ hG hP hD 0 8 rfl rfl (mtX8_canMonic l D cI cB cR ad H.size states whyKind whyOrder many wide textLong spot readColumns all past refused work kept chosen across sum one two base quotients text numbers entries before a0 r_1 hq_2) (cwV 1 hts gX8_monic_X8_canMonic rfl rfl rfl ⟨rfl, hd_X8_canMonic⟩ ⟨Nat.le_of_ble_eq_true rfl, Nat.le_of_ble_eq_true rfl⟩) rfl hl.1 rfl (Nat.le_of_ble_eq_true rfl) dX8_monic_2) hD hS hA (fun H locs hP hD hS => ?_)
  have hP : va_P D cls9 (wM cI ad states whyKind whyOrder many wide textLong spot readColumns all past refused work kept chosen across sum one two base quotients text numbers entries before) H := hP
  have hD : va_D A (wM cI ad states whyKind whyOrder many wide textLong spot readColumns all past refused work kept chosen across sum one two base quotients text numbers entries before) := hD
  refine lv_istore_n (lv' := [(2, .int r_1), (0, .ref (ad 0)), (1, .int a0)]) hx hb dX8_monic_5 rfl hl (by decide) rfl (fun ls hl => ?_)
  refine lv_iload_n hx hb dX8_monic_6 rfl (lv_at hl 0 rfl) ?_
  refine lv_if_ge (tgt := 16) hx hb dX8_monic_7 (by decide) (fun c_4 => ?_) (fun c_4 => ?_)
  · have hq := it_t c_4 hq
    refine lv_aload_n hx hb dX8_monic_16 rfl (lv_at hl 1 rfl) ?_
    obtain ⟨v_8, hq_7, hk⟩ := bd2_s hq
    obtain ⟨u_5, u_6⟩ := v_8
    have hq := hk _ _ rfl
    refine callVA (gV (rest := []) ⟨hx, hb, hml, hown, hts⟩ hG hP hD 0 8 rfl rfl (mtX8_keep l D cI cB cR ad H.size states whyKind whyOrder many wide textLong spot readColumns all past refused work kept chosen across sum one two base quotients text numbers entries before (u_5, u_6) hq_7) (cwV 0 hts gX8_monic_X8_keep rfl rfl rfl ⟨rfl, hd_X8_keep⟩ ⟨Nat.le_of_ble_eq_true rfl, Nat.le_of_ble_eq_true rfl⟩) rfl hl.1 rfl (Nat.le_of_ble_eq_true rfl) dX8_monic_17) hD hS hA (fun H locs hP hD hS => ?_)
    have hP : va_P D cls9 (wM cI ad u_5 whyKind whyOrder many wide textLong spot readColumns all u_6 refused work kept chosen across sum one two base quotients text numbers entries before) H := hP
    have hD : va_D A (wM cI ad u_5 whyKind whyOrder many wide textLong spot readColumns all u_6 refused work kept chosen across sum one two base quotients text numbers entries before) := hD
    refine lv_aload_n hx hb dX8_monic_20 rfl (lv_at hl 1 rfl) ?_
    refine lv_iload_n hx hb dX8_monic_21 rfl (lv_at hl 2 rfl) ?_
    obtain ⟨v_12, hq_11, hk⟩ := bd2_s hq
    obtain ⟨r_9, u_10⟩ := v_12
    have hq := hk _ _ rfl
    refine callIA (gV (rest := []) ⟨hx, hb, hml, hown, hts⟩ hG hP hD 0 8 rfl rfl (mtX8_monicNow l D cI cB cR ad H.size u_5 whyKind whyOrder many wide textLong spot readColumns all u_6 refused work kept chosen across sum one two base quotients text numbers entries before a0 (r_9, u_10) hq_11) (cwV 1 hts gX8_monic_X8_monicNow rfl rfl rfl ⟨rfl, hd_X8_monicNow⟩ ⟨Nat.le_of_ble_eq_true rfl, Nat.le_of_ble_eq_true rfl⟩) rfl hl.1 rfl (Nat.le_of_ble_eq_true rfl) dX8_monic_22) hD hS hA (fun H locs hP hD hS => ?_)
    have hP : va_P D cls9 (wM cI ad u_5 whyKind whyOrder many wide textLong spot readColumns u_10 u_6 refused work kept chosen across sum one two base quotients text numbers entries before) H := hP
    have hD : va_D A (wM cI ad u_5 whyKind whyOrder many wide textLong spot readColumns u_10 u_6 refused work kept chosen across sum one two base quotients text numbers entries before) := hD
    have he := Option.some.inj hq
    subst he
    exact hE H locs _ _ _ rfl dX8_monic_25 hP hD hS
  · have hq := it_f c_4 hq
    refine lv_aload_n hx hb dX8_monic_10 rfl (lv_at hl 1 rfl) ?_
    refine lv_iload_n hx hb dX8_monic_11 rfl (lv_at hl 0 rfl) ?_
    obtain ⟨v_16, hq_15, hk⟩ := bd2_s hq
    obtain ⟨r_13, u_14⟩ := v_16
    have hq := hk _ _ rfl
    refine callIA (gV (rest := []) ⟨hx, hb, hml, hown, hts⟩ hG hP hD 0 8 rfl rfl (mtX8_refuses l D cI cB cR ad H.size states whyKind whyOrder many wide textLong spot readColumns all past refused work kept chosen across sum one two base quotients text numbers entries before r_1 (r_13, u_14) hq_15) (cwV 1 hts gX8_monic_X8_refuses rfl rfl rfl ⟨rfl, hd_X8_refuses⟩ ⟨Nat.le_of_ble_eq_true rfl, Nat.le_of_ble_eq_true rfl⟩) rfl hl.1 rfl (Nat.le_of_ble_eq_true rfl) dX8_monic_12) hD hS hA (fun H locs hP hD hS => ?_)
    have hP : va_P D cls9 (wM cI ad states whyKind whyOrder many wide textLong spot readColumns all past u_14 work kept chosen across sum one two base quotients text numbers entries before) H := hP
    have hD : va_D A (wM cI ad states whyKind whyOrder many wide textLong spot readColumns all past u_14 work kept chosen across sum one two base quotients text numbers entries before) := hD
    have he := Option.some.inj hq
    subst he
    exact hE H locs _ _ _ rfl dX8_monic_15 hP hD hS
abbrev rm_X8_of : Room := { frames := 2, cells := 0, slots := 0, locals := 46 }
theorem fX8_of_0 : Cond.constantLong RX8 124 (6) ∈ wsX8_of := (List.mem_cons_of_mem _ (List.mem_append_left _ (List.mem_append_left _ (List.mem_of_getElem? (i := 0) rfl))))
theorem iX8_of_X8 : ∀ w ∈ wsX80, w ∈ wsX8_of := fun _ h => (List.mem_cons_of_mem _ (List.mem_append_right _ h))
theorem fX8_of_2 : Cond.fieldLink RX8 7 "PopovRowsModel" "all" "[I" ∈ wsX8_of := (List.mem_cons_of_mem _ (List.mem_append_left _ (List.mem_append_left _ (List.mem_of_getElem? (i := 1) rfl))))
set_option maxHeartbeats 4000000 in
set_option maxRecDepth 100000 in
theorem mtX8_of (l : Launch) (D : va_G) (cI cB cR : ClassId) (ad : Nat → Nat) (sz : Nat) (states : Int32) (whyKind : Int32) (whyOrder : Int32) (many : Int32) (wide : Int32) (textLong : Int32) (spot : Int32) (readColumns : Int32) (all : Nat → Int32) (past : Nat → Int32) (refused : Nat → Int32) (work : Nat → Int32) (kept : Nat → Int32) (chosen : Nat → Int32) (across : Nat → Int32) (sum : Nat → Int32) (one : Nat → Int32) (two : Nat → Int32) (base : Nat → Int32) (quotients : Nat → Int32) (text : Nat → Int32) (numbers : Nat → Int32) (entries : Nat → Int32) (before : Nat → Int32) (a0 : Int32) (a1 : Int32) (a2 : Int32) (res : Int32 × (Nat → Int32)) (hf : fX8_of all refused a0 a1 a2 = some res) : Met l yX8_of wsX8_of rm_X8_of (qP D cI cB cR [.ref (ad 0), .int a0, .int a1, .int a2] (wM cI ad states whyKind whyOrder many wide textLong spot readColumns all past refused work kept chosen across sum one two base quotients text numbers entries before) sz) (qI D res.1 (wM cI ad states whyKind whyOrder many wide textLong spot readColumns all past refused work kept chosen across sum one two base quotients text numbers entries before) (wM cI ad states whyKind whyOrder many wide textLong spot readColumns all past res.2 work kept chosen across sum one two base quotients text numbers entries before) sz) 0 0 (va_A (wM cI ad states whyKind whyOrder many wide textLong spot readColumns all past refused work kept chosen across sum one two base quotients text numbers entries before) sz) := by
  refine entI (plainFor_of_name (by decide)) rfl (Nat.le_of_ble_eq_true rfl) ?_
  intro p e s m args below meth c Q A ls S hG hP hD hA hl hE
  obtain ⟨hx, hb, hml, hown, hts⟩ := S
  have hown : s.vm.findClass RX8 = some m.cls := hown
  have hS : va_S A s.heap s.heap [] := va_S.rf
  have hl : lv_has ls 4 [(0, .ref (ad 0)), (1, .int a0), (2, .int a1), (3, .int a2)] := hl
  have hq := hf
  unfold fX8_of at hq
  obtain ⟨H, hH⟩ : ∃ H, H = s.heap := ⟨_, rfl⟩
  obtain ⟨locs, hlo⟩ : ∃ L : List Loc, L = [] := ⟨_, rfl⟩
  have hP : va_P D cls9 (wM cI ad states whyKind whyOrder many wide textLong spot readColumns all past refused work kept chosen across sum one two base quotients text numbers entries before) H := hH ▸ hP
  have hS : va_S A s.heap H locs := by rw [hH, hlo]; exact hS
  suffices hg : W p l e rm_X8_of s m args below meth c H locs 0 0 Q (F0 m 0 ls []) by rw [hH, hlo] at hg; exact hg
  refine lv_aload_n hx hb dX8_of_0 rfl (lv_at hl 0 rfl) ?_
  refine lv_iload_n hx hb dX8_of_1 rfl (lv_at hl 1 rfl) ?_
  obtain ⟨v_3, hq_2, hk⟩ := bd1_s hq
  obtain ⟨r_1, rfl⟩ : ∃ y, y = v_3 := ⟨_, rfl⟩
  have hq := hk _ rfl
  refine callZA (gV (rest := []) ⟨hx, hb, hml, hown, hts⟩ hG hP hD 0 8 rfl rfl (mtX8_isRow l D cI cB cR ad H.size states whyKind whyOrder many wide textLong spot readColumns all past refused work kept chosen across sum one two base quotients text numbers entries before a0 r_1 hq_2) (cwV 1 hts gX8_of_X8_isRow rfl rfl rfl ⟨rfl, hd_X8_isRow⟩ ⟨Nat.le_of_ble_eq_true rfl, Nat.le_of_ble_eq_true rfl⟩) rfl hl.1 rfl (Nat.le_of_ble_eq_true rfl) dX8_of_2) hD hS hA (fun H locs z_4 hP hD hS => ?_)
  have hP : va_P D cls9 (wM cI ad states whyKind whyOrder many wide textLong spot readColumns all past refused work kept chosen across sum one two base quotients text numbers entries before) H := hP
  have hD : va_D A (wM cI ad states whyKind whyOrder many wide textLong spot readColumns all past refused work kept chosen across sum one two base quotients text numbers entries before) := hD
  refine lv_if_eq (tgt := 42) hx hb dX8_of_5 (by decide) (fun c_5 => ?_) (fun c_5 => ?_)
  · have hq := it_t c_5 hq
    refine lv_aload_n hx hb dX8_of_42 rfl (lv_at hl 0 rfl) ?_
    refine lv_bipush (v := -2) hx hb dX8_of_43 (by decide) ?_
    obtain ⟨v_9, hq_8, hk⟩ := bd2_s hq
    obtain ⟨r_6, u_7⟩ := v_9
    have hq := hk _ _ rfl
    refine callIA (gV (rest := []) ⟨hx, hb, hml, hown, hts⟩ hG hP hD 0 8 rfl rfl (mtX8_refuses l D cI cB cR ad H.size states whyKind whyOrder many wide textLong spot readColumns all past refused work kept chosen across sum one two base quotients text numbers entries before (-2 : Int32) (r_6, u_7) hq_8) (cwV 1 hts gX8_of_X8_refuses rfl rfl rfl ⟨rfl, hd_X8_refuses⟩ ⟨Nat.le_of_ble_eq_true rfl, Nat.le_of_ble_eq_true rfl⟩) rfl hl.1 rfl (Nat.le_of_ble_eq_true rfl) dX8_of_45) hD hS hA (fun H locs hP hD hS => ?_)
    have hP : va_P D cls9 (wM cI ad states whyKind whyOrder many wide textLong spot readColumns all past u_7 work kept chosen across sum one two base quotients text numbers entries before) H := hP
    have hD : va_D A (wM cI ad states whyKind whyOrder many wide textLong spot readColumns all past u_7 work kept chosen across sum one two base quotients text numbers entries before) := hD
    have he := Option.some.inj hq
    subst he
    exact hE H locs _ _ _ rfl dX8_of_48 hP hD hS
  · have hq := it_f c_5 hq
    refine lv_aload_n hx hb dX8_of_8 rfl (lv_at hl 0 rfl) ?_
    refine lv_iload_n hx hb dX8_of_9 rfl (lv_at hl 2 rfl) ?_
    obtain ⟨v_12, hq_11, hk⟩ := bd1_s hq
    obtain ⟨r_10, rfl⟩ : ∃ y, y = v_12 := ⟨_, rfl⟩
    have hq := hk _ rfl
    refine callZA (gV (rest := []) ⟨hx, hb, hml, hown, hts⟩ hG hP hD 0 8 rfl rfl (mtX8_isColumn l D cI cB cR ad H.size states whyKind whyOrder many wide textLong spot readColumns all past refused work kept chosen across sum one two base quotients text numbers entries before a1 r_10 hq_11) (cwV 1 hts gX8_of_X8_isColumn rfl rfl rfl ⟨rfl, hd_X8_isColumn⟩ ⟨Nat.le_of_ble_eq_true rfl, Nat.le_of_ble_eq_true rfl⟩) rfl hl.1 rfl (Nat.le_of_ble_eq_true rfl) dX8_of_10) hD hS hA (fun H locs z_13 hP hD hS => ?_)
    have hP : va_P D cls9 (wM cI ad states whyKind whyOrder many wide textLong spot readColumns all past refused work kept chosen across sum one two base quotients text numbers entries before) H := hP
    have hD : va_D A (wM cI ad states whyKind whyOrder many wide textLong spot readColumns all past refused work kept chosen across sum one two base quotients text numbers entries before) := hD
    refine lv_if_eq (tgt := 42) hx hb dX8_of_13 (by decide) (fun c_14 => ?_) (fun c_14 => ?_)
    · have hq := it_t c_14 hq
      refine lv_aload_n hx hb dX8_of_42 rfl (lv_at hl 0 rfl) ?_
      refine lv_bipush (v := -2) hx hb dX8_of_43 (by decide) ?_
      obtain ⟨v_18, hq_17, hk⟩ := bd2_s hq
      obtain ⟨r_15, u_16⟩ := v_18
      have hq := hk _ _ rfl
      refine callIA (gV (rest := []) ⟨hx, hb, hml, hown, hts⟩ hG hP hD 0 8 rfl rfl (mtX8_refuses l D cI cB cR ad H.size states whyKind whyOrder many wide textLong spot readColumns all past refused work kept chosen across sum one two base quotients text numbers entries before (-2 : Int32) (r_15, u_16) hq_17) (cwV 1 hts gX8_of_X8_refuses rfl rfl rfl ⟨rfl, hd_X8_refuses⟩ ⟨Nat.le_of_ble_eq_true rfl, Nat.le_of_ble_eq_true rfl⟩) rfl hl.1 rfl (Nat.le_of_ble_eq_true rfl) dX8_of_45) hD hS hA (fun H locs hP hD hS => ?_)
      have hP : va_P D cls9 (wM cI ad states whyKind whyOrder many wide textLong spot readColumns all past u_16 work kept chosen across sum one two base quotients text numbers entries before) H := hP
      have hD : va_D A (wM cI ad states whyKind whyOrder many wide textLong spot readColumns all past u_16 work kept chosen across sum one two base quotients text numbers entries before) := hD
      have he := Option.some.inj hq
      subst he
      exact hE H locs _ _ _ rfl dX8_of_48 hP hD hS
    · have hq := it_f c_14 hq
      refine lv_iload_n hx hb dX8_of_16 rfl (lv_at hl 3 rfl) ?_
      refine lv_i2l (v := (a2.toInt64)) hx hb dX8_of_17 rfl ?_
      refine lv_lconst (v := 0) hx hb dX8_of_18 (by decide) ?_
      refine lv_ldc2 (v := 6) hx hb hown (hts _ fX8_of_0) dX8_of_19 ?_
      refine callZ0 (gS (rest := []) ⟨hx, hb, hml, hown, hts⟩ hG vaP0 (vaD0 (A := A)) (mtX8_in l D cI cB cR H.size (a2.toInt64) (0 : Int64) (6 : Int64) _ rfl) (va_cwS 3 hts gX8_of_X8_in rfl rfl rfl hd_X8_in ⟨Nat.le_of_ble_eq_true rfl, Nat.le_of_ble_eq_true rfl⟩) rfl hl.1 rfl (Nat.le_of_ble_eq_true rfl) dX8_of_22) hP hS hA (fun H locs z_19 hP hS => ?_)
      refine lv_if_eq (tgt := 42) hx hb dX8_of_25 (by decide) (fun c_20 => ?_) (fun c_20 => ?_)
      · have hq := it_t c_20 hq
        refine lv_aload_n hx hb dX8_of_42 rfl (lv_at hl 0 rfl) ?_
        refine lv_bipush (v := -2) hx hb dX8_of_43 (by decide) ?_
        obtain ⟨v_24, hq_23, hk⟩ := bd2_s hq
        obtain ⟨r_21, u_22⟩ := v_24
        have hq := hk _ _ rfl
        refine callIA (gV (rest := []) ⟨hx, hb, hml, hown, hts⟩ hG hP hD 0 8 rfl rfl (mtX8_refuses l D cI cB cR ad H.size states whyKind whyOrder many wide textLong spot readColumns all past refused work kept chosen across sum one two base quotients text numbers entries before (-2 : Int32) (r_21, u_22) hq_23) (cwV 1 hts gX8_of_X8_refuses rfl rfl rfl ⟨rfl, hd_X8_refuses⟩ ⟨Nat.le_of_ble_eq_true rfl, Nat.le_of_ble_eq_true rfl⟩) rfl hl.1 rfl (Nat.le_of_ble_eq_true rfl) dX8_of_45) hD hS hA (fun H locs hP hD hS => ?_)
        have hP : va_P D cls9 (wM cI ad states whyKind whyOrder many wide textLong spot readColumns all past u_22 work kept chosen across sum one two base quotients text numbers entries before) H := hP
        have hD : va_D A (wM cI ad states whyKind whyOrder many wide textLong spot readColumns all past u_22 work kept chosen across sum one two base quotients text numbers entries before) := hD
        have he := Option.some.inj hq
        subst he
        exact hE H locs _ _ _ rfl dX8_of_48 hP hD hS
      · have hq := it_f c_20 hq
        refine lv_aload_n hx hb dX8_of_28 rfl (lv_at hl 0 rfl) ?_
        refine va_get (D := D) (ci := 8) (v := .ref (ad 1)) (C := RX8) (T := TX8) (N := 24) hx hb hts iX8_of_X8 hown hG.1 hP 0 rfl rfl 0 (by decide) (hts _ fX8_of_2) (fun _ h9 => h9) rfl dX8_of_29 ?_
        refine lv_iload_n hx hb dX8_of_32 rfl (lv_at hl 1 rfl) ?_
        refine lv_iload_n hx hb dX8_of_33 rfl (lv_at hl 2 rfl) ?_
        refine lv_iload_n hx hb dX8_of_34 rfl (lv_at hl 3 rfl) ?_
        refine callI0 (gS (rest := [.ref (ad 1)]) ⟨hx, hb, hml, hown, hts⟩ hG vaP0 (vaD0 (A := A)) (mtX8_place l D cI cB cR H.size a0 a1 a2 _ rfl) (va_cwS 3 hts gX8_of_X8_place rfl rfl rfl hd_X8_place ⟨Nat.le_of_ble_eq_true rfl, Nat.le_of_ble_eq_true rfl⟩) rfl hl.1 rfl (Nat.le_of_ble_eq_true rfl) dX8_of_35) hP hS hA (fun H locs hP hS => ?_)
        obtain ⟨h_25, hq⟩ := gd_s hq
        refine va_iald hx hb hG.1 hP 1 0 rfl rfl h_25 dX8_of_38 ?_
        refine lv_goto (tgt := 48) hx hb dX8_of_39 (by decide) ?_
        have he := Option.some.inj hq
        subst he
        exact hE H locs _ _ _ rfl dX8_of_48 hP hD hS
abbrev rm_X8_aboutRow : Room := { frames := 5, cells := 0, slots := 0, locals := 113 }
set_option maxHeartbeats 4000000 in
set_option maxRecDepth 100000 in
theorem mtX8_aboutRow (l : Launch) (D : va_G) (cI cB cR : ClassId) (ad : Nat → Nat) (sz : Nat) (states : Int32) (whyKind : Int32) (whyOrder : Int32) (many : Int32) (wide : Int32) (textLong : Int32) (spot : Int32) (readColumns : Int32) (all : Nat → Int32) (past : Nat → Int32) (refused : Nat → Int32) (work : Nat → Int32) (kept : Nat → Int32) (chosen : Nat → Int32) (across : Nat → Int32) (sum : Nat → Int32) (one : Nat → Int32) (two : Nat → Int32) (base : Nat → Int32) (quotients : Nat → Int32) (text : Nat → Int32) (numbers : Nat → Int32) (entries : Nat → Int32) (before : Nat → Int32) (a0 : Int32) (a1 : Int32) (res : Int32) (hf : fX8_aboutRow all a0 a1 = some res) : Met l yX8_aboutRow wsX8_aboutRow rm_X8_aboutRow (qP D cI cB cR [.ref (ad 0), .int a0, .int a1] (wM cI ad states whyKind whyOrder many wide textLong spot readColumns all past refused work kept chosen across sum one two base quotients text numbers entries before) sz) (qI D res (wM cI ad states whyKind whyOrder many wide textLong spot readColumns all past refused work kept chosen across sum one two base quotients text numbers entries before) (wM cI ad states whyKind whyOrder many wide textLong spot readColumns all past refused work kept chosen across sum one two base quotients text numbers entries before) sz) 0 0 (va_A (wM cI ad states whyKind whyOrder many wide textLong spot readColumns all past refused work kept chosen across sum one two base quotients text numbers entries before) sz) := by
  refine entI (plainFor_of_name (by decide)) rfl (Nat.le_of_ble_eq_true rfl) ?_
  intro p e s m args below meth c Q A ls S hG hP hD hA hl hE
  obtain ⟨hx, hb, hml, hown, hts⟩ := S
  have hown : s.vm.findClass RX8 = some m.cls := hown
  have hS : va_S A s.heap s.heap [] := va_S.rf
  have hl : lv_has ls 3 [(0, .ref (ad 0)), (1, .int a0), (2, .int a1)] := hl
  have hq := hf
  unfold fX8_aboutRow at hq
  obtain ⟨H, hH⟩ : ∃ H, H = s.heap := ⟨_, rfl⟩
  obtain ⟨locs, hlo⟩ : ∃ L : List Loc, L = [] := ⟨_, rfl⟩
  have hP : va_P D cls9 (wM cI ad states whyKind whyOrder many wide textLong spot readColumns all past refused work kept chosen across sum one two base quotients text numbers entries before) H := hH ▸ hP
  have hS : va_S A s.heap H locs := by rw [hH, hlo]; exact hS
  suffices hg : W p l e rm_X8_aboutRow s m args below meth c H locs 0 0 Q (F0 m 0 ls []) by rw [hH, hlo] at hg; exact hg
  refine lv_iload_n hx hb dX8_aboutRow_0 rfl (lv_at hl 2 rfl) ?_
  refine lv_if_ne (tgt := 12) hx hb dX8_aboutRow_1 (by decide) (fun c_1 => ?_) (fun c_1 => ?_)
  · have hq := it_f c_1 hq
    refine lv_iload_n hx hb dX8_aboutRow_12 rfl (lv_at hl 2 rfl) ?_
    refine lv_iconst (v := 1) hx hb dX8_aboutRow_13 (by decide) ?_
    refine lv_icmp_ne (tgt := 25) hx hb dX8_aboutRow_14 (by decide) (fun c_2 => ?_) (fun c_2 => ?_)
    · have hq := it_f c_2 hq
      refine lv_aload_n hx hb dX8_aboutRow_25 rfl (lv_at hl 0 rfl) ?_
      refine lv_iload_n hx hb dX8_aboutRow_26 rfl (lv_at hl 1 rfl) ?_
      obtain ⟨v_5, hq_4, hk⟩ := bd1_s hq
      obtain ⟨r_3, rfl⟩ : ∃ y, y = v_5 := ⟨_, rfl⟩
      have hq := hk _ rfl
      refine callIA (gV (rest := []) ⟨hx, hb, hml, hown, hts⟩ hG hP hD 0 8 rfl rfl (mtX8_lead l D cI cB cR ad H.size states whyKind whyOrder many wide textLong spot readColumns all past refused work kept chosen across sum one two base quotients text numbers entries before a0 r_3 hq_4) (cwV 1 hts gX8_aboutRow_X8_lead rfl rfl rfl ⟨rfl, hd_X8_lead⟩ ⟨Nat.le_of_ble_eq_true rfl, Nat.le_of_ble_eq_true rfl⟩) rfl hl.1 rfl (Nat.le_of_ble_eq_true rfl) dX8_aboutRow_27) hD hS hA (fun H locs hP hD hS => ?_)
      have hP : va_P D cls9 (wM cI ad states whyKind whyOrder many wide textLong spot readColumns all past refused work kept chosen across sum one two base quotients text numbers entries before) H := hP
      have hD : va_D A (wM cI ad states whyKind whyOrder many wide textLong spot readColumns all past refused work kept chosen across sum one two base quotients text numbers entries before) := hD
      have he := Option.some.inj hq
      subst he
      exact hE H locs _ _ _ rfl dX8_aboutRow_30 hP hD hS
    · have hq := it_t c_2 hq
      refine lv_aload_n hx hb dX8_aboutRow_17 rfl (lv_at hl 0 rfl) ?_
      refine lv_iload_n hx hb dX8_aboutRow_18 rfl (lv_at hl 1 rfl) ?_
      obtain ⟨v_8, hq_7, hk⟩ := bd1_s hq
      obtain ⟨r_6, rfl⟩ : ∃ y, y = v_8 := ⟨_, rfl⟩
      have hq := hk _ rfl
      refine callIA (gV (rest := []) ⟨hx, hb, hml, hown, hts⟩ hG hP hD 0 8 rfl rfl (mtX8_pivot l D cI cB cR ad H.size states whyKind whyOrder many wide textLong spot readColumns all past refused work kept chosen across sum one two base quotients text numbers entries before a0 r_6 hq_7) (cwV 1 hts gX8_aboutRow_X8_pivot rfl rfl rfl ⟨rfl, hd_X8_pivot⟩ ⟨Nat.le_of_ble_eq_true rfl, Nat.le_of_ble_eq_true rfl⟩) rfl hl.1 rfl (Nat.le_of_ble_eq_true rfl) dX8_aboutRow_19) hD hS hA (fun H locs hP hD hS => ?_)
      have hP : va_P D cls9 (wM cI ad states whyKind whyOrder many wide textLong spot readColumns all past refused work kept chosen across sum one two base quotients text numbers entries before) H := hP
      have hD : va_D A (wM cI ad states whyKind whyOrder many wide textLong spot readColumns all past refused work kept chosen across sum one two base quotients text numbers entries before) := hD
      refine lv_goto (tgt := 30) hx hb dX8_aboutRow_22 (by decide) ?_
      have he := Option.some.inj hq
      subst he
      exact hE H locs _ _ _ rfl dX8_aboutRow_30 hP hD hS
  · have hq := it_t c_1 hq
    refine lv_aload_n hx hb dX8_aboutRow_4 rfl (lv_at hl 0 rfl) ?_
    refine lv_iload_n hx hb dX8_aboutRow_5 rfl (lv_at hl 1 rfl) ?_
    obtain ⟨v_11, hq_10, hk⟩ := bd1_s hq
    obtain ⟨r_9, rfl⟩ : ∃ y, y = v_11 := ⟨_, rfl⟩
    have hq := hk _ rfl
    refine callIA (gV (rest := []) ⟨hx, hb, hml, hown, hts⟩ hG hP hD 0 8 rfl rfl (mtX8_degree l D cI cB cR ad H.size states whyKind whyOrder many wide textLong spot readColumns all past refused work kept chosen across sum one two base quotients text numbers entries before a0 r_9 hq_10) (cwV 1 hts gX8_aboutRow_X8_degree rfl rfl rfl ⟨rfl, hd_X8_degree⟩ ⟨Nat.le_of_ble_eq_true rfl, Nat.le_of_ble_eq_true rfl⟩) rfl hl.1 rfl (Nat.le_of_ble_eq_true rfl) dX8_aboutRow_6) hD hS hA (fun H locs hP hD hS => ?_)
    have hP : va_P D cls9 (wM cI ad states whyKind whyOrder many wide textLong spot readColumns all past refused work kept chosen across sum one two base quotients text numbers entries before) H := hP
    have hD : va_D A (wM cI ad states whyKind whyOrder many wide textLong spot readColumns all past refused work kept chosen across sum one two base quotients text numbers entries before) := hD
    refine lv_goto (tgt := 30) hx hb dX8_aboutRow_9 (by decide) ?_
    have he := Option.some.inj hq
    subst he
    exact hE H locs _ _ _ rfl dX8_aboutRow_30 hP hD hS
abbrev rm_X8_about : Room := { frames := 6, cells := 0, slots := 0, locals := 135 }
theorem fX8_about_0 : Cond.constantLong RX8 151 (2) ∈ wsX8_about := (List.mem_cons_of_mem _ (List.mem_append_left _ (List.mem_append_left _ (List.mem_of_getElem? (i := 0) rfl))))
set_option maxHeartbeats 4000000 in
set_option maxRecDepth 100000 in
theorem mtX8_about (l : Launch) (D : va_G) (cI cB cR : ClassId) (ad : Nat → Nat) (sz : Nat) (states : Int32) (whyKind : Int32) (whyOrder : Int32) (many : Int32) (wide : Int32) (textLong : Int32) (spot : Int32) (readColumns : Int32) (all : Nat → Int32) (past : Nat → Int32) (refused : Nat → Int32) (work : Nat → Int32) (kept : Nat → Int32) (chosen : Nat → Int32) (across : Nat → Int32) (sum : Nat → Int32) (one : Nat → Int32) (two : Nat → Int32) (base : Nat → Int32) (quotients : Nat → Int32) (text : Nat → Int32) (numbers : Nat → Int32) (entries : Nat → Int32) (before : Nat → Int32) (a0 : Int32) (a1 : Int32) (res : Int32 × (Nat → Int32)) (hf : fX8_about all refused a0 a1 = some res) : Met l yX8_about wsX8_about rm_X8_about (qP D cI cB cR [.ref (ad 0), .int a0, .int a1] (wM cI ad states whyKind whyOrder many wide textLong spot readColumns all past refused work kept chosen across sum one two base quotients text numbers entries before) sz) (qI D res.1 (wM cI ad states whyKind whyOrder many wide textLong spot readColumns all past refused work kept chosen across sum one two base quotients text numbers entries before) (wM cI ad states whyKind whyOrder many wide textLong spot readColumns all past res.2 work kept chosen across sum one two base quotients text numbers entries before) sz) 0 0 (va_A (wM cI ad states whyKind whyOrder many wide textLong spot readColumns all past refused work kept chosen across sum one two base quotients text numbers entries before) sz) := by
  refine entI (plainFor_of_name (by decide)) rfl (Nat.le_of_ble_eq_true rfl) ?_
  intro p e s m args below meth c Q A ls S hG hP hD hA hl hE
  obtain ⟨hx, hb, hml, hown, hts⟩ := S
  have hown : s.vm.findClass RX8 = some m.cls := hown
  have hS : va_S A s.heap s.heap [] := va_S.rf
  have hl : lv_has ls 3 [(0, .ref (ad 0)), (1, .int a0), (2, .int a1)] := hl
  have hq := hf
  unfold fX8_about at hq
  obtain ⟨H, hH⟩ : ∃ H, H = s.heap := ⟨_, rfl⟩
  obtain ⟨locs, hlo⟩ : ∃ L : List Loc, L = [] := ⟨_, rfl⟩
  have hP : va_P D cls9 (wM cI ad states whyKind whyOrder many wide textLong spot readColumns all past refused work kept chosen across sum one two base quotients text numbers entries before) H := hH ▸ hP
  have hS : va_S A s.heap H locs := by rw [hH, hlo]; exact hS
  suffices hg : W p l e rm_X8_about s m args below meth c H locs 0 0 Q (F0 m 0 ls []) by rw [hH, hlo] at hg; exact hg
  refine lv_aload_n hx hb dX8_about_0 rfl (lv_at hl 0 rfl) ?_
  refine lv_iload_n hx hb dX8_about_1 rfl (lv_at hl 1 rfl) ?_
  obtain ⟨v_3, hq_2, hk⟩ := bd1_s hq
  obtain ⟨r_1, rfl⟩ : ∃ y, y = v_3 := ⟨_, rfl⟩
  have hq := hk _ rfl
  refine callZA (gV (rest := []) ⟨hx, hb, hml, hown, hts⟩ hG hP hD 0 8 rfl rfl (mtX8_isRow l D cI cB cR ad H.size states whyKind whyOrder many wide textLong spot readColumns all past refused work kept chosen across sum one two base quotients text numbers entries before a0 r_1 hq_2) (cwV 1 hts gX8_about_X8_isRow rfl rfl rfl ⟨rfl, hd_X8_isRow⟩ ⟨Nat.le_of_ble_eq_true rfl, Nat.le_of_ble_eq_true rfl⟩) rfl hl.1 rfl (Nat.le_of_ble_eq_true rfl) dX8_about_2) hD hS hA (fun H locs z_4 hP hD hS => ?_)
  have hP : va_P D cls9 (wM cI ad states whyKind whyOrder many wide textLong spot readColumns all past refused work kept chosen across sum one two base quotients text numbers entries before) H := hP
  have hD : va_D A (wM cI ad states whyKind whyOrder many wide textLong spot readColumns all past refused work kept chosen across sum one two base quotients text numbers entries before) := hD
  refine lv_if_eq (tgt := 29) hx hb dX8_about_5 (by decide) (fun c_5 => ?_) (fun c_5 => ?_)
  · have hq := it_t c_5 hq
    refine lv_aload_n hx hb dX8_about_29 rfl (lv_at hl 0 rfl) ?_
    refine lv_bipush (v := -2) hx hb dX8_about_30 (by decide) ?_
    obtain ⟨v_9, hq_8, hk⟩ := bd2_s hq
    obtain ⟨r_6, u_7⟩ := v_9
    have hq := hk _ _ rfl
    refine callIA (gV (rest := []) ⟨hx, hb, hml, hown, hts⟩ hG hP hD 0 8 rfl rfl (mtX8_refuses l D cI cB cR ad H.size states whyKind whyOrder many wide textLong spot readColumns all past refused work kept chosen across sum one two base quotients text numbers entries before (-2 : Int32) (r_6, u_7) hq_8) (cwV 1 hts gX8_about_X8_refuses rfl rfl rfl ⟨rfl, hd_X8_refuses⟩ ⟨Nat.le_of_ble_eq_true rfl, Nat.le_of_ble_eq_true rfl⟩) rfl hl.1 rfl (Nat.le_of_ble_eq_true rfl) dX8_about_32) hD hS hA (fun H locs hP hD hS => ?_)
    have hP : va_P D cls9 (wM cI ad states whyKind whyOrder many wide textLong spot readColumns all past u_7 work kept chosen across sum one two base quotients text numbers entries before) H := hP
    have hD : va_D A (wM cI ad states whyKind whyOrder many wide textLong spot readColumns all past u_7 work kept chosen across sum one two base quotients text numbers entries before) := hD
    have he := Option.some.inj hq
    subst he
    exact hE H locs _ _ _ rfl dX8_about_35 hP hD hS
  · have hq := it_f c_5 hq
    refine lv_iload_n hx hb dX8_about_8 rfl (lv_at hl 2 rfl) ?_
    refine lv_i2l (v := (a1.toInt64)) hx hb dX8_about_9 rfl ?_
    refine lv_lconst (v := 0) hx hb dX8_about_10 (by decide) ?_
    refine lv_ldc2 (v := 2) hx hb hown (hts _ fX8_about_0) dX8_about_11 ?_
    refine callZ0 (gS (rest := []) ⟨hx, hb, hml, hown, hts⟩ hG vaP0 (vaD0 (A := A)) (mtX8_in l D cI cB cR H.size (a1.toInt64) (0 : Int64) (2 : Int64) _ rfl) (va_cwS 3 hts gX8_about_X8_in rfl rfl rfl hd_X8_in ⟨Nat.le_of_ble_eq_true rfl, Nat.le_of_ble_eq_true rfl⟩) rfl hl.1 rfl (Nat.le_of_ble_eq_true rfl) dX8_about_14) hP hS hA (fun H locs z_10 hP hS => ?_)
    refine lv_if_eq (tgt := 29) hx hb dX8_about_17 (by decide) (fun c_11 => ?_) (fun c_11 => ?_)
    · have hq := it_t c_11 hq
      refine lv_aload_n hx hb dX8_about_29 rfl (lv_at hl 0 rfl) ?_
      refine lv_bipush (v := -2) hx hb dX8_about_30 (by decide) ?_
      obtain ⟨v_15, hq_14, hk⟩ := bd2_s hq
      obtain ⟨r_12, u_13⟩ := v_15
      have hq := hk _ _ rfl
      refine callIA (gV (rest := []) ⟨hx, hb, hml, hown, hts⟩ hG hP hD 0 8 rfl rfl (mtX8_refuses l D cI cB cR ad H.size states whyKind whyOrder many wide textLong spot readColumns all past refused work kept chosen across sum one two base quotients text numbers entries before (-2 : Int32) (r_12, u_13) hq_14) (cwV 1 hts gX8_about_X8_refuses rfl rfl rfl ⟨rfl, hd_X8_refuses⟩ ⟨Nat.le_of_ble_eq_true rfl, Nat.le_of_ble_eq_true rfl⟩) rfl hl.1 rfl (Nat.le_of_ble_eq_true rfl) dX8_about_32) hD hS hA (fun H locs hP hD hS => ?_)
      have hP : va_P D cls9 (wM cI ad states whyKind whyOrder many wide textLong spot readColumns all past u_13 work kept chosen across sum one two base quotients text numbers entries before) H := hP
      have hD : va_D A (wM cI ad states whyKind whyOrder many wide textLong spot readColumns all past u_13 work kept chosen across sum one two base quotients text numbers entries before) := hD
      have he := Option.some.inj hq
      subst he
      exact hE H locs _ _ _ rfl dX8_about_35 hP hD hS
    · have hq := it_f c_11 hq
      refine lv_aload_n hx hb dX8_about_20 rfl (lv_at hl 0 rfl) ?_
      refine lv_iload_n hx hb dX8_about_21 rfl (lv_at hl 1 rfl) ?_
      refine lv_iload_n hx hb dX8_about_22 rfl (lv_at hl 2 rfl) ?_
      obtain ⟨v_18, hq_17, hk⟩ := bd1_s hq
      obtain ⟨r_16, rfl⟩ : ∃ y, y = v_18 := ⟨_, rfl⟩
      have hq := hk _ rfl
      refine callIA (gV (rest := []) ⟨hx, hb, hml, hown, hts⟩ hG hP hD 0 8 rfl rfl (mtX8_aboutRow l D cI cB cR ad H.size states whyKind whyOrder many wide textLong spot readColumns all past refused work kept chosen across sum one two base quotients text numbers entries before a0 a1 r_16 hq_17) (cwV 2 hts gX8_about_X8_aboutRow rfl rfl rfl ⟨rfl, hd_X8_aboutRow⟩ ⟨Nat.le_of_ble_eq_true rfl, Nat.le_of_ble_eq_true rfl⟩) rfl hl.1 rfl (Nat.le_of_ble_eq_true rfl) dX8_about_23) hD hS hA (fun H locs hP hD hS => ?_)
      have hP : va_P D cls9 (wM cI ad states whyKind whyOrder many wide textLong spot readColumns all past refused work kept chosen across sum one two base quotients text numbers entries before) H := hP
      have hD : va_D A (wM cI ad states whyKind whyOrder many wide textLong spot readColumns all past refused work kept chosen across sum one two base quotients text numbers entries before) := hD
      refine lv_goto (tgt := 35) hx hb dX8_about_26 (by decide) ?_
      have he := Option.some.inj hq
      subst he
      exact hE H locs _ _ _ rfl dX8_about_35 hP hD hS
