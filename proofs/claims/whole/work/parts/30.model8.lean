abbrev rm_X8_chooses : Room := { frames := 1, cells := 0, slots := 0, locals := 20 }
theorem iX8_chooses_X8 : ∀ w ∈ wsX80, w ∈ wsX8_chooses := fun _ h => (List.mem_cons_of_mem _ (List.mem_append_right _ h))
theorem fX8_chooses_1 : Cond.fieldLink RX8 29 "PopovRowsModel" "chosen" "[I" ∈ wsX8_chooses := (List.mem_cons_of_mem _ (List.mem_append_left _ (List.mem_of_getElem? (i := 0) rfl)))
set_option maxHeartbeats 4000000 in
set_option maxRecDepth 100000 in
theorem mtX8_chooses (l : Launch) (D : va_G) (cI cB cR : ClassId) (ad : Nat → Nat) (sz : Nat) (states : Int32) (whyKind : Int32) (whyOrder : Int32) (many : Int32) (wide : Int32) (textLong : Int32) (spot : Int32) (readColumns : Int32) (all : Nat → Int32) (past : Nat → Int32) (refused : Nat → Int32) (work : Nat → Int32) (kept : Nat → Int32) (chosen : Nat → Int32) (across : Nat → Int32) (sum : Nat → Int32) (one : Nat → Int32) (two : Nat → Int32) (base : Nat → Int32) (quotients : Nat → Int32) (text : Nat → Int32) (numbers : Nat → Int32) (entries : Nat → Int32) (before : Nat → Int32) (a0 : Int32) (res : Int32 × (Nat → Int32)) (hf : fX8_chooses all chosen a0 = some res) : Met l yX8_chooses wsX8_chooses rm_X8_chooses (qP D cI cB cR [.ref (ad 0), .int a0] (wM cI ad states whyKind whyOrder many wide textLong spot readColumns all past refused work kept chosen across sum one two base quotients text numbers entries before) sz) (qI D res.1 (wM cI ad states whyKind whyOrder many wide textLong spot readColumns all past refused work kept chosen across sum one two base quotients text numbers entries before) (wM cI ad states whyKind whyOrder many wide textLong spot readColumns all past refused work kept res.2 across sum one two base quotients text numbers entries before) sz) 0 0 (va_A (wM cI ad states whyKind whyOrder many wide textLong spot readColumns all past refused work kept chosen across sum one two base quotients text numbers entries before) sz) := by
  refine entI (plainFor_of_name (by decide)) rfl (Nat.le_of_ble_eq_true rfl) ?_
  intro p e s m args below meth c Q A ls S hG hP hD hA hl hE
  obtain ⟨hx, hb, hml, hown, hts⟩ := S
  have hown : s.vm.findClass RX8 = some m.cls := hown
  have hS : va_S A s.heap s.heap [] := va_S.rf
  have hl : lv_has ls 4 [(0, .ref (ad 0)), (1, .int a0)] := hl
  have hq := hf
  unfold fX8_chooses at hq
  obtain ⟨H, hH⟩ : ∃ H, H = s.heap := ⟨_, rfl⟩
  obtain ⟨locs, hlo⟩ : ∃ L : List Loc, L = [] := ⟨_, rfl⟩
  have hP : va_P D cls9 (wM cI ad states whyKind whyOrder many wide textLong spot readColumns all past refused work kept chosen across sum one two base quotients text numbers entries before) H := hH ▸ hP
  have hS : va_S A s.heap H locs := by rw [hH, hlo]; exact hS
  suffices hg : W p l e rm_X8_chooses s m args below meth c H locs 0 0 Q (F0 m 0 ls []) by rw [hH, hlo] at hg; exact hg
  refine lv_iconst (v := 0) hx hb dX8_chooses_0 (by decide) ?_
  refine lv_istore_n (lv' := [(2, .int (0 : Int32)), (0, .ref (ad 0)), (1, .int a0)]) hx hb dX8_chooses_1 rfl hl (by decide) rfl (fun ls hl => ?_)
  refine lv_iconst (v := 0) hx hb dX8_chooses_2 (by decide) ?_
  refine lv_istore_n (lv' := [(3, .int (0 : Int32)), (2, .int (0 : Int32)), (0, .ref (ad 0)), (1, .int a0)]) hx hb dX8_chooses_3 rfl hl (by decide) rfl (fun ls hl => ?_)
  obtain ⟨w1, hw1, hk1⟩ := bd2_s hq
  have hX1 : ∀ (x_11 : Int32) (x_12 : Nat → Int32), w1 = (x_11, x_12) → ∀ (H : Heap) (locs : List Loc), va_P D cls9 (wM cI ad states whyKind whyOrder many wide textLong spot readColumns all past refused work kept x_12 across sum one two base quotients text numbers entries before) H → va_D A (wM cI ad states whyKind whyOrder many wide textLong spot readColumns all past refused work kept x_12 across sum one two base quotients text numbers entries before) → va_S A s.heap H locs → ∀ (ls : Array Slot), lv_has ls 4 [(2, .int x_11)] → W p l e rm_X8_chooses s m args below meth c H locs 0 0 Q (F0 m 42 ls []) := by
    intro x_11 x_12 hq H locs hP hD hS ls hl
    have hq := hk1 _ _ hq
    refine lv_iload_n hx hb dX8_chooses_42 rfl (lv_at hl 0 rfl) ?_
    have he := Option.some.inj hq
    subst he
    exact hE H locs _ _ _ rfl dX8_chooses_43 hP hD hS
  have hL1 : ∀ (n : Nat) (i_1 : Int32) (i_2 : Int32) (i_3 : Nat → Int32), lrun (fun (z : Int32 × Int32 × (Nat → Int32)) => fX8_chooses_s4 all a0 z.1 z.2.1 z.2.2) n (i_1, i_2, i_3) = some w1 → ∀ (H : Heap) (locs : List Loc), va_P D cls9 (wM cI ad states whyKind whyOrder many wide textLong spot readColumns all past refused work kept i_3 across sum one two base quotients text numbers entries before) H → va_D A (wM cI ad states whyKind whyOrder many wide textLong spot readColumns all past refused work kept i_3 across sum one two base quotients text numbers entries before) → va_S A s.heap H locs → ∀ (ls : Array Slot), lv_has ls 4 [(0, .ref (ad 0)), (1, .int a0), (2, .int i_1), (3, .int i_2)] → W p l e rm_X8_chooses s m args below meth c H locs 0 0 Q (F0 m 4 ls []) := by
    intro n
    induction n with
    | zero => intro i_1 i_2 i_3 h; cases h
    | succ n ih1 =>
      intro i_1 i_2 i_3 hr1 H locs hP hD hS ls hl
      obtain ⟨k, v1, hk, hr1, ht1, hv1⟩ := lrun_s hr1
      cases hk
      have hr1 : fX8_chooses_s4 all a0 i_1 i_2 i_3 = some v1 := hr1
      unfold fX8_chooses_s4 at hr1
      refine lv_iload_n hx hb dX8_chooses_4 rfl (lv_at hl 3 rfl) ?_
      refine lv_aload_n hx hb dX8_chooses_5 rfl (lv_at hl 0 rfl) ?_
      obtain ⟨v_6, hq_5, hk⟩ := bd1_s hr1
      obtain ⟨r_4, rfl⟩ : ∃ y, y = v_6 := ⟨_, rfl⟩
      have hr1 := hk _ rfl
      refine callIA (gV (rest := [.int i_2]) ⟨hx, hb, hml, hown, hts⟩ hG hP hD 0 8 rfl rfl (mtX8_rows l D cI cB cR ad H.size states whyKind whyOrder many wide textLong spot readColumns all past refused work kept i_3 across sum one two base quotients text numbers entries before r_4 hq_5) (cwV 0 hts gX8_chooses_X8_rows rfl rfl rfl ⟨rfl, hd_X8_rows⟩ ⟨Nat.le_of_ble_eq_true rfl, Nat.le_of_ble_eq_true rfl⟩) rfl hl.1 rfl (Nat.le_of_ble_eq_true rfl) dX8_chooses_6) hD hS hA (fun H locs hP hD hS => ?_)
      have hP : va_P D cls9 (wM cI ad states whyKind whyOrder many wide textLong spot readColumns all past refused work kept i_3 across sum one two base quotients text numbers entries before) H := hP
      have hD : va_D A (wM cI ad states whyKind whyOrder many wide textLong spot readColumns all past refused work kept i_3 across sum one two base quotients text numbers entries before) := hD
      refine lv_icmp_ge (tgt := 42) hx hb dX8_chooses_9 (by decide) (fun c_7 => ?_) (fun c_7 => ?_)
      · have hr1 := it_t c_7 hr1
        exact hX1 i_1 i_3 (hv1 _ (Option.some.inj hr1).symm).symm H locs hP hD hS ls (lv_sub hl [2] rfl)
      · have hr1 := it_f c_7 hr1
        refine lv_iload_n hx hb dX8_chooses_12 rfl (lv_at hl 1 rfl) ?_
        refine lv_iload_n hx hb dX8_chooses_13 rfl (lv_at hl 3 rfl) ?_
        refine lv_ishr hx hb dX8_chooses_14 ?_
        refine lv_iconst (v := 1) hx hb dX8_chooses_15 (by decide) ?_
        refine lv_iand hx hb dX8_chooses_16 ?_
        refine lv_iconst (v := 1) hx hb dX8_chooses_17 (by decide) ?_
        refine lv_icmp_ne (tgt := 36) hx hb dX8_chooses_18 (by decide) (fun c_8 => ?_) (fun c_8 => ?_)
        · have hr1 := it_f c_8 hr1
          refine lv_iinc (v := (i_2 + 1)) (lv' := [(3, .int (i_2 + 1)), (0, .ref (ad 0)), (1, .int a0), (2, .int i_1)]) hx hb dX8_chooses_36 hl (k := 3) rfl rfl (by decide) rfl (fun ls hl => ?_)
          refine lv_goto (tgt := 4) hx hb dX8_chooses_39 (by decide) ?_
          exact ih1 i_1 (i_2 + 1) i_3 (ht1 _ (Option.some.inj hr1).symm) H locs hP hD hS ls (lv_sub hl [1, 2, 3, 0] rfl)
        · have hr1 := it_t c_8 hr1
          refine lv_iload_n hx hb dX8_chooses_21 rfl (lv_at hl 2 rfl) ?_
          refine lv_iconst (v := 3) hx hb dX8_chooses_22 (by decide) ?_
          refine lv_icmp_ge (tgt := 33) hx hb dX8_chooses_23 (by decide) (fun c_9 => ?_) (fun c_9 => ?_)
          · have hr1 := it_t c_9 hr1
            refine lv_iinc (v := (i_1 + 1)) (lv' := [(2, .int (i_1 + 1)), (0, .ref (ad 0)), (1, .int a0), (3, .int i_2)]) hx hb dX8_chooses_33 hl (k := 2) rfl rfl (by decide) rfl (fun ls hl => ?_)
            refine lv_iinc (v := (i_2 + 1)) (lv' := [(3, .int (i_2 + 1)), (2, .int (i_1 + 1)), (0, .ref (ad 0)), (1, .int a0)]) hx hb dX8_chooses_36 hl (k := 3) rfl rfl (by decide) rfl (fun ls hl => ?_)
            refine lv_goto (tgt := 4) hx hb dX8_chooses_39 (by decide) ?_
            exact ih1 (i_1 + 1) (i_2 + 1) i_3 (ht1 _ (Option.some.inj hr1).symm) H locs hP hD hS ls (lv_sub hl [2, 3, 1, 0] rfl)
          · have hr1 := it_f c_9 hr1
            refine lv_aload_n hx hb dX8_chooses_26 rfl (lv_at hl 0 rfl) ?_
            refine va_get (D := D) (ci := 8) (v := .ref (ad 6)) (C := RX8) (T := TX8) (N := 24) hx hb hts iX8_chooses_X8 hown hG.1 hP 0 rfl rfl 10 (by decide) (hts _ fX8_chooses_1) (fun _ h9 => h9) rfl dX8_chooses_27 ?_
            refine lv_iload_n hx hb dX8_chooses_30 rfl (lv_at hl 2 rfl) ?_
            refine lv_iload_n hx hb dX8_chooses_31 rfl (lv_at hl 3 rfl) ?_
            obtain ⟨h_10, hr1⟩ := gd_s hr1
            refine va_iast hx hb hG.1 hP hD hS 6 0 rfl rfl h_10 dX8_chooses_32 (fun H locs hP hD hS => ?_)
            have hP : va_P D cls9 (wM cI ad states whyKind whyOrder many wide textLong spot readColumns all past refused work kept (upd i_3 i_1.toNatClampNeg i_2) across sum one two base quotients text numbers entries before) H := hP
            have hD : va_D A (wM cI ad states whyKind whyOrder many wide textLong spot readColumns all past refused work kept (upd i_3 i_1.toNatClampNeg i_2) across sum one two base quotients text numbers entries before) := hD
            refine lv_iinc (v := (i_1 + 1)) (lv' := [(2, .int (i_1 + 1)), (0, .ref (ad 0)), (1, .int a0), (3, .int i_2)]) hx hb dX8_chooses_33 hl (k := 2) rfl rfl (by decide) rfl (fun ls hl => ?_)
            refine lv_iinc (v := (i_2 + 1)) (lv' := [(3, .int (i_2 + 1)), (2, .int (i_1 + 1)), (0, .ref (ad 0)), (1, .int a0)]) hx hb dX8_chooses_36 hl (k := 3) rfl rfl (by decide) rfl (fun ls hl => ?_)
            refine lv_goto (tgt := 4) hx hb dX8_chooses_39 (by decide) ?_
            exact ih1 (i_1 + 1) (i_2 + 1) (upd i_3 i_1.toNatClampNeg i_2) (ht1 _ (Option.some.inj hr1).symm) H locs hP hD hS ls (lv_sub hl [2, 3, 1, 0] rfl)
  obtain ⟨n1, hn1⟩ := Lp_s hw1
  exact hL1 n1 (0 : Int32) (0 : Int32) chosen hn1 H locs hP hD hS ls (lv_sub hl [2, 3, 1, 0] rfl)
abbrev rm_X8_detOf : Room := { frames := 4, cells := 0, slots := 0, locals := 94 }
theorem iX8_detOf_X8 : ∀ w ∈ wsX80, w ∈ wsX8_detOf := fun _ h => (List.mem_cons_of_mem _ (List.mem_append_right _ h))
theorem fX8_detOf_1 : Cond.fieldLink RX8 32 "PopovRowsModel" "across" "[I" ∈ wsX8_detOf := (List.mem_cons_of_mem _ (List.mem_append_left _ (List.mem_append_left _ (List.mem_of_getElem? (i := 0) rfl))))
theorem fX8_detOf_2 : Cond.fieldLink RX8 35 "PopovRowsModel" "sum" "[I" ∈ wsX8_detOf := (List.mem_cons_of_mem _ (List.mem_append_left _ (List.mem_append_left _ (List.mem_of_getElem? (i := 1) rfl))))
set_option maxHeartbeats 4000000 in
set_option maxRecDepth 100000 in
theorem mtX8_detOf (l : Launch) (D : va_G) (cI cB cR : ClassId) (ad : Nat → Nat) (sz : Nat) (states : Int32) (whyKind : Int32) (whyOrder : Int32) (many : Int32) (wide : Int32) (textLong : Int32) (spot : Int32) (readColumns : Int32) (all : Nat → Int32) (past : Nat → Int32) (refused : Nat → Int32) (work : Nat → Int32) (kept : Nat → Int32) (chosen : Nat → Int32) (across : Nat → Int32) (sum : Nat → Int32) (one : Nat → Int32) (two : Nat → Int32) (base : Nat → Int32) (quotients : Nat → Int32) (text : Nat → Int32) (numbers : Nat → Int32) (entries : Nat → Int32) (before : Nat → Int32) (a0 : Int32) (a1 : Int32) (res : Int32 × (Nat → Int32) × (Nat → Int32) × (Nat → Int32) × (Nat → Int32) × (Nat → Int32) × (Nat → Int32)) (hf : fX8_detOf all refused chosen across sum one two a0 a1 = some res) : Met l yX8_detOf wsX8_detOf rm_X8_detOf (qP D cI cB cR [.ref (ad 0), .int a0, .int a1] (wM cI ad states whyKind whyOrder many wide textLong spot readColumns all past refused work kept chosen across sum one two base quotients text numbers entries before) sz) (qI D res.1 (wM cI ad states whyKind whyOrder many wide textLong spot readColumns all past refused work kept chosen across sum one two base quotients text numbers entries before) (wM cI ad states whyKind whyOrder many wide textLong spot readColumns all past res.2.1 work kept res.2.2.1 res.2.2.2.1 res.2.2.2.2.1 res.2.2.2.2.2.1 res.2.2.2.2.2.2 base quotients text numbers entries before) sz) 0 0 (va_A (wM cI ad states whyKind whyOrder many wide textLong spot readColumns all past refused work kept chosen across sum one two base quotients text numbers entries before) sz) := by
  refine entI (plainFor_of_name (by decide)) rfl (Nat.le_of_ble_eq_true rfl) ?_
  intro p e s m args below meth c Q A ls S hG hP hD hA hl hE
  obtain ⟨hx, hb, hml, hown, hts⟩ := S
  have hown : s.vm.findClass RX8 = some m.cls := hown
  have hS : va_S A s.heap s.heap [] := va_S.rf
  have hl : lv_has ls 5 [(0, .ref (ad 0)), (1, .int a0), (2, .int a1)] := hl
  have hq := hf
  unfold fX8_detOf at hq
  obtain ⟨H, hH⟩ : ∃ H, H = s.heap := ⟨_, rfl⟩
  obtain ⟨locs, hlo⟩ : ∃ L : List Loc, L = [] := ⟨_, rfl⟩
  have hP : va_P D cls9 (wM cI ad states whyKind whyOrder many wide textLong spot readColumns all past refused work kept chosen across sum one two base quotients text numbers entries before) H := hH ▸ hP
  have hS : va_S A s.heap H locs := by rw [hH, hlo]; exact hS
  suffices hg : W p l e rm_X8_detOf s m args below meth c H locs 0 0 Q (F0 m 0 ls []) by rw [hH, hlo] at hg; exact hg
  refine lv_aload_n hx hb dX8_detOf_0 rfl (lv_at hl 0 rfl) ?_
  refine lv_iload_n hx hb dX8_detOf_1 rfl (lv_at hl 1 rfl) ?_
  obtain ⟨v_4, hq_3, hk⟩ := bd2_s hq
  obtain ⟨r_1, u_2⟩ := v_4
  have hq := hk _ _ rfl
  refine callIA (gV (rest := []) ⟨hx, hb, hml, hown, hts⟩ hG hP hD 0 8 rfl rfl (mtX8_chooses l D cI cB cR ad H.size states whyKind whyOrder many wide textLong spot readColumns all past refused work kept chosen across sum one two base quotients text numbers entries before a0 (r_1, u_2) hq_3) (cwV 1 hts gX8_detOf_X8_chooses rfl rfl rfl ⟨rfl, hd_X8_chooses⟩ ⟨Nat.le_of_ble_eq_true rfl, Nat.le_of_ble_eq_true rfl⟩) rfl hl.1 rfl (Nat.le_of_ble_eq_true rfl) dX8_detOf_2) hD hS hA (fun H locs hP hD hS => ?_)
  have hP : va_P D cls9 (wM cI ad states whyKind whyOrder many wide textLong spot readColumns all past refused work kept u_2 across sum one two base quotients text numbers entries before) H := hP
  have hD : va_D A (wM cI ad states whyKind whyOrder many wide textLong spot readColumns all past refused work kept u_2 across sum one two base quotients text numbers entries before) := hD
  refine lv_istore_n (lv' := [(3, .int r_1), (0, .ref (ad 0)), (1, .int a0), (2, .int a1)]) hx hb dX8_detOf_5 rfl hl (by decide) rfl (fun ls hl => ?_)
  refine lv_iload_n hx hb dX8_detOf_6 rfl (lv_at hl 0 rfl) ?_
  refine lv_aload_n hx hb dX8_detOf_7 rfl (lv_at hl 1 rfl) ?_
  obtain ⟨v_7, hq_6, hk⟩ := bd1_s hq
  obtain ⟨r_5, rfl⟩ : ∃ y, y = v_7 := ⟨_, rfl⟩
  have hq := hk _ rfl
  refine callIA (gV (rest := [.int r_1]) ⟨hx, hb, hml, hown, hts⟩ hG hP hD 0 8 rfl rfl (mtX8_width l D cI cB cR ad H.size states whyKind whyOrder many wide textLong spot readColumns all past refused work kept u_2 across sum one two base quotients text numbers entries before r_5 hq_6) (cwV 0 hts gX8_detOf_X8_width rfl rfl rfl ⟨rfl, hd_X8_width⟩ ⟨Nat.le_of_ble_eq_true rfl, Nat.le_of_ble_eq_true rfl⟩) rfl hl.1 rfl (Nat.le_of_ble_eq_true rfl) dX8_detOf_8) hD hS hA (fun H locs hP hD hS => ?_)
  have hP : va_P D cls9 (wM cI ad states whyKind whyOrder many wide textLong spot readColumns all past refused work kept u_2 across sum one two base quotients text numbers entries before) H := hP
  have hD : va_D A (wM cI ad states whyKind whyOrder many wide textLong spot readColumns all past refused work kept u_2 across sum one two base quotients text numbers entries before) := hD
  refine lv_icmp_eq (tgt := 21) hx hb dX8_detOf_11 (by decide) (fun c_8 => ?_) (fun c_8 => ?_)
  · have hq := it_t c_8 hq
    refine lv_iconst (v := 0) hx hb dX8_detOf_21 (by decide) ?_
    refine lv_istore (lv' := [(4, .int (0 : Int32)), (3, .int r_1), (0, .ref (ad 0)), (1, .int a0), (2, .int a1)]) hx hb dX8_detOf_22 hl (by decide) rfl (fun ls hl => ?_)
    obtain ⟨w1, hw1, hk1⟩ := bd1_s hq
    have hX1 : ∀ (x_13 : Nat → Int32), w1 = x_13 → ∀ (H : Heap) (locs : List Loc), va_P D cls9 (wM cI ad states whyKind whyOrder many wide textLong spot readColumns all past refused work kept u_2 x_13 sum one two base quotients text numbers entries before) H → va_D A (wM cI ad states whyKind whyOrder many wide textLong spot readColumns all past refused work kept u_2 x_13 sum one two base quotients text numbers entries before) → va_S A s.heap H locs → ∀ (ls : Array Slot), lv_has ls 5 [(0, .ref (ad 0)), (2, .int a1), (3, .int r_1)] → W p l e rm_X8_detOf s m args below meth c H locs 0 0 Q (F0 m 45 ls []) := by
      intro x_13 hq H locs hP hD hS ls hl
      have hq := hk1 _ hq
      refine lv_aload_n hx hb dX8_detOf_45 rfl (lv_at hl 0 rfl) ?_
      refine lv_iload_n hx hb dX8_detOf_46 rfl (lv_at hl 2 rfl) ?_
      obtain ⟨v_18, hq_17, hk⟩ := bd3_s hq
      obtain ⟨u_14, u_15, u_16⟩ := v_18
      have hq := hk _ _ _ rfl
      refine callVA (gV (rest := []) ⟨hx, hb, hml, hown, hts⟩ hG hP hD 0 8 rfl rfl (mtX8_determines l D cI cB cR ad H.size states whyKind whyOrder many wide textLong spot readColumns all past refused work kept u_2 x_13 sum one two base quotients text numbers entries before r_1 (u_14, u_15, u_16) hq_17) (cwV 1 hts gX8_detOf_X8_determines rfl rfl rfl ⟨rfl, hd_X8_determines⟩ ⟨Nat.le_of_ble_eq_true rfl, Nat.le_of_ble_eq_true rfl⟩) rfl hl.1 rfl (Nat.le_of_ble_eq_true rfl) dX8_detOf_47) hD hS hA (fun H locs hP hD hS => ?_)
      have hP : va_P D cls9 (wM cI ad states whyKind whyOrder many wide textLong spot readColumns all past refused work kept u_2 x_13 u_14 u_15 u_16 base quotients text numbers entries before) H := hP
      have hD : va_D A (wM cI ad states whyKind whyOrder many wide textLong spot readColumns all past refused work kept u_2 x_13 u_14 u_15 u_16 base quotients text numbers entries before) := hD
      refine lv_iload_n hx hb dX8_detOf_50 rfl (lv_at hl 1 rfl) ?_
      refine lv_iconst (v := -1) hx hb dX8_detOf_51 (by decide) ?_
      refine lv_icmp_ne (tgt := 65) hx hb dX8_detOf_52 (by decide) (fun c_19 => ?_) (fun c_19 => ?_)
      · have hq := it_f c_19 hq
        refine lv_aload_n hx hb dX8_detOf_65 rfl (lv_at hl 0 rfl) ?_
        refine va_get (D := D) (ci := 8) (v := .ref (ad 8)) (C := RX8) (T := TX8) (N := 24) hx hb hts iX8_detOf_X8 hown hG.1 hP 0 rfl rfl 12 (by decide) (hts _ fX8_detOf_2) (fun _ h9 => h9) rfl dX8_detOf_66 ?_
        refine lv_iload_n hx hb dX8_detOf_69 rfl (lv_at hl 1 rfl) ?_
        obtain ⟨h_20, hq⟩ := gd_s hq
        refine va_iald hx hb hG.1 hP 8 0 rfl rfl h_20 dX8_detOf_70 ?_
        have he := Option.some.inj hq
        subst he
        exact hE H locs _ _ _ rfl dX8_detOf_71 hP hD hS
      · have hq := it_t c_19 hq
        refine lv_aload_n hx hb dX8_detOf_55 rfl (lv_at hl 0 rfl) ?_
        refine va_get (D := D) (ci := 8) (v := .ref (ad 8)) (C := RX8) (T := TX8) (N := 24) hx hb hts iX8_detOf_X8 hown hG.1 hP 0 rfl rfl 12 (by decide) (hts _ fX8_detOf_2) (fun _ h9 => h9) rfl dX8_detOf_56 ?_
        obtain ⟨v_23, hq_22, hk⟩ := bd1_s hq
        obtain ⟨r_21, rfl⟩ : ∃ y, y = v_23 := ⟨_, rfl⟩
        have hq := hk _ rfl
        have hPc : va_P D cls9 [(ad 8, .inl (cI, 25, .inl u_14))] H := hPsub hP [8] rfl
        have hDc : va_D A [(ad 8, .inl (cI, 25, .inl u_14))] := hD.sub [8] (by decide +kernel) rfl
        refine callIP (wr := [(ad 0, .inr (8, [.ref (ad 1), .ref (ad 2), .int states, .ref (ad 3), .int whyKind, .int whyOrder, .ref (ad 4), .int many, .int wide, .ref (ad 5), .ref (ad 6), .ref (ad 7), .ref (ad 8), .ref (ad 9), .ref (ad 10), .ref (ad 11), .ref (ad 12), .ref (ad 13), .int textLong, .int spot, .ref (ad 14), .ref (ad 15), .int readColumns, .ref (ad 16)])), (ad 1, .inl (cI, 108, .inl all)), (ad 2, .inl (cI, 540, .inl past)), (ad 3, .inl (cI, 3, .inl refused)), (ad 4, .inl (cI, 144, .inl work)), (ad 5, .inl (cI, 144, .inl kept)), (ad 6, .inl (cI, 3, .inl u_2)), (ad 7, .inl (cI, 3, .inl x_13)), (ad 9, .inl (cI, 25, .inl u_15)), (ad 10, .inl (cI, 25, .inl u_16)), (ad 11, .inl (cI, 25, .inl base)), (ad 12, .inl (cI, 25, .inl quotients)), (ad 13, .inl (cI, 150, .inl text)), (ad 14, .inl (cI, 4, .inl numbers)), (ad 15, .inl (cI, 21, .inl entries)), (ad 16, .inl (cI, 108, .inl before))]) (ws2 := (wM cI ad states whyKind whyOrder many wide textLong spot readColumns all past refused work kept u_2 x_13 u_14 u_15 u_16 base quotients text numbers entries before)) (gS (rest := []) ⟨hx, hb, hml, hown, hts⟩ hG hPc hDc (mtX8_degreeOf l D cI cB cR (ad 8) H.size 25 u_14 r_21 hq_22) (va_cwS 1 hts gX8_detOf_X8_degreeOf rfl rfl rfl hd_X8_degreeOf ⟨Nat.le_of_ble_eq_true rfl, Nat.le_of_ble_eq_true rfl⟩) rfl hl.1 rfl (Nat.le_of_ble_eq_true rfl) dX8_detOf_59) hP hD hS hA [8] [0, 1, 2, 3, 4, 5, 6, 7, 9, 10, 11, 12, 13, 14, 15, 16] [0, 1, 2, 3, 4, 5, 6, 7, 16, 8, 9, 10, 11, 12, 13, 14, 15] rfl (selR [true, true, true, true, true, true, true, true, false, true, true, true, true, true, true, true, true] (by decide +kernel) rfl) (by decide +kernel) (by decide +kernel) (mgN [none, none, none, none, none, none, none, none, some 0, none, none, none, none, none, none, none, none] 16 rfl (by decide +kernel) rfl) (by decide +kernel) (fun H locs hP hD hS => ?_)
        refine lv_goto (tgt := 71) hx hb dX8_detOf_62 (by decide) ?_
        have he := Option.some.inj hq
        subst he
        exact hE H locs _ _ _ rfl dX8_detOf_71 hP hD hS
    have hL1 : ∀ (n : Nat) (i_9 : Int32) (i_10 : Nat → Int32), lrun (fun (z : Int32 × (Nat → Int32)) => fX8_detOf_s24 z.1 z.2) n (i_9, i_10) = some w1 → ∀ (H : Heap) (locs : List Loc), va_P D cls9 (wM cI ad states whyKind whyOrder many wide textLong spot readColumns all past refused work kept u_2 i_10 sum one two base quotients text numbers entries before) H → va_D A (wM cI ad states whyKind whyOrder many wide textLong spot readColumns all past refused work kept u_2 i_10 sum one two base quotients text numbers entries before) → va_S A s.heap H locs → ∀ (ls : Array Slot), lv_has ls 5 [(0, .ref (ad 0)), (2, .int a1), (3, .int r_1), (4, .int i_9)] → W p l e rm_X8_detOf s m args below meth c H locs 0 0 Q (F0 m 24 ls []) := by
      intro n
      induction n with
      | zero => intro i_9 i_10 h; cases h
      | succ n ih1 =>
        intro i_9 i_10 hr1 H locs hP hD hS ls hl
        obtain ⟨k, v1, hk, hr1, ht1, hv1⟩ := lrun_s hr1
        cases hk
        have hr1 : fX8_detOf_s24 i_9 i_10 = some v1 := hr1
        unfold fX8_detOf_s24 at hr1
        refine lv_iload hx hb dX8_detOf_24 (lv_at hl 3 rfl) ?_
        refine lv_iconst (v := 3) hx hb dX8_detOf_26 (by decide) ?_
        refine lv_icmp_ge (tgt := 45) hx hb dX8_detOf_27 (by decide) (fun c_11 => ?_) (fun c_11 => ?_)
        · have hr1 := it_t c_11 hr1
          exact hX1 i_10 (hv1 _ (Option.some.inj hr1).symm).symm H locs hP hD hS ls (lv_sub hl [0, 1, 2] rfl)
        · have hr1 := it_f c_11 hr1
          refine lv_aload_n hx hb dX8_detOf_30 rfl (lv_at hl 0 rfl) ?_
          refine va_get (D := D) (ci := 8) (v := .ref (ad 7)) (C := RX8) (T := TX8) (N := 24) hx hb hts iX8_detOf_X8 hown hG.1 hP 0 rfl rfl 11 (by decide) (hts _ fX8_detOf_1) (fun _ h9 => h9) rfl dX8_detOf_31 ?_
          refine lv_iload hx hb dX8_detOf_34 (lv_at hl 3 rfl) ?_
          refine lv_iload hx hb dX8_detOf_36 (lv_at hl 3 rfl) ?_
          obtain ⟨h_12, hr1⟩ := gd_s hr1
          refine va_iast hx hb hG.1 hP hD hS 7 0 rfl rfl h_12 dX8_detOf_38 (fun H locs hP hD hS => ?_)
          have hP : va_P D cls9 (wM cI ad states whyKind whyOrder many wide textLong spot readColumns all past refused work kept u_2 (upd i_10 i_9.toNatClampNeg i_9) sum one two base quotients text numbers entries before) H := hP
          have hD : va_D A (wM cI ad states whyKind whyOrder many wide textLong spot readColumns all past refused work kept u_2 (upd i_10 i_9.toNatClampNeg i_9) sum one two base quotients text numbers entries before) := hD
          refine lv_iinc (v := (i_9 + 1)) (lv' := [(4, .int (i_9 + 1)), (0, .ref (ad 0)), (2, .int a1), (3, .int r_1)]) hx hb dX8_detOf_39 hl (k := 3) rfl rfl (by decide) rfl (fun ls hl => ?_)
          refine lv_goto (tgt := 24) hx hb dX8_detOf_42 (by decide) ?_
          exact ih1 (i_9 + 1) (upd i_10 i_9.toNatClampNeg i_9) (ht1 _ (Option.some.inj hr1).symm) H locs hP hD hS ls (lv_sub hl [1, 2, 3, 0] rfl)
    obtain ⟨n1, hn1⟩ := Lp_s hw1
    exact hL1 n1 (0 : Int32) across hn1 H locs hP hD hS ls (lv_sub hl [2, 4, 1, 0] rfl)
  · have hq := it_f c_8 hq
    refine lv_aload_n hx hb dX8_detOf_14 rfl (lv_at hl 1 rfl) ?_
    refine lv_bipush (v := -3) hx hb dX8_detOf_15 (by decide) ?_
    obtain ⟨v_27, hq_26, hk⟩ := bd2_s hq
    obtain ⟨r_24, u_25⟩ := v_27
    have hq := hk _ _ rfl
    refine callIA (gV (rest := []) ⟨hx, hb, hml, hown, hts⟩ hG hP hD 0 8 rfl rfl (mtX8_refuses l D cI cB cR ad H.size states whyKind whyOrder many wide textLong spot readColumns all past refused work kept u_2 across sum one two base quotients text numbers entries before (-3 : Int32) (r_24, u_25) hq_26) (cwV 1 hts gX8_detOf_X8_refuses rfl rfl rfl ⟨rfl, hd_X8_refuses⟩ ⟨Nat.le_of_ble_eq_true rfl, Nat.le_of_ble_eq_true rfl⟩) rfl hl.1 rfl (Nat.le_of_ble_eq_true rfl) dX8_detOf_17) hD hS hA (fun H locs hP hD hS => ?_)
    have hP : va_P D cls9 (wM cI ad states whyKind whyOrder many wide textLong spot readColumns all past u_25 work kept u_2 across sum one two base quotients text numbers entries before) H := hP
    have hD : va_D A (wM cI ad states whyKind whyOrder many wide textLong spot readColumns all past u_25 work kept u_2 across sum one two base quotients text numbers entries before) := hD
    have he := Option.some.inj hq
    subst he
    exact hE H locs _ _ _ rfl dX8_detOf_20 hP hD hS
abbrev rm_X8_det : Room := { frames := 5, cells := 0, slots := 0, locals := 118 }
theorem fX8_det_0 : Cond.constantLong RX8 251 (-1) ∈ wsX8_det := (List.mem_cons_of_mem _ (List.mem_append_left _ (List.mem_append_left _ (List.mem_of_getElem? (i := 0) rfl))))
theorem fX8_det_1 : Cond.constantLong RX8 253 (18) ∈ wsX8_det := (List.mem_cons_of_mem _ (List.mem_append_left _ (List.mem_append_left _ (List.mem_of_getElem? (i := 1) rfl))))
set_option maxHeartbeats 4000000 in
set_option maxRecDepth 100000 in
theorem mtX8_det (l : Launch) (D : va_G) (cI cB cR : ClassId) (ad : Nat → Nat) (sz : Nat) (states : Int32) (whyKind : Int32) (whyOrder : Int32) (many : Int32) (wide : Int32) (textLong : Int32) (spot : Int32) (readColumns : Int32) (all : Nat → Int32) (past : Nat → Int32) (refused : Nat → Int32) (work : Nat → Int32) (kept : Nat → Int32) (chosen : Nat → Int32) (across : Nat → Int32) (sum : Nat → Int32) (one : Nat → Int32) (two : Nat → Int32) (base : Nat → Int32) (quotients : Nat → Int32) (text : Nat → Int32) (numbers : Nat → Int32) (entries : Nat → Int32) (before : Nat → Int32) (a0 : Int32) (a1 : Int32) (res : Int32 × (Nat → Int32) × (Nat → Int32) × (Nat → Int32) × (Nat → Int32) × (Nat → Int32) × (Nat → Int32)) (hf : fX8_det all refused chosen across sum one two a0 a1 = some res) : Met l yX8_det wsX8_det rm_X8_det (qP D cI cB cR [.ref (ad 0), .int a0, .int a1] (wM cI ad states whyKind whyOrder many wide textLong spot readColumns all past refused work kept chosen across sum one two base quotients text numbers entries before) sz) (qI D res.1 (wM cI ad states whyKind whyOrder many wide textLong spot readColumns all past refused work kept chosen across sum one two base quotients text numbers entries before) (wM cI ad states whyKind whyOrder many wide textLong spot readColumns all past res.2.1 work kept res.2.2.1 res.2.2.2.1 res.2.2.2.2.1 res.2.2.2.2.2.1 res.2.2.2.2.2.2 base quotients text numbers entries before) sz) 0 0 (va_A (wM cI ad states whyKind whyOrder many wide textLong spot readColumns all past refused work kept chosen across sum one two base quotients text numbers entries before) sz) := by
  refine entI (plainFor_of_name (by decide)) rfl (Nat.le_of_ble_eq_true rfl) ?_
  intro p e s m args below meth c Q A ls S hG hP hD hA hl hE
  obtain ⟨hx, hb, hml, hown, hts⟩ := S
  have hown : s.vm.findClass RX8 = some m.cls := hown
  have hS : va_S A s.heap s.heap [] := va_S.rf
  have hl : lv_has ls 3 [(0, .ref (ad 0)), (1, .int a0), (2, .int a1)] := hl
  have hq := hf
  unfold fX8_det at hq
  obtain ⟨H, hH⟩ : ∃ H, H = s.heap := ⟨_, rfl⟩
  obtain ⟨locs, hlo⟩ : ∃ L : List Loc, L = [] := ⟨_, rfl⟩
  have hP : va_P D cls9 (wM cI ad states whyKind whyOrder many wide textLong spot readColumns all past refused work kept chosen across sum one two base quotients text numbers entries before) H := hH ▸ hP
  have hS : va_S A s.heap H locs := by rw [hH, hlo]; exact hS
  suffices hg : W p l e rm_X8_det s m args below meth c H locs 0 0 Q (F0 m 0 ls []) by rw [hH, hlo] at hg; exact hg
  refine lv_aload_n hx hb dX8_det_0 rfl (lv_at hl 0 rfl) ?_
  refine lv_iload_n hx hb dX8_det_1 rfl (lv_at hl 1 rfl) ?_
  obtain ⟨v_3, hq_2, hk⟩ := bd1_s hq
  obtain ⟨r_1, rfl⟩ : ∃ y, y = v_3 := ⟨_, rfl⟩
  have hq := hk _ rfl
  refine callZA (gV (rest := []) ⟨hx, hb, hml, hown, hts⟩ hG hP hD 0 8 rfl rfl (mtX8_isSet l D cI cB cR ad H.size states whyKind whyOrder many wide textLong spot readColumns all past refused work kept chosen across sum one two base quotients text numbers entries before a0 r_1 hq_2) (cwV 1 hts gX8_det_X8_isSet rfl rfl rfl ⟨rfl, hd_X8_isSet⟩ ⟨Nat.le_of_ble_eq_true rfl, Nat.le_of_ble_eq_true rfl⟩) rfl hl.1 rfl (Nat.le_of_ble_eq_true rfl) dX8_det_2) hD hS hA (fun H locs z_4 hP hD hS => ?_)
  have hP : va_P D cls9 (wM cI ad states whyKind whyOrder many wide textLong spot readColumns all past refused work kept chosen across sum one two base quotients text numbers entries before) H := hP
  have hD : va_D A (wM cI ad states whyKind whyOrder many wide textLong spot readColumns all past refused work kept chosen across sum one two base quotients text numbers entries before) := hD
  refine lv_if_eq (tgt := 31) hx hb dX8_det_5 (by decide) (fun c_5 => ?_) (fun c_5 => ?_)
  · have hq := it_t c_5 hq
    refine lv_aload_n hx hb dX8_det_31 rfl (lv_at hl 0 rfl) ?_
    refine lv_bipush (v := -2) hx hb dX8_det_32 (by decide) ?_
    obtain ⟨v_9, hq_8, hk⟩ := bd2_s hq
    obtain ⟨r_6, u_7⟩ := v_9
    have hq := hk _ _ rfl
    refine callIA (gV (rest := []) ⟨hx, hb, hml, hown, hts⟩ hG hP hD 0 8 rfl rfl (mtX8_refuses l D cI cB cR ad H.size states whyKind whyOrder many wide textLong spot readColumns all past refused work kept chosen across sum one two base quotients text numbers entries before (-2 : Int32) (r_6, u_7) hq_8) (cwV 1 hts gX8_det_X8_refuses rfl rfl rfl ⟨rfl, hd_X8_refuses⟩ ⟨Nat.le_of_ble_eq_true rfl, Nat.le_of_ble_eq_true rfl⟩) rfl hl.1 rfl (Nat.le_of_ble_eq_true rfl) dX8_det_34) hD hS hA (fun H locs hP hD hS => ?_)
    have hP : va_P D cls9 (wM cI ad states whyKind whyOrder many wide textLong spot readColumns all past u_7 work kept chosen across sum one two base quotients text numbers entries before) H := hP
    have hD : va_D A (wM cI ad states whyKind whyOrder many wide textLong spot readColumns all past u_7 work kept chosen across sum one two base quotients text numbers entries before) := hD
    have he := Option.some.inj hq
    subst he
    exact hE H locs _ _ _ rfl dX8_det_37 hP hD hS
  · have hq := it_f c_5 hq
    refine lv_iload_n hx hb dX8_det_8 rfl (lv_at hl 2 rfl) ?_
    refine lv_i2l (v := (a1.toInt64)) hx hb dX8_det_9 rfl ?_
    refine lv_ldc2 (v := -1) hx hb hown (hts _ fX8_det_0) dX8_det_10 ?_
    refine lv_ldc2 (v := 18) hx hb hown (hts _ fX8_det_1) dX8_det_13 ?_
    refine callZ0 (gS (rest := []) ⟨hx, hb, hml, hown, hts⟩ hG vaP0 (vaD0 (A := A)) (mtX8_in l D cI cB cR H.size (a1.toInt64) (-1 : Int64) (18 : Int64) _ rfl) (va_cwS 3 hts gX8_det_X8_in rfl rfl rfl hd_X8_in ⟨Nat.le_of_ble_eq_true rfl, Nat.le_of_ble_eq_true rfl⟩) rfl hl.1 rfl (Nat.le_of_ble_eq_true rfl) dX8_det_16) hP hS hA (fun H locs z_10 hP hS => ?_)
    refine lv_if_eq (tgt := 31) hx hb dX8_det_19 (by decide) (fun c_11 => ?_) (fun c_11 => ?_)
    · have hq := it_t c_11 hq
      refine lv_aload_n hx hb dX8_det_31 rfl (lv_at hl 0 rfl) ?_
      refine lv_bipush (v := -2) hx hb dX8_det_32 (by decide) ?_
      obtain ⟨v_15, hq_14, hk⟩ := bd2_s hq
      obtain ⟨r_12, u_13⟩ := v_15
      have hq := hk _ _ rfl
      refine callIA (gV (rest := []) ⟨hx, hb, hml, hown, hts⟩ hG hP hD 0 8 rfl rfl (mtX8_refuses l D cI cB cR ad H.size states whyKind whyOrder many wide textLong spot readColumns all past refused work kept chosen across sum one two base quotients text numbers entries before (-2 : Int32) (r_12, u_13) hq_14) (cwV 1 hts gX8_det_X8_refuses rfl rfl rfl ⟨rfl, hd_X8_refuses⟩ ⟨Nat.le_of_ble_eq_true rfl, Nat.le_of_ble_eq_true rfl⟩) rfl hl.1 rfl (Nat.le_of_ble_eq_true rfl) dX8_det_34) hD hS hA (fun H locs hP hD hS => ?_)
      have hP : va_P D cls9 (wM cI ad states whyKind whyOrder many wide textLong spot readColumns all past u_13 work kept chosen across sum one two base quotients text numbers entries before) H := hP
      have hD : va_D A (wM cI ad states whyKind whyOrder many wide textLong spot readColumns all past u_13 work kept chosen across sum one two base quotients text numbers entries before) := hD
      have he := Option.some.inj hq
      subst he
      exact hE H locs _ _ _ rfl dX8_det_37 hP hD hS
    · have hq := it_f c_11 hq
      refine lv_aload_n hx hb dX8_det_22 rfl (lv_at hl 0 rfl) ?_
      refine lv_iload_n hx hb dX8_det_23 rfl (lv_at hl 1 rfl) ?_
      refine lv_iload_n hx hb dX8_det_24 rfl (lv_at hl 2 rfl) ?_
      obtain ⟨v_24, hq_23, hk⟩ := bd7_s hq
      obtain ⟨r_16, u_17, u_18, u_19, u_20, u_21, u_22⟩ := v_24
      have hq := hk _ _ _ _ _ _ _ rfl
      refine callIA (gV (rest := []) ⟨hx, hb, hml, hown, hts⟩ hG hP hD 0 8 rfl rfl (mtX8_detOf l D cI cB cR ad H.size states whyKind whyOrder many wide textLong spot readColumns all past refused work kept chosen across sum one two base quotients text numbers entries before a0 a1 (r_16, u_17, u_18, u_19, u_20, u_21, u_22) hq_23) (cwV 2 hts gX8_det_X8_detOf rfl rfl rfl ⟨rfl, hd_X8_detOf⟩ ⟨Nat.le_of_ble_eq_true rfl, Nat.le_of_ble_eq_true rfl⟩) rfl hl.1 rfl (Nat.le_of_ble_eq_true rfl) dX8_det_25) hD hS hA (fun H locs hP hD hS => ?_)
      have hP : va_P D cls9 (wM cI ad states whyKind whyOrder many wide textLong spot readColumns all past u_17 work kept u_18 u_19 u_20 u_21 u_22 base quotients text numbers entries before) H := hP
      have hD : va_D A (wM cI ad states whyKind whyOrder many wide textLong spot readColumns all past u_17 work kept u_18 u_19 u_20 u_21 u_22 base quotients text numbers entries before) := hD
      refine lv_goto (tgt := 37) hx hb dX8_det_28 (by decide) ?_
      have he := Option.some.inj hq
      subst he
      exact hE H locs _ _ _ rfl dX8_det_37 hP hD hS
abbrev rm_X8_choosesColumns : Room := { frames := 4, cells := 0, slots := 0, locals := 94 }
theorem iX8_choosesColumns_X8 : ∀ w ∈ wsX80, w ∈ wsX8_choosesColumns := fun _ h => (List.mem_cons_of_mem _ (List.mem_append_right _ h))
theorem fX8_choosesColumns_1 : Cond.fieldLink RX8 32 "PopovRowsModel" "across" "[I" ∈ wsX8_choosesColumns := (List.mem_cons_of_mem _ (List.mem_append_left _ (List.mem_append_left _ (List.mem_of_getElem? (i := 0) rfl))))
theorem fX8_choosesColumns_2 : Cond.fieldLink RX8 35 "PopovRowsModel" "sum" "[I" ∈ wsX8_choosesColumns := (List.mem_cons_of_mem _ (List.mem_append_left _ (List.mem_append_left _ (List.mem_of_getElem? (i := 1) rfl))))
theorem fX8_choosesColumns_3 : Cond.fieldLink RX8 44 "PopovRowsModel" "base" "[I" ∈ wsX8_choosesColumns := (List.mem_cons_of_mem _ (List.mem_append_left _ (List.mem_append_left _ (List.mem_of_getElem? (i := 2) rfl))))
set_option maxHeartbeats 4000000 in
set_option maxRecDepth 100000 in
theorem mtX8_choosesColumns (l : Launch) (D : va_G) (cI cB cR : ClassId) (ad : Nat → Nat) (sz : Nat) (states : Int32) (whyKind : Int32) (whyOrder : Int32) (many : Int32) (wide : Int32) (textLong : Int32) (spot : Int32) (readColumns : Int32) (all : Nat → Int32) (past : Nat → Int32) (refused : Nat → Int32) (work : Nat → Int32) (kept : Nat → Int32) (chosen : Nat → Int32) (across : Nat → Int32) (sum : Nat → Int32) (one : Nat → Int32) (two : Nat → Int32) (base : Nat → Int32) (quotients : Nat → Int32) (text : Nat → Int32) (numbers : Nat → Int32) (entries : Nat → Int32) (before : Nat → Int32) (a0 : Int32) (res : (Nat → Int32) × (Nat → Int32) × (Nat → Int32) × (Nat → Int32) × (Nat → Int32)) (hf : fX8_choosesColumns all chosen across sum one two base a0 = some res) : Met l yX8_choosesColumns wsX8_choosesColumns rm_X8_choosesColumns (qP D cI cB cR [.ref (ad 0), .int a0] (wM cI ad states whyKind whyOrder many wide textLong spot readColumns all past refused work kept chosen across sum one two base quotients text numbers entries before) sz) (qV D (wM cI ad states whyKind whyOrder many wide textLong spot readColumns all past refused work kept chosen across sum one two base quotients text numbers entries before) (wM cI ad states whyKind whyOrder many wide textLong spot readColumns all past refused work kept chosen res.1 res.2.1 res.2.2.1 res.2.2.2.1 res.2.2.2.2 quotients text numbers entries before) sz) 0 0 (va_A (wM cI ad states whyKind whyOrder many wide textLong spot readColumns all past refused work kept chosen across sum one two base quotients text numbers entries before) sz) := by
  refine entV (plainFor_of_name (by decide)) rfl (Nat.le_of_ble_eq_true rfl) ?_
  intro p e s m args below meth c Q A ls S hG hP hD hA hl hE
  obtain ⟨hx, hb, hml, hown, hts⟩ := S
  have hown : s.vm.findClass RX8 = some m.cls := hown
  have hS : va_S A s.heap s.heap [] := va_S.rf
  have hl : lv_has ls 5 [(0, .ref (ad 0)), (1, .int a0)] := hl
  have hq := hf
  unfold fX8_choosesColumns at hq
  obtain ⟨H, hH⟩ : ∃ H, H = s.heap := ⟨_, rfl⟩
  obtain ⟨locs, hlo⟩ : ∃ L : List Loc, L = [] := ⟨_, rfl⟩
  have hP : va_P D cls9 (wM cI ad states whyKind whyOrder many wide textLong spot readColumns all past refused work kept chosen across sum one two base quotients text numbers entries before) H := hH ▸ hP
  have hS : va_S A s.heap H locs := by rw [hH, hlo]; exact hS
  suffices hg : W p l e rm_X8_choosesColumns s m args below meth c H locs 0 0 Q (F0 m 0 ls []) by rw [hH, hlo] at hg; exact hg
  refine lv_iconst (v := 1) hx hb dX8_choosesColumns_0 (by decide) ?_
  refine lv_istore_n (lv' := [(2, .int (1 : Int32)), (0, .ref (ad 0)), (1, .int a0)]) hx hb dX8_choosesColumns_1 rfl hl (by decide) rfl (fun ls hl => ?_)
  obtain ⟨w1, hw1, hk1, hO1⟩ := bx4_s hq
  have hX1 : ∀ (x_38 : Nat → Int32) (x_39 : Nat → Int32) (x_40 : Nat → Int32) (x_41 : Nat → Int32), w1 = .inl (x_38, x_39, x_40, x_41) → ∀ (H : Heap) (locs : List Loc), va_P D cls9 (wM cI ad states whyKind whyOrder many wide textLong spot readColumns all past refused work kept chosen x_38 x_40 x_39 x_41 base quotients text numbers entries before) H → va_D A (wM cI ad states whyKind whyOrder many wide textLong spot readColumns all past refused work kept chosen x_38 x_40 x_39 x_41 base quotients text numbers entries before) → va_S A s.heap H locs → ∀ (ls : Array Slot), lv_has ls 5 [] → W p l e rm_X8_choosesColumns s m args below meth c H locs 0 0 Q (F0 m 116 ls []) := by
    intro x_38 x_39 x_40 x_41 hq H locs hP hD hS ls hl
    have hq := hk1 _ _ _ _ hq
    have he := Option.some.inj hq
    subst he
    exact hE H locs _ _ dX8_choosesColumns_116 hP hD hS
  have hL1 : ∀ (n : Nat) (i_1 : Int32) (i_2 : Nat → Int32) (i_3 : Nat → Int32) (i_4 : Nat → Int32) (i_5 : Nat → Int32), lrun (fun (z : Int32 × (Nat → Int32) × (Nat → Int32) × (Nat → Int32) × (Nat → Int32)) => fX8_choosesColumns_s2 all chosen base a0 z.1 z.2.1 z.2.2.1 z.2.2.2.1 z.2.2.2.2) n (i_1, i_2, i_3, i_4, i_5) = some w1 → ∀ (H : Heap) (locs : List Loc), va_P D cls9 (wM cI ad states whyKind whyOrder many wide textLong spot readColumns all past refused work kept chosen i_2 i_4 i_3 i_5 base quotients text numbers entries before) H → va_D A (wM cI ad states whyKind whyOrder many wide textLong spot readColumns all past refused work kept chosen i_2 i_4 i_3 i_5 base quotients text numbers entries before) → va_S A s.heap H locs → ∀ (ls : Array Slot), lv_has ls 5 [(0, .ref (ad 0)), (1, .int a0), (2, .int i_1)] → W p l e rm_X8_choosesColumns s m args below meth c H locs 0 0 Q (F0 m 2 ls []) := by
    intro n
    induction n with
    | zero => intro i_1 i_2 i_3 i_4 i_5 h; cases h
    | succ n ih1 =>
      intro i_1 i_2 i_3 i_4 i_5 hr1 H locs hP hD hS ls hl
      obtain ⟨k, v1, hk, hr1, ht1, hv1⟩ := lrun_s hr1
      cases hk
      have hr1 : fX8_choosesColumns_s2 all chosen base a0 i_1 i_2 i_3 i_4 i_5 = some v1 := hr1
      unfold fX8_choosesColumns_s2 at hr1
      refine lv_iload_n hx hb dX8_choosesColumns_2 rfl (lv_at hl 2 rfl) ?_
      refine lv_bipush (v := 8) hx hb dX8_choosesColumns_3 (by decide) ?_
      refine lv_icmp_ge (tgt := 116) hx hb dX8_choosesColumns_5 (by decide) (fun c_6 => ?_) (fun c_6 => ?_)
      · have hr1 := it_t c_6 hr1
        exact hX1 i_2 i_3 i_4 i_5 (hv1 _ (Option.some.inj hr1).symm).symm H locs hP hD hS ls (lv_sub hl [] rfl)
      · have hr1 := it_f c_6 hr1
        refine lv_iconst (v := 0) hx hb dX8_choosesColumns_8 (by decide) ?_
        refine lv_istore_n (lv' := [(3, .int (0 : Int32)), (0, .ref (ad 0)), (1, .int a0), (2, .int i_1)]) hx hb dX8_choosesColumns_9 rfl hl (by decide) rfl (fun ls hl => ?_)
        refine lv_iconst (v := 0) hx hb dX8_choosesColumns_10 (by decide) ?_
        refine lv_istore (lv' := [(4, .int (0 : Int32)), (3, .int (0 : Int32)), (0, .ref (ad 0)), (1, .int a0), (2, .int i_1)]) hx hb dX8_choosesColumns_11 hl (by decide) rfl (fun ls hl => ?_)
        obtain ⟨w2, hw2, hk2⟩ := bd2_s hr1
        have hX2 : ∀ (x_16 : Int32) (x_17 : Nat → Int32), w2 = (x_16, x_17) → ∀ (H : Heap) (locs : List Loc), va_P D cls9 (wM cI ad states whyKind whyOrder many wide textLong spot readColumns all past refused work kept chosen x_17 i_4 i_3 i_5 base quotients text numbers entries before) H → va_D A (wM cI ad states whyKind whyOrder many wide textLong spot readColumns all past refused work kept chosen x_17 i_4 i_3 i_5 base quotients text numbers entries before) → va_S A s.heap H locs → ∀ (ls : Array Slot), lv_has ls 5 [(0, .ref (ad 0)), (1, .int a0), (2, .int i_1), (3, .int x_16)] → W p l e rm_X8_choosesColumns s m args below meth c H locs 0 0 Q (F0 m 49 ls []) := by
          intro x_16 x_17 hq H locs hP hD hS ls hl
          have hr1 := hk2 _ _ hq
          refine lv_iload_n hx hb dX8_choosesColumns_49 rfl (lv_at hl 3 rfl) ?_
          refine lv_iload_n hx hb dX8_choosesColumns_50 rfl (lv_at hl 1 rfl) ?_
          refine lv_icmp_ne (tgt := 110) hx hb dX8_choosesColumns_51 (by decide) (fun c_18 => ?_) (fun c_18 => ?_)
          · have hr1 := it_f c_18 hr1
            refine lv_iinc (v := (i_1 + 1)) (lv' := [(2, .int (i_1 + 1)), (0, .ref (ad 0)), (1, .int a0), (3, .int x_16)]) hx hb dX8_choosesColumns_110 hl (k := 2) rfl rfl (by decide) rfl (fun ls hl => ?_)
            refine lv_goto (tgt := 2) hx hb dX8_choosesColumns_113 (by decide) ?_
            exact ih1 (i_1 + 1) x_17 i_3 i_4 i_5 (ht1 _ (Option.some.inj hr1).symm) H locs hP hD hS ls (lv_sub hl [1, 2, 0] rfl)
          · have hr1 := it_t c_18 hr1
            refine lv_iload_n hx hb dX8_choosesColumns_54 rfl (lv_at hl 2 rfl) ?_
            refine lv_iconst (v := 1) hx hb dX8_choosesColumns_55 (by decide) ?_
            refine lv_aload_n hx hb dX8_choosesColumns_56 rfl (lv_at hl 0 rfl) ?_
            obtain ⟨v_21, hq_20, hk⟩ := bd1_s hr1
            obtain ⟨r_19, rfl⟩ : ∃ y, y = v_21 := ⟨_, rfl⟩
            have hr1 := hk _ rfl
            refine callIA (gV (rest := [.int (1 : Int32), .int i_1]) ⟨hx, hb, hml, hown, hts⟩ hG hP hD 0 8 rfl rfl (mtX8_width l D cI cB cR ad H.size states whyKind whyOrder many wide textLong spot readColumns all past refused work kept chosen x_17 i_4 i_3 i_5 base quotients text numbers entries before r_19 hq_20) (cwV 0 hts gX8_choosesColumns_X8_width rfl rfl rfl ⟨rfl, hd_X8_width⟩ ⟨Nat.le_of_ble_eq_true rfl, Nat.le_of_ble_eq_true rfl⟩) rfl hl.1 rfl (Nat.le_of_ble_eq_true rfl) dX8_choosesColumns_57) hD hS hA (fun H locs hP hD hS => ?_)
            have hP : va_P D cls9 (wM cI ad states whyKind whyOrder many wide textLong spot readColumns all past refused work kept chosen x_17 i_4 i_3 i_5 base quotients text numbers entries before) H := hP
            have hD : va_D A (wM cI ad states whyKind whyOrder many wide textLong spot readColumns all past refused work kept chosen x_17 i_4 i_3 i_5 base quotients text numbers entries before) := hD
            refine lv_ishl hx hb dX8_choosesColumns_60 ?_
            refine lv_icmp_ge (tgt := 110) hx hb dX8_choosesColumns_61 (by decide) (fun c_22 => ?_) (fun c_22 => ?_)
            · have hr1 := it_t c_22 hr1
              refine lv_iinc (v := (i_1 + 1)) (lv' := [(2, .int (i_1 + 1)), (0, .ref (ad 0)), (1, .int a0), (3, .int x_16)]) hx hb dX8_choosesColumns_110 hl (k := 2) rfl rfl (by decide) rfl (fun ls hl => ?_)
              refine lv_goto (tgt := 2) hx hb dX8_choosesColumns_113 (by decide) ?_
              exact ih1 (i_1 + 1) x_17 i_3 i_4 i_5 (ht1 _ (Option.some.inj hr1).symm) H locs hP hD hS ls (lv_sub hl [1, 2, 0] rfl)
            · have hr1 := it_f c_22 hr1
              refine lv_aload_n hx hb dX8_choosesColumns_64 rfl (lv_at hl 0 rfl) ?_
              refine lv_iload_n hx hb dX8_choosesColumns_65 rfl (lv_at hl 1 rfl) ?_
              obtain ⟨v_27, hq_26, hk⟩ := bd3_s hr1
              obtain ⟨u_23, u_24, u_25⟩ := v_27
              have hr1 := hk _ _ _ rfl
              refine callVA (gV (rest := []) ⟨hx, hb, hml, hown, hts⟩ hG hP hD 0 8 rfl rfl (mtX8_determines l D cI cB cR ad H.size states whyKind whyOrder many wide textLong spot readColumns all past refused work kept chosen x_17 i_4 i_3 i_5 base quotients text numbers entries before a0 (u_23, u_24, u_25) hq_26) (cwV 1 hts gX8_choosesColumns_X8_determines rfl rfl rfl ⟨rfl, hd_X8_determines⟩ ⟨Nat.le_of_ble_eq_true rfl, Nat.le_of_ble_eq_true rfl⟩) rfl hl.1 rfl (Nat.le_of_ble_eq_true rfl) dX8_choosesColumns_66) hD hS hA (fun H locs hP hD hS => ?_)
              have hP : va_P D cls9 (wM cI ad states whyKind whyOrder many wide textLong spot readColumns all past refused work kept chosen x_17 u_23 u_24 u_25 base quotients text numbers entries before) H := hP
              have hD : va_D A (wM cI ad states whyKind whyOrder many wide textLong spot readColumns all past refused work kept chosen x_17 u_23 u_24 u_25 base quotients text numbers entries before) := hD
              refine lv_aload_n hx hb dX8_choosesColumns_69 rfl (lv_at hl 0 rfl) ?_
              refine va_get (D := D) (ci := 8) (v := .ref (ad 8)) (C := RX8) (T := TX8) (N := 24) hx hb hts iX8_choosesColumns_X8 hown hG.1 hP 0 rfl rfl 12 (by decide) (hts _ fX8_choosesColumns_2) (fun _ h9 => h9) rfl dX8_choosesColumns_70 ?_
              obtain ⟨v_30, hq_29, hk⟩ := bd1_s hr1
              obtain ⟨r_28, rfl⟩ : ∃ y, y = v_30 := ⟨_, rfl⟩
              have hr1 := hk _ rfl
              have hPc : va_P D cls9 [(ad 8, .inl (cI, 25, .inl u_23))] H := hPsub hP [8] rfl
              have hDc : va_D A [(ad 8, .inl (cI, 25, .inl u_23))] := hD.sub [8] (by decide +kernel) rfl
              refine callIP (wr := [(ad 0, .inr (8, [.ref (ad 1), .ref (ad 2), .int states, .ref (ad 3), .int whyKind, .int whyOrder, .ref (ad 4), .int many, .int wide, .ref (ad 5), .ref (ad 6), .ref (ad 7), .ref (ad 8), .ref (ad 9), .ref (ad 10), .ref (ad 11), .ref (ad 12), .ref (ad 13), .int textLong, .int spot, .ref (ad 14), .ref (ad 15), .int readColumns, .ref (ad 16)])), (ad 1, .inl (cI, 108, .inl all)), (ad 2, .inl (cI, 540, .inl past)), (ad 3, .inl (cI, 3, .inl refused)), (ad 4, .inl (cI, 144, .inl work)), (ad 5, .inl (cI, 144, .inl kept)), (ad 6, .inl (cI, 3, .inl chosen)), (ad 7, .inl (cI, 3, .inl x_17)), (ad 9, .inl (cI, 25, .inl u_24)), (ad 10, .inl (cI, 25, .inl u_25)), (ad 11, .inl (cI, 25, .inl base)), (ad 12, .inl (cI, 25, .inl quotients)), (ad 13, .inl (cI, 150, .inl text)), (ad 14, .inl (cI, 4, .inl numbers)), (ad 15, .inl (cI, 21, .inl entries)), (ad 16, .inl (cI, 108, .inl before))]) (ws2 := (wM cI ad states whyKind whyOrder many wide textLong spot readColumns all past refused work kept chosen x_17 u_23 u_24 u_25 base quotients text numbers entries before)) (gS (rest := []) ⟨hx, hb, hml, hown, hts⟩ hG hPc hDc (mtX8_degreeOf l D cI cB cR (ad 8) H.size 25 u_23 r_28 hq_29) (va_cwS 1 hts gX8_choosesColumns_X8_degreeOf rfl rfl rfl hd_X8_degreeOf ⟨Nat.le_of_ble_eq_true rfl, Nat.le_of_ble_eq_true rfl⟩) rfl hl.1 rfl (Nat.le_of_ble_eq_true rfl) dX8_choosesColumns_73) hP hD hS hA [8] [0, 1, 2, 3, 4, 5, 6, 7, 9, 10, 11, 12, 13, 14, 15, 16] [0, 1, 2, 3, 4, 5, 6, 7, 16, 8, 9, 10, 11, 12, 13, 14, 15] rfl (selR [true, true, true, true, true, true, true, true, false, true, true, true, true, true, true, true, true] (by decide +kernel) rfl) (by decide +kernel) (by decide +kernel) (mgN [none, none, none, none, none, none, none, none, some 0, none, none, none, none, none, none, none, none] 16 rfl (by decide +kernel) rfl) (by decide +kernel) (fun H locs hP hD hS => ?_)
              refine lv_if_lt (tgt := 110) hx hb dX8_choosesColumns_76 (by decide) (fun c_31 => ?_) (fun c_31 => ?_)
              · have hr1 := it_t c_31 hr1
                refine lv_iinc (v := (i_1 + 1)) (lv' := [(2, .int (i_1 + 1)), (0, .ref (ad 0)), (1, .int a0), (3, .int x_16)]) hx hb dX8_choosesColumns_110 hl (k := 2) rfl rfl (by decide) rfl (fun ls hl => ?_)
                refine lv_goto (tgt := 2) hx hb dX8_choosesColumns_113 (by decide) ?_
                exact ih1 (i_1 + 1) x_17 u_24 u_23 u_25 (ht1 _ (Option.some.inj hr1).symm) H locs hP hD hS ls (lv_sub hl [1, 2, 0] rfl)
              · have hr1 := it_f c_31 hr1
                refine lv_iconst (v := 0) hx hb dX8_choosesColumns_79 (by decide) ?_
                refine lv_istore (lv' := [(4, .int (0 : Int32)), (0, .ref (ad 0)), (1, .int a0), (2, .int i_1), (3, .int x_16)]) hx hb dX8_choosesColumns_80 hl (by decide) rfl (fun ls hl => ?_)
                obtain ⟨w3, hw3, hk3⟩ := bd1_s hr1
                have hX3 : ∀ (x_37 : Nat → Int32), w3 = x_37 → ∀ (H : Heap) (locs : List Loc), va_P D cls9 (wM cI ad states whyKind whyOrder many wide textLong spot readColumns all past refused work kept chosen x_17 u_23 u_24 u_25 x_37 quotients text numbers entries before) H → va_D A (wM cI ad states whyKind whyOrder many wide textLong spot readColumns all past refused work kept chosen x_17 u_23 u_24 u_25 x_37 quotients text numbers entries before) → va_S A s.heap H locs → ∀ (ls : Array Slot), lv_has ls 5 [] → W p l e rm_X8_choosesColumns s m args below meth c H locs 0 0 Q (F0 m 109 ls []) := by
                  intro x_37 hq H locs hP hD hS ls hl
                  have hr1 := hk3 _ hq
                  have he := (hO1 _ (hv1 _ (Option.some.inj hr1).symm).symm)
                  subst he
                  exact hE H locs _ _ dX8_choosesColumns_109 hP hD hS
                have hL3 : ∀ (n : Nat) (i_32 : Int32) (i_33 : Nat → Int32), lrun (fun (z : Int32 × (Nat → Int32)) => fX8_choosesColumns_s82 u_23 z.1 z.2) n (i_32, i_33) = some w3 → ∀ (H : Heap) (locs : List Loc), va_P D cls9 (wM cI ad states whyKind whyOrder many wide textLong spot readColumns all past refused work kept chosen x_17 u_23 u_24 u_25 i_33 quotients text numbers entries before) H → va_D A (wM cI ad states whyKind whyOrder many wide textLong spot readColumns all past refused work kept chosen x_17 u_23 u_24 u_25 i_33 quotients text numbers entries before) → va_S A s.heap H locs → ∀ (ls : Array Slot), lv_has ls 5 [(0, .ref (ad 0)), (4, .int i_32)] → W p l e rm_X8_choosesColumns s m args below meth c H locs 0 0 Q (F0 m 82 ls []) := by
                  intro n
                  induction n with
                  | zero => intro i_32 i_33 h; cases h
                  | succ n ih3 =>
                    intro i_32 i_33 hr3 H locs hP hD hS ls hl
                    obtain ⟨k, v3, hk, hr3, ht3, hv3⟩ := lrun_s hr3
                    cases hk
                    have hr3 : fX8_choosesColumns_s82 u_23 i_32 i_33 = some v3 := hr3
                    unfold fX8_choosesColumns_s82 at hr3
                    refine lv_iload hx hb dX8_choosesColumns_82 (lv_at hl 1 rfl) ?_
                    refine lv_bipush (v := 25) hx hb dX8_choosesColumns_84 (by decide) ?_
                    refine lv_icmp_ge (tgt := 109) hx hb dX8_choosesColumns_86 (by decide) (fun c_34 => ?_) (fun c_34 => ?_)
                    · have hr3 := it_t c_34 hr3
                      exact hX3 i_33 (hv3 _ (Option.some.inj hr3).symm).symm H locs hP hD hS ls (lv_sub hl [] rfl)
                    · have hr3 := it_f c_34 hr3
                      refine lv_aload_n hx hb dX8_choosesColumns_89 rfl (lv_at hl 0 rfl) ?_
                      refine va_get (D := D) (ci := 8) (v := .ref (ad 11)) (C := RX8) (T := TX8) (N := 24) hx hb hts iX8_choosesColumns_X8 hown hG.1 hP 0 rfl rfl 15 (by decide) (hts _ fX8_choosesColumns_3) (fun _ h9 => h9) rfl dX8_choosesColumns_90 ?_
                      refine lv_iload hx hb dX8_choosesColumns_93 (lv_at hl 1 rfl) ?_
                      refine lv_aload_n hx hb dX8_choosesColumns_95 rfl (lv_at hl 0 rfl) ?_
                      refine va_get (D := D) (ci := 8) (v := .ref (ad 8)) (C := RX8) (T := TX8) (N := 24) hx hb hts iX8_choosesColumns_X8 hown hG.1 hP 0 rfl rfl 12 (by decide) (hts _ fX8_choosesColumns_2) (fun _ h9 => h9) rfl dX8_choosesColumns_96 ?_
                      refine lv_iload hx hb dX8_choosesColumns_99 (lv_at hl 1 rfl) ?_
                      obtain ⟨h_35, hr3⟩ := gd_s hr3
                      refine va_iald hx hb hG.1 hP 8 0 rfl rfl h_35 dX8_choosesColumns_101 ?_
                      obtain ⟨h_36, hr3⟩ := gd_s hr3
                      refine va_iast hx hb hG.1 hP hD hS 11 0 rfl rfl h_36 dX8_choosesColumns_102 (fun H locs hP hD hS => ?_)
                      have hP : va_P D cls9 (wM cI ad states whyKind whyOrder many wide textLong spot readColumns all past refused work kept chosen x_17 u_23 u_24 u_25 (upd i_33 i_32.toNatClampNeg (u_23 i_32.toNatClampNeg)) quotients text numbers entries before) H := hP
                      have hD : va_D A (wM cI ad states whyKind whyOrder many wide textLong spot readColumns all past refused work kept chosen x_17 u_23 u_24 u_25 (upd i_33 i_32.toNatClampNeg (u_23 i_32.toNatClampNeg)) quotients text numbers entries before) := hD
                      refine lv_iinc (v := (i_32 + 1)) (lv' := [(4, .int (i_32 + 1)), (0, .ref (ad 0))]) hx hb dX8_choosesColumns_103 hl (k := 1) rfl rfl (by decide) rfl (fun ls hl => ?_)
                      refine lv_goto (tgt := 82) hx hb dX8_choosesColumns_106 (by decide) ?_
                      exact ih3 (i_32 + 1) (upd i_33 i_32.toNatClampNeg (u_23 i_32.toNatClampNeg)) (ht3 _ (Option.some.inj hr3).symm) H locs hP hD hS ls (lv_sub hl [1, 0] rfl)
                obtain ⟨n3, hn3⟩ := Lp_s hw3
                exact hL3 n3 (0 : Int32) base hn3 H locs hP hD hS ls (lv_sub hl [1, 0] rfl)
        have hL2 : ∀ (n : Nat) (i_7 : Int32) (i_8 : Int32) (i_9 : Nat → Int32), lrun (fun (z : Int32 × Int32 × (Nat → Int32)) => fX8_choosesColumns_s13 all i_1 z.1 z.2.1 z.2.2) n (i_7, i_8, i_9) = some w2 → ∀ (H : Heap) (locs : List Loc), va_P D cls9 (wM cI ad states whyKind whyOrder many wide textLong spot readColumns all past refused work kept chosen i_9 i_4 i_3 i_5 base quotients text numbers entries before) H → va_D A (wM cI ad states whyKind whyOrder many wide textLong spot readColumns all past refused work kept chosen i_9 i_4 i_3 i_5 base quotients text numbers entries before) → va_S A s.heap H locs → ∀ (ls : Array Slot), lv_has ls 5 [(0, .ref (ad 0)), (1, .int a0), (2, .int i_1), (3, .int i_7), (4, .int i_8)] → W p l e rm_X8_choosesColumns s m args below meth c H locs 0 0 Q (F0 m 13 ls []) := by
          intro n
          induction n with
          | zero => intro i_7 i_8 i_9 h; cases h
          | succ n ih2 =>
            intro i_7 i_8 i_9 hr2 H locs hP hD hS ls hl
            obtain ⟨k, v2, hk, hr2, ht2, hv2⟩ := lrun_s hr2
            cases hk
            have hr2 : fX8_choosesColumns_s13 all i_1 i_7 i_8 i_9 = some v2 := hr2
            unfold fX8_choosesColumns_s13 at hr2
            refine lv_iload hx hb dX8_choosesColumns_13 (lv_at hl 4 rfl) ?_
            refine lv_aload_n hx hb dX8_choosesColumns_15 rfl (lv_at hl 0 rfl) ?_
            obtain ⟨v_12, hq_11, hk⟩ := bd1_s hr2
            obtain ⟨r_10, rfl⟩ : ∃ y, y = v_12 := ⟨_, rfl⟩
            have hr2 := hk _ rfl
            refine callIA (gV (rest := [.int i_8]) ⟨hx, hb, hml, hown, hts⟩ hG hP hD 0 8 rfl rfl (mtX8_width l D cI cB cR ad H.size states whyKind whyOrder many wide textLong spot readColumns all past refused work kept chosen i_9 i_4 i_3 i_5 base quotients text numbers entries before r_10 hq_11) (cwV 0 hts gX8_choosesColumns_X8_width rfl rfl rfl ⟨rfl, hd_X8_width⟩ ⟨Nat.le_of_ble_eq_true rfl, Nat.le_of_ble_eq_true rfl⟩) rfl hl.1 rfl (Nat.le_of_ble_eq_true rfl) dX8_choosesColumns_16) hD hS hA (fun H locs hP hD hS => ?_)
            have hP : va_P D cls9 (wM cI ad states whyKind whyOrder many wide textLong spot readColumns all past refused work kept chosen i_9 i_4 i_3 i_5 base quotients text numbers entries before) H := hP
            have hD : va_D A (wM cI ad states whyKind whyOrder many wide textLong spot readColumns all past refused work kept chosen i_9 i_4 i_3 i_5 base quotients text numbers entries before) := hD
            refine lv_icmp_ge (tgt := 49) hx hb dX8_choosesColumns_19 (by decide) (fun c_13 => ?_) (fun c_13 => ?_)
            · have hr2 := it_t c_13 hr2
              exact hX2 i_7 i_9 (hv2 _ (Option.some.inj hr2).symm).symm H locs hP hD hS ls (lv_sub hl [0, 1, 2, 3] rfl)
            · have hr2 := it_f c_13 hr2
              refine lv_iload_n hx hb dX8_choosesColumns_22 rfl (lv_at hl 2 rfl) ?_
              refine lv_iload hx hb dX8_choosesColumns_23 (lv_at hl 4 rfl) ?_
              refine lv_ishr hx hb dX8_choosesColumns_25 ?_
              refine lv_iconst (v := 1) hx hb dX8_choosesColumns_26 (by decide) ?_
              refine lv_iand hx hb dX8_choosesColumns_27 ?_
              refine lv_iconst (v := 1) hx hb dX8_choosesColumns_28 (by decide) ?_
              refine lv_icmp_ne (tgt := 43) hx hb dX8_choosesColumns_29 (by decide) (fun c_14 => ?_) (fun c_14 => ?_)
              · have hr2 := it_f c_14 hr2
                refine lv_iinc (v := (i_8 + 1)) (lv' := [(4, .int (i_8 + 1)), (0, .ref (ad 0)), (1, .int a0), (2, .int i_1), (3, .int i_7)]) hx hb dX8_choosesColumns_43 hl (k := 4) rfl rfl (by decide) rfl (fun ls hl => ?_)
                refine lv_goto (tgt := 13) hx hb dX8_choosesColumns_46 (by decide) ?_
                exact ih2 i_7 (i_8 + 1) i_9 (ht2 _ (Option.some.inj hr2).symm) H locs hP hD hS ls (lv_sub hl [1, 2, 3, 4, 0] rfl)
              · have hr2 := it_t c_14 hr2
                refine lv_aload_n hx hb dX8_choosesColumns_32 rfl (lv_at hl 0 rfl) ?_
                refine va_get (D := D) (ci := 8) (v := .ref (ad 7)) (C := RX8) (T := TX8) (N := 24) hx hb hts iX8_choosesColumns_X8 hown hG.1 hP 0 rfl rfl 11 (by decide) (hts _ fX8_choosesColumns_1) (fun _ h9 => h9) rfl dX8_choosesColumns_33 ?_
                refine lv_iload_n hx hb dX8_choosesColumns_36 rfl (lv_at hl 3 rfl) ?_
                refine lv_iload hx hb dX8_choosesColumns_37 (lv_at hl 4 rfl) ?_
                obtain ⟨h_15, hr2⟩ := gd_s hr2
                refine va_iast hx hb hG.1 hP hD hS 7 0 rfl rfl h_15 dX8_choosesColumns_39 (fun H locs hP hD hS => ?_)
                have hP : va_P D cls9 (wM cI ad states whyKind whyOrder many wide textLong spot readColumns all past refused work kept chosen (upd i_9 i_7.toNatClampNeg i_8) i_4 i_3 i_5 base quotients text numbers entries before) H := hP
                have hD : va_D A (wM cI ad states whyKind whyOrder many wide textLong spot readColumns all past refused work kept chosen (upd i_9 i_7.toNatClampNeg i_8) i_4 i_3 i_5 base quotients text numbers entries before) := hD
                refine lv_iinc (v := (i_7 + 1)) (lv' := [(3, .int (i_7 + 1)), (0, .ref (ad 0)), (1, .int a0), (2, .int i_1), (4, .int i_8)]) hx hb dX8_choosesColumns_40 hl (k := 3) rfl rfl (by decide) rfl (fun ls hl => ?_)
                refine lv_iinc (v := (i_8 + 1)) (lv' := [(4, .int (i_8 + 1)), (3, .int (i_7 + 1)), (0, .ref (ad 0)), (1, .int a0), (2, .int i_1)]) hx hb dX8_choosesColumns_43 hl (k := 4) rfl rfl (by decide) rfl (fun ls hl => ?_)
                refine lv_goto (tgt := 13) hx hb dX8_choosesColumns_46 (by decide) ?_
                exact ih2 (i_7 + 1) (i_8 + 1) (upd i_9 i_7.toNatClampNeg i_8) (ht2 _ (Option.some.inj hr2).symm) H locs hP hD hS ls (lv_sub hl [2, 3, 4, 1, 0] rfl)
        obtain ⟨n2, hn2⟩ := Lp_s hw2
        exact hL2 n2 (0 : Int32) (0 : Int32) i_2 hn2 H locs hP hD hS ls (lv_sub hl [2, 3, 4, 1, 0] rfl)
  obtain ⟨n1, hn1⟩ := Lp_s hw1
  exact hL1 n1 (1 : Int32) across one sum two hn1 H locs hP hD hS ls (lv_sub hl [1, 2, 0] rfl)
abbrev rm_X8_begins_e0x12 : Room := { frames := 0, cells := 0, slots := 0, locals := 0 }
set_option maxHeartbeats 4000000 in
set_option maxRecDepth 100000 in
theorem mtX8_begins_e0x12 (l : Launch) (D : va_G) (cI cB cR : ClassId) (ad : Nat → Nat) (sz : Nat) (states : Int32) (whyKind : Int32) (whyOrder : Int32) (many : Int32) (wide : Int32) (textLong : Int32) (spot : Int32) (readColumns : Int32) (all : Nat → Int32) (past : Nat → Int32) (refused : Nat → Int32) (work : Nat → Int32) (kept : Nat → Int32) (chosen : Nat → Int32) (across : Nat → Int32) (sum : Nat → Int32) (one : Nat → Int32) (two : Nat → Int32) (base : Nat → Int32) (quotients : Nat → Int32) (text : Nat → Int32) (numbers : Nat → Int32) (entries : Nat → Int32) (before : Nat → Int32) (res : Nat → Int32) (hf : fX8_begins_e0x12 quotients = some res) : Met l yX8_begins wsX8_begins rm_X8_begins_e0x12 (qP D cI cB cR [.ref (ad 0), .ref (ad 12)] (wM cI ad states whyKind whyOrder many wide textLong spot readColumns all past refused work kept chosen across sum one two base quotients text numbers entries before) sz) (qV D (wM cI ad states whyKind whyOrder many wide textLong spot readColumns all past refused work kept chosen across sum one two base quotients text numbers entries before) (wM cI ad states whyKind whyOrder many wide textLong spot readColumns all past refused work kept chosen across sum one two base res text numbers entries before) sz) 0 0 (va_A (wM cI ad states whyKind whyOrder many wide textLong spot readColumns all past refused work kept chosen across sum one two base quotients text numbers entries before) sz) := by
  refine entV (plainFor_of_name (by decide)) rfl (Nat.le_of_ble_eq_true rfl) ?_
  intro p e s m args below meth c Q A ls S hG hP hD hA hl hE
  obtain ⟨hx, hb, hml, hown, hts⟩ := S
  have hown : s.vm.findClass RX8 = some m.cls := hown
  have hS : va_S A s.heap s.heap [] := va_S.rf
  have hl : lv_has ls 3 [(0, .ref (ad 0)), (1, .ref (ad 12))] := hl
  have hq := hf
  unfold fX8_begins_e0x12 at hq
  obtain ⟨H, hH⟩ : ∃ H, H = s.heap := ⟨_, rfl⟩
  obtain ⟨locs, hlo⟩ : ∃ L : List Loc, L = [] := ⟨_, rfl⟩
  have hP : va_P D cls9 (wM cI ad states whyKind whyOrder many wide textLong spot readColumns all past refused work kept chosen across sum one two base quotients text numbers entries before) H := hH ▸ hP
  have hS : va_S A s.heap H locs := by rw [hH, hlo]; exact hS
  suffices hg : W p l e rm_X8_begins_e0x12 s m args below meth c H locs 0 0 Q (F0 m 0 ls []) by rw [hH, hlo] at hg; exact hg
  refine lv_iconst (v := 0) hx hb dX8_begins_0 (by decide) ?_
  refine lv_istore_n (lv' := [(2, .int (0 : Int32)), (0, .ref (ad 0)), (1, .ref (ad 12))]) hx hb dX8_begins_1 rfl hl (by decide) rfl (fun ls hl => ?_)
  obtain ⟨w1, hw1, hk1⟩ := bd1_s hq
  have hX1 : ∀ (x_5 : Nat → Int32), w1 = x_5 → ∀ (H : Heap) (locs : List Loc), va_P D cls9 (wM cI ad states whyKind whyOrder many wide textLong spot readColumns all past refused work kept chosen across sum one two base x_5 text numbers entries before) H → va_D A (wM cI ad states whyKind whyOrder many wide textLong spot readColumns all past refused work kept chosen across sum one two base x_5 text numbers entries before) → va_S A s.heap H locs → ∀ (ls : Array Slot), lv_has ls 3 [] → W p l e rm_X8_begins_e0x12 s m args below meth c H locs 0 0 Q (F0 m 18 ls []) := by
    intro x_5 hq H locs hP hD hS ls hl
    have hq := hk1 _ hq
    have he := Option.some.inj hq
    subst he
    exact hE H locs _ _ dX8_begins_18 hP hD hS
  have hL1 : ∀ (n : Nat) (i_1 : Int32) (i_2 : Nat → Int32), lrun (fun (z : Int32 × (Nat → Int32)) => fX8_begins_e0x12_s2 z.1 z.2) n (i_1, i_2) = some w1 → ∀ (H : Heap) (locs : List Loc), va_P D cls9 (wM cI ad states whyKind whyOrder many wide textLong spot readColumns all past refused work kept chosen across sum one two base i_2 text numbers entries before) H → va_D A (wM cI ad states whyKind whyOrder many wide textLong spot readColumns all past refused work kept chosen across sum one two base i_2 text numbers entries before) → va_S A s.heap H locs → ∀ (ls : Array Slot), lv_has ls 3 [(1, .ref (ad 12)), (2, .int i_1)] → W p l e rm_X8_begins_e0x12 s m args below meth c H locs 0 0 Q (F0 m 2 ls []) := by
    intro n
    induction n with
    | zero => intro i_1 i_2 h; cases h
    | succ n ih1 =>
      intro i_1 i_2 hr1 H locs hP hD hS ls hl
      obtain ⟨k, v1, hk, hr1, ht1, hv1⟩ := lrun_s hr1
      cases hk
      have hr1 : fX8_begins_e0x12_s2 i_1 i_2 = some v1 := hr1
      unfold fX8_begins_e0x12_s2 at hr1
      refine lv_iload_n hx hb dX8_begins_2 rfl (lv_at hl 1 rfl) ?_
      refine lv_bipush (v := 25) hx hb dX8_begins_3 (by decide) ?_
      refine lv_icmp_ge (tgt := 18) hx hb dX8_begins_5 (by decide) (fun c_3 => ?_) (fun c_3 => ?_)
      · have hr1 := it_t c_3 hr1
        exact hX1 i_2 (hv1 _ (Option.some.inj hr1).symm).symm H locs hP hD hS ls (lv_sub hl [] rfl)
      · have hr1 := it_f c_3 hr1
        refine lv_aload_n hx hb dX8_begins_8 rfl (lv_at hl 0 rfl) ?_
        refine lv_iload_n hx hb dX8_begins_9 rfl (lv_at hl 1 rfl) ?_
        refine lv_iconst (v := 0) hx hb dX8_begins_10 (by decide) ?_
        obtain ⟨h_4, hr1⟩ := gd_s hr1
        refine va_iast hx hb hG.1 hP hD hS 12 0 rfl rfl h_4 dX8_begins_11 (fun H locs hP hD hS => ?_)
        have hP : va_P D cls9 (wM cI ad states whyKind whyOrder many wide textLong spot readColumns all past refused work kept chosen across sum one two base (upd i_2 i_1.toNatClampNeg (0 : Int32)) text numbers entries before) H := hP
        have hD : va_D A (wM cI ad states whyKind whyOrder many wide textLong spot readColumns all past refused work kept chosen across sum one two base (upd i_2 i_1.toNatClampNeg (0 : Int32)) text numbers entries before) := hD
        refine lv_iinc (v := (i_1 + 1)) (lv' := [(2, .int (i_1 + 1)), (1, .ref (ad 12))]) hx hb dX8_begins_12 hl (k := 1) rfl rfl (by decide) rfl (fun ls hl => ?_)
        refine lv_goto (tgt := 2) hx hb dX8_begins_15 (by decide) ?_
        exact ih1 (i_1 + 1) (upd i_2 i_1.toNatClampNeg (0 : Int32)) (ht1 _ (Option.some.inj hr1).symm) H locs hP hD hS ls (lv_sub hl [1, 0] rfl)
  obtain ⟨n1, hn1⟩ := Lp_s hw1
  exact hL1 n1 (0 : Int32) quotients hn1 H locs hP hD hS ls (lv_sub hl [2, 0] rfl)
abbrev rm_X8_divides : Room := { frames := 2, cells := 0, slots := 0, locals := 42 }
theorem iX8_divides_X8 : ∀ w ∈ wsX80, w ∈ wsX8_divides := fun _ h => (List.mem_cons_of_mem _ (List.mem_append_right _ h))
theorem fX8_divides_1 : Cond.fieldLink RX8 47 "PopovRowsModel" "quotients" "[I" ∈ wsX8_divides := (List.mem_cons_of_mem _ (List.mem_append_left _ (List.mem_of_getElem? (i := 0) rfl)))
theorem fX8_divides_2 : Cond.fieldLink RX8 44 "PopovRowsModel" "base" "[I" ∈ wsX8_divides := (List.mem_cons_of_mem _ (List.mem_append_left _ (List.mem_of_getElem? (i := 1) rfl)))
theorem fX8_divides_3 : Cond.fieldLink RX8 35 "PopovRowsModel" "sum" "[I" ∈ wsX8_divides := (List.mem_cons_of_mem _ (List.mem_append_left _ (List.mem_of_getElem? (i := 2) rfl)))
set_option maxHeartbeats 4000000 in
set_option maxRecDepth 100000 in
theorem mtX8_divides (l : Launch) (D : va_G) (cI cB cR : ClassId) (ad : Nat → Nat) (sz : Nat) (states : Int32) (whyKind : Int32) (whyOrder : Int32) (many : Int32) (wide : Int32) (textLong : Int32) (spot : Int32) (readColumns : Int32) (all : Nat → Int32) (past : Nat → Int32) (refused : Nat → Int32) (work : Nat → Int32) (kept : Nat → Int32) (chosen : Nat → Int32) (across : Nat → Int32) (sum : Nat → Int32) (one : Nat → Int32) (two : Nat → Int32) (base : Nat → Int32) (quotients : Nat → Int32) (text : Nat → Int32) (numbers : Nat → Int32) (entries : Nat → Int32) (before : Nat → Int32) (res : (Nat → Int32) × (Nat → Int32)) (hf : fX8_divides all sum base quotients = some res) : Met l yX8_divides wsX8_divides rm_X8_divides (qP D cI cB cR [.ref (ad 0)] (wM cI ad states whyKind whyOrder many wide textLong spot readColumns all past refused work kept chosen across sum one two base quotients text numbers entries before) sz) (qV D (wM cI ad states whyKind whyOrder many wide textLong spot readColumns all past refused work kept chosen across sum one two base quotients text numbers entries before) (wM cI ad states whyKind whyOrder many wide textLong spot readColumns all past refused work kept chosen across res.1 one two base res.2 text numbers entries before) sz) 0 0 (va_A (wM cI ad states whyKind whyOrder many wide textLong spot readColumns all past refused work kept chosen across sum one two base quotients text numbers entries before) sz) := by
  refine entV (plainFor_of_name (by decide)) rfl (Nat.le_of_ble_eq_true rfl) ?_
  intro p e s m args below meth c Q A ls S hG hP hD hA hl hE
  obtain ⟨hx, hb, hml, hown, hts⟩ := S
  have hown : s.vm.findClass RX8 = some m.cls := hown
  have hS : va_S A s.heap s.heap [] := va_S.rf
  have hl : lv_has ls 6 [(0, .ref (ad 0))] := hl
  have hq := hf
  unfold fX8_divides at hq
  obtain ⟨H, hH⟩ : ∃ H, H = s.heap := ⟨_, rfl⟩
  obtain ⟨locs, hlo⟩ : ∃ L : List Loc, L = [] := ⟨_, rfl⟩
  have hP : va_P D cls9 (wM cI ad states whyKind whyOrder many wide textLong spot readColumns all past refused work kept chosen across sum one two base quotients text numbers entries before) H := hH ▸ hP
  have hS : va_S A s.heap H locs := by rw [hH, hlo]; exact hS
  suffices hg : W p l e rm_X8_divides s m args below meth c H locs 0 0 Q (F0 m 0 ls []) by rw [hH, hlo] at hg; exact hg
  refine lv_aload_n hx hb dX8_divides_0 rfl (lv_at hl 0 rfl) ?_
  refine lv_aload_n hx hb dX8_divides_1 rfl (lv_at hl 0 rfl) ?_
  refine va_get (D := D) (ci := 8) (v := .ref (ad 12)) (C := RX8) (T := TX8) (N := 24) hx hb hts iX8_divides_X8 hown hG.1 hP 0 rfl rfl 16 (by decide) (hts _ fX8_divides_1) (fun _ h9 => h9) rfl dX8_divides_2 ?_
  obtain ⟨v_3, hq_2, hk⟩ := bd1_s hq
  obtain ⟨u_1, rfl⟩ : ∃ y, y = v_3 := ⟨_, rfl⟩
  have hq := hk _ rfl
  refine callVA (gV (rest := []) ⟨hx, hb, hml, hown, hts⟩ hG hP hD 0 8 rfl rfl (mtX8_begins_e0x12 l D cI cB cR ad H.size states whyKind whyOrder many wide textLong spot readColumns all past refused work kept chosen across sum one two base quotients text numbers entries before u_1 hq_2) (cwV 1 hts gX8_divides_X8_begins rfl rfl rfl ⟨rfl, hd_X8_begins⟩ ⟨Nat.le_of_ble_eq_true rfl, Nat.le_of_ble_eq_true rfl⟩) rfl hl.1 rfl (Nat.le_of_ble_eq_true rfl) dX8_divides_5) hD hS hA (fun H locs hP hD hS => ?_)
  have hP : va_P D cls9 (wM cI ad states whyKind whyOrder many wide textLong spot readColumns all past refused work kept chosen across sum one two base u_1 text numbers entries before) H := hP
  have hD : va_D A (wM cI ad states whyKind whyOrder many wide textLong spot readColumns all past refused work kept chosen across sum one two base u_1 text numbers entries before) := hD
  refine lv_aload_n hx hb dX8_divides_8 rfl (lv_at hl 0 rfl) ?_
  refine va_get (D := D) (ci := 8) (v := .ref (ad 11)) (C := RX8) (T := TX8) (N := 24) hx hb hts iX8_divides_X8 hown hG.1 hP 0 rfl rfl 15 (by decide) (hts _ fX8_divides_2) (fun _ h9 => h9) rfl dX8_divides_9 ?_
  obtain ⟨v_6, hq_5, hk⟩ := bd1_s hq
  obtain ⟨r_4, rfl⟩ : ∃ y, y = v_6 := ⟨_, rfl⟩
  have hq := hk _ rfl
  have hPc : va_P D cls9 [(ad 11, .inl (cI, 25, .inl base))] H := hPsub hP [11] rfl
  have hDc : va_D A [(ad 11, .inl (cI, 25, .inl base))] := hD.sub [11] (by decide +kernel) rfl
  refine callIP (wr := [(ad 0, .inr (8, [.ref (ad 1), .ref (ad 2), .int states, .ref (ad 3), .int whyKind, .int whyOrder, .ref (ad 4), .int many, .int wide, .ref (ad 5), .ref (ad 6), .ref (ad 7), .ref (ad 8), .ref (ad 9), .ref (ad 10), .ref (ad 11), .ref (ad 12), .ref (ad 13), .int textLong, .int spot, .ref (ad 14), .ref (ad 15), .int readColumns, .ref (ad 16)])), (ad 1, .inl (cI, 108, .inl all)), (ad 2, .inl (cI, 540, .inl past)), (ad 3, .inl (cI, 3, .inl refused)), (ad 4, .inl (cI, 144, .inl work)), (ad 5, .inl (cI, 144, .inl kept)), (ad 6, .inl (cI, 3, .inl chosen)), (ad 7, .inl (cI, 3, .inl across)), (ad 8, .inl (cI, 25, .inl sum)), (ad 9, .inl (cI, 25, .inl one)), (ad 10, .inl (cI, 25, .inl two)), (ad 12, .inl (cI, 25, .inl u_1)), (ad 13, .inl (cI, 150, .inl text)), (ad 14, .inl (cI, 4, .inl numbers)), (ad 15, .inl (cI, 21, .inl entries)), (ad 16, .inl (cI, 108, .inl before))]) (ws2 := (wM cI ad states whyKind whyOrder many wide textLong spot readColumns all past refused work kept chosen across sum one two base u_1 text numbers entries before)) (gS (rest := []) ⟨hx, hb, hml, hown, hts⟩ hG hPc hDc (mtX8_degreeOf l D cI cB cR (ad 11) H.size 25 base r_4 hq_5) (va_cwS 1 hts gX8_divides_X8_degreeOf rfl rfl rfl hd_X8_degreeOf ⟨Nat.le_of_ble_eq_true rfl, Nat.le_of_ble_eq_true rfl⟩) rfl hl.1 rfl (Nat.le_of_ble_eq_true rfl) dX8_divides_12) hP hD hS hA [11] [0, 1, 2, 3, 4, 5, 6, 7, 8, 9, 10, 12, 13, 14, 15, 16] [0, 1, 2, 3, 4, 5, 6, 7, 8, 9, 10, 16, 11, 12, 13, 14, 15] rfl (selR [true, true, true, true, true, true, true, true, true, true, true, false, true, true, true, true, true] (by decide +kernel) rfl) (by decide +kernel) (by decide +kernel) (mgN [none, none, none, none, none, none, none, none, none, none, none, some 0, none, none, none, none, none] 16 rfl (by decide +kernel) rfl) (by decide +kernel) (fun H locs hP hD hS => ?_)
  refine lv_istore_n (lv' := [(1, .int r_4), (0, .ref (ad 0))]) hx hb dX8_divides_15 rfl hl (by decide) rfl (fun ls hl => ?_)
  refine lv_aload_n hx hb dX8_divides_16 rfl (lv_at hl 1 rfl) ?_
  refine lv_aload_n hx hb dX8_divides_17 rfl (lv_at hl 1 rfl) ?_
  refine va_get (D := D) (ci := 8) (v := .ref (ad 11)) (C := RX8) (T := TX8) (N := 24) hx hb hts iX8_divides_X8 hown hG.1 hP 0 rfl rfl 15 (by decide) (hts _ fX8_divides_2) (fun _ h9 => h9) rfl dX8_divides_18 ?_
  refine lv_iload_n hx hb dX8_divides_21 rfl (lv_at hl 0 rfl) ?_
  obtain ⟨h_7, hq⟩ := gd_s hq
  refine va_iald hx hb hG.1 hP 11 0 rfl rfl h_7 dX8_divides_22 ?_
  obtain ⟨v_10, hq_9, hk⟩ := bd1_s hq
  obtain ⟨r_8, rfl⟩ : ∃ y, y = v_10 := ⟨_, rfl⟩
  have hq := hk _ rfl
  refine callIA (gV (rest := []) ⟨hx, hb, hml, hown, hts⟩ hG hP hD 0 8 rfl rfl (mtX8_inverse l D cI cB cR ad H.size states whyKind whyOrder many wide textLong spot readColumns all past refused work kept chosen across sum one two base u_1 text numbers entries before (base r_4.toNatClampNeg) r_8 hq_9) (cwV 1 hts gX8_divides_X8_inverse rfl rfl rfl ⟨rfl, hd_X8_inverse⟩ ⟨Nat.le_of_ble_eq_true rfl, Nat.le_of_ble_eq_true rfl⟩) rfl hl.1 rfl (Nat.le_of_ble_eq_true rfl) dX8_divides_23) hD hS hA (fun H locs hP hD hS => ?_)
  have hP : va_P D cls9 (wM cI ad states whyKind whyOrder many wide textLong spot readColumns all past refused work kept chosen across sum one two base u_1 text numbers entries before) H := hP
  have hD : va_D A (wM cI ad states whyKind whyOrder many wide textLong spot readColumns all past refused work kept chosen across sum one two base u_1 text numbers entries before) := hD
  refine lv_istore_n (lv' := [(2, .int r_8), (1, .int r_4), (0, .ref (ad 0))]) hx hb dX8_divides_26 rfl hl (by decide) rfl (fun ls hl => ?_)
  refine lv_aload_n hx hb dX8_divides_27 rfl (lv_at hl 2 rfl) ?_
  refine va_get (D := D) (ci := 8) (v := .ref (ad 8)) (C := RX8) (T := TX8) (N := 24) hx hb hts iX8_divides_X8 hown hG.1 hP 0 rfl rfl 12 (by decide) (hts _ fX8_divides_3) (fun _ h9 => h9) rfl dX8_divides_28 ?_
  obtain ⟨v_13, hq_12, hk⟩ := bd1_s hq
  obtain ⟨r_11, rfl⟩ : ∃ y, y = v_13 := ⟨_, rfl⟩
  have hq := hk _ rfl
  have hPc : va_P D cls9 [(ad 8, .inl (cI, 25, .inl sum))] H := hPsub hP [8] rfl
  have hDc : va_D A [(ad 8, .inl (cI, 25, .inl sum))] := hD.sub [8] (by decide +kernel) rfl
  refine callIP (wr := [(ad 0, .inr (8, [.ref (ad 1), .ref (ad 2), .int states, .ref (ad 3), .int whyKind, .int whyOrder, .ref (ad 4), .int many, .int wide, .ref (ad 5), .ref (ad 6), .ref (ad 7), .ref (ad 8), .ref (ad 9), .ref (ad 10), .ref (ad 11), .ref (ad 12), .ref (ad 13), .int textLong, .int spot, .ref (ad 14), .ref (ad 15), .int readColumns, .ref (ad 16)])), (ad 1, .inl (cI, 108, .inl all)), (ad 2, .inl (cI, 540, .inl past)), (ad 3, .inl (cI, 3, .inl refused)), (ad 4, .inl (cI, 144, .inl work)), (ad 5, .inl (cI, 144, .inl kept)), (ad 6, .inl (cI, 3, .inl chosen)), (ad 7, .inl (cI, 3, .inl across)), (ad 9, .inl (cI, 25, .inl one)), (ad 10, .inl (cI, 25, .inl two)), (ad 11, .inl (cI, 25, .inl base)), (ad 12, .inl (cI, 25, .inl u_1)), (ad 13, .inl (cI, 150, .inl text)), (ad 14, .inl (cI, 4, .inl numbers)), (ad 15, .inl (cI, 21, .inl entries)), (ad 16, .inl (cI, 108, .inl before))]) (ws2 := (wM cI ad states whyKind whyOrder many wide textLong spot readColumns all past refused work kept chosen across sum one two base u_1 text numbers entries before)) (gS (rest := []) ⟨hx, hb, hml, hown, hts⟩ hG hPc hDc (mtX8_degreeOf l D cI cB cR (ad 8) H.size 25 sum r_11 hq_12) (va_cwS 1 hts gX8_divides_X8_degreeOf rfl rfl rfl hd_X8_degreeOf ⟨Nat.le_of_ble_eq_true rfl, Nat.le_of_ble_eq_true rfl⟩) rfl hl.1 rfl (Nat.le_of_ble_eq_true rfl) dX8_divides_31) hP hD hS hA [8] [0, 1, 2, 3, 4, 5, 6, 7, 9, 10, 11, 12, 13, 14, 15, 16] [0, 1, 2, 3, 4, 5, 6, 7, 16, 8, 9, 10, 11, 12, 13, 14, 15] rfl (selR [true, true, true, true, true, true, true, true, false, true, true, true, true, true, true, true, true] (by decide +kernel) rfl) (by decide +kernel) (by decide +kernel) (mgN [none, none, none, none, none, none, none, none, some 0, none, none, none, none, none, none, none, none] 16 rfl (by decide +kernel) rfl) (by decide +kernel) (fun H locs hP hD hS => ?_)
  refine lv_istore_n (lv' := [(3, .int r_11), (2, .int r_8), (1, .int r_4), (0, .ref (ad 0))]) hx hb dX8_divides_34 rfl hl (by decide) rfl (fun ls hl => ?_)
  obtain ⟨w1, hw1, hk1⟩ := bd2_s hq
  have hX1 : ∀ (x_37 : Nat → Int32) (x_38 : Nat → Int32), w1 = (x_37, x_38) → ∀ (H : Heap) (locs : List Loc), va_P D cls9 (wM cI ad states whyKind whyOrder many wide textLong spot readColumns all past refused work kept chosen across x_38 one two base x_37 text numbers entries before) H → va_D A (wM cI ad states whyKind whyOrder many wide textLong spot readColumns all past refused work kept chosen across x_38 one two base x_37 text numbers entries before) → va_S A s.heap H locs → ∀ (ls : Array Slot), lv_has ls 6 [] → W p l e rm_X8_divides s m args below meth c H locs 0 0 Q (F0 m 128 ls []) := by
    intro x_37 x_38 hq H locs hP hD hS ls hl
    have hq := hk1 _ _ hq
    have he := Option.some.inj hq
    subst he
    exact hE H locs _ _ dX8_divides_128 hP hD hS
  have hL1 : ∀ (n : Nat) (i_14 : Int32) (i_15 : Nat → Int32) (i_16 : Nat → Int32), lrun (fun (z : Int32 × (Nat → Int32) × (Nat → Int32)) => fX8_divides_s35 all base r_4 r_8 z.1 z.2.1 z.2.2) n (i_14, i_15, i_16) = some w1 → ∀ (H : Heap) (locs : List Loc), va_P D cls9 (wM cI ad states whyKind whyOrder many wide textLong spot readColumns all past refused work kept chosen across i_16 one two base i_15 text numbers entries before) H → va_D A (wM cI ad states whyKind whyOrder many wide textLong spot readColumns all past refused work kept chosen across i_16 one two base i_15 text numbers entries before) → va_S A s.heap H locs → ∀ (ls : Array Slot), lv_has ls 6 [(0, .ref (ad 0)), (1, .int r_4), (2, .int r_8), (3, .int i_14)] → W p l e rm_X8_divides s m args below meth c H locs 0 0 Q (F0 m 35 ls []) := by
    intro n
    induction n with
    | zero => intro i_14 i_15 i_16 h; cases h
    | succ n ih1 =>
      intro i_14 i_15 i_16 hr1 H locs hP hD hS ls hl
      obtain ⟨k, v1, hk, hr1, ht1, hv1⟩ := lrun_s hr1
      cases hk
      have hr1 : fX8_divides_s35 all base r_4 r_8 i_14 i_15 i_16 = some v1 := hr1
      unfold fX8_divides_s35 at hr1
      refine lv_iload_n hx hb dX8_divides_35 rfl (lv_at hl 3 rfl) ?_
      refine lv_iload_n hx hb dX8_divides_36 rfl (lv_at hl 1 rfl) ?_
      refine lv_icmp_lt (tgt := 128) hx hb dX8_divides_37 (by decide) (fun c_17 => ?_) (fun c_17 => ?_)
      · have hr1 := it_t c_17 hr1
        exact hX1 i_15 i_16 (hv1 _ (Option.some.inj hr1).symm).symm H locs hP hD hS ls (lv_sub hl [] rfl)
      · have hr1 := it_f c_17 hr1
        refine lv_aload_n hx hb dX8_divides_40 rfl (lv_at hl 0 rfl) ?_
        refine va_get (D := D) (ci := 8) (v := .ref (ad 8)) (C := RX8) (T := TX8) (N := 24) hx hb hts iX8_divides_X8 hown hG.1 hP 0 rfl rfl 12 (by decide) (hts _ fX8_divides_3) (fun _ h9 => h9) rfl dX8_divides_41 ?_
        refine lv_iload_n hx hb dX8_divides_44 rfl (lv_at hl 3 rfl) ?_
        obtain ⟨h_18, hr1⟩ := gd_s hr1
        refine va_iald hx hb hG.1 hP 8 0 rfl rfl h_18 dX8_divides_45 ?_
        refine lv_iload_n hx hb dX8_divides_46 rfl (lv_at hl 2 rfl) ?_
        refine lv_imul hx hb dX8_divides_47 ?_
        refine lv_aload_n hx hb dX8_divides_48 rfl (lv_at hl 0 rfl) ?_
        obtain ⟨v_21, hq_20, hk⟩ := bd1_s hr1
        obtain ⟨r_19, rfl⟩ : ∃ y, y = v_21 := ⟨_, rfl⟩
        have hr1 := hk _ rfl
        refine callIA (gV (rest := [.int ((i_16 i_14.toNatClampNeg) * r_8)]) ⟨hx, hb, hml, hown, hts⟩ hG hP hD 0 8 rfl rfl (mtX8_modulus l D cI cB cR ad H.size states whyKind whyOrder many wide textLong spot readColumns all past refused work kept chosen across i_16 one two base i_15 text numbers entries before r_19 hq_20) (cwV 0 hts gX8_divides_X8_modulus rfl rfl rfl ⟨rfl, hd_X8_modulus⟩ ⟨Nat.le_of_ble_eq_true rfl, Nat.le_of_ble_eq_true rfl⟩) rfl hl.1 rfl (Nat.le_of_ble_eq_true rfl) dX8_divides_49) hD hS hA (fun H locs hP hD hS => ?_)
        have hP : va_P D cls9 (wM cI ad states whyKind whyOrder many wide textLong spot readColumns all past refused work kept chosen across i_16 one two base i_15 text numbers entries before) H := hP
        have hD : va_D A (wM cI ad states whyKind whyOrder many wide textLong spot readColumns all past refused work kept chosen across i_16 one two base i_15 text numbers entries before) := hD
        obtain ⟨h_22, hr1⟩ := gd_s hr1
        refine lv_irem hx hb dX8_divides_52 h_22 ?_
        refine lv_asi (y := (rem32 ((i_16 i_14.toNatClampNeg) * r_8) r_19)) rfl ?_
        refine lv_istore (lv' := [(4, .int (rem32 ((i_16 i_14.toNatClampNeg) * r_8) r_19)), (0, .ref (ad 0)), (1, .int r_4), (2, .int r_8), (3, .int i_14)]) hx hb dX8_divides_53 hl (by decide) rfl (fun ls hl => ?_)
        refine lv_aload_n hx hb dX8_divides_55 rfl (lv_at hl 1 rfl) ?_
        refine va_get (D := D) (ci := 8) (v := .ref (ad 12)) (C := RX8) (T := TX8) (N := 24) hx hb hts iX8_divides_X8 hown hG.1 hP 0 rfl rfl 16 (by decide) (hts _ fX8_divides_1) (fun _ h9 => h9) rfl dX8_divides_56 ?_
        refine lv_iload_n hx hb dX8_divides_59 rfl (lv_at hl 4 rfl) ?_
        refine lv_iload_n hx hb dX8_divides_60 rfl (lv_at hl 2 rfl) ?_
        refine lv_isub hx hb dX8_divides_61 ?_
        refine lv_iload hx hb dX8_divides_62 (lv_at hl 0 rfl) ?_
        obtain ⟨h_23, hr1⟩ := gd_s hr1
        refine va_iast hx hb hG.1 hP hD hS 12 0 rfl rfl h_23 dX8_divides_64 (fun H locs hP hD hS => ?_)
        have hP : va_P D cls9 (wM cI ad states whyKind whyOrder many wide textLong spot readColumns all past refused work kept chosen across i_16 one two base (upd i_15 (i_14 - r_4).toNatClampNeg (rem32 ((i_16 i_14.toNatClampNeg) * r_8) r_19)) text numbers entries before) H := hP
        have hD : va_D A (wM cI ad states whyKind whyOrder many wide textLong spot readColumns all past refused work kept chosen across i_16 one two base (upd i_15 (i_14 - r_4).toNatClampNeg (rem32 ((i_16 i_14.toNatClampNeg) * r_8) r_19)) text numbers entries before) := hD
        refine lv_iconst (v := 0) hx hb dX8_divides_65 (by decide) ?_
        refine lv_istore (lv' := [(5, .int (0 : Int32)), (4, .int (rem32 ((i_16 i_14.toNatClampNeg) * r_8) r_19)), (0, .ref (ad 0)), (1, .int r_4), (2, .int r_8), (3, .int i_14)]) hx hb dX8_divides_66 hl (by decide) rfl (fun ls hl => ?_)
        obtain ⟨w2, hw2, hk2⟩ := bd1_s hr1
        have hX2 : ∀ (x_33 : Nat → Int32), w2 = x_33 → ∀ (H : Heap) (locs : List Loc), va_P D cls9 (wM cI ad states whyKind whyOrder many wide textLong spot readColumns all past refused work kept chosen across x_33 one two base (upd i_15 (i_14 - r_4).toNatClampNeg (rem32 ((i_16 i_14.toNatClampNeg) * r_8) r_19)) text numbers entries before) H → va_D A (wM cI ad states whyKind whyOrder many wide textLong spot readColumns all past refused work kept chosen across x_33 one two base (upd i_15 (i_14 - r_4).toNatClampNeg (rem32 ((i_16 i_14.toNatClampNeg) * r_8) r_19)) text numbers entries before) → va_S A s.heap H locs → ∀ (ls : Array Slot), lv_has ls 6 [(0, .ref (ad 0)), (1, .int r_4), (2, .int r_8)] → W p l e rm_X8_divides s m args below meth c H locs 0 0 Q (F0 m 117 ls []) := by
          intro x_33 hq H locs hP hD hS ls hl
          have hr1 := hk2 _ hq
          refine lv_aload_n hx hb dX8_divides_117 rfl (lv_at hl 0 rfl) ?_
          refine va_get (D := D) (ci := 8) (v := .ref (ad 8)) (C := RX8) (T := TX8) (N := 24) hx hb hts iX8_divides_X8 hown hG.1 hP 0 rfl rfl 12 (by decide) (hts _ fX8_divides_3) (fun _ h9 => h9) rfl dX8_divides_118 ?_
          obtain ⟨v_36, hq_35, hk⟩ := bd1_s hr1
          obtain ⟨r_34, rfl⟩ : ∃ y, y = v_36 := ⟨_, rfl⟩
          have hr1 := hk _ rfl
          have hPc : va_P D cls9 [(ad 8, .inl (cI, 25, .inl x_33))] H := hPsub hP [8] rfl
          have hDc : va_D A [(ad 8, .inl (cI, 25, .inl x_33))] := hD.sub [8] (by decide +kernel) rfl
          refine callIP (wr := [(ad 0, .inr (8, [.ref (ad 1), .ref (ad 2), .int states, .ref (ad 3), .int whyKind, .int whyOrder, .ref (ad 4), .int many, .int wide, .ref (ad 5), .ref (ad 6), .ref (ad 7), .ref (ad 8), .ref (ad 9), .ref (ad 10), .ref (ad 11), .ref (ad 12), .ref (ad 13), .int textLong, .int spot, .ref (ad 14), .ref (ad 15), .int readColumns, .ref (ad 16)])), (ad 1, .inl (cI, 108, .inl all)), (ad 2, .inl (cI, 540, .inl past)), (ad 3, .inl (cI, 3, .inl refused)), (ad 4, .inl (cI, 144, .inl work)), (ad 5, .inl (cI, 144, .inl kept)), (ad 6, .inl (cI, 3, .inl chosen)), (ad 7, .inl (cI, 3, .inl across)), (ad 9, .inl (cI, 25, .inl one)), (ad 10, .inl (cI, 25, .inl two)), (ad 11, .inl (cI, 25, .inl base)), (ad 12, .inl (cI, 25, .inl (upd i_15 (i_14 - r_4).toNatClampNeg (rem32 ((i_16 i_14.toNatClampNeg) * r_8) r_19)))), (ad 13, .inl (cI, 150, .inl text)), (ad 14, .inl (cI, 4, .inl numbers)), (ad 15, .inl (cI, 21, .inl entries)), (ad 16, .inl (cI, 108, .inl before))]) (ws2 := (wM cI ad states whyKind whyOrder many wide textLong spot readColumns all past refused work kept chosen across x_33 one two base (upd i_15 (i_14 - r_4).toNatClampNeg (rem32 ((i_16 i_14.toNatClampNeg) * r_8) r_19)) text numbers entries before)) (gS (rest := []) ⟨hx, hb, hml, hown, hts⟩ hG hPc hDc (mtX8_degreeOf l D cI cB cR (ad 8) H.size 25 x_33 r_34 hq_35) (va_cwS 1 hts gX8_divides_X8_degreeOf rfl rfl rfl hd_X8_degreeOf ⟨Nat.le_of_ble_eq_true rfl, Nat.le_of_ble_eq_true rfl⟩) rfl hl.1 rfl (Nat.le_of_ble_eq_true rfl) dX8_divides_121) hP hD hS hA [8] [0, 1, 2, 3, 4, 5, 6, 7, 9, 10, 11, 12, 13, 14, 15, 16] [0, 1, 2, 3, 4, 5, 6, 7, 16, 8, 9, 10, 11, 12, 13, 14, 15] rfl (selR [true, true, true, true, true, true, true, true, false, true, true, true, true, true, true, true, true] (by decide +kernel) rfl) (by decide +kernel) (by decide +kernel) (mgN [none, none, none, none, none, none, none, none, some 0, none, none, none, none, none, none, none, none] 16 rfl (by decide +kernel) rfl) (by decide +kernel) (fun H locs hP hD hS => ?_)
          refine lv_istore_n (lv' := [(3, .int r_34), (0, .ref (ad 0)), (1, .int r_4), (2, .int r_8)]) hx hb dX8_divides_124 rfl hl (by decide) rfl (fun ls hl => ?_)
          refine lv_goto (tgt := 35) hx hb dX8_divides_125 (by decide) ?_
          exact ih1 r_34 (upd i_15 (i_14 - r_4).toNatClampNeg (rem32 ((i_16 i_14.toNatClampNeg) * r_8) r_19)) x_33 (ht1 _ (Option.some.inj hr1).symm) H locs hP hD hS ls (lv_sub hl [1, 2, 3, 0] rfl)
        have hL2 : ∀ (n : Nat) (i_24 : Int32) (i_25 : Nat → Int32), lrun (fun (z : Int32 × (Nat → Int32)) => fX8_divides_s68 all base r_4 r_8 i_14 i_16 r_19 z.1 z.2) n (i_24, i_25) = some w2 → ∀ (H : Heap) (locs : List Loc), va_P D cls9 (wM cI ad states whyKind whyOrder many wide textLong spot readColumns all past refused work kept chosen across i_25 one two base (upd i_15 (i_14 - r_4).toNatClampNeg (rem32 ((i_16 i_14.toNatClampNeg) * r_8) r_19)) text numbers entries before) H → va_D A (wM cI ad states whyKind whyOrder many wide textLong spot readColumns all past refused work kept chosen across i_25 one two base (upd i_15 (i_14 - r_4).toNatClampNeg (rem32 ((i_16 i_14.toNatClampNeg) * r_8) r_19)) text numbers entries before) → va_S A s.heap H locs → ∀ (ls : Array Slot), lv_has ls 6 [(0, .ref (ad 0)), (1, .int r_4), (2, .int r_8), (3, .int i_14), (4, .int (rem32 ((i_16 i_14.toNatClampNeg) * r_8) r_19)), (5, .int i_24)] → W p l e rm_X8_divides s m args below meth c H locs 0 0 Q (F0 m 68 ls []) := by
          intro n
          induction n with
          | zero => intro i_24 i_25 h; cases h
          | succ n ih2 =>
            intro i_24 i_25 hr2 H locs hP hD hS ls hl
            obtain ⟨k, v2, hk, hr2, ht2, hv2⟩ := lrun_s hr2
            cases hk
            have hr2 : fX8_divides_s68 all base r_4 r_8 i_14 i_16 r_19 i_24 i_25 = some v2 := hr2
            unfold fX8_divides_s68 at hr2
            refine lv_iload hx hb dX8_divides_68 (lv_at hl 5 rfl) ?_
            refine lv_iload_n hx hb dX8_divides_70 rfl (lv_at hl 1 rfl) ?_
            refine lv_icmp_gt (tgt := 117) hx hb dX8_divides_71 (by decide) (fun c_26 => ?_) (fun c_26 => ?_)
            · have hr2 := it_t c_26 hr2
              exact hX2 i_25 (hv2 _ (Option.some.inj hr2).symm).symm H locs hP hD hS ls (lv_sub hl [0, 1, 2] rfl)
            · have hr2 := it_f c_26 hr2
              refine lv_aload_n hx hb dX8_divides_74 rfl (lv_at hl 0 rfl) ?_
              refine va_get (D := D) (ci := 8) (v := .ref (ad 8)) (C := RX8) (T := TX8) (N := 24) hx hb hts iX8_divides_X8 hown hG.1 hP 0 rfl rfl 12 (by decide) (hts _ fX8_divides_3) (fun _ h9 => h9) rfl dX8_divides_75 ?_
              refine lv_iload_n hx hb dX8_divides_78 rfl (lv_at hl 3 rfl) ?_
              refine lv_iload_n hx hb dX8_divides_79 rfl (lv_at hl 1 rfl) ?_
              refine lv_isub hx hb dX8_divides_80 ?_
              refine lv_iload hx hb dX8_divides_81 (lv_at hl 5 rfl) ?_
              refine lv_iadd hx hb dX8_divides_83 ?_
              refine lv_aload_n hx hb dX8_divides_84 rfl (lv_at hl 0 rfl) ?_
              refine lv_aload_n hx hb dX8_divides_85 rfl (lv_at hl 0 rfl) ?_
              refine va_get (D := D) (ci := 8) (v := .ref (ad 8)) (C := RX8) (T := TX8) (N := 24) hx hb hts iX8_divides_X8 hown hG.1 hP 0 rfl rfl 12 (by decide) (hts _ fX8_divides_3) (fun _ h9 => h9) rfl dX8_divides_86 ?_
              refine lv_iload_n hx hb dX8_divides_89 rfl (lv_at hl 3 rfl) ?_
              refine lv_iload_n hx hb dX8_divides_90 rfl (lv_at hl 1 rfl) ?_
              refine lv_isub hx hb dX8_divides_91 ?_
              refine lv_iload hx hb dX8_divides_92 (lv_at hl 5 rfl) ?_
              refine lv_iadd hx hb dX8_divides_94 ?_
              obtain ⟨h_27, hr2⟩ := gd_s hr2
              refine va_iald hx hb hG.1 hP 8 0 rfl rfl h_27 dX8_divides_95 ?_
              refine lv_iload hx hb dX8_divides_96 (lv_at hl 4 rfl) ?_
              refine lv_aload_n hx hb dX8_divides_98 rfl (lv_at hl 0 rfl) ?_
              refine va_get (D := D) (ci := 8) (v := .ref (ad 11)) (C := RX8) (T := TX8) (N := 24) hx hb hts iX8_divides_X8 hown hG.1 hP 0 rfl rfl 15 (by decide) (hts _ fX8_divides_2) (fun _ h9 => h9) rfl dX8_divides_99 ?_
              refine lv_iload hx hb dX8_divides_102 (lv_at hl 5 rfl) ?_
              obtain ⟨h_28, hr2⟩ := gd_s hr2
              refine va_iald hx hb hG.1 hP 11 0 rfl rfl h_28 dX8_divides_104 ?_
              refine lv_imul hx hb dX8_divides_105 ?_
              refine lv_isub hx hb dX8_divides_106 ?_
              obtain ⟨v_31, hq_30, hk⟩ := bd1_s hr2
              obtain ⟨r_29, rfl⟩ : ∃ y, y = v_31 := ⟨_, rfl⟩
              have hr2 := hk _ rfl
              refine callIA (gV (rest := [.int ((i_14 - r_4) + i_24), .ref (ad 8)]) ⟨hx, hb, hml, hown, hts⟩ hG hP hD 0 8 rfl rfl (mtX8_left l D cI cB cR ad H.size states whyKind whyOrder many wide textLong spot readColumns all past refused work kept chosen across i_25 one two base (upd i_15 (i_14 - r_4).toNatClampNeg (rem32 ((i_16 i_14.toNatClampNeg) * r_8) r_19)) text numbers entries before ((i_25 ((i_14 - r_4) + i_24).toNatClampNeg) - ((rem32 ((i_16 i_14.toNatClampNeg) * r_8) r_19) * (base i_24.toNatClampNeg))) r_29 hq_30) (cwV 1 hts gX8_divides_X8_left rfl rfl rfl ⟨rfl, hd_X8_left⟩ ⟨Nat.le_of_ble_eq_true rfl, Nat.le_of_ble_eq_true rfl⟩) rfl hl.1 rfl (Nat.le_of_ble_eq_true rfl) dX8_divides_107) hD hS hA (fun H locs hP hD hS => ?_)
              have hP : va_P D cls9 (wM cI ad states whyKind whyOrder many wide textLong spot readColumns all past refused work kept chosen across i_25 one two base (upd i_15 (i_14 - r_4).toNatClampNeg (rem32 ((i_16 i_14.toNatClampNeg) * r_8) r_19)) text numbers entries before) H := hP
              have hD : va_D A (wM cI ad states whyKind whyOrder many wide textLong spot readColumns all past refused work kept chosen across i_25 one two base (upd i_15 (i_14 - r_4).toNatClampNeg (rem32 ((i_16 i_14.toNatClampNeg) * r_8) r_19)) text numbers entries before) := hD
              obtain ⟨h_32, hr2⟩ := gd_s hr2
              refine va_iast hx hb hG.1 hP hD hS 8 0 rfl rfl h_32 dX8_divides_110 (fun H locs hP hD hS => ?_)
              have hP : va_P D cls9 (wM cI ad states whyKind whyOrder many wide textLong spot readColumns all past refused work kept chosen across (upd i_25 ((i_14 - r_4) + i_24).toNatClampNeg r_29) one two base (upd i_15 (i_14 - r_4).toNatClampNeg (rem32 ((i_16 i_14.toNatClampNeg) * r_8) r_19)) text numbers entries before) H := hP
              have hD : va_D A (wM cI ad states whyKind whyOrder many wide textLong spot readColumns all past refused work kept chosen across (upd i_25 ((i_14 - r_4) + i_24).toNatClampNeg r_29) one two base (upd i_15 (i_14 - r_4).toNatClampNeg (rem32 ((i_16 i_14.toNatClampNeg) * r_8) r_19)) text numbers entries before) := hD
              refine lv_iinc (v := (i_24 + 1)) (lv' := [(5, .int (i_24 + 1)), (0, .ref (ad 0)), (1, .int r_4), (2, .int r_8), (3, .int i_14), (4, .int (rem32 ((i_16 i_14.toNatClampNeg) * r_8) r_19))]) hx hb dX8_divides_111 hl (k := 5) rfl rfl (by decide) rfl (fun ls hl => ?_)
              refine lv_goto (tgt := 68) hx hb dX8_divides_114 (by decide) ?_
              exact ih2 (i_24 + 1) (upd i_25 ((i_14 - r_4) + i_24).toNatClampNeg r_29) (ht2 _ (Option.some.inj hr2).symm) H locs hP hD hS ls (lv_sub hl [1, 2, 3, 4, 5, 0] rfl)
        obtain ⟨n2, hn2⟩ := Lp_s hw2
        exact hL2 n2 (0 : Int32) i_16 hn2 H locs hP hD hS ls (lv_sub hl [2, 3, 4, 5, 1, 0] rfl)
  obtain ⟨n1, hn1⟩ := Lp_s hw1
  exact hL1 n1 r_11 u_1 sum hn1 H locs hP hD hS ls (lv_sub hl [3, 2, 1, 0] rfl)
