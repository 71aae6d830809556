abbrev rm_X3_placeOf : Room := { frames := 1, cells := 0, slots := 0, locals := 24 }
theorem iX3_placeOf_X3 : ∀ w ∈ wsX30, w ∈ wsX3_placeOf := fun _ h => (List.mem_cons_of_mem _ (List.mem_append_right _ h))
theorem fX3_placeOf_1 : Cond.fieldLink RX3 15 "PopovRows$Rows" "columns" "I" ∈ wsX3_placeOf := (List.mem_cons_of_mem _ (List.mem_append_left _ (List.mem_of_getElem? (i := 0) rfl)))
set_option maxHeartbeats 4000000 in
set_option maxRecDepth 100000 in
theorem mtX3_placeOf (l : Launch) (D : va_G) (cI cB cR : ClassId) (ah : Nat) (an : Nat) (sz : Nat) (L : Nat) (room : Int32) (width : Int32) (powers : Int32) (pp : Int32) (columns : Int32) (count : Int32) (num : Nat → Int32) (a0 : Int32) (res : Int32) (hf : fX3_placeOf L room width powers columns num a0 = some res) : Met l yX3_placeOf wsX3_placeOf rm_X3_placeOf (qP D cI cB cR [.ref ah, .int a0] (wR cI ah an L room width powers pp columns count num) sz) (qI D res (wR cI ah an L room width powers pp columns count num) (wR cI ah an L room width powers pp columns count num) sz) 0 0 (va_A (wR cI ah an L room width powers pp columns count num) sz) := by
  refine entI (plainFor_of_name (by decide)) rfl (Nat.le_of_ble_eq_true rfl) ?_
  intro p e s m args below meth c Q A ls S hG hP hD hA hl hE
  obtain ⟨hx, hb, hml, hown, hts⟩ := S
  have hown : s.vm.findClass RX3 = some m.cls := hown
  have hS : va_S A s.heap s.heap [] := va_S.rf
  have hl : lv_has ls 4 [(0, .ref ah), (1, .int a0)] := hl
  have hq := hf
  unfold fX3_placeOf at hq
  obtain ⟨H, hH⟩ : ∃ H, H = s.heap := ⟨_, rfl⟩
  obtain ⟨locs, hlo⟩ : ∃ L : List Loc, L = [] := ⟨_, rfl⟩
  have hP : va_P D cls9 (wR cI ah an L room width powers pp columns count num) H := hH ▸ hP
  have hS : va_S A s.heap H locs := by rw [hH, hlo]; exact hS
  suffices hg : W p l e rm_X3_placeOf s m args below meth c H locs 0 0 Q (F0 m 0 ls []) by rw [hH, hlo] at hg; exact hg
  refine lv_bipush (v := 7) hx hb dX3_placeOf_0 (by decide) ?_
  refine lv_istore_n (lv' := [(2, .int (7 : Int32)), (0, .ref ah), (1, .int a0)]) hx hb dX3_placeOf_2 rfl hl (by decide) rfl (fun ls hl => ?_)
  obtain ⟨w1, hw1, hk1, hO1⟩ := bx_s hq
  have hX1 : ∀ (_ : Unit), w1 = .inl () → ∀ (H : Heap) (locs : List Loc), va_P D cls9 (wR cI ah an L room width powers pp columns count num) H → va_D A (wR cI ah an L room width powers pp columns count num) → va_S A s.heap H locs → ∀ (ls : Array Slot), lv_has ls 4 [] → W p l e rm_X3_placeOf s m args below meth c H locs 0 0 Q (F0 m 46 ls []) := by
    intro _ hq H locs hP hD hS ls hl
    have hq := hk1 _ hq
    refine lv_iconst (v := -1) hx hb dX3_placeOf_46 (by decide) ?_
    have he := Option.some.inj hq
    subst he
    exact hE H locs _ _ _ rfl dX3_placeOf_47 hP hD hS
  have hL1 : ∀ (n : Nat) (i_1 : Int32), lrun (fun (z : Int32) => fX3_placeOf_s3 L room width powers columns num a0 z) n i_1 = some w1 → ∀ (H : Heap) (locs : List Loc), va_P D cls9 (wR cI ah an L room width powers pp columns count num) H → va_D A (wR cI ah an L room width powers pp columns count num) → va_S A s.heap H locs → ∀ (ls : Array Slot), lv_has ls 4 [(0, .ref ah), (1, .int a0), (2, .int i_1)] → W p l e rm_X3_placeOf s m args below meth c H locs 0 0 Q (F0 m 3 ls []) := by
    intro n
    induction n with
    | zero => intro i_1 h; cases h
    | succ n ih1 =>
      intro i_1 hr1 H locs hP hD hS ls hl
      obtain ⟨k, v1, hk, hr1, ht1, hv1⟩ := lrun_s hr1
      cases hk
      have hr1 : fX3_placeOf_s3 L room width powers columns num a0 i_1 = some v1 := hr1
      unfold fX3_placeOf_s3 at hr1
      refine lv_iload_n hx hb dX3_placeOf_3 rfl (lv_at hl 2 rfl) ?_
      refine lv_if_lt (tgt := 46) hx hb dX3_placeOf_4 (by decide) (fun c_2 => ?_) (fun c_2 => ?_)
      · have hr1 := it_t c_2 hr1
        exact hX1 () (hv1 _ (Option.some.inj hr1).symm).symm H locs hP hD hS ls (lv_sub hl [] rfl)
      · have hr1 := it_f c_2 hr1
        refine lv_aload_n hx hb dX3_placeOf_7 rfl (lv_at hl 0 rfl) ?_
        refine va_get (D := D) (ci := 3) (v := .int columns) (C := RX3) (T := TX3) (N := 7) hx hb hts iX3_placeOf_X3 hown hG.1 hP 0 rfl rfl 5 (by decide) (hts _ fX3_placeOf_1) (fun _ h9 => h9) rfl dX3_placeOf_8 ?_
        refine lv_iconst (v := 1) hx hb dX3_placeOf_11 (by decide) ?_
        refine lv_isub hx hb dX3_placeOf_12 ?_
        refine lv_istore_n (lv' := [(3, .int (columns - (1 : Int32))), (0, .ref ah), (1, .int a0), (2, .int i_1)]) hx hb dX3_placeOf_13 rfl hl (by decide) rfl (fun ls hl => ?_)
        obtain ⟨w2, hw2, hk2, hO2⟩ := bx_s hr1
        have hX2 : ∀ (_ : Unit), w2 = .inl () → ∀ (H : Heap) (locs : List Loc), va_P D cls9 (wR cI ah an L room width powers pp columns count num) H → va_D A (wR cI ah an L room width powers pp columns count num) → va_S A s.heap H locs → ∀ (ls : Array Slot), lv_has ls 4 [(0, .ref ah), (1, .int a0), (2, .int i_1)] → W p l e rm_X3_placeOf s m args below meth c H locs 0 0 Q (F0 m 40 ls []) := by
          intro _ hq H locs hP hD hS ls hl
          have hr1 := hk2 _ hq
          refine lv_iinc (v := (i_1 + (-1))) (lv' := [(2, .int (i_1 + (-1))), (0, .ref ah), (1, .int a0)]) hx hb dX3_placeOf_40 hl (k := 2) rfl rfl (by decide) rfl (fun ls hl => ?_)
          refine lv_goto (tgt := 3) hx hb dX3_placeOf_43 (by decide) ?_
          exact ih1 (i_1 + (-1)) (ht1 _ (Option.some.inj hr1).symm) H locs hP hD hS ls (lv_sub hl [1, 2, 0] rfl)
        have hL2 : ∀ (n : Nat) (i_3 : Int32), lrun (fun (z : Int32) => fX3_placeOf_s14 L room width powers num a0 i_1 z) n i_3 = some w2 → ∀ (H : Heap) (locs : List Loc), va_P D cls9 (wR cI ah an L room width powers pp columns count num) H → va_D A (wR cI ah an L room width powers pp columns count num) → va_S A s.heap H locs → ∀ (ls : Array Slot), lv_has ls 4 [(0, .ref ah), (1, .int a0), (2, .int i_1), (3, .int i_3)] → W p l e rm_X3_placeOf s m args below meth c H locs 0 0 Q (F0 m 14 ls []) := by
          intro n
          induction n with
          | zero => intro i_3 h; cases h
          | succ n ih2 =>
            intro i_3 hr2 H locs hP hD hS ls hl
            obtain ⟨k, v2, hk, hr2, ht2, hv2⟩ := lrun_s hr2
            cases hk
            have hr2 : fX3_placeOf_s14 L room width powers num a0 i_1 i_3 = some v2 := hr2
            unfold fX3_placeOf_s14 at hr2
            refine lv_iload_n hx hb dX3_placeOf_14 rfl (lv_at hl 3 rfl) ?_
            refine lv_if_lt (tgt := 40) hx hb dX3_placeOf_15 (by decide) (fun c_4 => ?_) (fun c_4 => ?_)
            · have hr2 := it_t c_4 hr2
              exact hX2 () (hv2 _ (Option.some.inj hr2).symm).symm H locs hP hD hS ls (lv_sub hl [0, 1, 2] rfl)
            · have hr2 := it_f c_4 hr2
              refine lv_aload_n hx hb dX3_placeOf_18 rfl (lv_at hl 0 rfl) ?_
              refine lv_iload_n hx hb dX3_placeOf_19 rfl (lv_at hl 1 rfl) ?_
              refine lv_iload_n hx hb dX3_placeOf_20 rfl (lv_at hl 3 rfl) ?_
              refine lv_iload_n hx hb dX3_placeOf_21 rfl (lv_at hl 2 rfl) ?_
              obtain ⟨v_7, hq_6, hk⟩ := bd1_s hr2
              obtain ⟨r_5, rfl⟩ : ∃ y, y = v_7 := ⟨_, rfl⟩
              have hr2 := hk _ rfl
              refine callIA (gV (rest := []) ⟨hx, hb, hml, hown, hts⟩ hG hP hD 0 3 rfl rfl (mtX3_at l D cI cB cR ah an H.size L room width powers pp columns count num a0 i_3 i_1 r_5 hq_6) (cwV 3 hts gX3_placeOf_X3_at rfl rfl rfl ⟨rfl, hd_X3_at⟩ ⟨Nat.le_of_ble_eq_true rfl, Nat.le_of_ble_eq_true rfl⟩) rfl hl.1 rfl (Nat.le_of_ble_eq_true rfl) dX3_placeOf_22) hD hS hA (fun H locs hP hD hS => ?_)
              have hP : va_P D cls9 (wR cI ah an L room width powers pp columns count num) H := hP
              have hD : va_D A (wR cI ah an L room width powers pp columns count num) := hD
              refine lv_if_eq (tgt := 34) hx hb dX3_placeOf_25 (by decide) (fun c_8 => ?_) (fun c_8 => ?_)
              · have hr2 := it_t c_8 hr2
                refine lv_iinc (v := (i_3 + (-1))) (lv' := [(3, .int (i_3 + (-1))), (0, .ref ah), (1, .int a0), (2, .int i_1)]) hx hb dX3_placeOf_34 hl (k := 3) rfl rfl (by decide) rfl (fun ls hl => ?_)
                refine lv_goto (tgt := 14) hx hb dX3_placeOf_37 (by decide) ?_
                exact ih2 (i_3 + (-1)) (ht2 _ (Option.some.inj hr2).symm) H locs hP hD hS ls (lv_sub hl [1, 2, 3, 0] rfl)
              · have hr2 := it_f c_8 hr2
                refine lv_iload_n hx hb dX3_placeOf_28 rfl (lv_at hl 2 rfl) ?_
                refine lv_iconst (v := 3) hx hb dX3_placeOf_29 (by decide) ?_
                refine lv_imul hx hb dX3_placeOf_30 ?_
                refine lv_iload_n hx hb dX3_placeOf_31 rfl (lv_at hl 3 rfl) ?_
                refine lv_iadd hx hb dX3_placeOf_32 ?_
                have he := (hO1 _ (hv1 _ ((hO2 _ (hv2 _ (Option.some.inj hr2).symm).symm)).symm).symm)
                subst he
                exact hE H locs _ _ _ rfl dX3_placeOf_33 hP hD hS
        obtain ⟨n2, hn2⟩ := Lp_s hw2
        exact hL2 n2 (columns - (1 : Int32)) hn2 H locs hP hD hS ls (lv_sub hl [1, 2, 3, 0] rfl)
  obtain ⟨n1, hn1⟩ := Lp_s hw1
  exact hL1 n1 (7 : Int32) hn1 H locs hP hD hS ls (lv_sub hl [1, 2, 0] rfl)
abbrev rm_X7_powerAt : Room := { frames := 0, cells := 0, slots := 0, locals := 0 }
set_option maxHeartbeats 4000000 in
set_option maxRecDepth 100000 in
theorem mtX7_powerAt (l : Launch) (D : va_G) (cI cB cR : ClassId) (sz : Nat) (a0 : Int32) (res : Int32) (hf : fX7_powerAt a0 = res) : Met l yX7_powerAt wsX7_powerAt rm_X7_powerAt (qP D cI cB cR [.int a0] ([] : va_W) sz) (qI D res ([] : va_W) ([] : va_W) sz) 0 0 (va_A ([] : va_W) sz) := by
  refine entI (plainFor_of_name (by decide)) rfl (Nat.le_of_ble_eq_true rfl) ?_
  intro p e s m args below meth c Q A ls S hG hP hD hA hl hE
  obtain ⟨hx, hb, hml, hown, hts⟩ := S
  have hown : s.vm.findClass RX7 = some m.cls := hown
  have hS : va_S A s.heap s.heap [] := va_S.rf
  have hl : lv_has ls 1 [(0, .int a0)] := hl
  have hq := hf
  unfold fX7_powerAt at hq
  obtain ⟨H, hH⟩ : ∃ H, H = s.heap := ⟨_, rfl⟩
  obtain ⟨locs, hlo⟩ : ∃ L : List Loc, L = [] := ⟨_, rfl⟩
  have hP : va_P D cls9 ([] : va_W) H := hH ▸ hP
  have hS : va_S A s.heap H locs := by rw [hH, hlo]; exact hS
  suffices hg : W p l e rm_X7_powerAt s m args below meth c H locs 0 0 Q (F0 m 0 ls []) by rw [hH, hlo] at hg; exact hg
  refine lv_iload_n hx hb dX7_powerAt_0 rfl (lv_at hl 0 rfl) ?_
  refine lv_iconst (v := -1) hx hb dX7_powerAt_1 (by decide) ?_
  refine lv_icmp_ne (tgt := 9) hx hb dX7_powerAt_2 (by decide) (fun c_1 => ?_) (fun c_1 => ?_)
  · have hq := it_f c_1 hq
    refine lv_iload_n hx hb dX7_powerAt_9 rfl (lv_at hl 0 rfl) ?_
    refine lv_iconst (v := 3) hx hb dX7_powerAt_10 (by decide) ?_
    refine lv_idiv hx hb dX7_powerAt_11 (by decide) ?_
    have he := hq
    subst he
    exact hE H locs _ _ _ rfl dX7_powerAt_12 hP hD hS
  · have hq := it_t c_1 hq
    refine lv_iconst (v := -1) hx hb dX7_powerAt_5 (by decide) ?_
    refine lv_goto (tgt := 12) hx hb dX7_powerAt_6 (by decide) ?_
    have he := hq
    subst he
    exact hE H locs _ _ _ rfl dX7_powerAt_12 hP hD hS
abbrev rm_X3_degreeOf : Room := { frames := 2, cells := 0, slots := 0, locals := 47 }
theorem fX3_degreeOf_0 : Cond.initialized RX7 ∈ wsX3_degreeOf := (List.mem_cons_of_mem _ (List.mem_append_left _ (List.mem_of_getElem? (i := 15) rfl)))
theorem fX3_degreeOf_1 : Cond.static yX7_powerAt ∈ wsX3_degreeOf := (List.mem_cons_of_mem _ (List.mem_append_left _ (List.mem_of_getElem? (i := 14) rfl)))
set_option maxHeartbeats 4000000 in
set_option maxRecDepth 100000 in
theorem mtX3_degreeOf (l : Launch) (D : va_G) (cI cB cR : ClassId) (ah : Nat) (an : Nat) (sz : Nat) (L : Nat) (room : Int32) (width : Int32) (powers : Int32) (pp : Int32) (columns : Int32) (count : Int32) (num : Nat → Int32) (a0 : Int32) (res : Int32) (hf : fX3_degreeOf L room width powers columns num a0 = some res) : Met l yX3_degreeOf wsX3_degreeOf rm_X3_degreeOf (qP D cI cB cR [.ref ah, .int a0] (wR cI ah an L room width powers pp columns count num) sz) (qI D res (wR cI ah an L room width powers pp columns count num) (wR cI ah an L room width powers pp columns count num) sz) 0 0 (va_A (wR cI ah an L room width powers pp columns count num) sz) := by
  refine entI (plainFor_of_name (by decide)) rfl (Nat.le_of_ble_eq_true rfl) ?_
  intro p e s m args below meth c Q A ls S hG hP hD hA hl hE
  obtain ⟨hx, hb, hml, hown, hts⟩ := S
  have hown : s.vm.findClass RX3 = some m.cls := hown
  have hS : va_S A s.heap s.heap [] := va_S.rf
  have hl : lv_has ls 2 [(0, .ref ah), (1, .int a0)] := hl
  have hq := hf
  unfold fX3_degreeOf at hq
  obtain ⟨H, hH⟩ : ∃ H, H = s.heap := ⟨_, rfl⟩
  obtain ⟨locs, hlo⟩ : ∃ L : List Loc, L = [] := ⟨_, rfl⟩
  have hP : va_P D cls9 (wR cI ah an L room width powers pp columns count num) H := hH ▸ hP
  have hS : va_S A s.heap H locs := by rw [hH, hlo]; exact hS
  suffices hg : W p l e rm_X3_degreeOf s m args below meth c H locs 0 0 Q (F0 m 0 ls []) by rw [hH, hlo] at hg; exact hg
  refine lv_aload_n hx hb dX3_degreeOf_0 rfl (lv_at hl 0 rfl) ?_
  refine lv_iload_n hx hb dX3_degreeOf_1 rfl (lv_at hl 1 rfl) ?_
  obtain ⟨v_3, hq_2, hk⟩ := bd1_s hq
  obtain ⟨r_1, rfl⟩ : ∃ y, y = v_3 := ⟨_, rfl⟩
  have hq := hk _ rfl
  refine callIA (gV (rest := []) ⟨hx, hb, hml, hown, hts⟩ hG hP hD 0 3 rfl rfl (mtX3_placeOf l D cI cB cR ah an H.size L room width powers pp columns count num a0 r_1 hq_2) (cwV 1 hts gX3_degreeOf_X3_placeOf rfl rfl rfl ⟨rfl, hd_X3_placeOf⟩ ⟨Nat.le_of_ble_eq_true rfl, Nat.le_of_ble_eq_true rfl⟩) rfl hl.1 rfl (Nat.le_of_ble_eq_true rfl) dX3_degreeOf_2) hD hS hA (fun H locs hP hD hS => ?_)
  have hP : va_P D cls9 (wR cI ah an L room width powers pp columns count num) H := hP
  have hD : va_D A (wR cI ah an L room width powers pp columns count num) := hD
  refine callI0 (gSN (rest := []) ⟨hx, hb, hml, hown, hts⟩ hG vaP0 (vaD0 (A := A)) (mtX7_powerAt l D cI cB cR H.size r_1 _ rfl) (va_cnB (host := "PopovRows") 1 hts gX3_degreeOf_X7_powerAt_n72 rfl rfl rfl (hG.2 _ nl_9) (hts _ fX3_degreeOf_0) hd_X7_powerAt ⟨Nat.le_of_ble_eq_true rfl, Nat.le_of_ble_eq_true rfl⟩) (hts _ fX3_degreeOf_1) rfl hl.1 rfl (Nat.le_of_ble_eq_true rfl) dX3_degreeOf_5) hP hS hA (fun H locs hP hS => ?_)
  have he := Option.some.inj hq
  subst he
  exact hE H locs _ _ _ rfl dX3_degreeOf_8 hP hD hS
abbrev rm_X7_columnAt : Room := { frames := 0, cells := 0, slots := 0, locals := 0 }
set_option maxHeartbeats 4000000 in
set_option maxRecDepth 100000 in
theorem mtX7_columnAt (l : Launch) (D : va_G) (cI cB cR : ClassId) (sz : Nat) (a0 : Int32) (res : Int32) (hf : fX7_columnAt a0 = res) : Met l yX7_columnAt wsX7_columnAt rm_X7_columnAt (qP D cI cB cR [.int a0] ([] : va_W) sz) (qI D res ([] : va_W) ([] : va_W) sz) 0 0 (va_A ([] : va_W) sz) := by
  refine entI (plainFor_of_name (by decide)) rfl (Nat.le_of_ble_eq_true rfl) ?_
  intro p e s m args below meth c Q A ls S hG hP hD hA hl hE
  obtain ⟨hx, hb, hml, hown, hts⟩ := S
  have hown : s.vm.findClass RX7 = some m.cls := hown
  have hS : va_S A s.heap s.heap [] := va_S.rf
  have hl : lv_has ls 1 [(0, .int a0)] := hl
  have hq := hf
  unfold fX7_columnAt at hq
  obtain ⟨H, hH⟩ : ∃ H, H = s.heap := ⟨_, rfl⟩
  obtain ⟨locs, hlo⟩ : ∃ L : List Loc, L = [] := ⟨_, rfl⟩
  have hP : va_P D cls9 ([] : va_W) H := hH ▸ hP
  have hS : va_S A s.heap H locs := by rw [hH, hlo]; exact hS
  suffices hg : W p l e rm_X7_columnAt s m args below meth c H locs 0 0 Q (F0 m 0 ls []) by rw [hH, hlo] at hg; exact hg
  refine lv_iload_n hx hb dX7_columnAt_0 rfl (lv_at hl 0 rfl) ?_
  refine lv_iconst (v := -1) hx hb dX7_columnAt_1 (by decide) ?_
  refine lv_icmp_ne (tgt := 9) hx hb dX7_columnAt_2 (by decide) (fun c_1 => ?_) (fun c_1 => ?_)
  · have hq := it_f c_1 hq
    refine lv_iload_n hx hb dX7_columnAt_9 rfl (lv_at hl 0 rfl) ?_
    refine lv_iconst (v := 3) hx hb dX7_columnAt_10 (by decide) ?_
    refine lv_irem hx hb dX7_columnAt_11 (by decide) ?_
    refine lv_asi (y := (rem32 a0 (3 : Int32))) rfl ?_
    have he := hq
    subst he
    exact hE H locs _ _ _ rfl dX7_columnAt_12 hP hD hS
  · have hq := it_t c_1 hq
    refine lv_iconst (v := -1) hx hb dX7_columnAt_5 (by decide) ?_
    refine lv_goto (tgt := 12) hx hb dX7_columnAt_6 (by decide) ?_
    have he := hq
    subst he
    exact hE H locs _ _ _ rfl dX7_columnAt_12 hP hD hS
abbrev rm_X3_pivotOf : Room := { frames := 2, cells := 0, slots := 0, locals := 47 }
theorem fX3_pivotOf_0 : Cond.initialized RX7 ∈ wsX3_pivotOf := (List.mem_cons_of_mem _ (List.mem_append_left _ (List.mem_of_getElem? (i := 15) rfl)))
theorem fX3_pivotOf_1 : Cond.static yX7_columnAt ∈ wsX3_pivotOf := (List.mem_cons_of_mem _ (List.mem_append_left _ (List.mem_of_getElem? (i := 14) rfl)))
set_option maxHeartbeats 4000000 in
set_option maxRecDepth 100000 in
theorem mtX3_pivotOf (l : Launch) (D : va_G) (cI cB cR : ClassId) (ah : Nat) (an : Nat) (sz : Nat) (L : Nat) (room : Int32) (width : Int32) (powers : Int32) (pp : Int32) (columns : Int32) (count : Int32) (num : Nat → Int32) (a0 : Int32) (res : Int32) (hf : fX3_pivotOf L room width powers columns num a0 = some res) : Met l yX3_pivotOf wsX3_pivotOf rm_X3_pivotOf (qP D cI cB cR [.ref ah, .int a0] (wR cI ah an L room width powers pp columns count num) sz) (qI D res (wR cI ah an L room width powers pp columns count num) (wR cI ah an L room width powers pp columns count num) sz) 0 0 (va_A (wR cI ah an L room width powers pp columns count num) sz) := by
  refine entI (plainFor_of_name (by decide)) rfl (Nat.le_of_ble_eq_true rfl) ?_
  intro p e s m args below meth c Q A ls S hG hP hD hA hl hE
  obtain ⟨hx, hb, hml, hown, hts⟩ := S
  have hown : s.vm.findClass RX3 = some m.cls := hown
  have hS : va_S A s.heap s.heap [] := va_S.rf
  have hl : lv_has ls 2 [(0, .ref ah), (1, .int a0)] := hl
  have hq := hf
  unfold fX3_pivotOf at hq
  obtain ⟨H, hH⟩ : ∃ H, H = s.heap := ⟨_, rfl⟩
  obtain ⟨locs, hlo⟩ : ∃ L : List Loc, L = [] := ⟨_, rfl⟩
  have hP : va_P D cls9 (wR cI ah an L room width powers pp columns count num) H := hH ▸ hP
  have hS : va_S A s.heap H locs := by rw [hH, hlo]; exact hS
  suffices hg : W p l e rm_X3_pivotOf s m args below meth c H locs 0 0 Q (F0 m 0 ls []) by rw [hH, hlo] at hg; exact hg
  refine lv_aload_n hx hb dX3_pivotOf_0 rfl (lv_at hl 0 rfl) ?_
  refine lv_iload_n hx hb dX3_pivotOf_1 rfl (lv_at hl 1 rfl) ?_
  obtain ⟨v_3, hq_2, hk⟩ := bd1_s hq
  obtain ⟨r_1, rfl⟩ : ∃ y, y = v_3 := ⟨_, rfl⟩
  have hq := hk _ rfl
  refine callIA (gV (rest := []) ⟨hx, hb, hml, hown, hts⟩ hG hP hD 0 3 rfl rfl (mtX3_placeOf l D cI cB cR ah an H.size L room width powers pp columns count num a0 r_1 hq_2) (cwV 1 hts gX3_pivotOf_X3_placeOf rfl rfl rfl ⟨rfl, hd_X3_placeOf⟩ ⟨Nat.le_of_ble_eq_true rfl, Nat.le_of_ble_eq_true rfl⟩) rfl hl.1 rfl (Nat.le_of_ble_eq_true rfl) dX3_pivotOf_2) hD hS hA (fun H locs hP hD hS => ?_)
  have hP : va_P D cls9 (wR cI ah an L room width powers pp columns count num) H := hP
  have hD : va_D A (wR cI ah an L room width powers pp columns count num) := hD
  refine callI0 (gSN (rest := []) ⟨hx, hb, hml, hown, hts⟩ hG vaP0 (vaD0 (A := A)) (mtX7_columnAt l D cI cB cR H.size r_1 _ rfl) (va_cnB (host := "PopovRows") 1 hts gX3_pivotOf_X7_columnAt_n75 rfl rfl rfl (hG.2 _ nl_10) (hts _ fX3_pivotOf_0) hd_X7_columnAt ⟨Nat.le_of_ble_eq_true rfl, Nat.le_of_ble_eq_true rfl⟩) (hts _ fX3_pivotOf_1) rfl hl.1 rfl (Nat.le_of_ble_eq_true rfl) dX3_pivotOf_5) hP hS hA (fun H locs hP hS => ?_)
  have he := Option.some.inj hq
  subst he
  exact hE H locs _ _ _ rfl dX3_pivotOf_8 hP hD hS
abbrev rm_X3_leadOf : Room := { frames := 2, cells := 0, slots := 0, locals := 47 }
theorem fX3_leadOf_0 : Cond.initialized RX7 ∈ wsX3_leadOf := (List.mem_cons_of_mem _ (List.mem_append_left _ (List.mem_of_getElem? (i := 15) rfl)))
theorem fX3_leadOf_1 : Cond.static yX7_columnAt ∈ wsX3_leadOf := (List.mem_cons_of_mem _ (List.mem_append_left _ (List.mem_of_getElem? (i := 14) rfl)))
theorem fX3_leadOf_2 : Cond.static yX7_powerAt ∈ wsX3_leadOf := (List.mem_cons_of_mem _ (List.mem_append_left _ (List.mem_of_getElem? (i := 17) rfl)))
set_option maxHeartbeats 4000000 in
set_option maxRecDepth 100000 in
theorem mtX3_leadOf (l : Launch) (D : va_G) (cI cB cR : ClassId) (ah : Nat) (an : Nat) (sz : Nat) (L : Nat) (room : Int32) (width : Int32) (powers : Int32) (pp : Int32) (columns : Int32) (count : Int32) (num : Nat → Int32) (a0 : Int32) (res : Int32) (hf : fX3_leadOf L room width powers columns num a0 = some res) : Met l yX3_leadOf wsX3_leadOf rm_X3_leadOf (qP D cI cB cR [.ref ah, .int a0] (wR cI ah an L room width powers pp columns count num) sz) (qI D res (wR cI ah an L room width powers pp columns count num) (wR cI ah an L room width powers pp columns count num) sz) 0 0 (va_A (wR cI ah an L room width powers pp columns count num) sz) := by
  refine entI (plainFor_of_name (by decide)) rfl (Nat.le_of_ble_eq_true rfl) ?_
  intro p e s m args below meth c Q A ls S hG hP hD hA hl hE
  obtain ⟨hx, hb, hml, hown, hts⟩ := S
  have hown : s.vm.findClass RX3 = some m.cls := hown
  have hS : va_S A s.heap s.heap [] := va_S.rf
  have hl : lv_has ls 3 [(0, .ref ah), (1, .int a0)] := hl
  have hq := hf
  unfold fX3_leadOf at hq
  obtain ⟨H, hH⟩ : ∃ H, H = s.heap := ⟨_, rfl⟩
  obtain ⟨locs, hlo⟩ : ∃ L : List Loc, L = [] := ⟨_, rfl⟩
  have hP : va_P D cls9 (wR cI ah an L room width powers pp columns count num) H := hH ▸ hP
  have hS : va_S A s.heap H locs := by rw [hH, hlo]; exact hS
  suffices hg : W p l e rm_X3_leadOf s m args below meth c H locs 0 0 Q (F0 m 0 ls []) by rw [hH, hlo] at hg; exact hg
  refine lv_aload_n hx hb dX3_leadOf_0 rfl (lv_at hl 0 rfl) ?_
  refine lv_iload_n hx hb dX3_leadOf_1 rfl (lv_at hl 1 rfl) ?_
  obtain ⟨v_3, hq_2, hk⟩ := bd1_s hq
  obtain ⟨r_1, rfl⟩ : ∃ y, y = v_3 := ⟨_, rfl⟩
  have hq := hk _ rfl
  refine callIA (gV (rest := []) ⟨hx, hb, hml, hown, hts⟩ hG hP hD 0 3 rfl rfl (mtX3_placeOf l D cI cB cR ah an H.size L room width powers pp columns count num a0 r_1 hq_2) (cwV 1 hts gX3_leadOf_X3_placeOf rfl rfl rfl ⟨rfl, hd_X3_placeOf⟩ ⟨Nat.le_of_ble_eq_true rfl, Nat.le_of_ble_eq_true rfl⟩) rfl hl.1 rfl (Nat.le_of_ble_eq_true rfl) dX3_leadOf_2) hD hS hA (fun H locs hP hD hS => ?_)
  have hP : va_P D cls9 (wR cI ah an L room width powers pp columns count num) H := hP
  have hD : va_D A (wR cI ah an L room width powers pp columns count num) := hD
  refine lv_istore_n (lv' := [(2, .int r_1), (0, .ref ah), (1, .int a0)]) hx hb dX3_leadOf_5 rfl hl (by decide) rfl (fun ls hl => ?_)
  refine lv_aload_n hx hb dX3_leadOf_6 rfl (lv_at hl 1 rfl) ?_
  refine lv_iload_n hx hb dX3_leadOf_7 rfl (lv_at hl 2 rfl) ?_
  refine lv_iload_n hx hb dX3_leadOf_8 rfl (lv_at hl 0 rfl) ?_
  refine callI0 (gSN (rest := [.int a0, .ref ah]) ⟨hx, hb, hml, hown, hts⟩ hG vaP0 (vaD0 (A := A)) (mtX7_columnAt l D cI cB cR H.size r_1 _ rfl) (va_cnB (host := "PopovRows") 1 hts gX3_leadOf_X7_columnAt_n75 rfl rfl rfl (hG.2 _ nl_10) (hts _ fX3_leadOf_0) hd_X7_columnAt ⟨Nat.le_of_ble_eq_true rfl, Nat.le_of_ble_eq_true rfl⟩) (hts _ fX3_leadOf_1) rfl hl.1 rfl (Nat.le_of_ble_eq_true rfl) dX3_leadOf_9) hP hS hA (fun H locs hP hS => ?_)
  refine lv_iload_n hx hb dX3_leadOf_12 rfl (lv_at hl 0 rfl) ?_
  refine callI0 (gSN (rest := [.int (fX7_columnAt r_1), .int a0, .ref ah]) ⟨hx, hb, hml, hown, hts⟩ hG vaP0 (vaD0 (A := A)) (mtX7_powerAt l D cI cB cR H.size r_1 _ rfl) (va_cnB (host := "PopovRows") 1 hts gX3_leadOf_X7_powerAt_n72 rfl rfl rfl (hG.2 _ nl_9) (hts _ fX3_leadOf_0) hd_X7_powerAt ⟨Nat.le_of_ble_eq_true rfl, Nat.le_of_ble_eq_true rfl⟩) (hts _ fX3_leadOf_2) rfl hl.1 rfl (Nat.le_of_ble_eq_true rfl) dX3_leadOf_13) hP hS hA (fun H locs hP hS => ?_)
  obtain ⟨v_6, hq_5, hk⟩ := bd1_s hq
  obtain ⟨r_4, rfl⟩ : ∃ y, y = v_6 := ⟨_, rfl⟩
  have hq := hk _ rfl
  refine callIA (gV (rest := []) ⟨hx, hb, hml, hown, hts⟩ hG hP hD 0 3 rfl rfl (mtX3_at l D cI cB cR ah an H.size L room width powers pp columns count num a0 (fX7_columnAt r_1) (fX7_powerAt r_1) r_4 hq_5) (cwV 3 hts gX3_leadOf_X3_at rfl rfl rfl ⟨rfl, hd_X3_at⟩ ⟨Nat.le_of_ble_eq_true rfl, Nat.le_of_ble_eq_true rfl⟩) rfl hl.1 rfl (Nat.le_of_ble_eq_true rfl) dX3_leadOf_16) hD hS hA (fun H locs hP hD hS => ?_)
  have hP : va_P D cls9 (wR cI ah an L room width powers pp columns count num) H := hP
  have hD : va_D A (wR cI ah an L room width powers pp columns count num) := hD
  have he := Option.some.inj hq
  subst he
  exact hE H locs _ _ _ rfl dX3_leadOf_19 hP hD hS
abbrev rm_X3_hasEntriesOf : Room := { frames := 1, cells := 0, slots := 0, locals := 24 }
theorem iX3_hasEntriesOf_X3 : ∀ w ∈ wsX30, w ∈ wsX3_hasEntriesOf := fun _ h => (List.mem_cons_of_mem _ (List.mem_append_right _ h))
theorem fX3_hasEntriesOf_1 : Cond.fieldLink RX3 37 "PopovRows$Rows" "count" "I" ∈ wsX3_hasEntriesOf := (List.mem_cons_of_mem _ (List.mem_append_left _ (List.mem_of_getElem? (i := 0) rfl)))
theorem fX3_hasEntriesOf_2 : Cond.fieldLink RX3 15 "PopovRows$Rows" "columns" "I" ∈ wsX3_hasEntriesOf := (List.mem_cons_of_mem _ (List.mem_append_left _ (List.mem_of_getElem? (i := 1) rfl)))
set_option maxHeartbeats 4000000 in
set_option maxRecDepth 100000 in
theorem mtX3_hasEntriesOf (l : Launch) (D : va_G) (cI cB cR : ClassId) (ah : Nat) (an : Nat) (qah : Nat) (qan : Nat) (sz : Nat) (L : Nat) (room : Int32) (width : Int32) (powers : Int32) (pp : Int32) (columns : Int32) (count : Int32) (num : Nat → Int32) (qL : Nat) (qroom : Int32) (qwidth : Int32) (qpowers : Int32) (qpp : Int32) (qcolumns : Int32) (qcount : Int32) (qnum : Nat → Int32) (res : Int32) (hf : fX3_hasEntriesOf L room width powers columns count num qL qroom qwidth qpowers qcount qnum = some res) : Met l yX3_hasEntriesOf wsX3_hasEntriesOf rm_X3_hasEntriesOf (qP D cI cB cR [.ref ah, .ref qah] ((wR cI ah an L room width powers pp columns count num) ++ (wR cI qah qan qL qroom qwidth qpowers qpp qcolumns qcount qnum)) sz) (qZ D res ((wR cI ah an L room width powers pp columns count num) ++ (wR cI qah qan qL qroom qwidth qpowers qpp qcolumns qcount qnum)) ((wR cI ah an L room width powers pp columns count num) ++ (wR cI qah qan qL qroom qwidth qpowers qpp qcolumns qcount qnum)) sz) 0 0 (va_A ((wR cI ah an L room width powers pp columns count num) ++ (wR cI qah qan qL qroom qwidth qpowers qpp qcolumns qcount qnum)) sz) := by
  refine entZ (plainFor_of_name (by decide)) rfl (Nat.le_of_ble_eq_true rfl) ?_
  intro p e s m args below meth c Q A ls S hG hP hD hA hl hE
  obtain ⟨hx, hb, hml, hown, hts⟩ := S
  have hown : s.vm.findClass RX3 = some m.cls := hown
  have hS : va_S A s.heap s.heap [] := va_S.rf
  have hl : lv_has ls 5 [(0, .ref ah), (1, .ref qah)] := hl
  have hq := hf
  unfold fX3_hasEntriesOf at hq
  obtain ⟨H, hH⟩ : ∃ H, H = s.heap := ⟨_, rfl⟩
  obtain ⟨locs, hlo⟩ : ∃ L : List Loc, L = [] := ⟨_, rfl⟩
  have hP : va_P D cls9 ((wR cI ah an L room width powers pp columns count num) ++ (wR cI qah qan qL qroom qwidth qpowers qpp qcolumns qcount qnum)) H := hH ▸ hP
  have hS : va_S A s.heap H locs := by rw [hH, hlo]; exact hS
  suffices hg : W p l e rm_X3_hasEntriesOf s m args below meth c H locs 0 0 Q (F0 m 0 ls []) by rw [hH, hlo] at hg; exact hg
  refine lv_aload_n hx hb dX3_hasEntriesOf_0 rfl (lv_at hl 0 rfl) ?_
  refine va_get (D := D) (ci := 3) (v := .int count) (C := RX3) (T := TX3) (N := 7) hx hb hts iX3_hasEntriesOf_X3 hown hG.1 hP 0 rfl rfl 6 (by decide) (hts _ fX3_hasEntriesOf_1) (fun _ h9 => h9) rfl dX3_hasEntriesOf_1 ?_
  refine lv_aload_n hx hb dX3_hasEntriesOf_4 rfl (lv_at hl 1 rfl) ?_
  refine va_get (D := D) (ci := 3) (v := .int qcount) (C := RX3) (T := TX3) (N := 7) hx hb hts iX3_hasEntriesOf_X3 hown hG.1 hP 2 rfl rfl 6 (by decide) (hts _ fX3_hasEntriesOf_1) (fun _ h9 => h9) rfl dX3_hasEntriesOf_5 ?_
  refine lv_icmp_eq (tgt := 13) hx hb dX3_hasEntriesOf_8 (by decide) (fun c_1 => ?_) (fun c_1 => ?_)
  · have hq := it_t c_1 hq
    refine lv_iconst (v := 0) hx hb dX3_hasEntriesOf_13 (by decide) ?_
    refine lv_istore_n (lv' := [(2, .int (0 : Int32)), (0, .ref ah), (1, .ref qah)]) hx hb dX3_hasEntriesOf_14 rfl hl (by decide) rfl (fun ls hl => ?_)
    obtain ⟨w1, hw1, hk1, hO1⟩ := bx_s hq
    have hX1 : ∀ (_ : Unit), w1 = .inl () → ∀ (H : Heap) (locs : List Loc), va_P D cls9 ((wR cI ah an L room width powers pp columns count num) ++ (wR cI qah qan qL qroom qwidth qpowers qpp qcolumns qcount qnum)) H → va_D A ((wR cI ah an L room width powers pp columns count num) ++ (wR cI qah qan qL qroom qwidth qpowers qpp qcolumns qcount qnum)) → va_S A s.heap H locs → ∀ (ls : Array Slot), lv_has ls 5 [] → W p l e rm_X3_hasEntriesOf s m args below meth c H locs 0 0 Q (F0 m 82 ls []) := by
      intro _ hq H locs hP hD hS ls hl
      have hq := hk1 _ hq
      refine lv_iconst (v := 1) hx hb dX3_hasEntriesOf_82 (by decide) ?_
      have he := Option.some.inj hq
      subst he
      exact hE H locs _ _ _ rfl (Or.inr rfl) dX3_hasEntriesOf_83 hP hD hS
    have hL1 : ∀ (n : Nat) (i_2 : Int32), lrun (fun (z : Int32) => fX3_hasEntriesOf_s15 L room width powers columns count num qL qroom qwidth qpowers qnum z) n i_2 = some w1 → ∀ (H : Heap) (locs : List Loc), va_P D cls9 ((wR cI ah an L room width powers pp columns count num) ++ (wR cI qah qan qL qroom qwidth qpowers qpp qcolumns qcount qnum)) H → va_D A ((wR cI ah an L room width powers pp columns count num) ++ (wR cI qah qan qL qroom qwidth qpowers qpp qcolumns qcount qnum)) → va_S A s.heap H locs → ∀ (ls : Array Slot), lv_has ls 5 [(0, .ref ah), (1, .ref qah), (2, .int i_2)] → W p l e rm_X3_hasEntriesOf s m args below meth c H locs 0 0 Q (F0 m 15 ls []) := by
      intro n
      induction n with
      | zero => intro i_2 h; cases h
      | succ n ih1 =>
        intro i_2 hr1 H locs hP hD hS ls hl
        obtain ⟨k, v1, hk, hr1, ht1, hv1⟩ := lrun_s hr1
        cases hk
        have hr1 : fX3_hasEntriesOf_s15 L room width powers columns count num qL qroom qwidth qpowers qnum i_2 = some v1 := hr1
        unfold fX3_hasEntriesOf_s15 at hr1
        refine lv_iload_n hx hb dX3_hasEntriesOf_15 rfl (lv_at hl 2 rfl) ?_
        refine lv_aload_n hx hb dX3_hasEntriesOf_16 rfl (lv_at hl 0 rfl) ?_
        refine va_get (D := D) (ci := 3) (v := .int count) (C := RX3) (T := TX3) (N := 7) hx hb hts iX3_hasEntriesOf_X3 hown hG.1 hP 0 rfl rfl 6 (by decide) (hts _ fX3_hasEntriesOf_1) (fun _ h9 => h9) rfl dX3_hasEntriesOf_17 ?_
        refine lv_icmp_ge (tgt := 82) hx hb dX3_hasEntriesOf_20 (by decide) (fun c_3 => ?_) (fun c_3 => ?_)
        · have hr1 := it_t c_3 hr1
          exact hX1 () (hv1 _ (Option.some.inj hr1).symm).symm H locs hP hD hS ls (lv_sub hl [] rfl)
        · have hr1 := it_f c_3 hr1
          refine lv_iconst (v := 0) hx hb dX3_hasEntriesOf_23 (by decide) ?_
          refine lv_istore_n (lv' := [(3, .int (0 : Int32)), (0, .ref ah), (1, .ref qah), (2, .int i_2)]) hx hb dX3_hasEntriesOf_24 rfl hl (by decide) rfl (fun ls hl => ?_)
          obtain ⟨w2, hw2, hk2, hO2⟩ := bx_s hr1
          have hX2 : ∀ (_ : Unit), w2 = .inl () → ∀ (H : Heap) (locs : List Loc), va_P D cls9 ((wR cI ah an L room width powers pp columns count num) ++ (wR cI qah qan qL qroom qwidth qpowers qpp qcolumns qcount qnum)) H → va_D A ((wR cI ah an L room width powers pp columns count num) ++ (wR cI qah qan qL qroom qwidth qpowers qpp qcolumns qcount qnum)) → va_S A s.heap H locs → ∀ (ls : Array Slot), lv_has ls 5 [(0, .ref ah), (1, .ref qah), (2, .int i_2)] → W p l e rm_X3_hasEntriesOf s m args below meth c H locs 0 0 Q (F0 m 76 ls []) := by
            intro _ hq H locs hP hD hS ls hl
            have hr1 := hk2 _ hq
            refine lv_iinc (v := (i_2 + 1)) (lv' := [(2, .int (i_2 + 1)), (0, .ref ah), (1, .ref qah)]) hx hb dX3_hasEntriesOf_76 hl (k := 2) rfl rfl (by decide) rfl (fun ls hl => ?_)
            refine lv_goto (tgt := 15) hx hb dX3_hasEntriesOf_79 (by decide) ?_
            exact ih1 (i_2 + 1) (ht1 _ (Option.some.inj hr1).symm) H locs hP hD hS ls (lv_sub hl [1, 2, 0] rfl)
          have hL2 : ∀ (n : Nat) (i_4 : Int32), lrun (fun (z : Int32) => fX3_hasEntriesOf_s25 L room width powers columns num qL qroom qwidth qpowers qnum i_2 z) n i_4 = some w2 → ∀ (H : Heap) (locs : List Loc), va_P D cls9 ((wR cI ah an L room width powers pp columns count num) ++ (wR cI qah qan qL qroom qwidth qpowers qpp qcolumns qcount qnum)) H → va_D A ((wR cI ah an L room width powers pp columns count num) ++ (wR cI qah qan qL qroom qwidth qpowers qpp qcolumns qcount qnum)) → va_S A s.heap H locs → ∀ (ls : Array Slot), lv_has ls 5 [(0, .ref ah), (1, .ref qah), (2, .int i_2), (3, .int i_4)] → W p l e rm_X3_hasEntriesOf s m args below meth c H locs 0 0 Q (F0 m 25 ls []) := by
            intro n
            induction n with
            | zero => intro i_4 h; cases h
            | succ n ih2 =>
              intro i_4 hr2 H locs hP hD hS ls hl
              obtain ⟨k, v2, hk, hr2, ht2, hv2⟩ := lrun_s hr2
              cases hk
              have hr2 : fX3_hasEntriesOf_s25 L room width powers columns num qL qroom qwidth qpowers qnum i_2 i_4 = some v2 := hr2
              unfold fX3_hasEntriesOf_s25 at hr2
              refine lv_iload_n hx hb dX3_hasEntriesOf_25 rfl (lv_at hl 3 rfl) ?_
              refine lv_aload_n hx hb dX3_hasEntriesOf_26 rfl (lv_at hl 0 rfl) ?_
              refine va_get (D := D) (ci := 3) (v := .int columns) (C := RX3) (T := TX3) (N := 7) hx hb hts iX3_hasEntriesOf_X3 hown hG.1 hP 0 rfl rfl 5 (by decide) (hts _ fX3_hasEntriesOf_2) (fun _ h9 => h9) rfl dX3_hasEntriesOf_27 ?_
              refine lv_icmp_ge (tgt := 76) hx hb dX3_hasEntriesOf_30 (by decide) (fun c_5 => ?_) (fun c_5 => ?_)
              · have hr2 := it_t c_5 hr2
                exact hX2 () (hv2 _ (Option.some.inj hr2).symm).symm H locs hP hD hS ls (lv_sub hl [0, 1, 2] rfl)
              · have hr2 := it_f c_5 hr2
                refine lv_iconst (v := 0) hx hb dX3_hasEntriesOf_33 (by decide) ?_
                refine lv_istore (lv' := [(4, .int (0 : Int32)), (0, .ref ah), (1, .ref qah), (2, .int i_2), (3, .int i_4)]) hx hb dX3_hasEntriesOf_34 hl (by decide) rfl (fun ls hl => ?_)
                obtain ⟨w3, hw3, hk3, hO3⟩ := bx_s hr2
                have hX3 : ∀ (_ : Unit), w3 = .inl () → ∀ (H : Heap) (locs : List Loc), va_P D cls9 ((wR cI ah an L room width powers pp columns count num) ++ (wR cI qah qan qL qroom qwidth qpowers qpp qcolumns qcount qnum)) H → va_D A ((wR cI ah an L room width powers pp columns count num) ++ (wR cI qah qan qL qroom qwidth qpowers qpp qcolumns qcount qnum)) → va_S A s.heap H locs → ∀ (ls : Array Slot), lv_has ls 5 [(0, .ref ah), (1, .ref qah), (2, .int i_2), (3, .int i_4)] → W p l e rm_X3_hasEntriesOf s m args below meth c H locs 0 0 Q (F0 m 70 ls []) := by
                  intro _ hq H locs hP hD hS ls hl
                  have hr2 := hk3 _ hq
                  refine lv_iinc (v := (i_4 + 1)) (lv' := [(3, .int (i_4 + 1)), (0, .ref ah), (1, .ref qah), (2, .int i_2)]) hx hb dX3_hasEntriesOf_70 hl (k := 3) rfl rfl (by decide) rfl (fun ls hl => ?_)
                  refine lv_goto (tgt := 25) hx hb dX3_hasEntriesOf_73 (by decide) ?_
                  exact ih2 (i_4 + 1) (ht2 _ (Option.some.inj hr2).symm) H locs hP hD hS ls (lv_sub hl [1, 2, 3, 0] rfl)
                have hL3 : ∀ (n : Nat) (i_6 : Int32), lrun (fun (z : Int32) => fX3_hasEntriesOf_s36 L room width powers num qL qroom qwidth qpowers qnum i_2 i_4 z) n i_6 = some w3 → ∀ (H : Heap) (locs : List Loc), va_P D cls9 ((wR cI ah an L room width powers pp columns count num) ++ (wR cI qah qan qL qroom qwidth qpowers qpp qcolumns qcount qnum)) H → va_D A ((wR cI ah an L room width powers pp columns count num) ++ (wR cI qah qan qL qroom qwidth qpowers qpp qcolumns qcount qnum)) → va_S A s.heap H locs → ∀ (ls : Array Slot), lv_has ls 5 [(0, .ref ah), (1, .ref qah), (2, .int i_2), (3, .int i_4), (4, .int i_6)] → W p l e rm_X3_hasEntriesOf s m args below meth c H locs 0 0 Q (F0 m 36 ls []) := by
                  intro n
                  induction n with
                  | zero => intro i_6 h; cases h
                  | succ n ih3 =>
                    intro i_6 hr3 H locs hP hD hS ls hl
                    obtain ⟨k, v3, hk, hr3, ht3, hv3⟩ := lrun_s hr3
                    cases hk
                    have hr3 : fX3_hasEntriesOf_s36 L room width powers num qL qroom qwidth qpowers qnum i_2 i_4 i_6 = some v3 := hr3
                    unfold fX3_hasEntriesOf_s36 at hr3
                    refine lv_iload hx hb dX3_hasEntriesOf_36 (lv_at hl 4 rfl) ?_
                    refine lv_bipush (v := 6) hx hb dX3_hasEntriesOf_38 (by decide) ?_
                    refine lv_icmp_gt (tgt := 70) hx hb dX3_hasEntriesOf_40 (by decide) (fun c_7 => ?_) (fun c_7 => ?_)
                    · have hr3 := it_t c_7 hr3
                      exact hX3 () (hv3 _ (Option.some.inj hr3).symm).symm H locs hP hD hS ls (lv_sub hl [0, 1, 2, 3] rfl)
                    · have hr3 := it_f c_7 hr3
                      refine lv_aload_n hx hb dX3_hasEntriesOf_43 rfl (lv_at hl 0 rfl) ?_
                      refine lv_iload_n hx hb dX3_hasEntriesOf_44 rfl (lv_at hl 2 rfl) ?_
                      refine lv_iload_n hx hb dX3_hasEntriesOf_45 rfl (lv_at hl 3 rfl) ?_
                      refine lv_iload hx hb dX3_hasEntriesOf_46 (lv_at hl 4 rfl) ?_
                      obtain ⟨v_10, hq_9, hk⟩ := bd1_s hr3
                      obtain ⟨r_8, rfl⟩ : ∃ y, y = v_10 := ⟨_, rfl⟩
                      have hr3 := hk _ rfl
                      have hPc : va_P D cls9 [(ah, .inr (3, [.int room, .int width, .int powers, .ref an, .int pp, .int columns, .int count])), (an, .inl (cI, L, .inl num))] H := hPsub hP [0, 1] rfl
                      have hDc : va_D A [(ah, .inr (3, [.int room, .int width, .int powers, .ref an, .int pp, .int columns, .int count])), (an, .inl (cI, L, .inl num))] := hD.sub [0, 1] (by decide +kernel) rfl
                      refine callIP (wr := [(qah, .inr (3, [.int qroom, .int qwidth, .int qpowers, .ref qan, .int qpp, .int qcolumns, .int qcount])), (qan, .inl (cI, qL, .inl qnum))]) (ws2 := ((wR cI ah an L room width powers pp columns count num) ++ (wR cI qah qan qL qroom qwidth qpowers qpp qcolumns qcount qnum))) (gV (rest := []) ⟨hx, hb, hml, hown, hts⟩ hG hPc hDc 0 3 rfl rfl (mtX3_at l D cI cB cR ah an H.size L room width powers pp columns count num i_2 i_4 i_6 r_8 hq_9) (cwV 3 hts gX3_hasEntriesOf_X3_at rfl rfl rfl ⟨rfl, hd_X3_at⟩ ⟨Nat.le_of_ble_eq_true rfl, Nat.le_of_ble_eq_true rfl⟩) rfl hl.1 rfl (Nat.le_of_ble_eq_true rfl) dX3_hasEntriesOf_48) hP hD hS hA [0, 1] [2, 3] [2, 3, 0, 1] rfl rfl (by decide +kernel) (by decide +kernel) rfl (by decide +kernel) (fun H locs hP hD hS => ?_)
                      refine lv_aload_n hx hb dX3_hasEntriesOf_51 rfl (lv_at hl 1 rfl) ?_
                      refine lv_iload_n hx hb dX3_hasEntriesOf_52 rfl (lv_at hl 2 rfl) ?_
                      refine lv_iload_n hx hb dX3_hasEntriesOf_53 rfl (lv_at hl 3 rfl) ?_
                      refine lv_iload hx hb dX3_hasEntriesOf_54 (lv_at hl 4 rfl) ?_
                      obtain ⟨v_13, hq_12, hk⟩ := bd1_s hr3
                      obtain ⟨r_11, rfl⟩ : ∃ y, y = v_13 := ⟨_, rfl⟩
                      have hr3 := hk _ rfl
                      have hPc : va_P D cls9 [(qah, .inr (3, [.int qroom, .int qwidth, .int qpowers, .ref qan, .int qpp, .int qcolumns, .int qcount])), (qan, .inl (cI, qL, .inl qnum))] H := hPsub hP [2, 3] rfl
                      have hDc : va_D A [(qah, .inr (3, [.int qroom, .int qwidth, .int qpowers, .ref qan, .int qpp, .int qcolumns, .int qcount])), (qan, .inl (cI, qL, .inl qnum))] := hD.sub [2, 3] (by decide +kernel) rfl
                      refine callIP (wr := [(ah, .inr (3, [.int room, .int width, .int powers, .ref an, .int pp, .int columns, .int count])), (an, .inl (cI, L, .inl num))]) (ws2 := ((wR cI ah an L room width powers pp columns count num) ++ (wR cI qah qan qL qroom qwidth qpowers qpp qcolumns qcount qnum))) (gV (rest := [.int r_8]) ⟨hx, hb, hml, hown, hts⟩ hG hPc hDc 0 3 rfl rfl (mtX3_at l D cI cB cR qah qan H.size qL qroom qwidth qpowers qpp qcolumns qcount qnum i_2 i_4 i_6 r_11 hq_12) (cwV 3 hts gX3_hasEntriesOf_X3_at rfl rfl rfl ⟨rfl, hd_X3_at⟩ ⟨Nat.le_of_ble_eq_true rfl, Nat.le_of_ble_eq_true rfl⟩) rfl hl.1 rfl (Nat.le_of_ble_eq_true rfl) dX3_hasEntriesOf_56) hP hD hS hA [2, 3] [0, 1] [0, 1, 2, 3] rfl rfl (by decide +kernel) (by decide +kernel) rfl (by decide +kernel) (fun H locs hP hD hS => ?_)
                      refine lv_icmp_eq (tgt := 64) hx hb dX3_hasEntriesOf_59 (by decide) (fun c_14 => ?_) (fun c_14 => ?_)
                      · have hr3 := it_t c_14 hr3
                        refine lv_iinc (v := (i_6 + 1)) (lv' := [(4, .int (i_6 + 1)), (0, .ref ah), (1, .ref qah), (2, .int i_2), (3, .int i_4)]) hx hb dX3_hasEntriesOf_64 hl (k := 4) rfl rfl (by decide) rfl (fun ls hl => ?_)
                        refine lv_goto (tgt := 36) hx hb dX3_hasEntriesOf_67 (by decide) ?_
                        exact ih3 (i_6 + 1) (ht3 _ (Option.some.inj hr3).symm) H locs hP hD hS ls (lv_sub hl [1, 2, 3, 4, 0] rfl)
                      · have hr3 := it_f c_14 hr3
                        refine lv_iconst (v := 0) hx hb dX3_hasEntriesOf_62 (by decide) ?_
                        have he := (hO1 _ (hv1 _ ((hO2 _ (hv2 _ ((hO3 _ (hv3 _ (Option.some.inj hr3).symm).symm)).symm).symm)).symm).symm)
                        subst he
                        exact hE H locs _ _ _ rfl (Or.inl rfl) dX3_hasEntriesOf_63 hP hD hS
                obtain ⟨n3, hn3⟩ := Lp_s hw3
                exact hL3 n3 (0 : Int32) hn3 H locs hP hD hS ls (lv_sub hl [1, 2, 3, 4, 0] rfl)
          obtain ⟨n2, hn2⟩ := Lp_s hw2
          exact hL2 n2 (0 : Int32) hn2 H locs hP hD hS ls (lv_sub hl [1, 2, 3, 0] rfl)
    obtain ⟨n1, hn1⟩ := Lp_s hw1
    exact hL1 n1 (0 : Int32) hn1 H locs hP hD hS ls (lv_sub hl [1, 2, 0] rfl)
  · have hq := it_f c_1 hq
    refine lv_iconst (v := 0) hx hb dX3_hasEntriesOf_11 (by decide) ?_
    have he := Option.some.inj hq
    subst he
    exact hE H locs _ _ _ rfl (Or.inl rfl) dX3_hasEntriesOf_12 hP hD hS
abbrev rm_X5_measure : Room := { frames := 2, cells := 0, slots := 0, locals := 47 }
theorem iX5_measure_X3 : ∀ w ∈ wsX30, w ∈ wsX5_measure := fun _ h => (List.mem_cons_of_mem _ (List.mem_append_left _ (List.mem_append_right _ h)))
theorem fX5_measure_1 : Cond.fieldLink RX5 15 "PopovRows$Rows" "count" "I" ∈ wsX5_measure := (List.mem_cons_of_mem _ (List.mem_append_left _ (List.mem_append_left _ (List.mem_of_getElem? (i := 0) rfl))))
theorem iX5_measure_X5 : ∀ w ∈ wsX50, w ∈ wsX5_measure := fun _ h => (List.mem_cons_of_mem _ (List.mem_append_right _ h))
theorem fX5_measure_3 : Cond.fieldLink RX5 9 "PopovRows$Shape" "places" "[I" ∈ wsX5_measure := (List.mem_cons_of_mem _ (List.mem_append_left _ (List.mem_append_left _ (List.mem_of_getElem? (i := 1) rfl))))
theorem fX5_measure_4 : Cond.methodLink RX5 21 Lib.Math.min.name ∈ wsX5_measure := (List.mem_cons_of_mem _ (List.mem_append_left _ (List.mem_append_left _ (List.mem_of_getElem? (i := 2) rfl))))
theorem fX5_measure_5 : Cond.static Lib.Math.min.name ∈ wsX5_measure := (List.mem_cons_of_mem _ (List.mem_append_left _ (List.mem_append_left _ (List.mem_of_getElem? (i := 3) rfl))))
theorem fX5_measure_6 : Cond.initialized "java/lang/Math" ∈ wsX5_measure := (List.mem_cons_of_mem _ (List.mem_append_left _ (List.mem_append_left _ (List.mem_of_getElem? (i := 4) rfl))))
theorem fX5_measure_7 : Cond.code Lib.Math.min.name Lib.Math.min.code 2 (some .int) ∈ wsX5_measure := (List.mem_cons_of_mem _ (List.mem_append_left _ (List.mem_append_left _ (List.mem_of_getElem? (i := 5) rfl))))
theorem fX5_measure_8 : Cond.fieldLink RX5 27 "PopovRows$Shape" "count" "I" ∈ wsX5_measure := (List.mem_cons_of_mem _ (List.mem_append_left _ (List.mem_append_left _ (List.mem_of_getElem? (i := 6) rfl))))
set_option maxHeartbeats 4000000 in
set_option maxRecDepth 100000 in
theorem mtX5_measure (l : Launch) (D : va_G) (cI cB cR : ClassId) (ah : Nat) (an : Nat) (qah : Nat) (qan : Nat) (sz : Nat) (count : Int32) (places : Nat → Int32) (qL : Nat) (qroom : Int32) (qwidth : Int32) (qpowers : Int32) (qpp : Int32) (qcolumns : Int32) (qcount : Int32) (qnum : Nat → Int32) (res : Int32 × (Nat → Int32)) (hf : fX5_measure places qL qroom qwidth qpowers qcolumns qcount qnum = some res) : Met l yX5_measure wsX5_measure rm_X5_measure (qP D cI cB cR [.ref ah, .ref qah] ((wSH cI ah an count places) ++ (wR cI qah qan qL qroom qwidth qpowers qpp qcolumns qcount qnum)) sz) (qV D ((wSH cI ah an count places) ++ (wR cI qah qan qL qroom qwidth qpowers qpp qcolumns qcount qnum)) ((wSH cI ah an res.1 res.2) ++ (wR cI qah qan qL qroom qwidth qpowers qpp qcolumns qcount qnum)) sz) 0 0 (va_A ((wSH cI ah an count places) ++ (wR cI qah qan qL qroom qwidth qpowers qpp qcolumns qcount qnum)) sz) := by
  refine entV (plainFor_of_name (by decide)) rfl (Nat.le_of_ble_eq_true rfl) ?_
  intro p e s m args below meth c Q A ls S hG hP hD hA hl hE
  obtain ⟨hx, hb, hml, hown, hts⟩ := S
  have hown : s.vm.findClass RX5 = some m.cls := hown
  have hS : va_S A s.heap s.heap [] := va_S.rf
  have hl : lv_has ls 3 [(0, .ref ah), (1, .ref qah)] := hl
  have hq := hf
  unfold fX5_measure at hq
  obtain ⟨H, hH⟩ : ∃ H, H = s.heap := ⟨_, rfl⟩
  obtain ⟨locs, hlo⟩ : ∃ L : List Loc, L = [] := ⟨_, rfl⟩
  have hP : va_P D cls9 ((wSH cI ah an count places) ++ (wR cI qah qan qL qroom qwidth qpowers qpp qcolumns qcount qnum)) H := hH ▸ hP
  have hS : va_S A s.heap H locs := by rw [hH, hlo]; exact hS
  suffices hg : W p l e rm_X5_measure s m args below meth c H locs 0 0 Q (F0 m 0 ls []) by rw [hH, hlo] at hg; exact hg
  refine lv_aload_n hx hb dX5_measure_0 rfl (lv_at hl 0 rfl) ?_
  refine lv_aload_n hx hb dX5_measure_1 rfl (lv_at hl 1 rfl) ?_
  refine va_get (D := D) (ci := 3) (v := .int qcount) (C := RX3) (T := TX3) (N := 7) hx hb hts iX5_measure_X3 hown hG.1 hP 2 rfl rfl 6 (by decide) (hts _ fX5_measure_1) (fun _ h9 => h9) rfl dX5_measure_2 ?_
  refine lv_aload_n hx hb dX5_measure_5 rfl (lv_at hl 0 rfl) ?_
  refine va_get (D := D) (ci := 5) (v := .ref an) (C := RX5) (T := TX5) (N := 2) hx hb hts iX5_measure_X5 hown hG.1 hP 0 rfl rfl 0 (by decide) (hts _ fX5_measure_3) (fun _ h9 => h9) rfl dX5_measure_6 ?_
  refine va_alen (v := (5 : Int32)) hx hb hG.1 hP 1 0 rfl rfl rfl dX5_measure_9 ?_
  refine va_mmin hx hb (hml.trans hl.1.symm) hown (hts _ fX5_measure_4) (hts _ fX5_measure_5) (hts _ fX5_measure_6) (hts _ fX5_measure_7) (Nat.le_of_ble_eq_true rfl) (Nat.le_of_ble_eq_true rfl) (Nat.zero_le _) (Nat.zero_le _) dX5_measure_10 ?_
  refine lv_asi (y := (min32 qcount (5 : Int32))) rfl ?_
  refine va_put (D := D) (ci := 5) (v := .int (min32 qcount (5 : Int32))) (ty := .int) (C := RX5) (T := TX5) (N := 2) hx hb hts iX5_measure_X5 tyX5 tyX5_ok nmX5 hown hG.1 hP hD hS 0 rfl rfl 1 (by decide) (hts _ fX5_measure_8) (fun _ h9 => h9) rfl (by decide +kernel) rfl rfl (Nat.le_of_ble_eq_true rfl) dX5_measure_13 (fun H locs hP hD hS => ?_)
  have hP : va_P D cls9 ((wSH cI ah an (min32 qcount (5 : Int32)) places) ++ (wR cI qah qan qL qroom qwidth qpowers qpp qcolumns qcount qnum)) H := hP
  have hD : va_D A ((wSH cI ah an (min32 qcount (5 : Int32)) places) ++ (wR cI qah qan qL qroom qwidth qpowers qpp qcolumns qcount qnum)) := hD
  refine lv_iconst (v := 0) hx hb dX5_measure_16 (by decide) ?_
  refine lv_istore_n (lv' := [(2, .int (0 : Int32)), (0, .ref ah), (1, .ref qah)]) hx hb dX5_measure_17 rfl hl (by decide) rfl (fun ls hl => ?_)
  obtain ⟨w1, hw1, hk1⟩ := bd1_s hq
  have hX1 : ∀ (x_9 : Nat → Int32), w1 = x_9 → ∀ (H : Heap) (locs : List Loc), va_P D cls9 ((wSH cI ah an (min32 qcount (5 : Int32)) x_9) ++ (wR cI qah qan qL qroom qwidth qpowers qpp qcolumns qcount qnum)) H → va_D A ((wSH cI ah an (min32 qcount (5 : Int32)) x_9) ++ (wR cI qah qan qL qroom qwidth qpowers qpp qcolumns qcount qnum)) → va_S A s.heap H locs → ∀ (ls : Array Slot), lv_has ls 3 [] → W p l e rm_X5_measure s m args below meth c H locs 0 0 Q (F0 m 52 ls []) := by
    intro x_9 hq H locs hP hD hS ls hl
    have hq := hk1 _ hq
    have he := Option.some.inj hq
    subst he
    exact hE H locs _ _ dX5_measure_52 hP hD hS
  have hL1 : ∀ (n : Nat) (i_1 : Int32) (i_2 : Nat → Int32), lrun (fun (z : Int32 × (Nat → Int32)) => fX5_measure_s18 qL qroom qwidth qpowers qcolumns qcount qnum z.1 z.2) n (i_1, i_2) = some w1 → ∀ (H : Heap) (locs : List Loc), va_P D cls9 ((wSH cI ah an (min32 qcount (5 : Int32)) i_2) ++ (wR cI qah qan qL qroom qwidth qpowers qpp qcolumns qcount qnum)) H → va_D A ((wSH cI ah an (min32 qcount (5 : Int32)) i_2) ++ (wR cI qah qan qL qroom qwidth qpowers qpp qcolumns qcount qnum)) → va_S A s.heap H locs → ∀ (ls : Array Slot), lv_has ls 3 [(0, .ref ah), (1, .ref qah), (2, .int i_1)] → W p l e rm_X5_measure s m args below meth c H locs 0 0 Q (F0 m 18 ls []) := by
    intro n
    induction n with
    | zero => intro i_1 i_2 h; cases h
    | succ n ih1 =>
      intro i_1 i_2 hr1 H locs hP hD hS ls hl
      obtain ⟨k, v1, hk, hr1, ht1, hv1⟩ := lrun_s hr1
      cases hk
      have hr1 : fX5_measure_s18 qL qroom qwidth qpowers qcolumns qcount qnum i_1 i_2 = some v1 := hr1
      unfold fX5_measure_s18 at hr1
      refine lv_iload_n hx hb dX5_measure_18 rfl (lv_at hl 2 rfl) ?_
      refine lv_aload_n hx hb dX5_measure_19 rfl (lv_at hl 0 rfl) ?_
      refine va_get (D := D) (ci := 5) (v := .int (min32 qcount (5 : Int32))) (C := RX5) (T := TX5) (N := 2) hx hb hts iX5_measure_X5 hown hG.1 hP 0 rfl rfl 1 (by decide) (hts _ fX5_measure_8) (fun _ h9 => h9) rfl dX5_measure_20 ?_
      refine lv_icmp_ge (tgt := 52) hx hb dX5_measure_23 (by decide) (fun c_3 => ?_) (fun c_3 => ?_)
      · have hr1 := it_t c_3 hr1
        exact hX1 i_2 (hv1 _ (Option.some.inj hr1).symm).symm H locs hP hD hS ls (lv_sub hl [] rfl)
      · have hr1 := it_f c_3 hr1
        refine lv_iload_n hx hb dX5_measure_26 rfl (lv_at hl 2 rfl) ?_
        refine lv_aload_n hx hb dX5_measure_27 rfl (lv_at hl 0 rfl) ?_
        refine va_get (D := D) (ci := 5) (v := .ref an) (C := RX5) (T := TX5) (N := 2) hx hb hts iX5_measure_X5 hown hG.1 hP 0 rfl rfl 0 (by decide) (hts _ fX5_measure_3) (fun _ h9 => h9) rfl dX5_measure_28 ?_
        refine va_alen (v := (5 : Int32)) hx hb hG.1 hP 1 0 rfl rfl rfl dX5_measure_31 ?_
        refine lv_icmp_ge (tgt := 52) hx hb dX5_measure_32 (by decide) (fun c_4 => ?_) (fun c_4 => ?_)
        · have hr1 := it_t c_4 hr1
          exact hX1 i_2 (hv1 _ (Option.some.inj hr1).symm).symm H locs hP hD hS ls (lv_sub hl [] rfl)
        · have hr1 := it_f c_4 hr1
          refine lv_aload_n hx hb dX5_measure_35 rfl (lv_at hl 0 rfl) ?_
          refine va_get (D := D) (ci := 5) (v := .ref an) (C := RX5) (T := TX5) (N := 2) hx hb hts iX5_measure_X5 hown hG.1 hP 0 rfl rfl 0 (by decide) (hts _ fX5_measure_3) (fun _ h9 => h9) rfl dX5_measure_36 ?_
          refine lv_iload_n hx hb dX5_measure_39 rfl (lv_at hl 2 rfl) ?_
          refine lv_aload_n hx hb dX5_measure_40 rfl (lv_at hl 1 rfl) ?_
          refine lv_iload_n hx hb dX5_measure_41 rfl (lv_at hl 2 rfl) ?_
          obtain ⟨v_7, hq_6, hk⟩ := bd1_s hr1
          obtain ⟨r_5, rfl⟩ : ∃ y, y = v_7 := ⟨_, rfl⟩
          have hr1 := hk _ rfl
          have hPc : va_P D cls9 [(qah, .inr (3, [.int qroom, .int qwidth, .int qpowers, .ref qan, .int qpp, .int qcolumns, .int qcount])), (qan, .inl (cI, qL, .inl qnum))] H := hPsub hP [2, 3] rfl
          have hDc : va_D A [(qah, .inr (3, [.int qroom, .int qwidth, .int qpowers, .ref qan, .int qpp, .int qcolumns, .int qcount])), (qan, .inl (cI, qL, .inl qnum))] := hD.sub [2, 3] (by decide +kernel) rfl
          refine callIP (wr := [(ah, .inr (5, [.ref an, .int (min32 qcount (5 : Int32))])), (an, .inl (cI, 5, .inl i_2))]) (ws2 := ((wSH cI ah an (min32 qcount (5 : Int32)) i_2) ++ (wR cI qah qan qL qroom qwidth qpowers qpp qcolumns qcount qnum))) (gV (rest := [.int i_1, .ref an]) ⟨hx, hb, hml, hown, hts⟩ hG hPc hDc 0 3 rfl rfl (mtX3_placeOf l D cI cB cR qah qan H.size qL qroom qwidth qpowers qpp qcolumns qcount qnum i_1 r_5 hq_6) (cwV 1 hts gX5_measure_X3_placeOf rfl rfl rfl ⟨rfl, hd_X3_placeOf⟩ ⟨Nat.le_of_ble_eq_true rfl, Nat.le_of_ble_eq_true rfl⟩) rfl hl.1 rfl (Nat.le_of_ble_eq_true rfl) dX5_measure_42) hP hD hS hA [2, 3] [0, 1] [0, 1, 2, 3] rfl rfl (by decide +kernel) (by decide +kernel) rfl (by decide +kernel) (fun H locs hP hD hS => ?_)
          obtain ⟨h_8, hr1⟩ := gd_s hr1
          refine va_iast hx hb hG.1 hP hD hS 1 0 rfl rfl h_8 dX5_measure_45 (fun H locs hP hD hS => ?_)
          have hP : va_P D cls9 ((wSH cI ah an (min32 qcount (5 : Int32)) (upd i_2 i_1.toNatClampNeg r_5)) ++ (wR cI qah qan qL qroom qwidth qpowers qpp qcolumns qcount qnum)) H := hP
          have hD : va_D A ((wSH cI ah an (min32 qcount (5 : Int32)) (upd i_2 i_1.toNatClampNeg r_5)) ++ (wR cI qah qan qL qroom qwidth qpowers qpp qcolumns qcount qnum)) := hD
          refine lv_iinc (v := (i_1 + 1)) (lv' := [(2, .int (i_1 + 1)), (0, .ref ah), (1, .ref qah)]) hx hb dX5_measure_46 hl (k := 2) rfl rfl (by decide) rfl (fun ls hl => ?_)
          refine lv_goto (tgt := 18) hx hb dX5_measure_49 (by decide) ?_
          exact ih1 (i_1 + 1) (upd i_2 i_1.toNatClampNeg r_5) (ht1 _ (Option.some.inj hr1).symm) H locs hP hD hS ls (lv_sub hl [1, 2, 0] rfl)
  obtain ⟨n1, hn1⟩ := Lp_s hw1
  exact hL1 n1 (0 : Int32) places hn1 H locs hP hD hS ls (lv_sub hl [1, 2, 0] rfl)
abbrev rm_X5_placeAt : Room := { frames := 0, cells := 0, slots := 0, locals := 0 }
theorem iX5_placeAt_X5 : ∀ w ∈ wsX50, w ∈ wsX5_placeAt := fun _ h => (List.mem_cons_of_mem _ (List.mem_append_right _ h))
theorem fX5_placeAt_1 : Cond.fieldLink RX5 9 "PopovRows$Shape" "places" "[I" ∈ wsX5_placeAt := (List.mem_cons_of_mem _ (List.mem_append_left _ (List.mem_of_getElem? (i := 0) rfl)))
set_option maxHeartbeats 4000000 in
set_option maxRecDepth 100000 in
theorem mtX5_placeAt (l : Launch) (D : va_G) (cI cB cR : ClassId) (ah : Nat) (an : Nat) (sz : Nat) (count : Int32) (places : Nat → Int32) (a0 : Int32) (res : Int32) (hf : fX5_placeAt places a0 = some res) : Met l yX5_placeAt wsX5_placeAt rm_X5_placeAt (qP D cI cB cR [.ref ah, .int a0] (wSH cI ah an count places) sz) (qI D res (wSH cI ah an count places) (wSH cI ah an count places) sz) 0 0 (va_A (wSH cI ah an count places) sz) := by
  refine entI (plainFor_of_name (by decide)) rfl (Nat.le_of_ble_eq_true rfl) ?_
  intro p e s m args below meth c Q A ls S hG hP hD hA hl hE
  obtain ⟨hx, hb, hml, hown, hts⟩ := S
  have hown : s.vm.findClass RX5 = some m.cls := hown
  have hS : va_S A s.heap s.heap [] := va_S.rf
  have hl : lv_has ls 2 [(0, .ref ah), (1, .int a0)] := hl
  have hq := hf
  unfold fX5_placeAt at hq
  obtain ⟨H, hH⟩ : ∃ H, H = s.heap := ⟨_, rfl⟩
  obtain ⟨locs, hlo⟩ : ∃ L : List Loc, L = [] := ⟨_, rfl⟩
  have hP : va_P D cls9 (wSH cI ah an count places) H := hH ▸ hP
  have hS : va_S A s.heap H locs := by rw [hH, hlo]; exact hS
  suffices hg : W p l e rm_X5_placeAt s m args below meth c H locs 0 0 Q (F0 m 0 ls []) by rw [hH, hlo] at hg; exact hg
  refine lv_iload_n hx hb dX5_placeAt_0 rfl (lv_at hl 1 rfl) ?_
  refine lv_if_lt (tgt := 22) hx hb dX5_placeAt_1 (by decide) (fun c_1 => ?_) (fun c_1 => ?_)
  · have hq := it_t c_1 hq
    refine lv_iconst (v := -1) hx hb dX5_placeAt_22 (by decide) ?_
    have he := Option.some.inj hq
    subst he
    exact hE H locs _ _ _ rfl dX5_placeAt_23 hP hD hS
  · have hq := it_f c_1 hq
    refine lv_iload_n hx hb dX5_placeAt_4 rfl (lv_at hl 1 rfl) ?_
    refine lv_aload_n hx hb dX5_placeAt_5 rfl (lv_at hl 0 rfl) ?_
    refine va_get (D := D) (ci := 5) (v := .ref an) (C := RX5) (T := TX5) (N := 2) hx hb hts iX5_placeAt_X5 hown hG.1 hP 0 rfl rfl 0 (by decide) (hts _ fX5_placeAt_1) (fun _ h9 => h9) rfl dX5_placeAt_6 ?_
    refine va_alen (v := (5 : Int32)) hx hb hG.1 hP 1 0 rfl rfl rfl dX5_placeAt_9 ?_
    refine lv_icmp_ge (tgt := 22) hx hb dX5_placeAt_10 (by decide) (fun c_2 => ?_) (fun c_2 => ?_)
    · have hq := it_t c_2 hq
      refine lv_iconst (v := -1) hx hb dX5_placeAt_22 (by decide) ?_
      have he := Option.some.inj hq
      subst he
      exact hE H locs _ _ _ rfl dX5_placeAt_23 hP hD hS
    · have hq := it_f c_2 hq
      refine lv_aload_n hx hb dX5_placeAt_13 rfl (lv_at hl 0 rfl) ?_
      refine va_get (D := D) (ci := 5) (v := .ref an) (C := RX5) (T := TX5) (N := 2) hx hb hts iX5_placeAt_X5 hown hG.1 hP 0 rfl rfl 0 (by decide) (hts _ fX5_placeAt_1) (fun _ h9 => h9) rfl dX5_placeAt_14 ?_
      refine lv_iload_n hx hb dX5_placeAt_17 rfl (lv_at hl 1 rfl) ?_
      obtain ⟨h_3, hq⟩ := gd_s hq
      refine va_iald hx hb hG.1 hP 1 0 rfl rfl h_3 dX5_placeAt_18 ?_
      refine lv_goto (tgt := 23) hx hb dX5_placeAt_19 (by decide) ?_
      have he := Option.some.inj hq
      subst he
      exact hE H locs _ _ _ rfl dX5_placeAt_23 hP hD hS
abbrev rm_X5_canStep : Room := { frames := 1, cells := 0, slots := 0, locals := 21 }
theorem fX5_canStep_0 : Cond.initialized RX7 ∈ wsX5_canStep := (List.mem_cons_of_mem _ (List.mem_append_left _ (List.mem_of_getElem? (i := 7) rfl)))
theorem fX5_canStep_1 : Cond.static yX7_columnAt ∈ wsX5_canStep := (List.mem_cons_of_mem _ (List.mem_append_left _ (List.mem_of_getElem? (i := 6) rfl)))
set_option maxHeartbeats 4000000 in
set_option maxRecDepth 100000 in
theorem mtX5_canStep (l : Launch) (D : va_G) (cI cB cR : ClassId) (ah : Nat) (an : Nat) (sz : Nat) (count : Int32) (places : Nat → Int32) (a0 : Int32) (a1 : Int32) (res : Int32) (hf : fX5_canStep places a0 a1 = some res) : Met l yX5_canStep wsX5_canStep rm_X5_canStep (qP D cI cB cR [.ref ah, .int a0, .int a1] (wSH cI ah an count places) sz) (qZ D res (wSH cI ah an count places) (wSH cI ah an count places) sz) 0 0 (va_A (wSH cI ah an count places) sz) := by
  refine entZ (plainFor_of_name (by decide)) rfl (Nat.le_of_ble_eq_true rfl) ?_
  intro p e s m args below meth c Q A ls S hG hP hD hA hl hE
  obtain ⟨hx, hb, hml, hown, hts⟩ := S
  have hown : s.vm.findClass RX5 = some m.cls := hown
  have hS : va_S A s.heap s.heap [] := va_S.rf
  have hl : lv_has ls 5 [(0, .ref ah), (1, .int a0), (2, .int a1)] := hl
  have hq := hf
  unfold fX5_canStep at hq
  obtain ⟨H, hH⟩ : ∃ H, H = s.heap := ⟨_, rfl⟩
  obtain ⟨locs, hlo⟩ : ∃ L : List Loc, L = [] := ⟨_, rfl⟩
  have hP : va_P D cls9 (wSH cI ah an count places) H := hH ▸ hP
  have hS : va_S A s.heap H locs := by rw [hH, hlo]; exact hS
  suffices hg : W p l e rm_X5_canStep s m args below meth c H locs 0 0 Q (F0 m 0 ls []) by rw [hH, hlo] at hg; exact hg
  refine lv_aload_n hx hb dX5_canStep_0 rfl (lv_at hl 0 rfl) ?_
  refine lv_iload_n hx hb dX5_canStep_1 rfl (lv_at hl 1 rfl) ?_
  obtain ⟨v_3, hq_2, hk⟩ := bd1_s hq
  obtain ⟨r_1, rfl⟩ : ∃ y, y = v_3 := ⟨_, rfl⟩
  have hq := hk _ rfl
  refine callIA (gV (rest := []) ⟨hx, hb, hml, hown, hts⟩ hG hP hD 0 5 rfl rfl (mtX5_placeAt l D cI cB cR ah an H.size count places a0 r_1 hq_2) (cwV 1 hts gX5_canStep_X5_placeAt rfl rfl rfl ⟨rfl, hd_X5_placeAt⟩ ⟨Nat.le_of_ble_eq_true rfl, Nat.le_of_ble_eq_true rfl⟩) rfl hl.1 rfl (Nat.le_of_ble_eq_true rfl) dX5_canStep_2) hD hS hA (fun H locs hP hD hS => ?_)
  have hP : va_P D cls9 (wSH cI ah an count places) H := hP
  have hD : va_D A (wSH cI ah an count places) := hD
  refine lv_istore_n (lv' := [(3, .int r_1), (0, .ref ah), (1, .int a0), (2, .int a1)]) hx hb dX5_canStep_5 rfl hl (by decide) rfl (fun ls hl => ?_)
  refine lv_aload_n hx hb dX5_canStep_6 rfl (lv_at hl 1 rfl) ?_
  refine lv_iload_n hx hb dX5_canStep_7 rfl (lv_at hl 3 rfl) ?_
  obtain ⟨v_6, hq_5, hk⟩ := bd1_s hq
  obtain ⟨r_4, rfl⟩ : ∃ y, y = v_6 := ⟨_, rfl⟩
  have hq := hk _ rfl
  refine callIA (gV (rest := []) ⟨hx, hb, hml, hown, hts⟩ hG hP hD 0 5 rfl rfl (mtX5_placeAt l D cI cB cR ah an H.size count places a1 r_4 hq_5) (cwV 1 hts gX5_canStep_X5_placeAt rfl rfl rfl ⟨rfl, hd_X5_placeAt⟩ ⟨Nat.le_of_ble_eq_true rfl, Nat.le_of_ble_eq_true rfl⟩) rfl hl.1 rfl (Nat.le_of_ble_eq_true rfl) dX5_canStep_8) hD hS hA (fun H locs hP hD hS => ?_)
  have hP : va_P D cls9 (wSH cI ah an count places) H := hP
  have hD : va_D A (wSH cI ah an count places) := hD
  refine lv_istore (lv' := [(4, .int r_4), (3, .int r_1), (0, .ref ah), (1, .int a0), (2, .int a1)]) hx hb dX5_canStep_11 hl (by decide) rfl (fun ls hl => ?_)
  refine lv_iload_n hx hb dX5_canStep_13 rfl (lv_at hl 3 rfl) ?_
  refine lv_iload_n hx hb dX5_canStep_14 rfl (lv_at hl 4 rfl) ?_
  obtain ⟨v1, hj1, hk1⟩ := bd1_s hq
  have hJ1 : ∀ (j_12 : Int32), v1 = j_12 → (j_12 = 0 ∨ j_12 = 1) → ∀ (H : Heap) (locs : List Loc), va_P D cls9 (wSH cI ah an count places) H → va_D A (wSH cI ah an count places) → va_S A s.heap H locs → ∀ (ls : Array Slot), lv_has ls 5 [] → W p l e rm_X5_canStep s m args below meth c H locs 0 0 Q (F0 m 52 ls [.int j_12]) := by
    intro j_12 hq zj_12 H locs hP hD hS ls hl
    have hq := hk1 _ hq
    have he := Option.some.inj hq
    subst he
    exact hE H locs _ _ _ rfl zj_12 dX5_canStep_52 hP hD hS
  refine lv_icmp_eq (tgt := 51) hx hb dX5_canStep_15 (by decide) (fun c_7 => ?_) (fun c_7 => ?_)
  · have hj1 := it_t c_7 hj1
    refine lv_iconst (v := 0) hx hb dX5_canStep_51 (by decide) ?_
    exact hJ1 (0 : Int32) (Option.some.inj hj1).symm (Or.inl rfl) H locs hP hD hS ls (lv_sub hl [] rfl)
  · have hj1 := it_f c_7 hj1
    refine lv_iload_n hx hb dX5_canStep_18 rfl (lv_at hl 1 rfl) ?_
    refine lv_iconst (v := -1) hx hb dX5_canStep_19 (by decide) ?_
    refine lv_icmp_eq (tgt := 51) hx hb dX5_canStep_20 (by decide) (fun c_8 => ?_) (fun c_8 => ?_)
    · have hj1 := it_t c_8 hj1
      refine lv_iconst (v := 0) hx hb dX5_canStep_51 (by decide) ?_
      exact hJ1 (0 : Int32) (Option.some.inj hj1).symm (Or.inl rfl) H locs hP hD hS ls (lv_sub hl [] rfl)
    · have hj1 := it_f c_8 hj1
      refine lv_iload hx hb dX5_canStep_23 (lv_at hl 0 rfl) ?_
      refine lv_iconst (v := -1) hx hb dX5_canStep_25 (by decide) ?_
      refine lv_icmp_eq (tgt := 51) hx hb dX5_canStep_26 (by decide) (fun c_9 => ?_) (fun c_9 => ?_)
      · have hj1 := it_t c_9 hj1
        refine lv_iconst (v := 0) hx hb dX5_canStep_51 (by decide) ?_
        exact hJ1 (0 : Int32) (Option.some.inj hj1).symm (Or.inl rfl) H locs hP hD hS ls (lv_sub hl [] rfl)
      · have hj1 := it_f c_9 hj1
        refine lv_iload hx hb dX5_canStep_29 (lv_at hl 0 rfl) ?_
        refine lv_iload_n hx hb dX5_canStep_31 rfl (lv_at hl 1 rfl) ?_
        refine lv_icmp_gt (tgt := 51) hx hb dX5_canStep_32 (by decide) (fun c_10 => ?_) (fun c_10 => ?_)
        · have hj1 := it_t c_10 hj1
          refine lv_iconst (v := 0) hx hb dX5_canStep_51 (by decide) ?_
          exact hJ1 (0 : Int32) (Option.some.inj hj1).symm (Or.inl rfl) H locs hP hD hS ls (lv_sub hl [] rfl)
        · have hj1 := it_f c_10 hj1
          refine lv_iload hx hb dX5_canStep_35 (lv_at hl 0 rfl) ?_
          refine callI0 (gSN (rest := []) ⟨hx, hb, hml, hown, hts⟩ hG vaP0 (vaD0 (A := A)) (mtX7_columnAt l D cI cB cR H.size r_4 _ rfl) (va_cnB (host := "PopovRows") 1 hts gX5_canStep_X7_columnAt_n35 rfl rfl rfl (hG.2 _ nl_11) (hts _ fX5_canStep_0) hd_X7_columnAt ⟨Nat.le_of_ble_eq_true rfl, Nat.le_of_ble_eq_true rfl⟩) (hts _ fX5_canStep_1) rfl hl.1 rfl (Nat.le_of_ble_eq_true rfl) dX5_canStep_37) hP hS hA (fun H locs hP hS => ?_)
          refine lv_iload_n hx hb dX5_canStep_40 rfl (lv_at hl 1 rfl) ?_
          refine callI0 (gSN (rest := [.int (fX7_columnAt r_4)]) ⟨hx, hb, hml, hown, hts⟩ hG vaP0 (vaD0 (A := A)) (mtX7_columnAt l D cI cB cR H.size r_1 _ rfl) (va_cnB (host := "PopovRows") 1 hts gX5_canStep_X7_columnAt_n35 rfl rfl rfl (hG.2 _ nl_11) (hts _ fX5_canStep_0) hd_X7_columnAt ⟨Nat.le_of_ble_eq_true rfl, Nat.le_of_ble_eq_true rfl⟩) (hts _ fX5_canStep_1) rfl hl.1 rfl (Nat.le_of_ble_eq_true rfl) dX5_canStep_41) hP hS hA (fun H locs hP hS => ?_)
          refine lv_icmp_ne (tgt := 51) hx hb dX5_canStep_44 (by decide) (fun c_11 => ?_) (fun c_11 => ?_)
          · have hj1 := it_f c_11 hj1
            refine lv_iconst (v := 0) hx hb dX5_canStep_51 (by decide) ?_
            exact hJ1 (0 : Int32) (Option.some.inj hj1).symm (Or.inl rfl) H locs hP hD hS ls (lv_sub hl [] rfl)
          · have hj1 := it_t c_11 hj1
            refine lv_iconst (v := 1) hx hb dX5_canStep_47 (by decide) ?_
            refine lv_goto (tgt := 52) hx hb dX5_canStep_48 (by decide) ?_
            exact hJ1 (1 : Int32) (Option.some.inj hj1).symm (Or.inr rfl) H locs hP hD hS ls (lv_sub hl [] rfl)
abbrev rm_X5_rowFor : Room := { frames := 1, cells := 0, slots := 0, locals := 21 }
theorem iX5_rowFor_X5 : ∀ w ∈ wsX50, w ∈ wsX5_rowFor := fun _ h => (List.mem_cons_of_mem _ (List.mem_append_right _ h))
theorem fX5_rowFor_1 : Cond.fieldLink RX5 27 "PopovRows$Shape" "count" "I" ∈ wsX5_rowFor := (List.mem_cons_of_mem _ (List.mem_append_left _ (List.mem_of_getElem? (i := 0) rfl)))
theorem fX5_rowFor_2 : Cond.initialized RX7 ∈ wsX5_rowFor := (List.mem_cons_of_mem _ (List.mem_append_left _ (List.mem_of_getElem? (i := 8) rfl)))
theorem fX5_rowFor_3 : Cond.static yX7_columnAt ∈ wsX5_rowFor := (List.mem_cons_of_mem _ (List.mem_append_left _ (List.mem_of_getElem? (i := 7) rfl)))
theorem fX5_rowFor_4 : Cond.static yX7_powerAt ∈ wsX5_rowFor := (List.mem_cons_of_mem _ (List.mem_append_left _ (List.mem_of_getElem? (i := 10) rfl)))
set_option maxHeartbeats 4000000 in
set_option maxRecDepth 100000 in
theorem mtX5_rowFor (l : Launch) (D : va_G) (cI cB cR : ClassId) (ah : Nat) (an : Nat) (sz : Nat) (count : Int32) (places : Nat → Int32) (a0 : Int32) (a1 : Int32) (a2 : Int32) (res : Int32) (hf : fX5_rowFor count places a0 a1 a2 = some res) : Met l yX5_rowFor wsX5_rowFor rm_X5_rowFor (qP D cI cB cR [.ref ah, .int a0, .int a1, .int a2] (wSH cI ah an count places) sz) (qI D res (wSH cI ah an count places) (wSH cI ah an count places) sz) 0 0 (va_A (wSH cI ah an count places) sz) := by
  refine entI (plainFor_of_name (by decide)) rfl (Nat.le_of_ble_eq_true rfl) ?_
  intro p e s m args below meth c Q A ls S hG hP hD hA hl hE
  obtain ⟨hx, hb, hml, hown, hts⟩ := S
  have hown : s.vm.findClass RX5 = some m.cls := hown
  have hS : va_S A s.heap s.heap [] := va_S.rf
  have hl : lv_has ls 6 [(0, .ref ah), (1, .int a0), (2, .int a1), (3, .int a2)] := hl
  have hq := hf
  unfold fX5_rowFor at hq
  obtain ⟨H, hH⟩ : ∃ H, H = s.heap := ⟨_, rfl⟩
  obtain ⟨locs, hlo⟩ : ∃ L : List Loc, L = [] := ⟨_, rfl⟩
  have hP : va_P D cls9 (wSH cI ah an count places) H := hH ▸ hP
  have hS : va_S A s.heap H locs := by rw [hH, hlo]; exact hS
  suffices hg : W p l e rm_X5_rowFor s m args below meth c H locs 0 0 Q (F0 m 0 ls []) by rw [hH, hlo] at hg; exact hg
  refine lv_iconst (v := 0) hx hb dX5_rowFor_0 (by decide) ?_
  refine lv_istore (lv' := [(4, .int (0 : Int32)), (0, .ref ah), (1, .int a0), (2, .int a1), (3, .int a2)]) hx hb dX5_rowFor_1 hl (by decide) rfl (fun ls hl => ?_)
  obtain ⟨w1, hw1, hk1, hO1⟩ := bx_s hq
  have hX1 : ∀ (_ : Unit), w1 = .inl () → ∀ (H : Heap) (locs : List Loc), va_P D cls9 (wSH cI ah an count places) H → va_D A (wSH cI ah an count places) → va_S A s.heap H locs → ∀ (ls : Array Slot), lv_has ls 6 [] → W p l e rm_X5_rowFor s m args below meth c H locs 0 0 Q (F0 m 53 ls []) := by
    intro _ hq H locs hP hD hS ls hl
    have hq := hk1 _ hq
    refine lv_iconst (v := -1) hx hb dX5_rowFor_53 (by decide) ?_
    have he := Option.some.inj hq
    subst he
    exact hE H locs _ _ _ rfl dX5_rowFor_54 hP hD hS
  have hL1 : ∀ (n : Nat) (i_1 : Int32), lrun (fun (z : Int32) => fX5_rowFor_s3 count places a0 a1 a2 z) n i_1 = some w1 → ∀ (H : Heap) (locs : List Loc), va_P D cls9 (wSH cI ah an count places) H → va_D A (wSH cI ah an count places) → va_S A s.heap H locs → ∀ (ls : Array Slot), lv_has ls 6 [(0, .ref ah), (1, .int a0), (2, .int a1), (3, .int a2), (4, .int i_1)] → W p l e rm_X5_rowFor s m args below meth c H locs 0 0 Q (F0 m 3 ls []) := by
    intro n
    induction n with
    | zero => intro i_1 h; cases h
    | succ n ih1 =>
      intro i_1 hr1 H locs hP hD hS ls hl
      obtain ⟨k, v1, hk, hr1, ht1, hv1⟩ := lrun_s hr1
      cases hk
      have hr1 : fX5_rowFor_s3 count places a0 a1 a2 i_1 = some v1 := hr1
      unfold fX5_rowFor_s3 at hr1
      refine lv_iload hx hb dX5_rowFor_3 (lv_at hl 4 rfl) ?_
      refine lv_aload_n hx hb dX5_rowFor_5 rfl (lv_at hl 0 rfl) ?_
      refine va_get (D := D) (ci := 5) (v := .int count) (C := RX5) (T := TX5) (N := 2) hx hb hts iX5_rowFor_X5 hown hG.1 hP 0 rfl rfl 1 (by decide) (hts _ fX5_rowFor_1) (fun _ h9 => h9) rfl dX5_rowFor_6 ?_
      refine lv_icmp_ge (tgt := 53) hx hb dX5_rowFor_9 (by decide) (fun c_2 => ?_) (fun c_2 => ?_)
      · have hr1 := it_t c_2 hr1
        exact hX1 () (hv1 _ (Option.some.inj hr1).symm).symm H locs hP hD hS ls (lv_sub hl [] rfl)
      · have hr1 := it_f c_2 hr1
        refine lv_aload_n hx hb dX5_rowFor_12 rfl (lv_at hl 0 rfl) ?_
        refine lv_iload hx hb dX5_rowFor_13 (lv_at hl 4 rfl) ?_
        obtain ⟨v_5, hq_4, hk⟩ := bd1_s hr1
        obtain ⟨r_3, rfl⟩ : ∃ y, y = v_5 := ⟨_, rfl⟩
        have hr1 := hk _ rfl
        refine callIA (gV (rest := []) ⟨hx, hb, hml, hown, hts⟩ hG hP hD 0 5 rfl rfl (mtX5_placeAt l D cI cB cR ah an H.size count places i_1 r_3 hq_4) (cwV 1 hts gX5_rowFor_X5_placeAt rfl rfl rfl ⟨rfl, hd_X5_placeAt⟩ ⟨Nat.le_of_ble_eq_true rfl, Nat.le_of_ble_eq_true rfl⟩) rfl hl.1 rfl (Nat.le_of_ble_eq_true rfl) dX5_rowFor_15) hD hS hA (fun H locs hP hD hS => ?_)
        have hP : va_P D cls9 (wSH cI ah an count places) H := hP
        have hD : va_D A (wSH cI ah an count places) := hD
        refine lv_istore (lv' := [(5, .int r_3), (0, .ref ah), (1, .int a0), (2, .int a1), (3, .int a2), (4, .int i_1)]) hx hb dX5_rowFor_18 hl (by decide) rfl (fun ls hl => ?_)
        refine lv_iload hx hb dX5_rowFor_20 (lv_at hl 5 rfl) ?_
        refine lv_iload_n hx hb dX5_rowFor_22 rfl (lv_at hl 4 rfl) ?_
        refine lv_icmp_eq (tgt := 47) hx hb dX5_rowFor_23 (by decide) (fun c_6 => ?_) (fun c_6 => ?_)
        · have hr1 := it_t c_6 hr1
          refine lv_iinc (v := (i_1 + 1)) (lv' := [(4, .int (i_1 + 1)), (5, .int r_3), (0, .ref ah), (1, .int a0), (2, .int a1), (3, .int a2)]) hx hb dX5_rowFor_47 hl (k := 5) rfl rfl (by decide) rfl (fun ls hl => ?_)
          refine lv_goto (tgt := 3) hx hb dX5_rowFor_50 (by decide) ?_
          exact ih1 (i_1 + 1) (ht1 _ (Option.some.inj hr1).symm) H locs hP hD hS ls (lv_sub hl [2, 3, 4, 5, 0] rfl)
        · have hr1 := it_f c_6 hr1
          refine lv_iload hx hb dX5_rowFor_26 (lv_at hl 0 rfl) ?_
          refine callI0 (gSN (rest := []) ⟨hx, hb, hml, hown, hts⟩ hG vaP0 (vaD0 (A := A)) (mtX7_columnAt l D cI cB cR H.size r_3 _ rfl) (va_cnB (host := "PopovRows") 1 hts gX5_rowFor_X7_columnAt_n35 rfl rfl rfl (hG.2 _ nl_11) (hts _ fX5_rowFor_2) hd_X7_columnAt ⟨Nat.le_of_ble_eq_true rfl, Nat.le_of_ble_eq_true rfl⟩) (hts _ fX5_rowFor_3) rfl hl.1 rfl (Nat.le_of_ble_eq_true rfl) dX5_rowFor_28) hP hS hA (fun H locs hP hS => ?_)
          refine lv_iload_n hx hb dX5_rowFor_31 rfl (lv_at hl 2 rfl) ?_
          refine lv_icmp_ne (tgt := 47) hx hb dX5_rowFor_32 (by decide) (fun c_7 => ?_) (fun c_7 => ?_)
          · have hr1 := it_f c_7 hr1
            refine lv_iinc (v := (i_1 + 1)) (lv' := [(4, .int (i_1 + 1)), (5, .int r_3), (0, .ref ah), (1, .int a0), (2, .int a1), (3, .int a2)]) hx hb dX5_rowFor_47 hl (k := 5) rfl rfl (by decide) rfl (fun ls hl => ?_)
            refine lv_goto (tgt := 3) hx hb dX5_rowFor_50 (by decide) ?_
            exact ih1 (i_1 + 1) (ht1 _ (Option.some.inj hr1).symm) H locs hP hD hS ls (lv_sub hl [2, 3, 4, 5, 0] rfl)
          · have hr1 := it_t c_7 hr1
            refine lv_iload hx hb dX5_rowFor_35 (lv_at hl 0 rfl) ?_
            refine callI0 (gSN (rest := []) ⟨hx, hb, hml, hown, hts⟩ hG vaP0 (vaD0 (A := A)) (mtX7_powerAt l D cI cB cR H.size r_3 _ rfl) (va_cnB (host := "PopovRows") 1 hts gX5_rowFor_X7_powerAt_n38 rfl rfl rfl (hG.2 _ nl_17) (hts _ fX5_rowFor_2) hd_X7_powerAt ⟨Nat.le_of_ble_eq_true rfl, Nat.le_of_ble_eq_true rfl⟩) (hts _ fX5_rowFor_4) rfl hl.1 rfl (Nat.le_of_ble_eq_true rfl) dX5_rowFor_37) hP hS hA (fun H locs hP hS => ?_)
            refine lv_iload_n hx hb dX5_rowFor_40 rfl (lv_at hl 3 rfl) ?_
            refine lv_icmp_gt (tgt := 47) hx hb dX5_rowFor_41 (by decide) (fun c_8 => ?_) (fun c_8 => ?_)
            · have hr1 := it_t c_8 hr1
              refine lv_iinc (v := (i_1 + 1)) (lv' := [(4, .int (i_1 + 1)), (5, .int r_3), (0, .ref ah), (1, .int a0), (2, .int a1), (3, .int a2)]) hx hb dX5_rowFor_47 hl (k := 5) rfl rfl (by decide) rfl (fun ls hl => ?_)
              refine lv_goto (tgt := 3) hx hb dX5_rowFor_50 (by decide) ?_
              exact ih1 (i_1 + 1) (ht1 _ (Option.some.inj hr1).symm) H locs hP hD hS ls (lv_sub hl [2, 3, 4, 5, 0] rfl)
            · have hr1 := it_f c_8 hr1
              refine lv_iload hx hb dX5_rowFor_44 (lv_at hl 5 rfl) ?_
              have he := (hO1 _ (hv1 _ (Option.some.inj hr1).symm).symm)
              subst he
              exact hE H locs _ _ _ rfl dX5_rowFor_46 hP hD hS
  obtain ⟨n1, hn1⟩ := Lp_s hw1
  exact hL1 n1 (0 : Int32) hn1 H locs hP hD hS ls (lv_sub hl [1, 2, 3, 4, 0] rfl)
abbrev rm_X7_inverse : Room := { frames := 2, cells := 0, slots := 0, locals := 43 }
set_option maxHeartbeats 4000000 in
set_option maxRecDepth 100000 in
theorem mtX7_inverse (l : Launch) (D : va_G) (cI cB cR : ClassId) (sz : Nat) (a0 : Int32) (a1 : Int32) (res : Int32) (hf : fX7_inverse a0 a1 = some res) : Met l yX7_inverse wsX7_inverse rm_X7_inverse (qP D cI cB cR [.int a0, .int a1] ([] : va_W) sz) (qI D res ([] : va_W) ([] : va_W) sz) 0 0 (va_A ([] : va_W) sz) := by
  refine entI (plainFor_of_name (by decide)) rfl (Nat.le_of_ble_eq_true rfl) ?_
  intro p e s m args below meth c Q A ls S hG hP hD hA hl hE
  obtain ⟨hx, hb, hml, hown, hts⟩ := S
  have hown : s.vm.findClass RX7 = some m.cls := hown
  have hS : va_S A s.heap s.heap [] := va_S.rf
  have hl : lv_has ls 3 [(0, .int a0), (1, .int a1)] := hl
  have hq := hf
  unfold fX7_inverse at hq
  obtain ⟨H, hH⟩ : ∃ H, H = s.heap := ⟨_, rfl⟩
  obtain ⟨locs, hlo⟩ : ∃ L : List Loc, L = [] := ⟨_, rfl⟩
  have hP : va_P D cls9 ([] : va_W) H := hH ▸ hP
  have hS : va_S A s.heap H locs := by rw [hH, hlo]; exact hS
  suffices hg : W p l e rm_X7_inverse s m args below meth c H locs 0 0 Q (F0 m 0 ls []) by rw [hH, hlo] at hg; exact hg
  refine lv_iconst (v := 1) hx hb dX7_inverse_0 (by decide) ?_
  refine lv_istore_n (lv' := [(2, .int (1 : Int32)), (0, .int a0), (1, .int a1)]) hx hb dX7_inverse_1 rfl hl (by decide) rfl (fun ls hl => ?_)
  obtain ⟨w1, hw1, hk1, hO1⟩ := bx_s hq
  have hX1 : ∀ (_ : Unit), w1 = .inl () → ∀ (H : Heap) (locs : List Loc), va_P D cls9 ([] : va_W) H → va_D A ([] : va_W) → va_S A s.heap H locs → ∀ (ls : Array Slot), lv_has ls 3 [] → W p l e rm_X7_inverse s m args below meth c H locs 0 0 Q (F0 m 26 ls []) := by
    intro _ hq H locs hP hD hS ls hl
    have hq := hk1 _ hq
    refine lv_iconst (v := 1) hx hb dX7_inverse_26 (by decide) ?_
    have he := Option.some.inj hq
    subst he
    exact hE H locs _ _ _ rfl dX7_inverse_27 hP hD hS
  have hL1 : ∀ (n : Nat) (i_1 : Int32), lrun (fun (z : Int32) => fX7_inverse_s2 a0 a1 z) n i_1 = some w1 → ∀ (H : Heap) (locs : List Loc), va_P D cls9 ([] : va_W) H → va_D A ([] : va_W) → va_S A s.heap H locs → ∀ (ls : Array Slot), lv_has ls 3 [(0, .int a0), (1, .int a1), (2, .int i_1)] → W p l e rm_X7_inverse s m args below meth c H locs 0 0 Q (F0 m 2 ls []) := by
    intro n
    induction n with
    | zero => intro i_1 h; cases h
    | succ n ih1 =>
      intro i_1 hr1 H locs hP hD hS ls hl
      obtain ⟨k, v1, hk, hr1, ht1, hv1⟩ := lrun_s hr1
      cases hk
      have hr1 : fX7_inverse_s2 a0 a1 i_1 = some v1 := hr1
      unfold fX7_inverse_s2 at hr1
      refine lv_iload_n hx hb dX7_inverse_2 rfl (lv_at hl 2 rfl) ?_
      refine lv_iload_n hx hb dX7_inverse_3 rfl (lv_at hl 1 rfl) ?_
      refine lv_icmp_ge (tgt := 26) hx hb dX7_inverse_4 (by decide) (fun c_2 => ?_) (fun c_2 => ?_)
      · have hr1 := it_t c_2 hr1
        exact hX1 () (hv1 _ (Option.some.inj hr1).symm).symm H locs hP hD hS ls (lv_sub hl [] rfl)
      · have hr1 := it_f c_2 hr1
        refine lv_iload_n hx hb dX7_inverse_7 rfl (lv_at hl 0 rfl) ?_
        refine lv_iload_n hx hb dX7_inverse_8 rfl (lv_at hl 2 rfl) ?_
        refine lv_imul hx hb dX7_inverse_9 ?_
        refine lv_iload_n hx hb dX7_inverse_10 rfl (lv_at hl 1 rfl) ?_
        obtain ⟨v_5, hq_4, hk⟩ := bd1_s hr1
        obtain ⟨r_3, rfl⟩ : ∃ y, y = v_5 := ⟨_, rfl⟩
        have hr1 := hk _ rfl
        refine callI0 (gS (rest := []) ⟨hx, hb, hml, hown, hts⟩ hG vaP0 (vaD0 (A := A)) (mtX7_modulo l D cI cB cR H.size (a0 * i_1) a1 r_3 hq_4) (va_cwS 2 hts gX7_inverse_X7_modulo rfl rfl rfl hd_X7_modulo ⟨Nat.le_of_ble_eq_true rfl, Nat.le_of_ble_eq_true rfl⟩) rfl hl.1 rfl (Nat.le_of_ble_eq_true rfl) dX7_inverse_11) hP hS hA (fun H locs hP hS => ?_)
        refine lv_iconst (v := 1) hx hb dX7_inverse_14 (by decide) ?_
        refine lv_icmp_ne (tgt := 20) hx hb dX7_inverse_15 (by decide) (fun c_6 => ?_) (fun c_6 => ?_)
        · have hr1 := it_f c_6 hr1
          refine lv_iinc (v := (i_1 + 1)) (lv' := [(2, .int (i_1 + 1)), (0, .int a0), (1, .int a1)]) hx hb dX7_inverse_20 hl (k := 2) rfl rfl (by decide) rfl (fun ls hl => ?_)
          refine lv_goto (tgt := 2) hx hb dX7_inverse_23 (by decide) ?_
          exact ih1 (i_1 + 1) (ht1 _ (Option.some.inj hr1).symm) H locs hP hD hS ls (lv_sub hl [1, 2, 0] rfl)
        · have hr1 := it_t c_6 hr1
          refine lv_iload_n hx hb dX7_inverse_18 rfl (lv_at hl 2 rfl) ?_
          have he := (hO1 _ (hv1 _ (Option.some.inj hr1).symm).symm)
          subst he
          exact hE H locs _ _ _ rfl dX7_inverse_19 hP hD hS
  obtain ⟨n1, hn1⟩ := Lp_s hw1
  exact hL1 n1 (1 : Int32) hn1 H locs hP hD hS ls (lv_sub hl [1, 2, 0] rfl)
