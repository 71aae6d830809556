abbrev rm_X8_nextOf : Room := { frames := 5, cells := 0, slots := 0, locals := 113 }
set_option maxHeartbeats 4000000 in
set_option maxRecDepth 100000 in
theorem mtX8_nextOf (l : Launch) (D : va_G) (cI cB cR : ClassId) (ad : Nat → Nat) (sz : Nat) (states : Int32) (whyKind : Int32) (whyOrder : Int32) (many : Int32) (wide : Int32) (textLong : Int32) (spot : Int32) (readColumns : Int32) (all : Nat → Int32) (past : Nat → Int32) (refused : Nat → Int32) (work : Nat → Int32) (kept : Nat → Int32) (chosen : Nat → Int32) (across : Nat → Int32) (sum : Nat → Int32) (one : Nat → Int32) (two : Nat → Int32) (base : Nat → Int32) (quotients : Nat → Int32) (text : Nat → Int32) (numbers : Nat → Int32) (entries : Nat → Int32) (before : Nat → Int32) (a0 : Int32) (res : Int32) (hf : fX8_nextOf all a0 = some res) : Met l yX8_nextOf wsX8_nextOf rm_X8_nextOf (qP D cI cB cR [.ref (ad 0), .int a0] (wM cI ad states whyKind whyOrder many wide textLong spot readColumns all past refused work kept chosen across sum one two base quotients text numbers entries before) sz) (qI D res (wM cI ad states whyKind whyOrder many wide textLong spot readColumns all past refused work kept chosen across sum one two base quotients text numbers entries before) (wM cI ad states whyKind whyOrder many wide textLong spot readColumns all past refused work kept chosen across sum one two base quotients text numbers entries before) sz) 0 0 (va_A (wM cI ad states whyKind whyOrder many wide textLong spot readColumns all past refused work kept chosen across sum one two base quotients text numbers entries before) sz) := by
  refine entI (plainFor_of_name (by decide)) rfl (Nat.le_of_ble_eq_true rfl) ?_
  intro p e s m args below meth c Q A ls S hG hP hD hA hl hE
  obtain ⟨hx, hb, hml, hown, hts⟩ := S
  have hown : s.vm.findClass RX8 = some m.cls := hown
  have hS : va_S A s.heap s.heap [] := va_S.rf
  have hl : lv_has ls 6 [(0, .ref (ad 0)), (1, .int a0)] := hl
  have hq := hf
  unfold fX8_nextOf at hq
  obtain ⟨H, hH⟩ : ∃ H, H = s.heap := ⟨_, rfl⟩
  obtain ⟨locs, hlo⟩ : ∃ L : List Loc, L = [] := ⟨_, rfl⟩
  have hP : va_P D cls9 (wM cI ad states whyKind whyOrder many wide textLong spot readColumns all past refused work kept chosen across sum one two base quotients text numbers entries before) H := hH ▸ hP
  have hS : va_S A s.heap H locs := by rw [hH, hlo]; exact hS
  suffices hg : W p l e rm_X8_nextOf s m args below meth c H locs 0 0 Q (F0 m 0 ls []) by rw [hH, hlo] at hg; exact hg
  refine lv_iconst (v := 0) hx hb dX8_nextOf_0 (by decide) ?_
  refine lv_istore_n (lv' := [(2, .int (0 : Int32)), (0, .ref (ad 0)), (1, .int a0)]) hx hb dX8_nextOf_1 rfl hl (by decide) rfl (fun ls hl => ?_)
  obtain ⟨w1, hw1, hk1, hO1⟩ := bx_s hq
  have hX1 : ∀ (_ : Unit), w1 = .inl () → ∀ (H : Heap) (locs : List Loc), va_P D cls9 (wM cI ad states whyKind whyOrder many wide textLong spot readColumns all past refused work kept chosen across sum one two base quotients text numbers entries before) H → va_D A (wM cI ad states whyKind whyOrder many wide textLong spot readColumns all past refused work kept chosen across sum one two base quotients text numbers entries before) → va_S A s.heap H locs → ∀ (ls : Array Slot), lv_has ls 6 [] → W p l e rm_X8_nextOf s m args below meth c H locs 0 0 Q (F0 m 152 ls []) := by
    intro _ hq H locs hP hD hS ls hl
    have hq := hk1 _ hq
    refine lv_iconst (v := -1) hx hb dX8_nextOf_152 (by decide) ?_
    have he := Option.some.inj hq
    subst he
    exact hE H locs _ _ _ rfl dX8_nextOf_153 hP hD hS
  have hL1 : ∀ (n : Nat) (i_1 : Int32), lrun (fun (z : Int32) => fX8_nextOf_s2 all a0 z) n i_1 = some w1 → ∀ (H : Heap) (locs : List Loc), va_P D cls9 (wM cI ad states whyKind whyOrder many wide textLong spot readColumns all past refused work kept chosen across sum one two base quotients text numbers entries before) H → va_D A (wM cI ad states whyKind whyOrder many wide textLong spot readColumns all past refused work kept chosen across sum one two base quotients text numbers entries before) → va_S A s.heap H locs → ∀ (ls : Array Slot), lv_has ls 6 [(0, .ref (ad 0)), (1, .int a0), (2, .int i_1)] → W p l e rm_X8_nextOf s m args below meth c H locs 0 0 Q (F0 m 2 ls []) := by
    intro n
    induction n with
    | zero => intro i_1 h; cases h
    | succ n ih1 =>
      intro i_1 hr1 H locs hP hD hS ls hl
      obtain ⟨k, v1, hk, hr1, ht1, hv1⟩ := lrun_s hr1
      cases hk
      have hr1 : fX8_nextOf_s2 all a0 i_1 = some v1 := hr1
      unfold fX8_nextOf_s2 at hr1
      refine lv_iload_n hx hb dX8_nextOf_2 rfl (lv_at hl 2 rfl) ?_
      refine lv_aload_n hx hb dX8_nextOf_3 rfl (lv_at hl 0 rfl) ?_
      obtain ⟨v_4, hq_3, hk⟩ := bd1_s hr1
      obtain ⟨r_2, rfl⟩ : ∃ y, y = v_4 := ⟨_, rfl⟩
      have hr1 := hk _ rfl
      refine callIA (gV (rest := [.int i_1]) ⟨hx, hb, hml, hown, hts⟩ hG hP hD 0 8 rfl rfl (mtX8_rows l D cI cB cR ad H.size states whyKind whyOrder many wide textLong spot readColumns all past refused work kept chosen across sum one two base quotients text numbers entries before r_2 hq_3) (cwV 0 hts gX8_nextOf_X8_rows rfl rfl rfl ⟨rfl, hd_X8_rows⟩ ⟨Nat.le_of_ble_eq_true rfl, Nat.le_of_ble_eq_true rfl⟩) rfl hl.1 rfl (Nat.le_of_ble_eq_true rfl) dX8_nextOf_4) hD hS hA (fun H locs hP hD hS => ?_)
      have hP : va_P D cls9 (wM cI ad states whyKind whyOrder many wide textLong spot readColumns all past refused work kept chosen across sum one two base quotients text numbers entries before) H := hP
      have hD : va_D A (wM cI ad states whyKind whyOrder many wide textLong spot readColumns all past refused work kept chosen across sum one two base quotients text numbers entries before) := hD
      refine lv_icmp_ge (tgt := 152) hx hb dX8_nextOf_7 (by decide) (fun c_5 => ?_) (fun c_5 => ?_)
      · have hr1 := it_t c_5 hr1
        exact hX1 () (hv1 _ (Option.some.inj hr1).symm).symm H locs hP hD hS ls (lv_sub hl [] rfl)
      · have hr1 := it_f c_5 hr1
        refine lv_iconst (v := 0) hx hb dX8_nextOf_10 (by decide) ?_
        refine lv_istore_n (lv' := [(3, .int (0 : Int32)), (0, .ref (ad 0)), (1, .int a0), (2, .int i_1)]) hx hb dX8_nextOf_11 rfl hl (by decide) rfl (fun ls hl => ?_)
        obtain ⟨w2, hw2, hk2, hO2⟩ := bx_s hr1
        have hX2 : ∀ (_ : Unit), w2 = .inl () → ∀ (H : Heap) (locs : List Loc), va_P D cls9 (wM cI ad states whyKind whyOrder many wide textLong spot readColumns all past refused work kept chosen across sum one two base quotients text numbers entries before) H → va_D A (wM cI ad states whyKind whyOrder many wide textLong spot readColumns all past refused work kept chosen across sum one two base quotients text numbers entries before) → va_S A s.heap H locs → ∀ (ls : Array Slot), lv_has ls 6 [(0, .ref (ad 0)), (1, .int a0), (2, .int i_1)] → W p l e rm_X8_nextOf s m args below meth c H locs 0 0 Q (F0 m 146 ls []) := by
          intro _ hq H locs hP hD hS ls hl
          have hr1 := hk2 _ hq
          refine lv_iinc (v := (i_1 + 1)) (lv' := [(2, .int (i_1 + 1)), (0, .ref (ad 0)), (1, .int a0)]) hx hb dX8_nextOf_146 hl (k := 2) rfl rfl (by decide) rfl (fun ls hl => ?_)
          refine lv_goto (tgt := 2) hx hb dX8_nextOf_149 (by decide) ?_
          exact ih1 (i_1 + 1) (ht1 _ (Option.some.inj hr1).symm) H locs hP hD hS ls (lv_sub hl [1, 2, 0] rfl)
        have hL2 : ∀ (n : Nat) (i_6 : Int32), lrun (fun (z : Int32) => fX8_nextOf_s12 all a0 i_1 z) n i_6 = some w2 → ∀ (H : Heap) (locs : List Loc), va_P D cls9 (wM cI ad states whyKind whyOrder many wide textLong spot readColumns all past refused work kept chosen across sum one two base quotients text numbers entries before) H → va_D A (wM cI ad states whyKind whyOrder many wide textLong spot readColumns all past refused work kept chosen across sum one two base quotients text numbers entries before) → va_S A s.heap H locs → ∀ (ls : Array Slot), lv_has ls 6 [(0, .ref (ad 0)), (1, .int a0), (2, .int i_1), (3, .int i_6)] → W p l e rm_X8_nextOf s m args below meth c H locs 0 0 Q (F0 m 12 ls []) := by
          intro n
          induction n with
          | zero => intro i_6 h; cases h
          | succ n ih2 =>
            intro i_6 hr2 H locs hP hD hS ls hl
            obtain ⟨k, v2, hk, hr2, ht2, hv2⟩ := lrun_s hr2
            cases hk
            have hr2 : fX8_nextOf_s12 all a0 i_1 i_6 = some v2 := hr2
            unfold fX8_nextOf_s12 at hr2
            refine lv_iload_n hx hb dX8_nextOf_12 rfl (lv_at hl 3 rfl) ?_
            refine lv_aload_n hx hb dX8_nextOf_13 rfl (lv_at hl 0 rfl) ?_
            obtain ⟨v_9, hq_8, hk⟩ := bd1_s hr2
            obtain ⟨r_7, rfl⟩ : ∃ y, y = v_9 := ⟨_, rfl⟩
            have hr2 := hk _ rfl
            refine callIA (gV (rest := [.int i_6]) ⟨hx, hb, hml, hown, hts⟩ hG hP hD 0 8 rfl rfl (mtX8_rows l D cI cB cR ad H.size states whyKind whyOrder many wide textLong spot readColumns all past refused work kept chosen across sum one two base quotients text numbers entries before r_7 hq_8) (cwV 0 hts gX8_nextOf_X8_rows rfl rfl rfl ⟨rfl, hd_X8_rows⟩ ⟨Nat.le_of_ble_eq_true rfl, Nat.le_of_ble_eq_true rfl⟩) rfl hl.1 rfl (Nat.le_of_ble_eq_true rfl) dX8_nextOf_14) hD hS hA (fun H locs hP hD hS => ?_)
            have hP : va_P D cls9 (wM cI ad states whyKind whyOrder many wide textLong spot readColumns all past refused work kept chosen across sum one two base quotients text numbers entries before) H := hP
            have hD : va_D A (wM cI ad states whyKind whyOrder many wide textLong spot readColumns all past refused work kept chosen across sum one two base quotients text numbers entries before) := hD
            refine lv_icmp_ge (tgt := 146) hx hb dX8_nextOf_17 (by decide) (fun c_10 => ?_) (fun c_10 => ?_)
            · have hr2 := it_t c_10 hr2
              exact hX2 () (hv2 _ (Option.some.inj hr2).symm).symm H locs hP hD hS ls (lv_sub hl [0, 1, 2] rfl)
            · have hr2 := it_f c_10 hr2
              refine lv_iload_n hx hb dX8_nextOf_20 rfl (lv_at hl 2 rfl) ?_
              refine lv_iload_n hx hb dX8_nextOf_21 rfl (lv_at hl 3 rfl) ?_
              obtain ⟨v3, hj3, hk3⟩ := bd1_s hr2
              have hJ3 : ∀ (j_20 : Int32), v3 = j_20 → (j_20 = 0 ∨ j_20 = 1) → ∀ (H : Heap) (locs : List Loc), va_P D cls9 (wM cI ad states whyKind whyOrder many wide textLong spot readColumns all past refused work kept chosen across sum one two base quotients text numbers entries before) H → va_D A (wM cI ad states whyKind whyOrder many wide textLong spot readColumns all past refused work kept chosen across sum one two base quotients text numbers entries before) → va_S A s.heap H locs → ∀ (ls : Array Slot), lv_has ls 6 [(0, .ref (ad 0)), (1, .int a0), (2, .int i_1), (3, .int i_6)] → W p l e rm_X8_nextOf s m args below meth c H locs 0 0 Q (F0 m 46 ls [.int j_20]) := by
                intro j_20 hq zj_20 H locs hP hD hS ls hl
                have hr2 := hk3 _ hq
                refine lv_istore (lv' := [(4, .int j_20), (0, .ref (ad 0)), (1, .int a0), (2, .int i_1), (3, .int i_6)]) hx hb dX8_nextOf_46 hl (by decide) rfl (fun ls hl => ?_)
                refine lv_iload hx hb dX8_nextOf_48 (lv_at hl 0 rfl) ?_
                refine lv_if_eq (tgt := 140) hx hb dX8_nextOf_50 (by decide) (fun c_21 => ?_) (fun c_21 => ?_)
                · have hr2 := it_t c_21 hr2
                  refine lv_iinc (v := (i_6 + 1)) (lv' := [(3, .int (i_6 + 1)), (4, .int j_20), (0, .ref (ad 0)), (1, .int a0), (2, .int i_1)]) hx hb dX8_nextOf_140 hl (k := 4) rfl rfl (by decide) rfl (fun ls hl => ?_)
                  refine lv_goto (tgt := 12) hx hb dX8_nextOf_143 (by decide) ?_
                  exact ih2 (i_6 + 1) (ht2 _ (Option.some.inj hr2).symm) H locs hP hD hS ls (lv_sub hl [2, 3, 4, 0] rfl)
                · have hr2 := it_f c_21 hr2
                  refine lv_aload_n hx hb dX8_nextOf_53 rfl (lv_at hl 1 rfl) ?_
                  refine lv_iload_n hx hb dX8_nextOf_54 rfl (lv_at hl 3 rfl) ?_
                  obtain ⟨v_24, hq_23, hk⟩ := bd1_s hr2
                  obtain ⟨r_22, rfl⟩ : ∃ y, y = v_24 := ⟨_, rfl⟩
                  have hr2 := hk _ rfl
                  refine callIA (gV (rest := []) ⟨hx, hb, hml, hown, hts⟩ hG hP hD 0 8 rfl rfl (mtX8_pivot l D cI cB cR ad H.size states whyKind whyOrder many wide textLong spot readColumns all past refused work kept chosen across sum one two base quotients text numbers entries before i_1 r_22 hq_23) (cwV 1 hts gX8_nextOf_X8_pivot rfl rfl rfl ⟨rfl, hd_X8_pivot⟩ ⟨Nat.le_of_ble_eq_true rfl, Nat.le_of_ble_eq_true rfl⟩) rfl hl.1 rfl (Nat.le_of_ble_eq_true rfl) dX8_nextOf_55) hD hS hA (fun H locs hP hD hS => ?_)
                  have hP : va_P D cls9 (wM cI ad states whyKind whyOrder many wide textLong spot readColumns all past refused work kept chosen across sum one two base quotients text numbers entries before) H := hP
                  have hD : va_D A (wM cI ad states whyKind whyOrder many wide textLong spot readColumns all past refused work kept chosen across sum one two base quotients text numbers entries before) := hD
                  refine lv_aload_n hx hb dX8_nextOf_58 rfl (lv_at hl 1 rfl) ?_
                  refine lv_iload_n hx hb dX8_nextOf_59 rfl (lv_at hl 4 rfl) ?_
                  obtain ⟨v_27, hq_26, hk⟩ := bd1_s hr2
                  obtain ⟨r_25, rfl⟩ : ∃ y, y = v_27 := ⟨_, rfl⟩
                  have hr2 := hk _ rfl
                  refine callIA (gV (rest := [.int r_22]) ⟨hx, hb, hml, hown, hts⟩ hG hP hD 0 8 rfl rfl (mtX8_pivot l D cI cB cR ad H.size states whyKind whyOrder many wide textLong spot readColumns all past refused work kept chosen across sum one two base quotients text numbers entries before i_6 r_25 hq_26) (cwV 1 hts gX8_nextOf_X8_pivot rfl rfl rfl ⟨rfl, hd_X8_pivot⟩ ⟨Nat.le_of_ble_eq_true rfl, Nat.le_of_ble_eq_true rfl⟩) rfl hl.1 rfl (Nat.le_of_ble_eq_true rfl) dX8_nextOf_60) hD hS hA (fun H locs hP hD hS => ?_)
                  have hP : va_P D cls9 (wM cI ad states whyKind whyOrder many wide textLong spot readColumns all past refused work kept chosen across sum one two base quotients text numbers entries before) H := hP
                  have hD : va_D A (wM cI ad states whyKind whyOrder many wide textLong spot readColumns all past refused work kept chosen across sum one two base quotients text numbers entries before) := hD
                  refine lv_icmp_ne (tgt := 140) hx hb dX8_nextOf_63 (by decide) (fun c_28 => ?_) (fun c_28 => ?_)
                  · have hr2 := it_f c_28 hr2
                    refine lv_iinc (v := (i_6 + 1)) (lv' := [(3, .int (i_6 + 1)), (4, .int j_20), (0, .ref (ad 0)), (1, .int a0), (2, .int i_1)]) hx hb dX8_nextOf_140 hl (k := 4) rfl rfl (by decide) rfl (fun ls hl => ?_)
                    refine lv_goto (tgt := 12) hx hb dX8_nextOf_143 (by decide) ?_
                    exact ih2 (i_6 + 1) (ht2 _ (Option.some.inj hr2).symm) H locs hP hD hS ls (lv_sub hl [2, 3, 4, 0] rfl)
                  · have hr2 := it_t c_28 hr2
                    refine lv_aload_n hx hb dX8_nextOf_66 rfl (lv_at hl 1 rfl) ?_
                    refine lv_iload_n hx hb dX8_nextOf_67 rfl (lv_at hl 4 rfl) ?_
                    obtain ⟨v_31, hq_30, hk⟩ := bd1_s hr2
                    obtain ⟨r_29, rfl⟩ : ∃ y, y = v_31 := ⟨_, rfl⟩
                    have hr2 := hk _ rfl
                    refine callIA (gV (rest := []) ⟨hx, hb, hml, hown, hts⟩ hG hP hD 0 8 rfl rfl (mtX8_degree l D cI cB cR ad H.size states whyKind whyOrder many wide textLong spot readColumns all past refused work kept chosen across sum one two base quotients text numbers entries before i_6 r_29 hq_30) (cwV 1 hts gX8_nextOf_X8_degree rfl rfl rfl ⟨rfl, hd_X8_degree⟩ ⟨Nat.le_of_ble_eq_true rfl, Nat.le_of_ble_eq_true rfl⟩) rfl hl.1 rfl (Nat.le_of_ble_eq_true rfl) dX8_nextOf_68) hD hS hA (fun H locs hP hD hS => ?_)
                    have hP : va_P D cls9 (wM cI ad states whyKind whyOrder many wide textLong spot readColumns all past refused work kept chosen across sum one two base quotients text numbers entries before) H := hP
                    have hD : va_D A (wM cI ad states whyKind whyOrder many wide textLong spot readColumns all past refused work kept chosen across sum one two base quotients text numbers entries before) := hD
                    refine lv_aload_n hx hb dX8_nextOf_71 rfl (lv_at hl 1 rfl) ?_
                    refine lv_iload_n hx hb dX8_nextOf_72 rfl (lv_at hl 3 rfl) ?_
                    obtain ⟨v_34, hq_33, hk⟩ := bd1_s hr2
                    obtain ⟨r_32, rfl⟩ : ∃ y, y = v_34 := ⟨_, rfl⟩
                    have hr2 := hk _ rfl
                    refine callIA (gV (rest := [.int r_29]) ⟨hx, hb, hml, hown, hts⟩ hG hP hD 0 8 rfl rfl (mtX8_degree l D cI cB cR ad H.size states whyKind whyOrder many wide textLong spot readColumns all past refused work kept chosen across sum one two base quotients text numbers entries before i_1 r_32 hq_33) (cwV 1 hts gX8_nextOf_X8_degree rfl rfl rfl ⟨rfl, hd_X8_degree⟩ ⟨Nat.le_of_ble_eq_true rfl, Nat.le_of_ble_eq_true rfl⟩) rfl hl.1 rfl (Nat.le_of_ble_eq_true rfl) dX8_nextOf_73) hD hS hA (fun H locs hP hD hS => ?_)
                    have hP : va_P D cls9 (wM cI ad states whyKind whyOrder many wide textLong spot readColumns all past refused work kept chosen across sum one two base quotients text numbers entries before) H := hP
                    have hD : va_D A (wM cI ad states whyKind whyOrder many wide textLong spot readColumns all past refused work kept chosen across sum one two base quotients text numbers entries before) := hD
                    refine lv_icmp_gt (tgt := 140) hx hb dX8_nextOf_76 (by decide) (fun c_35 => ?_) (fun c_35 => ?_)
                    · have hr2 := it_t c_35 hr2
                      refine lv_iinc (v := (i_6 + 1)) (lv' := [(3, .int (i_6 + 1)), (4, .int j_20), (0, .ref (ad 0)), (1, .int a0), (2, .int i_1)]) hx hb dX8_nextOf_140 hl (k := 4) rfl rfl (by decide) rfl (fun ls hl => ?_)
                      refine lv_goto (tgt := 12) hx hb dX8_nextOf_143 (by decide) ?_
                      exact ih2 (i_6 + 1) (ht2 _ (Option.some.inj hr2).symm) H locs hP hD hS ls (lv_sub hl [2, 3, 4, 0] rfl)
                    · have hr2 := it_f c_35 hr2
                      refine lv_aload_n hx hb dX8_nextOf_79 rfl (lv_at hl 1 rfl) ?_
                      refine lv_aload_n hx hb dX8_nextOf_80 rfl (lv_at hl 1 rfl) ?_
                      refine lv_iload_n hx hb dX8_nextOf_81 rfl (lv_at hl 3 rfl) ?_
                      obtain ⟨v_38, hq_37, hk⟩ := bd1_s hr2
                      obtain ⟨r_36, rfl⟩ : ∃ y, y = v_38 := ⟨_, rfl⟩
                      have hr2 := hk _ rfl
                      refine callIA (gV (rest := [.ref (ad 0)]) ⟨hx, hb, hml, hown, hts⟩ hG hP hD 0 8 rfl rfl (mtX8_lead l D cI cB cR ad H.size states whyKind whyOrder many wide textLong spot readColumns all past refused work kept chosen across sum one two base quotients text numbers entries before i_1 r_36 hq_37) (cwV 1 hts gX8_nextOf_X8_lead rfl rfl rfl ⟨rfl, hd_X8_lead⟩ ⟨Nat.le_of_ble_eq_true rfl, Nat.le_of_ble_eq_true rfl⟩) rfl hl.1 rfl (Nat.le_of_ble_eq_true rfl) dX8_nextOf_82) hD hS hA (fun H locs hP hD hS => ?_)
                      have hP : va_P D cls9 (wM cI ad states whyKind whyOrder many wide textLong spot readColumns all past refused work kept chosen across sum one two base quotients text numbers entries before) H := hP
                      have hD : va_D A (wM cI ad states whyKind whyOrder many wide textLong spot readColumns all past refused work kept chosen across sum one two base quotients text numbers entries before) := hD
                      refine lv_ineg hx hb dX8_nextOf_85 ?_
                      refine lv_aload_n hx hb dX8_nextOf_86 rfl (lv_at hl 1 rfl) ?_
                      refine lv_aload_n hx hb dX8_nextOf_87 rfl (lv_at hl 1 rfl) ?_
                      refine lv_iload_n hx hb dX8_nextOf_88 rfl (lv_at hl 4 rfl) ?_
                      obtain ⟨v_41, hq_40, hk⟩ := bd1_s hr2
                      obtain ⟨r_39, rfl⟩ : ∃ y, y = v_41 := ⟨_, rfl⟩
                      have hr2 := hk _ rfl
                      refine callIA (gV (rest := [.ref (ad 0), .int (-r_36), .ref (ad 0)]) ⟨hx, hb, hml, hown, hts⟩ hG hP hD 0 8 rfl rfl (mtX8_lead l D cI cB cR ad H.size states whyKind whyOrder many wide textLong spot readColumns all past refused work kept chosen across sum one two base quotients text numbers entries before i_6 r_39 hq_40) (cwV 1 hts gX8_nextOf_X8_lead rfl rfl rfl ⟨rfl, hd_X8_lead⟩ ⟨Nat.le_of_ble_eq_true rfl, Nat.le_of_ble_eq_true rfl⟩) rfl hl.1 rfl (Nat.le_of_ble_eq_true rfl) dX8_nextOf_89) hD hS hA (fun H locs hP hD hS => ?_)
                      have hP : va_P D cls9 (wM cI ad states whyKind whyOrder many wide textLong spot readColumns all past refused work kept chosen across sum one two base quotients text numbers entries before) H := hP
                      have hD : va_D A (wM cI ad states whyKind whyOrder many wide textLong spot readColumns all past refused work kept chosen across sum one two base quotients text numbers entries before) := hD
                      obtain ⟨v_44, hq_43, hk⟩ := bd1_s hr2
                      obtain ⟨r_42, rfl⟩ : ∃ y, y = v_44 := ⟨_, rfl⟩
                      have hr2 := hk _ rfl
                      refine callIA (gV (rest := [.int (-r_36), .ref (ad 0)]) ⟨hx, hb, hml, hown, hts⟩ hG hP hD 0 8 rfl rfl (mtX8_inverse l D cI cB cR ad H.size states whyKind whyOrder many wide textLong spot readColumns all past refused work kept chosen across sum one two base quotients text numbers entries before r_39 r_42 hq_43) (cwV 1 hts gX8_nextOf_X8_inverse rfl rfl rfl ⟨rfl, hd_X8_inverse⟩ ⟨Nat.le_of_ble_eq_true rfl, Nat.le_of_ble_eq_true rfl⟩) rfl hl.1 rfl (Nat.le_of_ble_eq_true rfl) dX8_nextOf_92) hD hS hA (fun H locs hP hD hS => ?_)
                      have hP : va_P D cls9 (wM cI ad states whyKind whyOrder many wide textLong spot readColumns all past refused work kept chosen across sum one two base quotients text numbers entries before) H := hP
                      have hD : va_D A (wM cI ad states whyKind whyOrder many wide textLong spot readColumns all past refused work kept chosen across sum one two base quotients text numbers entries before) := hD
                      refine lv_imul hx hb dX8_nextOf_95 ?_
                      obtain ⟨v_47, hq_46, hk⟩ := bd1_s hr2
                      obtain ⟨r_45, rfl⟩ : ∃ y, y = v_47 := ⟨_, rfl⟩
                      have hr2 := hk _ rfl
                      refine callIA (gV (rest := []) ⟨hx, hb, hml, hown, hts⟩ hG hP hD 0 8 rfl rfl (mtX8_left l D cI cB cR ad H.size states whyKind whyOrder many wide textLong spot readColumns all past refused work kept chosen across sum one two base quotients text numbers entries before ((-r_36) * r_42) r_45 hq_46) (cwV 1 hts gX8_nextOf_X8_left rfl rfl rfl ⟨rfl, hd_X8_left⟩ ⟨Nat.le_of_ble_eq_true rfl, Nat.le_of_ble_eq_true rfl⟩) rfl hl.1 rfl (Nat.le_of_ble_eq_true rfl) dX8_nextOf_96) hD hS hA (fun H locs hP hD hS => ?_)
                      have hP : va_P D cls9 (wM cI ad states whyKind whyOrder many wide textLong spot readColumns all past refused work kept chosen across sum one two base quotients text numbers entries before) H := hP
                      have hD : va_D A (wM cI ad states whyKind whyOrder many wide textLong spot readColumns all past refused work kept chosen across sum one two base quotients text numbers entries before) := hD
                      refine lv_istore (lv' := [(5, .int r_45), (4, .int j_20), (0, .ref (ad 0)), (1, .int a0), (2, .int i_1), (3, .int i_6)]) hx hb dX8_nextOf_99 hl (by decide) rfl (fun ls hl => ?_)
                      refine lv_iload_n hx hb dX8_nextOf_101 rfl (lv_at hl 3 rfl) ?_
                      refine lv_if_ne (tgt := 109) hx hb dX8_nextOf_102 (by decide) (fun c_48 => ?_) (fun c_48 => ?_)
                      · have hr2 := it_f c_48 hr2
                        refine lv_iload_n hx hb dX8_nextOf_109 rfl (lv_at hl 3 rfl) ?_
                        refine lv_iconst (v := 1) hx hb dX8_nextOf_110 (by decide) ?_
                        refine lv_icmp_ne (tgt := 118) hx hb dX8_nextOf_111 (by decide) (fun c_49 => ?_) (fun c_49 => ?_)
                        · have hr2 := it_f c_49 hr2
                          refine lv_iload_n hx hb dX8_nextOf_118 rfl (lv_at hl 3 rfl) ?_
                          refine lv_iconst (v := 2) hx hb dX8_nextOf_119 (by decide) ?_
                          refine lv_icmp_ne (tgt := 128) hx hb dX8_nextOf_120 (by decide) (fun c_50 => ?_) (fun c_50 => ?_)
                          · have hr2 := it_f c_50 hr2
                            refine lv_aload_n hx hb dX8_nextOf_128 rfl (lv_at hl 2 rfl) ?_
                            refine lv_iload_n hx hb dX8_nextOf_129 rfl (lv_at hl 4 rfl) ?_
                            obtain ⟨v_53, hq_52, hk⟩ := bd1_s hr2
                            obtain ⟨r_51, rfl⟩ : ∃ y, y = v_53 := ⟨_, rfl⟩
                            have hr2 := hk _ rfl
                            refine callIA (gV (rest := []) ⟨hx, hb, hml, hown, hts⟩ hG hP hD 0 8 rfl rfl (mtX8_degree l D cI cB cR ad H.size states whyKind whyOrder many wide textLong spot readColumns all past refused work kept chosen across sum one two base quotients text numbers entries before i_1 r_51 hq_52) (cwV 1 hts gX8_nextOf_X8_degree rfl rfl rfl ⟨rfl, hd_X8_degree⟩ ⟨Nat.le_of_ble_eq_true rfl, Nat.le_of_ble_eq_true rfl⟩) rfl hl.1 rfl (Nat.le_of_ble_eq_true rfl) dX8_nextOf_130) hD hS hA (fun H locs hP hD hS => ?_)
                            have hP : va_P D cls9 (wM cI ad states whyKind whyOrder many wide textLong spot readColumns all past refused work kept chosen across sum one two base quotients text numbers entries before) H := hP
                            have hD : va_D A (wM cI ad states whyKind whyOrder many wide textLong spot readColumns all past refused work kept chosen across sum one two base quotients text numbers entries before) := hD
                            refine lv_aload_n hx hb dX8_nextOf_133 rfl (lv_at hl 2 rfl) ?_
                            refine lv_iload_n hx hb dX8_nextOf_134 rfl (lv_at hl 5 rfl) ?_
                            obtain ⟨v_56, hq_55, hk⟩ := bd1_s hr2
                            obtain ⟨r_54, rfl⟩ : ∃ y, y = v_56 := ⟨_, rfl⟩
                            have hr2 := hk _ rfl
                            refine callIA (gV (rest := [.int r_51]) ⟨hx, hb, hml, hown, hts⟩ hG hP hD 0 8 rfl rfl (mtX8_degree l D cI cB cR ad H.size states whyKind whyOrder many wide textLong spot readColumns all past refused work kept chosen across sum one two base quotients text numbers entries before i_6 r_54 hq_55) (cwV 1 hts gX8_nextOf_X8_degree rfl rfl rfl ⟨rfl, hd_X8_degree⟩ ⟨Nat.le_of_ble_eq_true rfl, Nat.le_of_ble_eq_true rfl⟩) rfl hl.1 rfl (Nat.le_of_ble_eq_true rfl) dX8_nextOf_135) hD hS hA (fun H locs hP hD hS => ?_)
                            have hP : va_P D cls9 (wM cI ad states whyKind whyOrder many wide textLong spot readColumns all past refused work kept chosen across sum one two base quotients text numbers entries before) H := hP
                            have hD : va_D A (wM cI ad states whyKind whyOrder many wide textLong spot readColumns all past refused work kept chosen across sum one two base quotients text numbers entries before) := hD
                            refine lv_isub hx hb dX8_nextOf_138 ?_
                            have he := (hO1 _ (hv1 _ ((hO2 _ (hv2 _ (Option.some.inj hr2).symm).symm)).symm).symm)
                            subst he
                            exact hE H locs _ _ _ rfl dX8_nextOf_139 hP hD hS
                          · have hr2 := it_t c_50 hr2
                            refine lv_iload hx hb dX8_nextOf_123 (lv_at hl 0 rfl) ?_
                            refine lv_goto (tgt := 139) hx hb dX8_nextOf_125 (by decide) ?_
                            have he := (hO1 _ (hv1 _ ((hO2 _ (hv2 _ (Option.some.inj hr2).symm).symm)).symm).symm)
                            subst he
                            exact hE H locs _ _ _ rfl dX8_nextOf_139 hP hD hS
                        · have hr2 := it_t c_49 hr2
                          refine lv_iload_n hx hb dX8_nextOf_114 rfl (lv_at hl 5 rfl) ?_
                          refine lv_goto (tgt := 139) hx hb dX8_nextOf_115 (by decide) ?_
                          have he := (hO1 _ (hv1 _ ((hO2 _ (hv2 _ (Option.some.inj hr2).symm).symm)).symm).symm)
                          subst he
                          exact hE H locs _ _ _ rfl dX8_nextOf_139 hP hD hS
                      · have hr2 := it_t c_48 hr2
                        refine lv_iload_n hx hb dX8_nextOf_105 rfl (lv_at hl 4 rfl) ?_
                        refine lv_goto (tgt := 139) hx hb dX8_nextOf_106 (by decide) ?_
                        have he := (hO1 _ (hv1 _ ((hO2 _ (hv2 _ (Option.some.inj hr2).symm).symm)).symm).symm)
                        subst he
                        exact hE H locs _ _ _ rfl dX8_nextOf_139 hP hD hS
              refine lv_icmp_eq (tgt := 45) hx hb dX8_nextOf_22 (by decide) (fun c_11 => ?_) (fun c_11 => ?_)
              · have hj3 := it_t c_11 hj3
                refine lv_iconst (v := 0) hx hb dX8_nextOf_45 (by decide) ?_
                exact hJ3 (0 : Int32) (Option.some.inj hj3).symm (Or.inl rfl) H locs hP hD hS ls (lv_sub hl [0, 1, 2, 3] rfl)
              · have hj3 := it_f c_11 hj3
                refine lv_aload_n hx hb dX8_nextOf_25 rfl (lv_at hl 0 rfl) ?_
                refine lv_iload_n hx hb dX8_nextOf_26 rfl (lv_at hl 2 rfl) ?_
                obtain ⟨v_14, hq_13, hk⟩ := bd1_s hj3
                obtain ⟨r_12, rfl⟩ : ∃ y, y = v_14 := ⟨_, rfl⟩
                have hj3 := hk _ rfl
                refine callIA (gV (rest := []) ⟨hx, hb, hml, hown, hts⟩ hG hP hD 0 8 rfl rfl (mtX8_degree l D cI cB cR ad H.size states whyKind whyOrder many wide textLong spot readColumns all past refused work kept chosen across sum one two base quotients text numbers entries before i_1 r_12 hq_13) (cwV 1 hts gX8_nextOf_X8_degree rfl rfl rfl ⟨rfl, hd_X8_degree⟩ ⟨Nat.le_of_ble_eq_true rfl, Nat.le_of_ble_eq_true rfl⟩) rfl hl.1 rfl (Nat.le_of_ble_eq_true rfl) dX8_nextOf_27) hD hS hA (fun H locs hP hD hS => ?_)
                have hP : va_P D cls9 (wM cI ad states whyKind whyOrder many wide textLong spot readColumns all past refused work kept chosen across sum one two base quotients text numbers entries before) H := hP
                have hD : va_D A (wM cI ad states whyKind whyOrder many wide textLong spot readColumns all past refused work kept chosen across sum one two base quotients text numbers entries before) := hD
                refine lv_if_lt (tgt := 45) hx hb dX8_nextOf_30 (by decide) (fun c_15 => ?_) (fun c_15 => ?_)
                · have hj3 := it_t c_15 hj3
                  refine lv_iconst (v := 0) hx hb dX8_nextOf_45 (by decide) ?_
                  exact hJ3 (0 : Int32) (Option.some.inj hj3).symm (Or.inl rfl) H locs hP hD hS ls (lv_sub hl [0, 1, 2, 3] rfl)
                · have hj3 := it_f c_15 hj3
                  refine lv_aload_n hx hb dX8_nextOf_33 rfl (lv_at hl 0 rfl) ?_
                  refine lv_iload_n hx hb dX8_nextOf_34 rfl (lv_at hl 3 rfl) ?_
                  obtain ⟨v_18, hq_17, hk⟩ := bd1_s hj3
                  obtain ⟨r_16, rfl⟩ : ∃ y, y = v_18 := ⟨_, rfl⟩
                  have hj3 := hk _ rfl
                  refine callIA (gV (rest := []) ⟨hx, hb, hml, hown, hts⟩ hG hP hD 0 8 rfl rfl (mtX8_degree l D cI cB cR ad H.size states whyKind whyOrder many wide textLong spot readColumns all past refused work kept chosen across sum one two base quotients text numbers entries before i_6 r_16 hq_17) (cwV 1 hts gX8_nextOf_X8_degree rfl rfl rfl ⟨rfl, hd_X8_degree⟩ ⟨Nat.le_of_ble_eq_true rfl, Nat.le_of_ble_eq_true rfl⟩) rfl hl.1 rfl (Nat.le_of_ble_eq_true rfl) dX8_nextOf_35) hD hS hA (fun H locs hP hD hS => ?_)
                  have hP : va_P D cls9 (wM cI ad states whyKind whyOrder many wide textLong spot readColumns all past refused work kept chosen across sum one two base quotients text numbers entries before) H := hP
                  have hD : va_D A (wM cI ad states whyKind whyOrder many wide textLong spot readColumns all past refused work kept chosen across sum one two base quotients text numbers entries before) := hD
                  refine lv_if_lt (tgt := 45) hx hb dX8_nextOf_38 (by decide) (fun c_19 => ?_) (fun c_19 => ?_)
                  · have hj3 := it_t c_19 hj3
                    refine lv_iconst (v := 0) hx hb dX8_nextOf_45 (by decide) ?_
                    exact hJ3 (0 : Int32) (Option.some.inj hj3).symm (Or.inl rfl) H locs hP hD hS ls (lv_sub hl [0, 1, 2, 3] rfl)
                  · have hj3 := it_f c_19 hj3
                    refine lv_iconst (v := 1) hx hb dX8_nextOf_41 (by decide) ?_
                    refine lv_goto (tgt := 46) hx hb dX8_nextOf_42 (by decide) ?_
                    exact hJ3 (1 : Int32) (Option.some.inj hj3).symm (Or.inr rfl) H locs hP hD hS ls (lv_sub hl [0, 1, 2, 3] rfl)
        obtain ⟨n2, hn2⟩ := Lp_s hw2
        exact hL2 n2 (0 : Int32) hn2 H locs hP hD hS ls (lv_sub hl [1, 2, 3, 0] rfl)
  obtain ⟨n1, hn1⟩ := Lp_s hw1
  exact hL1 n1 (0 : Int32) hn1 H locs hP hD hS ls (lv_sub hl [1, 2, 0] rfl)
abbrev rm_X8_next : Room := { frames := 6, cells := 0, slots := 0, locals := 138 }
theorem fX8_next_0 : Cond.constantLong RX8 110 (3) ∈ wsX8_next := (List.mem_cons_of_mem _ (List.mem_append_left _ (List.mem_append_left _ (List.mem_of_getElem? (i := 0) rfl))))
set_option maxHeartbeats 4000000 in
set_option maxRecDepth 100000 in
theorem mtX8_next (l : Launch) (D : va_G) (cI cB cR : ClassId) (ad : Nat → Nat) (sz : Nat) (states : Int32) (whyKind : Int32) (whyOrder : Int32) (many : Int32) (wide : Int32) (textLong : Int32) (spot : Int32) (readColumns : Int32) (all : Nat → Int32) (past : Nat → Int32) (refused : Nat → Int32) (work : Nat → Int32) (kept : Nat → Int32) (chosen : Nat → Int32) (across : Nat → Int32) (sum : Nat → Int32) (one : Nat → Int32) (two : Nat → Int32) (base : Nat → Int32) (quotients : Nat → Int32) (text : Nat → Int32) (numbers : Nat → Int32) (entries : Nat → Int32) (before : Nat → Int32) (a0 : Int32) (res : Int32 × (Nat → Int32)) (hf : fX8_next all refused a0 = some res) : Met l yX8_next wsX8_next rm_X8_next (qP D cI cB cR [.ref (ad 0), .int a0] (wM cI ad states whyKind whyOrder many wide textLong spot readColumns all past refused work kept chosen across sum one two base quotients text numbers entries before) sz) (qI D res.1 (wM cI ad states whyKind whyOrder many wide textLong spot readColumns all past refused work kept chosen across sum one two base quotients text numbers entries before) (wM cI ad states whyKind whyOrder many wide textLong spot readColumns all past res.2 work kept chosen across sum one two base quotients text numbers entries before) sz) 0 0 (va_A (wM cI ad states whyKind whyOrder many wide textLong spot readColumns all past refused work kept chosen across sum one two base quotients text numbers entries before) sz) := by
  refine entI (plainFor_of_name (by decide)) rfl (Nat.le_of_ble_eq_true rfl) ?_
  intro p e s m args below meth c Q A ls S hG hP hD hA hl hE
  obtain ⟨hx, hb, hml, hown, hts⟩ := S
  have hown : s.vm.findClass RX8 = some m.cls := hown
  have hS : va_S A s.heap s.heap [] := va_S.rf
  have hl : lv_has ls 2 [(0, .ref (ad 0)), (1, .int a0)] := hl
  have hq := hf
  unfold fX8_next at hq
  obtain ⟨H, hH⟩ : ∃ H, H = s.heap := ⟨_, rfl⟩
  obtain ⟨locs, hlo⟩ : ∃ L : List Loc, L = [] := ⟨_, rfl⟩
  have hP : va_P D cls9 (wM cI ad states whyKind whyOrder many wide textLong spot readColumns all past refused work kept chosen across sum one two base quotients text numbers entries before) H := hH ▸ hP
  have hS : va_S A s.heap H locs := by rw [hH, hlo]; exact hS
  suffices hg : W p l e rm_X8_next s m args below meth c H locs 0 0 Q (F0 m 0 ls []) by rw [hH, hlo] at hg; exact hg
  refine lv_iload_n hx hb dX8_next_0 rfl (lv_at hl 1 rfl) ?_
  refine lv_i2l (v := (a0.toInt64)) hx hb dX8_next_1 rfl ?_
  refine lv_lconst (v := 0) hx hb dX8_next_2 (by decide) ?_
  refine lv_ldc2 (v := 3) hx hb hown (hts _ fX8_next_0) dX8_next_3 ?_
  refine callZ0 (gS (rest := []) ⟨hx, hb, hml, hown, hts⟩ hG vaP0 (vaD0 (A := A)) (mtX8_in l D cI cB cR H.size (a0.toInt64) (0 : Int64) (3 : Int64) _ rfl) (va_cwS 3 hts gX8_next_X8_in rfl rfl rfl hd_X8_in ⟨Nat.le_of_ble_eq_true rfl, Nat.le_of_ble_eq_true rfl⟩) rfl hl.1 rfl (Nat.le_of_ble_eq_true rfl) dX8_next_6) hP hS hA (fun H locs z_1 hP hS => ?_)
  refine lv_if_eq (tgt := 20) hx hb dX8_next_9 (by decide) (fun c_2 => ?_) (fun c_2 => ?_)
  · have hq := it_t c_2 hq
    refine lv_aload_n hx hb dX8_next_20 rfl (lv_at hl 0 rfl) ?_
    refine lv_bipush (v := -2) hx hb dX8_next_21 (by decide) ?_
    obtain ⟨v_6, hq_5, hk⟩ := bd2_s hq
    obtain ⟨r_3, u_4⟩ := v_6
    have hq := hk _ _ rfl
    refine callIA (gV (rest := []) ⟨hx, hb, hml, hown, hts⟩ hG hP hD 0 8 rfl rfl (mtX8_refuses l D cI cB cR ad H.size states whyKind whyOrder many wide textLong spot readColumns all past refused work kept chosen across sum one two base quotients text numbers entries before (-2 : Int32) (r_3, u_4) hq_5) (cwV 1 hts gX8_next_X8_refuses rfl rfl rfl ⟨rfl, hd_X8_refuses⟩ ⟨Nat.le_of_ble_eq_true rfl, Nat.le_of_ble_eq_true rfl⟩) rfl hl.1 rfl (Nat.le_of_ble_eq_true rfl) dX8_next_23) hD hS hA (fun H locs hP hD hS => ?_)
    have hP : va_P D cls9 (wM cI ad states whyKind whyOrder many wide textLong spot readColumns all past u_4 work kept chosen across sum one two base quotients text numbers entries before) H := hP
    have hD : va_D A (wM cI ad states whyKind whyOrder many wide textLong spot readColumns all past u_4 work kept chosen across sum one two base quotients text numbers entries before) := hD
    have he := Option.some.inj hq
    subst he
    exact hE H locs _ _ _ rfl dX8_next_26 hP hD hS
  · have hq := it_f c_2 hq
    refine lv_aload_n hx hb dX8_next_12 rfl (lv_at hl 0 rfl) ?_
    refine lv_iload_n hx hb dX8_next_13 rfl (lv_at hl 1 rfl) ?_
    obtain ⟨v_9, hq_8, hk⟩ := bd1_s hq
    obtain ⟨r_7, rfl⟩ : ∃ y, y = v_9 := ⟨_, rfl⟩
    have hq := hk _ rfl
    refine callIA (gV (rest := []) ⟨hx, hb, hml, hown, hts⟩ hG hP hD 0 8 rfl rfl (mtX8_nextOf l D cI cB cR ad H.size states whyKind whyOrder many wide textLong spot readColumns all past refused work kept chosen across sum one two base quotients text numbers entries before a0 r_7 hq_8) (cwV 1 hts gX8_next_X8_nextOf rfl rfl rfl ⟨rfl, hd_X8_nextOf⟩ ⟨Nat.le_of_ble_eq_true rfl, Nat.le_of_ble_eq_true rfl⟩) rfl hl.1 rfl (Nat.le_of_ble_eq_true rfl) dX8_next_14) hD hS hA (fun H locs hP hD hS => ?_)
    have hP : va_P D cls9 (wM cI ad states whyKind whyOrder many wide textLong spot readColumns all past refused work kept chosen across sum one two base quotients text numbers entries before) H := hP
    have hD : va_D A (wM cI ad states whyKind whyOrder many wide textLong spot readColumns all past refused work kept chosen across sum one two base quotients text numbers entries before) := hD
    refine lv_goto (tgt := 26) hx hb dX8_next_17 (by decide) ?_
    have he := Option.some.inj hq
    subst he
    exact hE H locs _ _ _ rfl dX8_next_26 hP hD hS
abbrev rm_X8_cell : Room := { frames := 0, cells := 0, slots := 0, locals := 0 }
set_option maxHeartbeats 4000000 in
set_option maxRecDepth 100000 in
theorem mtX8_cell (l : Launch) (D : va_G) (cI cB cR : ClassId) (sz : Nat) (a0 : Int32) (a1 : Int32) (a2 : Int32) (res : Int32) (hf : fX8_cell a0 a1 a2 = res) : Met l yX8_cell wsX8_cell rm_X8_cell (qP D cI cB cR [.int a0, .int a1, .int a2] ([] : va_W) sz) (qI D res ([] : va_W) ([] : va_W) sz) 0 0 (va_A ([] : va_W) sz) := by
  refine entI (plainFor_of_name (by decide)) rfl (Nat.le_of_ble_eq_true rfl) ?_
  intro p e s m args below meth c Q A ls S hG hP hD hA hl hE
  obtain ⟨hx, hb, hml, hown, hts⟩ := S
  have hown : s.vm.findClass RX8 = some m.cls := hown
  have hS : va_S A s.heap s.heap [] := va_S.rf
  have hl : lv_has ls 3 [(0, .int a0), (1, .int a1), (2, .int a2)] := hl
  have hq := hf
  unfold fX8_cell at hq
  obtain ⟨H, hH⟩ : ∃ H, H = s.heap := ⟨_, rfl⟩
  obtain ⟨locs, hlo⟩ : ∃ L : List Loc, L = [] := ⟨_, rfl⟩
  have hP : va_P D cls9 ([] : va_W) H := hH ▸ hP
  have hS : va_S A s.heap H locs := by rw [hH, hlo]; exact hS
  suffices hg : W p l e rm_X8_cell s m args below meth c H locs 0 0 Q (F0 m 0 ls []) by rw [hH, hlo] at hg; exact hg
  refine lv_bipush (v := 24) hx hb dX8_cell_0 (by decide) ?_
  refine lv_iload_n hx hb dX8_cell_2 rfl (lv_at hl 0 rfl) ?_
  refine lv_imul hx hb dX8_cell_3 ?_
  refine lv_bipush (v := 8) hx hb dX8_cell_4 (by decide) ?_
  refine lv_iload_n hx hb dX8_cell_6 rfl (lv_at hl 1 rfl) ?_
  refine lv_imul hx hb dX8_cell_7 ?_
  refine lv_iadd hx hb dX8_cell_8 ?_
  refine lv_iload_n hx hb dX8_cell_9 rfl (lv_at hl 2 rfl) ?_
  refine lv_iadd hx hb dX8_cell_10 ?_
  have he := hq
  subst he
  exact hE H locs _ _ _ rfl dX8_cell_11 hP hD hS
abbrev rm_X8_workDegreeAt : Room := { frames := 1, cells := 0, slots := 0, locals := 22 }
theorem iX8_workDegreeAt_X8 : ∀ w ∈ wsX80, w ∈ wsX8_workDegreeAt := fun _ h => (List.mem_cons_of_mem _ (List.mem_append_right _ h))
theorem fX8_workDegreeAt_1 : Cond.fieldLink RX8 23 "PopovRowsModel" "work" "[I" ∈ wsX8_workDegreeAt := (List.mem_cons_of_mem _ (List.mem_append_left _ (List.mem_of_getElem? (i := 0) rfl)))
set_option maxHeartbeats 4000000 in
set_option maxRecDepth 100000 in
theorem mtX8_workDegreeAt (l : Launch) (D : va_G) (cI cB cR : ClassId) (ad : Nat → Nat) (sz : Nat) (states : Int32) (whyKind : Int32) (whyOrder : Int32) (many : Int32) (wide : Int32) (textLong : Int32) (spot : Int32) (readColumns : Int32) (all : Nat → Int32) (past : Nat → Int32) (refused : Nat → Int32) (work : Nat → Int32) (kept : Nat → Int32) (chosen : Nat → Int32) (across : Nat → Int32) (sum : Nat → Int32) (one : Nat → Int32) (two : Nat → Int32) (base : Nat → Int32) (quotients : Nat → Int32) (text : Nat → Int32) (numbers : Nat → Int32) (entries : Nat → Int32) (before : Nat → Int32) (a0 : Int32) (a1 : Int32) (res : Int32) (hf : fX8_workDegreeAt work a0 a1 = some res) : Met l yX8_workDegreeAt wsX8_workDegreeAt rm_X8_workDegreeAt (qP D cI cB cR [.ref (ad 0), .int a0, .int a1] (wM cI ad states whyKind whyOrder many wide textLong spot readColumns all past refused work kept chosen across sum one two base quotients text numbers entries before) sz) (qI D res (wM cI ad states whyKind whyOrder many wide textLong spot readColumns all past refused work kept chosen across sum one two base quotients text numbers entries before) (wM cI ad states whyKind whyOrder many wide textLong spot readColumns all past refused work kept chosen across sum one two base quotients text numbers entries before) sz) 0 0 (va_A (wM cI ad states whyKind whyOrder many wide textLong spot readColumns all past refused work kept chosen across sum one two base quotients text numbers entries before) sz) := by
  refine entI (plainFor_of_name (by decide)) rfl (Nat.le_of_ble_eq_true rfl) ?_
  intro p e s m args below meth c Q A ls S hG hP hD hA hl hE
  obtain ⟨hx, hb, hml, hown, hts⟩ := S
  have hown : s.vm.findClass RX8 = some m.cls := hown
  have hS : va_S A s.heap s.heap [] := va_S.rf
  have hl : lv_has ls 4 [(0, .ref (ad 0)), (1, .int a0), (2, .int a1)] := hl
  have hq := hf
  unfold fX8_workDegreeAt at hq
  obtain ⟨H, hH⟩ : ∃ H, H = s.heap := ⟨_, rfl⟩
  obtain ⟨locs, hlo⟩ : ∃ L : List Loc, L = [] := ⟨_, rfl⟩
  have hP : va_P D cls9 (wM cI ad states whyKind whyOrder many wide textLong spot readColumns all past refused work kept chosen across sum one two base quotients text numbers entries before) H := hH ▸ hP
  have hS : va_S A s.heap H locs := by rw [hH, hlo]; exact hS
  suffices hg : W p l e rm_X8_workDegreeAt s m args below meth c H locs 0 0 Q (F0 m 0 ls []) by rw [hH, hlo] at hg; exact hg
  refine lv_bipush (v := 7) hx hb dX8_workDegreeAt_0 (by decide) ?_
  refine lv_istore_n (lv' := [(3, .int (7 : Int32)), (0, .ref (ad 0)), (1, .int a0), (2, .int a1)]) hx hb dX8_workDegreeAt_2 rfl hl (by decide) rfl (fun ls hl => ?_)
  obtain ⟨w1, hw1, hk1⟩ := bd1_s hq
  have hX1 : ∀ (x_5 : Int32), w1 = x_5 → ∀ (H : Heap) (locs : List Loc), va_P D cls9 (wM cI ad states whyKind whyOrder many wide textLong spot readColumns all past refused work kept chosen across sum one two base quotients text numbers entries before) H → va_D A (wM cI ad states whyKind whyOrder many wide textLong spot readColumns all past refused work kept chosen across sum one two base quotients text numbers entries before) → va_S A s.heap H locs → ∀ (ls : Array Slot), lv_has ls 4 [(3, .int x_5)] → W p l e rm_X8_workDegreeAt s m args below meth c H locs 0 0 Q (F0 m 27 ls []) := by
    intro x_5 hq H locs hP hD hS ls hl
    have hq := hk1 _ hq
    refine lv_iload_n hx hb dX8_workDegreeAt_27 rfl (lv_at hl 0 rfl) ?_
    have he := Option.some.inj hq
    subst he
    exact hE H locs _ _ _ rfl dX8_workDegreeAt_28 hP hD hS
  have hL1 : ∀ (n : Nat) (i_1 : Int32), lrun (fun (z : Int32) => fX8_workDegreeAt_s3 work a0 a1 z) n i_1 = some w1 → ∀ (H : Heap) (locs : List Loc), va_P D cls9 (wM cI ad states whyKind whyOrder many wide textLong spot readColumns all past refused work kept chosen across sum one two base quotients text numbers entries before) H → va_D A (wM cI ad states whyKind whyOrder many wide textLong spot readColumns all past refused work kept chosen across sum one two base quotients text numbers entries before) → va_S A s.heap H locs → ∀ (ls : Array Slot), lv_has ls 4 [(0, .ref (ad 0)), (1, .int a0), (2, .int a1), (3, .int i_1)] → W p l e rm_X8_workDegreeAt s m args below meth c H locs 0 0 Q (F0 m 3 ls []) := by
    intro n
    induction n with
    | zero => intro i_1 h; cases h
    | succ n ih1 =>
      intro i_1 hr1 H locs hP hD hS ls hl
      obtain ⟨k, v1, hk, hr1, ht1, hv1⟩ := lrun_s hr1
      cases hk
      have hr1 : fX8_workDegreeAt_s3 work a0 a1 i_1 = some v1 := hr1
      unfold fX8_workDegreeAt_s3 at hr1
      refine lv_iload_n hx hb dX8_workDegreeAt_3 rfl (lv_at hl 3 rfl) ?_
      refine lv_if_lt (tgt := 27) hx hb dX8_workDegreeAt_4 (by decide) (fun c_2 => ?_) (fun c_2 => ?_)
      · have hr1 := it_t c_2 hr1
        exact hX1 i_1 (hv1 _ (Option.some.inj hr1).symm).symm H locs hP hD hS ls (lv_sub hl [3] rfl)
      · have hr1 := it_f c_2 hr1
        refine lv_aload_n hx hb dX8_workDegreeAt_7 rfl (lv_at hl 0 rfl) ?_
        refine va_get (D := D) (ci := 8) (v := .ref (ad 4)) (C := RX8) (T := TX8) (N := 24) hx hb hts iX8_workDegreeAt_X8 hown hG.1 hP 0 rfl rfl 6 (by decide) (hts _ fX8_workDegreeAt_1) (fun _ h9 => h9) rfl dX8_workDegreeAt_8 ?_
        refine lv_iload_n hx hb dX8_workDegreeAt_11 rfl (lv_at hl 1 rfl) ?_
        refine lv_iload_n hx hb dX8_workDegreeAt_12 rfl (lv_at hl 2 rfl) ?_
        refine lv_iload_n hx hb dX8_workDegreeAt_13 rfl (lv_at hl 3 rfl) ?_
        refine callI0 (gS (rest := [.ref (ad 4)]) ⟨hx, hb, hml, hown, hts⟩ hG vaP0 (vaD0 (A := A)) (mtX8_cell l D cI cB cR H.size a0 a1 i_1 _ rfl) (va_cwS 3 hts gX8_workDegreeAt_X8_cell rfl rfl rfl hd_X8_cell ⟨Nat.le_of_ble_eq_true rfl, Nat.le_of_ble_eq_true rfl⟩) rfl hl.1 rfl (Nat.le_of_ble_eq_true rfl) dX8_workDegreeAt_14) hP hS hA (fun H locs hP hS => ?_)
        obtain ⟨h_3, hr1⟩ := gd_s hr1
        refine va_iald hx hb hG.1 hP 4 0 rfl rfl h_3 dX8_workDegreeAt_17 ?_
        refine lv_if_ne (tgt := 27) hx hb dX8_workDegreeAt_18 (by decide) (fun c_4 => ?_) (fun c_4 => ?_)
        · have hr1 := it_f c_4 hr1
          exact hX1 i_1 (hv1 _ (Option.some.inj hr1).symm).symm H locs hP hD hS ls (lv_sub hl [3] rfl)
        · have hr1 := it_t c_4 hr1
          refine lv_iinc (v := (i_1 + (-1))) (lv' := [(3, .int (i_1 + (-1))), (0, .ref (ad 0)), (1, .int a0), (2, .int a1)]) hx hb dX8_workDegreeAt_21 hl (k := 3) rfl rfl (by decide) rfl (fun ls hl => ?_)
          refine lv_goto (tgt := 3) hx hb dX8_workDegreeAt_24 (by decide) ?_
          exact ih1 (i_1 + (-1)) (ht1 _ (Option.some.inj hr1).symm) H locs hP hD hS ls (lv_sub hl [1, 2, 3, 0] rfl)
  obtain ⟨n1, hn1⟩ := Lp_s hw1
  exact hL1 n1 (7 : Int32) hn1 H locs hP hD hS ls (lv_sub hl [1, 2, 3, 0] rfl)
abbrev rm_X8_workDegree : Room := { frames := 2, cells := 0, slots := 0, locals := 45 }
theorem iX8_workDegree_X8 : ∀ w ∈ wsX80, w ∈ wsX8_workDegree := fun _ h => (List.mem_cons_of_mem _ (List.mem_append_right _ h))
theorem fX8_workDegree_1 : Cond.fieldLink RX8 162 "PopovRowsModel" "wide" "I" ∈ wsX8_workDegree := (List.mem_cons_of_mem _ (List.mem_append_left _ (List.mem_of_getElem? (i := 0) rfl)))
set_option maxHeartbeats 4000000 in
set_option maxRecDepth 100000 in
theorem mtX8_workDegree (l : Launch) (D : va_G) (cI cB cR : ClassId) (ad : Nat → Nat) (sz : Nat) (states : Int32) (whyKind : Int32) (whyOrder : Int32) (many : Int32) (wide : Int32) (textLong : Int32) (spot : Int32) (readColumns : Int32) (all : Nat → Int32) (past : Nat → Int32) (refused : Nat → Int32) (work : Nat → Int32) (kept : Nat → Int32) (chosen : Nat → Int32) (across : Nat → Int32) (sum : Nat → Int32) (one : Nat → Int32) (two : Nat → Int32) (base : Nat → Int32) (quotients : Nat → Int32) (text : Nat → Int32) (numbers : Nat → Int32) (entries : Nat → Int32) (before : Nat → Int32) (a0 : Int32) (res : Int32) (hf : fX8_workDegree wide work a0 = some res) : Met l yX8_workDegree wsX8_workDegree rm_X8_workDegree (qP D cI cB cR [.ref (ad 0), .int a0] (wM cI ad states whyKind whyOrder many wide textLong spot readColumns all past refused work kept chosen across sum one two base quotients text numbers entries before) sz) (qI D res (wM cI ad states whyKind whyOrder many wide textLong spot readColumns all past refused work kept chosen across sum one two base quotients text numbers entries before) (wM cI ad states whyKind whyOrder many wide textLong spot readColumns all past refused work kept chosen across sum one two base quotients text numbers entries before) sz) 0 0 (va_A (wM cI ad states whyKind whyOrder many wide textLong spot readColumns all past refused work kept chosen across sum one two base quotients text numbers entries before) sz) := by
  refine entI (plainFor_of_name (by decide)) rfl (Nat.le_of_ble_eq_true rfl) ?_
  intro p e s m args below meth c Q A ls S hG hP hD hA hl hE
  obtain ⟨hx, hb, hml, hown, hts⟩ := S
  have hown : s.vm.findClass RX8 = some m.cls := hown
  have hS : va_S A s.heap s.heap [] := va_S.rf
  have hl : lv_has ls 5 [(0, .ref (ad 0)), (1, .int a0)] := hl
  have hq := hf
  unfold fX8_workDegree at hq
  obtain ⟨H, hH⟩ : ∃ H, H = s.heap := ⟨_, rfl⟩
  obtain ⟨locs, hlo⟩ : ∃ L : List Loc, L = [] := ⟨_, rfl⟩
  have hP : va_P D cls9 (wM cI ad states whyKind whyOrder many wide textLong spot readColumns all past refused work kept chosen across sum one two base quotients text numbers entries before) H := hH ▸ hP
  have hS : va_S A s.heap H locs := by rw [hH, hlo]; exact hS
  suffices hg : W p l e rm_X8_workDegree s m args below meth c H locs 0 0 Q (F0 m 0 ls []) by rw [hH, hlo] at hg; exact hg
  refine lv_iconst (v := -1) hx hb dX8_workDegree_0 (by decide) ?_
  refine lv_istore_n (lv' := [(2, .int (-1 : Int32)), (0, .ref (ad 0)), (1, .int a0)]) hx hb dX8_workDegree_1 rfl hl (by decide) rfl (fun ls hl => ?_)
  refine lv_iconst (v := 0) hx hb dX8_workDegree_2 (by decide) ?_
  refine lv_istore_n (lv' := [(3, .int (0 : Int32)), (2, .int (-1 : Int32)), (0, .ref (ad 0)), (1, .int a0)]) hx hb dX8_workDegree_3 rfl hl (by decide) rfl (fun ls hl => ?_)
  obtain ⟨w1, hw1, hk1⟩ := bd1_s hq
  have hX1 : ∀ (x_8 : Int32), w1 = x_8 → ∀ (H : Heap) (locs : List Loc), va_P D cls9 (wM cI ad states whyKind whyOrder many wide textLong spot readColumns all past refused work kept chosen across sum one two base quotients text numbers entries before) H → va_D A (wM cI ad states whyKind whyOrder many wide textLong spot readColumns all past refused work kept chosen across sum one two base quotients text numbers entries before) → va_S A s.heap H locs → ∀ (ls : Array Slot), lv_has ls 5 [(2, .int x_8)] → W p l e rm_X8_workDegree s m args below meth c H locs 0 0 Q (F0 m 39 ls []) := by
    intro x_8 hq H locs hP hD hS ls hl
    have hq := hk1 _ hq
    refine lv_iload_n hx hb dX8_workDegree_39 rfl (lv_at hl 0 rfl) ?_
    have he := Option.some.inj hq
    subst he
    exact hE H locs _ _ _ rfl dX8_workDegree_40 hP hD hS
  have hL1 : ∀ (n : Nat) (i_1 : Int32) (i_2 : Int32), lrun (fun (z : Int32 × Int32) => fX8_workDegree_s4 wide work a0 z.1 z.2) n (i_1, i_2) = some w1 → ∀ (H : Heap) (locs : List Loc), va_P D cls9 (wM cI ad states whyKind whyOrder many wide textLong spot readColumns all past refused work kept chosen across sum one two base quotients text numbers entries before) H → va_D A (wM cI ad states whyKind whyOrder many wide textLong spot readColumns all past refused work kept chosen across sum one two base quotients text numbers entries before) → va_S A s.heap H locs → ∀ (ls : Array Slot), lv_has ls 5 [(0, .ref (ad 0)), (1, .int a0), (2, .int i_1), (3, .int i_2)] → W p l e rm_X8_workDegree s m args below meth c H locs 0 0 Q (F0 m 4 ls []) := by
    intro n
    induction n with
    | zero => intro i_1 i_2 h; cases h
    | succ n ih1 =>
      intro i_1 i_2 hr1 H locs hP hD hS ls hl
      obtain ⟨k, v1, hk, hr1, ht1, hv1⟩ := lrun_s hr1
      cases hk
      have hr1 : fX8_workDegree_s4 wide work a0 i_1 i_2 = some v1 := hr1
      unfold fX8_workDegree_s4 at hr1
      refine lv_iload_n hx hb dX8_workDegree_4 rfl (lv_at hl 3 rfl) ?_
      refine lv_aload_n hx hb dX8_workDegree_5 rfl (lv_at hl 0 rfl) ?_
      refine va_get (D := D) (ci := 8) (v := .int wide) (C := RX8) (T := TX8) (N := 24) hx hb hts iX8_workDegree_X8 hown hG.1 hP 0 rfl rfl 8 (by decide) (hts _ fX8_workDegree_1) (fun _ h9 => h9) rfl dX8_workDegree_6 ?_
      refine lv_icmp_ge (tgt := 39) hx hb dX8_workDegree_9 (by decide) (fun c_3 => ?_) (fun c_3 => ?_)
      · have hr1 := it_t c_3 hr1
        exact hX1 i_1 (hv1 _ (Option.some.inj hr1).symm).symm H locs hP hD hS ls (lv_sub hl [2] rfl)
      · have hr1 := it_f c_3 hr1
        refine lv_aload_n hx hb dX8_workDegree_12 rfl (lv_at hl 0 rfl) ?_
        refine lv_iload_n hx hb dX8_workDegree_13 rfl (lv_at hl 1 rfl) ?_
        refine lv_iload_n hx hb dX8_workDegree_14 rfl (lv_at hl 3 rfl) ?_
        obtain ⟨v_6, hq_5, hk⟩ := bd1_s hr1
        obtain ⟨r_4, rfl⟩ : ∃ y, y = v_6 := ⟨_, rfl⟩
        have hr1 := hk _ rfl
        refine callIA (gV (rest := []) ⟨hx, hb, hml, hown, hts⟩ hG hP hD 0 8 rfl rfl (mtX8_workDegreeAt l D cI cB cR ad H.size states whyKind whyOrder many wide textLong spot readColumns all past refused work kept chosen across sum one two base quotients text numbers entries before a0 i_2 r_4 hq_5) (cwV 2 hts gX8_workDegree_X8_workDegreeAt rfl rfl rfl ⟨rfl, hd_X8_workDegreeAt⟩ ⟨Nat.le_of_ble_eq_true rfl, Nat.le_of_ble_eq_true rfl⟩) rfl hl.1 rfl (Nat.le_of_ble_eq_true rfl) dX8_workDegree_15) hD hS hA (fun H locs hP hD hS => ?_)
        have hP : va_P D cls9 (wM cI ad states whyKind whyOrder many wide textLong spot readColumns all past refused work kept chosen across sum one two base quotients text numbers entries before) H := hP
        have hD : va_D A (wM cI ad states whyKind whyOrder many wide textLong spot readColumns all past refused work kept chosen across sum one two base quotients text numbers entries before) := hD
        refine lv_istore (lv' := [(4, .int r_4), (0, .ref (ad 0)), (1, .int a0), (2, .int i_1), (3, .int i_2)]) hx hb dX8_workDegree_18 hl (by decide) rfl (fun ls hl => ?_)
        refine lv_iload hx hb dX8_workDegree_20 (lv_at hl 0 rfl) ?_
        refine lv_iload_n hx hb dX8_workDegree_22 rfl (lv_at hl 3 rfl) ?_
        refine lv_icmp_le (tgt := 31) hx hb dX8_workDegree_23 (by decide) (fun c_7 => ?_) (fun c_7 => ?_)
        · have hr1 := it_t c_7 hr1
          refine lv_iload_n hx hb dX8_workDegree_31 rfl (lv_at hl 3 rfl) ?_
          refine lv_istore_n (lv' := [(2, .int i_1), (4, .int r_4), (0, .ref (ad 0)), (1, .int a0), (3, .int i_2)]) hx hb dX8_workDegree_32 rfl hl (by decide) rfl (fun ls hl => ?_)
          refine lv_iinc (v := (i_2 + 1)) (lv' := [(3, .int (i_2 + 1)), (2, .int i_1), (4, .int r_4), (0, .ref (ad 0)), (1, .int a0)]) hx hb dX8_workDegree_33 hl (k := 4) rfl rfl (by decide) rfl (fun ls hl => ?_)
          refine lv_goto (tgt := 4) hx hb dX8_workDegree_36 (by decide) ?_
          exact ih1 i_1 (i_2 + 1) (ht1 _ (Option.some.inj hr1).symm) H locs hP hD hS ls (lv_sub hl [3, 4, 1, 0] rfl)
        · have hr1 := it_f c_7 hr1
          refine lv_iload hx hb dX8_workDegree_26 (lv_at hl 0 rfl) ?_
          refine lv_goto (tgt := 32) hx hb dX8_workDegree_28 (by decide) ?_
          refine lv_istore_n (lv' := [(2, .int r_4), (4, .int r_4), (0, .ref (ad 0)), (1, .int a0), (3, .int i_2)]) hx hb dX8_workDegree_32 rfl hl (by decide) rfl (fun ls hl => ?_)
          refine lv_iinc (v := (i_2 + 1)) (lv' := [(3, .int (i_2 + 1)), (2, .int r_4), (4, .int r_4), (0, .ref (ad 0)), (1, .int a0)]) hx hb dX8_workDegree_33 hl (k := 4) rfl rfl (by decide) rfl (fun ls hl => ?_)
          refine lv_goto (tgt := 4) hx hb dX8_workDegree_36 (by decide) ?_
          exact ih1 r_4 (i_2 + 1) (ht1 _ (Option.some.inj hr1).symm) H locs hP hD hS ls (lv_sub hl [3, 4, 1, 0] rfl)
  obtain ⟨n1, hn1⟩ := Lp_s hw1
  exact hL1 n1 (-1 : Int32) (0 : Int32) hn1 H locs hP hD hS ls (lv_sub hl [2, 3, 1, 0] rfl)
abbrev rm_X8_workPivot : Room := { frames := 3, cells := 0, slots := 0, locals := 69 }
theorem iX8_workPivot_X8 : ∀ w ∈ wsX80, w ∈ wsX8_workPivot := fun _ h => (List.mem_cons_of_mem _ (List.mem_append_right _ h))
theorem fX8_workPivot_1 : Cond.fieldLink RX8 162 "PopovRowsModel" "wide" "I" ∈ wsX8_workPivot := (List.mem_cons_of_mem _ (List.mem_append_left _ (List.mem_of_getElem? (i := 0) rfl)))
set_option maxHeartbeats 4000000 in
set_option maxRecDepth 100000 in
theorem mtX8_workPivot (l : Launch) (D : va_G) (cI cB cR : ClassId) (ad : Nat → Nat) (sz : Nat) (states : Int32) (whyKind : Int32) (whyOrder : Int32) (many : Int32) (wide : Int32) (textLong : Int32) (spot : Int32) (readColumns : Int32) (all : Nat → Int32) (past : Nat → Int32) (refused : Nat → Int32) (work : Nat → Int32) (kept : Nat → Int32) (chosen : Nat → Int32) (across : Nat → Int32) (sum : Nat → Int32) (one : Nat → Int32) (two : Nat → Int32) (base : Nat → Int32) (quotients : Nat → Int32) (text : Nat → Int32) (numbers : Nat → Int32) (entries : Nat → Int32) (before : Nat → Int32) (a0 : Int32) (res : Int32) (hf : fX8_workPivot wide work a0 = some res) : Met l yX8_workPivot wsX8_workPivot rm_X8_workPivot (qP D cI cB cR [.ref (ad 0), .int a0] (wM cI ad states whyKind whyOrder many wide textLong spot readColumns all past refused work kept chosen across sum one two base quotients text numbers entries before) sz) (qI D res (wM cI ad states whyKind whyOrder many wide textLong spot readColumns all past refused work kept chosen across sum one two base quotients text numbers entries before) (wM cI ad states whyKind whyOrder many wide textLong spot readColumns all past refused work kept chosen across sum one two base quotients text numbers entries before) sz) 0 0 (va_A (wM cI ad states whyKind whyOrder many wide textLong spot readColumns all past refused work kept chosen across sum one two base quotients text numbers entries before) sz) := by
  refine entI (plainFor_of_name (by decide)) rfl (Nat.le_of_ble_eq_true rfl) ?_
  intro p e s m args below meth c Q A ls S hG hP hD hA hl hE
  obtain ⟨hx, hb, hml, hown, hts⟩ := S
  have hown : s.vm.findClass RX8 = some m.cls := hown
  have hS : va_S A s.heap s.heap [] := va_S.rf
  have hl : lv_has ls 5 [(0, .ref (ad 0)), (1, .int a0)] := hl
  have hq := hf
  unfold fX8_workPivot at hq
  obtain ⟨H, hH⟩ : ∃ H, H = s.heap := ⟨_, rfl⟩
  obtain ⟨locs, hlo⟩ : ∃ L : List Loc, L = [] := ⟨_, rfl⟩
  have hP : va_P D cls9 (wM cI ad states whyKind whyOrder many wide textLong spot readColumns all past refused work kept chosen across sum one two base quotients text numbers entries before) H := hH ▸ hP
  have hS : va_S A s.heap H locs := by rw [hH, hlo]; exact hS
  suffices hg : W p l e rm_X8_workPivot s m args below meth c H locs 0 0 Q (F0 m 0 ls []) by rw [hH, hlo] at hg; exact hg
  refine lv_aload_n hx hb dX8_workPivot_0 rfl (lv_at hl 0 rfl) ?_
  refine lv_iload_n hx hb dX8_workPivot_1 rfl (lv_at hl 1 rfl) ?_
  obtain ⟨v_3, hq_2, hk⟩ := bd1_s hq
  obtain ⟨r_1, rfl⟩ : ∃ y, y = v_3 := ⟨_, rfl⟩
  have hq := hk _ rfl
  refine callIA (gV (rest := []) ⟨hx, hb, hml, hown, hts⟩ hG hP hD 0 8 rfl rfl (mtX8_workDegree l D cI cB cR ad H.size states whyKind whyOrder many wide textLong spot readColumns all past refused work kept chosen across sum one two base quotients text numbers entries before a0 r_1 hq_2) (cwV 1 hts gX8_workPivot_X8_workDegree rfl rfl rfl ⟨rfl, hd_X8_workDegree⟩ ⟨Nat.le_of_ble_eq_true rfl, Nat.le_of_ble_eq_true rfl⟩) rfl hl.1 rfl (Nat.le_of_ble_eq_true rfl) dX8_workPivot_2) hD hS hA (fun H locs hP hD hS => ?_)
  have hP : va_P D cls9 (wM cI ad states whyKind whyOrder many wide textLong spot readColumns all past refused work kept chosen across sum one two base quotients text numbers entries before) H := hP
  have hD : va_D A (wM cI ad states whyKind whyOrder many wide textLong spot readColumns all past refused work kept chosen across sum one two base quotients text numbers entries before) := hD
  refine lv_istore_n (lv' := [(2, .int r_1), (0, .ref (ad 0)), (1, .int a0)]) hx hb dX8_workPivot_5 rfl hl (by decide) rfl (fun ls hl => ?_)
  refine lv_iconst (v := -1) hx hb dX8_workPivot_6 (by decide) ?_
  refine lv_istore_n (lv' := [(3, .int (-1 : Int32)), (2, .int r_1), (0, .ref (ad 0)), (1, .int a0)]) hx hb dX8_workPivot_7 rfl hl (by decide) rfl (fun ls hl => ?_)
  refine lv_iconst (v := 0) hx hb dX8_workPivot_8 (by decide) ?_
  refine lv_istore (lv' := [(4, .int (0 : Int32)), (3, .int (-1 : Int32)), (2, .int r_1), (0, .ref (ad 0)), (1, .int a0)]) hx hb dX8_workPivot_9 hl (by decide) rfl (fun ls hl => ?_)
  obtain ⟨w1, hw1, hk1⟩ := bd1_s hq
  have hX1 : ∀ (x_12 : Int32), w1 = x_12 → ∀ (H : Heap) (locs : List Loc), va_P D cls9 (wM cI ad states whyKind whyOrder many wide textLong spot readColumns all past refused work kept chosen across sum one two base quotients text numbers entries before) H → va_D A (wM cI ad states whyKind whyOrder many wide textLong spot readColumns all past refused work kept chosen across sum one two base quotients text numbers entries before) → va_S A s.heap H locs → ∀ (ls : Array Slot), lv_has ls 5 [(3, .int x_12)] → W p l e rm_X8_workPivot s m args below meth c H locs 0 0 Q (F0 m 48 ls []) := by
    intro x_12 hq H locs hP hD hS ls hl
    have hq := hk1 _ hq
    refine lv_iload_n hx hb dX8_workPivot_48 rfl (lv_at hl 0 rfl) ?_
    have he := Option.some.inj hq
    subst he
    exact hE H locs _ _ _ rfl dX8_workPivot_49 hP hD hS
  have hL1 : ∀ (n : Nat) (i_4 : Int32) (i_5 : Int32), lrun (fun (z : Int32 × Int32) => fX8_workPivot_s11 wide work a0 r_1 z.1 z.2) n (i_4, i_5) = some w1 → ∀ (H : Heap) (locs : List Loc), va_P D cls9 (wM cI ad states whyKind whyOrder many wide textLong spot readColumns all past refused work kept chosen across sum one two base quotients text numbers entries before) H → va_D A (wM cI ad states whyKind whyOrder many wide textLong spot readColumns all past refused work kept chosen across sum one two base quotients text numbers entries before) → va_S A s.heap H locs → ∀ (ls : Array Slot), lv_has ls 5 [(0, .ref (ad 0)), (1, .int a0), (2, .int r_1), (3, .int i_4), (4, .int i_5)] → W p l e rm_X8_workPivot s m args below meth c H locs 0 0 Q (F0 m 11 ls []) := by
    intro n
    induction n with
    | zero => intro i_4 i_5 h; cases h
    | succ n ih1 =>
      intro i_4 i_5 hr1 H locs hP hD hS ls hl
      obtain ⟨k, v1, hk, hr1, ht1, hv1⟩ := lrun_s hr1
      cases hk
      have hr1 : fX8_workPivot_s11 wide work a0 r_1 i_4 i_5 = some v1 := hr1
      unfold fX8_workPivot_s11 at hr1
      refine lv_iload hx hb dX8_workPivot_11 (lv_at hl 4 rfl) ?_
      refine lv_aload_n hx hb dX8_workPivot_13 rfl (lv_at hl 0 rfl) ?_
      refine va_get (D := D) (ci := 8) (v := .int wide) (C := RX8) (T := TX8) (N := 24) hx hb hts iX8_workPivot_X8 hown hG.1 hP 0 rfl rfl 8 (by decide) (hts _ fX8_workPivot_1) (fun _ h9 => h9) rfl dX8_workPivot_14 ?_
      refine lv_icmp_ge (tgt := 48) hx hb dX8_workPivot_17 (by decide) (fun c_6 => ?_) (fun c_6 => ?_)
      · have hr1 := it_t c_6 hr1
        exact hX1 i_4 (hv1 _ (Option.some.inj hr1).symm).symm H locs hP hD hS ls (lv_sub hl [3] rfl)
      · have hr1 := it_f c_6 hr1
        refine lv_iload_n hx hb dX8_workPivot_20 rfl (lv_at hl 2 rfl) ?_
        refine lv_if_lt (tgt := 40) hx hb dX8_workPivot_21 (by decide) (fun c_7 => ?_) (fun c_7 => ?_)
        · have hr1 := it_t c_7 hr1
          refine lv_iload_n hx hb dX8_workPivot_40 rfl (lv_at hl 3 rfl) ?_
          refine lv_istore_n (lv' := [(3, .int i_4), (0, .ref (ad 0)), (1, .int a0), (2, .int r_1), (4, .int i_5)]) hx hb dX8_workPivot_41 rfl hl (by decide) rfl (fun ls hl => ?_)
          refine lv_iinc (v := (i_5 + 1)) (lv' := [(4, .int (i_5 + 1)), (3, .int i_4), (0, .ref (ad 0)), (1, .int a0), (2, .int r_1)]) hx hb dX8_workPivot_42 hl (k := 4) rfl rfl (by decide) rfl (fun ls hl => ?_)
          refine lv_goto (tgt := 11) hx hb dX8_workPivot_45 (by decide) ?_
          exact ih1 i_4 (i_5 + 1) (ht1 _ (Option.some.inj hr1).symm) H locs hP hD hS ls (lv_sub hl [2, 3, 4, 1, 0] rfl)
        · have hr1 := it_f c_7 hr1
          refine lv_aload_n hx hb dX8_workPivot_24 rfl (lv_at hl 0 rfl) ?_
          refine lv_iload_n hx hb dX8_workPivot_25 rfl (lv_at hl 1 rfl) ?_
          refine lv_iload hx hb dX8_workPivot_26 (lv_at hl 4 rfl) ?_
          obtain ⟨v_10, hq_9, hk⟩ := bd1_s hr1
          obtain ⟨r_8, rfl⟩ : ∃ y, y = v_10 := ⟨_, rfl⟩
          have hr1 := hk _ rfl
          refine callIA (gV (rest := []) ⟨hx, hb, hml, hown, hts⟩ hG hP hD 0 8 rfl rfl (mtX8_workDegreeAt l D cI cB cR ad H.size states whyKind whyOrder many wide textLong spot readColumns all past refused work kept chosen across sum one two base quotients text numbers entries before a0 i_5 r_8 hq_9) (cwV 2 hts gX8_workPivot_X8_workDegreeAt rfl rfl rfl ⟨rfl, hd_X8_workDegreeAt⟩ ⟨Nat.le_of_ble_eq_true rfl, Nat.le_of_ble_eq_true rfl⟩) rfl hl.1 rfl (Nat.le_of_ble_eq_true rfl) dX8_workPivot_28) hD hS hA (fun H locs hP hD hS => ?_)
          have hP : va_P D cls9 (wM cI ad states whyKind whyOrder many wide textLong spot readColumns all past refused work kept chosen across sum one two base quotients text numbers entries before) H := hP
          have hD : va_D A (wM cI ad states whyKind whyOrder many wide textLong spot readColumns all past refused work kept chosen across sum one two base quotients text numbers entries before) := hD
          refine lv_iload_n hx hb dX8_workPivot_31 rfl (lv_at hl 2 rfl) ?_
          refine lv_icmp_ne (tgt := 40) hx hb dX8_workPivot_32 (by decide) (fun c_11 => ?_) (fun c_11 => ?_)
          · have hr1 := it_f c_11 hr1
            refine lv_iload_n hx hb dX8_workPivot_40 rfl (lv_at hl 3 rfl) ?_
            refine lv_istore_n (lv' := [(3, .int i_4), (0, .ref (ad 0)), (1, .int a0), (2, .int r_1), (4, .int i_5)]) hx hb dX8_workPivot_41 rfl hl (by decide) rfl (fun ls hl => ?_)
            refine lv_iinc (v := (i_5 + 1)) (lv' := [(4, .int (i_5 + 1)), (3, .int i_4), (0, .ref (ad 0)), (1, .int a0), (2, .int r_1)]) hx hb dX8_workPivot_42 hl (k := 4) rfl rfl (by decide) rfl (fun ls hl => ?_)
            refine lv_goto (tgt := 11) hx hb dX8_workPivot_45 (by decide) ?_
            exact ih1 i_4 (i_5 + 1) (ht1 _ (Option.some.inj hr1).symm) H locs hP hD hS ls (lv_sub hl [2, 3, 4, 1, 0] rfl)
          · have hr1 := it_t c_11 hr1
            refine lv_iload hx hb dX8_workPivot_35 (lv_at hl 4 rfl) ?_
            refine lv_goto (tgt := 41) hx hb dX8_workPivot_37 (by decide) ?_
            refine lv_istore_n (lv' := [(3, .int i_5), (0, .ref (ad 0)), (1, .int a0), (2, .int r_1), (4, .int i_5)]) hx hb dX8_workPivot_41 rfl hl (by decide) rfl (fun ls hl => ?_)
            refine lv_iinc (v := (i_5 + 1)) (lv' := [(4, .int (i_5 + 1)), (3, .int i_5), (0, .ref (ad 0)), (1, .int a0), (2, .int r_1)]) hx hb dX8_workPivot_42 hl (k := 4) rfl rfl (by decide) rfl (fun ls hl => ?_)
            refine lv_goto (tgt := 11) hx hb dX8_workPivot_45 (by decide) ?_
            exact ih1 i_5 (i_5 + 1) (ht1 _ (Option.some.inj hr1).symm) H locs hP hD hS ls (lv_sub hl [2, 3, 4, 1, 0] rfl)
  obtain ⟨n1, hn1⟩ := Lp_s hw1
  exact hL1 n1 (-1 : Int32) (0 : Int32) hn1 H locs hP hD hS ls (lv_sub hl [3, 4, 2, 1, 0] rfl)
abbrev rm_X8_takes : Room := { frames := 2, cells := 0, slots := 0, locals := 45 }
theorem iX8_takes_X8 : ∀ w ∈ wsX80, w ∈ wsX8_takes := fun _ h => (List.mem_cons_of_mem _ (List.mem_append_right _ h))
theorem fX8_takes_1 : Cond.fieldLink RX8 23 "PopovRowsModel" "work" "[I" ∈ wsX8_takes := (List.mem_cons_of_mem _ (List.mem_append_left _ (List.mem_of_getElem? (i := 0) rfl)))
theorem fX8_takes_2 : Cond.fieldLink RX8 162 "PopovRowsModel" "wide" "I" ∈ wsX8_takes := (List.mem_cons_of_mem _ (List.mem_append_left _ (List.mem_of_getElem? (i := 1) rfl)))
set_option maxHeartbeats 4000000 in
set_option maxRecDepth 100000 in
theorem mtX8_takes (l : Launch) (D : va_G) (cI cB cR : ClassId) (ad : Nat → Nat) (sz : Nat) (states : Int32) (whyKind : Int32) (whyOrder : Int32) (many : Int32) (wide : Int32) (textLong : Int32) (spot : Int32) (readColumns : Int32) (all : Nat → Int32) (past : Nat → Int32) (refused : Nat → Int32) (work : Nat → Int32) (kept : Nat → Int32) (chosen : Nat → Int32) (across : Nat → Int32) (sum : Nat → Int32) (one : Nat → Int32) (two : Nat → Int32) (base : Nat → Int32) (quotients : Nat → Int32) (text : Nat → Int32) (numbers : Nat → Int32) (entries : Nat → Int32) (before : Nat → Int32) (a0 : Int32) (a1 : Int32) (a2 : Int32) (res : Nat → Int32) (hf : fX8_takes wide all work a0 a1 a2 = some res) : Met l yX8_takes wsX8_takes rm_X8_takes (qP D cI cB cR [.ref (ad 0), .int a0, .int a1, .int a2] (wM cI ad states whyKind whyOrder many wide textLong spot readColumns all past refused work kept chosen across sum one two base quotients text numbers entries before) sz) (qV D (wM cI ad states whyKind whyOrder many wide textLong spot readColumns all past refused work kept chosen across sum one two base quotients text numbers entries before) (wM cI ad states whyKind whyOrder many wide textLong spot readColumns all past refused res kept chosen across sum one two base quotients text numbers entries before) sz) 0 0 (va_A (wM cI ad states whyKind whyOrder many wide textLong spot readColumns all past refused work kept chosen across sum one two base quotients text numbers entries before) sz) := by
  refine entV (plainFor_of_name (by decide)) rfl (Nat.le_of_ble_eq_true rfl) ?_
  intro p e s m args below meth c Q A ls S hG hP hD hA hl hE
  obtain ⟨hx, hb, hml, hown, hts⟩ := S
  have hown : s.vm.findClass RX8 = some m.cls := hown
  have hS : va_S A s.heap s.heap [] := va_S.rf
  have hl : lv_has ls 10 [(0, .ref (ad 0)), (1, .int a0), (2, .int a1), (3, .int a2)] := hl
  have hq := hf
  unfold fX8_takes at hq
  obtain ⟨H, hH⟩ : ∃ H, H = s.heap := ⟨_, rfl⟩
  obtain ⟨locs, hlo⟩ : ∃ L : List Loc, L = [] := ⟨_, rfl⟩
  have hP : va_P D cls9 (wM cI ad states whyKind whyOrder many wide textLong spot readColumns all past refused work kept chosen across sum one two base quotients text numbers entries before) H := hH ▸ hP
  have hS : va_S A s.heap H locs := by rw [hH, hlo]; exact hS
  suffices hg : W p l e rm_X8_takes s m args below meth c H locs 0 0 Q (F0 m 0 ls []) by rw [hH, hlo] at hg; exact hg
  refine lv_aload_n hx hb dX8_takes_0 rfl (lv_at hl 0 rfl) ?_
  refine lv_iload_n hx hb dX8_takes_1 rfl (lv_at hl 1 rfl) ?_
  refine lv_iload_n hx hb dX8_takes_2 rfl (lv_at hl 3 rfl) ?_
  obtain ⟨v_3, hq_2, hk⟩ := bd1_s hq
  obtain ⟨r_1, rfl⟩ : ∃ y, y = v_3 := ⟨_, rfl⟩
  have hq := hk _ rfl
  refine callIA (gV (rest := []) ⟨hx, hb, hml, hown, hts⟩ hG hP hD 0 8 rfl rfl (mtX8_workDegreeAt l D cI cB cR ad H.size states whyKind whyOrder many wide textLong spot readColumns all past refused work kept chosen across sum one two base quotients text numbers entries before a0 a2 r_1 hq_2) (cwV 2 hts gX8_takes_X8_workDegreeAt rfl rfl rfl ⟨rfl, hd_X8_workDegreeAt⟩ ⟨Nat.le_of_ble_eq_true rfl, Nat.le_of_ble_eq_true rfl⟩) rfl hl.1 rfl (Nat.le_of_ble_eq_true rfl) dX8_takes_3) hD hS hA (fun H locs hP hD hS => ?_)
  have hP : va_P D cls9 (wM cI ad states whyKind whyOrder many wide textLong spot readColumns all past refused work kept chosen across sum one two base quotients text numbers entries before) H := hP
  have hD : va_D A (wM cI ad states whyKind whyOrder many wide textLong spot readColumns all past refused work kept chosen across sum one two base quotients text numbers entries before) := hD
  refine lv_istore (lv' := [(4, .int r_1), (0, .ref (ad 0)), (1, .int a0), (2, .int a1), (3, .int a2)]) hx hb dX8_takes_6 hl (by decide) rfl (fun ls hl => ?_)
  refine lv_aload_n hx hb dX8_takes_8 rfl (lv_at hl 1 rfl) ?_
  refine lv_iload_n hx hb dX8_takes_9 rfl (lv_at hl 3 rfl) ?_
  refine lv_iload_n hx hb dX8_takes_10 rfl (lv_at hl 4 rfl) ?_
  obtain ⟨v_6, hq_5, hk⟩ := bd1_s hq
  obtain ⟨r_4, rfl⟩ : ∃ y, y = v_6 := ⟨_, rfl⟩
  have hq := hk _ rfl
  refine callIA (gV (rest := []) ⟨hx, hb, hml, hown, hts⟩ hG hP hD 0 8 rfl rfl (mtX8_workDegreeAt l D cI cB cR ad H.size states whyKind whyOrder many wide textLong spot readColumns all past refused work kept chosen across sum one two base quotients text numbers entries before a1 a2 r_4 hq_5) (cwV 2 hts gX8_takes_X8_workDegreeAt rfl rfl rfl ⟨rfl, hd_X8_workDegreeAt⟩ ⟨Nat.le_of_ble_eq_true rfl, Nat.le_of_ble_eq_true rfl⟩) rfl hl.1 rfl (Nat.le_of_ble_eq_true rfl) dX8_takes_11) hD hS hA (fun H locs hP hD hS => ?_)
  have hP : va_P D cls9 (wM cI ad states whyKind whyOrder many wide textLong spot readColumns all past refused work kept chosen across sum one two base quotients text numbers entries before) H := hP
  have hD : va_D A (wM cI ad states whyKind whyOrder many wide textLong spot readColumns all past refused work kept chosen across sum one two base quotients text numbers entries before) := hD
  refine lv_istore (lv' := [(5, .int r_4), (4, .int r_1), (0, .ref (ad 0)), (1, .int a0), (2, .int a1), (3, .int a2)]) hx hb dX8_takes_14 hl (by decide) rfl (fun ls hl => ?_)
  refine lv_aload_n hx hb dX8_takes_16 rfl (lv_at hl 2 rfl) ?_
  refine va_get (D := D) (ci := 8) (v := .ref (ad 4)) (C := RX8) (T := TX8) (N := 24) hx hb hts iX8_takes_X8 hown hG.1 hP 0 rfl rfl 6 (by decide) (hts _ fX8_takes_1) (fun _ h9 => h9) rfl dX8_takes_17 ?_
  refine lv_iload_n hx hb dX8_takes_20 rfl (lv_at hl 3 rfl) ?_
  refine lv_iload_n hx hb dX8_takes_21 rfl (lv_at hl 5 rfl) ?_
  refine lv_iload hx hb dX8_takes_22 (lv_at hl 1 rfl) ?_
  refine callI0 (gS (rest := [.ref (ad 4)]) ⟨hx, hb, hml, hown, hts⟩ hG vaP0 (vaD0 (A := A)) (mtX8_cell l D cI cB cR H.size a0 a2 r_1 _ rfl) (va_cwS 3 hts gX8_takes_X8_cell rfl rfl rfl hd_X8_cell ⟨Nat.le_of_ble_eq_true rfl, Nat.le_of_ble_eq_true rfl⟩) rfl hl.1 rfl (Nat.le_of_ble_eq_true rfl) dX8_takes_24) hP hS hA (fun H locs hP hS => ?_)
  obtain ⟨h_7, hq⟩ := gd_s hq
  refine va_iald hx hb hG.1 hP 4 0 rfl rfl h_7 dX8_takes_27 ?_
  refine lv_aload_n hx hb dX8_takes_28 rfl (lv_at hl 2 rfl) ?_
  refine lv_aload_n hx hb dX8_takes_29 rfl (lv_at hl 2 rfl) ?_
  refine va_get (D := D) (ci := 8) (v := .ref (ad 4)) (C := RX8) (T := TX8) (N := 24) hx hb hts iX8_takes_X8 hown hG.1 hP 0 rfl rfl 6 (by decide) (hts _ fX8_takes_1) (fun _ h9 => h9) rfl dX8_takes_30 ?_
  refine lv_iload_n hx hb dX8_takes_33 rfl (lv_at hl 4 rfl) ?_
  refine lv_iload_n hx hb dX8_takes_34 rfl (lv_at hl 5 rfl) ?_
  refine lv_iload hx hb dX8_takes_35 (lv_at hl 0 rfl) ?_
  refine callI0 (gS (rest := [.ref (ad 4), .ref (ad 0), .int (work (fX8_cell a0 a2 r_1).toNatClampNeg)]) ⟨hx, hb, hml, hown, hts⟩ hG vaP0 (vaD0 (A := A)) (mtX8_cell l D cI cB cR H.size a1 a2 r_4 _ rfl) (va_cwS 3 hts gX8_takes_X8_cell rfl rfl rfl hd_X8_cell ⟨Nat.le_of_ble_eq_true rfl, Nat.le_of_ble_eq_true rfl⟩) rfl hl.1 rfl (Nat.le_of_ble_eq_true rfl) dX8_takes_37) hP hS hA (fun H locs hP hS => ?_)
  obtain ⟨h_8, hq⟩ := gd_s hq
  refine va_iald hx hb hG.1 hP 4 0 rfl rfl h_8 dX8_takes_40 ?_
  obtain ⟨v_11, hq_10, hk⟩ := bd1_s hq
  obtain ⟨r_9, rfl⟩ : ∃ y, y = v_11 := ⟨_, rfl⟩
  have hq := hk _ rfl
  refine callIA (gV (rest := [.int (work (fX8_cell a0 a2 r_1).toNatClampNeg)]) ⟨hx, hb, hml, hown, hts⟩ hG hP hD 0 8 rfl rfl (mtX8_inverse l D cI cB cR ad H.size states whyKind whyOrder many wide textLong spot readColumns all past refused work kept chosen across sum one two base quotients text numbers entries before (work (fX8_cell a1 a2 r_4).toNatClampNeg) r_9 hq_10) (cwV 1 hts gX8_takes_X8_inverse rfl rfl rfl ⟨rfl, hd_X8_inverse⟩ ⟨Nat.le_of_ble_eq_true rfl, Nat.le_of_ble_eq_true rfl⟩) rfl hl.1 rfl (Nat.le_of_ble_eq_true rfl) dX8_takes_41) hD hS hA (fun H locs hP hD hS => ?_)
  have hP : va_P D cls9 (wM cI ad states whyKind whyOrder many wide textLong spot readColumns all past refused work kept chosen across sum one two base quotients text numbers entries before) H := hP
  have hD : va_D A (wM cI ad states whyKind whyOrder many wide textLong spot readColumns all past refused work kept chosen across sum one two base quotients text numbers entries before) := hD
  refine lv_imul hx hb dX8_takes_44 ?_
  refine lv_aload_n hx hb dX8_takes_45 rfl (lv_at hl 2 rfl) ?_
  obtain ⟨v_14, hq_13, hk⟩ := bd1_s hq
  obtain ⟨r_12, rfl⟩ : ∃ y, y = v_14 := ⟨_, rfl⟩
  have hq := hk _ rfl
  refine callIA (gV (rest := [.int ((work (fX8_cell a0 a2 r_1).toNatClampNeg) * r_9)]) ⟨hx, hb, hml, hown, hts⟩ hG hP hD 0 8 rfl rfl (mtX8_modulus l D cI cB cR ad H.size states whyKind whyOrder many wide textLong spot readColumns all past refused work kept chosen across sum one two base quotients text numbers entries before r_12 hq_13) (cwV 0 hts gX8_takes_X8_modulus rfl rfl rfl ⟨rfl, hd_X8_modulus⟩ ⟨Nat.le_of_ble_eq_true rfl, Nat.le_of_ble_eq_true rfl⟩) rfl hl.1 rfl (Nat.le_of_ble_eq_true rfl) dX8_takes_46) hD hS hA (fun H locs hP hD hS => ?_)
  have hP : va_P D cls9 (wM cI ad states whyKind whyOrder many wide textLong spot readColumns all past refused work kept chosen across sum one two base quotients text numbers entries before) H := hP
  have hD : va_D A (wM cI ad states whyKind whyOrder many wide textLong spot readColumns all past refused work kept chosen across sum one two base quotients text numbers entries before) := hD
  obtain ⟨h_15, hq⟩ := gd_s hq
  refine lv_irem hx hb dX8_takes_49 h_15 ?_
  refine lv_asi (y := (rem32 ((work (fX8_cell a0 a2 r_1).toNatClampNeg) * r_9) r_12)) rfl ?_
  refine lv_istore (lv' := [(6, .int (rem32 ((work (fX8_cell a0 a2 r_1).toNatClampNeg) * r_9) r_12)), (5, .int r_4), (4, .int r_1), (0, .ref (ad 0)), (1, .int a0), (2, .int a1), (3, .int a2)]) hx hb dX8_takes_50 hl (by decide) rfl (fun ls hl => ?_)
  refine lv_iload hx hb dX8_takes_52 (lv_at hl 2 rfl) ?_
  refine lv_iload hx hb dX8_takes_54 (lv_at hl 1 rfl) ?_
  refine lv_isub hx hb dX8_takes_56 ?_
  refine lv_istore (lv' := [(7, .int (r_1 - r_4)), (6, .int (rem32 ((work (fX8_cell a0 a2 r_1).toNatClampNeg) * r_9) r_12)), (5, .int r_4), (4, .int r_1), (0, .ref (ad 0)), (1, .int a0), (2, .int a1), (3, .int a2)]) hx hb dX8_takes_57 hl (by decide) rfl (fun ls hl => ?_)
  refine lv_iconst (v := 0) hx hb dX8_takes_59 (by decide) ?_
  refine lv_istore (lv' := [(8, .int (0 : Int32)), (7, .int (r_1 - r_4)), (6, .int (rem32 ((work (fX8_cell a0 a2 r_1).toNatClampNeg) * r_9) r_12)), (5, .int r_4), (4, .int r_1), (0, .ref (ad 0)), (1, .int a0), (2, .int a1), (3, .int a2)]) hx hb dX8_takes_60 hl (by decide) rfl (fun ls hl => ?_)
  obtain ⟨w1, hw1, hk1⟩ := bd1_s hq
  have hX1 : ∀ (x_29 : Nat → Int32), w1 = x_29 → ∀ (H : Heap) (locs : List Loc), va_P D cls9 (wM cI ad states whyKind whyOrder many wide textLong spot readColumns all past refused x_29 kept chosen across sum one two base quotients text numbers entries before) H → va_D A (wM cI ad states whyKind whyOrder many wide textLong spot readColumns all past refused x_29 kept chosen across sum one two base quotients text numbers entries before) → va_S A s.heap H locs → ∀ (ls : Array Slot), lv_has ls 10 [] → W p l e rm_X8_takes s m args below meth c H locs 0 0 Q (F0 m 144 ls []) := by
    intro x_29 hq H locs hP hD hS ls hl
    have hq := hk1 _ hq
    have he := Option.some.inj hq
    subst he
    exact hE H locs _ _ dX8_takes_144 hP hD hS
  have hL1 : ∀ (n : Nat) (i_16 : Int32) (i_17 : Nat → Int32), lrun (fun (z : Int32 × (Nat → Int32)) => fX8_takes_s62 wide all work a0 a1 a2 r_1 r_4 r_9 r_12 z.1 z.2) n (i_16, i_17) = some w1 → ∀ (H : Heap) (locs : List Loc), va_P D cls9 (wM cI ad states whyKind whyOrder many wide textLong spot readColumns all past refused i_17 kept chosen across sum one two base quotients text numbers entries before) H → va_D A (wM cI ad states whyKind whyOrder many wide textLong spot readColumns all past refused i_17 kept chosen across sum one two base quotients text numbers entries before) → va_S A s.heap H locs → ∀ (ls : Array Slot), lv_has ls 10 [(0, .ref (ad 0)), (1, .int a0), (2, .int a1), (6, .int (rem32 ((work (fX8_cell a0 a2 r_1).toNatClampNeg) * r_9) r_12)), (7, .int (r_1 - r_4)), (8, .int i_16)] → W p l e rm_X8_takes s m args below meth c H locs 0 0 Q (F0 m 62 ls []) := by
    intro n
    induction n with
    | zero => intro i_16 i_17 h; cases h
    | succ n ih1 =>
      intro i_16 i_17 hr1 H locs hP hD hS ls hl
      obtain ⟨k, v1, hk, hr1, ht1, hv1⟩ := lrun_s hr1
      cases hk
      have hr1 : fX8_takes_s62 wide all work a0 a1 a2 r_1 r_4 r_9 r_12 i_16 i_17 = some v1 := hr1
      unfold fX8_takes_s62 at hr1
      refine lv_iload hx hb dX8_takes_62 (lv_at hl 5 rfl) ?_
      refine lv_aload_n hx hb dX8_takes_64 rfl (lv_at hl 0 rfl) ?_
      refine va_get (D := D) (ci := 8) (v := .int wide) (C := RX8) (T := TX8) (N := 24) hx hb hts iX8_takes_X8 hown hG.1 hP 0 rfl rfl 8 (by decide) (hts _ fX8_takes_2) (fun _ h9 => h9) rfl dX8_takes_65 ?_
      refine lv_icmp_ge (tgt := 144) hx hb dX8_takes_68 (by decide) (fun c_18 => ?_) (fun c_18 => ?_)
      · have hr1 := it_t c_18 hr1
        exact hX1 i_17 (hv1 _ (Option.some.inj hr1).symm).symm H locs hP hD hS ls (lv_sub hl [] rfl)
      · have hr1 := it_f c_18 hr1
        refine lv_iload hx hb dX8_takes_71 (lv_at hl 4 rfl) ?_
        refine lv_istore (lv' := [(9, .int (r_1 - r_4)), (0, .ref (ad 0)), (1, .int a0), (2, .int a1), (6, .int (rem32 ((work (fX8_cell a0 a2 r_1).toNatClampNeg) * r_9) r_12)), (7, .int (r_1 - r_4)), (8, .int i_16)]) hx hb dX8_takes_73 hl (by decide) rfl (fun ls hl => ?_)
        obtain ⟨w2, hw2, hk2⟩ := bd1_s hr1
        have hX2 : ∀ (x_28 : Nat → Int32), w2 = x_28 → ∀ (H : Heap) (locs : List Loc), va_P D cls9 (wM cI ad states whyKind whyOrder many wide textLong spot readColumns all past refused x_28 kept chosen across sum one two base quotients text numbers entries before) H → va_D A (wM cI ad states whyKind whyOrder many wide textLong spot readColumns all past refused x_28 kept chosen across sum one two base quotients text numbers entries before) → va_S A s.heap H locs → ∀ (ls : Array Slot), lv_has ls 10 [(0, .ref (ad 0)), (1, .int a0), (2, .int a1), (6, .int (rem32 ((work (fX8_cell a0 a2 r_1).toNatClampNeg) * r_9) r_12)), (7, .int (r_1 - r_4)), (8, .int i_16)] → W p l e rm_X8_takes s m args below meth c H locs 0 0 Q (F0 m 138 ls []) := by
          intro x_28 hq H locs hP hD hS ls hl
          have hr1 := hk2 _ hq
          refine lv_iinc (v := (i_16 + 1)) (lv' := [(8, .int (i_16 + 1)), (0, .ref (ad 0)), (1, .int a0), (2, .int a1), (6, .int (rem32 ((work (fX8_cell a0 a2 r_1).toNatClampNeg) * r_9) r_12)), (7, .int (r_1 - r_4))]) hx hb dX8_takes_138 hl (k := 5) rfl rfl (by decide) rfl (fun ls hl => ?_)
          refine lv_goto (tgt := 62) hx hb dX8_takes_141 (by decide) ?_
          exact ih1 (i_16 + 1) x_28 (ht1 _ (Option.some.inj hr1).symm) H locs hP hD hS ls (lv_sub hl [1, 2, 3, 4, 5, 0] rfl)
        have hL2 : ∀ (n : Nat) (i_19 : Int32) (i_20 : Nat → Int32), lrun (fun (z : Int32 × (Nat → Int32)) => fX8_takes_s75 all work a0 a1 a2 r_1 r_4 r_9 i_16 r_12 z.1 z.2) n (i_19, i_20) = some w2 → ∀ (H : Heap) (locs : List Loc), va_P D cls9 (wM cI ad states whyKind whyOrder many wide textLong spot readColumns all past refused i_20 kept chosen across sum one two base quotients text numbers entries before) H → va_D A (wM cI ad states whyKind whyOrder many wide textLong spot readColumns all past refused i_20 kept chosen across sum one two base quotients text numbers entries before) → va_S A s.heap H locs → ∀ (ls : Array Slot), lv_has ls 10 [(0, .ref (ad 0)), (1, .int a0), (2, .int a1), (6, .int (rem32 ((work (fX8_cell a0 a2 r_1).toNatClampNeg) * r_9) r_12)), (7, .int (r_1 - r_4)), (8, .int i_16), (9, .int i_19)] → W p l e rm_X8_takes s m args below meth c H locs 0 0 Q (F0 m 75 ls []) := by
          intro n
          induction n with
          | zero => intro i_19 i_20 h; cases h
          | succ n ih2 =>
            intro i_19 i_20 hr2 H locs hP hD hS ls hl
            obtain ⟨k, v2, hk, hr2, ht2, hv2⟩ := lrun_s hr2
            cases hk
            have hr2 : fX8_takes_s75 all work a0 a1 a2 r_1 r_4 r_9 i_16 r_12 i_19 i_20 = some v2 := hr2
            unfold fX8_takes_s75 at hr2
            refine lv_iload hx hb dX8_takes_75 (lv_at hl 6 rfl) ?_
            refine lv_bipush (v := 8) hx hb dX8_takes_77 (by decide) ?_
            refine lv_icmp_ge (tgt := 138) hx hb dX8_takes_79 (by decide) (fun c_21 => ?_) (fun c_21 => ?_)
            · have hr2 := it_t c_21 hr2
              exact hX2 i_20 (hv2 _ (Option.some.inj hr2).symm).symm H locs hP hD hS ls (lv_sub hl [0, 1, 2, 3, 4, 5] rfl)
            · have hr2 := it_f c_21 hr2
              refine lv_aload_n hx hb dX8_takes_82 rfl (lv_at hl 0 rfl) ?_
              refine va_get (D := D) (ci := 8) (v := .ref (ad 4)) (C := RX8) (T := TX8) (N := 24) hx hb hts iX8_takes_X8 hown hG.1 hP 0 rfl rfl 6 (by decide) (hts _ fX8_takes_1) (fun _ h9 => h9) rfl dX8_takes_83 ?_
              refine lv_iload_n hx hb dX8_takes_86 rfl (lv_at hl 1 rfl) ?_
              refine lv_iload hx hb dX8_takes_87 (lv_at hl 5 rfl) ?_
              refine lv_iload hx hb dX8_takes_89 (lv_at hl 6 rfl) ?_
              refine callI0 (gS (rest := [.ref (ad 4)]) ⟨hx, hb, hml, hown, hts⟩ hG vaP0 (vaD0 (A := A)) (mtX8_cell l D cI cB cR H.size a0 i_16 i_19 _ rfl) (va_cwS 3 hts gX8_takes_X8_cell rfl rfl rfl hd_X8_cell ⟨Nat.le_of_ble_eq_true rfl, Nat.le_of_ble_eq_true rfl⟩) rfl hl.1 rfl (Nat.le_of_ble_eq_true rfl) dX8_takes_91) hP hS hA (fun H locs hP hS => ?_)
              refine lv_aload_n hx hb dX8_takes_94 rfl (lv_at hl 0 rfl) ?_
              refine lv_aload_n hx hb dX8_takes_95 rfl (lv_at hl 0 rfl) ?_
              refine va_get (D := D) (ci := 8) (v := .ref (ad 4)) (C := RX8) (T := TX8) (N := 24) hx hb hts iX8_takes_X8 hown hG.1 hP 0 rfl rfl 6 (by decide) (hts _ fX8_takes_1) (fun _ h9 => h9) rfl dX8_takes_96 ?_
              refine lv_iload_n hx hb dX8_takes_99 rfl (lv_at hl 1 rfl) ?_
              refine lv_iload hx hb dX8_takes_100 (lv_at hl 5 rfl) ?_
              refine lv_iload hx hb dX8_takes_102 (lv_at hl 6 rfl) ?_
              refine callI0 (gS (rest := [.ref (ad 4), .ref (ad 0), .int (fX8_cell a0 i_16 i_19), .ref (ad 4)]) ⟨hx, hb, hml, hown, hts⟩ hG vaP0 (vaD0 (A := A)) (mtX8_cell l D cI cB cR H.size a0 i_16 i_19 _ rfl) (va_cwS 3 hts gX8_takes_X8_cell rfl rfl rfl hd_X8_cell ⟨Nat.le_of_ble_eq_true rfl, Nat.le_of_ble_eq_true rfl⟩) rfl hl.1 rfl (Nat.le_of_ble_eq_true rfl) dX8_takes_104) hP hS hA (fun H locs hP hS => ?_)
              obtain ⟨h_22, hr2⟩ := gd_s hr2
              refine va_iald hx hb hG.1 hP 4 0 rfl rfl h_22 dX8_takes_107 ?_
              refine lv_iload hx hb dX8_takes_108 (lv_at hl 3 rfl) ?_
              refine lv_aload_n hx hb dX8_takes_110 rfl (lv_at hl 0 rfl) ?_
              refine va_get (D := D) (ci := 8) (v := .ref (ad 4)) (C := RX8) (T := TX8) (N := 24) hx hb hts iX8_takes_X8 hown hG.1 hP 0 rfl rfl 6 (by decide) (hts _ fX8_takes_1) (fun _ h9 => h9) rfl dX8_takes_111 ?_
              refine lv_iload_n hx hb dX8_takes_114 rfl (lv_at hl 2 rfl) ?_
              refine lv_iload hx hb dX8_takes_115 (lv_at hl 5 rfl) ?_
              refine lv_iload hx hb dX8_takes_117 (lv_at hl 6 rfl) ?_
              refine lv_iload hx hb dX8_takes_119 (lv_at hl 4 rfl) ?_
              refine lv_isub hx hb dX8_takes_121 ?_
              refine callI0 (gS (rest := [.ref (ad 4), .int (rem32 ((work (fX8_cell a0 a2 r_1).toNatClampNeg) * r_9) r_12), .int (i_20 (fX8_cell a0 i_16 i_19).toNatClampNeg), .ref (ad 0), .int (fX8_cell a0 i_16 i_19), .ref (ad 4)]) ⟨hx, hb, hml, hown, hts⟩ hG vaP0 (vaD0 (A := A)) (mtX8_cell l D cI cB cR H.size a1 i_16 (i_19 - (r_1 - r_4)) _ rfl) (va_cwS 3 hts gX8_takes_X8_cell rfl rfl rfl hd_X8_cell ⟨Nat.le_of_ble_eq_true rfl, Nat.le_of_ble_eq_true rfl⟩) rfl hl.1 rfl (Nat.le_of_ble_eq_true rfl) dX8_takes_122) hP hS hA (fun H locs hP hS => ?_)
              obtain ⟨h_23, hr2⟩ := gd_s hr2
              refine va_iald hx hb hG.1 hP 4 0 rfl rfl h_23 dX8_takes_125 ?_
              refine lv_imul hx hb dX8_takes_126 ?_
              refine lv_isub hx hb dX8_takes_127 ?_
              obtain ⟨v_26, hq_25, hk⟩ := bd1_s hr2
              obtain ⟨r_24, rfl⟩ : ∃ y, y = v_26 := ⟨_, rfl⟩
              have hr2 := hk _ rfl
              refine callIA (gV (rest := [.int (fX8_cell a0 i_16 i_19), .ref (ad 4)]) ⟨hx, hb, hml, hown, hts⟩ hG hP hD 0 8 rfl rfl (mtX8_left l D cI cB cR ad H.size states whyKind whyOrder many wide textLong spot readColumns all past refused i_20 kept chosen across sum one two base quotients text numbers entries before ((i_20 (fX8_cell a0 i_16 i_19).toNatClampNeg) - ((rem32 ((work (fX8_cell a0 a2 r_1).toNatClampNeg) * r_9) r_12) * (i_20 (fX8_cell a1 i_16 (i_19 - (r_1 - r_4))).toNatClampNeg))) r_24 hq_25) (cwV 1 hts gX8_takes_X8_left rfl rfl rfl ⟨rfl, hd_X8_left⟩ ⟨Nat.le_of_ble_eq_true rfl, Nat.le_of_ble_eq_true rfl⟩) rfl hl.1 rfl (Nat.le_of_ble_eq_true rfl) dX8_takes_128) hD hS hA (fun H locs hP hD hS => ?_)
              have hP : va_P D cls9 (wM cI ad states whyKind whyOrder many wide textLong spot readColumns all past refused i_20 kept chosen across sum one two base quotients text numbers entries before) H := hP
              have hD : va_D A (wM cI ad states whyKind whyOrder many wide textLong spot readColumns all past refused i_20 kept chosen across sum one two base quotients text numbers entries before) := hD
              obtain ⟨h_27, hr2⟩ := gd_s hr2
              refine va_iast hx hb hG.1 hP hD hS 4 0 rfl rfl h_27 dX8_takes_131 (fun H locs hP hD hS => ?_)
              have hP : va_P D cls9 (wM cI ad states whyKind whyOrder many wide textLong spot readColumns all past refused (upd i_20 (fX8_cell a0 i_16 i_19).toNatClampNeg r_24) kept chosen across sum one two base quotients text numbers entries before) H := hP
              have hD : va_D A (wM cI ad states whyKind whyOrder many wide textLong spot readColumns all past refused (upd i_20 (fX8_cell a0 i_16 i_19).toNatClampNeg r_24) kept chosen across sum one two base quotients text numbers entries before) := hD
              refine lv_iinc (v := (i_19 + 1)) (lv' := [(9, .int (i_19 + 1)), (0, .ref (ad 0)), (1, .int a0), (2, .int a1), (6, .int (rem32 ((work (fX8_cell a0 a2 r_1).toNatClampNeg) * r_9) r_12)), (7, .int (r_1 - r_4)), (8, .int i_16)]) hx hb dX8_takes_132 hl (k := 6) rfl rfl (by decide) rfl (fun ls hl => ?_)
              refine lv_goto (tgt := 75) hx hb dX8_takes_135 (by decide) ?_
              exact ih2 (i_19 + 1) (upd i_20 (fX8_cell a0 i_16 i_19).toNatClampNeg r_24) (ht2 _ (Option.some.inj hr2).symm) H locs hP hD hS ls (lv_sub hl [1, 2, 3, 4, 5, 6, 0] rfl)
        obtain ⟨n2, hn2⟩ := Lp_s hw2
        exact hL2 n2 (r_1 - r_4) i_17 hn2 H locs hP hD hS ls (lv_sub hl [1, 2, 3, 4, 5, 6, 0] rfl)
  obtain ⟨n1, hn1⟩ := Lp_s hw1
  exact hL1 n1 (0 : Int32) work hn1 H locs hP hD hS ls (lv_sub hl [5, 6, 7, 2, 1, 0] rfl)
