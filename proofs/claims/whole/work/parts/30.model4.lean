abbrev rm_X8_lowers : Room := { frames := 4, cells := 0, slots := 0, locals := 93 }
set_option maxHeartbeats 4000000 in
set_option maxRecDepth 100000 in
theorem mtX8_lowers (l : Launch) (D : va_G) (cI cB cR : ClassId) (ad : Nat → Nat) (sz : Nat) (states : Int32) (whyKind : Int32) (whyOrder : Int32) (many : Int32) (wide : Int32) (textLong : Int32) (spot : Int32) (readColumns : Int32) (all : Nat → Int32) (past : Nat → Int32) (refused : Nat → Int32) (work : Nat → Int32) (kept : Nat → Int32) (chosen : Nat → Int32) (across : Nat → Int32) (sum : Nat → Int32) (one : Nat → Int32) (two : Nat → Int32) (base : Nat → Int32) (quotients : Nat → Int32) (text : Nat → Int32) (numbers : Nat → Int32) (entries : Nat → Int32) (before : Nat → Int32) (a0 : Int32) (a1 : Int32) (a2 : Int32) (res : Nat → Int32) (hf : fX8_lowers wide all work a0 a1 a2 = some res) : Met l yX8_lowers wsX8_lowers rm_X8_lowers (qP D cI cB cR [.ref (ad 0), .int a0, .int a1, .int a2] (wM cI ad states whyKind whyOrder many wide textLong spot readColumns all past refused work kept chosen across sum one two base quotients text numbers entries before) sz) (qV D (wM cI ad states whyKind whyOrder many wide textLong spot readColumns all past refused work kept chosen across sum one two base quotients text numbers entries before) (wM cI ad states whyKind whyOrder many wide textLong spot readColumns all past refused res kept chosen across sum one two base quotients text numbers entries before) sz) 0 0 (va_A (wM cI ad states whyKind whyOrder many wide textLong spot readColumns all past refused work kept chosen across sum one two base quotients text numbers entries before) sz) := by
  refine entV (plainFor_of_name (by decide)) rfl (Nat.le_of_ble_eq_true rfl) ?_
  intro p e s m args below meth c Q A ls S hG hP hD hA hl hE
  obtain ⟨hx, hb, hml, hown, hts⟩ := S
  have hown : s.vm.findClass RX8 = some m.cls := hown
  have hS : va_S A s.heap s.heap [] := va_S.rf
  have hl : lv_has ls 12 [(0, .ref (ad 0)), (1, .int a0), (2, .int a1), (3, .int a2)] := hl
  have hq := hf
  unfold fX8_lowers at hq
  obtain ⟨H, hH⟩ : ∃ H, H = s.heap := ⟨_, rfl⟩
  obtain ⟨locs, hlo⟩ : ∃ L : List Loc, L = [] := ⟨_, rfl⟩
  have hP : va_P D cls9 (wM cI ad states whyKind whyOrder many wide textLong spot readColumns all past refused work kept chosen across sum one two base quotients text numbers entries before) H := hH ▸ hP
  have hS : va_S A s.heap H locs := by rw [hH, hlo]; exact hS
  suffices hg : W p l e rm_X8_lowers s m args below meth c H locs 0 0 Q (F0 m 0 ls []) by rw [hH, hlo] at hg; exact hg
  refine lv_iconst (v := 1) hx hb dX8_lowers_0 (by decide) ?_
  refine lv_istore (lv' := [(4, .int (1 : Int32)), (0, .ref (ad 0)), (1, .int a0), (2, .int a1), (3, .int a2)]) hx hb dX8_lowers_1 hl (by decide) rfl (fun ls hl => ?_)
  obtain ⟨w1, hw1, hk1⟩ := bd1_s hq
  have hX1 : ∀ (x_40 : Nat → Int32), w1 = x_40 → ∀ (H : Heap) (locs : List Loc), va_P D cls9 (wM cI ad states whyKind whyOrder many wide textLong spot readColumns all past refused x_40 kept chosen across sum one two base quotients text numbers entries before) H → va_D A (wM cI ad states whyKind whyOrder many wide textLong spot readColumns all past refused x_40 kept chosen across sum one two base quotients text numbers entries before) → va_S A s.heap H locs → ∀ (ls : Array Slot), lv_has ls 12 [] → W p l e rm_X8_lowers s m args below meth c H locs 0 0 Q (F0 m 159 ls []) := by
    intro x_40 hq H locs hP hD hS ls hl
    have hq := hk1 _ hq
    have he := Option.some.inj hq
    subst he
    exact hE H locs _ _ dX8_lowers_159 hP hD hS
  have hL1 : ∀ (n : Nat) (i_1 : Int32) (i_2 : Nat → Int32), lrun (fun (z : Int32 × (Nat → Int32)) => fX8_lowers_s3 wide all a0 a1 a2 z.1 z.2) n (i_1, i_2) = some w1 → ∀ (H : Heap) (locs : List Loc), va_P D cls9 (wM cI ad states whyKind whyOrder many wide textLong spot readColumns all past refused i_2 kept chosen across sum one two base quotients text numbers entries before) H → va_D A (wM cI ad states whyKind whyOrder many wide textLong spot readColumns all past refused i_2 kept chosen across sum one two base quotients text numbers entries before) → va_S A s.heap H locs → ∀ (ls : Array Slot), lv_has ls 12 [(0, .ref (ad 0)), (1, .int a0), (2, .int a1), (3, .int a2), (4, .int i_1)] → W p l e rm_X8_lowers s m args below meth c H locs 0 0 Q (F0 m 3 ls []) := by
    intro n
    induction n with
    | zero => intro i_1 i_2 h; cases h
    | succ n ih1 =>
      intro i_1 i_2 hr1 H locs hP hD hS ls hl
      obtain ⟨k, v1, hk, hr1, ht1, hv1⟩ := lrun_s hr1
      cases hk
      have hr1 : fX8_lowers_s3 wide all a0 a1 a2 i_1 i_2 = some v1 := hr1
      unfold fX8_lowers_s3 at hr1
      refine lv_iload hx hb dX8_lowers_3 (lv_at hl 4 rfl) ?_
      refine lv_if_eq (tgt := 159) hx hb dX8_lowers_5 (by decide) (fun c_3 => ?_) (fun c_3 => ?_)
      · have hr1 := it_t c_3 hr1
        exact hX1 i_2 (hv1 _ (Option.some.inj hr1).symm).symm H locs hP hD hS ls (lv_sub hl [] rfl)
      · have hr1 := it_f c_3 hr1
        refine lv_iconst (v := -1) hx hb dX8_lowers_8 (by decide) ?_
        refine lv_istore (lv' := [(5, .int (-1 : Int32)), (0, .ref (ad 0)), (1, .int a0), (2, .int a1), (3, .int a2), (4, .int i_1)]) hx hb dX8_lowers_9 hl (by decide) rfl (fun ls hl => ?_)
        refine lv_iconst (v := -1) hx hb dX8_lowers_11 (by decide) ?_
        refine lv_istore (lv' := [(6, .int (-1 : Int32)), (5, .int (-1 : Int32)), (0, .ref (ad 0)), (1, .int a0), (2, .int a1), (3, .int a2), (4, .int i_1)]) hx hb dX8_lowers_12 hl (by decide) rfl (fun ls hl => ?_)
        refine lv_iconst (v := -1) hx hb dX8_lowers_14 (by decide) ?_
        refine lv_istore (lv' := [(7, .int (-1 : Int32)), (6, .int (-1 : Int32)), (5, .int (-1 : Int32)), (0, .ref (ad 0)), (1, .int a0), (2, .int a1), (3, .int a2), (4, .int i_1)]) hx hb dX8_lowers_15 hl (by decide) rfl (fun ls hl => ?_)
        refine lv_iload_n hx hb dX8_lowers_17 rfl (lv_at hl 5 rfl) ?_
        refine lv_istore (lv' := [(8, .int a1), (7, .int (-1 : Int32)), (6, .int (-1 : Int32)), (5, .int (-1 : Int32)), (0, .ref (ad 0)), (1, .int a0), (2, .int a1), (3, .int a2), (4, .int i_1)]) hx hb dX8_lowers_18 hl (by decide) rfl (fun ls hl => ?_)
        obtain ⟨w2, hw2, hk2⟩ := bd2_s hr1
        have hX2 : ∀ (x_32 : Int32) (x_33 : Int32), w2 = (x_32, x_33) → ∀ (H : Heap) (locs : List Loc), va_P D cls9 (wM cI ad states whyKind whyOrder many wide textLong spot readColumns all past refused i_2 kept chosen across sum one two base quotients text numbers entries before) H → va_D A (wM cI ad states whyKind whyOrder many wide textLong spot readColumns all past refused i_2 kept chosen across sum one two base quotients text numbers entries before) → va_S A s.heap H locs → ∀ (ls : Array Slot), lv_has ls 12 [(0, .ref (ad 0)), (1, .int a0), (2, .int a1), (3, .int a2), (5, .int x_32), (7, .int x_33)] → W p l e rm_X8_lowers s m args below meth c H locs 0 0 Q (F0 m 129 ls []) := by
          intro x_32 x_33 hq H locs hP hD hS ls hl
          have hr1 := hk2 _ _ hq
          refine lv_iload hx hb dX8_lowers_129 (lv_at hl 4 rfl) ?_
          refine lv_iconst (v := -1) hx hb dX8_lowers_131 (by decide) ?_
          obtain ⟨v7, hj7, hk7⟩ := bd1_s hr1
          have hJ7 : ∀ (j_35 : Int32), v7 = j_35 → (j_35 = 0 ∨ j_35 = 1) → ∀ (H : Heap) (locs : List Loc), va_P D cls9 (wM cI ad states whyKind whyOrder many wide textLong spot readColumns all past refused i_2 kept chosen across sum one two base quotients text numbers entries before) H → va_D A (wM cI ad states whyKind whyOrder many wide textLong spot readColumns all past refused i_2 kept chosen across sum one two base quotients text numbers entries before) → va_S A s.heap H locs → ∀ (ls : Array Slot), lv_has ls 12 [(0, .ref (ad 0)), (1, .int a0), (2, .int a1), (3, .int a2), (5, .int x_32), (7, .int x_33)] → W p l e rm_X8_lowers s m args below meth c H locs 0 0 Q (F0 m 140 ls [.int j_35]) := by
            intro j_35 hq zj_35 H locs hP hD hS ls hl
            have hr1 := hk7 _ hq
            refine lv_istore (lv' := [(4, .int j_35), (0, .ref (ad 0)), (1, .int a0), (2, .int a1), (3, .int a2), (5, .int x_32), (7, .int x_33)]) hx hb dX8_lowers_140 hl (by decide) rfl (fun ls hl => ?_)
            refine lv_iload hx hb dX8_lowers_142 (lv_at hl 0 rfl) ?_
            refine lv_if_eq (tgt := 156) hx hb dX8_lowers_144 (by decide) (fun c_36 => ?_) (fun c_36 => ?_)
            · have hr1 := it_t c_36 hr1
              refine lv_goto (tgt := 3) hx hb dX8_lowers_156 (by decide) ?_
              exact ih1 j_35 i_2 (ht1 _ (Option.some.inj hr1).symm) H locs hP hD hS ls (lv_sub hl [1, 2, 3, 4, 0] rfl)
            · have hr1 := it_f c_36 hr1
              refine lv_aload_n hx hb dX8_lowers_147 rfl (lv_at hl 1 rfl) ?_
              refine lv_iload_n hx hb dX8_lowers_148 rfl (lv_at hl 2 rfl) ?_
              refine lv_iload hx hb dX8_lowers_149 (lv_at hl 5 rfl) ?_
              refine lv_iload hx hb dX8_lowers_151 (lv_at hl 6 rfl) ?_
              obtain ⟨v_39, hq_38, hk⟩ := bd1_s hr1
              obtain ⟨u_37, rfl⟩ : ∃ y, y = v_39 := ⟨_, rfl⟩
              have hr1 := hk _ rfl
              refine callVA (gV (rest := []) ⟨hx, hb, hml, hown, hts⟩ hG hP hD 0 8 rfl rfl (mtX8_takes l D cI cB cR ad H.size states whyKind whyOrder many wide textLong spot readColumns all past refused i_2 kept chosen across sum one two base quotients text numbers entries before a0 x_32 x_33 u_37 hq_38) (cwV 3 hts gX8_lowers_X8_takes rfl rfl rfl ⟨rfl, hd_X8_takes⟩ ⟨Nat.le_of_ble_eq_true rfl, Nat.le_of_ble_eq_true rfl⟩) rfl hl.1 rfl (Nat.le_of_ble_eq_true rfl) dX8_lowers_153) hD hS hA (fun H locs hP hD hS => ?_)
              have hP : va_P D cls9 (wM cI ad states whyKind whyOrder many wide textLong spot readColumns all past refused u_37 kept chosen across sum one two base quotients text numbers entries before) H := hP
              have hD : va_D A (wM cI ad states whyKind whyOrder many wide textLong spot readColumns all past refused u_37 kept chosen across sum one two base quotients text numbers entries before) := hD
              refine lv_goto (tgt := 3) hx hb dX8_lowers_156 (by decide) ?_
              exact ih1 j_35 u_37 (ht1 _ (Option.some.inj hr1).symm) H locs hP hD hS ls (lv_sub hl [1, 2, 3, 4, 0] rfl)
          refine lv_icmp_eq (tgt := 139) hx hb dX8_lowers_132 (by decide) (fun c_34 => ?_) (fun c_34 => ?_)
          · have hj7 := it_t c_34 hj7
            refine lv_iconst (v := 0) hx hb dX8_lowers_139 (by decide) ?_
            exact hJ7 (0 : Int32) (Option.some.inj hj7).symm (Or.inl rfl) H locs hP hD hS ls (lv_sub hl [0, 1, 2, 3, 4, 5] rfl)
          · have hj7 := it_f c_34 hj7
            refine lv_iconst (v := 1) hx hb dX8_lowers_135 (by decide) ?_
            refine lv_goto (tgt := 140) hx hb dX8_lowers_136 (by decide) ?_
            exact hJ7 (1 : Int32) (Option.some.inj hj7).symm (Or.inr rfl) H locs hP hD hS ls (lv_sub hl [0, 1, 2, 3, 4, 5] rfl)
        have hL2 : ∀ (n : Nat) (i_4 : Int32) (i_5 : Int32) (i_6 : Int32) (i_7 : Int32), lrun (fun (z : Int32 × Int32 × Int32 × Int32) => fX8_lowers_s20 wide a0 a2 i_2 z.1 z.2.1 z.2.2.1 z.2.2.2) n (i_4, i_5, i_6, i_7) = some w2 → ∀ (H : Heap) (locs : List Loc), va_P D cls9 (wM cI ad states whyKind whyOrder many wide textLong spot readColumns all past refused i_2 kept chosen across sum one two base quotients text numbers entries before) H → va_D A (wM cI ad states whyKind whyOrder many wide textLong spot readColumns all past refused i_2 kept chosen across sum one two base quotients text numbers entries before) → va_S A s.heap H locs → ∀ (ls : Array Slot), lv_has ls 12 [(0, .ref (ad 0)), (1, .int a0), (2, .int a1), (3, .int a2), (5, .int i_4), (6, .int i_5), (7, .int i_6), (8, .int i_7)] → W p l e rm_X8_lowers s m args below meth c H locs 0 0 Q (F0 m 20 ls []) := by
          intro n
          induction n with
          | zero => intro i_4 i_5 i_6 i_7 h; cases h
          | succ n ih2 =>
            intro i_4 i_5 i_6 i_7 hr2 H locs hP hD hS ls hl
            obtain ⟨k, v2, hk, hr2, ht2, hv2⟩ := lrun_s hr2
            cases hk
            have hr2 : fX8_lowers_s20 wide a0 a2 i_2 i_4 i_5 i_6 i_7 = some v2 := hr2
            unfold fX8_lowers_s20 at hr2
            refine lv_iload hx hb dX8_lowers_20 (lv_at hl 7 rfl) ?_
            refine lv_iload_n hx hb dX8_lowers_22 rfl (lv_at hl 3 rfl) ?_
            refine lv_icmp_ge (tgt := 129) hx hb dX8_lowers_23 (by decide) (fun c_8 => ?_) (fun c_8 => ?_)
            · have hr2 := it_t c_8 hr2
              exact hX2 i_4 i_6 (hv2 _ (Option.some.inj hr2).symm).symm H locs hP hD hS ls (lv_sub hl [0, 1, 2, 3, 4, 6] rfl)
            · have hr2 := it_f c_8 hr2
              refine lv_iload hx hb dX8_lowers_26 (lv_at hl 7 rfl) ?_
              refine lv_iload_n hx hb dX8_lowers_28 rfl (lv_at hl 1 rfl) ?_
              obtain ⟨v3, hj3, hk3⟩ := bd1_s hr2
              have hJ3 : ∀ (j_13 : Int32), v3 = j_13 → ∀ (H : Heap) (locs : List Loc), va_P D cls9 (wM cI ad states whyKind whyOrder many wide textLong spot readColumns all past refused i_2 kept chosen across sum one two base quotients text numbers entries before) H → va_D A (wM cI ad states whyKind whyOrder many wide textLong spot readColumns all past refused i_2 kept chosen across sum one two base quotients text numbers entries before) → va_S A s.heap H locs → ∀ (ls : Array Slot), lv_has ls 12 [(0, .ref (ad 0)), (1, .int a0), (2, .int a1), (3, .int a2), (5, .int i_4), (6, .int i_5), (7, .int i_6), (8, .int i_7)] → W p l e rm_X8_lowers s m args below meth c H locs 0 0 Q (F0 m 42 ls [.int j_13]) := by
                intro j_13 hq H locs hP hD hS ls hl
                have hr2 := hk3 _ hq
                refine lv_istore (lv' := [(9, .int j_13), (0, .ref (ad 0)), (1, .int a0), (2, .int a1), (3, .int a2), (5, .int i_4), (6, .int i_5), (7, .int i_6), (8, .int i_7)]) hx hb dX8_lowers_42 hl (by decide) rfl (fun ls hl => ?_)
                refine lv_iload hx hb dX8_lowers_44 (lv_at hl 0 rfl) ?_
                obtain ⟨v4, hj4, hk4⟩ := bd1_s hr2
                have hJ4 : ∀ (j_18 : Int32), v4 = j_18 → ∀ (H : Heap) (locs : List Loc), va_P D cls9 (wM cI ad states whyKind whyOrder many wide textLong spot readColumns all past refused i_2 kept chosen across sum one two base quotients text numbers entries before) H → va_D A (wM cI ad states whyKind whyOrder many wide textLong spot readColumns all past refused i_2 kept chosen across sum one two base quotients text numbers entries before) → va_S A s.heap H locs → ∀ (ls : Array Slot), lv_has ls 12 [(0, .ref (ad 0)), (1, .int a0), (2, .int a1), (3, .int a2), (5, .int i_4), (6, .int i_5), (7, .int i_6), (8, .int i_7), (9, .int j_13)] → W p l e rm_X8_lowers s m args below meth c H locs 0 0 Q (F0 m 60 ls [.int j_18]) := by
                  intro j_18 hq H locs hP hD hS ls hl
                  have hr2 := hk4 _ hq
                  refine lv_istore (lv' := [(10, .int j_18), (0, .ref (ad 0)), (1, .int a0), (2, .int a1), (3, .int a2), (5, .int i_4), (6, .int i_5), (7, .int i_6), (8, .int i_7), (9, .int j_13)]) hx hb dX8_lowers_60 hl (by decide) rfl (fun ls hl => ?_)
                  refine lv_iload hx hb dX8_lowers_62 (lv_at hl 9 rfl) ?_
                  obtain ⟨v5, hj5, hk5⟩ := bd1_s hr2
                  have hJ5 : ∀ (j_24 : Int32), v5 = j_24 → (j_24 = 0 ∨ j_24 = 1) → ∀ (H : Heap) (locs : List Loc), va_P D cls9 (wM cI ad states whyKind whyOrder many wide textLong spot readColumns all past refused i_2 kept chosen across sum one two base quotients text numbers entries before) H → va_D A (wM cI ad states whyKind whyOrder many wide textLong spot readColumns all past refused i_2 kept chosen across sum one two base quotients text numbers entries before) → va_S A s.heap H locs → ∀ (ls : Array Slot), lv_has ls 12 [(0, .ref (ad 0)), (1, .int a0), (2, .int a1), (3, .int a2), (5, .int i_4), (6, .int i_5), (7, .int i_6), (8, .int i_7), (9, .int j_13), (10, .int j_18)] → W p l e rm_X8_lowers s m args below meth c H locs 0 0 Q (F0 m 83 ls [.int j_24]) := by
                    intro j_24 hq zj_24 H locs hP hD hS ls hl
                    have hr2 := hk5 _ hq
                    refine lv_istore (lv' := [(11, .int j_24), (0, .ref (ad 0)), (1, .int a0), (2, .int a1), (3, .int a2), (5, .int i_4), (6, .int i_5), (7, .int i_6), (8, .int i_7), (9, .int j_13), (10, .int j_18)]) hx hb dX8_lowers_83 hl (by decide) rfl (fun ls hl => ?_)
                    refine lv_iload hx hb dX8_lowers_85 (lv_at hl 0 rfl) ?_
                    obtain ⟨v6, hj6, hk6⟩ := bd3_s hr2
                    have hJ6 : ∀ (j_29 : Int32) (j_30 : Int32) (j_31 : Int32), v6 = (j_29, j_30, j_31) → ∀ (H : Heap) (locs : List Loc), va_P D cls9 (wM cI ad states whyKind whyOrder many wide textLong spot readColumns all past refused i_2 kept chosen across sum one two base quotients text numbers entries before) H → va_D A (wM cI ad states whyKind whyOrder many wide textLong spot readColumns all past refused i_2 kept chosen across sum one two base quotients text numbers entries before) → va_S A s.heap H locs → ∀ (ls : Array Slot), lv_has ls 12 [(0, .ref (ad 0)), (1, .int a0), (2, .int a1), (3, .int a2), (5, .int j_29), (6, .int j_30), (7, .int j_31), (8, .int i_7)] → W p l e rm_X8_lowers s m args below meth c H locs 0 0 Q (F0 m 123 ls []) := by
                      intro j_29 j_30 j_31 hq H locs hP hD hS ls hl
                      have hr2 := hk6 _ _ _ hq
                      refine lv_iinc (v := (i_7 + 1)) (lv' := [(8, .int (i_7 + 1)), (0, .ref (ad 0)), (1, .int a0), (2, .int a1), (3, .int a2), (5, .int j_29), (6, .int j_30), (7, .int j_31)]) hx hb dX8_lowers_123 hl (k := 7) rfl rfl (by decide) rfl (fun ls hl => ?_)
                      refine lv_goto (tgt := 20) hx hb dX8_lowers_126 (by decide) ?_
                      exact ih2 j_29 j_30 j_31 (i_7 + 1) (ht2 _ (Option.some.inj hr2).symm) H locs hP hD hS ls (lv_sub hl [1, 2, 3, 4, 5, 6, 7, 0] rfl)
                    refine lv_if_eq (tgt := 123) hx hb dX8_lowers_87 (by decide) (fun c_25 => ?_) (fun c_25 => ?_)
                    · have hj6 := it_t c_25 hj6
                      exact hJ6 i_4 i_5 i_6 (Option.some.inj hj6).symm  H locs hP hD hS ls (lv_sub hl [1, 2, 3, 4, 5, 6, 7, 8] rfl)
                    · have hj6 := it_f c_25 hj6
                      refine lv_iload hx hb dX8_lowers_90 (lv_at hl 10 rfl) ?_
                      refine lv_iload hx hb dX8_lowers_92 (lv_at hl 6 rfl) ?_
                      refine lv_icmp_gt (tgt := 111) hx hb dX8_lowers_94 (by decide) (fun c_26 => ?_) (fun c_26 => ?_)
                      · have hj6 := it_t c_26 hj6
                        refine lv_iload hx hb dX8_lowers_111 (lv_at hl 8 rfl) ?_
                        refine lv_istore (lv' := [(5, .int i_7), (11, .int j_24), (0, .ref (ad 0)), (1, .int a0), (2, .int a1), (3, .int a2), (6, .int i_5), (7, .int i_6), (8, .int i_7), (9, .int j_13), (10, .int j_18)]) hx hb dX8_lowers_113 hl (by decide) rfl (fun ls hl => ?_)
                        refine lv_iload hx hb dX8_lowers_115 (lv_at hl 10 rfl) ?_
                        refine lv_istore (lv' := [(6, .int j_18), (5, .int i_7), (11, .int j_24), (0, .ref (ad 0)), (1, .int a0), (2, .int a1), (3, .int a2), (7, .int i_6), (8, .int i_7), (9, .int j_13), (10, .int j_18)]) hx hb dX8_lowers_117 hl (by decide) rfl (fun ls hl => ?_)
                        refine lv_iload hx hb dX8_lowers_119 (lv_at hl 9 rfl) ?_
                        refine lv_istore (lv' := [(7, .int j_13), (6, .int j_18), (5, .int i_7), (11, .int j_24), (0, .ref (ad 0)), (1, .int a0), (2, .int a1), (3, .int a2), (8, .int i_7), (9, .int j_13), (10, .int j_18)]) hx hb dX8_lowers_121 hl (by decide) rfl (fun ls hl => ?_)
                        exact hJ6 i_7 j_18 j_13 (Option.some.inj hj6).symm  H locs hP hD hS ls (lv_sub hl [4, 5, 6, 7, 2, 1, 0, 8] rfl)
                      · have hj6 := it_f c_26 hj6
                        refine lv_iload hx hb dX8_lowers_97 (lv_at hl 10 rfl) ?_
                        refine lv_iload hx hb dX8_lowers_99 (lv_at hl 6 rfl) ?_
                        refine lv_icmp_ne (tgt := 123) hx hb dX8_lowers_101 (by decide) (fun c_27 => ?_) (fun c_27 => ?_)
                        · have hj6 := it_f c_27 hj6
                          exact hJ6 i_4 i_5 i_6 (Option.some.inj hj6).symm  H locs hP hD hS ls (lv_sub hl [1, 2, 3, 4, 5, 6, 7, 8] rfl)
                        · have hj6 := it_t c_27 hj6
                          refine lv_iload hx hb dX8_lowers_104 (lv_at hl 9 rfl) ?_
                          refine lv_iload hx hb dX8_lowers_106 (lv_at hl 7 rfl) ?_
                          refine lv_icmp_le (tgt := 123) hx hb dX8_lowers_108 (by decide) (fun c_28 => ?_) (fun c_28 => ?_)
                          · have hj6 := it_t c_28 hj6
                            exact hJ6 i_4 i_5 i_6 (Option.some.inj hj6).symm  H locs hP hD hS ls (lv_sub hl [1, 2, 3, 4, 5, 6, 7, 8] rfl)
                          · have hj6 := it_f c_28 hj6
                            refine lv_iload hx hb dX8_lowers_111 (lv_at hl 8 rfl) ?_
                            refine lv_istore (lv' := [(5, .int i_7), (11, .int j_24), (0, .ref (ad 0)), (1, .int a0), (2, .int a1), (3, .int a2), (6, .int i_5), (7, .int i_6), (8, .int i_7), (9, .int j_13), (10, .int j_18)]) hx hb dX8_lowers_113 hl (by decide) rfl (fun ls hl => ?_)
                            refine lv_iload hx hb dX8_lowers_115 (lv_at hl 10 rfl) ?_
                            refine lv_istore (lv' := [(6, .int j_18), (5, .int i_7), (11, .int j_24), (0, .ref (ad 0)), (1, .int a0), (2, .int a1), (3, .int a2), (7, .int i_6), (8, .int i_7), (9, .int j_13), (10, .int j_18)]) hx hb dX8_lowers_117 hl (by decide) rfl (fun ls hl => ?_)
                            refine lv_iload hx hb dX8_lowers_119 (lv_at hl 9 rfl) ?_
                            refine lv_istore (lv' := [(7, .int j_13), (6, .int j_18), (5, .int i_7), (11, .int j_24), (0, .ref (ad 0)), (1, .int a0), (2, .int a1), (3, .int a2), (8, .int i_7), (9, .int j_13), (10, .int j_18)]) hx hb dX8_lowers_121 hl (by decide) rfl (fun ls hl => ?_)
                            exact hJ6 i_7 j_18 j_13 (Option.some.inj hj6).symm  H locs hP hD hS ls (lv_sub hl [4, 5, 6, 7, 2, 1, 0, 8] rfl)
                  refine lv_if_lt (tgt := 82) hx hb dX8_lowers_64 (by decide) (fun c_19 => ?_) (fun c_19 => ?_)
                  · have hj5 := it_t c_19 hj5
                    refine lv_iconst (v := 0) hx hb dX8_lowers_82 (by decide) ?_
                    exact hJ5 (0 : Int32) (Option.some.inj hj5).symm (Or.inl rfl) H locs hP hD hS ls (lv_sub hl [1, 2, 3, 4, 5, 6, 7, 8, 9, 0] rfl)
                  · have hj5 := it_f c_19 hj5
                    refine lv_iload hx hb dX8_lowers_67 (lv_at hl 0 rfl) ?_
                    refine lv_aload_n hx hb dX8_lowers_69 rfl (lv_at hl 1 rfl) ?_
                    refine lv_iload hx hb dX8_lowers_70 (lv_at hl 8 rfl) ?_
                    obtain ⟨v_22, hq_21, hk⟩ := bd1_s hj5
                    obtain ⟨r_20, rfl⟩ : ∃ y, y = v_22 := ⟨_, rfl⟩
                    have hj5 := hk _ rfl
                    refine callIA (gV (rest := [.int j_18]) ⟨hx, hb, hml, hown, hts⟩ hG hP hD 0 8 rfl rfl (mtX8_workDegree l D cI cB cR ad H.size states whyKind whyOrder many wide textLong spot readColumns all past refused i_2 kept chosen across sum one two base quotients text numbers entries before i_7 r_20 hq_21) (cwV 1 hts gX8_lowers_X8_workDegree rfl rfl rfl ⟨rfl, hd_X8_workDegree⟩ ⟨Nat.le_of_ble_eq_true rfl, Nat.le_of_ble_eq_true rfl⟩) rfl hl.1 rfl (Nat.le_of_ble_eq_true rfl) dX8_lowers_72) hD hS hA (fun H locs hP hD hS => ?_)
                    have hP : va_P D cls9 (wM cI ad states whyKind whyOrder many wide textLong spot readColumns all past refused i_2 kept chosen across sum one two base quotients text numbers entries before) H := hP
                    have hD : va_D A (wM cI ad states whyKind whyOrder many wide textLong spot readColumns all past refused i_2 kept chosen across sum one two base quotients text numbers entries before) := hD
                    refine lv_icmp_lt (tgt := 82) hx hb dX8_lowers_75 (by decide) (fun c_23 => ?_) (fun c_23 => ?_)
                    · have hj5 := it_t c_23 hj5
                      refine lv_iconst (v := 0) hx hb dX8_lowers_82 (by decide) ?_
                      exact hJ5 (0 : Int32) (Option.some.inj hj5).symm (Or.inl rfl) H locs hP hD hS ls (lv_sub hl [1, 2, 3, 4, 5, 6, 7, 8, 9, 0] rfl)
                    · have hj5 := it_f c_23 hj5
                      refine lv_iconst (v := 1) hx hb dX8_lowers_78 (by decide) ?_
                      refine lv_goto (tgt := 83) hx hb dX8_lowers_79 (by decide) ?_
                      exact hJ5 (1 : Int32) (Option.some.inj hj5).symm (Or.inr rfl) H locs hP hD hS ls (lv_sub hl [1, 2, 3, 4, 5, 6, 7, 8, 9, 0] rfl)
                refine lv_if_ge (tgt := 53) hx hb dX8_lowers_46 (by decide) (fun c_14 => ?_) (fun c_14 => ?_)
                · have hj4 := it_t c_14 hj4
                  refine lv_aload_n hx hb dX8_lowers_53 rfl (lv_at hl 1 rfl) ?_
                  refine lv_iload_n hx hb dX8_lowers_54 rfl (lv_at hl 2 rfl) ?_
                  refine lv_iload hx hb dX8_lowers_55 (lv_at hl 0 rfl) ?_
                  obtain ⟨v_17, hq_16, hk⟩ := bd1_s hj4
                  obtain ⟨r_15, rfl⟩ : ∃ y, y = v_17 := ⟨_, rfl⟩
                  have hj4 := hk _ rfl
                  refine callIA (gV (rest := []) ⟨hx, hb, hml, hown, hts⟩ hG hP hD 0 8 rfl rfl (mtX8_workDegreeAt l D cI cB cR ad H.size states whyKind whyOrder many wide textLong spot readColumns all past refused i_2 kept chosen across sum one two base quotients text numbers entries before a0 j_13 r_15 hq_16) (cwV 2 hts gX8_lowers_X8_workDegreeAt rfl rfl rfl ⟨rfl, hd_X8_workDegreeAt⟩ ⟨Nat.le_of_ble_eq_true rfl, Nat.le_of_ble_eq_true rfl⟩) rfl hl.1 rfl (Nat.le_of_ble_eq_true rfl) dX8_lowers_57) hD hS hA (fun H locs hP hD hS => ?_)
                  have hP : va_P D cls9 (wM cI ad states whyKind whyOrder many wide textLong spot readColumns all past refused i_2 kept chosen across sum one two base quotients text numbers entries before) H := hP
                  have hD : va_D A (wM cI ad states whyKind whyOrder many wide textLong spot readColumns all past refused i_2 kept chosen across sum one two base quotients text numbers entries before) := hD
                  exact hJ4 r_15 (Option.some.inj hj4).symm  H locs hP hD hS ls (lv_sub hl [1, 2, 3, 4, 5, 6, 7, 8, 0] rfl)
                · have hj4 := it_f c_14 hj4
                  refine lv_iconst (v := -1) hx hb dX8_lowers_49 (by decide) ?_
                  refine lv_goto (tgt := 60) hx hb dX8_lowers_50 (by decide) ?_
                  exact hJ4 (-1 : Int32) (Option.some.inj hj4).symm  H locs hP hD hS ls (lv_sub hl [1, 2, 3, 4, 5, 6, 7, 8, 0] rfl)
              refine lv_icmp_ne (tgt := 36) hx hb dX8_lowers_29 (by decide) (fun c_9 => ?_) (fun c_9 => ?_)
              · have hj3 := it_f c_9 hj3
                refine lv_aload_n hx hb dX8_lowers_36 rfl (lv_at hl 0 rfl) ?_
                refine lv_iload hx hb dX8_lowers_37 (lv_at hl 7 rfl) ?_
                obtain ⟨v_12, hq_11, hk⟩ := bd1_s hj3
                obtain ⟨r_10, rfl⟩ : ∃ y, y = v_12 := ⟨_, rfl⟩
                have hj3 := hk _ rfl
                refine callIA (gV (rest := []) ⟨hx, hb, hml, hown, hts⟩ hG hP hD 0 8 rfl rfl (mtX8_workPivot l D cI cB cR ad H.size states whyKind whyOrder many wide textLong spot readColumns all past refused i_2 kept chosen across sum one two base quotients text numbers entries before i_7 r_10 hq_11) (cwV 1 hts gX8_lowers_X8_workPivot rfl rfl rfl ⟨rfl, hd_X8_workPivot⟩ ⟨Nat.le_of_ble_eq_true rfl, Nat.le_of_ble_eq_true rfl⟩) rfl hl.1 rfl (Nat.le_of_ble_eq_true rfl) dX8_lowers_39) hD hS hA (fun H locs hP hD hS => ?_)
                have hP : va_P D cls9 (wM cI ad states whyKind whyOrder many wide textLong spot readColumns all past refused i_2 kept chosen across sum one two base quotients text numbers entries before) H := hP
                have hD : va_D A (wM cI ad states whyKind whyOrder many wide textLong spot readColumns all past refused i_2 kept chosen across sum one two base quotients text numbers entries before) := hD
                exact hJ3 r_10 (Option.some.inj hj3).symm  H locs hP hD hS ls (lv_sub hl [0, 1, 2, 3, 4, 5, 6, 7] rfl)
              · have hj3 := it_t c_9 hj3
                refine lv_iconst (v := -1) hx hb dX8_lowers_32 (by decide) ?_
                refine lv_goto (tgt := 42) hx hb dX8_lowers_33 (by decide) ?_
                exact hJ3 (-1 : Int32) (Option.some.inj hj3).symm  H locs hP hD hS ls (lv_sub hl [0, 1, 2, 3, 4, 5, 6, 7] rfl)
        obtain ⟨n2, hn2⟩ := Lp_s hw2
        exact hL2 n2 (-1 : Int32) (-1 : Int32) (-1 : Int32) a1 hn2 H locs hP hD hS ls (lv_sub hl [4, 5, 6, 7, 3, 2, 1, 0] rfl)
  obtain ⟨n1, hn1⟩ := Lp_s hw1
  exact hL1 n1 (1 : Int32) work hn1 H locs hP hD hS ls (lv_sub hl [1, 2, 3, 4, 0] rfl)
abbrev rm_X8_exchanges : Room := { frames := 0, cells := 0, slots := 0, locals := 0 }
theorem iX8_exchanges_X8 : ∀ w ∈ wsX80, w ∈ wsX8_exchanges := fun _ h => (List.mem_cons_of_mem _ (List.mem_append_right _ h))
theorem fX8_exchanges_1 : Cond.fieldLink RX8 23 "PopovRowsModel" "work" "[I" ∈ wsX8_exchanges := (List.mem_cons_of_mem _ (List.mem_append_left _ (List.mem_of_getElem? (i := 0) rfl)))
set_option maxHeartbeats 4000000 in
set_option maxRecDepth 100000 in
theorem mtX8_exchanges (l : Launch) (D : va_G) (cI cB cR : ClassId) (ad : Nat → Nat) (sz : Nat) (states : Int32) (whyKind : Int32) (whyOrder : Int32) (many : Int32) (wide : Int32) (textLong : Int32) (spot : Int32) (readColumns : Int32) (all : Nat → Int32) (past : Nat → Int32) (refused : Nat → Int32) (work : Nat → Int32) (kept : Nat → Int32) (chosen : Nat → Int32) (across : Nat → Int32) (sum : Nat → Int32) (one : Nat → Int32) (two : Nat → Int32) (base : Nat → Int32) (quotients : Nat → Int32) (text : Nat → Int32) (numbers : Nat → Int32) (entries : Nat → Int32) (before : Nat → Int32) (a0 : Int32) (a1 : Int32) (res : Nat → Int32) (hf : fX8_exchanges work a0 a1 = some res) : Met l yX8_exchanges wsX8_exchanges rm_X8_exchanges (qP D cI cB cR [.ref (ad 0), .int a0, .int a1] (wM cI ad states whyKind whyOrder many wide textLong spot readColumns all past refused work kept chosen across sum one two base quotients text numbers entries before) sz) (qV D (wM cI ad states whyKind whyOrder many wide textLong spot readColumns all past refused work kept chosen across sum one two base quotients text numbers entries before) (wM cI ad states whyKind whyOrder many wide textLong spot readColumns all past refused res kept chosen across sum one two base quotients text numbers entries before) sz) 0 0 (va_A (wM cI ad states whyKind whyOrder many wide textLong spot readColumns all past refused work kept chosen across sum one two base quotients text numbers entries before) sz) := by
  refine entV (plainFor_of_name (by decide)) rfl (Nat.le_of_ble_eq_true rfl) ?_
  intro p e s m args below meth c Q A ls S hG hP hD hA hl hE
  obtain ⟨hx, hb, hml, hown, hts⟩ := S
  have hown : s.vm.findClass RX8 = some m.cls := hown
  have hS : va_S A s.heap s.heap [] := va_S.rf
  have hl : lv_has ls 5 [(0, .ref (ad 0)), (1, .int a0), (2, .int a1)] := hl
  have hq := hf
  unfold fX8_exchanges at hq
  obtain ⟨H, hH⟩ : ∃ H, H = s.heap := ⟨_, rfl⟩
  obtain ⟨locs, hlo⟩ : ∃ L : List Loc, L = [] := ⟨_, rfl⟩
  have hP : va_P D cls9 (wM cI ad states whyKind whyOrder many wide textLong spot readColumns all past refused work kept chosen across sum one two base quotients text numbers entries before) H := hH ▸ hP
  have hS : va_S A s.heap H locs := by rw [hH, hlo]; exact hS
  suffices hg : W p l e rm_X8_exchanges s m args below meth c H locs 0 0 Q (F0 m 0 ls []) by rw [hH, hlo] at hg; exact hg
  refine lv_iconst (v := 0) hx hb dX8_exchanges_0 (by decide) ?_
  refine lv_istore_n (lv' := [(3, .int (0 : Int32)), (0, .ref (ad 0)), (1, .int a0), (2, .int a1)]) hx hb dX8_exchanges_1 rfl hl (by decide) rfl (fun ls hl => ?_)
  obtain ⟨w1, hw1, hk1⟩ := bd1_s hq
  have hX1 : ∀ (x_8 : Nat → Int32), w1 = x_8 → ∀ (H : Heap) (locs : List Loc), va_P D cls9 (wM cI ad states whyKind whyOrder many wide textLong spot readColumns all past refused x_8 kept chosen across sum one two base quotients text numbers entries before) H → va_D A (wM cI ad states whyKind whyOrder many wide textLong spot readColumns all past refused x_8 kept chosen across sum one two base quotients text numbers entries before) → va_S A s.heap H locs → ∀ (ls : Array Slot), lv_has ls 5 [] → W p l e rm_X8_exchanges s m args below meth c H locs 0 0 Q (F0 m 62 ls []) := by
    intro x_8 hq H locs hP hD hS ls hl
    have hq := hk1 _ hq
    have he := Option.some.inj hq
    subst he
    exact hE H locs _ _ dX8_exchanges_62 hP hD hS
  have hL1 : ∀ (n : Nat) (i_1 : Int32) (i_2 : Nat → Int32), lrun (fun (z : Int32 × (Nat → Int32)) => fX8_exchanges_s2 a0 a1 z.1 z.2) n (i_1, i_2) = some w1 → ∀ (H : Heap) (locs : List Loc), va_P D cls9 (wM cI ad states whyKind whyOrder many wide textLong spot readColumns all past refused i_2 kept chosen across sum one two base quotients text numbers entries before) H → va_D A (wM cI ad states whyKind whyOrder many wide textLong spot readColumns all past refused i_2 kept chosen across sum one two base quotients text numbers entries before) → va_S A s.heap H locs → ∀ (ls : Array Slot), lv_has ls 5 [(0, .ref (ad 0)), (1, .int a0), (2, .int a1), (3, .int i_1)] → W p l e rm_X8_exchanges s m args below meth c H locs 0 0 Q (F0 m 2 ls []) := by
    intro n
    induction n with
    | zero => intro i_1 i_2 h; cases h
    | succ n ih1 =>
      intro i_1 i_2 hr1 H locs hP hD hS ls hl
      obtain ⟨k, v1, hk, hr1, ht1, hv1⟩ := lrun_s hr1
      cases hk
      have hr1 : fX8_exchanges_s2 a0 a1 i_1 i_2 = some v1 := hr1
      unfold fX8_exchanges_s2 at hr1
      refine lv_iload_n hx hb dX8_exchanges_2 rfl (lv_at hl 3 rfl) ?_
      refine lv_bipush (v := 24) hx hb dX8_exchanges_3 (by decide) ?_
      refine lv_icmp_ge (tgt := 62) hx hb dX8_exchanges_5 (by decide) (fun c_3 => ?_) (fun c_3 => ?_)
      · have hr1 := it_t c_3 hr1
        exact hX1 i_2 (hv1 _ (Option.some.inj hr1).symm).symm H locs hP hD hS ls (lv_sub hl [] rfl)
      · have hr1 := it_f c_3 hr1
        refine lv_aload_n hx hb dX8_exchanges_8 rfl (lv_at hl 0 rfl) ?_
        refine va_get (D := D) (ci := 8) (v := .ref (ad 4)) (C := RX8) (T := TX8) (N := 24) hx hb hts iX8_exchanges_X8 hown hG.1 hP 0 rfl rfl 6 (by decide) (hts _ fX8_exchanges_1) (fun _ h9 => h9) rfl dX8_exchanges_9 ?_
        refine lv_bipush (v := 24) hx hb dX8_exchanges_12 (by decide) ?_
        refine lv_iload_n hx hb dX8_exchanges_14 rfl (lv_at hl 1 rfl) ?_
        refine lv_imul hx hb dX8_exchanges_15 ?_
        refine lv_iload_n hx hb dX8_exchanges_16 rfl (lv_at hl 3 rfl) ?_
        refine lv_iadd hx hb dX8_exchanges_17 ?_
        obtain ⟨h_4, hr1⟩ := gd_s hr1
        refine va_iald hx hb hG.1 hP 4 0 rfl rfl h_4 dX8_exchanges_18 ?_
        refine lv_istore (lv' := [(4, .int (i_2 (((24 : Int32) * a0) + i_1).toNatClampNeg)), (0, .ref (ad 0)), (1, .int a0), (2, .int a1), (3, .int i_1)]) hx hb dX8_exchanges_19 hl (by decide) rfl (fun ls hl => ?_)
        refine lv_aload_n hx hb dX8_exchanges_21 rfl (lv_at hl 1 rfl) ?_
        refine va_get (D := D) (ci := 8) (v := .ref (ad 4)) (C := RX8) (T := TX8) (N := 24) hx hb hts iX8_exchanges_X8 hown hG.1 hP 0 rfl rfl 6 (by decide) (hts _ fX8_exchanges_1) (fun _ h9 => h9) rfl dX8_exchanges_22 ?_
        refine lv_bipush (v := 24) hx hb dX8_exchanges_25 (by decide) ?_
        refine lv_iload_n hx hb dX8_exchanges_27 rfl (lv_at hl 2 rfl) ?_
        refine lv_imul hx hb dX8_exchanges_28 ?_
        refine lv_iload_n hx hb dX8_exchanges_29 rfl (lv_at hl 4 rfl) ?_
        refine lv_iadd hx hb dX8_exchanges_30 ?_
        refine lv_aload_n hx hb dX8_exchanges_31 rfl (lv_at hl 1 rfl) ?_
        refine va_get (D := D) (ci := 8) (v := .ref (ad 4)) (C := RX8) (T := TX8) (N := 24) hx hb hts iX8_exchanges_X8 hown hG.1 hP 0 rfl rfl 6 (by decide) (hts _ fX8_exchanges_1) (fun _ h9 => h9) rfl dX8_exchanges_32 ?_
        refine lv_bipush (v := 24) hx hb dX8_exchanges_35 (by decide) ?_
        refine lv_iload_n hx hb dX8_exchanges_37 rfl (lv_at hl 3 rfl) ?_
        refine lv_imul hx hb dX8_exchanges_38 ?_
        refine lv_iload_n hx hb dX8_exchanges_39 rfl (lv_at hl 4 rfl) ?_
        refine lv_iadd hx hb dX8_exchanges_40 ?_
        obtain ⟨h_5, hr1⟩ := gd_s hr1
        refine va_iald hx hb hG.1 hP 4 0 rfl rfl h_5 dX8_exchanges_41 ?_
        obtain ⟨h_6, hr1⟩ := gd_s hr1
        refine va_iast hx hb hG.1 hP hD hS 4 0 rfl rfl h_6 dX8_exchanges_42 (fun H locs hP hD hS => ?_)
        have hP : va_P D cls9 (wM cI ad states whyKind whyOrder many wide textLong spot readColumns all past refused (upd i_2 (((24 : Int32) * a0) + i_1).toNatClampNeg (i_2 (((24 : Int32) * a1) + i_1).toNatClampNeg)) kept chosen across sum one two base quotients text numbers entries before) H := hP
        have hD : va_D A (wM cI ad states whyKind whyOrder many wide textLong spot readColumns all past refused (upd i_2 (((24 : Int32) * a0) + i_1).toNatClampNeg (i_2 (((24 : Int32) * a1) + i_1).toNatClampNeg)) kept chosen across sum one two base quotients text numbers entries before) := hD
        refine lv_aload_n hx hb dX8_exchanges_43 rfl (lv_at hl 1 rfl) ?_
        refine va_get (D := D) (ci := 8) (v := .ref (ad 4)) (C := RX8) (T := TX8) (N := 24) hx hb hts iX8_exchanges_X8 hown hG.1 hP 0 rfl rfl 6 (by decide) (hts _ fX8_exchanges_1) (fun _ h9 => h9) rfl dX8_exchanges_44 ?_
        refine lv_bipush (v := 24) hx hb dX8_exchanges_47 (by decide) ?_
        refine lv_iload_n hx hb dX8_exchanges_49 rfl (lv_at hl 3 rfl) ?_
        refine lv_imul hx hb dX8_exchanges_50 ?_
        refine lv_iload_n hx hb dX8_exchanges_51 rfl (lv_at hl 4 rfl) ?_
        refine lv_iadd hx hb dX8_exchanges_52 ?_
        refine lv_iload hx hb dX8_exchanges_53 (lv_at hl 0 rfl) ?_
        obtain ⟨h_7, hr1⟩ := gd_s hr1
        refine va_iast hx hb hG.1 hP hD hS 4 0 rfl rfl h_7 dX8_exchanges_55 (fun H locs hP hD hS => ?_)
        have hP : va_P D cls9 (wM cI ad states whyKind whyOrder many wide textLong spot readColumns all past refused (upd (upd i_2 (((24 : Int32) * a0) + i_1).toNatClampNeg (i_2 (((24 : Int32) * a1) + i_1).toNatClampNeg)) (((24 : Int32) * a1) + i_1).toNatClampNeg (i_2 (((24 : Int32) * a0) + i_1).toNatClampNeg)) kept chosen across sum one two base quotients text numbers entries before) H := hP
        have hD : va_D A (wM cI ad states whyKind whyOrder many wide textLong spot readColumns all past refused (upd (upd i_2 (((24 : Int32) * a0) + i_1).toNatClampNeg (i_2 (((24 : Int32) * a1) + i_1).toNatClampNeg)) (((24 : Int32) * a1) + i_1).toNatClampNeg (i_2 (((24 : Int32) * a0) + i_1).toNatClampNeg)) kept chosen across sum one two base quotients text numbers entries before) := hD
        refine lv_iinc (v := (i_1 + 1)) (lv' := [(3, .int (i_1 + 1)), (4, .int (i_2 (((24 : Int32) * a0) + i_1).toNatClampNeg)), (0, .ref (ad 0)), (1, .int a0), (2, .int a1)]) hx hb dX8_exchanges_56 hl (k := 4) rfl rfl (by decide) rfl (fun ls hl => ?_)
        refine lv_goto (tgt := 2) hx hb dX8_exchanges_59 (by decide) ?_
        exact ih1 (i_1 + 1) (upd (upd i_2 (((24 : Int32) * a0) + i_1).toNatClampNeg (i_2 (((24 : Int32) * a1) + i_1).toNatClampNeg)) (((24 : Int32) * a1) + i_1).toNatClampNeg (i_2 (((24 : Int32) * a0) + i_1).toNatClampNeg)) (ht1 _ (Option.some.inj hr1).symm) H locs hP hD hS ls (lv_sub hl [2, 3, 4, 0] rfl)
  obtain ⟨n1, hn1⟩ := Lp_s hw1
  exact hL1 n1 (0 : Int32) work hn1 H locs hP hD hS ls (lv_sub hl [1, 2, 3, 0] rfl)
abbrev rm_X8_meets : Room := { frames := 4, cells := 0, slots := 0, locals := 93 }
theorem iX8_meets_X8 : ∀ w ∈ wsX80, w ∈ wsX8_meets := fun _ h => (List.mem_cons_of_mem _ (List.mem_append_right _ h))
theorem fX8_meets_1 : Cond.fieldLink RX8 178 "PopovRowsModel" "many" "I" ∈ wsX8_meets := (List.mem_cons_of_mem _ (List.mem_append_left _ (List.mem_append_left _ (List.mem_of_getElem? (i := 0) rfl))))
set_option maxHeartbeats 4000000 in
set_option maxRecDepth 100000 in
theorem mtX8_meets (l : Launch) (D : va_G) (cI cB cR : ClassId) (ad : Nat → Nat) (sz : Nat) (states : Int32) (whyKind : Int32) (whyOrder : Int32) (many : Int32) (wide : Int32) (textLong : Int32) (spot : Int32) (readColumns : Int32) (all : Nat → Int32) (past : Nat → Int32) (refused : Nat → Int32) (work : Nat → Int32) (kept : Nat → Int32) (chosen : Nat → Int32) (across : Nat → Int32) (sum : Nat → Int32) (one : Nat → Int32) (two : Nat → Int32) (base : Nat → Int32) (quotients : Nat → Int32) (text : Nat → Int32) (numbers : Nat → Int32) (entries : Nat → Int32) (before : Nat → Int32) (res : Int32 × (Nat → Int32)) (hf : fX8_meets many wide all work = some res) : Met l yX8_meets wsX8_meets rm_X8_meets (qP D cI cB cR [.ref (ad 0)] (wM cI ad states whyKind whyOrder many wide textLong spot readColumns all past refused work kept chosen across sum one two base quotients text numbers entries before) sz) (qZ D res.1 (wM cI ad states whyKind whyOrder many wide textLong spot readColumns all past refused work kept chosen across sum one two base quotients text numbers entries before) (wM cI ad states whyKind whyOrder many wide textLong spot readColumns all past refused res.2 kept chosen across sum one two base quotients text numbers entries before) sz) 0 0 (va_A (wM cI ad states whyKind whyOrder many wide textLong spot readColumns all past refused work kept chosen across sum one two base quotients text numbers entries before) sz) := by
  refine entZ (plainFor_of_name (by decide)) rfl (Nat.le_of_ble_eq_true rfl) ?_
  intro p e s m args below meth c Q A ls S hG hP hD hA hl hE
  obtain ⟨hx, hb, hml, hown, hts⟩ := S
  have hown : s.vm.findClass RX8 = some m.cls := hown
  have hS : va_S A s.heap s.heap [] := va_S.rf
  have hl : lv_has ls 4 [(0, .ref (ad 0))] := hl
  have hq := hf
  unfold fX8_meets at hq
  obtain ⟨H, hH⟩ : ∃ H, H = s.heap := ⟨_, rfl⟩
  obtain ⟨locs, hlo⟩ : ∃ L : List Loc, L = [] := ⟨_, rfl⟩
  have hP : va_P D cls9 (wM cI ad states whyKind whyOrder many wide textLong spot readColumns all past refused work kept chosen across sum one two base quotients text numbers entries before) H := hH ▸ hP
  have hS : va_S A s.heap H locs := by rw [hH, hlo]; exact hS
  suffices hg : W p l e rm_X8_meets s m args below meth c H locs 0 0 Q (F0 m 0 ls []) by rw [hH, hlo] at hg; exact hg
  refine lv_iconst (v := 0) hx hb dX8_meets_0 (by decide) ?_
  refine lv_istore_n (lv' := [(1, .int (0 : Int32)), (0, .ref (ad 0))]) hx hb dX8_meets_1 rfl hl (by decide) rfl (fun ls hl => ?_)
  obtain ⟨w1, hw1, hk1, hO1⟩ := bx_s hq
  have hX1 : ∀ (_ : Unit), w1 = .inl () → ∀ (H : Heap) (locs : List Loc), va_P D cls9 (wM cI ad states whyKind whyOrder many wide textLong spot readColumns all past refused work kept chosen across sum one two base quotients text numbers entries before) H → va_D A (wM cI ad states whyKind whyOrder many wide textLong spot readColumns all past refused work kept chosen across sum one two base quotients text numbers entries before) → va_S A s.heap H locs → ∀ (ls : Array Slot), lv_has ls 4 [] → W p l e rm_X8_meets s m args below meth c H locs 0 0 Q (F0 m 102 ls []) := by
    intro _ hq H locs hP hD hS ls hl
    have hq := hk1 _ hq
    refine lv_iconst (v := 0) hx hb dX8_meets_102 (by decide) ?_
    have he := Option.some.inj hq
    subst he
    exact hE H locs _ _ _ rfl (Or.inl rfl) dX8_meets_103 hP hD hS
  have hL1 : ∀ (n : Nat) (i_1 : Int32), lrun (fun (z : Int32) => fX8_meets_s2 many wide all work z) n i_1 = some w1 → ∀ (H : Heap) (locs : List Loc), va_P D cls9 (wM cI ad states whyKind whyOrder many wide textLong spot readColumns all past refused work kept chosen across sum one two base quotients text numbers entries before) H → va_D A (wM cI ad states whyKind whyOrder many wide textLong spot readColumns all past refused work kept chosen across sum one two base quotients text numbers entries before) → va_S A s.heap H locs → ∀ (ls : Array Slot), lv_has ls 4 [(0, .ref (ad 0)), (1, .int i_1)] → W p l e rm_X8_meets s m args below meth c H locs 0 0 Q (F0 m 2 ls []) := by
    intro n
    induction n with
    | zero => intro i_1 h; cases h
    | succ n ih1 =>
      intro i_1 hr1 H locs hP hD hS ls hl
      obtain ⟨k, v1, hk, hr1, ht1, hv1⟩ := lrun_s hr1
      cases hk
      have hr1 : fX8_meets_s2 many wide all work i_1 = some v1 := hr1
      unfold fX8_meets_s2 at hr1
      refine lv_iload_n hx hb dX8_meets_2 rfl (lv_at hl 1 rfl) ?_
      refine lv_aload_n hx hb dX8_meets_3 rfl (lv_at hl 0 rfl) ?_
      refine va_get (D := D) (ci := 8) (v := .int many) (C := RX8) (T := TX8) (N := 24) hx hb hts iX8_meets_X8 hown hG.1 hP 0 rfl rfl 7 (by decide) (hts _ fX8_meets_1) (fun _ h9 => h9) rfl dX8_meets_4 ?_
      refine lv_icmp_ge (tgt := 102) hx hb dX8_meets_7 (by decide) (fun c_2 => ?_) (fun c_2 => ?_)
      · have hr1 := it_t c_2 hr1
        exact hX1 () (hv1 _ (Option.some.inj hr1).symm).symm H locs hP hD hS ls (lv_sub hl [] rfl)
      · have hr1 := it_f c_2 hr1
        refine lv_iconst (v := 0) hx hb dX8_meets_10 (by decide) ?_
        refine lv_istore_n (lv' := [(2, .int (0 : Int32)), (0, .ref (ad 0)), (1, .int i_1)]) hx hb dX8_meets_11 rfl hl (by decide) rfl (fun ls hl => ?_)
        obtain ⟨w2, hw2, hk2, hO2⟩ := bx_s hr1
        have hX2 : ∀ (_ : Unit), w2 = .inl () → ∀ (H : Heap) (locs : List Loc), va_P D cls9 (wM cI ad states whyKind whyOrder many wide textLong spot readColumns all past refused work kept chosen across sum one two base quotients text numbers entries before) H → va_D A (wM cI ad states whyKind whyOrder many wide textLong spot readColumns all past refused work kept chosen across sum one two base quotients text numbers entries before) → va_S A s.heap H locs → ∀ (ls : Array Slot), lv_has ls 4 [(0, .ref (ad 0)), (1, .int i_1)] → W p l e rm_X8_meets s m args below meth c H locs 0 0 Q (F0 m 96 ls []) := by
          intro _ hq H locs hP hD hS ls hl
          have hr1 := hk2 _ hq
          refine lv_iinc (v := (i_1 + 1)) (lv' := [(1, .int (i_1 + 1)), (0, .ref (ad 0))]) hx hb dX8_meets_96 hl (k := 1) rfl rfl (by decide) rfl (fun ls hl => ?_)
          refine lv_goto (tgt := 2) hx hb dX8_meets_99 (by decide) ?_
          exact ih1 (i_1 + 1) (ht1 _ (Option.some.inj hr1).symm) H locs hP hD hS ls (lv_sub hl [1, 0] rfl)
        have hL2 : ∀ (n : Nat) (i_3 : Int32), lrun (fun (z : Int32) => fX8_meets_s12 many wide all work i_1 z) n i_3 = some w2 → ∀ (H : Heap) (locs : List Loc), va_P D cls9 (wM cI ad states whyKind whyOrder many wide textLong spot readColumns all past refused work kept chosen across sum one two base quotients text numbers entries before) H → va_D A (wM cI ad states whyKind whyOrder many wide textLong spot readColumns all past refused work kept chosen across sum one two base quotients text numbers entries before) → va_S A s.heap H locs → ∀ (ls : Array Slot), lv_has ls 4 [(0, .ref (ad 0)), (1, .int i_1), (2, .int i_3)] → W p l e rm_X8_meets s m args below meth c H locs 0 0 Q (F0 m 12 ls []) := by
          intro n
          induction n with
          | zero => intro i_3 h; cases h
          | succ n ih2 =>
            intro i_3 hr2 H locs hP hD hS ls hl
            obtain ⟨k, v2, hk, hr2, ht2, hv2⟩ := lrun_s hr2
            cases hk
            have hr2 : fX8_meets_s12 many wide all work i_1 i_3 = some v2 := hr2
            unfold fX8_meets_s12 at hr2
            refine lv_iload_n hx hb dX8_meets_12 rfl (lv_at hl 2 rfl) ?_
            refine lv_aload_n hx hb dX8_meets_13 rfl (lv_at hl 0 rfl) ?_
            refine va_get (D := D) (ci := 8) (v := .int many) (C := RX8) (T := TX8) (N := 24) hx hb hts iX8_meets_X8 hown hG.1 hP 0 rfl rfl 7 (by decide) (hts _ fX8_meets_1) (fun _ h9 => h9) rfl dX8_meets_14 ?_
            refine lv_icmp_ge (tgt := 96) hx hb dX8_meets_17 (by decide) (fun c_4 => ?_) (fun c_4 => ?_)
            · have hr2 := it_t c_4 hr2
              exact hX2 () (hv2 _ (Option.some.inj hr2).symm).symm H locs hP hD hS ls (lv_sub hl [0, 1] rfl)
            · have hr2 := it_f c_4 hr2
              refine lv_iload_n hx hb dX8_meets_20 rfl (lv_at hl 1 rfl) ?_
              refine lv_iload_n hx hb dX8_meets_21 rfl (lv_at hl 2 rfl) ?_
              obtain ⟨v3, hj3, hk3⟩ := bd1_s hr2
              have hJ3 : ∀ (j_14 : Int32), v3 = j_14 → (j_14 = 0 ∨ j_14 = 1) → ∀ (H : Heap) (locs : List Loc), va_P D cls9 (wM cI ad states whyKind whyOrder many wide textLong spot readColumns all past refused work kept chosen across sum one two base quotients text numbers entries before) H → va_D A (wM cI ad states whyKind whyOrder many wide textLong spot readColumns all past refused work kept chosen across sum one two base quotients text numbers entries before) → va_S A s.heap H locs → ∀ (ls : Array Slot), lv_has ls 4 [(0, .ref (ad 0)), (1, .int i_1), (2, .int i_3)] → W p l e rm_X8_meets s m args below meth c H locs 0 0 Q (F0 m 46 ls [.int j_14]) := by
                intro j_14 hq zj_14 H locs hP hD hS ls hl
                have hr2 := hk3 _ hq
                refine lv_istore_n (lv' := [(3, .int j_14), (0, .ref (ad 0)), (1, .int i_1), (2, .int i_3)]) hx hb dX8_meets_46 rfl hl (by decide) rfl (fun ls hl => ?_)
                refine lv_iload_n hx hb dX8_meets_47 rfl (lv_at hl 0 rfl) ?_
                refine lv_if_eq (tgt := 90) hx hb dX8_meets_48 (by decide) (fun c_15 => ?_) (fun c_15 => ?_)
                · have hr2 := it_t c_15 hr2
                  refine lv_iinc (v := (i_3 + 1)) (lv' := [(2, .int (i_3 + 1)), (3, .int j_14), (0, .ref (ad 0)), (1, .int i_1)]) hx hb dX8_meets_90 hl (k := 3) rfl rfl (by decide) rfl (fun ls hl => ?_)
                  refine lv_goto (tgt := 12) hx hb dX8_meets_93 (by decide) ?_
                  exact ih2 (i_3 + 1) (ht2 _ (Option.some.inj hr2).symm) H locs hP hD hS ls (lv_sub hl [2, 3, 0] rfl)
                · have hr2 := it_f c_15 hr2
                  refine lv_aload_n hx hb dX8_meets_51 rfl (lv_at hl 1 rfl) ?_
                  refine lv_iload_n hx hb dX8_meets_52 rfl (lv_at hl 2 rfl) ?_
                  obtain ⟨v_18, hq_17, hk⟩ := bd1_s hr2
                  obtain ⟨r_16, rfl⟩ : ∃ y, y = v_18 := ⟨_, rfl⟩
                  have hr2 := hk _ rfl
                  refine callIA (gV (rest := []) ⟨hx, hb, hml, hown, hts⟩ hG hP hD 0 8 rfl rfl (mtX8_workPivot l D cI cB cR ad H.size states whyKind whyOrder many wide textLong spot readColumns all past refused work kept chosen across sum one two base quotients text numbers entries before i_1 r_16 hq_17) (cwV 1 hts gX8_meets_X8_workPivot rfl rfl rfl ⟨rfl, hd_X8_workPivot⟩ ⟨Nat.le_of_ble_eq_true rfl, Nat.le_of_ble_eq_true rfl⟩) rfl hl.1 rfl (Nat.le_of_ble_eq_true rfl) dX8_meets_53) hD hS hA (fun H locs hP hD hS => ?_)
                  have hP : va_P D cls9 (wM cI ad states whyKind whyOrder many wide textLong spot readColumns all past refused work kept chosen across sum one two base quotients text numbers entries before) H := hP
                  have hD : va_D A (wM cI ad states whyKind whyOrder many wide textLong spot readColumns all past refused work kept chosen across sum one two base quotients text numbers entries before) := hD
                  refine lv_aload_n hx hb dX8_meets_56 rfl (lv_at hl 1 rfl) ?_
                  refine lv_iload_n hx hb dX8_meets_57 rfl (lv_at hl 3 rfl) ?_
                  obtain ⟨v_21, hq_20, hk⟩ := bd1_s hr2
                  obtain ⟨r_19, rfl⟩ : ∃ y, y = v_21 := ⟨_, rfl⟩
                  have hr2 := hk _ rfl
                  refine callIA (gV (rest := [.int r_16]) ⟨hx, hb, hml, hown, hts⟩ hG hP hD 0 8 rfl rfl (mtX8_workPivot l D cI cB cR ad H.size states whyKind whyOrder many wide textLong spot readColumns all past refused work kept chosen across sum one two base quotients text numbers entries before i_3 r_19 hq_20) (cwV 1 hts gX8_meets_X8_workPivot rfl rfl rfl ⟨rfl, hd_X8_workPivot⟩ ⟨Nat.le_of_ble_eq_true rfl, Nat.le_of_ble_eq_true rfl⟩) rfl hl.1 rfl (Nat.le_of_ble_eq_true rfl) dX8_meets_58) hD hS hA (fun H locs hP hD hS => ?_)
                  have hP : va_P D cls9 (wM cI ad states whyKind whyOrder many wide textLong spot readColumns all past refused work kept chosen across sum one two base quotients text numbers entries before) H := hP
                  have hD : va_D A (wM cI ad states whyKind whyOrder many wide textLong spot readColumns all past refused work kept chosen across sum one two base quotients text numbers entries before) := hD
                  refine lv_icmp_ne (tgt := 90) hx hb dX8_meets_61 (by decide) (fun c_22 => ?_) (fun c_22 => ?_)
                  · have hr2 := it_f c_22 hr2
                    refine lv_iinc (v := (i_3 + 1)) (lv' := [(2, .int (i_3 + 1)), (3, .int j_14), (0, .ref (ad 0)), (1, .int i_1)]) hx hb dX8_meets_90 hl (k := 3) rfl rfl (by decide) rfl (fun ls hl => ?_)
                    refine lv_goto (tgt := 12) hx hb dX8_meets_93 (by decide) ?_
                    exact ih2 (i_3 + 1) (ht2 _ (Option.some.inj hr2).symm) H locs hP hD hS ls (lv_sub hl [2, 3, 0] rfl)
                  · have hr2 := it_t c_22 hr2
                    refine lv_aload_n hx hb dX8_meets_64 rfl (lv_at hl 1 rfl) ?_
                    refine lv_iload_n hx hb dX8_meets_65 rfl (lv_at hl 3 rfl) ?_
                    obtain ⟨v_25, hq_24, hk⟩ := bd1_s hr2
                    obtain ⟨r_23, rfl⟩ : ∃ y, y = v_25 := ⟨_, rfl⟩
                    have hr2 := hk _ rfl
                    refine callIA (gV (rest := []) ⟨hx, hb, hml, hown, hts⟩ hG hP hD 0 8 rfl rfl (mtX8_workDegree l D cI cB cR ad H.size states whyKind whyOrder many wide textLong spot readColumns all past refused work kept chosen across sum one two base quotients text numbers entries before i_3 r_23 hq_24) (cwV 1 hts gX8_meets_X8_workDegree rfl rfl rfl ⟨rfl, hd_X8_workDegree⟩ ⟨Nat.le_of_ble_eq_true rfl, Nat.le_of_ble_eq_true rfl⟩) rfl hl.1 rfl (Nat.le_of_ble_eq_true rfl) dX8_meets_66) hD hS hA (fun H locs hP hD hS => ?_)
                    have hP : va_P D cls9 (wM cI ad states whyKind whyOrder many wide textLong spot readColumns all past refused work kept chosen across sum one two base quotients text numbers entries before) H := hP
                    have hD : va_D A (wM cI ad states whyKind whyOrder many wide textLong spot readColumns all past refused work kept chosen across sum one two base quotients text numbers entries before) := hD
                    refine lv_aload_n hx hb dX8_meets_69 rfl (lv_at hl 1 rfl) ?_
                    refine lv_iload_n hx hb dX8_meets_70 rfl (lv_at hl 2 rfl) ?_
                    obtain ⟨v_28, hq_27, hk⟩ := bd1_s hr2
                    obtain ⟨r_26, rfl⟩ : ∃ y, y = v_28 := ⟨_, rfl⟩
                    have hr2 := hk _ rfl
                    refine callIA (gV (rest := [.int r_23]) ⟨hx, hb, hml, hown, hts⟩ hG hP hD 0 8 rfl rfl (mtX8_workDegree l D cI cB cR ad H.size states whyKind whyOrder many wide textLong spot readColumns all past refused work kept chosen across sum one two base quotients text numbers entries before i_1 r_26 hq_27) (cwV 1 hts gX8_meets_X8_workDegree rfl rfl rfl ⟨rfl, hd_X8_workDegree⟩ ⟨Nat.le_of_ble_eq_true rfl, Nat.le_of_ble_eq_true rfl⟩) rfl hl.1 rfl (Nat.le_of_ble_eq_true rfl) dX8_meets_71) hD hS hA (fun H locs hP hD hS => ?_)
                    have hP : va_P D cls9 (wM cI ad states whyKind whyOrder many wide textLong spot readColumns all past refused work kept chosen across sum one two base quotients text numbers entries before) H := hP
                    have hD : va_D A (wM cI ad states whyKind whyOrder many wide textLong spot readColumns all past refused work kept chosen across sum one two base quotients text numbers entries before) := hD
                    refine lv_icmp_gt (tgt := 90) hx hb dX8_meets_74 (by decide) (fun c_29 => ?_) (fun c_29 => ?_)
                    · have hr2 := it_t c_29 hr2
                      refine lv_iinc (v := (i_3 + 1)) (lv' := [(2, .int (i_3 + 1)), (3, .int j_14), (0, .ref (ad 0)), (1, .int i_1)]) hx hb dX8_meets_90 hl (k := 3) rfl rfl (by decide) rfl (fun ls hl => ?_)
                      refine lv_goto (tgt := 12) hx hb dX8_meets_93 (by decide) ?_
                      exact ih2 (i_3 + 1) (ht2 _ (Option.some.inj hr2).symm) H locs hP hD hS ls (lv_sub hl [2, 3, 0] rfl)
                    · have hr2 := it_f c_29 hr2
                      refine lv_aload_n hx hb dX8_meets_77 rfl (lv_at hl 1 rfl) ?_
                      refine lv_iload_n hx hb dX8_meets_78 rfl (lv_at hl 2 rfl) ?_
                      refine lv_iload_n hx hb dX8_meets_79 rfl (lv_at hl 3 rfl) ?_
                      refine lv_aload_n hx hb dX8_meets_80 rfl (lv_at hl 1 rfl) ?_
                      refine lv_iload_n hx hb dX8_meets_81 rfl (lv_at hl 2 rfl) ?_
                      obtain ⟨v_32, hq_31, hk⟩ := bd1_s hr2
                      obtain ⟨r_30, rfl⟩ : ∃ y, y = v_32 := ⟨_, rfl⟩
                      have hr2 := hk _ rfl
                      refine callIA (gV (rest := [.int i_3, .int i_1, .ref (ad 0)]) ⟨hx, hb, hml, hown, hts⟩ hG hP hD 0 8 rfl rfl (mtX8_workPivot l D cI cB cR ad H.size states whyKind whyOrder many wide textLong spot readColumns all past refused work kept chosen across sum one two base quotients text numbers entries before i_1 r_30 hq_31) (cwV 1 hts gX8_meets_X8_workPivot rfl rfl rfl ⟨rfl, hd_X8_workPivot⟩ ⟨Nat.le_of_ble_eq_true rfl, Nat.le_of_ble_eq_true rfl⟩) rfl hl.1 rfl (Nat.le_of_ble_eq_true rfl) dX8_meets_82) hD hS hA (fun H locs hP hD hS => ?_)
                      have hP : va_P D cls9 (wM cI ad states whyKind whyOrder many wide textLong spot readColumns all past refused work kept chosen across sum one two base quotients text numbers entries before) H := hP
                      have hD : va_D A (wM cI ad states whyKind whyOrder many wide textLong spot readColumns all past refused work kept chosen across sum one two base quotients text numbers entries before) := hD
                      obtain ⟨v_35, hq_34, hk⟩ := bd1_s hr2
                      obtain ⟨u_33, rfl⟩ : ∃ y, y = v_35 := ⟨_, rfl⟩
                      have hr2 := hk _ rfl
                      refine callVA (gV (rest := []) ⟨hx, hb, hml, hown, hts⟩ hG hP hD 0 8 rfl rfl (mtX8_takes l D cI cB cR ad H.size states whyKind whyOrder many wide textLong spot readColumns all past refused work kept chosen across sum one two base quotients text numbers entries before i_1 i_3 r_30 u_33 hq_34) (cwV 3 hts gX8_meets_X8_takes rfl rfl rfl ⟨rfl, hd_X8_takes⟩ ⟨Nat.le_of_ble_eq_true rfl, Nat.le_of_ble_eq_true rfl⟩) rfl hl.1 rfl (Nat.le_of_ble_eq_true rfl) dX8_meets_85) hD hS hA (fun H locs hP hD hS => ?_)
                      have hP : va_P D cls9 (wM cI ad states whyKind whyOrder many wide textLong spot readColumns all past refused u_33 kept chosen across sum one two base quotients text numbers entries before) H := hP
                      have hD : va_D A (wM cI ad states whyKind whyOrder many wide textLong spot readColumns all past refused u_33 kept chosen across sum one two base quotients text numbers entries before) := hD
                      refine lv_iconst (v := 1) hx hb dX8_meets_88 (by decide) ?_
                      have he := (hO1 _ (hv1 _ ((hO2 _ (hv2 _ (Option.some.inj hr2).symm).symm)).symm).symm)
                      subst he
                      exact hE H locs _ _ _ rfl (Or.inr rfl) dX8_meets_89 hP hD hS
              refine lv_icmp_eq (tgt := 45) hx hb dX8_meets_22 (by decide) (fun c_5 => ?_) (fun c_5 => ?_)
              · have hj3 := it_t c_5 hj3
                refine lv_iconst (v := 0) hx hb dX8_meets_45 (by decide) ?_
                exact hJ3 (0 : Int32) (Option.some.inj hj3).symm (Or.inl rfl) H locs hP hD hS ls (lv_sub hl [0, 1, 2] rfl)
              · have hj3 := it_f c_5 hj3
                refine lv_aload_n hx hb dX8_meets_25 rfl (lv_at hl 0 rfl) ?_
                refine lv_iload_n hx hb dX8_meets_26 rfl (lv_at hl 1 rfl) ?_
                obtain ⟨v_8, hq_7, hk⟩ := bd1_s hj3
                obtain ⟨r_6, rfl⟩ : ∃ y, y = v_8 := ⟨_, rfl⟩
                have hj3 := hk _ rfl
                refine callIA (gV (rest := []) ⟨hx, hb, hml, hown, hts⟩ hG hP hD 0 8 rfl rfl (mtX8_workDegree l D cI cB cR ad H.size states whyKind whyOrder many wide textLong spot readColumns all past refused work kept chosen across sum one two base quotients text numbers entries before i_1 r_6 hq_7) (cwV 1 hts gX8_meets_X8_workDegree rfl rfl rfl ⟨rfl, hd_X8_workDegree⟩ ⟨Nat.le_of_ble_eq_true rfl, Nat.le_of_ble_eq_true rfl⟩) rfl hl.1 rfl (Nat.le_of_ble_eq_true rfl) dX8_meets_27) hD hS hA (fun H locs hP hD hS => ?_)
                have hP : va_P D cls9 (wM cI ad states whyKind whyOrder many wide textLong spot readColumns all past refused work kept chosen across sum one two base quotients text numbers entries before) H := hP
                have hD : va_D A (wM cI ad states whyKind whyOrder many wide textLong spot readColumns all past refused work kept chosen across sum one two base quotients text numbers entries before) := hD
                refine lv_if_lt (tgt := 45) hx hb dX8_meets_30 (by decide) (fun c_9 => ?_) (fun c_9 => ?_)
                · have hj3 := it_t c_9 hj3
                  refine lv_iconst (v := 0) hx hb dX8_meets_45 (by decide) ?_
                  exact hJ3 (0 : Int32) (Option.some.inj hj3).symm (Or.inl rfl) H locs hP hD hS ls (lv_sub hl [0, 1, 2] rfl)
                · have hj3 := it_f c_9 hj3
                  refine lv_aload_n hx hb dX8_meets_33 rfl (lv_at hl 0 rfl) ?_
                  refine lv_iload_n hx hb dX8_meets_34 rfl (lv_at hl 2 rfl) ?_
                  obtain ⟨v_12, hq_11, hk⟩ := bd1_s hj3
                  obtain ⟨r_10, rfl⟩ : ∃ y, y = v_12 := ⟨_, rfl⟩
                  have hj3 := hk _ rfl
                  refine callIA (gV (rest := []) ⟨hx, hb, hml, hown, hts⟩ hG hP hD 0 8 rfl rfl (mtX8_workDegree l D cI cB cR ad H.size states whyKind whyOrder many wide textLong spot readColumns all past refused work kept chosen across sum one two base quotients text numbers entries before i_3 r_10 hq_11) (cwV 1 hts gX8_meets_X8_workDegree rfl rfl rfl ⟨rfl, hd_X8_workDegree⟩ ⟨Nat.le_of_ble_eq_true rfl, Nat.le_of_ble_eq_true rfl⟩) rfl hl.1 rfl (Nat.le_of_ble_eq_true rfl) dX8_meets_35) hD hS hA (fun H locs hP hD hS => ?_)
                  have hP : va_P D cls9 (wM cI ad states whyKind whyOrder many wide textLong spot readColumns all past refused work kept chosen across sum one two base quotients text numbers entries before) H := hP
                  have hD : va_D A (wM cI ad states whyKind whyOrder many wide textLong spot readColumns all past refused work kept chosen across sum one two base quotients text numbers entries before) := hD
                  refine lv_if_lt (tgt := 45) hx hb dX8_meets_38 (by decide) (fun c_13 => ?_) (fun c_13 => ?_)
                  · have hj3 := it_t c_13 hj3
                    refine lv_iconst (v := 0) hx hb dX8_meets_45 (by decide) ?_
                    exact hJ3 (0 : Int32) (Option.some.inj hj3).symm (Or.inl rfl) H locs hP hD hS ls (lv_sub hl [0, 1, 2] rfl)
                  · have hj3 := it_f c_13 hj3
                    refine lv_iconst (v := 1) hx hb dX8_meets_41 (by decide) ?_
                    refine lv_goto (tgt := 46) hx hb dX8_meets_42 (by decide) ?_
                    exact hJ3 (1 : Int32) (Option.some.inj hj3).symm (Or.inr rfl) H locs hP hD hS ls (lv_sub hl [0, 1, 2] rfl)
        obtain ⟨n2, hn2⟩ := Lp_s hw2
        exact hL2 n2 (0 : Int32) hn2 H locs hP hD hS ls (lv_sub hl [1, 2, 0] rfl)
  obtain ⟨n1, hn1⟩ := Lp_s hw1
  exact hL1 n1 (0 : Int32) hn1 H locs hP hD hS ls (lv_sub hl [1, 0] rfl)
