abbrev rm_X8_forms : Room := { frames := 5, cells := 0, slots := 0, locals := 124 }
theorem iX8_forms_X8 : ∀ w ∈ wsX80, w ∈ wsX8_forms := fun _ h => (List.mem_cons_of_mem _ (List.mem_append_right _ h))
theorem fX8_forms_1 : Cond.fieldLink RX8 178 "PopovRowsModel" "many" "I" ∈ wsX8_forms := (List.mem_cons_of_mem _ (List.mem_append_left _ (List.mem_append_left _ (List.mem_of_getElem? (i := 0) rfl))))
theorem fX8_forms_2 : Cond.fieldLink RX8 23 "PopovRowsModel" "work" "[I" ∈ wsX8_forms := (List.mem_cons_of_mem _ (List.mem_append_left _ (List.mem_append_left _ (List.mem_of_getElem? (i := 1) rfl))))
set_option maxHeartbeats 4000000 in
set_option maxRecDepth 100000 in
theorem mtX8_forms (l : Launch) (D : va_G) (cI cB cR : ClassId) (ad : Nat → Nat) (sz : Nat) (states : Int32) (whyKind : Int32) (whyOrder : Int32) (many : Int32) (wide : Int32) (textLong : Int32) (spot : Int32) (readColumns : Int32) (all : Nat → Int32) (past : Nat → Int32) (refused : Nat → Int32) (work : Nat → Int32) (kept : Nat → Int32) (chosen : Nat → Int32) (across : Nat → Int32) (sum : Nat → Int32) (one : Nat → Int32) (two : Nat → Int32) (base : Nat → Int32) (quotients : Nat → Int32) (text : Nat → Int32) (numbers : Nat → Int32) (entries : Nat → Int32) (before : Nat → Int32) (res : Int32 × (Nat → Int32)) (hf : fX8_forms many wide all work = some res) : Met l yX8_forms wsX8_forms rm_X8_forms (qP D cI cB cR [.ref (ad 0)] (wM cI ad states whyKind whyOrder many wide textLong spot readColumns all past refused work kept chosen across sum one two base quotients text numbers entries before) sz) (qV D (wM cI ad states whyKind whyOrder many wide textLong spot readColumns all past refused work kept chosen across sum one two base quotients text numbers entries before) (wM cI ad states whyKind whyOrder res.1 wide textLong spot readColumns all past refused res.2 kept chosen across sum one two base quotients text numbers entries before) sz) 0 0 (va_A (wM cI ad states whyKind whyOrder many wide textLong spot readColumns all past refused work kept chosen across sum one two base quotients text numbers entries before) sz) := by
  refine entV (plainFor_of_name (by decide)) rfl (Nat.le_of_ble_eq_true rfl) ?_
  intro p e s m args below meth c Q A ls S hG hP hD hA hl hE
  obtain ⟨hx, hb, hml, hown, hts⟩ := S
  have hown : s.vm.findClass RX8 = some m.cls := hown
  have hS : va_S A s.heap s.heap [] := va_S.rf
  have hl : lv_has ls 5 [(0, .ref (ad 0))] := hl
  have hq := hf
  unfold fX8_forms at hq
  obtain ⟨H, hH⟩ : ∃ H, H = s.heap := ⟨_, rfl⟩
  obtain ⟨locs, hlo⟩ : ∃ L : List Loc, L = [] := ⟨_, rfl⟩
  have hP : va_P D cls9 (wM cI ad states whyKind whyOrder many wide textLong spot readColumns all past refused work kept chosen across sum one two base quotients text numbers entries before) H := hH ▸ hP
  have hS : va_S A s.heap H locs := by rw [hH, hlo]; exact hS
  suffices hg : W p l e rm_X8_forms s m args below meth c H locs 0 0 Q (F0 m 0 ls []) by rw [hH, hlo] at hg; exact hg
  refine lv_iconst (v := 1) hx hb dX8_forms_0 (by decide) ?_
  refine lv_istore_n (lv' := [(1, .int (1 : Int32)), (0, .ref (ad 0))]) hx hb dX8_forms_1 rfl hl (by decide) rfl (fun ls hl => ?_)
  obtain ⟨w1, hw1, hk1⟩ := bd1_s hq
  have hX1 : ∀ (x_9 : Nat → Int32), w1 = x_9 → ∀ (H : Heap) (locs : List Loc), va_P D cls9 (wM cI ad states whyKind whyOrder many wide textLong spot readColumns all past refused x_9 kept chosen across sum one two base quotients text numbers entries before) H → va_D A (wM cI ad states whyKind whyOrder many wide textLong spot readColumns all past refused x_9 kept chosen across sum one two base quotients text numbers entries before) → va_S A s.heap H locs → ∀ (ls : Array Slot), lv_has ls 5 [(0, .ref (ad 0))] → W p l e rm_X8_forms s m args below meth c H locs 0 0 Q (F0 m 14 ls []) := by
    intro x_9 hq H locs hP hD hS ls hl
    have hq := hk1 _ hq
    refine lv_aload_n hx hb dX8_forms_14 rfl (lv_at hl 0 rfl) ?_
    refine va_get (D := D) (ci := 8) (v := .int many) (C := RX8) (T := TX8) (N := 24) hx hb hts iX8_forms_X8 hown hG.1 hP 0 rfl rfl 7 (by decide) (hts _ fX8_forms_1) (fun _ h9 => h9) rfl dX8_forms_15 ?_
    refine lv_iconst (v := 1) hx hb dX8_forms_18 (by decide) ?_
    refine lv_isub hx hb dX8_forms_19 ?_
    refine lv_istore_n (lv' := [(2, .int (many - (1 : Int32))), (0, .ref (ad 0))]) hx hb dX8_forms_20 rfl hl (by decide) rfl (fun ls hl => ?_)
    obtain ⟨w2, hw2, hk2⟩ := bd2_s hq
    have hX2 : ∀ (x_21 : Int32) (x_22 : Nat → Int32), w2 = (x_21, x_22) → ∀ (H : Heap) (locs : List Loc), va_P D cls9 (wM cI ad states whyKind whyOrder x_21 wide textLong spot readColumns all past refused x_22 kept chosen across sum one two base quotients text numbers entries before) H → va_D A (wM cI ad states whyKind whyOrder x_21 wide textLong spot readColumns all past refused x_22 kept chosen across sum one two base quotients text numbers entries before) → va_S A s.heap H locs → ∀ (ls : Array Slot), lv_has ls 5 [(0, .ref (ad 0))] → W p l e rm_X8_forms s m args below meth c H locs 0 0 Q (F0 m 58 ls []) := by
      intro x_21 x_22 hq H locs hP hD hS ls hl
      have hq := hk2 _ _ hq
      refine lv_iconst (v := 0) hx hb dX8_forms_58 (by decide) ?_
      refine lv_istore_n (lv' := [(2, .int (0 : Int32)), (0, .ref (ad 0))]) hx hb dX8_forms_59 rfl hl (by decide) rfl (fun ls hl => ?_)
      obtain ⟨w3, hw3, hk3⟩ := bd1_s hq
      have hX3 : ∀ (x_46 : Nat → Int32), w3 = x_46 → ∀ (H : Heap) (locs : List Loc), va_P D cls9 (wM cI ad states whyKind whyOrder x_21 wide textLong spot readColumns all past refused x_46 kept chosen across sum one two base quotients text numbers entries before) H → va_D A (wM cI ad states whyKind whyOrder x_21 wide textLong spot readColumns all past refused x_46 kept chosen across sum one two base quotients text numbers entries before) → va_S A s.heap H locs → ∀ (ls : Array Slot), lv_has ls 5 [(0, .ref (ad 0))] → W p l e rm_X8_forms s m args below meth c H locs 0 0 Q (F0 m 145 ls []) := by
        intro x_46 hq H locs hP hD hS ls hl
        have hq := hk3 _ hq
        refine lv_iconst (v := 0) hx hb dX8_forms_145 (by decide) ?_
        refine lv_istore_n (lv' := [(2, .int (0 : Int32)), (0, .ref (ad 0))]) hx hb dX8_forms_146 rfl hl (by decide) rfl (fun ls hl => ?_)
        obtain ⟨w5, hw5, hk5⟩ := bd1_s hq
        have hX5 : ∀ (x_53 : Nat → Int32), w5 = x_53 → ∀ (H : Heap) (locs : List Loc), va_P D cls9 (wM cI ad states whyKind whyOrder x_21 wide textLong spot readColumns all past refused x_53 kept chosen across sum one two base quotients text numbers entries before) H → va_D A (wM cI ad states whyKind whyOrder x_21 wide textLong spot readColumns all past refused x_53 kept chosen across sum one two base quotients text numbers entries before) → va_S A s.heap H locs → ∀ (ls : Array Slot), lv_has ls 5 [(0, .ref (ad 0))] → W p l e rm_X8_forms s m args below meth c H locs 0 0 Q (F0 m 171 ls []) := by
          intro x_53 hq H locs hP hD hS ls hl
          have hq := hk5 _ hq
          refine lv_iconst (v := 0) hx hb dX8_forms_171 (by decide) ?_
          refine lv_istore_n (lv' := [(2, .int (0 : Int32)), (0, .ref (ad 0))]) hx hb dX8_forms_172 rfl hl (by decide) rfl (fun ls hl => ?_)
          obtain ⟨w6, hw6, hk6⟩ := bd1_s hq
          have hX6 : ∀ (x_77 : Nat → Int32), w6 = x_77 → ∀ (H : Heap) (locs : List Loc), va_P D cls9 (wM cI ad states whyKind whyOrder x_21 wide textLong spot readColumns all past refused x_77 kept chosen across sum one two base quotients text numbers entries before) H → va_D A (wM cI ad states whyKind whyOrder x_21 wide textLong spot readColumns all past refused x_77 kept chosen across sum one two base quotients text numbers entries before) → va_S A s.heap H locs → ∀ (ls : Array Slot), lv_has ls 5 [] → W p l e rm_X8_forms s m args below meth c H locs 0 0 Q (F0 m 247 ls []) := by
            intro x_77 hq H locs hP hD hS ls hl
            have hq := hk6 _ hq
            have he := Option.some.inj hq
            subst he
            exact hE H locs _ _ dX8_forms_247 hP hD hS
          have hL6 : ∀ (n : Nat) (i_54 : Int32) (i_55 : Nat → Int32), lrun (fun (z : Int32 × (Nat → Int32)) => fX8_forms_s173 wide x_21 z.1 z.2) n (i_54, i_55) = some w6 → ∀ (H : Heap) (locs : List Loc), va_P D cls9 (wM cI ad states whyKind whyOrder x_21 wide textLong spot readColumns all past refused i_55 kept chosen across sum one two base quotients text numbers entries before) H → va_D A (wM cI ad states whyKind whyOrder x_21 wide textLong spot readColumns all past refused i_55 kept chosen across sum one two base quotients text numbers entries before) → va_S A s.heap H locs → ∀ (ls : Array Slot), lv_has ls 5 [(0, .ref (ad 0)), (2, .int i_54)] → W p l e rm_X8_forms s m args below meth c H locs 0 0 Q (F0 m 173 ls []) := by
            intro n
            induction n with
            | zero => intro i_54 i_55 h; cases h
            | succ n ih6 =>
              intro i_54 i_55 hr6 H locs hP hD hS ls hl
              obtain ⟨k, v6, hk, hr6, ht6, hv6⟩ := lrun_s hr6
              cases hk
              have hr6 : fX8_forms_s173 wide x_21 i_54 i_55 = some v6 := hr6
              unfold fX8_forms_s173 at hr6
              refine lv_iload_n hx hb dX8_forms_173 rfl (lv_at hl 1 rfl) ?_
              refine lv_aload_n hx hb dX8_forms_174 rfl (lv_at hl 0 rfl) ?_
              refine va_get (D := D) (ci := 8) (v := .int x_21) (C := RX8) (T := TX8) (N := 24) hx hb hts iX8_forms_X8 hown hG.1 hP 0 rfl rfl 7 (by decide) (hts _ fX8_forms_1) (fun _ h9 => h9) rfl dX8_forms_175 ?_
              refine lv_icmp_ge (tgt := 247) hx hb dX8_forms_178 (by decide) (fun c_56 => ?_) (fun c_56 => ?_)
              · have hr6 := it_t c_56 hr6
                exact hX6 i_55 (hv6 _ (Option.some.inj hr6).symm).symm H locs hP hD hS ls (lv_sub hl [] rfl)
              · have hr6 := it_f c_56 hr6
                refine lv_iload_n hx hb dX8_forms_181 rfl (lv_at hl 1 rfl) ?_
                refine lv_iconst (v := 1) hx hb dX8_forms_182 (by decide) ?_
                refine lv_iadd hx hb dX8_forms_183 ?_
                refine lv_istore_n (lv' := [(3, .int (i_54 + (1 : Int32))), (0, .ref (ad 0)), (2, .int i_54)]) hx hb dX8_forms_184 rfl hl (by decide) rfl (fun ls hl => ?_)
                obtain ⟨w7, hw7, hk7⟩ := bd1_s hr6
                have hX7 : ∀ (x_76 : Nat → Int32), w7 = x_76 → ∀ (H : Heap) (locs : List Loc), va_P D cls9 (wM cI ad states whyKind whyOrder x_21 wide textLong spot readColumns all past refused x_76 kept chosen across sum one two base quotients text numbers entries before) H → va_D A (wM cI ad states whyKind whyOrder x_21 wide textLong spot readColumns all past refused x_76 kept chosen across sum one two base quotients text numbers entries before) → va_S A s.heap H locs → ∀ (ls : Array Slot), lv_has ls 5 [(0, .ref (ad 0)), (2, .int i_54)] → W p l e rm_X8_forms s m args below meth c H locs 0 0 Q (F0 m 241 ls []) := by
                  intro x_76 hq H locs hP hD hS ls hl
                  have hr6 := hk7 _ hq
                  refine lv_iinc (v := (i_54 + 1)) (lv' := [(2, .int (i_54 + 1)), (0, .ref (ad 0))]) hx hb dX8_forms_241 hl (k := 1) rfl rfl (by decide) rfl (fun ls hl => ?_)
                  refine lv_goto (tgt := 173) hx hb dX8_forms_244 (by decide) ?_
                  exact ih6 (i_54 + 1) x_76 (ht6 _ (Option.some.inj hr6).symm) H locs hP hD hS ls (lv_sub hl [1, 0] rfl)
                have hL7 : ∀ (n : Nat) (i_57 : Int32) (i_58 : Nat → Int32), lrun (fun (z : Int32 × (Nat → Int32)) => fX8_forms_s185 wide i_54 x_21 z.1 z.2) n (i_57, i_58) = some w7 → ∀ (H : Heap) (locs : List Loc), va_P D cls9 (wM cI ad states whyKind whyOrder x_21 wide textLong spot readColumns all past refused i_58 kept chosen across sum one two base quotients text numbers entries before) H → va_D A (wM cI ad states whyKind whyOrder x_21 wide textLong spot readColumns all past refused i_58 kept chosen across sum one two base quotients text numbers entries before) → va_S A s.heap H locs → ∀ (ls : Array Slot), lv_has ls 5 [(0, .ref (ad 0)), (2, .int i_54), (3, .int i_57)] → W p l e rm_X8_forms s m args below meth c H locs 0 0 Q (F0 m 185 ls []) := by
                  intro n
                  induction n with
                  | zero => intro i_57 i_58 h; cases h
                  | succ n ih7 =>
                    intro i_57 i_58 hr7 H locs hP hD hS ls hl
                    obtain ⟨k, v7, hk, hr7, ht7, hv7⟩ := lrun_s hr7
                    cases hk
                    have hr7 : fX8_forms_s185 wide i_54 x_21 i_57 i_58 = some v7 := hr7
                    unfold fX8_forms_s185 at hr7
                    refine lv_iload_n hx hb dX8_forms_185 rfl (lv_at hl 2 rfl) ?_
                    refine lv_aload_n hx hb dX8_forms_186 rfl (lv_at hl 0 rfl) ?_
                    refine va_get (D := D) (ci := 8) (v := .int x_21) (C := RX8) (T := TX8) (N := 24) hx hb hts iX8_forms_X8 hown hG.1 hP 0 rfl rfl 7 (by decide) (hts _ fX8_forms_1) (fun _ h9 => h9) rfl dX8_forms_187 ?_
                    refine lv_icmp_ge (tgt := 241) hx hb dX8_forms_190 (by decide) (fun c_59 => ?_) (fun c_59 => ?_)
                    · have hr7 := it_t c_59 hr7
                      exact hX7 i_58 (hv7 _ (Option.some.inj hr7).symm).symm H locs hP hD hS ls (lv_sub hl [0, 1] rfl)
                    · have hr7 := it_f c_59 hr7
                      refine lv_bipush (v := 8) hx hb dX8_forms_193 (by decide) ?_
                      refine lv_aload_n hx hb dX8_forms_195 rfl (lv_at hl 0 rfl) ?_
                      refine lv_iload_n hx hb dX8_forms_196 rfl (lv_at hl 2 rfl) ?_
                      obtain ⟨v_62, hq_61, hk⟩ := bd1_s hr7
                      obtain ⟨r_60, rfl⟩ : ∃ y, y = v_62 := ⟨_, rfl⟩
                      have hr7 := hk _ rfl
                      refine callIA (gV (rest := [.int (8 : Int32)]) ⟨hx, hb, hml, hown, hts⟩ hG hP hD 0 8 rfl rfl (mtX8_workDegree l D cI cB cR ad H.size states whyKind whyOrder x_21 wide textLong spot readColumns all past refused i_58 kept chosen across sum one two base quotients text numbers entries before i_57 r_60 hq_61) (cwV 1 hts gX8_forms_X8_workDegree rfl rfl rfl ⟨rfl, hd_X8_workDegree⟩ ⟨Nat.le_of_ble_eq_true rfl, Nat.le_of_ble_eq_true rfl⟩) rfl hl.1 rfl (Nat.le_of_ble_eq_true rfl) dX8_forms_197) hD hS hA (fun H locs hP hD hS => ?_)
                      have hP : va_P D cls9 (wM cI ad states whyKind whyOrder x_21 wide textLong spot readColumns all past refused i_58 kept chosen across sum one two base quotients text numbers entries before) H := hP
                      have hD : va_D A (wM cI ad states whyKind whyOrder x_21 wide textLong spot readColumns all past refused i_58 kept chosen across sum one two base quotients text numbers entries before) := hD
                      refine lv_imul hx hb dX8_forms_200 ?_
                      refine lv_aload_n hx hb dX8_forms_201 rfl (lv_at hl 0 rfl) ?_
                      refine lv_iload_n hx hb dX8_forms_202 rfl (lv_at hl 2 rfl) ?_
                      obtain ⟨v_65, hq_64, hk⟩ := bd1_s hr7
                      obtain ⟨r_63, rfl⟩ : ∃ y, y = v_65 := ⟨_, rfl⟩
                      have hr7 := hk _ rfl
                      refine callIA (gV (rest := [.int ((8 : Int32) * r_60)]) ⟨hx, hb, hml, hown, hts⟩ hG hP hD 0 8 rfl rfl (mtX8_workPivot l D cI cB cR ad H.size states whyKind whyOrder x_21 wide textLong spot readColumns all past refused i_58 kept chosen across sum one two base quotients text numbers entries before i_57 r_63 hq_64) (cwV 1 hts gX8_forms_X8_workPivot rfl rfl rfl ⟨rfl, hd_X8_workPivot⟩ ⟨Nat.le_of_ble_eq_true rfl, Nat.le_of_ble_eq_true rfl⟩) rfl hl.1 rfl (Nat.le_of_ble_eq_true rfl) dX8_forms_203) hD hS hA (fun H locs hP hD hS => ?_)
                      have hP : va_P D cls9 (wM cI ad states whyKind whyOrder x_21 wide textLong spot readColumns all past refused i_58 kept chosen across sum one two base quotients text numbers entries before) H := hP
                      have hD : va_D A (wM cI ad states whyKind whyOrder x_21 wide textLong spot readColumns all past refused i_58 kept chosen across sum one two base quotients text numbers entries before) := hD
                      refine lv_iadd hx hb dX8_forms_206 ?_
                      refine lv_bipush (v := 8) hx hb dX8_forms_207 (by decide) ?_
                      refine lv_aload_n hx hb dX8_forms_209 rfl (lv_at hl 0 rfl) ?_
                      refine lv_iload_n hx hb dX8_forms_210 rfl (lv_at hl 1 rfl) ?_
                      obtain ⟨v_68, hq_67, hk⟩ := bd1_s hr7
                      obtain ⟨r_66, rfl⟩ : ∃ y, y = v_68 := ⟨_, rfl⟩
                      have hr7 := hk _ rfl
                      refine callIA (gV (rest := [.int (8 : Int32), .int (((8 : Int32) * r_60) + r_63)]) ⟨hx, hb, hml, hown, hts⟩ hG hP hD 0 8 rfl rfl (mtX8_workDegree l D cI cB cR ad H.size states whyKind whyOrder x_21 wide textLong spot readColumns all past refused i_58 kept chosen across sum one two base quotients text numbers entries before i_54 r_66 hq_67) (cwV 1 hts gX8_forms_X8_workDegree rfl rfl rfl ⟨rfl, hd_X8_workDegree⟩ ⟨Nat.le_of_ble_eq_true rfl, Nat.le_of_ble_eq_true rfl⟩) rfl hl.1 rfl (Nat.le_of_ble_eq_true rfl) dX8_forms_211) hD hS hA (fun H locs hP hD hS => ?_)
                      have hP : va_P D cls9 (wM cI ad states whyKind whyOrder x_21 wide textLong spot readColumns all past refused i_58 kept chosen across sum one two base quotients text numbers entries before) H := hP
                      have hD : va_D A (wM cI ad states whyKind whyOrder x_21 wide textLong spot readColumns all past refused i_58 kept chosen across sum one two base quotients text numbers entries before) := hD
                      refine lv_imul hx hb dX8_forms_214 ?_
                      refine lv_isub hx hb dX8_forms_215 ?_
                      refine lv_aload_n hx hb dX8_forms_216 rfl (lv_at hl 0 rfl) ?_
                      refine lv_iload_n hx hb dX8_forms_217 rfl (lv_at hl 1 rfl) ?_
                      obtain ⟨v_71, hq_70, hk⟩ := bd1_s hr7
                      obtain ⟨r_69, rfl⟩ : ∃ y, y = v_71 := ⟨_, rfl⟩
                      have hr7 := hk _ rfl
                      refine callIA (gV (rest := [.int ((((8 : Int32) * r_60) + r_63) - ((8 : Int32) * r_66))]) ⟨hx, hb, hml, hown, hts⟩ hG hP hD 0 8 rfl rfl (mtX8_workPivot l D cI cB cR ad H.size states whyKind whyOrder x_21 wide textLong spot readColumns all past refused i_58 kept chosen across sum one two base quotients text numbers entries before i_54 r_69 hq_70) (cwV 1 hts gX8_forms_X8_workPivot rfl rfl rfl ⟨rfl, hd_X8_workPivot⟩ ⟨Nat.le_of_ble_eq_true rfl, Nat.le_of_ble_eq_true rfl⟩) rfl hl.1 rfl (Nat.le_of_ble_eq_true rfl) dX8_forms_218) hD hS hA (fun H locs hP hD hS => ?_)
                      have hP : va_P D cls9 (wM cI ad states whyKind whyOrder x_21 wide textLong spot readColumns all past refused i_58 kept chosen across sum one two base quotients text numbers entries before) H := hP
                      have hD : va_D A (wM cI ad states whyKind whyOrder x_21 wide textLong spot readColumns all past refused i_58 kept chosen across sum one two base quotients text numbers entries before) := hD
                      refine lv_isub hx hb dX8_forms_221 ?_
                      refine lv_istore (lv' := [(4, .int (((((8 : Int32) * r_60) + r_63) - ((8 : Int32) * r_66)) - r_69)), (0, .ref (ad 0)), (2, .int i_54), (3, .int i_57)]) hx hb dX8_forms_222 hl (by decide) rfl (fun ls hl => ?_)
                      refine lv_iload hx hb dX8_forms_224 (lv_at hl 0 rfl) ?_
                      refine lv_if_ge (tgt := 235) hx hb dX8_forms_226 (by decide) (fun c_72 => ?_) (fun c_72 => ?_)
                      · have hr7 := it_t c_72 hr7
                        refine lv_iinc (v := (i_57 + 1)) (lv' := [(3, .int (i_57 + 1)), (4, .int (((((8 : Int32) * r_60) + r_63) - ((8 : Int32) * r_66)) - r_69)), (0, .ref (ad 0)), (2, .int i_54)]) hx hb dX8_forms_235 hl (k := 3) rfl rfl (by decide) rfl (fun ls hl => ?_)
                        refine lv_goto (tgt := 185) hx hb dX8_forms_238 (by decide) ?_
                        exact ih7 (i_57 + 1) i_58 (ht7 _ (Option.some.inj hr7).symm) H locs hP hD hS ls (lv_sub hl [2, 3, 0] rfl)
                      · have hr7 := it_f c_72 hr7
                        refine lv_aload_n hx hb dX8_forms_229 rfl (lv_at hl 1 rfl) ?_
                        refine lv_iload_n hx hb dX8_forms_230 rfl (lv_at hl 2 rfl) ?_
                        refine lv_iload_n hx hb dX8_forms_231 rfl (lv_at hl 3 rfl) ?_
                        obtain ⟨v_75, hq_74, hk⟩ := bd1_s hr7
                        obtain ⟨u_73, rfl⟩ : ∃ y, y = v_75 := ⟨_, rfl⟩
                        have hr7 := hk _ rfl
                        refine callVA (gV (rest := []) ⟨hx, hb, hml, hown, hts⟩ hG hP hD 0 8 rfl rfl (mtX8_exchanges l D cI cB cR ad H.size states whyKind whyOrder x_21 wide textLong spot readColumns all past refused i_58 kept chosen across sum one two base quotients text numbers entries before i_54 i_57 u_73 hq_74) (cwV 2 hts gX8_forms_X8_exchanges rfl rfl rfl ⟨rfl, hd_X8_exchanges⟩ ⟨Nat.le_of_ble_eq_true rfl, Nat.le_of_ble_eq_true rfl⟩) rfl hl.1 rfl (Nat.le_of_ble_eq_true rfl) dX8_forms_232) hD hS hA (fun H locs hP hD hS => ?_)
                        have hP : va_P D cls9 (wM cI ad states whyKind whyOrder x_21 wide textLong spot readColumns all past refused u_73 kept chosen across sum one two base quotients text numbers entries before) H := hP
                        have hD : va_D A (wM cI ad states whyKind whyOrder x_21 wide textLong spot readColumns all past refused u_73 kept chosen across sum one two base quotients text numbers entries before) := hD
                        refine lv_iinc (v := (i_57 + 1)) (lv' := [(3, .int (i_57 + 1)), (4, .int (((((8 : Int32) * r_60) + r_63) - ((8 : Int32) * r_66)) - r_69)), (0, .ref (ad 0)), (2, .int i_54)]) hx hb dX8_forms_235 hl (k := 3) rfl rfl (by decide) rfl (fun ls hl => ?_)
                        refine lv_goto (tgt := 185) hx hb dX8_forms_238 (by decide) ?_
                        exact ih7 (i_57 + 1) u_73 (ht7 _ (Option.some.inj hr7).symm) H locs hP hD hS ls (lv_sub hl [2, 3, 0] rfl)
                obtain ⟨n7, hn7⟩ := Lp_s hw7
                exact hL7 n7 (i_54 + (1 : Int32)) i_55 hn7 H locs hP hD hS ls (lv_sub hl [1, 2, 0] rfl)
          obtain ⟨n6, hn6⟩ := Lp_s hw6
          exact hL6 n6 (0 : Int32) x_53 hn6 H locs hP hD hS ls (lv_sub hl [1, 0] rfl)
        have hL5 : ∀ (n : Nat) (i_47 : Int32) (i_48 : Nat → Int32), lrun (fun (z : Int32 × (Nat → Int32)) => fX8_forms_s147 wide all x_21 z.1 z.2) n (i_47, i_48) = some w5 → ∀ (H : Heap) (locs : List Loc), va_P D cls9 (wM cI ad states whyKind whyOrder x_21 wide textLong spot readColumns all past refused i_48 kept chosen across sum one two base quotients text numbers entries before) H → va_D A (wM cI ad states whyKind whyOrder x_21 wide textLong spot readColumns all past refused i_48 kept chosen across sum one two base quotients text numbers entries before) → va_S A s.heap H locs → ∀ (ls : Array Slot), lv_has ls 5 [(0, .ref (ad 0)), (2, .int i_47)] → W p l e rm_X8_forms s m args below meth c H locs 0 0 Q (F0 m 147 ls []) := by
          intro n
          induction n with
          | zero => intro i_47 i_48 h; cases h
          | succ n ih5 =>
            intro i_47 i_48 hr5 H locs hP hD hS ls hl
            obtain ⟨k, v5, hk, hr5, ht5, hv5⟩ := lrun_s hr5
            cases hk
            have hr5 : fX8_forms_s147 wide all x_21 i_47 i_48 = some v5 := hr5
            unfold fX8_forms_s147 at hr5
            refine lv_iload_n hx hb dX8_forms_147 rfl (lv_at hl 1 rfl) ?_
            refine lv_aload_n hx hb dX8_forms_148 rfl (lv_at hl 0 rfl) ?_
            refine va_get (D := D) (ci := 8) (v := .int x_21) (C := RX8) (T := TX8) (N := 24) hx hb hts iX8_forms_X8 hown hG.1 hP 0 rfl rfl 7 (by decide) (hts _ fX8_forms_1) (fun _ h9 => h9) rfl dX8_forms_149 ?_
            refine lv_icmp_ge (tgt := 171) hx hb dX8_forms_152 (by decide) (fun c_49 => ?_) (fun c_49 => ?_)
            · have hr5 := it_t c_49 hr5
              exact hX5 i_48 (hv5 _ (Option.some.inj hr5).symm).symm H locs hP hD hS ls (lv_sub hl [0] rfl)
            · have hr5 := it_f c_49 hr5
              refine lv_aload_n hx hb dX8_forms_155 rfl (lv_at hl 0 rfl) ?_
              refine lv_iload_n hx hb dX8_forms_156 rfl (lv_at hl 1 rfl) ?_
              refine lv_iconst (v := 0) hx hb dX8_forms_157 (by decide) ?_
              refine lv_aload_n hx hb dX8_forms_158 rfl (lv_at hl 0 rfl) ?_
              refine va_get (D := D) (ci := 8) (v := .int x_21) (C := RX8) (T := TX8) (N := 24) hx hb hts iX8_forms_X8 hown hG.1 hP 0 rfl rfl 7 (by decide) (hts _ fX8_forms_1) (fun _ h9 => h9) rfl dX8_forms_159 ?_
              obtain ⟨v_52, hq_51, hk⟩ := bd1_s hr5
              obtain ⟨u_50, rfl⟩ : ∃ y, y = v_52 := ⟨_, rfl⟩
              have hr5 := hk _ rfl
              refine callVA (gV (rest := []) ⟨hx, hb, hml, hown, hts⟩ hG hP hD 0 8 rfl rfl (mtX8_lowers l D cI cB cR ad H.size states whyKind whyOrder x_21 wide textLong spot readColumns all past refused i_48 kept chosen across sum one two base quotients text numbers entries before i_47 (0 : Int32) x_21 u_50 hq_51) (cwV 3 hts gX8_forms_X8_lowers rfl rfl rfl ⟨rfl, hd_X8_lowers⟩ ⟨Nat.le_of_ble_eq_true rfl, Nat.le_of_ble_eq_true rfl⟩) rfl hl.1 rfl (Nat.le_of_ble_eq_true rfl) dX8_forms_162) hD hS hA (fun H locs hP hD hS => ?_)
              have hP : va_P D cls9 (wM cI ad states whyKind whyOrder x_21 wide textLong spot readColumns all past refused u_50 kept chosen across sum one two base quotients text numbers entries before) H := hP
              have hD : va_D A (wM cI ad states whyKind whyOrder x_21 wide textLong spot readColumns all past refused u_50 kept chosen across sum one two base quotients text numbers entries before) := hD
              refine lv_iinc (v := (i_47 + 1)) (lv' := [(2, .int (i_47 + 1)), (0, .ref (ad 0))]) hx hb dX8_forms_165 hl (k := 1) rfl rfl (by decide) rfl (fun ls hl => ?_)
              refine lv_goto (tgt := 147) hx hb dX8_forms_168 (by decide) ?_
              exact ih5 (i_47 + 1) u_50 (ht5 _ (Option.some.inj hr5).symm) H locs hP hD hS ls (lv_sub hl [1, 0] rfl)
        obtain ⟨n5, hn5⟩ := Lp_s hw5
        exact hL5 n5 (0 : Int32) x_46 hn5 H locs hP hD hS ls (lv_sub hl [1, 0] rfl)
      have hL3 : ∀ (n : Nat) (i_23 : Int32) (i_24 : Nat → Int32), lrun (fun (z : Int32 × (Nat → Int32)) => fX8_forms_s60 wide all x_21 z.1 z.2) n (i_23, i_24) = some w3 → ∀ (H : Heap) (locs : List Loc), va_P D cls9 (wM cI ad states whyKind whyOrder x_21 wide textLong spot readColumns all past refused i_24 kept chosen across sum one two base quotients text numbers entries before) H → va_D A (wM cI ad states whyKind whyOrder x_21 wide textLong spot readColumns all past refused i_24 kept chosen across sum one two base quotients text numbers entries before) → va_S A s.heap H locs → ∀ (ls : Array Slot), lv_has ls 5 [(0, .ref (ad 0)), (2, .int i_23)] → W p l e rm_X8_forms s m args below meth c H locs 0 0 Q (F0 m 60 ls []) := by
        intro n
        induction n with
        | zero => intro i_23 i_24 h; cases h
        | succ n ih3 =>
          intro i_23 i_24 hr3 H locs hP hD hS ls hl
          obtain ⟨k, v3, hk, hr3, ht3, hv3⟩ := lrun_s hr3
          cases hk
          have hr3 : fX8_forms_s60 wide all x_21 i_23 i_24 = some v3 := hr3
          unfold fX8_forms_s60 at hr3
          refine lv_iload_n hx hb dX8_forms_60 rfl (lv_at hl 1 rfl) ?_
          refine lv_aload_n hx hb dX8_forms_61 rfl (lv_at hl 0 rfl) ?_
          refine va_get (D := D) (ci := 8) (v := .int x_21) (C := RX8) (T := TX8) (N := 24) hx hb hts iX8_forms_X8 hown hG.1 hP 0 rfl rfl 7 (by decide) (hts _ fX8_forms_1) (fun _ h9 => h9) rfl dX8_forms_62 ?_
          refine lv_icmp_ge (tgt := 145) hx hb dX8_forms_65 (by decide) (fun c_25 => ?_) (fun c_25 => ?_)
          · have hr3 := it_t c_25 hr3
            exact hX3 i_24 (hv3 _ (Option.some.inj hr3).symm).symm H locs hP hD hS ls (lv_sub hl [0] rfl)
          · have hr3 := it_f c_25 hr3
            refine lv_aload_n hx hb dX8_forms_68 rfl (lv_at hl 0 rfl) ?_
            refine lv_aload_n hx hb dX8_forms_69 rfl (lv_at hl 0 rfl) ?_
            refine va_get (D := D) (ci := 8) (v := .ref (ad 4)) (C := RX8) (T := TX8) (N := 24) hx hb hts iX8_forms_X8 hown hG.1 hP 0 rfl rfl 6 (by decide) (hts _ fX8_forms_2) (fun _ h9 => h9) rfl dX8_forms_70 ?_
            refine lv_iload_n hx hb dX8_forms_73 rfl (lv_at hl 1 rfl) ?_
            refine lv_aload_n hx hb dX8_forms_74 rfl (lv_at hl 0 rfl) ?_
            refine lv_iload_n hx hb dX8_forms_75 rfl (lv_at hl 1 rfl) ?_
            obtain ⟨v_28, hq_27, hk⟩ := bd1_s hr3
            obtain ⟨r_26, rfl⟩ : ∃ y, y = v_28 := ⟨_, rfl⟩
            have hr3 := hk _ rfl
            refine callIA (gV (rest := [.int i_23, .ref (ad 4), .ref (ad 0)]) ⟨hx, hb, hml, hown, hts⟩ hG hP hD 0 8 rfl rfl (mtX8_workPivot l D cI cB cR ad H.size states whyKind whyOrder x_21 wide textLong spot readColumns all past refused i_24 kept chosen across sum one two base quotients text numbers entries before i_23 r_26 hq_27) (cwV 1 hts gX8_forms_X8_workPivot rfl rfl rfl ⟨rfl, hd_X8_workPivot⟩ ⟨Nat.le_of_ble_eq_true rfl, Nat.le_of_ble_eq_true rfl⟩) rfl hl.1 rfl (Nat.le_of_ble_eq_true rfl) dX8_forms_76) hD hS hA (fun H locs hP hD hS => ?_)
            have hP : va_P D cls9 (wM cI ad states whyKind whyOrder x_21 wide textLong spot readColumns all past refused i_24 kept chosen across sum one two base quotients text numbers entries before) H := hP
            have hD : va_D A (wM cI ad states whyKind whyOrder x_21 wide textLong spot readColumns all past refused i_24 kept chosen across sum one two base quotients text numbers entries before) := hD
            refine lv_aload_n hx hb dX8_forms_79 rfl (lv_at hl 0 rfl) ?_
            refine lv_iload_n hx hb dX8_forms_80 rfl (lv_at hl 1 rfl) ?_
            obtain ⟨v_31, hq_30, hk⟩ := bd1_s hr3
            obtain ⟨r_29, rfl⟩ : ∃ y, y = v_31 := ⟨_, rfl⟩
            have hr3 := hk _ rfl
            refine callIA (gV (rest := [.int r_26, .int i_23, .ref (ad 4), .ref (ad 0)]) ⟨hx, hb, hml, hown, hts⟩ hG hP hD 0 8 rfl rfl (mtX8_workDegree l D cI cB cR ad H.size states whyKind whyOrder x_21 wide textLong spot readColumns all past refused i_24 kept chosen across sum one two base quotients text numbers entries before i_23 r_29 hq_30) (cwV 1 hts gX8_forms_X8_workDegree rfl rfl rfl ⟨rfl, hd_X8_workDegree⟩ ⟨Nat.le_of_ble_eq_true rfl, Nat.le_of_ble_eq_true rfl⟩) rfl hl.1 rfl (Nat.le_of_ble_eq_true rfl) dX8_forms_81) hD hS hA (fun H locs hP hD hS => ?_)
            have hP : va_P D cls9 (wM cI ad states whyKind whyOrder x_21 wide textLong spot readColumns all past refused i_24 kept chosen across sum one two base quotients text numbers entries before) H := hP
            have hD : va_D A (wM cI ad states whyKind whyOrder x_21 wide textLong spot readColumns all past refused i_24 kept chosen across sum one two base quotients text numbers entries before) := hD
            refine callI0 (gS (rest := [.ref (ad 4), .ref (ad 0)]) ⟨hx, hb, hml, hown, hts⟩ hG vaP0 (vaD0 (A := A)) (mtX8_cell l D cI cB cR H.size i_23 r_26 r_29 _ rfl) (va_cwS 3 hts gX8_forms_X8_cell rfl rfl rfl hd_X8_cell ⟨Nat.le_of_ble_eq_true rfl, Nat.le_of_ble_eq_true rfl⟩) rfl hl.1 rfl (Nat.le_of_ble_eq_true rfl) dX8_forms_84) hP hS hA (fun H locs hP hS => ?_)
            obtain ⟨h_32, hr3⟩ := gd_s hr3
            refine va_iald hx hb hG.1 hP 4 0 rfl rfl h_32 dX8_forms_87 ?_
            obtain ⟨v_35, hq_34, hk⟩ := bd1_s hr3
            obtain ⟨r_33, rfl⟩ : ∃ y, y = v_35 := ⟨_, rfl⟩
            have hr3 := hk _ rfl
            refine callIA (gV (rest := []) ⟨hx, hb, hml, hown, hts⟩ hG hP hD 0 8 rfl rfl (mtX8_inverse l D cI cB cR ad H.size states whyKind whyOrder x_21 wide textLong spot readColumns all past refused i_24 kept chosen across sum one two base quotients text numbers entries before (i_24 (fX8_cell i_23 r_26 r_29).toNatClampNeg) r_33 hq_34) (cwV 1 hts gX8_forms_X8_inverse rfl rfl rfl ⟨rfl, hd_X8_inverse⟩ ⟨Nat.le_of_ble_eq_true rfl, Nat.le_of_ble_eq_true rfl⟩) rfl hl.1 rfl (Nat.le_of_ble_eq_true rfl) dX8_forms_88) hD hS hA (fun H locs hP hD hS => ?_)
            have hP : va_P D cls9 (wM cI ad states whyKind whyOrder x_21 wide textLong spot readColumns all past refused i_24 kept chosen across sum one two base quotients text numbers entries before) H := hP
            have hD : va_D A (wM cI ad states whyKind whyOrder x_21 wide textLong spot readColumns all past refused i_24 kept chosen across sum one two base quotients text numbers entries before) := hD
            refine lv_istore_n (lv' := [(3, .int r_33), (0, .ref (ad 0)), (2, .int i_23)]) hx hb dX8_forms_91 rfl hl (by decide) rfl (fun ls hl => ?_)
            refine lv_iconst (v := 0) hx hb dX8_forms_92 (by decide) ?_
            refine lv_istore (lv' := [(4, .int (0 : Int32)), (3, .int r_33), (0, .ref (ad 0)), (2, .int i_23)]) hx hb dX8_forms_93 hl (by decide) rfl (fun ls hl => ?_)
            obtain ⟨w4, hw4, hk4⟩ := bd1_s hr3
            have hX4 : ∀ (x_45 : Nat → Int32), w4 = x_45 → ∀ (H : Heap) (locs : List Loc), va_P D cls9 (wM cI ad states whyKind whyOrder x_21 wide textLong spot readColumns all past refused x_45 kept chosen across sum one two base quotients text numbers entries before) H → va_D A (wM cI ad states whyKind whyOrder x_21 wide textLong spot readColumns all past refused x_45 kept chosen across sum one two base quotients text numbers entries before) → va_S A s.heap H locs → ∀ (ls : Array Slot), lv_has ls 5 [(0, .ref (ad 0)), (2, .int i_23)] → W p l e rm_X8_forms s m args below meth c H locs 0 0 Q (F0 m 139 ls []) := by
              intro x_45 hq H locs hP hD hS ls hl
              have hr3 := hk4 _ hq
              refine lv_iinc (v := (i_23 + 1)) (lv' := [(2, .int (i_23 + 1)), (0, .ref (ad 0))]) hx hb dX8_forms_139 hl (k := 1) rfl rfl (by decide) rfl (fun ls hl => ?_)
              refine lv_goto (tgt := 60) hx hb dX8_forms_142 (by decide) ?_
              exact ih3 (i_23 + 1) x_45 (ht3 _ (Option.some.inj hr3).symm) H locs hP hD hS ls (lv_sub hl [1, 0] rfl)
            have hL4 : ∀ (n : Nat) (i_36 : Int32) (i_37 : Nat → Int32), lrun (fun (z : Int32 × (Nat → Int32)) => fX8_forms_s95 all i_23 r_33 z.1 z.2) n (i_36, i_37) = some w4 → ∀ (H : Heap) (locs : List Loc), va_P D cls9 (wM cI ad states whyKind whyOrder x_21 wide textLong spot readColumns all past refused i_37 kept chosen across sum one two base quotients text numbers entries before) H → va_D A (wM cI ad states whyKind whyOrder x_21 wide textLong spot readColumns all past refused i_37 kept chosen across sum one two base quotients text numbers entries before) → va_S A s.heap H locs → ∀ (ls : Array Slot), lv_has ls 5 [(0, .ref (ad 0)), (2, .int i_23), (3, .int r_33), (4, .int i_36)] → W p l e rm_X8_forms s m args below meth c H locs 0 0 Q (F0 m 95 ls []) := by
              intro n
              induction n with
              | zero => intro i_36 i_37 h; cases h
              | succ n ih4 =>
                intro i_36 i_37 hr4 H locs hP hD hS ls hl
                obtain ⟨k, v4, hk, hr4, ht4, hv4⟩ := lrun_s hr4
                cases hk
                have hr4 : fX8_forms_s95 all i_23 r_33 i_36 i_37 = some v4 := hr4
                unfold fX8_forms_s95 at hr4
                refine lv_iload hx hb dX8_forms_95 (lv_at hl 3 rfl) ?_
                refine lv_bipush (v := 24) hx hb dX8_forms_97 (by decide) ?_
                refine lv_icmp_ge (tgt := 139) hx hb dX8_forms_99 (by decide) (fun c_38 => ?_) (fun c_38 => ?_)
                · have hr4 := it_t c_38 hr4
                  exact hX4 i_37 (hv4 _ (Option.some.inj hr4).symm).symm H locs hP hD hS ls (lv_sub hl [0, 1] rfl)
                · have hr4 := it_f c_38 hr4
                  refine lv_aload_n hx hb dX8_forms_102 rfl (lv_at hl 0 rfl) ?_
                  refine va_get (D := D) (ci := 8) (v := .ref (ad 4)) (C := RX8) (T := TX8) (N := 24) hx hb hts iX8_forms_X8 hown hG.1 hP 0 rfl rfl 6 (by decide) (hts _ fX8_forms_2) (fun _ h9 => h9) rfl dX8_forms_103 ?_
                  refine lv_bipush (v := 24) hx hb dX8_forms_106 (by decide) ?_
                  refine lv_iload_n hx hb dX8_forms_108 rfl (lv_at hl 1 rfl) ?_
                  refine lv_imul hx hb dX8_forms_109 ?_
                  refine lv_iload hx hb dX8_forms_110 (lv_at hl 3 rfl) ?_
                  refine lv_iadd hx hb dX8_forms_112 ?_
                  refine lv_aload_n hx hb dX8_forms_113 rfl (lv_at hl 0 rfl) ?_
                  refine va_get (D := D) (ci := 8) (v := .ref (ad 4)) (C := RX8) (T := TX8) (N := 24) hx hb hts iX8_forms_X8 hown hG.1 hP 0 rfl rfl 6 (by decide) (hts _ fX8_forms_2) (fun _ h9 => h9) rfl dX8_forms_114 ?_
                  refine lv_bipush (v := 24) hx hb dX8_forms_117 (by decide) ?_
                  refine lv_iload_n hx hb dX8_forms_119 rfl (lv_at hl 1 rfl) ?_
                  refine lv_imul hx hb dX8_forms_120 ?_
                  refine lv_iload hx hb dX8_forms_121 (lv_at hl 3 rfl) ?_
                  refine lv_iadd hx hb dX8_forms_123 ?_
                  obtain ⟨h_39, hr4⟩ := gd_s hr4
                  refine va_iald hx hb hG.1 hP 4 0 rfl rfl h_39 dX8_forms_124 ?_
                  refine lv_iload_n hx hb dX8_forms_125 rfl (lv_at hl 2 rfl) ?_
                  refine lv_imul hx hb dX8_forms_126 ?_
                  refine lv_aload_n hx hb dX8_forms_127 rfl (lv_at hl 0 rfl) ?_
                  obtain ⟨v_42, hq_41, hk⟩ := bd1_s hr4
                  obtain ⟨r_40, rfl⟩ : ∃ y, y = v_42 := ⟨_, rfl⟩
                  have hr4 := hk _ rfl
                  refine callIA (gV (rest := [.int ((i_37 (((24 : Int32) * i_23) + i_36).toNatClampNeg) * r_33), .int (((24 : Int32) * i_23) + i_36), .ref (ad 4)]) ⟨hx, hb, hml, hown, hts⟩ hG hP hD 0 8 rfl rfl (mtX8_modulus l D cI cB cR ad H.size states whyKind whyOrder x_21 wide textLong spot readColumns all past refused i_37 kept chosen across sum one two base quotients text numbers entries before r_40 hq_41) (cwV 0 hts gX8_forms_X8_modulus rfl rfl rfl ⟨rfl, hd_X8_modulus⟩ ⟨Nat.le_of_ble_eq_true rfl, Nat.le_of_ble_eq_true rfl⟩) rfl hl.1 rfl (Nat.le_of_ble_eq_true rfl) dX8_forms_128) hD hS hA (fun H locs hP hD hS => ?_)
                  have hP : va_P D cls9 (wM cI ad states whyKind whyOrder x_21 wide textLong spot readColumns all past refused i_37 kept chosen across sum one two base quotients text numbers entries before) H := hP
                  have hD : va_D A (wM cI ad states whyKind whyOrder x_21 wide textLong spot readColumns all past refused i_37 kept chosen across sum one two base quotients text numbers entries before) := hD
                  obtain ⟨h_43, hr4⟩ := gd_s hr4
                  refine lv_irem hx hb dX8_forms_131 h_43 ?_
                  refine lv_asi (y := (rem32 ((i_37 (((24 : Int32) * i_23) + i_36).toNatClampNeg) * r_33) r_40)) rfl ?_
                  obtain ⟨h_44, hr4⟩ := gd_s hr4
                  refine va_iast hx hb hG.1 hP hD hS 4 0 rfl rfl h_44 dX8_forms_132 (fun H locs hP hD hS => ?_)
                  have hP : va_P D cls9 (wM cI ad states whyKind whyOrder x_21 wide textLong spot readColumns all past refused (upd i_37 (((24 : Int32) * i_23) + i_36).toNatClampNeg (rem32 ((i_37 (((24 : Int32) * i_23) + i_36).toNatClampNeg) * r_33) r_40)) kept chosen across sum one two base quotients text numbers entries before) H := hP
                  have hD : va_D A (wM cI ad states whyKind whyOrder x_21 wide textLong spot readColumns all past refused (upd i_37 (((24 : Int32) * i_23) + i_36).toNatClampNeg (rem32 ((i_37 (((24 : Int32) * i_23) + i_36).toNatClampNeg) * r_33) r_40)) kept chosen across sum one two base quotients text numbers entries before) := hD
                  refine lv_iinc (v := (i_36 + 1)) (lv' := [(4, .int (i_36 + 1)), (0, .ref (ad 0)), (2, .int i_23), (3, .int r_33)]) hx hb dX8_forms_133 hl (k := 3) rfl rfl (by decide) rfl (fun ls hl => ?_)
                  refine lv_goto (tgt := 95) hx hb dX8_forms_136 (by decide) ?_
                  exact ih4 (i_36 + 1) (upd i_37 (((24 : Int32) * i_23) + i_36).toNatClampNeg (rem32 ((i_37 (((24 : Int32) * i_23) + i_36).toNatClampNeg) * r_33) r_40)) (ht4 _ (Option.some.inj hr4).symm) H locs hP hD hS ls (lv_sub hl [1, 2, 3, 0] rfl)
            obtain ⟨n4, hn4⟩ := Lp_s hw4
            exact hL4 n4 (0 : Int32) i_24 hn4 H locs hP hD hS ls (lv_sub hl [2, 3, 1, 0] rfl)
      obtain ⟨n3, hn3⟩ := Lp_s hw3
      exact hL3 n3 (0 : Int32) x_22 hn3 H locs hP hD hS ls (lv_sub hl [1, 0] rfl)
    have hL2 : ∀ (n : Nat) (i_10 : Int32) (i_11 : Int32) (i_12 : Nat → Int32), lrun (fun (z : Int32 × Int32 × (Nat → Int32)) => fX8_forms_s21 wide z.1 z.2.1 z.2.2) n (i_10, i_11, i_12) = some w2 → ∀ (H : Heap) (locs : List Loc), va_P D cls9 (wM cI ad states whyKind whyOrder i_11 wide textLong spot readColumns all past refused i_12 kept chosen across sum one two base quotients text numbers entries before) H → va_D A (wM cI ad states whyKind whyOrder i_11 wide textLong spot readColumns all past refused i_12 kept chosen across sum one two base quotients text numbers entries before) → va_S A s.heap H locs → ∀ (ls : Array Slot), lv_has ls 5 [(0, .ref (ad 0)), (2, .int i_10)] → W p l e rm_X8_forms s m args below meth c H locs 0 0 Q (F0 m 21 ls []) := by
      intro n
      induction n with
      | zero => intro i_10 i_11 i_12 h; cases h
      | succ n ih2 =>
        intro i_10 i_11 i_12 hr2 H locs hP hD hS ls hl
        obtain ⟨k, v2, hk, hr2, ht2, hv2⟩ := lrun_s hr2
        cases hk
        have hr2 : fX8_forms_s21 wide i_10 i_11 i_12 = some v2 := hr2
        unfold fX8_forms_s21 at hr2
        refine lv_iload_n hx hb dX8_forms_21 rfl (lv_at hl 1 rfl) ?_
        refine lv_if_lt (tgt := 58) hx hb dX8_forms_22 (by decide) (fun c_13 => ?_) (fun c_13 => ?_)
        · have hr2 := it_t c_13 hr2
          exact hX2 i_11 i_12 (hv2 _ (Option.some.inj hr2).symm).symm H locs hP hD hS ls (lv_sub hl [0] rfl)
        · have hr2 := it_f c_13 hr2
          refine lv_aload_n hx hb dX8_forms_25 rfl (lv_at hl 0 rfl) ?_
          refine lv_iload_n hx hb dX8_forms_26 rfl (lv_at hl 1 rfl) ?_
          obtain ⟨v_16, hq_15, hk⟩ := bd1_s hr2
          obtain ⟨r_14, rfl⟩ : ∃ y, y = v_16 := ⟨_, rfl⟩
          have hr2 := hk _ rfl
          refine callIA (gV (rest := []) ⟨hx, hb, hml, hown, hts⟩ hG hP hD 0 8 rfl rfl (mtX8_workDegree l D cI cB cR ad H.size states whyKind whyOrder i_11 wide textLong spot readColumns all past refused i_12 kept chosen across sum one two base quotients text numbers entries before i_10 r_14 hq_15) (cwV 1 hts gX8_forms_X8_workDegree rfl rfl rfl ⟨rfl, hd_X8_workDegree⟩ ⟨Nat.le_of_ble_eq_true rfl, Nat.le_of_ble_eq_true rfl⟩) rfl hl.1 rfl (Nat.le_of_ble_eq_true rfl) dX8_forms_27) hD hS hA (fun H locs hP hD hS => ?_)
          have hP : va_P D cls9 (wM cI ad states whyKind whyOrder i_11 wide textLong spot readColumns all past refused i_12 kept chosen across sum one two base quotients text numbers entries before) H := hP
          have hD : va_D A (wM cI ad states whyKind whyOrder i_11 wide textLong spot readColumns all past refused i_12 kept chosen across sum one two base quotients text numbers entries before) := hD
          refine lv_if_ge (tgt := 52) hx hb dX8_forms_30 (by decide) (fun c_17 => ?_) (fun c_17 => ?_)
          · have hr2 := it_t c_17 hr2
            refine lv_iinc (v := (i_10 + (-1))) (lv' := [(2, .int (i_10 + (-1))), (0, .ref (ad 0))]) hx hb dX8_forms_52 hl (k := 1) rfl rfl (by decide) rfl (fun ls hl => ?_)
            refine lv_goto (tgt := 21) hx hb dX8_forms_55 (by decide) ?_
            exact ih2 (i_10 + (-1)) i_11 i_12 (ht2 _ (Option.some.inj hr2).symm) H locs hP hD hS ls (lv_sub hl [1, 0] rfl)
          · have hr2 := it_f c_17 hr2
            refine lv_aload_n hx hb dX8_forms_33 rfl (lv_at hl 0 rfl) ?_
            refine lv_dup hx hb dX8_forms_34 rfl ?_
            refine va_get (D := D) (ci := 8) (v := .int i_11) (C := RX8) (T := TX8) (N := 24) hx hb hts iX8_forms_X8 hown hG.1 hP 0 rfl rfl 7 (by decide) (hts _ fX8_forms_1) (fun _ h9 => h9) rfl dX8_forms_35 ?_
            refine lv_iconst (v := 1) hx hb dX8_forms_38 (by decide) ?_
            refine lv_isub hx hb dX8_forms_39 ?_
            refine va_put (D := D) (ci := 8) (v := .int (i_11 - (1 : Int32))) (ty := .int) (C := RX8) (T := TX8) (N := 24) hx hb hts iX8_forms_X8 tyX8 tyX8_ok nmX8 hown hG.1 hP hD hS 0 rfl rfl 7 (by decide) (hts _ fX8_forms_1) (fun _ h9 => h9) rfl (by decide +kernel) rfl rfl (Nat.le_of_ble_eq_true rfl) dX8_forms_40 (fun H locs hP hD hS => ?_)
            have hP : va_P D cls9 (wM cI ad states whyKind whyOrder (i_11 - (1 : Int32)) wide textLong spot readColumns all past refused i_12 kept chosen across sum one two base quotients text numbers entries before) H := hP
            have hD : va_D A (wM cI ad states whyKind whyOrder (i_11 - (1 : Int32)) wide textLong spot readColumns all past refused i_12 kept chosen across sum one two base quotients text numbers entries before) := hD
            refine lv_aload_n hx hb dX8_forms_43 rfl (lv_at hl 0 rfl) ?_
            refine lv_iload_n hx hb dX8_forms_44 rfl (lv_at hl 1 rfl) ?_
            refine lv_aload_n hx hb dX8_forms_45 rfl (lv_at hl 0 rfl) ?_
            refine va_get (D := D) (ci := 8) (v := .int (i_11 - (1 : Int32))) (C := RX8) (T := TX8) (N := 24) hx hb hts iX8_forms_X8 hown hG.1 hP 0 rfl rfl 7 (by decide) (hts _ fX8_forms_1) (fun _ h9 => h9) rfl dX8_forms_46 ?_
            obtain ⟨v_20, hq_19, hk⟩ := bd1_s hr2
            obtain ⟨u_18, rfl⟩ : ∃ y, y = v_20 := ⟨_, rfl⟩
            have hr2 := hk _ rfl
            refine callVA (gV (rest := []) ⟨hx, hb, hml, hown, hts⟩ hG hP hD 0 8 rfl rfl (mtX8_exchanges l D cI cB cR ad H.size states whyKind whyOrder (i_11 - (1 : Int32)) wide textLong spot readColumns all past refused i_12 kept chosen across sum one two base quotients text numbers entries before i_10 (i_11 - (1 : Int32)) u_18 hq_19) (cwV 2 hts gX8_forms_X8_exchanges rfl rfl rfl ⟨rfl, hd_X8_exchanges⟩ ⟨Nat.le_of_ble_eq_true rfl, Nat.le_of_ble_eq_true rfl⟩) rfl hl.1 rfl (Nat.le_of_ble_eq_true rfl) dX8_forms_49) hD hS hA (fun H locs hP hD hS => ?_)
            have hP : va_P D cls9 (wM cI ad states whyKind whyOrder (i_11 - (1 : Int32)) wide textLong spot readColumns all past refused u_18 kept chosen across sum one two base quotients text numbers entries before) H := hP
            have hD : va_D A (wM cI ad states whyKind whyOrder (i_11 - (1 : Int32)) wide textLong spot readColumns all past refused u_18 kept chosen across sum one two base quotients text numbers entries before) := hD
            refine lv_iinc (v := (i_10 + (-1))) (lv' := [(2, .int (i_10 + (-1))), (0, .ref (ad 0))]) hx hb dX8_forms_52 hl (k := 1) rfl rfl (by decide) rfl (fun ls hl => ?_)
            refine lv_goto (tgt := 21) hx hb dX8_forms_55 (by decide) ?_
            exact ih2 (i_10 + (-1)) (i_11 - (1 : Int32)) u_18 (ht2 _ (Option.some.inj hr2).symm) H locs hP hD hS ls (lv_sub hl [1, 0] rfl)
    obtain ⟨n2, hn2⟩ := Lp_s hw2
    exact hL2 n2 (many - (1 : Int32)) many x_9 hn2 H locs hP hD hS ls (lv_sub hl [1, 0] rfl)
  have hL1 : ∀ (n : Nat) (i_1 : Int32) (i_2 : Nat → Int32), lrun (fun (z : Int32 × (Nat → Int32)) => fX8_forms_s2 many wide all z.1 z.2) n (i_1, i_2) = some w1 → ∀ (H : Heap) (locs : List Loc), va_P D cls9 (wM cI ad states whyKind whyOrder many wide textLong spot readColumns all past refused i_2 kept chosen across sum one two base quotients text numbers entries before) H → va_D A (wM cI ad states whyKind whyOrder many wide textLong spot readColumns all past refused i_2 kept chosen across sum one two base quotients text numbers entries before) → va_S A s.heap H locs → ∀ (ls : Array Slot), lv_has ls 5 [(0, .ref (ad 0)), (1, .int i_1)] → W p l e rm_X8_forms s m args below meth c H locs 0 0 Q (F0 m 2 ls []) := by
    intro n
    induction n with
    | zero => intro i_1 i_2 h; cases h
    | succ n ih1 =>
      intro i_1 i_2 hr1 H locs hP hD hS ls hl
      obtain ⟨k, v1, hk, hr1, ht1, hv1⟩ := lrun_s hr1
      cases hk
      have hr1 : fX8_forms_s2 many wide all i_1 i_2 = some v1 := hr1
      unfold fX8_forms_s2 at hr1
      refine lv_iload_n hx hb dX8_forms_2 rfl (lv_at hl 1 rfl) ?_
      refine lv_if_eq (tgt := 14) hx hb dX8_forms_3 (by decide) (fun c_3 => ?_) (fun c_3 => ?_)
      · have hr1 := it_t c_3 hr1
        exact hX1 i_2 (hv1 _ (Option.some.inj hr1).symm).symm H locs hP hD hS ls (lv_sub hl [0] rfl)
      · have hr1 := it_f c_3 hr1
        refine lv_aload_n hx hb dX8_forms_6 rfl (lv_at hl 0 rfl) ?_
        obtain ⟨v_7, hq_6, hk⟩ := bd2_s hr1
        obtain ⟨r_4, u_5⟩ := v_7
        have hr1 := hk _ _ rfl
        refine callZA (gV (rest := []) ⟨hx, hb, hml, hown, hts⟩ hG hP hD 0 8 rfl rfl (mtX8_meets l D cI cB cR ad H.size states whyKind whyOrder many wide textLong spot readColumns all past refused i_2 kept chosen across sum one two base quotients text numbers entries before (r_4, u_5) hq_6) (cwV 0 hts gX8_forms_X8_meets rfl rfl rfl ⟨rfl, hd_X8_meets⟩ ⟨Nat.le_of_ble_eq_true rfl, Nat.le_of_ble_eq_true rfl⟩) rfl hl.1 rfl (Nat.le_of_ble_eq_true rfl) dX8_forms_7) hD hS hA (fun H locs z_8 hP hD hS => ?_)
        have hP : va_P D cls9 (wM cI ad states whyKind whyOrder many wide textLong spot readColumns all past refused u_5 kept chosen across sum one two base quotients text numbers entries before) H := hP
        have hD : va_D A (wM cI ad states whyKind whyOrder many wide textLong spot readColumns all past refused u_5 kept chosen across sum one two base quotients text numbers entries before) := hD
        refine lv_istore_n (lv' := [(1, .int r_4), (0, .ref (ad 0))]) hx hb dX8_forms_10 rfl hl (by decide) rfl (fun ls hl => ?_)
        refine lv_goto (tgt := 2) hx hb dX8_forms_11 (by decide) ?_
        exact ih1 r_4 u_5 (ht1 _ (Option.some.inj hr1).symm) H locs hP hD hS ls (lv_sub hl [1, 0] rfl)
  obtain ⟨n1, hn1⟩ := Lp_s hw1
  exact hL1 n1 (1 : Int32) work hn1 H locs hP hD hS ls (lv_sub hl [1, 0] rfl)
abbrev rm_X8_lays : Room := { frames := 1, cells := 0, slots := 0, locals := 22 }
theorem iX8_lays_X8 : ∀ w ∈ wsX80, w ∈ wsX8_lays := fun _ h => (List.mem_cons_of_mem _ (List.mem_append_right _ h))
theorem fX8_lays_1 : Cond.fieldLink RX8 23 "PopovRowsModel" "work" "[I" ∈ wsX8_lays := (List.mem_cons_of_mem _ (List.mem_append_left _ (List.mem_of_getElem? (i := 0) rfl)))
theorem fX8_lays_2 : Cond.fieldLink RX8 7 "PopovRowsModel" "all" "[I" ∈ wsX8_lays := (List.mem_cons_of_mem _ (List.mem_append_left _ (List.mem_of_getElem? (i := 1) rfl)))
set_option maxHeartbeats 4000000 in
set_option maxRecDepth 100000 in
theorem mtX8_lays (l : Launch) (D : va_G) (cI cB cR : ClassId) (ad : Nat → Nat) (sz : Nat) (states : Int32) (whyKind : Int32) (whyOrder : Int32) (many : Int32) (wide : Int32) (textLong : Int32) (spot : Int32) (readColumns : Int32) (all : Nat → Int32) (past : Nat → Int32) (refused : Nat → Int32) (work : Nat → Int32) (kept : Nat → Int32) (chosen : Nat → Int32) (across : Nat → Int32) (sum : Nat → Int32) (one : Nat → Int32) (two : Nat → Int32) (base : Nat → Int32) (quotients : Nat → Int32) (text : Nat → Int32) (numbers : Nat → Int32) (entries : Nat → Int32) (before : Nat → Int32) (a0 : Int32) (a1 : Int32) (res : Nat → Int32) (hf : fX8_lays all work a0 a1 = some res) : Met l yX8_lays wsX8_lays rm_X8_lays (qP D cI cB cR [.ref (ad 0), .int a0, .int a1] (wM cI ad states whyKind whyOrder many wide textLong spot readColumns all past refused work kept chosen across sum one two base quotients text numbers entries before) sz) (qV D (wM cI ad states whyKind whyOrder many wide textLong spot readColumns all past refused work kept chosen across sum one two base quotients text numbers entries before) (wM cI ad states whyKind whyOrder many wide textLong spot readColumns all past refused res kept chosen across sum one two base quotients text numbers entries before) sz) 0 0 (va_A (wM cI ad states whyKind whyOrder many wide textLong spot readColumns all past refused work kept chosen across sum one two base quotients text numbers entries before) sz) := by
  refine entV (plainFor_of_name (by decide)) rfl (Nat.le_of_ble_eq_true rfl) ?_
  intro p e s m args below meth c Q A ls S hG hP hD hA hl hE
  obtain ⟨hx, hb, hml, hown, hts⟩ := S
  have hown : s.vm.findClass RX8 = some m.cls := hown
  have hS : va_S A s.heap s.heap [] := va_S.rf
  have hl : lv_has ls 5 [(0, .ref (ad 0)), (1, .int a0), (2, .int a1)] := hl
  have hq := hf
  unfold fX8_lays at hq
  obtain ⟨H, hH⟩ : ∃ H, H = s.heap := ⟨_, rfl⟩
  obtain ⟨locs, hlo⟩ : ∃ L : List Loc, L = [] := ⟨_, rfl⟩
  have hP : va_P D cls9 (wM cI ad states whyKind whyOrder many wide textLong spot readColumns all past refused work kept chosen across sum one two base quotients text numbers entries before) H := hH ▸ hP
  have hS : va_S A s.heap H locs := by rw [hH, hlo]; exact hS
  suffices hg : W p l e rm_X8_lays s m args below meth c H locs 0 0 Q (F0 m 0 ls []) by rw [hH, hlo] at hg; exact hg
  refine lv_iconst (v := 0) hx hb dX8_lays_0 (by decide) ?_
  refine lv_istore_n (lv' := [(3, .int (0 : Int32)), (0, .ref (ad 0)), (1, .int a0), (2, .int a1)]) hx hb dX8_lays_1 rfl hl (by decide) rfl (fun ls hl => ?_)
  obtain ⟨w1, hw1, hk1⟩ := bd1_s hq
  have hX1 : ∀ (x_17 : Nat → Int32), w1 = x_17 → ∀ (H : Heap) (locs : List Loc), va_P D cls9 (wM cI ad states whyKind whyOrder many wide textLong spot readColumns all past refused x_17 kept chosen across sum one two base quotients text numbers entries before) H → va_D A (wM cI ad states whyKind whyOrder many wide textLong spot readColumns all past refused x_17 kept chosen across sum one two base quotients text numbers entries before) → va_S A s.heap H locs → ∀ (ls : Array Slot), lv_has ls 5 [] → W p l e rm_X8_lays s m args below meth c H locs 0 0 Q (F0 m 72 ls []) := by
    intro x_17 hq H locs hP hD hS ls hl
    have hq := hk1 _ hq
    have he := Option.some.inj hq
    subst he
    exact hE H locs _ _ dX8_lays_72 hP hD hS
  have hL1 : ∀ (n : Nat) (i_1 : Int32) (i_2 : Nat → Int32), lrun (fun (z : Int32 × (Nat → Int32)) => fX8_lays_s2 all a0 a1 z.1 z.2) n (i_1, i_2) = some w1 → ∀ (H : Heap) (locs : List Loc), va_P D cls9 (wM cI ad states whyKind whyOrder many wide textLong spot readColumns all past refused i_2 kept chosen across sum one two base quotients text numbers entries before) H → va_D A (wM cI ad states whyKind whyOrder many wide textLong spot readColumns all past refused i_2 kept chosen across sum one two base quotients text numbers entries before) → va_S A s.heap H locs → ∀ (ls : Array Slot), lv_has ls 5 [(0, .ref (ad 0)), (1, .int a0), (2, .int a1), (3, .int i_1)] → W p l e rm_X8_lays s m args below meth c H locs 0 0 Q (F0 m 2 ls []) := by
    intro n
    induction n with
    | zero => intro i_1 i_2 h; cases h
    | succ n ih1 =>
      intro i_1 i_2 hr1 H locs hP hD hS ls hl
      obtain ⟨k, v1, hk, hr1, ht1, hv1⟩ := lrun_s hr1
      cases hk
      have hr1 : fX8_lays_s2 all a0 a1 i_1 i_2 = some v1 := hr1
      unfold fX8_lays_s2 at hr1
      refine lv_iload_n hx hb dX8_lays_2 rfl (lv_at hl 3 rfl) ?_
      refine lv_iconst (v := 3) hx hb dX8_lays_3 (by decide) ?_
      refine lv_icmp_ge (tgt := 72) hx hb dX8_lays_4 (by decide) (fun c_3 => ?_) (fun c_3 => ?_)
      · have hr1 := it_t c_3 hr1
        exact hX1 i_2 (hv1 _ (Option.some.inj hr1).symm).symm H locs hP hD hS ls (lv_sub hl [] rfl)
      · have hr1 := it_f c_3 hr1
        refine lv_iconst (v := 0) hx hb dX8_lays_7 (by decide) ?_
        refine lv_istore (lv' := [(4, .int (0 : Int32)), (0, .ref (ad 0)), (1, .int a0), (2, .int a1), (3, .int i_1)]) hx hb dX8_lays_8 hl (by decide) rfl (fun ls hl => ?_)
        obtain ⟨w2, hw2, hk2⟩ := bd1_s hr1
        have hX2 : ∀ (x_16 : Nat → Int32), w2 = x_16 → ∀ (H : Heap) (locs : List Loc), va_P D cls9 (wM cI ad states whyKind whyOrder many wide textLong spot readColumns all past refused x_16 kept chosen across sum one two base quotients text numbers entries before) H → va_D A (wM cI ad states whyKind whyOrder many wide textLong spot readColumns all past refused x_16 kept chosen across sum one two base quotients text numbers entries before) → va_S A s.heap H locs → ∀ (ls : Array Slot), lv_has ls 5 [(0, .ref (ad 0)), (1, .int a0), (2, .int a1), (3, .int i_1)] → W p l e rm_X8_lays s m args below meth c H locs 0 0 Q (F0 m 66 ls []) := by
          intro x_16 hq H locs hP hD hS ls hl
          have hr1 := hk2 _ hq
          refine lv_iinc (v := (i_1 + 1)) (lv' := [(3, .int (i_1 + 1)), (0, .ref (ad 0)), (1, .int a0), (2, .int a1)]) hx hb dX8_lays_66 hl (k := 3) rfl rfl (by decide) rfl (fun ls hl => ?_)
          refine lv_goto (tgt := 2) hx hb dX8_lays_69 (by decide) ?_
          exact ih1 (i_1 + 1) x_16 (ht1 _ (Option.some.inj hr1).symm) H locs hP hD hS ls (lv_sub hl [1, 2, 3, 0] rfl)
        have hL2 : ∀ (n : Nat) (i_4 : Int32) (i_5 : Nat → Int32), lrun (fun (z : Int32 × (Nat → Int32)) => fX8_lays_s10 all a0 a1 i_1 z.1 z.2) n (i_4, i_5) = some w2 → ∀ (H : Heap) (locs : List Loc), va_P D cls9 (wM cI ad states whyKind whyOrder many wide textLong spot readColumns all past refused i_5 kept chosen across sum one two base quotients text numbers entries before) H → va_D A (wM cI ad states whyKind whyOrder many wide textLong spot readColumns all past refused i_5 kept chosen across sum one two base quotients text numbers entries before) → va_S A s.heap H locs → ∀ (ls : Array Slot), lv_has ls 5 [(0, .ref (ad 0)), (1, .int a0), (2, .int a1), (3, .int i_1), (4, .int i_4)] → W p l e rm_X8_lays s m args below meth c H locs 0 0 Q (F0 m 10 ls []) := by
          intro n
          induction n with
          | zero => intro i_4 i_5 h; cases h
          | succ n ih2 =>
            intro i_4 i_5 hr2 H locs hP hD hS ls hl
            obtain ⟨k, v2, hk, hr2, ht2, hv2⟩ := lrun_s hr2
            cases hk
            have hr2 : fX8_lays_s10 all a0 a1 i_1 i_4 i_5 = some v2 := hr2
            unfold fX8_lays_s10 at hr2
            refine lv_iload hx hb dX8_lays_10 (lv_at hl 4 rfl) ?_
            refine lv_bipush (v := 8) hx hb dX8_lays_12 (by decide) ?_
            refine lv_icmp_ge (tgt := 66) hx hb dX8_lays_14 (by decide) (fun c_6 => ?_) (fun c_6 => ?_)
            · have hr2 := it_t c_6 hr2
              exact hX2 i_5 (hv2 _ (Option.some.inj hr2).symm).symm H locs hP hD hS ls (lv_sub hl [0, 1, 2, 3] rfl)
            · have hr2 := it_f c_6 hr2
              refine lv_aload_n hx hb dX8_lays_17 rfl (lv_at hl 0 rfl) ?_
              refine va_get (D := D) (ci := 8) (v := .ref (ad 4)) (C := RX8) (T := TX8) (N := 24) hx hb hts iX8_lays_X8 hown hG.1 hP 0 rfl rfl 6 (by decide) (hts _ fX8_lays_1) (fun _ h9 => h9) rfl dX8_lays_18 ?_
              refine lv_iload_n hx hb dX8_lays_21 rfl (lv_at hl 1 rfl) ?_
              refine lv_iload_n hx hb dX8_lays_22 rfl (lv_at hl 3 rfl) ?_
              refine lv_iload hx hb dX8_lays_23 (lv_at hl 4 rfl) ?_
              refine callI0 (gS (rest := [.ref (ad 4)]) ⟨hx, hb, hml, hown, hts⟩ hG vaP0 (vaD0 (A := A)) (mtX8_cell l D cI cB cR H.size a0 i_1 i_4 _ rfl) (va_cwS 3 hts gX8_lays_X8_cell rfl rfl rfl hd_X8_cell ⟨Nat.le_of_ble_eq_true rfl, Nat.le_of_ble_eq_true rfl⟩) rfl hl.1 rfl (Nat.le_of_ble_eq_true rfl) dX8_lays_25) hP hS hA (fun H locs hP hS => ?_)
              refine lv_iload_n hx hb dX8_lays_28 rfl (lv_at hl 3 rfl) ?_
              refine lv_aload_n hx hb dX8_lays_29 rfl (lv_at hl 0 rfl) ?_
              obtain ⟨v_9, hq_8, hk⟩ := bd1_s hr2
              obtain ⟨r_7, rfl⟩ : ∃ y, y = v_9 := ⟨_, rfl⟩
              have hr2 := hk _ rfl
              refine callIA (gV (rest := [.int i_1, .int (fX8_cell a0 i_1 i_4), .ref (ad 4)]) ⟨hx, hb, hml, hown, hts⟩ hG hP hD 0 8 rfl rfl (mtX8_width l D cI cB cR ad H.size states whyKind whyOrder many wide textLong spot readColumns all past refused i_5 kept chosen across sum one two base quotients text numbers entries before r_7 hq_8) (cwV 0 hts gX8_lays_X8_width rfl rfl rfl ⟨rfl, hd_X8_width⟩ ⟨Nat.le_of_ble_eq_true rfl, Nat.le_of_ble_eq_true rfl⟩) rfl hl.1 rfl (Nat.le_of_ble_eq_true rfl) dX8_lays_30) hD hS hA (fun H locs hP hD hS => ?_)
              have hP : va_P D cls9 (wM cI ad states whyKind whyOrder many wide textLong spot readColumns all past refused i_5 kept chosen across sum one two base quotients text numbers entries before) H := hP
              have hD : va_D A (wM cI ad states whyKind whyOrder many wide textLong spot readColumns all past refused i_5 kept chosen across sum one two base quotients text numbers entries before) := hD
              refine lv_icmp_ge (tgt := 58) hx hb dX8_lays_33 (by decide) (fun c_10 => ?_) (fun c_10 => ?_)
              · have hr2 := it_t c_10 hr2
                refine lv_iconst (v := 0) hx hb dX8_lays_58 (by decide) ?_
                obtain ⟨h_11, hr2⟩ := gd_s hr2
                refine va_iast hx hb hG.1 hP hD hS 4 0 rfl rfl h_11 dX8_lays_59 (fun H locs hP hD hS => ?_)
                have hP : va_P D cls9 (wM cI ad states whyKind whyOrder many wide textLong spot readColumns all past refused (upd i_5 (fX8_cell a0 i_1 i_4).toNatClampNeg (0 : Int32)) kept chosen across sum one two base quotients text numbers entries before) H := hP
                have hD : va_D A (wM cI ad states whyKind whyOrder many wide textLong spot readColumns all past refused (upd i_5 (fX8_cell a0 i_1 i_4).toNatClampNeg (0 : Int32)) kept chosen across sum one two base quotients text numbers entries before) := hD
                refine lv_iinc (v := (i_4 + 1)) (lv' := [(4, .int (i_4 + 1)), (0, .ref (ad 0)), (1, .int a0), (2, .int a1), (3, .int i_1)]) hx hb dX8_lays_60 hl (k := 4) rfl rfl (by decide) rfl (fun ls hl => ?_)
                refine lv_goto (tgt := 10) hx hb dX8_lays_63 (by decide) ?_
                exact ih2 (i_4 + 1) (upd i_5 (fX8_cell a0 i_1 i_4).toNatClampNeg (0 : Int32)) (ht2 _ (Option.some.inj hr2).symm) H locs hP hD hS ls (lv_sub hl [1, 2, 3, 4, 0] rfl)
              · have hr2 := it_f c_10 hr2
                refine lv_iload hx hb dX8_lays_36 (lv_at hl 4 rfl) ?_
                refine lv_bipush (v := 7) hx hb dX8_lays_38 (by decide) ?_
                refine lv_icmp_ge (tgt := 58) hx hb dX8_lays_40 (by decide) (fun c_12 => ?_) (fun c_12 => ?_)
                · have hr2 := it_t c_12 hr2
                  refine lv_iconst (v := 0) hx hb dX8_lays_58 (by decide) ?_
                  obtain ⟨h_13, hr2⟩ := gd_s hr2
                  refine va_iast hx hb hG.1 hP hD hS 4 0 rfl rfl h_13 dX8_lays_59 (fun H locs hP hD hS => ?_)
                  have hP : va_P D cls9 (wM cI ad states whyKind whyOrder many wide textLong spot readColumns all past refused (upd i_5 (fX8_cell a0 i_1 i_4).toNatClampNeg (0 : Int32)) kept chosen across sum one two base quotients text numbers entries before) H := hP
                  have hD : va_D A (wM cI ad states whyKind whyOrder many wide textLong spot readColumns all past refused (upd i_5 (fX8_cell a0 i_1 i_4).toNatClampNeg (0 : Int32)) kept chosen across sum one two base quotients text numbers entries before) := hD
                  refine lv_iinc (v := (i_4 + 1)) (lv' := [(4, .int (i_4 + 1)), (0, .ref (ad 0)), (1, .int a0), (2, .int a1), (3, .int i_1)]) hx hb dX8_lays_60 hl (k := 4) rfl rfl (by decide) rfl (fun ls hl => ?_)
                  refine lv_goto (tgt := 10) hx hb dX8_lays_63 (by decide) ?_
                  exact ih2 (i_4 + 1) (upd i_5 (fX8_cell a0 i_1 i_4).toNatClampNeg (0 : Int32)) (ht2 _ (Option.some.inj hr2).symm) H locs hP hD hS ls (lv_sub hl [1, 2, 3, 4, 0] rfl)
                · have hr2 := it_f c_12 hr2
                  refine lv_aload_n hx hb dX8_lays_43 rfl (lv_at hl 0 rfl) ?_
                  refine va_get (D := D) (ci := 8) (v := .ref (ad 1)) (C := RX8) (T := TX8) (N := 24) hx hb hts iX8_lays_X8 hown hG.1 hP 0 rfl rfl 0 (by decide) (hts _ fX8_lays_2) (fun _ h9 => h9) rfl dX8_lays_44 ?_
                  refine lv_iload_n hx hb dX8_lays_47 rfl (lv_at hl 2 rfl) ?_
                  refine lv_iload_n hx hb dX8_lays_48 rfl (lv_at hl 3 rfl) ?_
                  refine lv_iload hx hb dX8_lays_49 (lv_at hl 4 rfl) ?_
                  refine callI0 (gS (rest := [.ref (ad 1), .int (fX8_cell a0 i_1 i_4), .ref (ad 4)]) ⟨hx, hb, hml, hown, hts⟩ hG vaP0 (vaD0 (A := A)) (mtX8_place l D cI cB cR H.size a1 i_1 i_4 _ rfl) (va_cwS 3 hts gX8_lays_X8_place rfl rfl rfl hd_X8_place ⟨Nat.le_of_ble_eq_true rfl, Nat.le_of_ble_eq_true rfl⟩) rfl hl.1 rfl (Nat.le_of_ble_eq_true rfl) dX8_lays_51) hP hS hA (fun H locs hP hS => ?_)
                  obtain ⟨h_14, hr2⟩ := gd_s hr2
                  refine va_iald hx hb hG.1 hP 1 0 rfl rfl h_14 dX8_lays_54 ?_
                  refine lv_goto (tgt := 59) hx hb dX8_lays_55 (by decide) ?_
                  obtain ⟨h_15, hr2⟩ := gd_s hr2
                  refine va_iast hx hb hG.1 hP hD hS 4 0 rfl rfl h_15 dX8_lays_59 (fun H locs hP hD hS => ?_)
                  have hP : va_P D cls9 (wM cI ad states whyKind whyOrder many wide textLong spot readColumns all past refused (upd i_5 (fX8_cell a0 i_1 i_4).toNatClampNeg (all (fX8_place a1 i_1 i_4).toNatClampNeg)) kept chosen across sum one two base quotients text numbers entries before) H := hP
                  have hD : va_D A (wM cI ad states whyKind whyOrder many wide textLong spot readColumns all past refused (upd i_5 (fX8_cell a0 i_1 i_4).toNatClampNeg (all (fX8_place a1 i_1 i_4).toNatClampNeg)) kept chosen across sum one two base quotients text numbers entries before) := hD
                  refine lv_iinc (v := (i_4 + 1)) (lv' := [(4, .int (i_4 + 1)), (0, .ref (ad 0)), (1, .int a0), (2, .int a1), (3, .int i_1)]) hx hb dX8_lays_60 hl (k := 4) rfl rfl (by decide) rfl (fun ls hl => ?_)
                  refine lv_goto (tgt := 10) hx hb dX8_lays_63 (by decide) ?_
                  exact ih2 (i_4 + 1) (upd i_5 (fX8_cell a0 i_1 i_4).toNatClampNeg (all (fX8_place a1 i_1 i_4).toNatClampNeg)) (ht2 _ (Option.some.inj hr2).symm) H locs hP hD hS ls (lv_sub hl [1, 2, 3, 4, 0] rfl)
        obtain ⟨n2, hn2⟩ := Lp_s hw2
        exact hL2 n2 (0 : Int32) i_2 hn2 H locs hP hD hS ls (lv_sub hl [1, 2, 3, 4, 0] rfl)
  obtain ⟨n1, hn1⟩ := Lp_s hw1
  exact hL1 n1 (0 : Int32) work hn1 H locs hP hD hS ls (lv_sub hl [1, 2, 3, 0] rfl)
abbrev rm_X8_formsOf : Room := { frames := 6, cells := 0, slots := 0, locals := 148 }
theorem iX8_formsOf_X8 : ∀ w ∈ wsX80, w ∈ wsX8_formsOf := fun _ h => (List.mem_cons_of_mem _ (List.mem_append_right _ h))
theorem fX8_formsOf_1 : Cond.fieldLink RX8 178 "PopovRowsModel" "many" "I" ∈ wsX8_formsOf := (List.mem_cons_of_mem _ (List.mem_append_left _ (List.mem_append_left _ (List.mem_of_getElem? (i := 0) rfl))))
theorem fX8_formsOf_2 : Cond.fieldLink RX8 162 "PopovRowsModel" "wide" "I" ∈ wsX8_formsOf := (List.mem_cons_of_mem _ (List.mem_append_left _ (List.mem_append_left _ (List.mem_of_getElem? (i := 1) rfl))))
set_option maxHeartbeats 4000000 in
set_option maxRecDepth 100000 in
theorem mtX8_formsOf (l : Launch) (D : va_G) (cI cB cR : ClassId) (ad : Nat → Nat) (sz : Nat) (states : Int32) (whyKind : Int32) (whyOrder : Int32) (many : Int32) (wide : Int32) (textLong : Int32) (spot : Int32) (readColumns : Int32) (all : Nat → Int32) (past : Nat → Int32) (refused : Nat → Int32) (work : Nat → Int32) (kept : Nat → Int32) (chosen : Nat → Int32) (across : Nat → Int32) (sum : Nat → Int32) (one : Nat → Int32) (two : Nat → Int32) (base : Nat → Int32) (quotients : Nat → Int32) (text : Nat → Int32) (numbers : Nat → Int32) (entries : Nat → Int32) (before : Nat → Int32) (a0 : Int32) (res : Int32 × Int32 × (Nat → Int32)) (hf : fX8_formsOf all work a0 = some res) : Met l yX8_formsOf wsX8_formsOf rm_X8_formsOf (qP D cI cB cR [.ref (ad 0), .int a0] (wM cI ad states whyKind whyOrder many wide textLong spot readColumns all past refused work kept chosen across sum one two base quotients text numbers entries before) sz) (qV D (wM cI ad states whyKind whyOrder many wide textLong spot readColumns all past refused work kept chosen across sum one two base quotients text numbers entries before) (wM cI ad states whyKind whyOrder res.1 res.2.1 textLong spot readColumns all past refused res.2.2 kept chosen across sum one two base quotients text numbers entries before) sz) 0 0 (va_A (wM cI ad states whyKind whyOrder many wide textLong spot readColumns all past refused work kept chosen across sum one two base quotients text numbers entries before) sz) := by
  refine entV (plainFor_of_name (by decide)) rfl (Nat.le_of_ble_eq_true rfl) ?_
  intro p e s m args below meth c Q A ls S hG hP hD hA hl hE
  obtain ⟨hx, hb, hml, hown, hts⟩ := S
  have hown : s.vm.findClass RX8 = some m.cls := hown
  have hS : va_S A s.heap s.heap [] := va_S.rf
  have hl : lv_has ls 3 [(0, .ref (ad 0)), (1, .int a0)] := hl
  have hq := hf
  unfold fX8_formsOf at hq
  obtain ⟨H, hH⟩ : ∃ H, H = s.heap := ⟨_, rfl⟩
  obtain ⟨locs, hlo⟩ : ∃ L : List Loc, L = [] := ⟨_, rfl⟩
  have hP : va_P D cls9 (wM cI ad states whyKind whyOrder many wide textLong spot readColumns all past refused work kept chosen across sum one two base quotients text numbers entries before) H := hH ▸ hP
  have hS : va_S A s.heap H locs := by rw [hH, hlo]; exact hS
  suffices hg : W p l e rm_X8_formsOf s m args below meth c H locs 0 0 Q (F0 m 0 ls []) by rw [hH, hlo] at hg; exact hg
  refine lv_aload_n hx hb dX8_formsOf_0 rfl (lv_at hl 0 rfl) ?_
  refine lv_iconst (v := 0) hx hb dX8_formsOf_1 (by decide) ?_
  refine va_put (D := D) (ci := 8) (v := .int (0 : Int32)) (ty := .int) (C := RX8) (T := TX8) (N := 24) hx hb hts iX8_formsOf_X8 tyX8 tyX8_ok nmX8 hown hG.1 hP hD hS 0 rfl rfl 7 (by decide) (hts _ fX8_formsOf_1) (fun _ h9 => h9) rfl (by decide +kernel) rfl rfl (Nat.le_of_ble_eq_true rfl) dX8_formsOf_2 (fun H locs hP hD hS => ?_)
  have hP : va_P D cls9 (wM cI ad states whyKind whyOrder (0 : Int32) wide textLong spot readColumns all past refused work kept chosen across sum one two base quotients text numbers entries before) H := hP
  have hD : va_D A (wM cI ad states whyKind whyOrder (0 : Int32) wide textLong spot readColumns all past refused work kept chosen across sum one two base quotients text numbers entries before) := hD
  refine lv_aload_n hx hb dX8_formsOf_5 rfl (lv_at hl 0 rfl) ?_
  refine lv_aload_n hx hb dX8_formsOf_6 rfl (lv_at hl 0 rfl) ?_
  obtain ⟨v_3, hq_2, hk⟩ := bd1_s hq
  obtain ⟨r_1, rfl⟩ : ∃ y, y = v_3 := ⟨_, rfl⟩
  have hq := hk _ rfl
  refine callIA (gV (rest := [.ref (ad 0)]) ⟨hx, hb, hml, hown, hts⟩ hG hP hD 0 8 rfl rfl (mtX8_width l D cI cB cR ad H.size states whyKind whyOrder (0 : Int32) wide textLong spot readColumns all past refused work kept chosen across sum one two base quotients text numbers entries before r_1 hq_2) (cwV 0 hts gX8_formsOf_X8_width rfl rfl rfl ⟨rfl, hd_X8_width⟩ ⟨Nat.le_of_ble_eq_true rfl, Nat.le_of_ble_eq_true rfl⟩) rfl hl.1 rfl (Nat.le_of_ble_eq_true rfl) dX8_formsOf_7) hD hS hA (fun H locs hP hD hS => ?_)
  have hP : va_P D cls9 (wM cI ad states whyKind whyOrder (0 : Int32) wide textLong spot readColumns all past refused work kept chosen across sum one two base quotients text numbers entries before) H := hP
  have hD : va_D A (wM cI ad states whyKind whyOrder (0 : Int32) wide textLong spot readColumns all past refused work kept chosen across sum one two base quotients text numbers entries before) := hD
  refine va_put (D := D) (ci := 8) (v := .int r_1) (ty := .int) (C := RX8) (T := TX8) (N := 24) hx hb hts iX8_formsOf_X8 tyX8 tyX8_ok nmX8 hown hG.1 hP hD hS 0 rfl rfl 8 (by decide) (hts _ fX8_formsOf_2) (fun _ h9 => h9) rfl (by decide +kernel) rfl rfl (Nat.le_of_ble_eq_true rfl) dX8_formsOf_10 (fun H locs hP hD hS => ?_)
  have hP : va_P D cls9 (wM cI ad states whyKind whyOrder (0 : Int32) r_1 textLong spot readColumns all past refused work kept chosen across sum one two base quotients text numbers entries before) H := hP
  have hD : va_D A (wM cI ad states whyKind whyOrder (0 : Int32) r_1 textLong spot readColumns all past refused work kept chosen across sum one two base quotients text numbers entries before) := hD
  refine lv_iconst (v := 0) hx hb dX8_formsOf_13 (by decide) ?_
  refine lv_istore_n (lv' := [(2, .int (0 : Int32)), (0, .ref (ad 0)), (1, .int a0)]) hx hb dX8_formsOf_14 rfl hl (by decide) rfl (fun ls hl => ?_)
  obtain ⟨w1, hw1, hk1⟩ := bd2_s hq
  have hX1 : ∀ (x_15 : Int32) (x_16 : Nat → Int32), w1 = (x_15, x_16) → ∀ (H : Heap) (locs : List Loc), va_P D cls9 (wM cI ad states whyKind whyOrder x_15 r_1 textLong spot readColumns all past refused x_16 kept chosen across sum one two base quotients text numbers entries before) H → va_D A (wM cI ad states whyKind whyOrder x_15 r_1 textLong spot readColumns all past refused x_16 kept chosen across sum one two base quotients text numbers entries before) → va_S A s.heap H locs → ∀ (ls : Array Slot), lv_has ls 3 [(0, .ref (ad 0))] → W p l e rm_X8_formsOf s m args below meth c H locs 0 0 Q (F0 m 57 ls []) := by
    intro x_15 x_16 hq H locs hP hD hS ls hl
    have hq := hk1 _ _ hq
    refine lv_aload_n hx hb dX8_formsOf_57 rfl (lv_at hl 0 rfl) ?_
    obtain ⟨v_20, hq_19, hk⟩ := bd2_s hq
    obtain ⟨u_17, u_18⟩ := v_20
    have hq := hk _ _ rfl
    refine callVA (gV (rest := []) ⟨hx, hb, hml, hown, hts⟩ hG hP hD 0 8 rfl rfl (mtX8_forms l D cI cB cR ad H.size states whyKind whyOrder x_15 r_1 textLong spot readColumns all past refused x_16 kept chosen across sum one two base quotients text numbers entries before (u_17, u_18) hq_19) (cwV 0 hts gX8_formsOf_X8_forms rfl rfl rfl ⟨rfl, hd_X8_forms⟩ ⟨Nat.le_of_ble_eq_true rfl, Nat.le_of_ble_eq_true rfl⟩) rfl hl.1 rfl (Nat.le_of_ble_eq_true rfl) dX8_formsOf_58) hD hS hA (fun H locs hP hD hS => ?_)
    have hP : va_P D cls9 (wM cI ad states whyKind whyOrder u_17 r_1 textLong spot readColumns all past refused u_18 kept chosen across sum one two base quotients text numbers entries before) H := hP
    have hD : va_D A (wM cI ad states whyKind whyOrder u_17 r_1 textLong spot readColumns all past refused u_18 kept chosen across sum one two base quotients text numbers entries before) := hD
    have he := Option.some.inj hq
    subst he
    exact hE H locs _ _ dX8_formsOf_61 hP hD hS
  have hL1 : ∀ (n : Nat) (i_4 : Int32) (i_5 : Int32) (i_6 : Nat → Int32), lrun (fun (z : Int32 × Int32 × (Nat → Int32)) => fX8_formsOf_s15 all a0 z.1 z.2.1 z.2.2) n (i_4, i_5, i_6) = some w1 → ∀ (H : Heap) (locs : List Loc), va_P D cls9 (wM cI ad states whyKind whyOrder i_5 r_1 textLong spot readColumns all past refused i_6 kept chosen across sum one two base quotients text numbers entries before) H → va_D A (wM cI ad states whyKind whyOrder i_5 r_1 textLong spot readColumns all past refused i_6 kept chosen across sum one two base quotients text numbers entries before) → va_S A s.heap H locs → ∀ (ls : Array Slot), lv_has ls 3 [(0, .ref (ad 0)), (1, .int a0), (2, .int i_4)] → W p l e rm_X8_formsOf s m args below meth c H locs 0 0 Q (F0 m 15 ls []) := by
    intro n
    induction n with
    | zero => intro i_4 i_5 i_6 h; cases h
    | succ n ih1 =>
      intro i_4 i_5 i_6 hr1 H locs hP hD hS ls hl
      obtain ⟨k, v1, hk, hr1, ht1, hv1⟩ := lrun_s hr1
      cases hk
      have hr1 : fX8_formsOf_s15 all a0 i_4 i_5 i_6 = some v1 := hr1
      unfold fX8_formsOf_s15 at hr1
      refine lv_iload_n hx hb dX8_formsOf_15 rfl (lv_at hl 2 rfl) ?_
      refine lv_aload_n hx hb dX8_formsOf_16 rfl (lv_at hl 0 rfl) ?_
      obtain ⟨v_9, hq_8, hk⟩ := bd1_s hr1
      obtain ⟨r_7, rfl⟩ : ∃ y, y = v_9 := ⟨_, rfl⟩
      have hr1 := hk _ rfl
      refine callIA (gV (rest := [.int i_4]) ⟨hx, hb, hml, hown, hts⟩ hG hP hD 0 8 rfl rfl (mtX8_rows l D cI cB cR ad H.size states whyKind whyOrder i_5 r_1 textLong spot readColumns all past refused i_6 kept chosen across sum one two base quotients text numbers entries before r_7 hq_8) (cwV 0 hts gX8_formsOf_X8_rows rfl rfl rfl ⟨rfl, hd_X8_rows⟩ ⟨Nat.le_of_ble_eq_true rfl, Nat.le_of_ble_eq_true rfl⟩) rfl hl.1 rfl (Nat.le_of_ble_eq_true rfl) dX8_formsOf_17) hD hS hA (fun H locs hP hD hS => ?_)
      have hP : va_P D cls9 (wM cI ad states whyKind whyOrder i_5 r_1 textLong spot readColumns all past refused i_6 kept chosen across sum one two base quotients text numbers entries before) H := hP
      have hD : va_D A (wM cI ad states whyKind whyOrder i_5 r_1 textLong spot readColumns all past refused i_6 kept chosen across sum one two base quotients text numbers entries before) := hD
      refine lv_icmp_ge (tgt := 57) hx hb dX8_formsOf_20 (by decide) (fun c_10 => ?_) (fun c_10 => ?_)
      · have hr1 := it_t c_10 hr1
        exact hX1 i_5 i_6 (hv1 _ (Option.some.inj hr1).symm).symm H locs hP hD hS ls (lv_sub hl [0] rfl)
      · have hr1 := it_f c_10 hr1
        refine lv_iload_n hx hb dX8_formsOf_23 rfl (lv_at hl 1 rfl) ?_
        refine lv_iload_n hx hb dX8_formsOf_24 rfl (lv_at hl 2 rfl) ?_
        refine lv_ishr hx hb dX8_formsOf_25 ?_
        refine lv_iconst (v := 1) hx hb dX8_formsOf_26 (by decide) ?_
        refine lv_iand hx hb dX8_formsOf_27 ?_
        refine lv_iconst (v := 1) hx hb dX8_formsOf_28 (by decide) ?_
        refine lv_icmp_ne (tgt := 51) hx hb dX8_formsOf_29 (by decide) (fun c_11 => ?_) (fun c_11 => ?_)
        · have hr1 := it_f c_11 hr1
          refine lv_iinc (v := (i_4 + 1)) (lv' := [(2, .int (i_4 + 1)), (0, .ref (ad 0)), (1, .int a0)]) hx hb dX8_formsOf_51 hl (k := 2) rfl rfl (by decide) rfl (fun ls hl => ?_)
          refine lv_goto (tgt := 15) hx hb dX8_formsOf_54 (by decide) ?_
          exact ih1 (i_4 + 1) i_5 i_6 (ht1 _ (Option.some.inj hr1).symm) H locs hP hD hS ls (lv_sub hl [1, 2, 0] rfl)
        · have hr1 := it_t c_11 hr1
          refine lv_aload_n hx hb dX8_formsOf_32 rfl (lv_at hl 0 rfl) ?_
          refine lv_aload_n hx hb dX8_formsOf_33 rfl (lv_at hl 0 rfl) ?_
          refine va_get (D := D) (ci := 8) (v := .int i_5) (C := RX8) (T := TX8) (N := 24) hx hb hts iX8_formsOf_X8 hown hG.1 hP 0 rfl rfl 7 (by decide) (hts _ fX8_formsOf_1) (fun _ h9 => h9) rfl dX8_formsOf_34 ?_
          refine lv_iload_n hx hb dX8_formsOf_37 rfl (lv_at hl 2 rfl) ?_
          obtain ⟨v_14, hq_13, hk⟩ := bd1_s hr1
          obtain ⟨u_12, rfl⟩ : ∃ y, y = v_14 := ⟨_, rfl⟩
          have hr1 := hk _ rfl
          refine callVA (gV (rest := []) ⟨hx, hb, hml, hown, hts⟩ hG hP hD 0 8 rfl rfl (mtX8_lays l D cI cB cR ad H.size states whyKind whyOrder i_5 r_1 textLong spot readColumns all past refused i_6 kept chosen across sum one two base quotients text numbers entries before i_5 i_4 u_12 hq_13) (cwV 2 hts gX8_formsOf_X8_lays rfl rfl rfl ⟨rfl, hd_X8_lays⟩ ⟨Nat.le_of_ble_eq_true rfl, Nat.le_of_ble_eq_true rfl⟩) rfl hl.1 rfl (Nat.le_of_ble_eq_true rfl) dX8_formsOf_38) hD hS hA (fun H locs hP hD hS => ?_)
          have hP : va_P D cls9 (wM cI ad states whyKind whyOrder i_5 r_1 textLong spot readColumns all past refused u_12 kept chosen across sum one two base quotients text numbers entries before) H := hP
          have hD : va_D A (wM cI ad states whyKind whyOrder i_5 r_1 textLong spot readColumns all past refused u_12 kept chosen across sum one two base quotients text numbers entries before) := hD
          refine lv_aload_n hx hb dX8_formsOf_41 rfl (lv_at hl 0 rfl) ?_
          refine lv_dup hx hb dX8_formsOf_42 rfl ?_
          refine va_get (D := D) (ci := 8) (v := .int i_5) (C := RX8) (T := TX8) (N := 24) hx hb hts iX8_formsOf_X8 hown hG.1 hP 0 rfl rfl 7 (by decide) (hts _ fX8_formsOf_1) (fun _ h9 => h9) rfl dX8_formsOf_43 ?_
          refine lv_iconst (v := 1) hx hb dX8_formsOf_46 (by decide) ?_
          refine lv_iadd hx hb dX8_formsOf_47 ?_
          refine va_put (D := D) (ci := 8) (v := .int (i_5 + (1 : Int32))) (ty := .int) (C := RX8) (T := TX8) (N := 24) hx hb hts iX8_formsOf_X8 tyX8 tyX8_ok nmX8 hown hG.1 hP hD hS 0 rfl rfl 7 (by decide) (hts _ fX8_formsOf_1) (fun _ h9 => h9) rfl (by decide +kernel) rfl rfl (Nat.le_of_ble_eq_true rfl) dX8_formsOf_48 (fun H locs hP hD hS => ?_)
          have hP : va_P D cls9 (wM cI ad states whyKind whyOrder (i_5 + (1 : Int32)) r_1 textLong spot readColumns all past refused u_12 kept chosen across sum one two base quotients text numbers entries before) H := hP
          have hD : va_D A (wM cI ad states whyKind whyOrder (i_5 + (1 : Int32)) r_1 textLong spot readColumns all past refused u_12 kept chosen across sum one two base quotients text numbers entries before) := hD
          refine lv_iinc (v := (i_4 + 1)) (lv' := [(2, .int (i_4 + 1)), (0, .ref (ad 0)), (1, .int a0)]) hx hb dX8_formsOf_51 hl (k := 2) rfl rfl (by decide) rfl (fun ls hl => ?_)
          refine lv_goto (tgt := 15) hx hb dX8_formsOf_54 (by decide) ?_
          exact ih1 (i_4 + 1) (i_5 + (1 : Int32)) u_12 (ht1 _ (Option.some.inj hr1).symm) H locs hP hD hS ls (lv_sub hl [1, 2, 0] rfl)
  obtain ⟨n1, hn1⟩ := Lp_s hw1
  exact hL1 n1 (0 : Int32) (0 : Int32) work hn1 H locs hP hD hS ls (lv_sub hl [1, 2, 0] rfl)
abbrev rm_X8_isSet : Room := { frames := 1, cells := 0, slots := 0, locals := 25 }
set_option maxHeartbeats 4000000 in
set_option maxRecDepth 100000 in
theorem mtX8_isSet (l : Launch) (D : va_G) (cI cB cR : ClassId) (ad : Nat → Nat) (sz : Nat) (states : Int32) (whyKind : Int32) (whyOrder : Int32) (many : Int32) (wide : Int32) (textLong : Int32) (spot : Int32) (readColumns : Int32) (all : Nat → Int32) (past : Nat → Int32) (refused : Nat → Int32) (work : Nat → Int32) (kept : Nat → Int32) (chosen : Nat → Int32) (across : Nat → Int32) (sum : Nat → Int32) (one : Nat → Int32) (two : Nat → Int32) (base : Nat → Int32) (quotients : Nat → Int32) (text : Nat → Int32) (numbers : Nat → Int32) (entries : Nat → Int32) (before : Nat → Int32) (a0 : Int32) (res : Int32) (hf : fX8_isSet all a0 = some res) : Met l yX8_isSet wsX8_isSet rm_X8_isSet (qP D cI cB cR [.ref (ad 0), .int a0] (wM cI ad states whyKind whyOrder many wide textLong spot readColumns all past refused work kept chosen across sum one two base quotients text numbers entries before) sz) (qZ D res (wM cI ad states whyKind whyOrder many wide textLong spot readColumns all past refused work kept chosen across sum one two base quotients text numbers entries before) (wM cI ad states whyKind whyOrder many wide textLong spot readColumns all past refused work kept chosen across sum one two base quotients text numbers entries before) sz) 0 0 (va_A (wM cI ad states whyKind whyOrder many wide textLong spot readColumns all past refused work kept chosen across sum one two base quotients text numbers entries before) sz) := by
  refine entZ (plainFor_of_name (by decide)) rfl (Nat.le_of_ble_eq_true rfl) ?_
  intro p e s m args below meth c Q A ls S hG hP hD hA hl hE
  obtain ⟨hx, hb, hml, hown, hts⟩ := S
  have hown : s.vm.findClass RX8 = some m.cls := hown
  have hS : va_S A s.heap s.heap [] := va_S.rf
  have hl : lv_has ls 2 [(0, .ref (ad 0)), (1, .int a0)] := hl
  have hq := hf
  unfold fX8_isSet at hq
  obtain ⟨H, hH⟩ : ∃ H, H = s.heap := ⟨_, rfl⟩
  obtain ⟨locs, hlo⟩ : ∃ L : List Loc, L = [] := ⟨_, rfl⟩
  have hP : va_P D cls9 (wM cI ad states whyKind whyOrder many wide textLong spot readColumns all past refused work kept chosen across sum one two base quotients text numbers entries before) H := hH ▸ hP
  have hS : va_S A s.heap H locs := by rw [hH, hlo]; exact hS
  suffices hg : W p l e rm_X8_isSet s m args below meth c H locs 0 0 Q (F0 m 0 ls []) by rw [hH, hlo] at hg; exact hg
  refine lv_iload_n hx hb dX8_isSet_0 rfl (lv_at hl 1 rfl) ?_
  refine lv_i2l (v := (a0.toInt64)) hx hb dX8_isSet_1 rfl ?_
  refine lv_lconst (v := 0) hx hb dX8_isSet_2 (by decide) ?_
  refine lv_iconst (v := 1) hx hb dX8_isSet_3 (by decide) ?_
  refine lv_aload_n hx hb dX8_isSet_4 rfl (lv_at hl 0 rfl) ?_
  obtain ⟨v_3, hq_2, hk⟩ := bd1_s hq
  obtain ⟨r_1, rfl⟩ : ∃ y, y = v_3 := ⟨_, rfl⟩
  have hq := hk _ rfl
  refine callIA (gV (rest := [.int (1 : Int32), .long (0 : Int64), .long (a0.toInt64)]) ⟨hx, hb, hml, hown, hts⟩ hG hP hD 0 8 rfl rfl (mtX8_rows l D cI cB cR ad H.size states whyKind whyOrder many wide textLong spot readColumns all past refused work kept chosen across sum one two base quotients text numbers entries before r_1 hq_2) (cwV 0 hts gX8_isSet_X8_rows rfl rfl rfl ⟨rfl, hd_X8_rows⟩ ⟨Nat.le_of_ble_eq_true rfl, Nat.le_of_ble_eq_true rfl⟩) rfl hl.1 rfl (Nat.le_of_ble_eq_true rfl) dX8_isSet_5) hD hS hA (fun H locs hP hD hS => ?_)
  have hP : va_P D cls9 (wM cI ad states whyKind whyOrder many wide textLong spot readColumns all past refused work kept chosen across sum one two base quotients text numbers entries before) H := hP
  have hD : va_D A (wM cI ad states whyKind whyOrder many wide textLong spot readColumns all past refused work kept chosen across sum one two base quotients text numbers entries before) := hD
  refine lv_ishl hx hb dX8_isSet_8 ?_
  refine lv_iconst (v := 1) hx hb dX8_isSet_9 (by decide) ?_
  refine lv_isub hx hb dX8_isSet_10 ?_
  refine lv_i2l (v := (((((1 : Int32) <<< (r_1 &&& 31)) - (1 : Int32))).toInt64)) hx hb dX8_isSet_11 rfl ?_
  refine callZ0 (gS (rest := []) ⟨hx, hb, hml, hown, hts⟩ hG vaP0 (vaD0 (A := A)) (mtX8_in l D cI cB cR H.size (a0.toInt64) (0 : Int64) (((((1 : Int32) <<< (r_1 &&& 31)) - (1 : Int32))).toInt64) _ rfl) (va_cwS 3 hts gX8_isSet_X8_in rfl rfl rfl hd_X8_in ⟨Nat.le_of_ble_eq_true rfl, Nat.le_of_ble_eq_true rfl⟩) rfl hl.1 rfl (Nat.le_of_ble_eq_true rfl) dX8_isSet_12) hP hS hA (fun H locs z_4 hP hS => ?_)
  have he := Option.some.inj hq
  subst he
  exact hE H locs _ _ _ rfl z_4 dX8_isSet_15 hP hD hS
abbrev rm_X8_rankOf : Room := { frames := 7, cells := 0, slots := 0, locals := 170 }
theorem iX8_rankOf_X8 : ∀ w ∈ wsX80, w ∈ wsX8_rankOf := fun _ h => (List.mem_cons_of_mem _ (List.mem_append_right _ h))
theorem fX8_rankOf_1 : Cond.fieldLink RX8 178 "PopovRowsModel" "many" "I" ∈ wsX8_rankOf := (List.mem_cons_of_mem _ (List.mem_append_left _ (List.mem_append_left _ (List.mem_of_getElem? (i := 0) rfl))))
set_option maxHeartbeats 4000000 in
set_option maxRecDepth 100000 in
theorem mtX8_rankOf (l : Launch) (D : va_G) (cI cB cR : ClassId) (ad : Nat → Nat) (sz : Nat) (states : Int32) (whyKind : Int32) (whyOrder : Int32) (many : Int32) (wide : Int32) (textLong : Int32) (spot : Int32) (readColumns : Int32) (all : Nat → Int32) (past : Nat → Int32) (refused : Nat → Int32) (work : Nat → Int32) (kept : Nat → Int32) (chosen : Nat → Int32) (across : Nat → Int32) (sum : Nat → Int32) (one : Nat → Int32) (two : Nat → Int32) (base : Nat → Int32) (quotients : Nat → Int32) (text : Nat → Int32) (numbers : Nat → Int32) (entries : Nat → Int32) (before : Nat → Int32) (a0 : Int32) (res : Int32 × Int32 × Int32 × (Nat → Int32)) (hf : fX8_rankOf all work a0 = some res) : Met l yX8_rankOf wsX8_rankOf rm_X8_rankOf (qP D cI cB cR [.ref (ad 0), .int a0] (wM cI ad states whyKind whyOrder many wide textLong spot readColumns all past refused work kept chosen across sum one two base quotients text numbers entries before) sz) (qI D res.1 (wM cI ad states whyKind whyOrder many wide textLong spot readColumns all past refused work kept chosen across sum one two base quotients text numbers entries before) (wM cI ad states whyKind whyOrder res.2.1 res.2.2.1 textLong spot readColumns all past refused res.2.2.2 kept chosen across sum one two base quotients text numbers entries before) sz) 0 0 (va_A (wM cI ad states whyKind whyOrder many wide textLong spot readColumns all past refused work kept chosen across sum one two base quotients text numbers entries before) sz) := by
  refine entI (plainFor_of_name (by decide)) rfl (Nat.le_of_ble_eq_true rfl) ?_
  intro p e s m args below meth c Q A ls S hG hP hD hA hl hE
  obtain ⟨hx, hb, hml, hown, hts⟩ := S
  have hown : s.vm.findClass RX8 = some m.cls := hown
  have hS : va_S A s.heap s.heap [] := va_S.rf
  have hl : lv_has ls 2 [(0, .ref (ad 0)), (1, .int a0)] := hl
  have hq := hf
  unfold fX8_rankOf at hq
  obtain ⟨H, hH⟩ : ∃ H, H = s.heap := ⟨_, rfl⟩
  obtain ⟨locs, hlo⟩ : ∃ L : List Loc, L = [] := ⟨_, rfl⟩
  have hP : va_P D cls9 (wM cI ad states whyKind whyOrder many wide textLong spot readColumns all past refused work kept chosen across sum one two base quotients text numbers entries before) H := hH ▸ hP
  have hS : va_S A s.heap H locs := by rw [hH, hlo]; exact hS
  suffices hg : W p l e rm_X8_rankOf s m args below meth c H locs 0 0 Q (F0 m 0 ls []) by rw [hH, hlo] at hg; exact hg
  refine lv_aload_n hx hb dX8_rankOf_0 rfl (lv_at hl 0 rfl) ?_
  refine lv_iload_n hx hb dX8_rankOf_1 rfl (lv_at hl 1 rfl) ?_
  obtain ⟨v_5, hq_4, hk⟩ := bd3_s hq
  obtain ⟨u_1, u_2, u_3⟩ := v_5
  have hq := hk _ _ _ rfl
  refine callVA (gV (rest := []) ⟨hx, hb, hml, hown, hts⟩ hG hP hD 0 8 rfl rfl (mtX8_formsOf l D cI cB cR ad H.size states whyKind whyOrder many wide textLong spot readColumns all past refused work kept chosen across sum one two base quotients text numbers entries before a0 (u_1, u_2, u_3) hq_4) (cwV 1 hts gX8_rankOf_X8_formsOf rfl rfl rfl ⟨rfl, hd_X8_formsOf⟩ ⟨Nat.le_of_ble_eq_true rfl, Nat.le_of_ble_eq_true rfl⟩) rfl hl.1 rfl (Nat.le_of_ble_eq_true rfl) dX8_rankOf_2) hD hS hA (fun H locs hP hD hS => ?_)
  have hP : va_P D cls9 (wM cI ad states whyKind whyOrder u_1 u_2 textLong spot readColumns all past refused u_3 kept chosen across sum one two base quotients text numbers entries before) H := hP
  have hD : va_D A (wM cI ad states whyKind whyOrder u_1 u_2 textLong spot readColumns all past refused u_3 kept chosen across sum one two base quotients text numbers entries before) := hD
  refine lv_aload_n hx hb dX8_rankOf_5 rfl (lv_at hl 0 rfl) ?_
  refine va_get (D := D) (ci := 8) (v := .int u_1) (C := RX8) (T := TX8) (N := 24) hx hb hts iX8_rankOf_X8 hown hG.1 hP 0 rfl rfl 7 (by decide) (hts _ fX8_rankOf_1) (fun _ h9 => h9) rfl dX8_rankOf_6 ?_
  have he := Option.some.inj hq
  subst he
  exact hE H locs _ _ _ rfl dX8_rankOf_9 hP hD hS
abbrev rm_X8_rank : Room := { frames := 8, cells := 0, slots := 0, locals := 191 }
set_option maxHeartbeats 4000000 in
set_option maxRecDepth 100000 in
theorem mtX8_rank (l : Launch) (D : va_G) (cI cB cR : ClassId) (ad : Nat → Nat) (sz : Nat) (states : Int32) (whyKind : Int32) (whyOrder : Int32) (many : Int32) (wide : Int32) (textLong : Int32) (spot : Int32) (readColumns : Int32) (all : Nat → Int32) (past : Nat → Int32) (refused : Nat → Int32) (work : Nat → Int32) (kept : Nat → Int32) (chosen : Nat → Int32) (across : Nat → Int32) (sum : Nat → Int32) (one : Nat → Int32) (two : Nat → Int32) (base : Nat → Int32) (quotients : Nat → Int32) (text : Nat → Int32) (numbers : Nat → Int32) (entries : Nat → Int32) (before : Nat → Int32) (a0 : Int32) (res : Int32 × Int32 × Int32 × (Nat → Int32) × (Nat → Int32)) (hf : fX8_rank many wide all refused work a0 = some res) : Met l yX8_rank wsX8_rank rm_X8_rank (qP D cI cB cR [.ref (ad 0), .int a0] (wM cI ad states whyKind whyOrder many wide textLong spot readColumns all past refused work kept chosen across sum one two base quotients text numbers entries before) sz) (qI D res.1 (wM cI ad states whyKind whyOrder many wide textLong spot readColumns all past refused work kept chosen across sum one two base quotients text numbers entries before) (wM cI ad states whyKind whyOrder res.2.1 res.2.2.1 textLong spot readColumns all past res.2.2.2.1 res.2.2.2.2 kept chosen across sum one two base quotients text numbers entries before) sz) 0 0 (va_A (wM cI ad states whyKind whyOrder many wide textLong spot readColumns all past refused work kept chosen across sum one two base quotients text numbers entries before) sz) := by
  refine entI (plainFor_of_name (by decide)) rfl (Nat.le_of_ble_eq_true rfl) ?_
  intro p e s m args below meth c Q A ls S hG hP hD hA hl hE
  obtain ⟨hx, hb, hml, hown, hts⟩ := S
  have hown : s.vm.findClass RX8 = some m.cls := hown
  have hS : va_S A s.heap s.heap [] := va_S.rf
  have hl : lv_has ls 2 [(0, .ref (ad 0)), (1, .int a0)] := hl
  have hq := hf
  unfold fX8_rank at hq
  obtain ⟨H, hH⟩ : ∃ H, H = s.heap := ⟨_, rfl⟩
  obtain ⟨locs, hlo⟩ : ∃ L : List Loc, L = [] := ⟨_, rfl⟩
  have hP : va_P D cls9 (wM cI ad states whyKind whyOrder many wide textLong spot readColumns all past refused work kept chosen across sum one two base quotients text numbers entries before) H := hH ▸ hP
  have hS : va_S A s.heap H locs := by rw [hH, hlo]; exact hS
  suffices hg : W p l e rm_X8_rank s m args below meth c H locs 0 0 Q (F0 m 0 ls []) by rw [hH, hlo] at hg; exact hg
  refine lv_aload_n hx hb dX8_rank_0 rfl (lv_at hl 0 rfl) ?_
  refine lv_iload_n hx hb dX8_rank_1 rfl (lv_at hl 1 rfl) ?_
  obtain ⟨v_3, hq_2, hk⟩ := bd1_s hq
  obtain ⟨r_1, rfl⟩ : ∃ y, y = v_3 := ⟨_, rfl⟩
  have hq := hk _ rfl
  refine callZA (gV (rest := []) ⟨hx, hb, hml, hown, hts⟩ hG hP hD 0 8 rfl rfl (mtX8_isSet l D cI cB cR ad H.size states whyKind whyOrder many wide textLong spot readColumns all past refused work kept chosen across sum one two base quotients text numbers entries before a0 r_1 hq_2) (cwV 1 hts gX8_rank_X8_isSet rfl rfl rfl ⟨rfl, hd_X8_isSet⟩ ⟨Nat.le_of_ble_eq_true rfl, Nat.le_of_ble_eq_true rfl⟩) rfl hl.1 rfl (Nat.le_of_ble_eq_true rfl) dX8_rank_2) hD hS hA (fun H locs z_4 hP hD hS => ?_)
  have hP : va_P D cls9 (wM cI ad states whyKind whyOrder many wide textLong spot readColumns all past refused work kept chosen across sum one two base quotients text numbers entries before) H := hP
  have hD : va_D A (wM cI ad states whyKind whyOrder many wide textLong spot readColumns all past refused work kept chosen across sum one two base quotients text numbers entries before) := hD
  refine lv_if_eq (tgt := 16) hx hb dX8_rank_5 (by decide) (fun c_5 => ?_) (fun c_5 => ?_)
  · have hq := it_t c_5 hq
    refine lv_aload_n hx hb dX8_rank_16 rfl (lv_at hl 0 rfl) ?_
    refine lv_bipush (v := -2) hx hb dX8_rank_17 (by decide) ?_
    obtain ⟨v_9, hq_8, hk⟩ := bd2_s hq
    obtain ⟨r_6, u_7⟩ := v_9
    have hq := hk _ _ rfl
    refine callIA (gV (rest := []) ⟨hx, hb, hml, hown, hts⟩ hG hP hD 0 8 rfl rfl (mtX8_refuses l D cI cB cR ad H.size states whyKind whyOrder many wide textLong spot readColumns all past refused work kept chosen across sum one two base quotients text numbers entries before (-2 : Int32) (r_6, u_7) hq_8) (cwV 1 hts gX8_rank_X8_refuses rfl rfl rfl ⟨rfl, hd_X8_refuses⟩ ⟨Nat.le_of_ble_eq_true rfl, Nat.le_of_ble_eq_true rfl⟩) rfl hl.1 rfl (Nat.le_of_ble_eq_true rfl) dX8_rank_19) hD hS hA (fun H locs hP hD hS => ?_)
    have hP : va_P D cls9 (wM cI ad states whyKind whyOrder many wide textLong spot readColumns all past u_7 work kept chosen across sum one two base quotients text numbers entries before) H := hP
    have hD : va_D A (wM cI ad states whyKind whyOrder many wide textLong spot readColumns all past u_7 work kept chosen across sum one two base quotients text numbers entries before) := hD
    have he := Option.some.inj hq
    subst he
    exact hE H locs _ _ _ rfl dX8_rank_22 hP hD hS
  · have hq := it_f c_5 hq
    refine lv_aload_n hx hb dX8_rank_8 rfl (lv_at hl 0 rfl) ?_
    refine lv_iload_n hx hb dX8_rank_9 rfl (lv_at hl 1 rfl) ?_
    obtain ⟨v_15, hq_14, hk⟩ := bd4_s hq
    obtain ⟨r_10, u_11, u_12, u_13⟩ := v_15
    have hq := hk _ _ _ _ rfl
    refine callIA (gV (rest := []) ⟨hx, hb, hml, hown, hts⟩ hG hP hD 0 8 rfl rfl (mtX8_rankOf l D cI cB cR ad H.size states whyKind whyOrder many wide textLong spot readColumns all past refused work kept chosen across sum one two base quotients text numbers entries before a0 (r_10, u_11, u_12, u_13) hq_14) (cwV 1 hts gX8_rank_X8_rankOf rfl rfl rfl ⟨rfl, hd_X8_rankOf⟩ ⟨Nat.le_of_ble_eq_true rfl, Nat.le_of_ble_eq_true rfl⟩) rfl hl.1 rfl (Nat.le_of_ble_eq_true rfl) dX8_rank_10) hD hS hA (fun H locs hP hD hS => ?_)
    have hP : va_P D cls9 (wM cI ad states whyKind whyOrder u_11 u_12 textLong spot readColumns all past refused u_13 kept chosen across sum one two base quotients text numbers entries before) H := hP
    have hD : va_D A (wM cI ad states whyKind whyOrder u_11 u_12 textLong spot readColumns all past refused u_13 kept chosen across sum one two base quotients text numbers entries before) := hD
    refine lv_goto (tgt := 22) hx hb dX8_rank_13 (by decide) ?_
    have he := Option.some.inj hq
    subst he
    exact hE H locs _ _ _ rfl dX8_rank_22 hP hD hS
