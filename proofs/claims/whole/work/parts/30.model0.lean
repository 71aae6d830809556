abbrev rm_X8_in : Room := { frames := 0, cells := 0, slots := 0, locals := 0 }
set_option maxHeartbeats 4000000 in
set_option maxRecDepth 100000 in
theorem mtX8_in (l : Launch) (D : va_G) (cI cB cR : ClassId) (sz : Nat) (a0 : Int64) (a1 : Int64) (a2 : Int64) (res : Int32) (hf : fX8_in a0 a1 a2 = res) : Met l yX8_in wsX8_in rm_X8_in (qP D cI cB cR [.long a0, .long a1, .long a2] ([] : va_W) sz) (qZ D res ([] : va_W) ([] : va_W) sz) 0 0 (va_A ([] : va_W) sz) := by
  refine entZ (plainFor_of_name (by decide)) rfl (Nat.le_of_ble_eq_true rfl) ?_
  intro p e s m args below meth c Q A ls S hG hP hD hA hl hE
  obtain ⟨hx, hb, hml, hown, hts⟩ := S
  have hown : s.vm.findClass RX8 = some m.cls := hown
  have hS : va_S A s.heap s.heap [] := va_S.rf
  have hl : lv_has ls 6 [(0, .long a0), (2, .long a1), (4, .long a2)] := hl
  have hq := hf
  unfold fX8_in at hq
  obtain ⟨H, hH⟩ : ∃ H, H = s.heap := ⟨_, rfl⟩
  obtain ⟨locs, hlo⟩ : ∃ L : List Loc, L = [] := ⟨_, rfl⟩
  have hP : va_P D cls9 ([] : va_W) H := hH ▸ hP
  have hS : va_S A s.heap H locs := by rw [hH, hlo]; exact hS
  suffices hg : W p l e rm_X8_in s m args below meth c H locs 0 0 Q (F0 m 0 ls []) by rw [hH, hlo] at hg; exact hg
  refine lv_lload_n hx hb dX8_in_0 rfl (lv_at hl 0 rfl) ?_
  refine lv_lload_n hx hb dX8_in_1 rfl (lv_at hl 1 rfl) ?_
  refine W.lcmp hx hb dX8_in_2 ?_
  refine lv_if_lt (tgt := 17) hx hb dX8_in_3 (by decide) (fun c_1 => ?_) (fun c_1 => ?_)
  · have hq := it_t c_1 hq
    refine lv_iconst (v := 0) hx hb dX8_in_17 (by decide) ?_
    have he := hq
    subst he
    exact hE H locs _ _ _ rfl (Or.inl rfl) dX8_in_18 hP hD hS
  · have hq := it_f c_1 hq
    refine lv_lload_n hx hb dX8_in_6 rfl (lv_at hl 0 rfl) ?_
    refine lv_lload hx hb dX8_in_7 (lv_at hl 2 rfl) ?_
    refine W.lcmp hx hb dX8_in_9 ?_
    refine lv_if_gt (tgt := 17) hx hb dX8_in_10 (by decide) (fun c_2 => ?_) (fun c_2 => ?_)
    · have hq := it_t c_2 hq
      refine lv_iconst (v := 0) hx hb dX8_in_17 (by decide) ?_
      have he := hq
      subst he
      exact hE H locs _ _ _ rfl (Or.inl rfl) dX8_in_18 hP hD hS
    · have hq := it_f c_2 hq
      refine lv_iconst (v := 1) hx hb dX8_in_13 (by decide) ?_
      refine lv_goto (tgt := 18) hx hb dX8_in_14 (by decide) ?_
      have he := hq
      subst he
      exact hE H locs _ _ _ rfl (Or.inr rfl) dX8_in_18 hP hD hS
abbrev rm_X8_refuses : Room := { frames := 0, cells := 0, slots := 0, locals := 0 }
theorem iX8_refuses_X8 : ∀ w ∈ wsX80, w ∈ wsX8_refuses := fun _ h => (List.mem_cons_of_mem _ (List.mem_append_right _ h))
theorem fX8_refuses_1 : Cond.fieldLink RX8 16 "PopovRowsModel" "refused" "[I" ∈ wsX8_refuses := (List.mem_cons_of_mem _ (List.mem_append_left _ (List.mem_of_getElem? (i := 0) rfl)))
set_option maxHeartbeats 4000000 in
set_option maxRecDepth 100000 in
theorem mtX8_refuses (l : Launch) (D : va_G) (cI cB cR : ClassId) (ad : Nat → Nat) (sz : Nat) (states : Int32) (whyKind : Int32) (whyOrder : Int32) (many : Int32) (wide : Int32) (textLong : Int32) (spot : Int32) (readColumns : Int32) (all : Nat → Int32) (past : Nat → Int32) (refused : Nat → Int32) (work : Nat → Int32) (kept : Nat → Int32) (chosen : Nat → Int32) (across : Nat → Int32) (sum : Nat → Int32) (one : Nat → Int32) (two : Nat → Int32) (base : Nat → Int32) (quotients : Nat → Int32) (text : Nat → Int32) (numbers : Nat → Int32) (entries : Nat → Int32) (before : Nat → Int32) (a0 : Int32) (res : Int32 × (Nat → Int32)) (hf : fX8_refuses refused a0 = some res) : Met l yX8_refuses wsX8_refuses rm_X8_refuses (qP D cI cB cR [.ref (ad 0), .int a0] (wM cI ad states whyKind whyOrder many wide textLong spot readColumns all past refused work kept chosen across sum one two base quotients text numbers entries before) sz) (qI D res.1 (wM cI ad states whyKind whyOrder many wide textLong spot readColumns all past refused work kept chosen across sum one two base quotients text numbers entries before) (wM cI ad states whyKind whyOrder many wide textLong spot readColumns all past res.2 work kept chosen across sum one two base quotients text numbers entries before) sz) 0 0 (va_A (wM cI ad states whyKind whyOrder many wide textLong spot readColumns all past refused work kept chosen across sum one two base quotients text numbers entries before) sz) := by
  refine entI (plainFor_of_name (by decide)) rfl (Nat.le_of_ble_eq_true rfl) ?_
  intro p e s m args below meth c Q A ls S hG hP hD hA hl hE
  obtain ⟨hx, hb, hml, hown, hts⟩ := S
  have hown : s.vm.findClass RX8 = some m.cls := hown
  have hS : va_S A s.heap s.heap [] := va_S.rf
  have hl : lv_has ls 2 [(0, .ref (ad 0)), (1, .int a0)] := hl
  have hq := hf
  unfold fX8_refuses at hq
  obtain ⟨H, hH⟩ : ∃ H, H = s.heap := ⟨_, rfl⟩
  obtain ⟨locs, hlo⟩ : ∃ L : List Loc, L = [] := ⟨_, rfl⟩
  have hP : va_P D cls9 (wM cI ad states whyKind whyOrder many wide textLong spot readColumns all past refused work kept chosen across sum one two base quotients text numbers entries before) H := hH ▸ hP
  have hS : va_S A s.heap H locs := by rw [hH, hlo]; exact hS
  suffices hg : W p l e rm_X8_refuses s m args below meth c H locs 0 0 Q (F0 m 0 ls []) by rw [hH, hlo] at hg; exact hg
  refine lv_aload_n hx hb dX8_refuses_0 rfl (lv_at hl 0 rfl) ?_
  refine va_get (D := D) (ci := 8) (v := .ref (ad 3)) (C := RX8) (T := TX8) (N := 24) hx hb hts iX8_refuses_X8 hown hG.1 hP 0 rfl rfl 3 (by decide) (hts _ fX8_refuses_1) (fun _ h9 => h9) rfl dX8_refuses_1 ?_
  refine lv_bipush (v := -2) hx hb dX8_refuses_4 (by decide) ?_
  refine lv_iload_n hx hb dX8_refuses_6 rfl (lv_at hl 1 rfl) ?_
  refine lv_isub hx hb dX8_refuses_7 ?_
  refine lv_dup2_11 hx hb dX8_refuses_8 rfl rfl ?_
  obtain ⟨h_1, hq⟩ := gd_s hq
  refine va_iald hx hb hG.1 hP 3 0 rfl rfl h_1 dX8_refuses_9 ?_
  refine lv_iconst (v := 1) hx hb dX8_refuses_10 (by decide) ?_
  refine lv_iadd hx hb dX8_refuses_11 ?_
  obtain ⟨h_2, hq⟩ := gd_s hq
  refine va_iast hx hb hG.1 hP hD hS 3 0 rfl rfl h_2 dX8_refuses_12 (fun H locs hP hD hS => ?_)
  have hP : va_P D cls9 (wM cI ad states whyKind whyOrder many wide textLong spot readColumns all past (upd refused ((-2 : Int32) - a0).toNatClampNeg ((refused ((-2 : Int32) - a0).toNatClampNeg) + (1 : Int32))) work kept chosen across sum one two base quotients text numbers entries before) H := hP
  have hD : va_D A (wM cI ad states whyKind whyOrder many wide textLong spot readColumns all past (upd refused ((-2 : Int32) - a0).toNatClampNeg ((refused ((-2 : Int32) - a0).toNatClampNeg) + (1 : Int32))) work kept chosen across sum one two base quotients text numbers entries before) := hD
  refine lv_iload_n hx hb dX8_refuses_13 rfl (lv_at hl 1 rfl) ?_
  have he := Option.some.inj hq
  subst he
  exact hE H locs _ _ _ rfl dX8_refuses_14 hP hD hS
abbrev rm_X8_keep : Room := { frames := 0, cells := 0, slots := 0, locals := 0 }
theorem iX8_keep_X8 : ∀ w ∈ wsX80, w ∈ wsX8_keep := fun _ h => (List.mem_cons_of_mem _ (List.mem_append_right _ h))
theorem fX8_keep_1 : Cond.fieldLink RX8 62 "PopovRowsModel" "states" "I" ∈ wsX8_keep := (List.mem_cons_of_mem _ (List.mem_append_left _ (List.mem_of_getElem? (i := 0) rfl)))
theorem fX8_keep_2 : Cond.fieldLink RX8 13 "PopovRowsModel" "past" "[I" ∈ wsX8_keep := (List.mem_cons_of_mem _ (List.mem_append_left _ (List.mem_of_getElem? (i := 1) rfl)))
theorem fX8_keep_3 : Cond.fieldLink RX8 7 "PopovRowsModel" "all" "[I" ∈ wsX8_keep := (List.mem_cons_of_mem _ (List.mem_append_left _ (List.mem_of_getElem? (i := 2) rfl)))
set_option maxHeartbeats 4000000 in
set_option maxRecDepth 100000 in
theorem mtX8_keep (l : Launch) (D : va_G) (cI cB cR : ClassId) (ad : Nat → Nat) (sz : Nat) (states : Int32) (whyKind : Int32) (whyOrder : Int32) (many : Int32) (wide : Int32) (textLong : Int32) (spot : Int32) (readColumns : Int32) (all : Nat → Int32) (past : Nat → Int32) (refused : Nat → Int32) (work : Nat → Int32) (kept : Nat → Int32) (chosen : Nat → Int32) (across : Nat → Int32) (sum : Nat → Int32) (one : Nat → Int32) (two : Nat → Int32) (base : Nat → Int32) (quotients : Nat → Int32) (text : Nat → Int32) (numbers : Nat → Int32) (entries : Nat → Int32) (before : Nat → Int32) (res : Int32 × (Nat → Int32)) (hf : fX8_keep states all past = some res) : Met l yX8_keep wsX8_keep rm_X8_keep (qP D cI cB cR [.ref (ad 0)] (wM cI ad states whyKind whyOrder many wide textLong spot readColumns all past refused work kept chosen across sum one two base quotients text numbers entries before) sz) (qV D (wM cI ad states whyKind whyOrder many wide textLong spot readColumns all past refused work kept chosen across sum one two base quotients text numbers entries before) (wM cI ad res.1 whyKind whyOrder many wide textLong spot readColumns all res.2 refused work kept chosen across sum one two base quotients text numbers entries before) sz) 0 0 (va_A (wM cI ad states whyKind whyOrder many wide textLong spot readColumns all past refused work kept chosen across sum one two base quotients text numbers entries before) sz) := by
  refine entV (plainFor_of_name (by decide)) rfl (Nat.le_of_ble_eq_true rfl) ?_
  intro p e s m args below meth c Q A ls S hG hP hD hA hl hE
  obtain ⟨hx, hb, hml, hown, hts⟩ := S
  have hown : s.vm.findClass RX8 = some m.cls := hown
  have hS : va_S A s.heap s.heap [] := va_S.rf
  have hl : lv_has ls 2 [(0, .ref (ad 0))] := hl
  have hq := hf
  unfold fX8_keep at hq
  obtain ⟨H, hH⟩ : ∃ H, H = s.heap := ⟨_, rfl⟩
  obtain ⟨locs, hlo⟩ : ∃ L : List Loc, L = [] := ⟨_, rfl⟩
  have hP : va_P D cls9 (wM cI ad states whyKind whyOrder many wide textLong spot readColumns all past refused work kept chosen across sum one two base quotients text numbers entries before) H := hH ▸ hP
  have hS : va_S A s.heap H locs := by rw [hH, hlo]; exact hS
  suffices hg : W p l e rm_X8_keep s m args below meth c H locs 0 0 Q (F0 m 0 ls []) by rw [hH, hlo] at hg; exact hg
  refine lv_aload_n hx hb dX8_keep_0 rfl (lv_at hl 0 rfl) ?_
  refine va_get (D := D) (ci := 8) (v := .int states) (C := RX8) (T := TX8) (N := 24) hx hb hts iX8_keep_X8 hown hG.1 hP 0 rfl rfl 2 (by decide) (hts _ fX8_keep_1) (fun _ h9 => h9) rfl dX8_keep_1 ?_
  refine lv_iconst (v := 5) hx hb dX8_keep_4 (by decide) ?_
  obtain ⟨v1, hj1, hk1⟩ := bd2_s hq
  have hJ1 : ∀ (j_8 : Nat → Int32) (j_9 : Int32), v1 = (j_8, j_9) → ∀ (H : Heap) (locs : List Loc), va_P D cls9 (wM cI ad j_9 whyKind whyOrder many wide textLong spot readColumns all j_8 refused work kept chosen across sum one two base quotients text numbers entries before) H → va_D A (wM cI ad j_9 whyKind whyOrder many wide textLong spot readColumns all j_8 refused work kept chosen across sum one two base quotients text numbers entries before) → va_S A s.heap H locs → ∀ (ls : Array Slot), lv_has ls 2 [(0, .ref (ad 0))] → W p l e rm_X8_keep s m args below meth c H locs 0 0 Q (F0 m 48 ls []) := by
    intro j_8 j_9 hq H locs hP hD hS ls hl
    have hq := hk1 _ _ hq
    refine lv_iconst (v := 0) hx hb dX8_keep_48 (by decide) ?_
    refine lv_istore_n (lv' := [(1, .int (0 : Int32)), (0, .ref (ad 0))]) hx hb dX8_keep_49 rfl hl (by decide) rfl (fun ls hl => ?_)
    obtain ⟨w3, hw3, hk3⟩ := bd1_s hq
    have hX3 : ∀ (x_15 : Nat → Int32), w3 = x_15 → ∀ (H : Heap) (locs : List Loc), va_P D cls9 (wM cI ad j_9 whyKind whyOrder many wide textLong spot readColumns all x_15 refused work kept chosen across sum one two base quotients text numbers entries before) H → va_D A (wM cI ad j_9 whyKind whyOrder many wide textLong spot readColumns all x_15 refused work kept chosen across sum one two base quotients text numbers entries before) → va_S A s.heap H locs → ∀ (ls : Array Slot), lv_has ls 2 [(0, .ref (ad 0))] → W p l e rm_X8_keep s m args below meth c H locs 0 0 Q (F0 m 82 ls []) := by
      intro x_15 hq H locs hP hD hS ls hl
      have hq := hk3 _ hq
      refine lv_aload_n hx hb dX8_keep_82 rfl (lv_at hl 0 rfl) ?_
      refine lv_dup hx hb dX8_keep_83 rfl ?_
      refine va_get (D := D) (ci := 8) (v := .int j_9) (C := RX8) (T := TX8) (N := 24) hx hb hts iX8_keep_X8 hown hG.1 hP 0 rfl rfl 2 (by decide) (hts _ fX8_keep_1) (fun _ h9 => h9) rfl dX8_keep_84 ?_
      refine lv_iconst (v := 1) hx hb dX8_keep_87 (by decide) ?_
      refine lv_iadd hx hb dX8_keep_88 ?_
      refine va_put (D := D) (ci := 8) (v := .int (j_9 + (1 : Int32))) (ty := .int) (C := RX8) (T := TX8) (N := 24) hx hb hts iX8_keep_X8 tyX8 tyX8_ok nmX8 hown hG.1 hP hD hS 0 rfl rfl 2 (by decide) (hts _ fX8_keep_1) (fun _ h9 => h9) rfl (by decide +kernel) rfl rfl (Nat.le_of_ble_eq_true rfl) dX8_keep_89 (fun H locs hP hD hS => ?_)
      have hP : va_P D cls9 (wM cI ad (j_9 + (1 : Int32)) whyKind whyOrder many wide textLong spot readColumns all x_15 refused work kept chosen across sum one two base quotients text numbers entries before) H := hP
      have hD : va_D A (wM cI ad (j_9 + (1 : Int32)) whyKind whyOrder many wide textLong spot readColumns all x_15 refused work kept chosen across sum one two base quotients text numbers entries before) := hD
      have he := Option.some.inj hq
      subst he
      exact hE H locs _ _ dX8_keep_92 hP hD hS
    have hL3 : ∀ (n : Nat) (i_10 : Int32) (i_11 : Nat → Int32), lrun (fun (z : Int32 × (Nat → Int32)) => fX8_keep_s50 all j_9 z.1 z.2) n (i_10, i_11) = some w3 → ∀ (H : Heap) (locs : List Loc), va_P D cls9 (wM cI ad j_9 whyKind whyOrder many wide textLong spot readColumns all i_11 refused work kept chosen across sum one two base quotients text numbers entries before) H → va_D A (wM cI ad j_9 whyKind whyOrder many wide textLong spot readColumns all i_11 refused work kept chosen across sum one two base quotients text numbers entries before) → va_S A s.heap H locs → ∀ (ls : Array Slot), lv_has ls 2 [(0, .ref (ad 0)), (1, .int i_10)] → W p l e rm_X8_keep s m args below meth c H locs 0 0 Q (F0 m 50 ls []) := by
      intro n
      induction n with
      | zero => intro i_10 i_11 h; cases h
      | succ n ih3 =>
        intro i_10 i_11 hr3 H locs hP hD hS ls hl
        obtain ⟨k, v3, hk, hr3, ht3, hv3⟩ := lrun_s hr3
        cases hk
        have hr3 : fX8_keep_s50 all j_9 i_10 i_11 = some v3 := hr3
        unfold fX8_keep_s50 at hr3
        refine lv_iload_n hx hb dX8_keep_50 rfl (lv_at hl 1 rfl) ?_
        refine lv_bipush (v := 108) hx hb dX8_keep_51 (by decide) ?_
        refine lv_icmp_ge (tgt := 82) hx hb dX8_keep_53 (by decide) (fun c_12 => ?_) (fun c_12 => ?_)
        · have hr3 := it_t c_12 hr3
          exact hX3 i_11 (hv3 _ (Option.some.inj hr3).symm).symm H locs hP hD hS ls (lv_sub hl [0] rfl)
        · have hr3 := it_f c_12 hr3
          refine lv_aload_n hx hb dX8_keep_56 rfl (lv_at hl 0 rfl) ?_
          refine va_get (D := D) (ci := 8) (v := .ref (ad 2)) (C := RX8) (T := TX8) (N := 24) hx hb hts iX8_keep_X8 hown hG.1 hP 0 rfl rfl 1 (by decide) (hts _ fX8_keep_2) (fun _ h9 => h9) rfl dX8_keep_57 ?_
          refine lv_bipush (v := 108) hx hb dX8_keep_60 (by decide) ?_
          refine lv_aload_n hx hb dX8_keep_62 rfl (lv_at hl 0 rfl) ?_
          refine va_get (D := D) (ci := 8) (v := .int j_9) (C := RX8) (T := TX8) (N := 24) hx hb hts iX8_keep_X8 hown hG.1 hP 0 rfl rfl 2 (by decide) (hts _ fX8_keep_1) (fun _ h9 => h9) rfl dX8_keep_63 ?_
          refine lv_imul hx hb dX8_keep_66 ?_
          refine lv_iload_n hx hb dX8_keep_67 rfl (lv_at hl 1 rfl) ?_
          refine lv_iadd hx hb dX8_keep_68 ?_
          refine lv_aload_n hx hb dX8_keep_69 rfl (lv_at hl 0 rfl) ?_
          refine va_get (D := D) (ci := 8) (v := .ref (ad 1)) (C := RX8) (T := TX8) (N := 24) hx hb hts iX8_keep_X8 hown hG.1 hP 0 rfl rfl 0 (by decide) (hts _ fX8_keep_3) (fun _ h9 => h9) rfl dX8_keep_70 ?_
          refine lv_iload_n hx hb dX8_keep_73 rfl (lv_at hl 1 rfl) ?_
          obtain ⟨h_13, hr3⟩ := gd_s hr3
          refine va_iald hx hb hG.1 hP 1 0 rfl rfl h_13 dX8_keep_74 ?_
          obtain ⟨h_14, hr3⟩ := gd_s hr3
          refine va_iast hx hb hG.1 hP hD hS 2 0 rfl rfl h_14 dX8_keep_75 (fun H locs hP hD hS => ?_)
          have hP : va_P D cls9 (wM cI ad j_9 whyKind whyOrder many wide textLong spot readColumns all (upd i_11 (((108 : Int32) * j_9) + i_10).toNatClampNeg (all i_10.toNatClampNeg)) refused work kept chosen across sum one two base quotients text numbers entries before) H := hP
          have hD : va_D A (wM cI ad j_9 whyKind whyOrder many wide textLong spot readColumns all (upd i_11 (((108 : Int32) * j_9) + i_10).toNatClampNeg (all i_10.toNatClampNeg)) refused work kept chosen across sum one two base quotients text numbers entries before) := hD
          refine lv_iinc (v := (i_10 + 1)) (lv' := [(1, .int (i_10 + 1)), (0, .ref (ad 0))]) hx hb dX8_keep_76 hl (k := 1) rfl rfl (by decide) rfl (fun ls hl => ?_)
          refine lv_goto (tgt := 50) hx hb dX8_keep_79 (by decide) ?_
          exact ih3 (i_10 + 1) (upd i_11 (((108 : Int32) * j_9) + i_10).toNatClampNeg (all i_10.toNatClampNeg)) (ht3 _ (Option.some.inj hr3).symm) H locs hP hD hS ls (lv_sub hl [1, 0] rfl)
    obtain ⟨n3, hn3⟩ := Lp_s hw3
    exact hL3 n3 (0 : Int32) j_8 hn3 H locs hP hD hS ls (lv_sub hl [1, 0] rfl)
  refine lv_icmp_ne (tgt := 48) hx hb dX8_keep_5 (by decide) (fun c_1 => ?_) (fun c_1 => ?_)
  · have hj1 := it_f c_1 hj1
    exact hJ1 past states (Option.some.inj hj1).symm  H locs hP hD hS ls (lv_sub hl [0] rfl)
  · have hj1 := it_t c_1 hj1
    refine lv_iconst (v := 0) hx hb dX8_keep_8 (by decide) ?_
    refine lv_istore_n (lv' := [(1, .int (0 : Int32)), (0, .ref (ad 0))]) hx hb dX8_keep_9 rfl hl (by decide) rfl (fun ls hl => ?_)
    obtain ⟨w2, hw2, hk2⟩ := bd1_s hj1
    have hX2 : ∀ (x_7 : Nat → Int32), w2 = x_7 → ∀ (H : Heap) (locs : List Loc), va_P D cls9 (wM cI ad states whyKind whyOrder many wide textLong spot readColumns all x_7 refused work kept chosen across sum one two base quotients text numbers entries before) H → va_D A (wM cI ad states whyKind whyOrder many wide textLong spot readColumns all x_7 refused work kept chosen across sum one two base quotients text numbers entries before) → va_S A s.heap H locs → ∀ (ls : Array Slot), lv_has ls 2 [(0, .ref (ad 0))] → W p l e rm_X8_keep s m args below meth c H locs 0 0 Q (F0 m 38 ls []) := by
      intro x_7 hq H locs hP hD hS ls hl
      have hj1 := hk2 _ hq
      refine lv_aload_n hx hb dX8_keep_38 rfl (lv_at hl 0 rfl) ?_
      refine lv_dup hx hb dX8_keep_39 rfl ?_
      refine va_get (D := D) (ci := 8) (v := .int states) (C := RX8) (T := TX8) (N := 24) hx hb hts iX8_keep_X8 hown hG.1 hP 0 rfl rfl 2 (by decide) (hts _ fX8_keep_1) (fun _ h9 => h9) rfl dX8_keep_40 ?_
      refine lv_iconst (v := 1) hx hb dX8_keep_43 (by decide) ?_
      refine lv_isub hx hb dX8_keep_44 ?_
      refine va_put (D := D) (ci := 8) (v := .int (states - (1 : Int32))) (ty := .int) (C := RX8) (T := TX8) (N := 24) hx hb hts iX8_keep_X8 tyX8 tyX8_ok nmX8 hown hG.1 hP hD hS 0 rfl rfl 2 (by decide) (hts _ fX8_keep_1) (fun _ h9 => h9) rfl (by decide +kernel) rfl rfl (Nat.le_of_ble_eq_true rfl) dX8_keep_45 (fun H locs hP hD hS => ?_)
      have hP : va_P D cls9 (wM cI ad (states - (1 : Int32)) whyKind whyOrder many wide textLong spot readColumns all x_7 refused work kept chosen across sum one two base quotients text numbers entries before) H := hP
      have hD : va_D A (wM cI ad (states - (1 : Int32)) whyKind whyOrder many wide textLong spot readColumns all x_7 refused work kept chosen across sum one two base quotients text numbers entries before) := hD
      exact hJ1 x_7 (states - (1 : Int32)) (Option.some.inj hj1).symm  H locs hP hD hS ls (lv_sub hl [0] rfl)
    have hL2 : ∀ (n : Nat) (i_2 : Int32) (i_3 : Nat → Int32), lrun (fun (z : Int32 × (Nat → Int32)) => fX8_keep_s10 z.1 z.2) n (i_2, i_3) = some w2 → ∀ (H : Heap) (locs : List Loc), va_P D cls9 (wM cI ad states whyKind whyOrder many wide textLong spot readColumns all i_3 refused work kept chosen across sum one two base quotients text numbers entries before) H → va_D A (wM cI ad states whyKind whyOrder many wide textLong spot readColumns all i_3 refused work kept chosen across sum one two base quotients text numbers entries before) → va_S A s.heap H locs → ∀ (ls : Array Slot), lv_has ls 2 [(0, .ref (ad 0)), (1, .int i_2)] → W p l e rm_X8_keep s m args below meth c H locs 0 0 Q (F0 m 10 ls []) := by
      intro n
      induction n with
      | zero => intro i_2 i_3 h; cases h
      | succ n ih2 =>
        intro i_2 i_3 hr2 H locs hP hD hS ls hl
        obtain ⟨k, v2, hk, hr2, ht2, hv2⟩ := lrun_s hr2
        cases hk
        have hr2 : fX8_keep_s10 i_2 i_3 = some v2 := hr2
        unfold fX8_keep_s10 at hr2
        refine lv_iload_n hx hb dX8_keep_10 rfl (lv_at hl 1 rfl) ?_
        refine lv_sipush (v := 432) hx hb dX8_keep_11 (by decide) ?_
        refine lv_icmp_ge (tgt := 38) hx hb dX8_keep_14 (by decide) (fun c_4 => ?_) (fun c_4 => ?_)
        · have hr2 := it_t c_4 hr2
          exact hX2 i_3 (hv2 _ (Option.some.inj hr2).symm).symm H locs hP hD hS ls (lv_sub hl [0] rfl)
        · have hr2 := it_f c_4 hr2
          refine lv_aload_n hx hb dX8_keep_17 rfl (lv_at hl 0 rfl) ?_
          refine va_get (D := D) (ci := 8) (v := .ref (ad 2)) (C := RX8) (T := TX8) (N := 24) hx hb hts iX8_keep_X8 hown hG.1 hP 0 rfl rfl 1 (by decide) (hts _ fX8_keep_2) (fun _ h9 => h9) rfl dX8_keep_18 ?_
          refine lv_iload_n hx hb dX8_keep_21 rfl (lv_at hl 1 rfl) ?_
          refine lv_aload_n hx hb dX8_keep_22 rfl (lv_at hl 0 rfl) ?_
          refine va_get (D := D) (ci := 8) (v := .ref (ad 2)) (C := RX8) (T := TX8) (N := 24) hx hb hts iX8_keep_X8 hown hG.1 hP 0 rfl rfl 1 (by decide) (hts _ fX8_keep_2) (fun _ h9 => h9) rfl dX8_keep_23 ?_
          refine lv_iload_n hx hb dX8_keep_26 rfl (lv_at hl 1 rfl) ?_
          refine lv_bipush (v := 108) hx hb dX8_keep_27 (by decide) ?_
          refine lv_iadd hx hb dX8_keep_29 ?_
          obtain ⟨h_5, hr2⟩ := gd_s hr2
          refine va_iald hx hb hG.1 hP 2 0 rfl rfl h_5 dX8_keep_30 ?_
          obtain ⟨h_6, hr2⟩ := gd_s hr2
          refine va_iast hx hb hG.1 hP hD hS 2 0 rfl rfl h_6 dX8_keep_31 (fun H locs hP hD hS => ?_)
          have hP : va_P D cls9 (wM cI ad states whyKind whyOrder many wide textLong spot readColumns all (upd i_3 i_2.toNatClampNeg (i_3 (i_2 + (108 : Int32)).toNatClampNeg)) refused work kept chosen across sum one two base quotients text numbers entries before) H := hP
          have hD : va_D A (wM cI ad states whyKind whyOrder many wide textLong spot readColumns all (upd i_3 i_2.toNatClampNeg (i_3 (i_2 + (108 : Int32)).toNatClampNeg)) refused work kept chosen across sum one two base quotients text numbers entries before) := hD
          refine lv_iinc (v := (i_2 + 1)) (lv' := [(1, .int (i_2 + 1)), (0, .ref (ad 0))]) hx hb dX8_keep_32 hl (k := 1) rfl rfl (by decide) rfl (fun ls hl => ?_)
          refine lv_goto (tgt := 10) hx hb dX8_keep_35 (by decide) ?_
          exact ih2 (i_2 + 1) (upd i_3 i_2.toNatClampNeg (i_3 (i_2 + (108 : Int32)).toNatClampNeg)) (ht2 _ (Option.some.inj hr2).symm) H locs hP hD hS ls (lv_sub hl [1, 0] rfl)
    obtain ⟨n2, hn2⟩ := Lp_s hw2
    exact hL2 n2 (0 : Int32) past hn2 H locs hP hD hS ls (lv_sub hl [1, 0] rfl)
abbrev rm_X8_modulus : Room := { frames := 0, cells := 0, slots := 0, locals := 0 }
theorem iX8_modulus_X8 : ∀ w ∈ wsX80, w ∈ wsX8_modulus := fun _ h => (List.mem_cons_of_mem _ (List.mem_append_right _ h))
theorem fX8_modulus_1 : Cond.fieldLink RX8 7 "PopovRowsModel" "all" "[I" ∈ wsX8_modulus := (List.mem_cons_of_mem _ (List.mem_append_left _ (List.mem_of_getElem? (i := 0) rfl)))
set_option maxHeartbeats 4000000 in
set_option maxRecDepth 100000 in
theorem mtX8_modulus (l : Launch) (D : va_G) (cI cB cR : ClassId) (ad : Nat → Nat) (sz : Nat) (states : Int32) (whyKind : Int32) (whyOrder : Int32) (many : Int32) (wide : Int32) (textLong : Int32) (spot : Int32) (readColumns : Int32) (all : Nat → Int32) (past : Nat → Int32) (refused : Nat → Int32) (work : Nat → Int32) (kept : Nat → Int32) (chosen : Nat → Int32) (across : Nat → Int32) (sum : Nat → Int32) (one : Nat → Int32) (two : Nat → Int32) (base : Nat → Int32) (quotients : Nat → Int32) (text : Nat → Int32) (numbers : Nat → Int32) (entries : Nat → Int32) (before : Nat → Int32) (res : Int32) (hf : fX8_modulus all = some res) : Met l yX8_modulus wsX8_modulus rm_X8_modulus (qP D cI cB cR [.ref (ad 0)] (wM cI ad states whyKind whyOrder many wide textLong spot readColumns all past refused work kept chosen across sum one two base quotients text numbers entries before) sz) (qI D res (wM cI ad states whyKind whyOrder many wide textLong spot readColumns all past refused work kept chosen across sum one two base quotients text numbers entries before) (wM cI ad states whyKind whyOrder many wide textLong spot readColumns all past refused work kept chosen across sum one two base quotients text numbers entries before) sz) 0 0 (va_A (wM cI ad states whyKind whyOrder many wide textLong spot readColumns all past refused work kept chosen across sum one two base quotients text numbers entries before) sz) := by
  refine entI (plainFor_of_name (by decide)) rfl (Nat.le_of_ble_eq_true rfl) ?_
  intro p e s m args below meth c Q A ls S hG hP hD hA hl hE
  obtain ⟨hx, hb, hml, hown, hts⟩ := S
  have hown : s.vm.findClass RX8 = some m.cls := hown
  have hS : va_S A s.heap s.heap [] := va_S.rf
  have hl : lv_has ls 1 [(0, .ref (ad 0))] := hl
  have hq := hf
  unfold fX8_modulus at hq
  obtain ⟨H, hH⟩ : ∃ H, H = s.heap := ⟨_, rfl⟩
  obtain ⟨locs, hlo⟩ : ∃ L : List Loc, L = [] := ⟨_, rfl⟩
  have hP : va_P D cls9 (wM cI ad states whyKind whyOrder many wide textLong spot readColumns all past refused work kept chosen across sum one two base quotients text numbers entries before) H := hH ▸ hP
  have hS : va_S A s.heap H locs := by rw [hH, hlo]; exact hS
  suffices hg : W p l e rm_X8_modulus s m args below meth c H locs 0 0 Q (F0 m 0 ls []) by rw [hH, hlo] at hg; exact hg
  refine lv_aload_n hx hb dX8_modulus_0 rfl (lv_at hl 0 rfl) ?_
  refine va_get (D := D) (ci := 8) (v := .ref (ad 1)) (C := RX8) (T := TX8) (N := 24) hx hb hts iX8_modulus_X8 hown hG.1 hP 0 rfl rfl 0 (by decide) (hts _ fX8_modulus_1) (fun _ h9 => h9) rfl dX8_modulus_1 ?_
  refine lv_iconst (v := 0) hx hb dX8_modulus_4 (by decide) ?_
  obtain ⟨h_1, hq⟩ := gd_s hq
  refine va_iald hx hb hG.1 hP 1 0 rfl rfl h_1 dX8_modulus_5 ?_
  have he := Option.some.inj hq
  subst he
  exact hE H locs _ _ _ rfl dX8_modulus_6 hP hD hS
abbrev rm_X8_width : Room := { frames := 0, cells := 0, slots := 0, locals := 0 }
theorem iX8_width_X8 : ∀ w ∈ wsX80, w ∈ wsX8_width := fun _ h => (List.mem_cons_of_mem _ (List.mem_append_right _ h))
theorem fX8_width_1 : Cond.fieldLink RX8 7 "PopovRowsModel" "all" "[I" ∈ wsX8_width := (List.mem_cons_of_mem _ (List.mem_append_left _ (List.mem_of_getElem? (i := 0) rfl)))
set_option maxHeartbeats 4000000 in
set_option maxRecDepth 100000 in
theorem mtX8_width (l : Launch) (D : va_G) (cI cB cR : ClassId) (ad : Nat → Nat) (sz : Nat) (states : Int32) (whyKind : Int32) (whyOrder : Int32) (many : Int32) (wide : Int32) (textLong : Int32) (spot : Int32) (readColumns : Int32) (all : Nat → Int32) (past : Nat → Int32) (refused : Nat → Int32) (work : Nat → Int32) (kept : Nat → Int32) (chosen : Nat → Int32) (across : Nat → Int32) (sum : Nat → Int32) (one : Nat → Int32) (two : Nat → Int32) (base : Nat → Int32) (quotients : Nat → Int32) (text : Nat → Int32) (numbers : Nat → Int32) (entries : Nat → Int32) (before : Nat → Int32) (res : Int32) (hf : fX8_width all = some res) : Met l yX8_width wsX8_width rm_X8_width (qP D cI cB cR [.ref (ad 0)] (wM cI ad states whyKind whyOrder many wide textLong spot readColumns all past refused work kept chosen across sum one two base quotients text numbers entries before) sz) (qI D res (wM cI ad states whyKind whyOrder many wide textLong spot readColumns all past refused work kept chosen across sum one two base quotients text numbers entries before) (wM cI ad states whyKind whyOrder many wide textLong spot readColumns all past refused work kept chosen across sum one two base quotients text numbers entries before) sz) 0 0 (va_A (wM cI ad states whyKind whyOrder many wide textLong spot readColumns all past refused work kept chosen across sum one two base quotients text numbers entries before) sz) := by
  refine entI (plainFor_of_name (by decide)) rfl (Nat.le_of_ble_eq_true rfl) ?_
  intro p e s m args below meth c Q A ls S hG hP hD hA hl hE
  obtain ⟨hx, hb, hml, hown, hts⟩ := S
  have hown : s.vm.findClass RX8 = some m.cls := hown
  have hS : va_S A s.heap s.heap [] := va_S.rf
  have hl : lv_has ls 1 [(0, .ref (ad 0))] := hl
  have hq := hf
  unfold fX8_width at hq
  obtain ⟨H, hH⟩ : ∃ H, H = s.heap := ⟨_, rfl⟩
  obtain ⟨locs, hlo⟩ : ∃ L : List Loc, L = [] := ⟨_, rfl⟩
  have hP : va_P D cls9 (wM cI ad states whyKind whyOrder many wide textLong spot readColumns all past refused work kept chosen across sum one two base quotients text numbers entries before) H := hH ▸ hP
  have hS : va_S A s.heap H locs := by rw [hH, hlo]; exact hS
  suffices hg : W p l e rm_X8_width s m args below meth c H locs 0 0 Q (F0 m 0 ls []) by rw [hH, hlo] at hg; exact hg
  refine lv_aload_n hx hb dX8_width_0 rfl (lv_at hl 0 rfl) ?_
  refine va_get (D := D) (ci := 8) (v := .ref (ad 1)) (C := RX8) (T := TX8) (N := 24) hx hb hts iX8_width_X8 hown hG.1 hP 0 rfl rfl 0 (by decide) (hts _ fX8_width_1) (fun _ h9 => h9) rfl dX8_width_1 ?_
  refine lv_iconst (v := 1) hx hb dX8_width_4 (by decide) ?_
  obtain ⟨h_1, hq⟩ := gd_s hq
  refine va_iald hx hb hG.1 hP 1 0 rfl rfl h_1 dX8_width_5 ?_
  have he := Option.some.inj hq
  subst he
  exact hE H locs _ _ _ rfl dX8_width_6 hP hD hS
abbrev rm_X8_rows : Room := { frames := 0, cells := 0, slots := 0, locals := 0 }
theorem iX8_rows_X8 : ∀ w ∈ wsX80, w ∈ wsX8_rows := fun _ h => (List.mem_cons_of_mem _ (List.mem_append_right _ h))
theorem fX8_rows_1 : Cond.fieldLink RX8 7 "PopovRowsModel" "all" "[I" ∈ wsX8_rows := (List.mem_cons_of_mem _ (List.mem_append_left _ (List.mem_of_getElem? (i := 0) rfl)))
set_option maxHeartbeats 4000000 in
set_option maxRecDepth 100000 in
theorem mtX8_rows (l : Launch) (D : va_G) (cI cB cR : ClassId) (ad : Nat → Nat) (sz : Nat) (states : Int32) (whyKind : Int32) (whyOrder : Int32) (many : Int32) (wide : Int32) (textLong : Int32) (spot : Int32) (readColumns : Int32) (all : Nat → Int32) (past : Nat → Int32) (refused : Nat → Int32) (work : Nat → Int32) (kept : Nat → Int32) (chosen : Nat → Int32) (across : Nat → Int32) (sum : Nat → Int32) (one : Nat → Int32) (two : Nat → Int32) (base : Nat → Int32) (quotients : Nat → Int32) (text : Nat → Int32) (numbers : Nat → Int32) (entries : Nat → Int32) (before : Nat → Int32) (res : Int32) (hf : fX8_rows all = some res) : Met l yX8_rows wsX8_rows rm_X8_rows (qP D cI cB cR [.ref (ad 0)] (wM cI ad states whyKind whyOrder many wide textLong spot readColumns all past refused work kept chosen across sum one two base quotients text numbers entries before) sz) (qI D res (wM cI ad states whyKind whyOrder many wide textLong spot readColumns all past refused work kept chosen across sum one two base quotients text numbers entries before) (wM cI ad states whyKind whyOrder many wide textLong spot readColumns all past refused work kept chosen across sum one two base quotients text numbers entries before) sz) 0 0 (va_A (wM cI ad states whyKind whyOrder many wide textLong spot readColumns all past refused work kept chosen across sum one two base quotients text numbers entries before) sz) := by
  refine entI (plainFor_of_name (by decide)) rfl (Nat.le_of_ble_eq_true rfl) ?_
  intro p e s m args below meth c Q A ls S hG hP hD hA hl hE
  obtain ⟨hx, hb, hml, hown, hts⟩ := S
  have hown : s.vm.findClass RX8 = some m.cls := hown
  have hS : va_S A s.heap s.heap [] := va_S.rf
  have hl : lv_has ls 1 [(0, .ref (ad 0))] := hl
  have hq := hf
  unfold fX8_rows at hq
  obtain ⟨H, hH⟩ : ∃ H, H = s.heap := ⟨_, rfl⟩
  obtain ⟨locs, hlo⟩ : ∃ L : List Loc, L = [] := ⟨_, rfl⟩
  have hP : va_P D cls9 (wM cI ad states whyKind whyOrder many wide textLong spot readColumns all past refused work kept chosen across sum one two base quotients text numbers entries before) H := hH ▸ hP
  have hS : va_S A s.heap H locs := by rw [hH, hlo]; exact hS
  suffices hg : W p l e rm_X8_rows s m args below meth c H locs 0 0 Q (F0 m 0 ls []) by rw [hH, hlo] at hg; exact hg
  refine lv_aload_n hx hb dX8_rows_0 rfl (lv_at hl 0 rfl) ?_
  refine va_get (D := D) (ci := 8) (v := .ref (ad 1)) (C := RX8) (T := TX8) (N := 24) hx hb hts iX8_rows_X8 hown hG.1 hP 0 rfl rfl 0 (by decide) (hts _ fX8_rows_1) (fun _ h9 => h9) rfl dX8_rows_1 ?_
  refine lv_iconst (v := 2) hx hb dX8_rows_4 (by decide) ?_
  obtain ⟨h_1, hq⟩ := gd_s hq
  refine va_iald hx hb hG.1 hP 1 0 rfl rfl h_1 dX8_rows_5 ?_
  have he := Option.some.inj hq
  subst he
  exact hE H locs _ _ _ rfl dX8_rows_6 hP hD hS
abbrev rm_X8_place : Room := { frames := 0, cells := 0, slots := 0, locals := 0 }
set_option maxHeartbeats 4000000 in
set_option maxRecDepth 100000 in
theorem mtX8_place (l : Launch) (D : va_G) (cI cB cR : ClassId) (sz : Nat) (a0 : Int32) (a1 : Int32) (a2 : Int32) (res : Int32) (hf : fX8_place a0 a1 a2 = res) : Met l yX8_place wsX8_place rm_X8_place (qP D cI cB cR [.int a0, .int a1, .int a2] ([] : va_W) sz) (qI D res ([] : va_W) ([] : va_W) sz) 0 0 (va_A ([] : va_W) sz) := by
  refine entI (plainFor_of_name (by decide)) rfl (Nat.le_of_ble_eq_true rfl) ?_
  intro p e s m args below meth c Q A ls S hG hP hD hA hl hE
  obtain ⟨hx, hb, hml, hown, hts⟩ := S
  have hown : s.vm.findClass RX8 = some m.cls := hown
  have hS : va_S A s.heap s.heap [] := va_S.rf
  have hl : lv_has ls 3 [(0, .int a0), (1, .int a1), (2, .int a2)] := hl
  have hq := hf
  unfold fX8_place at hq
  obtain ⟨H, hH⟩ : ∃ H, H = s.heap := ⟨_, rfl⟩
  obtain ⟨locs, hlo⟩ : ∃ L : List Loc, L = [] := ⟨_, rfl⟩
  have hP : va_P D cls9 ([] : va_W) H := hH ▸ hP
  have hS : va_S A s.heap H locs := by rw [hH, hlo]; exact hS
  suffices hg : W p l e rm_X8_place s m args below meth c H locs 0 0 Q (F0 m 0 ls []) by rw [hH, hlo] at hg; exact hg
  refine lv_iconst (v := 3) hx hb dX8_place_0 (by decide) ?_
  refine lv_iconst (v := 3) hx hb dX8_place_1 (by decide) ?_
  refine lv_iload_n hx hb dX8_place_2 rfl (lv_at hl 0 rfl) ?_
  refine lv_imul hx hb dX8_place_3 ?_
  refine lv_iload_n hx hb dX8_place_4 rfl (lv_at hl 1 rfl) ?_
  refine lv_iadd hx hb dX8_place_5 ?_
  refine lv_bipush (v := 7) hx hb dX8_place_6 (by decide) ?_
  refine lv_imul hx hb dX8_place_8 ?_
  refine lv_iadd hx hb dX8_place_9 ?_
  refine lv_iload_n hx hb dX8_place_10 rfl (lv_at hl 2 rfl) ?_
  refine lv_iadd hx hb dX8_place_11 ?_
  have he := hq
  subst he
  exact hE H locs _ _ _ rfl dX8_place_12 hP hD hS
abbrev rm_X8_isRow : Room := { frames := 1, cells := 0, slots := 0, locals := 25 }
set_option maxHeartbeats 4000000 in
set_option maxRecDepth 100000 in
theorem mtX8_isRow (l : Launch) (D : va_G) (cI cB cR : ClassId) (ad : Nat → Nat) (sz : Nat) (states : Int32) (whyKind : Int32) (whyOrder : Int32) (many : Int32) (wide : Int32) (textLong : Int32) (spot : Int32) (readColumns : Int32) (all : Nat → Int32) (past : Nat → Int32) (refused : Nat → Int32) (work : Nat → Int32) (kept : Nat → Int32) (chosen : Nat → Int32) (across : Nat → Int32) (sum : Nat → Int32) (one : Nat → Int32) (two : Nat → Int32) (base : Nat → Int32) (quotients : Nat → Int32) (text : Nat → Int32) (numbers : Nat → Int32) (entries : Nat → Int32) (before : Nat → Int32) (a0 : Int32) (res : Int32) (hf : fX8_isRow all a0 = some res) : Met l yX8_isRow wsX8_isRow rm_X8_isRow (qP D cI cB cR [.ref (ad 0), .int a0] (wM cI ad states whyKind whyOrder many wide textLong spot readColumns all past refused work kept chosen across sum one two base quotients text numbers entries before) sz) (qZ D res (wM cI ad states whyKind whyOrder many wide textLong spot readColumns all past refused work kept chosen across sum one two base quotients text numbers entries before) (wM cI ad states whyKind whyOrder many wide textLong spot readColumns all past refused work kept chosen across sum one two base quotients text numbers entries before) sz) 0 0 (va_A (wM cI ad states whyKind whyOrder many wide textLong spot readColumns all past refused work kept chosen across sum one two base quotients text numbers entries before) sz) := by
  refine entZ (plainFor_of_name (by decide)) rfl (Nat.le_of_ble_eq_true rfl) ?_
  intro p e s m args below meth c Q A ls S hG hP hD hA hl hE
  obtain ⟨hx, hb, hml, hown, hts⟩ := S
  have hown : s.vm.findClass RX8 = some m.cls := hown
  have hS : va_S A s.heap s.heap [] := va_S.rf
  have hl : lv_has ls 2 [(0, .ref (ad 0)), (1, .int a0)] := hl
  have hq := hf
  unfold fX8_isRow at hq
  obtain ⟨H, hH⟩ : ∃ H, H = s.heap := ⟨_, rfl⟩
  obtain ⟨locs, hlo⟩ : ∃ L : List Loc, L = [] := ⟨_, rfl⟩
  have hP : va_P D cls9 (wM cI ad states whyKind whyOrder many wide textLong spot readColumns all past refused work kept chosen across sum one two base quotients text numbers entries before) H := hH ▸ hP
  have hS : va_S A s.heap H locs := by rw [hH, hlo]; exact hS
  suffices hg : W p l e rm_X8_isRow s m args below meth c H locs 0 0 Q (F0 m 0 ls []) by rw [hH, hlo] at hg; exact hg
  refine lv_iload_n hx hb dX8_isRow_0 rfl (lv_at hl 1 rfl) ?_
  refine lv_i2l (v := (a0.toInt64)) hx hb dX8_isRow_1 rfl ?_
  refine lv_lconst (v := 0) hx hb dX8_isRow_2 (by decide) ?_
  refine lv_aload_n hx hb dX8_isRow_3 rfl (lv_at hl 0 rfl) ?_
  obtain ⟨v_3, hq_2, hk⟩ := bd1_s hq
  obtain ⟨r_1, rfl⟩ : ∃ y, y = v_3 := ⟨_, rfl⟩
  have hq := hk _ rfl
  refine callIA (gV (rest := [.long (0 : Int64), .long (a0.toInt64)]) ⟨hx, hb, hml, hown, hts⟩ hG hP hD 0 8 rfl rfl (mtX8_rows l D cI cB cR ad H.size states whyKind whyOrder many wide textLong spot readColumns all past refused work kept chosen across sum one two base quotients text numbers entries before r_1 hq_2) (cwV 0 hts gX8_isRow_X8_rows rfl rfl rfl ⟨rfl, hd_X8_rows⟩ ⟨Nat.le_of_ble_eq_true rfl, Nat.le_of_ble_eq_true rfl⟩) rfl hl.1 rfl (Nat.le_of_ble_eq_true rfl) dX8_isRow_4) hD hS hA (fun H locs hP hD hS => ?_)
  have hP : va_P D cls9 (wM cI ad states whyKind whyOrder many wide textLong spot readColumns all past refused work kept chosen across sum one two base quotients text numbers entries before) H := hP
  have hD : va_D A (wM cI ad states whyKind whyOrder many wide textLong spot readColumns all past refused work kept chosen across sum one two base quotients text numbers entries before) := hD
  refine lv_iconst (v := 1) hx hb dX8_isRow_7 (by decide) ?_
  refine lv_isub hx hb dX8_isRow_8 ?_
  refine lv_i2l (v := (((r_1 - (1 : Int32))).toInt64)) hx hb dX8_isRow_9 rfl ?_
  refine callZ0 (gS (rest := []) ⟨hx, hb, hml, hown, hts⟩ hG vaP0 (vaD0 (A := A)) (mtX8_in l D cI cB cR H.size (a0.toInt64) (0 : Int64) (((r_1 - (1 : Int32))).toInt64) _ rfl) (va_cwS 3 hts gX8_isRow_X8_in rfl rfl rfl hd_X8_in ⟨Nat.le_of_ble_eq_true rfl, Nat.le_of_ble_eq_true rfl⟩) rfl hl.1 rfl (Nat.le_of_ble_eq_true rfl) dX8_isRow_10) hP hS hA (fun H locs z_4 hP hS => ?_)
  have he := Option.some.inj hq
  subst he
  exact hE H locs _ _ _ rfl z_4 dX8_isRow_13 hP hD hS
abbrev rm_X8_isColumn : Room := { frames := 1, cells := 0, slots := 0, locals := 25 }
set_option maxHeartbeats 4000000 in
set_option maxRecDepth 100000 in
theorem mtX8_isColumn (l : Launch) (D : va_G) (cI cB cR : ClassId) (ad : Nat → Nat) (sz : Nat) (states : Int32) (whyKind : Int32) (whyOrder : Int32) (many : Int32) (wide : Int32) (textLong : Int32) (spot : Int32) (readColumns : Int32) (all : Nat → Int32) (past : Nat → Int32) (refused : Nat → Int32) (work : Nat → Int32) (kept : Nat → Int32) (chosen : Nat → Int32) (across : Nat → Int32) (sum : Nat → Int32) (one : Nat → Int32) (two : Nat → Int32) (base : Nat → Int32) (quotients : Nat → Int32) (text : Nat → Int32) (numbers : Nat → Int32) (entries : Nat → Int32) (before : Nat → Int32) (a0 : Int32) (res : Int32) (hf : fX8_isColumn all a0 = some res) : Met l yX8_isColumn wsX8_isColumn rm_X8_isColumn (qP D cI cB cR [.ref (ad 0), .int a0] (wM cI ad states whyKind whyOrder many wide textLong spot readColumns all past refused work kept chosen across sum one two base quotients text numbers entries before) sz) (qZ D res (wM cI ad states whyKind whyOrder many wide textLong spot readColumns all past refused work kept chosen across sum one two base quotients text numbers entries before) (wM cI ad states whyKind whyOrder many wide textLong spot readColumns all past refused work kept chosen across sum one two base quotients text numbers entries before) sz) 0 0 (va_A (wM cI ad states whyKind whyOrder many wide textLong spot readColumns all past refused work kept chosen across sum one two base quotients text numbers entries before) sz) := by
  refine entZ (plainFor_of_name (by decide)) rfl (Nat.le_of_ble_eq_true rfl) ?_
  intro p e s m args below meth c Q A ls S hG hP hD hA hl hE
  obtain ⟨hx, hb, hml, hown, hts⟩ := S
  have hown : s.vm.findClass RX8 = some m.cls := hown
  have hS : va_S A s.heap s.heap [] := va_S.rf
  have hl : lv_has ls 2 [(0, .ref (ad 0)), (1, .int a0)] := hl
  have hq := hf
  unfold fX8_isColumn at hq
  obtain ⟨H, hH⟩ : ∃ H, H = s.heap := ⟨_, rfl⟩
  obtain ⟨locs, hlo⟩ : ∃ L : List Loc, L = [] := ⟨_, rfl⟩
  have hP : va_P D cls9 (wM cI ad states whyKind whyOrder many wide textLong spot readColumns all past refused work kept chosen across sum one two base quotients text numbers entries before) H := hH ▸ hP
  have hS : va_S A s.heap H locs := by rw [hH, hlo]; exact hS
  suffices hg : W p l e rm_X8_isColumn s m args below meth c H locs 0 0 Q (F0 m 0 ls []) by rw [hH, hlo] at hg; exact hg
  refine lv_iload_n hx hb dX8_isColumn_0 rfl (lv_at hl 1 rfl) ?_
  refine lv_i2l (v := (a0.toInt64)) hx hb dX8_isColumn_1 rfl ?_
  refine lv_lconst (v := 0) hx hb dX8_isColumn_2 (by decide) ?_
  refine lv_aload_n hx hb dX8_isColumn_3 rfl (lv_at hl 0 rfl) ?_
  obtain ⟨v_3, hq_2, hk⟩ := bd1_s hq
  obtain ⟨r_1, rfl⟩ : ∃ y, y = v_3 := ⟨_, rfl⟩
  have hq := hk _ rfl
  refine callIA (gV (rest := [.long (0 : Int64), .long (a0.toInt64)]) ⟨hx, hb, hml, hown, hts⟩ hG hP hD 0 8 rfl rfl (mtX8_width l D cI cB cR ad H.size states whyKind whyOrder many wide textLong spot readColumns all past refused work kept chosen across sum one two base quotients text numbers entries before r_1 hq_2) (cwV 0 hts gX8_isColumn_X8_width rfl rfl rfl ⟨rfl, hd_X8_width⟩ ⟨Nat.le_of_ble_eq_true rfl, Nat.le_of_ble_eq_true rfl⟩) rfl hl.1 rfl (Nat.le_of_ble_eq_true rfl) dX8_isColumn_4) hD hS hA (fun H locs hP hD hS => ?_)
  have hP : va_P D cls9 (wM cI ad states whyKind whyOrder many wide textLong spot readColumns all past refused work kept chosen across sum one two base quotients text numbers entries before) H := hP
  have hD : va_D A (wM cI ad states whyKind whyOrder many wide textLong spot readColumns all past refused work kept chosen across sum one two base quotients text numbers entries before) := hD
  refine lv_iconst (v := 1) hx hb dX8_isColumn_7 (by decide) ?_
  refine lv_isub hx hb dX8_isColumn_8 ?_
  refine lv_i2l (v := (((r_1 - (1 : Int32))).toInt64)) hx hb dX8_isColumn_9 rfl ?_
  refine callZ0 (gS (rest := []) ⟨hx, hb, hml, hown, hts⟩ hG vaP0 (vaD0 (A := A)) (mtX8_in l D cI cB cR H.size (a0.toInt64) (0 : Int64) (((r_1 - (1 : Int32))).toInt64) _ rfl) (va_cwS 3 hts gX8_isColumn_X8_in rfl rfl rfl hd_X8_in ⟨Nat.le_of_ble_eq_true rfl, Nat.le_of_ble_eq_true rfl⟩) rfl hl.1 rfl (Nat.le_of_ble_eq_true rfl) dX8_isColumn_10) hP hS hA (fun H locs z_4 hP hS => ?_)
  have he := Option.some.inj hq
  subst he
  exact hE H locs _ _ _ rfl z_4 dX8_isColumn_13 hP hD hS
abbrev rm_X8_left : Room := { frames := 1, cells := 0, slots := 0, locals := 20 }
set_option maxHeartbeats 4000000 in
set_option maxRecDepth 100000 in
theorem mtX8_left (l : Launch) (D : va_G) (cI cB cR : ClassId) (ad : Nat → Nat) (sz : Nat) (states : Int32) (whyKind : Int32) (whyOrder : Int32) (many : Int32) (wide : Int32) (textLong : Int32) (spot : Int32) (readColumns : Int32) (all : Nat → Int32) (past : Nat → Int32) (refused : Nat → Int32) (work : Nat → Int32) (kept : Nat → Int32) (chosen : Nat → Int32) (across : Nat → Int32) (sum : Nat → Int32) (one : Nat → Int32) (two : Nat → Int32) (base : Nat → Int32) (quotients : Nat → Int32) (text : Nat → Int32) (numbers : Nat → Int32) (entries : Nat → Int32) (before : Nat → Int32) (a0 : Int32) (res : Int32) (hf : fX8_left all a0 = some res) : Met l yX8_left wsX8_left rm_X8_left (qP D cI cB cR [.ref (ad 0), .int a0] (wM cI ad states whyKind whyOrder many wide textLong spot readColumns all past refused work kept chosen across sum one two base quotients text numbers entries before) sz) (qI D res (wM cI ad states whyKind whyOrder many wide textLong spot readColumns all past refused work kept chosen across sum one two base quotients text numbers entries before) (wM cI ad states whyKind whyOrder many wide textLong spot readColumns all past refused work kept chosen across sum one two base quotients text numbers entries before) sz) 0 0 (va_A (wM cI ad states whyKind whyOrder many wide textLong spot readColumns all past refused work kept chosen across sum one two base quotients text numbers entries before) sz) := by
  refine entI (plainFor_of_name (by decide)) rfl (Nat.le_of_ble_eq_true rfl) ?_
  intro p e s m args below meth c Q A ls S hG hP hD hA hl hE
  obtain ⟨hx, hb, hml, hown, hts⟩ := S
  have hown : s.vm.findClass RX8 = some m.cls := hown
  have hS : va_S A s.heap s.heap [] := va_S.rf
  have hl : lv_has ls 3 [(0, .ref (ad 0)), (1, .int a0)] := hl
  have hq := hf
  unfold fX8_left at hq
  obtain ⟨H, hH⟩ : ∃ H, H = s.heap := ⟨_, rfl⟩
  obtain ⟨locs, hlo⟩ : ∃ L : List Loc, L = [] := ⟨_, rfl⟩
  have hP : va_P D cls9 (wM cI ad states whyKind whyOrder many wide textLong spot readColumns all past refused work kept chosen across sum one two base quotients text numbers entries before) H := hH ▸ hP
  have hS : va_S A s.heap H locs := by rw [hH, hlo]; exact hS
  suffices hg : W p l e rm_X8_left s m args below meth c H locs 0 0 Q (F0 m 0 ls []) by rw [hH, hlo] at hg; exact hg
  refine lv_iload_n hx hb dX8_left_0 rfl (lv_at hl 1 rfl) ?_
  refine lv_aload_n hx hb dX8_left_1 rfl (lv_at hl 0 rfl) ?_
  obtain ⟨v_3, hq_2, hk⟩ := bd1_s hq
  obtain ⟨r_1, rfl⟩ : ∃ y, y = v_3 := ⟨_, rfl⟩
  have hq := hk _ rfl
  refine callIA (gV (rest := [.int a0]) ⟨hx, hb, hml, hown, hts⟩ hG hP hD 0 8 rfl rfl (mtX8_modulus l D cI cB cR ad H.size states whyKind whyOrder many wide textLong spot readColumns all past refused work kept chosen across sum one two base quotients text numbers entries before r_1 hq_2) (cwV 0 hts gX8_left_X8_modulus rfl rfl rfl ⟨rfl, hd_X8_modulus⟩ ⟨Nat.le_of_ble_eq_true rfl, Nat.le_of_ble_eq_true rfl⟩) rfl hl.1 rfl (Nat.le_of_ble_eq_true rfl) dX8_left_2) hD hS hA (fun H locs hP hD hS => ?_)
  have hP : va_P D cls9 (wM cI ad states whyKind whyOrder many wide textLong spot readColumns all past refused work kept chosen across sum one two base quotients text numbers entries before) H := hP
  have hD : va_D A (wM cI ad states whyKind whyOrder many wide textLong spot readColumns all past refused work kept chosen across sum one two base quotients text numbers entries before) := hD
  obtain ⟨h_4, hq⟩ := gd_s hq
  refine lv_irem hx hb dX8_left_5 h_4 ?_
  refine lv_asi (y := (rem32 a0 r_1)) rfl ?_
  refine lv_istore_n (lv' := [(2, .int (rem32 a0 r_1)), (0, .ref (ad 0)), (1, .int a0)]) hx hb dX8_left_6 rfl hl (by decide) rfl (fun ls hl => ?_)
  refine lv_iload_n hx hb dX8_left_7 rfl (lv_at hl 0 rfl) ?_
  refine lv_if_ge (tgt := 20) hx hb dX8_left_8 (by decide) (fun c_5 => ?_) (fun c_5 => ?_)
  · have hq := it_t c_5 hq
    refine lv_iload_n hx hb dX8_left_20 rfl (lv_at hl 0 rfl) ?_
    have he := Option.some.inj hq
    subst he
    exact hE H locs _ _ _ rfl dX8_left_21 hP hD hS
  · have hq := it_f c_5 hq
    refine lv_iload_n hx hb dX8_left_11 rfl (lv_at hl 0 rfl) ?_
    refine lv_aload_n hx hb dX8_left_12 rfl (lv_at hl 1 rfl) ?_
    obtain ⟨v_8, hq_7, hk⟩ := bd1_s hq
    obtain ⟨r_6, rfl⟩ : ∃ y, y = v_8 := ⟨_, rfl⟩
    have hq := hk _ rfl
    refine callIA (gV (rest := [.int (rem32 a0 r_1)]) ⟨hx, hb, hml, hown, hts⟩ hG hP hD 0 8 rfl rfl (mtX8_modulus l D cI cB cR ad H.size states whyKind whyOrder many wide textLong spot readColumns all past refused work kept chosen across sum one two base quotients text numbers entries before r_6 hq_7) (cwV 0 hts gX8_left_X8_modulus rfl rfl rfl ⟨rfl, hd_X8_modulus⟩ ⟨Nat.le_of_ble_eq_true rfl, Nat.le_of_ble_eq_true rfl⟩) rfl hl.1 rfl (Nat.le_of_ble_eq_true rfl) dX8_left_13) hD hS hA (fun H locs hP hD hS => ?_)
    have hP : va_P D cls9 (wM cI ad states whyKind whyOrder many wide textLong spot readColumns all past refused work kept chosen across sum one two base quotients text numbers entries before) H := hP
    have hD : va_D A (wM cI ad states whyKind whyOrder many wide textLong spot readColumns all past refused work kept chosen across sum one two base quotients text numbers entries before) := hD
    refine lv_iadd hx hb dX8_left_16 ?_
    refine lv_goto (tgt := 21) hx hb dX8_left_17 (by decide) ?_
    have he := Option.some.inj hq
    subst he
    exact hE H locs _ _ _ rfl dX8_left_21 hP hD hS
abbrev rm_X8_inverse : Room := { frames := 1, cells := 0, slots := 0, locals := 20 }
set_option maxHeartbeats 4000000 in
set_option maxRecDepth 100000 in
theorem mtX8_inverse (l : Launch) (D : va_G) (cI cB cR : ClassId) (ad : Nat → Nat) (sz : Nat) (states : Int32) (whyKind : Int32) (whyOrder : Int32) (many : Int32) (wide : Int32) (textLong : Int32) (spot : Int32) (readColumns : Int32) (all : Nat → Int32) (past : Nat → Int32) (refused : Nat → Int32) (work : Nat → Int32) (kept : Nat → Int32) (chosen : Nat → Int32) (across : Nat → Int32) (sum : Nat → Int32) (one : Nat → Int32) (two : Nat → Int32) (base : Nat → Int32) (quotients : Nat → Int32) (text : Nat → Int32) (numbers : Nat → Int32) (entries : Nat → Int32) (before : Nat → Int32) (a0 : Int32) (res : Int32) (hf : fX8_inverse all a0 = some res) : Met l yX8_inverse wsX8_inverse rm_X8_inverse (qP D cI cB cR [.ref (ad 0), .int a0] (wM cI ad states whyKind whyOrder many wide textLong spot readColumns all past refused work kept chosen across sum one two base quotients text numbers entries before) sz) (qI D res (wM cI ad states whyKind whyOrder many wide textLong spot readColumns all past refused work kept chosen across sum one two base quotients text numbers entries before) (wM cI ad states whyKind whyOrder many wide textLong spot readColumns all past refused work kept chosen across sum one two base quotients text numbers entries before) sz) 0 0 (va_A (wM cI ad states whyKind whyOrder many wide textLong spot readColumns all past refused work kept chosen across sum one two base quotients text numbers entries before) sz) := by
  refine entI (plainFor_of_name (by decide)) rfl (Nat.le_of_ble_eq_true rfl) ?_
  intro p e s m args below meth c Q A ls S hG hP hD hA hl hE
  obtain ⟨hx, hb, hml, hown, hts⟩ := S
  have hown : s.vm.findClass RX8 = some m.cls := hown
  have hS : va_S A s.heap s.heap [] := va_S.rf
  have hl : lv_has ls 3 [(0, .ref (ad 0)), (1, .int a0)] := hl
  have hq := hf
  unfold fX8_inverse at hq
  obtain ⟨H, hH⟩ : ∃ H, H = s.heap := ⟨_, rfl⟩
  obtain ⟨locs, hlo⟩ : ∃ L : List Loc, L = [] := ⟨_, rfl⟩
  have hP : va_P D cls9 (wM cI ad states whyKind whyOrder many wide textLong spot readColumns all past refused work kept chosen across sum one two base quotients text numbers entries before) H := hH ▸ hP
  have hS : va_S A s.heap H locs := by rw [hH, hlo]; exact hS
  suffices hg : W p l e rm_X8_inverse s m args below meth c H locs 0 0 Q (F0 m 0 ls []) by rw [hH, hlo] at hg; exact hg
  refine lv_iconst (v := 1) hx hb dX8_inverse_0 (by decide) ?_
  refine lv_istore_n (lv' := [(2, .int (1 : Int32)), (0, .ref (ad 0)), (1, .int a0)]) hx hb dX8_inverse_1 rfl hl (by decide) rfl (fun ls hl => ?_)
  obtain ⟨w1, hw1, hk1⟩ := bd1_s hq
  have hX1 : ∀ (x_7 : Int32), w1 = x_7 → ∀ (H : Heap) (locs : List Loc), va_P D cls9 (wM cI ad states whyKind whyOrder many wide textLong spot readColumns all past refused work kept chosen across sum one two base quotients text numbers entries before) H → va_D A (wM cI ad states whyKind whyOrder many wide textLong spot readColumns all past refused work kept chosen across sum one two base quotients text numbers entries before) → va_S A s.heap H locs → ∀ (ls : Array Slot), lv_has ls 3 [(2, .int x_7)] → W p l e rm_X8_inverse s m args below meth c H locs 0 0 Q (F0 m 20 ls []) := by
    intro x_7 hq H locs hP hD hS ls hl
    have hq := hk1 _ hq
    refine lv_iload_n hx hb dX8_inverse_20 rfl (lv_at hl 0 rfl) ?_
    have he := Option.some.inj hq
    subst he
    exact hE H locs _ _ _ rfl dX8_inverse_21 hP hD hS
  have hL1 : ∀ (n : Nat) (i_1 : Int32), lrun (fun (z : Int32) => fX8_inverse_s2 all a0 z) n i_1 = some w1 → ∀ (H : Heap) (locs : List Loc), va_P D cls9 (wM cI ad states whyKind whyOrder many wide textLong spot readColumns all past refused work kept chosen across sum one two base quotients text numbers entries before) H → va_D A (wM cI ad states whyKind whyOrder many wide textLong spot readColumns all past refused work kept chosen across sum one two base quotients text numbers entries before) → va_S A s.heap H locs → ∀ (ls : Array Slot), lv_has ls 3 [(0, .ref (ad 0)), (1, .int a0), (2, .int i_1)] → W p l e rm_X8_inverse s m args below meth c H locs 0 0 Q (F0 m 2 ls []) := by
    intro n
    induction n with
    | zero => intro i_1 h; cases h
    | succ n ih1 =>
      intro i_1 hr1 H locs hP hD hS ls hl
      obtain ⟨k, v1, hk, hr1, ht1, hv1⟩ := lrun_s hr1
      cases hk
      have hr1 : fX8_inverse_s2 all a0 i_1 = some v1 := hr1
      unfold fX8_inverse_s2 at hr1
      refine lv_iload_n hx hb dX8_inverse_2 rfl (lv_at hl 1 rfl) ?_
      refine lv_iload_n hx hb dX8_inverse_3 rfl (lv_at hl 2 rfl) ?_
      refine lv_imul hx hb dX8_inverse_4 ?_
      refine lv_aload_n hx hb dX8_inverse_5 rfl (lv_at hl 0 rfl) ?_
      obtain ⟨v_4, hq_3, hk⟩ := bd1_s hr1
      obtain ⟨r_2, rfl⟩ : ∃ y, y = v_4 := ⟨_, rfl⟩
      have hr1 := hk _ rfl
      refine callIA (gV (rest := [.int (a0 * i_1)]) ⟨hx, hb, hml, hown, hts⟩ hG hP hD 0 8 rfl rfl (mtX8_modulus l D cI cB cR ad H.size states whyKind whyOrder many wide textLong spot readColumns all past refused work kept chosen across sum one two base quotients text numbers entries before r_2 hq_3) (cwV 0 hts gX8_inverse_X8_modulus rfl rfl rfl ⟨rfl, hd_X8_modulus⟩ ⟨Nat.le_of_ble_eq_true rfl, Nat.le_of_ble_eq_true rfl⟩) rfl hl.1 rfl (Nat.le_of_ble_eq_true rfl) dX8_inverse_6) hD hS hA (fun H locs hP hD hS => ?_)
      have hP : va_P D cls9 (wM cI ad states whyKind whyOrder many wide textLong spot readColumns all past refused work kept chosen across sum one two base quotients text numbers entries before) H := hP
      have hD : va_D A (wM cI ad states whyKind whyOrder many wide textLong spot readColumns all past refused work kept chosen across sum one two base quotients text numbers entries before) := hD
      obtain ⟨h_5, hr1⟩ := gd_s hr1
      refine lv_irem hx hb dX8_inverse_9 h_5 ?_
      refine lv_asi (y := (rem32 (a0 * i_1) r_2)) rfl ?_
      refine lv_iconst (v := 1) hx hb dX8_inverse_10 (by decide) ?_
      refine lv_icmp_eq (tgt := 20) hx hb dX8_inverse_11 (by decide) (fun c_6 => ?_) (fun c_6 => ?_)
      · have hr1 := it_t c_6 hr1
        exact hX1 i_1 (hv1 _ (Option.some.inj hr1).symm).symm H locs hP hD hS ls (lv_sub hl [2] rfl)
      · have hr1 := it_f c_6 hr1
        refine lv_iinc (v := (i_1 + 1)) (lv' := [(2, .int (i_1 + 1)), (0, .ref (ad 0)), (1, .int a0)]) hx hb dX8_inverse_14 hl (k := 2) rfl rfl (by decide) rfl (fun ls hl => ?_)
        refine lv_goto (tgt := 2) hx hb dX8_inverse_17 (by decide) ?_
        exact ih1 (i_1 + 1) (ht1 _ (Option.some.inj hr1).symm) H locs hP hD hS ls (lv_sub hl [1, 2, 0] rfl)
  obtain ⟨n1, hn1⟩ := Lp_s hw1
  exact hL1 n1 (1 : Int32) hn1 H locs hP hD hS ls (lv_sub hl [1, 2, 0] rfl)
abbrev rm_X8_degreeAt : Room := { frames := 1, cells := 0, slots := 0, locals := 22 }
theorem iX8_degreeAt_X8 : ∀ w ∈ wsX80, w ∈ wsX8_degreeAt := fun _ h => (List.mem_cons_of_mem _ (List.mem_append_right _ h))
theorem fX8_degreeAt_1 : Cond.fieldLink RX8 7 "PopovRowsModel" "all" "[I" ∈ wsX8_degreeAt := (List.mem_cons_of_mem _ (List.mem_append_left _ (List.mem_of_getElem? (i := 0) rfl)))
set_option maxHeartbeats 4000000 in
set_option maxRecDepth 100000 in
theorem mtX8_degreeAt (l : Launch) (D : va_G) (cI cB cR : ClassId) (ad : Nat → Nat) (sz : Nat) (states : Int32) (whyKind : Int32) (whyOrder : Int32) (many : Int32) (wide : Int32) (textLong : Int32) (spot : Int32) (readColumns : Int32) (all : Nat → Int32) (past : Nat → Int32) (refused : Nat → Int32) (work : Nat → Int32) (kept : Nat → Int32) (chosen : Nat → Int32) (across : Nat → Int32) (sum : Nat → Int32) (one : Nat → Int32) (two : Nat → Int32) (base : Nat → Int32) (quotients : Nat → Int32) (text : Nat → Int32) (numbers : Nat → Int32) (entries : Nat → Int32) (before : Nat → Int32) (a0 : Int32) (a1 : Int32) (res : Int32) (hf : fX8_degreeAt all a0 a1 = some res) : Met l yX8_degreeAt wsX8_degreeAt rm_X8_degreeAt (qP D cI cB cR [.ref (ad 0), .int a0, .int a1] (wM cI ad states whyKind whyOrder many wide textLong spot readColumns all past refused work kept chosen across sum one two base quotients text numbers entries before) sz) (qI D res (wM cI ad states whyKind whyOrder many wide textLong spot readColumns all past refused work kept chosen across sum one two base quotients text numbers entries before) (wM cI ad states whyKind whyOrder many wide textLong spot readColumns all past refused work kept chosen across sum one two base quotients text numbers entries before) sz) 0 0 (va_A (wM cI ad states whyKind whyOrder many wide textLong spot readColumns all past refused work kept chosen across sum one two base quotients text numbers entries before) sz) := by
  refine entI (plainFor_of_name (by decide)) rfl (Nat.le_of_ble_eq_true rfl) ?_
  intro p e s m args below meth c Q A ls S hG hP hD hA hl hE
  obtain ⟨hx, hb, hml, hown, hts⟩ := S
  have hown : s.vm.findClass RX8 = some m.cls := hown
  have hS : va_S A s.heap s.heap [] := va_S.rf
  have hl : lv_has ls 4 [(0, .ref (ad 0)), (1, .int a0), (2, .int a1)] := hl
  have hq := hf
  unfold fX8_degreeAt at hq
  obtain ⟨H, hH⟩ : ∃ H, H = s.heap := ⟨_, rfl⟩
  obtain ⟨locs, hlo⟩ : ∃ L : List Loc, L = [] := ⟨_, rfl⟩
  have hP : va_P D cls9 (wM cI ad states whyKind whyOrder many wide textLong spot readColumns all past refused work kept chosen across sum one two base quotients text numbers entries before) H := hH ▸ hP
  have hS : va_S A s.heap H locs := by rw [hH, hlo]; exact hS
  suffices hg : W p l e rm_X8_degreeAt s m args below meth c H locs 0 0 Q (F0 m 0 ls []) by rw [hH, hlo] at hg; exact hg
  refine lv_bipush (v := 6) hx hb dX8_degreeAt_0 (by decide) ?_
  refine lv_istore_n (lv' := [(3, .int (6 : Int32)), (0, .ref (ad 0)), (1, .int a0), (2, .int a1)]) hx hb dX8_degreeAt_2 rfl hl (by decide) rfl (fun ls hl => ?_)
  obtain ⟨w1, hw1, hk1⟩ := bd1_s hq
  have hX1 : ∀ (x_5 : Int32), w1 = x_5 → ∀ (H : Heap) (locs : List Loc), va_P D cls9 (wM cI ad states whyKind whyOrder many wide textLong spot readColumns all past refused work kept chosen across sum one two base quotients text numbers entries before) H → va_D A (wM cI ad states whyKind whyOrder many wide textLong spot readColumns all past refused work kept chosen across sum one two base quotients text numbers entries before) → va_S A s.heap H locs → ∀ (ls : Array Slot), lv_has ls 4 [(3, .int x_5)] → W p l e rm_X8_degreeAt s m args below meth c H locs 0 0 Q (F0 m 27 ls []) := by
    intro x_5 hq H locs hP hD hS ls hl
    have hq := hk1 _ hq
    refine lv_iload_n hx hb dX8_degreeAt_27 rfl (lv_at hl 0 rfl) ?_
    have he := Option.some.inj hq
    subst he
    exact hE H locs _ _ _ rfl dX8_degreeAt_28 hP hD hS
  have hL1 : ∀ (n : Nat) (i_1 : Int32), lrun (fun (z : Int32) => fX8_degreeAt_s3 all a0 a1 z) n i_1 = some w1 → ∀ (H : Heap) (locs : List Loc), va_P D cls9 (wM cI ad states whyKind whyOrder many wide textLong spot readColumns all past refused work kept chosen across sum one two base quotients text numbers entries before) H → va_D A (wM cI ad states whyKind whyOrder many wide textLong spot readColumns all past refused work kept chosen across sum one two base quotients text numbers entries before) → va_S A s.heap H locs → ∀ (ls : Array Slot), lv_has ls 4 [(0, .ref (ad 0)), (1, .int a0), (2, .int a1), (3, .int i_1)] → W p l e rm_X8_degreeAt s m args below meth c H locs 0 0 Q (F0 m 3 ls []) := by
    intro n
    induction n with
    | zero => intro i_1 h; cases h
    | succ n ih1 =>
      intro i_1 hr1 H locs hP hD hS ls hl
      obtain ⟨k, v1, hk, hr1, ht1, hv1⟩ := lrun_s hr1
      cases hk
      have hr1 : fX8_degreeAt_s3 all a0 a1 i_1 = some v1 := hr1
      unfold fX8_degreeAt_s3 at hr1
      refine lv_iload_n hx hb dX8_degreeAt_3 rfl (lv_at hl 3 rfl) ?_
      refine lv_if_lt (tgt := 27) hx hb dX8_degreeAt_4 (by decide) (fun c_2 => ?_) (fun c_2 => ?_)
      · have hr1 := it_t c_2 hr1
        exact hX1 i_1 (hv1 _ (Option.some.inj hr1).symm).symm H locs hP hD hS ls (lv_sub hl [3] rfl)
      · have hr1 := it_f c_2 hr1
        refine lv_aload_n hx hb dX8_degreeAt_7 rfl (lv_at hl 0 rfl) ?_
        refine va_get (D := D) (ci := 8) (v := .ref (ad 1)) (C := RX8) (T := TX8) (N := 24) hx hb hts iX8_degreeAt_X8 hown hG.1 hP 0 rfl rfl 0 (by decide) (hts _ fX8_degreeAt_1) (fun _ h9 => h9) rfl dX8_degreeAt_8 ?_
        refine lv_iload_n hx hb dX8_degreeAt_11 rfl (lv_at hl 1 rfl) ?_
        refine lv_iload_n hx hb dX8_degreeAt_12 rfl (lv_at hl 2 rfl) ?_
        refine lv_iload_n hx hb dX8_degreeAt_13 rfl (lv_at hl 3 rfl) ?_
        refine callI0 (gS (rest := [.ref (ad 1)]) ⟨hx, hb, hml, hown, hts⟩ hG vaP0 (vaD0 (A := A)) (mtX8_place l D cI cB cR H.size a0 a1 i_1 _ rfl) (va_cwS 3 hts gX8_degreeAt_X8_place rfl rfl rfl hd_X8_place ⟨Nat.le_of_ble_eq_true rfl, Nat.le_of_ble_eq_true rfl⟩) rfl hl.1 rfl (Nat.le_of_ble_eq_true rfl) dX8_degreeAt_14) hP hS hA (fun H locs hP hS => ?_)
        obtain ⟨h_3, hr1⟩ := gd_s hr1
        refine va_iald hx hb hG.1 hP 1 0 rfl rfl h_3 dX8_degreeAt_17 ?_
        refine lv_if_ne (tgt := 27) hx hb dX8_degreeAt_18 (by decide) (fun c_4 => ?_) (fun c_4 => ?_)
        · have hr1 := it_f c_4 hr1
          exact hX1 i_1 (hv1 _ (Option.some.inj hr1).symm).symm H locs hP hD hS ls (lv_sub hl [3] rfl)
        · have hr1 := it_t c_4 hr1
          refine lv_iinc (v := (i_1 + (-1))) (lv' := [(3, .int (i_1 + (-1))), (0, .ref (ad 0)), (1, .int a0), (2, .int a1)]) hx hb dX8_degreeAt_21 hl (k := 3) rfl rfl (by decide) rfl (fun ls hl => ?_)
          refine lv_goto (tgt := 3) hx hb dX8_degreeAt_24 (by decide) ?_
          exact ih1 (i_1 + (-1)) (ht1 _ (Option.some.inj hr1).symm) H locs hP hD hS ls (lv_sub hl [1, 2, 3, 0] rfl)
  obtain ⟨n1, hn1⟩ := Lp_s hw1
  exact hL1 n1 (6 : Int32) hn1 H locs hP hD hS ls (lv_sub hl [1, 2, 3, 0] rfl)
abbrev rm_X8_degree : Room := { frames := 2, cells := 0, slots := 0, locals := 45 }
set_option maxHeartbeats 4000000 in
set_option maxRecDepth 100000 in
theorem mtX8_degree (l : Launch) (D : va_G) (cI cB cR : ClassId) (ad : Nat → Nat) (sz : Nat) (states : Int32) (whyKind : Int32) (whyOrder : Int32) (many : Int32) (wide : Int32) (textLong : Int32) (spot : Int32) (readColumns : Int32) (all : Nat → Int32) (past : Nat → Int32) (refused : Nat → Int32) (work : Nat → Int32) (kept : Nat → Int32) (chosen : Nat → Int32) (across : Nat → Int32) (sum : Nat → Int32) (one : Nat → Int32) (two : Nat → Int32) (base : Nat → Int32) (quotients : Nat → Int32) (text : Nat → Int32) (numbers : Nat → Int32) (entries : Nat → Int32) (before : Nat → Int32) (a0 : Int32) (res : Int32) (hf : fX8_degree all a0 = some res) : Met l yX8_degree wsX8_degree rm_X8_degree (qP D cI cB cR [.ref (ad 0), .int a0] (wM cI ad states whyKind whyOrder many wide textLong spot readColumns all past refused work kept chosen across sum one two base quotients text numbers entries before) sz) (qI D res (wM cI ad states whyKind whyOrder many wide textLong spot readColumns all past refused work kept chosen across sum one two base quotients text numbers entries before) (wM cI ad states whyKind whyOrder many wide textLong spot readColumns all past refused work kept chosen across sum one two base quotients text numbers entries before) sz) 0 0 (va_A (wM cI ad states whyKind whyOrder many wide textLong spot readColumns all past refused work kept chosen across sum one two base quotients text numbers entries before) sz) := by
  refine entI (plainFor_of_name (by decide)) rfl (Nat.le_of_ble_eq_true rfl) ?_
  intro p e s m args below meth c Q A ls S hG hP hD hA hl hE
  obtain ⟨hx, hb, hml, hown, hts⟩ := S
  have hown : s.vm.findClass RX8 = some m.cls := hown
  have hS : va_S A s.heap s.heap [] := va_S.rf
  have hl : lv_has ls 4 [(0, .ref (ad 0)), (1, .int a0)] := hl
  have hq := hf
  unfold fX8_degree at hq
  obtain ⟨H, hH⟩ : ∃ H, H = s.heap := ⟨_, rfl⟩
  obtain ⟨locs, hlo⟩ : ∃ L : List Loc, L = [] := ⟨_, rfl⟩
  have hP : va_P D cls9 (wM cI ad states whyKind whyOrder many wide textLong spot readColumns all past refused work kept chosen across sum one two base quotients text numbers entries before) H := hH ▸ hP
  have hS : va_S A s.heap H locs := by rw [hH, hlo]; exact hS
  suffices hg : W p l e rm_X8_degree s m args below meth c H locs 0 0 Q (F0 m 0 ls []) by rw [hH, hlo] at hg; exact hg
  refine lv_iconst (v := -1) hx hb dX8_degree_0 (by decide) ?_
  refine lv_istore_n (lv' := [(2, .int (-1 : Int32)), (0, .ref (ad 0)), (1, .int a0)]) hx hb dX8_degree_1 rfl hl (by decide) rfl (fun ls hl => ?_)
  refine lv_iconst (v := 0) hx hb dX8_degree_2 (by decide) ?_
  refine lv_istore_n (lv' := [(3, .int (0 : Int32)), (2, .int (-1 : Int32)), (0, .ref (ad 0)), (1, .int a0)]) hx hb dX8_degree_3 rfl hl (by decide) rfl (fun ls hl => ?_)
  obtain ⟨w1, hw1, hk1⟩ := bd1_s hq
  have hX1 : ∀ (x_14 : Int32), w1 = x_14 → ∀ (H : Heap) (locs : List Loc), va_P D cls9 (wM cI ad states whyKind whyOrder many wide textLong spot readColumns all past refused work kept chosen across sum one two base quotients text numbers entries before) H → va_D A (wM cI ad states whyKind whyOrder many wide textLong spot readColumns all past refused work kept chosen across sum one two base quotients text numbers entries before) → va_S A s.heap H locs → ∀ (ls : Array Slot), lv_has ls 4 [(2, .int x_14)] → W p l e rm_X8_degree s m args below meth c H locs 0 0 Q (F0 m 39 ls []) := by
    intro x_14 hq H locs hP hD hS ls hl
    have hq := hk1 _ hq
    refine lv_iload_n hx hb dX8_degree_39 rfl (lv_at hl 0 rfl) ?_
    have he := Option.some.inj hq
    subst he
    exact hE H locs _ _ _ rfl dX8_degree_40 hP hD hS
  have hL1 : ∀ (n : Nat) (i_1 : Int32) (i_2 : Int32), lrun (fun (z : Int32 × Int32) => fX8_degree_s4 all a0 z.1 z.2) n (i_1, i_2) = some w1 → ∀ (H : Heap) (locs : List Loc), va_P D cls9 (wM cI ad states whyKind whyOrder many wide textLong spot readColumns all past refused work kept chosen across sum one two base quotients text numbers entries before) H → va_D A (wM cI ad states whyKind whyOrder many wide textLong spot readColumns all past refused work kept chosen across sum one two base quotients text numbers entries before) → va_S A s.heap H locs → ∀ (ls : Array Slot), lv_has ls 4 [(0, .ref (ad 0)), (1, .int a0), (2, .int i_1), (3, .int i_2)] → W p l e rm_X8_degree s m args below meth c H locs 0 0 Q (F0 m 4 ls []) := by
    intro n
    induction n with
    | zero => intro i_1 i_2 h; cases h
    | succ n ih1 =>
      intro i_1 i_2 hr1 H locs hP hD hS ls hl
      obtain ⟨k, v1, hk, hr1, ht1, hv1⟩ := lrun_s hr1
      cases hk
      have hr1 : fX8_degree_s4 all a0 i_1 i_2 = some v1 := hr1
      unfold fX8_degree_s4 at hr1
      refine lv_iload_n hx hb dX8_degree_4 rfl (lv_at hl 3 rfl) ?_
      refine lv_aload_n hx hb dX8_degree_5 rfl (lv_at hl 0 rfl) ?_
      obtain ⟨v_5, hq_4, hk⟩ := bd1_s hr1
      obtain ⟨r_3, rfl⟩ : ∃ y, y = v_5 := ⟨_, rfl⟩
      have hr1 := hk _ rfl
      refine callIA (gV (rest := [.int i_2]) ⟨hx, hb, hml, hown, hts⟩ hG hP hD 0 8 rfl rfl (mtX8_width l D cI cB cR ad H.size states whyKind whyOrder many wide textLong spot readColumns all past refused work kept chosen across sum one two base quotients text numbers entries before r_3 hq_4) (cwV 0 hts gX8_degree_X8_width rfl rfl rfl ⟨rfl, hd_X8_width⟩ ⟨Nat.le_of_ble_eq_true rfl, Nat.le_of_ble_eq_true rfl⟩) rfl hl.1 rfl (Nat.le_of_ble_eq_true rfl) dX8_degree_6) hD hS hA (fun H locs hP hD hS => ?_)
      have hP : va_P D cls9 (wM cI ad states whyKind whyOrder many wide textLong spot readColumns all past refused work kept chosen across sum one two base quotients text numbers entries before) H := hP
      have hD : va_D A (wM cI ad states whyKind whyOrder many wide textLong spot readColumns all past refused work kept chosen across sum one two base quotients text numbers entries before) := hD
      refine lv_icmp_ge (tgt := 39) hx hb dX8_degree_9 (by decide) (fun c_6 => ?_) (fun c_6 => ?_)
      · have hr1 := it_t c_6 hr1
        exact hX1 i_1 (hv1 _ (Option.some.inj hr1).symm).symm H locs hP hD hS ls (lv_sub hl [2] rfl)
      · have hr1 := it_f c_6 hr1
        refine lv_aload_n hx hb dX8_degree_12 rfl (lv_at hl 0 rfl) ?_
        refine lv_iload_n hx hb dX8_degree_13 rfl (lv_at hl 1 rfl) ?_
        refine lv_iload_n hx hb dX8_degree_14 rfl (lv_at hl 3 rfl) ?_
        obtain ⟨v_9, hq_8, hk⟩ := bd1_s hr1
        obtain ⟨r_7, rfl⟩ : ∃ y, y = v_9 := ⟨_, rfl⟩
        have hr1 := hk _ rfl
        refine callIA (gV (rest := []) ⟨hx, hb, hml, hown, hts⟩ hG hP hD 0 8 rfl rfl (mtX8_degreeAt l D cI cB cR ad H.size states whyKind whyOrder many wide textLong spot readColumns all past refused work kept chosen across sum one two base quotients text numbers entries before a0 i_2 r_7 hq_8) (cwV 2 hts gX8_degree_X8_degreeAt rfl rfl rfl ⟨rfl, hd_X8_degreeAt⟩ ⟨Nat.le_of_ble_eq_true rfl, Nat.le_of_ble_eq_true rfl⟩) rfl hl.1 rfl (Nat.le_of_ble_eq_true rfl) dX8_degree_15) hD hS hA (fun H locs hP hD hS => ?_)
        have hP : va_P D cls9 (wM cI ad states whyKind whyOrder many wide textLong spot readColumns all past refused work kept chosen across sum one two base quotients text numbers entries before) H := hP
        have hD : va_D A (wM cI ad states whyKind whyOrder many wide textLong spot readColumns all past refused work kept chosen across sum one two base quotients text numbers entries before) := hD
        refine lv_iload_n hx hb dX8_degree_18 rfl (lv_at hl 2 rfl) ?_
        refine lv_icmp_le (tgt := 31) hx hb dX8_degree_19 (by decide) (fun c_10 => ?_) (fun c_10 => ?_)
        · have hr1 := it_t c_10 hr1
          refine lv_iload_n hx hb dX8_degree_31 rfl (lv_at hl 2 rfl) ?_
          refine lv_istore_n (lv' := [(2, .int i_1), (0, .ref (ad 0)), (1, .int a0), (3, .int i_2)]) hx hb dX8_degree_32 rfl hl (by decide) rfl (fun ls hl => ?_)
          refine lv_iinc (v := (i_2 + 1)) (lv' := [(3, .int (i_2 + 1)), (2, .int i_1), (0, .ref (ad 0)), (1, .int a0)]) hx hb dX8_degree_33 hl (k := 3) rfl rfl (by decide) rfl (fun ls hl => ?_)
          refine lv_goto (tgt := 4) hx hb dX8_degree_36 (by decide) ?_
          exact ih1 i_1 (i_2 + 1) (ht1 _ (Option.some.inj hr1).symm) H locs hP hD hS ls (lv_sub hl [2, 3, 1, 0] rfl)
        · have hr1 := it_f c_10 hr1
          refine lv_aload_n hx hb dX8_degree_22 rfl (lv_at hl 0 rfl) ?_
          refine lv_iload_n hx hb dX8_degree_23 rfl (lv_at hl 1 rfl) ?_
          refine lv_iload_n hx hb dX8_degree_24 rfl (lv_at hl 3 rfl) ?_
          obtain ⟨v_13, hq_12, hk⟩ := bd1_s hr1
          obtain ⟨r_11, rfl⟩ : ∃ y, y = v_13 := ⟨_, rfl⟩
          have hr1 := hk _ rfl
          refine callIA (gV (rest := []) ⟨hx, hb, hml, hown, hts⟩ hG hP hD 0 8 rfl rfl (mtX8_degreeAt l D cI cB cR ad H.size states whyKind whyOrder many wide textLong spot readColumns all past refused work kept chosen across sum one two base quotients text numbers entries before a0 i_2 r_11 hq_12) (cwV 2 hts gX8_degree_X8_degreeAt rfl rfl rfl ⟨rfl, hd_X8_degreeAt⟩ ⟨Nat.le_of_ble_eq_true rfl, Nat.le_of_ble_eq_true rfl⟩) rfl hl.1 rfl (Nat.le_of_ble_eq_true rfl) dX8_degree_25) hD hS hA (fun H locs hP hD hS => ?_)
          have hP : va_P D cls9 (wM cI ad states whyKind whyOrder many wide textLong spot readColumns all past refused work kept chosen across sum one two base quotients text numbers entries before) H := hP
          have hD : va_D A (wM cI ad states whyKind whyOrder many wide textLong spot readColumns all past refused work kept chosen across sum one two base quotients text numbers entries before) := hD
          refine lv_goto (tgt := 32) hx hb dX8_degree_28 (by decide) ?_
          refine lv_istore_n (lv' := [(2, .int r_11), (0, .ref (ad 0)), (1, .int a0), (3, .int i_2)]) hx hb dX8_degree_32 rfl hl (by decide) rfl (fun ls hl => ?_)
          refine lv_iinc (v := (i_2 + 1)) (lv' := [(3, .int (i_2 + 1)), (2, .int r_11), (0, .ref (ad 0)), (1, .int a0)]) hx hb dX8_degree_33 hl (k := 3) rfl rfl (by decide) rfl (fun ls hl => ?_)
          refine lv_goto (tgt := 4) hx hb dX8_degree_36 (by decide) ?_
          exact ih1 r_11 (i_2 + 1) (ht1 _ (Option.some.inj hr1).symm) H locs hP hD hS ls (lv_sub hl [2, 3, 1, 0] rfl)
  obtain ⟨n1, hn1⟩ := Lp_s hw1
  exact hL1 n1 (-1 : Int32) (0 : Int32) hn1 H locs hP hD hS ls (lv_sub hl [2, 3, 1, 0] rfl)
abbrev rm_X8_pivot : Room := { frames := 3, cells := 0, slots := 0, locals := 68 }
set_option maxHeartbeats 4000000 in
set_option maxRecDepth 100000 in
theorem mtX8_pivot (l : Launch) (D : va_G) (cI cB cR : ClassId) (ad : Nat → Nat) (sz : Nat) (states : Int32) (whyKind : Int32) (whyOrder : Int32) (many : Int32) (wide : Int32) (textLong : Int32) (spot : Int32) (readColumns : Int32) (all : Nat → Int32) (past : Nat → Int32) (refused : Nat → Int32) (work : Nat → Int32) (kept : Nat → Int32) (chosen : Nat → Int32) (across : Nat → Int32) (sum : Nat → Int32) (one : Nat → Int32) (two : Nat → Int32) (base : Nat → Int32) (quotients : Nat → Int32) (text : Nat → Int32) (numbers : Nat → Int32) (entries : Nat → Int32) (before : Nat → Int32) (a0 : Int32) (res : Int32) (hf : fX8_pivot all a0 = some res) : Met l yX8_pivot wsX8_pivot rm_X8_pivot (qP D cI cB cR [.ref (ad 0), .int a0] (wM cI ad states whyKind whyOrder many wide textLong spot readColumns all past refused work kept chosen across sum one two base quotients text numbers entries before) sz) (qI D res (wM cI ad states whyKind whyOrder many wide textLong spot readColumns all past refused work kept chosen across sum one two base quotients text numbers entries before) (wM cI ad states whyKind whyOrder many wide textLong spot readColumns all past refused work kept chosen across sum one two base quotients text numbers entries before) sz) 0 0 (va_A (wM cI ad states whyKind whyOrder many wide textLong spot readColumns all past refused work kept chosen across sum one two base quotients text numbers entries before) sz) := by
  refine entI (plainFor_of_name (by decide)) rfl (Nat.le_of_ble_eq_true rfl) ?_
  intro p e s m args below meth c Q A ls S hG hP hD hA hl hE
  obtain ⟨hx, hb, hml, hown, hts⟩ := S
  have hown : s.vm.findClass RX8 = some m.cls := hown
  have hS : va_S A s.heap s.heap [] := va_S.rf
  have hl : lv_has ls 4 [(0, .ref (ad 0)), (1, .int a0)] := hl
  have hq := hf
  unfold fX8_pivot at hq
  obtain ⟨H, hH⟩ : ∃ H, H = s.heap := ⟨_, rfl⟩
  obtain ⟨locs, hlo⟩ : ∃ L : List Loc, L = [] := ⟨_, rfl⟩
  have hP : va_P D cls9 (wM cI ad states whyKind whyOrder many wide textLong spot readColumns all past refused work kept chosen across sum one two base quotients text numbers entries before) H := hH ▸ hP
  have hS : va_S A s.heap H locs := by rw [hH, hlo]; exact hS
  suffices hg : W p l e rm_X8_pivot s m args below meth c H locs 0 0 Q (F0 m 0 ls []) by rw [hH, hlo] at hg; exact hg
  refine lv_iconst (v := -1) hx hb dX8_pivot_0 (by decide) ?_
  refine lv_istore_n (lv' := [(2, .int (-1 : Int32)), (0, .ref (ad 0)), (1, .int a0)]) hx hb dX8_pivot_1 rfl hl (by decide) rfl (fun ls hl => ?_)
  refine lv_iconst (v := 0) hx hb dX8_pivot_2 (by decide) ?_
  refine lv_istore_n (lv' := [(3, .int (0 : Int32)), (2, .int (-1 : Int32)), (0, .ref (ad 0)), (1, .int a0)]) hx hb dX8_pivot_3 rfl hl (by decide) rfl (fun ls hl => ?_)
  obtain ⟨w1, hw1, hk1⟩ := bd1_s hq
  have hX1 : ∀ (x_18 : Int32), w1 = x_18 → ∀ (H : Heap) (locs : List Loc), va_P D cls9 (wM cI ad states whyKind whyOrder many wide textLong spot readColumns all past refused work kept chosen across sum one two base quotients text numbers entries before) H → va_D A (wM cI ad states whyKind whyOrder many wide textLong spot readColumns all past refused work kept chosen across sum one two base quotients text numbers entries before) → va_S A s.heap H locs → ∀ (ls : Array Slot), lv_has ls 4 [(2, .int x_18)] → W p l e rm_X8_pivot s m args below meth c H locs 0 0 Q (F0 m 47 ls []) := by
    intro x_18 hq H locs hP hD hS ls hl
    have hq := hk1 _ hq
    refine lv_iload_n hx hb dX8_pivot_47 rfl (lv_at hl 0 rfl) ?_
    have he := Option.some.inj hq
    subst he
    exact hE H locs _ _ _ rfl dX8_pivot_48 hP hD hS
  have hL1 : ∀ (n : Nat) (i_1 : Int32) (i_2 : Int32), lrun (fun (z : Int32 × Int32) => fX8_pivot_s4 all a0 z.1 z.2) n (i_1, i_2) = some w1 → ∀ (H : Heap) (locs : List Loc), va_P D cls9 (wM cI ad states whyKind whyOrder many wide textLong spot readColumns all past refused work kept chosen across sum one two base quotients text numbers entries before) H → va_D A (wM cI ad states whyKind whyOrder many wide textLong spot readColumns all past refused work kept chosen across sum one two base quotients text numbers entries before) → va_S A s.heap H locs → ∀ (ls : Array Slot), lv_has ls 4 [(0, .ref (ad 0)), (1, .int a0), (2, .int i_1), (3, .int i_2)] → W p l e rm_X8_pivot s m args below meth c H locs 0 0 Q (F0 m 4 ls []) := by
    intro n
    induction n with
    | zero => intro i_1 i_2 h; cases h
    | succ n ih1 =>
      intro i_1 i_2 hr1 H locs hP hD hS ls hl
      obtain ⟨k, v1, hk, hr1, ht1, hv1⟩ := lrun_s hr1
      cases hk
      have hr1 : fX8_pivot_s4 all a0 i_1 i_2 = some v1 := hr1
      unfold fX8_pivot_s4 at hr1
      refine lv_iload_n hx hb dX8_pivot_4 rfl (lv_at hl 3 rfl) ?_
      refine lv_aload_n hx hb dX8_pivot_5 rfl (lv_at hl 0 rfl) ?_
      obtain ⟨v_5, hq_4, hk⟩ := bd1_s hr1
      obtain ⟨r_3, rfl⟩ : ∃ y, y = v_5 := ⟨_, rfl⟩
      have hr1 := hk _ rfl
      refine callIA (gV (rest := [.int i_2]) ⟨hx, hb, hml, hown, hts⟩ hG hP hD 0 8 rfl rfl (mtX8_width l D cI cB cR ad H.size states whyKind whyOrder many wide textLong spot readColumns all past refused work kept chosen across sum one two base quotients text numbers entries before r_3 hq_4) (cwV 0 hts gX8_pivot_X8_width rfl rfl rfl ⟨rfl, hd_X8_width⟩ ⟨Nat.le_of_ble_eq_true rfl, Nat.le_of_ble_eq_true rfl⟩) rfl hl.1 rfl (Nat.le_of_ble_eq_true rfl) dX8_pivot_6) hD hS hA (fun H locs hP hD hS => ?_)
      have hP : va_P D cls9 (wM cI ad states whyKind whyOrder many wide textLong spot readColumns all past refused work kept chosen across sum one two base quotients text numbers entries before) H := hP
      have hD : va_D A (wM cI ad states whyKind whyOrder many wide textLong spot readColumns all past refused work kept chosen across sum one two base quotients text numbers entries before) := hD
      refine lv_icmp_ge (tgt := 47) hx hb dX8_pivot_9 (by decide) (fun c_6 => ?_) (fun c_6 => ?_)
      · have hr1 := it_t c_6 hr1
        exact hX1 i_1 (hv1 _ (Option.some.inj hr1).symm).symm H locs hP hD hS ls (lv_sub hl [2] rfl)
      · have hr1 := it_f c_6 hr1
        refine lv_aload_n hx hb dX8_pivot_12 rfl (lv_at hl 0 rfl) ?_
        refine lv_iload_n hx hb dX8_pivot_13 rfl (lv_at hl 1 rfl) ?_
        refine lv_iload_n hx hb dX8_pivot_14 rfl (lv_at hl 3 rfl) ?_
        obtain ⟨v_9, hq_8, hk⟩ := bd1_s hr1
        obtain ⟨r_7, rfl⟩ : ∃ y, y = v_9 := ⟨_, rfl⟩
        have hr1 := hk _ rfl
        refine callIA (gV (rest := []) ⟨hx, hb, hml, hown, hts⟩ hG hP hD 0 8 rfl rfl (mtX8_degreeAt l D cI cB cR ad H.size states whyKind whyOrder many wide textLong spot readColumns all past refused work kept chosen across sum one two base quotients text numbers entries before a0 i_2 r_7 hq_8) (cwV 2 hts gX8_pivot_X8_degreeAt rfl rfl rfl ⟨rfl, hd_X8_degreeAt⟩ ⟨Nat.le_of_ble_eq_true rfl, Nat.le_of_ble_eq_true rfl⟩) rfl hl.1 rfl (Nat.le_of_ble_eq_true rfl) dX8_pivot_15) hD hS hA (fun H locs hP hD hS => ?_)
        have hP : va_P D cls9 (wM cI ad states whyKind whyOrder many wide textLong spot readColumns all past refused work kept chosen across sum one two base quotients text numbers entries before) H := hP
        have hD : va_D A (wM cI ad states whyKind whyOrder many wide textLong spot readColumns all past refused work kept chosen across sum one two base quotients text numbers entries before) := hD
        refine lv_if_lt (tgt := 39) hx hb dX8_pivot_18 (by decide) (fun c_10 => ?_) (fun c_10 => ?_)
        · have hr1 := it_t c_10 hr1
          refine lv_iload_n hx hb dX8_pivot_39 rfl (lv_at hl 2 rfl) ?_
          refine lv_istore_n (lv' := [(2, .int i_1), (0, .ref (ad 0)), (1, .int a0), (3, .int i_2)]) hx hb dX8_pivot_40 rfl hl (by decide) rfl (fun ls hl => ?_)
          refine lv_iinc (v := (i_2 + 1)) (lv' := [(3, .int (i_2 + 1)), (2, .int i_1), (0, .ref (ad 0)), (1, .int a0)]) hx hb dX8_pivot_41 hl (k := 3) rfl rfl (by decide) rfl (fun ls hl => ?_)
          refine lv_goto (tgt := 4) hx hb dX8_pivot_44 (by decide) ?_
          exact ih1 i_1 (i_2 + 1) (ht1 _ (Option.some.inj hr1).symm) H locs hP hD hS ls (lv_sub hl [2, 3, 1, 0] rfl)
        · have hr1 := it_f c_10 hr1
          refine lv_aload_n hx hb dX8_pivot_21 rfl (lv_at hl 0 rfl) ?_
          refine lv_iload_n hx hb dX8_pivot_22 rfl (lv_at hl 1 rfl) ?_
          refine lv_iload_n hx hb dX8_pivot_23 rfl (lv_at hl 3 rfl) ?_
          obtain ⟨v_13, hq_12, hk⟩ := bd1_s hr1
          obtain ⟨r_11, rfl⟩ : ∃ y, y = v_13 := ⟨_, rfl⟩
          have hr1 := hk _ rfl
          refine callIA (gV (rest := []) ⟨hx, hb, hml, hown, hts⟩ hG hP hD 0 8 rfl rfl (mtX8_degreeAt l D cI cB cR ad H.size states whyKind whyOrder many wide textLong spot readColumns all past refused work kept chosen across sum one two base quotients text numbers entries before a0 i_2 r_11 hq_12) (cwV 2 hts gX8_pivot_X8_degreeAt rfl rfl rfl ⟨rfl, hd_X8_degreeAt⟩ ⟨Nat.le_of_ble_eq_true rfl, Nat.le_of_ble_eq_true rfl⟩) rfl hl.1 rfl (Nat.le_of_ble_eq_true rfl) dX8_pivot_24) hD hS hA (fun H locs hP hD hS => ?_)
          have hP : va_P D cls9 (wM cI ad states whyKind whyOrder many wide textLong spot readColumns all past refused work kept chosen across sum one two base quotients text numbers entries before) H := hP
          have hD : va_D A (wM cI ad states whyKind whyOrder many wide textLong spot readColumns all past refused work kept chosen across sum one two base quotients text numbers entries before) := hD
          refine lv_aload_n hx hb dX8_pivot_27 rfl (lv_at hl 0 rfl) ?_
          refine lv_iload_n hx hb dX8_pivot_28 rfl (lv_at hl 1 rfl) ?_
          obtain ⟨v_16, hq_15, hk⟩ := bd1_s hr1
          obtain ⟨r_14, rfl⟩ : ∃ y, y = v_16 := ⟨_, rfl⟩
          have hr1 := hk _ rfl
          refine callIA (gV (rest := [.int r_11]) ⟨hx, hb, hml, hown, hts⟩ hG hP hD 0 8 rfl rfl (mtX8_degree l D cI cB cR ad H.size states whyKind whyOrder many wide textLong spot readColumns all past refused work kept chosen across sum one two base quotients text numbers entries before a0 r_14 hq_15) (cwV 1 hts gX8_pivot_X8_degree rfl rfl rfl ⟨rfl, hd_X8_degree⟩ ⟨Nat.le_of_ble_eq_true rfl, Nat.le_of_ble_eq_true rfl⟩) rfl hl.1 rfl (Nat.le_of_ble_eq_true rfl) dX8_pivot_29) hD hS hA (fun H locs hP hD hS => ?_)
          have hP : va_P D cls9 (wM cI ad states whyKind whyOrder many wide textLong spot readColumns all past refused work kept chosen across sum one two base quotients text numbers entries before) H := hP
          have hD : va_D A (wM cI ad states whyKind whyOrder many wide textLong spot readColumns all past refused work kept chosen across sum one two base quotients text numbers entries before) := hD
          refine lv_icmp_ne (tgt := 39) hx hb dX8_pivot_32 (by decide) (fun c_17 => ?_) (fun c_17 => ?_)
          · have hr1 := it_f c_17 hr1
            refine lv_iload_n hx hb dX8_pivot_39 rfl (lv_at hl 2 rfl) ?_
            refine lv_istore_n (lv' := [(2, .int i_1), (0, .ref (ad 0)), (1, .int a0), (3, .int i_2)]) hx hb dX8_pivot_40 rfl hl (by decide) rfl (fun ls hl => ?_)
            refine lv_iinc (v := (i_2 + 1)) (lv' := [(3, .int (i_2 + 1)), (2, .int i_1), (0, .ref (ad 0)), (1, .int a0)]) hx hb dX8_pivot_41 hl (k := 3) rfl rfl (by decide) rfl (fun ls hl => ?_)
            refine lv_goto (tgt := 4) hx hb dX8_pivot_44 (by decide) ?_
            exact ih1 i_1 (i_2 + 1) (ht1 _ (Option.some.inj hr1).symm) H locs hP hD hS ls (lv_sub hl [2, 3, 1, 0] rfl)
          · have hr1 := it_t c_17 hr1
            refine lv_iload_n hx hb dX8_pivot_35 rfl (lv_at hl 3 rfl) ?_
            refine lv_goto (tgt := 40) hx hb dX8_pivot_36 (by decide) ?_
            refine lv_istore_n (lv' := [(2, .int i_2), (0, .ref (ad 0)), (1, .int a0), (3, .int i_2)]) hx hb dX8_pivot_40 rfl hl (by decide) rfl (fun ls hl => ?_)
            refine lv_iinc (v := (i_2 + 1)) (lv' := [(3, .int (i_2 + 1)), (2, .int i_2), (0, .ref (ad 0)), (1, .int a0)]) hx hb dX8_pivot_41 hl (k := 3) rfl rfl (by decide) rfl (fun ls hl => ?_)
            refine lv_goto (tgt := 4) hx hb dX8_pivot_44 (by decide) ?_
            exact ih1 i_2 (i_2 + 1) (ht1 _ (Option.some.inj hr1).symm) H locs hP hD hS ls (lv_sub hl [2, 3, 1, 0] rfl)
  obtain ⟨n1, hn1⟩ := Lp_s hw1
  exact hL1 n1 (-1 : Int32) (0 : Int32) hn1 H locs hP hD hS ls (lv_sub hl [2, 3, 1, 0] rfl)
abbrev rm_X8_lead : Room := { frames := 4, cells := 0, slots := 0, locals := 91 }
theorem iX8_lead_X8 : ∀ w ∈ wsX80, w ∈ wsX8_lead := fun _ h => (List.mem_cons_of_mem _ (List.mem_append_right _ h))
theorem fX8_lead_1 : Cond.fieldLink RX8 7 "PopovRowsModel" "all" "[I" ∈ wsX8_lead := (List.mem_cons_of_mem _ (List.mem_append_left _ (List.mem_of_getElem? (i := 0) rfl)))
set_option maxHeartbeats 4000000 in
set_option maxRecDepth 100000 in
theorem mtX8_lead (l : Launch) (D : va_G) (cI cB cR : ClassId) (ad : Nat → Nat) (sz : Nat) (states : Int32) (whyKind : Int32) (whyOrder : Int32) (many : Int32) (wide : Int32) (textLong : Int32) (spot : Int32) (readColumns : Int32) (all : Nat → Int32) (past : Nat → Int32) (refused : Nat → Int32) (work : Nat → Int32) (kept : Nat → Int32) (chosen : Nat → Int32) (across : Nat → Int32) (sum : Nat → Int32) (one : Nat → Int32) (two : Nat → Int32) (base : Nat → Int32) (quotients : Nat → Int32) (text : Nat → Int32) (numbers : Nat → Int32) (entries : Nat → Int32) (before : Nat → Int32) (a0 : Int32) (res : Int32) (hf : fX8_lead all a0 = some res) : Met l yX8_lead wsX8_lead rm_X8_lead (qP D cI cB cR [.ref (ad 0), .int a0] (wM cI ad states whyKind whyOrder many wide textLong spot readColumns all past refused work kept chosen across sum one two base quotients text numbers entries before) sz) (qI D res (wM cI ad states whyKind whyOrder many wide textLong spot readColumns all past refused work kept chosen across sum one two base quotients text numbers entries before) (wM cI ad states whyKind whyOrder many wide textLong spot readColumns all past refused work kept chosen across sum one two base quotients text numbers entries before) sz) 0 0 (va_A (wM cI ad states whyKind whyOrder many wide textLong spot readColumns all past refused work kept chosen across sum one two base quotients text numbers entries before) sz) := by
  refine entI (plainFor_of_name (by decide)) rfl (Nat.le_of_ble_eq_true rfl) ?_
  intro p e s m args below meth c Q A ls S hG hP hD hA hl hE
  obtain ⟨hx, hb, hml, hown, hts⟩ := S
  have hown : s.vm.findClass RX8 = some m.cls := hown
  have hS : va_S A s.heap s.heap [] := va_S.rf
  have hl : lv_has ls 3 [(0, .ref (ad 0)), (1, .int a0)] := hl
  have hq := hf
  unfold fX8_lead at hq
  obtain ⟨H, hH⟩ : ∃ H, H = s.heap := ⟨_, rfl⟩
  obtain ⟨locs, hlo⟩ : ∃ L : List Loc, L = [] := ⟨_, rfl⟩
  have hP : va_P D cls9 (wM cI ad states whyKind whyOrder many wide textLong spot readColumns all past refused work kept chosen across sum one two base quotients text numbers entries before) H := hH ▸ hP
  have hS : va_S A s.heap H locs := by rw [hH, hlo]; exact hS
  suffices hg : W p l e rm_X8_lead s m args below meth c H locs 0 0 Q (F0 m 0 ls []) by rw [hH, hlo] at hg; exact hg
  refine lv_aload_n hx hb dX8_lead_0 rfl (lv_at hl 0 rfl) ?_
  refine lv_iload_n hx hb dX8_lead_1 rfl (lv_at hl 1 rfl) ?_
  obtain ⟨v_3, hq_2, hk⟩ := bd1_s hq
  obtain ⟨r_1, rfl⟩ : ∃ y, y = v_3 := ⟨_, rfl⟩
  have hq := hk _ rfl
  refine callIA (gV (rest := []) ⟨hx, hb, hml, hown, hts⟩ hG hP hD 0 8 rfl rfl (mtX8_pivot l D cI cB cR ad H.size states whyKind whyOrder many wide textLong spot readColumns all past refused work kept chosen across sum one two base quotients text numbers entries before a0 r_1 hq_2) (cwV 1 hts gX8_lead_X8_pivot rfl rfl rfl ⟨rfl, hd_X8_pivot⟩ ⟨Nat.le_of_ble_eq_true rfl, Nat.le_of_ble_eq_true rfl⟩) rfl hl.1 rfl (Nat.le_of_ble_eq_true rfl) dX8_lead_2) hD hS hA (fun H locs hP hD hS => ?_)
  have hP : va_P D cls9 (wM cI ad states whyKind whyOrder many wide textLong spot readColumns all past refused work kept chosen across sum one two base quotients text numbers entries before) H := hP
  have hD : va_D A (wM cI ad states whyKind whyOrder many wide textLong spot readColumns all past refused work kept chosen across sum one two base quotients text numbers entries before) := hD
  refine lv_istore_n (lv' := [(2, .int r_1), (0, .ref (ad 0)), (1, .int a0)]) hx hb dX8_lead_5 rfl hl (by decide) rfl (fun ls hl => ?_)
  refine lv_iload_n hx hb dX8_lead_6 rfl (lv_at hl 0 rfl) ?_
  refine lv_if_ge (tgt := 14) hx hb dX8_lead_7 (by decide) (fun c_4 => ?_) (fun c_4 => ?_)
  · have hq := it_t c_4 hq
    refine lv_aload_n hx hb dX8_lead_14 rfl (lv_at hl 1 rfl) ?_
    refine va_get (D := D) (ci := 8) (v := .ref (ad 1)) (C := RX8) (T := TX8) (N := 24) hx hb hts iX8_lead_X8 hown hG.1 hP 0 rfl rfl 0 (by decide) (hts _ fX8_lead_1) (fun _ h9 => h9) rfl dX8_lead_15 ?_
    refine lv_iload_n hx hb dX8_lead_18 rfl (lv_at hl 2 rfl) ?_
    refine lv_iload_n hx hb dX8_lead_19 rfl (lv_at hl 0 rfl) ?_
    refine lv_aload_n hx hb dX8_lead_20 rfl (lv_at hl 1 rfl) ?_
    refine lv_iload_n hx hb dX8_lead_21 rfl (lv_at hl 2 rfl) ?_
    obtain ⟨v_7, hq_6, hk⟩ := bd1_s hq
    obtain ⟨r_5, rfl⟩ : ∃ y, y = v_7 := ⟨_, rfl⟩
    have hq := hk _ rfl
    refine callIA (gV (rest := [.int r_1, .int a0, .ref (ad 1)]) ⟨hx, hb, hml, hown, hts⟩ hG hP hD 0 8 rfl rfl (mtX8_degree l D cI cB cR ad H.size states whyKind whyOrder many wide textLong spot readColumns all past refused work kept chosen across sum one two base quotients text numbers entries before a0 r_5 hq_6) (cwV 1 hts gX8_lead_X8_degree rfl rfl rfl ⟨rfl, hd_X8_degree⟩ ⟨Nat.le_of_ble_eq_true rfl, Nat.le_of_ble_eq_true rfl⟩) rfl hl.1 rfl (Nat.le_of_ble_eq_true rfl) dX8_lead_22) hD hS hA (fun H locs hP hD hS => ?_)
    have hP : va_P D cls9 (wM cI ad states whyKind whyOrder many wide textLong spot readColumns all past refused work kept chosen across sum one two base quotients text numbers entries before) H := hP
    have hD : va_D A (wM cI ad states whyKind whyOrder many wide textLong spot readColumns all past refused work kept chosen across sum one two base quotients text numbers entries before) := hD
    refine callI0 (gS (rest := [.ref (ad 1)]) ⟨hx, hb, hml, hown, hts⟩ hG vaP0 (vaD0 (A := A)) (mtX8_place l D cI cB cR H.size a0 r_1 r_5 _ rfl) (va_cwS 3 hts gX8_lead_X8_place rfl rfl rfl hd_X8_place ⟨Nat.le_of_ble_eq_true rfl, Nat.le_of_ble_eq_true rfl⟩) rfl hl.1 rfl (Nat.le_of_ble_eq_true rfl) dX8_lead_25) hP hS hA (fun H locs hP hS => ?_)
    obtain ⟨h_8, hq⟩ := gd_s hq
    refine va_iald hx hb hG.1 hP 1 0 rfl rfl h_8 dX8_lead_28 ?_
    have he := Option.some.inj hq
    subst he
    exact hE H locs _ _ _ rfl dX8_lead_29 hP hD hS
  · have hq := it_f c_4 hq
    refine lv_iconst (v := 0) hx hb dX8_lead_10 (by decide) ?_
    refine lv_goto (tgt := 29) hx hb dX8_lead_11 (by decide) ?_
    have he := Option.some.inj hq
    subst he
    exact hE H locs _ _ _ rfl dX8_lead_29 hP hD hS
abbrev rm_X8_clears : Room := { frames := 0, cells := 0, slots := 0, locals := 0 }
theorem iX8_clears_X8 : ∀ w ∈ wsX80, w ∈ wsX8_clears := fun _ h => (List.mem_cons_of_mem _ (List.mem_append_right _ h))
theorem fX8_clears_1 : Cond.fieldLink RX8 7 "PopovRowsModel" "all" "[I" ∈ wsX8_clears := (List.mem_cons_of_mem _ (List.mem_append_left _ (List.mem_of_getElem? (i := 0) rfl)))
set_option maxHeartbeats 4000000 in
set_option maxRecDepth 100000 in
theorem mtX8_clears (l : Launch) (D : va_G) (cI cB cR : ClassId) (ad : Nat → Nat) (sz : Nat) (states : Int32) (whyKind : Int32) (whyOrder : Int32) (many : Int32) (wide : Int32) (textLong : Int32) (spot : Int32) (readColumns : Int32) (all : Nat → Int32) (past : Nat → Int32) (refused : Nat → Int32) (work : Nat → Int32) (kept : Nat → Int32) (chosen : Nat → Int32) (across : Nat → Int32) (sum : Nat → Int32) (one : Nat → Int32) (two : Nat → Int32) (base : Nat → Int32) (quotients : Nat → Int32) (text : Nat → Int32) (numbers : Nat → Int32) (entries : Nat → Int32) (before : Nat → Int32) (res : Nat → Int32) (hf : fX8_clears all = some res) : Met l yX8_clears wsX8_clears rm_X8_clears (qP D cI cB cR [.ref (ad 0)] (wM cI ad states whyKind whyOrder many wide textLong spot readColumns all past refused work kept chosen across sum one two base quotients text numbers entries before) sz) (qV D (wM cI ad states whyKind whyOrder many wide textLong spot readColumns all past refused work kept chosen across sum one two base quotients text numbers entries before) (wM cI ad states whyKind whyOrder many wide textLong spot readColumns res past refused work kept chosen across sum one two base quotients text numbers entries before) sz) 0 0 (va_A (wM cI ad states whyKind whyOrder many wide textLong spot readColumns all past refused work kept chosen across sum one two base quotients text numbers entries before) sz) := by
  refine entV (plainFor_of_name (by decide)) rfl (Nat.le_of_ble_eq_true rfl) ?_
  intro p e s m args below meth c Q A ls S hG hP hD hA hl hE
  obtain ⟨hx, hb, hml, hown, hts⟩ := S
  have hown : s.vm.findClass RX8 = some m.cls := hown
  have hS : va_S A s.heap s.heap [] := va_S.rf
  have hl : lv_has ls 2 [(0, .ref (ad 0))] := hl
  have hq := hf
  unfold fX8_clears at hq
  obtain ⟨H, hH⟩ : ∃ H, H = s.heap := ⟨_, rfl⟩
  obtain ⟨locs, hlo⟩ : ∃ L : List Loc, L = [] := ⟨_, rfl⟩
  have hP : va_P D cls9 (wM cI ad states whyKind whyOrder many wide textLong spot readColumns all past refused work kept chosen across sum one two base quotients text numbers entries before) H := hH ▸ hP
  have hS : va_S A s.heap H locs := by rw [hH, hlo]; exact hS
  suffices hg : W p l e rm_X8_clears s m args below meth c H locs 0 0 Q (F0 m 0 ls []) by rw [hH, hlo] at hg; exact hg
  refine lv_iconst (v := 2) hx hb dX8_clears_0 (by decide) ?_
  refine lv_istore_n (lv' := [(1, .int (2 : Int32)), (0, .ref (ad 0))]) hx hb dX8_clears_1 rfl hl (by decide) rfl (fun ls hl => ?_)
  obtain ⟨w1, hw1, hk1⟩ := bd1_s hq
  have hX1 : ∀ (x_5 : Nat → Int32), w1 = x_5 → ∀ (H : Heap) (locs : List Loc), va_P D cls9 (wM cI ad states whyKind whyOrder many wide textLong spot readColumns x_5 past refused work kept chosen across sum one two base quotients text numbers entries before) H → va_D A (wM cI ad states whyKind whyOrder many wide textLong spot readColumns x_5 past refused work kept chosen across sum one two base quotients text numbers entries before) → va_S A s.heap H locs → ∀ (ls : Array Slot), lv_has ls 2 [] → W p l e rm_X8_clears s m args below meth c H locs 0 0 Q (F0 m 21 ls []) := by
    intro x_5 hq H locs hP hD hS ls hl
    have hq := hk1 _ hq
    have he := Option.some.inj hq
    subst he
    exact hE H locs _ _ dX8_clears_21 hP hD hS
  have hL1 : ∀ (n : Nat) (i_1 : Int32) (i_2 : Nat → Int32), lrun (fun (z : Int32 × (Nat → Int32)) => fX8_clears_s2 z.1 z.2) n (i_1, i_2) = some w1 → ∀ (H : Heap) (locs : List Loc), va_P D cls9 (wM cI ad states whyKind whyOrder many wide textLong spot readColumns i_2 past refused work kept chosen across sum one two base quotients text numbers entries before) H → va_D A (wM cI ad states whyKind whyOrder many wide textLong spot readColumns i_2 past refused work kept chosen across sum one two base quotients text numbers entries before) → va_S A s.heap H locs → ∀ (ls : Array Slot), lv_has ls 2 [(0, .ref (ad 0)), (1, .int i_1)] → W p l e rm_X8_clears s m args below meth c H locs 0 0 Q (F0 m 2 ls []) := by
    intro n
    induction n with
    | zero => intro i_1 i_2 h; cases h
    | succ n ih1 =>
      intro i_1 i_2 hr1 H locs hP hD hS ls hl
      obtain ⟨k, v1, hk, hr1, ht1, hv1⟩ := lrun_s hr1
      cases hk
      have hr1 : fX8_clears_s2 i_1 i_2 = some v1 := hr1
      unfold fX8_clears_s2 at hr1
      refine lv_iload_n hx hb dX8_clears_2 rfl (lv_at hl 1 rfl) ?_
      refine lv_bipush (v := 108) hx hb dX8_clears_3 (by decide) ?_
      refine lv_icmp_ge (tgt := 21) hx hb dX8_clears_5 (by decide) (fun c_3 => ?_) (fun c_3 => ?_)
      · have hr1 := it_t c_3 hr1
        exact hX1 i_2 (hv1 _ (Option.some.inj hr1).symm).symm H locs hP hD hS ls (lv_sub hl [] rfl)
      · have hr1 := it_f c_3 hr1
        refine lv_aload_n hx hb dX8_clears_8 rfl (lv_at hl 0 rfl) ?_
        refine va_get (D := D) (ci := 8) (v := .ref (ad 1)) (C := RX8) (T := TX8) (N := 24) hx hb hts iX8_clears_X8 hown hG.1 hP 0 rfl rfl 0 (by decide) (hts _ fX8_clears_1) (fun _ h9 => h9) rfl dX8_clears_9 ?_
        refine lv_iload_n hx hb dX8_clears_12 rfl (lv_at hl 1 rfl) ?_
        refine lv_iconst (v := 0) hx hb dX8_clears_13 (by decide) ?_
        obtain ⟨h_4, hr1⟩ := gd_s hr1
        refine va_iast hx hb hG.1 hP hD hS 1 0 rfl rfl h_4 dX8_clears_14 (fun H locs hP hD hS => ?_)
        have hP : va_P D cls9 (wM cI ad states whyKind whyOrder many wide textLong spot readColumns (upd i_2 i_1.toNatClampNeg (0 : Int32)) past refused work kept chosen across sum one two base quotients text numbers entries before) H := hP
        have hD : va_D A (wM cI ad states whyKind whyOrder many wide textLong spot readColumns (upd i_2 i_1.toNatClampNeg (0 : Int32)) past refused work kept chosen across sum one two base quotients text numbers entries before) := hD
        refine lv_iinc (v := (i_1 + 1)) (lv' := [(1, .int (i_1 + 1)), (0, .ref (ad 0))]) hx hb dX8_clears_15 hl (k := 1) rfl rfl (by decide) rfl (fun ls hl => ?_)
        refine lv_goto (tgt := 2) hx hb dX8_clears_18 (by decide) ?_
        exact ih1 (i_1 + 1) (upd i_2 i_1.toNatClampNeg (0 : Int32)) (ht1 _ (Option.some.inj hr1).symm) H locs hP hD hS ls (lv_sub hl [1, 0] rfl)
  obtain ⟨n1, hn1⟩ := Lp_s hw1
  exact hL1 n1 (2 : Int32) all hn1 H locs hP hD hS ls (lv_sub hl [1, 0] rfl)
abbrev rm_X8_isPrime : Room := { frames := 0, cells := 0, slots := 0, locals := 0 }
set_option maxHeartbeats 4000000 in
set_option maxRecDepth 100000 in
theorem mtX8_isPrime (l : Launch) (D : va_G) (cI cB cR : ClassId) (sz : Nat) (a0 : Int32) (res : Int32) (hf : fX8_isPrime a0 = some res) : Met l yX8_isPrime wsX8_isPrime rm_X8_isPrime (qP D cI cB cR [.int a0] ([] : va_W) sz) (qZ D res ([] : va_W) ([] : va_W) sz) 0 0 (va_A ([] : va_W) sz) := by
  refine entZ (plainFor_of_name (by decide)) rfl (Nat.le_of_ble_eq_true rfl) ?_
  intro p e s m args below meth c Q A ls S hG hP hD hA hl hE
  obtain ⟨hx, hb, hml, hown, hts⟩ := S
  have hown : s.vm.findClass RX8 = some m.cls := hown
  have hS : va_S A s.heap s.heap [] := va_S.rf
  have hl : lv_has ls 1 [(0, .int a0)] := hl
  have hq := hf
  unfold fX8_isPrime at hq
  obtain ⟨H, hH⟩ : ∃ H, H = s.heap := ⟨_, rfl⟩
  obtain ⟨locs, hlo⟩ : ∃ L : List Loc, L = [] := ⟨_, rfl⟩
  have hP : va_P D cls9 ([] : va_W) H := hH ▸ hP
  have hS : va_S A s.heap H locs := by rw [hH, hlo]; exact hS
  suffices hg : W p l e rm_X8_isPrime s m args below meth c H locs 0 0 Q (F0 m 0 ls []) by rw [hH, hlo] at hg; exact hg
  refine lv_iload_n hx hb dX8_isPrime_0 rfl (lv_at hl 0 rfl) ?_
  refine lv_iconst (v := 2) hx hb dX8_isPrime_1 (by decide) ?_
  obtain ⟨v1, hj1, hk1⟩ := bd1_s hq
  have hJ1 : ∀ (j_5 : Int32), v1 = j_5 → (j_5 = 0 ∨ j_5 = 1) → ∀ (H : Heap) (locs : List Loc), va_P D cls9 ([] : va_W) H → va_D A ([] : va_W) → va_S A s.heap H locs → ∀ (ls : Array Slot), lv_has ls 1 [] → W p l e rm_X8_isPrime s m args below meth c H locs 0 0 Q (F0 m 26 ls [.int j_5]) := by
    intro j_5 hq zj_5 H locs hP hD hS ls hl
    have hq := hk1 _ hq
    have he := Option.some.inj hq
    subst he
    exact hE H locs _ _ _ rfl zj_5 dX8_isPrime_26 hP hD hS
  refine lv_icmp_eq (tgt := 21) hx hb dX8_isPrime_2 (by decide) (fun c_1 => ?_) (fun c_1 => ?_)
  · have hj1 := it_t c_1 hj1
    refine lv_iconst (v := 1) hx hb dX8_isPrime_21 (by decide) ?_
    refine lv_goto (tgt := 26) hx hb dX8_isPrime_22 (by decide) ?_
    exact hJ1 (1 : Int32) (Option.some.inj hj1).symm (Or.inr rfl) H locs hP hD hS ls (lv_sub hl [] rfl)
  · have hj1 := it_f c_1 hj1
    refine lv_iload_n hx hb dX8_isPrime_5 rfl (lv_at hl 0 rfl) ?_
    refine lv_iconst (v := 3) hx hb dX8_isPrime_6 (by decide) ?_
    refine lv_icmp_eq (tgt := 21) hx hb dX8_isPrime_7 (by decide) (fun c_2 => ?_) (fun c_2 => ?_)
    · have hj1 := it_t c_2 hj1
      refine lv_iconst (v := 1) hx hb dX8_isPrime_21 (by decide) ?_
      refine lv_goto (tgt := 26) hx hb dX8_isPrime_22 (by decide) ?_
      exact hJ1 (1 : Int32) (Option.some.inj hj1).symm (Or.inr rfl) H locs hP hD hS ls (lv_sub hl [] rfl)
    · have hj1 := it_f c_2 hj1
      refine lv_iload_n hx hb dX8_isPrime_10 rfl (lv_at hl 0 rfl) ?_
      refine lv_iconst (v := 5) hx hb dX8_isPrime_11 (by decide) ?_
      refine lv_icmp_eq (tgt := 21) hx hb dX8_isPrime_12 (by decide) (fun c_3 => ?_) (fun c_3 => ?_)
      · have hj1 := it_t c_3 hj1
        refine lv_iconst (v := 1) hx hb dX8_isPrime_21 (by decide) ?_
        refine lv_goto (tgt := 26) hx hb dX8_isPrime_22 (by decide) ?_
        exact hJ1 (1 : Int32) (Option.some.inj hj1).symm (Or.inr rfl) H locs hP hD hS ls (lv_sub hl [] rfl)
      · have hj1 := it_f c_3 hj1
        refine lv_iload_n hx hb dX8_isPrime_15 rfl (lv_at hl 0 rfl) ?_
        refine lv_bipush (v := 7) hx hb dX8_isPrime_16 (by decide) ?_
        refine lv_icmp_ne (tgt := 25) hx hb dX8_isPrime_18 (by decide) (fun c_4 => ?_) (fun c_4 => ?_)
        · have hj1 := it_f c_4 hj1
          refine lv_iconst (v := 0) hx hb dX8_isPrime_25 (by decide) ?_
          exact hJ1 (0 : Int32) (Option.some.inj hj1).symm (Or.inl rfl) H locs hP hD hS ls (lv_sub hl [] rfl)
        · have hj1 := it_t c_4 hj1
          refine lv_iconst (v := 1) hx hb dX8_isPrime_21 (by decide) ?_
          refine lv_goto (tgt := 26) hx hb dX8_isPrime_22 (by decide) ?_
          exact hJ1 (1 : Int32) (Option.some.inj hj1).symm (Or.inr rfl) H locs hP hD hS ls (lv_sub hl [] rfl)
