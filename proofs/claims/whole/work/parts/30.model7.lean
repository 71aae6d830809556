abbrev rm_X8_isMade : Room := { frames := 8, cells := 0, slots := 0, locals := 192 }
theorem iX8_isMade_X8 : ∀ w ∈ wsX80, w ∈ wsX8_isMade := fun _ h => (List.mem_cons_of_mem _ (List.mem_append_right _ h))
theorem fX8_isMade_1 : Cond.fieldLink RX8 178 "PopovRowsModel" "many" "I" ∈ wsX8_isMade := (List.mem_cons_of_mem _ (List.mem_append_left _ (List.mem_append_left _ (List.mem_of_getElem? (i := 0) rfl))))
set_option maxHeartbeats 4000000 in
set_option maxRecDepth 100000 in
theorem mtX8_isMade (l : Launch) (D : va_G) (cI cB cR : ClassId) (ad : Nat → Nat) (sz : Nat) (states : Int32) (whyKind : Int32) (whyOrder : Int32) (many : Int32) (wide : Int32) (textLong : Int32) (spot : Int32) (readColumns : Int32) (all : Nat → Int32) (past : Nat → Int32) (refused : Nat → Int32) (work : Nat → Int32) (kept : Nat → Int32) (chosen : Nat → Int32) (across : Nat → Int32) (sum : Nat → Int32) (one : Nat → Int32) (two : Nat → Int32) (base : Nat → Int32) (quotients : Nat → Int32) (text : Nat → Int32) (numbers : Nat → Int32) (entries : Nat → Int32) (before : Nat → Int32) (a0 : Int32) (a1 : Int32) (res : Int32 × Int32 × Int32 × (Nat → Int32)) (hf : fX8_isMade all work a0 a1 = some res) : Met l yX8_isMade wsX8_isMade rm_X8_isMade (qP D cI cB cR [.ref (ad 0), .int a0, .int a1] (wM cI ad states whyKind whyOrder many wide textLong spot readColumns all past refused work kept chosen across sum one two base quotients text numbers entries before) sz) (qZ D res.1 (wM cI ad states whyKind whyOrder many wide textLong spot readColumns all past refused work kept chosen across sum one two base quotients text numbers entries before) (wM cI ad states whyKind whyOrder res.2.1 res.2.2.1 textLong spot readColumns all past refused res.2.2.2 kept chosen across sum one two base quotients text numbers entries before) sz) 0 0 (va_A (wM cI ad states whyKind whyOrder many wide textLong spot readColumns all past refused work kept chosen across sum one two base quotients text numbers entries before) sz) := by
  refine entZ (plainFor_of_name (by decide)) rfl (Nat.le_of_ble_eq_true rfl) ?_
  intro p e s m args below meth c Q A ls S hG hP hD hA hl hE
  obtain ⟨hx, hb, hml, hown, hts⟩ := S
  have hown : s.vm.findClass RX8 = some m.cls := hown
  have hS : va_S A s.heap s.heap [] := va_S.rf
  have hl : lv_has ls 3 [(0, .ref (ad 0)), (1, .int a0), (2, .int a1)] := hl
  have hq := hf
  unfold fX8_isMade at hq
  obtain ⟨H, hH⟩ : ∃ H, H = s.heap := ⟨_, rfl⟩
  obtain ⟨locs, hlo⟩ : ∃ L : List Loc, L = [] := ⟨_, rfl⟩
  have hP : va_P D cls9 (wM cI ad states whyKind whyOrder many wide textLong spot readColumns all past refused work kept chosen across sum one two base quotients text numbers entries before) H := hH ▸ hP
  have hS : va_S A s.heap H locs := by rw [hH, hlo]; exact hS
  suffices hg : W p l e rm_X8_isMade s m args below meth c H locs 0 0 Q (F0 m 0 ls []) by rw [hH, hlo] at hg; exact hg
  refine lv_aload_n hx hb dX8_isMade_0 rfl (lv_at hl 0 rfl) ?_
  refine lv_iload_n hx hb dX8_isMade_1 rfl (lv_at hl 1 rfl) ?_
  refine lv_iload_n hx hb dX8_isMade_2 rfl (lv_at hl 2 rfl) ?_
  obtain ⟨v_5, hq_4, hk⟩ := bd3_s hq
  obtain ⟨u_1, u_2, u_3⟩ := v_5
  have hq := hk _ _ _ rfl
  refine callVA (gV (rest := []) ⟨hx, hb, hml, hown, hts⟩ hG hP hD 0 8 rfl rfl (mtX8_rests l D cI cB cR ad H.size states whyKind whyOrder many wide textLong spot readColumns all past refused work kept chosen across sum one two base quotients text numbers entries before a0 a1 (u_1, u_2, u_3) hq_4) (cwV 2 hts gX8_isMade_X8_rests rfl rfl rfl ⟨rfl, hd_X8_rests⟩ ⟨Nat.le_of_ble_eq_true rfl, Nat.le_of_ble_eq_true rfl⟩) rfl hl.1 rfl (Nat.le_of_ble_eq_true rfl) dX8_isMade_3) hD hS hA (fun H locs hP hD hS => ?_)
  have hP : va_P D cls9 (wM cI ad states whyKind whyOrder u_1 u_2 textLong spot readColumns all past refused u_3 kept chosen across sum one two base quotients text numbers entries before) H := hP
  have hD : va_D A (wM cI ad states whyKind whyOrder u_1 u_2 textLong spot readColumns all past refused u_3 kept chosen across sum one two base quotients text numbers entries before) := hD
  refine lv_aload_n hx hb dX8_isMade_6 rfl (lv_at hl 0 rfl) ?_
  refine lv_aload_n hx hb dX8_isMade_7 rfl (lv_at hl 0 rfl) ?_
  refine va_get (D := D) (ci := 8) (v := .int u_1) (C := RX8) (T := TX8) (N := 24) hx hb hts iX8_isMade_X8 hown hG.1 hP 0 rfl rfl 7 (by decide) (hts _ fX8_isMade_1) (fun _ h9 => h9) rfl dX8_isMade_8 ?_
  obtain ⟨v_8, hq_7, hk⟩ := bd1_s hq
  obtain ⟨r_6, rfl⟩ : ∃ y, y = v_8 := ⟨_, rfl⟩
  have hq := hk _ rfl
  refine callIA (gV (rest := []) ⟨hx, hb, hml, hown, hts⟩ hG hP hD 0 8 rfl rfl (mtX8_workDegree l D cI cB cR ad H.size states whyKind whyOrder u_1 u_2 textLong spot readColumns all past refused u_3 kept chosen across sum one two base quotients text numbers entries before u_1 r_6 hq_7) (cwV 1 hts gX8_isMade_X8_workDegree rfl rfl rfl ⟨rfl, hd_X8_workDegree⟩ ⟨Nat.le_of_ble_eq_true rfl, Nat.le_of_ble_eq_true rfl⟩) rfl hl.1 rfl (Nat.le_of_ble_eq_true rfl) dX8_isMade_11) hD hS hA (fun H locs hP hD hS => ?_)
  have hP : va_P D cls9 (wM cI ad states whyKind whyOrder u_1 u_2 textLong spot readColumns all past refused u_3 kept chosen across sum one two base quotients text numbers entries before) H := hP
  have hD : va_D A (wM cI ad states whyKind whyOrder u_1 u_2 textLong spot readColumns all past refused u_3 kept chosen across sum one two base quotients text numbers entries before) := hD
  refine lv_if_ge (tgt := 21) hx hb dX8_isMade_14 (by decide) (fun c_9 => ?_) (fun c_9 => ?_)
  · have hq := it_t c_9 hq
    refine lv_iconst (v := 0) hx hb dX8_isMade_21 (by decide) ?_
    have he := Option.some.inj hq
    subst he
    exact hE H locs _ _ _ rfl (Or.inl rfl) dX8_isMade_22 hP hD hS
  · have hq := it_f c_9 hq
    refine lv_iconst (v := 1) hx hb dX8_isMade_17 (by decide) ?_
    refine lv_goto (tgt := 22) hx hb dX8_isMade_18 (by decide) ?_
    have he := Option.some.inj hq
    subst he
    exact hE H locs _ _ _ rfl (Or.inr rfl) dX8_isMade_22 hP hD hS
abbrev rm_X8_made : Room := { frames := 9, cells := 0, slots := 0, locals := 214 }
set_option maxHeartbeats 4000000 in
set_option maxRecDepth 100000 in
theorem mtX8_made (l : Launch) (D : va_G) (cI cB cR : ClassId) (ad : Nat → Nat) (sz : Nat) (states : Int32) (whyKind : Int32) (whyOrder : Int32) (many : Int32) (wide : Int32) (textLong : Int32) (spot : Int32) (readColumns : Int32) (all : Nat → Int32) (past : Nat → Int32) (refused : Nat → Int32) (work : Nat → Int32) (kept : Nat → Int32) (chosen : Nat → Int32) (across : Nat → Int32) (sum : Nat → Int32) (one : Nat → Int32) (two : Nat → Int32) (base : Nat → Int32) (quotients : Nat → Int32) (text : Nat → Int32) (numbers : Nat → Int32) (entries : Nat → Int32) (before : Nat → Int32) (a0 : Int32) (a1 : Int32) (res : Int32 × Int32 × Int32 × (Nat → Int32) × (Nat → Int32)) (hf : fX8_made many wide all refused work a0 a1 = some res) : Met l yX8_made wsX8_made rm_X8_made (qP D cI cB cR [.ref (ad 0), .int a0, .int a1] (wM cI ad states whyKind whyOrder many wide textLong spot readColumns all past refused work kept chosen across sum one two base quotients text numbers entries before) sz) (qI D res.1 (wM cI ad states whyKind whyOrder many wide textLong spot readColumns all past refused work kept chosen across sum one two base quotients text numbers entries before) (wM cI ad states whyKind whyOrder res.2.1 res.2.2.1 textLong spot readColumns all past res.2.2.2.1 res.2.2.2.2 kept chosen across sum one two base quotients text numbers entries before) sz) 0 0 (va_A (wM cI ad states whyKind whyOrder many wide textLong spot readColumns all past refused work kept chosen across sum one two base quotients text numbers entries before) sz) := by
  refine entI (plainFor_of_name (by decide)) rfl (Nat.le_of_ble_eq_true rfl) ?_
  intro p e s m args below meth c Q A ls S hG hP hD hA hl hE
  obtain ⟨hx, hb, hml, hown, hts⟩ := S
  have hown : s.vm.findClass RX8 = some m.cls := hown
  have hS : va_S A s.heap s.heap [] := va_S.rf
  have hl : lv_has ls 3 [(0, .ref (ad 0)), (1, .int a0), (2, .int a1)] := hl
  have hq := hf
  unfold fX8_made at hq
  obtain ⟨H, hH⟩ : ∃ H, H = s.heap := ⟨_, rfl⟩
  obtain ⟨locs, hlo⟩ : ∃ L : List Loc, L = [] := ⟨_, rfl⟩
  have hP : va_P D cls9 (wM cI ad states whyKind whyOrder many wide textLong spot readColumns all past refused work kept chosen across sum one two base quotients text numbers entries before) H := hH ▸ hP
  have hS : va_S A s.heap H locs := by rw [hH, hlo]; exact hS
  suffices hg : W p l e rm_X8_made s m args below meth c H locs 0 0 Q (F0 m 0 ls []) by rw [hH, hlo] at hg; exact hg
  refine lv_aload_n hx hb dX8_made_0 rfl (lv_at hl 0 rfl) ?_
  refine lv_iload_n hx hb dX8_made_1 rfl (lv_at hl 1 rfl) ?_
  refine lv_iload_n hx hb dX8_made_2 rfl (lv_at hl 2 rfl) ?_
  obtain ⟨v_3, hq_2, hk⟩ := bd1_s hq
  obtain ⟨r_1, rfl⟩ : ∃ y, y = v_3 := ⟨_, rfl⟩
  have hq := hk _ rfl
  refine callZA (gV (rest := []) ⟨hx, hb, hml, hown, hts⟩ hG hP hD 0 8 rfl rfl (mtX8_isWith l D cI cB cR ad H.size states whyKind whyOrder many wide textLong spot readColumns all past refused work kept chosen across sum one two base quotients text numbers entries before a0 a1 r_1 hq_2) (cwV 2 hts gX8_made_X8_isWith rfl rfl rfl ⟨rfl, hd_X8_isWith⟩ ⟨Nat.le_of_ble_eq_true rfl, Nat.le_of_ble_eq_true rfl⟩) rfl hl.1 rfl (Nat.le_of_ble_eq_true rfl) dX8_made_3) hD hS hA (fun H locs z_4 hP hD hS => ?_)
  have hP : va_P D cls9 (wM cI ad states whyKind whyOrder many wide textLong spot readColumns all past refused work kept chosen across sum one two base quotients text numbers entries before) H := hP
  have hD : va_D A (wM cI ad states whyKind whyOrder many wide textLong spot readColumns all past refused work kept chosen across sum one two base quotients text numbers entries before) := hD
  refine lv_if_eq (tgt := 26) hx hb dX8_made_6 (by decide) (fun c_5 => ?_) (fun c_5 => ?_)
  · have hq := it_t c_5 hq
    refine lv_aload_n hx hb dX8_made_26 rfl (lv_at hl 0 rfl) ?_
    refine lv_bipush (v := -2) hx hb dX8_made_27 (by decide) ?_
    obtain ⟨v_9, hq_8, hk⟩ := bd2_s hq
    obtain ⟨r_6, u_7⟩ := v_9
    have hq := hk _ _ rfl
    refine callIA (gV (rest := []) ⟨hx, hb, hml, hown, hts⟩ hG hP hD 0 8 rfl rfl (mtX8_refuses l D cI cB cR ad H.size states whyKind whyOrder many wide textLong spot readColumns all past refused work kept chosen across sum one two base quotients text numbers entries before (-2 : Int32) (r_6, u_7) hq_8) (cwV 1 hts gX8_made_X8_refuses rfl rfl rfl ⟨rfl, hd_X8_refuses⟩ ⟨Nat.le_of_ble_eq_true rfl, Nat.le_of_ble_eq_true rfl⟩) rfl hl.1 rfl (Nat.le_of_ble_eq_true rfl) dX8_made_29) hD hS hA (fun H locs hP hD hS => ?_)
    have hP : va_P D cls9 (wM cI ad states whyKind whyOrder many wide textLong spot readColumns all past u_7 work kept chosen across sum one two base quotients text numbers entries before) H := hP
    have hD : va_D A (wM cI ad states whyKind whyOrder many wide textLong spot readColumns all past u_7 work kept chosen across sum one two base quotients text numbers entries before) := hD
    have he := Option.some.inj hq
    subst he
    exact hE H locs _ _ _ rfl dX8_made_32 hP hD hS
  · have hq := it_f c_5 hq
    refine lv_aload_n hx hb dX8_made_9 rfl (lv_at hl 0 rfl) ?_
    refine lv_iload_n hx hb dX8_made_10 rfl (lv_at hl 1 rfl) ?_
    refine lv_iload_n hx hb dX8_made_11 rfl (lv_at hl 2 rfl) ?_
    obtain ⟨v_15, hq_14, hk⟩ := bd4_s hq
    obtain ⟨r_10, u_11, u_12, u_13⟩ := v_15
    have hq := hk _ _ _ _ rfl
    refine callZA (gV (rest := []) ⟨hx, hb, hml, hown, hts⟩ hG hP hD 0 8 rfl rfl (mtX8_isMade l D cI cB cR ad H.size states whyKind whyOrder many wide textLong spot readColumns all past refused work kept chosen across sum one two base quotients text numbers entries before a0 a1 (r_10, u_11, u_12, u_13) hq_14) (cwV 2 hts gX8_made_X8_isMade rfl rfl rfl ⟨rfl, hd_X8_isMade⟩ ⟨Nat.le_of_ble_eq_true rfl, Nat.le_of_ble_eq_true rfl⟩) rfl hl.1 rfl (Nat.le_of_ble_eq_true rfl) dX8_made_12) hD hS hA (fun H locs z_16 hP hD hS => ?_)
    have hP : va_P D cls9 (wM cI ad states whyKind whyOrder u_11 u_12 textLong spot readColumns all past refused u_13 kept chosen across sum one two base quotients text numbers entries before) H := hP
    have hD : va_D A (wM cI ad states whyKind whyOrder u_11 u_12 textLong spot readColumns all past refused u_13 kept chosen across sum one two base quotients text numbers entries before) := hD
    refine lv_if_eq (tgt := 22) hx hb dX8_made_15 (by decide) (fun c_17 => ?_) (fun c_17 => ?_)
    · have hq := it_t c_17 hq
      refine lv_iconst (v := 0) hx hb dX8_made_22 (by decide) ?_
      refine lv_goto (tgt := 32) hx hb dX8_made_23 (by decide) ?_
      have he := Option.some.inj hq
      subst he
      exact hE H locs _ _ _ rfl dX8_made_32 hP hD hS
    · have hq := it_f c_17 hq
      refine lv_iconst (v := 1) hx hb dX8_made_18 (by decide) ?_
      refine lv_goto (tgt := 32) hx hb dX8_made_19 (by decide) ?_
      have he := Option.some.inj hq
      subst he
      exact hE H locs _ _ _ rfl dX8_made_32 hP hD hS
abbrev rm_X8_begins_e0x10 : Room := { frames := 0, cells := 0, slots := 0, locals := 0 }
set_option maxHeartbeats 4000000 in
set_option maxRecDepth 100000 in
theorem mtX8_begins_e0x10 (l : Launch) (D : va_G) (cI cB cR : ClassId) (ad : Nat → Nat) (sz : Nat) (states : Int32) (whyKind : Int32) (whyOrder : Int32) (many : Int32) (wide : Int32) (textLong : Int32) (spot : Int32) (readColumns : Int32) (all : Nat → Int32) (past : Nat → Int32) (refused : Nat → Int32) (work : Nat → Int32) (kept : Nat → Int32) (chosen : Nat → Int32) (across : Nat → Int32) (sum : Nat → Int32) (one : Nat → Int32) (two : Nat → Int32) (base : Nat → Int32) (quotients : Nat → Int32) (text : Nat → Int32) (numbers : Nat → Int32) (entries : Nat → Int32) (before : Nat → Int32) (res : Nat → Int32) (hf : fX8_begins_e0x10 two = some res) : Met l yX8_begins wsX8_begins rm_X8_begins_e0x10 (qP D cI cB cR [.ref (ad 0), .ref (ad 10)] (wM cI ad states whyKind whyOrder many wide textLong spot readColumns all past refused work kept chosen across sum one two base quotients text numbers entries before) sz) (qV D (wM cI ad states whyKind whyOrder many wide textLong spot readColumns all past refused work kept chosen across sum one two base quotients text numbers entries before) (wM cI ad states whyKind whyOrder many wide textLong spot readColumns all past refused work kept chosen across sum one res base quotients text numbers entries before) sz) 0 0 (va_A (wM cI ad states whyKind whyOrder many wide textLong spot readColumns all past refused work kept chosen across sum one two base quotients text numbers entries before) sz) := by
  refine entV (plainFor_of_name (by decide)) rfl (Nat.le_of_ble_eq_true rfl) ?_
  intro p e s m args below meth c Q A ls S hG hP hD hA hl hE
  obtain ⟨hx, hb, hml, hown, hts⟩ := S
  have hown : s.vm.findClass RX8 = some m.cls := hown
  have hS : va_S A s.heap s.heap [] := va_S.rf
  have hl : lv_has ls 3 [(0, .ref (ad 0)), (1, .ref (ad 10))] := hl
  have hq := hf
  unfold fX8_begins_e0x10 at hq
  obtain ⟨H, hH⟩ : ∃ H, H = s.heap := ⟨_, rfl⟩
  obtain ⟨locs, hlo⟩ : ∃ L : List Loc, L = [] := ⟨_, rfl⟩
  have hP : va_P D cls9 (wM cI ad states whyKind whyOrder many wide textLong spot readColumns all past refused work kept chosen across sum one two base quotients text numbers entries before) H := hH ▸ hP
  have hS : va_S A s.heap H locs := by rw [hH, hlo]; exact hS
  suffices hg : W p l e rm_X8_begins_e0x10 s m args below meth c H locs 0 0 Q (F0 m 0 ls []) by rw [hH, hlo] at hg; exact hg
  refine lv_iconst (v := 0) hx hb dX8_begins_0 (by decide) ?_
  refine lv_istore_n (lv' := [(2, .int (0 : Int32)), (0, .ref (ad 0)), (1, .ref (ad 10))]) hx hb dX8_begins_1 rfl hl (by decide) rfl (fun ls hl => ?_)
  obtain ⟨w1, hw1, hk1⟩ := bd1_s hq
  have hX1 : ∀ (x_5 : Nat → Int32), w1 = x_5 → ∀ (H : Heap) (locs : List Loc), va_P D cls9 (wM cI ad states whyKind whyOrder many wide textLong spot readColumns all past refused work kept chosen across sum one x_5 base quotients text numbers entries before) H → va_D A (wM cI ad states whyKind whyOrder many wide textLong spot readColumns all past refused work kept chosen across sum one x_5 base quotients text numbers entries before) → va_S A s.heap H locs → ∀ (ls : Array Slot), lv_has ls 3 [] → W p l e rm_X8_begins_e0x10 s m args below meth c H locs 0 0 Q (F0 m 18 ls []) := by
    intro x_5 hq H locs hP hD hS ls hl
    have hq := hk1 _ hq
    have he := Option.some.inj hq
    subst he
    exact hE H locs _ _ dX8_begins_18 hP hD hS
  have hL1 : ∀ (n : Nat) (i_1 : Int32) (i_2 : Nat → Int32), lrun (fun (z : Int32 × (Nat → Int32)) => fX8_begins_e0x10_s2 z.1 z.2) n (i_1, i_2) = some w1 → ∀ (H : Heap) (locs : List Loc), va_P D cls9 (wM cI ad states whyKind whyOrder many wide textLong spot readColumns all past refused work kept chosen across sum one i_2 base quotients text numbers entries before) H → va_D A (wM cI ad states whyKind whyOrder many wide textLong spot readColumns all past refused work kept chosen across sum one i_2 base quotients text numbers entries before) → va_S A s.heap H locs → ∀ (ls : Array Slot), lv_has ls 3 [(1, .ref (ad 10)), (2, .int i_1)] → W p l e rm_X8_begins_e0x10 s m args below meth c H locs 0 0 Q (F0 m 2 ls []) := by
    intro n
    induction n with
    | zero => intro i_1 i_2 h; cases h
    | succ n ih1 =>
      intro i_1 i_2 hr1 H locs hP hD hS ls hl
      obtain ⟨k, v1, hk, hr1, ht1, hv1⟩ := lrun_s hr1
      cases hk
      have hr1 : fX8_begins_e0x10_s2 i_1 i_2 = some v1 := hr1
      unfold fX8_begins_e0x10_s2 at hr1
      refine lv_iload_n hx hb dX8_begins_2 rfl (lv_at hl 1 rfl) ?_
      refine lv_bipush (v := 25) hx hb dX8_begins_3 (by decide) ?_
      refine lv_icmp_ge (tgt := 18) hx hb dX8_begins_5 (by decide) (fun c_3 => ?_) (fun c_3 => ?_)
      · have hr1 := it_t c_3 hr1
        exact hX1 i_2 (hv1 _ (Option.some.inj hr1).symm).symm H locs hP hD hS ls (lv_sub hl [] rfl)
      · have hr1 := it_f c_3 hr1
        refine lv_aload_n hx hb dX8_begins_8 rfl (lv_at hl 0 rfl) ?_
        refine lv_iload_n hx hb dX8_begins_9 rfl (lv_at hl 1 rfl) ?_
        refine lv_iconst (v := 0) hx hb dX8_begins_10 (by decide) ?_
        obtain ⟨h_4, hr1⟩ := gd_s hr1
        refine va_iast hx hb hG.1 hP hD hS 10 0 rfl rfl h_4 dX8_begins_11 (fun H locs hP hD hS => ?_)
        have hP : va_P D cls9 (wM cI ad states whyKind whyOrder many wide textLong spot readColumns all past refused work kept chosen across sum one (upd i_2 i_1.toNatClampNeg (0 : Int32)) base quotients text numbers entries before) H := hP
        have hD : va_D A (wM cI ad states whyKind whyOrder many wide textLong spot readColumns all past refused work kept chosen across sum one (upd i_2 i_1.toNatClampNeg (0 : Int32)) base quotients text numbers entries before) := hD
        refine lv_iinc (v := (i_1 + 1)) (lv' := [(2, .int (i_1 + 1)), (1, .ref (ad 10))]) hx hb dX8_begins_12 hl (k := 1) rfl rfl (by decide) rfl (fun ls hl => ?_)
        refine lv_goto (tgt := 2) hx hb dX8_begins_15 (by decide) ?_
        exact ih1 (i_1 + 1) (upd i_2 i_1.toNatClampNeg (0 : Int32)) (ht1 _ (Option.some.inj hr1).symm) H locs hP hD hS ls (lv_sub hl [1, 0] rfl)
  obtain ⟨n1, hn1⟩ := Lp_s hw1
  exact hL1 n1 (0 : Int32) two hn1 H locs hP hD hS ls (lv_sub hl [2, 0] rfl)
abbrev rm_X8_multiplies : Room := { frames := 1, cells := 0, slots := 0, locals := 22 }
theorem iX8_multiplies_X8 : ∀ w ∈ wsX80, w ∈ wsX8_multiplies := fun _ h => (List.mem_cons_of_mem _ (List.mem_append_right _ h))
theorem fX8_multiplies_1 : Cond.fieldLink RX8 41 "PopovRowsModel" "two" "[I" ∈ wsX8_multiplies := (List.mem_cons_of_mem _ (List.mem_append_left _ (List.mem_of_getElem? (i := 0) rfl)))
theorem fX8_multiplies_2 : Cond.fieldLink RX8 38 "PopovRowsModel" "one" "[I" ∈ wsX8_multiplies := (List.mem_cons_of_mem _ (List.mem_append_left _ (List.mem_of_getElem? (i := 1) rfl)))
theorem fX8_multiplies_3 : Cond.fieldLink RX8 7 "PopovRowsModel" "all" "[I" ∈ wsX8_multiplies := (List.mem_cons_of_mem _ (List.mem_append_left _ (List.mem_of_getElem? (i := 2) rfl)))
set_option maxHeartbeats 4000000 in
set_option maxRecDepth 100000 in
theorem mtX8_multiplies (l : Launch) (D : va_G) (cI cB cR : ClassId) (ad : Nat → Nat) (sz : Nat) (states : Int32) (whyKind : Int32) (whyOrder : Int32) (many : Int32) (wide : Int32) (textLong : Int32) (spot : Int32) (readColumns : Int32) (all : Nat → Int32) (past : Nat → Int32) (refused : Nat → Int32) (work : Nat → Int32) (kept : Nat → Int32) (chosen : Nat → Int32) (across : Nat → Int32) (sum : Nat → Int32) (one : Nat → Int32) (two : Nat → Int32) (base : Nat → Int32) (quotients : Nat → Int32) (text : Nat → Int32) (numbers : Nat → Int32) (entries : Nat → Int32) (before : Nat → Int32) (a0 : Int32) (a1 : Int32) (res : (Nat → Int32) × (Nat → Int32)) (hf : fX8_multiplies all one two a0 a1 = some res) : Met l yX8_multiplies wsX8_multiplies rm_X8_multiplies (qP D cI cB cR [.ref (ad 0), .int a0, .int a1] (wM cI ad states whyKind whyOrder many wide textLong spot readColumns all past refused work kept chosen across sum one two base quotients text numbers entries before) sz) (qV D (wM cI ad states whyKind whyOrder many wide textLong spot readColumns all past refused work kept chosen across sum one two base quotients text numbers entries before) (wM cI ad states whyKind whyOrder many wide textLong spot readColumns all past refused work kept chosen across sum res.1 res.2 base quotients text numbers entries before) sz) 0 0 (va_A (wM cI ad states whyKind whyOrder many wide textLong spot readColumns all past refused work kept chosen across sum one two base quotients text numbers entries before) sz) := by
  refine entV (plainFor_of_name (by decide)) rfl (Nat.le_of_ble_eq_true rfl) ?_
  intro p e s m args below meth c Q A ls S hG hP hD hA hl hE
  obtain ⟨hx, hb, hml, hown, hts⟩ := S
  have hown : s.vm.findClass RX8 = some m.cls := hown
  have hS : va_S A s.heap s.heap [] := va_S.rf
  have hl : lv_has ls 6 [(0, .ref (ad 0)), (1, .int a0), (2, .int a1)] := hl
  have hq := hf
  unfold fX8_multiplies at hq
  obtain ⟨H, hH⟩ : ∃ H, H = s.heap := ⟨_, rfl⟩
  obtain ⟨locs, hlo⟩ : ∃ L : List Loc, L = [] := ⟨_, rfl⟩
  have hP : va_P D cls9 (wM cI ad states whyKind whyOrder many wide textLong spot readColumns all past refused work kept chosen across sum one two base quotients text numbers entries before) H := hH ▸ hP
  have hS : va_S A s.heap H locs := by rw [hH, hlo]; exact hS
  suffices hg : W p l e rm_X8_multiplies s m args below meth c H locs 0 0 Q (F0 m 0 ls []) by rw [hH, hlo] at hg; exact hg
  refine lv_aload_n hx hb dX8_multiplies_0 rfl (lv_at hl 0 rfl) ?_
  refine lv_aload_n hx hb dX8_multiplies_1 rfl (lv_at hl 0 rfl) ?_
  refine va_get (D := D) (ci := 8) (v := .ref (ad 10)) (C := RX8) (T := TX8) (N := 24) hx hb hts iX8_multiplies_X8 hown hG.1 hP 0 rfl rfl 14 (by decide) (hts _ fX8_multiplies_1) (fun _ h9 => h9) rfl dX8_multiplies_2 ?_
  obtain ⟨v_3, hq_2, hk⟩ := bd1_s hq
  obtain ⟨u_1, rfl⟩ : ∃ y, y = v_3 := ⟨_, rfl⟩
  have hq := hk _ rfl
  refine callVA (gV (rest := []) ⟨hx, hb, hml, hown, hts⟩ hG hP hD 0 8 rfl rfl (mtX8_begins_e0x10 l D cI cB cR ad H.size states whyKind whyOrder many wide textLong spot readColumns all past refused work kept chosen across sum one two base quotients text numbers entries before u_1 hq_2) (cwV 1 hts gX8_multiplies_X8_begins rfl rfl rfl ⟨rfl, hd_X8_begins⟩ ⟨Nat.le_of_ble_eq_true rfl, Nat.le_of_ble_eq_true rfl⟩) rfl hl.1 rfl (Nat.le_of_ble_eq_true rfl) dX8_multiplies_5) hD hS hA (fun H locs hP hD hS => ?_)
  have hP : va_P D cls9 (wM cI ad states whyKind whyOrder many wide textLong spot readColumns all past refused work kept chosen across sum one u_1 base quotients text numbers entries before) H := hP
  have hD : va_D A (wM cI ad states whyKind whyOrder many wide textLong spot readColumns all past refused work kept chosen across sum one u_1 base quotients text numbers entries before) := hD
  refine lv_iconst (v := 0) hx hb dX8_multiplies_8 (by decide) ?_
  refine lv_istore_n (lv' := [(3, .int (0 : Int32)), (0, .ref (ad 0)), (1, .int a0), (2, .int a1)]) hx hb dX8_multiplies_9 rfl hl (by decide) rfl (fun ls hl => ?_)
  obtain ⟨w1, hw1, hk1⟩ := bd1_s hq
  have hX1 : ∀ (x_22 : Nat → Int32), w1 = x_22 → ∀ (H : Heap) (locs : List Loc), va_P D cls9 (wM cI ad states whyKind whyOrder many wide textLong spot readColumns all past refused work kept chosen across sum one x_22 base quotients text numbers entries before) H → va_D A (wM cI ad states whyKind whyOrder many wide textLong spot readColumns all past refused work kept chosen across sum one x_22 base quotients text numbers entries before) → va_S A s.heap H locs → ∀ (ls : Array Slot), lv_has ls 6 [(0, .ref (ad 0))] → W p l e rm_X8_multiplies s m args below meth c H locs 0 0 Q (F0 m 99 ls []) := by
    intro x_22 hq H locs hP hD hS ls hl
    have hq := hk1 _ hq
    refine lv_iconst (v := 0) hx hb dX8_multiplies_99 (by decide) ?_
    refine lv_istore_n (lv' := [(3, .int (0 : Int32)), (0, .ref (ad 0))]) hx hb dX8_multiplies_100 rfl hl (by decide) rfl (fun ls hl => ?_)
    obtain ⟨w3, hw3, hk3⟩ := bd1_s hq
    have hX3 : ∀ (x_28 : Nat → Int32), w3 = x_28 → ∀ (H : Heap) (locs : List Loc), va_P D cls9 (wM cI ad states whyKind whyOrder many wide textLong spot readColumns all past refused work kept chosen across sum x_28 x_22 base quotients text numbers entries before) H → va_D A (wM cI ad states whyKind whyOrder many wide textLong spot readColumns all past refused work kept chosen across sum x_28 x_22 base quotients text numbers entries before) → va_S A s.heap H locs → ∀ (ls : Array Slot), lv_has ls 6 [] → W p l e rm_X8_multiplies s m args below meth c H locs 0 0 Q (F0 m 125 ls []) := by
      intro x_28 hq H locs hP hD hS ls hl
      have hq := hk3 _ hq
      have he := Option.some.inj hq
      subst he
      exact hE H locs _ _ dX8_multiplies_125 hP hD hS
    have hL3 : ∀ (n : Nat) (i_23 : Int32) (i_24 : Nat → Int32), lrun (fun (z : Int32 × (Nat → Int32)) => fX8_multiplies_s101 x_22 z.1 z.2) n (i_23, i_24) = some w3 → ∀ (H : Heap) (locs : List Loc), va_P D cls9 (wM cI ad states whyKind whyOrder many wide textLong spot readColumns all past refused work kept chosen across sum i_24 x_22 base quotients text numbers entries before) H → va_D A (wM cI ad states whyKind whyOrder many wide textLong spot readColumns all past refused work kept chosen across sum i_24 x_22 base quotients text numbers entries before) → va_S A s.heap H locs → ∀ (ls : Array Slot), lv_has ls 6 [(0, .ref (ad 0)), (3, .int i_23)] → W p l e rm_X8_multiplies s m args below meth c H locs 0 0 Q (F0 m 101 ls []) := by
      intro n
      induction n with
      | zero => intro i_23 i_24 h; cases h
      | succ n ih3 =>
        intro i_23 i_24 hr3 H locs hP hD hS ls hl
        obtain ⟨k, v3, hk, hr3, ht3, hv3⟩ := lrun_s hr3
        cases hk
        have hr3 : fX8_multiplies_s101 x_22 i_23 i_24 = some v3 := hr3
        unfold fX8_multiplies_s101 at hr3
        refine lv_iload_n hx hb dX8_multiplies_101 rfl (lv_at hl 1 rfl) ?_
        refine lv_bipush (v := 25) hx hb dX8_multiplies_102 (by decide) ?_
        refine lv_icmp_ge (tgt := 125) hx hb dX8_multiplies_104 (by decide) (fun c_25 => ?_) (fun c_25 => ?_)
        · have hr3 := it_t c_25 hr3
          exact hX3 i_24 (hv3 _ (Option.some.inj hr3).symm).symm H locs hP hD hS ls (lv_sub hl [] rfl)
        · have hr3 := it_f c_25 hr3
          refine lv_aload_n hx hb dX8_multiplies_107 rfl (lv_at hl 0 rfl) ?_
          refine va_get (D := D) (ci := 8) (v := .ref (ad 9)) (C := RX8) (T := TX8) (N := 24) hx hb hts iX8_multiplies_X8 hown hG.1 hP 0 rfl rfl 13 (by decide) (hts _ fX8_multiplies_2) (fun _ h9 => h9) rfl dX8_multiplies_108 ?_
          refine lv_iload_n hx hb dX8_multiplies_111 rfl (lv_at hl 1 rfl) ?_
          refine lv_aload_n hx hb dX8_multiplies_112 rfl (lv_at hl 0 rfl) ?_
          refine va_get (D := D) (ci := 8) (v := .ref (ad 10)) (C := RX8) (T := TX8) (N := 24) hx hb hts iX8_multiplies_X8 hown hG.1 hP 0 rfl rfl 14 (by decide) (hts _ fX8_multiplies_1) (fun _ h9 => h9) rfl dX8_multiplies_113 ?_
          refine lv_iload_n hx hb dX8_multiplies_116 rfl (lv_at hl 1 rfl) ?_
          obtain ⟨h_26, hr3⟩ := gd_s hr3
          refine va_iald hx hb hG.1 hP 10 0 rfl rfl h_26 dX8_multiplies_117 ?_
          obtain ⟨h_27, hr3⟩ := gd_s hr3
          refine va_iast hx hb hG.1 hP hD hS 9 0 rfl rfl h_27 dX8_multiplies_118 (fun H locs hP hD hS => ?_)
          have hP : va_P D cls9 (wM cI ad states whyKind whyOrder many wide textLong spot readColumns all past refused work kept chosen across sum (upd i_24 i_23.toNatClampNeg (x_22 i_23.toNatClampNeg)) x_22 base quotients text numbers entries before) H := hP
          have hD : va_D A (wM cI ad states whyKind whyOrder many wide textLong spot readColumns all past refused work kept chosen across sum (upd i_24 i_23.toNatClampNeg (x_22 i_23.toNatClampNeg)) x_22 base quotients text numbers entries before) := hD
          refine lv_iinc (v := (i_23 + 1)) (lv' := [(3, .int (i_23 + 1)), (0, .ref (ad 0))]) hx hb dX8_multiplies_119 hl (k := 1) rfl rfl (by decide) rfl (fun ls hl => ?_)
          refine lv_goto (tgt := 101) hx hb dX8_multiplies_122 (by decide) ?_
          exact ih3 (i_23 + 1) (upd i_24 i_23.toNatClampNeg (x_22 i_23.toNatClampNeg)) (ht3 _ (Option.some.inj hr3).symm) H locs hP hD hS ls (lv_sub hl [1, 0] rfl)
    obtain ⟨n3, hn3⟩ := Lp_s hw3
    exact hL3 n3 (0 : Int32) one hn3 H locs hP hD hS ls (lv_sub hl [1, 0] rfl)
  have hL1 : ∀ (n : Nat) (i_4 : Int32) (i_5 : Nat → Int32), lrun (fun (z : Int32 × (Nat → Int32)) => fX8_multiplies_s10 all one a0 a1 z.1 z.2) n (i_4, i_5) = some w1 → ∀ (H : Heap) (locs : List Loc), va_P D cls9 (wM cI ad states whyKind whyOrder many wide textLong spot readColumns all past refused work kept chosen across sum one i_5 base quotients text numbers entries before) H → va_D A (wM cI ad states whyKind whyOrder many wide textLong spot readColumns all past refused work kept chosen across sum one i_5 base quotients text numbers entries before) → va_S A s.heap H locs → ∀ (ls : Array Slot), lv_has ls 6 [(0, .ref (ad 0)), (1, .int a0), (2, .int a1), (3, .int i_4)] → W p l e rm_X8_multiplies s m args below meth c H locs 0 0 Q (F0 m 10 ls []) := by
    intro n
    induction n with
    | zero => intro i_4 i_5 h; cases h
    | succ n ih1 =>
      intro i_4 i_5 hr1 H locs hP hD hS ls hl
      obtain ⟨k, v1, hk, hr1, ht1, hv1⟩ := lrun_s hr1
      cases hk
      have hr1 : fX8_multiplies_s10 all one a0 a1 i_4 i_5 = some v1 := hr1
      unfold fX8_multiplies_s10 at hr1
      refine lv_iload_n hx hb dX8_multiplies_10 rfl (lv_at hl 3 rfl) ?_
      refine lv_bipush (v := 25) hx hb dX8_multiplies_11 (by decide) ?_
      refine lv_icmp_ge (tgt := 99) hx hb dX8_multiplies_13 (by decide) (fun c_6 => ?_) (fun c_6 => ?_)
      · have hr1 := it_t c_6 hr1
        exact hX1 i_5 (hv1 _ (Option.some.inj hr1).symm).symm H locs hP hD hS ls (lv_sub hl [0] rfl)
      · have hr1 := it_f c_6 hr1
        refine lv_iconst (v := 0) hx hb dX8_multiplies_16 (by decide) ?_
        refine lv_istore (lv' := [(4, .int (0 : Int32)), (0, .ref (ad 0)), (1, .int a0), (2, .int a1), (3, .int i_4)]) hx hb dX8_multiplies_17 hl (by decide) rfl (fun ls hl => ?_)
        obtain ⟨w2, hw2, hk2⟩ := bd1_s hr1
        have hX2 : ∀ (x_21 : Nat → Int32), w2 = x_21 → ∀ (H : Heap) (locs : List Loc), va_P D cls9 (wM cI ad states whyKind whyOrder many wide textLong spot readColumns all past refused work kept chosen across sum one x_21 base quotients text numbers entries before) H → va_D A (wM cI ad states whyKind whyOrder many wide textLong spot readColumns all past refused work kept chosen across sum one x_21 base quotients text numbers entries before) → va_S A s.heap H locs → ∀ (ls : Array Slot), lv_has ls 6 [(0, .ref (ad 0)), (1, .int a0), (2, .int a1), (3, .int i_4)] → W p l e rm_X8_multiplies s m args below meth c H locs 0 0 Q (F0 m 93 ls []) := by
          intro x_21 hq H locs hP hD hS ls hl
          have hr1 := hk2 _ hq
          refine lv_iinc (v := (i_4 + 1)) (lv' := [(3, .int (i_4 + 1)), (0, .ref (ad 0)), (1, .int a0), (2, .int a1)]) hx hb dX8_multiplies_93 hl (k := 3) rfl rfl (by decide) rfl (fun ls hl => ?_)
          refine lv_goto (tgt := 10) hx hb dX8_multiplies_96 (by decide) ?_
          exact ih1 (i_4 + 1) x_21 (ht1 _ (Option.some.inj hr1).symm) H locs hP hD hS ls (lv_sub hl [1, 2, 3, 0] rfl)
        have hL2 : ∀ (n : Nat) (i_7 : Int32) (i_8 : Nat → Int32), lrun (fun (z : Int32 × (Nat → Int32)) => fX8_multiplies_s19 all one a0 a1 i_4 z.1 z.2) n (i_7, i_8) = some w2 → ∀ (H : Heap) (locs : List Loc), va_P D cls9 (wM cI ad states whyKind whyOrder many wide textLong spot readColumns all past refused work kept chosen across sum one i_8 base quotients text numbers entries before) H → va_D A (wM cI ad states whyKind whyOrder many wide textLong spot readColumns all past refused work kept chosen across sum one i_8 base quotients text numbers entries before) → va_S A s.heap H locs → ∀ (ls : Array Slot), lv_has ls 6 [(0, .ref (ad 0)), (1, .int a0), (2, .int a1), (3, .int i_4), (4, .int i_7)] → W p l e rm_X8_multiplies s m args below meth c H locs 0 0 Q (F0 m 19 ls []) := by
          intro n
          induction n with
          | zero => intro i_7 i_8 h; cases h
          | succ n ih2 =>
            intro i_7 i_8 hr2 H locs hP hD hS ls hl
            obtain ⟨k, v2, hk, hr2, ht2, hv2⟩ := lrun_s hr2
            cases hk
            have hr2 : fX8_multiplies_s19 all one a0 a1 i_4 i_7 i_8 = some v2 := hr2
            unfold fX8_multiplies_s19 at hr2
            refine lv_iload hx hb dX8_multiplies_19 (lv_at hl 4 rfl) ?_
            refine lv_bipush (v := 7) hx hb dX8_multiplies_21 (by decide) ?_
            refine lv_icmp_ge (tgt := 93) hx hb dX8_multiplies_23 (by decide) (fun c_9 => ?_) (fun c_9 => ?_)
            · have hr2 := it_t c_9 hr2
              exact hX2 i_8 (hv2 _ (Option.some.inj hr2).symm).symm H locs hP hD hS ls (lv_sub hl [0, 1, 2, 3] rfl)
            · have hr2 := it_f c_9 hr2
              refine lv_aload_n hx hb dX8_multiplies_26 rfl (lv_at hl 0 rfl) ?_
              refine va_get (D := D) (ci := 8) (v := .ref (ad 9)) (C := RX8) (T := TX8) (N := 24) hx hb hts iX8_multiplies_X8 hown hG.1 hP 0 rfl rfl 13 (by decide) (hts _ fX8_multiplies_2) (fun _ h9 => h9) rfl dX8_multiplies_27 ?_
              refine lv_iload_n hx hb dX8_multiplies_30 rfl (lv_at hl 3 rfl) ?_
              obtain ⟨h_10, hr2⟩ := gd_s hr2
              refine va_iald hx hb hG.1 hP 9 0 rfl rfl h_10 dX8_multiplies_31 ?_
              refine lv_if_eq (tgt := 93) hx hb dX8_multiplies_32 (by decide) (fun c_11 => ?_) (fun c_11 => ?_)
              · have hr2 := it_t c_11 hr2
                exact hX2 i_8 (hv2 _ (Option.some.inj hr2).symm).symm H locs hP hD hS ls (lv_sub hl [0, 1, 2, 3] rfl)
              · have hr2 := it_f c_11 hr2
                refine lv_aload_n hx hb dX8_multiplies_35 rfl (lv_at hl 0 rfl) ?_
                refine va_get (D := D) (ci := 8) (v := .ref (ad 1)) (C := RX8) (T := TX8) (N := 24) hx hb hts iX8_multiplies_X8 hown hG.1 hP 0 rfl rfl 0 (by decide) (hts _ fX8_multiplies_3) (fun _ h9 => h9) rfl dX8_multiplies_36 ?_
                refine lv_iload_n hx hb dX8_multiplies_39 rfl (lv_at hl 1 rfl) ?_
                refine lv_iload_n hx hb dX8_multiplies_40 rfl (lv_at hl 2 rfl) ?_
                refine lv_iload hx hb dX8_multiplies_41 (lv_at hl 4 rfl) ?_
                refine callI0 (gS (rest := [.ref (ad 1)]) ⟨hx, hb, hml, hown, hts⟩ hG vaP0 (vaD0 (A := A)) (mtX8_place l D cI cB cR H.size a0 a1 i_7 _ rfl) (va_cwS 3 hts gX8_multiplies_X8_place rfl rfl rfl hd_X8_place ⟨Nat.le_of_ble_eq_true rfl, Nat.le_of_ble_eq_true rfl⟩) rfl hl.1 rfl (Nat.le_of_ble_eq_true rfl) dX8_multiplies_43) hP hS hA (fun H locs hP hS => ?_)
                obtain ⟨h_12, hr2⟩ := gd_s hr2
                refine va_iald hx hb hG.1 hP 1 0 rfl rfl h_12 dX8_multiplies_46 ?_
                refine lv_istore (lv' := [(5, .int (all (fX8_place a0 a1 i_7).toNatClampNeg)), (0, .ref (ad 0)), (1, .int a0), (2, .int a1), (3, .int i_4), (4, .int i_7)]) hx hb dX8_multiplies_47 hl (by decide) rfl (fun ls hl => ?_)
                refine lv_iload hx hb dX8_multiplies_49 (lv_at hl 0 rfl) ?_
                refine lv_if_eq (tgt := 87) hx hb dX8_multiplies_51 (by decide) (fun c_13 => ?_) (fun c_13 => ?_)
                · have hr2 := it_t c_13 hr2
                  refine lv_iinc (v := (i_7 + 1)) (lv' := [(4, .int (i_7 + 1)), (5, .int (all (fX8_place a0 a1 i_7).toNatClampNeg)), (0, .ref (ad 0)), (1, .int a0), (2, .int a1), (3, .int i_4)]) hx hb dX8_multiplies_87 hl (k := 5) rfl rfl (by decide) rfl (fun ls hl => ?_)
                  refine lv_goto (tgt := 19) hx hb dX8_multiplies_90 (by decide) ?_
                  exact ih2 (i_7 + 1) i_8 (ht2 _ (Option.some.inj hr2).symm) H locs hP hD hS ls (lv_sub hl [2, 3, 4, 5, 0] rfl)
                · have hr2 := it_f c_13 hr2
                  refine lv_aload_n hx hb dX8_multiplies_54 rfl (lv_at hl 1 rfl) ?_
                  refine va_get (D := D) (ci := 8) (v := .ref (ad 10)) (C := RX8) (T := TX8) (N := 24) hx hb hts iX8_multiplies_X8 hown hG.1 hP 0 rfl rfl 14 (by decide) (hts _ fX8_multiplies_1) (fun _ h9 => h9) rfl dX8_multiplies_55 ?_
                  refine lv_iload_n hx hb dX8_multiplies_58 rfl (lv_at hl 4 rfl) ?_
                  refine lv_iload hx hb dX8_multiplies_59 (lv_at hl 5 rfl) ?_
                  refine lv_iadd hx hb dX8_multiplies_61 ?_
                  refine lv_aload_n hx hb dX8_multiplies_62 rfl (lv_at hl 1 rfl) ?_
                  refine va_get (D := D) (ci := 8) (v := .ref (ad 10)) (C := RX8) (T := TX8) (N := 24) hx hb hts iX8_multiplies_X8 hown hG.1 hP 0 rfl rfl 14 (by decide) (hts _ fX8_multiplies_1) (fun _ h9 => h9) rfl dX8_multiplies_63 ?_
                  refine lv_iload_n hx hb dX8_multiplies_66 rfl (lv_at hl 4 rfl) ?_
                  refine lv_iload hx hb dX8_multiplies_67 (lv_at hl 5 rfl) ?_
                  refine lv_iadd hx hb dX8_multiplies_69 ?_
                  obtain ⟨h_14, hr2⟩ := gd_s hr2
                  refine va_iald hx hb hG.1 hP 10 0 rfl rfl h_14 dX8_multiplies_70 ?_
                  refine lv_aload_n hx hb dX8_multiplies_71 rfl (lv_at hl 1 rfl) ?_
                  refine va_get (D := D) (ci := 8) (v := .ref (ad 9)) (C := RX8) (T := TX8) (N := 24) hx hb hts iX8_multiplies_X8 hown hG.1 hP 0 rfl rfl 13 (by decide) (hts _ fX8_multiplies_2) (fun _ h9 => h9) rfl dX8_multiplies_72 ?_
                  refine lv_iload_n hx hb dX8_multiplies_75 rfl (lv_at hl 4 rfl) ?_
                  obtain ⟨h_15, hr2⟩ := gd_s hr2
                  refine va_iald hx hb hG.1 hP 9 0 rfl rfl h_15 dX8_multiplies_76 ?_
                  refine lv_iload hx hb dX8_multiplies_77 (lv_at hl 0 rfl) ?_
                  refine lv_imul hx hb dX8_multiplies_79 ?_
                  refine lv_iadd hx hb dX8_multiplies_80 ?_
                  refine lv_aload_n hx hb dX8_multiplies_81 rfl (lv_at hl 1 rfl) ?_
                  obtain ⟨v_18, hq_17, hk⟩ := bd1_s hr2
                  obtain ⟨r_16, rfl⟩ : ∃ y, y = v_18 := ⟨_, rfl⟩
                  have hr2 := hk _ rfl
                  refine callIA (gV (rest := [.int ((i_8 (i_4 + i_7).toNatClampNeg) + ((one i_4.toNatClampNeg) * (all (fX8_place a0 a1 i_7).toNatClampNeg))), .int (i_4 + i_7), .ref (ad 10)]) ⟨hx, hb, hml, hown, hts⟩ hG hP hD 0 8 rfl rfl (mtX8_modulus l D cI cB cR ad H.size states whyKind whyOrder many wide textLong spot readColumns all past refused work kept chosen across sum one i_8 base quotients text numbers entries before r_16 hq_17) (cwV 0 hts gX8_multiplies_X8_modulus rfl rfl rfl ⟨rfl, hd_X8_modulus⟩ ⟨Nat.le_of_ble_eq_true rfl, Nat.le_of_ble_eq_true rfl⟩) rfl hl.1 rfl (Nat.le_of_ble_eq_true rfl) dX8_multiplies_82) hD hS hA (fun H locs hP hD hS => ?_)
                  have hP : va_P D cls9 (wM cI ad states whyKind whyOrder many wide textLong spot readColumns all past refused work kept chosen across sum one i_8 base quotients text numbers entries before) H := hP
                  have hD : va_D A (wM cI ad states whyKind whyOrder many wide textLong spot readColumns all past refused work kept chosen across sum one i_8 base quotients text numbers entries before) := hD
                  obtain ⟨h_19, hr2⟩ := gd_s hr2
                  refine lv_irem hx hb dX8_multiplies_85 h_19 ?_
                  refine lv_asi (y := (rem32 ((i_8 (i_4 + i_7).toNatClampNeg) + ((one i_4.toNatClampNeg) * (all (fX8_place a0 a1 i_7).toNatClampNeg))) r_16)) rfl ?_
                  obtain ⟨h_20, hr2⟩ := gd_s hr2
                  refine va_iast hx hb hG.1 hP hD hS 10 0 rfl rfl h_20 dX8_multiplies_86 (fun H locs hP hD hS => ?_)
                  have hP : va_P D cls9 (wM cI ad states whyKind whyOrder many wide textLong spot readColumns all past refused work kept chosen across sum one (upd i_8 (i_4 + i_7).toNatClampNeg (rem32 ((i_8 (i_4 + i_7).toNatClampNeg) + ((one i_4.toNatClampNeg) * (all (fX8_place a0 a1 i_7).toNatClampNeg))) r_16)) base quotients text numbers entries before) H := hP
                  have hD : va_D A (wM cI ad states whyKind whyOrder many wide textLong spot readColumns all past refused work kept chosen across sum one (upd i_8 (i_4 + i_7).toNatClampNeg (rem32 ((i_8 (i_4 + i_7).toNatClampNeg) + ((one i_4.toNatClampNeg) * (all (fX8_place a0 a1 i_7).toNatClampNeg))) r_16)) base quotients text numbers entries before) := hD
                  refine lv_iinc (v := (i_7 + 1)) (lv' := [(4, .int (i_7 + 1)), (5, .int (all (fX8_place a0 a1 i_7).toNatClampNeg)), (0, .ref (ad 0)), (1, .int a0), (2, .int a1), (3, .int i_4)]) hx hb dX8_multiplies_87 hl (k := 5) rfl rfl (by decide) rfl (fun ls hl => ?_)
                  refine lv_goto (tgt := 19) hx hb dX8_multiplies_90 (by decide) ?_
                  exact ih2 (i_7 + 1) (upd i_8 (i_4 + i_7).toNatClampNeg (rem32 ((i_8 (i_4 + i_7).toNatClampNeg) + ((one i_4.toNatClampNeg) * (all (fX8_place a0 a1 i_7).toNatClampNeg))) r_16)) (ht2 _ (Option.some.inj hr2).symm) H locs hP hD hS ls (lv_sub hl [2, 3, 4, 5, 0] rfl)
        obtain ⟨n2, hn2⟩ := Lp_s hw2
        exact hL2 n2 (0 : Int32) i_5 hn2 H locs hP hD hS ls (lv_sub hl [1, 2, 3, 4, 0] rfl)
  obtain ⟨n1, hn1⟩ := Lp_s hw1
  exact hL1 n1 (0 : Int32) u_1 hn1 H locs hP hD hS ls (lv_sub hl [1, 2, 3, 0] rfl)
abbrev rm_X8_begins_e0x9 : Room := { frames := 0, cells := 0, slots := 0, locals := 0 }
set_option maxHeartbeats 4000000 in
set_option maxRecDepth 100000 in
theorem mtX8_begins_e0x9 (l : Launch) (D : va_G) (cI cB cR : ClassId) (ad : Nat → Nat) (sz : Nat) (states : Int32) (whyKind : Int32) (whyOrder : Int32) (many : Int32) (wide : Int32) (textLong : Int32) (spot : Int32) (readColumns : Int32) (all : Nat → Int32) (past : Nat → Int32) (refused : Nat → Int32) (work : Nat → Int32) (kept : Nat → Int32) (chosen : Nat → Int32) (across : Nat → Int32) (sum : Nat → Int32) (one : Nat → Int32) (two : Nat → Int32) (base : Nat → Int32) (quotients : Nat → Int32) (text : Nat → Int32) (numbers : Nat → Int32) (entries : Nat → Int32) (before : Nat → Int32) (res : Nat → Int32) (hf : fX8_begins_e0x9 one = some res) : Met l yX8_begins wsX8_begins rm_X8_begins_e0x9 (qP D cI cB cR [.ref (ad 0), .ref (ad 9)] (wM cI ad states whyKind whyOrder many wide textLong spot readColumns all past refused work kept chosen across sum one two base quotients text numbers entries before) sz) (qV D (wM cI ad states whyKind whyOrder many wide textLong spot readColumns all past refused work kept chosen across sum one two base quotients text numbers entries before) (wM cI ad states whyKind whyOrder many wide textLong spot readColumns all past refused work kept chosen across sum res two base quotients text numbers entries before) sz) 0 0 (va_A (wM cI ad states whyKind whyOrder many wide textLong spot readColumns all past refused work kept chosen across sum one two base quotients text numbers entries before) sz) := by
  refine entV (plainFor_of_name (by decide)) rfl (Nat.le_of_ble_eq_true rfl) ?_
  intro p e s m args below meth c Q A ls S hG hP hD hA hl hE
  obtain ⟨hx, hb, hml, hown, hts⟩ := S
  have hown : s.vm.findClass RX8 = some m.cls := hown
  have hS : va_S A s.heap s.heap [] := va_S.rf
  have hl : lv_has ls 3 [(0, .ref (ad 0)), (1, .ref (ad 9))] := hl
  have hq := hf
  unfold fX8_begins_e0x9 at hq
  obtain ⟨H, hH⟩ : ∃ H, H = s.heap := ⟨_, rfl⟩
  obtain ⟨locs, hlo⟩ : ∃ L : List Loc, L = [] := ⟨_, rfl⟩
  have hP : va_P D cls9 (wM cI ad states whyKind whyOrder many wide textLong spot readColumns all past refused work kept chosen across sum one two base quotients text numbers entries before) H := hH ▸ hP
  have hS : va_S A s.heap H locs := by rw [hH, hlo]; exact hS
  suffices hg : W p l e rm_X8_begins_e0x9 s m args below meth c H locs 0 0 Q (F0 m 0 ls []) by rw [hH, hlo] at hg; exact hg
  refine lv_iconst (v := 0) hx hb dX8_begins_0 (by decide) ?_
  refine lv_istore_n (lv' := [(2, .int (0 : Int32)), (0, .ref (ad 0)), (1, .ref (ad 9))]) hx hb dX8_begins_1 rfl hl (by decide) rfl (fun ls hl => ?_)
  obtain ⟨w1, hw1, hk1⟩ := bd1_s hq
  have hX1 : ∀ (x_5 : Nat → Int32), w1 = x_5 → ∀ (H : Heap) (locs : List Loc), va_P D cls9 (wM cI ad states whyKind whyOrder many wide textLong spot readColumns all past refused work kept chosen across sum x_5 two base quotients text numbers entries before) H → va_D A (wM cI ad states whyKind whyOrder many wide textLong spot readColumns all past refused work kept chosen across sum x_5 two base quotients text numbers entries before) → va_S A s.heap H locs → ∀ (ls : Array Slot), lv_has ls 3 [] → W p l e rm_X8_begins_e0x9 s m args below meth c H locs 0 0 Q (F0 m 18 ls []) := by
    intro x_5 hq H locs hP hD hS ls hl
    have hq := hk1 _ hq
    have he := Option.some.inj hq
    subst he
    exact hE H locs _ _ dX8_begins_18 hP hD hS
  have hL1 : ∀ (n : Nat) (i_1 : Int32) (i_2 : Nat → Int32), lrun (fun (z : Int32 × (Nat → Int32)) => fX8_begins_e0x9_s2 z.1 z.2) n (i_1, i_2) = some w1 → ∀ (H : Heap) (locs : List Loc), va_P D cls9 (wM cI ad states whyKind whyOrder many wide textLong spot readColumns all past refused work kept chosen across sum i_2 two base quotients text numbers entries before) H → va_D A (wM cI ad states whyKind whyOrder many wide textLong spot readColumns all past refused work kept chosen across sum i_2 two base quotients text numbers entries before) → va_S A s.heap H locs → ∀ (ls : Array Slot), lv_has ls 3 [(1, .ref (ad 9)), (2, .int i_1)] → W p l e rm_X8_begins_e0x9 s m args below meth c H locs 0 0 Q (F0 m 2 ls []) := by
    intro n
    induction n with
    | zero => intro i_1 i_2 h; cases h
    | succ n ih1 =>
      intro i_1 i_2 hr1 H locs hP hD hS ls hl
      obtain ⟨k, v1, hk, hr1, ht1, hv1⟩ := lrun_s hr1
      cases hk
      have hr1 : fX8_begins_e0x9_s2 i_1 i_2 = some v1 := hr1
      unfold fX8_begins_e0x9_s2 at hr1
      refine lv_iload_n hx hb dX8_begins_2 rfl (lv_at hl 1 rfl) ?_
      refine lv_bipush (v := 25) hx hb dX8_begins_3 (by decide) ?_
      refine lv_icmp_ge (tgt := 18) hx hb dX8_begins_5 (by decide) (fun c_3 => ?_) (fun c_3 => ?_)
      · have hr1 := it_t c_3 hr1
        exact hX1 i_2 (hv1 _ (Option.some.inj hr1).symm).symm H locs hP hD hS ls (lv_sub hl [] rfl)
      · have hr1 := it_f c_3 hr1
        refine lv_aload_n hx hb dX8_begins_8 rfl (lv_at hl 0 rfl) ?_
        refine lv_iload_n hx hb dX8_begins_9 rfl (lv_at hl 1 rfl) ?_
        refine lv_iconst (v := 0) hx hb dX8_begins_10 (by decide) ?_
        obtain ⟨h_4, hr1⟩ := gd_s hr1
        refine va_iast hx hb hG.1 hP hD hS 9 0 rfl rfl h_4 dX8_begins_11 (fun H locs hP hD hS => ?_)
        have hP : va_P D cls9 (wM cI ad states whyKind whyOrder many wide textLong spot readColumns all past refused work kept chosen across sum (upd i_2 i_1.toNatClampNeg (0 : Int32)) two base quotients text numbers entries before) H := hP
        have hD : va_D A (wM cI ad states whyKind whyOrder many wide textLong spot readColumns all past refused work kept chosen across sum (upd i_2 i_1.toNatClampNeg (0 : Int32)) two base quotients text numbers entries before) := hD
        refine lv_iinc (v := (i_1 + 1)) (lv' := [(2, .int (i_1 + 1)), (1, .ref (ad 9))]) hx hb dX8_begins_12 hl (k := 1) rfl rfl (by decide) rfl (fun ls hl => ?_)
        refine lv_goto (tgt := 2) hx hb dX8_begins_15 (by decide) ?_
        exact ih1 (i_1 + 1) (upd i_2 i_1.toNatClampNeg (0 : Int32)) (ht1 _ (Option.some.inj hr1).symm) H locs hP hD hS ls (lv_sub hl [1, 0] rfl)
  obtain ⟨n1, hn1⟩ := Lp_s hw1
  exact hL1 n1 (0 : Int32) one hn1 H locs hP hD hS ls (lv_sub hl [2, 0] rfl)
abbrev rm_X8_comes : Room := { frames := 2, cells := 0, slots := 0, locals := 47 }
theorem iX8_comes_X8 : ∀ w ∈ wsX80, w ∈ wsX8_comes := fun _ h => (List.mem_cons_of_mem _ (List.mem_append_right _ h))
theorem fX8_comes_1 : Cond.fieldLink RX8 38 "PopovRowsModel" "one" "[I" ∈ wsX8_comes := (List.mem_cons_of_mem _ (List.mem_append_left _ (List.mem_append_left _ (List.mem_of_getElem? (i := 0) rfl))))
theorem fX8_comes_2 : Cond.fieldLink RX8 29 "PopovRowsModel" "chosen" "[I" ∈ wsX8_comes := (List.mem_cons_of_mem _ (List.mem_append_left _ (List.mem_append_left _ (List.mem_of_getElem? (i := 1) rfl))))
theorem fX8_comes_3 : Cond.fieldLink RX8 32 "PopovRowsModel" "across" "[I" ∈ wsX8_comes := (List.mem_cons_of_mem _ (List.mem_append_left _ (List.mem_append_left _ (List.mem_of_getElem? (i := 2) rfl))))
theorem fX8_comes_4 : Cond.fieldLink RX8 35 "PopovRowsModel" "sum" "[I" ∈ wsX8_comes := (List.mem_cons_of_mem _ (List.mem_append_left _ (List.mem_append_left _ (List.mem_of_getElem? (i := 3) rfl))))
set_option maxHeartbeats 4000000 in
set_option maxRecDepth 100000 in
theorem mtX8_comes (l : Launch) (D : va_G) (cI cB cR : ClassId) (ad : Nat → Nat) (sz : Nat) (states : Int32) (whyKind : Int32) (whyOrder : Int32) (many : Int32) (wide : Int32) (textLong : Int32) (spot : Int32) (readColumns : Int32) (all : Nat → Int32) (past : Nat → Int32) (refused : Nat → Int32) (work : Nat → Int32) (kept : Nat → Int32) (chosen : Nat → Int32) (across : Nat → Int32) (sum : Nat → Int32) (one : Nat → Int32) (two : Nat → Int32) (base : Nat → Int32) (quotients : Nat → Int32) (text : Nat → Int32) (numbers : Nat → Int32) (entries : Nat → Int32) (before : Nat → Int32) (a0 : Int32) (a1 : Int32) (a2 : Int32) (a3 : Int32) (a4 : Int32) (res : (Nat → Int32) × (Nat → Int32) × (Nat → Int32)) (hf : fX8_comes all chosen across sum one two a0 a1 a2 a3 a4 = some res) : Met l yX8_comes wsX8_comes rm_X8_comes (qP D cI cB cR [.ref (ad 0), .int a0, .int a1, .int a2, .int a3, .int a4] (wM cI ad states whyKind whyOrder many wide textLong spot readColumns all past refused work kept chosen across sum one two base quotients text numbers entries before) sz) (qV D (wM cI ad states whyKind whyOrder many wide textLong spot readColumns all past refused work kept chosen across sum one two base quotients text numbers entries before) (wM cI ad states whyKind whyOrder many wide textLong spot readColumns all past refused work kept chosen across res.1 res.2.1 res.2.2 base quotients text numbers entries before) sz) 0 0 (va_A (wM cI ad states whyKind whyOrder many wide textLong spot readColumns all past refused work kept chosen across sum one two base quotients text numbers entries before) sz) := by
  refine entV (plainFor_of_name (by decide)) rfl (Nat.le_of_ble_eq_true rfl) ?_
  intro p e s m args below meth c Q A ls S hG hP hD hA hl hE
  obtain ⟨hx, hb, hml, hown, hts⟩ := S
  have hown : s.vm.findClass RX8 = some m.cls := hown
  have hS : va_S A s.heap s.heap [] := va_S.rf
  have hl : lv_has ls 7 [(0, .ref (ad 0)), (1, .int a0), (2, .int a1), (3, .int a2), (4, .int a3), (5, .int a4)] := hl
  have hq := hf
  unfold fX8_comes at hq
  obtain ⟨H, hH⟩ : ∃ H, H = s.heap := ⟨_, rfl⟩
  obtain ⟨locs, hlo⟩ : ∃ L : List Loc, L = [] := ⟨_, rfl⟩
  have hP : va_P D cls9 (wM cI ad states whyKind whyOrder many wide textLong spot readColumns all past refused work kept chosen across sum one two base quotients text numbers entries before) H := hH ▸ hP
  have hS : va_S A s.heap H locs := by rw [hH, hlo]; exact hS
  suffices hg : W p l e rm_X8_comes s m args below meth c H locs 0 0 Q (F0 m 0 ls []) by rw [hH, hlo] at hg; exact hg
  refine lv_aload_n hx hb dX8_comes_0 rfl (lv_at hl 0 rfl) ?_
  refine lv_aload_n hx hb dX8_comes_1 rfl (lv_at hl 0 rfl) ?_
  refine va_get (D := D) (ci := 8) (v := .ref (ad 9)) (C := RX8) (T := TX8) (N := 24) hx hb hts iX8_comes_X8 hown hG.1 hP 0 rfl rfl 13 (by decide) (hts _ fX8_comes_1) (fun _ h9 => h9) rfl dX8_comes_2 ?_
  obtain ⟨v_3, hq_2, hk⟩ := bd1_s hq
  obtain ⟨u_1, rfl⟩ : ∃ y, y = v_3 := ⟨_, rfl⟩
  have hq := hk _ rfl
  refine callVA (gV (rest := []) ⟨hx, hb, hml, hown, hts⟩ hG hP hD 0 8 rfl rfl (mtX8_begins_e0x9 l D cI cB cR ad H.size states whyKind whyOrder many wide textLong spot readColumns all past refused work kept chosen across sum one two base quotients text numbers entries before u_1 hq_2) (cwV 1 hts gX8_comes_X8_begins rfl rfl rfl ⟨rfl, hd_X8_begins⟩ ⟨Nat.le_of_ble_eq_true rfl, Nat.le_of_ble_eq_true rfl⟩) rfl hl.1 rfl (Nat.le_of_ble_eq_true rfl) dX8_comes_5) hD hS hA (fun H locs hP hD hS => ?_)
  have hP : va_P D cls9 (wM cI ad states whyKind whyOrder many wide textLong spot readColumns all past refused work kept chosen across sum u_1 two base quotients text numbers entries before) H := hP
  have hD : va_D A (wM cI ad states whyKind whyOrder many wide textLong spot readColumns all past refused work kept chosen across sum u_1 two base quotients text numbers entries before) := hD
  refine lv_aload_n hx hb dX8_comes_8 rfl (lv_at hl 0 rfl) ?_
  refine va_get (D := D) (ci := 8) (v := .ref (ad 9)) (C := RX8) (T := TX8) (N := 24) hx hb hts iX8_comes_X8 hown hG.1 hP 0 rfl rfl 13 (by decide) (hts _ fX8_comes_1) (fun _ h9 => h9) rfl dX8_comes_9 ?_
  refine lv_iconst (v := 0) hx hb dX8_comes_12 (by decide) ?_
  refine lv_iconst (v := 1) hx hb dX8_comes_13 (by decide) ?_
  obtain ⟨h_4, hq⟩ := gd_s hq
  refine va_iast hx hb hG.1 hP hD hS 9 0 rfl rfl h_4 dX8_comes_14 (fun H locs hP hD hS => ?_)
  have hP : va_P D cls9 (wM cI ad states whyKind whyOrder many wide textLong spot readColumns all past refused work kept chosen across sum (upd u_1 (0 : Int32).toNatClampNeg (1 : Int32)) two base quotients text numbers entries before) H := hP
  have hD : va_D A (wM cI ad states whyKind whyOrder many wide textLong spot readColumns all past refused work kept chosen across sum (upd u_1 (0 : Int32).toNatClampNeg (1 : Int32)) two base quotients text numbers entries before) := hD
  refine lv_aload_n hx hb dX8_comes_15 rfl (lv_at hl 0 rfl) ?_
  refine lv_aload_n hx hb dX8_comes_16 rfl (lv_at hl 0 rfl) ?_
  refine va_get (D := D) (ci := 8) (v := .ref (ad 6)) (C := RX8) (T := TX8) (N := 24) hx hb hts iX8_comes_X8 hown hG.1 hP 0 rfl rfl 10 (by decide) (hts _ fX8_comes_2) (fun _ h9 => h9) rfl dX8_comes_17 ?_
  refine lv_iconst (v := 0) hx hb dX8_comes_20 (by decide) ?_
  obtain ⟨h_5, hq⟩ := gd_s hq
  refine va_iald hx hb hG.1 hP 6 0 rfl rfl h_5 dX8_comes_21 ?_
  refine lv_aload_n hx hb dX8_comes_22 rfl (lv_at hl 0 rfl) ?_
  refine va_get (D := D) (ci := 8) (v := .ref (ad 7)) (C := RX8) (T := TX8) (N := 24) hx hb hts iX8_comes_X8 hown hG.1 hP 0 rfl rfl 11 (by decide) (hts _ fX8_comes_3) (fun _ h9 => h9) rfl dX8_comes_23 ?_
  refine lv_iload_n hx hb dX8_comes_26 rfl (lv_at hl 2 rfl) ?_
  obtain ⟨h_6, hq⟩ := gd_s hq
  refine va_iald hx hb hG.1 hP 7 0 rfl rfl h_6 dX8_comes_27 ?_
  obtain ⟨v_10, hq_9, hk⟩ := bd2_s hq
  obtain ⟨u_7, u_8⟩ := v_10
  have hq := hk _ _ rfl
  refine callVA (gV (rest := []) ⟨hx, hb, hml, hown, hts⟩ hG hP hD 0 8 rfl rfl (mtX8_multiplies l D cI cB cR ad H.size states whyKind whyOrder many wide textLong spot readColumns all past refused work kept chosen across sum (upd u_1 (0 : Int32).toNatClampNeg (1 : Int32)) two base quotients text numbers entries before (chosen (0 : Int32).toNatClampNeg) (across a1.toNatClampNeg) (u_7, u_8) hq_9) (cwV 2 hts gX8_comes_X8_multiplies rfl rfl rfl ⟨rfl, hd_X8_multiplies⟩ ⟨Nat.le_of_ble_eq_true rfl, Nat.le_of_ble_eq_true rfl⟩) rfl hl.1 rfl (Nat.le_of_ble_eq_true rfl) dX8_comes_28) hD hS hA (fun H locs hP hD hS => ?_)
  have hP : va_P D cls9 (wM cI ad states whyKind whyOrder many wide textLong spot readColumns all past refused work kept chosen across sum u_7 u_8 base quotients text numbers entries before) H := hP
  have hD : va_D A (wM cI ad states whyKind whyOrder many wide textLong spot readColumns all past refused work kept chosen across sum u_7 u_8 base quotients text numbers entries before) := hD
  refine lv_iload_n hx hb dX8_comes_31 rfl (lv_at hl 1 rfl) ?_
  refine lv_iconst (v := 1) hx hb dX8_comes_32 (by decide) ?_
  obtain ⟨v1, hj1, hk1⟩ := bd2_s hq
  have hJ1 : ∀ (j_18 : Nat → Int32) (j_19 : Nat → Int32), v1 = (j_18, j_19) → ∀ (H : Heap) (locs : List Loc), va_P D cls9 (wM cI ad states whyKind whyOrder many wide textLong spot readColumns all past refused work kept chosen across sum j_18 j_19 base quotients text numbers entries before) H → va_D A (wM cI ad states whyKind whyOrder many wide textLong spot readColumns all past refused work kept chosen across sum j_18 j_19 base quotients text numbers entries before) → va_S A s.heap H locs → ∀ (ls : Array Slot), lv_has ls 7 [(0, .ref (ad 0)), (1, .int a0), (4, .int a3), (5, .int a4)] → W p l e rm_X8_comes s m args below meth c H locs 0 0 Q (F0 m 52 ls []) := by
    intro j_18 j_19 hq H locs hP hD hS ls hl
    have hq := hk1 _ _ hq
    refine lv_iload_n hx hb dX8_comes_52 rfl (lv_at hl 1 rfl) ?_
    refine lv_iconst (v := 2) hx hb dX8_comes_53 (by decide) ?_
    obtain ⟨v2, hj2, hk2⟩ := bd2_s hq
    have hJ2 : ∀ (j_27 : Nat → Int32) (j_28 : Nat → Int32), v2 = (j_27, j_28) → ∀ (H : Heap) (locs : List Loc), va_P D cls9 (wM cI ad states whyKind whyOrder many wide textLong spot readColumns all past refused work kept chosen across sum j_27 j_28 base quotients text numbers entries before) H → va_D A (wM cI ad states whyKind whyOrder many wide textLong spot readColumns all past refused work kept chosen across sum j_27 j_28 base quotients text numbers entries before) → va_S A s.heap H locs → ∀ (ls : Array Slot), lv_has ls 7 [(0, .ref (ad 0)), (5, .int a4)] → W p l e rm_X8_comes s m args below meth c H locs 0 0 Q (F0 m 74 ls []) := by
      intro j_27 j_28 hq H locs hP hD hS ls hl
      have hq := hk2 _ _ hq
      refine lv_iconst (v := 0) hx hb dX8_comes_74 (by decide) ?_
      refine lv_istore (lv' := [(6, .int (0 : Int32)), (0, .ref (ad 0)), (5, .int a4)]) hx hb dX8_comes_75 hl (by decide) rfl (fun ls hl => ?_)
      obtain ⟨w3, hw3, hk3⟩ := bd1_s hq
      have hX3 : ∀ (x_38 : Nat → Int32), w3 = x_38 → ∀ (H : Heap) (locs : List Loc), va_P D cls9 (wM cI ad states whyKind whyOrder many wide textLong spot readColumns all past refused work kept chosen across x_38 j_27 j_28 base quotients text numbers entries before) H → va_D A (wM cI ad states whyKind whyOrder many wide textLong spot readColumns all past refused work kept chosen across x_38 j_27 j_28 base quotients text numbers entries before) → va_S A s.heap H locs → ∀ (ls : Array Slot), lv_has ls 7 [] → W p l e rm_X8_comes s m args below meth c H locs 0 0 Q (F0 m 119 ls []) := by
        intro x_38 hq H locs hP hD hS ls hl
        have hq := hk3 _ hq
        have he := Option.some.inj hq
        subst he
        exact hE H locs _ _ dX8_comes_119 hP hD hS
      have hL3 : ∀ (n : Nat) (i_29 : Int32) (i_30 : Nat → Int32), lrun (fun (z : Int32 × (Nat → Int32)) => fX8_comes_s77 all a4 j_27 z.1 z.2) n (i_29, i_30) = some w3 → ∀ (H : Heap) (locs : List Loc), va_P D cls9 (wM cI ad states whyKind whyOrder many wide textLong spot readColumns all past refused work kept chosen across i_30 j_27 j_28 base quotients text numbers entries before) H → va_D A (wM cI ad states whyKind whyOrder many wide textLong spot readColumns all past refused work kept chosen across i_30 j_27 j_28 base quotients text numbers entries before) → va_S A s.heap H locs → ∀ (ls : Array Slot), lv_has ls 7 [(0, .ref (ad 0)), (5, .int a4), (6, .int i_29)] → W p l e rm_X8_comes s m args below meth c H locs 0 0 Q (F0 m 77 ls []) := by
        intro n
        induction n with
        | zero => intro i_29 i_30 h; cases h
        | succ n ih3 =>
          intro i_29 i_30 hr3 H locs hP hD hS ls hl
          obtain ⟨k, v3, hk, hr3, ht3, hv3⟩ := lrun_s hr3
          cases hk
          have hr3 : fX8_comes_s77 all a4 j_27 i_29 i_30 = some v3 := hr3
          unfold fX8_comes_s77 at hr3
          refine lv_iload hx hb dX8_comes_77 (lv_at hl 2 rfl) ?_
          refine lv_bipush (v := 25) hx hb dX8_comes_79 (by decide) ?_
          refine lv_icmp_ge (tgt := 119) hx hb dX8_comes_81 (by decide) (fun c_31 => ?_) (fun c_31 => ?_)
          · have hr3 := it_t c_31 hr3
            exact hX3 i_30 (hv3 _ (Option.some.inj hr3).symm).symm H locs hP hD hS ls (lv_sub hl [] rfl)
          · have hr3 := it_f c_31 hr3
            refine lv_aload_n hx hb dX8_comes_84 rfl (lv_at hl 0 rfl) ?_
            refine va_get (D := D) (ci := 8) (v := .ref (ad 8)) (C := RX8) (T := TX8) (N := 24) hx hb hts iX8_comes_X8 hown hG.1 hP 0 rfl rfl 12 (by decide) (hts _ fX8_comes_4) (fun _ h9 => h9) rfl dX8_comes_85 ?_
            refine lv_iload hx hb dX8_comes_88 (lv_at hl 2 rfl) ?_
            refine lv_aload_n hx hb dX8_comes_90 rfl (lv_at hl 0 rfl) ?_
            refine lv_aload_n hx hb dX8_comes_91 rfl (lv_at hl 0 rfl) ?_
            refine va_get (D := D) (ci := 8) (v := .ref (ad 8)) (C := RX8) (T := TX8) (N := 24) hx hb hts iX8_comes_X8 hown hG.1 hP 0 rfl rfl 12 (by decide) (hts _ fX8_comes_4) (fun _ h9 => h9) rfl dX8_comes_92 ?_
            refine lv_iload hx hb dX8_comes_95 (lv_at hl 2 rfl) ?_
            obtain ⟨h_32, hr3⟩ := gd_s hr3
            refine va_iald hx hb hG.1 hP 8 0 rfl rfl h_32 dX8_comes_97 ?_
            refine lv_iload hx hb dX8_comes_98 (lv_at hl 1 rfl) ?_
            refine lv_aload_n hx hb dX8_comes_100 rfl (lv_at hl 0 rfl) ?_
            refine va_get (D := D) (ci := 8) (v := .ref (ad 9)) (C := RX8) (T := TX8) (N := 24) hx hb hts iX8_comes_X8 hown hG.1 hP 0 rfl rfl 13 (by decide) (hts _ fX8_comes_1) (fun _ h9 => h9) rfl dX8_comes_101 ?_
            refine lv_iload hx hb dX8_comes_104 (lv_at hl 2 rfl) ?_
            obtain ⟨h_33, hr3⟩ := gd_s hr3
            refine va_iald hx hb hG.1 hP 9 0 rfl rfl h_33 dX8_comes_106 ?_
            refine lv_imul hx hb dX8_comes_107 ?_
            refine lv_iadd hx hb dX8_comes_108 ?_
            obtain ⟨v_36, hq_35, hk⟩ := bd1_s hr3
            obtain ⟨r_34, rfl⟩ : ∃ y, y = v_36 := ⟨_, rfl⟩
            have hr3 := hk _ rfl
            refine callIA (gV (rest := [.int i_29, .ref (ad 8)]) ⟨hx, hb, hml, hown, hts⟩ hG hP hD 0 8 rfl rfl (mtX8_left l D cI cB cR ad H.size states whyKind whyOrder many wide textLong spot readColumns all past refused work kept chosen across i_30 j_27 j_28 base quotients text numbers entries before ((i_30 i_29.toNatClampNeg) + (a4 * (j_27 i_29.toNatClampNeg))) r_34 hq_35) (cwV 1 hts gX8_comes_X8_left rfl rfl rfl ⟨rfl, hd_X8_left⟩ ⟨Nat.le_of_ble_eq_true rfl, Nat.le_of_ble_eq_true rfl⟩) rfl hl.1 rfl (Nat.le_of_ble_eq_true rfl) dX8_comes_109) hD hS hA (fun H locs hP hD hS => ?_)
            have hP : va_P D cls9 (wM cI ad states whyKind whyOrder many wide textLong spot readColumns all past refused work kept chosen across i_30 j_27 j_28 base quotients text numbers entries before) H := hP
            have hD : va_D A (wM cI ad states whyKind whyOrder many wide textLong spot readColumns all past refused work kept chosen across i_30 j_27 j_28 base quotients text numbers entries before) := hD
            obtain ⟨h_37, hr3⟩ := gd_s hr3
            refine va_iast hx hb hG.1 hP hD hS 8 0 rfl rfl h_37 dX8_comes_112 (fun H locs hP hD hS => ?_)
            have hP : va_P D cls9 (wM cI ad states whyKind whyOrder many wide textLong spot readColumns all past refused work kept chosen across (upd i_30 i_29.toNatClampNeg r_34) j_27 j_28 base quotients text numbers entries before) H := hP
            have hD : va_D A (wM cI ad states whyKind whyOrder many wide textLong spot readColumns all past refused work kept chosen across (upd i_30 i_29.toNatClampNeg r_34) j_27 j_28 base quotients text numbers entries before) := hD
            refine lv_iinc (v := (i_29 + 1)) (lv' := [(6, .int (i_29 + 1)), (0, .ref (ad 0)), (5, .int a4)]) hx hb dX8_comes_113 hl (k := 2) rfl rfl (by decide) rfl (fun ls hl => ?_)
            refine lv_goto (tgt := 77) hx hb dX8_comes_116 (by decide) ?_
            exact ih3 (i_29 + 1) (upd i_30 i_29.toNatClampNeg r_34) (ht3 _ (Option.some.inj hr3).symm) H locs hP hD hS ls (lv_sub hl [1, 2, 0] rfl)
      obtain ⟨n3, hn3⟩ := Lp_s hw3
      exact hL3 n3 (0 : Int32) sum hn3 H locs hP hD hS ls (lv_sub hl [1, 2, 0] rfl)
    refine lv_icmp_le (tgt := 74) hx hb dX8_comes_54 (by decide) (fun c_20 => ?_) (fun c_20 => ?_)
    · have hj2 := it_t c_20 hj2
      exact hJ2 j_18 j_19 (Option.some.inj hj2).symm  H locs hP hD hS ls (lv_sub hl [0, 3] rfl)
    · have hj2 := it_f c_20 hj2
      refine lv_aload_n hx hb dX8_comes_57 rfl (lv_at hl 0 rfl) ?_
      refine lv_aload_n hx hb dX8_comes_58 rfl (lv_at hl 0 rfl) ?_
      refine va_get (D := D) (ci := 8) (v := .ref (ad 6)) (C := RX8) (T := TX8) (N := 24) hx hb hts iX8_comes_X8 hown hG.1 hP 0 rfl rfl 10 (by decide) (hts _ fX8_comes_2) (fun _ h9 => h9) rfl dX8_comes_59 ?_
      refine lv_iconst (v := 2) hx hb dX8_comes_62 (by decide) ?_
      obtain ⟨h_21, hj2⟩ := gd_s hj2
      refine va_iald hx hb hG.1 hP 6 0 rfl rfl h_21 dX8_comes_63 ?_
      refine lv_aload_n hx hb dX8_comes_64 rfl (lv_at hl 0 rfl) ?_
      refine va_get (D := D) (ci := 8) (v := .ref (ad 7)) (C := RX8) (T := TX8) (N := 24) hx hb hts iX8_comes_X8 hown hG.1 hP 0 rfl rfl 11 (by decide) (hts _ fX8_comes_3) (fun _ h9 => h9) rfl dX8_comes_65 ?_
      refine lv_iload hx hb dX8_comes_68 (lv_at hl 2 rfl) ?_
      obtain ⟨h_22, hj2⟩ := gd_s hj2
      refine va_iald hx hb hG.1 hP 7 0 rfl rfl h_22 dX8_comes_70 ?_
      obtain ⟨v_26, hq_25, hk⟩ := bd2_s hj2
      obtain ⟨u_23, u_24⟩ := v_26
      have hj2 := hk _ _ rfl
      refine callVA (gV (rest := []) ⟨hx, hb, hml, hown, hts⟩ hG hP hD 0 8 rfl rfl (mtX8_multiplies l D cI cB cR ad H.size states whyKind whyOrder many wide textLong spot readColumns all past refused work kept chosen across sum j_18 j_19 base quotients text numbers entries before (chosen (2 : Int32).toNatClampNeg) (across a3.toNatClampNeg) (u_23, u_24) hq_25) (cwV 2 hts gX8_comes_X8_multiplies rfl rfl rfl ⟨rfl, hd_X8_multiplies⟩ ⟨Nat.le_of_ble_eq_true rfl, Nat.le_of_ble_eq_true rfl⟩) rfl hl.1 rfl (Nat.le_of_ble_eq_true rfl) dX8_comes_71) hD hS hA (fun H locs hP hD hS => ?_)
      have hP : va_P D cls9 (wM cI ad states whyKind whyOrder many wide textLong spot readColumns all past refused work kept chosen across sum u_23 u_24 base quotients text numbers entries before) H := hP
      have hD : va_D A (wM cI ad states whyKind whyOrder many wide textLong spot readColumns all past refused work kept chosen across sum u_23 u_24 base quotients text numbers entries before) := hD
      exact hJ2 u_23 u_24 (Option.some.inj hj2).symm  H locs hP hD hS ls (lv_sub hl [0, 3] rfl)
  refine lv_icmp_le (tgt := 52) hx hb dX8_comes_33 (by decide) (fun c_11 => ?_) (fun c_11 => ?_)
  · have hj1 := it_t c_11 hj1
    exact hJ1 u_7 u_8 (Option.some.inj hj1).symm  H locs hP hD hS ls (lv_sub hl [0, 1, 4, 5] rfl)
  · have hj1 := it_f c_11 hj1
    refine lv_aload_n hx hb dX8_comes_36 rfl (lv_at hl 0 rfl) ?_
    refine lv_aload_n hx hb dX8_comes_37 rfl (lv_at hl 0 rfl) ?_
    refine va_get (D := D) (ci := 8) (v := .ref (ad 6)) (C := RX8) (T := TX8) (N := 24) hx hb hts iX8_comes_X8 hown hG.1 hP 0 rfl rfl 10 (by decide) (hts _ fX8_comes_2) (fun _ h9 => h9) rfl dX8_comes_38 ?_
    refine lv_iconst (v := 1) hx hb dX8_comes_41 (by decide) ?_
    obtain ⟨h_12, hj1⟩ := gd_s hj1
    refine va_iald hx hb hG.1 hP 6 0 rfl rfl h_12 dX8_comes_42 ?_
    refine lv_aload_n hx hb dX8_comes_43 rfl (lv_at hl 0 rfl) ?_
    refine va_get (D := D) (ci := 8) (v := .ref (ad 7)) (C := RX8) (T := TX8) (N := 24) hx hb hts iX8_comes_X8 hown hG.1 hP 0 rfl rfl 11 (by decide) (hts _ fX8_comes_3) (fun _ h9 => h9) rfl dX8_comes_44 ?_
    refine lv_iload_n hx hb dX8_comes_47 rfl (lv_at hl 3 rfl) ?_
    obtain ⟨h_13, hj1⟩ := gd_s hj1
    refine va_iald hx hb hG.1 hP 7 0 rfl rfl h_13 dX8_comes_48 ?_
    obtain ⟨v_17, hq_16, hk⟩ := bd2_s hj1
    obtain ⟨u_14, u_15⟩ := v_17
    have hj1 := hk _ _ rfl
    refine callVA (gV (rest := []) ⟨hx, hb, hml, hown, hts⟩ hG hP hD 0 8 rfl rfl (mtX8_multiplies l D cI cB cR ad H.size states whyKind whyOrder many wide textLong spot readColumns all past refused work kept chosen across sum u_7 u_8 base quotients text numbers entries before (chosen (1 : Int32).toNatClampNeg) (across a2.toNatClampNeg) (u_14, u_15) hq_16) (cwV 2 hts gX8_comes_X8_multiplies rfl rfl rfl ⟨rfl, hd_X8_multiplies⟩ ⟨Nat.le_of_ble_eq_true rfl, Nat.le_of_ble_eq_true rfl⟩) rfl hl.1 rfl (Nat.le_of_ble_eq_true rfl) dX8_comes_49) hD hS hA (fun H locs hP hD hS => ?_)
    have hP : va_P D cls9 (wM cI ad states whyKind whyOrder many wide textLong spot readColumns all past refused work kept chosen across sum u_14 u_15 base quotients text numbers entries before) H := hP
    have hD : va_D A (wM cI ad states whyKind whyOrder many wide textLong spot readColumns all past refused work kept chosen across sum u_14 u_15 base quotients text numbers entries before) := hD
    exact hJ1 u_14 u_15 (Option.some.inj hj1).symm  H locs hP hD hS ls (lv_sub hl [0, 1, 4, 5] rfl)
abbrev rm_X8_begins_e0x8 : Room := { frames := 0, cells := 0, slots := 0, locals := 0 }
set_option maxHeartbeats 4000000 in
set_option maxRecDepth 100000 in
theorem mtX8_begins_e0x8 (l : Launch) (D : va_G) (cI cB cR : ClassId) (ad : Nat → Nat) (sz : Nat) (states : Int32) (whyKind : Int32) (whyOrder : Int32) (many : Int32) (wide : Int32) (textLong : Int32) (spot : Int32) (readColumns : Int32) (all : Nat → Int32) (past : Nat → Int32) (refused : Nat → Int32) (work : Nat → Int32) (kept : Nat → Int32) (chosen : Nat → Int32) (across : Nat → Int32) (sum : Nat → Int32) (one : Nat → Int32) (two : Nat → Int32) (base : Nat → Int32) (quotients : Nat → Int32) (text : Nat → Int32) (numbers : Nat → Int32) (entries : Nat → Int32) (before : Nat → Int32) (res : Nat → Int32) (hf : fX8_begins_e0x8 sum = some res) : Met l yX8_begins wsX8_begins rm_X8_begins_e0x8 (qP D cI cB cR [.ref (ad 0), .ref (ad 8)] (wM cI ad states whyKind whyOrder many wide textLong spot readColumns all past refused work kept chosen across sum one two base quotients text numbers entries before) sz) (qV D (wM cI ad states whyKind whyOrder many wide textLong spot readColumns all past refused work kept chosen across sum one two base quotients text numbers entries before) (wM cI ad states whyKind whyOrder many wide textLong spot readColumns all past refused work kept chosen across res one two base quotients text numbers entries before) sz) 0 0 (va_A (wM cI ad states whyKind whyOrder many wide textLong spot readColumns all past refused work kept chosen across sum one two base quotients text numbers entries before) sz) := by
  refine entV (plainFor_of_name (by decide)) rfl (Nat.le_of_ble_eq_true rfl) ?_
  intro p e s m args below meth c Q A ls S hG hP hD hA hl hE
  obtain ⟨hx, hb, hml, hown, hts⟩ := S
  have hown : s.vm.findClass RX8 = some m.cls := hown
  have hS : va_S A s.heap s.heap [] := va_S.rf
  have hl : lv_has ls 3 [(0, .ref (ad 0)), (1, .ref (ad 8))] := hl
  have hq := hf
  unfold fX8_begins_e0x8 at hq
  obtain ⟨H, hH⟩ : ∃ H, H = s.heap := ⟨_, rfl⟩
  obtain ⟨locs, hlo⟩ : ∃ L : List Loc, L = [] := ⟨_, rfl⟩
  have hP : va_P D cls9 (wM cI ad states whyKind whyOrder many wide textLong spot readColumns all past refused work kept chosen across sum one two base quotients text numbers entries before) H := hH ▸ hP
  have hS : va_S A s.heap H locs := by rw [hH, hlo]; exact hS
  suffices hg : W p l e rm_X8_begins_e0x8 s m args below meth c H locs 0 0 Q (F0 m 0 ls []) by rw [hH, hlo] at hg; exact hg
  refine lv_iconst (v := 0) hx hb dX8_begins_0 (by decide) ?_
  refine lv_istore_n (lv' := [(2, .int (0 : Int32)), (0, .ref (ad 0)), (1, .ref (ad 8))]) hx hb dX8_begins_1 rfl hl (by decide) rfl (fun ls hl => ?_)
  obtain ⟨w1, hw1, hk1⟩ := bd1_s hq
  have hX1 : ∀ (x_5 : Nat → Int32), w1 = x_5 → ∀ (H : Heap) (locs : List Loc), va_P D cls9 (wM cI ad states whyKind whyOrder many wide textLong spot readColumns all past refused work kept chosen across x_5 one two base quotients text numbers entries before) H → va_D A (wM cI ad states whyKind whyOrder many wide textLong spot readColumns all past refused work kept chosen across x_5 one two base quotients text numbers entries before) → va_S A s.heap H locs → ∀ (ls : Array Slot), lv_has ls 3 [] → W p l e rm_X8_begins_e0x8 s m args below meth c H locs 0 0 Q (F0 m 18 ls []) := by
    intro x_5 hq H locs hP hD hS ls hl
    have hq := hk1 _ hq
    have he := Option.some.inj hq
    subst he
    exact hE H locs _ _ dX8_begins_18 hP hD hS
  have hL1 : ∀ (n : Nat) (i_1 : Int32) (i_2 : Nat → Int32), lrun (fun (z : Int32 × (Nat → Int32)) => fX8_begins_e0x8_s2 z.1 z.2) n (i_1, i_2) = some w1 → ∀ (H : Heap) (locs : List Loc), va_P D cls9 (wM cI ad states whyKind whyOrder many wide textLong spot readColumns all past refused work kept chosen across i_2 one two base quotients text numbers entries before) H → va_D A (wM cI ad states whyKind whyOrder many wide textLong spot readColumns all past refused work kept chosen across i_2 one two base quotients text numbers entries before) → va_S A s.heap H locs → ∀ (ls : Array Slot), lv_has ls 3 [(1, .ref (ad 8)), (2, .int i_1)] → W p l e rm_X8_begins_e0x8 s m args below meth c H locs 0 0 Q (F0 m 2 ls []) := by
    intro n
    induction n with
    | zero => intro i_1 i_2 h; cases h
    | succ n ih1 =>
      intro i_1 i_2 hr1 H locs hP hD hS ls hl
      obtain ⟨k, v1, hk, hr1, ht1, hv1⟩ := lrun_s hr1
      cases hk
      have hr1 : fX8_begins_e0x8_s2 i_1 i_2 = some v1 := hr1
      unfold fX8_begins_e0x8_s2 at hr1
      refine lv_iload_n hx hb dX8_begins_2 rfl (lv_at hl 1 rfl) ?_
      refine lv_bipush (v := 25) hx hb dX8_begins_3 (by decide) ?_
      refine lv_icmp_ge (tgt := 18) hx hb dX8_begins_5 (by decide) (fun c_3 => ?_) (fun c_3 => ?_)
      · have hr1 := it_t c_3 hr1
        exact hX1 i_2 (hv1 _ (Option.some.inj hr1).symm).symm H locs hP hD hS ls (lv_sub hl [] rfl)
      · have hr1 := it_f c_3 hr1
        refine lv_aload_n hx hb dX8_begins_8 rfl (lv_at hl 0 rfl) ?_
        refine lv_iload_n hx hb dX8_begins_9 rfl (lv_at hl 1 rfl) ?_
        refine lv_iconst (v := 0) hx hb dX8_begins_10 (by decide) ?_
        obtain ⟨h_4, hr1⟩ := gd_s hr1
        refine va_iast hx hb hG.1 hP hD hS 8 0 rfl rfl h_4 dX8_begins_11 (fun H locs hP hD hS => ?_)
        have hP : va_P D cls9 (wM cI ad states whyKind whyOrder many wide textLong spot readColumns all past refused work kept chosen across (upd i_2 i_1.toNatClampNeg (0 : Int32)) one two base quotients text numbers entries before) H := hP
        have hD : va_D A (wM cI ad states whyKind whyOrder many wide textLong spot readColumns all past refused work kept chosen across (upd i_2 i_1.toNatClampNeg (0 : Int32)) one two base quotients text numbers entries before) := hD
        refine lv_iinc (v := (i_1 + 1)) (lv' := [(2, .int (i_1 + 1)), (1, .ref (ad 8))]) hx hb dX8_begins_12 hl (k := 1) rfl rfl (by decide) rfl (fun ls hl => ?_)
        refine lv_goto (tgt := 2) hx hb dX8_begins_15 (by decide) ?_
        exact ih1 (i_1 + 1) (upd i_2 i_1.toNatClampNeg (0 : Int32)) (ht1 _ (Option.some.inj hr1).symm) H locs hP hD hS ls (lv_sub hl [1, 0] rfl)
  obtain ⟨n1, hn1⟩ := Lp_s hw1
  exact hL1 n1 (0 : Int32) sum hn1 H locs hP hD hS ls (lv_sub hl [2, 0] rfl)
abbrev rm_X8_determines : Room := { frames := 3, cells := 0, slots := 0, locals := 73 }
theorem iX8_determines_X8 : ∀ w ∈ wsX80, w ∈ wsX8_determines := fun _ h => (List.mem_cons_of_mem _ (List.mem_append_right _ h))
theorem fX8_determines_1 : Cond.fieldLink RX8 35 "PopovRowsModel" "sum" "[I" ∈ wsX8_determines := (List.mem_cons_of_mem _ (List.mem_append_left _ (List.mem_append_left _ (List.mem_of_getElem? (i := 0) rfl))))
set_option maxHeartbeats 4000000 in
set_option maxRecDepth 100000 in
theorem mtX8_determines (l : Launch) (D : va_G) (cI cB cR : ClassId) (ad : Nat → Nat) (sz : Nat) (states : Int32) (whyKind : Int32) (whyOrder : Int32) (many : Int32) (wide : Int32) (textLong : Int32) (spot : Int32) (readColumns : Int32) (all : Nat → Int32) (past : Nat → Int32) (refused : Nat → Int32) (work : Nat → Int32) (kept : Nat → Int32) (chosen : Nat → Int32) (across : Nat → Int32) (sum : Nat → Int32) (one : Nat → Int32) (two : Nat → Int32) (base : Nat → Int32) (quotients : Nat → Int32) (text : Nat → Int32) (numbers : Nat → Int32) (entries : Nat → Int32) (before : Nat → Int32) (a0 : Int32) (res : (Nat → Int32) × (Nat → Int32) × (Nat → Int32)) (hf : fX8_determines all chosen across sum one two a0 = some res) : Met l yX8_determines wsX8_determines rm_X8_determines (qP D cI cB cR [.ref (ad 0), .int a0] (wM cI ad states whyKind whyOrder many wide textLong spot readColumns all past refused work kept chosen across sum one two base quotients text numbers entries before) sz) (qV D (wM cI ad states whyKind whyOrder many wide textLong spot readColumns all past refused work kept chosen across sum one two base quotients text numbers entries before) (wM cI ad states whyKind whyOrder many wide textLong spot readColumns all past refused work kept chosen across res.1 res.2.1 res.2.2 base quotients text numbers entries before) sz) 0 0 (va_A (wM cI ad states whyKind whyOrder many wide textLong spot readColumns all past refused work kept chosen across sum one two base quotients text numbers entries before) sz) := by
  refine entV (plainFor_of_name (by decide)) rfl (Nat.le_of_ble_eq_true rfl) ?_
  intro p e s m args below meth c Q A ls S hG hP hD hA hl hE
  obtain ⟨hx, hb, hml, hown, hts⟩ := S
  have hown : s.vm.findClass RX8 = some m.cls := hown
  have hS : va_S A s.heap s.heap [] := va_S.rf
  have hl : lv_has ls 2 [(0, .ref (ad 0)), (1, .int a0)] := hl
  have hq := hf
  unfold fX8_determines at hq
  obtain ⟨H, hH⟩ : ∃ H, H = s.heap := ⟨_, rfl⟩
  obtain ⟨locs, hlo⟩ : ∃ L : List Loc, L = [] := ⟨_, rfl⟩
  have hP : va_P D cls9 (wM cI ad states whyKind whyOrder many wide textLong spot readColumns all past refused work kept chosen across sum one two base quotients text numbers entries before) H := hH ▸ hP
  have hS : va_S A s.heap H locs := by rw [hH, hlo]; exact hS
  suffices hg : W p l e rm_X8_determines s m args below meth c H locs 0 0 Q (F0 m 0 ls []) by rw [hH, hlo] at hg; exact hg
  refine lv_aload_n hx hb dX8_determines_0 rfl (lv_at hl 0 rfl) ?_
  refine lv_aload_n hx hb dX8_determines_1 rfl (lv_at hl 0 rfl) ?_
  refine va_get (D := D) (ci := 8) (v := .ref (ad 8)) (C := RX8) (T := TX8) (N := 24) hx hb hts iX8_determines_X8 hown hG.1 hP 0 rfl rfl 12 (by decide) (hts _ fX8_determines_1) (fun _ h9 => h9) rfl dX8_determines_2 ?_
  obtain ⟨v_3, hq_2, hk⟩ := bd1_s hq
  obtain ⟨u_1, rfl⟩ : ∃ y, y = v_3 := ⟨_, rfl⟩
  have hq := hk _ rfl
  refine callVA (gV (rest := []) ⟨hx, hb, hml, hown, hts⟩ hG hP hD 0 8 rfl rfl (mtX8_begins_e0x8 l D cI cB cR ad H.size states whyKind whyOrder many wide textLong spot readColumns all past refused work kept chosen across sum one two base quotients text numbers entries before u_1 hq_2) (cwV 1 hts gX8_determines_X8_begins rfl rfl rfl ⟨rfl, hd_X8_begins⟩ ⟨Nat.le_of_ble_eq_true rfl, Nat.le_of_ble_eq_true rfl⟩) rfl hl.1 rfl (Nat.le_of_ble_eq_true rfl) dX8_determines_5) hD hS hA (fun H locs hP hD hS => ?_)
  have hP : va_P D cls9 (wM cI ad states whyKind whyOrder many wide textLong spot readColumns all past refused work kept chosen across u_1 one two base quotients text numbers entries before) H := hP
  have hD : va_D A (wM cI ad states whyKind whyOrder many wide textLong spot readColumns all past refused work kept chosen across u_1 one two base quotients text numbers entries before) := hD
  refine lv_aload_n hx hb dX8_determines_8 rfl (lv_at hl 0 rfl) ?_
  refine lv_iload_n hx hb dX8_determines_9 rfl (lv_at hl 1 rfl) ?_
  refine lv_iconst (v := 0) hx hb dX8_determines_10 (by decide) ?_
  refine lv_iconst (v := 1) hx hb dX8_determines_11 (by decide) ?_
  refine lv_iconst (v := 2) hx hb dX8_determines_12 (by decide) ?_
  refine lv_iconst (v := 1) hx hb dX8_determines_13 (by decide) ?_
  obtain ⟨v_8, hq_7, hk⟩ := bd3_s hq
  obtain ⟨u_4, u_5, u_6⟩ := v_8
  have hq := hk _ _ _ rfl
  refine callVA (gV (rest := []) ⟨hx, hb, hml, hown, hts⟩ hG hP hD 0 8 rfl rfl (mtX8_comes l D cI cB cR ad H.size states whyKind whyOrder many wide textLong spot readColumns all past refused work kept chosen across u_1 one two base quotients text numbers entries before a0 (0 : Int32) (1 : Int32) (2 : Int32) (1 : Int32) (u_4, u_5, u_6) hq_7) (cwV 5 hts gX8_determines_X8_comes rfl rfl rfl ⟨rfl, hd_X8_comes⟩ ⟨Nat.le_of_ble_eq_true rfl, Nat.le_of_ble_eq_true rfl⟩) rfl hl.1 rfl (Nat.le_of_ble_eq_true rfl) dX8_determines_14) hD hS hA (fun H locs hP hD hS => ?_)
  have hP : va_P D cls9 (wM cI ad states whyKind whyOrder many wide textLong spot readColumns all past refused work kept chosen across u_4 u_5 u_6 base quotients text numbers entries before) H := hP
  have hD : va_D A (wM cI ad states whyKind whyOrder many wide textLong spot readColumns all past refused work kept chosen across u_4 u_5 u_6 base quotients text numbers entries before) := hD
  refine lv_iload_n hx hb dX8_determines_17 rfl (lv_at hl 1 rfl) ?_
  refine lv_iconst (v := 1) hx hb dX8_determines_18 (by decide) ?_
  obtain ⟨v1, hj1, hk1⟩ := bd3_s hq
  have hJ1 : ∀ (j_15 : Nat → Int32) (j_16 : Nat → Int32) (j_17 : Nat → Int32), v1 = (j_15, j_16, j_17) → ∀ (H : Heap) (locs : List Loc), va_P D cls9 (wM cI ad states whyKind whyOrder many wide textLong spot readColumns all past refused work kept chosen across j_16 j_15 j_17 base quotients text numbers entries before) H → va_D A (wM cI ad states whyKind whyOrder many wide textLong spot readColumns all past refused work kept chosen across j_16 j_15 j_17 base quotients text numbers entries before) → va_S A s.heap H locs → ∀ (ls : Array Slot), lv_has ls 2 [(0, .ref (ad 0)), (1, .int a0)] → W p l e rm_X8_determines s m args below meth c H locs 0 0 Q (F0 m 31 ls []) := by
    intro j_15 j_16 j_17 hq H locs hP hD hS ls hl
    have hq := hk1 _ _ _ hq
    refine lv_iload_n hx hb dX8_determines_31 rfl (lv_at hl 1 rfl) ?_
    refine lv_iconst (v := 2) hx hb dX8_determines_32 (by decide) ?_
    refine lv_icmp_le (tgt := 72) hx hb dX8_determines_33 (by decide) (fun c_18 => ?_) (fun c_18 => ?_)
    · have hq := it_t c_18 hq
      have he := Option.some.inj hq
      subst he
      exact hE H locs _ _ dX8_determines_72 hP hD hS
    · have hq := it_f c_18 hq
      refine lv_aload_n hx hb dX8_determines_36 rfl (lv_at hl 0 rfl) ?_
      refine lv_iload_n hx hb dX8_determines_37 rfl (lv_at hl 1 rfl) ?_
      refine lv_iconst (v := 1) hx hb dX8_determines_38 (by decide) ?_
      refine lv_iconst (v := 2) hx hb dX8_determines_39 (by decide) ?_
      refine lv_iconst (v := 0) hx hb dX8_determines_40 (by decide) ?_
      refine lv_iconst (v := 1) hx hb dX8_determines_41 (by decide) ?_
      obtain ⟨v_23, hq_22, hk⟩ := bd3_s hq
      obtain ⟨u_19, u_20, u_21⟩ := v_23
      have hq := hk _ _ _ rfl
      refine callVA (gV (rest := []) ⟨hx, hb, hml, hown, hts⟩ hG hP hD 0 8 rfl rfl (mtX8_comes l D cI cB cR ad H.size states whyKind whyOrder many wide textLong spot readColumns all past refused work kept chosen across j_16 j_15 j_17 base quotients text numbers entries before a0 (1 : Int32) (2 : Int32) (0 : Int32) (1 : Int32) (u_19, u_20, u_21) hq_22) (cwV 5 hts gX8_determines_X8_comes rfl rfl rfl ⟨rfl, hd_X8_comes⟩ ⟨Nat.le_of_ble_eq_true rfl, Nat.le_of_ble_eq_true rfl⟩) rfl hl.1 rfl (Nat.le_of_ble_eq_true rfl) dX8_determines_42) hD hS hA (fun H locs hP hD hS => ?_)
      have hP : va_P D cls9 (wM cI ad states whyKind whyOrder many wide textLong spot readColumns all past refused work kept chosen across u_19 u_20 u_21 base quotients text numbers entries before) H := hP
      have hD : va_D A (wM cI ad states whyKind whyOrder many wide textLong spot readColumns all past refused work kept chosen across u_19 u_20 u_21 base quotients text numbers entries before) := hD
      refine lv_aload_n hx hb dX8_determines_45 rfl (lv_at hl 0 rfl) ?_
      refine lv_iload_n hx hb dX8_determines_46 rfl (lv_at hl 1 rfl) ?_
      refine lv_iconst (v := 2) hx hb dX8_determines_47 (by decide) ?_
      refine lv_iconst (v := 0) hx hb dX8_determines_48 (by decide) ?_
      refine lv_iconst (v := 1) hx hb dX8_determines_49 (by decide) ?_
      refine lv_iconst (v := 1) hx hb dX8_determines_50 (by decide) ?_
      obtain ⟨v_28, hq_27, hk⟩ := bd3_s hq
      obtain ⟨u_24, u_25, u_26⟩ := v_28
      have hq := hk _ _ _ rfl
      refine callVA (gV (rest := []) ⟨hx, hb, hml, hown, hts⟩ hG hP hD 0 8 rfl rfl (mtX8_comes l D cI cB cR ad H.size states whyKind whyOrder many wide textLong spot readColumns all past refused work kept chosen across u_19 u_20 u_21 base quotients text numbers entries before a0 (2 : Int32) (0 : Int32) (1 : Int32) (1 : Int32) (u_24, u_25, u_26) hq_27) (cwV 5 hts gX8_determines_X8_comes rfl rfl rfl ⟨rfl, hd_X8_comes⟩ ⟨Nat.le_of_ble_eq_true rfl, Nat.le_of_ble_eq_true rfl⟩) rfl hl.1 rfl (Nat.le_of_ble_eq_true rfl) dX8_determines_51) hD hS hA (fun H locs hP hD hS => ?_)
      have hP : va_P D cls9 (wM cI ad states whyKind whyOrder many wide textLong spot readColumns all past refused work kept chosen across u_24 u_25 u_26 base quotients text numbers entries before) H := hP
      have hD : va_D A (wM cI ad states whyKind whyOrder many wide textLong spot readColumns all past refused work kept chosen across u_24 u_25 u_26 base quotients text numbers entries before) := hD
      refine lv_aload_n hx hb dX8_determines_54 rfl (lv_at hl 0 rfl) ?_
      refine lv_iload_n hx hb dX8_determines_55 rfl (lv_at hl 1 rfl) ?_
      refine lv_iconst (v := 2) hx hb dX8_determines_56 (by decide) ?_
      refine lv_iconst (v := 1) hx hb dX8_determines_57 (by decide) ?_
      refine lv_iconst (v := 0) hx hb dX8_determines_58 (by decide) ?_
      refine lv_iconst (v := -1) hx hb dX8_determines_59 (by decide) ?_
      obtain ⟨v_33, hq_32, hk⟩ := bd3_s hq
      obtain ⟨u_29, u_30, u_31⟩ := v_33
      have hq := hk _ _ _ rfl
      refine callVA (gV (rest := []) ⟨hx, hb, hml, hown, hts⟩ hG hP hD 0 8 rfl rfl (mtX8_comes l D cI cB cR ad H.size states whyKind whyOrder many wide textLong spot readColumns all past refused work kept chosen across u_24 u_25 u_26 base quotients text numbers entries before a0 (2 : Int32) (1 : Int32) (0 : Int32) (-1 : Int32) (u_29, u_30, u_31) hq_32) (cwV 5 hts gX8_determines_X8_comes rfl rfl rfl ⟨rfl, hd_X8_comes⟩ ⟨Nat.le_of_ble_eq_true rfl, Nat.le_of_ble_eq_true rfl⟩) rfl hl.1 rfl (Nat.le_of_ble_eq_true rfl) dX8_determines_60) hD hS hA (fun H locs hP hD hS => ?_)
      have hP : va_P D cls9 (wM cI ad states whyKind whyOrder many wide textLong spot readColumns all past refused work kept chosen across u_29 u_30 u_31 base quotients text numbers entries before) H := hP
      have hD : va_D A (wM cI ad states whyKind whyOrder many wide textLong spot readColumns all past refused work kept chosen across u_29 u_30 u_31 base quotients text numbers entries before) := hD
      refine lv_aload_n hx hb dX8_determines_63 rfl (lv_at hl 0 rfl) ?_
      refine lv_iload_n hx hb dX8_determines_64 rfl (lv_at hl 1 rfl) ?_
      refine lv_iconst (v := 0) hx hb dX8_determines_65 (by decide) ?_
      refine lv_iconst (v := 2) hx hb dX8_determines_66 (by decide) ?_
      refine lv_iconst (v := 1) hx hb dX8_determines_67 (by decide) ?_
      refine lv_iconst (v := -1) hx hb dX8_determines_68 (by decide) ?_
      obtain ⟨v_38, hq_37, hk⟩ := bd3_s hq
      obtain ⟨u_34, u_35, u_36⟩ := v_38
      have hq := hk _ _ _ rfl
      refine callVA (gV (rest := []) ⟨hx, hb, hml, hown, hts⟩ hG hP hD 0 8 rfl rfl (mtX8_comes l D cI cB cR ad H.size states whyKind whyOrder many wide textLong spot readColumns all past refused work kept chosen across u_29 u_30 u_31 base quotients text numbers entries before a0 (0 : Int32) (2 : Int32) (1 : Int32) (-1 : Int32) (u_34, u_35, u_36) hq_37) (cwV 5 hts gX8_determines_X8_comes rfl rfl rfl ⟨rfl, hd_X8_comes⟩ ⟨Nat.le_of_ble_eq_true rfl, Nat.le_of_ble_eq_true rfl⟩) rfl hl.1 rfl (Nat.le_of_ble_eq_true rfl) dX8_determines_69) hD hS hA (fun H locs hP hD hS => ?_)
      have hP : va_P D cls9 (wM cI ad states whyKind whyOrder many wide textLong spot readColumns all past refused work kept chosen across u_34 u_35 u_36 base quotients text numbers entries before) H := hP
      have hD : va_D A (wM cI ad states whyKind whyOrder many wide textLong spot readColumns all past refused work kept chosen across u_34 u_35 u_36 base quotients text numbers entries before) := hD
      have he := Option.some.inj hq
      subst he
      exact hE H locs _ _ dX8_determines_72 hP hD hS
  refine lv_icmp_le (tgt := 31) hx hb dX8_determines_19 (by decide) (fun c_9 => ?_) (fun c_9 => ?_)
  · have hj1 := it_t c_9 hj1
    exact hJ1 u_5 u_4 u_6 (Option.some.inj hj1).symm  H locs hP hD hS ls (lv_sub hl [0, 1] rfl)
  · have hj1 := it_f c_9 hj1
    refine lv_aload_n hx hb dX8_determines_22 rfl (lv_at hl 0 rfl) ?_
    refine lv_iload_n hx hb dX8_determines_23 rfl (lv_at hl 1 rfl) ?_
    refine lv_iconst (v := 1) hx hb dX8_determines_24 (by decide) ?_
    refine lv_iconst (v := 0) hx hb dX8_determines_25 (by decide) ?_
    refine lv_iconst (v := 2) hx hb dX8_determines_26 (by decide) ?_
    refine lv_iconst (v := -1) hx hb dX8_determines_27 (by decide) ?_
    obtain ⟨v_14, hq_13, hk⟩ := bd3_s hj1
    obtain ⟨u_10, u_11, u_12⟩ := v_14
    have hj1 := hk _ _ _ rfl
    refine callVA (gV (rest := []) ⟨hx, hb, hml, hown, hts⟩ hG hP hD 0 8 rfl rfl (mtX8_comes l D cI cB cR ad H.size states whyKind whyOrder many wide textLong spot readColumns all past refused work kept chosen across u_4 u_5 u_6 base quotients text numbers entries before a0 (1 : Int32) (0 : Int32) (2 : Int32) (-1 : Int32) (u_10, u_11, u_12) hq_13) (cwV 5 hts gX8_determines_X8_comes rfl rfl rfl ⟨rfl, hd_X8_comes⟩ ⟨Nat.le_of_ble_eq_true rfl, Nat.le_of_ble_eq_true rfl⟩) rfl hl.1 rfl (Nat.le_of_ble_eq_true rfl) dX8_determines_28) hD hS hA (fun H locs hP hD hS => ?_)
    have hP : va_P D cls9 (wM cI ad states whyKind whyOrder many wide textLong spot readColumns all past refused work kept chosen across u_10 u_11 u_12 base quotients text numbers entries before) H := hP
    have hD : va_D A (wM cI ad states whyKind whyOrder many wide textLong spot readColumns all past refused work kept chosen across u_10 u_11 u_12 base quotients text numbers entries before) := hD
    exact hJ1 u_11 u_10 u_12 (Option.some.inj hj1).symm  H locs hP hD hS ls (lv_sub hl [0, 1] rfl)
abbrev rm_X8_degreeOf : Room := { frames := 0, cells := 0, slots := 0, locals := 0 }
set_option maxHeartbeats 4000000 in
set_option maxRecDepth 100000 in
theorem mtX8_degreeOf (l : Launch) (D : va_G) (cI cB cR : ClassId) (uah : Nat) (sz : Nat) (uL : Nat) (uarr : Nat → Int32) (res : Int32) (hf : fX8_degreeOf uL uarr = some res) : Met l yX8_degreeOf wsX8_degreeOf rm_X8_degreeOf (qP D cI cB cR [.ref uah] (wA cI uah uL uarr) sz) (qI D res (wA cI uah uL uarr) (wA cI uah uL uarr) sz) 0 0 (va_A (wA cI uah uL uarr) sz) := by
  refine entI (plainFor_of_name (by decide)) rfl (Nat.le_of_ble_eq_true rfl) ?_
  intro p e s m args below meth c Q A ls S hG hP hD hA hl hE
  obtain ⟨hx, hb, hml, hown, hts⟩ := S
  have hown : s.vm.findClass RX8 = some m.cls := hown
  have hS : va_S A s.heap s.heap [] := va_S.rf
  have hl : lv_has ls 2 [(0, .ref uah)] := hl
  have hq := hf
  unfold fX8_degreeOf at hq
  obtain ⟨H, hH⟩ : ∃ H, H = s.heap := ⟨_, rfl⟩
  obtain ⟨locs, hlo⟩ : ∃ L : List Loc, L = [] := ⟨_, rfl⟩
  have hP : va_P D cls9 (wA cI uah uL uarr) H := hH ▸ hP
  have hS : va_S A s.heap H locs := by rw [hH, hlo]; exact hS
  suffices hg : W p l e rm_X8_degreeOf s m args below meth c H locs 0 0 Q (F0 m 0 ls []) by rw [hH, hlo] at hg; exact hg
  refine lv_bipush (v := 24) hx hb dX8_degreeOf_0 (by decide) ?_
  refine lv_istore_n (lv' := [(1, .int (24 : Int32)), (0, .ref uah)]) hx hb dX8_degreeOf_2 rfl hl (by decide) rfl (fun ls hl => ?_)
  obtain ⟨w1, hw1, hk1⟩ := bd1_s hq
  have hX1 : ∀ (x_5 : Int32), w1 = x_5 → ∀ (H : Heap) (locs : List Loc), va_P D cls9 (wA cI uah uL uarr) H → va_D A (wA cI uah uL uarr) → va_S A s.heap H locs → ∀ (ls : Array Slot), lv_has ls 2 [(1, .int x_5)] → W p l e rm_X8_degreeOf s m args below meth c H locs 0 0 Q (F0 m 19 ls []) := by
    intro x_5 hq H locs hP hD hS ls hl
    have hq := hk1 _ hq
    refine lv_iload_n hx hb dX8_degreeOf_19 rfl (lv_at hl 0 rfl) ?_
    have he := Option.some.inj hq
    subst he
    exact hE H locs _ _ _ rfl dX8_degreeOf_20 hP hD hS
  have hL1 : ∀ (n : Nat) (i_1 : Int32), lrun (fun (z : Int32) => fX8_degreeOf_s3 uL uarr z) n i_1 = some w1 → ∀ (H : Heap) (locs : List Loc), va_P D cls9 (wA cI uah uL uarr) H → va_D A (wA cI uah uL uarr) → va_S A s.heap H locs → ∀ (ls : Array Slot), lv_has ls 2 [(0, .ref uah), (1, .int i_1)] → W p l e rm_X8_degreeOf s m args below meth c H locs 0 0 Q (F0 m 3 ls []) := by
    intro n
    induction n with
    | zero => intro i_1 h; cases h
    | succ n ih1 =>
      intro i_1 hr1 H locs hP hD hS ls hl
      obtain ⟨k, v1, hk, hr1, ht1, hv1⟩ := lrun_s hr1
      cases hk
      have hr1 : fX8_degreeOf_s3 uL uarr i_1 = some v1 := hr1
      unfold fX8_degreeOf_s3 at hr1
      refine lv_iload_n hx hb dX8_degreeOf_3 rfl (lv_at hl 1 rfl) ?_
      refine lv_if_lt (tgt := 19) hx hb dX8_degreeOf_4 (by decide) (fun c_2 => ?_) (fun c_2 => ?_)
      · have hr1 := it_t c_2 hr1
        exact hX1 i_1 (hv1 _ (Option.some.inj hr1).symm).symm H locs hP hD hS ls (lv_sub hl [1] rfl)
      · have hr1 := it_f c_2 hr1
        refine lv_aload_n hx hb dX8_degreeOf_7 rfl (lv_at hl 0 rfl) ?_
        refine lv_iload_n hx hb dX8_degreeOf_8 rfl (lv_at hl 1 rfl) ?_
        obtain ⟨h_3, hr1⟩ := gd_s hr1
        refine va_iald hx hb hG.1 hP 0 0 rfl rfl h_3 dX8_degreeOf_9 ?_
        refine lv_if_ne (tgt := 19) hx hb dX8_degreeOf_10 (by decide) (fun c_4 => ?_) (fun c_4 => ?_)
        · have hr1 := it_f c_4 hr1
          exact hX1 i_1 (hv1 _ (Option.some.inj hr1).symm).symm H locs hP hD hS ls (lv_sub hl [1] rfl)
        · have hr1 := it_t c_4 hr1
          refine lv_iinc (v := (i_1 + (-1))) (lv' := [(1, .int (i_1 + (-1))), (0, .ref uah)]) hx hb dX8_degreeOf_13 hl (k := 1) rfl rfl (by decide) rfl (fun ls hl => ?_)
          refine lv_goto (tgt := 3) hx hb dX8_degreeOf_16 (by decide) ?_
          exact ih1 (i_1 + (-1)) (ht1 _ (Option.some.inj hr1).symm) H locs hP hD hS ls (lv_sub hl [1, 0] rfl)
  obtain ⟨n1, hn1⟩ := Lp_s hw1
  exact hL1 n1 (24 : Int32) hn1 H locs hP hD hS ls (lv_sub hl [1, 0] rfl)
