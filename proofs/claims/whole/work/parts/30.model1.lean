abbrev rm_X8_primeNow : Room := { frames := 1, cells := 0, slots := 0, locals := 21 }
theorem iX8_primeNow_X8 : ∀ w ∈ wsX80, w ∈ wsX8_primeNow := fun _ h => (List.mem_cons_of_mem _ (List.mem_append_right _ h))
theorem fX8_primeNow_1 : Cond.fieldLink RX8 7 "PopovRowsModel" "all" "[I" ∈ wsX8_primeNow := (List.mem_cons_of_mem _ (List.mem_append_left _ (List.mem_of_getElem? (i := 0) rfl)))
set_option maxHeartbeats 4000000 in
set_option maxRecDepth 100000 in
theorem mtX8_primeNow (l : Launch) (D : va_G) (cI cB cR : ClassId) (ad : Nat → Nat) (sz : Nat) (states : Int32) (whyKind : Int32) (whyOrder : Int32) (many : Int32) (wide : Int32) (textLong : Int32) (spot : Int32) (readColumns : Int32) (all : Nat → Int32) (past : Nat → Int32) (refused : Nat → Int32) (work : Nat → Int32) (kept : Nat → Int32) (chosen : Nat → Int32) (across : Nat → Int32) (sum : Nat → Int32) (one : Nat → Int32) (two : Nat → Int32) (base : Nat → Int32) (quotients : Nat → Int32) (text : Nat → Int32) (numbers : Nat → Int32) (entries : Nat → Int32) (before : Nat → Int32) (a0 : Int32) (res : Int32 × (Nat → Int32)) (hf : fX8_primeNow all a0 = some res) : Met l yX8_primeNow wsX8_primeNow rm_X8_primeNow (qP D cI cB cR [.ref (ad 0), .int a0] (wM cI ad states whyKind whyOrder many wide textLong spot readColumns all past refused work kept chosen across sum one two base quotients text numbers entries before) sz) (qI D res.1 (wM cI ad states whyKind whyOrder many wide textLong spot readColumns all past refused work kept chosen across sum one two base quotients text numbers entries before) (wM cI ad states whyKind whyOrder many wide textLong spot readColumns res.2 past refused work kept chosen across sum one two base quotients text numbers entries before) sz) 0 0 (va_A (wM cI ad states whyKind whyOrder many wide textLong spot readColumns all past refused work kept chosen across sum one two base quotients text numbers entries before) sz) := by
  refine entI (plainFor_of_name (by decide)) rfl (Nat.le_of_ble_eq_true rfl) ?_
  intro p e s m args below meth c Q A ls S hG hP hD hA hl hE
  obtain ⟨hx, hb, hml, hown, hts⟩ := S
  have hown : s.vm.findClass RX8 = some m.cls := hown
  have hS : va_S A s.heap s.heap [] := va_S.rf
  have hl : lv_has ls 3 [(0, .ref (ad 0)), (1, .int a0)] := hl
  have hq := hf
  unfold fX8_primeNow at hq
  obtain ⟨H, hH⟩ : ∃ H, H = s.heap := ⟨_, rfl⟩
  obtain ⟨locs, hlo⟩ : ∃ L : List Loc, L = [] := ⟨_, rfl⟩
  have hP : va_P D cls9 (wM cI ad states whyKind whyOrder many wide textLong spot readColumns all past refused work kept chosen across sum one two base quotients text numbers entries before) H := hH ▸ hP
  have hS : va_S A s.heap H locs := by rw [hH, hlo]; exact hS
  suffices hg : W p l e rm_X8_primeNow s m args below meth c H locs 0 0 Q (F0 m 0 ls []) by rw [hH, hlo] at hg; exact hg
  refine lv_aload_n hx hb dX8_primeNow_0 rfl (lv_at hl 0 rfl) ?_
  obtain ⟨v_3, hq_2, hk⟩ := bd1_s hq
  obtain ⟨r_1, rfl⟩ : ∃ y, y = v_3 := ⟨_, rfl⟩
  have hq := hk _ rfl
  refine callIA (gV (rest := []) ⟨hx, hb, hml, hown, hts⟩ hG hP hD 0 8 rfl rfl (mtX8_modulus l D cI cB cR ad H.size states whyKind whyOrder many wide textLong spot readColumns all past refused work kept chosen across sum one two base quotients text numbers entries before r_1 hq_2) (cwV 0 hts gX8_primeNow_X8_modulus rfl rfl rfl ⟨rfl, hd_X8_modulus⟩ ⟨Nat.le_of_ble_eq_true rfl, Nat.le_of_ble_eq_true rfl⟩) rfl hl.1 rfl (Nat.le_of_ble_eq_true rfl) dX8_primeNow_1) hD hS hA (fun H locs hP hD hS => ?_)
  have hP : va_P D cls9 (wM cI ad states whyKind whyOrder many wide textLong spot readColumns all past refused work kept chosen across sum one two base quotients text numbers entries before) H := hP
  have hD : va_D A (wM cI ad states whyKind whyOrder many wide textLong spot readColumns all past refused work kept chosen across sum one two base quotients text numbers entries before) := hD
  refine lv_istore_n (lv' := [(2, .int r_1), (0, .ref (ad 0)), (1, .int a0)]) hx hb dX8_primeNow_4 rfl hl (by decide) rfl (fun ls hl => ?_)
  refine lv_aload_n hx hb dX8_primeNow_5 rfl (lv_at hl 1 rfl) ?_
  refine va_get (D := D) (ci := 8) (v := .ref (ad 1)) (C := RX8) (T := TX8) (N := 24) hx hb hts iX8_primeNow_X8 hown hG.1 hP 0 rfl rfl 0 (by decide) (hts _ fX8_primeNow_1) (fun _ h9 => h9) rfl dX8_primeNow_6 ?_
  refine lv_iconst (v := 0) hx hb dX8_primeNow_9 (by decide) ?_
  refine lv_iload_n hx hb dX8_primeNow_10 rfl (lv_at hl 2 rfl) ?_
  obtain ⟨h_4, hq⟩ := gd_s hq
  refine va_iast hx hb hG.1 hP hD hS 1 0 rfl rfl h_4 dX8_primeNow_11 (fun H locs hP hD hS => ?_)
  have hP : va_P D cls9 (wM cI ad states whyKind whyOrder many wide textLong spot readColumns (upd all (0 : Int32).toNatClampNeg a0) past refused work kept chosen across sum one two base quotients text numbers entries before) H := hP
  have hD : va_D A (wM cI ad states whyKind whyOrder many wide textLong spot readColumns (upd all (0 : Int32).toNatClampNeg a0) past refused work kept chosen across sum one two base quotients text numbers entries before) := hD
  refine lv_aload_n hx hb dX8_primeNow_12 rfl (lv_at hl 1 rfl) ?_
  obtain ⟨v_7, hq_6, hk⟩ := bd1_s hq
  obtain ⟨u_5, rfl⟩ : ∃ y, y = v_7 := ⟨_, rfl⟩
  have hq := hk _ rfl
  refine callVA (gV (rest := []) ⟨hx, hb, hml, hown, hts⟩ hG hP hD 0 8 rfl rfl (mtX8_clears l D cI cB cR ad H.size states whyKind whyOrder many wide textLong spot readColumns (upd all (0 : Int32).toNatClampNeg a0) past refused work kept chosen across sum one two base quotients text numbers entries before u_5 hq_6) (cwV 0 hts gX8_primeNow_X8_clears rfl rfl rfl ⟨rfl, hd_X8_clears⟩ ⟨Nat.le_of_ble_eq_true rfl, Nat.le_of_ble_eq_true rfl⟩) rfl hl.1 rfl (Nat.le_of_ble_eq_true rfl) dX8_primeNow_13) hD hS hA (fun H locs hP hD hS => ?_)
  have hP : va_P D cls9 (wM cI ad states whyKind whyOrder many wide textLong spot readColumns u_5 past refused work kept chosen across sum one two base quotients text numbers entries before) H := hP
  have hD : va_D A (wM cI ad states whyKind whyOrder many wide textLong spot readColumns u_5 past refused work kept chosen across sum one two base quotients text numbers entries before) := hD
  refine lv_iload_n hx hb dX8_primeNow_16 rfl (lv_at hl 0 rfl) ?_
  have he := Option.some.inj hq
  subst he
  exact hE H locs _ _ _ rfl dX8_primeNow_17 hP hD hS
abbrev rm_X8_prime : Room := { frames := 2, cells := 0, slots := 0, locals := 43 }
set_option maxHeartbeats 4000000 in
set_option maxRecDepth 100000 in
theorem mtX8_prime (l : Launch) (D : va_G) (cI cB cR : ClassId) (ad : Nat → Nat) (sz : Nat) (states : Int32) (whyKind : Int32) (whyOrder : Int32) (many : Int32) (wide : Int32) (textLong : Int32) (spot : Int32) (readColumns : Int32) (all : Nat → Int32) (past : Nat → Int32) (refused : Nat → Int32) (work : Nat → Int32) (kept : Nat → Int32) (chosen : Nat → Int32) (across : Nat → Int32) (sum : Nat → Int32) (one : Nat → Int32) (two : Nat → Int32) (base : Nat → Int32) (quotients : Nat → Int32) (text : Nat → Int32) (numbers : Nat → Int32) (entries : Nat → Int32) (before : Nat → Int32) (a0 : Int32) (res : Int32 × Int32 × (Nat → Int32) × (Nat → Int32) × (Nat → Int32)) (hf : fX8_prime states all past refused a0 = some res) : Met l yX8_prime wsX8_prime rm_X8_prime (qP D cI cB cR [.ref (ad 0), .int a0] (wM cI ad states whyKind whyOrder many wide textLong spot readColumns all past refused work kept chosen across sum one two base quotients text numbers entries before) sz) (qI D res.1 (wM cI ad states whyKind whyOrder many wide textLong spot readColumns all past refused work kept chosen across sum one two base quotients text numbers entries before) (wM cI ad res.2.1 whyKind whyOrder many wide textLong spot readColumns res.2.2.1 res.2.2.2.1 res.2.2.2.2 work kept chosen across sum one two base quotients text numbers entries before) sz) 0 0 (va_A (wM cI ad states whyKind whyOrder many wide textLong spot readColumns all past refused work kept chosen across sum one two base quotients text numbers entries before) sz) := by
  refine entI (plainFor_of_name (by decide)) rfl (Nat.le_of_ble_eq_true rfl) ?_
  intro p e s m args below meth c Q A ls S hG hP hD hA hl hE
  obtain ⟨hx, hb, hml, hown, hts⟩ := S
  have hown : s.vm.findClass RX8 = some m.cls := hown
  have hS : va_S A s.heap s.heap [] := va_S.rf
  have hl : lv_has ls 2 [(0, .ref (ad 0)), (1, .int a0)] := hl
  have hq := hf
  unfold fX8_prime at hq
  obtain ⟨H, hH⟩ : ∃ H, H = s.heap := ⟨_, rfl⟩
  obtain ⟨locs, hlo⟩ : ∃ L : List Loc, L = [] := ⟨_, rfl⟩
  have hP : va_P D cls9 (wM cI ad states whyKind whyOrder many wide textLong spot readColumns all past refused work kept chosen across sum one two base quotients text numbers entries before) H := hH ▸ hP
  have hS : va_S A s.heap H locs := by rw [hH, hlo]; exact hS
  suffices hg : W p l e rm_X8_prime s m args below meth c H locs 0 0 Q (F0 m 0 ls []) by rw [hH, hlo] at hg; exact hg
  refine lv_iload_n hx hb dX8_prime_0 rfl (lv_at hl 1 rfl) ?_
  obtain ⟨v_3, hq_2, hk⟩ := bd1_s hq
  obtain ⟨r_1, rfl⟩ : ∃ y, y = v_3 := ⟨_, rfl⟩
  have hq := hk _ rfl
  refine callZ0 (gS (rest := []) ⟨hx, hb, hml, hown, hts⟩ hG vaP0 (vaD0 (A := A)) (mtX8_isPrime l D cI cB cR H.size a0 r_1 hq_2) (va_cwS 1 hts gX8_prime_X8_isPrime rfl rfl rfl hd_X8_isPrime ⟨Nat.le_of_ble_eq_true rfl, Nat.le_of_ble_eq_true rfl⟩) rfl hl.1 rfl (Nat.le_of_ble_eq_true rfl) dX8_prime_1) hP hS hA (fun H locs z_4 hP hS => ?_)
  refine lv_if_ne (tgt := 14) hx hb dX8_prime_4 (by decide) (fun c_5 => ?_) (fun c_5 => ?_)
  · have hq := it_f c_5 hq
    refine lv_aload_n hx hb dX8_prime_14 rfl (lv_at hl 0 rfl) ?_
    obtain ⟨v_9, hq_8, hk⟩ := bd2_s hq
    obtain ⟨u_6, u_7⟩ := v_9
    have hq := hk _ _ rfl
    refine callVA (gV (rest := []) ⟨hx, hb, hml, hown, hts⟩ hG hP hD 0 8 rfl rfl (mtX8_keep l D cI cB cR ad H.size states whyKind whyOrder many wide textLong spot readColumns all past refused work kept chosen across sum one two base quotients text numbers entries before (u_6, u_7) hq_8) (cwV 0 hts gX8_prime_X8_keep rfl rfl rfl ⟨rfl, hd_X8_keep⟩ ⟨Nat.le_of_ble_eq_true rfl, Nat.le_of_ble_eq_true rfl⟩) rfl hl.1 rfl (Nat.le_of_ble_eq_true rfl) dX8_prime_15) hD hS hA (fun H locs hP hD hS => ?_)
    have hP : va_P D cls9 (wM cI ad u_6 whyKind whyOrder many wide textLong spot readColumns all u_7 refused work kept chosen across sum one two base quotients text numbers entries before) H := hP
    have hD : va_D A (wM cI ad u_6 whyKind whyOrder many wide textLong spot readColumns all u_7 refused work kept chosen across sum one two base quotients text numbers entries before) := hD
    refine lv_aload_n hx hb dX8_prime_18 rfl (lv_at hl 0 rfl) ?_
    refine lv_iload_n hx hb dX8_prime_19 rfl (lv_at hl 1 rfl) ?_
    obtain ⟨v_13, hq_12, hk⟩ := bd2_s hq
    obtain ⟨r_10, u_11⟩ := v_13
    have hq := hk _ _ rfl
    refine callIA (gV (rest := []) ⟨hx, hb, hml, hown, hts⟩ hG hP hD 0 8 rfl rfl (mtX8_primeNow l D cI cB cR ad H.size u_6 whyKind whyOrder many wide textLong spot readColumns all u_7 refused work kept chosen across sum one two base quotients text numbers entries before a0 (r_10, u_11) hq_12) (cwV 1 hts gX8_prime_X8_primeNow rfl rfl rfl ⟨rfl, hd_X8_primeNow⟩ ⟨Nat.le_of_ble_eq_true rfl, Nat.le_of_ble_eq_true rfl⟩) rfl hl.1 rfl (Nat.le_of_ble_eq_true rfl) dX8_prime_20) hD hS hA (fun H locs hP hD hS => ?_)
    have hP : va_P D cls9 (wM cI ad u_6 whyKind whyOrder many wide textLong spot readColumns u_11 u_7 refused work kept chosen across sum one two base quotients text numbers entries before) H := hP
    have hD : va_D A (wM cI ad u_6 whyKind whyOrder many wide textLong spot readColumns u_11 u_7 refused work kept chosen across sum one two base quotients text numbers entries before) := hD
    have he := Option.some.inj hq
    subst he
    exact hE H locs _ _ _ rfl dX8_prime_23 hP hD hS
  · have hq := it_t c_5 hq
    refine lv_aload_n hx hb dX8_prime_7 rfl (lv_at hl 0 rfl) ?_
    refine lv_bipush (v := -2) hx hb dX8_prime_8 (by decide) ?_
    obtain ⟨v_17, hq_16, hk⟩ := bd2_s hq
    obtain ⟨r_14, u_15⟩ := v_17
    have hq := hk _ _ rfl
    refine callIA (gV (rest := []) ⟨hx, hb, hml, hown, hts⟩ hG hP hD 0 8 rfl rfl (mtX8_refuses l D cI cB cR ad H.size states whyKind whyOrder many wide textLong spot readColumns all past refused work kept chosen across sum one two base quotients text numbers entries before (-2 : Int32) (r_14, u_15) hq_16) (cwV 1 hts gX8_prime_X8_refuses rfl rfl rfl ⟨rfl, hd_X8_refuses⟩ ⟨Nat.le_of_ble_eq_true rfl, Nat.le_of_ble_eq_true rfl⟩) rfl hl.1 rfl (Nat.le_of_ble_eq_true rfl) dX8_prime_10) hD hS hA (fun H locs hP hD hS => ?_)
    have hP : va_P D cls9 (wM cI ad states whyKind whyOrder many wide textLong spot readColumns all past u_15 work kept chosen across sum one two base quotients text numbers entries before) H := hP
    have hD : va_D A (wM cI ad states whyKind whyOrder many wide textLong spot readColumns all past u_15 work kept chosen across sum one two base quotients text numbers entries before) := hD
    have he := Option.some.inj hq
    subst he
    exact hE H locs _ _ _ rfl dX8_prime_13 hP hD hS
abbrev rm_X8_columnsNow : Room := { frames := 1, cells := 0, slots := 0, locals := 21 }
theorem iX8_columnsNow_X8 : ∀ w ∈ wsX80, w ∈ wsX8_columnsNow := fun _ h => (List.mem_cons_of_mem _ (List.mem_append_right _ h))
theorem fX8_columnsNow_1 : Cond.fieldLink RX8 7 "PopovRowsModel" "all" "[I" ∈ wsX8_columnsNow := (List.mem_cons_of_mem _ (List.mem_append_left _ (List.mem_of_getElem? (i := 0) rfl)))
set_option maxHeartbeats 4000000 in
set_option maxRecDepth 100000 in
theorem mtX8_columnsNow (l : Launch) (D : va_G) (cI cB cR : ClassId) (ad : Nat → Nat) (sz : Nat) (states : Int32) (whyKind : Int32) (whyOrder : Int32) (many : Int32) (wide : Int32) (textLong : Int32) (spot : Int32) (readColumns : Int32) (all : Nat → Int32) (past : Nat → Int32) (refused : Nat → Int32) (work : Nat → Int32) (kept : Nat → Int32) (chosen : Nat → Int32) (across : Nat → Int32) (sum : Nat → Int32) (one : Nat → Int32) (two : Nat → Int32) (base : Nat → Int32) (quotients : Nat → Int32) (text : Nat → Int32) (numbers : Nat → Int32) (entries : Nat → Int32) (before : Nat → Int32) (a0 : Int32) (res : Int32 × (Nat → Int32)) (hf : fX8_columnsNow all a0 = some res) : Met l yX8_columnsNow wsX8_columnsNow rm_X8_columnsNow (qP D cI cB cR [.ref (ad 0), .int a0] (wM cI ad states whyKind whyOrder many wide textLong spot readColumns all past refused work kept chosen across sum one two base quotients text numbers entries before) sz) (qI D res.1 (wM cI ad states whyKind whyOrder many wide textLong spot readColumns all past refused work kept chosen across sum one two base quotients text numbers entries before) (wM cI ad states whyKind whyOrder many wide textLong spot readColumns res.2 past refused work kept chosen across sum one two base quotients text numbers entries before) sz) 0 0 (va_A (wM cI ad states whyKind whyOrder many wide textLong spot readColumns all past refused work kept chosen across sum one two base quotients text numbers entries before) sz) := by
  refine entI (plainFor_of_name (by decide)) rfl (Nat.le_of_ble_eq_true rfl) ?_
  intro p e s m args below meth c Q A ls S hG hP hD hA hl hE
  obtain ⟨hx, hb, hml, hown, hts⟩ := S
  have hown : s.vm.findClass RX8 = some m.cls := hown
  have hS : va_S A s.heap s.heap [] := va_S.rf
  have hl : lv_has ls 3 [(0, .ref (ad 0)), (1, .int a0)] := hl
  have hq := hf
  unfold fX8_columnsNow at hq
  obtain ⟨H, hH⟩ : ∃ H, H = s.heap := ⟨_, rfl⟩
  obtain ⟨locs, hlo⟩ : ∃ L : List Loc, L = [] := ⟨_, rfl⟩
  have hP : va_P D cls9 (wM cI ad states whyKind whyOrder many wide textLong spot readColumns all past refused work kept chosen across sum one two base quotients text numbers entries before) H := hH ▸ hP
  have hS : va_S A s.heap H locs := by rw [hH, hlo]; exact hS
  suffices hg : W p l e rm_X8_columnsNow s m args below meth c H locs 0 0 Q (F0 m 0 ls []) by rw [hH, hlo] at hg; exact hg
  refine lv_aload_n hx hb dX8_columnsNow_0 rfl (lv_at hl 0 rfl) ?_
  obtain ⟨v_3, hq_2, hk⟩ := bd1_s hq
  obtain ⟨r_1, rfl⟩ : ∃ y, y = v_3 := ⟨_, rfl⟩
  have hq := hk _ rfl
  refine callIA (gV (rest := []) ⟨hx, hb, hml, hown, hts⟩ hG hP hD 0 8 rfl rfl (mtX8_width l D cI cB cR ad H.size states whyKind whyOrder many wide textLong spot readColumns all past refused work kept chosen across sum one two base quotients text numbers entries before r_1 hq_2) (cwV 0 hts gX8_columnsNow_X8_width rfl rfl rfl ⟨rfl, hd_X8_width⟩ ⟨Nat.le_of_ble_eq_true rfl, Nat.le_of_ble_eq_true rfl⟩) rfl hl.1 rfl (Nat.le_of_ble_eq_true rfl) dX8_columnsNow_1) hD hS hA (fun H locs hP hD hS => ?_)
  have hP : va_P D cls9 (wM cI ad states whyKind whyOrder many wide textLong spot readColumns all past refused work kept chosen across sum one two base quotients text numbers entries before) H := hP
  have hD : va_D A (wM cI ad states whyKind whyOrder many wide textLong spot readColumns all past refused work kept chosen across sum one two base quotients text numbers entries before) := hD
  refine lv_istore_n (lv' := [(2, .int r_1), (0, .ref (ad 0)), (1, .int a0)]) hx hb dX8_columnsNow_4 rfl hl (by decide) rfl (fun ls hl => ?_)
  refine lv_aload_n hx hb dX8_columnsNow_5 rfl (lv_at hl 1 rfl) ?_
  refine va_get (D := D) (ci := 8) (v := .ref (ad 1)) (C := RX8) (T := TX8) (N := 24) hx hb hts iX8_columnsNow_X8 hown hG.1 hP 0 rfl rfl 0 (by decide) (hts _ fX8_columnsNow_1) (fun _ h9 => h9) rfl dX8_columnsNow_6 ?_
  refine lv_iconst (v := 1) hx hb dX8_columnsNow_9 (by decide) ?_
  refine lv_iload_n hx hb dX8_columnsNow_10 rfl (lv_at hl 2 rfl) ?_
  obtain ⟨h_4, hq⟩ := gd_s hq
  refine va_iast hx hb hG.1 hP hD hS 1 0 rfl rfl h_4 dX8_columnsNow_11 (fun H locs hP hD hS => ?_)
  have hP : va_P D cls9 (wM cI ad states whyKind whyOrder many wide textLong spot readColumns (upd all (1 : Int32).toNatClampNeg a0) past refused work kept chosen across sum one two base quotients text numbers entries before) H := hP
  have hD : va_D A (wM cI ad states whyKind whyOrder many wide textLong spot readColumns (upd all (1 : Int32).toNatClampNeg a0) past refused work kept chosen across sum one two base quotients text numbers entries before) := hD
  refine lv_aload_n hx hb dX8_columnsNow_12 rfl (lv_at hl 1 rfl) ?_
  obtain ⟨v_7, hq_6, hk⟩ := bd1_s hq
  obtain ⟨u_5, rfl⟩ : ∃ y, y = v_7 := ⟨_, rfl⟩
  have hq := hk _ rfl
  refine callVA (gV (rest := []) ⟨hx, hb, hml, hown, hts⟩ hG hP hD 0 8 rfl rfl (mtX8_clears l D cI cB cR ad H.size states whyKind whyOrder many wide textLong spot readColumns (upd all (1 : Int32).toNatClampNeg a0) past refused work kept chosen across sum one two base quotients text numbers entries before u_5 hq_6) (cwV 0 hts gX8_columnsNow_X8_clears rfl rfl rfl ⟨rfl, hd_X8_clears⟩ ⟨Nat.le_of_ble_eq_true rfl, Nat.le_of_ble_eq_true rfl⟩) rfl hl.1 rfl (Nat.le_of_ble_eq_true rfl) dX8_columnsNow_13) hD hS hA (fun H locs hP hD hS => ?_)
  have hP : va_P D cls9 (wM cI ad states whyKind whyOrder many wide textLong spot readColumns u_5 past refused work kept chosen across sum one two base quotients text numbers entries before) H := hP
  have hD : va_D A (wM cI ad states whyKind whyOrder many wide textLong spot readColumns u_5 past refused work kept chosen across sum one two base quotients text numbers entries before) := hD
  refine lv_iload_n hx hb dX8_columnsNow_16 rfl (lv_at hl 0 rfl) ?_
  have he := Option.some.inj hq
  subst he
  exact hE H locs _ _ _ rfl dX8_columnsNow_17 hP hD hS
abbrev rm_X8_columns : Room := { frames := 2, cells := 0, slots := 0, locals := 43 }
theorem fX8_columns_0 : Cond.constantLong RX8 110 (3) ∈ wsX8_columns := (List.mem_cons_of_mem _ (List.mem_append_left _ (List.mem_append_left _ (List.mem_of_getElem? (i := 0) rfl))))
set_option maxHeartbeats 4000000 in
set_option maxRecDepth 100000 in
theorem mtX8_columns (l : Launch) (D : va_G) (cI cB cR : ClassId) (ad : Nat → Nat) (sz : Nat) (states : Int32) (whyKind : Int32) (whyOrder : Int32) (many : Int32) (wide : Int32) (textLong : Int32) (spot : Int32) (readColumns : Int32) (all : Nat → Int32) (past : Nat → Int32) (refused : Nat → Int32) (work : Nat → Int32) (kept : Nat → Int32) (chosen : Nat → Int32) (across : Nat → Int32) (sum : Nat → Int32) (one : Nat → Int32) (two : Nat → Int32) (base : Nat → Int32) (quotients : Nat → Int32) (text : Nat → Int32) (numbers : Nat → Int32) (entries : Nat → Int32) (before : Nat → Int32) (a0 : Int32) (res : Int32 × Int32 × (Nat → Int32) × (Nat → Int32) × (Nat → Int32)) (hf : fX8_columns states all past refused a0 = some res) : Met l yX8_columns wsX8_columns rm_X8_columns (qP D cI cB cR [.ref (ad 0), .int a0] (wM cI ad states whyKind whyOrder many wide textLong spot readColumns all past refused work kept chosen across sum one two base quotients text numbers entries before) sz) (qI D res.1 (wM cI ad states whyKind whyOrder many wide textLong spot readColumns all past refused work kept chosen across sum one two base quotients text numbers entries before) (wM cI ad res.2.1 whyKind whyOrder many wide textLong spot readColumns res.2.2.1 res.2.2.2.1 res.2.2.2.2 work kept chosen across sum one two base quotients text numbers entries before) sz) 0 0 (va_A (wM cI ad states whyKind whyOrder many wide textLong spot readColumns all past refused work kept chosen across sum one two base quotients text numbers entries before) sz) := by
  refine entI (plainFor_of_name (by decide)) rfl (Nat.le_of_ble_eq_true rfl) ?_
  intro p e s m args below meth c Q A ls S hG hP hD hA hl hE
  obtain ⟨hx, hb, hml, hown, hts⟩ := S
  have hown : s.vm.findClass RX8 = some m.cls := hown
  have hS : va_S A s.heap s.heap [] := va_S.rf
  have hl : lv_has ls 2 [(0, .ref (ad 0)), (1, .int a0)] := hl
  have hq := hf
  unfold fX8_columns at hq
  obtain ⟨H, hH⟩ : ∃ H, H = s.heap := ⟨_, rfl⟩
  obtain ⟨locs, hlo⟩ : ∃ L : List Loc, L = [] := ⟨_, rfl⟩
  have hP : va_P D cls9 (wM cI ad states whyKind whyOrder many wide textLong spot readColumns all past refused work kept chosen across sum one two base quotients text numbers entries before) H := hH ▸ hP
  have hS : va_S A s.heap H locs := by rw [hH, hlo]; exact hS
  suffices hg : W p l e rm_X8_columns s m args below meth c H locs 0 0 Q (F0 m 0 ls []) by rw [hH, hlo] at hg; exact hg
  refine lv_iload_n hx hb dX8_columns_0 rfl (lv_at hl 1 rfl) ?_
  refine lv_i2l (v := (a0.toInt64)) hx hb dX8_columns_1 rfl ?_
  refine lv_lconst (v := 1) hx hb dX8_columns_2 (by decide) ?_
  refine lv_ldc2 (v := 3) hx hb hown (hts _ fX8_columns_0) dX8_columns_3 ?_
  refine callZ0 (gS (rest := []) ⟨hx, hb, hml, hown, hts⟩ hG vaP0 (vaD0 (A := A)) (mtX8_in l D cI cB cR H.size (a0.toInt64) (1 : Int64) (3 : Int64) _ rfl) (va_cwS 3 hts gX8_columns_X8_in rfl rfl rfl hd_X8_in ⟨Nat.le_of_ble_eq_true rfl, Nat.le_of_ble_eq_true rfl⟩) rfl hl.1 rfl (Nat.le_of_ble_eq_true rfl) dX8_columns_6) hP hS hA (fun H locs z_1 hP hS => ?_)
  refine lv_if_ne (tgt := 19) hx hb dX8_columns_9 (by decide) (fun c_2 => ?_) (fun c_2 => ?_)
  · have hq := it_f c_2 hq
    refine lv_aload_n hx hb dX8_columns_19 rfl (lv_at hl 0 rfl) ?_
    obtain ⟨v_6, hq_5, hk⟩ := bd2_s hq
    obtain ⟨u_3, u_4⟩ := v_6
    have hq := hk _ _ rfl
    refine callVA (gV (rest := []) ⟨hx, hb, hml, hown, hts⟩ hG hP hD 0 8 rfl rfl (mtX8_keep l D cI cB cR ad H.size states whyKind whyOrder many wide textLong spot readColumns all past refused work kept chosen across sum one two base quotients text numbers entries before (u_3, u_4) hq_5) (cwV 0 hts gX8_columns_X8_keep rfl rfl rfl ⟨rfl, hd_X8_keep⟩ ⟨Nat.le_of_ble_eq_true rfl, Nat.le_of_ble_eq_true rfl⟩) rfl hl.1 rfl (Nat.le_of_ble_eq_true rfl) dX8_columns_20) hD hS hA (fun H locs hP hD hS => ?_)
    have hP : va_P D cls9 (wM cI ad u_3 whyKind whyOrder many wide textLong spot readColumns all u_4 refused work kept chosen across sum one two base quotients text numbers entries before) H := hP
    have hD : va_D A (wM cI ad u_3 whyKind whyOrder many wide textLong spot readColumns all u_4 refused work kept chosen across sum one two base quotients text numbers entries before) := hD
    refine lv_aload_n hx hb dX8_columns_23 rfl (lv_at hl 0 rfl) ?_
    refine lv_iload_n hx hb dX8_columns_24 rfl (lv_at hl 1 rfl) ?_
    obtain ⟨v_10, hq_9, hk⟩ := bd2_s hq
    obtain ⟨r_7, u_8⟩ := v_10
    have hq := hk _ _ rfl
    refine callIA (gV (rest := []) ⟨hx, hb, hml, hown, hts⟩ hG hP hD 0 8 rfl rfl (mtX8_columnsNow l D cI cB cR ad H.size u_3 whyKind whyOrder many wide textLong spot readColumns all u_4 refused work kept chosen across sum one two base quotients text numbers entries before a0 (r_7, u_8) hq_9) (cwV 1 hts gX8_columns_X8_columnsNow rfl rfl rfl ⟨rfl, hd_X8_columnsNow⟩ ⟨Nat.le_of_ble_eq_true rfl, Nat.le_of_ble_eq_true rfl⟩) rfl hl.1 rfl (Nat.le_of_ble_eq_true rfl) dX8_columns_25) hD hS hA (fun H locs hP hD hS => ?_)
    have hP : va_P D cls9 (wM cI ad u_3 whyKind whyOrder many wide textLong spot readColumns u_8 u_4 refused work kept chosen across sum one two base quotients text numbers entries before) H := hP
    have hD : va_D A (wM cI ad u_3 whyKind whyOrder many wide textLong spot readColumns u_8 u_4 refused work kept chosen across sum one two base quotients text numbers entries before) := hD
    have he := Option.some.inj hq
    subst he
    exact hE H locs _ _ _ rfl dX8_columns_28 hP hD hS
  · have hq := it_t c_2 hq
    refine lv_aload_n hx hb dX8_columns_12 rfl (lv_at hl 0 rfl) ?_
    refine lv_bipush (v := -2) hx hb dX8_columns_13 (by decide) ?_
    obtain ⟨v_14, hq_13, hk⟩ := bd2_s hq
    obtain ⟨r_11, u_12⟩ := v_14
    have hq := hk _ _ rfl
    refine callIA (gV (rest := []) ⟨hx, hb, hml, hown, hts⟩ hG hP hD 0 8 rfl rfl (mtX8_refuses l D cI cB cR ad H.size states whyKind whyOrder many wide textLong spot readColumns all past refused work kept chosen across sum one two base quotients text numbers entries before (-2 : Int32) (r_11, u_12) hq_13) (cwV 1 hts gX8_columns_X8_refuses rfl rfl rfl ⟨rfl, hd_X8_refuses⟩ ⟨Nat.le_of_ble_eq_true rfl, Nat.le_of_ble_eq_true rfl⟩) rfl hl.1 rfl (Nat.le_of_ble_eq_true rfl) dX8_columns_15) hD hS hA (fun H locs hP hD hS => ?_)
    have hP : va_P D cls9 (wM cI ad states whyKind whyOrder many wide textLong spot readColumns all past u_12 work kept chosen across sum one two base quotients text numbers entries before) H := hP
    have hD : va_D A (wM cI ad states whyKind whyOrder many wide textLong spot readColumns all past u_12 work kept chosen across sum one two base quotients text numbers entries before) := hD
    have he := Option.some.inj hq
    subst he
    exact hE H locs _ _ _ rfl dX8_columns_18 hP hD hS
abbrev rm_X8_rowNow : Room := { frames := 1, cells := 0, slots := 0, locals := 22 }
theorem iX8_rowNow_X8 : ∀ w ∈ wsX80, w ∈ wsX8_rowNow := fun _ h => (List.mem_cons_of_mem _ (List.mem_append_right _ h))
theorem fX8_rowNow_1 : Cond.fieldLink RX8 7 "PopovRowsModel" "all" "[I" ∈ wsX8_rowNow := (List.mem_cons_of_mem _ (List.mem_append_left _ (List.mem_of_getElem? (i := 0) rfl)))
set_option maxHeartbeats 4000000 in
set_option maxRecDepth 100000 in
theorem mtX8_rowNow (l : Launch) (D : va_G) (cI cB cR : ClassId) (ad : Nat → Nat) (sz : Nat) (states : Int32) (whyKind : Int32) (whyOrder : Int32) (many : Int32) (wide : Int32) (textLong : Int32) (spot : Int32) (readColumns : Int32) (all : Nat → Int32) (past : Nat → Int32) (refused : Nat → Int32) (work : Nat → Int32) (kept : Nat → Int32) (chosen : Nat → Int32) (across : Nat → Int32) (sum : Nat → Int32) (one : Nat → Int32) (two : Nat → Int32) (base : Nat → Int32) (quotients : Nat → Int32) (text : Nat → Int32) (numbers : Nat → Int32) (entries : Nat → Int32) (before : Nat → Int32) (res : Int32 × (Nat → Int32)) (hf : fX8_rowNow all = some res) : Met l yX8_rowNow wsX8_rowNow rm_X8_rowNow (qP D cI cB cR [.ref (ad 0)] (wM cI ad states whyKind whyOrder many wide textLong spot readColumns all past refused work kept chosen across sum one two base quotients text numbers entries before) sz) (qI D res.1 (wM cI ad states whyKind whyOrder many wide textLong spot readColumns all past refused work kept chosen across sum one two base quotients text numbers entries before) (wM cI ad states whyKind whyOrder many wide textLong spot readColumns res.2 past refused work kept chosen across sum one two base quotients text numbers entries before) sz) 0 0 (va_A (wM cI ad states whyKind whyOrder many wide textLong spot readColumns all past refused work kept chosen across sum one two base quotients text numbers entries before) sz) := by
  refine entI (plainFor_of_name (by decide)) rfl (Nat.le_of_ble_eq_true rfl) ?_
  intro p e s m args below meth c Q A ls S hG hP hD hA hl hE
  obtain ⟨hx, hb, hml, hown, hts⟩ := S
  have hown : s.vm.findClass RX8 = some m.cls := hown
  have hS : va_S A s.heap s.heap [] := va_S.rf
  have hl : lv_has ls 3 [(0, .ref (ad 0))] := hl
  have hq := hf
  unfold fX8_rowNow at hq
  obtain ⟨H, hH⟩ : ∃ H, H = s.heap := ⟨_, rfl⟩
  obtain ⟨locs, hlo⟩ : ∃ L : List Loc, L = [] := ⟨_, rfl⟩
  have hP : va_P D cls9 (wM cI ad states whyKind whyOrder many wide textLong spot readColumns all past refused work kept chosen across sum one two base quotients text numbers entries before) H := hH ▸ hP
  have hS : va_S A s.heap H locs := by rw [hH, hlo]; exact hS
  suffices hg : W p l e rm_X8_rowNow s m args below meth c H locs 0 0 Q (F0 m 0 ls []) by rw [hH, hlo] at hg; exact hg
  refine lv_aload_n hx hb dX8_rowNow_0 rfl (lv_at hl 0 rfl) ?_
  obtain ⟨v_3, hq_2, hk⟩ := bd1_s hq
  obtain ⟨r_1, rfl⟩ : ∃ y, y = v_3 := ⟨_, rfl⟩
  have hq := hk _ rfl
  refine callIA (gV (rest := []) ⟨hx, hb, hml, hown, hts⟩ hG hP hD 0 8 rfl rfl (mtX8_rows l D cI cB cR ad H.size states whyKind whyOrder many wide textLong spot readColumns all past refused work kept chosen across sum one two base quotients text numbers entries before r_1 hq_2) (cwV 0 hts gX8_rowNow_X8_rows rfl rfl rfl ⟨rfl, hd_X8_rows⟩ ⟨Nat.le_of_ble_eq_true rfl, Nat.le_of_ble_eq_true rfl⟩) rfl hl.1 rfl (Nat.le_of_ble_eq_true rfl) dX8_rowNow_1) hD hS hA (fun H locs hP hD hS => ?_)
  have hP : va_P D cls9 (wM cI ad states whyKind whyOrder many wide textLong spot readColumns all past refused work kept chosen across sum one two base quotients text numbers entries before) H := hP
  have hD : va_D A (wM cI ad states whyKind whyOrder many wide textLong spot readColumns all past refused work kept chosen across sum one two base quotients text numbers entries before) := hD
  refine lv_istore_n (lv' := [(1, .int r_1), (0, .ref (ad 0))]) hx hb dX8_rowNow_4 rfl hl (by decide) rfl (fun ls hl => ?_)
  refine lv_iconst (v := 0) hx hb dX8_rowNow_5 (by decide) ?_
  refine lv_istore_n (lv' := [(2, .int (0 : Int32)), (1, .int r_1), (0, .ref (ad 0))]) hx hb dX8_rowNow_6 rfl hl (by decide) rfl (fun ls hl => ?_)
  obtain ⟨w1, hw1, hk1⟩ := bd1_s hq
  have hX1 : ∀ (x_8 : Nat → Int32), w1 = x_8 → ∀ (H : Heap) (locs : List Loc), va_P D cls9 (wM cI ad states whyKind whyOrder many wide textLong spot readColumns x_8 past refused work kept chosen across sum one two base quotients text numbers entries before) H → va_D A (wM cI ad states whyKind whyOrder many wide textLong spot readColumns x_8 past refused work kept chosen across sum one two base quotients text numbers entries before) → va_S A s.heap H locs → ∀ (ls : Array Slot), lv_has ls 3 [(0, .ref (ad 0)), (1, .int r_1)] → W p l e rm_X8_rowNow s m args below meth c H locs 0 0 Q (F0 m 31 ls []) := by
    intro x_8 hq H locs hP hD hS ls hl
    have hq := hk1 _ hq
    refine lv_aload_n hx hb dX8_rowNow_31 rfl (lv_at hl 0 rfl) ?_
    refine va_get (D := D) (ci := 8) (v := .ref (ad 1)) (C := RX8) (T := TX8) (N := 24) hx hb hts iX8_rowNow_X8 hown hG.1 hP 0 rfl rfl 0 (by decide) (hts _ fX8_rowNow_1) (fun _ h9 => h9) rfl dX8_rowNow_32 ?_
    refine lv_iconst (v := 2) hx hb dX8_rowNow_35 (by decide) ?_
    refine lv_dup2_11 hx hb dX8_rowNow_36 rfl rfl ?_
    obtain ⟨h_9, hq⟩ := gd_s hq
    refine va_iald hx hb hG.1 hP 1 0 rfl rfl h_9 dX8_rowNow_37 ?_
    refine lv_iconst (v := 1) hx hb dX8_rowNow_38 (by decide) ?_
    refine lv_iadd hx hb dX8_rowNow_39 ?_
    obtain ⟨h_10, hq⟩ := gd_s hq
    refine va_iast hx hb hG.1 hP hD hS 1 0 rfl rfl h_10 dX8_rowNow_40 (fun H locs hP hD hS => ?_)
    have hP : va_P D cls9 (wM cI ad states whyKind whyOrder many wide textLong spot readColumns (upd x_8 (2 : Int32).toNatClampNeg ((x_8 (2 : Int32).toNatClampNeg) + (1 : Int32))) past refused work kept chosen across sum one two base quotients text numbers entries before) H := hP
    have hD : va_D A (wM cI ad states whyKind whyOrder many wide textLong spot readColumns (upd x_8 (2 : Int32).toNatClampNeg ((x_8 (2 : Int32).toNatClampNeg) + (1 : Int32))) past refused work kept chosen across sum one two base quotients text numbers entries before) := hD
    refine lv_iload_n hx hb dX8_rowNow_41 rfl (lv_at hl 1 rfl) ?_
    have he := Option.some.inj hq
    subst he
    exact hE H locs _ _ _ rfl dX8_rowNow_42 hP hD hS
  have hL1 : ∀ (n : Nat) (i_4 : Int32) (i_5 : Nat → Int32), lrun (fun (z : Int32 × (Nat → Int32)) => fX8_rowNow_s7 r_1 z.1 z.2) n (i_4, i_5) = some w1 → ∀ (H : Heap) (locs : List Loc), va_P D cls9 (wM cI ad states whyKind whyOrder many wide textLong spot readColumns i_5 past refused work kept chosen across sum one two base quotients text numbers entries before) H → va_D A (wM cI ad states whyKind whyOrder many wide textLong spot readColumns i_5 past refused work kept chosen across sum one two base quotients text numbers entries before) → va_S A s.heap H locs → ∀ (ls : Array Slot), lv_has ls 3 [(0, .ref (ad 0)), (1, .int r_1), (2, .int i_4)] → W p l e rm_X8_rowNow s m args below meth c H locs 0 0 Q (F0 m 7 ls []) := by
    intro n
    induction n with
    | zero => intro i_4 i_5 h; cases h
    | succ n ih1 =>
      intro i_4 i_5 hr1 H locs hP hD hS ls hl
      obtain ⟨k, v1, hk, hr1, ht1, hv1⟩ := lrun_s hr1
      cases hk
      have hr1 : fX8_rowNow_s7 r_1 i_4 i_5 = some v1 := hr1
      unfold fX8_rowNow_s7 at hr1
      refine lv_iload_n hx hb dX8_rowNow_7 rfl (lv_at hl 2 rfl) ?_
      refine lv_bipush (v := 21) hx hb dX8_rowNow_8 (by decide) ?_
      refine lv_icmp_ge (tgt := 31) hx hb dX8_rowNow_10 (by decide) (fun c_6 => ?_) (fun c_6 => ?_)
      · have hr1 := it_t c_6 hr1
        exact hX1 i_5 (hv1 _ (Option.some.inj hr1).symm).symm H locs hP hD hS ls (lv_sub hl [0, 1] rfl)
      · have hr1 := it_f c_6 hr1
        refine lv_aload_n hx hb dX8_rowNow_13 rfl (lv_at hl 0 rfl) ?_
        refine va_get (D := D) (ci := 8) (v := .ref (ad 1)) (C := RX8) (T := TX8) (N := 24) hx hb hts iX8_rowNow_X8 hown hG.1 hP 0 rfl rfl 0 (by decide) (hts _ fX8_rowNow_1) (fun _ h9 => h9) rfl dX8_rowNow_14 ?_
        refine lv_iload_n hx hb dX8_rowNow_17 rfl (lv_at hl 1 rfl) ?_
        refine lv_iconst (v := 0) hx hb dX8_rowNow_18 (by decide) ?_
        refine lv_iload_n hx hb dX8_rowNow_19 rfl (lv_at hl 2 rfl) ?_
        refine callI0 (gS (rest := [.ref (ad 1)]) ⟨hx, hb, hml, hown, hts⟩ hG vaP0 (vaD0 (A := A)) (mtX8_place l D cI cB cR H.size r_1 (0 : Int32) i_4 _ rfl) (va_cwS 3 hts gX8_rowNow_X8_place rfl rfl rfl hd_X8_place ⟨Nat.le_of_ble_eq_true rfl, Nat.le_of_ble_eq_true rfl⟩) rfl hl.1 rfl (Nat.le_of_ble_eq_true rfl) dX8_rowNow_20) hP hS hA (fun H locs hP hS => ?_)
        refine lv_iconst (v := 0) hx hb dX8_rowNow_23 (by decide) ?_
        obtain ⟨h_7, hr1⟩ := gd_s hr1
        refine va_iast hx hb hG.1 hP hD hS 1 0 rfl rfl h_7 dX8_rowNow_24 (fun H locs hP hD hS => ?_)
        have hP : va_P D cls9 (wM cI ad states whyKind whyOrder many wide textLong spot readColumns (upd i_5 (fX8_place r_1 (0 : Int32) i_4).toNatClampNeg (0 : Int32)) past refused work kept chosen across sum one two base quotients text numbers entries before) H := hP
        have hD : va_D A (wM cI ad states whyKind whyOrder many wide textLong spot readColumns (upd i_5 (fX8_place r_1 (0 : Int32) i_4).toNatClampNeg (0 : Int32)) past refused work kept chosen across sum one two base quotients text numbers entries before) := hD
        refine lv_iinc (v := (i_4 + 1)) (lv' := [(2, .int (i_4 + 1)), (0, .ref (ad 0)), (1, .int r_1)]) hx hb dX8_rowNow_25 hl (k := 2) rfl rfl (by decide) rfl (fun ls hl => ?_)
        refine lv_goto (tgt := 7) hx hb dX8_rowNow_28 (by decide) ?_
        exact ih1 (i_4 + 1) (upd i_5 (fX8_place r_1 (0 : Int32) i_4).toNatClampNeg (0 : Int32)) (ht1 _ (Option.some.inj hr1).symm) H locs hP hD hS ls (lv_sub hl [1, 2, 0] rfl)
  obtain ⟨n1, hn1⟩ := Lp_s hw1
  exact hL1 n1 (0 : Int32) all hn1 H locs hP hD hS ls (lv_sub hl [2, 1, 0] rfl)
abbrev rm_X8_row : Room := { frames := 2, cells := 0, slots := 0, locals := 44 }
set_option maxHeartbeats 4000000 in
set_option maxRecDepth 100000 in
theorem mtX8_row (l : Launch) (D : va_G) (cI cB cR : ClassId) (ad : Nat → Nat) (sz : Nat) (states : Int32) (whyKind : Int32) (whyOrder : Int32) (many : Int32) (wide : Int32) (textLong : Int32) (spot : Int32) (readColumns : Int32) (all : Nat → Int32) (past : Nat → Int32) (refused : Nat → Int32) (work : Nat → Int32) (kept : Nat → Int32) (chosen : Nat → Int32) (across : Nat → Int32) (sum : Nat → Int32) (one : Nat → Int32) (two : Nat → Int32) (base : Nat → Int32) (quotients : Nat → Int32) (text : Nat → Int32) (numbers : Nat → Int32) (entries : Nat → Int32) (before : Nat → Int32) (res : Int32 × Int32 × (Nat → Int32) × (Nat → Int32) × (Nat → Int32)) (hf : fX8_row states all past refused = some res) : Met l yX8_row wsX8_row rm_X8_row (qP D cI cB cR [.ref (ad 0)] (wM cI ad states whyKind whyOrder many wide textLong spot readColumns all past refused work kept chosen across sum one two base quotients text numbers entries before) sz) (qI D res.1 (wM cI ad states whyKind whyOrder many wide textLong spot readColumns all past refused work kept chosen across sum one two base quotients text numbers entries before) (wM cI ad res.2.1 whyKind whyOrder many wide textLong spot readColumns res.2.2.1 res.2.2.2.1 res.2.2.2.2 work kept chosen across sum one two base quotients text numbers entries before) sz) 0 0 (va_A (wM cI ad states whyKind whyOrder many wide textLong spot readColumns all past refused work kept chosen across sum one two base quotients text numbers entries before) sz) := by
  refine entI (plainFor_of_name (by decide)) rfl (Nat.le_of_ble_eq_true rfl) ?_
  intro p e s m args below meth c Q A ls S hG hP hD hA hl hE
  obtain ⟨hx, hb, hml, hown, hts⟩ := S
  have hown : s.vm.findClass RX8 = some m.cls := hown
  have hS : va_S A s.heap s.heap [] := va_S.rf
  have hl : lv_has ls 1 [(0, .ref (ad 0))] := hl
  have hq := hf
  unfold fX8_row at hq
  obtain ⟨H, hH⟩ : ∃ H, H = s.heap := ⟨_, rfl⟩
  obtain ⟨locs, hlo⟩ : ∃ L : List Loc, L = [] := ⟨_, rfl⟩
  have hP : va_P D cls9 (wM cI ad states whyKind whyOrder many wide textLong spot readColumns all past refused work kept chosen across sum one two base quotients text numbers entries before) H := hH ▸ hP
  have hS : va_S A s.heap H locs := by rw [hH, hlo]; exact hS
  suffices hg : W p l e rm_X8_row s m args below meth c H locs 0 0 Q (F0 m 0 ls []) by rw [hH, hlo] at hg; exact hg
  refine lv_aload_n hx hb dX8_row_0 rfl (lv_at hl 0 rfl) ?_
  obtain ⟨v_3, hq_2, hk⟩ := bd1_s hq
  obtain ⟨r_1, rfl⟩ : ∃ y, y = v_3 := ⟨_, rfl⟩
  have hq := hk _ rfl
  refine callIA (gV (rest := []) ⟨hx, hb, hml, hown, hts⟩ hG hP hD 0 8 rfl rfl (mtX8_rows l D cI cB cR ad H.size states whyKind whyOrder many wide textLong spot readColumns all past refused work kept chosen across sum one two base quotients text numbers entries before r_1 hq_2) (cwV 0 hts gX8_row_X8_rows rfl rfl rfl ⟨rfl, hd_X8_rows⟩ ⟨Nat.le_of_ble_eq_true rfl, Nat.le_of_ble_eq_true rfl⟩) rfl hl.1 rfl (Nat.le_of_ble_eq_true rfl) dX8_row_1) hD hS hA (fun H locs hP hD hS => ?_)
  have hP : va_P D cls9 (wM cI ad states whyKind whyOrder many wide textLong spot readColumns all past refused work kept chosen across sum one two base quotients text numbers entries before) H := hP
  have hD : va_D A (wM cI ad states whyKind whyOrder many wide textLong spot readColumns all past refused work kept chosen across sum one two base quotients text numbers entries before) := hD
  refine lv_iconst (v := 5) hx hb dX8_row_4 (by decide) ?_
  refine lv_icmp_ne (tgt := 15) hx hb dX8_row_5 (by decide) (fun c_4 => ?_) (fun c_4 => ?_)
  · have hq := it_f c_4 hq
    refine lv_aload_n hx hb dX8_row_15 rfl (lv_at hl 0 rfl) ?_
    obtain ⟨v_8, hq_7, hk⟩ := bd2_s hq
    obtain ⟨u_5, u_6⟩ := v_8
    have hq := hk _ _ rfl
    refine callVA (gV (rest := []) ⟨hx, hb, hml, hown, hts⟩ hG hP hD 0 8 rfl rfl (mtX8_keep l D cI cB cR ad H.size states whyKind whyOrder many wide textLong spot readColumns all past refused work kept chosen across sum one two base quotients text numbers entries before (u_5, u_6) hq_7) (cwV 0 hts gX8_row_X8_keep rfl rfl rfl ⟨rfl, hd_X8_keep⟩ ⟨Nat.le_of_ble_eq_true rfl, Nat.le_of_ble_eq_true rfl⟩) rfl hl.1 rfl (Nat.le_of_ble_eq_true rfl) dX8_row_16) hD hS hA (fun H locs hP hD hS => ?_)
    have hP : va_P D cls9 (wM cI ad u_5 whyKind whyOrder many wide textLong spot readColumns all u_6 refused work kept chosen across sum one two base quotients text numbers entries before) H := hP
    have hD : va_D A (wM cI ad u_5 whyKind whyOrder many wide textLong spot readColumns all u_6 refused work kept chosen across sum one two base quotients text numbers entries before) := hD
    refine lv_aload_n hx hb dX8_row_19 rfl (lv_at hl 0 rfl) ?_
    obtain ⟨v_12, hq_11, hk⟩ := bd2_s hq
    obtain ⟨r_9, u_10⟩ := v_12
    have hq := hk _ _ rfl
    refine callIA (gV (rest := []) ⟨hx, hb, hml, hown, hts⟩ hG hP hD 0 8 rfl rfl (mtX8_rowNow l D cI cB cR ad H.size u_5 whyKind whyOrder many wide textLong spot readColumns all u_6 refused work kept chosen across sum one two base quotients text numbers entries before (r_9, u_10) hq_11) (cwV 0 hts gX8_row_X8_rowNow rfl rfl rfl ⟨rfl, hd_X8_rowNow⟩ ⟨Nat.le_of_ble_eq_true rfl, Nat.le_of_ble_eq_true rfl⟩) rfl hl.1 rfl (Nat.le_of_ble_eq_true rfl) dX8_row_20) hD hS hA (fun H locs hP hD hS => ?_)
    have hP : va_P D cls9 (wM cI ad u_5 whyKind whyOrder many wide textLong spot readColumns u_10 u_6 refused work kept chosen across sum one two base quotients text numbers entries before) H := hP
    have hD : va_D A (wM cI ad u_5 whyKind whyOrder many wide textLong spot readColumns u_10 u_6 refused work kept chosen across sum one two base quotients text numbers entries before) := hD
    have he := Option.some.inj hq
    subst he
    exact hE H locs _ _ _ rfl dX8_row_23 hP hD hS
  · have hq := it_t c_4 hq
    refine lv_aload_n hx hb dX8_row_8 rfl (lv_at hl 0 rfl) ?_
    refine lv_bipush (v := -4) hx hb dX8_row_9 (by decide) ?_
    obtain ⟨v_16, hq_15, hk⟩ := bd2_s hq
    obtain ⟨r_13, u_14⟩ := v_16
    have hq := hk _ _ rfl
    refine callIA (gV (rest := []) ⟨hx, hb, hml, hown, hts⟩ hG hP hD 0 8 rfl rfl (mtX8_refuses l D cI cB cR ad H.size states whyKind whyOrder many wide textLong spot readColumns all past refused work kept chosen across sum one two base quotients text numbers entries before (-4 : Int32) (r_13, u_14) hq_15) (cwV 1 hts gX8_row_X8_refuses rfl rfl rfl ⟨rfl, hd_X8_refuses⟩ ⟨Nat.le_of_ble_eq_true rfl, Nat.le_of_ble_eq_true rfl⟩) rfl hl.1 rfl (Nat.le_of_ble_eq_true rfl) dX8_row_11) hD hS hA (fun H locs hP hD hS => ?_)
    have hP : va_P D cls9 (wM cI ad states whyKind whyOrder many wide textLong spot readColumns all past u_14 work kept chosen across sum one two base quotients text numbers entries before) H := hP
    have hD : va_D A (wM cI ad states whyKind whyOrder many wide textLong spot readColumns all past u_14 work kept chosen across sum one two base quotients text numbers entries before) := hD
    have he := Option.some.inj hq
    subst he
    exact hE H locs _ _ _ rfl dX8_row_14 hP hD hS
abbrev rm_X8_sets : Room := { frames := 2, cells := 0, slots := 0, locals := 46 }
theorem fX8_sets_0 : Cond.constantLong RX8 124 (6) ∈ wsX8_sets := (List.mem_cons_of_mem _ (List.mem_append_left _ (List.mem_append_left _ (List.mem_of_getElem? (i := 0) rfl))))
theorem iX8_sets_X8 : ∀ w ∈ wsX80, w ∈ wsX8_sets := fun _ h => (List.mem_cons_of_mem _ (List.mem_append_right _ h))
theorem fX8_sets_2 : Cond.fieldLink RX8 7 "PopovRowsModel" "all" "[I" ∈ wsX8_sets := (List.mem_cons_of_mem _ (List.mem_append_left _ (List.mem_append_left _ (List.mem_of_getElem? (i := 1) rfl))))
set_option maxHeartbeats 4000000 in
set_option maxRecDepth 100000 in
theorem mtX8_sets (l : Launch) (D : va_G) (cI cB cR : ClassId) (ad : Nat → Nat) (sz : Nat) (states : Int32) (whyKind : Int32) (whyOrder : Int32) (many : Int32) (wide : Int32) (textLong : Int32) (spot : Int32) (readColumns : Int32) (all : Nat → Int32) (past : Nat → Int32) (refused : Nat → Int32) (work : Nat → Int32) (kept : Nat → Int32) (chosen : Nat → Int32) (across : Nat → Int32) (sum : Nat → Int32) (one : Nat → Int32) (two : Nat → Int32) (base : Nat → Int32) (quotients : Nat → Int32) (text : Nat → Int32) (numbers : Nat → Int32) (entries : Nat → Int32) (before : Nat → Int32) (a0 : Int32) (a1 : Int32) (a2 : Int32) (a3 : Int32) (res : Int32 × Int32 × (Nat → Int32) × (Nat → Int32) × (Nat → Int32)) (hf : fX8_sets states all past refused a0 a1 a2 a3 = some res) : Met l yX8_sets wsX8_sets rm_X8_sets (qP D cI cB cR [.ref (ad 0), .int a0, .int a1, .int a2, .int a3] (wM cI ad states whyKind whyOrder many wide textLong spot readColumns all past refused work kept chosen across sum one two base quotients text numbers entries before) sz) (qI D res.1 (wM cI ad states whyKind whyOrder many wide textLong spot readColumns all past refused work kept chosen across sum one two base quotients text numbers entries before) (wM cI ad res.2.1 whyKind whyOrder many wide textLong spot readColumns res.2.2.1 res.2.2.2.1 res.2.2.2.2 work kept chosen across sum one two base quotients text numbers entries before) sz) 0 0 (va_A (wM cI ad states whyKind whyOrder many wide textLong spot readColumns all past refused work kept chosen across sum one two base quotients text numbers entries before) sz) := by
  refine entI (plainFor_of_name (by decide)) rfl (Nat.le_of_ble_eq_true rfl) ?_
  intro p e s m args below meth c Q A ls S hG hP hD hA hl hE
  obtain ⟨hx, hb, hml, hown, hts⟩ := S
  have hown : s.vm.findClass RX8 = some m.cls := hown
  have hS : va_S A s.heap s.heap [] := va_S.rf
  have hl : lv_has ls 6 [(0, .ref (ad 0)), (1, .int a0), (2, .int a1), (3, .int a2), (4, .int a3)] := hl
  have hq := hf
  unfold fX8_sets at hq
  obtain ⟨H, hH⟩ : ∃ H, H = s.heap := ⟨_, rfl⟩
  obtain ⟨locs, hlo⟩ : ∃ L : List Loc, L = [] := ⟨_, rfl⟩
  have hP : va_P D cls9 (wM cI ad states whyKind whyOrder many wide textLong spot readColumns all past refused work kept chosen across sum one two base quotients text numbers entries before) H := hH ▸ hP
  have hS : va_S A s.heap H locs := by rw [hH, hlo]; exact hS
  suffices hg : W p l e rm_X8_sets s m args below meth c H locs 0 0 Q (F0 m 0 ls []) by rw [hH, hlo] at hg; exact hg
  refine lv_aload_n hx hb dX8_sets_0 rfl (lv_at hl 0 rfl) ?_
  refine lv_iload_n hx hb dX8_sets_1 rfl (lv_at hl 1 rfl) ?_
  obtain ⟨v_3, hq_2, hk⟩ := bd1_s hq
  obtain ⟨r_1, rfl⟩ : ∃ y, y = v_3 := ⟨_, rfl⟩
  have hq := hk _ rfl
  refine callZA (gV (rest := []) ⟨hx, hb, hml, hown, hts⟩ hG hP hD 0 8 rfl rfl (mtX8_isRow l D cI cB cR ad H.size states whyKind whyOrder many wide textLong spot readColumns all past refused work kept chosen across sum one two base quotients text numbers entries before a0 r_1 hq_2) (cwV 1 hts gX8_sets_X8_isRow rfl rfl rfl ⟨rfl, hd_X8_isRow⟩ ⟨Nat.le_of_ble_eq_true rfl, Nat.le_of_ble_eq_true rfl⟩) rfl hl.1 rfl (Nat.le_of_ble_eq_true rfl) dX8_sets_2) hD hS hA (fun H locs z_4 hP hD hS => ?_)
  have hP : va_P D cls9 (wM cI ad states whyKind whyOrder many wide textLong spot readColumns all past refused work kept chosen across sum one two base quotients text numbers entries before) H := hP
  have hD : va_D A (wM cI ad states whyKind whyOrder many wide textLong spot readColumns all past refused work kept chosen across sum one two base quotients text numbers entries before) := hD
  refine lv_if_eq (tgt := 28) hx hb dX8_sets_5 (by decide) (fun c_5 => ?_) (fun c_5 => ?_)
  · have hq := it_t c_5 hq
    refine lv_aload_n hx hb dX8_sets_28 rfl (lv_at hl 0 rfl) ?_
    refine lv_bipush (v := -2) hx hb dX8_sets_29 (by decide) ?_
    obtain ⟨v_9, hq_8, hk⟩ := bd2_s hq
    obtain ⟨r_6, u_7⟩ := v_9
    have hq := hk _ _ rfl
    refine callIA (gV (rest := []) ⟨hx, hb, hml, hown, hts⟩ hG hP hD 0 8 rfl rfl (mtX8_refuses l D cI cB cR ad H.size states whyKind whyOrder many wide textLong spot readColumns all past refused work kept chosen across sum one two base quotients text numbers entries before (-2 : Int32) (r_6, u_7) hq_8) (cwV 1 hts gX8_sets_X8_refuses rfl rfl rfl ⟨rfl, hd_X8_refuses⟩ ⟨Nat.le_of_ble_eq_true rfl, Nat.le_of_ble_eq_true rfl⟩) rfl hl.1 rfl (Nat.le_of_ble_eq_true rfl) dX8_sets_31) hD hS hA (fun H locs hP hD hS => ?_)
    have hP : va_P D cls9 (wM cI ad states whyKind whyOrder many wide textLong spot readColumns all past u_7 work kept chosen across sum one two base quotients text numbers entries before) H := hP
    have hD : va_D A (wM cI ad states whyKind whyOrder many wide textLong spot readColumns all past u_7 work kept chosen across sum one two base quotients text numbers entries before) := hD
    have he := Option.some.inj hq
    subst he
    exact hE H locs _ _ _ rfl dX8_sets_34 hP hD hS
  · have hq := it_f c_5 hq
    refine lv_aload_n hx hb dX8_sets_8 rfl (lv_at hl 0 rfl) ?_
    refine lv_iload_n hx hb dX8_sets_9 rfl (lv_at hl 2 rfl) ?_
    obtain ⟨v_12, hq_11, hk⟩ := bd1_s hq
    obtain ⟨r_10, rfl⟩ : ∃ y, y = v_12 := ⟨_, rfl⟩
    have hq := hk _ rfl
    refine callZA (gV (rest := []) ⟨hx, hb, hml, hown, hts⟩ hG hP hD 0 8 rfl rfl (mtX8_isColumn l D cI cB cR ad H.size states whyKind whyOrder many wide textLong spot readColumns all past refused work kept chosen across sum one two base quotients text numbers entries before a1 r_10 hq_11) (cwV 1 hts gX8_sets_X8_isColumn rfl rfl rfl ⟨rfl, hd_X8_isColumn⟩ ⟨Nat.le_of_ble_eq_true rfl, Nat.le_of_ble_eq_true rfl⟩) rfl hl.1 rfl (Nat.le_of_ble_eq_true rfl) dX8_sets_10) hD hS hA (fun H locs z_13 hP hD hS => ?_)
    have hP : va_P D cls9 (wM cI ad states whyKind whyOrder many wide textLong spot readColumns all past refused work kept chosen across sum one two base quotients text numbers entries before) H := hP
    have hD : va_D A (wM cI ad states whyKind whyOrder many wide textLong spot readColumns all past refused work kept chosen across sum one two base quotients text numbers entries before) := hD
    refine lv_if_eq (tgt := 28) hx hb dX8_sets_13 (by decide) (fun c_14 => ?_) (fun c_14 => ?_)
    · have hq := it_t c_14 hq
      refine lv_aload_n hx hb dX8_sets_28 rfl (lv_at hl 0 rfl) ?_
      refine lv_bipush (v := -2) hx hb dX8_sets_29 (by decide) ?_
      obtain ⟨v_18, hq_17, hk⟩ := bd2_s hq
      obtain ⟨r_15, u_16⟩ := v_18
      have hq := hk _ _ rfl
      refine callIA (gV (rest := []) ⟨hx, hb, hml, hown, hts⟩ hG hP hD 0 8 rfl rfl (mtX8_refuses l D cI cB cR ad H.size states whyKind whyOrder many wide textLong spot readColumns all past refused work kept chosen across sum one two base quotients text numbers entries before (-2 : Int32) (r_15, u_16) hq_17) (cwV 1 hts gX8_sets_X8_refuses rfl rfl rfl ⟨rfl, hd_X8_refuses⟩ ⟨Nat.le_of_ble_eq_true rfl, Nat.le_of_ble_eq_true rfl⟩) rfl hl.1 rfl (Nat.le_of_ble_eq_true rfl) dX8_sets_31) hD hS hA (fun H locs hP hD hS => ?_)
      have hP : va_P D cls9 (wM cI ad states whyKind whyOrder many wide textLong spot readColumns all past u_16 work kept chosen across sum one two base quotients text numbers entries before) H := hP
      have hD : va_D A (wM cI ad states whyKind whyOrder many wide textLong spot readColumns all past u_16 work kept chosen across sum one two base quotients text numbers entries before) := hD
      have he := Option.some.inj hq
      subst he
      exact hE H locs _ _ _ rfl dX8_sets_34 hP hD hS
    · have hq := it_f c_14 hq
      refine lv_iload_n hx hb dX8_sets_16 rfl (lv_at hl 3 rfl) ?_
      refine lv_i2l (v := (a2.toInt64)) hx hb dX8_sets_17 rfl ?_
      refine lv_lconst (v := 0) hx hb dX8_sets_18 (by decide) ?_
      refine lv_ldc2 (v := 6) hx hb hown (hts _ fX8_sets_0) dX8_sets_19 ?_
      refine callZ0 (gS (rest := []) ⟨hx, hb, hml, hown, hts⟩ hG vaP0 (vaD0 (A := A)) (mtX8_in l D cI cB cR H.size (a2.toInt64) (0 : Int64) (6 : Int64) _ rfl) (va_cwS 3 hts gX8_sets_X8_in rfl rfl rfl hd_X8_in ⟨Nat.le_of_ble_eq_true rfl, Nat.le_of_ble_eq_true rfl⟩) rfl hl.1 rfl (Nat.le_of_ble_eq_true rfl) dX8_sets_22) hP hS hA (fun H locs z_19 hP hS => ?_)
      refine lv_if_ne (tgt := 35) hx hb dX8_sets_25 (by decide) (fun c_20 => ?_) (fun c_20 => ?_)
      · have hq := it_f c_20 hq
        refine lv_aload_n hx hb dX8_sets_35 rfl (lv_at hl 0 rfl) ?_
        obtain ⟨v_24, hq_23, hk⟩ := bd2_s hq
        obtain ⟨u_21, u_22⟩ := v_24
        have hq := hk _ _ rfl
        refine callVA (gV (rest := []) ⟨hx, hb, hml, hown, hts⟩ hG hP hD 0 8 rfl rfl (mtX8_keep l D cI cB cR ad H.size states whyKind whyOrder many wide textLong spot readColumns all past refused work kept chosen across sum one two base quotients text numbers entries before (u_21, u_22) hq_23) (cwV 0 hts gX8_sets_X8_keep rfl rfl rfl ⟨rfl, hd_X8_keep⟩ ⟨Nat.le_of_ble_eq_true rfl, Nat.le_of_ble_eq_true rfl⟩) rfl hl.1 rfl (Nat.le_of_ble_eq_true rfl) dX8_sets_36) hD hS hA (fun H locs hP hD hS => ?_)
        have hP : va_P D cls9 (wM cI ad u_21 whyKind whyOrder many wide textLong spot readColumns all u_22 refused work kept chosen across sum one two base quotients text numbers entries before) H := hP
        have hD : va_D A (wM cI ad u_21 whyKind whyOrder many wide textLong spot readColumns all u_22 refused work kept chosen across sum one two base quotients text numbers entries before) := hD
        refine lv_aload_n hx hb dX8_sets_39 rfl (lv_at hl 0 rfl) ?_
        refine va_get (D := D) (ci := 8) (v := .ref (ad 1)) (C := RX8) (T := TX8) (N := 24) hx hb hts iX8_sets_X8 hown hG.1 hP 0 rfl rfl 0 (by decide) (hts _ fX8_sets_2) (fun _ h9 => h9) rfl dX8_sets_40 ?_
        refine lv_iload_n hx hb dX8_sets_43 rfl (lv_at hl 1 rfl) ?_
        refine lv_iload_n hx hb dX8_sets_44 rfl (lv_at hl 2 rfl) ?_
        refine lv_iload_n hx hb dX8_sets_45 rfl (lv_at hl 3 rfl) ?_
        refine callI0 (gS (rest := [.ref (ad 1)]) ⟨hx, hb, hml, hown, hts⟩ hG vaP0 (vaD0 (A := A)) (mtX8_place l D cI cB cR H.size a0 a1 a2 _ rfl) (va_cwS 3 hts gX8_sets_X8_place rfl rfl rfl hd_X8_place ⟨Nat.le_of_ble_eq_true rfl, Nat.le_of_ble_eq_true rfl⟩) rfl hl.1 rfl (Nat.le_of_ble_eq_true rfl) dX8_sets_46) hP hS hA (fun H locs hP hS => ?_)
        obtain ⟨h_25, hq⟩ := gd_s hq
        refine va_iald hx hb hG.1 hP 1 0 rfl rfl h_25 dX8_sets_49 ?_
        refine lv_istore (lv' := [(5, .int (all (fX8_place a0 a1 a2).toNatClampNeg)), (0, .ref (ad 0)), (1, .int a0), (2, .int a1), (3, .int a2), (4, .int a3)]) hx hb dX8_sets_50 hl (by decide) rfl (fun ls hl => ?_)
        refine lv_aload_n hx hb dX8_sets_52 rfl (lv_at hl 1 rfl) ?_
        refine va_get (D := D) (ci := 8) (v := .ref (ad 1)) (C := RX8) (T := TX8) (N := 24) hx hb hts iX8_sets_X8 hown hG.1 hP 0 rfl rfl 0 (by decide) (hts _ fX8_sets_2) (fun _ h9 => h9) rfl dX8_sets_53 ?_
        refine lv_iload_n hx hb dX8_sets_56 rfl (lv_at hl 2 rfl) ?_
        refine lv_iload_n hx hb dX8_sets_57 rfl (lv_at hl 3 rfl) ?_
        refine lv_iload_n hx hb dX8_sets_58 rfl (lv_at hl 4 rfl) ?_
        refine callI0 (gS (rest := [.ref (ad 1)]) ⟨hx, hb, hml, hown, hts⟩ hG vaP0 (vaD0 (A := A)) (mtX8_place l D cI cB cR H.size a0 a1 a2 _ rfl) (va_cwS 3 hts gX8_sets_X8_place rfl rfl rfl hd_X8_place ⟨Nat.le_of_ble_eq_true rfl, Nat.le_of_ble_eq_true rfl⟩) rfl hl.1 rfl (Nat.le_of_ble_eq_true rfl) dX8_sets_59) hP hS hA (fun H locs hP hS => ?_)
        refine lv_aload_n hx hb dX8_sets_62 rfl (lv_at hl 1 rfl) ?_
        refine lv_iload hx hb dX8_sets_63 (lv_at hl 5 rfl) ?_
        obtain ⟨v_28, hq_27, hk⟩ := bd1_s hq
        obtain ⟨r_26, rfl⟩ : ∃ y, y = v_28 := ⟨_, rfl⟩
        have hq := hk _ rfl
        refine callIA (gV (rest := [.int (fX8_place a0 a1 a2), .ref (ad 1)]) ⟨hx, hb, hml, hown, hts⟩ hG hP hD 0 8 rfl rfl (mtX8_left l D cI cB cR ad H.size u_21 whyKind whyOrder many wide textLong spot readColumns all u_22 refused work kept chosen across sum one two base quotients text numbers entries before a3 r_26 hq_27) (cwV 1 hts gX8_sets_X8_left rfl rfl rfl ⟨rfl, hd_X8_left⟩ ⟨Nat.le_of_ble_eq_true rfl, Nat.le_of_ble_eq_true rfl⟩) rfl hl.1 rfl (Nat.le_of_ble_eq_true rfl) dX8_sets_65) hD hS hA (fun H locs hP hD hS => ?_)
        have hP : va_P D cls9 (wM cI ad u_21 whyKind whyOrder many wide textLong spot readColumns all u_22 refused work kept chosen across sum one two base quotients text numbers entries before) H := hP
        have hD : va_D A (wM cI ad u_21 whyKind whyOrder many wide textLong spot readColumns all u_22 refused work kept chosen across sum one two base quotients text numbers entries before) := hD
        obtain ⟨h_29, hq⟩ := gd_s hq
        refine va_iast hx hb hG.1 hP hD hS 1 0 rfl rfl h_29 dX8_sets_68 (fun H locs hP hD hS => ?_)
        have hP : va_P D cls9 (wM cI ad u_21 whyKind whyOrder many wide textLong spot readColumns (upd all (fX8_place a0 a1 a2).toNatClampNeg r_26) u_22 refused work kept chosen across sum one two base quotients text numbers entries before) H := hP
        have hD : va_D A (wM cI ad u_21 whyKind whyOrder many wide textLong spot readColumns (upd all (fX8_place a0 a1 a2).toNatClampNeg r_26) u_22 refused work kept chosen across sum one two base quotients text numbers entries before) := hD
        refine lv_iload hx hb dX8_sets_69 (lv_at hl 0 rfl) ?_
        have he := Option.some.inj hq
        subst he
        exact hE H locs _ _ _ rfl dX8_sets_71 hP hD hS
      · have hq := it_t c_20 hq
        refine lv_aload_n hx hb dX8_sets_28 rfl (lv_at hl 0 rfl) ?_
        refine lv_bipush (v := -2) hx hb dX8_sets_29 (by decide) ?_
        obtain ⟨v_33, hq_32, hk⟩ := bd2_s hq
        obtain ⟨r_30, u_31⟩ := v_33
        have hq := hk _ _ rfl
        refine callIA (gV (rest := []) ⟨hx, hb, hml, hown, hts⟩ hG hP hD 0 8 rfl rfl (mtX8_refuses l D cI cB cR ad H.size states whyKind whyOrder many wide textLong spot readColumns all past refused work kept chosen across sum one two base quotients text numbers entries before (-2 : Int32) (r_30, u_31) hq_32) (cwV 1 hts gX8_sets_X8_refuses rfl rfl rfl ⟨rfl, hd_X8_refuses⟩ ⟨Nat.le_of_ble_eq_true rfl, Nat.le_of_ble_eq_true rfl⟩) rfl hl.1 rfl (Nat.le_of_ble_eq_true rfl) dX8_sets_31) hD hS hA (fun H locs hP hD hS => ?_)
        have hP : va_P D cls9 (wM cI ad states whyKind whyOrder many wide textLong spot readColumns all past u_31 work kept chosen across sum one two base quotients text numbers entries before) H := hP
        have hD : va_D A (wM cI ad states whyKind whyOrder many wide textLong spot readColumns all past u_31 work kept chosen across sum one two base quotients text numbers entries before) := hD
        have he := Option.some.inj hq
        subst he
        exact hE H locs _ _ _ rfl dX8_sets_34 hP hD hS
abbrev rm_X8_dropNow : Room := { frames := 1, cells := 0, slots := 0, locals := 22 }
theorem iX8_dropNow_X8 : ∀ w ∈ wsX80, w ∈ wsX8_dropNow := fun _ h => (List.mem_cons_of_mem _ (List.mem_append_right _ h))
theorem fX8_dropNow_1 : Cond.fieldLink RX8 7 "PopovRowsModel" "all" "[I" ∈ wsX8_dropNow := (List.mem_cons_of_mem _ (List.mem_append_left _ (List.mem_of_getElem? (i := 0) rfl)))
set_option maxHeartbeats 4000000 in
set_option maxRecDepth 100000 in
theorem mtX8_dropNow (l : Launch) (D : va_G) (cI cB cR : ClassId) (ad : Nat → Nat) (sz : Nat) (states : Int32) (whyKind : Int32) (whyOrder : Int32) (many : Int32) (wide : Int32) (textLong : Int32) (spot : Int32) (readColumns : Int32) (all : Nat → Int32) (past : Nat → Int32) (refused : Nat → Int32) (work : Nat → Int32) (kept : Nat → Int32) (chosen : Nat → Int32) (across : Nat → Int32) (sum : Nat → Int32) (one : Nat → Int32) (two : Nat → Int32) (base : Nat → Int32) (quotients : Nat → Int32) (text : Nat → Int32) (numbers : Nat → Int32) (entries : Nat → Int32) (before : Nat → Int32) (a0 : Int32) (res : Int32 × (Nat → Int32)) (hf : fX8_dropNow all a0 = some res) : Met l yX8_dropNow wsX8_dropNow rm_X8_dropNow (qP D cI cB cR [.ref (ad 0), .int a0] (wM cI ad states whyKind whyOrder many wide textLong spot readColumns all past refused work kept chosen across sum one two base quotients text numbers entries before) sz) (qI D res.1 (wM cI ad states whyKind whyOrder many wide textLong spot readColumns all past refused work kept chosen across sum one two base quotients text numbers entries before) (wM cI ad states whyKind whyOrder many wide textLong spot readColumns res.2 past refused work kept chosen across sum one two base quotients text numbers entries before) sz) 0 0 (va_A (wM cI ad states whyKind whyOrder many wide textLong spot readColumns all past refused work kept chosen across sum one two base quotients text numbers entries before) sz) := by
  refine entI (plainFor_of_name (by decide)) rfl (Nat.le_of_ble_eq_true rfl) ?_
  intro p e s m args below meth c Q A ls S hG hP hD hA hl hE
  obtain ⟨hx, hb, hml, hown, hts⟩ := S
  have hown : s.vm.findClass RX8 = some m.cls := hown
  have hS : va_S A s.heap s.heap [] := va_S.rf
  have hl : lv_has ls 3 [(0, .ref (ad 0)), (1, .int a0)] := hl
  have hq := hf
  unfold fX8_dropNow at hq
  obtain ⟨H, hH⟩ : ∃ H, H = s.heap := ⟨_, rfl⟩
  obtain ⟨locs, hlo⟩ : ∃ L : List Loc, L = [] := ⟨_, rfl⟩
  have hP : va_P D cls9 (wM cI ad states whyKind whyOrder many wide textLong spot readColumns all past refused work kept chosen across sum one two base quotients text numbers entries before) H := hH ▸ hP
  have hS : va_S A s.heap H locs := by rw [hH, hlo]; exact hS
  suffices hg : W p l e rm_X8_dropNow s m args below meth c H locs 0 0 Q (F0 m 0 ls []) by rw [hH, hlo] at hg; exact hg
  refine lv_aload_n hx hb dX8_dropNow_0 rfl (lv_at hl 0 rfl) ?_
  refine va_get (D := D) (ci := 8) (v := .ref (ad 1)) (C := RX8) (T := TX8) (N := 24) hx hb hts iX8_dropNow_X8 hown hG.1 hP 0 rfl rfl 0 (by decide) (hts _ fX8_dropNow_1) (fun _ h9 => h9) rfl dX8_dropNow_1 ?_
  refine lv_iconst (v := 2) hx hb dX8_dropNow_4 (by decide) ?_
  refine lv_dup2_11 hx hb dX8_dropNow_5 rfl rfl ?_
  obtain ⟨h_1, hq⟩ := gd_s hq
  refine va_iald hx hb hG.1 hP 1 0 rfl rfl h_1 dX8_dropNow_6 ?_
  refine lv_iconst (v := 1) hx hb dX8_dropNow_7 (by decide) ?_
  refine lv_isub hx hb dX8_dropNow_8 ?_
  obtain ⟨h_2, hq⟩ := gd_s hq
  refine va_iast hx hb hG.1 hP hD hS 1 0 rfl rfl h_2 dX8_dropNow_9 (fun H locs hP hD hS => ?_)
  have hP : va_P D cls9 (wM cI ad states whyKind whyOrder many wide textLong spot readColumns (upd all (2 : Int32).toNatClampNeg ((all (2 : Int32).toNatClampNeg) - (1 : Int32))) past refused work kept chosen across sum one two base quotients text numbers entries before) H := hP
  have hD : va_D A (wM cI ad states whyKind whyOrder many wide textLong spot readColumns (upd all (2 : Int32).toNatClampNeg ((all (2 : Int32).toNatClampNeg) - (1 : Int32))) past refused work kept chosen across sum one two base quotients text numbers entries before) := hD
  refine lv_iload_n hx hb dX8_dropNow_10 rfl (lv_at hl 1 rfl) ?_
  refine lv_iconst (v := 0) hx hb dX8_dropNow_11 (by decide) ?_
  refine lv_iconst (v := 0) hx hb dX8_dropNow_12 (by decide) ?_
  refine callI0 (gS (rest := []) ⟨hx, hb, hml, hown, hts⟩ hG vaP0 (vaD0 (A := A)) (mtX8_place l D cI cB cR H.size a0 (0 : Int32) (0 : Int32) _ rfl) (va_cwS 3 hts gX8_dropNow_X8_place rfl rfl rfl hd_X8_place ⟨Nat.le_of_ble_eq_true rfl, Nat.le_of_ble_eq_true rfl⟩) rfl hl.1 rfl (Nat.le_of_ble_eq_true rfl) dX8_dropNow_13) hP hS hA (fun H locs hP hS => ?_)
  refine lv_istore_n (lv' := [(2, .int (fX8_place a0 (0 : Int32) (0 : Int32))), (0, .ref (ad 0)), (1, .int a0)]) hx hb dX8_dropNow_16 rfl hl (by decide) rfl (fun ls hl => ?_)
  obtain ⟨w1, hw1, hk1⟩ := bd1_s hq
  have hX1 : ∀ (x_11 : Nat → Int32), w1 = x_11 → ∀ (H : Heap) (locs : List Loc), va_P D cls9 (wM cI ad states whyKind whyOrder many wide textLong spot readColumns x_11 past refused work kept chosen across sum one two base quotients text numbers entries before) H → va_D A (wM cI ad states whyKind whyOrder many wide textLong spot readColumns x_11 past refused work kept chosen across sum one two base quotients text numbers entries before) → va_S A s.heap H locs → ∀ (ls : Array Slot), lv_has ls 3 [(0, .ref (ad 0))] → W p l e rm_X8_dropNow s m args below meth c H locs 0 0 Q (F0 m 51 ls []) := by
    intro x_11 hq H locs hP hD hS ls hl
    have hq := hk1 _ hq
    refine lv_aload_n hx hb dX8_dropNow_51 rfl (lv_at hl 0 rfl) ?_
    obtain ⟨v_14, hq_13, hk⟩ := bd1_s hq
    obtain ⟨r_12, rfl⟩ : ∃ y, y = v_14 := ⟨_, rfl⟩
    have hq := hk _ rfl
    refine callIA (gV (rest := []) ⟨hx, hb, hml, hown, hts⟩ hG hP hD 0 8 rfl rfl (mtX8_rows l D cI cB cR ad H.size states whyKind whyOrder many wide textLong spot readColumns x_11 past refused work kept chosen across sum one two base quotients text numbers entries before r_12 hq_13) (cwV 0 hts gX8_dropNow_X8_rows rfl rfl rfl ⟨rfl, hd_X8_rows⟩ ⟨Nat.le_of_ble_eq_true rfl, Nat.le_of_ble_eq_true rfl⟩) rfl hl.1 rfl (Nat.le_of_ble_eq_true rfl) dX8_dropNow_52) hD hS hA (fun H locs hP hD hS => ?_)
    have hP : va_P D cls9 (wM cI ad states whyKind whyOrder many wide textLong spot readColumns x_11 past refused work kept chosen across sum one two base quotients text numbers entries before) H := hP
    have hD : va_D A (wM cI ad states whyKind whyOrder many wide textLong spot readColumns x_11 past refused work kept chosen across sum one two base quotients text numbers entries before) := hD
    have he := Option.some.inj hq
    subst he
    exact hE H locs _ _ _ rfl dX8_dropNow_55 hP hD hS
  have hL1 : ∀ (n : Nat) (i_3 : Int32) (i_4 : Nat → Int32), lrun (fun (z : Int32 × (Nat → Int32)) => fX8_dropNow_s17 z.1 z.2) n (i_3, i_4) = some w1 → ∀ (H : Heap) (locs : List Loc), va_P D cls9 (wM cI ad states whyKind whyOrder many wide textLong spot readColumns i_4 past refused work kept chosen across sum one two base quotients text numbers entries before) H → va_D A (wM cI ad states whyKind whyOrder many wide textLong spot readColumns i_4 past refused work kept chosen across sum one two base quotients text numbers entries before) → va_S A s.heap H locs → ∀ (ls : Array Slot), lv_has ls 3 [(0, .ref (ad 0)), (2, .int i_3)] → W p l e rm_X8_dropNow s m args below meth c H locs 0 0 Q (F0 m 17 ls []) := by
    intro n
    induction n with
    | zero => intro i_3 i_4 h; cases h
    | succ n ih1 =>
      intro i_3 i_4 hr1 H locs hP hD hS ls hl
      obtain ⟨k, v1, hk, hr1, ht1, hv1⟩ := lrun_s hr1
      cases hk
      have hr1 : fX8_dropNow_s17 i_3 i_4 = some v1 := hr1
      unfold fX8_dropNow_s17 at hr1
      refine lv_iload_n hx hb dX8_dropNow_17 rfl (lv_at hl 1 rfl) ?_
      refine lv_aload_n hx hb dX8_dropNow_18 rfl (lv_at hl 0 rfl) ?_
      obtain ⟨v_7, hq_6, hk⟩ := bd1_s hr1
      obtain ⟨r_5, rfl⟩ : ∃ y, y = v_7 := ⟨_, rfl⟩
      have hr1 := hk _ rfl
      refine callIA (gV (rest := [.int i_3]) ⟨hx, hb, hml, hown, hts⟩ hG hP hD 0 8 rfl rfl (mtX8_rows l D cI cB cR ad H.size states whyKind whyOrder many wide textLong spot readColumns i_4 past refused work kept chosen across sum one two base quotients text numbers entries before r_5 hq_6) (cwV 0 hts gX8_dropNow_X8_rows rfl rfl rfl ⟨rfl, hd_X8_rows⟩ ⟨Nat.le_of_ble_eq_true rfl, Nat.le_of_ble_eq_true rfl⟩) rfl hl.1 rfl (Nat.le_of_ble_eq_true rfl) dX8_dropNow_19) hD hS hA (fun H locs hP hD hS => ?_)
      have hP : va_P D cls9 (wM cI ad states whyKind whyOrder many wide textLong spot readColumns i_4 past refused work kept chosen across sum one two base quotients text numbers entries before) H := hP
      have hD : va_D A (wM cI ad states whyKind whyOrder many wide textLong spot readColumns i_4 past refused work kept chosen across sum one two base quotients text numbers entries before) := hD
      refine lv_iconst (v := 0) hx hb dX8_dropNow_22 (by decide) ?_
      refine lv_iconst (v := 0) hx hb dX8_dropNow_23 (by decide) ?_
      refine callI0 (gS (rest := [.int i_3]) ⟨hx, hb, hml, hown, hts⟩ hG vaP0 (vaD0 (A := A)) (mtX8_place l D cI cB cR H.size r_5 (0 : Int32) (0 : Int32) _ rfl) (va_cwS 3 hts gX8_dropNow_X8_place rfl rfl rfl hd_X8_place ⟨Nat.le_of_ble_eq_true rfl, Nat.le_of_ble_eq_true rfl⟩) rfl hl.1 rfl (Nat.le_of_ble_eq_true rfl) dX8_dropNow_24) hP hS hA (fun H locs hP hS => ?_)
      refine lv_icmp_ge (tgt := 51) hx hb dX8_dropNow_27 (by decide) (fun c_8 => ?_) (fun c_8 => ?_)
      · have hr1 := it_t c_8 hr1
        exact hX1 i_4 (hv1 _ (Option.some.inj hr1).symm).symm H locs hP hD hS ls (lv_sub hl [0] rfl)
      · have hr1 := it_f c_8 hr1
        refine lv_aload_n hx hb dX8_dropNow_30 rfl (lv_at hl 0 rfl) ?_
        refine va_get (D := D) (ci := 8) (v := .ref (ad 1)) (C := RX8) (T := TX8) (N := 24) hx hb hts iX8_dropNow_X8 hown hG.1 hP 0 rfl rfl 0 (by decide) (hts _ fX8_dropNow_1) (fun _ h9 => h9) rfl dX8_dropNow_31 ?_
        refine lv_iload_n hx hb dX8_dropNow_34 rfl (lv_at hl 1 rfl) ?_
        refine lv_aload_n hx hb dX8_dropNow_35 rfl (lv_at hl 0 rfl) ?_
        refine va_get (D := D) (ci := 8) (v := .ref (ad 1)) (C := RX8) (T := TX8) (N := 24) hx hb hts iX8_dropNow_X8 hown hG.1 hP 0 rfl rfl 0 (by decide) (hts _ fX8_dropNow_1) (fun _ h9 => h9) rfl dX8_dropNow_36 ?_
        refine lv_iload_n hx hb dX8_dropNow_39 rfl (lv_at hl 1 rfl) ?_
        refine lv_bipush (v := 21) hx hb dX8_dropNow_40 (by decide) ?_
        refine lv_iadd hx hb dX8_dropNow_42 ?_
        obtain ⟨h_9, hr1⟩ := gd_s hr1
        refine va_iald hx hb hG.1 hP 1 0 rfl rfl h_9 dX8_dropNow_43 ?_
        obtain ⟨h_10, hr1⟩ := gd_s hr1
        refine va_iast hx hb hG.1 hP hD hS 1 0 rfl rfl h_10 dX8_dropNow_44 (fun H locs hP hD hS => ?_)
        have hP : va_P D cls9 (wM cI ad states whyKind whyOrder many wide textLong spot readColumns (upd i_4 i_3.toNatClampNeg (i_4 (i_3 + (21 : Int32)).toNatClampNeg)) past refused work kept chosen across sum one two base quotients text numbers entries before) H := hP
        have hD : va_D A (wM cI ad states whyKind whyOrder many wide textLong spot readColumns (upd i_4 i_3.toNatClampNeg (i_4 (i_3 + (21 : Int32)).toNatClampNeg)) past refused work kept chosen across sum one two base quotients text numbers entries before) := hD
        refine lv_iinc (v := (i_3 + 1)) (lv' := [(2, .int (i_3 + 1)), (0, .ref (ad 0))]) hx hb dX8_dropNow_45 hl (k := 1) rfl rfl (by decide) rfl (fun ls hl => ?_)
        refine lv_goto (tgt := 17) hx hb dX8_dropNow_48 (by decide) ?_
        exact ih1 (i_3 + 1) (upd i_4 i_3.toNatClampNeg (i_4 (i_3 + (21 : Int32)).toNatClampNeg)) (ht1 _ (Option.some.inj hr1).symm) H locs hP hD hS ls (lv_sub hl [1, 0] rfl)
  obtain ⟨n1, hn1⟩ := Lp_s hw1
  exact hL1 n1 (fX8_place a0 (0 : Int32) (0 : Int32)) (upd all (2 : Int32).toNatClampNeg ((all (2 : Int32).toNatClampNeg) - (1 : Int32))) hn1 H locs hP hD hS ls (lv_sub hl [1, 0] rfl)
abbrev rm_X8_drops : Room := { frames := 2, cells := 0, slots := 0, locals := 46 }
set_option maxHeartbeats 4000000 in
set_option maxRecDepth 100000 in
theorem mtX8_drops (l : Launch) (D : va_G) (cI cB cR : ClassId) (ad : Nat → Nat) (sz : Nat) (states : Int32) (whyKind : Int32) (whyOrder : Int32) (many : Int32) (wide : Int32) (textLong : Int32) (spot : Int32) (readColumns : Int32) (all : Nat → Int32) (past : Nat → Int32) (refused : Nat → Int32) (work : Nat → Int32) (kept : Nat → Int32) (chosen : Nat → Int32) (across : Nat → Int32) (sum : Nat → Int32) (one : Nat → Int32) (two : Nat → Int32) (base : Nat → Int32) (quotients : Nat → Int32) (text : Nat → Int32) (numbers : Nat → Int32) (entries : Nat → Int32) (before : Nat → Int32) (a0 : Int32) (res : Int32 × Int32 × (Nat → Int32) × (Nat → Int32) × (Nat → Int32)) (hf : fX8_drops states all past refused a0 = some res) : Met l yX8_drops wsX8_drops rm_X8_drops (qP D cI cB cR [.ref (ad 0), .int a0] (wM cI ad states whyKind whyOrder many wide textLong spot readColumns all past refused work kept chosen across sum one two base quotients text numbers entries before) sz) (qI D res.1 (wM cI ad states whyKind whyOrder many wide textLong spot readColumns all past refused work kept chosen across sum one two base quotients text numbers entries before) (wM cI ad res.2.1 whyKind whyOrder many wide textLong spot readColumns res.2.2.1 res.2.2.2.1 res.2.2.2.2 work kept chosen across sum one two base quotients text numbers entries before) sz) 0 0 (va_A (wM cI ad states whyKind whyOrder many wide textLong spot readColumns all past refused work kept chosen across sum one two base quotients text numbers entries before) sz) := by
  refine entI (plainFor_of_name (by decide)) rfl (Nat.le_of_ble_eq_true rfl) ?_
  intro p e s m args below meth c Q A ls S hG hP hD hA hl hE
  obtain ⟨hx, hb, hml, hown, hts⟩ := S
  have hown : s.vm.findClass RX8 = some m.cls := hown
  have hS : va_S A s.heap s.heap [] := va_S.rf
  have hl : lv_has ls 2 [(0, .ref (ad 0)), (1, .int a0)] := hl
  have hq := hf
  unfold fX8_drops at hq
  obtain ⟨H, hH⟩ : ∃ H, H = s.heap := ⟨_, rfl⟩
  obtain ⟨locs, hlo⟩ : ∃ L : List Loc, L = [] := ⟨_, rfl⟩
  have hP : va_P D cls9 (wM cI ad states whyKind whyOrder many wide textLong spot readColumns all past refused work kept chosen across sum one two base quotients text numbers entries before) H := hH ▸ hP
  have hS : va_S A s.heap H locs := by rw [hH, hlo]; exact hS
  suffices hg : W p l e rm_X8_drops s m args below meth c H locs 0 0 Q (F0 m 0 ls []) by rw [hH, hlo] at hg; exact hg
  refine lv_aload_n hx hb dX8_drops_0 rfl (lv_at hl 0 rfl) ?_
  refine lv_iload_n hx hb dX8_drops_1 rfl (lv_at hl 1 rfl) ?_
  obtain ⟨v_3, hq_2, hk⟩ := bd1_s hq
  obtain ⟨r_1, rfl⟩ : ∃ y, y = v_3 := ⟨_, rfl⟩
  have hq := hk _ rfl
  refine callZA (gV (rest := []) ⟨hx, hb, hml, hown, hts⟩ hG hP hD 0 8 rfl rfl (mtX8_isRow l D cI cB cR ad H.size states whyKind whyOrder many wide textLong spot readColumns all past refused work kept chosen across sum one two base quotients text numbers entries before a0 r_1 hq_2) (cwV 1 hts gX8_drops_X8_isRow rfl rfl rfl ⟨rfl, hd_X8_isRow⟩ ⟨Nat.le_of_ble_eq_true rfl, Nat.le_of_ble_eq_true rfl⟩) rfl hl.1 rfl (Nat.le_of_ble_eq_true rfl) dX8_drops_2) hD hS hA (fun H locs z_4 hP hD hS => ?_)
  have hP : va_P D cls9 (wM cI ad states whyKind whyOrder many wide textLong spot readColumns all past refused work kept chosen across sum one two base quotients text numbers entries before) H := hP
  have hD : va_D A (wM cI ad states whyKind whyOrder many wide textLong spot readColumns all past refused work kept chosen across sum one two base quotients text numbers entries before) := hD
  refine lv_if_ne (tgt := 15) hx hb dX8_drops_5 (by decide) (fun c_5 => ?_) (fun c_5 => ?_)
  · have hq := it_f c_5 hq
    refine lv_aload_n hx hb dX8_drops_15 rfl (lv_at hl 0 rfl) ?_
    obtain ⟨v_9, hq_8, hk⟩ := bd2_s hq
    obtain ⟨u_6, u_7⟩ := v_9
    have hq := hk _ _ rfl
    refine callVA (gV (rest := []) ⟨hx, hb, hml, hown, hts⟩ hG hP hD 0 8 rfl rfl (mtX8_keep l D cI cB cR ad H.size states whyKind whyOrder many wide textLong spot readColumns all past refused work kept chosen across sum one two base quotients text numbers entries before (u_6, u_7) hq_8) (cwV 0 hts gX8_drops_X8_keep rfl rfl rfl ⟨rfl, hd_X8_keep⟩ ⟨Nat.le_of_ble_eq_true rfl, Nat.le_of_ble_eq_true rfl⟩) rfl hl.1 rfl (Nat.le_of_ble_eq_true rfl) dX8_drops_16) hD hS hA (fun H locs hP hD hS => ?_)
    have hP : va_P D cls9 (wM cI ad u_6 whyKind whyOrder many wide textLong spot readColumns all u_7 refused work kept chosen across sum one two base quotients text numbers entries before) H := hP
    have hD : va_D A (wM cI ad u_6 whyKind whyOrder many wide textLong spot readColumns all u_7 refused work kept chosen across sum one two base quotients text numbers entries before) := hD
    refine lv_aload_n hx hb dX8_drops_19 rfl (lv_at hl 0 rfl) ?_
    refine lv_iload_n hx hb dX8_drops_20 rfl (lv_at hl 1 rfl) ?_
    obtain ⟨v_13, hq_12, hk⟩ := bd2_s hq
    obtain ⟨r_10, u_11⟩ := v_13
    have hq := hk _ _ rfl
    refine callIA (gV (rest := []) ⟨hx, hb, hml, hown, hts⟩ hG hP hD 0 8 rfl rfl (mtX8_dropNow l D cI cB cR ad H.size u_6 whyKind whyOrder many wide textLong spot readColumns all u_7 refused work kept chosen across sum one two base quotients text numbers entries before a0 (r_10, u_11) hq_12) (cwV 1 hts gX8_drops_X8_dropNow rfl rfl rfl ⟨rfl, hd_X8_dropNow⟩ ⟨Nat.le_of_ble_eq_true rfl, Nat.le_of_ble_eq_true rfl⟩) rfl hl.1 rfl (Nat.le_of_ble_eq_true rfl) dX8_drops_21) hD hS hA (fun H locs hP hD hS => ?_)
    have hP : va_P D cls9 (wM cI ad u_6 whyKind whyOrder many wide textLong spot readColumns u_11 u_7 refused work kept chosen across sum one two base quotients text numbers entries before) H := hP
    have hD : va_D A (wM cI ad u_6 whyKind whyOrder many wide textLong spot readColumns u_11 u_7 refused work kept chosen across sum one two base quotients text numbers entries before) := hD
    have he := Option.some.inj hq
    subst he
    exact hE H locs _ _ _ rfl dX8_drops_24 hP hD hS
  · have hq := it_t c_5 hq
    refine lv_aload_n hx hb dX8_drops_8 rfl (lv_at hl 0 rfl) ?_
    refine lv_bipush (v := -2) hx hb dX8_drops_9 (by decide) ?_
    obtain ⟨v_17, hq_16, hk⟩ := bd2_s hq
    obtain ⟨r_14, u_15⟩ := v_17
    have hq := hk _ _ rfl
    refine callIA (gV (rest := []) ⟨hx, hb, hml, hown, hts⟩ hG hP hD 0 8 rfl rfl (mtX8_refuses l D cI cB cR ad H.size states whyKind whyOrder many wide textLong spot readColumns all past refused work kept chosen across sum one two base quotients text numbers entries before (-2 : Int32) (r_14, u_15) hq_16) (cwV 1 hts gX8_drops_X8_refuses rfl rfl rfl ⟨rfl, hd_X8_refuses⟩ ⟨Nat.le_of_ble_eq_true rfl, Nat.le_of_ble_eq_true rfl⟩) rfl hl.1 rfl (Nat.le_of_ble_eq_true rfl) dX8_drops_11) hD hS hA (fun H locs hP hD hS => ?_)
    have hP : va_P D cls9 (wM cI ad states whyKind whyOrder many wide textLong spot readColumns all past u_15 work kept chosen across sum one two base quotients text numbers entries before) H := hP
    have hD : va_D A (wM cI ad states whyKind whyOrder many wide textLong spot readColumns all past u_15 work kept chosen across sum one two base quotients text numbers entries before) := hD
    have he := Option.some.inj hq
    subst he
    exact hE H locs _ _ _ rfl dX8_drops_14 hP hD hS
abbrev rm_X8_canStep : Room := { frames := 3, cells := 0, slots := 0, locals := 68 }
theorem fX8_canStep_0 : Cond.constantLong RX8 124 (6) ∈ wsX8_canStep := (List.mem_cons_of_mem _ (List.mem_append_left _ (List.mem_append_left _ (List.mem_of_getElem? (i := 0) rfl))))
set_option maxHeartbeats 4000000 in
set_option maxRecDepth 100000 in
theorem mtX8_canStep (l : Launch) (D : va_G) (cI cB cR : ClassId) (ad : Nat → Nat) (sz : Nat) (states : Int32) (whyKind : Int32) (whyOrder : Int32) (many : Int32) (wide : Int32) (textLong : Int32) (spot : Int32) (readColumns : Int32) (all : Nat → Int32) (past : Nat → Int32) (refused : Nat → Int32) (work : Nat → Int32) (kept : Nat → Int32) (chosen : Nat → Int32) (across : Nat → Int32) (sum : Nat → Int32) (one : Nat → Int32) (two : Nat → Int32) (base : Nat → Int32) (quotients : Nat → Int32) (text : Nat → Int32) (numbers : Nat → Int32) (entries : Nat → Int32) (before : Nat → Int32) (a0 : Int32) (a1 : Int32) (a2 : Int32) (a3 : Int32) (res : Int32) (hf : fX8_canStep all a0 a1 a2 a3 = some res) : Met l yX8_canStep wsX8_canStep rm_X8_canStep (qP D cI cB cR [.ref (ad 0), .int a0, .int a1, .int a2, .int a3] (wM cI ad states whyKind whyOrder many wide textLong spot readColumns all past refused work kept chosen across sum one two base quotients text numbers entries before) sz) (qI D res (wM cI ad states whyKind whyOrder many wide textLong spot readColumns all past refused work kept chosen across sum one two base quotients text numbers entries before) (wM cI ad states whyKind whyOrder many wide textLong spot readColumns all past refused work kept chosen across sum one two base quotients text numbers entries before) sz) 0 0 (va_A (wM cI ad states whyKind whyOrder many wide textLong spot readColumns all past refused work kept chosen across sum one two base quotients text numbers entries before) sz) := by
  refine entI (plainFor_of_name (by decide)) rfl (Nat.le_of_ble_eq_true rfl) ?_
  intro p e s m args below meth c Q A ls S hG hP hD hA hl hE
  obtain ⟨hx, hb, hml, hown, hts⟩ := S
  have hown : s.vm.findClass RX8 = some m.cls := hown
  have hS : va_S A s.heap s.heap [] := va_S.rf
  have hl : lv_has ls 5 [(0, .ref (ad 0)), (1, .int a0), (2, .int a1), (3, .int a2), (4, .int a3)] := hl
  have hq := hf
  unfold fX8_canStep at hq
  obtain ⟨H, hH⟩ : ∃ H, H = s.heap := ⟨_, rfl⟩
  obtain ⟨locs, hlo⟩ : ∃ L : List Loc, L = [] := ⟨_, rfl⟩
  have hP : va_P D cls9 (wM cI ad states whyKind whyOrder many wide textLong spot readColumns all past refused work kept chosen across sum one two base quotients text numbers entries before) H := hH ▸ hP
  have hS : va_S A s.heap H locs := by rw [hH, hlo]; exact hS
  suffices hg : W p l e rm_X8_canStep s m args below meth c H locs 0 0 Q (F0 m 0 ls []) by rw [hH, hlo] at hg; exact hg
  refine lv_aload_n hx hb dX8_canStep_0 rfl (lv_at hl 0 rfl) ?_
  refine lv_iload_n hx hb dX8_canStep_1 rfl (lv_at hl 1 rfl) ?_
  obtain ⟨v_3, hq_2, hk⟩ := bd1_s hq
  obtain ⟨r_1, rfl⟩ : ∃ y, y = v_3 := ⟨_, rfl⟩
  have hq := hk _ rfl
  refine callZA (gV (rest := []) ⟨hx, hb, hml, hown, hts⟩ hG hP hD 0 8 rfl rfl (mtX8_isRow l D cI cB cR ad H.size states whyKind whyOrder many wide textLong spot readColumns all past refused work kept chosen across sum one two base quotients text numbers entries before a0 r_1 hq_2) (cwV 1 hts gX8_canStep_X8_isRow rfl rfl rfl ⟨rfl, hd_X8_isRow⟩ ⟨Nat.le_of_ble_eq_true rfl, Nat.le_of_ble_eq_true rfl⟩) rfl hl.1 rfl (Nat.le_of_ble_eq_true rfl) dX8_canStep_2) hD hS hA (fun H locs z_4 hP hD hS => ?_)
  have hP : va_P D cls9 (wM cI ad states whyKind whyOrder many wide textLong spot readColumns all past refused work kept chosen across sum one two base quotients text numbers entries before) H := hP
  have hD : va_D A (wM cI ad states whyKind whyOrder many wide textLong spot readColumns all past refused work kept chosen across sum one two base quotients text numbers entries before) := hD
  refine lv_if_eq (tgt := 46) hx hb dX8_canStep_5 (by decide) (fun c_5 => ?_) (fun c_5 => ?_)
  · have hq := it_t c_5 hq
    refine lv_bipush (v := -2) hx hb dX8_canStep_46 (by decide) ?_
    have he := Option.some.inj hq
    subst he
    exact hE H locs _ _ _ rfl dX8_canStep_48 hP hD hS
  · have hq := it_f c_5 hq
    refine lv_aload_n hx hb dX8_canStep_8 rfl (lv_at hl 0 rfl) ?_
    refine lv_iload_n hx hb dX8_canStep_9 rfl (lv_at hl 2 rfl) ?_
    obtain ⟨v_8, hq_7, hk⟩ := bd1_s hq
    obtain ⟨r_6, rfl⟩ : ∃ y, y = v_8 := ⟨_, rfl⟩
    have hq := hk _ rfl
    refine callZA (gV (rest := []) ⟨hx, hb, hml, hown, hts⟩ hG hP hD 0 8 rfl rfl (mtX8_isRow l D cI cB cR ad H.size states whyKind whyOrder many wide textLong spot readColumns all past refused work kept chosen across sum one two base quotients text numbers entries before a1 r_6 hq_7) (cwV 1 hts gX8_canStep_X8_isRow rfl rfl rfl ⟨rfl, hd_X8_isRow⟩ ⟨Nat.le_of_ble_eq_true rfl, Nat.le_of_ble_eq_true rfl⟩) rfl hl.1 rfl (Nat.le_of_ble_eq_true rfl) dX8_canStep_10) hD hS hA (fun H locs z_9 hP hD hS => ?_)
    have hP : va_P D cls9 (wM cI ad states whyKind whyOrder many wide textLong spot readColumns all past refused work kept chosen across sum one two base quotients text numbers entries before) H := hP
    have hD : va_D A (wM cI ad states whyKind whyOrder many wide textLong spot readColumns all past refused work kept chosen across sum one two base quotients text numbers entries before) := hD
    refine lv_if_eq (tgt := 46) hx hb dX8_canStep_13 (by decide) (fun c_10 => ?_) (fun c_10 => ?_)
    · have hq := it_t c_10 hq
      refine lv_bipush (v := -2) hx hb dX8_canStep_46 (by decide) ?_
      have he := Option.some.inj hq
      subst he
      exact hE H locs _ _ _ rfl dX8_canStep_48 hP hD hS
    · have hq := it_f c_10 hq
      refine lv_iload_n hx hb dX8_canStep_16 rfl (lv_at hl 1 rfl) ?_
      refine lv_iload_n hx hb dX8_canStep_17 rfl (lv_at hl 2 rfl) ?_
      refine lv_icmp_eq (tgt := 46) hx hb dX8_canStep_18 (by decide) (fun c_11 => ?_) (fun c_11 => ?_)
      · have hq := it_t c_11 hq
        refine lv_bipush (v := -2) hx hb dX8_canStep_46 (by decide) ?_
        have he := Option.some.inj hq
        subst he
        exact hE H locs _ _ _ rfl dX8_canStep_48 hP hD hS
      · have hq := it_f c_11 hq
        refine lv_iload_n hx hb dX8_canStep_21 rfl (lv_at hl 3 rfl) ?_
        refine lv_i2l (v := (a2.toInt64)) hx hb dX8_canStep_22 rfl ?_
        refine lv_lconst (v := 0) hx hb dX8_canStep_23 (by decide) ?_
        refine lv_ldc2 (v := 6) hx hb hown (hts _ fX8_canStep_0) dX8_canStep_24 ?_
        refine callZ0 (gS (rest := []) ⟨hx, hb, hml, hown, hts⟩ hG vaP0 (vaD0 (A := A)) (mtX8_in l D cI cB cR H.size (a2.toInt64) (0 : Int64) (6 : Int64) _ rfl) (va_cwS 3 hts gX8_canStep_X8_in rfl rfl rfl hd_X8_in ⟨Nat.le_of_ble_eq_true rfl, Nat.le_of_ble_eq_true rfl⟩) rfl hl.1 rfl (Nat.le_of_ble_eq_true rfl) dX8_canStep_27) hP hS hA (fun H locs z_12 hP hS => ?_)
        refine lv_if_eq (tgt := 46) hx hb dX8_canStep_30 (by decide) (fun c_13 => ?_) (fun c_13 => ?_)
        · have hq := it_t c_13 hq
          refine lv_bipush (v := -2) hx hb dX8_canStep_46 (by decide) ?_
          have he := Option.some.inj hq
          subst he
          exact hE H locs _ _ _ rfl dX8_canStep_48 hP hD hS
        · have hq := it_f c_13 hq
          refine lv_iload hx hb dX8_canStep_33 (lv_at hl 4 rfl) ?_
          refine lv_i2l (v := (a3.toInt64)) hx hb dX8_canStep_35 rfl ?_
          refine lv_lconst (v := 0) hx hb dX8_canStep_36 (by decide) ?_
          refine lv_ldc2 (v := 6) hx hb hown (hts _ fX8_canStep_0) dX8_canStep_37 ?_
          refine callZ0 (gS (rest := []) ⟨hx, hb, hml, hown, hts⟩ hG vaP0 (vaD0 (A := A)) (mtX8_in l D cI cB cR H.size (a3.toInt64) (0 : Int64) (6 : Int64) _ rfl) (va_cwS 3 hts gX8_canStep_X8_in rfl rfl rfl hd_X8_in ⟨Nat.le_of_ble_eq_true rfl, Nat.le_of_ble_eq_true rfl⟩) rfl hl.1 rfl (Nat.le_of_ble_eq_true rfl) dX8_canStep_40) hP hS hA (fun H locs z_14 hP hS => ?_)
          refine lv_if_ne (tgt := 49) hx hb dX8_canStep_43 (by decide) (fun c_15 => ?_) (fun c_15 => ?_)
          · have hq := it_f c_15 hq
            refine lv_iload_n hx hb dX8_canStep_49 rfl (lv_at hl 3 rfl) ?_
            refine lv_aload_n hx hb dX8_canStep_50 rfl (lv_at hl 0 rfl) ?_
            obtain ⟨v_18, hq_17, hk⟩ := bd1_s hq
            obtain ⟨r_16, rfl⟩ : ∃ y, y = v_18 := ⟨_, rfl⟩
            have hq := hk _ rfl
            refine callIA (gV (rest := [.int a2]) ⟨hx, hb, hml, hown, hts⟩ hG hP hD 0 8 rfl rfl (mtX8_modulus l D cI cB cR ad H.size states whyKind whyOrder many wide textLong spot readColumns all past refused work kept chosen across sum one two base quotients text numbers entries before r_16 hq_17) (cwV 0 hts gX8_canStep_X8_modulus rfl rfl rfl ⟨rfl, hd_X8_modulus⟩ ⟨Nat.le_of_ble_eq_true rfl, Nat.le_of_ble_eq_true rfl⟩) rfl hl.1 rfl (Nat.le_of_ble_eq_true rfl) dX8_canStep_51) hD hS hA (fun H locs hP hD hS => ?_)
            have hP : va_P D cls9 (wM cI ad states whyKind whyOrder many wide textLong spot readColumns all past refused work kept chosen across sum one two base quotients text numbers entries before) H := hP
            have hD : va_D A (wM cI ad states whyKind whyOrder many wide textLong spot readColumns all past refused work kept chosen across sum one two base quotients text numbers entries before) := hD
            obtain ⟨h_19, hq⟩ := gd_s hq
            refine lv_irem hx hb dX8_canStep_54 h_19 ?_
            refine lv_asi (y := (rem32 a2 r_16)) rfl ?_
            refine lv_if_eq (tgt := 84) hx hb dX8_canStep_55 (by decide) (fun c_20 => ?_) (fun c_20 => ?_)
            · have hq := it_t c_20 hq
              refine lv_iconst (v := 0) hx hb dX8_canStep_84 (by decide) ?_
              have he := Option.some.inj hq
              subst he
              exact hE H locs _ _ _ rfl dX8_canStep_85 hP hD hS
            · have hq := it_f c_20 hq
              refine lv_aload_n hx hb dX8_canStep_58 rfl (lv_at hl 0 rfl) ?_
              refine lv_iload_n hx hb dX8_canStep_59 rfl (lv_at hl 2 rfl) ?_
              obtain ⟨v_23, hq_22, hk⟩ := bd1_s hq
              obtain ⟨r_21, rfl⟩ : ∃ y, y = v_23 := ⟨_, rfl⟩
              have hq := hk _ rfl
              refine callIA (gV (rest := []) ⟨hx, hb, hml, hown, hts⟩ hG hP hD 0 8 rfl rfl (mtX8_degree l D cI cB cR ad H.size states whyKind whyOrder many wide textLong spot readColumns all past refused work kept chosen across sum one two base quotients text numbers entries before a1 r_21 hq_22) (cwV 1 hts gX8_canStep_X8_degree rfl rfl rfl ⟨rfl, hd_X8_degree⟩ ⟨Nat.le_of_ble_eq_true rfl, Nat.le_of_ble_eq_true rfl⟩) rfl hl.1 rfl (Nat.le_of_ble_eq_true rfl) dX8_canStep_60) hD hS hA (fun H locs hP hD hS => ?_)
              have hP : va_P D cls9 (wM cI ad states whyKind whyOrder many wide textLong spot readColumns all past refused work kept chosen across sum one two base quotients text numbers entries before) H := hP
              have hD : va_D A (wM cI ad states whyKind whyOrder many wide textLong spot readColumns all past refused work kept chosen across sum one two base quotients text numbers entries before) := hD
              refine lv_if_lt (tgt := 84) hx hb dX8_canStep_63 (by decide) (fun c_24 => ?_) (fun c_24 => ?_)
              · have hq := it_t c_24 hq
                refine lv_iconst (v := 0) hx hb dX8_canStep_84 (by decide) ?_
                have he := Option.some.inj hq
                subst he
                exact hE H locs _ _ _ rfl dX8_canStep_85 hP hD hS
              · have hq := it_f c_24 hq
                refine lv_aload_n hx hb dX8_canStep_66 rfl (lv_at hl 0 rfl) ?_
                refine lv_iload_n hx hb dX8_canStep_67 rfl (lv_at hl 2 rfl) ?_
                obtain ⟨v_27, hq_26, hk⟩ := bd1_s hq
                obtain ⟨r_25, rfl⟩ : ∃ y, y = v_27 := ⟨_, rfl⟩
                have hq := hk _ rfl
                refine callIA (gV (rest := []) ⟨hx, hb, hml, hown, hts⟩ hG hP hD 0 8 rfl rfl (mtX8_degree l D cI cB cR ad H.size states whyKind whyOrder many wide textLong spot readColumns all past refused work kept chosen across sum one two base quotients text numbers entries before a1 r_25 hq_26) (cwV 1 hts gX8_canStep_X8_degree rfl rfl rfl ⟨rfl, hd_X8_degree⟩ ⟨Nat.le_of_ble_eq_true rfl, Nat.le_of_ble_eq_true rfl⟩) rfl hl.1 rfl (Nat.le_of_ble_eq_true rfl) dX8_canStep_68) hD hS hA (fun H locs hP hD hS => ?_)
                have hP : va_P D cls9 (wM cI ad states whyKind whyOrder many wide textLong spot readColumns all past refused work kept chosen across sum one two base quotients text numbers entries before) H := hP
                have hD : va_D A (wM cI ad states whyKind whyOrder many wide textLong spot readColumns all past refused work kept chosen across sum one two base quotients text numbers entries before) := hD
                refine lv_iload hx hb dX8_canStep_71 (lv_at hl 4 rfl) ?_
                refine lv_iadd hx hb dX8_canStep_73 ?_
                refine lv_bipush (v := 6) hx hb dX8_canStep_74 (by decide) ?_
                refine lv_icmp_le (tgt := 84) hx hb dX8_canStep_76 (by decide) (fun c_28 => ?_) (fun c_28 => ?_)
                · have hq := it_t c_28 hq
                  refine lv_iconst (v := 0) hx hb dX8_canStep_84 (by decide) ?_
                  have he := Option.some.inj hq
                  subst he
                  exact hE H locs _ _ _ rfl dX8_canStep_85 hP hD hS
                · have hq := it_f c_28 hq
                  refine lv_bipush (v := -4) hx hb dX8_canStep_79 (by decide) ?_
                  refine lv_goto (tgt := 85) hx hb dX8_canStep_81 (by decide) ?_
                  have he := Option.some.inj hq
                  subst he
                  exact hE H locs _ _ _ rfl dX8_canStep_85 hP hD hS
          · have hq := it_t c_15 hq
            refine lv_bipush (v := -2) hx hb dX8_canStep_46 (by decide) ?_
            have he := Option.some.inj hq
            subst he
            exact hE H locs _ _ _ rfl dX8_canStep_48 hP hD hS
