abbrev rm_X2_buildPade : Room := { frames := 6, cells := 0, slots := 0, locals := 144 }
theorem iX2_buildPade_X2 : ∀ w ∈ wsX20, w ∈ wsX2_buildPade := fun _ h => (List.mem_cons_of_mem _ (List.mem_append_left _ (List.mem_append_left _ (List.mem_append_left _ (List.mem_append_right _ h)))))
theorem fX2_buildPade_1 : Cond.fieldLink RX2 14 "PopovRows$Popov" "list" "LPopovRows$Rows;" ∈ wsX2_buildPade := (List.mem_cons_of_mem _ (List.mem_append_left _ (List.mem_append_left _ (List.mem_append_left _ (List.mem_append_left _ (List.mem_append_left _ (List.mem_of_getElem? (i := 0) rfl)))))))
theorem iX2_buildPade_X3 : ∀ w ∈ wsX30, w ∈ wsX2_buildPade := fun _ h => (List.mem_cons_of_mem _ (List.mem_append_left _ (List.mem_append_left _ (List.mem_append_right _ h))))
theorem fX2_buildPade_3 : Cond.fieldLink RX2 37 "PopovRows$Rows" "p" "I" ∈ wsX2_buildPade := (List.mem_cons_of_mem _ (List.mem_append_left _ (List.mem_append_left _ (List.mem_append_left _ (List.mem_append_left _ (List.mem_append_left _ (List.mem_of_getElem? (i := 1) rfl)))))))
set_option maxHeartbeats 4000000 in
set_option maxRecDepth 100000 in
theorem mtX2_buildPade (l : Launch) (D : va_G) (cI cB cR : ClassId) (ah : Nat) (lah : Nat) (lan : Nat) (fah : Nat) (fan : Nat) (sah : Nat) (szah : Nat) (szan : Nat) (yah : Nat) (yan : Nat) (qah : Nat) (qan : Nat) (sz : Nat) (lpp : Int32) (lcolumns : Int32) (lcount : Int32) (lnum : Nat → Int32) (fpp : Int32) (fcolumns : Int32) (fcount : Int32) (fnum : Nat → Int32) (starget : Int32) (ssource : Int32) (snumber : Int32) (spower : Int32) (szcount : Int32) (szplaces : Nat → Int32) (ycount : Int32) (yplaces : Nat → Int32) (qL : Nat) (qroom : Int32) (qwidth : Int32) (qpowers : Int32) (qpp : Int32) (qcolumns : Int32) (qcount : Int32) (qnum : Nat → Int32) (a1 : Int32) (a2 : Int32) (a3 : Int32) (res : Int32 × Int32 × Int32 × (Nat → Int32) × Int32 × Int32 × Int32 × Int32 × Int32 × (Nat → Int32) × Int32 × (Nat → Int32)) (hf : fX2_buildPade lnum starget ssource snumber spower szcount szplaces ycount yplaces qL qroom qwidth qpowers qpp qnum a1 a2 a3 = some res) : Met l yX2_buildPade wsX2_buildPade rm_X2_buildPade (qP D cI cB cR [.ref ah, .ref qah, .int a1, .int a2, .int a3] (((ah, .inr (2, [.ref lah, .ref fah, .ref sah, .ref yah])) :: ((wR cI lah lan 1000 (5 : Int32) (8 : Int32) (25 : Int32) lpp lcolumns lcount lnum) ++ (wR cI fah fan 200 (1 : Int32) (8 : Int32) (25 : Int32) fpp fcolumns fcount fnum) ++ (wST cI sah szah szan starget ssource snumber spower szcount szplaces) ++ (wSH cI yah yan ycount yplaces))) ++ (wR cI qah qan qL qroom qwidth qpowers qpp qcolumns qcount qnum)) sz) (qV D (((ah, .inr (2, [.ref lah, .ref fah, .ref sah, .ref yah])) :: ((wR cI lah lan 1000 (5 : Int32) (8 : Int32) (25 : Int32) lpp lcolumns lcount lnum) ++ (wR cI fah fan 200 (1 : Int32) (8 : Int32) (25 : Int32) fpp fcolumns fcount fnum) ++ (wST cI sah szah szan starget ssource snumber spower szcount szplaces) ++ (wSH cI yah yan ycount yplaces))) ++ (wR cI qah qan qL qroom qwidth qpowers qpp qcolumns qcount qnum)) (((ah, .inr (2, [.ref lah, .ref fah, .ref sah, .ref yah])) :: ((wR cI lah lan 1000 (5 : Int32) (8 : Int32) (25 : Int32) res.1 res.2.1 res.2.2.1 res.2.2.2.1) ++ (wR cI fah fan 200 (1 : Int32) (8 : Int32) (25 : Int32) fpp fcolumns fcount fnum) ++ (wST cI sah szah szan res.2.2.2.2.1 res.2.2.2.2.2.1 res.2.2.2.2.2.2.1 res.2.2.2.2.2.2.2.1 res.2.2.2.2.2.2.2.2.1 res.2.2.2.2.2.2.2.2.2.1) ++ (wSH cI yah yan res.2.2.2.2.2.2.2.2.2.2.1 res.2.2.2.2.2.2.2.2.2.2.2))) ++ (wR cI qah qan qL qroom qwidth qpowers qpp qcolumns qcount qnum)) sz) 0 0 (va_A (((ah, .inr (2, [.ref lah, .ref fah, .ref sah, .ref yah])) :: ((wR cI lah lan 1000 (5 : Int32) (8 : Int32) (25 : Int32) lpp lcolumns lcount lnum) ++ (wR cI fah fan 200 (1 : Int32) (8 : Int32) (25 : Int32) fpp fcolumns fcount fnum) ++ (wST cI sah szah szan starget ssource snumber spower szcount szplaces) ++ (wSH cI yah yan ycount yplaces))) ++ (wR cI qah qan qL qroom qwidth qpowers qpp qcolumns qcount qnum)) sz) := by
  refine entV (plainFor_of_name (by decide)) rfl (Nat.le_of_ble_eq_true rfl) ?_
  intro p e s m args below meth c Q A ls S hG hP hD hA hl hE
  obtain ⟨hx, hb, hml, hown, hts⟩ := S
  have hown : s.vm.findClass RX2 = some m.cls := hown
  have hS : va_S A s.heap s.heap [] := va_S.rf
  have hl : lv_has ls 8 [(0, .ref ah), (1, .ref qah), (2, .int a1), (3, .int a2), (4, .int a3)] := hl
  have hq := hf
  unfold fX2_buildPade at hq
  obtain ⟨H, hH⟩ : ∃ H, H = s.heap := ⟨_, rfl⟩
  obtain ⟨locs, hlo⟩ : ∃ L : List Loc, L = [] := ⟨_, rfl⟩
  have hP : va_P D cls9 (((ah, .inr (2, [.ref lah, .ref fah, .ref sah, .ref yah])) :: ((wR cI lah lan 1000 (5 : Int32) (8 : Int32) (25 : Int32) lpp lcolumns lcount lnum) ++ (wR cI fah fan 200 (1 : Int32) (8 : Int32) (25 : Int32) fpp fcolumns fcount fnum) ++ (wST cI sah szah szan starget ssource snumber spower szcount szplaces) ++ (wSH cI yah yan ycount yplaces))) ++ (wR cI qah qan qL qroom qwidth qpowers qpp qcolumns qcount qnum)) H := hH ▸ hP
  have hS : va_S A s.heap H locs := by rw [hH, hlo]; exact hS
  suffices hg : W p l e rm_X2_buildPade s m args below meth c H locs 0 0 Q (F0 m 0 ls []) by rw [hH, hlo] at hg; exact hg
  refine lv_aload_n hx hb dX2_buildPade_0 rfl (lv_at hl 0 rfl) ?_
  refine va_get (D := D) (ci := 2) (v := .ref lah) (C := RX2) (T := TX2) (N := 4) hx hb hts iX2_buildPade_X2 hown hG.1 hP 0 rfl rfl 0 (by decide) (hts _ fX2_buildPade_1) (fun _ h9 => h9) rfl dX2_buildPade_1 ?_
  refine lv_aload_n hx hb dX2_buildPade_4 rfl (lv_at hl 1 rfl) ?_
  refine va_get (D := D) (ci := 3) (v := .int qpp) (C := RX3) (T := TX3) (N := 7) hx hb hts iX2_buildPade_X3 hown hG.1 hP 10 rfl rfl 4 (by decide) (hts _ fX2_buildPade_3) (fun _ h9 => h9) rfl dX2_buildPade_5 ?_
  refine lv_iconst (v := 2) hx hb dX2_buildPade_8 (by decide) ?_
  obtain ⟨v_5, hq_4, hk⟩ := bd3_s hq
  obtain ⟨u_1, u_2, u_3⟩ := v_5
  have hq := hk _ _ _ rfl
  have hPc : va_P D cls9 [(lah, .inr (3, [.int (5 : Int32), .int (8 : Int32), .int (25 : Int32), .ref lan, .int lpp, .int lcolumns, .int lcount])), (lan, .inl (cI, 1000, .inl lnum))] H := hPsub hP [1, 2] rfl
  have hDc : va_D A [(lah, .inr (3, [.int (5 : Int32), .int (8 : Int32), .int (25 : Int32), .ref lan, .int lpp, .int lcolumns, .int lcount])), (lan, .inl (cI, 1000, .inl lnum))] := hD.sub [1, 2] (by decide +kernel) rfl
  refine callVP (wr := [(ah, .inr (2, [.ref lah, .ref fah, .ref sah, .ref yah])), (fah, .inr (3, [.int (1 : Int32), .int (8 : Int32), .int (25 : Int32), .ref fan, .int fpp, .int fcolumns, .int fcount])), (fan, .inl (cI, 200, .inl fnum)), (sah, .inr (6, [.ref szah, .int starget, .int ssource, .int snumber, .int spower])), (szah, .inr (5, [.ref szan, .int szcount])), (szan, .inl (cI, 5, .inl szplaces)), (yah, .inr (5, [.ref yan, .int ycount])), (yan, .inl (cI, 5, .inl yplaces)), (qah, .inr (3, [.int qroom, .int qwidth, .int qpowers, .ref qan, .int qpp, .int qcolumns, .int qcount])), (qan, .inl (cI, qL, .inl qnum))]) (ws2 := (((ah, .inr (2, [.ref lah, .ref fah, .ref sah, .ref yah])) :: ((wR cI lah lan 1000 (5 : Int32) (8 : Int32) (25 : Int32) u_1 u_2 u_3 lnum) ++ (wR cI fah fan 200 (1 : Int32) (8 : Int32) (25 : Int32) fpp fcolumns fcount fnum) ++ (wST cI sah szah szan starget ssource snumber spower szcount szplaces) ++ (wSH cI yah yan ycount yplaces))) ++ (wR cI qah qan qL qroom qwidth qpowers qpp qcolumns qcount qnum))) (gV (rest := []) ⟨hx, hb, hml, hown, hts⟩ hG hPc hDc 0 3 rfl rfl (mtX3_reset l D cI cB cR lah lan H.size 1000 (5 : Int32) (8 : Int32) (25 : Int32) lpp lcolumns lcount lnum qpp (2 : Int32) (u_1, u_2, u_3) hq_4) (cwV 2 hts gX2_buildPade_X3_reset rfl rfl rfl ⟨rfl, hd_X3_reset⟩ ⟨Nat.le_of_ble_eq_true rfl, Nat.le_of_ble_eq_true rfl⟩) rfl hl.1 rfl (Nat.le_of_ble_eq_true rfl) dX2_buildPade_9) hP hD hS hA [1, 2] [0, 3, 4, 5, 6, 7, 8, 9, 10, 11] [0, 10, 11, 1, 2, 3, 4, 5, 6, 7, 8, 9] rfl rfl (by decide +kernel) (by decide +kernel) (mgN [none, some 0, some 1, none, none, none, none, none, none, none, none, none] 10 rfl (by decide +kernel) rfl) (by decide +kernel) (fun H locs hP hD hS => ?_)
  refine lv_aload_n hx hb dX2_buildPade_12 rfl (lv_at hl 0 rfl) ?_
  refine va_get (D := D) (ci := 2) (v := .ref lah) (C := RX2) (T := TX2) (N := 4) hx hb hts iX2_buildPade_X2 hown hG.1 hP 0 rfl rfl 0 (by decide) (hts _ fX2_buildPade_1) (fun _ h9 => h9) rfl dX2_buildPade_13 ?_
  obtain ⟨v_10, hq_9, hk⟩ := bd3_s hq
  obtain ⟨r_6, u_7, u_8⟩ := v_10
  have hq := hk _ _ _ rfl
  have hPc : va_P D cls9 [(lah, .inr (3, [.int (5 : Int32), .int (8 : Int32), .int (25 : Int32), .ref lan, .int u_1, .int u_2, .int u_3])), (lan, .inl (cI, 1000, .inl lnum))] H := hPsub hP [1, 2] rfl
  have hDc : va_D A [(lah, .inr (3, [.int (5 : Int32), .int (8 : Int32), .int (25 : Int32), .ref lan, .int u_1, .int u_2, .int u_3])), (lan, .inl (cI, 1000, .inl lnum))] := hD.sub [1, 2] (by decide +kernel) rfl
  refine callIP (wr := [(ah, .inr (2, [.ref lah, .ref fah, .ref sah, .ref yah])), (fah, .inr (3, [.int (1 : Int32), .int (8 : Int32), .int (25 : Int32), .ref fan, .int fpp, .int fcolumns, .int fcount])), (fan, .inl (cI, 200, .inl fnum)), (sah, .inr (6, [.ref szah, .int starget, .int ssource, .int snumber, .int spower])), (szah, .inr (5, [.ref szan, .int szcount])), (szan, .inl (cI, 5, .inl szplaces)), (yah, .inr (5, [.ref yan, .int ycount])), (yan, .inl (cI, 5, .inl yplaces)), (qah, .inr (3, [.int qroom, .int qwidth, .int qpowers, .ref qan, .int qpp, .int qcolumns, .int qcount])), (qan, .inl (cI, qL, .inl qnum))]) (ws2 := (((ah, .inr (2, [.ref lah, .ref fah, .ref sah, .ref yah])) :: ((wR cI lah lan 1000 (5 : Int32) (8 : Int32) (25 : Int32) u_1 u_2 u_7 u_8) ++ (wR cI fah fan 200 (1 : Int32) (8 : Int32) (25 : Int32) fpp fcolumns fcount fnum) ++ (wST cI sah szah szan starget ssource snumber spower szcount szplaces) ++ (wSH cI yah yan ycount yplaces))) ++ (wR cI qah qan qL qroom qwidth qpowers qpp qcolumns qcount qnum))) (gV (rest := []) ⟨hx, hb, hml, hown, hts⟩ hG hPc hDc 0 3 rfl rfl (mtX3_append l D cI cB cR lah lan H.size 1000 (5 : Int32) (8 : Int32) (25 : Int32) u_1 u_2 u_3 lnum (r_6, u_7, u_8) hq_9) (cwV 0 hts gX2_buildPade_X3_append rfl rfl rfl ⟨rfl, hd_X3_append⟩ ⟨Nat.le_of_ble_eq_true rfl, Nat.le_of_ble_eq_true rfl⟩) rfl hl.1 rfl (Nat.le_of_ble_eq_true rfl) dX2_buildPade_16) hP hD hS hA [1, 2] [0, 3, 4, 5, 6, 7, 8, 9, 10, 11] [0, 10, 11, 1, 2, 3, 4, 5, 6, 7, 8, 9] rfl rfl (by decide +kernel) (by decide +kernel) (mgN [none, some 0, some 1, none, none, none, none, none, none, none, none, none] 10 rfl (by decide +kernel) rfl) (by decide +kernel) (fun H locs hP hD hS => ?_)
  refine lv_istore (lv' := [(5, .int r_6), (0, .ref ah), (1, .ref qah), (2, .int a1), (3, .int a2), (4, .int a3)]) hx hb dX2_buildPade_19 hl (by decide) rfl (fun ls hl => ?_)
  refine lv_aload_n hx hb dX2_buildPade_21 rfl (lv_at hl 1 rfl) ?_
  refine va_get (D := D) (ci := 2) (v := .ref lah) (C := RX2) (T := TX2) (N := 4) hx hb hts iX2_buildPade_X2 hown hG.1 hP 0 rfl rfl 0 (by decide) (hts _ fX2_buildPade_1) (fun _ h9 => h9) rfl dX2_buildPade_22 ?_
  refine lv_iload hx hb dX2_buildPade_25 (lv_at hl 0 rfl) ?_
  refine lv_iconst (v := 0) hx hb dX2_buildPade_27 (by decide) ?_
  refine lv_iload hx hb dX2_buildPade_28 (lv_at hl 5 rfl) ?_
  refine lv_iconst (v := 1) hx hb dX2_buildPade_30 (by decide) ?_
  obtain ⟨v_13, hq_12, hk⟩ := bd1_s hq
  obtain ⟨u_11, rfl⟩ : ∃ y, y = v_13 := ⟨_, rfl⟩
  have hq := hk _ rfl
  have hPc : va_P D cls9 [(lah, .inr (3, [.int (5 : Int32), .int (8 : Int32), .int (25 : Int32), .ref lan, .int u_1, .int u_2, .int u_7])), (lan, .inl (cI, 1000, .inl u_8))] H := hPsub hP [1, 2] rfl
  have hDc : va_D A [(lah, .inr (3, [.int (5 : Int32), .int (8 : Int32), .int (25 : Int32), .ref lan, .int u_1, .int u_2, .int u_7])), (lan, .inl (cI, 1000, .inl u_8))] := hD.sub [1, 2] (by decide +kernel) rfl
  refine callVP (wr := [(ah, .inr (2, [.ref lah, .ref fah, .ref sah, .ref yah])), (fah, .inr (3, [.int (1 : Int32), .int (8 : Int32), .int (25 : Int32), .ref fan, .int fpp, .int fcolumns, .int fcount])), (fan, .inl (cI, 200, .inl fnum)), (sah, .inr (6, [.ref szah, .int starget, .int ssource, .int snumber, .int spower])), (szah, .inr (5, [.ref szan, .int szcount])), (szan, .inl (cI, 5, .inl szplaces)), (yah, .inr (5, [.ref yan, .int ycount])), (yan, .inl (cI, 5, .inl yplaces)), (qah, .inr (3, [.int qroom, .int qwidth, .int qpowers, .ref qan, .int qpp, .int qcolumns, .int qcount])), (qan, .inl (cI, qL, .inl qnum))]) (ws2 := (((ah, .inr (2, [.ref lah, .ref fah, .ref sah, .ref yah])) :: ((wR cI lah lan 1000 (5 : Int32) (8 : Int32) (25 : Int32) u_1 u_2 u_7 u_11) ++ (wR cI fah fan 200 (1 : Int32) (8 : Int32) (25 : Int32) fpp fcolumns fcount fnum) ++ (wST cI sah szah szan starget ssource snumber spower szcount szplaces) ++ (wSH cI yah yan ycount yplaces))) ++ (wR cI qah qan qL qroom qwidth qpowers qpp qcolumns qcount qnum))) (gV (rest := []) ⟨hx, hb, hml, hown, hts⟩ hG hPc hDc 0 3 rfl rfl (mtX3_put l D cI cB cR lah lan H.size 1000 (5 : Int32) (8 : Int32) (25 : Int32) u_1 u_2 u_7 u_8 r_6 (0 : Int32) a3 (1 : Int32) u_11 hq_12) (cwV 4 hts gX2_buildPade_X3_put rfl rfl rfl ⟨rfl, hd_X3_put⟩ ⟨Nat.le_of_ble_eq_true rfl, Nat.le_of_ble_eq_true rfl⟩) rfl hl.1 rfl (Nat.le_of_ble_eq_true rfl) dX2_buildPade_31) hP hD hS hA [1, 2] [0, 3, 4, 5, 6, 7, 8, 9, 10, 11] [0, 10, 11, 1, 2, 3, 4, 5, 6, 7, 8, 9] rfl rfl (by decide +kernel) (by decide +kernel) (mgN [none, some 0, some 1, none, none, none, none, none, none, none, none, none] 10 rfl (by decide +kernel) rfl) (by decide +kernel) (fun H locs hP hD hS => ?_)
  refine lv_aload_n hx hb dX2_buildPade_34 rfl (lv_at hl 1 rfl) ?_
  refine va_get (D := D) (ci := 2) (v := .ref lah) (C := RX2) (T := TX2) (N := 4) hx hb hts iX2_buildPade_X2 hown hG.1 hP 0 rfl rfl 0 (by decide) (hts _ fX2_buildPade_1) (fun _ h9 => h9) rfl dX2_buildPade_35 ?_
  obtain ⟨v_18, hq_17, hk⟩ := bd3_s hq
  obtain ⟨r_14, u_15, u_16⟩ := v_18
  have hq := hk _ _ _ rfl
  have hPc : va_P D cls9 [(lah, .inr (3, [.int (5 : Int32), .int (8 : Int32), .int (25 : Int32), .ref lan, .int u_1, .int u_2, .int u_7])), (lan, .inl (cI, 1000, .inl u_11))] H := hPsub hP [1, 2] rfl
  have hDc : va_D A [(lah, .inr (3, [.int (5 : Int32), .int (8 : Int32), .int (25 : Int32), .ref lan, .int u_1, .int u_2, .int u_7])), (lan, .inl (cI, 1000, .inl u_11))] := hD.sub [1, 2] (by decide +kernel) rfl
  refine callIP (wr := [(ah, .inr (2, [.ref lah, .ref fah, .ref sah, .ref yah])), (fah, .inr (3, [.int (1 : Int32), .int (8 : Int32), .int (25 : Int32), .ref fan, .int fpp, .int fcolumns, .int fcount])), (fan, .inl (cI, 200, .inl fnum)), (sah, .inr (6, [.ref szah, .int starget, .int ssource, .int snumber, .int spower])), (szah, .inr (5, [.ref szan, .int szcount])), (szan, .inl (cI, 5, .inl szplaces)), (yah, .inr (5, [.ref yan, .int ycount])), (yan, .inl (cI, 5, .inl yplaces)), (qah, .inr (3, [.int qroom, .int qwidth, .int qpowers, .ref qan, .int qpp, .int qcolumns, .int qcount])), (qan, .inl (cI, qL, .inl qnum))]) (ws2 := (((ah, .inr (2, [.ref lah, .ref fah, .ref sah, .ref yah])) :: ((wR cI lah lan 1000 (5 : Int32) (8 : Int32) (25 : Int32) u_1 u_2 u_15 u_16) ++ (wR cI fah fan 200 (1 : Int32) (8 : Int32) (25 : Int32) fpp fcolumns fcount fnum) ++ (wST cI sah szah szan starget ssource snumber spower szcount szplaces) ++ (wSH cI yah yan ycount yplaces))) ++ (wR cI qah qan qL qroom qwidth qpowers qpp qcolumns qcount qnum))) (gV (rest := []) ⟨hx, hb, hml, hown, hts⟩ hG hPc hDc 0 3 rfl rfl (mtX3_append l D cI cB cR lah lan H.size 1000 (5 : Int32) (8 : Int32) (25 : Int32) u_1 u_2 u_7 u_11 (r_14, u_15, u_16) hq_17) (cwV 0 hts gX2_buildPade_X3_append rfl rfl rfl ⟨rfl, hd_X3_append⟩ ⟨Nat.le_of_ble_eq_true rfl, Nat.le_of_ble_eq_true rfl⟩) rfl hl.1 rfl (Nat.le_of_ble_eq_true rfl) dX2_buildPade_38) hP hD hS hA [1, 2] [0, 3, 4, 5, 6, 7, 8, 9, 10, 11] [0, 10, 11, 1, 2, 3, 4, 5, 6, 7, 8, 9] rfl rfl (by decide +kernel) (by decide +kernel) (mgN [none, some 0, some 1, none, none, none, none, none, none, none, none, none] 10 rfl (by decide +kernel) rfl) (by decide +kernel) (fun H locs hP hD hS => ?_)
  refine lv_istore (lv' := [(6, .int r_14), (5, .int r_6), (0, .ref ah), (1, .ref qah), (2, .int a1), (3, .int a2), (4, .int a3)]) hx hb dX2_buildPade_41 hl (by decide) rfl (fun ls hl => ?_)
  refine lv_iconst (v := 0) hx hb dX2_buildPade_43 (by decide) ?_
  refine lv_istore (lv' := [(7, .int (0 : Int32)), (6, .int r_14), (5, .int r_6), (0, .ref ah), (1, .ref qah), (2, .int a1), (3, .int a2), (4, .int a3)]) hx hb dX2_buildPade_44 hl (by decide) rfl (fun ls hl => ?_)
  obtain ⟨w1, hw1, hk1⟩ := bd1_s hq
  have hX1 : ∀ (x_28 : Nat → Int32), w1 = x_28 → ∀ (H : Heap) (locs : List Loc), va_P D cls9 (((ah, .inr (2, [.ref lah, .ref fah, .ref sah, .ref yah])) :: ((wR cI lah lan 1000 (5 : Int32) (8 : Int32) (25 : Int32) u_1 u_2 u_15 x_28) ++ (wR cI fah fan 200 (1 : Int32) (8 : Int32) (25 : Int32) fpp fcolumns fcount fnum) ++ (wST cI sah szah szan starget ssource snumber spower szcount szplaces) ++ (wSH cI yah yan ycount yplaces))) ++ (wR cI qah qan qL qroom qwidth qpowers qpp qcolumns qcount qnum)) H → va_D A (((ah, .inr (2, [.ref lah, .ref fah, .ref sah, .ref yah])) :: ((wR cI lah lan 1000 (5 : Int32) (8 : Int32) (25 : Int32) u_1 u_2 u_15 x_28) ++ (wR cI fah fan 200 (1 : Int32) (8 : Int32) (25 : Int32) fpp fcolumns fcount fnum) ++ (wST cI sah szah szan starget ssource snumber spower szcount szplaces) ++ (wSH cI yah yan ycount yplaces))) ++ (wR cI qah qan qL qroom qwidth qpowers qpp qcolumns qcount qnum)) → va_S A s.heap H locs → ∀ (ls : Array Slot), lv_has ls 8 [(0, .ref ah), (6, .int r_14)] → W p l e rm_X2_buildPade s m args below meth c H locs 0 0 Q (F0 m 79 ls []) := by
    intro x_28 hq H locs hP hD hS ls hl
    have hq := hk1 _ hq
    refine lv_aload_n hx hb dX2_buildPade_79 rfl (lv_at hl 0 rfl) ?_
    refine va_get (D := D) (ci := 2) (v := .ref lah) (C := RX2) (T := TX2) (N := 4) hx hb hts iX2_buildPade_X2 hown hG.1 hP 0 rfl rfl 0 (by decide) (hts _ fX2_buildPade_1) (fun _ h9 => h9) rfl dX2_buildPade_80 ?_
    refine lv_iload hx hb dX2_buildPade_83 (lv_at hl 1 rfl) ?_
    refine lv_iconst (v := 1) hx hb dX2_buildPade_85 (by decide) ?_
    refine lv_iconst (v := 0) hx hb dX2_buildPade_86 (by decide) ?_
    refine lv_iconst (v := 1) hx hb dX2_buildPade_87 (by decide) ?_
    obtain ⟨v_31, hq_30, hk⟩ := bd1_s hq
    obtain ⟨u_29, rfl⟩ : ∃ y, y = v_31 := ⟨_, rfl⟩
    have hq := hk _ rfl
    have hPc : va_P D cls9 [(lah, .inr (3, [.int (5 : Int32), .int (8 : Int32), .int (25 : Int32), .ref lan, .int u_1, .int u_2, .int u_15])), (lan, .inl (cI, 1000, .inl x_28))] H := hPsub hP [1, 2] rfl
    have hDc : va_D A [(lah, .inr (3, [.int (5 : Int32), .int (8 : Int32), .int (25 : Int32), .ref lan, .int u_1, .int u_2, .int u_15])), (lan, .inl (cI, 1000, .inl x_28))] := hD.sub [1, 2] (by decide +kernel) rfl
    refine callVP (wr := [(ah, .inr (2, [.ref lah, .ref fah, .ref sah, .ref yah])), (fah, .inr (3, [.int (1 : Int32), .int (8 : Int32), .int (25 : Int32), .ref fan, .int fpp, .int fcolumns, .int fcount])), (fan, .inl (cI, 200, .inl fnum)), (sah, .inr (6, [.ref szah, .int starget, .int ssource, .int snumber, .int spower])), (szah, .inr (5, [.ref szan, .int szcount])), (szan, .inl (cI, 5, .inl szplaces)), (yah, .inr (5, [.ref yan, .int ycount])), (yan, .inl (cI, 5, .inl yplaces)), (qah, .inr (3, [.int qroom, .int qwidth, .int qpowers, .ref qan, .int qpp, .int qcolumns, .int qcount])), (qan, .inl (cI, qL, .inl qnum))]) (ws2 := (((ah, .inr (2, [.ref lah, .ref fah, .ref sah, .ref yah])) :: ((wR cI lah lan 1000 (5 : Int32) (8 : Int32) (25 : Int32) u_1 u_2 u_15 u_29) ++ (wR cI fah fan 200 (1 : Int32) (8 : Int32) (25 : Int32) fpp fcolumns fcount fnum) ++ (wST cI sah szah szan starget ssource snumber spower szcount szplaces) ++ (wSH cI yah yan ycount yplaces))) ++ (wR cI qah qan qL qroom qwidth qpowers qpp qcolumns qcount qnum))) (gV (rest := []) ⟨hx, hb, hml, hown, hts⟩ hG hPc hDc 0 3 rfl rfl (mtX3_put l D cI cB cR lah lan H.size 1000 (5 : Int32) (8 : Int32) (25 : Int32) u_1 u_2 u_15 x_28 r_14 (1 : Int32) (0 : Int32) (1 : Int32) u_29 hq_30) (cwV 4 hts gX2_buildPade_X3_put rfl rfl rfl ⟨rfl, hd_X3_put⟩ ⟨Nat.le_of_ble_eq_true rfl, Nat.le_of_ble_eq_true rfl⟩) rfl hl.1 rfl (Nat.le_of_ble_eq_true rfl) dX2_buildPade_88) hP hD hS hA [1, 2] [0, 3, 4, 5, 6, 7, 8, 9, 10, 11] [0, 10, 11, 1, 2, 3, 4, 5, 6, 7, 8, 9] rfl rfl (by decide +kernel) (by decide +kernel) (mgN [none, some 0, some 1, none, none, none, none, none, none, none, none, none] 10 rfl (by decide +kernel) rfl) (by decide +kernel) (fun H locs hP hD hS => ?_)
    refine lv_aload_n hx hb dX2_buildPade_91 rfl (lv_at hl 0 rfl) ?_
    obtain ⟨v_43, hq_42, hk⟩ := bd10_s hq
    obtain ⟨u_32, u_33, u_34, u_35, u_36, u_37, u_38, u_39, u_40, u_41⟩ := v_43
    have hq := hk _ _ _ _ _ _ _ _ _ _ rfl
    have hPc : va_P D cls9 [(ah, .inr (2, [.ref lah, .ref fah, .ref sah, .ref yah])), (lah, .inr (3, [.int (5 : Int32), .int (8 : Int32), .int (25 : Int32), .ref lan, .int u_1, .int u_2, .int u_15])), (lan, .inl (cI, 1000, .inl u_29)), (fah, .inr (3, [.int (1 : Int32), .int (8 : Int32), .int (25 : Int32), .ref fan, .int fpp, .int fcolumns, .int fcount])), (fan, .inl (cI, 200, .inl fnum)), (sah, .inr (6, [.ref szah, .int starget, .int ssource, .int snumber, .int spower])), (szah, .inr (5, [.ref szan, .int szcount])), (szan, .inl (cI, 5, .inl szplaces)), (yah, .inr (5, [.ref yan, .int ycount])), (yan, .inl (cI, 5, .inl yplaces))] H := hPsub hP [0, 1, 2, 3, 4, 5, 6, 7, 8, 9] rfl
    have hDc : va_D A [(ah, .inr (2, [.ref lah, .ref fah, .ref sah, .ref yah])), (lah, .inr (3, [.int (5 : Int32), .int (8 : Int32), .int (25 : Int32), .ref lan, .int u_1, .int u_2, .int u_15])), (lan, .inl (cI, 1000, .inl u_29)), (fah, .inr (3, [.int (1 : Int32), .int (8 : Int32), .int (25 : Int32), .ref fan, .int fpp, .int fcolumns, .int fcount])), (fan, .inl (cI, 200, .inl fnum)), (sah, .inr (6, [.ref szah, .int starget, .int ssource, .int snumber, .int spower])), (szah, .inr (5, [.ref szan, .int szcount])), (szan, .inl (cI, 5, .inl szplaces)), (yah, .inr (5, [.ref yan, .int ycount])), (yan, .inl (cI, 5, .inl yplaces))] := hD.sub [0, 1, 2, 3, 4, 5, 6, 7, 8, 9] (by decide +kernel) rfl
    refine callVP (wr := [(qah, .inr (3, [.int qroom, .int qwidth, .int qpowers, .ref qan, .int qpp, .int qcolumns, .int qcount])), (qan, .inl (cI, qL, .inl qnum))]) (ws2 := (((ah, .inr (2, [.ref lah, .ref fah, .ref sah, .ref yah])) :: ((wR cI lah lan 1000 (5 : Int32) (8 : Int32) (25 : Int32) u_1 u_2 u_32 u_33) ++ (wR cI fah fan 200 (1 : Int32) (8 : Int32) (25 : Int32) fpp fcolumns fcount fnum) ++ (wST cI sah szah szan u_34 u_35 u_36 u_37 u_38 u_39) ++ (wSH cI yah yan u_40 u_41))) ++ (wR cI qah qan qL qroom qwidth qpowers qpp qcolumns qcount qnum))) (gV (rest := []) ⟨hx, hb, hml, hown, hts⟩ hG hPc hDc 0 2 rfl rfl (mtX2_toForm l D cI cB cR ah lah lan fah fan sah szah szan yah yan H.size u_1 u_2 u_15 u_29 fpp fcolumns fcount fnum starget ssource snumber spower szcount szplaces ycount yplaces (u_32, u_33, u_34, u_35, u_36, u_37, u_38, u_39, u_40, u_41) hq_42) (cwV 0 hts gX2_buildPade_X2_toForm rfl rfl rfl ⟨rfl, hd_X2_toForm⟩ ⟨Nat.le_of_ble_eq_true rfl, Nat.le_of_ble_eq_true rfl⟩) rfl hl.1 rfl (Nat.le_of_ble_eq_true rfl) dX2_buildPade_92) hP hD hS hA [0, 1, 2, 3, 4, 5, 6, 7, 8, 9] [10, 11] [2, 3, 4, 5, 6, 7, 8, 9, 10, 11, 0, 1] rfl rfl (by decide +kernel) (by decide +kernel) (mgN [some 0, some 1, some 2, some 3, some 4, some 5, some 6, some 7, some 8, some 9, none, none] 2 rfl (by decide +kernel) rfl) (by decide +kernel) (fun H locs hP hD hS => ?_)
    have he := Option.some.inj hq
    subst he
    exact hE H locs _ _ dX2_buildPade_95 hP hD hS
  have hL1 : ∀ (n : Nat) (i_19 : Int32) (i_20 : Nat → Int32), lrun (fun (z : Int32 × (Nat → Int32)) => fX2_buildPade_s46 qL qroom qwidth qpowers qnum a1 a2 u_1 r_14 z.1 z.2) n (i_19, i_20) = some w1 → ∀ (H : Heap) (locs : List Loc), va_P D cls9 (((ah, .inr (2, [.ref lah, .ref fah, .ref sah, .ref yah])) :: ((wR cI lah lan 1000 (5 : Int32) (8 : Int32) (25 : Int32) u_1 u_2 u_15 i_20) ++ (wR cI fah fan 200 (1 : Int32) (8 : Int32) (25 : Int32) fpp fcolumns fcount fnum) ++ (wST cI sah szah szan starget ssource snumber spower szcount szplaces) ++ (wSH cI yah yan ycount yplaces))) ++ (wR cI qah qan qL qroom qwidth qpowers qpp qcolumns qcount qnum)) H → va_D A (((ah, .inr (2, [.ref lah, .ref fah, .ref sah, .ref yah])) :: ((wR cI lah lan 1000 (5 : Int32) (8 : Int32) (25 : Int32) u_1 u_2 u_15 i_20) ++ (wR cI fah fan 200 (1 : Int32) (8 : Int32) (25 : Int32) fpp fcolumns fcount fnum) ++ (wST cI sah szah szan starget ssource snumber spower szcount szplaces) ++ (wSH cI yah yan ycount yplaces))) ++ (wR cI qah qan qL qroom qwidth qpowers qpp qcolumns qcount qnum)) → va_S A s.heap H locs → ∀ (ls : Array Slot), lv_has ls 8 [(0, .ref ah), (1, .ref qah), (2, .int a1), (3, .int a2), (6, .int r_14), (7, .int i_19)] → W p l e rm_X2_buildPade s m args below meth c H locs 0 0 Q (F0 m 46 ls []) := by
    intro n
    induction n with
    | zero => intro i_19 i_20 h; cases h
    | succ n ih1 =>
      intro i_19 i_20 hr1 H locs hP hD hS ls hl
      obtain ⟨k, v1, hk, hr1, ht1, hv1⟩ := lrun_s hr1
      cases hk
      have hr1 : fX2_buildPade_s46 qL qroom qwidth qpowers qnum a1 a2 u_1 r_14 i_19 i_20 = some v1 := hr1
      unfold fX2_buildPade_s46 at hr1
      refine lv_iload hx hb dX2_buildPade_46 (lv_at hl 5 rfl) ?_
      refine lv_bipush (v := 6) hx hb dX2_buildPade_48 (by decide) ?_
      refine lv_icmp_gt (tgt := 79) hx hb dX2_buildPade_50 (by decide) (fun c_21 => ?_) (fun c_21 => ?_)
      · have hr1 := it_t c_21 hr1
        exact hX1 i_20 (hv1 _ (Option.some.inj hr1).symm).symm H locs hP hD hS ls (lv_sub hl [0, 4] rfl)
      · have hr1 := it_f c_21 hr1
        refine lv_aload_n hx hb dX2_buildPade_53 rfl (lv_at hl 0 rfl) ?_
        refine va_get (D := D) (ci := 2) (v := .ref lah) (C := RX2) (T := TX2) (N := 4) hx hb hts iX2_buildPade_X2 hown hG.1 hP 0 rfl rfl 0 (by decide) (hts _ fX2_buildPade_1) (fun _ h9 => h9) rfl dX2_buildPade_54 ?_
        refine lv_iload hx hb dX2_buildPade_57 (lv_at hl 4 rfl) ?_
        refine lv_iconst (v := 0) hx hb dX2_buildPade_59 (by decide) ?_
        refine lv_iload hx hb dX2_buildPade_60 (lv_at hl 5 rfl) ?_
        refine lv_aload_n hx hb dX2_buildPade_62 rfl (lv_at hl 1 rfl) ?_
        refine lv_iload_n hx hb dX2_buildPade_63 rfl (lv_at hl 2 rfl) ?_
        refine lv_iload_n hx hb dX2_buildPade_64 rfl (lv_at hl 3 rfl) ?_
        refine lv_iload hx hb dX2_buildPade_65 (lv_at hl 5 rfl) ?_
        obtain ⟨v_24, hq_23, hk⟩ := bd1_s hr1
        obtain ⟨r_22, rfl⟩ : ∃ y, y = v_24 := ⟨_, rfl⟩
        have hr1 := hk _ rfl
        have hPc : va_P D cls9 [(qah, .inr (3, [.int qroom, .int qwidth, .int qpowers, .ref qan, .int qpp, .int qcolumns, .int qcount])), (qan, .inl (cI, qL, .inl qnum))] H := hPsub hP [10, 11] rfl
        have hDc : va_D A [(qah, .inr (3, [.int qroom, .int qwidth, .int qpowers, .ref qan, .int qpp, .int qcolumns, .int qcount])), (qan, .inl (cI, qL, .inl qnum))] := hD.sub [10, 11] (by decide +kernel) rfl
        refine callIP (wr := [(ah, .inr (2, [.ref lah, .ref fah, .ref sah, .ref yah])), (lah, .inr (3, [.int (5 : Int32), .int (8 : Int32), .int (25 : Int32), .ref lan, .int u_1, .int u_2, .int u_15])), (lan, .inl (cI, 1000, .inl i_20)), (fah, .inr (3, [.int (1 : Int32), .int (8 : Int32), .int (25 : Int32), .ref fan, .int fpp, .int fcolumns, .int fcount])), (fan, .inl (cI, 200, .inl fnum)), (sah, .inr (6, [.ref szah, .int starget, .int ssource, .int snumber, .int spower])), (szah, .inr (5, [.ref szan, .int szcount])), (szan, .inl (cI, 5, .inl szplaces)), (yah, .inr (5, [.ref yan, .int ycount])), (yan, .inl (cI, 5, .inl yplaces))]) (ws2 := (((ah, .inr (2, [.ref lah, .ref fah, .ref sah, .ref yah])) :: ((wR cI lah lan 1000 (5 : Int32) (8 : Int32) (25 : Int32) u_1 u_2 u_15 i_20) ++ (wR cI fah fan 200 (1 : Int32) (8 : Int32) (25 : Int32) fpp fcolumns fcount fnum) ++ (wST cI sah szah szan starget ssource snumber spower szcount szplaces) ++ (wSH cI yah yan ycount yplaces))) ++ (wR cI qah qan qL qroom qwidth qpowers qpp qcolumns qcount qnum))) (gV (rest := [.int i_19, .int (0 : Int32), .int r_14, .ref lah]) ⟨hx, hb, hml, hown, hts⟩ hG hPc hDc 0 3 rfl rfl (mtX3_at l D cI cB cR qah qan H.size qL qroom qwidth qpowers qpp qcolumns qcount qnum a1 a2 i_19 r_22 hq_23) (cwV 3 hts gX2_buildPade_X3_at rfl rfl rfl ⟨rfl, hd_X3_at⟩ ⟨Nat.le_of_ble_eq_true rfl, Nat.le_of_ble_eq_true rfl⟩) rfl hl.1 rfl (Nat.le_of_ble_eq_true rfl) dX2_buildPade_67) hP hD hS hA [10, 11] [0, 1, 2, 3, 4, 5, 6, 7, 8, 9] [0, 1, 2, 3, 4, 5, 6, 7, 8, 9, 10, 11] rfl rfl (by decide +kernel) (by decide +kernel) (mgN [none, none, none, none, none, none, none, none, none, none, some 0, some 1] 10 rfl (by decide +kernel) rfl) (by decide +kernel) (fun H locs hP hD hS => ?_)
        obtain ⟨v_27, hq_26, hk⟩ := bd1_s hr1
        obtain ⟨u_25, rfl⟩ : ∃ y, y = v_27 := ⟨_, rfl⟩
        have hr1 := hk _ rfl
        have hPc : va_P D cls9 [(lah, .inr (3, [.int (5 : Int32), .int (8 : Int32), .int (25 : Int32), .ref lan, .int u_1, .int u_2, .int u_15])), (lan, .inl (cI, 1000, .inl i_20))] H := hPsub hP [1, 2] rfl
        have hDc : va_D A [(lah, .inr (3, [.int (5 : Int32), .int (8 : Int32), .int (25 : Int32), .ref lan, .int u_1, .int u_2, .int u_15])), (lan, .inl (cI, 1000, .inl i_20))] := hD.sub [1, 2] (by decide +kernel) rfl
        refine callVP (wr := [(ah, .inr (2, [.ref lah, .ref fah, .ref sah, .ref yah])), (fah, .inr (3, [.int (1 : Int32), .int (8 : Int32), .int (25 : Int32), .ref fan, .int fpp, .int fcolumns, .int fcount])), (fan, .inl (cI, 200, .inl fnum)), (sah, .inr (6, [.ref szah, .int starget, .int ssource, .int snumber, .int spower])), (szah, .inr (5, [.ref szan, .int szcount])), (szan, .inl (cI, 5, .inl szplaces)), (yah, .inr (5, [.ref yan, .int ycount])), (yan, .inl (cI, 5, .inl yplaces)), (qah, .inr (3, [.int qroom, .int qwidth, .int qpowers, .ref qan, .int qpp, .int qcolumns, .int qcount])), (qan, .inl (cI, qL, .inl qnum))]) (ws2 := (((ah, .inr (2, [.ref lah, .ref fah, .ref sah, .ref yah])) :: ((wR cI lah lan 1000 (5 : Int32) (8 : Int32) (25 : Int32) u_1 u_2 u_15 u_25) ++ (wR cI fah fan 200 (1 : Int32) (8 : Int32) (25 : Int32) fpp fcolumns fcount fnum) ++ (wST cI sah szah szan starget ssource snumber spower szcount szplaces) ++ (wSH cI yah yan ycount yplaces))) ++ (wR cI qah qan qL qroom qwidth qpowers qpp qcolumns qcount qnum))) (gV (rest := []) ⟨hx, hb, hml, hown, hts⟩ hG hPc hDc 0 3 rfl rfl (mtX3_put l D cI cB cR lah lan H.size 1000 (5 : Int32) (8 : Int32) (25 : Int32) u_1 u_2 u_15 i_20 r_14 (0 : Int32) i_19 r_22 u_25 hq_26) (cwV 4 hts gX2_buildPade_X3_put rfl rfl rfl ⟨rfl, hd_X3_put⟩ ⟨Nat.le_of_ble_eq_true rfl, Nat.le_of_ble_eq_true rfl⟩) rfl hl.1 rfl (Nat.le_of_ble_eq_true rfl) dX2_buildPade_70) hP hD hS hA [1, 2] [0, 3, 4, 5, 6, 7, 8, 9, 10, 11] [0, 10, 11, 1, 2, 3, 4, 5, 6, 7, 8, 9] rfl rfl (by decide +kernel) (by decide +kernel) (mgN [none, some 0, some 1, none, none, none, none, none, none, none, none, none] 10 rfl (by decide +kernel) rfl) (by decide +kernel) (fun H locs hP hD hS => ?_)
        refine lv_iinc (v := (i_19 + 1)) (lv' := [(7, .int (i_19 + 1)), (0, .ref ah), (1, .ref qah), (2, .int a1), (3, .int a2), (6, .int r_14)]) hx hb dX2_buildPade_73 hl (k := 5) rfl rfl (by decide) rfl (fun ls hl => ?_)
        refine lv_goto (tgt := 46) hx hb dX2_buildPade_76 (by decide) ?_
        exact ih1 (i_19 + 1) u_25 (ht1 _ (Option.some.inj hr1).symm) H locs hP hD hS ls (lv_sub hl [1, 2, 3, 4, 5, 0] rfl)
  obtain ⟨n1, hn1⟩ := Lp_s hw1
  exact hL1 n1 (0 : Int32) u_16 hn1 H locs hP hD hS ls (lv_sub hl [3, 4, 5, 6, 1, 0] rfl)
abbrev rm_X2_reduce_e01 : Room := { frames := 4, cells := 0, slots := 0, locals := 96 }
theorem iX2_reduce_e01_X2 : ∀ w ∈ wsX20, w ∈ wsX2_reduce := fun _ h => (List.mem_cons_of_mem _ (List.mem_append_left _ (List.mem_append_left _ (List.mem_append_right _ h))))
theorem fX2_reduce_e01_1 : Cond.fieldLink RX2 33 "PopovRows$Popov" "shape" "LPopovRows$Shape;" ∈ wsX2_reduce := (List.mem_cons_of_mem _ (List.mem_append_left _ (List.mem_append_left _ (List.mem_append_left _ (List.mem_append_left _ (List.mem_of_getElem? (i := 0) rfl))))))
theorem fX2_reduce_e01_2 : Cond.fieldLink RX2 14 "PopovRows$Popov" "list" "LPopovRows$Rows;" ∈ wsX2_reduce := (List.mem_cons_of_mem _ (List.mem_append_left _ (List.mem_append_left _ (List.mem_append_left _ (List.mem_append_left _ (List.mem_of_getElem? (i := 1) rfl))))))
theorem iX2_reduce_e01_X3 : ∀ w ∈ wsX30, w ∈ wsX2_reduce := fun _ h => (List.mem_cons_of_mem _ (List.mem_append_left _ (List.mem_append_right _ h)))
theorem fX2_reduce_e01_4 : Cond.fieldLink RX2 41 "PopovRows$Rows" "columns" "I" ∈ wsX2_reduce := (List.mem_cons_of_mem _ (List.mem_append_left _ (List.mem_append_left _ (List.mem_append_left _ (List.mem_append_left _ (List.mem_of_getElem? (i := 2) rfl))))))
theorem fX2_reduce_e01_5 : Cond.initialized RX7 ∈ wsX2_reduce := (List.mem_cons_of_mem _ (List.mem_append_left _ (List.mem_append_left _ (List.mem_append_left _ (List.mem_append_right _ (List.mem_append_left _ (List.mem_of_getElem? (i := 15) rfl)))))))
theorem fX2_reduce_e01_6 : Cond.static yX7_powerAt ∈ wsX2_reduce := (List.mem_cons_of_mem _ (List.mem_append_left _ (List.mem_append_left _ (List.mem_append_left _ (List.mem_append_right _ (List.mem_append_left _ (List.mem_of_getElem? (i := 17) rfl)))))))
set_option maxHeartbeats 4000000 in
set_option maxRecDepth 100000 in
theorem mtX2_reduce_e01 (l : Launch) (D : va_G) (cI cB cR : ClassId) (ah : Nat) (lah : Nat) (lan : Nat) (fah : Nat) (fan : Nat) (sah : Nat) (szah : Nat) (szan : Nat) (yah : Nat) (yan : Nat) (sz : Nat) (lpp : Int32) (lcolumns : Int32) (lcount : Int32) (lnum : Nat → Int32) (fpp : Int32) (fcolumns : Int32) (fcount : Int32) (fnum : Nat → Int32) (starget : Int32) (ssource : Int32) (snumber : Int32) (spower : Int32) (szcount : Int32) (szplaces : Nat → Int32) (ycount : Int32) (yplaces : Nat → Int32) (a1 : Int32) (a2 : Int32) (res : (Nat → Int32) × Int32 × (Nat → Int32)) (hf : fX2_reduce_e01 lcolumns lcount lnum fpp fnum yplaces a1 a2 = some res) : Met l yX2_reduce wsX2_reduce rm_X2_reduce_e01 (qP D cI cB cR [.ref ah, .ref fah, .int a1, .int a2] ((ah, .inr (2, [.ref lah, .ref fah, .ref sah, .ref yah])) :: ((wR cI lah lan 1000 (5 : Int32) (8 : Int32) (25 : Int32) lpp lcolumns lcount lnum) ++ (wR cI fah fan 200 (1 : Int32) (8 : Int32) (25 : Int32) fpp fcolumns fcount fnum) ++ (wST cI sah szah szan starget ssource snumber spower szcount szplaces) ++ (wSH cI yah yan ycount yplaces))) sz) (qV D ((ah, .inr (2, [.ref lah, .ref fah, .ref sah, .ref yah])) :: ((wR cI lah lan 1000 (5 : Int32) (8 : Int32) (25 : Int32) lpp lcolumns lcount lnum) ++ (wR cI fah fan 200 (1 : Int32) (8 : Int32) (25 : Int32) fpp fcolumns fcount fnum) ++ (wST cI sah szah szan starget ssource snumber spower szcount szplaces) ++ (wSH cI yah yan ycount yplaces))) ((ah, .inr (2, [.ref lah, .ref fah, .ref sah, .ref yah])) :: ((wR cI lah lan 1000 (5 : Int32) (8 : Int32) (25 : Int32) lpp lcolumns lcount lnum) ++ (wR cI fah fan 200 (1 : Int32) (8 : Int32) (25 : Int32) fpp fcolumns fcount res.1) ++ (wST cI sah szah szan starget ssource snumber spower szcount szplaces) ++ (wSH cI yah yan res.2.1 res.2.2))) sz) 0 0 (va_A ((ah, .inr (2, [.ref lah, .ref fah, .ref sah, .ref yah])) :: ((wR cI lah lan 1000 (5 : Int32) (8 : Int32) (25 : Int32) lpp lcolumns lcount lnum) ++ (wR cI fah fan 200 (1 : Int32) (8 : Int32) (25 : Int32) fpp fcolumns fcount fnum) ++ (wST cI sah szah szan starget ssource snumber spower szcount szplaces) ++ (wSH cI yah yan ycount yplaces))) sz) := by
  refine entV (plainFor_of_name (by decide)) rfl (Nat.le_of_ble_eq_true rfl) ?_
  intro p e s m args below meth c Q A ls S hG hP hD hA hl hE
  obtain ⟨hx, hb, hml, hown, hts⟩ := S
  have hown : s.vm.findClass RX2 = some m.cls := hown
  have hS : va_S A s.heap s.heap [] := va_S.rf
  have hl : lv_has ls 8 [(0, .ref ah), (1, .ref fah), (2, .int a1), (3, .int a2)] := hl
  have hq := hf
  unfold fX2_reduce_e01 at hq
  obtain ⟨H, hH⟩ : ∃ H, H = s.heap := ⟨_, rfl⟩
  obtain ⟨locs, hlo⟩ : ∃ L : List Loc, L = [] := ⟨_, rfl⟩
  have hP : va_P D cls9 ((ah, .inr (2, [.ref lah, .ref fah, .ref sah, .ref yah])) :: ((wR cI lah lan 1000 (5 : Int32) (8 : Int32) (25 : Int32) lpp lcolumns lcount lnum) ++ (wR cI fah fan 200 (1 : Int32) (8 : Int32) (25 : Int32) fpp fcolumns fcount fnum) ++ (wST cI sah szah szan starget ssource snumber spower szcount szplaces) ++ (wSH cI yah yan ycount yplaces))) H := hH ▸ hP
  have hS : va_S A s.heap H locs := by rw [hH, hlo]; exact hS
  suffices hg : W p l e rm_X2_reduce_e01 s m args below meth c H locs 0 0 Q (F0 m 0 ls []) by rw [hH, hlo] at hg; exact hg
  refine lv_aload_n hx hb dX2_reduce_0 rfl (lv_at hl 0 rfl) ?_
  refine va_get (D := D) (ci := 2) (v := .ref yah) (C := RX2) (T := TX2) (N := 4) hx hb hts iX2_reduce_e01_X2 hown hG.1 hP 0 rfl rfl 3 (by decide) (hts _ fX2_reduce_e01_1) (fun _ h9 => h9) rfl dX2_reduce_1 ?_
  refine lv_aload_n hx hb dX2_reduce_4 rfl (lv_at hl 0 rfl) ?_
  refine va_get (D := D) (ci := 2) (v := .ref lah) (C := RX2) (T := TX2) (N := 4) hx hb hts iX2_reduce_e01_X2 hown hG.1 hP 0 rfl rfl 0 (by decide) (hts _ fX2_reduce_e01_2) (fun _ h9 => h9) rfl dX2_reduce_5 ?_
  obtain ⟨v_4, hq_3, hk⟩ := bd2_s hq
  obtain ⟨u_1, u_2⟩ := v_4
  have hq := hk _ _ rfl
  have hPc : va_P D cls9 [(yah, .inr (5, [.ref yan, .int ycount])), (yan, .inl (cI, 5, .inl yplaces)), (lah, .inr (3, [.int (5 : Int32), .int (8 : Int32), .int (25 : Int32), .ref lan, .int lpp, .int lcolumns, .int lcount])), (lan, .inl (cI, 1000, .inl lnum))] H := hPsub hP [8, 9, 1, 2] rfl
  have hDc : va_D A [(yah, .inr (5, [.ref yan, .int ycount])), (yan, .inl (cI, 5, .inl yplaces)), (lah, .inr (3, [.int (5 : Int32), .int (8 : Int32), .int (25 : Int32), .ref lan, .int lpp, .int lcolumns, .int lcount])), (lan, .inl (cI, 1000, .inl lnum))] := hD.sub [8, 9, 1, 2] (by decide +kernel) rfl
  refine callVP (wr := [(ah, .inr (2, [.ref lah, .ref fah, .ref sah, .ref yah])), (fah, .inr (3, [.int (1 : Int32), .int (8 : Int32), .int (25 : Int32), .ref fan, .int fpp, .int fcolumns, .int fcount])), (fan, .inl (cI, 200, .inl fnum)), (sah, .inr (6, [.ref szah, .int starget, .int ssource, .int snumber, .int spower])), (szah, .inr (5, [.ref szan, .int szcount])), (szan, .inl (cI, 5, .inl szplaces))]) (ws2 := ((ah, .inr (2, [.ref lah, .ref fah, .ref sah, .ref yah])) :: ((wR cI lah lan 1000 (5 : Int32) (8 : Int32) (25 : Int32) lpp lcolumns lcount lnum) ++ (wR cI fah fan 200 (1 : Int32) (8 : Int32) (25 : Int32) fpp fcolumns fcount fnum) ++ (wST cI sah szah szan starget ssource snumber spower szcount szplaces) ++ (wSH cI yah yan u_1 u_2)))) (gV (rest := []) ⟨hx, hb, hml, hown, hts⟩ hG hPc hDc 0 5 rfl rfl (mtX5_measure l D cI cB cR yah yan lah lan H.size ycount yplaces 1000 (5 : Int32) (8 : Int32) (25 : Int32) lpp lcolumns lcount lnum (u_1, u_2) hq_3) (cwV 1 hts gX2_reduce_X5_measure rfl rfl rfl ⟨rfl, hd_X5_measure⟩ ⟨Nat.le_of_ble_eq_true rfl, Nat.le_of_ble_eq_true rfl⟩) rfl hl.1 rfl (Nat.le_of_ble_eq_true rfl) dX2_reduce_8) hP hD hS hA [8, 9, 1, 2] [0, 3, 4, 5, 6, 7] [0, 8, 9, 1, 2, 3, 4, 5, 6, 7] rfl rfl (by decide +kernel) (by decide +kernel) rfl (by decide +kernel) (fun H locs hP hD hS => ?_)
  refine lv_bipush (v := 7) hx hb dX2_reduce_11 (by decide) ?_
  refine lv_istore (lv' := [(4, .int (7 : Int32)), (0, .ref ah), (1, .ref fah), (2, .int a1), (3, .int a2)]) hx hb dX2_reduce_13 hl (by decide) rfl (fun ls hl => ?_)
  obtain ⟨w1, hw1, hk1⟩ := bd1_s hq
  have hX1 : ∀ (x_27 : Nat → Int32), w1 = x_27 → ∀ (H : Heap) (locs : List Loc), va_P D cls9 ((ah, .inr (2, [.ref lah, .ref fah, .ref sah, .ref yah])) :: ((wR cI lah lan 1000 (5 : Int32) (8 : Int32) (25 : Int32) lpp lcolumns lcount lnum) ++ (wR cI fah fan 200 (1 : Int32) (8 : Int32) (25 : Int32) fpp fcolumns fcount x_27) ++ (wST cI sah szah szan starget ssource snumber spower szcount szplaces) ++ (wSH cI yah yan u_1 u_2))) H → va_D A ((ah, .inr (2, [.ref lah, .ref fah, .ref sah, .ref yah])) :: ((wR cI lah lan 1000 (5 : Int32) (8 : Int32) (25 : Int32) lpp lcolumns lcount lnum) ++ (wR cI fah fan 200 (1 : Int32) (8 : Int32) (25 : Int32) fpp fcolumns fcount x_27) ++ (wST cI sah szah szan starget ssource snumber spower szcount szplaces) ++ (wSH cI yah yan u_1 u_2))) → va_S A s.heap H locs → ∀ (ls : Array Slot), lv_has ls 8 [] → W p l e rm_X2_reduce_e01 s m args below meth c H locs 0 0 Q (F0 m 117 ls []) := by
    intro x_27 hq H locs hP hD hS ls hl
    have hq := hk1 _ hq
    have he := Option.some.inj hq
    subst he
    exact hE H locs _ _ dX2_reduce_117 hP hD hS
  have hL1 : ∀ (n : Nat) (i_5 : Int32) (i_6 : Nat → Int32), lrun (fun (z : Int32 × (Nat → Int32)) => fX2_reduce_e01_s15 lcolumns lnum fpp a1 a2 u_1 u_2 z.1 z.2) n (i_5, i_6) = some w1 → ∀ (H : Heap) (locs : List Loc), va_P D cls9 ((ah, .inr (2, [.ref lah, .ref fah, .ref sah, .ref yah])) :: ((wR cI lah lan 1000 (5 : Int32) (8 : Int32) (25 : Int32) lpp lcolumns lcount lnum) ++ (wR cI fah fan 200 (1 : Int32) (8 : Int32) (25 : Int32) fpp fcolumns fcount i_6) ++ (wST cI sah szah szan starget ssource snumber spower szcount szplaces) ++ (wSH cI yah yan u_1 u_2))) H → va_D A ((ah, .inr (2, [.ref lah, .ref fah, .ref sah, .ref yah])) :: ((wR cI lah lan 1000 (5 : Int32) (8 : Int32) (25 : Int32) lpp lcolumns lcount lnum) ++ (wR cI fah fan 200 (1 : Int32) (8 : Int32) (25 : Int32) fpp fcolumns fcount i_6) ++ (wST cI sah szah szan starget ssource snumber spower szcount szplaces) ++ (wSH cI yah yan u_1 u_2))) → va_S A s.heap H locs → ∀ (ls : Array Slot), lv_has ls 8 [(0, .ref ah), (1, .ref fah), (2, .int a1), (3, .int a2), (4, .int i_5)] → W p l e rm_X2_reduce_e01 s m args below meth c H locs 0 0 Q (F0 m 15 ls []) := by
    intro n
    induction n with
    | zero => intro i_5 i_6 h; cases h
    | succ n ih1 =>
      intro i_5 i_6 hr1 H locs hP hD hS ls hl
      obtain ⟨k, v1, hk, hr1, ht1, hv1⟩ := lrun_s hr1
      cases hk
      have hr1 : fX2_reduce_e01_s15 lcolumns lnum fpp a1 a2 u_1 u_2 i_5 i_6 = some v1 := hr1
      unfold fX2_reduce_e01_s15 at hr1
      refine lv_iload hx hb dX2_reduce_15 (lv_at hl 4 rfl) ?_
      refine lv_if_lt (tgt := 117) hx hb dX2_reduce_17 (by decide) (fun c_7 => ?_) (fun c_7 => ?_)
      · have hr1 := it_t c_7 hr1
        exact hX1 i_6 (hv1 _ (Option.some.inj hr1).symm).symm H locs hP hD hS ls (lv_sub hl [] rfl)
      · have hr1 := it_f c_7 hr1
        refine lv_aload_n hx hb dX2_reduce_20 rfl (lv_at hl 0 rfl) ?_
        refine va_get (D := D) (ci := 2) (v := .ref lah) (C := RX2) (T := TX2) (N := 4) hx hb hts iX2_reduce_e01_X2 hown hG.1 hP 0 rfl rfl 0 (by decide) (hts _ fX2_reduce_e01_2) (fun _ h9 => h9) rfl dX2_reduce_21 ?_
        refine va_get (D := D) (ci := 3) (v := .int lcolumns) (C := RX3) (T := TX3) (N := 7) hx hb hts iX2_reduce_e01_X3 hown hG.1 hP 1 rfl rfl 5 (by decide) (hts _ fX2_reduce_e01_4) (fun _ h9 => h9) rfl dX2_reduce_24 ?_
        refine lv_iconst (v := 1) hx hb dX2_reduce_27 (by decide) ?_
        refine lv_isub hx hb dX2_reduce_28 ?_
        refine lv_istore (lv' := [(5, .int (lcolumns - (1 : Int32))), (0, .ref ah), (1, .ref fah), (2, .int a1), (3, .int a2), (4, .int i_5)]) hx hb dX2_reduce_29 hl (by decide) rfl (fun ls hl => ?_)
        obtain ⟨w2, hw2, hk2⟩ := bd1_s hr1
        have hX2 : ∀ (x_26 : Nat → Int32), w2 = x_26 → ∀ (H : Heap) (locs : List Loc), va_P D cls9 ((ah, .inr (2, [.ref lah, .ref fah, .ref sah, .ref yah])) :: ((wR cI lah lan 1000 (5 : Int32) (8 : Int32) (25 : Int32) lpp lcolumns lcount lnum) ++ (wR cI fah fan 200 (1 : Int32) (8 : Int32) (25 : Int32) fpp fcolumns fcount x_26) ++ (wST cI sah szah szan starget ssource snumber spower szcount szplaces) ++ (wSH cI yah yan u_1 u_2))) H → va_D A ((ah, .inr (2, [.ref lah, .ref fah, .ref sah, .ref yah])) :: ((wR cI lah lan 1000 (5 : Int32) (8 : Int32) (25 : Int32) lpp lcolumns lcount lnum) ++ (wR cI fah fan 200 (1 : Int32) (8 : Int32) (25 : Int32) fpp fcolumns fcount x_26) ++ (wST cI sah szah szan starget ssource snumber spower szcount szplaces) ++ (wSH cI yah yan u_1 u_2))) → va_S A s.heap H locs → ∀ (ls : Array Slot), lv_has ls 8 [(0, .ref ah), (1, .ref fah), (2, .int a1), (3, .int a2), (4, .int i_5)] → W p l e rm_X2_reduce_e01 s m args below meth c H locs 0 0 Q (F0 m 111 ls []) := by
          intro x_26 hq H locs hP hD hS ls hl
          have hr1 := hk2 _ hq
          refine lv_iinc (v := (i_5 + (-1))) (lv' := [(4, .int (i_5 + (-1))), (0, .ref ah), (1, .ref fah), (2, .int a1), (3, .int a2)]) hx hb dX2_reduce_111 hl (k := 4) rfl rfl (by decide) rfl (fun ls hl => ?_)
          refine lv_goto (tgt := 15) hx hb dX2_reduce_114 (by decide) ?_
          exact ih1 (i_5 + (-1)) x_26 (ht1 _ (Option.some.inj hr1).symm) H locs hP hD hS ls (lv_sub hl [1, 2, 3, 4, 0] rfl)
        have hL2 : ∀ (n : Nat) (i_8 : Int32) (i_9 : Nat → Int32), lrun (fun (z : Int32 × (Nat → Int32)) => fX2_reduce_e01_s31 lnum fpp a1 a2 i_5 u_1 u_2 z.1 z.2) n (i_8, i_9) = some w2 → ∀ (H : Heap) (locs : List Loc), va_P D cls9 ((ah, .inr (2, [.ref lah, .ref fah, .ref sah, .ref yah])) :: ((wR cI lah lan 1000 (5 : Int32) (8 : Int32) (25 : Int32) lpp lcolumns lcount lnum) ++ (wR cI fah fan 200 (1 : Int32) (8 : Int32) (25 : Int32) fpp fcolumns fcount i_9) ++ (wST cI sah szah szan starget ssource snumber spower szcount szplaces) ++ (wSH cI yah yan u_1 u_2))) H → va_D A ((ah, .inr (2, [.ref lah, .ref fah, .ref sah, .ref yah])) :: ((wR cI lah lan 1000 (5 : Int32) (8 : Int32) (25 : Int32) lpp lcolumns lcount lnum) ++ (wR cI fah fan 200 (1 : Int32) (8 : Int32) (25 : Int32) fpp fcolumns fcount i_9) ++ (wST cI sah szah szan starget ssource snumber spower szcount szplaces) ++ (wSH cI yah yan u_1 u_2))) → va_S A s.heap H locs → ∀ (ls : Array Slot), lv_has ls 8 [(0, .ref ah), (1, .ref fah), (2, .int a1), (3, .int a2), (4, .int i_5), (5, .int i_8)] → W p l e rm_X2_reduce_e01 s m args below meth c H locs 0 0 Q (F0 m 31 ls []) := by
          intro n
          induction n with
          | zero => intro i_8 i_9 h; cases h
          | succ n ih2 =>
            intro i_8 i_9 hr2 H locs hP hD hS ls hl
            obtain ⟨k, v2, hk, hr2, ht2, hv2⟩ := lrun_s hr2
            cases hk
            have hr2 : fX2_reduce_e01_s31 lnum fpp a1 a2 i_5 u_1 u_2 i_8 i_9 = some v2 := hr2
            unfold fX2_reduce_e01_s31 at hr2
            refine lv_iload hx hb dX2_reduce_31 (lv_at hl 5 rfl) ?_
            refine lv_if_lt (tgt := 111) hx hb dX2_reduce_33 (by decide) (fun c_10 => ?_) (fun c_10 => ?_)
            · have hr2 := it_t c_10 hr2
              exact hX2 i_9 (hv2 _ (Option.some.inj hr2).symm).symm H locs hP hD hS ls (lv_sub hl [0, 1, 2, 3, 4] rfl)
            · have hr2 := it_f c_10 hr2
              refine lv_aload_n hx hb dX2_reduce_36 rfl (lv_at hl 1 rfl) ?_
              refine lv_iload_n hx hb dX2_reduce_37 rfl (lv_at hl 2 rfl) ?_
              refine lv_iload hx hb dX2_reduce_38 (lv_at hl 5 rfl) ?_
              refine lv_iload hx hb dX2_reduce_40 (lv_at hl 4 rfl) ?_
              obtain ⟨v_13, hq_12, hk⟩ := bd1_s hr2
              obtain ⟨r_11, rfl⟩ : ∃ y, y = v_13 := ⟨_, rfl⟩
              have hr2 := hk _ rfl
              have hPc : va_P D cls9 [(fah, .inr (3, [.int (1 : Int32), .int (8 : Int32), .int (25 : Int32), .ref fan, .int fpp, .int fcolumns, .int fcount])), (fan, .inl (cI, 200, .inl i_9))] H := hPsub hP [3, 4] rfl
              have hDc : va_D A [(fah, .inr (3, [.int (1 : Int32), .int (8 : Int32), .int (25 : Int32), .ref fan, .int fpp, .int fcolumns, .int fcount])), (fan, .inl (cI, 200, .inl i_9))] := hD.sub [3, 4] (by decide +kernel) rfl
              refine callIP (wr := [(ah, .inr (2, [.ref lah, .ref fah, .ref sah, .ref yah])), (lah, .inr (3, [.int (5 : Int32), .int (8 : Int32), .int (25 : Int32), .ref lan, .int lpp, .int lcolumns, .int lcount])), (lan, .inl (cI, 1000, .inl lnum)), (sah, .inr (6, [.ref szah, .int starget, .int ssource, .int snumber, .int spower])), (szah, .inr (5, [.ref szan, .int szcount])), (szan, .inl (cI, 5, .inl szplaces)), (yah, .inr (5, [.ref yan, .int u_1])), (yan, .inl (cI, 5, .inl u_2))]) (ws2 := ((ah, .inr (2, [.ref lah, .ref fah, .ref sah, .ref yah])) :: ((wR cI lah lan 1000 (5 : Int32) (8 : Int32) (25 : Int32) lpp lcolumns lcount lnum) ++ (wR cI fah fan 200 (1 : Int32) (8 : Int32) (25 : Int32) fpp fcolumns fcount i_9) ++ (wST cI sah szah szan starget ssource snumber spower szcount szplaces) ++ (wSH cI yah yan u_1 u_2)))) (gV (rest := []) ⟨hx, hb, hml, hown, hts⟩ hG hPc hDc 0 3 rfl rfl (mtX3_at l D cI cB cR fah fan H.size 200 (1 : Int32) (8 : Int32) (25 : Int32) fpp fcolumns fcount i_9 a1 i_8 i_5 r_11 hq_12) (cwV 3 hts gX2_reduce_X3_at rfl rfl rfl ⟨rfl, hd_X3_at⟩ ⟨Nat.le_of_ble_eq_true rfl, Nat.le_of_ble_eq_true rfl⟩) rfl hl.1 rfl (Nat.le_of_ble_eq_true rfl) dX2_reduce_42) hP hD hS hA [3, 4] [0, 1, 2, 5, 6, 7, 8, 9] [0, 1, 2, 8, 9, 3, 4, 5, 6, 7] rfl rfl (by decide +kernel) (by decide +kernel) rfl (by decide +kernel) (fun H locs hP hD hS => ?_)
              refine lv_istore (lv' := [(6, .int r_11), (0, .ref ah), (1, .ref fah), (2, .int a1), (3, .int a2), (4, .int i_5), (5, .int i_8)]) hx hb dX2_reduce_45 hl (by decide) rfl (fun ls hl => ?_)
              refine lv_iload hx hb dX2_reduce_47 (lv_at hl 0 rfl) ?_
              obtain ⟨v3, hj3, hk3⟩ := bd1_s hr2
              have hJ3 : ∀ (j_18 : Int32), v3 = j_18 → ∀ (H : Heap) (locs : List Loc), va_P D cls9 ((ah, .inr (2, [.ref lah, .ref fah, .ref sah, .ref yah])) :: ((wR cI lah lan 1000 (5 : Int32) (8 : Int32) (25 : Int32) lpp lcolumns lcount lnum) ++ (wR cI fah fan 200 (1 : Int32) (8 : Int32) (25 : Int32) fpp fcolumns fcount i_9) ++ (wST cI sah szah szan starget ssource snumber spower szcount szplaces) ++ (wSH cI yah yan u_1 u_2))) H → va_D A ((ah, .inr (2, [.ref lah, .ref fah, .ref sah, .ref yah])) :: ((wR cI lah lan 1000 (5 : Int32) (8 : Int32) (25 : Int32) lpp lcolumns lcount lnum) ++ (wR cI fah fan 200 (1 : Int32) (8 : Int32) (25 : Int32) fpp fcolumns fcount i_9) ++ (wST cI sah szah szan starget ssource snumber spower szcount szplaces) ++ (wSH cI yah yan u_1 u_2))) → va_S A s.heap H locs → ∀ (ls : Array Slot), lv_has ls 8 [(0, .ref ah), (1, .ref fah), (2, .int a1), (3, .int a2), (4, .int i_5), (5, .int i_8), (6, .int r_11)] → W p l e rm_X2_reduce_e01 s m args below meth c H locs 0 0 Q (F0 m 68 ls [.int j_18]) := by
                intro j_18 hq H locs hP hD hS ls hl
                have hr2 := hk3 _ hq
                refine lv_istore (lv' := [(7, .int j_18), (0, .ref ah), (1, .ref fah), (2, .int a1), (3, .int a2), (4, .int i_5), (5, .int i_8), (6, .int r_11)]) hx hb dX2_reduce_68 hl (by decide) rfl (fun ls hl => ?_)
                refine lv_iload hx hb dX2_reduce_70 (lv_at hl 0 rfl) ?_
                refine lv_iconst (v := -1) hx hb dX2_reduce_72 (by decide) ?_
                refine lv_icmp_eq (tgt := 105) hx hb dX2_reduce_73 (by decide) (fun c_19 => ?_) (fun c_19 => ?_)
                · have hr2 := it_t c_19 hr2
                  refine lv_iinc (v := (i_8 + (-1))) (lv' := [(5, .int (i_8 + (-1))), (7, .int j_18), (0, .ref ah), (1, .ref fah), (2, .int a1), (3, .int a2), (4, .int i_5), (6, .int r_11)]) hx hb dX2_reduce_105 hl (k := 6) rfl rfl (by decide) rfl (fun ls hl => ?_)
                  refine lv_goto (tgt := 31) hx hb dX2_reduce_108 (by decide) ?_
                  exact ih2 (i_8 + (-1)) i_9 (ht2 _ (Option.some.inj hr2).symm) H locs hP hD hS ls (lv_sub hl [2, 3, 4, 5, 6, 0] rfl)
                · have hr2 := it_f c_19 hr2
                  refine lv_aload_n hx hb dX2_reduce_76 rfl (lv_at hl 2 rfl) ?_
                  refine lv_iload_n hx hb dX2_reduce_77 rfl (lv_at hl 3 rfl) ?_
                  refine lv_aload_n hx hb dX2_reduce_78 rfl (lv_at hl 1 rfl) ?_
                  refine va_get (D := D) (ci := 2) (v := .ref lah) (C := RX2) (T := TX2) (N := 4) hx hb hts iX2_reduce_e01_X2 hown hG.1 hP 0 rfl rfl 0 (by decide) (hts _ fX2_reduce_e01_2) (fun _ h9 => h9) rfl dX2_reduce_79 ?_
                  refine lv_iload hx hb dX2_reduce_82 (lv_at hl 0 rfl) ?_
                  refine lv_iload hx hb dX2_reduce_84 (lv_at hl 7 rfl) ?_
                  refine lv_ineg hx hb dX2_reduce_86 ?_
                  refine lv_iload hx hb dX2_reduce_87 (lv_at hl 5 rfl) ?_
                  refine lv_aload_n hx hb dX2_reduce_89 rfl (lv_at hl 1 rfl) ?_
                  refine va_get (D := D) (ci := 2) (v := .ref yah) (C := RX2) (T := TX2) (N := 4) hx hb hts iX2_reduce_e01_X2 hown hG.1 hP 0 rfl rfl 3 (by decide) (hts _ fX2_reduce_e01_1) (fun _ h9 => h9) rfl dX2_reduce_90 ?_
                  refine lv_iload hx hb dX2_reduce_93 (lv_at hl 0 rfl) ?_
                  obtain ⟨v_22, hq_21, hk⟩ := bd1_s hr2
                  obtain ⟨r_20, rfl⟩ : ∃ y, y = v_22 := ⟨_, rfl⟩
                  have hr2 := hk _ rfl
                  have hPc : va_P D cls9 [(yah, .inr (5, [.ref yan, .int u_1])), (yan, .inl (cI, 5, .inl u_2))] H := hPsub hP [8, 9] rfl
                  have hDc : va_D A [(yah, .inr (5, [.ref yan, .int u_1])), (yan, .inl (cI, 5, .inl u_2))] := hD.sub [8, 9] (by decide +kernel) rfl
                  refine callIP (wr := [(ah, .inr (2, [.ref lah, .ref fah, .ref sah, .ref yah])), (lah, .inr (3, [.int (5 : Int32), .int (8 : Int32), .int (25 : Int32), .ref lan, .int lpp, .int lcolumns, .int lcount])), (lan, .inl (cI, 1000, .inl lnum)), (fah, .inr (3, [.int (1 : Int32), .int (8 : Int32), .int (25 : Int32), .ref fan, .int fpp, .int fcolumns, .int fcount])), (fan, .inl (cI, 200, .inl i_9)), (sah, .inr (6, [.ref szah, .int starget, .int ssource, .int snumber, .int spower])), (szah, .inr (5, [.ref szan, .int szcount])), (szan, .inl (cI, 5, .inl szplaces))]) (ws2 := ((ah, .inr (2, [.ref lah, .ref fah, .ref sah, .ref yah])) :: ((wR cI lah lan 1000 (5 : Int32) (8 : Int32) (25 : Int32) lpp lcolumns lcount lnum) ++ (wR cI fah fan 200 (1 : Int32) (8 : Int32) (25 : Int32) fpp fcolumns fcount i_9) ++ (wST cI sah szah szan starget ssource snumber spower szcount szplaces) ++ (wSH cI yah yan u_1 u_2)))) (gV (rest := [.int i_5, .int (-r_11), .int j_18, .ref lah, .int a1, .ref fah]) ⟨hx, hb, hml, hown, hts⟩ hG hPc hDc 0 5 rfl rfl (mtX5_placeAt l D cI cB cR yah yan H.size u_1 u_2 j_18 r_20 hq_21) (cwV 1 hts gX2_reduce_X5_placeAt rfl rfl rfl ⟨rfl, hd_X5_placeAt⟩ ⟨Nat.le_of_ble_eq_true rfl, Nat.le_of_ble_eq_true rfl⟩) rfl hl.1 rfl (Nat.le_of_ble_eq_true rfl) dX2_reduce_95) hP hD hS hA [8, 9] [0, 1, 2, 3, 4, 5, 6, 7] [0, 1, 2, 3, 4, 5, 6, 7, 8, 9] rfl rfl (by decide +kernel) (by decide +kernel) rfl (by decide +kernel) (fun H locs hP hD hS => ?_)
                  refine callI0 (gSN (rest := [.int i_5, .int (-r_11), .int j_18, .ref lah, .int a1, .ref fah]) ⟨hx, hb, hml, hown, hts⟩ hG vaP0 (vaD0 (A := A)) (mtX7_powerAt l D cI cB cR H.size r_20 _ rfl) (va_cnB (host := "PopovRows") 1 hts gX2_reduce_X7_powerAt_n131 rfl rfl rfl (hG.2 _ nl_18) (hts _ fX2_reduce_e01_5) hd_X7_powerAt ⟨Nat.le_of_ble_eq_true rfl, Nat.le_of_ble_eq_true rfl⟩) (hts _ fX2_reduce_e01_6) rfl hl.1 rfl (Nat.le_of_ble_eq_true rfl) dX2_reduce_98) hP hS hA (fun H locs hP hS => ?_)
                  refine lv_isub hx hb dX2_reduce_101 ?_
                  obtain ⟨v_25, hq_24, hk⟩ := bd1_s hr2
                  obtain ⟨u_23, rfl⟩ : ∃ y, y = v_25 := ⟨_, rfl⟩
                  have hr2 := hk _ rfl
                  have hPc : va_P D cls9 [(fah, .inr (3, [.int (1 : Int32), .int (8 : Int32), .int (25 : Int32), .ref fan, .int fpp, .int fcolumns, .int fcount])), (fan, .inl (cI, 200, .inl i_9)), (lah, .inr (3, [.int (5 : Int32), .int (8 : Int32), .int (25 : Int32), .ref lan, .int lpp, .int lcolumns, .int lcount])), (lan, .inl (cI, 1000, .inl lnum))] H := hPsub hP [3, 4, 1, 2] rfl
                  have hDc : va_D A [(fah, .inr (3, [.int (1 : Int32), .int (8 : Int32), .int (25 : Int32), .ref fan, .int fpp, .int fcolumns, .int fcount])), (fan, .inl (cI, 200, .inl i_9)), (lah, .inr (3, [.int (5 : Int32), .int (8 : Int32), .int (25 : Int32), .ref lan, .int lpp, .int lcolumns, .int lcount])), (lan, .inl (cI, 1000, .inl lnum))] := hD.sub [3, 4, 1, 2] (by decide +kernel) rfl
                  refine callVP (wr := [(ah, .inr (2, [.ref lah, .ref fah, .ref sah, .ref yah])), (sah, .inr (6, [.ref szah, .int starget, .int ssource, .int snumber, .int spower])), (szah, .inr (5, [.ref szan, .int szcount])), (szan, .inl (cI, 5, .inl szplaces)), (yah, .inr (5, [.ref yan, .int u_1])), (yan, .inl (cI, 5, .inl u_2))]) (ws2 := ((ah, .inr (2, [.ref lah, .ref fah, .ref sah, .ref yah])) :: ((wR cI lah lan 1000 (5 : Int32) (8 : Int32) (25 : Int32) lpp lcolumns lcount lnum) ++ (wR cI fah fan 200 (1 : Int32) (8 : Int32) (25 : Int32) fpp fcolumns fcount u_23) ++ (wST cI sah szah szan starget ssource snumber spower szcount szplaces) ++ (wSH cI yah yan u_1 u_2)))) (gV (rest := []) ⟨hx, hb, hml, hown, hts⟩ hG hPc hDc 0 3 rfl rfl (mtX3_addTimes l D cI cB cR fah fan lah lan H.size 200 (1 : Int32) (8 : Int32) (25 : Int32) fpp fcolumns fcount i_9 1000 (5 : Int32) (8 : Int32) (25 : Int32) lpp lcolumns lcount lnum a1 j_18 (-r_11) (i_5 - (fX7_powerAt r_20)) u_23 hq_24) (cwV 5 hts gX2_reduce_X3_addTimes rfl rfl rfl ⟨rfl, hd_X3_addTimes⟩ ⟨Nat.le_of_ble_eq_true rfl, Nat.le_of_ble_eq_true rfl⟩) rfl hl.1 rfl (Nat.le_of_ble_eq_true rfl) dX2_reduce_102) hP hD hS hA [3, 4, 1, 2] [0, 5, 6, 7, 8, 9] [0, 8, 9, 6, 7, 1, 2, 3, 4, 5] rfl rfl (by decide +kernel) (by decide +kernel) rfl (by decide +kernel) (fun H locs hP hD hS => ?_)
                  refine lv_iinc (v := (i_8 + (-1))) (lv' := [(5, .int (i_8 + (-1))), (7, .int j_18), (0, .ref ah), (1, .ref fah), (2, .int a1), (3, .int a2), (4, .int i_5), (6, .int r_11)]) hx hb dX2_reduce_105 hl (k := 6) rfl rfl (by decide) rfl (fun ls hl => ?_)
                  refine lv_goto (tgt := 31) hx hb dX2_reduce_108 (by decide) ?_
                  exact ih2 (i_8 + (-1)) u_23 (ht2 _ (Option.some.inj hr2).symm) H locs hP hD hS ls (lv_sub hl [2, 3, 4, 5, 6, 0] rfl)
              refine lv_if_ne (tgt := 56) hx hb dX2_reduce_49 (by decide) (fun c_14 => ?_) (fun c_14 => ?_)
              · have hj3 := it_f c_14 hj3
                refine lv_aload_n hx hb dX2_reduce_56 rfl (lv_at hl 1 rfl) ?_
                refine va_get (D := D) (ci := 2) (v := .ref yah) (C := RX2) (T := TX2) (N := 4) hx hb hts iX2_reduce_e01_X2 hown hG.1 hP 0 rfl rfl 3 (by decide) (hts _ fX2_reduce_e01_1) (fun _ h9 => h9) rfl dX2_reduce_57 ?_
                refine lv_iload hx hb dX2_reduce_60 (lv_at hl 6 rfl) ?_
                refine lv_iload hx hb dX2_reduce_62 (lv_at hl 5 rfl) ?_
                refine lv_iload_n hx hb dX2_reduce_64 rfl (lv_at hl 4 rfl) ?_
                obtain ⟨v_17, hq_16, hk⟩ := bd1_s hj3
                obtain ⟨r_15, rfl⟩ : ∃ y, y = v_17 := ⟨_, rfl⟩
                have hj3 := hk _ rfl
                have hPc : va_P D cls9 [(yah, .inr (5, [.ref yan, .int u_1])), (yan, .inl (cI, 5, .inl u_2))] H := hPsub hP [8, 9] rfl
                have hDc : va_D A [(yah, .inr (5, [.ref yan, .int u_1])), (yan, .inl (cI, 5, .inl u_2))] := hD.sub [8, 9] (by decide +kernel) rfl
                refine callIP (wr := [(ah, .inr (2, [.ref lah, .ref fah, .ref sah, .ref yah])), (lah, .inr (3, [.int (5 : Int32), .int (8 : Int32), .int (25 : Int32), .ref lan, .int lpp, .int lcolumns, .int lcount])), (lan, .inl (cI, 1000, .inl lnum)), (fah, .inr (3, [.int (1 : Int32), .int (8 : Int32), .int (25 : Int32), .ref fan, .int fpp, .int fcolumns, .int fcount])), (fan, .inl (cI, 200, .inl i_9)), (sah, .inr (6, [.ref szah, .int starget, .int ssource, .int snumber, .int spower])), (szah, .inr (5, [.ref szan, .int szcount])), (szan, .inl (cI, 5, .inl szplaces))]) (ws2 := ((ah, .inr (2, [.ref lah, .ref fah, .ref sah, .ref yah])) :: ((wR cI lah lan 1000 (5 : Int32) (8 : Int32) (25 : Int32) lpp lcolumns lcount lnum) ++ (wR cI fah fan 200 (1 : Int32) (8 : Int32) (25 : Int32) fpp fcolumns fcount i_9) ++ (wST cI sah szah szan starget ssource snumber spower szcount szplaces) ++ (wSH cI yah yan u_1 u_2)))) (gV (rest := []) ⟨hx, hb, hml, hown, hts⟩ hG hPc hDc 0 5 rfl rfl (mtX5_rowFor l D cI cB cR yah yan H.size u_1 u_2 i_8 i_5 a2 r_15 hq_16) (cwV 3 hts gX2_reduce_X5_rowFor rfl rfl rfl ⟨rfl, hd_X5_rowFor⟩ ⟨Nat.le_of_ble_eq_true rfl, Nat.le_of_ble_eq_true rfl⟩) rfl hl.1 rfl (Nat.le_of_ble_eq_true rfl) dX2_reduce_65) hP hD hS hA [8, 9] [0, 1, 2, 3, 4, 5, 6, 7] [0, 1, 2, 3, 4, 5, 6, 7, 8, 9] rfl rfl (by decide +kernel) (by decide +kernel) rfl (by decide +kernel) (fun H locs hP hD hS => ?_)
                exact hJ3 r_15 (Option.some.inj hj3).symm  H locs hP hD hS ls (lv_sub hl [1, 2, 3, 4, 5, 6, 0] rfl)
              · have hj3 := it_t c_14 hj3
                refine lv_iconst (v := -1) hx hb dX2_reduce_52 (by decide) ?_
                refine lv_goto (tgt := 68) hx hb dX2_reduce_53 (by decide) ?_
                exact hJ3 (-1 : Int32) (Option.some.inj hj3).symm  H locs hP hD hS ls (lv_sub hl [1, 2, 3, 4, 5, 6, 0] rfl)
        obtain ⟨n2, hn2⟩ := Lp_s hw2
        exact hL2 n2 (lcolumns - (1 : Int32)) i_6 hn2 H locs hP hD hS ls (lv_sub hl [1, 2, 3, 4, 5, 0] rfl)
  obtain ⟨n1, hn1⟩ := Lp_s hw1
  exact hL1 n1 (7 : Int32) fnum hn1 H locs hP hD hS ls (lv_sub hl [1, 2, 3, 4, 0] rfl)
abbrev rm_X2_divide : Room := { frames := 5, cells := 0, slots := 0, locals := 123 }
theorem iX2_divide_X2 : ∀ w ∈ wsX20, w ∈ wsX2_divide := fun _ h => (List.mem_cons_of_mem _ (List.mem_append_left _ (List.mem_append_left _ (List.mem_append_right _ h))))
theorem fX2_divide_1 : Cond.fieldLink RX2 20 "PopovRows$Popov" "left" "LPopovRows$Rows;" ∈ wsX2_divide := (List.mem_cons_of_mem _ (List.mem_append_left _ (List.mem_append_left _ (List.mem_append_left _ (List.mem_append_left _ (List.mem_of_getElem? (i := 0) rfl))))))
theorem iX2_divide_X3 : ∀ w ∈ wsX30, w ∈ wsX2_divide := fun _ h => (List.mem_cons_of_mem _ (List.mem_append_left _ (List.mem_append_right _ h)))
theorem fX2_divide_3 : Cond.fieldLink RX2 37 "PopovRows$Rows" "p" "I" ∈ wsX2_divide := (List.mem_cons_of_mem _ (List.mem_append_left _ (List.mem_append_left _ (List.mem_append_left _ (List.mem_append_left _ (List.mem_of_getElem? (i := 1) rfl))))))
theorem fX2_divide_4 : Cond.fieldLink RX2 41 "PopovRows$Rows" "columns" "I" ∈ wsX2_divide := (List.mem_cons_of_mem _ (List.mem_append_left _ (List.mem_append_left _ (List.mem_append_left _ (List.mem_append_left _ (List.mem_of_getElem? (i := 2) rfl))))))
set_option maxHeartbeats 4000000 in
set_option maxRecDepth 100000 in
theorem mtX2_divide (l : Launch) (D : va_G) (cI cB cR : ClassId) (ah : Nat) (lah : Nat) (lan : Nat) (fah : Nat) (fan : Nat) (sah : Nat) (szah : Nat) (szan : Nat) (yah : Nat) (yan : Nat) (qah : Nat) (qan : Nat) (sz : Nat) (lpp : Int32) (lcolumns : Int32) (lcount : Int32) (lnum : Nat → Int32) (fpp : Int32) (fcolumns : Int32) (fcount : Int32) (fnum : Nat → Int32) (starget : Int32) (ssource : Int32) (snumber : Int32) (spower : Int32) (szcount : Int32) (szplaces : Nat → Int32) (ycount : Int32) (yplaces : Nat → Int32) (qL : Nat) (qroom : Int32) (qwidth : Int32) (qpowers : Int32) (qpp : Int32) (qcolumns : Int32) (qcount : Int32) (qnum : Nat → Int32) (a1 : Int32) (res : Int32 × Int32 × Int32 × (Nat → Int32) × Int32 × (Nat → Int32)) (hf : fX2_divide lcolumns lcount lnum fnum yplaces qL qroom qwidth qpowers qpp qcolumns qnum a1 = some res) : Met l yX2_divide wsX2_divide rm_X2_divide (qP D cI cB cR [.ref ah, .ref qah, .int a1] (((ah, .inr (2, [.ref lah, .ref fah, .ref sah, .ref yah])) :: ((wR cI lah lan 1000 (5 : Int32) (8 : Int32) (25 : Int32) lpp lcolumns lcount lnum) ++ (wR cI fah fan 200 (1 : Int32) (8 : Int32) (25 : Int32) fpp fcolumns fcount fnum) ++ (wST cI sah szah szan starget ssource snumber spower szcount szplaces) ++ (wSH cI yah yan ycount yplaces))) ++ (wR cI qah qan qL qroom qwidth qpowers qpp qcolumns qcount qnum)) sz) (qV D (((ah, .inr (2, [.ref lah, .ref fah, .ref sah, .ref yah])) :: ((wR cI lah lan 1000 (5 : Int32) (8 : Int32) (25 : Int32) lpp lcolumns lcount lnum) ++ (wR cI fah fan 200 (1 : Int32) (8 : Int32) (25 : Int32) fpp fcolumns fcount fnum) ++ (wST cI sah szah szan starget ssource snumber spower szcount szplaces) ++ (wSH cI yah yan ycount yplaces))) ++ (wR cI qah qan qL qroom qwidth qpowers qpp qcolumns qcount qnum)) (((ah, .inr (2, [.ref lah, .ref fah, .ref sah, .ref yah])) :: ((wR cI lah lan 1000 (5 : Int32) (8 : Int32) (25 : Int32) lpp lcolumns lcount lnum) ++ (wR cI fah fan 200 (1 : Int32) (8 : Int32) (25 : Int32) res.1 res.2.1 res.2.2.1 res.2.2.2.1) ++ (wST cI sah szah szan starget ssource snumber spower szcount szplaces) ++ (wSH cI yah yan res.2.2.2.2.1 res.2.2.2.2.2))) ++ (wR cI qah qan qL qroom qwidth qpowers qpp qcolumns qcount qnum)) sz) 0 0 (va_A (((ah, .inr (2, [.ref lah, .ref fah, .ref sah, .ref yah])) :: ((wR cI lah lan 1000 (5 : Int32) (8 : Int32) (25 : Int32) lpp lcolumns lcount lnum) ++ (wR cI fah fan 200 (1 : Int32) (8 : Int32) (25 : Int32) fpp fcolumns fcount fnum) ++ (wST cI sah szah szan starget ssource snumber spower szcount szplaces) ++ (wSH cI yah yan ycount yplaces))) ++ (wR cI qah qan qL qroom qwidth qpowers qpp qcolumns qcount qnum)) sz) := by
  refine entV (plainFor_of_name (by decide)) rfl (Nat.le_of_ble_eq_true rfl) ?_
  intro p e s m args below meth c Q A ls S hG hP hD hA hl hE
  obtain ⟨hx, hb, hml, hown, hts⟩ := S
  have hown : s.vm.findClass RX2 = some m.cls := hown
  have hS : va_S A s.heap s.heap [] := va_S.rf
  have hl : lv_has ls 3 [(0, .ref ah), (1, .ref qah), (2, .int a1)] := hl
  have hq := hf
  unfold fX2_divide at hq
  obtain ⟨H, hH⟩ : ∃ H, H = s.heap := ⟨_, rfl⟩
  obtain ⟨locs, hlo⟩ : ∃ L : List Loc, L = [] := ⟨_, rfl⟩
  have hP : va_P D cls9 (((ah, .inr (2, [.ref lah, .ref fah, .ref sah, .ref yah])) :: ((wR cI lah lan 1000 (5 : Int32) (8 : Int32) (25 : Int32) lpp lcolumns lcount lnum) ++ (wR cI fah fan 200 (1 : Int32) (8 : Int32) (25 : Int32) fpp fcolumns fcount fnum) ++ (wST cI sah szah szan starget ssource snumber spower szcount szplaces) ++ (wSH cI yah yan ycount yplaces))) ++ (wR cI qah qan qL qroom qwidth qpowers qpp qcolumns qcount qnum)) H := hH ▸ hP
  have hS : va_S A s.heap H locs := by rw [hH, hlo]; exact hS
  suffices hg : W p l e rm_X2_divide s m args below meth c H locs 0 0 Q (F0 m 0 ls []) by rw [hH, hlo] at hg; exact hg
  refine lv_aload_n hx hb dX2_divide_0 rfl (lv_at hl 0 rfl) ?_
  refine va_get (D := D) (ci := 2) (v := .ref fah) (C := RX2) (T := TX2) (N := 4) hx hb hts iX2_divide_X2 hown hG.1 hP 0 rfl rfl 1 (by decide) (hts _ fX2_divide_1) (fun _ h9 => h9) rfl dX2_divide_1 ?_
  refine lv_aload_n hx hb dX2_divide_4 rfl (lv_at hl 1 rfl) ?_
  refine va_get (D := D) (ci := 3) (v := .int qpp) (C := RX3) (T := TX3) (N := 7) hx hb hts iX2_divide_X3 hown hG.1 hP 10 rfl rfl 4 (by decide) (hts _ fX2_divide_3) (fun _ h9 => h9) rfl dX2_divide_5 ?_
  refine lv_aload_n hx hb dX2_divide_8 rfl (lv_at hl 1 rfl) ?_
  refine va_get (D := D) (ci := 3) (v := .int qcolumns) (C := RX3) (T := TX3) (N := 7) hx hb hts iX2_divide_X3 hown hG.1 hP 10 rfl rfl 5 (by decide) (hts _ fX2_divide_4) (fun _ h9 => h9) rfl dX2_divide_9 ?_
  obtain ⟨v_5, hq_4, hk⟩ := bd3_s hq
  obtain ⟨u_1, u_2, u_3⟩ := v_5
  have hq := hk _ _ _ rfl
  have hPc : va_P D cls9 [(fah, .inr (3, [.int (1 : Int32), .int (8 : Int32), .int (25 : Int32), .ref fan, .int fpp, .int fcolumns, .int fcount])), (fan, .inl (cI, 200, .inl fnum))] H := hPsub hP [3, 4] rfl
  have hDc : va_D A [(fah, .inr (3, [.int (1 : Int32), .int (8 : Int32), .int (25 : Int32), .ref fan, .int fpp, .int fcolumns, .int fcount])), (fan, .inl (cI, 200, .inl fnum))] := hD.sub [3, 4] (by decide +kernel) rfl
  refine callVP (wr := [(ah, .inr (2, [.ref lah, .ref fah, .ref sah, .ref yah])), (lah, .inr (3, [.int (5 : Int32), .int (8 : Int32), .int (25 : Int32), .ref lan, .int lpp, .int lcolumns, .int lcount])), (lan, .inl (cI, 1000, .inl lnum)), (sah, .inr (6, [.ref szah, .int starget, .int ssource, .int snumber, .int spower])), (szah, .inr (5, [.ref szan, .int szcount])), (szan, .inl (cI, 5, .inl szplaces)), (yah, .inr (5, [.ref yan, .int ycount])), (yan, .inl (cI, 5, .inl yplaces)), (qah, .inr (3, [.int qroom, .int qwidth, .int qpowers, .ref qan, .int qpp, .int qcolumns, .int qcount])), (qan, .inl (cI, qL, .inl qnum))]) (ws2 := (((ah, .inr (2, [.ref lah, .ref fah, .ref sah, .ref yah])) :: ((wR cI lah lan 1000 (5 : Int32) (8 : Int32) (25 : Int32) lpp lcolumns lcount lnum) ++ (wR cI fah fan 200 (1 : Int32) (8 : Int32) (25 : Int32) u_1 u_2 u_3 fnum) ++ (wST cI sah szah szan starget ssource snumber spower szcount szplaces) ++ (wSH cI yah yan ycount yplaces))) ++ (wR cI qah qan qL qroom qwidth qpowers qpp qcolumns qcount qnum))) (gV (rest := []) ⟨hx, hb, hml, hown, hts⟩ hG hPc hDc 0 3 rfl rfl (mtX3_reset l D cI cB cR fah fan H.size 200 (1 : Int32) (8 : Int32) (25 : Int32) fpp fcolumns fcount fnum qpp qcolumns (u_1, u_2, u_3) hq_4) (cwV 2 hts gX2_divide_X3_reset rfl rfl rfl ⟨rfl, hd_X3_reset⟩ ⟨Nat.le_of_ble_eq_true rfl, Nat.le_of_ble_eq_true rfl⟩) rfl hl.1 rfl (Nat.le_of_ble_eq_true rfl) dX2_divide_12) hP hD hS hA [3, 4] [0, 1, 2, 5, 6, 7, 8, 9, 10, 11] [0, 1, 2, 10, 11, 3, 4, 5, 6, 7, 8, 9] rfl rfl (by decide +kernel) (by decide +kernel) (mgN [none, none, none, some 0, some 1, none, none, none, none, none, none, none] 10 rfl (by decide +kernel) rfl) (by decide +kernel) (fun H locs hP hD hS => ?_)
  refine lv_aload_n hx hb dX2_divide_15 rfl (lv_at hl 0 rfl) ?_
  refine va_get (D := D) (ci := 2) (v := .ref fah) (C := RX2) (T := TX2) (N := 4) hx hb hts iX2_divide_X2 hown hG.1 hP 0 rfl rfl 1 (by decide) (hts _ fX2_divide_1) (fun _ h9 => h9) rfl dX2_divide_16 ?_
  obtain ⟨v_10, hq_9, hk⟩ := bd3_s hq
  obtain ⟨r_6, u_7, u_8⟩ := v_10
  have hq := hk _ _ _ rfl
  have hPc : va_P D cls9 [(fah, .inr (3, [.int (1 : Int32), .int (8 : Int32), .int (25 : Int32), .ref fan, .int u_1, .int u_2, .int u_3])), (fan, .inl (cI, 200, .inl fnum))] H := hPsub hP [3, 4] rfl
  have hDc : va_D A [(fah, .inr (3, [.int (1 : Int32), .int (8 : Int32), .int (25 : Int32), .ref fan, .int u_1, .int u_2, .int u_3])), (fan, .inl (cI, 200, .inl fnum))] := hD.sub [3, 4] (by decide +kernel) rfl
  refine callIP (wr := [(ah, .inr (2, [.ref lah, .ref fah, .ref sah, .ref yah])), (lah, .inr (3, [.int (5 : Int32), .int (8 : Int32), .int (25 : Int32), .ref lan, .int lpp, .int lcolumns, .int lcount])), (lan, .inl (cI, 1000, .inl lnum)), (sah, .inr (6, [.ref szah, .int starget, .int ssource, .int snumber, .int spower])), (szah, .inr (5, [.ref szan, .int szcount])), (szan, .inl (cI, 5, .inl szplaces)), (yah, .inr (5, [.ref yan, .int ycount])), (yan, .inl (cI, 5, .inl yplaces)), (qah, .inr (3, [.int qroom, .int qwidth, .int qpowers, .ref qan, .int qpp, .int qcolumns, .int qcount])), (qan, .inl (cI, qL, .inl qnum))]) (ws2 := (((ah, .inr (2, [.ref lah, .ref fah, .ref sah, .ref yah])) :: ((wR cI lah lan 1000 (5 : Int32) (8 : Int32) (25 : Int32) lpp lcolumns lcount lnum) ++ (wR cI fah fan 200 (1 : Int32) (8 : Int32) (25 : Int32) u_1 u_2 u_7 u_8) ++ (wST cI sah szah szan starget ssource snumber spower szcount szplaces) ++ (wSH cI yah yan ycount yplaces))) ++ (wR cI qah qan qL qroom qwidth qpowers qpp qcolumns qcount qnum))) (gV (rest := []) ⟨hx, hb, hml, hown, hts⟩ hG hPc hDc 0 3 rfl rfl (mtX3_append l D cI cB cR fah fan H.size 200 (1 : Int32) (8 : Int32) (25 : Int32) u_1 u_2 u_3 fnum (r_6, u_7, u_8) hq_9) (cwV 0 hts gX2_divide_X3_append rfl rfl rfl ⟨rfl, hd_X3_append⟩ ⟨Nat.le_of_ble_eq_true rfl, Nat.le_of_ble_eq_true rfl⟩) rfl hl.1 rfl (Nat.le_of_ble_eq_true rfl) dX2_divide_19) hP hD hS hA [3, 4] [0, 1, 2, 5, 6, 7, 8, 9, 10, 11] [0, 1, 2, 10, 11, 3, 4, 5, 6, 7, 8, 9] rfl rfl (by decide +kernel) (by decide +kernel) (mgN [none, none, none, some 0, some 1, none, none, none, none, none, none, none] 10 rfl (by decide +kernel) rfl) (by decide +kernel) (fun H locs hP hD hS => ?_)
  refine lv_pop hx hb dX2_divide_22 rfl ?_
  refine lv_aload_n hx hb dX2_divide_23 rfl (lv_at hl 0 rfl) ?_
  refine va_get (D := D) (ci := 2) (v := .ref fah) (C := RX2) (T := TX2) (N := 4) hx hb hts iX2_divide_X2 hown hG.1 hP 0 rfl rfl 1 (by decide) (hts _ fX2_divide_1) (fun _ h9 => h9) rfl dX2_divide_24 ?_
  refine lv_iconst (v := 0) hx hb dX2_divide_27 (by decide) ?_
  refine lv_aload_n hx hb dX2_divide_28 rfl (lv_at hl 1 rfl) ?_
  refine lv_iload_n hx hb dX2_divide_29 rfl (lv_at hl 2 rfl) ?_
  refine lv_iconst (v := 1) hx hb dX2_divide_30 (by decide) ?_
  refine lv_iconst (v := 0) hx hb dX2_divide_31 (by decide) ?_
  obtain ⟨v_13, hq_12, hk⟩ := bd1_s hq
  obtain ⟨u_11, rfl⟩ : ∃ y, y = v_13 := ⟨_, rfl⟩
  have hq := hk _ rfl
  have hPc : va_P D cls9 [(fah, .inr (3, [.int (1 : Int32), .int (8 : Int32), .int (25 : Int32), .ref fan, .int u_1, .int u_2, .int u_7])), (fan, .inl (cI, 200, .inl u_8)), (qah, .inr (3, [.int qroom, .int qwidth, .int qpowers, .ref qan, .int qpp, .int qcolumns, .int qcount])), (qan, .inl (cI, qL, .inl qnum))] H := hPsub hP [3, 4, 10, 11] rfl
  have hDc : va_D A [(fah, .inr (3, [.int (1 : Int32), .int (8 : Int32), .int (25 : Int32), .ref fan, .int u_1, .int u_2, .int u_7])), (fan, .inl (cI, 200, .inl u_8)), (qah, .inr (3, [.int qroom, .int qwidth, .int qpowers, .ref qan, .int qpp, .int qcolumns, .int qcount])), (qan, .inl (cI, qL, .inl qnum))] := hD.sub [3, 4, 10, 11] (by decide +kernel) rfl
  refine callVP (wr := [(ah, .inr (2, [.ref lah, .ref fah, .ref sah, .ref yah])), (lah, .inr (3, [.int (5 : Int32), .int (8 : Int32), .int (25 : Int32), .ref lan, .int lpp, .int lcolumns, .int lcount])), (lan, .inl (cI, 1000, .inl lnum)), (sah, .inr (6, [.ref szah, .int starget, .int ssource, .int snumber, .int spower])), (szah, .inr (5, [.ref szan, .int szcount])), (szan, .inl (cI, 5, .inl szplaces)), (yah, .inr (5, [.ref yan, .int ycount])), (yan, .inl (cI, 5, .inl yplaces))]) (ws2 := (((ah, .inr (2, [.ref lah, .ref fah, .ref sah, .ref yah])) :: ((wR cI lah lan 1000 (5 : Int32) (8 : Int32) (25 : Int32) lpp lcolumns lcount lnum) ++ (wR cI fah fan 200 (1 : Int32) (8 : Int32) (25 : Int32) u_1 u_2 u_7 u_11) ++ (wST cI sah szah szan starget ssource snumber spower szcount szplaces) ++ (wSH cI yah yan ycount yplaces))) ++ (wR cI qah qan qL qroom qwidth qpowers qpp qcolumns qcount qnum))) (gV (rest := []) ⟨hx, hb, hml, hown, hts⟩ hG hPc hDc 0 3 rfl rfl (mtX3_addTimes l D cI cB cR fah fan qah qan H.size 200 (1 : Int32) (8 : Int32) (25 : Int32) u_1 u_2 u_7 u_8 qL qroom qwidth qpowers qpp qcolumns qcount qnum (0 : Int32) a1 (1 : Int32) (0 : Int32) u_11 hq_12) (cwV 5 hts gX2_divide_X3_addTimes rfl rfl rfl ⟨rfl, hd_X3_addTimes⟩ ⟨Nat.le_of_ble_eq_true rfl, Nat.le_of_ble_eq_true rfl⟩) rfl hl.1 rfl (Nat.le_of_ble_eq_true rfl) dX2_divide_32) hP hD hS hA [3, 4, 10, 11] [0, 1, 2, 5, 6, 7, 8, 9] [0, 1, 2, 8, 9, 3, 4, 5, 6, 7, 10, 11] rfl rfl (by decide +kernel) (by decide +kernel) (mgN [none, none, none, some 0, some 1, none, none, none, none, none, some 2, some 3] 8 rfl (by decide +kernel) rfl) (by decide +kernel) (fun H locs hP hD hS => ?_)
  refine lv_aload_n hx hb dX2_divide_35 rfl (lv_at hl 0 rfl) ?_
  refine lv_aload_n hx hb dX2_divide_36 rfl (lv_at hl 0 rfl) ?_
  refine va_get (D := D) (ci := 2) (v := .ref fah) (C := RX2) (T := TX2) (N := 4) hx hb hts iX2_divide_X2 hown hG.1 hP 0 rfl rfl 1 (by decide) (hts _ fX2_divide_1) (fun _ h9 => h9) rfl dX2_divide_37 ?_
  refine lv_iconst (v := 0) hx hb dX2_divide_40 (by decide) ?_
  refine lv_iconst (v := -1) hx hb dX2_divide_41 (by decide) ?_
  obtain ⟨v_18, hq_17, hk⟩ := bd3_s hq
  obtain ⟨u_14, u_15, u_16⟩ := v_18
  have hq := hk _ _ _ rfl
  have hPc : va_P D cls9 [(ah, .inr (2, [.ref lah, .ref fah, .ref sah, .ref yah])), (lah, .inr (3, [.int (5 : Int32), .int (8 : Int32), .int (25 : Int32), .ref lan, .int lpp, .int lcolumns, .int lcount])), (lan, .inl (cI, 1000, .inl lnum)), (fah, .inr (3, [.int (1 : Int32), .int (8 : Int32), .int (25 : Int32), .ref fan, .int u_1, .int u_2, .int u_7])), (fan, .inl (cI, 200, .inl u_11)), (sah, .inr (6, [.ref szah, .int starget, .int ssource, .int snumber, .int spower])), (szah, .inr (5, [.ref szan, .int szcount])), (szan, .inl (cI, 5, .inl szplaces)), (yah, .inr (5, [.ref yan, .int ycount])), (yan, .inl (cI, 5, .inl yplaces))] H := hPsub hP [0, 1, 2, 3, 4, 5, 6, 7, 8, 9] rfl
  have hDc : va_D A [(ah, .inr (2, [.ref lah, .ref fah, .ref sah, .ref yah])), (lah, .inr (3, [.int (5 : Int32), .int (8 : Int32), .int (25 : Int32), .ref lan, .int lpp, .int lcolumns, .int lcount])), (lan, .inl (cI, 1000, .inl lnum)), (fah, .inr (3, [.int (1 : Int32), .int (8 : Int32), .int (25 : Int32), .ref fan, .int u_1, .int u_2, .int u_7])), (fan, .inl (cI, 200, .inl u_11)), (sah, .inr (6, [.ref szah, .int starget, .int ssource, .int snumber, .int spower])), (szah, .inr (5, [.ref szan, .int szcount])), (szan, .inl (cI, 5, .inl szplaces)), (yah, .inr (5, [.ref yan, .int ycount])), (yan, .inl (cI, 5, .inl yplaces))] := hD.sub [0, 1, 2, 3, 4, 5, 6, 7, 8, 9] (by decide +kernel) rfl
  refine callVP (wr := [(qah, .inr (3, [.int qroom, .int qwidth, .int qpowers, .ref qan, .int qpp, .int qcolumns, .int qcount])), (qan, .inl (cI, qL, .inl qnum))]) (ws2 := (((ah, .inr (2, [.ref lah, .ref fah, .ref sah, .ref yah])) :: ((wR cI lah lan 1000 (5 : Int32) (8 : Int32) (25 : Int32) lpp lcolumns lcount lnum) ++ (wR cI fah fan 200 (1 : Int32) (8 : Int32) (25 : Int32) u_1 u_2 u_7 u_14) ++ (wST cI sah szah szan starget ssource snumber spower szcount szplaces) ++ (wSH cI yah yan u_15 u_16))) ++ (wR cI qah qan qL qroom qwidth qpowers qpp qcolumns qcount qnum))) (gV (rest := []) ⟨hx, hb, hml, hown, hts⟩ hG hPc hDc 0 2 rfl rfl (mtX2_reduce_e01 l D cI cB cR ah lah lan fah fan sah szah szan yah yan H.size lpp lcolumns lcount lnum u_1 u_2 u_7 u_11 starget ssource snumber spower szcount szplaces ycount yplaces (0 : Int32) (-1 : Int32) (u_14, u_15, u_16) hq_17) (cwV 3 hts gX2_divide_X2_reduce rfl rfl rfl ⟨rfl, hd_X2_reduce⟩ ⟨Nat.le_of_ble_eq_true rfl, Nat.le_of_ble_eq_true rfl⟩) rfl hl.1 rfl (Nat.le_of_ble_eq_true rfl) dX2_divide_42) hP hD hS hA [0, 1, 2, 3, 4, 5, 6, 7, 8, 9] [10, 11] [2, 3, 4, 5, 6, 7, 8, 9, 10, 11, 0, 1] rfl rfl (by decide +kernel) (by decide +kernel) (mgN [some 0, some 1, some 2, some 3, some 4, some 5, some 6, some 7, some 8, some 9, none, none] 2 rfl (by decide +kernel) rfl) (by decide +kernel) (fun H locs hP hD hS => ?_)
  have he := Option.some.inj hq
  subst he
  exact hE H locs _ _ dX2_divide_45 hP hD hS
abbrev rm_X2_isDivided : Room := { frames := 3, cells := 0, slots := 0, locals := 68 }
theorem iX2_isDivided_X2 : ∀ w ∈ wsX20, w ∈ wsX2_isDivided := fun _ h => (List.mem_cons_of_mem _ (List.mem_append_left _ (List.mem_append_right _ h)))
theorem fX2_isDivided_1 : Cond.fieldLink RX2 20 "PopovRows$Popov" "left" "LPopovRows$Rows;" ∈ wsX2_isDivided := (List.mem_cons_of_mem _ (List.mem_append_left _ (List.mem_append_left _ (List.mem_of_getElem? (i := 0) rfl))))
set_option maxHeartbeats 4000000 in
set_option maxRecDepth 100000 in
theorem mtX2_isDivided (l : Launch) (D : va_G) (cI cB cR : ClassId) (ah : Nat) (lah : Nat) (lan : Nat) (fah : Nat) (fan : Nat) (sah : Nat) (szah : Nat) (szan : Nat) (yah : Nat) (yan : Nat) (sz : Nat) (lpp : Int32) (lcolumns : Int32) (lcount : Int32) (lnum : Nat → Int32) (fpp : Int32) (fcolumns : Int32) (fcount : Int32) (fnum : Nat → Int32) (starget : Int32) (ssource : Int32) (snumber : Int32) (spower : Int32) (szcount : Int32) (szplaces : Nat → Int32) (ycount : Int32) (yplaces : Nat → Int32) (res : Int32) (hf : fX2_isDivided fcolumns fnum = some res) : Met l yX2_isDivided wsX2_isDivided rm_X2_isDivided (qP D cI cB cR [.ref ah] ((ah, .inr (2, [.ref lah, .ref fah, .ref sah, .ref yah])) :: ((wR cI lah lan 1000 (5 : Int32) (8 : Int32) (25 : Int32) lpp lcolumns lcount lnum) ++ (wR cI fah fan 200 (1 : Int32) (8 : Int32) (25 : Int32) fpp fcolumns fcount fnum) ++ (wST cI sah szah szan starget ssource snumber spower szcount szplaces) ++ (wSH cI yah yan ycount yplaces))) sz) (qZ D res ((ah, .inr (2, [.ref lah, .ref fah, .ref sah, .ref yah])) :: ((wR cI lah lan 1000 (5 : Int32) (8 : Int32) (25 : Int32) lpp lcolumns lcount lnum) ++ (wR cI fah fan 200 (1 : Int32) (8 : Int32) (25 : Int32) fpp fcolumns fcount fnum) ++ (wST cI sah szah szan starget ssource snumber spower szcount szplaces) ++ (wSH cI yah yan ycount yplaces))) ((ah, .inr (2, [.ref lah, .ref fah, .ref sah, .ref yah])) :: ((wR cI lah lan 1000 (5 : Int32) (8 : Int32) (25 : Int32) lpp lcolumns lcount lnum) ++ (wR cI fah fan 200 (1 : Int32) (8 : Int32) (25 : Int32) fpp fcolumns fcount fnum) ++ (wST cI sah szah szan starget ssource snumber spower szcount szplaces) ++ (wSH cI yah yan ycount yplaces))) sz) 0 0 (va_A ((ah, .inr (2, [.ref lah, .ref fah, .ref sah, .ref yah])) :: ((wR cI lah lan 1000 (5 : Int32) (8 : Int32) (25 : Int32) lpp lcolumns lcount lnum) ++ (wR cI fah fan 200 (1 : Int32) (8 : Int32) (25 : Int32) fpp fcolumns fcount fnum) ++ (wST cI sah szah szan starget ssource snumber spower szcount szplaces) ++ (wSH cI yah yan ycount yplaces))) sz) := by
  refine entZ (plainFor_of_name (by decide)) rfl (Nat.le_of_ble_eq_true rfl) ?_
  intro p e s m args below meth c Q A ls S hG hP hD hA hl hE
  obtain ⟨hx, hb, hml, hown, hts⟩ := S
  have hown : s.vm.findClass RX2 = some m.cls := hown
  have hS : va_S A s.heap s.heap [] := va_S.rf
  have hl : lv_has ls 1 [(0, .ref ah)] := hl
  have hq := hf
  unfold fX2_isDivided at hq
  obtain ⟨H, hH⟩ : ∃ H, H = s.heap := ⟨_, rfl⟩
  obtain ⟨locs, hlo⟩ : ∃ L : List Loc, L = [] := ⟨_, rfl⟩
  have hP : va_P D cls9 ((ah, .inr (2, [.ref lah, .ref fah, .ref sah, .ref yah])) :: ((wR cI lah lan 1000 (5 : Int32) (8 : Int32) (25 : Int32) lpp lcolumns lcount lnum) ++ (wR cI fah fan 200 (1 : Int32) (8 : Int32) (25 : Int32) fpp fcolumns fcount fnum) ++ (wST cI sah szah szan starget ssource snumber spower szcount szplaces) ++ (wSH cI yah yan ycount yplaces))) H := hH ▸ hP
  have hS : va_S A s.heap H locs := by rw [hH, hlo]; exact hS
  suffices hg : W p l e rm_X2_isDivided s m args below meth c H locs 0 0 Q (F0 m 0 ls []) by rw [hH, hlo] at hg; exact hg
  refine lv_aload_n hx hb dX2_isDivided_0 rfl (lv_at hl 0 rfl) ?_
  refine va_get (D := D) (ci := 2) (v := .ref fah) (C := RX2) (T := TX2) (N := 4) hx hb hts iX2_isDivided_X2 hown hG.1 hP 0 rfl rfl 1 (by decide) (hts _ fX2_isDivided_1) (fun _ h9 => h9) rfl dX2_isDivided_1 ?_
  refine lv_iconst (v := 0) hx hb dX2_isDivided_4 (by decide) ?_
  obtain ⟨v_3, hq_2, hk⟩ := bd1_s hq
  obtain ⟨r_1, rfl⟩ : ∃ y, y = v_3 := ⟨_, rfl⟩
  have hq := hk _ rfl
  have hPc : va_P D cls9 [(fah, .inr (3, [.int (1 : Int32), .int (8 : Int32), .int (25 : Int32), .ref fan, .int fpp, .int fcolumns, .int fcount])), (fan, .inl (cI, 200, .inl fnum))] H := hPsub hP [3, 4] rfl
  have hDc : va_D A [(fah, .inr (3, [.int (1 : Int32), .int (8 : Int32), .int (25 : Int32), .ref fan, .int fpp, .int fcolumns, .int fcount])), (fan, .inl (cI, 200, .inl fnum))] := hD.sub [3, 4] (by decide +kernel) rfl
  refine callIP (wr := [(ah, .inr (2, [.ref lah, .ref fah, .ref sah, .ref yah])), (lah, .inr (3, [.int (5 : Int32), .int (8 : Int32), .int (25 : Int32), .ref lan, .int lpp, .int lcolumns, .int lcount])), (lan, .inl (cI, 1000, .inl lnum)), (sah, .inr (6, [.ref szah, .int starget, .int ssource, .int snumber, .int spower])), (szah, .inr (5, [.ref szan, .int szcount])), (szan, .inl (cI, 5, .inl szplaces)), (yah, .inr (5, [.ref yan, .int ycount])), (yan, .inl (cI, 5, .inl yplaces))]) (ws2 := ((ah, .inr (2, [.ref lah, .ref fah, .ref sah, .ref yah])) :: ((wR cI lah lan 1000 (5 : Int32) (8 : Int32) (25 : Int32) lpp lcolumns lcount lnum) ++ (wR cI fah fan 200 (1 : Int32) (8 : Int32) (25 : Int32) fpp fcolumns fcount fnum) ++ (wST cI sah szah szan starget ssource snumber spower szcount szplaces) ++ (wSH cI yah yan ycount yplaces)))) (gV (rest := []) ⟨hx, hb, hml, hown, hts⟩ hG hPc hDc 0 3 rfl rfl (mtX3_degreeOf l D cI cB cR fah fan H.size 200 (1 : Int32) (8 : Int32) (25 : Int32) fpp fcolumns fcount fnum (0 : Int32) r_1 hq_2) (cwV 1 hts gX2_isDivided_X3_degreeOf rfl rfl rfl ⟨rfl, hd_X3_degreeOf⟩ ⟨Nat.le_of_ble_eq_true rfl, Nat.le_of_ble_eq_true rfl⟩) rfl hl.1 rfl (Nat.le_of_ble_eq_true rfl) dX2_isDivided_5) hP hD hS hA [3, 4] [0, 1, 2, 5, 6, 7, 8, 9] [0, 1, 2, 8, 9, 3, 4, 5, 6, 7] rfl rfl (by decide +kernel) (by decide +kernel) rfl (by decide +kernel) (fun H locs hP hD hS => ?_)
  refine lv_iconst (v := -1) hx hb dX2_isDivided_8 (by decide) ?_
  refine lv_icmp_ne (tgt := 16) hx hb dX2_isDivided_9 (by decide) (fun c_4 => ?_) (fun c_4 => ?_)
  · have hq := it_f c_4 hq
    refine lv_iconst (v := 0) hx hb dX2_isDivided_16 (by decide) ?_
    have he := Option.some.inj hq
    subst he
    exact hE H locs _ _ _ rfl (Or.inl rfl) dX2_isDivided_17 hP hD hS
  · have hq := it_t c_4 hq
    refine lv_iconst (v := 1) hx hb dX2_isDivided_12 (by decide) ?_
    refine lv_goto (tgt := 17) hx hb dX2_isDivided_13 (by decide) ?_
    have he := Option.some.inj hq
    subst he
    exact hE H locs _ _ _ rfl (Or.inr rfl) dX2_isDivided_17 hP hD hS
abbrev rm_X2_factorAt : Room := { frames := 2, cells := 0, slots := 0, locals := 43 }
theorem iX2_factorAt_X2 : ∀ w ∈ wsX20, w ∈ wsX2_factorAt := fun _ h => (List.mem_cons_of_mem _ (List.mem_append_left _ (List.mem_append_right _ h)))
theorem fX2_factorAt_1 : Cond.fieldLink RX2 20 "PopovRows$Popov" "left" "LPopovRows$Rows;" ∈ wsX2_factorAt := (List.mem_cons_of_mem _ (List.mem_append_left _ (List.mem_append_left _ (List.mem_of_getElem? (i := 0) rfl))))
theorem iX2_factorAt_X3 : ∀ w ∈ wsX30, w ∈ wsX2_factorAt := fun _ h => (List.mem_cons_of_mem _ (List.mem_append_right _ h))
theorem fX2_factorAt_3 : Cond.fieldLink RX2 37 "PopovRows$Rows" "p" "I" ∈ wsX2_factorAt := (List.mem_cons_of_mem _ (List.mem_append_left _ (List.mem_append_left _ (List.mem_of_getElem? (i := 1) rfl))))
theorem fX2_factorAt_4 : Cond.initialized RX7 ∈ wsX2_factorAt := (List.mem_cons_of_mem _ (List.mem_append_left _ (List.mem_append_left _ (List.mem_of_getElem? (i := 12) rfl))))
theorem fX2_factorAt_5 : Cond.static yX7_modulo ∈ wsX2_factorAt := (List.mem_cons_of_mem _ (List.mem_append_left _ (List.mem_append_left _ (List.mem_of_getElem? (i := 11) rfl))))
set_option maxHeartbeats 4000000 in
set_option maxRecDepth 100000 in
theorem mtX2_factorAt (l : Launch) (D : va_G) (cI cB cR : ClassId) (ah : Nat) (lah : Nat) (lan : Nat) (fah : Nat) (fan : Nat) (sah : Nat) (szah : Nat) (szan : Nat) (yah : Nat) (yan : Nat) (sz : Nat) (lpp : Int32) (lcolumns : Int32) (lcount : Int32) (lnum : Nat → Int32) (fpp : Int32) (fcolumns : Int32) (fcount : Int32) (fnum : Nat → Int32) (starget : Int32) (ssource : Int32) (snumber : Int32) (spower : Int32) (szcount : Int32) (szplaces : Nat → Int32) (ycount : Int32) (yplaces : Nat → Int32) (a0 : Int32) (a1 : Int32) (res : Int32) (hf : fX2_factorAt fpp fnum a0 a1 = some res) : Met l yX2_factorAt wsX2_factorAt rm_X2_factorAt (qP D cI cB cR [.ref ah, .int a0, .int a1] ((ah, .inr (2, [.ref lah, .ref fah, .ref sah, .ref yah])) :: ((wR cI lah lan 1000 (5 : Int32) (8 : Int32) (25 : Int32) lpp lcolumns lcount lnum) ++ (wR cI fah fan 200 (1 : Int32) (8 : Int32) (25 : Int32) fpp fcolumns fcount fnum) ++ (wST cI sah szah szan starget ssource snumber spower szcount szplaces) ++ (wSH cI yah yan ycount yplaces))) sz) (qI D res ((ah, .inr (2, [.ref lah, .ref fah, .ref sah, .ref yah])) :: ((wR cI lah lan 1000 (5 : Int32) (8 : Int32) (25 : Int32) lpp lcolumns lcount lnum) ++ (wR cI fah fan 200 (1 : Int32) (8 : Int32) (25 : Int32) fpp fcolumns fcount fnum) ++ (wST cI sah szah szan starget ssource snumber spower szcount szplaces) ++ (wSH cI yah yan ycount yplaces))) ((ah, .inr (2, [.ref lah, .ref fah, .ref sah, .ref yah])) :: ((wR cI lah lan 1000 (5 : Int32) (8 : Int32) (25 : Int32) lpp lcolumns lcount lnum) ++ (wR cI fah fan 200 (1 : Int32) (8 : Int32) (25 : Int32) fpp fcolumns fcount fnum) ++ (wST cI sah szah szan starget ssource snumber spower szcount szplaces) ++ (wSH cI yah yan ycount yplaces))) sz) 0 0 (va_A ((ah, .inr (2, [.ref lah, .ref fah, .ref sah, .ref yah])) :: ((wR cI lah lan 1000 (5 : Int32) (8 : Int32) (25 : Int32) lpp lcolumns lcount lnum) ++ (wR cI fah fan 200 (1 : Int32) (8 : Int32) (25 : Int32) fpp fcolumns fcount fnum) ++ (wST cI sah szah szan starget ssource snumber spower szcount szplaces) ++ (wSH cI yah yan ycount yplaces))) sz) := by
  refine entI (plainFor_of_name (by decide)) rfl (Nat.le_of_ble_eq_true rfl) ?_
  intro p e s m args below meth c Q A ls S hG hP hD hA hl hE
  obtain ⟨hx, hb, hml, hown, hts⟩ := S
  have hown : s.vm.findClass RX2 = some m.cls := hown
  have hS : va_S A s.heap s.heap [] := va_S.rf
  have hl : lv_has ls 3 [(0, .ref ah), (1, .int a0), (2, .int a1)] := hl
  have hq := hf
  unfold fX2_factorAt at hq
  obtain ⟨H, hH⟩ : ∃ H, H = s.heap := ⟨_, rfl⟩
  obtain ⟨locs, hlo⟩ : ∃ L : List Loc, L = [] := ⟨_, rfl⟩
  have hP : va_P D cls9 ((ah, .inr (2, [.ref lah, .ref fah, .ref sah, .ref yah])) :: ((wR cI lah lan 1000 (5 : Int32) (8 : Int32) (25 : Int32) lpp lcolumns lcount lnum) ++ (wR cI fah fan 200 (1 : Int32) (8 : Int32) (25 : Int32) fpp fcolumns fcount fnum) ++ (wST cI sah szah szan starget ssource snumber spower szcount szplaces) ++ (wSH cI yah yan ycount yplaces))) H := hH ▸ hP
  have hS : va_S A s.heap H locs := by rw [hH, hlo]; exact hS
  suffices hg : W p l e rm_X2_factorAt s m args below meth c H locs 0 0 Q (F0 m 0 ls []) by rw [hH, hlo] at hg; exact hg
  refine lv_aload_n hx hb dX2_factorAt_0 rfl (lv_at hl 0 rfl) ?_
  refine va_get (D := D) (ci := 2) (v := .ref fah) (C := RX2) (T := TX2) (N := 4) hx hb hts iX2_factorAt_X2 hown hG.1 hP 0 rfl rfl 1 (by decide) (hts _ fX2_factorAt_1) (fun _ h9 => h9) rfl dX2_factorAt_1 ?_
  refine lv_iconst (v := 0) hx hb dX2_factorAt_4 (by decide) ?_
  refine lv_iconst (v := 3) hx hb dX2_factorAt_5 (by decide) ?_
  refine lv_iload_n hx hb dX2_factorAt_6 rfl (lv_at hl 1 rfl) ?_
  refine lv_iadd hx hb dX2_factorAt_7 ?_
  refine lv_iload_n hx hb dX2_factorAt_8 rfl (lv_at hl 2 rfl) ?_
  obtain ⟨v_3, hq_2, hk⟩ := bd1_s hq
  obtain ⟨r_1, rfl⟩ : ∃ y, y = v_3 := ⟨_, rfl⟩
  have hq := hk _ rfl
  have hPc : va_P D cls9 [(fah, .inr (3, [.int (1 : Int32), .int (8 : Int32), .int (25 : Int32), .ref fan, .int fpp, .int fcolumns, .int fcount])), (fan, .inl (cI, 200, .inl fnum))] H := hPsub hP [3, 4] rfl
  have hDc : va_D A [(fah, .inr (3, [.int (1 : Int32), .int (8 : Int32), .int (25 : Int32), .ref fan, .int fpp, .int fcolumns, .int fcount])), (fan, .inl (cI, 200, .inl fnum))] := hD.sub [3, 4] (by decide +kernel) rfl
  refine callIP (wr := [(ah, .inr (2, [.ref lah, .ref fah, .ref sah, .ref yah])), (lah, .inr (3, [.int (5 : Int32), .int (8 : Int32), .int (25 : Int32), .ref lan, .int lpp, .int lcolumns, .int lcount])), (lan, .inl (cI, 1000, .inl lnum)), (sah, .inr (6, [.ref szah, .int starget, .int ssource, .int snumber, .int spower])), (szah, .inr (5, [.ref szan, .int szcount])), (szan, .inl (cI, 5, .inl szplaces)), (yah, .inr (5, [.ref yan, .int ycount])), (yan, .inl (cI, 5, .inl yplaces))]) (ws2 := ((ah, .inr (2, [.ref lah, .ref fah, .ref sah, .ref yah])) :: ((wR cI lah lan 1000 (5 : Int32) (8 : Int32) (25 : Int32) lpp lcolumns lcount lnum) ++ (wR cI fah fan 200 (1 : Int32) (8 : Int32) (25 : Int32) fpp fcolumns fcount fnum) ++ (wST cI sah szah szan starget ssource snumber spower szcount szplaces) ++ (wSH cI yah yan ycount yplaces)))) (gV (rest := []) ⟨hx, hb, hml, hown, hts⟩ hG hPc hDc 0 3 rfl rfl (mtX3_at l D cI cB cR fah fan H.size 200 (1 : Int32) (8 : Int32) (25 : Int32) fpp fcolumns fcount fnum (0 : Int32) ((3 : Int32) + a0) a1 r_1 hq_2) (cwV 3 hts gX2_factorAt_X3_at rfl rfl rfl ⟨rfl, hd_X3_at⟩ ⟨Nat.le_of_ble_eq_true rfl, Nat.le_of_ble_eq_true rfl⟩) rfl hl.1 rfl (Nat.le_of_ble_eq_true rfl) dX2_factorAt_9) hP hD hS hA [3, 4] [0, 1, 2, 5, 6, 7, 8, 9] [0, 1, 2, 8, 9, 3, 4, 5, 6, 7] rfl rfl (by decide +kernel) (by decide +kernel) rfl (by decide +kernel) (fun H locs hP hD hS => ?_)
  refine lv_ineg hx hb dX2_factorAt_12 ?_
  refine lv_aload_n hx hb dX2_factorAt_13 rfl (lv_at hl 0 rfl) ?_
  refine va_get (D := D) (ci := 2) (v := .ref fah) (C := RX2) (T := TX2) (N := 4) hx hb hts iX2_factorAt_X2 hown hG.1 hP 0 rfl rfl 1 (by decide) (hts _ fX2_factorAt_1) (fun _ h9 => h9) rfl dX2_factorAt_14 ?_
  refine va_get (D := D) (ci := 3) (v := .int fpp) (C := RX3) (T := TX3) (N := 7) hx hb hts iX2_factorAt_X3 hown hG.1 hP 3 rfl rfl 4 (by decide) (hts _ fX2_factorAt_3) (fun _ h9 => h9) rfl dX2_factorAt_17 ?_
  obtain ⟨v_6, hq_5, hk⟩ := bd1_s hq
  obtain ⟨r_4, rfl⟩ : ∃ y, y = v_6 := ⟨_, rfl⟩
  have hq := hk _ rfl
  refine callI0 (gSN (rest := []) ⟨hx, hb, hml, hown, hts⟩ hG vaP0 (vaD0 (A := A)) (mtX7_modulo l D cI cB cR H.size (-r_1) fpp r_4 hq_5) (va_cnB (host := "PopovRows") 2 hts gX2_factorAt_X7_modulo_n82 rfl rfl rfl (hG.2 _ nl_19) (hts _ fX2_factorAt_4) hd_X7_modulo ⟨Nat.le_of_ble_eq_true rfl, Nat.le_of_ble_eq_true rfl⟩) (hts _ fX2_factorAt_5) rfl hl.1 rfl (Nat.le_of_ble_eq_true rfl) dX2_factorAt_20) hP hS hA (fun H locs hP hS => ?_)
  have he := Option.some.inj hq
  subst he
  exact hE H locs _ _ _ rfl dX2_factorAt_23 hP hD hS
abbrev rm_X2_degreeSum : Room := { frames := 3, cells := 0, slots := 0, locals := 68 }
theorem iX2_degreeSum_X2 : ∀ w ∈ wsX20, w ∈ wsX2_degreeSum := fun _ h => (List.mem_cons_of_mem _ (List.mem_append_left _ (List.mem_append_right _ h)))
theorem fX2_degreeSum_1 : Cond.fieldLink RX2 14 "PopovRows$Popov" "list" "LPopovRows$Rows;" ∈ wsX2_degreeSum := (List.mem_cons_of_mem _ (List.mem_append_left _ (List.mem_append_left _ (List.mem_of_getElem? (i := 0) rfl))))
theorem iX2_degreeSum_X3 : ∀ w ∈ wsX30, w ∈ wsX2_degreeSum := fun _ h => (List.mem_cons_of_mem _ (List.mem_append_right _ h))
theorem fX2_degreeSum_3 : Cond.fieldLink RX2 48 "PopovRows$Rows" "count" "I" ∈ wsX2_degreeSum := (List.mem_cons_of_mem _ (List.mem_append_left _ (List.mem_append_left _ (List.mem_of_getElem? (i := 1) rfl))))
set_option maxHeartbeats 4000000 in
set_option maxRecDepth 100000 in
theorem mtX2_degreeSum (l : Launch) (D : va_G) (cI cB cR : ClassId) (ah : Nat) (lah : Nat) (lan : Nat) (fah : Nat) (fan : Nat) (sah : Nat) (szah : Nat) (szan : Nat) (yah : Nat) (yan : Nat) (sz : Nat) (lpp : Int32) (lcolumns : Int32) (lcount : Int32) (lnum : Nat → Int32) (fpp : Int32) (fcolumns : Int32) (fcount : Int32) (fnum : Nat → Int32) (starget : Int32) (ssource : Int32) (snumber : Int32) (spower : Int32) (szcount : Int32) (szplaces : Nat → Int32) (ycount : Int32) (yplaces : Nat → Int32) (res : Int32) (hf : fX2_degreeSum lcolumns lcount lnum = some res) : Met l yX2_degreeSum wsX2_degreeSum rm_X2_degreeSum (qP D cI cB cR [.ref ah] ((ah, .inr (2, [.ref lah, .ref fah, .ref sah, .ref yah])) :: ((wR cI lah lan 1000 (5 : Int32) (8 : Int32) (25 : Int32) lpp lcolumns lcount lnum) ++ (wR cI fah fan 200 (1 : Int32) (8 : Int32) (25 : Int32) fpp fcolumns fcount fnum) ++ (wST cI sah szah szan starget ssource snumber spower szcount szplaces) ++ (wSH cI yah yan ycount yplaces))) sz) (qI D res ((ah, .inr (2, [.ref lah, .ref fah, .ref sah, .ref yah])) :: ((wR cI lah lan 1000 (5 : Int32) (8 : Int32) (25 : Int32) lpp lcolumns lcount lnum) ++ (wR cI fah fan 200 (1 : Int32) (8 : Int32) (25 : Int32) fpp fcolumns fcount fnum) ++ (wST cI sah szah szan starget ssource snumber spower szcount szplaces) ++ (wSH cI yah yan ycount yplaces))) ((ah, .inr (2, [.ref lah, .ref fah, .ref sah, .ref yah])) :: ((wR cI lah lan 1000 (5 : Int32) (8 : Int32) (25 : Int32) lpp lcolumns lcount lnum) ++ (wR cI fah fan 200 (1 : Int32) (8 : Int32) (25 : Int32) fpp fcolumns fcount fnum) ++ (wST cI sah szah szan starget ssource snumber spower szcount szplaces) ++ (wSH cI yah yan ycount yplaces))) sz) 0 0 (va_A ((ah, .inr (2, [.ref lah, .ref fah, .ref sah, .ref yah])) :: ((wR cI lah lan 1000 (5 : Int32) (8 : Int32) (25 : Int32) lpp lcolumns lcount lnum) ++ (wR cI fah fan 200 (1 : Int32) (8 : Int32) (25 : Int32) fpp fcolumns fcount fnum) ++ (wST cI sah szah szan starget ssource snumber spower szcount szplaces) ++ (wSH cI yah yan ycount yplaces))) sz) := by
  refine entI (plainFor_of_name (by decide)) rfl (Nat.le_of_ble_eq_true rfl) ?_
  intro p e s m args below meth c Q A ls S hG hP hD hA hl hE
  obtain ⟨hx, hb, hml, hown, hts⟩ := S
  have hown : s.vm.findClass RX2 = some m.cls := hown
  have hS : va_S A s.heap s.heap [] := va_S.rf
  have hl : lv_has ls 3 [(0, .ref ah)] := hl
  have hq := hf
  unfold fX2_degreeSum at hq
  obtain ⟨H, hH⟩ : ∃ H, H = s.heap := ⟨_, rfl⟩
  obtain ⟨locs, hlo⟩ : ∃ L : List Loc, L = [] := ⟨_, rfl⟩
  have hP : va_P D cls9 ((ah, .inr (2, [.ref lah, .ref fah, .ref sah, .ref yah])) :: ((wR cI lah lan 1000 (5 : Int32) (8 : Int32) (25 : Int32) lpp lcolumns lcount lnum) ++ (wR cI fah fan 200 (1 : Int32) (8 : Int32) (25 : Int32) fpp fcolumns fcount fnum) ++ (wST cI sah szah szan starget ssource snumber spower szcount szplaces) ++ (wSH cI yah yan ycount yplaces))) H := hH ▸ hP
  have hS : va_S A s.heap H locs := by rw [hH, hlo]; exact hS
  suffices hg : W p l e rm_X2_degreeSum s m args below meth c H locs 0 0 Q (F0 m 0 ls []) by rw [hH, hlo] at hg; exact hg
  refine lv_iconst (v := 0) hx hb dX2_degreeSum_0 (by decide) ?_
  refine lv_istore_n (lv' := [(1, .int (0 : Int32)), (0, .ref ah)]) hx hb dX2_degreeSum_1 rfl hl (by decide) rfl (fun ls hl => ?_)
  refine lv_iconst (v := 0) hx hb dX2_degreeSum_2 (by decide) ?_
  refine lv_istore_n (lv' := [(2, .int (0 : Int32)), (1, .int (0 : Int32)), (0, .ref ah)]) hx hb dX2_degreeSum_3 rfl hl (by decide) rfl (fun ls hl => ?_)
  obtain ⟨w1, hw1, hk1⟩ := bd1_s hq
  have hX1 : ∀ (x_7 : Int32), w1 = x_7 → ∀ (H : Heap) (locs : List Loc), va_P D cls9 ((ah, .inr (2, [.ref lah, .ref fah, .ref sah, .ref yah])) :: ((wR cI lah lan 1000 (5 : Int32) (8 : Int32) (25 : Int32) lpp lcolumns lcount lnum) ++ (wR cI fah fan 200 (1 : Int32) (8 : Int32) (25 : Int32) fpp fcolumns fcount fnum) ++ (wST cI sah szah szan starget ssource snumber spower szcount szplaces) ++ (wSH cI yah yan ycount yplaces))) H → va_D A ((ah, .inr (2, [.ref lah, .ref fah, .ref sah, .ref yah])) :: ((wR cI lah lan 1000 (5 : Int32) (8 : Int32) (25 : Int32) lpp lcolumns lcount lnum) ++ (wR cI fah fan 200 (1 : Int32) (8 : Int32) (25 : Int32) fpp fcolumns fcount fnum) ++ (wST cI sah szah szan starget ssource snumber spower szcount szplaces) ++ (wSH cI yah yan ycount yplaces))) → va_S A s.heap H locs → ∀ (ls : Array Slot), lv_has ls 3 [(1, .int x_7)] → W p l e rm_X2_degreeSum s m args below meth c H locs 0 0 Q (F0 m 32 ls []) := by
    intro x_7 hq H locs hP hD hS ls hl
    have hq := hk1 _ hq
    refine lv_iload_n hx hb dX2_degreeSum_32 rfl (lv_at hl 0 rfl) ?_
    have he := Option.some.inj hq
    subst he
    exact hE H locs _ _ _ rfl dX2_degreeSum_33 hP hD hS
  have hL1 : ∀ (n : Nat) (i_1 : Int32) (i_2 : Int32), lrun (fun (z : Int32 × Int32) => fX2_degreeSum_s4 lcolumns lcount lnum z.1 z.2) n (i_1, i_2) = some w1 → ∀ (H : Heap) (locs : List Loc), va_P D cls9 ((ah, .inr (2, [.ref lah, .ref fah, .ref sah, .ref yah])) :: ((wR cI lah lan 1000 (5 : Int32) (8 : Int32) (25 : Int32) lpp lcolumns lcount lnum) ++ (wR cI fah fan 200 (1 : Int32) (8 : Int32) (25 : Int32) fpp fcolumns fcount fnum) ++ (wST cI sah szah szan starget ssource snumber spower szcount szplaces) ++ (wSH cI yah yan ycount yplaces))) H → va_D A ((ah, .inr (2, [.ref lah, .ref fah, .ref sah, .ref yah])) :: ((wR cI lah lan 1000 (5 : Int32) (8 : Int32) (25 : Int32) lpp lcolumns lcount lnum) ++ (wR cI fah fan 200 (1 : Int32) (8 : Int32) (25 : Int32) fpp fcolumns fcount fnum) ++ (wST cI sah szah szan starget ssource snumber spower szcount szplaces) ++ (wSH cI yah yan ycount yplaces))) → va_S A s.heap H locs → ∀ (ls : Array Slot), lv_has ls 3 [(0, .ref ah), (1, .int i_1), (2, .int i_2)] → W p l e rm_X2_degreeSum s m args below meth c H locs 0 0 Q (F0 m 4 ls []) := by
    intro n
    induction n with
    | zero => intro i_1 i_2 h; cases h
    | succ n ih1 =>
      intro i_1 i_2 hr1 H locs hP hD hS ls hl
      obtain ⟨k, v1, hk, hr1, ht1, hv1⟩ := lrun_s hr1
      cases hk
      have hr1 : fX2_degreeSum_s4 lcolumns lcount lnum i_1 i_2 = some v1 := hr1
      unfold fX2_degreeSum_s4 at hr1
      refine lv_iload_n hx hb dX2_degreeSum_4 rfl (lv_at hl 2 rfl) ?_
      refine lv_aload_n hx hb dX2_degreeSum_5 rfl (lv_at hl 0 rfl) ?_
      refine va_get (D := D) (ci := 2) (v := .ref lah) (C := RX2) (T := TX2) (N := 4) hx hb hts iX2_degreeSum_X2 hown hG.1 hP 0 rfl rfl 0 (by decide) (hts _ fX2_degreeSum_1) (fun _ h9 => h9) rfl dX2_degreeSum_6 ?_
      refine va_get (D := D) (ci := 3) (v := .int lcount) (C := RX3) (T := TX3) (N := 7) hx hb hts iX2_degreeSum_X3 hown hG.1 hP 1 rfl rfl 6 (by decide) (hts _ fX2_degreeSum_3) (fun _ h9 => h9) rfl dX2_degreeSum_9 ?_
      refine lv_icmp_ge (tgt := 32) hx hb dX2_degreeSum_12 (by decide) (fun c_3 => ?_) (fun c_3 => ?_)
      · have hr1 := it_t c_3 hr1
        exact hX1 i_1 (hv1 _ (Option.some.inj hr1).symm).symm H locs hP hD hS ls (lv_sub hl [1] rfl)
      · have hr1 := it_f c_3 hr1
        refine lv_iload_n hx hb dX2_degreeSum_15 rfl (lv_at hl 1 rfl) ?_
        refine lv_aload_n hx hb dX2_degreeSum_16 rfl (lv_at hl 0 rfl) ?_
        refine va_get (D := D) (ci := 2) (v := .ref lah) (C := RX2) (T := TX2) (N := 4) hx hb hts iX2_degreeSum_X2 hown hG.1 hP 0 rfl rfl 0 (by decide) (hts _ fX2_degreeSum_1) (fun _ h9 => h9) rfl dX2_degreeSum_17 ?_
        refine lv_iload_n hx hb dX2_degreeSum_20 rfl (lv_at hl 2 rfl) ?_
        obtain ⟨v_6, hq_5, hk⟩ := bd1_s hr1
        obtain ⟨r_4, rfl⟩ : ∃ y, y = v_6 := ⟨_, rfl⟩
        have hr1 := hk _ rfl
        have hPc : va_P D cls9 [(lah, .inr (3, [.int (5 : Int32), .int (8 : Int32), .int (25 : Int32), .ref lan, .int lpp, .int lcolumns, .int lcount])), (lan, .inl (cI, 1000, .inl lnum))] H := hPsub hP [1, 2] rfl
        have hDc : va_D A [(lah, .inr (3, [.int (5 : Int32), .int (8 : Int32), .int (25 : Int32), .ref lan, .int lpp, .int lcolumns, .int lcount])), (lan, .inl (cI, 1000, .inl lnum))] := hD.sub [1, 2] (by decide +kernel) rfl
        refine callIP (wr := [(ah, .inr (2, [.ref lah, .ref fah, .ref sah, .ref yah])), (fah, .inr (3, [.int (1 : Int32), .int (8 : Int32), .int (25 : Int32), .ref fan, .int fpp, .int fcolumns, .int fcount])), (fan, .inl (cI, 200, .inl fnum)), (sah, .inr (6, [.ref szah, .int starget, .int ssource, .int snumber, .int spower])), (szah, .inr (5, [.ref szan, .int szcount])), (szan, .inl (cI, 5, .inl szplaces)), (yah, .inr (5, [.ref yan, .int ycount])), (yan, .inl (cI, 5, .inl yplaces))]) (ws2 := ((ah, .inr (2, [.ref lah, .ref fah, .ref sah, .ref yah])) :: ((wR cI lah lan 1000 (5 : Int32) (8 : Int32) (25 : Int32) lpp lcolumns lcount lnum) ++ (wR cI fah fan 200 (1 : Int32) (8 : Int32) (25 : Int32) fpp fcolumns fcount fnum) ++ (wST cI sah szah szan starget ssource snumber spower szcount szplaces) ++ (wSH cI yah yan ycount yplaces)))) (gV (rest := [.int i_1]) ⟨hx, hb, hml, hown, hts⟩ hG hPc hDc 0 3 rfl rfl (mtX3_degreeOf l D cI cB cR lah lan H.size 1000 (5 : Int32) (8 : Int32) (25 : Int32) lpp lcolumns lcount lnum i_2 r_4 hq_5) (cwV 1 hts gX2_degreeSum_X3_degreeOf rfl rfl rfl ⟨rfl, hd_X3_degreeOf⟩ ⟨Nat.le_of_ble_eq_true rfl, Nat.le_of_ble_eq_true rfl⟩) rfl hl.1 rfl (Nat.le_of_ble_eq_true rfl) dX2_degreeSum_21) hP hD hS hA [1, 2] [0, 3, 4, 5, 6, 7, 8, 9] [0, 8, 9, 1, 2, 3, 4, 5, 6, 7] rfl rfl (by decide +kernel) (by decide +kernel) rfl (by decide +kernel) (fun H locs hP hD hS => ?_)
        refine lv_iadd hx hb dX2_degreeSum_24 ?_
        refine lv_istore_n (lv' := [(1, .int (i_1 + r_4)), (0, .ref ah), (2, .int i_2)]) hx hb dX2_degreeSum_25 rfl hl (by decide) rfl (fun ls hl => ?_)
        refine lv_iinc (v := (i_2 + 1)) (lv' := [(2, .int (i_2 + 1)), (1, .int (i_1 + r_4)), (0, .ref ah)]) hx hb dX2_degreeSum_26 hl (k := 2) rfl rfl (by decide) rfl (fun ls hl => ?_)
        refine lv_goto (tgt := 4) hx hb dX2_degreeSum_29 (by decide) ?_
        exact ih1 (i_1 + r_4) (i_2 + 1) (ht1 _ (Option.some.inj hr1).symm) H locs hP hD hS ls (lv_sub hl [2, 1, 0] rfl)
  obtain ⟨n1, hn1⟩ := Lp_s hw1
  exact hL1 n1 (0 : Int32) (0 : Int32) hn1 H locs hP hD hS ls (lv_sub hl [2, 1, 0] rfl)
