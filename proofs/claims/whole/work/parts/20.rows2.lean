abbrev rm_X6_find : Room := { frames := 3, cells := 0, slots := 0, locals := 69 }
theorem iX6_find_X6 : ∀ w ∈ wsX60, w ∈ wsX6_find := fun _ h => (List.mem_cons_of_mem _ (List.mem_append_left _ (List.mem_append_left _ (List.mem_append_right _ h))))
theorem fX6_find_1 : Cond.fieldLink RX6 10 "PopovRows$Step" "shape" "LPopovRows$Shape;" ∈ wsX6_find := (List.mem_cons_of_mem _ (List.mem_append_left _ (List.mem_append_left _ (List.mem_append_left _ (List.mem_append_left _ (List.mem_of_getElem? (i := 0) rfl))))))
theorem iX6_find_X5 : ∀ w ∈ wsX50, w ∈ wsX6_find := fun _ h => (List.mem_cons_of_mem _ (List.mem_append_left _ (List.mem_append_right _ h)))
theorem fX6_find_3 : Cond.fieldLink RX6 20 "PopovRows$Shape" "count" "I" ∈ wsX6_find := (List.mem_cons_of_mem _ (List.mem_append_left _ (List.mem_append_left _ (List.mem_append_left _ (List.mem_append_left _ (List.mem_of_getElem? (i := 1) rfl))))))
theorem fX6_find_4 : Cond.fieldLink RX6 28 "PopovRows$Step" "target" "I" ∈ wsX6_find := (List.mem_cons_of_mem _ (List.mem_append_left _ (List.mem_append_left _ (List.mem_append_left _ (List.mem_append_left _ (List.mem_of_getElem? (i := 2) rfl))))))
theorem fX6_find_5 : Cond.fieldLink RX6 31 "PopovRows$Step" "source" "I" ∈ wsX6_find := (List.mem_cons_of_mem _ (List.mem_append_left _ (List.mem_append_left _ (List.mem_append_left _ (List.mem_append_left _ (List.mem_of_getElem? (i := 3) rfl))))))
theorem iX6_find_X3 : ∀ w ∈ wsX30, w ∈ wsX6_find := fun _ h => (List.mem_cons_of_mem _ (List.mem_append_right _ h))
theorem fX6_find_7 : Cond.fieldLink RX6 40 "PopovRows$Rows" "p" "I" ∈ wsX6_find := (List.mem_cons_of_mem _ (List.mem_append_left _ (List.mem_append_left _ (List.mem_append_left _ (List.mem_append_left _ (List.mem_of_getElem? (i := 4) rfl))))))
theorem fX6_find_8 : Cond.initialized RX7 ∈ wsX6_find := (List.mem_cons_of_mem _ (List.mem_append_left _ (List.mem_append_left _ (List.mem_append_left _ (List.mem_append_right _ (List.mem_append_left _ (List.mem_of_getElem? (i := 18) rfl)))))))
theorem fX6_find_9 : Cond.static yX7_inverse ∈ wsX6_find := (List.mem_cons_of_mem _ (List.mem_append_left _ (List.mem_append_left _ (List.mem_append_left _ (List.mem_append_right _ (List.mem_append_right _ (List.mem_of_getElem? (i := 3) rfl)))))))
theorem fX6_find_10 : Cond.static yX7_modulo ∈ wsX6_find := (List.mem_cons_of_mem _ (List.mem_append_left _ (List.mem_append_left _ (List.mem_append_left _ (List.mem_append_right _ (List.mem_append_right _ (List.mem_of_getElem? (i := 6) rfl)))))))
theorem fX6_find_11 : Cond.fieldLink RX6 52 "PopovRows$Step" "number" "I" ∈ wsX6_find := (List.mem_cons_of_mem _ (List.mem_append_left _ (List.mem_append_left _ (List.mem_append_left _ (List.mem_append_left _ (List.mem_of_getElem? (i := 5) rfl))))))
theorem fX6_find_12 : Cond.static yX7_powerAt ∈ wsX6_find := (List.mem_cons_of_mem _ (List.mem_append_left _ (List.mem_append_left _ (List.mem_append_left _ (List.mem_append_right _ (List.mem_append_right _ (List.mem_of_getElem? (i := 1) rfl)))))))
theorem fX6_find_13 : Cond.fieldLink RX6 61 "PopovRows$Step" "power" "I" ∈ wsX6_find := (List.mem_cons_of_mem _ (List.mem_append_left _ (List.mem_append_left _ (List.mem_append_left _ (List.mem_append_left _ (List.mem_of_getElem? (i := 6) rfl))))))
set_option maxHeartbeats 4000000 in
set_option maxRecDepth 100000 in
theorem mtX6_find (l : Launch) (D : va_G) (cI cB cR : ClassId) (ah : Nat) (zah : Nat) (zan : Nat) (qah : Nat) (qan : Nat) (sz : Nat) (target : Int32) (source : Int32) (number : Int32) (power : Int32) (zcount : Int32) (zplaces : Nat → Int32) (qL : Nat) (qroom : Int32) (qwidth : Int32) (qpowers : Int32) (qpp : Int32) (qcolumns : Int32) (qcount : Int32) (qnum : Nat → Int32) (res : Int32 × Int32 × Int32 × Int32 × Int32 × Int32 × (Nat → Int32)) (hf : fX6_find target source number power zplaces qL qroom qwidth qpowers qpp qcolumns qcount qnum = some res) : Met l yX6_find wsX6_find rm_X6_find (qP D cI cB cR [.ref ah, .ref qah] ((wST cI ah zah zan target source number power zcount zplaces) ++ (wR cI qah qan qL qroom qwidth qpowers qpp qcolumns qcount qnum)) sz) (qZ D res.1 ((wST cI ah zah zan target source number power zcount zplaces) ++ (wR cI qah qan qL qroom qwidth qpowers qpp qcolumns qcount qnum)) ((wST cI ah zah zan res.2.1 res.2.2.1 res.2.2.2.1 res.2.2.2.2.1 res.2.2.2.2.2.1 res.2.2.2.2.2.2) ++ (wR cI qah qan qL qroom qwidth qpowers qpp qcolumns qcount qnum)) sz) 0 0 (va_A ((wST cI ah zah zan target source number power zcount zplaces) ++ (wR cI qah qan qL qroom qwidth qpowers qpp qcolumns qcount qnum)) sz) := by
  refine entZ (plainFor_of_name (by decide)) rfl (Nat.le_of_ble_eq_true rfl) ?_
  intro p e s m args below meth c Q A ls S hG hP hD hA hl hE
  obtain ⟨hx, hb, hml, hown, hts⟩ := S
  have hown : s.vm.findClass RX6 = some m.cls := hown
  have hS : va_S A s.heap s.heap [] := va_S.rf
  have hl : lv_has ls 4 [(0, .ref ah), (1, .ref qah)] := hl
  have hq := hf
  unfold fX6_find at hq
  obtain ⟨H, hH⟩ : ∃ H, H = s.heap := ⟨_, rfl⟩
  obtain ⟨locs, hlo⟩ : ∃ L : List Loc, L = [] := ⟨_, rfl⟩
  have hP : va_P D cls9 ((wST cI ah zah zan target source number power zcount zplaces) ++ (wR cI qah qan qL qroom qwidth qpowers qpp qcolumns qcount qnum)) H := hH ▸ hP
  have hS : va_S A s.heap H locs := by rw [hH, hlo]; exact hS
  suffices hg : W p l e rm_X6_find s m args below meth c H locs 0 0 Q (F0 m 0 ls []) by rw [hH, hlo] at hg; exact hg
  refine lv_aload_n hx hb dX6_find_0 rfl (lv_at hl 0 rfl) ?_
  refine va_get (D := D) (ci := 6) (v := .ref zah) (C := RX6) (T := TX6) (N := 5) hx hb hts iX6_find_X6 hown hG.1 hP 0 rfl rfl 0 (by decide) (hts _ fX6_find_1) (fun _ h9 => h9) rfl dX6_find_1 ?_
  refine lv_aload_n hx hb dX6_find_4 rfl (lv_at hl 1 rfl) ?_
  obtain ⟨v_4, hq_3, hk⟩ := bd2_s hq
  obtain ⟨u_1, u_2⟩ := v_4
  have hq := hk _ _ rfl
  have hPc : va_P D cls9 [(zah, .inr (5, [.ref zan, .int zcount])), (zan, .inl (cI, 5, .inl zplaces)), (qah, .inr (3, [.int qroom, .int qwidth, .int qpowers, .ref qan, .int qpp, .int qcolumns, .int qcount])), (qan, .inl (cI, qL, .inl qnum))] H := hPsub hP [1, 2, 3, 4] rfl
  have hDc : va_D A [(zah, .inr (5, [.ref zan, .int zcount])), (zan, .inl (cI, 5, .inl zplaces)), (qah, .inr (3, [.int qroom, .int qwidth, .int qpowers, .ref qan, .int qpp, .int qcolumns, .int qcount])), (qan, .inl (cI, qL, .inl qnum))] := hD.sub [1, 2, 3, 4] (by decide +kernel) rfl
  refine callVP (wr := [(ah, .inr (6, [.ref zah, .int target, .int source, .int number, .int power]))]) (ws2 := ((wST cI ah zah zan target source number power u_1 u_2) ++ (wR cI qah qan qL qroom qwidth qpowers qpp qcolumns qcount qnum))) (gV (rest := []) ⟨hx, hb, hml, hown, hts⟩ hG hPc hDc 0 5 rfl rfl (mtX5_measure l D cI cB cR zah zan qah qan H.size zcount zplaces qL qroom qwidth qpowers qpp qcolumns qcount qnum (u_1, u_2) hq_3) (cwV 1 hts gX6_find_X5_measure rfl rfl rfl ⟨rfl, hd_X5_measure⟩ ⟨Nat.le_of_ble_eq_true rfl, Nat.le_of_ble_eq_true rfl⟩) rfl hl.1 rfl (Nat.le_of_ble_eq_true rfl) dX6_find_5) hP hD hS hA [1, 2, 3, 4] [0] [0, 1, 2, 3, 4] rfl rfl (by decide +kernel) (by decide +kernel) rfl (by decide +kernel) (fun H locs hP hD hS => ?_)
  refine lv_iconst (v := 0) hx hb dX6_find_8 (by decide) ?_
  refine lv_istore_n (lv' := [(2, .int (0 : Int32)), (0, .ref ah), (1, .ref qah)]) hx hb dX6_find_9 rfl hl (by decide) rfl (fun ls hl => ?_)
  obtain ⟨w1, hw1, hk1, hO1⟩ := bx_s hq
  have hX1 : ∀ (_ : Unit), w1 = .inl () → ∀ (H : Heap) (locs : List Loc), va_P D cls9 ((wST cI ah zah zan target source number power u_1 u_2) ++ (wR cI qah qan qL qroom qwidth qpowers qpp qcolumns qcount qnum)) H → va_D A ((wST cI ah zah zan target source number power u_1 u_2) ++ (wR cI qah qan qL qroom qwidth qpowers qpp qcolumns qcount qnum)) → va_S A s.heap H locs → ∀ (ls : Array Slot), lv_has ls 4 [] → W p l e rm_X6_find s m args below meth c H locs 0 0 Q (F0 m 127 ls []) := by
    intro _ hq H locs hP hD hS ls hl
    have hq := hk1 _ hq
    refine lv_iconst (v := 0) hx hb dX6_find_127 (by decide) ?_
    have he := Option.some.inj hq
    subst he
    exact hE H locs _ _ _ rfl (Or.inl rfl) dX6_find_128 hP hD hS
  have hL1 : ∀ (n : Nat) (i_5 : Int32), lrun (fun (z : Int32) => fX6_find_s10 qL qroom qwidth qpowers qpp qcolumns qnum u_1 u_2 z) n i_5 = some w1 → ∀ (H : Heap) (locs : List Loc), va_P D cls9 ((wST cI ah zah zan target source number power u_1 u_2) ++ (wR cI qah qan qL qroom qwidth qpowers qpp qcolumns qcount qnum)) H → va_D A ((wST cI ah zah zan target source number power u_1 u_2) ++ (wR cI qah qan qL qroom qwidth qpowers qpp qcolumns qcount qnum)) → va_S A s.heap H locs → ∀ (ls : Array Slot), lv_has ls 4 [(0, .ref ah), (1, .ref qah), (2, .int i_5)] → W p l e rm_X6_find s m args below meth c H locs 0 0 Q (F0 m 10 ls []) := by
    intro n
    induction n with
    | zero => intro i_5 h; cases h
    | succ n ih1 =>
      intro i_5 hr1 H locs hP hD hS ls hl
      obtain ⟨k, v1, hk, hr1, ht1, hv1⟩ := lrun_s hr1
      cases hk
      have hr1 : fX6_find_s10 qL qroom qwidth qpowers qpp qcolumns qnum u_1 u_2 i_5 = some v1 := hr1
      unfold fX6_find_s10 at hr1
      refine lv_iload_n hx hb dX6_find_10 rfl (lv_at hl 2 rfl) ?_
      refine lv_aload_n hx hb dX6_find_11 rfl (lv_at hl 0 rfl) ?_
      refine va_get (D := D) (ci := 6) (v := .ref zah) (C := RX6) (T := TX6) (N := 5) hx hb hts iX6_find_X6 hown hG.1 hP 0 rfl rfl 0 (by decide) (hts _ fX6_find_1) (fun _ h9 => h9) rfl dX6_find_12 ?_
      refine va_get (D := D) (ci := 5) (v := .int u_1) (C := RX5) (T := TX5) (N := 2) hx hb hts iX6_find_X5 hown hG.1 hP 1 rfl rfl 1 (by decide) (hts _ fX6_find_3) (fun _ h9 => h9) rfl dX6_find_15 ?_
      refine lv_icmp_ge (tgt := 127) hx hb dX6_find_18 (by decide) (fun c_6 => ?_) (fun c_6 => ?_)
      · have hr1 := it_t c_6 hr1
        exact hX1 () (hv1 _ (Option.some.inj hr1).symm).symm H locs hP hD hS ls (lv_sub hl [] rfl)
      · have hr1 := it_f c_6 hr1
        refine lv_iconst (v := 0) hx hb dX6_find_21 (by decide) ?_
        refine lv_istore_n (lv' := [(3, .int (0 : Int32)), (0, .ref ah), (1, .ref qah), (2, .int i_5)]) hx hb dX6_find_22 rfl hl (by decide) rfl (fun ls hl => ?_)
        obtain ⟨w2, hw2, hk2, hO2⟩ := bx_s hr1
        have hX2 : ∀ (_ : Unit), w2 = .inl () → ∀ (H : Heap) (locs : List Loc), va_P D cls9 ((wST cI ah zah zan target source number power u_1 u_2) ++ (wR cI qah qan qL qroom qwidth qpowers qpp qcolumns qcount qnum)) H → va_D A ((wST cI ah zah zan target source number power u_1 u_2) ++ (wR cI qah qan qL qroom qwidth qpowers qpp qcolumns qcount qnum)) → va_S A s.heap H locs → ∀ (ls : Array Slot), lv_has ls 4 [(0, .ref ah), (1, .ref qah), (2, .int i_5)] → W p l e rm_X6_find s m args below meth c H locs 0 0 Q (F0 m 121 ls []) := by
          intro _ hq H locs hP hD hS ls hl
          have hr1 := hk2 _ hq
          refine lv_iinc (v := (i_5 + 1)) (lv' := [(2, .int (i_5 + 1)), (0, .ref ah), (1, .ref qah)]) hx hb dX6_find_121 hl (k := 2) rfl rfl (by decide) rfl (fun ls hl => ?_)
          refine lv_goto (tgt := 10) hx hb dX6_find_124 (by decide) ?_
          exact ih1 (i_5 + 1) (ht1 _ (Option.some.inj hr1).symm) H locs hP hD hS ls (lv_sub hl [1, 2, 0] rfl)
        have hL2 : ∀ (n : Nat) (i_7 : Int32), lrun (fun (z : Int32) => fX6_find_s23 qL qroom qwidth qpowers qpp qcolumns qnum i_5 u_1 u_2 z) n i_7 = some w2 → ∀ (H : Heap) (locs : List Loc), va_P D cls9 ((wST cI ah zah zan target source number power u_1 u_2) ++ (wR cI qah qan qL qroom qwidth qpowers qpp qcolumns qcount qnum)) H → va_D A ((wST cI ah zah zan target source number power u_1 u_2) ++ (wR cI qah qan qL qroom qwidth qpowers qpp qcolumns qcount qnum)) → va_S A s.heap H locs → ∀ (ls : Array Slot), lv_has ls 4 [(0, .ref ah), (1, .ref qah), (2, .int i_5), (3, .int i_7)] → W p l e rm_X6_find s m args below meth c H locs 0 0 Q (F0 m 23 ls []) := by
          intro n
          induction n with
          | zero => intro i_7 h; cases h
          | succ n ih2 =>
            intro i_7 hr2 H locs hP hD hS ls hl
            obtain ⟨k, v2, hk, hr2, ht2, hv2⟩ := lrun_s hr2
            cases hk
            have hr2 : fX6_find_s23 qL qroom qwidth qpowers qpp qcolumns qnum i_5 u_1 u_2 i_7 = some v2 := hr2
            unfold fX6_find_s23 at hr2
            refine lv_iload_n hx hb dX6_find_23 rfl (lv_at hl 3 rfl) ?_
            refine lv_aload_n hx hb dX6_find_24 rfl (lv_at hl 0 rfl) ?_
            refine va_get (D := D) (ci := 6) (v := .ref zah) (C := RX6) (T := TX6) (N := 5) hx hb hts iX6_find_X6 hown hG.1 hP 0 rfl rfl 0 (by decide) (hts _ fX6_find_1) (fun _ h9 => h9) rfl dX6_find_25 ?_
            refine va_get (D := D) (ci := 5) (v := .int u_1) (C := RX5) (T := TX5) (N := 2) hx hb hts iX6_find_X5 hown hG.1 hP 1 rfl rfl 1 (by decide) (hts _ fX6_find_3) (fun _ h9 => h9) rfl dX6_find_28 ?_
            refine lv_icmp_ge (tgt := 121) hx hb dX6_find_31 (by decide) (fun c_8 => ?_) (fun c_8 => ?_)
            · have hr2 := it_t c_8 hr2
              exact hX2 () (hv2 _ (Option.some.inj hr2).symm).symm H locs hP hD hS ls (lv_sub hl [0, 1, 2] rfl)
            · have hr2 := it_f c_8 hr2
              refine lv_aload_n hx hb dX6_find_34 rfl (lv_at hl 0 rfl) ?_
              refine va_get (D := D) (ci := 6) (v := .ref zah) (C := RX6) (T := TX6) (N := 5) hx hb hts iX6_find_X6 hown hG.1 hP 0 rfl rfl 0 (by decide) (hts _ fX6_find_1) (fun _ h9 => h9) rfl dX6_find_35 ?_
              refine lv_iload_n hx hb dX6_find_38 rfl (lv_at hl 2 rfl) ?_
              refine lv_iload_n hx hb dX6_find_39 rfl (lv_at hl 3 rfl) ?_
              obtain ⟨v_11, hq_10, hk⟩ := bd1_s hr2
              obtain ⟨r_9, rfl⟩ : ∃ y, y = v_11 := ⟨_, rfl⟩
              have hr2 := hk _ rfl
              have hPc : va_P D cls9 [(zah, .inr (5, [.ref zan, .int u_1])), (zan, .inl (cI, 5, .inl u_2))] H := hPsub hP [1, 2] rfl
              have hDc : va_D A [(zah, .inr (5, [.ref zan, .int u_1])), (zan, .inl (cI, 5, .inl u_2))] := hD.sub [1, 2] (by decide +kernel) rfl
              refine callZP (wr := [(ah, .inr (6, [.ref zah, .int target, .int source, .int number, .int power])), (qah, .inr (3, [.int qroom, .int qwidth, .int qpowers, .ref qan, .int qpp, .int qcolumns, .int qcount])), (qan, .inl (cI, qL, .inl qnum))]) (ws2 := ((wST cI ah zah zan target source number power u_1 u_2) ++ (wR cI qah qan qL qroom qwidth qpowers qpp qcolumns qcount qnum))) (gV (rest := []) ⟨hx, hb, hml, hown, hts⟩ hG hPc hDc 0 5 rfl rfl (mtX5_canStep l D cI cB cR zah zan H.size u_1 u_2 i_5 i_7 r_9 hq_10) (cwV 2 hts gX6_find_X5_canStep rfl rfl rfl ⟨rfl, hd_X5_canStep⟩ ⟨Nat.le_of_ble_eq_true rfl, Nat.le_of_ble_eq_true rfl⟩) rfl hl.1 rfl (Nat.le_of_ble_eq_true rfl) dX6_find_40) hP hD hS hA [1, 2] [0, 3, 4] [0, 3, 4, 1, 2] rfl rfl (by decide +kernel) (by decide +kernel) rfl (by decide +kernel) (fun H locs z_12 hP hD hS => ?_)
              refine lv_if_eq (tgt := 115) hx hb dX6_find_43 (by decide) (fun c_13 => ?_) (fun c_13 => ?_)
              · have hr2 := it_t c_13 hr2
                refine lv_iinc (v := (i_7 + 1)) (lv' := [(3, .int (i_7 + 1)), (0, .ref ah), (1, .ref qah), (2, .int i_5)]) hx hb dX6_find_115 hl (k := 3) rfl rfl (by decide) rfl (fun ls hl => ?_)
                refine lv_goto (tgt := 23) hx hb dX6_find_118 (by decide) ?_
                exact ih2 (i_7 + 1) (ht2 _ (Option.some.inj hr2).symm) H locs hP hD hS ls (lv_sub hl [1, 2, 3, 0] rfl)
              · have hr2 := it_f c_13 hr2
                refine lv_aload_n hx hb dX6_find_46 rfl (lv_at hl 0 rfl) ?_
                refine lv_iload_n hx hb dX6_find_47 rfl (lv_at hl 2 rfl) ?_
                refine va_put (D := D) (ci := 6) (v := .int i_5) (ty := .int) (C := RX6) (T := TX6) (N := 5) hx hb hts iX6_find_X6 tyX6 tyX6_ok nmX6 hown hG.1 hP hD hS 0 rfl rfl 1 (by decide) (hts _ fX6_find_4) (fun _ h9 => h9) rfl (by decide +kernel) rfl rfl (Nat.le_of_ble_eq_true rfl) dX6_find_48 (fun H locs hP hD hS => ?_)
                have hP : va_P D cls9 ((wST cI ah zah zan i_5 source number power u_1 u_2) ++ (wR cI qah qan qL qroom qwidth qpowers qpp qcolumns qcount qnum)) H := hP
                have hD : va_D A ((wST cI ah zah zan i_5 source number power u_1 u_2) ++ (wR cI qah qan qL qroom qwidth qpowers qpp qcolumns qcount qnum)) := hD
                refine lv_aload_n hx hb dX6_find_51 rfl (lv_at hl 0 rfl) ?_
                refine lv_iload_n hx hb dX6_find_52 rfl (lv_at hl 3 rfl) ?_
                refine va_put (D := D) (ci := 6) (v := .int i_7) (ty := .int) (C := RX6) (T := TX6) (N := 5) hx hb hts iX6_find_X6 tyX6 tyX6_ok nmX6 hown hG.1 hP hD hS 0 rfl rfl 2 (by decide) (hts _ fX6_find_5) (fun _ h9 => h9) rfl (by decide +kernel) rfl rfl (Nat.le_of_ble_eq_true rfl) dX6_find_53 (fun H locs hP hD hS => ?_)
                have hP : va_P D cls9 ((wST cI ah zah zan i_5 i_7 number power u_1 u_2) ++ (wR cI qah qan qL qroom qwidth qpowers qpp qcolumns qcount qnum)) H := hP
                have hD : va_D A ((wST cI ah zah zan i_5 i_7 number power u_1 u_2) ++ (wR cI qah qan qL qroom qwidth qpowers qpp qcolumns qcount qnum)) := hD
                refine lv_aload_n hx hb dX6_find_56 rfl (lv_at hl 0 rfl) ?_
                refine lv_aload_n hx hb dX6_find_57 rfl (lv_at hl 1 rfl) ?_
                refine lv_iload_n hx hb dX6_find_58 rfl (lv_at hl 2 rfl) ?_
                obtain ⟨v_16, hq_15, hk⟩ := bd1_s hr2
                obtain ⟨r_14, rfl⟩ : ∃ y, y = v_16 := ⟨_, rfl⟩
                have hr2 := hk _ rfl
                have hPc : va_P D cls9 [(qah, .inr (3, [.int qroom, .int qwidth, .int qpowers, .ref qan, .int qpp, .int qcolumns, .int qcount])), (qan, .inl (cI, qL, .inl qnum))] H := hPsub hP [3, 4] rfl
                have hDc : va_D A [(qah, .inr (3, [.int qroom, .int qwidth, .int qpowers, .ref qan, .int qpp, .int qcolumns, .int qcount])), (qan, .inl (cI, qL, .inl qnum))] := hD.sub [3, 4] (by decide +kernel) rfl
                refine callIP (wr := [(ah, .inr (6, [.ref zah, .int i_5, .int i_7, .int number, .int power])), (zah, .inr (5, [.ref zan, .int u_1])), (zan, .inl (cI, 5, .inl u_2))]) (ws2 := ((wST cI ah zah zan i_5 i_7 number power u_1 u_2) ++ (wR cI qah qan qL qroom qwidth qpowers qpp qcolumns qcount qnum))) (gV (rest := [.ref ah]) ⟨hx, hb, hml, hown, hts⟩ hG hPc hDc 0 3 rfl rfl (mtX3_leadOf l D cI cB cR qah qan H.size qL qroom qwidth qpowers qpp qcolumns qcount qnum i_5 r_14 hq_15) (cwV 1 hts gX6_find_X3_leadOf rfl rfl rfl ⟨rfl, hd_X3_leadOf⟩ ⟨Nat.le_of_ble_eq_true rfl, Nat.le_of_ble_eq_true rfl⟩) rfl hl.1 rfl (Nat.le_of_ble_eq_true rfl) dX6_find_59) hP hD hS hA [3, 4] [0, 1, 2] [0, 1, 2, 3, 4] rfl rfl (by decide +kernel) (by decide +kernel) rfl (by decide +kernel) (fun H locs hP hD hS => ?_)
                refine lv_ineg hx hb dX6_find_62 ?_
                refine lv_aload_n hx hb dX6_find_63 rfl (lv_at hl 1 rfl) ?_
                refine lv_iload_n hx hb dX6_find_64 rfl (lv_at hl 3 rfl) ?_
                obtain ⟨v_19, hq_18, hk⟩ := bd1_s hr2
                obtain ⟨r_17, rfl⟩ : ∃ y, y = v_19 := ⟨_, rfl⟩
                have hr2 := hk _ rfl
                have hPc : va_P D cls9 [(qah, .inr (3, [.int qroom, .int qwidth, .int qpowers, .ref qan, .int qpp, .int qcolumns, .int qcount])), (qan, .inl (cI, qL, .inl qnum))] H := hPsub hP [3, 4] rfl
                have hDc : va_D A [(qah, .inr (3, [.int qroom, .int qwidth, .int qpowers, .ref qan, .int qpp, .int qcolumns, .int qcount])), (qan, .inl (cI, qL, .inl qnum))] := hD.sub [3, 4] (by decide +kernel) rfl
                refine callIP (wr := [(ah, .inr (6, [.ref zah, .int i_5, .int i_7, .int number, .int power])), (zah, .inr (5, [.ref zan, .int u_1])), (zan, .inl (cI, 5, .inl u_2))]) (ws2 := ((wST cI ah zah zan i_5 i_7 number power u_1 u_2) ++ (wR cI qah qan qL qroom qwidth qpowers qpp qcolumns qcount qnum))) (gV (rest := [.int (-r_14), .ref ah]) ⟨hx, hb, hml, hown, hts⟩ hG hPc hDc 0 3 rfl rfl (mtX3_leadOf l D cI cB cR qah qan H.size qL qroom qwidth qpowers qpp qcolumns qcount qnum i_7 r_17 hq_18) (cwV 1 hts gX6_find_X3_leadOf rfl rfl rfl ⟨rfl, hd_X3_leadOf⟩ ⟨Nat.le_of_ble_eq_true rfl, Nat.le_of_ble_eq_true rfl⟩) rfl hl.1 rfl (Nat.le_of_ble_eq_true rfl) dX6_find_65) hP hD hS hA [3, 4] [0, 1, 2] [0, 1, 2, 3, 4] rfl rfl (by decide +kernel) (by decide +kernel) rfl (by decide +kernel) (fun H locs hP hD hS => ?_)
                refine lv_aload_n hx hb dX6_find_68 rfl (lv_at hl 1 rfl) ?_
                refine va_get (D := D) (ci := 3) (v := .int qpp) (C := RX3) (T := TX3) (N := 7) hx hb hts iX6_find_X3 hown hG.1 hP 3 rfl rfl 4 (by decide) (hts _ fX6_find_7) (fun _ h9 => h9) rfl dX6_find_69 ?_
                obtain ⟨v_22, hq_21, hk⟩ := bd1_s hr2
                obtain ⟨r_20, rfl⟩ : ∃ y, y = v_22 := ⟨_, rfl⟩
                have hr2 := hk _ rfl
                refine callI0 (gSN (rest := [.int (-r_14), .ref ah]) ⟨hx, hb, hml, hown, hts⟩ hG vaP0 (vaD0 (A := A)) (mtX7_inverse l D cI cB cR H.size r_17 qpp r_20 hq_21) (va_cnB (host := "PopovRows") 2 hts gX6_find_X7_inverse_n43 rfl rfl rfl (hG.2 _ nl_12) (hts _ fX6_find_8) hd_X7_inverse ⟨Nat.le_of_ble_eq_true rfl, Nat.le_of_ble_eq_true rfl⟩) (hts _ fX6_find_9) rfl hl.1 rfl (Nat.le_of_ble_eq_true rfl) dX6_find_72) hP hS hA (fun H locs hP hS => ?_)
                refine lv_imul hx hb dX6_find_75 ?_
                refine lv_aload_n hx hb dX6_find_76 rfl (lv_at hl 1 rfl) ?_
                refine va_get (D := D) (ci := 3) (v := .int qpp) (C := RX3) (T := TX3) (N := 7) hx hb hts iX6_find_X3 hown hG.1 hP 3 rfl rfl 4 (by decide) (hts _ fX6_find_7) (fun _ h9 => h9) rfl dX6_find_77 ?_
                obtain ⟨v_25, hq_24, hk⟩ := bd1_s hr2
                obtain ⟨r_23, rfl⟩ : ∃ y, y = v_25 := ⟨_, rfl⟩
                have hr2 := hk _ rfl
                refine callI0 (gSN (rest := [.ref ah]) ⟨hx, hb, hml, hown, hts⟩ hG vaP0 (vaD0 (A := A)) (mtX7_modulo l D cI cB cR H.size ((-r_14) * r_20) qpp r_23 hq_24) (va_cnB (host := "PopovRows") 2 hts gX6_find_X7_modulo_n49 rfl rfl rfl (hG.2 _ nl_13) (hts _ fX6_find_8) hd_X7_modulo ⟨Nat.le_of_ble_eq_true rfl, Nat.le_of_ble_eq_true rfl⟩) (hts _ fX6_find_10) rfl hl.1 rfl (Nat.le_of_ble_eq_true rfl) dX6_find_80) hP hS hA (fun H locs hP hS => ?_)
                refine va_put (D := D) (ci := 6) (v := .int r_23) (ty := .int) (C := RX6) (T := TX6) (N := 5) hx hb hts iX6_find_X6 tyX6 tyX6_ok nmX6 hown hG.1 hP hD hS 0 rfl rfl 3 (by decide) (hts _ fX6_find_11) (fun _ h9 => h9) rfl (by decide +kernel) rfl rfl (Nat.le_of_ble_eq_true rfl) dX6_find_83 (fun H locs hP hD hS => ?_)
                have hP : va_P D cls9 ((wST cI ah zah zan i_5 i_7 r_23 power u_1 u_2) ++ (wR cI qah qan qL qroom qwidth qpowers qpp qcolumns qcount qnum)) H := hP
                have hD : va_D A ((wST cI ah zah zan i_5 i_7 r_23 power u_1 u_2) ++ (wR cI qah qan qL qroom qwidth qpowers qpp qcolumns qcount qnum)) := hD
                refine lv_aload_n hx hb dX6_find_86 rfl (lv_at hl 0 rfl) ?_
                refine lv_aload_n hx hb dX6_find_87 rfl (lv_at hl 0 rfl) ?_
                refine va_get (D := D) (ci := 6) (v := .ref zah) (C := RX6) (T := TX6) (N := 5) hx hb hts iX6_find_X6 hown hG.1 hP 0 rfl rfl 0 (by decide) (hts _ fX6_find_1) (fun _ h9 => h9) rfl dX6_find_88 ?_
                refine lv_iload_n hx hb dX6_find_91 rfl (lv_at hl 2 rfl) ?_
                obtain ⟨v_28, hq_27, hk⟩ := bd1_s hr2
                obtain ⟨r_26, rfl⟩ : ∃ y, y = v_28 := ⟨_, rfl⟩
                have hr2 := hk _ rfl
                have hPc : va_P D cls9 [(zah, .inr (5, [.ref zan, .int u_1])), (zan, .inl (cI, 5, .inl u_2))] H := hPsub hP [1, 2] rfl
                have hDc : va_D A [(zah, .inr (5, [.ref zan, .int u_1])), (zan, .inl (cI, 5, .inl u_2))] := hD.sub [1, 2] (by decide +kernel) rfl
                refine callIP (wr := [(ah, .inr (6, [.ref zah, .int i_5, .int i_7, .int r_23, .int power])), (qah, .inr (3, [.int qroom, .int qwidth, .int qpowers, .ref qan, .int qpp, .int qcolumns, .int qcount])), (qan, .inl (cI, qL, .inl qnum))]) (ws2 := ((wST cI ah zah zan i_5 i_7 r_23 power u_1 u_2) ++ (wR cI qah qan qL qroom qwidth qpowers qpp qcolumns qcount qnum))) (gV (rest := [.ref ah]) ⟨hx, hb, hml, hown, hts⟩ hG hPc hDc 0 5 rfl rfl (mtX5_placeAt l D cI cB cR zah zan H.size u_1 u_2 i_5 r_26 hq_27) (cwV 1 hts gX6_find_X5_placeAt rfl rfl rfl ⟨rfl, hd_X5_placeAt⟩ ⟨Nat.le_of_ble_eq_true rfl, Nat.le_of_ble_eq_true rfl⟩) rfl hl.1 rfl (Nat.le_of_ble_eq_true rfl) dX6_find_92) hP hD hS hA [1, 2] [0, 3, 4] [0, 3, 4, 1, 2] rfl rfl (by decide +kernel) (by decide +kernel) rfl (by decide +kernel) (fun H locs hP hD hS => ?_)
                refine callI0 (gSN (rest := [.ref ah]) ⟨hx, hb, hml, hown, hts⟩ hG vaP0 (vaD0 (A := A)) (mtX7_powerAt l D cI cB cR H.size r_26 _ rfl) (va_cnB (host := "PopovRows") 1 hts gX6_find_X7_powerAt_n58 rfl rfl rfl (hG.2 _ nl_14) (hts _ fX6_find_8) hd_X7_powerAt ⟨Nat.le_of_ble_eq_true rfl, Nat.le_of_ble_eq_true rfl⟩) (hts _ fX6_find_12) rfl hl.1 rfl (Nat.le_of_ble_eq_true rfl) dX6_find_95) hP hS hA (fun H locs hP hS => ?_)
                refine lv_aload_n hx hb dX6_find_98 rfl (lv_at hl 0 rfl) ?_
                refine va_get (D := D) (ci := 6) (v := .ref zah) (C := RX6) (T := TX6) (N := 5) hx hb hts iX6_find_X6 hown hG.1 hP 0 rfl rfl 0 (by decide) (hts _ fX6_find_1) (fun _ h9 => h9) rfl dX6_find_99 ?_
                refine lv_iload_n hx hb dX6_find_102 rfl (lv_at hl 3 rfl) ?_
                obtain ⟨v_31, hq_30, hk⟩ := bd1_s hr2
                obtain ⟨r_29, rfl⟩ : ∃ y, y = v_31 := ⟨_, rfl⟩
                have hr2 := hk _ rfl
                have hPc : va_P D cls9 [(zah, .inr (5, [.ref zan, .int u_1])), (zan, .inl (cI, 5, .inl u_2))] H := hPsub hP [1, 2] rfl
                have hDc : va_D A [(zah, .inr (5, [.ref zan, .int u_1])), (zan, .inl (cI, 5, .inl u_2))] := hD.sub [1, 2] (by decide +kernel) rfl
                refine callIP (wr := [(ah, .inr (6, [.ref zah, .int i_5, .int i_7, .int r_23, .int power])), (qah, .inr (3, [.int qroom, .int qwidth, .int qpowers, .ref qan, .int qpp, .int qcolumns, .int qcount])), (qan, .inl (cI, qL, .inl qnum))]) (ws2 := ((wST cI ah zah zan i_5 i_7 r_23 power u_1 u_2) ++ (wR cI qah qan qL qroom qwidth qpowers qpp qcolumns qcount qnum))) (gV (rest := [.int (fX7_powerAt r_26), .ref ah]) ⟨hx, hb, hml, hown, hts⟩ hG hPc hDc 0 5 rfl rfl (mtX5_placeAt l D cI cB cR zah zan H.size u_1 u_2 i_7 r_29 hq_30) (cwV 1 hts gX6_find_X5_placeAt rfl rfl rfl ⟨rfl, hd_X5_placeAt⟩ ⟨Nat.le_of_ble_eq_true rfl, Nat.le_of_ble_eq_true rfl⟩) rfl hl.1 rfl (Nat.le_of_ble_eq_true rfl) dX6_find_103) hP hD hS hA [1, 2] [0, 3, 4] [0, 3, 4, 1, 2] rfl rfl (by decide +kernel) (by decide +kernel) rfl (by decide +kernel) (fun H locs hP hD hS => ?_)
                refine callI0 (gSN (rest := [.int (fX7_powerAt r_26), .ref ah]) ⟨hx, hb, hml, hown, hts⟩ hG vaP0 (vaD0 (A := A)) (mtX7_powerAt l D cI cB cR H.size r_29 _ rfl) (va_cnB (host := "PopovRows") 1 hts gX6_find_X7_powerAt_n58 rfl rfl rfl (hG.2 _ nl_14) (hts _ fX6_find_8) hd_X7_powerAt ⟨Nat.le_of_ble_eq_true rfl, Nat.le_of_ble_eq_true rfl⟩) (hts _ fX6_find_12) rfl hl.1 rfl (Nat.le_of_ble_eq_true rfl) dX6_find_106) hP hS hA (fun H locs hP hS => ?_)
                refine lv_isub hx hb dX6_find_109 ?_
                refine va_put (D := D) (ci := 6) (v := .int ((fX7_powerAt r_26) - (fX7_powerAt r_29))) (ty := .int) (C := RX6) (T := TX6) (N := 5) hx hb hts iX6_find_X6 tyX6 tyX6_ok nmX6 hown hG.1 hP hD hS 0 rfl rfl 4 (by decide) (hts _ fX6_find_13) (fun _ h9 => h9) rfl (by decide +kernel) rfl rfl (Nat.le_of_ble_eq_true rfl) dX6_find_110 (fun H locs hP hD hS => ?_)
                have hP : va_P D cls9 ((wST cI ah zah zan i_5 i_7 r_23 ((fX7_powerAt r_26) - (fX7_powerAt r_29)) u_1 u_2) ++ (wR cI qah qan qL qroom qwidth qpowers qpp qcolumns qcount qnum)) H := hP
                have hD : va_D A ((wST cI ah zah zan i_5 i_7 r_23 ((fX7_powerAt r_26) - (fX7_powerAt r_29)) u_1 u_2) ++ (wR cI qah qan qL qroom qwidth qpowers qpp qcolumns qcount qnum)) := hD
                refine lv_iconst (v := 1) hx hb dX6_find_113 (by decide) ?_
                have he := (hO1 _ (hv1 _ ((hO2 _ (hv2 _ (Option.some.inj hr2).symm).symm)).symm).symm)
                subst he
                exact hE H locs _ _ _ rfl (Or.inr rfl) dX6_find_114 hP hD hS
        obtain ⟨n2, hn2⟩ := Lp_s hw2
        exact hL2 n2 (0 : Int32) hn2 H locs hP hD hS ls (lv_sub hl [1, 2, 3, 0] rfl)
  obtain ⟨n1, hn1⟩ := Lp_s hw1
  exact hL1 n1 (0 : Int32) hn1 H locs hP hD hS ls (lv_sub hl [1, 2, 0] rfl)
abbrev rm_X0_at : Room := { frames := 0, cells := 0, slots := 0, locals := 0 }
theorem iX0_at_X0 : ∀ w ∈ wsX00, w ∈ wsX0_at := fun _ h => (List.mem_cons_of_mem _ (List.mem_append_right _ h))
theorem fX0_at_1 : Cond.fieldLink RX0 9 "PopovRows$Determinant" "numbers" "[I" ∈ wsX0_at := (List.mem_cons_of_mem _ (List.mem_append_left _ (List.mem_of_getElem? (i := 0) rfl)))
set_option maxHeartbeats 4000000 in
set_option maxRecDepth 100000 in
theorem mtX0_at (l : Launch) (D : va_G) (cI cB cR : ClassId) (ah : Nat) (an : Nat) (ak : Nat) (sz : Nat) (chosenCount : Int32) (numbers : Nat → Int32) (chosen : Nat → Int32) (a0 : Int32) (res : Int32) (hf : fX0_at numbers a0 = some res) : Met l yX0_at wsX0_at rm_X0_at (qP D cI cB cR [.ref ah, .int a0] (wDE cI ah an ak chosenCount numbers chosen) sz) (qI D res (wDE cI ah an ak chosenCount numbers chosen) (wDE cI ah an ak chosenCount numbers chosen) sz) 0 0 (va_A (wDE cI ah an ak chosenCount numbers chosen) sz) := by
  refine entI (plainFor_of_name (by decide)) rfl (Nat.le_of_ble_eq_true rfl) ?_
  intro p e s m args below meth c Q A ls S hG hP hD hA hl hE
  obtain ⟨hx, hb, hml, hown, hts⟩ := S
  have hown : s.vm.findClass RX0 = some m.cls := hown
  have hS : va_S A s.heap s.heap [] := va_S.rf
  have hl : lv_has ls 2 [(0, .ref ah), (1, .int a0)] := hl
  have hq := hf
  unfold fX0_at at hq
  obtain ⟨H, hH⟩ : ∃ H, H = s.heap := ⟨_, rfl⟩
  obtain ⟨locs, hlo⟩ : ∃ L : List Loc, L = [] := ⟨_, rfl⟩
  have hP : va_P D cls9 (wDE cI ah an ak chosenCount numbers chosen) H := hH ▸ hP
  have hS : va_S A s.heap H locs := by rw [hH, hlo]; exact hS
  suffices hg : W p l e rm_X0_at s m args below meth c H locs 0 0 Q (F0 m 0 ls []) by rw [hH, hlo] at hg; exact hg
  refine lv_iload_n hx hb dX0_at_0 rfl (lv_at hl 1 rfl) ?_
  refine lv_if_lt (tgt := 22) hx hb dX0_at_1 (by decide) (fun c_1 => ?_) (fun c_1 => ?_)
  · have hq := it_t c_1 hq
    refine lv_iconst (v := 0) hx hb dX0_at_22 (by decide) ?_
    have he := Option.some.inj hq
    subst he
    exact hE H locs _ _ _ rfl dX0_at_23 hP hD hS
  · have hq := it_f c_1 hq
    refine lv_iload_n hx hb dX0_at_4 rfl (lv_at hl 1 rfl) ?_
    refine lv_aload_n hx hb dX0_at_5 rfl (lv_at hl 0 rfl) ?_
    refine va_get (D := D) (ci := 0) (v := .ref an) (C := RX0) (T := TX0) (N := 3) hx hb hts iX0_at_X0 hown hG.1 hP 0 rfl rfl 0 (by decide) (hts _ fX0_at_1) (fun _ h9 => h9) rfl dX0_at_6 ?_
    refine va_alen (v := (19 : Int32)) hx hb hG.1 hP 1 0 rfl rfl rfl dX0_at_9 ?_
    refine lv_icmp_ge (tgt := 22) hx hb dX0_at_10 (by decide) (fun c_2 => ?_) (fun c_2 => ?_)
    · have hq := it_t c_2 hq
      refine lv_iconst (v := 0) hx hb dX0_at_22 (by decide) ?_
      have he := Option.some.inj hq
      subst he
      exact hE H locs _ _ _ rfl dX0_at_23 hP hD hS
    · have hq := it_f c_2 hq
      refine lv_aload_n hx hb dX0_at_13 rfl (lv_at hl 0 rfl) ?_
      refine va_get (D := D) (ci := 0) (v := .ref an) (C := RX0) (T := TX0) (N := 3) hx hb hts iX0_at_X0 hown hG.1 hP 0 rfl rfl 0 (by decide) (hts _ fX0_at_1) (fun _ h9 => h9) rfl dX0_at_14 ?_
      refine lv_iload_n hx hb dX0_at_17 rfl (lv_at hl 1 rfl) ?_
      obtain ⟨h_3, hq⟩ := gd_s hq
      refine va_iald hx hb hG.1 hP 1 0 rfl rfl h_3 dX0_at_18 ?_
      refine lv_goto (tgt := 23) hx hb dX0_at_19 (by decide) ?_
      have he := Option.some.inj hq
      subst he
      exact hE H locs _ _ _ rfl dX0_at_23 hP hD hS
abbrev rm_X0_degree : Room := { frames := 0, cells := 0, slots := 0, locals := 0 }
theorem iX0_degree_X0 : ∀ w ∈ wsX00, w ∈ wsX0_degree := fun _ h => (List.mem_cons_of_mem _ (List.mem_append_right _ h))
theorem fX0_degree_1 : Cond.fieldLink RX0 9 "PopovRows$Determinant" "numbers" "[I" ∈ wsX0_degree := (List.mem_cons_of_mem _ (List.mem_append_left _ (List.mem_of_getElem? (i := 0) rfl)))
set_option maxHeartbeats 4000000 in
set_option maxRecDepth 100000 in
theorem mtX0_degree (l : Launch) (D : va_G) (cI cB cR : ClassId) (ah : Nat) (an : Nat) (ak : Nat) (sz : Nat) (chosenCount : Int32) (numbers : Nat → Int32) (chosen : Nat → Int32) (res : Int32) (hf : fX0_degree numbers = some res) : Met l yX0_degree wsX0_degree rm_X0_degree (qP D cI cB cR [.ref ah] (wDE cI ah an ak chosenCount numbers chosen) sz) (qI D res (wDE cI ah an ak chosenCount numbers chosen) (wDE cI ah an ak chosenCount numbers chosen) sz) 0 0 (va_A (wDE cI ah an ak chosenCount numbers chosen) sz) := by
  refine entI (plainFor_of_name (by decide)) rfl (Nat.le_of_ble_eq_true rfl) ?_
  intro p e s m args below meth c Q A ls S hG hP hD hA hl hE
  obtain ⟨hx, hb, hml, hown, hts⟩ := S
  have hown : s.vm.findClass RX0 = some m.cls := hown
  have hS : va_S A s.heap s.heap [] := va_S.rf
  have hl : lv_has ls 2 [(0, .ref ah)] := hl
  have hq := hf
  unfold fX0_degree at hq
  obtain ⟨H, hH⟩ : ∃ H, H = s.heap := ⟨_, rfl⟩
  obtain ⟨locs, hlo⟩ : ∃ L : List Loc, L = [] := ⟨_, rfl⟩
  have hP : va_P D cls9 (wDE cI ah an ak chosenCount numbers chosen) H := hH ▸ hP
  have hS : va_S A s.heap H locs := by rw [hH, hlo]; exact hS
  suffices hg : W p l e rm_X0_degree s m args below meth c H locs 0 0 Q (F0 m 0 ls []) by rw [hH, hlo] at hg; exact hg
  refine lv_aload_n hx hb dX0_degree_0 rfl (lv_at hl 0 rfl) ?_
  refine va_get (D := D) (ci := 0) (v := .ref an) (C := RX0) (T := TX0) (N := 3) hx hb hts iX0_degree_X0 hown hG.1 hP 0 rfl rfl 0 (by decide) (hts _ fX0_degree_1) (fun _ h9 => h9) rfl dX0_degree_1 ?_
  refine va_alen (v := (19 : Int32)) hx hb hG.1 hP 1 0 rfl rfl rfl dX0_degree_4 ?_
  refine lv_iconst (v := 1) hx hb dX0_degree_5 (by decide) ?_
  refine lv_isub hx hb dX0_degree_6 ?_
  refine lv_istore_n (lv' := [(1, .int ((19 : Int32) - (1 : Int32))), (0, .ref ah)]) hx hb dX0_degree_7 rfl hl (by decide) rfl (fun ls hl => ?_)
  obtain ⟨w1, hw1, hk1, hO1⟩ := bx_s hq
  have hX1 : ∀ (_ : Unit), w1 = .inl () → ∀ (H : Heap) (locs : List Loc), va_P D cls9 (wDE cI ah an ak chosenCount numbers chosen) H → va_D A (wDE cI ah an ak chosenCount numbers chosen) → va_S A s.heap H locs → ∀ (ls : Array Slot), lv_has ls 2 [] → W p l e rm_X0_degree s m args below meth c H locs 0 0 Q (F0 m 29 ls []) := by
    intro _ hq H locs hP hD hS ls hl
    have hq := hk1 _ hq
    refine lv_iconst (v := -1) hx hb dX0_degree_29 (by decide) ?_
    have he := Option.some.inj hq
    subst he
    exact hE H locs _ _ _ rfl dX0_degree_30 hP hD hS
  have hL1 : ∀ (n : Nat) (i_1 : Int32), lrun (fun (z : Int32) => fX0_degree_s8 numbers z) n i_1 = some w1 → ∀ (H : Heap) (locs : List Loc), va_P D cls9 (wDE cI ah an ak chosenCount numbers chosen) H → va_D A (wDE cI ah an ak chosenCount numbers chosen) → va_S A s.heap H locs → ∀ (ls : Array Slot), lv_has ls 2 [(0, .ref ah), (1, .int i_1)] → W p l e rm_X0_degree s m args below meth c H locs 0 0 Q (F0 m 8 ls []) := by
    intro n
    induction n with
    | zero => intro i_1 h; cases h
    | succ n ih1 =>
      intro i_1 hr1 H locs hP hD hS ls hl
      obtain ⟨k, v1, hk, hr1, ht1, hv1⟩ := lrun_s hr1
      cases hk
      have hr1 : fX0_degree_s8 numbers i_1 = some v1 := hr1
      unfold fX0_degree_s8 at hr1
      refine lv_iload_n hx hb dX0_degree_8 rfl (lv_at hl 1 rfl) ?_
      refine lv_if_lt (tgt := 29) hx hb dX0_degree_9 (by decide) (fun c_2 => ?_) (fun c_2 => ?_)
      · have hr1 := it_t c_2 hr1
        exact hX1 () (hv1 _ (Option.some.inj hr1).symm).symm H locs hP hD hS ls (lv_sub hl [] rfl)
      · have hr1 := it_f c_2 hr1
        refine lv_aload_n hx hb dX0_degree_12 rfl (lv_at hl 0 rfl) ?_
        refine va_get (D := D) (ci := 0) (v := .ref an) (C := RX0) (T := TX0) (N := 3) hx hb hts iX0_degree_X0 hown hG.1 hP 0 rfl rfl 0 (by decide) (hts _ fX0_degree_1) (fun _ h9 => h9) rfl dX0_degree_13 ?_
        refine lv_iload_n hx hb dX0_degree_16 rfl (lv_at hl 1 rfl) ?_
        obtain ⟨h_3, hr1⟩ := gd_s hr1
        refine va_iald hx hb hG.1 hP 1 0 rfl rfl h_3 dX0_degree_17 ?_
        refine lv_if_eq (tgt := 23) hx hb dX0_degree_18 (by decide) (fun c_4 => ?_) (fun c_4 => ?_)
        · have hr1 := it_t c_4 hr1
          refine lv_iinc (v := (i_1 + (-1))) (lv' := [(1, .int (i_1 + (-1))), (0, .ref ah)]) hx hb dX0_degree_23 hl (k := 1) rfl rfl (by decide) rfl (fun ls hl => ?_)
          refine lv_goto (tgt := 8) hx hb dX0_degree_26 (by decide) ?_
          exact ih1 (i_1 + (-1)) (ht1 _ (Option.some.inj hr1).symm) H locs hP hD hS ls (lv_sub hl [1, 0] rfl)
        · have hr1 := it_f c_4 hr1
          refine lv_iload_n hx hb dX0_degree_21 rfl (lv_at hl 1 rfl) ?_
          have he := (hO1 _ (hv1 _ (Option.some.inj hr1).symm).symm)
          subst he
          exact hE H locs _ _ _ rfl dX0_degree_22 hP hD hS
  obtain ⟨n1, hn1⟩ := Lp_s hw1
  exact hL1 n1 ((19 : Int32) - (1 : Int32)) hn1 H locs hP hD hS ls (lv_sub hl [1, 0] rfl)
abbrev rm_X7_isWithin : Room := { frames := 0, cells := 0, slots := 0, locals := 0 }
set_option maxHeartbeats 4000000 in
set_option maxRecDepth 100000 in
theorem mtX7_isWithin (l : Launch) (D : va_G) (cI cB cR : ClassId) (sz : Nat) (a0 : Int32) (a1 : Int32) (a2 : Int32) (res : Int32) (hf : fX7_isWithin a0 a1 a2 = res) : Met l yX7_isWithin wsX7_isWithin rm_X7_isWithin (qP D cI cB cR [.int a0, .int a1, .int a2] ([] : va_W) sz) (qZ D res ([] : va_W) ([] : va_W) sz) 0 0 (va_A ([] : va_W) sz) := by
  refine entZ (plainFor_of_name (by decide)) rfl (Nat.le_of_ble_eq_true rfl) ?_
  intro p e s m args below meth c Q A ls S hG hP hD hA hl hE
  obtain ⟨hx, hb, hml, hown, hts⟩ := S
  have hown : s.vm.findClass RX7 = some m.cls := hown
  have hS : va_S A s.heap s.heap [] := va_S.rf
  have hl : lv_has ls 3 [(0, .int a0), (1, .int a1), (2, .int a2)] := hl
  have hq := hf
  unfold fX7_isWithin at hq
  obtain ⟨H, hH⟩ : ∃ H, H = s.heap := ⟨_, rfl⟩
  obtain ⟨locs, hlo⟩ : ∃ L : List Loc, L = [] := ⟨_, rfl⟩
  have hP : va_P D cls9 ([] : va_W) H := hH ▸ hP
  have hS : va_S A s.heap H locs := by rw [hH, hlo]; exact hS
  suffices hg : W p l e rm_X7_isWithin s m args below meth c H locs 0 0 Q (F0 m 0 ls []) by rw [hH, hlo] at hg; exact hg
  refine lv_iload_n hx hb dX7_isWithin_0 rfl (lv_at hl 0 rfl) ?_
  refine lv_iload_n hx hb dX7_isWithin_1 rfl (lv_at hl 1 rfl) ?_
  refine lv_icmp_lt (tgt := 14) hx hb dX7_isWithin_2 (by decide) (fun c_1 => ?_) (fun c_1 => ?_)
  · have hq := it_t c_1 hq
    refine lv_iconst (v := 0) hx hb dX7_isWithin_14 (by decide) ?_
    have he := hq
    subst he
    exact hE H locs _ _ _ rfl (Or.inl rfl) dX7_isWithin_15 hP hD hS
  · have hq := it_f c_1 hq
    refine lv_iload_n hx hb dX7_isWithin_5 rfl (lv_at hl 0 rfl) ?_
    refine lv_iload_n hx hb dX7_isWithin_6 rfl (lv_at hl 2 rfl) ?_
    refine lv_icmp_gt (tgt := 14) hx hb dX7_isWithin_7 (by decide) (fun c_2 => ?_) (fun c_2 => ?_)
    · have hq := it_t c_2 hq
      refine lv_iconst (v := 0) hx hb dX7_isWithin_14 (by decide) ?_
      have he := hq
      subst he
      exact hE H locs _ _ _ rfl (Or.inl rfl) dX7_isWithin_15 hP hD hS
    · have hq := it_f c_2 hq
      refine lv_iconst (v := 1) hx hb dX7_isWithin_10 (by decide) ?_
      refine lv_goto (tgt := 15) hx hb dX7_isWithin_11 (by decide) ?_
      have he := hq
      subst he
      exact hE H locs _ _ _ rfl (Or.inr rfl) dX7_isWithin_15 hP hD hS
abbrev rm_X7_isInSet : Room := { frames := 1, cells := 0, slots := 0, locals := 22 }
set_option maxHeartbeats 4000000 in
set_option maxRecDepth 100000 in
theorem mtX7_isInSet (l : Launch) (D : va_G) (cI cB cR : ClassId) (sz : Nat) (a0 : Int32) (a1 : Int32) (res : Int32) (hf : fX7_isInSet a0 a1 = res) : Met l yX7_isInSet wsX7_isInSet rm_X7_isInSet (qP D cI cB cR [.int a0, .int a1] ([] : va_W) sz) (qZ D res ([] : va_W) ([] : va_W) sz) 0 0 (va_A ([] : va_W) sz) := by
  refine entZ (plainFor_of_name (by decide)) rfl (Nat.le_of_ble_eq_true rfl) ?_
  intro p e s m args below meth c Q A ls S hG hP hD hA hl hE
  obtain ⟨hx, hb, hml, hown, hts⟩ := S
  have hown : s.vm.findClass RX7 = some m.cls := hown
  have hS : va_S A s.heap s.heap [] := va_S.rf
  have hl : lv_has ls 2 [(0, .int a0), (1, .int a1)] := hl
  have hq := hf
  unfold fX7_isInSet at hq
  obtain ⟨H, hH⟩ : ∃ H, H = s.heap := ⟨_, rfl⟩
  obtain ⟨locs, hlo⟩ : ∃ L : List Loc, L = [] := ⟨_, rfl⟩
  have hP : va_P D cls9 ([] : va_W) H := hH ▸ hP
  have hS : va_S A s.heap H locs := by rw [hH, hlo]; exact hS
  suffices hg : W p l e rm_X7_isInSet s m args below meth c H locs 0 0 Q (F0 m 0 ls []) by rw [hH, hlo] at hg; exact hg
  refine lv_iload_n hx hb dX7_isInSet_0 rfl (lv_at hl 0 rfl) ?_
  refine lv_iconst (v := 0) hx hb dX7_isInSet_1 (by decide) ?_
  refine lv_iconst (v := 4) hx hb dX7_isInSet_2 (by decide) ?_
  refine callZ0 (gS (rest := []) ⟨hx, hb, hml, hown, hts⟩ hG vaP0 (vaD0 (A := A)) (mtX7_isWithin l D cI cB cR H.size a0 (0 : Int32) (4 : Int32) _ rfl) (va_cwS 3 hts gX7_isInSet_X7_isWithin rfl rfl rfl hd_X7_isWithin ⟨Nat.le_of_ble_eq_true rfl, Nat.le_of_ble_eq_true rfl⟩) rfl hl.1 rfl (Nat.le_of_ble_eq_true rfl) dX7_isInSet_3) hP hS hA (fun H locs z_1 hP hS => ?_)
  refine lv_if_eq (tgt := 22) hx hb dX7_isInSet_6 (by decide) (fun c_2 => ?_) (fun c_2 => ?_)
  · have hq := it_t c_2 hq
    refine lv_iconst (v := 0) hx hb dX7_isInSet_22 (by decide) ?_
    have he := hq
    subst he
    exact hE H locs _ _ _ rfl (Or.inl rfl) dX7_isInSet_23 hP hD hS
  · have hq := it_f c_2 hq
    refine lv_iload_n hx hb dX7_isInSet_9 rfl (lv_at hl 1 rfl) ?_
    refine lv_iload_n hx hb dX7_isInSet_10 rfl (lv_at hl 0 rfl) ?_
    refine lv_ishr hx hb dX7_isInSet_11 ?_
    refine lv_iconst (v := 1) hx hb dX7_isInSet_12 (by decide) ?_
    refine lv_iand hx hb dX7_isInSet_13 ?_
    refine lv_iconst (v := 1) hx hb dX7_isInSet_14 (by decide) ?_
    refine lv_icmp_ne (tgt := 22) hx hb dX7_isInSet_15 (by decide) (fun c_3 => ?_) (fun c_3 => ?_)
    · have hq := it_f c_3 hq
      refine lv_iconst (v := 0) hx hb dX7_isInSet_22 (by decide) ?_
      have he := hq
      subst he
      exact hE H locs _ _ _ rfl (Or.inl rfl) dX7_isInSet_23 hP hD hS
    · have hq := it_t c_3 hq
      refine lv_iconst (v := 1) hx hb dX7_isInSet_18 (by decide) ?_
      refine lv_goto (tgt := 23) hx hb dX7_isInSet_19 (by decide) ?_
      have he := hq
      subst he
      exact hE H locs _ _ _ rfl (Or.inr rfl) dX7_isInSet_23 hP hD hS
abbrev rm_X0_choose : Room := { frames := 2, cells := 0, slots := 0, locals := 43 }
theorem iX0_choose_X0 : ∀ w ∈ wsX00, w ∈ wsX0_choose := fun _ h => (List.mem_cons_of_mem _ (List.mem_append_left _ (List.mem_append_right _ h)))
theorem fX0_choose_1 : Cond.fieldLink RX0 39 "PopovRows$Determinant" "chosenCount" "I" ∈ wsX0_choose := (List.mem_cons_of_mem _ (List.mem_append_left _ (List.mem_append_left _ (List.mem_of_getElem? (i := 0) rfl))))
theorem iX0_choose_X3 : ∀ w ∈ wsX30, w ∈ wsX0_choose := fun _ h => (List.mem_cons_of_mem _ (List.mem_append_right _ h))
theorem fX0_choose_3 : Cond.fieldLink RX0 42 "PopovRows$Rows" "count" "I" ∈ wsX0_choose := (List.mem_cons_of_mem _ (List.mem_append_left _ (List.mem_append_left _ (List.mem_of_getElem? (i := 1) rfl))))
theorem fX0_choose_4 : Cond.initialized RX7 ∈ wsX0_choose := (List.mem_cons_of_mem _ (List.mem_append_left _ (List.mem_append_left _ (List.mem_of_getElem? (i := 4) rfl))))
theorem fX0_choose_5 : Cond.static yX7_isInSet ∈ wsX0_choose := (List.mem_cons_of_mem _ (List.mem_append_left _ (List.mem_append_left _ (List.mem_of_getElem? (i := 3) rfl))))
theorem fX0_choose_6 : Cond.fieldLink RX0 15 "PopovRows$Determinant" "chosen" "[I" ∈ wsX0_choose := (List.mem_cons_of_mem _ (List.mem_append_left _ (List.mem_append_left _ (List.mem_of_getElem? (i := 2) rfl))))
set_option maxHeartbeats 4000000 in
set_option maxRecDepth 100000 in
theorem mtX0_choose (l : Launch) (D : va_G) (cI cB cR : ClassId) (ah : Nat) (an : Nat) (ak : Nat) (qah : Nat) (qan : Nat) (sz : Nat) (chosenCount : Int32) (numbers : Nat → Int32) (chosen : Nat → Int32) (qL : Nat) (qroom : Int32) (qwidth : Int32) (qpowers : Int32) (qpp : Int32) (qcolumns : Int32) (qcount : Int32) (qnum : Nat → Int32) (a1 : Int32) (res : Int32 × (Nat → Int32)) (hf : fX0_choose chosen qcount a1 = some res) : Met l yX0_choose wsX0_choose rm_X0_choose (qP D cI cB cR [.ref ah, .ref qah, .int a1] ((wDE cI ah an ak chosenCount numbers chosen) ++ (wR cI qah qan qL qroom qwidth qpowers qpp qcolumns qcount qnum)) sz) (qV D ((wDE cI ah an ak chosenCount numbers chosen) ++ (wR cI qah qan qL qroom qwidth qpowers qpp qcolumns qcount qnum)) ((wDE cI ah an ak res.1 numbers res.2) ++ (wR cI qah qan qL qroom qwidth qpowers qpp qcolumns qcount qnum)) sz) 0 0 (va_A ((wDE cI ah an ak chosenCount numbers chosen) ++ (wR cI qah qan qL qroom qwidth qpowers qpp qcolumns qcount qnum)) sz) := by
  refine entV (plainFor_of_name (by decide)) rfl (Nat.le_of_ble_eq_true rfl) ?_
  intro p e s m args below meth c Q A ls S hG hP hD hA hl hE
  obtain ⟨hx, hb, hml, hown, hts⟩ := S
  have hown : s.vm.findClass RX0 = some m.cls := hown
  have hS : va_S A s.heap s.heap [] := va_S.rf
  have hl : lv_has ls 4 [(0, .ref ah), (1, .ref qah), (2, .int a1)] := hl
  have hq := hf
  unfold fX0_choose at hq
  obtain ⟨H, hH⟩ : ∃ H, H = s.heap := ⟨_, rfl⟩
  obtain ⟨locs, hlo⟩ : ∃ L : List Loc, L = [] := ⟨_, rfl⟩
  have hP : va_P D cls9 ((wDE cI ah an ak chosenCount numbers chosen) ++ (wR cI qah qan qL qroom qwidth qpowers qpp qcolumns qcount qnum)) H := hH ▸ hP
  have hS : va_S A s.heap H locs := by rw [hH, hlo]; exact hS
  suffices hg : W p l e rm_X0_choose s m args below meth c H locs 0 0 Q (F0 m 0 ls []) by rw [hH, hlo] at hg; exact hg
  refine lv_aload_n hx hb dX0_choose_0 rfl (lv_at hl 0 rfl) ?_
  refine lv_iconst (v := 0) hx hb dX0_choose_1 (by decide) ?_
  refine va_put (D := D) (ci := 0) (v := .int (0 : Int32)) (ty := .int) (C := RX0) (T := TX0) (N := 3) hx hb hts iX0_choose_X0 tyX0 tyX0_ok nmX0 hown hG.1 hP hD hS 0 rfl rfl 2 (by decide) (hts _ fX0_choose_1) (fun _ h9 => h9) rfl (by decide +kernel) rfl rfl (Nat.le_of_ble_eq_true rfl) dX0_choose_2 (fun H locs hP hD hS => ?_)
  have hP : va_P D cls9 ((wDE cI ah an ak (0 : Int32) numbers chosen) ++ (wR cI qah qan qL qroom qwidth qpowers qpp qcolumns qcount qnum)) H := hP
  have hD : va_D A ((wDE cI ah an ak (0 : Int32) numbers chosen) ++ (wR cI qah qan qL qroom qwidth qpowers qpp qcolumns qcount qnum)) := hD
  refine lv_iconst (v := 0) hx hb dX0_choose_5 (by decide) ?_
  refine lv_istore_n (lv' := [(3, .int (0 : Int32)), (0, .ref ah), (1, .ref qah), (2, .int a1)]) hx hb dX0_choose_6 rfl hl (by decide) rfl (fun ls hl => ?_)
  obtain ⟨w1, hw1, hk1⟩ := bd2_s hq
  have hX1 : ∀ (x_9 : Nat → Int32) (x_10 : Int32), w1 = (x_9, x_10) → ∀ (H : Heap) (locs : List Loc), va_P D cls9 ((wDE cI ah an ak x_10 numbers x_9) ++ (wR cI qah qan qL qroom qwidth qpowers qpp qcolumns qcount qnum)) H → va_D A ((wDE cI ah an ak x_10 numbers x_9) ++ (wR cI qah qan qL qroom qwidth qpowers qpp qcolumns qcount qnum)) → va_S A s.heap H locs → ∀ (ls : Array Slot), lv_has ls 4 [] → W p l e rm_X0_choose s m args below meth c H locs 0 0 Q (F0 m 61 ls []) := by
    intro x_9 x_10 hq H locs hP hD hS ls hl
    have hq := hk1 _ _ hq
    have he := Option.some.inj hq
    subst he
    exact hE H locs _ _ dX0_choose_61 hP hD hS
  have hL1 : ∀ (n : Nat) (i_1 : Int32) (i_2 : Nat → Int32) (i_3 : Int32), lrun (fun (z : Int32 × (Nat → Int32) × Int32) => fX0_choose_s7 qcount a1 z.1 z.2.1 z.2.2) n (i_1, i_2, i_3) = some w1 → ∀ (H : Heap) (locs : List Loc), va_P D cls9 ((wDE cI ah an ak i_3 numbers i_2) ++ (wR cI qah qan qL qroom qwidth qpowers qpp qcolumns qcount qnum)) H → va_D A ((wDE cI ah an ak i_3 numbers i_2) ++ (wR cI qah qan qL qroom qwidth qpowers qpp qcolumns qcount qnum)) → va_S A s.heap H locs → ∀ (ls : Array Slot), lv_has ls 4 [(0, .ref ah), (1, .ref qah), (2, .int a1), (3, .int i_1)] → W p l e rm_X0_choose s m args below meth c H locs 0 0 Q (F0 m 7 ls []) := by
    intro n
    induction n with
    | zero => intro i_1 i_2 i_3 h; cases h
    | succ n ih1 =>
      intro i_1 i_2 i_3 hr1 H locs hP hD hS ls hl
      obtain ⟨k, v1, hk, hr1, ht1, hv1⟩ := lrun_s hr1
      cases hk
      have hr1 : fX0_choose_s7 qcount a1 i_1 i_2 i_3 = some v1 := hr1
      unfold fX0_choose_s7 at hr1
      refine lv_iload_n hx hb dX0_choose_7 rfl (lv_at hl 3 rfl) ?_
      refine lv_aload_n hx hb dX0_choose_8 rfl (lv_at hl 1 rfl) ?_
      refine va_get (D := D) (ci := 3) (v := .int qcount) (C := RX3) (T := TX3) (N := 7) hx hb hts iX0_choose_X3 hown hG.1 hP 3 rfl rfl 6 (by decide) (hts _ fX0_choose_3) (fun _ h9 => h9) rfl dX0_choose_9 ?_
      refine lv_icmp_ge (tgt := 61) hx hb dX0_choose_12 (by decide) (fun c_4 => ?_) (fun c_4 => ?_)
      · have hr1 := it_t c_4 hr1
        exact hX1 i_2 i_3 (hv1 _ (Option.some.inj hr1).symm).symm H locs hP hD hS ls (lv_sub hl [] rfl)
      · have hr1 := it_f c_4 hr1
        refine lv_iload_n hx hb dX0_choose_15 rfl (lv_at hl 3 rfl) ?_
        refine lv_iload_n hx hb dX0_choose_16 rfl (lv_at hl 2 rfl) ?_
        refine callZ0 (gSN (rest := []) ⟨hx, hb, hml, hown, hts⟩ hG vaP0 (vaD0 (A := A)) (mtX7_isInSet l D cI cB cR H.size i_1 a1 _ rfl) (va_cnB (host := "PopovRows") 2 hts gX0_choose_X7_isInSet_n45 rfl rfl rfl (hG.2 _ nl_20) (hts _ fX0_choose_4) hd_X7_isInSet ⟨Nat.le_of_ble_eq_true rfl, Nat.le_of_ble_eq_true rfl⟩) (hts _ fX0_choose_5) rfl hl.1 rfl (Nat.le_of_ble_eq_true rfl) dX0_choose_17) hP hS hA (fun H locs z_5 hP hS => ?_)
        refine lv_if_eq (tgt := 55) hx hb dX0_choose_20 (by decide) (fun c_6 => ?_) (fun c_6 => ?_)
        · have hr1 := it_t c_6 hr1
          refine lv_iinc (v := (i_1 + 1)) (lv' := [(3, .int (i_1 + 1)), (0, .ref ah), (1, .ref qah), (2, .int a1)]) hx hb dX0_choose_55 hl (k := 3) rfl rfl (by decide) rfl (fun ls hl => ?_)
          refine lv_goto (tgt := 7) hx hb dX0_choose_58 (by decide) ?_
          exact ih1 (i_1 + 1) i_2 i_3 (ht1 _ (Option.some.inj hr1).symm) H locs hP hD hS ls (lv_sub hl [1, 2, 3, 0] rfl)
        · have hr1 := it_f c_6 hr1
          refine lv_aload_n hx hb dX0_choose_23 rfl (lv_at hl 0 rfl) ?_
          refine va_get (D := D) (ci := 0) (v := .int i_3) (C := RX0) (T := TX0) (N := 3) hx hb hts iX0_choose_X0 hown hG.1 hP 0 rfl rfl 2 (by decide) (hts _ fX0_choose_1) (fun _ h9 => h9) rfl dX0_choose_24 ?_
          refine lv_aload_n hx hb dX0_choose_27 rfl (lv_at hl 0 rfl) ?_
          refine va_get (D := D) (ci := 0) (v := .ref ak) (C := RX0) (T := TX0) (N := 3) hx hb hts iX0_choose_X0 hown hG.1 hP 0 rfl rfl 1 (by decide) (hts _ fX0_choose_6) (fun _ h9 => h9) rfl dX0_choose_28 ?_
          refine va_alen (v := (3 : Int32)) hx hb hG.1 hP 2 0 rfl rfl rfl dX0_choose_31 ?_
          refine lv_icmp_ge (tgt := 55) hx hb dX0_choose_32 (by decide) (fun c_7 => ?_) (fun c_7 => ?_)
          · have hr1 := it_t c_7 hr1
            refine lv_iinc (v := (i_1 + 1)) (lv' := [(3, .int (i_1 + 1)), (0, .ref ah), (1, .ref qah), (2, .int a1)]) hx hb dX0_choose_55 hl (k := 3) rfl rfl (by decide) rfl (fun ls hl => ?_)
            refine lv_goto (tgt := 7) hx hb dX0_choose_58 (by decide) ?_
            exact ih1 (i_1 + 1) i_2 i_3 (ht1 _ (Option.some.inj hr1).symm) H locs hP hD hS ls (lv_sub hl [1, 2, 3, 0] rfl)
          · have hr1 := it_f c_7 hr1
            refine lv_aload_n hx hb dX0_choose_35 rfl (lv_at hl 0 rfl) ?_
            refine va_get (D := D) (ci := 0) (v := .ref ak) (C := RX0) (T := TX0) (N := 3) hx hb hts iX0_choose_X0 hown hG.1 hP 0 rfl rfl 1 (by decide) (hts _ fX0_choose_6) (fun _ h9 => h9) rfl dX0_choose_36 ?_
            refine lv_aload_n hx hb dX0_choose_39 rfl (lv_at hl 0 rfl) ?_
            refine va_get (D := D) (ci := 0) (v := .int i_3) (C := RX0) (T := TX0) (N := 3) hx hb hts iX0_choose_X0 hown hG.1 hP 0 rfl rfl 2 (by decide) (hts _ fX0_choose_1) (fun _ h9 => h9) rfl dX0_choose_40 ?_
            refine lv_iload_n hx hb dX0_choose_43 rfl (lv_at hl 3 rfl) ?_
            obtain ⟨h_8, hr1⟩ := gd_s hr1
            refine va_iast hx hb hG.1 hP hD hS 2 0 rfl rfl h_8 dX0_choose_44 (fun H locs hP hD hS => ?_)
            have hP : va_P D cls9 ((wDE cI ah an ak i_3 numbers (upd i_2 i_3.toNatClampNeg i_1)) ++ (wR cI qah qan qL qroom qwidth qpowers qpp qcolumns qcount qnum)) H := hP
            have hD : va_D A ((wDE cI ah an ak i_3 numbers (upd i_2 i_3.toNatClampNeg i_1)) ++ (wR cI qah qan qL qroom qwidth qpowers qpp qcolumns qcount qnum)) := hD
            refine lv_aload_n hx hb dX0_choose_45 rfl (lv_at hl 0 rfl) ?_
            refine lv_dup hx hb dX0_choose_46 rfl ?_
            refine va_get (D := D) (ci := 0) (v := .int i_3) (C := RX0) (T := TX0) (N := 3) hx hb hts iX0_choose_X0 hown hG.1 hP 0 rfl rfl 2 (by decide) (hts _ fX0_choose_1) (fun _ h9 => h9) rfl dX0_choose_47 ?_
            refine lv_iconst (v := 1) hx hb dX0_choose_50 (by decide) ?_
            refine lv_iadd hx hb dX0_choose_51 ?_
            refine va_put (D := D) (ci := 0) (v := .int (i_3 + (1 : Int32))) (ty := .int) (C := RX0) (T := TX0) (N := 3) hx hb hts iX0_choose_X0 tyX0 tyX0_ok nmX0 hown hG.1 hP hD hS 0 rfl rfl 2 (by decide) (hts _ fX0_choose_1) (fun _ h9 => h9) rfl (by decide +kernel) rfl rfl (Nat.le_of_ble_eq_true rfl) dX0_choose_52 (fun H locs hP hD hS => ?_)
            have hP : va_P D cls9 ((wDE cI ah an ak (i_3 + (1 : Int32)) numbers (upd i_2 i_3.toNatClampNeg i_1)) ++ (wR cI qah qan qL qroom qwidth qpowers qpp qcolumns qcount qnum)) H := hP
            have hD : va_D A ((wDE cI ah an ak (i_3 + (1 : Int32)) numbers (upd i_2 i_3.toNatClampNeg i_1)) ++ (wR cI qah qan qL qroom qwidth qpowers qpp qcolumns qcount qnum)) := hD
            refine lv_iinc (v := (i_1 + 1)) (lv' := [(3, .int (i_1 + 1)), (0, .ref ah), (1, .ref qah), (2, .int a1)]) hx hb dX0_choose_55 hl (k := 3) rfl rfl (by decide) rfl (fun ls hl => ?_)
            refine lv_goto (tgt := 7) hx hb dX0_choose_58 (by decide) ?_
            exact ih1 (i_1 + 1) (upd i_2 i_3.toNatClampNeg i_1) (i_3 + (1 : Int32)) (ht1 _ (Option.some.inj hr1).symm) H locs hP hD hS ls (lv_sub hl [1, 2, 3, 0] rfl)
  obtain ⟨n1, hn1⟩ := Lp_s hw1
  exact hL1 n1 (0 : Int32) chosen (0 : Int32) hn1 H locs hP hD hS ls (lv_sub hl [1, 2, 3, 0] rfl)
abbrev rm_X0_entryAt : Room := { frames := 1, cells := 0, slots := 0, locals := 24 }
theorem iX0_entryAt_X0 : ∀ w ∈ wsX00, w ∈ wsX0_entryAt := fun _ h => (List.mem_cons_of_mem _ (List.mem_append_left _ (List.mem_append_right _ h)))
theorem fX0_entryAt_1 : Cond.fieldLink RX0 39 "PopovRows$Determinant" "chosenCount" "I" ∈ wsX0_entryAt := (List.mem_cons_of_mem _ (List.mem_append_left _ (List.mem_append_left _ (List.mem_of_getElem? (i := 0) rfl))))
theorem fX0_entryAt_2 : Cond.fieldLink RX0 15 "PopovRows$Determinant" "chosen" "[I" ∈ wsX0_entryAt := (List.mem_cons_of_mem _ (List.mem_append_left _ (List.mem_append_left _ (List.mem_of_getElem? (i := 1) rfl))))
theorem iX0_entryAt_X3 : ∀ w ∈ wsX30, w ∈ wsX0_entryAt := fun _ h => (List.mem_cons_of_mem _ (List.mem_append_right _ h))
theorem fX0_entryAt_4 : Cond.fieldLink RX0 49 "PopovRows$Rows" "columns" "I" ∈ wsX0_entryAt := (List.mem_cons_of_mem _ (List.mem_append_left _ (List.mem_append_left _ (List.mem_of_getElem? (i := 2) rfl))))
set_option maxHeartbeats 4000000 in
set_option maxRecDepth 100000 in
theorem mtX0_entryAt (l : Launch) (D : va_G) (cI cB cR : ClassId) (ah : Nat) (an : Nat) (ak : Nat) (qah : Nat) (qan : Nat) (sz : Nat) (chosenCount : Int32) (numbers : Nat → Int32) (chosen : Nat → Int32) (qL : Nat) (qroom : Int32) (qwidth : Int32) (qpowers : Int32) (qpp : Int32) (qcolumns : Int32) (qcount : Int32) (qnum : Nat → Int32) (a1 : Int32) (a2 : Int32) (a3 : Int32) (res : Int32) (hf : fX0_entryAt chosenCount chosen qL qroom qwidth qpowers qcolumns qnum a1 a2 a3 = some res) : Met l yX0_entryAt wsX0_entryAt rm_X0_entryAt (qP D cI cB cR [.ref ah, .ref qah, .int a1, .int a2, .int a3] ((wDE cI ah an ak chosenCount numbers chosen) ++ (wR cI qah qan qL qroom qwidth qpowers qpp qcolumns qcount qnum)) sz) (qI D res ((wDE cI ah an ak chosenCount numbers chosen) ++ (wR cI qah qan qL qroom qwidth qpowers qpp qcolumns qcount qnum)) ((wDE cI ah an ak chosenCount numbers chosen) ++ (wR cI qah qan qL qroom qwidth qpowers qpp qcolumns qcount qnum)) sz) 0 0 (va_A ((wDE cI ah an ak chosenCount numbers chosen) ++ (wR cI qah qan qL qroom qwidth qpowers qpp qcolumns qcount qnum)) sz) := by
  refine entI (plainFor_of_name (by decide)) rfl (Nat.le_of_ble_eq_true rfl) ?_
  intro p e s m args below meth c Q A ls S hG hP hD hA hl hE
  obtain ⟨hx, hb, hml, hown, hts⟩ := S
  have hown : s.vm.findClass RX0 = some m.cls := hown
  have hS : va_S A s.heap s.heap [] := va_S.rf
  have hl : lv_has ls 5 [(0, .ref ah), (1, .ref qah), (2, .int a1), (3, .int a2), (4, .int a3)] := hl
  have hq := hf
  unfold fX0_entryAt at hq
  obtain ⟨H, hH⟩ : ∃ H, H = s.heap := ⟨_, rfl⟩
  obtain ⟨locs, hlo⟩ : ∃ L : List Loc, L = [] := ⟨_, rfl⟩
  have hP : va_P D cls9 ((wDE cI ah an ak chosenCount numbers chosen) ++ (wR cI qah qan qL qroom qwidth qpowers qpp qcolumns qcount qnum)) H := hH ▸ hP
  have hS : va_S A s.heap H locs := by rw [hH, hlo]; exact hS
  suffices hg : W p l e rm_X0_entryAt s m args below meth c H locs 0 0 Q (F0 m 0 ls []) by rw [hH, hlo] at hg; exact hg
  refine lv_iload_n hx hb dX0_entryAt_0 rfl (lv_at hl 2 rfl) ?_
  refine lv_if_lt (tgt := 47) hx hb dX0_entryAt_1 (by decide) (fun c_1 => ?_) (fun c_1 => ?_)
  · have hq := it_t c_1 hq
    refine lv_iload_n hx hb dX0_entryAt_47 rfl (lv_at hl 2 rfl) ?_
    refine lv_iload_n hx hb dX0_entryAt_48 rfl (lv_at hl 3 rfl) ?_
    refine lv_icmp_ne (tgt := 61) hx hb dX0_entryAt_49 (by decide) (fun c_2 => ?_) (fun c_2 => ?_)
    · have hq := it_f c_2 hq
      refine lv_iconst (v := 0) hx hb dX0_entryAt_61 (by decide) ?_
      have he := Option.some.inj hq
      subst he
      exact hE H locs _ _ _ rfl dX0_entryAt_62 hP hD hS
    · have hq := it_t c_2 hq
      refine lv_iload hx hb dX0_entryAt_52 (lv_at hl 4 rfl) ?_
      refine lv_if_ne (tgt := 61) hx hb dX0_entryAt_54 (by decide) (fun c_3 => ?_) (fun c_3 => ?_)
      · have hq := it_f c_3 hq
        refine lv_iconst (v := 0) hx hb dX0_entryAt_61 (by decide) ?_
        have he := Option.some.inj hq
        subst he
        exact hE H locs _ _ _ rfl dX0_entryAt_62 hP hD hS
      · have hq := it_t c_3 hq
        refine lv_iconst (v := 1) hx hb dX0_entryAt_57 (by decide) ?_
        refine lv_goto (tgt := 62) hx hb dX0_entryAt_58 (by decide) ?_
        have he := Option.some.inj hq
        subst he
        exact hE H locs _ _ _ rfl dX0_entryAt_62 hP hD hS
  · have hq := it_f c_1 hq
    refine lv_iload_n hx hb dX0_entryAt_4 rfl (lv_at hl 2 rfl) ?_
    refine lv_aload_n hx hb dX0_entryAt_5 rfl (lv_at hl 0 rfl) ?_
    refine va_get (D := D) (ci := 0) (v := .int chosenCount) (C := RX0) (T := TX0) (N := 3) hx hb hts iX0_entryAt_X0 hown hG.1 hP 0 rfl rfl 2 (by decide) (hts _ fX0_entryAt_1) (fun _ h9 => h9) rfl dX0_entryAt_6 ?_
    refine lv_icmp_ge (tgt := 47) hx hb dX0_entryAt_9 (by decide) (fun c_4 => ?_) (fun c_4 => ?_)
    · have hq := it_t c_4 hq
      refine lv_iload_n hx hb dX0_entryAt_47 rfl (lv_at hl 2 rfl) ?_
      refine lv_iload_n hx hb dX0_entryAt_48 rfl (lv_at hl 3 rfl) ?_
      refine lv_icmp_ne (tgt := 61) hx hb dX0_entryAt_49 (by decide) (fun c_5 => ?_) (fun c_5 => ?_)
      · have hq := it_f c_5 hq
        refine lv_iconst (v := 0) hx hb dX0_entryAt_61 (by decide) ?_
        have he := Option.some.inj hq
        subst he
        exact hE H locs _ _ _ rfl dX0_entryAt_62 hP hD hS
      · have hq := it_t c_5 hq
        refine lv_iload hx hb dX0_entryAt_52 (lv_at hl 4 rfl) ?_
        refine lv_if_ne (tgt := 61) hx hb dX0_entryAt_54 (by decide) (fun c_6 => ?_) (fun c_6 => ?_)
        · have hq := it_f c_6 hq
          refine lv_iconst (v := 0) hx hb dX0_entryAt_61 (by decide) ?_
          have he := Option.some.inj hq
          subst he
          exact hE H locs _ _ _ rfl dX0_entryAt_62 hP hD hS
        · have hq := it_t c_6 hq
          refine lv_iconst (v := 1) hx hb dX0_entryAt_57 (by decide) ?_
          refine lv_goto (tgt := 62) hx hb dX0_entryAt_58 (by decide) ?_
          have he := Option.some.inj hq
          subst he
          exact hE H locs _ _ _ rfl dX0_entryAt_62 hP hD hS
    · have hq := it_f c_4 hq
      refine lv_iload_n hx hb dX0_entryAt_12 rfl (lv_at hl 2 rfl) ?_
      refine lv_aload_n hx hb dX0_entryAt_13 rfl (lv_at hl 0 rfl) ?_
      refine va_get (D := D) (ci := 0) (v := .ref ak) (C := RX0) (T := TX0) (N := 3) hx hb hts iX0_entryAt_X0 hown hG.1 hP 0 rfl rfl 1 (by decide) (hts _ fX0_entryAt_2) (fun _ h9 => h9) rfl dX0_entryAt_14 ?_
      refine va_alen (v := (3 : Int32)) hx hb hG.1 hP 2 0 rfl rfl rfl dX0_entryAt_17 ?_
      refine lv_icmp_ge (tgt := 47) hx hb dX0_entryAt_18 (by decide) (fun c_7 => ?_) (fun c_7 => ?_)
      · have hq := it_t c_7 hq
        refine lv_iload_n hx hb dX0_entryAt_47 rfl (lv_at hl 2 rfl) ?_
        refine lv_iload_n hx hb dX0_entryAt_48 rfl (lv_at hl 3 rfl) ?_
        refine lv_icmp_ne (tgt := 61) hx hb dX0_entryAt_49 (by decide) (fun c_8 => ?_) (fun c_8 => ?_)
        · have hq := it_f c_8 hq
          refine lv_iconst (v := 0) hx hb dX0_entryAt_61 (by decide) ?_
          have he := Option.some.inj hq
          subst he
          exact hE H locs _ _ _ rfl dX0_entryAt_62 hP hD hS
        · have hq := it_t c_8 hq
          refine lv_iload hx hb dX0_entryAt_52 (lv_at hl 4 rfl) ?_
          refine lv_if_ne (tgt := 61) hx hb dX0_entryAt_54 (by decide) (fun c_9 => ?_) (fun c_9 => ?_)
          · have hq := it_f c_9 hq
            refine lv_iconst (v := 0) hx hb dX0_entryAt_61 (by decide) ?_
            have he := Option.some.inj hq
            subst he
            exact hE H locs _ _ _ rfl dX0_entryAt_62 hP hD hS
          · have hq := it_t c_9 hq
            refine lv_iconst (v := 1) hx hb dX0_entryAt_57 (by decide) ?_
            refine lv_goto (tgt := 62) hx hb dX0_entryAt_58 (by decide) ?_
            have he := Option.some.inj hq
            subst he
            exact hE H locs _ _ _ rfl dX0_entryAt_62 hP hD hS
      · have hq := it_f c_7 hq
        refine lv_iload_n hx hb dX0_entryAt_21 rfl (lv_at hl 3 rfl) ?_
        refine lv_aload_n hx hb dX0_entryAt_22 rfl (lv_at hl 1 rfl) ?_
        refine va_get (D := D) (ci := 3) (v := .int qcolumns) (C := RX3) (T := TX3) (N := 7) hx hb hts iX0_entryAt_X3 hown hG.1 hP 3 rfl rfl 5 (by decide) (hts _ fX0_entryAt_4) (fun _ h9 => h9) rfl dX0_entryAt_23 ?_
        refine lv_icmp_ge (tgt := 45) hx hb dX0_entryAt_26 (by decide) (fun c_10 => ?_) (fun c_10 => ?_)
        · have hq := it_t c_10 hq
          refine lv_iconst (v := 0) hx hb dX0_entryAt_45 (by decide) ?_
          have he := Option.some.inj hq
          subst he
          exact hE H locs _ _ _ rfl dX0_entryAt_46 hP hD hS
        · have hq := it_f c_10 hq
          refine lv_aload_n hx hb dX0_entryAt_29 rfl (lv_at hl 1 rfl) ?_
          refine lv_aload_n hx hb dX0_entryAt_30 rfl (lv_at hl 0 rfl) ?_
          refine va_get (D := D) (ci := 0) (v := .ref ak) (C := RX0) (T := TX0) (N := 3) hx hb hts iX0_entryAt_X0 hown hG.1 hP 0 rfl rfl 1 (by decide) (hts _ fX0_entryAt_2) (fun _ h9 => h9) rfl dX0_entryAt_31 ?_
          refine lv_iload_n hx hb dX0_entryAt_34 rfl (lv_at hl 2 rfl) ?_
          obtain ⟨h_11, hq⟩ := gd_s hq
          refine va_iald hx hb hG.1 hP 2 0 rfl rfl h_11 dX0_entryAt_35 ?_
          refine lv_iload_n hx hb dX0_entryAt_36 rfl (lv_at hl 3 rfl) ?_
          refine lv_iload hx hb dX0_entryAt_37 (lv_at hl 4 rfl) ?_
          obtain ⟨v_14, hq_13, hk⟩ := bd1_s hq
          obtain ⟨r_12, rfl⟩ : ∃ y, y = v_14 := ⟨_, rfl⟩
          have hq := hk _ rfl
          have hPc : va_P D cls9 [(qah, .inr (3, [.int qroom, .int qwidth, .int qpowers, .ref qan, .int qpp, .int qcolumns, .int qcount])), (qan, .inl (cI, qL, .inl qnum))] H := hPsub hP [3, 4] rfl
          have hDc : va_D A [(qah, .inr (3, [.int qroom, .int qwidth, .int qpowers, .ref qan, .int qpp, .int qcolumns, .int qcount])), (qan, .inl (cI, qL, .inl qnum))] := hD.sub [3, 4] (by decide +kernel) rfl
          refine callIP (wr := [(ah, .inr (0, [.ref an, .ref ak, .int chosenCount])), (an, .inl (cI, 19, .inl numbers)), (ak, .inl (cI, 3, .inl chosen))]) (ws2 := ((wDE cI ah an ak chosenCount numbers chosen) ++ (wR cI qah qan qL qroom qwidth qpowers qpp qcolumns qcount qnum))) (gV (rest := []) ⟨hx, hb, hml, hown, hts⟩ hG hPc hDc 0 3 rfl rfl (mtX3_at l D cI cB cR qah qan H.size qL qroom qwidth qpowers qpp qcolumns qcount qnum (chosen a1.toNatClampNeg) a2 a3 r_12 hq_13) (cwV 3 hts gX0_entryAt_X3_at rfl rfl rfl ⟨rfl, hd_X3_at⟩ ⟨Nat.le_of_ble_eq_true rfl, Nat.le_of_ble_eq_true rfl⟩) rfl hl.1 rfl (Nat.le_of_ble_eq_true rfl) dX0_entryAt_39) hP hD hS hA [3, 4] [0, 1, 2] [0, 1, 2, 3, 4] rfl rfl (by decide +kernel) (by decide +kernel) rfl (by decide +kernel) (fun H locs hP hD hS => ?_)
          refine lv_goto (tgt := 46) hx hb dX0_entryAt_42 (by decide) ?_
          have he := Option.some.inj hq
          subst he
          exact hE H locs _ _ _ rfl dX0_entryAt_46 hP hD hS
abbrev rm_X0_addAt : Room := { frames := 0, cells := 0, slots := 0, locals := 0 }
theorem iX0_addAt_X0 : ∀ w ∈ wsX00, w ∈ wsX0_addAt := fun _ h => (List.mem_cons_of_mem _ (List.mem_append_right _ h))
theorem fX0_addAt_1 : Cond.fieldLink RX0 9 "PopovRows$Determinant" "numbers" "[I" ∈ wsX0_addAt := (List.mem_cons_of_mem _ (List.mem_append_left _ (List.mem_of_getElem? (i := 0) rfl)))
set_option maxHeartbeats 4000000 in
set_option maxRecDepth 100000 in
theorem mtX0_addAt (l : Launch) (D : va_G) (cI cB cR : ClassId) (ah : Nat) (an : Nat) (ak : Nat) (sz : Nat) (chosenCount : Int32) (numbers : Nat → Int32) (chosen : Nat → Int32) (a0 : Int32) (a1 : Int32) (res : Nat → Int32) (hf : fX0_addAt numbers a0 a1 = some res) : Met l yX0_addAt wsX0_addAt rm_X0_addAt (qP D cI cB cR [.ref ah, .int a0, .int a1] (wDE cI ah an ak chosenCount numbers chosen) sz) (qV D (wDE cI ah an ak chosenCount numbers chosen) (wDE cI ah an ak chosenCount res chosen) sz) 0 0 (va_A (wDE cI ah an ak chosenCount numbers chosen) sz) := by
  refine entV (plainFor_of_name (by decide)) rfl (Nat.le_of_ble_eq_true rfl) ?_
  intro p e s m args below meth c Q A ls S hG hP hD hA hl hE
  obtain ⟨hx, hb, hml, hown, hts⟩ := S
  have hown : s.vm.findClass RX0 = some m.cls := hown
  have hS : va_S A s.heap s.heap [] := va_S.rf
  have hl : lv_has ls 3 [(0, .ref ah), (1, .int a0), (2, .int a1)] := hl
  have hq := hf
  unfold fX0_addAt at hq
  obtain ⟨H, hH⟩ : ∃ H, H = s.heap := ⟨_, rfl⟩
  obtain ⟨locs, hlo⟩ : ∃ L : List Loc, L = [] := ⟨_, rfl⟩
  have hP : va_P D cls9 (wDE cI ah an ak chosenCount numbers chosen) H := hH ▸ hP
  have hS : va_S A s.heap H locs := by rw [hH, hlo]; exact hS
  suffices hg : W p l e rm_X0_addAt s m args below meth c H locs 0 0 Q (F0 m 0 ls []) by rw [hH, hlo] at hg; exact hg
  refine lv_iload_n hx hb dX0_addAt_0 rfl (lv_at hl 1 rfl) ?_
  refine lv_if_lt (tgt := 23) hx hb dX0_addAt_1 (by decide) (fun c_1 => ?_) (fun c_1 => ?_)
  · have hq := it_t c_1 hq
    have he := Option.some.inj hq
    subst he
    exact hE H locs _ _ dX0_addAt_23 hP hD hS
  · have hq := it_f c_1 hq
    refine lv_iload_n hx hb dX0_addAt_4 rfl (lv_at hl 1 rfl) ?_
    refine lv_aload_n hx hb dX0_addAt_5 rfl (lv_at hl 0 rfl) ?_
    refine va_get (D := D) (ci := 0) (v := .ref an) (C := RX0) (T := TX0) (N := 3) hx hb hts iX0_addAt_X0 hown hG.1 hP 0 rfl rfl 0 (by decide) (hts _ fX0_addAt_1) (fun _ h9 => h9) rfl dX0_addAt_6 ?_
    refine va_alen (v := (19 : Int32)) hx hb hG.1 hP 1 0 rfl rfl rfl dX0_addAt_9 ?_
    refine lv_icmp_ge (tgt := 23) hx hb dX0_addAt_10 (by decide) (fun c_2 => ?_) (fun c_2 => ?_)
    · have hq := it_t c_2 hq
      have he := Option.some.inj hq
      subst he
      exact hE H locs _ _ dX0_addAt_23 hP hD hS
    · have hq := it_f c_2 hq
      refine lv_aload_n hx hb dX0_addAt_13 rfl (lv_at hl 0 rfl) ?_
      refine va_get (D := D) (ci := 0) (v := .ref an) (C := RX0) (T := TX0) (N := 3) hx hb hts iX0_addAt_X0 hown hG.1 hP 0 rfl rfl 0 (by decide) (hts _ fX0_addAt_1) (fun _ h9 => h9) rfl dX0_addAt_14 ?_
      refine lv_iload_n hx hb dX0_addAt_17 rfl (lv_at hl 1 rfl) ?_
      refine lv_dup2_11 hx hb dX0_addAt_18 rfl rfl ?_
      obtain ⟨h_3, hq⟩ := gd_s hq
      refine va_iald hx hb hG.1 hP 1 0 rfl rfl h_3 dX0_addAt_19 ?_
      refine lv_iload_n hx hb dX0_addAt_20 rfl (lv_at hl 2 rfl) ?_
      refine lv_iadd hx hb dX0_addAt_21 ?_
      obtain ⟨h_4, hq⟩ := gd_s hq
      refine va_iast hx hb hG.1 hP hD hS 1 0 rfl rfl h_4 dX0_addAt_22 (fun H locs hP hD hS => ?_)
      have hP : va_P D cls9 (wDE cI ah an ak chosenCount (upd numbers a0.toNatClampNeg ((numbers a0.toNatClampNeg) + a1)) chosen) H := hP
      have hD : va_D A (wDE cI ah an ak chosenCount (upd numbers a0.toNatClampNeg ((numbers a0.toNatClampNeg) + a1)) chosen) := hD
      have he := Option.some.inj hq
      subst he
      exact hE H locs _ _ dX0_addAt_23 hP hD hS
abbrev rm_X0_addProduct : Room := { frames := 2, cells := 0, slots := 0, locals := 48 }
set_option maxHeartbeats 4000000 in
set_option maxRecDepth 100000 in
theorem mtX0_addProduct (l : Launch) (D : va_G) (cI cB cR : ClassId) (ah : Nat) (an : Nat) (ak : Nat) (qah : Nat) (qan : Nat) (sz : Nat) (chosenCount : Int32) (numbers : Nat → Int32) (chosen : Nat → Int32) (qL : Nat) (qroom : Int32) (qwidth : Int32) (qpowers : Int32) (qpp : Int32) (qcolumns : Int32) (qcount : Int32) (qnum : Nat → Int32) (a1 : Int32) (a2 : Int32) (a3 : Int32) (a4 : Int32) (res : Nat → Int32) (hf : fX0_addProduct chosenCount numbers chosen qL qroom qwidth qpowers qcolumns qnum a1 a2 a3 a4 = some res) : Met l yX0_addProduct wsX0_addProduct rm_X0_addProduct (qP D cI cB cR [.ref ah, .ref qah, .int a1, .int a2, .int a3, .int a4] ((wDE cI ah an ak chosenCount numbers chosen) ++ (wR cI qah qan qL qroom qwidth qpowers qpp qcolumns qcount qnum)) sz) (qV D ((wDE cI ah an ak chosenCount numbers chosen) ++ (wR cI qah qan qL qroom qwidth qpowers qpp qcolumns qcount qnum)) ((wDE cI ah an ak chosenCount res chosen) ++ (wR cI qah qan qL qroom qwidth qpowers qpp qcolumns qcount qnum)) sz) 0 0 (va_A ((wDE cI ah an ak chosenCount numbers chosen) ++ (wR cI qah qan qL qroom qwidth qpowers qpp qcolumns qcount qnum)) sz) := by
  refine entV (plainFor_of_name (by decide)) rfl (Nat.le_of_ble_eq_true rfl) ?_
  intro p e s m args below meth c Q A ls S hG hP hD hA hl hE
  obtain ⟨hx, hb, hml, hown, hts⟩ := S
  have hown : s.vm.findClass RX0 = some m.cls := hown
  have hS : va_S A s.heap s.heap [] := va_S.rf
  have hl : lv_has ls 11 [(0, .ref ah), (1, .ref qah), (2, .int a1), (3, .int a2), (4, .int a3), (5, .int a4)] := hl
  have hq := hf
  unfold fX0_addProduct at hq
  obtain ⟨H, hH⟩ : ∃ H, H = s.heap := ⟨_, rfl⟩
  obtain ⟨locs, hlo⟩ : ∃ L : List Loc, L = [] := ⟨_, rfl⟩
  have hP : va_P D cls9 ((wDE cI ah an ak chosenCount numbers chosen) ++ (wR cI qah qan qL qroom qwidth qpowers qpp qcolumns qcount qnum)) H := hH ▸ hP
  have hS : va_S A s.heap H locs := by rw [hH, hlo]; exact hS
  suffices hg : W p l e rm_X0_addProduct s m args below meth c H locs 0 0 Q (F0 m 0 ls []) by rw [hH, hlo] at hg; exact hg
  refine lv_iconst (v := 0) hx hb dX0_addProduct_0 (by decide) ?_
  refine lv_istore (lv' := [(6, .int (0 : Int32)), (0, .ref ah), (1, .ref qah), (2, .int a1), (3, .int a2), (4, .int a3), (5, .int a4)]) hx hb dX0_addProduct_1 hl (by decide) rfl (fun ls hl => ?_)
  obtain ⟨w1, hw1, hk1⟩ := bd1_s hq
  have hX1 : ∀ (x_26 : Nat → Int32), w1 = x_26 → ∀ (H : Heap) (locs : List Loc), va_P D cls9 ((wDE cI ah an ak chosenCount x_26 chosen) ++ (wR cI qah qan qL qroom qwidth qpowers qpp qcolumns qcount qnum)) H → va_D A ((wDE cI ah an ak chosenCount x_26 chosen) ++ (wR cI qah qan qL qroom qwidth qpowers qpp qcolumns qcount qnum)) → va_S A s.heap H locs → ∀ (ls : Array Slot), lv_has ls 11 [] → W p l e rm_X0_addProduct s m args below meth c H locs 0 0 Q (F0 m 111 ls []) := by
    intro x_26 hq H locs hP hD hS ls hl
    have hq := hk1 _ hq
    have he := Option.some.inj hq
    subst he
    exact hE H locs _ _ dX0_addProduct_111 hP hD hS
  have hL1 : ∀ (n : Nat) (i_1 : Int32) (i_2 : Nat → Int32), lrun (fun (z : Int32 × (Nat → Int32)) => fX0_addProduct_s3 chosenCount chosen qL qroom qwidth qpowers qcolumns qnum a1 a2 a3 a4 z.1 z.2) n (i_1, i_2) = some w1 → ∀ (H : Heap) (locs : List Loc), va_P D cls9 ((wDE cI ah an ak chosenCount i_2 chosen) ++ (wR cI qah qan qL qroom qwidth qpowers qpp qcolumns qcount qnum)) H → va_D A ((wDE cI ah an ak chosenCount i_2 chosen) ++ (wR cI qah qan qL qroom qwidth qpowers qpp qcolumns qcount qnum)) → va_S A s.heap H locs → ∀ (ls : Array Slot), lv_has ls 11 [(0, .ref ah), (1, .ref qah), (2, .int a1), (3, .int a2), (4, .int a3), (5, .int a4), (6, .int i_1)] → W p l e rm_X0_addProduct s m args below meth c H locs 0 0 Q (F0 m 3 ls []) := by
    intro n
    induction n with
    | zero => intro i_1 i_2 h; cases h
    | succ n ih1 =>
      intro i_1 i_2 hr1 H locs hP hD hS ls hl
      obtain ⟨k, v1, hk, hr1, ht1, hv1⟩ := lrun_s hr1
      cases hk
      have hr1 : fX0_addProduct_s3 chosenCount chosen qL qroom qwidth qpowers qcolumns qnum a1 a2 a3 a4 i_1 i_2 = some v1 := hr1
      unfold fX0_addProduct_s3 at hr1
      refine lv_iload hx hb dX0_addProduct_3 (lv_at hl 6 rfl) ?_
      refine lv_bipush (v := 6) hx hb dX0_addProduct_5 (by decide) ?_
      refine lv_icmp_gt (tgt := 111) hx hb dX0_addProduct_7 (by decide) (fun c_3 => ?_) (fun c_3 => ?_)
      · have hr1 := it_t c_3 hr1
        exact hX1 i_2 (hv1 _ (Option.some.inj hr1).symm).symm H locs hP hD hS ls (lv_sub hl [] rfl)
      · have hr1 := it_f c_3 hr1
        refine lv_iload_n hx hb dX0_addProduct_10 rfl (lv_at hl 2 rfl) ?_
        refine lv_aload_n hx hb dX0_addProduct_11 rfl (lv_at hl 0 rfl) ?_
        refine lv_aload_n hx hb dX0_addProduct_12 rfl (lv_at hl 1 rfl) ?_
        refine lv_iconst (v := 0) hx hb dX0_addProduct_13 (by decide) ?_
        refine lv_iload_n hx hb dX0_addProduct_14 rfl (lv_at hl 3 rfl) ?_
        refine lv_iload hx hb dX0_addProduct_15 (lv_at hl 6 rfl) ?_
        obtain ⟨v_6, hq_5, hk⟩ := bd1_s hr1
        obtain ⟨r_4, rfl⟩ : ∃ y, y = v_6 := ⟨_, rfl⟩
        have hr1 := hk _ rfl
        refine callIA (gV (rest := [.int a1]) ⟨hx, hb, hml, hown, hts⟩ hG hP hD 0 0 rfl rfl (mtX0_entryAt l D cI cB cR ah an ak qah qan H.size chosenCount i_2 chosen qL qroom qwidth qpowers qpp qcolumns qcount qnum (0 : Int32) a2 i_1 r_4 hq_5) (cwV 4 hts gX0_addProduct_X0_entryAt rfl rfl rfl ⟨rfl, hd_X0_entryAt⟩ ⟨Nat.le_of_ble_eq_true rfl, Nat.le_of_ble_eq_true rfl⟩) rfl hl.1 rfl (Nat.le_of_ble_eq_true rfl) dX0_addProduct_17) hD hS hA (fun H locs hP hD hS => ?_)
        have hP : va_P D cls9 ((wDE cI ah an ak chosenCount i_2 chosen) ++ (wR cI qah qan qL qroom qwidth qpowers qpp qcolumns qcount qnum)) H := hP
        have hD : va_D A ((wDE cI ah an ak chosenCount i_2 chosen) ++ (wR cI qah qan qL qroom qwidth qpowers qpp qcolumns qcount qnum)) := hD
        refine lv_imul hx hb dX0_addProduct_20 ?_
        refine lv_istore (lv' := [(7, .int (a1 * r_4)), (0, .ref ah), (1, .ref qah), (2, .int a1), (3, .int a2), (4, .int a3), (5, .int a4), (6, .int i_1)]) hx hb dX0_addProduct_21 hl (by decide) rfl (fun ls hl => ?_)
        refine lv_iconst (v := 0) hx hb dX0_addProduct_23 (by decide) ?_
        refine lv_istore (lv' := [(8, .int (0 : Int32)), (7, .int (a1 * r_4)), (0, .ref ah), (1, .ref qah), (2, .int a1), (3, .int a2), (4, .int a3), (5, .int a4), (6, .int i_1)]) hx hb dX0_addProduct_24 hl (by decide) rfl (fun ls hl => ?_)
        obtain ⟨w2, hw2, hk2⟩ := bd1_s hr1
        have hX2 : ∀ (x_25 : Nat → Int32), w2 = x_25 → ∀ (H : Heap) (locs : List Loc), va_P D cls9 ((wDE cI ah an ak chosenCount x_25 chosen) ++ (wR cI qah qan qL qroom qwidth qpowers qpp qcolumns qcount qnum)) H → va_D A ((wDE cI ah an ak chosenCount x_25 chosen) ++ (wR cI qah qan qL qroom qwidth qpowers qpp qcolumns qcount qnum)) → va_S A s.heap H locs → ∀ (ls : Array Slot), lv_has ls 11 [(0, .ref ah), (1, .ref qah), (2, .int a1), (3, .int a2), (4, .int a3), (5, .int a4), (6, .int i_1)] → W p l e rm_X0_addProduct s m args below meth c H locs 0 0 Q (F0 m 105 ls []) := by
          intro x_25 hq H locs hP hD hS ls hl
          have hr1 := hk2 _ hq
          refine lv_iinc (v := (i_1 + 1)) (lv' := [(6, .int (i_1 + 1)), (0, .ref ah), (1, .ref qah), (2, .int a1), (3, .int a2), (4, .int a3), (5, .int a4)]) hx hb dX0_addProduct_105 hl (k := 6) rfl rfl (by decide) rfl (fun ls hl => ?_)
          refine lv_goto (tgt := 3) hx hb dX0_addProduct_108 (by decide) ?_
          exact ih1 (i_1 + 1) x_25 (ht1 _ (Option.some.inj hr1).symm) H locs hP hD hS ls (lv_sub hl [1, 2, 3, 4, 5, 6, 0] rfl)
        have hL2 : ∀ (n : Nat) (i_7 : Int32) (i_8 : Nat → Int32), lrun (fun (z : Int32 × (Nat → Int32)) => fX0_addProduct_s26 chosenCount chosen qL qroom qwidth qpowers qcolumns qnum a1 a3 a4 i_1 r_4 z.1 z.2) n (i_7, i_8) = some w2 → ∀ (H : Heap) (locs : List Loc), va_P D cls9 ((wDE cI ah an ak chosenCount i_8 chosen) ++ (wR cI qah qan qL qroom qwidth qpowers qpp qcolumns qcount qnum)) H → va_D A ((wDE cI ah an ak chosenCount i_8 chosen) ++ (wR cI qah qan qL qroom qwidth qpowers qpp qcolumns qcount qnum)) → va_S A s.heap H locs → ∀ (ls : Array Slot), lv_has ls 11 [(0, .ref ah), (1, .ref qah), (2, .int a1), (3, .int a2), (4, .int a3), (5, .int a4), (6, .int i_1), (7, .int (a1 * r_4)), (8, .int i_7)] → W p l e rm_X0_addProduct s m args below meth c H locs 0 0 Q (F0 m 26 ls []) := by
          intro n
          induction n with
          | zero => intro i_7 i_8 h; cases h
          | succ n ih2 =>
            intro i_7 i_8 hr2 H locs hP hD hS ls hl
            obtain ⟨k, v2, hk, hr2, ht2, hv2⟩ := lrun_s hr2
            cases hk
            have hr2 : fX0_addProduct_s26 chosenCount chosen qL qroom qwidth qpowers qcolumns qnum a1 a3 a4 i_1 r_4 i_7 i_8 = some v2 := hr2
            unfold fX0_addProduct_s26 at hr2
            refine lv_iload hx hb dX0_addProduct_26 (lv_at hl 8 rfl) ?_
            refine lv_bipush (v := 6) hx hb dX0_addProduct_28 (by decide) ?_
            refine lv_icmp_gt (tgt := 105) hx hb dX0_addProduct_30 (by decide) (fun c_9 => ?_) (fun c_9 => ?_)
            · have hr2 := it_t c_9 hr2
              exact hX2 i_8 (hv2 _ (Option.some.inj hr2).symm).symm H locs hP hD hS ls (lv_sub hl [0, 1, 2, 3, 4, 5, 6] rfl)
            · have hr2 := it_f c_9 hr2
              refine lv_iload hx hb dX0_addProduct_33 (lv_at hl 7 rfl) ?_
              refine lv_if_eq (tgt := 105) hx hb dX0_addProduct_35 (by decide) (fun c_10 => ?_) (fun c_10 => ?_)
              · have hr2 := it_t c_10 hr2
                exact hX2 i_8 (hv2 _ (Option.some.inj hr2).symm).symm H locs hP hD hS ls (lv_sub hl [0, 1, 2, 3, 4, 5, 6] rfl)
              · have hr2 := it_f c_10 hr2
                refine lv_iload hx hb dX0_addProduct_38 (lv_at hl 7 rfl) ?_
                refine lv_aload_n hx hb dX0_addProduct_40 rfl (lv_at hl 0 rfl) ?_
                refine lv_aload_n hx hb dX0_addProduct_41 rfl (lv_at hl 1 rfl) ?_
                refine lv_iconst (v := 1) hx hb dX0_addProduct_42 (by decide) ?_
                refine lv_iload hx hb dX0_addProduct_43 (lv_at hl 4 rfl) ?_
                refine lv_iload hx hb dX0_addProduct_45 (lv_at hl 8 rfl) ?_
                obtain ⟨v_13, hq_12, hk⟩ := bd1_s hr2
                obtain ⟨r_11, rfl⟩ : ∃ y, y = v_13 := ⟨_, rfl⟩
                have hr2 := hk _ rfl
                refine callIA (gV (rest := [.int (a1 * r_4)]) ⟨hx, hb, hml, hown, hts⟩ hG hP hD 0 0 rfl rfl (mtX0_entryAt l D cI cB cR ah an ak qah qan H.size chosenCount i_8 chosen qL qroom qwidth qpowers qpp qcolumns qcount qnum (1 : Int32) a3 i_7 r_11 hq_12) (cwV 4 hts gX0_addProduct_X0_entryAt rfl rfl rfl ⟨rfl, hd_X0_entryAt⟩ ⟨Nat.le_of_ble_eq_true rfl, Nat.le_of_ble_eq_true rfl⟩) rfl hl.1 rfl (Nat.le_of_ble_eq_true rfl) dX0_addProduct_47) hD hS hA (fun H locs hP hD hS => ?_)
                have hP : va_P D cls9 ((wDE cI ah an ak chosenCount i_8 chosen) ++ (wR cI qah qan qL qroom qwidth qpowers qpp qcolumns qcount qnum)) H := hP
                have hD : va_D A ((wDE cI ah an ak chosenCount i_8 chosen) ++ (wR cI qah qan qL qroom qwidth qpowers qpp qcolumns qcount qnum)) := hD
                refine lv_imul hx hb dX0_addProduct_50 ?_
                refine lv_istore (lv' := [(9, .int ((a1 * r_4) * r_11)), (0, .ref ah), (1, .ref qah), (2, .int a1), (3, .int a2), (4, .int a3), (5, .int a4), (6, .int i_1), (7, .int (a1 * r_4)), (8, .int i_7)]) hx hb dX0_addProduct_51 hl (by decide) rfl (fun ls hl => ?_)
                refine lv_iconst (v := 0) hx hb dX0_addProduct_53 (by decide) ?_
                refine lv_istore (lv' := [(10, .int (0 : Int32)), (9, .int ((a1 * r_4) * r_11)), (0, .ref ah), (1, .ref qah), (2, .int a1), (3, .int a2), (4, .int a3), (5, .int a4), (6, .int i_1), (7, .int (a1 * r_4)), (8, .int i_7)]) hx hb dX0_addProduct_54 hl (by decide) rfl (fun ls hl => ?_)
                obtain ⟨w3, hw3, hk3⟩ := bd1_s hr2
                have hX3 : ∀ (x_24 : Nat → Int32), w3 = x_24 → ∀ (H : Heap) (locs : List Loc), va_P D cls9 ((wDE cI ah an ak chosenCount x_24 chosen) ++ (wR cI qah qan qL qroom qwidth qpowers qpp qcolumns qcount qnum)) H → va_D A ((wDE cI ah an ak chosenCount x_24 chosen) ++ (wR cI qah qan qL qroom qwidth qpowers qpp qcolumns qcount qnum)) → va_S A s.heap H locs → ∀ (ls : Array Slot), lv_has ls 11 [(0, .ref ah), (1, .ref qah), (2, .int a1), (3, .int a2), (4, .int a3), (5, .int a4), (6, .int i_1), (7, .int (a1 * r_4)), (8, .int i_7)] → W p l e rm_X0_addProduct s m args below meth c H locs 0 0 Q (F0 m 99 ls []) := by
                  intro x_24 hq H locs hP hD hS ls hl
                  have hr2 := hk3 _ hq
                  refine lv_iinc (v := (i_7 + 1)) (lv' := [(8, .int (i_7 + 1)), (0, .ref ah), (1, .ref qah), (2, .int a1), (3, .int a2), (4, .int a3), (5, .int a4), (6, .int i_1), (7, .int (a1 * r_4))]) hx hb dX0_addProduct_99 hl (k := 8) rfl rfl (by decide) rfl (fun ls hl => ?_)
                  refine lv_goto (tgt := 26) hx hb dX0_addProduct_102 (by decide) ?_
                  exact ih2 (i_7 + 1) x_24 (ht2 _ (Option.some.inj hr2).symm) H locs hP hD hS ls (lv_sub hl [1, 2, 3, 4, 5, 6, 7, 8, 0] rfl)
                have hL3 : ∀ (n : Nat) (i_14 : Int32) (i_15 : Nat → Int32), lrun (fun (z : Int32 × (Nat → Int32)) => fX0_addProduct_s56 chosenCount chosen qL qroom qwidth qpowers qcolumns qnum a1 a4 i_1 i_7 r_4 r_11 z.1 z.2) n (i_14, i_15) = some w3 → ∀ (H : Heap) (locs : List Loc), va_P D cls9 ((wDE cI ah an ak chosenCount i_15 chosen) ++ (wR cI qah qan qL qroom qwidth qpowers qpp qcolumns qcount qnum)) H → va_D A ((wDE cI ah an ak chosenCount i_15 chosen) ++ (wR cI qah qan qL qroom qwidth qpowers qpp qcolumns qcount qnum)) → va_S A s.heap H locs → ∀ (ls : Array Slot), lv_has ls 11 [(0, .ref ah), (1, .ref qah), (2, .int a1), (3, .int a2), (4, .int a3), (5, .int a4), (6, .int i_1), (7, .int (a1 * r_4)), (8, .int i_7), (9, .int ((a1 * r_4) * r_11)), (10, .int i_14)] → W p l e rm_X0_addProduct s m args below meth c H locs 0 0 Q (F0 m 56 ls []) := by
                  intro n
                  induction n with
                  | zero => intro i_14 i_15 h; cases h
                  | succ n ih3 =>
                    intro i_14 i_15 hr3 H locs hP hD hS ls hl
                    obtain ⟨k, v3, hk, hr3, ht3, hv3⟩ := lrun_s hr3
                    cases hk
                    have hr3 : fX0_addProduct_s56 chosenCount chosen qL qroom qwidth qpowers qcolumns qnum a1 a4 i_1 i_7 r_4 r_11 i_14 i_15 = some v3 := hr3
                    unfold fX0_addProduct_s56 at hr3
                    refine lv_iload hx hb dX0_addProduct_56 (lv_at hl 10 rfl) ?_
                    refine lv_bipush (v := 6) hx hb dX0_addProduct_58 (by decide) ?_
                    refine lv_icmp_gt (tgt := 99) hx hb dX0_addProduct_60 (by decide) (fun c_16 => ?_) (fun c_16 => ?_)
                    · have hr3 := it_t c_16 hr3
                      exact hX3 i_15 (hv3 _ (Option.some.inj hr3).symm).symm H locs hP hD hS ls (lv_sub hl [0, 1, 2, 3, 4, 5, 6, 7, 8] rfl)
                    · have hr3 := it_f c_16 hr3
                      refine lv_iload hx hb dX0_addProduct_63 (lv_at hl 9 rfl) ?_
                      refine lv_if_eq (tgt := 99) hx hb dX0_addProduct_65 (by decide) (fun c_17 => ?_) (fun c_17 => ?_)
                      · have hr3 := it_t c_17 hr3
                        exact hX3 i_15 (hv3 _ (Option.some.inj hr3).symm).symm H locs hP hD hS ls (lv_sub hl [0, 1, 2, 3, 4, 5, 6, 7, 8] rfl)
                      · have hr3 := it_f c_17 hr3
                        refine lv_aload_n hx hb dX0_addProduct_68 rfl (lv_at hl 0 rfl) ?_
                        refine lv_iload hx hb dX0_addProduct_69 (lv_at hl 6 rfl) ?_
                        refine lv_iload hx hb dX0_addProduct_71 (lv_at hl 8 rfl) ?_
                        refine lv_iadd hx hb dX0_addProduct_73 ?_
                        refine lv_iload hx hb dX0_addProduct_74 (lv_at hl 10 rfl) ?_
                        refine lv_iadd hx hb dX0_addProduct_76 ?_
                        refine lv_iload hx hb dX0_addProduct_77 (lv_at hl 9 rfl) ?_
                        refine lv_aload_n hx hb dX0_addProduct_79 rfl (lv_at hl 0 rfl) ?_
                        refine lv_aload_n hx hb dX0_addProduct_80 rfl (lv_at hl 1 rfl) ?_
                        refine lv_iconst (v := 2) hx hb dX0_addProduct_81 (by decide) ?_
                        refine lv_iload hx hb dX0_addProduct_82 (lv_at hl 5 rfl) ?_
                        refine lv_iload hx hb dX0_addProduct_84 (lv_at hl 10 rfl) ?_
                        obtain ⟨v_20, hq_19, hk⟩ := bd1_s hr3
                        obtain ⟨r_18, rfl⟩ : ∃ y, y = v_20 := ⟨_, rfl⟩
                        have hr3 := hk _ rfl
                        refine callIA (gV (rest := [.int ((a1 * r_4) * r_11), .int ((i_1 + i_7) + i_14), .ref ah]) ⟨hx, hb, hml, hown, hts⟩ hG hP hD 0 0 rfl rfl (mtX0_entryAt l D cI cB cR ah an ak qah qan H.size chosenCount i_15 chosen qL qroom qwidth qpowers qpp qcolumns qcount qnum (2 : Int32) a4 i_14 r_18 hq_19) (cwV 4 hts gX0_addProduct_X0_entryAt rfl rfl rfl ⟨rfl, hd_X0_entryAt⟩ ⟨Nat.le_of_ble_eq_true rfl, Nat.le_of_ble_eq_true rfl⟩) rfl hl.1 rfl (Nat.le_of_ble_eq_true rfl) dX0_addProduct_86) hD hS hA (fun H locs hP hD hS => ?_)
                        have hP : va_P D cls9 ((wDE cI ah an ak chosenCount i_15 chosen) ++ (wR cI qah qan qL qroom qwidth qpowers qpp qcolumns qcount qnum)) H := hP
                        have hD : va_D A ((wDE cI ah an ak chosenCount i_15 chosen) ++ (wR cI qah qan qL qroom qwidth qpowers qpp qcolumns qcount qnum)) := hD
                        refine lv_imul hx hb dX0_addProduct_89 ?_
                        obtain ⟨v_23, hq_22, hk⟩ := bd1_s hr3
                        obtain ⟨u_21, rfl⟩ : ∃ y, y = v_23 := ⟨_, rfl⟩
                        have hr3 := hk _ rfl
                        have hPc : va_P D cls9 [(ah, .inr (0, [.ref an, .ref ak, .int chosenCount])), (an, .inl (cI, 19, .inl i_15)), (ak, .inl (cI, 3, .inl chosen))] H := hPsub hP [0, 1, 2] rfl
                        have hDc : va_D A [(ah, .inr (0, [.ref an, .ref ak, .int chosenCount])), (an, .inl (cI, 19, .inl i_15)), (ak, .inl (cI, 3, .inl chosen))] := hD.sub [0, 1, 2] (by decide +kernel) rfl
                        refine callVP (wr := [(qah, .inr (3, [.int qroom, .int qwidth, .int qpowers, .ref qan, .int qpp, .int qcolumns, .int qcount])), (qan, .inl (cI, qL, .inl qnum))]) (ws2 := ((wDE cI ah an ak chosenCount u_21 chosen) ++ (wR cI qah qan qL qroom qwidth qpowers qpp qcolumns qcount qnum))) (gV (rest := []) ⟨hx, hb, hml, hown, hts⟩ hG hPc hDc 0 0 rfl rfl (mtX0_addAt l D cI cB cR ah an ak H.size chosenCount i_15 chosen ((i_1 + i_7) + i_14) (((a1 * r_4) * r_11) * r_18) u_21 hq_22) (cwV 2 hts gX0_addProduct_X0_addAt rfl rfl rfl ⟨rfl, hd_X0_addAt⟩ ⟨Nat.le_of_ble_eq_true rfl, Nat.le_of_ble_eq_true rfl⟩) rfl hl.1 rfl (Nat.le_of_ble_eq_true rfl) dX0_addProduct_90) hP hD hS hA [0, 1, 2] [3, 4] [2, 3, 4, 0, 1] rfl rfl (by decide +kernel) (by decide +kernel) rfl (by decide +kernel) (fun H locs hP hD hS => ?_)
                        refine lv_iinc (v := (i_14 + 1)) (lv' := [(10, .int (i_14 + 1)), (0, .ref ah), (1, .ref qah), (2, .int a1), (3, .int a2), (4, .int a3), (5, .int a4), (6, .int i_1), (7, .int (a1 * r_4)), (8, .int i_7), (9, .int ((a1 * r_4) * r_11))]) hx hb dX0_addProduct_93 hl (k := 10) rfl rfl (by decide) rfl (fun ls hl => ?_)
                        refine lv_goto (tgt := 56) hx hb dX0_addProduct_96 (by decide) ?_
                        exact ih3 (i_14 + 1) u_21 (ht3 _ (Option.some.inj hr3).symm) H locs hP hD hS ls (lv_sub hl [1, 2, 3, 4, 5, 6, 7, 8, 9, 10, 0] rfl)
                obtain ⟨n3, hn3⟩ := Lp_s hw3
                exact hL3 n3 (0 : Int32) i_8 hn3 H locs hP hD hS ls (lv_sub hl [2, 3, 4, 5, 6, 7, 8, 9, 10, 1, 0] rfl)
        obtain ⟨n2, hn2⟩ := Lp_s hw2
        exact hL2 n2 (0 : Int32) i_2 hn2 H locs hP hD hS ls (lv_sub hl [2, 3, 4, 5, 6, 7, 8, 1, 0] rfl)
  obtain ⟨n1, hn1⟩ := Lp_s hw1
  exact hL1 n1 (0 : Int32) numbers hn1 H locs hP hD hS ls (lv_sub hl [1, 2, 3, 4, 5, 6, 0] rfl)
abbrev rm_X4_append : Room := { frames := 0, cells := 0, slots := 0, locals := 0 }
theorem iX4_append_X4 : ∀ w ∈ wsX40, w ∈ wsX4_append := fun _ h => (List.mem_cons_of_mem _ (List.mem_append_right _ h))
theorem fX4_append_1 : Cond.fieldLink RX4 22 "PopovRows$Script" "length" "I" ∈ wsX4_append := (List.mem_cons_of_mem _ (List.mem_append_left _ (List.mem_of_getElem? (i := 0) rfl)))
theorem fX4_append_2 : Cond.fieldLink RX4 9 "PopovRows$Script" "bytes" "[B" ∈ wsX4_append := (List.mem_cons_of_mem _ (List.mem_append_left _ (List.mem_of_getElem? (i := 1) rfl)))
set_option maxHeartbeats 4000000 in
set_option maxRecDepth 100000 in
theorem mtX4_append (l : Launch) (D : va_G) (cI cB cR : ClassId) (ah : Nat) (ab : Nat) (ag : Nat) (an : Nat) (sz : Nat) (length : Int32) (place : Int32) (letter : Int32) (rowColumns : Int32) (bytes : Nat → Int32) (digits : Nat → Int32) (entries : Nat → Int32) (a0 : Int32) (res : Int32 × Int32 × (Nat → Int32)) (hf : fX4_append length bytes a0 = some res) : Met l yX4_append wsX4_append rm_X4_append (qP D cI cB cR [.ref ah, .int a0] (wSC cI cB ah ab ag an length place letter rowColumns bytes digits entries) sz) (qZ D res.1 (wSC cI cB ah ab ag an length place letter rowColumns bytes digits entries) (wSC cI cB ah ab ag an res.2.1 place letter rowColumns res.2.2 digits entries) sz) 0 0 (va_A (wSC cI cB ah ab ag an length place letter rowColumns bytes digits entries) sz) := by
  refine entZ (plainFor_of_name (by decide)) rfl (Nat.le_of_ble_eq_true rfl) ?_
  intro p e s m args below meth c Q A ls S hG hP hD hA hl hE
  obtain ⟨hx, hb, hml, hown, hts⟩ := S
  have hown : s.vm.findClass RX4 = some m.cls := hown
  have hS : va_S A s.heap s.heap [] := va_S.rf
  have hl : lv_has ls 2 [(0, .ref ah), (1, .int a0)] := hl
  have hq := hf
  unfold fX4_append at hq
  obtain ⟨H, hH⟩ : ∃ H, H = s.heap := ⟨_, rfl⟩
  obtain ⟨locs, hlo⟩ : ∃ L : List Loc, L = [] := ⟨_, rfl⟩
  have hP : va_P D cls9 (wSC cI cB ah ab ag an length place letter rowColumns bytes digits entries) H := hH ▸ hP
  have hS : va_S A s.heap H locs := by rw [hH, hlo]; exact hS
  suffices hg : W p l e rm_X4_append s m args below meth c H locs 0 0 Q (F0 m 0 ls []) by rw [hH, hlo] at hg; exact hg
  refine lv_aload_n hx hb dX4_append_0 rfl (lv_at hl 0 rfl) ?_
  refine va_get (D := D) (ci := 4) (v := .int length) (C := RX4) (T := TX4) (N := 7) hx hb hts iX4_append_X4 hown hG.1 hP 0 rfl rfl 3 (by decide) (hts _ fX4_append_1) (fun _ h9 => h9) rfl dX4_append_1 ?_
  refine lv_if_lt (tgt := 19) hx hb dX4_append_4 (by decide) (fun c_1 => ?_) (fun c_1 => ?_)
  · have hq := it_t c_1 hq
    refine lv_iconst (v := 0) hx hb dX4_append_19 (by decide) ?_
    have he := Option.some.inj hq
    subst he
    exact hE H locs _ _ _ rfl (Or.inl rfl) dX4_append_20 hP hD hS
  · have hq := it_f c_1 hq
    refine lv_aload_n hx hb dX4_append_7 rfl (lv_at hl 0 rfl) ?_
    refine va_get (D := D) (ci := 4) (v := .int length) (C := RX4) (T := TX4) (N := 7) hx hb hts iX4_append_X4 hown hG.1 hP 0 rfl rfl 3 (by decide) (hts _ fX4_append_1) (fun _ h9 => h9) rfl dX4_append_8 ?_
    refine lv_aload_n hx hb dX4_append_11 rfl (lv_at hl 0 rfl) ?_
    refine va_get (D := D) (ci := 4) (v := .ref ab) (C := RX4) (T := TX4) (N := 7) hx hb hts iX4_append_X4 hown hG.1 hP 0 rfl rfl 0 (by decide) (hts _ fX4_append_2) (fun _ h9 => h9) rfl dX4_append_12 ?_
    refine va_alen (v := (150 : Int32)) hx hb hG.1 hP 1 1 rfl rfl rfl dX4_append_15 ?_
    refine lv_icmp_lt (tgt := 21) hx hb dX4_append_16 (by decide) (fun c_2 => ?_) (fun c_2 => ?_)
    · have hq := it_t c_2 hq
      refine lv_aload_n hx hb dX4_append_21 rfl (lv_at hl 0 rfl) ?_
      refine va_get (D := D) (ci := 4) (v := .ref ab) (C := RX4) (T := TX4) (N := 7) hx hb hts iX4_append_X4 hown hG.1 hP 0 rfl rfl 0 (by decide) (hts _ fX4_append_2) (fun _ h9 => h9) rfl dX4_append_22 ?_
      refine lv_aload_n hx hb dX4_append_25 rfl (lv_at hl 0 rfl) ?_
      refine va_get (D := D) (ci := 4) (v := .int length) (C := RX4) (T := TX4) (N := 7) hx hb hts iX4_append_X4 hown hG.1 hP 0 rfl rfl 3 (by decide) (hts _ fX4_append_1) (fun _ h9 => h9) rfl dX4_append_26 ?_
      refine lv_iload_n hx hb dX4_append_29 rfl (lv_at hl 1 rfl) ?_
      refine lv_i2b (v := (a0.toInt8.toInt32)) hx hb dX4_append_30 rfl ?_
      obtain ⟨h_3, hq⟩ := gd_s hq
      refine va_bast hx hb hG.1 hP hD hS 1 1 rfl rfl h_3 dX4_append_31 (fun H locs hP hD hS => ?_)
      have hP : va_P D cls9 (wSC cI cB ah ab ag an length place letter rowColumns (upd bytes length.toNatClampNeg (vp_nar .byte (a0.toInt8.toInt32))) digits entries) H := hP
      have hD : va_D A (wSC cI cB ah ab ag an length place letter rowColumns (upd bytes length.toNatClampNeg (vp_nar .byte (a0.toInt8.toInt32))) digits entries) := hD
      refine lv_aload_n hx hb dX4_append_32 rfl (lv_at hl 0 rfl) ?_
      refine lv_dup hx hb dX4_append_33 rfl ?_
      refine va_get (D := D) (ci := 4) (v := .int length) (C := RX4) (T := TX4) (N := 7) hx hb hts iX4_append_X4 hown hG.1 hP 0 rfl rfl 3 (by decide) (hts _ fX4_append_1) (fun _ h9 => h9) rfl dX4_append_34 ?_
      refine lv_iconst (v := 1) hx hb dX4_append_37 (by decide) ?_
      refine lv_iadd hx hb dX4_append_38 ?_
      refine va_put (D := D) (ci := 4) (v := .int (length + (1 : Int32))) (ty := .int) (C := RX4) (T := TX4) (N := 7) hx hb hts iX4_append_X4 tyX4 tyX4_ok nmX4 hown hG.1 hP hD hS 0 rfl rfl 3 (by decide) (hts _ fX4_append_1) (fun _ h9 => h9) rfl (by decide +kernel) rfl rfl (Nat.le_of_ble_eq_true rfl) dX4_append_39 (fun H locs hP hD hS => ?_)
      have hP : va_P D cls9 (wSC cI cB ah ab ag an (length + (1 : Int32)) place letter rowColumns (upd bytes length.toNatClampNeg (vp_nar .byte (a0.toInt8.toInt32))) digits entries) H := hP
      have hD : va_D A (wSC cI cB ah ab ag an (length + (1 : Int32)) place letter rowColumns (upd bytes length.toNatClampNeg (vp_nar .byte (a0.toInt8.toInt32))) digits entries) := hD
      refine lv_iconst (v := 1) hx hb dX4_append_42 (by decide) ?_
      have he := Option.some.inj hq
      subst he
      exact hE H locs _ _ _ rfl (Or.inr rfl) dX4_append_43 hP hD hS
    · have hq := it_f c_2 hq
      refine lv_iconst (v := 0) hx hb dX4_append_19 (by decide) ?_
      have he := Option.some.inj hq
      subst he
      exact hE H locs _ _ _ rfl (Or.inl rfl) dX4_append_20 hP hD hS
abbrev rm_X4_begin : Room := { frames := 0, cells := 0, slots := 0, locals := 0 }
theorem iX4_begin_X4 : ∀ w ∈ wsX40, w ∈ wsX4_begin := fun _ h => (List.mem_cons_of_mem _ (List.mem_append_right _ h))
theorem fX4_begin_1 : Cond.fieldLink RX4 26 "PopovRows$Script" "place" "I" ∈ wsX4_begin := (List.mem_cons_of_mem _ (List.mem_append_left _ (List.mem_of_getElem? (i := 0) rfl)))
theorem fX4_begin_2 : Cond.fieldLink RX4 29 "PopovRows$Script" "rowColumns" "I" ∈ wsX4_begin := (List.mem_cons_of_mem _ (List.mem_append_left _ (List.mem_of_getElem? (i := 1) rfl)))
set_option maxHeartbeats 4000000 in
set_option maxRecDepth 100000 in
theorem mtX4_begin (l : Launch) (D : va_G) (cI cB cR : ClassId) (ah : Nat) (ab : Nat) (ag : Nat) (an : Nat) (sz : Nat) (length : Int32) (place : Int32) (letter : Int32) (rowColumns : Int32) (bytes : Nat → Int32) (digits : Nat → Int32) (entries : Nat → Int32) (a0 : Int32) (res : Int32 × Int32) (hf : fX4_begin a0 = some res) : Met l yX4_begin wsX4_begin rm_X4_begin (qP D cI cB cR [.ref ah, .int a0] (wSC cI cB ah ab ag an length place letter rowColumns bytes digits entries) sz) (qV D (wSC cI cB ah ab ag an length place letter rowColumns bytes digits entries) (wSC cI cB ah ab ag an length res.1 letter res.2 bytes digits entries) sz) 0 0 (va_A (wSC cI cB ah ab ag an length place letter rowColumns bytes digits entries) sz) := by
  refine entV (plainFor_of_name (by decide)) rfl (Nat.le_of_ble_eq_true rfl) ?_
  intro p e s m args below meth c Q A ls S hG hP hD hA hl hE
  obtain ⟨hx, hb, hml, hown, hts⟩ := S
  have hown : s.vm.findClass RX4 = some m.cls := hown
  have hS : va_S A s.heap s.heap [] := va_S.rf
  have hl : lv_has ls 2 [(0, .ref ah), (1, .int a0)] := hl
  have hq := hf
  unfold fX4_begin at hq
  obtain ⟨H, hH⟩ : ∃ H, H = s.heap := ⟨_, rfl⟩
  obtain ⟨locs, hlo⟩ : ∃ L : List Loc, L = [] := ⟨_, rfl⟩
  have hP : va_P D cls9 (wSC cI cB ah ab ag an length place letter rowColumns bytes digits entries) H := hH ▸ hP
  have hS : va_S A s.heap H locs := by rw [hH, hlo]; exact hS
  suffices hg : W p l e rm_X4_begin s m args below meth c H locs 0 0 Q (F0 m 0 ls []) by rw [hH, hlo] at hg; exact hg
  refine lv_aload_n hx hb dX4_begin_0 rfl (lv_at hl 0 rfl) ?_
  refine lv_iconst (v := 0) hx hb dX4_begin_1 (by decide) ?_
  refine va_put (D := D) (ci := 4) (v := .int (0 : Int32)) (ty := .int) (C := RX4) (T := TX4) (N := 7) hx hb hts iX4_begin_X4 tyX4 tyX4_ok nmX4 hown hG.1 hP hD hS 0 rfl rfl 4 (by decide) (hts _ fX4_begin_1) (fun _ h9 => h9) rfl (by decide +kernel) rfl rfl (Nat.le_of_ble_eq_true rfl) dX4_begin_2 (fun H locs hP hD hS => ?_)
  have hP : va_P D cls9 (wSC cI cB ah ab ag an length (0 : Int32) letter rowColumns bytes digits entries) H := hP
  have hD : va_D A (wSC cI cB ah ab ag an length (0 : Int32) letter rowColumns bytes digits entries) := hD
  refine lv_aload_n hx hb dX4_begin_5 rfl (lv_at hl 0 rfl) ?_
  refine lv_iload_n hx hb dX4_begin_6 rfl (lv_at hl 1 rfl) ?_
  refine va_put (D := D) (ci := 4) (v := .int a0) (ty := .int) (C := RX4) (T := TX4) (N := 7) hx hb hts iX4_begin_X4 tyX4 tyX4_ok nmX4 hown hG.1 hP hD hS 0 rfl rfl 6 (by decide) (hts _ fX4_begin_2) (fun _ h9 => h9) rfl (by decide +kernel) rfl rfl (Nat.le_of_ble_eq_true rfl) dX4_begin_7 (fun H locs hP hD hS => ?_)
  have hP : va_P D cls9 (wSC cI cB ah ab ag an length (0 : Int32) letter a0 bytes digits entries) H := hP
  have hD : va_D A (wSC cI cB ah ab ag an length (0 : Int32) letter a0 bytes digits entries) := hD
  have he := Option.some.inj hq
  subst he
  exact hE H locs _ _ dX4_begin_10 hP hD hS
