abbrev rm_X2_sort : Room := { frames := 4, cells := 0, slots := 0, locals := 93 }
theorem iX2_sort_X2 : ∀ w ∈ wsX20, w ∈ wsX2_sort := fun _ h => (List.mem_cons_of_mem _ (List.mem_append_left _ (List.mem_append_right _ h)))
theorem fX2_sort_1 : Cond.fieldLink RX2 14 "PopovRows$Popov" "list" "LPopovRows$Rows;" ∈ wsX2_sort := (List.mem_cons_of_mem _ (List.mem_append_left _ (List.mem_append_left _ (List.mem_append_left _ (List.mem_of_getElem? (i := 0) rfl)))))
theorem iX2_sort_X3 : ∀ w ∈ wsX30, w ∈ wsX2_sort := fun _ h => (List.mem_cons_of_mem _ (List.mem_append_right _ h))
theorem fX2_sort_3 : Cond.fieldLink RX2 48 "PopovRows$Rows" "count" "I" ∈ wsX2_sort := (List.mem_cons_of_mem _ (List.mem_append_left _ (List.mem_append_left _ (List.mem_append_left _ (List.mem_of_getElem? (i := 1) rfl)))))
set_option maxHeartbeats 4000000 in
set_option maxRecDepth 100000 in
theorem mtX2_sort (l : Launch) (D : va_G) (cI cB cR : ClassId) (ah : Nat) (lah : Nat) (lan : Nat) (fah : Nat) (fan : Nat) (sah : Nat) (szah : Nat) (szan : Nat) (yah : Nat) (yan : Nat) (sz : Nat) (lpp : Int32) (lcolumns : Int32) (lcount : Int32) (lnum : Nat → Int32) (fpp : Int32) (fcolumns : Int32) (fcount : Int32) (fnum : Nat → Int32) (starget : Int32) (ssource : Int32) (snumber : Int32) (spower : Int32) (szcount : Int32) (szplaces : Nat → Int32) (ycount : Int32) (yplaces : Nat → Int32) (res : Nat → Int32) (hf : fX2_sort lpp lcolumns lcount lnum = some res) : Met l yX2_sort wsX2_sort rm_X2_sort (qP D cI cB cR [.ref ah] ((ah, .inr (2, [.ref lah, .ref fah, .ref sah, .ref yah])) :: ((wR cI lah lan 1000 (5 : Int32) (8 : Int32) (25 : Int32) lpp lcolumns lcount lnum) ++ (wR cI fah fan 200 (1 : Int32) (8 : Int32) (25 : Int32) fpp fcolumns fcount fnum) ++ (wST cI sah szah szan starget ssource snumber spower szcount szplaces) ++ (wSH cI yah yan ycount yplaces))) sz) (qV D ((ah, .inr (2, [.ref lah, .ref fah, .ref sah, .ref yah])) :: ((wR cI lah lan 1000 (5 : Int32) (8 : Int32) (25 : Int32) lpp lcolumns lcount lnum) ++ (wR cI fah fan 200 (1 : Int32) (8 : Int32) (25 : Int32) fpp fcolumns fcount fnum) ++ (wST cI sah szah szan starget ssource snumber spower szcount szplaces) ++ (wSH cI yah yan ycount yplaces))) ((ah, .inr (2, [.ref lah, .ref fah, .ref sah, .ref yah])) :: ((wR cI lah lan 1000 (5 : Int32) (8 : Int32) (25 : Int32) lpp lcolumns lcount res) ++ (wR cI fah fan 200 (1 : Int32) (8 : Int32) (25 : Int32) fpp fcolumns fcount fnum) ++ (wST cI sah szah szan starget ssource snumber spower szcount szplaces) ++ (wSH cI yah yan ycount yplaces))) sz) 0 0 (va_A ((ah, .inr (2, [.ref lah, .ref fah, .ref sah, .ref yah])) :: ((wR cI lah lan 1000 (5 : Int32) (8 : Int32) (25 : Int32) lpp lcolumns lcount lnum) ++ (wR cI fah fan 200 (1 : Int32) (8 : Int32) (25 : Int32) fpp fcolumns fcount fnum) ++ (wST cI sah szah szan starget ssource snumber spower szcount szplaces) ++ (wSH cI yah yan ycount yplaces))) sz) := by
  refine entV (plainFor_of_name (by decide)) rfl (Nat.le_of_ble_eq_true rfl) ?_
  intro p e s m args below meth c Q A ls S hG hP hD hA hl hE
  obtain ⟨hx, hb, hml, hown, hts⟩ := S
  have hown : s.vm.findClass RX2 = some m.cls := hown
  have hS : va_S A s.heap s.heap [] := va_S.rf
  have hl : lv_has ls 3 [(0, .ref ah)] := hl
  have hq := hf
  unfold fX2_sort at hq
  obtain ⟨H, hH⟩ : ∃ H, H = s.heap := ⟨_, rfl⟩
  obtain ⟨locs, hlo⟩ : ∃ L : List Loc, L = [] := ⟨_, rfl⟩
  have hP : va_P D cls9 ((ah, .inr (2, [.ref lah, .ref fah, .ref sah, .ref yah])) :: ((wR cI lah lan 1000 (5 : Int32) (8 : Int32) (25 : Int32) lpp lcolumns lcount lnum) ++ (wR cI fah fan 200 (1 : Int32) (8 : Int32) (25 : Int32) fpp fcolumns fcount fnum) ++ (wST cI sah szah szan starget ssource snumber spower szcount szplaces) ++ (wSH cI yah yan ycount yplaces))) H := hH ▸ hP
  have hS : va_S A s.heap H locs := by rw [hH, hlo]; exact hS
  suffices hg : W p l e rm_X2_sort s m args below meth c H locs 0 0 Q (F0 m 0 ls []) by rw [hH, hlo] at hg; exact hg
  refine lv_iconst (v := 0) hx hb dX2_sort_0 (by decide) ?_
  refine lv_istore_n (lv' := [(1, .int (0 : Int32)), (0, .ref ah)]) hx hb dX2_sort_1 rfl hl (by decide) rfl (fun ls hl => ?_)
  obtain ⟨w1, hw1, hk1⟩ := bd1_s hq
  have hX1 : ∀ (x_18 : Nat → Int32), w1 = x_18 → ∀ (H : Heap) (locs : List Loc), va_P D cls9 ((ah, .inr (2, [.ref lah, .ref fah, .ref sah, .ref yah])) :: ((wR cI lah lan 1000 (5 : Int32) (8 : Int32) (25 : Int32) lpp lcolumns lcount x_18) ++ (wR cI fah fan 200 (1 : Int32) (8 : Int32) (25 : Int32) fpp fcolumns fcount fnum) ++ (wST cI sah szah szan starget ssource snumber spower szcount szplaces) ++ (wSH cI yah yan ycount yplaces))) H → va_D A ((ah, .inr (2, [.ref lah, .ref fah, .ref sah, .ref yah])) :: ((wR cI lah lan 1000 (5 : Int32) (8 : Int32) (25 : Int32) lpp lcolumns lcount x_18) ++ (wR cI fah fan 200 (1 : Int32) (8 : Int32) (25 : Int32) fpp fcolumns fcount fnum) ++ (wST cI sah szah szan starget ssource snumber spower szcount szplaces) ++ (wSH cI yah yan ycount yplaces))) → va_S A s.heap H locs → ∀ (ls : Array Slot), lv_has ls 3 [] → W p l e rm_X2_sort s m args below meth c H locs 0 0 Q (F0 m 68 ls []) := by
    intro x_18 hq H locs hP hD hS ls hl
    have hq := hk1 _ hq
    have he := Option.some.inj hq
    subst he
    exact hE H locs _ _ dX2_sort_68 hP hD hS
  have hL1 : ∀ (n : Nat) (i_1 : Int32) (i_2 : Nat → Int32), lrun (fun (z : Int32 × (Nat → Int32)) => fX2_sort_s2 lpp lcolumns lcount z.1 z.2) n (i_1, i_2) = some w1 → ∀ (H : Heap) (locs : List Loc), va_P D cls9 ((ah, .inr (2, [.ref lah, .ref fah, .ref sah, .ref yah])) :: ((wR cI lah lan 1000 (5 : Int32) (8 : Int32) (25 : Int32) lpp lcolumns lcount i_2) ++ (wR cI fah fan 200 (1 : Int32) (8 : Int32) (25 : Int32) fpp fcolumns fcount fnum) ++ (wST cI sah szah szan starget ssource snumber spower szcount szplaces) ++ (wSH cI yah yan ycount yplaces))) H → va_D A ((ah, .inr (2, [.ref lah, .ref fah, .ref sah, .ref yah])) :: ((wR cI lah lan 1000 (5 : Int32) (8 : Int32) (25 : Int32) lpp lcolumns lcount i_2) ++ (wR cI fah fan 200 (1 : Int32) (8 : Int32) (25 : Int32) fpp fcolumns fcount fnum) ++ (wST cI sah szah szan starget ssource snumber spower szcount szplaces) ++ (wSH cI yah yan ycount yplaces))) → va_S A s.heap H locs → ∀ (ls : Array Slot), lv_has ls 3 [(0, .ref ah), (1, .int i_1)] → W p l e rm_X2_sort s m args below meth c H locs 0 0 Q (F0 m 2 ls []) := by
    intro n
    induction n with
    | zero => intro i_1 i_2 h; cases h
    | succ n ih1 =>
      intro i_1 i_2 hr1 H locs hP hD hS ls hl
      obtain ⟨k, v1, hk, hr1, ht1, hv1⟩ := lrun_s hr1
      cases hk
      have hr1 : fX2_sort_s2 lpp lcolumns lcount i_1 i_2 = some v1 := hr1
      unfold fX2_sort_s2 at hr1
      refine lv_iload_n hx hb dX2_sort_2 rfl (lv_at hl 1 rfl) ?_
      refine lv_aload_n hx hb dX2_sort_3 rfl (lv_at hl 0 rfl) ?_
      refine va_get (D := D) (ci := 2) (v := .ref lah) (C := RX2) (T := TX2) (N := 4) hx hb hts iX2_sort_X2 hown hG.1 hP 0 rfl rfl 0 (by decide) (hts _ fX2_sort_1) (fun _ h9 => h9) rfl dX2_sort_4 ?_
      refine va_get (D := D) (ci := 3) (v := .int lcount) (C := RX3) (T := TX3) (N := 7) hx hb hts iX2_sort_X3 hown hG.1 hP 1 rfl rfl 6 (by decide) (hts _ fX2_sort_3) (fun _ h9 => h9) rfl dX2_sort_7 ?_
      refine lv_icmp_ge (tgt := 68) hx hb dX2_sort_10 (by decide) (fun c_3 => ?_) (fun c_3 => ?_)
      · have hr1 := it_t c_3 hr1
        exact hX1 i_2 (hv1 _ (Option.some.inj hr1).symm).symm H locs hP hD hS ls (lv_sub hl [] rfl)
      · have hr1 := it_f c_3 hr1
        refine lv_iload_n hx hb dX2_sort_13 rfl (lv_at hl 1 rfl) ?_
        refine lv_iconst (v := 1) hx hb dX2_sort_14 (by decide) ?_
        refine lv_iadd hx hb dX2_sort_15 ?_
        refine lv_istore_n (lv' := [(2, .int (i_1 + (1 : Int32))), (0, .ref ah), (1, .int i_1)]) hx hb dX2_sort_16 rfl hl (by decide) rfl (fun ls hl => ?_)
        obtain ⟨w2, hw2, hk2⟩ := bd1_s hr1
        have hX2 : ∀ (x_17 : Nat → Int32), w2 = x_17 → ∀ (H : Heap) (locs : List Loc), va_P D cls9 ((ah, .inr (2, [.ref lah, .ref fah, .ref sah, .ref yah])) :: ((wR cI lah lan 1000 (5 : Int32) (8 : Int32) (25 : Int32) lpp lcolumns lcount x_17) ++ (wR cI fah fan 200 (1 : Int32) (8 : Int32) (25 : Int32) fpp fcolumns fcount fnum) ++ (wST cI sah szah szan starget ssource snumber spower szcount szplaces) ++ (wSH cI yah yan ycount yplaces))) H → va_D A ((ah, .inr (2, [.ref lah, .ref fah, .ref sah, .ref yah])) :: ((wR cI lah lan 1000 (5 : Int32) (8 : Int32) (25 : Int32) lpp lcolumns lcount x_17) ++ (wR cI fah fan 200 (1 : Int32) (8 : Int32) (25 : Int32) fpp fcolumns fcount fnum) ++ (wST cI sah szah szan starget ssource snumber spower szcount szplaces) ++ (wSH cI yah yan ycount yplaces))) → va_S A s.heap H locs → ∀ (ls : Array Slot), lv_has ls 3 [(0, .ref ah), (1, .int i_1)] → W p l e rm_X2_sort s m args below meth c H locs 0 0 Q (F0 m 62 ls []) := by
          intro x_17 hq H locs hP hD hS ls hl
          have hr1 := hk2 _ hq
          refine lv_iinc (v := (i_1 + 1)) (lv' := [(1, .int (i_1 + 1)), (0, .ref ah)]) hx hb dX2_sort_62 hl (k := 1) rfl rfl (by decide) rfl (fun ls hl => ?_)
          refine lv_goto (tgt := 2) hx hb dX2_sort_65 (by decide) ?_
          exact ih1 (i_1 + 1) x_17 (ht1 _ (Option.some.inj hr1).symm) H locs hP hD hS ls (lv_sub hl [1, 0] rfl)
        have hL2 : ∀ (n : Nat) (i_4 : Int32) (i_5 : Nat → Int32), lrun (fun (z : Int32 × (Nat → Int32)) => fX2_sort_s17 lpp lcolumns lcount i_1 z.1 z.2) n (i_4, i_5) = some w2 → ∀ (H : Heap) (locs : List Loc), va_P D cls9 ((ah, .inr (2, [.ref lah, .ref fah, .ref sah, .ref yah])) :: ((wR cI lah lan 1000 (5 : Int32) (8 : Int32) (25 : Int32) lpp lcolumns lcount i_5) ++ (wR cI fah fan 200 (1 : Int32) (8 : Int32) (25 : Int32) fpp fcolumns fcount fnum) ++ (wST cI sah szah szan starget ssource snumber spower szcount szplaces) ++ (wSH cI yah yan ycount yplaces))) H → va_D A ((ah, .inr (2, [.ref lah, .ref fah, .ref sah, .ref yah])) :: ((wR cI lah lan 1000 (5 : Int32) (8 : Int32) (25 : Int32) lpp lcolumns lcount i_5) ++ (wR cI fah fan 200 (1 : Int32) (8 : Int32) (25 : Int32) fpp fcolumns fcount fnum) ++ (wST cI sah szah szan starget ssource snumber spower szcount szplaces) ++ (wSH cI yah yan ycount yplaces))) → va_S A s.heap H locs → ∀ (ls : Array Slot), lv_has ls 3 [(0, .ref ah), (1, .int i_1), (2, .int i_4)] → W p l e rm_X2_sort s m args below meth c H locs 0 0 Q (F0 m 17 ls []) := by
          intro n
          induction n with
          | zero => intro i_4 i_5 h; cases h
          | succ n ih2 =>
            intro i_4 i_5 hr2 H locs hP hD hS ls hl
            obtain ⟨k, v2, hk, hr2, ht2, hv2⟩ := lrun_s hr2
            cases hk
            have hr2 : fX2_sort_s17 lpp lcolumns lcount i_1 i_4 i_5 = some v2 := hr2
            unfold fX2_sort_s17 at hr2
            refine lv_iload_n hx hb dX2_sort_17 rfl (lv_at hl 2 rfl) ?_
            refine lv_aload_n hx hb dX2_sort_18 rfl (lv_at hl 0 rfl) ?_
            refine va_get (D := D) (ci := 2) (v := .ref lah) (C := RX2) (T := TX2) (N := 4) hx hb hts iX2_sort_X2 hown hG.1 hP 0 rfl rfl 0 (by decide) (hts _ fX2_sort_1) (fun _ h9 => h9) rfl dX2_sort_19 ?_
            refine va_get (D := D) (ci := 3) (v := .int lcount) (C := RX3) (T := TX3) (N := 7) hx hb hts iX2_sort_X3 hown hG.1 hP 1 rfl rfl 6 (by decide) (hts _ fX2_sort_3) (fun _ h9 => h9) rfl dX2_sort_22 ?_
            refine lv_icmp_ge (tgt := 62) hx hb dX2_sort_25 (by decide) (fun c_6 => ?_) (fun c_6 => ?_)
            · have hr2 := it_t c_6 hr2
              exact hX2 i_5 (hv2 _ (Option.some.inj hr2).symm).symm H locs hP hD hS ls (lv_sub hl [0, 1] rfl)
            · have hr2 := it_f c_6 hr2
              refine lv_aload_n hx hb dX2_sort_28 rfl (lv_at hl 0 rfl) ?_
              refine va_get (D := D) (ci := 2) (v := .ref lah) (C := RX2) (T := TX2) (N := 4) hx hb hts iX2_sort_X2 hown hG.1 hP 0 rfl rfl 0 (by decide) (hts _ fX2_sort_1) (fun _ h9 => h9) rfl dX2_sort_29 ?_
              refine lv_iload_n hx hb dX2_sort_32 rfl (lv_at hl 2 rfl) ?_
              obtain ⟨v_9, hq_8, hk⟩ := bd1_s hr2
              obtain ⟨r_7, rfl⟩ : ∃ y, y = v_9 := ⟨_, rfl⟩
              have hr2 := hk _ rfl
              have hPc : va_P D cls9 [(lah, .inr (3, [.int (5 : Int32), .int (8 : Int32), .int (25 : Int32), .ref lan, .int lpp, .int lcolumns, .int lcount])), (lan, .inl (cI, 1000, .inl i_5))] H := hPsub hP [1, 2] rfl
              have hDc : va_D A [(lah, .inr (3, [.int (5 : Int32), .int (8 : Int32), .int (25 : Int32), .ref lan, .int lpp, .int lcolumns, .int lcount])), (lan, .inl (cI, 1000, .inl i_5))] := hD.sub [1, 2] (by decide +kernel) rfl
              refine callIP (wr := [(ah, .inr (2, [.ref lah, .ref fah, .ref sah, .ref yah])), (fah, .inr (3, [.int (1 : Int32), .int (8 : Int32), .int (25 : Int32), .ref fan, .int fpp, .int fcolumns, .int fcount])), (fan, .inl (cI, 200, .inl fnum)), (sah, .inr (6, [.ref szah, .int starget, .int ssource, .int snumber, .int spower])), (szah, .inr (5, [.ref szan, .int szcount])), (szan, .inl (cI, 5, .inl szplaces)), (yah, .inr (5, [.ref yan, .int ycount])), (yan, .inl (cI, 5, .inl yplaces))]) (ws2 := ((ah, .inr (2, [.ref lah, .ref fah, .ref sah, .ref yah])) :: ((wR cI lah lan 1000 (5 : Int32) (8 : Int32) (25 : Int32) lpp lcolumns lcount i_5) ++ (wR cI fah fan 200 (1 : Int32) (8 : Int32) (25 : Int32) fpp fcolumns fcount fnum) ++ (wST cI sah szah szan starget ssource snumber spower szcount szplaces) ++ (wSH cI yah yan ycount yplaces)))) (gV (rest := []) ⟨hx, hb, hml, hown, hts⟩ hG hPc hDc 0 3 rfl rfl (mtX3_placeOf l D cI cB cR lah lan H.size 1000 (5 : Int32) (8 : Int32) (25 : Int32) lpp lcolumns lcount i_5 i_4 r_7 hq_8) (cwV 1 hts gX2_sort_X3_placeOf rfl rfl rfl ⟨rfl, hd_X3_placeOf⟩ ⟨Nat.le_of_ble_eq_true rfl, Nat.le_of_ble_eq_true rfl⟩) rfl hl.1 rfl (Nat.le_of_ble_eq_true rfl) dX2_sort_33) hP hD hS hA [1, 2] [0, 3, 4, 5, 6, 7, 8, 9] [0, 8, 9, 1, 2, 3, 4, 5, 6, 7] rfl rfl (by decide +kernel) (by decide +kernel) rfl (by decide +kernel) (fun H locs hP hD hS => ?_)
              refine lv_aload_n hx hb dX2_sort_36 rfl (lv_at hl 0 rfl) ?_
              refine va_get (D := D) (ci := 2) (v := .ref lah) (C := RX2) (T := TX2) (N := 4) hx hb hts iX2_sort_X2 hown hG.1 hP 0 rfl rfl 0 (by decide) (hts _ fX2_sort_1) (fun _ h9 => h9) rfl dX2_sort_37 ?_
              refine lv_iload_n hx hb dX2_sort_40 rfl (lv_at hl 1 rfl) ?_
              obtain ⟨v_12, hq_11, hk⟩ := bd1_s hr2
              obtain ⟨r_10, rfl⟩ : ∃ y, y = v_12 := ⟨_, rfl⟩
              have hr2 := hk _ rfl
              have hPc : va_P D cls9 [(lah, .inr (3, [.int (5 : Int32), .int (8 : Int32), .int (25 : Int32), .ref lan, .int lpp, .int lcolumns, .int lcount])), (lan, .inl (cI, 1000, .inl i_5))] H := hPsub hP [1, 2] rfl
              have hDc : va_D A [(lah, .inr (3, [.int (5 : Int32), .int (8 : Int32), .int (25 : Int32), .ref lan, .int lpp, .int lcolumns, .int lcount])), (lan, .inl (cI, 1000, .inl i_5))] := hD.sub [1, 2] (by decide +kernel) rfl
              refine callIP (wr := [(ah, .inr (2, [.ref lah, .ref fah, .ref sah, .ref yah])), (fah, .inr (3, [.int (1 : Int32), .int (8 : Int32), .int (25 : Int32), .ref fan, .int fpp, .int fcolumns, .int fcount])), (fan, .inl (cI, 200, .inl fnum)), (sah, .inr (6, [.ref szah, .int starget, .int ssource, .int snumber, .int spower])), (szah, .inr (5, [.ref szan, .int szcount])), (szan, .inl (cI, 5, .inl szplaces)), (yah, .inr (5, [.ref yan, .int ycount])), (yan, .inl (cI, 5, .inl yplaces))]) (ws2 := ((ah, .inr (2, [.ref lah, .ref fah, .ref sah, .ref yah])) :: ((wR cI lah lan 1000 (5 : Int32) (8 : Int32) (25 : Int32) lpp lcolumns lcount i_5) ++ (wR cI fah fan 200 (1 : Int32) (8 : Int32) (25 : Int32) fpp fcolumns fcount fnum) ++ (wST cI sah szah szan starget ssource snumber spower szcount szplaces) ++ (wSH cI yah yan ycount yplaces)))) (gV (rest := [.int r_7]) ⟨hx, hb, hml, hown, hts⟩ hG hPc hDc 0 3 rfl rfl (mtX3_placeOf l D cI cB cR lah lan H.size 1000 (5 : Int32) (8 : Int32) (25 : Int32) lpp lcolumns lcount i_5 i_1 r_10 hq_11) (cwV 1 hts gX2_sort_X3_placeOf rfl rfl rfl ⟨rfl, hd_X3_placeOf⟩ ⟨Nat.le_of_ble_eq_true rfl, Nat.le_of_ble_eq_true rfl⟩) rfl hl.1 rfl (Nat.le_of_ble_eq_true rfl) dX2_sort_41) hP hD hS hA [1, 2] [0, 3, 4, 5, 6, 7, 8, 9] [0, 8, 9, 1, 2, 3, 4, 5, 6, 7] rfl rfl (by decide +kernel) (by decide +kernel) rfl (by decide +kernel) (fun H locs hP hD hS => ?_)
              refine lv_icmp_ge (tgt := 56) hx hb dX2_sort_44 (by decide) (fun c_13 => ?_) (fun c_13 => ?_)
              · have hr2 := it_t c_13 hr2
                refine lv_iinc (v := (i_4 + 1)) (lv' := [(2, .int (i_4 + 1)), (0, .ref ah), (1, .int i_1)]) hx hb dX2_sort_56 hl (k := 2) rfl rfl (by decide) rfl (fun ls hl => ?_)
                refine lv_goto (tgt := 17) hx hb dX2_sort_59 (by decide) ?_
                exact ih2 (i_4 + 1) i_5 (ht2 _ (Option.some.inj hr2).symm) H locs hP hD hS ls (lv_sub hl [1, 2, 0] rfl)
              · have hr2 := it_f c_13 hr2
                refine lv_aload_n hx hb dX2_sort_47 rfl (lv_at hl 0 rfl) ?_
                refine va_get (D := D) (ci := 2) (v := .ref lah) (C := RX2) (T := TX2) (N := 4) hx hb hts iX2_sort_X2 hown hG.1 hP 0 rfl rfl 0 (by decide) (hts _ fX2_sort_1) (fun _ h9 => h9) rfl dX2_sort_48 ?_
                refine lv_iload_n hx hb dX2_sort_51 rfl (lv_at hl 1 rfl) ?_
                refine lv_iload_n hx hb dX2_sort_52 rfl (lv_at hl 2 rfl) ?_
                obtain ⟨v_16, hq_15, hk⟩ := bd1_s hr2
                obtain ⟨u_14, rfl⟩ : ∃ y, y = v_16 := ⟨_, rfl⟩
                have hr2 := hk _ rfl
                have hPc : va_P D cls9 [(lah, .inr (3, [.int (5 : Int32), .int (8 : Int32), .int (25 : Int32), .ref lan, .int lpp, .int lcolumns, .int lcount])), (lan, .inl (cI, 1000, .inl i_5))] H := hPsub hP [1, 2] rfl
                have hDc : va_D A [(lah, .inr (3, [.int (5 : Int32), .int (8 : Int32), .int (25 : Int32), .ref lan, .int lpp, .int lcolumns, .int lcount])), (lan, .inl (cI, 1000, .inl i_5))] := hD.sub [1, 2] (by decide +kernel) rfl
                refine callVP (wr := [(ah, .inr (2, [.ref lah, .ref fah, .ref sah, .ref yah])), (fah, .inr (3, [.int (1 : Int32), .int (8 : Int32), .int (25 : Int32), .ref fan, .int fpp, .int fcolumns, .int fcount])), (fan, .inl (cI, 200, .inl fnum)), (sah, .inr (6, [.ref szah, .int starget, .int ssource, .int snumber, .int spower])), (szah, .inr (5, [.ref szan, .int szcount])), (szan, .inl (cI, 5, .inl szplaces)), (yah, .inr (5, [.ref yan, .int ycount])), (yan, .inl (cI, 5, .inl yplaces))]) (ws2 := ((ah, .inr (2, [.ref lah, .ref fah, .ref sah, .ref yah])) :: ((wR cI lah lan 1000 (5 : Int32) (8 : Int32) (25 : Int32) lpp lcolumns lcount u_14) ++ (wR cI fah fan 200 (1 : Int32) (8 : Int32) (25 : Int32) fpp fcolumns fcount fnum) ++ (wST cI sah szah szan starget ssource snumber spower szcount szplaces) ++ (wSH cI yah yan ycount yplaces)))) (gV (rest := []) ⟨hx, hb, hml, hown, hts⟩ hG hPc hDc 0 3 rfl rfl (mtX3_swap l D cI cB cR lah lan H.size 1000 (5 : Int32) (8 : Int32) (25 : Int32) lpp lcolumns lcount i_5 i_1 i_4 u_14 hq_15) (cwV 2 hts gX2_sort_X3_swap rfl rfl rfl ⟨rfl, hd_X3_swap⟩ ⟨Nat.le_of_ble_eq_true rfl, Nat.le_of_ble_eq_true rfl⟩) rfl hl.1 rfl (Nat.le_of_ble_eq_true rfl) dX2_sort_53) hP hD hS hA [1, 2] [0, 3, 4, 5, 6, 7, 8, 9] [0, 8, 9, 1, 2, 3, 4, 5, 6, 7] rfl rfl (by decide +kernel) (by decide +kernel) rfl (by decide +kernel) (fun H locs hP hD hS => ?_)
                refine lv_iinc (v := (i_4 + 1)) (lv' := [(2, .int (i_4 + 1)), (0, .ref ah), (1, .int i_1)]) hx hb dX2_sort_56 hl (k := 2) rfl rfl (by decide) rfl (fun ls hl => ?_)
                refine lv_goto (tgt := 17) hx hb dX2_sort_59 (by decide) ?_
                exact ih2 (i_4 + 1) u_14 (ht2 _ (Option.some.inj hr2).symm) H locs hP hD hS ls (lv_sub hl [1, 2, 0] rfl)
        obtain ⟨n2, hn2⟩ := Lp_s hw2
        exact hL2 n2 (i_1 + (1 : Int32)) i_2 hn2 H locs hP hD hS ls (lv_sub hl [1, 2, 0] rfl)
  obtain ⟨n1, hn1⟩ := Lp_s hw1
  exact hL1 n1 (0 : Int32) lnum hn1 H locs hP hD hS ls (lv_sub hl [1, 0] rfl)
abbrev rm_X2_toForm : Room := { frames := 5, cells := 0, slots := 0, locals := 123 }
theorem iX2_toForm_X2 : ∀ w ∈ wsX20, w ∈ wsX2_toForm := fun _ h => (List.mem_cons_of_mem _ (List.mem_append_left _ (List.mem_append_left _ (List.mem_append_left _ (List.mem_append_right _ h)))))
theorem fX2_toForm_1 : Cond.fieldLink RX2 26 "PopovRows$Popov" "step" "LPopovRows$Step;" ∈ wsX2_toForm := (List.mem_cons_of_mem _ (List.mem_append_left _ (List.mem_append_left _ (List.mem_append_left _ (List.mem_append_left _ (List.mem_append_left _ (List.mem_of_getElem? (i := 0) rfl)))))))
theorem fX2_toForm_2 : Cond.fieldLink RX2 14 "PopovRows$Popov" "list" "LPopovRows$Rows;" ∈ wsX2_toForm := (List.mem_cons_of_mem _ (List.mem_append_left _ (List.mem_append_left _ (List.mem_append_left _ (List.mem_append_left _ (List.mem_append_left _ (List.mem_of_getElem? (i := 1) rfl)))))))
theorem iX2_toForm_X6 : ∀ w ∈ wsX60, w ∈ wsX2_toForm := fun _ h => (List.mem_cons_of_mem _ (List.mem_append_left _ (List.mem_append_left _ (List.mem_append_right _ h))))
theorem fX2_toForm_4 : Cond.fieldLink RX2 90 "PopovRows$Step" "target" "I" ∈ wsX2_toForm := (List.mem_cons_of_mem _ (List.mem_append_left _ (List.mem_append_left _ (List.mem_append_left _ (List.mem_append_left _ (List.mem_append_left _ (List.mem_of_getElem? (i := 2) rfl)))))))
theorem fX2_toForm_5 : Cond.fieldLink RX2 93 "PopovRows$Step" "source" "I" ∈ wsX2_toForm := (List.mem_cons_of_mem _ (List.mem_append_left _ (List.mem_append_left _ (List.mem_append_left _ (List.mem_append_left _ (List.mem_append_left _ (List.mem_of_getElem? (i := 3) rfl)))))))
theorem fX2_toForm_6 : Cond.fieldLink RX2 96 "PopovRows$Step" "number" "I" ∈ wsX2_toForm := (List.mem_cons_of_mem _ (List.mem_append_left _ (List.mem_append_left _ (List.mem_append_left _ (List.mem_append_left _ (List.mem_append_left _ (List.mem_of_getElem? (i := 4) rfl)))))))
theorem fX2_toForm_7 : Cond.fieldLink RX2 99 "PopovRows$Step" "power" "I" ∈ wsX2_toForm := (List.mem_cons_of_mem _ (List.mem_append_left _ (List.mem_append_left _ (List.mem_append_left _ (List.mem_append_left _ (List.mem_append_left _ (List.mem_of_getElem? (i := 5) rfl)))))))
theorem iX2_toForm_X3 : ∀ w ∈ wsX30, w ∈ wsX2_toForm := fun _ h => (List.mem_cons_of_mem _ (List.mem_append_left _ (List.mem_append_right _ h)))
theorem fX2_toForm_9 : Cond.fieldLink RX2 48 "PopovRows$Rows" "count" "I" ∈ wsX2_toForm := (List.mem_cons_of_mem _ (List.mem_append_left _ (List.mem_append_left _ (List.mem_append_left _ (List.mem_append_left _ (List.mem_append_left _ (List.mem_of_getElem? (i := 6) rfl)))))))
theorem fX2_toForm_10 : Cond.fieldLink RX2 37 "PopovRows$Rows" "p" "I" ∈ wsX2_toForm := (List.mem_cons_of_mem _ (List.mem_append_left _ (List.mem_append_left _ (List.mem_append_left _ (List.mem_append_left _ (List.mem_append_left _ (List.mem_of_getElem? (i := 7) rfl)))))))
theorem fX2_toForm_11 : Cond.initialized RX7 ∈ wsX2_toForm := (List.mem_cons_of_mem _ (List.mem_append_left _ (List.mem_append_left _ (List.mem_append_left _ (List.mem_append_left _ (List.mem_append_right _ (List.mem_append_right _ (List.mem_append_left _ (List.mem_of_getElem? (i := 7) rfl)))))))))
theorem fX2_toForm_12 : Cond.static yX7_inverse ∈ wsX2_toForm := (List.mem_cons_of_mem _ (List.mem_append_left _ (List.mem_append_left _ (List.mem_append_left _ (List.mem_append_left _ (List.mem_append_right _ (List.mem_append_right _ (List.mem_append_left _ (List.mem_of_getElem? (i := 16) rfl)))))))))
set_option maxHeartbeats 4000000 in
set_option maxRecDepth 100000 in
theorem mtX2_toForm (l : Launch) (D : va_G) (cI cB cR : ClassId) (ah : Nat) (lah : Nat) (lan : Nat) (fah : Nat) (fan : Nat) (sah : Nat) (szah : Nat) (szan : Nat) (yah : Nat) (yan : Nat) (sz : Nat) (lpp : Int32) (lcolumns : Int32) (lcount : Int32) (lnum : Nat → Int32) (fpp : Int32) (fcolumns : Int32) (fcount : Int32) (fnum : Nat → Int32) (starget : Int32) (ssource : Int32) (snumber : Int32) (spower : Int32) (szcount : Int32) (szplaces : Nat → Int32) (ycount : Int32) (yplaces : Nat → Int32) (res : Int32 × (Nat → Int32) × Int32 × Int32 × Int32 × Int32 × Int32 × (Nat → Int32) × Int32 × (Nat → Int32)) (hf : fX2_toForm lpp lcolumns lcount lnum starget ssource snumber spower szcount szplaces ycount yplaces = some res) : Met l yX2_toForm wsX2_toForm rm_X2_toForm (qP D cI cB cR [.ref ah] ((ah, .inr (2, [.ref lah, .ref fah, .ref sah, .ref yah])) :: ((wR cI lah lan 1000 (5 : Int32) (8 : Int32) (25 : Int32) lpp lcolumns lcount lnum) ++ (wR cI fah fan 200 (1 : Int32) (8 : Int32) (25 : Int32) fpp fcolumns fcount fnum) ++ (wST cI sah szah szan starget ssource snumber spower szcount szplaces) ++ (wSH cI yah yan ycount yplaces))) sz) (qV D ((ah, .inr (2, [.ref lah, .ref fah, .ref sah, .ref yah])) :: ((wR cI lah lan 1000 (5 : Int32) (8 : Int32) (25 : Int32) lpp lcolumns lcount lnum) ++ (wR cI fah fan 200 (1 : Int32) (8 : Int32) (25 : Int32) fpp fcolumns fcount fnum) ++ (wST cI sah szah szan starget ssource snumber spower szcount szplaces) ++ (wSH cI yah yan ycount yplaces))) ((ah, .inr (2, [.ref lah, .ref fah, .ref sah, .ref yah])) :: ((wR cI lah lan 1000 (5 : Int32) (8 : Int32) (25 : Int32) lpp lcolumns res.1 res.2.1) ++ (wR cI fah fan 200 (1 : Int32) (8 : Int32) (25 : Int32) fpp fcolumns fcount fnum) ++ (wST cI sah szah szan res.2.2.1 res.2.2.2.1 res.2.2.2.2.1 res.2.2.2.2.2.1 res.2.2.2.2.2.2.1 res.2.2.2.2.2.2.2.1) ++ (wSH cI yah yan res.2.2.2.2.2.2.2.2.1 res.2.2.2.2.2.2.2.2.2))) sz) 0 0 (va_A ((ah, .inr (2, [.ref lah, .ref fah, .ref sah, .ref yah])) :: ((wR cI lah lan 1000 (5 : Int32) (8 : Int32) (25 : Int32) lpp lcolumns lcount lnum) ++ (wR cI fah fan 200 (1 : Int32) (8 : Int32) (25 : Int32) fpp fcolumns fcount fnum) ++ (wST cI sah szah szan starget ssource snumber spower szcount szplaces) ++ (wSH cI yah yan ycount yplaces))) sz) := by
  refine entV (plainFor_of_name (by decide)) rfl (Nat.le_of_ble_eq_true rfl) ?_
  intro p e s m args below meth c Q A ls S hG hP hD hA hl hE
  obtain ⟨hx, hb, hml, hown, hts⟩ := S
  have hown : s.vm.findClass RX2 = some m.cls := hown
  have hS : va_S A s.heap s.heap [] := va_S.rf
  have hl : lv_has ls 2 [(0, .ref ah)] := hl
  have hq := hf
  unfold fX2_toForm at hq
  obtain ⟨H, hH⟩ : ∃ H, H = s.heap := ⟨_, rfl⟩
  obtain ⟨locs, hlo⟩ : ∃ L : List Loc, L = [] := ⟨_, rfl⟩
  have hP : va_P D cls9 ((ah, .inr (2, [.ref lah, .ref fah, .ref sah, .ref yah])) :: ((wR cI lah lan 1000 (5 : Int32) (8 : Int32) (25 : Int32) lpp lcolumns lcount lnum) ++ (wR cI fah fan 200 (1 : Int32) (8 : Int32) (25 : Int32) fpp fcolumns fcount fnum) ++ (wST cI sah szah szan starget ssource snumber spower szcount szplaces) ++ (wSH cI yah yan ycount yplaces))) H := hH ▸ hP
  have hS : va_S A s.heap H locs := by rw [hH, hlo]; exact hS
  suffices hg : W p l e rm_X2_toForm s m args below meth c H locs 0 0 Q (F0 m 0 ls []) by rw [hH, hlo] at hg; exact hg
  refine lv_iconst (v := 0) hx hb dX2_toForm_0 (by decide) ?_
  refine lv_istore_n (lv' := [(1, .int (0 : Int32)), (0, .ref ah)]) hx hb dX2_toForm_1 rfl hl (by decide) rfl (fun ls hl => ?_)
  obtain ⟨w1, hw1, hk1⟩ := bd7_s hq
  have hX1 : ∀ (x_24 : Nat → Int32) (x_25 : Int32) (x_26 : Int32) (x_27 : Int32) (x_28 : Int32) (x_29 : Int32) (x_30 : Nat → Int32), w1 = (x_24, x_25, x_26, x_27, x_28, x_29, x_30) → ∀ (H : Heap) (locs : List Loc), va_P D cls9 ((ah, .inr (2, [.ref lah, .ref fah, .ref sah, .ref yah])) :: ((wR cI lah lan 1000 (5 : Int32) (8 : Int32) (25 : Int32) lpp lcolumns lcount x_24) ++ (wR cI fah fan 200 (1 : Int32) (8 : Int32) (25 : Int32) fpp fcolumns fcount fnum) ++ (wST cI sah szah szan x_28 x_27 x_25 x_26 x_29 x_30) ++ (wSH cI yah yan ycount yplaces))) H → va_D A ((ah, .inr (2, [.ref lah, .ref fah, .ref sah, .ref yah])) :: ((wR cI lah lan 1000 (5 : Int32) (8 : Int32) (25 : Int32) lpp lcolumns lcount x_24) ++ (wR cI fah fan 200 (1 : Int32) (8 : Int32) (25 : Int32) fpp fcolumns fcount fnum) ++ (wST cI sah szah szan x_28 x_27 x_25 x_26 x_29 x_30) ++ (wSH cI yah yan ycount yplaces))) → va_S A s.heap H locs → ∀ (ls : Array Slot), lv_has ls 2 [(0, .ref ah)] → W p l e rm_X2_toForm s m args below meth c H locs 0 0 Q (F0 m 68 ls []) := by
    intro x_24 x_25 x_26 x_27 x_28 x_29 x_30 hq H locs hP hD hS ls hl
    have hq := hk1 _ _ _ _ _ _ _ hq
    refine lv_aload_n hx hb dX2_toForm_68 rfl (lv_at hl 0 rfl) ?_
    obtain ⟨v_34, hq_33, hk⟩ := bd2_s hq
    obtain ⟨u_31, u_32⟩ := v_34
    have hq := hk _ _ rfl
    refine callVA (gV (rest := []) ⟨hx, hb, hml, hown, hts⟩ hG hP hD 0 2 rfl rfl (mtX2_removeZeros l D cI cB cR ah lah lan fah fan sah szah szan yah yan H.size lpp lcolumns lcount x_24 fpp fcolumns fcount fnum x_28 x_27 x_25 x_26 x_29 x_30 ycount yplaces (u_31, u_32) hq_33) (cwV 0 hts gX2_toForm_X2_removeZeros rfl rfl rfl ⟨rfl, hd_X2_removeZeros⟩ ⟨Nat.le_of_ble_eq_true rfl, Nat.le_of_ble_eq_true rfl⟩) rfl hl.1 rfl (Nat.le_of_ble_eq_true rfl) dX2_toForm_69) hD hS hA (fun H locs hP hD hS => ?_)
    have hP : va_P D cls9 ((ah, .inr (2, [.ref lah, .ref fah, .ref sah, .ref yah])) :: ((wR cI lah lan 1000 (5 : Int32) (8 : Int32) (25 : Int32) lpp lcolumns u_31 u_32) ++ (wR cI fah fan 200 (1 : Int32) (8 : Int32) (25 : Int32) fpp fcolumns fcount fnum) ++ (wST cI sah szah szan x_28 x_27 x_25 x_26 x_29 x_30) ++ (wSH cI yah yan ycount yplaces))) H := hP
    have hD : va_D A ((ah, .inr (2, [.ref lah, .ref fah, .ref sah, .ref yah])) :: ((wR cI lah lan 1000 (5 : Int32) (8 : Int32) (25 : Int32) lpp lcolumns u_31 u_32) ++ (wR cI fah fan 200 (1 : Int32) (8 : Int32) (25 : Int32) fpp fcolumns fcount fnum) ++ (wST cI sah szah szan x_28 x_27 x_25 x_26 x_29 x_30) ++ (wSH cI yah yan ycount yplaces))) := hD
    refine lv_iconst (v := 0) hx hb dX2_toForm_72 (by decide) ?_
    refine lv_istore_n (lv' := [(1, .int (0 : Int32)), (0, .ref ah)]) hx hb dX2_toForm_73 rfl hl (by decide) rfl (fun ls hl => ?_)
    obtain ⟨w2, hw2, hk2⟩ := bd1_s hq
    have hX2 : ∀ (x_47 : Nat → Int32), w2 = x_47 → ∀ (H : Heap) (locs : List Loc), va_P D cls9 ((ah, .inr (2, [.ref lah, .ref fah, .ref sah, .ref yah])) :: ((wR cI lah lan 1000 (5 : Int32) (8 : Int32) (25 : Int32) lpp lcolumns u_31 x_47) ++ (wR cI fah fan 200 (1 : Int32) (8 : Int32) (25 : Int32) fpp fcolumns fcount fnum) ++ (wST cI sah szah szan x_28 x_27 x_25 x_26 x_29 x_30) ++ (wSH cI yah yan ycount yplaces))) H → va_D A ((ah, .inr (2, [.ref lah, .ref fah, .ref sah, .ref yah])) :: ((wR cI lah lan 1000 (5 : Int32) (8 : Int32) (25 : Int32) lpp lcolumns u_31 x_47) ++ (wR cI fah fan 200 (1 : Int32) (8 : Int32) (25 : Int32) fpp fcolumns fcount fnum) ++ (wST cI sah szah szan x_28 x_27 x_25 x_26 x_29 x_30) ++ (wSH cI yah yan ycount yplaces))) → va_S A s.heap H locs → ∀ (ls : Array Slot), lv_has ls 2 [(0, .ref ah)] → W p l e rm_X2_toForm s m args below meth c H locs 0 0 Q (F0 m 117 ls []) := by
      intro x_47 hq H locs hP hD hS ls hl
      have hq := hk2 _ hq
      refine lv_iconst (v := 0) hx hb dX2_toForm_117 (by decide) ?_
      refine lv_istore_n (lv' := [(1, .int (0 : Int32)), (0, .ref ah)]) hx hb dX2_toForm_118 rfl hl (by decide) rfl (fun ls hl => ?_)
      obtain ⟨w3, hw3, hk3⟩ := bd3_s hq
      have hX3 : ∀ (x_58 : Nat → Int32) (x_59 : Int32) (x_60 : Nat → Int32), w3 = (x_58, x_59, x_60) → ∀ (H : Heap) (locs : List Loc), va_P D cls9 ((ah, .inr (2, [.ref lah, .ref fah, .ref sah, .ref yah])) :: ((wR cI lah lan 1000 (5 : Int32) (8 : Int32) (25 : Int32) lpp lcolumns u_31 x_58) ++ (wR cI fah fan 200 (1 : Int32) (8 : Int32) (25 : Int32) fpp fcolumns fcount fnum) ++ (wST cI sah szah szan x_28 x_27 x_25 x_26 x_29 x_30) ++ (wSH cI yah yan x_59 x_60))) H → va_D A ((ah, .inr (2, [.ref lah, .ref fah, .ref sah, .ref yah])) :: ((wR cI lah lan 1000 (5 : Int32) (8 : Int32) (25 : Int32) lpp lcolumns u_31 x_58) ++ (wR cI fah fan 200 (1 : Int32) (8 : Int32) (25 : Int32) fpp fcolumns fcount fnum) ++ (wST cI sah szah szan x_28 x_27 x_25 x_26 x_29 x_30) ++ (wSH cI yah yan x_59 x_60))) → va_S A s.heap H locs → ∀ (ls : Array Slot), lv_has ls 2 [(0, .ref ah)] → W p l e rm_X2_toForm s m args below meth c H locs 0 0 Q (F0 m 146 ls []) := by
        intro x_58 x_59 x_60 hq H locs hP hD hS ls hl
        have hq := hk3 _ _ _ hq
        refine lv_aload_n hx hb dX2_toForm_146 rfl (lv_at hl 0 rfl) ?_
        obtain ⟨v_63, hq_62, hk⟩ := bd1_s hq
        obtain ⟨u_61, rfl⟩ : ∃ y, y = v_63 := ⟨_, rfl⟩
        have hq := hk _ rfl
        refine callVA (gV (rest := []) ⟨hx, hb, hml, hown, hts⟩ hG hP hD 0 2 rfl rfl (mtX2_sort l D cI cB cR ah lah lan fah fan sah szah szan yah yan H.size lpp lcolumns u_31 x_58 fpp fcolumns fcount fnum x_28 x_27 x_25 x_26 x_29 x_30 x_59 x_60 u_61 hq_62) (cwV 0 hts gX2_toForm_X2_sort rfl rfl rfl ⟨rfl, hd_X2_sort⟩ ⟨Nat.le_of_ble_eq_true rfl, Nat.le_of_ble_eq_true rfl⟩) rfl hl.1 rfl (Nat.le_of_ble_eq_true rfl) dX2_toForm_147) hD hS hA (fun H locs hP hD hS => ?_)
        have hP : va_P D cls9 ((ah, .inr (2, [.ref lah, .ref fah, .ref sah, .ref yah])) :: ((wR cI lah lan 1000 (5 : Int32) (8 : Int32) (25 : Int32) lpp lcolumns u_31 u_61) ++ (wR cI fah fan 200 (1 : Int32) (8 : Int32) (25 : Int32) fpp fcolumns fcount fnum) ++ (wST cI sah szah szan x_28 x_27 x_25 x_26 x_29 x_30) ++ (wSH cI yah yan x_59 x_60))) H := hP
        have hD : va_D A ((ah, .inr (2, [.ref lah, .ref fah, .ref sah, .ref yah])) :: ((wR cI lah lan 1000 (5 : Int32) (8 : Int32) (25 : Int32) lpp lcolumns u_31 u_61) ++ (wR cI fah fan 200 (1 : Int32) (8 : Int32) (25 : Int32) fpp fcolumns fcount fnum) ++ (wST cI sah szah szan x_28 x_27 x_25 x_26 x_29 x_30) ++ (wSH cI yah yan x_59 x_60))) := hD
        have he := Option.some.inj hq
        subst he
        exact hE H locs _ _ dX2_toForm_150 hP hD hS
      have hL3 : ∀ (n : Nat) (i_48 : Int32) (i_49 : Nat → Int32) (i_50 : Int32) (i_51 : Nat → Int32), lrun (fun (z : Int32 × (Nat → Int32) × Int32 × (Nat → Int32)) => fX2_toForm_s119 lpp lcolumns u_31 z.1 z.2.1 z.2.2.1 z.2.2.2) n (i_48, i_49, i_50, i_51) = some w3 → ∀ (H : Heap) (locs : List Loc), va_P D cls9 ((ah, .inr (2, [.ref lah, .ref fah, .ref sah, .ref yah])) :: ((wR cI lah lan 1000 (5 : Int32) (8 : Int32) (25 : Int32) lpp lcolumns u_31 i_49) ++ (wR cI fah fan 200 (1 : Int32) (8 : Int32) (25 : Int32) fpp fcolumns fcount fnum) ++ (wST cI sah szah szan x_28 x_27 x_25 x_26 x_29 x_30) ++ (wSH cI yah yan i_50 i_51))) H → va_D A ((ah, .inr (2, [.ref lah, .ref fah, .ref sah, .ref yah])) :: ((wR cI lah lan 1000 (5 : Int32) (8 : Int32) (25 : Int32) lpp lcolumns u_31 i_49) ++ (wR cI fah fan 200 (1 : Int32) (8 : Int32) (25 : Int32) fpp fcolumns fcount fnum) ++ (wST cI sah szah szan x_28 x_27 x_25 x_26 x_29 x_30) ++ (wSH cI yah yan i_50 i_51))) → va_S A s.heap H locs → ∀ (ls : Array Slot), lv_has ls 2 [(0, .ref ah), (1, .int i_48)] → W p l e rm_X2_toForm s m args below meth c H locs 0 0 Q (F0 m 119 ls []) := by
        intro n
        induction n with
        | zero => intro i_48 i_49 i_50 i_51 h; cases h
        | succ n ih3 =>
          intro i_48 i_49 i_50 i_51 hr3 H locs hP hD hS ls hl
          obtain ⟨k, v3, hk, hr3, ht3, hv3⟩ := lrun_s hr3
          cases hk
          have hr3 : fX2_toForm_s119 lpp lcolumns u_31 i_48 i_49 i_50 i_51 = some v3 := hr3
          unfold fX2_toForm_s119 at hr3
          refine lv_iload_n hx hb dX2_toForm_119 rfl (lv_at hl 1 rfl) ?_
          refine lv_aload_n hx hb dX2_toForm_120 rfl (lv_at hl 0 rfl) ?_
          refine va_get (D := D) (ci := 2) (v := .ref lah) (C := RX2) (T := TX2) (N := 4) hx hb hts iX2_toForm_X2 hown hG.1 hP 0 rfl rfl 0 (by decide) (hts _ fX2_toForm_2) (fun _ h9 => h9) rfl dX2_toForm_121 ?_
          refine va_get (D := D) (ci := 3) (v := .int u_31) (C := RX3) (T := TX3) (N := 7) hx hb hts iX2_toForm_X3 hown hG.1 hP 1 rfl rfl 6 (by decide) (hts _ fX2_toForm_9) (fun _ h9 => h9) rfl dX2_toForm_124 ?_
          refine lv_icmp_ge (tgt := 146) hx hb dX2_toForm_127 (by decide) (fun c_52 => ?_) (fun c_52 => ?_)
          · have hr3 := it_t c_52 hr3
            exact hX3 i_49 i_50 i_51 (hv3 _ (Option.some.inj hr3).symm).symm H locs hP hD hS ls (lv_sub hl [0] rfl)
          · have hr3 := it_f c_52 hr3
            refine lv_aload_n hx hb dX2_toForm_130 rfl (lv_at hl 0 rfl) ?_
            refine lv_aload_n hx hb dX2_toForm_131 rfl (lv_at hl 0 rfl) ?_
            refine va_get (D := D) (ci := 2) (v := .ref lah) (C := RX2) (T := TX2) (N := 4) hx hb hts iX2_toForm_X2 hown hG.1 hP 0 rfl rfl 0 (by decide) (hts _ fX2_toForm_2) (fun _ h9 => h9) rfl dX2_toForm_132 ?_
            refine lv_iload_n hx hb dX2_toForm_135 rfl (lv_at hl 1 rfl) ?_
            refine lv_iload_n hx hb dX2_toForm_136 rfl (lv_at hl 1 rfl) ?_
            obtain ⟨v_57, hq_56, hk⟩ := bd3_s hr3
            obtain ⟨u_53, u_54, u_55⟩ := v_57
            have hr3 := hk _ _ _ rfl
            refine callVA (gV (rest := []) ⟨hx, hb, hml, hown, hts⟩ hG hP hD 0 2 rfl rfl (mtX2_reduce_e00 l D cI cB cR ah lah lan fah fan sah szah szan yah yan H.size lpp lcolumns u_31 i_49 fpp fcolumns fcount fnum x_28 x_27 x_25 x_26 x_29 x_30 i_50 i_51 i_48 i_48 (u_53, u_54, u_55) hq_56) (cwV 3 hts gX2_toForm_X2_reduce rfl rfl rfl ⟨rfl, hd_X2_reduce⟩ ⟨Nat.le_of_ble_eq_true rfl, Nat.le_of_ble_eq_true rfl⟩) rfl hl.1 rfl (Nat.le_of_ble_eq_true rfl) dX2_toForm_137) hD hS hA (fun H locs hP hD hS => ?_)
            have hP : va_P D cls9 ((ah, .inr (2, [.ref lah, .ref fah, .ref sah, .ref yah])) :: ((wR cI lah lan 1000 (5 : Int32) (8 : Int32) (25 : Int32) lpp lcolumns u_31 u_53) ++ (wR cI fah fan 200 (1 : Int32) (8 : Int32) (25 : Int32) fpp fcolumns fcount fnum) ++ (wST cI sah szah szan x_28 x_27 x_25 x_26 x_29 x_30) ++ (wSH cI yah yan u_54 u_55))) H := hP
            have hD : va_D A ((ah, .inr (2, [.ref lah, .ref fah, .ref sah, .ref yah])) :: ((wR cI lah lan 1000 (5 : Int32) (8 : Int32) (25 : Int32) lpp lcolumns u_31 u_53) ++ (wR cI fah fan 200 (1 : Int32) (8 : Int32) (25 : Int32) fpp fcolumns fcount fnum) ++ (wST cI sah szah szan x_28 x_27 x_25 x_26 x_29 x_30) ++ (wSH cI yah yan u_54 u_55))) := hD
            refine lv_iinc (v := (i_48 + 1)) (lv' := [(1, .int (i_48 + 1)), (0, .ref ah)]) hx hb dX2_toForm_140 hl (k := 1) rfl rfl (by decide) rfl (fun ls hl => ?_)
            refine lv_goto (tgt := 119) hx hb dX2_toForm_143 (by decide) ?_
            exact ih3 (i_48 + 1) u_53 u_54 u_55 (ht3 _ (Option.some.inj hr3).symm) H locs hP hD hS ls (lv_sub hl [1, 0] rfl)
      obtain ⟨n3, hn3⟩ := Lp_s hw3
      exact hL3 n3 (0 : Int32) x_47 ycount yplaces hn3 H locs hP hD hS ls (lv_sub hl [1, 0] rfl)
    have hL2 : ∀ (n : Nat) (i_35 : Int32) (i_36 : Nat → Int32), lrun (fun (z : Int32 × (Nat → Int32)) => fX2_toForm_s74 lpp lcolumns u_31 z.1 z.2) n (i_35, i_36) = some w2 → ∀ (H : Heap) (locs : List Loc), va_P D cls9 ((ah, .inr (2, [.ref lah, .ref fah, .ref sah, .ref yah])) :: ((wR cI lah lan 1000 (5 : Int32) (8 : Int32) (25 : Int32) lpp lcolumns u_31 i_36) ++ (wR cI fah fan 200 (1 : Int32) (8 : Int32) (25 : Int32) fpp fcolumns fcount fnum) ++ (wST cI sah szah szan x_28 x_27 x_25 x_26 x_29 x_30) ++ (wSH cI yah yan ycount yplaces))) H → va_D A ((ah, .inr (2, [.ref lah, .ref fah, .ref sah, .ref yah])) :: ((wR cI lah lan 1000 (5 : Int32) (8 : Int32) (25 : Int32) lpp lcolumns u_31 i_36) ++ (wR cI fah fan 200 (1 : Int32) (8 : Int32) (25 : Int32) fpp fcolumns fcount fnum) ++ (wST cI sah szah szan x_28 x_27 x_25 x_26 x_29 x_30) ++ (wSH cI yah yan ycount yplaces))) → va_S A s.heap H locs → ∀ (ls : Array Slot), lv_has ls 2 [(0, .ref ah), (1, .int i_35)] → W p l e rm_X2_toForm s m args below meth c H locs 0 0 Q (F0 m 74 ls []) := by
      intro n
      induction n with
      | zero => intro i_35 i_36 h; cases h
      | succ n ih2 =>
        intro i_35 i_36 hr2 H locs hP hD hS ls hl
        obtain ⟨k, v2, hk, hr2, ht2, hv2⟩ := lrun_s hr2
        cases hk
        have hr2 : fX2_toForm_s74 lpp lcolumns u_31 i_35 i_36 = some v2 := hr2
        unfold fX2_toForm_s74 at hr2
        refine lv_iload_n hx hb dX2_toForm_74 rfl (lv_at hl 1 rfl) ?_
        refine lv_aload_n hx hb dX2_toForm_75 rfl (lv_at hl 0 rfl) ?_
        refine va_get (D := D) (ci := 2) (v := .ref lah) (C := RX2) (T := TX2) (N := 4) hx hb hts iX2_toForm_X2 hown hG.1 hP 0 rfl rfl 0 (by decide) (hts _ fX2_toForm_2) (fun _ h9 => h9) rfl dX2_toForm_76 ?_
        refine va_get (D := D) (ci := 3) (v := .int u_31) (C := RX3) (T := TX3) (N := 7) hx hb hts iX2_toForm_X3 hown hG.1 hP 1 rfl rfl 6 (by decide) (hts _ fX2_toForm_9) (fun _ h9 => h9) rfl dX2_toForm_79 ?_
        refine lv_icmp_ge (tgt := 117) hx hb dX2_toForm_82 (by decide) (fun c_37 => ?_) (fun c_37 => ?_)
        · have hr2 := it_t c_37 hr2
          exact hX2 i_36 (hv2 _ (Option.some.inj hr2).symm).symm H locs hP hD hS ls (lv_sub hl [0] rfl)
        · have hr2 := it_f c_37 hr2
          refine lv_aload_n hx hb dX2_toForm_85 rfl (lv_at hl 0 rfl) ?_
          refine va_get (D := D) (ci := 2) (v := .ref lah) (C := RX2) (T := TX2) (N := 4) hx hb hts iX2_toForm_X2 hown hG.1 hP 0 rfl rfl 0 (by decide) (hts _ fX2_toForm_2) (fun _ h9 => h9) rfl dX2_toForm_86 ?_
          refine lv_iload_n hx hb dX2_toForm_89 rfl (lv_at hl 1 rfl) ?_
          refine lv_aload_n hx hb dX2_toForm_90 rfl (lv_at hl 0 rfl) ?_
          refine va_get (D := D) (ci := 2) (v := .ref lah) (C := RX2) (T := TX2) (N := 4) hx hb hts iX2_toForm_X2 hown hG.1 hP 0 rfl rfl 0 (by decide) (hts _ fX2_toForm_2) (fun _ h9 => h9) rfl dX2_toForm_91 ?_
          refine lv_iload_n hx hb dX2_toForm_94 rfl (lv_at hl 1 rfl) ?_
          obtain ⟨v_40, hq_39, hk⟩ := bd1_s hr2
          obtain ⟨r_38, rfl⟩ : ∃ y, y = v_40 := ⟨_, rfl⟩
          have hr2 := hk _ rfl
          have hPc : va_P D cls9 [(lah, .inr (3, [.int (5 : Int32), .int (8 : Int32), .int (25 : Int32), .ref lan, .int lpp, .int lcolumns, .int u_31])), (lan, .inl (cI, 1000, .inl i_36))] H := hPsub hP [1, 2] rfl
          have hDc : va_D A [(lah, .inr (3, [.int (5 : Int32), .int (8 : Int32), .int (25 : Int32), .ref lan, .int lpp, .int lcolumns, .int u_31])), (lan, .inl (cI, 1000, .inl i_36))] := hD.sub [1, 2] (by decide +kernel) rfl
          refine callIP (wr := [(ah, .inr (2, [.ref lah, .ref fah, .ref sah, .ref yah])), (fah, .inr (3, [.int (1 : Int32), .int (8 : Int32), .int (25 : Int32), .ref fan, .int fpp, .int fcolumns, .int fcount])), (fan, .inl (cI, 200, .inl fnum)), (sah, .inr (6, [.ref szah, .int x_28, .int x_27, .int x_25, .int x_26])), (szah, .inr (5, [.ref szan, .int x_29])), (szan, .inl (cI, 5, .inl x_30)), (yah, .inr (5, [.ref yan, .int ycount])), (yan, .inl (cI, 5, .inl yplaces))]) (ws2 := ((ah, .inr (2, [.ref lah, .ref fah, .ref sah, .ref yah])) :: ((wR cI lah lan 1000 (5 : Int32) (8 : Int32) (25 : Int32) lpp lcolumns u_31 i_36) ++ (wR cI fah fan 200 (1 : Int32) (8 : Int32) (25 : Int32) fpp fcolumns fcount fnum) ++ (wST cI sah szah szan x_28 x_27 x_25 x_26 x_29 x_30) ++ (wSH cI yah yan ycount yplaces)))) (gV (rest := [.int i_35, .ref lah]) ⟨hx, hb, hml, hown, hts⟩ hG hPc hDc 0 3 rfl rfl (mtX3_leadOf l D cI cB cR lah lan H.size 1000 (5 : Int32) (8 : Int32) (25 : Int32) lpp lcolumns u_31 i_36 i_35 r_38 hq_39) (cwV 1 hts gX2_toForm_X3_leadOf rfl rfl rfl ⟨rfl, hd_X3_leadOf⟩ ⟨Nat.le_of_ble_eq_true rfl, Nat.le_of_ble_eq_true rfl⟩) rfl hl.1 rfl (Nat.le_of_ble_eq_true rfl) dX2_toForm_95) hP hD hS hA [1, 2] [0, 3, 4, 5, 6, 7, 8, 9] [0, 8, 9, 1, 2, 3, 4, 5, 6, 7] rfl rfl (by decide +kernel) (by decide +kernel) rfl (by decide +kernel) (fun H locs hP hD hS => ?_)
          refine lv_aload_n hx hb dX2_toForm_98 rfl (lv_at hl 0 rfl) ?_
          refine va_get (D := D) (ci := 2) (v := .ref lah) (C := RX2) (T := TX2) (N := 4) hx hb hts iX2_toForm_X2 hown hG.1 hP 0 rfl rfl 0 (by decide) (hts _ fX2_toForm_2) (fun _ h9 => h9) rfl dX2_toForm_99 ?_
          refine va_get (D := D) (ci := 3) (v := .int lpp) (C := RX3) (T := TX3) (N := 7) hx hb hts iX2_toForm_X3 hown hG.1 hP 1 rfl rfl 4 (by decide) (hts _ fX2_toForm_10) (fun _ h9 => h9) rfl dX2_toForm_102 ?_
          obtain ⟨v_43, hq_42, hk⟩ := bd1_s hr2
          obtain ⟨r_41, rfl⟩ : ∃ y, y = v_43 := ⟨_, rfl⟩
          have hr2 := hk _ rfl
          refine callI0 (gSN (rest := [.int i_35, .ref lah]) ⟨hx, hb, hml, hown, hts⟩ hG vaP0 (vaD0 (A := A)) (mtX7_inverse l D cI cB cR H.size r_38 lpp r_41 hq_42) (va_cnB (host := "PopovRows") 2 hts gX2_toForm_X7_inverse_n108 rfl rfl rfl (hG.2 _ nl_16) (hts _ fX2_toForm_11) hd_X7_inverse ⟨Nat.le_of_ble_eq_true rfl, Nat.le_of_ble_eq_true rfl⟩) (hts _ fX2_toForm_12) rfl hl.1 rfl (Nat.le_of_ble_eq_true rfl) dX2_toForm_105) hP hS hA (fun H locs hP hS => ?_)
          obtain ⟨v_46, hq_45, hk⟩ := bd1_s hr2
          obtain ⟨u_44, rfl⟩ : ∃ y, y = v_46 := ⟨_, rfl⟩
          have hr2 := hk _ rfl
          have hPc : va_P D cls9 [(lah, .inr (3, [.int (5 : Int32), .int (8 : Int32), .int (25 : Int32), .ref lan, .int lpp, .int lcolumns, .int u_31])), (lan, .inl (cI, 1000, .inl i_36))] H := hPsub hP [1, 2] rfl
          have hDc : va_D A [(lah, .inr (3, [.int (5 : Int32), .int (8 : Int32), .int (25 : Int32), .ref lan, .int lpp, .int lcolumns, .int u_31])), (lan, .inl (cI, 1000, .inl i_36))] := hD.sub [1, 2] (by decide +kernel) rfl
          refine callVP (wr := [(ah, .inr (2, [.ref lah, .ref fah, .ref sah, .ref yah])), (fah, .inr (3, [.int (1 : Int32), .int (8 : Int32), .int (25 : Int32), .ref fan, .int fpp, .int fcolumns, .int fcount])), (fan, .inl (cI, 200, .inl fnum)), (sah, .inr (6, [.ref szah, .int x_28, .int x_27, .int x_25, .int x_26])), (szah, .inr (5, [.ref szan, .int x_29])), (szan, .inl (cI, 5, .inl x_30)), (yah, .inr (5, [.ref yan, .int ycount])), (yan, .inl (cI, 5, .inl yplaces))]) (ws2 := ((ah, .inr (2, [.ref lah, .ref fah, .ref sah, .ref yah])) :: ((wR cI lah lan 1000 (5 : Int32) (8 : Int32) (25 : Int32) lpp lcolumns u_31 u_44) ++ (wR cI fah fan 200 (1 : Int32) (8 : Int32) (25 : Int32) fpp fcolumns fcount fnum) ++ (wST cI sah szah szan x_28 x_27 x_25 x_26 x_29 x_30) ++ (wSH cI yah yan ycount yplaces)))) (gV (rest := []) ⟨hx, hb, hml, hown, hts⟩ hG hPc hDc 0 3 rfl rfl (mtX3_scale l D cI cB cR lah lan H.size 1000 (5 : Int32) (8 : Int32) (25 : Int32) lpp lcolumns u_31 i_36 i_35 r_41 u_44 hq_45) (cwV 2 hts gX2_toForm_X3_scale rfl rfl rfl ⟨rfl, hd_X3_scale⟩ ⟨Nat.le_of_ble_eq_true rfl, Nat.le_of_ble_eq_true rfl⟩) rfl hl.1 rfl (Nat.le_of_ble_eq_true rfl) dX2_toForm_108) hP hD hS hA [1, 2] [0, 3, 4, 5, 6, 7, 8, 9] [0, 8, 9, 1, 2, 3, 4, 5, 6, 7] rfl rfl (by decide +kernel) (by decide +kernel) rfl (by decide +kernel) (fun H locs hP hD hS => ?_)
          refine lv_iinc (v := (i_35 + 1)) (lv' := [(1, .int (i_35 + 1)), (0, .ref ah)]) hx hb dX2_toForm_111 hl (k := 1) rfl rfl (by decide) rfl (fun ls hl => ?_)
          refine lv_goto (tgt := 74) hx hb dX2_toForm_114 (by decide) ?_
          exact ih2 (i_35 + 1) u_44 (ht2 _ (Option.some.inj hr2).symm) H locs hP hD hS ls (lv_sub hl [1, 0] rfl)
    obtain ⟨n2, hn2⟩ := Lp_s hw2
    exact hL2 n2 (0 : Int32) u_32 hn2 H locs hP hD hS ls (lv_sub hl [1, 0] rfl)
  have hL1 : ∀ (n : Nat) (i_1 : Int32) (i_2 : Nat → Int32) (i_3 : Int32) (i_4 : Int32) (i_5 : Int32) (i_6 : Int32) (i_7 : Int32) (i_8 : Nat → Int32), lrun (fun (z : Int32 × (Nat → Int32) × Int32 × Int32 × Int32 × Int32 × Int32 × (Nat → Int32)) => fX2_toForm_s2 lpp lcolumns lcount z.1 z.2.1 z.2.2.1 z.2.2.2.1 z.2.2.2.2.1 z.2.2.2.2.2.1 z.2.2.2.2.2.2.1 z.2.2.2.2.2.2.2) n (i_1, i_2, i_3, i_4, i_5, i_6, i_7, i_8) = some w1 → ∀ (H : Heap) (locs : List Loc), va_P D cls9 ((ah, .inr (2, [.ref lah, .ref fah, .ref sah, .ref yah])) :: ((wR cI lah lan 1000 (5 : Int32) (8 : Int32) (25 : Int32) lpp lcolumns lcount i_2) ++ (wR cI fah fan 200 (1 : Int32) (8 : Int32) (25 : Int32) fpp fcolumns fcount fnum) ++ (wST cI sah szah szan i_6 i_5 i_3 i_4 i_7 i_8) ++ (wSH cI yah yan ycount yplaces))) H → va_D A ((ah, .inr (2, [.ref lah, .ref fah, .ref sah, .ref yah])) :: ((wR cI lah lan 1000 (5 : Int32) (8 : Int32) (25 : Int32) lpp lcolumns lcount i_2) ++ (wR cI fah fan 200 (1 : Int32) (8 : Int32) (25 : Int32) fpp fcolumns fcount fnum) ++ (wST cI sah szah szan i_6 i_5 i_3 i_4 i_7 i_8) ++ (wSH cI yah yan ycount yplaces))) → va_S A s.heap H locs → ∀ (ls : Array Slot), lv_has ls 2 [(0, .ref ah), (1, .int i_1)] → W p l e rm_X2_toForm s m args below meth c H locs 0 0 Q (F0 m 2 ls []) := by
    intro n
    induction n with
    | zero => intro i_1 i_2 i_3 i_4 i_5 i_6 i_7 i_8 h; cases h
    | succ n ih1 =>
      intro i_1 i_2 i_3 i_4 i_5 i_6 i_7 i_8 hr1 H locs hP hD hS ls hl
      obtain ⟨k, v1, hk, hr1, ht1, hv1⟩ := lrun_s hr1
      cases hk
      have hr1 : fX2_toForm_s2 lpp lcolumns lcount i_1 i_2 i_3 i_4 i_5 i_6 i_7 i_8 = some v1 := hr1
      unfold fX2_toForm_s2 at hr1
      refine lv_iload_n hx hb dX2_toForm_2 rfl (lv_at hl 1 rfl) ?_
      refine lv_sipush (v := 10000) hx hb dX2_toForm_3 (by decide) ?_
      refine lv_icmp_ge (tgt := 68) hx hb dX2_toForm_6 (by decide) (fun c_9 => ?_) (fun c_9 => ?_)
      · have hr1 := it_t c_9 hr1
        exact hX1 i_2 i_3 i_4 i_5 i_6 i_7 i_8 (hv1 _ (Option.some.inj hr1).symm).symm H locs hP hD hS ls (lv_sub hl [0] rfl)
      · have hr1 := it_f c_9 hr1
        refine lv_aload_n hx hb dX2_toForm_9 rfl (lv_at hl 0 rfl) ?_
        refine va_get (D := D) (ci := 2) (v := .ref sah) (C := RX2) (T := TX2) (N := 4) hx hb hts iX2_toForm_X2 hown hG.1 hP 0 rfl rfl 2 (by decide) (hts _ fX2_toForm_1) (fun _ h9 => h9) rfl dX2_toForm_10 ?_
        refine lv_aload_n hx hb dX2_toForm_13 rfl (lv_at hl 0 rfl) ?_
        refine va_get (D := D) (ci := 2) (v := .ref lah) (C := RX2) (T := TX2) (N := 4) hx hb hts iX2_toForm_X2 hown hG.1 hP 0 rfl rfl 0 (by decide) (hts _ fX2_toForm_2) (fun _ h9 => h9) rfl dX2_toForm_14 ?_
        obtain ⟨v_18, hq_17, hk⟩ := bd7_s hr1
        obtain ⟨r_10, u_11, u_12, u_13, u_14, u_15, u_16⟩ := v_18
        have hr1 := hk _ _ _ _ _ _ _ rfl
        have hPc : va_P D cls9 [(sah, .inr (6, [.ref szah, .int i_6, .int i_5, .int i_3, .int i_4])), (szah, .inr (5, [.ref szan, .int i_7])), (szan, .inl (cI, 5, .inl i_8)), (lah, .inr (3, [.int (5 : Int32), .int (8 : Int32), .int (25 : Int32), .ref lan, .int lpp, .int lcolumns, .int lcount])), (lan, .inl (cI, 1000, .inl i_2))] H := hPsub hP [5, 6, 7, 1, 2] rfl
        have hDc : va_D A [(sah, .inr (6, [.ref szah, .int i_6, .int i_5, .int i_3, .int i_4])), (szah, .inr (5, [.ref szan, .int i_7])), (szan, .inl (cI, 5, .inl i_8)), (lah, .inr (3, [.int (5 : Int32), .int (8 : Int32), .int (25 : Int32), .ref lan, .int lpp, .int lcolumns, .int lcount])), (lan, .inl (cI, 1000, .inl i_2))] := hD.sub [5, 6, 7, 1, 2] (by decide +kernel) rfl
        refine callZP (wr := [(ah, .inr (2, [.ref lah, .ref fah, .ref sah, .ref yah])), (fah, .inr (3, [.int (1 : Int32), .int (8 : Int32), .int (25 : Int32), .ref fan, .int fpp, .int fcolumns, .int fcount])), (fan, .inl (cI, 200, .inl fnum)), (yah, .inr (5, [.ref yan, .int ycount])), (yan, .inl (cI, 5, .inl yplaces))]) (ws2 := ((ah, .inr (2, [.ref lah, .ref fah, .ref sah, .ref yah])) :: ((wR cI lah lan 1000 (5 : Int32) (8 : Int32) (25 : Int32) lpp lcolumns lcount i_2) ++ (wR cI fah fan 200 (1 : Int32) (8 : Int32) (25 : Int32) fpp fcolumns fcount fnum) ++ (wST cI sah szah szan u_11 u_12 u_13 u_14 u_15 u_16) ++ (wSH cI yah yan ycount yplaces)))) (gV (rest := []) ⟨hx, hb, hml, hown, hts⟩ hG hPc hDc 0 6 rfl rfl (mtX6_find l D cI cB cR sah szah szan lah lan H.size i_6 i_5 i_3 i_4 i_7 i_8 1000 (5 : Int32) (8 : Int32) (25 : Int32) lpp lcolumns lcount i_2 (r_10, u_11, u_12, u_13, u_14, u_15, u_16) hq_17) (cwV 1 hts gX2_toForm_X6_find rfl rfl rfl ⟨rfl, hd_X6_find⟩ ⟨Nat.le_of_ble_eq_true rfl, Nat.le_of_ble_eq_true rfl⟩) rfl hl.1 rfl (Nat.le_of_ble_eq_true rfl) dX2_toForm_17) hP hD hS hA [5, 6, 7, 1, 2] [0, 3, 4, 8, 9] [0, 8, 9, 1, 2, 5, 6, 7, 3, 4] rfl rfl (by decide +kernel) (by decide +kernel) rfl (by decide +kernel) (fun H locs z_19 hP hD hS => ?_)
        refine lv_if_eq (tgt := 68) hx hb dX2_toForm_20 (by decide) (fun c_20 => ?_) (fun c_20 => ?_)
        · have hr1 := it_t c_20 hr1
          exact hX1 i_2 u_13 u_14 u_12 u_11 u_15 u_16 (hv1 _ (Option.some.inj hr1).symm).symm H locs hP hD hS ls (lv_sub hl [0] rfl)
        · have hr1 := it_f c_20 hr1
          refine lv_aload_n hx hb dX2_toForm_23 rfl (lv_at hl 0 rfl) ?_
          refine va_get (D := D) (ci := 2) (v := .ref lah) (C := RX2) (T := TX2) (N := 4) hx hb hts iX2_toForm_X2 hown hG.1 hP 0 rfl rfl 0 (by decide) (hts _ fX2_toForm_2) (fun _ h9 => h9) rfl dX2_toForm_24 ?_
          refine lv_aload_n hx hb dX2_toForm_27 rfl (lv_at hl 0 rfl) ?_
          refine va_get (D := D) (ci := 2) (v := .ref sah) (C := RX2) (T := TX2) (N := 4) hx hb hts iX2_toForm_X2 hown hG.1 hP 0 rfl rfl 2 (by decide) (hts _ fX2_toForm_1) (fun _ h9 => h9) rfl dX2_toForm_28 ?_
          refine va_get (D := D) (ci := 6) (v := .int u_11) (C := RX6) (T := TX6) (N := 5) hx hb hts iX2_toForm_X6 hown hG.1 hP 5 rfl rfl 1 (by decide) (hts _ fX2_toForm_4) (fun _ h9 => h9) rfl dX2_toForm_31 ?_
          refine lv_aload_n hx hb dX2_toForm_34 rfl (lv_at hl 0 rfl) ?_
          refine va_get (D := D) (ci := 2) (v := .ref lah) (C := RX2) (T := TX2) (N := 4) hx hb hts iX2_toForm_X2 hown hG.1 hP 0 rfl rfl 0 (by decide) (hts _ fX2_toForm_2) (fun _ h9 => h9) rfl dX2_toForm_35 ?_
          refine lv_aload_n hx hb dX2_toForm_38 rfl (lv_at hl 0 rfl) ?_
          refine va_get (D := D) (ci := 2) (v := .ref sah) (C := RX2) (T := TX2) (N := 4) hx hb hts iX2_toForm_X2 hown hG.1 hP 0 rfl rfl 2 (by decide) (hts _ fX2_toForm_1) (fun _ h9 => h9) rfl dX2_toForm_39 ?_
          refine va_get (D := D) (ci := 6) (v := .int u_12) (C := RX6) (T := TX6) (N := 5) hx hb hts iX2_toForm_X6 hown hG.1 hP 5 rfl rfl 2 (by decide) (hts _ fX2_toForm_5) (fun _ h9 => h9) rfl dX2_toForm_42 ?_
          refine lv_aload_n hx hb dX2_toForm_45 rfl (lv_at hl 0 rfl) ?_
          refine va_get (D := D) (ci := 2) (v := .ref sah) (C := RX2) (T := TX2) (N := 4) hx hb hts iX2_toForm_X2 hown hG.1 hP 0 rfl rfl 2 (by decide) (hts _ fX2_toForm_1) (fun _ h9 => h9) rfl dX2_toForm_46 ?_
          refine va_get (D := D) (ci := 6) (v := .int u_13) (C := RX6) (T := TX6) (N := 5) hx hb hts iX2_toForm_X6 hown hG.1 hP 5 rfl rfl 3 (by decide) (hts _ fX2_toForm_6) (fun _ h9 => h9) rfl dX2_toForm_49 ?_
          refine lv_aload_n hx hb dX2_toForm_52 rfl (lv_at hl 0 rfl) ?_
          refine va_get (D := D) (ci := 2) (v := .ref sah) (C := RX2) (T := TX2) (N := 4) hx hb hts iX2_toForm_X2 hown hG.1 hP 0 rfl rfl 2 (by decide) (hts _ fX2_toForm_1) (fun _ h9 => h9) rfl dX2_toForm_53 ?_
          refine va_get (D := D) (ci := 6) (v := .int u_14) (C := RX6) (T := TX6) (N := 5) hx hb hts iX2_toForm_X6 hown hG.1 hP 5 rfl rfl 4 (by decide) (hts _ fX2_toForm_7) (fun _ h9 => h9) rfl dX2_toForm_56 ?_
          obtain ⟨v_23, hq_22, hk⟩ := bd1_s hr1
          obtain ⟨u_21, rfl⟩ : ∃ y, y = v_23 := ⟨_, rfl⟩
          have hr1 := hk _ rfl
          have hPc : va_P D cls9 [(lah, .inr (3, [.int (5 : Int32), .int (8 : Int32), .int (25 : Int32), .ref lan, .int lpp, .int lcolumns, .int lcount])), (lan, .inl (cI, 1000, .inl i_2))] H := hPsub hP [1, 2] rfl
          have hDc : va_D A [(lah, .inr (3, [.int (5 : Int32), .int (8 : Int32), .int (25 : Int32), .ref lan, .int lpp, .int lcolumns, .int lcount])), (lan, .inl (cI, 1000, .inl i_2))] := hD.sub [1, 2] (by decide +kernel) rfl
          refine callVP (wr := [(ah, .inr (2, [.ref lah, .ref fah, .ref sah, .ref yah])), (fah, .inr (3, [.int (1 : Int32), .int (8 : Int32), .int (25 : Int32), .ref fan, .int fpp, .int fcolumns, .int fcount])), (fan, .inl (cI, 200, .inl fnum)), (sah, .inr (6, [.ref szah, .int u_11, .int u_12, .int u_13, .int u_14])), (szah, .inr (5, [.ref szan, .int u_15])), (szan, .inl (cI, 5, .inl u_16)), (yah, .inr (5, [.ref yan, .int ycount])), (yan, .inl (cI, 5, .inl yplaces))]) (ws2 := ((ah, .inr (2, [.ref lah, .ref fah, .ref sah, .ref yah])) :: ((wR cI lah lan 1000 (5 : Int32) (8 : Int32) (25 : Int32) lpp lcolumns lcount u_21) ++ (wR cI fah fan 200 (1 : Int32) (8 : Int32) (25 : Int32) fpp fcolumns fcount fnum) ++ (wST cI sah szah szan u_11 u_12 u_13 u_14 u_15 u_16) ++ (wSH cI yah yan ycount yplaces)))) (gV (rest := []) ⟨hx, hb, hml, hown, hts⟩ hG hPc hDc 0 3 rfl rfl (mtX3_addTimes_e0 l D cI cB cR lah lan H.size 1000 (5 : Int32) (8 : Int32) (25 : Int32) lpp lcolumns lcount i_2 u_11 u_12 u_13 u_14 u_21 hq_22) (cwV 5 hts gX2_toForm_X3_addTimes rfl rfl rfl ⟨rfl, hd_X3_addTimes⟩ ⟨Nat.le_of_ble_eq_true rfl, Nat.le_of_ble_eq_true rfl⟩) rfl hl.1 rfl (Nat.le_of_ble_eq_true rfl) dX2_toForm_59) hP hD hS hA [1, 2] [0, 3, 4, 5, 6, 7, 8, 9] [0, 8, 9, 1, 2, 3, 4, 5, 6, 7] rfl rfl (by decide +kernel) (by decide +kernel) rfl (by decide +kernel) (fun H locs hP hD hS => ?_)
          refine lv_iinc (v := (i_1 + 1)) (lv' := [(1, .int (i_1 + 1)), (0, .ref ah)]) hx hb dX2_toForm_62 hl (k := 1) rfl rfl (by decide) rfl (fun ls hl => ?_)
          refine lv_goto (tgt := 2) hx hb dX2_toForm_65 (by decide) ?_
          exact ih1 (i_1 + 1) u_21 u_13 u_14 u_12 u_11 u_15 u_16 (ht1 _ (Option.some.inj hr1).symm) H locs hP hD hS ls (lv_sub hl [1, 0] rfl)
  obtain ⟨n1, hn1⟩ := Lp_s hw1
  exact hL1 n1 (0 : Int32) lnum snumber spower ssource starget szcount szplaces hn1 H locs hP hD hS ls (lv_sub hl [1, 0] rfl)
abbrev rm_X2_buildFrom : Room := { frames := 6, cells := 0, slots := 0, locals := 144 }
theorem iX2_buildFrom_X2 : ∀ w ∈ wsX20, w ∈ wsX2_buildFrom := fun _ h => (List.mem_cons_of_mem _ (List.mem_append_left _ (List.mem_append_left _ (List.mem_append_left _ (List.mem_append_right _ h)))))
theorem fX2_buildFrom_1 : Cond.fieldLink RX2 14 "PopovRows$Popov" "list" "LPopovRows$Rows;" ∈ wsX2_buildFrom := (List.mem_cons_of_mem _ (List.mem_append_left _ (List.mem_append_left _ (List.mem_append_left _ (List.mem_append_left _ (List.mem_append_left _ (List.mem_of_getElem? (i := 0) rfl)))))))
theorem iX2_buildFrom_X3 : ∀ w ∈ wsX30, w ∈ wsX2_buildFrom := fun _ h => (List.mem_cons_of_mem _ (List.mem_append_left _ (List.mem_append_left _ (List.mem_append_right _ h))))
theorem fX2_buildFrom_3 : Cond.fieldLink RX2 37 "PopovRows$Rows" "p" "I" ∈ wsX2_buildFrom := (List.mem_cons_of_mem _ (List.mem_append_left _ (List.mem_append_left _ (List.mem_append_left _ (List.mem_append_left _ (List.mem_append_left _ (List.mem_of_getElem? (i := 1) rfl)))))))
theorem fX2_buildFrom_4 : Cond.fieldLink RX2 41 "PopovRows$Rows" "columns" "I" ∈ wsX2_buildFrom := (List.mem_cons_of_mem _ (List.mem_append_left _ (List.mem_append_left _ (List.mem_append_left _ (List.mem_append_left _ (List.mem_append_left _ (List.mem_of_getElem? (i := 2) rfl)))))))
theorem fX2_buildFrom_5 : Cond.fieldLink RX2 48 "PopovRows$Rows" "count" "I" ∈ wsX2_buildFrom := (List.mem_cons_of_mem _ (List.mem_append_left _ (List.mem_append_left _ (List.mem_append_left _ (List.mem_append_left _ (List.mem_append_left _ (List.mem_of_getElem? (i := 3) rfl)))))))
theorem fX2_buildFrom_6 : Cond.initialized RX7 ∈ wsX2_buildFrom := (List.mem_cons_of_mem _ (List.mem_append_left _ (List.mem_append_left _ (List.mem_append_left _ (List.mem_append_left _ (List.mem_append_left _ (List.mem_of_getElem? (i := 13) rfl)))))))
theorem fX2_buildFrom_7 : Cond.static yX7_isInSet ∈ wsX2_buildFrom := (List.mem_cons_of_mem _ (List.mem_append_left _ (List.mem_append_left _ (List.mem_append_left _ (List.mem_append_left _ (List.mem_append_left _ (List.mem_of_getElem? (i := 12) rfl)))))))
set_option maxHeartbeats 4000000 in
set_option maxRecDepth 100000 in
theorem mtX2_buildFrom (l : Launch) (D : va_G) (cI cB cR : ClassId) (ah : Nat) (lah : Nat) (lan : Nat) (fah : Nat) (fan : Nat) (sah : Nat) (szah : Nat) (szan : Nat) (yah : Nat) (yan : Nat) (qah : Nat) (qan : Nat) (sz : Nat) (lpp : Int32) (lcolumns : Int32) (lcount : Int32) (lnum : Nat → Int32) (fpp : Int32) (fcolumns : Int32) (fcount : Int32) (fnum : Nat → Int32) (starget : Int32) (ssource : Int32) (snumber : Int32) (spower : Int32) (szcount : Int32) (szplaces : Nat → Int32) (ycount : Int32) (yplaces : Nat → Int32) (qL : Nat) (qroom : Int32) (qwidth : Int32) (qpowers : Int32) (qpp : Int32) (qcolumns : Int32) (qcount : Int32) (qnum : Nat → Int32) (a1 : Int32) (res : Int32 × Int32 × Int32 × (Nat → Int32) × Int32 × Int32 × Int32 × Int32 × Int32 × (Nat → Int32) × Int32 × (Nat → Int32)) (hf : fX2_buildFrom lnum starget ssource snumber spower szcount szplaces ycount yplaces qL qroom qwidth qpowers qpp qcolumns qcount qnum a1 = some res) : Met l yX2_buildFrom wsX2_buildFrom rm_X2_buildFrom (qP D cI cB cR [.ref ah, .ref qah, .int a1] (((ah, .inr (2, [.ref lah, .ref fah, .ref sah, .ref yah])) :: ((wR cI lah lan 1000 (5 : Int32) (8 : Int32) (25 : Int32) lpp lcolumns lcount lnum) ++ (wR cI fah fan 200 (1 : Int32) (8 : Int32) (25 : Int32) fpp fcolumns fcount fnum) ++ (wST cI sah szah szan starget ssource snumber spower szcount szplaces) ++ (wSH cI yah yan ycount yplaces))) ++ (wR cI qah qan qL qroom qwidth qpowers qpp qcolumns qcount qnum)) sz) (qV D (((ah, .inr (2, [.ref lah, .ref fah, .ref sah, .ref yah])) :: ((wR cI lah lan 1000 (5 : Int32) (8 : Int32) (25 : Int32) lpp lcolumns lcount lnum) ++ (wR cI fah fan 200 (1 : Int32) (8 : Int32) (25 : Int32) fpp fcolumns fcount fnum) ++ (wST cI sah szah szan starget ssource snumber spower szcount szplaces) ++ (wSH cI yah yan ycount yplaces))) ++ (wR cI qah qan qL qroom qwidth qpowers qpp qcolumns qcount qnum)) (((ah, .inr (2, [.ref lah, .ref fah, .ref sah, .ref yah])) :: ((wR cI lah lan 1000 (5 : Int32) (8 : Int32) (25 : Int32) res.1 res.2.1 res.2.2.1 res.2.2.2.1) ++ (wR cI fah fan 200 (1 : Int32) (8 : Int32) (25 : Int32) fpp fcolumns fcount fnum) ++ (wST cI sah szah szan res.2.2.2.2.1 res.2.2.2.2.2.1 res.2.2.2.2.2.2.1 res.2.2.2.2.2.2.2.1 res.2.2.2.2.2.2.2.2.1 res.2.2.2.2.2.2.2.2.2.1) ++ (wSH cI yah yan res.2.2.2.2.2.2.2.2.2.2.1 res.2.2.2.2.2.2.2.2.2.2.2))) ++ (wR cI qah qan qL qroom qwidth qpowers qpp qcolumns qcount qnum)) sz) 0 0 (va_A (((ah, .inr (2, [.ref lah, .ref fah, .ref sah, .ref yah])) :: ((wR cI lah lan 1000 (5 : Int32) (8 : Int32) (25 : Int32) lpp lcolumns lcount lnum) ++ (wR cI fah fan 200 (1 : Int32) (8 : Int32) (25 : Int32) fpp fcolumns fcount fnum) ++ (wST cI sah szah szan starget ssource snumber spower szcount szplaces) ++ (wSH cI yah yan ycount yplaces))) ++ (wR cI qah qan qL qroom qwidth qpowers qpp qcolumns qcount qnum)) sz) := by
  refine entV (plainFor_of_name (by decide)) rfl (Nat.le_of_ble_eq_true rfl) ?_
  intro p e s m args below meth c Q A ls S hG hP hD hA hl hE
  obtain ⟨hx, hb, hml, hown, hts⟩ := S
  have hown : s.vm.findClass RX2 = some m.cls := hown
  have hS : va_S A s.heap s.heap [] := va_S.rf
  have hl : lv_has ls 5 [(0, .ref ah), (1, .ref qah), (2, .int a1)] := hl
  have hq := hf
  unfold fX2_buildFrom at hq
  obtain ⟨H, hH⟩ : ∃ H, H = s.heap := ⟨_, rfl⟩
  obtain ⟨locs, hlo⟩ : ∃ L : List Loc, L = [] := ⟨_, rfl⟩
  have hP : va_P D cls9 (((ah, .inr (2, [.ref lah, .ref fah, .ref sah, .ref yah])) :: ((wR cI lah lan 1000 (5 : Int32) (8 : Int32) (25 : Int32) lpp lcolumns lcount lnum) ++ (wR cI fah fan 200 (1 : Int32) (8 : Int32) (25 : Int32) fpp fcolumns fcount fnum) ++ (wST cI sah szah szan starget ssource snumber spower szcount szplaces) ++ (wSH cI yah yan ycount yplaces))) ++ (wR cI qah qan qL qroom qwidth qpowers qpp qcolumns qcount qnum)) H := hH ▸ hP
  have hS : va_S A s.heap H locs := by rw [hH, hlo]; exact hS
  suffices hg : W p l e rm_X2_buildFrom s m args below meth c H locs 0 0 Q (F0 m 0 ls []) by rw [hH, hlo] at hg; exact hg
  refine lv_aload_n hx hb dX2_buildFrom_0 rfl (lv_at hl 0 rfl) ?_
  refine va_get (D := D) (ci := 2) (v := .ref lah) (C := RX2) (T := TX2) (N := 4) hx hb hts iX2_buildFrom_X2 hown hG.1 hP 0 rfl rfl 0 (by decide) (hts _ fX2_buildFrom_1) (fun _ h9 => h9) rfl dX2_buildFrom_1 ?_
  refine lv_aload_n hx hb dX2_buildFrom_4 rfl (lv_at hl 1 rfl) ?_
  refine va_get (D := D) (ci := 3) (v := .int qpp) (C := RX3) (T := TX3) (N := 7) hx hb hts iX2_buildFrom_X3 hown hG.1 hP 10 rfl rfl 4 (by decide) (hts _ fX2_buildFrom_3) (fun _ h9 => h9) rfl dX2_buildFrom_5 ?_
  refine lv_aload_n hx hb dX2_buildFrom_8 rfl (lv_at hl 1 rfl) ?_
  refine va_get (D := D) (ci := 3) (v := .int qcolumns) (C := RX3) (T := TX3) (N := 7) hx hb hts iX2_buildFrom_X3 hown hG.1 hP 10 rfl rfl 5 (by decide) (hts _ fX2_buildFrom_4) (fun _ h9 => h9) rfl dX2_buildFrom_9 ?_
  obtain ⟨v_5, hq_4, hk⟩ := bd3_s hq
  obtain ⟨u_1, u_2, u_3⟩ := v_5
  have hq := hk _ _ _ rfl
  have hPc : va_P D cls9 [(lah, .inr (3, [.int (5 : Int32), .int (8 : Int32), .int (25 : Int32), .ref lan, .int lpp, .int lcolumns, .int lcount])), (lan, .inl (cI, 1000, .inl lnum))] H := hPsub hP [1, 2] rfl
  have hDc : va_D A [(lah, .inr (3, [.int (5 : Int32), .int (8 : Int32), .int (25 : Int32), .ref lan, .int lpp, .int lcolumns, .int lcount])), (lan, .inl (cI, 1000, .inl lnum))] := hD.sub [1, 2] (by decide +kernel) rfl
  refine callVP (wr := [(ah, .inr (2, [.ref lah, .ref fah, .ref sah, .ref yah])), (fah, .inr (3, [.int (1 : Int32), .int (8 : Int32), .int (25 : Int32), .ref fan, .int fpp, .int fcolumns, .int fcount])), (fan, .inl (cI, 200, .inl fnum)), (sah, .inr (6, [.ref szah, .int starget, .int ssource, .int snumber, .int spower])), (szah, .inr (5, [.ref szan, .int szcount])), (szan, .inl (cI, 5, .inl szplaces)), (yah, .inr (5, [.ref yan, .int ycount])), (yan, .inl (cI, 5, .inl yplaces)), (qah, .inr (3, [.int qroom, .int qwidth, .int qpowers, .ref qan, .int qpp, .int qcolumns, .int qcount])), (qan, .inl (cI, qL, .inl qnum))]) (ws2 := (((ah, .inr (2, [.ref lah, .ref fah, .ref sah, .ref yah])) :: ((wR cI lah lan 1000 (5 : Int32) (8 : Int32) (25 : Int32) u_1 u_2 u_3 lnum) ++ (wR cI fah fan 200 (1 : Int32) (8 : Int32) (25 : Int32) fpp fcolumns fcount fnum) ++ (wST cI sah szah szan starget ssource snumber spower szcount szplaces) ++ (wSH cI yah yan ycount yplaces))) ++ (wR cI qah qan qL qroom qwidth qpowers qpp qcolumns qcount qnum))) (gV (rest := []) ⟨hx, hb, hml, hown, hts⟩ hG hPc hDc 0 3 rfl rfl (mtX3_reset l D cI cB cR lah lan H.size 1000 (5 : Int32) (8 : Int32) (25 : Int32) lpp lcolumns lcount lnum qpp qcolumns (u_1, u_2, u_3) hq_4) (cwV 2 hts gX2_buildFrom_X3_reset rfl rfl rfl ⟨rfl, hd_X3_reset⟩ ⟨Nat.le_of_ble_eq_true rfl, Nat.le_of_ble_eq_true rfl⟩) rfl hl.1 rfl (Nat.le_of_ble_eq_true rfl) dX2_buildFrom_12) hP hD hS hA [1, 2] [0, 3, 4, 5, 6, 7, 8, 9, 10, 11] [0, 10, 11, 1, 2, 3, 4, 5, 6, 7, 8, 9] rfl rfl (by decide +kernel) (by decide +kernel) (mgN [none, some 0, some 1, none, none, none, none, none, none, none, none, none] 10 rfl (by decide +kernel) rfl) (by decide +kernel) (fun H locs hP hD hS => ?_)
  refine lv_iconst (v := 0) hx hb dX2_buildFrom_15 (by decide) ?_
  refine lv_istore_n (lv' := [(3, .int (0 : Int32)), (0, .ref ah), (1, .ref qah), (2, .int a1)]) hx hb dX2_buildFrom_16 rfl hl (by decide) rfl (fun ls hl => ?_)
  obtain ⟨w1, hw1, hk1⟩ := bd2_s hq
  have hX1 : ∀ (x_23 : Int32) (x_24 : Nat → Int32), w1 = (x_23, x_24) → ∀ (H : Heap) (locs : List Loc), va_P D cls9 (((ah, .inr (2, [.ref lah, .ref fah, .ref sah, .ref yah])) :: ((wR cI lah lan 1000 (5 : Int32) (8 : Int32) (25 : Int32) u_1 u_2 x_23 x_24) ++ (wR cI fah fan 200 (1 : Int32) (8 : Int32) (25 : Int32) fpp fcolumns fcount fnum) ++ (wST cI sah szah szan starget ssource snumber spower szcount szplaces) ++ (wSH cI yah yan ycount yplaces))) ++ (wR cI qah qan qL qroom qwidth qpowers qpp qcolumns qcount qnum)) H → va_D A (((ah, .inr (2, [.ref lah, .ref fah, .ref sah, .ref yah])) :: ((wR cI lah lan 1000 (5 : Int32) (8 : Int32) (25 : Int32) u_1 u_2 x_23 x_24) ++ (wR cI fah fan 200 (1 : Int32) (8 : Int32) (25 : Int32) fpp fcolumns fcount fnum) ++ (wST cI sah szah szan starget ssource snumber spower szcount szplaces) ++ (wSH cI yah yan ycount yplaces))) ++ (wR cI qah qan qL qroom qwidth qpowers qpp qcolumns qcount qnum)) → va_S A s.heap H locs → ∀ (ls : Array Slot), lv_has ls 5 [(0, .ref ah)] → W p l e rm_X2_buildFrom s m args below meth c H locs 0 0 Q (F0 m 75 ls []) := by
    intro x_23 x_24 hq H locs hP hD hS ls hl
    have hq := hk1 _ _ hq
    refine lv_aload_n hx hb dX2_buildFrom_75 rfl (lv_at hl 0 rfl) ?_
    obtain ⟨v_36, hq_35, hk⟩ := bd10_s hq
    obtain ⟨u_25, u_26, u_27, u_28, u_29, u_30, u_31, u_32, u_33, u_34⟩ := v_36
    have hq := hk _ _ _ _ _ _ _ _ _ _ rfl
    have hPc : va_P D cls9 [(ah, .inr (2, [.ref lah, .ref fah, .ref sah, .ref yah])), (lah, .inr (3, [.int (5 : Int32), .int (8 : Int32), .int (25 : Int32), .ref lan, .int u_1, .int u_2, .int x_23])), (lan, .inl (cI, 1000, .inl x_24)), (fah, .inr (3, [.int (1 : Int32), .int (8 : Int32), .int (25 : Int32), .ref fan, .int fpp, .int fcolumns, .int fcount])), (fan, .inl (cI, 200, .inl fnum)), (sah, .inr (6, [.ref szah, .int starget, .int ssource, .int snumber, .int spower])), (szah, .inr (5, [.ref szan, .int szcount])), (szan, .inl (cI, 5, .inl szplaces)), (yah, .inr (5, [.ref yan, .int ycount])), (yan, .inl (cI, 5, .inl yplaces))] H := hPsub hP [0, 1, 2, 3, 4, 5, 6, 7, 8, 9] rfl
    have hDc : va_D A [(ah, .inr (2, [.ref lah, .ref fah, .ref sah, .ref yah])), (lah, .inr (3, [.int (5 : Int32), .int (8 : Int32), .int (25 : Int32), .ref lan, .int u_1, .int u_2, .int x_23])), (lan, .inl (cI, 1000, .inl x_24)), (fah, .inr (3, [.int (1 : Int32), .int (8 : Int32), .int (25 : Int32), .ref fan, .int fpp, .int fcolumns, .int fcount])), (fan, .inl (cI, 200, .inl fnum)), (sah, .inr (6, [.ref szah, .int starget, .int ssource, .int snumber, .int spower])), (szah, .inr (5, [.ref szan, .int szcount])), (szan, .inl (cI, 5, .inl szplaces)), (yah, .inr (5, [.ref yan, .int ycount])), (yan, .inl (cI, 5, .inl yplaces))] := hD.sub [0, 1, 2, 3, 4, 5, 6, 7, 8, 9] (by decide +kernel) rfl
    refine callVP (wr := [(qah, .inr (3, [.int qroom, .int qwidth, .int qpowers, .ref qan, .int qpp, .int qcolumns, .int qcount])), (qan, .inl (cI, qL, .inl qnum))]) (ws2 := (((ah, .inr (2, [.ref lah, .ref fah, .ref sah, .ref yah])) :: ((wR cI lah lan 1000 (5 : Int32) (8 : Int32) (25 : Int32) u_1 u_2 u_25 u_26) ++ (wR cI fah fan 200 (1 : Int32) (8 : Int32) (25 : Int32) fpp fcolumns fcount fnum) ++ (wST cI sah szah szan u_27 u_28 u_29 u_30 u_31 u_32) ++ (wSH cI yah yan u_33 u_34))) ++ (wR cI qah qan qL qroom qwidth qpowers qpp qcolumns qcount qnum))) (gV (rest := []) ⟨hx, hb, hml, hown, hts⟩ hG hPc hDc 0 2 rfl rfl (mtX2_toForm l D cI cB cR ah lah lan fah fan sah szah szan yah yan H.size u_1 u_2 x_23 x_24 fpp fcolumns fcount fnum starget ssource snumber spower szcount szplaces ycount yplaces (u_25, u_26, u_27, u_28, u_29, u_30, u_31, u_32, u_33, u_34) hq_35) (cwV 0 hts gX2_buildFrom_X2_toForm rfl rfl rfl ⟨rfl, hd_X2_toForm⟩ ⟨Nat.le_of_ble_eq_true rfl, Nat.le_of_ble_eq_true rfl⟩) rfl hl.1 rfl (Nat.le_of_ble_eq_true rfl) dX2_buildFrom_76) hP hD hS hA [0, 1, 2, 3, 4, 5, 6, 7, 8, 9] [10, 11] [2, 3, 4, 5, 6, 7, 8, 9, 10, 11, 0, 1] rfl rfl (by decide +kernel) (by decide +kernel) (mgN [some 0, some 1, some 2, some 3, some 4, some 5, some 6, some 7, some 8, some 9, none, none] 2 rfl (by decide +kernel) rfl) (by decide +kernel) (fun H locs hP hD hS => ?_)
    have he := Option.some.inj hq
    subst he
    exact hE H locs _ _ dX2_buildFrom_79 hP hD hS
  have hL1 : ∀ (n : Nat) (i_6 : Int32) (i_7 : Int32) (i_8 : Nat → Int32), lrun (fun (z : Int32 × Int32 × (Nat → Int32)) => fX2_buildFrom_s17 qL qroom qwidth qpowers qcount qnum a1 u_1 z.1 z.2.1 z.2.2) n (i_6, i_7, i_8) = some w1 → ∀ (H : Heap) (locs : List Loc), va_P D cls9 (((ah, .inr (2, [.ref lah, .ref fah, .ref sah, .ref yah])) :: ((wR cI lah lan 1000 (5 : Int32) (8 : Int32) (25 : Int32) u_1 u_2 i_7 i_8) ++ (wR cI fah fan 200 (1 : Int32) (8 : Int32) (25 : Int32) fpp fcolumns fcount fnum) ++ (wST cI sah szah szan starget ssource snumber spower szcount szplaces) ++ (wSH cI yah yan ycount yplaces))) ++ (wR cI qah qan qL qroom qwidth qpowers qpp qcolumns qcount qnum)) H → va_D A (((ah, .inr (2, [.ref lah, .ref fah, .ref sah, .ref yah])) :: ((wR cI lah lan 1000 (5 : Int32) (8 : Int32) (25 : Int32) u_1 u_2 i_7 i_8) ++ (wR cI fah fan 200 (1 : Int32) (8 : Int32) (25 : Int32) fpp fcolumns fcount fnum) ++ (wST cI sah szah szan starget ssource snumber spower szcount szplaces) ++ (wSH cI yah yan ycount yplaces))) ++ (wR cI qah qan qL qroom qwidth qpowers qpp qcolumns qcount qnum)) → va_S A s.heap H locs → ∀ (ls : Array Slot), lv_has ls 5 [(0, .ref ah), (1, .ref qah), (2, .int a1), (3, .int i_6)] → W p l e rm_X2_buildFrom s m args below meth c H locs 0 0 Q (F0 m 17 ls []) := by
    intro n
    induction n with
    | zero => intro i_6 i_7 i_8 h; cases h
    | succ n ih1 =>
      intro i_6 i_7 i_8 hr1 H locs hP hD hS ls hl
      obtain ⟨k, v1, hk, hr1, ht1, hv1⟩ := lrun_s hr1
      cases hk
      have hr1 : fX2_buildFrom_s17 qL qroom qwidth qpowers qcount qnum a1 u_1 i_6 i_7 i_8 = some v1 := hr1
      unfold fX2_buildFrom_s17 at hr1
      refine lv_iload_n hx hb dX2_buildFrom_17 rfl (lv_at hl 3 rfl) ?_
      refine lv_aload_n hx hb dX2_buildFrom_18 rfl (lv_at hl 1 rfl) ?_
      refine va_get (D := D) (ci := 3) (v := .int qcount) (C := RX3) (T := TX3) (N := 7) hx hb hts iX2_buildFrom_X3 hown hG.1 hP 10 rfl rfl 6 (by decide) (hts _ fX2_buildFrom_5) (fun _ h9 => h9) rfl dX2_buildFrom_19 ?_
      refine lv_icmp_ge (tgt := 75) hx hb dX2_buildFrom_22 (by decide) (fun c_9 => ?_) (fun c_9 => ?_)
      · have hr1 := it_t c_9 hr1
        exact hX1 i_7 i_8 (hv1 _ (Option.some.inj hr1).symm).symm H locs hP hD hS ls (lv_sub hl [0] rfl)
      · have hr1 := it_f c_9 hr1
        refine lv_iload_n hx hb dX2_buildFrom_25 rfl (lv_at hl 3 rfl) ?_
        refine lv_iload_n hx hb dX2_buildFrom_26 rfl (lv_at hl 2 rfl) ?_
        refine callZ0 (gSN (rest := []) ⟨hx, hb, hml, hown, hts⟩ hG vaP0 (vaD0 (A := A)) (mtX7_isInSet l D cI cB cR H.size i_6 a1 _ rfl) (va_cnB (host := "PopovRows") 2 hts gX2_buildFrom_X7_isInSet_n51 rfl rfl rfl (hG.2 _ nl_15) (hts _ fX2_buildFrom_6) hd_X7_isInSet ⟨Nat.le_of_ble_eq_true rfl, Nat.le_of_ble_eq_true rfl⟩) (hts _ fX2_buildFrom_7) rfl hl.1 rfl (Nat.le_of_ble_eq_true rfl) dX2_buildFrom_27) hP hS hA (fun H locs z_10 hP hS => ?_)
        refine lv_if_eq (tgt := 69) hx hb dX2_buildFrom_30 (by decide) (fun c_11 => ?_) (fun c_11 => ?_)
        · have hr1 := it_t c_11 hr1
          refine lv_iinc (v := (i_6 + 1)) (lv' := [(3, .int (i_6 + 1)), (0, .ref ah), (1, .ref qah), (2, .int a1)]) hx hb dX2_buildFrom_69 hl (k := 3) rfl rfl (by decide) rfl (fun ls hl => ?_)
          refine lv_goto (tgt := 17) hx hb dX2_buildFrom_72 (by decide) ?_
          exact ih1 (i_6 + 1) i_7 i_8 (ht1 _ (Option.some.inj hr1).symm) H locs hP hD hS ls (lv_sub hl [1, 2, 3, 0] rfl)
        · have hr1 := it_f c_11 hr1
          refine lv_aload_n hx hb dX2_buildFrom_33 rfl (lv_at hl 0 rfl) ?_
          refine va_get (D := D) (ci := 2) (v := .ref lah) (C := RX2) (T := TX2) (N := 4) hx hb hts iX2_buildFrom_X2 hown hG.1 hP 0 rfl rfl 0 (by decide) (hts _ fX2_buildFrom_1) (fun _ h9 => h9) rfl dX2_buildFrom_34 ?_
          obtain ⟨v_16, hq_15, hk⟩ := bd3_s hr1
          obtain ⟨r_12, u_13, u_14⟩ := v_16
          have hr1 := hk _ _ _ rfl
          have hPc : va_P D cls9 [(lah, .inr (3, [.int (5 : Int32), .int (8 : Int32), .int (25 : Int32), .ref lan, .int u_1, .int u_2, .int i_7])), (lan, .inl (cI, 1000, .inl i_8))] H := hPsub hP [1, 2] rfl
          have hDc : va_D A [(lah, .inr (3, [.int (5 : Int32), .int (8 : Int32), .int (25 : Int32), .ref lan, .int u_1, .int u_2, .int i_7])), (lan, .inl (cI, 1000, .inl i_8))] := hD.sub [1, 2] (by decide +kernel) rfl
          refine callIP (wr := [(ah, .inr (2, [.ref lah, .ref fah, .ref sah, .ref yah])), (fah, .inr (3, [.int (1 : Int32), .int (8 : Int32), .int (25 : Int32), .ref fan, .int fpp, .int fcolumns, .int fcount])), (fan, .inl (cI, 200, .inl fnum)), (sah, .inr (6, [.ref szah, .int starget, .int ssource, .int snumber, .int spower])), (szah, .inr (5, [.ref szan, .int szcount])), (szan, .inl (cI, 5, .inl szplaces)), (yah, .inr (5, [.ref yan, .int ycount])), (yan, .inl (cI, 5, .inl yplaces)), (qah, .inr (3, [.int qroom, .int qwidth, .int qpowers, .ref qan, .int qpp, .int qcolumns, .int qcount])), (qan, .inl (cI, qL, .inl qnum))]) (ws2 := (((ah, .inr (2, [.ref lah, .ref fah, .ref sah, .ref yah])) :: ((wR cI lah lan 1000 (5 : Int32) (8 : Int32) (25 : Int32) u_1 u_2 u_13 u_14) ++ (wR cI fah fan 200 (1 : Int32) (8 : Int32) (25 : Int32) fpp fcolumns fcount fnum) ++ (wST cI sah szah szan starget ssource snumber spower szcount szplaces) ++ (wSH cI yah yan ycount yplaces))) ++ (wR cI qah qan qL qroom qwidth qpowers qpp qcolumns qcount qnum))) (gV (rest := []) ⟨hx, hb, hml, hown, hts⟩ hG hPc hDc 0 3 rfl rfl (mtX3_append l D cI cB cR lah lan H.size 1000 (5 : Int32) (8 : Int32) (25 : Int32) u_1 u_2 i_7 i_8 (r_12, u_13, u_14) hq_15) (cwV 0 hts gX2_buildFrom_X3_append rfl rfl rfl ⟨rfl, hd_X3_append⟩ ⟨Nat.le_of_ble_eq_true rfl, Nat.le_of_ble_eq_true rfl⟩) rfl hl.1 rfl (Nat.le_of_ble_eq_true rfl) dX2_buildFrom_37) hP hD hS hA [1, 2] [0, 3, 4, 5, 6, 7, 8, 9, 10, 11] [0, 10, 11, 1, 2, 3, 4, 5, 6, 7, 8, 9] rfl rfl (by decide +kernel) (by decide +kernel) (mgN [none, some 0, some 1, none, none, none, none, none, none, none, none, none] 10 rfl (by decide +kernel) rfl) (by decide +kernel) (fun H locs hP hD hS => ?_)
          refine lv_istore (lv' := [(4, .int r_12), (0, .ref ah), (1, .ref qah), (2, .int a1), (3, .int i_6)]) hx hb dX2_buildFrom_40 hl (by decide) rfl (fun ls hl => ?_)
          refine lv_aload_n hx hb dX2_buildFrom_42 rfl (lv_at hl 1 rfl) ?_
          refine va_get (D := D) (ci := 2) (v := .ref lah) (C := RX2) (T := TX2) (N := 4) hx hb hts iX2_buildFrom_X2 hown hG.1 hP 0 rfl rfl 0 (by decide) (hts _ fX2_buildFrom_1) (fun _ h9 => h9) rfl dX2_buildFrom_43 ?_
          refine lv_iload hx hb dX2_buildFrom_46 (lv_at hl 0 rfl) ?_
          refine lv_aload_n hx hb dX2_buildFrom_48 rfl (lv_at hl 2 rfl) ?_
          refine lv_iload_n hx hb dX2_buildFrom_49 rfl (lv_at hl 4 rfl) ?_
          refine lv_iconst (v := 1) hx hb dX2_buildFrom_50 (by decide) ?_
          refine lv_iconst (v := 0) hx hb dX2_buildFrom_51 (by decide) ?_
          obtain ⟨v_19, hq_18, hk⟩ := bd1_s hr1
          obtain ⟨u_17, rfl⟩ : ∃ y, y = v_19 := ⟨_, rfl⟩
          have hr1 := hk _ rfl
          have hPc : va_P D cls9 [(lah, .inr (3, [.int (5 : Int32), .int (8 : Int32), .int (25 : Int32), .ref lan, .int u_1, .int u_2, .int u_13])), (lan, .inl (cI, 1000, .inl u_14)), (qah, .inr (3, [.int qroom, .int qwidth, .int qpowers, .ref qan, .int qpp, .int qcolumns, .int qcount])), (qan, .inl (cI, qL, .inl qnum))] H := hPsub hP [1, 2, 10, 11] rfl
          have hDc : va_D A [(lah, .inr (3, [.int (5 : Int32), .int (8 : Int32), .int (25 : Int32), .ref lan, .int u_1, .int u_2, .int u_13])), (lan, .inl (cI, 1000, .inl u_14)), (qah, .inr (3, [.int qroom, .int qwidth, .int qpowers, .ref qan, .int qpp, .int qcolumns, .int qcount])), (qan, .inl (cI, qL, .inl qnum))] := hD.sub [1, 2, 10, 11] (by decide +kernel) rfl
          refine callVP (wr := [(ah, .inr (2, [.ref lah, .ref fah, .ref sah, .ref yah])), (fah, .inr (3, [.int (1 : Int32), .int (8 : Int32), .int (25 : Int32), .ref fan, .int fpp, .int fcolumns, .int fcount])), (fan, .inl (cI, 200, .inl fnum)), (sah, .inr (6, [.ref szah, .int starget, .int ssource, .int snumber, .int spower])), (szah, .inr (5, [.ref szan, .int szcount])), (szan, .inl (cI, 5, .inl szplaces)), (yah, .inr (5, [.ref yan, .int ycount])), (yan, .inl (cI, 5, .inl yplaces))]) (ws2 := (((ah, .inr (2, [.ref lah, .ref fah, .ref sah, .ref yah])) :: ((wR cI lah lan 1000 (5 : Int32) (8 : Int32) (25 : Int32) u_1 u_2 u_13 u_17) ++ (wR cI fah fan 200 (1 : Int32) (8 : Int32) (25 : Int32) fpp fcolumns fcount fnum) ++ (wST cI sah szah szan starget ssource snumber spower szcount szplaces) ++ (wSH cI yah yan ycount yplaces))) ++ (wR cI qah qan qL qroom qwidth qpowers qpp qcolumns qcount qnum))) (gV (rest := []) ⟨hx, hb, hml, hown, hts⟩ hG hPc hDc 0 3 rfl rfl (mtX3_addTimes l D cI cB cR lah lan qah qan H.size 1000 (5 : Int32) (8 : Int32) (25 : Int32) u_1 u_2 u_13 u_14 qL qroom qwidth qpowers qpp qcolumns qcount qnum r_12 i_6 (1 : Int32) (0 : Int32) u_17 hq_18) (cwV 5 hts gX2_buildFrom_X3_addTimes rfl rfl rfl ⟨rfl, hd_X3_addTimes⟩ ⟨Nat.le_of_ble_eq_true rfl, Nat.le_of_ble_eq_true rfl⟩) rfl hl.1 rfl (Nat.le_of_ble_eq_true rfl) dX2_buildFrom_52) hP hD hS hA [1, 2, 10, 11] [0, 3, 4, 5, 6, 7, 8, 9] [0, 8, 9, 1, 2, 3, 4, 5, 6, 7, 10, 11] rfl rfl (by decide +kernel) (by decide +kernel) (mgN [none, some 0, some 1, none, none, none, none, none, none, none, some 2, some 3] 8 rfl (by decide +kernel) rfl) (by decide +kernel) (fun H locs hP hD hS => ?_)
          refine lv_aload_n hx hb dX2_buildFrom_55 rfl (lv_at hl 1 rfl) ?_
          refine va_get (D := D) (ci := 2) (v := .ref lah) (C := RX2) (T := TX2) (N := 4) hx hb hts iX2_buildFrom_X2 hown hG.1 hP 0 rfl rfl 0 (by decide) (hts _ fX2_buildFrom_1) (fun _ h9 => h9) rfl dX2_buildFrom_56 ?_
          refine lv_iload hx hb dX2_buildFrom_59 (lv_at hl 0 rfl) ?_
          refine lv_iconst (v := 3) hx hb dX2_buildFrom_61 (by decide) ?_
          refine lv_iload_n hx hb dX2_buildFrom_62 rfl (lv_at hl 4 rfl) ?_
          refine lv_iadd hx hb dX2_buildFrom_63 ?_
          refine lv_iconst (v := 0) hx hb dX2_buildFrom_64 (by decide) ?_
          refine lv_iconst (v := 1) hx hb dX2_buildFrom_65 (by decide) ?_
          obtain ⟨v_22, hq_21, hk⟩ := bd1_s hr1
          obtain ⟨u_20, rfl⟩ : ∃ y, y = v_22 := ⟨_, rfl⟩
          have hr1 := hk _ rfl
          have hPc : va_P D cls9 [(lah, .inr (3, [.int (5 : Int32), .int (8 : Int32), .int (25 : Int32), .ref lan, .int u_1, .int u_2, .int u_13])), (lan, .inl (cI, 1000, .inl u_17))] H := hPsub hP [1, 2] rfl
          have hDc : va_D A [(lah, .inr (3, [.int (5 : Int32), .int (8 : Int32), .int (25 : Int32), .ref lan, .int u_1, .int u_2, .int u_13])), (lan, .inl (cI, 1000, .inl u_17))] := hD.sub [1, 2] (by decide +kernel) rfl
          refine callVP (wr := [(ah, .inr (2, [.ref lah, .ref fah, .ref sah, .ref yah])), (fah, .inr (3, [.int (1 : Int32), .int (8 : Int32), .int (25 : Int32), .ref fan, .int fpp, .int fcolumns, .int fcount])), (fan, .inl (cI, 200, .inl fnum)), (sah, .inr (6, [.ref szah, .int starget, .int ssource, .int snumber, .int spower])), (szah, .inr (5, [.ref szan, .int szcount])), (szan, .inl (cI, 5, .inl szplaces)), (yah, .inr (5, [.ref yan, .int ycount])), (yan, .inl (cI, 5, .inl yplaces)), (qah, .inr (3, [.int qroom, .int qwidth, .int qpowers, .ref qan, .int qpp, .int qcolumns, .int qcount])), (qan, .inl (cI, qL, .inl qnum))]) (ws2 := (((ah, .inr (2, [.ref lah, .ref fah, .ref sah, .ref yah])) :: ((wR cI lah lan 1000 (5 : Int32) (8 : Int32) (25 : Int32) u_1 u_2 u_13 u_20) ++ (wR cI fah fan 200 (1 : Int32) (8 : Int32) (25 : Int32) fpp fcolumns fcount fnum) ++ (wST cI sah szah szan starget ssource snumber spower szcount szplaces) ++ (wSH cI yah yan ycount yplaces))) ++ (wR cI qah qan qL qroom qwidth qpowers qpp qcolumns qcount qnum))) (gV (rest := []) ⟨hx, hb, hml, hown, hts⟩ hG hPc hDc 0 3 rfl rfl (mtX3_put l D cI cB cR lah lan H.size 1000 (5 : Int32) (8 : Int32) (25 : Int32) u_1 u_2 u_13 u_17 r_12 ((3 : Int32) + i_6) (0 : Int32) (1 : Int32) u_20 hq_21) (cwV 4 hts gX2_buildFrom_X3_put rfl rfl rfl ⟨rfl, hd_X3_put⟩ ⟨Nat.le_of_ble_eq_true rfl, Nat.le_of_ble_eq_true rfl⟩) rfl hl.1 rfl (Nat.le_of_ble_eq_true rfl) dX2_buildFrom_66) hP hD hS hA [1, 2] [0, 3, 4, 5, 6, 7, 8, 9, 10, 11] [0, 10, 11, 1, 2, 3, 4, 5, 6, 7, 8, 9] rfl rfl (by decide +kernel) (by decide +kernel) (mgN [none, some 0, some 1, none, none, none, none, none, none, none, none, none] 10 rfl (by decide +kernel) rfl) (by decide +kernel) (fun H locs hP hD hS => ?_)
          refine lv_iinc (v := (i_6 + 1)) (lv' := [(3, .int (i_6 + 1)), (4, .int r_12), (0, .ref ah), (1, .ref qah), (2, .int a1)]) hx hb dX2_buildFrom_69 hl (k := 4) rfl rfl (by decide) rfl (fun ls hl => ?_)
          refine lv_goto (tgt := 17) hx hb dX2_buildFrom_72 (by decide) ?_
          exact ih1 (i_6 + 1) u_13 u_20 (ht1 _ (Option.some.inj hr1).symm) H locs hP hD hS ls (lv_sub hl [2, 3, 4, 0] rfl)
  obtain ⟨n1, hn1⟩ := Lp_s hw1
  exact hL1 n1 (0 : Int32) u_3 lnum hn1 H locs hP hD hS ls (lv_sub hl [1, 2, 3, 0] rfl)
