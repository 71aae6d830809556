abbrev rm_X3_hasRow : Room := { frames := 0, cells := 0, slots := 0, locals := 0 }
theorem iX3_hasRow_X3 : ∀ w ∈ wsX30, w ∈ wsX3_hasRow := fun _ h => (List.mem_cons_of_mem _ (List.mem_append_right _ h))
theorem fX3_hasRow_1 : Cond.fieldLink RX3 37 "PopovRows$Rows" "count" "I" ∈ wsX3_hasRow := (List.mem_cons_of_mem _ (List.mem_append_left _ (List.mem_of_getElem? (i := 0) rfl)))
set_option maxHeartbeats 4000000 in
set_option maxRecDepth 100000 in
theorem mtX3_hasRow (l : Launch) (D : va_G) (cI cB cR : ClassId) (ah : Nat) (an : Nat) (sz : Nat) (L : Nat) (room : Int32) (width : Int32) (powers : Int32) (pp : Int32) (columns : Int32) (count : Int32) (num : Nat → Int32) (a0 : Int32) (res : Int32) (hf : fX3_hasRow count a0 = res) : Met l yX3_hasRow wsX3_hasRow rm_X3_hasRow (qP D cI cB cR [.ref ah, .int a0] (wR cI ah an L room width powers pp columns count num) sz) (qZ D res (wR cI ah an L room width powers pp columns count num) (wR cI ah an L room width powers pp columns count num) sz) 0 0 (va_A (wR cI ah an L room width powers pp columns count num) sz) := by
  refine entZ (plainFor_of_name (by decide)) rfl (Nat.le_of_ble_eq_true rfl) ?_
  intro p e s m args below meth c Q A ls S hG hP hD hA hl hE
  obtain ⟨hx, hb, hml, hown, hts⟩ := S
  have hown : s.vm.findClass RX3 = some m.cls := hown
  have hS : va_S A s.heap s.heap [] := va_S.rf
  have hl : lv_has ls 2 [(0, .ref ah), (1, .int a0)] := hl
  have hq := hf
  unfold fX3_hasRow at hq
  obtain ⟨H, hH⟩ : ∃ H, H = s.heap := ⟨_, rfl⟩
  obtain ⟨locs, hlo⟩ : ∃ L : List Loc, L = [] := ⟨_, rfl⟩
  have hP : va_P D cls9 (wR cI ah an L room width powers pp columns count num) H := hH ▸ hP
  have hS : va_S A s.heap H locs := by rw [hH, hlo]; exact hS
  suffices hg : W p l e rm_X3_hasRow s m args below meth c H locs 0 0 Q (F0 m 0 ls []) by rw [hH, hlo] at hg; exact hg
  refine lv_iload_n hx hb dX3_hasRow_0 rfl (lv_at hl 1 rfl) ?_
  refine lv_if_lt (tgt := 16) hx hb dX3_hasRow_1 (by decide) (fun c_1 => ?_) (fun c_1 => ?_)
  · have hq := it_t c_1 hq
    refine lv_iconst (v := 0) hx hb dX3_hasRow_16 (by decide) ?_
    have he := hq
    subst he
    exact hE H locs _ _ _ rfl (Or.inl rfl) dX3_hasRow_17 hP hD hS
  · have hq := it_f c_1 hq
    refine lv_iload_n hx hb dX3_hasRow_4 rfl (lv_at hl 1 rfl) ?_
    refine lv_aload_n hx hb dX3_hasRow_5 rfl (lv_at hl 0 rfl) ?_
    refine va_get (D := D) (ci := 3) (v := .int count) (C := RX3) (T := TX3) (N := 7) hx hb hts iX3_hasRow_X3 hown hG.1 hP 0 rfl rfl 6 (by decide) (hts _ fX3_hasRow_1) (fun _ h9 => h9) rfl dX3_hasRow_6 ?_
    refine lv_icmp_ge (tgt := 16) hx hb dX3_hasRow_9 (by decide) (fun c_2 => ?_) (fun c_2 => ?_)
    · have hq := it_t c_2 hq
      refine lv_iconst (v := 0) hx hb dX3_hasRow_16 (by decide) ?_
      have he := hq
      subst he
      exact hE H locs _ _ _ rfl (Or.inl rfl) dX3_hasRow_17 hP hD hS
    · have hq := it_f c_2 hq
      refine lv_iconst (v := 1) hx hb dX3_hasRow_12 (by decide) ?_
      refine lv_goto (tgt := 17) hx hb dX3_hasRow_13 (by decide) ?_
      have he := hq
      subst he
      exact hE H locs _ _ _ rfl (Or.inr rfl) dX3_hasRow_17 hP hD hS
abbrev rm_X3_hasColumn : Room := { frames := 0, cells := 0, slots := 0, locals := 0 }
theorem iX3_hasColumn_X3 : ∀ w ∈ wsX30, w ∈ wsX3_hasColumn := fun _ h => (List.mem_cons_of_mem _ (List.mem_append_right _ h))
theorem fX3_hasColumn_1 : Cond.fieldLink RX3 15 "PopovRows$Rows" "columns" "I" ∈ wsX3_hasColumn := (List.mem_cons_of_mem _ (List.mem_append_left _ (List.mem_of_getElem? (i := 0) rfl)))
set_option maxHeartbeats 4000000 in
set_option maxRecDepth 100000 in
theorem mtX3_hasColumn (l : Launch) (D : va_G) (cI cB cR : ClassId) (ah : Nat) (an : Nat) (sz : Nat) (L : Nat) (room : Int32) (width : Int32) (powers : Int32) (pp : Int32) (columns : Int32) (count : Int32) (num : Nat → Int32) (a0 : Int32) (res : Int32) (hf : fX3_hasColumn columns a0 = res) : Met l yX3_hasColumn wsX3_hasColumn rm_X3_hasColumn (qP D cI cB cR [.ref ah, .int a0] (wR cI ah an L room width powers pp columns count num) sz) (qZ D res (wR cI ah an L room width powers pp columns count num) (wR cI ah an L room width powers pp columns count num) sz) 0 0 (va_A (wR cI ah an L room width powers pp columns count num) sz) := by
  refine entZ (plainFor_of_name (by decide)) rfl (Nat.le_of_ble_eq_true rfl) ?_
  intro p e s m args below meth c Q A ls S hG hP hD hA hl hE
  obtain ⟨hx, hb, hml, hown, hts⟩ := S
  have hown : s.vm.findClass RX3 = some m.cls := hown
  have hS : va_S A s.heap s.heap [] := va_S.rf
  have hl : lv_has ls 2 [(0, .ref ah), (1, .int a0)] := hl
  have hq := hf
  unfold fX3_hasColumn at hq
  obtain ⟨H, hH⟩ : ∃ H, H = s.heap := ⟨_, rfl⟩
  obtain ⟨locs, hlo⟩ : ∃ L : List Loc, L = [] := ⟨_, rfl⟩
  have hP : va_P D cls9 (wR cI ah an L room width powers pp columns count num) H := hH ▸ hP
  have hS : va_S A s.heap H locs := by rw [hH, hlo]; exact hS
  suffices hg : W p l e rm_X3_hasColumn s m args below meth c H locs 0 0 Q (F0 m 0 ls []) by rw [hH, hlo] at hg; exact hg
  refine lv_iload_n hx hb dX3_hasColumn_0 rfl (lv_at hl 1 rfl) ?_
  refine lv_if_lt (tgt := 16) hx hb dX3_hasColumn_1 (by decide) (fun c_1 => ?_) (fun c_1 => ?_)
  · have hq := it_t c_1 hq
    refine lv_iconst (v := 0) hx hb dX3_hasColumn_16 (by decide) ?_
    have he := hq
    subst he
    exact hE H locs _ _ _ rfl (Or.inl rfl) dX3_hasColumn_17 hP hD hS
  · have hq := it_f c_1 hq
    refine lv_iload_n hx hb dX3_hasColumn_4 rfl (lv_at hl 1 rfl) ?_
    refine lv_aload_n hx hb dX3_hasColumn_5 rfl (lv_at hl 0 rfl) ?_
    refine va_get (D := D) (ci := 3) (v := .int columns) (C := RX3) (T := TX3) (N := 7) hx hb hts iX3_hasColumn_X3 hown hG.1 hP 0 rfl rfl 5 (by decide) (hts _ fX3_hasColumn_1) (fun _ h9 => h9) rfl dX3_hasColumn_6 ?_
    refine lv_icmp_ge (tgt := 16) hx hb dX3_hasColumn_9 (by decide) (fun c_2 => ?_) (fun c_2 => ?_)
    · have hq := it_t c_2 hq
      refine lv_iconst (v := 0) hx hb dX3_hasColumn_16 (by decide) ?_
      have he := hq
      subst he
      exact hE H locs _ _ _ rfl (Or.inl rfl) dX3_hasColumn_17 hP hD hS
    · have hq := it_f c_2 hq
      refine lv_iconst (v := 1) hx hb dX3_hasColumn_12 (by decide) ?_
      refine lv_goto (tgt := 17) hx hb dX3_hasColumn_13 (by decide) ?_
      have he := hq
      subst he
      exact hE H locs _ _ _ rfl (Or.inr rfl) dX3_hasColumn_17 hP hD hS
abbrev rm_X3_hasSet : Room := { frames := 0, cells := 0, slots := 0, locals := 0 }
theorem iX3_hasSet_X3 : ∀ w ∈ wsX30, w ∈ wsX3_hasSet := fun _ h => (List.mem_cons_of_mem _ (List.mem_append_right _ h))
theorem fX3_hasSet_1 : Cond.fieldLink RX3 37 "PopovRows$Rows" "count" "I" ∈ wsX3_hasSet := (List.mem_cons_of_mem _ (List.mem_append_left _ (List.mem_of_getElem? (i := 0) rfl)))
set_option maxHeartbeats 4000000 in
set_option maxRecDepth 100000 in
theorem mtX3_hasSet (l : Launch) (D : va_G) (cI cB cR : ClassId) (ah : Nat) (an : Nat) (sz : Nat) (L : Nat) (room : Int32) (width : Int32) (powers : Int32) (pp : Int32) (columns : Int32) (count : Int32) (num : Nat → Int32) (a0 : Int32) (res : Int32) (hf : fX3_hasSet count a0 = res) : Met l yX3_hasSet wsX3_hasSet rm_X3_hasSet (qP D cI cB cR [.ref ah, .int a0] (wR cI ah an L room width powers pp columns count num) sz) (qZ D res (wR cI ah an L room width powers pp columns count num) (wR cI ah an L room width powers pp columns count num) sz) 0 0 (va_A (wR cI ah an L room width powers pp columns count num) sz) := by
  refine entZ (plainFor_of_name (by decide)) rfl (Nat.le_of_ble_eq_true rfl) ?_
  intro p e s m args below meth c Q A ls S hG hP hD hA hl hE
  obtain ⟨hx, hb, hml, hown, hts⟩ := S
  have hown : s.vm.findClass RX3 = some m.cls := hown
  have hS : va_S A s.heap s.heap [] := va_S.rf
  have hl : lv_has ls 2 [(0, .ref ah), (1, .int a0)] := hl
  have hq := hf
  unfold fX3_hasSet at hq
  obtain ⟨H, hH⟩ : ∃ H, H = s.heap := ⟨_, rfl⟩
  obtain ⟨locs, hlo⟩ : ∃ L : List Loc, L = [] := ⟨_, rfl⟩
  have hP : va_P D cls9 (wR cI ah an L room width powers pp columns count num) H := hH ▸ hP
  have hS : va_S A s.heap H locs := by rw [hH, hlo]; exact hS
  suffices hg : W p l e rm_X3_hasSet s m args below meth c H locs 0 0 Q (F0 m 0 ls []) by rw [hH, hlo] at hg; exact hg
  refine lv_iload_n hx hb dX3_hasSet_0 rfl (lv_at hl 1 rfl) ?_
  refine lv_aload_n hx hb dX3_hasSet_1 rfl (lv_at hl 0 rfl) ?_
  refine va_get (D := D) (ci := 3) (v := .int count) (C := RX3) (T := TX3) (N := 7) hx hb hts iX3_hasSet_X3 hown hG.1 hP 0 rfl rfl 6 (by decide) (hts _ fX3_hasSet_1) (fun _ h9 => h9) rfl dX3_hasSet_2 ?_
  refine lv_ishr hx hb dX3_hasSet_5 ?_
  refine lv_if_ne (tgt := 13) hx hb dX3_hasSet_6 (by decide) (fun c_1 => ?_) (fun c_1 => ?_)
  · have hq := it_f c_1 hq
    refine lv_iconst (v := 0) hx hb dX3_hasSet_13 (by decide) ?_
    have he := hq
    subst he
    exact hE H locs _ _ _ rfl (Or.inl rfl) dX3_hasSet_14 hP hD hS
  · have hq := it_t c_1 hq
    refine lv_iconst (v := 1) hx hb dX3_hasSet_9 (by decide) ?_
    refine lv_goto (tgt := 14) hx hb dX3_hasSet_10 (by decide) ?_
    have he := hq
    subst he
    exact hE H locs _ _ _ rfl (Or.inr rfl) dX3_hasSet_14 hP hD hS
abbrev rm_X3_at : Room := { frames := 0, cells := 0, slots := 0, locals := 0 }
theorem iX3_at_X3 : ∀ w ∈ wsX30, w ∈ wsX3_at := fun _ h => (List.mem_cons_of_mem _ (List.mem_append_right _ h))
theorem fX3_at_1 : Cond.fieldLink RX3 18 "PopovRows$Rows" "room" "I" ∈ wsX3_at := (List.mem_cons_of_mem _ (List.mem_append_left _ (List.mem_of_getElem? (i := 0) rfl)))
theorem fX3_at_2 : Cond.fieldLink RX3 21 "PopovRows$Rows" "width" "I" ∈ wsX3_at := (List.mem_cons_of_mem _ (List.mem_append_left _ (List.mem_of_getElem? (i := 1) rfl)))
theorem fX3_at_3 : Cond.fieldLink RX3 24 "PopovRows$Rows" "powers" "I" ∈ wsX3_at := (List.mem_cons_of_mem _ (List.mem_append_left _ (List.mem_of_getElem? (i := 2) rfl)))
theorem fX3_at_4 : Cond.fieldLink RX3 33 "PopovRows$Rows" "numbers" "[I" ∈ wsX3_at := (List.mem_cons_of_mem _ (List.mem_append_left _ (List.mem_of_getElem? (i := 3) rfl)))
set_option maxHeartbeats 4000000 in
set_option maxRecDepth 100000 in
theorem mtX3_at (l : Launch) (D : va_G) (cI cB cR : ClassId) (ah : Nat) (an : Nat) (sz : Nat) (L : Nat) (room : Int32) (width : Int32) (powers : Int32) (pp : Int32) (columns : Int32) (count : Int32) (num : Nat → Int32) (a0 : Int32) (a1 : Int32) (a2 : Int32) (res : Int32) (hf : fX3_at L room width powers num a0 a1 a2 = some res) : Met l yX3_at wsX3_at rm_X3_at (qP D cI cB cR [.ref ah, .int a0, .int a1, .int a2] (wR cI ah an L room width powers pp columns count num) sz) (qI D res (wR cI ah an L room width powers pp columns count num) (wR cI ah an L room width powers pp columns count num) sz) 0 0 (va_A (wR cI ah an L room width powers pp columns count num) sz) := by
  refine entI (plainFor_of_name (by decide)) rfl (Nat.le_of_ble_eq_true rfl) ?_
  intro p e s m args below meth c Q A ls S hG hP hD hA hl hE
  obtain ⟨hx, hb, hml, hown, hts⟩ := S
  have hown : s.vm.findClass RX3 = some m.cls := hown
  have hS : va_S A s.heap s.heap [] := va_S.rf
  have hl : lv_has ls 5 [(0, .ref ah), (1, .int a0), (2, .int a1), (3, .int a2)] := hl
  have hq := hf
  unfold fX3_at at hq
  obtain ⟨H, hH⟩ : ∃ H, H = s.heap := ⟨_, rfl⟩
  obtain ⟨locs, hlo⟩ : ∃ L : List Loc, L = [] := ⟨_, rfl⟩
  have hP : va_P D cls9 (wR cI ah an L room width powers pp columns count num) H := hH ▸ hP
  have hS : va_S A s.heap H locs := by rw [hH, hlo]; exact hS
  suffices hg : W p l e rm_X3_at s m args below meth c H locs 0 0 Q (F0 m 0 ls []) by rw [hH, hlo] at hg; exact hg
  refine lv_iload_n hx hb dX3_at_0 rfl (lv_at hl 1 rfl) ?_
  obtain ⟨v1, hj1, hk1⟩ := bd1_s hq
  have hJ1 : ∀ (j_7 : Int32), v1 = j_7 → (j_7 = 0 ∨ j_7 = 1) → ∀ (H : Heap) (locs : List Loc), va_P D cls9 (wR cI ah an L room width powers pp columns count num) H → va_D A (wR cI ah an L room width powers pp columns count num) → va_S A s.heap H locs → ∀ (ls : Array Slot), lv_has ls 5 [(0, .ref ah), (1, .int a0), (2, .int a1), (3, .int a2)] → W p l e rm_X3_at s m args below meth c H locs 0 0 Q (F0 m 41 ls [.int j_7]) := by
    intro j_7 hq zj_7 H locs hP hD hS ls hl
    have hq := hk1 _ hq
    refine lv_istore (lv' := [(4, .int j_7), (0, .ref ah), (1, .int a0), (2, .int a1), (3, .int a2)]) hx hb dX3_at_41 hl (by decide) rfl (fun ls hl => ?_)
    refine lv_iload hx hb dX3_at_43 (lv_at hl 0 rfl) ?_
    refine lv_if_eq (tgt := 71) hx hb dX3_at_45 (by decide) (fun c_8 => ?_) (fun c_8 => ?_)
    · have hq := it_t c_8 hq
      refine lv_iconst (v := 0) hx hb dX3_at_71 (by decide) ?_
      have he := Option.some.inj hq
      subst he
      exact hE H locs _ _ _ rfl dX3_at_72 hP hD hS
    · have hq := it_f c_8 hq
      refine lv_aload_n hx hb dX3_at_48 rfl (lv_at hl 1 rfl) ?_
      refine va_get (D := D) (ci := 3) (v := .ref an) (C := RX3) (T := TX3) (N := 7) hx hb hts iX3_at_X3 hown hG.1 hP 0 rfl rfl 3 (by decide) (hts _ fX3_at_4) (fun _ h9 => h9) rfl dX3_at_49 ?_
      refine lv_iload_n hx hb dX3_at_52 rfl (lv_at hl 2 rfl) ?_
      refine lv_aload_n hx hb dX3_at_53 rfl (lv_at hl 1 rfl) ?_
      refine va_get (D := D) (ci := 3) (v := .int width) (C := RX3) (T := TX3) (N := 7) hx hb hts iX3_at_X3 hown hG.1 hP 0 rfl rfl 1 (by decide) (hts _ fX3_at_2) (fun _ h9 => h9) rfl dX3_at_54 ?_
      refine lv_imul hx hb dX3_at_57 ?_
      refine lv_iload_n hx hb dX3_at_58 rfl (lv_at hl 3 rfl) ?_
      refine lv_iadd hx hb dX3_at_59 ?_
      refine lv_aload_n hx hb dX3_at_60 rfl (lv_at hl 1 rfl) ?_
      refine va_get (D := D) (ci := 3) (v := .int powers) (C := RX3) (T := TX3) (N := 7) hx hb hts iX3_at_X3 hown hG.1 hP 0 rfl rfl 2 (by decide) (hts _ fX3_at_3) (fun _ h9 => h9) rfl dX3_at_61 ?_
      refine lv_imul hx hb dX3_at_64 ?_
      refine lv_iload_n hx hb dX3_at_65 rfl (lv_at hl 4 rfl) ?_
      refine lv_iadd hx hb dX3_at_66 ?_
      obtain ⟨h_9, hq⟩ := gd_s hq
      refine va_iald hx hb hG.1 hP 1 0 rfl rfl h_9 dX3_at_67 ?_
      refine lv_goto (tgt := 72) hx hb dX3_at_68 (by decide) ?_
      have he := Option.some.inj hq
      subst he
      exact hE H locs _ _ _ rfl dX3_at_72 hP hD hS
  refine lv_if_lt (tgt := 40) hx hb dX3_at_1 (by decide) (fun c_1 => ?_) (fun c_1 => ?_)
  · have hj1 := it_t c_1 hj1
    refine lv_iconst (v := 0) hx hb dX3_at_40 (by decide) ?_
    exact hJ1 (0 : Int32) (Option.some.inj hj1).symm (Or.inl rfl) H locs hP hD hS ls (lv_sub hl [0, 1, 2, 3] rfl)
  · have hj1 := it_f c_1 hj1
    refine lv_iload_n hx hb dX3_at_4 rfl (lv_at hl 1 rfl) ?_
    refine lv_aload_n hx hb dX3_at_5 rfl (lv_at hl 0 rfl) ?_
    refine va_get (D := D) (ci := 3) (v := .int room) (C := RX3) (T := TX3) (N := 7) hx hb hts iX3_at_X3 hown hG.1 hP 0 rfl rfl 0 (by decide) (hts _ fX3_at_1) (fun _ h9 => h9) rfl dX3_at_6 ?_
    refine lv_icmp_ge (tgt := 40) hx hb dX3_at_9 (by decide) (fun c_2 => ?_) (fun c_2 => ?_)
    · have hj1 := it_t c_2 hj1
      refine lv_iconst (v := 0) hx hb dX3_at_40 (by decide) ?_
      exact hJ1 (0 : Int32) (Option.some.inj hj1).symm (Or.inl rfl) H locs hP hD hS ls (lv_sub hl [0, 1, 2, 3] rfl)
    · have hj1 := it_f c_2 hj1
      refine lv_iload_n hx hb dX3_at_12 rfl (lv_at hl 2 rfl) ?_
      refine lv_if_lt (tgt := 40) hx hb dX3_at_13 (by decide) (fun c_3 => ?_) (fun c_3 => ?_)
      · have hj1 := it_t c_3 hj1
        refine lv_iconst (v := 0) hx hb dX3_at_40 (by decide) ?_
        exact hJ1 (0 : Int32) (Option.some.inj hj1).symm (Or.inl rfl) H locs hP hD hS ls (lv_sub hl [0, 1, 2, 3] rfl)
      · have hj1 := it_f c_3 hj1
        refine lv_iload_n hx hb dX3_at_16 rfl (lv_at hl 2 rfl) ?_
        refine lv_aload_n hx hb dX3_at_17 rfl (lv_at hl 0 rfl) ?_
        refine va_get (D := D) (ci := 3) (v := .int width) (C := RX3) (T := TX3) (N := 7) hx hb hts iX3_at_X3 hown hG.1 hP 0 rfl rfl 1 (by decide) (hts _ fX3_at_2) (fun _ h9 => h9) rfl dX3_at_18 ?_
        refine lv_icmp_ge (tgt := 40) hx hb dX3_at_21 (by decide) (fun c_4 => ?_) (fun c_4 => ?_)
        · have hj1 := it_t c_4 hj1
          refine lv_iconst (v := 0) hx hb dX3_at_40 (by decide) ?_
          exact hJ1 (0 : Int32) (Option.some.inj hj1).symm (Or.inl rfl) H locs hP hD hS ls (lv_sub hl [0, 1, 2, 3] rfl)
        · have hj1 := it_f c_4 hj1
          refine lv_iload_n hx hb dX3_at_24 rfl (lv_at hl 3 rfl) ?_
          refine lv_if_lt (tgt := 40) hx hb dX3_at_25 (by decide) (fun c_5 => ?_) (fun c_5 => ?_)
          · have hj1 := it_t c_5 hj1
            refine lv_iconst (v := 0) hx hb dX3_at_40 (by decide) ?_
            exact hJ1 (0 : Int32) (Option.some.inj hj1).symm (Or.inl rfl) H locs hP hD hS ls (lv_sub hl [0, 1, 2, 3] rfl)
          · have hj1 := it_f c_5 hj1
            refine lv_iload_n hx hb dX3_at_28 rfl (lv_at hl 3 rfl) ?_
            refine lv_aload_n hx hb dX3_at_29 rfl (lv_at hl 0 rfl) ?_
            refine va_get (D := D) (ci := 3) (v := .int powers) (C := RX3) (T := TX3) (N := 7) hx hb hts iX3_at_X3 hown hG.1 hP 0 rfl rfl 2 (by decide) (hts _ fX3_at_3) (fun _ h9 => h9) rfl dX3_at_30 ?_
            refine lv_icmp_ge (tgt := 40) hx hb dX3_at_33 (by decide) (fun c_6 => ?_) (fun c_6 => ?_)
            · have hj1 := it_t c_6 hj1
              refine lv_iconst (v := 0) hx hb dX3_at_40 (by decide) ?_
              exact hJ1 (0 : Int32) (Option.some.inj hj1).symm (Or.inl rfl) H locs hP hD hS ls (lv_sub hl [0, 1, 2, 3] rfl)
            · have hj1 := it_f c_6 hj1
              refine lv_iconst (v := 1) hx hb dX3_at_36 (by decide) ?_
              refine lv_goto (tgt := 41) hx hb dX3_at_37 (by decide) ?_
              exact hJ1 (1 : Int32) (Option.some.inj hj1).symm (Or.inr rfl) H locs hP hD hS ls (lv_sub hl [0, 1, 2, 3] rfl)
abbrev rm_J9_floorMod_7cf53 : Room := { frames := 0, cells := 0, slots := 0, locals := 0 }
set_option maxHeartbeats 4000000 in
set_option maxRecDepth 100000 in
theorem mtJ9_floorMod_7cf53 (l : Launch) (D : va_G) (cI cB cR : ClassId) (sz : Nat) (a0 : Int32) (a1 : Int32) (res : Int32) (hf : fJ9_floorMod_7cf53 a0 a1 = some res) : Met l yJ9_floorMod_7cf53 wsJ9_floorMod_7cf53 rm_J9_floorMod_7cf53 (qP D cI cB cR [.int a0, .int a1] ([] : va_W) sz) (qI D res ([] : va_W) ([] : va_W) sz) 0 0 (va_A ([] : va_W) sz) := by
  refine entI (mathPlain9 rfl rfl) rfl (Nat.le_of_ble_eq_true rfl) ?_
  intro p e s m args below meth c Q A ls S hG hP hD hA hl hE
  obtain ⟨hx, hb, hml, hown, hts⟩ := S
  have hown : s.vm.findClass RJ9 = some m.cls := hown
  have hS : va_S A s.heap s.heap [] := va_S.rf
  have hl : lv_has ls 3 [(0, .int a0), (1, .int a1)] := hl
  have hq := hf
  unfold fJ9_floorMod_7cf53 at hq
  obtain ⟨H, hH⟩ : ∃ H, H = s.heap := ⟨_, rfl⟩
  obtain ⟨locs, hlo⟩ : ∃ L : List Loc, L = [] := ⟨_, rfl⟩
  have hP : va_P D cls9 ([] : va_W) H := hH ▸ hP
  have hS : va_S A s.heap H locs := by rw [hH, hlo]; exact hS
  suffices hg : W p l e rm_J9_floorMod_7cf53 s m args below meth c H locs 0 0 Q (F0 m 0 ls []) by rw [hH, hlo] at hg; exact hg
  refine lv_iload_n hx hb dJ9_floorMod_7cf53_0 rfl (lv_at hl 0 rfl) ?_
  refine lv_iload_n hx hb dJ9_floorMod_7cf53_1 rfl (lv_at hl 1 rfl) ?_
  obtain ⟨h_1, hq⟩ := gd_s hq
  refine lv_irem hx hb dJ9_floorMod_7cf53_2 h_1 ?_
  refine lv_asi (y := (rem32 a0 a1)) rfl ?_
  refine lv_istore_n (lv' := [(2, .int (rem32 a0 a1)), (0, .int a0), (1, .int a1)]) hx hb dJ9_floorMod_7cf53_3 rfl hl (by decide) rfl (fun ls hl => ?_)
  refine lv_iload_n hx hb dJ9_floorMod_7cf53_4 rfl (lv_at hl 1 rfl) ?_
  refine lv_iload_n hx hb dJ9_floorMod_7cf53_5 rfl (lv_at hl 2 rfl) ?_
  refine lv_ixor hx hb dJ9_floorMod_7cf53_6 ?_
  refine lv_if_ge (tgt := 18) hx hb dJ9_floorMod_7cf53_7 (by decide) (fun c_2 => ?_) (fun c_2 => ?_)
  · have hq := it_t c_2 hq
    refine lv_iload_n hx hb dJ9_floorMod_7cf53_18 rfl (lv_at hl 0 rfl) ?_
    have he := Option.some.inj hq
    subst he
    exact hE H locs _ _ _ rfl dJ9_floorMod_7cf53_19 hP hD hS
  · have hq := it_f c_2 hq
    refine lv_iload_n hx hb dJ9_floorMod_7cf53_10 rfl (lv_at hl 0 rfl) ?_
    refine lv_if_eq (tgt := 18) hx hb dJ9_floorMod_7cf53_11 (by decide) (fun c_3 => ?_) (fun c_3 => ?_)
    · have hq := it_t c_3 hq
      refine lv_iload_n hx hb dJ9_floorMod_7cf53_18 rfl (lv_at hl 0 rfl) ?_
      have he := Option.some.inj hq
      subst he
      exact hE H locs _ _ _ rfl dJ9_floorMod_7cf53_19 hP hD hS
    · have hq := it_f c_3 hq
      refine lv_iload_n hx hb dJ9_floorMod_7cf53_14 rfl (lv_at hl 0 rfl) ?_
      refine lv_iload_n hx hb dJ9_floorMod_7cf53_15 rfl (lv_at hl 2 rfl) ?_
      refine lv_iadd hx hb dJ9_floorMod_7cf53_16 ?_
      have he := Option.some.inj hq
      subst he
      exact hE H locs _ _ _ rfl dJ9_floorMod_7cf53_17 hP hD hS
abbrev rm_X7_modulo : Room := { frames := 1, cells := 0, slots := 0, locals := 22 }
set_option maxHeartbeats 4000000 in
set_option maxRecDepth 100000 in
theorem mtX7_modulo (l : Launch) (D : va_G) (cI cB cR : ClassId) (sz : Nat) (a0 : Int32) (a1 : Int32) (res : Int32) (hf : fX7_modulo a0 a1 = some res) : Met l yX7_modulo wsX7_modulo rm_X7_modulo (qP D cI cB cR [.int a0, .int a1] ([] : va_W) sz) (qI D res ([] : va_W) ([] : va_W) sz) 0 0 (va_A ([] : va_W) sz) := by
  refine entI (plainFor_of_name (by decide)) rfl (Nat.le_of_ble_eq_true rfl) ?_
  intro p e s m args below meth c Q A ls S hG hP hD hA hl hE
  obtain ⟨hx, hb, hml, hown, hts⟩ := S
  have hown : s.vm.findClass RX7 = some m.cls := hown
  have hS : va_S A s.heap s.heap [] := va_S.rf
  have hl : lv_has ls 2 [(0, .int a0), (1, .int a1)] := hl
  have hq := hf
  unfold fX7_modulo at hq
  obtain ⟨H, hH⟩ : ∃ H, H = s.heap := ⟨_, rfl⟩
  obtain ⟨locs, hlo⟩ : ∃ L : List Loc, L = [] := ⟨_, rfl⟩
  have hP : va_P D cls9 ([] : va_W) H := hH ▸ hP
  have hS : va_S A s.heap H locs := by rw [hH, hlo]; exact hS
  suffices hg : W p l e rm_X7_modulo s m args below meth c H locs 0 0 Q (F0 m 0 ls []) by rw [hH, hlo] at hg; exact hg
  refine lv_iload_n hx hb dX7_modulo_0 rfl (lv_at hl 1 rfl) ?_
  refine lv_if_ne (tgt := 8) hx hb dX7_modulo_1 (by decide) (fun c_1 => ?_) (fun c_1 => ?_)
  · have hq := it_f c_1 hq
    refine lv_iload_n hx hb dX7_modulo_8 rfl (lv_at hl 0 rfl) ?_
    refine lv_iload_n hx hb dX7_modulo_9 rfl (lv_at hl 1 rfl) ?_
    obtain ⟨v_4, hq_3, hk⟩ := bd1_s hq
    obtain ⟨r_2, rfl⟩ : ∃ y, y = v_4 := ⟨_, rfl⟩
    have hq := hk _ rfl
    refine callI0 (gS (rest := []) ⟨hx, hb, hml, hown, hts⟩ hG vaP0 (vaD0 (A := A)) (mtJ9_floorMod_7cf53 l D cI cB cR H.size a0 a1 r_2 hq_3) (va_cwS 2 hts gX7_modulo_J9_floorMod_7cf53 rfl rfl rfl hd_J9_floorMod_7cf53 ⟨Nat.le_of_ble_eq_true rfl, Nat.le_of_ble_eq_true rfl⟩) rfl hl.1 rfl (Nat.le_of_ble_eq_true rfl) dX7_modulo_10) hP hS hA (fun H locs hP hS => ?_)
    have he := Option.some.inj hq
    subst he
    exact hE H locs _ _ _ rfl dX7_modulo_13 hP hD hS
  · have hq := it_t c_1 hq
    refine lv_iconst (v := 0) hx hb dX7_modulo_4 (by decide) ?_
    refine lv_goto (tgt := 13) hx hb dX7_modulo_5 (by decide) ?_
    have he := Option.some.inj hq
    subst he
    exact hE H locs _ _ _ rfl dX7_modulo_13 hP hD hS
abbrev rm_X3_put : Room := { frames := 2, cells := 0, slots := 0, locals := 43 }
theorem iX3_put_X3 : ∀ w ∈ wsX30, w ∈ wsX3_put := fun _ h => (List.mem_cons_of_mem _ (List.mem_append_right _ h))
theorem fX3_put_1 : Cond.fieldLink RX3 18 "PopovRows$Rows" "room" "I" ∈ wsX3_put := (List.mem_cons_of_mem _ (List.mem_append_left _ (List.mem_of_getElem? (i := 0) rfl)))
theorem fX3_put_2 : Cond.fieldLink RX3 21 "PopovRows$Rows" "width" "I" ∈ wsX3_put := (List.mem_cons_of_mem _ (List.mem_append_left _ (List.mem_of_getElem? (i := 1) rfl)))
theorem fX3_put_3 : Cond.fieldLink RX3 24 "PopovRows$Rows" "powers" "I" ∈ wsX3_put := (List.mem_cons_of_mem _ (List.mem_append_left _ (List.mem_of_getElem? (i := 2) rfl)))
theorem fX3_put_4 : Cond.fieldLink RX3 33 "PopovRows$Rows" "numbers" "[I" ∈ wsX3_put := (List.mem_cons_of_mem _ (List.mem_append_left _ (List.mem_of_getElem? (i := 3) rfl)))
theorem fX3_put_5 : Cond.fieldLink RX3 9 "PopovRows$Rows" "p" "I" ∈ wsX3_put := (List.mem_cons_of_mem _ (List.mem_append_left _ (List.mem_of_getElem? (i := 4) rfl)))
theorem fX3_put_6 : Cond.initialized RX7 ∈ wsX3_put := (List.mem_cons_of_mem _ (List.mem_append_left _ (List.mem_of_getElem? (i := 6) rfl)))
theorem fX3_put_7 : Cond.static yX7_modulo ∈ wsX3_put := (List.mem_cons_of_mem _ (List.mem_append_left _ (List.mem_of_getElem? (i := 5) rfl)))
set_option maxHeartbeats 4000000 in
set_option maxRecDepth 100000 in
theorem mtX3_put (l : Launch) (D : va_G) (cI cB cR : ClassId) (ah : Nat) (an : Nat) (sz : Nat) (L : Nat) (room : Int32) (width : Int32) (powers : Int32) (pp : Int32) (columns : Int32) (count : Int32) (num : Nat → Int32) (a0 : Int32) (a1 : Int32) (a2 : Int32) (a3 : Int32) (res : Nat → Int32) (hf : fX3_put L room width powers pp num a0 a1 a2 a3 = some res) : Met l yX3_put wsX3_put rm_X3_put (qP D cI cB cR [.ref ah, .int a0, .int a1, .int a2, .int a3] (wR cI ah an L room width powers pp columns count num) sz) (qV D (wR cI ah an L room width powers pp columns count num) (wR cI ah an L room width powers pp columns count res) sz) 0 0 (va_A (wR cI ah an L room width powers pp columns count num) sz) := by
  refine entV (plainFor_of_name (by decide)) rfl (Nat.le_of_ble_eq_true rfl) ?_
  intro p e s m args below meth c Q A ls S hG hP hD hA hl hE
  obtain ⟨hx, hb, hml, hown, hts⟩ := S
  have hown : s.vm.findClass RX3 = some m.cls := hown
  have hS : va_S A s.heap s.heap [] := va_S.rf
  have hl : lv_has ls 6 [(0, .ref ah), (1, .int a0), (2, .int a1), (3, .int a2), (4, .int a3)] := hl
  have hq := hf
  unfold fX3_put at hq
  obtain ⟨H, hH⟩ : ∃ H, H = s.heap := ⟨_, rfl⟩
  obtain ⟨locs, hlo⟩ : ∃ L : List Loc, L = [] := ⟨_, rfl⟩
  have hP : va_P D cls9 (wR cI ah an L room width powers pp columns count num) H := hH ▸ hP
  have hS : va_S A s.heap H locs := by rw [hH, hlo]; exact hS
  suffices hg : W p l e rm_X3_put s m args below meth c H locs 0 0 Q (F0 m 0 ls []) by rw [hH, hlo] at hg; exact hg
  refine lv_iload_n hx hb dX3_put_0 rfl (lv_at hl 1 rfl) ?_
  obtain ⟨v1, hj1, hk1⟩ := bd1_s hq
  have hJ1 : ∀ (j_7 : Int32), v1 = j_7 → (j_7 = 0 ∨ j_7 = 1) → ∀ (H : Heap) (locs : List Loc), va_P D cls9 (wR cI ah an L room width powers pp columns count num) H → va_D A (wR cI ah an L room width powers pp columns count num) → va_S A s.heap H locs → ∀ (ls : Array Slot), lv_has ls 6 [(0, .ref ah), (1, .int a0), (2, .int a1), (3, .int a2), (4, .int a3)] → W p l e rm_X3_put s m args below meth c H locs 0 0 Q (F0 m 41 ls [.int j_7]) := by
    intro j_7 hq zj_7 H locs hP hD hS ls hl
    have hq := hk1 _ hq
    refine lv_istore (lv' := [(5, .int j_7), (0, .ref ah), (1, .int a0), (2, .int a1), (3, .int a2), (4, .int a3)]) hx hb dX3_put_41 hl (by decide) rfl (fun ls hl => ?_)
    refine lv_iload hx hb dX3_put_43 (lv_at hl 0 rfl) ?_
    refine lv_if_eq (tgt := 77) hx hb dX3_put_45 (by decide) (fun c_8 => ?_) (fun c_8 => ?_)
    · have hq := it_t c_8 hq
      have he := Option.some.inj hq
      subst he
      exact hE H locs _ _ dX3_put_77 hP hD hS
    · have hq := it_f c_8 hq
      refine lv_aload_n hx hb dX3_put_48 rfl (lv_at hl 1 rfl) ?_
      refine va_get (D := D) (ci := 3) (v := .ref an) (C := RX3) (T := TX3) (N := 7) hx hb hts iX3_put_X3 hown hG.1 hP 0 rfl rfl 3 (by decide) (hts _ fX3_put_4) (fun _ h9 => h9) rfl dX3_put_49 ?_
      refine lv_iload_n hx hb dX3_put_52 rfl (lv_at hl 2 rfl) ?_
      refine lv_aload_n hx hb dX3_put_53 rfl (lv_at hl 1 rfl) ?_
      refine va_get (D := D) (ci := 3) (v := .int width) (C := RX3) (T := TX3) (N := 7) hx hb hts iX3_put_X3 hown hG.1 hP 0 rfl rfl 1 (by decide) (hts _ fX3_put_2) (fun _ h9 => h9) rfl dX3_put_54 ?_
      refine lv_imul hx hb dX3_put_57 ?_
      refine lv_iload_n hx hb dX3_put_58 rfl (lv_at hl 3 rfl) ?_
      refine lv_iadd hx hb dX3_put_59 ?_
      refine lv_aload_n hx hb dX3_put_60 rfl (lv_at hl 1 rfl) ?_
      refine va_get (D := D) (ci := 3) (v := .int powers) (C := RX3) (T := TX3) (N := 7) hx hb hts iX3_put_X3 hown hG.1 hP 0 rfl rfl 2 (by decide) (hts _ fX3_put_3) (fun _ h9 => h9) rfl dX3_put_61 ?_
      refine lv_imul hx hb dX3_put_64 ?_
      refine lv_iload_n hx hb dX3_put_65 rfl (lv_at hl 4 rfl) ?_
      refine lv_iadd hx hb dX3_put_66 ?_
      refine lv_iload hx hb dX3_put_67 (lv_at hl 5 rfl) ?_
      refine lv_aload_n hx hb dX3_put_69 rfl (lv_at hl 1 rfl) ?_
      refine va_get (D := D) (ci := 3) (v := .int pp) (C := RX3) (T := TX3) (N := 7) hx hb hts iX3_put_X3 hown hG.1 hP 0 rfl rfl 4 (by decide) (hts _ fX3_put_5) (fun _ h9 => h9) rfl dX3_put_70 ?_
      obtain ⟨v_11, hq_10, hk⟩ := bd1_s hq
      obtain ⟨r_9, rfl⟩ : ∃ y, y = v_11 := ⟨_, rfl⟩
      have hq := hk _ rfl
      refine callI0 (gSN (rest := [.int ((((a0 * width) + a1) * powers) + a2), .ref an]) ⟨hx, hb, hml, hown, hts⟩ hG vaP0 (vaD0 (A := A)) (mtX7_modulo l D cI cB cR H.size a3 pp r_9 hq_10) (va_cnB (host := "PopovRows") 2 hts gX3_put_X7_modulo_n40 rfl rfl rfl (hG.2 _ nl_8) (hts _ fX3_put_6) hd_X7_modulo ⟨Nat.le_of_ble_eq_true rfl, Nat.le_of_ble_eq_true rfl⟩) (hts _ fX3_put_7) rfl hl.1 rfl (Nat.le_of_ble_eq_true rfl) dX3_put_73) hP hS hA (fun H locs hP hS => ?_)
      obtain ⟨h_12, hq⟩ := gd_s hq
      refine va_iast hx hb hG.1 hP hD hS 1 0 rfl rfl h_12 dX3_put_76 (fun H locs hP hD hS => ?_)
      have hP : va_P D cls9 (wR cI ah an L room width powers pp columns count (upd num ((((a0 * width) + a1) * powers) + a2).toNatClampNeg r_9)) H := hP
      have hD : va_D A (wR cI ah an L room width powers pp columns count (upd num ((((a0 * width) + a1) * powers) + a2).toNatClampNeg r_9)) := hD
      have he := Option.some.inj hq
      subst he
      exact hE H locs _ _ dX3_put_77 hP hD hS
  refine lv_if_lt (tgt := 40) hx hb dX3_put_1 (by decide) (fun c_1 => ?_) (fun c_1 => ?_)
  · have hj1 := it_t c_1 hj1
    refine lv_iconst (v := 0) hx hb dX3_put_40 (by decide) ?_
    exact hJ1 (0 : Int32) (Option.some.inj hj1).symm (Or.inl rfl) H locs hP hD hS ls (lv_sub hl [0, 1, 2, 3, 4] rfl)
  · have hj1 := it_f c_1 hj1
    refine lv_iload_n hx hb dX3_put_4 rfl (lv_at hl 1 rfl) ?_
    refine lv_aload_n hx hb dX3_put_5 rfl (lv_at hl 0 rfl) ?_
    refine va_get (D := D) (ci := 3) (v := .int room) (C := RX3) (T := TX3) (N := 7) hx hb hts iX3_put_X3 hown hG.1 hP 0 rfl rfl 0 (by decide) (hts _ fX3_put_1) (fun _ h9 => h9) rfl dX3_put_6 ?_
    refine lv_icmp_ge (tgt := 40) hx hb dX3_put_9 (by decide) (fun c_2 => ?_) (fun c_2 => ?_)
    · have hj1 := it_t c_2 hj1
      refine lv_iconst (v := 0) hx hb dX3_put_40 (by decide) ?_
      exact hJ1 (0 : Int32) (Option.some.inj hj1).symm (Or.inl rfl) H locs hP hD hS ls (lv_sub hl [0, 1, 2, 3, 4] rfl)
    · have hj1 := it_f c_2 hj1
      refine lv_iload_n hx hb dX3_put_12 rfl (lv_at hl 2 rfl) ?_
      refine lv_if_lt (tgt := 40) hx hb dX3_put_13 (by decide) (fun c_3 => ?_) (fun c_3 => ?_)
      · have hj1 := it_t c_3 hj1
        refine lv_iconst (v := 0) hx hb dX3_put_40 (by decide) ?_
        exact hJ1 (0 : Int32) (Option.some.inj hj1).symm (Or.inl rfl) H locs hP hD hS ls (lv_sub hl [0, 1, 2, 3, 4] rfl)
      · have hj1 := it_f c_3 hj1
        refine lv_iload_n hx hb dX3_put_16 rfl (lv_at hl 2 rfl) ?_
        refine lv_aload_n hx hb dX3_put_17 rfl (lv_at hl 0 rfl) ?_
        refine va_get (D := D) (ci := 3) (v := .int width) (C := RX3) (T := TX3) (N := 7) hx hb hts iX3_put_X3 hown hG.1 hP 0 rfl rfl 1 (by decide) (hts _ fX3_put_2) (fun _ h9 => h9) rfl dX3_put_18 ?_
        refine lv_icmp_ge (tgt := 40) hx hb dX3_put_21 (by decide) (fun c_4 => ?_) (fun c_4 => ?_)
        · have hj1 := it_t c_4 hj1
          refine lv_iconst (v := 0) hx hb dX3_put_40 (by decide) ?_
          exact hJ1 (0 : Int32) (Option.some.inj hj1).symm (Or.inl rfl) H locs hP hD hS ls (lv_sub hl [0, 1, 2, 3, 4] rfl)
        · have hj1 := it_f c_4 hj1
          refine lv_iload_n hx hb dX3_put_24 rfl (lv_at hl 3 rfl) ?_
          refine lv_if_lt (tgt := 40) hx hb dX3_put_25 (by decide) (fun c_5 => ?_) (fun c_5 => ?_)
          · have hj1 := it_t c_5 hj1
            refine lv_iconst (v := 0) hx hb dX3_put_40 (by decide) ?_
            exact hJ1 (0 : Int32) (Option.some.inj hj1).symm (Or.inl rfl) H locs hP hD hS ls (lv_sub hl [0, 1, 2, 3, 4] rfl)
          · have hj1 := it_f c_5 hj1
            refine lv_iload_n hx hb dX3_put_28 rfl (lv_at hl 3 rfl) ?_
            refine lv_aload_n hx hb dX3_put_29 rfl (lv_at hl 0 rfl) ?_
            refine va_get (D := D) (ci := 3) (v := .int powers) (C := RX3) (T := TX3) (N := 7) hx hb hts iX3_put_X3 hown hG.1 hP 0 rfl rfl 2 (by decide) (hts _ fX3_put_3) (fun _ h9 => h9) rfl dX3_put_30 ?_
            refine lv_icmp_ge (tgt := 40) hx hb dX3_put_33 (by decide) (fun c_6 => ?_) (fun c_6 => ?_)
            · have hj1 := it_t c_6 hj1
              refine lv_iconst (v := 0) hx hb dX3_put_40 (by decide) ?_
              exact hJ1 (0 : Int32) (Option.some.inj hj1).symm (Or.inl rfl) H locs hP hD hS ls (lv_sub hl [0, 1, 2, 3, 4] rfl)
            · have hj1 := it_f c_6 hj1
              refine lv_iconst (v := 1) hx hb dX3_put_36 (by decide) ?_
              refine lv_goto (tgt := 41) hx hb dX3_put_37 (by decide) ?_
              exact hJ1 (1 : Int32) (Option.some.inj hj1).symm (Or.inr rfl) H locs hP hD hS ls (lv_sub hl [0, 1, 2, 3, 4] rfl)
abbrev rm_X3_reset : Room := { frames := 0, cells := 0, slots := 0, locals := 0 }
theorem iX3_reset_X3 : ∀ w ∈ wsX30, w ∈ wsX3_reset := fun _ h => (List.mem_cons_of_mem _ (List.mem_append_right _ h))
theorem fX3_reset_1 : Cond.fieldLink RX3 9 "PopovRows$Rows" "p" "I" ∈ wsX3_reset := (List.mem_cons_of_mem _ (List.mem_append_left _ (List.mem_of_getElem? (i := 0) rfl)))
theorem fX3_reset_2 : Cond.fieldLink RX3 15 "PopovRows$Rows" "columns" "I" ∈ wsX3_reset := (List.mem_cons_of_mem _ (List.mem_append_left _ (List.mem_of_getElem? (i := 1) rfl)))
theorem fX3_reset_3 : Cond.fieldLink RX3 37 "PopovRows$Rows" "count" "I" ∈ wsX3_reset := (List.mem_cons_of_mem _ (List.mem_append_left _ (List.mem_of_getElem? (i := 2) rfl)))
set_option maxHeartbeats 4000000 in
set_option maxRecDepth 100000 in
theorem mtX3_reset (l : Launch) (D : va_G) (cI cB cR : ClassId) (ah : Nat) (an : Nat) (sz : Nat) (L : Nat) (room : Int32) (width : Int32) (powers : Int32) (pp : Int32) (columns : Int32) (count : Int32) (num : Nat → Int32) (a0 : Int32) (a1 : Int32) (res : Int32 × Int32 × Int32) (hf : fX3_reset a0 a1 = some res) : Met l yX3_reset wsX3_reset rm_X3_reset (qP D cI cB cR [.ref ah, .int a0, .int a1] (wR cI ah an L room width powers pp columns count num) sz) (qV D (wR cI ah an L room width powers pp columns count num) (wR cI ah an L room width powers res.1 res.2.1 res.2.2 num) sz) 0 0 (va_A (wR cI ah an L room width powers pp columns count num) sz) := by
  refine entV (plainFor_of_name (by decide)) rfl (Nat.le_of_ble_eq_true rfl) ?_
  intro p e s m args below meth c Q A ls S hG hP hD hA hl hE
  obtain ⟨hx, hb, hml, hown, hts⟩ := S
  have hown : s.vm.findClass RX3 = some m.cls := hown
  have hS : va_S A s.heap s.heap [] := va_S.rf
  have hl : lv_has ls 3 [(0, .ref ah), (1, .int a0), (2, .int a1)] := hl
  have hq := hf
  unfold fX3_reset at hq
  obtain ⟨H, hH⟩ : ∃ H, H = s.heap := ⟨_, rfl⟩
  obtain ⟨locs, hlo⟩ : ∃ L : List Loc, L = [] := ⟨_, rfl⟩
  have hP : va_P D cls9 (wR cI ah an L room width powers pp columns count num) H := hH ▸ hP
  have hS : va_S A s.heap H locs := by rw [hH, hlo]; exact hS
  suffices hg : W p l e rm_X3_reset s m args below meth c H locs 0 0 Q (F0 m 0 ls []) by rw [hH, hlo] at hg; exact hg
  refine lv_aload_n hx hb dX3_reset_0 rfl (lv_at hl 0 rfl) ?_
  refine lv_iload_n hx hb dX3_reset_1 rfl (lv_at hl 1 rfl) ?_
  refine va_put (D := D) (ci := 3) (v := .int a0) (ty := .int) (C := RX3) (T := TX3) (N := 7) hx hb hts iX3_reset_X3 tyX3 tyX3_ok nmX3 hown hG.1 hP hD hS 0 rfl rfl 4 (by decide) (hts _ fX3_reset_1) (fun _ h9 => h9) rfl (by decide +kernel) rfl rfl (Nat.le_of_ble_eq_true rfl) dX3_reset_2 (fun H locs hP hD hS => ?_)
  have hP : va_P D cls9 (wR cI ah an L room width powers a0 columns count num) H := hP
  have hD : va_D A (wR cI ah an L room width powers a0 columns count num) := hD
  refine lv_aload_n hx hb dX3_reset_5 rfl (lv_at hl 0 rfl) ?_
  refine lv_iload_n hx hb dX3_reset_6 rfl (lv_at hl 2 rfl) ?_
  refine va_put (D := D) (ci := 3) (v := .int a1) (ty := .int) (C := RX3) (T := TX3) (N := 7) hx hb hts iX3_reset_X3 tyX3 tyX3_ok nmX3 hown hG.1 hP hD hS 0 rfl rfl 5 (by decide) (hts _ fX3_reset_2) (fun _ h9 => h9) rfl (by decide +kernel) rfl rfl (Nat.le_of_ble_eq_true rfl) dX3_reset_7 (fun H locs hP hD hS => ?_)
  have hP : va_P D cls9 (wR cI ah an L room width powers a0 a1 count num) H := hP
  have hD : va_D A (wR cI ah an L room width powers a0 a1 count num) := hD
  refine lv_aload_n hx hb dX3_reset_10 rfl (lv_at hl 0 rfl) ?_
  refine lv_iconst (v := 0) hx hb dX3_reset_11 (by decide) ?_
  refine va_put (D := D) (ci := 3) (v := .int (0 : Int32)) (ty := .int) (C := RX3) (T := TX3) (N := 7) hx hb hts iX3_reset_X3 tyX3 tyX3_ok nmX3 hown hG.1 hP hD hS 0 rfl rfl 6 (by decide) (hts _ fX3_reset_3) (fun _ h9 => h9) rfl (by decide +kernel) rfl rfl (Nat.le_of_ble_eq_true rfl) dX3_reset_12 (fun H locs hP hD hS => ?_)
  have hP : va_P D cls9 (wR cI ah an L room width powers a0 a1 (0 : Int32) num) H := hP
  have hD : va_D A (wR cI ah an L room width powers a0 a1 (0 : Int32) num) := hD
  have he := Option.some.inj hq
  subst he
  exact hE H locs _ _ dX3_reset_15 hP hD hS
abbrev rm_X3_scale : Room := { frames := 3, cells := 0, slots := 0, locals := 68 }
theorem iX3_scale_X3 : ∀ w ∈ wsX30, w ∈ wsX3_scale := fun _ h => (List.mem_cons_of_mem _ (List.mem_append_right _ h))
theorem fX3_scale_1 : Cond.fieldLink RX3 21 "PopovRows$Rows" "width" "I" ∈ wsX3_scale := (List.mem_cons_of_mem _ (List.mem_append_left _ (List.mem_of_getElem? (i := 0) rfl)))
theorem fX3_scale_2 : Cond.fieldLink RX3 24 "PopovRows$Rows" "powers" "I" ∈ wsX3_scale := (List.mem_cons_of_mem _ (List.mem_append_left _ (List.mem_of_getElem? (i := 1) rfl)))
set_option maxHeartbeats 4000000 in
set_option maxRecDepth 100000 in
theorem mtX3_scale (l : Launch) (D : va_G) (cI cB cR : ClassId) (ah : Nat) (an : Nat) (sz : Nat) (L : Nat) (room : Int32) (width : Int32) (powers : Int32) (pp : Int32) (columns : Int32) (count : Int32) (num : Nat → Int32) (a0 : Int32) (a1 : Int32) (res : Nat → Int32) (hf : fX3_scale L room width powers pp num a0 a1 = some res) : Met l yX3_scale wsX3_scale rm_X3_scale (qP D cI cB cR [.ref ah, .int a0, .int a1] (wR cI ah an L room width powers pp columns count num) sz) (qV D (wR cI ah an L room width powers pp columns count num) (wR cI ah an L room width powers pp columns count res) sz) 0 0 (va_A (wR cI ah an L room width powers pp columns count num) sz) := by
  refine entV (plainFor_of_name (by decide)) rfl (Nat.le_of_ble_eq_true rfl) ?_
  intro p e s m args below meth c Q A ls S hG hP hD hA hl hE
  obtain ⟨hx, hb, hml, hown, hts⟩ := S
  have hown : s.vm.findClass RX3 = some m.cls := hown
  have hS : va_S A s.heap s.heap [] := va_S.rf
  have hl : lv_has ls 5 [(0, .ref ah), (1, .int a0), (2, .int a1)] := hl
  have hq := hf
  unfold fX3_scale at hq
  obtain ⟨H, hH⟩ : ∃ H, H = s.heap := ⟨_, rfl⟩
  obtain ⟨locs, hlo⟩ : ∃ L : List Loc, L = [] := ⟨_, rfl⟩
  have hP : va_P D cls9 (wR cI ah an L room width powers pp columns count num) H := hH ▸ hP
  have hS : va_S A s.heap H locs := by rw [hH, hlo]; exact hS
  suffices hg : W p l e rm_X3_scale s m args below meth c H locs 0 0 Q (F0 m 0 ls []) by rw [hH, hlo] at hg; exact hg
  refine lv_iconst (v := 0) hx hb dX3_scale_0 (by decide) ?_
  refine lv_istore_n (lv' := [(3, .int (0 : Int32)), (0, .ref ah), (1, .int a0), (2, .int a1)]) hx hb dX3_scale_1 rfl hl (by decide) rfl (fun ls hl => ?_)
  obtain ⟨w1, hw1, hk1⟩ := bd1_s hq
  have hX1 : ∀ (x_14 : Nat → Int32), w1 = x_14 → ∀ (H : Heap) (locs : List Loc), va_P D cls9 (wR cI ah an L room width powers pp columns count x_14) H → va_D A (wR cI ah an L room width powers pp columns count x_14) → va_S A s.heap H locs → ∀ (ls : Array Slot), lv_has ls 5 [] → W p l e rm_X3_scale s m args below meth c H locs 0 0 Q (F0 m 52 ls []) := by
    intro x_14 hq H locs hP hD hS ls hl
    have hq := hk1 _ hq
    have he := Option.some.inj hq
    subst he
    exact hE H locs _ _ dX3_scale_52 hP hD hS
  have hL1 : ∀ (n : Nat) (i_1 : Int32) (i_2 : Nat → Int32), lrun (fun (z : Int32 × (Nat → Int32)) => fX3_scale_s2 L room width powers pp a0 a1 z.1 z.2) n (i_1, i_2) = some w1 → ∀ (H : Heap) (locs : List Loc), va_P D cls9 (wR cI ah an L room width powers pp columns count i_2) H → va_D A (wR cI ah an L room width powers pp columns count i_2) → va_S A s.heap H locs → ∀ (ls : Array Slot), lv_has ls 5 [(0, .ref ah), (1, .int a0), (2, .int a1), (3, .int i_1)] → W p l e rm_X3_scale s m args below meth c H locs 0 0 Q (F0 m 2 ls []) := by
    intro n
    induction n with
    | zero => intro i_1 i_2 h; cases h
    | succ n ih1 =>
      intro i_1 i_2 hr1 H locs hP hD hS ls hl
      obtain ⟨k, v1, hk, hr1, ht1, hv1⟩ := lrun_s hr1
      cases hk
      have hr1 : fX3_scale_s2 L room width powers pp a0 a1 i_1 i_2 = some v1 := hr1
      unfold fX3_scale_s2 at hr1
      refine lv_iload_n hx hb dX3_scale_2 rfl (lv_at hl 3 rfl) ?_
      refine lv_aload_n hx hb dX3_scale_3 rfl (lv_at hl 0 rfl) ?_
      refine va_get (D := D) (ci := 3) (v := .int width) (C := RX3) (T := TX3) (N := 7) hx hb hts iX3_scale_X3 hown hG.1 hP 0 rfl rfl 1 (by decide) (hts _ fX3_scale_1) (fun _ h9 => h9) rfl dX3_scale_4 ?_
      refine lv_icmp_ge (tgt := 52) hx hb dX3_scale_7 (by decide) (fun c_3 => ?_) (fun c_3 => ?_)
      · have hr1 := it_t c_3 hr1
        exact hX1 i_2 (hv1 _ (Option.some.inj hr1).symm).symm H locs hP hD hS ls (lv_sub hl [] rfl)
      · have hr1 := it_f c_3 hr1
        refine lv_iconst (v := 0) hx hb dX3_scale_10 (by decide) ?_
        refine lv_istore (lv' := [(4, .int (0 : Int32)), (0, .ref ah), (1, .int a0), (2, .int a1), (3, .int i_1)]) hx hb dX3_scale_11 hl (by decide) rfl (fun ls hl => ?_)
        obtain ⟨w2, hw2, hk2⟩ := bd1_s hr1
        have hX2 : ∀ (x_13 : Nat → Int32), w2 = x_13 → ∀ (H : Heap) (locs : List Loc), va_P D cls9 (wR cI ah an L room width powers pp columns count x_13) H → va_D A (wR cI ah an L room width powers pp columns count x_13) → va_S A s.heap H locs → ∀ (ls : Array Slot), lv_has ls 5 [(0, .ref ah), (1, .int a0), (2, .int a1), (3, .int i_1)] → W p l e rm_X3_scale s m args below meth c H locs 0 0 Q (F0 m 46 ls []) := by
          intro x_13 hq H locs hP hD hS ls hl
          have hr1 := hk2 _ hq
          refine lv_iinc (v := (i_1 + 1)) (lv' := [(3, .int (i_1 + 1)), (0, .ref ah), (1, .int a0), (2, .int a1)]) hx hb dX3_scale_46 hl (k := 3) rfl rfl (by decide) rfl (fun ls hl => ?_)
          refine lv_goto (tgt := 2) hx hb dX3_scale_49 (by decide) ?_
          exact ih1 (i_1 + 1) x_13 (ht1 _ (Option.some.inj hr1).symm) H locs hP hD hS ls (lv_sub hl [1, 2, 3, 0] rfl)
        have hL2 : ∀ (n : Nat) (i_4 : Int32) (i_5 : Nat → Int32), lrun (fun (z : Int32 × (Nat → Int32)) => fX3_scale_s13 L room width powers pp a0 a1 i_1 z.1 z.2) n (i_4, i_5) = some w2 → ∀ (H : Heap) (locs : List Loc), va_P D cls9 (wR cI ah an L room width powers pp columns count i_5) H → va_D A (wR cI ah an L room width powers pp columns count i_5) → va_S A s.heap H locs → ∀ (ls : Array Slot), lv_has ls 5 [(0, .ref ah), (1, .int a0), (2, .int a1), (3, .int i_1), (4, .int i_4)] → W p l e rm_X3_scale s m args below meth c H locs 0 0 Q (F0 m 13 ls []) := by
          intro n
          induction n with
          | zero => intro i_4 i_5 h; cases h
          | succ n ih2 =>
            intro i_4 i_5 hr2 H locs hP hD hS ls hl
            obtain ⟨k, v2, hk, hr2, ht2, hv2⟩ := lrun_s hr2
            cases hk
            have hr2 : fX3_scale_s13 L room width powers pp a0 a1 i_1 i_4 i_5 = some v2 := hr2
            unfold fX3_scale_s13 at hr2
            refine lv_iload hx hb dX3_scale_13 (lv_at hl 4 rfl) ?_
            refine lv_aload_n hx hb dX3_scale_15 rfl (lv_at hl 0 rfl) ?_
            refine va_get (D := D) (ci := 3) (v := .int powers) (C := RX3) (T := TX3) (N := 7) hx hb hts iX3_scale_X3 hown hG.1 hP 0 rfl rfl 2 (by decide) (hts _ fX3_scale_2) (fun _ h9 => h9) rfl dX3_scale_16 ?_
            refine lv_icmp_ge (tgt := 46) hx hb dX3_scale_19 (by decide) (fun c_6 => ?_) (fun c_6 => ?_)
            · have hr2 := it_t c_6 hr2
              exact hX2 i_5 (hv2 _ (Option.some.inj hr2).symm).symm H locs hP hD hS ls (lv_sub hl [0, 1, 2, 3] rfl)
            · have hr2 := it_f c_6 hr2
              refine lv_aload_n hx hb dX3_scale_22 rfl (lv_at hl 0 rfl) ?_
              refine lv_iload_n hx hb dX3_scale_23 rfl (lv_at hl 1 rfl) ?_
              refine lv_iload_n hx hb dX3_scale_24 rfl (lv_at hl 3 rfl) ?_
              refine lv_iload hx hb dX3_scale_25 (lv_at hl 4 rfl) ?_
              refine lv_iload_n hx hb dX3_scale_27 rfl (lv_at hl 2 rfl) ?_
              refine lv_aload_n hx hb dX3_scale_28 rfl (lv_at hl 0 rfl) ?_
              refine lv_iload_n hx hb dX3_scale_29 rfl (lv_at hl 1 rfl) ?_
              refine lv_iload_n hx hb dX3_scale_30 rfl (lv_at hl 3 rfl) ?_
              refine lv_iload hx hb dX3_scale_31 (lv_at hl 4 rfl) ?_
              obtain ⟨v_9, hq_8, hk⟩ := bd1_s hr2
              obtain ⟨r_7, rfl⟩ : ∃ y, y = v_9 := ⟨_, rfl⟩
              have hr2 := hk _ rfl
              refine callIA (gV (rest := [.int a1, .int i_4, .int i_1, .int a0, .ref ah]) ⟨hx, hb, hml, hown, hts⟩ hG hP hD 0 3 rfl rfl (mtX3_at l D cI cB cR ah an H.size L room width powers pp columns count i_5 a0 i_1 i_4 r_7 hq_8) (cwV 3 hts gX3_scale_X3_at rfl rfl rfl ⟨rfl, hd_X3_at⟩ ⟨Nat.le_of_ble_eq_true rfl, Nat.le_of_ble_eq_true rfl⟩) rfl hl.1 rfl (Nat.le_of_ble_eq_true rfl) dX3_scale_33) hD hS hA (fun H locs hP hD hS => ?_)
              have hP : va_P D cls9 (wR cI ah an L room width powers pp columns count i_5) H := hP
              have hD : va_D A (wR cI ah an L room width powers pp columns count i_5) := hD
              refine lv_imul hx hb dX3_scale_36 ?_
              obtain ⟨v_12, hq_11, hk⟩ := bd1_s hr2
              obtain ⟨u_10, rfl⟩ : ∃ y, y = v_12 := ⟨_, rfl⟩
              have hr2 := hk _ rfl
              refine callVA (gV (rest := []) ⟨hx, hb, hml, hown, hts⟩ hG hP hD 0 3 rfl rfl (mtX3_put l D cI cB cR ah an H.size L room width powers pp columns count i_5 a0 i_1 i_4 (a1 * r_7) u_10 hq_11) (cwV 4 hts gX3_scale_X3_put rfl rfl rfl ⟨rfl, hd_X3_put⟩ ⟨Nat.le_of_ble_eq_true rfl, Nat.le_of_ble_eq_true rfl⟩) rfl hl.1 rfl (Nat.le_of_ble_eq_true rfl) dX3_scale_37) hD hS hA (fun H locs hP hD hS => ?_)
              have hP : va_P D cls9 (wR cI ah an L room width powers pp columns count u_10) H := hP
              have hD : va_D A (wR cI ah an L room width powers pp columns count u_10) := hD
              refine lv_iinc (v := (i_4 + 1)) (lv' := [(4, .int (i_4 + 1)), (0, .ref ah), (1, .int a0), (2, .int a1), (3, .int i_1)]) hx hb dX3_scale_40 hl (k := 4) rfl rfl (by decide) rfl (fun ls hl => ?_)
              refine lv_goto (tgt := 13) hx hb dX3_scale_43 (by decide) ?_
              exact ih2 (i_4 + 1) u_10 (ht2 _ (Option.some.inj hr2).symm) H locs hP hD hS ls (lv_sub hl [1, 2, 3, 4, 0] rfl)
        obtain ⟨n2, hn2⟩ := Lp_s hw2
        exact hL2 n2 (0 : Int32) i_2 hn2 H locs hP hD hS ls (lv_sub hl [1, 2, 3, 4, 0] rfl)
  obtain ⟨n1, hn1⟩ := Lp_s hw1
  exact hL1 n1 (0 : Int32) num hn1 H locs hP hD hS ls (lv_sub hl [1, 2, 3, 0] rfl)
abbrev rm_X3_append : Room := { frames := 4, cells := 0, slots := 0, locals := 92 }
theorem iX3_append_X3 : ∀ w ∈ wsX30, w ∈ wsX3_append := fun _ h => (List.mem_cons_of_mem _ (List.mem_append_right _ h))
theorem fX3_append_1 : Cond.fieldLink RX3 37 "PopovRows$Rows" "count" "I" ∈ wsX3_append := (List.mem_cons_of_mem _ (List.mem_append_left _ (List.mem_append_left _ (List.mem_of_getElem? (i := 0) rfl))))
theorem fX3_append_2 : Cond.fieldLink RX3 18 "PopovRows$Rows" "room" "I" ∈ wsX3_append := (List.mem_cons_of_mem _ (List.mem_append_left _ (List.mem_append_left _ (List.mem_of_getElem? (i := 1) rfl))))
set_option maxHeartbeats 4000000 in
set_option maxRecDepth 100000 in
theorem mtX3_append (l : Launch) (D : va_G) (cI cB cR : ClassId) (ah : Nat) (an : Nat) (sz : Nat) (L : Nat) (room : Int32) (width : Int32) (powers : Int32) (pp : Int32) (columns : Int32) (count : Int32) (num : Nat → Int32) (res : Int32 × Int32 × (Nat → Int32)) (hf : fX3_append L room width powers pp count num = some res) : Met l yX3_append wsX3_append rm_X3_append (qP D cI cB cR [.ref ah] (wR cI ah an L room width powers pp columns count num) sz) (qI D res.1 (wR cI ah an L room width powers pp columns count num) (wR cI ah an L room width powers pp columns res.2.1 res.2.2) sz) 0 0 (va_A (wR cI ah an L room width powers pp columns count num) sz) := by
  refine entI (plainFor_of_name (by decide)) rfl (Nat.le_of_ble_eq_true rfl) ?_
  intro p e s m args below meth c Q A ls S hG hP hD hA hl hE
  obtain ⟨hx, hb, hml, hown, hts⟩ := S
  have hown : s.vm.findClass RX3 = some m.cls := hown
  have hS : va_S A s.heap s.heap [] := va_S.rf
  have hl : lv_has ls 1 [(0, .ref ah)] := hl
  have hq := hf
  unfold fX3_append at hq
  obtain ⟨H, hH⟩ : ∃ H, H = s.heap := ⟨_, rfl⟩
  obtain ⟨locs, hlo⟩ : ∃ L : List Loc, L = [] := ⟨_, rfl⟩
  have hP : va_P D cls9 (wR cI ah an L room width powers pp columns count num) H := hH ▸ hP
  have hS : va_S A s.heap H locs := by rw [hH, hlo]; exact hS
  suffices hg : W p l e rm_X3_append s m args below meth c H locs 0 0 Q (F0 m 0 ls []) by rw [hH, hlo] at hg; exact hg
  refine lv_aload_n hx hb dX3_append_0 rfl (lv_at hl 0 rfl) ?_
  refine va_get (D := D) (ci := 3) (v := .int count) (C := RX3) (T := TX3) (N := 7) hx hb hts iX3_append_X3 hown hG.1 hP 0 rfl rfl 6 (by decide) (hts _ fX3_append_1) (fun _ h9 => h9) rfl dX3_append_1 ?_
  refine lv_aload_n hx hb dX3_append_4 rfl (lv_at hl 0 rfl) ?_
  refine va_get (D := D) (ci := 3) (v := .int room) (C := RX3) (T := TX3) (N := 7) hx hb hts iX3_append_X3 hown hG.1 hP 0 rfl rfl 0 (by decide) (hts _ fX3_append_2) (fun _ h9 => h9) rfl dX3_append_5 ?_
  refine lv_icmp_lt (tgt := 14) hx hb dX3_append_8 (by decide) (fun c_1 => ?_) (fun c_1 => ?_)
  · have hq := it_t c_1 hq
    refine lv_aload_n hx hb dX3_append_14 rfl (lv_at hl 0 rfl) ?_
    refine lv_dup hx hb dX3_append_15 rfl ?_
    refine va_get (D := D) (ci := 3) (v := .int count) (C := RX3) (T := TX3) (N := 7) hx hb hts iX3_append_X3 hown hG.1 hP 0 rfl rfl 6 (by decide) (hts _ fX3_append_1) (fun _ h9 => h9) rfl dX3_append_16 ?_
    refine lv_iconst (v := 1) hx hb dX3_append_19 (by decide) ?_
    refine lv_iadd hx hb dX3_append_20 ?_
    refine va_put (D := D) (ci := 3) (v := .int (count + (1 : Int32))) (ty := .int) (C := RX3) (T := TX3) (N := 7) hx hb hts iX3_append_X3 tyX3 tyX3_ok nmX3 hown hG.1 hP hD hS 0 rfl rfl 6 (by decide) (hts _ fX3_append_1) (fun _ h9 => h9) rfl (by decide +kernel) rfl rfl (Nat.le_of_ble_eq_true rfl) dX3_append_21 (fun H locs hP hD hS => ?_)
    have hP : va_P D cls9 (wR cI ah an L room width powers pp columns (count + (1 : Int32)) num) H := hP
    have hD : va_D A (wR cI ah an L room width powers pp columns (count + (1 : Int32)) num) := hD
    refine lv_aload_n hx hb dX3_append_24 rfl (lv_at hl 0 rfl) ?_
    refine lv_aload_n hx hb dX3_append_25 rfl (lv_at hl 0 rfl) ?_
    refine va_get (D := D) (ci := 3) (v := .int (count + (1 : Int32))) (C := RX3) (T := TX3) (N := 7) hx hb hts iX3_append_X3 hown hG.1 hP 0 rfl rfl 6 (by decide) (hts _ fX3_append_1) (fun _ h9 => h9) rfl dX3_append_26 ?_
    refine lv_iconst (v := 1) hx hb dX3_append_29 (by decide) ?_
    refine lv_isub hx hb dX3_append_30 ?_
    refine lv_iconst (v := 0) hx hb dX3_append_31 (by decide) ?_
    obtain ⟨v_4, hq_3, hk⟩ := bd1_s hq
    obtain ⟨u_2, rfl⟩ : ∃ y, y = v_4 := ⟨_, rfl⟩
    have hq := hk _ rfl
    refine callVA (gV (rest := []) ⟨hx, hb, hml, hown, hts⟩ hG hP hD 0 3 rfl rfl (mtX3_scale l D cI cB cR ah an H.size L room width powers pp columns (count + (1 : Int32)) num ((count + (1 : Int32)) - (1 : Int32)) (0 : Int32) u_2 hq_3) (cwV 2 hts gX3_append_X3_scale rfl rfl rfl ⟨rfl, hd_X3_scale⟩ ⟨Nat.le_of_ble_eq_true rfl, Nat.le_of_ble_eq_true rfl⟩) rfl hl.1 rfl (Nat.le_of_ble_eq_true rfl) dX3_append_32) hD hS hA (fun H locs hP hD hS => ?_)
    have hP : va_P D cls9 (wR cI ah an L room width powers pp columns (count + (1 : Int32)) u_2) H := hP
    have hD : va_D A (wR cI ah an L room width powers pp columns (count + (1 : Int32)) u_2) := hD
    refine lv_aload_n hx hb dX3_append_35 rfl (lv_at hl 0 rfl) ?_
    refine va_get (D := D) (ci := 3) (v := .int (count + (1 : Int32))) (C := RX3) (T := TX3) (N := 7) hx hb hts iX3_append_X3 hown hG.1 hP 0 rfl rfl 6 (by decide) (hts _ fX3_append_1) (fun _ h9 => h9) rfl dX3_append_36 ?_
    refine lv_iconst (v := 1) hx hb dX3_append_39 (by decide) ?_
    refine lv_isub hx hb dX3_append_40 ?_
    have he := Option.some.inj hq
    subst he
    exact hE H locs _ _ _ rfl dX3_append_41 hP hD hS
  · have hq := it_f c_1 hq
    refine lv_bipush (v := -4) hx hb dX3_append_11 (by decide) ?_
    have he := Option.some.inj hq
    subst he
    exact hE H locs _ _ _ rfl dX3_append_13 hP hD hS
abbrev rm_X3_remove : Room := { frames := 1, cells := 0, slots := 0, locals := 40 }
theorem iX3_remove_X3 : ∀ w ∈ wsX30, w ∈ wsX3_remove := fun _ h => (List.mem_cons_of_mem _ (List.mem_append_right _ h))
theorem fX3_remove_1 : Cond.fieldLink RX3 21 "PopovRows$Rows" "width" "I" ∈ wsX3_remove := (List.mem_cons_of_mem _ (List.mem_append_left _ (List.mem_of_getElem? (i := 0) rfl)))
theorem fX3_remove_2 : Cond.fieldLink RX3 24 "PopovRows$Rows" "powers" "I" ∈ wsX3_remove := (List.mem_cons_of_mem _ (List.mem_append_left _ (List.mem_of_getElem? (i := 1) rfl)))
theorem fX3_remove_3 : Cond.fieldLink RX3 33 "PopovRows$Rows" "numbers" "[I" ∈ wsX3_remove := (List.mem_cons_of_mem _ (List.mem_append_left _ (List.mem_of_getElem? (i := 2) rfl)))
theorem fX3_remove_4 : Cond.fieldLink RX3 37 "PopovRows$Rows" "count" "I" ∈ wsX3_remove := (List.mem_cons_of_mem _ (List.mem_append_left _ (List.mem_of_getElem? (i := 3) rfl)))
theorem fX3_remove_5 : Cond.methodLink RX3 51 arraycopyName ∈ wsX3_remove := (List.mem_cons_of_mem _ (List.mem_append_left _ (List.mem_of_getElem? (i := 4) rfl)))
theorem fX3_remove_6 : Cond.native arraycopyName ∈ wsX3_remove := (List.mem_cons_of_mem _ (List.mem_append_left _ (List.mem_of_getElem? (i := 5) rfl)))
theorem fX3_remove_7 : Cond.static arraycopyName ∈ wsX3_remove := (List.mem_cons_of_mem _ (List.mem_append_left _ (List.mem_of_getElem? (i := 6) rfl)))
theorem fX3_remove_8 : Cond.initialized "java/lang/System" ∈ wsX3_remove := (List.mem_cons_of_mem _ (List.mem_append_left _ (List.mem_of_getElem? (i := 7) rfl)))
set_option maxHeartbeats 4000000 in
set_option maxRecDepth 100000 in
theorem mtX3_remove (l : Launch) (D : va_G) (cI cB cR : ClassId) (ah : Nat) (an : Nat) (sz : Nat) (L : Nat) (room : Int32) (width : Int32) (powers : Int32) (pp : Int32) (columns : Int32) (count : Int32) (num : Nat → Int32) (a0 : Int32) (res : Int32 × (Nat → Int32)) (hf : fX3_remove L width powers count num a0 = some res) : Met l yX3_remove wsX3_remove rm_X3_remove (qP D cI cB cR [.ref ah, .int a0] (wR cI ah an L room width powers pp columns count num) sz) (qV D (wR cI ah an L room width powers pp columns count num) (wR cI ah an L room width powers pp columns res.1 res.2) sz) 0 0 (va_A (wR cI ah an L room width powers pp columns count num) sz) := by
  refine entV (plainFor_of_name (by decide)) rfl (Nat.le_of_ble_eq_true rfl) ?_
  intro p e s m args below meth c Q A ls S hG hP hD hA hl hE
  obtain ⟨hx, hb, hml, hown, hts⟩ := S
  have hown : s.vm.findClass RX3 = some m.cls := hown
  have hS : va_S A s.heap s.heap [] := va_S.rf
  have hl : lv_has ls 3 [(0, .ref ah), (1, .int a0)] := hl
  have hq := hf
  unfold fX3_remove at hq
  obtain ⟨H, hH⟩ : ∃ H, H = s.heap := ⟨_, rfl⟩
  obtain ⟨locs, hlo⟩ : ∃ L : List Loc, L = [] := ⟨_, rfl⟩
  have hP : va_P D cls9 (wR cI ah an L room width powers pp columns count num) H := hH ▸ hP
  have hS : va_S A s.heap H locs := by rw [hH, hlo]; exact hS
  suffices hg : W p l e rm_X3_remove s m args below meth c H locs 0 0 Q (F0 m 0 ls []) by rw [hH, hlo] at hg; exact hg
  refine lv_aload_n hx hb dX3_remove_0 rfl (lv_at hl 0 rfl) ?_
  refine lv_iload_n hx hb dX3_remove_1 rfl (lv_at hl 1 rfl) ?_
  refine callZA (gV (rest := []) ⟨hx, hb, hml, hown, hts⟩ hG hP hD 0 3 rfl rfl (mtX3_hasRow l D cI cB cR ah an H.size L room width powers pp columns count num a0 _ rfl) (cwV 1 hts gX3_remove_X3_hasRow rfl rfl rfl ⟨rfl, hd_X3_hasRow⟩ ⟨Nat.le_of_ble_eq_true rfl, Nat.le_of_ble_eq_true rfl⟩) rfl hl.1 rfl (Nat.le_of_ble_eq_true rfl) dX3_remove_2) hD hS hA (fun H locs z_1 hP hD hS => ?_)
  have hP : va_P D cls9 (wR cI ah an L room width powers pp columns count num) H := hP
  have hD : va_D A (wR cI ah an L room width powers pp columns count num) := hD
  refine lv_if_eq (tgt := 57) hx hb dX3_remove_5 (by decide) (fun c_2 => ?_) (fun c_2 => ?_)
  · have hq := it_t c_2 hq
    have he := Option.some.inj hq
    subst he
    exact hE H locs _ _ dX3_remove_57 hP hD hS
  · have hq := it_f c_2 hq
    refine lv_aload_n hx hb dX3_remove_8 rfl (lv_at hl 0 rfl) ?_
    refine va_get (D := D) (ci := 3) (v := .int width) (C := RX3) (T := TX3) (N := 7) hx hb hts iX3_remove_X3 hown hG.1 hP 0 rfl rfl 1 (by decide) (hts _ fX3_remove_1) (fun _ h9 => h9) rfl dX3_remove_9 ?_
    refine lv_aload_n hx hb dX3_remove_12 rfl (lv_at hl 0 rfl) ?_
    refine va_get (D := D) (ci := 3) (v := .int powers) (C := RX3) (T := TX3) (N := 7) hx hb hts iX3_remove_X3 hown hG.1 hP 0 rfl rfl 2 (by decide) (hts _ fX3_remove_2) (fun _ h9 => h9) rfl dX3_remove_13 ?_
    refine lv_imul hx hb dX3_remove_16 ?_
    refine lv_istore_n (lv' := [(2, .int (width * powers)), (0, .ref ah), (1, .int a0)]) hx hb dX3_remove_17 rfl hl (by decide) rfl (fun ls hl => ?_)
    refine lv_aload_n hx hb dX3_remove_18 rfl (lv_at hl 1 rfl) ?_
    refine va_get (D := D) (ci := 3) (v := .ref an) (C := RX3) (T := TX3) (N := 7) hx hb hts iX3_remove_X3 hown hG.1 hP 0 rfl rfl 3 (by decide) (hts _ fX3_remove_3) (fun _ h9 => h9) rfl dX3_remove_19 ?_
    refine lv_iload_n hx hb dX3_remove_22 rfl (lv_at hl 2 rfl) ?_
    refine lv_iconst (v := 1) hx hb dX3_remove_23 (by decide) ?_
    refine lv_iadd hx hb dX3_remove_24 ?_
    refine lv_iload_n hx hb dX3_remove_25 rfl (lv_at hl 0 rfl) ?_
    refine lv_imul hx hb dX3_remove_26 ?_
    refine lv_aload_n hx hb dX3_remove_27 rfl (lv_at hl 1 rfl) ?_
    refine va_get (D := D) (ci := 3) (v := .ref an) (C := RX3) (T := TX3) (N := 7) hx hb hts iX3_remove_X3 hown hG.1 hP 0 rfl rfl 3 (by decide) (hts _ fX3_remove_3) (fun _ h9 => h9) rfl dX3_remove_28 ?_
    refine lv_iload_n hx hb dX3_remove_31 rfl (lv_at hl 2 rfl) ?_
    refine lv_iload_n hx hb dX3_remove_32 rfl (lv_at hl 0 rfl) ?_
    refine lv_imul hx hb dX3_remove_33 ?_
    refine lv_aload_n hx hb dX3_remove_34 rfl (lv_at hl 1 rfl) ?_
    refine va_get (D := D) (ci := 3) (v := .int count) (C := RX3) (T := TX3) (N := 7) hx hb hts iX3_remove_X3 hown hG.1 hP 0 rfl rfl 6 (by decide) (hts _ fX3_remove_4) (fun _ h9 => h9) rfl dX3_remove_35 ?_
    refine lv_iconst (v := 1) hx hb dX3_remove_38 (by decide) ?_
    refine lv_isub hx hb dX3_remove_39 ?_
    refine lv_iload_n hx hb dX3_remove_40 rfl (lv_at hl 2 rfl) ?_
    refine lv_isub hx hb dX3_remove_41 ?_
    refine lv_iload_n hx hb dX3_remove_42 rfl (lv_at hl 0 rfl) ?_
    refine lv_imul hx hb dX3_remove_43 ?_
    obtain ⟨h_3, hq⟩ := gd_s hq
    obtain ⟨h_4, hq⟩ := gd_s hq
    obtain ⟨h_5, hq⟩ := gd_s hq
    obtain ⟨h_6, hq⟩ := gd_s hq
    obtain ⟨h_7, hq⟩ := gd_s hq
    refine va_copyi hx hb (hml.trans hl.1.symm) hown (hts _ fX3_remove_5) (hts _ fX3_remove_6) (hts _ fX3_remove_7) (hts _ fX3_remove_8) hG.1 hP hD hS 1 1 0 0 rfl rfl rfl rfl rfl h_3 h_4 h_5 h_6 h_7 (fun _ _ => rfl) (Nat.le_of_ble_eq_true rfl) (Nat.le_of_ble_eq_true rfl) dX3_remove_44 (fun H locs hP hD hS => ?_)
    have hP : va_P D cls9 (wR cI ah an L room width powers pp columns count (va_cpy num num ((a0 + (1 : Int32)) * (width * powers)).toNatClampNeg (a0 * (width * powers)).toNatClampNeg (((count - (1 : Int32)) - a0) * (width * powers)).toNatClampNeg)) H := hP
    have hD : va_D A (wR cI ah an L room width powers pp columns count (va_cpy num num ((a0 + (1 : Int32)) * (width * powers)).toNatClampNeg (a0 * (width * powers)).toNatClampNeg (((count - (1 : Int32)) - a0) * (width * powers)).toNatClampNeg)) := hD
    refine lv_aload_n hx hb dX3_remove_47 rfl (lv_at hl 1 rfl) ?_
    refine lv_dup hx hb dX3_remove_48 rfl ?_
    refine va_get (D := D) (ci := 3) (v := .int count) (C := RX3) (T := TX3) (N := 7) hx hb hts iX3_remove_X3 hown hG.1 hP 0 rfl rfl 6 (by decide) (hts _ fX3_remove_4) (fun _ h9 => h9) rfl dX3_remove_49 ?_
    refine lv_iconst (v := 1) hx hb dX3_remove_52 (by decide) ?_
    refine lv_isub hx hb dX3_remove_53 ?_
    refine va_put (D := D) (ci := 3) (v := .int (count - (1 : Int32))) (ty := .int) (C := RX3) (T := TX3) (N := 7) hx hb hts iX3_remove_X3 tyX3 tyX3_ok nmX3 hown hG.1 hP hD hS 0 rfl rfl 6 (by decide) (hts _ fX3_remove_4) (fun _ h9 => h9) rfl (by decide +kernel) rfl rfl (Nat.le_of_ble_eq_true rfl) dX3_remove_54 (fun H locs hP hD hS => ?_)
    have hP : va_P D cls9 (wR cI ah an L room width powers pp columns (count - (1 : Int32)) (va_cpy num num ((a0 + (1 : Int32)) * (width * powers)).toNatClampNeg (a0 * (width * powers)).toNatClampNeg (((count - (1 : Int32)) - a0) * (width * powers)).toNatClampNeg)) H := hP
    have hD : va_D A (wR cI ah an L room width powers pp columns (count - (1 : Int32)) (va_cpy num num ((a0 + (1 : Int32)) * (width * powers)).toNatClampNeg (a0 * (width * powers)).toNatClampNeg (((count - (1 : Int32)) - a0) * (width * powers)).toNatClampNeg)) := hD
    have he := Option.some.inj hq
    subst he
    exact hE H locs _ _ dX3_remove_57 hP hD hS
abbrev rm_X3_copyFrom : Room := { frames := 1, cells := 0, slots := 0, locals := 40 }
theorem iX3_copyFrom_X3 : ∀ w ∈ wsX30, w ∈ wsX3_copyFrom := fun _ h => (List.mem_cons_of_mem _ (List.mem_append_right _ h))
theorem fX3_copyFrom_1 : Cond.fieldLink RX3 9 "PopovRows$Rows" "p" "I" ∈ wsX3_copyFrom := (List.mem_cons_of_mem _ (List.mem_append_left _ (List.mem_of_getElem? (i := 0) rfl)))
theorem fX3_copyFrom_2 : Cond.fieldLink RX3 15 "PopovRows$Rows" "columns" "I" ∈ wsX3_copyFrom := (List.mem_cons_of_mem _ (List.mem_append_left _ (List.mem_of_getElem? (i := 1) rfl)))
theorem fX3_copyFrom_3 : Cond.fieldLink RX3 37 "PopovRows$Rows" "count" "I" ∈ wsX3_copyFrom := (List.mem_cons_of_mem _ (List.mem_append_left _ (List.mem_of_getElem? (i := 2) rfl)))
theorem fX3_copyFrom_4 : Cond.fieldLink RX3 33 "PopovRows$Rows" "numbers" "[I" ∈ wsX3_copyFrom := (List.mem_cons_of_mem _ (List.mem_append_left _ (List.mem_of_getElem? (i := 3) rfl)))
theorem fX3_copyFrom_5 : Cond.methodLink RX3 57 Lib.Math.min.name ∈ wsX3_copyFrom := (List.mem_cons_of_mem _ (List.mem_append_left _ (List.mem_of_getElem? (i := 4) rfl)))
theorem fX3_copyFrom_6 : Cond.static Lib.Math.min.name ∈ wsX3_copyFrom := (List.mem_cons_of_mem _ (List.mem_append_left _ (List.mem_of_getElem? (i := 5) rfl)))
theorem fX3_copyFrom_7 : Cond.initialized "java/lang/Math" ∈ wsX3_copyFrom := (List.mem_cons_of_mem _ (List.mem_append_left _ (List.mem_of_getElem? (i := 6) rfl)))
theorem fX3_copyFrom_8 : Cond.code Lib.Math.min.name Lib.Math.min.code 2 (some .int) ∈ wsX3_copyFrom := (List.mem_cons_of_mem _ (List.mem_append_left _ (List.mem_of_getElem? (i := 7) rfl)))
theorem fX3_copyFrom_9 : Cond.methodLink RX3 51 arraycopyName ∈ wsX3_copyFrom := (List.mem_cons_of_mem _ (List.mem_append_left _ (List.mem_of_getElem? (i := 8) rfl)))
theorem fX3_copyFrom_10 : Cond.native arraycopyName ∈ wsX3_copyFrom := (List.mem_cons_of_mem _ (List.mem_append_left _ (List.mem_of_getElem? (i := 9) rfl)))
theorem fX3_copyFrom_11 : Cond.static arraycopyName ∈ wsX3_copyFrom := (List.mem_cons_of_mem _ (List.mem_append_left _ (List.mem_of_getElem? (i := 10) rfl)))
theorem fX3_copyFrom_12 : Cond.initialized "java/lang/System" ∈ wsX3_copyFrom := (List.mem_cons_of_mem _ (List.mem_append_left _ (List.mem_of_getElem? (i := 11) rfl)))
set_option maxHeartbeats 4000000 in
set_option maxRecDepth 100000 in
theorem mtX3_copyFrom (l : Launch) (D : va_G) (cI cB cR : ClassId) (ah : Nat) (an : Nat) (qah : Nat) (qan : Nat) (sz : Nat) (L : Nat) (room : Int32) (width : Int32) (powers : Int32) (pp : Int32) (columns : Int32) (count : Int32) (num : Nat → Int32) (qL : Nat) (qroom : Int32) (qwidth : Int32) (qpowers : Int32) (qpp : Int32) (qcolumns : Int32) (qcount : Int32) (qnum : Nat → Int32) (res : Int32 × Int32 × Int32 × (Nat → Int32)) (hf : fX3_copyFrom L num qL qpp qcolumns qcount qnum = some res) : Met l yX3_copyFrom wsX3_copyFrom rm_X3_copyFrom (qP D cI cB cR [.ref ah, .ref qah] ((wR cI ah an L room width powers pp columns count num) ++ (wR cI qah qan qL qroom qwidth qpowers qpp qcolumns qcount qnum)) sz) (qV D ((wR cI ah an L room width powers pp columns count num) ++ (wR cI qah qan qL qroom qwidth qpowers qpp qcolumns qcount qnum)) ((wR cI ah an L room width powers res.1 res.2.1 res.2.2.1 res.2.2.2) ++ (wR cI qah qan qL qroom qwidth qpowers qpp qcolumns qcount qnum)) sz) 0 0 (va_A ((wR cI ah an L room width powers pp columns count num) ++ (wR cI qah qan qL qroom qwidth qpowers qpp qcolumns qcount qnum)) sz) := by
  refine entV (plainFor_of_name (by decide)) rfl (Nat.le_of_ble_eq_true rfl) ?_
  intro p e s m args below meth c Q A ls S hG hP hD hA hl hE
  obtain ⟨hx, hb, hml, hown, hts⟩ := S
  have hown : s.vm.findClass RX3 = some m.cls := hown
  have hS : va_S A s.heap s.heap [] := va_S.rf
  have hl : lv_has ls 2 [(0, .ref ah), (1, .ref qah)] := hl
  have hq := hf
  unfold fX3_copyFrom at hq
  obtain ⟨H, hH⟩ : ∃ H, H = s.heap := ⟨_, rfl⟩
  obtain ⟨locs, hlo⟩ : ∃ L : List Loc, L = [] := ⟨_, rfl⟩
  have hP : va_P D cls9 ((wR cI ah an L room width powers pp columns count num) ++ (wR cI qah qan qL qroom qwidth qpowers qpp qcolumns qcount qnum)) H := hH ▸ hP
  have hS : va_S A s.heap H locs := by rw [hH, hlo]; exact hS
  suffices hg : W p l e rm_X3_copyFrom s m args below meth c H locs 0 0 Q (F0 m 0 ls []) by rw [hH, hlo] at hg; exact hg
  refine lv_aload_n hx hb dX3_copyFrom_0 rfl (lv_at hl 0 rfl) ?_
  refine lv_aload_n hx hb dX3_copyFrom_1 rfl (lv_at hl 1 rfl) ?_
  refine va_get (D := D) (ci := 3) (v := .int qpp) (C := RX3) (T := TX3) (N := 7) hx hb hts iX3_copyFrom_X3 hown hG.1 hP 2 rfl rfl 4 (by decide) (hts _ fX3_copyFrom_1) (fun _ h9 => h9) rfl dX3_copyFrom_2 ?_
  refine va_put (D := D) (ci := 3) (v := .int qpp) (ty := .int) (C := RX3) (T := TX3) (N := 7) hx hb hts iX3_copyFrom_X3 tyX3 tyX3_ok nmX3 hown hG.1 hP hD hS 0 rfl rfl 4 (by decide) (hts _ fX3_copyFrom_1) (fun _ h9 => h9) rfl (by decide +kernel) rfl rfl (Nat.le_of_ble_eq_true rfl) dX3_copyFrom_5 (fun H locs hP hD hS => ?_)
  have hP : va_P D cls9 ((wR cI ah an L room width powers qpp columns count num) ++ (wR cI qah qan qL qroom qwidth qpowers qpp qcolumns qcount qnum)) H := hP
  have hD : va_D A ((wR cI ah an L room width powers qpp columns count num) ++ (wR cI qah qan qL qroom qwidth qpowers qpp qcolumns qcount qnum)) := hD
  refine lv_aload_n hx hb dX3_copyFrom_8 rfl (lv_at hl 0 rfl) ?_
  refine lv_aload_n hx hb dX3_copyFrom_9 rfl (lv_at hl 1 rfl) ?_
  refine va_get (D := D) (ci := 3) (v := .int qcolumns) (C := RX3) (T := TX3) (N := 7) hx hb hts iX3_copyFrom_X3 hown hG.1 hP 2 rfl rfl 5 (by decide) (hts _ fX3_copyFrom_2) (fun _ h9 => h9) rfl dX3_copyFrom_10 ?_
  refine va_put (D := D) (ci := 3) (v := .int qcolumns) (ty := .int) (C := RX3) (T := TX3) (N := 7) hx hb hts iX3_copyFrom_X3 tyX3 tyX3_ok nmX3 hown hG.1 hP hD hS 0 rfl rfl 5 (by decide) (hts _ fX3_copyFrom_2) (fun _ h9 => h9) rfl (by decide +kernel) rfl rfl (Nat.le_of_ble_eq_true rfl) dX3_copyFrom_13 (fun H locs hP hD hS => ?_)
  have hP : va_P D cls9 ((wR cI ah an L room width powers qpp qcolumns count num) ++ (wR cI qah qan qL qroom qwidth qpowers qpp qcolumns qcount qnum)) H := hP
  have hD : va_D A ((wR cI ah an L room width powers qpp qcolumns count num) ++ (wR cI qah qan qL qroom qwidth qpowers qpp qcolumns qcount qnum)) := hD
  refine lv_aload_n hx hb dX3_copyFrom_16 rfl (lv_at hl 0 rfl) ?_
  refine lv_aload_n hx hb dX3_copyFrom_17 rfl (lv_at hl 1 rfl) ?_
  refine va_get (D := D) (ci := 3) (v := .int qcount) (C := RX3) (T := TX3) (N := 7) hx hb hts iX3_copyFrom_X3 hown hG.1 hP 2 rfl rfl 6 (by decide) (hts _ fX3_copyFrom_3) (fun _ h9 => h9) rfl dX3_copyFrom_18 ?_
  refine va_put (D := D) (ci := 3) (v := .int qcount) (ty := .int) (C := RX3) (T := TX3) (N := 7) hx hb hts iX3_copyFrom_X3 tyX3 tyX3_ok nmX3 hown hG.1 hP hD hS 0 rfl rfl 6 (by decide) (hts _ fX3_copyFrom_3) (fun _ h9 => h9) rfl (by decide +kernel) rfl rfl (Nat.le_of_ble_eq_true rfl) dX3_copyFrom_21 (fun H locs hP hD hS => ?_)
  have hP : va_P D cls9 ((wR cI ah an L room width powers qpp qcolumns qcount num) ++ (wR cI qah qan qL qroom qwidth qpowers qpp qcolumns qcount qnum)) H := hP
  have hD : va_D A ((wR cI ah an L room width powers qpp qcolumns qcount num) ++ (wR cI qah qan qL qroom qwidth qpowers qpp qcolumns qcount qnum)) := hD
  refine lv_aload_n hx hb dX3_copyFrom_24 rfl (lv_at hl 1 rfl) ?_
  refine va_get (D := D) (ci := 3) (v := .ref qan) (C := RX3) (T := TX3) (N := 7) hx hb hts iX3_copyFrom_X3 hown hG.1 hP 2 rfl rfl 3 (by decide) (hts _ fX3_copyFrom_4) (fun _ h9 => h9) rfl dX3_copyFrom_25 ?_
  refine lv_iconst (v := 0) hx hb dX3_copyFrom_28 (by decide) ?_
  refine lv_aload_n hx hb dX3_copyFrom_29 rfl (lv_at hl 0 rfl) ?_
  refine va_get (D := D) (ci := 3) (v := .ref an) (C := RX3) (T := TX3) (N := 7) hx hb hts iX3_copyFrom_X3 hown hG.1 hP 0 rfl rfl 3 (by decide) (hts _ fX3_copyFrom_4) (fun _ h9 => h9) rfl dX3_copyFrom_30 ?_
  refine lv_iconst (v := 0) hx hb dX3_copyFrom_33 (by decide) ?_
  refine lv_aload_n hx hb dX3_copyFrom_34 rfl (lv_at hl 0 rfl) ?_
  refine va_get (D := D) (ci := 3) (v := .ref an) (C := RX3) (T := TX3) (N := 7) hx hb hts iX3_copyFrom_X3 hown hG.1 hP 0 rfl rfl 3 (by decide) (hts _ fX3_copyFrom_4) (fun _ h9 => h9) rfl dX3_copyFrom_35 ?_
  refine va_alen (v := (Int32.ofNat L)) hx hb hG.1 hP 1 0 rfl rfl rfl dX3_copyFrom_38 ?_
  refine lv_aload_n hx hb dX3_copyFrom_39 rfl (lv_at hl 1 rfl) ?_
  refine va_get (D := D) (ci := 3) (v := .ref qan) (C := RX3) (T := TX3) (N := 7) hx hb hts iX3_copyFrom_X3 hown hG.1 hP 2 rfl rfl 3 (by decide) (hts _ fX3_copyFrom_4) (fun _ h9 => h9) rfl dX3_copyFrom_40 ?_
  refine va_alen (v := (Int32.ofNat qL)) hx hb hG.1 hP 3 0 rfl rfl rfl dX3_copyFrom_43 ?_
  refine va_mmin hx hb (hml.trans hl.1.symm) hown (hts _ fX3_copyFrom_5) (hts _ fX3_copyFrom_6) (hts _ fX3_copyFrom_7) (hts _ fX3_copyFrom_8) (Nat.le_of_ble_eq_true rfl) (Nat.le_of_ble_eq_true rfl) (Nat.zero_le _) (Nat.zero_le _) dX3_copyFrom_44 ?_
  refine lv_asi (y := (min32 (Int32.ofNat L) (Int32.ofNat qL))) rfl ?_
  obtain ⟨h_1, hq⟩ := gd_s hq
  obtain ⟨h_2, hq⟩ := gd_s hq
  obtain ⟨h_3, hq⟩ := gd_s hq
  obtain ⟨h_4, hq⟩ := gd_s hq
  obtain ⟨h_5, hq⟩ := gd_s hq
  refine va_copyi hx hb (hml.trans hl.1.symm) hown (hts _ fX3_copyFrom_9) (hts _ fX3_copyFrom_10) (hts _ fX3_copyFrom_11) (hts _ fX3_copyFrom_12) hG.1 hP hD hS 3 1 0 0 rfl rfl rfl rfl rfl h_1 h_2 h_3 h_4 h_5 (fun _ _ => rfl) (Nat.le_of_ble_eq_true rfl) (Nat.le_of_ble_eq_true rfl) dX3_copyFrom_47 (fun H locs hP hD hS => ?_)
  have hP : va_P D cls9 ((wR cI ah an L room width powers qpp qcolumns qcount (va_cpy qnum num (0 : Int32).toNatClampNeg (0 : Int32).toNatClampNeg (min32 (Int32.ofNat L) (Int32.ofNat qL)).toNatClampNeg)) ++ (wR cI qah qan qL qroom qwidth qpowers qpp qcolumns qcount qnum)) H := hP
  have hD : va_D A ((wR cI ah an L room width powers qpp qcolumns qcount (va_cpy qnum num (0 : Int32).toNatClampNeg (0 : Int32).toNatClampNeg (min32 (Int32.ofNat L) (Int32.ofNat qL)).toNatClampNeg)) ++ (wR cI qah qan qL qroom qwidth qpowers qpp qcolumns qcount qnum)) := hD
  have he := Option.some.inj hq
  subst he
  exact hE H locs _ _ dX3_copyFrom_50 hP hD hS
abbrev rm_X3_swap : Room := { frames := 3, cells := 0, slots := 0, locals := 68 }
theorem iX3_swap_X3 : ∀ w ∈ wsX30, w ∈ wsX3_swap := fun _ h => (List.mem_cons_of_mem _ (List.mem_append_right _ h))
theorem fX3_swap_1 : Cond.fieldLink RX3 21 "PopovRows$Rows" "width" "I" ∈ wsX3_swap := (List.mem_cons_of_mem _ (List.mem_append_left _ (List.mem_of_getElem? (i := 0) rfl)))
theorem fX3_swap_2 : Cond.fieldLink RX3 24 "PopovRows$Rows" "powers" "I" ∈ wsX3_swap := (List.mem_cons_of_mem _ (List.mem_append_left _ (List.mem_of_getElem? (i := 1) rfl)))
set_option maxHeartbeats 4000000 in
set_option maxRecDepth 100000 in
theorem mtX3_swap (l : Launch) (D : va_G) (cI cB cR : ClassId) (ah : Nat) (an : Nat) (sz : Nat) (L : Nat) (room : Int32) (width : Int32) (powers : Int32) (pp : Int32) (columns : Int32) (count : Int32) (num : Nat → Int32) (a0 : Int32) (a1 : Int32) (res : Nat → Int32) (hf : fX3_swap L room width powers pp num a0 a1 = some res) : Met l yX3_swap wsX3_swap rm_X3_swap (qP D cI cB cR [.ref ah, .int a0, .int a1] (wR cI ah an L room width powers pp columns count num) sz) (qV D (wR cI ah an L room width powers pp columns count num) (wR cI ah an L room width powers pp columns count res) sz) 0 0 (va_A (wR cI ah an L room width powers pp columns count num) sz) := by
  refine entV (plainFor_of_name (by decide)) rfl (Nat.le_of_ble_eq_true rfl) ?_
  intro p e s m args below meth c Q A ls S hG hP hD hA hl hE
  obtain ⟨hx, hb, hml, hown, hts⟩ := S
  have hown : s.vm.findClass RX3 = some m.cls := hown
  have hS : va_S A s.heap s.heap [] := va_S.rf
  have hl : lv_has ls 6 [(0, .ref ah), (1, .int a0), (2, .int a1)] := hl
  have hq := hf
  unfold fX3_swap at hq
  obtain ⟨H, hH⟩ : ∃ H, H = s.heap := ⟨_, rfl⟩
  obtain ⟨locs, hlo⟩ : ∃ L : List Loc, L = [] := ⟨_, rfl⟩
  have hP : va_P D cls9 (wR cI ah an L room width powers pp columns count num) H := hH ▸ hP
  have hS : va_S A s.heap H locs := by rw [hH, hlo]; exact hS
  suffices hg : W p l e rm_X3_swap s m args below meth c H locs 0 0 Q (F0 m 0 ls []) by rw [hH, hlo] at hg; exact hg
  refine lv_iconst (v := 0) hx hb dX3_swap_0 (by decide) ?_
  refine lv_istore_n (lv' := [(3, .int (0 : Int32)), (0, .ref ah), (1, .int a0), (2, .int a1)]) hx hb dX3_swap_1 rfl hl (by decide) rfl (fun ls hl => ?_)
  obtain ⟨w1, hw1, hk1⟩ := bd1_s hq
  have hX1 : ∀ (x_20 : Nat → Int32), w1 = x_20 → ∀ (H : Heap) (locs : List Loc), va_P D cls9 (wR cI ah an L room width powers pp columns count x_20) H → va_D A (wR cI ah an L room width powers pp columns count x_20) → va_S A s.heap H locs → ∀ (ls : Array Slot), lv_has ls 6 [] → W p l e rm_X3_swap s m args below meth c H locs 0 0 Q (F0 m 70 ls []) := by
    intro x_20 hq H locs hP hD hS ls hl
    have hq := hk1 _ hq
    have he := Option.some.inj hq
    subst he
    exact hE H locs _ _ dX3_swap_70 hP hD hS
  have hL1 : ∀ (n : Nat) (i_1 : Int32) (i_2 : Nat → Int32), lrun (fun (z : Int32 × (Nat → Int32)) => fX3_swap_s2 L room width powers pp a0 a1 z.1 z.2) n (i_1, i_2) = some w1 → ∀ (H : Heap) (locs : List Loc), va_P D cls9 (wR cI ah an L room width powers pp columns count i_2) H → va_D A (wR cI ah an L room width powers pp columns count i_2) → va_S A s.heap H locs → ∀ (ls : Array Slot), lv_has ls 6 [(0, .ref ah), (1, .int a0), (2, .int a1), (3, .int i_1)] → W p l e rm_X3_swap s m args below meth c H locs 0 0 Q (F0 m 2 ls []) := by
    intro n
    induction n with
    | zero => intro i_1 i_2 h; cases h
    | succ n ih1 =>
      intro i_1 i_2 hr1 H locs hP hD hS ls hl
      obtain ⟨k, v1, hk, hr1, ht1, hv1⟩ := lrun_s hr1
      cases hk
      have hr1 : fX3_swap_s2 L room width powers pp a0 a1 i_1 i_2 = some v1 := hr1
      unfold fX3_swap_s2 at hr1
      refine lv_iload_n hx hb dX3_swap_2 rfl (lv_at hl 3 rfl) ?_
      refine lv_aload_n hx hb dX3_swap_3 rfl (lv_at hl 0 rfl) ?_
      refine va_get (D := D) (ci := 3) (v := .int width) (C := RX3) (T := TX3) (N := 7) hx hb hts iX3_swap_X3 hown hG.1 hP 0 rfl rfl 1 (by decide) (hts _ fX3_swap_1) (fun _ h9 => h9) rfl dX3_swap_4 ?_
      refine lv_icmp_ge (tgt := 70) hx hb dX3_swap_7 (by decide) (fun c_3 => ?_) (fun c_3 => ?_)
      · have hr1 := it_t c_3 hr1
        exact hX1 i_2 (hv1 _ (Option.some.inj hr1).symm).symm H locs hP hD hS ls (lv_sub hl [] rfl)
      · have hr1 := it_f c_3 hr1
        refine lv_iconst (v := 0) hx hb dX3_swap_10 (by decide) ?_
        refine lv_istore (lv' := [(4, .int (0 : Int32)), (0, .ref ah), (1, .int a0), (2, .int a1), (3, .int i_1)]) hx hb dX3_swap_11 hl (by decide) rfl (fun ls hl => ?_)
        obtain ⟨w2, hw2, hk2⟩ := bd1_s hr1
        have hX2 : ∀ (x_19 : Nat → Int32), w2 = x_19 → ∀ (H : Heap) (locs : List Loc), va_P D cls9 (wR cI ah an L room width powers pp columns count x_19) H → va_D A (wR cI ah an L room width powers pp columns count x_19) → va_S A s.heap H locs → ∀ (ls : Array Slot), lv_has ls 6 [(0, .ref ah), (1, .int a0), (2, .int a1), (3, .int i_1)] → W p l e rm_X3_swap s m args below meth c H locs 0 0 Q (F0 m 64 ls []) := by
          intro x_19 hq H locs hP hD hS ls hl
          have hr1 := hk2 _ hq
          refine lv_iinc (v := (i_1 + 1)) (lv' := [(3, .int (i_1 + 1)), (0, .ref ah), (1, .int a0), (2, .int a1)]) hx hb dX3_swap_64 hl (k := 3) rfl rfl (by decide) rfl (fun ls hl => ?_)
          refine lv_goto (tgt := 2) hx hb dX3_swap_67 (by decide) ?_
          exact ih1 (i_1 + 1) x_19 (ht1 _ (Option.some.inj hr1).symm) H locs hP hD hS ls (lv_sub hl [1, 2, 3, 0] rfl)
        have hL2 : ∀ (n : Nat) (i_4 : Int32) (i_5 : Nat → Int32), lrun (fun (z : Int32 × (Nat → Int32)) => fX3_swap_s13 L room width powers pp a0 a1 i_1 z.1 z.2) n (i_4, i_5) = some w2 → ∀ (H : Heap) (locs : List Loc), va_P D cls9 (wR cI ah an L room width powers pp columns count i_5) H → va_D A (wR cI ah an L room width powers pp columns count i_5) → va_S A s.heap H locs → ∀ (ls : Array Slot), lv_has ls 6 [(0, .ref ah), (1, .int a0), (2, .int a1), (3, .int i_1), (4, .int i_4)] → W p l e rm_X3_swap s m args below meth c H locs 0 0 Q (F0 m 13 ls []) := by
          intro n
          induction n with
          | zero => intro i_4 i_5 h; cases h
          | succ n ih2 =>
            intro i_4 i_5 hr2 H locs hP hD hS ls hl
            obtain ⟨k, v2, hk, hr2, ht2, hv2⟩ := lrun_s hr2
            cases hk
            have hr2 : fX3_swap_s13 L room width powers pp a0 a1 i_1 i_4 i_5 = some v2 := hr2
            unfold fX3_swap_s13 at hr2
            refine lv_iload hx hb dX3_swap_13 (lv_at hl 4 rfl) ?_
            refine lv_aload_n hx hb dX3_swap_15 rfl (lv_at hl 0 rfl) ?_
            refine va_get (D := D) (ci := 3) (v := .int powers) (C := RX3) (T := TX3) (N := 7) hx hb hts iX3_swap_X3 hown hG.1 hP 0 rfl rfl 2 (by decide) (hts _ fX3_swap_2) (fun _ h9 => h9) rfl dX3_swap_16 ?_
            refine lv_icmp_ge (tgt := 64) hx hb dX3_swap_19 (by decide) (fun c_6 => ?_) (fun c_6 => ?_)
            · have hr2 := it_t c_6 hr2
              exact hX2 i_5 (hv2 _ (Option.some.inj hr2).symm).symm H locs hP hD hS ls (lv_sub hl [0, 1, 2, 3] rfl)
            · have hr2 := it_f c_6 hr2
              refine lv_aload_n hx hb dX3_swap_22 rfl (lv_at hl 0 rfl) ?_
              refine lv_iload_n hx hb dX3_swap_23 rfl (lv_at hl 1 rfl) ?_
              refine lv_iload_n hx hb dX3_swap_24 rfl (lv_at hl 3 rfl) ?_
              refine lv_iload hx hb dX3_swap_25 (lv_at hl 4 rfl) ?_
              obtain ⟨v_9, hq_8, hk⟩ := bd1_s hr2
              obtain ⟨r_7, rfl⟩ : ∃ y, y = v_9 := ⟨_, rfl⟩
              have hr2 := hk _ rfl
              refine callIA (gV (rest := []) ⟨hx, hb, hml, hown, hts⟩ hG hP hD 0 3 rfl rfl (mtX3_at l D cI cB cR ah an H.size L room width powers pp columns count i_5 a0 i_1 i_4 r_7 hq_8) (cwV 3 hts gX3_swap_X3_at rfl rfl rfl ⟨rfl, hd_X3_at⟩ ⟨Nat.le_of_ble_eq_true rfl, Nat.le_of_ble_eq_true rfl⟩) rfl hl.1 rfl (Nat.le_of_ble_eq_true rfl) dX3_swap_27) hD hS hA (fun H locs hP hD hS => ?_)
              have hP : va_P D cls9 (wR cI ah an L room width powers pp columns count i_5) H := hP
              have hD : va_D A (wR cI ah an L room width powers pp columns count i_5) := hD
              refine lv_istore (lv' := [(5, .int r_7), (0, .ref ah), (1, .int a0), (2, .int a1), (3, .int i_1), (4, .int i_4)]) hx hb dX3_swap_30 hl (by decide) rfl (fun ls hl => ?_)
              refine lv_aload_n hx hb dX3_swap_32 rfl (lv_at hl 1 rfl) ?_
              refine lv_iload_n hx hb dX3_swap_33 rfl (lv_at hl 2 rfl) ?_
              refine lv_iload_n hx hb dX3_swap_34 rfl (lv_at hl 4 rfl) ?_
              refine lv_iload hx hb dX3_swap_35 (lv_at hl 5 rfl) ?_
              refine lv_aload_n hx hb dX3_swap_37 rfl (lv_at hl 1 rfl) ?_
              refine lv_iload_n hx hb dX3_swap_38 rfl (lv_at hl 3 rfl) ?_
              refine lv_iload_n hx hb dX3_swap_39 rfl (lv_at hl 4 rfl) ?_
              refine lv_iload hx hb dX3_swap_40 (lv_at hl 5 rfl) ?_
              obtain ⟨v_12, hq_11, hk⟩ := bd1_s hr2
              obtain ⟨r_10, rfl⟩ : ∃ y, y = v_12 := ⟨_, rfl⟩
              have hr2 := hk _ rfl
              refine callIA (gV (rest := [.int i_4, .int i_1, .int a0, .ref ah]) ⟨hx, hb, hml, hown, hts⟩ hG hP hD 0 3 rfl rfl (mtX3_at l D cI cB cR ah an H.size L room width powers pp columns count i_5 a1 i_1 i_4 r_10 hq_11) (cwV 3 hts gX3_swap_X3_at rfl rfl rfl ⟨rfl, hd_X3_at⟩ ⟨Nat.le_of_ble_eq_true rfl, Nat.le_of_ble_eq_true rfl⟩) rfl hl.1 rfl (Nat.le_of_ble_eq_true rfl) dX3_swap_42) hD hS hA (fun H locs hP hD hS => ?_)
              have hP : va_P D cls9 (wR cI ah an L room width powers pp columns count i_5) H := hP
              have hD : va_D A (wR cI ah an L room width powers pp columns count i_5) := hD
              obtain ⟨v_15, hq_14, hk⟩ := bd1_s hr2
              obtain ⟨u_13, rfl⟩ : ∃ y, y = v_15 := ⟨_, rfl⟩
              have hr2 := hk _ rfl
              refine callVA (gV (rest := []) ⟨hx, hb, hml, hown, hts⟩ hG hP hD 0 3 rfl rfl (mtX3_put l D cI cB cR ah an H.size L room width powers pp columns count i_5 a0 i_1 i_4 r_10 u_13 hq_14) (cwV 4 hts gX3_swap_X3_put rfl rfl rfl ⟨rfl, hd_X3_put⟩ ⟨Nat.le_of_ble_eq_true rfl, Nat.le_of_ble_eq_true rfl⟩) rfl hl.1 rfl (Nat.le_of_ble_eq_true rfl) dX3_swap_45) hD hS hA (fun H locs hP hD hS => ?_)
              have hP : va_P D cls9 (wR cI ah an L room width powers pp columns count u_13) H := hP
              have hD : va_D A (wR cI ah an L room width powers pp columns count u_13) := hD
              refine lv_aload_n hx hb dX3_swap_48 rfl (lv_at hl 1 rfl) ?_
              refine lv_iload_n hx hb dX3_swap_49 rfl (lv_at hl 3 rfl) ?_
              refine lv_iload_n hx hb dX3_swap_50 rfl (lv_at hl 4 rfl) ?_
              refine lv_iload hx hb dX3_swap_51 (lv_at hl 5 rfl) ?_
              refine lv_iload hx hb dX3_swap_53 (lv_at hl 0 rfl) ?_
              obtain ⟨v_18, hq_17, hk⟩ := bd1_s hr2
              obtain ⟨u_16, rfl⟩ : ∃ y, y = v_18 := ⟨_, rfl⟩
              have hr2 := hk _ rfl
              refine callVA (gV (rest := []) ⟨hx, hb, hml, hown, hts⟩ hG hP hD 0 3 rfl rfl (mtX3_put l D cI cB cR ah an H.size L room width powers pp columns count u_13 a1 i_1 i_4 r_7 u_16 hq_17) (cwV 4 hts gX3_swap_X3_put rfl rfl rfl ⟨rfl, hd_X3_put⟩ ⟨Nat.le_of_ble_eq_true rfl, Nat.le_of_ble_eq_true rfl⟩) rfl hl.1 rfl (Nat.le_of_ble_eq_true rfl) dX3_swap_55) hD hS hA (fun H locs hP hD hS => ?_)
              have hP : va_P D cls9 (wR cI ah an L room width powers pp columns count u_16) H := hP
              have hD : va_D A (wR cI ah an L room width powers pp columns count u_16) := hD
              refine lv_iinc (v := (i_4 + 1)) (lv' := [(4, .int (i_4 + 1)), (5, .int r_7), (0, .ref ah), (1, .int a0), (2, .int a1), (3, .int i_1)]) hx hb dX3_swap_58 hl (k := 5) rfl rfl (by decide) rfl (fun ls hl => ?_)
              refine lv_goto (tgt := 13) hx hb dX3_swap_61 (by decide) ?_
              exact ih2 (i_4 + 1) u_16 (ht2 _ (Option.some.inj hr2).symm) H locs hP hD hS ls (lv_sub hl [2, 3, 4, 5, 0] rfl)
        obtain ⟨n2, hn2⟩ := Lp_s hw2
        exact hL2 n2 (0 : Int32) i_2 hn2 H locs hP hD hS ls (lv_sub hl [1, 2, 3, 4, 0] rfl)
  obtain ⟨n1, hn1⟩ := Lp_s hw1
  exact hL1 n1 (0 : Int32) num hn1 H locs hP hD hS ls (lv_sub hl [1, 2, 3, 0] rfl)
abbrev rm_X3_addTimes : Room := { frames := 3, cells := 0, slots := 0, locals := 68 }
theorem iX3_addTimes_X3 : ∀ w ∈ wsX30, w ∈ wsX3_addTimes := fun _ h => (List.mem_cons_of_mem _ (List.mem_append_right _ h))
theorem fX3_addTimes_1 : Cond.fieldLink RX3 21 "PopovRows$Rows" "width" "I" ∈ wsX3_addTimes := (List.mem_cons_of_mem _ (List.mem_append_left _ (List.mem_of_getElem? (i := 0) rfl)))
theorem fX3_addTimes_2 : Cond.fieldLink RX3 24 "PopovRows$Rows" "powers" "I" ∈ wsX3_addTimes := (List.mem_cons_of_mem _ (List.mem_append_left _ (List.mem_of_getElem? (i := 1) rfl)))
set_option maxHeartbeats 4000000 in
set_option maxRecDepth 100000 in
theorem mtX3_addTimes (l : Launch) (D : va_G) (cI cB cR : ClassId) (ah : Nat) (an : Nat) (qah : Nat) (qan : Nat) (sz : Nat) (L : Nat) (room : Int32) (width : Int32) (powers : Int32) (pp : Int32) (columns : Int32) (count : Int32) (num : Nat → Int32) (qL : Nat) (qroom : Int32) (qwidth : Int32) (qpowers : Int32) (qpp : Int32) (qcolumns : Int32) (qcount : Int32) (qnum : Nat → Int32) (a0 : Int32) (a2 : Int32) (a3 : Int32) (a4 : Int32) (res : Nat → Int32) (hf : fX3_addTimes L room width powers pp num qL qroom qwidth qpowers qnum a0 a2 a3 a4 = some res) : Met l yX3_addTimes wsX3_addTimes rm_X3_addTimes (qP D cI cB cR [.ref ah, .int a0, .ref qah, .int a2, .int a3, .int a4] ((wR cI ah an L room width powers pp columns count num) ++ (wR cI qah qan qL qroom qwidth qpowers qpp qcolumns qcount qnum)) sz) (qV D ((wR cI ah an L room width powers pp columns count num) ++ (wR cI qah qan qL qroom qwidth qpowers qpp qcolumns qcount qnum)) ((wR cI ah an L room width powers pp columns count res) ++ (wR cI qah qan qL qroom qwidth qpowers qpp qcolumns qcount qnum)) sz) 0 0 (va_A ((wR cI ah an L room width powers pp columns count num) ++ (wR cI qah qan qL qroom qwidth qpowers qpp qcolumns qcount qnum)) sz) := by
  refine entV (plainFor_of_name (by decide)) rfl (Nat.le_of_ble_eq_true rfl) ?_
  intro p e s m args below meth c Q A ls S hG hP hD hA hl hE
  obtain ⟨hx, hb, hml, hown, hts⟩ := S
  have hown : s.vm.findClass RX3 = some m.cls := hown
  have hS : va_S A s.heap s.heap [] := va_S.rf
  have hl : lv_has ls 9 [(0, .ref ah), (1, .int a0), (2, .ref qah), (3, .int a2), (4, .int a3), (5, .int a4)] := hl
  have hq := hf
  unfold fX3_addTimes at hq
  obtain ⟨H, hH⟩ : ∃ H, H = s.heap := ⟨_, rfl⟩
  obtain ⟨locs, hlo⟩ : ∃ L : List Loc, L = [] := ⟨_, rfl⟩
  have hP : va_P D cls9 ((wR cI ah an L room width powers pp columns count num) ++ (wR cI qah qan qL qroom qwidth qpowers qpp qcolumns qcount qnum)) H := hH ▸ hP
  have hS : va_S A s.heap H locs := by rw [hH, hlo]; exact hS
  suffices hg : W p l e rm_X3_addTimes s m args below meth c H locs 0 0 Q (F0 m 0 ls []) by rw [hH, hlo] at hg; exact hg
  refine lv_iconst (v := 0) hx hb dX3_addTimes_0 (by decide) ?_
  refine lv_istore (lv' := [(6, .int (0 : Int32)), (0, .ref ah), (1, .int a0), (2, .ref qah), (3, .int a2), (4, .int a3), (5, .int a4)]) hx hb dX3_addTimes_1 hl (by decide) rfl (fun ls hl => ?_)
  obtain ⟨w1, hw1, hk1⟩ := bd1_s hq
  have hX1 : ∀ (x_18 : Nat → Int32), w1 = x_18 → ∀ (H : Heap) (locs : List Loc), va_P D cls9 ((wR cI ah an L room width powers pp columns count x_18) ++ (wR cI qah qan qL qroom qwidth qpowers qpp qcolumns qcount qnum)) H → va_D A ((wR cI ah an L room width powers pp columns count x_18) ++ (wR cI qah qan qL qroom qwidth qpowers qpp qcolumns qcount qnum)) → va_S A s.heap H locs → ∀ (ls : Array Slot), lv_has ls 9 [] → W p l e rm_X3_addTimes s m args below meth c H locs 0 0 Q (F0 m 82 ls []) := by
    intro x_18 hq H locs hP hD hS ls hl
    have hq := hk1 _ hq
    have he := Option.some.inj hq
    subst he
    exact hE H locs _ _ dX3_addTimes_82 hP hD hS
  have hL1 : ∀ (n : Nat) (i_1 : Int32) (i_2 : Nat → Int32), lrun (fun (z : Int32 × (Nat → Int32)) => fX3_addTimes_s3 L room width powers pp qL qroom qwidth qpowers qnum a0 a2 a3 a4 z.1 z.2) n (i_1, i_2) = some w1 → ∀ (H : Heap) (locs : List Loc), va_P D cls9 ((wR cI ah an L room width powers pp columns count i_2) ++ (wR cI qah qan qL qroom qwidth qpowers qpp qcolumns qcount qnum)) H → va_D A ((wR cI ah an L room width powers pp columns count i_2) ++ (wR cI qah qan qL qroom qwidth qpowers qpp qcolumns qcount qnum)) → va_S A s.heap H locs → ∀ (ls : Array Slot), lv_has ls 9 [(0, .ref ah), (1, .int a0), (2, .ref qah), (3, .int a2), (4, .int a3), (5, .int a4), (6, .int i_1)] → W p l e rm_X3_addTimes s m args below meth c H locs 0 0 Q (F0 m 3 ls []) := by
    intro n
    induction n with
    | zero => intro i_1 i_2 h; cases h
    | succ n ih1 =>
      intro i_1 i_2 hr1 H locs hP hD hS ls hl
      obtain ⟨k, v1, hk, hr1, ht1, hv1⟩ := lrun_s hr1
      cases hk
      have hr1 : fX3_addTimes_s3 L room width powers pp qL qroom qwidth qpowers qnum a0 a2 a3 a4 i_1 i_2 = some v1 := hr1
      unfold fX3_addTimes_s3 at hr1
      refine lv_iload hx hb dX3_addTimes_3 (lv_at hl 6 rfl) ?_
      refine lv_aload_n hx hb dX3_addTimes_5 rfl (lv_at hl 0 rfl) ?_
      refine va_get (D := D) (ci := 3) (v := .int width) (C := RX3) (T := TX3) (N := 7) hx hb hts iX3_addTimes_X3 hown hG.1 hP 0 rfl rfl 1 (by decide) (hts _ fX3_addTimes_1) (fun _ h9 => h9) rfl dX3_addTimes_6 ?_
      refine lv_icmp_ge (tgt := 82) hx hb dX3_addTimes_9 (by decide) (fun c_3 => ?_) (fun c_3 => ?_)
      · have hr1 := it_t c_3 hr1
        exact hX1 i_2 (hv1 _ (Option.some.inj hr1).symm).symm H locs hP hD hS ls (lv_sub hl [] rfl)
      · have hr1 := it_f c_3 hr1
        refine lv_iconst (v := 0) hx hb dX3_addTimes_12 (by decide) ?_
        refine lv_istore (lv' := [(7, .int (0 : Int32)), (0, .ref ah), (1, .int a0), (2, .ref qah), (3, .int a2), (4, .int a3), (5, .int a4), (6, .int i_1)]) hx hb dX3_addTimes_13 hl (by decide) rfl (fun ls hl => ?_)
        obtain ⟨w2, hw2, hk2⟩ := bd1_s hr1
        have hX2 : ∀ (x_17 : Nat → Int32), w2 = x_17 → ∀ (H : Heap) (locs : List Loc), va_P D cls9 ((wR cI ah an L room width powers pp columns count x_17) ++ (wR cI qah qan qL qroom qwidth qpowers qpp qcolumns qcount qnum)) H → va_D A ((wR cI ah an L room width powers pp columns count x_17) ++ (wR cI qah qan qL qroom qwidth qpowers qpp qcolumns qcount qnum)) → va_S A s.heap H locs → ∀ (ls : Array Slot), lv_has ls 9 [(0, .ref ah), (1, .int a0), (2, .ref qah), (3, .int a2), (4, .int a3), (5, .int a4), (6, .int i_1)] → W p l e rm_X3_addTimes s m args below meth c H locs 0 0 Q (F0 m 76 ls []) := by
          intro x_17 hq H locs hP hD hS ls hl
          have hr1 := hk2 _ hq
          refine lv_iinc (v := (i_1 + 1)) (lv' := [(6, .int (i_1 + 1)), (0, .ref ah), (1, .int a0), (2, .ref qah), (3, .int a2), (4, .int a3), (5, .int a4)]) hx hb dX3_addTimes_76 hl (k := 6) rfl rfl (by decide) rfl (fun ls hl => ?_)
          refine lv_goto (tgt := 3) hx hb dX3_addTimes_79 (by decide) ?_
          exact ih1 (i_1 + 1) x_17 (ht1 _ (Option.some.inj hr1).symm) H locs hP hD hS ls (lv_sub hl [1, 2, 3, 4, 5, 6, 0] rfl)
        have hL2 : ∀ (n : Nat) (i_4 : Int32) (i_5 : Nat → Int32), lrun (fun (z : Int32 × (Nat → Int32)) => fX3_addTimes_s15 L room width powers pp qL qroom qwidth qpowers qnum a0 a2 a3 a4 i_1 z.1 z.2) n (i_4, i_5) = some w2 → ∀ (H : Heap) (locs : List Loc), va_P D cls9 ((wR cI ah an L room width powers pp columns count i_5) ++ (wR cI qah qan qL qroom qwidth qpowers qpp qcolumns qcount qnum)) H → va_D A ((wR cI ah an L room width powers pp columns count i_5) ++ (wR cI qah qan qL qroom qwidth qpowers qpp qcolumns qcount qnum)) → va_S A s.heap H locs → ∀ (ls : Array Slot), lv_has ls 9 [(0, .ref ah), (1, .int a0), (2, .ref qah), (3, .int a2), (4, .int a3), (5, .int a4), (6, .int i_1), (7, .int i_4)] → W p l e rm_X3_addTimes s m args below meth c H locs 0 0 Q (F0 m 15 ls []) := by
          intro n
          induction n with
          | zero => intro i_4 i_5 h; cases h
          | succ n ih2 =>
            intro i_4 i_5 hr2 H locs hP hD hS ls hl
            obtain ⟨k, v2, hk, hr2, ht2, hv2⟩ := lrun_s hr2
            cases hk
            have hr2 : fX3_addTimes_s15 L room width powers pp qL qroom qwidth qpowers qnum a0 a2 a3 a4 i_1 i_4 i_5 = some v2 := hr2
            unfold fX3_addTimes_s15 at hr2
            refine lv_iload hx hb dX3_addTimes_15 (lv_at hl 7 rfl) ?_
            refine lv_aload_n hx hb dX3_addTimes_17 rfl (lv_at hl 2 rfl) ?_
            refine va_get (D := D) (ci := 3) (v := .int qpowers) (C := RX3) (T := TX3) (N := 7) hx hb hts iX3_addTimes_X3 hown hG.1 hP 2 rfl rfl 2 (by decide) (hts _ fX3_addTimes_2) (fun _ h9 => h9) rfl dX3_addTimes_18 ?_
            refine lv_icmp_ge (tgt := 76) hx hb dX3_addTimes_21 (by decide) (fun c_6 => ?_) (fun c_6 => ?_)
            · have hr2 := it_t c_6 hr2
              exact hX2 i_5 (hv2 _ (Option.some.inj hr2).symm).symm H locs hP hD hS ls (lv_sub hl [0, 1, 2, 3, 4, 5, 6] rfl)
            · have hr2 := it_f c_6 hr2
              refine lv_iload hx hb dX3_addTimes_24 (lv_at hl 4 rfl) ?_
              refine lv_aload_n hx hb dX3_addTimes_26 rfl (lv_at hl 2 rfl) ?_
              refine lv_iload_n hx hb dX3_addTimes_27 rfl (lv_at hl 3 rfl) ?_
              refine lv_iload hx hb dX3_addTimes_28 (lv_at hl 6 rfl) ?_
              refine lv_iload hx hb dX3_addTimes_30 (lv_at hl 7 rfl) ?_
              obtain ⟨v_9, hq_8, hk⟩ := bd1_s hr2
              obtain ⟨r_7, rfl⟩ : ∃ y, y = v_9 := ⟨_, rfl⟩
              have hr2 := hk _ rfl
              have hPc : va_P D cls9 [(qah, .inr (3, [.int qroom, .int qwidth, .int qpowers, .ref qan, .int qpp, .int qcolumns, .int qcount])), (qan, .inl (cI, qL, .inl qnum))] H := hPsub hP [2, 3] rfl
              have hDc : va_D A [(qah, .inr (3, [.int qroom, .int qwidth, .int qpowers, .ref qan, .int qpp, .int qcolumns, .int qcount])), (qan, .inl (cI, qL, .inl qnum))] := hD.sub [2, 3] (by decide +kernel) rfl
              refine callIP (wr := [(ah, .inr (3, [.int room, .int width, .int powers, .ref an, .int pp, .int columns, .int count])), (an, .inl (cI, L, .inl i_5))]) (ws2 := ((wR cI ah an L room width powers pp columns count i_5) ++ (wR cI qah qan qL qroom qwidth qpowers qpp qcolumns qcount qnum))) (gV (rest := [.int a3]) ⟨hx, hb, hml, hown, hts⟩ hG hPc hDc 0 3 rfl rfl (mtX3_at l D cI cB cR qah qan H.size qL qroom qwidth qpowers qpp qcolumns qcount qnum a2 i_1 i_4 r_7 hq_8) (cwV 3 hts gX3_addTimes_X3_at rfl rfl rfl ⟨rfl, hd_X3_at⟩ ⟨Nat.le_of_ble_eq_true rfl, Nat.le_of_ble_eq_true rfl⟩) rfl hl.1 rfl (Nat.le_of_ble_eq_true rfl) dX3_addTimes_32) hP hD hS hA [2, 3] [0, 1] [0, 1, 2, 3] rfl rfl (by decide +kernel) (by decide +kernel) rfl (by decide +kernel) (fun H locs hP hD hS => ?_)
              refine lv_imul hx hb dX3_addTimes_35 ?_
              refine lv_istore (lv' := [(8, .int (a3 * r_7)), (0, .ref ah), (1, .int a0), (2, .ref qah), (3, .int a2), (4, .int a3), (5, .int a4), (6, .int i_1), (7, .int i_4)]) hx hb dX3_addTimes_36 hl (by decide) rfl (fun ls hl => ?_)
              refine lv_iload hx hb dX3_addTimes_38 (lv_at hl 0 rfl) ?_
              refine lv_if_eq (tgt := 70) hx hb dX3_addTimes_40 (by decide) (fun c_10 => ?_) (fun c_10 => ?_)
              · have hr2 := it_t c_10 hr2
                refine lv_iinc (v := (i_4 + 1)) (lv' := [(7, .int (i_4 + 1)), (8, .int (a3 * r_7)), (0, .ref ah), (1, .int a0), (2, .ref qah), (3, .int a2), (4, .int a3), (5, .int a4), (6, .int i_1)]) hx hb dX3_addTimes_70 hl (k := 8) rfl rfl (by decide) rfl (fun ls hl => ?_)
                refine lv_goto (tgt := 15) hx hb dX3_addTimes_73 (by decide) ?_
                exact ih2 (i_4 + 1) i_5 (ht2 _ (Option.some.inj hr2).symm) H locs hP hD hS ls (lv_sub hl [2, 3, 4, 5, 6, 7, 8, 0] rfl)
              · have hr2 := it_f c_10 hr2
                refine lv_aload_n hx hb dX3_addTimes_43 rfl (lv_at hl 1 rfl) ?_
                refine lv_iload_n hx hb dX3_addTimes_44 rfl (lv_at hl 2 rfl) ?_
                refine lv_iload hx hb dX3_addTimes_45 (lv_at hl 7 rfl) ?_
                refine lv_iload hx hb dX3_addTimes_47 (lv_at hl 8 rfl) ?_
                refine lv_iload hx hb dX3_addTimes_49 (lv_at hl 6 rfl) ?_
                refine lv_iadd hx hb dX3_addTimes_51 ?_
                refine lv_aload_n hx hb dX3_addTimes_52 rfl (lv_at hl 1 rfl) ?_
                refine lv_iload_n hx hb dX3_addTimes_53 rfl (lv_at hl 2 rfl) ?_
                refine lv_iload hx hb dX3_addTimes_54 (lv_at hl 7 rfl) ?_
                refine lv_iload hx hb dX3_addTimes_56 (lv_at hl 8 rfl) ?_
                refine lv_iload hx hb dX3_addTimes_58 (lv_at hl 6 rfl) ?_
                refine lv_iadd hx hb dX3_addTimes_60 ?_
                obtain ⟨v_13, hq_12, hk⟩ := bd1_s hr2
                obtain ⟨r_11, rfl⟩ : ∃ y, y = v_13 := ⟨_, rfl⟩
                have hr2 := hk _ rfl
                have hPc : va_P D cls9 [(ah, .inr (3, [.int room, .int width, .int powers, .ref an, .int pp, .int columns, .int count])), (an, .inl (cI, L, .inl i_5))] H := hPsub hP [0, 1] rfl
                have hDc : va_D A [(ah, .inr (3, [.int room, .int width, .int powers, .ref an, .int pp, .int columns, .int count])), (an, .inl (cI, L, .inl i_5))] := hD.sub [0, 1] (by decide +kernel) rfl
                refine callIP (wr := [(qah, .inr (3, [.int qroom, .int qwidth, .int qpowers, .ref qan, .int qpp, .int qcolumns, .int qcount])), (qan, .inl (cI, qL, .inl qnum))]) (ws2 := ((wR cI ah an L room width powers pp columns count i_5) ++ (wR cI qah qan qL qroom qwidth qpowers qpp qcolumns qcount qnum))) (gV (rest := [.int (i_4 + a4), .int i_1, .int a0, .ref ah]) ⟨hx, hb, hml, hown, hts⟩ hG hPc hDc 0 3 rfl rfl (mtX3_at l D cI cB cR ah an H.size L room width powers pp columns count i_5 a0 i_1 (i_4 + a4) r_11 hq_12) (cwV 3 hts gX3_addTimes_X3_at rfl rfl rfl ⟨rfl, hd_X3_at⟩ ⟨Nat.le_of_ble_eq_true rfl, Nat.le_of_ble_eq_true rfl⟩) rfl hl.1 rfl (Nat.le_of_ble_eq_true rfl) dX3_addTimes_61) hP hD hS hA [0, 1] [2, 3] [2, 3, 0, 1] rfl rfl (by decide +kernel) (by decide +kernel) rfl (by decide +kernel) (fun H locs hP hD hS => ?_)
                refine lv_iload hx hb dX3_addTimes_64 (lv_at hl 0 rfl) ?_
                refine lv_iadd hx hb dX3_addTimes_66 ?_
                obtain ⟨v_16, hq_15, hk⟩ := bd1_s hr2
                obtain ⟨u_14, rfl⟩ : ∃ y, y = v_16 := ⟨_, rfl⟩
                have hr2 := hk _ rfl
                have hPc : va_P D cls9 [(ah, .inr (3, [.int room, .int width, .int powers, .ref an, .int pp, .int columns, .int count])), (an, .inl (cI, L, .inl i_5))] H := hPsub hP [0, 1] rfl
                have hDc : va_D A [(ah, .inr (3, [.int room, .int width, .int powers, .ref an, .int pp, .int columns, .int count])), (an, .inl (cI, L, .inl i_5))] := hD.sub [0, 1] (by decide +kernel) rfl
                refine callVP (wr := [(qah, .inr (3, [.int qroom, .int qwidth, .int qpowers, .ref qan, .int qpp, .int qcolumns, .int qcount])), (qan, .inl (cI, qL, .inl qnum))]) (ws2 := ((wR cI ah an L room width powers pp columns count u_14) ++ (wR cI qah qan qL qroom qwidth qpowers qpp qcolumns qcount qnum))) (gV (rest := []) ⟨hx, hb, hml, hown, hts⟩ hG hPc hDc 0 3 rfl rfl (mtX3_put l D cI cB cR ah an H.size L room width powers pp columns count i_5 a0 i_1 (i_4 + a4) (r_11 + (a3 * r_7)) u_14 hq_15) (cwV 4 hts gX3_addTimes_X3_put rfl rfl rfl ⟨rfl, hd_X3_put⟩ ⟨Nat.le_of_ble_eq_true rfl, Nat.le_of_ble_eq_true rfl⟩) rfl hl.1 rfl (Nat.le_of_ble_eq_true rfl) dX3_addTimes_67) hP hD hS hA [0, 1] [2, 3] [2, 3, 0, 1] rfl rfl (by decide +kernel) (by decide +kernel) rfl (by decide +kernel) (fun H locs hP hD hS => ?_)
                refine lv_iinc (v := (i_4 + 1)) (lv' := [(7, .int (i_4 + 1)), (8, .int (a3 * r_7)), (0, .ref ah), (1, .int a0), (2, .ref qah), (3, .int a2), (4, .int a3), (5, .int a4), (6, .int i_1)]) hx hb dX3_addTimes_70 hl (k := 8) rfl rfl (by decide) rfl (fun ls hl => ?_)
                refine lv_goto (tgt := 15) hx hb dX3_addTimes_73 (by decide) ?_
                exact ih2 (i_4 + 1) u_14 (ht2 _ (Option.some.inj hr2).symm) H locs hP hD hS ls (lv_sub hl [2, 3, 4, 5, 6, 7, 8, 0] rfl)
        obtain ⟨n2, hn2⟩ := Lp_s hw2
        exact hL2 n2 (0 : Int32) i_2 hn2 H locs hP hD hS ls (lv_sub hl [1, 2, 3, 4, 5, 6, 7, 0] rfl)
  obtain ⟨n1, hn1⟩ := Lp_s hw1
  exact hL1 n1 (0 : Int32) num hn1 H locs hP hD hS ls (lv_sub hl [1, 2, 3, 4, 5, 6, 0] rfl)
