theorem hd_X7_about : yX7_about.cls ≠ "java/lang/invoke/MethodHandle" ∧ yX7_about.cls ≠ "java/lang/invoke/VarHandle" ∧ (parseMethodDescriptor yX7_about.desc).map (fun d => d.parameters.length) = some 2 := by decide +kernel
theorem hd_X7_back : yX7_back.cls ≠ "java/lang/invoke/MethodHandle" ∧ yX7_back.cls ≠ "java/lang/invoke/VarHandle" ∧ (parseMethodDescriptor yX7_back.desc).map (fun d => d.parameters.length) = some 0 := by decide +kernel
theorem hd_X7_clear : yX7_clear.cls ≠ "java/lang/invoke/MethodHandle" ∧ yX7_clear.cls ≠ "java/lang/invoke/VarHandle" ∧ (parseMethodDescriptor yX7_clear.desc).map (fun d => d.parameters.length) = some 0 := by decide +kernel
theorem hd_X7_columns : yX7_columns.cls ≠ "java/lang/invoke/MethodHandle" ∧ yX7_columns.cls ≠ "java/lang/invoke/VarHandle" ∧ (parseMethodDescriptor yX7_columns.desc).map (fun d => d.parameters.length) = some 1 := by decide +kernel
theorem hd_X7_det : yX7_det.cls ≠ "java/lang/invoke/MethodHandle" ∧ yX7_det.cls ≠ "java/lang/invoke/VarHandle" ∧ (parseMethodDescriptor yX7_det.desc).map (fun d => d.parameters.length) = some 2 := by decide +kernel
theorem hd_X7_digest : yX7_digest.cls ≠ "java/lang/invoke/MethodHandle" ∧ yX7_digest.cls ≠ "java/lang/invoke/VarHandle" ∧ (parseMethodDescriptor yX7_digest.desc).map (fun d => d.parameters.length) = some 0 := by decide +kernel
theorem hd_X7_drops : yX7_drops.cls ≠ "java/lang/invoke/MethodHandle" ∧ yX7_drops.cls ≠ "java/lang/invoke/VarHandle" ∧ (parseMethodDescriptor yX7_drops.desc).map (fun d => d.parameters.length) = some 1 := by decide +kernel
theorem hd_X7_factor : yX7_factor.cls ≠ "java/lang/invoke/MethodHandle" ∧ yX7_factor.cls ≠ "java/lang/invoke/VarHandle" ∧ (parseMethodDescriptor yX7_factor.desc).map (fun d => d.parameters.length) = some 4 := by decide +kernel
theorem hd_X7_form : yX7_form.cls ≠ "java/lang/invoke/MethodHandle" ∧ yX7_form.cls ≠ "java/lang/invoke/VarHandle" ∧ (parseMethodDescriptor yX7_form.desc).map (fun d => d.parameters.length) = some 4 := by decide +kernel
theorem hd_X7_least : yX7_least.cls ≠ "java/lang/invoke/MethodHandle" ∧ yX7_least.cls ≠ "java/lang/invoke/VarHandle" ∧ (parseMethodDescriptor yX7_least.desc).map (fun d => d.parameters.length) = some 1 := by decide +kernel
theorem hd_X7_made : yX7_made.cls ≠ "java/lang/invoke/MethodHandle" ∧ yX7_made.cls ≠ "java/lang/invoke/VarHandle" ∧ (parseMethodDescriptor yX7_made.desc).map (fun d => d.parameters.length) = some 2 := by decide +kernel
theorem hd_X7_monic : yX7_monic.cls ≠ "java/lang/invoke/MethodHandle" ∧ yX7_monic.cls ≠ "java/lang/invoke/VarHandle" ∧ (parseMethodDescriptor yX7_monic.desc).map (fun d => d.parameters.length) = some 1 := by decide +kernel
theorem hd_X7_next : yX7_next.cls ≠ "java/lang/invoke/MethodHandle" ∧ yX7_next.cls ≠ "java/lang/invoke/VarHandle" ∧ (parseMethodDescriptor yX7_next.desc).map (fun d => d.parameters.length) = some 1 := by decide +kernel
theorem hd_X7_of : yX7_of.cls ≠ "java/lang/invoke/MethodHandle" ∧ yX7_of.cls ≠ "java/lang/invoke/VarHandle" ∧ (parseMethodDescriptor yX7_of.desc).map (fun d => d.parameters.length) = some 3 := by decide +kernel
theorem hd_X7_prime : yX7_prime.cls ≠ "java/lang/invoke/MethodHandle" ∧ yX7_prime.cls ≠ "java/lang/invoke/VarHandle" ∧ (parseMethodDescriptor yX7_prime.desc).map (fun d => d.parameters.length) = some 1 := by decide +kernel
theorem hd_X7_quotient : yX7_quotient.cls ≠ "java/lang/invoke/MethodHandle" ∧ yX7_quotient.cls ≠ "java/lang/invoke/VarHandle" ∧ (parseMethodDescriptor yX7_quotient.desc).map (fun d => d.parameters.length) = some 5 := by decide +kernel
theorem hd_X7_rank : yX7_rank.cls ≠ "java/lang/invoke/MethodHandle" ∧ yX7_rank.cls ≠ "java/lang/invoke/VarHandle" ∧ (parseMethodDescriptor yX7_rank.desc).map (fun d => d.parameters.length) = some 1 := by decide +kernel
theorem hd_X7_reads : yX7_reads.cls ≠ "java/lang/invoke/MethodHandle" ∧ yX7_reads.cls ≠ "java/lang/invoke/VarHandle" ∧ (parseMethodDescriptor yX7_reads.desc).map (fun d => d.parameters.length) = some 0 := by decide +kernel
theorem hd_X7_rest : yX7_rest.cls ≠ "java/lang/invoke/MethodHandle" ∧ yX7_rest.cls ≠ "java/lang/invoke/VarHandle" ∧ (parseMethodDescriptor yX7_rest.desc).map (fun d => d.parameters.length) = some 4 := by decide +kernel
theorem hd_X7_row : yX7_row.cls ≠ "java/lang/invoke/MethodHandle" ∧ yX7_row.cls ≠ "java/lang/invoke/VarHandle" ∧ (parseMethodDescriptor yX7_row.desc).map (fun d => d.parameters.length) = some 0 := by decide +kernel
theorem hd_X7_same : yX7_same.cls ≠ "java/lang/invoke/MethodHandle" ∧ yX7_same.cls ≠ "java/lang/invoke/VarHandle" ∧ (parseMethodDescriptor yX7_same.desc).map (fun d => d.parameters.length) = some 2 := by decide +kernel
theorem hd_X7_sets : yX7_sets.cls ≠ "java/lang/invoke/MethodHandle" ∧ yX7_sets.cls ≠ "java/lang/invoke/VarHandle" ∧ (parseMethodDescriptor yX7_sets.desc).map (fun d => d.parameters.length) = some 4 := by decide +kernel
theorem hd_X7_steps : yX7_steps.cls ≠ "java/lang/invoke/MethodHandle" ∧ yX7_steps.cls ≠ "java/lang/invoke/VarHandle" ∧ (parseMethodDescriptor yX7_steps.desc).map (fun d => d.parameters.length) = some 4 := by decide +kernel
theorem hd_X7_told : yX7_told.cls ≠ "java/lang/invoke/MethodHandle" ∧ yX7_told.cls ≠ "java/lang/invoke/VarHandle" ∧ (parseMethodDescriptor yX7_told.desc).map (fun d => d.parameters.length) = some 1 := by decide +kernel
theorem hd_X7_type : yX7_type.cls ≠ "java/lang/invoke/MethodHandle" ∧ yX7_type.cls ≠ "java/lang/invoke/VarHandle" ∧ (parseMethodDescriptor yX7_type.desc).map (fun d => d.parameters.length) = some 1 := by decide +kernel
theorem hd_X7_why : yX7_why.cls ≠ "java/lang/invoke/MethodHandle" ∧ yX7_why.cls ≠ "java/lang/invoke/VarHandle" ∧ (parseMethodDescriptor yX7_why.desc).map (fun d => d.parameters.length) = some 1 := by decide +kernel
theorem hd_X8_about : yX8_about.cls ≠ "java/lang/invoke/MethodHandle" ∧ yX8_about.cls ≠ "java/lang/invoke/VarHandle" ∧ (parseMethodDescriptor yX8_about.desc).map (fun d => d.parameters.length) = some 2 := by decide +kernel
theorem hd_X8_back : yX8_back.cls ≠ "java/lang/invoke/MethodHandle" ∧ yX8_back.cls ≠ "java/lang/invoke/VarHandle" ∧ (parseMethodDescriptor yX8_back.desc).map (fun d => d.parameters.length) = some 0 := by decide +kernel
theorem hd_X8_clear : yX8_clear.cls ≠ "java/lang/invoke/MethodHandle" ∧ yX8_clear.cls ≠ "java/lang/invoke/VarHandle" ∧ (parseMethodDescriptor yX8_clear.desc).map (fun d => d.parameters.length) = some 0 := by decide +kernel
theorem hd_X8_columns : yX8_columns.cls ≠ "java/lang/invoke/MethodHandle" ∧ yX8_columns.cls ≠ "java/lang/invoke/VarHandle" ∧ (parseMethodDescriptor yX8_columns.desc).map (fun d => d.parameters.length) = some 1 := by decide +kernel
theorem hd_X8_det : yX8_det.cls ≠ "java/lang/invoke/MethodHandle" ∧ yX8_det.cls ≠ "java/lang/invoke/VarHandle" ∧ (parseMethodDescriptor yX8_det.desc).map (fun d => d.parameters.length) = some 2 := by decide +kernel
theorem hd_X8_digest : yX8_digest.cls ≠ "java/lang/invoke/MethodHandle" ∧ yX8_digest.cls ≠ "java/lang/invoke/VarHandle" ∧ (parseMethodDescriptor yX8_digest.desc).map (fun d => d.parameters.length) = some 0 := by decide +kernel
theorem hd_X8_drops : yX8_drops.cls ≠ "java/lang/invoke/MethodHandle" ∧ yX8_drops.cls ≠ "java/lang/invoke/VarHandle" ∧ (parseMethodDescriptor yX8_drops.desc).map (fun d => d.parameters.length) = some 1 := by decide +kernel
theorem hd_X8_factor : yX8_factor.cls ≠ "java/lang/invoke/MethodHandle" ∧ yX8_factor.cls ≠ "java/lang/invoke/VarHandle" ∧ (parseMethodDescriptor yX8_factor.desc).map (fun d => d.parameters.length) = some 4 := by decide +kernel
theorem hd_X8_form : yX8_form.cls ≠ "java/lang/invoke/MethodHandle" ∧ yX8_form.cls ≠ "java/lang/invoke/VarHandle" ∧ (parseMethodDescriptor yX8_form.desc).map (fun d => d.parameters.length) = some 4 := by decide +kernel
theorem hd_X8_least : yX8_least.cls ≠ "java/lang/invoke/MethodHandle" ∧ yX8_least.cls ≠ "java/lang/invoke/VarHandle" ∧ (parseMethodDescriptor yX8_least.desc).map (fun d => d.parameters.length) = some 1 := by decide +kernel
theorem hd_X8_made : yX8_made.cls ≠ "java/lang/invoke/MethodHandle" ∧ yX8_made.cls ≠ "java/lang/invoke/VarHandle" ∧ (parseMethodDescriptor yX8_made.desc).map (fun d => d.parameters.length) = some 2 := by decide +kernel
theorem hd_X8_monic : yX8_monic.cls ≠ "java/lang/invoke/MethodHandle" ∧ yX8_monic.cls ≠ "java/lang/invoke/VarHandle" ∧ (parseMethodDescriptor yX8_monic.desc).map (fun d => d.parameters.length) = some 1 := by decide +kernel
theorem hd_X8_next : yX8_next.cls ≠ "java/lang/invoke/MethodHandle" ∧ yX8_next.cls ≠ "java/lang/invoke/VarHandle" ∧ (parseMethodDescriptor yX8_next.desc).map (fun d => d.parameters.length) = some 1 := by decide +kernel
theorem hd_X8_of : yX8_of.cls ≠ "java/lang/invoke/MethodHandle" ∧ yX8_of.cls ≠ "java/lang/invoke/VarHandle" ∧ (parseMethodDescriptor yX8_of.desc).map (fun d => d.parameters.length) = some 3 := by decide +kernel
theorem hd_X8_prime : yX8_prime.cls ≠ "java/lang/invoke/MethodHandle" ∧ yX8_prime.cls ≠ "java/lang/invoke/VarHandle" ∧ (parseMethodDescriptor yX8_prime.desc).map (fun d => d.parameters.length) = some 1 := by decide +kernel
theorem hd_X8_quotient : yX8_quotient.cls ≠ "java/lang/invoke/MethodHandle" ∧ yX8_quotient.cls ≠ "java/lang/invoke/VarHandle" ∧ (parseMethodDescriptor yX8_quotient.desc).map (fun d => d.parameters.length) = some 5 := by decide +kernel
theorem hd_X8_rank : yX8_rank.cls ≠ "java/lang/invoke/MethodHandle" ∧ yX8_rank.cls ≠ "java/lang/invoke/VarHandle" ∧ (parseMethodDescriptor yX8_rank.desc).map (fun d => d.parameters.length) = some 1 := by decide +kernel
theorem hd_X8_reads : yX8_reads.cls ≠ "java/lang/invoke/MethodHandle" ∧ yX8_reads.cls ≠ "java/lang/invoke/VarHandle" ∧ (parseMethodDescriptor yX8_reads.desc).map (fun d => d.parameters.length) = some 0 := by decide +kernel
theorem hd_X8_rest : yX8_rest.cls ≠ "java/lang/invoke/MethodHandle" ∧ yX8_rest.cls ≠ "java/lang/invoke/VarHandle" ∧ (parseMethodDescriptor yX8_rest.desc).map (fun d => d.parameters.length) = some 4 := by decide +kernel
theorem hd_X8_row : yX8_row.cls ≠ "java/lang/invoke/MethodHandle" ∧ yX8_row.cls ≠ "java/lang/invoke/VarHandle" ∧ (parseMethodDescriptor yX8_row.desc).map (fun d => d.parameters.length) = some 0 := by decide +kernel
theorem hd_X8_same : yX8_same.cls ≠ "java/lang/invoke/MethodHandle" ∧ yX8_same.cls ≠ "java/lang/invoke/VarHandle" ∧ (parseMethodDescriptor yX8_same.desc).map (fun d => d.parameters.length) = some 2 := by decide +kernel
theorem hd_X8_sets : yX8_sets.cls ≠ "java/lang/invoke/MethodHandle" ∧ yX8_sets.cls ≠ "java/lang/invoke/VarHandle" ∧ (parseMethodDescriptor yX8_sets.desc).map (fun d => d.parameters.length) = some 4 := by decide +kernel
theorem hd_X8_steps : yX8_steps.cls ≠ "java/lang/invoke/MethodHandle" ∧ yX8_steps.cls ≠ "java/lang/invoke/VarHandle" ∧ (parseMethodDescriptor yX8_steps.desc).map (fun d => d.parameters.length) = some 4 := by decide +kernel
theorem hd_X8_told : yX8_told.cls ≠ "java/lang/invoke/MethodHandle" ∧ yX8_told.cls ≠ "java/lang/invoke/VarHandle" ∧ (parseMethodDescriptor yX8_told.desc).map (fun d => d.parameters.length) = some 1 := by decide +kernel
theorem hd_X8_type : yX8_type.cls ≠ "java/lang/invoke/MethodHandle" ∧ yX8_type.cls ≠ "java/lang/invoke/VarHandle" ∧ (parseMethodDescriptor yX8_type.desc).map (fun d => d.parameters.length) = some 1 := by decide +kernel
theorem hd_X8_why : yX8_why.cls ≠ "java/lang/invoke/MethodHandle" ∧ yX8_why.cls ≠ "java/lang/invoke/VarHandle" ∧ (parseMethodDescriptor yX8_why.desc).map (fun d => d.parameters.length) = some 1 := by decide +kernel
theorem hd_X7_init : yX7_init.cls ≠ "java/lang/invoke/MethodHandle" ∧ yX7_init.cls ≠ "java/lang/invoke/VarHandle" ∧ (parseMethodDescriptor yX7_init.desc).map (fun d => d.parameters.length) = some 0 := by decide +kernel
theorem hd_X8_init : yX8_init.cls ≠ "java/lang/invoke/MethodHandle" ∧ yX8_init.cls ≠ "java/lang/invoke/VarHandle" ∧ (parseMethodDescriptor yX8_init.desc).map (fun d => d.parameters.length) = some 0 := by decide +kernel
set_option maxRecDepth 40000 in
theorem nest_in : ∀ q ∈ nestL, Cond.methodLinkNest q.1 q.2.1 q.2.2.1 q.2.2.2 ∈ lw_tbl := by
  intro q hq
  obtain ⟨k, hk⟩ := List.getElem?_of_mem hq
  match k, hk with
  | 0, hk => cases hk; exact List.mem_of_getElem? (i := 174) rfl
  | 1, hk => cases hk; exact List.mem_of_getElem? (i := 185) rfl
  | 2, hk => cases hk; exact List.mem_of_getElem? (i := 193) rfl
  | 3, hk => cases hk; exact List.mem_of_getElem? (i := 199) rfl
  | 4, hk => cases hk; exact List.mem_of_getElem? (i := 236) rfl
  | 5, hk => cases hk; exact List.mem_of_getElem? (i := 254) rfl
  | 6, hk => cases hk; exact List.mem_of_getElem? (i := 269) rfl
  | 7, hk => cases hk; exact List.mem_of_getElem? (i := 272) rfl
  | 8, hk => cases hk; exact List.mem_of_getElem? (i := 418) rfl
  | 9, hk => cases hk; exact List.mem_of_getElem? (i := 468) rfl
  | 10, hk => cases hk; exact List.mem_of_getElem? (i := 487) rfl
  | 11, hk => cases hk; exact List.mem_of_getElem? (i := 528) rfl
  | 12, hk => cases hk; exact List.mem_of_getElem? (i := 530) rfl
  | 13, hk => cases hk; exact List.mem_of_getElem? (i := 531) rfl
  | 14, hk => cases hk; exact List.mem_of_getElem? (i := 533) rfl
  | 15, hk => cases hk; exact List.mem_of_getElem? (i := 547) rfl
  | 16, hk => cases hk; exact List.mem_of_getElem? (i := 565) rfl
  | 17, hk => cases hk; exact List.mem_of_getElem? (i := 577) rfl
  | 18, hk => cases hk; exact List.mem_of_getElem? (i := 579) rfl
  | 19, hk => cases hk; exact List.mem_of_getElem? (i := 644) rfl
  | 20, hk => cases hk; exact List.mem_of_getElem? (i := 657) rfl
  | 21, hk => cases hk; exact List.mem_of_getElem? (i := 673) rfl
  | 22, hk => cases hk; exact List.mem_of_getElem? (i := 730) rfl
  | 23, hk => cases hk; exact List.mem_of_getElem? (i := 731) rfl
  | k + 24, hk => simp [nestL] at hk
