theorem hd_J9_floorMod_7cf53 : yJ9_floorMod_7cf53.cls ≠ "java/lang/invoke/MethodHandle" ∧ yJ9_floorMod_7cf53.cls ≠ "java/lang/invoke/VarHandle" ∧ (parseMethodDescriptor yJ9_floorMod_7cf53.desc).map (fun d => d.parameters.length) = some 2 := by decide +kernel
theorem hd_X0_addAt : yX0_addAt.cls ≠ "java/lang/invoke/MethodHandle" ∧ yX0_addAt.cls ≠ "java/lang/invoke/VarHandle" ∧ (parseMethodDescriptor yX0_addAt.desc).map (fun d => d.parameters.length) = some 2 := by decide +kernel
theorem hd_X0_entryAt : yX0_entryAt.cls ≠ "java/lang/invoke/MethodHandle" ∧ yX0_entryAt.cls ≠ "java/lang/invoke/VarHandle" ∧ (parseMethodDescriptor yX0_entryAt.desc).map (fun d => d.parameters.length) = some 4 := by decide +kernel
theorem hd_X2_reduce : yX2_reduce.cls ≠ "java/lang/invoke/MethodHandle" ∧ yX2_reduce.cls ≠ "java/lang/invoke/VarHandle" ∧ (parseMethodDescriptor yX2_reduce.desc).map (fun d => d.parameters.length) = some 3 := by decide +kernel
theorem hd_X2_removeZeros : yX2_removeZeros.cls ≠ "java/lang/invoke/MethodHandle" ∧ yX2_removeZeros.cls ≠ "java/lang/invoke/VarHandle" ∧ (parseMethodDescriptor yX2_removeZeros.desc).map (fun d => d.parameters.length) = some 0 := by decide +kernel
theorem hd_X2_sort : yX2_sort.cls ≠ "java/lang/invoke/MethodHandle" ∧ yX2_sort.cls ≠ "java/lang/invoke/VarHandle" ∧ (parseMethodDescriptor yX2_sort.desc).map (fun d => d.parameters.length) = some 0 := by decide +kernel
theorem hd_X2_toForm : yX2_toForm.cls ≠ "java/lang/invoke/MethodHandle" ∧ yX2_toForm.cls ≠ "java/lang/invoke/VarHandle" ∧ (parseMethodDescriptor yX2_toForm.desc).map (fun d => d.parameters.length) = some 0 := by decide +kernel
theorem hd_X3_addTimes : yX3_addTimes.cls ≠ "java/lang/invoke/MethodHandle" ∧ yX3_addTimes.cls ≠ "java/lang/invoke/VarHandle" ∧ (parseMethodDescriptor yX3_addTimes.desc).map (fun d => d.parameters.length) = some 5 := by decide +kernel
theorem hd_X3_append : yX3_append.cls ≠ "java/lang/invoke/MethodHandle" ∧ yX3_append.cls ≠ "java/lang/invoke/VarHandle" ∧ (parseMethodDescriptor yX3_append.desc).map (fun d => d.parameters.length) = some 0 := by decide +kernel
theorem hd_X3_at : yX3_at.cls ≠ "java/lang/invoke/MethodHandle" ∧ yX3_at.cls ≠ "java/lang/invoke/VarHandle" ∧ (parseMethodDescriptor yX3_at.desc).map (fun d => d.parameters.length) = some 3 := by decide +kernel
theorem hd_X3_degreeOf : yX3_degreeOf.cls ≠ "java/lang/invoke/MethodHandle" ∧ yX3_degreeOf.cls ≠ "java/lang/invoke/VarHandle" ∧ (parseMethodDescriptor yX3_degreeOf.desc).map (fun d => d.parameters.length) = some 1 := by decide +kernel
theorem hd_X3_hasRow : yX3_hasRow.cls ≠ "java/lang/invoke/MethodHandle" ∧ yX3_hasRow.cls ≠ "java/lang/invoke/VarHandle" ∧ (parseMethodDescriptor yX3_hasRow.desc).map (fun d => d.parameters.length) = some 1 := by decide +kernel
theorem hd_X3_leadOf : yX3_leadOf.cls ≠ "java/lang/invoke/MethodHandle" ∧ yX3_leadOf.cls ≠ "java/lang/invoke/VarHandle" ∧ (parseMethodDescriptor yX3_leadOf.desc).map (fun d => d.parameters.length) = some 1 := by decide +kernel
theorem hd_X3_placeOf : yX3_placeOf.cls ≠ "java/lang/invoke/MethodHandle" ∧ yX3_placeOf.cls ≠ "java/lang/invoke/VarHandle" ∧ (parseMethodDescriptor yX3_placeOf.desc).map (fun d => d.parameters.length) = some 1 := by decide +kernel
theorem hd_X3_put : yX3_put.cls ≠ "java/lang/invoke/MethodHandle" ∧ yX3_put.cls ≠ "java/lang/invoke/VarHandle" ∧ (parseMethodDescriptor yX3_put.desc).map (fun d => d.parameters.length) = some 4 := by decide +kernel
theorem hd_X3_remove : yX3_remove.cls ≠ "java/lang/invoke/MethodHandle" ∧ yX3_remove.cls ≠ "java/lang/invoke/VarHandle" ∧ (parseMethodDescriptor yX3_remove.desc).map (fun d => d.parameters.length) = some 1 := by decide +kernel
theorem hd_X3_reset : yX3_reset.cls ≠ "java/lang/invoke/MethodHandle" ∧ yX3_reset.cls ≠ "java/lang/invoke/VarHandle" ∧ (parseMethodDescriptor yX3_reset.desc).map (fun d => d.parameters.length) = some 2 := by decide +kernel
theorem hd_X3_scale : yX3_scale.cls ≠ "java/lang/invoke/MethodHandle" ∧ yX3_scale.cls ≠ "java/lang/invoke/VarHandle" ∧ (parseMethodDescriptor yX3_scale.desc).map (fun d => d.parameters.length) = some 2 := by decide +kernel
theorem hd_X3_swap : yX3_swap.cls ≠ "java/lang/invoke/MethodHandle" ∧ yX3_swap.cls ≠ "java/lang/invoke/VarHandle" ∧ (parseMethodDescriptor yX3_swap.desc).map (fun d => d.parameters.length) = some 2 := by decide +kernel
theorem hd_X4_accept : yX4_accept.cls ≠ "java/lang/invoke/MethodHandle" ∧ yX4_accept.cls ≠ "java/lang/invoke/VarHandle" ∧ (parseMethodDescriptor yX4_accept.desc).map (fun d => d.parameters.length) = some 1 := by decide +kernel
theorem hd_X4_addToEntry : yX4_addToEntry.cls ≠ "java/lang/invoke/MethodHandle" ∧ yX4_addToEntry.cls ≠ "java/lang/invoke/VarHandle" ∧ (parseMethodDescriptor yX4_addToEntry.desc).map (fun d => d.parameters.length) = some 3 := by decide +kernel
theorem hd_X4_byteHere : yX4_byteHere.cls ≠ "java/lang/invoke/MethodHandle" ∧ yX4_byteHere.cls ≠ "java/lang/invoke/VarHandle" ∧ (parseMethodDescriptor yX4_byteHere.desc).map (fun d => d.parameters.length) = some 0 := by decide +kernel
theorem hd_X4_digitHere : yX4_digitHere.cls ≠ "java/lang/invoke/MethodHandle" ∧ yX4_digitHere.cls ≠ "java/lang/invoke/VarHandle" ∧ (parseMethodDescriptor yX4_digitHere.desc).map (fun d => d.parameters.length) = some 0 := by decide +kernel
theorem hd_X4_entryIndex : yX4_entryIndex.cls ≠ "java/lang/invoke/MethodHandle" ∧ yX4_entryIndex.cls ≠ "java/lang/invoke/VarHandle" ∧ (parseMethodDescriptor yX4_entryIndex.desc).map (fun d => d.parameters.length) = some 2 := by decide +kernel
theorem hd_X4_readColumns : yX4_readColumns.cls ≠ "java/lang/invoke/MethodHandle" ∧ yX4_readColumns.cls ≠ "java/lang/invoke/VarHandle" ∧ (parseMethodDescriptor yX4_readColumns.desc).map (fun d => d.parameters.length) = some 0 := by decide +kernel
theorem hd_X4_readDigits : yX4_readDigits.cls ≠ "java/lang/invoke/MethodHandle" ∧ yX4_readDigits.cls ≠ "java/lang/invoke/VarHandle" ∧ (parseMethodDescriptor yX4_readDigits.desc).map (fun d => d.parameters.length) = some 1 := by decide +kernel
theorem hd_X4_readPower : yX4_readPower.cls ≠ "java/lang/invoke/MethodHandle" ∧ yX4_readPower.cls ≠ "java/lang/invoke/VarHandle" ∧ (parseMethodDescriptor yX4_readPower.desc).map (fun d => d.parameters.length) = some 0 := by decide +kernel
theorem hd_X4_readRow : yX4_readRow.cls ≠ "java/lang/invoke/MethodHandle" ∧ yX4_readRow.cls ≠ "java/lang/invoke/VarHandle" ∧ (parseMethodDescriptor yX4_readRow.desc).map (fun d => d.parameters.length) = some 0 := by decide +kernel
theorem hd_X4_readTerm : yX4_readTerm.cls ≠ "java/lang/invoke/MethodHandle" ∧ yX4_readTerm.cls ≠ "java/lang/invoke/VarHandle" ∧ (parseMethodDescriptor yX4_readTerm.desc).map (fun d => d.parameters.length) = some 1 := by decide +kernel
theorem hd_X4_skipBlanks : yX4_skipBlanks.cls ≠ "java/lang/invoke/MethodHandle" ∧ yX4_skipBlanks.cls ≠ "java/lang/invoke/VarHandle" ∧ (parseMethodDescriptor yX4_skipBlanks.desc).map (fun d => d.parameters.length) = some 0 := by decide +kernel
theorem hd_X5_canStep : yX5_canStep.cls ≠ "java/lang/invoke/MethodHandle" ∧ yX5_canStep.cls ≠ "java/lang/invoke/VarHandle" ∧ (parseMethodDescriptor yX5_canStep.desc).map (fun d => d.parameters.length) = some 2 := by decide +kernel
theorem hd_X5_measure : yX5_measure.cls ≠ "java/lang/invoke/MethodHandle" ∧ yX5_measure.cls ≠ "java/lang/invoke/VarHandle" ∧ (parseMethodDescriptor yX5_measure.desc).map (fun d => d.parameters.length) = some 1 := by decide +kernel
theorem hd_X5_placeAt : yX5_placeAt.cls ≠ "java/lang/invoke/MethodHandle" ∧ yX5_placeAt.cls ≠ "java/lang/invoke/VarHandle" ∧ (parseMethodDescriptor yX5_placeAt.desc).map (fun d => d.parameters.length) = some 1 := by decide +kernel
theorem hd_X5_rowFor : yX5_rowFor.cls ≠ "java/lang/invoke/MethodHandle" ∧ yX5_rowFor.cls ≠ "java/lang/invoke/VarHandle" ∧ (parseMethodDescriptor yX5_rowFor.desc).map (fun d => d.parameters.length) = some 3 := by decide +kernel
theorem hd_X6_find : yX6_find.cls ≠ "java/lang/invoke/MethodHandle" ∧ yX6_find.cls ≠ "java/lang/invoke/VarHandle" ∧ (parseMethodDescriptor yX6_find.desc).map (fun d => d.parameters.length) = some 1 := by decide +kernel
theorem hd_X7_columnAt : yX7_columnAt.cls ≠ "java/lang/invoke/MethodHandle" ∧ yX7_columnAt.cls ≠ "java/lang/invoke/VarHandle" ∧ (parseMethodDescriptor yX7_columnAt.desc).map (fun d => d.parameters.length) = some 1 := by decide +kernel
theorem hd_X7_inverse : yX7_inverse.cls ≠ "java/lang/invoke/MethodHandle" ∧ yX7_inverse.cls ≠ "java/lang/invoke/VarHandle" ∧ (parseMethodDescriptor yX7_inverse.desc).map (fun d => d.parameters.length) = some 2 := by decide +kernel
theorem hd_X7_isInSet : yX7_isInSet.cls ≠ "java/lang/invoke/MethodHandle" ∧ yX7_isInSet.cls ≠ "java/lang/invoke/VarHandle" ∧ (parseMethodDescriptor yX7_isInSet.desc).map (fun d => d.parameters.length) = some 2 := by decide +kernel
theorem hd_X7_isPrime : yX7_isPrime.cls ≠ "java/lang/invoke/MethodHandle" ∧ yX7_isPrime.cls ≠ "java/lang/invoke/VarHandle" ∧ (parseMethodDescriptor yX7_isPrime.desc).map (fun d => d.parameters.length) = some 1 := by decide +kernel
theorem hd_X7_isWithin : yX7_isWithin.cls ≠ "java/lang/invoke/MethodHandle" ∧ yX7_isWithin.cls ≠ "java/lang/invoke/VarHandle" ∧ (parseMethodDescriptor yX7_isWithin.desc).map (fun d => d.parameters.length) = some 3 := by decide +kernel
theorem hd_X7_modulo : yX7_modulo.cls ≠ "java/lang/invoke/MethodHandle" ∧ yX7_modulo.cls ≠ "java/lang/invoke/VarHandle" ∧ (parseMethodDescriptor yX7_modulo.desc).map (fun d => d.parameters.length) = some 2 := by decide +kernel
theorem hd_X7_powerAt : yX7_powerAt.cls ≠ "java/lang/invoke/MethodHandle" ∧ yX7_powerAt.cls ≠ "java/lang/invoke/VarHandle" ∧ (parseMethodDescriptor yX7_powerAt.desc).map (fun d => d.parameters.length) = some 1 := by decide +kernel
theorem hd_X8_aboutRow : yX8_aboutRow.cls ≠ "java/lang/invoke/MethodHandle" ∧ yX8_aboutRow.cls ≠ "java/lang/invoke/VarHandle" ∧ (parseMethodDescriptor yX8_aboutRow.desc).map (fun d => d.parameters.length) = some 2 := by decide +kernel
theorem hd_X8_areSame : yX8_areSame.cls ≠ "java/lang/invoke/MethodHandle" ∧ yX8_areSame.cls ≠ "java/lang/invoke/VarHandle" ∧ (parseMethodDescriptor yX8_areSame.desc).map (fun d => d.parameters.length) = some 2 := by decide +kernel
theorem hd_X8_begins : yX8_begins.cls ≠ "java/lang/invoke/MethodHandle" ∧ yX8_begins.cls ≠ "java/lang/invoke/VarHandle" ∧ (parseMethodDescriptor yX8_begins.desc).map (fun d => d.parameters.length) = some 1 := by decide +kernel
theorem hd_X8_can : yX8_can.cls ≠ "java/lang/invoke/MethodHandle" ∧ yX8_can.cls ≠ "java/lang/invoke/VarHandle" ∧ (parseMethodDescriptor yX8_can.desc).map (fun d => d.parameters.length) = some 1 := by decide +kernel
theorem hd_X8_canMonic : yX8_canMonic.cls ≠ "java/lang/invoke/MethodHandle" ∧ yX8_canMonic.cls ≠ "java/lang/invoke/VarHandle" ∧ (parseMethodDescriptor yX8_canMonic.desc).map (fun d => d.parameters.length) = some 1 := by decide +kernel
theorem hd_X8_canStep : yX8_canStep.cls ≠ "java/lang/invoke/MethodHandle" ∧ yX8_canStep.cls ≠ "java/lang/invoke/VarHandle" ∧ (parseMethodDescriptor yX8_canStep.desc).map (fun d => d.parameters.length) = some 4 := by decide +kernel
theorem hd_X8_cell : yX8_cell.cls ≠ "java/lang/invoke/MethodHandle" ∧ yX8_cell.cls ≠ "java/lang/invoke/VarHandle" ∧ (parseMethodDescriptor yX8_cell.desc).map (fun d => d.parameters.length) = some 3 := by decide +kernel
theorem hd_X8_chooses : yX8_chooses.cls ≠ "java/lang/invoke/MethodHandle" ∧ yX8_chooses.cls ≠ "java/lang/invoke/VarHandle" ∧ (parseMethodDescriptor yX8_chooses.desc).map (fun d => d.parameters.length) = some 1 := by decide +kernel
theorem hd_X8_choosesColumns : yX8_choosesColumns.cls ≠ "java/lang/invoke/MethodHandle" ∧ yX8_choosesColumns.cls ≠ "java/lang/invoke/VarHandle" ∧ (parseMethodDescriptor yX8_choosesColumns.desc).map (fun d => d.parameters.length) = some 1 := by decide +kernel
theorem hd_X8_clears : yX8_clears.cls ≠ "java/lang/invoke/MethodHandle" ∧ yX8_clears.cls ≠ "java/lang/invoke/VarHandle" ∧ (parseMethodDescriptor yX8_clears.desc).map (fun d => d.parameters.length) = some 0 := by decide +kernel
theorem hd_X8_columnsNow : yX8_columnsNow.cls ≠ "java/lang/invoke/MethodHandle" ∧ yX8_columnsNow.cls ≠ "java/lang/invoke/VarHandle" ∧ (parseMethodDescriptor yX8_columnsNow.desc).map (fun d => d.parameters.length) = some 1 := by decide +kernel
theorem hd_X8_comes : yX8_comes.cls ≠ "java/lang/invoke/MethodHandle" ∧ yX8_comes.cls ≠ "java/lang/invoke/VarHandle" ∧ (parseMethodDescriptor yX8_comes.desc).map (fun d => d.parameters.length) = some 5 := by decide +kernel
theorem hd_X8_degree : yX8_degree.cls ≠ "java/lang/invoke/MethodHandle" ∧ yX8_degree.cls ≠ "java/lang/invoke/VarHandle" ∧ (parseMethodDescriptor yX8_degree.desc).map (fun d => d.parameters.length) = some 1 := by decide +kernel
theorem hd_X8_degreeAt : yX8_degreeAt.cls ≠ "java/lang/invoke/MethodHandle" ∧ yX8_degreeAt.cls ≠ "java/lang/invoke/VarHandle" ∧ (parseMethodDescriptor yX8_degreeAt.desc).map (fun d => d.parameters.length) = some 2 := by decide +kernel
theorem hd_X8_degreeOf : yX8_degreeOf.cls ≠ "java/lang/invoke/MethodHandle" ∧ yX8_degreeOf.cls ≠ "java/lang/invoke/VarHandle" ∧ (parseMethodDescriptor yX8_degreeOf.desc).map (fun d => d.parameters.length) = some 1 := by decide +kernel
theorem hd_X8_detOf : yX8_detOf.cls ≠ "java/lang/invoke/MethodHandle" ∧ yX8_detOf.cls ≠ "java/lang/invoke/VarHandle" ∧ (parseMethodDescriptor yX8_detOf.desc).map (fun d => d.parameters.length) = some 2 := by decide +kernel
theorem hd_X8_determines : yX8_determines.cls ≠ "java/lang/invoke/MethodHandle" ∧ yX8_determines.cls ≠ "java/lang/invoke/VarHandle" ∧ (parseMethodDescriptor yX8_determines.desc).map (fun d => d.parameters.length) = some 1 := by decide +kernel
theorem hd_X8_divides : yX8_divides.cls ≠ "java/lang/invoke/MethodHandle" ∧ yX8_divides.cls ≠ "java/lang/invoke/VarHandle" ∧ (parseMethodDescriptor yX8_divides.desc).map (fun d => d.parameters.length) = some 0 := by decide +kernel
theorem hd_X8_does : yX8_does.cls ≠ "java/lang/invoke/MethodHandle" ∧ yX8_does.cls ≠ "java/lang/invoke/VarHandle" ∧ (parseMethodDescriptor yX8_does.desc).map (fun d => d.parameters.length) = some 1 := by decide +kernel
theorem hd_X8_dropNow : yX8_dropNow.cls ≠ "java/lang/invoke/MethodHandle" ∧ yX8_dropNow.cls ≠ "java/lang/invoke/VarHandle" ∧ (parseMethodDescriptor yX8_dropNow.desc).map (fun d => d.parameters.length) = some 1 := by decide +kernel
theorem hd_X8_exchanges : yX8_exchanges.cls ≠ "java/lang/invoke/MethodHandle" ∧ yX8_exchanges.cls ≠ "java/lang/invoke/VarHandle" ∧ (parseMethodDescriptor yX8_exchanges.desc).map (fun d => d.parameters.length) = some 2 := by decide +kernel
theorem hd_X8_factorOf : yX8_factorOf.cls ≠ "java/lang/invoke/MethodHandle" ∧ yX8_factorOf.cls ≠ "java/lang/invoke/VarHandle" ∧ (parseMethodDescriptor yX8_factorOf.desc).map (fun d => d.parameters.length) = some 4 := by decide +kernel
theorem hd_X8_formOf : yX8_formOf.cls ≠ "java/lang/invoke/MethodHandle" ∧ yX8_formOf.cls ≠ "java/lang/invoke/VarHandle" ∧ (parseMethodDescriptor yX8_formOf.desc).map (fun d => d.parameters.length) = some 4 := by decide +kernel
theorem hd_X8_forms : yX8_forms.cls ≠ "java/lang/invoke/MethodHandle" ∧ yX8_forms.cls ≠ "java/lang/invoke/VarHandle" ∧ (parseMethodDescriptor yX8_forms.desc).map (fun d => d.parameters.length) = some 0 := by decide +kernel
theorem hd_X8_formsOf : yX8_formsOf.cls ≠ "java/lang/invoke/MethodHandle" ∧ yX8_formsOf.cls ≠ "java/lang/invoke/VarHandle" ∧ (parseMethodDescriptor yX8_formsOf.desc).map (fun d => d.parameters.length) = some 1 := by decide +kernel
theorem hd_X8_here : yX8_here.cls ≠ "java/lang/invoke/MethodHandle" ∧ yX8_here.cls ≠ "java/lang/invoke/VarHandle" ∧ (parseMethodDescriptor yX8_here.desc).map (fun d => d.parameters.length) = some 0 := by decide +kernel
theorem hd_X8_in : yX8_in.cls ≠ "java/lang/invoke/MethodHandle" ∧ yX8_in.cls ≠ "java/lang/invoke/VarHandle" ∧ (parseMethodDescriptor yX8_in.desc).map (fun d => d.parameters.length) = some 3 := by decide +kernel
theorem hd_X8_inverse : yX8_inverse.cls ≠ "java/lang/invoke/MethodHandle" ∧ yX8_inverse.cls ≠ "java/lang/invoke/VarHandle" ∧ (parseMethodDescriptor yX8_inverse.desc).map (fun d => d.parameters.length) = some 1 := by decide +kernel
theorem hd_X8_isColumn : yX8_isColumn.cls ≠ "java/lang/invoke/MethodHandle" ∧ yX8_isColumn.cls ≠ "java/lang/invoke/VarHandle" ∧ (parseMethodDescriptor yX8_isColumn.desc).map (fun d => d.parameters.length) = some 1 := by decide +kernel
theorem hd_X8_isFigure : yX8_isFigure.cls ≠ "java/lang/invoke/MethodHandle" ∧ yX8_isFigure.cls ≠ "java/lang/invoke/VarHandle" ∧ (parseMethodDescriptor yX8_isFigure.desc).map (fun d => d.parameters.length) = some 1 := by decide +kernel
theorem hd_X8_isLetter : yX8_isLetter.cls ≠ "java/lang/invoke/MethodHandle" ∧ yX8_isLetter.cls ≠ "java/lang/invoke/VarHandle" ∧ (parseMethodDescriptor yX8_isLetter.desc).map (fun d => d.parameters.length) = some 1 := by decide +kernel
theorem hd_X8_isMade : yX8_isMade.cls ≠ "java/lang/invoke/MethodHandle" ∧ yX8_isMade.cls ≠ "java/lang/invoke/VarHandle" ∧ (parseMethodDescriptor yX8_isMade.desc).map (fun d => d.parameters.length) = some 2 := by decide +kernel
theorem hd_X8_isPrime : yX8_isPrime.cls ≠ "java/lang/invoke/MethodHandle" ∧ yX8_isPrime.cls ≠ "java/lang/invoke/VarHandle" ∧ (parseMethodDescriptor yX8_isPrime.desc).map (fun d => d.parameters.length) = some 1 := by decide +kernel
theorem hd_X8_isRow : yX8_isRow.cls ≠ "java/lang/invoke/MethodHandle" ∧ yX8_isRow.cls ≠ "java/lang/invoke/VarHandle" ∧ (parseMethodDescriptor yX8_isRow.desc).map (fun d => d.parameters.length) = some 1 := by decide +kernel
theorem hd_X8_isSet : yX8_isSet.cls ≠ "java/lang/invoke/MethodHandle" ∧ yX8_isSet.cls ≠ "java/lang/invoke/VarHandle" ∧ (parseMethodDescriptor yX8_isSet.desc).map (fun d => d.parameters.length) = some 1 := by decide +kernel
theorem hd_X8_isWith : yX8_isWith.cls ≠ "java/lang/invoke/MethodHandle" ∧ yX8_isWith.cls ≠ "java/lang/invoke/VarHandle" ∧ (parseMethodDescriptor yX8_isWith.desc).map (fun d => d.parameters.length) = some 2 := by decide +kernel
theorem hd_X8_keep : yX8_keep.cls ≠ "java/lang/invoke/MethodHandle" ∧ yX8_keep.cls ≠ "java/lang/invoke/VarHandle" ∧ (parseMethodDescriptor yX8_keep.desc).map (fun d => d.parameters.length) = some 0 := by decide +kernel
theorem hd_X8_lays : yX8_lays.cls ≠ "java/lang/invoke/MethodHandle" ∧ yX8_lays.cls ≠ "java/lang/invoke/VarHandle" ∧ (parseMethodDescriptor yX8_lays.desc).map (fun d => d.parameters.length) = some 2 := by decide +kernel
theorem hd_X8_laysRow : yX8_laysRow.cls ≠ "java/lang/invoke/MethodHandle" ∧ yX8_laysRow.cls ≠ "java/lang/invoke/VarHandle" ∧ (parseMethodDescriptor yX8_laysRow.desc).map (fun d => d.parameters.length) = some 0 := by decide +kernel
theorem hd_X8_lead : yX8_lead.cls ≠ "java/lang/invoke/MethodHandle" ∧ yX8_lead.cls ≠ "java/lang/invoke/VarHandle" ∧ (parseMethodDescriptor yX8_lead.desc).map (fun d => d.parameters.length) = some 1 := by decide +kernel
theorem hd_X8_leastOf : yX8_leastOf.cls ≠ "java/lang/invoke/MethodHandle" ∧ yX8_leastOf.cls ≠ "java/lang/invoke/VarHandle" ∧ (parseMethodDescriptor yX8_leastOf.desc).map (fun d => d.parameters.length) = some 1 := by decide +kernel
theorem hd_X8_left : yX8_left.cls ≠ "java/lang/invoke/MethodHandle" ∧ yX8_left.cls ≠ "java/lang/invoke/VarHandle" ∧ (parseMethodDescriptor yX8_left.desc).map (fun d => d.parameters.length) = some 1 := by decide +kernel
theorem hd_X8_lowers : yX8_lowers.cls ≠ "java/lang/invoke/MethodHandle" ∧ yX8_lowers.cls ≠ "java/lang/invoke/VarHandle" ∧ (parseMethodDescriptor yX8_lowers.desc).map (fun d => d.parameters.length) = some 3 := by decide +kernel
theorem hd_X8_meets : yX8_meets.cls ≠ "java/lang/invoke/MethodHandle" ∧ yX8_meets.cls ≠ "java/lang/invoke/VarHandle" ∧ (parseMethodDescriptor yX8_meets.desc).map (fun d => d.parameters.length) = some 0 := by decide +kernel
theorem hd_X8_modulus : yX8_modulus.cls ≠ "java/lang/invoke/MethodHandle" ∧ yX8_modulus.cls ≠ "java/lang/invoke/VarHandle" ∧ (parseMethodDescriptor yX8_modulus.desc).map (fun d => d.parameters.length) = some 0 := by decide +kernel
theorem hd_X8_monicNow : yX8_monicNow.cls ≠ "java/lang/invoke/MethodHandle" ∧ yX8_monicNow.cls ≠ "java/lang/invoke/VarHandle" ∧ (parseMethodDescriptor yX8_monicNow.desc).map (fun d => d.parameters.length) = some 1 := by decide +kernel
theorem hd_X8_multiplies : yX8_multiplies.cls ≠ "java/lang/invoke/MethodHandle" ∧ yX8_multiplies.cls ≠ "java/lang/invoke/VarHandle" ∧ (parseMethodDescriptor yX8_multiplies.desc).map (fun d => d.parameters.length) = some 2 := by decide +kernel
theorem hd_X8_nextOf : yX8_nextOf.cls ≠ "java/lang/invoke/MethodHandle" ∧ yX8_nextOf.cls ≠ "java/lang/invoke/VarHandle" ∧ (parseMethodDescriptor yX8_nextOf.desc).map (fun d => d.parameters.length) = some 1 := by decide +kernel
theorem hd_X8_pivot : yX8_pivot.cls ≠ "java/lang/invoke/MethodHandle" ∧ yX8_pivot.cls ≠ "java/lang/invoke/VarHandle" ∧ (parseMethodDescriptor yX8_pivot.desc).map (fun d => d.parameters.length) = some 1 := by decide +kernel
theorem hd_X8_place : yX8_place.cls ≠ "java/lang/invoke/MethodHandle" ∧ yX8_place.cls ≠ "java/lang/invoke/VarHandle" ∧ (parseMethodDescriptor yX8_place.desc).map (fun d => d.parameters.length) = some 3 := by decide +kernel
theorem hd_X8_primeNow : yX8_primeNow.cls ≠ "java/lang/invoke/MethodHandle" ∧ yX8_primeNow.cls ≠ "java/lang/invoke/VarHandle" ∧ (parseMethodDescriptor yX8_primeNow.desc).map (fun d => d.parameters.length) = some 1 := by decide +kernel
theorem hd_X8_quotientOf : yX8_quotientOf.cls ≠ "java/lang/invoke/MethodHandle" ∧ yX8_quotientOf.cls ≠ "java/lang/invoke/VarHandle" ∧ (parseMethodDescriptor yX8_quotientOf.desc).map (fun d => d.parameters.length) = some 5 := by decide +kernel
theorem hd_X8_rankOf : yX8_rankOf.cls ≠ "java/lang/invoke/MethodHandle" ∧ yX8_rankOf.cls ≠ "java/lang/invoke/VarHandle" ∧ (parseMethodDescriptor yX8_rankOf.desc).map (fun d => d.parameters.length) = some 1 := by decide +kernel
theorem hd_X8_readsOrder : yX8_readsOrder.cls ≠ "java/lang/invoke/MethodHandle" ∧ yX8_readsOrder.cls ≠ "java/lang/invoke/VarHandle" ∧ (parseMethodDescriptor yX8_readsOrder.desc).map (fun d => d.parameters.length) = some 2 := by decide +kernel
theorem hd_X8_refuses : yX8_refuses.cls ≠ "java/lang/invoke/MethodHandle" ∧ yX8_refuses.cls ≠ "java/lang/invoke/VarHandle" ∧ (parseMethodDescriptor yX8_refuses.desc).map (fun d => d.parameters.length) = some 1 := by decide +kernel
theorem hd_X8_restOf : yX8_restOf.cls ≠ "java/lang/invoke/MethodHandle" ∧ yX8_restOf.cls ≠ "java/lang/invoke/VarHandle" ∧ (parseMethodDescriptor yX8_restOf.desc).map (fun d => d.parameters.length) = some 4 := by decide +kernel
theorem hd_X8_rests : yX8_rests.cls ≠ "java/lang/invoke/MethodHandle" ∧ yX8_rests.cls ≠ "java/lang/invoke/VarHandle" ∧ (parseMethodDescriptor yX8_rests.desc).map (fun d => d.parameters.length) = some 2 := by decide +kernel
theorem hd_X8_rowNow : yX8_rowNow.cls ≠ "java/lang/invoke/MethodHandle" ∧ yX8_rowNow.cls ≠ "java/lang/invoke/VarHandle" ∧ (parseMethodDescriptor yX8_rowNow.desc).map (fun d => d.parameters.length) = some 0 := by decide +kernel
theorem hd_X8_rows : yX8_rows.cls ≠ "java/lang/invoke/MethodHandle" ∧ yX8_rows.cls ≠ "java/lang/invoke/VarHandle" ∧ (parseMethodDescriptor yX8_rows.desc).map (fun d => d.parameters.length) = some 0 := by decide +kernel
theorem hd_X8_stepNow : yX8_stepNow.cls ≠ "java/lang/invoke/MethodHandle" ∧ yX8_stepNow.cls ≠ "java/lang/invoke/VarHandle" ∧ (parseMethodDescriptor yX8_stepNow.desc).map (fun d => d.parameters.length) = some 4 := by decide +kernel
theorem hd_X8_swaps : yX8_swaps.cls ≠ "java/lang/invoke/MethodHandle" ∧ yX8_swaps.cls ≠ "java/lang/invoke/VarHandle" ∧ (parseMethodDescriptor yX8_swaps.desc).map (fun d => d.parameters.length) = some 0 := by decide +kernel
theorem hd_X8_takes : yX8_takes.cls ≠ "java/lang/invoke/MethodHandle" ∧ yX8_takes.cls ≠ "java/lang/invoke/VarHandle" ∧ (parseMethodDescriptor yX8_takes.desc).map (fun d => d.parameters.length) = some 3 := by decide +kernel
theorem hd_X8_takesFigure : yX8_takesFigure.cls ≠ "java/lang/invoke/MethodHandle" ∧ yX8_takesFigure.cls ≠ "java/lang/invoke/VarHandle" ∧ (parseMethodDescriptor yX8_takesFigure.desc).map (fun d => d.parameters.length) = some 1 := by decide +kernel
theorem hd_X8_takesRest : yX8_takesRest.cls ≠ "java/lang/invoke/MethodHandle" ∧ yX8_takesRest.cls ≠ "java/lang/invoke/VarHandle" ∧ (parseMethodDescriptor yX8_takesRest.desc).map (fun d => d.parameters.length) = some 1 := by decide +kernel
theorem hd_X8_takesRow : yX8_takesRow.cls ≠ "java/lang/invoke/MethodHandle" ∧ yX8_takesRow.cls ≠ "java/lang/invoke/VarHandle" ∧ (parseMethodDescriptor yX8_takesRow.desc).map (fun d => d.parameters.length) = some 0 := by decide +kernel
theorem hd_X8_takesTerm : yX8_takesTerm.cls ≠ "java/lang/invoke/MethodHandle" ∧ yX8_takesTerm.cls ≠ "java/lang/invoke/VarHandle" ∧ (parseMethodDescriptor yX8_takesTerm.desc).map (fun d => d.parameters.length) = some 1 := by decide +kernel
theorem hd_X8_toldOf : yX8_toldOf.cls ≠ "java/lang/invoke/MethodHandle" ∧ yX8_toldOf.cls ≠ "java/lang/invoke/VarHandle" ∧ (parseMethodDescriptor yX8_toldOf.desc).map (fun d => d.parameters.length) = some 1 := by decide +kernel
theorem hd_X8_whyOf : yX8_whyOf.cls ≠ "java/lang/invoke/MethodHandle" ∧ yX8_whyOf.cls ≠ "java/lang/invoke/VarHandle" ∧ (parseMethodDescriptor yX8_whyOf.desc).map (fun d => d.parameters.length) = some 1 := by decide +kernel
theorem hd_X8_width : yX8_width.cls ≠ "java/lang/invoke/MethodHandle" ∧ yX8_width.cls ≠ "java/lang/invoke/VarHandle" ∧ (parseMethodDescriptor yX8_width.desc).map (fun d => d.parameters.length) = some 0 := by decide +kernel
theorem hd_X8_workDegree : yX8_workDegree.cls ≠ "java/lang/invoke/MethodHandle" ∧ yX8_workDegree.cls ≠ "java/lang/invoke/VarHandle" ∧ (parseMethodDescriptor yX8_workDegree.desc).map (fun d => d.parameters.length) = some 1 := by decide +kernel
theorem hd_X8_workDegreeAt : yX8_workDegreeAt.cls ≠ "java/lang/invoke/MethodHandle" ∧ yX8_workDegreeAt.cls ≠ "java/lang/invoke/VarHandle" ∧ (parseMethodDescriptor yX8_workDegreeAt.desc).map (fun d => d.parameters.length) = some 2 := by decide +kernel
theorem hd_X8_workPivot : yX8_workPivot.cls ≠ "java/lang/invoke/MethodHandle" ∧ yX8_workPivot.cls ≠ "java/lang/invoke/VarHandle" ∧ (parseMethodDescriptor yX8_workPivot.desc).map (fun d => d.parameters.length) = some 1 := by decide +kernel
theorem nl_8 : ("PopovRows$Rows", 40, ⟨"PopovRows", "modulo", "(II)I"⟩, "PopovRows") ∈ nestL := List.mem_of_getElem? (i := 8) rfl
theorem nl_9 : ("PopovRows$Rows", 72, ⟨"PopovRows", "powerAt", "(I)I"⟩, "PopovRows") ∈ nestL := List.mem_of_getElem? (i := 9) rfl
theorem nl_10 : ("PopovRows$Rows", 75, ⟨"PopovRows", "columnAt", "(I)I"⟩, "PopovRows") ∈ nestL := List.mem_of_getElem? (i := 10) rfl
theorem nl_11 : ("PopovRows$Shape", 35, ⟨"PopovRows", "columnAt", "(I)I"⟩, "PopovRows") ∈ nestL := List.mem_of_getElem? (i := 11) rfl
theorem nl_12 : ("PopovRows$Step", 43, ⟨"PopovRows", "inverse", "(II)I"⟩, "PopovRows") ∈ nestL := List.mem_of_getElem? (i := 12) rfl
theorem nl_13 : ("PopovRows$Step", 49, ⟨"PopovRows", "modulo", "(II)I"⟩, "PopovRows") ∈ nestL := List.mem_of_getElem? (i := 13) rfl
theorem nl_14 : ("PopovRows$Step", 58, ⟨"PopovRows", "powerAt", "(I)I"⟩, "PopovRows") ∈ nestL := List.mem_of_getElem? (i := 14) rfl
theorem nl_15 : ("PopovRows$Popov", 51, ⟨"PopovRows", "isInSet", "(II)Z"⟩, "PopovRows") ∈ nestL := List.mem_of_getElem? (i := 15) rfl
theorem nl_16 : ("PopovRows$Popov", 108, ⟨"PopovRows", "inverse", "(II)I"⟩, "PopovRows") ∈ nestL := List.mem_of_getElem? (i := 16) rfl
theorem nl_17 : ("PopovRows$Shape", 38, ⟨"PopovRows", "powerAt", "(I)I"⟩, "PopovRows") ∈ nestL := List.mem_of_getElem? (i := 17) rfl
theorem nl_18 : ("PopovRows$Popov", 131, ⟨"PopovRows", "powerAt", "(I)I"⟩, "PopovRows") ∈ nestL := List.mem_of_getElem? (i := 18) rfl
theorem nl_19 : ("PopovRows$Popov", 82, ⟨"PopovRows", "modulo", "(II)I"⟩, "PopovRows") ∈ nestL := List.mem_of_getElem? (i := 19) rfl
theorem nl_20 : ("PopovRows$Determinant", 45, ⟨"PopovRows", "isInSet", "(II)Z"⟩, "PopovRows") ∈ nestL := List.mem_of_getElem? (i := 20) rfl
theorem nl_22 : ("PopovRows$Script", 66, ⟨"PopovRows", "isWithin", "(III)Z"⟩, "PopovRows") ∈ nestL := List.mem_of_getElem? (i := 22) rfl
theorem nl_23 : ("PopovRows$Script", 49, ⟨"PopovRows", "isPrime", "(I)Z"⟩, "PopovRows") ∈ nestL := List.mem_of_getElem? (i := 23) rfl
noncomputable def fX8_in (a0 : Int64) (a1 : Int64) (a2 : Int64) : Int32 := if (lg_cmp a0 a1) < 0 then ((0 : Int32)) else (if 0 < (lg_cmp a0 a2) then ((0 : Int32)) else ((1 : Int32)))
abbrev rm_X8_in : Room := { frames := 0, cells := 0, slots := 0, locals := 0 }
set_option maxHeartbeats 4000000 in
set_option maxRecDepth 100000 in
theorem cX8_in (l : Launch) (D : va_G) (cI cB cR : ClassId) (sz : Nat) (a0 : Int64) (a1 : Int64) (a2 : Int64) (res : Int32) (hf : fX8_in a0 a1 a2 = res) : Met l yX8_in wsX8_in rm_X8_in (qP D cI cB cR [.long a0, .long a1, .long a2] ([] : va_W) sz) (qZ D res ([] : va_W) ([] : va_W) sz) 0 0 (va_A ([] : va_W) sz) := by
  refine entZ (by decide) rfl (by decide) ?_
  intro p e s m args below meth c Q A ls S hG hP hD hA hl hE
  obtain ⟨hx, hb, hml, hown, hts⟩ := S
  have hown : s.vm.findClass RX8 = some m.cls := hown
  have hS : va_S A s.heap s.heap [] := va_S.rf
  have hl : lv_has ls 6 [(0, .long a0), (2, .long a1), (4, .long a2)] := hl
  have hq := hf
  unfold fX8_in at hq
  obtain ⟨H, hH⟩ : ∃ H, H = s.heap := ⟨_, rfl⟩
  obtain ⟨locs, hlo⟩ : ∃ L : List Loc, L = [] := ⟨_, rfl⟩
  have hP : va_P D cls9 ([] : va_W) H := hH ▸ hP
  have hS : va_S A s.heap H locs := by rw [hH, hlo]; exact hS
  suffices hg : W p l e rm_X8_in s m args below meth c H locs 0 0 Q (F0 m 0 ls []) by rw [hH, hlo] at hg; exact hg
  refine lv_lload_n hx hb dX8_in_0 rfl (lv_at hl 0 rfl) ?_
  refine lv_lload_n hx hb dX8_in_1 rfl (lv_at hl 1 rfl) ?_
  refine W.lcmp hx hb dX8_in_2 ?_
  refine lv_if_lt (tgt := 17) hx hb dX8_in_3 (by decide) (fun c_1 => ?_) (fun c_1 => ?_)
  · have hq := it_t c_1 hq
    refine lv_iconst (v := 0) hx hb dX8_in_17 (by decide) ?_
    have he := hq
    subst he
    exact hE H locs _ _ _ rfl (Or.inl rfl) dX8_in_18 hP hD hS
  · have hq := it_f c_1 hq
    refine lv_lload_n hx hb dX8_in_6 rfl (lv_at hl 0 rfl) ?_
    refine lv_lload hx hb dX8_in_7 (lv_at hl 2 rfl) ?_
    refine W.lcmp hx hb dX8_in_9 ?_
    refine lv_if_gt (tgt := 17) hx hb dX8_in_10 (by decide) (fun c_2 => ?_) (fun c_2 => ?_)
    · have hq := it_t c_2 hq
      refine lv_iconst (v := 0) hx hb dX8_in_17 (by decide) ?_
      have he := hq
      subst he
      exact hE H locs _ _ _ rfl (Or.inl rfl) dX8_in_18 hP hD hS
    · have hq := it_f c_2 hq
      refine lv_iconst (v := 1) hx hb dX8_in_13 (by decide) ?_
      refine lv_goto (tgt := 18) hx hb dX8_in_14 (by decide) ?_
      have he := hq
      subst he
      exact hE H locs _ _ _ rfl (Or.inr rfl) dX8_in_18 hP hD hS
noncomputable def fX8_keep_s10 (i_2 : Int32) (i_3 : Nat → Int32) : Option ((Int32 × (Nat → Int32)) ⊕ (Nat → Int32)) := if (432 : Int32) ≤ i_2 then (some (.inr i_3)) else (gd (vp_in (i_2 + (108 : Int32)) 540) (gd (vp_in i_2 540) (some (.inl ((i_2 + 1), (upd i_3 i_2.toNatClampNeg (i_3 (i_2 + (108 : Int32)).toNatClampNeg)))))))
noncomputable def fX8_keep_s50 (all : Nat → Int32) (j_9 : Int32) (i_10 : Int32) (i_11 : Nat → Int32) : Option ((Int32 × (Nat → Int32)) ⊕ (Nat → Int32)) := if (108 : Int32) ≤ i_10 then (some (.inr i_11)) else (gd (vp_in i_10 108) (gd (vp_in (((108 : Int32) * j_9) + i_10) 540) (some (.inl ((i_10 + 1), (upd i_11 (((108 : Int32) * j_9) + i_10).toNatClampNeg (all i_10.toNatClampNeg)))))))
noncomputable def fX8_keep (states : Int32) (all : Nat → Int32) (past : Nat → Int32) : Option (Int32 × (Nat → Int32)) := bd2 (if states = (5 : Int32) then (bd (Lp (fun (z : Int32 × (Nat → Int32)) => fX8_keep_s10 z.1 z.2) ((0 : Int32), past)) (fun (x_7 : Nat → Int32) => some (x_7, (states - (1 : Int32))))) else (some (past, states))) (fun (j_8 : Nat → Int32) (j_9 : Int32) => bd (Lp (fun (z : Int32 × (Nat → Int32)) => fX8_keep_s50 all j_9 z.1 z.2) ((0 : Int32), j_8)) (fun (x_15 : Nat → Int32) => some ((j_9 + (1 : Int32)), x_15)))
abbrev rm_X8_keep : Room := { frames := 0, cells := 0, slots := 0, locals := 0 }
theorem iX8_keep_X8 : ∀ w ∈ wsX80, w ∈ wsX8_keep := fun _ h => (List.mem_cons_of_mem _ (List.mem_append_right _ h))
theorem fX8_keep_1 : Cond.fieldLink RX8 62 "PopovRowsModel" "states" "I" ∈ wsX8_keep := (List.mem_cons_of_mem _ (List.mem_append_left _ (List.mem_of_getElem? (i := 0) rfl)))
theorem fX8_keep_2 : Cond.fieldLink RX8 13 "PopovRowsModel" "past" "[I" ∈ wsX8_keep := (List.mem_cons_of_mem _ (List.mem_append_left _ (List.mem_of_getElem? (i := 1) rfl)))
theorem fX8_keep_3 : Cond.fieldLink RX8 7 "PopovRowsModel" "all" "[I" ∈ wsX8_keep := (List.mem_cons_of_mem _ (List.mem_append_left _ (List.mem_of_getElem? (i := 2) rfl)))
set_option maxHeartbeats 4000000 in
set_option maxRecDepth 100000 in
theorem cX8_keep (l : Launch) (D : va_G) (cI cB cR : ClassId) (ad : Nat → Nat) (sz : Nat) (states : Int32) (whyKind : Int32) (whyOrder : Int32) (many : Int32) (wide : Int32) (textLong : Int32) (spot : Int32) (readColumns : Int32) (all : Nat → Int32) (past : Nat → Int32) (refused : Nat → Int32) (work : Nat → Int32) (kept : Nat → Int32) (chosen : Nat → Int32) (across : Nat → Int32) (sum : Nat → Int32) (one : Nat → Int32) (two : Nat → Int32) (base : Nat → Int32) (quotients : Nat → Int32) (text : Nat → Int32) (numbers : Nat → Int32) (entries : Nat → Int32) (before : Nat → Int32) (res : Int32 × (Nat → Int32)) (hf : fX8_keep states all past = some res) : Met l yX8_keep wsX8_keep rm_X8_keep (qP D cI cB cR [.ref (ad 0)] (wM cI ad states whyKind whyOrder many wide textLong spot readColumns all past refused work kept chosen across sum one two base quotients text numbers entries before) sz) (qV D (wM cI ad states whyKind whyOrder many wide textLong spot readColumns all past refused work kept chosen across sum one two base quotients text numbers entries before) (wM cI ad res.1 whyKind whyOrder many wide textLong spot readColumns all res.2 refused work kept chosen across sum one two base quotients text numbers entries before) sz) 0 0 (va_A (wM cI ad states whyKind whyOrder many wide textLong spot readColumns all past refused work kept chosen across sum one two base quotients text numbers entries before) sz) := by
  refine entV (by decide) rfl (by decide) ?_
  intro p e s m args below meth c Q A ls S hG hP hD hA hl hE
  obtain ⟨hx, hb, hml, hown, hts⟩ := S
  have hown : s.vm.findClass RX8 = some m.cls := hown
  have hS : va_S A s.heap s.heap [] := va_S.rf
  have hl : lv_has ls 2 [(0, .ref (ad 0))] := hl
  have hq := hf
  unfold fX8_keep at hq
  obtain ⟨H, hH⟩ : ∃ H, H = s.heap := ⟨_, rfl⟩
  obtain ⟨locs, hlo⟩ : ∃ L : List Loc, L = [] := ⟨_, rfl⟩
  have hP : va_P D cls9 (wM cI ad states whyKind whyOrder many wide textLong spot readColumns all past refused work kept chosen across sum one two base quotients text numbers entries before) H := hH ▸ hP
  have hS : va_S A s.heap H locs := by rw [hH, hlo]; exact hS
  suffices hg : W p l e rm_X8_keep s m args below meth c H locs 0 0 Q (F0 m 0 ls []) by rw [hH, hlo] at hg; exact hg
  refine lv_aload_n hx hb dX8_keep_0 rfl (lv_at hl 0 rfl) ?_
  refine va_get (D := D) (ci := 8) (v := .int states) (C := RX8) (T := TX8) (N := 24) hx hb hts iX8_keep_X8 hown hG.1 hP 0 rfl rfl 2 (by decide) (hts _ fX8_keep_1) (fun _ h9 => h9) rfl dX8_keep_1 ?_
  refine lv_iconst (v := 5) hx hb dX8_keep_4 (by decide) ?_
  obtain ⟨v1, hj1, hk1⟩ := bd2_s hq
  have hJ1 : ∀ (j_8 : Nat → Int32) (j_9 : Int32), v1 = (j_8, j_9) → ∀ (H : Heap) (locs : List Loc), va_P D cls9 (wM cI ad j_9 whyKind whyOrder many wide textLong spot readColumns all j_8 refused work kept chosen across sum one two base quotients text numbers entries before) H → va_D A (wM cI ad j_9 whyKind whyOrder many wide textLong spot readColumns all j_8 refused work kept chosen across sum one two base quotients text numbers entries before) → va_S A s.heap H locs → ∀ (ls : Array Slot), lv_has ls 2 [(0, .ref (ad 0))] → W p l e rm_X8_keep s m args below meth c H locs 0 0 Q (F0 m 48 ls []) := by
    intro j_8 j_9 hq H locs hP hD hS ls hl
    have hq := hk1 _ _ hq
    refine lv_iconst (v := 0) hx hb dX8_keep_48 (by decide) ?_
    refine lv_istore_n (lv' := [(1, .int (0 : Int32)), (0, .ref (ad 0))]) hx hb dX8_keep_49 rfl hl (by decide) rfl (fun ls hl => ?_)
    obtain ⟨w3, hw3, hk3⟩ := bd1_s hq
    have hX3 : ∀ (x_15 : Nat → Int32), w3 = x_15 → ∀ (H : Heap) (locs : List Loc), va_P D cls9 (wM cI ad j_9 whyKind whyOrder many wide textLong spot readColumns all x_15 refused work kept chosen across sum one two base quotients text numbers entries before) H → va_D A (wM cI ad j_9 whyKind whyOrder many wide textLong spot readColumns all x_15 refused work kept chosen across sum one two base quotients text numbers entries before) → va_S A s.heap H locs → ∀ (ls : Array Slot), lv_has ls 2 [(0, .ref (ad 0))] → W p l e rm_X8_keep s m args below meth c H locs 0 0 Q (F0 m 82 ls []) := by
      intro x_15 hq H locs hP hD hS ls hl
      have hq := hk3 _ hq
      refine lv_aload_n hx hb dX8_keep_82 rfl (lv_at hl 0 rfl) ?_
      refine lv_dup hx hb dX8_keep_83 rfl ?_
      refine va_get (D := D) (ci := 8) (v := .int j_9) (C := RX8) (T := TX8) (N := 24) hx hb hts iX8_keep_X8 hown hG.1 hP 0 rfl rfl 2 (by decide) (hts _ fX8_keep_1) (fun _ h9 => h9) rfl dX8_keep_84 ?_
      refine lv_iconst (v := 1) hx hb dX8_keep_87 (by decide) ?_
      refine lv_iadd hx hb dX8_keep_88 ?_
      refine va_put (D := D) (ci := 8) (v := .int (j_9 + (1 : Int32))) (ty := .int) (C := RX8) (T := TX8) (N := 24) hx hb hts iX8_keep_X8 tyX8 tyX8_ok nmX8 hown hG.1 hP hD hS 0 rfl rfl 2 (by decide) (hts _ fX8_keep_1) (fun _ h9 => h9) rfl (by decide +kernel) rfl rfl (Nat.le_of_ble_eq_true rfl) dX8_keep_89 (fun H locs hP hD hS => ?_)
      have hP : va_P D cls9 (wM cI ad (j_9 + (1 : Int32)) whyKind whyOrder many wide textLong spot readColumns all x_15 refused work kept chosen across sum one two base quotients text numbers entries before) H := hP
      have hD : va_D A (wM cI ad (j_9 + (1 : Int32)) whyKind whyOrder many wide textLong spot readColumns all x_15 refused work kept chosen across sum one two base quotients text numbers entries before) := hD
      have he := Option.some.inj hq
      subst he
      exact hE H locs _ _ dX8_keep_92 hP hD hS
    have hL3 : ∀ (n : Nat) (i_10 : Int32) (i_11 : Nat → Int32), lrun (fun (z : Int32 × (Nat → Int32)) => fX8_keep_s50 all j_9 z.1 z.2) n (i_10, i_11) = some w3 → ∀ (H : Heap) (locs : List Loc), va_P D cls9 (wM cI ad j_9 whyKind whyOrder many wide textLong spot readColumns all i_11 refused work kept chosen across sum one two base quotients text numbers entries before) H → va_D A (wM cI ad j_9 whyKind whyOrder many wide textLong spot readColumns all i_11 refused work kept chosen across sum one two base quotients text numbers entries before) → va_S A s.heap H locs → ∀ (ls : Array Slot), lv_has ls 2 [(0, .ref (ad 0)), (1, .int i_10)] → W p l e rm_X8_keep s m args below meth c H locs 0 0 Q (F0 m 50 ls []) := by
      intro n
      induction n with
      | zero => intro i_10 i_11 h; cases h
      | succ n ih3 =>
        intro i_10 i_11 hr3 H locs hP hD hS ls hl
        obtain ⟨k, v3, hk, hr3, ht3, hv3⟩ := lrun_s hr3
        cases hk
        have hr3 : fX8_keep_s50 all j_9 i_10 i_11 = some v3 := hr3
        unfold fX8_keep_s50 at hr3
        refine lv_iload_n hx hb dX8_keep_50 rfl (lv_at hl 1 rfl) ?_
        refine lv_bipush (v := 108) hx hb dX8_keep_51 (by decide) ?_
        refine lv_icmp_ge (tgt := 82) hx hb dX8_keep_53 (by decide) (fun c_12 => ?_) (fun c_12 => ?_)
        · have hr3 := it_t c_12 hr3
          exact hX3 i_11 (hv3 _ (Option.some.inj hr3).symm).symm H locs hP hD hS ls (lv_sub hl [0] rfl)
        · have hr3 := it_f c_12 hr3
          refine lv_aload_n hx hb dX8_keep_56 rfl (lv_at hl 0 rfl) ?_
          refine va_get (D := D) (ci := 8) (v := .ref (ad 2)) (C := RX8) (T := TX8) (N := 24) hx hb hts iX8_keep_X8 hown hG.1 hP 0 rfl rfl 1 (by decide) (hts _ fX8_keep_2) (fun _ h9 => h9) rfl dX8_keep_57 ?_
          refine lv_bipush (v := 108) hx hb dX8_keep_60 (by decide) ?_
          refine lv_aload_n hx hb dX8_keep_62 rfl (lv_at hl 0 rfl) ?_
          refine va_get (D := D) (ci := 8) (v := .int j_9) (C := RX8) (T := TX8) (N := 24) hx hb hts iX8_keep_X8 hown hG.1 hP 0 rfl rfl 2 (by decide) (hts _ fX8_keep_1) (fun _ h9 => h9) rfl dX8_keep_63 ?_
          refine lv_imul hx hb dX8_keep_66 ?_
          refine lv_iload_n hx hb dX8_keep_67 rfl (lv_at hl 1 rfl) ?_
          refine lv_iadd hx hb dX8_keep_68 ?_
          refine lv_aload_n hx hb dX8_keep_69 rfl (lv_at hl 0 rfl) ?_
          refine va_get (D := D) (ci := 8) (v := .ref (ad 1)) (C := RX8) (T := TX8) (N := 24) hx hb hts iX8_keep_X8 hown hG.1 hP 0 rfl rfl 0 (by decide) (hts _ fX8_keep_3) (fun _ h9 => h9) rfl dX8_keep_70 ?_
          refine lv_iload_n hx hb dX8_keep_73 rfl (lv_at hl 1 rfl) ?_
          obtain ⟨h_13, hr3⟩ := gd_s hr3
          refine va_iald hx hb hG.1 hP 1 0 rfl rfl h_13 dX8_keep_74 ?_
          obtain ⟨h_14, hr3⟩ := gd_s hr3
          refine va_iast hx hb hG.1 hP hD hS 2 0 rfl rfl h_14 dX8_keep_75 (fun H locs hP hD hS => ?_)
          have hP : va_P D cls9 (wM cI ad j_9 whyKind whyOrder many wide textLong spot readColumns all (upd i_11 (((108 : Int32) * j_9) + i_10).toNatClampNeg (all i_10.toNatClampNeg)) refused work kept chosen across sum one two base quotients text numbers entries before) H := hP
          have hD : va_D A (wM cI ad j_9 whyKind whyOrder many wide textLong spot readColumns all (upd i_11 (((108 : Int32) * j_9) + i_10).toNatClampNeg (all i_10.toNatClampNeg)) refused work kept chosen across sum one two base quotients text numbers entries before) := hD
          refine lv_iinc (v := (i_10 + 1)) (lv' := [(1, .int (i_10 + 1)), (0, .ref (ad 0))]) hx hb dX8_keep_76 hl (k := 1) rfl rfl (by decide) rfl (fun ls hl => ?_)
          refine lv_goto (tgt := 50) hx hb dX8_keep_79 (by decide) ?_
          exact ih3 (i_10 + 1) (upd i_11 (((108 : Int32) * j_9) + i_10).toNatClampNeg (all i_10.toNatClampNeg)) (ht3 _ (Option.some.inj hr3).symm) H locs hP hD hS ls (lv_sub hl [1, 0] rfl)
    obtain ⟨n3, hn3⟩ := Lp_s hw3
    exact hL3 n3 (0 : Int32) j_8 hn3 H locs hP hD hS ls (lv_sub hl [1, 0] rfl)
  refine lv_icmp_ne (tgt := 48) hx hb dX8_keep_5 (by decide) (fun c_1 => ?_) (fun c_1 => ?_)
  · have hj1 := it_f c_1 hj1
    exact hJ1 past states (Option.some.inj hj1).symm  H locs hP hD hS ls (lv_sub hl [0] rfl)
  · have hj1 := it_t c_1 hj1
    refine lv_iconst (v := 0) hx hb dX8_keep_8 (by decide) ?_
    refine lv_istore_n (lv' := [(1, .int (0 : Int32)), (0, .ref (ad 0))]) hx hb dX8_keep_9 rfl hl (by decide) rfl (fun ls hl => ?_)
    obtain ⟨w2, hw2, hk2⟩ := bd1_s hj1
    have hX2 : ∀ (x_7 : Nat → Int32), w2 = x_7 → ∀ (H : Heap) (locs : List Loc), va_P D cls9 (wM cI ad states whyKind whyOrder many wide textLong spot readColumns all x_7 refused work kept chosen across sum one two base quotients text numbers entries before) H → va_D A (wM cI ad states whyKind whyOrder many wide textLong spot readColumns all x_7 refused work kept chosen across sum one two base quotients text numbers entries before) → va_S A s.heap H locs → ∀ (ls : Array Slot), lv_has ls 2 [(0, .ref (ad 0))] → W p l e rm_X8_keep s m args below meth c H locs 0 0 Q (F0 m 38 ls []) := by
      intro x_7 hq H locs hP hD hS ls hl
      have hj1 := hk2 _ hq
      refine lv_aload_n hx hb dX8_keep_38 rfl (lv_at hl 0 rfl) ?_
      refine lv_dup hx hb dX8_keep_39 rfl ?_
      refine va_get (D := D) (ci := 8) (v := .int states) (C := RX8) (T := TX8) (N := 24) hx hb hts iX8_keep_X8 hown hG.1 hP 0 rfl rfl 2 (by decide) (hts _ fX8_keep_1) (fun _ h9 => h9) rfl dX8_keep_40 ?_
      refine lv_iconst (v := 1) hx hb dX8_keep_43 (by decide) ?_
      refine lv_isub hx hb dX8_keep_44 ?_
      refine va_put (D := D) (ci := 8) (v := .int (states - (1 : Int32))) (ty := .int) (C := RX8) (T := TX8) (N := 24) hx hb hts iX8_keep_X8 tyX8 tyX8_ok nmX8 hown hG.1 hP hD hS 0 rfl rfl 2 (by decide) (hts _ fX8_keep_1) (fun _ h9 => h9) rfl (by decide +kernel) rfl rfl (Nat.le_of_ble_eq_true rfl) dX8_keep_45 (fun H locs hP hD hS => ?_)
      have hP : va_P D cls9 (wM cI ad (states - (1 : Int32)) whyKind whyOrder many wide textLong spot readColumns all x_7 refused work kept chosen across sum one two base quotients text numbers entries before) H := hP
      have hD : va_D A (wM cI ad (states - (1 : Int32)) whyKind whyOrder many wide textLong spot readColumns all x_7 refused work kept chosen across sum one two base quotients text numbers entries before) := hD
      exact hJ1 x_7 (states - (1 : Int32)) (Option.some.inj hj1).symm  H locs hP hD hS ls (lv_sub hl [0] rfl)
    have hL2 : ∀ (n : Nat) (i_2 : Int32) (i_3 : Nat → Int32), lrun (fun (z : Int32 × (Nat → Int32)) => fX8_keep_s10 z.1 z.2) n (i_2, i_3) = some w2 → ∀ (H : Heap) (locs : List Loc), va_P D cls9 (wM cI ad states whyKind whyOrder many wide textLong spot readColumns all i_3 refused work kept chosen across sum one two base quotients text numbers entries before) H → va_D A (wM cI ad states whyKind whyOrder many wide textLong spot readColumns all i_3 refused work kept chosen across sum one two base quotients text numbers entries before) → va_S A s.heap H locs → ∀ (ls : Array Slot), lv_has ls 2 [(0, .ref (ad 0)), (1, .int i_2)] → W p l e rm_X8_keep s m args below meth c H locs 0 0 Q (F0 m 10 ls []) := by
      intro n
      induction n with
      | zero => intro i_2 i_3 h; cases h
      | succ n ih2 =>
        intro i_2 i_3 hr2 H locs hP hD hS ls hl
        obtain ⟨k, v2, hk, hr2, ht2, hv2⟩ := lrun_s hr2
        cases hk
        have hr2 : fX8_keep_s10 i_2 i_3 = some v2 := hr2
        unfold fX8_keep_s10 at hr2
        refine lv_iload_n hx hb dX8_keep_10 rfl (lv_at hl 1 rfl) ?_
        refine lv_sipush (v := 432) hx hb dX8_keep_11 (by decide) ?_
        refine lv_icmp_ge (tgt := 38) hx hb dX8_keep_14 (by decide) (fun c_4 => ?_) (fun c_4 => ?_)
        · have hr2 := it_t c_4 hr2
          exact hX2 i_3 (hv2 _ (Option.some.inj hr2).symm).symm H locs hP hD hS ls (lv_sub hl [0] rfl)
        · have hr2 := it_f c_4 hr2
          refine lv_aload_n hx hb dX8_keep_17 rfl (lv_at hl 0 rfl) ?_
          refine va_get (D := D) (ci := 8) (v := .ref (ad 2)) (C := RX8) (T := TX8) (N := 24) hx hb hts iX8_keep_X8 hown hG.1 hP 0 rfl rfl 1 (by decide) (hts _ fX8_keep_2) (fun _ h9 => h9) rfl dX8_keep_18 ?_
          refine lv_iload_n hx hb dX8_keep_21 rfl (lv_at hl 1 rfl) ?_
          refine lv_aload_n hx hb dX8_keep_22 rfl (lv_at hl 0 rfl) ?_
          refine va_get (D := D) (ci := 8) (v := .ref (ad 2)) (C := RX8) (T := TX8) (N := 24) hx hb hts iX8_keep_X8 hown hG.1 hP 0 rfl rfl 1 (by decide) (hts _ fX8_keep_2) (fun _ h9 => h9) rfl dX8_keep_23 ?_
          refine lv_iload_n hx hb dX8_keep_26 rfl (lv_at hl 1 rfl) ?_
          refine lv_bipush (v := 108) hx hb dX8_keep_27 (by decide) ?_
          refine lv_iadd hx hb dX8_keep_29 ?_
          obtain ⟨h_5, hr2⟩ := gd_s hr2
          refine va_iald hx hb hG.1 hP 2 0 rfl rfl h_5 dX8_keep_30 ?_
          obtain ⟨h_6, hr2⟩ := gd_s hr2
          refine va_iast hx hb hG.1 hP hD hS 2 0 rfl rfl h_6 dX8_keep_31 (fun H locs hP hD hS => ?_)
          have hP : va_P D cls9 (wM cI ad states whyKind whyOrder many wide textLong spot readColumns all (upd i_3 i_2.toNatClampNeg (i_3 (i_2 + (108 : Int32)).toNatClampNeg)) refused work kept chosen across sum one two base quotients text numbers entries before) H := hP
          have hD : va_D A (wM cI ad states whyKind whyOrder many wide textLong spot readColumns all (upd i_3 i_2.toNatClampNeg (i_3 (i_2 + (108 : Int32)).toNatClampNeg)) refused work kept chosen across sum one two base quotients text numbers entries before) := hD
          refine lv_iinc (v := (i_2 + 1)) (lv' := [(1, .int (i_2 + 1)), (0, .ref (ad 0))]) hx hb dX8_keep_32 hl (k := 1) rfl rfl (by decide) rfl (fun ls hl => ?_)
          refine lv_goto (tgt := 10) hx hb dX8_keep_35 (by decide) ?_
          exact ih2 (i_2 + 1) (upd i_3 i_2.toNatClampNeg (i_3 (i_2 + (108 : Int32)).toNatClampNeg)) (ht2 _ (Option.some.inj hr2).symm) H locs hP hD hS ls (lv_sub hl [1, 0] rfl)
    obtain ⟨n2, hn2⟩ := Lp_s hw2
    exact hL2 n2 (0 : Int32) past hn2 H locs hP hD hS ls (lv_sub hl [1, 0] rfl)
noncomputable def fX8_modulus (all : Nat → Int32) : Option (Int32) := gd (vp_in (0 : Int32) 108) (some (all (0 : Int32).toNatClampNeg))
abbrev rm_X8_modulus : Room := { frames := 0, cells := 0, slots := 0, locals := 0 }
theorem iX8_modulus_X8 : ∀ w ∈ wsX80, w ∈ wsX8_modulus := fun _ h => (List.mem_cons_of_mem _ (List.mem_append_right _ h))
theorem fX8_modulus_1 : Cond.fieldLink RX8 7 "PopovRowsModel" "all" "[I" ∈ wsX8_modulus := (List.mem_cons_of_mem _ (List.mem_append_left _ (List.mem_of_getElem? (i := 0) rfl)))
set_option maxHeartbeats 4000000 in
set_option maxRecDepth 100000 in
theorem cX8_modulus (l : Launch) (D : va_G) (cI cB cR : ClassId) (ad : Nat → Nat) (sz : Nat) (states : Int32) (whyKind : Int32) (whyOrder : Int32) (many : Int32) (wide : Int32) (textLong : Int32) (spot : Int32) (readColumns : Int32) (all : Nat → Int32) (past : Nat → Int32) (refused : Nat → Int32) (work : Nat → Int32) (kept : Nat → Int32) (chosen : Nat → Int32) (across : Nat → Int32) (sum : Nat → Int32) (one : Nat → Int32) (two : Nat → Int32) (base : Nat → Int32) (quotients : Nat → Int32) (text : Nat → Int32) (numbers : Nat → Int32) (entries : Nat → Int32) (before : Nat → Int32) (res : Int32) (hf : fX8_modulus all = some res) : Met l yX8_modulus wsX8_modulus rm_X8_modulus (qP D cI cB cR [.ref (ad 0)] (wM cI ad states whyKind whyOrder many wide textLong spot readColumns all past refused work kept chosen across sum one two base quotients text numbers entries before) sz) (qI D res (wM cI ad states whyKind whyOrder many wide textLong spot readColumns all past refused work kept chosen across sum one two base quotients text numbers entries before) (wM cI ad states whyKind whyOrder many wide textLong spot readColumns all past refused work kept chosen across sum one two base quotients text numbers entries before) sz) 0 0 (va_A (wM cI ad states whyKind whyOrder many wide textLong spot readColumns all past refused work kept chosen across sum one two base quotients text numbers entries before) sz) := by
  refine entI (by decide) rfl (by decide) ?_
  intro p e s m args below meth c Q A ls S hG hP hD hA hl hE
  obtain ⟨hx, hb, hml, hown, hts⟩ := S
  have hown : s.vm.findClass RX8 = some m.cls := hown
  have hS : va_S A s.heap s.heap [] := va_S.rf
  have hl : lv_has ls 1 [(0, .ref (ad 0))] := hl
  have hq := hf
  unfold fX8_modulus at hq
  obtain ⟨H, hH⟩ : ∃ H, H = s.heap := ⟨_, rfl⟩
  obtain ⟨locs, hlo⟩ : ∃ L : List Loc, L = [] := ⟨_, rfl⟩
  have hP : va_P D cls9 (wM cI ad states whyKind whyOrder many wide textLong spot readColumns all past refused work kept chosen across sum one two base quotients text numbers entries before) H := hH ▸ hP
  have hS : va_S A s.heap H locs := by rw [hH, hlo]; exact hS
  suffices hg : W p l e rm_X8_modulus s m args below meth c H locs 0 0 Q (F0 m 0 ls []) by rw [hH, hlo] at hg; exact hg
  refine lv_aload_n hx hb dX8_modulus_0 rfl (lv_at hl 0 rfl) ?_
  refine va_get (D := D) (ci := 8) (v := .ref (ad 1)) (C := RX8) (T := TX8) (N := 24) hx hb hts iX8_modulus_X8 hown hG.1 hP 0 rfl rfl 0 (by decide) (hts _ fX8_modulus_1) (fun _ h9 => h9) rfl dX8_modulus_1 ?_
  refine lv_iconst (v := 0) hx hb dX8_modulus_4 (by decide) ?_
  obtain ⟨h_1, hq⟩ := gd_s hq
  refine va_iald hx hb hG.1 hP 1 0 rfl rfl h_1 dX8_modulus_5 ?_
  have he := Option.some.inj hq
  subst he
  exact hE H locs _ _ _ rfl dX8_modulus_6 hP hD hS
noncomputable def fX8_rows (all : Nat → Int32) : Option (Int32) := gd (vp_in (2 : Int32) 108) (some (all (2 : Int32).toNatClampNeg))
abbrev rm_X8_rows : Room := { frames := 0, cells := 0, slots := 0, locals := 0 }
theorem iX8_rows_X8 : ∀ w ∈ wsX80, w ∈ wsX8_rows := fun _ h => (List.mem_cons_of_mem _ (List.mem_append_right _ h))
theorem fX8_rows_1 : Cond.fieldLink RX8 7 "PopovRowsModel" "all" "[I" ∈ wsX8_rows := (List.mem_cons_of_mem _ (List.mem_append_left _ (List.mem_of_getElem? (i := 0) rfl)))
set_option maxHeartbeats 4000000 in
set_option maxRecDepth 100000 in
theorem cX8_rows (l : Launch) (D : va_G) (cI cB cR : ClassId) (ad : Nat → Nat) (sz : Nat) (states : Int32) (whyKind : Int32) (whyOrder : Int32) (many : Int32) (wide : Int32) (textLong : Int32) (spot : Int32) (readColumns : Int32) (all : Nat → Int32) (past : Nat → Int32) (refused : Nat → Int32) (work : Nat → Int32) (kept : Nat → Int32) (chosen : Nat → Int32) (across : Nat → Int32) (sum : Nat → Int32) (one : Nat → Int32) (two : Nat → Int32) (base : Nat → Int32) (quotients : Nat → Int32) (text : Nat → Int32) (numbers : Nat → Int32) (entries : Nat → Int32) (before : Nat → Int32) (res : Int32) (hf : fX8_rows all = some res) : Met l yX8_rows wsX8_rows rm_X8_rows (qP D cI cB cR [.ref (ad 0)] (wM cI ad states whyKind whyOrder many wide textLong spot readColumns all past refused work kept chosen across sum one two base quotients text numbers entries before) sz) (qI D res (wM cI ad states whyKind whyOrder many wide textLong spot readColumns all past refused work kept chosen across sum one two base quotients text numbers entries before) (wM cI ad states whyKind whyOrder many wide textLong spot readColumns all past refused work kept chosen across sum one two base quotients text numbers entries before) sz) 0 0 (va_A (wM cI ad states whyKind whyOrder many wide textLong spot readColumns all past refused work kept chosen across sum one two base quotients text numbers entries before) sz) := by
  refine entI (by decide) rfl (by decide) ?_
  intro p e s m args below meth c Q A ls S hG hP hD hA hl hE
  obtain ⟨hx, hb, hml, hown, hts⟩ := S
  have hown : s.vm.findClass RX8 = some m.cls := hown
  have hS : va_S A s.heap s.heap [] := va_S.rf
  have hl : lv_has ls 1 [(0, .ref (ad 0))] := hl
  have hq := hf
  unfold fX8_rows at hq
  obtain ⟨H, hH⟩ : ∃ H, H = s.heap := ⟨_, rfl⟩
  obtain ⟨locs, hlo⟩ : ∃ L : List Loc, L = [] := ⟨_, rfl⟩
  have hP : va_P D cls9 (wM cI ad states whyKind whyOrder many wide textLong spot readColumns all past refused work kept chosen across sum one two base quotients text numbers entries before) H := hH ▸ hP
  have hS : va_S A s.heap H locs := by rw [hH, hlo]; exact hS
  suffices hg : W p l e rm_X8_rows s m args below meth c H locs 0 0 Q (F0 m 0 ls []) by rw [hH, hlo] at hg; exact hg
  refine lv_aload_n hx hb dX8_rows_0 rfl (lv_at hl 0 rfl) ?_
  refine va_get (D := D) (ci := 8) (v := .ref (ad 1)) (C := RX8) (T := TX8) (N := 24) hx hb hts iX8_rows_X8 hown hG.1 hP 0 rfl rfl 0 (by decide) (hts _ fX8_rows_1) (fun _ h9 => h9) rfl dX8_rows_1 ?_
  refine lv_iconst (v := 2) hx hb dX8_rows_4 (by decide) ?_
  obtain ⟨h_1, hq⟩ := gd_s hq
  refine va_iald hx hb hG.1 hP 1 0 rfl rfl h_1 dX8_rows_5 ?_
  have he := Option.some.inj hq
  subst he
  exact hE H locs _ _ _ rfl dX8_rows_6 hP hD hS
noncomputable def fX8_place (a0 : Int32) (a1 : Int32) (a2 : Int32) : Int32 := (((3 : Int32) + ((((3 : Int32) * a0) + a1) * (7 : Int32))) + a2)
abbrev rm_X8_place : Room := { frames := 0, cells := 0, slots := 0, locals := 0 }
set_option maxHeartbeats 4000000 in
set_option maxRecDepth 100000 in
theorem cX8_place (l : Launch) (D : va_G) (cI cB cR : ClassId) (sz : Nat) (a0 : Int32) (a1 : Int32) (a2 : Int32) (res : Int32) (hf : fX8_place a0 a1 a2 = res) : Met l yX8_place wsX8_place rm_X8_place (qP D cI cB cR [.int a0, .int a1, .int a2] ([] : va_W) sz) (qI D res ([] : va_W) ([] : va_W) sz) 0 0 (va_A ([] : va_W) sz) := by
  refine entI (by decide) rfl (by decide) ?_
  intro p e s m args below meth c Q A ls S hG hP hD hA hl hE
  obtain ⟨hx, hb, hml, hown, hts⟩ := S
  have hown : s.vm.findClass RX8 = some m.cls := hown
  have hS : va_S A s.heap s.heap [] := va_S.rf
  have hl : lv_has ls 3 [(0, .int a0), (1, .int a1), (2, .int a2)] := hl
  have hq := hf
  unfold fX8_place at hq
  obtain ⟨H, hH⟩ : ∃ H, H = s.heap := ⟨_, rfl⟩
  obtain ⟨locs, hlo⟩ : ∃ L : List Loc, L = [] := ⟨_, rfl⟩
  have hP : va_P D cls9 ([] : va_W) H := hH ▸ hP
  have hS : va_S A s.heap H locs := by rw [hH, hlo]; exact hS
  suffices hg : W p l e rm_X8_place s m args below meth c H locs 0 0 Q (F0 m 0 ls []) by rw [hH, hlo] at hg; exact hg
  refine lv_iconst (v := 3) hx hb dX8_place_0 (by decide) ?_
  refine lv_iconst (v := 3) hx hb dX8_place_1 (by decide) ?_
  refine lv_iload_n hx hb dX8_place_2 rfl (lv_at hl 0 rfl) ?_
  refine lv_imul hx hb dX8_place_3 ?_
  refine lv_iload_n hx hb dX8_place_4 rfl (lv_at hl 1 rfl) ?_
  refine lv_iadd hx hb dX8_place_5 ?_
  refine lv_bipush (v := 7) hx hb dX8_place_6 (by decide) ?_
  refine lv_imul hx hb dX8_place_8 ?_
  refine lv_iadd hx hb dX8_place_9 ?_
  refine lv_iload_n hx hb dX8_place_10 rfl (lv_at hl 2 rfl) ?_
  refine lv_iadd hx hb dX8_place_11 ?_
  have he := hq
  subst he
  exact hE H locs _ _ _ rfl dX8_place_12 hP hD hS
noncomputable def fX8_isRow (all : Nat → Int32) (a0 : Int32) : Option (Int32) := bd (fX8_rows all) (fun (r_1 : Int32) => some (fX8_in (a0.toInt64) (0 : Int64) (((r_1 - (1 : Int32))).toInt64)))
abbrev rm_X8_isRow : Room := { frames := 1, cells := 0, slots := 0, locals := 25 }
set_option maxHeartbeats 4000000 in
set_option maxRecDepth 100000 in
theorem cX8_isRow (l : Launch) (D : va_G) (cI cB cR : ClassId) (ad : Nat → Nat) (sz : Nat) (states : Int32) (whyKind : Int32) (whyOrder : Int32) (many : Int32) (wide : Int32) (textLong : Int32) (spot : Int32) (readColumns : Int32) (all : Nat → Int32) (past : Nat → Int32) (refused : Nat → Int32) (work : Nat → Int32) (kept : Nat → Int32) (chosen : Nat → Int32) (across : Nat → Int32) (sum : Nat → Int32) (one : Nat → Int32) (two : Nat → Int32) (base : Nat → Int32) (quotients : Nat → Int32) (text : Nat → Int32) (numbers : Nat → Int32) (entries : Nat → Int32) (before : Nat → Int32) (a0 : Int32) (res : Int32) (hf : fX8_isRow all a0 = some res) : Met l yX8_isRow wsX8_isRow rm_X8_isRow (qP D cI cB cR [.ref (ad 0), .int a0] (wM cI ad states whyKind whyOrder many wide textLong spot readColumns all past refused work kept chosen across sum one two base quotients text numbers entries before) sz) (qZ D res (wM cI ad states whyKind whyOrder many wide textLong spot readColumns all past refused work kept chosen across sum one two base quotients text numbers entries before) (wM cI ad states whyKind whyOrder many wide textLong spot readColumns all past refused work kept chosen across sum one two base quotients text numbers entries before) sz) 0 0 (va_A (wM cI ad states whyKind whyOrder many wide textLong spot readColumns all past refused work kept chosen across sum one two base quotients text numbers entries before) sz) := by
  refine entZ (by decide) rfl (by decide) ?_
  intro p e s m args below meth c Q A ls S hG hP hD hA hl hE
  obtain ⟨hx, hb, hml, hown, hts⟩ := S
  have hown : s.vm.findClass RX8 = some m.cls := hown
  have hS : va_S A s.heap s.heap [] := va_S.rf
  have hl : lv_has ls 2 [(0, .ref (ad 0)), (1, .int a0)] := hl
  have hq := hf
  unfold fX8_isRow at hq
  obtain ⟨H, hH⟩ : ∃ H, H = s.heap := ⟨_, rfl⟩
  obtain ⟨locs, hlo⟩ : ∃ L : List Loc, L = [] := ⟨_, rfl⟩
  have hP : va_P D cls9 (wM cI ad states whyKind whyOrder many wide textLong spot readColumns all past refused work kept chosen across sum one two base quotients text numbers entries before) H := hH ▸ hP
  have hS : va_S A s.heap H locs := by rw [hH, hlo]; exact hS
  suffices hg : W p l e rm_X8_isRow s m args below meth c H locs 0 0 Q (F0 m 0 ls []) by rw [hH, hlo] at hg; exact hg
  refine lv_iload_n hx hb dX8_isRow_0 rfl (lv_at hl 1 rfl) ?_
  refine lv_i2l (v := (a0.toInt64)) hx hb dX8_isRow_1 rfl ?_
  refine lv_lconst (v := 0) hx hb dX8_isRow_2 (by decide) ?_
  refine lv_aload_n hx hb dX8_isRow_3 rfl (lv_at hl 0 rfl) ?_
  obtain ⟨v_3, hq_2, hk⟩ := bd1_s hq
  obtain ⟨r_1, rfl⟩ : ∃ y, y = v_3 := ⟨_, rfl⟩
  have hq := hk _ rfl
  refine callIA (gV (rest := [.long (0 : Int64), .long (a0.toInt64)]) ⟨hx, hb, hml, hown, hts⟩ hG hP hD 0 8 rfl rfl (cX8_rows l D cI cB cR ad H.size states whyKind whyOrder many wide textLong spot readColumns all past refused work kept chosen across sum one two base quotients text numbers entries before r_1 hq_2) (cwV 0 hts gX8_isRow_X8_rows rfl rfl rfl ⟨rfl, hd_X8_rows⟩ ⟨Nat.le_of_ble_eq_true rfl, Nat.le_of_ble_eq_true rfl⟩) rfl hl.1 rfl (by decide) dX8_isRow_4) hD hS hA (fun H locs hP hD hS => ?_)
  have hP : va_P D cls9 (wM cI ad states whyKind whyOrder many wide textLong spot readColumns all past refused work kept chosen across sum one two base quotients text numbers entries before) H := hP
  have hD : va_D A (wM cI ad states whyKind whyOrder many wide textLong spot readColumns all past refused work kept chosen across sum one two base quotients text numbers entries before) := hD
  refine lv_iconst (v := 1) hx hb dX8_isRow_7 (by decide) ?_
  refine lv_isub hx hb dX8_isRow_8 ?_
  refine lv_i2l (v := (((r_1 - (1 : Int32))).toInt64)) hx hb dX8_isRow_9 rfl ?_
  refine callZ0 (gS (rest := []) ⟨hx, hb, hml, hown, hts⟩ hG vaP0 (vaD0 (A := A)) (cX8_in l D cI cB cR H.size (a0.toInt64) (0 : Int64) (((r_1 - (1 : Int32))).toInt64) _ rfl) (va_cwS 3 hts gX8_isRow_X8_in rfl rfl rfl hd_X8_in ⟨Nat.le_of_ble_eq_true rfl, Nat.le_of_ble_eq_true rfl⟩) rfl hl.1 rfl (by decide) dX8_isRow_10) hP hS hA (fun H locs z_4 hP hS => ?_)
  have he := Option.some.inj hq
  subst he
  exact hE H locs _ _ _ rfl z_4 dX8_isRow_13 hP hD hS
noncomputable def fX8_left (all : Nat → Int32) (a0 : Int32) : Option (Int32) := bd (fX8_modulus all) (fun (r_1 : Int32) => gd (¬ r_1 = 0) (if 0 ≤ (rem32 a0 r_1) then (some (rem32 a0 r_1)) else (bd (fX8_modulus all) (fun (r_6 : Int32) => some ((rem32 a0 r_1) + r_6)))))
abbrev rm_X8_left : Room := { frames := 1, cells := 0, slots := 0, locals := 20 }
set_option maxHeartbeats 4000000 in
set_option maxRecDepth 100000 in
theorem cX8_left (l : Launch) (D : va_G) (cI cB cR : ClassId) (ad : Nat → Nat) (sz : Nat) (states : Int32) (whyKind : Int32) (whyOrder : Int32) (many : Int32) (wide : Int32) (textLong : Int32) (spot : Int32) (readColumns : Int32) (all : Nat → Int32) (past : Nat → Int32) (refused : Nat → Int32) (work : Nat → Int32) (kept : Nat → Int32) (chosen : Nat → Int32) (across : Nat → Int32) (sum : Nat → Int32) (one : Nat → Int32) (two : Nat → Int32) (base : Nat → Int32) (quotients : Nat → Int32) (text : Nat → Int32) (numbers : Nat → Int32) (entries : Nat → Int32) (before : Nat → Int32) (a0 : Int32) (res : Int32) (hf : fX8_left all a0 = some res) : Met l yX8_left wsX8_left rm_X8_left (qP D cI cB cR [.ref (ad 0), .int a0] (wM cI ad states whyKind whyOrder many wide textLong spot readColumns all past refused work kept chosen across sum one two base quotients text numbers entries before) sz) (qI D res (wM cI ad states whyKind whyOrder many wide textLong spot readColumns all past refused work kept chosen across sum one two base quotients text numbers entries before) (wM cI ad states whyKind whyOrder many wide textLong spot readColumns all past refused work kept chosen across sum one two base quotients text numbers entries before) sz) 0 0 (va_A (wM cI ad states whyKind whyOrder many wide textLong spot readColumns all past refused work kept chosen across sum one two base quotients text numbers entries before) sz) := by
  refine entI (by decide) rfl (by decide) ?_
  intro p e s m args below meth c Q A ls S hG hP hD hA hl hE
  obtain ⟨hx, hb, hml, hown, hts⟩ := S
  have hown : s.vm.findClass RX8 = some m.cls := hown
  have hS : va_S A s.heap s.heap [] := va_S.rf
  have hl : lv_has ls 3 [(0, .ref (ad 0)), (1, .int a0)] := hl
  have hq := hf
  unfold fX8_left at hq
  obtain ⟨H, hH⟩ : ∃ H, H = s.heap := ⟨_, rfl⟩
  obtain ⟨locs, hlo⟩ : ∃ L : List Loc, L = [] := ⟨_, rfl⟩
  have hP : va_P D cls9 (wM cI ad states whyKind whyOrder many wide textLong spot readColumns all past refused work kept chosen across sum one two base quotients text numbers entries before) H := hH ▸ hP
  have hS : va_S A s.heap H locs := by rw [hH, hlo]; exact hS
  suffices hg : W p l e rm_X8_left s m args below meth c H locs 0 0 Q (F0 m 0 ls []) by rw [hH, hlo] at hg; exact hg
  refine lv_iload_n hx hb dX8_left_0 rfl (lv_at hl 1 rfl) ?_
  refine lv_aload_n hx hb dX8_left_1 rfl (lv_at hl 0 rfl) ?_
  obtain ⟨v_3, hq_2, hk⟩ := bd1_s hq
  obtain ⟨r_1, rfl⟩ : ∃ y, y = v_3 := ⟨_, rfl⟩
  have hq := hk _ rfl
  refine callIA (gV (rest := [.int a0]) ⟨hx, hb, hml, hown, hts⟩ hG hP hD 0 8 rfl rfl (cX8_modulus l D cI cB cR ad H.size states whyKind whyOrder many wide textLong spot readColumns all past refused work kept chosen across sum one two base quotients text numbers entries before r_1 hq_2) (cwV 0 hts gX8_left_X8_modulus rfl rfl rfl ⟨rfl, hd_X8_modulus⟩ ⟨Nat.le_of_ble_eq_true rfl, Nat.le_of_ble_eq_true rfl⟩) rfl hl.1 rfl (by decide) dX8_left_2) hD hS hA (fun H locs hP hD hS => ?_)
  have hP : va_P D cls9 (wM cI ad states whyKind whyOrder many wide textLong spot readColumns all past refused work kept chosen across sum one two base quotients text numbers entries before) H := hP
  have hD : va_D A (wM cI ad states whyKind whyOrder many wide textLong spot readColumns all past refused work kept chosen across sum one two base quotients text numbers entries before) := hD
  obtain ⟨h_4, hq⟩ := gd_s hq
  refine lv_irem hx hb dX8_left_5 h_4 ?_
  refine lv_asi (y := (rem32 a0 r_1)) rfl ?_
  refine lv_istore_n (lv' := [(2, .int (rem32 a0 r_1)), (0, .ref (ad 0)), (1, .int a0)]) hx hb dX8_left_6 rfl hl (by decide) rfl (fun ls hl => ?_)
  refine lv_iload_n hx hb dX8_left_7 rfl (lv_at hl 0 rfl) ?_
  refine lv_if_ge (tgt := 20) hx hb dX8_left_8 (by decide) (fun c_5 => ?_) (fun c_5 => ?_)
  · have hq := it_t c_5 hq
    refine lv_iload_n hx hb dX8_left_20 rfl (lv_at hl 0 rfl) ?_
    have he := Option.some.inj hq
    subst he
    exact hE H locs _ _ _ rfl dX8_left_21 hP hD hS
  · have hq := it_f c_5 hq
    refine lv_iload_n hx hb dX8_left_11 rfl (lv_at hl 0 rfl) ?_
    refine lv_aload_n hx hb dX8_left_12 rfl (lv_at hl 1 rfl) ?_
    obtain ⟨v_8, hq_7, hk⟩ := bd1_s hq
    obtain ⟨r_6, rfl⟩ : ∃ y, y = v_8 := ⟨_, rfl⟩
    have hq := hk _ rfl
    refine callIA (gV (rest := [.int (rem32 a0 r_1)]) ⟨hx, hb, hml, hown, hts⟩ hG hP hD 0 8 rfl rfl (cX8_modulus l D cI cB cR ad H.size states whyKind whyOrder many wide textLong spot readColumns all past refused work kept chosen across sum one two base quotients text numbers entries before r_6 hq_7) (cwV 0 hts gX8_left_X8_modulus rfl rfl rfl ⟨rfl, hd_X8_modulus⟩ ⟨Nat.le_of_ble_eq_true rfl, Nat.le_of_ble_eq_true rfl⟩) rfl hl.1 rfl (by decide) dX8_left_13) hD hS hA (fun H locs hP hD hS => ?_)
    have hP : va_P D cls9 (wM cI ad states whyKind whyOrder many wide textLong spot readColumns all past refused work kept chosen across sum one two base quotients text numbers entries before) H := hP
    have hD : va_D A (wM cI ad states whyKind whyOrder many wide textLong spot readColumns all past refused work kept chosen across sum one two base quotients text numbers entries before) := hD
    refine lv_iadd hx hb dX8_left_16 ?_
    refine lv_goto (tgt := 21) hx hb dX8_left_17 (by decide) ?_
    have he := Option.some.inj hq
    subst he
    exact hE H locs _ _ _ rfl dX8_left_21 hP hD hS
