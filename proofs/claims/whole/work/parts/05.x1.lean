theorem hvJ13_bitCount_95d88 : yJ13_bitCount_95d88.cls ≠ "java/lang/invoke/MethodHandle" ∧ yJ13_bitCount_95d88.cls ≠ "java/lang/invoke/VarHandle" ∧ (parseMethodDescriptor yJ13_bitCount_95d88.desc).map (fun d => d.parameters.length) = some 1 := by decide +kernel
theorem hvJ6_bitCount_0f7a4 : yJ6_bitCount_0f7a4.cls ≠ "java/lang/invoke/MethodHandle" ∧ yJ6_bitCount_0f7a4.cls ≠ "java/lang/invoke/VarHandle" ∧ (parseMethodDescriptor yJ6_bitCount_0f7a4.desc).map (fun d => d.parameters.length) = some 1 := by decide +kernel
theorem hvJ7_fill_53178 : yJ7_fill_53178.cls ≠ "java/lang/invoke/MethodHandle" ∧ yJ7_fill_53178.cls ≠ "java/lang/invoke/VarHandle" ∧ (parseMethodDescriptor yJ7_fill_53178.desc).map (fun d => d.parameters.length) = some 2 := by decide +kernel
theorem hvJ7_fill_d0a16 : yJ7_fill_d0a16.cls ≠ "java/lang/invoke/MethodHandle" ∧ yJ7_fill_d0a16.cls ≠ "java/lang/invoke/VarHandle" ∧ (parseMethodDescriptor yJ7_fill_d0a16.desc).map (fun d => d.parameters.length) = some 2 := by decide +kernel
theorem hvL_law : yL_law.cls = RL ∧ yL_law.cls ≠ "java/lang/invoke/MethodHandle" ∧ yL_law.cls ≠ "java/lang/invoke/VarHandle" ∧ (parseMethodDescriptor yL_law.desc).map (fun d => d.parameters.length) = some 1 := by decide +kernel
theorem hvX0_add : yX0_add.cls = RX0 ∧ yX0_add.cls ≠ "java/lang/invoke/MethodHandle" ∧ yX0_add.cls ≠ "java/lang/invoke/VarHandle" ∧ (parseMethodDescriptor yX0_add.desc).map (fun d => d.parameters.length) = some 3 := by decide +kernel
theorem hvX0_has : yX0_has.cls = RX0 ∧ yX0_has.cls ≠ "java/lang/invoke/MethodHandle" ∧ yX0_has.cls ≠ "java/lang/invoke/VarHandle" ∧ (parseMethodDescriptor yX0_has.desc).map (fun d => d.parameters.length) = some 3 := by decide +kernel
theorem hvX0_isFull : yX0_isFull.cls = RX0 ∧ yX0_isFull.cls ≠ "java/lang/invoke/MethodHandle" ∧ yX0_isFull.cls ≠ "java/lang/invoke/VarHandle" ∧ (parseMethodDescriptor yX0_isFull.desc).map (fun d => d.parameters.length) = some 0 := by decide +kernel
theorem hvX0_takeBack : yX0_takeBack.cls = RX0 ∧ yX0_takeBack.cls ≠ "java/lang/invoke/MethodHandle" ∧ yX0_takeBack.cls ≠ "java/lang/invoke/VarHandle" ∧ (parseMethodDescriptor yX0_takeBack.desc).map (fun d => d.parameters.length) = some 1 := by decide +kernel
theorem hvX1_codeAt : yX1_codeAt.cls ≠ "java/lang/invoke/MethodHandle" ∧ yX1_codeAt.cls ≠ "java/lang/invoke/VarHandle" ∧ (parseMethodDescriptor yX1_codeAt.desc).map (fun d => d.parameters.length) = some 4 := by decide +kernel
theorem hvX1_digitOf : yX1_digitOf.cls ≠ "java/lang/invoke/MethodHandle" ∧ yX1_digitOf.cls ≠ "java/lang/invoke/VarHandle" ∧ (parseMethodDescriptor yX1_digitOf.desc).map (fun d => d.parameters.length) = some 3 := by decide +kernel
theorem hvX1_isSmith : yX1_isSmith.cls = RX1 ∧ yX1_isSmith.cls ≠ "java/lang/invoke/MethodHandle" ∧ yX1_isSmith.cls ≠ "java/lang/invoke/VarHandle" ∧ (parseMethodDescriptor yX1_isSmith.desc).map (fun d => d.parameters.length) = some 1 := by decide +kernel
theorem hvX1_kindOf : yX1_kindOf.cls ≠ "java/lang/invoke/MethodHandle" ∧ yX1_kindOf.cls ≠ "java/lang/invoke/VarHandle" ∧ (parseMethodDescriptor yX1_kindOf.desc).map (fun d => d.parameters.length) = some 1 := by decide +kernel
theorem hvX1_read : yX1_read.cls = RX1 ∧ yX1_read.cls ≠ "java/lang/invoke/MethodHandle" ∧ yX1_read.cls ≠ "java/lang/invoke/VarHandle" ∧ (parseMethodDescriptor yX1_read.desc).map (fun d => d.parameters.length) = some 3 := by decide +kernel
theorem hvX1_readPersons : yX1_readPersons.cls = RX1 ∧ yX1_readPersons.cls ≠ "java/lang/invoke/MethodHandle" ∧ yX1_readPersons.cls ≠ "java/lang/invoke/VarHandle" ∧ (parseMethodDescriptor yX1_readPersons.desc).map (fun d => d.parameters.length) = some 3 := by decide +kernel
theorem hvX1_readWays : yX1_readWays.cls = RX1 ∧ yX1_readWays.cls ≠ "java/lang/invoke/MethodHandle" ∧ yX1_readWays.cls ≠ "java/lang/invoke/VarHandle" ∧ (parseMethodDescriptor yX1_readWays.desc).map (fun d => d.parameters.length) = some 3 := by decide +kernel
theorem hvX2_empty : yX2_empty.cls = RX2 ∧ yX2_empty.cls ≠ "java/lang/invoke/MethodHandle" ∧ yX2_empty.cls ≠ "java/lang/invoke/VarHandle" ∧ (parseMethodDescriptor yX2_empty.desc).map (fun d => d.parameters.length) = some 0 := by decide +kernel
theorem hvX2_faultOfCells : yX2_faultOfCells.cls = RX2 ∧ yX2_faultOfCells.cls ≠ "java/lang/invoke/MethodHandle" ∧ yX2_faultOfCells.cls ≠ "java/lang/invoke/VarHandle" ∧ (parseMethodDescriptor yX2_faultOfCells.desc).map (fun d => d.parameters.length) = some 3 := by decide +kernel
theorem hvX2_faultOfRow : yX2_faultOfRow.cls = RX2 ∧ yX2_faultOfRow.cls ≠ "java/lang/invoke/MethodHandle" ∧ yX2_faultOfRow.cls ≠ "java/lang/invoke/VarHandle" ∧ (parseMethodDescriptor yX2_faultOfRow.desc).map (fun d => d.parameters.length) = some 1 := by decide +kernel
theorem hvX2_hasCells : yX2_hasCells.cls = RX2 ∧ yX2_hasCells.cls ≠ "java/lang/invoke/MethodHandle" ∧ yX2_hasCells.cls ≠ "java/lang/invoke/VarHandle" ∧ (parseMethodDescriptor yX2_hasCells.desc).map (fun d => d.parameters.length) = some 2 := by decide +kernel
theorem hvX2_hasNothing : yX2_hasNothing.cls = RX2 ∧ yX2_hasNothing.cls ≠ "java/lang/invoke/MethodHandle" ∧ yX2_hasNothing.cls ≠ "java/lang/invoke/VarHandle" ∧ (parseMethodDescriptor yX2_hasNothing.desc).map (fun d => d.parameters.length) = some 0 := by decide +kernel
theorem hvX2_renew : yX2_renew.cls = RX2 ∧ yX2_renew.cls ≠ "java/lang/invoke/MethodHandle" ∧ yX2_renew.cls ≠ "java/lang/invoke/VarHandle" ∧ (parseMethodDescriptor yX2_renew.desc).map (fun d => d.parameters.length) = some 2 := by decide +kernel
theorem hvX2_write : yX2_write.cls = RX2 ∧ yX2_write.cls ≠ "java/lang/invoke/MethodHandle" ∧ yX2_write.cls ≠ "java/lang/invoke/VarHandle" ∧ (parseMethodDescriptor yX2_write.desc).map (fun d => d.parameters.length) = some 2 := by decide +kernel
theorem hvX3_asOnesOwn : yX3_asOnesOwn.cls ≠ "java/lang/invoke/MethodHandle" ∧ yX3_asOnesOwn.cls ≠ "java/lang/invoke/VarHandle" ∧ (parseMethodDescriptor yX3_asOnesOwn.desc).map (fun d => d.parameters.length) = some 2 := by decide +kernel
theorem hvX3_broughtBy : yX3_broughtBy.cls = RX3 ∧ yX3_broughtBy.cls ≠ "java/lang/invoke/MethodHandle" ∧ yX3_broughtBy.cls ≠ "java/lang/invoke/VarHandle" ∧ (parseMethodDescriptor yX3_broughtBy.desc).map (fun d => d.parameters.length) = some 4 := by decide +kernel
theorem hvX3_changed : yX3_changed.cls ≠ "java/lang/invoke/MethodHandle" ∧ yX3_changed.cls ≠ "java/lang/invoke/VarHandle" ∧ (parseMethodDescriptor yX3_changed.desc).map (fun d => d.parameters.length) = some 3 := by decide +kernel
theorem hvX3_clear : yX3_clear.cls = RX3 ∧ yX3_clear.cls ≠ "java/lang/invoke/MethodHandle" ∧ yX3_clear.cls ≠ "java/lang/invoke/VarHandle" ∧ (parseMethodDescriptor yX3_clear.desc).map (fun d => d.parameters.length) = some 0 := by decide +kernel
theorem hvX3_firstDay : yX3_firstDay.cls = RX3 ∧ yX3_firstDay.cls ≠ "java/lang/invoke/MethodHandle" ∧ yX3_firstDay.cls ≠ "java/lang/invoke/VarHandle" ∧ (parseMethodDescriptor yX3_firstDay.desc).map (fun d => d.parameters.length) = some 3 := by decide +kernel
theorem hvX3_heardFirstOn : yX3_heardFirstOn.cls = RX3 ∧ yX3_heardFirstOn.cls ≠ "java/lang/invoke/MethodHandle" ∧ yX3_heardFirstOn.cls ≠ "java/lang/invoke/VarHandle" ∧ (parseMethodDescriptor yX3_heardFirstOn.desc).map (fun d => d.parameters.length) = some 2 := by decide +kernel
theorem hvX3_keepWhatWasHeard : yX3_keepWhatWasHeard.cls = RX3 ∧ yX3_keepWhatWasHeard.cls ≠ "java/lang/invoke/MethodHandle" ∧ yX3_keepWhatWasHeard.cls ≠ "java/lang/invoke/VarHandle" ∧ (parseMethodDescriptor yX3_keepWhatWasHeard.desc).map (fun d => d.parameters.length) = some 1 := by decide +kernel
theorem hvX3_originsBy : yX3_originsBy.cls = RX3 ∧ yX3_originsBy.cls ≠ "java/lang/invoke/MethodHandle" ∧ yX3_originsBy.cls ≠ "java/lang/invoke/VarHandle" ∧ (parseMethodDescriptor yX3_originsBy.desc).map (fun d => d.parameters.length) = some 3 := by decide +kernel
theorem hvX3_plant : yX3_plant.cls = RX3 ∧ yX3_plant.cls ≠ "java/lang/invoke/MethodHandle" ∧ yX3_plant.cls ≠ "java/lang/invoke/VarHandle" ∧ (parseMethodDescriptor yX3_plant.desc).map (fun d => d.parameters.length) = some 4 := by decide +kernel
theorem hvX3_rumour : yX3_rumour.cls ≠ "java/lang/invoke/MethodHandle" ∧ yX3_rumour.cls ≠ "java/lang/invoke/VarHandle" ∧ (parseMethodDescriptor yX3_rumour.desc).map (fun d => d.parameters.length) = some 2 := by decide +kernel
theorem hvX3_spread : yX3_spread.cls = RX3 ∧ yX3_spread.cls ≠ "java/lang/invoke/MethodHandle" ∧ yX3_spread.cls ≠ "java/lang/invoke/VarHandle" ∧ (parseMethodDescriptor yX3_spread.desc).map (fun d => d.parameters.length) = some 3 := by decide +kernel
theorem hvX4_areForgeDaysKept : yX4_areForgeDaysKept.cls = RX4 ∧ yX4_areForgeDaysKept.cls ≠ "java/lang/invoke/MethodHandle" ∧ yX4_areForgeDaysKept.cls ≠ "java/lang/invoke/VarHandle" ∧ (parseMethodDescriptor yX4_areForgeDaysKept.desc).map (fun d => d.parameters.length) = some 0 := by decide +kernel
theorem hvX4_areReadingsSo : yX4_areReadingsSo.cls = RX4 ∧ yX4_areReadingsSo.cls ≠ "java/lang/invoke/MethodHandle" ∧ yX4_areReadingsSo.cls ≠ "java/lang/invoke/VarHandle" ∧ (parseMethodDescriptor yX4_areReadingsSo.desc).map (fun d => d.parameters.length) = some 0 := by decide +kernel
theorem hvX4_as : yX4_as.cls = RX4 ∧ yX4_as.cls ≠ "java/lang/invoke/MethodHandle" ∧ yX4_as.cls ≠ "java/lang/invoke/VarHandle" ∧ (parseMethodDescriptor yX4_as.desc).map (fun d => d.parameters.length) = some 2 := by decide +kernel
theorem hvX4_back : yX4_back.cls = RX4 ∧ yX4_back.cls ≠ "java/lang/invoke/MethodHandle" ∧ yX4_back.cls ≠ "java/lang/invoke/VarHandle" ∧ (parseMethodDescriptor yX4_back.desc).map (fun d => d.parameters.length) = some 1 := by decide +kernel
theorem hvX4_cell : yX4_cell.cls = RX4 ∧ yX4_cell.cls ≠ "java/lang/invoke/MethodHandle" ∧ yX4_cell.cls ≠ "java/lang/invoke/VarHandle" ∧ (parseMethodDescriptor yX4_cell.desc).map (fun d => d.parameters.length) = some 3 := by decide +kernel
theorem hvX4_copy : yX4_copy.cls = RX4 ∧ yX4_copy.cls ≠ "java/lang/invoke/MethodHandle" ∧ yX4_copy.cls ≠ "java/lang/invoke/VarHandle" ∧ (parseMethodDescriptor yX4_copy.desc).map (fun d => d.parameters.length) = some 5 := by decide +kernel
theorem hvX4_count : yX4_count.cls = RX4 ∧ yX4_count.cls ≠ "java/lang/invoke/MethodHandle" ∧ yX4_count.cls ≠ "java/lang/invoke/VarHandle" ∧ (parseMethodDescriptor yX4_count.desc).map (fun d => d.parameters.length) = some 3 := by decide +kernel
theorem hvX4_fault : yX4_fault.cls = RX4 ∧ yX4_fault.cls ≠ "java/lang/invoke/MethodHandle" ∧ yX4_fault.cls ≠ "java/lang/invoke/VarHandle" ∧ (parseMethodDescriptor yX4_fault.desc).map (fun d => d.parameters.length) = some 0 := by decide +kernel
theorem hvX4_fewest : yX4_fewest.cls = RX4 ∧ yX4_fewest.cls ≠ "java/lang/invoke/MethodHandle" ∧ yX4_fewest.cls ≠ "java/lang/invoke/VarHandle" ∧ (parseMethodDescriptor yX4_fewest.desc).map (fun d => d.parameters.length) = some 3 := by decide +kernel
theorem hvX4_fog : yX4_fog.cls = RX4 ∧ yX4_fog.cls ≠ "java/lang/invoke/MethodHandle" ∧ yX4_fog.cls ≠ "java/lang/invoke/VarHandle" ∧ (parseMethodDescriptor yX4_fog.desc).map (fun d => d.parameters.length) = some 2 := by decide +kernel
theorem hvX4_forgeDay : yX4_forgeDay.cls = RX4 ∧ yX4_forgeDay.cls ≠ "java/lang/invoke/MethodHandle" ∧ yX4_forgeDay.cls ≠ "java/lang/invoke/VarHandle" ∧ (parseMethodDescriptor yX4_forgeDay.desc).map (fun d => d.parameters.length) = some 2 := by decide +kernel
theorem hvX4_forges : yX4_forges.cls = RX4 ∧ yX4_forges.cls ≠ "java/lang/invoke/MethodHandle" ∧ yX4_forges.cls ≠ "java/lang/invoke/VarHandle" ∧ (parseMethodDescriptor yX4_forges.desc).map (fun d => d.parameters.length) = some 2 := by decide +kernel
theorem hvX4_greet : yX4_greet.cls = RX4 ∧ yX4_greet.cls ≠ "java/lang/invoke/MethodHandle" ∧ yX4_greet.cls ≠ "java/lang/invoke/VarHandle" ∧ (parseMethodDescriptor yX4_greet.desc).map (fun d => d.parameters.length) = some 1 := by decide +kernel
theorem hvX4_hasForged : yX4_hasForged.cls = RX4 ∧ yX4_hasForged.cls ≠ "java/lang/invoke/MethodHandle" ∧ yX4_hasForged.cls ≠ "java/lang/invoke/VarHandle" ∧ (parseMethodDescriptor yX4_hasForged.desc).map (fun d => d.parameters.length) = some 3 := by decide +kernel
theorem hvX4_hasNoPass : yX4_hasNoPass.cls = RX4 ∧ yX4_hasNoPass.cls ≠ "java/lang/invoke/MethodHandle" ∧ yX4_hasNoPass.cls ≠ "java/lang/invoke/VarHandle" ∧ (parseMethodDescriptor yX4_hasNoPass.desc).map (fun d => d.parameters.length) = some 0 := by decide +kernel
theorem hvX4_hears : yX4_hears.cls = RX4 ∧ yX4_hears.cls ≠ "java/lang/invoke/MethodHandle" ∧ yX4_hears.cls ≠ "java/lang/invoke/VarHandle" ∧ (parseMethodDescriptor yX4_hears.desc).map (fun d => d.parameters.length) = some 3 := by decide +kernel
theorem hvX4_holds : yX4_holds.cls ≠ "java/lang/invoke/MethodHandle" ∧ yX4_holds.cls ≠ "java/lang/invoke/VarHandle" ∧ (parseMethodDescriptor yX4_holds.desc).map (fun d => d.parameters.length) = some 2 := by decide +kernel
theorem hvX4_hush : yX4_hush.cls = RX4 ∧ yX4_hush.cls ≠ "java/lang/invoke/MethodHandle" ∧ yX4_hush.cls ≠ "java/lang/invoke/VarHandle" ∧ (parseMethodDescriptor yX4_hush.desc).map (fun d => d.parameters.length) = some 2 := by decide +kernel
theorem hvX4_hushed : yX4_hushed.cls = RX4 ∧ yX4_hushed.cls ≠ "java/lang/invoke/MethodHandle" ∧ yX4_hushed.cls ≠ "java/lang/invoke/VarHandle" ∧ (parseMethodDescriptor yX4_hushed.desc).map (fun d => d.parameters.length) = some 3 := by decide +kernel
theorem hvX4_isBelow : yX4_isBelow.cls ≠ "java/lang/invoke/MethodHandle" ∧ yX4_isBelow.cls ≠ "java/lang/invoke/VarHandle" ∧ (parseMethodDescriptor yX4_isBelow.desc).map (fun d => d.parameters.length) = some 2 := by decide +kernel
theorem hvX4_isDay : yX4_isDay.cls ≠ "java/lang/invoke/MethodHandle" ∧ yX4_isDay.cls ≠ "java/lang/invoke/VarHandle" ∧ (parseMethodDescriptor yX4_isDay.desc).map (fun d => d.parameters.length) = some 1 := by decide +kernel
theorem hvX4_isFoggy : yX4_isFoggy.cls = RX4 ∧ yX4_isFoggy.cls ≠ "java/lang/invoke/MethodHandle" ∧ yX4_isFoggy.cls ≠ "java/lang/invoke/VarHandle" ∧ (parseMethodDescriptor yX4_isFoggy.desc).map (fun d => d.parameters.length) = some 1 := by decide +kernel
theorem hvX4_isPerson : yX4_isPerson.cls = RX4 ∧ yX4_isPerson.cls ≠ "java/lang/invoke/MethodHandle" ∧ yX4_isPerson.cls ≠ "java/lang/invoke/VarHandle" ∧ (parseMethodDescriptor yX4_isPerson.desc).map (fun d => d.parameters.length) = some 1 := by decide +kernel
theorem hvX4_isReached : yX4_isReached.cls = RX4 ∧ yX4_isReached.cls ≠ "java/lang/invoke/MethodHandle" ∧ yX4_isReached.cls ≠ "java/lang/invoke/VarHandle" ∧ (parseMethodDescriptor yX4_isReached.desc).map (fun d => d.parameters.length) = some 5 := by decide +kernel
theorem hvX4_isSheet : yX4_isSheet.cls ≠ "java/lang/invoke/MethodHandle" ∧ yX4_isSheet.cls ≠ "java/lang/invoke/VarHandle" ∧ (parseMethodDescriptor yX4_isSheet.desc).map (fun d => d.parameters.length) = some 1 := by decide +kernel
theorem hvX4_isThing : yX4_isThing.cls ≠ "java/lang/invoke/MethodHandle" ∧ yX4_isThing.cls ≠ "java/lang/invoke/VarHandle" ∧ (parseMethodDescriptor yX4_isThing.desc).map (fun d => d.parameters.length) = some 1 := by decide +kernel
theorem hvX4_isThingAndDay : yX4_isThingAndDay.cls ≠ "java/lang/invoke/MethodHandle" ∧ yX4_isThingAndDay.cls ≠ "java/lang/invoke/VarHandle" ∧ (parseMethodDescriptor yX4_isThingAndDay.desc).map (fun d => d.parameters.length) = some 2 := by decide +kernel
theorem hvX4_jokersBody : yX4_jokersBody.cls = RX4 ∧ yX4_jokersBody.cls ≠ "java/lang/invoke/MethodHandle" ∧ yX4_jokersBody.cls ≠ "java/lang/invoke/VarHandle" ∧ (parseMethodDescriptor yX4_jokersBody.desc).map (fun d => d.parameters.length) = some 1 := by decide +kernel
theorem hvX4_keepForgeDays : yX4_keepForgeDays.cls = RX4 ∧ yX4_keepForgeDays.cls ≠ "java/lang/invoke/MethodHandle" ∧ yX4_keepForgeDays.cls ≠ "java/lang/invoke/VarHandle" ∧ (parseMethodDescriptor yX4_keepForgeDays.desc).map (fun d => d.parameters.length) = some 0 := by decide +kernel
theorem hvX4_law : yX4_law.cls = RX4 ∧ yX4_law.cls ≠ "java/lang/invoke/MethodHandle" ∧ yX4_law.cls ≠ "java/lang/invoke/VarHandle" ∧ (parseMethodDescriptor yX4_law.desc).map (fun d => d.parameters.length) = some 1 := by decide +kernel
theorem hvX4_leastSet : yX4_leastSet.cls = RX4 ∧ yX4_leastSet.cls ≠ "java/lang/invoke/MethodHandle" ∧ yX4_leastSet.cls ≠ "java/lang/invoke/VarHandle" ∧ (parseMethodDescriptor yX4_leastSet.desc).map (fun d => d.parameters.length) = some 4 := by decide +kernel
theorem hvX4_leave : yX4_leave.cls = RX4 ∧ yX4_leave.cls ≠ "java/lang/invoke/MethodHandle" ∧ yX4_leave.cls ≠ "java/lang/invoke/VarHandle" ∧ (parseMethodDescriptor yX4_leave.desc).map (fun d => d.parameters.length) = some 1 := by decide +kernel
theorem hvX4_lentGreeting : yX4_lentGreeting.cls = RX4 ∧ yX4_lentGreeting.cls ≠ "java/lang/invoke/MethodHandle" ∧ yX4_lentGreeting.cls ≠ "java/lang/invoke/VarHandle" ∧ (parseMethodDescriptor yX4_lentGreeting.desc).map (fun d => d.parameters.length) = some 1 := by decide +kernel
theorem hvX4_liarsBody : yX4_liarsBody.cls = RX4 ∧ yX4_liarsBody.cls ≠ "java/lang/invoke/MethodHandle" ∧ yX4_liarsBody.cls ≠ "java/lang/invoke/VarHandle" ∧ (parseMethodDescriptor yX4_liarsBody.desc).map (fun d => d.parameters.length) = some 1 := by decide +kernel
theorem hvX4_liarsGreeting : yX4_liarsGreeting.cls = RX4 ∧ yX4_liarsGreeting.cls ≠ "java/lang/invoke/MethodHandle" ∧ yX4_liarsGreeting.cls ≠ "java/lang/invoke/VarHandle" ∧ (parseMethodDescriptor yX4_liarsGreeting.desc).map (fun d => d.parameters.length) = some 0 := by decide +kernel
theorem hvX4_lose : yX4_lose.cls = RX4 ∧ yX4_lose.cls ≠ "java/lang/invoke/MethodHandle" ∧ yX4_lose.cls ≠ "java/lang/invoke/VarHandle" ∧ (parseMethodDescriptor yX4_lose.desc).map (fun d => d.parameters.length) = some 1 := by decide +kernel
theorem hvX4_many : yX4_many.cls = RX4 ∧ yX4_many.cls ≠ "java/lang/invoke/MethodHandle" ∧ yX4_many.cls ≠ "java/lang/invoke/VarHandle" ∧ (parseMethodDescriptor yX4_many.desc).map (fun d => d.parameters.length) = some 1 := by decide +kernel
theorem hvX4_meet : yX4_meet.cls = RX4 ∧ yX4_meet.cls ≠ "java/lang/invoke/MethodHandle" ∧ yX4_meet.cls ≠ "java/lang/invoke/VarHandle" ∧ (parseMethodDescriptor yX4_meet.desc).map (fun d => d.parameters.length) = some 1 := by decide +kernel
theorem hvX4_mute : yX4_mute.cls = RX4 ∧ yX4_mute.cls ≠ "java/lang/invoke/MethodHandle" ∧ yX4_mute.cls ≠ "java/lang/invoke/VarHandle" ∧ (parseMethodDescriptor yX4_mute.desc).map (fun d => d.parameters.length) = some 0 := by decide +kernel
theorem hvX4_ofPerson : yX4_ofPerson.cls = RX4 ∧ yX4_ofPerson.cls ≠ "java/lang/invoke/MethodHandle" ∧ yX4_ofPerson.cls ≠ "java/lang/invoke/VarHandle" ∧ (parseMethodDescriptor yX4_ofPerson.desc).map (fun d => d.parameters.length) = some 2 := by decide +kernel
theorem hvX4_ofWay : yX4_ofWay.cls = RX4 ∧ yX4_ofWay.cls ≠ "java/lang/invoke/MethodHandle" ∧ yX4_ofWay.cls ≠ "java/lang/invoke/VarHandle" ∧ (parseMethodDescriptor yX4_ofWay.desc).map (fun d => d.parameters.length) = some 2 := by decide +kernel
theorem hvX4_pass : yX4_pass.cls = RX4 ∧ yX4_pass.cls ≠ "java/lang/invoke/MethodHandle" ∧ yX4_pass.cls ≠ "java/lang/invoke/VarHandle" ∧ (parseMethodDescriptor yX4_pass.desc).map (fun d => d.parameters.length) = some 4 := by decide +kernel
theorem hvX4_path : yX4_path.cls = RX4 ∧ yX4_path.cls ≠ "java/lang/invoke/MethodHandle" ∧ yX4_path.cls ≠ "java/lang/invoke/VarHandle" ∧ (parseMethodDescriptor yX4_path.desc).map (fun d => d.parameters.length) = some 3 := by decide +kernel
theorem hvX4_put : yX4_put.cls = RX4 ∧ yX4_put.cls ≠ "java/lang/invoke/MethodHandle" ∧ yX4_put.cls ≠ "java/lang/invoke/VarHandle" ∧ (parseMethodDescriptor yX4_put.desc).map (fun d => d.parameters.length) = some 3 := by decide +kernel
theorem hvX4_reading : yX4_reading.cls = RX4 ∧ yX4_reading.cls ≠ "java/lang/invoke/MethodHandle" ∧ yX4_reading.cls ≠ "java/lang/invoke/VarHandle" ∧ (parseMethodDescriptor yX4_reading.desc).map (fun d => d.parameters.length) = some 4 := by decide +kernel
theorem hvX4_refusalOfSmith : yX4_refusalOfSmith.cls = RX4 ∧ yX4_refusalOfSmith.cls ≠ "java/lang/invoke/MethodHandle" ∧ yX4_refusalOfSmith.cls ≠ "java/lang/invoke/VarHandle" ∧ (parseMethodDescriptor yX4_refusalOfSmith.desc).map (fun d => d.parameters.length) = some 3 := by decide +kernel
theorem hvX4_rows : yX4_rows.cls = RX4 ∧ yX4_rows.cls ≠ "java/lang/invoke/MethodHandle" ∧ yX4_rows.cls ≠ "java/lang/invoke/VarHandle" ∧ (parseMethodDescriptor yX4_rows.desc).map (fun d => d.parameters.length) = some 5 := by decide +kernel
theorem hvX4_sheet : yX4_sheet.cls = RX4 ∧ yX4_sheet.cls ≠ "java/lang/invoke/MethodHandle" ∧ yX4_sheet.cls ≠ "java/lang/invoke/VarHandle" ∧ (parseMethodDescriptor yX4_sheet.desc).map (fun d => d.parameters.length) = some 3 := by decide +kernel
theorem hvX4_spare : yX4_spare.cls = RX4 ∧ yX4_spare.cls ≠ "java/lang/invoke/MethodHandle" ∧ yX4_spare.cls ≠ "java/lang/invoke/VarHandle" ∧ (parseMethodDescriptor yX4_spare.desc).map (fun d => d.parameters.length) = some 0 := by decide +kernel
theorem hvX4_startTalk : yX4_startTalk.cls = RX4 ∧ yX4_startTalk.cls ≠ "java/lang/invoke/MethodHandle" ∧ yX4_startTalk.cls ≠ "java/lang/invoke/VarHandle" ∧ (parseMethodDescriptor yX4_startTalk.desc).map (fun d => d.parameters.length) = some 1 := by decide +kernel
theorem hvX4_startTelling : yX4_startTelling.cls = RX4 ∧ yX4_startTelling.cls ≠ "java/lang/invoke/MethodHandle" ∧ yX4_startTelling.cls ≠ "java/lang/invoke/VarHandle" ∧ (parseMethodDescriptor yX4_startTelling.desc).map (fun d => d.parameters.length) = some 2 := by decide +kernel
theorem hvX4_takeDraft : yX4_takeDraft.cls = RX4 ∧ yX4_takeDraft.cls ≠ "java/lang/invoke/MethodHandle" ∧ yX4_takeDraft.cls ≠ "java/lang/invoke/VarHandle" ∧ (parseMethodDescriptor yX4_takeDraft.desc).map (fun d => d.parameters.length) = some 0 := by decide +kernel
theorem hvX4_talkAsItIs : yX4_talkAsItIs.cls = RX4 ∧ yX4_talkAsItIs.cls ≠ "java/lang/invoke/MethodHandle" ∧ yX4_talkAsItIs.cls ≠ "java/lang/invoke/VarHandle" ∧ (parseMethodDescriptor yX4_talkAsItIs.desc).map (fun d => d.parameters.length) = some 0 := by decide +kernel
theorem hvX4_tell : yX4_tell.cls = RX4 ∧ yX4_tell.cls ≠ "java/lang/invoke/MethodHandle" ∧ yX4_tell.cls ≠ "java/lang/invoke/VarHandle" ∧ (parseMethodDescriptor yX4_tell.desc).map (fun d => d.parameters.length) = some 1 := by decide +kernel
theorem hvX4_tellersBody : yX4_tellersBody.cls = RX4 ∧ yX4_tellersBody.cls ≠ "java/lang/invoke/MethodHandle" ∧ yX4_tellersBody.cls ≠ "java/lang/invoke/VarHandle" ∧ (parseMethodDescriptor yX4_tellersBody.desc).map (fun d => d.parameters.length) = some 1 := by decide +kernel
theorem hvX4_telling : yX4_telling.cls = RX4 ∧ yX4_telling.cls ≠ "java/lang/invoke/MethodHandle" ∧ yX4_telling.cls ≠ "java/lang/invoke/VarHandle" ∧ (parseMethodDescriptor yX4_telling.desc).map (fun d => d.parameters.length) = some 3 := by decide +kernel
theorem hvX4_told : yX4_told.cls = RX4 ∧ yX4_told.cls ≠ "java/lang/invoke/MethodHandle" ∧ yX4_told.cls ≠ "java/lang/invoke/VarHandle" ∧ (parseMethodDescriptor yX4_told.desc).map (fun d => d.parameters.length) = some 2 := by decide +kernel
theorem hvX4_trace : yX4_trace.cls = RX4 ∧ yX4_trace.cls ≠ "java/lang/invoke/MethodHandle" ∧ yX4_trace.cls ≠ "java/lang/invoke/VarHandle" ∧ (parseMethodDescriptor yX4_trace.desc).map (fun d => d.parameters.length) = some 0 := by decide +kernel
theorem hvX4_undo : yX4_undo.cls = RX4 ∧ yX4_undo.cls ≠ "java/lang/invoke/MethodHandle" ∧ yX4_undo.cls ≠ "java/lang/invoke/VarHandle" ∧ (parseMethodDescriptor yX4_undo.desc).map (fun d => d.parameters.length) = some 1 := by decide +kernel
theorem hvX4_wayOf : yX4_wayOf.cls = RX4 ∧ yX4_wayOf.cls ≠ "java/lang/invoke/MethodHandle" ∧ yX4_wayOf.cls ≠ "java/lang/invoke/VarHandle" ∧ (parseMethodDescriptor yX4_wayOf.desc).map (fun d => d.parameters.length) = some 3 := by decide +kernel
theorem hvX4_works : yX4_works.cls = RX4 ∧ yX4_works.cls ≠ "java/lang/invoke/MethodHandle" ∧ yX4_works.cls ≠ "java/lang/invoke/VarHandle" ∧ (parseMethodDescriptor yX4_works.desc).map (fun d => d.parameters.length) = some 1 := by decide +kernel
theorem hvX4_worksBy : yX4_worksBy.cls = RX4 ∧ yX4_worksBy.cls ≠ "java/lang/invoke/MethodHandle" ∧ yX4_worksBy.cls ≠ "java/lang/invoke/VarHandle" ∧ (parseMethodDescriptor yX4_worksBy.desc).map (fun d => d.parameters.length) = some 1 := by decide +kernel
theorem hvX4_worksOfRow : yX4_worksOfRow.cls = RX4 ∧ yX4_worksOfRow.cls ≠ "java/lang/invoke/MethodHandle" ∧ yX4_worksOfRow.cls ≠ "java/lang/invoke/VarHandle" ∧ (parseMethodDescriptor yX4_worksOfRow.desc).map (fun d => d.parameters.length) = some 4 := by decide +kernel
theorem hvX4_worth : yX4_worth.cls = RX4 ∧ yX4_worth.cls ≠ "java/lang/invoke/MethodHandle" ∧ yX4_worth.cls ≠ "java/lang/invoke/VarHandle" ∧ (parseMethodDescriptor yX4_worth.desc).map (fun d => d.parameters.length) = some 1 := by decide +kernel
theorem hvX5_all : yX5_all.cls = RX5 ∧ yX5_all.cls ≠ "java/lang/invoke/MethodHandle" ∧ yX5_all.cls ≠ "java/lang/invoke/VarHandle" ∧ (parseMethodDescriptor yX5_all.desc).map (fun d => d.parameters.length) = some 0 := by decide +kernel
theorem hvX5_areSo : yX5_areSo.cls = RX5 ∧ yX5_areSo.cls ≠ "java/lang/invoke/MethodHandle" ∧ yX5_areSo.cls ≠ "java/lang/invoke/VarHandle" ∧ (parseMethodDescriptor yX5_areSo.desc).map (fun d => d.parameters.length) = some 0 := by decide +kernel
theorem hvX5_as : yX5_as.cls = RX5 ∧ yX5_as.cls ≠ "java/lang/invoke/MethodHandle" ∧ yX5_as.cls ≠ "java/lang/invoke/VarHandle" ∧ (parseMethodDescriptor yX5_as.desc).map (fun d => d.parameters.length) = some 2 := by decide +kernel
theorem hvX5_back : yX5_back.cls = RX5 ∧ yX5_back.cls ≠ "java/lang/invoke/MethodHandle" ∧ yX5_back.cls ≠ "java/lang/invoke/VarHandle" ∧ (parseMethodDescriptor yX5_back.desc).map (fun d => d.parameters.length) = some 1 := by decide +kernel
theorem hvX5_begin : yX5_begin.cls = RX5 ∧ yX5_begin.cls ≠ "java/lang/invoke/MethodHandle" ∧ yX5_begin.cls ≠ "java/lang/invoke/VarHandle" ∧ (parseMethodDescriptor yX5_begin.desc).map (fun d => d.parameters.length) = some 0 := by decide +kernel
theorem hvX5_bits : yX5_bits.cls ≠ "java/lang/invoke/MethodHandle" ∧ yX5_bits.cls ≠ "java/lang/invoke/VarHandle" ∧ (parseMethodDescriptor yX5_bits.desc).map (fun d => d.parameters.length) = some 1 := by decide +kernel
theorem hvX5_cell : yX5_cell.cls = RX5 ∧ yX5_cell.cls ≠ "java/lang/invoke/MethodHandle" ∧ yX5_cell.cls ≠ "java/lang/invoke/VarHandle" ∧ (parseMethodDescriptor yX5_cell.desc).map (fun d => d.parameters.length) = some 3 := by decide +kernel
theorem hvX5_cellsBarred : yX5_cellsBarred.cls = RX5 ∧ yX5_cellsBarred.cls ≠ "java/lang/invoke/MethodHandle" ∧ yX5_cellsBarred.cls ≠ "java/lang/invoke/VarHandle" ∧ (parseMethodDescriptor yX5_cellsBarred.desc).map (fun d => d.parameters.length) = some 4 := by decide +kernel
theorem hvX5_codeAt : yX5_codeAt.cls = RX5 ∧ yX5_codeAt.cls ≠ "java/lang/invoke/MethodHandle" ∧ yX5_codeAt.cls ≠ "java/lang/invoke/VarHandle" ∧ (parseMethodDescriptor yX5_codeAt.desc).map (fun d => d.parameters.length) = some 2 := by decide +kernel
theorem hvX5_comesBy : yX5_comesBy.cls = RX5 ∧ yX5_comesBy.cls ≠ "java/lang/invoke/MethodHandle" ∧ yX5_comesBy.cls ≠ "java/lang/invoke/VarHandle" ∧ (parseMethodDescriptor yX5_comesBy.desc).map (fun d => d.parameters.length) = some 4 := by decide +kernel
theorem hvX5_copy : yX5_copy.cls = RX5 ∧ yX5_copy.cls ≠ "java/lang/invoke/MethodHandle" ∧ yX5_copy.cls ≠ "java/lang/invoke/VarHandle" ∧ (parseMethodDescriptor yX5_copy.desc).map (fun d => d.parameters.length) = some 5 := by decide +kernel
theorem hvX5_count : yX5_count.cls = RX5 ∧ yX5_count.cls ≠ "java/lang/invoke/MethodHandle" ∧ yX5_count.cls ≠ "java/lang/invoke/VarHandle" ∧ (parseMethodDescriptor yX5_count.desc).map (fun d => d.parameters.length) = some 3 := by decide +kernel
theorem hvX5_countOf : yX5_countOf.cls = RX5 ∧ yX5_countOf.cls ≠ "java/lang/invoke/MethodHandle" ∧ yX5_countOf.cls ≠ "java/lang/invoke/VarHandle" ∧ (parseMethodDescriptor yX5_countOf.desc).map (fun d => d.parameters.length) = some 3 := by decide +kernel
theorem hvX5_failed : yX5_failed.cls = RX5 ∧ yX5_failed.cls ≠ "java/lang/invoke/MethodHandle" ∧ yX5_failed.cls ≠ "java/lang/invoke/VarHandle" ∧ (parseMethodDescriptor yX5_failed.desc).map (fun d => d.parameters.length) = some 1 := by decide +kernel
theorem hvX5_failedLong : yX5_failedLong.cls = RX5 ∧ yX5_failedLong.cls ≠ "java/lang/invoke/MethodHandle" ∧ yX5_failedLong.cls ≠ "java/lang/invoke/VarHandle" ∧ (parseMethodDescriptor yX5_failedLong.desc).map (fun d => d.parameters.length) = some 1 := by decide +kernel
theorem hvX5_fault : yX5_fault.cls = RX5 ∧ yX5_fault.cls ≠ "java/lang/invoke/MethodHandle" ∧ yX5_fault.cls ≠ "java/lang/invoke/VarHandle" ∧ (parseMethodDescriptor yX5_fault.desc).map (fun d => d.parameters.length) = some 0 := by decide +kernel
theorem hvX5_fewest : yX5_fewest.cls = RX5 ∧ yX5_fewest.cls ≠ "java/lang/invoke/MethodHandle" ∧ yX5_fewest.cls ≠ "java/lang/invoke/VarHandle" ∧ (parseMethodDescriptor yX5_fewest.desc).map (fun d => d.parameters.length) = some 3 := by decide +kernel
theorem hvX5_figure : yX5_figure.cls = RX5 ∧ yX5_figure.cls ≠ "java/lang/invoke/MethodHandle" ∧ yX5_figure.cls ≠ "java/lang/invoke/VarHandle" ∧ (parseMethodDescriptor yX5_figure.desc).map (fun d => d.parameters.length) = some 4 := by decide +kernel
theorem hvX5_fog : yX5_fog.cls = RX5 ∧ yX5_fog.cls ≠ "java/lang/invoke/MethodHandle" ∧ yX5_fog.cls ≠ "java/lang/invoke/VarHandle" ∧ (parseMethodDescriptor yX5_fog.desc).map (fun d => d.parameters.length) = some 2 := by decide +kernel
theorem hvX5_forgedOn : yX5_forgedOn.cls = RX5 ∧ yX5_forgedOn.cls ≠ "java/lang/invoke/MethodHandle" ∧ yX5_forgedOn.cls ≠ "java/lang/invoke/VarHandle" ∧ (parseMethodDescriptor yX5_forgedOn.desc).map (fun d => d.parameters.length) = some 2 := by decide +kernel
theorem hvX5_forges : yX5_forges.cls = RX5 ∧ yX5_forges.cls ≠ "java/lang/invoke/MethodHandle" ∧ yX5_forges.cls ≠ "java/lang/invoke/VarHandle" ∧ (parseMethodDescriptor yX5_forges.desc).map (fun d => d.parameters.length) = some 2 := by decide +kernel
theorem hvX5_go : yX5_go.cls = RX5 ∧ yX5_go.cls ≠ "java/lang/invoke/MethodHandle" ∧ yX5_go.cls ≠ "java/lang/invoke/VarHandle" ∧ (parseMethodDescriptor yX5_go.desc).map (fun d => d.parameters.length) = some 0 := by decide +kernel
theorem hvX5_goes : yX5_goes.cls = RX5 ∧ yX5_goes.cls ≠ "java/lang/invoke/MethodHandle" ∧ yX5_goes.cls ≠ "java/lang/invoke/VarHandle" ∧ (parseMethodDescriptor yX5_goes.desc).map (fun d => d.parameters.length) = some 1 := by decide +kernel
theorem hvX5_greet : yX5_greet.cls = RX5 ∧ yX5_greet.cls ≠ "java/lang/invoke/MethodHandle" ∧ yX5_greet.cls ≠ "java/lang/invoke/VarHandle" ∧ (parseMethodDescriptor yX5_greet.desc).map (fun d => d.parameters.length) = some 1 := by decide +kernel
theorem hvX5_hear : yX5_hear.cls = RX5 ∧ yX5_hear.cls ≠ "java/lang/invoke/MethodHandle" ∧ yX5_hear.cls ≠ "java/lang/invoke/VarHandle" ∧ (parseMethodDescriptor yX5_hear.desc).map (fun d => d.parameters.length) = some 4 := by decide +kernel
theorem hvX5_hears : yX5_hears.cls = RX5 ∧ yX5_hears.cls ≠ "java/lang/invoke/MethodHandle" ∧ yX5_hears.cls ≠ "java/lang/invoke/VarHandle" ∧ (parseMethodDescriptor yX5_hears.desc).map (fun d => d.parameters.length) = some 3 := by decide +kernel
theorem hvX5_hush : yX5_hush.cls = RX5 ∧ yX5_hush.cls ≠ "java/lang/invoke/MethodHandle" ∧ yX5_hush.cls ≠ "java/lang/invoke/VarHandle" ∧ (parseMethodDescriptor yX5_hush.desc).map (fun d => d.parameters.length) = some 2 := by decide +kernel
theorem hvX5_hushed : yX5_hushed.cls = RX5 ∧ yX5_hushed.cls ≠ "java/lang/invoke/MethodHandle" ∧ yX5_hushed.cls ≠ "java/lang/invoke/VarHandle" ∧ (parseMethodDescriptor yX5_hushed.desc).map (fun d => d.parameters.length) = some 3 := by decide +kernel
theorem hvX5_in : yX5_in.cls ≠ "java/lang/invoke/MethodHandle" ∧ yX5_in.cls ≠ "java/lang/invoke/VarHandle" ∧ (parseMethodDescriptor yX5_in.desc).map (fun d => d.parameters.length) = some 3 := by decide +kernel
theorem hvX5_isBeyond : yX5_isBeyond.cls ≠ "java/lang/invoke/MethodHandle" ∧ yX5_isBeyond.cls ≠ "java/lang/invoke/VarHandle" ∧ (parseMethodDescriptor yX5_isBeyond.desc).map (fun d => d.parameters.length) = some 3 := by decide +kernel
theorem hvX5_isDay : yX5_isDay.cls ≠ "java/lang/invoke/MethodHandle" ∧ yX5_isDay.cls ≠ "java/lang/invoke/VarHandle" ∧ (parseMethodDescriptor yX5_isDay.desc).map (fun d => d.parameters.length) = some 1 := by decide +kernel
theorem hvX5_isIn : yX5_isIn.cls ≠ "java/lang/invoke/MethodHandle" ∧ yX5_isIn.cls ≠ "java/lang/invoke/VarHandle" ∧ (parseMethodDescriptor yX5_isIn.desc).map (fun d => d.parameters.length) = some 2 := by decide +kernel
theorem hvX5_isThing : yX5_isThing.cls ≠ "java/lang/invoke/MethodHandle" ∧ yX5_isThing.cls ≠ "java/lang/invoke/VarHandle" ∧ (parseMethodDescriptor yX5_isThing.desc).map (fun d => d.parameters.length) = some 1 := by decide +kernel
theorem hvX5_law : yX5_law.cls = RX5 ∧ yX5_law.cls ≠ "java/lang/invoke/MethodHandle" ∧ yX5_law.cls ≠ "java/lang/invoke/VarHandle" ∧ (parseMethodDescriptor yX5_law.desc).map (fun d => d.parameters.length) = some 1 := by decide +kernel
theorem hvX5_lose : yX5_lose.cls = RX5 ∧ yX5_lose.cls ≠ "java/lang/invoke/MethodHandle" ∧ yX5_lose.cls ≠ "java/lang/invoke/VarHandle" ∧ (parseMethodDescriptor yX5_lose.desc).map (fun d => d.parameters.length) = some 1 := by decide +kernel
theorem hvX5_lost : yX5_lost.cls ≠ "java/lang/invoke/MethodHandle" ∧ yX5_lost.cls ≠ "java/lang/invoke/VarHandle" ∧ (parseMethodDescriptor yX5_lost.desc).map (fun d => d.parameters.length) = some 0 := by decide +kernel
theorem hvX5_many : yX5_many.cls = RX5 ∧ yX5_many.cls ≠ "java/lang/invoke/MethodHandle" ∧ yX5_many.cls ≠ "java/lang/invoke/VarHandle" ∧ (parseMethodDescriptor yX5_many.desc).map (fun d => d.parameters.length) = some 1 := by decide +kernel
theorem hvX5_mute : yX5_mute.cls = RX5 ∧ yX5_mute.cls ≠ "java/lang/invoke/MethodHandle" ∧ yX5_mute.cls ≠ "java/lang/invoke/VarHandle" ∧ (parseMethodDescriptor yX5_mute.desc).map (fun d => d.parameters.length) = some 0 := by decide +kernel
theorem hvX5_noCell : yX5_noCell.cls = RX5 ∧ yX5_noCell.cls ≠ "java/lang/invoke/MethodHandle" ∧ yX5_noCell.cls ≠ "java/lang/invoke/VarHandle" ∧ (parseMethodDescriptor yX5_noCell.desc).map (fun d => d.parameters.length) = some 2 := by decide +kernel
theorem hvX5_noPerson : yX5_noPerson.cls = RX5 ∧ yX5_noPerson.cls ≠ "java/lang/invoke/MethodHandle" ∧ yX5_noPerson.cls ≠ "java/lang/invoke/VarHandle" ∧ (parseMethodDescriptor yX5_noPerson.desc).map (fun d => d.parameters.length) = some 1 := by decide +kernel
theorem hvX5_noSheet : yX5_noSheet.cls ≠ "java/lang/invoke/MethodHandle" ∧ yX5_noSheet.cls ≠ "java/lang/invoke/VarHandle" ∧ (parseMethodDescriptor yX5_noSheet.desc).map (fun d => d.parameters.length) = some 1 := by decide +kernel
theorem hvX5_ofPerson : yX5_ofPerson.cls = RX5 ∧ yX5_ofPerson.cls ≠ "java/lang/invoke/MethodHandle" ∧ yX5_ofPerson.cls ≠ "java/lang/invoke/VarHandle" ∧ (parseMethodDescriptor yX5_ofPerson.desc).map (fun d => d.parameters.length) = some 2 := by decide +kernel
theorem hvX5_ofWay : yX5_ofWay.cls = RX5 ∧ yX5_ofWay.cls ≠ "java/lang/invoke/MethodHandle" ∧ yX5_ofWay.cls ≠ "java/lang/invoke/VarHandle" ∧ (parseMethodDescriptor yX5_ofWay.desc).map (fun d => d.parameters.length) = some 2 := by decide +kernel
theorem hvX5_originBy : yX5_originBy.cls = RX5 ∧ yX5_originBy.cls ≠ "java/lang/invoke/MethodHandle" ∧ yX5_originBy.cls ≠ "java/lang/invoke/VarHandle" ∧ (parseMethodDescriptor yX5_originBy.desc).map (fun d => d.parameters.length) = some 2 := by decide +kernel
theorem hvX5_pass : yX5_pass.cls = RX5 ∧ yX5_pass.cls ≠ "java/lang/invoke/MethodHandle" ∧ yX5_pass.cls ≠ "java/lang/invoke/VarHandle" ∧ (parseMethodDescriptor yX5_pass.desc).map (fun d => d.parameters.length) = some 4 := by decide +kernel
theorem hvX5_path : yX5_path.cls = RX5 ∧ yX5_path.cls ≠ "java/lang/invoke/MethodHandle" ∧ yX5_path.cls ≠ "java/lang/invoke/VarHandle" ∧ (parseMethodDescriptor yX5_path.desc).map (fun d => d.parameters.length) = some 3 := by decide +kernel
theorem hvX5_placeOf : yX5_placeOf.cls ≠ "java/lang/invoke/MethodHandle" ∧ yX5_placeOf.cls ≠ "java/lang/invoke/VarHandle" ∧ (parseMethodDescriptor yX5_placeOf.desc).map (fun d => d.parameters.length) = some 3 := by decide +kernel
theorem hvX5_put : yX5_put.cls = RX5 ∧ yX5_put.cls ≠ "java/lang/invoke/MethodHandle" ∧ yX5_put.cls ≠ "java/lang/invoke/VarHandle" ∧ (parseMethodDescriptor yX5_put.desc).map (fun d => d.parameters.length) = some 3 := by decide +kernel
theorem hvX5_reading : yX5_reading.cls = RX5 ∧ yX5_reading.cls ≠ "java/lang/invoke/MethodHandle" ∧ yX5_reading.cls ≠ "java/lang/invoke/VarHandle" ∧ (parseMethodDescriptor yX5_reading.desc).map (fun d => d.parameters.length) = some 4 := by decide +kernel
theorem hvX5_readsPass : yX5_readsPass.cls = RX5 ∧ yX5_readsPass.cls ≠ "java/lang/invoke/MethodHandle" ∧ yX5_readsPass.cls ≠ "java/lang/invoke/VarHandle" ∧ (parseMethodDescriptor yX5_readsPass.desc).map (fun d => d.parameters.length) = some 2 := by decide +kernel
theorem hvX5_readsPerson : yX5_readsPerson.cls = RX5 ∧ yX5_readsPerson.cls ≠ "java/lang/invoke/MethodHandle" ∧ yX5_readsPerson.cls ≠ "java/lang/invoke/VarHandle" ∧ (parseMethodDescriptor yX5_readsPerson.desc).map (fun d => d.parameters.length) = some 2 := by decide +kernel
theorem hvX5_readsWay : yX5_readsWay.cls = RX5 ∧ yX5_readsWay.cls ≠ "java/lang/invoke/MethodHandle" ∧ yX5_readsWay.cls ≠ "java/lang/invoke/VarHandle" ∧ (parseMethodDescriptor yX5_readsWay.desc).map (fun d => d.parameters.length) = some 2 := by decide +kernel
theorem hvX5_refused : yX5_refused.cls = RX5 ∧ yX5_refused.cls ≠ "java/lang/invoke/MethodHandle" ∧ yX5_refused.cls ≠ "java/lang/invoke/VarHandle" ∧ (parseMethodDescriptor yX5_refused.desc).map (fun d => d.parameters.length) = some 1 := by decide +kernel
theorem hvX5_refusedFor : yX5_refusedFor.cls = RX5 ∧ yX5_refusedFor.cls ≠ "java/lang/invoke/MethodHandle" ∧ yX5_refusedFor.cls ≠ "java/lang/invoke/VarHandle" ∧ (parseMethodDescriptor yX5_refusedFor.desc).map (fun d => d.parameters.length) = some 3 := by decide +kernel
theorem hvX5_rows : yX5_rows.cls = RX5 ∧ yX5_rows.cls ≠ "java/lang/invoke/MethodHandle" ∧ yX5_rows.cls ≠ "java/lang/invoke/VarHandle" ∧ (parseMethodDescriptor yX5_rows.desc).map (fun d => d.parameters.length) = some 5 := by decide +kernel
theorem hvX5_sheet : yX5_sheet.cls = RX5 ∧ yX5_sheet.cls ≠ "java/lang/invoke/MethodHandle" ∧ yX5_sheet.cls ≠ "java/lang/invoke/VarHandle" ∧ (parseMethodDescriptor yX5_sheet.desc).map (fun d => d.parameters.length) = some 3 := by decide +kernel
theorem hvX5_spare : yX5_spare.cls = RX5 ∧ yX5_spare.cls ≠ "java/lang/invoke/MethodHandle" ∧ yX5_spare.cls ≠ "java/lang/invoke/VarHandle" ∧ (parseMethodDescriptor yX5_spare.desc).map (fun d => d.parameters.length) = some 0 := by decide +kernel
theorem hvX5_spread : yX5_spread.cls = RX5 ∧ yX5_spread.cls ≠ "java/lang/invoke/MethodHandle" ∧ yX5_spread.cls ≠ "java/lang/invoke/VarHandle" ∧ (parseMethodDescriptor yX5_spread.desc).map (fun d => d.parameters.length) = some 1 := by decide +kernel
theorem hvX5_tell : yX5_tell.cls = RX5 ∧ yX5_tell.cls ≠ "java/lang/invoke/MethodHandle" ∧ yX5_tell.cls ≠ "java/lang/invoke/VarHandle" ∧ (parseMethodDescriptor yX5_tell.desc).map (fun d => d.parameters.length) = some 1 := by decide +kernel
theorem hvX5_tellAll : yX5_tellAll.cls = RX5 ∧ yX5_tellAll.cls ≠ "java/lang/invoke/MethodHandle" ∧ yX5_tellAll.cls ≠ "java/lang/invoke/VarHandle" ∧ (parseMethodDescriptor yX5_tellAll.desc).map (fun d => d.parameters.length) = some 1 := by decide +kernel
theorem hvX5_telling : yX5_telling.cls = RX5 ∧ yX5_telling.cls ≠ "java/lang/invoke/MethodHandle" ∧ yX5_telling.cls ≠ "java/lang/invoke/VarHandle" ∧ (parseMethodDescriptor yX5_telling.desc).map (fun d => d.parameters.length) = some 3 := by decide +kernel
theorem hvX5_thingBy : yX5_thingBy.cls = RX5 ∧ yX5_thingBy.cls ≠ "java/lang/invoke/MethodHandle" ∧ yX5_thingBy.cls ≠ "java/lang/invoke/VarHandle" ∧ (parseMethodDescriptor yX5_thingBy.desc).map (fun d => d.parameters.length) = some 2 := by decide +kernel
theorem hvX5_told : yX5_told.cls = RX5 ∧ yX5_told.cls ≠ "java/lang/invoke/MethodHandle" ∧ yX5_told.cls ≠ "java/lang/invoke/VarHandle" ∧ (parseMethodDescriptor yX5_told.desc).map (fun d => d.parameters.length) = some 2 := by decide +kernel
theorem hvX5_trace : yX5_trace.cls = RX5 ∧ yX5_trace.cls ≠ "java/lang/invoke/MethodHandle" ∧ yX5_trace.cls ≠ "java/lang/invoke/VarHandle" ∧ (parseMethodDescriptor yX5_trace.desc).map (fun d => d.parameters.length) = some 0 := by decide +kernel
theorem hvX5_traced : yX5_traced.cls = RX5 ∧ yX5_traced.cls ≠ "java/lang/invoke/MethodHandle" ∧ yX5_traced.cls ≠ "java/lang/invoke/VarHandle" ∧ (parseMethodDescriptor yX5_traced.desc).map (fun d => d.parameters.length) = some 1 := by decide +kernel
theorem hvX5_undo : yX5_undo.cls = RX5 ∧ yX5_undo.cls ≠ "java/lang/invoke/MethodHandle" ∧ yX5_undo.cls ≠ "java/lang/invoke/VarHandle" ∧ (parseMethodDescriptor yX5_undo.desc).map (fun d => d.parameters.length) = some 1 := by decide +kernel
theorem hvX5_works : yX5_works.cls = RX5 ∧ yX5_works.cls ≠ "java/lang/invoke/MethodHandle" ∧ yX5_works.cls ≠ "java/lang/invoke/VarHandle" ∧ (parseMethodDescriptor yX5_works.desc).map (fun d => d.parameters.length) = some 1 := by decide +kernel
theorem hvX5_worksBy : yX5_worksBy.cls = RX5 ∧ yX5_worksBy.cls ≠ "java/lang/invoke/MethodHandle" ∧ yX5_worksBy.cls ≠ "java/lang/invoke/VarHandle" ∧ (parseMethodDescriptor yX5_worksBy.desc).map (fun d => d.parameters.length) = some 1 := by decide +kernel
theorem hvX5_worth : yX5_worth.cls = RX5 ∧ yX5_worth.cls ≠ "java/lang/invoke/MethodHandle" ∧ yX5_worth.cls ≠ "java/lang/invoke/VarHandle" ∧ (parseMethodDescriptor yX5_worth.desc).map (fun d => d.parameters.length) = some 1 := by decide +kernel

set_option maxHeartbeats 800000 in
set_option maxRecDepth 100000 in
theorem kJ7_fill_d0a16 {zl : Launch} {dC : Nat → ClassId} {dI : Nat → Nat → Nat} {cI cJ cZ cS : ClassId} {sz : Nat} (h0 : Nat) (v : Int64) (f : Nat → Int64) : Met zl yJ7_fill_d0a16 wsJ7_fill_d0a16 ({ frames := 0, cells := 0, slots := 0, locals := 0 } : Room) (va_Pc [.ref h0, .long v] (kPre (dC, dI) (kT cI cJ cZ cS) [(h0, .inl (cJ, 360, .inr (.inl f)))] sz)) (va_Qv (fun (f1 : (Nat → Int64)) => ∀ j, j < 360 → f1 j = v) (fun (f1 : (Nat → Int64)) (zU : State) => va_P (dC, dI) vwCl [(h0, .inl (cJ, 360, .inr (.inl f1)))] zU.heap) (va_A [(h0, .inl (cJ, 360, .inr (.inl f)))] sz)) 0 0 (va_A [(h0, .inl (cJ, 360, .inr (.inl f)))] sz) := by
  refine kstartW_v (cc := cJ7_fill_d0a16) (maxL := 5) rfl rfl (Nat.le_of_ble_eq_true rfl) ?_
  intro zp ze zs zm zb zt zc za zQ zA hx hb hml hts hown hN hK hP hD hS hA hin hret ls hl
  have hl : lv_has ls 5 [(0, .ref h0), (1, .long v)] := hl
  refine lv_iconst (v := nI 0) hx hb dJ7_fill_d0a16_0 (by decide) ?_
  refine lv_istore_n (lv' := [(3, .int (nI 0)), (0, .ref h0), (1, .long v)]) hx hb dJ7_fill_d0a16_1 rfl hl (by decide) rfl (fun ls hl => ?_)
  refine lv_aload_n hx hb dJ7_fill_d0a16_2 rfl (lv_at hl 1 rfl) ?_
  refine va_alen hx hb hK hP 0 1 rfl rfl (v := nI 360) rfl dJ7_fill_d0a16_3 ?_
  refine lv_istore (lv' := [(4, .int (nI 360)), (3, .int (nI 0)), (0, .ref h0), (1, .long v)]) hx hb dJ7_fill_d0a16_4 hl (by decide) rfl (fun ls hl => ?_)
  have loop6 : ∀ (n6 : Nat) (i : Nat) (g : Nat → Int64), (i ≤ 360) → (∀ j, j < i → g j = v) → (360 - i < n6) → ∀ (H_1 : Heap) (locs : List Loc), va_P (dC, dI) vwCl [(h0, .inl (cJ, 360, .inr (.inl g)))] H_1 → va_D zA [(h0, .inl (cJ, 360, .inr (.inl g)))] → va_S zA zs.heap H_1 locs → ∀ (ls : Array Slot), lv_has ls 5 [(0, .ref h0), (1, .long v), (3, .int (nI i)), (4, .int (nI 360))] → W zp zl ze ({ frames := 0, cells := 0, slots := 0, locals := 0 } : Room) zs zm za zb zt zc H_1 locs 0 0 zQ (F0 zm 6 ls []) := by
    intro n6
    induction n6 with
    | zero => intro i g hi hg hme; exact absurd hme (Nat.not_lt_zero _)
    | succ n6 ih6 =>
      intro i g hi hg hme H_1 locs hP hD hS ls hl
      refine lv_iload_n hx hb dJ7_fill_d0a16_6 rfl (lv_at hl 2 rfl) ?_
      refine lv_iload hx hb dJ7_fill_d0a16_7 (lv_at hl 3 rfl) ?_
      refine k_icmp_ge (tgt := 22) hx hb dJ7_fill_d0a16_9 (by decide) (by omega) (by omega) (fun c9 => ?_) (fun c9 => ?_)
      · refine hret 22 _ g _ _ dJ7_fill_d0a16_22 hS (fun t ht _ => by rw [ht]; exact hP) ?_
        intro j hj; exact hg j (by omega)
      · refine lv_aload_n hx hb dJ7_fill_d0a16_12 rfl (lv_at hl 0 rfl) ?_
        refine lv_iload_n hx hb dJ7_fill_d0a16_13 rfl (lv_at hl 2 rfl) ?_
        refine lv_lload_n hx hb dJ7_fill_d0a16_14 rfl (lv_at hl 1 rfl) ?_
        refine k_last hx hb hK hP hD hS 0 1 rfl rfl (n := 360) (by omega) (by decide) dJ7_fill_d0a16_15 (fun f_2 H_3 locs ef_2 hP hD hS => ?_)
        have hP : va_P (dC, dI) vwCl [(h0, .inl (cJ, 360, .inr (.inl f_2)))] H_3 := hP
        have hD : va_D zA [(h0, .inl (cJ, 360, .inr (.inl f_2)))] := hD
        refine lv_iinc (v := nI (i + 1)) (lv' := [(3, .int (nI (i + 1))), (0, .ref h0), (1, .long v), (4, .int (nI 360))]) hx hb dJ7_fill_d0a16_16 hl (k := 2) rfl (nI_add _ _) (by decide) rfl (fun ls hl => ?_)
        refine lv_goto (tgt := 6) hx hb dJ7_fill_d0a16_19 (by decide) ?_
        exact ih6 (i + 1) f_2 (by omega) (by rw [ef_2]; exact updL_lt hg) (by omega) _ _ hP hD hS _ (lv_sub hl [1, 2, 0, 3] rfl)
  exact loop6 ((360 - 0) + 1) 0 f (by omega) (by intro j hj; omega) (by exact Nat.lt_succ_self _) _ _ hP hD hS _ (lv_sub hl [2, 3, 1, 0] rfl)

set_option maxHeartbeats 800000 in
set_option maxRecDepth 100000 in
theorem kJ7_fill_53178 {zl : Launch} {dC : Nat → ClassId} {dI : Nat → Nat → Nat} {cI cJ cZ cS : ClassId} {sz : Nat} (h0 : Nat) (v : Int32) (f : Nat → Int32) : Met zl yJ7_fill_53178 wsJ7_fill_53178 ({ frames := 0, cells := 0, slots := 0, locals := 0 } : Room) (va_Pc [.ref h0, .int v] (kPre (dC, dI) (kT cI cJ cZ cS) [(h0, .inl (cI, 60, .inl f))] sz)) (va_Qv (fun (f1 : (Nat → Int32)) => ∀ j, j < 60 → f1 j = v) (fun (f1 : (Nat → Int32)) (zU : State) => va_P (dC, dI) vwCl [(h0, .inl (cI, 60, .inl f1))] zU.heap) (va_A [(h0, .inl (cI, 60, .inl f))] sz)) 0 0 (va_A [(h0, .inl (cI, 60, .inl f))] sz) := by
  refine kstartW_v (cc := cJ7_fill_53178) (maxL := 4) rfl rfl (Nat.le_of_ble_eq_true rfl) ?_
  intro zp ze zs zm zb zt zc za zQ zA hx hb hml hts hown hN hK hP hD hS hA hin hret ls hl
  have hl : lv_has ls 4 [(0, .ref h0), (1, .int v)] := hl
  refine lv_iconst (v := nI 0) hx hb dJ7_fill_53178_0 (by decide) ?_
  refine lv_istore_n (lv' := [(2, .int (nI 0)), (0, .ref h0), (1, .int v)]) hx hb dJ7_fill_53178_1 rfl hl (by decide) rfl (fun ls hl => ?_)
  refine lv_aload_n hx hb dJ7_fill_53178_2 rfl (lv_at hl 1 rfl) ?_
  refine va_alen hx hb hK hP 0 0 rfl rfl (v := nI 60) rfl dJ7_fill_53178_3 ?_
  refine lv_istore_n (lv' := [(3, .int (nI 60)), (2, .int (nI 0)), (0, .ref h0), (1, .int v)]) hx hb dJ7_fill_53178_4 rfl hl (by decide) rfl (fun ls hl => ?_)
  have loop5 : ∀ (n5 : Nat) (i : Nat) (g : Nat → Int32), (i ≤ 60) → (∀ j, j < i → g j = v) → (60 - i < n5) → ∀ (H_1 : Heap) (locs : List Loc), va_P (dC, dI) vwCl [(h0, .inl (cI, 60, .inl g))] H_1 → va_D zA [(h0, .inl (cI, 60, .inl g))] → va_S zA zs.heap H_1 locs → ∀ (ls : Array Slot), lv_has ls 4 [(0, .ref h0), (1, .int v), (2, .int (nI i)), (3, .int (nI 60))] → W zp zl ze ({ frames := 0, cells := 0, slots := 0, locals := 0 } : Room) zs zm za zb zt zc H_1 locs 0 0 zQ (F0 zm 5 ls []) := by
    intro n5
    induction n5 with
    | zero => intro i g hi hg hme; exact absurd hme (Nat.not_lt_zero _)
    | succ n5 ih5 =>
      intro i g hi hg hme H_1 locs hP hD hS ls hl
      refine lv_iload_n hx hb dJ7_fill_53178_5 rfl (lv_at hl 2 rfl) ?_
      refine lv_iload_n hx hb dJ7_fill_53178_6 rfl (lv_at hl 3 rfl) ?_
      refine k_icmp_ge (tgt := 20) hx hb dJ7_fill_53178_7 (by decide) (by omega) (by omega) (fun c7 => ?_) (fun c7 => ?_)
      · refine hret 20 _ g _ _ dJ7_fill_53178_20 hS (fun t ht _ => by rw [ht]; exact hP) ?_
        intro j hj; exact hg j (by omega)
      · refine lv_aload_n hx hb dJ7_fill_53178_10 rfl (lv_at hl 0 rfl) ?_
        refine lv_iload_n hx hb dJ7_fill_53178_11 rfl (lv_at hl 2 rfl) ?_
        refine lv_iload_n hx hb dJ7_fill_53178_12 rfl (lv_at hl 1 rfl) ?_
        refine k_iast hx hb hK hP hD hS 0 0 rfl rfl (n := 60) (by omega) (by decide) dJ7_fill_53178_13 (fun f_2 H_3 locs ef_2 hP hD hS => ?_)
        have hP : va_P (dC, dI) vwCl [(h0, .inl (cI, 60, .inl f_2))] H_3 := hP
        have hD : va_D zA [(h0, .inl (cI, 60, .inl f_2))] := hD
        refine lv_iinc (v := nI (i + 1)) (lv' := [(2, .int (nI (i + 1))), (0, .ref h0), (1, .int v), (3, .int (nI 60))]) hx hb dJ7_fill_53178_14 hl (k := 2) rfl (nI_add _ _) (by decide) rfl (fun ls hl => ?_)
        refine lv_goto (tgt := 5) hx hb dJ7_fill_53178_17 (by decide) ?_
        exact ih5 (i + 1) f_2 (by omega) (by rw [ef_2]; exact upd_lt hg) (by omega) _ _ hP hD hS _ (lv_sub hl [1, 2, 0, 3] rfl)
  exact loop5 ((60 - 0) + 1) 0 f (by omega) (by intro j hj; omega) (by exact Nat.lt_succ_self _) _ _ hP hD hS _ (lv_sub hl [2, 3, 1, 0] rfl)

set_option maxHeartbeats 800000 in
set_option maxRecDepth 100000 in
theorem kX4_isBelow {zl : Launch} {dC : Nat → ClassId} {dI : Nat → Nat → Nat} {cI cJ cZ cS : ClassId} (x : Int32) (n : Nat) (hn : n < 2 ^ 31) : Met zl yX4_isBelow wsX4_isBelow ({ frames := 0, cells := 0, slots := 0, locals := 0 } : Room) (va_Pc [.int x, .int (nI n)] (rPre (dC, dI) (kT cI cJ cZ cS) [])) (vp_Si (fun r : Int32 => r = kb (blw x n))) 0 0 (fun _ => False) := by
  refine kstartR_z (cc := cX4_isBelow) (maxL := 2) rfl rfl (Nat.le_of_ble_eq_true rfl) ?_
  intro zp ze zs zm zb zt zc za zQ hx hb hml hts hown hN hK hP hret ls hl
  have hl : lv_has ls 2 [(0, .int x), (1, .int (nI n))] := hl
  refine lv_iload_n hx hb dX4_isBelow_0 rfl (lv_at hl 0 rfl) ?_
  refine lv_if_lt (tgt := 13) hx hb dX4_isBelow_1 (by decide) (fun c1 => ?_) (fun c1 => ?_)
  · refine lv_iconst (v := nI 0) hx hb dX4_isBelow_13 (by decide) ?_
    refine k_cast (y := kb false) (rfl) ?_
    refine hret 14 _ false dX4_isBelow_14 ?_
    exact congrArg kb (blw_lt0 c1).symm
  · refine lv_iload_n hx hb dX4_isBelow_4 rfl (lv_at hl 0 rfl) ?_
    refine lv_iload_n hx hb dX4_isBelow_5 rfl (lv_at hl 1 rfl) ?_
    refine lv_icmp_ge (tgt := 13) hx hb dX4_isBelow_6 (by decide) (fun c6 => ?_) (fun c6 => ?_)
    · refine lv_iconst (v := nI 0) hx hb dX4_isBelow_13 (by decide) ?_
      refine k_cast (y := kb false) (rfl) ?_
      refine hret 14 _ false dX4_isBelow_14 ?_
      exact congrArg kb (blw_ge hn c6).symm
    · refine lv_iconst (v := nI 1) hx hb dX4_isBelow_9 (by decide) ?_
      refine lv_goto (tgt := 14) hx hb dX4_isBelow_10 (by decide) ?_
      refine k_cast (y := kb true) (rfl) ?_
      refine hret 14 _ true dX4_isBelow_14 ?_
      exact congrArg kb (blw_tt hn c1 c6).symm

set_option maxHeartbeats 800000 in
set_option maxRecDepth 100000 in
theorem kX4_isSheet {zl : Launch} {dC : Nat → ClassId} {dI : Nat → Nat → Nat} {cI cJ cZ cS : ClassId} (x : Int32) : Met zl yX4_isSheet wsX4_isSheet ({ frames := 1, cells := 0, slots := 0, locals := 21 } : Room) (va_Pc [.int x] (rPre (dC, dI) (kT cI cJ cZ cS) [])) (vp_Si (fun r : Int32 => r = kb (blw x 4))) 0 0 (fun _ => False) := by
  refine kstartR_z (cc := cX4_isSheet) (maxL := 1) rfl rfl (Nat.le_of_ble_eq_true rfl) ?_
  intro zp ze zs zm zb zt zc za zQ hx hb hml hts hown hN hK hP hret ls hl
  have hl : lv_has ls 1 [(0, .int x)] := hl
  refine lv_iload_n hx hb dX4_isSheet_0 rfl (lv_at hl 0 rfl) ?_
  refine lv_iconst (v := nI 4) hx hb dX4_isSheet_1 (by decide) ?_
  refine rc_i (va_runS (As := [.int x, .int (nI 4)]) (rest := []) ⟨hx, hb, hml, hown, hts⟩ (kX4_isBelow x 4 (by decide)) (va_cwS 2 hts gX4_isSheet_X4_isBelow rfl rfl rfl hvX4_isBelow ⟨Nat.le_of_ble_eq_true rfl, Nat.le_of_ble_eq_true rfl⟩) (rpreS hN hK (hP.sub [] rfl)) rfl rfl hl.1 rfl (lv_room (Nat.le_of_ble_eq_true rfl)) dX4_isSheet_2 ⟨Nat.zero_le _, Nat.zero_le _⟩) (fun r_1 hr_1 => ?_)
  have hr_1 : r_1 = kb (blw x 4) := hr_1
  rw [hr_1]
  refine hret 5 _ (blw x 4) dX4_isSheet_5 ?_
  rfl

set_option maxHeartbeats 800000 in
set_option maxRecDepth 100000 in
theorem kX4_isThing {zl : Launch} {dC : Nat → ClassId} {dI : Nat → Nat → Nat} {cI cJ cZ cS : ClassId} (x : Int32) : Met zl yX4_isThing wsX4_isThing ({ frames := 1, cells := 0, slots := 0, locals := 21 } : Room) (va_Pc [.int x] (rPre (dC, dI) (kT cI cJ cZ cS) [])) (vp_Si (fun r : Int32 => r = kb (blw x 4))) 0 0 (fun _ => False) := by
  refine kstartR_z (cc := cX4_isThing) (maxL := 1) rfl rfl (Nat.le_of_ble_eq_true rfl) ?_
  intro zp ze zs zm zb zt zc za zQ hx hb hml hts hown hN hK hP hret ls hl
  have hl : lv_has ls 1 [(0, .int x)] := hl
  refine lv_iload_n hx hb dX4_isThing_0 rfl (lv_at hl 0 rfl) ?_
  refine lv_iconst (v := nI 4) hx hb dX4_isThing_1 (by decide) ?_
  refine rc_i (va_runS (As := [.int x, .int (nI 4)]) (rest := []) ⟨hx, hb, hml, hown, hts⟩ (kX4_isBelow x 4 (by decide)) (va_cwS 2 hts gX4_isThing_X4_isBelow rfl rfl rfl hvX4_isBelow ⟨Nat.le_of_ble_eq_true rfl, Nat.le_of_ble_eq_true rfl⟩) (rpreS hN hK (hP.sub [] rfl)) rfl rfl hl.1 rfl (lv_room (Nat.le_of_ble_eq_true rfl)) dX4_isThing_2 ⟨Nat.zero_le _, Nat.zero_le _⟩) (fun r_1 hr_1 => ?_)
  have hr_1 : r_1 = kb (blw x 4) := hr_1
  rw [hr_1]
  refine hret 5 _ (blw x 4) dX4_isThing_5 ?_
  rfl

set_option maxHeartbeats 800000 in
set_option maxRecDepth 100000 in
theorem kX4_isDay {zl : Launch} {dC : Nat → ClassId} {dI : Nat → Nat → Nat} {cI cJ cZ cS : ClassId} (x : Int32) : Met zl yX4_isDay wsX4_isDay ({ frames := 1, cells := 0, slots := 0, locals := 21 } : Room) (va_Pc [.int x] (rPre (dC, dI) (kT cI cJ cZ cS) [])) (vp_Si (fun r : Int32 => r = kb (blw x 60))) 0 0 (fun _ => False) := by
  refine kstartR_z (cc := cX4_isDay) (maxL := 1) rfl rfl (Nat.le_of_ble_eq_true rfl) ?_
  intro zp ze zs zm zb zt zc za zQ hx hb hml hts hown hN hK hP hret ls hl
  have hl : lv_has ls 1 [(0, .int x)] := hl
  refine lv_iload_n hx hb dX4_isDay_0 rfl (lv_at hl 0 rfl) ?_
  refine lv_bipush (v := nI 60) hx hb dX4_isDay_1 (by decide) ?_
  refine rc_i (va_runS (As := [.int x, .int (nI 60)]) (rest := []) ⟨hx, hb, hml, hown, hts⟩ (kX4_isBelow x 60 (by decide)) (va_cwS 2 hts gX4_isDay_X4_isBelow rfl rfl rfl hvX4_isBelow ⟨Nat.le_of_ble_eq_true rfl, Nat.le_of_ble_eq_true rfl⟩) (rpreS hN hK (hP.sub [] rfl)) rfl rfl hl.1 rfl (lv_room (Nat.le_of_ble_eq_true rfl)) dX4_isDay_3 ⟨Nat.zero_le _, Nat.zero_le _⟩) (fun r_1 hr_1 => ?_)
  have hr_1 : r_1 = kb (blw x 60) := hr_1
  rw [hr_1]
  refine hret 6 _ (blw x 60) dX4_isDay_6 ?_
  rfl

set_option maxHeartbeats 800000 in
set_option maxRecDepth 100000 in
theorem kX4_isThingAndDay {zl : Launch} {dC : Nat → ClassId} {dI : Nat → Nat → Nat} {cI cJ cZ cS : ClassId} (t : Int32) (d : Int32) : Met zl yX4_isThingAndDay wsX4_isThingAndDay ({ frames := 2, cells := 0, slots := 0, locals := 41 } : Room) (va_Pc [.int t, .int d] (rPre (dC, dI) (kT cI cJ cZ cS) [])) (vp_Si (fun r : Int32 => r = kb (blw t 4 && blw d 60))) 0 0 (fun _ => False) := by
  refine kstartR_z (cc := cX4_isThingAndDay) (maxL := 2) rfl rfl (Nat.le_of_ble_eq_true rfl) ?_
  intro zp ze zs zm zb zt zc za zQ hx hb hml hts hown hN hK hP hret ls hl
  have hl : lv_has ls 2 [(0, .int t), (1, .int d)] := hl
  refine lv_iload_n hx hb dX4_isThingAndDay_0 rfl (lv_at hl 0 rfl) ?_
  refine rc_i (va_runS (As := [.int t]) (rest := []) ⟨hx, hb, hml, hown, hts⟩ (kX4_isThing t ) (va_cwS 1 hts gX4_isThingAndDay_X4_isThing rfl rfl rfl hvX4_isThing ⟨Nat.le_of_ble_eq_true rfl, Nat.le_of_ble_eq_true rfl⟩) (rpreS hN hK (hP.sub [] rfl)) rfl rfl hl.1 rfl (lv_room (Nat.le_of_ble_eq_true rfl)) dX4_isThingAndDay_1 ⟨Nat.zero_le _, Nat.zero_le _⟩) (fun r_1 hr_1 => ?_)
  have hr_1 : r_1 = kb (blw t 4) := hr_1
  rw [hr_1]
  refine k_if_eqb (tgt := 18) hx hb dX4_isThingAndDay_4 (by decide) (fun c4 => ?_) (fun c4 => ?_)
  · refine lv_iconst (v := nI 0) hx hb dX4_isThingAndDay_18 (by decide) ?_
    refine k_cast (y := kb false) (rfl) ?_
    refine hret 19 _ false dX4_isThingAndDay_19 ?_
    simp_all
  · refine lv_iload_n hx hb dX4_isThingAndDay_7 rfl (lv_at hl 1 rfl) ?_
    refine rc_i (va_runS (As := [.int d]) (rest := []) ⟨hx, hb, hml, hown, hts⟩ (kX4_isDay d ) (va_cwS 1 hts gX4_isThingAndDay_X4_isDay rfl rfl rfl hvX4_isDay ⟨Nat.le_of_ble_eq_true rfl, Nat.le_of_ble_eq_true rfl⟩) (rpreS hN hK (hP.sub [] rfl)) rfl rfl hl.1 rfl (lv_room (Nat.le_of_ble_eq_true rfl)) dX4_isThingAndDay_8 ⟨Nat.zero_le _, Nat.zero_le _⟩) (fun r_2 hr_2 => ?_)
    have hr_2 : r_2 = kb (blw d 60) := hr_2
    rw [hr_2]
    refine k_if_eqb (tgt := 18) hx hb dX4_isThingAndDay_11 (by decide) (fun c11 => ?_) (fun c11 => ?_)
    · refine lv_iconst (v := nI 0) hx hb dX4_isThingAndDay_18 (by decide) ?_
      refine k_cast (y := kb false) (rfl) ?_
      refine hret 19 _ false dX4_isThingAndDay_19 ?_
      simp_all
    · refine lv_iconst (v := nI 1) hx hb dX4_isThingAndDay_14 (by decide) ?_
      refine lv_goto (tgt := 19) hx hb dX4_isThingAndDay_15 (by decide) ?_
      refine k_cast (y := kb true) (rfl) ?_
      refine hret 19 _ true dX4_isThingAndDay_19 ?_
      simp_all

set_option maxHeartbeats 800000 in
set_option maxRecDepth 100000 in
theorem kX4_holds {zl : Launch} {dC : Nat → ClassId} {dI : Nat → Nat → Nat} {cI cJ cZ cS : ClassId} (t : Nat) (q : Nat) (ht : t < 64) (hq : q < 6) : Met zl yX4_holds wsX4_holds ({ frames := 0, cells := 0, slots := 0, locals := 0 } : Room) (va_Pc [.int (nI t), .int (nI q)] (rPre (dC, dI) (kT cI cJ cZ cS) [])) (vp_Si (fun r : Int32 => r = kb (t.testBit q))) 0 0 (fun _ => False) := by
  refine kstartR_z (cc := cX4_holds) (maxL := 2) rfl rfl (Nat.le_of_ble_eq_true rfl) ?_
  intro zp ze zs zm zb zt zc za zQ hx hb hml hts hown hN hK hP hret ls hl
  have hl : lv_has ls 2 [(0, .int (nI t)), (1, .int (nI q))] := hl
  refine lv_iload_n hx hb dX4_holds_0 rfl (lv_at hl 0 rfl) ?_
  refine lv_iload_n hx hb dX4_holds_1 rfl (lv_at hl 1 rfl) ?_
  refine lv_ishr hx hb dX4_holds_2 ?_
  refine lv_iconst (v := nI 1) hx hb dX4_holds_3 (by decide) ?_
  refine lv_iand hx hb dX4_holds_4 ?_
  refine k_cast (y := kb (t.testBit q)) (holds_b t ht q hq) ?_
  refine k_if_eqb (tgt := 12) hx hb dX4_holds_5 (by decide) (fun c5 => ?_) (fun c5 => ?_)
  · refine lv_iconst (v := nI 0) hx hb dX4_holds_12 (by decide) ?_
    refine k_cast (y := kb false) (rfl) ?_
    refine hret 13 _ false dX4_holds_13 ?_
    simp_all
  · refine lv_iconst (v := nI 1) hx hb dX4_holds_8 (by decide) ?_
    refine lv_goto (tgt := 13) hx hb dX4_holds_9 (by decide) ?_
    refine k_cast (y := kb true) (rfl) ?_
    refine hret 13 _ true dX4_holds_13 ?_
    simp_all

set_option maxHeartbeats 800000 in
set_option maxRecDepth 100000 in
theorem kX4_isPerson {zl : Launch} {dC : Nat → ClassId} {dI : Nat → Nat → Nat} {cI cJ cZ cS : ClassId} (aX : Nat) (aSh : Nat) (aTe : Nat) (aRe : Nat) (aRF : Nat) (aTa : Nat) (aFD : Nat) (aPe : Nat) (aDr : Nat) (lw : Nat) (hm : Nat) (fo : Int64) (tr : Int32) (fa : Nat) (aKi : Nat) (aFr : Nat) (aTo : Nat) (aDa : Nat) (np : Nat) (sm : Nat) (nw : Nat) (x : Int32) (hnp : np ≤ 6) : Met zl yX4_isPerson wsX4_isPerson ({ frames := 1, cells := 0, slots := 0, locals := 21 } : Room) (va_Pc [.ref aX, .int x] (rPre (dC, dI) (kT cI cJ cZ cS) [(aX, .inr (4, [.ref aSh, .ref aTe, .ref aRe, .ref aRF, .ref aTa, .ref aFD, .ref aPe, .ref aDr, .int (nI lw), .int (nI hm), .long fo, .int tr, .int (nI fa)])), (aPe, .inr (1, [.ref aKi, .ref aFr, .ref aTo, .ref aDa, .int (nI np), .int (nI sm), .int (nI nw)]))])) (vp_Si (fun r : Int32 => r = kb (blw x np))) 0 0 (fun _ => False) := by
  refine kstartR_z (cc := cX4_isPerson) (maxL := 2) rfl rfl (Nat.le_of_ble_eq_true rfl) ?_
  intro zp ze zs zm zb zt zc za zQ hx hb hml hts hown hN hK hP hret ls hl
  have hl : lv_has ls 2 [(0, .ref aX), (1, .int x)] := hl
  have hinX1 : ∀ w ∈ wsX10, w ∈ wsX4_isPerson := fun _ h => List.mem_cons_of_mem _ (List.mem_append_right _ h)
  have hinX4 : ∀ w ∈ wsX40, w ∈ wsX4_isPerson := fun _ h => List.mem_cons_of_mem _ (List.mem_append_left _ (List.mem_append_right _ h))
  have lk95 := hts (.fieldLink RX4 95 "IronRumours$People" "persons" "I") (List.mem_of_getElem? (i := 2) rfl)
  have lk47 := hts (.fieldLink RX4 47 "IronRumours" "people" "LIronRumours$People;") (List.mem_of_getElem? (i := 1) rfl)
  refine lv_iload_n hx hb dX4_isPerson_0 rfl (lv_at hl 1 rfl) ?_
  refine lv_aload_n hx hb dX4_isPerson_1 rfl (lv_at hl 0 rfl) ?_
  refine va_get (D := (dC, dI)) (ci := 4) (v := .ref aPe) (C := RX4) (T := TX4) (N := 13) hx hb hts hinX4 hown hK hP 0 rfl rfl 6 (by decide) lk47 (fun _ h9 => h9) rfl dX4_isPerson_2 ?_
  refine va_get (D := (dC, dI)) (ci := 1) (v := .int (nI np)) (C := RX1) (T := TX1) (N := 7) hx hb hts hinX1 hown hK hP 1 rfl rfl 4 (by decide) lk95 (fun _ h9 => h9) rfl dX4_isPerson_5 ?_
  refine rc_i (va_runS (As := [.int x, .int (nI np)]) (rest := []) ⟨hx, hb, hml, hown, hts⟩ (kX4_isBelow x np (by omega)) (va_cwS 2 hts gX4_isPerson_X4_isBelow rfl rfl rfl hvX4_isBelow ⟨Nat.le_of_ble_eq_true rfl, Nat.le_of_ble_eq_true rfl⟩) (rpreS hN hK (hP.sub [] rfl)) rfl rfl hl.1 rfl (lv_room (Nat.le_of_ble_eq_true rfl)) dX4_isPerson_8 ⟨Nat.zero_le _, Nat.zero_le _⟩) (fun r_1 hr_1 => ?_)
  have hr_1 : r_1 = kb (blw x np) := hr_1
  rw [hr_1]
  refine hret 11 _ (blw x np) dX4_isPerson_11 ?_
  rfl

set_option maxHeartbeats 800000 in
set_option maxRecDepth 100000 in
theorem kX4_hasNoPass {zl : Launch} {dC : Nat → ClassId} {dI : Nat → Nat → Nat} {cI cJ cZ cS : ClassId} (aX : Nat) (aSh : Nat) (aTe : Nat) (aRe : Nat) (aRF : Nat) (aTa : Nat) (aFD : Nat) (aPe : Nat) (aDr : Nat) (lw : Nat) (hm : Nat) (fo : Int64) (tr : Int32) (fa : Nat) (aKi : Nat) (aFr : Nat) (aTo : Nat) (aDa : Nat) (np : Nat) (sm : Nat) (nw : Nat) (hnp : np ≤ 6) : Met zl yX4_hasNoPass wsX4_hasNoPass ({ frames := 0, cells := 0, slots := 0, locals := 0 } : Room) (va_Pc [.ref aX] (rPre (dC, dI) (kT cI cJ cZ cS) [(aX, .inr (4, [.ref aSh, .ref aTe, .ref aRe, .ref aRF, .ref aTa, .ref aFD, .ref aPe, .ref aDr, .int (nI lw), .int (nI hm), .long fo, .int tr, .int (nI fa)])), (aPe, .inr (1, [.ref aKi, .ref aFr, .ref aTo, .ref aDa, .int (nI np), .int (nI sm), .int (nI nw)]))])) (vp_Si (fun r : Int32 => r = kb (decide (np = 0)))) 0 0 (fun _ => False) := by
  refine kstartR_z (cc := cX4_hasNoPass) (maxL := 1) rfl rfl (Nat.le_of_ble_eq_true rfl) ?_
  intro zp ze zs zm zb zt zc za zQ hx hb hml hts hown hN hK hP hret ls hl
  have hl : lv_has ls 1 [(0, .ref aX)] := hl
  have hinX1 : ∀ w ∈ wsX10, w ∈ wsX4_hasNoPass := fun _ h => List.mem_cons_of_mem _ (List.mem_append_right _ h)
  have hinX4 : ∀ w ∈ wsX40, w ∈ wsX4_hasNoPass := fun _ h => List.mem_cons_of_mem _ (List.mem_append_left _ (List.mem_append_right _ h))
  have lk95 := hts (.fieldLink RX4 95 "IronRumours$People" "persons" "I") (List.mem_of_getElem? (i := 2) rfl)
  have lk47 := hts (.fieldLink RX4 47 "IronRumours" "people" "LIronRumours$People;") (List.mem_of_getElem? (i := 1) rfl)
  refine lv_aload_n hx hb dX4_hasNoPass_0 rfl (lv_at hl 0 rfl) ?_
  refine va_get (D := (dC, dI)) (ci := 4) (v := .ref aPe) (C := RX4) (T := TX4) (N := 13) hx hb hts hinX4 hown hK hP 0 rfl rfl 6 (by decide) lk47 (fun _ h9 => h9) rfl dX4_hasNoPass_1 ?_
  refine va_get (D := (dC, dI)) (ci := 1) (v := .int (nI np)) (C := RX1) (T := TX1) (N := 7) hx hb hts hinX1 hown hK hP 1 rfl rfl 4 (by decide) lk95 (fun _ h9 => h9) rfl dX4_hasNoPass_4 ?_
  refine k_if_ne (tgt := 14) hx hb dX4_hasNoPass_7 (by decide) (by omega) (fun c7 => ?_) (fun c7 => ?_)
  · refine lv_iconst (v := nI 0) hx hb dX4_hasNoPass_14 (by decide) ?_
    refine k_cast (y := kb false) (rfl) ?_
    refine hret 15 _ false dX4_hasNoPass_15 ?_
    simp_all
  · refine lv_iconst (v := nI 1) hx hb dX4_hasNoPass_10 (by decide) ?_
    refine lv_goto (tgt := 15) hx hb dX4_hasNoPass_11 (by decide) ?_
    refine k_cast (y := kb true) (rfl) ?_
    refine hret 15 _ true dX4_hasNoPass_15 ?_
    simp_all

set_option maxHeartbeats 800000 in
set_option maxRecDepth 100000 in
theorem kX4_meet {zl : Launch} {dC : Nat → ClassId} {dI : Nat → Nat → Nat} {cI cJ cZ cS : ClassId} {sz : Nat} (aX : Nat) (aSh : Nat) (aTe : Nat) (aRe : Nat) (aRF : Nat) (aTa : Nat) (aFD : Nat) (aPe : Nat) (aDr : Nat) (lw : Nat) (hm : Nat) (fo : Int64) (tr : Int32) (fa : Nat) (q : Nat) : Met zl yX4_meet wsX4_meet ({ frames := 0, cells := 0, slots := 0, locals := 0 } : Room) (va_Pc [.ref aX, .int (nI q)] (kPre (dC, dI) (kT cI cJ cZ cS) [(aX, .inr (4, [.ref aSh, .ref aTe, .ref aRe, .ref aRF, .ref aTa, .ref aFD, .ref aPe, .ref aDr, .int (nI lw), .int (nI hm), .long fo, .int tr, .int (nI fa)]))] sz)) (va_Qi (fun (r : Int32) => fun (_ : Unit) => r = (-10) - nI q) (fun (_ : Unit) (zU : State) => va_P (dC, dI) vwCl [(aX, .inr (4, [.ref aSh, .ref aTe, .ref aRe, .ref aRF, .ref aTa, .ref aFD, .ref aPe, .ref aDr, .int (nI lw), .int (nI hm), .long fo, .int tr, .int (nI q)]))] zU.heap) (va_A [(aX, .inr (4, [.ref aSh, .ref aTe, .ref aRe, .ref aRF, .ref aTa, .ref aFD, .ref aPe, .ref aDr, .int (nI lw), .int (nI hm), .long fo, .int tr, .int (nI fa)]))] sz)) 0 0 (va_A [(aX, .inr (4, [.ref aSh, .ref aTe, .ref aRe, .ref aRF, .ref aTa, .ref aFD, .ref aPe, .ref aDr, .int (nI lw), .int (nI hm), .long fo, .int tr, .int (nI fa)]))] sz) := by
  refine kstartW_i (cc := cX4_meet) (maxL := 2) rfl rfl (Nat.le_of_ble_eq_true rfl) ?_
  intro zp ze zs zm zb zt zc za zQ zA hx hb hml hts hown hN hK hP hD hS hA hin hret ls hl
  have hl : lv_has ls 2 [(0, .ref aX), (1, .int (nI q))] := hl
  have hinX4 : ∀ w ∈ wsX40, w ∈ wsX4_meet := fun _ h => List.mem_cons_of_mem _ (List.mem_append_right _ h)
  have lk68 := hts (.fieldLink RX4 68 "IronRumours" "lastFault" "I") (List.mem_of_getElem? (i := 1) rfl)
  refine lv_aload_n hx hb dX4_meet_0 rfl (lv_at hl 0 rfl) ?_
  refine lv_iload_n hx hb dX4_meet_1 rfl (lv_at hl 1 rfl) ?_
  refine va_put (D := (dC, dI)) (ci := 4) (v := .int (nI q)) (ty := .int) (C := RX4) (T := TX4) (N := 13) hx hb hts hinX4 tyX4 tyX4_ok nmX4 hown hK hP hD hS 0 rfl rfl 12 (by decide) lk68 (fun _ h9 => h9) rfl (tyX4_ok 12 (by decide)) rfl rfl (Nat.le_of_ble_eq_true rfl) dX4_meet_2 (fun H_1 locs hP hD hS => ?_)
  have hP : va_P (dC, dI) vwCl [(aX, .inr (4, [.ref aSh, .ref aTe, .ref aRe, .ref aRF, .ref aTa, .ref aFD, .ref aPe, .ref aDr, .int (nI lw), .int (nI hm), .long fo, .int tr, .int (nI q)]))] H_1 := hP
  have hD : va_D zA [(aX, .inr (4, [.ref aSh, .ref aTe, .ref aRe, .ref aRF, .ref aTa, .ref aFD, .ref aPe, .ref aDr, .int (nI lw), .int (nI hm), .long fo, .int tr, .int (nI q)]))] := hD
  refine lv_bipush (v := (-10)) hx hb dX4_meet_5 (by decide) ?_
  refine lv_iload_n hx hb dX4_meet_7 rfl (lv_at hl 1 rfl) ?_
  refine lv_isub hx hb dX4_meet_8 ?_
  refine hret 9 _ ((-10) - (nI q)) () _ _ dX4_meet_9 hS (fun t ht _ => by rw [ht]; exact hP) ?_
  rfl

set_option maxHeartbeats 800000 in
set_option maxRecDepth 100000 in
theorem kX2_hasNothing {zl : Launch} {dC : Nat → ClassId} {dI : Nat → Nat → Nat} {cI cJ cZ cS : ClassId} (aS : Nat) (aC : Nat) (la : Int32) (le : Nat) : Met zl yX2_hasNothing wsX2_hasNothing ({ frames := 0, cells := 0, slots := 0, locals := 0 } : Room) (va_Pc [.ref aS] (rPre (dC, dI) (kT cI cJ cZ cS) [(aS, .inr (2, [.ref aC, .int la, .int (nI le)]))])) (vp_Si (fun r : Int32 => r = kb (decide (la = (-1))))) 0 0 (fun _ => False) := by
  refine kstartR_z (cc := cX2_hasNothing) (maxL := 1) rfl rfl (Nat.le_of_ble_eq_true rfl) ?_
  intro zp ze zs zm zb zt zc za zQ hx hb hml hts hown hN hK hP hret ls hl
  have hl : lv_has ls 1 [(0, .ref aS)] := hl
  have hinX2 : ∀ w ∈ wsX20, w ∈ wsX2_hasNothing := fun _ h => List.mem_cons_of_mem _ (List.mem_append_right _ h)
  have lk15 := hts (.fieldLink RX2 15 "IronRumours$Sheet" "lane" "I") (List.mem_of_getElem? (i := 1) rfl)
  refine lv_aload_n hx hb dX2_hasNothing_0 rfl (lv_at hl 0 rfl) ?_
  refine va_get (D := (dC, dI)) (ci := 2) (v := .int la) (C := RX2) (T := TX2) (N := 3) hx hb hts hinX2 hown hK hP 0 rfl rfl 1 (by decide) lk15 (fun _ h9 => h9) rfl dX2_hasNothing_1 ?_
  refine lv_iconst (v := (-1)) hx hb dX2_hasNothing_4 (by decide) ?_
  refine lv_icmp_ne (tgt := 12) hx hb dX2_hasNothing_5 (by decide) (fun c5 => ?_) (fun c5 => ?_)
  · refine lv_iconst (v := nI 0) hx hb dX2_hasNothing_12 (by decide) ?_
    refine k_cast (y := kb false) (rfl) ?_
    refine hret 13 _ false dX2_hasNothing_13 ?_
    simp_all
  · refine lv_iconst (v := nI 1) hx hb dX2_hasNothing_8 (by decide) ?_
    refine lv_goto (tgt := 13) hx hb dX2_hasNothing_9 (by decide) ?_
    refine k_cast (y := kb true) (rfl) ?_
    refine hret 13 _ true dX2_hasNothing_13 ?_
    simp_all

set_option maxHeartbeats 800000 in
set_option maxRecDepth 100000 in
theorem kX2_empty {zl : Launch} {dC : Nat → ClassId} {dI : Nat → Nat → Nat} {cI cJ cZ cS : ClassId} {sz : Nat} (aS : Nat) (aC : Nat) (la : Int32) (le : Nat) : Met zl yX2_empty wsX2_empty ({ frames := 0, cells := 0, slots := 0, locals := 0 } : Room) (va_Pc [.ref aS] (kPre (dC, dI) (kT cI cJ cZ cS) [(aS, .inr (2, [.ref aC, .int la, .int (nI le)]))] sz)) (va_Qv (fun (_ : Unit) => True) (fun (_ : Unit) (zU : State) => va_P (dC, dI) vwCl [(aS, .inr (2, [.ref aC, .int (-1), .int (nI 0)]))] zU.heap) (va_A [(aS, .inr (2, [.ref aC, .int la, .int (nI le)]))] sz)) 0 0 (va_A [(aS, .inr (2, [.ref aC, .int la, .int (nI le)]))] sz) := by
  refine kstartW_v (cc := cX2_empty) (maxL := 1) rfl rfl (Nat.le_of_ble_eq_true rfl) ?_
  intro zp ze zs zm zb zt zc za zQ zA hx hb hml hts hown hN hK hP hD hS hA hin hret ls hl
  have hl : lv_has ls 1 [(0, .ref aS)] := hl
  have hinX2 : ∀ w ∈ wsX20, w ∈ wsX2_empty := fun _ h => List.mem_cons_of_mem _ (List.mem_append_right _ h)
  have lk15 := hts (.fieldLink RX2 15 "IronRumours$Sheet" "lane" "I") (List.mem_of_getElem? (i := 1) rfl)
  have lk19 := hts (.fieldLink RX2 19 "IronRumours$Sheet" "length" "I") (List.mem_of_getElem? (i := 2) rfl)
  refine lv_aload_n hx hb dX2_empty_0 rfl (lv_at hl 0 rfl) ?_
  refine lv_iconst (v := (-1)) hx hb dX2_empty_1 (by decide) ?_
  refine va_put (D := (dC, dI)) (ci := 2) (v := .int (-1)) (ty := .int) (C := RX2) (T := TX2) (N := 3) hx hb hts hinX2 tyX2 tyX2_ok nmX2 hown hK hP hD hS 0 rfl rfl 1 (by decide) lk15 (fun _ h9 => h9) rfl (tyX2_ok 1 (by decide)) rfl rfl (Nat.le_of_ble_eq_true rfl) dX2_empty_2 (fun H_1 locs hP hD hS => ?_)
  have hP : va_P (dC, dI) vwCl [(aS, .inr (2, [.ref aC, .int (-1), .int (nI le)]))] H_1 := hP
  have hD : va_D zA [(aS, .inr (2, [.ref aC, .int (-1), .int (nI le)]))] := hD
  refine lv_aload_n hx hb dX2_empty_5 rfl (lv_at hl 0 rfl) ?_
  refine lv_iconst (v := nI 0) hx hb dX2_empty_6 (by decide) ?_
  refine va_put (D := (dC, dI)) (ci := 2) (v := .int (nI 0)) (ty := .int) (C := RX2) (T := TX2) (N := 3) hx hb hts hinX2 tyX2 tyX2_ok nmX2 hown hK hP hD hS 0 rfl rfl 2 (by decide) lk19 (fun _ h9 => h9) rfl (tyX2_ok 2 (by decide)) rfl rfl (Nat.le_of_ble_eq_true rfl) dX2_empty_7 (fun H_2 locs hP hD hS => ?_)
  have hP : va_P (dC, dI) vwCl [(aS, .inr (2, [.ref aC, .int (-1), .int (nI 0)]))] H_2 := hP
  have hD : va_D zA [(aS, .inr (2, [.ref aC, .int (-1), .int (nI 0)]))] := hD
  refine hret 10 _ () _ _ dX2_empty_10 hS (fun t ht _ => by rw [ht]; exact hP) ?_
  trivial

set_option maxHeartbeats 800000 in
set_option maxRecDepth 100000 in
theorem kX2_renew {zl : Launch} {dC : Nat → ClassId} {dI : Nat → Nat → Nat} {cI cJ cZ cS : ClassId} {sz : Nat} (aS : Nat) (aC : Nat) (la : Int32) (le : Nat) (fC : Nat → Int32) (nl : Int32) (nn : Nat) : Met zl yX2_renew wsX2_renew ({ frames := 1, cells := 0, slots := 0, locals := 23 } : Room) (va_Pc [.ref aS, .int nl, .int (nI nn)] (kPre (dC, dI) (kT cI cJ cZ cS) [(aS, .inr (2, [.ref aC, .int la, .int (nI le)])), (aC, .inl (cI, 60, .inl fC))] sz)) (va_Qv (fun (f1 : (Nat → Int32)) => ∀ j, j < 60 → f1 j = nI 0) (fun (f1 : (Nat → Int32)) (zU : State) => va_P (dC, dI) vwCl [(aS, .inr (2, [.ref aC, .int nl, .int (nI nn)])), (aC, .inl (cI, 60, .inl f1))] zU.heap) (va_A [(aS, .inr (2, [.ref aC, .int la, .int (nI le)])), (aC, .inl (cI, 60, .inl fC))] sz)) 0 0 (va_A [(aS, .inr (2, [.ref aC, .int la, .int (nI le)])), (aC, .inl (cI, 60, .inl fC))] sz) := by
  refine kstartW_v (cc := cX2_renew) (maxL := 3) rfl rfl (Nat.le_of_ble_eq_true rfl) ?_
  intro zp ze zs zm zb zt zc za zQ zA hx hb hml hts hown hN hK hP hD hS hA hin hret ls hl
  have hl : lv_has ls 3 [(0, .ref aS), (1, .int nl), (2, .int (nI nn))] := hl
  have hinX2 : ∀ w ∈ wsX20, w ∈ wsX2_renew := fun _ h => List.mem_cons_of_mem _ (List.mem_append_right _ h)
  have lk9 := hts (.fieldLink RX2 9 "IronRumours$Sheet" "cells" "[I") (List.mem_of_getElem? (i := 3) rfl)
  have lk15 := hts (.fieldLink RX2 15 "IronRumours$Sheet" "lane" "I") (List.mem_of_getElem? (i := 1) rfl)
  have lk19 := hts (.fieldLink RX2 19 "IronRumours$Sheet" "length" "I") (List.mem_of_getElem? (i := 2) rfl)
  refine lv_aload_n hx hb dX2_renew_0 rfl (lv_at hl 0 rfl) ?_
  refine lv_iload_n hx hb dX2_renew_1 rfl (lv_at hl 1 rfl) ?_
  refine va_put (D := (dC, dI)) (ci := 2) (v := .int nl) (ty := .int) (C := RX2) (T := TX2) (N := 3) hx hb hts hinX2 tyX2 tyX2_ok nmX2 hown hK hP hD hS 0 rfl rfl 1 (by decide) lk15 (fun _ h9 => h9) rfl (tyX2_ok 1 (by decide)) rfl rfl (Nat.le_of_ble_eq_true rfl) dX2_renew_2 (fun H_1 locs hP hD hS => ?_)
  have hP : va_P (dC, dI) vwCl [(aS, .inr (2, [.ref aC, .int nl, .int (nI le)])), (aC, .inl (cI, 60, .inl fC))] H_1 := hP
  have hD : va_D zA [(aS, .inr (2, [.ref aC, .int nl, .int (nI le)])), (aC, .inl (cI, 60, .inl fC))] := hD
  refine lv_aload_n hx hb dX2_renew_5 rfl (lv_at hl 0 rfl) ?_
  refine lv_iload_n hx hb dX2_renew_6 rfl (lv_at hl 2 rfl) ?_
  refine va_put (D := (dC, dI)) (ci := 2) (v := .int (nI nn)) (ty := .int) (C := RX2) (T := TX2) (N := 3) hx hb hts hinX2 tyX2 tyX2_ok nmX2 hown hK hP hD hS 0 rfl rfl 2 (by decide) lk19 (fun _ h9 => h9) rfl (tyX2_ok 2 (by decide)) rfl rfl (Nat.le_of_ble_eq_true rfl) dX2_renew_7 (fun H_2 locs hP hD hS => ?_)
  have hP : va_P (dC, dI) vwCl [(aS, .inr (2, [.ref aC, .int nl, .int (nI nn)])), (aC, .inl (cI, 60, .inl fC))] H_2 := hP
  have hD : va_D zA [(aS, .inr (2, [.ref aC, .int nl, .int (nI nn)])), (aC, .inl (cI, 60, .inl fC))] := hD
  refine lv_aload_n hx hb dX2_renew_10 rfl (lv_at hl 0 rfl) ?_
  refine va_get (D := (dC, dI)) (ci := 2) (v := .ref aC) (C := RX2) (T := TX2) (N := 3) hx hb hts hinX2 hown hK hP 0 rfl rfl 0 (by decide) lk9 (fun _ h9 => h9) rfl dX2_renew_11 ?_
  refine lv_iconst (v := nI 0) hx hb dX2_renew_14 (by decide) ?_
  refine kc_v (wr := [(aS, .inr (2, [.ref aC, .int nl, .int (nI nn)]))]) (va_runS (As := [.ref aC, .int (nI 0)]) (rest := []) ⟨hx, hb, hml, hown, hts⟩ (kJ7_fill_53178 aC (nI 0) fC ) (va_cwS 2 hts gX2_renew_J7_fill_53178 rfl rfl rfl hvJ7_fill_53178 ⟨Nat.le_of_ble_eq_true rfl, Nat.le_of_ble_eq_true rfl⟩) (kpreS hN hK (hP.sub [1] rfl) (hD.sub [1] (by decide) rfl)) rfl rfl hl.1 rfl (lv_room (Nat.le_of_ble_eq_true rfl)) dX2_renew_15 ⟨Nat.zero_le _, Nat.zero_le _⟩) (fun _ => by simp only [List.map]) hP hD hS hA [1] [0] rfl rfl (by decide) (by decide) (by decide) (fun f_5 H_4 locs hr_3 hP hD hS => ?_)
  have hP : va_P (dC, dI) vwCl [(aS, .inr (2, [.ref aC, .int nl, .int (nI nn)])), (aC, .inl (cI, 60, .inl f_5))] H_4 := hP
  have hD : va_D zA [(aS, .inr (2, [.ref aC, .int nl, .int (nI nn)])), (aC, .inl (cI, 60, .inl f_5))] := hD
  refine hret 18 _ f_5 _ _ dX2_renew_18 hS (fun t ht _ => by rw [ht]; exact hP) ?_
  exact hr_3

set_option maxHeartbeats 800000 in
set_option maxRecDepth 100000 in
theorem kX2_write {zl : Launch} {dC : Nat → ClassId} {dI : Nat → Nat → Nat} {cI cJ cZ cS : ClassId} {sz : Nat} (aS : Nat) (aC : Nat) (la : Int32) (le : Nat) (fC : Nat → Int32) (i : Nat) (v : Int32) (hi : i < 60) : Met zl yX2_write wsX2_write ({ frames := 0, cells := 0, slots := 0, locals := 0 } : Room) (va_Pc [.ref aS, .int (nI i), .int v] (kPre (dC, dI) (kT cI cJ cZ cS) [(aS, .inr (2, [.ref aC, .int la, .int (nI le)])), (aC, .inl (cI, 60, .inl fC))] sz)) (va_Qv (fun (f1 : (Nat → Int32)) => f1 = upd fC i (kcut la v)) (fun (f1 : (Nat → Int32)) (zU : State) => va_P (dC, dI) vwCl [(aS, .inr (2, [.ref aC, .int la, .int (nI le)])), (aC, .inl (cI, 60, .inl f1))] zU.heap) (va_A [(aS, .inr (2, [.ref aC, .int la, .int (nI le)])), (aC, .inl (cI, 60, .inl fC))] sz)) 0 0 (va_A [(aS, .inr (2, [.ref aC, .int la, .int (nI le)])), (aC, .inl (cI, 60, .inl fC))] sz) := by
  refine kstartW_v (cc := cX2_write) (maxL := 3) rfl rfl (Nat.le_of_ble_eq_true rfl) ?_
  intro zp ze zs zm zb zt zc za zQ zA hx hb hml hts hown hN hK hP hD hS hA hin hret ls hl
  have hl : lv_has ls 3 [(0, .ref aS), (1, .int (nI i)), (2, .int v)] := hl
  have hinX2 : ∀ w ∈ wsX20, w ∈ wsX2_write := fun _ h => List.mem_cons_of_mem _ (List.mem_append_right _ h)
  have lk9 := hts (.fieldLink RX2 9 "IronRumours$Sheet" "cells" "[I") (List.mem_of_getElem? (i := 1) rfl)
  have lk15 := hts (.fieldLink RX2 15 "IronRumours$Sheet" "lane" "I") (List.mem_of_getElem? (i := 2) rfl)
  refine lv_aload_n hx hb dX2_write_0 rfl (lv_at hl 0 rfl) ?_
  refine va_get (D := (dC, dI)) (ci := 2) (v := .ref aC) (C := RX2) (T := TX2) (N := 3) hx hb hts hinX2 hown hK hP 0 rfl rfl 0 (by decide) lk9 (fun _ h9 => h9) rfl dX2_write_1 ?_
  refine lv_iload_n hx hb dX2_write_4 rfl (lv_at hl 1 rfl) ?_
  refine lv_aload_n hx hb dX2_write_5 rfl (lv_at hl 0 rfl) ?_
  refine va_get (D := (dC, dI)) (ci := 2) (v := .int la) (C := RX2) (T := TX2) (N := 3) hx hb hts hinX2 hown hK hP 0 rfl rfl 1 (by decide) lk15 (fun _ h9 => h9) rfl dX2_write_6 ?_
  refine lv_if_ne (tgt := 17) hx hb dX2_write_9 (by decide) (fun c9 => ?_) (fun c9 => ?_)
  · refine lv_aload_n hx hb dX2_write_17 rfl (lv_at hl 0 rfl) ?_
    refine va_get (D := (dC, dI)) (ci := 2) (v := .int la) (C := RX2) (T := TX2) (N := 3) hx hb hts hinX2 hown hK hP 0 rfl rfl 1 (by decide) lk15 (fun _ h9 => h9) rfl dX2_write_18 ?_
    refine lv_iconst (v := nI 1) hx hb dX2_write_21 (by decide) ?_
    refine lv_icmp_ne (tgt := 30) hx hb dX2_write_22 (by decide) (fun c22 => ?_) (fun c22 => ?_)
    · refine lv_iload_n hx hb dX2_write_30 rfl (lv_at hl 2 rfl) ?_
      refine k_iast hx hb hK hP hD hS 1 0 rfl rfl (n := 60) (by omega) (by decide) dX2_write_31 (fun f_1 H_2 locs ef_1 hP hD hS => ?_)
      have hP : va_P (dC, dI) vwCl [(aS, .inr (2, [.ref aC, .int la, .int (nI le)])), (aC, .inl (cI, 60, .inl f_1))] H_2 := hP
      have hD : va_D zA [(aS, .inr (2, [.ref aC, .int la, .int (nI le)])), (aC, .inl (cI, 60, .inl f_1))] := hD
      refine hret 32 _ f_1 _ _ dX2_write_32 hS (fun t ht _ => by rw [ht]; exact hP) ?_
      rw [ef_1]; unfold kcut; simp_all [nI_0]
    · refine lv_iload_n hx hb dX2_write_25 rfl (lv_at hl 2 rfl) ?_
      refine lv_i2s hx hb dX2_write_26 rfl ?_
      refine lv_goto (tgt := 31) hx hb dX2_write_27 (by decide) ?_
      refine k_iast hx hb hK hP hD hS 1 0 rfl rfl (n := 60) (by omega) (by decide) dX2_write_31 (fun f_3 H_4 locs ef_3 hP hD hS => ?_)
      have hP : va_P (dC, dI) vwCl [(aS, .inr (2, [.ref aC, .int la, .int (nI le)])), (aC, .inl (cI, 60, .inl f_3))] H_4 := hP
      have hD : va_D zA [(aS, .inr (2, [.ref aC, .int la, .int (nI le)])), (aC, .inl (cI, 60, .inl f_3))] := hD
      refine hret 32 _ f_3 _ _ dX2_write_32 hS (fun t ht _ => by rw [ht]; exact hP) ?_
      rw [ef_3]; unfold kcut; simp_all [nI_0]
  · refine lv_iload_n hx hb dX2_write_12 rfl (lv_at hl 2 rfl) ?_
    refine lv_i2b hx hb dX2_write_13 rfl ?_
    refine lv_goto (tgt := 31) hx hb dX2_write_14 (by decide) ?_
    refine k_iast hx hb hK hP hD hS 1 0 rfl rfl (n := 60) (by omega) (by decide) dX2_write_31 (fun f_5 H_6 locs ef_5 hP hD hS => ?_)
    have hP : va_P (dC, dI) vwCl [(aS, .inr (2, [.ref aC, .int la, .int (nI le)])), (aC, .inl (cI, 60, .inl f_5))] H_6 := hP
    have hD : va_D zA [(aS, .inr (2, [.ref aC, .int la, .int (nI le)])), (aC, .inl (cI, 60, .inl f_5))] := hD
    refine hret 32 _ f_5 _ _ dX2_write_32 hS (fun t ht _ => by rw [ht]; exact hP) ?_
    rw [ef_5]; unfold kcut; simp_all [nI_0]

set_option maxHeartbeats 800000 in
set_option maxRecDepth 100000 in
theorem kX2_hasCells {zl : Launch} {dC : Nat → ClassId} {dI : Nat → Nat → Nat} {cI cJ cZ cS : ClassId} (aS : Nat) (aC : Nat) (la : Int32) (le : Nat) (i : Int32) (n : Int32) (hle : le ≤ 60) : Met zl yX2_hasCells wsX2_hasCells ({ frames := 0, cells := 0, slots := 0, locals := 0 } : Room) (va_Pc [.ref aS, .int i, .int n] (rPre (dC, dI) (kT cI cJ cZ cS) [(aS, .inr (2, [.ref aC, .int la, .int (nI le)]))])) (vp_Si (fun r : Int32 => r = kb (kcells le i n))) 0 0 (fun _ => False) := by
  refine kstartR_z (cc := cX2_hasCells) (maxL := 3) rfl rfl (Nat.le_of_ble_eq_true rfl) ?_
  intro zp ze zs zm zb zt zc za zQ hx hb hml hts hown hN hK hP hret ls hl
  have hl : lv_has ls 3 [(0, .ref aS), (1, .int i), (2, .int n)] := hl
  have hinX2 : ∀ w ∈ wsX20, w ∈ wsX2_hasCells := fun _ h => List.mem_cons_of_mem _ (List.mem_append_right _ h)
  have lk19 := hts (.fieldLink RX2 19 "IronRumours$Sheet" "length" "I") (List.mem_of_getElem? (i := 1) rfl)
  refine lv_iload_n hx hb dX2_hasCells_0 rfl (lv_at hl 1 rfl) ?_
  refine lv_if_lt (tgt := 26) hx hb dX2_hasCells_1 (by decide) (fun c1 => ?_) (fun c1 => ?_)
  · refine lv_iconst (v := nI 0) hx hb dX2_hasCells_26 (by decide) ?_
    refine k_cast (y := kb false) (rfl) ?_
    refine hret 27 _ false dX2_hasCells_27 ?_
    exact congrArg kb (kcells_0 c1).symm
  · refine lv_iload_n hx hb dX2_hasCells_4 rfl (lv_at hl 1 rfl) ?_
    refine lv_aload_n hx hb dX2_hasCells_5 rfl (lv_at hl 0 rfl) ?_
    refine va_get (D := (dC, dI)) (ci := 2) (v := .int (nI le)) (C := RX2) (T := TX2) (N := 3) hx hb hts hinX2 hown hK hP 0 rfl rfl 2 (by decide) lk19 (fun _ h9 => h9) rfl dX2_hasCells_6 ?_
    refine lv_icmp_gt (tgt := 26) hx hb dX2_hasCells_9 (by decide) (fun c9 => ?_) (fun c9 => ?_)
    · refine lv_iconst (v := nI 0) hx hb dX2_hasCells_26 (by decide) ?_
      refine k_cast (y := kb false) (rfl) ?_
      refine hret 27 _ false dX2_hasCells_27 ?_
      exact congrArg kb (kcells_1 hle c9).symm
    · refine lv_iload_n hx hb dX2_hasCells_12 rfl (lv_at hl 2 rfl) ?_
      refine lv_aload_n hx hb dX2_hasCells_13 rfl (lv_at hl 0 rfl) ?_
      refine va_get (D := (dC, dI)) (ci := 2) (v := .int (nI le)) (C := RX2) (T := TX2) (N := 3) hx hb hts hinX2 hown hK hP 0 rfl rfl 2 (by decide) lk19 (fun _ h9 => h9) rfl dX2_hasCells_14 ?_
      refine lv_iload_n hx hb dX2_hasCells_17 rfl (lv_at hl 1 rfl) ?_
      refine lv_isub hx hb dX2_hasCells_18 ?_
      refine lv_icmp_gt (tgt := 26) hx hb dX2_hasCells_19 (by decide) (fun c19 => ?_) (fun c19 => ?_)
      · refine lv_iconst (v := nI 0) hx hb dX2_hasCells_26 (by decide) ?_
        refine k_cast (y := kb false) (rfl) ?_
        refine hret 27 _ false dX2_hasCells_27 ?_
        exact congrArg kb (kcells_2 hle c1 c9 c19).symm
      · refine lv_iconst (v := nI 1) hx hb dX2_hasCells_22 (by decide) ?_
        refine lv_goto (tgt := 27) hx hb dX2_hasCells_23 (by decide) ?_
        refine k_cast (y := kb true) (rfl) ?_
        refine hret 27 _ true dX2_hasCells_27 ?_
        exact congrArg kb (kcells_3 hle c1 c9 c19).symm

set_option maxHeartbeats 800000 in
set_option maxRecDepth 100000 in
theorem kX2_faultOfRow {zl : Launch} {dC : Nat → ClassId} {dI : Nat → Nat → Nat} {cI cJ cZ cS : ClassId} (aS : Nat) (aC : Nat) (la : Int32) (le : Nat) (z : Int32) : Met zl yX2_faultOfRow wsX2_faultOfRow ({ frames := 1, cells := 0, slots := 0, locals := 20 } : Room) (va_Pc [.ref aS, .int z] (rPre (dC, dI) (kT cI cJ cZ cS) [(aS, .inr (2, [.ref aC, .int la, .int (nI le)]))])) (vp_Si (fun r : Int32 => r = nI (kfrow la z))) 0 0 (fun _ => False) := by
  refine kstartR_i (cc := cX2_faultOfRow) (maxL := 2) rfl rfl (Nat.le_of_ble_eq_true rfl) ?_
  intro zp ze zs zm zb zt zc za zQ hx hb hml hts hown hN hK hP hret ls hl
  have hl : lv_has ls 2 [(0, .ref aS), (1, .int z)] := hl
  have hinX2 : ∀ w ∈ wsX20, w ∈ wsX2_faultOfRow := fun _ h => List.mem_cons_of_mem _ (List.mem_append_right _ h)
  have lk15 := hts (.fieldLink RX2 15 "IronRumours$Sheet" "lane" "I") (List.mem_of_getElem? (i := 1) rfl)
  refine lv_aload_n hx hb dX2_faultOfRow_0 rfl (lv_at hl 0 rfl) ?_
  refine rc_i (va_runV (As := []) (rest := []) ⟨hx, hb, hml, hown, hts⟩ (kX2_hasNothing aS aC la le ) (cwV 0 hts gX2_faultOfRow_X2_hasNothing rfl rfl rfl hvX2_hasNothing ⟨Nat.le_of_ble_eq_true rfl, Nat.le_of_ble_eq_true rfl⟩) (rpreV hN (q := (RX2, TX2, 3)) (ci := 2) hK (hP.sub [0] rfl) 0 rfl rfl) rfl rfl hl.1 rfl (lv_room (Nat.le_of_ble_eq_true rfl)) dX2_faultOfRow_1 ⟨Nat.zero_le _, Nat.zero_le _⟩) (fun r_1 hr_1 => ?_)
  have hr_1 : r_1 = kb (decide (la = (-1))) := hr_1
  rw [hr_1]
  refine k_if_eqb (tgt := 9) hx hb dX2_faultOfRow_4 (by decide) (fun c4 => ?_) (fun c4 => ?_)
  · refine lv_aload_n hx hb dX2_faultOfRow_9 rfl (lv_at hl 0 rfl) ?_
    refine va_get (D := (dC, dI)) (ci := 2) (v := .int la) (C := RX2) (T := TX2) (N := 3) hx hb hts hinX2 hown hK hP 0 rfl rfl 1 (by decide) lk15 (fun _ h9 => h9) rfl dX2_faultOfRow_10 ?_
    refine lv_iload_n hx hb dX2_faultOfRow_13 rfl (lv_at hl 1 rfl) ?_
    refine lv_icmp_ne (tgt := 21) hx hb dX2_faultOfRow_14 (by decide) (fun c14 => ?_) (fun c14 => ?_)
    · refine lv_iconst (v := nI 2) hx hb dX2_faultOfRow_21 (by decide) ?_
      refine hret 22 _ (nI 2) dX2_faultOfRow_22 ?_
      unfold kfrow; simp_all
    · refine lv_iconst (v := nI 0) hx hb dX2_faultOfRow_17 (by decide) ?_
      refine lv_goto (tgt := 22) hx hb dX2_faultOfRow_18 (by decide) ?_
      refine hret 22 _ (nI 0) dX2_faultOfRow_22 ?_
      unfold kfrow; simp_all
  · refine lv_iconst (v := nI 1) hx hb dX2_faultOfRow_7 (by decide) ?_
    refine hret 8 _ (nI 1) dX2_faultOfRow_8 ?_
    unfold kfrow; simp_all

set_option maxHeartbeats 800000 in
set_option maxRecDepth 100000 in
theorem kX2_faultOfCells {zl : Launch} {dC : Nat → ClassId} {dI : Nat → Nat → Nat} {cI cJ cZ cS : ClassId} (aS : Nat) (aC : Nat) (la : Int32) (le : Nat) (z : Int32) (i : Int32) (n : Int32) (hle : le ≤ 60) : Met zl yX2_faultOfCells wsX2_faultOfCells ({ frames := 2, cells := 0, slots := 0, locals := 41 } : Room) (va_Pc [.ref aS, .int z, .int i, .int n] (rPre (dC, dI) (kT cI cJ cZ cS) [(aS, .inr (2, [.ref aC, .int la, .int (nI le)]))])) (vp_Si (fun r : Int32 => r = nI (kfcells la le z i n))) 0 0 (fun _ => False) := by
  refine kstartR_i (cc := cX2_faultOfCells) (maxL := 5) rfl rfl (Nat.le_of_ble_eq_true rfl) ?_
  intro zp ze zs zm zb zt zc za zQ hx hb hml hts hown hN hK hP hret ls hl
  have hl : lv_has ls 5 [(0, .ref aS), (1, .int z), (2, .int i), (3, .int n)] := hl
  refine lv_aload_n hx hb dX2_faultOfCells_0 rfl (lv_at hl 0 rfl) ?_
  refine lv_iload_n hx hb dX2_faultOfCells_1 rfl (lv_at hl 1 rfl) ?_
  refine rc_i (va_runV (As := [.int z]) (rest := []) ⟨hx, hb, hml, hown, hts⟩ (kX2_faultOfRow aS aC la le z ) (cwV 1 hts gX2_faultOfCells_X2_faultOfRow rfl rfl rfl hvX2_faultOfRow ⟨Nat.le_of_ble_eq_true rfl, Nat.le_of_ble_eq_true rfl⟩) (rpreV hN (q := (RX2, TX2, 3)) (ci := 2) hK (hP.sub [0] rfl) 0 rfl rfl) rfl rfl hl.1 rfl (lv_room (Nat.le_of_ble_eq_true rfl)) dX2_faultOfCells_2 ⟨Nat.zero_le _, Nat.zero_le _⟩) (fun r_1 hr_1 => ?_)
  have hr_1 : r_1 = nI (kfrow la z) := hr_1
  rw [hr_1]
  refine lv_istore (lv' := [(4, .int (nI (kfrow la z))), (0, .ref aS), (1, .int z), (2, .int i), (3, .int n)]) hx hb dX2_faultOfCells_5 hl (by decide) rfl (fun ls hl => ?_)
  refine lv_iload hx hb dX2_faultOfCells_7 (lv_at hl 0 rfl) ?_
  refine k_if_eq (tgt := 15) hx hb dX2_faultOfCells_9 (by decide) (by have := kfrow_lt la z; omega) (fun c9 => ?_) (fun c9 => ?_)
  · refine lv_iload_n hx hb dX2_faultOfCells_15 rfl (lv_at hl 4 rfl) ?_
    refine lv_if_ge (tgt := 21) hx hb dX2_faultOfCells_16 (by decide) (fun c16 => ?_) (fun c16 => ?_)
    · refine lv_aload_n hx hb dX2_faultOfCells_21 rfl (lv_at hl 1 rfl) ?_
      refine lv_iload_n hx hb dX2_faultOfCells_22 rfl (lv_at hl 3 rfl) ?_
      refine lv_iload_n hx hb dX2_faultOfCells_23 rfl (lv_at hl 4 rfl) ?_
      refine rc_i (va_runV (As := [.int i, .int n]) (rest := []) ⟨hx, hb, hml, hown, hts⟩ (kX2_hasCells aS aC la le i n hle) (cwV 2 hts gX2_faultOfCells_X2_hasCells rfl rfl rfl hvX2_hasCells ⟨Nat.le_of_ble_eq_true rfl, Nat.le_of_ble_eq_true rfl⟩) (rpreV hN (q := (RX2, TX2, 3)) (ci := 2) hK (hP.sub [0] rfl) 0 rfl rfl) rfl rfl hl.1 rfl (lv_room (Nat.le_of_ble_eq_true rfl)) dX2_faultOfCells_24 ⟨Nat.zero_le _, Nat.zero_le _⟩) (fun r_2 hr_2 => ?_)
      have hr_2 : r_2 = kb (kcells le i n) := hr_2
      rw [hr_2]
      refine k_if_eqb (tgt := 34) hx hb dX2_faultOfCells_27 (by decide) (fun c27 => ?_) (fun c27 => ?_)
      · refine lv_iconst (v := nI 3) hx hb dX2_faultOfCells_34 (by decide) ?_
        refine hret 35 _ (nI 3) dX2_faultOfCells_35 ?_
        unfold kfcells; rw [if_neg (by simpa using c9), if_neg (Int32.not_lt.mpr c16), if_neg (by rw [c27]; decide)]
      · refine lv_iconst (v := nI 0) hx hb dX2_faultOfCells_30 (by decide) ?_
        refine lv_goto (tgt := 35) hx hb dX2_faultOfCells_31 (by decide) ?_
        refine hret 35 _ (nI 0) dX2_faultOfCells_35 ?_
        unfold kfcells; rw [if_neg (by simpa using c9), if_neg (Int32.not_lt.mpr c16), if_pos c27]
    · refine lv_iconst (v := nI 4) hx hb dX2_faultOfCells_19 (by decide) ?_
      refine hret 20 _ (nI 4) dX2_faultOfCells_20 ?_
      unfold kfcells; rw [if_neg (by simpa using c9), if_pos (Int32.not_le.mp c16)]
  · refine lv_iload hx hb dX2_faultOfCells_12 (lv_at hl 0 rfl) ?_
    refine hret 14 _ (nI (kfrow la z)) dX2_faultOfCells_14 ?_
    unfold kfcells; rw [if_pos c9]

set_option maxHeartbeats 800000 in
set_option maxRecDepth 100000 in
theorem kX0_isFull {zl : Launch} {dC : Nat → ClassId} {dI : Nat → Nat → Nat} {cI cJ cZ cS : ClassId} (aE : Nat) (aEp : Nat) (aEt : Nat) (aEd : Nat) (most : Nat) (many : Nat) (hmo : most ≤ 8) (hy : many ≤ 8) : Met zl yX0_isFull wsX0_isFull ({ frames := 0, cells := 0, slots := 0, locals := 0 } : Room) (va_Pc [.ref aE] (rPre (dC, dI) (kT cI cJ cZ cS) [(aE, .inr (0, [.ref aEp, .ref aEt, .ref aEd, .int (nI most), .int (nI many)]))])) (vp_Si (fun r : Int32 => r = kb (decide (most ≤ many)))) 0 0 (fun _ => False) := by
  refine kstartR_z (cc := cX0_isFull) (maxL := 1) rfl rfl (Nat.le_of_ble_eq_true rfl) ?_
  intro zp ze zs zm zb zt zc za zQ hx hb hml hts hown hN hK hP hret ls hl
  have hl : lv_has ls 1 [(0, .ref aE)] := hl
  have hinX0 : ∀ w ∈ wsX00, w ∈ wsX0_isFull := fun _ h => List.mem_cons_of_mem _ (List.mem_append_right _ h)
  have lk21 := hts (.fieldLink RX0 21 "IronRumours$Entries" "many" "I") (List.mem_of_getElem? (i := 1) rfl)
  have lk25 := hts (.fieldLink RX0 25 "IronRumours$Entries" "most" "I") (List.mem_of_getElem? (i := 2) rfl)
  refine lv_aload_n hx hb dX0_isFull_0 rfl (lv_at hl 0 rfl) ?_
  refine va_get (D := (dC, dI)) (ci := 0) (v := .int (nI many)) (C := RX0) (T := TX0) (N := 5) hx hb hts hinX0 hown hK hP 0 rfl rfl 4 (by decide) lk21 (fun _ h9 => h9) rfl dX0_isFull_1 ?_
  refine lv_aload_n hx hb dX0_isFull_4 rfl (lv_at hl 0 rfl) ?_
  refine va_get (D := (dC, dI)) (ci := 0) (v := .int (nI most)) (C := RX0) (T := TX0) (N := 5) hx hb hts hinX0 hown hK hP 0 rfl rfl 3 (by decide) lk25 (fun _ h9 => h9) rfl dX0_isFull_5 ?_
  refine k_icmp_lt (tgt := 15) hx hb dX0_isFull_8 (by decide) (by omega) (by omega) (fun c8 => ?_) (fun c8 => ?_)
  · refine lv_iconst (v := nI 0) hx hb dX0_isFull_15 (by decide) ?_
    refine k_cast (y := kb false) (rfl) ?_
    refine hret 16 _ false dX0_isFull_16 ?_
    exact congrArg kb (by first | (symm; rw [decide_eq_true_iff]; omega) | (symm; rw [decide_eq_false_iff_not]; omega))
  · refine lv_iconst (v := nI 1) hx hb dX0_isFull_11 (by decide) ?_
    refine lv_goto (tgt := 16) hx hb dX0_isFull_12 (by decide) ?_
    refine k_cast (y := kb true) (rfl) ?_
    refine hret 16 _ true dX0_isFull_16 ?_
    exact congrArg kb (by first | (symm; rw [decide_eq_true_iff]; omega) | (symm; rw [decide_eq_false_iff_not]; omega))

set_option maxHeartbeats 800000 in
set_option maxRecDepth 100000 in
theorem kX0_add {zl : Launch} {dC : Nat → ClassId} {dI : Nat → Nat → Nat} {cI cJ cZ cS : ClassId} {sz : Nat} (aE : Nat) (aEp : Nat) (aEt : Nat) (aEd : Nat) (most : Nat) (many : Nat) (fEp : Nat → Int32) (fEt : Nat → Int32) (fEd : Nat → Int32) (p : Int32) (t : Int32) (d : Int32) (hy : many < 8) : Met zl yX0_add wsX0_add ({ frames := 0, cells := 0, slots := 0, locals := 0 } : Room) (va_Pc [.ref aE, .int p, .int t, .int d] (kPre (dC, dI) (kT cI cJ cZ cS) [(aE, .inr (0, [.ref aEp, .ref aEt, .ref aEd, .int (nI most), .int (nI many)])), (aEp, .inl (cI, 8, .inl fEp)), (aEt, .inl (cI, 8, .inl fEt)), (aEd, .inl (cI, 8, .inl fEd))] sz)) (va_Qi (fun (r : Int32) => fun (u : (Nat → Int32) × (Nat → Int32) × (Nat → Int32)) => r = nI many ∧ u.1 = upd fEp many p ∧ u.2.1 = upd fEt many t ∧ u.2.2 = upd fEd many d) (fun (u : (Nat → Int32) × (Nat → Int32) × (Nat → Int32)) (zU : State) => va_P (dC, dI) vwCl [(aE, .inr (0, [.ref aEp, .ref aEt, .ref aEd, .int (nI most), .int (nI (many + 1))])), (aEp, .inl (cI, 8, .inl u.1)), (aEt, .inl (cI, 8, .inl u.2.1)), (aEd, .inl (cI, 8, .inl u.2.2))] zU.heap) (va_A [(aE, .inr (0, [.ref aEp, .ref aEt, .ref aEd, .int (nI most), .int (nI many)])), (aEp, .inl (cI, 8, .inl fEp)), (aEt, .inl (cI, 8, .inl fEt)), (aEd, .inl (cI, 8, .inl fEd))] sz)) 0 0 (va_A [(aE, .inr (0, [.ref aEp, .ref aEt, .ref aEd, .int (nI most), .int (nI many)])), (aEp, .inl (cI, 8, .inl fEp)), (aEt, .inl (cI, 8, .inl fEt)), (aEd, .inl (cI, 8, .inl fEd))] sz) := by
  refine kstartW_i (cc := cX0_add) (maxL := 5) rfl rfl (Nat.le_of_ble_eq_true rfl) ?_
  intro zp ze zs zm zb zt zc za zQ zA hx hb hml hts hown hN hK hP hD hS hA hin hret ls hl
  have hl : lv_has ls 5 [(0, .ref aE), (1, .int p), (2, .int t), (3, .int d)] := hl
  have hinX0 : ∀ w ∈ wsX00, w ∈ wsX0_add := fun _ h => List.mem_cons_of_mem _ (List.mem_append_right _ h)
  have lk9 := hts (.fieldLink RX0 9 "IronRumours$Entries" "person" "[I") (List.mem_of_getElem? (i := 2) rfl)
  have lk15 := hts (.fieldLink RX0 15 "IronRumours$Entries" "thing" "[I") (List.mem_of_getElem? (i := 3) rfl)
  have lk18 := hts (.fieldLink RX0 18 "IronRumours$Entries" "day" "[I") (List.mem_of_getElem? (i := 4) rfl)
  have lk21 := hts (.fieldLink RX0 21 "IronRumours$Entries" "many" "I") (List.mem_of_getElem? (i := 1) rfl)
  refine lv_aload_n hx hb dX0_add_0 rfl (lv_at hl 0 rfl) ?_
  refine va_get (D := (dC, dI)) (ci := 0) (v := .int (nI many)) (C := RX0) (T := TX0) (N := 5) hx hb hts hinX0 hown hK hP 0 rfl rfl 4 (by decide) lk21 (fun _ h9 => h9) rfl dX0_add_1 ?_
  refine lv_istore (lv' := [(4, .int (nI many)), (0, .ref aE), (1, .int p), (2, .int t), (3, .int d)]) hx hb dX0_add_4 hl (by decide) rfl (fun ls hl => ?_)
  refine lv_aload_n hx hb dX0_add_6 rfl (lv_at hl 1 rfl) ?_
  refine va_get (D := (dC, dI)) (ci := 0) (v := .ref aEp) (C := RX0) (T := TX0) (N := 5) hx hb hts hinX0 hown hK hP 0 rfl rfl 0 (by decide) lk9 (fun _ h9 => h9) rfl dX0_add_7 ?_
  refine lv_iload hx hb dX0_add_10 (lv_at hl 0 rfl) ?_
  refine lv_iload_n hx hb dX0_add_12 rfl (lv_at hl 2 rfl) ?_
  refine k_iast hx hb hK hP hD hS 1 0 rfl rfl (n := 8) (by omega) (by decide) dX0_add_13 (fun f_1 H_2 locs ef_1 hP hD hS => ?_)
  have hP : va_P (dC, dI) vwCl [(aE, .inr (0, [.ref aEp, .ref aEt, .ref aEd, .int (nI most), .int (nI many)])), (aEp, .inl (cI, 8, .inl f_1)), (aEt, .inl (cI, 8, .inl fEt)), (aEd, .inl (cI, 8, .inl fEd))] H_2 := hP
  have hD : va_D zA [(aE, .inr (0, [.ref aEp, .ref aEt, .ref aEd, .int (nI most), .int (nI many)])), (aEp, .inl (cI, 8, .inl f_1)), (aEt, .inl (cI, 8, .inl fEt)), (aEd, .inl (cI, 8, .inl fEd))] := hD
  refine lv_aload_n hx hb dX0_add_14 rfl (lv_at hl 1 rfl) ?_
  refine va_get (D := (dC, dI)) (ci := 0) (v := .ref aEt) (C := RX0) (T := TX0) (N := 5) hx hb hts hinX0 hown hK hP 0 rfl rfl 1 (by decide) lk15 (fun _ h9 => h9) rfl dX0_add_15 ?_
  refine lv_iload hx hb dX0_add_18 (lv_at hl 0 rfl) ?_
  refine lv_iload_n hx hb dX0_add_20 rfl (lv_at hl 3 rfl) ?_
  refine k_iast hx hb hK hP hD hS 2 0 rfl rfl (n := 8) (by omega) (by decide) dX0_add_21 (fun f_3 H_4 locs ef_3 hP hD hS => ?_)
  have hP : va_P (dC, dI) vwCl [(aE, .inr (0, [.ref aEp, .ref aEt, .ref aEd, .int (nI most), .int (nI many)])), (aEp, .inl (cI, 8, .inl f_1)), (aEt, .inl (cI, 8, .inl f_3)), (aEd, .inl (cI, 8, .inl fEd))] H_4 := hP
  have hD : va_D zA [(aE, .inr (0, [.ref aEp, .ref aEt, .ref aEd, .int (nI most), .int (nI many)])), (aEp, .inl (cI, 8, .inl f_1)), (aEt, .inl (cI, 8, .inl f_3)), (aEd, .inl (cI, 8, .inl fEd))] := hD
  refine lv_aload_n hx hb dX0_add_22 rfl (lv_at hl 1 rfl) ?_
  refine va_get (D := (dC, dI)) (ci := 0) (v := .ref aEd) (C := RX0) (T := TX0) (N := 5) hx hb hts hinX0 hown hK hP 0 rfl rfl 2 (by decide) lk18 (fun _ h9 => h9) rfl dX0_add_23 ?_
  refine lv_iload hx hb dX0_add_26 (lv_at hl 0 rfl) ?_
  refine lv_iload_n hx hb dX0_add_28 rfl (lv_at hl 4 rfl) ?_
  refine k_iast hx hb hK hP hD hS 3 0 rfl rfl (n := 8) (by omega) (by decide) dX0_add_29 (fun f_5 H_6 locs ef_5 hP hD hS => ?_)
  have hP : va_P (dC, dI) vwCl [(aE, .inr (0, [.ref aEp, .ref aEt, .ref aEd, .int (nI most), .int (nI many)])), (aEp, .inl (cI, 8, .inl f_1)), (aEt, .inl (cI, 8, .inl f_3)), (aEd, .inl (cI, 8, .inl f_5))] H_6 := hP
  have hD : va_D zA [(aE, .inr (0, [.ref aEp, .ref aEt, .ref aEd, .int (nI most), .int (nI many)])), (aEp, .inl (cI, 8, .inl f_1)), (aEt, .inl (cI, 8, .inl f_3)), (aEd, .inl (cI, 8, .inl f_5))] := hD
  refine lv_aload_n hx hb dX0_add_30 rfl (lv_at hl 1 rfl) ?_
  refine lv_iload hx hb dX0_add_31 (lv_at hl 0 rfl) ?_
  refine lv_iconst (v := nI 1) hx hb dX0_add_33 (by decide) ?_
  refine k_iadd hx hb dX0_add_34 ?_
  refine va_put (D := (dC, dI)) (ci := 0) (v := .int (nI (many + 1))) (ty := .int) (C := RX0) (T := TX0) (N := 5) hx hb hts hinX0 tyX0 tyX0_ok nmX0 hown hK hP hD hS 0 rfl rfl 4 (by decide) lk21 (fun _ h9 => h9) rfl (tyX0_ok 4 (by decide)) rfl rfl (Nat.le_of_ble_eq_true rfl) dX0_add_35 (fun H_7 locs hP hD hS => ?_)
  have hP : va_P (dC, dI) vwCl [(aE, .inr (0, [.ref aEp, .ref aEt, .ref aEd, .int (nI most), .int (nI (many + 1))])), (aEp, .inl (cI, 8, .inl f_1)), (aEt, .inl (cI, 8, .inl f_3)), (aEd, .inl (cI, 8, .inl f_5))] H_7 := hP
  have hD : va_D zA [(aE, .inr (0, [.ref aEp, .ref aEt, .ref aEd, .int (nI most), .int (nI (many + 1))])), (aEp, .inl (cI, 8, .inl f_1)), (aEt, .inl (cI, 8, .inl f_3)), (aEd, .inl (cI, 8, .inl f_5))] := hD
  refine lv_iload hx hb dX0_add_38 (lv_at hl 0 rfl) ?_
  refine hret 40 _ (nI many) (f_1, f_3, f_5) _ _ dX0_add_40 hS (fun t ht _ => by rw [ht]; exact hP) ?_
  exact ⟨rfl, ef_1, ef_3, ef_5⟩

set_option maxHeartbeats 800000 in
set_option maxRecDepth 100000 in
theorem kX0_has {zl : Launch} {dC : Nat → ClassId} {dI : Nat → Nat → Nat} {cI cJ cZ cS : ClassId} (aE : Nat) (aEp : Nat) (aEt : Nat) (aEd : Nat) (most : Nat) (many : Nat) (fEp : Nat → Int32) (fEt : Nat → Int32) (k : Nat) (p : Nat) (t : Nat) (tp : Nat → Nat) (tt : Nat → Nat) (hy : many ≤ 8) (hk : k < 14) (hp : p < 6) (ht : t < 4) (hEp : ∀ j, j < many → fEp j = nI (tp j) ∧ tp j < 6) (hEt : ∀ j, j < many → fEt j = nI (tt j) ∧ tt j < 4) : Met zl yX0_has wsX0_has ({ frames := 1, cells := 0, slots := 0, locals := 21 } : Room) (va_Pc [.ref aE, .int (nI k), .int (nI p), .int (nI t)] (rPre (dC, dI) (kT cI cJ cZ cS) [(aE, .inr (0, [.ref aEp, .ref aEt, .ref aEd, .int (nI most), .int (nI many)])), (aEp, .inl (cI, 8, .inl fEp)), (aEt, .inl (cI, 8, .inl fEt))])) (vp_Si (fun r : Int32 => r = kb (decide (k < many ∧ tp k = p ∧ tt k = t)))) 0 0 (fun _ => False) := by
  refine kstartR_z (cc := cX0_has) (maxL := 4) rfl rfl (Nat.le_of_ble_eq_true rfl) ?_
  intro zp ze zs zm zb zt zc za zQ hx hb hml hts hown hN hK hP hret ls hl
  have hl : lv_has ls 4 [(0, .ref aE), (1, .int (nI k)), (2, .int (nI p)), (3, .int (nI t))] := hl
  have hinX0 : ∀ w ∈ wsX00, w ∈ wsX0_has := fun _ h => List.mem_cons_of_mem _ (List.mem_append_right _ h)
  have lk9 := hts (.fieldLink RX0 9 "IronRumours$Entries" "person" "[I") (List.mem_of_getElem? (i := 2) rfl)
  have lk15 := hts (.fieldLink RX0 15 "IronRumours$Entries" "thing" "[I") (List.mem_of_getElem? (i := 3) rfl)
  have lk21 := hts (.fieldLink RX0 21 "IronRumours$Entries" "many" "I") (List.mem_of_getElem? (i := 1) rfl)
  refine lv_iload_n hx hb dX0_has_0 rfl (lv_at hl 1 rfl) ?_
  refine lv_aload_n hx hb dX0_has_1 rfl (lv_at hl 0 rfl) ?_
  refine va_get (D := (dC, dI)) (ci := 0) (v := .int (nI many)) (C := RX0) (T := TX0) (N := 5) hx hb hts hinX0 hown hK hP 0 rfl rfl 4 (by decide) lk21 (fun _ h9 => h9) rfl dX0_has_2 ?_
  refine rc_i (va_runSN (As := [.int (nI k), .int (nI many)]) (rest := []) ⟨hx, hb, hml, hown, hts⟩ (kX4_isBelow (nI k) many (by omega)) ⟨va_cnB 2 hts gX0_has_X4_isBelow_n28 rfl rfl rfl hN.1 (hts (.initialized RX4) (List.mem_of_getElem? (i := 5) rfl)) hvX4_isBelow ⟨Nat.le_of_ble_eq_true rfl, Nat.le_of_ble_eq_true rfl⟩, hts (.static yX4_isBelow) (List.mem_of_getElem? (i := 4) rfl), trivial⟩ (rpreS hN hK (hP.sub [] rfl)) rfl rfl hl.1 rfl (lv_room (Nat.le_of_ble_eq_true rfl)) dX0_has_5 ⟨Nat.zero_le _, Nat.zero_le _⟩) (fun r_1 hr_1 => ?_)
  have hr_1 : r_1 = kb (blw (nI k) many) := hr_1
  rw [hr_1]
  refine k_if_eqb (tgt := 35) hx hb dX0_has_8 (by decide) (fun c8 => ?_) (fun c8 => ?_)
  · refine lv_iconst (v := nI 0) hx hb dX0_has_35 (by decide) ?_
    refine k_cast (y := kb false) (rfl) ?_
    refine hret 36 _ false dX0_has_36 ?_
    refine congrArg kb ?_; symm; rw [decide_eq_false_iff_not]; rintro ⟨a, b⟩; rw [blw_t (by omega) a] at c8; cases c8
  · have hkm : k < many := by rw [blw_nI (by omega)] at c8; simpa using c8
    have h6 := (hEp k hkm).2
    have h7 := (hEt k hkm).2
    refine lv_aload_n hx hb dX0_has_11 rfl (lv_at hl 0 rfl) ?_
    refine va_get (D := (dC, dI)) (ci := 0) (v := .ref aEp) (C := RX0) (T := TX0) (N := 5) hx hb hts hinX0 hown hK hP 0 rfl rfl 0 (by decide) lk9 (fun _ h9 => h9) rfl dX0_has_12 ?_
    refine lv_iload_n hx hb dX0_has_15 rfl (lv_at hl 1 rfl) ?_
    refine k_iald hx hb hK hP 1 0 rfl rfl (n := 8) (v := nI (tp k)) (by omega) (by decide) ((hEp k hkm).1) dX0_has_16 ?_
    refine lv_iload_n hx hb dX0_has_17 rfl (lv_at hl 2 rfl) ?_
    refine k_icmp_ne (tgt := 35) hx hb dX0_has_18 (by decide) (by omega) (by omega) (fun c18 => ?_) (fun c18 => ?_)
    · refine lv_iconst (v := nI 0) hx hb dX0_has_35 (by decide) ?_
      refine k_cast (y := kb false) (rfl) ?_
      refine hret 36 _ false dX0_has_36 ?_
      refine congrArg kb ?_; symm; rw [decide_eq_false_iff_not]; omega
    · refine lv_aload_n hx hb dX0_has_21 rfl (lv_at hl 0 rfl) ?_
      refine va_get (D := (dC, dI)) (ci := 0) (v := .ref aEt) (C := RX0) (T := TX0) (N := 5) hx hb hts hinX0 hown hK hP 0 rfl rfl 1 (by decide) lk15 (fun _ h9 => h9) rfl dX0_has_22 ?_
      refine lv_iload_n hx hb dX0_has_25 rfl (lv_at hl 1 rfl) ?_
      refine k_iald hx hb hK hP 2 0 rfl rfl (n := 8) (v := nI (tt k)) (by omega) (by decide) ((hEt k hkm).1) dX0_has_26 ?_
      refine lv_iload_n hx hb dX0_has_27 rfl (lv_at hl 3 rfl) ?_
      refine k_icmp_ne (tgt := 35) hx hb dX0_has_28 (by decide) (by omega) (by omega) (fun c28 => ?_) (fun c28 => ?_)
      · refine lv_iconst (v := nI 0) hx hb dX0_has_35 (by decide) ?_
        refine k_cast (y := kb false) (rfl) ?_
        refine hret 36 _ false dX0_has_36 ?_
        refine congrArg kb ?_; symm; rw [decide_eq_false_iff_not]; omega
      · refine lv_iconst (v := nI 1) hx hb dX0_has_31 (by decide) ?_
        refine lv_goto (tgt := 36) hx hb dX0_has_32 (by decide) ?_
        refine k_cast (y := kb true) (rfl) ?_
        refine hret 36 _ true dX0_has_36 ?_
        refine congrArg kb ?_; symm; rw [decide_eq_true_iff]; omega

set_option maxHeartbeats 800000 in
set_option maxRecDepth 100000 in
theorem kX0_takeBack {zl : Launch} {dC : Nat → ClassId} {dI : Nat → Nat → Nat} {cI cJ cZ cS : ClassId} {sz : Nat} (aE : Nat) (aEp : Nat) (aEt : Nat) (aEd : Nat) (most : Nat) (many : Nat) (k : Int32) (hm : many ≤ 8) : Met zl yX0_takeBack wsX0_takeBack ({ frames := 0, cells := 0, slots := 0, locals := 0 } : Room) (va_Pc [.ref aE, .int k] (kPre (dC, dI) (kT cI cJ cZ cS) [(aE, .inr (0, [.ref aEp, .ref aEt, .ref aEd, .int (nI most), .int (nI many)]))] sz)) (va_Qi (fun (r : Int32) => fun (m1 : Nat) => r = (if blw k (many + 1) = true then nI (ktake many k) else (-2)) ∧ m1 = (if blw k (many + 1) = true then ktake many k else many)) (fun (m1 : Nat) (zU : State) => va_P (dC, dI) vwCl [(aE, .inr (0, [.ref aEp, .ref aEt, .ref aEd, .int (nI most), .int (nI m1)]))] zU.heap) (va_A [(aE, .inr (0, [.ref aEp, .ref aEt, .ref aEd, .int (nI most), .int (nI many)]))] sz)) 0 0 (va_A [(aE, .inr (0, [.ref aEp, .ref aEt, .ref aEd, .int (nI most), .int (nI many)]))] sz) := by
  refine kstartW_i (cc := cX0_takeBack) (maxL := 2) rfl rfl (Nat.le_of_ble_eq_true rfl) ?_
  intro zp ze zs zm zb zt zc za zQ zA hx hb hml hts hown hN hK hP hD hS hA hin hret ls hl
  have hl : lv_has ls 2 [(0, .ref aE), (1, .int k)] := hl
  have hinX0 : ∀ w ∈ wsX00, w ∈ wsX0_takeBack := fun _ h => List.mem_cons_of_mem _ (List.mem_append_right _ h)
  have lk21 := hts (.fieldLink RX0 21 "IronRumours$Entries" "many" "I") (List.mem_of_getElem? (i := 1) rfl)
  refine lv_iload_n hx hb dX0_takeBack_0 rfl (lv_at hl 1 rfl) ?_
  refine lv_if_lt (tgt := 12) hx hb dX0_takeBack_1 (by decide) (fun c1 => ?_) (fun c1 => ?_)
  · refine lv_bipush (v := (-2)) hx hb dX0_takeBack_12 (by decide) ?_
    refine hret 14 _ (-2) many _ _ dX0_takeBack_14 hS (fun t ht _ => by rw [ht]; exact hP) ?_
    exact ⟨by rw [blw_lt0 c1]; rfl, by rw [blw_lt0 c1]; rfl⟩
  · refine lv_iload_n hx hb dX0_takeBack_4 rfl (lv_at hl 1 rfl) ?_
    refine lv_aload_n hx hb dX0_takeBack_5 rfl (lv_at hl 0 rfl) ?_
    refine va_get (D := (dC, dI)) (ci := 0) (v := .int (nI many)) (C := RX0) (T := TX0) (N := 5) hx hb hts hinX0 hown hK hP 0 rfl rfl 4 (by decide) lk21 (fun _ h9 => h9) rfl dX0_takeBack_6 ?_
    refine lv_icmp_le (tgt := 15) hx hb dX0_takeBack_9 (by decide) (fun c9 => ?_) (fun c9 => ?_)
    · refine lv_aload_n hx hb dX0_takeBack_15 rfl (lv_at hl 0 rfl) ?_
      refine lv_dup hx hb dX0_takeBack_16 rfl ?_
      refine va_get (D := (dC, dI)) (ci := 0) (v := .int (nI many)) (C := RX0) (T := TX0) (N := 5) hx hb hts hinX0 hown hK hP 0 rfl rfl 4 (by decide) lk21 (fun _ h9 => h9) rfl dX0_takeBack_17 ?_
      refine lv_iload_n hx hb dX0_takeBack_20 rfl (lv_at hl 1 rfl) ?_
      refine lv_isub hx hb dX0_takeBack_21 ?_
      refine k_cast (y := nI (ktake many k)) ((ktake_sub hm c1 c9).1) ?_
      refine va_put (D := (dC, dI)) (ci := 0) (v := .int (nI (ktake many k))) (ty := .int) (C := RX0) (T := TX0) (N := 5) hx hb hts hinX0 tyX0 tyX0_ok nmX0 hown hK hP hD hS 0 rfl rfl 4 (by decide) lk21 (fun _ h9 => h9) rfl (tyX0_ok 4 (by decide)) rfl rfl (Nat.le_of_ble_eq_true rfl) dX0_takeBack_22 (fun H_1 locs hP hD hS => ?_)
      have hP : va_P (dC, dI) vwCl [(aE, .inr (0, [.ref aEp, .ref aEt, .ref aEd, .int (nI most), .int (nI (ktake many k))]))] H_1 := hP
      have hD : va_D zA [(aE, .inr (0, [.ref aEp, .ref aEt, .ref aEd, .int (nI most), .int (nI (ktake many k))]))] := hD
      refine lv_aload_n hx hb dX0_takeBack_25 rfl (lv_at hl 0 rfl) ?_
      refine va_get (D := (dC, dI)) (ci := 0) (v := .int (nI (ktake many k))) (C := RX0) (T := TX0) (N := 5) hx hb hts hinX0 hown hK hP 0 rfl rfl 4 (by decide) lk21 (fun _ h9 => h9) rfl dX0_takeBack_26 ?_
      refine hret 29 _ (nI (ktake many k)) (ktake many k) _ _ dX0_takeBack_29 hS (fun t ht _ => by rw [ht]; exact hP) ?_
      exact ⟨by rw [(ktake_sub hm c1 c9).2]; rfl, by rw [(ktake_sub hm c1 c9).2]; rfl⟩
    · refine lv_bipush (v := (-2)) hx hb dX0_takeBack_12 (by decide) ?_
      refine hret 14 _ (-2) many _ _ dX0_takeBack_14 hS (fun t ht _ => by rw [ht]; exact hP) ?_
      exact ⟨by rw [ktake_out hm c9]; rfl, by rw [ktake_out hm c9]; rfl⟩
