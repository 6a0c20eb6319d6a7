abbrev m_X0_init : mr_T := (yX0_init, cX0_init, 1, none, [])
theorem pl_X0_init : plainName m_X0_init.1.cls = true := by decide +kernel
abbrev m_X0_inserted : mr_T := (yX0_inserted, cX0_inserted, 1, some .int, [])
theorem pl_X0_inserted : plainName m_X0_inserted.1.cls = true := by decide +kernel
abbrev m_X0_removed : mr_T := (yX0_removed, cX0_removed, 2, some .int, [])
theorem pl_X0_removed : plainName m_X0_removed.1.cls = true := by decide +kernel
abbrev m_X0_isInsertion : mr_T := (yX0_isInsertion, cX0_isInsertion, 1, some .boolean, [])
theorem pl_X0_isInsertion : plainName m_X0_isInsertion.1.cls = true := by decide +kernel
abbrev m_X0_place : mr_T := (yX0_place, cX0_place, 1, some .int, [])
theorem pl_X0_place : plainName m_X0_place.1.cls = true := by decide +kernel
abbrev m_X0_thread : mr_T := (yX0_thread, cX0_thread, 1, some .int, [])
theorem pl_X0_thread : plainName m_X0_thread.1.cls = true := by decide +kernel
abbrev m_X0_clear : mr_T := (yX0_clear, cX0_clear, 1, none, [])
theorem pl_X0_clear : plainName m_X0_clear.1.cls = true := by decide +kernel
abbrev m_X0_size : mr_T := (yX0_size, cX0_size, 1, some .int, [])
theorem pl_X0_size : plainName m_X0_size.1.cls = true := by decide +kernel
abbrev m_X0_add : mr_T := (yX0_add, cX0_add, 2, none, [])
theorem pl_X0_add : plainName m_X0_add.1.cls = true := by decide +kernel
abbrev m_X0_takeLatest : mr_T := (yX0_takeLatest, cX0_takeLatest, 1, some .int, [])
theorem pl_X0_takeLatest : plainName m_X0_takeLatest.1.cls = true := by decide +kernel
abbrev m_X1_init : mr_T := (yX1_init, cX1_init, 2, none, [])
theorem pl_X1_init : plainName m_X1_init.1.cls = true := by decide +kernel
abbrev m_X1_forget : mr_T := (yX1_forget, cX1_forget, 1, none, [])
theorem pl_X1_forget : plainName m_X1_forget.1.cls = true := by decide +kernel
abbrev m_X1_begin : mr_T := (yX1_begin, cX1_begin, 1, none, [])
theorem pl_X1_begin : plainName m_X1_begin.1.cls = true := by decide +kernel
abbrev m_X1_isPresent : mr_T := (yX1_isPresent, cX1_isPresent, 1, some .boolean, [])
theorem pl_X1_isPresent : plainName m_X1_isPresent.1.cls = true := by decide +kernel
abbrev m_X1_size : mr_T := (yX1_size, cX1_size, 1, some .int, [])
theorem pl_X1_size : plainName m_X1_size.1.cls = true := by decide +kernel
abbrev m_X1_addStep : mr_T := (yX1_addStep, cX1_addStep, 10, none, [])
theorem pl_X1_addStep : plainName m_X1_addStep.1.cls = true := by decide +kernel
abbrev m_X1_addWriter : mr_T := (yX1_addWriter, cX1_addWriter, 2, none, [])
theorem pl_X1_addWriter : plainName m_X1_addWriter.1.cls = true := by decide +kernel
abbrev m_X1_latestWriter : mr_T := (yX1_latestWriter, cX1_latestWriter, 4, some .int, [])
theorem pl_X1_latestWriter : plainName m_X1_latestWriter.1.cls = true := by decide +kernel
abbrev m_X1_stepAt : mr_T := (yX1_stepAt, cX1_stepAt, 2, some .int, [])
theorem pl_X1_stepAt : plainName m_X1_stepAt.1.cls = true := by decide +kernel
abbrev m_X1_originOf : mr_T := (yX1_originOf, cX1_originOf, 2, some .int, [])
theorem pl_X1_originOf : plainName m_X1_originOf.1.cls = true := by decide +kernel
abbrev m_X1_writerAt : mr_T := (yX1_writerAt, cX1_writerAt, 5, some .int, [])
theorem pl_X1_writerAt : plainName m_X1_writerAt.1.cls = true := by decide +kernel
abbrev m_X2_init : mr_T := (yX2_init, cX2_init, 2, none, [])
theorem pl_X2_init : plainName m_X2_init.1.cls = true := by decide +kernel
abbrev m_X2_explore : mr_T := (yX2_explore, cX2_explore, 13, none, [])
theorem pl_X2_explore : plainName m_X2_explore.1.cls = true := by decide +kernel
abbrev m_X2_outcomes : mr_T := (yX2_outcomes, cX2_outcomes, 3, some .int, [])
theorem pl_X2_outcomes : plainName m_X2_outcomes.1.cls = true := by decide +kernel
abbrev m_X2_matches : mr_T := (yX2_matches, cX2_matches, 5, some .int, [])
theorem pl_X2_matches : plainName m_X2_matches.1.cls = true := by decide +kernel
abbrev m_X2_report : mr_T := (yX2_report, cX2_report, 5, none, [])
theorem pl_X2_report : plainName m_X2_report.1.cls = true := by decide +kernel
abbrev m_X2_findFirst : mr_T := (yX2_findFirst, cX2_findFirst, 9, some .boolean, [])
theorem pl_X2_findFirst : plainName m_X2_findFirst.1.cls = true := by decide +kernel
abbrev m_X2_leadsTo : mr_T := (yX2_leadsTo, cX2_leadsTo, 5, some .boolean, [])
theorem pl_X2_leadsTo : plainName m_X2_leadsTo.1.cls = true := by decide +kernel
abbrev m_X2_hasStepTo : mr_T := (yX2_hasStepTo, cX2_hasStepTo, 11, some .boolean, [])
theorem pl_X2_hasStepTo : plainName m_X2_hasStepTo.1.cls = true := by decide +kernel
abbrev m_X3_init : mr_T := (yX3_init, cX3_init, 1, none, [])
theorem pl_X3_init : plainName m_X3_init.1.cls = true := by decide +kernel
abbrev m_X3_isKnown : mr_T := (yX3_isKnown, cX3_isKnown, 1, some .boolean, [])
theorem pl_X3_isKnown : plainName m_X3_isKnown.1.cls = true := by decide +kernel
abbrev m_X3_forget : mr_T := (yX3_forget, cX3_forget, 1, none, [])
theorem pl_X3_forget : plainName m_X3_forget.1.cls = true := by decide +kernel
abbrev m_X3_keepFenced : mr_T := (yX3_keepFenced, cX3_keepFenced, 4, none, [])
theorem pl_X3_keepFenced : plainName m_X3_keepFenced.1.cls = true := by decide +kernel
abbrev m_X3_fencedOutcomes : mr_T := (yX3_fencedOutcomes, cX3_fencedOutcomes, 2, some .int, [])
theorem pl_X3_fencedOutcomes : plainName m_X3_fencedOutcomes.1.cls = true := by decide +kernel
abbrev m_X3_fencedMatches : mr_T := (yX3_fencedMatches, cX3_fencedMatches, 2, some .int, [])
theorem pl_X3_fencedMatches : plainName m_X3_fencedMatches.1.cls = true := by decide +kernel
abbrev m_X3_size : mr_T := (yX3_size, cX3_size, 1, some .int, [])
theorem pl_X3_size : plainName m_X3_size.1.cls = true := by decide +kernel
abbrev m_X3_states : mr_T := (yX3_states, cX3_states, 1, some .int, [])
theorem pl_X3_states : plainName m_X3_states.1.cls = true := by decide +kernel
abbrev m_X3_begin : mr_T := (yX3_begin, cX3_begin, 3, none, [])
theorem pl_X3_begin : plainName m_X3_begin.1.cls = true := by decide +kernel
abbrev m_X3_add : mr_T := (yX3_add, cX3_add, 4, none, [])
theorem pl_X3_add : plainName m_X3_add.1.cls = true := by decide +kernel
abbrev m_X3_sort : mr_T := (yX3_sort, cX3_sort, 8, none, [])
theorem pl_X3_sort : plainName m_X3_sort.1.cls = true := by decide +kernel
abbrev m_X3_codeAt : mr_T := (yX3_codeAt, cX3_codeAt, 2, some .int, [])
theorem pl_X3_codeAt : plainName m_X3_codeAt.1.cls = true := by decide +kernel
abbrev m_X3_executionsAt : mr_T := (yX3_executionsAt, cX3_executionsAt, 2, some .long, [])
theorem pl_X3_executionsAt : plainName m_X3_executionsAt.1.cls = true := by decide +kernel
abbrev m_X3_placeOf : mr_T := (yX3_placeOf, cX3_placeOf, 6, some .int, [])
theorem pl_X3_placeOf : plainName m_X3_placeOf.1.cls = true := by decide +kernel
abbrev m_X3_valuesAt : mr_T := (yX3_valuesAt, cX3_valuesAt, 4, some .int, [])
theorem pl_X3_valuesAt : plainName m_X3_valuesAt.1.cls = true := by decide +kernel
abbrev m_X4_init : mr_T := (yX4_init, cX4_init, 2, none, [])
theorem pl_X4_init : plainName m_X4_init.1.cls = true := by decide +kernel
abbrev m_X4_prepare : mr_T := (yX4_prepare, cX4_prepare, 4, none, [])
theorem pl_X4_prepare : plainName m_X4_prepare.1.cls = true := by decide +kernel
abbrev m_X4_prepareLocations : mr_T := (yX4_prepareLocations, cX4_prepareLocations, 2, none, [])
theorem pl_X4_prepareLocations : plainName m_X4_prepareLocations.1.cls = true := by decide +kernel
abbrev m_X4_prepareThreads : mr_T := (yX4_prepareThreads, cX4_prepareThreads, 3, none, [])
theorem pl_X4_prepareThreads : plainName m_X4_prepareThreads.1.cls = true := by decide +kernel
abbrev m_X4_prepareInstruction : mr_T := (yX4_prepareInstruction, cX4_prepareInstruction, 5, none, [])
theorem pl_X4_prepareInstruction : plainName m_X4_prepareInstruction.1.cls = true := by decide +kernel
abbrev m_X4_positionShift : mr_T := (yX4_positionShift, cX4_positionShift, 1, some .int, [])
theorem pl_X4_positionShift : plainName m_X4_positionShift.1.cls = true := by decide +kernel
abbrev m_X4_start : mr_T := (yX4_start, cX4_start, 1, some .long, [])
theorem pl_X4_start : plainName m_X4_start.1.cls = true := by decide +kernel
abbrev m_X4_threads : mr_T := (yX4_threads, cX4_threads, 1, some .int, [])
theorem pl_X4_threads : plainName m_X4_threads.1.cls = true := by decide +kernel
abbrev m_X4_isUnbuffered : mr_T := (yX4_isUnbuffered, cX4_isUnbuffered, 1, some .boolean, [])
theorem pl_X4_isUnbuffered : plainName m_X4_isUnbuffered.1.cls = true := by decide +kernel
abbrev m_X4_isFinal : mr_T := (yX4_isFinal, cX4_isFinal, 3, some .boolean, [])
theorem pl_X4_isFinal : plainName m_X4_isFinal.1.cls = true := by decide +kernel
abbrev m_X4_codeOf : mr_T := (yX4_codeOf, cX4_codeOf, 2, some .int, [])
theorem pl_X4_codeOf : plainName m_X4_codeOf.1.cls = true := by decide +kernel
abbrev m_X4_waitingOf : mr_T := (yX4_waitingOf, cX4_waitingOf, 5, some .int, [])
theorem pl_X4_waitingOf : plainName m_X4_waitingOf.1.cls = true := by decide +kernel
abbrev m_X4_waitingFor : mr_T := (yX4_waitingFor, cX4_waitingFor, 6, some .int, [])
theorem pl_X4_waitingFor : plainName m_X4_waitingFor.1.cls = true := by decide +kernel
abbrev m_X4_next : mr_T := (yX4_next, cX4_next, 5, some .int, [])
theorem pl_X4_next : plainName m_X4_next.1.cls = true := by decide +kernel
abbrev m_X4_committed : mr_T := (yX4_committed, cX4_committed, 9, some .int, [])
theorem pl_X4_committed : plainName m_X4_committed.1.cls = true := by decide +kernel
abbrev m_X4_forwarding : mr_T := (yX4_forwarding, cX4_forwarding, 7, some .int, [])
theorem pl_X4_forwarding : plainName m_X4_forwarding.1.cls = true := by decide +kernel
abbrev m_X4_parts : mr_T := (yX4_parts, cX4_parts, 4, some .int, [])
theorem pl_X4_parts : plainName m_X4_parts.1.cls = true := by decide +kernel
abbrev m_X4_after : mr_T := (yX4_after, cX4_after, 8, some .long, [])
theorem pl_X4_after : plainName m_X4_after.1.cls = true := by decide +kernel
abbrev m_X4_isContradicted : mr_T := (yX4_isContradicted, cX4_isContradicted, 10, some .boolean, [])
theorem pl_X4_isContradicted : plainName m_X4_isContradicted.1.cls = true := by decide +kernel
abbrev m_X4_written : mr_T := (yX4_written, cX4_written, 6, some .long, [])
theorem pl_X4_written : plainName m_X4_written.1.cls = true := by decide +kernel
abbrev m_X4_withRead : mr_T := (yX4_withRead, cX4_withRead, 6, some .long, [])
theorem pl_X4_withRead : plainName m_X4_withRead.1.cls = true := by decide +kernel
abbrev m_X4_valueOf : mr_T := (yX4_valueOf, cX4_valueOf, 4, some .int, [])
theorem pl_X4_valueOf : plainName m_X4_valueOf.1.cls = true := by decide +kernel
abbrev m_X4_withDigit : mr_T := (yX4_withDigit, cX4_withDigit, 4, some .long, [])
theorem pl_X4_withDigit : plainName m_X4_withDigit.1.cls = true := by decide +kernel
abbrev m_X5_init : mr_T := (yX5_init, cX5_init, 1, none, [])
theorem pl_X5_init : plainName m_X5_init.1.cls = true := by decide +kernel
abbrev m_X5_clear : mr_T := (yX5_clear, cX5_clear, 1, none, [])
theorem pl_X5_clear : plainName m_X5_clear.1.cls = true := by decide +kernel
abbrev m_X5_length : mr_T := (yX5_length, cX5_length, 1, some .int, [])
theorem pl_X5_length : plainName m_X5_length.1.cls = true := by decide +kernel
abbrev m_X5_byteAt : mr_T := (yX5_byteAt, cX5_byteAt, 2, some .int, [])
theorem pl_X5_byteAt : plainName m_X5_byteAt.1.cls = true := by decide +kernel
abbrev m_X5_put : mr_T := (yX5_put, cX5_put, 2, none, [])
theorem pl_X5_put : plainName m_X5_put.1.cls = true := by decide +kernel
abbrev m_X5_putText : mr_T := (yX5_putText, cX5_putText, 3, none, [])
theorem pl_X5_putText : plainName m_X5_putText.1.cls = true := by decide +kernel
abbrev m_X5_putLine : mr_T := (yX5_putLine, cX5_putLine, 2, none, [])
theorem pl_X5_putLine : plainName m_X5_putLine.1.cls = true := by decide +kernel
abbrev m_X5_putName : mr_T := (yX5_putName, cX5_putName, 5, none, [])
theorem pl_X5_putName : plainName m_X5_putName.1.cls = true := by decide +kernel
abbrev m_X5_putRegister : mr_T := (yX5_putRegister, cX5_putRegister, 2, none, [])
theorem pl_X5_putRegister : plainName m_X5_putRegister.1.cls = true := by decide +kernel
abbrev m_X5_putNumber : mr_T := (yX5_putNumber, cX5_putNumber, 2, none, [])
theorem pl_X5_putNumber : plainName m_X5_putNumber.1.cls = true := by decide +kernel
abbrev m_X5_putDeclaration : mr_T := (yX5_putDeclaration, cX5_putDeclaration, 3, none, [])
theorem pl_X5_putDeclaration : plainName m_X5_putDeclaration.1.cls = true := by decide +kernel
abbrev m_X5_putInstruction : mr_T := (yX5_putInstruction, cX5_putInstruction, 4, none, [])
theorem pl_X5_putInstruction : plainName m_X5_putInstruction.1.cls = true := by decide +kernel
abbrev m_X6_init : mr_T := (yX6_init, cX6_init, 3, none, [])
theorem pl_X6_init : plainName m_X6_init.1.cls = true := by decide +kernel
abbrev m_X6_parse : mr_T := (yX6_parse, cX6_parse, 4, some .int, [])
theorem pl_X6_parse : plainName m_X6_parse.1.cls = true := by decide +kernel
abbrev m_X6_fail : mr_T := (yX6_fail, cX6_fail, 2, some .boolean, [])
theorem pl_X6_fail : plainName m_X6_fail.1.cls = true := by decide +kernel
abbrev m_X6_expect : mr_T := (yX6_expect, cX6_expect, 2, some .boolean, [])
theorem pl_X6_expect : plainName m_X6_expect.1.cls = true := by decide +kernel
abbrev m_X6_readDeclaration : mr_T := (yX6_readDeclaration, cX6_readDeclaration, 3, some .boolean, [])
theorem pl_X6_readDeclaration : plainName m_X6_readDeclaration.1.cls = true := by decide +kernel
abbrev m_X6_isValue : mr_T := (yX6_isValue, cX6_isValue, 1, some .boolean, [])
theorem pl_X6_isValue : plainName m_X6_isValue.1.cls = true := by decide +kernel
abbrev m_X6_readThread : mr_T := (yX6_readThread, cX6_readThread, 4, some .boolean, [])
theorem pl_X6_readThread : plainName m_X6_readThread.1.cls = true := by decide +kernel
abbrev m_X6_kindOfInstruction : mr_T := (yX6_kindOfInstruction, cX6_kindOfInstruction, 2, some .int, [])
theorem pl_X6_kindOfInstruction : plainName m_X6_kindOfInstruction.1.cls = true := by decide +kernel
abbrev m_X6_readInstruction : mr_T := (yX6_readInstruction, cX6_readInstruction, 6, some .boolean, [])
theorem pl_X6_readInstruction : plainName m_X6_readInstruction.1.cls = true := by decide +kernel
abbrev m_X6_isFull : mr_T := (yX6_isFull, cX6_isFull, 3, some .boolean, [])
theorem pl_X6_isFull : plainName m_X6_isFull.1.cls = true := by decide +kernel
abbrev m_X6_readLocation : mr_T := (yX6_readLocation, cX6_readLocation, 1, some .boolean, [])
theorem pl_X6_readLocation : plainName m_X6_readLocation.1.cls = true := by decide +kernel
abbrev m_X6_readTarget : mr_T := (yX6_readTarget, cX6_readTarget, 2, some .boolean, [])
theorem pl_X6_readTarget : plainName m_X6_readTarget.1.cls = true := by decide +kernel
abbrev m_X6_readValue : mr_T := (yX6_readValue, cX6_readValue, 2, some .boolean, [])
theorem pl_X6_readValue : plainName m_X6_readValue.1.cls = true := by decide +kernel
abbrev m_X6_readCondition : mr_T := (yX6_readCondition, cX6_readCondition, 5, some .boolean, [])
theorem pl_X6_readCondition : plainName m_X6_readCondition.1.cls = true := by decide +kernel
abbrev m_X6_isPassed : mr_T := (yX6_isPassed, cX6_isPassed, 3, some .boolean, [])
theorem pl_X6_isPassed : plainName m_X6_isPassed.1.cls = true := by decide +kernel
abbrev m_X6_readUnit : mr_T := (yX6_readUnit, cX6_readUnit, 3, some .boolean, [])
theorem pl_X6_readUnit : plainName m_X6_readUnit.1.cls = true := by decide +kernel
abbrev m_X6_readNegated : mr_T := (yX6_readNegated, cX6_readNegated, 3, some .boolean, [])
theorem pl_X6_readNegated : plainName m_X6_readNegated.1.cls = true := by decide +kernel
abbrev m_X6_readComparison : mr_T := (yX6_readComparison, cX6_readComparison, 3, some .boolean, [])
theorem pl_X6_readComparison : plainName m_X6_readComparison.1.cls = true := by decide +kernel
abbrev m_X6_isTargetOf : mr_T := (yX6_isTargetOf, cX6_isTargetOf, 2, some .boolean, [])
theorem pl_X6_isTargetOf : plainName m_X6_isTargetOf.1.cls = true := by decide +kernel
abbrev m_X7_init : mr_T := (yX7_init, cX7_init, 1, none, [])
theorem pl_X7_init : plainName m_X7_init.1.cls = true := by decide +kernel
abbrev m_X7_clear : mr_T := (yX7_clear, cX7_clear, 1, none, [])
theorem pl_X7_clear : plainName m_X7_clear.1.cls = true := by decide +kernel
abbrev m_X7_copyFrom : mr_T := (yX7_copyFrom, cX7_copyFrom, 2, none, [])
theorem pl_X7_copyFrom : plainName m_X7_copyFrom.1.cls = true := by decide +kernel
abbrev m_X7_locations : mr_T := (yX7_locations, cX7_locations, 1, some .int, [])
theorem pl_X7_locations : plainName m_X7_locations.1.cls = true := by decide +kernel
abbrev m_X7_threads : mr_T := (yX7_threads, cX7_threads, 1, some .int, [])
theorem pl_X7_threads : plainName m_X7_threads.1.cls = true := by decide +kernel
abbrev m_X7_size : mr_T := (yX7_size, cX7_size, 1, some .int, [])
theorem pl_X7_size : plainName m_X7_size.1.cls = true := by decide +kernel
abbrev m_X7_addLocation : mr_T := (yX7_addLocation, cX7_addLocation, 4, none, [])
theorem pl_X7_addLocation : plainName m_X7_addLocation.1.cls = true := by decide +kernel
abbrev m_X7_locationNamed : mr_T := (yX7_locationNamed, cX7_locationNamed, 4, some .int, [])
theorem pl_X7_locationNamed : plainName m_X7_locationNamed.1.cls = true := by decide +kernel
abbrev m_X7_nameOf : mr_T := (yX7_nameOf, cX7_nameOf, 2, some .long, [])
theorem pl_X7_nameOf : plainName m_X7_nameOf.1.cls = true := by decide +kernel
abbrev m_X7_initialOf : mr_T := (yX7_initialOf, cX7_initialOf, 2, some .int, [])
theorem pl_X7_initialOf : plainName m_X7_initialOf.1.cls = true := by decide +kernel
abbrev m_X7_addThread : mr_T := (yX7_addThread, cX7_addThread, 1, none, [])
theorem pl_X7_addThread : plainName m_X7_addThread.1.cls = true := by decide +kernel
abbrev m_X7_addInstruction : mr_T := (yX7_addInstruction, cX7_addInstruction, 6, none, [])
theorem pl_X7_addInstruction : plainName m_X7_addInstruction.1.cls = true := by decide +kernel
abbrev m_X7_setProperty : mr_T := (yX7_setProperty, cX7_setProperty, 5, none, [])
theorem pl_X7_setProperty : plainName m_X7_setProperty.1.cls = true := by decide +kernel
abbrev m_X7_property : mr_T := (yX7_property, cX7_property, 5, some .int, [])
theorem pl_X7_property : plainName m_X7_property.1.cls = true := by decide +kernel
abbrev m_X7_putFence : mr_T := (yX7_putFence, cX7_putFence, 4, none, [])
theorem pl_X7_putFence : plainName m_X7_putFence.1.cls = true := by decide +kernel
abbrev m_X7_dropInstruction : mr_T := (yX7_dropInstruction, cX7_dropInstruction, 3, none, [])
theorem pl_X7_dropInstruction : plainName m_X7_dropInstruction.1.cls = true := by decide +kernel
abbrev m_X7_sizeOf : mr_T := (yX7_sizeOf, cX7_sizeOf, 4, some .int, [])
theorem pl_X7_sizeOf : plainName m_X7_sizeOf.1.cls = true := by decide +kernel
abbrev m_X7_accessesOf : mr_T := (yX7_accessesOf, cX7_accessesOf, 4, some .int, [])
theorem pl_X7_accessesOf : plainName m_X7_accessesOf.1.cls = true := by decide +kernel
abbrev m_X7_accesses : mr_T := (yX7_accesses, cX7_accesses, 3, some .int, [])
theorem pl_X7_accesses : plainName m_X7_accesses.1.cls = true := by decide +kernel
abbrev m_X7_isTarget : mr_T := (yX7_isTarget, cX7_isTarget, 4, some .boolean, [])
theorem pl_X7_isTarget : plainName m_X7_isTarget.1.cls = true := by decide +kernel
abbrev m_X7_codeBits : mr_T := (yX7_codeBits, cX7_codeBits, 1, some .int, [])
theorem pl_X7_codeBits : plainName m_X7_codeBits.1.cls = true := by decide +kernel
abbrev m_X7_registerShift : mr_T := (yX7_registerShift, cX7_registerShift, 3, some .int, [])
theorem pl_X7_registerShift : plainName m_X7_registerShift.1.cls = true := by decide +kernel
abbrev m_X7_locationShift : mr_T := (yX7_locationShift, cX7_locationShift, 2, some .int, [])
theorem pl_X7_locationShift : plainName m_X7_locationShift.1.cls = true := by decide +kernel
abbrev m_X7_comparison : mr_T := (yX7_comparison, cX7_comparison, 3, some .int, [])
theorem pl_X7_comparison : plainName m_X7_comparison.1.cls = true := by decide +kernel
abbrev m_X7_addToCondition : mr_T := (yX7_addToCondition, cX7_addToCondition, 2, none, [])
theorem pl_X7_addToCondition : plainName m_X7_addToCondition.1.cls = true := by decide +kernel
abbrev m_X7_isFulfilledBy : mr_T := (yX7_isFulfilledBy, cX7_isFulfilledBy, 8, some .boolean, [])
theorem pl_X7_isFulfilledBy : plainName m_X7_isFulfilledBy.1.cls = true := by decide +kernel
abbrev m_X7_waits : mr_T := (yX7_waits, cX7_waits, 4, some .int, [])
theorem pl_X7_waits : plainName m_X7_waits.1.cls = true := by decide +kernel
abbrev m_X7_waitsWith : mr_T := (yX7_waitsWith, cX7_waitsWith, 5, some .int, [])
theorem pl_X7_waitsWith : plainName m_X7_waitsWith.1.cls = true := by decide +kernel
abbrev m_X7_isGapBefore : mr_T := (yX7_isGapBefore, cX7_isGapBefore, 2, some .boolean, [])
theorem pl_X7_isGapBefore : plainName m_X7_isGapBefore.1.cls = true := by decide +kernel
abbrev m_X7_gaps : mr_T := (yX7_gaps, cX7_gaps, 3, some .int, [])
theorem pl_X7_gaps : plainName m_X7_gaps.1.cls = true := by decide +kernel
abbrev m_X7_placeOfGap : mr_T := (yX7_placeOfGap, cX7_placeOfGap, 4, some .int, [])
theorem pl_X7_placeOfGap : plainName m_X7_placeOfGap.1.cls = true := by decide +kernel
abbrev m_X7_mostStoresBuffered : mr_T := (yX7_mostStoresBuffered, cX7_mostStoresBuffered, 6, some .int, [])
theorem pl_X7_mostStoresBuffered : plainName m_X7_mostStoresBuffered.1.cls = true := by decide +kernel
abbrev m_X7_isRacing : mr_T := (yX7_isRacing, cX7_isRacing, 8, some .boolean, [])
theorem pl_X7_isRacing : plainName m_X7_isRacing.1.cls = true := by decide +kernel
abbrev m_X9_init : mr_T := (yX9_init, cX9_init, 1, none, [])
theorem pl_X9_init : plainName m_X9_init.1.cls = true := by decide +kernel
abbrev m_X9_clear : mr_T := (yX9_clear, cX9_clear, 1, none, [])
theorem pl_X9_clear : plainName m_X9_clear.1.cls = true := by decide +kernel
abbrev m_X9_useSlots : mr_T := (yX9_useSlots, cX9_useSlots, 3, none, [])
theorem pl_X9_useSlots : plainName m_X9_useSlots.1.cls = true := by decide +kernel
abbrev m_X9_size : mr_T := (yX9_size, cX9_size, 1, some .int, [])
theorem pl_X9_size : plainName m_X9_size.1.cls = true := by decide +kernel
abbrev m_X9_stateAt : mr_T := (yX9_stateAt, cX9_stateAt, 2, some .long, [])
theorem pl_X9_stateAt : plainName m_X9_stateAt.1.cls = true := by decide +kernel
abbrev m_X9_waysAt : mr_T := (yX9_waysAt, cX9_waysAt, 2, some .long, [])
theorem pl_X9_waysAt : plainName m_X9_waysAt.1.cls = true := by decide +kernel
abbrev m_X9_slotOf : mr_T := (yX9_slotOf, cX9_slotOf, 7, some .int, [])
theorem pl_X9_slotOf : plainName m_X9_slotOf.1.cls = true := by decide +kernel
abbrev m_X9_contains : mr_T := (yX9_contains, cX9_contains, 4, some .boolean, [])
theorem pl_X9_contains : plainName m_X9_contains.1.cls = true := by decide +kernel
abbrev m_X9_add : mr_T := (yX9_add, cX9_add, 7, none, [])
theorem pl_X9_add : plainName m_X9_add.1.cls = true := by decide +kernel
abbrev m_X9_makeRoom : mr_T := (yX9_makeRoom, cX9_makeRoom, 3, none, [])
theorem pl_X9_makeRoom : plainName m_X9_makeRoom.1.cls = true := by decide +kernel
abbrev m_X10_init : mr_T := (yX10_init, cX10_init, 2, none, [])
theorem pl_X10_init : plainName m_X10_init.1.cls = true := by decide +kernel
abbrev m_X10_split : mr_T := (yX10_split, cX10_split, 4, none, [])
theorem pl_X10_split : plainName m_X10_split.1.cls = true := by decide +kernel
abbrev m_X10_skipBlanks : mr_T := (yX10_skipBlanks, cX10_skipBlanks, 1, none, [])
theorem pl_X10_skipBlanks : plainName m_X10_skipBlanks.1.cls = true := by decide +kernel
abbrev m_X10_scanToken : mr_T := (yX10_scanToken, cX10_scanToken, 3, some (.object "LitmusTester$Sign"), [])
theorem pl_X10_scanToken : plainName m_X10_scanToken.1.cls = true := by decide +kernel
abbrev m_X10_scanWord : mr_T := (yX10_scanWord, cX10_scanWord, 8, some (.object "LitmusTester$Sign"), [])
theorem pl_X10_scanWord : plainName m_X10_scanWord.1.cls = true := by decide +kernel
abbrev m_X10_scanNumber : mr_T := (yX10_scanNumber, cX10_scanNumber, 4, some (.object "LitmusTester$Sign"), [])
theorem pl_X10_scanNumber : plainName m_X10_scanNumber.1.cls = true := by decide +kernel
abbrev m_X10_setValue : mr_T := (yX10_setValue, cX10_setValue, 4, none, [])
theorem pl_X10_setValue : plainName m_X10_setValue.1.cls = true := by decide +kernel
abbrev m_X10_fixedSign : mr_T := (yX10_fixedSign, cX10_fixedSign, 9, some (.object "LitmusTester$Sign"), [])
theorem pl_X10_fixedSign : plainName m_X10_fixedSign.1.cls = true := by decide +kernel
abbrev m_X10_isLetter : mr_T := (yX10_isLetter, cX10_isLetter, 1, some .boolean, [])
theorem pl_X10_isLetter : plainName m_X10_isLetter.1.cls = true := by decide +kernel
abbrev m_X10_isDigit : mr_T := (yX10_isDigit, cX10_isDigit, 1, some .boolean, [])
theorem pl_X10_isDigit : plainName m_X10_isDigit.1.cls = true := by decide +kernel
abbrev m_X10_withLetter : mr_T := (yX10_withLetter, cX10_withLetter, 3, some .long, [])
theorem pl_X10_withLetter : plainName m_X10_withLetter.1.cls = true := by decide +kernel
abbrev m_X10_sign : mr_T := (yX10_sign, cX10_sign, 2, some (.object "LitmusTester$Sign"), [])
theorem pl_X10_sign : plainName m_X10_sign.1.cls = true := by decide +kernel
abbrev m_X10_start : mr_T := (yX10_start, cX10_start, 1, some .int, [])
theorem pl_X10_start : plainName m_X10_start.1.cls = true := by decide +kernel
abbrev m_X10_name : mr_T := (yX10_name, cX10_name, 1, some .long, [])
theorem pl_X10_name : plainName m_X10_name.1.cls = true := by decide +kernel
abbrev m_X10_number : mr_T := (yX10_number, cX10_number, 1, some .int, [])
theorem pl_X10_number : plainName m_X10_number.1.cls = true := by decide +kernel
abbrev m_X10_advance : mr_T := (yX10_advance, cX10_advance, 1, none, [])
theorem pl_X10_advance : plainName m_X10_advance.1.cls = true := by decide +kernel
abbrev m_X11_init : mr_T := (yX11_init, cX11_init, 1, none, [])
theorem pl_X11_init : plainName m_X11_init.1.cls = true := by decide +kernel
abbrev m_X11_append : mr_T := (yX11_append, cX11_append, 6, some .int, [])
theorem pl_X11_append : plainName m_X11_append.1.cls = true := by decide +kernel
abbrev m_X11_putFourBytes : mr_T := (yX11_putFourBytes, cX11_putFourBytes, 3, none, [])
theorem pl_X11_putFourBytes : plainName m_X11_putFourBytes.1.cls = true := by decide +kernel
abbrev m_X11_truncate : mr_T := (yX11_truncate, cX11_truncate, 2, some .boolean, [])
theorem pl_X11_truncate : plainName m_X11_truncate.1.cls = true := by decide +kernel
abbrev m_X11_bufferLength : mr_T := (yX11_bufferLength, cX11_bufferLength, 1, some .int, [])
theorem pl_X11_bufferLength : plainName m_X11_bufferLength.1.cls = true := by decide +kernel
abbrev m_X11_define : mr_T := (yX11_define, cX11_define, 3, some .int, [])
theorem pl_X11_define : plainName m_X11_define.1.cls = true := by decide +kernel
abbrev m_X11_forgetWhatWasFound : mr_T := (yX11_forgetWhatWasFound, cX11_forgetWhatWasFound, 1, none, [])
theorem pl_X11_forgetWhatWasFound : plainName m_X11_forgetWhatWasFound.1.cls = true := by decide +kernel
abbrev m_X11_threadCount : mr_T := (yX11_threadCount, cX11_threadCount, 1, some .int, [])
theorem pl_X11_threadCount : plainName m_X11_threadCount.1.cls = true := by decide +kernel
abbrev m_X11_locationCount : mr_T := (yX11_locationCount, cX11_locationCount, 1, some .int, [])
theorem pl_X11_locationCount : plainName m_X11_locationCount.1.cls = true := by decide +kernel
abbrev m_X11_instructionCount : mr_T := (yX11_instructionCount, cX11_instructionCount, 1, some .int, [])
theorem pl_X11_instructionCount : plainName m_X11_instructionCount.1.cls = true := by decide +kernel
abbrev m_X11_instruction : mr_T := (yX11_instruction, cX11_instruction, 3, some .int, [])
theorem pl_X11_instruction : plainName m_X11_instruction.1.cls = true := by decide +kernel
abbrev m_X11_requireInstruction : mr_T := (yX11_requireInstruction, cX11_requireInstruction, 2, none, [])
theorem pl_X11_requireInstruction : plainName m_X11_requireInstruction.1.cls = true := by decide +kernel
abbrev m_X11_findLocation : mr_T := (yX11_findLocation, cX11_findLocation, 5, some .int, [])
theorem pl_X11_findLocation : plainName m_X11_findLocation.1.cls = true := by decide +kernel
abbrev m_X11_write : mr_T := (yX11_write, cX11_write, 4, some .int, [])
theorem pl_X11_write : plainName m_X11_write.1.cls = true := by decide +kernel
abbrev m_X11_outputByte : mr_T := (yX11_outputByte, cX11_outputByte, 2, some .int, [])
theorem pl_X11_outputByte : plainName m_X11_outputByte.1.cls = true := by decide +kernel
abbrev m_X11_requireModel : mr_T := (yX11_requireModel, cX11_requireModel, 2, none, [])
theorem pl_X11_requireModel : plainName m_X11_requireModel.1.cls = true := by decide +kernel
abbrev m_X11_kept : mr_T := (yX11_kept, cX11_kept, 2, some (.object "LitmusTester$Findings"), [])
theorem pl_X11_kept : plainName m_X11_kept.1.cls = true := by decide +kernel
abbrev m_X11_findings : mr_T := (yX11_findings, cX11_findings, 3, some (.object "LitmusTester$Findings"), [])
theorem pl_X11_findings : plainName m_X11_findings.1.cls = true := by decide +kernel
abbrev m_X11_outcomeCount : mr_T := (yX11_outcomeCount, cX11_outcomeCount, 2, some .int, [])
theorem pl_X11_outcomeCount : plainName m_X11_outcomeCount.1.cls = true := by decide +kernel
abbrev m_X11_outcome : mr_T := (yX11_outcome, cX11_outcome, 3, some .int, [])
theorem pl_X11_outcome : plainName m_X11_outcome.1.cls = true := by decide +kernel
abbrev m_X11_hasOutcome : mr_T := (yX11_hasOutcome, cX11_hasOutcome, 3, some .boolean, [])
theorem pl_X11_hasOutcome : plainName m_X11_hasOutcome.1.cls = true := by decide +kernel
abbrev m_X11_extraOutcomes : mr_T := (yX11_extraOutcomes, cX11_extraOutcomes, 7, some .int, [])
theorem pl_X11_extraOutcomes : plainName m_X11_extraOutcomes.1.cls = true := by decide +kernel
abbrev m_X11_fulfils : mr_T := (yX11_fulfils, cX11_fulfils, 2, some .boolean, [])
theorem pl_X11_fulfils : plainName m_X11_fulfils.1.cls = true := by decide +kernel
abbrev m_X11_matchCount : mr_T := (yX11_matchCount, cX11_matchCount, 5, some .int, [])
theorem pl_X11_matchCount : plainName m_X11_matchCount.1.cls = true := by decide +kernel
abbrev m_X11_firstMatch : mr_T := (yX11_firstMatch, cX11_firstMatch, 4, some .int, [])
theorem pl_X11_firstMatch : plainName m_X11_firstMatch.1.cls = true := by decide +kernel
abbrev m_X11_stateCount : mr_T := (yX11_stateCount, cX11_stateCount, 2, some .int, [])
theorem pl_X11_stateCount : plainName m_X11_stateCount.1.cls = true := by decide +kernel
abbrev m_X11_executionCount : mr_T := (yX11_executionCount, cX11_executionCount, 6, some .long, [])
theorem pl_X11_executionCount : plainName m_X11_executionCount.1.cls = true := by decide +kernel
abbrev m_X11_executionsWith : mr_T := (yX11_executionsWith, cX11_executionsWith, 4, some .long, [])
theorem pl_X11_executionsWith : plainName m_X11_executionsWith.1.cls = true := by decide +kernel
abbrev m_X11_readValues : mr_T := (yX11_readValues, cX11_readValues, 4, some .int, [])
theorem pl_X11_readValues : plainName m_X11_readValues.1.cls = true := by decide +kernel
abbrev m_X11_finalValues : mr_T := (yX11_finalValues, cX11_finalValues, 3, some .int, [])
theorem pl_X11_finalValues : plainName m_X11_finalValues.1.cls = true := by decide +kernel
abbrev m_X11_requireLocation : mr_T := (yX11_requireLocation, cX11_requireLocation, 2, none, [])
theorem pl_X11_requireLocation : plainName m_X11_requireLocation.1.cls = true := by decide +kernel
abbrev m_X11_greatestBuffer : mr_T := (yX11_greatestBuffer, cX11_greatestBuffer, 3, some .int, [])
theorem pl_X11_greatestBuffer : plainName m_X11_greatestBuffer.1.cls = true := by decide +kernel
abbrev m_X11_isRace : mr_T := (yX11_isRace, cX11_isRace, 3, some .boolean, [])
theorem pl_X11_isRace : plainName m_X11_isRace.1.cls = true := by decide +kernel
abbrev m_X11_raceCount : mr_T := (yX11_raceCount, cX11_raceCount, 4, some .int, [])
theorem pl_X11_raceCount : plainName m_X11_raceCount.1.cls = true := by decide +kernel
abbrev m_X11_gapCount : mr_T := (yX11_gapCount, cX11_gapCount, 1, some .int, [])
theorem pl_X11_gapCount : plainName m_X11_gapCount.1.cls = true := by decide +kernel
abbrev m_X11_gapBefore : mr_T := (yX11_gapBefore, cX11_gapBefore, 2, some .int, [])
theorem pl_X11_gapBefore : plainName m_X11_gapBefore.1.cls = true := by decide +kernel
abbrev m_X11_matchesWith : mr_T := (yX11_matchesWith, cX11_matchesWith, 3, some .int, [])
theorem pl_X11_matchesWith : plainName m_X11_matchesWith.1.cls = true := by decide +kernel
abbrev m_X11_tryFences : mr_T := (yX11_tryFences, cX11_tryFences, 4, none, [])
theorem pl_X11_tryFences : plainName m_X11_tryFences.1.cls = true := by decide +kernel
abbrev m_X11_fewestFences : mr_T := (yX11_fewestFences, cX11_fewestFences, 2, some .int, [])
theorem pl_X11_fewestFences : plainName m_X11_fewestFences.1.cls = true := by decide +kernel
abbrev m_X11_repairingFences : mr_T := (yX11_repairingFences, cX11_repairingFences, 2, some .int, [])
theorem pl_X11_repairingFences : plainName m_X11_repairingFences.1.cls = true := by decide +kernel
abbrev m_X11_smallestSet : mr_T := (yX11_smallestSet, cX11_smallestSet, 8, some .int, [])
theorem pl_X11_smallestSet : plainName m_X11_smallestSet.1.cls = true := by decide +kernel
abbrev m_X11_isFenceNeeded : mr_T := (yX11_isFenceNeeded, cX11_isFenceNeeded, 4, some .boolean, [])
theorem pl_X11_isFenceNeeded : plainName m_X11_isFenceNeeded.1.cls = true := by decide +kernel
abbrev m_X11_requireFence : mr_T := (yX11_requireFence, cX11_requireFence, 2, none, [])
theorem pl_X11_requireFence : plainName m_X11_requireFence.1.cls = true := by decide +kernel
abbrev m_X11_insertFence : mr_T := (yX11_insertFence, cX11_insertFence, 4, some .int, [])
theorem pl_X11_insertFence : plainName m_X11_insertFence.1.cls = true := by decide +kernel
abbrev m_X11_removeFence : mr_T := (yX11_removeFence, cX11_removeFence, 2, some .int, [])
theorem pl_X11_removeFence : plainName m_X11_removeFence.1.cls = true := by decide +kernel
abbrev m_X11_undo : mr_T := (yX11_undo, cX11_undo, 2, some .int, [])
theorem pl_X11_undo : plainName m_X11_undo.1.cls = true := by decide +kernel
abbrev m_X11_explain : mr_T := (yX11_explain, cX11_explain, 4, some .int, [])
theorem pl_X11_explain : plainName m_X11_explain.1.cls = true := by decide +kernel
abbrev m_X11_step : mr_T := (yX11_step, cX11_step, 2, some .int, [])
theorem pl_X11_step : plainName m_X11_step.1.cls = true := by decide +kernel
abbrev m_X11_readsFrom : mr_T := (yX11_readsFrom, cX11_readsFrom, 2, some .int, [])
theorem pl_X11_readsFrom : plainName m_X11_readsFrom.1.cls = true := by decide +kernel
abbrev m_X11_writtenBy : mr_T := (yX11_writtenBy, cX11_writtenBy, 3, some .int, [])
theorem pl_X11_writtenBy : plainName m_X11_writtenBy.1.cls = true := by decide +kernel
abbrev m_X12_thrown : mr_T := (yX12_thrown, cX12_thrown, 1, some .int, [])
theorem pl_X12_thrown : plainName m_X12_thrown.1.cls = true := by decide +kernel
abbrev m_X12_isIn : mr_T := (yX12_isIn, cX12_isIn, 3, some .boolean, [])
theorem pl_X12_isIn : plainName m_X12_isIn.1.cls = true := by decide +kernel
abbrev m_X12_fails : mr_T := (yX12_fails, cX12_fails, 4, some .boolean, [])
theorem pl_X12_fails : plainName m_X12_fails.1.cls = true := by decide +kernel
abbrev m_X12_init : mr_T := (yX12_init, cX12_init, 1, none, [])
theorem pl_X12_init : plainName m_X12_init.1.cls = true := by decide +kernel
abbrev m_X12_adds : mr_T := (yX12_adds, cX12_adds, 3, none, [])
theorem pl_X12_adds : plainName m_X12_adds.1.cls = true := by decide +kernel
abbrev m_X12_append : mr_T := (yX12_append, cX12_append, 6, some .int, [])
theorem pl_X12_append : plainName m_X12_append.1.cls = true := by decide +kernel
abbrev m_X12_truncate : mr_T := (yX12_truncate, cX12_truncate, 2, some .boolean, [])
theorem pl_X12_truncate : plainName m_X12_truncate.1.cls = true := by decide +kernel
abbrev m_X12_bufferLength : mr_T := (yX12_bufferLength, cX12_bufferLength, 1, some .int, [])
theorem pl_X12_bufferLength : plainName m_X12_bufferLength.1.cls = true := by decide +kernel
abbrev m_X12_at : mr_T := (yX12_at, cX12_at, 3, some .int, [])
theorem pl_X12_at : plainName m_X12_at.1.cls = true := by decide +kernel
abbrev m_X12_of : mr_T := (yX12_of, cX12_of, 3, some .int, [])
theorem pl_X12_of : plainName m_X12_of.1.cls = true := by decide +kernel
abbrev m_X12_isInstruction : mr_T := (yX12_isInstruction, cX12_isInstruction, 2, some .boolean, [])
theorem pl_X12_isInstruction : plainName m_X12_isInstruction.1.cls = true := by decide +kernel
abbrev m_X12_remembers : mr_T := (yX12_remembers, cX12_remembers, 2, none, [])
theorem pl_X12_remembers : plainName m_X12_remembers.1.cls = true := by decide +kernel
abbrev m_X12_undo : mr_T := (yX12_undo, cX12_undo, 2, some .int, [])
theorem pl_X12_undo : plainName m_X12_undo.1.cls = true := by decide +kernel
abbrev m_X12_byteAt : mr_T := (yX12_byteAt, cX12_byteAt, 2, some .int, [])
theorem pl_X12_byteAt : plainName m_X12_byteAt.1.cls = true := by decide +kernel
abbrev m_X12_isSmall : mr_T := (yX12_isSmall, cX12_isSmall, 1, some .boolean, [])
theorem pl_X12_isSmall : plainName m_X12_isSmall.1.cls = true := by decide +kernel
abbrev m_X12_isDigit : mr_T := (yX12_isDigit, cX12_isDigit, 1, some .boolean, [])
theorem pl_X12_isDigit : plainName m_X12_isDigit.1.cls = true := by decide +kernel
abbrev m_X12_starts : mr_T := (yX12_starts, cX12_starts, 1, none, [])
theorem pl_X12_starts : plainName m_X12_starts.1.cls = true := by decide +kernel
abbrev m_X12_goWord : mr_T := (yX12_goWord, cX12_goWord, 3, none, [])
theorem pl_X12_goWord : plainName m_X12_goWord.1.cls = true := by decide +kernel
abbrev m_X12_go : mr_T := (yX12_go, cX12_go, 2, none, [])
theorem pl_X12_go : plainName m_X12_go.1.cls = true := by decide +kernel
abbrev m_X12_isSymbol : mr_T := (yX12_isSymbol, cX12_isSymbol, 2, some .boolean, [])
theorem pl_X12_isSymbol : plainName m_X12_isSymbol.1.cls = true := by decide +kernel
abbrev m_X12_isText : mr_T := (yX12_isText, cX12_isText, 3, some .boolean, [])
theorem pl_X12_isText : plainName m_X12_isText.1.cls = true := by decide +kernel
abbrev m_X12_kindWord : mr_T := (yX12_kindWord, cX12_kindWord, 1, some (.object "java/lang/String"), [])
theorem pl_X12_kindWord : plainName m_X12_kindWord.1.cls = true := by decide +kernel
abbrev m_X12_kindNow : mr_T := (yX12_kindNow, cX12_kindNow, 2, some .int, [])
theorem pl_X12_kindNow : plainName m_X12_kindNow.1.cls = true := by decide +kernel
abbrev m_X12_isName : mr_T := (yX12_isName, cX12_isName, 1, some .boolean, [])
theorem pl_X12_isName : plainName m_X12_isName.1.cls = true := by decide +kernel
abbrev m_X12_bad : mr_T := (yX12_bad, cX12_bad, 2, some .boolean, [])
theorem pl_X12_bad : plainName m_X12_bad.1.cls = true := by decide +kernel
abbrev m_X12_ends : mr_T := (yX12_ends, cX12_ends, 1, some .boolean, [])
theorem pl_X12_ends : plainName m_X12_ends.1.cls = true := by decide +kernel
abbrev m_X12_named : mr_T := (yX12_named, cX12_named, 6, some .int, [])
theorem pl_X12_named : plainName m_X12_named.1.cls = true := by decide +kernel
abbrev m_X12_copies : mr_T := (yX12_copies, cX12_copies, 2, none, [])
theorem pl_X12_copies : plainName m_X12_copies.1.cls = true := by decide +kernel
abbrev m_X12_findLocation : mr_T := (yX12_findLocation, cX12_findLocation, 1, some .int, [])
theorem pl_X12_findLocation : plainName m_X12_findLocation.1.cls = true := by decide +kernel
abbrev m_X12_readsSmall : mr_T := (yX12_readsSmall, cX12_readsSmall, 2, some .boolean, [])
theorem pl_X12_readsSmall : plainName m_X12_readsSmall.1.cls = true := by decide +kernel
abbrev m_X12_readsLocation : mr_T := (yX12_readsLocation, cX12_readsLocation, 3, some .boolean, [])
theorem pl_X12_readsLocation : plainName m_X12_readsLocation.1.cls = true := by decide +kernel
abbrev m_X12_isTarget : mr_T := (yX12_isTarget, cX12_isTarget, 4, some .boolean, [])
theorem pl_X12_isTarget : plainName m_X12_isTarget.1.cls = true := by decide +kernel
abbrev m_X12_instructionsOf : mr_T := (yX12_instructionsOf, cX12_instructionsOf, 5, some .int, [])
theorem pl_X12_instructionsOf : plainName m_X12_instructionsOf.1.cls = true := by decide +kernel
abbrev m_X12_readsTarget : mr_T := (yX12_readsTarget, cX12_readsTarget, 3, some .boolean, [])
theorem pl_X12_readsTarget : plainName m_X12_readsTarget.1.cls = true := by decide +kernel
abbrev m_X12_readsPlace : mr_T := (yX12_readsPlace, cX12_readsPlace, 2, some .boolean, [])
theorem pl_X12_readsPlace : plainName m_X12_readsPlace.1.cls = true := by decide +kernel
abbrev m_X12_readsValue : mr_T := (yX12_readsValue, cX12_readsValue, 3, some .boolean, [])
theorem pl_X12_readsValue : plainName m_X12_readsValue.1.cls = true := by decide +kernel
abbrev m_X12_readsInstruction : mr_T := (yX12_readsInstruction, cX12_readsInstruction, 6, some .boolean, [])
theorem pl_X12_readsInstruction : plainName m_X12_readsInstruction.1.cls = true := by decide +kernel
abbrev m_X12_readsThread : mr_T := (yX12_readsThread, cX12_readsThread, 1, some .boolean, [])
theorem pl_X12_readsThread : plainName m_X12_readsThread.1.cls = true := by decide +kernel
abbrev m_X12_tells : mr_T := (yX12_tells, cX12_tells, 2, none, [])
theorem pl_X12_tells : plainName m_X12_tells.1.cls = true := by decide +kernel
abbrev m_X12_readsCompare : mr_T := (yX12_readsCompare, cX12_readsCompare, 3, some .boolean, [])
theorem pl_X12_readsCompare : plainName m_X12_readsCompare.1.cls = true := by decide +kernel
abbrev m_X12_readsUnit : mr_T := (yX12_readsUnit, cX12_readsUnit, 8, some .boolean, [])
theorem pl_X12_readsUnit : plainName m_X12_readsUnit.1.cls = true := by decide +kernel
abbrev m_X12_readsBoth : mr_T := (yX12_readsBoth, cX12_readsBoth, 2, some .boolean, [])
theorem pl_X12_readsBoth : plainName m_X12_readsBoth.1.cls = true := by decide +kernel
abbrev m_X12_readsCondition : mr_T := (yX12_readsCondition, cX12_readsCondition, 2, some .boolean, [])
theorem pl_X12_readsCondition : plainName m_X12_readsCondition.1.cls = true := by decide +kernel
abbrev m_X12_readsProgram : mr_T := (yX12_readsProgram, cX12_readsProgram, 1, some .boolean, [])
theorem pl_X12_readsProgram : plainName m_X12_readsProgram.1.cls = true := by decide +kernel
abbrev m_X12_define : mr_T := (yX12_define, cX12_define, 2, some .int, [])
theorem pl_X12_define : plainName m_X12_define.1.cls = true := by decide +kernel
abbrev m_X12_threadCount : mr_T := (yX12_threadCount, cX12_threadCount, 1, some .int, [])
theorem pl_X12_threadCount : plainName m_X12_threadCount.1.cls = true := by decide +kernel
abbrev m_X12_locationCount : mr_T := (yX12_locationCount, cX12_locationCount, 1, some .int, [])
theorem pl_X12_locationCount : plainName m_X12_locationCount.1.cls = true := by decide +kernel
abbrev m_X12_instructionCount : mr_T := (yX12_instructionCount, cX12_instructionCount, 1, some .int, [])
theorem pl_X12_instructionCount : plainName m_X12_instructionCount.1.cls = true := by decide +kernel
abbrev m_X12_instruction : mr_T := (yX12_instruction, cX12_instruction, 3, some .int, [])
theorem pl_X12_instruction : plainName m_X12_instruction.1.cls = true := by decide +kernel
abbrev m_X12_isGap : mr_T := (yX12_isGap, cX12_isGap, 2, some .boolean, [])
theorem pl_X12_isGap : plainName m_X12_isGap.1.cls = true := by decide +kernel
abbrev m_X12_lays : mr_T := (yX12_lays, cX12_lays, 3, none, [])
theorem pl_X12_lays : plainName m_X12_lays.1.cls = true := by decide +kernel
abbrev m_X12_laysProgram : mr_T := (yX12_laysProgram, cX12_laysProgram, 8, none, [])
theorem pl_X12_laysProgram : plainName m_X12_laysProgram.1.cls = true := by decide +kernel
abbrev m_X12_nextOf : mr_T := (yX12_nextOf, cX12_nextOf, 3, some .int, [])
theorem pl_X12_nextOf : plainName m_X12_nextOf.1.cls = true := by decide +kernel
abbrev m_X12_registerOf : mr_T := (yX12_registerOf, cX12_registerOf, 4, some .int, [])
theorem pl_X12_registerOf : plainName m_X12_registerOf.1.cls = true := by decide +kernel
abbrev m_X12_memoryOf : mr_T := (yX12_memoryOf, cX12_memoryOf, 3, some .int, [])
theorem pl_X12_memoryOf : plainName m_X12_memoryOf.1.cls = true := by decide +kernel
abbrev m_X12_isWaiting : mr_T := (yX12_isWaiting, cX12_isWaiting, 3, some .boolean, [])
theorem pl_X12_isWaiting : plainName m_X12_isWaiting.1.cls = true := by decide +kernel
abbrev m_X12_with : mr_T := (yX12_with, cX12_with, 4, some .long, [])
theorem pl_X12_with : plainName m_X12_with.1.cls = true := by decide +kernel
abbrev m_X12_valueOf : mr_T := (yX12_valueOf, cX12_valueOf, 5, some .int, [])
theorem pl_X12_valueOf : plainName m_X12_valueOf.1.cls = true := by decide +kernel
abbrev m_X12_waiting : mr_T := (yX12_waiting, cX12_waiting, 8, some .int, [])
theorem pl_X12_waiting : plainName m_X12_waiting.1.cls = true := by decide +kernel
abbrev m_X12_waitingMany : mr_T := (yX12_waitingMany, cX12_waitingMany, 6, some .int, [])
theorem pl_X12_waitingMany : plainName m_X12_waitingMany.1.cls = true := by decide +kernel
abbrev m_X12_canStep : mr_T := (yX12_canStep, cX12_canStep, 5, some .boolean, [])
theorem pl_X12_canStep : plainName m_X12_canStep.1.cls = true := by decide +kernel
abbrev m_X12_canCommit : mr_T := (yX12_canCommit, cX12_canCommit, 6, some .boolean, [])
theorem pl_X12_canCommit : plainName m_X12_canCommit.1.cls = true := by decide +kernel
abbrev m_X12_canExecute : mr_T := (yX12_canExecute, cX12_canExecute, 7, some .boolean, [])
theorem pl_X12_canExecute : plainName m_X12_canExecute.1.cls = true := by decide +kernel
abbrev m_X12_firstState : mr_T := (yX12_firstState, cX12_firstState, 4, some .long, [])
theorem pl_X12_firstState : plainName m_X12_firstState.1.cls = true := by decide +kernel
abbrev m_X12_isFinal : mr_T := (yX12_isFinal, cX12_isFinal, 4, some .boolean, [])
theorem pl_X12_isFinal : plainName m_X12_isFinal.1.cls = true := by decide +kernel
abbrev m_X12_codeOf : mr_T := (yX12_codeOf, cX12_codeOf, 5, some .int, [])
theorem pl_X12_codeOf : plainName m_X12_codeOf.1.cls = true := by decide +kernel
abbrev m_X12_slotOf : mr_T := (yX12_slotOf, cX12_slotOf, 6, some .int, [])
theorem pl_X12_slotOf : plainName m_X12_slotOf.1.cls = true := by decide +kernel
abbrev m_X12_stateOf : mr_T := (yX12_stateOf, cX12_stateOf, 4, some .int, [])
theorem pl_X12_stateOf : plainName m_X12_stateOf.1.cls = true := by decide +kernel
abbrev m_X12_explores : mr_T := (yX12_explores, cX12_explores, 6, none, [])
theorem pl_X12_explores : plainName m_X12_explores.1.cls = true := by decide +kernel
abbrev m_X12_sinks : mr_T := (yX12_sinks, cX12_sinks, 6, none, [])
theorem pl_X12_sinks : plainName m_X12_sinks.1.cls = true := by decide +kernel
abbrev m_X12_swaps : mr_T := (yX12_swaps, cX12_swaps, 6, none, [])
theorem pl_X12_swaps : plainName m_X12_swaps.1.cls = true := by decide +kernel
abbrev m_X12_gathers : mr_T := (yX12_gathers, cX12_gathers, 3, none, [])
theorem pl_X12_gathers : plainName m_X12_gathers.1.cls = true := by decide +kernel
abbrev m_X12_isNoModel : mr_T := (yX12_isNoModel, cX12_isNoModel, 2, some .boolean, [])
theorem pl_X12_isNoModel : plainName m_X12_isNoModel.1.cls = true := by decide +kernel
abbrev m_X12_outcomesOf : mr_T := (yX12_outcomesOf, cX12_outcomesOf, 2, none, [])
theorem pl_X12_outcomesOf : plainName m_X12_outcomesOf.1.cls = true := by decide +kernel
abbrev m_X12_find : mr_T := (yX12_find, cX12_find, 3, some .int, [])
theorem pl_X12_find : plainName m_X12_find.1.cls = true := by decide +kernel
abbrev m_X12_outcomeCount : mr_T := (yX12_outcomeCount, cX12_outcomeCount, 2, some .int, [])
theorem pl_X12_outcomeCount : plainName m_X12_outcomeCount.1.cls = true := by decide +kernel
abbrev m_X12_outcome : mr_T := (yX12_outcome, cX12_outcome, 3, some .int, [])
theorem pl_X12_outcome : plainName m_X12_outcome.1.cls = true := by decide +kernel
abbrev m_X12_hasOutcome : mr_T := (yX12_hasOutcome, cX12_hasOutcome, 3, some .boolean, [])
theorem pl_X12_hasOutcome : plainName m_X12_hasOutcome.1.cls = true := by decide +kernel
abbrev m_X12_keepsOthers : mr_T := (yX12_keepsOthers, cX12_keepsOthers, 2, none, [])
theorem pl_X12_keepsOthers : plainName m_X12_keepsOthers.1.cls = true := by decide +kernel
abbrev m_X12_extraOutcomes : mr_T := (yX12_extraOutcomes, cX12_extraOutcomes, 6, some .int, [])
theorem pl_X12_extraOutcomes : plainName m_X12_extraOutcomes.1.cls = true := by decide +kernel
abbrev m_X12_digits : mr_T := (yX12_digits, cX12_digits, 1, some .int, [])
theorem pl_X12_digits : plainName m_X12_digits.1.cls = true := by decide +kernel
abbrev m_X12_digitOf : mr_T := (yX12_digitOf, cX12_digitOf, 3, some .int, [])
theorem pl_X12_digitOf : plainName m_X12_digitOf.1.cls = true := by decide +kernel
abbrev m_X12_holds : mr_T := (yX12_holds, cX12_holds, 6, some .boolean, [])
theorem pl_X12_holds : plainName m_X12_holds.1.cls = true := by decide +kernel
abbrev m_X12_fulfils : mr_T := (yX12_fulfils, cX12_fulfils, 2, some .boolean, [])
theorem pl_X12_fulfils : plainName m_X12_fulfils.1.cls = true := by decide +kernel
abbrev m_X12_matches : mr_T := (yX12_matches, cX12_matches, 3, some .int, [])
theorem pl_X12_matches : plainName m_X12_matches.1.cls = true := by decide +kernel
abbrev m_X12_matchCount : mr_T := (yX12_matchCount, cX12_matchCount, 2, some .int, [])
theorem pl_X12_matchCount : plainName m_X12_matchCount.1.cls = true := by decide +kernel
abbrev m_X12_firstMatch : mr_T := (yX12_firstMatch, cX12_firstMatch, 3, some .int, [])
theorem pl_X12_firstMatch : plainName m_X12_firstMatch.1.cls = true := by decide +kernel
abbrev m_X12_stateCount : mr_T := (yX12_stateCount, cX12_stateCount, 2, some .int, [])
theorem pl_X12_stateCount : plainName m_X12_stateCount.1.cls = true := by decide +kernel
abbrev m_X12_executionCount : mr_T := (yX12_executionCount, cX12_executionCount, 5, some .long, [])
theorem pl_X12_executionCount : plainName m_X12_executionCount.1.cls = true := by decide +kernel
abbrev m_X12_executionsWith : mr_T := (yX12_executionsWith, cX12_executionsWith, 3, some .long, [])
theorem pl_X12_executionsWith : plainName m_X12_executionsWith.1.cls = true := by decide +kernel
abbrev m_X12_reads : mr_T := (yX12_reads, cX12_reads, 2, some .boolean, [])
theorem pl_X12_reads : plainName m_X12_reads.1.cls = true := by decide +kernel
abbrev m_X12_laidAt : mr_T := (yX12_laidAt, cX12_laidAt, 3, some .int, [])
theorem pl_X12_laidAt : plainName m_X12_laidAt.1.cls = true := by decide +kernel
abbrev m_X12_readValues : mr_T := (yX12_readValues, cX12_readValues, 7, some .int, [])
theorem pl_X12_readValues : plainName m_X12_readValues.1.cls = true := by decide +kernel
abbrev m_X12_finalValues : mr_T := (yX12_finalValues, cX12_finalValues, 5, some .int, [])
theorem pl_X12_finalValues : plainName m_X12_finalValues.1.cls = true := by decide +kernel
abbrev m_X12_greatestBuffer : mr_T := (yX12_greatestBuffer, cX12_greatestBuffer, 5, some .int, [])
theorem pl_X12_greatestBuffer : plainName m_X12_greatestBuffer.1.cls = true := by decide +kernel
abbrev m_X12_conflict : mr_T := (yX12_conflict, cX12_conflict, 3, some .boolean, [])
theorem pl_X12_conflict : plainName m_X12_conflict.1.cls = true := by decide +kernel
abbrev m_X12_race : mr_T := (yX12_race, cX12_race, 8, some .boolean, [])
theorem pl_X12_race : plainName m_X12_race.1.cls = true := by decide +kernel
abbrev m_X12_isRace : mr_T := (yX12_isRace, cX12_isRace, 3, some .boolean, [])
theorem pl_X12_isRace : plainName m_X12_isRace.1.cls = true := by decide +kernel
abbrev m_X12_raceCount : mr_T := (yX12_raceCount, cX12_raceCount, 4, some .int, [])
theorem pl_X12_raceCount : plainName m_X12_raceCount.1.cls = true := by decide +kernel
abbrev m_X12_gapMany : mr_T := (yX12_gapMany, cX12_gapMany, 3, some .int, [])
theorem pl_X12_gapMany : plainName m_X12_gapMany.1.cls = true := by decide +kernel
abbrev m_X12_gapAt : mr_T := (yX12_gapAt, cX12_gapAt, 4, some .int, [])
theorem pl_X12_gapAt : plainName m_X12_gapAt.1.cls = true := by decide +kernel
abbrev m_X12_gapCount : mr_T := (yX12_gapCount, cX12_gapCount, 1, some .int, [])
theorem pl_X12_gapCount : plainName m_X12_gapCount.1.cls = true := by decide +kernel
abbrev m_X12_gapBefore : mr_T := (yX12_gapBefore, cX12_gapBefore, 2, some .int, [])
theorem pl_X12_gapBefore : plainName m_X12_gapBefore.1.cls = true := by decide +kernel
abbrev m_X12_matchesWith : mr_T := (yX12_matchesWith, cX12_matchesWith, 3, some .int, [])
theorem pl_X12_matchesWith : plainName m_X12_matchesWith.1.cls = true := by decide +kernel
abbrev m_X12_bitsOf : mr_T := (yX12_bitsOf, cX12_bitsOf, 3, some .int, [])
theorem pl_X12_bitsOf : plainName m_X12_bitsOf.1.cls = true := by decide +kernel
abbrev m_X12_areOthers : mr_T := (yX12_areOthers, cX12_areOthers, 2, some .boolean, [])
theorem pl_X12_areOthers : plainName m_X12_areOthers.1.cls = true := by decide +kernel
abbrev m_X12_fewest : mr_T := (yX12_fewest, cX12_fewest, 6, some .int, [])
theorem pl_X12_fewest : plainName m_X12_fewest.1.cls = true := by decide +kernel
abbrev m_X12_fewestFences : mr_T := (yX12_fewestFences, cX12_fewestFences, 2, some .int, [])
theorem pl_X12_fewestFences : plainName m_X12_fewestFences.1.cls = true := by decide +kernel
abbrev m_X12_repairingFences : mr_T := (yX12_repairingFences, cX12_repairingFences, 2, some .int, [])
theorem pl_X12_repairingFences : plainName m_X12_repairingFences.1.cls = true := by decide +kernel
abbrev m_X12_isFence : mr_T := (yX12_isFence, cX12_isFence, 2, some .boolean, [])
theorem pl_X12_isFence : plainName m_X12_isFence.1.cls = true := by decide +kernel
abbrev m_X12_isFenceNeeded : mr_T := (yX12_isFenceNeeded, cX12_isFenceNeeded, 3, some .boolean, [])
theorem pl_X12_isFenceNeeded : plainName m_X12_isFenceNeeded.1.cls = true := by decide +kernel
abbrev m_X12_insertFence : mr_T := (yX12_insertFence, cX12_insertFence, 6, some .int, [])
theorem pl_X12_insertFence : plainName m_X12_insertFence.1.cls = true := by decide +kernel
abbrev m_X12_removeFence : mr_T := (yX12_removeFence, cX12_removeFence, 3, some .int, [])
theorem pl_X12_removeFence : plainName m_X12_removeFence.1.cls = true := by decide +kernel
abbrev m_X12_writes : mr_T := (yX12_writes, cX12_writes, 3, none, [])
theorem pl_X12_writes : plainName m_X12_writes.1.cls = true := by decide +kernel
abbrev m_X12_takes : mr_T := (yX12_takes, cX12_takes, 4, none, [])
theorem pl_X12_takes : plainName m_X12_takes.1.cls = true := by decide +kernel
abbrev m_X12_leastStep : mr_T := (yX12_leastStep, cX12_leastStep, 5, some .long, [])
theorem pl_X12_leastStep : plainName m_X12_leastStep.1.cls = true := by decide +kernel
abbrev m_X12_explain : mr_T := (yX12_explain, cX12_explain, 6, some .int, [])
theorem pl_X12_explain : plainName m_X12_explain.1.cls = true := by decide +kernel
abbrev m_X12_step : mr_T := (yX12_step, cX12_step, 2, some .int, [])
theorem pl_X12_step : plainName m_X12_step.1.cls = true := by decide +kernel
abbrev m_X12_readsFrom : mr_T := (yX12_readsFrom, cX12_readsFrom, 2, some .int, [])
theorem pl_X12_readsFrom : plainName m_X12_readsFrom.1.cls = true := by decide +kernel
abbrev m_X12_writtenBy : mr_T := (yX12_writtenBy, cX12_writtenBy, 3, some .int, [])
theorem pl_X12_writtenBy : plainName m_X12_writtenBy.1.cls = true := by decide +kernel
abbrev m_X12_prints : mr_T := (yX12_prints, cX12_prints, 2, none, [])
theorem pl_X12_prints : plainName m_X12_prints.1.cls = true := by decide +kernel
abbrev m_X12_printsText : mr_T := (yX12_printsText, cX12_printsText, 3, none, [])
theorem pl_X12_printsText : plainName m_X12_printsText.1.cls = true := by decide +kernel
abbrev m_X12_printsName : mr_T := (yX12_printsName, cX12_printsName, 3, none, [])
theorem pl_X12_printsName : plainName m_X12_printsName.1.cls = true := by decide +kernel
abbrev m_X12_printsRegister : mr_T := (yX12_printsRegister, cX12_printsRegister, 2, none, [])
theorem pl_X12_printsRegister : plainName m_X12_printsRegister.1.cls = true := by decide +kernel
abbrev m_X12_printsInstruction : mr_T := (yX12_printsInstruction, cX12_printsInstruction, 2, none, [])
theorem pl_X12_printsInstruction : plainName m_X12_printsInstruction.1.cls = true := by decide +kernel
abbrev m_X12_write : mr_T := (yX12_write, cX12_write, 3, some .int, [])
theorem pl_X12_write : plainName m_X12_write.1.cls = true := by decide +kernel
abbrev m_X12_outputByte : mr_T := (yX12_outputByte, cX12_outputByte, 2, some .int, [])
theorem pl_X12_outputByte : plainName m_X12_outputByte.1.cls = true := by decide +kernel
abbrev m_J6_bitCount_0f7a4 : mr_T := (yJ6_bitCount_0f7a4, cJ6_bitCount_0f7a4, 1, some .int, [])
theorem pl_J6_bitCount_0f7a4 : plainName m_J6_bitCount_0f7a4.1.cls = true := by decide +kernel
abbrev m_J9_max_7cf53 : mr_T := (yJ9_max_7cf53, cJ9_max_7cf53, 2, some .int, [])
abbrev m_J9_min_7cf53 : mr_T := (yJ9_min_7cf53, cJ9_min_7cf53, 2, some .int, [])
abbrev m_J0_length_8abf5 : mr_T := (yJ0_length_8abf5, cJ0_length_8abf5, 1, some .int, [])
theorem pl_J0_length_8abf5 : plainName m_J0_length_8abf5.1.cls = true := by decide +kernel
abbrev m_J0_charAt_5068e : mr_T := (yJ0_charAt_5068e, cJ0_charAt_5068e, 2, some .char, [])
theorem pl_J0_charAt_5068e : plainName m_J0_charAt_5068e.1.cls = true := by decide +kernel
abbrev m_J0_coder_7d493 : mr_T := (yJ0_coder_7d493, cJ0_coder_7d493, 1, some .byte, [])
theorem pl_J0_coder_7d493 : plainName m_J0_coder_7d493.1.cls = true := by decide +kernel
abbrev m_J0_isLatin1_aae02 : mr_T := (yJ0_isLatin1_aae02, cJ0_isLatin1_aae02, 1, some .boolean, [])
theorem pl_J0_isLatin1_aae02 : plainName m_J0_isLatin1_aae02.1.cls = true := by decide +kernel
abbrev m_J0_checkIndex_df160 : mr_T := (yJ0_checkIndex_df160, cJ0_checkIndex_df160, 2, none, [])
theorem pl_J0_checkIndex_df160 : plainName m_J0_checkIndex_df160.1.cls = true := by decide +kernel
abbrev m_J1_charAt_3b067 : mr_T := (yJ1_charAt_3b067, cJ1_charAt_3b067, 2, some .char, [])
theorem pl_J1_charAt_3b067 : plainName m_J1_charAt_3b067.1.cls = true := by decide +kernel
abbrev m_J2_getChar_3b067 : mr_T := (yJ2_getChar_3b067, cJ2_getChar_3b067, 2, some .char, [])
theorem pl_J2_getChar_3b067 : plainName m_J2_getChar_3b067.1.cls = true := by decide +kernel
abbrev m_J2_length_9d52b : mr_T := (yJ2_length_9d52b, cJ2_length_9d52b, 1, some .int, [])
theorem pl_J2_length_9d52b : plainName m_J2_length_9d52b.1.cls = true := by decide +kernel
abbrev m_J2_charAt_3b067 : mr_T := (yJ2_charAt_3b067, cJ2_charAt_3b067, 2, some .char, [])
theorem pl_J2_charAt_3b067 : plainName m_J2_charAt_3b067.1.cls = true := by decide +kernel
abbrev m_J2_checkIndex_2214a : mr_T := (yJ2_checkIndex_2214a, cJ2_checkIndex_2214a, 2, none, [])
theorem pl_J2_checkIndex_2214a : plainName m_J2_checkIndex_2214a.1.cls = true := by decide +kernel
abbrev m_J7_fill_53178 : mr_T := (yJ7_fill_53178, cJ7_fill_53178, 4, none, [])
theorem pl_J7_fill_53178 : plainName m_J7_fill_53178.1.cls = true := by decide +kernel
abbrev m_J7_copyOf_c38d5 : mr_T := (yJ7_copyOf_c38d5, cJ7_copyOf_c38d5, 3, some (.array .long), [])
theorem pl_J7_copyOf_c38d5 : plainName m_J7_copyOf_c38d5.1.cls = true := by decide +kernel
abbrev m_J3_checkIndex_8e157 : mr_T := (yJ3_checkIndex_8e157, cJ3_checkIndex_8e157, 3, some .int, [])
theorem pl_J3_checkIndex_8e157 : plainName m_J3_checkIndex_8e157.1.cls = true := by decide +kernel
abbrev m_L_instruction : mr_T := (yL_instruction, cL_instruction, 5, some .int, [(0, 10, 13, 13)])
theorem pl_L_instruction : plainName m_L_instruction.1.cls = true := by decide +kernel
abbrev m_L_outputByte : mr_T := (yL_outputByte, cL_outputByte, 4, some .int, [(0, 9, 12, 19)])
theorem pl_L_outputByte : plainName m_L_outputByte.1.cls = true := by decide +kernel
abbrev m_L_outcomeCount : mr_T := (yL_outcomeCount, cL_outcomeCount, 4, some .int, [(0, 9, 12, 24)])
theorem pl_L_outcomeCount : plainName m_L_outcomeCount.1.cls = true := by decide +kernel
abbrev m_L_outcome : mr_T := (yL_outcome, cL_outcome, 5, some .int, [(0, 10, 13, 24)])
theorem pl_L_outcome : plainName m_L_outcome.1.cls = true := by decide +kernel
abbrev m_L_hasOutcome : mr_T := (yL_hasOutcome, cL_hasOutcome, 5, some .int, [(0, 17, 20, 24)])
theorem pl_L_hasOutcome : plainName m_L_hasOutcome.1.cls = true := by decide +kernel
abbrev m_L_extraOutcomes : mr_T := (yL_extraOutcomes, cL_extraOutcomes, 5, some .int, [(0, 10, 13, 24)])
theorem pl_L_extraOutcomes : plainName m_L_extraOutcomes.1.cls = true := by decide +kernel
abbrev m_L_matchCount : mr_T := (yL_matchCount, cL_matchCount, 4, some .int, [(0, 9, 12, 24)])
theorem pl_L_matchCount : plainName m_L_matchCount.1.cls = true := by decide +kernel
abbrev m_L_firstMatch : mr_T := (yL_firstMatch, cL_firstMatch, 4, some .int, [(0, 9, 12, 24)])
theorem pl_L_firstMatch : plainName m_L_firstMatch.1.cls = true := by decide +kernel
abbrev m_L_stateCount : mr_T := (yL_stateCount, cL_stateCount, 4, some .int, [(0, 9, 12, 24)])
theorem pl_L_stateCount : plainName m_L_stateCount.1.cls = true := by decide +kernel
abbrev m_L_executionCount : mr_T := (yL_executionCount, cL_executionCount, 4, some .int, [(0, 8, 11, 24)])
theorem pl_L_executionCount : plainName m_L_executionCount.1.cls = true := by decide +kernel
abbrev m_L_executionsWith : mr_T := (yL_executionsWith, cL_executionsWith, 5, some .int, [(0, 9, 12, 24)])
theorem pl_L_executionsWith : plainName m_L_executionsWith.1.cls = true := by decide +kernel
abbrev m_L_readValues : mr_T := (yL_readValues, cL_readValues, 5, some .int, [(0, 10, 13, 24), (0, 10, 17, 13), (0, 10, 21, 19)])
theorem pl_L_readValues : plainName m_L_readValues.1.cls = true := by decide +kernel
abbrev m_L_finalValues : mr_T := (yL_finalValues, cL_finalValues, 5, some .int, [(0, 10, 13, 24), (0, 10, 17, 13)])
theorem pl_L_finalValues : plainName m_L_finalValues.1.cls = true := by decide +kernel
abbrev m_L_greatestBuffer : mr_T := (yL_greatestBuffer, cL_greatestBuffer, 5, some .int, [(0, 10, 13, 24), (0, 10, 17, 13)])
theorem pl_L_greatestBuffer : plainName m_L_greatestBuffer.1.cls = true := by decide +kernel
abbrev m_L_isRace : mr_T := (yL_isRace, cL_isRace, 5, some .int, [(0, 17, 20, 13)])
theorem pl_L_isRace : plainName m_L_isRace.1.cls = true := by decide +kernel
abbrev m_L_matchesWith : mr_T := (yL_matchesWith, cL_matchesWith, 5, some .int, [(0, 10, 13, 24)])
theorem pl_L_matchesWith : plainName m_L_matchesWith.1.cls = true := by decide +kernel
abbrev m_L_fewestFences : mr_T := (yL_fewestFences, cL_fewestFences, 4, some .int, [(0, 9, 12, 24)])
theorem pl_L_fewestFences : plainName m_L_fewestFences.1.cls = true := by decide +kernel
abbrev m_L_repairingFences : mr_T := (yL_repairingFences, cL_repairingFences, 4, some .int, [(0, 9, 12, 24)])
theorem pl_L_repairingFences : plainName m_L_repairingFences.1.cls = true := by decide +kernel
abbrev m_L_isFenceNeeded : mr_T := (yL_isFenceNeeded, cL_isFenceNeeded, 5, some .int, [(0, 17, 20, 24), (0, 17, 24, 13), (0, 17, 28, 19)])
theorem pl_L_isFenceNeeded : plainName m_L_isFenceNeeded.1.cls = true := by decide +kernel
abbrev m_L_insertFence : mr_T := (yL_insertFence, cL_insertFence, 4, some .int, [(0, 9, 12, 13), (0, 9, 15, 80)])
theorem pl_L_insertFence : plainName m_L_insertFence.1.cls = true := by decide +kernel
abbrev m_L_removeFence : mr_T := (yL_removeFence, cL_removeFence, 4, some .int, [(0, 9, 12, 13), (0, 9, 15, 19)])
theorem pl_L_removeFence : plainName m_L_removeFence.1.cls = true := by decide +kernel
abbrev m_L_explain : mr_T := (yL_explain, cL_explain, 5, some .int, [(0, 10, 13, 24)])
theorem pl_L_explain : plainName m_L_explain.1.cls = true := by decide +kernel
abbrev m_L_readsFrom : mr_T := (yL_readsFrom, cL_readsFrom, 4, some .int, [(0, 9, 12, 13), (0, 9, 15, 19)])
theorem pl_L_readsFrom : plainName m_L_readsFrom.1.cls = true := by decide +kernel
abbrev m_L_writtenBy : mr_T := (yL_writtenBy, cL_writtenBy, 5, some .int, [(0, 10, 13, 13)])
theorem pl_L_writtenBy : plainName m_L_writtenBy.1.cls = true := by decide +kernel
theorem tk_1 {w : Cond} {i : Nat} (h : tables_1_1[i]? = some w) (g : goodWord w = true) : w ∈ tg_ := List.mem_filter.mpr ⟨List.mem_append_right _ (show w ∈ tables_1 from List.mem_append_left _ (List.mem_of_getElem? h)), g⟩
theorem tk_2 {w : Cond} {i : Nat} (h : tables_1_2[i]? = some w) (g : goodWord w = true) : w ∈ tg_ := List.mem_filter.mpr ⟨List.mem_append_right _ (show w ∈ tables_1 from List.mem_append_right _ (List.mem_append_left _ (List.mem_of_getElem? h))), g⟩
theorem tk_3 {w : Cond} {i : Nat} (h : tables_1_3[i]? = some w) (g : goodWord w = true) : w ∈ tg_ := List.mem_filter.mpr ⟨List.mem_append_right _ (show w ∈ tables_1 from List.mem_append_right _ (List.mem_append_right _ (List.mem_append_left _ (List.mem_of_getElem? h)))), g⟩
theorem tk_4 {w : Cond} {i : Nat} (h : tables_1_4[i]? = some w) (g : goodWord w = true) : w ∈ tg_ := List.mem_filter.mpr ⟨List.mem_append_right _ (show w ∈ tables_1 from List.mem_append_right _ (List.mem_append_right _ (List.mem_append_right _ (List.mem_append_left _ (List.mem_of_getElem? h))))), g⟩
theorem tk_5 {w : Cond} {i : Nat} (h : tables_1_5[i]? = some w) (g : goodWord w = true) : w ∈ tg_ := List.mem_filter.mpr ⟨List.mem_append_right _ (show w ∈ tables_1 from List.mem_append_right _ (List.mem_append_right _ (List.mem_append_right _ (List.mem_append_right _ (List.mem_append_left _ (List.mem_of_getElem? h)))))), g⟩
theorem tk_6 {w : Cond} {i : Nat} (h : tables_1_6[i]? = some w) (g : goodWord w = true) : w ∈ tg_ := List.mem_filter.mpr ⟨List.mem_append_right _ (show w ∈ tables_1 from List.mem_append_right _ (List.mem_append_right _ (List.mem_append_right _ (List.mem_append_right _ (List.mem_append_right _ (List.mem_append_left _ (List.mem_of_getElem? h))))))), g⟩
theorem tk_7 {w : Cond} {i : Nat} (h : tables_1_7[i]? = some w) (g : goodWord w = true) : w ∈ tg_ := List.mem_filter.mpr ⟨List.mem_append_right _ (show w ∈ tables_1 from List.mem_append_right _ (List.mem_append_right _ (List.mem_append_right _ (List.mem_append_right _ (List.mem_append_right _ (List.mem_append_right _ (List.mem_append_left _ (List.mem_of_getElem? h)))))))), g⟩
theorem tk_8 {w : Cond} {i : Nat} (h : tables_1_8[i]? = some w) (g : goodWord w = true) : w ∈ tg_ := List.mem_filter.mpr ⟨List.mem_append_right _ (show w ∈ tables_1 from List.mem_append_right _ (List.mem_append_right _ (List.mem_append_right _ (List.mem_append_right _ (List.mem_append_right _ (List.mem_append_right _ (List.mem_append_right _ (List.mem_append_left _ (List.mem_of_getElem? h))))))))), g⟩
theorem tk_9 {w : Cond} {i : Nat} (h : tables_1_9[i]? = some w) (g : goodWord w = true) : w ∈ tg_ := List.mem_filter.mpr ⟨List.mem_append_right _ (show w ∈ tables_1 from List.mem_append_right _ (List.mem_append_right _ (List.mem_append_right _ (List.mem_append_right _ (List.mem_append_right _ (List.mem_append_right _ (List.mem_append_right _ (List.mem_append_right _ (List.mem_append_left _ (List.mem_of_getElem? h)))))))))), g⟩
theorem tk_10 {w : Cond} {i : Nat} (h : tables_1_10[i]? = some w) (g : goodWord w = true) : w ∈ tg_ := List.mem_filter.mpr ⟨List.mem_append_right _ (show w ∈ tables_1 from List.mem_append_right _ (List.mem_append_right _ (List.mem_append_right _ (List.mem_append_right _ (List.mem_append_right _ (List.mem_append_right _ (List.mem_append_right _ (List.mem_append_right _ (List.mem_append_right _ (List.mem_of_getElem? h)))))))))), g⟩
theorem tk_0 {w : Cond} {i : Nat} (h : (k2_sels lw_privs)[i]? = some w) (g : goodWord w = true) : w ∈ tg_ := List.mem_filter.mpr ⟨List.mem_append_left _ (List.mem_of_getElem? h), g⟩
theorem tw_0 : Cond.selects "LitmusTester" ⟨"LitmusTester", "putFourBytes", "(I)V"⟩ ⟨"LitmusTester", "putFourBytes", "(I)V"⟩ ∈ tg_ := tk_0 (i := 0) (by decide +kernel) (by decide +kernel)
theorem tw_1 : Cond.selects "LitmusTester$Tokens" ⟨"LitmusTester$Tokens", "skipBlanks", "()V"⟩ ⟨"LitmusTester$Tokens", "skipBlanks", "()V"⟩ ∈ tg_ := tk_0 (i := 1) (by decide +kernel) (by decide +kernel)
theorem tw_2 : Cond.selects "LitmusTester$Tokens" ⟨"LitmusTester$Tokens", "scanToken", "(I)LLitmusTester$Sign;"⟩ ⟨"LitmusTester$Tokens", "scanToken", "(I)LLitmusTester$Sign;"⟩ ∈ tg_ := tk_0 (i := 2) (by decide +kernel) (by decide +kernel)
theorem tw_3 : Cond.selects "LitmusTester$Tokens" ⟨"LitmusTester$Tokens", "scanWord", "(I)LLitmusTester$Sign;"⟩ ⟨"LitmusTester$Tokens", "scanWord", "(I)LLitmusTester$Sign;"⟩ ∈ tg_ := tk_0 (i := 3) (by decide +kernel) (by decide +kernel)
theorem tw_4 : Cond.selects "LitmusTester$Tokens" ⟨"LitmusTester$Tokens", "setValue", "(IJ)V"⟩ ⟨"LitmusTester$Tokens", "setValue", "(IJ)V"⟩ ∈ tg_ := tk_0 (i := 4) (by decide +kernel) (by decide +kernel)
theorem tw_5 : Cond.selects "LitmusTester$Tokens" ⟨"LitmusTester$Tokens", "fixedSign", "(ILLitmusTester$Sign;)LLitmusTester$Sign;"⟩ ⟨"LitmusTester$Tokens", "fixedSign", "(ILLitmusTester$Sign;)LLitmusTester$Sign;"⟩ ∈ tg_ := tk_0 (i := 5) (by decide +kernel) (by decide +kernel)
theorem tw_6 : Cond.selects "LitmusTester$Tokens" ⟨"LitmusTester$Tokens", "scanNumber", "(I)LLitmusTester$Sign;"⟩ ⟨"LitmusTester$Tokens", "scanNumber", "(I)LLitmusTester$Sign;"⟩ ∈ tg_ := tk_0 (i := 6) (by decide +kernel) (by decide +kernel)
theorem tw_7 : Cond.selects "LitmusTester$Parser" ⟨"LitmusTester$Parser", "readDeclaration", "()Z"⟩ ⟨"LitmusTester$Parser", "readDeclaration", "()Z"⟩ ∈ tg_ := tk_0 (i := 7) (by decide +kernel) (by decide +kernel)
theorem tw_8 : Cond.selects "LitmusTester$Parser" ⟨"LitmusTester$Parser", "fail", "(I)Z"⟩ ⟨"LitmusTester$Parser", "fail", "(I)Z"⟩ ∈ tg_ := tk_0 (i := 8) (by decide +kernel) (by decide +kernel)
theorem tw_9 : Cond.selects "LitmusTester$Parser" ⟨"LitmusTester$Parser", "isValue", "()Z"⟩ ⟨"LitmusTester$Parser", "isValue", "()Z"⟩ ∈ tg_ := tk_0 (i := 9) (by decide +kernel) (by decide +kernel)
theorem tw_10 : Cond.selects "LitmusTester$Parser" ⟨"LitmusTester$Parser", "expect", "(LLitmusTester$Sign;)Z"⟩ ⟨"LitmusTester$Parser", "expect", "(LLitmusTester$Sign;)Z"⟩ ∈ tg_ := tk_0 (i := 10) (by decide +kernel) (by decide +kernel)
theorem tw_11 : Cond.selects "LitmusTester$Parser" ⟨"LitmusTester$Parser", "readThread", "()Z"⟩ ⟨"LitmusTester$Parser", "readThread", "()Z"⟩ ∈ tg_ := tk_0 (i := 11) (by decide +kernel) (by decide +kernel)
theorem tw_12 : Cond.selects "LitmusTester$Parser" ⟨"LitmusTester$Parser", "kindOfInstruction", "()I"⟩ ⟨"LitmusTester$Parser", "kindOfInstruction", "()I"⟩ ∈ tg_ := tk_0 (i := 12) (by decide +kernel) (by decide +kernel)
theorem tw_13 : Cond.selects "LitmusTester$Parser" ⟨"LitmusTester$Parser", "readInstruction", "(II)Z"⟩ ⟨"LitmusTester$Parser", "readInstruction", "(II)Z"⟩ ∈ tg_ := tk_0 (i := 13) (by decide +kernel) (by decide +kernel)
theorem tw_14 : Cond.selects "LitmusTester$Parser" ⟨"LitmusTester$Parser", "isFull", "(II)Z"⟩ ⟨"LitmusTester$Parser", "isFull", "(II)Z"⟩ ∈ tg_ := tk_0 (i := 14) (by decide +kernel) (by decide +kernel)
theorem tw_15 : Cond.selects "LitmusTester$Parser" ⟨"LitmusTester$Parser", "readTarget", "(I)Z"⟩ ⟨"LitmusTester$Parser", "readTarget", "(I)Z"⟩ ∈ tg_ := tk_0 (i := 15) (by decide +kernel) (by decide +kernel)
theorem tw_16 : Cond.selects "LitmusTester$Parser" ⟨"LitmusTester$Parser", "readLocation", "()Z"⟩ ⟨"LitmusTester$Parser", "readLocation", "()Z"⟩ ∈ tg_ := tk_0 (i := 16) (by decide +kernel) (by decide +kernel)
theorem tw_17 : Cond.selects "LitmusTester$Parser" ⟨"LitmusTester$Parser", "readValue", "(I)Z"⟩ ⟨"LitmusTester$Parser", "readValue", "(I)Z"⟩ ∈ tg_ := tk_0 (i := 17) (by decide +kernel) (by decide +kernel)
theorem tw_18 : Cond.selects "LitmusTester$Program" ⟨"LitmusTester$Program", "setProperty", "(III)V"⟩ ⟨"LitmusTester$Program", "setProperty", "(III)V"⟩ ∈ tg_ := tk_0 (i := 18) (by decide +kernel) (by decide +kernel)
theorem tw_19 : Cond.selects "LitmusTester$Parser" ⟨"LitmusTester$Parser", "readCondition", "(I)Z"⟩ ⟨"LitmusTester$Parser", "readCondition", "(I)Z"⟩ ∈ tg_ := tk_0 (i := 19) (by decide +kernel) (by decide +kernel)
theorem tw_20 : Cond.selects "LitmusTester$Parser" ⟨"LitmusTester$Parser", "readUnit", "(I)Z"⟩ ⟨"LitmusTester$Parser", "readUnit", "(I)Z"⟩ ∈ tg_ := tk_0 (i := 20) (by decide +kernel) (by decide +kernel)
theorem tw_21 : Cond.selects "LitmusTester$Parser" ⟨"LitmusTester$Parser", "readComparison", "()Z"⟩ ⟨"LitmusTester$Parser", "readComparison", "()Z"⟩ ∈ tg_ := tk_0 (i := 21) (by decide +kernel) (by decide +kernel)
theorem tw_22 : Cond.selects "LitmusTester$Parser" ⟨"LitmusTester$Parser", "isTargetOf", "(I)Z"⟩ ⟨"LitmusTester$Parser", "isTargetOf", "(I)Z"⟩ ∈ tg_ := tk_0 (i := 22) (by decide +kernel) (by decide +kernel)
theorem tw_23 : Cond.selects "LitmusTester$Parser" ⟨"LitmusTester$Parser", "readNegated", "(I)Z"⟩ ⟨"LitmusTester$Parser", "readNegated", "(I)Z"⟩ ∈ tg_ := tk_0 (i := 23) (by decide +kernel) (by decide +kernel)
theorem tw_24 : Cond.selects "LitmusTester$Parser" ⟨"LitmusTester$Parser", "isPassed", "(LLitmusTester$Sign;)Z"⟩ ⟨"LitmusTester$Parser", "isPassed", "(LLitmusTester$Sign;)Z"⟩ ∈ tg_ := tk_0 (i := 24) (by decide +kernel) (by decide +kernel)
theorem tw_25 : Cond.selects "LitmusTester" ⟨"LitmusTester", "forgetWhatWasFound", "()V"⟩ ⟨"LitmusTester", "forgetWhatWasFound", "()V"⟩ ∈ tg_ := tk_0 (i := 25) (by decide +kernel) (by decide +kernel)
theorem tw_26 : Cond.selects "LitmusTester$Output" ⟨"LitmusTester$Output", "putText", "(Ljava/lang/String;)V"⟩ ⟨"LitmusTester$Output", "putText", "(Ljava/lang/String;)V"⟩ ∈ tg_ := tk_0 (i := 26) (by decide +kernel) (by decide +kernel)
theorem tw_27 : Cond.selects "LitmusTester$Output" ⟨"LitmusTester$Output", "put", "(I)V"⟩ ⟨"LitmusTester$Output", "put", "(I)V"⟩ ∈ tg_ := tk_0 (i := 27) (by decide +kernel) (by decide +kernel)
theorem tw_28 : Cond.selects "LitmusTester$Output" ⟨"LitmusTester$Output", "putName", "(J)V"⟩ ⟨"LitmusTester$Output", "putName", "(J)V"⟩ ∈ tg_ := tk_0 (i := 28) (by decide +kernel) (by decide +kernel)
theorem tw_29 : Cond.selects "LitmusTester$Output" ⟨"LitmusTester$Output", "putNumber", "(I)V"⟩ ⟨"LitmusTester$Output", "putNumber", "(I)V"⟩ ∈ tg_ := tk_0 (i := 29) (by decide +kernel) (by decide +kernel)
theorem tw_30 : Cond.selects "LitmusTester$Output" ⟨"LitmusTester$Output", "putRegister", "(I)V"⟩ ⟨"LitmusTester$Output", "putRegister", "(I)V"⟩ ∈ tg_ := tk_0 (i := 30) (by decide +kernel) (by decide +kernel)
theorem tw_31 : Cond.selects "LitmusTester$Program" ⟨"LitmusTester$Program", "isGapBefore", "(I)Z"⟩ ⟨"LitmusTester$Program", "isGapBefore", "(I)Z"⟩ ∈ tg_ := tk_0 (i := 31) (by decide +kernel) (by decide +kernel)
theorem tw_32 : Cond.selects "LitmusTester" ⟨"LitmusTester", "requireInstruction", "(I)V"⟩ ⟨"LitmusTester", "requireInstruction", "(I)V"⟩ ∈ tg_ := tk_0 (i := 32) (by decide +kernel) (by decide +kernel)
theorem tw_34 : Cond.selects "LitmusTester" ⟨"LitmusTester", "requireModel", "(I)V"⟩ ⟨"LitmusTester", "requireModel", "(I)V"⟩ ∈ tg_ := tk_0 (i := 34) (by decide +kernel) (by decide +kernel)
theorem tw_35 : Cond.selects "LitmusTester" ⟨"LitmusTester", "findings", "(I)LLitmusTester$Findings;"⟩ ⟨"LitmusTester", "findings", "(I)LLitmusTester$Findings;"⟩ ∈ tg_ := tk_0 (i := 35) (by decide +kernel) (by decide +kernel)
theorem tw_36 : Cond.selects "LitmusTester" ⟨"LitmusTester", "kept", "(I)LLitmusTester$Findings;"⟩ ⟨"LitmusTester", "kept", "(I)LLitmusTester$Findings;"⟩ ∈ tg_ := tk_0 (i := 36) (by decide +kernel) (by decide +kernel)
theorem tw_37 : Cond.selects "LitmusTester$Machine" ⟨"LitmusTester$Machine", "prepareLocations", "()V"⟩ ⟨"LitmusTester$Machine", "prepareLocations", "()V"⟩ ∈ tg_ := tk_0 (i := 37) (by decide +kernel) (by decide +kernel)
theorem tw_38 : Cond.selects "LitmusTester$Machine" ⟨"LitmusTester$Machine", "prepareThreads", "()V"⟩ ⟨"LitmusTester$Machine", "prepareThreads", "()V"⟩ ∈ tg_ := tk_0 (i := 38) (by decide +kernel) (by decide +kernel)
theorem tw_39 : Cond.selects "LitmusTester$Machine" ⟨"LitmusTester$Machine", "prepareInstruction", "(I)V"⟩ ⟨"LitmusTester$Machine", "prepareInstruction", "(I)V"⟩ ∈ tg_ := tk_0 (i := 39) (by decide +kernel) (by decide +kernel)
theorem tw_40 : Cond.selects "LitmusTester$StateTable" ⟨"LitmusTester$StateTable", "useSlots", "(I)V"⟩ ⟨"LitmusTester$StateTable", "useSlots", "(I)V"⟩ ∈ tg_ := tk_0 (i := 40) (by decide +kernel) (by decide +kernel)
theorem tw_41 : Cond.selects "LitmusTester$StateTable" ⟨"LitmusTester$StateTable", "makeRoom", "()V"⟩ ⟨"LitmusTester$StateTable", "makeRoom", "()V"⟩ ∈ tg_ := tk_0 (i := 41) (by decide +kernel) (by decide +kernel)
theorem tw_42 : Cond.selects "LitmusTester$StateTable" ⟨"LitmusTester$StateTable", "slotOf", "(J)I"⟩ ⟨"LitmusTester$StateTable", "slotOf", "(J)I"⟩ ∈ tg_ := tk_0 (i := 42) (by decide +kernel) (by decide +kernel)
theorem tw_43 : Cond.selects "LitmusTester$Machine" ⟨"LitmusTester$Machine", "waitingOf", "(JI)I"⟩ ⟨"LitmusTester$Machine", "waitingOf", "(JI)I"⟩ ∈ tg_ := tk_0 (i := 43) (by decide +kernel) (by decide +kernel)
theorem tw_44 : Cond.selects "LitmusTester$Machine" ⟨"LitmusTester$Machine", "waitingFor", "(JII)I"⟩ ⟨"LitmusTester$Machine", "waitingFor", "(JII)I"⟩ ∈ tg_ := tk_0 (i := 44) (by decide +kernel) (by decide +kernel)
theorem tw_45 : Cond.selects "LitmusTester$Machine" ⟨"LitmusTester$Machine", "valueOf", "(JI)I"⟩ ⟨"LitmusTester$Machine", "valueOf", "(JI)I"⟩ ∈ tg_ := tk_0 (i := 45) (by decide +kernel) (by decide +kernel)
theorem tw_46 : Cond.selects "LitmusTester$Machine" ⟨"LitmusTester$Machine", "written", "(JII)J"⟩ ⟨"LitmusTester$Machine", "written", "(JII)J"⟩ ∈ tg_ := tk_0 (i := 46) (by decide +kernel) (by decide +kernel)
theorem tw_47 : Cond.selects "LitmusTester$Machine" ⟨"LitmusTester$Machine", "withRead", "(JII)J"⟩ ⟨"LitmusTester$Machine", "withRead", "(JII)J"⟩ ∈ tg_ := tk_0 (i := 47) (by decide +kernel) (by decide +kernel)
theorem tw_48 : Cond.selects "LitmusTester" ⟨"LitmusTester", "requireLocation", "(I)V"⟩ ⟨"LitmusTester", "requireLocation", "(I)V"⟩ ∈ tg_ := tk_0 (i := 48) (by decide +kernel) (by decide +kernel)
theorem tw_49 : Cond.selects "LitmusTester" ⟨"LitmusTester", "tryFences", "(II)V"⟩ ⟨"LitmusTester", "tryFences", "(II)V"⟩ ∈ tg_ := tk_0 (i := 49) (by decide +kernel) (by decide +kernel)
theorem tw_50 : Cond.selects "LitmusTester" ⟨"LitmusTester", "smallestSet", "(IZ)I"⟩ ⟨"LitmusTester", "smallestSet", "(IZ)I"⟩ ∈ tg_ := tk_0 (i := 50) (by decide +kernel) (by decide +kernel)
theorem tw_51 : Cond.selects "LitmusTester" ⟨"LitmusTester", "requireFence", "(I)V"⟩ ⟨"LitmusTester", "requireFence", "(I)V"⟩ ∈ tg_ := tk_0 (i := 51) (by decide +kernel) (by decide +kernel)
theorem tw_52 : Cond.selects "LitmusTester$Explorer" ⟨"LitmusTester$Explorer", "leadsTo", "(IJI)Z"⟩ ⟨"LitmusTester$Explorer", "leadsTo", "(IJI)Z"⟩ ∈ tg_ := tk_0 (i := 52) (by decide +kernel) (by decide +kernel)
theorem tw_53 : Cond.selects "LitmusTester$Explorer" ⟨"LitmusTester$Explorer", "hasStepTo", "(IJI)Z"⟩ ⟨"LitmusTester$Explorer", "hasStepTo", "(IJI)Z"⟩ ∈ tg_ := tk_0 (i := 53) (by decide +kernel) (by decide +kernel)
theorem tw_54 : Cond.selects "LitmusTester$Explanation" ⟨"LitmusTester$Explanation", "addWriter", "(I)V"⟩ ⟨"LitmusTester$Explanation", "addWriter", "(I)V"⟩ ∈ tg_ := tk_0 (i := 54) (by decide +kernel) (by decide +kernel)
theorem tw_55 : Cond.selects "LitmusTester$Explanation" ⟨"LitmusTester$Explanation", "latestWriter", "(I)I"⟩ ⟨"LitmusTester$Explanation", "latestWriter", "(I)I"⟩ ∈ tg_ := tk_0 (i := 55) (by decide +kernel) (by decide +kernel)
theorem tw_56 : Cond.selects "LitmusTesterModel" ⟨"LitmusTesterModel", "adds", "(I)V"⟩ ⟨"LitmusTesterModel", "adds", "(I)V"⟩ ∈ tg_ := tk_0 (i := 56) (by decide +kernel) (by decide +kernel)
theorem tw_57 : Cond.selects "LitmusTesterModel" ⟨"LitmusTesterModel", "starts", "()V"⟩ ⟨"LitmusTesterModel", "starts", "()V"⟩ ∈ tg_ := tk_0 (i := 57) (by decide +kernel) (by decide +kernel)
theorem tw_58 : Cond.selects "LitmusTesterModel" ⟨"LitmusTesterModel", "copies", "()V"⟩ ⟨"LitmusTesterModel", "copies", "()V"⟩ ∈ tg_ := tk_0 (i := 58) (by decide +kernel) (by decide +kernel)
theorem tw_59 : Cond.selects "LitmusTesterModel" ⟨"LitmusTesterModel", "named", "(II)I"⟩ ⟨"LitmusTesterModel", "named", "(II)I"⟩ ∈ tg_ := tk_0 (i := 59) (by decide +kernel) (by decide +kernel)
theorem tw_60 : Cond.selects "LitmusTesterModel" ⟨"LitmusTesterModel", "go", "()V"⟩ ⟨"LitmusTesterModel", "go", "()V"⟩ ∈ tg_ := tk_0 (i := 60) (by decide +kernel) (by decide +kernel)
theorem tw_61 : Cond.selects "LitmusTesterModel" ⟨"LitmusTesterModel", "byteAt", "(I)I"⟩ ⟨"LitmusTesterModel", "byteAt", "(I)I"⟩ ∈ tg_ := tk_0 (i := 61) (by decide +kernel) (by decide +kernel)
theorem tw_62 : Cond.selects "LitmusTesterModel" ⟨"LitmusTesterModel", "goWord", "()V"⟩ ⟨"LitmusTesterModel", "goWord", "()V"⟩ ∈ tg_ := tk_0 (i := 62) (by decide +kernel) (by decide +kernel)
theorem tw_63 : Cond.selects "LitmusTesterModel" ⟨"LitmusTesterModel", "readsProgram", "()Z"⟩ ⟨"LitmusTesterModel", "readsProgram", "()Z"⟩ ∈ tg_ := tk_0 (i := 63) (by decide +kernel) (by decide +kernel)
theorem tw_64 : Cond.selects "LitmusTesterModel" ⟨"LitmusTesterModel", "isText", "(Ljava/lang/String;)Z"⟩ ⟨"LitmusTesterModel", "isText", "(Ljava/lang/String;)Z"⟩ ∈ tg_ := tk_0 (i := 64) (by decide +kernel) (by decide +kernel)
theorem tw_65 : Cond.selects "LitmusTesterModel" ⟨"LitmusTesterModel", "readsLocation", "()Z"⟩ ⟨"LitmusTesterModel", "readsLocation", "()Z"⟩ ∈ tg_ := tk_0 (i := 65) (by decide +kernel) (by decide +kernel)
theorem tw_66 : Cond.selects "LitmusTesterModel" ⟨"LitmusTesterModel", "bad", "(I)Z"⟩ ⟨"LitmusTesterModel", "bad", "(I)Z"⟩ ∈ tg_ := tk_0 (i := 66) (by decide +kernel) (by decide +kernel)
theorem tw_67 : Cond.selects "LitmusTesterModel" ⟨"LitmusTesterModel", "isName", "()Z"⟩ ⟨"LitmusTesterModel", "isName", "()Z"⟩ ∈ tg_ := tk_0 (i := 67) (by decide +kernel) (by decide +kernel)
theorem tw_68 : Cond.selects "LitmusTesterModel" ⟨"LitmusTesterModel", "kindNow", "()I"⟩ ⟨"LitmusTesterModel", "kindNow", "()I"⟩ ∈ tg_ := tk_0 (i := 68) (by decide +kernel) (by decide +kernel)
theorem tw_69 : Cond.selects "LitmusTesterModel" ⟨"LitmusTesterModel", "readsSmall", "(I)Z"⟩ ⟨"LitmusTesterModel", "readsSmall", "(I)Z"⟩ ∈ tg_ := tk_0 (i := 69) (by decide +kernel) (by decide +kernel)
theorem tw_70 : Cond.selects "LitmusTesterModel" ⟨"LitmusTesterModel", "ends", "()Z"⟩ ⟨"LitmusTesterModel", "ends", "()Z"⟩ ∈ tg_ := tk_0 (i := 70) (by decide +kernel) (by decide +kernel)
theorem tw_71 : Cond.selects "LitmusTesterModel" ⟨"LitmusTesterModel", "isSymbol", "(I)Z"⟩ ⟨"LitmusTesterModel", "isSymbol", "(I)Z"⟩ ∈ tg_ := tk_0 (i := 71) (by decide +kernel) (by decide +kernel)
theorem tw_72 : Cond.selects "LitmusTesterModel" ⟨"LitmusTesterModel", "readsThread", "()Z"⟩ ⟨"LitmusTesterModel", "readsThread", "()Z"⟩ ∈ tg_ := tk_0 (i := 72) (by decide +kernel) (by decide +kernel)
theorem tw_73 : Cond.selects "LitmusTesterModel" ⟨"LitmusTesterModel", "readsInstruction", "(I)Z"⟩ ⟨"LitmusTesterModel", "readsInstruction", "(I)Z"⟩ ∈ tg_ := tk_0 (i := 73) (by decide +kernel) (by decide +kernel)
theorem tw_74 : Cond.selects "LitmusTesterModel" ⟨"LitmusTesterModel", "instructionsOf", "(IZ)I"⟩ ⟨"LitmusTesterModel", "instructionsOf", "(IZ)I"⟩ ∈ tg_ := tk_0 (i := 74) (by decide +kernel) (by decide +kernel)
theorem tw_75 : Cond.selects "LitmusTesterModel" ⟨"LitmusTesterModel", "readsTarget", "(II)Z"⟩ ⟨"LitmusTesterModel", "readsTarget", "(II)Z"⟩ ∈ tg_ := tk_0 (i := 75) (by decide +kernel) (by decide +kernel)
theorem tw_76 : Cond.selects "LitmusTesterModel" ⟨"LitmusTesterModel", "isTarget", "(II)Z"⟩ ⟨"LitmusTesterModel", "isTarget", "(II)Z"⟩ ∈ tg_ := tk_0 (i := 76) (by decide +kernel) (by decide +kernel)
theorem tw_77 : Cond.selects "LitmusTesterModel" ⟨"LitmusTesterModel", "readsPlace", "(I)Z"⟩ ⟨"LitmusTesterModel", "readsPlace", "(I)Z"⟩ ∈ tg_ := tk_0 (i := 77) (by decide +kernel) (by decide +kernel)
theorem tw_78 : Cond.selects "LitmusTesterModel" ⟨"LitmusTesterModel", "readsValue", "(II)Z"⟩ ⟨"LitmusTesterModel", "readsValue", "(II)Z"⟩ ∈ tg_ := tk_0 (i := 78) (by decide +kernel) (by decide +kernel)
theorem tw_79 : Cond.selects "LitmusTesterModel" ⟨"LitmusTesterModel", "readsCondition", "(I)Z"⟩ ⟨"LitmusTesterModel", "readsCondition", "(I)Z"⟩ ∈ tg_ := tk_0 (i := 79) (by decide +kernel) (by decide +kernel)
theorem tw_80 : Cond.selects "LitmusTesterModel" ⟨"LitmusTesterModel", "readsBoth", "(I)Z"⟩ ⟨"LitmusTesterModel", "readsBoth", "(I)Z"⟩ ∈ tg_ := tk_0 (i := 80) (by decide +kernel) (by decide +kernel)
theorem tw_81 : Cond.selects "LitmusTesterModel" ⟨"LitmusTesterModel", "readsUnit", "(I)Z"⟩ ⟨"LitmusTesterModel", "readsUnit", "(I)Z"⟩ ∈ tg_ := tk_0 (i := 81) (by decide +kernel) (by decide +kernel)
theorem tw_82 : Cond.selects "LitmusTesterModel" ⟨"LitmusTesterModel", "tells", "(I)V"⟩ ⟨"LitmusTesterModel", "tells", "(I)V"⟩ ∈ tg_ := tk_0 (i := 82) (by decide +kernel) (by decide +kernel)
theorem tw_83 : Cond.selects "LitmusTesterModel" ⟨"LitmusTesterModel", "readsCompare", "(I)Z"⟩ ⟨"LitmusTesterModel", "readsCompare", "(I)Z"⟩ ∈ tg_ := tk_0 (i := 83) (by decide +kernel) (by decide +kernel)
theorem tw_84 : Cond.selects "LitmusTesterModel" ⟨"LitmusTesterModel", "isInstruction", "(I)Z"⟩ ⟨"LitmusTesterModel", "isInstruction", "(I)Z"⟩ ∈ tg_ := tk_0 (i := 84) (by decide +kernel) (by decide +kernel)
theorem tw_85 : Cond.selects "LitmusTesterModel" ⟨"LitmusTesterModel", "fails", "(ZZZ)Z"⟩ ⟨"LitmusTesterModel", "fails", "(ZZZ)Z"⟩ ∈ tg_ := tk_0 (i := 85) (by decide +kernel) (by decide +kernel)
theorem tw_86 : Cond.selects "LitmusTesterModel" ⟨"LitmusTesterModel", "of", "(II)I"⟩ ⟨"LitmusTesterModel", "of", "(II)I"⟩ ∈ tg_ := tk_0 (i := 86) (by decide +kernel) (by decide +kernel)
theorem tw_87 : Cond.selects "LitmusTesterModel" ⟨"LitmusTesterModel", "isNoModel", "(I)Z"⟩ ⟨"LitmusTesterModel", "isNoModel", "(I)Z"⟩ ∈ tg_ := tk_0 (i := 87) (by decide +kernel) (by decide +kernel)
theorem tw_88 : Cond.selects "LitmusTesterModel" ⟨"LitmusTesterModel", "outcomesOf", "(I)V"⟩ ⟨"LitmusTesterModel", "outcomesOf", "(I)V"⟩ ∈ tg_ := tk_0 (i := 88) (by decide +kernel) (by decide +kernel)
theorem tw_89 : Cond.selects "LitmusTesterModel" ⟨"LitmusTesterModel", "laysProgram", "(II)V"⟩ ⟨"LitmusTesterModel", "laysProgram", "(II)V"⟩ ∈ tg_ := tk_0 (i := 89) (by decide +kernel) (by decide +kernel)
theorem tw_90 : Cond.selects "LitmusTesterModel" ⟨"LitmusTesterModel", "isGap", "(I)Z"⟩ ⟨"LitmusTesterModel", "isGap", "(I)Z"⟩ ∈ tg_ := tk_0 (i := 90) (by decide +kernel) (by decide +kernel)
theorem tw_91 : Cond.selects "LitmusTesterModel" ⟨"LitmusTesterModel", "lays", "(II)V"⟩ ⟨"LitmusTesterModel", "lays", "(II)V"⟩ ∈ tg_ := tk_0 (i := 91) (by decide +kernel) (by decide +kernel)
theorem tw_92 : Cond.selects "LitmusTesterModel" ⟨"LitmusTesterModel", "gathers", "(I)V"⟩ ⟨"LitmusTesterModel", "gathers", "(I)V"⟩ ∈ tg_ := tk_0 (i := 92) (by decide +kernel) (by decide +kernel)
theorem tw_93 : Cond.selects "LitmusTesterModel" ⟨"LitmusTesterModel", "explores", "(I)V"⟩ ⟨"LitmusTesterModel", "explores", "(I)V"⟩ ∈ tg_ := tk_0 (i := 93) (by decide +kernel) (by decide +kernel)
theorem tw_94 : Cond.selects "LitmusTesterModel" ⟨"LitmusTesterModel", "firstState", "()J"⟩ ⟨"LitmusTesterModel", "firstState", "()J"⟩ ∈ tg_ := tk_0 (i := 94) (by decide +kernel) (by decide +kernel)
theorem tw_95 : Cond.selects "LitmusTesterModel" ⟨"LitmusTesterModel", "stateOf", "(J)I"⟩ ⟨"LitmusTesterModel", "stateOf", "(J)I"⟩ ∈ tg_ := tk_0 (i := 95) (by decide +kernel) (by decide +kernel)
theorem tw_96 : Cond.selects "LitmusTesterModel" ⟨"LitmusTesterModel", "slotOf", "(J)I"⟩ ⟨"LitmusTesterModel", "slotOf", "(J)I"⟩ ∈ tg_ := tk_0 (i := 96) (by decide +kernel) (by decide +kernel)
theorem tw_97 : Cond.selects "LitmusTesterModel" ⟨"LitmusTesterModel", "canStep", "(JII)Z"⟩ ⟨"LitmusTesterModel", "canStep", "(JII)Z"⟩ ∈ tg_ := tk_0 (i := 97) (by decide +kernel) (by decide +kernel)
theorem tw_98 : Cond.selects "LitmusTesterModel" ⟨"LitmusTesterModel", "canExecute", "(JI)Z"⟩ ⟨"LitmusTesterModel", "canExecute", "(JI)Z"⟩ ∈ tg_ := tk_0 (i := 98) (by decide +kernel) (by decide +kernel)
theorem tw_99 : Cond.selects "LitmusTesterModel" ⟨"LitmusTesterModel", "waiting", "(JIIZ)I"⟩ ⟨"LitmusTesterModel", "waiting", "(JIIZ)I"⟩ ∈ tg_ := tk_0 (i := 99) (by decide +kernel) (by decide +kernel)
theorem tw_100 : Cond.selects "LitmusTesterModel" ⟨"LitmusTesterModel", "valueOf", "(JII)I"⟩ ⟨"LitmusTesterModel", "valueOf", "(JII)I"⟩ ∈ tg_ := tk_0 (i := 100) (by decide +kernel) (by decide +kernel)
theorem tw_101 : Cond.selects "LitmusTesterModel" ⟨"LitmusTesterModel", "canCommit", "(JII)Z"⟩ ⟨"LitmusTesterModel", "canCommit", "(JII)Z"⟩ ∈ tg_ := tk_0 (i := 101) (by decide +kernel) (by decide +kernel)
theorem tw_102 : Cond.selects "LitmusTesterModel" ⟨"LitmusTesterModel", "isFinal", "(J)Z"⟩ ⟨"LitmusTesterModel", "isFinal", "(J)Z"⟩ ∈ tg_ := tk_0 (i := 102) (by decide +kernel) (by decide +kernel)
theorem tw_103 : Cond.selects "LitmusTesterModel" ⟨"LitmusTesterModel", "codeOf", "(J)I"⟩ ⟨"LitmusTesterModel", "codeOf", "(J)I"⟩ ∈ tg_ := tk_0 (i := 103) (by decide +kernel) (by decide +kernel)
theorem tw_104 : Cond.selects "LitmusTesterModel" ⟨"LitmusTesterModel", "sinks", "(II)V"⟩ ⟨"LitmusTesterModel", "sinks", "(II)V"⟩ ∈ tg_ := tk_0 (i := 104) (by decide +kernel) (by decide +kernel)
theorem tw_105 : Cond.selects "LitmusTesterModel" ⟨"LitmusTesterModel", "swaps", "(II)V"⟩ ⟨"LitmusTesterModel", "swaps", "(II)V"⟩ ∈ tg_ := tk_0 (i := 105) (by decide +kernel) (by decide +kernel)
theorem tw_106 : Cond.selects "LitmusTesterModel" ⟨"LitmusTesterModel", "find", "(I)I"⟩ ⟨"LitmusTesterModel", "find", "(I)I"⟩ ∈ tg_ := tk_0 (i := 106) (by decide +kernel) (by decide +kernel)
theorem tw_107 : Cond.selects "LitmusTesterModel" ⟨"LitmusTesterModel", "keepsOthers", "()V"⟩ ⟨"LitmusTesterModel", "keepsOthers", "()V"⟩ ∈ tg_ := tk_0 (i := 107) (by decide +kernel) (by decide +kernel)
theorem tw_108 : Cond.selects "LitmusTesterModel" ⟨"LitmusTesterModel", "digits", "()I"⟩ ⟨"LitmusTesterModel", "digits", "()I"⟩ ∈ tg_ := tk_0 (i := 108) (by decide +kernel) (by decide +kernel)
theorem tw_109 : Cond.selects "LitmusTesterModel" ⟨"LitmusTesterModel", "holds", "(I)Z"⟩ ⟨"LitmusTesterModel", "holds", "(I)Z"⟩ ∈ tg_ := tk_0 (i := 109) (by decide +kernel) (by decide +kernel)
theorem tw_110 : Cond.selects "LitmusTesterModel" ⟨"LitmusTesterModel", "digitOf", "(II)I"⟩ ⟨"LitmusTesterModel", "digitOf", "(II)I"⟩ ∈ tg_ := tk_0 (i := 110) (by decide +kernel) (by decide +kernel)
theorem tw_111 : Cond.selects "LitmusTesterModel" ⟨"LitmusTesterModel", "matches", "()I"⟩ ⟨"LitmusTesterModel", "matches", "()I"⟩ ∈ tg_ := tk_0 (i := 111) (by decide +kernel) (by decide +kernel)
theorem tw_112 : Cond.selects "LitmusTesterModel" ⟨"LitmusTesterModel", "reads", "(I)Z"⟩ ⟨"LitmusTesterModel", "reads", "(I)Z"⟩ ∈ tg_ := tk_0 (i := 112) (by decide +kernel) (by decide +kernel)
theorem tw_113 : Cond.selects "LitmusTesterModel" ⟨"LitmusTesterModel", "laidAt", "(I)I"⟩ ⟨"LitmusTesterModel", "laidAt", "(I)I"⟩ ∈ tg_ := tk_0 (i := 113) (by decide +kernel) (by decide +kernel)
theorem tw_114 : Cond.selects "LitmusTesterModel" ⟨"LitmusTesterModel", "waitingMany", "(JI)I"⟩ ⟨"LitmusTesterModel", "waitingMany", "(JI)I"⟩ ∈ tg_ := tk_0 (i := 114) (by decide +kernel) (by decide +kernel)
theorem tw_115 : Cond.selects "LitmusTesterModel" ⟨"LitmusTesterModel", "race", "(II)Z"⟩ ⟨"LitmusTesterModel", "race", "(II)Z"⟩ ∈ tg_ := tk_0 (i := 115) (by decide +kernel) (by decide +kernel)
theorem tw_116 : Cond.selects "LitmusTesterModel" ⟨"LitmusTesterModel", "conflict", "(II)Z"⟩ ⟨"LitmusTesterModel", "conflict", "(II)Z"⟩ ∈ tg_ := tk_0 (i := 116) (by decide +kernel) (by decide +kernel)
theorem tw_117 : Cond.selects "LitmusTesterModel" ⟨"LitmusTesterModel", "gapMany", "()I"⟩ ⟨"LitmusTesterModel", "gapMany", "()I"⟩ ∈ tg_ := tk_0 (i := 117) (by decide +kernel) (by decide +kernel)
theorem tw_118 : Cond.selects "LitmusTesterModel" ⟨"LitmusTesterModel", "gapAt", "(I)I"⟩ ⟨"LitmusTesterModel", "gapAt", "(I)I"⟩ ∈ tg_ := tk_0 (i := 118) (by decide +kernel) (by decide +kernel)
theorem tw_119 : Cond.selects "LitmusTesterModel" ⟨"LitmusTesterModel", "fewest", "(IZ)I"⟩ ⟨"LitmusTesterModel", "fewest", "(IZ)I"⟩ ∈ tg_ := tk_0 (i := 119) (by decide +kernel) (by decide +kernel)
theorem tw_120 : Cond.selects "LitmusTesterModel" ⟨"LitmusTesterModel", "areOthers", "()Z"⟩ ⟨"LitmusTesterModel", "areOthers", "()Z"⟩ ∈ tg_ := tk_0 (i := 120) (by decide +kernel) (by decide +kernel)
theorem tw_121 : Cond.selects "LitmusTesterModel" ⟨"LitmusTesterModel", "isFence", "(I)Z"⟩ ⟨"LitmusTesterModel", "isFence", "(I)Z"⟩ ∈ tg_ := tk_0 (i := 121) (by decide +kernel) (by decide +kernel)
theorem tw_122 : Cond.selects "LitmusTesterModel" ⟨"LitmusTesterModel", "remembers", "()V"⟩ ⟨"LitmusTesterModel", "remembers", "()V"⟩ ∈ tg_ := tk_0 (i := 122) (by decide +kernel) (by decide +kernel)
theorem tw_123 : Cond.selects "LitmusTesterModel" ⟨"LitmusTesterModel", "leastStep", "(J)J"⟩ ⟨"LitmusTesterModel", "leastStep", "(J)J"⟩ ∈ tg_ := tk_0 (i := 123) (by decide +kernel) (by decide +kernel)
theorem tw_124 : Cond.selects "LitmusTesterModel" ⟨"LitmusTesterModel", "takes", "(II)V"⟩ ⟨"LitmusTesterModel", "takes", "(II)V"⟩ ∈ tg_ := tk_0 (i := 124) (by decide +kernel) (by decide +kernel)
theorem tw_125 : Cond.selects "LitmusTesterModel" ⟨"LitmusTesterModel", "writes", "(II)V"⟩ ⟨"LitmusTesterModel", "writes", "(II)V"⟩ ∈ tg_ := tk_0 (i := 125) (by decide +kernel) (by decide +kernel)
theorem tw_126 : Cond.selects "LitmusTesterModel" ⟨"LitmusTesterModel", "printsText", "(Ljava/lang/String;)V"⟩ ⟨"LitmusTesterModel", "printsText", "(Ljava/lang/String;)V"⟩ ∈ tg_ := tk_0 (i := 126) (by decide +kernel) (by decide +kernel)
theorem tw_127 : Cond.selects "LitmusTesterModel" ⟨"LitmusTesterModel", "prints", "(I)V"⟩ ⟨"LitmusTesterModel", "prints", "(I)V"⟩ ∈ tg_ := tk_0 (i := 127) (by decide +kernel) (by decide +kernel)
theorem tw_128 : Cond.selects "LitmusTesterModel" ⟨"LitmusTesterModel", "printsName", "(I)V"⟩ ⟨"LitmusTesterModel", "printsName", "(I)V"⟩ ∈ tg_ := tk_0 (i := 128) (by decide +kernel) (by decide +kernel)
theorem tw_129 : Cond.selects "LitmusTesterModel" ⟨"LitmusTesterModel", "printsInstruction", "(I)V"⟩ ⟨"LitmusTesterModel", "printsInstruction", "(I)V"⟩ ∈ tg_ := tk_0 (i := 129) (by decide +kernel) (by decide +kernel)
theorem tw_130 : Cond.selects "LitmusTesterModel" ⟨"LitmusTesterModel", "printsRegister", "(I)V"⟩ ⟨"LitmusTesterModel", "printsRegister", "(I)V"⟩ ∈ tg_ := tk_0 (i := 130) (by decide +kernel) (by decide +kernel)
theorem tw_132 : (Jvm.Cond.initialized "LitmusTester") ∈ tg_ := tk_1 (i := 1) (by decide +kernel) (by decide +kernel)
theorem tw_133 : (Jvm.Cond.initialized "LitmusTester$Output") ∈ tg_ := tk_1 (i := 2) (by decide +kernel) (by decide +kernel)
theorem tw_134 : (Jvm.Cond.initialized "LitmusTester$Program") ∈ tg_ := tk_1 (i := 3) (by decide +kernel) (by decide +kernel)
theorem tw_135 : (Jvm.Cond.initialized "LitmusTester$Parser") ∈ tg_ := tk_1 (i := 4) (by decide +kernel) (by decide +kernel)
theorem tw_136 : (Jvm.Cond.initialized "LitmusTester$Tokens") ∈ tg_ := tk_1 (i := 5) (by decide +kernel) (by decide +kernel)
theorem tw_137 : (Jvm.Cond.initialized "LitmusTester$Explorer") ∈ tg_ := tk_1 (i := 6) (by decide +kernel) (by decide +kernel)
theorem tw_138 : (Jvm.Cond.initialized "LitmusTester$StateTable") ∈ tg_ := tk_1 (i := 7) (by decide +kernel) (by decide +kernel)
theorem tw_139 : (Jvm.Cond.initialized "LitmusTester$Machine") ∈ tg_ := tk_1 (i := 8) (by decide +kernel) (by decide +kernel)
theorem tw_140 : (Jvm.Cond.initialized "LitmusTester$Findings") ∈ tg_ := tk_1 (i := 9) (by decide +kernel) (by decide +kernel)
theorem tw_141 : (Jvm.Cond.initialized "java/util/Arrays") ∈ tg_ := tk_1 (i := 10) (by decide +kernel) (by decide +kernel)
theorem tw_142 : (Jvm.Cond.initialized "LitmusTester$Changes") ∈ tg_ := tk_1 (i := 11) (by decide +kernel) (by decide +kernel)
theorem tw_143 : (Jvm.Cond.initialized "LitmusTester$Explanation") ∈ tg_ := tk_1 (i := 12) (by decide +kernel) (by decide +kernel)
theorem tw_144 : (Jvm.Cond.initialized "LitmusTesterModel") ∈ tg_ := tk_1 (i := 13) (by decide +kernel) (by decide +kernel)
theorem tw_145 : (Jvm.Cond.initialized "java/lang/Math") ∈ tg_ := tk_1 (i := 14) (by decide +kernel) (by decide +kernel)
theorem tw_148 : (Jvm.Cond.initialized "java/lang/String") ∈ tg_ := tk_1 (i := 17) (by decide +kernel) (by decide +kernel)
theorem tw_149 : (Jvm.Cond.initialized "java/lang/StringLatin1") ∈ tg_ := tk_1 (i := 18) (by decide +kernel) (by decide +kernel)
theorem tw_150 : (Jvm.Cond.initialized "jdk/internal/util/Preconditions") ∈ tg_ := tk_1 (i := 19) (by decide +kernel) (by decide +kernel)
theorem tw_151 : (Jvm.Cond.initialized "java/lang/StringUTF16") ∈ tg_ := tk_1 (i := 20) (by decide +kernel) (by decide +kernel)
theorem tw_152 : (Jvm.Cond.initialized "java/lang/System") ∈ tg_ := tk_1 (i := 21) (by decide +kernel) (by decide +kernel)
theorem tw_156 : (Jvm.Cond.initialized "java/lang/IndexOutOfBoundsException") ∈ tg_ := tk_1 (i := 25) (by decide +kernel) (by decide +kernel)
theorem tw_157 : (Jvm.Cond.initialized "java/util/NoSuchElementException") ∈ tg_ := tk_1 (i := 26) (by decide +kernel) (by decide +kernel)
theorem tw_158 : (Jvm.Cond.initialized "java/lang/IllegalArgumentException") ∈ tg_ := tk_1 (i := 27) (by decide +kernel) (by decide +kernel)
theorem tw_159 : (Jvm.Cond.initialized "java/lang/Integer") ∈ tg_ := tk_1 (i := 28) (by decide +kernel) (by decide +kernel)
theorem tw_160 : (Jvm.Cond.initialized "java/lang/IllegalStateException") ∈ tg_ := tk_1 (i := 29) (by decide +kernel) (by decide +kernel)
theorem tw_175 : (Jvm.Cond.fieldLink "LitmusTester$Output" (9 : Nat) "LitmusTester$Output" "bytes" "[B") ∈ tg_ := tk_1 (i := 44) (by decide +kernel) (by decide +kernel)
theorem tw_176 : (Jvm.Cond.fieldLink "LitmusTester$Output" (15 : Nat) "LitmusTester$Output" "length" "I") ∈ tg_ := tk_1 (i := 45) (by decide +kernel) (by decide +kernel)
theorem tw_189 : (Jvm.Cond.fieldLink "LitmusTester$Program" (9 : Nat) "LitmusTester$Program" "names" "[J") ∈ tg_ := tk_1 (i := 58) (by decide +kernel) (by decide +kernel)
theorem tw_190 : (Jvm.Cond.fieldLink "LitmusTester$Program" (15 : Nat) "LitmusTester$Program" "initials" "[I") ∈ tg_ := tk_1 (i := 59) (by decide +kernel) (by decide +kernel)
theorem tw_191 : (Jvm.Cond.fieldLink "LitmusTester$Program" (19 : Nat) "LitmusTester$Program" "cells" "[I") ∈ tg_ := tk_1 (i := 60) (by decide +kernel) (by decide +kernel)
theorem tw_192 : (Jvm.Cond.fieldLink "LitmusTester$Program" (22 : Nat) "LitmusTester$Program" "condition" "[I") ∈ tg_ := tk_1 (i := 61) (by decide +kernel) (by decide +kernel)
theorem tw_193 : (Jvm.Cond.fieldLink "LitmusTester$Program" (25 : Nat) "LitmusTester$Program" "locations" "I") ∈ tg_ := tk_1 (i := 62) (by decide +kernel) (by decide +kernel)
theorem tw_194 : (Jvm.Cond.fieldLink "LitmusTester$Program" (29 : Nat) "LitmusTester$Program" "threads" "I") ∈ tg_ := tk_1 (i := 63) (by decide +kernel) (by decide +kernel)
theorem tw_195 : (Jvm.Cond.fieldLink "LitmusTester$Program" (32 : Nat) "LitmusTester$Program" "size" "I") ∈ tg_ := tk_1 (i := 64) (by decide +kernel) (by decide +kernel)
theorem tw_196 : (Jvm.Cond.fieldLink "LitmusTester$Program" (35 : Nat) "LitmusTester$Program" "conditionSize" "I") ∈ tg_ := tk_1 (i := 65) (by decide +kernel) (by decide +kernel)
theorem tw_214 : (Jvm.Cond.arrayClass Jvm.ClassFile.FieldType.long) ∈ tg_ := tk_1 (i := 83) (by decide +kernel) (by decide +kernel)
theorem tw_215 : (Jvm.Cond.arrayClass Jvm.ClassFile.FieldType.int) ∈ tg_ := tk_1 (i := 84) (by decide +kernel) (by decide +kernel)
theorem tw_230 : (Jvm.Cond.fieldLink "LitmusTester$Tokens" (35 : Nat) "LitmusTester$Tokens" "text" "[B") ∈ tg_ := tk_1 (i := 99) (by decide +kernel) (by decide +kernel)
theorem tw_231 : (Jvm.Cond.fieldLink "LitmusTester$Tokens" (11 : Nat) "LitmusTester$Tokens" "signs" "[LLitmusTester$Sign;") ∈ tg_ := tk_1 (i := 100) (by decide +kernel) (by decide +kernel)
theorem tw_232 : (Jvm.Cond.fieldLink "LitmusTester$Tokens" (17 : Nat) "LitmusTester$Tokens" "starts" "[I") ∈ tg_ := tk_1 (i := 101) (by decide +kernel) (by decide +kernel)
theorem tw_233 : (Jvm.Cond.fieldLink "LitmusTester$Tokens" (21 : Nat) "LitmusTester$Tokens" "values" "[J") ∈ tg_ := tk_1 (i := 102) (by decide +kernel) (by decide +kernel)
theorem tw_234 : (Jvm.Cond.fieldLink "LitmusTester$Tokens" (25 : Nat) "LitmusTester$Tokens" "length" "I") ∈ tg_ := tk_1 (i := 103) (by decide +kernel) (by decide +kernel)
theorem tw_235 : (Jvm.Cond.fieldLink "LitmusTester$Tokens" (29 : Nat) "LitmusTester$Tokens" "position" "I") ∈ tg_ := tk_1 (i := 104) (by decide +kernel) (by decide +kernel)
theorem tw_236 : (Jvm.Cond.fieldLink "LitmusTester$Tokens" (32 : Nat) "LitmusTester$Tokens" "current" "I") ∈ tg_ := tk_1 (i := 105) (by decide +kernel) (by decide +kernel)
theorem tw_252 : (Jvm.Cond.fieldLink "LitmusTester$Parser" (35 : Nat) "LitmusTester$Parser" "tokens" "LLitmusTester$Tokens;") ∈ tg_ := tk_1 (i := 121) (by decide +kernel) (by decide +kernel)
theorem tw_253 : (Jvm.Cond.fieldLink "LitmusTester$Parser" (39 : Nat) "LitmusTester$Parser" "program" "LLitmusTester$Program;") ∈ tg_ := tk_1 (i := 122) (by decide +kernel) (by decide +kernel)
theorem tw_254 : (Jvm.Cond.fieldLink "LitmusTester$Parser" (9 : Nat) "LitmusTester$Parser" "error" "I") ∈ tg_ := tk_1 (i := 123) (by decide +kernel) (by decide +kernel)
theorem tw_255 : (Jvm.Cond.fieldLink "LitmusTester$Parser" (15 : Nat) "LitmusTester$Parser" "units" "I") ∈ tg_ := tk_1 (i := 124) (by decide +kernel) (by decide +kernel)
theorem tw_256 : (Jvm.Cond.fieldLink "LitmusTester$Parser" (18 : Nat) "LitmusTester$Parser" "location" "I") ∈ tg_ := tk_1 (i := 125) (by decide +kernel) (by decide +kernel)
theorem tw_257 : (Jvm.Cond.fieldLink "LitmusTester$Parser" (21 : Nat) "LitmusTester$Parser" "target" "I") ∈ tg_ := tk_1 (i := 126) (by decide +kernel) (by decide +kernel)
theorem tw_258 : (Jvm.Cond.fieldLink "LitmusTester$Parser" (24 : Nat) "LitmusTester$Parser" "constant" "I") ∈ tg_ := tk_1 (i := 127) (by decide +kernel) (by decide +kernel)
theorem tw_259 : (Jvm.Cond.fieldLink "LitmusTester$Parser" (27 : Nat) "LitmusTester$Parser" "source" "I") ∈ tg_ := tk_1 (i := 128) (by decide +kernel) (by decide +kernel)
theorem tw_289 : (Jvm.Cond.fieldLink "LitmusTester$StateTable" (11 : Nat) "LitmusTester$StateTable" "states" "[J") ∈ tg_ := tk_1 (i := 158) (by decide +kernel) (by decide +kernel)
theorem tw_290 : (Jvm.Cond.fieldLink "LitmusTester$StateTable" (15 : Nat) "LitmusTester$StateTable" "ways" "[J") ∈ tg_ := tk_1 (i := 159) (by decide +kernel) (by decide +kernel)
theorem tw_291 : (Jvm.Cond.fieldLink "LitmusTester$StateTable" (18 : Nat) "LitmusTester$StateTable" "slots" "[I") ∈ tg_ := tk_1 (i := 160) (by decide +kernel) (by decide +kernel)
theorem tw_292 : (Jvm.Cond.fieldLink "LitmusTester$StateTable" (22 : Nat) "LitmusTester$StateTable" "span" "I") ∈ tg_ := tk_1 (i := 161) (by decide +kernel) (by decide +kernel)
theorem tw_293 : (Jvm.Cond.fieldLink "LitmusTester$StateTable" (26 : Nat) "LitmusTester$StateTable" "size" "I") ∈ tg_ := tk_1 (i := 162) (by decide +kernel) (by decide +kernel)
theorem tw_311 : (Jvm.Cond.fieldLink "LitmusTester$Machine" (56 : Nat) "LitmusTester$Machine" "program" "LLitmusTester$Program;") ∈ tg_ := tk_1 (i := 180) (by decide +kernel) (by decide +kernel)
theorem tw_312 : (Jvm.Cond.fieldLink "LitmusTester$Machine" (11 : Nat) "LitmusTester$Machine" "kinds" "[I") ∈ tg_ := tk_1 (i := 181) (by decide +kernel) (by decide +kernel)
theorem tw_313 : (Jvm.Cond.fieldLink "LitmusTester$Machine" (15 : Nat) "LitmusTester$Machine" "locations" "[I") ∈ tg_ := tk_1 (i := 182) (by decide +kernel) (by decide +kernel)
theorem tw_314 : (Jvm.Cond.fieldLink "LitmusTester$Machine" (18 : Nat) "LitmusTester$Machine" "locationShifts" "[I") ∈ tg_ := tk_1 (i := 183) (by decide +kernel) (by decide +kernel)
theorem tw_315 : (Jvm.Cond.fieldLink "LitmusTester$Machine" (21 : Nat) "LitmusTester$Machine" "targetShifts" "[I") ∈ tg_ := tk_1 (i := 184) (by decide +kernel) (by decide +kernel)
theorem tw_316 : (Jvm.Cond.fieldLink "LitmusTester$Machine" (24 : Nat) "LitmusTester$Machine" "sourceShifts" "[I") ∈ tg_ := tk_1 (i := 185) (by decide +kernel) (by decide +kernel)
theorem tw_317 : (Jvm.Cond.fieldLink "LitmusTester$Machine" (27 : Nat) "LitmusTester$Machine" "constants" "[I") ∈ tg_ := tk_1 (i := 186) (by decide +kernel) (by decide +kernel)
theorem tw_318 : (Jvm.Cond.fieldLink "LitmusTester$Machine" (30 : Nat) "LitmusTester$Machine" "firsts" "[I") ∈ tg_ := tk_1 (i := 187) (by decide +kernel) (by decide +kernel)
theorem tw_319 : (Jvm.Cond.fieldLink "LitmusTester$Machine" (33 : Nat) "LitmusTester$Machine" "sizes" "[I") ∈ tg_ := tk_1 (i := 188) (by decide +kernel) (by decide +kernel)
theorem tw_320 : (Jvm.Cond.fieldLink "LitmusTester$Machine" (36 : Nat) "LitmusTester$Machine" "storesOf" "[I") ∈ tg_ := tk_1 (i := 189) (by decide +kernel) (by decide +kernel)
theorem tw_321 : (Jvm.Cond.fieldLink "LitmusTester$Machine" (39 : Nat) "LitmusTester$Machine" "storesTo" "[I") ∈ tg_ := tk_1 (i := 190) (by decide +kernel) (by decide +kernel)
theorem tw_322 : (Jvm.Cond.fieldLink "LitmusTester$Machine" (42 : Nat) "LitmusTester$Machine" "model" "I") ∈ tg_ := tk_1 (i := 191) (by decide +kernel) (by decide +kernel)
theorem tw_323 : (Jvm.Cond.fieldLink "LitmusTester$Machine" (46 : Nat) "LitmusTester$Machine" "waits" "I") ∈ tg_ := tk_1 (i := 192) (by decide +kernel) (by decide +kernel)
theorem tw_324 : (Jvm.Cond.fieldLink "LitmusTester$Machine" (49 : Nat) "LitmusTester$Machine" "start" "J") ∈ tg_ := tk_1 (i := 193) (by decide +kernel) (by decide +kernel)
theorem tw_325 : (Jvm.Cond.fieldLink "LitmusTester$Machine" (53 : Nat) "LitmusTester$Machine" "end" "J") ∈ tg_ := tk_1 (i := 194) (by decide +kernel) (by decide +kernel)
theorem tw_357 : (Jvm.Cond.fieldLink "LitmusTester$Explorer" (22 : Nat) "LitmusTester$Explorer" "program" "LLitmusTester$Program;") ∈ tg_ := tk_1 (i := 226) (by decide +kernel) (by decide +kernel)
theorem tw_358 : (Jvm.Cond.fieldLink "LitmusTester$Explorer" (31 : Nat) "LitmusTester$Explorer" "machine" "LLitmusTester$Machine;") ∈ tg_ := tk_1 (i := 227) (by decide +kernel) (by decide +kernel)
theorem tw_359 : (Jvm.Cond.fieldLink "LitmusTester$Explorer" (12 : Nat) "LitmusTester$Explorer" "table" "LLitmusTester$StateTable;") ∈ tg_ := tk_1 (i := 228) (by decide +kernel) (by decide +kernel)
theorem tw_360 : (Jvm.Cond.fieldLink "LitmusTester$Explorer" (18 : Nat) "LitmusTester$Explorer" "path" "[I") ∈ tg_ := tk_1 (i := 229) (by decide +kernel) (by decide +kernel)
theorem tw_376 : (Jvm.Cond.methodLink "LitmusTester$Findings" (36 : Nat) ({ cls := "java/util/Arrays", name := "fill", desc := "([II)V" } : Jvm.MethodName)) ∈ tg_ := tk_2 (i := 5) (by decide +kernel) (by decide +kernel)
theorem tw_377 : (Jvm.Cond.static ({ cls := "java/util/Arrays", name := "fill", desc := "([II)V" } : Jvm.MethodName)) ∈ tg_ := tk_2 (i := 6) (by decide +kernel) (by decide +kernel)
theorem tw_378 : (Jvm.Cond.code ({ cls := "java/util/Arrays", name := "fill", desc := "([II)V" } : Jvm.MethodName) prog_34_method_103_code (4 : Nat) (Option.none : Option Jvm.ClassFile.FieldType)) ∈ tg_ := tk_2 (i := 7) (by decide +kernel) (by decide +kernel)
theorem tw_379 : (Jvm.Cond.fieldLink "LitmusTester$Findings" (11 : Nat) "LitmusTester$Findings" "codes" "[I") ∈ tg_ := tk_2 (i := 8) (by decide +kernel) (by decide +kernel)
theorem tw_380 : (Jvm.Cond.fieldLink "LitmusTester$Findings" (15 : Nat) "LitmusTester$Findings" "executions" "[J") ∈ tg_ := tk_2 (i := 9) (by decide +kernel) (by decide +kernel)
theorem tw_381 : (Jvm.Cond.fieldLink "LitmusTester$Findings" (19 : Nat) "LitmusTester$Findings" "size" "I") ∈ tg_ := tk_2 (i := 10) (by decide +kernel) (by decide +kernel)
theorem tw_382 : (Jvm.Cond.fieldLink "LitmusTester$Findings" (23 : Nat) "LitmusTester$Findings" "states" "I") ∈ tg_ := tk_2 (i := 11) (by decide +kernel) (by decide +kernel)
theorem tw_383 : (Jvm.Cond.fieldLink "LitmusTester$Findings" (26 : Nat) "LitmusTester$Findings" "known" "Z") ∈ tg_ := tk_2 (i := 12) (by decide +kernel) (by decide +kernel)
theorem tw_384 : (Jvm.Cond.fieldLink "LitmusTester$Findings" (30 : Nat) "LitmusTester$Findings" "fencedOutcomes" "[I") ∈ tg_ := tk_2 (i := 13) (by decide +kernel) (by decide +kernel)
theorem tw_385 : (Jvm.Cond.fieldLink "LitmusTester$Findings" (33 : Nat) "LitmusTester$Findings" "fencedMatches" "[I") ∈ tg_ := tk_2 (i := 14) (by decide +kernel) (by decide +kernel)
theorem tw_407 : (Jvm.Cond.fieldLink "LitmusTester$Changes" (9 : Nat) "LitmusTester$Changes" "kept" "[I") ∈ tg_ := tk_2 (i := 36) (by decide +kernel) (by decide +kernel)
theorem tw_408 : (Jvm.Cond.fieldLink "LitmusTester$Changes" (15 : Nat) "LitmusTester$Changes" "size" "I") ∈ tg_ := tk_2 (i := 37) (by decide +kernel) (by decide +kernel)
theorem tw_420 : (Jvm.Cond.fieldLink "LitmusTester$Explanation" (32 : Nat) "LitmusTester$Explanation" "program" "LLitmusTester$Program;") ∈ tg_ := tk_2 (i := 49) (by decide +kernel) (by decide +kernel)
theorem tw_421 : (Jvm.Cond.fieldLink "LitmusTester$Explanation" (9 : Nat) "LitmusTester$Explanation" "steps" "[I") ∈ tg_ := tk_2 (i := 50) (by decide +kernel) (by decide +kernel)
theorem tw_422 : (Jvm.Cond.fieldLink "LitmusTester$Explanation" (15 : Nat) "LitmusTester$Explanation" "origins" "[I") ∈ tg_ := tk_2 (i := 51) (by decide +kernel) (by decide +kernel)
theorem tw_423 : (Jvm.Cond.fieldLink "LitmusTester$Explanation" (18 : Nat) "LitmusTester$Explanation" "writers" "[I") ∈ tg_ := tk_2 (i := 52) (by decide +kernel) (by decide +kernel)
theorem tw_424 : (Jvm.Cond.fieldLink "LitmusTester$Explanation" (21 : Nat) "LitmusTester$Explanation" "size" "I") ∈ tg_ := tk_2 (i := 53) (by decide +kernel) (by decide +kernel)
theorem tw_425 : (Jvm.Cond.fieldLink "LitmusTester$Explanation" (25 : Nat) "LitmusTester$Explanation" "writerTotal" "I") ∈ tg_ := tk_2 (i := 54) (by decide +kernel) (by decide +kernel)
theorem tw_426 : (Jvm.Cond.fieldLink "LitmusTester$Explanation" (28 : Nat) "LitmusTester$Explanation" "present" "Z") ∈ tg_ := tk_2 (i := 55) (by decide +kernel) (by decide +kernel)
theorem tw_442 : (Jvm.Cond.fieldLink "LitmusTester" (9 : Nat) "LitmusTester" "text" "[B") ∈ tg_ := tk_2 (i := 71) (by decide +kernel) (by decide +kernel)
theorem tw_443 : (Jvm.Cond.fieldLink "LitmusTester" (13 : Nat) "LitmusTester" "textLength" "I") ∈ tg_ := tk_2 (i := 72) (by decide +kernel) (by decide +kernel)
theorem tw_444 : (Jvm.Cond.fieldLink "LitmusTester" (20 : Nat) "LitmusTester" "output" "LLitmusTester$Output;") ∈ tg_ := tk_2 (i := 73) (by decide +kernel) (by decide +kernel)
theorem tw_445 : (Jvm.Cond.fieldLink "LitmusTester" (27 : Nat) "LitmusTester" "program" "LLitmusTester$Program;") ∈ tg_ := tk_2 (i := 74) (by decide +kernel) (by decide +kernel)
theorem tw_446 : (Jvm.Cond.fieldLink "LitmusTester" (31 : Nat) "LitmusTester" "draft" "LLitmusTester$Program;") ∈ tg_ := tk_2 (i := 75) (by decide +kernel) (by decide +kernel)
theorem tw_447 : (Jvm.Cond.fieldLink "LitmusTester" (39 : Nat) "LitmusTester" "parser" "LLitmusTester$Parser;") ∈ tg_ := tk_2 (i := 76) (by decide +kernel) (by decide +kernel)
theorem tw_448 : (Jvm.Cond.fieldLink "LitmusTester" (48 : Nat) "LitmusTester" "explorer" "LLitmusTester$Explorer;") ∈ tg_ := tk_2 (i := 77) (by decide +kernel) (by decide +kernel)
theorem tw_449 : (Jvm.Cond.fieldLink "LitmusTester" (55 : Nat) "LitmusTester" "sequential" "LLitmusTester$Findings;") ∈ tg_ := tk_2 (i := 78) (by decide +kernel) (by decide +kernel)
theorem tw_450 : (Jvm.Cond.fieldLink "LitmusTester" (59 : Nat) "LitmusTester" "firstInFirstOut" "LLitmusTester$Findings;") ∈ tg_ := tk_2 (i := 79) (by decide +kernel) (by decide +kernel)
theorem tw_451 : (Jvm.Cond.fieldLink "LitmusTester" (62 : Nat) "LitmusTester" "reordered" "LLitmusTester$Findings;") ∈ tg_ := tk_2 (i := 80) (by decide +kernel) (by decide +kernel)
theorem tw_452 : (Jvm.Cond.fieldLink "LitmusTester" (68 : Nat) "LitmusTester" "changes" "LLitmusTester$Changes;") ∈ tg_ := tk_2 (i := 81) (by decide +kernel) (by decide +kernel)
theorem tw_453 : (Jvm.Cond.fieldLink "LitmusTester" (75 : Nat) "LitmusTester" "explanation" "LLitmusTester$Explanation;") ∈ tg_ := tk_2 (i := 82) (by decide +kernel) (by decide +kernel)
theorem tw_483 : (Jvm.Cond.methodLink "LitmusTester" (79 : Nat) ({ cls := "LitmusTester", name := "putFourBytes", desc := "(I)V" } : Jvm.MethodName)) ∈ tg_ := tk_2 (i := 112) (by decide +kernel) (by decide +kernel)
theorem tw_485 : (Jvm.Cond.instanceMethod ({ cls := "LitmusTester", name := "putFourBytes", desc := "(I)V" } : Jvm.MethodName)) ∈ tg_ := tk_2 (i := 114) (by decide +kernel) (by decide +kernel)
theorem tw_486 : (Jvm.Cond.code ({ cls := "LitmusTester", name := "putFourBytes", desc := "(I)V" } : Jvm.MethodName) prog_1_method_3_code (3 : Nat) (Option.none : Option Jvm.ClassFile.FieldType)) ∈ tg_ := tk_2 (i := 115) (by decide +kernel) (by decide +kernel)
theorem tw_499 : (Jvm.Cond.methodLink "LitmusTester" (83 : Nat) ({ cls := "LitmusTester$Parser", name := "parse", desc := "(I)I" } : Jvm.MethodName)) ∈ tg_ := tk_2 (i := 128) (by decide +kernel) (by decide +kernel)
theorem tw_500 : (Jvm.Cond.instanceMethod ({ cls := "LitmusTester$Parser", name := "parse", desc := "(I)I" } : Jvm.MethodName)) ∈ tg_ := tk_2 (i := 129) (by decide +kernel) (by decide +kernel)
theorem tw_501 : (Jvm.Cond.selects "LitmusTester$Parser" ({ cls := "LitmusTester$Parser", name := "parse", desc := "(I)I" } : Jvm.MethodName) ({ cls := "LitmusTester$Parser", name := "parse", desc := "(I)I" } : Jvm.MethodName)) ∈ tg_ := tk_2 (i := 130) (by decide +kernel) (by decide +kernel)
theorem tw_502 : (Jvm.Cond.code ({ cls := "LitmusTester$Parser", name := "parse", desc := "(I)I" } : Jvm.MethodName) prog_8_method_2_code (4 : Nat) (Option.some Jvm.ClassFile.FieldType.int)) ∈ tg_ := tk_2 (i := 131) (by decide +kernel) (by decide +kernel)
theorem tw_503 : (Jvm.Cond.methodLink "LitmusTester$Parser" (43 : Nat) ({ cls := "LitmusTester$Program", name := "clear", desc := "()V" } : Jvm.MethodName)) ∈ tg_ := tk_2 (i := 132) (by decide +kernel) (by decide +kernel)
theorem tw_504 : (Jvm.Cond.instanceMethod ({ cls := "LitmusTester$Program", name := "clear", desc := "()V" } : Jvm.MethodName)) ∈ tg_ := tk_2 (i := 133) (by decide +kernel) (by decide +kernel)
theorem tw_505 : (Jvm.Cond.selects "LitmusTester$Program" ({ cls := "LitmusTester$Program", name := "clear", desc := "()V" } : Jvm.MethodName) ({ cls := "LitmusTester$Program", name := "clear", desc := "()V" } : Jvm.MethodName)) ∈ tg_ := tk_2 (i := 134) (by decide +kernel) (by decide +kernel)
theorem tw_506 : (Jvm.Cond.code ({ cls := "LitmusTester$Program", name := "clear", desc := "()V" } : Jvm.MethodName) prog_9_method_2_code (1 : Nat) (Option.none : Option Jvm.ClassFile.FieldType)) ∈ tg_ := tk_2 (i := 135) (by decide +kernel) (by decide +kernel)
theorem tw_507 : (Jvm.Cond.methodLink "LitmusTester$Parser" (48 : Nat) ({ cls := "LitmusTester$Tokens", name := "split", desc := "(I)V" } : Jvm.MethodName)) ∈ tg_ := tk_2 (i := 136) (by decide +kernel) (by decide +kernel)
theorem tw_508 : (Jvm.Cond.instanceMethod ({ cls := "LitmusTester$Tokens", name := "split", desc := "(I)V" } : Jvm.MethodName)) ∈ tg_ := tk_2 (i := 137) (by decide +kernel) (by decide +kernel)
theorem tw_509 : (Jvm.Cond.selects "LitmusTester$Tokens" ({ cls := "LitmusTester$Tokens", name := "split", desc := "(I)V" } : Jvm.MethodName) ({ cls := "LitmusTester$Tokens", name := "split", desc := "(I)V" } : Jvm.MethodName)) ∈ tg_ := tk_2 (i := 138) (by decide +kernel) (by decide +kernel)
theorem tw_510 : (Jvm.Cond.code ({ cls := "LitmusTester$Tokens", name := "split", desc := "(I)V" } : Jvm.MethodName) prog_12_method_2_code (4 : Nat) (Option.none : Option Jvm.ClassFile.FieldType)) ∈ tg_ := tk_2 (i := 139) (by decide +kernel) (by decide +kernel)
theorem tw_511 : (Jvm.Cond.methodLink "LitmusTester$Tokens" (39 : Nat) ({ cls := "java/lang/Math", name := "min", desc := "(II)I" } : Jvm.MethodName)) ∈ tg_ := tk_2 (i := 140) (by decide +kernel) (by decide +kernel)
theorem tw_512 : (Jvm.Cond.static ({ cls := "java/lang/Math", name := "min", desc := "(II)I" } : Jvm.MethodName)) ∈ tg_ := tk_2 (i := 141) (by decide +kernel) (by decide +kernel)
theorem tw_513 : (Jvm.Cond.code ({ cls := "java/lang/Math", name := "min", desc := "(II)I" } : Jvm.MethodName) prog_25_method_69_code (2 : Nat) (Option.some Jvm.ClassFile.FieldType.int)) ∈ tg_ := tk_2 (i := 142) (by decide +kernel) (by decide +kernel)
theorem tw_514 : (Jvm.Cond.methodLink "LitmusTester$Tokens" (45 : Nat) ({ cls := "LitmusTester$Tokens", name := "skipBlanks", desc := "()V" } : Jvm.MethodName)) ∈ tg_ := tk_2 (i := 143) (by decide +kernel) (by decide +kernel)
theorem tw_516 : (Jvm.Cond.instanceMethod ({ cls := "LitmusTester$Tokens", name := "skipBlanks", desc := "()V" } : Jvm.MethodName)) ∈ tg_ := tk_2 (i := 145) (by decide +kernel) (by decide +kernel)
theorem tw_517 : (Jvm.Cond.code ({ cls := "LitmusTester$Tokens", name := "skipBlanks", desc := "()V" } : Jvm.MethodName) prog_12_method_3_code (1 : Nat) (Option.none : Option Jvm.ClassFile.FieldType)) ∈ tg_ := tk_2 (i := 146) (by decide +kernel) (by decide +kernel)
theorem tw_518 : (Jvm.Cond.constantLong "LitmusTester$Tokens" (48 : Nat) (-1 : Int64)) ∈ tg_ := tk_2 (i := 147) (by decide +kernel) (by decide +kernel)
theorem tw_519 : (Jvm.Cond.fieldLink "LitmusTester$Tokens" (50 : Nat) "LitmusTester$Sign" "END" "LLitmusTester$Sign;") ∈ tg_ := tk_2 (i := 148) (by decide +kernel) (by decide +kernel)
theorem tw_521 : (Jvm.Cond.methodLink "LitmusTester$Tokens" (54 : Nat) ({ cls := "LitmusTester$Tokens", name := "scanToken", desc := "(I)LLitmusTester$Sign;" } : Jvm.MethodName)) ∈ tg_ := tk_2 (i := 150) (by decide +kernel) (by decide +kernel)
theorem tw_523 : (Jvm.Cond.instanceMethod ({ cls := "LitmusTester$Tokens", name := "scanToken", desc := "(I)LLitmusTester$Sign;" } : Jvm.MethodName)) ∈ tg_ := tk_2 (i := 152) (by decide +kernel) (by decide +kernel)
theorem tw_524 : (Jvm.Cond.code ({ cls := "LitmusTester$Tokens", name := "scanToken", desc := "(I)LLitmusTester$Sign;" } : Jvm.MethodName) prog_12_method_4_code (3 : Nat) (Option.some (Jvm.ClassFile.FieldType.object "LitmusTester$Sign"))) ∈ tg_ := tk_2 (i := 153) (by decide +kernel) (by decide +kernel)
theorem tw_525 : (Jvm.Cond.methodLink "LitmusTester$Tokens" (58 : Nat) ({ cls := "LitmusTester$Tokens", name := "isLetter", desc := "(I)Z" } : Jvm.MethodName)) ∈ tg_ := tk_2 (i := 154) (by decide +kernel) (by decide +kernel)
theorem tw_526 : (Jvm.Cond.static ({ cls := "LitmusTester$Tokens", name := "isLetter", desc := "(I)Z" } : Jvm.MethodName)) ∈ tg_ := tk_2 (i := 155) (by decide +kernel) (by decide +kernel)
theorem tw_527 : (Jvm.Cond.code ({ cls := "LitmusTester$Tokens", name := "isLetter", desc := "(I)Z" } : Jvm.MethodName) prog_12_method_9_code (1 : Nat) (Option.some Jvm.ClassFile.FieldType.boolean)) ∈ tg_ := tk_2 (i := 156) (by decide +kernel) (by decide +kernel)
theorem tw_528 : (Jvm.Cond.methodLink "LitmusTester$Tokens" (62 : Nat) ({ cls := "LitmusTester$Tokens", name := "scanWord", desc := "(I)LLitmusTester$Sign;" } : Jvm.MethodName)) ∈ tg_ := tk_2 (i := 157) (by decide +kernel) (by decide +kernel)
theorem tw_530 : (Jvm.Cond.instanceMethod ({ cls := "LitmusTester$Tokens", name := "scanWord", desc := "(I)LLitmusTester$Sign;" } : Jvm.MethodName)) ∈ tg_ := tk_2 (i := 159) (by decide +kernel) (by decide +kernel)
theorem tw_531 : (Jvm.Cond.code ({ cls := "LitmusTester$Tokens", name := "scanWord", desc := "(I)LLitmusTester$Sign;" } : Jvm.MethodName) prog_12_method_5_code (8 : Nat) (Option.some (Jvm.ClassFile.FieldType.object "LitmusTester$Sign"))) ∈ tg_ := tk_2 (i := 160) (by decide +kernel) (by decide +kernel)
theorem tw_532 : (Jvm.Cond.methodLink "LitmusTester$Tokens" (65 : Nat) ({ cls := "LitmusTester$Tokens", name := "isDigit", desc := "(I)Z" } : Jvm.MethodName)) ∈ tg_ := tk_2 (i := 161) (by decide +kernel) (by decide +kernel)
theorem tw_533 : (Jvm.Cond.static ({ cls := "LitmusTester$Tokens", name := "isDigit", desc := "(I)Z" } : Jvm.MethodName)) ∈ tg_ := tk_2 (i := 162) (by decide +kernel) (by decide +kernel)
theorem tw_534 : (Jvm.Cond.code ({ cls := "LitmusTester$Tokens", name := "isDigit", desc := "(I)Z" } : Jvm.MethodName) prog_12_method_10_code (1 : Nat) (Option.some Jvm.ClassFile.FieldType.boolean)) ∈ tg_ := tk_2 (i := 163) (by decide +kernel) (by decide +kernel)
theorem tw_535 : (Jvm.Cond.methodLink "LitmusTester$Tokens" (78 : Nat) ({ cls := "LitmusTester$Tokens", name := "withLetter", desc := "(JI)J" } : Jvm.MethodName)) ∈ tg_ := tk_2 (i := 164) (by decide +kernel) (by decide +kernel)
theorem tw_536 : (Jvm.Cond.static ({ cls := "LitmusTester$Tokens", name := "withLetter", desc := "(JI)J" } : Jvm.MethodName)) ∈ tg_ := tk_2 (i := 165) (by decide +kernel) (by decide +kernel)
theorem tw_537 : (Jvm.Cond.code ({ cls := "LitmusTester$Tokens", name := "withLetter", desc := "(JI)J" } : Jvm.MethodName) prog_12_method_11_code (3 : Nat) (Option.some Jvm.ClassFile.FieldType.long)) ∈ tg_ := tk_2 (i := 166) (by decide +kernel) (by decide +kernel)
theorem tw_538 : (Jvm.Cond.fieldLink "LitmusTester$Tokens" (71 : Nat) "LitmusTester$Sign" "INVALID" "LLitmusTester$Sign;") ∈ tg_ := tk_2 (i := 167) (by decide +kernel) (by decide +kernel)
theorem tw_540 : (Jvm.Cond.methodLink "LitmusTester$Tokens" (82 : Nat) ({ cls := "LitmusTester$Tokens", name := "setValue", desc := "(IJ)V" } : Jvm.MethodName)) ∈ tg_ := tk_2 (i := 169) (by decide +kernel) (by decide +kernel)
theorem tw_542 : (Jvm.Cond.instanceMethod ({ cls := "LitmusTester$Tokens", name := "setValue", desc := "(IJ)V" } : Jvm.MethodName)) ∈ tg_ := tk_2 (i := 171) (by decide +kernel) (by decide +kernel)
theorem tw_543 : (Jvm.Cond.code ({ cls := "LitmusTester$Tokens", name := "setValue", desc := "(IJ)V" } : Jvm.MethodName) prog_12_method_7_code (4 : Nat) (Option.none : Option Jvm.ClassFile.FieldType)) ∈ tg_ := tk_2 (i := 172) (by decide +kernel) (by decide +kernel)
theorem tw_544 : (Jvm.Cond.fieldLink "LitmusTester$Tokens" (86 : Nat) "LitmusTester$Sign" "REGISTER" "LLitmusTester$Sign;") ∈ tg_ := tk_2 (i := 173) (by decide +kernel) (by decide +kernel)
theorem tw_546 : (Jvm.Cond.fieldLink "LitmusTester$Tokens" (89 : Nat) "LitmusTester$Sign" "NAME" "LLitmusTester$Sign;") ∈ tg_ := tk_2 (i := 175) (by decide +kernel) (by decide +kernel)
theorem tw_548 : (Jvm.Cond.methodLink "LitmusTester$Tokens" (74 : Nat) ({ cls := "LitmusTester$Tokens", name := "fixedSign", desc := "(ILLitmusTester$Sign;)LLitmusTester$Sign;" } : Jvm.MethodName)) ∈ tg_ := tk_2 (i := 177) (by decide +kernel) (by decide +kernel)
theorem tw_550 : (Jvm.Cond.instanceMethod ({ cls := "LitmusTester$Tokens", name := "fixedSign", desc := "(ILLitmusTester$Sign;)LLitmusTester$Sign;" } : Jvm.MethodName)) ∈ tg_ := tk_2 (i := 179) (by decide +kernel) (by decide +kernel)
theorem tw_551 : (Jvm.Cond.code ({ cls := "LitmusTester$Tokens", name := "fixedSign", desc := "(ILLitmusTester$Sign;)LLitmusTester$Sign;" } : Jvm.MethodName) prog_12_method_8_code (9 : Nat) (Option.some (Jvm.ClassFile.FieldType.object "LitmusTester$Sign"))) ∈ tg_ := tk_2 (i := 180) (by decide +kernel) (by decide +kernel)
theorem tw_554 : (Jvm.Cond.methodLink "LitmusTester$Tokens" (101 : Nat) ({ cls := "java/lang/String", name := "length", desc := "()I" } : Jvm.MethodName)) ∈ tg_ := tk_2 (i := 183) (by decide +kernel) (by decide +kernel)
theorem tw_555 : (Jvm.Cond.instanceMethod ({ cls := "java/lang/String", name := "length", desc := "()I" } : Jvm.MethodName)) ∈ tg_ := tk_2 (i := 184) (by decide +kernel) (by decide +kernel)
theorem tw_556 : (Jvm.Cond.selects "java/lang/String" ({ cls := "java/lang/String", name := "length", desc := "()I" } : Jvm.MethodName) ({ cls := "java/lang/String", name := "length", desc := "()I" } : Jvm.MethodName)) ∈ tg_ := tk_2 (i := 185) (by decide +kernel) (by decide +kernel)
theorem tw_557 : (Jvm.Cond.code ({ cls := "java/lang/String", name := "length", desc := "()I" } : Jvm.MethodName) prog_27_method_54_code (1 : Nat) (Option.some Jvm.ClassFile.FieldType.int)) ∈ tg_ := tk_2 (i := 186) (by decide +kernel) (by decide +kernel)
theorem tw_558 : (Jvm.Cond.methodLink "java/lang/String" (335 : Nat) ({ cls := "java/lang/String", name := "coder", desc := "()B" } : Jvm.MethodName)) ∈ tg_ := tk_2 (i := 187) (by decide +kernel) (by decide +kernel)
theorem tw_559 : (Jvm.Cond.instanceMethod ({ cls := "java/lang/String", name := "coder", desc := "()B" } : Jvm.MethodName)) ∈ tg_ := tk_2 (i := 188) (by decide +kernel) (by decide +kernel)
theorem tw_560 : (Jvm.Cond.selects "java/lang/String" ({ cls := "java/lang/String", name := "coder", desc := "()B" } : Jvm.MethodName) ({ cls := "java/lang/String", name := "coder", desc := "()B" } : Jvm.MethodName)) ∈ tg_ := tk_2 (i := 189) (by decide +kernel) (by decide +kernel)
theorem tw_561 : (Jvm.Cond.code ({ cls := "java/lang/String", name := "coder", desc := "()B" } : Jvm.MethodName) prog_27_method_152_code (1 : Nat) (Option.some Jvm.ClassFile.FieldType.byte)) ∈ tg_ := tk_2 (i := 190) (by decide +kernel) (by decide +kernel)
theorem tw_562 : (Jvm.Cond.fieldLink "java/lang/String" (38 : Nat) "java/lang/String" "COMPACT_STRINGS" "Z") ∈ tg_ := tk_2 (i := 191) (by decide +kernel) (by decide +kernel)
theorem tw_564 : (Jvm.Cond.methodLink "LitmusTester$Tokens" (106 : Nat) ({ cls := "java/lang/String", name := "charAt", desc := "(I)C" } : Jvm.MethodName)) ∈ tg_ := tk_2 (i := 193) (by decide +kernel) (by decide +kernel)
theorem tw_565 : (Jvm.Cond.instanceMethod ({ cls := "java/lang/String", name := "charAt", desc := "(I)C" } : Jvm.MethodName)) ∈ tg_ := tk_2 (i := 194) (by decide +kernel) (by decide +kernel)
theorem tw_566 : (Jvm.Cond.selects "java/lang/String" ({ cls := "java/lang/String", name := "charAt", desc := "(I)C" } : Jvm.MethodName) ({ cls := "java/lang/String", name := "charAt", desc := "(I)C" } : Jvm.MethodName)) ∈ tg_ := tk_2 (i := 195) (by decide +kernel) (by decide +kernel)
theorem tw_567 : (Jvm.Cond.code ({ cls := "java/lang/String", name := "charAt", desc := "(I)C" } : Jvm.MethodName) prog_27_method_56_code (2 : Nat) (Option.some Jvm.ClassFile.FieldType.char)) ∈ tg_ := tk_2 (i := 196) (by decide +kernel) (by decide +kernel)
theorem tw_568 : (Jvm.Cond.methodLink "java/lang/String" (492 : Nat) ({ cls := "java/lang/String", name := "isLatin1", desc := "()Z" } : Jvm.MethodName)) ∈ tg_ := tk_2 (i := 197) (by decide +kernel) (by decide +kernel)
theorem tw_569 : (Jvm.Cond.instanceMethod ({ cls := "java/lang/String", name := "isLatin1", desc := "()Z" } : Jvm.MethodName)) ∈ tg_ := tk_2 (i := 198) (by decide +kernel) (by decide +kernel)
theorem tw_570 : (Jvm.Cond.selects "java/lang/String" ({ cls := "java/lang/String", name := "isLatin1", desc := "()Z" } : Jvm.MethodName) ({ cls := "java/lang/String", name := "isLatin1", desc := "()Z" } : Jvm.MethodName)) ∈ tg_ := tk_2 (i := 199) (by decide +kernel) (by decide +kernel)
theorem tw_571 : (Jvm.Cond.code ({ cls := "java/lang/String", name := "isLatin1", desc := "()Z" } : Jvm.MethodName) prog_27_method_154_code (1 : Nat) (Option.some Jvm.ClassFile.FieldType.boolean)) ∈ tg_ := tk_2 (i := 200) (by decide +kernel) (by decide +kernel)
theorem tw_572 : (Jvm.Cond.methodLink "java/lang/String" (495 : Nat) ({ cls := "java/lang/StringLatin1", name := "charAt", desc := "([BI)C" } : Jvm.MethodName)) ∈ tg_ := tk_2 (i := 201) (by decide +kernel) (by decide +kernel)
theorem tw_573 : (Jvm.Cond.static ({ cls := "java/lang/StringLatin1", name := "charAt", desc := "([BI)C" } : Jvm.MethodName)) ∈ tg_ := tk_2 (i := 202) (by decide +kernel) (by decide +kernel)
theorem tw_574 : (Jvm.Cond.code ({ cls := "java/lang/StringLatin1", name := "charAt", desc := "([BI)C" } : Jvm.MethodName) prog_28_method_2_code (2 : Nat) (Option.some Jvm.ClassFile.FieldType.char)) ∈ tg_ := tk_2 (i := 203) (by decide +kernel) (by decide +kernel)
theorem tw_575 : (Jvm.Cond.methodLink "java/lang/StringLatin1" (9 : Nat) ({ cls := "java/lang/String", name := "checkIndex", desc := "(II)V" } : Jvm.MethodName)) ∈ tg_ := tk_2 (i := 204) (by decide +kernel) (by decide +kernel)
theorem tw_576 : (Jvm.Cond.static ({ cls := "java/lang/String", name := "checkIndex", desc := "(II)V" } : Jvm.MethodName)) ∈ tg_ := tk_2 (i := 205) (by decide +kernel) (by decide +kernel)
theorem tw_577 : (Jvm.Cond.code ({ cls := "java/lang/String", name := "checkIndex", desc := "(II)V" } : Jvm.MethodName) prog_27_method_155_code (2 : Nat) (Option.none : Option Jvm.ClassFile.FieldType)) ∈ tg_ := tk_2 (i := 206) (by decide +kernel) (by decide +kernel)
theorem tw_578 : (Jvm.Cond.fieldLink "java/lang/String" (1053 : Nat) "jdk/internal/util/Preconditions" "SIOOBE_FORMATTER" "Ljava/util/function/BiFunction;") ∈ tg_ := tk_2 (i := 207) (by decide +kernel) (by decide +kernel)
theorem tw_580 : (Jvm.Cond.methodLink "java/lang/String" (1059 : Nat) ({ cls := "jdk/internal/util/Preconditions", name := "checkIndex", desc := "(IILjava/util/function/BiFunction;)I" } : Jvm.MethodName)) ∈ tg_ := tk_2 (i := 209) (by decide +kernel) (by decide +kernel)
theorem tw_581 : (Jvm.Cond.static ({ cls := "jdk/internal/util/Preconditions", name := "checkIndex", desc := "(IILjava/util/function/BiFunction;)I" } : Jvm.MethodName)) ∈ tg_ := tk_2 (i := 210) (by decide +kernel) (by decide +kernel)
theorem tw_582 : (Jvm.Cond.code ({ cls := "jdk/internal/util/Preconditions", name := "checkIndex", desc := "(IILjava/util/function/BiFunction;)I" } : Jvm.MethodName) prog_36_method_11_code (3 : Nat) (Option.some Jvm.ClassFile.FieldType.int)) ∈ tg_ := tk_2 (i := 211) (by decide +kernel) (by decide +kernel)
theorem tw_583 : (Jvm.Cond.methodLink "java/lang/String" (498 : Nat) ({ cls := "java/lang/StringUTF16", name := "charAt", desc := "([BI)C" } : Jvm.MethodName)) ∈ tg_ := tk_2 (i := 212) (by decide +kernel) (by decide +kernel)
theorem tw_584 : (Jvm.Cond.static ({ cls := "java/lang/StringUTF16", name := "charAt", desc := "([BI)C" } : Jvm.MethodName)) ∈ tg_ := tk_2 (i := 213) (by decide +kernel) (by decide +kernel)
theorem tw_585 : (Jvm.Cond.code ({ cls := "java/lang/StringUTF16", name := "charAt", desc := "([BI)C" } : Jvm.MethodName) prog_29_method_83_code (2 : Nat) (Option.some Jvm.ClassFile.FieldType.char)) ∈ tg_ := tk_2 (i := 214) (by decide +kernel) (by decide +kernel)
theorem tw_586 : (Jvm.Cond.methodLink "java/lang/StringUTF16" (67 : Nat) ({ cls := "java/lang/StringUTF16", name := "checkIndex", desc := "(I[B)V" } : Jvm.MethodName)) ∈ tg_ := tk_2 (i := 215) (by decide +kernel) (by decide +kernel)
theorem tw_587 : (Jvm.Cond.static ({ cls := "java/lang/StringUTF16", name := "checkIndex", desc := "(I[B)V" } : Jvm.MethodName)) ∈ tg_ := tk_2 (i := 216) (by decide +kernel) (by decide +kernel)
theorem tw_588 : (Jvm.Cond.code ({ cls := "java/lang/StringUTF16", name := "checkIndex", desc := "(I[B)V" } : Jvm.MethodName) prog_29_method_91_code (2 : Nat) (Option.none : Option Jvm.ClassFile.FieldType)) ∈ tg_ := tk_2 (i := 217) (by decide +kernel) (by decide +kernel)
theorem tw_589 : (Jvm.Cond.methodLink "java/lang/StringUTF16" (48 : Nat) ({ cls := "java/lang/StringUTF16", name := "length", desc := "([B)I" } : Jvm.MethodName)) ∈ tg_ := tk_2 (i := 218) (by decide +kernel) (by decide +kernel)
theorem tw_590 : (Jvm.Cond.static ({ cls := "java/lang/StringUTF16", name := "length", desc := "([B)I" } : Jvm.MethodName)) ∈ tg_ := tk_2 (i := 219) (by decide +kernel) (by decide +kernel)
theorem tw_591 : (Jvm.Cond.code ({ cls := "java/lang/StringUTF16", name := "length", desc := "([B)I" } : Jvm.MethodName) prog_29_method_6_code (1 : Nat) (Option.some Jvm.ClassFile.FieldType.int)) ∈ tg_ := tk_2 (i := 220) (by decide +kernel) (by decide +kernel)
theorem tw_592 : (Jvm.Cond.methodLink "java/lang/StringUTF16" (414 : Nat) ({ cls := "java/lang/String", name := "checkIndex", desc := "(II)V" } : Jvm.MethodName)) ∈ tg_ := tk_2 (i := 221) (by decide +kernel) (by decide +kernel)
theorem tw_593 : (Jvm.Cond.methodLink "java/lang/StringUTF16" (71 : Nat) ({ cls := "java/lang/StringUTF16", name := "getChar", desc := "([BI)C" } : Jvm.MethodName)) ∈ tg_ := tk_2 (i := 222) (by decide +kernel) (by decide +kernel)
theorem tw_594 : (Jvm.Cond.static ({ cls := "java/lang/StringUTF16", name := "getChar", desc := "([BI)C" } : Jvm.MethodName)) ∈ tg_ := tk_2 (i := 223) (by decide +kernel) (by decide +kernel)
theorem tw_595 : (Jvm.Cond.code ({ cls := "java/lang/StringUTF16", name := "getChar", desc := "([BI)C" } : Jvm.MethodName) prog_29_method_5_code (2 : Nat) (Option.some Jvm.ClassFile.FieldType.char)) ∈ tg_ := tk_2 (i := 224) (by decide +kernel) (by decide +kernel)
theorem tw_602 : (Jvm.Cond.methodLink "LitmusTester$Tokens" (68 : Nat) ({ cls := "LitmusTester$Tokens", name := "scanNumber", desc := "(I)LLitmusTester$Sign;" } : Jvm.MethodName)) ∈ tg_ := tk_2 (i := 231) (by decide +kernel) (by decide +kernel)
theorem tw_604 : (Jvm.Cond.instanceMethod ({ cls := "LitmusTester$Tokens", name := "scanNumber", desc := "(I)LLitmusTester$Sign;" } : Jvm.MethodName)) ∈ tg_ := tk_2 (i := 233) (by decide +kernel) (by decide +kernel)
theorem tw_605 : (Jvm.Cond.code ({ cls := "LitmusTester$Tokens", name := "scanNumber", desc := "(I)LLitmusTester$Sign;" } : Jvm.MethodName) prog_12_method_6_code (4 : Nat) (Option.some (Jvm.ClassFile.FieldType.object "LitmusTester$Sign"))) ∈ tg_ := tk_2 (i := 234) (by decide +kernel) (by decide +kernel)
theorem tw_606 : (Jvm.Cond.fieldLink "LitmusTester$Tokens" (92 : Nat) "LitmusTester$Sign" "NUMBER" "LLitmusTester$Sign;") ∈ tg_ := tk_2 (i := 235) (by decide +kernel) (by decide +kernel)
theorem tw_608 : (Jvm.Cond.methodLink "LitmusTester$Parser" (52 : Nat) ({ cls := "LitmusTester$Tokens", name := "sign", desc := "()LLitmusTester$Sign;" } : Jvm.MethodName)) ∈ tg_ := tk_2 (i := 237) (by decide +kernel) (by decide +kernel)
theorem tw_609 : (Jvm.Cond.instanceMethod ({ cls := "LitmusTester$Tokens", name := "sign", desc := "()LLitmusTester$Sign;" } : Jvm.MethodName)) ∈ tg_ := tk_2 (i := 238) (by decide +kernel) (by decide +kernel)
theorem tw_610 : (Jvm.Cond.selects "LitmusTester$Tokens" ({ cls := "LitmusTester$Tokens", name := "sign", desc := "()LLitmusTester$Sign;" } : Jvm.MethodName) ({ cls := "LitmusTester$Tokens", name := "sign", desc := "()LLitmusTester$Sign;" } : Jvm.MethodName)) ∈ tg_ := tk_2 (i := 239) (by decide +kernel) (by decide +kernel)
theorem tw_611 : (Jvm.Cond.code ({ cls := "LitmusTester$Tokens", name := "sign", desc := "()LLitmusTester$Sign;" } : Jvm.MethodName) prog_12_method_12_code (2 : Nat) (Option.some (Jvm.ClassFile.FieldType.object "LitmusTester$Sign"))) ∈ tg_ := tk_3 (i := 0) (by decide +kernel) (by decide +kernel)
theorem tw_612 : (Jvm.Cond.fieldLink "LitmusTester$Parser" (56 : Nat) "LitmusTester$Sign" "LOC" "LLitmusTester$Sign;") ∈ tg_ := tk_3 (i := 1) (by decide +kernel) (by decide +kernel)
theorem tw_614 : (Jvm.Cond.methodLink "LitmusTester$Parser" (62 : Nat) ({ cls := "LitmusTester$Parser", name := "readDeclaration", desc := "()Z" } : Jvm.MethodName)) ∈ tg_ := tk_3 (i := 3) (by decide +kernel) (by decide +kernel)
theorem tw_616 : (Jvm.Cond.instanceMethod ({ cls := "LitmusTester$Parser", name := "readDeclaration", desc := "()Z" } : Jvm.MethodName)) ∈ tg_ := tk_3 (i := 5) (by decide +kernel) (by decide +kernel)
theorem tw_617 : (Jvm.Cond.code ({ cls := "LitmusTester$Parser", name := "readDeclaration", desc := "()Z" } : Jvm.MethodName) prog_8_method_5_code (3 : Nat) (Option.some Jvm.ClassFile.FieldType.boolean)) ∈ tg_ := tk_3 (i := 6) (by decide +kernel) (by decide +kernel)
theorem tw_618 : (Jvm.Cond.methodLink "LitmusTester$Parser" (99 : Nat) ({ cls := "LitmusTester$Program", name := "locations", desc := "()I" } : Jvm.MethodName)) ∈ tg_ := tk_3 (i := 7) (by decide +kernel) (by decide +kernel)
theorem tw_619 : (Jvm.Cond.instanceMethod ({ cls := "LitmusTester$Program", name := "locations", desc := "()I" } : Jvm.MethodName)) ∈ tg_ := tk_3 (i := 8) (by decide +kernel) (by decide +kernel)
theorem tw_620 : (Jvm.Cond.selects "LitmusTester$Program" ({ cls := "LitmusTester$Program", name := "locations", desc := "()I" } : Jvm.MethodName) ({ cls := "LitmusTester$Program", name := "locations", desc := "()I" } : Jvm.MethodName)) ∈ tg_ := tk_3 (i := 9) (by decide +kernel) (by decide +kernel)
theorem tw_621 : (Jvm.Cond.code ({ cls := "LitmusTester$Program", name := "locations", desc := "()I" } : Jvm.MethodName) prog_9_method_4_code (1 : Nat) (Option.some Jvm.ClassFile.FieldType.int)) ∈ tg_ := tk_3 (i := 10) (by decide +kernel) (by decide +kernel)
theorem tw_622 : (Jvm.Cond.methodLink "LitmusTester$Parser" (92 : Nat) ({ cls := "LitmusTester$Parser", name := "fail", desc := "(I)Z" } : Jvm.MethodName)) ∈ tg_ := tk_3 (i := 11) (by decide +kernel) (by decide +kernel)
theorem tw_624 : (Jvm.Cond.instanceMethod ({ cls := "LitmusTester$Parser", name := "fail", desc := "(I)Z" } : Jvm.MethodName)) ∈ tg_ := tk_3 (i := 13) (by decide +kernel) (by decide +kernel)
theorem tw_625 : (Jvm.Cond.code ({ cls := "LitmusTester$Parser", name := "fail", desc := "(I)Z" } : Jvm.MethodName) prog_8_method_3_code (2 : Nat) (Option.some Jvm.ClassFile.FieldType.boolean)) ∈ tg_ := tk_3 (i := 14) (by decide +kernel) (by decide +kernel)
theorem tw_626 : (Jvm.Cond.methodLink "LitmusTester$Parser" (95 : Nat) ({ cls := "LitmusTester$Tokens", name := "start", desc := "()I" } : Jvm.MethodName)) ∈ tg_ := tk_3 (i := 15) (by decide +kernel) (by decide +kernel)
theorem tw_627 : (Jvm.Cond.instanceMethod ({ cls := "LitmusTester$Tokens", name := "start", desc := "()I" } : Jvm.MethodName)) ∈ tg_ := tk_3 (i := 16) (by decide +kernel) (by decide +kernel)
theorem tw_628 : (Jvm.Cond.selects "LitmusTester$Tokens" ({ cls := "LitmusTester$Tokens", name := "start", desc := "()I" } : Jvm.MethodName) ({ cls := "LitmusTester$Tokens", name := "start", desc := "()I" } : Jvm.MethodName)) ∈ tg_ := tk_3 (i := 17) (by decide +kernel) (by decide +kernel)
theorem tw_629 : (Jvm.Cond.code ({ cls := "LitmusTester$Tokens", name := "start", desc := "()I" } : Jvm.MethodName) prog_12_method_13_code (1 : Nat) (Option.some Jvm.ClassFile.FieldType.int)) ∈ tg_ := tk_3 (i := 18) (by decide +kernel) (by decide +kernel)
theorem tw_630 : (Jvm.Cond.methodLink "LitmusTester$Parser" (75 : Nat) ({ cls := "LitmusTester$Tokens", name := "advance", desc := "()V" } : Jvm.MethodName)) ∈ tg_ := tk_3 (i := 19) (by decide +kernel) (by decide +kernel)
theorem tw_631 : (Jvm.Cond.instanceMethod ({ cls := "LitmusTester$Tokens", name := "advance", desc := "()V" } : Jvm.MethodName)) ∈ tg_ := tk_3 (i := 20) (by decide +kernel) (by decide +kernel)
theorem tw_632 : (Jvm.Cond.selects "LitmusTester$Tokens" ({ cls := "LitmusTester$Tokens", name := "advance", desc := "()V" } : Jvm.MethodName) ({ cls := "LitmusTester$Tokens", name := "advance", desc := "()V" } : Jvm.MethodName)) ∈ tg_ := tk_3 (i := 21) (by decide +kernel) (by decide +kernel)
theorem tw_633 : (Jvm.Cond.code ({ cls := "LitmusTester$Tokens", name := "advance", desc := "()V" } : Jvm.MethodName) prog_12_method_16_code (1 : Nat) (Option.none : Option Jvm.ClassFile.FieldType)) ∈ tg_ := tk_3 (i := 22) (by decide +kernel) (by decide +kernel)
theorem tw_634 : (Jvm.Cond.methodLink "LitmusTester$Tokens" (114 : Nat) ({ cls := "LitmusTester$Tokens", name := "sign", desc := "()LLitmusTester$Sign;" } : Jvm.MethodName)) ∈ tg_ := tk_3 (i := 23) (by decide +kernel) (by decide +kernel)
theorem tw_635 : (Jvm.Cond.fieldLink "LitmusTester$Parser" (102 : Nat) "LitmusTester$Sign" "NAME" "LLitmusTester$Sign;") ∈ tg_ := tk_3 (i := 24) (by decide +kernel) (by decide +kernel)
theorem tw_636 : (Jvm.Cond.methodLink "LitmusTester$Parser" (105 : Nat) ({ cls := "LitmusTester$Tokens", name := "name", desc := "()J" } : Jvm.MethodName)) ∈ tg_ := tk_3 (i := 25) (by decide +kernel) (by decide +kernel)
theorem tw_637 : (Jvm.Cond.instanceMethod ({ cls := "LitmusTester$Tokens", name := "name", desc := "()J" } : Jvm.MethodName)) ∈ tg_ := tk_3 (i := 26) (by decide +kernel) (by decide +kernel)
theorem tw_638 : (Jvm.Cond.selects "LitmusTester$Tokens" ({ cls := "LitmusTester$Tokens", name := "name", desc := "()J" } : Jvm.MethodName) ({ cls := "LitmusTester$Tokens", name := "name", desc := "()J" } : Jvm.MethodName)) ∈ tg_ := tk_3 (i := 27) (by decide +kernel) (by decide +kernel)
theorem tw_639 : (Jvm.Cond.code ({ cls := "LitmusTester$Tokens", name := "name", desc := "()J" } : Jvm.MethodName) prog_12_method_14_code (1 : Nat) (Option.some Jvm.ClassFile.FieldType.long)) ∈ tg_ := tk_3 (i := 28) (by decide +kernel) (by decide +kernel)
theorem tw_640 : (Jvm.Cond.methodLink "LitmusTester$Parser" (109 : Nat) ({ cls := "LitmusTester$Program", name := "locationNamed", desc := "(J)I" } : Jvm.MethodName)) ∈ tg_ := tk_3 (i := 29) (by decide +kernel) (by decide +kernel)
theorem tw_641 : (Jvm.Cond.instanceMethod ({ cls := "LitmusTester$Program", name := "locationNamed", desc := "(J)I" } : Jvm.MethodName)) ∈ tg_ := tk_3 (i := 30) (by decide +kernel) (by decide +kernel)
theorem tw_642 : (Jvm.Cond.selects "LitmusTester$Program" ({ cls := "LitmusTester$Program", name := "locationNamed", desc := "(J)I" } : Jvm.MethodName) ({ cls := "LitmusTester$Program", name := "locationNamed", desc := "(J)I" } : Jvm.MethodName)) ∈ tg_ := tk_3 (i := 31) (by decide +kernel) (by decide +kernel)
theorem tw_643 : (Jvm.Cond.code ({ cls := "LitmusTester$Program", name := "locationNamed", desc := "(J)I" } : Jvm.MethodName) prog_9_method_8_code (4 : Nat) (Option.some Jvm.ClassFile.FieldType.int)) ∈ tg_ := tk_3 (i := 32) (by decide +kernel) (by decide +kernel)
theorem tw_644 : (Jvm.Cond.methodLink "LitmusTester$Parser" (113 : Nat) ({ cls := "LitmusTester$Parser", name := "isValue", desc := "()Z" } : Jvm.MethodName)) ∈ tg_ := tk_3 (i := 33) (by decide +kernel) (by decide +kernel)
theorem tw_646 : (Jvm.Cond.instanceMethod ({ cls := "LitmusTester$Parser", name := "isValue", desc := "()Z" } : Jvm.MethodName)) ∈ tg_ := tk_3 (i := 35) (by decide +kernel) (by decide +kernel)
theorem tw_647 : (Jvm.Cond.code ({ cls := "LitmusTester$Parser", name := "isValue", desc := "()Z" } : Jvm.MethodName) prog_8_method_6_code (1 : Nat) (Option.some Jvm.ClassFile.FieldType.boolean)) ∈ tg_ := tk_3 (i := 36) (by decide +kernel) (by decide +kernel)
theorem tw_648 : (Jvm.Cond.fieldLink "LitmusTester$Parser" (123 : Nat) "LitmusTester$Sign" "NUMBER" "LLitmusTester$Sign;") ∈ tg_ := tk_3 (i := 37) (by decide +kernel) (by decide +kernel)
theorem tw_649 : (Jvm.Cond.methodLink "LitmusTester$Parser" (116 : Nat) ({ cls := "LitmusTester$Tokens", name := "number", desc := "()I" } : Jvm.MethodName)) ∈ tg_ := tk_3 (i := 38) (by decide +kernel) (by decide +kernel)
theorem tw_650 : (Jvm.Cond.instanceMethod ({ cls := "LitmusTester$Tokens", name := "number", desc := "()I" } : Jvm.MethodName)) ∈ tg_ := tk_3 (i := 39) (by decide +kernel) (by decide +kernel)
theorem tw_651 : (Jvm.Cond.selects "LitmusTester$Tokens" ({ cls := "LitmusTester$Tokens", name := "number", desc := "()I" } : Jvm.MethodName) ({ cls := "LitmusTester$Tokens", name := "number", desc := "()I" } : Jvm.MethodName)) ∈ tg_ := tk_3 (i := 40) (by decide +kernel) (by decide +kernel)
theorem tw_652 : (Jvm.Cond.code ({ cls := "LitmusTester$Tokens", name := "number", desc := "()I" } : Jvm.MethodName) prog_12_method_15_code (1 : Nat) (Option.some Jvm.ClassFile.FieldType.int)) ∈ tg_ := tk_3 (i := 41) (by decide +kernel) (by decide +kernel)
theorem tw_653 : (Jvm.Cond.methodLink "LitmusTester$Tokens" (110 : Nat) ({ cls := "LitmusTester$Tokens", name := "name", desc := "()J" } : Jvm.MethodName)) ∈ tg_ := tk_3 (i := 42) (by decide +kernel) (by decide +kernel)
theorem tw_654 : (Jvm.Cond.methodLink "LitmusTester$Parser" (119 : Nat) ({ cls := "LitmusTester$Program", name := "addLocation", desc := "(JI)V" } : Jvm.MethodName)) ∈ tg_ := tk_3 (i := 43) (by decide +kernel) (by decide +kernel)
theorem tw_655 : (Jvm.Cond.instanceMethod ({ cls := "LitmusTester$Program", name := "addLocation", desc := "(JI)V" } : Jvm.MethodName)) ∈ tg_ := tk_3 (i := 44) (by decide +kernel) (by decide +kernel)
theorem tw_656 : (Jvm.Cond.selects "LitmusTester$Program" ({ cls := "LitmusTester$Program", name := "addLocation", desc := "(JI)V" } : Jvm.MethodName) ({ cls := "LitmusTester$Program", name := "addLocation", desc := "(JI)V" } : Jvm.MethodName)) ∈ tg_ := tk_3 (i := 45) (by decide +kernel) (by decide +kernel)
theorem tw_657 : (Jvm.Cond.code ({ cls := "LitmusTester$Program", name := "addLocation", desc := "(JI)V" } : Jvm.MethodName) prog_9_method_7_code (4 : Nat) (Option.none : Option Jvm.ClassFile.FieldType)) ∈ tg_ := tk_3 (i := 46) (by decide +kernel) (by decide +kernel)
theorem tw_658 : (Jvm.Cond.fieldLink "LitmusTester$Parser" (82 : Nat) "LitmusTester$Sign" "SEMICOLON" "LLitmusTester$Sign;") ∈ tg_ := tk_3 (i := 47) (by decide +kernel) (by decide +kernel)
theorem tw_660 : (Jvm.Cond.methodLink "LitmusTester$Parser" (85 : Nat) ({ cls := "LitmusTester$Parser", name := "expect", desc := "(LLitmusTester$Sign;)Z" } : Jvm.MethodName)) ∈ tg_ := tk_3 (i := 49) (by decide +kernel) (by decide +kernel)
theorem tw_662 : (Jvm.Cond.instanceMethod ({ cls := "LitmusTester$Parser", name := "expect", desc := "(LLitmusTester$Sign;)Z" } : Jvm.MethodName)) ∈ tg_ := tk_3 (i := 51) (by decide +kernel) (by decide +kernel)
theorem tw_663 : (Jvm.Cond.code ({ cls := "LitmusTester$Parser", name := "expect", desc := "(LLitmusTester$Sign;)Z" } : Jvm.MethodName) prog_8_method_4_code (2 : Nat) (Option.some Jvm.ClassFile.FieldType.boolean)) ∈ tg_ := tk_3 (i := 52) (by decide +kernel) (by decide +kernel)
theorem tw_664 : (Jvm.Cond.fieldLink "LitmusTester$Parser" (66 : Nat) "LitmusTester$Sign" "THREAD" "LLitmusTester$Sign;") ∈ tg_ := tk_3 (i := 53) (by decide +kernel) (by decide +kernel)
theorem tw_666 : (Jvm.Cond.methodLink "LitmusTester$Parser" (69 : Nat) ({ cls := "LitmusTester$Parser", name := "readThread", desc := "()Z" } : Jvm.MethodName)) ∈ tg_ := tk_3 (i := 55) (by decide +kernel) (by decide +kernel)
theorem tw_668 : (Jvm.Cond.instanceMethod ({ cls := "LitmusTester$Parser", name := "readThread", desc := "()Z" } : Jvm.MethodName)) ∈ tg_ := tk_3 (i := 57) (by decide +kernel) (by decide +kernel)
theorem tw_669 : (Jvm.Cond.code ({ cls := "LitmusTester$Parser", name := "readThread", desc := "()Z" } : Jvm.MethodName) prog_8_method_7_code (4 : Nat) (Option.some Jvm.ClassFile.FieldType.boolean)) ∈ tg_ := tk_3 (i := 58) (by decide +kernel) (by decide +kernel)
theorem tw_670 : (Jvm.Cond.methodLink "LitmusTester$Parser" (126 : Nat) ({ cls := "LitmusTester$Program", name := "threads", desc := "()I" } : Jvm.MethodName)) ∈ tg_ := tk_3 (i := 59) (by decide +kernel) (by decide +kernel)
theorem tw_671 : (Jvm.Cond.instanceMethod ({ cls := "LitmusTester$Program", name := "threads", desc := "()I" } : Jvm.MethodName)) ∈ tg_ := tk_3 (i := 60) (by decide +kernel) (by decide +kernel)
theorem tw_672 : (Jvm.Cond.selects "LitmusTester$Program" ({ cls := "LitmusTester$Program", name := "threads", desc := "()I" } : Jvm.MethodName) ({ cls := "LitmusTester$Program", name := "threads", desc := "()I" } : Jvm.MethodName)) ∈ tg_ := tk_3 (i := 61) (by decide +kernel) (by decide +kernel)
theorem tw_673 : (Jvm.Cond.code ({ cls := "LitmusTester$Program", name := "threads", desc := "()I" } : Jvm.MethodName) prog_9_method_5_code (1 : Nat) (Option.some Jvm.ClassFile.FieldType.int)) ∈ tg_ := tk_3 (i := 62) (by decide +kernel) (by decide +kernel)
theorem tw_674 : (Jvm.Cond.methodLink "LitmusTester$Parser" (129 : Nat) ({ cls := "LitmusTester$Program", name := "addThread", desc := "()V" } : Jvm.MethodName)) ∈ tg_ := tk_3 (i := 63) (by decide +kernel) (by decide +kernel)
theorem tw_675 : (Jvm.Cond.instanceMethod ({ cls := "LitmusTester$Program", name := "addThread", desc := "()V" } : Jvm.MethodName)) ∈ tg_ := tk_3 (i := 64) (by decide +kernel) (by decide +kernel)
theorem tw_676 : (Jvm.Cond.selects "LitmusTester$Program" ({ cls := "LitmusTester$Program", name := "addThread", desc := "()V" } : Jvm.MethodName) ({ cls := "LitmusTester$Program", name := "addThread", desc := "()V" } : Jvm.MethodName)) ∈ tg_ := tk_3 (i := 65) (by decide +kernel) (by decide +kernel)
theorem tw_677 : (Jvm.Cond.code ({ cls := "LitmusTester$Program", name := "addThread", desc := "()V" } : Jvm.MethodName) prog_9_method_11_code (1 : Nat) (Option.none : Option Jvm.ClassFile.FieldType)) ∈ tg_ := tk_3 (i := 66) (by decide +kernel) (by decide +kernel)
theorem tw_678 : (Jvm.Cond.methodLink "LitmusTester$Parser" (132 : Nat) ({ cls := "LitmusTester$Parser", name := "kindOfInstruction", desc := "()I" } : Jvm.MethodName)) ∈ tg_ := tk_3 (i := 67) (by decide +kernel) (by decide +kernel)
theorem tw_680 : (Jvm.Cond.instanceMethod ({ cls := "LitmusTester$Parser", name := "kindOfInstruction", desc := "()I" } : Jvm.MethodName)) ∈ tg_ := tk_3 (i := 69) (by decide +kernel) (by decide +kernel)
theorem tw_681 : (Jvm.Cond.code ({ cls := "LitmusTester$Parser", name := "kindOfInstruction", desc := "()I" } : Jvm.MethodName) prog_8_method_8_code (2 : Nat) (Option.some Jvm.ClassFile.FieldType.int)) ∈ tg_ := tk_3 (i := 70) (by decide +kernel) (by decide +kernel)
theorem tw_682 : (Jvm.Cond.fieldLink "LitmusTester$Parser" (139 : Nat) "LitmusTester$Sign" "STORE" "LLitmusTester$Sign;") ∈ tg_ := tk_3 (i := 71) (by decide +kernel) (by decide +kernel)
theorem tw_684 : (Jvm.Cond.fieldLink "LitmusTester$Parser" (142 : Nat) "LitmusTester$Sign" "LOAD" "LLitmusTester$Sign;") ∈ tg_ := tk_3 (i := 73) (by decide +kernel) (by decide +kernel)
theorem tw_686 : (Jvm.Cond.fieldLink "LitmusTester$Parser" (145 : Nat) "LitmusTester$Sign" "SWAP" "LLitmusTester$Sign;") ∈ tg_ := tk_3 (i := 75) (by decide +kernel) (by decide +kernel)
theorem tw_688 : (Jvm.Cond.fieldLink "LitmusTester$Parser" (148 : Nat) "LitmusTester$Sign" "FENCE" "LLitmusTester$Sign;") ∈ tg_ := tk_3 (i := 77) (by decide +kernel) (by decide +kernel)
theorem tw_690 : (Jvm.Cond.methodLink "LitmusTester$Parser" (135 : Nat) ({ cls := "LitmusTester$Parser", name := "readInstruction", desc := "(II)Z" } : Jvm.MethodName)) ∈ tg_ := tk_3 (i := 79) (by decide +kernel) (by decide +kernel)
theorem tw_692 : (Jvm.Cond.instanceMethod ({ cls := "LitmusTester$Parser", name := "readInstruction", desc := "(II)Z" } : Jvm.MethodName)) ∈ tg_ := tk_3 (i := 81) (by decide +kernel) (by decide +kernel)
theorem tw_693 : (Jvm.Cond.code ({ cls := "LitmusTester$Parser", name := "readInstruction", desc := "(II)Z" } : Jvm.MethodName) prog_8_method_9_code (6 : Nat) (Option.some Jvm.ClassFile.FieldType.boolean)) ∈ tg_ := tk_3 (i := 82) (by decide +kernel) (by decide +kernel)
theorem tw_694 : (Jvm.Cond.methodLink "LitmusTester$Parser" (151 : Nat) ({ cls := "LitmusTester$Parser", name := "isFull", desc := "(II)Z" } : Jvm.MethodName)) ∈ tg_ := tk_3 (i := 83) (by decide +kernel) (by decide +kernel)
theorem tw_696 : (Jvm.Cond.instanceMethod ({ cls := "LitmusTester$Parser", name := "isFull", desc := "(II)Z" } : Jvm.MethodName)) ∈ tg_ := tk_3 (i := 85) (by decide +kernel) (by decide +kernel)
theorem tw_697 : (Jvm.Cond.code ({ cls := "LitmusTester$Parser", name := "isFull", desc := "(II)Z" } : Jvm.MethodName) prog_8_method_10_code (3 : Nat) (Option.some Jvm.ClassFile.FieldType.boolean)) ∈ tg_ := tk_3 (i := 86) (by decide +kernel) (by decide +kernel)
theorem tw_698 : (Jvm.Cond.methodLink "LitmusTester$Parser" (167 : Nat) ({ cls := "LitmusTester$Program", name := "sizeOf", desc := "(I)I" } : Jvm.MethodName)) ∈ tg_ := tk_3 (i := 87) (by decide +kernel) (by decide +kernel)
theorem tw_699 : (Jvm.Cond.instanceMethod ({ cls := "LitmusTester$Program", name := "sizeOf", desc := "(I)I" } : Jvm.MethodName)) ∈ tg_ := tk_3 (i := 88) (by decide +kernel) (by decide +kernel)
theorem tw_700 : (Jvm.Cond.selects "LitmusTester$Program" ({ cls := "LitmusTester$Program", name := "sizeOf", desc := "(I)I" } : Jvm.MethodName) ({ cls := "LitmusTester$Program", name := "sizeOf", desc := "(I)I" } : Jvm.MethodName)) ∈ tg_ := tk_3 (i := 89) (by decide +kernel) (by decide +kernel)
theorem tw_701 : (Jvm.Cond.code ({ cls := "LitmusTester$Program", name := "sizeOf", desc := "(I)I" } : Jvm.MethodName) prog_9_method_17_code (4 : Nat) (Option.some Jvm.ClassFile.FieldType.int)) ∈ tg_ := tk_3 (i := 90) (by decide +kernel) (by decide +kernel)
theorem tw_702 : (Jvm.Cond.methodLink "LitmusTester$Program" (48 : Nat) ({ cls := "LitmusTester$Program", name := "property", desc := "(II)I" } : Jvm.MethodName)) ∈ tg_ := tk_3 (i := 91) (by decide +kernel) (by decide +kernel)
theorem tw_703 : (Jvm.Cond.instanceMethod ({ cls := "LitmusTester$Program", name := "property", desc := "(II)I" } : Jvm.MethodName)) ∈ tg_ := tk_3 (i := 92) (by decide +kernel) (by decide +kernel)
theorem tw_704 : (Jvm.Cond.selects "LitmusTester$Program" ({ cls := "LitmusTester$Program", name := "property", desc := "(II)I" } : Jvm.MethodName) ({ cls := "LitmusTester$Program", name := "property", desc := "(II)I" } : Jvm.MethodName)) ∈ tg_ := tk_3 (i := 93) (by decide +kernel) (by decide +kernel)
theorem tw_705 : (Jvm.Cond.code ({ cls := "LitmusTester$Program", name := "property", desc := "(II)I" } : Jvm.MethodName) prog_9_method_14_code (5 : Nat) (Option.some Jvm.ClassFile.FieldType.int)) ∈ tg_ := tk_3 (i := 94) (by decide +kernel) (by decide +kernel)
theorem tw_706 : (Jvm.Cond.methodLink "LitmusTester$Parser" (171 : Nat) ({ cls := "LitmusTester$Program", name := "size", desc := "()I" } : Jvm.MethodName)) ∈ tg_ := tk_3 (i := 95) (by decide +kernel) (by decide +kernel)
theorem tw_707 : (Jvm.Cond.instanceMethod ({ cls := "LitmusTester$Program", name := "size", desc := "()I" } : Jvm.MethodName)) ∈ tg_ := tk_3 (i := 96) (by decide +kernel) (by decide +kernel)
theorem tw_708 : (Jvm.Cond.selects "LitmusTester$Program" ({ cls := "LitmusTester$Program", name := "size", desc := "()I" } : Jvm.MethodName) ({ cls := "LitmusTester$Program", name := "size", desc := "()I" } : Jvm.MethodName)) ∈ tg_ := tk_3 (i := 97) (by decide +kernel) (by decide +kernel)
theorem tw_709 : (Jvm.Cond.code ({ cls := "LitmusTester$Program", name := "size", desc := "()I" } : Jvm.MethodName) prog_9_method_6_code (1 : Nat) (Option.some Jvm.ClassFile.FieldType.int)) ∈ tg_ := tk_3 (i := 98) (by decide +kernel) (by decide +kernel)
theorem tw_710 : (Jvm.Cond.methodLink "LitmusTester$Parser" (174 : Nat) ({ cls := "LitmusTester$Program", name := "accessesOf", desc := "(I)I" } : Jvm.MethodName)) ∈ tg_ := tk_3 (i := 99) (by decide +kernel) (by decide +kernel)
theorem tw_711 : (Jvm.Cond.instanceMethod ({ cls := "LitmusTester$Program", name := "accessesOf", desc := "(I)I" } : Jvm.MethodName)) ∈ tg_ := tk_3 (i := 100) (by decide +kernel) (by decide +kernel)
theorem tw_712 : (Jvm.Cond.selects "LitmusTester$Program" ({ cls := "LitmusTester$Program", name := "accessesOf", desc := "(I)I" } : Jvm.MethodName) ({ cls := "LitmusTester$Program", name := "accessesOf", desc := "(I)I" } : Jvm.MethodName)) ∈ tg_ := tk_3 (i := 101) (by decide +kernel) (by decide +kernel)
theorem tw_713 : (Jvm.Cond.code ({ cls := "LitmusTester$Program", name := "accessesOf", desc := "(I)I" } : Jvm.MethodName) prog_9_method_18_code (4 : Nat) (Option.some Jvm.ClassFile.FieldType.int)) ∈ tg_ := tk_3 (i := 102) (by decide +kernel) (by decide +kernel)
theorem tw_714 : (Jvm.Cond.methodLink "LitmusTester$Parser" (177 : Nat) ({ cls := "LitmusTester$Program", name := "accesses", desc := "()I" } : Jvm.MethodName)) ∈ tg_ := tk_3 (i := 103) (by decide +kernel) (by decide +kernel)
theorem tw_715 : (Jvm.Cond.instanceMethod ({ cls := "LitmusTester$Program", name := "accesses", desc := "()I" } : Jvm.MethodName)) ∈ tg_ := tk_3 (i := 104) (by decide +kernel) (by decide +kernel)
theorem tw_716 : (Jvm.Cond.selects "LitmusTester$Program" ({ cls := "LitmusTester$Program", name := "accesses", desc := "()I" } : Jvm.MethodName) ({ cls := "LitmusTester$Program", name := "accesses", desc := "()I" } : Jvm.MethodName)) ∈ tg_ := tk_3 (i := 105) (by decide +kernel) (by decide +kernel)
theorem tw_717 : (Jvm.Cond.code ({ cls := "LitmusTester$Program", name := "accesses", desc := "()I" } : Jvm.MethodName) prog_9_method_19_code (3 : Nat) (Option.some Jvm.ClassFile.FieldType.int)) ∈ tg_ := tk_3 (i := 106) (by decide +kernel) (by decide +kernel)
theorem tw_718 : (Jvm.Cond.methodLink "LitmusTester$Program" (52 : Nat) ({ cls := "LitmusTester$Program", name := "accessesOf", desc := "(I)I" } : Jvm.MethodName)) ∈ tg_ := tk_3 (i := 107) (by decide +kernel) (by decide +kernel)
theorem tw_719 : (Jvm.Cond.methodLink "LitmusTester$Parser" (154 : Nat) ({ cls := "LitmusTester$Parser", name := "readTarget", desc := "(I)Z" } : Jvm.MethodName)) ∈ tg_ := tk_3 (i := 108) (by decide +kernel) (by decide +kernel)
theorem tw_721 : (Jvm.Cond.instanceMethod ({ cls := "LitmusTester$Parser", name := "readTarget", desc := "(I)Z" } : Jvm.MethodName)) ∈ tg_ := tk_3 (i := 110) (by decide +kernel) (by decide +kernel)
theorem tw_722 : (Jvm.Cond.code ({ cls := "LitmusTester$Parser", name := "readTarget", desc := "(I)Z" } : Jvm.MethodName) prog_8_method_12_code (2 : Nat) (Option.some Jvm.ClassFile.FieldType.boolean)) ∈ tg_ := tk_3 (i := 111) (by decide +kernel) (by decide +kernel)
theorem tw_723 : (Jvm.Cond.fieldLink "LitmusTester$Parser" (180 : Nat) "LitmusTester$Sign" "REGISTER" "LLitmusTester$Sign;") ∈ tg_ := tk_3 (i := 112) (by decide +kernel) (by decide +kernel)
theorem tw_724 : (Jvm.Cond.methodLink "LitmusTester$Parser" (183 : Nat) ({ cls := "LitmusTester$Program", name := "isTarget", desc := "(II)Z" } : Jvm.MethodName)) ∈ tg_ := tk_3 (i := 113) (by decide +kernel) (by decide +kernel)
theorem tw_725 : (Jvm.Cond.instanceMethod ({ cls := "LitmusTester$Program", name := "isTarget", desc := "(II)Z" } : Jvm.MethodName)) ∈ tg_ := tk_3 (i := 114) (by decide +kernel) (by decide +kernel)
theorem tw_726 : (Jvm.Cond.selects "LitmusTester$Program" ({ cls := "LitmusTester$Program", name := "isTarget", desc := "(II)Z" } : Jvm.MethodName) ({ cls := "LitmusTester$Program", name := "isTarget", desc := "(II)Z" } : Jvm.MethodName)) ∈ tg_ := tk_3 (i := 115) (by decide +kernel) (by decide +kernel)
theorem tw_727 : (Jvm.Cond.code ({ cls := "LitmusTester$Program", name := "isTarget", desc := "(II)Z" } : Jvm.MethodName) prog_9_method_20_code (4 : Nat) (Option.some Jvm.ClassFile.FieldType.boolean)) ∈ tg_ := tk_3 (i := 116) (by decide +kernel) (by decide +kernel)
theorem tw_728 : (Jvm.Cond.methodLink "LitmusTester$Parser" (157 : Nat) ({ cls := "LitmusTester$Parser", name := "readLocation", desc := "()Z" } : Jvm.MethodName)) ∈ tg_ := tk_3 (i := 117) (by decide +kernel) (by decide +kernel)
theorem tw_730 : (Jvm.Cond.instanceMethod ({ cls := "LitmusTester$Parser", name := "readLocation", desc := "()Z" } : Jvm.MethodName)) ∈ tg_ := tk_3 (i := 119) (by decide +kernel) (by decide +kernel)
theorem tw_731 : (Jvm.Cond.code ({ cls := "LitmusTester$Parser", name := "readLocation", desc := "()Z" } : Jvm.MethodName) prog_8_method_11_code (1 : Nat) (Option.some Jvm.ClassFile.FieldType.boolean)) ∈ tg_ := tk_3 (i := 120) (by decide +kernel) (by decide +kernel)
theorem tw_732 : (Jvm.Cond.methodLink "LitmusTester$Parser" (160 : Nat) ({ cls := "LitmusTester$Parser", name := "readValue", desc := "(I)Z" } : Jvm.MethodName)) ∈ tg_ := tk_3 (i := 121) (by decide +kernel) (by decide +kernel)
theorem tw_734 : (Jvm.Cond.instanceMethod ({ cls := "LitmusTester$Parser", name := "readValue", desc := "(I)Z" } : Jvm.MethodName)) ∈ tg_ := tk_3 (i := 123) (by decide +kernel) (by decide +kernel)
theorem tw_735 : (Jvm.Cond.code ({ cls := "LitmusTester$Parser", name := "readValue", desc := "(I)Z" } : Jvm.MethodName) prog_8_method_13_code (2 : Nat) (Option.some Jvm.ClassFile.FieldType.boolean)) ∈ tg_ := tk_3 (i := 124) (by decide +kernel) (by decide +kernel)
theorem tw_736 : (Jvm.Cond.methodLink "LitmusTester$Parser" (163 : Nat) ({ cls := "LitmusTester$Program", name := "addInstruction", desc := "(IIIII)V" } : Jvm.MethodName)) ∈ tg_ := tk_3 (i := 125) (by decide +kernel) (by decide +kernel)
theorem tw_737 : (Jvm.Cond.instanceMethod ({ cls := "LitmusTester$Program", name := "addInstruction", desc := "(IIIII)V" } : Jvm.MethodName)) ∈ tg_ := tk_3 (i := 126) (by decide +kernel) (by decide +kernel)
theorem tw_738 : (Jvm.Cond.selects "LitmusTester$Program" ({ cls := "LitmusTester$Program", name := "addInstruction", desc := "(IIIII)V" } : Jvm.MethodName) ({ cls := "LitmusTester$Program", name := "addInstruction", desc := "(IIIII)V" } : Jvm.MethodName)) ∈ tg_ := tk_3 (i := 127) (by decide +kernel) (by decide +kernel)
theorem tw_739 : (Jvm.Cond.code ({ cls := "LitmusTester$Program", name := "addInstruction", desc := "(IIIII)V" } : Jvm.MethodName) prog_9_method_12_code (6 : Nat) (Option.none : Option Jvm.ClassFile.FieldType)) ∈ tg_ := tk_3 (i := 128) (by decide +kernel) (by decide +kernel)
theorem tw_740 : (Jvm.Cond.methodLink "LitmusTester$Program" (44 : Nat) ({ cls := "LitmusTester$Program", name := "setProperty", desc := "(III)V" } : Jvm.MethodName)) ∈ tg_ := tk_3 (i := 129) (by decide +kernel) (by decide +kernel)
theorem tw_742 : (Jvm.Cond.instanceMethod ({ cls := "LitmusTester$Program", name := "setProperty", desc := "(III)V" } : Jvm.MethodName)) ∈ tg_ := tk_3 (i := 131) (by decide +kernel) (by decide +kernel)
theorem tw_743 : (Jvm.Cond.code ({ cls := "LitmusTester$Program", name := "setProperty", desc := "(III)V" } : Jvm.MethodName) prog_9_method_13_code (5 : Nat) (Option.none : Option Jvm.ClassFile.FieldType)) ∈ tg_ := tk_3 (i := 132) (by decide +kernel) (by decide +kernel)
theorem tw_744 : (Jvm.Cond.fieldLink "LitmusTester$Parser" (72 : Nat) "LitmusTester$Sign" "EXISTS" "LLitmusTester$Sign;") ∈ tg_ := tk_3 (i := 133) (by decide +kernel) (by decide +kernel)
theorem tw_746 : (Jvm.Cond.methodLink "LitmusTester$Parser" (78 : Nat) ({ cls := "LitmusTester$Parser", name := "readCondition", desc := "(I)Z" } : Jvm.MethodName)) ∈ tg_ := tk_3 (i := 135) (by decide +kernel) (by decide +kernel)
theorem tw_748 : (Jvm.Cond.instanceMethod ({ cls := "LitmusTester$Parser", name := "readCondition", desc := "(I)Z" } : Jvm.MethodName)) ∈ tg_ := tk_3 (i := 137) (by decide +kernel) (by decide +kernel)
theorem tw_749 : (Jvm.Cond.code ({ cls := "LitmusTester$Parser", name := "readCondition", desc := "(I)Z" } : Jvm.MethodName) prog_8_method_14_code (5 : Nat) (Option.some Jvm.ClassFile.FieldType.boolean)) ∈ tg_ := tk_3 (i := 138) (by decide +kernel) (by decide +kernel)
theorem tw_750 : (Jvm.Cond.methodLink "LitmusTester$Parser" (186 : Nat) ({ cls := "LitmusTester$Parser", name := "readUnit", desc := "(I)Z" } : Jvm.MethodName)) ∈ tg_ := tk_3 (i := 139) (by decide +kernel) (by decide +kernel)
theorem tw_752 : (Jvm.Cond.instanceMethod ({ cls := "LitmusTester$Parser", name := "readUnit", desc := "(I)Z" } : Jvm.MethodName)) ∈ tg_ := tk_3 (i := 141) (by decide +kernel) (by decide +kernel)
theorem tw_753 : (Jvm.Cond.code ({ cls := "LitmusTester$Parser", name := "readUnit", desc := "(I)Z" } : Jvm.MethodName) prog_8_method_16_code (3 : Nat) (Option.some Jvm.ClassFile.FieldType.boolean)) ∈ tg_ := tk_3 (i := 142) (by decide +kernel) (by decide +kernel)
theorem tw_754 : (Jvm.Cond.fieldLink "LitmusTester$Parser" (201 : Nat) "LitmusTester$Sign" "NOT" "LLitmusTester$Sign;") ∈ tg_ := tk_3 (i := 143) (by decide +kernel) (by decide +kernel)
theorem tw_756 : (Jvm.Cond.fieldLink "LitmusTester$Parser" (204 : Nat) "LitmusTester$Sign" "OPEN" "LLitmusTester$Sign;") ∈ tg_ := tk_3 (i := 145) (by decide +kernel) (by decide +kernel)
theorem tw_758 : (Jvm.Cond.methodLink "LitmusTester$Parser" (207 : Nat) ({ cls := "LitmusTester$Parser", name := "readComparison", desc := "()Z" } : Jvm.MethodName)) ∈ tg_ := tk_3 (i := 147) (by decide +kernel) (by decide +kernel)
theorem tw_760 : (Jvm.Cond.instanceMethod ({ cls := "LitmusTester$Parser", name := "readComparison", desc := "()Z" } : Jvm.MethodName)) ∈ tg_ := tk_3 (i := 149) (by decide +kernel) (by decide +kernel)
theorem tw_761 : (Jvm.Cond.code ({ cls := "LitmusTester$Parser", name := "readComparison", desc := "()Z" } : Jvm.MethodName) prog_8_method_18_code (3 : Nat) (Option.some Jvm.ClassFile.FieldType.boolean)) ∈ tg_ := tk_3 (i := 150) (by decide +kernel) (by decide +kernel)
theorem tw_762 : (Jvm.Cond.methodLink "LitmusTester$Parser" (216 : Nat) ({ cls := "LitmusTester$Program", name := "locationShift", desc := "(I)I" } : Jvm.MethodName)) ∈ tg_ := tk_3 (i := 151) (by decide +kernel) (by decide +kernel)
theorem tw_763 : (Jvm.Cond.instanceMethod ({ cls := "LitmusTester$Program", name := "locationShift", desc := "(I)I" } : Jvm.MethodName)) ∈ tg_ := tk_3 (i := 152) (by decide +kernel) (by decide +kernel)
theorem tw_764 : (Jvm.Cond.selects "LitmusTester$Program" ({ cls := "LitmusTester$Program", name := "locationShift", desc := "(I)I" } : Jvm.MethodName) ({ cls := "LitmusTester$Program", name := "locationShift", desc := "(I)I" } : Jvm.MethodName)) ∈ tg_ := tk_3 (i := 153) (by decide +kernel) (by decide +kernel)
theorem tw_765 : (Jvm.Cond.code ({ cls := "LitmusTester$Program", name := "locationShift", desc := "(I)I" } : Jvm.MethodName) prog_9_method_23_code (2 : Nat) (Option.some Jvm.ClassFile.FieldType.int)) ∈ tg_ := tk_3 (i := 154) (by decide +kernel) (by decide +kernel)
theorem tw_766 : (Jvm.Cond.fieldLink "LitmusTester$Parser" (219 : Nat) "LitmusTester$Sign" "COLON" "LLitmusTester$Sign;") ∈ tg_ := tk_3 (i := 155) (by decide +kernel) (by decide +kernel)
theorem tw_768 : (Jvm.Cond.methodLink "LitmusTester$Parser" (222 : Nat) ({ cls := "LitmusTester$Parser", name := "isTargetOf", desc := "(I)Z" } : Jvm.MethodName)) ∈ tg_ := tk_3 (i := 157) (by decide +kernel) (by decide +kernel)
theorem tw_770 : (Jvm.Cond.instanceMethod ({ cls := "LitmusTester$Parser", name := "isTargetOf", desc := "(I)Z" } : Jvm.MethodName)) ∈ tg_ := tk_3 (i := 159) (by decide +kernel) (by decide +kernel)
theorem tw_771 : (Jvm.Cond.code ({ cls := "LitmusTester$Parser", name := "isTargetOf", desc := "(I)Z" } : Jvm.MethodName) prog_8_method_19_code (2 : Nat) (Option.some Jvm.ClassFile.FieldType.boolean)) ∈ tg_ := tk_3 (i := 160) (by decide +kernel) (by decide +kernel)
theorem tw_772 : (Jvm.Cond.methodLink "LitmusTester$Parser" (225 : Nat) ({ cls := "LitmusTester$Program", name := "registerShift", desc := "(II)I" } : Jvm.MethodName)) ∈ tg_ := tk_3 (i := 161) (by decide +kernel) (by decide +kernel)
theorem tw_773 : (Jvm.Cond.instanceMethod ({ cls := "LitmusTester$Program", name := "registerShift", desc := "(II)I" } : Jvm.MethodName)) ∈ tg_ := tk_3 (i := 162) (by decide +kernel) (by decide +kernel)
theorem tw_774 : (Jvm.Cond.selects "LitmusTester$Program" ({ cls := "LitmusTester$Program", name := "registerShift", desc := "(II)I" } : Jvm.MethodName) ({ cls := "LitmusTester$Program", name := "registerShift", desc := "(II)I" } : Jvm.MethodName)) ∈ tg_ := tk_3 (i := 163) (by decide +kernel) (by decide +kernel)
theorem tw_775 : (Jvm.Cond.code ({ cls := "LitmusTester$Program", name := "registerShift", desc := "(II)I" } : Jvm.MethodName) prog_9_method_22_code (3 : Nat) (Option.some Jvm.ClassFile.FieldType.int)) ∈ tg_ := tk_3 (i := 164) (by decide +kernel) (by decide +kernel)
theorem tw_776 : (Jvm.Cond.methodLink "LitmusTester$Program" (56 : Nat) ({ cls := "LitmusTester$Program", name := "codeBits", desc := "()I" } : Jvm.MethodName)) ∈ tg_ := tk_3 (i := 165) (by decide +kernel) (by decide +kernel)
theorem tw_777 : (Jvm.Cond.instanceMethod ({ cls := "LitmusTester$Program", name := "codeBits", desc := "()I" } : Jvm.MethodName)) ∈ tg_ := tk_3 (i := 166) (by decide +kernel) (by decide +kernel)
theorem tw_778 : (Jvm.Cond.selects "LitmusTester$Program" ({ cls := "LitmusTester$Program", name := "codeBits", desc := "()I" } : Jvm.MethodName) ({ cls := "LitmusTester$Program", name := "codeBits", desc := "()I" } : Jvm.MethodName)) ∈ tg_ := tk_3 (i := 167) (by decide +kernel) (by decide +kernel)
theorem tw_779 : (Jvm.Cond.code ({ cls := "LitmusTester$Program", name := "codeBits", desc := "()I" } : Jvm.MethodName) prog_9_method_21_code (1 : Nat) (Option.some Jvm.ClassFile.FieldType.int)) ∈ tg_ := tk_3 (i := 168) (by decide +kernel) (by decide +kernel)
theorem tw_780 : (Jvm.Cond.fieldLink "LitmusTester$Parser" (229 : Nat) "LitmusTester$Sign" "LESS" "LLitmusTester$Sign;") ∈ tg_ := tk_3 (i := 169) (by decide +kernel) (by decide +kernel)
theorem tw_782 : (Jvm.Cond.fieldLink "LitmusTester$Parser" (232 : Nat) "LitmusTester$Sign" "EQUAL" "LLitmusTester$Sign;") ∈ tg_ := tk_3 (i := 171) (by decide +kernel) (by decide +kernel)
theorem tw_784 : (Jvm.Cond.methodLink "LitmusTester$Parser" (235 : Nat) ({ cls := "LitmusTester$Program", name := "comparison", desc := "(IZI)I" } : Jvm.MethodName)) ∈ tg_ := tk_3 (i := 173) (by decide +kernel) (by decide +kernel)
theorem tw_785 : (Jvm.Cond.static ({ cls := "LitmusTester$Program", name := "comparison", desc := "(IZI)I" } : Jvm.MethodName)) ∈ tg_ := tk_3 (i := 174) (by decide +kernel) (by decide +kernel)
theorem tw_786 : (Jvm.Cond.code ({ cls := "LitmusTester$Program", name := "comparison", desc := "(IZI)I" } : Jvm.MethodName) prog_9_method_24_code (3 : Nat) (Option.some Jvm.ClassFile.FieldType.int)) ∈ tg_ := tk_3 (i := 175) (by decide +kernel) (by decide +kernel)
theorem tw_787 : (Jvm.Cond.methodLink "LitmusTester$Parser" (189 : Nat) ({ cls := "LitmusTester$Program", name := "addToCondition", desc := "(I)V" } : Jvm.MethodName)) ∈ tg_ := tk_3 (i := 176) (by decide +kernel) (by decide +kernel)
theorem tw_788 : (Jvm.Cond.instanceMethod ({ cls := "LitmusTester$Program", name := "addToCondition", desc := "(I)V" } : Jvm.MethodName)) ∈ tg_ := tk_3 (i := 177) (by decide +kernel) (by decide +kernel)
theorem tw_789 : (Jvm.Cond.selects "LitmusTester$Program" ({ cls := "LitmusTester$Program", name := "addToCondition", desc := "(I)V" } : Jvm.MethodName) ({ cls := "LitmusTester$Program", name := "addToCondition", desc := "(I)V" } : Jvm.MethodName)) ∈ tg_ := tk_3 (i := 178) (by decide +kernel) (by decide +kernel)
theorem tw_790 : (Jvm.Cond.code ({ cls := "LitmusTester$Program", name := "addToCondition", desc := "(I)V" } : Jvm.MethodName) prog_9_method_25_code (2 : Nat) (Option.none : Option Jvm.ClassFile.FieldType)) ∈ tg_ := tk_3 (i := 179) (by decide +kernel) (by decide +kernel)
theorem tw_791 : (Jvm.Cond.methodLink "LitmusTester$Parser" (210 : Nat) ({ cls := "LitmusTester$Parser", name := "readNegated", desc := "(I)Z" } : Jvm.MethodName)) ∈ tg_ := tk_3 (i := 180) (by decide +kernel) (by decide +kernel)
theorem tw_793 : (Jvm.Cond.instanceMethod ({ cls := "LitmusTester$Parser", name := "readNegated", desc := "(I)Z" } : Jvm.MethodName)) ∈ tg_ := tk_3 (i := 182) (by decide +kernel) (by decide +kernel)
theorem tw_794 : (Jvm.Cond.code ({ cls := "LitmusTester$Parser", name := "readNegated", desc := "(I)Z" } : Jvm.MethodName) prog_8_method_17_code (3 : Nat) (Option.some Jvm.ClassFile.FieldType.boolean)) ∈ tg_ := tk_3 (i := 183) (by decide +kernel) (by decide +kernel)
theorem tw_795 : (Jvm.Cond.fieldLink "LitmusTester$Parser" (213 : Nat) "LitmusTester$Sign" "CLOSE" "LLitmusTester$Sign;") ∈ tg_ := tk_3 (i := 184) (by decide +kernel) (by decide +kernel)
theorem tw_797 : (Jvm.Cond.fieldLink "LitmusTester$Parser" (192 : Nat) "LitmusTester$Sign" "AND" "LLitmusTester$Sign;") ∈ tg_ := tk_3 (i := 186) (by decide +kernel) (by decide +kernel)
theorem tw_799 : (Jvm.Cond.methodLink "LitmusTester$Parser" (195 : Nat) ({ cls := "LitmusTester$Parser", name := "isPassed", desc := "(LLitmusTester$Sign;)Z" } : Jvm.MethodName)) ∈ tg_ := tk_3 (i := 188) (by decide +kernel) (by decide +kernel)
theorem tw_801 : (Jvm.Cond.instanceMethod ({ cls := "LitmusTester$Parser", name := "isPassed", desc := "(LLitmusTester$Sign;)Z" } : Jvm.MethodName)) ∈ tg_ := tk_3 (i := 190) (by decide +kernel) (by decide +kernel)
theorem tw_802 : (Jvm.Cond.code ({ cls := "LitmusTester$Parser", name := "isPassed", desc := "(LLitmusTester$Sign;)Z" } : Jvm.MethodName) prog_8_method_15_code (3 : Nat) (Option.some Jvm.ClassFile.FieldType.boolean)) ∈ tg_ := tk_3 (i := 191) (by decide +kernel) (by decide +kernel)
theorem tw_803 : (Jvm.Cond.fieldLink "LitmusTester$Parser" (198 : Nat) "LitmusTester$Sign" "OR" "LLitmusTester$Sign;") ∈ tg_ := tk_3 (i := 192) (by decide +kernel) (by decide +kernel)
theorem tw_805 : (Jvm.Cond.fieldLink "LitmusTester$Parser" (89 : Nat) "LitmusTester$Sign" "END" "LLitmusTester$Sign;") ∈ tg_ := tk_3 (i := 194) (by decide +kernel) (by decide +kernel)
theorem tw_806 : (Jvm.Cond.methodLink "LitmusTester" (87 : Nat) ({ cls := "LitmusTester$Program", name := "copyFrom", desc := "(LLitmusTester$Program;)V" } : Jvm.MethodName)) ∈ tg_ := tk_3 (i := 195) (by decide +kernel) (by decide +kernel)
theorem tw_807 : (Jvm.Cond.instanceMethod ({ cls := "LitmusTester$Program", name := "copyFrom", desc := "(LLitmusTester$Program;)V" } : Jvm.MethodName)) ∈ tg_ := tk_3 (i := 196) (by decide +kernel) (by decide +kernel)
theorem tw_808 : (Jvm.Cond.selects "LitmusTester$Program" ({ cls := "LitmusTester$Program", name := "copyFrom", desc := "(LLitmusTester$Program;)V" } : Jvm.MethodName) ({ cls := "LitmusTester$Program", name := "copyFrom", desc := "(LLitmusTester$Program;)V" } : Jvm.MethodName)) ∈ tg_ := tk_3 (i := 197) (by decide +kernel) (by decide +kernel)
theorem tw_809 : (Jvm.Cond.code ({ cls := "LitmusTester$Program", name := "copyFrom", desc := "(LLitmusTester$Program;)V" } : Jvm.MethodName) prog_9_method_3_code (2 : Nat) (Option.none : Option Jvm.ClassFile.FieldType)) ∈ tg_ := tk_3 (i := 198) (by decide +kernel) (by decide +kernel)
theorem tw_810 : (Jvm.Cond.methodLink "LitmusTester$Program" (38 : Nat) ({ cls := "java/lang/System", name := "arraycopy", desc := "(Ljava/lang/Object;ILjava/lang/Object;II)V" } : Jvm.MethodName)) ∈ tg_ := tk_3 (i := 199) (by decide +kernel) (by decide +kernel)
theorem tw_811 : (Jvm.Cond.static ({ cls := "java/lang/System", name := "arraycopy", desc := "(Ljava/lang/Object;ILjava/lang/Object;II)V" } : Jvm.MethodName)) ∈ tg_ := tk_3 (i := 200) (by decide +kernel) (by decide +kernel)
theorem tw_812 : (Jvm.Cond.native ({ cls := "java/lang/System", name := "arraycopy", desc := "(Ljava/lang/Object;ILjava/lang/Object;II)V" } : Jvm.MethodName)) ∈ tg_ := tk_3 (i := 201) (by decide +kernel) (by decide +kernel)
theorem tw_813 : (Jvm.Cond.methodLink "LitmusTester" (90 : Nat) ({ cls := "LitmusTester$Changes", name := "clear", desc := "()V" } : Jvm.MethodName)) ∈ tg_ := tk_3 (i := 202) (by decide +kernel) (by decide +kernel)
theorem tw_814 : (Jvm.Cond.instanceMethod ({ cls := "LitmusTester$Changes", name := "clear", desc := "()V" } : Jvm.MethodName)) ∈ tg_ := tk_3 (i := 203) (by decide +kernel) (by decide +kernel)
theorem tw_815 : (Jvm.Cond.selects "LitmusTester$Changes" ({ cls := "LitmusTester$Changes", name := "clear", desc := "()V" } : Jvm.MethodName) ({ cls := "LitmusTester$Changes", name := "clear", desc := "()V" } : Jvm.MethodName)) ∈ tg_ := tk_3 (i := 204) (by decide +kernel) (by decide +kernel)
theorem tw_816 : (Jvm.Cond.code ({ cls := "LitmusTester$Changes", name := "clear", desc := "()V" } : Jvm.MethodName) prog_2_method_7_code (1 : Nat) (Option.none : Option Jvm.ClassFile.FieldType)) ∈ tg_ := tk_3 (i := 205) (by decide +kernel) (by decide +kernel)
theorem tw_817 : (Jvm.Cond.methodLink "LitmusTester" (93 : Nat) ({ cls := "LitmusTester", name := "forgetWhatWasFound", desc := "()V" } : Jvm.MethodName)) ∈ tg_ := tk_3 (i := 206) (by decide +kernel) (by decide +kernel)
theorem tw_819 : (Jvm.Cond.instanceMethod ({ cls := "LitmusTester", name := "forgetWhatWasFound", desc := "()V" } : Jvm.MethodName)) ∈ tg_ := tk_3 (i := 208) (by decide +kernel) (by decide +kernel)
theorem tw_820 : (Jvm.Cond.code ({ cls := "LitmusTester", name := "forgetWhatWasFound", desc := "()V" } : Jvm.MethodName) prog_1_method_7_code (1 : Nat) (Option.none : Option Jvm.ClassFile.FieldType)) ∈ tg_ := tk_3 (i := 209) (by decide +kernel) (by decide +kernel)
theorem tw_821 : (Jvm.Cond.methodLink "LitmusTester" (100 : Nat) ({ cls := "LitmusTester$Findings", name := "forget", desc := "()V" } : Jvm.MethodName)) ∈ tg_ := tk_3 (i := 210) (by decide +kernel) (by decide +kernel)
theorem tw_822 : (Jvm.Cond.instanceMethod ({ cls := "LitmusTester$Findings", name := "forget", desc := "()V" } : Jvm.MethodName)) ∈ tg_ := tk_3 (i := 211) (by decide +kernel) (by decide +kernel)
theorem tw_823 : (Jvm.Cond.selects "LitmusTester$Findings" ({ cls := "LitmusTester$Findings", name := "forget", desc := "()V" } : Jvm.MethodName) ({ cls := "LitmusTester$Findings", name := "forget", desc := "()V" } : Jvm.MethodName)) ∈ tg_ := tk_3 (i := 212) (by decide +kernel) (by decide +kernel)
theorem tw_824 : (Jvm.Cond.code ({ cls := "LitmusTester$Findings", name := "forget", desc := "()V" } : Jvm.MethodName) prog_5_method_3_code (1 : Nat) (Option.none : Option Jvm.ClassFile.FieldType)) ∈ tg_ := tk_3 (i := 213) (by decide +kernel) (by decide +kernel)
theorem tw_825 : (Jvm.Cond.methodLink "LitmusTester" (103 : Nat) ({ cls := "LitmusTester$Explanation", name := "forget", desc := "()V" } : Jvm.MethodName)) ∈ tg_ := tk_3 (i := 214) (by decide +kernel) (by decide +kernel)
theorem tw_826 : (Jvm.Cond.instanceMethod ({ cls := "LitmusTester$Explanation", name := "forget", desc := "()V" } : Jvm.MethodName)) ∈ tg_ := tk_3 (i := 215) (by decide +kernel) (by decide +kernel)
theorem tw_827 : (Jvm.Cond.selects "LitmusTester$Explanation" ({ cls := "LitmusTester$Explanation", name := "forget", desc := "()V" } : Jvm.MethodName) ({ cls := "LitmusTester$Explanation", name := "forget", desc := "()V" } : Jvm.MethodName)) ∈ tg_ := tk_3 (i := 216) (by decide +kernel) (by decide +kernel)
theorem tw_828 : (Jvm.Cond.code ({ cls := "LitmusTester$Explanation", name := "forget", desc := "()V" } : Jvm.MethodName) prog_3_method_2_code (1 : Nat) (Option.none : Option Jvm.ClassFile.FieldType)) ∈ tg_ := tk_3 (i := 217) (by decide +kernel) (by decide +kernel)
theorem tw_829 : (Jvm.Cond.methodLink "LitmusTester" (96 : Nat) ({ cls := "LitmusTester$Program", name := "size", desc := "()I" } : Jvm.MethodName)) ∈ tg_ := tk_3 (i := 218) (by decide +kernel) (by decide +kernel)
theorem tw_834 : (Jvm.Cond.methodLink "LitmusTester" (104 : Nat) ({ cls := "LitmusTester$Program", name := "threads", desc := "()I" } : Jvm.MethodName)) ∈ tg_ := tk_3 (i := 223) (by decide +kernel) (by decide +kernel)
theorem tw_839 : (Jvm.Cond.methodLink "LitmusTester" (107 : Nat) ({ cls := "LitmusTester$Program", name := "locations", desc := "()I" } : Jvm.MethodName)) ∈ tg_ := tk_3 (i := 228) (by decide +kernel) (by decide +kernel)
theorem tw_848 : (Jvm.Cond.methodLink "LitmusTester" (124 : Nat) ({ cls := "LitmusTester$Tokens", name := "isLetter", desc := "(I)Z" } : Jvm.MethodName)) ∈ tg_ := tk_3 (i := 237) (by decide +kernel) (by decide +kernel)
theorem tw_849 : (Jvm.Cond.methodLink "LitmusTester" (130 : Nat) ({ cls := "LitmusTester$Tokens", name := "withLetter", desc := "(JI)J" } : Jvm.MethodName)) ∈ tg_ := tk_3 (i := 238) (by decide +kernel) (by decide +kernel)
theorem tw_850 : (Jvm.Cond.methodLink "LitmusTester" (134 : Nat) ({ cls := "LitmusTester$Program", name := "locationNamed", desc := "(J)I" } : Jvm.MethodName)) ∈ tg_ := tk_3 (i := 239) (by decide +kernel) (by decide +kernel)
theorem tw_855 : (Jvm.Cond.methodLink "LitmusTester" (138 : Nat) ({ cls := "LitmusTester$Output", name := "clear", desc := "()V" } : Jvm.MethodName)) ∈ tg_ := tk_4 (i := 4) (by decide +kernel) (by decide +kernel)
theorem tw_856 : (Jvm.Cond.instanceMethod ({ cls := "LitmusTester$Output", name := "clear", desc := "()V" } : Jvm.MethodName)) ∈ tg_ := tk_4 (i := 5) (by decide +kernel) (by decide +kernel)
theorem tw_857 : (Jvm.Cond.selects "LitmusTester$Output" ({ cls := "LitmusTester$Output", name := "clear", desc := "()V" } : Jvm.MethodName) ({ cls := "LitmusTester$Output", name := "clear", desc := "()V" } : Jvm.MethodName)) ∈ tg_ := tk_4 (i := 6) (by decide +kernel) (by decide +kernel)
theorem tw_858 : (Jvm.Cond.code ({ cls := "LitmusTester$Output", name := "clear", desc := "()V" } : Jvm.MethodName) prog_7_method_2_code (1 : Nat) (Option.none : Option Jvm.ClassFile.FieldType)) ∈ tg_ := tk_4 (i := 7) (by decide +kernel) (by decide +kernel)
theorem tw_859 : (Jvm.Cond.methodLink "LitmusTester" (139 : Nat) ({ cls := "LitmusTester$Output", name := "putDeclaration", desc := "(LLitmusTester$Program;I)V" } : Jvm.MethodName)) ∈ tg_ := tk_4 (i := 8) (by decide +kernel) (by decide +kernel)
theorem tw_860 : (Jvm.Cond.instanceMethod ({ cls := "LitmusTester$Output", name := "putDeclaration", desc := "(LLitmusTester$Program;I)V" } : Jvm.MethodName)) ∈ tg_ := tk_4 (i := 9) (by decide +kernel) (by decide +kernel)
theorem tw_861 : (Jvm.Cond.selects "LitmusTester$Output" ({ cls := "LitmusTester$Output", name := "putDeclaration", desc := "(LLitmusTester$Program;I)V" } : Jvm.MethodName) ({ cls := "LitmusTester$Output", name := "putDeclaration", desc := "(LLitmusTester$Program;I)V" } : Jvm.MethodName)) ∈ tg_ := tk_4 (i := 10) (by decide +kernel) (by decide +kernel)
theorem tw_862 : (Jvm.Cond.code ({ cls := "LitmusTester$Output", name := "putDeclaration", desc := "(LLitmusTester$Program;I)V" } : Jvm.MethodName) prog_7_method_11_code (3 : Nat) (Option.none : Option Jvm.ClassFile.FieldType)) ∈ tg_ := tk_4 (i := 11) (by decide +kernel) (by decide +kernel)
theorem tw_864 : (Jvm.Cond.methodLink "LitmusTester$Output" (32 : Nat) ({ cls := "LitmusTester$Output", name := "putText", desc := "(Ljava/lang/String;)V" } : Jvm.MethodName)) ∈ tg_ := tk_4 (i := 13) (by decide +kernel) (by decide +kernel)
theorem tw_866 : (Jvm.Cond.instanceMethod ({ cls := "LitmusTester$Output", name := "putText", desc := "(Ljava/lang/String;)V" } : Jvm.MethodName)) ∈ tg_ := tk_4 (i := 15) (by decide +kernel) (by decide +kernel)
theorem tw_867 : (Jvm.Cond.code ({ cls := "LitmusTester$Output", name := "putText", desc := "(Ljava/lang/String;)V" } : Jvm.MethodName) prog_7_method_6_code (3 : Nat) (Option.none : Option Jvm.ClassFile.FieldType)) ∈ tg_ := tk_4 (i := 16) (by decide +kernel) (by decide +kernel)
theorem tw_868 : (Jvm.Cond.methodLink "LitmusTester$Output" (19 : Nat) ({ cls := "java/lang/String", name := "length", desc := "()I" } : Jvm.MethodName)) ∈ tg_ := tk_4 (i := 17) (by decide +kernel) (by decide +kernel)
theorem tw_869 : (Jvm.Cond.methodLink "LitmusTester$Output" (24 : Nat) ({ cls := "java/lang/String", name := "charAt", desc := "(I)C" } : Jvm.MethodName)) ∈ tg_ := tk_4 (i := 18) (by decide +kernel) (by decide +kernel)
theorem tw_870 : (Jvm.Cond.methodLink "LitmusTester$Output" (28 : Nat) ({ cls := "LitmusTester$Output", name := "put", desc := "(I)V" } : Jvm.MethodName)) ∈ tg_ := tk_4 (i := 19) (by decide +kernel) (by decide +kernel)
theorem tw_872 : (Jvm.Cond.instanceMethod ({ cls := "LitmusTester$Output", name := "put", desc := "(I)V" } : Jvm.MethodName)) ∈ tg_ := tk_4 (i := 21) (by decide +kernel) (by decide +kernel)
theorem tw_873 : (Jvm.Cond.code ({ cls := "LitmusTester$Output", name := "put", desc := "(I)V" } : Jvm.MethodName) prog_7_method_5_code (2 : Nat) (Option.none : Option Jvm.ClassFile.FieldType)) ∈ tg_ := tk_4 (i := 22) (by decide +kernel) (by decide +kernel)
theorem tw_874 : (Jvm.Cond.methodLink "LitmusTester$Output" (40 : Nat) ({ cls := "LitmusTester$Program", name := "nameOf", desc := "(I)J" } : Jvm.MethodName)) ∈ tg_ := tk_4 (i := 23) (by decide +kernel) (by decide +kernel)
theorem tw_875 : (Jvm.Cond.instanceMethod ({ cls := "LitmusTester$Program", name := "nameOf", desc := "(I)J" } : Jvm.MethodName)) ∈ tg_ := tk_4 (i := 24) (by decide +kernel) (by decide +kernel)
theorem tw_876 : (Jvm.Cond.selects "LitmusTester$Program" ({ cls := "LitmusTester$Program", name := "nameOf", desc := "(I)J" } : Jvm.MethodName) ({ cls := "LitmusTester$Program", name := "nameOf", desc := "(I)J" } : Jvm.MethodName)) ∈ tg_ := tk_4 (i := 25) (by decide +kernel) (by decide +kernel)
theorem tw_877 : (Jvm.Cond.code ({ cls := "LitmusTester$Program", name := "nameOf", desc := "(I)J" } : Jvm.MethodName) prog_9_method_9_code (2 : Nat) (Option.some Jvm.ClassFile.FieldType.long)) ∈ tg_ := tk_4 (i := 26) (by decide +kernel) (by decide +kernel)
theorem tw_878 : (Jvm.Cond.methodLink "LitmusTester$Output" (46 : Nat) ({ cls := "LitmusTester$Output", name := "putName", desc := "(J)V" } : Jvm.MethodName)) ∈ tg_ := tk_4 (i := 27) (by decide +kernel) (by decide +kernel)
theorem tw_880 : (Jvm.Cond.instanceMethod ({ cls := "LitmusTester$Output", name := "putName", desc := "(J)V" } : Jvm.MethodName)) ∈ tg_ := tk_4 (i := 29) (by decide +kernel) (by decide +kernel)
theorem tw_881 : (Jvm.Cond.code ({ cls := "LitmusTester$Output", name := "putName", desc := "(J)V" } : Jvm.MethodName) prog_7_method_8_code (5 : Nat) (Option.none : Option Jvm.ClassFile.FieldType)) ∈ tg_ := tk_4 (i := 30) (by decide +kernel) (by decide +kernel)
theorem tw_882 : (Jvm.Cond.methodLink "LitmusTester$Output" (50 : Nat) ({ cls := "LitmusTester$Program", name := "initialOf", desc := "(I)I" } : Jvm.MethodName)) ∈ tg_ := tk_4 (i := 31) (by decide +kernel) (by decide +kernel)
theorem tw_883 : (Jvm.Cond.instanceMethod ({ cls := "LitmusTester$Program", name := "initialOf", desc := "(I)I" } : Jvm.MethodName)) ∈ tg_ := tk_4 (i := 32) (by decide +kernel) (by decide +kernel)
theorem tw_884 : (Jvm.Cond.selects "LitmusTester$Program" ({ cls := "LitmusTester$Program", name := "initialOf", desc := "(I)I" } : Jvm.MethodName) ({ cls := "LitmusTester$Program", name := "initialOf", desc := "(I)I" } : Jvm.MethodName)) ∈ tg_ := tk_4 (i := 33) (by decide +kernel) (by decide +kernel)
theorem tw_885 : (Jvm.Cond.code ({ cls := "LitmusTester$Program", name := "initialOf", desc := "(I)I" } : Jvm.MethodName) prog_9_method_10_code (2 : Nat) (Option.some Jvm.ClassFile.FieldType.int)) ∈ tg_ := tk_4 (i := 34) (by decide +kernel) (by decide +kernel)
theorem tw_886 : (Jvm.Cond.methodLink "LitmusTester$Output" (54 : Nat) ({ cls := "LitmusTester$Output", name := "putNumber", desc := "(I)V" } : Jvm.MethodName)) ∈ tg_ := tk_4 (i := 35) (by decide +kernel) (by decide +kernel)
theorem tw_888 : (Jvm.Cond.instanceMethod ({ cls := "LitmusTester$Output", name := "putNumber", desc := "(I)V" } : Jvm.MethodName)) ∈ tg_ := tk_4 (i := 37) (by decide +kernel) (by decide +kernel)
theorem tw_889 : (Jvm.Cond.code ({ cls := "LitmusTester$Output", name := "putNumber", desc := "(I)V" } : Jvm.MethodName) prog_7_method_10_code (2 : Nat) (Option.none : Option Jvm.ClassFile.FieldType)) ∈ tg_ := tk_4 (i := 38) (by decide +kernel) (by decide +kernel)
theorem tw_891 : (Jvm.Cond.methodLink "LitmusTester" (145 : Nat) ({ cls := "LitmusTester$Output", name := "putLine", desc := "(Ljava/lang/String;)V" } : Jvm.MethodName)) ∈ tg_ := tk_4 (i := 40) (by decide +kernel) (by decide +kernel)
theorem tw_892 : (Jvm.Cond.instanceMethod ({ cls := "LitmusTester$Output", name := "putLine", desc := "(Ljava/lang/String;)V" } : Jvm.MethodName)) ∈ tg_ := tk_4 (i := 41) (by decide +kernel) (by decide +kernel)
theorem tw_893 : (Jvm.Cond.selects "LitmusTester$Output" ({ cls := "LitmusTester$Output", name := "putLine", desc := "(Ljava/lang/String;)V" } : Jvm.MethodName) ({ cls := "LitmusTester$Output", name := "putLine", desc := "(Ljava/lang/String;)V" } : Jvm.MethodName)) ∈ tg_ := tk_4 (i := 42) (by decide +kernel) (by decide +kernel)
theorem tw_894 : (Jvm.Cond.code ({ cls := "LitmusTester$Output", name := "putLine", desc := "(Ljava/lang/String;)V" } : Jvm.MethodName) prog_7_method_7_code (2 : Nat) (Option.none : Option Jvm.ClassFile.FieldType)) ∈ tg_ := tk_4 (i := 43) (by decide +kernel) (by decide +kernel)
theorem tw_895 : (Jvm.Cond.methodLink "LitmusTester" (148 : Nat) ({ cls := "LitmusTester$Program", name := "sizeOf", desc := "(I)I" } : Jvm.MethodName)) ∈ tg_ := tk_4 (i := 44) (by decide +kernel) (by decide +kernel)
theorem tw_896 : (Jvm.Cond.methodLink "LitmusTester" (151 : Nat) ({ cls := "LitmusTester$Output", name := "putInstruction", desc := "(LLitmusTester$Program;I)V" } : Jvm.MethodName)) ∈ tg_ := tk_4 (i := 45) (by decide +kernel) (by decide +kernel)
theorem tw_897 : (Jvm.Cond.instanceMethod ({ cls := "LitmusTester$Output", name := "putInstruction", desc := "(LLitmusTester$Program;I)V" } : Jvm.MethodName)) ∈ tg_ := tk_4 (i := 46) (by decide +kernel) (by decide +kernel)
theorem tw_898 : (Jvm.Cond.selects "LitmusTester$Output" ({ cls := "LitmusTester$Output", name := "putInstruction", desc := "(LLitmusTester$Program;I)V" } : Jvm.MethodName) ({ cls := "LitmusTester$Output", name := "putInstruction", desc := "(LLitmusTester$Program;I)V" } : Jvm.MethodName)) ∈ tg_ := tk_4 (i := 47) (by decide +kernel) (by decide +kernel)
theorem tw_899 : (Jvm.Cond.code ({ cls := "LitmusTester$Output", name := "putInstruction", desc := "(LLitmusTester$Program;I)V" } : Jvm.MethodName) prog_7_method_12_code (4 : Nat) (Option.none : Option Jvm.ClassFile.FieldType)) ∈ tg_ := tk_4 (i := 48) (by decide +kernel) (by decide +kernel)
theorem tw_900 : (Jvm.Cond.methodLink "LitmusTester$Output" (57 : Nat) ({ cls := "LitmusTester$Program", name := "property", desc := "(II)I" } : Jvm.MethodName)) ∈ tg_ := tk_4 (i := 49) (by decide +kernel) (by decide +kernel)
theorem tw_905 : (Jvm.Cond.methodLink "LitmusTester$Output" (69 : Nat) ({ cls := "LitmusTester$Output", name := "putRegister", desc := "(I)V" } : Jvm.MethodName)) ∈ tg_ := tk_4 (i := 54) (by decide +kernel) (by decide +kernel)
theorem tw_907 : (Jvm.Cond.instanceMethod ({ cls := "LitmusTester$Output", name := "putRegister", desc := "(I)V" } : Jvm.MethodName)) ∈ tg_ := tk_4 (i := 56) (by decide +kernel) (by decide +kernel)
theorem tw_908 : (Jvm.Cond.code ({ cls := "LitmusTester$Output", name := "putRegister", desc := "(I)V" } : Jvm.MethodName) prog_7_method_9_code (2 : Nat) (Option.none : Option Jvm.ClassFile.FieldType)) ∈ tg_ := tk_4 (i := 57) (by decide +kernel) (by decide +kernel)
theorem tw_910 : (Jvm.Cond.methodLink "LitmusTester" (154 : Nat) ({ cls := "LitmusTester$Output", name := "length", desc := "()I" } : Jvm.MethodName)) ∈ tg_ := tk_4 (i := 59) (by decide +kernel) (by decide +kernel)
theorem tw_911 : (Jvm.Cond.instanceMethod ({ cls := "LitmusTester$Output", name := "length", desc := "()I" } : Jvm.MethodName)) ∈ tg_ := tk_4 (i := 60) (by decide +kernel) (by decide +kernel)
theorem tw_912 : (Jvm.Cond.selects "LitmusTester$Output" ({ cls := "LitmusTester$Output", name := "length", desc := "()I" } : Jvm.MethodName) ({ cls := "LitmusTester$Output", name := "length", desc := "()I" } : Jvm.MethodName)) ∈ tg_ := tk_4 (i := 61) (by decide +kernel) (by decide +kernel)
theorem tw_913 : (Jvm.Cond.code ({ cls := "LitmusTester$Output", name := "length", desc := "()I" } : Jvm.MethodName) prog_7_method_3_code (1 : Nat) (Option.some Jvm.ClassFile.FieldType.int)) ∈ tg_ := tk_4 (i := 62) (by decide +kernel) (by decide +kernel)
theorem tw_918 : (Jvm.Cond.methodLink "LitmusTester" (202 : Nat) ({ cls := "LitmusTester$Program", name := "codeBits", desc := "()I" } : Jvm.MethodName)) ∈ tg_ := tk_4 (i := 67) (by decide +kernel) (by decide +kernel)
theorem tw_919 : (Jvm.Cond.methodLink "LitmusTester" (205 : Nat) ({ cls := "LitmusTester$Program", name := "isFulfilledBy", desc := "(I)Z" } : Jvm.MethodName)) ∈ tg_ := tk_4 (i := 68) (by decide +kernel) (by decide +kernel)
theorem tw_920 : (Jvm.Cond.instanceMethod ({ cls := "LitmusTester$Program", name := "isFulfilledBy", desc := "(I)Z" } : Jvm.MethodName)) ∈ tg_ := tk_4 (i := 69) (by decide +kernel) (by decide +kernel)
theorem tw_921 : (Jvm.Cond.selects "LitmusTester$Program" ({ cls := "LitmusTester$Program", name := "isFulfilledBy", desc := "(I)Z" } : Jvm.MethodName) ({ cls := "LitmusTester$Program", name := "isFulfilledBy", desc := "(I)Z" } : Jvm.MethodName)) ∈ tg_ := tk_4 (i := 70) (by decide +kernel) (by decide +kernel)
theorem tw_922 : (Jvm.Cond.code ({ cls := "LitmusTester$Program", name := "isFulfilledBy", desc := "(I)Z" } : Jvm.MethodName) prog_9_method_26_code (8 : Nat) (Option.some Jvm.ClassFile.FieldType.boolean)) ∈ tg_ := tk_4 (i := 71) (by decide +kernel) (by decide +kernel)
theorem tw_927 : (Jvm.Cond.methodLink "LitmusTester" (236 : Nat) ({ cls := "LitmusTester$Program", name := "isRacing", desc := "(II)Z" } : Jvm.MethodName)) ∈ tg_ := tk_4 (i := 76) (by decide +kernel) (by decide +kernel)
theorem tw_928 : (Jvm.Cond.instanceMethod ({ cls := "LitmusTester$Program", name := "isRacing", desc := "(II)Z" } : Jvm.MethodName)) ∈ tg_ := tk_4 (i := 77) (by decide +kernel) (by decide +kernel)
theorem tw_929 : (Jvm.Cond.selects "LitmusTester$Program" ({ cls := "LitmusTester$Program", name := "isRacing", desc := "(II)Z" } : Jvm.MethodName) ({ cls := "LitmusTester$Program", name := "isRacing", desc := "(II)Z" } : Jvm.MethodName)) ∈ tg_ := tk_4 (i := 78) (by decide +kernel) (by decide +kernel)
theorem tw_930 : (Jvm.Cond.code ({ cls := "LitmusTester$Program", name := "isRacing", desc := "(II)Z" } : Jvm.MethodName) prog_9_method_33_code (8 : Nat) (Option.some Jvm.ClassFile.FieldType.boolean)) ∈ tg_ := tk_4 (i := 79) (by decide +kernel) (by decide +kernel)
theorem tw_935 : (Jvm.Cond.methodLink "LitmusTester" (240 : Nat) ({ cls := "LitmusTester$Program", name := "gaps", desc := "()I" } : Jvm.MethodName)) ∈ tg_ := tk_4 (i := 84) (by decide +kernel) (by decide +kernel)
theorem tw_936 : (Jvm.Cond.instanceMethod ({ cls := "LitmusTester$Program", name := "gaps", desc := "()I" } : Jvm.MethodName)) ∈ tg_ := tk_4 (i := 85) (by decide +kernel) (by decide +kernel)
theorem tw_937 : (Jvm.Cond.selects "LitmusTester$Program" ({ cls := "LitmusTester$Program", name := "gaps", desc := "()I" } : Jvm.MethodName) ({ cls := "LitmusTester$Program", name := "gaps", desc := "()I" } : Jvm.MethodName)) ∈ tg_ := tk_4 (i := 86) (by decide +kernel) (by decide +kernel)
theorem tw_938 : (Jvm.Cond.code ({ cls := "LitmusTester$Program", name := "gaps", desc := "()I" } : Jvm.MethodName) prog_9_method_30_code (3 : Nat) (Option.some Jvm.ClassFile.FieldType.int)) ∈ tg_ := tk_4 (i := 87) (by decide +kernel) (by decide +kernel)
theorem tw_939 : (Jvm.Cond.methodLink "LitmusTester$Program" (66 : Nat) ({ cls := "LitmusTester$Program", name := "isGapBefore", desc := "(I)Z" } : Jvm.MethodName)) ∈ tg_ := tk_4 (i := 88) (by decide +kernel) (by decide +kernel)
theorem tw_941 : (Jvm.Cond.instanceMethod ({ cls := "LitmusTester$Program", name := "isGapBefore", desc := "(I)Z" } : Jvm.MethodName)) ∈ tg_ := tk_4 (i := 90) (by decide +kernel) (by decide +kernel)
theorem tw_942 : (Jvm.Cond.code ({ cls := "LitmusTester$Program", name := "isGapBefore", desc := "(I)Z" } : Jvm.MethodName) prog_9_method_29_code (2 : Nat) (Option.some Jvm.ClassFile.FieldType.boolean)) ∈ tg_ := tk_4 (i := 91) (by decide +kernel) (by decide +kernel)
theorem tw_947 : (Jvm.Cond.methodLink "LitmusTester" (243 : Nat) ({ cls := "LitmusTester$Program", name := "placeOfGap", desc := "(I)I" } : Jvm.MethodName)) ∈ tg_ := tk_4 (i := 96) (by decide +kernel) (by decide +kernel)
theorem tw_948 : (Jvm.Cond.instanceMethod ({ cls := "LitmusTester$Program", name := "placeOfGap", desc := "(I)I" } : Jvm.MethodName)) ∈ tg_ := tk_4 (i := 97) (by decide +kernel) (by decide +kernel)
theorem tw_949 : (Jvm.Cond.selects "LitmusTester$Program" ({ cls := "LitmusTester$Program", name := "placeOfGap", desc := "(I)I" } : Jvm.MethodName) ({ cls := "LitmusTester$Program", name := "placeOfGap", desc := "(I)I" } : Jvm.MethodName)) ∈ tg_ := tk_4 (i := 98) (by decide +kernel) (by decide +kernel)
theorem tw_950 : (Jvm.Cond.code ({ cls := "LitmusTester$Program", name := "placeOfGap", desc := "(I)I" } : Jvm.MethodName) prog_9_method_31_code (4 : Nat) (Option.some Jvm.ClassFile.FieldType.int)) ∈ tg_ := tk_4 (i := 99) (by decide +kernel) (by decide +kernel)
theorem tw_955 : (Jvm.Cond.methodLink "LitmusTester" (307 : Nat) ({ cls := "LitmusTester$Changes", name := "takeLatest", desc := "()I" } : Jvm.MethodName)) ∈ tg_ := tk_4 (i := 104) (by decide +kernel) (by decide +kernel)
theorem tw_956 : (Jvm.Cond.instanceMethod ({ cls := "LitmusTester$Changes", name := "takeLatest", desc := "()I" } : Jvm.MethodName)) ∈ tg_ := tk_4 (i := 105) (by decide +kernel) (by decide +kernel)
theorem tw_957 : (Jvm.Cond.selects "LitmusTester$Changes" ({ cls := "LitmusTester$Changes", name := "takeLatest", desc := "()I" } : Jvm.MethodName) ({ cls := "LitmusTester$Changes", name := "takeLatest", desc := "()I" } : Jvm.MethodName)) ∈ tg_ := tk_4 (i := 106) (by decide +kernel) (by decide +kernel)
theorem tw_958 : (Jvm.Cond.code ({ cls := "LitmusTester$Changes", name := "takeLatest", desc := "()I" } : Jvm.MethodName) prog_2_method_10_code (1 : Nat) (Option.some Jvm.ClassFile.FieldType.int)) ∈ tg_ := tk_4 (i := 107) (by decide +kernel) (by decide +kernel)
theorem tw_959 : (Jvm.Cond.methodLink "LitmusTester" (310 : Nat) ({ cls := "LitmusTester$Changes", name := "isInsertion", desc := "(I)Z" } : Jvm.MethodName)) ∈ tg_ := tk_4 (i := 108) (by decide +kernel) (by decide +kernel)
theorem tw_960 : (Jvm.Cond.static ({ cls := "LitmusTester$Changes", name := "isInsertion", desc := "(I)Z" } : Jvm.MethodName)) ∈ tg_ := tk_4 (i := 109) (by decide +kernel) (by decide +kernel)
theorem tw_961 : (Jvm.Cond.code ({ cls := "LitmusTester$Changes", name := "isInsertion", desc := "(I)Z" } : Jvm.MethodName) prog_2_method_4_code (1 : Nat) (Option.some Jvm.ClassFile.FieldType.boolean)) ∈ tg_ := tk_4 (i := 110) (by decide +kernel) (by decide +kernel)
theorem tw_962 : (Jvm.Cond.methodLink "LitmusTester" (313 : Nat) ({ cls := "LitmusTester$Changes", name := "place", desc := "(I)I" } : Jvm.MethodName)) ∈ tg_ := tk_4 (i := 111) (by decide +kernel) (by decide +kernel)
theorem tw_963 : (Jvm.Cond.static ({ cls := "LitmusTester$Changes", name := "place", desc := "(I)I" } : Jvm.MethodName)) ∈ tg_ := tk_4 (i := 112) (by decide +kernel) (by decide +kernel)
theorem tw_964 : (Jvm.Cond.code ({ cls := "LitmusTester$Changes", name := "place", desc := "(I)I" } : Jvm.MethodName) prog_2_method_5_code (1 : Nat) (Option.some Jvm.ClassFile.FieldType.int)) ∈ tg_ := tk_4 (i := 113) (by decide +kernel) (by decide +kernel)
theorem tw_965 : (Jvm.Cond.methodLink "LitmusTester" (304 : Nat) ({ cls := "LitmusTester$Program", name := "dropInstruction", desc := "(I)V" } : Jvm.MethodName)) ∈ tg_ := tk_4 (i := 114) (by decide +kernel) (by decide +kernel)
theorem tw_966 : (Jvm.Cond.instanceMethod ({ cls := "LitmusTester$Program", name := "dropInstruction", desc := "(I)V" } : Jvm.MethodName)) ∈ tg_ := tk_4 (i := 115) (by decide +kernel) (by decide +kernel)
theorem tw_967 : (Jvm.Cond.selects "LitmusTester$Program" ({ cls := "LitmusTester$Program", name := "dropInstruction", desc := "(I)V" } : Jvm.MethodName) ({ cls := "LitmusTester$Program", name := "dropInstruction", desc := "(I)V" } : Jvm.MethodName)) ∈ tg_ := tk_4 (i := 116) (by decide +kernel) (by decide +kernel)
theorem tw_968 : (Jvm.Cond.code ({ cls := "LitmusTester$Program", name := "dropInstruction", desc := "(I)V" } : Jvm.MethodName) prog_9_method_16_code (3 : Nat) (Option.none : Option Jvm.ClassFile.FieldType)) ∈ tg_ := tk_4 (i := 117) (by decide +kernel) (by decide +kernel)
theorem tw_969 : (Jvm.Cond.methodLink "LitmusTester" (316 : Nat) ({ cls := "LitmusTester$Changes", name := "thread", desc := "(I)I" } : Jvm.MethodName)) ∈ tg_ := tk_4 (i := 118) (by decide +kernel) (by decide +kernel)
theorem tw_970 : (Jvm.Cond.static ({ cls := "LitmusTester$Changes", name := "thread", desc := "(I)I" } : Jvm.MethodName)) ∈ tg_ := tk_4 (i := 119) (by decide +kernel) (by decide +kernel)
theorem tw_971 : (Jvm.Cond.code ({ cls := "LitmusTester$Changes", name := "thread", desc := "(I)I" } : Jvm.MethodName) prog_2_method_6_code (1 : Nat) (Option.some Jvm.ClassFile.FieldType.int)) ∈ tg_ := tk_4 (i := 120) (by decide +kernel) (by decide +kernel)
theorem tw_972 : (Jvm.Cond.methodLink "LitmusTester" (292 : Nat) ({ cls := "LitmusTester$Program", name := "putFence", desc := "(II)V" } : Jvm.MethodName)) ∈ tg_ := tk_4 (i := 121) (by decide +kernel) (by decide +kernel)
theorem tw_973 : (Jvm.Cond.instanceMethod ({ cls := "LitmusTester$Program", name := "putFence", desc := "(II)V" } : Jvm.MethodName)) ∈ tg_ := tk_4 (i := 122) (by decide +kernel) (by decide +kernel)
theorem tw_974 : (Jvm.Cond.selects "LitmusTester$Program" ({ cls := "LitmusTester$Program", name := "putFence", desc := "(II)V" } : Jvm.MethodName) ({ cls := "LitmusTester$Program", name := "putFence", desc := "(II)V" } : Jvm.MethodName)) ∈ tg_ := tk_4 (i := 123) (by decide +kernel) (by decide +kernel)
theorem tw_975 : (Jvm.Cond.code ({ cls := "LitmusTester$Program", name := "putFence", desc := "(II)V" } : Jvm.MethodName) prog_9_method_15_code (4 : Nat) (Option.none : Option Jvm.ClassFile.FieldType)) ∈ tg_ := tk_4 (i := 124) (by decide +kernel) (by decide +kernel)
theorem tw_976 : (Jvm.Cond.methodLink "LitmusTester" (318 : Nat) ({ cls := "LitmusTester$Changes", name := "size", desc := "()I" } : Jvm.MethodName)) ∈ tg_ := tk_4 (i := 125) (by decide +kernel) (by decide +kernel)
theorem tw_977 : (Jvm.Cond.instanceMethod ({ cls := "LitmusTester$Changes", name := "size", desc := "()I" } : Jvm.MethodName)) ∈ tg_ := tk_4 (i := 126) (by decide +kernel) (by decide +kernel)
theorem tw_978 : (Jvm.Cond.selects "LitmusTester$Changes" ({ cls := "LitmusTester$Changes", name := "size", desc := "()I" } : Jvm.MethodName) ({ cls := "LitmusTester$Changes", name := "size", desc := "()I" } : Jvm.MethodName)) ∈ tg_ := tk_4 (i := 127) (by decide +kernel) (by decide +kernel)
theorem tw_979 : (Jvm.Cond.code ({ cls := "LitmusTester$Changes", name := "size", desc := "()I" } : Jvm.MethodName) prog_2_method_8_code (1 : Nat) (Option.some Jvm.ClassFile.FieldType.int)) ∈ tg_ := tk_4 (i := 128) (by decide +kernel) (by decide +kernel)
theorem tw_984 : (Jvm.Cond.methodLink "LitmusTester" (324 : Nat) ({ cls := "LitmusTester$Explanation", name := "stepAt", desc := "(I)I" } : Jvm.MethodName)) ∈ tg_ := tk_4 (i := 133) (by decide +kernel) (by decide +kernel)
theorem tw_985 : (Jvm.Cond.instanceMethod ({ cls := "LitmusTester$Explanation", name := "stepAt", desc := "(I)I" } : Jvm.MethodName)) ∈ tg_ := tk_4 (i := 134) (by decide +kernel) (by decide +kernel)
theorem tw_986 : (Jvm.Cond.selects "LitmusTester$Explanation" ({ cls := "LitmusTester$Explanation", name := "stepAt", desc := "(I)I" } : Jvm.MethodName) ({ cls := "LitmusTester$Explanation", name := "stepAt", desc := "(I)I" } : Jvm.MethodName)) ∈ tg_ := tk_4 (i := 135) (by decide +kernel) (by decide +kernel)
theorem tw_987 : (Jvm.Cond.code ({ cls := "LitmusTester$Explanation", name := "stepAt", desc := "(I)I" } : Jvm.MethodName) prog_3_method_9_code (2 : Nat) (Option.some Jvm.ClassFile.FieldType.int)) ∈ tg_ := tk_4 (i := 136) (by decide +kernel) (by decide +kernel)
theorem tw_992 : (Jvm.Cond.methodLink "LitmusTesterLaw" (7 : Nat) ({ cls := "LitmusTester", name := "instruction", desc := "(II)I" } : Jvm.MethodName)) ∈ tg_ := tk_4 (i := 141) (by decide +kernel) (by decide +kernel)
theorem tw_993 : (Jvm.Cond.instanceMethod ({ cls := "LitmusTester", name := "instruction", desc := "(II)I" } : Jvm.MethodName)) ∈ tg_ := tk_4 (i := 142) (by decide +kernel) (by decide +kernel)
theorem tw_994 : (Jvm.Cond.selects "LitmusTester" ({ cls := "LitmusTester", name := "instruction", desc := "(II)I" } : Jvm.MethodName) ({ cls := "LitmusTester", name := "instruction", desc := "(II)I" } : Jvm.MethodName)) ∈ tg_ := tk_4 (i := 143) (by decide +kernel) (by decide +kernel)
theorem tw_995 : (Jvm.Cond.code ({ cls := "LitmusTester", name := "instruction", desc := "(II)I" } : Jvm.MethodName) prog_1_method_11_code (3 : Nat) (Option.some Jvm.ClassFile.FieldType.int)) ∈ tg_ := tk_4 (i := 144) (by decide +kernel) (by decide +kernel)
theorem tw_996 : (Jvm.Cond.methodLink "LitmusTester" (110 : Nat) ({ cls := "LitmusTester", name := "requireInstruction", desc := "(I)V" } : Jvm.MethodName)) ∈ tg_ := tk_4 (i := 145) (by decide +kernel) (by decide +kernel)
theorem tw_998 : (Jvm.Cond.instanceMethod ({ cls := "LitmusTester", name := "requireInstruction", desc := "(I)V" } : Jvm.MethodName)) ∈ tg_ := tk_4 (i := 147) (by decide +kernel) (by decide +kernel)
theorem tw_999 : (Jvm.Cond.code ({ cls := "LitmusTester", name := "requireInstruction", desc := "(I)V" } : Jvm.MethodName) prog_1_method_12_code (2 : Nat) (Option.none : Option Jvm.ClassFile.FieldType)) ∈ tg_ := tk_4 (i := 148) (by decide +kernel) (by decide +kernel)
theorem tw_1000 : (Jvm.Cond.classLink "LitmusTester" (117 : Nat) "java/lang/IndexOutOfBoundsException") ∈ tg_ := tk_4 (i := 149) (by decide +kernel) (by decide +kernel)
theorem tw_1068 : (Jvm.Cond.methodLink "LitmusTester" (113 : Nat) ({ cls := "LitmusTester$Program", name := "property", desc := "(II)I" } : Jvm.MethodName)) ∈ tg_ := tk_4 (i := 217) (by decide +kernel) (by decide +kernel)
theorem tw_1073 : (Jvm.Cond.methodLink "LitmusTesterLaw" (15 : Nat) ({ cls := "LitmusTester", name := "outputByte", desc := "(I)I" } : Jvm.MethodName)) ∈ tg_ := tk_4 (i := 222) (by decide +kernel) (by decide +kernel)
theorem tw_1074 : (Jvm.Cond.instanceMethod ({ cls := "LitmusTester", name := "outputByte", desc := "(I)I" } : Jvm.MethodName)) ∈ tg_ := tk_4 (i := 223) (by decide +kernel) (by decide +kernel)
theorem tw_1075 : (Jvm.Cond.selects "LitmusTester" ({ cls := "LitmusTester", name := "outputByte", desc := "(I)I" } : Jvm.MethodName) ({ cls := "LitmusTester", name := "outputByte", desc := "(I)I" } : Jvm.MethodName)) ∈ tg_ := tk_4 (i := 224) (by decide +kernel) (by decide +kernel)
theorem tw_1076 : (Jvm.Cond.code ({ cls := "LitmusTester", name := "outputByte", desc := "(I)I" } : Jvm.MethodName) prog_1_method_15_code (2 : Nat) (Option.some Jvm.ClassFile.FieldType.int)) ∈ tg_ := tk_4 (i := 225) (by decide +kernel) (by decide +kernel)
theorem tw_1077 : (Jvm.Cond.classLink "LitmusTester" (157 : Nat) "java/util/NoSuchElementException") ∈ tg_ := tk_4 (i := 226) (by decide +kernel) (by decide +kernel)
theorem tw_1093 : (Jvm.Cond.methodLink "LitmusTester" (162 : Nat) ({ cls := "LitmusTester$Output", name := "byteAt", desc := "(I)I" } : Jvm.MethodName)) ∈ tg_ := tk_5 (i := 2) (by decide +kernel) (by decide +kernel)
theorem tw_1094 : (Jvm.Cond.instanceMethod ({ cls := "LitmusTester$Output", name := "byteAt", desc := "(I)I" } : Jvm.MethodName)) ∈ tg_ := tk_5 (i := 3) (by decide +kernel) (by decide +kernel)
theorem tw_1095 : (Jvm.Cond.selects "LitmusTester$Output" ({ cls := "LitmusTester$Output", name := "byteAt", desc := "(I)I" } : Jvm.MethodName) ({ cls := "LitmusTester$Output", name := "byteAt", desc := "(I)I" } : Jvm.MethodName)) ∈ tg_ := tk_5 (i := 4) (by decide +kernel) (by decide +kernel)
theorem tw_1096 : (Jvm.Cond.code ({ cls := "LitmusTester$Output", name := "byteAt", desc := "(I)I" } : Jvm.MethodName) prog_7_method_4_code (2 : Nat) (Option.some Jvm.ClassFile.FieldType.int)) ∈ tg_ := tk_5 (i := 5) (by decide +kernel) (by decide +kernel)
theorem tw_1101 : (Jvm.Cond.methodLink "LitmusTesterLaw" (21 : Nat) ({ cls := "LitmusTester", name := "outcomeCount", desc := "(I)I" } : Jvm.MethodName)) ∈ tg_ := tk_5 (i := 10) (by decide +kernel) (by decide +kernel)
theorem tw_1102 : (Jvm.Cond.instanceMethod ({ cls := "LitmusTester", name := "outcomeCount", desc := "(I)I" } : Jvm.MethodName)) ∈ tg_ := tk_5 (i := 11) (by decide +kernel) (by decide +kernel)
theorem tw_1103 : (Jvm.Cond.selects "LitmusTester" ({ cls := "LitmusTester", name := "outcomeCount", desc := "(I)I" } : Jvm.MethodName) ({ cls := "LitmusTester", name := "outcomeCount", desc := "(I)I" } : Jvm.MethodName)) ∈ tg_ := tk_5 (i := 12) (by decide +kernel) (by decide +kernel)
theorem tw_1104 : (Jvm.Cond.code ({ cls := "LitmusTester", name := "outcomeCount", desc := "(I)I" } : Jvm.MethodName) prog_1_method_19_code (2 : Nat) (Option.some Jvm.ClassFile.FieldType.int)) ∈ tg_ := tk_5 (i := 13) (by decide +kernel) (by decide +kernel)
theorem tw_1105 : (Jvm.Cond.methodLink "LitmusTester" (189 : Nat) ({ cls := "LitmusTester", name := "requireModel", desc := "(I)V" } : Jvm.MethodName)) ∈ tg_ := tk_5 (i := 14) (by decide +kernel) (by decide +kernel)
theorem tw_1107 : (Jvm.Cond.instanceMethod ({ cls := "LitmusTester", name := "requireModel", desc := "(I)V" } : Jvm.MethodName)) ∈ tg_ := tk_5 (i := 16) (by decide +kernel) (by decide +kernel)
theorem tw_1108 : (Jvm.Cond.code ({ cls := "LitmusTester", name := "requireModel", desc := "(I)V" } : Jvm.MethodName) prog_1_method_16_code (2 : Nat) (Option.none : Option Jvm.ClassFile.FieldType)) ∈ tg_ := tk_5 (i := 17) (by decide +kernel) (by decide +kernel)
theorem tw_1109 : (Jvm.Cond.classLink "LitmusTester" (165 : Nat) "java/lang/IllegalArgumentException") ∈ tg_ := tk_5 (i := 18) (by decide +kernel) (by decide +kernel)
theorem tw_1125 : (Jvm.Cond.methodLink "LitmusTester" (192 : Nat) ({ cls := "LitmusTester", name := "findings", desc := "(I)LLitmusTester$Findings;" } : Jvm.MethodName)) ∈ tg_ := tk_5 (i := 34) (by decide +kernel) (by decide +kernel)
theorem tw_1127 : (Jvm.Cond.instanceMethod ({ cls := "LitmusTester", name := "findings", desc := "(I)LLitmusTester$Findings;" } : Jvm.MethodName)) ∈ tg_ := tk_5 (i := 36) (by decide +kernel) (by decide +kernel)
theorem tw_1128 : (Jvm.Cond.code ({ cls := "LitmusTester", name := "findings", desc := "(I)LLitmusTester$Findings;" } : Jvm.MethodName) prog_1_method_18_code (3 : Nat) (Option.some (Jvm.ClassFile.FieldType.object "LitmusTester$Findings"))) ∈ tg_ := tk_5 (i := 37) (by decide +kernel) (by decide +kernel)
theorem tw_1129 : (Jvm.Cond.methodLink "LitmusTester" (170 : Nat) ({ cls := "LitmusTester", name := "kept", desc := "(I)LLitmusTester$Findings;" } : Jvm.MethodName)) ∈ tg_ := tk_5 (i := 38) (by decide +kernel) (by decide +kernel)
theorem tw_1131 : (Jvm.Cond.instanceMethod ({ cls := "LitmusTester", name := "kept", desc := "(I)LLitmusTester$Findings;" } : Jvm.MethodName)) ∈ tg_ := tk_5 (i := 40) (by decide +kernel) (by decide +kernel)
theorem tw_1132 : (Jvm.Cond.code ({ cls := "LitmusTester", name := "kept", desc := "(I)LLitmusTester$Findings;" } : Jvm.MethodName) prog_1_method_17_code (2 : Nat) (Option.some (Jvm.ClassFile.FieldType.object "LitmusTester$Findings"))) ∈ tg_ := tk_5 (i := 41) (by decide +kernel) (by decide +kernel)
theorem tw_1133 : (Jvm.Cond.methodLink "LitmusTester" (174 : Nat) ({ cls := "LitmusTester$Findings", name := "isKnown", desc := "()Z" } : Jvm.MethodName)) ∈ tg_ := tk_5 (i := 42) (by decide +kernel) (by decide +kernel)
theorem tw_1134 : (Jvm.Cond.instanceMethod ({ cls := "LitmusTester$Findings", name := "isKnown", desc := "()Z" } : Jvm.MethodName)) ∈ tg_ := tk_5 (i := 43) (by decide +kernel) (by decide +kernel)
theorem tw_1135 : (Jvm.Cond.selects "LitmusTester$Findings" ({ cls := "LitmusTester$Findings", name := "isKnown", desc := "()Z" } : Jvm.MethodName) ({ cls := "LitmusTester$Findings", name := "isKnown", desc := "()Z" } : Jvm.MethodName)) ∈ tg_ := tk_5 (i := 44) (by decide +kernel) (by decide +kernel)
theorem tw_1136 : (Jvm.Cond.code ({ cls := "LitmusTester$Findings", name := "isKnown", desc := "()Z" } : Jvm.MethodName) prog_5_method_2_code (1 : Nat) (Option.some Jvm.ClassFile.FieldType.boolean)) ∈ tg_ := tk_5 (i := 45) (by decide +kernel) (by decide +kernel)
theorem tw_1137 : (Jvm.Cond.methodLink "LitmusTester" (178 : Nat) ({ cls := "LitmusTester$Program", name := "waits", desc := "()I" } : Jvm.MethodName)) ∈ tg_ := tk_5 (i := 46) (by decide +kernel) (by decide +kernel)
theorem tw_1138 : (Jvm.Cond.instanceMethod ({ cls := "LitmusTester$Program", name := "waits", desc := "()I" } : Jvm.MethodName)) ∈ tg_ := tk_5 (i := 47) (by decide +kernel) (by decide +kernel)
theorem tw_1139 : (Jvm.Cond.selects "LitmusTester$Program" ({ cls := "LitmusTester$Program", name := "waits", desc := "()I" } : Jvm.MethodName) ({ cls := "LitmusTester$Program", name := "waits", desc := "()I" } : Jvm.MethodName)) ∈ tg_ := tk_5 (i := 48) (by decide +kernel) (by decide +kernel)
theorem tw_1140 : (Jvm.Cond.code ({ cls := "LitmusTester$Program", name := "waits", desc := "()I" } : Jvm.MethodName) prog_9_method_27_code (4 : Nat) (Option.some Jvm.ClassFile.FieldType.int)) ∈ tg_ := tk_5 (i := 49) (by decide +kernel) (by decide +kernel)
theorem tw_1141 : (Jvm.Cond.methodLink "LitmusTester" (181 : Nat) ({ cls := "LitmusTester$Explorer", name := "explore", desc := "(II)V" } : Jvm.MethodName)) ∈ tg_ := tk_5 (i := 50) (by decide +kernel) (by decide +kernel)
theorem tw_1142 : (Jvm.Cond.instanceMethod ({ cls := "LitmusTester$Explorer", name := "explore", desc := "(II)V" } : Jvm.MethodName)) ∈ tg_ := tk_5 (i := 51) (by decide +kernel) (by decide +kernel)
theorem tw_1143 : (Jvm.Cond.selects "LitmusTester$Explorer" ({ cls := "LitmusTester$Explorer", name := "explore", desc := "(II)V" } : Jvm.MethodName) ({ cls := "LitmusTester$Explorer", name := "explore", desc := "(II)V" } : Jvm.MethodName)) ∈ tg_ := tk_5 (i := 52) (by decide +kernel) (by decide +kernel)
theorem tw_1144 : (Jvm.Cond.code ({ cls := "LitmusTester$Explorer", name := "explore", desc := "(II)V" } : Jvm.MethodName) prog_4_method_2_code (13 : Nat) (Option.none : Option Jvm.ClassFile.FieldType)) ∈ tg_ := tk_5 (i := 53) (by decide +kernel) (by decide +kernel)
theorem tw_1145 : (Jvm.Cond.methodLink "LitmusTester$Explorer" (35 : Nat) ({ cls := "LitmusTester$Machine", name := "prepare", desc := "(II)V" } : Jvm.MethodName)) ∈ tg_ := tk_5 (i := 54) (by decide +kernel) (by decide +kernel)
theorem tw_1146 : (Jvm.Cond.instanceMethod ({ cls := "LitmusTester$Machine", name := "prepare", desc := "(II)V" } : Jvm.MethodName)) ∈ tg_ := tk_5 (i := 55) (by decide +kernel) (by decide +kernel)
theorem tw_1147 : (Jvm.Cond.selects "LitmusTester$Machine" ({ cls := "LitmusTester$Machine", name := "prepare", desc := "(II)V" } : Jvm.MethodName) ({ cls := "LitmusTester$Machine", name := "prepare", desc := "(II)V" } : Jvm.MethodName)) ∈ tg_ := tk_5 (i := 56) (by decide +kernel) (by decide +kernel)
theorem tw_1148 : (Jvm.Cond.code ({ cls := "LitmusTester$Machine", name := "prepare", desc := "(II)V" } : Jvm.MethodName) prog_6_method_2_code (4 : Nat) (Option.none : Option Jvm.ClassFile.FieldType)) ∈ tg_ := tk_5 (i := 57) (by decide +kernel) (by decide +kernel)
theorem tw_1149 : (Jvm.Cond.methodLink "LitmusTester$Machine" (60 : Nat) ({ cls := "LitmusTester$Machine", name := "prepareLocations", desc := "()V" } : Jvm.MethodName)) ∈ tg_ := tk_5 (i := 58) (by decide +kernel) (by decide +kernel)
theorem tw_1151 : (Jvm.Cond.instanceMethod ({ cls := "LitmusTester$Machine", name := "prepareLocations", desc := "()V" } : Jvm.MethodName)) ∈ tg_ := tk_5 (i := 60) (by decide +kernel) (by decide +kernel)
theorem tw_1152 : (Jvm.Cond.code ({ cls := "LitmusTester$Machine", name := "prepareLocations", desc := "()V" } : Jvm.MethodName) prog_6_method_3_code (2 : Nat) (Option.none : Option Jvm.ClassFile.FieldType)) ∈ tg_ := tk_5 (i := 61) (by decide +kernel) (by decide +kernel)
theorem tw_1153 : (Jvm.Cond.methodLink "LitmusTester$Machine" (76 : Nat) ({ cls := "LitmusTester$Program", name := "locations", desc := "()I" } : Jvm.MethodName)) ∈ tg_ := tk_5 (i := 62) (by decide +kernel) (by decide +kernel)
theorem tw_1154 : (Jvm.Cond.methodLink "LitmusTester$Machine" (78 : Nat) ({ cls := "LitmusTester$Program", name := "initialOf", desc := "(I)I" } : Jvm.MethodName)) ∈ tg_ := tk_5 (i := 63) (by decide +kernel) (by decide +kernel)
theorem tw_1155 : (Jvm.Cond.methodLink "LitmusTester$Machine" (82 : Nat) ({ cls := "LitmusTester$Program", name := "locationShift", desc := "(I)I" } : Jvm.MethodName)) ∈ tg_ := tk_5 (i := 64) (by decide +kernel) (by decide +kernel)
theorem tw_1156 : (Jvm.Cond.methodLink "LitmusTester$Machine" (63 : Nat) ({ cls := "LitmusTester$Machine", name := "prepareThreads", desc := "()V" } : Jvm.MethodName)) ∈ tg_ := tk_5 (i := 65) (by decide +kernel) (by decide +kernel)
theorem tw_1158 : (Jvm.Cond.instanceMethod ({ cls := "LitmusTester$Machine", name := "prepareThreads", desc := "()V" } : Jvm.MethodName)) ∈ tg_ := tk_5 (i := 67) (by decide +kernel) (by decide +kernel)
theorem tw_1159 : (Jvm.Cond.code ({ cls := "LitmusTester$Machine", name := "prepareThreads", desc := "()V" } : Jvm.MethodName) prog_6_method_4_code (3 : Nat) (Option.none : Option Jvm.ClassFile.FieldType)) ∈ tg_ := tk_5 (i := 68) (by decide +kernel) (by decide +kernel)
theorem tw_1160 : (Jvm.Cond.methodLink "LitmusTester$Machine" (85 : Nat) ({ cls := "LitmusTester$Program", name := "threads", desc := "()I" } : Jvm.MethodName)) ∈ tg_ := tk_5 (i := 69) (by decide +kernel) (by decide +kernel)
theorem tw_1161 : (Jvm.Cond.methodLink "LitmusTester$Machine" (88 : Nat) ({ cls := "LitmusTester$Program", name := "sizeOf", desc := "(I)I" } : Jvm.MethodName)) ∈ tg_ := tk_5 (i := 70) (by decide +kernel) (by decide +kernel)
theorem tw_1162 : (Jvm.Cond.methodLink "LitmusTester$Machine" (91 : Nat) ({ cls := "LitmusTester$Machine", name := "positionShift", desc := "(I)I" } : Jvm.MethodName)) ∈ tg_ := tk_5 (i := 71) (by decide +kernel) (by decide +kernel)
theorem tw_1163 : (Jvm.Cond.static ({ cls := "LitmusTester$Machine", name := "positionShift", desc := "(I)I" } : Jvm.MethodName)) ∈ tg_ := tk_5 (i := 72) (by decide +kernel) (by decide +kernel)
theorem tw_1164 : (Jvm.Cond.code ({ cls := "LitmusTester$Machine", name := "positionShift", desc := "(I)I" } : Jvm.MethodName) prog_6_method_6_code (1 : Nat) (Option.some Jvm.ClassFile.FieldType.int)) ∈ tg_ := tk_5 (i := 73) (by decide +kernel) (by decide +kernel)
theorem tw_1165 : (Jvm.Cond.methodLink "LitmusTester$Machine" (66 : Nat) ({ cls := "LitmusTester$Program", name := "size", desc := "()I" } : Jvm.MethodName)) ∈ tg_ := tk_5 (i := 74) (by decide +kernel) (by decide +kernel)
theorem tw_1166 : (Jvm.Cond.methodLink "LitmusTester$Machine" (72 : Nat) ({ cls := "LitmusTester$Machine", name := "prepareInstruction", desc := "(I)V" } : Jvm.MethodName)) ∈ tg_ := tk_5 (i := 75) (by decide +kernel) (by decide +kernel)
theorem tw_1168 : (Jvm.Cond.instanceMethod ({ cls := "LitmusTester$Machine", name := "prepareInstruction", desc := "(I)V" } : Jvm.MethodName)) ∈ tg_ := tk_5 (i := 77) (by decide +kernel) (by decide +kernel)
theorem tw_1169 : (Jvm.Cond.code ({ cls := "LitmusTester$Machine", name := "prepareInstruction", desc := "(I)V" } : Jvm.MethodName) prog_6_method_5_code (5 : Nat) (Option.none : Option Jvm.ClassFile.FieldType)) ∈ tg_ := tk_5 (i := 78) (by decide +kernel) (by decide +kernel)
theorem tw_1170 : (Jvm.Cond.methodLink "LitmusTester$Machine" (94 : Nat) ({ cls := "LitmusTester$Program", name := "property", desc := "(II)I" } : Jvm.MethodName)) ∈ tg_ := tk_5 (i := 79) (by decide +kernel) (by decide +kernel)
theorem tw_1171 : (Jvm.Cond.methodLink "LitmusTester$Machine" (98 : Nat) ({ cls := "LitmusTester$Program", name := "registerShift", desc := "(II)I" } : Jvm.MethodName)) ∈ tg_ := tk_5 (i := 80) (by decide +kernel) (by decide +kernel)
theorem tw_1172 : (Jvm.Cond.methodLink "LitmusTester$Explorer" (39 : Nat) ({ cls := "LitmusTester$StateTable", name := "clear", desc := "()V" } : Jvm.MethodName)) ∈ tg_ := tk_5 (i := 81) (by decide +kernel) (by decide +kernel)
theorem tw_1173 : (Jvm.Cond.instanceMethod ({ cls := "LitmusTester$StateTable", name := "clear", desc := "()V" } : Jvm.MethodName)) ∈ tg_ := tk_5 (i := 82) (by decide +kernel) (by decide +kernel)
theorem tw_1174 : (Jvm.Cond.selects "LitmusTester$StateTable" ({ cls := "LitmusTester$StateTable", name := "clear", desc := "()V" } : Jvm.MethodName) ({ cls := "LitmusTester$StateTable", name := "clear", desc := "()V" } : Jvm.MethodName)) ∈ tg_ := tk_5 (i := 83) (by decide +kernel) (by decide +kernel)
theorem tw_1175 : (Jvm.Cond.code ({ cls := "LitmusTester$StateTable", name := "clear", desc := "()V" } : Jvm.MethodName) prog_11_method_2_code (1 : Nat) (Option.none : Option Jvm.ClassFile.FieldType)) ∈ tg_ := tk_5 (i := 84) (by decide +kernel) (by decide +kernel)
theorem tw_1176 : (Jvm.Cond.methodLink "LitmusTester$StateTable" (29 : Nat) ({ cls := "LitmusTester$StateTable", name := "useSlots", desc := "(I)V" } : Jvm.MethodName)) ∈ tg_ := tk_5 (i := 85) (by decide +kernel) (by decide +kernel)
theorem tw_1178 : (Jvm.Cond.instanceMethod ({ cls := "LitmusTester$StateTable", name := "useSlots", desc := "(I)V" } : Jvm.MethodName)) ∈ tg_ := tk_5 (i := 87) (by decide +kernel) (by decide +kernel)
theorem tw_1179 : (Jvm.Cond.code ({ cls := "LitmusTester$StateTable", name := "useSlots", desc := "(I)V" } : Jvm.MethodName) prog_11_method_3_code (3 : Nat) (Option.none : Option Jvm.ClassFile.FieldType)) ∈ tg_ := tk_5 (i := 88) (by decide +kernel) (by decide +kernel)
theorem tw_1180 : (Jvm.Cond.methodLink "LitmusTester$Explorer" (42 : Nat) ({ cls := "LitmusTester$Machine", name := "start", desc := "()J" } : Jvm.MethodName)) ∈ tg_ := tk_5 (i := 89) (by decide +kernel) (by decide +kernel)
theorem tw_1181 : (Jvm.Cond.instanceMethod ({ cls := "LitmusTester$Machine", name := "start", desc := "()J" } : Jvm.MethodName)) ∈ tg_ := tk_5 (i := 90) (by decide +kernel) (by decide +kernel)
theorem tw_1182 : (Jvm.Cond.selects "LitmusTester$Machine" ({ cls := "LitmusTester$Machine", name := "start", desc := "()J" } : Jvm.MethodName) ({ cls := "LitmusTester$Machine", name := "start", desc := "()J" } : Jvm.MethodName)) ∈ tg_ := tk_5 (i := 91) (by decide +kernel) (by decide +kernel)
theorem tw_1183 : (Jvm.Cond.code ({ cls := "LitmusTester$Machine", name := "start", desc := "()J" } : Jvm.MethodName) prog_6_method_7_code (1 : Nat) (Option.some Jvm.ClassFile.FieldType.long)) ∈ tg_ := tk_5 (i := 92) (by decide +kernel) (by decide +kernel)
theorem tw_1184 : (Jvm.Cond.methodLink "LitmusTester$Explorer" (46 : Nat) ({ cls := "LitmusTester$StateTable", name := "add", desc := "(JJ)V" } : Jvm.MethodName)) ∈ tg_ := tk_5 (i := 93) (by decide +kernel) (by decide +kernel)
theorem tw_1185 : (Jvm.Cond.instanceMethod ({ cls := "LitmusTester$StateTable", name := "add", desc := "(JJ)V" } : Jvm.MethodName)) ∈ tg_ := tk_5 (i := 94) (by decide +kernel) (by decide +kernel)
theorem tw_1186 : (Jvm.Cond.selects "LitmusTester$StateTable" ({ cls := "LitmusTester$StateTable", name := "add", desc := "(JJ)V" } : Jvm.MethodName) ({ cls := "LitmusTester$StateTable", name := "add", desc := "(JJ)V" } : Jvm.MethodName)) ∈ tg_ := tk_5 (i := 95) (by decide +kernel) (by decide +kernel)
theorem tw_1187 : (Jvm.Cond.code ({ cls := "LitmusTester$StateTable", name := "add", desc := "(JJ)V" } : Jvm.MethodName) prog_11_method_9_code (7 : Nat) (Option.none : Option Jvm.ClassFile.FieldType)) ∈ tg_ := tk_5 (i := 96) (by decide +kernel) (by decide +kernel)
theorem tw_1188 : (Jvm.Cond.methodLink "LitmusTester$StateTable" (45 : Nat) ({ cls := "LitmusTester$StateTable", name := "makeRoom", desc := "()V" } : Jvm.MethodName)) ∈ tg_ := tk_5 (i := 97) (by decide +kernel) (by decide +kernel)
theorem tw_1190 : (Jvm.Cond.instanceMethod ({ cls := "LitmusTester$StateTable", name := "makeRoom", desc := "()V" } : Jvm.MethodName)) ∈ tg_ := tk_5 (i := 99) (by decide +kernel) (by decide +kernel)
theorem tw_1191 : (Jvm.Cond.code ({ cls := "LitmusTester$StateTable", name := "makeRoom", desc := "()V" } : Jvm.MethodName) prog_11_method_10_code (3 : Nat) (Option.none : Option Jvm.ClassFile.FieldType)) ∈ tg_ := tk_5 (i := 100) (by decide +kernel) (by decide +kernel)
theorem tw_1192 : (Jvm.Cond.constant "LitmusTester$StateTable" (48 : Nat) (1048576 : Int32)) ∈ tg_ := tk_5 (i := 101) (by decide +kernel) (by decide +kernel)
theorem tw_1193 : (Jvm.Cond.methodLink "LitmusTester$StateTable" (49 : Nat) ({ cls := "java/util/Arrays", name := "copyOf", desc := "([JI)[J" } : Jvm.MethodName)) ∈ tg_ := tk_5 (i := 102) (by decide +kernel) (by decide +kernel)
theorem tw_1194 : (Jvm.Cond.static ({ cls := "java/util/Arrays", name := "copyOf", desc := "([JI)[J" } : Jvm.MethodName)) ∈ tg_ := tk_5 (i := 103) (by decide +kernel) (by decide +kernel)
theorem tw_1195 : (Jvm.Cond.code ({ cls := "java/util/Arrays", name := "copyOf", desc := "([JI)[J" } : Jvm.MethodName) prog_34_method_124_code (3 : Nat) (Option.some (Jvm.ClassFile.FieldType.array Jvm.ClassFile.FieldType.long))) ∈ tg_ := tk_5 (i := 104) (by decide +kernel) (by decide +kernel)
theorem tw_1203 : (Jvm.Cond.methodLink "java/util/Arrays" (304 : Nat) ({ cls := "java/lang/Math", name := "min", desc := "(II)I" } : Jvm.MethodName)) ∈ tg_ := tk_5 (i := 112) (by decide +kernel) (by decide +kernel)
theorem tw_1204 : (Jvm.Cond.methodLink "java/util/Arrays" (150 : Nat) ({ cls := "java/lang/System", name := "arraycopy", desc := "(Ljava/lang/Object;ILjava/lang/Object;II)V" } : Jvm.MethodName)) ∈ tg_ := tk_5 (i := 113) (by decide +kernel) (by decide +kernel)
theorem tw_1205 : (Jvm.Cond.methodLink "LitmusTester$StateTable" (37 : Nat) ({ cls := "LitmusTester$StateTable", name := "stateAt", desc := "(I)J" } : Jvm.MethodName)) ∈ tg_ := tk_5 (i := 114) (by decide +kernel) (by decide +kernel)
theorem tw_1206 : (Jvm.Cond.instanceMethod ({ cls := "LitmusTester$StateTable", name := "stateAt", desc := "(I)J" } : Jvm.MethodName)) ∈ tg_ := tk_5 (i := 115) (by decide +kernel) (by decide +kernel)
theorem tw_1207 : (Jvm.Cond.selects "LitmusTester$StateTable" ({ cls := "LitmusTester$StateTable", name := "stateAt", desc := "(I)J" } : Jvm.MethodName) ({ cls := "LitmusTester$StateTable", name := "stateAt", desc := "(I)J" } : Jvm.MethodName)) ∈ tg_ := tk_5 (i := 116) (by decide +kernel) (by decide +kernel)
theorem tw_1208 : (Jvm.Cond.code ({ cls := "LitmusTester$StateTable", name := "stateAt", desc := "(I)J" } : Jvm.MethodName) prog_11_method_5_code (2 : Nat) (Option.some Jvm.ClassFile.FieldType.long)) ∈ tg_ := tk_5 (i := 117) (by decide +kernel) (by decide +kernel)
theorem tw_1209 : (Jvm.Cond.constantLong "LitmusTester$StateTable" (33 : Nat) (-1 : Int64)) ∈ tg_ := tk_5 (i := 118) (by decide +kernel) (by decide +kernel)
theorem tw_1210 : (Jvm.Cond.methodLink "LitmusTester$StateTable" (41 : Nat) ({ cls := "LitmusTester$StateTable", name := "slotOf", desc := "(J)I" } : Jvm.MethodName)) ∈ tg_ := tk_5 (i := 119) (by decide +kernel) (by decide +kernel)
theorem tw_1212 : (Jvm.Cond.instanceMethod ({ cls := "LitmusTester$StateTable", name := "slotOf", desc := "(J)I" } : Jvm.MethodName)) ∈ tg_ := tk_5 (i := 121) (by decide +kernel) (by decide +kernel)
theorem tw_1213 : (Jvm.Cond.code ({ cls := "LitmusTester$StateTable", name := "slotOf", desc := "(J)I" } : Jvm.MethodName) prog_11_method_7_code (7 : Nat) (Option.some Jvm.ClassFile.FieldType.int)) ∈ tg_ := tk_5 (i := 122) (by decide +kernel) (by decide +kernel)
theorem tw_1214 : (Jvm.Cond.constantLong "LitmusTester$StateTable" (35 : Nat) (-7046029254386353131 : Int64)) ∈ tg_ := tk_5 (i := 123) (by decide +kernel) (by decide +kernel)
theorem tw_1215 : (Jvm.Cond.constant "LitmusTester$Explorer" (50 : Nat) (1048576 : Int32)) ∈ tg_ := tk_5 (i := 124) (by decide +kernel) (by decide +kernel)
theorem tw_1216 : (Jvm.Cond.methodLink "LitmusTester$Explorer" (51 : Nat) ({ cls := "LitmusTester$StateTable", name := "size", desc := "()I" } : Jvm.MethodName)) ∈ tg_ := tk_5 (i := 125) (by decide +kernel) (by decide +kernel)
theorem tw_1217 : (Jvm.Cond.instanceMethod ({ cls := "LitmusTester$StateTable", name := "size", desc := "()I" } : Jvm.MethodName)) ∈ tg_ := tk_5 (i := 126) (by decide +kernel) (by decide +kernel)
theorem tw_1218 : (Jvm.Cond.selects "LitmusTester$StateTable" ({ cls := "LitmusTester$StateTable", name := "size", desc := "()I" } : Jvm.MethodName) ({ cls := "LitmusTester$StateTable", name := "size", desc := "()I" } : Jvm.MethodName)) ∈ tg_ := tk_5 (i := 127) (by decide +kernel) (by decide +kernel)
theorem tw_1219 : (Jvm.Cond.code ({ cls := "LitmusTester$StateTable", name := "size", desc := "()I" } : Jvm.MethodName) prog_11_method_4_code (1 : Nat) (Option.some Jvm.ClassFile.FieldType.int)) ∈ tg_ := tk_5 (i := 128) (by decide +kernel) (by decide +kernel)
theorem tw_1220 : (Jvm.Cond.methodLink "LitmusTester$Explorer" (55 : Nat) ({ cls := "LitmusTester$StateTable", name := "stateAt", desc := "(I)J" } : Jvm.MethodName)) ∈ tg_ := tk_5 (i := 129) (by decide +kernel) (by decide +kernel)
theorem tw_1221 : (Jvm.Cond.methodLink "LitmusTester$Explorer" (59 : Nat) ({ cls := "LitmusTester$StateTable", name := "waysAt", desc := "(I)J" } : Jvm.MethodName)) ∈ tg_ := tk_5 (i := 130) (by decide +kernel) (by decide +kernel)
theorem tw_1222 : (Jvm.Cond.instanceMethod ({ cls := "LitmusTester$StateTable", name := "waysAt", desc := "(I)J" } : Jvm.MethodName)) ∈ tg_ := tk_5 (i := 131) (by decide +kernel) (by decide +kernel)
theorem tw_1223 : (Jvm.Cond.selects "LitmusTester$StateTable" ({ cls := "LitmusTester$StateTable", name := "waysAt", desc := "(I)J" } : Jvm.MethodName) ({ cls := "LitmusTester$StateTable", name := "waysAt", desc := "(I)J" } : Jvm.MethodName)) ∈ tg_ := tk_5 (i := 132) (by decide +kernel) (by decide +kernel)
theorem tw_1224 : (Jvm.Cond.code ({ cls := "LitmusTester$StateTable", name := "waysAt", desc := "(I)J" } : Jvm.MethodName) prog_11_method_6_code (2 : Nat) (Option.some Jvm.ClassFile.FieldType.long)) ∈ tg_ := tk_5 (i := 133) (by decide +kernel) (by decide +kernel)
theorem tw_1225 : (Jvm.Cond.methodLink "LitmusTester$Explorer" (62 : Nat) ({ cls := "LitmusTester$Machine", name := "threads", desc := "()I" } : Jvm.MethodName)) ∈ tg_ := tk_5 (i := 134) (by decide +kernel) (by decide +kernel)
theorem tw_1226 : (Jvm.Cond.instanceMethod ({ cls := "LitmusTester$Machine", name := "threads", desc := "()I" } : Jvm.MethodName)) ∈ tg_ := tk_5 (i := 135) (by decide +kernel) (by decide +kernel)
theorem tw_1227 : (Jvm.Cond.selects "LitmusTester$Machine" ({ cls := "LitmusTester$Machine", name := "threads", desc := "()I" } : Jvm.MethodName) ({ cls := "LitmusTester$Machine", name := "threads", desc := "()I" } : Jvm.MethodName)) ∈ tg_ := tk_5 (i := 136) (by decide +kernel) (by decide +kernel)
theorem tw_1228 : (Jvm.Cond.code ({ cls := "LitmusTester$Machine", name := "threads", desc := "()I" } : Jvm.MethodName) prog_6_method_8_code (1 : Nat) (Option.some Jvm.ClassFile.FieldType.int)) ∈ tg_ := tk_5 (i := 137) (by decide +kernel) (by decide +kernel)
theorem tw_1229 : (Jvm.Cond.methodLink "LitmusTester$Explorer" (65 : Nat) ({ cls := "LitmusTester$Machine", name := "parts", desc := "(JI)I" } : Jvm.MethodName)) ∈ tg_ := tk_5 (i := 138) (by decide +kernel) (by decide +kernel)
theorem tw_1230 : (Jvm.Cond.instanceMethod ({ cls := "LitmusTester$Machine", name := "parts", desc := "(JI)I" } : Jvm.MethodName)) ∈ tg_ := tk_5 (i := 139) (by decide +kernel) (by decide +kernel)
theorem tw_1231 : (Jvm.Cond.selects "LitmusTester$Machine" ({ cls := "LitmusTester$Machine", name := "parts", desc := "(JI)I" } : Jvm.MethodName) ({ cls := "LitmusTester$Machine", name := "parts", desc := "(JI)I" } : Jvm.MethodName)) ∈ tg_ := tk_5 (i := 140) (by decide +kernel) (by decide +kernel)
theorem tw_1232 : (Jvm.Cond.code ({ cls := "LitmusTester$Machine", name := "parts", desc := "(JI)I" } : Jvm.MethodName) prog_6_method_17_code (4 : Nat) (Option.some Jvm.ClassFile.FieldType.int)) ∈ tg_ := tk_5 (i := 141) (by decide +kernel) (by decide +kernel)
theorem tw_1233 : (Jvm.Cond.methodLink "LitmusTester$Machine" (102 : Nat) ({ cls := "LitmusTester$Machine", name := "waitingOf", desc := "(JI)I" } : Jvm.MethodName)) ∈ tg_ := tk_5 (i := 142) (by decide +kernel) (by decide +kernel)
theorem tw_1235 : (Jvm.Cond.instanceMethod ({ cls := "LitmusTester$Machine", name := "waitingOf", desc := "(JI)I" } : Jvm.MethodName)) ∈ tg_ := tk_5 (i := 144) (by decide +kernel) (by decide +kernel)
theorem tw_1236 : (Jvm.Cond.code ({ cls := "LitmusTester$Machine", name := "waitingOf", desc := "(JI)I" } : Jvm.MethodName) prog_6_method_12_code (5 : Nat) (Option.some Jvm.ClassFile.FieldType.int)) ∈ tg_ := tk_5 (i := 145) (by decide +kernel) (by decide +kernel)
theorem tw_1237 : (Jvm.Cond.methodLink "LitmusTester$Explorer" (69 : Nat) ({ cls := "LitmusTester$Machine", name := "after", desc := "(JII)J" } : Jvm.MethodName)) ∈ tg_ := tk_5 (i := 146) (by decide +kernel) (by decide +kernel)
theorem tw_1238 : (Jvm.Cond.instanceMethod ({ cls := "LitmusTester$Machine", name := "after", desc := "(JII)J" } : Jvm.MethodName)) ∈ tg_ := tk_5 (i := 147) (by decide +kernel) (by decide +kernel)
theorem tw_1239 : (Jvm.Cond.selects "LitmusTester$Machine" ({ cls := "LitmusTester$Machine", name := "after", desc := "(JII)J" } : Jvm.MethodName) ({ cls := "LitmusTester$Machine", name := "after", desc := "(JII)J" } : Jvm.MethodName)) ∈ tg_ := tk_5 (i := 148) (by decide +kernel) (by decide +kernel)
theorem tw_1240 : (Jvm.Cond.code ({ cls := "LitmusTester$Machine", name := "after", desc := "(JII)J" } : Jvm.MethodName) prog_6_method_18_code (8 : Nat) (Option.some Jvm.ClassFile.FieldType.long)) ∈ tg_ := tk_5 (i := 149) (by decide +kernel) (by decide +kernel)
theorem tw_1241 : (Jvm.Cond.methodLink "LitmusTester$Machine" (115 : Nat) ({ cls := "LitmusTester$Machine", name := "next", desc := "(JI)I" } : Jvm.MethodName)) ∈ tg_ := tk_5 (i := 150) (by decide +kernel) (by decide +kernel)
theorem tw_1242 : (Jvm.Cond.instanceMethod ({ cls := "LitmusTester$Machine", name := "next", desc := "(JI)I" } : Jvm.MethodName)) ∈ tg_ := tk_5 (i := 151) (by decide +kernel) (by decide +kernel)
theorem tw_1243 : (Jvm.Cond.selects "LitmusTester$Machine" ({ cls := "LitmusTester$Machine", name := "next", desc := "(JI)I" } : Jvm.MethodName) ({ cls := "LitmusTester$Machine", name := "next", desc := "(JI)I" } : Jvm.MethodName)) ∈ tg_ := tk_5 (i := 152) (by decide +kernel) (by decide +kernel)
theorem tw_1244 : (Jvm.Cond.code ({ cls := "LitmusTester$Machine", name := "next", desc := "(JI)I" } : Jvm.MethodName) prog_6_method_14_code (5 : Nat) (Option.some Jvm.ClassFile.FieldType.int)) ∈ tg_ := tk_5 (i := 153) (by decide +kernel) (by decide +kernel)
theorem tw_1245 : (Jvm.Cond.methodLink "LitmusTester$Machine" (118 : Nat) ({ cls := "LitmusTester$Machine", name := "committed", desc := "(JII)I" } : Jvm.MethodName)) ∈ tg_ := tk_5 (i := 154) (by decide +kernel) (by decide +kernel)
theorem tw_1246 : (Jvm.Cond.instanceMethod ({ cls := "LitmusTester$Machine", name := "committed", desc := "(JII)I" } : Jvm.MethodName)) ∈ tg_ := tk_5 (i := 155) (by decide +kernel) (by decide +kernel)
theorem tw_1247 : (Jvm.Cond.selects "LitmusTester$Machine" ({ cls := "LitmusTester$Machine", name := "committed", desc := "(JII)I" } : Jvm.MethodName) ({ cls := "LitmusTester$Machine", name := "committed", desc := "(JII)I" } : Jvm.MethodName)) ∈ tg_ := tk_5 (i := 156) (by decide +kernel) (by decide +kernel)
theorem tw_1248 : (Jvm.Cond.code ({ cls := "LitmusTester$Machine", name := "committed", desc := "(JII)I" } : Jvm.MethodName) prog_6_method_15_code (9 : Nat) (Option.some Jvm.ClassFile.FieldType.int)) ∈ tg_ := tk_5 (i := 157) (by decide +kernel) (by decide +kernel)
theorem tw_1249 : (Jvm.Cond.methodLink "LitmusTester$Machine" (106 : Nat) ({ cls := "LitmusTester$Machine", name := "waitingFor", desc := "(JII)I" } : Jvm.MethodName)) ∈ tg_ := tk_5 (i := 158) (by decide +kernel) (by decide +kernel)
theorem tw_1251 : (Jvm.Cond.instanceMethod ({ cls := "LitmusTester$Machine", name := "waitingFor", desc := "(JII)I" } : Jvm.MethodName)) ∈ tg_ := tk_5 (i := 160) (by decide +kernel) (by decide +kernel)
theorem tw_1252 : (Jvm.Cond.code ({ cls := "LitmusTester$Machine", name := "waitingFor", desc := "(JII)I" } : Jvm.MethodName) prog_6_method_13_code (6 : Nat) (Option.some Jvm.ClassFile.FieldType.int)) ∈ tg_ := tk_5 (i := 161) (by decide +kernel) (by decide +kernel)
theorem tw_1253 : (Jvm.Cond.methodLink "LitmusTester$Machine" (110 : Nat) ({ cls := "java/lang/Integer", name := "bitCount", desc := "(I)I" } : Jvm.MethodName)) ∈ tg_ := tk_5 (i := 162) (by decide +kernel) (by decide +kernel)
theorem tw_1254 : (Jvm.Cond.static ({ cls := "java/lang/Integer", name := "bitCount", desc := "(I)I" } : Jvm.MethodName)) ∈ tg_ := tk_5 (i := 163) (by decide +kernel) (by decide +kernel)
theorem tw_1255 : (Jvm.Cond.code ({ cls := "java/lang/Integer", name := "bitCount", desc := "(I)I" } : Jvm.MethodName) prog_24_method_49_code (1 : Nat) (Option.some Jvm.ClassFile.FieldType.int)) ∈ tg_ := tk_5 (i := 164) (by decide +kernel) (by decide +kernel)
theorem tw_1256 : (Jvm.Cond.constant "java/lang/Integer" (265 : Nat) (1431655765 : Int32)) ∈ tg_ := tk_5 (i := 165) (by decide +kernel) (by decide +kernel)
theorem tw_1257 : (Jvm.Cond.constant "java/lang/Integer" (266 : Nat) (858993459 : Int32)) ∈ tg_ := tk_5 (i := 166) (by decide +kernel) (by decide +kernel)
theorem tw_1258 : (Jvm.Cond.constant "java/lang/Integer" (267 : Nat) (252645135 : Int32)) ∈ tg_ := tk_5 (i := 167) (by decide +kernel) (by decide +kernel)
theorem tw_1259 : (Jvm.Cond.constantLong "LitmusTester$Machine" (121 : Nat) (-1 : Int64)) ∈ tg_ := tk_5 (i := 168) (by decide +kernel) (by decide +kernel)
theorem tw_1260 : (Jvm.Cond.methodLink "LitmusTester$Machine" (123 : Nat) ({ cls := "LitmusTester$Machine", name := "valueOf", desc := "(JI)I" } : Jvm.MethodName)) ∈ tg_ := tk_5 (i := 169) (by decide +kernel) (by decide +kernel)
theorem tw_1262 : (Jvm.Cond.instanceMethod ({ cls := "LitmusTester$Machine", name := "valueOf", desc := "(JI)I" } : Jvm.MethodName)) ∈ tg_ := tk_5 (i := 171) (by decide +kernel) (by decide +kernel)
theorem tw_1263 : (Jvm.Cond.code ({ cls := "LitmusTester$Machine", name := "valueOf", desc := "(JI)I" } : Jvm.MethodName) prog_6_method_22_code (4 : Nat) (Option.some Jvm.ClassFile.FieldType.int)) ∈ tg_ := tk_5 (i := 172) (by decide +kernel) (by decide +kernel)
theorem tw_1264 : (Jvm.Cond.methodLink "LitmusTester$Machine" (126 : Nat) ({ cls := "LitmusTester$Machine", name := "written", desc := "(JII)J" } : Jvm.MethodName)) ∈ tg_ := tk_5 (i := 173) (by decide +kernel) (by decide +kernel)
theorem tw_1266 : (Jvm.Cond.instanceMethod ({ cls := "LitmusTester$Machine", name := "written", desc := "(JII)J" } : Jvm.MethodName)) ∈ tg_ := tk_5 (i := 175) (by decide +kernel) (by decide +kernel)
theorem tw_1267 : (Jvm.Cond.code ({ cls := "LitmusTester$Machine", name := "written", desc := "(JII)J" } : Jvm.MethodName) prog_6_method_20_code (6 : Nat) (Option.some Jvm.ClassFile.FieldType.long)) ∈ tg_ := tk_5 (i := 176) (by decide +kernel) (by decide +kernel)
theorem tw_1268 : (Jvm.Cond.methodLink "LitmusTester$Machine" (138 : Nat) ({ cls := "LitmusTester$Machine", name := "withDigit", desc := "(JII)J" } : Jvm.MethodName)) ∈ tg_ := tk_5 (i := 177) (by decide +kernel) (by decide +kernel)
theorem tw_1269 : (Jvm.Cond.static ({ cls := "LitmusTester$Machine", name := "withDigit", desc := "(JII)J" } : Jvm.MethodName)) ∈ tg_ := tk_5 (i := 178) (by decide +kernel) (by decide +kernel)
theorem tw_1270 : (Jvm.Cond.code ({ cls := "LitmusTester$Machine", name := "withDigit", desc := "(JII)J" } : Jvm.MethodName) prog_6_method_23_code (4 : Nat) (Option.some Jvm.ClassFile.FieldType.long)) ∈ tg_ := tk_5 (i := 179) (by decide +kernel) (by decide +kernel)
theorem tw_1271 : (Jvm.Cond.constantLong "LitmusTester$Machine" (136 : Nat) (3 : Int64)) ∈ tg_ := tk_5 (i := 180) (by decide +kernel) (by decide +kernel)
theorem tw_1272 : (Jvm.Cond.methodLink "LitmusTester$Machine" (130 : Nat) ({ cls := "LitmusTester$Machine", name := "forwarding", desc := "(JII)I" } : Jvm.MethodName)) ∈ tg_ := tk_5 (i := 181) (by decide +kernel) (by decide +kernel)
theorem tw_1273 : (Jvm.Cond.instanceMethod ({ cls := "LitmusTester$Machine", name := "forwarding", desc := "(JII)I" } : Jvm.MethodName)) ∈ tg_ := tk_5 (i := 182) (by decide +kernel) (by decide +kernel)
theorem tw_1274 : (Jvm.Cond.selects "LitmusTester$Machine" ({ cls := "LitmusTester$Machine", name := "forwarding", desc := "(JII)I" } : Jvm.MethodName) ({ cls := "LitmusTester$Machine", name := "forwarding", desc := "(JII)I" } : Jvm.MethodName)) ∈ tg_ := tk_5 (i := 183) (by decide +kernel) (by decide +kernel)
theorem tw_1275 : (Jvm.Cond.code ({ cls := "LitmusTester$Machine", name := "forwarding", desc := "(JII)I" } : Jvm.MethodName) prog_6_method_16_code (7 : Nat) (Option.some Jvm.ClassFile.FieldType.int)) ∈ tg_ := tk_5 (i := 184) (by decide +kernel) (by decide +kernel)
theorem tw_1276 : (Jvm.Cond.methodLink "LitmusTester$Machine" (133 : Nat) ({ cls := "LitmusTester$Machine", name := "withRead", desc := "(JII)J" } : Jvm.MethodName)) ∈ tg_ := tk_5 (i := 185) (by decide +kernel) (by decide +kernel)
theorem tw_1278 : (Jvm.Cond.instanceMethod ({ cls := "LitmusTester$Machine", name := "withRead", desc := "(JII)J" } : Jvm.MethodName)) ∈ tg_ := tk_5 (i := 187) (by decide +kernel) (by decide +kernel)
theorem tw_1279 : (Jvm.Cond.code ({ cls := "LitmusTester$Machine", name := "withRead", desc := "(JII)J" } : Jvm.MethodName) prog_6_method_21_code (6 : Nat) (Option.some Jvm.ClassFile.FieldType.long)) ∈ tg_ := tk_5 (i := 188) (by decide +kernel) (by decide +kernel)
theorem tw_1280 : (Jvm.Cond.constantLong "LitmusTester$Explorer" (73 : Nat) (-1 : Int64)) ∈ tg_ := tk_5 (i := 189) (by decide +kernel) (by decide +kernel)
theorem tw_1281 : (Jvm.Cond.methodLink "LitmusTester" (185 : Nat) ({ cls := "LitmusTester$Explorer", name := "report", desc := "(LLitmusTester$Findings;)V" } : Jvm.MethodName)) ∈ tg_ := tk_5 (i := 190) (by decide +kernel) (by decide +kernel)
theorem tw_1282 : (Jvm.Cond.instanceMethod ({ cls := "LitmusTester$Explorer", name := "report", desc := "(LLitmusTester$Findings;)V" } : Jvm.MethodName)) ∈ tg_ := tk_5 (i := 191) (by decide +kernel) (by decide +kernel)
theorem tw_1283 : (Jvm.Cond.selects "LitmusTester$Explorer" ({ cls := "LitmusTester$Explorer", name := "report", desc := "(LLitmusTester$Findings;)V" } : Jvm.MethodName) ({ cls := "LitmusTester$Explorer", name := "report", desc := "(LLitmusTester$Findings;)V" } : Jvm.MethodName)) ∈ tg_ := tk_5 (i := 192) (by decide +kernel) (by decide +kernel)
theorem tw_1284 : (Jvm.Cond.code ({ cls := "LitmusTester$Explorer", name := "report", desc := "(LLitmusTester$Findings;)V" } : Jvm.MethodName) prog_4_method_5_code (5 : Nat) (Option.none : Option Jvm.ClassFile.FieldType)) ∈ tg_ := tk_5 (i := 193) (by decide +kernel) (by decide +kernel)
theorem tw_1285 : (Jvm.Cond.methodLink "LitmusTester$Explorer" (89 : Nat) ({ cls := "LitmusTester$Explorer", name := "outcomes", desc := "()I" } : Jvm.MethodName)) ∈ tg_ := tk_5 (i := 194) (by decide +kernel) (by decide +kernel)
theorem tw_1286 : (Jvm.Cond.instanceMethod ({ cls := "LitmusTester$Explorer", name := "outcomes", desc := "()I" } : Jvm.MethodName)) ∈ tg_ := tk_5 (i := 195) (by decide +kernel) (by decide +kernel)
theorem tw_1287 : (Jvm.Cond.selects "LitmusTester$Explorer" ({ cls := "LitmusTester$Explorer", name := "outcomes", desc := "()I" } : Jvm.MethodName) ({ cls := "LitmusTester$Explorer", name := "outcomes", desc := "()I" } : Jvm.MethodName)) ∈ tg_ := tk_5 (i := 196) (by decide +kernel) (by decide +kernel)
theorem tw_1288 : (Jvm.Cond.code ({ cls := "LitmusTester$Explorer", name := "outcomes", desc := "()I" } : Jvm.MethodName) prog_4_method_3_code (3 : Nat) (Option.some Jvm.ClassFile.FieldType.int)) ∈ tg_ := tk_5 (i := 197) (by decide +kernel) (by decide +kernel)
theorem tw_1289 : (Jvm.Cond.methodLink "LitmusTester$Explorer" (75 : Nat) ({ cls := "LitmusTester$Machine", name := "isFinal", desc := "(J)Z" } : Jvm.MethodName)) ∈ tg_ := tk_5 (i := 198) (by decide +kernel) (by decide +kernel)
theorem tw_1290 : (Jvm.Cond.instanceMethod ({ cls := "LitmusTester$Machine", name := "isFinal", desc := "(J)Z" } : Jvm.MethodName)) ∈ tg_ := tk_5 (i := 199) (by decide +kernel) (by decide +kernel)
theorem tw_1291 : (Jvm.Cond.selects "LitmusTester$Machine" ({ cls := "LitmusTester$Machine", name := "isFinal", desc := "(J)Z" } : Jvm.MethodName) ({ cls := "LitmusTester$Machine", name := "isFinal", desc := "(J)Z" } : Jvm.MethodName)) ∈ tg_ := tk_5 (i := 200) (by decide +kernel) (by decide +kernel)
theorem tw_1292 : (Jvm.Cond.code ({ cls := "LitmusTester$Machine", name := "isFinal", desc := "(J)Z" } : Jvm.MethodName) prog_6_method_10_code (3 : Nat) (Option.some Jvm.ClassFile.FieldType.boolean)) ∈ tg_ := tk_5 (i := 201) (by decide +kernel) (by decide +kernel)
theorem tw_1293 : (Jvm.Cond.methodLink "LitmusTester$Explorer" (92 : Nat) ({ cls := "LitmusTester$Findings", name := "begin", desc := "(II)V" } : Jvm.MethodName)) ∈ tg_ := tk_5 (i := 202) (by decide +kernel) (by decide +kernel)
theorem tw_1294 : (Jvm.Cond.instanceMethod ({ cls := "LitmusTester$Findings", name := "begin", desc := "(II)V" } : Jvm.MethodName)) ∈ tg_ := tk_5 (i := 203) (by decide +kernel) (by decide +kernel)
theorem tw_1295 : (Jvm.Cond.selects "LitmusTester$Findings" ({ cls := "LitmusTester$Findings", name := "begin", desc := "(II)V" } : Jvm.MethodName) ({ cls := "LitmusTester$Findings", name := "begin", desc := "(II)V" } : Jvm.MethodName)) ∈ tg_ := tk_5 (i := 204) (by decide +kernel) (by decide +kernel)
theorem tw_1296 : (Jvm.Cond.code ({ cls := "LitmusTester$Findings", name := "begin", desc := "(II)V" } : Jvm.MethodName) prog_5_method_9_code (3 : Nat) (Option.none : Option Jvm.ClassFile.FieldType)) ∈ tg_ := tk_5 (i := 205) (by decide +kernel) (by decide +kernel)
theorem tw_1297 : (Jvm.Cond.methodLink "LitmusTester$Explorer" (79 : Nat) ({ cls := "LitmusTester$Machine", name := "codeOf", desc := "(J)I" } : Jvm.MethodName)) ∈ tg_ := tk_5 (i := 206) (by decide +kernel) (by decide +kernel)
theorem tw_1298 : (Jvm.Cond.static ({ cls := "LitmusTester$Machine", name := "codeOf", desc := "(J)I" } : Jvm.MethodName)) ∈ tg_ := tk_5 (i := 207) (by decide +kernel) (by decide +kernel)
theorem tw_1299 : (Jvm.Cond.code ({ cls := "LitmusTester$Machine", name := "codeOf", desc := "(J)I" } : Jvm.MethodName) prog_6_method_11_code (2 : Nat) (Option.some Jvm.ClassFile.FieldType.int)) ∈ tg_ := tk_5 (i := 208) (by decide +kernel) (by decide +kernel)
theorem tw_1300 : (Jvm.Cond.constant "LitmusTester$Machine" (101 : Nat) (4194303 : Int32)) ∈ tg_ := tk_5 (i := 209) (by decide +kernel) (by decide +kernel)
theorem tw_1301 : (Jvm.Cond.methodLink "LitmusTester$Explorer" (97 : Nat) ({ cls := "LitmusTester$Findings", name := "add", desc := "(IJ)V" } : Jvm.MethodName)) ∈ tg_ := tk_5 (i := 210) (by decide +kernel) (by decide +kernel)
theorem tw_1302 : (Jvm.Cond.instanceMethod ({ cls := "LitmusTester$Findings", name := "add", desc := "(IJ)V" } : Jvm.MethodName)) ∈ tg_ := tk_5 (i := 211) (by decide +kernel) (by decide +kernel)
theorem tw_1303 : (Jvm.Cond.selects "LitmusTester$Findings" ({ cls := "LitmusTester$Findings", name := "add", desc := "(IJ)V" } : Jvm.MethodName) ({ cls := "LitmusTester$Findings", name := "add", desc := "(IJ)V" } : Jvm.MethodName)) ∈ tg_ := tk_5 (i := 212) (by decide +kernel) (by decide +kernel)
theorem tw_1304 : (Jvm.Cond.code ({ cls := "LitmusTester$Findings", name := "add", desc := "(IJ)V" } : Jvm.MethodName) prog_5_method_10_code (4 : Nat) (Option.none : Option Jvm.ClassFile.FieldType)) ∈ tg_ := tk_5 (i := 213) (by decide +kernel) (by decide +kernel)
theorem tw_1305 : (Jvm.Cond.methodLink "LitmusTester$Explorer" (100 : Nat) ({ cls := "LitmusTester$Findings", name := "sort", desc := "()V" } : Jvm.MethodName)) ∈ tg_ := tk_5 (i := 214) (by decide +kernel) (by decide +kernel)
theorem tw_1306 : (Jvm.Cond.instanceMethod ({ cls := "LitmusTester$Findings", name := "sort", desc := "()V" } : Jvm.MethodName)) ∈ tg_ := tk_5 (i := 215) (by decide +kernel) (by decide +kernel)
theorem tw_1307 : (Jvm.Cond.selects "LitmusTester$Findings" ({ cls := "LitmusTester$Findings", name := "sort", desc := "()V" } : Jvm.MethodName) ({ cls := "LitmusTester$Findings", name := "sort", desc := "()V" } : Jvm.MethodName)) ∈ tg_ := tk_5 (i := 216) (by decide +kernel) (by decide +kernel)
theorem tw_1308 : (Jvm.Cond.code ({ cls := "LitmusTester$Findings", name := "sort", desc := "()V" } : Jvm.MethodName) prog_5_method_11_code (8 : Nat) (Option.none : Option Jvm.ClassFile.FieldType)) ∈ tg_ := tk_5 (i := 217) (by decide +kernel) (by decide +kernel)
theorem tw_1309 : (Jvm.Cond.methodLink "LitmusTester$Findings" (42 : Nat) ({ cls := "java/lang/Math", name := "min", desc := "(II)I" } : Jvm.MethodName)) ∈ tg_ := tk_5 (i := 218) (by decide +kernel) (by decide +kernel)
theorem tw_1310 : (Jvm.Cond.methodLink "LitmusTester" (195 : Nat) ({ cls := "LitmusTester$Findings", name := "size", desc := "()I" } : Jvm.MethodName)) ∈ tg_ := tk_5 (i := 219) (by decide +kernel) (by decide +kernel)
theorem tw_1311 : (Jvm.Cond.instanceMethod ({ cls := "LitmusTester$Findings", name := "size", desc := "()I" } : Jvm.MethodName)) ∈ tg_ := tk_5 (i := 220) (by decide +kernel) (by decide +kernel)
theorem tw_1312 : (Jvm.Cond.selects "LitmusTester$Findings" ({ cls := "LitmusTester$Findings", name := "size", desc := "()I" } : Jvm.MethodName) ({ cls := "LitmusTester$Findings", name := "size", desc := "()I" } : Jvm.MethodName)) ∈ tg_ := tk_5 (i := 221) (by decide +kernel) (by decide +kernel)
theorem tw_1313 : (Jvm.Cond.code ({ cls := "LitmusTester$Findings", name := "size", desc := "()I" } : Jvm.MethodName) prog_5_method_7_code (1 : Nat) (Option.some Jvm.ClassFile.FieldType.int)) ∈ tg_ := tk_5 (i := 222) (by decide +kernel) (by decide +kernel)
theorem tw_1317 : (Jvm.Cond.methodLink "LitmusTesterLaw" (26 : Nat) ({ cls := "LitmusTester", name := "outcome", desc := "(II)I" } : Jvm.MethodName)) ∈ tg_ := tk_5 (i := 226) (by decide +kernel) (by decide +kernel)
theorem tw_1318 : (Jvm.Cond.instanceMethod ({ cls := "LitmusTester", name := "outcome", desc := "(II)I" } : Jvm.MethodName)) ∈ tg_ := tk_5 (i := 227) (by decide +kernel) (by decide +kernel)
theorem tw_1319 : (Jvm.Cond.selects "LitmusTester" ({ cls := "LitmusTester", name := "outcome", desc := "(II)I" } : Jvm.MethodName) ({ cls := "LitmusTester", name := "outcome", desc := "(II)I" } : Jvm.MethodName)) ∈ tg_ := tk_5 (i := 228) (by decide +kernel) (by decide +kernel)
theorem tw_1320 : (Jvm.Cond.code ({ cls := "LitmusTester", name := "outcome", desc := "(II)I" } : Jvm.MethodName) prog_1_method_20_code (3 : Nat) (Option.some Jvm.ClassFile.FieldType.int)) ∈ tg_ := tk_5 (i := 229) (by decide +kernel) (by decide +kernel)
theorem tw_1321 : (Jvm.Cond.methodLink "LitmusTester" (196 : Nat) ({ cls := "LitmusTester$Findings", name := "codeAt", desc := "(I)I" } : Jvm.MethodName)) ∈ tg_ := tk_5 (i := 230) (by decide +kernel) (by decide +kernel)
theorem tw_1322 : (Jvm.Cond.instanceMethod ({ cls := "LitmusTester$Findings", name := "codeAt", desc := "(I)I" } : Jvm.MethodName)) ∈ tg_ := tk_5 (i := 231) (by decide +kernel) (by decide +kernel)
theorem tw_1323 : (Jvm.Cond.selects "LitmusTester$Findings" ({ cls := "LitmusTester$Findings", name := "codeAt", desc := "(I)I" } : Jvm.MethodName) ({ cls := "LitmusTester$Findings", name := "codeAt", desc := "(I)I" } : Jvm.MethodName)) ∈ tg_ := tk_5 (i := 232) (by decide +kernel) (by decide +kernel)
theorem tw_1324 : (Jvm.Cond.code ({ cls := "LitmusTester$Findings", name := "codeAt", desc := "(I)I" } : Jvm.MethodName) prog_5_method_12_code (2 : Nat) (Option.some Jvm.ClassFile.FieldType.int)) ∈ tg_ := tk_5 (i := 233) (by decide +kernel) (by decide +kernel)
theorem tw_1328 : (Jvm.Cond.methodLink "LitmusTesterLaw" (29 : Nat) ({ cls := "LitmusTester", name := "hasOutcome", desc := "(II)Z" } : Jvm.MethodName)) ∈ tg_ := tk_5 (i := 237) (by decide +kernel) (by decide +kernel)
theorem tw_1329 : (Jvm.Cond.instanceMethod ({ cls := "LitmusTester", name := "hasOutcome", desc := "(II)Z" } : Jvm.MethodName)) ∈ tg_ := tk_5 (i := 238) (by decide +kernel) (by decide +kernel)
theorem tw_1330 : (Jvm.Cond.selects "LitmusTester" ({ cls := "LitmusTester", name := "hasOutcome", desc := "(II)Z" } : Jvm.MethodName) ({ cls := "LitmusTester", name := "hasOutcome", desc := "(II)Z" } : Jvm.MethodName)) ∈ tg_ := tk_5 (i := 239) (by decide +kernel) (by decide +kernel)
theorem tw_1331 : (Jvm.Cond.code ({ cls := "LitmusTester", name := "hasOutcome", desc := "(II)Z" } : Jvm.MethodName) prog_1_method_21_code (3 : Nat) (Option.some Jvm.ClassFile.FieldType.boolean)) ∈ tg_ := tk_6 (i := 0) (by decide +kernel) (by decide +kernel)
theorem tw_1332 : (Jvm.Cond.methodLink "LitmusTester" (199 : Nat) ({ cls := "LitmusTester$Findings", name := "placeOf", desc := "(I)I" } : Jvm.MethodName)) ∈ tg_ := tk_6 (i := 1) (by decide +kernel) (by decide +kernel)
theorem tw_1333 : (Jvm.Cond.instanceMethod ({ cls := "LitmusTester$Findings", name := "placeOf", desc := "(I)I" } : Jvm.MethodName)) ∈ tg_ := tk_6 (i := 2) (by decide +kernel) (by decide +kernel)
theorem tw_1334 : (Jvm.Cond.selects "LitmusTester$Findings" ({ cls := "LitmusTester$Findings", name := "placeOf", desc := "(I)I" } : Jvm.MethodName) ({ cls := "LitmusTester$Findings", name := "placeOf", desc := "(I)I" } : Jvm.MethodName)) ∈ tg_ := tk_6 (i := 3) (by decide +kernel) (by decide +kernel)
theorem tw_1335 : (Jvm.Cond.code ({ cls := "LitmusTester$Findings", name := "placeOf", desc := "(I)I" } : Jvm.MethodName) prog_5_method_14_code (6 : Nat) (Option.some Jvm.ClassFile.FieldType.int)) ∈ tg_ := tk_6 (i := 4) (by decide +kernel) (by decide +kernel)
theorem tw_1336 : (Jvm.Cond.methodLink "LitmusTester$Findings" (48 : Nat) ({ cls := "LitmusTester$Findings", name := "codeAt", desc := "(I)I" } : Jvm.MethodName)) ∈ tg_ := tk_6 (i := 5) (by decide +kernel) (by decide +kernel)
theorem tw_1340 : (Jvm.Cond.methodLink "LitmusTesterLaw" (33 : Nat) ({ cls := "LitmusTester", name := "extraOutcomes", desc := "(II)I" } : Jvm.MethodName)) ∈ tg_ := tk_6 (i := 9) (by decide +kernel) (by decide +kernel)
theorem tw_1341 : (Jvm.Cond.instanceMethod ({ cls := "LitmusTester", name := "extraOutcomes", desc := "(II)I" } : Jvm.MethodName)) ∈ tg_ := tk_6 (i := 10) (by decide +kernel) (by decide +kernel)
theorem tw_1342 : (Jvm.Cond.selects "LitmusTester" ({ cls := "LitmusTester", name := "extraOutcomes", desc := "(II)I" } : Jvm.MethodName) ({ cls := "LitmusTester", name := "extraOutcomes", desc := "(II)I" } : Jvm.MethodName)) ∈ tg_ := tk_6 (i := 11) (by decide +kernel) (by decide +kernel)
theorem tw_1343 : (Jvm.Cond.code ({ cls := "LitmusTester", name := "extraOutcomes", desc := "(II)I" } : Jvm.MethodName) prog_1_method_22_code (7 : Nat) (Option.some Jvm.ClassFile.FieldType.int)) ∈ tg_ := tk_6 (i := 12) (by decide +kernel) (by decide +kernel)
theorem tw_1347 : (Jvm.Cond.methodLink "LitmusTesterLaw" (36 : Nat) ({ cls := "LitmusTester", name := "matchCount", desc := "(I)I" } : Jvm.MethodName)) ∈ tg_ := tk_6 (i := 16) (by decide +kernel) (by decide +kernel)
theorem tw_1348 : (Jvm.Cond.instanceMethod ({ cls := "LitmusTester", name := "matchCount", desc := "(I)I" } : Jvm.MethodName)) ∈ tg_ := tk_6 (i := 17) (by decide +kernel) (by decide +kernel)
theorem tw_1349 : (Jvm.Cond.selects "LitmusTester" ({ cls := "LitmusTester", name := "matchCount", desc := "(I)I" } : Jvm.MethodName) ({ cls := "LitmusTester", name := "matchCount", desc := "(I)I" } : Jvm.MethodName)) ∈ tg_ := tk_6 (i := 18) (by decide +kernel) (by decide +kernel)
theorem tw_1350 : (Jvm.Cond.code ({ cls := "LitmusTester", name := "matchCount", desc := "(I)I" } : Jvm.MethodName) prog_1_method_24_code (5 : Nat) (Option.some Jvm.ClassFile.FieldType.int)) ∈ tg_ := tk_6 (i := 19) (by decide +kernel) (by decide +kernel)
theorem tw_1354 : (Jvm.Cond.methodLink "LitmusTesterLaw" (39 : Nat) ({ cls := "LitmusTester", name := "firstMatch", desc := "(I)I" } : Jvm.MethodName)) ∈ tg_ := tk_6 (i := 23) (by decide +kernel) (by decide +kernel)
theorem tw_1355 : (Jvm.Cond.instanceMethod ({ cls := "LitmusTester", name := "firstMatch", desc := "(I)I" } : Jvm.MethodName)) ∈ tg_ := tk_6 (i := 24) (by decide +kernel) (by decide +kernel)
theorem tw_1356 : (Jvm.Cond.selects "LitmusTester" ({ cls := "LitmusTester", name := "firstMatch", desc := "(I)I" } : Jvm.MethodName) ({ cls := "LitmusTester", name := "firstMatch", desc := "(I)I" } : Jvm.MethodName)) ∈ tg_ := tk_6 (i := 25) (by decide +kernel) (by decide +kernel)
theorem tw_1357 : (Jvm.Cond.code ({ cls := "LitmusTester", name := "firstMatch", desc := "(I)I" } : Jvm.MethodName) prog_1_method_25_code (4 : Nat) (Option.some Jvm.ClassFile.FieldType.int)) ∈ tg_ := tk_6 (i := 26) (by decide +kernel) (by decide +kernel)
theorem tw_1361 : (Jvm.Cond.methodLink "LitmusTesterLaw" (42 : Nat) ({ cls := "LitmusTester", name := "stateCount", desc := "(I)I" } : Jvm.MethodName)) ∈ tg_ := tk_6 (i := 30) (by decide +kernel) (by decide +kernel)
theorem tw_1362 : (Jvm.Cond.instanceMethod ({ cls := "LitmusTester", name := "stateCount", desc := "(I)I" } : Jvm.MethodName)) ∈ tg_ := tk_6 (i := 31) (by decide +kernel) (by decide +kernel)
theorem tw_1363 : (Jvm.Cond.selects "LitmusTester" ({ cls := "LitmusTester", name := "stateCount", desc := "(I)I" } : Jvm.MethodName) ({ cls := "LitmusTester", name := "stateCount", desc := "(I)I" } : Jvm.MethodName)) ∈ tg_ := tk_6 (i := 32) (by decide +kernel) (by decide +kernel)
theorem tw_1364 : (Jvm.Cond.code ({ cls := "LitmusTester", name := "stateCount", desc := "(I)I" } : Jvm.MethodName) prog_1_method_26_code (2 : Nat) (Option.some Jvm.ClassFile.FieldType.int)) ∈ tg_ := tk_6 (i := 33) (by decide +kernel) (by decide +kernel)
theorem tw_1365 : (Jvm.Cond.methodLink "LitmusTester" (208 : Nat) ({ cls := "LitmusTester$Findings", name := "states", desc := "()I" } : Jvm.MethodName)) ∈ tg_ := tk_6 (i := 34) (by decide +kernel) (by decide +kernel)
theorem tw_1366 : (Jvm.Cond.instanceMethod ({ cls := "LitmusTester$Findings", name := "states", desc := "()I" } : Jvm.MethodName)) ∈ tg_ := tk_6 (i := 35) (by decide +kernel) (by decide +kernel)
theorem tw_1367 : (Jvm.Cond.selects "LitmusTester$Findings" ({ cls := "LitmusTester$Findings", name := "states", desc := "()I" } : Jvm.MethodName) ({ cls := "LitmusTester$Findings", name := "states", desc := "()I" } : Jvm.MethodName)) ∈ tg_ := tk_6 (i := 36) (by decide +kernel) (by decide +kernel)
theorem tw_1368 : (Jvm.Cond.code ({ cls := "LitmusTester$Findings", name := "states", desc := "()I" } : Jvm.MethodName) prog_5_method_8_code (1 : Nat) (Option.some Jvm.ClassFile.FieldType.int)) ∈ tg_ := tk_6 (i := 37) (by decide +kernel) (by decide +kernel)
theorem tw_1372 : (Jvm.Cond.methodLink "LitmusTesterLaw" (45 : Nat) ({ cls := "LitmusTester", name := "executionCount", desc := "(I)J" } : Jvm.MethodName)) ∈ tg_ := tk_6 (i := 41) (by decide +kernel) (by decide +kernel)
theorem tw_1373 : (Jvm.Cond.instanceMethod ({ cls := "LitmusTester", name := "executionCount", desc := "(I)J" } : Jvm.MethodName)) ∈ tg_ := tk_6 (i := 42) (by decide +kernel) (by decide +kernel)
theorem tw_1374 : (Jvm.Cond.selects "LitmusTester" ({ cls := "LitmusTester", name := "executionCount", desc := "(I)J" } : Jvm.MethodName) ({ cls := "LitmusTester", name := "executionCount", desc := "(I)J" } : Jvm.MethodName)) ∈ tg_ := tk_6 (i := 43) (by decide +kernel) (by decide +kernel)
theorem tw_1375 : (Jvm.Cond.code ({ cls := "LitmusTester", name := "executionCount", desc := "(I)J" } : Jvm.MethodName) prog_1_method_27_code (6 : Nat) (Option.some Jvm.ClassFile.FieldType.long)) ∈ tg_ := tk_6 (i := 44) (by decide +kernel) (by decide +kernel)
theorem tw_1376 : (Jvm.Cond.methodLink "LitmusTester" (211 : Nat) ({ cls := "LitmusTester$Findings", name := "executionsAt", desc := "(I)J" } : Jvm.MethodName)) ∈ tg_ := tk_6 (i := 45) (by decide +kernel) (by decide +kernel)
theorem tw_1377 : (Jvm.Cond.instanceMethod ({ cls := "LitmusTester$Findings", name := "executionsAt", desc := "(I)J" } : Jvm.MethodName)) ∈ tg_ := tk_6 (i := 46) (by decide +kernel) (by decide +kernel)
theorem tw_1378 : (Jvm.Cond.selects "LitmusTester$Findings" ({ cls := "LitmusTester$Findings", name := "executionsAt", desc := "(I)J" } : Jvm.MethodName) ({ cls := "LitmusTester$Findings", name := "executionsAt", desc := "(I)J" } : Jvm.MethodName)) ∈ tg_ := tk_6 (i := 47) (by decide +kernel) (by decide +kernel)
theorem tw_1379 : (Jvm.Cond.code ({ cls := "LitmusTester$Findings", name := "executionsAt", desc := "(I)J" } : Jvm.MethodName) prog_5_method_13_code (2 : Nat) (Option.some Jvm.ClassFile.FieldType.long)) ∈ tg_ := tk_6 (i := 48) (by decide +kernel) (by decide +kernel)
theorem tw_1383 : (Jvm.Cond.methodLink "LitmusTesterLaw" (49 : Nat) ({ cls := "LitmusTester", name := "executionsWith", desc := "(II)J" } : Jvm.MethodName)) ∈ tg_ := tk_6 (i := 52) (by decide +kernel) (by decide +kernel)
theorem tw_1384 : (Jvm.Cond.instanceMethod ({ cls := "LitmusTester", name := "executionsWith", desc := "(II)J" } : Jvm.MethodName)) ∈ tg_ := tk_6 (i := 53) (by decide +kernel) (by decide +kernel)
theorem tw_1385 : (Jvm.Cond.selects "LitmusTester" ({ cls := "LitmusTester", name := "executionsWith", desc := "(II)J" } : Jvm.MethodName) ({ cls := "LitmusTester", name := "executionsWith", desc := "(II)J" } : Jvm.MethodName)) ∈ tg_ := tk_6 (i := 54) (by decide +kernel) (by decide +kernel)
theorem tw_1386 : (Jvm.Cond.code ({ cls := "LitmusTester", name := "executionsWith", desc := "(II)J" } : Jvm.MethodName) prog_1_method_28_code (4 : Nat) (Option.some Jvm.ClassFile.FieldType.long)) ∈ tg_ := tk_6 (i := 55) (by decide +kernel) (by decide +kernel)
theorem tw_1390 : (Jvm.Cond.methodLink "LitmusTesterLaw" (53 : Nat) ({ cls := "LitmusTester", name := "readValues", desc := "(II)I" } : Jvm.MethodName)) ∈ tg_ := tk_6 (i := 59) (by decide +kernel) (by decide +kernel)
theorem tw_1391 : (Jvm.Cond.instanceMethod ({ cls := "LitmusTester", name := "readValues", desc := "(II)I" } : Jvm.MethodName)) ∈ tg_ := tk_6 (i := 60) (by decide +kernel) (by decide +kernel)
theorem tw_1392 : (Jvm.Cond.selects "LitmusTester" ({ cls := "LitmusTester", name := "readValues", desc := "(II)I" } : Jvm.MethodName) ({ cls := "LitmusTester", name := "readValues", desc := "(II)I" } : Jvm.MethodName)) ∈ tg_ := tk_6 (i := 61) (by decide +kernel) (by decide +kernel)
theorem tw_1393 : (Jvm.Cond.code ({ cls := "LitmusTester", name := "readValues", desc := "(II)I" } : Jvm.MethodName) prog_1_method_29_code (4 : Nat) (Option.some Jvm.ClassFile.FieldType.int)) ∈ tg_ := tk_6 (i := 62) (by decide +kernel) (by decide +kernel)
theorem tw_1395 : (Jvm.Cond.methodLink "LitmusTester" (217 : Nat) ({ cls := "LitmusTester$Program", name := "registerShift", desc := "(II)I" } : Jvm.MethodName)) ∈ tg_ := tk_6 (i := 64) (by decide +kernel) (by decide +kernel)
theorem tw_1396 : (Jvm.Cond.methodLink "LitmusTester" (220 : Nat) ({ cls := "LitmusTester$Findings", name := "valuesAt", desc := "(I)I" } : Jvm.MethodName)) ∈ tg_ := tk_6 (i := 65) (by decide +kernel) (by decide +kernel)
theorem tw_1397 : (Jvm.Cond.instanceMethod ({ cls := "LitmusTester$Findings", name := "valuesAt", desc := "(I)I" } : Jvm.MethodName)) ∈ tg_ := tk_6 (i := 66) (by decide +kernel) (by decide +kernel)
theorem tw_1398 : (Jvm.Cond.selects "LitmusTester$Findings" ({ cls := "LitmusTester$Findings", name := "valuesAt", desc := "(I)I" } : Jvm.MethodName) ({ cls := "LitmusTester$Findings", name := "valuesAt", desc := "(I)I" } : Jvm.MethodName)) ∈ tg_ := tk_6 (i := 67) (by decide +kernel) (by decide +kernel)
theorem tw_1399 : (Jvm.Cond.code ({ cls := "LitmusTester$Findings", name := "valuesAt", desc := "(I)I" } : Jvm.MethodName) prog_5_method_15_code (4 : Nat) (Option.some Jvm.ClassFile.FieldType.int)) ∈ tg_ := tk_6 (i := 68) (by decide +kernel) (by decide +kernel)
theorem tw_1403 : (Jvm.Cond.methodLink "LitmusTesterLaw" (56 : Nat) ({ cls := "LitmusTester", name := "finalValues", desc := "(II)I" } : Jvm.MethodName)) ∈ tg_ := tk_6 (i := 72) (by decide +kernel) (by decide +kernel)
theorem tw_1404 : (Jvm.Cond.instanceMethod ({ cls := "LitmusTester", name := "finalValues", desc := "(II)I" } : Jvm.MethodName)) ∈ tg_ := tk_6 (i := 73) (by decide +kernel) (by decide +kernel)
theorem tw_1405 : (Jvm.Cond.selects "LitmusTester" ({ cls := "LitmusTester", name := "finalValues", desc := "(II)I" } : Jvm.MethodName) ({ cls := "LitmusTester", name := "finalValues", desc := "(II)I" } : Jvm.MethodName)) ∈ tg_ := tk_6 (i := 74) (by decide +kernel) (by decide +kernel)
theorem tw_1406 : (Jvm.Cond.code ({ cls := "LitmusTester", name := "finalValues", desc := "(II)I" } : Jvm.MethodName) prog_1_method_30_code (3 : Nat) (Option.some Jvm.ClassFile.FieldType.int)) ∈ tg_ := tk_6 (i := 75) (by decide +kernel) (by decide +kernel)
theorem tw_1407 : (Jvm.Cond.methodLink "LitmusTester" (223 : Nat) ({ cls := "LitmusTester", name := "requireLocation", desc := "(I)V" } : Jvm.MethodName)) ∈ tg_ := tk_6 (i := 76) (by decide +kernel) (by decide +kernel)
theorem tw_1409 : (Jvm.Cond.instanceMethod ({ cls := "LitmusTester", name := "requireLocation", desc := "(I)V" } : Jvm.MethodName)) ∈ tg_ := tk_6 (i := 78) (by decide +kernel) (by decide +kernel)
theorem tw_1410 : (Jvm.Cond.code ({ cls := "LitmusTester", name := "requireLocation", desc := "(I)V" } : Jvm.MethodName) prog_1_method_31_code (2 : Nat) (Option.none : Option Jvm.ClassFile.FieldType)) ∈ tg_ := tk_6 (i := 79) (by decide +kernel) (by decide +kernel)
theorem tw_1412 : (Jvm.Cond.methodLink "LitmusTester" (226 : Nat) ({ cls := "LitmusTester$Program", name := "locationShift", desc := "(I)I" } : Jvm.MethodName)) ∈ tg_ := tk_6 (i := 81) (by decide +kernel) (by decide +kernel)
theorem tw_1416 : (Jvm.Cond.methodLink "LitmusTesterLaw" (59 : Nat) ({ cls := "LitmusTester", name := "greatestBuffer", desc := "(II)I" } : Jvm.MethodName)) ∈ tg_ := tk_6 (i := 85) (by decide +kernel) (by decide +kernel)
theorem tw_1417 : (Jvm.Cond.instanceMethod ({ cls := "LitmusTester", name := "greatestBuffer", desc := "(II)I" } : Jvm.MethodName)) ∈ tg_ := tk_6 (i := 86) (by decide +kernel) (by decide +kernel)
theorem tw_1418 : (Jvm.Cond.selects "LitmusTester" ({ cls := "LitmusTester", name := "greatestBuffer", desc := "(II)I" } : Jvm.MethodName) ({ cls := "LitmusTester", name := "greatestBuffer", desc := "(II)I" } : Jvm.MethodName)) ∈ tg_ := tk_6 (i := 87) (by decide +kernel) (by decide +kernel)
theorem tw_1419 : (Jvm.Cond.code ({ cls := "LitmusTester", name := "greatestBuffer", desc := "(II)I" } : Jvm.MethodName) prog_1_method_32_code (3 : Nat) (Option.some Jvm.ClassFile.FieldType.int)) ∈ tg_ := tk_6 (i := 88) (by decide +kernel) (by decide +kernel)
theorem tw_1421 : (Jvm.Cond.methodLink "LitmusTester" (233 : Nat) ({ cls := "LitmusTester$Program", name := "mostStoresBuffered", desc := "(I)I" } : Jvm.MethodName)) ∈ tg_ := tk_6 (i := 90) (by decide +kernel) (by decide +kernel)
theorem tw_1422 : (Jvm.Cond.instanceMethod ({ cls := "LitmusTester$Program", name := "mostStoresBuffered", desc := "(I)I" } : Jvm.MethodName)) ∈ tg_ := tk_6 (i := 91) (by decide +kernel) (by decide +kernel)
theorem tw_1423 : (Jvm.Cond.selects "LitmusTester$Program" ({ cls := "LitmusTester$Program", name := "mostStoresBuffered", desc := "(I)I" } : Jvm.MethodName) ({ cls := "LitmusTester$Program", name := "mostStoresBuffered", desc := "(I)I" } : Jvm.MethodName)) ∈ tg_ := tk_6 (i := 92) (by decide +kernel) (by decide +kernel)
theorem tw_1424 : (Jvm.Cond.code ({ cls := "LitmusTester$Program", name := "mostStoresBuffered", desc := "(I)I" } : Jvm.MethodName) prog_9_method_32_code (6 : Nat) (Option.some Jvm.ClassFile.FieldType.int)) ∈ tg_ := tk_6 (i := 93) (by decide +kernel) (by decide +kernel)
theorem tw_1425 : (Jvm.Cond.methodLink "LitmusTester$Program" (70 : Nat) ({ cls := "java/lang/Math", name := "max", desc := "(II)I" } : Jvm.MethodName)) ∈ tg_ := tk_6 (i := 94) (by decide +kernel) (by decide +kernel)
theorem tw_1426 : (Jvm.Cond.static ({ cls := "java/lang/Math", name := "max", desc := "(II)I" } : Jvm.MethodName)) ∈ tg_ := tk_6 (i := 95) (by decide +kernel) (by decide +kernel)
theorem tw_1427 : (Jvm.Cond.code ({ cls := "java/lang/Math", name := "max", desc := "(II)I" } : Jvm.MethodName) prog_25_method_65_code (2 : Nat) (Option.some Jvm.ClassFile.FieldType.int)) ∈ tg_ := tk_6 (i := 96) (by decide +kernel) (by decide +kernel)
theorem tw_1431 : (Jvm.Cond.methodLink "LitmusTesterLaw" (62 : Nat) ({ cls := "LitmusTester", name := "isRace", desc := "(II)Z" } : Jvm.MethodName)) ∈ tg_ := tk_6 (i := 100) (by decide +kernel) (by decide +kernel)
theorem tw_1432 : (Jvm.Cond.instanceMethod ({ cls := "LitmusTester", name := "isRace", desc := "(II)Z" } : Jvm.MethodName)) ∈ tg_ := tk_6 (i := 101) (by decide +kernel) (by decide +kernel)
theorem tw_1433 : (Jvm.Cond.selects "LitmusTester" ({ cls := "LitmusTester", name := "isRace", desc := "(II)Z" } : Jvm.MethodName) ({ cls := "LitmusTester", name := "isRace", desc := "(II)Z" } : Jvm.MethodName)) ∈ tg_ := tk_6 (i := 102) (by decide +kernel) (by decide +kernel)
theorem tw_1434 : (Jvm.Cond.code ({ cls := "LitmusTester", name := "isRace", desc := "(II)Z" } : Jvm.MethodName) prog_1_method_33_code (3 : Nat) (Option.some Jvm.ClassFile.FieldType.boolean)) ∈ tg_ := tk_6 (i := 103) (by decide +kernel) (by decide +kernel)
theorem tw_1438 : (Jvm.Cond.methodLink "LitmusTesterLaw" (65 : Nat) ({ cls := "LitmusTester", name := "matchesWith", desc := "(II)I" } : Jvm.MethodName)) ∈ tg_ := tk_6 (i := 107) (by decide +kernel) (by decide +kernel)
theorem tw_1439 : (Jvm.Cond.instanceMethod ({ cls := "LitmusTester", name := "matchesWith", desc := "(II)I" } : Jvm.MethodName)) ∈ tg_ := tk_6 (i := 108) (by decide +kernel) (by decide +kernel)
theorem tw_1440 : (Jvm.Cond.selects "LitmusTester" ({ cls := "LitmusTester", name := "matchesWith", desc := "(II)I" } : Jvm.MethodName) ({ cls := "LitmusTester", name := "matchesWith", desc := "(II)I" } : Jvm.MethodName)) ∈ tg_ := tk_6 (i := 109) (by decide +kernel) (by decide +kernel)
theorem tw_1441 : (Jvm.Cond.code ({ cls := "LitmusTester", name := "matchesWith", desc := "(II)I" } : Jvm.MethodName) prog_1_method_37_code (3 : Nat) (Option.some Jvm.ClassFile.FieldType.int)) ∈ tg_ := tk_6 (i := 110) (by decide +kernel) (by decide +kernel)
theorem tw_1443 : (Jvm.Cond.methodLink "LitmusTester" (248 : Nat) ({ cls := "LitmusTester", name := "tryFences", desc := "(II)V" } : Jvm.MethodName)) ∈ tg_ := tk_6 (i := 112) (by decide +kernel) (by decide +kernel)
theorem tw_1445 : (Jvm.Cond.instanceMethod ({ cls := "LitmusTester", name := "tryFences", desc := "(II)V" } : Jvm.MethodName)) ∈ tg_ := tk_6 (i := 114) (by decide +kernel) (by decide +kernel)
theorem tw_1446 : (Jvm.Cond.code ({ cls := "LitmusTester", name := "tryFences", desc := "(II)V" } : Jvm.MethodName) prog_1_method_38_code (4 : Nat) (Option.none : Option Jvm.ClassFile.FieldType)) ∈ tg_ := tk_6 (i := 115) (by decide +kernel) (by decide +kernel)
theorem tw_1447 : (Jvm.Cond.methodLink "LitmusTester" (254 : Nat) ({ cls := "LitmusTester$Findings", name := "fencedOutcomes", desc := "(I)I" } : Jvm.MethodName)) ∈ tg_ := tk_6 (i := 116) (by decide +kernel) (by decide +kernel)
theorem tw_1448 : (Jvm.Cond.instanceMethod ({ cls := "LitmusTester$Findings", name := "fencedOutcomes", desc := "(I)I" } : Jvm.MethodName)) ∈ tg_ := tk_6 (i := 117) (by decide +kernel) (by decide +kernel)
theorem tw_1449 : (Jvm.Cond.selects "LitmusTester$Findings" ({ cls := "LitmusTester$Findings", name := "fencedOutcomes", desc := "(I)I" } : Jvm.MethodName) ({ cls := "LitmusTester$Findings", name := "fencedOutcomes", desc := "(I)I" } : Jvm.MethodName)) ∈ tg_ := tk_6 (i := 118) (by decide +kernel) (by decide +kernel)
theorem tw_1450 : (Jvm.Cond.code ({ cls := "LitmusTester$Findings", name := "fencedOutcomes", desc := "(I)I" } : Jvm.MethodName) prog_5_method_5_code (2 : Nat) (Option.some Jvm.ClassFile.FieldType.int)) ∈ tg_ := tk_6 (i := 119) (by decide +kernel) (by decide +kernel)
theorem tw_1451 : (Jvm.Cond.methodLink "LitmusTester" (257 : Nat) ({ cls := "LitmusTester$Program", name := "waitsWith", desc := "(I)I" } : Jvm.MethodName)) ∈ tg_ := tk_6 (i := 120) (by decide +kernel) (by decide +kernel)
theorem tw_1452 : (Jvm.Cond.instanceMethod ({ cls := "LitmusTester$Program", name := "waitsWith", desc := "(I)I" } : Jvm.MethodName)) ∈ tg_ := tk_6 (i := 121) (by decide +kernel) (by decide +kernel)
theorem tw_1453 : (Jvm.Cond.selects "LitmusTester$Program" ({ cls := "LitmusTester$Program", name := "waitsWith", desc := "(I)I" } : Jvm.MethodName) ({ cls := "LitmusTester$Program", name := "waitsWith", desc := "(I)I" } : Jvm.MethodName)) ∈ tg_ := tk_6 (i := 122) (by decide +kernel) (by decide +kernel)
theorem tw_1454 : (Jvm.Cond.code ({ cls := "LitmusTester$Program", name := "waitsWith", desc := "(I)I" } : Jvm.MethodName) prog_9_method_28_code (5 : Nat) (Option.some Jvm.ClassFile.FieldType.int)) ∈ tg_ := tk_6 (i := 123) (by decide +kernel) (by decide +kernel)
theorem tw_1455 : (Jvm.Cond.methodLink "LitmusTester$Program" (60 : Nat) ({ cls := "LitmusTester$Program", name := "waits", desc := "()I" } : Jvm.MethodName)) ∈ tg_ := tk_6 (i := 124) (by decide +kernel) (by decide +kernel)
theorem tw_1456 : (Jvm.Cond.methodLink "LitmusTester$Program" (63 : Nat) ({ cls := "LitmusTester$Program", name := "placeOfGap", desc := "(I)I" } : Jvm.MethodName)) ∈ tg_ := tk_6 (i := 125) (by decide +kernel) (by decide +kernel)
theorem tw_1457 : (Jvm.Cond.methodLink "LitmusTester" (260 : Nat) ({ cls := "LitmusTester$Explorer", name := "outcomes", desc := "()I" } : Jvm.MethodName)) ∈ tg_ := tk_6 (i := 126) (by decide +kernel) (by decide +kernel)
theorem tw_1458 : (Jvm.Cond.methodLink "LitmusTester" (263 : Nat) ({ cls := "LitmusTester$Explorer", name := "matches", desc := "()I" } : Jvm.MethodName)) ∈ tg_ := tk_6 (i := 127) (by decide +kernel) (by decide +kernel)
theorem tw_1459 : (Jvm.Cond.instanceMethod ({ cls := "LitmusTester$Explorer", name := "matches", desc := "()I" } : Jvm.MethodName)) ∈ tg_ := tk_6 (i := 128) (by decide +kernel) (by decide +kernel)
theorem tw_1460 : (Jvm.Cond.selects "LitmusTester$Explorer" ({ cls := "LitmusTester$Explorer", name := "matches", desc := "()I" } : Jvm.MethodName) ({ cls := "LitmusTester$Explorer", name := "matches", desc := "()I" } : Jvm.MethodName)) ∈ tg_ := tk_6 (i := 129) (by decide +kernel) (by decide +kernel)
theorem tw_1461 : (Jvm.Cond.code ({ cls := "LitmusTester$Explorer", name := "matches", desc := "()I" } : Jvm.MethodName) prog_4_method_4_code (5 : Nat) (Option.some Jvm.ClassFile.FieldType.int)) ∈ tg_ := tk_6 (i := 130) (by decide +kernel) (by decide +kernel)
theorem tw_1462 : (Jvm.Cond.methodLink "LitmusTester$Explorer" (83 : Nat) ({ cls := "LitmusTester$Program", name := "isFulfilledBy", desc := "(I)Z" } : Jvm.MethodName)) ∈ tg_ := tk_6 (i := 131) (by decide +kernel) (by decide +kernel)
theorem tw_1463 : (Jvm.Cond.methodLink "LitmusTester" (266 : Nat) ({ cls := "LitmusTester$Findings", name := "keepFenced", desc := "(III)V" } : Jvm.MethodName)) ∈ tg_ := tk_6 (i := 132) (by decide +kernel) (by decide +kernel)
theorem tw_1464 : (Jvm.Cond.instanceMethod ({ cls := "LitmusTester$Findings", name := "keepFenced", desc := "(III)V" } : Jvm.MethodName)) ∈ tg_ := tk_6 (i := 133) (by decide +kernel) (by decide +kernel)
theorem tw_1465 : (Jvm.Cond.selects "LitmusTester$Findings" ({ cls := "LitmusTester$Findings", name := "keepFenced", desc := "(III)V" } : Jvm.MethodName) ({ cls := "LitmusTester$Findings", name := "keepFenced", desc := "(III)V" } : Jvm.MethodName)) ∈ tg_ := tk_6 (i := 134) (by decide +kernel) (by decide +kernel)
theorem tw_1466 : (Jvm.Cond.code ({ cls := "LitmusTester$Findings", name := "keepFenced", desc := "(III)V" } : Jvm.MethodName) prog_5_method_4_code (4 : Nat) (Option.none : Option Jvm.ClassFile.FieldType)) ∈ tg_ := tk_6 (i := 135) (by decide +kernel) (by decide +kernel)
theorem tw_1467 : (Jvm.Cond.methodLink "LitmusTester" (251 : Nat) ({ cls := "LitmusTester$Findings", name := "fencedMatches", desc := "(I)I" } : Jvm.MethodName)) ∈ tg_ := tk_6 (i := 136) (by decide +kernel) (by decide +kernel)
theorem tw_1468 : (Jvm.Cond.instanceMethod ({ cls := "LitmusTester$Findings", name := "fencedMatches", desc := "(I)I" } : Jvm.MethodName)) ∈ tg_ := tk_6 (i := 137) (by decide +kernel) (by decide +kernel)
theorem tw_1469 : (Jvm.Cond.selects "LitmusTester$Findings" ({ cls := "LitmusTester$Findings", name := "fencedMatches", desc := "(I)I" } : Jvm.MethodName) ({ cls := "LitmusTester$Findings", name := "fencedMatches", desc := "(I)I" } : Jvm.MethodName)) ∈ tg_ := tk_6 (i := 138) (by decide +kernel) (by decide +kernel)
theorem tw_1470 : (Jvm.Cond.code ({ cls := "LitmusTester$Findings", name := "fencedMatches", desc := "(I)I" } : Jvm.MethodName) prog_5_method_6_code (2 : Nat) (Option.some Jvm.ClassFile.FieldType.int)) ∈ tg_ := tk_6 (i := 139) (by decide +kernel) (by decide +kernel)
theorem tw_1474 : (Jvm.Cond.methodLink "LitmusTesterLaw" (68 : Nat) ({ cls := "LitmusTester", name := "fewestFences", desc := "(I)I" } : Jvm.MethodName)) ∈ tg_ := tk_6 (i := 143) (by decide +kernel) (by decide +kernel)
theorem tw_1475 : (Jvm.Cond.instanceMethod ({ cls := "LitmusTester", name := "fewestFences", desc := "(I)I" } : Jvm.MethodName)) ∈ tg_ := tk_6 (i := 144) (by decide +kernel) (by decide +kernel)
theorem tw_1476 : (Jvm.Cond.selects "LitmusTester" ({ cls := "LitmusTester", name := "fewestFences", desc := "(I)I" } : Jvm.MethodName) ({ cls := "LitmusTester", name := "fewestFences", desc := "(I)I" } : Jvm.MethodName)) ∈ tg_ := tk_6 (i := 145) (by decide +kernel) (by decide +kernel)
theorem tw_1477 : (Jvm.Cond.code ({ cls := "LitmusTester", name := "fewestFences", desc := "(I)I" } : Jvm.MethodName) prog_1_method_39_code (2 : Nat) (Option.some Jvm.ClassFile.FieldType.int)) ∈ tg_ := tk_6 (i := 146) (by decide +kernel) (by decide +kernel)
theorem tw_1478 : (Jvm.Cond.methodLink "LitmusTester" (270 : Nat) ({ cls := "LitmusTester", name := "matchCount", desc := "(I)I" } : Jvm.MethodName)) ∈ tg_ := tk_6 (i := 147) (by decide +kernel) (by decide +kernel)
theorem tw_1479 : (Jvm.Cond.methodLink "LitmusTester" (273 : Nat) ({ cls := "LitmusTester", name := "smallestSet", desc := "(IZ)I" } : Jvm.MethodName)) ∈ tg_ := tk_6 (i := 148) (by decide +kernel) (by decide +kernel)
theorem tw_1481 : (Jvm.Cond.instanceMethod ({ cls := "LitmusTester", name := "smallestSet", desc := "(IZ)I" } : Jvm.MethodName)) ∈ tg_ := tk_6 (i := 150) (by decide +kernel) (by decide +kernel)
theorem tw_1482 : (Jvm.Cond.code ({ cls := "LitmusTester", name := "smallestSet", desc := "(IZ)I" } : Jvm.MethodName) prog_1_method_41_code (8 : Nat) (Option.some Jvm.ClassFile.FieldType.int)) ∈ tg_ := tk_6 (i := 151) (by decide +kernel) (by decide +kernel)
theorem tw_1483 : (Jvm.Cond.methodLink "LitmusTester" (277 : Nat) ({ cls := "java/lang/Integer", name := "bitCount", desc := "(I)I" } : Jvm.MethodName)) ∈ tg_ := tk_6 (i := 152) (by decide +kernel) (by decide +kernel)
theorem tw_1487 : (Jvm.Cond.methodLink "LitmusTesterLaw" (71 : Nat) ({ cls := "LitmusTester", name := "repairingFences", desc := "(I)I" } : Jvm.MethodName)) ∈ tg_ := tk_6 (i := 156) (by decide +kernel) (by decide +kernel)
theorem tw_1488 : (Jvm.Cond.instanceMethod ({ cls := "LitmusTester", name := "repairingFences", desc := "(I)I" } : Jvm.MethodName)) ∈ tg_ := tk_6 (i := 157) (by decide +kernel) (by decide +kernel)
theorem tw_1489 : (Jvm.Cond.selects "LitmusTester" ({ cls := "LitmusTester", name := "repairingFences", desc := "(I)I" } : Jvm.MethodName) ({ cls := "LitmusTester", name := "repairingFences", desc := "(I)I" } : Jvm.MethodName)) ∈ tg_ := tk_6 (i := 158) (by decide +kernel) (by decide +kernel)
theorem tw_1490 : (Jvm.Cond.code ({ cls := "LitmusTester", name := "repairingFences", desc := "(I)I" } : Jvm.MethodName) prog_1_method_40_code (2 : Nat) (Option.some Jvm.ClassFile.FieldType.int)) ∈ tg_ := tk_6 (i := 159) (by decide +kernel) (by decide +kernel)
theorem tw_1494 : (Jvm.Cond.methodLink "LitmusTesterLaw" (74 : Nat) ({ cls := "LitmusTester", name := "isFenceNeeded", desc := "(II)Z" } : Jvm.MethodName)) ∈ tg_ := tk_6 (i := 163) (by decide +kernel) (by decide +kernel)
theorem tw_1495 : (Jvm.Cond.instanceMethod ({ cls := "LitmusTester", name := "isFenceNeeded", desc := "(II)Z" } : Jvm.MethodName)) ∈ tg_ := tk_6 (i := 164) (by decide +kernel) (by decide +kernel)
theorem tw_1496 : (Jvm.Cond.selects "LitmusTester" ({ cls := "LitmusTester", name := "isFenceNeeded", desc := "(II)Z" } : Jvm.MethodName) ({ cls := "LitmusTester", name := "isFenceNeeded", desc := "(II)Z" } : Jvm.MethodName)) ∈ tg_ := tk_6 (i := 165) (by decide +kernel) (by decide +kernel)
theorem tw_1497 : (Jvm.Cond.code ({ cls := "LitmusTester", name := "isFenceNeeded", desc := "(II)Z" } : Jvm.MethodName) prog_1_method_42_code (4 : Nat) (Option.some Jvm.ClassFile.FieldType.boolean)) ∈ tg_ := tk_6 (i := 166) (by decide +kernel) (by decide +kernel)
theorem tw_1498 : (Jvm.Cond.methodLink "LitmusTester" (282 : Nat) ({ cls := "LitmusTester", name := "requireFence", desc := "(I)V" } : Jvm.MethodName)) ∈ tg_ := tk_6 (i := 167) (by decide +kernel) (by decide +kernel)
theorem tw_1500 : (Jvm.Cond.instanceMethod ({ cls := "LitmusTester", name := "requireFence", desc := "(I)V" } : Jvm.MethodName)) ∈ tg_ := tk_6 (i := 169) (by decide +kernel) (by decide +kernel)
theorem tw_1501 : (Jvm.Cond.code ({ cls := "LitmusTester", name := "requireFence", desc := "(I)V" } : Jvm.MethodName) prog_1_method_43_code (2 : Nat) (Option.none : Option Jvm.ClassFile.FieldType)) ∈ tg_ := tk_6 (i := 170) (by decide +kernel) (by decide +kernel)
theorem tw_1507 : (Jvm.Cond.methodLink "LitmusTesterLaw" (77 : Nat) ({ cls := "LitmusTester", name := "insertFence", desc := "(I)I" } : Jvm.MethodName)) ∈ tg_ := tk_6 (i := 176) (by decide +kernel) (by decide +kernel)
theorem tw_1508 : (Jvm.Cond.instanceMethod ({ cls := "LitmusTester", name := "insertFence", desc := "(I)I" } : Jvm.MethodName)) ∈ tg_ := tk_6 (i := 177) (by decide +kernel) (by decide +kernel)
theorem tw_1509 : (Jvm.Cond.selects "LitmusTester" ({ cls := "LitmusTester", name := "insertFence", desc := "(I)I" } : Jvm.MethodName) ({ cls := "LitmusTester", name := "insertFence", desc := "(I)I" } : Jvm.MethodName)) ∈ tg_ := tk_6 (i := 178) (by decide +kernel) (by decide +kernel)
theorem tw_1510 : (Jvm.Cond.code ({ cls := "LitmusTester", name := "insertFence", desc := "(I)I" } : Jvm.MethodName) prog_1_method_44_code (4 : Nat) (Option.some Jvm.ClassFile.FieldType.int)) ∈ tg_ := tk_6 (i := 179) (by decide +kernel) (by decide +kernel)
theorem tw_1511 : (Jvm.Cond.classLink "LitmusTester" (287 : Nat) "java/lang/IllegalStateException") ∈ tg_ := tk_6 (i := 180) (by decide +kernel) (by decide +kernel)
theorem tw_1527 : (Jvm.Cond.methodLink "LitmusTester" (295 : Nat) ({ cls := "LitmusTester$Changes", name := "inserted", desc := "(I)I" } : Jvm.MethodName)) ∈ tg_ := tk_6 (i := 196) (by decide +kernel) (by decide +kernel)
theorem tw_1528 : (Jvm.Cond.static ({ cls := "LitmusTester$Changes", name := "inserted", desc := "(I)I" } : Jvm.MethodName)) ∈ tg_ := tk_6 (i := 197) (by decide +kernel) (by decide +kernel)
theorem tw_1529 : (Jvm.Cond.code ({ cls := "LitmusTester$Changes", name := "inserted", desc := "(I)I" } : Jvm.MethodName) prog_2_method_2_code (1 : Nat) (Option.some Jvm.ClassFile.FieldType.int)) ∈ tg_ := tk_6 (i := 198) (by decide +kernel) (by decide +kernel)
theorem tw_1530 : (Jvm.Cond.methodLink "LitmusTester" (298 : Nat) ({ cls := "LitmusTester$Changes", name := "add", desc := "(I)V" } : Jvm.MethodName)) ∈ tg_ := tk_6 (i := 199) (by decide +kernel) (by decide +kernel)
theorem tw_1531 : (Jvm.Cond.instanceMethod ({ cls := "LitmusTester$Changes", name := "add", desc := "(I)V" } : Jvm.MethodName)) ∈ tg_ := tk_6 (i := 200) (by decide +kernel) (by decide +kernel)
theorem tw_1532 : (Jvm.Cond.selects "LitmusTester$Changes" ({ cls := "LitmusTester$Changes", name := "add", desc := "(I)V" } : Jvm.MethodName) ({ cls := "LitmusTester$Changes", name := "add", desc := "(I)V" } : Jvm.MethodName)) ∈ tg_ := tk_6 (i := 201) (by decide +kernel) (by decide +kernel)
theorem tw_1533 : (Jvm.Cond.code ({ cls := "LitmusTester$Changes", name := "add", desc := "(I)V" } : Jvm.MethodName) prog_2_method_9_code (2 : Nat) (Option.none : Option Jvm.ClassFile.FieldType)) ∈ tg_ := tk_6 (i := 202) (by decide +kernel) (by decide +kernel)
theorem tw_1534 : (Jvm.Cond.methodLink "LitmusTester$Changes" (19 : Nat) ({ cls := "java/lang/System", name := "arraycopy", desc := "(Ljava/lang/Object;ILjava/lang/Object;II)V" } : Jvm.MethodName)) ∈ tg_ := tk_6 (i := 203) (by decide +kernel) (by decide +kernel)
theorem tw_1538 : (Jvm.Cond.methodLink "LitmusTesterLaw" (82 : Nat) ({ cls := "LitmusTester", name := "removeFence", desc := "(I)I" } : Jvm.MethodName)) ∈ tg_ := tk_6 (i := 207) (by decide +kernel) (by decide +kernel)
theorem tw_1539 : (Jvm.Cond.instanceMethod ({ cls := "LitmusTester", name := "removeFence", desc := "(I)I" } : Jvm.MethodName)) ∈ tg_ := tk_6 (i := 208) (by decide +kernel) (by decide +kernel)
theorem tw_1540 : (Jvm.Cond.selects "LitmusTester" ({ cls := "LitmusTester", name := "removeFence", desc := "(I)I" } : Jvm.MethodName) ({ cls := "LitmusTester", name := "removeFence", desc := "(I)I" } : Jvm.MethodName)) ∈ tg_ := tk_6 (i := 209) (by decide +kernel) (by decide +kernel)
theorem tw_1541 : (Jvm.Cond.code ({ cls := "LitmusTester", name := "removeFence", desc := "(I)I" } : Jvm.MethodName) prog_1_method_45_code (2 : Nat) (Option.some Jvm.ClassFile.FieldType.int)) ∈ tg_ := tk_6 (i := 210) (by decide +kernel) (by decide +kernel)
theorem tw_1542 : (Jvm.Cond.methodLink "LitmusTester" (301 : Nat) ({ cls := "LitmusTester$Changes", name := "removed", desc := "(II)I" } : Jvm.MethodName)) ∈ tg_ := tk_6 (i := 211) (by decide +kernel) (by decide +kernel)
theorem tw_1543 : (Jvm.Cond.static ({ cls := "LitmusTester$Changes", name := "removed", desc := "(II)I" } : Jvm.MethodName)) ∈ tg_ := tk_6 (i := 212) (by decide +kernel) (by decide +kernel)
theorem tw_1544 : (Jvm.Cond.code ({ cls := "LitmusTester$Changes", name := "removed", desc := "(II)I" } : Jvm.MethodName) prog_2_method_3_code (2 : Nat) (Option.some Jvm.ClassFile.FieldType.int)) ∈ tg_ := tk_6 (i := 213) (by decide +kernel) (by decide +kernel)
theorem tw_1548 : (Jvm.Cond.methodLink "LitmusTesterLaw" (85 : Nat) ({ cls := "LitmusTester", name := "explain", desc := "(II)I" } : Jvm.MethodName)) ∈ tg_ := tk_6 (i := 217) (by decide +kernel) (by decide +kernel)
theorem tw_1549 : (Jvm.Cond.instanceMethod ({ cls := "LitmusTester", name := "explain", desc := "(II)I" } : Jvm.MethodName)) ∈ tg_ := tk_6 (i := 218) (by decide +kernel) (by decide +kernel)
theorem tw_1550 : (Jvm.Cond.selects "LitmusTester" ({ cls := "LitmusTester", name := "explain", desc := "(II)I" } : Jvm.MethodName) ({ cls := "LitmusTester", name := "explain", desc := "(II)I" } : Jvm.MethodName)) ∈ tg_ := tk_6 (i := 219) (by decide +kernel) (by decide +kernel)
theorem tw_1551 : (Jvm.Cond.code ({ cls := "LitmusTester", name := "explain", desc := "(II)I" } : Jvm.MethodName) prog_1_method_47_code (4 : Nat) (Option.some Jvm.ClassFile.FieldType.int)) ∈ tg_ := tk_6 (i := 220) (by decide +kernel) (by decide +kernel)
theorem tw_1552 : (Jvm.Cond.methodLink "LitmusTester" (319 : Nat) ({ cls := "LitmusTester$Explorer", name := "findFirst", desc := "(IILLitmusTester$Explanation;)Z" } : Jvm.MethodName)) ∈ tg_ := tk_6 (i := 221) (by decide +kernel) (by decide +kernel)
theorem tw_1553 : (Jvm.Cond.instanceMethod ({ cls := "LitmusTester$Explorer", name := "findFirst", desc := "(IILLitmusTester$Explanation;)Z" } : Jvm.MethodName)) ∈ tg_ := tk_6 (i := 222) (by decide +kernel) (by decide +kernel)
theorem tw_1554 : (Jvm.Cond.selects "LitmusTester$Explorer" ({ cls := "LitmusTester$Explorer", name := "findFirst", desc := "(IILLitmusTester$Explanation;)Z" } : Jvm.MethodName) ({ cls := "LitmusTester$Explorer", name := "findFirst", desc := "(IILLitmusTester$Explanation;)Z" } : Jvm.MethodName)) ∈ tg_ := tk_6 (i := 223) (by decide +kernel) (by decide +kernel)
theorem tw_1555 : (Jvm.Cond.code ({ cls := "LitmusTester$Explorer", name := "findFirst", desc := "(IILLitmusTester$Explanation;)Z" } : Jvm.MethodName) prog_4_method_6_code (9 : Nat) (Option.some Jvm.ClassFile.FieldType.boolean)) ∈ tg_ := tk_6 (i := 224) (by decide +kernel) (by decide +kernel)
theorem tw_1556 : (Jvm.Cond.methodLink "LitmusTester$Explorer" (103 : Nat) ({ cls := "LitmusTester$Program", name := "waits", desc := "()I" } : Jvm.MethodName)) ∈ tg_ := tk_6 (i := 225) (by decide +kernel) (by decide +kernel)
theorem tw_1557 : (Jvm.Cond.methodLink "LitmusTester$Explorer" (106 : Nat) ({ cls := "LitmusTester$Explorer", name := "leadsTo", desc := "(IJI)Z" } : Jvm.MethodName)) ∈ tg_ := tk_6 (i := 226) (by decide +kernel) (by decide +kernel)
theorem tw_1559 : (Jvm.Cond.instanceMethod ({ cls := "LitmusTester$Explorer", name := "leadsTo", desc := "(IJI)Z" } : Jvm.MethodName)) ∈ tg_ := tk_6 (i := 228) (by decide +kernel) (by decide +kernel)
theorem tw_1560 : (Jvm.Cond.code ({ cls := "LitmusTester$Explorer", name := "leadsTo", desc := "(IJI)Z" } : Jvm.MethodName) prog_4_method_7_code (5 : Nat) (Option.some Jvm.ClassFile.FieldType.boolean)) ∈ tg_ := tk_6 (i := 229) (by decide +kernel) (by decide +kernel)
theorem tw_1561 : (Jvm.Cond.methodLink "LitmusTester$Explorer" (118 : Nat) ({ cls := "LitmusTester$StateTable", name := "contains", desc := "(J)Z" } : Jvm.MethodName)) ∈ tg_ := tk_6 (i := 230) (by decide +kernel) (by decide +kernel)
theorem tw_1562 : (Jvm.Cond.instanceMethod ({ cls := "LitmusTester$StateTable", name := "contains", desc := "(J)Z" } : Jvm.MethodName)) ∈ tg_ := tk_6 (i := 231) (by decide +kernel) (by decide +kernel)
theorem tw_1563 : (Jvm.Cond.selects "LitmusTester$StateTable" ({ cls := "LitmusTester$StateTable", name := "contains", desc := "(J)Z" } : Jvm.MethodName) ({ cls := "LitmusTester$StateTable", name := "contains", desc := "(J)Z" } : Jvm.MethodName)) ∈ tg_ := tk_6 (i := 232) (by decide +kernel) (by decide +kernel)
theorem tw_1564 : (Jvm.Cond.code ({ cls := "LitmusTester$StateTable", name := "contains", desc := "(J)Z" } : Jvm.MethodName) prog_11_method_8_code (4 : Nat) (Option.some Jvm.ClassFile.FieldType.boolean)) ∈ tg_ := tk_6 (i := 233) (by decide +kernel) (by decide +kernel)
theorem tw_1565 : (Jvm.Cond.methodLink "LitmusTester$Explorer" (121 : Nat) ({ cls := "LitmusTester$Explorer", name := "hasStepTo", desc := "(IJI)Z" } : Jvm.MethodName)) ∈ tg_ := tk_6 (i := 234) (by decide +kernel) (by decide +kernel)
theorem tw_1567 : (Jvm.Cond.instanceMethod ({ cls := "LitmusTester$Explorer", name := "hasStepTo", desc := "(IJI)Z" } : Jvm.MethodName)) ∈ tg_ := tk_6 (i := 236) (by decide +kernel) (by decide +kernel)
theorem tw_1568 : (Jvm.Cond.code ({ cls := "LitmusTester$Explorer", name := "hasStepTo", desc := "(IJI)Z" } : Jvm.MethodName) prog_4_method_8_code (11 : Nat) (Option.some Jvm.ClassFile.FieldType.boolean)) ∈ tg_ := tk_6 (i := 237) (by decide +kernel) (by decide +kernel)
theorem tw_1569 : (Jvm.Cond.methodLink "LitmusTester$Explorer" (124 : Nat) ({ cls := "LitmusTester$Machine", name := "isContradicted", desc := "(JJII)Z" } : Jvm.MethodName)) ∈ tg_ := tk_6 (i := 238) (by decide +kernel) (by decide +kernel)
theorem tw_1570 : (Jvm.Cond.instanceMethod ({ cls := "LitmusTester$Machine", name := "isContradicted", desc := "(JJII)Z" } : Jvm.MethodName)) ∈ tg_ := tk_6 (i := 239) (by decide +kernel) (by decide +kernel)
theorem tw_1571 : (Jvm.Cond.selects "LitmusTester$Machine" ({ cls := "LitmusTester$Machine", name := "isContradicted", desc := "(JJII)Z" } : Jvm.MethodName) ({ cls := "LitmusTester$Machine", name := "isContradicted", desc := "(JJII)Z" } : Jvm.MethodName)) ∈ tg_ := tk_7 (i := 0) (by decide +kernel) (by decide +kernel)
theorem tw_1572 : (Jvm.Cond.code ({ cls := "LitmusTester$Machine", name := "isContradicted", desc := "(JJII)Z" } : Jvm.MethodName) prog_6_method_19_code (10 : Nat) (Option.some Jvm.ClassFile.FieldType.boolean)) ∈ tg_ := tk_7 (i := 1) (by decide +kernel) (by decide +kernel)
theorem tw_1573 : (Jvm.Cond.methodLink "LitmusTester$Explorer" (110 : Nat) ({ cls := "LitmusTester$Explanation", name := "begin", desc := "()V" } : Jvm.MethodName)) ∈ tg_ := tk_7 (i := 2) (by decide +kernel) (by decide +kernel)
theorem tw_1574 : (Jvm.Cond.instanceMethod ({ cls := "LitmusTester$Explanation", name := "begin", desc := "()V" } : Jvm.MethodName)) ∈ tg_ := tk_7 (i := 3) (by decide +kernel) (by decide +kernel)
theorem tw_1575 : (Jvm.Cond.selects "LitmusTester$Explanation" ({ cls := "LitmusTester$Explanation", name := "begin", desc := "()V" } : Jvm.MethodName) ({ cls := "LitmusTester$Explanation", name := "begin", desc := "()V" } : Jvm.MethodName)) ∈ tg_ := tk_7 (i := 4) (by decide +kernel) (by decide +kernel)
theorem tw_1576 : (Jvm.Cond.code ({ cls := "LitmusTester$Explanation", name := "begin", desc := "()V" } : Jvm.MethodName) prog_3_method_3_code (1 : Nat) (Option.none : Option Jvm.ClassFile.FieldType)) ∈ tg_ := tk_7 (i := 5) (by decide +kernel) (by decide +kernel)
theorem tw_1577 : (Jvm.Cond.methodLink "LitmusTester$Explanation" (36 : Nat) ({ cls := "LitmusTester$Explanation", name := "forget", desc := "()V" } : Jvm.MethodName)) ∈ tg_ := tk_7 (i := 6) (by decide +kernel) (by decide +kernel)
theorem tw_1578 : (Jvm.Cond.methodLink "LitmusTester$Explorer" (114 : Nat) ({ cls := "LitmusTester$Explanation", name := "addStep", desc := "(LLitmusTester$Machine;JII)V" } : Jvm.MethodName)) ∈ tg_ := tk_7 (i := 7) (by decide +kernel) (by decide +kernel)
theorem tw_1579 : (Jvm.Cond.instanceMethod ({ cls := "LitmusTester$Explanation", name := "addStep", desc := "(LLitmusTester$Machine;JII)V" } : Jvm.MethodName)) ∈ tg_ := tk_7 (i := 8) (by decide +kernel) (by decide +kernel)
theorem tw_1580 : (Jvm.Cond.selects "LitmusTester$Explanation" ({ cls := "LitmusTester$Explanation", name := "addStep", desc := "(LLitmusTester$Machine;JII)V" } : Jvm.MethodName) ({ cls := "LitmusTester$Explanation", name := "addStep", desc := "(LLitmusTester$Machine;JII)V" } : Jvm.MethodName)) ∈ tg_ := tk_7 (i := 9) (by decide +kernel) (by decide +kernel)
theorem tw_1581 : (Jvm.Cond.code ({ cls := "LitmusTester$Explanation", name := "addStep", desc := "(LLitmusTester$Machine;JII)V" } : Jvm.MethodName) prog_3_method_6_code (10 : Nat) (Option.none : Option Jvm.ClassFile.FieldType)) ∈ tg_ := tk_7 (i := 10) (by decide +kernel) (by decide +kernel)
theorem tw_1582 : (Jvm.Cond.methodLink "LitmusTester$Explanation" (39 : Nat) ({ cls := "LitmusTester$Machine", name := "committed", desc := "(JII)I" } : Jvm.MethodName)) ∈ tg_ := tk_7 (i := 11) (by decide +kernel) (by decide +kernel)
theorem tw_1583 : (Jvm.Cond.methodLink "LitmusTester$Explanation" (45 : Nat) ({ cls := "LitmusTester$Explanation", name := "addWriter", desc := "(I)V" } : Jvm.MethodName)) ∈ tg_ := tk_7 (i := 12) (by decide +kernel) (by decide +kernel)
theorem tw_1585 : (Jvm.Cond.instanceMethod ({ cls := "LitmusTester$Explanation", name := "addWriter", desc := "(I)V" } : Jvm.MethodName)) ∈ tg_ := tk_7 (i := 14) (by decide +kernel) (by decide +kernel)
theorem tw_1586 : (Jvm.Cond.code ({ cls := "LitmusTester$Explanation", name := "addWriter", desc := "(I)V" } : Jvm.MethodName) prog_3_method_7_code (2 : Nat) (Option.none : Option Jvm.ClassFile.FieldType)) ∈ tg_ := tk_7 (i := 15) (by decide +kernel) (by decide +kernel)
theorem tw_1587 : (Jvm.Cond.methodLink "LitmusTester$Explanation" (49 : Nat) ({ cls := "LitmusTester$Machine", name := "next", desc := "(JI)I" } : Jvm.MethodName)) ∈ tg_ := tk_7 (i := 16) (by decide +kernel) (by decide +kernel)
theorem tw_1588 : (Jvm.Cond.methodLink "LitmusTester$Explanation" (53 : Nat) ({ cls := "LitmusTester$Program", name := "property", desc := "(II)I" } : Jvm.MethodName)) ∈ tg_ := tk_7 (i := 17) (by decide +kernel) (by decide +kernel)
theorem tw_1589 : (Jvm.Cond.methodLink "LitmusTester$Explanation" (59 : Nat) ({ cls := "LitmusTester$Machine", name := "forwarding", desc := "(JII)I" } : Jvm.MethodName)) ∈ tg_ := tk_7 (i := 18) (by decide +kernel) (by decide +kernel)
theorem tw_1590 : (Jvm.Cond.methodLink "LitmusTester$Explanation" (62 : Nat) ({ cls := "LitmusTester$Explanation", name := "latestWriter", desc := "(I)I" } : Jvm.MethodName)) ∈ tg_ := tk_7 (i := 19) (by decide +kernel) (by decide +kernel)
theorem tw_1592 : (Jvm.Cond.instanceMethod ({ cls := "LitmusTester$Explanation", name := "latestWriter", desc := "(I)I" } : Jvm.MethodName)) ∈ tg_ := tk_7 (i := 21) (by decide +kernel) (by decide +kernel)
theorem tw_1593 : (Jvm.Cond.code ({ cls := "LitmusTester$Explanation", name := "latestWriter", desc := "(I)I" } : Jvm.MethodName) prog_3_method_8_code (4 : Nat) (Option.some Jvm.ClassFile.FieldType.int)) ∈ tg_ := tk_7 (i := 22) (by decide +kernel) (by decide +kernel)
theorem tw_1594 : (Jvm.Cond.methodLink "LitmusTester$Explanation" (66 : Nat) ({ cls := "LitmusTester$Machine", name := "isUnbuffered", desc := "()Z" } : Jvm.MethodName)) ∈ tg_ := tk_7 (i := 23) (by decide +kernel) (by decide +kernel)
theorem tw_1595 : (Jvm.Cond.instanceMethod ({ cls := "LitmusTester$Machine", name := "isUnbuffered", desc := "()Z" } : Jvm.MethodName)) ∈ tg_ := tk_7 (i := 24) (by decide +kernel) (by decide +kernel)
theorem tw_1596 : (Jvm.Cond.selects "LitmusTester$Machine" ({ cls := "LitmusTester$Machine", name := "isUnbuffered", desc := "()Z" } : Jvm.MethodName) ({ cls := "LitmusTester$Machine", name := "isUnbuffered", desc := "()Z" } : Jvm.MethodName)) ∈ tg_ := tk_7 (i := 25) (by decide +kernel) (by decide +kernel)
theorem tw_1597 : (Jvm.Cond.code ({ cls := "LitmusTester$Machine", name := "isUnbuffered", desc := "()Z" } : Jvm.MethodName) prog_6_method_9_code (1 : Nat) (Option.some Jvm.ClassFile.FieldType.boolean)) ∈ tg_ := tk_7 (i := 26) (by decide +kernel) (by decide +kernel)
theorem tw_1598 : (Jvm.Cond.methodLink "LitmusTester" (323 : Nat) ({ cls := "LitmusTester$Explanation", name := "size", desc := "()I" } : Jvm.MethodName)) ∈ tg_ := tk_7 (i := 27) (by decide +kernel) (by decide +kernel)
theorem tw_1599 : (Jvm.Cond.instanceMethod ({ cls := "LitmusTester$Explanation", name := "size", desc := "()I" } : Jvm.MethodName)) ∈ tg_ := tk_7 (i := 28) (by decide +kernel) (by decide +kernel)
theorem tw_1600 : (Jvm.Cond.selects "LitmusTester$Explanation" ({ cls := "LitmusTester$Explanation", name := "size", desc := "()I" } : Jvm.MethodName) ({ cls := "LitmusTester$Explanation", name := "size", desc := "()I" } : Jvm.MethodName)) ∈ tg_ := tk_7 (i := 29) (by decide +kernel) (by decide +kernel)
theorem tw_1601 : (Jvm.Cond.code ({ cls := "LitmusTester$Explanation", name := "size", desc := "()I" } : Jvm.MethodName) prog_3_method_5_code (1 : Nat) (Option.some Jvm.ClassFile.FieldType.int)) ∈ tg_ := tk_7 (i := 30) (by decide +kernel) (by decide +kernel)
theorem tw_1605 : (Jvm.Cond.methodLink "LitmusTesterLaw" (88 : Nat) ({ cls := "LitmusTester", name := "readsFrom", desc := "(I)I" } : Jvm.MethodName)) ∈ tg_ := tk_7 (i := 34) (by decide +kernel) (by decide +kernel)
theorem tw_1606 : (Jvm.Cond.instanceMethod ({ cls := "LitmusTester", name := "readsFrom", desc := "(I)I" } : Jvm.MethodName)) ∈ tg_ := tk_7 (i := 35) (by decide +kernel) (by decide +kernel)
theorem tw_1607 : (Jvm.Cond.selects "LitmusTester" ({ cls := "LitmusTester", name := "readsFrom", desc := "(I)I" } : Jvm.MethodName) ({ cls := "LitmusTester", name := "readsFrom", desc := "(I)I" } : Jvm.MethodName)) ∈ tg_ := tk_7 (i := 36) (by decide +kernel) (by decide +kernel)
theorem tw_1608 : (Jvm.Cond.code ({ cls := "LitmusTester", name := "readsFrom", desc := "(I)I" } : Jvm.MethodName) prog_1_method_49_code (2 : Nat) (Option.some Jvm.ClassFile.FieldType.int)) ∈ tg_ := tk_7 (i := 37) (by decide +kernel) (by decide +kernel)
theorem tw_1609 : (Jvm.Cond.methodLink "LitmusTester" (327 : Nat) ({ cls := "LitmusTester$Explanation", name := "isPresent", desc := "()Z" } : Jvm.MethodName)) ∈ tg_ := tk_7 (i := 38) (by decide +kernel) (by decide +kernel)
theorem tw_1610 : (Jvm.Cond.instanceMethod ({ cls := "LitmusTester$Explanation", name := "isPresent", desc := "()Z" } : Jvm.MethodName)) ∈ tg_ := tk_7 (i := 39) (by decide +kernel) (by decide +kernel)
theorem tw_1611 : (Jvm.Cond.selects "LitmusTester$Explanation" ({ cls := "LitmusTester$Explanation", name := "isPresent", desc := "()Z" } : Jvm.MethodName) ({ cls := "LitmusTester$Explanation", name := "isPresent", desc := "()Z" } : Jvm.MethodName)) ∈ tg_ := tk_7 (i := 40) (by decide +kernel) (by decide +kernel)
theorem tw_1612 : (Jvm.Cond.code ({ cls := "LitmusTester$Explanation", name := "isPresent", desc := "()Z" } : Jvm.MethodName) prog_3_method_4_code (1 : Nat) (Option.some Jvm.ClassFile.FieldType.boolean)) ∈ tg_ := tk_7 (i := 41) (by decide +kernel) (by decide +kernel)
theorem tw_1614 : (Jvm.Cond.methodLink "LitmusTester" (332 : Nat) ({ cls := "LitmusTester$Explanation", name := "originOf", desc := "(I)I" } : Jvm.MethodName)) ∈ tg_ := tk_7 (i := 43) (by decide +kernel) (by decide +kernel)
theorem tw_1615 : (Jvm.Cond.instanceMethod ({ cls := "LitmusTester$Explanation", name := "originOf", desc := "(I)I" } : Jvm.MethodName)) ∈ tg_ := tk_7 (i := 44) (by decide +kernel) (by decide +kernel)
theorem tw_1616 : (Jvm.Cond.selects "LitmusTester$Explanation" ({ cls := "LitmusTester$Explanation", name := "originOf", desc := "(I)I" } : Jvm.MethodName) ({ cls := "LitmusTester$Explanation", name := "originOf", desc := "(I)I" } : Jvm.MethodName)) ∈ tg_ := tk_7 (i := 45) (by decide +kernel) (by decide +kernel)
theorem tw_1617 : (Jvm.Cond.code ({ cls := "LitmusTester$Explanation", name := "originOf", desc := "(I)I" } : Jvm.MethodName) prog_3_method_10_code (2 : Nat) (Option.some Jvm.ClassFile.FieldType.int)) ∈ tg_ := tk_7 (i := 46) (by decide +kernel) (by decide +kernel)
theorem tw_1621 : (Jvm.Cond.methodLink "LitmusTesterLaw" (91 : Nat) ({ cls := "LitmusTester", name := "writtenBy", desc := "(II)I" } : Jvm.MethodName)) ∈ tg_ := tk_7 (i := 50) (by decide +kernel) (by decide +kernel)
theorem tw_1622 : (Jvm.Cond.instanceMethod ({ cls := "LitmusTester", name := "writtenBy", desc := "(II)I" } : Jvm.MethodName)) ∈ tg_ := tk_7 (i := 51) (by decide +kernel) (by decide +kernel)
theorem tw_1623 : (Jvm.Cond.selects "LitmusTester" ({ cls := "LitmusTester", name := "writtenBy", desc := "(II)I" } : Jvm.MethodName) ({ cls := "LitmusTester", name := "writtenBy", desc := "(II)I" } : Jvm.MethodName)) ∈ tg_ := tk_7 (i := 52) (by decide +kernel) (by decide +kernel)
theorem tw_1624 : (Jvm.Cond.code ({ cls := "LitmusTester", name := "writtenBy", desc := "(II)I" } : Jvm.MethodName) prog_1_method_50_code (3 : Nat) (Option.some Jvm.ClassFile.FieldType.int)) ∈ tg_ := tk_7 (i := 53) (by decide +kernel) (by decide +kernel)
theorem tw_1625 : (Jvm.Cond.methodLink "LitmusTester" (335 : Nat) ({ cls := "LitmusTester$Explanation", name := "writerAt", desc := "(II)I" } : Jvm.MethodName)) ∈ tg_ := tk_7 (i := 54) (by decide +kernel) (by decide +kernel)
theorem tw_1626 : (Jvm.Cond.instanceMethod ({ cls := "LitmusTester$Explanation", name := "writerAt", desc := "(II)I" } : Jvm.MethodName)) ∈ tg_ := tk_7 (i := 55) (by decide +kernel) (by decide +kernel)
theorem tw_1627 : (Jvm.Cond.selects "LitmusTester$Explanation" ({ cls := "LitmusTester$Explanation", name := "writerAt", desc := "(II)I" } : Jvm.MethodName) ({ cls := "LitmusTester$Explanation", name := "writerAt", desc := "(II)I" } : Jvm.MethodName)) ∈ tg_ := tk_7 (i := 56) (by decide +kernel) (by decide +kernel)
theorem tw_1628 : (Jvm.Cond.code ({ cls := "LitmusTester$Explanation", name := "writerAt", desc := "(II)I" } : Jvm.MethodName) prog_3_method_11_code (5 : Nat) (Option.some Jvm.ClassFile.FieldType.int)) ∈ tg_ := tk_7 (i := 57) (by decide +kernel) (by decide +kernel)
theorem tw_1640 : (Jvm.Cond.fieldLink "LitmusTesterModel" (1 : Nat) "LitmusTesterModel" "thrown" "I") ∈ tg_ := tk_7 (i := 69) (by decide +kernel) (by decide +kernel)
theorem tw_1641 : (Jvm.Cond.fieldLink "LitmusTesterModel" (13 : Nat) "LitmusTesterModel" "buffer" "[I") ∈ tg_ := tk_7 (i := 70) (by decide +kernel) (by decide +kernel)
theorem tw_1642 : (Jvm.Cond.fieldLink "LitmusTesterModel" (117 : Nat) "LitmusTesterModel" "filled" "I") ∈ tg_ := tk_7 (i := 71) (by decide +kernel) (by decide +kernel)
theorem tw_1643 : (Jvm.Cond.fieldLink "LitmusTesterModel" (17 : Nat) "LitmusTesterModel" "now" "[I") ∈ tg_ := tk_7 (i := 72) (by decide +kernel) (by decide +kernel)
theorem tw_1644 : (Jvm.Cond.fieldLink "LitmusTesterModel" (20 : Nat) "LitmusTesterModel" "draft" "[I") ∈ tg_ := tk_7 (i := 73) (by decide +kernel) (by decide +kernel)
theorem tw_1645 : (Jvm.Cond.fieldLink "LitmusTesterModel" (23 : Nat) "LitmusTesterModel" "kept" "[I") ∈ tg_ := tk_7 (i := 74) (by decide +kernel) (by decide +kernel)
theorem tw_1646 : (Jvm.Cond.fieldLink "LitmusTesterModel" (26 : Nat) "LitmusTesterModel" "names" "[I") ∈ tg_ := tk_7 (i := 75) (by decide +kernel) (by decide +kernel)
theorem tw_1647 : (Jvm.Cond.fieldLink "LitmusTesterModel" (29 : Nat) "LitmusTesterModel" "nameLong" "[I") ∈ tg_ := tk_7 (i := 76) (by decide +kernel) (by decide +kernel)
theorem tw_1648 : (Jvm.Cond.fieldLink "LitmusTesterModel" (32 : Nat) "LitmusTesterModel" "readNames" "[I") ∈ tg_ := tk_7 (i := 77) (by decide +kernel) (by decide +kernel)
theorem tw_1649 : (Jvm.Cond.fieldLink "LitmusTesterModel" (35 : Nat) "LitmusTesterModel" "readLong" "[I") ∈ tg_ := tk_7 (i := 78) (by decide +kernel) (by decide +kernel)
theorem tw_1650 : (Jvm.Cond.fieldLink "LitmusTesterModel" (132 : Nat) "LitmusTesterModel" "changes" "I") ∈ tg_ := tk_7 (i := 79) (by decide +kernel) (by decide +kernel)
theorem tw_1651 : (Jvm.Cond.fieldLink "LitmusTesterModel" (139 : Nat) "LitmusTesterModel" "size" "I") ∈ tg_ := tk_7 (i := 80) (by decide +kernel) (by decide +kernel)
theorem tw_1652 : (Jvm.Cond.fieldLink "LitmusTesterModel" (142 : Nat) "LitmusTesterModel" "to" "I") ∈ tg_ := tk_7 (i := 81) (by decide +kernel) (by decide +kernel)
theorem tw_1653 : (Jvm.Cond.fieldLink "LitmusTesterModel" (156 : Nat) "LitmusTesterModel" "from" "I") ∈ tg_ := tk_7 (i := 82) (by decide +kernel) (by decide +kernel)
theorem tw_1654 : (Jvm.Cond.fieldLink "LitmusTesterModel" (162 : Nat) "LitmusTesterModel" "sort" "I") ∈ tg_ := tk_7 (i := 83) (by decide +kernel) (by decide +kernel)
theorem tw_1655 : (Jvm.Cond.fieldLink "LitmusTesterModel" (159 : Nat) "LitmusTesterModel" "number" "I") ∈ tg_ := tk_7 (i := 84) (by decide +kernel) (by decide +kernel)
theorem tw_1656 : (Jvm.Cond.fieldLink "LitmusTesterModel" (209 : Nat) "LitmusTesterModel" "errorKind" "I") ∈ tg_ := tk_7 (i := 85) (by decide +kernel) (by decide +kernel)
theorem tw_1657 : (Jvm.Cond.fieldLink "LitmusTesterModel" (212 : Nat) "LitmusTesterModel" "errorAt" "I") ∈ tg_ := tk_7 (i := 86) (by decide +kernel) (by decide +kernel)
theorem tw_1658 : (Jvm.Cond.fieldLink "LitmusTesterModel" (38 : Nat) "LitmusTesterModel" "told" "[I") ∈ tg_ := tk_7 (i := 87) (by decide +kernel) (by decide +kernel)
theorem tw_1659 : (Jvm.Cond.fieldLink "LitmusTesterModel" (41 : Nat) "LitmusTesterModel" "readTold" "[I") ∈ tg_ := tk_7 (i := 88) (by decide +kernel) (by decide +kernel)
theorem tw_1660 : (Jvm.Cond.fieldLink "LitmusTesterModel" (294 : Nat) "LitmusTesterModel" "toldMany" "I") ∈ tg_ := tk_7 (i := 89) (by decide +kernel) (by decide +kernel)
theorem tw_1661 : (Jvm.Cond.fieldLink "LitmusTesterModel" (264 : Nat) "LitmusTesterModel" "readMany" "I") ∈ tg_ := tk_7 (i := 90) (by decide +kernel) (by decide +kernel)
theorem tw_1662 : (Jvm.Cond.fieldLink "LitmusTesterModel" (270 : Nat) "LitmusTesterModel" "units" "I") ∈ tg_ := tk_7 (i := 91) (by decide +kernel) (by decide +kernel)
theorem tw_1663 : (Jvm.Cond.fieldLink "LitmusTesterModel" (44 : Nat) "LitmusTesterModel" "kind" "[I") ∈ tg_ := tk_7 (i := 92) (by decide +kernel) (by decide +kernel)
theorem tw_1664 : (Jvm.Cond.fieldLink "LitmusTesterModel" (47 : Nat) "LitmusTesterModel" "place" "[I") ∈ tg_ := tk_7 (i := 93) (by decide +kernel) (by decide +kernel)
theorem tw_1665 : (Jvm.Cond.fieldLink "LitmusTesterModel" (50 : Nat) "LitmusTesterModel" "target" "[I") ∈ tg_ := tk_7 (i := 94) (by decide +kernel) (by decide +kernel)
theorem tw_1666 : (Jvm.Cond.fieldLink "LitmusTesterModel" (53 : Nat) "LitmusTesterModel" "constant" "[I") ∈ tg_ := tk_7 (i := 95) (by decide +kernel) (by decide +kernel)
theorem tw_1667 : (Jvm.Cond.fieldLink "LitmusTesterModel" (56 : Nat) "LitmusTesterModel" "register" "[I") ∈ tg_ := tk_7 (i := 96) (by decide +kernel) (by decide +kernel)
theorem tw_1668 : (Jvm.Cond.fieldLink "LitmusTesterModel" (59 : Nat) "LitmusTesterModel" "itself" "[I") ∈ tg_ := tk_7 (i := 97) (by decide +kernel) (by decide +kernel)
theorem tw_1669 : (Jvm.Cond.fieldLink "LitmusTesterModel" (62 : Nat) "LitmusTesterModel" "bit" "[I") ∈ tg_ := tk_7 (i := 98) (by decide +kernel) (by decide +kernel)
theorem tw_1670 : (Jvm.Cond.fieldLink "LitmusTesterModel" (65 : Nat) "LitmusTesterModel" "begin" "[I") ∈ tg_ := tk_7 (i := 99) (by decide +kernel) (by decide +kernel)
theorem tw_1671 : (Jvm.Cond.fieldLink "LitmusTesterModel" (335 : Nat) "LitmusTesterModel" "model" "I") ∈ tg_ := tk_7 (i := 100) (by decide +kernel) (by decide +kernel)
theorem tw_1672 : (Jvm.Cond.fieldLink "LitmusTesterModel" (356 : Nat) "LitmusTesterModel" "then" "J") ∈ tg_ := tk_7 (i := 101) (by decide +kernel) (by decide +kernel)
theorem tw_1673 : (Jvm.Cond.fieldLink "LitmusTesterModel" (346 : Nat) "LitmusTesterModel" "about" "I") ∈ tg_ := tk_7 (i := 102) (by decide +kernel) (by decide +kernel)
theorem tw_1674 : (Jvm.Cond.fieldLink "LitmusTesterModel" (360 : Nat) "LitmusTesterModel" "source" "I") ∈ tg_ := tk_7 (i := 103) (by decide +kernel) (by decide +kernel)
theorem tw_1675 : (Jvm.Cond.fieldLink "LitmusTesterModel" (69 : Nat) "LitmusTesterModel" "states" "[J") ∈ tg_ := tk_7 (i := 104) (by decide +kernel) (by decide +kernel)
theorem tw_1676 : (Jvm.Cond.fieldLink "LitmusTesterModel" (73 : Nat) "LitmusTesterModel" "ways" "[J") ∈ tg_ := tk_7 (i := 105) (by decide +kernel) (by decide +kernel)
theorem tw_1677 : (Jvm.Cond.fieldLink "LitmusTesterModel" (76 : Nat) "LitmusTesterModel" "slots" "[I") ∈ tg_ := tk_7 (i := 106) (by decide +kernel) (by decide +kernel)
theorem tw_1678 : (Jvm.Cond.fieldLink "LitmusTesterModel" (79 : Nat) "LitmusTesterModel" "stamps" "[I") ∈ tg_ := tk_7 (i := 107) (by decide +kernel) (by decide +kernel)
theorem tw_1679 : (Jvm.Cond.fieldLink "LitmusTesterModel" (376 : Nat) "LitmusTesterModel" "stateMany" "I") ∈ tg_ := tk_7 (i := 108) (by decide +kernel) (by decide +kernel)
theorem tw_1680 : (Jvm.Cond.fieldLink "LitmusTesterModel" (369 : Nat) "LitmusTesterModel" "stamp" "I") ∈ tg_ := tk_7 (i := 109) (by decide +kernel) (by decide +kernel)
theorem tw_1681 : (Jvm.Cond.fieldLink "LitmusTesterModel" (82 : Nat) "LitmusTesterModel" "outcomes" "[I") ∈ tg_ := tk_7 (i := 110) (by decide +kernel) (by decide +kernel)
theorem tw_1682 : (Jvm.Cond.fieldLink "LitmusTesterModel" (85 : Nat) "LitmusTesterModel" "others" "[I") ∈ tg_ := tk_7 (i := 111) (by decide +kernel) (by decide +kernel)
theorem tw_1683 : (Jvm.Cond.fieldLink "LitmusTesterModel" (88 : Nat) "LitmusTesterModel" "withCode" "[J") ∈ tg_ := tk_7 (i := 112) (by decide +kernel) (by decide +kernel)
theorem tw_1684 : (Jvm.Cond.fieldLink "LitmusTesterModel" (395 : Nat) "LitmusTesterModel" "outcomeMany" "I") ∈ tg_ := tk_7 (i := 113) (by decide +kernel) (by decide +kernel)
theorem tw_1685 : (Jvm.Cond.fieldLink "LitmusTesterModel" (423 : Nat) "LitmusTesterModel" "otherMany" "I") ∈ tg_ := tk_7 (i := 114) (by decide +kernel) (by decide +kernel)
theorem tw_1686 : (Jvm.Cond.fieldLink "LitmusTesterModel" (91 : Nat) "LitmusTesterModel" "pile" "[Z") ∈ tg_ := tk_7 (i := 115) (by decide +kernel) (by decide +kernel)
theorem tw_1687 : (Jvm.Cond.fieldLink "LitmusTesterModel" (135 : Nat) "LitmusTesterModel" "isExplained" "Z") ∈ tg_ := tk_7 (i := 116) (by decide +kernel) (by decide +kernel)
theorem tw_1688 : (Jvm.Cond.fieldLink "LitmusTesterModel" (95 : Nat) "LitmusTesterModel" "path" "[I") ∈ tg_ := tk_7 (i := 117) (by decide +kernel) (by decide +kernel)
theorem tw_1689 : (Jvm.Cond.fieldLink "LitmusTesterModel" (98 : Nat) "LitmusTesterModel" "readFrom" "[I") ∈ tg_ := tk_7 (i := 118) (by decide +kernel) (by decide +kernel)
theorem tw_1690 : (Jvm.Cond.fieldLink "LitmusTesterModel" (101 : Nat) "LitmusTesterModel" "written" "[I") ∈ tg_ := tk_7 (i := 119) (by decide +kernel) (by decide +kernel)
theorem tw_1691 : (Jvm.Cond.fieldLink "LitmusTesterModel" (104 : Nat) "LitmusTesterModel" "writtenMany" "[I") ∈ tg_ := tk_7 (i := 120) (by decide +kernel) (by decide +kernel)
theorem tw_1692 : (Jvm.Cond.fieldLink "LitmusTesterModel" (107 : Nat) "LitmusTesterModel" "lastWriter" "[I") ∈ tg_ := tk_7 (i := 121) (by decide +kernel) (by decide +kernel)
theorem tw_1693 : (Jvm.Cond.fieldLink "LitmusTesterModel" (482 : Nat) "LitmusTesterModel" "pathMany" "I") ∈ tg_ := tk_7 (i := 122) (by decide +kernel) (by decide +kernel)
theorem tw_1694 : (Jvm.Cond.fieldLink "LitmusTesterModel" (110 : Nat) "LitmusTesterModel" "leads" "[Z") ∈ tg_ := tk_7 (i := 123) (by decide +kernel) (by decide +kernel)
theorem tw_1695 : (Jvm.Cond.fieldLink "LitmusTesterModel" (113 : Nat) "LitmusTesterModel" "out" "[B") ∈ tg_ := tk_7 (i := 124) (by decide +kernel) (by decide +kernel)
theorem tw_1696 : (Jvm.Cond.fieldLink "LitmusTesterModel" (495 : Nat) "LitmusTesterModel" "outMany" "I") ∈ tg_ := tk_7 (i := 125) (by decide +kernel) (by decide +kernel)
theorem tw_1817 : (Jvm.Cond.methodLink "LitmusTesterModel" (120 : Nat) ({ cls := "LitmusTesterModel", name := "adds", desc := "(I)V" } : Jvm.MethodName)) ∈ tg_ := tk_8 (i := 6) (by decide +kernel) (by decide +kernel)
theorem tw_1819 : (Jvm.Cond.instanceMethod ({ cls := "LitmusTesterModel", name := "adds", desc := "(I)V" } : Jvm.MethodName)) ∈ tg_ := tk_8 (i := 8) (by decide +kernel) (by decide +kernel)
theorem tw_1820 : (Jvm.Cond.code ({ cls := "LitmusTesterModel", name := "adds", desc := "(I)V" } : Jvm.MethodName) prog_14_method_5_code (3 : Nat) (Option.none : Option Jvm.ClassFile.FieldType)) ∈ tg_ := tk_8 (i := 9) (by decide +kernel) (by decide +kernel)
theorem tw_1825 : (Jvm.Cond.methodLink "LitmusTesterModel" (124 : Nat) ({ cls := "LitmusTesterModel", name := "isIn", desc := "(III)Z" } : Jvm.MethodName)) ∈ tg_ := tk_8 (i := 14) (by decide +kernel) (by decide +kernel)
theorem tw_1826 : (Jvm.Cond.static ({ cls := "LitmusTesterModel", name := "isIn", desc := "(III)Z" } : Jvm.MethodName)) ∈ tg_ := tk_8 (i := 15) (by decide +kernel) (by decide +kernel)
theorem tw_1827 : (Jvm.Cond.code ({ cls := "LitmusTesterModel", name := "isIn", desc := "(III)Z" } : Jvm.MethodName) prog_14_method_2_code (3 : Nat) (Option.some Jvm.ClassFile.FieldType.boolean)) ∈ tg_ := tk_8 (i := 16) (by decide +kernel) (by decide +kernel)
theorem tw_1840 : (Jvm.Cond.methodLink "LitmusTesterModel" (224 : Nat) ({ cls := "LitmusTesterModel", name := "starts", desc := "()V" } : Jvm.MethodName)) ∈ tg_ := tk_8 (i := 29) (by decide +kernel) (by decide +kernel)
theorem tw_1842 : (Jvm.Cond.instanceMethod ({ cls := "LitmusTesterModel", name := "starts", desc := "()V" } : Jvm.MethodName)) ∈ tg_ := tk_8 (i := 31) (by decide +kernel) (by decide +kernel)
theorem tw_1843 : (Jvm.Cond.code ({ cls := "LitmusTesterModel", name := "starts", desc := "()V" } : Jvm.MethodName) prog_14_method_17_code (1 : Nat) (Option.none : Option Jvm.ClassFile.FieldType)) ∈ tg_ := tk_8 (i := 32) (by decide +kernel) (by decide +kernel)
theorem tw_1844 : (Jvm.Cond.methodLink "LitmusTesterModel" (227 : Nat) ({ cls := "LitmusTesterModel", name := "copies", desc := "()V" } : Jvm.MethodName)) ∈ tg_ := tk_8 (i := 33) (by decide +kernel) (by decide +kernel)
theorem tw_1846 : (Jvm.Cond.instanceMethod ({ cls := "LitmusTesterModel", name := "copies", desc := "()V" } : Jvm.MethodName)) ∈ tg_ := tk_8 (i := 35) (by decide +kernel) (by decide +kernel)
theorem tw_1847 : (Jvm.Cond.code ({ cls := "LitmusTesterModel", name := "copies", desc := "()V" } : Jvm.MethodName) prog_14_method_28_code (2 : Nat) (Option.none : Option Jvm.ClassFile.FieldType)) ∈ tg_ := tk_8 (i := 36) (by decide +kernel) (by decide +kernel)
theorem tw_1848 : (Jvm.Cond.methodLink "LitmusTesterModel" (230 : Nat) ({ cls := "LitmusTesterModel", name := "named", desc := "(II)I" } : Jvm.MethodName)) ∈ tg_ := tk_8 (i := 37) (by decide +kernel) (by decide +kernel)
theorem tw_1850 : (Jvm.Cond.instanceMethod ({ cls := "LitmusTesterModel", name := "named", desc := "(II)I" } : Jvm.MethodName)) ∈ tg_ := tk_8 (i := 39) (by decide +kernel) (by decide +kernel)
theorem tw_1851 : (Jvm.Cond.code ({ cls := "LitmusTesterModel", name := "named", desc := "(II)I" } : Jvm.MethodName) prog_14_method_27_code (6 : Nat) (Option.some Jvm.ClassFile.FieldType.int)) ∈ tg_ := tk_8 (i := 40) (by decide +kernel) (by decide +kernel)
theorem tw_1856 : (Jvm.Cond.methodLink "LitmusTesterModel" (221 : Nat) ({ cls := "LitmusTesterModel", name := "go", desc := "()V" } : Jvm.MethodName)) ∈ tg_ := tk_8 (i := 45) (by decide +kernel) (by decide +kernel)
theorem tw_1858 : (Jvm.Cond.instanceMethod ({ cls := "LitmusTesterModel", name := "go", desc := "()V" } : Jvm.MethodName)) ∈ tg_ := tk_8 (i := 47) (by decide +kernel) (by decide +kernel)
theorem tw_1859 : (Jvm.Cond.code ({ cls := "LitmusTesterModel", name := "go", desc := "()V" } : Jvm.MethodName) prog_14_method_19_code (2 : Nat) (Option.none : Option Jvm.ClassFile.FieldType)) ∈ tg_ := tk_8 (i := 48) (by decide +kernel) (by decide +kernel)
theorem tw_1860 : (Jvm.Cond.methodLink "LitmusTesterModel" (145 : Nat) ({ cls := "LitmusTesterModel", name := "byteAt", desc := "(I)I" } : Jvm.MethodName)) ∈ tg_ := tk_8 (i := 49) (by decide +kernel) (by decide +kernel)
theorem tw_1862 : (Jvm.Cond.instanceMethod ({ cls := "LitmusTesterModel", name := "byteAt", desc := "(I)I" } : Jvm.MethodName)) ∈ tg_ := tk_8 (i := 51) (by decide +kernel) (by decide +kernel)
theorem tw_1863 : (Jvm.Cond.code ({ cls := "LitmusTesterModel", name := "byteAt", desc := "(I)I" } : Jvm.MethodName) prog_14_method_14_code (2 : Nat) (Option.some Jvm.ClassFile.FieldType.int)) ∈ tg_ := tk_8 (i := 52) (by decide +kernel) (by decide +kernel)
theorem tw_1864 : (Jvm.Cond.methodLink "LitmusTesterModel" (149 : Nat) ({ cls := "LitmusTesterModel", name := "isSmall", desc := "(I)Z" } : Jvm.MethodName)) ∈ tg_ := tk_8 (i := 53) (by decide +kernel) (by decide +kernel)
theorem tw_1865 : (Jvm.Cond.static ({ cls := "LitmusTesterModel", name := "isSmall", desc := "(I)Z" } : Jvm.MethodName)) ∈ tg_ := tk_8 (i := 54) (by decide +kernel) (by decide +kernel)
theorem tw_1866 : (Jvm.Cond.code ({ cls := "LitmusTesterModel", name := "isSmall", desc := "(I)Z" } : Jvm.MethodName) prog_14_method_15_code (1 : Nat) (Option.some Jvm.ClassFile.FieldType.boolean)) ∈ tg_ := tk_8 (i := 55) (by decide +kernel) (by decide +kernel)
theorem tw_1867 : (Jvm.Cond.methodLink "LitmusTesterModel" (165 : Nat) ({ cls := "LitmusTesterModel", name := "goWord", desc := "()V" } : Jvm.MethodName)) ∈ tg_ := tk_8 (i := 56) (by decide +kernel) (by decide +kernel)
theorem tw_1869 : (Jvm.Cond.instanceMethod ({ cls := "LitmusTesterModel", name := "goWord", desc := "()V" } : Jvm.MethodName)) ∈ tg_ := tk_8 (i := 58) (by decide +kernel) (by decide +kernel)
theorem tw_1870 : (Jvm.Cond.code ({ cls := "LitmusTesterModel", name := "goWord", desc := "()V" } : Jvm.MethodName) prog_14_method_18_code (3 : Nat) (Option.none : Option Jvm.ClassFile.FieldType)) ∈ tg_ := tk_8 (i := 59) (by decide +kernel) (by decide +kernel)
theorem tw_1871 : (Jvm.Cond.methodLink "LitmusTesterModel" (153 : Nat) ({ cls := "LitmusTesterModel", name := "isDigit", desc := "(I)Z" } : Jvm.MethodName)) ∈ tg_ := tk_8 (i := 60) (by decide +kernel) (by decide +kernel)
theorem tw_1872 : (Jvm.Cond.static ({ cls := "LitmusTesterModel", name := "isDigit", desc := "(I)Z" } : Jvm.MethodName)) ∈ tg_ := tk_8 (i := 61) (by decide +kernel) (by decide +kernel)
theorem tw_1873 : (Jvm.Cond.code ({ cls := "LitmusTesterModel", name := "isDigit", desc := "(I)Z" } : Jvm.MethodName) prog_14_method_16_code (1 : Nat) (Option.some Jvm.ClassFile.FieldType.boolean)) ∈ tg_ := tk_8 (i := 62) (by decide +kernel) (by decide +kernel)
theorem tw_1874 : (Jvm.Cond.methodLink "LitmusTesterModel" (291 : Nat) ({ cls := "LitmusTesterModel", name := "readsProgram", desc := "()Z" } : Jvm.MethodName)) ∈ tg_ := tk_8 (i := 63) (by decide +kernel) (by decide +kernel)
theorem tw_1876 : (Jvm.Cond.instanceMethod ({ cls := "LitmusTesterModel", name := "readsProgram", desc := "()Z" } : Jvm.MethodName)) ∈ tg_ := tk_8 (i := 65) (by decide +kernel) (by decide +kernel)
theorem tw_1877 : (Jvm.Cond.code ({ cls := "LitmusTesterModel", name := "readsProgram", desc := "()Z" } : Jvm.MethodName) prog_14_method_44_code (1 : Nat) (Option.some Jvm.ClassFile.FieldType.boolean)) ∈ tg_ := tk_8 (i := 66) (by decide +kernel) (by decide +kernel)
theorem tw_1879 : (Jvm.Cond.methodLink "LitmusTesterModel" (190 : Nat) ({ cls := "LitmusTesterModel", name := "isText", desc := "(Ljava/lang/String;)Z" } : Jvm.MethodName)) ∈ tg_ := tk_8 (i := 68) (by decide +kernel) (by decide +kernel)
theorem tw_1881 : (Jvm.Cond.instanceMethod ({ cls := "LitmusTesterModel", name := "isText", desc := "(Ljava/lang/String;)Z" } : Jvm.MethodName)) ∈ tg_ := tk_8 (i := 70) (by decide +kernel) (by decide +kernel)
theorem tw_1882 : (Jvm.Cond.code ({ cls := "LitmusTesterModel", name := "isText", desc := "(Ljava/lang/String;)Z" } : Jvm.MethodName) prog_14_method_21_code (3 : Nat) (Option.some Jvm.ClassFile.FieldType.boolean)) ∈ tg_ := tk_8 (i := 71) (by decide +kernel) (by decide +kernel)
theorem tw_1883 : (Jvm.Cond.methodLink "LitmusTesterModel" (168 : Nat) ({ cls := "java/lang/String", name := "length", desc := "()I" } : Jvm.MethodName)) ∈ tg_ := tk_8 (i := 72) (by decide +kernel) (by decide +kernel)
theorem tw_1884 : (Jvm.Cond.methodLink "LitmusTesterModel" (174 : Nat) ({ cls := "java/lang/String", name := "charAt", desc := "(I)C" } : Jvm.MethodName)) ∈ tg_ := tk_8 (i := 73) (by decide +kernel) (by decide +kernel)
theorem tw_1885 : (Jvm.Cond.methodLink "LitmusTesterModel" (285 : Nat) ({ cls := "LitmusTesterModel", name := "readsLocation", desc := "()Z" } : Jvm.MethodName)) ∈ tg_ := tk_8 (i := 74) (by decide +kernel) (by decide +kernel)
theorem tw_1887 : (Jvm.Cond.instanceMethod ({ cls := "LitmusTesterModel", name := "readsLocation", desc := "()Z" } : Jvm.MethodName)) ∈ tg_ := tk_8 (i := 76) (by decide +kernel) (by decide +kernel)
theorem tw_1888 : (Jvm.Cond.code ({ cls := "LitmusTesterModel", name := "readsLocation", desc := "()Z" } : Jvm.MethodName) prog_14_method_31_code (3 : Nat) (Option.some Jvm.ClassFile.FieldType.boolean)) ∈ tg_ := tk_8 (i := 77) (by decide +kernel) (by decide +kernel)
theorem tw_1889 : (Jvm.Cond.methodLink "LitmusTesterModel" (218 : Nat) ({ cls := "LitmusTesterModel", name := "bad", desc := "(I)Z" } : Jvm.MethodName)) ∈ tg_ := tk_8 (i := 78) (by decide +kernel) (by decide +kernel)
theorem tw_1891 : (Jvm.Cond.instanceMethod ({ cls := "LitmusTesterModel", name := "bad", desc := "(I)Z" } : Jvm.MethodName)) ∈ tg_ := tk_8 (i := 80) (by decide +kernel) (by decide +kernel)
theorem tw_1892 : (Jvm.Cond.code ({ cls := "LitmusTesterModel", name := "bad", desc := "(I)Z" } : Jvm.MethodName) prog_14_method_25_code (2 : Nat) (Option.some Jvm.ClassFile.FieldType.boolean)) ∈ tg_ := tk_8 (i := 81) (by decide +kernel) (by decide +kernel)
theorem tw_1893 : (Jvm.Cond.methodLink "LitmusTesterModel" (234 : Nat) ({ cls := "LitmusTesterModel", name := "isName", desc := "()Z" } : Jvm.MethodName)) ∈ tg_ := tk_8 (i := 82) (by decide +kernel) (by decide +kernel)
theorem tw_1895 : (Jvm.Cond.instanceMethod ({ cls := "LitmusTesterModel", name := "isName", desc := "()Z" } : Jvm.MethodName)) ∈ tg_ := tk_8 (i := 84) (by decide +kernel) (by decide +kernel)
theorem tw_1896 : (Jvm.Cond.code ({ cls := "LitmusTesterModel", name := "isName", desc := "()Z" } : Jvm.MethodName) prog_14_method_24_code (1 : Nat) (Option.some Jvm.ClassFile.FieldType.boolean)) ∈ tg_ := tk_8 (i := 85) (by decide +kernel) (by decide +kernel)
theorem tw_1897 : (Jvm.Cond.methodLink "LitmusTesterModel" (194 : Nat) ({ cls := "LitmusTesterModel", name := "kindNow", desc := "()I" } : Jvm.MethodName)) ∈ tg_ := tk_8 (i := 86) (by decide +kernel) (by decide +kernel)
theorem tw_1899 : (Jvm.Cond.instanceMethod ({ cls := "LitmusTesterModel", name := "kindNow", desc := "()I" } : Jvm.MethodName)) ∈ tg_ := tk_8 (i := 88) (by decide +kernel) (by decide +kernel)
theorem tw_1900 : (Jvm.Cond.code ({ cls := "LitmusTesterModel", name := "kindNow", desc := "()I" } : Jvm.MethodName) prog_14_method_23_code (2 : Nat) (Option.some Jvm.ClassFile.FieldType.int)) ∈ tg_ := tk_8 (i := 89) (by decide +kernel) (by decide +kernel)
theorem tw_1901 : (Jvm.Cond.methodLink "LitmusTesterModel" (186 : Nat) ({ cls := "LitmusTesterModel", name := "kindWord", desc := "(I)Ljava/lang/String;" } : Jvm.MethodName)) ∈ tg_ := tk_8 (i := 90) (by decide +kernel) (by decide +kernel)
theorem tw_1902 : (Jvm.Cond.static ({ cls := "LitmusTesterModel", name := "kindWord", desc := "(I)Ljava/lang/String;" } : Jvm.MethodName)) ∈ tg_ := tk_8 (i := 91) (by decide +kernel) (by decide +kernel)
theorem tw_1903 : (Jvm.Cond.code ({ cls := "LitmusTesterModel", name := "kindWord", desc := "(I)Ljava/lang/String;" } : Jvm.MethodName) prog_14_method_22_code (1 : Nat) (Option.some (Jvm.ClassFile.FieldType.object "java/lang/String"))) ∈ tg_ := tk_8 (i := 92) (by decide +kernel) (by decide +kernel)
theorem tw_1913 : (Jvm.Cond.methodLink "LitmusTesterModel" (238 : Nat) ({ cls := "LitmusTesterModel", name := "readsSmall", desc := "(I)Z" } : Jvm.MethodName)) ∈ tg_ := tk_8 (i := 102) (by decide +kernel) (by decide +kernel)
theorem tw_1915 : (Jvm.Cond.instanceMethod ({ cls := "LitmusTesterModel", name := "readsSmall", desc := "(I)Z" } : Jvm.MethodName)) ∈ tg_ := tk_8 (i := 104) (by decide +kernel) (by decide +kernel)
theorem tw_1916 : (Jvm.Cond.code ({ cls := "LitmusTesterModel", name := "readsSmall", desc := "(I)Z" } : Jvm.MethodName) prog_14_method_30_code (2 : Nat) (Option.some Jvm.ClassFile.FieldType.boolean)) ∈ tg_ := tk_8 (i := 105) (by decide +kernel) (by decide +kernel)
theorem tw_1917 : (Jvm.Cond.methodLink "LitmusTesterModel" (241 : Nat) ({ cls := "LitmusTesterModel", name := "ends", desc := "()Z" } : Jvm.MethodName)) ∈ tg_ := tk_8 (i := 106) (by decide +kernel) (by decide +kernel)
theorem tw_1919 : (Jvm.Cond.instanceMethod ({ cls := "LitmusTesterModel", name := "ends", desc := "()Z" } : Jvm.MethodName)) ∈ tg_ := tk_8 (i := 108) (by decide +kernel) (by decide +kernel)
theorem tw_1920 : (Jvm.Cond.code ({ cls := "LitmusTesterModel", name := "ends", desc := "()Z" } : Jvm.MethodName) prog_14_method_26_code (1 : Nat) (Option.some Jvm.ClassFile.FieldType.boolean)) ∈ tg_ := tk_8 (i := 109) (by decide +kernel) (by decide +kernel)
theorem tw_1921 : (Jvm.Cond.methodLink "LitmusTesterModel" (215 : Nat) ({ cls := "LitmusTesterModel", name := "isSymbol", desc := "(I)Z" } : Jvm.MethodName)) ∈ tg_ := tk_8 (i := 110) (by decide +kernel) (by decide +kernel)
theorem tw_1923 : (Jvm.Cond.instanceMethod ({ cls := "LitmusTesterModel", name := "isSymbol", desc := "(I)Z" } : Jvm.MethodName)) ∈ tg_ := tk_8 (i := 112) (by decide +kernel) (by decide +kernel)
theorem tw_1924 : (Jvm.Cond.code ({ cls := "LitmusTesterModel", name := "isSymbol", desc := "(I)Z" } : Jvm.MethodName) prog_14_method_20_code (2 : Nat) (Option.some Jvm.ClassFile.FieldType.boolean)) ∈ tg_ := tk_8 (i := 113) (by decide +kernel) (by decide +kernel)
theorem tw_1925 : (Jvm.Cond.methodLink "LitmusTesterModel" (288 : Nat) ({ cls := "LitmusTesterModel", name := "readsThread", desc := "()Z" } : Jvm.MethodName)) ∈ tg_ := tk_8 (i := 114) (by decide +kernel) (by decide +kernel)
theorem tw_1927 : (Jvm.Cond.instanceMethod ({ cls := "LitmusTesterModel", name := "readsThread", desc := "()Z" } : Jvm.MethodName)) ∈ tg_ := tk_8 (i := 116) (by decide +kernel) (by decide +kernel)
theorem tw_1928 : (Jvm.Cond.code ({ cls := "LitmusTesterModel", name := "readsThread", desc := "()Z" } : Jvm.MethodName) prog_14_method_38_code (1 : Nat) (Option.some Jvm.ClassFile.FieldType.boolean)) ∈ tg_ := tk_8 (i := 117) (by decide +kernel) (by decide +kernel)
theorem tw_1929 : (Jvm.Cond.methodLink "LitmusTesterModel" (261 : Nat) ({ cls := "LitmusTesterModel", name := "readsInstruction", desc := "(I)Z" } : Jvm.MethodName)) ∈ tg_ := tk_8 (i := 118) (by decide +kernel) (by decide +kernel)
theorem tw_1931 : (Jvm.Cond.instanceMethod ({ cls := "LitmusTesterModel", name := "readsInstruction", desc := "(I)Z" } : Jvm.MethodName)) ∈ tg_ := tk_8 (i := 120) (by decide +kernel) (by decide +kernel)
theorem tw_1932 : (Jvm.Cond.code ({ cls := "LitmusTesterModel", name := "readsInstruction", desc := "(I)Z" } : Jvm.MethodName) prog_14_method_37_code (6 : Nat) (Option.some Jvm.ClassFile.FieldType.boolean)) ∈ tg_ := tk_8 (i := 121) (by decide +kernel) (by decide +kernel)
theorem tw_1933 : (Jvm.Cond.methodLink "LitmusTesterModel" (248 : Nat) ({ cls := "LitmusTesterModel", name := "instructionsOf", desc := "(IZ)I" } : Jvm.MethodName)) ∈ tg_ := tk_8 (i := 122) (by decide +kernel) (by decide +kernel)
theorem tw_1935 : (Jvm.Cond.instanceMethod ({ cls := "LitmusTesterModel", name := "instructionsOf", desc := "(IZ)I" } : Jvm.MethodName)) ∈ tg_ := tk_8 (i := 124) (by decide +kernel) (by decide +kernel)
theorem tw_1936 : (Jvm.Cond.code ({ cls := "LitmusTesterModel", name := "instructionsOf", desc := "(IZ)I" } : Jvm.MethodName) prog_14_method_33_code (5 : Nat) (Option.some Jvm.ClassFile.FieldType.int)) ∈ tg_ := tk_8 (i := 125) (by decide +kernel) (by decide +kernel)
theorem tw_1937 : (Jvm.Cond.methodLink "LitmusTesterModel" (128 : Nat) ({ cls := "LitmusTesterModel", name := "at", desc := "([III)I" } : Jvm.MethodName)) ∈ tg_ := tk_8 (i := 126) (by decide +kernel) (by decide +kernel)
theorem tw_1938 : (Jvm.Cond.static ({ cls := "LitmusTesterModel", name := "at", desc := "([III)I" } : Jvm.MethodName)) ∈ tg_ := tk_8 (i := 127) (by decide +kernel) (by decide +kernel)
theorem tw_1939 : (Jvm.Cond.code ({ cls := "LitmusTesterModel", name := "at", desc := "([III)I" } : Jvm.MethodName) prog_14_method_9_code (3 : Nat) (Option.some Jvm.ClassFile.FieldType.int)) ∈ tg_ := tk_8 (i := 128) (by decide +kernel) (by decide +kernel)
theorem tw_1940 : (Jvm.Cond.methodLink "LitmusTesterModel" (252 : Nat) ({ cls := "LitmusTesterModel", name := "readsTarget", desc := "(II)Z" } : Jvm.MethodName)) ∈ tg_ := tk_8 (i := 129) (by decide +kernel) (by decide +kernel)
theorem tw_1942 : (Jvm.Cond.instanceMethod ({ cls := "LitmusTesterModel", name := "readsTarget", desc := "(II)Z" } : Jvm.MethodName)) ∈ tg_ := tk_8 (i := 131) (by decide +kernel) (by decide +kernel)
theorem tw_1943 : (Jvm.Cond.code ({ cls := "LitmusTesterModel", name := "readsTarget", desc := "(II)Z" } : Jvm.MethodName) prog_14_method_34_code (3 : Nat) (Option.some Jvm.ClassFile.FieldType.boolean)) ∈ tg_ := tk_8 (i := 132) (by decide +kernel) (by decide +kernel)
theorem tw_1944 : (Jvm.Cond.methodLink "LitmusTesterModel" (244 : Nat) ({ cls := "LitmusTesterModel", name := "isTarget", desc := "(II)Z" } : Jvm.MethodName)) ∈ tg_ := tk_8 (i := 133) (by decide +kernel) (by decide +kernel)
theorem tw_1946 : (Jvm.Cond.instanceMethod ({ cls := "LitmusTesterModel", name := "isTarget", desc := "(II)Z" } : Jvm.MethodName)) ∈ tg_ := tk_8 (i := 135) (by decide +kernel) (by decide +kernel)
theorem tw_1947 : (Jvm.Cond.code ({ cls := "LitmusTesterModel", name := "isTarget", desc := "(II)Z" } : Jvm.MethodName) prog_14_method_32_code (4 : Nat) (Option.some Jvm.ClassFile.FieldType.boolean)) ∈ tg_ := tk_8 (i := 136) (by decide +kernel) (by decide +kernel)
theorem tw_1948 : (Jvm.Cond.methodLink "LitmusTesterModel" (255 : Nat) ({ cls := "LitmusTesterModel", name := "readsPlace", desc := "(I)Z" } : Jvm.MethodName)) ∈ tg_ := tk_8 (i := 137) (by decide +kernel) (by decide +kernel)
theorem tw_1950 : (Jvm.Cond.instanceMethod ({ cls := "LitmusTesterModel", name := "readsPlace", desc := "(I)Z" } : Jvm.MethodName)) ∈ tg_ := tk_8 (i := 139) (by decide +kernel) (by decide +kernel)
theorem tw_1951 : (Jvm.Cond.code ({ cls := "LitmusTesterModel", name := "readsPlace", desc := "(I)Z" } : Jvm.MethodName) prog_14_method_35_code (2 : Nat) (Option.some Jvm.ClassFile.FieldType.boolean)) ∈ tg_ := tk_8 (i := 140) (by decide +kernel) (by decide +kernel)
theorem tw_1952 : (Jvm.Cond.methodLink "LitmusTesterModel" (258 : Nat) ({ cls := "LitmusTesterModel", name := "readsValue", desc := "(II)Z" } : Jvm.MethodName)) ∈ tg_ := tk_8 (i := 141) (by decide +kernel) (by decide +kernel)
theorem tw_1954 : (Jvm.Cond.instanceMethod ({ cls := "LitmusTesterModel", name := "readsValue", desc := "(II)Z" } : Jvm.MethodName)) ∈ tg_ := tk_8 (i := 143) (by decide +kernel) (by decide +kernel)
theorem tw_1955 : (Jvm.Cond.code ({ cls := "LitmusTesterModel", name := "readsValue", desc := "(II)Z" } : Jvm.MethodName) prog_14_method_36_code (3 : Nat) (Option.some Jvm.ClassFile.FieldType.boolean)) ∈ tg_ := tk_8 (i := 144) (by decide +kernel) (by decide +kernel)
theorem tw_1956 : (Jvm.Cond.methodLink "LitmusTesterModel" (276 : Nat) ({ cls := "LitmusTesterModel", name := "readsCondition", desc := "(I)Z" } : Jvm.MethodName)) ∈ tg_ := tk_8 (i := 145) (by decide +kernel) (by decide +kernel)
theorem tw_1958 : (Jvm.Cond.instanceMethod ({ cls := "LitmusTesterModel", name := "readsCondition", desc := "(I)Z" } : Jvm.MethodName)) ∈ tg_ := tk_8 (i := 147) (by decide +kernel) (by decide +kernel)
theorem tw_1959 : (Jvm.Cond.code ({ cls := "LitmusTesterModel", name := "readsCondition", desc := "(I)Z" } : Jvm.MethodName) prog_14_method_43_code (2 : Nat) (Option.some Jvm.ClassFile.FieldType.boolean)) ∈ tg_ := tk_8 (i := 148) (by decide +kernel) (by decide +kernel)
theorem tw_1960 : (Jvm.Cond.methodLink "LitmusTesterModel" (282 : Nat) ({ cls := "LitmusTesterModel", name := "readsBoth", desc := "(I)Z" } : Jvm.MethodName)) ∈ tg_ := tk_8 (i := 149) (by decide +kernel) (by decide +kernel)
theorem tw_1962 : (Jvm.Cond.instanceMethod ({ cls := "LitmusTesterModel", name := "readsBoth", desc := "(I)Z" } : Jvm.MethodName)) ∈ tg_ := tk_8 (i := 151) (by decide +kernel) (by decide +kernel)
theorem tw_1963 : (Jvm.Cond.code ({ cls := "LitmusTesterModel", name := "readsBoth", desc := "(I)Z" } : Jvm.MethodName) prog_14_method_42_code (2 : Nat) (Option.some Jvm.ClassFile.FieldType.boolean)) ∈ tg_ := tk_8 (i := 152) (by decide +kernel) (by decide +kernel)
theorem tw_1964 : (Jvm.Cond.methodLink "LitmusTesterModel" (273 : Nat) ({ cls := "LitmusTesterModel", name := "readsUnit", desc := "(I)Z" } : Jvm.MethodName)) ∈ tg_ := tk_8 (i := 153) (by decide +kernel) (by decide +kernel)
theorem tw_1966 : (Jvm.Cond.instanceMethod ({ cls := "LitmusTesterModel", name := "readsUnit", desc := "(I)Z" } : Jvm.MethodName)) ∈ tg_ := tk_8 (i := 155) (by decide +kernel) (by decide +kernel)
theorem tw_1967 : (Jvm.Cond.code ({ cls := "LitmusTesterModel", name := "readsUnit", desc := "(I)Z" } : Jvm.MethodName) prog_14_method_41_code (8 : Nat) (Option.some Jvm.ClassFile.FieldType.boolean)) ∈ tg_ := tk_8 (i := 156) (by decide +kernel) (by decide +kernel)
theorem tw_1968 : (Jvm.Cond.methodLink "LitmusTesterModel" (267 : Nat) ({ cls := "LitmusTesterModel", name := "tells", desc := "(I)V" } : Jvm.MethodName)) ∈ tg_ := tk_8 (i := 157) (by decide +kernel) (by decide +kernel)
theorem tw_1970 : (Jvm.Cond.instanceMethod ({ cls := "LitmusTesterModel", name := "tells", desc := "(I)V" } : Jvm.MethodName)) ∈ tg_ := tk_8 (i := 159) (by decide +kernel) (by decide +kernel)
theorem tw_1971 : (Jvm.Cond.code ({ cls := "LitmusTesterModel", name := "tells", desc := "(I)V" } : Jvm.MethodName) prog_14_method_39_code (2 : Nat) (Option.none : Option Jvm.ClassFile.FieldType)) ∈ tg_ := tk_8 (i := 160) (by decide +kernel) (by decide +kernel)
theorem tw_1972 : (Jvm.Cond.methodLink "LitmusTesterModel" (279 : Nat) ({ cls := "LitmusTesterModel", name := "readsCompare", desc := "(I)Z" } : Jvm.MethodName)) ∈ tg_ := tk_8 (i := 161) (by decide +kernel) (by decide +kernel)
theorem tw_1974 : (Jvm.Cond.instanceMethod ({ cls := "LitmusTesterModel", name := "readsCompare", desc := "(I)Z" } : Jvm.MethodName)) ∈ tg_ := tk_8 (i := 163) (by decide +kernel) (by decide +kernel)
theorem tw_1975 : (Jvm.Cond.code ({ cls := "LitmusTesterModel", name := "readsCompare", desc := "(I)Z" } : Jvm.MethodName) prog_14_method_40_code (3 : Nat) (Option.some Jvm.ClassFile.FieldType.boolean)) ∈ tg_ := tk_8 (i := 164) (by decide +kernel) (by decide +kernel)
theorem tw_1992 : (Jvm.Cond.methodLink "LitmusTesterModel" (297 : Nat) ({ cls := "LitmusTesterModel", name := "isInstruction", desc := "(I)Z" } : Jvm.MethodName)) ∈ tg_ := tk_8 (i := 181) (by decide +kernel) (by decide +kernel)
theorem tw_1994 : (Jvm.Cond.instanceMethod ({ cls := "LitmusTesterModel", name := "isInstruction", desc := "(I)Z" } : Jvm.MethodName)) ∈ tg_ := tk_8 (i := 183) (by decide +kernel) (by decide +kernel)
theorem tw_1995 : (Jvm.Cond.code ({ cls := "LitmusTesterModel", name := "isInstruction", desc := "(I)Z" } : Jvm.MethodName) prog_14_method_11_code (2 : Nat) (Option.some Jvm.ClassFile.FieldType.boolean)) ∈ tg_ := tk_8 (i := 184) (by decide +kernel) (by decide +kernel)
theorem tw_1996 : (Jvm.Cond.methodLink "LitmusTesterModel" (300 : Nat) ({ cls := "LitmusTesterModel", name := "fails", desc := "(ZZZ)Z" } : Jvm.MethodName)) ∈ tg_ := tk_8 (i := 185) (by decide +kernel) (by decide +kernel)
theorem tw_1998 : (Jvm.Cond.instanceMethod ({ cls := "LitmusTesterModel", name := "fails", desc := "(ZZZ)Z" } : Jvm.MethodName)) ∈ tg_ := tk_8 (i := 187) (by decide +kernel) (by decide +kernel)
theorem tw_1999 : (Jvm.Cond.code ({ cls := "LitmusTesterModel", name := "fails", desc := "(ZZZ)Z" } : Jvm.MethodName) prog_14_method_3_code (4 : Nat) (Option.some Jvm.ClassFile.FieldType.boolean)) ∈ tg_ := tk_8 (i := 188) (by decide +kernel) (by decide +kernel)
theorem tw_2000 : (Jvm.Cond.methodLink "LitmusTesterModel" (304 : Nat) ({ cls := "LitmusTesterModel", name := "of", desc := "(II)I" } : Jvm.MethodName)) ∈ tg_ := tk_8 (i := 189) (by decide +kernel) (by decide +kernel)
theorem tw_2002 : (Jvm.Cond.instanceMethod ({ cls := "LitmusTesterModel", name := "of", desc := "(II)I" } : Jvm.MethodName)) ∈ tg_ := tk_8 (i := 191) (by decide +kernel) (by decide +kernel)
theorem tw_2003 : (Jvm.Cond.code ({ cls := "LitmusTesterModel", name := "of", desc := "(II)I" } : Jvm.MethodName) prog_14_method_10_code (3 : Nat) (Option.some Jvm.ClassFile.FieldType.int)) ∈ tg_ := tk_8 (i := 192) (by decide +kernel) (by decide +kernel)
theorem tw_2008 : (Jvm.Cond.methodLink "LitmusTesterModel" (414 : Nat) ({ cls := "LitmusTesterModel", name := "isNoModel", desc := "(I)Z" } : Jvm.MethodName)) ∈ tg_ := tk_8 (i := 197) (by decide +kernel) (by decide +kernel)
theorem tw_2010 : (Jvm.Cond.instanceMethod ({ cls := "LitmusTesterModel", name := "isNoModel", desc := "(I)Z" } : Jvm.MethodName)) ∈ tg_ := tk_8 (i := 199) (by decide +kernel) (by decide +kernel)
theorem tw_2011 : (Jvm.Cond.code ({ cls := "LitmusTesterModel", name := "isNoModel", desc := "(I)Z" } : Jvm.MethodName) prog_14_method_73_code (2 : Nat) (Option.some Jvm.ClassFile.FieldType.boolean)) ∈ tg_ := tk_8 (i := 200) (by decide +kernel) (by decide +kernel)
theorem tw_2012 : (Jvm.Cond.methodLink "LitmusTesterModel" (417 : Nat) ({ cls := "LitmusTesterModel", name := "outcomesOf", desc := "(I)V" } : Jvm.MethodName)) ∈ tg_ := tk_8 (i := 201) (by decide +kernel) (by decide +kernel)
theorem tw_2014 : (Jvm.Cond.instanceMethod ({ cls := "LitmusTesterModel", name := "outcomesOf", desc := "(I)V" } : Jvm.MethodName)) ∈ tg_ := tk_8 (i := 203) (by decide +kernel) (by decide +kernel)
theorem tw_2015 : (Jvm.Cond.code ({ cls := "LitmusTesterModel", name := "outcomesOf", desc := "(I)V" } : Jvm.MethodName) prog_14_method_74_code (2 : Nat) (Option.none : Option Jvm.ClassFile.FieldType)) ∈ tg_ := tk_8 (i := 204) (by decide +kernel) (by decide +kernel)
theorem tw_2016 : (Jvm.Cond.methodLink "LitmusTesterModel" (408 : Nat) ({ cls := "LitmusTesterModel", name := "laysProgram", desc := "(II)V" } : Jvm.MethodName)) ∈ tg_ := tk_8 (i := 205) (by decide +kernel) (by decide +kernel)
theorem tw_2018 : (Jvm.Cond.instanceMethod ({ cls := "LitmusTesterModel", name := "laysProgram", desc := "(II)V" } : Jvm.MethodName)) ∈ tg_ := tk_8 (i := 207) (by decide +kernel) (by decide +kernel)
theorem tw_2019 : (Jvm.Cond.code ({ cls := "LitmusTesterModel", name := "laysProgram", desc := "(II)V" } : Jvm.MethodName) prog_14_method_52_code (8 : Nat) (Option.none : Option Jvm.ClassFile.FieldType)) ∈ tg_ := tk_8 (i := 208) (by decide +kernel) (by decide +kernel)
theorem tw_2020 : (Jvm.Cond.methodLink "LitmusTesterModel" (307 : Nat) ({ cls := "LitmusTesterModel", name := "isGap", desc := "(I)Z" } : Jvm.MethodName)) ∈ tg_ := tk_8 (i := 209) (by decide +kernel) (by decide +kernel)
theorem tw_2022 : (Jvm.Cond.instanceMethod ({ cls := "LitmusTesterModel", name := "isGap", desc := "(I)Z" } : Jvm.MethodName)) ∈ tg_ := tk_8 (i := 211) (by decide +kernel) (by decide +kernel)
theorem tw_2023 : (Jvm.Cond.code ({ cls := "LitmusTesterModel", name := "isGap", desc := "(I)Z" } : Jvm.MethodName) prog_14_method_50_code (2 : Nat) (Option.some Jvm.ClassFile.FieldType.boolean)) ∈ tg_ := tk_8 (i := 212) (by decide +kernel) (by decide +kernel)
theorem tw_2024 : (Jvm.Cond.methodLink "LitmusTesterModel" (310 : Nat) ({ cls := "LitmusTesterModel", name := "lays", desc := "(II)V" } : Jvm.MethodName)) ∈ tg_ := tk_8 (i := 213) (by decide +kernel) (by decide +kernel)
theorem tw_2026 : (Jvm.Cond.instanceMethod ({ cls := "LitmusTesterModel", name := "lays", desc := "(II)V" } : Jvm.MethodName)) ∈ tg_ := tk_8 (i := 215) (by decide +kernel) (by decide +kernel)
theorem tw_2027 : (Jvm.Cond.code ({ cls := "LitmusTesterModel", name := "lays", desc := "(II)V" } : Jvm.MethodName) prog_14_method_51_code (3 : Nat) (Option.none : Option Jvm.ClassFile.FieldType)) ∈ tg_ := tk_8 (i := 216) (by decide +kernel) (by decide +kernel)
theorem tw_2028 : (Jvm.Cond.methodLink "LitmusTesterModel" (411 : Nat) ({ cls := "LitmusTesterModel", name := "gathers", desc := "(I)V" } : Jvm.MethodName)) ∈ tg_ := tk_8 (i := 217) (by decide +kernel) (by decide +kernel)
theorem tw_2030 : (Jvm.Cond.instanceMethod ({ cls := "LitmusTesterModel", name := "gathers", desc := "(I)V" } : Jvm.MethodName)) ∈ tg_ := tk_8 (i := 219) (by decide +kernel) (by decide +kernel)
theorem tw_2031 : (Jvm.Cond.code ({ cls := "LitmusTesterModel", name := "gathers", desc := "(I)V" } : Jvm.MethodName) prog_14_method_72_code (3 : Nat) (Option.none : Option Jvm.ClassFile.FieldType)) ∈ tg_ := tk_8 (i := 220) (by decide +kernel) (by decide +kernel)
theorem tw_2032 : (Jvm.Cond.methodLink "LitmusTesterModel" (392 : Nat) ({ cls := "LitmusTesterModel", name := "explores", desc := "(I)V" } : Jvm.MethodName)) ∈ tg_ := tk_8 (i := 221) (by decide +kernel) (by decide +kernel)
theorem tw_2034 : (Jvm.Cond.instanceMethod ({ cls := "LitmusTesterModel", name := "explores", desc := "(I)V" } : Jvm.MethodName)) ∈ tg_ := tk_8 (i := 223) (by decide +kernel) (by decide +kernel)
theorem tw_2035 : (Jvm.Cond.code ({ cls := "LitmusTesterModel", name := "explores", desc := "(I)V" } : Jvm.MethodName) prog_14_method_69_code (6 : Nat) (Option.none : Option Jvm.ClassFile.FieldType)) ∈ tg_ := tk_8 (i := 224) (by decide +kernel) (by decide +kernel)
theorem tw_2036 : (Jvm.Cond.methodLink "LitmusTesterModel" (379 : Nat) ({ cls := "LitmusTesterModel", name := "firstState", desc := "()J" } : Jvm.MethodName)) ∈ tg_ := tk_8 (i := 225) (by decide +kernel) (by decide +kernel)
theorem tw_2038 : (Jvm.Cond.instanceMethod ({ cls := "LitmusTesterModel", name := "firstState", desc := "()J" } : Jvm.MethodName)) ∈ tg_ := tk_8 (i := 227) (by decide +kernel) (by decide +kernel)
theorem tw_2039 : (Jvm.Cond.code ({ cls := "LitmusTesterModel", name := "firstState", desc := "()J" } : Jvm.MethodName) prog_14_method_64_code (4 : Nat) (Option.some Jvm.ClassFile.FieldType.long)) ∈ tg_ := tk_8 (i := 228) (by decide +kernel) (by decide +kernel)
theorem tw_2040 : (Jvm.Cond.methodLink "LitmusTesterModel" (352 : Nat) ({ cls := "LitmusTesterModel", name := "with", desc := "(JII)J" } : Jvm.MethodName)) ∈ tg_ := tk_8 (i := 229) (by decide +kernel) (by decide +kernel)
theorem tw_2041 : (Jvm.Cond.static ({ cls := "LitmusTesterModel", name := "with", desc := "(JII)J" } : Jvm.MethodName)) ∈ tg_ := tk_8 (i := 230) (by decide +kernel) (by decide +kernel)
theorem tw_2042 : (Jvm.Cond.code ({ cls := "LitmusTesterModel", name := "with", desc := "(JII)J" } : Jvm.MethodName) prog_14_method_57_code (4 : Nat) (Option.some Jvm.ClassFile.FieldType.long)) ∈ tg_ := tk_8 (i := 231) (by decide +kernel) (by decide +kernel)
theorem tw_2043 : (Jvm.Cond.constantLong "LitmusTesterModel" (316 : Nat) (3 : Int64)) ∈ tg_ := tk_8 (i := 232) (by decide +kernel) (by decide +kernel)
theorem tw_2044 : (Jvm.Cond.constantLong "LitmusTesterModel" (318 : Nat) (-1 : Int64)) ∈ tg_ := tk_8 (i := 233) (by decide +kernel) (by decide +kernel)
theorem tw_2045 : (Jvm.Cond.methodLink "LitmusTesterModel" (383 : Nat) ({ cls := "LitmusTesterModel", name := "stateOf", desc := "(J)I" } : Jvm.MethodName)) ∈ tg_ := tk_8 (i := 234) (by decide +kernel) (by decide +kernel)
theorem tw_2047 : (Jvm.Cond.instanceMethod ({ cls := "LitmusTesterModel", name := "stateOf", desc := "(J)I" } : Jvm.MethodName)) ∈ tg_ := tk_8 (i := 236) (by decide +kernel) (by decide +kernel)
theorem tw_2048 : (Jvm.Cond.code ({ cls := "LitmusTesterModel", name := "stateOf", desc := "(J)I" } : Jvm.MethodName) prog_14_method_68_code (4 : Nat) (Option.some Jvm.ClassFile.FieldType.int)) ∈ tg_ := tk_8 (i := 237) (by decide +kernel) (by decide +kernel)
theorem tw_2049 : (Jvm.Cond.methodLink "LitmusTesterModel" (372 : Nat) ({ cls := "LitmusTesterModel", name := "slotOf", desc := "(J)I" } : Jvm.MethodName)) ∈ tg_ := tk_8 (i := 238) (by decide +kernel) (by decide +kernel)
theorem tw_2051 : (Jvm.Cond.instanceMethod ({ cls := "LitmusTesterModel", name := "slotOf", desc := "(J)I" } : Jvm.MethodName)) ∈ tg_ := tk_9 (i := 0) (by decide +kernel) (by decide +kernel)
theorem tw_2052 : (Jvm.Cond.code ({ cls := "LitmusTesterModel", name := "slotOf", desc := "(J)I" } : Jvm.MethodName) prog_14_method_67_code (6 : Nat) (Option.some Jvm.ClassFile.FieldType.int)) ∈ tg_ := tk_9 (i := 1) (by decide +kernel) (by decide +kernel)
theorem tw_2053 : (Jvm.Cond.constantLong "LitmusTesterModel" (366 : Nat) (6364136223846793005 : Int64)) ∈ tg_ := tk_9 (i := 2) (by decide +kernel) (by decide +kernel)
theorem tw_2054 : (Jvm.Cond.constant "LitmusTesterModel" (368 : Nat) (65535 : Int32)) ∈ tg_ := tk_9 (i := 3) (by decide +kernel) (by decide +kernel)
theorem tw_2055 : (Jvm.Cond.methodLink "LitmusTesterModel" (386 : Nat) ({ cls := "LitmusTesterModel", name := "canStep", desc := "(JII)Z" } : Jvm.MethodName)) ∈ tg_ := tk_9 (i := 4) (by decide +kernel) (by decide +kernel)
theorem tw_2057 : (Jvm.Cond.instanceMethod ({ cls := "LitmusTesterModel", name := "canStep", desc := "(JII)Z" } : Jvm.MethodName)) ∈ tg_ := tk_9 (i := 6) (by decide +kernel) (by decide +kernel)
theorem tw_2058 : (Jvm.Cond.code ({ cls := "LitmusTesterModel", name := "canStep", desc := "(JII)Z" } : Jvm.MethodName) prog_14_method_61_code (5 : Nat) (Option.some Jvm.ClassFile.FieldType.boolean)) ∈ tg_ := tk_9 (i := 7) (by decide +kernel) (by decide +kernel)
theorem tw_2059 : (Jvm.Cond.methodLink "LitmusTesterModel" (332 : Nat) ({ cls := "LitmusTesterModel", name := "canExecute", desc := "(JI)Z" } : Jvm.MethodName)) ∈ tg_ := tk_9 (i := 8) (by decide +kernel) (by decide +kernel)
theorem tw_2061 : (Jvm.Cond.instanceMethod ({ cls := "LitmusTesterModel", name := "canExecute", desc := "(JI)Z" } : Jvm.MethodName)) ∈ tg_ := tk_9 (i := 10) (by decide +kernel) (by decide +kernel)
theorem tw_2062 : (Jvm.Cond.code ({ cls := "LitmusTesterModel", name := "canExecute", desc := "(JI)Z" } : Jvm.MethodName) prog_14_method_63_code (7 : Nat) (Option.some Jvm.ClassFile.FieldType.boolean)) ∈ tg_ := tk_9 (i := 11) (by decide +kernel) (by decide +kernel)
theorem tw_2063 : (Jvm.Cond.methodLink "LitmusTesterModel" (324 : Nat) ({ cls := "LitmusTesterModel", name := "nextOf", desc := "(JI)I" } : Jvm.MethodName)) ∈ tg_ := tk_9 (i := 12) (by decide +kernel) (by decide +kernel)
theorem tw_2064 : (Jvm.Cond.static ({ cls := "LitmusTesterModel", name := "nextOf", desc := "(JI)I" } : Jvm.MethodName)) ∈ tg_ := tk_9 (i := 13) (by decide +kernel) (by decide +kernel)
theorem tw_2065 : (Jvm.Cond.code ({ cls := "LitmusTesterModel", name := "nextOf", desc := "(JI)I" } : Jvm.MethodName) prog_14_method_53_code (3 : Nat) (Option.some Jvm.ClassFile.FieldType.int)) ∈ tg_ := tk_9 (i := 14) (by decide +kernel) (by decide +kernel)
theorem tw_2066 : (Jvm.Cond.constantLong "LitmusTesterModel" (314 : Nat) (15 : Int64)) ∈ tg_ := tk_9 (i := 15) (by decide +kernel) (by decide +kernel)
theorem tw_2067 : (Jvm.Cond.methodLink "LitmusTesterModel" (342 : Nat) ({ cls := "LitmusTesterModel", name := "waiting", desc := "(JIIZ)I" } : Jvm.MethodName)) ∈ tg_ := tk_9 (i := 16) (by decide +kernel) (by decide +kernel)
theorem tw_2069 : (Jvm.Cond.instanceMethod ({ cls := "LitmusTesterModel", name := "waiting", desc := "(JIIZ)I" } : Jvm.MethodName)) ∈ tg_ := tk_9 (i := 18) (by decide +kernel) (by decide +kernel)
theorem tw_2070 : (Jvm.Cond.code ({ cls := "LitmusTesterModel", name := "waiting", desc := "(JIIZ)I" } : Jvm.MethodName) prog_14_method_59_code (8 : Nat) (Option.some Jvm.ClassFile.FieldType.int)) ∈ tg_ := tk_9 (i := 19) (by decide +kernel) (by decide +kernel)
theorem tw_2071 : (Jvm.Cond.methodLink "LitmusTesterModel" (328 : Nat) ({ cls := "LitmusTesterModel", name := "isWaiting", desc := "(JI)Z" } : Jvm.MethodName)) ∈ tg_ := tk_9 (i := 20) (by decide +kernel) (by decide +kernel)
theorem tw_2072 : (Jvm.Cond.static ({ cls := "LitmusTesterModel", name := "isWaiting", desc := "(JI)Z" } : Jvm.MethodName)) ∈ tg_ := tk_9 (i := 21) (by decide +kernel) (by decide +kernel)
theorem tw_2073 : (Jvm.Cond.code ({ cls := "LitmusTesterModel", name := "isWaiting", desc := "(JI)Z" } : Jvm.MethodName) prog_14_method_56_code (3 : Nat) (Option.some Jvm.ClassFile.FieldType.boolean)) ∈ tg_ := tk_9 (i := 22) (by decide +kernel) (by decide +kernel)
theorem tw_2074 : (Jvm.Cond.methodLink "LitmusTesterModel" (349 : Nat) ({ cls := "LitmusTesterModel", name := "valueOf", desc := "(JII)I" } : Jvm.MethodName)) ∈ tg_ := tk_9 (i := 23) (by decide +kernel) (by decide +kernel)
theorem tw_2076 : (Jvm.Cond.instanceMethod ({ cls := "LitmusTesterModel", name := "valueOf", desc := "(JII)I" } : Jvm.MethodName)) ∈ tg_ := tk_9 (i := 25) (by decide +kernel) (by decide +kernel)
theorem tw_2077 : (Jvm.Cond.code ({ cls := "LitmusTesterModel", name := "valueOf", desc := "(JII)I" } : Jvm.MethodName) prog_14_method_58_code (5 : Nat) (Option.some Jvm.ClassFile.FieldType.int)) ∈ tg_ := tk_9 (i := 26) (by decide +kernel) (by decide +kernel)
theorem tw_2078 : (Jvm.Cond.methodLink "LitmusTesterModel" (320 : Nat) ({ cls := "LitmusTesterModel", name := "registerOf", desc := "(JII)I" } : Jvm.MethodName)) ∈ tg_ := tk_9 (i := 27) (by decide +kernel) (by decide +kernel)
theorem tw_2079 : (Jvm.Cond.static ({ cls := "LitmusTesterModel", name := "registerOf", desc := "(JII)I" } : Jvm.MethodName)) ∈ tg_ := tk_9 (i := 28) (by decide +kernel) (by decide +kernel)
theorem tw_2080 : (Jvm.Cond.code ({ cls := "LitmusTesterModel", name := "registerOf", desc := "(JII)I" } : Jvm.MethodName) prog_14_method_54_code (4 : Nat) (Option.some Jvm.ClassFile.FieldType.int)) ∈ tg_ := tk_9 (i := 29) (by decide +kernel) (by decide +kernel)
theorem tw_2081 : (Jvm.Cond.methodLink "LitmusTesterModel" (363 : Nat) ({ cls := "LitmusTesterModel", name := "memoryOf", desc := "(JI)I" } : Jvm.MethodName)) ∈ tg_ := tk_9 (i := 30) (by decide +kernel) (by decide +kernel)
theorem tw_2082 : (Jvm.Cond.static ({ cls := "LitmusTesterModel", name := "memoryOf", desc := "(JI)I" } : Jvm.MethodName)) ∈ tg_ := tk_9 (i := 31) (by decide +kernel) (by decide +kernel)
theorem tw_2083 : (Jvm.Cond.code ({ cls := "LitmusTesterModel", name := "memoryOf", desc := "(JI)I" } : Jvm.MethodName) prog_14_method_55_code (3 : Nat) (Option.some Jvm.ClassFile.FieldType.int)) ∈ tg_ := tk_9 (i := 32) (by decide +kernel) (by decide +kernel)
theorem tw_2084 : (Jvm.Cond.methodLink "LitmusTesterModel" (338 : Nat) ({ cls := "LitmusTesterModel", name := "canCommit", desc := "(JII)Z" } : Jvm.MethodName)) ∈ tg_ := tk_9 (i := 33) (by decide +kernel) (by decide +kernel)
theorem tw_2086 : (Jvm.Cond.instanceMethod ({ cls := "LitmusTesterModel", name := "canCommit", desc := "(JII)Z" } : Jvm.MethodName)) ∈ tg_ := tk_9 (i := 35) (by decide +kernel) (by decide +kernel)
theorem tw_2087 : (Jvm.Cond.code ({ cls := "LitmusTesterModel", name := "canCommit", desc := "(JII)Z" } : Jvm.MethodName) prog_14_method_62_code (6 : Nat) (Option.some Jvm.ClassFile.FieldType.boolean)) ∈ tg_ := tk_9 (i := 36) (by decide +kernel) (by decide +kernel)
theorem tw_2088 : (Jvm.Cond.methodLink "LitmusTesterModel" (398 : Nat) ({ cls := "LitmusTesterModel", name := "isFinal", desc := "(J)Z" } : Jvm.MethodName)) ∈ tg_ := tk_9 (i := 37) (by decide +kernel) (by decide +kernel)
theorem tw_2090 : (Jvm.Cond.instanceMethod ({ cls := "LitmusTesterModel", name := "isFinal", desc := "(J)Z" } : Jvm.MethodName)) ∈ tg_ := tk_9 (i := 39) (by decide +kernel) (by decide +kernel)
theorem tw_2091 : (Jvm.Cond.code ({ cls := "LitmusTesterModel", name := "isFinal", desc := "(J)Z" } : Jvm.MethodName) prog_14_method_65_code (4 : Nat) (Option.some Jvm.ClassFile.FieldType.boolean)) ∈ tg_ := tk_9 (i := 40) (by decide +kernel) (by decide +kernel)
theorem tw_2092 : (Jvm.Cond.methodLink "LitmusTesterModel" (402 : Nat) ({ cls := "LitmusTesterModel", name := "codeOf", desc := "(J)I" } : Jvm.MethodName)) ∈ tg_ := tk_9 (i := 41) (by decide +kernel) (by decide +kernel)
theorem tw_2094 : (Jvm.Cond.instanceMethod ({ cls := "LitmusTesterModel", name := "codeOf", desc := "(J)I" } : Jvm.MethodName)) ∈ tg_ := tk_9 (i := 43) (by decide +kernel) (by decide +kernel)
theorem tw_2095 : (Jvm.Cond.code ({ cls := "LitmusTesterModel", name := "codeOf", desc := "(J)I" } : Jvm.MethodName) prog_14_method_66_code (5 : Nat) (Option.some Jvm.ClassFile.FieldType.int)) ∈ tg_ := tk_9 (i := 44) (by decide +kernel) (by decide +kernel)
theorem tw_2096 : (Jvm.Cond.methodLink "LitmusTesterModel" (405 : Nat) ({ cls := "LitmusTesterModel", name := "sinks", desc := "(II)V" } : Jvm.MethodName)) ∈ tg_ := tk_9 (i := 45) (by decide +kernel) (by decide +kernel)
theorem tw_2098 : (Jvm.Cond.instanceMethod ({ cls := "LitmusTesterModel", name := "sinks", desc := "(II)V" } : Jvm.MethodName)) ∈ tg_ := tk_9 (i := 47) (by decide +kernel) (by decide +kernel)
theorem tw_2099 : (Jvm.Cond.code ({ cls := "LitmusTesterModel", name := "sinks", desc := "(II)V" } : Jvm.MethodName) prog_14_method_70_code (6 : Nat) (Option.none : Option Jvm.ClassFile.FieldType)) ∈ tg_ := tk_9 (i := 48) (by decide +kernel) (by decide +kernel)
theorem tw_2100 : (Jvm.Cond.methodLink "LitmusTesterModel" (389 : Nat) ({ cls := "LitmusTesterModel", name := "swaps", desc := "(II)V" } : Jvm.MethodName)) ∈ tg_ := tk_9 (i := 49) (by decide +kernel) (by decide +kernel)
theorem tw_2102 : (Jvm.Cond.instanceMethod ({ cls := "LitmusTesterModel", name := "swaps", desc := "(II)V" } : Jvm.MethodName)) ∈ tg_ := tk_9 (i := 51) (by decide +kernel) (by decide +kernel)
theorem tw_2103 : (Jvm.Cond.code ({ cls := "LitmusTesterModel", name := "swaps", desc := "(II)V" } : Jvm.MethodName) prog_14_method_71_code (6 : Nat) (Option.none : Option Jvm.ClassFile.FieldType)) ∈ tg_ := tk_9 (i := 52) (by decide +kernel) (by decide +kernel)
theorem tw_2112 : (Jvm.Cond.methodLink "LitmusTesterModel" (420 : Nat) ({ cls := "LitmusTesterModel", name := "find", desc := "(I)I" } : Jvm.MethodName)) ∈ tg_ := tk_9 (i := 61) (by decide +kernel) (by decide +kernel)
theorem tw_2114 : (Jvm.Cond.instanceMethod ({ cls := "LitmusTesterModel", name := "find", desc := "(I)I" } : Jvm.MethodName)) ∈ tg_ := tk_9 (i := 63) (by decide +kernel) (by decide +kernel)
theorem tw_2115 : (Jvm.Cond.code ({ cls := "LitmusTesterModel", name := "find", desc := "(I)I" } : Jvm.MethodName) prog_14_method_75_code (3 : Nat) (Option.some Jvm.ClassFile.FieldType.int)) ∈ tg_ := tk_9 (i := 64) (by decide +kernel) (by decide +kernel)
theorem tw_2120 : (Jvm.Cond.methodLink "LitmusTesterModel" (426 : Nat) ({ cls := "LitmusTesterModel", name := "keepsOthers", desc := "()V" } : Jvm.MethodName)) ∈ tg_ := tk_9 (i := 69) (by decide +kernel) (by decide +kernel)
theorem tw_2122 : (Jvm.Cond.instanceMethod ({ cls := "LitmusTesterModel", name := "keepsOthers", desc := "()V" } : Jvm.MethodName)) ∈ tg_ := tk_9 (i := 71) (by decide +kernel) (by decide +kernel)
theorem tw_2123 : (Jvm.Cond.code ({ cls := "LitmusTesterModel", name := "keepsOthers", desc := "()V" } : Jvm.MethodName) prog_14_method_79_code (2 : Nat) (Option.none : Option Jvm.ClassFile.FieldType)) ∈ tg_ := tk_9 (i := 72) (by decide +kernel) (by decide +kernel)
theorem tw_2128 : (Jvm.Cond.methodLink "LitmusTesterModel" (429 : Nat) ({ cls := "LitmusTesterModel", name := "digits", desc := "()I" } : Jvm.MethodName)) ∈ tg_ := tk_9 (i := 77) (by decide +kernel) (by decide +kernel)
theorem tw_2130 : (Jvm.Cond.instanceMethod ({ cls := "LitmusTesterModel", name := "digits", desc := "()I" } : Jvm.MethodName)) ∈ tg_ := tk_9 (i := 79) (by decide +kernel) (by decide +kernel)
theorem tw_2131 : (Jvm.Cond.code ({ cls := "LitmusTesterModel", name := "digits", desc := "()I" } : Jvm.MethodName) prog_14_method_81_code (1 : Nat) (Option.some Jvm.ClassFile.FieldType.int)) ∈ tg_ := tk_9 (i := 80) (by decide +kernel) (by decide +kernel)
theorem tw_2132 : (Jvm.Cond.methodLink "LitmusTesterModel" (435 : Nat) ({ cls := "LitmusTesterModel", name := "holds", desc := "(I)Z" } : Jvm.MethodName)) ∈ tg_ := tk_9 (i := 81) (by decide +kernel) (by decide +kernel)
theorem tw_2134 : (Jvm.Cond.instanceMethod ({ cls := "LitmusTesterModel", name := "holds", desc := "(I)Z" } : Jvm.MethodName)) ∈ tg_ := tk_9 (i := 83) (by decide +kernel) (by decide +kernel)
theorem tw_2135 : (Jvm.Cond.code ({ cls := "LitmusTesterModel", name := "holds", desc := "(I)Z" } : Jvm.MethodName) prog_14_method_83_code (6 : Nat) (Option.some Jvm.ClassFile.FieldType.boolean)) ∈ tg_ := tk_9 (i := 84) (by decide +kernel) (by decide +kernel)
theorem tw_2136 : (Jvm.Cond.methodLink "LitmusTesterModel" (432 : Nat) ({ cls := "LitmusTesterModel", name := "digitOf", desc := "(II)I" } : Jvm.MethodName)) ∈ tg_ := tk_9 (i := 85) (by decide +kernel) (by decide +kernel)
theorem tw_2138 : (Jvm.Cond.instanceMethod ({ cls := "LitmusTesterModel", name := "digitOf", desc := "(II)I" } : Jvm.MethodName)) ∈ tg_ := tk_9 (i := 87) (by decide +kernel) (by decide +kernel)
theorem tw_2139 : (Jvm.Cond.code ({ cls := "LitmusTesterModel", name := "digitOf", desc := "(II)I" } : Jvm.MethodName) prog_14_method_82_code (3 : Nat) (Option.some Jvm.ClassFile.FieldType.int)) ∈ tg_ := tk_9 (i := 88) (by decide +kernel) (by decide +kernel)
theorem tw_2144 : (Jvm.Cond.methodLink "LitmusTesterModel" (438 : Nat) ({ cls := "LitmusTesterModel", name := "matches", desc := "()I" } : Jvm.MethodName)) ∈ tg_ := tk_9 (i := 93) (by decide +kernel) (by decide +kernel)
theorem tw_2146 : (Jvm.Cond.instanceMethod ({ cls := "LitmusTesterModel", name := "matches", desc := "()I" } : Jvm.MethodName)) ∈ tg_ := tk_9 (i := 95) (by decide +kernel) (by decide +kernel)
theorem tw_2147 : (Jvm.Cond.code ({ cls := "LitmusTesterModel", name := "matches", desc := "()I" } : Jvm.MethodName) prog_14_method_85_code (3 : Nat) (Option.some Jvm.ClassFile.FieldType.int)) ∈ tg_ := tk_9 (i := 96) (by decide +kernel) (by decide +kernel)
theorem tw_2168 : (Jvm.Cond.methodLink "LitmusTesterModel" (441 : Nat) ({ cls := "LitmusTesterModel", name := "reads", desc := "(I)Z" } : Jvm.MethodName)) ∈ tg_ := tk_9 (i := 117) (by decide +kernel) (by decide +kernel)
theorem tw_2170 : (Jvm.Cond.instanceMethod ({ cls := "LitmusTesterModel", name := "reads", desc := "(I)Z" } : Jvm.MethodName)) ∈ tg_ := tk_9 (i := 119) (by decide +kernel) (by decide +kernel)
theorem tw_2171 : (Jvm.Cond.code ({ cls := "LitmusTesterModel", name := "reads", desc := "(I)Z" } : Jvm.MethodName) prog_14_method_91_code (2 : Nat) (Option.some Jvm.ClassFile.FieldType.boolean)) ∈ tg_ := tk_9 (i := 120) (by decide +kernel) (by decide +kernel)
theorem tw_2172 : (Jvm.Cond.methodLink "LitmusTesterModel" (444 : Nat) ({ cls := "LitmusTesterModel", name := "laidAt", desc := "(I)I" } : Jvm.MethodName)) ∈ tg_ := tk_9 (i := 121) (by decide +kernel) (by decide +kernel)
theorem tw_2174 : (Jvm.Cond.instanceMethod ({ cls := "LitmusTesterModel", name := "laidAt", desc := "(I)I" } : Jvm.MethodName)) ∈ tg_ := tk_9 (i := 123) (by decide +kernel) (by decide +kernel)
theorem tw_2175 : (Jvm.Cond.code ({ cls := "LitmusTesterModel", name := "laidAt", desc := "(I)I" } : Jvm.MethodName) prog_14_method_92_code (3 : Nat) (Option.some Jvm.ClassFile.FieldType.int)) ∈ tg_ := tk_9 (i := 124) (by decide +kernel) (by decide +kernel)
theorem tw_2184 : (Jvm.Cond.methodLink "LitmusTesterModel" (447 : Nat) ({ cls := "LitmusTesterModel", name := "waitingMany", desc := "(JI)I" } : Jvm.MethodName)) ∈ tg_ := tk_9 (i := 133) (by decide +kernel) (by decide +kernel)
theorem tw_2186 : (Jvm.Cond.instanceMethod ({ cls := "LitmusTesterModel", name := "waitingMany", desc := "(JI)I" } : Jvm.MethodName)) ∈ tg_ := tk_9 (i := 135) (by decide +kernel) (by decide +kernel)
theorem tw_2187 : (Jvm.Cond.code ({ cls := "LitmusTesterModel", name := "waitingMany", desc := "(JI)I" } : Jvm.MethodName) prog_14_method_60_code (6 : Nat) (Option.some Jvm.ClassFile.FieldType.int)) ∈ tg_ := tk_9 (i := 136) (by decide +kernel) (by decide +kernel)
theorem tw_2188 : (Jvm.Cond.methodLink "LitmusTesterModel" (450 : Nat) ({ cls := "java/lang/Math", name := "max", desc := "(II)I" } : Jvm.MethodName)) ∈ tg_ := tk_9 (i := 137) (by decide +kernel) (by decide +kernel)
theorem tw_2193 : (Jvm.Cond.methodLink "LitmusTesterModel" (458 : Nat) ({ cls := "LitmusTesterModel", name := "race", desc := "(II)Z" } : Jvm.MethodName)) ∈ tg_ := tk_9 (i := 142) (by decide +kernel) (by decide +kernel)
theorem tw_2195 : (Jvm.Cond.instanceMethod ({ cls := "LitmusTesterModel", name := "race", desc := "(II)Z" } : Jvm.MethodName)) ∈ tg_ := tk_9 (i := 144) (by decide +kernel) (by decide +kernel)
theorem tw_2196 : (Jvm.Cond.code ({ cls := "LitmusTesterModel", name := "race", desc := "(II)Z" } : Jvm.MethodName) prog_14_method_97_code (8 : Nat) (Option.some Jvm.ClassFile.FieldType.boolean)) ∈ tg_ := tk_9 (i := 145) (by decide +kernel) (by decide +kernel)
theorem tw_2197 : (Jvm.Cond.methodLink "LitmusTesterModel" (455 : Nat) ({ cls := "LitmusTesterModel", name := "conflict", desc := "(II)Z" } : Jvm.MethodName)) ∈ tg_ := tk_9 (i := 146) (by decide +kernel) (by decide +kernel)
theorem tw_2199 : (Jvm.Cond.instanceMethod ({ cls := "LitmusTesterModel", name := "conflict", desc := "(II)Z" } : Jvm.MethodName)) ∈ tg_ := tk_9 (i := 148) (by decide +kernel) (by decide +kernel)
theorem tw_2200 : (Jvm.Cond.code ({ cls := "LitmusTesterModel", name := "conflict", desc := "(II)Z" } : Jvm.MethodName) prog_14_method_96_code (3 : Nat) (Option.some Jvm.ClassFile.FieldType.boolean)) ∈ tg_ := tk_9 (i := 149) (by decide +kernel) (by decide +kernel)
theorem tw_2209 : (Jvm.Cond.methodLink "LitmusTesterModel" (461 : Nat) ({ cls := "LitmusTesterModel", name := "gapMany", desc := "()I" } : Jvm.MethodName)) ∈ tg_ := tk_9 (i := 158) (by decide +kernel) (by decide +kernel)
theorem tw_2211 : (Jvm.Cond.instanceMethod ({ cls := "LitmusTesterModel", name := "gapMany", desc := "()I" } : Jvm.MethodName)) ∈ tg_ := tk_9 (i := 160) (by decide +kernel) (by decide +kernel)
theorem tw_2212 : (Jvm.Cond.code ({ cls := "LitmusTesterModel", name := "gapMany", desc := "()I" } : Jvm.MethodName) prog_14_method_100_code (3 : Nat) (Option.some Jvm.ClassFile.FieldType.int)) ∈ tg_ := tk_9 (i := 161) (by decide +kernel) (by decide +kernel)
theorem tw_2217 : (Jvm.Cond.methodLink "LitmusTesterModel" (464 : Nat) ({ cls := "LitmusTesterModel", name := "gapAt", desc := "(I)I" } : Jvm.MethodName)) ∈ tg_ := tk_9 (i := 166) (by decide +kernel) (by decide +kernel)
theorem tw_2219 : (Jvm.Cond.instanceMethod ({ cls := "LitmusTesterModel", name := "gapAt", desc := "(I)I" } : Jvm.MethodName)) ∈ tg_ := tk_9 (i := 168) (by decide +kernel) (by decide +kernel)
theorem tw_2220 : (Jvm.Cond.code ({ cls := "LitmusTesterModel", name := "gapAt", desc := "(I)I" } : Jvm.MethodName) prog_14_method_101_code (4 : Nat) (Option.some Jvm.ClassFile.FieldType.int)) ∈ tg_ := tk_9 (i := 169) (by decide +kernel) (by decide +kernel)
theorem tw_2229 : (Jvm.Cond.methodLink "LitmusTesterModel" (473 : Nat) ({ cls := "LitmusTesterModel", name := "fewest", desc := "(IZ)I" } : Jvm.MethodName)) ∈ tg_ := tk_9 (i := 178) (by decide +kernel) (by decide +kernel)
theorem tw_2231 : (Jvm.Cond.instanceMethod ({ cls := "LitmusTesterModel", name := "fewest", desc := "(IZ)I" } : Jvm.MethodName)) ∈ tg_ := tk_9 (i := 180) (by decide +kernel) (by decide +kernel)
theorem tw_2232 : (Jvm.Cond.code ({ cls := "LitmusTesterModel", name := "fewest", desc := "(IZ)I" } : Jvm.MethodName) prog_14_method_107_code (6 : Nat) (Option.some Jvm.ClassFile.FieldType.int)) ∈ tg_ := tk_9 (i := 181) (by decide +kernel) (by decide +kernel)
theorem tw_2233 : (Jvm.Cond.methodLink "LitmusTesterModel" (467 : Nat) ({ cls := "LitmusTesterModel", name := "bitsOf", desc := "(I)I" } : Jvm.MethodName)) ∈ tg_ := tk_9 (i := 182) (by decide +kernel) (by decide +kernel)
theorem tw_2234 : (Jvm.Cond.static ({ cls := "LitmusTesterModel", name := "bitsOf", desc := "(I)I" } : Jvm.MethodName)) ∈ tg_ := tk_9 (i := 183) (by decide +kernel) (by decide +kernel)
theorem tw_2235 : (Jvm.Cond.code ({ cls := "LitmusTesterModel", name := "bitsOf", desc := "(I)I" } : Jvm.MethodName) prog_14_method_105_code (3 : Nat) (Option.some Jvm.ClassFile.FieldType.int)) ∈ tg_ := tk_9 (i := 184) (by decide +kernel) (by decide +kernel)
theorem tw_2236 : (Jvm.Cond.methodLink "LitmusTesterModel" (470 : Nat) ({ cls := "LitmusTesterModel", name := "areOthers", desc := "()Z" } : Jvm.MethodName)) ∈ tg_ := tk_9 (i := 185) (by decide +kernel) (by decide +kernel)
theorem tw_2238 : (Jvm.Cond.instanceMethod ({ cls := "LitmusTesterModel", name := "areOthers", desc := "()Z" } : Jvm.MethodName)) ∈ tg_ := tk_9 (i := 187) (by decide +kernel) (by decide +kernel)
theorem tw_2239 : (Jvm.Cond.code ({ cls := "LitmusTesterModel", name := "areOthers", desc := "()Z" } : Jvm.MethodName) prog_14_method_106_code (2 : Nat) (Option.some Jvm.ClassFile.FieldType.boolean)) ∈ tg_ := tk_9 (i := 188) (by decide +kernel) (by decide +kernel)
theorem tw_2248 : (Jvm.Cond.methodLink "LitmusTesterModel" (476 : Nat) ({ cls := "LitmusTesterModel", name := "isFence", desc := "(I)Z" } : Jvm.MethodName)) ∈ tg_ := tk_9 (i := 197) (by decide +kernel) (by decide +kernel)
theorem tw_2250 : (Jvm.Cond.instanceMethod ({ cls := "LitmusTesterModel", name := "isFence", desc := "(I)Z" } : Jvm.MethodName)) ∈ tg_ := tk_9 (i := 199) (by decide +kernel) (by decide +kernel)
theorem tw_2251 : (Jvm.Cond.code ({ cls := "LitmusTesterModel", name := "isFence", desc := "(I)Z" } : Jvm.MethodName) prog_14_method_110_code (2 : Nat) (Option.some Jvm.ClassFile.FieldType.boolean)) ∈ tg_ := tk_9 (i := 200) (by decide +kernel) (by decide +kernel)
theorem tw_2256 : (Jvm.Cond.methodLink "LitmusTesterModel" (479 : Nat) ({ cls := "LitmusTesterModel", name := "remembers", desc := "()V" } : Jvm.MethodName)) ∈ tg_ := tk_9 (i := 205) (by decide +kernel) (by decide +kernel)
theorem tw_2258 : (Jvm.Cond.instanceMethod ({ cls := "LitmusTesterModel", name := "remembers", desc := "()V" } : Jvm.MethodName)) ∈ tg_ := tk_9 (i := 207) (by decide +kernel) (by decide +kernel)
theorem tw_2259 : (Jvm.Cond.code ({ cls := "LitmusTesterModel", name := "remembers", desc := "()V" } : Jvm.MethodName) prog_14_method_12_code (2 : Nat) (Option.none : Option Jvm.ClassFile.FieldType)) ∈ tg_ := tk_9 (i := 208) (by decide +kernel) (by decide +kernel)
theorem tw_2268 : (Jvm.Cond.methodLink "LitmusTesterModel" (491 : Nat) ({ cls := "LitmusTesterModel", name := "leastStep", desc := "(J)J" } : Jvm.MethodName)) ∈ tg_ := tk_9 (i := 217) (by decide +kernel) (by decide +kernel)
theorem tw_2270 : (Jvm.Cond.instanceMethod ({ cls := "LitmusTesterModel", name := "leastStep", desc := "(J)J" } : Jvm.MethodName)) ∈ tg_ := tk_9 (i := 219) (by decide +kernel) (by decide +kernel)
theorem tw_2271 : (Jvm.Cond.code ({ cls := "LitmusTesterModel", name := "leastStep", desc := "(J)J" } : Jvm.MethodName) prog_14_method_116_code (5 : Nat) (Option.some Jvm.ClassFile.FieldType.long)) ∈ tg_ := tk_9 (i := 220) (by decide +kernel) (by decide +kernel)
theorem tw_2272 : (Jvm.Cond.methodLink "LitmusTesterModel" (488 : Nat) ({ cls := "LitmusTesterModel", name := "takes", desc := "(II)V" } : Jvm.MethodName)) ∈ tg_ := tk_9 (i := 221) (by decide +kernel) (by decide +kernel)
theorem tw_2274 : (Jvm.Cond.instanceMethod ({ cls := "LitmusTesterModel", name := "takes", desc := "(II)V" } : Jvm.MethodName)) ∈ tg_ := tk_9 (i := 223) (by decide +kernel) (by decide +kernel)
theorem tw_2275 : (Jvm.Cond.code ({ cls := "LitmusTesterModel", name := "takes", desc := "(II)V" } : Jvm.MethodName) prog_14_method_115_code (4 : Nat) (Option.none : Option Jvm.ClassFile.FieldType)) ∈ tg_ := tk_9 (i := 224) (by decide +kernel) (by decide +kernel)
theorem tw_2276 : (Jvm.Cond.methodLink "LitmusTesterModel" (485 : Nat) ({ cls := "LitmusTesterModel", name := "writes", desc := "(II)V" } : Jvm.MethodName)) ∈ tg_ := tk_9 (i := 225) (by decide +kernel) (by decide +kernel)
theorem tw_2278 : (Jvm.Cond.instanceMethod ({ cls := "LitmusTesterModel", name := "writes", desc := "(II)V" } : Jvm.MethodName)) ∈ tg_ := tk_9 (i := 227) (by decide +kernel) (by decide +kernel)
theorem tw_2279 : (Jvm.Cond.code ({ cls := "LitmusTesterModel", name := "writes", desc := "(II)V" } : Jvm.MethodName) prog_14_method_114_code (3 : Nat) (Option.none : Option Jvm.ClassFile.FieldType)) ∈ tg_ := tk_9 (i := 228) (by decide +kernel) (by decide +kernel)
theorem tw_2296 : (Jvm.Cond.methodLink "LitmusTesterModel" (503 : Nat) ({ cls := "LitmusTesterModel", name := "printsText", desc := "(Ljava/lang/String;)V" } : Jvm.MethodName)) ∈ tg_ := tk_10 (i := 5) (by decide +kernel) (by decide +kernel)
theorem tw_2298 : (Jvm.Cond.instanceMethod ({ cls := "LitmusTesterModel", name := "printsText", desc := "(Ljava/lang/String;)V" } : Jvm.MethodName)) ∈ tg_ := tk_10 (i := 7) (by decide +kernel) (by decide +kernel)
theorem tw_2299 : (Jvm.Cond.code ({ cls := "LitmusTesterModel", name := "printsText", desc := "(Ljava/lang/String;)V" } : Jvm.MethodName) prog_14_method_122_code (3 : Nat) (Option.none : Option Jvm.ClassFile.FieldType)) ∈ tg_ := tk_10 (i := 8) (by decide +kernel) (by decide +kernel)
theorem tw_2300 : (Jvm.Cond.methodLink "LitmusTesterModel" (498 : Nat) ({ cls := "LitmusTesterModel", name := "prints", desc := "(I)V" } : Jvm.MethodName)) ∈ tg_ := tk_10 (i := 9) (by decide +kernel) (by decide +kernel)
theorem tw_2302 : (Jvm.Cond.instanceMethod ({ cls := "LitmusTesterModel", name := "prints", desc := "(I)V" } : Jvm.MethodName)) ∈ tg_ := tk_10 (i := 11) (by decide +kernel) (by decide +kernel)
theorem tw_2303 : (Jvm.Cond.code ({ cls := "LitmusTesterModel", name := "prints", desc := "(I)V" } : Jvm.MethodName) prog_14_method_121_code (2 : Nat) (Option.none : Option Jvm.ClassFile.FieldType)) ∈ tg_ := tk_10 (i := 12) (by decide +kernel) (by decide +kernel)
theorem tw_2304 : (Jvm.Cond.methodLink "LitmusTesterModel" (510 : Nat) ({ cls := "LitmusTesterModel", name := "printsName", desc := "(I)V" } : Jvm.MethodName)) ∈ tg_ := tk_10 (i := 13) (by decide +kernel) (by decide +kernel)
theorem tw_2306 : (Jvm.Cond.instanceMethod ({ cls := "LitmusTesterModel", name := "printsName", desc := "(I)V" } : Jvm.MethodName)) ∈ tg_ := tk_10 (i := 15) (by decide +kernel) (by decide +kernel)
theorem tw_2307 : (Jvm.Cond.code ({ cls := "LitmusTesterModel", name := "printsName", desc := "(I)V" } : Jvm.MethodName) prog_14_method_123_code (3 : Nat) (Option.none : Option Jvm.ClassFile.FieldType)) ∈ tg_ := tk_10 (i := 16) (by decide +kernel) (by decide +kernel)
theorem tw_2309 : (Jvm.Cond.methodLink "LitmusTesterModel" (515 : Nat) ({ cls := "LitmusTesterModel", name := "printsInstruction", desc := "(I)V" } : Jvm.MethodName)) ∈ tg_ := tk_10 (i := 18) (by decide +kernel) (by decide +kernel)
theorem tw_2311 : (Jvm.Cond.instanceMethod ({ cls := "LitmusTesterModel", name := "printsInstruction", desc := "(I)V" } : Jvm.MethodName)) ∈ tg_ := tk_10 (i := 20) (by decide +kernel) (by decide +kernel)
theorem tw_2312 : (Jvm.Cond.code ({ cls := "LitmusTesterModel", name := "printsInstruction", desc := "(I)V" } : Jvm.MethodName) prog_14_method_125_code (2 : Nat) (Option.none : Option Jvm.ClassFile.FieldType)) ∈ tg_ := tk_10 (i := 21) (by decide +kernel) (by decide +kernel)
theorem tw_2313 : (Jvm.Cond.methodLink "LitmusTesterModel" (507 : Nat) ({ cls := "LitmusTesterModel", name := "printsRegister", desc := "(I)V" } : Jvm.MethodName)) ∈ tg_ := tk_10 (i := 22) (by decide +kernel) (by decide +kernel)
theorem tw_2315 : (Jvm.Cond.instanceMethod ({ cls := "LitmusTesterModel", name := "printsRegister", desc := "(I)V" } : Jvm.MethodName)) ∈ tg_ := tk_10 (i := 24) (by decide +kernel) (by decide +kernel)
theorem tw_2316 : (Jvm.Cond.code ({ cls := "LitmusTesterModel", name := "printsRegister", desc := "(I)V" } : Jvm.MethodName) prog_14_method_124_code (2 : Nat) (Option.none : Option Jvm.ClassFile.FieldType)) ∈ tg_ := tk_10 (i := 25) (by decide +kernel) (by decide +kernel)
theorem tw_2343 : (Jvm.Cond.fieldLink "java/lang/String" (9 : Nat) "java/lang/String" "value" "[B") ∈ tg_ := tk_10 (i := 52) (by decide +kernel) (by decide +kernel)
theorem tw_2344 : (Jvm.Cond.fieldLink "java/lang/String" (15 : Nat) "java/lang/String" "coder" "B") ∈ tg_ := tk_10 (i := 53) (by decide +kernel) (by decide +kernel)
theorem cm_X1_forget : m_X1_forget.1.cls ≠ "java/lang/invoke/MethodHandle" ∧ m_X1_forget.1.cls ≠ "java/lang/invoke/VarHandle" ∧ (parseMethodDescriptor m_X1_forget.1.desc).map (fun d => d.parameters.length) = some 0 := by decide +kernel
theorem cV_LitmusTester_Explanation_36 : cV_ "LitmusTester$Explanation" 36 m_X1_forget 0 1 := ⟨rfl, ⟨tw_1577, tw_143, tw_828, cm_X1_forget, Nat.le_of_ble_eq_true rfl⟩, tw_826, tw_827, _, rfl, rfl⟩
theorem cm_X4_next : m_X4_next.1.cls ≠ "java/lang/invoke/MethodHandle" ∧ m_X4_next.1.cls ≠ "java/lang/invoke/VarHandle" ∧ (parseMethodDescriptor m_X4_next.1.desc).map (fun d => d.parameters.length) = some 2 := by decide +kernel
theorem cV_LitmusTester_Explanation_49 : cV_ "LitmusTester$Explanation" 49 m_X4_next 2 4 := ⟨rfl, ⟨tw_1587, tw_139, tw_1244, cm_X4_next, Nat.le_of_ble_eq_true rfl⟩, tw_1242, tw_1243, _, rfl, rfl⟩
theorem cm_X7_property : m_X7_property.1.cls ≠ "java/lang/invoke/MethodHandle" ∧ m_X7_property.1.cls ≠ "java/lang/invoke/VarHandle" ∧ (parseMethodDescriptor m_X7_property.1.desc).map (fun d => d.parameters.length) = some 2 := by decide +kernel
theorem cV_LitmusTester_Explanation_53 : cV_ "LitmusTester$Explanation" 53 m_X7_property 2 7 := ⟨rfl, ⟨tw_1588, tw_134, tw_705, cm_X7_property, Nat.le_of_ble_eq_true rfl⟩, tw_703, tw_704, _, rfl, rfl⟩
theorem cm_X1_addWriter : m_X1_addWriter.1.cls ≠ "java/lang/invoke/MethodHandle" ∧ m_X1_addWriter.1.cls ≠ "java/lang/invoke/VarHandle" ∧ (parseMethodDescriptor m_X1_addWriter.1.desc).map (fun d => d.parameters.length) = some 1 := by decide +kernel
theorem cV_LitmusTester_Explanation_45 : cV_ "LitmusTester$Explanation" 45 m_X1_addWriter 1 1 := ⟨rfl, ⟨tw_1583, tw_143, tw_1586, cm_X1_addWriter, Nat.le_of_ble_eq_true rfl⟩, tw_1585, tw_54, _, rfl, rfl⟩
theorem cm_X4_isUnbuffered : m_X4_isUnbuffered.1.cls ≠ "java/lang/invoke/MethodHandle" ∧ m_X4_isUnbuffered.1.cls ≠ "java/lang/invoke/VarHandle" ∧ (parseMethodDescriptor m_X4_isUnbuffered.1.desc).map (fun d => d.parameters.length) = some 0 := by decide +kernel
theorem cV_LitmusTester_Explanation_66 : cV_ "LitmusTester$Explanation" 66 m_X4_isUnbuffered 0 4 := ⟨rfl, ⟨tw_1594, tw_139, tw_1597, cm_X4_isUnbuffered, Nat.le_of_ble_eq_true rfl⟩, tw_1595, tw_1596, _, rfl, rfl⟩
theorem cm_X4_forwarding : m_X4_forwarding.1.cls ≠ "java/lang/invoke/MethodHandle" ∧ m_X4_forwarding.1.cls ≠ "java/lang/invoke/VarHandle" ∧ (parseMethodDescriptor m_X4_forwarding.1.desc).map (fun d => d.parameters.length) = some 3 := by decide +kernel
theorem cV_LitmusTester_Explanation_59 : cV_ "LitmusTester$Explanation" 59 m_X4_forwarding 3 4 := ⟨rfl, ⟨tw_1589, tw_139, tw_1275, cm_X4_forwarding, Nat.le_of_ble_eq_true rfl⟩, tw_1273, tw_1274, _, rfl, rfl⟩
theorem cm_X1_latestWriter : m_X1_latestWriter.1.cls ≠ "java/lang/invoke/MethodHandle" ∧ m_X1_latestWriter.1.cls ≠ "java/lang/invoke/VarHandle" ∧ (parseMethodDescriptor m_X1_latestWriter.1.desc).map (fun d => d.parameters.length) = some 1 := by decide +kernel
theorem cV_LitmusTester_Explanation_62 : cV_ "LitmusTester$Explanation" 62 m_X1_latestWriter 1 1 := ⟨rfl, ⟨tw_1590, tw_143, tw_1593, cm_X1_latestWriter, Nat.le_of_ble_eq_true rfl⟩, tw_1592, tw_55, _, rfl, rfl⟩
theorem cm_X4_committed : m_X4_committed.1.cls ≠ "java/lang/invoke/MethodHandle" ∧ m_X4_committed.1.cls ≠ "java/lang/invoke/VarHandle" ∧ (parseMethodDescriptor m_X4_committed.1.desc).map (fun d => d.parameters.length) = some 3 := by decide +kernel
theorem cV_LitmusTester_Explanation_39 : cV_ "LitmusTester$Explanation" 39 m_X4_committed 3 4 := ⟨rfl, ⟨tw_1582, tw_139, tw_1248, cm_X4_committed, Nat.le_of_ble_eq_true rfl⟩, tw_1246, tw_1247, _, rfl, rfl⟩
theorem cm_X4_prepare : m_X4_prepare.1.cls ≠ "java/lang/invoke/MethodHandle" ∧ m_X4_prepare.1.cls ≠ "java/lang/invoke/VarHandle" ∧ (parseMethodDescriptor m_X4_prepare.1.desc).map (fun d => d.parameters.length) = some 2 := by decide +kernel
theorem cV_LitmusTester_Explorer_35 : cV_ "LitmusTester$Explorer" 35 m_X4_prepare 2 4 := ⟨rfl, ⟨tw_1145, tw_139, tw_1148, cm_X4_prepare, Nat.le_of_ble_eq_true rfl⟩, tw_1146, tw_1147, _, rfl, rfl⟩
theorem cm_X9_clear : m_X9_clear.1.cls ≠ "java/lang/invoke/MethodHandle" ∧ m_X9_clear.1.cls ≠ "java/lang/invoke/VarHandle" ∧ (parseMethodDescriptor m_X9_clear.1.desc).map (fun d => d.parameters.length) = some 0 := by decide +kernel
theorem cV_LitmusTester_Explorer_39 : cV_ "LitmusTester$Explorer" 39 m_X9_clear 0 8 := ⟨rfl, ⟨tw_1172, tw_138, tw_1175, cm_X9_clear, Nat.le_of_ble_eq_true rfl⟩, tw_1173, tw_1174, _, rfl, rfl⟩
theorem cm_X4_start : m_X4_start.1.cls ≠ "java/lang/invoke/MethodHandle" ∧ m_X4_start.1.cls ≠ "java/lang/invoke/VarHandle" ∧ (parseMethodDescriptor m_X4_start.1.desc).map (fun d => d.parameters.length) = some 0 := by decide +kernel
theorem cV_LitmusTester_Explorer_42 : cV_ "LitmusTester$Explorer" 42 m_X4_start 0 4 := ⟨rfl, ⟨tw_1180, tw_139, tw_1183, cm_X4_start, Nat.le_of_ble_eq_true rfl⟩, tw_1181, tw_1182, _, rfl, rfl⟩
theorem cm_X9_add : m_X9_add.1.cls ≠ "java/lang/invoke/MethodHandle" ∧ m_X9_add.1.cls ≠ "java/lang/invoke/VarHandle" ∧ (parseMethodDescriptor m_X9_add.1.desc).map (fun d => d.parameters.length) = some 2 := by decide +kernel
theorem cV_LitmusTester_Explorer_46 : cV_ "LitmusTester$Explorer" 46 m_X9_add 2 8 := ⟨rfl, ⟨tw_1184, tw_138, tw_1187, cm_X9_add, Nat.le_of_ble_eq_true rfl⟩, tw_1185, tw_1186, _, rfl, rfl⟩
theorem cm_X9_size : m_X9_size.1.cls ≠ "java/lang/invoke/MethodHandle" ∧ m_X9_size.1.cls ≠ "java/lang/invoke/VarHandle" ∧ (parseMethodDescriptor m_X9_size.1.desc).map (fun d => d.parameters.length) = some 0 := by decide +kernel
theorem cV_LitmusTester_Explorer_51 : cV_ "LitmusTester$Explorer" 51 m_X9_size 0 8 := ⟨rfl, ⟨tw_1216, tw_138, tw_1219, cm_X9_size, Nat.le_of_ble_eq_true rfl⟩, tw_1217, tw_1218, _, rfl, rfl⟩
theorem cm_X9_stateAt : m_X9_stateAt.1.cls ≠ "java/lang/invoke/MethodHandle" ∧ m_X9_stateAt.1.cls ≠ "java/lang/invoke/VarHandle" ∧ (parseMethodDescriptor m_X9_stateAt.1.desc).map (fun d => d.parameters.length) = some 1 := by decide +kernel
theorem cV_LitmusTester_Explorer_55 : cV_ "LitmusTester$Explorer" 55 m_X9_stateAt 1 8 := ⟨rfl, ⟨tw_1220, tw_138, tw_1208, cm_X9_stateAt, Nat.le_of_ble_eq_true rfl⟩, tw_1206, tw_1207, _, rfl, rfl⟩
theorem cm_X9_waysAt : m_X9_waysAt.1.cls ≠ "java/lang/invoke/MethodHandle" ∧ m_X9_waysAt.1.cls ≠ "java/lang/invoke/VarHandle" ∧ (parseMethodDescriptor m_X9_waysAt.1.desc).map (fun d => d.parameters.length) = some 1 := by decide +kernel
theorem cV_LitmusTester_Explorer_59 : cV_ "LitmusTester$Explorer" 59 m_X9_waysAt 1 8 := ⟨rfl, ⟨tw_1221, tw_138, tw_1224, cm_X9_waysAt, Nat.le_of_ble_eq_true rfl⟩, tw_1222, tw_1223, _, rfl, rfl⟩
theorem cm_X4_threads : m_X4_threads.1.cls ≠ "java/lang/invoke/MethodHandle" ∧ m_X4_threads.1.cls ≠ "java/lang/invoke/VarHandle" ∧ (parseMethodDescriptor m_X4_threads.1.desc).map (fun d => d.parameters.length) = some 0 := by decide +kernel
theorem cV_LitmusTester_Explorer_62 : cV_ "LitmusTester$Explorer" 62 m_X4_threads 0 4 := ⟨rfl, ⟨tw_1225, tw_139, tw_1228, cm_X4_threads, Nat.le_of_ble_eq_true rfl⟩, tw_1226, tw_1227, _, rfl, rfl⟩
theorem cm_X4_parts : m_X4_parts.1.cls ≠ "java/lang/invoke/MethodHandle" ∧ m_X4_parts.1.cls ≠ "java/lang/invoke/VarHandle" ∧ (parseMethodDescriptor m_X4_parts.1.desc).map (fun d => d.parameters.length) = some 2 := by decide +kernel
theorem cV_LitmusTester_Explorer_65 : cV_ "LitmusTester$Explorer" 65 m_X4_parts 2 4 := ⟨rfl, ⟨tw_1229, tw_139, tw_1232, cm_X4_parts, Nat.le_of_ble_eq_true rfl⟩, tw_1230, tw_1231, _, rfl, rfl⟩
theorem cm_X4_after : m_X4_after.1.cls ≠ "java/lang/invoke/MethodHandle" ∧ m_X4_after.1.cls ≠ "java/lang/invoke/VarHandle" ∧ (parseMethodDescriptor m_X4_after.1.desc).map (fun d => d.parameters.length) = some 3 := by decide +kernel
theorem cV_LitmusTester_Explorer_69 : cV_ "LitmusTester$Explorer" 69 m_X4_after 3 4 := ⟨rfl, ⟨tw_1237, tw_139, tw_1240, cm_X4_after, Nat.le_of_ble_eq_true rfl⟩, tw_1238, tw_1239, _, rfl, rfl⟩
theorem cm_X4_isFinal : m_X4_isFinal.1.cls ≠ "java/lang/invoke/MethodHandle" ∧ m_X4_isFinal.1.cls ≠ "java/lang/invoke/VarHandle" ∧ (parseMethodDescriptor m_X4_isFinal.1.desc).map (fun d => d.parameters.length) = some 1 := by decide +kernel
theorem cV_LitmusTester_Explorer_75 : cV_ "LitmusTester$Explorer" 75 m_X4_isFinal 1 4 := ⟨rfl, ⟨tw_1289, tw_139, tw_1292, cm_X4_isFinal, Nat.le_of_ble_eq_true rfl⟩, tw_1290, tw_1291, _, rfl, rfl⟩
theorem cm_X4_codeOf : m_X4_codeOf.1.cls ≠ "java/lang/invoke/MethodHandle" ∧ m_X4_codeOf.1.cls ≠ "java/lang/invoke/VarHandle" ∧ (parseMethodDescriptor m_X4_codeOf.1.desc).map (fun d => d.parameters.length) = some 1 := by decide +kernel
theorem cS_LitmusTester_Explorer_79 : cS_ "LitmusTester$Explorer" 79 m_X4_codeOf 1 := ⟨rfl, ⟨tw_1297, tw_139, tw_1299, cm_X4_codeOf, Nat.le_of_ble_eq_true rfl⟩, tw_1298⟩
theorem cm_X7_isFulfilledBy : m_X7_isFulfilledBy.1.cls ≠ "java/lang/invoke/MethodHandle" ∧ m_X7_isFulfilledBy.1.cls ≠ "java/lang/invoke/VarHandle" ∧ (parseMethodDescriptor m_X7_isFulfilledBy.1.desc).map (fun d => d.parameters.length) = some 1 := by decide +kernel
theorem cV_LitmusTester_Explorer_83 : cV_ "LitmusTester$Explorer" 83 m_X7_isFulfilledBy 1 7 := ⟨rfl, ⟨tw_1462, tw_134, tw_922, cm_X7_isFulfilledBy, Nat.le_of_ble_eq_true rfl⟩, tw_920, tw_921, _, rfl, rfl⟩
theorem cm_X2_outcomes : m_X2_outcomes.1.cls ≠ "java/lang/invoke/MethodHandle" ∧ m_X2_outcomes.1.cls ≠ "java/lang/invoke/VarHandle" ∧ (parseMethodDescriptor m_X2_outcomes.1.desc).map (fun d => d.parameters.length) = some 0 := by decide +kernel
theorem cV_LitmusTester_Explorer_89 : cV_ "LitmusTester$Explorer" 89 m_X2_outcomes 0 2 := ⟨rfl, ⟨tw_1285, tw_137, tw_1288, cm_X2_outcomes, Nat.le_of_ble_eq_true rfl⟩, tw_1286, tw_1287, _, rfl, rfl⟩
theorem cm_X3_begin : m_X3_begin.1.cls ≠ "java/lang/invoke/MethodHandle" ∧ m_X3_begin.1.cls ≠ "java/lang/invoke/VarHandle" ∧ (parseMethodDescriptor m_X3_begin.1.desc).map (fun d => d.parameters.length) = some 2 := by decide +kernel
theorem cV_LitmusTester_Explorer_92 : cV_ "LitmusTester$Explorer" 92 m_X3_begin 2 3 := ⟨rfl, ⟨tw_1293, tw_140, tw_1296, cm_X3_begin, Nat.le_of_ble_eq_true rfl⟩, tw_1294, tw_1295, _, rfl, rfl⟩
theorem cm_X3_sort : m_X3_sort.1.cls ≠ "java/lang/invoke/MethodHandle" ∧ m_X3_sort.1.cls ≠ "java/lang/invoke/VarHandle" ∧ (parseMethodDescriptor m_X3_sort.1.desc).map (fun d => d.parameters.length) = some 0 := by decide +kernel
theorem cV_LitmusTester_Explorer_100 : cV_ "LitmusTester$Explorer" 100 m_X3_sort 0 3 := ⟨rfl, ⟨tw_1305, tw_140, tw_1308, cm_X3_sort, Nat.le_of_ble_eq_true rfl⟩, tw_1306, tw_1307, _, rfl, rfl⟩
theorem cm_X3_add : m_X3_add.1.cls ≠ "java/lang/invoke/MethodHandle" ∧ m_X3_add.1.cls ≠ "java/lang/invoke/VarHandle" ∧ (parseMethodDescriptor m_X3_add.1.desc).map (fun d => d.parameters.length) = some 2 := by decide +kernel
theorem cV_LitmusTester_Explorer_97 : cV_ "LitmusTester$Explorer" 97 m_X3_add 2 3 := ⟨rfl, ⟨tw_1301, tw_140, tw_1304, cm_X3_add, Nat.le_of_ble_eq_true rfl⟩, tw_1302, tw_1303, _, rfl, rfl⟩
theorem cm_X7_waits : m_X7_waits.1.cls ≠ "java/lang/invoke/MethodHandle" ∧ m_X7_waits.1.cls ≠ "java/lang/invoke/VarHandle" ∧ (parseMethodDescriptor m_X7_waits.1.desc).map (fun d => d.parameters.length) = some 0 := by decide +kernel
theorem cV_LitmusTester_Explorer_103 : cV_ "LitmusTester$Explorer" 103 m_X7_waits 0 7 := ⟨rfl, ⟨tw_1556, tw_134, tw_1140, cm_X7_waits, Nat.le_of_ble_eq_true rfl⟩, tw_1138, tw_1139, _, rfl, rfl⟩
theorem cm_X2_leadsTo : m_X2_leadsTo.1.cls ≠ "java/lang/invoke/MethodHandle" ∧ m_X2_leadsTo.1.cls ≠ "java/lang/invoke/VarHandle" ∧ (parseMethodDescriptor m_X2_leadsTo.1.desc).map (fun d => d.parameters.length) = some 3 := by decide +kernel
theorem cV_LitmusTester_Explorer_106 : cV_ "LitmusTester$Explorer" 106 m_X2_leadsTo 3 2 := ⟨rfl, ⟨tw_1557, tw_137, tw_1560, cm_X2_leadsTo, Nat.le_of_ble_eq_true rfl⟩, tw_1559, tw_52, _, rfl, rfl⟩
theorem cm_X1_begin : m_X1_begin.1.cls ≠ "java/lang/invoke/MethodHandle" ∧ m_X1_begin.1.cls ≠ "java/lang/invoke/VarHandle" ∧ (parseMethodDescriptor m_X1_begin.1.desc).map (fun d => d.parameters.length) = some 0 := by decide +kernel
theorem cV_LitmusTester_Explorer_110 : cV_ "LitmusTester$Explorer" 110 m_X1_begin 0 1 := ⟨rfl, ⟨tw_1573, tw_143, tw_1576, cm_X1_begin, Nat.le_of_ble_eq_true rfl⟩, tw_1574, tw_1575, _, rfl, rfl⟩
theorem cm_X1_addStep : m_X1_addStep.1.cls ≠ "java/lang/invoke/MethodHandle" ∧ m_X1_addStep.1.cls ≠ "java/lang/invoke/VarHandle" ∧ (parseMethodDescriptor m_X1_addStep.1.desc).map (fun d => d.parameters.length) = some 4 := by decide +kernel
theorem cV_LitmusTester_Explorer_114 : cV_ "LitmusTester$Explorer" 114 m_X1_addStep 4 1 := ⟨rfl, ⟨tw_1578, tw_143, tw_1581, cm_X1_addStep, Nat.le_of_ble_eq_true rfl⟩, tw_1579, tw_1580, _, rfl, rfl⟩
theorem cm_X9_contains : m_X9_contains.1.cls ≠ "java/lang/invoke/MethodHandle" ∧ m_X9_contains.1.cls ≠ "java/lang/invoke/VarHandle" ∧ (parseMethodDescriptor m_X9_contains.1.desc).map (fun d => d.parameters.length) = some 1 := by decide +kernel
theorem cV_LitmusTester_Explorer_118 : cV_ "LitmusTester$Explorer" 118 m_X9_contains 1 8 := ⟨rfl, ⟨tw_1561, tw_138, tw_1564, cm_X9_contains, Nat.le_of_ble_eq_true rfl⟩, tw_1562, tw_1563, _, rfl, rfl⟩
theorem cm_X2_hasStepTo : m_X2_hasStepTo.1.cls ≠ "java/lang/invoke/MethodHandle" ∧ m_X2_hasStepTo.1.cls ≠ "java/lang/invoke/VarHandle" ∧ (parseMethodDescriptor m_X2_hasStepTo.1.desc).map (fun d => d.parameters.length) = some 3 := by decide +kernel
theorem cV_LitmusTester_Explorer_121 : cV_ "LitmusTester$Explorer" 121 m_X2_hasStepTo 3 2 := ⟨rfl, ⟨tw_1565, tw_137, tw_1568, cm_X2_hasStepTo, Nat.le_of_ble_eq_true rfl⟩, tw_1567, tw_53, _, rfl, rfl⟩
theorem cm_X4_isContradicted : m_X4_isContradicted.1.cls ≠ "java/lang/invoke/MethodHandle" ∧ m_X4_isContradicted.1.cls ≠ "java/lang/invoke/VarHandle" ∧ (parseMethodDescriptor m_X4_isContradicted.1.desc).map (fun d => d.parameters.length) = some 4 := by decide +kernel
theorem cV_LitmusTester_Explorer_124 : cV_ "LitmusTester$Explorer" 124 m_X4_isContradicted 4 4 := ⟨rfl, ⟨tw_1569, tw_139, tw_1572, cm_X4_isContradicted, Nat.le_of_ble_eq_true rfl⟩, tw_1570, tw_1571, _, rfl, rfl⟩
theorem cm_J7_fill_53178 : m_J7_fill_53178.1.cls ≠ "java/lang/invoke/MethodHandle" ∧ m_J7_fill_53178.1.cls ≠ "java/lang/invoke/VarHandle" ∧ (parseMethodDescriptor m_J7_fill_53178.1.desc).map (fun d => d.parameters.length) = some 2 := by decide +kernel
theorem cS_LitmusTester_Findings_36 : cS_ "LitmusTester$Findings" 36 m_J7_fill_53178 2 := ⟨rfl, ⟨tw_376, tw_141, tw_378, cm_J7_fill_53178, Nat.le_of_ble_eq_true rfl⟩, tw_377⟩
theorem cm_X3_codeAt : m_X3_codeAt.1.cls ≠ "java/lang/invoke/MethodHandle" ∧ m_X3_codeAt.1.cls ≠ "java/lang/invoke/VarHandle" ∧ (parseMethodDescriptor m_X3_codeAt.1.desc).map (fun d => d.parameters.length) = some 1 := by decide +kernel
theorem cV_LitmusTester_Findings_48 : cV_ "LitmusTester$Findings" 48 m_X3_codeAt 1 3 := ⟨rfl, ⟨tw_1336, tw_140, tw_1324, cm_X3_codeAt, Nat.le_of_ble_eq_true rfl⟩, tw_1322, tw_1323, _, rfl, rfl⟩
theorem cm_X4_prepareLocations : m_X4_prepareLocations.1.cls ≠ "java/lang/invoke/MethodHandle" ∧ m_X4_prepareLocations.1.cls ≠ "java/lang/invoke/VarHandle" ∧ (parseMethodDescriptor m_X4_prepareLocations.1.desc).map (fun d => d.parameters.length) = some 0 := by decide +kernel
theorem cV_LitmusTester_Machine_60 : cV_ "LitmusTester$Machine" 60 m_X4_prepareLocations 0 4 := ⟨rfl, ⟨tw_1149, tw_139, tw_1152, cm_X4_prepareLocations, Nat.le_of_ble_eq_true rfl⟩, tw_1151, tw_37, _, rfl, rfl⟩
theorem cm_X4_prepareThreads : m_X4_prepareThreads.1.cls ≠ "java/lang/invoke/MethodHandle" ∧ m_X4_prepareThreads.1.cls ≠ "java/lang/invoke/VarHandle" ∧ (parseMethodDescriptor m_X4_prepareThreads.1.desc).map (fun d => d.parameters.length) = some 0 := by decide +kernel
theorem cV_LitmusTester_Machine_63 : cV_ "LitmusTester$Machine" 63 m_X4_prepareThreads 0 4 := ⟨rfl, ⟨tw_1156, tw_139, tw_1159, cm_X4_prepareThreads, Nat.le_of_ble_eq_true rfl⟩, tw_1158, tw_38, _, rfl, rfl⟩
theorem cm_X7_size : m_X7_size.1.cls ≠ "java/lang/invoke/MethodHandle" ∧ m_X7_size.1.cls ≠ "java/lang/invoke/VarHandle" ∧ (parseMethodDescriptor m_X7_size.1.desc).map (fun d => d.parameters.length) = some 0 := by decide +kernel
theorem cV_LitmusTester_Machine_66 : cV_ "LitmusTester$Machine" 66 m_X7_size 0 7 := ⟨rfl, ⟨tw_1165, tw_134, tw_709, cm_X7_size, Nat.le_of_ble_eq_true rfl⟩, tw_707, tw_708, _, rfl, rfl⟩
theorem cm_X4_prepareInstruction : m_X4_prepareInstruction.1.cls ≠ "java/lang/invoke/MethodHandle" ∧ m_X4_prepareInstruction.1.cls ≠ "java/lang/invoke/VarHandle" ∧ (parseMethodDescriptor m_X4_prepareInstruction.1.desc).map (fun d => d.parameters.length) = some 1 := by decide +kernel
theorem cV_LitmusTester_Machine_72 : cV_ "LitmusTester$Machine" 72 m_X4_prepareInstruction 1 4 := ⟨rfl, ⟨tw_1166, tw_139, tw_1169, cm_X4_prepareInstruction, Nat.le_of_ble_eq_true rfl⟩, tw_1168, tw_39, _, rfl, rfl⟩
theorem cm_X7_locations : m_X7_locations.1.cls ≠ "java/lang/invoke/MethodHandle" ∧ m_X7_locations.1.cls ≠ "java/lang/invoke/VarHandle" ∧ (parseMethodDescriptor m_X7_locations.1.desc).map (fun d => d.parameters.length) = some 0 := by decide +kernel
theorem cV_LitmusTester_Machine_76 : cV_ "LitmusTester$Machine" 76 m_X7_locations 0 7 := ⟨rfl, ⟨tw_1153, tw_134, tw_621, cm_X7_locations, Nat.le_of_ble_eq_true rfl⟩, tw_619, tw_620, _, rfl, rfl⟩
theorem cm_X7_initialOf : m_X7_initialOf.1.cls ≠ "java/lang/invoke/MethodHandle" ∧ m_X7_initialOf.1.cls ≠ "java/lang/invoke/VarHandle" ∧ (parseMethodDescriptor m_X7_initialOf.1.desc).map (fun d => d.parameters.length) = some 1 := by decide +kernel
theorem cV_LitmusTester_Machine_78 : cV_ "LitmusTester$Machine" 78 m_X7_initialOf 1 7 := ⟨rfl, ⟨tw_1154, tw_134, tw_885, cm_X7_initialOf, Nat.le_of_ble_eq_true rfl⟩, tw_883, tw_884, _, rfl, rfl⟩
theorem cm_X7_locationShift : m_X7_locationShift.1.cls ≠ "java/lang/invoke/MethodHandle" ∧ m_X7_locationShift.1.cls ≠ "java/lang/invoke/VarHandle" ∧ (parseMethodDescriptor m_X7_locationShift.1.desc).map (fun d => d.parameters.length) = some 1 := by decide +kernel
theorem cV_LitmusTester_Machine_82 : cV_ "LitmusTester$Machine" 82 m_X7_locationShift 1 7 := ⟨rfl, ⟨tw_1155, tw_134, tw_765, cm_X7_locationShift, Nat.le_of_ble_eq_true rfl⟩, tw_763, tw_764, _, rfl, rfl⟩
theorem cm_X7_threads : m_X7_threads.1.cls ≠ "java/lang/invoke/MethodHandle" ∧ m_X7_threads.1.cls ≠ "java/lang/invoke/VarHandle" ∧ (parseMethodDescriptor m_X7_threads.1.desc).map (fun d => d.parameters.length) = some 0 := by decide +kernel
theorem cV_LitmusTester_Machine_85 : cV_ "LitmusTester$Machine" 85 m_X7_threads 0 7 := ⟨rfl, ⟨tw_1160, tw_134, tw_673, cm_X7_threads, Nat.le_of_ble_eq_true rfl⟩, tw_671, tw_672, _, rfl, rfl⟩
theorem cm_X7_sizeOf : m_X7_sizeOf.1.cls ≠ "java/lang/invoke/MethodHandle" ∧ m_X7_sizeOf.1.cls ≠ "java/lang/invoke/VarHandle" ∧ (parseMethodDescriptor m_X7_sizeOf.1.desc).map (fun d => d.parameters.length) = some 1 := by decide +kernel
theorem cV_LitmusTester_Machine_88 : cV_ "LitmusTester$Machine" 88 m_X7_sizeOf 1 7 := ⟨rfl, ⟨tw_1161, tw_134, tw_701, cm_X7_sizeOf, Nat.le_of_ble_eq_true rfl⟩, tw_699, tw_700, _, rfl, rfl⟩
theorem cm_X4_positionShift : m_X4_positionShift.1.cls ≠ "java/lang/invoke/MethodHandle" ∧ m_X4_positionShift.1.cls ≠ "java/lang/invoke/VarHandle" ∧ (parseMethodDescriptor m_X4_positionShift.1.desc).map (fun d => d.parameters.length) = some 1 := by decide +kernel
theorem cS_LitmusTester_Machine_91 : cS_ "LitmusTester$Machine" 91 m_X4_positionShift 1 := ⟨rfl, ⟨tw_1162, tw_139, tw_1164, cm_X4_positionShift, Nat.le_of_ble_eq_true rfl⟩, tw_1163⟩
theorem cV_LitmusTester_Machine_94 : cV_ "LitmusTester$Machine" 94 m_X7_property 2 7 := ⟨rfl, ⟨tw_1170, tw_134, tw_705, cm_X7_property, Nat.le_of_ble_eq_true rfl⟩, tw_703, tw_704, _, rfl, rfl⟩
theorem cm_X7_registerShift : m_X7_registerShift.1.cls ≠ "java/lang/invoke/MethodHandle" ∧ m_X7_registerShift.1.cls ≠ "java/lang/invoke/VarHandle" ∧ (parseMethodDescriptor m_X7_registerShift.1.desc).map (fun d => d.parameters.length) = some 2 := by decide +kernel
theorem cV_LitmusTester_Machine_98 : cV_ "LitmusTester$Machine" 98 m_X7_registerShift 2 7 := ⟨rfl, ⟨tw_1171, tw_134, tw_775, cm_X7_registerShift, Nat.le_of_ble_eq_true rfl⟩, tw_773, tw_774, _, rfl, rfl⟩
theorem cm_X4_waitingOf : m_X4_waitingOf.1.cls ≠ "java/lang/invoke/MethodHandle" ∧ m_X4_waitingOf.1.cls ≠ "java/lang/invoke/VarHandle" ∧ (parseMethodDescriptor m_X4_waitingOf.1.desc).map (fun d => d.parameters.length) = some 2 := by decide +kernel
theorem cV_LitmusTester_Machine_102 : cV_ "LitmusTester$Machine" 102 m_X4_waitingOf 2 4 := ⟨rfl, ⟨tw_1233, tw_139, tw_1236, cm_X4_waitingOf, Nat.le_of_ble_eq_true rfl⟩, tw_1235, tw_43, _, rfl, rfl⟩
theorem cm_X4_waitingFor : m_X4_waitingFor.1.cls ≠ "java/lang/invoke/MethodHandle" ∧ m_X4_waitingFor.1.cls ≠ "java/lang/invoke/VarHandle" ∧ (parseMethodDescriptor m_X4_waitingFor.1.desc).map (fun d => d.parameters.length) = some 3 := by decide +kernel
theorem cV_LitmusTester_Machine_106 : cV_ "LitmusTester$Machine" 106 m_X4_waitingFor 3 4 := ⟨rfl, ⟨tw_1249, tw_139, tw_1252, cm_X4_waitingFor, Nat.le_of_ble_eq_true rfl⟩, tw_1251, tw_44, _, rfl, rfl⟩
theorem cm_J6_bitCount_0f7a4 : m_J6_bitCount_0f7a4.1.cls ≠ "java/lang/invoke/MethodHandle" ∧ m_J6_bitCount_0f7a4.1.cls ≠ "java/lang/invoke/VarHandle" ∧ (parseMethodDescriptor m_J6_bitCount_0f7a4.1.desc).map (fun d => d.parameters.length) = some 1 := by decide +kernel
theorem cS_LitmusTester_Machine_110 : cS_ "LitmusTester$Machine" 110 m_J6_bitCount_0f7a4 1 := ⟨rfl, ⟨tw_1253, tw_159, tw_1255, cm_J6_bitCount_0f7a4, Nat.le_of_ble_eq_true rfl⟩, tw_1254⟩
theorem cV_LitmusTester_Machine_115 : cV_ "LitmusTester$Machine" 115 m_X4_next 2 4 := ⟨rfl, ⟨tw_1241, tw_139, tw_1244, cm_X4_next, Nat.le_of_ble_eq_true rfl⟩, tw_1242, tw_1243, _, rfl, rfl⟩
theorem cm_X4_valueOf : m_X4_valueOf.1.cls ≠ "java/lang/invoke/MethodHandle" ∧ m_X4_valueOf.1.cls ≠ "java/lang/invoke/VarHandle" ∧ (parseMethodDescriptor m_X4_valueOf.1.desc).map (fun d => d.parameters.length) = some 2 := by decide +kernel
theorem cV_LitmusTester_Machine_123 : cV_ "LitmusTester$Machine" 123 m_X4_valueOf 2 4 := ⟨rfl, ⟨tw_1260, tw_139, tw_1263, cm_X4_valueOf, Nat.le_of_ble_eq_true rfl⟩, tw_1262, tw_45, _, rfl, rfl⟩
theorem cm_X4_written : m_X4_written.1.cls ≠ "java/lang/invoke/MethodHandle" ∧ m_X4_written.1.cls ≠ "java/lang/invoke/VarHandle" ∧ (parseMethodDescriptor m_X4_written.1.desc).map (fun d => d.parameters.length) = some 3 := by decide +kernel
theorem cV_LitmusTester_Machine_126 : cV_ "LitmusTester$Machine" 126 m_X4_written 3 4 := ⟨rfl, ⟨tw_1264, tw_139, tw_1267, cm_X4_written, Nat.le_of_ble_eq_true rfl⟩, tw_1266, tw_46, _, rfl, rfl⟩
theorem cV_LitmusTester_Machine_130 : cV_ "LitmusTester$Machine" 130 m_X4_forwarding 3 4 := ⟨rfl, ⟨tw_1272, tw_139, tw_1275, cm_X4_forwarding, Nat.le_of_ble_eq_true rfl⟩, tw_1273, tw_1274, _, rfl, rfl⟩
theorem cm_X4_withRead : m_X4_withRead.1.cls ≠ "java/lang/invoke/MethodHandle" ∧ m_X4_withRead.1.cls ≠ "java/lang/invoke/VarHandle" ∧ (parseMethodDescriptor m_X4_withRead.1.desc).map (fun d => d.parameters.length) = some 3 := by decide +kernel
theorem cV_LitmusTester_Machine_133 : cV_ "LitmusTester$Machine" 133 m_X4_withRead 3 4 := ⟨rfl, ⟨tw_1276, tw_139, tw_1279, cm_X4_withRead, Nat.le_of_ble_eq_true rfl⟩, tw_1278, tw_47, _, rfl, rfl⟩
theorem cV_LitmusTester_Machine_118 : cV_ "LitmusTester$Machine" 118 m_X4_committed 3 4 := ⟨rfl, ⟨tw_1245, tw_139, tw_1248, cm_X4_committed, Nat.le_of_ble_eq_true rfl⟩, tw_1246, tw_1247, _, rfl, rfl⟩
theorem cm_X4_withDigit : m_X4_withDigit.1.cls ≠ "java/lang/invoke/MethodHandle" ∧ m_X4_withDigit.1.cls ≠ "java/lang/invoke/VarHandle" ∧ (parseMethodDescriptor m_X4_withDigit.1.desc).map (fun d => d.parameters.length) = some 3 := by decide +kernel
theorem cS_LitmusTester_Machine_138 : cS_ "LitmusTester$Machine" 138 m_X4_withDigit 3 := ⟨rfl, ⟨tw_1268, tw_139, tw_1270, cm_X4_withDigit, Nat.le_of_ble_eq_true rfl⟩, tw_1269⟩
theorem cm_J0_length_8abf5 : m_J0_length_8abf5.1.cls ≠ "java/lang/invoke/MethodHandle" ∧ m_J0_length_8abf5.1.cls ≠ "java/lang/invoke/VarHandle" ∧ (parseMethodDescriptor m_J0_length_8abf5.1.desc).map (fun d => d.parameters.length) = some 0 := by decide +kernel
theorem cT_LitmusTester_Output_19 : cT_ "LitmusTester$Output" 19 m_J0_length_8abf5 0 := ⟨rfl, ⟨tw_868, tw_148, tw_557, cm_J0_length_8abf5, Nat.le_of_ble_eq_true rfl⟩, tw_555, tw_556, rfl⟩
theorem cm_J0_charAt_5068e : m_J0_charAt_5068e.1.cls ≠ "java/lang/invoke/MethodHandle" ∧ m_J0_charAt_5068e.1.cls ≠ "java/lang/invoke/VarHandle" ∧ (parseMethodDescriptor m_J0_charAt_5068e.1.desc).map (fun d => d.parameters.length) = some 1 := by decide +kernel
theorem cT_LitmusTester_Output_24 : cT_ "LitmusTester$Output" 24 m_J0_charAt_5068e 1 := ⟨rfl, ⟨tw_869, tw_148, tw_567, cm_J0_charAt_5068e, Nat.le_of_ble_eq_true rfl⟩, tw_565, tw_566, rfl⟩
theorem cm_X5_put : m_X5_put.1.cls ≠ "java/lang/invoke/MethodHandle" ∧ m_X5_put.1.cls ≠ "java/lang/invoke/VarHandle" ∧ (parseMethodDescriptor m_X5_put.1.desc).map (fun d => d.parameters.length) = some 1 := by decide +kernel
theorem cV_LitmusTester_Output_28 : cV_ "LitmusTester$Output" 28 m_X5_put 1 5 := ⟨rfl, ⟨tw_870, tw_133, tw_873, cm_X5_put, Nat.le_of_ble_eq_true rfl⟩, tw_872, tw_27, _, rfl, rfl⟩
theorem cm_X5_putText : m_X5_putText.1.cls ≠ "java/lang/invoke/MethodHandle" ∧ m_X5_putText.1.cls ≠ "java/lang/invoke/VarHandle" ∧ (parseMethodDescriptor m_X5_putText.1.desc).map (fun d => d.parameters.length) = some 1 := by decide +kernel
theorem cV_LitmusTester_Output_32 : cV_ "LitmusTester$Output" 32 m_X5_putText 1 5 := ⟨rfl, ⟨tw_864, tw_133, tw_867, cm_X5_putText, Nat.le_of_ble_eq_true rfl⟩, tw_866, tw_26, _, rfl, rfl⟩
theorem cm_X7_nameOf : m_X7_nameOf.1.cls ≠ "java/lang/invoke/MethodHandle" ∧ m_X7_nameOf.1.cls ≠ "java/lang/invoke/VarHandle" ∧ (parseMethodDescriptor m_X7_nameOf.1.desc).map (fun d => d.parameters.length) = some 1 := by decide +kernel
theorem cV_LitmusTester_Output_40 : cV_ "LitmusTester$Output" 40 m_X7_nameOf 1 7 := ⟨rfl, ⟨tw_874, tw_134, tw_877, cm_X7_nameOf, Nat.le_of_ble_eq_true rfl⟩, tw_875, tw_876, _, rfl, rfl⟩
theorem cm_X5_putName : m_X5_putName.1.cls ≠ "java/lang/invoke/MethodHandle" ∧ m_X5_putName.1.cls ≠ "java/lang/invoke/VarHandle" ∧ (parseMethodDescriptor m_X5_putName.1.desc).map (fun d => d.parameters.length) = some 1 := by decide +kernel
theorem cV_LitmusTester_Output_46 : cV_ "LitmusTester$Output" 46 m_X5_putName 1 5 := ⟨rfl, ⟨tw_878, tw_133, tw_881, cm_X5_putName, Nat.le_of_ble_eq_true rfl⟩, tw_880, tw_28, _, rfl, rfl⟩
theorem cV_LitmusTester_Output_50 : cV_ "LitmusTester$Output" 50 m_X7_initialOf 1 7 := ⟨rfl, ⟨tw_882, tw_134, tw_885, cm_X7_initialOf, Nat.le_of_ble_eq_true rfl⟩, tw_883, tw_884, _, rfl, rfl⟩
theorem cm_X5_putNumber : m_X5_putNumber.1.cls ≠ "java/lang/invoke/MethodHandle" ∧ m_X5_putNumber.1.cls ≠ "java/lang/invoke/VarHandle" ∧ (parseMethodDescriptor m_X5_putNumber.1.desc).map (fun d => d.parameters.length) = some 1 := by decide +kernel
theorem cV_LitmusTester_Output_54 : cV_ "LitmusTester$Output" 54 m_X5_putNumber 1 5 := ⟨rfl, ⟨tw_886, tw_133, tw_889, cm_X5_putNumber, Nat.le_of_ble_eq_true rfl⟩, tw_888, tw_29, _, rfl, rfl⟩
theorem cV_LitmusTester_Output_57 : cV_ "LitmusTester$Output" 57 m_X7_property 2 7 := ⟨rfl, ⟨tw_900, tw_134, tw_705, cm_X7_property, Nat.le_of_ble_eq_true rfl⟩, tw_703, tw_704, _, rfl, rfl⟩
theorem cm_X5_putRegister : m_X5_putRegister.1.cls ≠ "java/lang/invoke/MethodHandle" ∧ m_X5_putRegister.1.cls ≠ "java/lang/invoke/VarHandle" ∧ (parseMethodDescriptor m_X5_putRegister.1.desc).map (fun d => d.parameters.length) = some 1 := by decide +kernel
theorem cV_LitmusTester_Output_69 : cV_ "LitmusTester$Output" 69 m_X5_putRegister 1 5 := ⟨rfl, ⟨tw_905, tw_133, tw_908, cm_X5_putRegister, Nat.le_of_ble_eq_true rfl⟩, tw_907, tw_30, _, rfl, rfl⟩
theorem cm_X7_clear : m_X7_clear.1.cls ≠ "java/lang/invoke/MethodHandle" ∧ m_X7_clear.1.cls ≠ "java/lang/invoke/VarHandle" ∧ (parseMethodDescriptor m_X7_clear.1.desc).map (fun d => d.parameters.length) = some 0 := by decide +kernel
theorem cV_LitmusTester_Parser_43 : cV_ "LitmusTester$Parser" 43 m_X7_clear 0 7 := ⟨rfl, ⟨tw_503, tw_134, tw_506, cm_X7_clear, Nat.le_of_ble_eq_true rfl⟩, tw_504, tw_505, _, rfl, rfl⟩
theorem cm_X10_split : m_X10_split.1.cls ≠ "java/lang/invoke/MethodHandle" ∧ m_X10_split.1.cls ≠ "java/lang/invoke/VarHandle" ∧ (parseMethodDescriptor m_X10_split.1.desc).map (fun d => d.parameters.length) = some 1 := by decide +kernel
theorem cV_LitmusTester_Parser_48 : cV_ "LitmusTester$Parser" 48 m_X10_split 1 9 := ⟨rfl, ⟨tw_507, tw_136, tw_510, cm_X10_split, Nat.le_of_ble_eq_true rfl⟩, tw_508, tw_509, _, rfl, rfl⟩
theorem cm_X10_sign : m_X10_sign.1.cls ≠ "java/lang/invoke/MethodHandle" ∧ m_X10_sign.1.cls ≠ "java/lang/invoke/VarHandle" ∧ (parseMethodDescriptor m_X10_sign.1.desc).map (fun d => d.parameters.length) = some 0 := by decide +kernel
theorem cV_LitmusTester_Parser_52 : cV_ "LitmusTester$Parser" 52 m_X10_sign 0 9 := ⟨rfl, ⟨tw_608, tw_136, tw_611, cm_X10_sign, Nat.le_of_ble_eq_true rfl⟩, tw_609, tw_610, _, rfl, rfl⟩
theorem cm_X6_readDeclaration : m_X6_readDeclaration.1.cls ≠ "java/lang/invoke/MethodHandle" ∧ m_X6_readDeclaration.1.cls ≠ "java/lang/invoke/VarHandle" ∧ (parseMethodDescriptor m_X6_readDeclaration.1.desc).map (fun d => d.parameters.length) = some 0 := by decide +kernel
theorem cV_LitmusTester_Parser_62 : cV_ "LitmusTester$Parser" 62 m_X6_readDeclaration 0 6 := ⟨rfl, ⟨tw_614, tw_135, tw_617, cm_X6_readDeclaration, Nat.le_of_ble_eq_true rfl⟩, tw_616, tw_7, _, rfl, rfl⟩
theorem cm_X6_fail : m_X6_fail.1.cls ≠ "java/lang/invoke/MethodHandle" ∧ m_X6_fail.1.cls ≠ "java/lang/invoke/VarHandle" ∧ (parseMethodDescriptor m_X6_fail.1.desc).map (fun d => d.parameters.length) = some 1 := by decide +kernel
theorem cV_LitmusTester_Parser_92 : cV_ "LitmusTester$Parser" 92 m_X6_fail 1 6 := ⟨rfl, ⟨tw_622, tw_135, tw_625, cm_X6_fail, Nat.le_of_ble_eq_true rfl⟩, tw_624, tw_8, _, rfl, rfl⟩
theorem cm_X10_advance : m_X10_advance.1.cls ≠ "java/lang/invoke/MethodHandle" ∧ m_X10_advance.1.cls ≠ "java/lang/invoke/VarHandle" ∧ (parseMethodDescriptor m_X10_advance.1.desc).map (fun d => d.parameters.length) = some 0 := by decide +kernel
theorem cV_LitmusTester_Parser_75 : cV_ "LitmusTester$Parser" 75 m_X10_advance 0 9 := ⟨rfl, ⟨tw_630, tw_136, tw_633, cm_X10_advance, Nat.le_of_ble_eq_true rfl⟩, tw_631, tw_632, _, rfl, rfl⟩
theorem cm_X6_readCondition : m_X6_readCondition.1.cls ≠ "java/lang/invoke/MethodHandle" ∧ m_X6_readCondition.1.cls ≠ "java/lang/invoke/VarHandle" ∧ (parseMethodDescriptor m_X6_readCondition.1.desc).map (fun d => d.parameters.length) = some 1 := by decide +kernel
theorem cV_LitmusTester_Parser_78 : cV_ "LitmusTester$Parser" 78 m_X6_readCondition 1 6 := ⟨rfl, ⟨tw_746, tw_135, tw_749, cm_X6_readCondition, Nat.le_of_ble_eq_true rfl⟩, tw_748, tw_19, _, rfl, rfl⟩
theorem cm_X6_expect : m_X6_expect.1.cls ≠ "java/lang/invoke/MethodHandle" ∧ m_X6_expect.1.cls ≠ "java/lang/invoke/VarHandle" ∧ (parseMethodDescriptor m_X6_expect.1.desc).map (fun d => d.parameters.length) = some 1 := by decide +kernel
theorem cV_LitmusTester_Parser_85 : cV_ "LitmusTester$Parser" 85 m_X6_expect 1 6 := ⟨rfl, ⟨tw_660, tw_135, tw_663, cm_X6_expect, Nat.le_of_ble_eq_true rfl⟩, tw_662, tw_10, _, rfl, rfl⟩
theorem cm_X6_readThread : m_X6_readThread.1.cls ≠ "java/lang/invoke/MethodHandle" ∧ m_X6_readThread.1.cls ≠ "java/lang/invoke/VarHandle" ∧ (parseMethodDescriptor m_X6_readThread.1.desc).map (fun d => d.parameters.length) = some 0 := by decide +kernel
theorem cV_LitmusTester_Parser_69 : cV_ "LitmusTester$Parser" 69 m_X6_readThread 0 6 := ⟨rfl, ⟨tw_666, tw_135, tw_669, cm_X6_readThread, Nat.le_of_ble_eq_true rfl⟩, tw_668, tw_11, _, rfl, rfl⟩
theorem cm_X10_start : m_X10_start.1.cls ≠ "java/lang/invoke/MethodHandle" ∧ m_X10_start.1.cls ≠ "java/lang/invoke/VarHandle" ∧ (parseMethodDescriptor m_X10_start.1.desc).map (fun d => d.parameters.length) = some 0 := by decide +kernel
theorem cV_LitmusTester_Parser_95 : cV_ "LitmusTester$Parser" 95 m_X10_start 0 9 := ⟨rfl, ⟨tw_626, tw_136, tw_629, cm_X10_start, Nat.le_of_ble_eq_true rfl⟩, tw_627, tw_628, _, rfl, rfl⟩
theorem cV_LitmusTester_Parser_99 : cV_ "LitmusTester$Parser" 99 m_X7_locations 0 7 := ⟨rfl, ⟨tw_618, tw_134, tw_621, cm_X7_locations, Nat.le_of_ble_eq_true rfl⟩, tw_619, tw_620, _, rfl, rfl⟩
theorem cm_X10_name : m_X10_name.1.cls ≠ "java/lang/invoke/MethodHandle" ∧ m_X10_name.1.cls ≠ "java/lang/invoke/VarHandle" ∧ (parseMethodDescriptor m_X10_name.1.desc).map (fun d => d.parameters.length) = some 0 := by decide +kernel
theorem cV_LitmusTester_Parser_105 : cV_ "LitmusTester$Parser" 105 m_X10_name 0 9 := ⟨rfl, ⟨tw_636, tw_136, tw_639, cm_X10_name, Nat.le_of_ble_eq_true rfl⟩, tw_637, tw_638, _, rfl, rfl⟩
theorem cm_X7_locationNamed : m_X7_locationNamed.1.cls ≠ "java/lang/invoke/MethodHandle" ∧ m_X7_locationNamed.1.cls ≠ "java/lang/invoke/VarHandle" ∧ (parseMethodDescriptor m_X7_locationNamed.1.desc).map (fun d => d.parameters.length) = some 1 := by decide +kernel
theorem cV_LitmusTester_Parser_109 : cV_ "LitmusTester$Parser" 109 m_X7_locationNamed 1 7 := ⟨rfl, ⟨tw_640, tw_134, tw_643, cm_X7_locationNamed, Nat.le_of_ble_eq_true rfl⟩, tw_641, tw_642, _, rfl, rfl⟩
theorem cm_X6_isValue : m_X6_isValue.1.cls ≠ "java/lang/invoke/MethodHandle" ∧ m_X6_isValue.1.cls ≠ "java/lang/invoke/VarHandle" ∧ (parseMethodDescriptor m_X6_isValue.1.desc).map (fun d => d.parameters.length) = some 0 := by decide +kernel
theorem cV_LitmusTester_Parser_113 : cV_ "LitmusTester$Parser" 113 m_X6_isValue 0 6 := ⟨rfl, ⟨tw_644, tw_135, tw_647, cm_X6_isValue, Nat.le_of_ble_eq_true rfl⟩, tw_646, tw_9, _, rfl, rfl⟩
theorem cm_X10_number : m_X10_number.1.cls ≠ "java/lang/invoke/MethodHandle" ∧ m_X10_number.1.cls ≠ "java/lang/invoke/VarHandle" ∧ (parseMethodDescriptor m_X10_number.1.desc).map (fun d => d.parameters.length) = some 0 := by decide +kernel
theorem cV_LitmusTester_Parser_116 : cV_ "LitmusTester$Parser" 116 m_X10_number 0 9 := ⟨rfl, ⟨tw_649, tw_136, tw_652, cm_X10_number, Nat.le_of_ble_eq_true rfl⟩, tw_650, tw_651, _, rfl, rfl⟩
theorem cm_X7_addLocation : m_X7_addLocation.1.cls ≠ "java/lang/invoke/MethodHandle" ∧ m_X7_addLocation.1.cls ≠ "java/lang/invoke/VarHandle" ∧ (parseMethodDescriptor m_X7_addLocation.1.desc).map (fun d => d.parameters.length) = some 2 := by decide +kernel
theorem cV_LitmusTester_Parser_119 : cV_ "LitmusTester$Parser" 119 m_X7_addLocation 2 7 := ⟨rfl, ⟨tw_654, tw_134, tw_657, cm_X7_addLocation, Nat.le_of_ble_eq_true rfl⟩, tw_655, tw_656, _, rfl, rfl⟩
theorem cV_LitmusTester_Parser_126 : cV_ "LitmusTester$Parser" 126 m_X7_threads 0 7 := ⟨rfl, ⟨tw_670, tw_134, tw_673, cm_X7_threads, Nat.le_of_ble_eq_true rfl⟩, tw_671, tw_672, _, rfl, rfl⟩
theorem cm_X7_addThread : m_X7_addThread.1.cls ≠ "java/lang/invoke/MethodHandle" ∧ m_X7_addThread.1.cls ≠ "java/lang/invoke/VarHandle" ∧ (parseMethodDescriptor m_X7_addThread.1.desc).map (fun d => d.parameters.length) = some 0 := by decide +kernel
theorem cV_LitmusTester_Parser_129 : cV_ "LitmusTester$Parser" 129 m_X7_addThread 0 7 := ⟨rfl, ⟨tw_674, tw_134, tw_677, cm_X7_addThread, Nat.le_of_ble_eq_true rfl⟩, tw_675, tw_676, _, rfl, rfl⟩
theorem cm_X6_kindOfInstruction : m_X6_kindOfInstruction.1.cls ≠ "java/lang/invoke/MethodHandle" ∧ m_X6_kindOfInstruction.1.cls ≠ "java/lang/invoke/VarHandle" ∧ (parseMethodDescriptor m_X6_kindOfInstruction.1.desc).map (fun d => d.parameters.length) = some 0 := by decide +kernel
theorem cV_LitmusTester_Parser_132 : cV_ "LitmusTester$Parser" 132 m_X6_kindOfInstruction 0 6 := ⟨rfl, ⟨tw_678, tw_135, tw_681, cm_X6_kindOfInstruction, Nat.le_of_ble_eq_true rfl⟩, tw_680, tw_12, _, rfl, rfl⟩
theorem cm_X6_readInstruction : m_X6_readInstruction.1.cls ≠ "java/lang/invoke/MethodHandle" ∧ m_X6_readInstruction.1.cls ≠ "java/lang/invoke/VarHandle" ∧ (parseMethodDescriptor m_X6_readInstruction.1.desc).map (fun d => d.parameters.length) = some 2 := by decide +kernel
theorem cV_LitmusTester_Parser_135 : cV_ "LitmusTester$Parser" 135 m_X6_readInstruction 2 6 := ⟨rfl, ⟨tw_690, tw_135, tw_693, cm_X6_readInstruction, Nat.le_of_ble_eq_true rfl⟩, tw_692, tw_13, _, rfl, rfl⟩
theorem cm_X6_isFull : m_X6_isFull.1.cls ≠ "java/lang/invoke/MethodHandle" ∧ m_X6_isFull.1.cls ≠ "java/lang/invoke/VarHandle" ∧ (parseMethodDescriptor m_X6_isFull.1.desc).map (fun d => d.parameters.length) = some 2 := by decide +kernel
theorem cV_LitmusTester_Parser_151 : cV_ "LitmusTester$Parser" 151 m_X6_isFull 2 6 := ⟨rfl, ⟨tw_694, tw_135, tw_697, cm_X6_isFull, Nat.le_of_ble_eq_true rfl⟩, tw_696, tw_14, _, rfl, rfl⟩
theorem cm_X6_readTarget : m_X6_readTarget.1.cls ≠ "java/lang/invoke/MethodHandle" ∧ m_X6_readTarget.1.cls ≠ "java/lang/invoke/VarHandle" ∧ (parseMethodDescriptor m_X6_readTarget.1.desc).map (fun d => d.parameters.length) = some 1 := by decide +kernel
theorem cV_LitmusTester_Parser_154 : cV_ "LitmusTester$Parser" 154 m_X6_readTarget 1 6 := ⟨rfl, ⟨tw_719, tw_135, tw_722, cm_X6_readTarget, Nat.le_of_ble_eq_true rfl⟩, tw_721, tw_15, _, rfl, rfl⟩
theorem cm_X6_readValue : m_X6_readValue.1.cls ≠ "java/lang/invoke/MethodHandle" ∧ m_X6_readValue.1.cls ≠ "java/lang/invoke/VarHandle" ∧ (parseMethodDescriptor m_X6_readValue.1.desc).map (fun d => d.parameters.length) = some 1 := by decide +kernel
theorem cV_LitmusTester_Parser_160 : cV_ "LitmusTester$Parser" 160 m_X6_readValue 1 6 := ⟨rfl, ⟨tw_732, tw_135, tw_735, cm_X6_readValue, Nat.le_of_ble_eq_true rfl⟩, tw_734, tw_17, _, rfl, rfl⟩
theorem cm_X7_addInstruction : m_X7_addInstruction.1.cls ≠ "java/lang/invoke/MethodHandle" ∧ m_X7_addInstruction.1.cls ≠ "java/lang/invoke/VarHandle" ∧ (parseMethodDescriptor m_X7_addInstruction.1.desc).map (fun d => d.parameters.length) = some 5 := by decide +kernel
theorem cV_LitmusTester_Parser_163 : cV_ "LitmusTester$Parser" 163 m_X7_addInstruction 5 7 := ⟨rfl, ⟨tw_736, tw_134, tw_739, cm_X7_addInstruction, Nat.le_of_ble_eq_true rfl⟩, tw_737, tw_738, _, rfl, rfl⟩
theorem cm_X6_readLocation : m_X6_readLocation.1.cls ≠ "java/lang/invoke/MethodHandle" ∧ m_X6_readLocation.1.cls ≠ "java/lang/invoke/VarHandle" ∧ (parseMethodDescriptor m_X6_readLocation.1.desc).map (fun d => d.parameters.length) = some 0 := by decide +kernel
theorem cV_LitmusTester_Parser_157 : cV_ "LitmusTester$Parser" 157 m_X6_readLocation 0 6 := ⟨rfl, ⟨tw_728, tw_135, tw_731, cm_X6_readLocation, Nat.le_of_ble_eq_true rfl⟩, tw_730, tw_16, _, rfl, rfl⟩
theorem cV_LitmusTester_Parser_167 : cV_ "LitmusTester$Parser" 167 m_X7_sizeOf 1 7 := ⟨rfl, ⟨tw_698, tw_134, tw_701, cm_X7_sizeOf, Nat.le_of_ble_eq_true rfl⟩, tw_699, tw_700, _, rfl, rfl⟩
theorem cV_LitmusTester_Parser_171 : cV_ "LitmusTester$Parser" 171 m_X7_size 0 7 := ⟨rfl, ⟨tw_706, tw_134, tw_709, cm_X7_size, Nat.le_of_ble_eq_true rfl⟩, tw_707, tw_708, _, rfl, rfl⟩
theorem cm_X7_accessesOf : m_X7_accessesOf.1.cls ≠ "java/lang/invoke/MethodHandle" ∧ m_X7_accessesOf.1.cls ≠ "java/lang/invoke/VarHandle" ∧ (parseMethodDescriptor m_X7_accessesOf.1.desc).map (fun d => d.parameters.length) = some 1 := by decide +kernel
theorem cV_LitmusTester_Parser_174 : cV_ "LitmusTester$Parser" 174 m_X7_accessesOf 1 7 := ⟨rfl, ⟨tw_710, tw_134, tw_713, cm_X7_accessesOf, Nat.le_of_ble_eq_true rfl⟩, tw_711, tw_712, _, rfl, rfl⟩
theorem cm_X7_accesses : m_X7_accesses.1.cls ≠ "java/lang/invoke/MethodHandle" ∧ m_X7_accesses.1.cls ≠ "java/lang/invoke/VarHandle" ∧ (parseMethodDescriptor m_X7_accesses.1.desc).map (fun d => d.parameters.length) = some 0 := by decide +kernel
theorem cV_LitmusTester_Parser_177 : cV_ "LitmusTester$Parser" 177 m_X7_accesses 0 7 := ⟨rfl, ⟨tw_714, tw_134, tw_717, cm_X7_accesses, Nat.le_of_ble_eq_true rfl⟩, tw_715, tw_716, _, rfl, rfl⟩
theorem cm_X7_isTarget : m_X7_isTarget.1.cls ≠ "java/lang/invoke/MethodHandle" ∧ m_X7_isTarget.1.cls ≠ "java/lang/invoke/VarHandle" ∧ (parseMethodDescriptor m_X7_isTarget.1.desc).map (fun d => d.parameters.length) = some 2 := by decide +kernel
theorem cV_LitmusTester_Parser_183 : cV_ "LitmusTester$Parser" 183 m_X7_isTarget 2 7 := ⟨rfl, ⟨tw_724, tw_134, tw_727, cm_X7_isTarget, Nat.le_of_ble_eq_true rfl⟩, tw_725, tw_726, _, rfl, rfl⟩
theorem cm_X6_isPassed : m_X6_isPassed.1.cls ≠ "java/lang/invoke/MethodHandle" ∧ m_X6_isPassed.1.cls ≠ "java/lang/invoke/VarHandle" ∧ (parseMethodDescriptor m_X6_isPassed.1.desc).map (fun d => d.parameters.length) = some 1 := by decide +kernel
theorem cV_LitmusTester_Parser_195 : cV_ "LitmusTester$Parser" 195 m_X6_isPassed 1 6 := ⟨rfl, ⟨tw_799, tw_135, tw_802, cm_X6_isPassed, Nat.le_of_ble_eq_true rfl⟩, tw_801, tw_24, _, rfl, rfl⟩
theorem cm_X7_addToCondition : m_X7_addToCondition.1.cls ≠ "java/lang/invoke/MethodHandle" ∧ m_X7_addToCondition.1.cls ≠ "java/lang/invoke/VarHandle" ∧ (parseMethodDescriptor m_X7_addToCondition.1.desc).map (fun d => d.parameters.length) = some 1 := by decide +kernel
theorem cV_LitmusTester_Parser_189 : cV_ "LitmusTester$Parser" 189 m_X7_addToCondition 1 7 := ⟨rfl, ⟨tw_787, tw_134, tw_790, cm_X7_addToCondition, Nat.le_of_ble_eq_true rfl⟩, tw_788, tw_789, _, rfl, rfl⟩
theorem cm_X6_readUnit : m_X6_readUnit.1.cls ≠ "java/lang/invoke/MethodHandle" ∧ m_X6_readUnit.1.cls ≠ "java/lang/invoke/VarHandle" ∧ (parseMethodDescriptor m_X6_readUnit.1.desc).map (fun d => d.parameters.length) = some 1 := by decide +kernel
theorem cV_LitmusTester_Parser_186 : cV_ "LitmusTester$Parser" 186 m_X6_readUnit 1 6 := ⟨rfl, ⟨tw_750, tw_135, tw_753, cm_X6_readUnit, Nat.le_of_ble_eq_true rfl⟩, tw_752, tw_20, _, rfl, rfl⟩
theorem cm_X6_readComparison : m_X6_readComparison.1.cls ≠ "java/lang/invoke/MethodHandle" ∧ m_X6_readComparison.1.cls ≠ "java/lang/invoke/VarHandle" ∧ (parseMethodDescriptor m_X6_readComparison.1.desc).map (fun d => d.parameters.length) = some 0 := by decide +kernel
theorem cV_LitmusTester_Parser_207 : cV_ "LitmusTester$Parser" 207 m_X6_readComparison 0 6 := ⟨rfl, ⟨tw_758, tw_135, tw_761, cm_X6_readComparison, Nat.le_of_ble_eq_true rfl⟩, tw_760, tw_21, _, rfl, rfl⟩
theorem cm_X6_readNegated : m_X6_readNegated.1.cls ≠ "java/lang/invoke/MethodHandle" ∧ m_X6_readNegated.1.cls ≠ "java/lang/invoke/VarHandle" ∧ (parseMethodDescriptor m_X6_readNegated.1.desc).map (fun d => d.parameters.length) = some 1 := by decide +kernel
theorem cV_LitmusTester_Parser_210 : cV_ "LitmusTester$Parser" 210 m_X6_readNegated 1 6 := ⟨rfl, ⟨tw_791, tw_135, tw_794, cm_X6_readNegated, Nat.le_of_ble_eq_true rfl⟩, tw_793, tw_23, _, rfl, rfl⟩
theorem cV_LitmusTester_Parser_216 : cV_ "LitmusTester$Parser" 216 m_X7_locationShift 1 7 := ⟨rfl, ⟨tw_762, tw_134, tw_765, cm_X7_locationShift, Nat.le_of_ble_eq_true rfl⟩, tw_763, tw_764, _, rfl, rfl⟩
theorem cm_X7_comparison : m_X7_comparison.1.cls ≠ "java/lang/invoke/MethodHandle" ∧ m_X7_comparison.1.cls ≠ "java/lang/invoke/VarHandle" ∧ (parseMethodDescriptor m_X7_comparison.1.desc).map (fun d => d.parameters.length) = some 3 := by decide +kernel
theorem cS_LitmusTester_Parser_235 : cS_ "LitmusTester$Parser" 235 m_X7_comparison 3 := ⟨rfl, ⟨tw_784, tw_134, tw_786, cm_X7_comparison, Nat.le_of_ble_eq_true rfl⟩, tw_785⟩
theorem cm_X6_isTargetOf : m_X6_isTargetOf.1.cls ≠ "java/lang/invoke/MethodHandle" ∧ m_X6_isTargetOf.1.cls ≠ "java/lang/invoke/VarHandle" ∧ (parseMethodDescriptor m_X6_isTargetOf.1.desc).map (fun d => d.parameters.length) = some 1 := by decide +kernel
theorem cV_LitmusTester_Parser_222 : cV_ "LitmusTester$Parser" 222 m_X6_isTargetOf 1 6 := ⟨rfl, ⟨tw_768, tw_135, tw_771, cm_X6_isTargetOf, Nat.le_of_ble_eq_true rfl⟩, tw_770, tw_22, _, rfl, rfl⟩
theorem cV_LitmusTester_Parser_225 : cV_ "LitmusTester$Parser" 225 m_X7_registerShift 2 7 := ⟨rfl, ⟨tw_772, tw_134, tw_775, cm_X7_registerShift, Nat.le_of_ble_eq_true rfl⟩, tw_773, tw_774, _, rfl, rfl⟩
theorem cm_X7_setProperty : m_X7_setProperty.1.cls ≠ "java/lang/invoke/MethodHandle" ∧ m_X7_setProperty.1.cls ≠ "java/lang/invoke/VarHandle" ∧ (parseMethodDescriptor m_X7_setProperty.1.desc).map (fun d => d.parameters.length) = some 3 := by decide +kernel
theorem cV_LitmusTester_Program_44 : cV_ "LitmusTester$Program" 44 m_X7_setProperty 3 7 := ⟨rfl, ⟨tw_740, tw_134, tw_743, cm_X7_setProperty, Nat.le_of_ble_eq_true rfl⟩, tw_742, tw_18, _, rfl, rfl⟩
theorem cV_LitmusTester_Program_48 : cV_ "LitmusTester$Program" 48 m_X7_property 2 7 := ⟨rfl, ⟨tw_702, tw_134, tw_705, cm_X7_property, Nat.le_of_ble_eq_true rfl⟩, tw_703, tw_704, _, rfl, rfl⟩
theorem cV_LitmusTester_Program_52 : cV_ "LitmusTester$Program" 52 m_X7_accessesOf 1 7 := ⟨rfl, ⟨tw_718, tw_134, tw_713, cm_X7_accessesOf, Nat.le_of_ble_eq_true rfl⟩, tw_711, tw_712, _, rfl, rfl⟩
theorem cm_X7_codeBits : m_X7_codeBits.1.cls ≠ "java/lang/invoke/MethodHandle" ∧ m_X7_codeBits.1.cls ≠ "java/lang/invoke/VarHandle" ∧ (parseMethodDescriptor m_X7_codeBits.1.desc).map (fun d => d.parameters.length) = some 0 := by decide +kernel
theorem cV_LitmusTester_Program_56 : cV_ "LitmusTester$Program" 56 m_X7_codeBits 0 7 := ⟨rfl, ⟨tw_776, tw_134, tw_779, cm_X7_codeBits, Nat.le_of_ble_eq_true rfl⟩, tw_777, tw_778, _, rfl, rfl⟩
theorem cV_LitmusTester_Program_60 : cV_ "LitmusTester$Program" 60 m_X7_waits 0 7 := ⟨rfl, ⟨tw_1455, tw_134, tw_1140, cm_X7_waits, Nat.le_of_ble_eq_true rfl⟩, tw_1138, tw_1139, _, rfl, rfl⟩
theorem cm_X7_placeOfGap : m_X7_placeOfGap.1.cls ≠ "java/lang/invoke/MethodHandle" ∧ m_X7_placeOfGap.1.cls ≠ "java/lang/invoke/VarHandle" ∧ (parseMethodDescriptor m_X7_placeOfGap.1.desc).map (fun d => d.parameters.length) = some 1 := by decide +kernel
theorem cV_LitmusTester_Program_63 : cV_ "LitmusTester$Program" 63 m_X7_placeOfGap 1 7 := ⟨rfl, ⟨tw_1456, tw_134, tw_950, cm_X7_placeOfGap, Nat.le_of_ble_eq_true rfl⟩, tw_948, tw_949, _, rfl, rfl⟩
theorem cm_X7_isGapBefore : m_X7_isGapBefore.1.cls ≠ "java/lang/invoke/MethodHandle" ∧ m_X7_isGapBefore.1.cls ≠ "java/lang/invoke/VarHandle" ∧ (parseMethodDescriptor m_X7_isGapBefore.1.desc).map (fun d => d.parameters.length) = some 1 := by decide +kernel
theorem cV_LitmusTester_Program_66 : cV_ "LitmusTester$Program" 66 m_X7_isGapBefore 1 7 := ⟨rfl, ⟨tw_939, tw_134, tw_942, cm_X7_isGapBefore, Nat.le_of_ble_eq_true rfl⟩, tw_941, tw_31, _, rfl, rfl⟩
theorem cm_X9_useSlots : m_X9_useSlots.1.cls ≠ "java/lang/invoke/MethodHandle" ∧ m_X9_useSlots.1.cls ≠ "java/lang/invoke/VarHandle" ∧ (parseMethodDescriptor m_X9_useSlots.1.desc).map (fun d => d.parameters.length) = some 1 := by decide +kernel
theorem cV_LitmusTester_StateTable_29 : cV_ "LitmusTester$StateTable" 29 m_X9_useSlots 1 8 := ⟨rfl, ⟨tw_1176, tw_138, tw_1179, cm_X9_useSlots, Nat.le_of_ble_eq_true rfl⟩, tw_1178, tw_40, _, rfl, rfl⟩
theorem cV_LitmusTester_StateTable_37 : cV_ "LitmusTester$StateTable" 37 m_X9_stateAt 1 8 := ⟨rfl, ⟨tw_1205, tw_138, tw_1208, cm_X9_stateAt, Nat.le_of_ble_eq_true rfl⟩, tw_1206, tw_1207, _, rfl, rfl⟩
theorem cm_X9_slotOf : m_X9_slotOf.1.cls ≠ "java/lang/invoke/MethodHandle" ∧ m_X9_slotOf.1.cls ≠ "java/lang/invoke/VarHandle" ∧ (parseMethodDescriptor m_X9_slotOf.1.desc).map (fun d => d.parameters.length) = some 1 := by decide +kernel
theorem cV_LitmusTester_StateTable_41 : cV_ "LitmusTester$StateTable" 41 m_X9_slotOf 1 8 := ⟨rfl, ⟨tw_1210, tw_138, tw_1213, cm_X9_slotOf, Nat.le_of_ble_eq_true rfl⟩, tw_1212, tw_42, _, rfl, rfl⟩
theorem cm_X9_makeRoom : m_X9_makeRoom.1.cls ≠ "java/lang/invoke/MethodHandle" ∧ m_X9_makeRoom.1.cls ≠ "java/lang/invoke/VarHandle" ∧ (parseMethodDescriptor m_X9_makeRoom.1.desc).map (fun d => d.parameters.length) = some 0 := by decide +kernel
theorem cV_LitmusTester_StateTable_45 : cV_ "LitmusTester$StateTable" 45 m_X9_makeRoom 0 8 := ⟨rfl, ⟨tw_1188, tw_138, tw_1191, cm_X9_makeRoom, Nat.le_of_ble_eq_true rfl⟩, tw_1190, tw_41, _, rfl, rfl⟩
theorem cm_J7_copyOf_c38d5 : m_J7_copyOf_c38d5.1.cls ≠ "java/lang/invoke/MethodHandle" ∧ m_J7_copyOf_c38d5.1.cls ≠ "java/lang/invoke/VarHandle" ∧ (parseMethodDescriptor m_J7_copyOf_c38d5.1.desc).map (fun d => d.parameters.length) = some 2 := by decide +kernel
theorem cS_LitmusTester_StateTable_49 : cS_ "LitmusTester$StateTable" 49 m_J7_copyOf_c38d5 2 := ⟨rfl, ⟨tw_1193, tw_141, tw_1195, cm_J7_copyOf_c38d5, Nat.le_of_ble_eq_true rfl⟩, tw_1194⟩
theorem cm_X10_skipBlanks : m_X10_skipBlanks.1.cls ≠ "java/lang/invoke/MethodHandle" ∧ m_X10_skipBlanks.1.cls ≠ "java/lang/invoke/VarHandle" ∧ (parseMethodDescriptor m_X10_skipBlanks.1.desc).map (fun d => d.parameters.length) = some 0 := by decide +kernel
theorem cV_LitmusTester_Tokens_45 : cV_ "LitmusTester$Tokens" 45 m_X10_skipBlanks 0 9 := ⟨rfl, ⟨tw_514, tw_136, tw_517, cm_X10_skipBlanks, Nat.le_of_ble_eq_true rfl⟩, tw_516, tw_1, _, rfl, rfl⟩
theorem cm_X10_scanToken : m_X10_scanToken.1.cls ≠ "java/lang/invoke/MethodHandle" ∧ m_X10_scanToken.1.cls ≠ "java/lang/invoke/VarHandle" ∧ (parseMethodDescriptor m_X10_scanToken.1.desc).map (fun d => d.parameters.length) = some 1 := by decide +kernel
theorem cV_LitmusTester_Tokens_54 : cV_ "LitmusTester$Tokens" 54 m_X10_scanToken 1 9 := ⟨rfl, ⟨tw_521, tw_136, tw_524, cm_X10_scanToken, Nat.le_of_ble_eq_true rfl⟩, tw_523, tw_2, _, rfl, rfl⟩
theorem cm_X10_fixedSign : m_X10_fixedSign.1.cls ≠ "java/lang/invoke/MethodHandle" ∧ m_X10_fixedSign.1.cls ≠ "java/lang/invoke/VarHandle" ∧ (parseMethodDescriptor m_X10_fixedSign.1.desc).map (fun d => d.parameters.length) = some 2 := by decide +kernel
theorem cV_LitmusTester_Tokens_74 : cV_ "LitmusTester$Tokens" 74 m_X10_fixedSign 2 9 := ⟨rfl, ⟨tw_548, tw_136, tw_551, cm_X10_fixedSign, Nat.le_of_ble_eq_true rfl⟩, tw_550, tw_5, _, rfl, rfl⟩
theorem cm_X10_isDigit : m_X10_isDigit.1.cls ≠ "java/lang/invoke/MethodHandle" ∧ m_X10_isDigit.1.cls ≠ "java/lang/invoke/VarHandle" ∧ (parseMethodDescriptor m_X10_isDigit.1.desc).map (fun d => d.parameters.length) = some 1 := by decide +kernel
theorem cS_LitmusTester_Tokens_65 : cS_ "LitmusTester$Tokens" 65 m_X10_isDigit 1 := ⟨rfl, ⟨tw_532, tw_136, tw_534, cm_X10_isDigit, Nat.le_of_ble_eq_true rfl⟩, tw_533⟩
theorem cm_X10_scanNumber : m_X10_scanNumber.1.cls ≠ "java/lang/invoke/MethodHandle" ∧ m_X10_scanNumber.1.cls ≠ "java/lang/invoke/VarHandle" ∧ (parseMethodDescriptor m_X10_scanNumber.1.desc).map (fun d => d.parameters.length) = some 1 := by decide +kernel
theorem cV_LitmusTester_Tokens_68 : cV_ "LitmusTester$Tokens" 68 m_X10_scanNumber 1 9 := ⟨rfl, ⟨tw_602, tw_136, tw_605, cm_X10_scanNumber, Nat.le_of_ble_eq_true rfl⟩, tw_604, tw_6, _, rfl, rfl⟩
theorem cm_X10_isLetter : m_X10_isLetter.1.cls ≠ "java/lang/invoke/MethodHandle" ∧ m_X10_isLetter.1.cls ≠ "java/lang/invoke/VarHandle" ∧ (parseMethodDescriptor m_X10_isLetter.1.desc).map (fun d => d.parameters.length) = some 1 := by decide +kernel
theorem cS_LitmusTester_Tokens_58 : cS_ "LitmusTester$Tokens" 58 m_X10_isLetter 1 := ⟨rfl, ⟨tw_525, tw_136, tw_527, cm_X10_isLetter, Nat.le_of_ble_eq_true rfl⟩, tw_526⟩
theorem cm_X10_scanWord : m_X10_scanWord.1.cls ≠ "java/lang/invoke/MethodHandle" ∧ m_X10_scanWord.1.cls ≠ "java/lang/invoke/VarHandle" ∧ (parseMethodDescriptor m_X10_scanWord.1.desc).map (fun d => d.parameters.length) = some 1 := by decide +kernel
theorem cV_LitmusTester_Tokens_62 : cV_ "LitmusTester$Tokens" 62 m_X10_scanWord 1 9 := ⟨rfl, ⟨tw_528, tw_136, tw_531, cm_X10_scanWord, Nat.le_of_ble_eq_true rfl⟩, tw_530, tw_3, _, rfl, rfl⟩
theorem cm_X10_withLetter : m_X10_withLetter.1.cls ≠ "java/lang/invoke/MethodHandle" ∧ m_X10_withLetter.1.cls ≠ "java/lang/invoke/VarHandle" ∧ (parseMethodDescriptor m_X10_withLetter.1.desc).map (fun d => d.parameters.length) = some 2 := by decide +kernel
theorem cS_LitmusTester_Tokens_78 : cS_ "LitmusTester$Tokens" 78 m_X10_withLetter 2 := ⟨rfl, ⟨tw_535, tw_136, tw_537, cm_X10_withLetter, Nat.le_of_ble_eq_true rfl⟩, tw_536⟩
theorem cm_X10_setValue : m_X10_setValue.1.cls ≠ "java/lang/invoke/MethodHandle" ∧ m_X10_setValue.1.cls ≠ "java/lang/invoke/VarHandle" ∧ (parseMethodDescriptor m_X10_setValue.1.desc).map (fun d => d.parameters.length) = some 2 := by decide +kernel
theorem cV_LitmusTester_Tokens_82 : cV_ "LitmusTester$Tokens" 82 m_X10_setValue 2 9 := ⟨rfl, ⟨tw_540, tw_136, tw_543, cm_X10_setValue, Nat.le_of_ble_eq_true rfl⟩, tw_542, tw_4, _, rfl, rfl⟩
theorem cT_LitmusTester_Tokens_101 : cT_ "LitmusTester$Tokens" 101 m_J0_length_8abf5 0 := ⟨rfl, ⟨tw_554, tw_148, tw_557, cm_J0_length_8abf5, Nat.le_of_ble_eq_true rfl⟩, tw_555, tw_556, rfl⟩
theorem cT_LitmusTester_Tokens_106 : cT_ "LitmusTester$Tokens" 106 m_J0_charAt_5068e 1 := ⟨rfl, ⟨tw_564, tw_148, tw_567, cm_J0_charAt_5068e, Nat.le_of_ble_eq_true rfl⟩, tw_565, tw_566, rfl⟩
theorem cV_LitmusTester_Tokens_110 : cV_ "LitmusTester$Tokens" 110 m_X10_name 0 9 := ⟨rfl, ⟨tw_653, tw_136, tw_639, cm_X10_name, Nat.le_of_ble_eq_true rfl⟩, tw_637, tw_638, _, rfl, rfl⟩
theorem cV_LitmusTester_Tokens_114 : cV_ "LitmusTester$Tokens" 114 m_X10_sign 0 9 := ⟨rfl, ⟨tw_634, tw_136, tw_611, cm_X10_sign, Nat.le_of_ble_eq_true rfl⟩, tw_609, tw_610, _, rfl, rfl⟩
theorem cm_X11_putFourBytes : m_X11_putFourBytes.1.cls ≠ "java/lang/invoke/MethodHandle" ∧ m_X11_putFourBytes.1.cls ≠ "java/lang/invoke/VarHandle" ∧ (parseMethodDescriptor m_X11_putFourBytes.1.desc).map (fun d => d.parameters.length) = some 1 := by decide +kernel
theorem cV_LitmusTester_79 : cV_ "LitmusTester" 79 m_X11_putFourBytes 1 10 := ⟨rfl, ⟨tw_483, tw_132, tw_486, cm_X11_putFourBytes, Nat.le_of_ble_eq_true rfl⟩, tw_485, tw_0, _, rfl, rfl⟩
theorem cm_X6_parse : m_X6_parse.1.cls ≠ "java/lang/invoke/MethodHandle" ∧ m_X6_parse.1.cls ≠ "java/lang/invoke/VarHandle" ∧ (parseMethodDescriptor m_X6_parse.1.desc).map (fun d => d.parameters.length) = some 1 := by decide +kernel
theorem cV_LitmusTester_83 : cV_ "LitmusTester" 83 m_X6_parse 1 6 := ⟨rfl, ⟨tw_499, tw_135, tw_502, cm_X6_parse, Nat.le_of_ble_eq_true rfl⟩, tw_500, tw_501, _, rfl, rfl⟩
theorem cm_X7_copyFrom : m_X7_copyFrom.1.cls ≠ "java/lang/invoke/MethodHandle" ∧ m_X7_copyFrom.1.cls ≠ "java/lang/invoke/VarHandle" ∧ (parseMethodDescriptor m_X7_copyFrom.1.desc).map (fun d => d.parameters.length) = some 1 := by decide +kernel
theorem cV_LitmusTester_87 : cV_ "LitmusTester" 87 m_X7_copyFrom 1 7 := ⟨rfl, ⟨tw_806, tw_134, tw_809, cm_X7_copyFrom, Nat.le_of_ble_eq_true rfl⟩, tw_807, tw_808, _, rfl, rfl⟩
theorem cm_X0_clear : m_X0_clear.1.cls ≠ "java/lang/invoke/MethodHandle" ∧ m_X0_clear.1.cls ≠ "java/lang/invoke/VarHandle" ∧ (parseMethodDescriptor m_X0_clear.1.desc).map (fun d => d.parameters.length) = some 0 := by decide +kernel
theorem cV_LitmusTester_90 : cV_ "LitmusTester" 90 m_X0_clear 0 0 := ⟨rfl, ⟨tw_813, tw_142, tw_816, cm_X0_clear, Nat.le_of_ble_eq_true rfl⟩, tw_814, tw_815, _, rfl, rfl⟩
theorem cm_X11_forgetWhatWasFound : m_X11_forgetWhatWasFound.1.cls ≠ "java/lang/invoke/MethodHandle" ∧ m_X11_forgetWhatWasFound.1.cls ≠ "java/lang/invoke/VarHandle" ∧ (parseMethodDescriptor m_X11_forgetWhatWasFound.1.desc).map (fun d => d.parameters.length) = some 0 := by decide +kernel
theorem cV_LitmusTester_93 : cV_ "LitmusTester" 93 m_X11_forgetWhatWasFound 0 10 := ⟨rfl, ⟨tw_817, tw_132, tw_820, cm_X11_forgetWhatWasFound, Nat.le_of_ble_eq_true rfl⟩, tw_819, tw_25, _, rfl, rfl⟩
theorem cV_LitmusTester_96 : cV_ "LitmusTester" 96 m_X7_size 0 7 := ⟨rfl, ⟨tw_829, tw_134, tw_709, cm_X7_size, Nat.le_of_ble_eq_true rfl⟩, tw_707, tw_708, _, rfl, rfl⟩
theorem cm_X3_forget : m_X3_forget.1.cls ≠ "java/lang/invoke/MethodHandle" ∧ m_X3_forget.1.cls ≠ "java/lang/invoke/VarHandle" ∧ (parseMethodDescriptor m_X3_forget.1.desc).map (fun d => d.parameters.length) = some 0 := by decide +kernel
theorem cV_LitmusTester_100 : cV_ "LitmusTester" 100 m_X3_forget 0 3 := ⟨rfl, ⟨tw_821, tw_140, tw_824, cm_X3_forget, Nat.le_of_ble_eq_true rfl⟩, tw_822, tw_823, _, rfl, rfl⟩
theorem cV_LitmusTester_103 : cV_ "LitmusTester" 103 m_X1_forget 0 1 := ⟨rfl, ⟨tw_825, tw_143, tw_828, cm_X1_forget, Nat.le_of_ble_eq_true rfl⟩, tw_826, tw_827, _, rfl, rfl⟩
theorem cV_LitmusTester_104 : cV_ "LitmusTester" 104 m_X7_threads 0 7 := ⟨rfl, ⟨tw_834, tw_134, tw_673, cm_X7_threads, Nat.le_of_ble_eq_true rfl⟩, tw_671, tw_672, _, rfl, rfl⟩
theorem cV_LitmusTester_107 : cV_ "LitmusTester" 107 m_X7_locations 0 7 := ⟨rfl, ⟨tw_839, tw_134, tw_621, cm_X7_locations, Nat.le_of_ble_eq_true rfl⟩, tw_619, tw_620, _, rfl, rfl⟩
theorem cm_X11_requireInstruction : m_X11_requireInstruction.1.cls ≠ "java/lang/invoke/MethodHandle" ∧ m_X11_requireInstruction.1.cls ≠ "java/lang/invoke/VarHandle" ∧ (parseMethodDescriptor m_X11_requireInstruction.1.desc).map (fun d => d.parameters.length) = some 1 := by decide +kernel
theorem cV_LitmusTester_110 : cV_ "LitmusTester" 110 m_X11_requireInstruction 1 10 := ⟨rfl, ⟨tw_996, tw_132, tw_999, cm_X11_requireInstruction, Nat.le_of_ble_eq_true rfl⟩, tw_998, tw_32, _, rfl, rfl⟩
theorem cV_LitmusTester_113 : cV_ "LitmusTester" 113 m_X7_property 2 7 := ⟨rfl, ⟨tw_1068, tw_134, tw_705, cm_X7_property, Nat.le_of_ble_eq_true rfl⟩, tw_703, tw_704, _, rfl, rfl⟩
theorem cV_LitmusTester_134 : cV_ "LitmusTester" 134 m_X7_locationNamed 1 7 := ⟨rfl, ⟨tw_850, tw_134, tw_643, cm_X7_locationNamed, Nat.le_of_ble_eq_true rfl⟩, tw_641, tw_642, _, rfl, rfl⟩
theorem cS_LitmusTester_124 : cS_ "LitmusTester" 124 m_X10_isLetter 1 := ⟨rfl, ⟨tw_848, tw_136, tw_527, cm_X10_isLetter, Nat.le_of_ble_eq_true rfl⟩, tw_526⟩
theorem cS_LitmusTester_130 : cS_ "LitmusTester" 130 m_X10_withLetter 2 := ⟨rfl, ⟨tw_849, tw_136, tw_537, cm_X10_withLetter, Nat.le_of_ble_eq_true rfl⟩, tw_536⟩
theorem cm_X5_clear : m_X5_clear.1.cls ≠ "java/lang/invoke/MethodHandle" ∧ m_X5_clear.1.cls ≠ "java/lang/invoke/VarHandle" ∧ (parseMethodDescriptor m_X5_clear.1.desc).map (fun d => d.parameters.length) = some 0 := by decide +kernel
theorem cV_LitmusTester_138 : cV_ "LitmusTester" 138 m_X5_clear 0 5 := ⟨rfl, ⟨tw_855, tw_133, tw_858, cm_X5_clear, Nat.le_of_ble_eq_true rfl⟩, tw_856, tw_857, _, rfl, rfl⟩
theorem cm_X5_putDeclaration : m_X5_putDeclaration.1.cls ≠ "java/lang/invoke/MethodHandle" ∧ m_X5_putDeclaration.1.cls ≠ "java/lang/invoke/VarHandle" ∧ (parseMethodDescriptor m_X5_putDeclaration.1.desc).map (fun d => d.parameters.length) = some 2 := by decide +kernel
theorem cV_LitmusTester_139 : cV_ "LitmusTester" 139 m_X5_putDeclaration 2 5 := ⟨rfl, ⟨tw_859, tw_133, tw_862, cm_X5_putDeclaration, Nat.le_of_ble_eq_true rfl⟩, tw_860, tw_861, _, rfl, rfl⟩
theorem cm_X5_length : m_X5_length.1.cls ≠ "java/lang/invoke/MethodHandle" ∧ m_X5_length.1.cls ≠ "java/lang/invoke/VarHandle" ∧ (parseMethodDescriptor m_X5_length.1.desc).map (fun d => d.parameters.length) = some 0 := by decide +kernel
theorem cV_LitmusTester_154 : cV_ "LitmusTester" 154 m_X5_length 0 5 := ⟨rfl, ⟨tw_910, tw_133, tw_913, cm_X5_length, Nat.le_of_ble_eq_true rfl⟩, tw_911, tw_912, _, rfl, rfl⟩
theorem cm_X5_putLine : m_X5_putLine.1.cls ≠ "java/lang/invoke/MethodHandle" ∧ m_X5_putLine.1.cls ≠ "java/lang/invoke/VarHandle" ∧ (parseMethodDescriptor m_X5_putLine.1.desc).map (fun d => d.parameters.length) = some 1 := by decide +kernel
theorem cV_LitmusTester_145 : cV_ "LitmusTester" 145 m_X5_putLine 1 5 := ⟨rfl, ⟨tw_891, tw_133, tw_894, cm_X5_putLine, Nat.le_of_ble_eq_true rfl⟩, tw_892, tw_893, _, rfl, rfl⟩
theorem cV_LitmusTester_148 : cV_ "LitmusTester" 148 m_X7_sizeOf 1 7 := ⟨rfl, ⟨tw_895, tw_134, tw_701, cm_X7_sizeOf, Nat.le_of_ble_eq_true rfl⟩, tw_699, tw_700, _, rfl, rfl⟩
theorem cm_X5_putInstruction : m_X5_putInstruction.1.cls ≠ "java/lang/invoke/MethodHandle" ∧ m_X5_putInstruction.1.cls ≠ "java/lang/invoke/VarHandle" ∧ (parseMethodDescriptor m_X5_putInstruction.1.desc).map (fun d => d.parameters.length) = some 2 := by decide +kernel
theorem cV_LitmusTester_151 : cV_ "LitmusTester" 151 m_X5_putInstruction 2 5 := ⟨rfl, ⟨tw_896, tw_133, tw_899, cm_X5_putInstruction, Nat.le_of_ble_eq_true rfl⟩, tw_897, tw_898, _, rfl, rfl⟩
theorem cm_X5_byteAt : m_X5_byteAt.1.cls ≠ "java/lang/invoke/MethodHandle" ∧ m_X5_byteAt.1.cls ≠ "java/lang/invoke/VarHandle" ∧ (parseMethodDescriptor m_X5_byteAt.1.desc).map (fun d => d.parameters.length) = some 1 := by decide +kernel
theorem cV_LitmusTester_162 : cV_ "LitmusTester" 162 m_X5_byteAt 1 5 := ⟨rfl, ⟨tw_1093, tw_133, tw_1096, cm_X5_byteAt, Nat.le_of_ble_eq_true rfl⟩, tw_1094, tw_1095, _, rfl, rfl⟩
theorem cm_X11_kept : m_X11_kept.1.cls ≠ "java/lang/invoke/MethodHandle" ∧ m_X11_kept.1.cls ≠ "java/lang/invoke/VarHandle" ∧ (parseMethodDescriptor m_X11_kept.1.desc).map (fun d => d.parameters.length) = some 1 := by decide +kernel
theorem cV_LitmusTester_170 : cV_ "LitmusTester" 170 m_X11_kept 1 10 := ⟨rfl, ⟨tw_1129, tw_132, tw_1132, cm_X11_kept, Nat.le_of_ble_eq_true rfl⟩, tw_1131, tw_36, _, rfl, rfl⟩
theorem cm_X3_isKnown : m_X3_isKnown.1.cls ≠ "java/lang/invoke/MethodHandle" ∧ m_X3_isKnown.1.cls ≠ "java/lang/invoke/VarHandle" ∧ (parseMethodDescriptor m_X3_isKnown.1.desc).map (fun d => d.parameters.length) = some 0 := by decide +kernel
theorem cV_LitmusTester_174 : cV_ "LitmusTester" 174 m_X3_isKnown 0 3 := ⟨rfl, ⟨tw_1133, tw_140, tw_1136, cm_X3_isKnown, Nat.le_of_ble_eq_true rfl⟩, tw_1134, tw_1135, _, rfl, rfl⟩
theorem cV_LitmusTester_178 : cV_ "LitmusTester" 178 m_X7_waits 0 7 := ⟨rfl, ⟨tw_1137, tw_134, tw_1140, cm_X7_waits, Nat.le_of_ble_eq_true rfl⟩, tw_1138, tw_1139, _, rfl, rfl⟩
theorem cm_X2_explore : m_X2_explore.1.cls ≠ "java/lang/invoke/MethodHandle" ∧ m_X2_explore.1.cls ≠ "java/lang/invoke/VarHandle" ∧ (parseMethodDescriptor m_X2_explore.1.desc).map (fun d => d.parameters.length) = some 2 := by decide +kernel
theorem cV_LitmusTester_181 : cV_ "LitmusTester" 181 m_X2_explore 2 2 := ⟨rfl, ⟨tw_1141, tw_137, tw_1144, cm_X2_explore, Nat.le_of_ble_eq_true rfl⟩, tw_1142, tw_1143, _, rfl, rfl⟩
theorem cm_X2_report : m_X2_report.1.cls ≠ "java/lang/invoke/MethodHandle" ∧ m_X2_report.1.cls ≠ "java/lang/invoke/VarHandle" ∧ (parseMethodDescriptor m_X2_report.1.desc).map (fun d => d.parameters.length) = some 1 := by decide +kernel
theorem cV_LitmusTester_185 : cV_ "LitmusTester" 185 m_X2_report 1 2 := ⟨rfl, ⟨tw_1281, tw_137, tw_1284, cm_X2_report, Nat.le_of_ble_eq_true rfl⟩, tw_1282, tw_1283, _, rfl, rfl⟩
theorem cm_X11_requireModel : m_X11_requireModel.1.cls ≠ "java/lang/invoke/MethodHandle" ∧ m_X11_requireModel.1.cls ≠ "java/lang/invoke/VarHandle" ∧ (parseMethodDescriptor m_X11_requireModel.1.desc).map (fun d => d.parameters.length) = some 1 := by decide +kernel
theorem cV_LitmusTester_189 : cV_ "LitmusTester" 189 m_X11_requireModel 1 10 := ⟨rfl, ⟨tw_1105, tw_132, tw_1108, cm_X11_requireModel, Nat.le_of_ble_eq_true rfl⟩, tw_1107, tw_34, _, rfl, rfl⟩
theorem cm_X11_findings : m_X11_findings.1.cls ≠ "java/lang/invoke/MethodHandle" ∧ m_X11_findings.1.cls ≠ "java/lang/invoke/VarHandle" ∧ (parseMethodDescriptor m_X11_findings.1.desc).map (fun d => d.parameters.length) = some 1 := by decide +kernel
theorem cV_LitmusTester_192 : cV_ "LitmusTester" 192 m_X11_findings 1 10 := ⟨rfl, ⟨tw_1125, tw_132, tw_1128, cm_X11_findings, Nat.le_of_ble_eq_true rfl⟩, tw_1127, tw_35, _, rfl, rfl⟩
theorem cm_X3_size : m_X3_size.1.cls ≠ "java/lang/invoke/MethodHandle" ∧ m_X3_size.1.cls ≠ "java/lang/invoke/VarHandle" ∧ (parseMethodDescriptor m_X3_size.1.desc).map (fun d => d.parameters.length) = some 0 := by decide +kernel
theorem cV_LitmusTester_195 : cV_ "LitmusTester" 195 m_X3_size 0 3 := ⟨rfl, ⟨tw_1310, tw_140, tw_1313, cm_X3_size, Nat.le_of_ble_eq_true rfl⟩, tw_1311, tw_1312, _, rfl, rfl⟩
theorem cV_LitmusTester_196 : cV_ "LitmusTester" 196 m_X3_codeAt 1 3 := ⟨rfl, ⟨tw_1321, tw_140, tw_1324, cm_X3_codeAt, Nat.le_of_ble_eq_true rfl⟩, tw_1322, tw_1323, _, rfl, rfl⟩
theorem cm_X3_placeOf : m_X3_placeOf.1.cls ≠ "java/lang/invoke/MethodHandle" ∧ m_X3_placeOf.1.cls ≠ "java/lang/invoke/VarHandle" ∧ (parseMethodDescriptor m_X3_placeOf.1.desc).map (fun d => d.parameters.length) = some 1 := by decide +kernel
theorem cV_LitmusTester_199 : cV_ "LitmusTester" 199 m_X3_placeOf 1 3 := ⟨rfl, ⟨tw_1332, tw_140, tw_1335, cm_X3_placeOf, Nat.le_of_ble_eq_true rfl⟩, tw_1333, tw_1334, _, rfl, rfl⟩
theorem cV_LitmusTester_202 : cV_ "LitmusTester" 202 m_X7_codeBits 0 7 := ⟨rfl, ⟨tw_918, tw_134, tw_779, cm_X7_codeBits, Nat.le_of_ble_eq_true rfl⟩, tw_777, tw_778, _, rfl, rfl⟩
theorem cV_LitmusTester_205 : cV_ "LitmusTester" 205 m_X7_isFulfilledBy 1 7 := ⟨rfl, ⟨tw_919, tw_134, tw_922, cm_X7_isFulfilledBy, Nat.le_of_ble_eq_true rfl⟩, tw_920, tw_921, _, rfl, rfl⟩
theorem cm_X3_states : m_X3_states.1.cls ≠ "java/lang/invoke/MethodHandle" ∧ m_X3_states.1.cls ≠ "java/lang/invoke/VarHandle" ∧ (parseMethodDescriptor m_X3_states.1.desc).map (fun d => d.parameters.length) = some 0 := by decide +kernel
theorem cV_LitmusTester_208 : cV_ "LitmusTester" 208 m_X3_states 0 3 := ⟨rfl, ⟨tw_1365, tw_140, tw_1368, cm_X3_states, Nat.le_of_ble_eq_true rfl⟩, tw_1366, tw_1367, _, rfl, rfl⟩
theorem cm_X3_executionsAt : m_X3_executionsAt.1.cls ≠ "java/lang/invoke/MethodHandle" ∧ m_X3_executionsAt.1.cls ≠ "java/lang/invoke/VarHandle" ∧ (parseMethodDescriptor m_X3_executionsAt.1.desc).map (fun d => d.parameters.length) = some 1 := by decide +kernel
theorem cV_LitmusTester_211 : cV_ "LitmusTester" 211 m_X3_executionsAt 1 3 := ⟨rfl, ⟨tw_1376, tw_140, tw_1379, cm_X3_executionsAt, Nat.le_of_ble_eq_true rfl⟩, tw_1377, tw_1378, _, rfl, rfl⟩
theorem cV_LitmusTester_217 : cV_ "LitmusTester" 217 m_X7_registerShift 2 7 := ⟨rfl, ⟨tw_1395, tw_134, tw_775, cm_X7_registerShift, Nat.le_of_ble_eq_true rfl⟩, tw_773, tw_774, _, rfl, rfl⟩
theorem cm_X3_valuesAt : m_X3_valuesAt.1.cls ≠ "java/lang/invoke/MethodHandle" ∧ m_X3_valuesAt.1.cls ≠ "java/lang/invoke/VarHandle" ∧ (parseMethodDescriptor m_X3_valuesAt.1.desc).map (fun d => d.parameters.length) = some 1 := by decide +kernel
theorem cV_LitmusTester_220 : cV_ "LitmusTester" 220 m_X3_valuesAt 1 3 := ⟨rfl, ⟨tw_1396, tw_140, tw_1399, cm_X3_valuesAt, Nat.le_of_ble_eq_true rfl⟩, tw_1397, tw_1398, _, rfl, rfl⟩
theorem cm_X11_requireLocation : m_X11_requireLocation.1.cls ≠ "java/lang/invoke/MethodHandle" ∧ m_X11_requireLocation.1.cls ≠ "java/lang/invoke/VarHandle" ∧ (parseMethodDescriptor m_X11_requireLocation.1.desc).map (fun d => d.parameters.length) = some 1 := by decide +kernel
theorem cV_LitmusTester_223 : cV_ "LitmusTester" 223 m_X11_requireLocation 1 10 := ⟨rfl, ⟨tw_1407, tw_132, tw_1410, cm_X11_requireLocation, Nat.le_of_ble_eq_true rfl⟩, tw_1409, tw_48, _, rfl, rfl⟩
theorem cV_LitmusTester_226 : cV_ "LitmusTester" 226 m_X7_locationShift 1 7 := ⟨rfl, ⟨tw_1412, tw_134, tw_765, cm_X7_locationShift, Nat.le_of_ble_eq_true rfl⟩, tw_763, tw_764, _, rfl, rfl⟩
theorem cm_X7_mostStoresBuffered : m_X7_mostStoresBuffered.1.cls ≠ "java/lang/invoke/MethodHandle" ∧ m_X7_mostStoresBuffered.1.cls ≠ "java/lang/invoke/VarHandle" ∧ (parseMethodDescriptor m_X7_mostStoresBuffered.1.desc).map (fun d => d.parameters.length) = some 1 := by decide +kernel
theorem cV_LitmusTester_233 : cV_ "LitmusTester" 233 m_X7_mostStoresBuffered 1 7 := ⟨rfl, ⟨tw_1421, tw_134, tw_1424, cm_X7_mostStoresBuffered, Nat.le_of_ble_eq_true rfl⟩, tw_1422, tw_1423, _, rfl, rfl⟩
theorem cm_X7_isRacing : m_X7_isRacing.1.cls ≠ "java/lang/invoke/MethodHandle" ∧ m_X7_isRacing.1.cls ≠ "java/lang/invoke/VarHandle" ∧ (parseMethodDescriptor m_X7_isRacing.1.desc).map (fun d => d.parameters.length) = some 2 := by decide +kernel
theorem cV_LitmusTester_236 : cV_ "LitmusTester" 236 m_X7_isRacing 2 7 := ⟨rfl, ⟨tw_927, tw_134, tw_930, cm_X7_isRacing, Nat.le_of_ble_eq_true rfl⟩, tw_928, tw_929, _, rfl, rfl⟩
theorem cm_X7_gaps : m_X7_gaps.1.cls ≠ "java/lang/invoke/MethodHandle" ∧ m_X7_gaps.1.cls ≠ "java/lang/invoke/VarHandle" ∧ (parseMethodDescriptor m_X7_gaps.1.desc).map (fun d => d.parameters.length) = some 0 := by decide +kernel
theorem cV_LitmusTester_240 : cV_ "LitmusTester" 240 m_X7_gaps 0 7 := ⟨rfl, ⟨tw_935, tw_134, tw_938, cm_X7_gaps, Nat.le_of_ble_eq_true rfl⟩, tw_936, tw_937, _, rfl, rfl⟩
theorem cV_LitmusTester_243 : cV_ "LitmusTester" 243 m_X7_placeOfGap 1 7 := ⟨rfl, ⟨tw_947, tw_134, tw_950, cm_X7_placeOfGap, Nat.le_of_ble_eq_true rfl⟩, tw_948, tw_949, _, rfl, rfl⟩
theorem cm_X11_tryFences : m_X11_tryFences.1.cls ≠ "java/lang/invoke/MethodHandle" ∧ m_X11_tryFences.1.cls ≠ "java/lang/invoke/VarHandle" ∧ (parseMethodDescriptor m_X11_tryFences.1.desc).map (fun d => d.parameters.length) = some 2 := by decide +kernel
theorem cV_LitmusTester_248 : cV_ "LitmusTester" 248 m_X11_tryFences 2 10 := ⟨rfl, ⟨tw_1443, tw_132, tw_1446, cm_X11_tryFences, Nat.le_of_ble_eq_true rfl⟩, tw_1445, tw_49, _, rfl, rfl⟩
theorem cm_X3_fencedMatches : m_X3_fencedMatches.1.cls ≠ "java/lang/invoke/MethodHandle" ∧ m_X3_fencedMatches.1.cls ≠ "java/lang/invoke/VarHandle" ∧ (parseMethodDescriptor m_X3_fencedMatches.1.desc).map (fun d => d.parameters.length) = some 1 := by decide +kernel
theorem cV_LitmusTester_251 : cV_ "LitmusTester" 251 m_X3_fencedMatches 1 3 := ⟨rfl, ⟨tw_1467, tw_140, tw_1470, cm_X3_fencedMatches, Nat.le_of_ble_eq_true rfl⟩, tw_1468, tw_1469, _, rfl, rfl⟩
theorem cm_X3_fencedOutcomes : m_X3_fencedOutcomes.1.cls ≠ "java/lang/invoke/MethodHandle" ∧ m_X3_fencedOutcomes.1.cls ≠ "java/lang/invoke/VarHandle" ∧ (parseMethodDescriptor m_X3_fencedOutcomes.1.desc).map (fun d => d.parameters.length) = some 1 := by decide +kernel
theorem cV_LitmusTester_254 : cV_ "LitmusTester" 254 m_X3_fencedOutcomes 1 3 := ⟨rfl, ⟨tw_1447, tw_140, tw_1450, cm_X3_fencedOutcomes, Nat.le_of_ble_eq_true rfl⟩, tw_1448, tw_1449, _, rfl, rfl⟩
theorem cm_X7_waitsWith : m_X7_waitsWith.1.cls ≠ "java/lang/invoke/MethodHandle" ∧ m_X7_waitsWith.1.cls ≠ "java/lang/invoke/VarHandle" ∧ (parseMethodDescriptor m_X7_waitsWith.1.desc).map (fun d => d.parameters.length) = some 1 := by decide +kernel
theorem cV_LitmusTester_257 : cV_ "LitmusTester" 257 m_X7_waitsWith 1 7 := ⟨rfl, ⟨tw_1451, tw_134, tw_1454, cm_X7_waitsWith, Nat.le_of_ble_eq_true rfl⟩, tw_1452, tw_1453, _, rfl, rfl⟩
theorem cV_LitmusTester_260 : cV_ "LitmusTester" 260 m_X2_outcomes 0 2 := ⟨rfl, ⟨tw_1457, tw_137, tw_1288, cm_X2_outcomes, Nat.le_of_ble_eq_true rfl⟩, tw_1286, tw_1287, _, rfl, rfl⟩
theorem cm_X2_matches : m_X2_matches.1.cls ≠ "java/lang/invoke/MethodHandle" ∧ m_X2_matches.1.cls ≠ "java/lang/invoke/VarHandle" ∧ (parseMethodDescriptor m_X2_matches.1.desc).map (fun d => d.parameters.length) = some 0 := by decide +kernel
theorem cV_LitmusTester_263 : cV_ "LitmusTester" 263 m_X2_matches 0 2 := ⟨rfl, ⟨tw_1458, tw_137, tw_1461, cm_X2_matches, Nat.le_of_ble_eq_true rfl⟩, tw_1459, tw_1460, _, rfl, rfl⟩
theorem cm_X3_keepFenced : m_X3_keepFenced.1.cls ≠ "java/lang/invoke/MethodHandle" ∧ m_X3_keepFenced.1.cls ≠ "java/lang/invoke/VarHandle" ∧ (parseMethodDescriptor m_X3_keepFenced.1.desc).map (fun d => d.parameters.length) = some 3 := by decide +kernel
theorem cV_LitmusTester_266 : cV_ "LitmusTester" 266 m_X3_keepFenced 3 3 := ⟨rfl, ⟨tw_1463, tw_140, tw_1466, cm_X3_keepFenced, Nat.le_of_ble_eq_true rfl⟩, tw_1464, tw_1465, _, rfl, rfl⟩
theorem cm_X11_matchCount : m_X11_matchCount.1.cls ≠ "java/lang/invoke/MethodHandle" ∧ m_X11_matchCount.1.cls ≠ "java/lang/invoke/VarHandle" ∧ (parseMethodDescriptor m_X11_matchCount.1.desc).map (fun d => d.parameters.length) = some 1 := by decide +kernel
theorem cV_LitmusTester_270 : cV_ "LitmusTester" 270 m_X11_matchCount 1 10 := ⟨rfl, ⟨tw_1478, tw_132, tw_1350, cm_X11_matchCount, Nat.le_of_ble_eq_true rfl⟩, tw_1348, tw_1349, _, rfl, rfl⟩
theorem cm_X11_smallestSet : m_X11_smallestSet.1.cls ≠ "java/lang/invoke/MethodHandle" ∧ m_X11_smallestSet.1.cls ≠ "java/lang/invoke/VarHandle" ∧ (parseMethodDescriptor m_X11_smallestSet.1.desc).map (fun d => d.parameters.length) = some 2 := by decide +kernel
theorem cV_LitmusTester_273 : cV_ "LitmusTester" 273 m_X11_smallestSet 2 10 := ⟨rfl, ⟨tw_1479, tw_132, tw_1482, cm_X11_smallestSet, Nat.le_of_ble_eq_true rfl⟩, tw_1481, tw_50, _, rfl, rfl⟩
theorem cS_LitmusTester_277 : cS_ "LitmusTester" 277 m_J6_bitCount_0f7a4 1 := ⟨rfl, ⟨tw_1483, tw_159, tw_1255, cm_J6_bitCount_0f7a4, Nat.le_of_ble_eq_true rfl⟩, tw_1254⟩
theorem cm_X11_requireFence : m_X11_requireFence.1.cls ≠ "java/lang/invoke/MethodHandle" ∧ m_X11_requireFence.1.cls ≠ "java/lang/invoke/VarHandle" ∧ (parseMethodDescriptor m_X11_requireFence.1.desc).map (fun d => d.parameters.length) = some 1 := by decide +kernel
theorem cV_LitmusTester_282 : cV_ "LitmusTester" 282 m_X11_requireFence 1 10 := ⟨rfl, ⟨tw_1498, tw_132, tw_1501, cm_X11_requireFence, Nat.le_of_ble_eq_true rfl⟩, tw_1500, tw_51, _, rfl, rfl⟩
theorem cm_X7_putFence : m_X7_putFence.1.cls ≠ "java/lang/invoke/MethodHandle" ∧ m_X7_putFence.1.cls ≠ "java/lang/invoke/VarHandle" ∧ (parseMethodDescriptor m_X7_putFence.1.desc).map (fun d => d.parameters.length) = some 2 := by decide +kernel
theorem cV_LitmusTester_292 : cV_ "LitmusTester" 292 m_X7_putFence 2 7 := ⟨rfl, ⟨tw_972, tw_134, tw_975, cm_X7_putFence, Nat.le_of_ble_eq_true rfl⟩, tw_973, tw_974, _, rfl, rfl⟩
theorem cm_X0_inserted : m_X0_inserted.1.cls ≠ "java/lang/invoke/MethodHandle" ∧ m_X0_inserted.1.cls ≠ "java/lang/invoke/VarHandle" ∧ (parseMethodDescriptor m_X0_inserted.1.desc).map (fun d => d.parameters.length) = some 1 := by decide +kernel
theorem cS_LitmusTester_295 : cS_ "LitmusTester" 295 m_X0_inserted 1 := ⟨rfl, ⟨tw_1527, tw_142, tw_1529, cm_X0_inserted, Nat.le_of_ble_eq_true rfl⟩, tw_1528⟩
theorem cm_X0_add : m_X0_add.1.cls ≠ "java/lang/invoke/MethodHandle" ∧ m_X0_add.1.cls ≠ "java/lang/invoke/VarHandle" ∧ (parseMethodDescriptor m_X0_add.1.desc).map (fun d => d.parameters.length) = some 1 := by decide +kernel
theorem cV_LitmusTester_298 : cV_ "LitmusTester" 298 m_X0_add 1 0 := ⟨rfl, ⟨tw_1530, tw_142, tw_1533, cm_X0_add, Nat.le_of_ble_eq_true rfl⟩, tw_1531, tw_1532, _, rfl, rfl⟩
theorem cm_X0_removed : m_X0_removed.1.cls ≠ "java/lang/invoke/MethodHandle" ∧ m_X0_removed.1.cls ≠ "java/lang/invoke/VarHandle" ∧ (parseMethodDescriptor m_X0_removed.1.desc).map (fun d => d.parameters.length) = some 2 := by decide +kernel
theorem cS_LitmusTester_301 : cS_ "LitmusTester" 301 m_X0_removed 2 := ⟨rfl, ⟨tw_1542, tw_142, tw_1544, cm_X0_removed, Nat.le_of_ble_eq_true rfl⟩, tw_1543⟩
theorem cm_X7_dropInstruction : m_X7_dropInstruction.1.cls ≠ "java/lang/invoke/MethodHandle" ∧ m_X7_dropInstruction.1.cls ≠ "java/lang/invoke/VarHandle" ∧ (parseMethodDescriptor m_X7_dropInstruction.1.desc).map (fun d => d.parameters.length) = some 1 := by decide +kernel
theorem cV_LitmusTester_304 : cV_ "LitmusTester" 304 m_X7_dropInstruction 1 7 := ⟨rfl, ⟨tw_965, tw_134, tw_968, cm_X7_dropInstruction, Nat.le_of_ble_eq_true rfl⟩, tw_966, tw_967, _, rfl, rfl⟩
theorem cm_X0_takeLatest : m_X0_takeLatest.1.cls ≠ "java/lang/invoke/MethodHandle" ∧ m_X0_takeLatest.1.cls ≠ "java/lang/invoke/VarHandle" ∧ (parseMethodDescriptor m_X0_takeLatest.1.desc).map (fun d => d.parameters.length) = some 0 := by decide +kernel
theorem cV_LitmusTester_307 : cV_ "LitmusTester" 307 m_X0_takeLatest 0 0 := ⟨rfl, ⟨tw_955, tw_142, tw_958, cm_X0_takeLatest, Nat.le_of_ble_eq_true rfl⟩, tw_956, tw_957, _, rfl, rfl⟩
theorem cm_X0_isInsertion : m_X0_isInsertion.1.cls ≠ "java/lang/invoke/MethodHandle" ∧ m_X0_isInsertion.1.cls ≠ "java/lang/invoke/VarHandle" ∧ (parseMethodDescriptor m_X0_isInsertion.1.desc).map (fun d => d.parameters.length) = some 1 := by decide +kernel
theorem cS_LitmusTester_310 : cS_ "LitmusTester" 310 m_X0_isInsertion 1 := ⟨rfl, ⟨tw_959, tw_142, tw_961, cm_X0_isInsertion, Nat.le_of_ble_eq_true rfl⟩, tw_960⟩
theorem cm_X0_place : m_X0_place.1.cls ≠ "java/lang/invoke/MethodHandle" ∧ m_X0_place.1.cls ≠ "java/lang/invoke/VarHandle" ∧ (parseMethodDescriptor m_X0_place.1.desc).map (fun d => d.parameters.length) = some 1 := by decide +kernel
theorem cS_LitmusTester_313 : cS_ "LitmusTester" 313 m_X0_place 1 := ⟨rfl, ⟨tw_962, tw_142, tw_964, cm_X0_place, Nat.le_of_ble_eq_true rfl⟩, tw_963⟩
theorem cm_X0_thread : m_X0_thread.1.cls ≠ "java/lang/invoke/MethodHandle" ∧ m_X0_thread.1.cls ≠ "java/lang/invoke/VarHandle" ∧ (parseMethodDescriptor m_X0_thread.1.desc).map (fun d => d.parameters.length) = some 1 := by decide +kernel
theorem cS_LitmusTester_316 : cS_ "LitmusTester" 316 m_X0_thread 1 := ⟨rfl, ⟨tw_969, tw_142, tw_971, cm_X0_thread, Nat.le_of_ble_eq_true rfl⟩, tw_970⟩
theorem cm_X0_size : m_X0_size.1.cls ≠ "java/lang/invoke/MethodHandle" ∧ m_X0_size.1.cls ≠ "java/lang/invoke/VarHandle" ∧ (parseMethodDescriptor m_X0_size.1.desc).map (fun d => d.parameters.length) = some 0 := by decide +kernel
theorem cV_LitmusTester_318 : cV_ "LitmusTester" 318 m_X0_size 0 0 := ⟨rfl, ⟨tw_976, tw_142, tw_979, cm_X0_size, Nat.le_of_ble_eq_true rfl⟩, tw_977, tw_978, _, rfl, rfl⟩
theorem cm_X2_findFirst : m_X2_findFirst.1.cls ≠ "java/lang/invoke/MethodHandle" ∧ m_X2_findFirst.1.cls ≠ "java/lang/invoke/VarHandle" ∧ (parseMethodDescriptor m_X2_findFirst.1.desc).map (fun d => d.parameters.length) = some 3 := by decide +kernel
theorem cV_LitmusTester_319 : cV_ "LitmusTester" 319 m_X2_findFirst 3 2 := ⟨rfl, ⟨tw_1552, tw_137, tw_1555, cm_X2_findFirst, Nat.le_of_ble_eq_true rfl⟩, tw_1553, tw_1554, _, rfl, rfl⟩
theorem cm_X1_size : m_X1_size.1.cls ≠ "java/lang/invoke/MethodHandle" ∧ m_X1_size.1.cls ≠ "java/lang/invoke/VarHandle" ∧ (parseMethodDescriptor m_X1_size.1.desc).map (fun d => d.parameters.length) = some 0 := by decide +kernel
theorem cV_LitmusTester_323 : cV_ "LitmusTester" 323 m_X1_size 0 1 := ⟨rfl, ⟨tw_1598, tw_143, tw_1601, cm_X1_size, Nat.le_of_ble_eq_true rfl⟩, tw_1599, tw_1600, _, rfl, rfl⟩
theorem cm_X1_stepAt : m_X1_stepAt.1.cls ≠ "java/lang/invoke/MethodHandle" ∧ m_X1_stepAt.1.cls ≠ "java/lang/invoke/VarHandle" ∧ (parseMethodDescriptor m_X1_stepAt.1.desc).map (fun d => d.parameters.length) = some 1 := by decide +kernel
theorem cV_LitmusTester_324 : cV_ "LitmusTester" 324 m_X1_stepAt 1 1 := ⟨rfl, ⟨tw_984, tw_143, tw_987, cm_X1_stepAt, Nat.le_of_ble_eq_true rfl⟩, tw_985, tw_986, _, rfl, rfl⟩
theorem cm_X1_isPresent : m_X1_isPresent.1.cls ≠ "java/lang/invoke/MethodHandle" ∧ m_X1_isPresent.1.cls ≠ "java/lang/invoke/VarHandle" ∧ (parseMethodDescriptor m_X1_isPresent.1.desc).map (fun d => d.parameters.length) = some 0 := by decide +kernel
theorem cV_LitmusTester_327 : cV_ "LitmusTester" 327 m_X1_isPresent 0 1 := ⟨rfl, ⟨tw_1609, tw_143, tw_1612, cm_X1_isPresent, Nat.le_of_ble_eq_true rfl⟩, tw_1610, tw_1611, _, rfl, rfl⟩
theorem cm_X1_originOf : m_X1_originOf.1.cls ≠ "java/lang/invoke/MethodHandle" ∧ m_X1_originOf.1.cls ≠ "java/lang/invoke/VarHandle" ∧ (parseMethodDescriptor m_X1_originOf.1.desc).map (fun d => d.parameters.length) = some 1 := by decide +kernel
theorem cV_LitmusTester_332 : cV_ "LitmusTester" 332 m_X1_originOf 1 1 := ⟨rfl, ⟨tw_1614, tw_143, tw_1617, cm_X1_originOf, Nat.le_of_ble_eq_true rfl⟩, tw_1615, tw_1616, _, rfl, rfl⟩
theorem cm_X1_writerAt : m_X1_writerAt.1.cls ≠ "java/lang/invoke/MethodHandle" ∧ m_X1_writerAt.1.cls ≠ "java/lang/invoke/VarHandle" ∧ (parseMethodDescriptor m_X1_writerAt.1.desc).map (fun d => d.parameters.length) = some 2 := by decide +kernel
theorem cV_LitmusTester_335 : cV_ "LitmusTester" 335 m_X1_writerAt 2 1 := ⟨rfl, ⟨tw_1625, tw_143, tw_1628, cm_X1_writerAt, Nat.le_of_ble_eq_true rfl⟩, tw_1626, tw_1627, _, rfl, rfl⟩
theorem cm_X12_adds : m_X12_adds.1.cls ≠ "java/lang/invoke/MethodHandle" ∧ m_X12_adds.1.cls ≠ "java/lang/invoke/VarHandle" ∧ (parseMethodDescriptor m_X12_adds.1.desc).map (fun d => d.parameters.length) = some 1 := by decide +kernel
theorem cV_LitmusTesterModel_120 : cV_ "LitmusTesterModel" 120 m_X12_adds 1 11 := ⟨rfl, ⟨tw_1817, tw_144, tw_1820, cm_X12_adds, Nat.le_of_ble_eq_true rfl⟩, tw_1819, tw_56, _, rfl, rfl⟩
theorem cm_X12_isIn : m_X12_isIn.1.cls ≠ "java/lang/invoke/MethodHandle" ∧ m_X12_isIn.1.cls ≠ "java/lang/invoke/VarHandle" ∧ (parseMethodDescriptor m_X12_isIn.1.desc).map (fun d => d.parameters.length) = some 3 := by decide +kernel
theorem cS_LitmusTesterModel_124 : cS_ "LitmusTesterModel" 124 m_X12_isIn 3 := ⟨rfl, ⟨tw_1825, tw_144, tw_1827, cm_X12_isIn, Nat.le_of_ble_eq_true rfl⟩, tw_1826⟩
theorem cm_X12_at : m_X12_at.1.cls ≠ "java/lang/invoke/MethodHandle" ∧ m_X12_at.1.cls ≠ "java/lang/invoke/VarHandle" ∧ (parseMethodDescriptor m_X12_at.1.desc).map (fun d => d.parameters.length) = some 3 := by decide +kernel
theorem cS_LitmusTesterModel_128 : cS_ "LitmusTesterModel" 128 m_X12_at 3 := ⟨rfl, ⟨tw_1937, tw_144, tw_1939, cm_X12_at, Nat.le_of_ble_eq_true rfl⟩, tw_1938⟩
theorem cm_X12_byteAt : m_X12_byteAt.1.cls ≠ "java/lang/invoke/MethodHandle" ∧ m_X12_byteAt.1.cls ≠ "java/lang/invoke/VarHandle" ∧ (parseMethodDescriptor m_X12_byteAt.1.desc).map (fun d => d.parameters.length) = some 1 := by decide +kernel
theorem cV_LitmusTesterModel_145 : cV_ "LitmusTesterModel" 145 m_X12_byteAt 1 11 := ⟨rfl, ⟨tw_1860, tw_144, tw_1863, cm_X12_byteAt, Nat.le_of_ble_eq_true rfl⟩, tw_1862, tw_61, _, rfl, rfl⟩
theorem cm_X12_isSmall : m_X12_isSmall.1.cls ≠ "java/lang/invoke/MethodHandle" ∧ m_X12_isSmall.1.cls ≠ "java/lang/invoke/VarHandle" ∧ (parseMethodDescriptor m_X12_isSmall.1.desc).map (fun d => d.parameters.length) = some 1 := by decide +kernel
theorem cS_LitmusTesterModel_149 : cS_ "LitmusTesterModel" 149 m_X12_isSmall 1 := ⟨rfl, ⟨tw_1864, tw_144, tw_1866, cm_X12_isSmall, Nat.le_of_ble_eq_true rfl⟩, tw_1865⟩
theorem cm_X12_isDigit : m_X12_isDigit.1.cls ≠ "java/lang/invoke/MethodHandle" ∧ m_X12_isDigit.1.cls ≠ "java/lang/invoke/VarHandle" ∧ (parseMethodDescriptor m_X12_isDigit.1.desc).map (fun d => d.parameters.length) = some 1 := by decide +kernel
theorem cS_LitmusTesterModel_153 : cS_ "LitmusTesterModel" 153 m_X12_isDigit 1 := ⟨rfl, ⟨tw_1871, tw_144, tw_1873, cm_X12_isDigit, Nat.le_of_ble_eq_true rfl⟩, tw_1872⟩
theorem cm_X12_goWord : m_X12_goWord.1.cls ≠ "java/lang/invoke/MethodHandle" ∧ m_X12_goWord.1.cls ≠ "java/lang/invoke/VarHandle" ∧ (parseMethodDescriptor m_X12_goWord.1.desc).map (fun d => d.parameters.length) = some 0 := by decide +kernel
theorem cV_LitmusTesterModel_165 : cV_ "LitmusTesterModel" 165 m_X12_goWord 0 11 := ⟨rfl, ⟨tw_1867, tw_144, tw_1870, cm_X12_goWord, Nat.le_of_ble_eq_true rfl⟩, tw_1869, tw_62, _, rfl, rfl⟩
theorem cT_LitmusTesterModel_168 : cT_ "LitmusTesterModel" 168 m_J0_length_8abf5 0 := ⟨rfl, ⟨tw_1883, tw_148, tw_557, cm_J0_length_8abf5, Nat.le_of_ble_eq_true rfl⟩, tw_555, tw_556, rfl⟩
theorem cT_LitmusTesterModel_174 : cT_ "LitmusTesterModel" 174 m_J0_charAt_5068e 1 := ⟨rfl, ⟨tw_1884, tw_148, tw_567, cm_J0_charAt_5068e, Nat.le_of_ble_eq_true rfl⟩, tw_565, tw_566, rfl⟩
theorem cm_X12_kindWord : m_X12_kindWord.1.cls ≠ "java/lang/invoke/MethodHandle" ∧ m_X12_kindWord.1.cls ≠ "java/lang/invoke/VarHandle" ∧ (parseMethodDescriptor m_X12_kindWord.1.desc).map (fun d => d.parameters.length) = some 1 := by decide +kernel
theorem cS_LitmusTesterModel_186 : cS_ "LitmusTesterModel" 186 m_X12_kindWord 1 := ⟨rfl, ⟨tw_1901, tw_144, tw_1903, cm_X12_kindWord, Nat.le_of_ble_eq_true rfl⟩, tw_1902⟩
theorem cm_X12_isText : m_X12_isText.1.cls ≠ "java/lang/invoke/MethodHandle" ∧ m_X12_isText.1.cls ≠ "java/lang/invoke/VarHandle" ∧ (parseMethodDescriptor m_X12_isText.1.desc).map (fun d => d.parameters.length) = some 1 := by decide +kernel
theorem cV_LitmusTesterModel_190 : cV_ "LitmusTesterModel" 190 m_X12_isText 1 11 := ⟨rfl, ⟨tw_1879, tw_144, tw_1882, cm_X12_isText, Nat.le_of_ble_eq_true rfl⟩, tw_1881, tw_64, _, rfl, rfl⟩
theorem cm_X12_kindNow : m_X12_kindNow.1.cls ≠ "java/lang/invoke/MethodHandle" ∧ m_X12_kindNow.1.cls ≠ "java/lang/invoke/VarHandle" ∧ (parseMethodDescriptor m_X12_kindNow.1.desc).map (fun d => d.parameters.length) = some 0 := by decide +kernel
theorem cV_LitmusTesterModel_194 : cV_ "LitmusTesterModel" 194 m_X12_kindNow 0 11 := ⟨rfl, ⟨tw_1897, tw_144, tw_1900, cm_X12_kindNow, Nat.le_of_ble_eq_true rfl⟩, tw_1899, tw_68, _, rfl, rfl⟩
theorem cm_X12_isSymbol : m_X12_isSymbol.1.cls ≠ "java/lang/invoke/MethodHandle" ∧ m_X12_isSymbol.1.cls ≠ "java/lang/invoke/VarHandle" ∧ (parseMethodDescriptor m_X12_isSymbol.1.desc).map (fun d => d.parameters.length) = some 1 := by decide +kernel
theorem cV_LitmusTesterModel_215 : cV_ "LitmusTesterModel" 215 m_X12_isSymbol 1 11 := ⟨rfl, ⟨tw_1921, tw_144, tw_1924, cm_X12_isSymbol, Nat.le_of_ble_eq_true rfl⟩, tw_1923, tw_71, _, rfl, rfl⟩
theorem cm_X12_bad : m_X12_bad.1.cls ≠ "java/lang/invoke/MethodHandle" ∧ m_X12_bad.1.cls ≠ "java/lang/invoke/VarHandle" ∧ (parseMethodDescriptor m_X12_bad.1.desc).map (fun d => d.parameters.length) = some 1 := by decide +kernel
theorem cV_LitmusTesterModel_218 : cV_ "LitmusTesterModel" 218 m_X12_bad 1 11 := ⟨rfl, ⟨tw_1889, tw_144, tw_1892, cm_X12_bad, Nat.le_of_ble_eq_true rfl⟩, tw_1891, tw_66, _, rfl, rfl⟩
theorem cm_X12_go : m_X12_go.1.cls ≠ "java/lang/invoke/MethodHandle" ∧ m_X12_go.1.cls ≠ "java/lang/invoke/VarHandle" ∧ (parseMethodDescriptor m_X12_go.1.desc).map (fun d => d.parameters.length) = some 0 := by decide +kernel
theorem cV_LitmusTesterModel_221 : cV_ "LitmusTesterModel" 221 m_X12_go 0 11 := ⟨rfl, ⟨tw_1856, tw_144, tw_1859, cm_X12_go, Nat.le_of_ble_eq_true rfl⟩, tw_1858, tw_60, _, rfl, rfl⟩
theorem cm_X12_starts : m_X12_starts.1.cls ≠ "java/lang/invoke/MethodHandle" ∧ m_X12_starts.1.cls ≠ "java/lang/invoke/VarHandle" ∧ (parseMethodDescriptor m_X12_starts.1.desc).map (fun d => d.parameters.length) = some 0 := by decide +kernel
theorem cV_LitmusTesterModel_224 : cV_ "LitmusTesterModel" 224 m_X12_starts 0 11 := ⟨rfl, ⟨tw_1840, tw_144, tw_1843, cm_X12_starts, Nat.le_of_ble_eq_true rfl⟩, tw_1842, tw_57, _, rfl, rfl⟩
theorem cm_X12_copies : m_X12_copies.1.cls ≠ "java/lang/invoke/MethodHandle" ∧ m_X12_copies.1.cls ≠ "java/lang/invoke/VarHandle" ∧ (parseMethodDescriptor m_X12_copies.1.desc).map (fun d => d.parameters.length) = some 0 := by decide +kernel
theorem cV_LitmusTesterModel_227 : cV_ "LitmusTesterModel" 227 m_X12_copies 0 11 := ⟨rfl, ⟨tw_1844, tw_144, tw_1847, cm_X12_copies, Nat.le_of_ble_eq_true rfl⟩, tw_1846, tw_58, _, rfl, rfl⟩
theorem cm_X12_named : m_X12_named.1.cls ≠ "java/lang/invoke/MethodHandle" ∧ m_X12_named.1.cls ≠ "java/lang/invoke/VarHandle" ∧ (parseMethodDescriptor m_X12_named.1.desc).map (fun d => d.parameters.length) = some 2 := by decide +kernel
theorem cV_LitmusTesterModel_230 : cV_ "LitmusTesterModel" 230 m_X12_named 2 11 := ⟨rfl, ⟨tw_1848, tw_144, tw_1851, cm_X12_named, Nat.le_of_ble_eq_true rfl⟩, tw_1850, tw_59, _, rfl, rfl⟩
theorem cm_X12_isName : m_X12_isName.1.cls ≠ "java/lang/invoke/MethodHandle" ∧ m_X12_isName.1.cls ≠ "java/lang/invoke/VarHandle" ∧ (parseMethodDescriptor m_X12_isName.1.desc).map (fun d => d.parameters.length) = some 0 := by decide +kernel
theorem cV_LitmusTesterModel_234 : cV_ "LitmusTesterModel" 234 m_X12_isName 0 11 := ⟨rfl, ⟨tw_1893, tw_144, tw_1896, cm_X12_isName, Nat.le_of_ble_eq_true rfl⟩, tw_1895, tw_67, _, rfl, rfl⟩
theorem cm_X12_readsSmall : m_X12_readsSmall.1.cls ≠ "java/lang/invoke/MethodHandle" ∧ m_X12_readsSmall.1.cls ≠ "java/lang/invoke/VarHandle" ∧ (parseMethodDescriptor m_X12_readsSmall.1.desc).map (fun d => d.parameters.length) = some 1 := by decide +kernel
theorem cV_LitmusTesterModel_238 : cV_ "LitmusTesterModel" 238 m_X12_readsSmall 1 11 := ⟨rfl, ⟨tw_1913, tw_144, tw_1916, cm_X12_readsSmall, Nat.le_of_ble_eq_true rfl⟩, tw_1915, tw_69, _, rfl, rfl⟩
theorem cm_X12_ends : m_X12_ends.1.cls ≠ "java/lang/invoke/MethodHandle" ∧ m_X12_ends.1.cls ≠ "java/lang/invoke/VarHandle" ∧ (parseMethodDescriptor m_X12_ends.1.desc).map (fun d => d.parameters.length) = some 0 := by decide +kernel
theorem cV_LitmusTesterModel_241 : cV_ "LitmusTesterModel" 241 m_X12_ends 0 11 := ⟨rfl, ⟨tw_1917, tw_144, tw_1920, cm_X12_ends, Nat.le_of_ble_eq_true rfl⟩, tw_1919, tw_70, _, rfl, rfl⟩
theorem cm_X12_isTarget : m_X12_isTarget.1.cls ≠ "java/lang/invoke/MethodHandle" ∧ m_X12_isTarget.1.cls ≠ "java/lang/invoke/VarHandle" ∧ (parseMethodDescriptor m_X12_isTarget.1.desc).map (fun d => d.parameters.length) = some 2 := by decide +kernel
theorem cV_LitmusTesterModel_244 : cV_ "LitmusTesterModel" 244 m_X12_isTarget 2 11 := ⟨rfl, ⟨tw_1944, tw_144, tw_1947, cm_X12_isTarget, Nat.le_of_ble_eq_true rfl⟩, tw_1946, tw_76, _, rfl, rfl⟩
theorem cm_X12_instructionsOf : m_X12_instructionsOf.1.cls ≠ "java/lang/invoke/MethodHandle" ∧ m_X12_instructionsOf.1.cls ≠ "java/lang/invoke/VarHandle" ∧ (parseMethodDescriptor m_X12_instructionsOf.1.desc).map (fun d => d.parameters.length) = some 2 := by decide +kernel
theorem cV_LitmusTesterModel_248 : cV_ "LitmusTesterModel" 248 m_X12_instructionsOf 2 11 := ⟨rfl, ⟨tw_1933, tw_144, tw_1936, cm_X12_instructionsOf, Nat.le_of_ble_eq_true rfl⟩, tw_1935, tw_74, _, rfl, rfl⟩
theorem cm_X12_readsTarget : m_X12_readsTarget.1.cls ≠ "java/lang/invoke/MethodHandle" ∧ m_X12_readsTarget.1.cls ≠ "java/lang/invoke/VarHandle" ∧ (parseMethodDescriptor m_X12_readsTarget.1.desc).map (fun d => d.parameters.length) = some 2 := by decide +kernel
theorem cV_LitmusTesterModel_252 : cV_ "LitmusTesterModel" 252 m_X12_readsTarget 2 11 := ⟨rfl, ⟨tw_1940, tw_144, tw_1943, cm_X12_readsTarget, Nat.le_of_ble_eq_true rfl⟩, tw_1942, tw_75, _, rfl, rfl⟩
theorem cm_X12_readsValue : m_X12_readsValue.1.cls ≠ "java/lang/invoke/MethodHandle" ∧ m_X12_readsValue.1.cls ≠ "java/lang/invoke/VarHandle" ∧ (parseMethodDescriptor m_X12_readsValue.1.desc).map (fun d => d.parameters.length) = some 2 := by decide +kernel
theorem cV_LitmusTesterModel_258 : cV_ "LitmusTesterModel" 258 m_X12_readsValue 2 11 := ⟨rfl, ⟨tw_1952, tw_144, tw_1955, cm_X12_readsValue, Nat.le_of_ble_eq_true rfl⟩, tw_1954, tw_78, _, rfl, rfl⟩
theorem cm_X12_readsPlace : m_X12_readsPlace.1.cls ≠ "java/lang/invoke/MethodHandle" ∧ m_X12_readsPlace.1.cls ≠ "java/lang/invoke/VarHandle" ∧ (parseMethodDescriptor m_X12_readsPlace.1.desc).map (fun d => d.parameters.length) = some 1 := by decide +kernel
theorem cV_LitmusTesterModel_255 : cV_ "LitmusTesterModel" 255 m_X12_readsPlace 1 11 := ⟨rfl, ⟨tw_1948, tw_144, tw_1951, cm_X12_readsPlace, Nat.le_of_ble_eq_true rfl⟩, tw_1950, tw_77, _, rfl, rfl⟩
theorem cm_X12_readsInstruction : m_X12_readsInstruction.1.cls ≠ "java/lang/invoke/MethodHandle" ∧ m_X12_readsInstruction.1.cls ≠ "java/lang/invoke/VarHandle" ∧ (parseMethodDescriptor m_X12_readsInstruction.1.desc).map (fun d => d.parameters.length) = some 1 := by decide +kernel
theorem cV_LitmusTesterModel_261 : cV_ "LitmusTesterModel" 261 m_X12_readsInstruction 1 11 := ⟨rfl, ⟨tw_1929, tw_144, tw_1932, cm_X12_readsInstruction, Nat.le_of_ble_eq_true rfl⟩, tw_1931, tw_73, _, rfl, rfl⟩
theorem cm_X12_tells : m_X12_tells.1.cls ≠ "java/lang/invoke/MethodHandle" ∧ m_X12_tells.1.cls ≠ "java/lang/invoke/VarHandle" ∧ (parseMethodDescriptor m_X12_tells.1.desc).map (fun d => d.parameters.length) = some 1 := by decide +kernel
theorem cV_LitmusTesterModel_267 : cV_ "LitmusTesterModel" 267 m_X12_tells 1 11 := ⟨rfl, ⟨tw_1968, tw_144, tw_1971, cm_X12_tells, Nat.le_of_ble_eq_true rfl⟩, tw_1970, tw_82, _, rfl, rfl⟩
theorem cm_X12_readsCompare : m_X12_readsCompare.1.cls ≠ "java/lang/invoke/MethodHandle" ∧ m_X12_readsCompare.1.cls ≠ "java/lang/invoke/VarHandle" ∧ (parseMethodDescriptor m_X12_readsCompare.1.desc).map (fun d => d.parameters.length) = some 1 := by decide +kernel
theorem cV_LitmusTesterModel_279 : cV_ "LitmusTesterModel" 279 m_X12_readsCompare 1 11 := ⟨rfl, ⟨tw_1972, tw_144, tw_1975, cm_X12_readsCompare, Nat.le_of_ble_eq_true rfl⟩, tw_1974, tw_83, _, rfl, rfl⟩
theorem cm_X12_readsCondition : m_X12_readsCondition.1.cls ≠ "java/lang/invoke/MethodHandle" ∧ m_X12_readsCondition.1.cls ≠ "java/lang/invoke/VarHandle" ∧ (parseMethodDescriptor m_X12_readsCondition.1.desc).map (fun d => d.parameters.length) = some 1 := by decide +kernel
theorem cV_LitmusTesterModel_276 : cV_ "LitmusTesterModel" 276 m_X12_readsCondition 1 11 := ⟨rfl, ⟨tw_1956, tw_144, tw_1959, cm_X12_readsCondition, Nat.le_of_ble_eq_true rfl⟩, tw_1958, tw_79, _, rfl, rfl⟩
theorem cm_X12_readsUnit : m_X12_readsUnit.1.cls ≠ "java/lang/invoke/MethodHandle" ∧ m_X12_readsUnit.1.cls ≠ "java/lang/invoke/VarHandle" ∧ (parseMethodDescriptor m_X12_readsUnit.1.desc).map (fun d => d.parameters.length) = some 1 := by decide +kernel
theorem cV_LitmusTesterModel_273 : cV_ "LitmusTesterModel" 273 m_X12_readsUnit 1 11 := ⟨rfl, ⟨tw_1964, tw_144, tw_1967, cm_X12_readsUnit, Nat.le_of_ble_eq_true rfl⟩, tw_1966, tw_81, _, rfl, rfl⟩
theorem cm_X12_readsBoth : m_X12_readsBoth.1.cls ≠ "java/lang/invoke/MethodHandle" ∧ m_X12_readsBoth.1.cls ≠ "java/lang/invoke/VarHandle" ∧ (parseMethodDescriptor m_X12_readsBoth.1.desc).map (fun d => d.parameters.length) = some 1 := by decide +kernel
theorem cV_LitmusTesterModel_282 : cV_ "LitmusTesterModel" 282 m_X12_readsBoth 1 11 := ⟨rfl, ⟨tw_1960, tw_144, tw_1963, cm_X12_readsBoth, Nat.le_of_ble_eq_true rfl⟩, tw_1962, tw_80, _, rfl, rfl⟩
theorem cm_X12_readsLocation : m_X12_readsLocation.1.cls ≠ "java/lang/invoke/MethodHandle" ∧ m_X12_readsLocation.1.cls ≠ "java/lang/invoke/VarHandle" ∧ (parseMethodDescriptor m_X12_readsLocation.1.desc).map (fun d => d.parameters.length) = some 0 := by decide +kernel
theorem cV_LitmusTesterModel_285 : cV_ "LitmusTesterModel" 285 m_X12_readsLocation 0 11 := ⟨rfl, ⟨tw_1885, tw_144, tw_1888, cm_X12_readsLocation, Nat.le_of_ble_eq_true rfl⟩, tw_1887, tw_65, _, rfl, rfl⟩
theorem cm_X12_readsThread : m_X12_readsThread.1.cls ≠ "java/lang/invoke/MethodHandle" ∧ m_X12_readsThread.1.cls ≠ "java/lang/invoke/VarHandle" ∧ (parseMethodDescriptor m_X12_readsThread.1.desc).map (fun d => d.parameters.length) = some 0 := by decide +kernel
theorem cV_LitmusTesterModel_288 : cV_ "LitmusTesterModel" 288 m_X12_readsThread 0 11 := ⟨rfl, ⟨tw_1925, tw_144, tw_1928, cm_X12_readsThread, Nat.le_of_ble_eq_true rfl⟩, tw_1927, tw_72, _, rfl, rfl⟩
theorem cm_X12_readsProgram : m_X12_readsProgram.1.cls ≠ "java/lang/invoke/MethodHandle" ∧ m_X12_readsProgram.1.cls ≠ "java/lang/invoke/VarHandle" ∧ (parseMethodDescriptor m_X12_readsProgram.1.desc).map (fun d => d.parameters.length) = some 0 := by decide +kernel
theorem cV_LitmusTesterModel_291 : cV_ "LitmusTesterModel" 291 m_X12_readsProgram 0 11 := ⟨rfl, ⟨tw_1874, tw_144, tw_1877, cm_X12_readsProgram, Nat.le_of_ble_eq_true rfl⟩, tw_1876, tw_63, _, rfl, rfl⟩
theorem cm_X12_isInstruction : m_X12_isInstruction.1.cls ≠ "java/lang/invoke/MethodHandle" ∧ m_X12_isInstruction.1.cls ≠ "java/lang/invoke/VarHandle" ∧ (parseMethodDescriptor m_X12_isInstruction.1.desc).map (fun d => d.parameters.length) = some 1 := by decide +kernel
theorem cV_LitmusTesterModel_297 : cV_ "LitmusTesterModel" 297 m_X12_isInstruction 1 11 := ⟨rfl, ⟨tw_1992, tw_144, tw_1995, cm_X12_isInstruction, Nat.le_of_ble_eq_true rfl⟩, tw_1994, tw_84, _, rfl, rfl⟩
theorem cm_X12_fails : m_X12_fails.1.cls ≠ "java/lang/invoke/MethodHandle" ∧ m_X12_fails.1.cls ≠ "java/lang/invoke/VarHandle" ∧ (parseMethodDescriptor m_X12_fails.1.desc).map (fun d => d.parameters.length) = some 3 := by decide +kernel
theorem cV_LitmusTesterModel_300 : cV_ "LitmusTesterModel" 300 m_X12_fails 3 11 := ⟨rfl, ⟨tw_1996, tw_144, tw_1999, cm_X12_fails, Nat.le_of_ble_eq_true rfl⟩, tw_1998, tw_85, _, rfl, rfl⟩
theorem cm_X12_of : m_X12_of.1.cls ≠ "java/lang/invoke/MethodHandle" ∧ m_X12_of.1.cls ≠ "java/lang/invoke/VarHandle" ∧ (parseMethodDescriptor m_X12_of.1.desc).map (fun d => d.parameters.length) = some 2 := by decide +kernel
theorem cV_LitmusTesterModel_304 : cV_ "LitmusTesterModel" 304 m_X12_of 2 11 := ⟨rfl, ⟨tw_2000, tw_144, tw_2003, cm_X12_of, Nat.le_of_ble_eq_true rfl⟩, tw_2002, tw_86, _, rfl, rfl⟩
theorem cm_X12_isGap : m_X12_isGap.1.cls ≠ "java/lang/invoke/MethodHandle" ∧ m_X12_isGap.1.cls ≠ "java/lang/invoke/VarHandle" ∧ (parseMethodDescriptor m_X12_isGap.1.desc).map (fun d => d.parameters.length) = some 1 := by decide +kernel
theorem cV_LitmusTesterModel_307 : cV_ "LitmusTesterModel" 307 m_X12_isGap 1 11 := ⟨rfl, ⟨tw_2020, tw_144, tw_2023, cm_X12_isGap, Nat.le_of_ble_eq_true rfl⟩, tw_2022, tw_90, _, rfl, rfl⟩
theorem cm_X12_lays : m_X12_lays.1.cls ≠ "java/lang/invoke/MethodHandle" ∧ m_X12_lays.1.cls ≠ "java/lang/invoke/VarHandle" ∧ (parseMethodDescriptor m_X12_lays.1.desc).map (fun d => d.parameters.length) = some 2 := by decide +kernel
theorem cV_LitmusTesterModel_310 : cV_ "LitmusTesterModel" 310 m_X12_lays 2 11 := ⟨rfl, ⟨tw_2024, tw_144, tw_2027, cm_X12_lays, Nat.le_of_ble_eq_true rfl⟩, tw_2026, tw_91, _, rfl, rfl⟩
theorem cm_X12_registerOf : m_X12_registerOf.1.cls ≠ "java/lang/invoke/MethodHandle" ∧ m_X12_registerOf.1.cls ≠ "java/lang/invoke/VarHandle" ∧ (parseMethodDescriptor m_X12_registerOf.1.desc).map (fun d => d.parameters.length) = some 3 := by decide +kernel
theorem cS_LitmusTesterModel_320 : cS_ "LitmusTesterModel" 320 m_X12_registerOf 3 := ⟨rfl, ⟨tw_2078, tw_144, tw_2080, cm_X12_registerOf, Nat.le_of_ble_eq_true rfl⟩, tw_2079⟩
theorem cm_X12_nextOf : m_X12_nextOf.1.cls ≠ "java/lang/invoke/MethodHandle" ∧ m_X12_nextOf.1.cls ≠ "java/lang/invoke/VarHandle" ∧ (parseMethodDescriptor m_X12_nextOf.1.desc).map (fun d => d.parameters.length) = some 2 := by decide +kernel
theorem cS_LitmusTesterModel_324 : cS_ "LitmusTesterModel" 324 m_X12_nextOf 2 := ⟨rfl, ⟨tw_2063, tw_144, tw_2065, cm_X12_nextOf, Nat.le_of_ble_eq_true rfl⟩, tw_2064⟩
theorem cm_X12_isWaiting : m_X12_isWaiting.1.cls ≠ "java/lang/invoke/MethodHandle" ∧ m_X12_isWaiting.1.cls ≠ "java/lang/invoke/VarHandle" ∧ (parseMethodDescriptor m_X12_isWaiting.1.desc).map (fun d => d.parameters.length) = some 2 := by decide +kernel
theorem cS_LitmusTesterModel_328 : cS_ "LitmusTesterModel" 328 m_X12_isWaiting 2 := ⟨rfl, ⟨tw_2071, tw_144, tw_2073, cm_X12_isWaiting, Nat.le_of_ble_eq_true rfl⟩, tw_2072⟩
theorem cm_X12_canExecute : m_X12_canExecute.1.cls ≠ "java/lang/invoke/MethodHandle" ∧ m_X12_canExecute.1.cls ≠ "java/lang/invoke/VarHandle" ∧ (parseMethodDescriptor m_X12_canExecute.1.desc).map (fun d => d.parameters.length) = some 2 := by decide +kernel
theorem cV_LitmusTesterModel_332 : cV_ "LitmusTesterModel" 332 m_X12_canExecute 2 11 := ⟨rfl, ⟨tw_2059, tw_144, tw_2062, cm_X12_canExecute, Nat.le_of_ble_eq_true rfl⟩, tw_2061, tw_98, _, rfl, rfl⟩
theorem cm_X12_canCommit : m_X12_canCommit.1.cls ≠ "java/lang/invoke/MethodHandle" ∧ m_X12_canCommit.1.cls ≠ "java/lang/invoke/VarHandle" ∧ (parseMethodDescriptor m_X12_canCommit.1.desc).map (fun d => d.parameters.length) = some 3 := by decide +kernel
theorem cV_LitmusTesterModel_338 : cV_ "LitmusTesterModel" 338 m_X12_canCommit 3 11 := ⟨rfl, ⟨tw_2084, tw_144, tw_2087, cm_X12_canCommit, Nat.le_of_ble_eq_true rfl⟩, tw_2086, tw_101, _, rfl, rfl⟩
theorem cm_X12_waiting : m_X12_waiting.1.cls ≠ "java/lang/invoke/MethodHandle" ∧ m_X12_waiting.1.cls ≠ "java/lang/invoke/VarHandle" ∧ (parseMethodDescriptor m_X12_waiting.1.desc).map (fun d => d.parameters.length) = some 4 := by decide +kernel
theorem cV_LitmusTesterModel_342 : cV_ "LitmusTesterModel" 342 m_X12_waiting 4 11 := ⟨rfl, ⟨tw_2067, tw_144, tw_2070, cm_X12_waiting, Nat.le_of_ble_eq_true rfl⟩, tw_2069, tw_99, _, rfl, rfl⟩
theorem cm_X12_valueOf : m_X12_valueOf.1.cls ≠ "java/lang/invoke/MethodHandle" ∧ m_X12_valueOf.1.cls ≠ "java/lang/invoke/VarHandle" ∧ (parseMethodDescriptor m_X12_valueOf.1.desc).map (fun d => d.parameters.length) = some 3 := by decide +kernel
theorem cV_LitmusTesterModel_349 : cV_ "LitmusTesterModel" 349 m_X12_valueOf 3 11 := ⟨rfl, ⟨tw_2074, tw_144, tw_2077, cm_X12_valueOf, Nat.le_of_ble_eq_true rfl⟩, tw_2076, tw_100, _, rfl, rfl⟩
theorem cm_X12_with : m_X12_with.1.cls ≠ "java/lang/invoke/MethodHandle" ∧ m_X12_with.1.cls ≠ "java/lang/invoke/VarHandle" ∧ (parseMethodDescriptor m_X12_with.1.desc).map (fun d => d.parameters.length) = some 3 := by decide +kernel
theorem cS_LitmusTesterModel_352 : cS_ "LitmusTesterModel" 352 m_X12_with 3 := ⟨rfl, ⟨tw_2040, tw_144, tw_2042, cm_X12_with, Nat.le_of_ble_eq_true rfl⟩, tw_2041⟩
theorem cm_X12_memoryOf : m_X12_memoryOf.1.cls ≠ "java/lang/invoke/MethodHandle" ∧ m_X12_memoryOf.1.cls ≠ "java/lang/invoke/VarHandle" ∧ (parseMethodDescriptor m_X12_memoryOf.1.desc).map (fun d => d.parameters.length) = some 2 := by decide +kernel
theorem cS_LitmusTesterModel_363 : cS_ "LitmusTesterModel" 363 m_X12_memoryOf 2 := ⟨rfl, ⟨tw_2081, tw_144, tw_2083, cm_X12_memoryOf, Nat.le_of_ble_eq_true rfl⟩, tw_2082⟩
theorem cm_X12_slotOf : m_X12_slotOf.1.cls ≠ "java/lang/invoke/MethodHandle" ∧ m_X12_slotOf.1.cls ≠ "java/lang/invoke/VarHandle" ∧ (parseMethodDescriptor m_X12_slotOf.1.desc).map (fun d => d.parameters.length) = some 1 := by decide +kernel
theorem cV_LitmusTesterModel_372 : cV_ "LitmusTesterModel" 372 m_X12_slotOf 1 11 := ⟨rfl, ⟨tw_2049, tw_144, tw_2052, cm_X12_slotOf, Nat.le_of_ble_eq_true rfl⟩, tw_2051, tw_96, _, rfl, rfl⟩
theorem cm_X12_firstState : m_X12_firstState.1.cls ≠ "java/lang/invoke/MethodHandle" ∧ m_X12_firstState.1.cls ≠ "java/lang/invoke/VarHandle" ∧ (parseMethodDescriptor m_X12_firstState.1.desc).map (fun d => d.parameters.length) = some 0 := by decide +kernel
theorem cV_LitmusTesterModel_379 : cV_ "LitmusTesterModel" 379 m_X12_firstState 0 11 := ⟨rfl, ⟨tw_2036, tw_144, tw_2039, cm_X12_firstState, Nat.le_of_ble_eq_true rfl⟩, tw_2038, tw_94, _, rfl, rfl⟩
theorem cm_X12_stateOf : m_X12_stateOf.1.cls ≠ "java/lang/invoke/MethodHandle" ∧ m_X12_stateOf.1.cls ≠ "java/lang/invoke/VarHandle" ∧ (parseMethodDescriptor m_X12_stateOf.1.desc).map (fun d => d.parameters.length) = some 1 := by decide +kernel
theorem cV_LitmusTesterModel_383 : cV_ "LitmusTesterModel" 383 m_X12_stateOf 1 11 := ⟨rfl, ⟨tw_2045, tw_144, tw_2048, cm_X12_stateOf, Nat.le_of_ble_eq_true rfl⟩, tw_2047, tw_95, _, rfl, rfl⟩
theorem cm_X12_canStep : m_X12_canStep.1.cls ≠ "java/lang/invoke/MethodHandle" ∧ m_X12_canStep.1.cls ≠ "java/lang/invoke/VarHandle" ∧ (parseMethodDescriptor m_X12_canStep.1.desc).map (fun d => d.parameters.length) = some 3 := by decide +kernel
theorem cV_LitmusTesterModel_386 : cV_ "LitmusTesterModel" 386 m_X12_canStep 3 11 := ⟨rfl, ⟨tw_2055, tw_144, tw_2058, cm_X12_canStep, Nat.le_of_ble_eq_true rfl⟩, tw_2057, tw_97, _, rfl, rfl⟩
theorem cm_X12_swaps : m_X12_swaps.1.cls ≠ "java/lang/invoke/MethodHandle" ∧ m_X12_swaps.1.cls ≠ "java/lang/invoke/VarHandle" ∧ (parseMethodDescriptor m_X12_swaps.1.desc).map (fun d => d.parameters.length) = some 2 := by decide +kernel
theorem cV_LitmusTesterModel_389 : cV_ "LitmusTesterModel" 389 m_X12_swaps 2 11 := ⟨rfl, ⟨tw_2100, tw_144, tw_2103, cm_X12_swaps, Nat.le_of_ble_eq_true rfl⟩, tw_2102, tw_105, _, rfl, rfl⟩
theorem cm_X12_explores : m_X12_explores.1.cls ≠ "java/lang/invoke/MethodHandle" ∧ m_X12_explores.1.cls ≠ "java/lang/invoke/VarHandle" ∧ (parseMethodDescriptor m_X12_explores.1.desc).map (fun d => d.parameters.length) = some 1 := by decide +kernel
theorem cV_LitmusTesterModel_392 : cV_ "LitmusTesterModel" 392 m_X12_explores 1 11 := ⟨rfl, ⟨tw_2032, tw_144, tw_2035, cm_X12_explores, Nat.le_of_ble_eq_true rfl⟩, tw_2034, tw_93, _, rfl, rfl⟩
theorem cm_X12_isFinal : m_X12_isFinal.1.cls ≠ "java/lang/invoke/MethodHandle" ∧ m_X12_isFinal.1.cls ≠ "java/lang/invoke/VarHandle" ∧ (parseMethodDescriptor m_X12_isFinal.1.desc).map (fun d => d.parameters.length) = some 1 := by decide +kernel
theorem cV_LitmusTesterModel_398 : cV_ "LitmusTesterModel" 398 m_X12_isFinal 1 11 := ⟨rfl, ⟨tw_2088, tw_144, tw_2091, cm_X12_isFinal, Nat.le_of_ble_eq_true rfl⟩, tw_2090, tw_102, _, rfl, rfl⟩
theorem cm_X12_codeOf : m_X12_codeOf.1.cls ≠ "java/lang/invoke/MethodHandle" ∧ m_X12_codeOf.1.cls ≠ "java/lang/invoke/VarHandle" ∧ (parseMethodDescriptor m_X12_codeOf.1.desc).map (fun d => d.parameters.length) = some 1 := by decide +kernel
theorem cV_LitmusTesterModel_402 : cV_ "LitmusTesterModel" 402 m_X12_codeOf 1 11 := ⟨rfl, ⟨tw_2092, tw_144, tw_2095, cm_X12_codeOf, Nat.le_of_ble_eq_true rfl⟩, tw_2094, tw_103, _, rfl, rfl⟩
theorem cm_X12_sinks : m_X12_sinks.1.cls ≠ "java/lang/invoke/MethodHandle" ∧ m_X12_sinks.1.cls ≠ "java/lang/invoke/VarHandle" ∧ (parseMethodDescriptor m_X12_sinks.1.desc).map (fun d => d.parameters.length) = some 2 := by decide +kernel
theorem cV_LitmusTesterModel_405 : cV_ "LitmusTesterModel" 405 m_X12_sinks 2 11 := ⟨rfl, ⟨tw_2096, tw_144, tw_2099, cm_X12_sinks, Nat.le_of_ble_eq_true rfl⟩, tw_2098, tw_104, _, rfl, rfl⟩
theorem cm_X12_laysProgram : m_X12_laysProgram.1.cls ≠ "java/lang/invoke/MethodHandle" ∧ m_X12_laysProgram.1.cls ≠ "java/lang/invoke/VarHandle" ∧ (parseMethodDescriptor m_X12_laysProgram.1.desc).map (fun d => d.parameters.length) = some 2 := by decide +kernel
theorem cV_LitmusTesterModel_408 : cV_ "LitmusTesterModel" 408 m_X12_laysProgram 2 11 := ⟨rfl, ⟨tw_2016, tw_144, tw_2019, cm_X12_laysProgram, Nat.le_of_ble_eq_true rfl⟩, tw_2018, tw_89, _, rfl, rfl⟩
theorem cm_X12_gathers : m_X12_gathers.1.cls ≠ "java/lang/invoke/MethodHandle" ∧ m_X12_gathers.1.cls ≠ "java/lang/invoke/VarHandle" ∧ (parseMethodDescriptor m_X12_gathers.1.desc).map (fun d => d.parameters.length) = some 1 := by decide +kernel
theorem cV_LitmusTesterModel_411 : cV_ "LitmusTesterModel" 411 m_X12_gathers 1 11 := ⟨rfl, ⟨tw_2028, tw_144, tw_2031, cm_X12_gathers, Nat.le_of_ble_eq_true rfl⟩, tw_2030, tw_92, _, rfl, rfl⟩
theorem cm_X12_isNoModel : m_X12_isNoModel.1.cls ≠ "java/lang/invoke/MethodHandle" ∧ m_X12_isNoModel.1.cls ≠ "java/lang/invoke/VarHandle" ∧ (parseMethodDescriptor m_X12_isNoModel.1.desc).map (fun d => d.parameters.length) = some 1 := by decide +kernel
theorem cV_LitmusTesterModel_414 : cV_ "LitmusTesterModel" 414 m_X12_isNoModel 1 11 := ⟨rfl, ⟨tw_2008, tw_144, tw_2011, cm_X12_isNoModel, Nat.le_of_ble_eq_true rfl⟩, tw_2010, tw_87, _, rfl, rfl⟩
theorem cm_X12_outcomesOf : m_X12_outcomesOf.1.cls ≠ "java/lang/invoke/MethodHandle" ∧ m_X12_outcomesOf.1.cls ≠ "java/lang/invoke/VarHandle" ∧ (parseMethodDescriptor m_X12_outcomesOf.1.desc).map (fun d => d.parameters.length) = some 1 := by decide +kernel
theorem cV_LitmusTesterModel_417 : cV_ "LitmusTesterModel" 417 m_X12_outcomesOf 1 11 := ⟨rfl, ⟨tw_2012, tw_144, tw_2015, cm_X12_outcomesOf, Nat.le_of_ble_eq_true rfl⟩, tw_2014, tw_88, _, rfl, rfl⟩
theorem cm_X12_find : m_X12_find.1.cls ≠ "java/lang/invoke/MethodHandle" ∧ m_X12_find.1.cls ≠ "java/lang/invoke/VarHandle" ∧ (parseMethodDescriptor m_X12_find.1.desc).map (fun d => d.parameters.length) = some 1 := by decide +kernel
theorem cV_LitmusTesterModel_420 : cV_ "LitmusTesterModel" 420 m_X12_find 1 11 := ⟨rfl, ⟨tw_2112, tw_144, tw_2115, cm_X12_find, Nat.le_of_ble_eq_true rfl⟩, tw_2114, tw_106, _, rfl, rfl⟩
theorem cm_X12_keepsOthers : m_X12_keepsOthers.1.cls ≠ "java/lang/invoke/MethodHandle" ∧ m_X12_keepsOthers.1.cls ≠ "java/lang/invoke/VarHandle" ∧ (parseMethodDescriptor m_X12_keepsOthers.1.desc).map (fun d => d.parameters.length) = some 0 := by decide +kernel
theorem cV_LitmusTesterModel_426 : cV_ "LitmusTesterModel" 426 m_X12_keepsOthers 0 11 := ⟨rfl, ⟨tw_2120, tw_144, tw_2123, cm_X12_keepsOthers, Nat.le_of_ble_eq_true rfl⟩, tw_2122, tw_107, _, rfl, rfl⟩
theorem cm_X12_digits : m_X12_digits.1.cls ≠ "java/lang/invoke/MethodHandle" ∧ m_X12_digits.1.cls ≠ "java/lang/invoke/VarHandle" ∧ (parseMethodDescriptor m_X12_digits.1.desc).map (fun d => d.parameters.length) = some 0 := by decide +kernel
theorem cV_LitmusTesterModel_429 : cV_ "LitmusTesterModel" 429 m_X12_digits 0 11 := ⟨rfl, ⟨tw_2128, tw_144, tw_2131, cm_X12_digits, Nat.le_of_ble_eq_true rfl⟩, tw_2130, tw_108, _, rfl, rfl⟩
theorem cm_X12_digitOf : m_X12_digitOf.1.cls ≠ "java/lang/invoke/MethodHandle" ∧ m_X12_digitOf.1.cls ≠ "java/lang/invoke/VarHandle" ∧ (parseMethodDescriptor m_X12_digitOf.1.desc).map (fun d => d.parameters.length) = some 2 := by decide +kernel
theorem cV_LitmusTesterModel_432 : cV_ "LitmusTesterModel" 432 m_X12_digitOf 2 11 := ⟨rfl, ⟨tw_2136, tw_144, tw_2139, cm_X12_digitOf, Nat.le_of_ble_eq_true rfl⟩, tw_2138, tw_110, _, rfl, rfl⟩
theorem cm_X12_holds : m_X12_holds.1.cls ≠ "java/lang/invoke/MethodHandle" ∧ m_X12_holds.1.cls ≠ "java/lang/invoke/VarHandle" ∧ (parseMethodDescriptor m_X12_holds.1.desc).map (fun d => d.parameters.length) = some 1 := by decide +kernel
theorem cV_LitmusTesterModel_435 : cV_ "LitmusTesterModel" 435 m_X12_holds 1 11 := ⟨rfl, ⟨tw_2132, tw_144, tw_2135, cm_X12_holds, Nat.le_of_ble_eq_true rfl⟩, tw_2134, tw_109, _, rfl, rfl⟩
theorem cm_X12_matches : m_X12_matches.1.cls ≠ "java/lang/invoke/MethodHandle" ∧ m_X12_matches.1.cls ≠ "java/lang/invoke/VarHandle" ∧ (parseMethodDescriptor m_X12_matches.1.desc).map (fun d => d.parameters.length) = some 0 := by decide +kernel
theorem cV_LitmusTesterModel_438 : cV_ "LitmusTesterModel" 438 m_X12_matches 0 11 := ⟨rfl, ⟨tw_2144, tw_144, tw_2147, cm_X12_matches, Nat.le_of_ble_eq_true rfl⟩, tw_2146, tw_111, _, rfl, rfl⟩
theorem cm_X12_laidAt : m_X12_laidAt.1.cls ≠ "java/lang/invoke/MethodHandle" ∧ m_X12_laidAt.1.cls ≠ "java/lang/invoke/VarHandle" ∧ (parseMethodDescriptor m_X12_laidAt.1.desc).map (fun d => d.parameters.length) = some 1 := by decide +kernel
theorem cV_LitmusTesterModel_444 : cV_ "LitmusTesterModel" 444 m_X12_laidAt 1 11 := ⟨rfl, ⟨tw_2172, tw_144, tw_2175, cm_X12_laidAt, Nat.le_of_ble_eq_true rfl⟩, tw_2174, tw_113, _, rfl, rfl⟩
theorem cm_X12_reads : m_X12_reads.1.cls ≠ "java/lang/invoke/MethodHandle" ∧ m_X12_reads.1.cls ≠ "java/lang/invoke/VarHandle" ∧ (parseMethodDescriptor m_X12_reads.1.desc).map (fun d => d.parameters.length) = some 1 := by decide +kernel
theorem cV_LitmusTesterModel_441 : cV_ "LitmusTesterModel" 441 m_X12_reads 1 11 := ⟨rfl, ⟨tw_2168, tw_144, tw_2171, cm_X12_reads, Nat.le_of_ble_eq_true rfl⟩, tw_2170, tw_112, _, rfl, rfl⟩
theorem cm_X12_waitingMany : m_X12_waitingMany.1.cls ≠ "java/lang/invoke/MethodHandle" ∧ m_X12_waitingMany.1.cls ≠ "java/lang/invoke/VarHandle" ∧ (parseMethodDescriptor m_X12_waitingMany.1.desc).map (fun d => d.parameters.length) = some 2 := by decide +kernel
theorem cV_LitmusTesterModel_447 : cV_ "LitmusTesterModel" 447 m_X12_waitingMany 2 11 := ⟨rfl, ⟨tw_2184, tw_144, tw_2187, cm_X12_waitingMany, Nat.le_of_ble_eq_true rfl⟩, tw_2186, tw_114, _, rfl, rfl⟩
theorem cm_X12_conflict : m_X12_conflict.1.cls ≠ "java/lang/invoke/MethodHandle" ∧ m_X12_conflict.1.cls ≠ "java/lang/invoke/VarHandle" ∧ (parseMethodDescriptor m_X12_conflict.1.desc).map (fun d => d.parameters.length) = some 2 := by decide +kernel
theorem cV_LitmusTesterModel_455 : cV_ "LitmusTesterModel" 455 m_X12_conflict 2 11 := ⟨rfl, ⟨tw_2197, tw_144, tw_2200, cm_X12_conflict, Nat.le_of_ble_eq_true rfl⟩, tw_2199, tw_116, _, rfl, rfl⟩
theorem cm_X12_race : m_X12_race.1.cls ≠ "java/lang/invoke/MethodHandle" ∧ m_X12_race.1.cls ≠ "java/lang/invoke/VarHandle" ∧ (parseMethodDescriptor m_X12_race.1.desc).map (fun d => d.parameters.length) = some 2 := by decide +kernel
theorem cV_LitmusTesterModel_458 : cV_ "LitmusTesterModel" 458 m_X12_race 2 11 := ⟨rfl, ⟨tw_2193, tw_144, tw_2196, cm_X12_race, Nat.le_of_ble_eq_true rfl⟩, tw_2195, tw_115, _, rfl, rfl⟩
theorem cm_X12_gapMany : m_X12_gapMany.1.cls ≠ "java/lang/invoke/MethodHandle" ∧ m_X12_gapMany.1.cls ≠ "java/lang/invoke/VarHandle" ∧ (parseMethodDescriptor m_X12_gapMany.1.desc).map (fun d => d.parameters.length) = some 0 := by decide +kernel
theorem cV_LitmusTesterModel_461 : cV_ "LitmusTesterModel" 461 m_X12_gapMany 0 11 := ⟨rfl, ⟨tw_2209, tw_144, tw_2212, cm_X12_gapMany, Nat.le_of_ble_eq_true rfl⟩, tw_2211, tw_117, _, rfl, rfl⟩
theorem cm_X12_gapAt : m_X12_gapAt.1.cls ≠ "java/lang/invoke/MethodHandle" ∧ m_X12_gapAt.1.cls ≠ "java/lang/invoke/VarHandle" ∧ (parseMethodDescriptor m_X12_gapAt.1.desc).map (fun d => d.parameters.length) = some 1 := by decide +kernel
theorem cV_LitmusTesterModel_464 : cV_ "LitmusTesterModel" 464 m_X12_gapAt 1 11 := ⟨rfl, ⟨tw_2217, tw_144, tw_2220, cm_X12_gapAt, Nat.le_of_ble_eq_true rfl⟩, tw_2219, tw_118, _, rfl, rfl⟩
theorem cm_X12_bitsOf : m_X12_bitsOf.1.cls ≠ "java/lang/invoke/MethodHandle" ∧ m_X12_bitsOf.1.cls ≠ "java/lang/invoke/VarHandle" ∧ (parseMethodDescriptor m_X12_bitsOf.1.desc).map (fun d => d.parameters.length) = some 1 := by decide +kernel
theorem cS_LitmusTesterModel_467 : cS_ "LitmusTesterModel" 467 m_X12_bitsOf 1 := ⟨rfl, ⟨tw_2233, tw_144, tw_2235, cm_X12_bitsOf, Nat.le_of_ble_eq_true rfl⟩, tw_2234⟩
theorem cm_X12_areOthers : m_X12_areOthers.1.cls ≠ "java/lang/invoke/MethodHandle" ∧ m_X12_areOthers.1.cls ≠ "java/lang/invoke/VarHandle" ∧ (parseMethodDescriptor m_X12_areOthers.1.desc).map (fun d => d.parameters.length) = some 0 := by decide +kernel
theorem cV_LitmusTesterModel_470 : cV_ "LitmusTesterModel" 470 m_X12_areOthers 0 11 := ⟨rfl, ⟨tw_2236, tw_144, tw_2239, cm_X12_areOthers, Nat.le_of_ble_eq_true rfl⟩, tw_2238, tw_120, _, rfl, rfl⟩
theorem cm_X12_fewest : m_X12_fewest.1.cls ≠ "java/lang/invoke/MethodHandle" ∧ m_X12_fewest.1.cls ≠ "java/lang/invoke/VarHandle" ∧ (parseMethodDescriptor m_X12_fewest.1.desc).map (fun d => d.parameters.length) = some 2 := by decide +kernel
theorem cV_LitmusTesterModel_473 : cV_ "LitmusTesterModel" 473 m_X12_fewest 2 11 := ⟨rfl, ⟨tw_2229, tw_144, tw_2232, cm_X12_fewest, Nat.le_of_ble_eq_true rfl⟩, tw_2231, tw_119, _, rfl, rfl⟩
theorem cm_X12_isFence : m_X12_isFence.1.cls ≠ "java/lang/invoke/MethodHandle" ∧ m_X12_isFence.1.cls ≠ "java/lang/invoke/VarHandle" ∧ (parseMethodDescriptor m_X12_isFence.1.desc).map (fun d => d.parameters.length) = some 1 := by decide +kernel
theorem cV_LitmusTesterModel_476 : cV_ "LitmusTesterModel" 476 m_X12_isFence 1 11 := ⟨rfl, ⟨tw_2248, tw_144, tw_2251, cm_X12_isFence, Nat.le_of_ble_eq_true rfl⟩, tw_2250, tw_121, _, rfl, rfl⟩
theorem cm_X12_remembers : m_X12_remembers.1.cls ≠ "java/lang/invoke/MethodHandle" ∧ m_X12_remembers.1.cls ≠ "java/lang/invoke/VarHandle" ∧ (parseMethodDescriptor m_X12_remembers.1.desc).map (fun d => d.parameters.length) = some 0 := by decide +kernel
theorem cV_LitmusTesterModel_479 : cV_ "LitmusTesterModel" 479 m_X12_remembers 0 11 := ⟨rfl, ⟨tw_2256, tw_144, tw_2259, cm_X12_remembers, Nat.le_of_ble_eq_true rfl⟩, tw_2258, tw_122, _, rfl, rfl⟩
theorem cm_X12_writes : m_X12_writes.1.cls ≠ "java/lang/invoke/MethodHandle" ∧ m_X12_writes.1.cls ≠ "java/lang/invoke/VarHandle" ∧ (parseMethodDescriptor m_X12_writes.1.desc).map (fun d => d.parameters.length) = some 2 := by decide +kernel
theorem cV_LitmusTesterModel_485 : cV_ "LitmusTesterModel" 485 m_X12_writes 2 11 := ⟨rfl, ⟨tw_2276, tw_144, tw_2279, cm_X12_writes, Nat.le_of_ble_eq_true rfl⟩, tw_2278, tw_125, _, rfl, rfl⟩
theorem cm_X12_takes : m_X12_takes.1.cls ≠ "java/lang/invoke/MethodHandle" ∧ m_X12_takes.1.cls ≠ "java/lang/invoke/VarHandle" ∧ (parseMethodDescriptor m_X12_takes.1.desc).map (fun d => d.parameters.length) = some 2 := by decide +kernel
theorem cV_LitmusTesterModel_488 : cV_ "LitmusTesterModel" 488 m_X12_takes 2 11 := ⟨rfl, ⟨tw_2272, tw_144, tw_2275, cm_X12_takes, Nat.le_of_ble_eq_true rfl⟩, tw_2274, tw_124, _, rfl, rfl⟩
theorem cm_X12_leastStep : m_X12_leastStep.1.cls ≠ "java/lang/invoke/MethodHandle" ∧ m_X12_leastStep.1.cls ≠ "java/lang/invoke/VarHandle" ∧ (parseMethodDescriptor m_X12_leastStep.1.desc).map (fun d => d.parameters.length) = some 1 := by decide +kernel
theorem cV_LitmusTesterModel_491 : cV_ "LitmusTesterModel" 491 m_X12_leastStep 1 11 := ⟨rfl, ⟨tw_2268, tw_144, tw_2271, cm_X12_leastStep, Nat.le_of_ble_eq_true rfl⟩, tw_2270, tw_123, _, rfl, rfl⟩
theorem cm_X12_prints : m_X12_prints.1.cls ≠ "java/lang/invoke/MethodHandle" ∧ m_X12_prints.1.cls ≠ "java/lang/invoke/VarHandle" ∧ (parseMethodDescriptor m_X12_prints.1.desc).map (fun d => d.parameters.length) = some 1 := by decide +kernel
theorem cV_LitmusTesterModel_498 : cV_ "LitmusTesterModel" 498 m_X12_prints 1 11 := ⟨rfl, ⟨tw_2300, tw_144, tw_2303, cm_X12_prints, Nat.le_of_ble_eq_true rfl⟩, tw_2302, tw_127, _, rfl, rfl⟩
theorem cm_X12_printsText : m_X12_printsText.1.cls ≠ "java/lang/invoke/MethodHandle" ∧ m_X12_printsText.1.cls ≠ "java/lang/invoke/VarHandle" ∧ (parseMethodDescriptor m_X12_printsText.1.desc).map (fun d => d.parameters.length) = some 1 := by decide +kernel
theorem cV_LitmusTesterModel_503 : cV_ "LitmusTesterModel" 503 m_X12_printsText 1 11 := ⟨rfl, ⟨tw_2296, tw_144, tw_2299, cm_X12_printsText, Nat.le_of_ble_eq_true rfl⟩, tw_2298, tw_126, _, rfl, rfl⟩
theorem cm_X12_printsRegister : m_X12_printsRegister.1.cls ≠ "java/lang/invoke/MethodHandle" ∧ m_X12_printsRegister.1.cls ≠ "java/lang/invoke/VarHandle" ∧ (parseMethodDescriptor m_X12_printsRegister.1.desc).map (fun d => d.parameters.length) = some 1 := by decide +kernel
theorem cV_LitmusTesterModel_507 : cV_ "LitmusTesterModel" 507 m_X12_printsRegister 1 11 := ⟨rfl, ⟨tw_2313, tw_144, tw_2316, cm_X12_printsRegister, Nat.le_of_ble_eq_true rfl⟩, tw_2315, tw_130, _, rfl, rfl⟩
theorem cm_X12_printsName : m_X12_printsName.1.cls ≠ "java/lang/invoke/MethodHandle" ∧ m_X12_printsName.1.cls ≠ "java/lang/invoke/VarHandle" ∧ (parseMethodDescriptor m_X12_printsName.1.desc).map (fun d => d.parameters.length) = some 1 := by decide +kernel
theorem cV_LitmusTesterModel_510 : cV_ "LitmusTesterModel" 510 m_X12_printsName 1 11 := ⟨rfl, ⟨tw_2304, tw_144, tw_2307, cm_X12_printsName, Nat.le_of_ble_eq_true rfl⟩, tw_2306, tw_128, _, rfl, rfl⟩
theorem cm_X12_printsInstruction : m_X12_printsInstruction.1.cls ≠ "java/lang/invoke/MethodHandle" ∧ m_X12_printsInstruction.1.cls ≠ "java/lang/invoke/VarHandle" ∧ (parseMethodDescriptor m_X12_printsInstruction.1.desc).map (fun d => d.parameters.length) = some 1 := by decide +kernel
theorem cV_LitmusTesterModel_515 : cV_ "LitmusTesterModel" 515 m_X12_printsInstruction 1 11 := ⟨rfl, ⟨tw_2309, tw_144, tw_2312, cm_X12_printsInstruction, Nat.le_of_ble_eq_true rfl⟩, tw_2311, tw_129, _, rfl, rfl⟩
theorem cm_J0_coder_7d493 : m_J0_coder_7d493.1.cls ≠ "java/lang/invoke/MethodHandle" ∧ m_J0_coder_7d493.1.cls ≠ "java/lang/invoke/VarHandle" ∧ (parseMethodDescriptor m_J0_coder_7d493.1.desc).map (fun d => d.parameters.length) = some 0 := by decide +kernel
theorem cT_java_lang_String_335 : cT_ "java/lang/String" 335 m_J0_coder_7d493 0 := ⟨rfl, ⟨tw_558, tw_148, tw_561, cm_J0_coder_7d493, Nat.le_of_ble_eq_true rfl⟩, tw_559, tw_560, rfl⟩
theorem cm_J0_isLatin1_aae02 : m_J0_isLatin1_aae02.1.cls ≠ "java/lang/invoke/MethodHandle" ∧ m_J0_isLatin1_aae02.1.cls ≠ "java/lang/invoke/VarHandle" ∧ (parseMethodDescriptor m_J0_isLatin1_aae02.1.desc).map (fun d => d.parameters.length) = some 0 := by decide +kernel
theorem cT_java_lang_String_492 : cT_ "java/lang/String" 492 m_J0_isLatin1_aae02 0 := ⟨rfl, ⟨tw_568, tw_148, tw_571, cm_J0_isLatin1_aae02, Nat.le_of_ble_eq_true rfl⟩, tw_569, tw_570, rfl⟩
theorem cm_J2_charAt_3b067 : m_J2_charAt_3b067.1.cls ≠ "java/lang/invoke/MethodHandle" ∧ m_J2_charAt_3b067.1.cls ≠ "java/lang/invoke/VarHandle" ∧ (parseMethodDescriptor m_J2_charAt_3b067.1.desc).map (fun d => d.parameters.length) = some 2 := by decide +kernel
theorem cS_java_lang_String_498 : cS_ "java/lang/String" 498 m_J2_charAt_3b067 2 := ⟨rfl, ⟨tw_583, tw_151, tw_585, cm_J2_charAt_3b067, Nat.le_of_ble_eq_true rfl⟩, tw_584⟩
theorem cm_J1_charAt_3b067 : m_J1_charAt_3b067.1.cls ≠ "java/lang/invoke/MethodHandle" ∧ m_J1_charAt_3b067.1.cls ≠ "java/lang/invoke/VarHandle" ∧ (parseMethodDescriptor m_J1_charAt_3b067.1.desc).map (fun d => d.parameters.length) = some 2 := by decide +kernel
theorem cS_java_lang_String_495 : cS_ "java/lang/String" 495 m_J1_charAt_3b067 2 := ⟨rfl, ⟨tw_572, tw_149, tw_574, cm_J1_charAt_3b067, Nat.le_of_ble_eq_true rfl⟩, tw_573⟩
theorem cm_J3_checkIndex_8e157 : m_J3_checkIndex_8e157.1.cls ≠ "java/lang/invoke/MethodHandle" ∧ m_J3_checkIndex_8e157.1.cls ≠ "java/lang/invoke/VarHandle" ∧ (parseMethodDescriptor m_J3_checkIndex_8e157.1.desc).map (fun d => d.parameters.length) = some 3 := by decide +kernel
theorem cS_java_lang_String_1059 : cS_ "java/lang/String" 1059 m_J3_checkIndex_8e157 3 := ⟨rfl, ⟨tw_580, tw_150, tw_582, cm_J3_checkIndex_8e157, Nat.le_of_ble_eq_true rfl⟩, tw_581⟩
theorem cm_J0_checkIndex_df160 : m_J0_checkIndex_df160.1.cls ≠ "java/lang/invoke/MethodHandle" ∧ m_J0_checkIndex_df160.1.cls ≠ "java/lang/invoke/VarHandle" ∧ (parseMethodDescriptor m_J0_checkIndex_df160.1.desc).map (fun d => d.parameters.length) = some 2 := by decide +kernel
theorem cS_java_lang_StringLatin1_9 : cS_ "java/lang/StringLatin1" 9 m_J0_checkIndex_df160 2 := ⟨rfl, ⟨tw_575, tw_148, tw_577, cm_J0_checkIndex_df160, Nat.le_of_ble_eq_true rfl⟩, tw_576⟩
theorem cm_J2_checkIndex_2214a : m_J2_checkIndex_2214a.1.cls ≠ "java/lang/invoke/MethodHandle" ∧ m_J2_checkIndex_2214a.1.cls ≠ "java/lang/invoke/VarHandle" ∧ (parseMethodDescriptor m_J2_checkIndex_2214a.1.desc).map (fun d => d.parameters.length) = some 2 := by decide +kernel
theorem cS_java_lang_StringUTF16_67 : cS_ "java/lang/StringUTF16" 67 m_J2_checkIndex_2214a 2 := ⟨rfl, ⟨tw_586, tw_151, tw_588, cm_J2_checkIndex_2214a, Nat.le_of_ble_eq_true rfl⟩, tw_587⟩
theorem cm_J2_getChar_3b067 : m_J2_getChar_3b067.1.cls ≠ "java/lang/invoke/MethodHandle" ∧ m_J2_getChar_3b067.1.cls ≠ "java/lang/invoke/VarHandle" ∧ (parseMethodDescriptor m_J2_getChar_3b067.1.desc).map (fun d => d.parameters.length) = some 2 := by decide +kernel
theorem cS_java_lang_StringUTF16_71 : cS_ "java/lang/StringUTF16" 71 m_J2_getChar_3b067 2 := ⟨rfl, ⟨tw_593, tw_151, tw_595, cm_J2_getChar_3b067, Nat.le_of_ble_eq_true rfl⟩, tw_594⟩
theorem cm_J2_length_9d52b : m_J2_length_9d52b.1.cls ≠ "java/lang/invoke/MethodHandle" ∧ m_J2_length_9d52b.1.cls ≠ "java/lang/invoke/VarHandle" ∧ (parseMethodDescriptor m_J2_length_9d52b.1.desc).map (fun d => d.parameters.length) = some 1 := by decide +kernel
theorem cS_java_lang_StringUTF16_48 : cS_ "java/lang/StringUTF16" 48 m_J2_length_9d52b 1 := ⟨rfl, ⟨tw_589, tw_151, tw_591, cm_J2_length_9d52b, Nat.le_of_ble_eq_true rfl⟩, tw_590⟩
theorem cS_java_lang_StringUTF16_414 : cS_ "java/lang/StringUTF16" 414 m_J0_checkIndex_df160 2 := ⟨rfl, ⟨tw_592, tw_148, tw_577, cm_J0_checkIndex_df160, Nat.le_of_ble_eq_true rfl⟩, tw_576⟩
theorem cm_X11_instruction : m_X11_instruction.1.cls ≠ "java/lang/invoke/MethodHandle" ∧ m_X11_instruction.1.cls ≠ "java/lang/invoke/VarHandle" ∧ (parseMethodDescriptor m_X11_instruction.1.desc).map (fun d => d.parameters.length) = some 2 := by decide +kernel
theorem cV_LitmusTesterLaw_7 : cV_ "LitmusTesterLaw" 7 m_X11_instruction 2 10 := ⟨rfl, ⟨tw_992, tw_132, tw_995, cm_X11_instruction, Nat.le_of_ble_eq_true rfl⟩, tw_993, tw_994, _, rfl, rfl⟩
theorem cm_X11_outputByte : m_X11_outputByte.1.cls ≠ "java/lang/invoke/MethodHandle" ∧ m_X11_outputByte.1.cls ≠ "java/lang/invoke/VarHandle" ∧ (parseMethodDescriptor m_X11_outputByte.1.desc).map (fun d => d.parameters.length) = some 1 := by decide +kernel
theorem cV_LitmusTesterLaw_15 : cV_ "LitmusTesterLaw" 15 m_X11_outputByte 1 10 := ⟨rfl, ⟨tw_1073, tw_132, tw_1076, cm_X11_outputByte, Nat.le_of_ble_eq_true rfl⟩, tw_1074, tw_1075, _, rfl, rfl⟩
theorem cm_X11_outcomeCount : m_X11_outcomeCount.1.cls ≠ "java/lang/invoke/MethodHandle" ∧ m_X11_outcomeCount.1.cls ≠ "java/lang/invoke/VarHandle" ∧ (parseMethodDescriptor m_X11_outcomeCount.1.desc).map (fun d => d.parameters.length) = some 1 := by decide +kernel
theorem cV_LitmusTesterLaw_21 : cV_ "LitmusTesterLaw" 21 m_X11_outcomeCount 1 10 := ⟨rfl, ⟨tw_1101, tw_132, tw_1104, cm_X11_outcomeCount, Nat.le_of_ble_eq_true rfl⟩, tw_1102, tw_1103, _, rfl, rfl⟩
theorem cm_X11_outcome : m_X11_outcome.1.cls ≠ "java/lang/invoke/MethodHandle" ∧ m_X11_outcome.1.cls ≠ "java/lang/invoke/VarHandle" ∧ (parseMethodDescriptor m_X11_outcome.1.desc).map (fun d => d.parameters.length) = some 2 := by decide +kernel
theorem cV_LitmusTesterLaw_26 : cV_ "LitmusTesterLaw" 26 m_X11_outcome 2 10 := ⟨rfl, ⟨tw_1317, tw_132, tw_1320, cm_X11_outcome, Nat.le_of_ble_eq_true rfl⟩, tw_1318, tw_1319, _, rfl, rfl⟩
theorem cm_X11_hasOutcome : m_X11_hasOutcome.1.cls ≠ "java/lang/invoke/MethodHandle" ∧ m_X11_hasOutcome.1.cls ≠ "java/lang/invoke/VarHandle" ∧ (parseMethodDescriptor m_X11_hasOutcome.1.desc).map (fun d => d.parameters.length) = some 2 := by decide +kernel
theorem cV_LitmusTesterLaw_29 : cV_ "LitmusTesterLaw" 29 m_X11_hasOutcome 2 10 := ⟨rfl, ⟨tw_1328, tw_132, tw_1331, cm_X11_hasOutcome, Nat.le_of_ble_eq_true rfl⟩, tw_1329, tw_1330, _, rfl, rfl⟩
theorem cm_X11_extraOutcomes : m_X11_extraOutcomes.1.cls ≠ "java/lang/invoke/MethodHandle" ∧ m_X11_extraOutcomes.1.cls ≠ "java/lang/invoke/VarHandle" ∧ (parseMethodDescriptor m_X11_extraOutcomes.1.desc).map (fun d => d.parameters.length) = some 2 := by decide +kernel
theorem cV_LitmusTesterLaw_33 : cV_ "LitmusTesterLaw" 33 m_X11_extraOutcomes 2 10 := ⟨rfl, ⟨tw_1340, tw_132, tw_1343, cm_X11_extraOutcomes, Nat.le_of_ble_eq_true rfl⟩, tw_1341, tw_1342, _, rfl, rfl⟩
theorem cV_LitmusTesterLaw_36 : cV_ "LitmusTesterLaw" 36 m_X11_matchCount 1 10 := ⟨rfl, ⟨tw_1347, tw_132, tw_1350, cm_X11_matchCount, Nat.le_of_ble_eq_true rfl⟩, tw_1348, tw_1349, _, rfl, rfl⟩
theorem cm_X11_firstMatch : m_X11_firstMatch.1.cls ≠ "java/lang/invoke/MethodHandle" ∧ m_X11_firstMatch.1.cls ≠ "java/lang/invoke/VarHandle" ∧ (parseMethodDescriptor m_X11_firstMatch.1.desc).map (fun d => d.parameters.length) = some 1 := by decide +kernel
theorem cV_LitmusTesterLaw_39 : cV_ "LitmusTesterLaw" 39 m_X11_firstMatch 1 10 := ⟨rfl, ⟨tw_1354, tw_132, tw_1357, cm_X11_firstMatch, Nat.le_of_ble_eq_true rfl⟩, tw_1355, tw_1356, _, rfl, rfl⟩
theorem cm_X11_stateCount : m_X11_stateCount.1.cls ≠ "java/lang/invoke/MethodHandle" ∧ m_X11_stateCount.1.cls ≠ "java/lang/invoke/VarHandle" ∧ (parseMethodDescriptor m_X11_stateCount.1.desc).map (fun d => d.parameters.length) = some 1 := by decide +kernel
theorem cV_LitmusTesterLaw_42 : cV_ "LitmusTesterLaw" 42 m_X11_stateCount 1 10 := ⟨rfl, ⟨tw_1361, tw_132, tw_1364, cm_X11_stateCount, Nat.le_of_ble_eq_true rfl⟩, tw_1362, tw_1363, _, rfl, rfl⟩
theorem cm_X11_executionCount : m_X11_executionCount.1.cls ≠ "java/lang/invoke/MethodHandle" ∧ m_X11_executionCount.1.cls ≠ "java/lang/invoke/VarHandle" ∧ (parseMethodDescriptor m_X11_executionCount.1.desc).map (fun d => d.parameters.length) = some 1 := by decide +kernel
theorem cV_LitmusTesterLaw_45 : cV_ "LitmusTesterLaw" 45 m_X11_executionCount 1 10 := ⟨rfl, ⟨tw_1372, tw_132, tw_1375, cm_X11_executionCount, Nat.le_of_ble_eq_true rfl⟩, tw_1373, tw_1374, _, rfl, rfl⟩
theorem cm_X11_executionsWith : m_X11_executionsWith.1.cls ≠ "java/lang/invoke/MethodHandle" ∧ m_X11_executionsWith.1.cls ≠ "java/lang/invoke/VarHandle" ∧ (parseMethodDescriptor m_X11_executionsWith.1.desc).map (fun d => d.parameters.length) = some 2 := by decide +kernel
theorem cV_LitmusTesterLaw_49 : cV_ "LitmusTesterLaw" 49 m_X11_executionsWith 2 10 := ⟨rfl, ⟨tw_1383, tw_132, tw_1386, cm_X11_executionsWith, Nat.le_of_ble_eq_true rfl⟩, tw_1384, tw_1385, _, rfl, rfl⟩
theorem cm_X11_readValues : m_X11_readValues.1.cls ≠ "java/lang/invoke/MethodHandle" ∧ m_X11_readValues.1.cls ≠ "java/lang/invoke/VarHandle" ∧ (parseMethodDescriptor m_X11_readValues.1.desc).map (fun d => d.parameters.length) = some 2 := by decide +kernel
theorem cV_LitmusTesterLaw_53 : cV_ "LitmusTesterLaw" 53 m_X11_readValues 2 10 := ⟨rfl, ⟨tw_1390, tw_132, tw_1393, cm_X11_readValues, Nat.le_of_ble_eq_true rfl⟩, tw_1391, tw_1392, _, rfl, rfl⟩
theorem cm_X11_finalValues : m_X11_finalValues.1.cls ≠ "java/lang/invoke/MethodHandle" ∧ m_X11_finalValues.1.cls ≠ "java/lang/invoke/VarHandle" ∧ (parseMethodDescriptor m_X11_finalValues.1.desc).map (fun d => d.parameters.length) = some 2 := by decide +kernel
theorem cV_LitmusTesterLaw_56 : cV_ "LitmusTesterLaw" 56 m_X11_finalValues 2 10 := ⟨rfl, ⟨tw_1403, tw_132, tw_1406, cm_X11_finalValues, Nat.le_of_ble_eq_true rfl⟩, tw_1404, tw_1405, _, rfl, rfl⟩
theorem cm_X11_greatestBuffer : m_X11_greatestBuffer.1.cls ≠ "java/lang/invoke/MethodHandle" ∧ m_X11_greatestBuffer.1.cls ≠ "java/lang/invoke/VarHandle" ∧ (parseMethodDescriptor m_X11_greatestBuffer.1.desc).map (fun d => d.parameters.length) = some 2 := by decide +kernel
theorem cV_LitmusTesterLaw_59 : cV_ "LitmusTesterLaw" 59 m_X11_greatestBuffer 2 10 := ⟨rfl, ⟨tw_1416, tw_132, tw_1419, cm_X11_greatestBuffer, Nat.le_of_ble_eq_true rfl⟩, tw_1417, tw_1418, _, rfl, rfl⟩
theorem cm_X11_isRace : m_X11_isRace.1.cls ≠ "java/lang/invoke/MethodHandle" ∧ m_X11_isRace.1.cls ≠ "java/lang/invoke/VarHandle" ∧ (parseMethodDescriptor m_X11_isRace.1.desc).map (fun d => d.parameters.length) = some 2 := by decide +kernel
theorem cV_LitmusTesterLaw_62 : cV_ "LitmusTesterLaw" 62 m_X11_isRace 2 10 := ⟨rfl, ⟨tw_1431, tw_132, tw_1434, cm_X11_isRace, Nat.le_of_ble_eq_true rfl⟩, tw_1432, tw_1433, _, rfl, rfl⟩
theorem cm_X11_matchesWith : m_X11_matchesWith.1.cls ≠ "java/lang/invoke/MethodHandle" ∧ m_X11_matchesWith.1.cls ≠ "java/lang/invoke/VarHandle" ∧ (parseMethodDescriptor m_X11_matchesWith.1.desc).map (fun d => d.parameters.length) = some 2 := by decide +kernel
theorem cV_LitmusTesterLaw_65 : cV_ "LitmusTesterLaw" 65 m_X11_matchesWith 2 10 := ⟨rfl, ⟨tw_1438, tw_132, tw_1441, cm_X11_matchesWith, Nat.le_of_ble_eq_true rfl⟩, tw_1439, tw_1440, _, rfl, rfl⟩
theorem cm_X11_fewestFences : m_X11_fewestFences.1.cls ≠ "java/lang/invoke/MethodHandle" ∧ m_X11_fewestFences.1.cls ≠ "java/lang/invoke/VarHandle" ∧ (parseMethodDescriptor m_X11_fewestFences.1.desc).map (fun d => d.parameters.length) = some 1 := by decide +kernel
theorem cV_LitmusTesterLaw_68 : cV_ "LitmusTesterLaw" 68 m_X11_fewestFences 1 10 := ⟨rfl, ⟨tw_1474, tw_132, tw_1477, cm_X11_fewestFences, Nat.le_of_ble_eq_true rfl⟩, tw_1475, tw_1476, _, rfl, rfl⟩
theorem cm_X11_repairingFences : m_X11_repairingFences.1.cls ≠ "java/lang/invoke/MethodHandle" ∧ m_X11_repairingFences.1.cls ≠ "java/lang/invoke/VarHandle" ∧ (parseMethodDescriptor m_X11_repairingFences.1.desc).map (fun d => d.parameters.length) = some 1 := by decide +kernel
theorem cV_LitmusTesterLaw_71 : cV_ "LitmusTesterLaw" 71 m_X11_repairingFences 1 10 := ⟨rfl, ⟨tw_1487, tw_132, tw_1490, cm_X11_repairingFences, Nat.le_of_ble_eq_true rfl⟩, tw_1488, tw_1489, _, rfl, rfl⟩
theorem cm_X11_isFenceNeeded : m_X11_isFenceNeeded.1.cls ≠ "java/lang/invoke/MethodHandle" ∧ m_X11_isFenceNeeded.1.cls ≠ "java/lang/invoke/VarHandle" ∧ (parseMethodDescriptor m_X11_isFenceNeeded.1.desc).map (fun d => d.parameters.length) = some 2 := by decide +kernel
theorem cV_LitmusTesterLaw_74 : cV_ "LitmusTesterLaw" 74 m_X11_isFenceNeeded 2 10 := ⟨rfl, ⟨tw_1494, tw_132, tw_1497, cm_X11_isFenceNeeded, Nat.le_of_ble_eq_true rfl⟩, tw_1495, tw_1496, _, rfl, rfl⟩
theorem cm_X11_insertFence : m_X11_insertFence.1.cls ≠ "java/lang/invoke/MethodHandle" ∧ m_X11_insertFence.1.cls ≠ "java/lang/invoke/VarHandle" ∧ (parseMethodDescriptor m_X11_insertFence.1.desc).map (fun d => d.parameters.length) = some 1 := by decide +kernel
theorem cV_LitmusTesterLaw_77 : cV_ "LitmusTesterLaw" 77 m_X11_insertFence 1 10 := ⟨rfl, ⟨tw_1507, tw_132, tw_1510, cm_X11_insertFence, Nat.le_of_ble_eq_true rfl⟩, tw_1508, tw_1509, _, rfl, rfl⟩
theorem cm_X11_removeFence : m_X11_removeFence.1.cls ≠ "java/lang/invoke/MethodHandle" ∧ m_X11_removeFence.1.cls ≠ "java/lang/invoke/VarHandle" ∧ (parseMethodDescriptor m_X11_removeFence.1.desc).map (fun d => d.parameters.length) = some 1 := by decide +kernel
theorem cV_LitmusTesterLaw_82 : cV_ "LitmusTesterLaw" 82 m_X11_removeFence 1 10 := ⟨rfl, ⟨tw_1538, tw_132, tw_1541, cm_X11_removeFence, Nat.le_of_ble_eq_true rfl⟩, tw_1539, tw_1540, _, rfl, rfl⟩
theorem cm_X11_explain : m_X11_explain.1.cls ≠ "java/lang/invoke/MethodHandle" ∧ m_X11_explain.1.cls ≠ "java/lang/invoke/VarHandle" ∧ (parseMethodDescriptor m_X11_explain.1.desc).map (fun d => d.parameters.length) = some 2 := by decide +kernel
theorem cV_LitmusTesterLaw_85 : cV_ "LitmusTesterLaw" 85 m_X11_explain 2 10 := ⟨rfl, ⟨tw_1548, tw_132, tw_1551, cm_X11_explain, Nat.le_of_ble_eq_true rfl⟩, tw_1549, tw_1550, _, rfl, rfl⟩
theorem cm_X11_readsFrom : m_X11_readsFrom.1.cls ≠ "java/lang/invoke/MethodHandle" ∧ m_X11_readsFrom.1.cls ≠ "java/lang/invoke/VarHandle" ∧ (parseMethodDescriptor m_X11_readsFrom.1.desc).map (fun d => d.parameters.length) = some 1 := by decide +kernel
theorem cV_LitmusTesterLaw_88 : cV_ "LitmusTesterLaw" 88 m_X11_readsFrom 1 10 := ⟨rfl, ⟨tw_1605, tw_132, tw_1608, cm_X11_readsFrom, Nat.le_of_ble_eq_true rfl⟩, tw_1606, tw_1607, _, rfl, rfl⟩
theorem cm_X11_writtenBy : m_X11_writtenBy.1.cls ≠ "java/lang/invoke/MethodHandle" ∧ m_X11_writtenBy.1.cls ≠ "java/lang/invoke/VarHandle" ∧ (parseMethodDescriptor m_X11_writtenBy.1.desc).map (fun d => d.parameters.length) = some 2 := by decide +kernel
theorem cV_LitmusTesterLaw_91 : cV_ "LitmusTesterLaw" 91 m_X11_writtenBy 2 10 := ⟨rfl, ⟨tw_1621, tw_132, tw_1624, cm_X11_writtenBy, Nat.le_of_ble_eq_true rfl⟩, tw_1622, tw_1623, _, rfl, rfl⟩
theorem fl_LitmusTester_Changes_15 : fl_ "LitmusTester$Changes" 15 0 1 := ⟨_, rfl, Nat.le_of_ble_eq_true rfl, tw_408⟩
theorem fl_LitmusTester_Changes_9 : fl_ "LitmusTester$Changes" 9 0 0 := ⟨_, rfl, Nat.le_of_ble_eq_true rfl, tw_407⟩
theorem fl_LitmusTester_Explanation_28 : fl_ "LitmusTester$Explanation" 28 1 6 := ⟨_, rfl, Nat.le_of_ble_eq_true rfl, tw_426⟩
theorem fl_LitmusTester_Explanation_21 : fl_ "LitmusTester$Explanation" 21 1 4 := ⟨_, rfl, Nat.le_of_ble_eq_true rfl, tw_424⟩
theorem fl_LitmusTester_Explanation_25 : fl_ "LitmusTester$Explanation" 25 1 5 := ⟨_, rfl, Nat.le_of_ble_eq_true rfl, tw_425⟩
theorem fl_LitmusTester_Explanation_32 : fl_ "LitmusTester$Explanation" 32 1 0 := ⟨_, rfl, Nat.le_of_ble_eq_true rfl, tw_420⟩
theorem fl_LitmusTester_Explanation_15 : fl_ "LitmusTester$Explanation" 15 1 2 := ⟨_, rfl, Nat.le_of_ble_eq_true rfl, tw_422⟩
theorem fl_LitmusTester_Explanation_9 : fl_ "LitmusTester$Explanation" 9 1 1 := ⟨_, rfl, Nat.le_of_ble_eq_true rfl, tw_421⟩
theorem fl_LitmusTester_Explanation_18 : fl_ "LitmusTester$Explanation" 18 1 3 := ⟨_, rfl, Nat.le_of_ble_eq_true rfl, tw_423⟩
theorem fl_LitmusTester_Explorer_31 : fl_ "LitmusTester$Explorer" 31 2 1 := ⟨_, rfl, Nat.le_of_ble_eq_true rfl, tw_358⟩
theorem fl_LitmusTester_Explorer_12 : fl_ "LitmusTester$Explorer" 12 2 2 := ⟨_, rfl, Nat.le_of_ble_eq_true rfl, tw_359⟩
theorem fl_LitmusTester_Explorer_22 : fl_ "LitmusTester$Explorer" 22 2 0 := ⟨_, rfl, Nat.le_of_ble_eq_true rfl, tw_357⟩
theorem fl_LitmusTester_Explorer_18 : fl_ "LitmusTester$Explorer" 18 2 3 := ⟨_, rfl, Nat.le_of_ble_eq_true rfl, tw_360⟩
theorem fl_LitmusTester_Findings_26 : fl_ "LitmusTester$Findings" 26 3 4 := ⟨_, rfl, Nat.le_of_ble_eq_true rfl, tw_383⟩
theorem fl_LitmusTester_Findings_30 : fl_ "LitmusTester$Findings" 30 3 5 := ⟨_, rfl, Nat.le_of_ble_eq_true rfl, tw_384⟩
theorem fl_LitmusTester_Findings_33 : fl_ "LitmusTester$Findings" 33 3 6 := ⟨_, rfl, Nat.le_of_ble_eq_true rfl, tw_385⟩
theorem fl_LitmusTester_Findings_19 : fl_ "LitmusTester$Findings" 19 3 2 := ⟨_, rfl, Nat.le_of_ble_eq_true rfl, tw_381⟩
theorem fl_LitmusTester_Findings_23 : fl_ "LitmusTester$Findings" 23 3 3 := ⟨_, rfl, Nat.le_of_ble_eq_true rfl, tw_382⟩
theorem fl_LitmusTester_Findings_11 : fl_ "LitmusTester$Findings" 11 3 0 := ⟨_, rfl, Nat.le_of_ble_eq_true rfl, tw_379⟩
theorem fl_LitmusTester_Findings_15 : fl_ "LitmusTester$Findings" 15 3 1 := ⟨_, rfl, Nat.le_of_ble_eq_true rfl, tw_380⟩
theorem fl_LitmusTester_Machine_42 : fl_ "LitmusTester$Machine" 42 4 11 := ⟨_, rfl, Nat.le_of_ble_eq_true rfl, tw_322⟩
theorem fl_LitmusTester_Machine_46 : fl_ "LitmusTester$Machine" 46 4 12 := ⟨_, rfl, Nat.le_of_ble_eq_true rfl, tw_323⟩
theorem fl_LitmusTester_Machine_56 : fl_ "LitmusTester$Machine" 56 4 0 := ⟨_, rfl, Nat.le_of_ble_eq_true rfl, tw_311⟩
theorem fl_LitmusTester_Machine_49 : fl_ "LitmusTester$Machine" 49 4 13 := ⟨_, rfl, Nat.le_of_ble_eq_true rfl, tw_324⟩
theorem fl_LitmusTester_Machine_39 : fl_ "LitmusTester$Machine" 39 4 10 := ⟨_, rfl, Nat.le_of_ble_eq_true rfl, tw_321⟩
theorem fl_LitmusTester_Machine_53 : fl_ "LitmusTester$Machine" 53 4 14 := ⟨_, rfl, Nat.le_of_ble_eq_true rfl, tw_325⟩
theorem fl_LitmusTester_Machine_30 : fl_ "LitmusTester$Machine" 30 4 7 := ⟨_, rfl, Nat.le_of_ble_eq_true rfl, tw_318⟩
theorem fl_LitmusTester_Machine_33 : fl_ "LitmusTester$Machine" 33 4 8 := ⟨_, rfl, Nat.le_of_ble_eq_true rfl, tw_319⟩
theorem fl_LitmusTester_Machine_36 : fl_ "LitmusTester$Machine" 36 4 9 := ⟨_, rfl, Nat.le_of_ble_eq_true rfl, tw_320⟩
theorem fl_LitmusTester_Machine_11 : fl_ "LitmusTester$Machine" 11 4 1 := ⟨_, rfl, Nat.le_of_ble_eq_true rfl, tw_312⟩
theorem fl_LitmusTester_Machine_15 : fl_ "LitmusTester$Machine" 15 4 2 := ⟨_, rfl, Nat.le_of_ble_eq_true rfl, tw_313⟩
theorem fl_LitmusTester_Machine_27 : fl_ "LitmusTester$Machine" 27 4 6 := ⟨_, rfl, Nat.le_of_ble_eq_true rfl, tw_317⟩
theorem fl_LitmusTester_Machine_18 : fl_ "LitmusTester$Machine" 18 4 3 := ⟨_, rfl, Nat.le_of_ble_eq_true rfl, tw_314⟩
theorem fl_LitmusTester_Machine_21 : fl_ "LitmusTester$Machine" 21 4 4 := ⟨_, rfl, Nat.le_of_ble_eq_true rfl, tw_315⟩
theorem fl_LitmusTester_Machine_24 : fl_ "LitmusTester$Machine" 24 4 5 := ⟨_, rfl, Nat.le_of_ble_eq_true rfl, tw_316⟩
theorem fl_LitmusTester_Output_15 : fl_ "LitmusTester$Output" 15 5 1 := ⟨_, rfl, Nat.le_of_ble_eq_true rfl, tw_176⟩
theorem fl_LitmusTester_Output_9 : fl_ "LitmusTester$Output" 9 5 0 := ⟨_, rfl, Nat.le_of_ble_eq_true rfl, tw_175⟩
theorem fl_LitmusTester_Parser_9 : fl_ "LitmusTester$Parser" 9 6 2 := ⟨_, rfl, Nat.le_of_ble_eq_true rfl, tw_254⟩
theorem fl_LitmusTester_Parser_15 : fl_ "LitmusTester$Parser" 15 6 3 := ⟨_, rfl, Nat.le_of_ble_eq_true rfl, tw_255⟩
theorem fl_LitmusTester_Parser_39 : fl_ "LitmusTester$Parser" 39 6 1 := ⟨_, rfl, Nat.le_of_ble_eq_true rfl, tw_253⟩
theorem fl_LitmusTester_Parser_35 : fl_ "LitmusTester$Parser" 35 6 0 := ⟨_, rfl, Nat.le_of_ble_eq_true rfl, tw_252⟩
theorem fl_LitmusTester_Parser_18 : fl_ "LitmusTester$Parser" 18 6 4 := ⟨_, rfl, Nat.le_of_ble_eq_true rfl, tw_256⟩
theorem fl_LitmusTester_Parser_21 : fl_ "LitmusTester$Parser" 21 6 5 := ⟨_, rfl, Nat.le_of_ble_eq_true rfl, tw_257⟩
theorem fl_LitmusTester_Parser_24 : fl_ "LitmusTester$Parser" 24 6 6 := ⟨_, rfl, Nat.le_of_ble_eq_true rfl, tw_258⟩
theorem fl_LitmusTester_Parser_27 : fl_ "LitmusTester$Parser" 27 6 7 := ⟨_, rfl, Nat.le_of_ble_eq_true rfl, tw_259⟩
theorem fl_LitmusTester_Program_25 : fl_ "LitmusTester$Program" 25 7 4 := ⟨_, rfl, Nat.le_of_ble_eq_true rfl, tw_193⟩
theorem fl_LitmusTester_Program_29 : fl_ "LitmusTester$Program" 29 7 5 := ⟨_, rfl, Nat.le_of_ble_eq_true rfl, tw_194⟩
theorem fl_LitmusTester_Program_32 : fl_ "LitmusTester$Program" 32 7 6 := ⟨_, rfl, Nat.le_of_ble_eq_true rfl, tw_195⟩
theorem fl_LitmusTester_Program_35 : fl_ "LitmusTester$Program" 35 7 7 := ⟨_, rfl, Nat.le_of_ble_eq_true rfl, tw_196⟩
theorem fl_LitmusTester_Program_9 : fl_ "LitmusTester$Program" 9 7 0 := ⟨_, rfl, Nat.le_of_ble_eq_true rfl, tw_189⟩
theorem fl_LitmusTester_Program_15 : fl_ "LitmusTester$Program" 15 7 1 := ⟨_, rfl, Nat.le_of_ble_eq_true rfl, tw_190⟩
theorem fl_LitmusTester_Program_19 : fl_ "LitmusTester$Program" 19 7 2 := ⟨_, rfl, Nat.le_of_ble_eq_true rfl, tw_191⟩
theorem fl_LitmusTester_Program_22 : fl_ "LitmusTester$Program" 22 7 3 := ⟨_, rfl, Nat.le_of_ble_eq_true rfl, tw_192⟩
theorem fl_LitmusTester_StateTable_26 : fl_ "LitmusTester$StateTable" 26 8 4 := ⟨_, rfl, Nat.le_of_ble_eq_true rfl, tw_293⟩
theorem fl_LitmusTester_StateTable_22 : fl_ "LitmusTester$StateTable" 22 8 3 := ⟨_, rfl, Nat.le_of_ble_eq_true rfl, tw_292⟩
theorem fl_LitmusTester_StateTable_18 : fl_ "LitmusTester$StateTable" 18 8 2 := ⟨_, rfl, Nat.le_of_ble_eq_true rfl, tw_291⟩
theorem fl_LitmusTester_StateTable_11 : fl_ "LitmusTester$StateTable" 11 8 0 := ⟨_, rfl, Nat.le_of_ble_eq_true rfl, tw_289⟩
theorem fl_LitmusTester_StateTable_15 : fl_ "LitmusTester$StateTable" 15 8 1 := ⟨_, rfl, Nat.le_of_ble_eq_true rfl, tw_290⟩
theorem fl_LitmusTester_Tokens_35 : fl_ "LitmusTester$Tokens" 35 9 0 := ⟨_, rfl, Nat.le_of_ble_eq_true rfl, tw_230⟩
theorem fl_LitmusTester_Tokens_25 : fl_ "LitmusTester$Tokens" 25 9 4 := ⟨_, rfl, Nat.le_of_ble_eq_true rfl, tw_234⟩
theorem fl_LitmusTester_Tokens_29 : fl_ "LitmusTester$Tokens" 29 9 5 := ⟨_, rfl, Nat.le_of_ble_eq_true rfl, tw_235⟩
theorem fl_LitmusTester_Tokens_32 : fl_ "LitmusTester$Tokens" 32 9 6 := ⟨_, rfl, Nat.le_of_ble_eq_true rfl, tw_236⟩
theorem fl_LitmusTester_Tokens_17 : fl_ "LitmusTester$Tokens" 17 9 2 := ⟨_, rfl, Nat.le_of_ble_eq_true rfl, tw_232⟩
theorem fl_LitmusTester_Tokens_21 : fl_ "LitmusTester$Tokens" 21 9 3 := ⟨_, rfl, Nat.le_of_ble_eq_true rfl, tw_233⟩
theorem fl_LitmusTester_Tokens_11 : fl_ "LitmusTester$Tokens" 11 9 1 := ⟨_, rfl, Nat.le_of_ble_eq_true rfl, tw_231⟩
theorem fl_LitmusTester_13 : fl_ "LitmusTester" 13 10 1 := ⟨_, rfl, Nat.le_of_ble_eq_true rfl, tw_443⟩
theorem fl_LitmusTester_9 : fl_ "LitmusTester" 9 10 0 := ⟨_, rfl, Nat.le_of_ble_eq_true rfl, tw_442⟩
theorem fl_LitmusTester_39 : fl_ "LitmusTester" 39 10 5 := ⟨_, rfl, Nat.le_of_ble_eq_true rfl, tw_447⟩
theorem fl_LitmusTester_27 : fl_ "LitmusTester" 27 10 3 := ⟨_, rfl, Nat.le_of_ble_eq_true rfl, tw_445⟩
theorem fl_LitmusTester_31 : fl_ "LitmusTester" 31 10 4 := ⟨_, rfl, Nat.le_of_ble_eq_true rfl, tw_446⟩
theorem fl_LitmusTester_68 : fl_ "LitmusTester" 68 10 10 := ⟨_, rfl, Nat.le_of_ble_eq_true rfl, tw_452⟩
theorem fl_LitmusTester_55 : fl_ "LitmusTester" 55 10 7 := ⟨_, rfl, Nat.le_of_ble_eq_true rfl, tw_449⟩
theorem fl_LitmusTester_59 : fl_ "LitmusTester" 59 10 8 := ⟨_, rfl, Nat.le_of_ble_eq_true rfl, tw_450⟩
theorem fl_LitmusTester_62 : fl_ "LitmusTester" 62 10 9 := ⟨_, rfl, Nat.le_of_ble_eq_true rfl, tw_451⟩
theorem fl_LitmusTester_75 : fl_ "LitmusTester" 75 10 11 := ⟨_, rfl, Nat.le_of_ble_eq_true rfl, tw_453⟩
theorem fl_LitmusTester_20 : fl_ "LitmusTester" 20 10 2 := ⟨_, rfl, Nat.le_of_ble_eq_true rfl, tw_444⟩
theorem fl_LitmusTester_48 : fl_ "LitmusTester" 48 10 6 := ⟨_, rfl, Nat.le_of_ble_eq_true rfl, tw_448⟩
theorem fl_LitmusTesterModel_1 : fl_ "LitmusTesterModel" 1 11 0 := ⟨_, rfl, Nat.le_of_ble_eq_true rfl, tw_1640⟩
theorem fl_LitmusTesterModel_13 : fl_ "LitmusTesterModel" 13 11 1 := ⟨_, rfl, Nat.le_of_ble_eq_true rfl, tw_1641⟩
theorem fl_LitmusTesterModel_117 : fl_ "LitmusTesterModel" 117 11 2 := ⟨_, rfl, Nat.le_of_ble_eq_true rfl, tw_1642⟩
theorem fl_LitmusTesterModel_17 : fl_ "LitmusTesterModel" 17 11 3 := ⟨_, rfl, Nat.le_of_ble_eq_true rfl, tw_1643⟩
theorem fl_LitmusTesterModel_132 : fl_ "LitmusTesterModel" 132 11 10 := ⟨_, rfl, Nat.le_of_ble_eq_true rfl, tw_1650⟩
theorem fl_LitmusTesterModel_135 : fl_ "LitmusTesterModel" 135 11 47 := ⟨_, rfl, Nat.le_of_ble_eq_true rfl, tw_1687⟩
theorem fl_LitmusTesterModel_23 : fl_ "LitmusTesterModel" 23 11 5 := ⟨_, rfl, Nat.le_of_ble_eq_true rfl, tw_1645⟩
theorem fl_LitmusTesterModel_139 : fl_ "LitmusTesterModel" 139 11 11 := ⟨_, rfl, Nat.le_of_ble_eq_true rfl, tw_1651⟩
theorem fl_LitmusTesterModel_142 : fl_ "LitmusTesterModel" 142 11 12 := ⟨_, rfl, Nat.le_of_ble_eq_true rfl, tw_1652⟩
theorem fl_LitmusTesterModel_156 : fl_ "LitmusTesterModel" 156 11 13 := ⟨_, rfl, Nat.le_of_ble_eq_true rfl, tw_1653⟩
theorem fl_LitmusTesterModel_159 : fl_ "LitmusTesterModel" 159 11 15 := ⟨_, rfl, Nat.le_of_ble_eq_true rfl, tw_1655⟩
theorem fl_LitmusTesterModel_162 : fl_ "LitmusTesterModel" 162 11 14 := ⟨_, rfl, Nat.le_of_ble_eq_true rfl, tw_1654⟩
theorem fl_LitmusTesterModel_209 : fl_ "LitmusTesterModel" 209 11 16 := ⟨_, rfl, Nat.le_of_ble_eq_true rfl, tw_1656⟩
theorem fl_LitmusTesterModel_212 : fl_ "LitmusTesterModel" 212 11 17 := ⟨_, rfl, Nat.le_of_ble_eq_true rfl, tw_1657⟩
theorem fl_LitmusTesterModel_20 : fl_ "LitmusTesterModel" 20 11 4 := ⟨_, rfl, Nat.le_of_ble_eq_true rfl, tw_1644⟩
theorem fl_LitmusTesterModel_35 : fl_ "LitmusTesterModel" 35 11 9 := ⟨_, rfl, Nat.le_of_ble_eq_true rfl, tw_1649⟩
theorem fl_LitmusTesterModel_32 : fl_ "LitmusTesterModel" 32 11 8 := ⟨_, rfl, Nat.le_of_ble_eq_true rfl, tw_1648⟩
theorem fl_LitmusTesterModel_26 : fl_ "LitmusTesterModel" 26 11 6 := ⟨_, rfl, Nat.le_of_ble_eq_true rfl, tw_1646⟩
theorem fl_LitmusTesterModel_29 : fl_ "LitmusTesterModel" 29 11 7 := ⟨_, rfl, Nat.le_of_ble_eq_true rfl, tw_1647⟩
theorem fl_LitmusTesterModel_41 : fl_ "LitmusTesterModel" 41 11 19 := ⟨_, rfl, Nat.le_of_ble_eq_true rfl, tw_1659⟩
theorem fl_LitmusTesterModel_264 : fl_ "LitmusTesterModel" 264 11 21 := ⟨_, rfl, Nat.le_of_ble_eq_true rfl, tw_1661⟩
theorem fl_LitmusTesterModel_270 : fl_ "LitmusTesterModel" 270 11 22 := ⟨_, rfl, Nat.le_of_ble_eq_true rfl, tw_1662⟩
theorem fl_LitmusTesterModel_294 : fl_ "LitmusTesterModel" 294 11 20 := ⟨_, rfl, Nat.le_of_ble_eq_true rfl, tw_1660⟩
theorem fl_LitmusTesterModel_38 : fl_ "LitmusTesterModel" 38 11 18 := ⟨_, rfl, Nat.le_of_ble_eq_true rfl, tw_1658⟩
theorem fl_LitmusTesterModel_59 : fl_ "LitmusTesterModel" 59 11 28 := ⟨_, rfl, Nat.le_of_ble_eq_true rfl, tw_1668⟩
theorem fl_LitmusTesterModel_44 : fl_ "LitmusTesterModel" 44 11 23 := ⟨_, rfl, Nat.le_of_ble_eq_true rfl, tw_1663⟩
theorem fl_LitmusTesterModel_47 : fl_ "LitmusTesterModel" 47 11 24 := ⟨_, rfl, Nat.le_of_ble_eq_true rfl, tw_1664⟩
theorem fl_LitmusTesterModel_50 : fl_ "LitmusTesterModel" 50 11 25 := ⟨_, rfl, Nat.le_of_ble_eq_true rfl, tw_1665⟩
theorem fl_LitmusTesterModel_53 : fl_ "LitmusTesterModel" 53 11 26 := ⟨_, rfl, Nat.le_of_ble_eq_true rfl, tw_1666⟩
theorem fl_LitmusTesterModel_56 : fl_ "LitmusTesterModel" 56 11 27 := ⟨_, rfl, Nat.le_of_ble_eq_true rfl, tw_1667⟩
theorem fl_LitmusTesterModel_65 : fl_ "LitmusTesterModel" 65 11 30 := ⟨_, rfl, Nat.le_of_ble_eq_true rfl, tw_1670⟩
theorem fl_LitmusTesterModel_62 : fl_ "LitmusTesterModel" 62 11 29 := ⟨_, rfl, Nat.le_of_ble_eq_true rfl, tw_1669⟩
theorem fl_LitmusTesterModel_335 : fl_ "LitmusTesterModel" 335 11 31 := ⟨_, rfl, Nat.le_of_ble_eq_true rfl, tw_1671⟩
theorem fl_LitmusTesterModel_346 : fl_ "LitmusTesterModel" 346 11 33 := ⟨_, rfl, Nat.le_of_ble_eq_true rfl, tw_1673⟩
theorem fl_LitmusTesterModel_356 : fl_ "LitmusTesterModel" 356 11 32 := ⟨_, rfl, Nat.le_of_ble_eq_true rfl, tw_1672⟩
theorem fl_LitmusTesterModel_360 : fl_ "LitmusTesterModel" 360 11 34 := ⟨_, rfl, Nat.le_of_ble_eq_true rfl, tw_1674⟩
theorem fl_LitmusTesterModel_79 : fl_ "LitmusTesterModel" 79 11 38 := ⟨_, rfl, Nat.le_of_ble_eq_true rfl, tw_1678⟩
theorem fl_LitmusTesterModel_369 : fl_ "LitmusTesterModel" 369 11 40 := ⟨_, rfl, Nat.le_of_ble_eq_true rfl, tw_1680⟩
theorem fl_LitmusTesterModel_69 : fl_ "LitmusTesterModel" 69 11 35 := ⟨_, rfl, Nat.le_of_ble_eq_true rfl, tw_1675⟩
theorem fl_LitmusTesterModel_76 : fl_ "LitmusTesterModel" 76 11 37 := ⟨_, rfl, Nat.le_of_ble_eq_true rfl, tw_1677⟩
theorem fl_LitmusTesterModel_376 : fl_ "LitmusTesterModel" 376 11 39 := ⟨_, rfl, Nat.le_of_ble_eq_true rfl, tw_1679⟩
theorem fl_LitmusTesterModel_73 : fl_ "LitmusTesterModel" 73 11 36 := ⟨_, rfl, Nat.le_of_ble_eq_true rfl, tw_1676⟩
theorem fl_LitmusTesterModel_82 : fl_ "LitmusTesterModel" 82 11 41 := ⟨_, rfl, Nat.le_of_ble_eq_true rfl, tw_1681⟩
theorem fl_LitmusTesterModel_88 : fl_ "LitmusTesterModel" 88 11 43 := ⟨_, rfl, Nat.le_of_ble_eq_true rfl, tw_1683⟩
theorem fl_LitmusTesterModel_395 : fl_ "LitmusTesterModel" 395 11 44 := ⟨_, rfl, Nat.le_of_ble_eq_true rfl, tw_1684⟩
theorem fl_LitmusTesterModel_423 : fl_ "LitmusTesterModel" 423 11 45 := ⟨_, rfl, Nat.le_of_ble_eq_true rfl, tw_1685⟩
theorem fl_LitmusTesterModel_85 : fl_ "LitmusTesterModel" 85 11 42 := ⟨_, rfl, Nat.le_of_ble_eq_true rfl, tw_1682⟩
theorem fl_LitmusTesterModel_91 : fl_ "LitmusTesterModel" 91 11 46 := ⟨_, rfl, Nat.le_of_ble_eq_true rfl, tw_1686⟩
theorem fl_LitmusTesterModel_101 : fl_ "LitmusTesterModel" 101 11 50 := ⟨_, rfl, Nat.le_of_ble_eq_true rfl, tw_1690⟩
theorem fl_LitmusTesterModel_104 : fl_ "LitmusTesterModel" 104 11 51 := ⟨_, rfl, Nat.le_of_ble_eq_true rfl, tw_1691⟩
theorem fl_LitmusTesterModel_107 : fl_ "LitmusTesterModel" 107 11 52 := ⟨_, rfl, Nat.le_of_ble_eq_true rfl, tw_1692⟩
theorem fl_LitmusTesterModel_95 : fl_ "LitmusTesterModel" 95 11 48 := ⟨_, rfl, Nat.le_of_ble_eq_true rfl, tw_1688⟩
theorem fl_LitmusTesterModel_482 : fl_ "LitmusTesterModel" 482 11 53 := ⟨_, rfl, Nat.le_of_ble_eq_true rfl, tw_1693⟩
theorem fl_LitmusTesterModel_98 : fl_ "LitmusTesterModel" 98 11 49 := ⟨_, rfl, Nat.le_of_ble_eq_true rfl, tw_1689⟩
theorem fl_LitmusTesterModel_110 : fl_ "LitmusTesterModel" 110 11 54 := ⟨_, rfl, Nat.le_of_ble_eq_true rfl, tw_1694⟩
theorem fl_LitmusTesterModel_113 : fl_ "LitmusTesterModel" 113 11 55 := ⟨_, rfl, Nat.le_of_ble_eq_true rfl, tw_1695⟩
theorem fl_LitmusTesterModel_495 : fl_ "LitmusTesterModel" 495 11 56 := ⟨_, rfl, Nat.le_of_ble_eq_true rfl, tw_1696⟩
theorem fz_0_1 : ∀ q, vwCl[0]? = some q → (q.2.1 1).2.2.2 = false := fun q e => by cases e; rfl
theorem fz_1_4 : ∀ q, vwCl[1]? = some q → (q.2.1 4).2.2.2 = false := fun q e => by cases e; rfl
theorem fz_1_5 : ∀ q, vwCl[1]? = some q → (q.2.1 5).2.2.2 = false := fun q e => by cases e; rfl
theorem fz_1_6 : ∀ q, vwCl[1]? = some q → (q.2.1 6).2.2.2 = false := fun q e => by cases e; rfl
theorem fz_3_0 : ∀ q, vwCl[3]? = some q → (q.2.1 0).2.2.2 = false := fun q e => by cases e; rfl
theorem fz_3_1 : ∀ q, vwCl[3]? = some q → (q.2.1 1).2.2.2 = false := fun q e => by cases e; rfl
theorem fz_3_2 : ∀ q, vwCl[3]? = some q → (q.2.1 2).2.2.2 = false := fun q e => by cases e; rfl
theorem fz_3_3 : ∀ q, vwCl[3]? = some q → (q.2.1 3).2.2.2 = false := fun q e => by cases e; rfl
theorem fz_3_4 : ∀ q, vwCl[3]? = some q → (q.2.1 4).2.2.2 = false := fun q e => by cases e; rfl
theorem fz_4_11 : ∀ q, vwCl[4]? = some q → (q.2.1 11).2.2.2 = false := fun q e => by cases e; rfl
theorem fz_4_12 : ∀ q, vwCl[4]? = some q → (q.2.1 12).2.2.2 = false := fun q e => by cases e; rfl
theorem fz_4_13 : ∀ q, vwCl[4]? = some q → (q.2.1 13).2.2.2 = false := fun q e => by cases e; rfl
theorem fz_4_14 : ∀ q, vwCl[4]? = some q → (q.2.1 14).2.2.2 = false := fun q e => by cases e; rfl
theorem fz_5_1 : ∀ q, vwCl[5]? = some q → (q.2.1 1).2.2.2 = false := fun q e => by cases e; rfl
theorem fz_6_2 : ∀ q, vwCl[6]? = some q → (q.2.1 2).2.2.2 = false := fun q e => by cases e; rfl
theorem fz_6_3 : ∀ q, vwCl[6]? = some q → (q.2.1 3).2.2.2 = false := fun q e => by cases e; rfl
theorem fz_6_4 : ∀ q, vwCl[6]? = some q → (q.2.1 4).2.2.2 = false := fun q e => by cases e; rfl
theorem fz_6_5 : ∀ q, vwCl[6]? = some q → (q.2.1 5).2.2.2 = false := fun q e => by cases e; rfl
theorem fz_6_6 : ∀ q, vwCl[6]? = some q → (q.2.1 6).2.2.2 = false := fun q e => by cases e; rfl
theorem fz_6_7 : ∀ q, vwCl[6]? = some q → (q.2.1 7).2.2.2 = false := fun q e => by cases e; rfl
theorem fz_7_4 : ∀ q, vwCl[7]? = some q → (q.2.1 4).2.2.2 = false := fun q e => by cases e; rfl
theorem fz_7_5 : ∀ q, vwCl[7]? = some q → (q.2.1 5).2.2.2 = false := fun q e => by cases e; rfl
theorem fz_7_6 : ∀ q, vwCl[7]? = some q → (q.2.1 6).2.2.2 = false := fun q e => by cases e; rfl
theorem fz_7_7 : ∀ q, vwCl[7]? = some q → (q.2.1 7).2.2.2 = false := fun q e => by cases e; rfl
theorem fz_8_0 : ∀ q, vwCl[8]? = some q → (q.2.1 0).2.2.2 = false := fun q e => by cases e; rfl
theorem fz_8_1 : ∀ q, vwCl[8]? = some q → (q.2.1 1).2.2.2 = false := fun q e => by cases e; rfl
theorem fz_8_2 : ∀ q, vwCl[8]? = some q → (q.2.1 2).2.2.2 = false := fun q e => by cases e; rfl
theorem fz_8_3 : ∀ q, vwCl[8]? = some q → (q.2.1 3).2.2.2 = false := fun q e => by cases e; rfl
theorem fz_8_4 : ∀ q, vwCl[8]? = some q → (q.2.1 4).2.2.2 = false := fun q e => by cases e; rfl
theorem fz_9_4 : ∀ q, vwCl[9]? = some q → (q.2.1 4).2.2.2 = false := fun q e => by cases e; rfl
theorem fz_9_5 : ∀ q, vwCl[9]? = some q → (q.2.1 5).2.2.2 = false := fun q e => by cases e; rfl
theorem fz_9_6 : ∀ q, vwCl[9]? = some q → (q.2.1 6).2.2.2 = false := fun q e => by cases e; rfl
theorem fz_10_1 : ∀ q, vwCl[10]? = some q → (q.2.1 1).2.2.2 = false := fun q e => by cases e; rfl
theorem fz_11_0 : ∀ q, vwCl[11]? = some q → (q.2.1 0).2.2.2 = false := fun q e => by cases e; rfl
theorem fz_11_2 : ∀ q, vwCl[11]? = some q → (q.2.1 2).2.2.2 = false := fun q e => by cases e; rfl
theorem fz_11_10 : ∀ q, vwCl[11]? = some q → (q.2.1 10).2.2.2 = false := fun q e => by cases e; rfl
theorem fz_11_11 : ∀ q, vwCl[11]? = some q → (q.2.1 11).2.2.2 = false := fun q e => by cases e; rfl
theorem fz_11_12 : ∀ q, vwCl[11]? = some q → (q.2.1 12).2.2.2 = false := fun q e => by cases e; rfl
theorem fz_11_13 : ∀ q, vwCl[11]? = some q → (q.2.1 13).2.2.2 = false := fun q e => by cases e; rfl
theorem fz_11_14 : ∀ q, vwCl[11]? = some q → (q.2.1 14).2.2.2 = false := fun q e => by cases e; rfl
theorem fz_11_15 : ∀ q, vwCl[11]? = some q → (q.2.1 15).2.2.2 = false := fun q e => by cases e; rfl
theorem fz_11_16 : ∀ q, vwCl[11]? = some q → (q.2.1 16).2.2.2 = false := fun q e => by cases e; rfl
theorem fz_11_17 : ∀ q, vwCl[11]? = some q → (q.2.1 17).2.2.2 = false := fun q e => by cases e; rfl
theorem fz_11_20 : ∀ q, vwCl[11]? = some q → (q.2.1 20).2.2.2 = false := fun q e => by cases e; rfl
theorem fz_11_21 : ∀ q, vwCl[11]? = some q → (q.2.1 21).2.2.2 = false := fun q e => by cases e; rfl
theorem fz_11_22 : ∀ q, vwCl[11]? = some q → (q.2.1 22).2.2.2 = false := fun q e => by cases e; rfl
theorem fz_11_31 : ∀ q, vwCl[11]? = some q → (q.2.1 31).2.2.2 = false := fun q e => by cases e; rfl
theorem fz_11_32 : ∀ q, vwCl[11]? = some q → (q.2.1 32).2.2.2 = false := fun q e => by cases e; rfl
theorem fz_11_33 : ∀ q, vwCl[11]? = some q → (q.2.1 33).2.2.2 = false := fun q e => by cases e; rfl
theorem fz_11_34 : ∀ q, vwCl[11]? = some q → (q.2.1 34).2.2.2 = false := fun q e => by cases e; rfl
theorem fz_11_39 : ∀ q, vwCl[11]? = some q → (q.2.1 39).2.2.2 = false := fun q e => by cases e; rfl
theorem fz_11_40 : ∀ q, vwCl[11]? = some q → (q.2.1 40).2.2.2 = false := fun q e => by cases e; rfl
theorem fz_11_44 : ∀ q, vwCl[11]? = some q → (q.2.1 44).2.2.2 = false := fun q e => by cases e; rfl
theorem fz_11_45 : ∀ q, vwCl[11]? = some q → (q.2.1 45).2.2.2 = false := fun q e => by cases e; rfl
theorem fz_11_47 : ∀ q, vwCl[11]? = some q → (q.2.1 47).2.2.2 = false := fun q e => by cases e; rfl
theorem fz_11_53 : ∀ q, vwCl[11]? = some q → (q.2.1 53).2.2.2 = false := fun q e => by cases e; rfl
theorem fz_11_56 : ∀ q, vwCl[11]? = some q → (q.2.1 56).2.2.2 = false := fun q e => by cases e; rfl
theorem th_LitmusTester_117_121 : th_ "LitmusTester" 117 121 "java/lang/IndexOutOfBoundsException" ["java/lang/RuntimeException", "java/lang/Exception"] := ⟨by decide +kernel, by decide +kernel, tw_1000, tw_156, by decide +kernel, by decide +kernel, by decide +kernel, by decide +kernel, by decide +kernel⟩
theorem th_LitmusTester_157_161 : tn_ "LitmusTester" 157 161 "java/util/NoSuchElementException" 13 prog_35_method_4_code ["java/lang/RuntimeException", "java/lang/Exception"] := ⟨by decide +kernel, by decide +kernel, by decide +kernel, tw_1077, tw_157, by decide +kernel, by decide +kernel, by decide +kernel, by decide +kernel, by decide +kernel⟩
theorem th_LitmusTester_165_169 : th_ "LitmusTester" 165 169 "java/lang/IllegalArgumentException" ["java/lang/RuntimeException", "java/lang/Exception"] := ⟨by decide +kernel, by decide +kernel, tw_1109, tw_158, by decide +kernel, by decide +kernel, by decide +kernel, by decide +kernel, by decide +kernel⟩
theorem th_LitmusTester_287_291 : th_ "LitmusTester" 287 291 "java/lang/IllegalStateException" ["java/lang/RuntimeException", "java/lang/Exception"] := ⟨by decide +kernel, by decide +kernel, tw_1511, tw_160, by decide +kernel, by decide +kernel, by decide +kernel, by decide +kernel, by decide +kernel⟩
theorem mm_LitmusTester_Findings_42 : mm_ "LitmusTester$Findings" 42 Lib.Math.min.name Lib.Math.min.code := ⟨tw_1309, tw_512, tw_145, tw_513⟩
theorem mm_LitmusTester_Program_70 : mm_ "LitmusTester$Program" 70 Lib.Math.max.name Lib.Math.max.code := ⟨tw_1425, tw_1426, tw_145, tw_1427⟩
theorem mm_LitmusTester_Tokens_39 : mm_ "LitmusTester$Tokens" 39 Lib.Math.min.name Lib.Math.min.code := ⟨tw_511, tw_512, tw_145, tw_513⟩
theorem mm_LitmusTesterModel_450 : mm_ "LitmusTesterModel" 450 Lib.Math.max.name Lib.Math.max.code := ⟨tw_2188, tw_1426, tw_145, tw_1427⟩
theorem mm_java_util_Arrays_304 : mm_ "java/util/Arrays" 304 Lib.Math.min.name Lib.Math.min.code := ⟨tw_1203, tw_512, tw_145, tw_513⟩
theorem ay_LitmusTester_Changes_19 : ay_ "LitmusTester$Changes" 19 := ⟨tw_1534, tw_812, tw_811, tw_152⟩
theorem ay_LitmusTester_Program_38 : ay_ "LitmusTester$Program" 38 := ⟨tw_810, tw_812, tw_811, tw_152⟩
theorem ay_java_util_Arrays_150 : ay_ "java/util/Arrays" 150 := ⟨tw_1204, tw_812, tw_811, tw_152⟩
