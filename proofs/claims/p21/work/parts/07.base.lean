/-! ===== printed by program (wip/gen/run.py): what a walk needs, and the contract out of it ===== -/
def sb {α : Type} (f : Nat → α) (b : Nat) : Nat → α := fun j => f (b + j)
def wP (G : Gx) (h : Nat → Nat) (f : FF) (v : VV) : va_W := [(h 0, .inr (1, [.ref (h 1), .ref (h 2), .ref (h 3), .int (v 0), .ref (h 4), .ref (h 5), .ref (h 6), .ref (h 7), .int (v 1), .ref (h 8), .ref (h 9)])), (h 1, .inl (G.2.1, 5, .inl (f 0))), (h 2, .inl (G.2.1, 5, .inl (f 1))), (h 3, .inl (G.2.1, 5, .inl (f 2))), (h 4, .inl (G.2.1, 7, .inl (f 3))), (h 5, .inl (G.2.1, 7, .inl (f 4))), (h 6, .inl (G.2.1, 7, .inl (f 5))), (h 7, .inl (G.2.1, 7, .inl (f 6))), (h 8, .inl (G.2.1, 7, .inl (f 7))), (h 9, .inl (G.2.1, 7, .inl (f 8)))]
def wK (G : Gx) (h : Nat → Nat) (f : FF) (v : VV) : va_W := [(h 0, .inr (0, [.ref (h 1), .ref (h 2), .ref (h 3), .ref (h 4), .int (v 0), .int (v 1), .int (v 2)])), (h 1, .inl (G.2.1, 7, .inl (f 0))), (h 2, .inl (G.2.1, 20, .inl (f 1))), (h 3, .inl (G.2.1, 7, .inl (f 2))), (h 4, .inl (G.2.1, 7, .inl (f 3)))]
def wS (G : Gx) (h : Nat → Nat) (f : FF) (v : VV) : va_W := [(h 0, .inr (2, [.ref (h 1), .int (v 0), .int (v 1)])), (h 1, .inl (G.2.1, 60, .inl (f 0)))]
def wE (G : Gx) (h : Nat → Nat) (f : FF) (v : VV) : va_W := [(h 0, .inr (5, [.int (v 0), .int (v 1), .ref (h 1), .ref (h 2), .ref (h 3), .int (v 2), .int (v 3), .ref (h 4), .ref (h 5), .ref (h 6), .ref (h 7), .ref (h 8), .ref (h 9), .ref (h 10), .int (v 4), .int (v 5), .int (v 6), .ref (h 11), .ref (h 12), .ref (h 13), .ref (h 14), .ref (h 15), .ref (h 16), .int (v 7), .int (v 8), .ref (h 17)])), (h 1, .inl (G.2.1, 4, .inl (f 0))), (h 2, .inl (G.2.1, 4, .inl (f 1))), (h 3, .inl (G.2.1, 240, .inl (f 2))), (h 4, .inl (G.2.1, 5, .inl (f 3))), (h 5, .inl (G.2.1, 5, .inl (f 4))), (h 6, .inl (G.2.1, 5, .inl (f 5))), (h 7, .inl (G.2.1, 7, .inl (f 6))), (h 8, .inl (G.2.1, 7, .inl (f 7))), (h 9, .inl (G.2.1, 7, .inl (f 8))), (h 10, .inl (G.2.1, 7, .inl (f 9))), (h 11, .inl (G.2.1, 15, .inl (f 10))), (h 12, .inl (G.2.1, 28, .inl (f 11))), (h 13, .inl (G.2.1, 5, .inl (f 12))), (h 14, .inl (G.2.1, 20, .inl (f 13))), (h 15, .inl (G.2.1, 26, .inl (f 14))), (h 16, .inl (G.2.1, 7, .inl (f 15))), (h 17, .inl (G.2.1, 8, .inl (f 16)))]
def wR (G : Gx) (h : Nat → Nat) (f : FF) (v : VV) : va_W := [(h 0, .inr (3, [.ref (h 2), .ref (h 1), .int (v 0), .int (v 1)])), (h 1, .inl (G.2.1, 60, .inl (f 0)))] ++ wP G (sb h 2) (sb f 1) (sb v 2)
def wPP (G : Gx) (h : Nat → Nat) (f : FF) (v : VV) : va_W := wP G h f v ++ wP G (sb h 10) (sb f 9) (sb v 2)
def wPK (G : Gx) (h : Nat → Nat) (f : FF) (v : VV) : va_W := wP G h f v ++ wK G (sb h 10) (sb f 9) (sb v 2)
def wSR (G : Gx) (h : Nat → Nat) (f : FF) (v : VV) : va_W := wS G h f v ++ wR G (sb h 2) (sb f 1) (sb v 2)
def wM0 (G : Gx) (h : Nat → Nat) (f : FF) (v : VV) : va_W := [(h 0, .inr (4, [.ref (h 2), .ref (h 11), .ref (h 21), .ref (h 31), .ref (h 43), .ref (h 1), .int (v 0), .int (v 1), .int (v 2)])), (h 1, .inl (G.2.1, 8, .inl (f 0))), (h 2, .inl (G.2.2.1, 4, .inr (.inr (.inr (.inr (fun j => some (h (3 + 2 * j))))))))]
def wM (G : Gx) (h : Nat → Nat) (f : FF) (v : VV) : va_W := wM0 G h f v ++ (wS G (sb h 3) (sb f 1) (sb v 3) ++ (wS G (sb h 5) (sb f 2) (sb v 5) ++ (wS G (sb h 7) (sb f 3) (sb v 7) ++ (wS G (sb h 9) (sb f 4) (sb v 9) ++ (wP G (sb h 11) (sb f 5) (sb v 11) ++ (wP G (sb h 21) (sb f 14) (sb v 13) ++ (wR G (sb h 31) (sb f 23) (sb v 15) ++ wK G (sb h 43) (sb f 33) (sb v 19))))))))
theorem eJ6_bitCount_0f7a4 : yJ6_bitCount_0f7a4.cls ≠ "java/lang/invoke/MethodHandle" ∧ yJ6_bitCount_0f7a4.cls ≠ "java/lang/invoke/VarHandle" ∧ (parseMethodDescriptor yJ6_bitCount_0f7a4.desc).map (fun d => d.parameters.length) = some 1 := by decide +kernel
theorem eX0_bestTest : yX0_bestTest.cls = RX0 ∧ yX0_bestTest.cls ≠ "java/lang/invoke/MethodHandle" ∧ yX0_bestTest.cls ≠ "java/lang/invoke/VarHandle" ∧ (parseMethodDescriptor yX0_bestTest.desc).map (fun d => d.parameters.length) = some 2 := by decide +kernel
theorem eX0_chooseTests : yX0_chooseTests.cls = RX0 ∧ yX0_chooseTests.cls ≠ "java/lang/invoke/MethodHandle" ∧ yX0_chooseTests.cls ≠ "java/lang/invoke/VarHandle" ∧ (parseMethodDescriptor yX0_chooseTests.desc).map (fun d => d.parameters.length) = some 1 := by decide +kernel
theorem eX0_chosenSet : yX0_chosenSet.cls = RX0 ∧ yX0_chosenSet.cls ≠ "java/lang/invoke/MethodHandle" ∧ yX0_chosenSet.cls ≠ "java/lang/invoke/VarHandle" ∧ (parseMethodDescriptor yX0_chosenSet.desc).map (fun d => d.parameters.length) = some 1 := by decide +kernel
theorem eX0_countLeast : yX0_countLeast.cls = RX0 ∧ yX0_countLeast.cls ≠ "java/lang/invoke/MethodHandle" ∧ yX0_countLeast.cls ≠ "java/lang/invoke/VarHandle" ∧ (parseMethodDescriptor yX0_countLeast.desc).map (fun d => d.parameters.length) = some 0 := by decide +kernel
theorem eX0_countSubsumed : yX0_countSubsumed.cls = RX0 ∧ yX0_countSubsumed.cls ≠ "java/lang/invoke/MethodHandle" ∧ yX0_countSubsumed.cls ≠ "java/lang/invoke/VarHandle" ∧ (parseMethodDescriptor yX0_countSubsumed.desc).map (fun d => d.parameters.length) = some 1 := by decide +kernel
theorem eX0_find : yX0_find.cls = RX0 ∧ yX0_find.cls ≠ "java/lang/invoke/MethodHandle" ∧ yX0_find.cls ≠ "java/lang/invoke/VarHandle" ∧ (parseMethodDescriptor yX0_find.desc).map (fun d => d.parameters.length) = some 1 := by decide +kernel
theorem eX0_hardestMutant : yX0_hardestMutant.cls = RX0 ∧ yX0_hardestMutant.cls ≠ "java/lang/invoke/MethodHandle" ∧ yX0_hardestMutant.cls ≠ "java/lang/invoke/VarHandle" ∧ (parseMethodDescriptor yX0_hardestMutant.desc).map (fun d => d.parameters.length) = some 0 := by decide +kernel
theorem eX0_init : yX0_init.cls ≠ "java/lang/invoke/MethodHandle" ∧ yX0_init.cls ≠ "java/lang/invoke/VarHandle" ∧ (parseMethodDescriptor yX0_init.desc).map (fun d => d.parameters.length) = some 0 := by decide +kernel
theorem eX0_isBetter : yX0_isBetter.cls = RX0 ∧ yX0_isBetter.cls ≠ "java/lang/invoke/MethodHandle" ∧ yX0_isBetter.cls ≠ "java/lang/invoke/VarHandle" ∧ (parseMethodDescriptor yX0_isBetter.desc).map (fun d => d.parameters.length) = some 4 := by decide +kernel
theorem eX0_isLeast : yX0_isLeast.cls = RX0 ∧ yX0_isLeast.cls ≠ "java/lang/invoke/MethodHandle" ∧ yX0_isLeast.cls ≠ "java/lang/invoke/VarHandle" ∧ (parseMethodDescriptor yX0_isLeast.desc).map (fun d => d.parameters.length) = some 1 := by decide +kernel
theorem eX0_isSubsumed : yX0_isSubsumed.cls = RX0 ∧ yX0_isSubsumed.cls ≠ "java/lang/invoke/MethodHandle" ∧ yX0_isSubsumed.cls ≠ "java/lang/invoke/VarHandle" ∧ (parseMethodDescriptor yX0_isSubsumed.desc).map (fun d => d.parameters.length) = some 2 := by decide +kernel
theorem eX0_killedBy : yX0_killedBy.cls = RX0 ∧ yX0_killedBy.cls ≠ "java/lang/invoke/MethodHandle" ∧ yX0_killedBy.cls ≠ "java/lang/invoke/VarHandle" ∧ (parseMethodDescriptor yX0_killedBy.desc).map (fun d => d.parameters.length) = some 1 := by decide +kernel
theorem eX0_lightestTests : yX0_lightestTests.cls = RX0 ∧ yX0_lightestTests.cls ≠ "java/lang/invoke/MethodHandle" ∧ yX0_lightestTests.cls ≠ "java/lang/invoke/VarHandle" ∧ (parseMethodDescriptor yX0_lightestTests.desc).map (fun d => d.parameters.length) = some 0 := by decide +kernel
theorem eX0_weightOf : yX0_weightOf.cls = RX0 ∧ yX0_weightOf.cls ≠ "java/lang/invoke/MethodHandle" ∧ yX0_weightOf.cls ≠ "java/lang/invoke/VarHandle" ∧ (parseMethodDescriptor yX0_weightOf.desc).map (fun d => d.parameters.length) = some 1 := by decide +kernel
theorem eX1_act : yX1_act.cls = RX1 ∧ yX1_act.cls ≠ "java/lang/invoke/MethodHandle" ∧ yX1_act.cls ≠ "java/lang/invoke/VarHandle" ∧ (parseMethodDescriptor yX1_act.desc).map (fun d => d.parameters.length) = some 2 := by decide +kernel
theorem eX1_actOnInputs : yX1_actOnInputs.cls = RX1 ∧ yX1_actOnInputs.cls ≠ "java/lang/invoke/MethodHandle" ∧ yX1_actOnInputs.cls ≠ "java/lang/invoke/VarHandle" ∧ (parseMethodDescriptor yX1_actOnInputs.desc).map (fun d => d.parameters.length) = some 2 := by decide +kernel
theorem eX1_actOnStep : yX1_actOnStep.cls = RX1 ∧ yX1_actOnStep.cls ≠ "java/lang/invoke/MethodHandle" ∧ yX1_actOnStep.cls ≠ "java/lang/invoke/VarHandle" ∧ (parseMethodDescriptor yX1_actOnStep.desc).map (fun d => d.parameters.length) = some 2 := by decide +kernel
theorem eX1_actOnTime : yX1_actOnTime.cls = RX1 ∧ yX1_actOnTime.cls ≠ "java/lang/invoke/MethodHandle" ∧ yX1_actOnTime.cls ≠ "java/lang/invoke/VarHandle" ∧ (parseMethodDescriptor yX1_actOnTime.desc).map (fun d => d.parameters.length) = some 2 := by decide +kernel
theorem eX1_allMutants : yX1_allMutants.cls = RX1 ∧ yX1_allMutants.cls ≠ "java/lang/invoke/MethodHandle" ∧ yX1_allMutants.cls ≠ "java/lang/invoke/VarHandle" ∧ (parseMethodDescriptor yX1_allMutants.desc).map (fun d => d.parameters.length) = some 0 := by decide +kernel
theorem eX1_becomeEmpty : yX1_becomeEmpty.cls = RX1 ∧ yX1_becomeEmpty.cls ≠ "java/lang/invoke/MethodHandle" ∧ yX1_becomeEmpty.cls ≠ "java/lang/invoke/VarHandle" ∧ (parseMethodDescriptor yX1_becomeEmpty.desc).map (fun d => d.parameters.length) = some 0 := by decide +kernel
theorem eX1_becomeLike : yX1_becomeLike.cls = RX1 ∧ yX1_becomeLike.cls ≠ "java/lang/invoke/MethodHandle" ∧ yX1_becomeLike.cls ≠ "java/lang/invoke/VarHandle" ∧ (parseMethodDescriptor yX1_becomeLike.desc).map (fun d => d.parameters.length) = some 1 := by decide +kernel
theorem eX1_countEqual : yX1_countEqual.cls = RX1 ∧ yX1_countEqual.cls ≠ "java/lang/invoke/MethodHandle" ∧ yX1_countEqual.cls ≠ "java/lang/invoke/VarHandle" ∧ (parseMethodDescriptor yX1_countEqual.desc).map (fun d => d.parameters.length) = some 0 := by decide +kernel
theorem eX1_differences : yX1_differences.cls = RX1 ∧ yX1_differences.cls ≠ "java/lang/invoke/MethodHandle" ∧ yX1_differences.cls ≠ "java/lang/invoke/VarHandle" ∧ (parseMethodDescriptor yX1_differences.desc).map (fun d => d.parameters.length) = some 1 := by decide +kernel
theorem eX1_effect : yX1_effect.cls = RX1 ∧ yX1_effect.cls ≠ "java/lang/invoke/MethodHandle" ∧ yX1_effect.cls ≠ "java/lang/invoke/VarHandle" ∧ (parseMethodDescriptor yX1_effect.desc).map (fun d => d.parameters.length) = some 1 := by decide +kernel
theorem eX1_hasMutant : yX1_hasMutant.cls = RX1 ∧ yX1_hasMutant.cls ≠ "java/lang/invoke/MethodHandle" ∧ yX1_hasMutant.cls ≠ "java/lang/invoke/VarHandle" ∧ (parseMethodDescriptor yX1_hasMutant.desc).map (fun d => d.parameters.length) = some 1 := by decide +kernel
theorem eX1_hasStep : yX1_hasStep.cls = RX1 ∧ yX1_hasStep.cls ≠ "java/lang/invoke/MethodHandle" ∧ yX1_hasStep.cls ≠ "java/lang/invoke/VarHandle" ∧ (parseMethodDescriptor yX1_hasStep.desc).map (fun d => d.parameters.length) = some 1 := by decide +kernel
theorem eX1_hasTest : yX1_hasTest.cls = RX1 ∧ yX1_hasTest.cls ≠ "java/lang/invoke/MethodHandle" ∧ yX1_hasTest.cls ≠ "java/lang/invoke/VarHandle" ∧ (parseMethodDescriptor yX1_hasTest.desc).map (fun d => d.parameters.length) = some 1 := by decide +kernel
theorem eX1_init : yX1_init.cls ≠ "java/lang/invoke/MethodHandle" ∧ yX1_init.cls ≠ "java/lang/invoke/VarHandle" ∧ (parseMethodDescriptor yX1_init.desc).map (fun d => d.parameters.length) = some 0 := by decide +kernel
theorem eX1_isEmpty : yX1_isEmpty.cls = RX1 ∧ yX1_isEmpty.cls ≠ "java/lang/invoke/MethodHandle" ∧ yX1_isEmpty.cls ≠ "java/lang/invoke/VarHandle" ∧ (parseMethodDescriptor yX1_isEmpty.desc).map (fun d => d.parameters.length) = some 0 := by decide +kernel
theorem eX1_killedAmong : yX1_killedAmong.cls = RX1 ∧ yX1_killedAmong.cls ≠ "java/lang/invoke/MethodHandle" ∧ yX1_killedAmong.cls ≠ "java/lang/invoke/VarHandle" ∧ (parseMethodDescriptor yX1_killedAmong.desc).map (fun d => d.parameters.length) = some 1 := by decide +kernel
theorem eX1_killedByTest : yX1_killedByTest.cls = RX1 ∧ yX1_killedByTest.cls ≠ "java/lang/invoke/MethodHandle" ∧ yX1_killedByTest.cls ≠ "java/lang/invoke/VarHandle" ∧ (parseMethodDescriptor yX1_killedByTest.desc).map (fun d => d.parameters.length) = some 1 := by decide +kernel
theorem eX1_make : yX1_make.cls ≠ "java/lang/invoke/MethodHandle" ∧ yX1_make.cls ≠ "java/lang/invoke/VarHandle" ∧ (parseMethodDescriptor yX1_make.desc).map (fun d => d.parameters.length) = some 3 := by decide +kernel
theorem eX1_mutants : yX1_mutants.cls = RX1 ∧ yX1_mutants.cls ≠ "java/lang/invoke/MethodHandle" ∧ yX1_mutants.cls ≠ "java/lang/invoke/VarHandle" ∧ (parseMethodDescriptor yX1_mutants.desc).map (fun d => d.parameters.length) = some 0 := by decide +kernel
theorem eX1_otherWay : yX1_otherWay.cls = RX1 ∧ yX1_otherWay.cls ≠ "java/lang/invoke/MethodHandle" ∧ yX1_otherWay.cls ≠ "java/lang/invoke/VarHandle" ∧ (parseMethodDescriptor yX1_otherWay.desc).map (fun d => d.parameters.length) = some 1 := by decide +kernel
theorem eX1_run : yX1_run.cls = RX1 ∧ yX1_run.cls ≠ "java/lang/invoke/MethodHandle" ∧ yX1_run.cls ≠ "java/lang/invoke/VarHandle" ∧ (parseMethodDescriptor yX1_run.desc).map (fun d => d.parameters.length) = some 2 := by decide +kernel
theorem eX1_runTest : yX1_runTest.cls = RX1 ∧ yX1_runTest.cls ≠ "java/lang/invoke/MethodHandle" ∧ yX1_runTest.cls ≠ "java/lang/invoke/VarHandle" ∧ (parseMethodDescriptor yX1_runTest.desc).map (fun d => d.parameters.length) = some 1 := by decide +kernel
theorem eX1_stepOf : yX1_stepOf.cls = RX1 ∧ yX1_stepOf.cls ≠ "java/lang/invoke/MethodHandle" ∧ yX1_stepOf.cls ≠ "java/lang/invoke/VarHandle" ∧ (parseMethodDescriptor yX1_stepOf.desc).map (fun d => d.parameters.length) = some 1 := by decide +kernel
theorem eX1_unequalMutants : yX1_unequalMutants.cls = RX1 ∧ yX1_unequalMutants.cls ≠ "java/lang/invoke/MethodHandle" ∧ yX1_unequalMutants.cls ≠ "java/lang/invoke/VarHandle" ∧ (parseMethodDescriptor yX1_unequalMutants.desc).map (fun d => d.parameters.length) = some 0 := by decide +kernel
theorem eX1_weight : yX1_weight.cls = RX1 ∧ yX1_weight.cls ≠ "java/lang/invoke/MethodHandle" ∧ yX1_weight.cls ≠ "java/lang/invoke/VarHandle" ∧ (parseMethodDescriptor yX1_weight.desc).map (fun d => d.parameters.length) = some 1 := by decide +kernel
theorem eX2_becomeNothing : yX2_becomeNothing.cls = RX2 ∧ yX2_becomeNothing.cls ≠ "java/lang/invoke/MethodHandle" ∧ yX2_becomeNothing.cls ≠ "java/lang/invoke/VarHandle" ∧ (parseMethodDescriptor yX2_becomeNothing.desc).map (fun d => d.parameters.length) = some 0 := by decide +kernel
theorem eX2_cut : yX2_cut.cls = RX2 ∧ yX2_cut.cls ≠ "java/lang/invoke/MethodHandle" ∧ yX2_cut.cls ≠ "java/lang/invoke/VarHandle" ∧ (parseMethodDescriptor yX2_cut.desc).map (fun d => d.parameters.length) = some 1 := by decide +kernel
theorem eX2_faultAs : yX2_faultAs.cls = RX2 ∧ yX2_faultAs.cls ≠ "java/lang/invoke/MethodHandle" ∧ yX2_faultAs.cls ≠ "java/lang/invoke/VarHandle" ∧ (parseMethodDescriptor yX2_faultAs.desc).map (fun d => d.parameters.length) = some 1 := by decide +kernel
theorem eX2_hasCell : yX2_hasCell.cls = RX2 ∧ yX2_hasCell.cls ≠ "java/lang/invoke/MethodHandle" ∧ yX2_hasCell.cls ≠ "java/lang/invoke/VarHandle" ∧ (parseMethodDescriptor yX2_hasCell.desc).map (fun d => d.parameters.length) = some 1 := by decide +kernel
theorem eX2_hasCells : yX2_hasCells.cls = RX2 ∧ yX2_hasCells.cls ≠ "java/lang/invoke/MethodHandle" ∧ yX2_hasCells.cls ≠ "java/lang/invoke/VarHandle" ∧ (parseMethodDescriptor yX2_hasCells.desc).map (fun d => d.parameters.length) = some 2 := by decide +kernel
theorem eX2_init : yX2_init.cls ≠ "java/lang/invoke/MethodHandle" ∧ yX2_init.cls ≠ "java/lang/invoke/VarHandle" ∧ (parseMethodDescriptor yX2_init.desc).map (fun d => d.parameters.length) = some 0 := by decide +kernel
theorem eX2_isNothing : yX2_isNothing.cls = RX2 ∧ yX2_isNothing.cls ≠ "java/lang/invoke/MethodHandle" ∧ yX2_isNothing.cls ≠ "java/lang/invoke/VarHandle" ∧ (parseMethodDescriptor yX2_isNothing.desc).map (fun d => d.parameters.length) = some 0 := by decide +kernel
theorem eX2_renew : yX2_renew.cls = RX2 ∧ yX2_renew.cls ≠ "java/lang/invoke/MethodHandle" ∧ yX2_renew.cls ≠ "java/lang/invoke/VarHandle" ∧ (parseMethodDescriptor yX2_renew.desc).map (fun d => d.parameters.length) = some 2 := by decide +kernel
theorem eX3_digit : yX3_digit.cls = RX3 ∧ yX3_digit.cls ≠ "java/lang/invoke/MethodHandle" ∧ yX3_digit.cls ≠ "java/lang/invoke/VarHandle" ∧ (parseMethodDescriptor yX3_digit.desc).map (fun d => d.parameters.length) = some 2 := by decide +kernel
theorem eX3_init : yX3_init.cls ≠ "java/lang/invoke/MethodHandle" ∧ yX3_init.cls ≠ "java/lang/invoke/VarHandle" ∧ (parseMethodDescriptor yX3_init.desc).map (fun d => d.parameters.length) = some 0 := by decide +kernel
theorem eX3_pass : yX3_pass.cls = RX3 ∧ yX3_pass.cls ≠ "java/lang/invoke/MethodHandle" ∧ yX3_pass.cls ≠ "java/lang/invoke/VarHandle" ∧ (parseMethodDescriptor yX3_pass.desc).map (fun d => d.parameters.length) = some 1 := by decide +kernel
theorem eX3_peek : yX3_peek.cls = RX3 ∧ yX3_peek.cls ≠ "java/lang/invoke/MethodHandle" ∧ yX3_peek.cls ≠ "java/lang/invoke/VarHandle" ∧ (parseMethodDescriptor yX3_peek.desc).map (fun d => d.parameters.length) = some 0 := by decide +kernel
theorem eX3_pick : yX3_pick.cls = RX3 ∧ yX3_pick.cls ≠ "java/lang/invoke/MethodHandle" ∧ yX3_pick.cls ≠ "java/lang/invoke/VarHandle" ∧ (parseMethodDescriptor yX3_pick.desc).map (fun d => d.parameters.length) = some 1 := by decide +kernel
theorem eX3_readStep : yX3_readStep.cls = RX3 ∧ yX3_readStep.cls ≠ "java/lang/invoke/MethodHandle" ∧ yX3_readStep.cls ≠ "java/lang/invoke/VarHandle" ∧ (parseMethodDescriptor yX3_readStep.desc).map (fun d => d.parameters.length) = some 0 := by decide +kernel
theorem eX3_readSteps : yX3_readSteps.cls = RX3 ∧ yX3_readSteps.cls ≠ "java/lang/invoke/MethodHandle" ∧ yX3_readSteps.cls ≠ "java/lang/invoke/VarHandle" ∧ (parseMethodDescriptor yX3_readSteps.desc).map (fun d => d.parameters.length) = some 0 := by decide +kernel
theorem eX3_readTest : yX3_readTest.cls = RX3 ∧ yX3_readTest.cls ≠ "java/lang/invoke/MethodHandle" ∧ yX3_readTest.cls ≠ "java/lang/invoke/VarHandle" ∧ (parseMethodDescriptor yX3_readTest.desc).map (fun d => d.parameters.length) = some 0 := by decide +kernel
theorem eX3_readTests : yX3_readTests.cls = RX3 ∧ yX3_readTests.cls ≠ "java/lang/invoke/MethodHandle" ∧ yX3_readTests.cls ≠ "java/lang/invoke/VarHandle" ∧ (parseMethodDescriptor yX3_readTests.desc).map (fun d => d.parameters.length) = some 0 := by decide +kernel
theorem eX3_reads : yX3_reads.cls = RX3 ∧ yX3_reads.cls ≠ "java/lang/invoke/MethodHandle" ∧ yX3_reads.cls ≠ "java/lang/invoke/VarHandle" ∧ (parseMethodDescriptor yX3_reads.desc).map (fun d => d.parameters.length) = some 3 := by decide +kernel
theorem eX3_source : yX3_source.cls = RX3 ∧ yX3_source.cls ≠ "java/lang/invoke/MethodHandle" ∧ yX3_source.cls ≠ "java/lang/invoke/VarHandle" ∧ (parseMethodDescriptor yX3_source.desc).map (fun d => d.parameters.length) = some 0 := by decide +kernel
theorem eX4_aim : yX4_aim.cls = RX4 ∧ yX4_aim.cls ≠ "java/lang/invoke/MethodHandle" ∧ yX4_aim.cls ≠ "java/lang/invoke/VarHandle" ∧ (parseMethodDescriptor yX4_aim.desc).map (fun d => d.parameters.length) = some 3 := by decide +kernel
theorem eX4_areActs : yX4_areActs.cls ≠ "java/lang/invoke/MethodHandle" ∧ yX4_areActs.cls ≠ "java/lang/invoke/VarHandle" ∧ (parseMethodDescriptor yX4_areActs.desc).map (fun d => d.parameters.length) = some 3 := by decide +kernel
theorem eX4_as : yX4_as.cls = RX4 ∧ yX4_as.cls ≠ "java/lang/invoke/MethodHandle" ∧ yX4_as.cls ≠ "java/lang/invoke/VarHandle" ∧ (parseMethodDescriptor yX4_as.desc).map (fun d => d.parameters.length) = some 2 := by decide +kernel
theorem eX4_back : yX4_back.cls = RX4 ∧ yX4_back.cls ≠ "java/lang/invoke/MethodHandle" ∧ yX4_back.cls ≠ "java/lang/invoke/VarHandle" ∧ (parseMethodDescriptor yX4_back.desc).map (fun d => d.parameters.length) = some 1 := by decide +kernel
theorem eX4_cell : yX4_cell.cls = RX4 ∧ yX4_cell.cls ≠ "java/lang/invoke/MethodHandle" ∧ yX4_cell.cls ≠ "java/lang/invoke/VarHandle" ∧ (parseMethodDescriptor yX4_cell.desc).map (fun d => d.parameters.length) = some 3 := by decide +kernel
theorem eX4_choose : yX4_choose.cls = RX4 ∧ yX4_choose.cls ≠ "java/lang/invoke/MethodHandle" ∧ yX4_choose.cls ≠ "java/lang/invoke/VarHandle" ∧ (parseMethodDescriptor yX4_choose.desc).map (fun d => d.parameters.length) = some 2 := by decide +kernel
theorem eX4_copy : yX4_copy.cls = RX4 ∧ yX4_copy.cls ≠ "java/lang/invoke/MethodHandle" ∧ yX4_copy.cls ≠ "java/lang/invoke/VarHandle" ∧ (parseMethodDescriptor yX4_copy.desc).map (fun d => d.parameters.length) = some 5 := by decide +kernel
theorem eX4_cover : yX4_cover.cls = RX4 ∧ yX4_cover.cls ≠ "java/lang/invoke/MethodHandle" ∧ yX4_cover.cls ≠ "java/lang/invoke/VarHandle" ∧ (parseMethodDescriptor yX4_cover.desc).map (fun d => d.parameters.length) = some 1 := by decide +kernel
theorem eX4_day : yX4_day.cls = RX4 ∧ yX4_day.cls ≠ "java/lang/invoke/MethodHandle" ∧ yX4_day.cls ≠ "java/lang/invoke/VarHandle" ∧ (parseMethodDescriptor yX4_day.desc).map (fun d => d.parameters.length) = some 5 := by decide +kernel
theorem eX4_fault : yX4_fault.cls = RX4 ∧ yX4_fault.cls ≠ "java/lang/invoke/MethodHandle" ∧ yX4_fault.cls ≠ "java/lang/invoke/VarHandle" ∧ (parseMethodDescriptor yX4_fault.desc).map (fun d => d.parameters.length) = some 0 := by decide +kernel
theorem eX4_faulted : yX4_faulted.cls = RX4 ∧ yX4_faulted.cls ≠ "java/lang/invoke/MethodHandle" ∧ yX4_faulted.cls ≠ "java/lang/invoke/VarHandle" ∧ (parseMethodDescriptor yX4_faulted.desc).map (fun d => d.parameters.length) = some 1 := by decide +kernel
theorem eX4_fitsReadings : yX4_fitsReadings.cls = RX4 ∧ yX4_fitsReadings.cls ≠ "java/lang/invoke/MethodHandle" ∧ yX4_fitsReadings.cls ≠ "java/lang/invoke/VarHandle" ∧ (parseMethodDescriptor yX4_fitsReadings.desc).map (fun d => d.parameters.length) = some 0 := by decide +kernel
theorem eX4_hardest : yX4_hardest.cls = RX4 ∧ yX4_hardest.cls ≠ "java/lang/invoke/MethodHandle" ∧ yX4_hardest.cls ≠ "java/lang/invoke/VarHandle" ∧ (parseMethodDescriptor yX4_hardest.desc).map (fun d => d.parameters.length) = some 0 := by decide +kernel
theorem eX4_init : yX4_init.cls ≠ "java/lang/invoke/MethodHandle" ∧ yX4_init.cls ≠ "java/lang/invoke/VarHandle" ∧ (parseMethodDescriptor yX4_init.desc).map (fun d => d.parameters.length) = some 0 := by decide +kernel
theorem eX4_isAct : yX4_isAct.cls ≠ "java/lang/invoke/MethodHandle" ∧ yX4_isAct.cls ≠ "java/lang/invoke/VarHandle" ∧ (parseMethodDescriptor yX4_isAct.desc).map (fun d => d.parameters.length) = some 2 := by decide +kernel
theorem eX4_isFigure : yX4_isFigure.cls ≠ "java/lang/invoke/MethodHandle" ∧ yX4_isFigure.cls ≠ "java/lang/invoke/VarHandle" ∧ (parseMethodDescriptor yX4_isFigure.desc).map (fun d => d.parameters.length) = some 1 := by decide +kernel
theorem eX4_isOfDay : yX4_isOfDay.cls ≠ "java/lang/invoke/MethodHandle" ∧ yX4_isOfDay.cls ≠ "java/lang/invoke/VarHandle" ∧ (parseMethodDescriptor yX4_isOfDay.desc).map (fun d => d.parameters.length) = some 1 := by decide +kernel
theorem eX4_isSheet : yX4_isSheet.cls ≠ "java/lang/invoke/MethodHandle" ∧ yX4_isSheet.cls ≠ "java/lang/invoke/VarHandle" ∧ (parseMethodDescriptor yX4_isSheet.desc).map (fun d => d.parameters.length) = some 1 := by decide +kernel
theorem eX4_isTime : yX4_isTime.cls ≠ "java/lang/invoke/MethodHandle" ∧ yX4_isTime.cls ≠ "java/lang/invoke/VarHandle" ∧ (parseMethodDescriptor yX4_isTime.desc).map (fun d => d.parameters.length) = some 1 := by decide +kernel
theorem eX4_isWithin : yX4_isWithin.cls ≠ "java/lang/invoke/MethodHandle" ∧ yX4_isWithin.cls ≠ "java/lang/invoke/VarHandle" ∧ (parseMethodDescriptor yX4_isWithin.desc).map (fun d => d.parameters.length) = some 3 := by decide +kernel
theorem eX4_killsNow : yX4_killsNow.cls = RX4 ∧ yX4_killsNow.cls ≠ "java/lang/invoke/MethodHandle" ∧ yX4_killsNow.cls ≠ "java/lang/invoke/VarHandle" ∧ (parseMethodDescriptor yX4_killsNow.desc).map (fun d => d.parameters.length) = some 0 := by decide +kernel
theorem eX4_kinds : yX4_kinds.cls = RX4 ∧ yX4_kinds.cls ≠ "java/lang/invoke/MethodHandle" ∧ yX4_kinds.cls ≠ "java/lang/invoke/VarHandle" ∧ (parseMethodDescriptor yX4_kinds.desc).map (fun d => d.parameters.length) = some 1 := by decide +kernel
theorem eX4_leave : yX4_leave.cls = RX4 ∧ yX4_leave.cls ≠ "java/lang/invoke/MethodHandle" ∧ yX4_leave.cls ≠ "java/lang/invoke/VarHandle" ∧ (parseMethodDescriptor yX4_leave.desc).map (fun d => d.parameters.length) = some 1 := by decide +kernel
theorem eX4_log : yX4_log.cls = RX4 ∧ yX4_log.cls ≠ "java/lang/invoke/MethodHandle" ∧ yX4_log.cls ≠ "java/lang/invoke/VarHandle" ∧ (parseMethodDescriptor yX4_log.desc).map (fun d => d.parameters.length) = some 1 := by decide +kernel
theorem eX4_logDouble : yX4_logDouble.cls = RX4 ∧ yX4_logDouble.cls ≠ "java/lang/invoke/MethodHandle" ∧ yX4_logDouble.cls ≠ "java/lang/invoke/VarHandle" ∧ (parseMethodDescriptor yX4_logDouble.desc).map (fun d => d.parameters.length) = some 0 := by decide +kernel
theorem eX4_logLent : yX4_logLent.cls = RX4 ∧ yX4_logLent.cls ≠ "java/lang/invoke/MethodHandle" ∧ yX4_logLent.cls ≠ "java/lang/invoke/VarHandle" ∧ (parseMethodDescriptor yX4_logLent.desc).map (fun d => d.parameters.length) = some 1 := by decide +kernel
theorem eX4_lose : yX4_lose.cls = RX4 ∧ yX4_lose.cls ≠ "java/lang/invoke/MethodHandle" ∧ yX4_lose.cls ≠ "java/lang/invoke/VarHandle" ∧ (parseMethodDescriptor yX4_lose.desc).map (fun d => d.parameters.length) = some 1 := by decide +kernel
theorem eX4_many : yX4_many.cls = RX4 ∧ yX4_many.cls ≠ "java/lang/invoke/MethodHandle" ∧ yX4_many.cls ≠ "java/lang/invoke/VarHandle" ∧ (parseMethodDescriptor yX4_many.desc).map (fun d => d.parameters.length) = some 1 := by decide +kernel
theorem eX4_odds : yX4_odds.cls = RX4 ∧ yX4_odds.cls ≠ "java/lang/invoke/MethodHandle" ∧ yX4_odds.cls ≠ "java/lang/invoke/VarHandle" ∧ (parseMethodDescriptor yX4_odds.desc).map (fun d => d.parameters.length) = some 2 := by decide +kernel
theorem eX4_ofMutant : yX4_ofMutant.cls = RX4 ∧ yX4_ofMutant.cls ≠ "java/lang/invoke/MethodHandle" ∧ yX4_ofMutant.cls ≠ "java/lang/invoke/VarHandle" ∧ (parseMethodDescriptor yX4_ofMutant.desc).map (fun d => d.parameters.length) = some 2 := by decide +kernel
theorem eX4_ofStep : yX4_ofStep.cls = RX4 ∧ yX4_ofStep.cls ≠ "java/lang/invoke/MethodHandle" ∧ yX4_ofStep.cls ≠ "java/lang/invoke/VarHandle" ∧ (parseMethodDescriptor yX4_ofStep.desc).map (fun d => d.parameters.length) = some 2 := by decide +kernel
theorem eX4_ofTest : yX4_ofTest.cls = RX4 ∧ yX4_ofTest.cls ≠ "java/lang/invoke/MethodHandle" ∧ yX4_ofTest.cls ≠ "java/lang/invoke/VarHandle" ∧ (parseMethodDescriptor yX4_ofTest.desc).map (fun d => d.parameters.length) = some 2 := by decide +kernel
theorem eX4_ofTrial : yX4_ofTrial.cls = RX4 ∧ yX4_ofTrial.cls ≠ "java/lang/invoke/MethodHandle" ∧ yX4_ofTrial.cls ≠ "java/lang/invoke/VarHandle" ∧ (parseMethodDescriptor yX4_ofTrial.desc).map (fun d => d.parameters.length) = some 1 := by decide +kernel
theorem eX4_oneIf : yX4_oneIf.cls ≠ "java/lang/invoke/MethodHandle" ∧ yX4_oneIf.cls ≠ "java/lang/invoke/VarHandle" ∧ (parseMethodDescriptor yX4_oneIf.desc).map (fun d => d.parameters.length) = some 1 := by decide +kernel
theorem eX4_output : yX4_output.cls = RX4 ∧ yX4_output.cls ≠ "java/lang/invoke/MethodHandle" ∧ yX4_output.cls ≠ "java/lang/invoke/VarHandle" ∧ (parseMethodDescriptor yX4_output.desc).map (fun d => d.parameters.length) = some 2 := by decide +kernel
theorem eX4_program : yX4_program.cls = RX4 ∧ yX4_program.cls ≠ "java/lang/invoke/MethodHandle" ∧ yX4_program.cls ≠ "java/lang/invoke/VarHandle" ∧ (parseMethodDescriptor yX4_program.desc).map (fun d => d.parameters.length) = some 4 := by decide +kernel
theorem eX4_put : yX4_put.cls = RX4 ∧ yX4_put.cls ≠ "java/lang/invoke/MethodHandle" ∧ yX4_put.cls ≠ "java/lang/invoke/VarHandle" ∧ (parseMethodDescriptor yX4_put.desc).map (fun d => d.parameters.length) = some 3 := by decide +kernel
theorem eX4_reading : yX4_reading.cls = RX4 ∧ yX4_reading.cls ≠ "java/lang/invoke/MethodHandle" ∧ yX4_reading.cls ≠ "java/lang/invoke/VarHandle" ∧ (parseMethodDescriptor yX4_reading.desc).map (fun d => d.parameters.length) = some 1 := by decide +kernel
theorem eX4_score : yX4_score.cls = RX4 ∧ yX4_score.cls ≠ "java/lang/invoke/MethodHandle" ∧ yX4_score.cls ≠ "java/lang/invoke/VarHandle" ∧ (parseMethodDescriptor yX4_score.desc).map (fun d => d.parameters.length) = some 1 := by decide +kernel
theorem eX4_share : yX4_share.cls ≠ "java/lang/invoke/MethodHandle" ∧ yX4_share.cls ≠ "java/lang/invoke/VarHandle" ∧ (parseMethodDescriptor yX4_share.desc).map (fun d => d.parameters.length) = some 3 := by decide +kernel
theorem eX4_sheet : yX4_sheet.cls = RX4 ∧ yX4_sheet.cls ≠ "java/lang/invoke/MethodHandle" ∧ yX4_sheet.cls ≠ "java/lang/invoke/VarHandle" ∧ (parseMethodDescriptor yX4_sheet.desc).map (fun d => d.parameters.length) = some 3 := by decide +kernel
theorem eX4_state : yX4_state.cls = RX4 ∧ yX4_state.cls ≠ "java/lang/invoke/MethodHandle" ∧ yX4_state.cls ≠ "java/lang/invoke/VarHandle" ∧ (parseMethodDescriptor yX4_state.desc).map (fun d => d.parameters.length) = some 2 := by decide +kernel
theorem eX4_subsumes : yX4_subsumes.cls = RX4 ∧ yX4_subsumes.cls ≠ "java/lang/invoke/MethodHandle" ∧ yX4_subsumes.cls ≠ "java/lang/invoke/VarHandle" ∧ (parseMethodDescriptor yX4_subsumes.desc).map (fun d => d.parameters.length) = some 2 := by decide +kernel
theorem eX4_tell : yX4_tell.cls = RX4 ∧ yX4_tell.cls ≠ "java/lang/invoke/MethodHandle" ∧ yX4_tell.cls ≠ "java/lang/invoke/VarHandle" ∧ (parseMethodDescriptor yX4_tell.desc).map (fun d => d.parameters.length) = some 1 := by decide +kernel
theorem eX4_tellDouble : yX4_tellDouble.cls = RX4 ∧ yX4_tellDouble.cls ≠ "java/lang/invoke/MethodHandle" ∧ yX4_tellDouble.cls ≠ "java/lang/invoke/VarHandle" ∧ (parseMethodDescriptor yX4_tellDouble.desc).map (fun d => d.parameters.length) = some 1 := by decide +kernel
theorem eX4_tellPlain : yX4_tellPlain.cls = RX4 ∧ yX4_tellPlain.cls ≠ "java/lang/invoke/MethodHandle" ∧ yX4_tellPlain.cls ≠ "java/lang/invoke/VarHandle" ∧ (parseMethodDescriptor yX4_tellPlain.desc).map (fun d => d.parameters.length) = some 1 := by decide +kernel
theorem eX4_tellSlow : yX4_tellSlow.cls = RX4 ∧ yX4_tellSlow.cls ≠ "java/lang/invoke/MethodHandle" ∧ yX4_tellSlow.cls ≠ "java/lang/invoke/VarHandle" ∧ (parseMethodDescriptor yX4_tellSlow.desc).map (fun d => d.parameters.length) = some 1 := by decide +kernel
theorem eX4_time : yX4_time.cls = RX4 ∧ yX4_time.cls ≠ "java/lang/invoke/MethodHandle" ∧ yX4_time.cls ≠ "java/lang/invoke/VarHandle" ∧ (parseMethodDescriptor yX4_time.desc).map (fun d => d.parameters.length) = some 2 := by decide +kernel
theorem eX4_trace : yX4_trace.cls = RX4 ∧ yX4_trace.cls ≠ "java/lang/invoke/MethodHandle" ∧ yX4_trace.cls ≠ "java/lang/invoke/VarHandle" ∧ (parseMethodDescriptor yX4_trace.desc).map (fun d => d.parameters.length) = some 0 := by decide +kernel
theorem eX4_tryActs : yX4_tryActs.cls = RX4 ∧ yX4_tryActs.cls ≠ "java/lang/invoke/MethodHandle" ∧ yX4_tryActs.cls ≠ "java/lang/invoke/VarHandle" ∧ (parseMethodDescriptor yX4_tryActs.desc).map (fun d => d.parameters.length) = some 3 := by decide +kernel
theorem eX4_way : yX4_way.cls = RX4 ∧ yX4_way.cls ≠ "java/lang/invoke/MethodHandle" ∧ yX4_way.cls ≠ "java/lang/invoke/VarHandle" ∧ (parseMethodDescriptor yX4_way.desc).map (fun d => d.parameters.length) = some 2 := by decide +kernel
theorem eX4_ways : yX4_ways.cls = RX4 ∧ yX4_ways.cls ≠ "java/lang/invoke/MethodHandle" ∧ yX4_ways.cls ≠ "java/lang/invoke/VarHandle" ∧ (parseMethodDescriptor yX4_ways.desc).map (fun d => d.parameters.length) = some 1 := by decide +kernel
theorem eX5_against : yX5_against.cls = RX5 ∧ yX5_against.cls ≠ "java/lang/invoke/MethodHandle" ∧ yX5_against.cls ≠ "java/lang/invoke/VarHandle" ∧ (parseMethodDescriptor yX5_against.desc).map (fun d => d.parameters.length) = some 4 := by decide +kernel
theorem eX5_aim : yX5_aim.cls = RX5 ∧ yX5_aim.cls ≠ "java/lang/invoke/MethodHandle" ∧ yX5_aim.cls ≠ "java/lang/invoke/VarHandle" ∧ (parseMethodDescriptor yX5_aim.desc).map (fun d => d.parameters.length) = some 3 := by decide +kernel
theorem eX5_areSo : yX5_areSo.cls = RX5 ∧ yX5_areSo.cls ≠ "java/lang/invoke/MethodHandle" ∧ yX5_areSo.cls ≠ "java/lang/invoke/VarHandle" ∧ (parseMethodDescriptor yX5_areSo.desc).map (fun d => d.parameters.length) = some 0 := by decide +kernel
theorem eX5_as : yX5_as.cls = RX5 ∧ yX5_as.cls ≠ "java/lang/invoke/MethodHandle" ∧ yX5_as.cls ≠ "java/lang/invoke/VarHandle" ∧ (parseMethodDescriptor yX5_as.desc).map (fun d => d.parameters.length) = some 2 := by decide +kernel
theorem eX5_back : yX5_back.cls = RX5 ∧ yX5_back.cls ≠ "java/lang/invoke/MethodHandle" ∧ yX5_back.cls ≠ "java/lang/invoke/VarHandle" ∧ (parseMethodDescriptor yX5_back.desc).map (fun d => d.parameters.length) = some 1 := by decide +kernel
theorem eX5_begins : yX5_begins.cls = RX5 ∧ yX5_begins.cls ≠ "java/lang/invoke/MethodHandle" ∧ yX5_begins.cls ≠ "java/lang/invoke/VarHandle" ∧ (parseMethodDescriptor yX5_begins.desc).map (fun d => d.parameters.length) = some 1 := by decide +kernel
theorem eX5_cell : yX5_cell.cls = RX5 ∧ yX5_cell.cls ≠ "java/lang/invoke/MethodHandle" ∧ yX5_cell.cls ≠ "java/lang/invoke/VarHandle" ∧ (parseMethodDescriptor yX5_cell.desc).map (fun d => d.parameters.length) = some 3 := by decide +kernel
theorem eX5_choose : yX5_choose.cls = RX5 ∧ yX5_choose.cls ≠ "java/lang/invoke/MethodHandle" ∧ yX5_choose.cls ≠ "java/lang/invoke/VarHandle" ∧ (parseMethodDescriptor yX5_choose.desc).map (fun d => d.parameters.length) = some 2 := by decide +kernel
theorem eX5_copy : yX5_copy.cls = RX5 ∧ yX5_copy.cls ≠ "java/lang/invoke/MethodHandle" ∧ yX5_copy.cls ≠ "java/lang/invoke/VarHandle" ∧ (parseMethodDescriptor yX5_copy.desc).map (fun d => d.parameters.length) = some 5 := by decide +kernel
theorem eX5_cover : yX5_cover.cls = RX5 ∧ yX5_cover.cls ≠ "java/lang/invoke/MethodHandle" ∧ yX5_cover.cls ≠ "java/lang/invoke/VarHandle" ∧ (parseMethodDescriptor yX5_cover.desc).map (fun d => d.parameters.length) = some 1 := by decide +kernel
theorem eX5_day : yX5_day.cls = RX5 ∧ yX5_day.cls ≠ "java/lang/invoke/MethodHandle" ∧ yX5_day.cls ≠ "java/lang/invoke/VarHandle" ∧ (parseMethodDescriptor yX5_day.desc).map (fun d => d.parameters.length) = some 5 := by decide +kernel
theorem eX5_differs : yX5_differs.cls = RX5 ∧ yX5_differs.cls ≠ "java/lang/invoke/MethodHandle" ∧ yX5_differs.cls ≠ "java/lang/invoke/VarHandle" ∧ (parseMethodDescriptor yX5_differs.desc).map (fun d => d.parameters.length) = some 1 := by decide +kernel
theorem eX5_does : yX5_does.cls = RX5 ∧ yX5_does.cls ≠ "java/lang/invoke/MethodHandle" ∧ yX5_does.cls ≠ "java/lang/invoke/VarHandle" ∧ (parseMethodDescriptor yX5_does.desc).map (fun d => d.parameters.length) = some 2 := by decide +kernel
theorem eX5_doesSubsume : yX5_doesSubsume.cls = RX5 ∧ yX5_doesSubsume.cls ≠ "java/lang/invoke/MethodHandle" ∧ yX5_doesSubsume.cls ≠ "java/lang/invoke/VarHandle" ∧ (parseMethodDescriptor yX5_doesSubsume.desc).map (fun d => d.parameters.length) = some 2 := by decide +kernel
theorem eX5_fails : yX5_fails.cls = RX5 ∧ yX5_fails.cls ≠ "java/lang/invoke/MethodHandle" ∧ yX5_fails.cls ≠ "java/lang/invoke/VarHandle" ∧ (parseMethodDescriptor yX5_fails.desc).map (fun d => d.parameters.length) = some 1 := by decide +kernel
theorem eX5_fault : yX5_fault.cls = RX5 ∧ yX5_fault.cls ≠ "java/lang/invoke/MethodHandle" ∧ yX5_fault.cls ≠ "java/lang/invoke/VarHandle" ∧ (parseMethodDescriptor yX5_fault.desc).map (fun d => d.parameters.length) = some 0 := by decide +kernel
theorem eX5_findChoices : yX5_findChoices.cls = RX5 ∧ yX5_findChoices.cls ≠ "java/lang/invoke/MethodHandle" ∧ yX5_findChoices.cls ≠ "java/lang/invoke/VarHandle" ∧ (parseMethodDescriptor yX5_findChoices.desc).map (fun d => d.parameters.length) = some 1 := by decide +kernel
theorem eX5_findCover : yX5_findCover.cls = RX5 ∧ yX5_findCover.cls ≠ "java/lang/invoke/MethodHandle" ∧ yX5_findCover.cls ≠ "java/lang/invoke/VarHandle" ∧ (parseMethodDescriptor yX5_findCover.desc).map (fun d => d.parameters.length) = some 0 := by decide +kernel
theorem eX5_findKillers : yX5_findKillers.cls = RX5 ∧ yX5_findKillers.cls ≠ "java/lang/invoke/MethodHandle" ∧ yX5_findKillers.cls ≠ "java/lang/invoke/VarHandle" ∧ (parseMethodDescriptor yX5_findKillers.desc).map (fun d => d.parameters.length) = some 0 := by decide +kernel
theorem eX5_goDay : yX5_goDay.cls = RX5 ∧ yX5_goDay.cls ≠ "java/lang/invoke/MethodHandle" ∧ yX5_goDay.cls ≠ "java/lang/invoke/VarHandle" ∧ (parseMethodDescriptor yX5_goDay.desc).map (fun d => d.parameters.length) = some 2 := by decide +kernel
theorem eX5_hardest : yX5_hardest.cls = RX5 ∧ yX5_hardest.cls ≠ "java/lang/invoke/MethodHandle" ∧ yX5_hardest.cls ≠ "java/lang/invoke/VarHandle" ∧ (parseMethodDescriptor yX5_hardest.desc).map (fun d => d.parameters.length) = some 0 := by decide +kernel
theorem eX5_inLeastTerms : yX5_inLeastTerms.cls ≠ "java/lang/invoke/MethodHandle" ∧ yX5_inLeastTerms.cls ≠ "java/lang/invoke/VarHandle" ∧ (parseMethodDescriptor yX5_inLeastTerms.desc).map (fun d => d.parameters.length) = some 3 := by decide +kernel
theorem eX5_infects : yX5_infects.cls = RX5 ∧ yX5_infects.cls ≠ "java/lang/invoke/MethodHandle" ∧ yX5_infects.cls ≠ "java/lang/invoke/VarHandle" ∧ (parseMethodDescriptor yX5_infects.desc).map (fun d => d.parameters.length) = some 2 := by decide +kernel
theorem eX5_init : yX5_init.cls ≠ "java/lang/invoke/MethodHandle" ∧ yX5_init.cls ≠ "java/lang/invoke/VarHandle" ∧ (parseMethodDescriptor yX5_init.desc).map (fun d => d.parameters.length) = some 0 := by decide +kernel
theorem eX5_isBetter : yX5_isBetter.cls = RX5 ∧ yX5_isBetter.cls ≠ "java/lang/invoke/MethodHandle" ∧ yX5_isBetter.cls ≠ "java/lang/invoke/VarHandle" ∧ (parseMethodDescriptor yX5_isBetter.desc).map (fun d => d.parameters.length) = some 4 := by decide +kernel
theorem eX5_isLeast : yX5_isLeast.cls = RX5 ∧ yX5_isLeast.cls ≠ "java/lang/invoke/MethodHandle" ∧ yX5_isLeast.cls ≠ "java/lang/invoke/VarHandle" ∧ (parseMethodDescriptor yX5_isLeast.desc).map (fun d => d.parameters.length) = some 1 := by decide +kernel
theorem eX5_isMutant : yX5_isMutant.cls = RX5 ∧ yX5_isMutant.cls ≠ "java/lang/invoke/MethodHandle" ∧ yX5_isMutant.cls ≠ "java/lang/invoke/VarHandle" ∧ (parseMethodDescriptor yX5_isMutant.desc).map (fun d => d.parameters.length) = some 1 := by decide +kernel
theorem eX5_isPair : yX5_isPair.cls ≠ "java/lang/invoke/MethodHandle" ∧ yX5_isPair.cls ≠ "java/lang/invoke/VarHandle" ∧ (parseMethodDescriptor yX5_isPair.desc).map (fun d => d.parameters.length) = some 2 := by decide +kernel
theorem eX5_isSheet : yX5_isSheet.cls ≠ "java/lang/invoke/MethodHandle" ∧ yX5_isSheet.cls ≠ "java/lang/invoke/VarHandle" ∧ (parseMethodDescriptor yX5_isSheet.desc).map (fun d => d.parameters.length) = some 1 := by decide +kernel
theorem eX5_isSign : yX5_isSign.cls = RX5 ∧ yX5_isSign.cls ≠ "java/lang/invoke/MethodHandle" ∧ yX5_isSign.cls ≠ "java/lang/invoke/VarHandle" ∧ (parseMethodDescriptor yX5_isSign.desc).map (fun d => d.parameters.length) = some 2 := by decide +kernel
theorem eX5_isSort : yX5_isSort.cls ≠ "java/lang/invoke/MethodHandle" ∧ yX5_isSort.cls ≠ "java/lang/invoke/VarHandle" ∧ (parseMethodDescriptor yX5_isSort.desc).map (fun d => d.parameters.length) = some 1 := by decide +kernel
theorem eX5_isStep : yX5_isStep.cls = RX5 ∧ yX5_isStep.cls ≠ "java/lang/invoke/MethodHandle" ∧ yX5_isStep.cls ≠ "java/lang/invoke/VarHandle" ∧ (parseMethodDescriptor yX5_isStep.desc).map (fun d => d.parameters.length) = some 1 := by decide +kernel
theorem eX5_isTest : yX5_isTest.cls = RX5 ∧ yX5_isTest.cls ≠ "java/lang/invoke/MethodHandle" ∧ yX5_isTest.cls ≠ "java/lang/invoke/VarHandle" ∧ (parseMethodDescriptor yX5_isTest.desc).map (fun d => d.parameters.length) = some 1 := by decide +kernel
theorem eX5_keep : yX5_keep.cls = RX5 ∧ yX5_keep.cls ≠ "java/lang/invoke/MethodHandle" ∧ yX5_keep.cls ≠ "java/lang/invoke/VarHandle" ∧ (parseMethodDescriptor yX5_keep.desc).map (fun d => d.parameters.length) = some 0 := by decide +kernel
theorem eX5_killed : yX5_killed.cls = RX5 ∧ yX5_killed.cls ≠ "java/lang/invoke/MethodHandle" ∧ yX5_killed.cls ≠ "java/lang/invoke/VarHandle" ∧ (parseMethodDescriptor yX5_killed.desc).map (fun d => d.parameters.length) = some 0 := by decide +kernel
theorem eX5_killedBy : yX5_killedBy.cls = RX5 ∧ yX5_killedBy.cls ≠ "java/lang/invoke/MethodHandle" ∧ yX5_killedBy.cls ≠ "java/lang/invoke/VarHandle" ∧ (parseMethodDescriptor yX5_killedBy.desc).map (fun d => d.parameters.length) = some 1 := by decide +kernel
theorem eX5_kills : yX5_kills.cls = RX5 ∧ yX5_kills.cls ≠ "java/lang/invoke/MethodHandle" ∧ yX5_kills.cls ≠ "java/lang/invoke/VarHandle" ∧ (parseMethodDescriptor yX5_kills.desc).map (fun d => d.parameters.length) = some 2 := by decide +kernel
theorem eX5_kinds : yX5_kinds.cls = RX5 ∧ yX5_kinds.cls ≠ "java/lang/invoke/MethodHandle" ∧ yX5_kinds.cls ≠ "java/lang/invoke/VarHandle" ∧ (parseMethodDescriptor yX5_kinds.desc).map (fun d => d.parameters.length) = some 1 := by decide +kernel
theorem eX5_leftBy : yX5_leftBy.cls = RX5 ∧ yX5_leftBy.cls ≠ "java/lang/invoke/MethodHandle" ∧ yX5_leftBy.cls ≠ "java/lang/invoke/VarHandle" ∧ (parseMethodDescriptor yX5_leftBy.desc).map (fun d => d.parameters.length) = some 1 := by decide +kernel
theorem eX5_log : yX5_log.cls = RX5 ∧ yX5_log.cls ≠ "java/lang/invoke/MethodHandle" ∧ yX5_log.cls ≠ "java/lang/invoke/VarHandle" ∧ (parseMethodDescriptor yX5_log.desc).map (fun d => d.parameters.length) = some 1 := by decide +kernel
theorem eX5_lose : yX5_lose.cls = RX5 ∧ yX5_lose.cls ≠ "java/lang/invoke/MethodHandle" ∧ yX5_lose.cls ≠ "java/lang/invoke/VarHandle" ∧ (parseMethodDescriptor yX5_lose.desc).map (fun d => d.parameters.length) = some 1 := by decide +kernel
theorem eX5_lost : yX5_lost.cls = RX5 ∧ yX5_lost.cls ≠ "java/lang/invoke/MethodHandle" ∧ yX5_lost.cls ≠ "java/lang/invoke/VarHandle" ∧ (parseMethodDescriptor yX5_lost.desc).map (fun d => d.parameters.length) = some 1 := by decide +kernel
theorem eX5_makes : yX5_makes.cls ≠ "java/lang/invoke/MethodHandle" ∧ yX5_makes.cls ≠ "java/lang/invoke/VarHandle" ∧ (parseMethodDescriptor yX5_makes.desc).map (fun d => d.parameters.length) = some 3 := by decide +kernel
theorem eX5_many : yX5_many.cls = RX5 ∧ yX5_many.cls ≠ "java/lang/invoke/MethodHandle" ∧ yX5_many.cls ≠ "java/lang/invoke/VarHandle" ∧ (parseMethodDescriptor yX5_many.desc).map (fun d => d.parameters.length) = some 1 := by decide +kernel
theorem eX5_manyEqual : yX5_manyEqual.cls = RX5 ∧ yX5_manyEqual.cls ≠ "java/lang/invoke/MethodHandle" ∧ yX5_manyEqual.cls ≠ "java/lang/invoke/VarHandle" ∧ (parseMethodDescriptor yX5_manyEqual.desc).map (fun d => d.parameters.length) = some 0 := by decide +kernel
theorem eX5_manyLeast : yX5_manyLeast.cls = RX5 ∧ yX5_manyLeast.cls ≠ "java/lang/invoke/MethodHandle" ∧ yX5_manyLeast.cls ≠ "java/lang/invoke/VarHandle" ∧ (parseMethodDescriptor yX5_manyLeast.desc).map (fun d => d.parameters.length) = some 0 := by decide +kernel
theorem eX5_mutantRun : yX5_mutantRun.cls = RX5 ∧ yX5_mutantRun.cls ≠ "java/lang/invoke/MethodHandle" ∧ yX5_mutantRun.cls ≠ "java/lang/invoke/VarHandle" ∧ (parseMethodDescriptor yX5_mutantRun.desc).map (fun d => d.parameters.length) = some 3 := by decide +kernel
theorem eX5_mutants : yX5_mutants.cls = RX5 ∧ yX5_mutants.cls ≠ "java/lang/invoke/MethodHandle" ∧ yX5_mutants.cls ≠ "java/lang/invoke/VarHandle" ∧ (parseMethodDescriptor yX5_mutants.desc).map (fun d => d.parameters.length) = some 0 := by decide +kernel
theorem eX5_odds : yX5_odds.cls = RX5 ∧ yX5_odds.cls ≠ "java/lang/invoke/MethodHandle" ∧ yX5_odds.cls ≠ "java/lang/invoke/VarHandle" ∧ (parseMethodDescriptor yX5_odds.desc).map (fun d => d.parameters.length) = some 2 := by decide +kernel
theorem eX5_ofMutant : yX5_ofMutant.cls = RX5 ∧ yX5_ofMutant.cls ≠ "java/lang/invoke/MethodHandle" ∧ yX5_ofMutant.cls ≠ "java/lang/invoke/VarHandle" ∧ (parseMethodDescriptor yX5_ofMutant.desc).map (fun d => d.parameters.length) = some 2 := by decide +kernel
theorem eX5_ofStep : yX5_ofStep.cls = RX5 ∧ yX5_ofStep.cls ≠ "java/lang/invoke/MethodHandle" ∧ yX5_ofStep.cls ≠ "java/lang/invoke/VarHandle" ∧ (parseMethodDescriptor yX5_ofStep.desc).map (fun d => d.parameters.length) = some 2 := by decide +kernel
theorem eX5_ofTest : yX5_ofTest.cls = RX5 ∧ yX5_ofTest.cls ≠ "java/lang/invoke/MethodHandle" ∧ yX5_ofTest.cls ≠ "java/lang/invoke/VarHandle" ∧ (parseMethodDescriptor yX5_ofTest.desc).map (fun d => d.parameters.length) = some 2 := by decide +kernel
theorem eX5_otherWay : yX5_otherWay.cls = RX5 ∧ yX5_otherWay.cls ≠ "java/lang/invoke/MethodHandle" ∧ yX5_otherWay.cls ≠ "java/lang/invoke/VarHandle" ∧ (parseMethodDescriptor yX5_otherWay.desc).map (fun d => d.parameters.length) = some 1 := by decide +kernel
theorem eX5_output : yX5_output.cls = RX5 ∧ yX5_output.cls ≠ "java/lang/invoke/MethodHandle" ∧ yX5_output.cls ≠ "java/lang/invoke/VarHandle" ∧ (parseMethodDescriptor yX5_output.desc).map (fun d => d.parameters.length) = some 2 := by decide +kernel
theorem eX5_plainRun : yX5_plainRun.cls = RX5 ∧ yX5_plainRun.cls ≠ "java/lang/invoke/MethodHandle" ∧ yX5_plainRun.cls ≠ "java/lang/invoke/VarHandle" ∧ (parseMethodDescriptor yX5_plainRun.desc).map (fun d => d.parameters.length) = some 2 := by decide +kernel
theorem eX5_program : yX5_program.cls = RX5 ∧ yX5_program.cls ≠ "java/lang/invoke/MethodHandle" ∧ yX5_program.cls ≠ "java/lang/invoke/VarHandle" ∧ (parseMethodDescriptor yX5_program.desc).map (fun d => d.parameters.length) = some 4 := by decide +kernel
theorem eX5_put : yX5_put.cls = RX5 ∧ yX5_put.cls ≠ "java/lang/invoke/MethodHandle" ∧ yX5_put.cls ≠ "java/lang/invoke/VarHandle" ∧ (parseMethodDescriptor yX5_put.desc).map (fun d => d.parameters.length) = some 3 := by decide +kernel
theorem eX5_putBack : yX5_putBack.cls = RX5 ∧ yX5_putBack.cls ≠ "java/lang/invoke/MethodHandle" ∧ yX5_putBack.cls ≠ "java/lang/invoke/VarHandle" ∧ (parseMethodDescriptor yX5_putBack.desc).map (fun d => d.parameters.length) = some 0 := by decide +kernel
theorem eX5_readAll : yX5_readAll.cls = RX5 ∧ yX5_readAll.cls ≠ "java/lang/invoke/MethodHandle" ∧ yX5_readAll.cls ≠ "java/lang/invoke/VarHandle" ∧ (parseMethodDescriptor yX5_readAll.desc).map (fun d => d.parameters.length) = some 1 := by decide +kernel
theorem eX5_readStepNext : yX5_readStepNext.cls = RX5 ∧ yX5_readStepNext.cls ≠ "java/lang/invoke/MethodHandle" ∧ yX5_readStepNext.cls ≠ "java/lang/invoke/VarHandle" ∧ (parseMethodDescriptor yX5_readStepNext.desc).map (fun d => d.parameters.length) = some 2 := by decide +kernel
theorem eX5_readTestNext : yX5_readTestNext.cls = RX5 ∧ yX5_readTestNext.cls ≠ "java/lang/invoke/MethodHandle" ∧ yX5_readTestNext.cls ≠ "java/lang/invoke/VarHandle" ∧ (parseMethodDescriptor yX5_readTestNext.desc).map (fun d => d.parameters.length) = some 2 := by decide +kernel
theorem eX5_reading : yX5_reading.cls = RX5 ∧ yX5_reading.cls ≠ "java/lang/invoke/MethodHandle" ∧ yX5_reading.cls ≠ "java/lang/invoke/VarHandle" ∧ (parseMethodDescriptor yX5_reading.desc).map (fun d => d.parameters.length) = some 1 := by decide +kernel
theorem eX5_runs : yX5_runs.cls = RX5 ∧ yX5_runs.cls ≠ "java/lang/invoke/MethodHandle" ∧ yX5_runs.cls ≠ "java/lang/invoke/VarHandle" ∧ (parseMethodDescriptor yX5_runs.desc).map (fun d => d.parameters.length) = some 4 := by decide +kernel
theorem eX5_score : yX5_score.cls = RX5 ∧ yX5_score.cls ≠ "java/lang/invoke/MethodHandle" ∧ yX5_score.cls ≠ "java/lang/invoke/VarHandle" ∧ (parseMethodDescriptor yX5_score.desc).map (fun d => d.parameters.length) = some 1 := by decide +kernel
theorem eX5_sheet : yX5_sheet.cls = RX5 ∧ yX5_sheet.cls ≠ "java/lang/invoke/MethodHandle" ∧ yX5_sheet.cls ≠ "java/lang/invoke/VarHandle" ∧ (parseMethodDescriptor yX5_sheet.desc).map (fun d => d.parameters.length) = some 3 := by decide +kernel
theorem eX5_size : yX5_size.cls ≠ "java/lang/invoke/MethodHandle" ∧ yX5_size.cls ≠ "java/lang/invoke/VarHandle" ∧ (parseMethodDescriptor yX5_size.desc).map (fun d => d.parameters.length) = some 1 := by decide +kernel
theorem eX5_sourceOf : yX5_sourceOf.cls = RX5 ∧ yX5_sourceOf.cls ≠ "java/lang/invoke/MethodHandle" ∧ yX5_sourceOf.cls ≠ "java/lang/invoke/VarHandle" ∧ (parseMethodDescriptor yX5_sourceOf.desc).map (fun d => d.parameters.length) = some 3 := by decide +kernel
theorem eX5_state : yX5_state.cls = RX5 ∧ yX5_state.cls ≠ "java/lang/invoke/MethodHandle" ∧ yX5_state.cls ≠ "java/lang/invoke/VarHandle" ∧ (parseMethodDescriptor yX5_state.desc).map (fun d => d.parameters.length) = some 2 := by decide +kernel
theorem eX5_stepOf : yX5_stepOf.cls ≠ "java/lang/invoke/MethodHandle" ∧ yX5_stepOf.cls ≠ "java/lang/invoke/VarHandle" ∧ (parseMethodDescriptor yX5_stepOf.desc).map (fun d => d.parameters.length) = some 1 := by decide +kernel
theorem eX5_subsumed : yX5_subsumed.cls = RX5 ∧ yX5_subsumed.cls ≠ "java/lang/invoke/MethodHandle" ∧ yX5_subsumed.cls ≠ "java/lang/invoke/VarHandle" ∧ (parseMethodDescriptor yX5_subsumed.desc).map (fun d => d.parameters.length) = some 1 := by decide +kernel
theorem eX5_subsumes : yX5_subsumes.cls = RX5 ∧ yX5_subsumes.cls ≠ "java/lang/invoke/MethodHandle" ∧ yX5_subsumes.cls ≠ "java/lang/invoke/VarHandle" ∧ (parseMethodDescriptor yX5_subsumes.desc).map (fun d => d.parameters.length) = some 2 := by decide +kernel
theorem eX5_tell : yX5_tell.cls = RX5 ∧ yX5_tell.cls ≠ "java/lang/invoke/MethodHandle" ∧ yX5_tell.cls ≠ "java/lang/invoke/VarHandle" ∧ (parseMethodDescriptor yX5_tell.desc).map (fun d => d.parameters.length) = some 1 := by decide +kernel
theorem eX5_tellDay : yX5_tellDay.cls = RX5 ∧ yX5_tellDay.cls ≠ "java/lang/invoke/MethodHandle" ∧ yX5_tellDay.cls ≠ "java/lang/invoke/VarHandle" ∧ (parseMethodDescriptor yX5_tellDay.desc).map (fun d => d.parameters.length) = some 1 := by decide +kernel
theorem eX5_time : yX5_time.cls = RX5 ∧ yX5_time.cls ≠ "java/lang/invoke/MethodHandle" ∧ yX5_time.cls ≠ "java/lang/invoke/VarHandle" ∧ (parseMethodDescriptor yX5_time.desc).map (fun d => d.parameters.length) = some 2 := by decide +kernel
theorem eX5_trace : yX5_trace.cls = RX5 ∧ yX5_trace.cls ≠ "java/lang/invoke/MethodHandle" ∧ yX5_trace.cls ≠ "java/lang/invoke/VarHandle" ∧ (parseMethodDescriptor yX5_trace.desc).map (fun d => d.parameters.length) = some 0 := by decide +kernel
theorem eX5_way : yX5_way.cls = RX5 ∧ yX5_way.cls ≠ "java/lang/invoke/MethodHandle" ∧ yX5_way.cls ≠ "java/lang/invoke/VarHandle" ∧ (parseMethodDescriptor yX5_way.desc).map (fun d => d.parameters.length) = some 2 := by decide +kernel
theorem eX5_wayBy : yX5_wayBy.cls ≠ "java/lang/invoke/MethodHandle" ∧ yX5_wayBy.cls ≠ "java/lang/invoke/VarHandle" ∧ (parseMethodDescriptor yX5_wayBy.desc).map (fun d => d.parameters.length) = some 1 := by decide +kernel
theorem eX5_ways : yX5_ways.cls = RX5 ∧ yX5_ways.cls ≠ "java/lang/invoke/MethodHandle" ∧ yX5_ways.cls ≠ "java/lang/invoke/VarHandle" ∧ (parseMethodDescriptor yX5_ways.desc).map (fun d => d.parameters.length) = some 1 := by decide +kernel
theorem eX5_weightOf : yX5_weightOf.cls = RX5 ∧ yX5_weightOf.cls ≠ "java/lang/invoke/MethodHandle" ∧ yX5_weightOf.cls ≠ "java/lang/invoke/VarHandle" ∧ (parseMethodDescriptor yX5_weightOf.desc).map (fun d => d.parameters.length) = some 1 := by decide +kernel
theorem eX5_weightOfSet : yX5_weightOfSet.cls = RX5 ∧ yX5_weightOfSet.cls ≠ "java/lang/invoke/MethodHandle" ∧ yX5_weightOfSet.cls ≠ "java/lang/invoke/VarHandle" ∧ (parseMethodDescriptor yX5_weightOfSet.desc).map (fun d => d.parameters.length) = some 1 := by decide +kernel
theorem eX5_within : yX5_within.cls ≠ "java/lang/invoke/MethodHandle" ∧ yX5_within.cls ≠ "java/lang/invoke/VarHandle" ∧ (parseMethodDescriptor yX5_within.desc).map (fun d => d.parameters.length) = some 3 := by decide +kernel
abbrev rmX4_program : Room := { frames := 6, cells := 0, slots := 0, locals := 134 }
abbrev rmX4_ofStep : Room := { frames := 1, cells := 0, slots := 0, locals := 21 }
abbrev rmX4_ofTest : Room := { frames := 4, cells := 0, slots := 0, locals := 109 }
abbrev rmX4_output : Room := { frames := 2, cells := 0, slots := 0, locals := 46 }
abbrev rmX4_way : Room := { frames := 1, cells := 0, slots := 0, locals := 22 }
abbrev rmX4_time : Room := { frames := 2, cells := 0, slots := 0, locals := 42 }
abbrev rmX4_aim : Room := { frames := 2, cells := 0, slots := 0, locals := 42 }
abbrev rmX4_ofMutant : Room := { frames := 6, cells := 0, slots := 0, locals := 152 }
abbrev rmX4_state : Room := { frames := 3, cells := 0, slots := 0, locals := 67 }
abbrev rmX4_subsumes : Room := { frames := 6, cells := 0, slots := 0, locals := 152 }
abbrev rmX4_hardest : Room := { frames := 6, cells := 0, slots := 0, locals := 152 }
abbrev rmX4_day : Room := { frames := 6, cells := 0, slots := 0, locals := 154 }
abbrev rmX4_cover : Room := { frames := 6, cells := 0, slots := 0, locals := 152 }
abbrev rmX4_choose : Room := { frames := 6, cells := 0, slots := 0, locals := 152 }
abbrev rmX4_score : Room := { frames := 6, cells := 0, slots := 0, locals := 152 }
abbrev rmX4_reading : Room := { frames := 1, cells := 0, slots := 0, locals := 22 }
abbrev rmX4_back : Room := { frames := 1, cells := 0, slots := 0, locals := 22 }
abbrev rmX4_kinds : Room := { frames := 6, cells := 0, slots := 0, locals := 154 }
abbrev rmX4_ways : Room := { frames := 6, cells := 0, slots := 0, locals := 154 }
abbrev rmX4_odds : Room := { frames := 3, cells := 0, slots := 0, locals := 88 }
abbrev rmX4_sheet : Room := { frames := 2, cells := 0, slots := 0, locals := 42 }
abbrev rmX4_lose : Room := { frames := 2, cells := 0, slots := 0, locals := 42 }
abbrev rmX4_put : Room := { frames := 2, cells := 0, slots := 0, locals := 42 }
abbrev rmX4_cell : Room := { frames := 2, cells := 0, slots := 0, locals := 42 }
abbrev rmX4_copy : Room := { frames := 2, cells := 0, slots := 0, locals := 42 }
abbrev rmX4_tell : Room := { frames := 4, cells := 0, slots := 0, locals := 84 }
abbrev rmX4_log : Room := { frames := 5, cells := 0, slots := 0, locals := 130 }
abbrev rmX4_as : Room := { frames := 1, cells := 0, slots := 0, locals := 22 }
abbrev rmX4_trace : Room := { frames := 0, cells := 0, slots := 0, locals := 0 }
abbrev rmX4_fault : Room := { frames := 0, cells := 0, slots := 0, locals := 0 }
abbrev rmX4_many : Room := { frames := 6, cells := 0, slots := 0, locals := 152 }
abbrev rmX4_isWithin : Room := { frames := 0, cells := 0, slots := 0, locals := 0 }
abbrev rmX4_isSheet : Room := { frames := 1, cells := 0, slots := 0, locals := 22 }
abbrev rmX4_isFigure : Room := { frames := 1, cells := 0, slots := 0, locals := 22 }
abbrev rmX4_isTime : Room := { frames := 1, cells := 0, slots := 0, locals := 22 }
abbrev rmX4_oneIf : Room := { frames := 0, cells := 0, slots := 0, locals := 0 }
abbrev rmX4_share : Room := { frames := 0, cells := 0, slots := 0, locals := 0 }
abbrev rmX4_faulted : Room := { frames := 0, cells := 0, slots := 0, locals := 0 }
abbrev rmX4_killsNow : Room := { frames := 5, cells := 0, slots := 0, locals := 132 }
abbrev rmX4_isOfDay : Room := { frames := 1, cells := 0, slots := 0, locals := 22 }
abbrev rmX4_isAct : Room := { frames := 2, cells := 0, slots := 0, locals := 42 }
abbrev rmX4_areActs : Room := { frames := 3, cells := 0, slots := 0, locals := 63 }
abbrev rmX4_tryActs : Room := { frames := 3, cells := 0, slots := 0, locals := 65 }
abbrev rmX4_ofTrial : Room := { frames := 5, cells := 0, slots := 0, locals := 132 }
abbrev rmX4_fitsReadings : Room := { frames := 5, cells := 0, slots := 0, locals := 132 }
abbrev rmX4_leave : Room := { frames := 0, cells := 0, slots := 0, locals := 0 }
abbrev rmX4_tellPlain : Room := { frames := 1, cells := 0, slots := 0, locals := 21 }
abbrev rmX4_tellSlow : Room := { frames := 2, cells := 0, slots := 0, locals := 42 }
abbrev rmX4_tellDouble : Room := { frames := 3, cells := 0, slots := 0, locals := 63 }
abbrev rmX4_logLent : Room := { frames := 4, cells := 0, slots := 0, locals := 109 }
abbrev rmX4_logDouble : Room := { frames := 1, cells := 0, slots := 0, locals := 21 }
abbrev rmX5_fails : Room := { frames := 0, cells := 0, slots := 0, locals := 0 }
abbrev rmX5_lost : Room := { frames := 0, cells := 0, slots := 0, locals := 0 }
abbrev rmX5_within : Room := { frames := 0, cells := 0, slots := 0, locals := 0 }
abbrev rmX5_isSheet : Room := { frames := 1, cells := 0, slots := 0, locals := 22 }
abbrev rmX5_isSort : Room := { frames := 1, cells := 0, slots := 0, locals := 22 }
abbrev rmX5_against : Room := { frames := 0, cells := 0, slots := 0, locals := 0 }
abbrev rmX5_isStep : Room := { frames := 0, cells := 0, slots := 0, locals := 0 }
abbrev rmX5_isTest : Room := { frames := 0, cells := 0, slots := 0, locals := 0 }
abbrev rmX5_mutants : Room := { frames := 0, cells := 0, slots := 0, locals := 0 }
abbrev rmX5_isMutant : Room := { frames := 1, cells := 0, slots := 0, locals := 20 }
abbrev rmX5_size : Room := { frames := 0, cells := 0, slots := 0, locals := 0 }
abbrev rmX5_isSign : Room := { frames := 0, cells := 0, slots := 0, locals := 0 }
abbrev rmX5_program : Room := { frames := 3, cells := 0, slots := 0, locals := 67 }
abbrev rmX5_readAll : Room := { frames := 2, cells := 0, slots := 0, locals := 46 }
abbrev rmX5_wayBy : Room := { frames := 0, cells := 0, slots := 0, locals := 0 }
abbrev rmX5_readStepNext : Room := { frames := 1, cells := 0, slots := 0, locals := 22 }
abbrev rmX5_readTestNext : Room := { frames := 1, cells := 0, slots := 0, locals := 22 }
abbrev rmX5_weightOf : Room := { frames := 0, cells := 0, slots := 0, locals := 0 }
abbrev rmX5_makes : Room := { frames := 0, cells := 0, slots := 0, locals := 0 }
abbrev rmX5_sourceOf : Room := { frames := 0, cells := 0, slots := 0, locals := 0 }
abbrev rmX5_runs : Room := { frames := 1, cells := 0, slots := 0, locals := 23 }
abbrev rmX5_stepOf : Room := { frames := 0, cells := 0, slots := 0, locals := 0 }
abbrev rmX5_otherWay : Room := { frames := 1, cells := 0, slots := 0, locals := 20 }
abbrev rmX5_plainRun : Room := { frames := 2, cells := 0, slots := 0, locals := 48 }
abbrev rmX5_mutantRun : Room := { frames := 2, cells := 0, slots := 0, locals := 48 }
abbrev rmX5_kills : Room := { frames := 3, cells := 0, slots := 0, locals := 71 }
abbrev rmX5_infects : Room := { frames := 3, cells := 0, slots := 0, locals := 71 }
abbrev rmX5_differs : Room := { frames := 3, cells := 0, slots := 0, locals := 71 }
abbrev rmX5_manyEqual : Room := { frames := 4, cells := 0, slots := 0, locals := 94 }
abbrev rmX5_findKillers : Room := { frames := 4, cells := 0, slots := 0, locals := 93 }
abbrev rmX5_killed : Room := { frames := 1, cells := 0, slots := 0, locals := 20 }
abbrev rmX5_killedBy : Room := { frames := 1, cells := 0, slots := 0, locals := 20 }
abbrev rmX5_ofStep : Room := { frames := 1, cells := 0, slots := 0, locals := 21 }
abbrev rmX5_ofTest : Room := { frames := 5, cells := 0, slots := 0, locals := 115 }
abbrev rmX5_output : Room := { frames := 3, cells := 0, slots := 0, locals := 70 }
abbrev rmX5_way : Room := { frames := 1, cells := 0, slots := 0, locals := 22 }
abbrev rmX5_time : Room := { frames := 1, cells := 0, slots := 0, locals := 22 }
abbrev rmX5_aim : Room := { frames := 1, cells := 0, slots := 0, locals := 22 }
abbrev rmX5_doesSubsume : Room := { frames := 0, cells := 0, slots := 0, locals := 0 }
abbrev rmX5_isLeast : Room := { frames := 1, cells := 0, slots := 0, locals := 22 }
abbrev rmX5_subsumed : Room := { frames := 1, cells := 0, slots := 0, locals := 22 }
abbrev rmX5_ofMutant : Room := { frames := 5, cells := 0, slots := 0, locals := 115 }
abbrev rmX5_state : Room := { frames := 4, cells := 0, slots := 0, locals := 94 }
abbrev rmX5_subsumes : Room := { frames := 5, cells := 0, slots := 0, locals := 115 }
abbrev rmX5_hardest : Room := { frames := 5, cells := 0, slots := 0, locals := 115 }
abbrev rmX5_manyLeast : Room := { frames := 2, cells := 0, slots := 0, locals := 45 }
abbrev rmX5_keep : Room := { frames := 0, cells := 0, slots := 0, locals := 0 }
abbrev rmX5_putBack : Room := { frames := 0, cells := 0, slots := 0, locals := 0 }
abbrev rmX5_does : Room := { frames := 1, cells := 0, slots := 0, locals := 21 }
abbrev rmX5_isPair : Room := { frames := 1, cells := 0, slots := 0, locals := 22 }
abbrev rmX5_goDay : Room := { frames := 2, cells := 0, slots := 0, locals := 44 }
abbrev rmX5_day : Room := { frames := 6, cells := 0, slots := 0, locals := 137 }
abbrev rmX5_tellDay : Room := { frames := 5, cells := 0, slots := 0, locals := 116 }
abbrev rmX5_weightOfSet : Room := { frames := 1, cells := 0, slots := 0, locals := 21 }
abbrev rmX5_leftBy : Room := { frames := 1, cells := 0, slots := 0, locals := 20 }
abbrev rmX5_findCover : Room := { frames := 2, cells := 0, slots := 0, locals := 44 }
abbrev rmX5_cover : Room := { frames := 5, cells := 0, slots := 0, locals := 115 }
abbrev rmX5_isBetter : Room := { frames := 2, cells := 0, slots := 0, locals := 43 }
abbrev rmX5_findChoices : Room := { frames := 3, cells := 0, slots := 0, locals := 69 }
abbrev rmX5_choose : Room := { frames := 5, cells := 0, slots := 0, locals := 115 }
abbrev rmX5_inLeastTerms : Room := { frames := 0, cells := 0, slots := 0, locals := 0 }
abbrev rmX5_score : Room := { frames := 5, cells := 0, slots := 0, locals := 116 }
abbrev rmX5_reading : Room := { frames := 1, cells := 0, slots := 0, locals := 22 }
abbrev rmX5_back : Room := { frames := 1, cells := 0, slots := 0, locals := 22 }
abbrev rmX5_areSo : Room := { frames := 5, cells := 0, slots := 0, locals := 115 }
abbrev rmX5_kinds : Room := { frames := 6, cells := 0, slots := 0, locals := 138 }
abbrev rmX5_ways : Room := { frames := 6, cells := 0, slots := 0, locals := 138 }
abbrev rmX5_odds : Room := { frames := 4, cells := 0, slots := 0, locals := 94 }
abbrev rmX5_sheet : Room := { frames := 2, cells := 0, slots := 0, locals := 42 }
abbrev rmX5_lose : Room := { frames := 2, cells := 0, slots := 0, locals := 42 }
abbrev rmX5_put : Room := { frames := 2, cells := 0, slots := 0, locals := 42 }
abbrev rmX5_cell : Room := { frames := 2, cells := 0, slots := 0, locals := 42 }
abbrev rmX5_copy : Room := { frames := 2, cells := 0, slots := 0, locals := 42 }
abbrev rmX5_begins : Room := { frames := 0, cells := 0, slots := 0, locals := 0 }
abbrev rmX5_tell : Room := { frames := 1, cells := 0, slots := 0, locals := 21 }
abbrev rmX5_log : Room := { frames := 5, cells := 0, slots := 0, locals := 115 }
abbrev rmX5_as : Room := { frames := 1, cells := 0, slots := 0, locals := 22 }
abbrev rmX5_trace : Room := { frames := 0, cells := 0, slots := 0, locals := 0 }
abbrev rmX5_fault : Room := { frames := 0, cells := 0, slots := 0, locals := 0 }
abbrev rmX5_many : Room := { frames := 5, cells := 0, slots := 0, locals := 116 }
abbrev rmX0_find : Room := { frames := 4, cells := 0, slots := 0, locals := 109 }
abbrev rmX0_isSubsumed : Room := { frames := 0, cells := 0, slots := 0, locals := 0 }
abbrev rmX0_countSubsumed : Room := { frames := 1, cells := 0, slots := 0, locals := 22 }
abbrev rmX0_isLeast : Room := { frames := 1, cells := 0, slots := 0, locals := 22 }
abbrev rmX0_countLeast : Room := { frames := 2, cells := 0, slots := 0, locals := 44 }
abbrev rmX0_hardestMutant : Room := { frames := 1, cells := 0, slots := 0, locals := 20 }
abbrev rmX0_weightOf : Room := { frames := 0, cells := 0, slots := 0, locals := 0 }
abbrev rmX0_killedBy : Room := { frames := 0, cells := 0, slots := 0, locals := 0 }
abbrev rmX0_lightestTests : Room := { frames := 1, cells := 0, slots := 0, locals := 23 }
abbrev rmX0_chooseTests : Room := { frames := 3, cells := 0, slots := 0, locals := 70 }
abbrev rmX0_bestTest : Room := { frames := 2, cells := 0, slots := 0, locals := 46 }
abbrev rmX0_isBetter : Room := { frames := 1, cells := 0, slots := 0, locals := 20 }
abbrev rmX0_chosenSet : Room := { frames := 0, cells := 0, slots := 0, locals := 0 }
abbrev rmX1_becomeEmpty : Room := { frames := 0, cells := 0, slots := 0, locals := 0 }
abbrev rmX1_becomeLike : Room := { frames := 0, cells := 0, slots := 0, locals := 0 }
abbrev rmX1_isEmpty : Room := { frames := 0, cells := 0, slots := 0, locals := 0 }
abbrev rmX1_hasStep : Room := { frames := 0, cells := 0, slots := 0, locals := 0 }
abbrev rmX1_hasTest : Room := { frames := 0, cells := 0, slots := 0, locals := 0 }
abbrev rmX1_hasMutant : Room := { frames := 1, cells := 0, slots := 0, locals := 20 }
abbrev rmX1_mutants : Room := { frames := 0, cells := 0, slots := 0, locals := 0 }
abbrev rmX1_allMutants : Room := { frames := 1, cells := 0, slots := 0, locals := 20 }
abbrev rmX1_stepOf : Room := { frames := 0, cells := 0, slots := 0, locals := 0 }
abbrev rmX1_otherWay : Room := { frames := 0, cells := 0, slots := 0, locals := 0 }
abbrev rmX1_weight : Room := { frames := 0, cells := 0, slots := 0, locals := 0 }
abbrev rmX1_make : Room := { frames := 0, cells := 0, slots := 0, locals := 0 }
abbrev rmX1_run : Room := { frames := 1, cells := 0, slots := 0, locals := 22 }
abbrev rmX1_runTest : Room := { frames := 2, cells := 0, slots := 0, locals := 46 }
abbrev rmX1_effect : Room := { frames := 1, cells := 0, slots := 0, locals := 40 }
abbrev rmX1_killedAmong : Room := { frames := 2, cells := 0, slots := 0, locals := 65 }
abbrev rmX1_killedByTest : Room := { frames := 3, cells := 0, slots := 0, locals := 88 }
abbrev rmX1_unequalMutants : Room := { frames := 3, cells := 0, slots := 0, locals := 88 }
abbrev rmX1_countEqual : Room := { frames := 4, cells := 0, slots := 0, locals := 110 }
abbrev rmX1_differences : Room := { frames := 2, cells := 0, slots := 0, locals := 65 }
abbrev rmX1_act : Room := { frames := 2, cells := 0, slots := 0, locals := 43 }
abbrev rmX1_actOnStep : Room := { frames := 1, cells := 0, slots := 0, locals := 21 }
abbrev rmX1_actOnTime : Room := { frames := 1, cells := 0, slots := 0, locals := 21 }
abbrev rmX1_actOnInputs : Room := { frames := 1, cells := 0, slots := 0, locals := 21 }
abbrev rmX2_isNothing : Room := { frames := 0, cells := 0, slots := 0, locals := 0 }
abbrev rmX2_becomeNothing : Room := { frames := 0, cells := 0, slots := 0, locals := 0 }
abbrev rmX2_renew : Room := { frames := 0, cells := 0, slots := 0, locals := 0 }
abbrev rmX2_faultAs : Room := { frames := 1, cells := 0, slots := 0, locals := 20 }
abbrev rmX2_hasCell : Room := { frames := 0, cells := 0, slots := 0, locals := 0 }
abbrev rmX2_hasCells : Room := { frames := 0, cells := 0, slots := 0, locals := 0 }
abbrev rmX2_cut : Room := { frames := 0, cells := 0, slots := 0, locals := 0 }
abbrev rmX3_reads : Room := { frames := 5, cells := 0, slots := 0, locals := 111 }
abbrev rmX3_readSteps : Room := { frames := 4, cells := 0, slots := 0, locals := 89 }
abbrev rmX3_readStep : Room := { frames := 3, cells := 0, slots := 0, locals := 65 }
abbrev rmX3_readTests : Room := { frames := 4, cells := 0, slots := 0, locals := 88 }
abbrev rmX3_readTest : Room := { frames := 3, cells := 0, slots := 0, locals := 63 }
abbrev rmX3_peek : Room := { frames := 0, cells := 0, slots := 0, locals := 0 }
abbrev rmX3_pass : Room := { frames := 1, cells := 0, slots := 0, locals := 20 }
abbrev rmX3_pickW : Room := { frames := 2, cells := 0, slots := 0, locals := 41 }
abbrev rmX3_pickK : Room := { frames := 2, cells := 0, slots := 0, locals := 41 }
abbrev rmX3_digit : Room := { frames := 1, cells := 0, slots := 0, locals := 22 }
abbrev rmX3_source : Room := { frames := 2, cells := 0, slots := 0, locals := 45 }
abbrev rmJ6_bitCount_0f7a4 : Room := { frames := 0, cells := 0, slots := 0, locals := 0 }
theorem bc_m100 : (Int8.ofInt (-100)).toInt32 = (-100 : Int32) := by decide
theorem bc_m10 : (Int8.ofInt (-10)).toInt32 = (-10 : Int32) := by decide
theorem bc_m9 : (Int8.ofInt (-9)).toInt32 = (-9 : Int32) := by decide
theorem bc_m4 : (Int8.ofInt (-4)).toInt32 = (-4 : Int32) := by decide
theorem bc_m3 : (Int8.ofInt (-3)).toInt32 = (-3 : Int32) := by decide
theorem bc_m2 : (Int8.ofInt (-2)).toInt32 = (-2 : Int32) := by decide
theorem bc_6 : (Int8.ofInt 6).toInt32 = (6 : Int32) := by decide
theorem bc_7 : (Int8.ofInt 7).toInt32 = (7 : Int32) := by decide
theorem bc_8 : (Int8.ofInt 8).toInt32 = (8 : Int32) := by decide
theorem bc_9 : (Int8.ofInt 9).toInt32 = (9 : Int32) := by decide
theorem bc_10 : (Int8.ofInt 10).toInt32 = (10 : Int32) := by decide
theorem bc_12 : (Int8.ofInt 12).toInt32 = (12 : Int32) := by decide
theorem bc_15 : (Int8.ofInt 15).toInt32 = (15 : Int32) := by decide
theorem bc_16 : (Int8.ofInt 16).toInt32 = (16 : Int32) := by decide
theorem bc_19 : (Int8.ofInt 19).toInt32 = (19 : Int32) := by decide
theorem bc_20 : (Int8.ofInt 20).toInt32 = (20 : Int32) := by decide
theorem bc_26 : (Int8.ofInt 26).toInt32 = (26 : Int32) := by decide
theorem bc_28 : (Int8.ofInt 28).toInt32 = (28 : Int32) := by decide
theorem bc_31 : (Int8.ofInt 31).toInt32 = (31 : Int32) := by decide
theorem bc_44 : (Int8.ofInt 44).toInt32 = (44 : Int32) := by decide
theorem bc_47 : (Int8.ofInt 47).toInt32 = (47 : Int32) := by decide
theorem bc_48 : (Int8.ofInt 48).toInt32 = (48 : Int32) := by decide
theorem bc_49 : (Int8.ofInt 49).toInt32 = (49 : Int32) := by decide
theorem bc_57 : (Int8.ofInt 57).toInt32 = (57 : Int32) := by decide
theorem bc_59 : (Int8.ofInt 59).toInt32 = (59 : Int32) := by decide
theorem bc_60 : (Int8.ofInt 60).toInt32 = (60 : Int32) := by decide
theorem bc_63 : (Int8.ofInt 63).toInt32 = (63 : Int32) := by decide
theorem bc_68 : (Int8.ofInt 68).toInt32 = (68 : Int32) := by decide
theorem bc_80 : (Int8.ofInt 80).toInt32 = (80 : Int32) := by decide
theorem bc_83 : (Int8.ofInt 83).toInt32 = (83 : Int32) := by decide
theorem bc_99 : (Int8.ofInt 99).toInt32 = (99 : Int32) := by decide
theorem bc_100 : (Int8.ofInt 100).toInt32 = (100 : Int32) := by decide
theorem bc_109 : (Int8.ofInt 109).toInt32 = (109 : Int32) := by decide
theorem bc_120 : (Int8.ofInt 120).toInt32 = (120 : Int32) := by decide
theorem bc_121 : (Int8.ofInt 121).toInt32 = (121 : Int32) := by decide
theorem ic_m1 : Int32.ofInt (-1) = (-1 : Int32) := by decide
theorem ic_0 : Int32.ofInt 0 = (0 : Int32) := by decide
theorem ic_1 : Int32.ofInt 1 = (1 : Int32) := by decide
theorem ic_2 : Int32.ofInt 2 = (2 : Int32) := by decide
theorem ic_3 : Int32.ofInt 3 = (3 : Int32) := by decide
theorem ic_4 : Int32.ofInt 4 = (4 : Int32) := by decide
theorem ic_5 : Int32.ofInt 5 = (5 : Int32) := by decide
theorem sc_200 : (Int16.ofInt 200).toInt32 = (200 : Int32) := by decide
theorem sc_240 : (Int16.ofInt 240).toInt32 = (240 : Int32) := by decide
