def rm_X8_isAt : Room := { frames := 1, cells := 0, slots := 0, locals := 64 }
theorem hd_X8_isAt : yX8_isAt.cls = RX8 ∧ yX8_isAt.cls ≠ "java/lang/invoke/MethodHandle" ∧ yX8_isAt.cls ≠ "java/lang/invoke/VarHandle" ∧ (parseMethodDescriptor yX8_isAt.desc).map (fun d => d.parameters.length) = some 1 := by decide +kernel
def rm_X8_fail : Room := { frames := 1, cells := 0, slots := 0, locals := 64 }
theorem hd_X8_fail : yX8_fail.cls = RX8 ∧ yX8_fail.cls ≠ "java/lang/invoke/MethodHandle" ∧ yX8_fail.cls ≠ "java/lang/invoke/VarHandle" ∧ (parseMethodDescriptor yX8_fail.desc).map (fun d => d.parameters.length) = some 0 := by decide +kernel
def rm_X8_takes : Room := { frames := 1, cells := 0, slots := 0, locals := 64 }
theorem hd_X8_takes : yX8_takes.cls = RX8 ∧ yX8_takes.cls ≠ "java/lang/invoke/MethodHandle" ∧ yX8_takes.cls ≠ "java/lang/invoke/VarHandle" ∧ (parseMethodDescriptor yX8_takes.desc).map (fun d => d.parameters.length) = some 1 := by decide +kernel
def rm_X5_reset : Room := { frames := 1, cells := 0, slots := 0, locals := 64 }
theorem hd_X5_reset : yX5_reset.cls = RX5 ∧ yX5_reset.cls ≠ "java/lang/invoke/MethodHandle" ∧ yX5_reset.cls ≠ "java/lang/invoke/VarHandle" ∧ (parseMethodDescriptor yX5_reset.desc).map (fun d => d.parameters.length) = some 2 := by decide +kernel
def rm_X7_addNode : Room := { frames := 2, cells := 0, slots := 0, locals := 86 }
theorem hd_X7_addNode : yX7_addNode.cls = RX7 ∧ yX7_addNode.cls ≠ "java/lang/invoke/MethodHandle" ∧ yX7_addNode.cls ≠ "java/lang/invoke/VarHandle" ∧ (parseMethodDescriptor yX7_addNode.desc).map (fun d => d.parameters.length) = some 1 := by decide +kernel
def rm_X8_takeNumber : Room := { frames := 2, cells := 0, slots := 0, locals := 84 }
theorem hd_X8_takeNumber : yX8_takeNumber.cls = RX8 ∧ yX8_takeNumber.cls ≠ "java/lang/invoke/MethodHandle" ∧ yX8_takeNumber.cls ≠ "java/lang/invoke/VarHandle" ∧ (parseMethodDescriptor yX8_takeNumber.desc).map (fun d => d.parameters.length) = some 2 := by decide +kernel
def rm_X11_bit : Room := { frames := 1, cells := 0, slots := 0, locals := 64 }
theorem hd_X11_bit : yX11_bit.cls = RX11 ∧ yX11_bit.cls ≠ "java/lang/invoke/MethodHandle" ∧ yX11_bit.cls ≠ "java/lang/invoke/VarHandle" ∧ (parseMethodDescriptor yX11_bit.desc).map (fun d => d.parameters.length) = some 1 := by decide +kernel
def rm_X0_readNode : Room := { frames := 3, cells := 0, slots := 0, locals := 107 }
theorem hd_X0_readNode : yX0_readNode.cls = RX0 ∧ yX0_readNode.cls ≠ "java/lang/invoke/MethodHandle" ∧ yX0_readNode.cls ≠ "java/lang/invoke/VarHandle" ∧ (parseMethodDescriptor yX0_readNode.desc).map (fun d => d.parameters.length) = some 2 := by decide +kernel
def rm_X0_readLine : Room := { frames := 4, cells := 0, slots := 0, locals := 130 }
theorem hd_X0_readLine : yX0_readLine.cls = RX0 ∧ yX0_readLine.cls ≠ "java/lang/invoke/MethodHandle" ∧ yX0_readLine.cls ≠ "java/lang/invoke/VarHandle" ∧ (parseMethodDescriptor yX0_readLine.desc).map (fun d => d.parameters.length) = some 1 := by decide +kernel
def rm_X0_readInto : Room := { frames := 5, cells := 0, slots := 0, locals := 151 }
theorem hd_X0_readInto : yX0_readInto.cls = RX0 ∧ yX0_readInto.cls ≠ "java/lang/invoke/MethodHandle" ∧ yX0_readInto.cls ≠ "java/lang/invoke/VarHandle" ∧ (parseMethodDescriptor yX0_readInto.desc).map (fun d => d.parameters.length) = some 1 := by decide +kernel
def rm_X11_isIn : Room := { frames := 1, cells := 0, slots := 0, locals := 64 }
theorem hd_X11_isIn : yX11_isIn.cls = RX11 ∧ yX11_isIn.cls ≠ "java/lang/invoke/MethodHandle" ∧ yX11_isIn.cls ≠ "java/lang/invoke/VarHandle" ∧ (parseMethodDescriptor yX11_isIn.desc).map (fun d => d.parameters.length) = some 2 := by decide +kernel
def rm_X1_load : Room := { frames := 2, cells := 0, slots := 0, locals := 85 }
theorem hd_X1_load : yX1_load.cls = RX1 ∧ yX1_load.cls ≠ "java/lang/invoke/MethodHandle" ∧ yX1_load.cls ≠ "java/lang/invoke/VarHandle" ∧ (parseMethodDescriptor yX1_load.desc).map (fun d => d.parameters.length) = some 1 := by decide +kernel
def rm_X1_cliqueOf : Room := { frames := 2, cells := 0, slots := 0, locals := 85 }
theorem hd_X1_cliqueOf : yX1_cliqueOf.cls = RX1 ∧ yX1_cliqueOf.cls ≠ "java/lang/invoke/MethodHandle" ∧ yX1_cliqueOf.cls ≠ "java/lang/invoke/VarHandle" ∧ (parseMethodDescriptor yX1_cliqueOf.desc).map (fun d => d.parameters.length) = some 1 := by decide +kernel
def rm_X1_countCliques : Room := { frames := 3, cells := 0, slots := 0, locals := 109 }
theorem hd_X1_countCliques : yX1_countCliques.cls = RX1 ∧ yX1_countCliques.cls ≠ "java/lang/invoke/MethodHandle" ∧ yX1_countCliques.cls ≠ "java/lang/invoke/VarHandle" ∧ (parseMethodDescriptor yX1_countCliques.desc).map (fun d => d.parameters.length) = some 0 := by decide +kernel
def rm_J6_bitCount_0f7a4 : Room := { frames := 1, cells := 0, slots := 0, locals := 64 }
theorem hd_J6_bitCount_0f7a4 : yJ6_bitCount_0f7a4.cls = RJ6 ∧ yJ6_bitCount_0f7a4.cls ≠ "java/lang/invoke/MethodHandle" ∧ yJ6_bitCount_0f7a4.cls ≠ "java/lang/invoke/VarHandle" ∧ (parseMethodDescriptor yJ6_bitCount_0f7a4.desc).map (fun d => d.parameters.length) = some 1 := by decide +kernel
def rm_X1_areFriends : Room := { frames := 2, cells := 0, slots := 0, locals := 85 }
theorem hd_X1_areFriends : yX1_areFriends.cls = RX1 ∧ yX1_areFriends.cls ≠ "java/lang/invoke/MethodHandle" ∧ yX1_areFriends.cls ≠ "java/lang/invoke/VarHandle" ∧ (parseMethodDescriptor yX1_areFriends.desc).map (fun d => d.parameters.length) = some 1 := by decide +kernel
def rm_X1_fewestToSpare : Room := { frames := 3, cells := 0, slots := 0, locals := 107 }
theorem hd_X1_fewestToSpare : yX1_fewestToSpare.cls = RX1 ∧ yX1_fewestToSpare.cls ≠ "java/lang/invoke/MethodHandle" ∧ yX1_fewestToSpare.cls ≠ "java/lang/invoke/VarHandle" ∧ (parseMethodDescriptor yX1_fewestToSpare.desc).map (fun d => d.parameters.length) = some 0 := by decide +kernel
def rm_X1_putInOrder : Room := { frames := 1, cells := 0, slots := 0, locals := 64 }
theorem hd_X1_putInOrder : yX1_putInOrder.cls = RX1 ∧ yX1_putInOrder.cls ≠ "java/lang/invoke/MethodHandle" ∧ yX1_putInOrder.cls ≠ "java/lang/invoke/VarHandle" ∧ (parseMethodDescriptor yX1_putInOrder.desc).map (fun d => d.parameters.length) = some 2 := by decide +kernel
def rm_X1_inOrder : Room := { frames := 2, cells := 0, slots := 0, locals := 90 }
theorem hd_X1_inOrder : yX1_inOrder.cls = RX1 ∧ yX1_inOrder.cls ≠ "java/lang/invoke/MethodHandle" ∧ yX1_inOrder.cls ≠ "java/lang/invoke/VarHandle" ∧ (parseMethodDescriptor yX1_inOrder.desc).map (fun d => d.parameters.length) = some 2 := by decide +kernel
def rm_X11_lowest : Room := { frames := 2, cells := 0, slots := 0, locals := 85 }
theorem hd_X11_lowest : yX11_lowest.cls = RX11 ∧ yX11_lowest.cls ≠ "java/lang/invoke/MethodHandle" ∧ yX11_lowest.cls ≠ "java/lang/invoke/VarHandle" ∧ (parseMethodDescriptor yX11_lowest.desc).map (fun d => d.parameters.length) = some 1 := by decide +kernel
def rm_X1_weighPairs : Room := { frames := 3, cells := 0, slots := 0, locals := 106 }
theorem hd_X1_weighPairs : yX1_weighPairs.cls = RX1 ∧ yX1_weighPairs.cls ≠ "java/lang/invoke/MethodHandle" ∧ yX1_weighPairs.cls ≠ "java/lang/invoke/VarHandle" ∧ (parseMethodDescriptor yX1_weighPairs.desc).map (fun d => d.parameters.length) = some 1 := by decide +kernel
def rm_X1_mostOfPairs : Room := { frames := 1, cells := 0, slots := 0, locals := 64 }
theorem hd_X1_mostOfPairs : yX1_mostOfPairs.cls = RX1 ∧ yX1_mostOfPairs.cls ≠ "java/lang/invoke/MethodHandle" ∧ yX1_mostOfPairs.cls ≠ "java/lang/invoke/VarHandle" ∧ (parseMethodDescriptor yX1_mostOfPairs.desc).map (fun d => d.parameters.length) = some 0 := by decide +kernel
def rm_X1_firstPartner : Room := { frames := 2, cells := 0, slots := 0, locals := 85 }
theorem hd_X1_firstPartner : yX1_firstPartner.cls = RX1 ∧ yX1_firstPartner.cls ≠ "java/lang/invoke/MethodHandle" ∧ yX1_firstPartner.cls ≠ "java/lang/invoke/VarHandle" ∧ (parseMethodDescriptor yX1_firstPartner.desc).map (fun d => d.parameters.length) = some 2 := by decide +kernel
def rm_X1_partnerOf : Room := { frames := 3, cells := 0, slots := 0, locals := 109 }
theorem hd_X1_partnerOf : yX1_partnerOf.cls = RX1 ∧ yX1_partnerOf.cls ≠ "java/lang/invoke/MethodHandle" ∧ yX1_partnerOf.cls ≠ "java/lang/invoke/VarHandle" ∧ (parseMethodDescriptor yX1_partnerOf.desc).map (fun d => d.parameters.length) = some 1 := by decide +kernel
def rm_X2_clockOf : Room := { frames := 1, cells := 0, slots := 0, locals := 64 }
theorem hd_X2_clockOf : yX2_clockOf.cls = RX2 ∧ yX2_clockOf.cls ≠ "java/lang/invoke/MethodHandle" ∧ yX2_clockOf.cls ≠ "java/lang/invoke/VarHandle" ∧ (parseMethodDescriptor yX2_clockOf.desc).map (fun d => d.parameters.length) = some 2 := by decide +kernel
def rm_X2_weighCourses : Room := { frames := 2, cells := 0, slots := 0, locals := 85 }
theorem hd_X2_weighCourses : yX2_weighCourses.cls = RX2 ∧ yX2_weighCourses.cls ≠ "java/lang/invoke/MethodHandle" ∧ yX2_weighCourses.cls ≠ "java/lang/invoke/VarHandle" ∧ (parseMethodDescriptor yX2_weighCourses.desc).map (fun d => d.parameters.length) = some 2 := by decide +kernel
def rm_X2_isHeard : Room := { frames := 1, cells := 0, slots := 0, locals := 64 }
theorem hd_X2_isHeard : yX2_isHeard.cls = RX2 ∧ yX2_isHeard.cls ≠ "java/lang/invoke/MethodHandle" ∧ yX2_isHeard.cls ≠ "java/lang/invoke/VarHandle" ∧ (parseMethodDescriptor yX2_isHeard.desc).map (fun d => d.parameters.length) = some 3 := by decide +kernel
def rm_X2_weighBlames : Room := { frames := 2, cells := 0, slots := 0, locals := 86 }
theorem hd_X2_weighBlames : yX2_weighBlames.cls = RX2 ∧ yX2_weighBlames.cls ≠ "java/lang/invoke/MethodHandle" ∧ yX2_weighBlames.cls ≠ "java/lang/invoke/VarHandle" ∧ (parseMethodDescriptor yX2_weighBlames.desc).map (fun d => d.parameters.length) = some 2 := by decide +kernel
def rm_X2_countFits : Room := { frames := 1, cells := 0, slots := 0, locals := 64 }
theorem hd_X2_countFits : yX2_countFits.cls = RX2 ∧ yX2_countFits.cls ≠ "java/lang/invoke/MethodHandle" ∧ yX2_countFits.cls ≠ "java/lang/invoke/VarHandle" ∧ (parseMethodDescriptor yX2_countFits.desc).map (fun d => d.parameters.length) = some 0 := by decide +kernel
def rm_X2_firstFit : Room := { frames := 1, cells := 0, slots := 0, locals := 64 }
theorem hd_X2_firstFit : yX2_firstFit.cls = RX2 ∧ yX2_firstFit.cls ≠ "java/lang/invoke/MethodHandle" ∧ yX2_firstFit.cls ≠ "java/lang/invoke/VarHandle" ∧ (parseMethodDescriptor yX2_firstFit.desc).map (fun d => d.parameters.length) = some 0 := by decide +kernel
def rm_X2_greatestPart : Room := { frames := 2, cells := 0, slots := 0, locals := 85 }
theorem hd_X2_greatestPart : yX2_greatestPart.cls = RX2 ∧ yX2_greatestPart.cls ≠ "java/lang/invoke/MethodHandle" ∧ yX2_greatestPart.cls ≠ "java/lang/invoke/VarHandle" ∧ (parseMethodDescriptor yX2_greatestPart.desc).map (fun d => d.parameters.length) = some 1 := by decide +kernel
def rm_X2_bestRound : Room := { frames := 3, cells := 0, slots := 0, locals := 109 }
theorem hd_X2_bestRound : yX2_bestRound.cls = RX2 ∧ yX2_bestRound.cls ≠ "java/lang/invoke/MethodHandle" ∧ yX2_bestRound.cls ≠ "java/lang/invoke/VarHandle" ∧ (parseMethodDescriptor yX2_bestRound.desc).map (fun d => d.parameters.length) = some 0 := by decide +kernel
def rm_X2_countHearing : Room := { frames := 2, cells := 0, slots := 0, locals := 86 }
theorem hd_X2_countHearing : yX2_countHearing.cls = RX2 ∧ yX2_countHearing.cls ≠ "java/lang/invoke/MethodHandle" ∧ yX2_countHearing.cls ≠ "java/lang/invoke/VarHandle" ∧ (parseMethodDescriptor yX2_countHearing.desc).map (fun d => d.parameters.length) = some 2 := by decide +kernel
def rm_X2_bestPair : Room := { frames := 3, cells := 0, slots := 0, locals := 110 }
theorem hd_X2_bestPair : yX2_bestPair.cls = RX2 ∧ yX2_bestPair.cls ≠ "java/lang/invoke/MethodHandle" ∧ yX2_bestPair.cls ≠ "java/lang/invoke/VarHandle" ∧ (parseMethodDescriptor yX2_bestPair.desc).map (fun d => d.parameters.length) = some 0 := by decide +kernel
def rm_X7_inState : Room := { frames := 2, cells := 0, slots := 0, locals := 84 }
theorem hd_X7_inState : yX7_inState.cls = RX7 ∧ yX7_inState.cls ≠ "java/lang/invoke/MethodHandle" ∧ yX7_inState.cls ≠ "java/lang/invoke/VarHandle" ∧ (parseMethodDescriptor yX7_inState.desc).map (fun d => d.parameters.length) = some 1 := by decide +kernel
def rm_X3_partOf : Room := { frames := 2, cells := 0, slots := 0, locals := 84 }
theorem hd_X3_partOf : yX3_partOf.cls = RX3 ∧ yX3_partOf.cls ≠ "java/lang/invoke/MethodHandle" ∧ yX3_partOf.cls ≠ "java/lang/invoke/VarHandle" ∧ (parseMethodDescriptor yX3_partOf.desc).map (fun d => d.parameters.length) = some 4 := by decide +kernel
def rm_X3_joined : Room := { frames := 1, cells := 0, slots := 0, locals := 64 }
theorem hd_X3_joined : yX3_joined.cls = RX3 ∧ yX3_joined.cls ≠ "java/lang/invoke/MethodHandle" ∧ yX3_joined.cls ≠ "java/lang/invoke/VarHandle" ∧ (parseMethodDescriptor yX3_joined.desc).map (fun d => d.parameters.length) = some 3 := by decide +kernel
def rm_X3_holds : Room := { frames := 3, cells := 0, slots := 0, locals := 108 }
theorem hd_X3_holds : yX3_holds.cls = RX3 ∧ yX3_holds.cls ≠ "java/lang/invoke/MethodHandle" ∧ yX3_holds.cls ≠ "java/lang/invoke/VarHandle" ∧ (parseMethodDescriptor yX3_holds.desc).map (fun d => d.parameters.length) = some 4 := by decide +kernel
def rm_X3_sum : Room := { frames := 4, cells := 0, slots := 0, locals := 135 }
theorem hd_X3_sum : yX3_sum.cls = RX3 ∧ yX3_sum.cls ≠ "java/lang/invoke/MethodHandle" ∧ yX3_sum.cls ≠ "java/lang/invoke/VarHandle" ∧ (parseMethodDescriptor yX3_sum.desc).map (fun d => d.parameters.length) = some 3 := by decide +kernel
def rm_X8_takeAny : Room := { frames := 1, cells := 0, slots := 0, locals := 64 }
theorem hd_X8_takeAny : yX8_takeAny.cls = RX8 ∧ yX8_takeAny.cls ≠ "java/lang/invoke/MethodHandle" ∧ yX8_takeAny.cls ≠ "java/lang/invoke/VarHandle" ∧ (parseMethodDescriptor yX8_takeAny.desc).map (fun d => d.parameters.length) = some 2 := by decide +kernel
def rm_X4_emit : Room := { frames := 1, cells := 0, slots := 0, locals := 64 }
theorem hd_X4_emit : yX4_emit.cls = RX4 ∧ yX4_emit.cls ≠ "java/lang/invoke/MethodHandle" ∧ yX4_emit.cls ≠ "java/lang/invoke/VarHandle" ∧ (parseMethodDescriptor yX4_emit.desc).map (fun d => d.parameters.length) = some 1 := by decide +kernel
def rm_X4_readSum : Room := { frames := 2, cells := 0, slots := 0, locals := 87 }
theorem hd_X4_readSum : yX4_readSum.cls = RX4 ∧ yX4_readSum.cls ≠ "java/lang/invoke/MethodHandle" ∧ yX4_readSum.cls ≠ "java/lang/invoke/VarHandle" ∧ (parseMethodDescriptor yX4_readSum.desc).map (fun d => d.parameters.length) = some 0 := by decide +kernel
theorem hd_X4_readAtom : yX4_readAtom.cls = RX4 ∧ yX4_readAtom.cls ≠ "java/lang/invoke/MethodHandle" ∧ yX4_readAtom.cls ≠ "java/lang/invoke/VarHandle" ∧ (parseMethodDescriptor yX4_readAtom.desc).map (fun d => d.parameters.length) = some 1 := by decide +kernel
theorem hd_X4_readEach : yX4_readEach.cls = RX4 ∧ yX4_readEach.cls ≠ "java/lang/invoke/MethodHandle" ∧ yX4_readEach.cls ≠ "java/lang/invoke/VarHandle" ∧ (parseMethodDescriptor yX4_readEach.desc).map (fun d => d.parameters.length) = some 1 := by decide +kernel
theorem hd_X4_readAny : yX4_readAny.cls = RX4 ∧ yX4_readAny.cls ≠ "java/lang/invoke/MethodHandle" ∧ yX4_readAny.cls ≠ "java/lang/invoke/VarHandle" ∧ (parseMethodDescriptor yX4_readAny.desc).map (fun d => d.parameters.length) = some 1 := by decide +kernel
def rm_X4_readLine : Room := { frames := 54, cells := 0, slots := 0, locals := 2342 }
theorem hd_X4_readLine : yX4_readLine.cls = RX4 ∧ yX4_readLine.cls ≠ "java/lang/invoke/MethodHandle" ∧ yX4_readLine.cls ≠ "java/lang/invoke/VarHandle" ∧ (parseMethodDescriptor yX4_readLine.desc).map (fun d => d.parameters.length) = some 1 := by decide +kernel
def rm_X4_readAllLines : Room := { frames := 55, cells := 0, slots := 0, locals := 2364 }
theorem hd_X4_readAllLines : yX4_readAllLines.cls = RX4 ∧ yX4_readAllLines.cls ≠ "java/lang/invoke/MethodHandle" ∧ yX4_readAllLines.cls ≠ "java/lang/invoke/VarHandle" ∧ (parseMethodDescriptor yX4_readAllLines.desc).map (fun d => d.parameters.length) = some 0 := by decide +kernel
def rm_X5_copyFrom : Room := { frames := 1, cells := 0, slots := 0, locals := 64 }
theorem hd_X5_copyFrom : yX5_copyFrom.cls = RX5 ∧ yX5_copyFrom.cls ≠ "java/lang/invoke/MethodHandle" ∧ yX5_copyFrom.cls ≠ "java/lang/invoke/VarHandle" ∧ (parseMethodDescriptor yX5_copyFrom.desc).map (fun d => d.parameters.length) = some 1 := by decide +kernel
def rm_X5_told : Room := { frames := 1, cells := 0, slots := 0, locals := 64 }
theorem hd_X5_told : yX5_told.cls = RX5 ∧ yX5_told.cls ≠ "java/lang/invoke/MethodHandle" ∧ yX5_told.cls ≠ "java/lang/invoke/VarHandle" ∧ (parseMethodDescriptor yX5_told.desc).map (fun d => d.parameters.length) = some 1 := by decide +kernel
def rm_X7_copyFrom : Room := { frames := 2, cells := 0, slots := 0, locals := 85 }
theorem hd_X7_copyFrom : yX7_copyFrom.cls = RX7 ∧ yX7_copyFrom.cls ≠ "java/lang/invoke/MethodHandle" ∧ yX7_copyFrom.cls ≠ "java/lang/invoke/VarHandle" ∧ (parseMethodDescriptor yX7_copyFrom.desc).map (fun d => d.parameters.length) = some 1 := by decide +kernel
def rm_X6_remember : Room := { frames := 3, cells := 0, slots := 0, locals := 107 }
theorem hd_X6_remember : yX6_remember.cls = RX6 ∧ yX6_remember.cls ≠ "java/lang/invoke/MethodHandle" ∧ yX6_remember.cls ≠ "java/lang/invoke/VarHandle" ∧ (parseMethodDescriptor yX6_remember.desc).map (fun d => d.parameters.length) = some 1 := by decide +kernel
def rm_X6_recall : Room := { frames := 3, cells := 0, slots := 0, locals := 107 }
theorem hd_X6_recall : yX6_recall.cls = RX6 ∧ yX6_recall.cls ≠ "java/lang/invoke/MethodHandle" ∧ yX6_recall.cls ≠ "java/lang/invoke/VarHandle" ∧ (parseMethodDescriptor yX6_recall.desc).map (fun d => d.parameters.length) = some 1 := by decide +kernel
def rm_X6_forget : Room := { frames := 1, cells := 0, slots := 0, locals := 64 }
theorem hd_X6_forget : yX6_forget.cls = RX6 ∧ yX6_forget.cls ≠ "java/lang/invoke/MethodHandle" ∧ yX6_forget.cls ≠ "java/lang/invoke/VarHandle" ∧ (parseMethodDescriptor yX6_forget.desc).map (fun d => d.parameters.length) = some 0 := by decide +kernel
def rm_X7_knowing : Room := { frames := 2, cells := 0, slots := 0, locals := 85 }
theorem hd_X7_knowing : yX7_knowing.cls = RX7 ∧ yX7_knowing.cls ≠ "java/lang/invoke/MethodHandle" ∧ yX7_knowing.cls ≠ "java/lang/invoke/VarHandle" ∧ (parseMethodDescriptor yX7_knowing.desc).map (fun d => d.parameters.length) = some 1 := by decide +kernel
def rm_X7_spreadOfClocks : Room := { frames := 1, cells := 0, slots := 0, locals := 64 }
theorem hd_X7_spreadOfClocks : yX7_spreadOfClocks.cls = RX7 ∧ yX7_spreadOfClocks.cls ≠ "java/lang/invoke/MethodHandle" ∧ yX7_spreadOfClocks.cls ≠ "java/lang/invoke/VarHandle" ∧ (parseMethodDescriptor yX7_spreadOfClocks.desc).map (fun d => d.parameters.length) = some 0 := by decide +kernel
def rm_X7_draw : Room := { frames := 1, cells := 0, slots := 0, locals := 64 }
theorem hd_X7_draw : yX7_draw.cls = RX7 ∧ yX7_draw.cls ≠ "java/lang/invoke/MethodHandle" ∧ yX7_draw.cls ≠ "java/lang/invoke/VarHandle" ∧ (parseMethodDescriptor yX7_draw.desc).map (fun d => d.parameters.length) = some 0 := by decide +kernel
def rm_X7_note : Room := { frames := 1, cells := 0, slots := 0, locals := 64 }
theorem hd_X7_note : yX7_note.cls = RX7 ∧ yX7_note.cls ≠ "java/lang/invoke/MethodHandle" ∧ yX7_note.cls ≠ "java/lang/invoke/VarHandle" ∧ (parseMethodDescriptor yX7_note.desc).map (fun d => d.parameters.length) = some 3 := by decide +kernel
def rm_X7_rowOf : Room := { frames := 1, cells := 0, slots := 0, locals := 64 }
theorem hd_X7_rowOf : yX7_rowOf.cls = RX7 ∧ yX7_rowOf.cls ≠ "java/lang/invoke/MethodHandle" ∧ yX7_rowOf.cls ≠ "java/lang/invoke/VarHandle" ∧ (parseMethodDescriptor yX7_rowOf.desc).map (fun d => d.parameters.length) = some 2 := by decide +kernel
def rm_X8_isLetter : Room := { frames := 1, cells := 0, slots := 0, locals := 64 }
theorem hd_X8_isLetter : yX8_isLetter.cls = RX8 ∧ yX8_isLetter.cls ≠ "java/lang/invoke/MethodHandle" ∧ yX8_isLetter.cls ≠ "java/lang/invoke/VarHandle" ∧ (parseMethodDescriptor yX8_isLetter.desc).map (fun d => d.parameters.length) = some 1 := by decide +kernel
def rm_X8_isDigit : Room := { frames := 1, cells := 0, slots := 0, locals := 64 }
theorem hd_X8_isDigit : yX8_isDigit.cls = RX8 ∧ yX8_isDigit.cls ≠ "java/lang/invoke/MethodHandle" ∧ yX8_isDigit.cls ≠ "java/lang/invoke/VarHandle" ∧ (parseMethodDescriptor yX8_isDigit.desc).map (fun d => d.parameters.length) = some 1 := by decide +kernel
def rm_X8_wordAt : Room := { frames := 6, cells := 0, slots := 0, locals := 200 }
theorem hd_X8_wordAt : yX8_wordAt.cls = RX8 ∧ yX8_wordAt.cls ≠ "java/lang/invoke/MethodHandle" ∧ yX8_wordAt.cls ≠ "java/lang/invoke/VarHandle" ∧ (parseMethodDescriptor yX8_wordAt.desc).map (fun d => d.parameters.length) = some 3 := by decide +kernel
def rm_X8_numberAt : Room := { frames := 2, cells := 0, slots := 0, locals := 84 }
theorem hd_X8_numberAt : yX8_numberAt.cls = RX8 ∧ yX8_numberAt.cls ≠ "java/lang/invoke/MethodHandle" ∧ yX8_numberAt.cls ≠ "java/lang/invoke/VarHandle" ∧ (parseMethodDescriptor yX8_numberAt.desc).map (fun d => d.parameters.length) = some 3 := by decide +kernel
def rm_X8_put : Room := { frames := 1, cells := 0, slots := 0, locals := 64 }
theorem hd_X8_put : yX8_put.cls = RX8 ∧ yX8_put.cls ≠ "java/lang/invoke/MethodHandle" ∧ yX8_put.cls ≠ "java/lang/invoke/VarHandle" ∧ (parseMethodDescriptor yX8_put.desc).map (fun d => d.parameters.length) = some 2 := by decide +kernel
def rm_X8_load : Room := { frames := 7, cells := 0, slots := 0, locals := 227 }
theorem hd_X8_load : yX8_load.cls = RX8 ∧ yX8_load.cls ≠ "java/lang/invoke/MethodHandle" ∧ yX8_load.cls ≠ "java/lang/invoke/VarHandle" ∧ (parseMethodDescriptor yX8_load.desc).map (fun d => d.parameters.length) = some 2 := by decide +kernel
def rm_X10_look : Room := { frames := 5, cells := 0, slots := 0, locals := 161 }
theorem hd_X10_look : yX10_look.cls = RX10 ∧ yX10_look.cls ≠ "java/lang/invoke/MethodHandle" ∧ yX10_look.cls ≠ "java/lang/invoke/VarHandle" ∧ (parseMethodDescriptor yX10_look.desc).map (fun d => d.parameters.length) = some 1 := by decide +kernel
def rm_X9_sendersOf : Room := { frames := 2, cells := 0, slots := 0, locals := 85 }
theorem hd_X9_sendersOf : yX9_sendersOf.cls = RX9 ∧ yX9_sendersOf.cls ≠ "java/lang/invoke/MethodHandle" ∧ yX9_sendersOf.cls ≠ "java/lang/invoke/VarHandle" ∧ (parseMethodDescriptor yX9_sendersOf.desc).map (fun d => d.parameters.length) = some 3 := by decide +kernel
def rm_X9_callOrWait : Room := { frames := 5, cells := 0, slots := 0, locals := 161 }
theorem hd_X9_callOrWait : yX9_callOrWait.cls = RX9 ∧ yX9_callOrWait.cls ≠ "java/lang/invoke/MethodHandle" ∧ yX9_callOrWait.cls ≠ "java/lang/invoke/VarHandle" ∧ (parseMethodDescriptor yX9_callOrWait.desc).map (fun d => d.parameters.length) = some 1 := by decide +kernel
def rm_X11_keepWithin : Room := { frames := 1, cells := 0, slots := 0, locals := 64 }
theorem hd_X11_keepWithin : yX11_keepWithin.cls = RX11 ∧ yX11_keepWithin.cls ≠ "java/lang/invoke/MethodHandle" ∧ yX11_keepWithin.cls ≠ "java/lang/invoke/VarHandle" ∧ (parseMethodDescriptor yX11_keepWithin.desc).map (fun d => d.parameters.length) = some 2 := by decide +kernel
def rm_X9_joinAll : Room := { frames := 3, cells := 0, slots := 0, locals := 106 }
theorem hd_X9_joinAll : yX9_joinAll.cls = RX9 ∧ yX9_joinAll.cls ≠ "java/lang/invoke/MethodHandle" ∧ yX9_joinAll.cls ≠ "java/lang/invoke/VarHandle" ∧ (parseMethodDescriptor yX9_joinAll.desc).map (fun d => d.parameters.length) = some 2 := by decide +kernel
def rm_X9_judge : Room := { frames := 2, cells := 0, slots := 0, locals := 85 }
theorem hd_X9_judge : yX9_judge.cls = RX9 ∧ yX9_judge.cls ≠ "java/lang/invoke/MethodHandle" ∧ yX9_judge.cls ≠ "java/lang/invoke/VarHandle" ∧ (parseMethodDescriptor yX9_judge.desc).map (fun d => d.parameters.length) = some 3 := by decide +kernel
def rm_X9_nextOf : Room := { frames := 2, cells := 0, slots := 0, locals := 85 }
theorem hd_X9_nextOf : yX9_nextOf.cls = RX9 ∧ yX9_nextOf.cls ≠ "java/lang/invoke/MethodHandle" ∧ yX9_nextOf.cls ≠ "java/lang/invoke/VarHandle" ∧ (parseMethodDescriptor yX9_nextOf.desc).map (fun d => d.parameters.length) = some 2 := by decide +kernel
def rm_X9_freeze : Room := { frames := 2, cells := 0, slots := 0, locals := 88 }
theorem hd_X9_freeze : yX9_freeze.cls = RX9 ∧ yX9_freeze.cls ≠ "java/lang/invoke/MethodHandle" ∧ yX9_freeze.cls ≠ "java/lang/invoke/VarHandle" ∧ (parseMethodDescriptor yX9_freeze.desc).map (fun d => d.parameters.length) = some 3 := by decide +kernel
def rm_X9_acknowledge : Room := { frames := 3, cells := 0, slots := 0, locals := 110 }
theorem hd_X9_acknowledge : yX9_acknowledge.cls = RX9 ∧ yX9_acknowledge.cls ≠ "java/lang/invoke/MethodHandle" ∧ yX9_acknowledge.cls ≠ "java/lang/invoke/VarHandle" ∧ (parseMethodDescriptor yX9_acknowledge.desc).map (fun d => d.parameters.length) = some 2 := by decide +kernel
def rm_X9_outvote : Room := { frames := 3, cells := 0, slots := 0, locals := 110 }
theorem hd_X9_outvote : yX9_outvote.cls = RX9 ∧ yX9_outvote.cls ≠ "java/lang/invoke/MethodHandle" ∧ yX9_outvote.cls ≠ "java/lang/invoke/VarHandle" ∧ (parseMethodDescriptor yX9_outvote.desc).map (fun d => d.parameters.length) = some 2 := by decide +kernel
def rm_X11_sort : Room := { frames := 1, cells := 0, slots := 0, locals := 64 }
theorem hd_X11_sort : yX11_sort.cls = RX11 ∧ yX11_sort.cls ≠ "java/lang/invoke/MethodHandle" ∧ yX11_sort.cls ≠ "java/lang/invoke/VarHandle" ∧ (parseMethodDescriptor yX11_sort.desc).map (fun d => d.parameters.length) = some 2 := by decide +kernel
def rm_X11_midOf : Room := { frames := 2, cells := 0, slots := 0, locals := 89 }
theorem hd_X11_midOf : yX11_midOf.cls = RX11 ∧ yX11_midOf.cls ≠ "java/lang/invoke/MethodHandle" ∧ yX11_midOf.cls ≠ "java/lang/invoke/VarHandle" ∧ (parseMethodDescriptor yX11_midOf.desc).map (fun d => d.parameters.length) = some 2 := by decide +kernel
def rm_X10_middleOf : Room := { frames := 3, cells := 0, slots := 0, locals := 111 }
theorem hd_X10_middleOf : yX10_middleOf.cls = RX10 ∧ yX10_middleOf.cls ≠ "java/lang/invoke/MethodHandle" ∧ yX10_middleOf.cls ≠ "java/lang/invoke/VarHandle" ∧ (parseMethodDescriptor yX10_middleOf.desc).map (fun d => d.parameters.length) = some 3 := by decide +kernel
def rm_X9_correct : Room := { frames := 4, cells := 0, slots := 0, locals := 136 }
theorem hd_X9_correct : yX9_correct.cls = RX9 ∧ yX9_correct.cls ≠ "java/lang/invoke/MethodHandle" ∧ yX9_correct.cls ≠ "java/lang/invoke/VarHandle" ∧ (parseMethodDescriptor yX9_correct.desc).map (fun d => d.parameters.length) = some 3 := by decide +kernel
def rm_X9_runClocks : Room := { frames := 2, cells := 0, slots := 0, locals := 85 }
theorem hd_X9_runClocks : yX9_runClocks.cls = RX9 ∧ yX9_runClocks.cls ≠ "java/lang/invoke/MethodHandle" ∧ yX9_runClocks.cls ≠ "java/lang/invoke/VarHandle" ∧ (parseMethodDescriptor yX9_runClocks.desc).map (fun d => d.parameters.length) = some 1 := by decide +kernel
def rm_X9_play : Room := { frames := 6, cells := 0, slots := 0, locals := 186 }
theorem hd_X9_play : yX9_play.cls = RX9 ∧ yX9_play.cls ≠ "java/lang/invoke/MethodHandle" ∧ yX9_play.cls ≠ "java/lang/invoke/VarHandle" ∧ (parseMethodDescriptor yX9_play.desc).map (fun d => d.parameters.length) = some 2 := by decide +kernel
def rm_X11_putBytes : Room := { frames := 1, cells := 0, slots := 0, locals := 64 }
theorem hd_X11_putBytes : yX11_putBytes.cls = RX11 ∧ yX11_putBytes.cls ≠ "java/lang/invoke/MethodHandle" ∧ yX11_putBytes.cls ≠ "java/lang/invoke/VarHandle" ∧ (parseMethodDescriptor yX11_putBytes.desc).map (fun d => d.parameters.length) = some 1 := by decide +kernel
def rm_X11_feed : Room := { frames := 2, cells := 0, slots := 0, locals := 86 }
theorem hd_X11_feed : yX11_feed.cls = RX11 ∧ yX11_feed.cls ≠ "java/lang/invoke/MethodHandle" ∧ yX11_feed.cls ≠ "java/lang/invoke/VarHandle" ∧ (parseMethodDescriptor yX11_feed.desc).map (fun d => d.parameters.length) = some 5 := by decide +kernel
def rm_X11_end : Room := { frames := 1, cells := 0, slots := 0, locals := 64 }
theorem hd_X11_end : yX11_end.cls = RX11 ∧ yX11_end.cls ≠ "java/lang/invoke/MethodHandle" ∧ yX11_end.cls ≠ "java/lang/invoke/VarHandle" ∧ (parseMethodDescriptor yX11_end.desc).map (fun d => d.parameters.length) = some 1 := by decide +kernel
def rm_X11_useTape : Room := { frames := 1, cells := 0, slots := 0, locals := 64 }
theorem hd_X11_useTape : yX11_useTape.cls = RX11 ∧ yX11_useTape.cls ≠ "java/lang/invoke/MethodHandle" ∧ yX11_useTape.cls ≠ "java/lang/invoke/VarHandle" ∧ (parseMethodDescriptor yX11_useTape.desc).map (fun d => d.parameters.length) = some 0 := by decide +kernel
def rm_X11_cluster : Room := { frames := 8, cells := 1, slots := 6, locals := 254 }
theorem hd_X11_cluster : yX11_cluster.cls = RX11 ∧ yX11_cluster.cls ≠ "java/lang/invoke/MethodHandle" ∧ yX11_cluster.cls ≠ "java/lang/invoke/VarHandle" ∧ (parseMethodDescriptor yX11_cluster.desc).map (fun d => d.parameters.length) = some 0 := by decide +kernel
def rm_X11_fault : Room := { frames := 1, cells := 0, slots := 0, locals := 64 }
theorem hd_X11_fault : yX11_fault.cls = RX11 ∧ yX11_fault.cls ≠ "java/lang/invoke/MethodHandle" ∧ yX11_fault.cls ≠ "java/lang/invoke/VarHandle" ∧ (parseMethodDescriptor yX11_fault.desc).map (fun d => d.parameters.length) = some 0 := by decide +kernel
def rm_X11_isNode : Room := { frames := 1, cells := 0, slots := 0, locals := 64 }
theorem hd_X11_isNode : yX11_isNode.cls = RX11 ∧ yX11_isNode.cls ≠ "java/lang/invoke/MethodHandle" ∧ yX11_isNode.cls ≠ "java/lang/invoke/VarHandle" ∧ (parseMethodDescriptor yX11_isNode.desc).map (fun d => d.parameters.length) = some 1 := by decide +kernel
def rm_X11_node : Room := { frames := 8, cells := 1, slots := 6, locals := 186 }
theorem hd_X11_node : yX11_node.cls = RX11 ∧ yX11_node.cls ≠ "java/lang/invoke/MethodHandle" ∧ yX11_node.cls ≠ "java/lang/invoke/VarHandle" ∧ (parseMethodDescriptor yX11_node.desc).map (fun d => d.parameters.length) = some 2 := by decide +kernel
def rm_X11_shift : Room := { frames := 8, cells := 1, slots := 6, locals := 186 }
theorem hd_X11_shift : yX11_shift.cls = RX11 ∧ yX11_shift.cls ≠ "java/lang/invoke/MethodHandle" ∧ yX11_shift.cls ≠ "java/lang/invoke/VarHandle" ∧ (parseMethodDescriptor yX11_shift.desc).map (fun d => d.parameters.length) = some 2 := by decide +kernel
def rm_X11_hears : Room := { frames := 8, cells := 1, slots := 6, locals := 186 }
theorem hd_X11_hears : yX11_hears.cls = RX11 ∧ yX11_hears.cls ≠ "java/lang/invoke/MethodHandle" ∧ yX11_hears.cls ≠ "java/lang/invoke/VarHandle" ∧ (parseMethodDescriptor yX11_hears.desc).map (fun d => d.parameters.length) = some 2 := by decide +kernel
def rm_X11_rounds : Room := { frames := 8, cells := 1, slots := 6, locals := 211 }
theorem hd_X11_rounds : yX11_rounds.cls = RX11 ∧ yX11_rounds.cls ≠ "java/lang/invoke/MethodHandle" ∧ yX11_rounds.cls ≠ "java/lang/invoke/VarHandle" ∧ (parseMethodDescriptor yX11_rounds.desc).map (fun d => d.parameters.length) = some 1 := by decide +kernel
def rm_X11_add : Room := { frames := 8, cells := 1, slots := 6, locals := 128 }
theorem hd_X11_add : yX11_add.cls = RX11 ∧ yX11_add.cls ≠ "java/lang/invoke/MethodHandle" ∧ yX11_add.cls ≠ "java/lang/invoke/VarHandle" ∧ (parseMethodDescriptor yX11_add.desc).map (fun d => d.parameters.length) = some 1 := by decide +kernel
def rm_X11_power : Room := { frames := 8, cells := 1, slots := 6, locals := 161 }
theorem hd_X11_power : yX11_power.cls = RX11 ∧ yX11_power.cls ≠ "java/lang/invoke/MethodHandle" ∧ yX11_power.cls ≠ "java/lang/invoke/VarHandle" ∧ (parseMethodDescriptor yX11_power.desc).map (fun d => d.parameters.length) = some 2 := by decide +kernel
def rm_X11_spoil : Room := { frames := 8, cells := 1, slots := 6, locals := 128 }
theorem hd_X11_spoil : yX11_spoil.cls = RX11 ∧ yX11_spoil.cls ≠ "java/lang/invoke/MethodHandle" ∧ yX11_spoil.cls ≠ "java/lang/invoke/VarHandle" ∧ (parseMethodDescriptor yX11_spoil.desc).map (fun d => d.parameters.length) = some 3 := by decide +kernel
def rm_X11_set : Room := { frames := 8, cells := 1, slots := 6, locals := 128 }
theorem hd_X11_set : yX11_set.cls = RX11 ∧ yX11_set.cls ≠ "java/lang/invoke/MethodHandle" ∧ yX11_set.cls ≠ "java/lang/invoke/VarHandle" ∧ (parseMethodDescriptor yX11_set.desc).map (fun d => d.parameters.length) = some 2 := by decide +kernel
def rm_X11_tune : Room := { frames := 8, cells := 1, slots := 6, locals := 128 }
theorem hd_X11_tune : yX11_tune.cls = RX11 ∧ yX11_tune.cls ≠ "java/lang/invoke/MethodHandle" ∧ yX11_tune.cls ≠ "java/lang/invoke/VarHandle" ∧ (parseMethodDescriptor yX11_tune.desc).map (fun d => d.parameters.length) = some 2 := by decide +kernel
def rm_X11_mid : Room := { frames := 8, cells := 1, slots := 6, locals := 128 }
theorem hd_X11_mid : yX11_mid.cls = RX11 ∧ yX11_mid.cls ≠ "java/lang/invoke/MethodHandle" ∧ yX11_mid.cls ≠ "java/lang/invoke/VarHandle" ∧ (parseMethodDescriptor yX11_mid.desc).map (fun d => d.parameters.length) = some 0 := by decide +kernel
def rm_X11_spread : Room := { frames := 2, cells := 0, slots := 0, locals := 89 }
theorem hd_X11_spread : yX11_spread.cls = RX11 ∧ yX11_spread.cls ≠ "java/lang/invoke/MethodHandle" ∧ yX11_spread.cls ≠ "java/lang/invoke/VarHandle" ∧ (parseMethodDescriptor yX11_spread.desc).map (fun d => d.parameters.length) = some 0 := by decide +kernel
def rm_X11_agreed : Room := { frames := 1, cells := 0, slots := 0, locals := 64 }
theorem hd_X11_agreed : yX11_agreed.cls = RX11 ∧ yX11_agreed.cls ≠ "java/lang/invoke/MethodHandle" ∧ yX11_agreed.cls ≠ "java/lang/invoke/VarHandle" ∧ (parseMethodDescriptor yX11_agreed.desc).map (fun d => d.parameters.length) = some 0 := by decide +kernel
def rm_X11_cliques : Room := { frames := 6, cells := 0, slots := 0, locals := 186 }
theorem hd_X11_cliques : yX11_cliques.cls = RX11 ∧ yX11_cliques.cls ≠ "java/lang/invoke/MethodHandle" ∧ yX11_cliques.cls ≠ "java/lang/invoke/VarHandle" ∧ (parseMethodDescriptor yX11_cliques.desc).map (fun d => d.parameters.length) = some 0 := by decide +kernel
def rm_X11_settles : Room := { frames := 8, cells := 1, slots := 6, locals := 211 }
theorem hd_X11_settles : yX11_settles.cls = RX11 ∧ yX11_settles.cls ≠ "java/lang/invoke/MethodHandle" ∧ yX11_settles.cls ≠ "java/lang/invoke/VarHandle" ∧ (parseMethodDescriptor yX11_settles.desc).map (fun d => d.parameters.length) = some 1 := by decide +kernel
def rm_X11_isAhead : Room := { frames := 1, cells := 0, slots := 0, locals := 64 }
theorem hd_X11_isAhead : yX11_isAhead.cls = RX11 ∧ yX11_isAhead.cls ≠ "java/lang/invoke/MethodHandle" ∧ yX11_isAhead.cls ≠ "java/lang/invoke/VarHandle" ∧ (parseMethodDescriptor yX11_isAhead.desc).map (fun d => d.parameters.length) = some 1 := by decide +kernel
def rm_X11_widest : Room := { frames := 8, cells := 1, slots := 6, locals := 211 }
theorem hd_X11_widest : yX11_widest.cls = RX11 ∧ yX11_widest.cls ≠ "java/lang/invoke/MethodHandle" ∧ yX11_widest.cls ≠ "java/lang/invoke/VarHandle" ∧ (parseMethodDescriptor yX11_widest.desc).map (fun d => d.parameters.length) = some 1 := by decide +kernel
def rm_X11_leads : Room := { frames := 7, cells := 0, slots := 0, locals := 211 }
theorem hd_X11_leads : yX11_leads.cls = RX11 ∧ yX11_leads.cls ≠ "java/lang/invoke/MethodHandle" ∧ yX11_leads.cls ≠ "java/lang/invoke/VarHandle" ∧ (parseMethodDescriptor yX11_leads.desc).map (fun d => d.parameters.length) = some 1 := by decide +kernel
def rm_X11_narrow : Room := { frames := 6, cells := 0, slots := 0, locals := 186 }
theorem hd_X11_narrow : yX11_narrow.cls = RX11 ∧ yX11_narrow.cls ≠ "java/lang/invoke/MethodHandle" ∧ yX11_narrow.cls ≠ "java/lang/invoke/VarHandle" ∧ (parseMethodDescriptor yX11_narrow.desc).map (fun d => d.parameters.length) = some 0 := by decide +kernel
def rm_X11_tight : Room := { frames := 6, cells := 0, slots := 0, locals := 186 }
theorem hd_X11_tight : yX11_tight.cls = RX11 ∧ yX11_tight.cls ≠ "java/lang/invoke/MethodHandle" ∧ yX11_tight.cls ≠ "java/lang/invoke/VarHandle" ∧ (parseMethodDescriptor yX11_tight.desc).map (fun d => d.parameters.length) = some 0 := by decide +kernel
def rm_X11_spare : Room := { frames := 6, cells := 0, slots := 0, locals := 186 }
theorem hd_X11_spare : yX11_spare.cls = RX11 ∧ yX11_spare.cls ≠ "java/lang/invoke/MethodHandle" ∧ yX11_spare.cls ≠ "java/lang/invoke/VarHandle" ∧ (parseMethodDescriptor yX11_spare.desc).map (fun d => d.parameters.length) = some 0 := by decide +kernel
def rm_X11_order : Room := { frames := 3, cells := 0, slots := 0, locals := 114 }
theorem hd_X11_order : yX11_order.cls = RX11 ∧ yX11_order.cls ≠ "java/lang/invoke/MethodHandle" ∧ yX11_order.cls ≠ "java/lang/invoke/VarHandle" ∧ (parseMethodDescriptor yX11_order.desc).map (fun d => d.parameters.length) = some 1 := by decide +kernel
def rm_X11_courseRows : Room := { frames := 2, cells := 0, slots := 0, locals := 85 }
theorem hd_X11_courseRows : yX11_courseRows.cls = RX11 ∧ yX11_courseRows.cls ≠ "java/lang/invoke/MethodHandle" ∧ yX11_courseRows.cls ≠ "java/lang/invoke/VarHandle" ∧ (parseMethodDescriptor yX11_courseRows.desc).map (fun d => d.parameters.length) = some 0 := by decide +kernel
def rm_X11_read : Room := { frames := 8, cells := 1, slots := 6, locals := 128 }
theorem hd_X11_read : yX11_read.cls = RX11 ∧ yX11_read.cls ≠ "java/lang/invoke/MethodHandle" ∧ yX11_read.cls ≠ "java/lang/invoke/VarHandle" ∧ (parseMethodDescriptor yX11_read.desc).map (fun d => d.parameters.length) = some 1 := by decide +kernel
def rm_X11_when : Room := { frames := 8, cells := 1, slots := 6, locals := 133 }
theorem hd_X11_when : yX11_when.cls = RX11 ∧ yX11_when.cls ≠ "java/lang/invoke/MethodHandle" ∧ yX11_when.cls ≠ "java/lang/invoke/VarHandle" ∧ (parseMethodDescriptor yX11_when.desc).map (fun d => d.parameters.length) = some 0 := by decide +kernel
def rm_X11_judgementRows : Room := { frames := 2, cells := 0, slots := 0, locals := 85 }
theorem hd_X11_judgementRows : yX11_judgementRows.cls = RX11 ∧ yX11_judgementRows.cls ≠ "java/lang/invoke/MethodHandle" ∧ yX11_judgementRows.cls ≠ "java/lang/invoke/VarHandle" ∧ (parseMethodDescriptor yX11_judgementRows.desc).map (fun d => d.parameters.length) = some 0 := by decide +kernel
def rm_X11_blame : Room := { frames := 8, cells := 1, slots := 6, locals := 128 }
theorem hd_X11_blame : yX11_blame.cls = RX11 ∧ yX11_blame.cls ≠ "java/lang/invoke/MethodHandle" ∧ yX11_blame.cls ≠ "java/lang/invoke/VarHandle" ∧ (parseMethodDescriptor yX11_blame.desc).map (fun d => d.parameters.length) = some 0 := by decide +kernel
def rm_X11_guilty : Room := { frames := 8, cells := 1, slots := 6, locals := 128 }
theorem hd_X11_guilty : yX11_guilty.cls = RX11 ∧ yX11_guilty.cls ≠ "java/lang/invoke/MethodHandle" ∧ yX11_guilty.cls ≠ "java/lang/invoke/VarHandle" ∧ (parseMethodDescriptor yX11_guilty.desc).map (fun d => d.parameters.length) = some 0 := by decide +kernel
def rm_X11_probe : Room := { frames := 8, cells := 1, slots := 6, locals := 138 }
theorem hd_X11_probe : yX11_probe.cls = RX11 ∧ yX11_probe.cls ≠ "java/lang/invoke/MethodHandle" ∧ yX11_probe.cls ≠ "java/lang/invoke/VarHandle" ∧ (parseMethodDescriptor yX11_probe.desc).map (fun d => d.parameters.length) = some 0 := by decide +kernel
def rm_X11_pairs : Room := { frames := 8, cells := 1, slots := 6, locals := 186 }
theorem hd_X11_pairs : yX11_pairs.cls = RX11 ∧ yX11_pairs.cls ≠ "java/lang/invoke/MethodHandle" ∧ yX11_pairs.cls ≠ "java/lang/invoke/VarHandle" ∧ (parseMethodDescriptor yX11_pairs.desc).map (fun d => d.parameters.length) = some 1 := by decide +kernel
def rm_X11_nextOfShare : Room := { frames := 1, cells := 0, slots := 0, locals := 64 }
theorem hd_X11_nextOfShare : yX11_nextOfShare.cls = RX11 ∧ yX11_nextOfShare.cls ≠ "java/lang/invoke/MethodHandle" ∧ yX11_nextOfShare.cls ≠ "java/lang/invoke/VarHandle" ∧ (parseMethodDescriptor yX11_nextOfShare.desc).map (fun d => d.parameters.length) = some 0 := by decide +kernel
def rm_X11_share : Room := { frames := 8, cells := 1, slots := 6, locals := 128 }
theorem hd_X11_share : yX11_share.cls = RX11 ∧ yX11_share.cls ≠ "java/lang/invoke/MethodHandle" ∧ yX11_share.cls ≠ "java/lang/invoke/VarHandle" ∧ (parseMethodDescriptor yX11_share.desc).map (fun d => d.parameters.length) = some 2 := by decide +kernel
def rm_X11_guardianHas : Room := { frames := 2, cells := 0, slots := 0, locals := 85 }
theorem hd_X11_guardianHas : yX11_guardianHas.cls = RX11 ∧ yX11_guardianHas.cls ≠ "java/lang/invoke/MethodHandle" ∧ yX11_guardianHas.cls ≠ "java/lang/invoke/VarHandle" ∧ (parseMethodDescriptor yX11_guardianHas.desc).map (fun d => d.parameters.length) = some 3 := by decide +kernel
def rm_X11_babblerHas : Room := { frames := 1, cells := 0, slots := 0, locals := 64 }
theorem hd_X11_babblerHas : yX11_babblerHas.cls = RX11 ∧ yX11_babblerHas.cls ≠ "java/lang/invoke/MethodHandle" ∧ yX11_babblerHas.cls ≠ "java/lang/invoke/VarHandle" ∧ (parseMethodDescriptor yX11_babblerHas.desc).map (fun d => d.parameters.length) = some 2 := by decide +kernel
def rm_X11_rests : Room := { frames := 8, cells := 1, slots := 6, locals := 128 }
theorem hd_X11_rests : yX11_rests.cls = RX11 ∧ yX11_rests.cls ≠ "java/lang/invoke/MethodHandle" ∧ yX11_rests.cls ≠ "java/lang/invoke/VarHandle" ∧ (parseMethodDescriptor yX11_rests.desc).map (fun d => d.parameters.length) = some 1 := by decide +kernel
def rm_X11_choose : Room := { frames := 1, cells := 0, slots := 0, locals := 64 }
theorem hd_X11_choose : yX11_choose.cls = RX11 ∧ yX11_choose.cls ≠ "java/lang/invoke/MethodHandle" ∧ yX11_choose.cls ≠ "java/lang/invoke/VarHandle" ∧ (parseMethodDescriptor yX11_choose.desc).map (fun d => d.parameters.length) = some 2 := by decide +kernel
def rm_X11_odds : Room := { frames := 8, cells := 1, slots := 6, locals := 186 }
theorem hd_X11_odds : yX11_odds.cls = RX11 ∧ yX11_odds.cls ≠ "java/lang/invoke/MethodHandle" ∧ yX11_odds.cls ≠ "java/lang/invoke/VarHandle" ∧ (parseMethodDescriptor yX11_odds.desc).map (fun d => d.parameters.length) = some 3 := by decide +kernel
def rm_X11_most : Room := { frames := 8, cells := 1, slots := 6, locals := 128 }
theorem hd_X11_most : yX11_most.cls = RX11 ∧ yX11_most.cls ≠ "java/lang/invoke/MethodHandle" ∧ yX11_most.cls ≠ "java/lang/invoke/VarHandle" ∧ (parseMethodDescriptor yX11_most.desc).map (fun d => d.parameters.length) = some 1 := by decide +kernel
def rm_X11_byState : Room := { frames := 8, cells := 1, slots := 6, locals := 128 }
theorem hd_X11_byState : yX11_byState.cls = RX11 ∧ yX11_byState.cls ≠ "java/lang/invoke/MethodHandle" ∧ yX11_byState.cls ≠ "java/lang/invoke/VarHandle" ∧ (parseMethodDescriptor yX11_byState.desc).map (fun d => d.parameters.length) = some 1 := by decide +kernel
def rm_X11_twins : Room := { frames := 1, cells := 0, slots := 0, locals := 64 }
theorem hd_X11_twins : yX11_twins.cls = RX11 ∧ yX11_twins.cls ≠ "java/lang/invoke/MethodHandle" ∧ yX11_twins.cls ≠ "java/lang/invoke/VarHandle" ∧ (parseMethodDescriptor yX11_twins.desc).map (fun d => d.parameters.length) = some 0 := by decide +kernel
def rm_X11_playDraft : Room := { frames := 7, cells := 0, slots := 0, locals := 211 }
theorem hd_X11_playDraft : yX11_playDraft.cls = RX11 ∧ yX11_playDraft.cls ≠ "java/lang/invoke/MethodHandle" ∧ yX11_playDraft.cls ≠ "java/lang/invoke/VarHandle" ∧ (parseMethodDescriptor yX11_playDraft.desc).map (fun d => d.parameters.length) = some 2 := by decide +kernel
def rm_X11_ahead : Room := { frames := 8, cells := 1, slots := 6, locals := 234 }
theorem hd_X11_ahead : yX11_ahead.cls = RX11 ∧ yX11_ahead.cls ≠ "java/lang/invoke/MethodHandle" ∧ yX11_ahead.cls ≠ "java/lang/invoke/VarHandle" ∧ (parseMethodDescriptor yX11_ahead.desc).map (fun d => d.parameters.length) = some 3 := by decide +kernel
def rm_X11_trial : Room := { frames := 8, cells := 1, slots := 6, locals := 234 }
theorem hd_X11_trial : yX11_trial.cls = RX11 ∧ yX11_trial.cls ≠ "java/lang/invoke/MethodHandle" ∧ yX11_trial.cls ≠ "java/lang/invoke/VarHandle" ∧ (parseMethodDescriptor yX11_trial.desc).map (fun d => d.parameters.length) = some 2 := by decide +kernel
def rm_X11_span : Room := { frames := 8, cells := 1, slots := 6, locals := 234 }
theorem hd_X11_span : yX11_span.cls = RX11 ∧ yX11_span.cls ≠ "java/lang/invoke/MethodHandle" ∧ yX11_span.cls ≠ "java/lang/invoke/VarHandle" ∧ (parseMethodDescriptor yX11_span.desc).map (fun d => d.parameters.length) = some 2 := by decide +kernel
def rm_X11_led : Room := { frames := 8, cells := 1, slots := 6, locals := 128 }
theorem hd_X11_led : yX11_led.cls = RX11 ∧ yX11_led.cls ≠ "java/lang/invoke/MethodHandle" ∧ yX11_led.cls ≠ "java/lang/invoke/VarHandle" ∧ (parseMethodDescriptor yX11_led.desc).map (fun d => d.parameters.length) = some 2 := by decide +kernel
def rm_X11_log : Room := { frames := 8, cells := 1, slots := 6, locals := 128 }
theorem hd_X11_log : yX11_log.cls = RX11 ∧ yX11_log.cls ≠ "java/lang/invoke/MethodHandle" ∧ yX11_log.cls ≠ "java/lang/invoke/VarHandle" ∧ (parseMethodDescriptor yX11_log.desc).map (fun d => d.parameters.length) = some 2 := by decide +kernel
def rm_X11_seed : Room := { frames := 1, cells := 0, slots := 0, locals := 64 }
theorem hd_X11_seed : yX11_seed.cls = RX11 ∧ yX11_seed.cls ≠ "java/lang/invoke/MethodHandle" ∧ yX11_seed.cls ≠ "java/lang/invoke/VarHandle" ∧ (parseMethodDescriptor yX11_seed.desc).map (fun d => d.parameters.length) = some 1 := by decide +kernel
def rm_X11_undo : Room := { frames := 4, cells := 0, slots := 0, locals := 128 }
theorem hd_X11_undo : yX11_undo.cls = RX11 ∧ yX11_undo.cls ≠ "java/lang/invoke/MethodHandle" ∧ yX11_undo.cls ≠ "java/lang/invoke/VarHandle" ∧ (parseMethodDescriptor yX11_undo.desc).map (fun d => d.parameters.length) = some 0 := by decide +kernel
def rm_X11_image : Room := { frames := 3, cells := 0, slots := 0, locals := 107 }
theorem hd_X11_image : yX11_image.cls = RX11 ∧ yX11_image.cls ≠ "java/lang/invoke/MethodHandle" ∧ yX11_image.cls ≠ "java/lang/invoke/VarHandle" ∧ (parseMethodDescriptor yX11_image.desc).map (fun d => d.parameters.length) = some 0 := by decide +kernel
def rm_X11_back : Room := { frames := 3, cells := 0, slots := 0, locals := 107 }
theorem hd_X11_back : yX11_back.cls = RX11 ∧ yX11_back.cls ≠ "java/lang/invoke/MethodHandle" ∧ yX11_back.cls ≠ "java/lang/invoke/VarHandle" ∧ (parseMethodDescriptor yX11_back.desc).map (fun d => d.parameters.length) = some 0 := by decide +kernel
def rm_X11_count : Room := { frames := 3, cells := 0, slots := 0, locals := 107 }
theorem hd_X11_count : yX11_count.cls = RX11 ∧ yX11_count.cls ≠ "java/lang/invoke/MethodHandle" ∧ yX11_count.cls ≠ "java/lang/invoke/VarHandle" ∧ (parseMethodDescriptor yX11_count.desc).map (fun d => d.parameters.length) = some 1 := by decide +kernel
def rm_X12_thrown : Room := { frames := 1, cells := 0, slots := 0, locals := 64 }
theorem hd_X12_thrown : yX12_thrown.cls = RX12 ∧ yX12_thrown.cls ≠ "java/lang/invoke/MethodHandle" ∧ yX12_thrown.cls ≠ "java/lang/invoke/VarHandle" ∧ (parseMethodDescriptor yX12_thrown.desc).map (fun d => d.parameters.length) = some 0 := by decide +kernel
def rm_X12_isIn : Room := { frames := 1, cells := 0, slots := 0, locals := 64 }
theorem hd_X12_isIn : yX12_isIn.cls = RX12 ∧ yX12_isIn.cls ≠ "java/lang/invoke/MethodHandle" ∧ yX12_isIn.cls ≠ "java/lang/invoke/VarHandle" ∧ (parseMethodDescriptor yX12_isIn.desc).map (fun d => d.parameters.length) = some 3 := by decide +kernel
def rm_X12_lesser : Room := { frames := 1, cells := 0, slots := 0, locals := 64 }
theorem hd_X12_lesser : yX12_lesser.cls = RX12 ∧ yX12_lesser.cls ≠ "java/lang/invoke/MethodHandle" ∧ yX12_lesser.cls ≠ "java/lang/invoke/VarHandle" ∧ (parseMethodDescriptor yX12_lesser.desc).map (fun d => d.parameters.length) = some 2 := by decide +kernel
def rm_X12_greater : Room := { frames := 1, cells := 0, slots := 0, locals := 64 }
theorem hd_X12_greater : yX12_greater.cls = RX12 ∧ yX12_greater.cls ≠ "java/lang/invoke/MethodHandle" ∧ yX12_greater.cls ≠ "java/lang/invoke/VarHandle" ∧ (parseMethodDescriptor yX12_greater.desc).map (fun d => d.parameters.length) = some 2 := by decide +kernel
def rm_X12_isOf : Room := { frames := 1, cells := 0, slots := 0, locals := 64 }
theorem hd_X12_isOf : yX12_isOf.cls = RX12 ∧ yX12_isOf.cls ≠ "java/lang/invoke/MethodHandle" ∧ yX12_isOf.cls ≠ "java/lang/invoke/VarHandle" ∧ (parseMethodDescriptor yX12_isOf.desc).map (fun d => d.parameters.length) = some 2 := by decide +kernel
def rm_X12_bits : Room := { frames := 1, cells := 0, slots := 0, locals := 64 }
theorem hd_X12_bits : yX12_bits.cls = RX12 ∧ yX12_bits.cls ≠ "java/lang/invoke/MethodHandle" ∧ yX12_bits.cls ≠ "java/lang/invoke/VarHandle" ∧ (parseMethodDescriptor yX12_bits.desc).map (fun d => d.parameters.length) = some 1 := by decide +kernel
def rm_X12_of : Room := { frames := 1, cells := 0, slots := 0, locals := 64 }
theorem hd_X12_of : yX12_of.cls = RX12 ∧ yX12_of.cls ≠ "java/lang/invoke/MethodHandle" ∧ yX12_of.cls ≠ "java/lang/invoke/VarHandle" ∧ (parseMethodDescriptor yX12_of.desc).map (fun d => d.parameters.length) = some 2 := by decide +kernel
def rm_X12_lays : Room := { frames := 1, cells := 0, slots := 0, locals := 64 }
theorem hd_X12_lays : yX12_lays.cls = RX12 ∧ yX12_lays.cls ≠ "java/lang/invoke/MethodHandle" ∧ yX12_lays.cls ≠ "java/lang/invoke/VarHandle" ∧ (parseMethodDescriptor yX12_lays.desc).map (fun d => d.parameters.length) = some 3 := by decide +kernel
def rm_X12_isNode : Room := { frames := 2, cells := 0, slots := 0, locals := 86 }
theorem hd_X12_isNode : yX12_isNode.cls = RX12 ∧ yX12_isNode.cls ≠ "java/lang/invoke/MethodHandle" ∧ yX12_isNode.cls ≠ "java/lang/invoke/VarHandle" ∧ (parseMethodDescriptor yX12_isNode.desc).map (fun d => d.parameters.length) = some 1 := by decide +kernel
def rm_X12_isActive : Room := { frames := 2, cells := 0, slots := 0, locals := 86 }
theorem hd_X12_isActive : yX12_isActive.cls = RX12 ∧ yX12_isActive.cls ≠ "java/lang/invoke/MethodHandle" ∧ yX12_isActive.cls ≠ "java/lang/invoke/VarHandle" ∧ (parseMethodDescriptor yX12_isActive.desc).map (fun d => d.parameters.length) = some 1 := by decide +kernel
def rm_X12_held : Room := { frames := 2, cells := 0, slots := 0, locals := 85 }
theorem hd_X12_held : yX12_held.cls = RX12 ∧ yX12_held.cls ≠ "java/lang/invoke/MethodHandle" ∧ yX12_held.cls ≠ "java/lang/invoke/VarHandle" ∧ (parseMethodDescriptor yX12_held.desc).map (fun d => d.parameters.length) = some 2 := by decide +kernel
def rm_X12_sign : Room := { frames := 1, cells := 0, slots := 0, locals := 64 }
theorem hd_X12_sign : yX12_sign.cls = RX12 ∧ yX12_sign.cls ≠ "java/lang/invoke/MethodHandle" ∧ yX12_sign.cls ≠ "java/lang/invoke/VarHandle" ∧ (parseMethodDescriptor yX12_sign.desc).map (fun d => d.parameters.length) = some 1 := by decide +kernel
def rm_X12_inState : Room := { frames := 2, cells := 0, slots := 0, locals := 86 }
theorem hd_X12_inState : yX12_inState.cls = RX12 ∧ yX12_inState.cls ≠ "java/lang/invoke/MethodHandle" ∧ yX12_inState.cls ≠ "java/lang/invoke/VarHandle" ∧ (parseMethodDescriptor yX12_inState.desc).map (fun d => d.parameters.length) = some 1 := by decide +kernel
def rm_X12_feed : Room := { frames := 1, cells := 0, slots := 0, locals := 64 }
theorem hd_X12_feed : yX12_feed.cls = RX12 ∧ yX12_feed.cls ≠ "java/lang/invoke/MethodHandle" ∧ yX12_feed.cls ≠ "java/lang/invoke/VarHandle" ∧ (parseMethodDescriptor yX12_feed.desc).map (fun d => d.parameters.length) = some 5 := by decide +kernel
def rm_X12_end : Room := { frames := 2, cells := 0, slots := 0, locals := 86 }
theorem hd_X12_end : yX12_end.cls = RX12 ∧ yX12_end.cls ≠ "java/lang/invoke/MethodHandle" ∧ yX12_end.cls ≠ "java/lang/invoke/VarHandle" ∧ (parseMethodDescriptor yX12_end.desc).map (fun d => d.parameters.length) = some 1 := by decide +kernel
def rm_X12_letter : Room := { frames := 1, cells := 0, slots := 0, locals := 64 }
theorem hd_X12_letter : yX12_letter.cls = RX12 ∧ yX12_letter.cls ≠ "java/lang/invoke/MethodHandle" ∧ yX12_letter.cls ≠ "java/lang/invoke/VarHandle" ∧ (parseMethodDescriptor yX12_letter.desc).map (fun d => d.parameters.length) = some 1 := by decide +kernel
def rm_X12_skip : Room := { frames := 2, cells := 0, slots := 0, locals := 85 }
theorem hd_X12_skip : yX12_skip.cls = RX12 ∧ yX12_skip.cls ≠ "java/lang/invoke/MethodHandle" ∧ yX12_skip.cls ≠ "java/lang/invoke/VarHandle" ∧ (parseMethodDescriptor yX12_skip.desc).map (fun d => d.parameters.length) = some 0 := by decide +kernel
def rm_X12_isSign : Room := { frames := 3, cells := 0, slots := 0, locals := 105 }
theorem hd_X12_isSign : yX12_isSign.cls = RX12 ∧ yX12_isSign.cls ≠ "java/lang/invoke/MethodHandle" ∧ yX12_isSign.cls ≠ "java/lang/invoke/VarHandle" ∧ (parseMethodDescriptor yX12_isSign.desc).map (fun d => d.parameters.length) = some 1 := by decide +kernel
def rm_X12_has : Room := { frames := 6, cells := 0, slots := 0, locals := 200 }
theorem hd_X12_has : yX12_has.cls = RX12 ∧ yX12_has.cls ≠ "java/lang/invoke/MethodHandle" ∧ yX12_has.cls ≠ "java/lang/invoke/VarHandle" ∧ (parseMethodDescriptor yX12_has.desc).map (fun d => d.parameters.length) = some 1 := by decide +kernel
def rm_X12_wrong : Room := { frames := 1, cells := 0, slots := 0, locals := 64 }
theorem hd_X12_wrong : yX12_wrong.cls = RX12 ∧ yX12_wrong.cls ≠ "java/lang/invoke/MethodHandle" ∧ yX12_wrong.cls ≠ "java/lang/invoke/VarHandle" ∧ (parseMethodDescriptor yX12_wrong.desc).map (fun d => d.parameters.length) = some 1 := by decide +kernel
def rm_X12_here : Room := { frames := 3, cells := 0, slots := 0, locals := 105 }
theorem hd_X12_here : yX12_here.cls = RX12 ∧ yX12_here.cls ≠ "java/lang/invoke/MethodHandle" ∧ yX12_here.cls ≠ "java/lang/invoke/VarHandle" ∧ (parseMethodDescriptor yX12_here.desc).map (fun d => d.parameters.length) = some 0 := by decide +kernel
def rm_X12_figures : Room := { frames := 4, cells := 0, slots := 0, locals := 125 }
theorem hd_X12_figures : yX12_figures.cls = RX12 ∧ yX12_figures.cls ≠ "java/lang/invoke/MethodHandle" ∧ yX12_figures.cls ≠ "java/lang/invoke/VarHandle" ∧ (parseMethodDescriptor yX12_figures.desc).map (fun d => d.parameters.length) = some 2 := by decide +kernel
def rm_X12_signed : Room := { frames := 7, cells := 0, slots := 0, locals := 223 }
theorem hd_X12_signed : yX12_signed.cls = RX12 ∧ yX12_signed.cls ≠ "java/lang/invoke/MethodHandle" ∧ yX12_signed.cls ≠ "java/lang/invoke/VarHandle" ∧ (parseMethodDescriptor yX12_signed.desc).map (fun d => d.parameters.length) = some 3 := by decide +kernel
def rm_X12_joins : Room := { frames := 2, cells := 0, slots := 0, locals := 87 }
theorem hd_X12_joins : yX12_joins.cls = RX12 ∧ yX12_joins.cls ≠ "java/lang/invoke/MethodHandle" ∧ yX12_joins.cls ≠ "java/lang/invoke/VarHandle" ∧ (parseMethodDescriptor yX12_joins.desc).map (fun d => d.parameters.length) = some 1 := by decide +kernel
def rm_X12_nodeLine : Room := { frames := 8, cells := 0, slots := 0, locals := 246 }
theorem hd_X12_nodeLine : yX12_nodeLine.cls = RX12 ∧ yX12_nodeLine.cls ≠ "java/lang/invoke/MethodHandle" ∧ yX12_nodeLine.cls ≠ "java/lang/invoke/VarHandle" ∧ (parseMethodDescriptor yX12_nodeLine.desc).map (fun d => d.parameters.length) = some 1 := by decide +kernel
def rm_X12_tells : Room := { frames := 5, cells := 0, slots := 0, locals := 149 }
theorem hd_X12_tells : yX12_tells.cls = RX12 ∧ yX12_tells.cls ≠ "java/lang/invoke/MethodHandle" ∧ yX12_tells.cls ≠ "java/lang/invoke/VarHandle" ∧ (parseMethodDescriptor yX12_tells.desc).map (fun d => d.parameters.length) = some 3 := by decide +kernel
def rm_X12_clusterLine : Room := { frames := 9, cells := 0, slots := 0, locals := 274 }
theorem hd_X12_clusterLine : yX12_clusterLine.cls = RX12 ∧ yX12_clusterLine.cls ≠ "java/lang/invoke/MethodHandle" ∧ yX12_clusterLine.cls ≠ "java/lang/invoke/VarHandle" ∧ (parseMethodDescriptor yX12_clusterLine.desc).map (fun d => d.parameters.length) = some 0 := by decide +kernel
def rm_X12_begins : Room := { frames := 1, cells := 0, slots := 0, locals := 64 }
theorem hd_X12_begins : yX12_begins.cls = RX12 ∧ yX12_begins.cls ≠ "java/lang/invoke/MethodHandle" ∧ yX12_begins.cls ≠ "java/lang/invoke/VarHandle" ∧ (parseMethodDescriptor yX12_begins.desc).map (fun d => d.parameters.length) = some 0 := by decide +kernel
def rm_X12_part : Room := { frames := 7, cells := 0, slots := 0, locals := 223 }
theorem hd_X12_part : yX12_part.cls = RX12 ∧ yX12_part.cls ≠ "java/lang/invoke/MethodHandle" ∧ yX12_part.cls ≠ "java/lang/invoke/VarHandle" ∧ (parseMethodDescriptor yX12_part.desc).map (fun d => d.parameters.length) = some 0 := by decide +kernel
def rm_X12_sum : Room := { frames := 8, cells := 0, slots := 0, locals := 244 }
theorem hd_X12_sum : yX12_sum.cls = RX12 ∧ yX12_sum.cls ≠ "java/lang/invoke/MethodHandle" ∧ yX12_sum.cls ≠ "java/lang/invoke/VarHandle" ∧ (parseMethodDescriptor yX12_sum.desc).map (fun d => d.parameters.length) = some 0 := by decide +kernel
def rm_X12_plain : Room := { frames := 9, cells := 0, slots := 0, locals := 265 }
theorem hd_X12_plain : yX12_plain.cls = RX12 ∧ yX12_plain.cls ≠ "java/lang/invoke/MethodHandle" ∧ yX12_plain.cls ≠ "java/lang/invoke/VarHandle" ∧ (parseMethodDescriptor yX12_plain.desc).map (fun d => d.parameters.length) = some 0 := by decide +kernel
theorem hd_X12_atom : yX12_atom.cls = RX12 ∧ yX12_atom.cls ≠ "java/lang/invoke/MethodHandle" ∧ yX12_atom.cls ≠ "java/lang/invoke/VarHandle" ∧ (parseMethodDescriptor yX12_atom.desc).map (fun d => d.parameters.length) = some 0 := by decide +kernel
theorem hd_X12_every : yX12_every.cls = RX12 ∧ yX12_every.cls ≠ "java/lang/invoke/MethodHandle" ∧ yX12_every.cls ≠ "java/lang/invoke/VarHandle" ∧ (parseMethodDescriptor yX12_every.desc).map (fun d => d.parameters.length) = some 0 := by decide +kernel
theorem hd_X12_some : yX12_some.cls = RX12 ∧ yX12_some.cls ≠ "java/lang/invoke/MethodHandle" ∧ yX12_some.cls ≠ "java/lang/invoke/VarHandle" ∧ (parseMethodDescriptor yX12_some.desc).map (fun d => d.parameters.length) = some 0 := by decide +kernel
def rm_X12_lawLine : Room := { frames := 54, cells := 0, slots := 0, locals := 2342 }
theorem hd_X12_lawLine : yX12_lawLine.cls = RX12 ∧ yX12_lawLine.cls ≠ "java/lang/invoke/MethodHandle" ∧ yX12_lawLine.cls ≠ "java/lang/invoke/VarHandle" ∧ (parseMethodDescriptor yX12_lawLine.desc).map (fun d => d.parameters.length) = some 0 := by decide +kernel
def rm_X12_reads : Room := { frames := 55, cells := 0, slots := 0, locals := 2365 }
theorem hd_X12_reads : yX12_reads.cls = RX12 ∧ yX12_reads.cls ≠ "java/lang/invoke/MethodHandle" ∧ yX12_reads.cls ≠ "java/lang/invoke/VarHandle" ∧ (parseMethodDescriptor yX12_reads.desc).map (fun d => d.parameters.length) = some 1 := by decide +kernel
def rm_X12_putsAside : Room := { frames := 1, cells := 0, slots := 0, locals := 64 }
theorem hd_X12_putsAside : yX12_putsAside.cls = RX12 ∧ yX12_putsAside.cls ≠ "java/lang/invoke/MethodHandle" ∧ yX12_putsAside.cls ≠ "java/lang/invoke/VarHandle" ∧ (parseMethodDescriptor yX12_putsAside.desc).map (fun d => d.parameters.length) = some 0 := by decide +kernel
def rm_X12_comesBack : Room := { frames := 1, cells := 0, slots := 0, locals := 64 }
theorem hd_X12_comesBack : yX12_comesBack.cls = RX12 ∧ yX12_comesBack.cls ≠ "java/lang/invoke/MethodHandle" ∧ yX12_comesBack.cls ≠ "java/lang/invoke/VarHandle" ∧ (parseMethodDescriptor yX12_comesBack.desc).map (fun d => d.parameters.length) = some 0 := by decide +kernel
def rm_X12_cluster : Room := { frames := 56, cells := 0, slots := 0, locals := 2388 }
theorem hd_X12_cluster : yX12_cluster.cls = RX12 ∧ yX12_cluster.cls ≠ "java/lang/invoke/MethodHandle" ∧ yX12_cluster.cls ≠ "java/lang/invoke/VarHandle" ∧ (parseMethodDescriptor yX12_cluster.desc).map (fun d => d.parameters.length) = some 0 := by decide +kernel
def rm_X12_law : Room := { frames := 56, cells := 0, slots := 0, locals := 2388 }
theorem hd_X12_law : yX12_law.cls = RX12 ∧ yX12_law.cls ≠ "java/lang/invoke/MethodHandle" ∧ yX12_law.cls ≠ "java/lang/invoke/VarHandle" ∧ (parseMethodDescriptor yX12_law.desc).map (fun d => d.parameters.length) = some 0 := by decide +kernel
def rm_X12_fault : Room := { frames := 1, cells := 0, slots := 0, locals := 64 }
theorem hd_X12_fault : yX12_fault.cls = RX12 ∧ yX12_fault.cls ≠ "java/lang/invoke/MethodHandle" ∧ yX12_fault.cls ≠ "java/lang/invoke/VarHandle" ∧ (parseMethodDescriptor yX12_fault.desc).map (fun d => d.parameters.length) = some 0 := by decide +kernel
def rm_X12_asks : Room := { frames := 56, cells := 0, slots := 0, locals := 2388 }
theorem hd_X12_asks : yX12_asks.cls = RX12 ∧ yX12_asks.cls ≠ "java/lang/invoke/MethodHandle" ∧ yX12_asks.cls ≠ "java/lang/invoke/VarHandle" ∧ (parseMethodDescriptor yX12_asks.desc).map (fun d => d.parameters.length) = some 1 := by decide +kernel
def rm_X12_heldUp : Room := { frames := 57, cells := 0, slots := 0, locals := 2412 }
theorem hd_X12_heldUp : yX12_heldUp.cls = RX12 ∧ yX12_heldUp.cls ≠ "java/lang/invoke/MethodHandle" ∧ yX12_heldUp.cls ≠ "java/lang/invoke/VarHandle" ∧ (parseMethodDescriptor yX12_heldUp.desc).map (fun d => d.parameters.length) = some 1 := by decide +kernel
def rm_X12_sentBy : Room := { frames := 58, cells := 0, slots := 0, locals := 2433 }
theorem hd_X12_sentBy : yX12_sentBy.cls = RX12 ∧ yX12_sentBy.cls ≠ "java/lang/invoke/MethodHandle" ∧ yX12_sentBy.cls ≠ "java/lang/invoke/VarHandle" ∧ (parseMethodDescriptor yX12_sentBy.desc).map (fun d => d.parameters.length) = some 1 := by decide +kernel
def rm_X12_shiftOf : Room := { frames := 59, cells := 0, slots := 0, locals := 2454 }
theorem hd_X12_shiftOf : yX12_shiftOf.cls = RX12 ∧ yX12_shiftOf.cls ≠ "java/lang/invoke/MethodHandle" ∧ yX12_shiftOf.cls ≠ "java/lang/invoke/VarHandle" ∧ (parseMethodDescriptor yX12_shiftOf.desc).map (fun d => d.parameters.length) = some 2 := by decide +kernel
def rm_X12_isPassing : Room := { frames := 59, cells := 0, slots := 0, locals := 2454 }
theorem hd_X12_isPassing : yX12_isPassing.cls = RX12 ∧ yX12_isPassing.cls ≠ "java/lang/invoke/MethodHandle" ∧ yX12_isPassing.cls ≠ "java/lang/invoke/VarHandle" ∧ (parseMethodDescriptor yX12_isPassing.desc).map (fun d => d.parameters.length) = some 1 := by decide +kernel
def rm_X12_isHeard : Room := { frames := 60, cells := 0, slots := 0, locals := 2476 }
theorem hd_X12_isHeard : yX12_isHeard.cls = RX12 ∧ yX12_isHeard.cls ≠ "java/lang/invoke/MethodHandle" ∧ yX12_isHeard.cls ≠ "java/lang/invoke/VarHandle" ∧ (parseMethodDescriptor yX12_isHeard.desc).map (fun d => d.parameters.length) = some 2 := by decide +kernel
def rm_X12_allShifts : Room := { frames := 60, cells := 0, slots := 0, locals := 2476 }
theorem hd_X12_allShifts : yX12_allShifts.cls = RX12 ∧ yX12_allShifts.cls ≠ "java/lang/invoke/MethodHandle" ∧ yX12_allShifts.cls ≠ "java/lang/invoke/VarHandle" ∧ (parseMethodDescriptor yX12_allShifts.desc).map (fun d => d.parameters.length) = some 0 := by decide +kernel
def rm_X12_middle : Room := { frames := 1, cells := 0, slots := 0, locals := 64 }
theorem hd_X12_middle : yX12_middle.cls = RX12 ∧ yX12_middle.cls ≠ "java/lang/invoke/MethodHandle" ∧ yX12_middle.cls ≠ "java/lang/invoke/VarHandle" ∧ (parseMethodDescriptor yX12_middle.desc).map (fun d => d.parameters.length) = some 1 := by decide +kernel
def rm_X12_middleOf : Room := { frames := 2, cells := 0, slots := 0, locals := 88 }
theorem hd_X12_middleOf : yX12_middleOf.cls = RX12 ∧ yX12_middleOf.cls ≠ "java/lang/invoke/MethodHandle" ∧ yX12_middleOf.cls ≠ "java/lang/invoke/VarHandle" ∧ (parseMethodDescriptor yX12_middleOf.desc).map (fun d => d.parameters.length) = some 2 := by decide +kernel
def rm_X12_draw : Room := { frames := 1, cells := 0, slots := 0, locals := 64 }
theorem hd_X12_draw : yX12_draw.cls = RX12 ∧ yX12_draw.cls ≠ "java/lang/invoke/MethodHandle" ∧ yX12_draw.cls ≠ "java/lang/invoke/VarHandle" ∧ (parseMethodDescriptor yX12_draw.desc).map (fun d => d.parameters.length) = some 1 := by decide +kernel
def rm_X12_logs : Room := { frames := 2, cells := 0, slots := 0, locals := 85 }
theorem hd_X12_logs : yX12_logs.cls = RX12 ∧ yX12_logs.cls ≠ "java/lang/invoke/MethodHandle" ∧ yX12_logs.cls ≠ "java/lang/invoke/VarHandle" ∧ (parseMethodDescriptor yX12_logs.desc).map (fun d => d.parameters.length) = some 3 := by decide +kernel
def rm_X12_starts : Room := { frames := 3, cells := 0, slots := 0, locals := 109 }
theorem hd_X12_starts : yX12_starts.cls = RX12 ∧ yX12_starts.cls ≠ "java/lang/invoke/MethodHandle" ∧ yX12_starts.cls ≠ "java/lang/invoke/VarHandle" ∧ (parseMethodDescriptor yX12_starts.desc).map (fun d => d.parameters.length) = some 1 := by decide +kernel
def rm_X12_collides : Room := { frames := 57, cells := 0, slots := 0, locals := 2412 }
theorem hd_X12_collides : yX12_collides.cls = RX12 ∧ yX12_collides.cls ≠ "java/lang/invoke/MethodHandle" ∧ yX12_collides.cls ≠ "java/lang/invoke/VarHandle" ∧ (parseMethodDescriptor yX12_collides.desc).map (fun d => d.parameters.length) = some 1 := by decide +kernel
def rm_X12_calls : Room := { frames := 58, cells := 0, slots := 0, locals := 2434 }
theorem hd_X12_calls : yX12_calls.cls = RX12 ∧ yX12_calls.cls ≠ "java/lang/invoke/MethodHandle" ∧ yX12_calls.cls ≠ "java/lang/invoke/VarHandle" ∧ (parseMethodDescriptor yX12_calls.desc).map (fun d => d.parameters.length) = some 0 := by decide +kernel
def rm_X12_follow : Room := { frames := 3, cells := 0, slots := 0, locals := 109 }
theorem hd_X12_follow : yX12_follow.cls = RX12 ∧ yX12_follow.cls ≠ "java/lang/invoke/MethodHandle" ∧ yX12_follow.cls ≠ "java/lang/invoke/VarHandle" ∧ (parseMethodDescriptor yX12_follow.desc).map (fun d => d.parameters.length) = some 1 := by decide +kernel
def rm_X12_counts : Room := { frames := 2, cells := 0, slots := 0, locals := 87 }
theorem hd_X12_counts : yX12_counts.cls = RX12 ∧ yX12_counts.cls ≠ "java/lang/invoke/MethodHandle" ∧ yX12_counts.cls ≠ "java/lang/invoke/VarHandle" ∧ (parseMethodDescriptor yX12_counts.desc).map (fun d => d.parameters.length) = some 2 := by decide +kernel
def rm_X12_nextOf : Room := { frames := 2, cells := 0, slots := 0, locals := 85 }
theorem hd_X12_nextOf : yX12_nextOf.cls = RX12 ∧ yX12_nextOf.cls ≠ "java/lang/invoke/MethodHandle" ∧ yX12_nextOf.cls ≠ "java/lang/invoke/VarHandle" ∧ (parseMethodDescriptor yX12_nextOf.desc).map (fun d => d.parameters.length) = some 2 := by decide +kernel
def rm_X12_isDenied : Room := { frames := 3, cells := 0, slots := 0, locals := 108 }
theorem hd_X12_isDenied : yX12_isDenied.cls = RX12 ∧ yX12_isDenied.cls ≠ "java/lang/invoke/MethodHandle" ∧ yX12_isDenied.cls ≠ "java/lang/invoke/VarHandle" ∧ (parseMethodDescriptor yX12_isDenied.desc).map (fun d => d.parameters.length) = some 2 := by decide +kernel
def rm_X12_freezes : Room := { frames := 3, cells := 0, slots := 0, locals := 109 }
theorem hd_X12_freezes : yX12_freezes.cls = RX12 ∧ yX12_freezes.cls ≠ "java/lang/invoke/MethodHandle" ∧ yX12_freezes.cls ≠ "java/lang/invoke/VarHandle" ∧ (parseMethodDescriptor yX12_freezes.desc).map (fun d => d.parameters.length) = some 2 := by decide +kernel
def rm_X12_judges : Room := { frames := 4, cells := 0, slots := 0, locals := 132 }
theorem hd_X12_judges : yX12_judges.cls = RX12 ∧ yX12_judges.cls ≠ "java/lang/invoke/MethodHandle" ∧ yX12_judges.cls ≠ "java/lang/invoke/VarHandle" ∧ (parseMethodDescriptor yX12_judges.desc).map (fun d => d.parameters.length) = some 2 := by decide +kernel
def rm_X12_corrects : Room := { frames := 3, cells := 0, slots := 0, locals := 112 }
theorem hd_X12_corrects : yX12_corrects.cls = RX12 ∧ yX12_corrects.cls ≠ "java/lang/invoke/MethodHandle" ∧ yX12_corrects.cls ≠ "java/lang/invoke/VarHandle" ∧ (parseMethodDescriptor yX12_corrects.desc).map (fun d => d.parameters.length) = some 2 := by decide +kernel
def rm_X12_sendersOf : Room := { frames := 2, cells := 0, slots := 0, locals := 85 }
theorem hd_X12_sendersOf : yX12_sendersOf.cls = RX12 ∧ yX12_sendersOf.cls ≠ "java/lang/invoke/MethodHandle" ∧ yX12_sendersOf.cls ≠ "java/lang/invoke/VarHandle" ∧ (parseMethodDescriptor yX12_sendersOf.desc).map (fun d => d.parameters.length) = some 2 := by decide +kernel
def rm_X12_passes : Room := { frames := 61, cells := 0, slots := 0, locals := 2498 }
theorem hd_X12_passes : yX12_passes.cls = RX12 ∧ yX12_passes.cls ≠ "java/lang/invoke/MethodHandle" ∧ yX12_passes.cls ≠ "java/lang/invoke/VarHandle" ∧ (parseMethodDescriptor yX12_passes.desc).map (fun d => d.parameters.length) = some 1 := by decide +kernel
def rm_X12_goes : Room := { frames := 62, cells := 0, slots := 0, locals := 2522 }
theorem hd_X12_goes : yX12_goes.cls = RX12 ∧ yX12_goes.cls ≠ "java/lang/invoke/MethodHandle" ∧ yX12_goes.cls ≠ "java/lang/invoke/VarHandle" ∧ (parseMethodDescriptor yX12_goes.desc).map (fun d => d.parameters.length) = some 2 := by decide +kernel
def rm_X12_spreadNow : Room := { frames := 3, cells := 0, slots := 0, locals := 109 }
theorem hd_X12_spreadNow : yX12_spreadNow.cls = RX12 ∧ yX12_spreadNow.cls ≠ "java/lang/invoke/MethodHandle" ∧ yX12_spreadNow.cls ≠ "java/lang/invoke/VarHandle" ∧ (parseMethodDescriptor yX12_spreadNow.desc).map (fun d => d.parameters.length) = some 0 := by decide +kernel
def rm_X12_areFriends : Room := { frames := 61, cells := 0, slots := 0, locals := 2498 }
theorem hd_X12_areFriends : yX12_areFriends.cls = RX12 ∧ yX12_areFriends.cls ≠ "java/lang/invoke/MethodHandle" ∧ yX12_areFriends.cls ≠ "java/lang/invoke/VarHandle" ∧ (parseMethodDescriptor yX12_areFriends.desc).map (fun d => d.parameters.length) = some 2 := by decide +kernel
def rm_X12_cliqueOf : Room := { frames := 62, cells := 0, slots := 0, locals := 2520 }
theorem hd_X12_cliqueOf : yX12_cliqueOf.cls = RX12 ∧ yX12_cliqueOf.cls ≠ "java/lang/invoke/MethodHandle" ∧ yX12_cliqueOf.cls ≠ "java/lang/invoke/VarHandle" ∧ (parseMethodDescriptor yX12_cliqueOf.desc).map (fun d => d.parameters.length) = some 1 := by decide +kernel
def rm_X12_middleNow : Room := { frames := 61, cells := 0, slots := 0, locals := 2498 }
theorem hd_X12_middleNow : yX12_middleNow.cls = RX12 ∧ yX12_middleNow.cls ≠ "java/lang/invoke/MethodHandle" ∧ yX12_middleNow.cls ≠ "java/lang/invoke/VarHandle" ∧ (parseMethodDescriptor yX12_middleNow.desc).map (fun d => d.parameters.length) = some 1 := by decide +kernel
def rm_X12_knownOf : Room := { frames := 2, cells := 0, slots := 0, locals := 86 }
theorem hd_X12_knownOf : yX12_knownOf.cls = RX12 ∧ yX12_knownOf.cls ≠ "java/lang/invoke/MethodHandle" ∧ yX12_knownOf.cls ≠ "java/lang/invoke/VarHandle" ∧ (parseMethodDescriptor yX12_knownOf.desc).map (fun d => d.parameters.length) = some 1 := by decide +kernel
def rm_X12_node : Room := { frames := 63, cells := 0, slots := 0, locals := 2546 }
theorem hd_X12_node : yX12_node.cls = RX12 ∧ yX12_node.cls ≠ "java/lang/invoke/MethodHandle" ∧ yX12_node.cls ≠ "java/lang/invoke/VarHandle" ∧ (parseMethodDescriptor yX12_node.desc).map (fun d => d.parameters.length) = some 2 := by decide +kernel
def rm_X12_areTwo : Room := { frames := 3, cells := 0, slots := 0, locals := 107 }
theorem hd_X12_areTwo : yX12_areTwo.cls = RX12 ∧ yX12_areTwo.cls ≠ "java/lang/invoke/MethodHandle" ∧ yX12_areTwo.cls ≠ "java/lang/invoke/VarHandle" ∧ (parseMethodDescriptor yX12_areTwo.desc).map (fun d => d.parameters.length) = some 2 := by decide +kernel
def rm_X12_shift : Room := { frames := 60, cells := 0, slots := 0, locals := 2476 }
theorem hd_X12_shift : yX12_shift.cls = RX12 ∧ yX12_shift.cls ≠ "java/lang/invoke/MethodHandle" ∧ yX12_shift.cls ≠ "java/lang/invoke/VarHandle" ∧ (parseMethodDescriptor yX12_shift.desc).map (fun d => d.parameters.length) = some 2 := by decide +kernel
def rm_X12_hears : Room := { frames := 61, cells := 0, slots := 0, locals := 2498 }
theorem hd_X12_hears : yX12_hears.cls = RX12 ∧ yX12_hears.cls ≠ "java/lang/invoke/MethodHandle" ∧ yX12_hears.cls ≠ "java/lang/invoke/VarHandle" ∧ (parseMethodDescriptor yX12_hears.desc).map (fun d => d.parameters.length) = some 2 := by decide +kernel
def rm_X12_remembers : Room := { frames := 1, cells := 0, slots := 0, locals := 64 }
theorem hd_X12_remembers : yX12_remembers.cls = RX12 ∧ yX12_remembers.cls ≠ "java/lang/invoke/MethodHandle" ∧ yX12_remembers.cls ≠ "java/lang/invoke/VarHandle" ∧ (parseMethodDescriptor yX12_remembers.desc).map (fun d => d.parameters.length) = some 0 := by decide +kernel
def rm_X12_sets : Room := { frames := 2, cells := 0, slots := 0, locals := 85 }
theorem hd_X12_sets : yX12_sets.cls = RX12 ∧ yX12_sets.cls ≠ "java/lang/invoke/MethodHandle" ∧ yX12_sets.cls ≠ "java/lang/invoke/VarHandle" ∧ (parseMethodDescriptor yX12_sets.desc).map (fun d => d.parameters.length) = some 2 := by decide +kernel
def rm_X12_rounds : Room := { frames := 63, cells := 0, slots := 0, locals := 2545 }
theorem hd_X12_rounds : yX12_rounds.cls = RX12 ∧ yX12_rounds.cls ≠ "java/lang/invoke/MethodHandle" ∧ yX12_rounds.cls ≠ "java/lang/invoke/VarHandle" ∧ (parseMethodDescriptor yX12_rounds.desc).map (fun d => d.parameters.length) = some 1 := by decide +kernel
def rm_X12_add : Room := { frames := 3, cells := 0, slots := 0, locals := 110 }
theorem hd_X12_add : yX12_add.cls = RX12 ∧ yX12_add.cls ≠ "java/lang/invoke/MethodHandle" ∧ yX12_add.cls ≠ "java/lang/invoke/VarHandle" ∧ (parseMethodDescriptor yX12_add.desc).map (fun d => d.parameters.length) = some 1 := by decide +kernel
def rm_X12_power : Room := { frames := 57, cells := 0, slots := 0, locals := 2412 }
theorem hd_X12_power : yX12_power.cls = RX12 ∧ yX12_power.cls ≠ "java/lang/invoke/MethodHandle" ∧ yX12_power.cls ≠ "java/lang/invoke/VarHandle" ∧ (parseMethodDescriptor yX12_power.desc).map (fun d => d.parameters.length) = some 2 := by decide +kernel
def rm_X12_spoil : Room := { frames := 3, cells := 0, slots := 0, locals := 108 }
theorem hd_X12_spoil : yX12_spoil.cls = RX12 ∧ yX12_spoil.cls ≠ "java/lang/invoke/MethodHandle" ∧ yX12_spoil.cls ≠ "java/lang/invoke/VarHandle" ∧ (parseMethodDescriptor yX12_spoil.desc).map (fun d => d.parameters.length) = some 3 := by decide +kernel
def rm_X12_set : Room := { frames := 3, cells := 0, slots := 0, locals := 108 }
theorem hd_X12_set : yX12_set.cls = RX12 ∧ yX12_set.cls ≠ "java/lang/invoke/MethodHandle" ∧ yX12_set.cls ≠ "java/lang/invoke/VarHandle" ∧ (parseMethodDescriptor yX12_set.desc).map (fun d => d.parameters.length) = some 2 := by decide +kernel
def rm_X12_tune : Room := { frames := 3, cells := 0, slots := 0, locals := 108 }
theorem hd_X12_tune : yX12_tune.cls = RX12 ∧ yX12_tune.cls ≠ "java/lang/invoke/MethodHandle" ∧ yX12_tune.cls ≠ "java/lang/invoke/VarHandle" ∧ (parseMethodDescriptor yX12_tune.desc).map (fun d => d.parameters.length) = some 2 := by decide +kernel
def rm_X12_mid : Room := { frames := 2, cells := 0, slots := 0, locals := 88 }
theorem hd_X12_mid : yX12_mid.cls = RX12 ∧ yX12_mid.cls ≠ "java/lang/invoke/MethodHandle" ∧ yX12_mid.cls ≠ "java/lang/invoke/VarHandle" ∧ (parseMethodDescriptor yX12_mid.desc).map (fun d => d.parameters.length) = some 0 := by decide +kernel
def rm_X12_spread : Room := { frames := 4, cells := 0, slots := 0, locals := 132 }
theorem hd_X12_spread : yX12_spread.cls = RX12 ∧ yX12_spread.cls ≠ "java/lang/invoke/MethodHandle" ∧ yX12_spread.cls ≠ "java/lang/invoke/VarHandle" ∧ (parseMethodDescriptor yX12_spread.desc).map (fun d => d.parameters.length) = some 0 := by decide +kernel
def rm_X12_agreed : Room := { frames := 3, cells := 0, slots := 0, locals := 107 }
theorem hd_X12_agreed : yX12_agreed.cls = RX12 ∧ yX12_agreed.cls ≠ "java/lang/invoke/MethodHandle" ∧ yX12_agreed.cls ≠ "java/lang/invoke/VarHandle" ∧ (parseMethodDescriptor yX12_agreed.desc).map (fun d => d.parameters.length) = some 0 := by decide +kernel
def rm_X12_cliques : Room := { frames := 63, cells := 0, slots := 0, locals := 2546 }
theorem hd_X12_cliques : yX12_cliques.cls = RX12 ∧ yX12_cliques.cls ≠ "java/lang/invoke/MethodHandle" ∧ yX12_cliques.cls ≠ "java/lang/invoke/VarHandle" ∧ (parseMethodDescriptor yX12_cliques.desc).map (fun d => d.parameters.length) = some 0 := by decide +kernel
def rm_X12_settles : Room := { frames := 62, cells := 0, slots := 0, locals := 2522 }
theorem hd_X12_settles : yX12_settles.cls = RX12 ∧ yX12_settles.cls ≠ "java/lang/invoke/MethodHandle" ∧ yX12_settles.cls ≠ "java/lang/invoke/VarHandle" ∧ (parseMethodDescriptor yX12_settles.desc).map (fun d => d.parameters.length) = some 1 := by decide +kernel
def rm_X12_widest : Room := { frames := 62, cells := 0, slots := 0, locals := 2522 }
theorem hd_X12_widest : yX12_widest.cls = RX12 ∧ yX12_widest.cls ≠ "java/lang/invoke/MethodHandle" ∧ yX12_widest.cls ≠ "java/lang/invoke/VarHandle" ∧ (parseMethodDescriptor yX12_widest.desc).map (fun d => d.parameters.length) = some 1 := by decide +kernel
def rm_X12_lowest : Room := { frames := 2, cells := 0, slots := 0, locals := 85 }
theorem hd_X12_lowest : yX12_lowest.cls = RX12 ∧ yX12_lowest.cls ≠ "java/lang/invoke/MethodHandle" ∧ yX12_lowest.cls ≠ "java/lang/invoke/VarHandle" ∧ (parseMethodDescriptor yX12_lowest.desc).map (fun d => d.parameters.length) = some 1 := by decide +kernel
def rm_X12_leads : Room := { frames := 62, cells := 0, slots := 0, locals := 2522 }
theorem hd_X12_leads : yX12_leads.cls = RX12 ∧ yX12_leads.cls ≠ "java/lang/invoke/MethodHandle" ∧ yX12_leads.cls ≠ "java/lang/invoke/VarHandle" ∧ (parseMethodDescriptor yX12_leads.desc).map (fun d => d.parameters.length) = some 1 := by decide +kernel
def rm_X12_narrow : Room := { frames := 59, cells := 0, slots := 0, locals := 2454 }
theorem hd_X12_narrow : yX12_narrow.cls = RX12 ∧ yX12_narrow.cls ≠ "java/lang/invoke/MethodHandle" ∧ yX12_narrow.cls ≠ "java/lang/invoke/VarHandle" ∧ (parseMethodDescriptor yX12_narrow.desc).map (fun d => d.parameters.length) = some 0 := by decide +kernel
def rm_X12_tight : Room := { frames := 60, cells := 0, slots := 0, locals := 2476 }
theorem hd_X12_tight : yX12_tight.cls = RX12 ∧ yX12_tight.cls ≠ "java/lang/invoke/MethodHandle" ∧ yX12_tight.cls ≠ "java/lang/invoke/VarHandle" ∧ (parseMethodDescriptor yX12_tight.desc).map (fun d => d.parameters.length) = some 0 := by decide +kernel
def rm_X12_areAllFriends : Room := { frames := 2, cells := 0, slots := 0, locals := 85 }
theorem hd_X12_areAllFriends : yX12_areAllFriends.cls = RX12 ∧ yX12_areAllFriends.cls ≠ "java/lang/invoke/MethodHandle" ∧ yX12_areAllFriends.cls ≠ "java/lang/invoke/VarHandle" ∧ (parseMethodDescriptor yX12_areAllFriends.desc).map (fun d => d.parameters.length) = some 1 := by decide +kernel
def rm_X12_spare : Room := { frames := 62, cells := 0, slots := 0, locals := 2520 }
theorem hd_X12_spare : yX12_spare.cls = RX12 ∧ yX12_spare.cls ≠ "java/lang/invoke/MethodHandle" ∧ yX12_spare.cls ≠ "java/lang/invoke/VarHandle" ∧ (parseMethodDescriptor yX12_spare.desc).map (fun d => d.parameters.length) = some 0 := by decide +kernel
def rm_X12_apart : Room := { frames := 2, cells := 0, slots := 0, locals := 86 }
theorem hd_X12_apart : yX12_apart.cls = RX12 ∧ yX12_apart.cls ≠ "java/lang/invoke/MethodHandle" ∧ yX12_apart.cls ≠ "java/lang/invoke/VarHandle" ∧ (parseMethodDescriptor yX12_apart.desc).map (fun d => d.parameters.length) = some 2 := by decide +kernel
def rm_X12_allPaths : Room := { frames := 3, cells := 0, slots := 0, locals := 108 }
theorem hd_X12_allPaths : yX12_allPaths.cls = RX12 ∧ yX12_allPaths.cls ≠ "java/lang/invoke/MethodHandle" ∧ yX12_allPaths.cls ≠ "java/lang/invoke/VarHandle" ∧ (parseMethodDescriptor yX12_allPaths.desc).map (fun d => d.parameters.length) = some 0 := by decide +kernel
def rm_X12_order : Room := { frames := 4, cells := 0, slots := 0, locals := 133 }
theorem hd_X12_order : yX12_order.cls = RX12 ∧ yX12_order.cls ≠ "java/lang/invoke/MethodHandle" ∧ yX12_order.cls ≠ "java/lang/invoke/VarHandle" ∧ (parseMethodDescriptor yX12_order.desc).map (fun d => d.parameters.length) = some 1 := by decide +kernel
def rm_X12_clockOf : Room := { frames := 1, cells := 0, slots := 0, locals := 64 }
theorem hd_X12_clockOf : yX12_clockOf.cls = RX12 ∧ yX12_clockOf.cls ≠ "java/lang/invoke/MethodHandle" ∧ yX12_clockOf.cls ≠ "java/lang/invoke/VarHandle" ∧ (parseMethodDescriptor yX12_clockOf.desc).map (fun d => d.parameters.length) = some 2 := by decide +kernel
def rm_X12_readMany : Room := { frames := 1, cells := 0, slots := 0, locals := 64 }
theorem hd_X12_readMany : yX12_readMany.cls = RX12 ∧ yX12_readMany.cls ≠ "java/lang/invoke/MethodHandle" ∧ yX12_readMany.cls ≠ "java/lang/invoke/VarHandle" ∧ (parseMethodDescriptor yX12_readMany.desc).map (fun d => d.parameters.length) = some 0 := by decide +kernel
def rm_X12_wrongReads : Room := { frames := 2, cells := 0, slots := 0, locals := 85 }
theorem hd_X12_wrongReads : yX12_wrongReads.cls = RX12 ∧ yX12_wrongReads.cls ≠ "java/lang/invoke/MethodHandle" ∧ yX12_wrongReads.cls ≠ "java/lang/invoke/VarHandle" ∧ (parseMethodDescriptor yX12_wrongReads.desc).map (fun d => d.parameters.length) = some 2 := by decide +kernel
def rm_X12_read : Room := { frames := 3, cells := 0, slots := 0, locals := 109 }
theorem hd_X12_read : yX12_read.cls = RX12 ∧ yX12_read.cls ≠ "java/lang/invoke/MethodHandle" ∧ yX12_read.cls ≠ "java/lang/invoke/VarHandle" ∧ (parseMethodDescriptor yX12_read.desc).map (fun d => d.parameters.length) = some 1 := by decide +kernel
def rm_X12_when : Room := { frames := 3, cells := 0, slots := 0, locals := 109 }
theorem hd_X12_when : yX12_when.cls = RX12 ∧ yX12_when.cls ≠ "java/lang/invoke/MethodHandle" ∧ yX12_when.cls ≠ "java/lang/invoke/VarHandle" ∧ (parseMethodDescriptor yX12_when.desc).map (fun d => d.parameters.length) = some 0 := by decide +kernel
def rm_X12_wouldHear : Room := { frames := 1, cells := 0, slots := 0, locals := 64 }
theorem hd_X12_wouldHear : yX12_wouldHear.cls = RX12 ∧ yX12_wouldHear.cls ≠ "java/lang/invoke/MethodHandle" ∧ yX12_wouldHear.cls ≠ "java/lang/invoke/VarHandle" ∧ (parseMethodDescriptor yX12_wouldHear.desc).map (fun d => d.parameters.length) = some 3 := by decide +kernel
def rm_X12_blameMany : Room := { frames := 1, cells := 0, slots := 0, locals := 64 }
theorem hd_X12_blameMany : yX12_blameMany.cls = RX12 ∧ yX12_blameMany.cls ≠ "java/lang/invoke/MethodHandle" ∧ yX12_blameMany.cls ≠ "java/lang/invoke/VarHandle" ∧ (parseMethodDescriptor yX12_blameMany.desc).map (fun d => d.parameters.length) = some 0 := by decide +kernel
def rm_X12_wrongBlames : Room := { frames := 2, cells := 0, slots := 0, locals := 86 }
theorem hd_X12_wrongBlames : yX12_wrongBlames.cls = RX12 ∧ yX12_wrongBlames.cls ≠ "java/lang/invoke/MethodHandle" ∧ yX12_wrongBlames.cls ≠ "java/lang/invoke/VarHandle" ∧ (parseMethodDescriptor yX12_wrongBlames.desc).map (fun d => d.parameters.length) = some 2 := by decide +kernel
def rm_X12_blame : Room := { frames := 3, cells := 0, slots := 0, locals := 110 }
theorem hd_X12_blame : yX12_blame.cls = RX12 ∧ yX12_blame.cls ≠ "java/lang/invoke/MethodHandle" ∧ yX12_blame.cls ≠ "java/lang/invoke/VarHandle" ∧ (parseMethodDescriptor yX12_blame.desc).map (fun d => d.parameters.length) = some 0 := by decide +kernel
def rm_X12_guilty : Room := { frames := 3, cells := 0, slots := 0, locals := 110 }
theorem hd_X12_guilty : yX12_guilty.cls = RX12 ∧ yX12_guilty.cls ≠ "java/lang/invoke/MethodHandle" ∧ yX12_guilty.cls ≠ "java/lang/invoke/VarHandle" ∧ (parseMethodDescriptor yX12_guilty.desc).map (fun d => d.parameters.length) = some 0 := by decide +kernel
def rm_X12_probe : Room := { frames := 3, cells := 0, slots := 0, locals := 110 }
theorem hd_X12_probe : yX12_probe.cls = RX12 ∧ yX12_probe.cls ≠ "java/lang/invoke/MethodHandle" ∧ yX12_probe.cls ≠ "java/lang/invoke/VarHandle" ∧ (parseMethodDescriptor yX12_probe.desc).map (fun d => d.parameters.length) = some 0 := by decide +kernel
def rm_X12_both : Room := { frames := 62, cells := 0, slots := 0, locals := 2520 }
theorem hd_X12_both : yX12_both.cls = RX12 ∧ yX12_both.cls ≠ "java/lang/invoke/MethodHandle" ∧ yX12_both.cls ≠ "java/lang/invoke/VarHandle" ∧ (parseMethodDescriptor yX12_both.desc).map (fun d => d.parameters.length) = some 2 := by decide +kernel
def rm_X12_allBest : Room := { frames := 3, cells := 0, slots := 0, locals := 106 }
theorem hd_X12_allBest : yX12_allBest.cls = RX12 ∧ yX12_allBest.cls ≠ "java/lang/invoke/MethodHandle" ∧ yX12_allBest.cls ≠ "java/lang/invoke/VarHandle" ∧ (parseMethodDescriptor yX12_allBest.desc).map (fun d => d.parameters.length) = some 0 := by decide +kernel
def rm_X12_pairs : Room := { frames := 63, cells := 0, slots := 0, locals := 2543 }
theorem hd_X12_pairs : yX12_pairs.cls = RX12 ∧ yX12_pairs.cls ≠ "java/lang/invoke/MethodHandle" ∧ yX12_pairs.cls ≠ "java/lang/invoke/VarHandle" ∧ (parseMethodDescriptor yX12_pairs.desc).map (fun d => d.parameters.length) = some 1 := by decide +kernel
def rm_X12_share : Room := { frames := 3, cells := 0, slots := 0, locals := 107 }
theorem hd_X12_share : yX12_share.cls = RX12 ∧ yX12_share.cls ≠ "java/lang/invoke/MethodHandle" ∧ yX12_share.cls ≠ "java/lang/invoke/VarHandle" ∧ (parseMethodDescriptor yX12_share.desc).map (fun d => d.parameters.length) = some 2 := by decide +kernel
def rm_X12_guardHas : Room := { frames := 2, cells := 0, slots := 0, locals := 86 }
theorem hd_X12_guardHas : yX12_guardHas.cls = RX12 ∧ yX12_guardHas.cls ≠ "java/lang/invoke/MethodHandle" ∧ yX12_guardHas.cls ≠ "java/lang/invoke/VarHandle" ∧ (parseMethodDescriptor yX12_guardHas.desc).map (fun d => d.parameters.length) = some 3 := by decide +kernel
def rm_X12_talkHas : Room := { frames := 1, cells := 0, slots := 0, locals := 64 }
theorem hd_X12_talkHas : yX12_talkHas.cls = RX12 ∧ yX12_talkHas.cls ≠ "java/lang/invoke/MethodHandle" ∧ yX12_talkHas.cls ≠ "java/lang/invoke/VarHandle" ∧ (parseMethodDescriptor yX12_talkHas.desc).map (fun d => d.parameters.length) = some 2 := by decide +kernel
def rm_X12_rests : Room := { frames := 3, cells := 0, slots := 0, locals := 109 }
theorem hd_X12_rests : yX12_rests.cls = RX12 ∧ yX12_rests.cls ≠ "java/lang/invoke/MethodHandle" ∧ yX12_rests.cls ≠ "java/lang/invoke/VarHandle" ∧ (parseMethodDescriptor yX12_rests.desc).map (fun d => d.parameters.length) = some 1 := by decide +kernel
def rm_X12_odds : Room := { frames := 57, cells := 0, slots := 0, locals := 2412 }
theorem hd_X12_odds : yX12_odds.cls = RX12 ∧ yX12_odds.cls ≠ "java/lang/invoke/MethodHandle" ∧ yX12_odds.cls ≠ "java/lang/invoke/VarHandle" ∧ (parseMethodDescriptor yX12_odds.desc).map (fun d => d.parameters.length) = some 3 := by decide +kernel
def rm_X12_valueOf : Room := { frames := 2, cells := 0, slots := 0, locals := 86 }
theorem hd_X12_valueOf : yX12_valueOf.cls = RX12 ∧ yX12_valueOf.cls ≠ "java/lang/invoke/MethodHandle" ∧ yX12_valueOf.cls ≠ "java/lang/invoke/VarHandle" ∧ (parseMethodDescriptor yX12_valueOf.desc).map (fun d => d.parameters.length) = some 2 := by decide +kernel
def rm_X12_most : Room := { frames := 3, cells := 0, slots := 0, locals := 109 }
theorem hd_X12_most : yX12_most.cls = RX12 ∧ yX12_most.cls ≠ "java/lang/invoke/MethodHandle" ∧ yX12_most.cls ≠ "java/lang/invoke/VarHandle" ∧ (parseMethodDescriptor yX12_most.desc).map (fun d => d.parameters.length) = some 1 := by decide +kernel
def rm_X12_byState : Room := { frames := 3, cells := 0, slots := 0, locals := 109 }
theorem hd_X12_byState : yX12_byState.cls = RX12 ∧ yX12_byState.cls ≠ "java/lang/invoke/MethodHandle" ∧ yX12_byState.cls ≠ "java/lang/invoke/VarHandle" ∧ (parseMethodDescriptor yX12_byState.desc).map (fun d => d.parameters.length) = some 1 := by decide +kernel
def rm_X12_twins : Room := { frames := 2, cells := 0, slots := 0, locals := 86 }
theorem hd_X12_twins : yX12_twins.cls = RX12 ∧ yX12_twins.cls ≠ "java/lang/invoke/MethodHandle" ∧ yX12_twins.cls ≠ "java/lang/invoke/VarHandle" ∧ (parseMethodDescriptor yX12_twins.desc).map (fun d => d.parameters.length) = some 0 := by decide +kernel
def rm_X12_ahead : Room := { frames := 63, cells := 0, slots := 0, locals := 2545 }
theorem hd_X12_ahead : yX12_ahead.cls = RX12 ∧ yX12_ahead.cls ≠ "java/lang/invoke/MethodHandle" ∧ yX12_ahead.cls ≠ "java/lang/invoke/VarHandle" ∧ (parseMethodDescriptor yX12_ahead.desc).map (fun d => d.parameters.length) = some 3 := by decide +kernel
def rm_X12_trial : Room := { frames := 63, cells := 0, slots := 0, locals := 2545 }
theorem hd_X12_trial : yX12_trial.cls = RX12 ∧ yX12_trial.cls ≠ "java/lang/invoke/MethodHandle" ∧ yX12_trial.cls ≠ "java/lang/invoke/VarHandle" ∧ (parseMethodDescriptor yX12_trial.desc).map (fun d => d.parameters.length) = some 2 := by decide +kernel
def rm_X12_span : Room := { frames := 63, cells := 0, slots := 0, locals := 2545 }
theorem hd_X12_span : yX12_span.cls = RX12 ∧ yX12_span.cls ≠ "java/lang/invoke/MethodHandle" ∧ yX12_span.cls ≠ "java/lang/invoke/VarHandle" ∧ (parseMethodDescriptor yX12_span.desc).map (fun d => d.parameters.length) = some 2 := by decide +kernel
def rm_X12_logged : Room := { frames := 1, cells := 0, slots := 0, locals := 64 }
theorem hd_X12_logged : yX12_logged.cls = RX12 ∧ yX12_logged.cls ≠ "java/lang/invoke/MethodHandle" ∧ yX12_logged.cls ≠ "java/lang/invoke/VarHandle" ∧ (parseMethodDescriptor yX12_logged.desc).map (fun d => d.parameters.length) = some 2 := by decide +kernel
def rm_X12_led : Room := { frames := 3, cells := 0, slots := 0, locals := 107 }
theorem hd_X12_led : yX12_led.cls = RX12 ∧ yX12_led.cls ≠ "java/lang/invoke/MethodHandle" ∧ yX12_led.cls ≠ "java/lang/invoke/VarHandle" ∧ (parseMethodDescriptor yX12_led.desc).map (fun d => d.parameters.length) = some 2 := by decide +kernel
def rm_X12_log : Room := { frames := 2, cells := 0, slots := 0, locals := 86 }
theorem hd_X12_log : yX12_log.cls = RX12 ∧ yX12_log.cls ≠ "java/lang/invoke/MethodHandle" ∧ yX12_log.cls ≠ "java/lang/invoke/VarHandle" ∧ (parseMethodDescriptor yX12_log.desc).map (fun d => d.parameters.length) = some 2 := by decide +kernel
def rm_X12_seed : Room := { frames := 1, cells := 0, slots := 0, locals := 64 }
theorem hd_X12_seed : yX12_seed.cls = RX12 ∧ yX12_seed.cls ≠ "java/lang/invoke/MethodHandle" ∧ yX12_seed.cls ≠ "java/lang/invoke/VarHandle" ∧ (parseMethodDescriptor yX12_seed.desc).map (fun d => d.parameters.length) = some 1 := by decide +kernel
def rm_X12_undo : Room := { frames := 1, cells := 0, slots := 0, locals := 64 }
theorem hd_X12_undo : yX12_undo.cls = RX12 ∧ yX12_undo.cls ≠ "java/lang/invoke/MethodHandle" ∧ yX12_undo.cls ≠ "java/lang/invoke/VarHandle" ∧ (parseMethodDescriptor yX12_undo.desc).map (fun d => d.parameters.length) = some 0 := by decide +kernel
def rm_X12_image : Room := { frames := 1, cells := 0, slots := 0, locals := 64 }
theorem hd_X12_image : yX12_image.cls = RX12 ∧ yX12_image.cls ≠ "java/lang/invoke/MethodHandle" ∧ yX12_image.cls ≠ "java/lang/invoke/VarHandle" ∧ (parseMethodDescriptor yX12_image.desc).map (fun d => d.parameters.length) = some 0 := by decide +kernel
def rm_X12_back : Room := { frames := 1, cells := 0, slots := 0, locals := 64 }
theorem hd_X12_back : yX12_back.cls = RX12 ∧ yX12_back.cls ≠ "java/lang/invoke/MethodHandle" ∧ yX12_back.cls ≠ "java/lang/invoke/VarHandle" ∧ (parseMethodDescriptor yX12_back.desc).map (fun d => d.parameters.length) = some 0 := by decide +kernel
def rm_X12_count : Room := { frames := 3, cells := 0, slots := 0, locals := 109 }
theorem hd_X12_count : yX12_count.cls = RX12 ∧ yX12_count.cls ≠ "java/lang/invoke/MethodHandle" ∧ yX12_count.cls ≠ "java/lang/invoke/VarHandle" ∧ (parseMethodDescriptor yX12_count.desc).map (fun d => d.parameters.length) = some 1 := by decide +kernel
