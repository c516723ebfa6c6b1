theorem fd_0_0 : FD 0 0 "TensMill$Decimal" "u" "LTensMill$Natural;" true (.object "TensMill$Natural") := ⟨TX0, 3, tyX0, rfl, ut_0, by decide, rfl, tyX0_ok, nmX0, by decide +kernel⟩
theorem fd_0_1 : FD 0 1 "TensMill$Decimal" "negative" "Z" false .boolean := ⟨TX0, 3, tyX0, rfl, ut_0, by decide, rfl, tyX0_ok, nmX0, by decide +kernel⟩
theorem fd_0_2 : FD 0 2 "TensMill$Decimal" "scale" "I" false .int := ⟨TX0, 3, tyX0, rfl, ut_0, by decide, rfl, tyX0_ok, nmX0, by decide +kernel⟩
theorem fd_1_0 : FD 1 0 "TensMill$Layout" "negative" "Z" false .boolean := ⟨TX1, 6, tyX1, rfl, ut_1, by decide, rfl, tyX1_ok, nmX1, by decide +kernel⟩
theorem fd_1_1 : FD 1 1 "TensMill$Layout" "digits" "I" false .int := ⟨TX1, 6, tyX1, rfl, ut_1, by decide, rfl, tyX1_ok, nmX1, by decide +kernel⟩
theorem fd_1_2 : FD 1 2 "TensMill$Layout" "front" "J" false .long := ⟨TX1, 6, tyX1, rfl, ut_1, by decide, rfl, tyX1_ok, nmX1, by decide +kernel⟩
theorem fd_1_3 : FD 1 3 "TensMill$Layout" "back" "J" false .long := ⟨TX1, 6, tyX1, rfl, ut_1, by decide, rfl, tyX1_ok, nmX1, by decide +kernel⟩
theorem fd_1_4 : FD 1 4 "TensMill$Layout" "beforePoint" "J" false .long := ⟨TX1, 6, tyX1, rfl, ut_1, by decide, rfl, tyX1_ok, nmX1, by decide +kernel⟩
theorem fd_1_5 : FD 1 5 "TensMill$Layout" "exponent" "J" false .long := ⟨TX1, 6, tyX1, rfl, ut_1, by decide, rfl, tyX1_ok, nmX1, by decide +kernel⟩
theorem fd_2_0 : FD 2 0 "TensMill$Natural" "limbs" "[I" false (.array .int) := ⟨TX2, 2, tyX2, rfl, ut_2, by decide, rfl, tyX2_ok, nmX2, by decide +kernel⟩
theorem fd_2_1 : FD 2 1 "TensMill$Natural" "count" "I" false .int := ⟨TX2, 2, tyX2, rfl, ut_2, by decide, rfl, tyX2_ok, nmX2, by decide +kernel⟩
theorem fd_3_0 : FD 3 0 "TensMill$Numeral" "negative" "Z" false .boolean := ⟨TX3, 5, tyX3, rfl, ut_3, by decide, rfl, tyX3_ok, nmX3, by decide +kernel⟩
theorem fd_3_1 : FD 3 1 "TensMill$Numeral" "start" "I" false .int := ⟨TX3, 5, tyX3, rfl, ut_3, by decide, rfl, tyX3_ok, nmX3, by decide +kernel⟩
theorem fd_3_2 : FD 3 2 "TensMill$Numeral" "end" "I" false .int := ⟨TX3, 5, tyX3, rfl, ut_3, by decide, rfl, tyX3_ok, nmX3, by decide +kernel⟩
theorem fd_3_3 : FD 3 3 "TensMill$Numeral" "behind" "I" false .int := ⟨TX3, 5, tyX3, rfl, ut_3, by decide, rfl, tyX3_ok, nmX3, by decide +kernel⟩
theorem fd_3_4 : FD 3 4 "TensMill$Numeral" "exponent" "J" false .long := ⟨TX3, 5, tyX3, rfl, ut_3, by decide, rfl, tyX3_ok, nmX3, by decide +kernel⟩
theorem fd_4_0 : FD 4 0 "TensMill$Text" "codes" "[B" false (.array .byte) := ⟨TX4, 2, tyX4, rfl, ut_4, by decide, rfl, tyX4_ok, nmX4, by decide +kernel⟩
theorem fd_4_1 : FD 4 1 "TensMill$Text" "length" "I" false .int := ⟨TX4, 2, tyX4, rfl, ut_4, by decide, rfl, tyX4_ok, nmX4, by decide +kernel⟩
theorem fd_5_0 : FD 5 0 "TensMill" "registers" "[LTensMill$Decimal;" true (.array (.object "TensMill$Decimal")) := ⟨TX5, 8, tyX5, rfl, ut_5, by decide, rfl, tyX5_ok, nmX5, by decide +kernel⟩
theorem fd_5_1 : FD 5 1 "TensMill" "work" "LTensMill$Natural;" true (.object "TensMill$Natural") := ⟨TX5, 8, tyX5, rfl, ut_5, by decide, rfl, tyX5_ok, nmX5, by decide +kernel⟩
theorem fd_5_2 : FD 5 2 "TensMill" "quotient" "LTensMill$Natural;" true (.object "TensMill$Natural") := ⟨TX5, 8, tyX5, rfl, ut_5, by decide, rfl, tyX5_ok, nmX5, by decide +kernel⟩
theorem fd_5_3 : FD 5 3 "TensMill" "spare" "LTensMill$Natural;" true (.object "TensMill$Natural") := ⟨TX5, 8, tyX5, rfl, ut_5, by decide, rfl, tyX5_ok, nmX5, by decide +kernel⟩
theorem fd_5_4 : FD 5 4 "TensMill" "typed" "LTensMill$Text;" true (.object "TensMill$Text") := ⟨TX5, 8, tyX5, rfl, ut_5, by decide, rfl, tyX5_ok, nmX5, by decide +kernel⟩
theorem fd_5_5 : FD 5 5 "TensMill" "laid" "LTensMill$Text;" true (.object "TensMill$Text") := ⟨TX5, 8, tyX5, rfl, ut_5, by decide, rfl, tyX5_ok, nmX5, by decide +kernel⟩
theorem fd_5_6 : FD 5 6 "TensMill" "numeral" "LTensMill$Numeral;" true (.object "TensMill$Numeral") := ⟨TX5, 8, tyX5, rfl, ut_5, by decide, rfl, tyX5_ok, nmX5, by decide +kernel⟩
theorem fd_5_7 : FD 5 7 "TensMill" "layout" "LTensMill$Layout;" true (.object "TensMill$Layout") := ⟨TX5, 8, tyX5, rfl, ut_5, by decide, rfl, tyX5_ok, nmX5, by decide +kernel⟩
theorem fd_6_0 : FD 6 0 "TensMillModel" "digits" "[I" true (.array .int) := ⟨TX6, 11, tyX6, rfl, ut_6, by decide, rfl, tyX6_ok, nmX6, by decide +kernel⟩
theorem fd_6_1 : FD 6 1 "TensMillModel" "sizes" "[I" true (.array .int) := ⟨TX6, 11, tyX6, rfl, ut_6, by decide, rfl, tyX6_ok, nmX6, by decide +kernel⟩
theorem fd_6_2 : FD 6 2 "TensMillModel" "signs" "[I" true (.array .int) := ⟨TX6, 11, tyX6, rfl, ut_6, by decide, rfl, tyX6_ok, nmX6, by decide +kernel⟩
theorem fd_6_3 : FD 6 3 "TensMillModel" "scales" "[I" true (.array .int) := ⟨TX6, 11, tyX6, rfl, ut_6, by decide, rfl, tyX6_ok, nmX6, by decide +kernel⟩
theorem fd_6_4 : FD 6 4 "TensMillModel" "m" "[I" true (.array .int) := ⟨TX6, 11, tyX6, rfl, ut_6, by decide, rfl, tyX6_ok, nmX6, by decide +kernel⟩
theorem fd_6_5 : FD 6 5 "TensMillModel" "n" "[I" true (.array .int) := ⟨TX6, 11, tyX6, rfl, ut_6, by decide, rfl, tyX6_ok, nmX6, by decide +kernel⟩
theorem fd_6_6 : FD 6 6 "TensMillModel" "left" "I" false .int := ⟨TX6, 11, tyX6, rfl, ut_6, by decide, rfl, tyX6_ok, nmX6, by decide +kernel⟩
theorem fd_6_7 : FD 6 7 "TensMillModel" "typed" "I" false .int := ⟨TX6, 11, tyX6, rfl, ut_6, by decide, rfl, tyX6_ok, nmX6, by decide +kernel⟩
theorem fd_6_8 : FD 6 8 "TensMillModel" "text" "[I" true (.array .int) := ⟨TX6, 11, tyX6, rfl, ut_6, by decide, rfl, tyX6_ok, nmX6, by decide +kernel⟩
theorem fd_6_9 : FD 6 9 "TensMillModel" "written" "I" false .int := ⟨TX6, 11, tyX6, rfl, ut_6, by decide, rfl, tyX6_ok, nmX6, by decide +kernel⟩
theorem fd_6_10 : FD 6 10 "TensMillModel" "out" "[I" true (.array .int) := ⟨TX6, 11, tyX6, rfl, ut_6, by decide, rfl, tyX6_ok, nmX6, by decide +kernel⟩
abbrev y_X2_init : MethodName := ⟨"TensMill$Natural", "<init>", "()V"⟩
theorem pl_X2_init : plainFor y_X2_init = true := plainFor_of_name (by decide)
theorem nm_X2_init : (y_X2_init).cls ≠ "java/lang/invoke/MethodHandle" ∧ (y_X2_init).cls ≠ "java/lang/invoke/VarHandle" ∧ (parseMethodDescriptor (y_X2_init).desc).map (fun d => d.parameters.length) = some 0 := ⟨by decide, by decide, by decide +kernel⟩
abbrev y_X0_init : MethodName := ⟨"TensMill$Decimal", "<init>", "()V"⟩
theorem pl_X0_init : plainFor y_X0_init = true := plainFor_of_name (by decide)
theorem nm_X0_init : (y_X0_init).cls ≠ "java/lang/invoke/MethodHandle" ∧ (y_X0_init).cls ≠ "java/lang/invoke/VarHandle" ∧ (parseMethodDescriptor (y_X0_init).desc).map (fun d => d.parameters.length) = some 0 := ⟨by decide, by decide, by decide +kernel⟩
abbrev y_X2_isZero : MethodName := ⟨"TensMill$Natural", "isZero", "()Z"⟩
theorem pl_X2_isZero : plainFor y_X2_isZero = true := plainFor_of_name (by decide)
theorem nm_X2_isZero : (y_X2_isZero).cls ≠ "java/lang/invoke/MethodHandle" ∧ (y_X2_isZero).cls ≠ "java/lang/invoke/VarHandle" ∧ (parseMethodDescriptor (y_X2_isZero).desc).map (fun d => d.parameters.length) = some 0 := ⟨by decide, by decide, by decide +kernel⟩
abbrev y_X0_signum : MethodName := ⟨"TensMill$Decimal", "signum", "()I"⟩
theorem pl_X0_signum : plainFor y_X0_signum = true := plainFor_of_name (by decide)
theorem nm_X0_signum : (y_X0_signum).cls ≠ "java/lang/invoke/MethodHandle" ∧ (y_X0_signum).cls ≠ "java/lang/invoke/VarHandle" ∧ (parseMethodDescriptor (y_X0_signum).desc).map (fun d => d.parameters.length) = some 0 := ⟨by decide, by decide, by decide +kernel⟩
abbrev y_J9_max_7cf53 : MethodName := ⟨"java/lang/Math", "max", "(II)I"⟩
theorem pl_J9_max_7cf53 : plainFor y_J9_max_7cf53 = true := by decide +kernel
theorem nm_J9_max_7cf53 : (y_J9_max_7cf53).cls ≠ "java/lang/invoke/MethodHandle" ∧ (y_J9_max_7cf53).cls ≠ "java/lang/invoke/VarHandle" ∧ (parseMethodDescriptor (y_J9_max_7cf53).desc).map (fun d => d.parameters.length) = some 2 := ⟨by decide, by decide, by decide +kernel⟩
abbrev y_J9_min_7cf53 : MethodName := ⟨"java/lang/Math", "min", "(II)I"⟩
theorem pl_J9_min_7cf53 : plainFor y_J9_min_7cf53 = true := by decide +kernel
theorem nm_J9_min_7cf53 : (y_J9_min_7cf53).cls ≠ "java/lang/invoke/MethodHandle" ∧ (y_J9_min_7cf53).cls ≠ "java/lang/invoke/VarHandle" ∧ (parseMethodDescriptor (y_J9_min_7cf53).desc).map (fun d => d.parameters.length) = some 2 := ⟨by decide, by decide, by decide +kernel⟩
abbrev y_J7_copyOf_59c91 : MethodName := ⟨"java/util/Arrays", "copyOf", "([II)[I"⟩
theorem pl_J7_copyOf_59c91 : plainFor y_J7_copyOf_59c91 = true := plainFor_of_name (by decide)
theorem nm_J7_copyOf_59c91 : (y_J7_copyOf_59c91).cls ≠ "java/lang/invoke/MethodHandle" ∧ (y_J7_copyOf_59c91).cls ≠ "java/lang/invoke/VarHandle" ∧ (parseMethodDescriptor (y_J7_copyOf_59c91).desc).map (fun d => d.parameters.length) = some 2 := ⟨by decide, by decide, by decide +kernel⟩
abbrev y_X2_makeRoom : MethodName := ⟨"TensMill$Natural", "makeRoom", "(I)V"⟩
theorem pl_X2_makeRoom : plainFor y_X2_makeRoom = true := plainFor_of_name (by decide)
theorem nm_X2_makeRoom : (y_X2_makeRoom).cls ≠ "java/lang/invoke/MethodHandle" ∧ (y_X2_makeRoom).cls ≠ "java/lang/invoke/VarHandle" ∧ (parseMethodDescriptor (y_X2_makeRoom).desc).map (fun d => d.parameters.length) = some 1 := ⟨by decide, by decide, by decide +kernel⟩
abbrev y_X2_become : MethodName := ⟨"TensMill$Natural", "become", "(LTensMill$Natural;)V"⟩
theorem pl_X2_become : plainFor y_X2_become = true := plainFor_of_name (by decide)
theorem nm_X2_become : (y_X2_become).cls ≠ "java/lang/invoke/MethodHandle" ∧ (y_X2_become).cls ≠ "java/lang/invoke/VarHandle" ∧ (parseMethodDescriptor (y_X2_become).desc).map (fun d => d.parameters.length) = some 1 := ⟨by decide, by decide, by decide +kernel⟩
abbrev y_X0_become : MethodName := ⟨"TensMill$Decimal", "become", "(LTensMill$Natural;ZI)V"⟩
theorem pl_X0_become : plainFor y_X0_become = true := plainFor_of_name (by decide)
theorem nm_X0_become : (y_X0_become).cls ≠ "java/lang/invoke/MethodHandle" ∧ (y_X0_become).cls ≠ "java/lang/invoke/VarHandle" ∧ (parseMethodDescriptor (y_X0_become).desc).map (fun d => d.parameters.length) = some 3 := ⟨by decide, by decide, by decide +kernel⟩
abbrev y_X1_init : MethodName := ⟨"TensMill$Layout", "<init>", "()V"⟩
theorem pl_X1_init : plainFor y_X1_init = true := plainFor_of_name (by decide)
theorem nm_X1_init : (y_X1_init).cls ≠ "java/lang/invoke/MethodHandle" ∧ (y_X1_init).cls ≠ "java/lang/invoke/VarHandle" ∧ (parseMethodDescriptor (y_X1_init).desc).map (fun d => d.parameters.length) = some 0 := ⟨by decide, by decide, by decide +kernel⟩
abbrev y_X2_digitCount : MethodName := ⟨"TensMill$Natural", "digitCount", "()I"⟩
theorem pl_X2_digitCount : plainFor y_X2_digitCount = true := plainFor_of_name (by decide)
theorem nm_X2_digitCount : (y_X2_digitCount).cls ≠ "java/lang/invoke/MethodHandle" ∧ (y_X2_digitCount).cls ≠ "java/lang/invoke/VarHandle" ∧ (parseMethodDescriptor (y_X2_digitCount).desc).map (fun d => d.parameters.length) = some 0 := ⟨by decide, by decide, by decide +kernel⟩
abbrev y_J9_max_f86c9 : MethodName := ⟨"java/lang/Math", "max", "(JJ)J"⟩
theorem pl_J9_max_f86c9 : plainFor y_J9_max_f86c9 = true := by decide +kernel
theorem nm_J9_max_f86c9 : (y_J9_max_f86c9).cls ≠ "java/lang/invoke/MethodHandle" ∧ (y_J9_max_f86c9).cls ≠ "java/lang/invoke/VarHandle" ∧ (parseMethodDescriptor (y_J9_max_f86c9).desc).map (fun d => d.parameters.length) = some 2 := ⟨by decide, by decide, by decide +kernel⟩
abbrev y_X1_planPlain : MethodName := ⟨"TensMill$Layout", "planPlain", "(LTensMill$Decimal;)V"⟩
theorem pl_X1_planPlain : plainFor y_X1_planPlain = true := plainFor_of_name (by decide)
theorem nm_X1_planPlain : (y_X1_planPlain).cls ≠ "java/lang/invoke/MethodHandle" ∧ (y_X1_planPlain).cls ≠ "java/lang/invoke/VarHandle" ∧ (parseMethodDescriptor (y_X1_planPlain).desc).map (fun d => d.parameters.length) = some 1 := ⟨by decide, by decide, by decide +kernel⟩
abbrev y_J9_floorMod_f86c9 : MethodName := ⟨"java/lang/Math", "floorMod", "(JJ)J"⟩
theorem pl_J9_floorMod_f86c9 : plainFor y_J9_floorMod_f86c9 = true := by decide +kernel
theorem nm_J9_floorMod_f86c9 : (y_J9_floorMod_f86c9).cls ≠ "java/lang/invoke/MethodHandle" ∧ (y_J9_floorMod_f86c9).cls ≠ "java/lang/invoke/VarHandle" ∧ (parseMethodDescriptor (y_J9_floorMod_f86c9).desc).map (fun d => d.parameters.length) = some 2 := ⟨by decide, by decide, by decide +kernel⟩
abbrev y_X1_plan : MethodName := ⟨"TensMill$Layout", "plan", "(LTensMill$Decimal;I)V"⟩
theorem pl_X1_plan : plainFor y_X1_plan = true := plainFor_of_name (by decide)
theorem nm_X1_plan : (y_X1_plan).cls ≠ "java/lang/invoke/MethodHandle" ∧ (y_X1_plan).cls ≠ "java/lang/invoke/VarHandle" ∧ (parseMethodDescriptor (y_X1_plan).desc).map (fun d => d.parameters.length) = some 2 := ⟨by decide, by decide, by decide +kernel⟩
abbrev y_J9_abs_067f4 : MethodName := ⟨"java/lang/Math", "abs", "(J)J"⟩
theorem pl_J9_abs_067f4 : plainFor y_J9_abs_067f4 = true := by decide +kernel
theorem nm_J9_abs_067f4 : (y_J9_abs_067f4).cls ≠ "java/lang/invoke/MethodHandle" ∧ (y_J9_abs_067f4).cls ≠ "java/lang/invoke/VarHandle" ∧ (parseMethodDescriptor (y_J9_abs_067f4).desc).map (fun d => d.parameters.length) = some 1 := ⟨by decide, by decide, by decide +kernel⟩
abbrev y_X1_highestUnit : MethodName := ⟨"TensMill$Layout", "highestUnit", "()J"⟩
theorem pl_X1_highestUnit : plainFor y_X1_highestUnit = true := plainFor_of_name (by decide)
theorem nm_X1_highestUnit : (y_X1_highestUnit).cls ≠ "java/lang/invoke/MethodHandle" ∧ (y_X1_highestUnit).cls ≠ "java/lang/invoke/VarHandle" ∧ (parseMethodDescriptor (y_X1_highestUnit).desc).map (fun d => d.parameters.length) = some 0 := ⟨by decide, by decide, by decide +kernel⟩
abbrev y_X1_length : MethodName := ⟨"TensMill$Layout", "length", "()J"⟩
theorem pl_X1_length : plainFor y_X1_length = true := plainFor_of_name (by decide)
theorem nm_X1_length : (y_X1_length).cls ≠ "java/lang/invoke/MethodHandle" ∧ (y_X1_length).cls ≠ "java/lang/invoke/VarHandle" ∧ (parseMethodDescriptor (y_X1_length).desc).map (fun d => d.parameters.length) = some 0 := ⟨by decide, by decide, by decide +kernel⟩
abbrev y_J7_copyOf_9075b : MethodName := ⟨"java/util/Arrays", "copyOf", "([BI)[B"⟩
theorem pl_J7_copyOf_9075b : plainFor y_J7_copyOf_9075b = true := plainFor_of_name (by decide)
theorem nm_J7_copyOf_9075b : (y_J7_copyOf_9075b).cls ≠ "java/lang/invoke/MethodHandle" ∧ (y_J7_copyOf_9075b).cls ≠ "java/lang/invoke/VarHandle" ∧ (parseMethodDescriptor (y_J7_copyOf_9075b).desc).map (fun d => d.parameters.length) = some 2 := ⟨by decide, by decide, by decide +kernel⟩
abbrev y_X4_makeRoom : MethodName := ⟨"TensMill$Text", "makeRoom", "(I)V"⟩
theorem pl_X4_makeRoom : plainFor y_X4_makeRoom = true := plainFor_of_name (by decide)
theorem nm_X4_makeRoom : (y_X4_makeRoom).cls ≠ "java/lang/invoke/MethodHandle" ∧ (y_X4_makeRoom).cls ≠ "java/lang/invoke/VarHandle" ∧ (parseMethodDescriptor (y_X4_makeRoom).desc).map (fun d => d.parameters.length) = some 1 := ⟨by decide, by decide, by decide +kernel⟩
abbrev y_X4_append : MethodName := ⟨"TensMill$Text", "append", "(I)V"⟩
theorem pl_X4_append : plainFor y_X4_append = true := plainFor_of_name (by decide)
theorem nm_X4_append : (y_X4_append).cls ≠ "java/lang/invoke/MethodHandle" ∧ (y_X4_append).cls ≠ "java/lang/invoke/VarHandle" ∧ (parseMethodDescriptor (y_X4_append).desc).map (fun d => d.parameters.length) = some 1 := ⟨by decide, by decide, by decide +kernel⟩
abbrev y_X2_digitAt : MethodName := ⟨"TensMill$Natural", "digitAt", "(I)I"⟩
theorem pl_X2_digitAt : plainFor y_X2_digitAt = true := plainFor_of_name (by decide)
theorem nm_X2_digitAt : (y_X2_digitAt).cls ≠ "java/lang/invoke/MethodHandle" ∧ (y_X2_digitAt).cls ≠ "java/lang/invoke/VarHandle" ∧ (parseMethodDescriptor (y_X2_digitAt).desc).map (fun d => d.parameters.length) = some 1 := ⟨by decide, by decide, by decide +kernel⟩
abbrev y_X1_layExponent : MethodName := ⟨"TensMill$Layout", "layExponent", "(LTensMill$Text;)V"⟩
theorem pl_X1_layExponent : plainFor y_X1_layExponent = true := plainFor_of_name (by decide)
theorem nm_X1_layExponent : (y_X1_layExponent).cls ≠ "java/lang/invoke/MethodHandle" ∧ (y_X1_layExponent).cls ≠ "java/lang/invoke/VarHandle" ∧ (parseMethodDescriptor (y_X1_layExponent).desc).map (fun d => d.parameters.length) = some 1 := ⟨by decide, by decide, by decide +kernel⟩
abbrev y_X1_lay : MethodName := ⟨"TensMill$Layout", "lay", "(LTensMill$Natural;LTensMill$Text;)V"⟩
theorem pl_X1_lay : plainFor y_X1_lay = true := plainFor_of_name (by decide)
theorem nm_X1_lay : (y_X1_lay).cls ≠ "java/lang/invoke/MethodHandle" ∧ (y_X1_lay).cls ≠ "java/lang/invoke/VarHandle" ∧ (parseMethodDescriptor (y_X1_lay).desc).map (fun d => d.parameters.length) = some 2 := ⟨by decide, by decide, by decide +kernel⟩
abbrev y_X2_isOne : MethodName := ⟨"TensMill$Natural", "isOne", "()Z"⟩
theorem pl_X2_isOne : plainFor y_X2_isOne = true := plainFor_of_name (by decide)
theorem nm_X2_isOne : (y_X2_isOne).cls ≠ "java/lang/invoke/MethodHandle" ∧ (y_X2_isOne).cls ≠ "java/lang/invoke/VarHandle" ∧ (parseMethodDescriptor (y_X2_isOne).desc).map (fun d => d.parameters.length) = some 0 := ⟨by decide, by decide, by decide +kernel⟩
abbrev y_X2_isOdd : MethodName := ⟨"TensMill$Natural", "isOdd", "()Z"⟩
theorem pl_X2_isOdd : plainFor y_X2_isOdd = true := plainFor_of_name (by decide)
theorem nm_X2_isOdd : (y_X2_isOdd).cls ≠ "java/lang/invoke/MethodHandle" ∧ (y_X2_isOdd).cls ≠ "java/lang/invoke/VarHandle" ∧ (parseMethodDescriptor (y_X2_isOdd).desc).map (fun d => d.parameters.length) = some 0 := ⟨by decide, by decide, by decide +kernel⟩
abbrev y_X2_endingZeros : MethodName := ⟨"TensMill$Natural", "endingZeros", "()I"⟩
theorem pl_X2_endingZeros : plainFor y_X2_endingZeros = true := plainFor_of_name (by decide)
theorem nm_X2_endingZeros : (y_X2_endingZeros).cls ≠ "java/lang/invoke/MethodHandle" ∧ (y_X2_endingZeros).cls ≠ "java/lang/invoke/VarHandle" ∧ (parseMethodDescriptor (y_X2_endingZeros).desc).map (fun d => d.parameters.length) = some 0 := ⟨by decide, by decide, by decide +kernel⟩
abbrev y_X2_hasDigitsBelow : MethodName := ⟨"TensMill$Natural", "hasDigitsBelow", "(I)Z"⟩
theorem pl_X2_hasDigitsBelow : plainFor y_X2_hasDigitsBelow = true := plainFor_of_name (by decide)
theorem nm_X2_hasDigitsBelow : (y_X2_hasDigitsBelow).cls ≠ "java/lang/invoke/MethodHandle" ∧ (y_X2_hasDigitsBelow).cls ≠ "java/lang/invoke/VarHandle" ∧ (parseMethodDescriptor (y_X2_hasDigitsBelow).desc).map (fun d => d.parameters.length) = some 1 := ⟨by decide, by decide, by decide +kernel⟩
abbrev y_X2_clear : MethodName := ⟨"TensMill$Natural", "clear", "()V"⟩
theorem pl_X2_clear : plainFor y_X2_clear = true := plainFor_of_name (by decide)
theorem nm_X2_clear : (y_X2_clear).cls ≠ "java/lang/invoke/MethodHandle" ∧ (y_X2_clear).cls ≠ "java/lang/invoke/VarHandle" ∧ (parseMethodDescriptor (y_X2_clear).desc).map (fun d => d.parameters.length) = some 0 := ⟨by decide, by decide, by decide +kernel⟩
abbrev y_J9_abs_0f7a4 : MethodName := ⟨"java/lang/Math", "abs", "(I)I"⟩
theorem pl_J9_abs_0f7a4 : plainFor y_J9_abs_0f7a4 = true := by decide +kernel
theorem nm_J9_abs_0f7a4 : (y_J9_abs_0f7a4).cls ≠ "java/lang/invoke/MethodHandle" ∧ (y_J9_abs_0f7a4).cls ≠ "java/lang/invoke/VarHandle" ∧ (parseMethodDescriptor (y_J9_abs_0f7a4).desc).map (fun d => d.parameters.length) = some 1 := ⟨by decide, by decide, by decide +kernel⟩
abbrev y_X2_becomeSizeOf : MethodName := ⟨"TensMill$Natural", "becomeSizeOf", "(J)V"⟩
theorem pl_X2_becomeSizeOf : plainFor y_X2_becomeSizeOf = true := plainFor_of_name (by decide)
theorem nm_X2_becomeSizeOf : (y_X2_becomeSizeOf).cls ≠ "java/lang/invoke/MethodHandle" ∧ (y_X2_becomeSizeOf).cls ≠ "java/lang/invoke/VarHandle" ∧ (parseMethodDescriptor (y_X2_becomeSizeOf).desc).map (fun d => d.parameters.length) = some 1 := ⟨by decide, by decide, by decide +kernel⟩
abbrev y_X2_emptyLimbs : MethodName := ⟨"TensMill$Natural", "emptyLimbs", "(I)V"⟩
theorem pl_X2_emptyLimbs : plainFor y_X2_emptyLimbs = true := plainFor_of_name (by decide)
theorem nm_X2_emptyLimbs : (y_X2_emptyLimbs).cls ≠ "java/lang/invoke/MethodHandle" ∧ (y_X2_emptyLimbs).cls ≠ "java/lang/invoke/VarHandle" ∧ (parseMethodDescriptor (y_X2_emptyLimbs).desc).map (fun d => d.parameters.length) = some 1 := ⟨by decide, by decide, by decide +kernel⟩
abbrev y_X4_codeAt : MethodName := ⟨"TensMill$Text", "codeAt", "(I)I"⟩
theorem pl_X4_codeAt : plainFor y_X4_codeAt = true := plainFor_of_name (by decide)
theorem nm_X4_codeAt : (y_X4_codeAt).cls ≠ "java/lang/invoke/MethodHandle" ∧ (y_X4_codeAt).cls ≠ "java/lang/invoke/VarHandle" ∧ (parseMethodDescriptor (y_X4_codeAt).desc).map (fun d => d.parameters.length) = some 1 := ⟨by decide, by decide, by decide +kernel⟩
abbrev y_X2_trim : MethodName := ⟨"TensMill$Natural", "trim", "()V"⟩
theorem pl_X2_trim : plainFor y_X2_trim = true := plainFor_of_name (by decide)
theorem nm_X2_trim : (y_X2_trim).cls ≠ "java/lang/invoke/MethodHandle" ∧ (y_X2_trim).cls ≠ "java/lang/invoke/VarHandle" ∧ (parseMethodDescriptor (y_X2_trim).desc).map (fun d => d.parameters.length) = some 0 := ⟨by decide, by decide, by decide +kernel⟩
abbrev y_X2_becomeDigits : MethodName := ⟨"TensMill$Natural", "becomeDigits", "(LTensMill$Text;II)V"⟩
theorem pl_X2_becomeDigits : plainFor y_X2_becomeDigits = true := plainFor_of_name (by decide)
theorem nm_X2_becomeDigits : (y_X2_becomeDigits).cls ≠ "java/lang/invoke/MethodHandle" ∧ (y_X2_becomeDigits).cls ≠ "java/lang/invoke/VarHandle" ∧ (parseMethodDescriptor (y_X2_becomeDigits).desc).map (fun d => d.parameters.length) = some 3 := ⟨by decide, by decide, by decide +kernel⟩
abbrev y_X2_raise : MethodName := ⟨"TensMill$Natural", "raise", "(LTensMill$Natural;I)V"⟩
theorem pl_X2_raise : plainFor y_X2_raise = true := plainFor_of_name (by decide)
theorem nm_X2_raise : (y_X2_raise).cls ≠ "java/lang/invoke/MethodHandle" ∧ (y_X2_raise).cls ≠ "java/lang/invoke/VarHandle" ∧ (parseMethodDescriptor (y_X2_raise).desc).map (fun d => d.parameters.length) = some 2 := ⟨by decide, by decide, by decide +kernel⟩
abbrev y_X2_drop : MethodName := ⟨"TensMill$Natural", "drop", "(I)V"⟩
theorem pl_X2_drop : plainFor y_X2_drop = true := plainFor_of_name (by decide)
theorem nm_X2_drop : (y_X2_drop).cls ≠ "java/lang/invoke/MethodHandle" ∧ (y_X2_drop).cls ≠ "java/lang/invoke/VarHandle" ∧ (parseMethodDescriptor (y_X2_drop).desc).map (fun d => d.parameters.length) = some 1 := ⟨by decide, by decide, by decide +kernel⟩
abbrev y_X2_cut : MethodName := ⟨"TensMill$Natural", "cut", "(IZ)I"⟩
theorem pl_X2_cut : plainFor y_X2_cut = true := plainFor_of_name (by decide)
theorem nm_X2_cut : (y_X2_cut).cls ≠ "java/lang/invoke/MethodHandle" ∧ (y_X2_cut).cls ≠ "java/lang/invoke/VarHandle" ∧ (parseMethodDescriptor (y_X2_cut).desc).map (fun d => d.parameters.length) = some 2 := ⟨by decide, by decide, by decide +kernel⟩
abbrev y_X2_addOne : MethodName := ⟨"TensMill$Natural", "addOne", "()V"⟩
theorem pl_X2_addOne : plainFor y_X2_addOne = true := plainFor_of_name (by decide)
theorem nm_X2_addOne : (y_X2_addOne).cls ≠ "java/lang/invoke/MethodHandle" ∧ (y_X2_addOne).cls ≠ "java/lang/invoke/VarHandle" ∧ (parseMethodDescriptor (y_X2_addOne).desc).map (fun d => d.parameters.length) = some 0 := ⟨by decide, by decide, by decide +kernel⟩
abbrev y_X2_order : MethodName := ⟨"TensMill$Natural", "order", "(LTensMill$Natural;LTensMill$Natural;)I"⟩
theorem pl_X2_order : plainFor y_X2_order = true := plainFor_of_name (by decide)
theorem nm_X2_order : (y_X2_order).cls ≠ "java/lang/invoke/MethodHandle" ∧ (y_X2_order).cls ≠ "java/lang/invoke/VarHandle" ∧ (parseMethodDescriptor (y_X2_order).desc).map (fun d => d.parameters.length) = some 2 := ⟨by decide, by decide, by decide +kernel⟩
abbrev y_X2_becomeSum : MethodName := ⟨"TensMill$Natural", "becomeSum", "(LTensMill$Natural;LTensMill$Natural;)V"⟩
theorem pl_X2_becomeSum : plainFor y_X2_becomeSum = true := plainFor_of_name (by decide)
theorem nm_X2_becomeSum : (y_X2_becomeSum).cls ≠ "java/lang/invoke/MethodHandle" ∧ (y_X2_becomeSum).cls ≠ "java/lang/invoke/VarHandle" ∧ (parseMethodDescriptor (y_X2_becomeSum).desc).map (fun d => d.parameters.length) = some 2 := ⟨by decide, by decide, by decide +kernel⟩
abbrev y_X2_subtract : MethodName := ⟨"TensMill$Natural", "subtract", "(LTensMill$Natural;)V"⟩
theorem pl_X2_subtract : plainFor y_X2_subtract = true := plainFor_of_name (by decide)
theorem nm_X2_subtract : (y_X2_subtract).cls ≠ "java/lang/invoke/MethodHandle" ∧ (y_X2_subtract).cls ≠ "java/lang/invoke/VarHandle" ∧ (parseMethodDescriptor (y_X2_subtract).desc).map (fun d => d.parameters.length) = some 1 := ⟨by decide, by decide, by decide +kernel⟩
abbrev y_X2_addTimes : MethodName := ⟨"TensMill$Natural", "addTimes", "([IIJI)V"⟩
theorem pl_X2_addTimes : plainFor y_X2_addTimes = true := plainFor_of_name (by decide)
theorem nm_X2_addTimes : (y_X2_addTimes).cls ≠ "java/lang/invoke/MethodHandle" ∧ (y_X2_addTimes).cls ≠ "java/lang/invoke/VarHandle" ∧ (parseMethodDescriptor (y_X2_addTimes).desc).map (fun d => d.parameters.length) = some 4 := ⟨by decide, by decide, by decide +kernel⟩
abbrev y_X2_becomeProduct : MethodName := ⟨"TensMill$Natural", "becomeProduct", "(LTensMill$Natural;LTensMill$Natural;)V"⟩
theorem pl_X2_becomeProduct : plainFor y_X2_becomeProduct = true := plainFor_of_name (by decide)
theorem nm_X2_becomeProduct : (y_X2_becomeProduct).cls ≠ "java/lang/invoke/MethodHandle" ∧ (y_X2_becomeProduct).cls ≠ "java/lang/invoke/VarHandle" ∧ (parseMethodDescriptor (y_X2_becomeProduct).desc).map (fun d => d.parameters.length) = some 2 := ⟨by decide, by decide, by decide +kernel⟩
abbrev y_X2_reduceByLimb : MethodName := ⟨"TensMill$Natural", "reduceByLimb", "(LTensMill$Natural;I)V"⟩
theorem pl_X2_reduceByLimb : plainFor y_X2_reduceByLimb = true := plainFor_of_name (by decide)
theorem nm_X2_reduceByLimb : (y_X2_reduceByLimb).cls ≠ "java/lang/invoke/MethodHandle" ∧ (y_X2_reduceByLimb).cls ≠ "java/lang/invoke/VarHandle" ∧ (parseMethodDescriptor (y_X2_reduceByLimb).desc).map (fun d => d.parameters.length) = some 2 := ⟨by decide, by decide, by decide +kernel⟩
abbrev y_J9_min_f86c9 : MethodName := ⟨"java/lang/Math", "min", "(JJ)J"⟩
theorem pl_J9_min_f86c9 : plainFor y_J9_min_f86c9 = true := by decide +kernel
theorem nm_J9_min_f86c9 : (y_J9_min_f86c9).cls ≠ "java/lang/invoke/MethodHandle" ∧ (y_J9_min_f86c9).cls ≠ "java/lang/invoke/VarHandle" ∧ (parseMethodDescriptor (y_J9_min_f86c9).desc).map (fun d => d.parameters.length) = some 2 := ⟨by decide, by decide, by decide +kernel⟩
abbrev y_X2_refine : MethodName := ⟨"TensMill$Natural", "refine", "(JJJJJ)I"⟩
theorem pl_X2_refine : plainFor y_X2_refine = true := plainFor_of_name (by decide)
theorem nm_X2_refine : (y_X2_refine).cls ≠ "java/lang/invoke/MethodHandle" ∧ (y_X2_refine).cls ≠ "java/lang/invoke/VarHandle" ∧ (parseMethodDescriptor (y_X2_refine).desc).map (fun d => d.parameters.length) = some 5 := ⟨by decide, by decide, by decide +kernel⟩
abbrev y_X2_guessLimb : MethodName := ⟨"TensMill$Natural", "guessLimb", "([III)I"⟩
theorem pl_X2_guessLimb : plainFor y_X2_guessLimb = true := plainFor_of_name (by decide)
theorem nm_X2_guessLimb : (y_X2_guessLimb).cls ≠ "java/lang/invoke/MethodHandle" ∧ (y_X2_guessLimb).cls ≠ "java/lang/invoke/VarHandle" ∧ (parseMethodDescriptor (y_X2_guessLimb).desc).map (fun d => d.parameters.length) = some 3 := ⟨by decide, by decide, by decide +kernel⟩
abbrev y_X2_subtractTimes : MethodName := ⟨"TensMill$Natural", "subtractTimes", "([IIIJI)J"⟩
theorem pl_X2_subtractTimes : plainFor y_X2_subtractTimes = true := plainFor_of_name (by decide)
theorem nm_X2_subtractTimes : (y_X2_subtractTimes).cls ≠ "java/lang/invoke/MethodHandle" ∧ (y_X2_subtractTimes).cls ≠ "java/lang/invoke/VarHandle" ∧ (parseMethodDescriptor (y_X2_subtractTimes).desc).map (fun d => d.parameters.length) = some 5 := ⟨by decide, by decide, by decide +kernel⟩
abbrev y_X2_addBack : MethodName := ⟨"TensMill$Natural", "addBack", "([IIII)J"⟩
theorem pl_X2_addBack : plainFor y_X2_addBack = true := plainFor_of_name (by decide)
theorem nm_X2_addBack : (y_X2_addBack).cls ≠ "java/lang/invoke/MethodHandle" ∧ (y_X2_addBack).cls ≠ "java/lang/invoke/VarHandle" ∧ (parseMethodDescriptor (y_X2_addBack).desc).map (fun d => d.parameters.length) = some 4 := ⟨by decide, by decide, by decide +kernel⟩
abbrev y_X2_takeLimb : MethodName := ⟨"TensMill$Natural", "takeLimb", "([IIII)I"⟩
theorem pl_X2_takeLimb : plainFor y_X2_takeLimb = true := plainFor_of_name (by decide)
theorem nm_X2_takeLimb : (y_X2_takeLimb).cls ≠ "java/lang/invoke/MethodHandle" ∧ (y_X2_takeLimb).cls ≠ "java/lang/invoke/VarHandle" ∧ (parseMethodDescriptor (y_X2_takeLimb).desc).map (fun d => d.parameters.length) = some 4 := ⟨by decide, by decide, by decide +kernel⟩
abbrev y_X2_reduce : MethodName := ⟨"TensMill$Natural", "reduce", "(LTensMill$Natural;LTensMill$Natural;)V"⟩
theorem pl_X2_reduce : plainFor y_X2_reduce = true := plainFor_of_name (by decide)
theorem nm_X2_reduce : (y_X2_reduce).cls ≠ "java/lang/invoke/MethodHandle" ∧ (y_X2_reduce).cls ≠ "java/lang/invoke/VarHandle" ∧ (parseMethodDescriptor (y_X2_reduce).desc).map (fun d => d.parameters.length) = some 2 := ⟨by decide, by decide, by decide +kernel⟩
abbrev y_X2_rootOf : MethodName := ⟨"TensMill$Natural", "rootOf", "(J)J"⟩
theorem pl_X2_rootOf : plainFor y_X2_rootOf = true := plainFor_of_name (by decide)
theorem nm_X2_rootOf : (y_X2_rootOf).cls ≠ "java/lang/invoke/MethodHandle" ∧ (y_X2_rootOf).cls ≠ "java/lang/invoke/VarHandle" ∧ (parseMethodDescriptor (y_X2_rootOf).desc).map (fun d => d.parameters.length) = some 1 := ⟨by decide, by decide, by decide +kernel⟩
abbrev y_X2_guessRootLimb : MethodName := ⟨"TensMill$Natural", "guessRootLimb", "([III)I"⟩
theorem pl_X2_guessRootLimb : plainFor y_X2_guessRootLimb = true := plainFor_of_name (by decide)
theorem nm_X2_guessRootLimb : (y_X2_guessRootLimb).cls ≠ "java/lang/invoke/MethodHandle" ∧ (y_X2_guessRootLimb).cls ≠ "java/lang/invoke/VarHandle" ∧ (parseMethodDescriptor (y_X2_guessRootLimb).desc).map (fun d => d.parameters.length) = some 3 := ⟨by decide, by decide, by decide +kernel⟩
abbrev y_X2_takeRootLimb : MethodName := ⟨"TensMill$Natural", "takeRootLimb", "([IIII)I"⟩
theorem pl_X2_takeRootLimb : plainFor y_X2_takeRootLimb = true := plainFor_of_name (by decide)
theorem nm_X2_takeRootLimb : (y_X2_takeRootLimb).cls ≠ "java/lang/invoke/MethodHandle" ∧ (y_X2_takeRootLimb).cls ≠ "java/lang/invoke/VarHandle" ∧ (parseMethodDescriptor (y_X2_takeRootLimb).desc).map (fun d => d.parameters.length) = some 4 := ⟨by decide, by decide, by decide +kernel⟩
abbrev y_X2_takeRoot : MethodName := ⟨"TensMill$Natural", "takeRoot", "(LTensMill$Natural;LTensMill$Natural;)V"⟩
theorem pl_X2_takeRoot : plainFor y_X2_takeRoot = true := plainFor_of_name (by decide)
theorem nm_X2_takeRoot : (y_X2_takeRoot).cls ≠ "java/lang/invoke/MethodHandle" ∧ (y_X2_takeRoot).cls ≠ "java/lang/invoke/VarHandle" ∧ (parseMethodDescriptor (y_X2_takeRoot).desc).map (fun d => d.parameters.length) = some 2 := ⟨by decide, by decide, by decide +kernel⟩
abbrev y_X3_init : MethodName := ⟨"TensMill$Numeral", "<init>", "()V"⟩
theorem pl_X3_init : plainFor y_X3_init = true := plainFor_of_name (by decide)
theorem nm_X3_init : (y_X3_init).cls ≠ "java/lang/invoke/MethodHandle" ∧ (y_X3_init).cls ≠ "java/lang/invoke/VarHandle" ∧ (parseMethodDescriptor (y_X3_init).desc).map (fun d => d.parameters.length) = some 0 := ⟨by decide, by decide, by decide +kernel⟩
abbrev y_X4_hasSignAt : MethodName := ⟨"TensMill$Text", "hasSignAt", "(I)Z"⟩
theorem pl_X4_hasSignAt : plainFor y_X4_hasSignAt = true := plainFor_of_name (by decide)
theorem nm_X4_hasSignAt : (y_X4_hasSignAt).cls ≠ "java/lang/invoke/MethodHandle" ∧ (y_X4_hasSignAt).cls ≠ "java/lang/invoke/VarHandle" ∧ (parseMethodDescriptor (y_X4_hasSignAt).desc).map (fun d => d.parameters.length) = some 1 := ⟨by decide, by decide, by decide +kernel⟩
abbrev y_X4_hasDigitAt : MethodName := ⟨"TensMill$Text", "hasDigitAt", "(I)Z"⟩
theorem pl_X4_hasDigitAt : plainFor y_X4_hasDigitAt = true := plainFor_of_name (by decide)
theorem nm_X4_hasDigitAt : (y_X4_hasDigitAt).cls ≠ "java/lang/invoke/MethodHandle" ∧ (y_X4_hasDigitAt).cls ≠ "java/lang/invoke/VarHandle" ∧ (parseMethodDescriptor (y_X4_hasDigitAt).desc).map (fun d => d.parameters.length) = some 1 := ⟨by decide, by decide, by decide +kernel⟩
abbrev y_X3_findDigits : MethodName := ⟨"TensMill$Numeral", "findDigits", "(LTensMill$Text;)Z"⟩
theorem pl_X3_findDigits : plainFor y_X3_findDigits = true := plainFor_of_name (by decide)
theorem nm_X3_findDigits : (y_X3_findDigits).cls ≠ "java/lang/invoke/MethodHandle" ∧ (y_X3_findDigits).cls ≠ "java/lang/invoke/VarHandle" ∧ (parseMethodDescriptor (y_X3_findDigits).desc).map (fun d => d.parameters.length) = some 1 := ⟨by decide, by decide, by decide +kernel⟩
abbrev y_X3_findExponent : MethodName := ⟨"TensMill$Numeral", "findExponent", "(LTensMill$Text;I)Z"⟩
theorem pl_X3_findExponent : plainFor y_X3_findExponent = true := plainFor_of_name (by decide)
theorem nm_X3_findExponent : (y_X3_findExponent).cls ≠ "java/lang/invoke/MethodHandle" ∧ (y_X3_findExponent).cls ≠ "java/lang/invoke/VarHandle" ∧ (parseMethodDescriptor (y_X3_findExponent).desc).map (fun d => d.parameters.length) = some 2 := ⟨by decide, by decide, by decide +kernel⟩
abbrev y_X3_parse : MethodName := ⟨"TensMill$Numeral", "parse", "(LTensMill$Text;)Z"⟩
theorem pl_X3_parse : plainFor y_X3_parse = true := plainFor_of_name (by decide)
theorem nm_X3_parse : (y_X3_parse).cls ≠ "java/lang/invoke/MethodHandle" ∧ (y_X3_parse).cls ≠ "java/lang/invoke/VarHandle" ∧ (parseMethodDescriptor (y_X3_parse).desc).map (fun d => d.parameters.length) = some 1 := ⟨by decide, by decide, by decide +kernel⟩
abbrev y_X4_init : MethodName := ⟨"TensMill$Text", "<init>", "()V"⟩
theorem pl_X4_init : plainFor y_X4_init = true := plainFor_of_name (by decide)
theorem nm_X4_init : (y_X4_init).cls ≠ "java/lang/invoke/MethodHandle" ∧ (y_X4_init).cls ≠ "java/lang/invoke/VarHandle" ∧ (parseMethodDescriptor (y_X4_init).desc).map (fun d => d.parameters.length) = some 0 := ⟨by decide, by decide, by decide +kernel⟩
abbrev y_X5_init : MethodName := ⟨"TensMill", "<init>", "()V"⟩
theorem pl_X5_init : plainFor y_X5_init = true := plainFor_of_name (by decide)
theorem nm_X5_init : (y_X5_init).cls ≠ "java/lang/invoke/MethodHandle" ∧ (y_X5_init).cls ≠ "java/lang/invoke/VarHandle" ∧ (parseMethodDescriptor (y_X5_init).desc).map (fun d => d.parameters.length) = some 0 := ⟨by decide, by decide, by decide +kernel⟩
abbrev y_X5_isRegister : MethodName := ⟨"TensMill", "isRegister", "(I)Z"⟩
theorem pl_X5_isRegister : plainFor y_X5_isRegister = true := plainFor_of_name (by decide)
theorem nm_X5_isRegister : (y_X5_isRegister).cls ≠ "java/lang/invoke/MethodHandle" ∧ (y_X5_isRegister).cls ≠ "java/lang/invoke/VarHandle" ∧ (parseMethodDescriptor (y_X5_isRegister).desc).map (fun d => d.parameters.length) = some 1 := ⟨by decide, by decide, by decide +kernel⟩
abbrev y_X5_fits : MethodName := ⟨"TensMill", "fits", "(LTensMill$Natural;J)Z"⟩
theorem pl_X5_fits : plainFor y_X5_fits = true := plainFor_of_name (by decide)
theorem nm_X5_fits : (y_X5_fits).cls ≠ "java/lang/invoke/MethodHandle" ∧ (y_X5_fits).cls ≠ "java/lang/invoke/VarHandle" ∧ (parseMethodDescriptor (y_X5_fits).desc).map (fun d => d.parameters.length) = some 2 := ⟨by decide, by decide, by decide +kernel⟩
abbrev y_X5_keep : MethodName := ⟨"TensMill", "keep", "(ILTensMill$Natural;ZJ)Z"⟩
theorem pl_X5_keep : plainFor y_X5_keep = true := plainFor_of_name (by decide)
theorem nm_X5_keep : (y_X5_keep).cls ≠ "java/lang/invoke/MethodHandle" ∧ (y_X5_keep).cls ≠ "java/lang/invoke/VarHandle" ∧ (parseMethodDescriptor (y_X5_keep).desc).map (fun d => d.parameters.length) = some 4 := ⟨by decide, by decide, by decide +kernel⟩
abbrev y_X5_put : MethodName := ⟨"TensMill", "put", "(IJI)Z"⟩
theorem pl_X5_put : plainFor y_X5_put = true := plainFor_of_name (by decide)
theorem nm_X5_put : (y_X5_put).cls ≠ "java/lang/invoke/MethodHandle" ∧ (y_X5_put).cls ≠ "java/lang/invoke/VarHandle" ∧ (parseMethodDescriptor (y_X5_put).desc).map (fun d => d.parameters.length) = some 3 := ⟨by decide, by decide, by decide +kernel⟩
abbrev y_X5_copy : MethodName := ⟨"TensMill", "copy", "(IIZ)Z"⟩
theorem pl_X5_copy : plainFor y_X5_copy = true := plainFor_of_name (by decide)
theorem nm_X5_copy : (y_X5_copy).cls ≠ "java/lang/invoke/MethodHandle" ∧ (y_X5_copy).cls ≠ "java/lang/invoke/VarHandle" ∧ (parseMethodDescriptor (y_X5_copy).desc).map (fun d => d.parameters.length) = some 3 := ⟨by decide, by decide, by decide +kernel⟩
abbrev y_X5_align : MethodName := ⟨"TensMill", "align", "(LTensMill$Natural;LTensMill$Decimal;I)Z"⟩
theorem pl_X5_align : plainFor y_X5_align = true := plainFor_of_name (by decide)
theorem nm_X5_align : (y_X5_align).cls ≠ "java/lang/invoke/MethodHandle" ∧ (y_X5_align).cls ≠ "java/lang/invoke/VarHandle" ∧ (parseMethodDescriptor (y_X5_align).desc).map (fun d => d.parameters.length) = some 3 := ⟨by decide, by decide, by decide +kernel⟩
abbrev y_X5_sumUp : MethodName := ⟨"TensMill", "sumUp", "(IIIZ)Z"⟩
theorem pl_X5_sumUp : plainFor y_X5_sumUp = true := plainFor_of_name (by decide)
theorem nm_X5_sumUp : (y_X5_sumUp).cls ≠ "java/lang/invoke/MethodHandle" ∧ (y_X5_sumUp).cls ≠ "java/lang/invoke/VarHandle" ∧ (parseMethodDescriptor (y_X5_sumUp).desc).map (fun d => d.parameters.length) = some 4 := ⟨by decide, by decide, by decide +kernel⟩
abbrev y_X5_add : MethodName := ⟨"TensMill", "add", "(III)Z"⟩
theorem pl_X5_add : plainFor y_X5_add = true := plainFor_of_name (by decide)
theorem nm_X5_add : (y_X5_add).cls ≠ "java/lang/invoke/MethodHandle" ∧ (y_X5_add).cls ≠ "java/lang/invoke/VarHandle" ∧ (parseMethodDescriptor (y_X5_add).desc).map (fun d => d.parameters.length) = some 3 := ⟨by decide, by decide, by decide +kernel⟩
abbrev y_X5_take : MethodName := ⟨"TensMill", "take", "(III)Z"⟩
theorem pl_X5_take : plainFor y_X5_take = true := plainFor_of_name (by decide)
theorem nm_X5_take : (y_X5_take).cls ≠ "java/lang/invoke/MethodHandle" ∧ (y_X5_take).cls ≠ "java/lang/invoke/VarHandle" ∧ (parseMethodDescriptor (y_X5_take).desc).map (fun d => d.parameters.length) = some 3 := ⟨by decide, by decide, by decide +kernel⟩
abbrev y_X5_multiply : MethodName := ⟨"TensMill", "multiply", "(LTensMill$Natural;LTensMill$Natural;LTensMill$Natural;)Z"⟩
theorem pl_X5_multiply : plainFor y_X5_multiply = true := plainFor_of_name (by decide)
theorem nm_X5_multiply : (y_X5_multiply).cls ≠ "java/lang/invoke/MethodHandle" ∧ (y_X5_multiply).cls ≠ "java/lang/invoke/VarHandle" ∧ (parseMethodDescriptor (y_X5_multiply).desc).map (fun d => d.parameters.length) = some 3 := ⟨by decide, by decide, by decide +kernel⟩
abbrev y_X5_times : MethodName := ⟨"TensMill", "times", "(III)Z"⟩
theorem pl_X5_times : plainFor y_X5_times = true := plainFor_of_name (by decide)
theorem nm_X5_times : (y_X5_times).cls ≠ "java/lang/invoke/MethodHandle" ∧ (y_X5_times).cls ≠ "java/lang/invoke/VarHandle" ∧ (parseMethodDescriptor (y_X5_times).desc).map (fun d => d.parameters.length) = some 3 := ⟨by decide, by decide, by decide +kernel⟩
abbrev y_J6_numberOfLeadingZeros_0f7a4 : MethodName := ⟨"java/lang/Integer", "numberOfLeadingZeros", "(I)I"⟩
theorem pl_J6_numberOfLeadingZeros_0f7a4 : plainFor y_J6_numberOfLeadingZeros_0f7a4 = true := by decide +kernel
theorem nm_J6_numberOfLeadingZeros_0f7a4 : (y_J6_numberOfLeadingZeros_0f7a4).cls ≠ "java/lang/invoke/MethodHandle" ∧ (y_J6_numberOfLeadingZeros_0f7a4).cls ≠ "java/lang/invoke/VarHandle" ∧ (parseMethodDescriptor (y_J6_numberOfLeadingZeros_0f7a4).desc).map (fun d => d.parameters.length) = some 1 := ⟨by decide, by decide, by decide +kernel⟩
abbrev y_X5_keepPower : MethodName := ⟨"TensMill", "keepPower", "(ILTensMill$Natural;IZJ)Z"⟩
theorem pl_X5_keepPower : plainFor y_X5_keepPower = true := plainFor_of_name (by decide)
theorem nm_X5_keepPower : (y_X5_keepPower).cls ≠ "java/lang/invoke/MethodHandle" ∧ (y_X5_keepPower).cls ≠ "java/lang/invoke/VarHandle" ∧ (parseMethodDescriptor (y_X5_keepPower).desc).map (fun d => d.parameters.length) = some 5 := ⟨by decide, by decide, by decide +kernel⟩
abbrev y_X5_power : MethodName := ⟨"TensMill", "power", "(III)Z"⟩
theorem pl_X5_power : plainFor y_X5_power = true := plainFor_of_name (by decide)
theorem nm_X5_power : (y_X5_power).cls ≠ "java/lang/invoke/MethodHandle" ∧ (y_X5_power).cls ≠ "java/lang/invoke/VarHandle" ∧ (parseMethodDescriptor (y_X5_power).desc).map (fun d => d.parameters.length) = some 3 := ⟨by decide, by decide, by decide +kernel⟩
abbrev y_X5_isRounding : MethodName := ⟨"TensMill", "isRounding", "(I)Z"⟩
theorem pl_X5_isRounding : plainFor y_X5_isRounding = true := plainFor_of_name (by decide)
theorem nm_X5_isRounding : (y_X5_isRounding).cls ≠ "java/lang/invoke/MethodHandle" ∧ (y_X5_isRounding).cls ≠ "java/lang/invoke/VarHandle" ∧ (parseMethodDescriptor (y_X5_isRounding).desc).map (fun d => d.parameters.length) = some 1 := ⟨by decide, by decide, by decide +kernel⟩
abbrev y_X5_divideRaised : MethodName := ⟨"TensMill", "divideRaised", "(LTensMill$Natural;ILTensMill$Natural;)Z"⟩
theorem pl_X5_divideRaised : plainFor y_X5_divideRaised = true := plainFor_of_name (by decide)
theorem nm_X5_divideRaised : (y_X5_divideRaised).cls ≠ "java/lang/invoke/MethodHandle" ∧ (y_X5_divideRaised).cls ≠ "java/lang/invoke/VarHandle" ∧ (parseMethodDescriptor (y_X5_divideRaised).desc).map (fun d => d.parameters.length) = some 3 := ⟨by decide, by decide, by decide +kernel⟩
abbrev y_X5_goesFarther : MethodName := ⟨"TensMill", "goesFarther", "(IIZZ)Z"⟩
theorem pl_X5_goesFarther : plainFor y_X5_goesFarther = true := plainFor_of_name (by decide)
theorem nm_X5_goesFarther : (y_X5_goesFarther).cls ≠ "java/lang/invoke/MethodHandle" ∧ (y_X5_goesFarther).cls ≠ "java/lang/invoke/VarHandle" ∧ (parseMethodDescriptor (y_X5_goesFarther).desc).map (fun d => d.parameters.length) = some 4 := ⟨by decide, by decide, by decide +kernel⟩
abbrev y_X5_cutQuotient : MethodName := ⟨"TensMill", "cutQuotient", "(IZZI)Z"⟩
theorem pl_X5_cutQuotient : plainFor y_X5_cutQuotient = true := plainFor_of_name (by decide)
theorem nm_X5_cutQuotient : (y_X5_cutQuotient).cls ≠ "java/lang/invoke/MethodHandle" ∧ (y_X5_cutQuotient).cls ≠ "java/lang/invoke/VarHandle" ∧ (parseMethodDescriptor (y_X5_cutQuotient).desc).map (fun d => d.parameters.length) = some 4 := ⟨by decide, by decide, by decide +kernel⟩
abbrev y_X5_divide : MethodName := ⟨"TensMill", "divide", "(IIIII)Z"⟩
theorem pl_X5_divide : plainFor y_X5_divide = true := plainFor_of_name (by decide)
theorem nm_X5_divide : (y_X5_divide).cls ≠ "java/lang/invoke/MethodHandle" ∧ (y_X5_divide).cls ≠ "java/lang/invoke/VarHandle" ∧ (parseMethodDescriptor (y_X5_divide).desc).map (fun d => d.parameters.length) = some 5 := ⟨by decide, by decide, by decide +kernel⟩
abbrev y_X5_isPrecision : MethodName := ⟨"TensMill", "isPrecision", "(I)Z"⟩
theorem pl_X5_isPrecision : plainFor y_X5_isPrecision = true := plainFor_of_name (by decide)
theorem nm_X5_isPrecision : (y_X5_isPrecision).cls ≠ "java/lang/invoke/MethodHandle" ∧ (y_X5_isPrecision).cls ≠ "java/lang/invoke/VarHandle" ∧ (parseMethodDescriptor (y_X5_isPrecision).desc).map (fun d => d.parameters.length) = some 1 := ⟨by decide, by decide, by decide +kernel⟩
abbrev y_X5_keepExactRatio : MethodName := ⟨"TensMill", "keepExactRatio", "(ILTensMill$Decimal;LTensMill$Decimal;J)Z"⟩
theorem pl_X5_keepExactRatio : plainFor y_X5_keepExactRatio = true := plainFor_of_name (by decide)
theorem nm_X5_keepExactRatio : (y_X5_keepExactRatio).cls ≠ "java/lang/invoke/MethodHandle" ∧ (y_X5_keepExactRatio).cls ≠ "java/lang/invoke/VarHandle" ∧ (parseMethodDescriptor (y_X5_keepExactRatio).desc).map (fun d => d.parameters.length) = some 4 := ⟨by decide, by decide, by decide +kernel⟩
abbrev y_X5_keepRounded : MethodName := ⟨"TensMill", "keepRounded", "(IZJZII)Z"⟩
theorem pl_X5_keepRounded : plainFor y_X5_keepRounded = true := plainFor_of_name (by decide)
theorem nm_X5_keepRounded : (y_X5_keepRounded).cls ≠ "java/lang/invoke/MethodHandle" ∧ (y_X5_keepRounded).cls ≠ "java/lang/invoke/VarHandle" ∧ (parseMethodDescriptor (y_X5_keepRounded).desc).map (fun d => d.parameters.length) = some 6 := ⟨by decide, by decide, by decide +kernel⟩
abbrev y_X5_settle : MethodName := ⟨"TensMill", "settle", "(IZJZJII)Z"⟩
theorem pl_X5_settle : plainFor y_X5_settle = true := plainFor_of_name (by decide)
theorem nm_X5_settle : (y_X5_settle).cls ≠ "java/lang/invoke/MethodHandle" ∧ (y_X5_settle).cls ≠ "java/lang/invoke/VarHandle" ∧ (parseMethodDescriptor (y_X5_settle).desc).map (fun d => d.parameters.length) = some 7 := ⟨by decide, by decide, by decide +kernel⟩
abbrev y_X5_ratio : MethodName := ⟨"TensMill", "ratio", "(IIIII)Z"⟩
theorem pl_X5_ratio : plainFor y_X5_ratio = true := plainFor_of_name (by decide)
theorem nm_X5_ratio : (y_X5_ratio).cls ≠ "java/lang/invoke/MethodHandle" ∧ (y_X5_ratio).cls ≠ "java/lang/invoke/VarHandle" ∧ (parseMethodDescriptor (y_X5_ratio).desc).map (fun d => d.parameters.length) = some 5 := ⟨by decide, by decide, by decide +kernel⟩
abbrev y_X5_keepWhole : MethodName := ⟨"TensMill", "keepWhole", "(IILTensMill$Decimal;ZJJ)Z"⟩
theorem pl_X5_keepWhole : plainFor y_X5_keepWhole = true := plainFor_of_name (by decide)
theorem nm_X5_keepWhole : (y_X5_keepWhole).cls ≠ "java/lang/invoke/MethodHandle" ∧ (y_X5_keepWhole).cls ≠ "java/lang/invoke/VarHandle" ∧ (parseMethodDescriptor (y_X5_keepWhole).desc).map (fun d => d.parameters.length) = some 6 := ⟨by decide, by decide, by decide +kernel⟩
abbrev y_X5_keepWholeOfRaised : MethodName := ⟨"TensMill", "keepWholeOfRaised", "(IILTensMill$Decimal;LTensMill$Decimal;J)Z"⟩
theorem pl_X5_keepWholeOfRaised : plainFor y_X5_keepWholeOfRaised = true := plainFor_of_name (by decide)
theorem nm_X5_keepWholeOfRaised : (y_X5_keepWholeOfRaised).cls ≠ "java/lang/invoke/MethodHandle" ∧ (y_X5_keepWholeOfRaised).cls ≠ "java/lang/invoke/VarHandle" ∧ (parseMethodDescriptor (y_X5_keepWholeOfRaised).desc).map (fun d => d.parameters.length) = some 5 := ⟨by decide, by decide, by decide +kernel⟩
abbrev y_X5_whole : MethodName := ⟨"TensMill", "whole", "(IIII)Z"⟩
theorem pl_X5_whole : plainFor y_X5_whole = true := plainFor_of_name (by decide)
theorem nm_X5_whole : (y_X5_whole).cls ≠ "java/lang/invoke/MethodHandle" ∧ (y_X5_whole).cls ≠ "java/lang/invoke/VarHandle" ∧ (parseMethodDescriptor (y_X5_whole).desc).map (fun d => d.parameters.length) = some 4 := ⟨by decide, by decide, by decide +kernel⟩
abbrev y_X5_root : MethodName := ⟨"TensMill", "root", "(IIII)Z"⟩
theorem pl_X5_root : plainFor y_X5_root = true := plainFor_of_name (by decide)
theorem nm_X5_root : (y_X5_root).cls ≠ "java/lang/invoke/MethodHandle" ∧ (y_X5_root).cls ≠ "java/lang/invoke/VarHandle" ∧ (parseMethodDescriptor (y_X5_root).desc).map (fun d => d.parameters.length) = some 4 := ⟨by decide, by decide, by decide +kernel⟩
abbrev y_X5_rescale : MethodName := ⟨"TensMill", "rescale", "(IIII)Z"⟩
theorem pl_X5_rescale : plainFor y_X5_rescale = true := plainFor_of_name (by decide)
theorem nm_X5_rescale : (y_X5_rescale).cls ≠ "java/lang/invoke/MethodHandle" ∧ (y_X5_rescale).cls ≠ "java/lang/invoke/VarHandle" ∧ (parseMethodDescriptor (y_X5_rescale).desc).map (fun d => d.parameters.length) = some 4 := ⟨by decide, by decide, by decide +kernel⟩
abbrev y_X5_round : MethodName := ⟨"TensMill", "round", "(IIII)Z"⟩
theorem pl_X5_round : plainFor y_X5_round = true := plainFor_of_name (by decide)
theorem nm_X5_round : (y_X5_round).cls ≠ "java/lang/invoke/MethodHandle" ∧ (y_X5_round).cls ≠ "java/lang/invoke/VarHandle" ∧ (parseMethodDescriptor (y_X5_round).desc).map (fun d => d.parameters.length) = some 4 := ⟨by decide, by decide, by decide +kernel⟩
abbrev y_X5_strip : MethodName := ⟨"TensMill", "strip", "(II)Z"⟩
theorem pl_X5_strip : plainFor y_X5_strip = true := plainFor_of_name (by decide)
theorem nm_X5_strip : (y_X5_strip).cls ≠ "java/lang/invoke/MethodHandle" ∧ (y_X5_strip).cls ≠ "java/lang/invoke/VarHandle" ∧ (parseMethodDescriptor (y_X5_strip).desc).map (fun d => d.parameters.length) = some 2 := ⟨by decide, by decide, by decide +kernel⟩
abbrev y_X5_move : MethodName := ⟨"TensMill", "move", "(III)Z"⟩
theorem pl_X5_move : plainFor y_X5_move = true := plainFor_of_name (by decide)
theorem nm_X5_move : (y_X5_move).cls ≠ "java/lang/invoke/MethodHandle" ∧ (y_X5_move).cls ≠ "java/lang/invoke/VarHandle" ∧ (parseMethodDescriptor (y_X5_move).desc).map (fun d => d.parameters.length) = some 3 := ⟨by decide, by decide, by decide +kernel⟩
abbrev y_X5_orderOfSizes : MethodName := ⟨"TensMill", "orderOfSizes", "(LTensMill$Decimal;LTensMill$Decimal;)I"⟩
theorem pl_X5_orderOfSizes : plainFor y_X5_orderOfSizes = true := plainFor_of_name (by decide)
theorem nm_X5_orderOfSizes : (y_X5_orderOfSizes).cls ≠ "java/lang/invoke/MethodHandle" ∧ (y_X5_orderOfSizes).cls ≠ "java/lang/invoke/VarHandle" ∧ (parseMethodDescriptor (y_X5_orderOfSizes).desc).map (fun d => d.parameters.length) = some 2 := ⟨by decide, by decide, by decide +kernel⟩
abbrev y_X5_compare : MethodName := ⟨"TensMill", "compare", "(II)I"⟩
theorem pl_X5_compare : plainFor y_X5_compare = true := plainFor_of_name (by decide)
theorem nm_X5_compare : (y_X5_compare).cls ≠ "java/lang/invoke/MethodHandle" ∧ (y_X5_compare).cls ≠ "java/lang/invoke/VarHandle" ∧ (parseMethodDescriptor (y_X5_compare).desc).map (fun d => d.parameters.length) = some 2 := ⟨by decide, by decide, by decide +kernel⟩
abbrev y_X5_sign : MethodName := ⟨"TensMill", "sign", "(I)I"⟩
theorem pl_X5_sign : plainFor y_X5_sign = true := plainFor_of_name (by decide)
theorem nm_X5_sign : (y_X5_sign).cls ≠ "java/lang/invoke/MethodHandle" ∧ (y_X5_sign).cls ≠ "java/lang/invoke/VarHandle" ∧ (parseMethodDescriptor (y_X5_sign).desc).map (fun d => d.parameters.length) = some 1 := ⟨by decide, by decide, by decide +kernel⟩
abbrev y_X5_precision : MethodName := ⟨"TensMill", "precision", "(I)I"⟩
theorem pl_X5_precision : plainFor y_X5_precision = true := plainFor_of_name (by decide)
theorem nm_X5_precision : (y_X5_precision).cls ≠ "java/lang/invoke/MethodHandle" ∧ (y_X5_precision).cls ≠ "java/lang/invoke/VarHandle" ∧ (parseMethodDescriptor (y_X5_precision).desc).map (fun d => d.parameters.length) = some 1 := ⟨by decide, by decide, by decide +kernel⟩
abbrev y_X5_scale : MethodName := ⟨"TensMill", "scale", "(I)I"⟩
theorem pl_X5_scale : plainFor y_X5_scale = true := plainFor_of_name (by decide)
theorem nm_X5_scale : (y_X5_scale).cls ≠ "java/lang/invoke/MethodHandle" ∧ (y_X5_scale).cls ≠ "java/lang/invoke/VarHandle" ∧ (parseMethodDescriptor (y_X5_scale).desc).map (fun d => d.parameters.length) = some 1 := ⟨by decide, by decide, by decide +kernel⟩
abbrev y_X5_digit : MethodName := ⟨"TensMill", "digit", "(II)I"⟩
theorem pl_X5_digit : plainFor y_X5_digit = true := plainFor_of_name (by decide)
theorem nm_X5_digit : (y_X5_digit).cls ≠ "java/lang/invoke/MethodHandle" ∧ (y_X5_digit).cls ≠ "java/lang/invoke/VarHandle" ∧ (parseMethodDescriptor (y_X5_digit).desc).map (fun d => d.parameters.length) = some 2 := ⟨by decide, by decide, by decide +kernel⟩
abbrev y_X5_type : MethodName := ⟨"TensMill", "type", "(J)Z"⟩
theorem pl_X5_type : plainFor y_X5_type = true := plainFor_of_name (by decide)
theorem nm_X5_type : (y_X5_type).cls ≠ "java/lang/invoke/MethodHandle" ∧ (y_X5_type).cls ≠ "java/lang/invoke/VarHandle" ∧ (parseMethodDescriptor (y_X5_type).desc).map (fun d => d.parameters.length) = some 1 := ⟨by decide, by decide, by decide +kernel⟩
abbrev y_X5_read : MethodName := ⟨"TensMill", "read", "(I)Z"⟩
theorem pl_X5_read : plainFor y_X5_read = true := plainFor_of_name (by decide)
theorem nm_X5_read : (y_X5_read).cls ≠ "java/lang/invoke/MethodHandle" ∧ (y_X5_read).cls ≠ "java/lang/invoke/VarHandle" ∧ (parseMethodDescriptor (y_X5_read).desc).map (fun d => d.parameters.length) = some 1 := ⟨by decide, by decide, by decide +kernel⟩
abbrev y_X5_write : MethodName := ⟨"TensMill", "write", "(II)I"⟩
theorem pl_X5_write : plainFor y_X5_write = true := plainFor_of_name (by decide)
theorem nm_X5_write : (y_X5_write).cls ≠ "java/lang/invoke/MethodHandle" ∧ (y_X5_write).cls ≠ "java/lang/invoke/VarHandle" ∧ (parseMethodDescriptor (y_X5_write).desc).map (fun d => d.parameters.length) = some 2 := ⟨by decide, by decide, by decide +kernel⟩
abbrev y_X5_characterAt : MethodName := ⟨"TensMill", "characterAt", "(I)I"⟩
theorem pl_X5_characterAt : plainFor y_X5_characterAt = true := plainFor_of_name (by decide)
theorem nm_X5_characterAt : (y_X5_characterAt).cls ≠ "java/lang/invoke/MethodHandle" ∧ (y_X5_characterAt).cls ≠ "java/lang/invoke/VarHandle" ∧ (parseMethodDescriptor (y_X5_characterAt).desc).map (fun d => d.parameters.length) = some 1 := ⟨by decide, by decide, by decide +kernel⟩
abbrev y_X6_init : MethodName := ⟨"TensMillModel", "<init>", "()V"⟩
theorem pl_X6_init : plainFor y_X6_init = true := plainFor_of_name (by decide)
theorem nm_X6_init : (y_X6_init).cls ≠ "java/lang/invoke/MethodHandle" ∧ (y_X6_init).cls ≠ "java/lang/invoke/VarHandle" ∧ (parseMethodDescriptor (y_X6_init).desc).map (fun d => d.parameters.length) = some 0 := ⟨by decide, by decide, by decide +kernel⟩
abbrev y_X6_is : MethodName := ⟨"TensMillModel", "is", "(I)Z"⟩
theorem pl_X6_is : plainFor y_X6_is = true := plainFor_of_name (by decide)
theorem nm_X6_is : (y_X6_is).cls ≠ "java/lang/invoke/MethodHandle" ∧ (y_X6_is).cls ≠ "java/lang/invoke/VarHandle" ∧ (parseMethodDescriptor (y_X6_is).desc).map (fun d => d.parameters.length) = some 1 := ⟨by decide, by decide, by decide +kernel⟩
abbrev y_X6_isRounding : MethodName := ⟨"TensMillModel", "isRounding", "(I)Z"⟩
theorem pl_X6_isRounding : plainFor y_X6_isRounding = true := plainFor_of_name (by decide)
theorem nm_X6_isRounding : (y_X6_isRounding).cls ≠ "java/lang/invoke/MethodHandle" ∧ (y_X6_isRounding).cls ≠ "java/lang/invoke/VarHandle" ∧ (parseMethodDescriptor (y_X6_isRounding).desc).map (fun d => d.parameters.length) = some 1 := ⟨by decide, by decide, by decide +kernel⟩
abbrev y_X6_isPrecision : MethodName := ⟨"TensMillModel", "isPrecision", "(I)Z"⟩
theorem pl_X6_isPrecision : plainFor y_X6_isPrecision = true := plainFor_of_name (by decide)
theorem nm_X6_isPrecision : (y_X6_isPrecision).cls ≠ "java/lang/invoke/MethodHandle" ∧ (y_X6_isPrecision).cls ≠ "java/lang/invoke/VarHandle" ∧ (parseMethodDescriptor (y_X6_isPrecision).desc).map (fun d => d.parameters.length) = some 1 := ⟨by decide, by decide, by decide +kernel⟩
abbrev y_X6_trim : MethodName := ⟨"TensMillModel", "trim", "(II)V"⟩
theorem pl_X6_trim : plainFor y_X6_trim = true := plainFor_of_name (by decide)
theorem nm_X6_trim : (y_X6_trim).cls ≠ "java/lang/invoke/MethodHandle" ∧ (y_X6_trim).cls ≠ "java/lang/invoke/VarHandle" ∧ (parseMethodDescriptor (y_X6_trim).desc).map (fun d => d.parameters.length) = some 2 := ⟨by decide, by decide, by decide +kernel⟩
abbrev y_X6_load : MethodName := ⟨"TensMillModel", "load", "(II)V"⟩
theorem pl_X6_load : plainFor y_X6_load = true := plainFor_of_name (by decide)
theorem nm_X6_load : (y_X6_load).cls ≠ "java/lang/invoke/MethodHandle" ∧ (y_X6_load).cls ≠ "java/lang/invoke/VarHandle" ∧ (parseMethodDescriptor (y_X6_load).desc).map (fun d => d.parameters.length) = some 2 := ⟨by decide, by decide, by decide +kernel⟩
abbrev y_X6_store : MethodName := ⟨"TensMillModel", "store", "(IIIJ)Z"⟩
theorem pl_X6_store : plainFor y_X6_store = true := plainFor_of_name (by decide)
theorem nm_X6_store : (y_X6_store).cls ≠ "java/lang/invoke/MethodHandle" ∧ (y_X6_store).cls ≠ "java/lang/invoke/VarHandle" ∧ (parseMethodDescriptor (y_X6_store).desc).map (fun d => d.parameters.length) = some 4 := ⟨by decide, by decide, by decide +kernel⟩
abbrev y_X6_raise : MethodName := ⟨"TensMillModel", "raise", "(II)V"⟩
theorem pl_X6_raise : plainFor y_X6_raise = true := plainFor_of_name (by decide)
theorem nm_X6_raise : (y_X6_raise).cls ≠ "java/lang/invoke/MethodHandle" ∧ (y_X6_raise).cls ≠ "java/lang/invoke/VarHandle" ∧ (parseMethodDescriptor (y_X6_raise).desc).map (fun d => d.parameters.length) = some 2 := ⟨by decide, by decide, by decide +kernel⟩
abbrev y_X6_lower : MethodName := ⟨"TensMillModel", "lower", "(IJ)V"⟩
theorem pl_X6_lower : plainFor y_X6_lower = true := plainFor_of_name (by decide)
theorem nm_X6_lower : (y_X6_lower).cls ≠ "java/lang/invoke/MethodHandle" ∧ (y_X6_lower).cls ≠ "java/lang/invoke/VarHandle" ∧ (parseMethodDescriptor (y_X6_lower).desc).map (fun d => d.parameters.length) = some 2 := ⟨by decide, by decide, by decide +kernel⟩
abbrev y_X6_zeros : MethodName := ⟨"TensMillModel", "zeros", "(I)I"⟩
theorem pl_X6_zeros : plainFor y_X6_zeros = true := plainFor_of_name (by decide)
theorem nm_X6_zeros : (y_X6_zeros).cls ≠ "java/lang/invoke/MethodHandle" ∧ (y_X6_zeros).cls ≠ "java/lang/invoke/VarHandle" ∧ (parseMethodDescriptor (y_X6_zeros).desc).map (fun d => d.parameters.length) = some 1 := ⟨by decide, by decide, by decide +kernel⟩
abbrev y_X6_compareRows : MethodName := ⟨"TensMillModel", "compareRows", "(II)I"⟩
theorem pl_X6_compareRows : plainFor y_X6_compareRows = true := plainFor_of_name (by decide)
theorem nm_X6_compareRows : (y_X6_compareRows).cls ≠ "java/lang/invoke/MethodHandle" ∧ (y_X6_compareRows).cls ≠ "java/lang/invoke/VarHandle" ∧ (parseMethodDescriptor (y_X6_compareRows).desc).map (fun d => d.parameters.length) = some 2 := ⟨by decide, by decide, by decide +kernel⟩
abbrev y_X6_plus : MethodName := ⟨"TensMillModel", "plus", "(II)V"⟩
theorem pl_X6_plus : plainFor y_X6_plus = true := plainFor_of_name (by decide)
theorem nm_X6_plus : (y_X6_plus).cls ≠ "java/lang/invoke/MethodHandle" ∧ (y_X6_plus).cls ≠ "java/lang/invoke/VarHandle" ∧ (parseMethodDescriptor (y_X6_plus).desc).map (fun d => d.parameters.length) = some 2 := ⟨by decide, by decide, by decide +kernel⟩
abbrev y_X6_less : MethodName := ⟨"TensMillModel", "less", "(II)V"⟩
theorem pl_X6_less : plainFor y_X6_less = true := plainFor_of_name (by decide)
theorem nm_X6_less : (y_X6_less).cls ≠ "java/lang/invoke/MethodHandle" ∧ (y_X6_less).cls ≠ "java/lang/invoke/VarHandle" ∧ (parseMethodDescriptor (y_X6_less).desc).map (fun d => d.parameters.length) = some 2 := ⟨by decide, by decide, by decide +kernel⟩
abbrev y_X6_one : MethodName := ⟨"TensMillModel", "one", "(I)V"⟩
theorem pl_X6_one : plainFor y_X6_one = true := plainFor_of_name (by decide)
theorem nm_X6_one : (y_X6_one).cls ≠ "java/lang/invoke/MethodHandle" ∧ (y_X6_one).cls ≠ "java/lang/invoke/VarHandle" ∧ (parseMethodDescriptor (y_X6_one).desc).map (fun d => d.parameters.length) = some 1 := ⟨by decide, by decide, by decide +kernel⟩
abbrev y_X6_product : MethodName := ⟨"TensMillModel", "product", "()V"⟩
theorem pl_X6_product : plainFor y_X6_product = true := plainFor_of_name (by decide)
theorem nm_X6_product : (y_X6_product).cls ≠ "java/lang/invoke/MethodHandle" ∧ (y_X6_product).cls ≠ "java/lang/invoke/VarHandle" ∧ (parseMethodDescriptor (y_X6_product).desc).map (fun d => d.parameters.length) = some 0 := ⟨by decide, by decide, by decide +kernel⟩
abbrev y_X6_step : MethodName := ⟨"TensMillModel", "step", "(I)I"⟩
theorem pl_X6_step : plainFor y_X6_step = true := plainFor_of_name (by decide)
theorem nm_X6_step : (y_X6_step).cls ≠ "java/lang/invoke/MethodHandle" ∧ (y_X6_step).cls ≠ "java/lang/invoke/VarHandle" ∧ (parseMethodDescriptor (y_X6_step).desc).map (fun d => d.parameters.length) = some 1 := ⟨by decide, by decide, by decide +kernel⟩
abbrev y_X6_judge : MethodName := ⟨"TensMillModel", "judge", "()V"⟩
theorem pl_X6_judge : plainFor y_X6_judge = true := plainFor_of_name (by decide)
theorem nm_X6_judge : (y_X6_judge).cls ≠ "java/lang/invoke/MethodHandle" ∧ (y_X6_judge).cls ≠ "java/lang/invoke/VarHandle" ∧ (parseMethodDescriptor (y_X6_judge).desc).map (fun d => d.parameters.length) = some 0 := ⟨by decide, by decide, by decide +kernel⟩
abbrev y_X6_quotient : MethodName := ⟨"TensMillModel", "quotient", "()V"⟩
theorem pl_X6_quotient : plainFor y_X6_quotient = true := plainFor_of_name (by decide)
theorem nm_X6_quotient : (y_X6_quotient).cls ≠ "java/lang/invoke/MethodHandle" ∧ (y_X6_quotient).cls ≠ "java/lang/invoke/VarHandle" ∧ (parseMethodDescriptor (y_X6_quotient).desc).map (fun d => d.parameters.length) = some 0 := ⟨by decide, by decide, by decide +kernel⟩
abbrev y_X6_goesUp : MethodName := ⟨"TensMillModel", "goesUp", "(III)Z"⟩
theorem pl_X6_goesUp : plainFor y_X6_goesUp = true := plainFor_of_name (by decide)
theorem nm_X6_goesUp : (y_X6_goesUp).cls ≠ "java/lang/invoke/MethodHandle" ∧ (y_X6_goesUp).cls ≠ "java/lang/invoke/VarHandle" ∧ (parseMethodDescriptor (y_X6_goesUp).desc).map (fun d => d.parameters.length) = some 3 := ⟨by decide, by decide, by decide +kernel⟩
abbrev y_X6_finish : MethodName := ⟨"TensMillModel", "finish", "(IIIJI)Z"⟩
theorem pl_X6_finish : plainFor y_X6_finish = true := plainFor_of_name (by decide)
theorem nm_X6_finish : (y_X6_finish).cls ≠ "java/lang/invoke/MethodHandle" ∧ (y_X6_finish).cls ≠ "java/lang/invoke/VarHandle" ∧ (parseMethodDescriptor (y_X6_finish).desc).map (fun d => d.parameters.length) = some 5 := ⟨by decide, by decide, by decide +kernel⟩
abbrev y_X6_finishTo : MethodName := ⟨"TensMillModel", "finishTo", "(IIIJII)Z"⟩
theorem pl_X6_finishTo : plainFor y_X6_finishTo = true := plainFor_of_name (by decide)
theorem nm_X6_finishTo : (y_X6_finishTo).cls ≠ "java/lang/invoke/MethodHandle" ∧ (y_X6_finishTo).cls ≠ "java/lang/invoke/VarHandle" ∧ (parseMethodDescriptor (y_X6_finishTo).desc).map (fun d => d.parameters.length) = some 6 := ⟨by decide, by decide, by decide +kernel⟩
abbrev y_X6_put : MethodName := ⟨"TensMillModel", "put", "(IJI)Z"⟩
theorem pl_X6_put : plainFor y_X6_put = true := plainFor_of_name (by decide)
theorem nm_X6_put : (y_X6_put).cls ≠ "java/lang/invoke/MethodHandle" ∧ (y_X6_put).cls ≠ "java/lang/invoke/VarHandle" ∧ (parseMethodDescriptor (y_X6_put).desc).map (fun d => d.parameters.length) = some 3 := ⟨by decide, by decide, by decide +kernel⟩
abbrev y_X6_copy : MethodName := ⟨"TensMillModel", "copy", "(IIZ)Z"⟩
theorem pl_X6_copy : plainFor y_X6_copy = true := plainFor_of_name (by decide)
theorem nm_X6_copy : (y_X6_copy).cls ≠ "java/lang/invoke/MethodHandle" ∧ (y_X6_copy).cls ≠ "java/lang/invoke/VarHandle" ∧ (parseMethodDescriptor (y_X6_copy).desc).map (fun d => d.parameters.length) = some 3 := ⟨by decide, by decide, by decide +kernel⟩
abbrev y_X6_sum : MethodName := ⟨"TensMillModel", "sum", "(IIII)Z"⟩
theorem pl_X6_sum : plainFor y_X6_sum = true := plainFor_of_name (by decide)
theorem nm_X6_sum : (y_X6_sum).cls ≠ "java/lang/invoke/MethodHandle" ∧ (y_X6_sum).cls ≠ "java/lang/invoke/VarHandle" ∧ (parseMethodDescriptor (y_X6_sum).desc).map (fun d => d.parameters.length) = some 4 := ⟨by decide, by decide, by decide +kernel⟩
abbrev y_X6_add : MethodName := ⟨"TensMillModel", "add", "(III)Z"⟩
theorem pl_X6_add : plainFor y_X6_add = true := plainFor_of_name (by decide)
theorem nm_X6_add : (y_X6_add).cls ≠ "java/lang/invoke/MethodHandle" ∧ (y_X6_add).cls ≠ "java/lang/invoke/VarHandle" ∧ (parseMethodDescriptor (y_X6_add).desc).map (fun d => d.parameters.length) = some 3 := ⟨by decide, by decide, by decide +kernel⟩
abbrev y_X6_take : MethodName := ⟨"TensMillModel", "take", "(III)Z"⟩
theorem pl_X6_take : plainFor y_X6_take = true := plainFor_of_name (by decide)
theorem nm_X6_take : (y_X6_take).cls ≠ "java/lang/invoke/MethodHandle" ∧ (y_X6_take).cls ≠ "java/lang/invoke/VarHandle" ∧ (parseMethodDescriptor (y_X6_take).desc).map (fun d => d.parameters.length) = some 3 := ⟨by decide, by decide, by decide +kernel⟩
abbrev y_X6_times : MethodName := ⟨"TensMillModel", "times", "(III)Z"⟩
theorem pl_X6_times : plainFor y_X6_times = true := plainFor_of_name (by decide)
theorem nm_X6_times : (y_X6_times).cls ≠ "java/lang/invoke/MethodHandle" ∧ (y_X6_times).cls ≠ "java/lang/invoke/VarHandle" ∧ (parseMethodDescriptor (y_X6_times).desc).map (fun d => d.parameters.length) = some 3 := ⟨by decide, by decide, by decide +kernel⟩
abbrev y_X6_power : MethodName := ⟨"TensMillModel", "power", "(III)Z"⟩
theorem pl_X6_power : plainFor y_X6_power = true := plainFor_of_name (by decide)
theorem nm_X6_power : (y_X6_power).cls ≠ "java/lang/invoke/MethodHandle" ∧ (y_X6_power).cls ≠ "java/lang/invoke/VarHandle" ∧ (parseMethodDescriptor (y_X6_power).desc).map (fun d => d.parameters.length) = some 3 := ⟨by decide, by decide, by decide +kernel⟩
abbrev y_X6_divide : MethodName := ⟨"TensMillModel", "divide", "(IIIII)Z"⟩
theorem pl_X6_divide : plainFor y_X6_divide = true := plainFor_of_name (by decide)
theorem nm_X6_divide : (y_X6_divide).cls ≠ "java/lang/invoke/MethodHandle" ∧ (y_X6_divide).cls ≠ "java/lang/invoke/VarHandle" ∧ (parseMethodDescriptor (y_X6_divide).desc).map (fun d => d.parameters.length) = some 5 := ⟨by decide, by decide, by decide +kernel⟩
abbrev y_X6_exact : MethodName := ⟨"TensMillModel", "exact", "(IIJ)Z"⟩
theorem pl_X6_exact : plainFor y_X6_exact = true := plainFor_of_name (by decide)
theorem nm_X6_exact : (y_X6_exact).cls ≠ "java/lang/invoke/MethodHandle" ∧ (y_X6_exact).cls ≠ "java/lang/invoke/VarHandle" ∧ (parseMethodDescriptor (y_X6_exact).desc).map (fun d => d.parameters.length) = some 3 := ⟨by decide, by decide, by decide +kernel⟩
abbrev y_X6_settle : MethodName := ⟨"TensMillModel", "settle", "(IIJJI)Z"⟩
theorem pl_X6_settle : plainFor y_X6_settle = true := plainFor_of_name (by decide)
theorem nm_X6_settle : (y_X6_settle).cls ≠ "java/lang/invoke/MethodHandle" ∧ (y_X6_settle).cls ≠ "java/lang/invoke/VarHandle" ∧ (parseMethodDescriptor (y_X6_settle).desc).map (fun d => d.parameters.length) = some 5 := ⟨by decide, by decide, by decide +kernel⟩
abbrev y_X6_ratio : MethodName := ⟨"TensMillModel", "ratio", "(IIIII)Z"⟩
theorem pl_X6_ratio : plainFor y_X6_ratio = true := plainFor_of_name (by decide)
theorem nm_X6_ratio : (y_X6_ratio).cls ≠ "java/lang/invoke/MethodHandle" ∧ (y_X6_ratio).cls ≠ "java/lang/invoke/VarHandle" ∧ (parseMethodDescriptor (y_X6_ratio).desc).map (fun d => d.parameters.length) = some 5 := ⟨by decide, by decide, by decide +kernel⟩
abbrev y_X6_remains : MethodName := ⟨"TensMillModel", "remains", "(IIIIJIII)Z"⟩
theorem pl_X6_remains : plainFor y_X6_remains = true := plainFor_of_name (by decide)
theorem nm_X6_remains : (y_X6_remains).cls ≠ "java/lang/invoke/MethodHandle" ∧ (y_X6_remains).cls ≠ "java/lang/invoke/VarHandle" ∧ (parseMethodDescriptor (y_X6_remains).desc).map (fun d => d.parameters.length) = some 8 := ⟨by decide, by decide, by decide +kernel⟩
abbrev y_X6_whole : MethodName := ⟨"TensMillModel", "whole", "(IIII)Z"⟩
theorem pl_X6_whole : plainFor y_X6_whole = true := plainFor_of_name (by decide)
theorem nm_X6_whole : (y_X6_whole).cls ≠ "java/lang/invoke/MethodHandle" ∧ (y_X6_whole).cls ≠ "java/lang/invoke/VarHandle" ∧ (parseMethodDescriptor (y_X6_whole).desc).map (fun d => d.parameters.length) = some 4 := ⟨by decide, by decide, by decide +kernel⟩
abbrev y_X6_half : MethodName := ⟨"TensMillModel", "half", "(J)J"⟩
theorem pl_X6_half : plainFor y_X6_half = true := plainFor_of_name (by decide)
theorem nm_X6_half : (y_X6_half).cls ≠ "java/lang/invoke/MethodHandle" ∧ (y_X6_half).cls ≠ "java/lang/invoke/VarHandle" ∧ (parseMethodDescriptor (y_X6_half).desc).map (fun d => d.parameters.length) = some 1 := ⟨by decide, by decide, by decide +kernel⟩
abbrev y_X6_bring : MethodName := ⟨"TensMillModel", "bring", "(I)V"⟩
theorem pl_X6_bring : plainFor y_X6_bring = true := plainFor_of_name (by decide)
theorem nm_X6_bring : (y_X6_bring).cls ≠ "java/lang/invoke/MethodHandle" ∧ (y_X6_bring).cls ≠ "java/lang/invoke/VarHandle" ∧ (parseMethodDescriptor (y_X6_bring).desc).map (fun d => d.parameters.length) = some 1 := ⟨by decide, by decide, by decide +kernel⟩
abbrev y_X6_extract : MethodName := ⟨"TensMillModel", "extract", "()V"⟩
theorem pl_X6_extract : plainFor y_X6_extract = true := plainFor_of_name (by decide)
theorem nm_X6_extract : (y_X6_extract).cls ≠ "java/lang/invoke/MethodHandle" ∧ (y_X6_extract).cls ≠ "java/lang/invoke/VarHandle" ∧ (parseMethodDescriptor (y_X6_extract).desc).map (fun d => d.parameters.length) = some 0 := ⟨by decide, by decide, by decide +kernel⟩
abbrev y_X6_root : MethodName := ⟨"TensMillModel", "root", "(IIII)Z"⟩
theorem pl_X6_root : plainFor y_X6_root = true := plainFor_of_name (by decide)
theorem nm_X6_root : (y_X6_root).cls ≠ "java/lang/invoke/MethodHandle" ∧ (y_X6_root).cls ≠ "java/lang/invoke/VarHandle" ∧ (parseMethodDescriptor (y_X6_root).desc).map (fun d => d.parameters.length) = some 4 := ⟨by decide, by decide, by decide +kernel⟩
abbrev y_X6_rescale : MethodName := ⟨"TensMillModel", "rescale", "(IIII)Z"⟩
theorem pl_X6_rescale : plainFor y_X6_rescale = true := plainFor_of_name (by decide)
theorem nm_X6_rescale : (y_X6_rescale).cls ≠ "java/lang/invoke/MethodHandle" ∧ (y_X6_rescale).cls ≠ "java/lang/invoke/VarHandle" ∧ (parseMethodDescriptor (y_X6_rescale).desc).map (fun d => d.parameters.length) = some 4 := ⟨by decide, by decide, by decide +kernel⟩
abbrev y_X6_round : MethodName := ⟨"TensMillModel", "round", "(IIII)Z"⟩
theorem pl_X6_round : plainFor y_X6_round = true := plainFor_of_name (by decide)
theorem nm_X6_round : (y_X6_round).cls ≠ "java/lang/invoke/MethodHandle" ∧ (y_X6_round).cls ≠ "java/lang/invoke/VarHandle" ∧ (parseMethodDescriptor (y_X6_round).desc).map (fun d => d.parameters.length) = some 4 := ⟨by decide, by decide, by decide +kernel⟩
abbrev y_X6_strip : MethodName := ⟨"TensMillModel", "strip", "(II)Z"⟩
theorem pl_X6_strip : plainFor y_X6_strip = true := plainFor_of_name (by decide)
theorem nm_X6_strip : (y_X6_strip).cls ≠ "java/lang/invoke/MethodHandle" ∧ (y_X6_strip).cls ≠ "java/lang/invoke/VarHandle" ∧ (parseMethodDescriptor (y_X6_strip).desc).map (fun d => d.parameters.length) = some 2 := ⟨by decide, by decide, by decide +kernel⟩
abbrev y_X6_move : MethodName := ⟨"TensMillModel", "move", "(III)Z"⟩
theorem pl_X6_move : plainFor y_X6_move = true := plainFor_of_name (by decide)
theorem nm_X6_move : (y_X6_move).cls ≠ "java/lang/invoke/MethodHandle" ∧ (y_X6_move).cls ≠ "java/lang/invoke/VarHandle" ∧ (parseMethodDescriptor (y_X6_move).desc).map (fun d => d.parameters.length) = some 3 := ⟨by decide, by decide, by decide +kernel⟩
abbrev y_X6_compare : MethodName := ⟨"TensMillModel", "compare", "(II)I"⟩
theorem pl_X6_compare : plainFor y_X6_compare = true := plainFor_of_name (by decide)
theorem nm_X6_compare : (y_X6_compare).cls ≠ "java/lang/invoke/MethodHandle" ∧ (y_X6_compare).cls ≠ "java/lang/invoke/VarHandle" ∧ (parseMethodDescriptor (y_X6_compare).desc).map (fun d => d.parameters.length) = some 2 := ⟨by decide, by decide, by decide +kernel⟩
abbrev y_X6_sign : MethodName := ⟨"TensMillModel", "sign", "(I)I"⟩
theorem pl_X6_sign : plainFor y_X6_sign = true := plainFor_of_name (by decide)
theorem nm_X6_sign : (y_X6_sign).cls ≠ "java/lang/invoke/MethodHandle" ∧ (y_X6_sign).cls ≠ "java/lang/invoke/VarHandle" ∧ (parseMethodDescriptor (y_X6_sign).desc).map (fun d => d.parameters.length) = some 1 := ⟨by decide, by decide, by decide +kernel⟩
abbrev y_X6_digitsOf : MethodName := ⟨"TensMillModel", "digitsOf", "(I)I"⟩
theorem pl_X6_digitsOf : plainFor y_X6_digitsOf = true := plainFor_of_name (by decide)
theorem nm_X6_digitsOf : (y_X6_digitsOf).cls ≠ "java/lang/invoke/MethodHandle" ∧ (y_X6_digitsOf).cls ≠ "java/lang/invoke/VarHandle" ∧ (parseMethodDescriptor (y_X6_digitsOf).desc).map (fun d => d.parameters.length) = some 1 := ⟨by decide, by decide, by decide +kernel⟩
abbrev y_X6_precision : MethodName := ⟨"TensMillModel", "precision", "(I)I"⟩
theorem pl_X6_precision : plainFor y_X6_precision = true := plainFor_of_name (by decide)
theorem nm_X6_precision : (y_X6_precision).cls ≠ "java/lang/invoke/MethodHandle" ∧ (y_X6_precision).cls ≠ "java/lang/invoke/VarHandle" ∧ (parseMethodDescriptor (y_X6_precision).desc).map (fun d => d.parameters.length) = some 1 := ⟨by decide, by decide, by decide +kernel⟩
abbrev y_X6_scale : MethodName := ⟨"TensMillModel", "scale", "(I)I"⟩
theorem pl_X6_scale : plainFor y_X6_scale = true := plainFor_of_name (by decide)
theorem nm_X6_scale : (y_X6_scale).cls ≠ "java/lang/invoke/MethodHandle" ∧ (y_X6_scale).cls ≠ "java/lang/invoke/VarHandle" ∧ (parseMethodDescriptor (y_X6_scale).desc).map (fun d => d.parameters.length) = some 1 := ⟨by decide, by decide, by decide +kernel⟩
abbrev y_X6_digit : MethodName := ⟨"TensMillModel", "digit", "(II)I"⟩
theorem pl_X6_digit : plainFor y_X6_digit = true := plainFor_of_name (by decide)
theorem nm_X6_digit : (y_X6_digit).cls ≠ "java/lang/invoke/MethodHandle" ∧ (y_X6_digit).cls ≠ "java/lang/invoke/VarHandle" ∧ (parseMethodDescriptor (y_X6_digit).desc).map (fun d => d.parameters.length) = some 2 := ⟨by decide, by decide, by decide +kernel⟩
abbrev y_X6_type : MethodName := ⟨"TensMillModel", "type", "(J)Z"⟩
theorem pl_X6_type : plainFor y_X6_type = true := plainFor_of_name (by decide)
theorem nm_X6_type : (y_X6_type).cls ≠ "java/lang/invoke/MethodHandle" ∧ (y_X6_type).cls ≠ "java/lang/invoke/VarHandle" ∧ (parseMethodDescriptor (y_X6_type).desc).map (fun d => d.parameters.length) = some 1 := ⟨by decide, by decide, by decide +kernel⟩
abbrev y_X6_isDigit : MethodName := ⟨"TensMillModel", "isDigit", "(I)Z"⟩
theorem pl_X6_isDigit : plainFor y_X6_isDigit = true := plainFor_of_name (by decide)
theorem nm_X6_isDigit : (y_X6_isDigit).cls ≠ "java/lang/invoke/MethodHandle" ∧ (y_X6_isDigit).cls ≠ "java/lang/invoke/VarHandle" ∧ (parseMethodDescriptor (y_X6_isDigit).desc).map (fun d => d.parameters.length) = some 1 := ⟨by decide, by decide, by decide +kernel⟩
abbrev y_X6_read : MethodName := ⟨"TensMillModel", "read", "(I)Z"⟩
theorem pl_X6_read : plainFor y_X6_read = true := plainFor_of_name (by decide)
theorem nm_X6_read : (y_X6_read).cls ≠ "java/lang/invoke/MethodHandle" ∧ (y_X6_read).cls ≠ "java/lang/invoke/VarHandle" ∧ (parseMethodDescriptor (y_X6_read).desc).map (fun d => d.parameters.length) = some 1 := ⟨by decide, by decide, by decide +kernel⟩
abbrev y_X6_mark : MethodName := ⟨"TensMillModel", "mark", "(I)Z"⟩
theorem pl_X6_mark : plainFor y_X6_mark = true := plainFor_of_name (by decide)
theorem nm_X6_mark : (y_X6_mark).cls ≠ "java/lang/invoke/MethodHandle" ∧ (y_X6_mark).cls ≠ "java/lang/invoke/VarHandle" ∧ (parseMethodDescriptor (y_X6_mark).desc).map (fun d => d.parameters.length) = some 1 := ⟨by decide, by decide, by decide +kernel⟩
abbrev y_X6_putNumber : MethodName := ⟨"TensMillModel", "putNumber", "(J)V"⟩
theorem pl_X6_putNumber : plainFor y_X6_putNumber = true := plainFor_of_name (by decide)
theorem nm_X6_putNumber : (y_X6_putNumber).cls ≠ "java/lang/invoke/MethodHandle" ∧ (y_X6_putNumber).cls ≠ "java/lang/invoke/VarHandle" ∧ (parseMethodDescriptor (y_X6_putNumber).desc).map (fun d => d.parameters.length) = some 1 := ⟨by decide, by decide, by decide +kernel⟩
abbrev y_X6_putExponent : MethodName := ⟨"TensMillModel", "putExponent", "(J)V"⟩
theorem pl_X6_putExponent : plainFor y_X6_putExponent = true := plainFor_of_name (by decide)
theorem nm_X6_putExponent : (y_X6_putExponent).cls ≠ "java/lang/invoke/MethodHandle" ∧ (y_X6_putExponent).cls ≠ "java/lang/invoke/VarHandle" ∧ (parseMethodDescriptor (y_X6_putExponent).desc).map (fun d => d.parameters.length) = some 1 := ⟨by decide, by decide, by decide +kernel⟩
abbrev y_X6_front : MethodName := ⟨"TensMillModel", "front", "(II)I"⟩
theorem pl_X6_front : plainFor y_X6_front = true := plainFor_of_name (by decide)
theorem nm_X6_front : (y_X6_front).cls ≠ "java/lang/invoke/MethodHandle" ∧ (y_X6_front).cls ≠ "java/lang/invoke/VarHandle" ∧ (parseMethodDescriptor (y_X6_front).desc).map (fun d => d.parameters.length) = some 2 := ⟨by decide, by decide, by decide +kernel⟩
abbrev y_X6_plainSize : MethodName := ⟨"TensMillModel", "plainSize", "(I)J"⟩
theorem pl_X6_plainSize : plainFor y_X6_plainSize = true := plainFor_of_name (by decide)
theorem nm_X6_plainSize : (y_X6_plainSize).cls ≠ "java/lang/invoke/MethodHandle" ∧ (y_X6_plainSize).cls ≠ "java/lang/invoke/VarHandle" ∧ (parseMethodDescriptor (y_X6_plainSize).desc).map (fun d => d.parameters.length) = some 1 := ⟨by decide, by decide, by decide +kernel⟩
abbrev y_X6_plain : MethodName := ⟨"TensMillModel", "plain", "(I)V"⟩
theorem pl_X6_plain : plainFor y_X6_plain = true := plainFor_of_name (by decide)
theorem nm_X6_plain : (y_X6_plain).cls ≠ "java/lang/invoke/MethodHandle" ∧ (y_X6_plain).cls ≠ "java/lang/invoke/VarHandle" ∧ (parseMethodDescriptor (y_X6_plain).desc).map (fun d => d.parameters.length) = some 1 := ⟨by decide, by decide, by decide +kernel⟩
abbrev y_X6_write : MethodName := ⟨"TensMillModel", "write", "(II)I"⟩
theorem pl_X6_write : plainFor y_X6_write = true := plainFor_of_name (by decide)
theorem nm_X6_write : (y_X6_write).cls ≠ "java/lang/invoke/MethodHandle" ∧ (y_X6_write).cls ≠ "java/lang/invoke/VarHandle" ∧ (parseMethodDescriptor (y_X6_write).desc).map (fun d => d.parameters.length) = some 2 := ⟨by decide, by decide, by decide +kernel⟩
abbrev y_X6_characterAt : MethodName := ⟨"TensMillModel", "characterAt", "(I)I"⟩
theorem pl_X6_characterAt : plainFor y_X6_characterAt = true := plainFor_of_name (by decide)
theorem nm_X6_characterAt : (y_X6_characterAt).cls ≠ "java/lang/invoke/MethodHandle" ∧ (y_X6_characterAt).cls ≠ "java/lang/invoke/VarHandle" ∧ (parseMethodDescriptor (y_X6_characterAt).desc).map (fun d => d.parameters.length) = some 1 := ⟨by decide, by decide, by decide +kernel⟩
abbrev y_L_law : MethodName := ⟨"TensMillLaw", "law", "([I)Z"⟩
theorem pl_L_law : plainFor y_L_law = true := plainFor_of_name (by decide)
theorem nm_L_law : (y_L_law).cls ≠ "java/lang/invoke/MethodHandle" ∧ (y_L_law).cls ≠ "java/lang/invoke/VarHandle" ∧ (parseMethodDescriptor (y_L_law).desc).map (fun d => d.parameters.length) = some 1 := ⟨by decide, by decide, by decide +kernel⟩
