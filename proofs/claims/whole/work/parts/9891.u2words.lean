/-! the words that the constructors need -/
theorem wc_X5_init : Cond.code yX5_init cX5_init 1 none ∈ BIG := bm 231 (by decide +kernel) (by decide +kernel)
theorem hd_X5_init : yX5_init.cls = RX5 ∧ yX5_init.cls ≠ "java/lang/invoke/MethodHandle" ∧ yX5_init.cls ≠ "java/lang/invoke/VarHandle" ∧ (parseMethodDescriptor yX5_init.desc).map (fun d => d.parameters.length) = some 0 := by decide +kernel
def dfX5 : List Value := [.int 0, .int 0, .int 0, .int 0, .int 0, .int 0, .int 0, .int 0, .int 0, .int 0, .int 0]
theorem dfX5_ok : ∀ j, j < 11 → defaultValue (tyX5 j) = vp_V dfX5 j := by
  intro j hj
  rcases (show j = 0 ∨ j = 1 ∨ j = 2 ∨ j = 3 ∨ j = 4 ∨ j = 5 ∨ j = 6 ∨ j = 7 ∨ j = 8 ∨ j = 9 ∨ j = 10 by omega) with rfl | rfl | rfl | rfl | rfl | rfl | rfl | rfl | rfl | rfl | rfl <;> rfl
theorem wm_RX5_3_o : Cond.methodLink RX5 3 objectInit ∈ BIG := bm 232 (by decide +kernel) (by decide +kernel)
theorem wi_o : Cond.instanceMethod objectInit ∈ BIG := bm 35 (by decide +kernel) (by decide +kernel)
theorem wc_o : Cond.code objectInit ⟨#[0xb1]⟩ 1 none ∈ BIG := bm 36 (by decide +kernel) (by decide +kernel)
theorem wc_X8_init : Cond.code yX8_init cX8_init 1 none ∈ BIG := bm 137 (by decide +kernel) (by decide +kernel)
theorem hd_X8_init : yX8_init.cls = RX8 ∧ yX8_init.cls ≠ "java/lang/invoke/MethodHandle" ∧ yX8_init.cls ≠ "java/lang/invoke/VarHandle" ∧ (parseMethodDescriptor yX8_init.desc).map (fun d => d.parameters.length) = some 0 := by decide +kernel
def dfX8 : List Value := [.int 0, .null, .null, .int 0, .int 0]
theorem dfX8_ok : ∀ j, j < 5 → defaultValue (tyX8 j) = vp_V dfX8 j := by
  intro j hj
  rcases (show j = 0 ∨ j = 1 ∨ j = 2 ∨ j = 3 ∨ j = 4 by omega) with rfl | rfl | rfl | rfl | rfl <;> rfl
theorem wm_RX8_3_o : Cond.methodLink RX8 3 objectInit ∈ BIG := bm 138 (by decide +kernel) (by decide +kernel)
theorem wac : Cond.arrayClass .int ∈ BIG := bm 86 (by decide +kernel) (by decide +kernel)
theorem wc_X1_init : Cond.code yX1_init cX1_init 1 none ∈ BIG := bm 99 (by decide +kernel) (by decide +kernel)
theorem hd_X1_init : yX1_init.cls = RX1 ∧ yX1_init.cls ≠ "java/lang/invoke/MethodHandle" ∧ yX1_init.cls ≠ "java/lang/invoke/VarHandle" ∧ (parseMethodDescriptor yX1_init.desc).map (fun d => d.parameters.length) = some 0 := by decide +kernel
def dfX1 : List Value := [.int 0, .null, .null, .null, .null]
theorem dfX1_ok : ∀ j, j < 5 → defaultValue (tyX1 j) = vp_V dfX1 j := by
  intro j hj
  rcases (show j = 0 ∨ j = 1 ∨ j = 2 ∨ j = 3 ∨ j = 4 by omega) with rfl | rfl | rfl | rfl | rfl <;> rfl
theorem wm_RX1_3_o : Cond.methodLink RX1 3 objectInit ∈ BIG := bm 100 (by decide +kernel) (by decide +kernel)
theorem wc_X2_init : Cond.code yX2_init cX2_init 1 none ∈ BIG := bm 121 (by decide +kernel) (by decide +kernel)
theorem hd_X2_init : yX2_init.cls = RX2 ∧ yX2_init.cls ≠ "java/lang/invoke/MethodHandle" ∧ yX2_init.cls ≠ "java/lang/invoke/VarHandle" ∧ (parseMethodDescriptor yX2_init.desc).map (fun d => d.parameters.length) = some 0 := by decide +kernel
def dfX2 : List Value := [.null, .null, .int 0]
theorem dfX2_ok : ∀ j, j < 3 → defaultValue (tyX2 j) = vp_V dfX2 j := by
  intro j hj
  rcases (show j = 0 ∨ j = 1 ∨ j = 2 by omega) with rfl | rfl | rfl <;> rfl
theorem wm_RX2_5_o : Cond.methodLink RX2 5 objectInit ∈ BIG := bm 122 (by decide +kernel) (by decide +kernel)
theorem wc_X0_init : Cond.code yX0_init cX0_init 2 none ∈ BIG := bm 160 (by decide +kernel) (by decide +kernel)
theorem hd_X0_init : yX0_init.cls = RX0 ∧ yX0_init.cls ≠ "java/lang/invoke/MethodHandle" ∧ yX0_init.cls ≠ "java/lang/invoke/VarHandle" ∧ (parseMethodDescriptor yX0_init.desc).map (fun d => d.parameters.length) = some 1 := by decide +kernel
def dfX0 : List Value := [.null]
theorem dfX0_ok : ∀ j, j < 1 → defaultValue (tyX0 j) = vp_V dfX0 j := by
  intro j hj
  rcases (show j = 0 by omega) with rfl <;> rfl
theorem wm_RX0_3_o : Cond.methodLink RX0 3 objectInit ∈ BIG := bm 161 (by decide +kernel) (by decide +kernel)
theorem wc_X4_init : Cond.code yX4_init cX4_init 2 none ∈ BIG := bm 170 (by decide +kernel) (by decide +kernel)
theorem hd_X4_init : yX4_init.cls = RX4 ∧ yX4_init.cls ≠ "java/lang/invoke/MethodHandle" ∧ yX4_init.cls ≠ "java/lang/invoke/VarHandle" ∧ (parseMethodDescriptor yX4_init.desc).map (fun d => d.parameters.length) = some 1 := by decide +kernel
def dfX4 : List Value := [.null, .null, .null, .null, .null, .int 0, .int 0]
theorem dfX4_ok : ∀ j, j < 7 → defaultValue (tyX4 j) = vp_V dfX4 j := by
  intro j hj
  rcases (show j = 0 ∨ j = 1 ∨ j = 2 ∨ j = 3 ∨ j = 4 ∨ j = 5 ∨ j = 6 by omega) with rfl | rfl | rfl | rfl | rfl | rfl | rfl <;> rfl
theorem wm_RX4_3_o : Cond.methodLink RX4 3 objectInit ∈ BIG := bm 171 (by decide +kernel) (by decide +kernel)
theorem wc_X3_init : Cond.code yX3_init cX3_init 6 none ∈ BIG := bm 198 (by decide +kernel) (by decide +kernel)
theorem hd_X3_init : yX3_init.cls = RX3 ∧ yX3_init.cls ≠ "java/lang/invoke/MethodHandle" ∧ yX3_init.cls ≠ "java/lang/invoke/VarHandle" ∧ (parseMethodDescriptor yX3_init.desc).map (fun d => d.parameters.length) = some 5 := by decide +kernel
def dfX3 : List Value := [.int 0, .null, .null, .null, .null, .null]
theorem dfX3_ok : ∀ j, j < 6 → defaultValue (tyX3 j) = vp_V dfX3 j := by
  intro j hj
  rcases (show j = 0 ∨ j = 1 ∨ j = 2 ∨ j = 3 ∨ j = 4 ∨ j = 5 by omega) with rfl | rfl | rfl | rfl | rfl | rfl <;> rfl
theorem wm_RX3_3_o : Cond.methodLink RX3 3 objectInit ∈ BIG := bm 199 (by decide +kernel) (by decide +kernel)
