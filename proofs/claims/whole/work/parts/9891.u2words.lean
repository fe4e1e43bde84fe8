/-! the words that the constructors need -/
theorem wc_X5_init : Cond.code yX5_init cX5_init 1 none ∈ BIG := bm 231 (by decide +kernel) (by decide +kernel)
theorem hd_X5_init : yX5_init.cls = RX5 ∧ yX5_init.cls ≠ "java/lang/invoke/MethodHandle" ∧ yX5_init.cls ≠ "java/lang/invoke/VarHandle" ∧ (parseMethodDescriptor yX5_init.desc).map (fun d => d.parameters.length) = some 0 := by decide +kernel
def dfX5 : List Value := [.int 0, .int 0, .int 0, .int 0, .int 0, .int 0, .int 0, .int 0, .int 0, .int 0, .int 0]
theorem dfX5_ok : ∀ j, j < 11 → defaultValue (tyX5 j) = vp_V dfX5 j := by
  intro j hj
  rcases (show j = 0 ∨ j = 1 ∨ j = 2 ∨ j = 3 ∨ j = 4 ∨ j = 5 ∨ j = 6 ∨ j = 7 ∨ j = 8 ∨ j = 9 ∨ j = 10 by omega) with rfl | rfl | rfl | rfl | rfl | rfl | rfl | rfl | rfl | rfl | rfl <;> rfl
theorem wm_RX5_3_o : Cond.methodLink RX5 3 objectInit ∈ BIG := bm 232 (by decide +kernel) (by decide +kernel)
theorem wi_o : Cond.instanceMethod objectInit ∈ BIG := bm 35 (by decide +kernel) (by decide +kernel)
theorem wc_o : Cond.code objectInit ⟨#[0xb1]⟩ 1 none ∈ BIG := bm 36 (by decide +kernel) (by decide +kernel)
theorem wc_X8_init : Cond.code yX8_init cX8_init 1 none ∈ BIG := bm 137 (by decide +kernel) (by decide +kernel)
theorem hd_X8_init : yX8_init.cls = RX8 ∧ yX8_init.cls ≠ "java/lang/invoke/MethodHandle" ∧ yX8_init.cls ≠ "java/lang/invoke/VarHandle" ∧ (parseMethodDescriptor yX8_init.desc).map (fun d => d.parameters.length) = some 0 := by decide +kernel
def dfX8 : List Value := [.int 0, .null, .null, .int 0, .int 0]
theorem dfX8_ok : ∀ j, j < 5 → defaultValue (tyX8 j) = vp_V dfX8 j := by
  intro j hj
  rcases (show j = 0 ∨ j = 1 ∨ j = 2 ∨ j = 3 ∨ j = 4 by omega) with rfl | rfl | rfl | rfl | rfl <;> rfl
theorem wm_RX8_3_o : Cond.methodLink RX8 3 objectInit ∈ BIG := bm 138 (by decide +kernel) (by decide +kernel)
theorem wac : Cond.arrayClass .int ∈ BIG := bm 86 (by decide +kernel) (by decide +kernel)
theorem wc_X1_init : Cond.code yX1_init cX1_init 1 none ∈ BIG := bm 99 (by decide +kernel) (by decide +kernel)
theorem hd_X1_init : yX1_init.cls = RX1 ∧ yX1_init.cls ≠ "java/lang/invoke/MethodHandle" ∧ yX1_init.cls ≠ "java/lang/invoke/VarHandle" ∧ (parseMethodDescriptor yX1_init.desc).map (fun d => d.parameters.length) = some 0 := by decide +kernel
def dfX1 : List Value := [.int 0, .null, .null, .null, .null]
theorem dfX1_ok : ∀ j, j < 5 → defaultValue (tyX1 j) = vp_V dfX1 j := by
  intro j hj
  rcases (show j = 0 ∨ j = 1 ∨ j = 2 ∨ j = 3 ∨ j = 4 by omega) with rfl | rfl | rfl | rfl | rfl <;> rfl
theorem wm_RX1_3_o : Cond.methodLink RX1 3 objectInit ∈ BIG := bm 100 (by decide +kernel) (by decide +kernel)
theorem wc_X2_init : Cond.code yX2_init cX2_init 1 none ∈ BIG := bm 121 (by decide +kernel) (by decide +kernel)
theorem hd_X2_init : yX2_init.cls = RX2 ∧ yX2_init.cls ≠ "java/lang/invoke/MethodHandle" ∧ yX2_init.cls ≠ "java/lang/invoke/VarHandle" ∧ (parseMethodDescriptor yX2_init.desc).map (fun d => d.parameters.length) = some 0 := by decide +kernel
def dfX2 : List Value := [.null, .null, .int 0]
theorem dfX2_ok : ∀ j, j < 3 → defaultValue (tyX2 j) = vp_V dfX2 j := by
  intro j hj
  rcases (show j = 0 ∨ j = 1 ∨ j = 2 by omega) with rfl | rfl | rfl <;> rfl
theorem wm_RX2_5_o : Cond.methodLink RX2 5 objectInit ∈ BIG := bm 122 (by decide +kernel) (by decide +kernel)
theorem wc_X0_init : Cond.code yX0_init cX0_init 2 none ∈ BIG := bm 160 (by decide +kernel) (by decide +kernel)
theorem hd_X0_init : yX0_init.cls = RX0 ∧ yX0_init.cls ≠ "java/lang/invoke/MethodHandle" ∧ yX0_init.cls ≠ "java/lang/invoke/VarHandle" ∧ (parseMethodDescriptor yX0_init.desc).map (fun d => d.parameters.length) = some 1 := by decide +kernel
def dfX0 : List Value := [.null]
theorem dfX0_ok : ∀ j, j < 1 → defaultValue (tyX0 j) = vp_V dfX0 j := by
  intro j hj
  rcases (show j = 0 by omega) with rfl <;> rfl
theorem wm_RX0_3_o : Cond.methodLink RX0 3 objectInit ∈ BIG := bm 161 (by decide +kernel) (by decide +kernel)
theorem wc_X4_init : Cond.code yX4_init cX4_init 2 none ∈ BIG := bm 170 (by decide +kernel) (by decide +kernel)
theorem hd_X4_init : yX4_init.cls = RX4 ∧ yX4_init.cls ≠ "java/lang/invoke/MethodHandle" ∧ yX4_init.cls ≠ "java/lang/invoke/VarHandle" ∧ (parseMethodDescriptor yX4_init.desc).map (fun d => d.parameters.length) = some 1 := by decide +kernel
def dfX4 : List Value := [.null, .null, .null, .null, .null, .int 0, .int 0]
theorem dfX4_ok : ∀ j, j < 7 → defaultValue (tyX4 j) = vp_V dfX4 j := by
  intro j hj
  rcases (show j = 0 ∨ j = 1 ∨ j = 2 ∨ j = 3 ∨ j = 4 ∨ j = 5 ∨ j = 6 by omega) with rfl | rfl | rfl | rfl | rfl | rfl | rfl <;> rfl
theorem wm_RX4_3_o : Cond.methodLink RX4 3 objectInit ∈ BIG := bm 171 (by decide +kernel) (by decide +kernel)
theorem wc_X12_init : Cond.code yX12_init cX12_init 1 none ∈ BIG := bm 1320 (by decide +kernel) (by decide +kernel)
theorem hd_X12_init : yX12_init.cls = RX12 ∧ yX12_init.cls ≠ "java/lang/invoke/MethodHandle" ∧ yX12_init.cls ≠ "java/lang/invoke/VarHandle" ∧ (parseMethodDescriptor yX12_init.desc).map (fun d => d.parameters.length) = some 0 := by decide +kernel
def dfX12 : List Value := [.int 0, .null, .null, .int 0, .null, .null, .int 0, .null, .int 0, .int 0, .int 0, .int 0, .int 0, .int 0, .null, .int 0, .int 0, .int 0, .int 0, .null, .null, .null, .null, .null, .int 0, .int 0, .null, .null, .null, .null]
theorem dfX12_ok : ∀ j, j < 30 → defaultValue (tyX12 j) = vp_V dfX12 j := by
  intro j hj
  rcases (show j = 0 ∨ j = 1 ∨ j = 2 ∨ j = 3 ∨ j = 4 ∨ j = 5 ∨ j = 6 ∨ j = 7 ∨ j = 8 ∨ j = 9 ∨ j = 10 ∨ j = 11 ∨ j = 12 ∨ j = 13 ∨ j = 14 ∨ j = 15 ∨ j = 16 ∨ j = 17 ∨ j = 18 ∨ j = 19 ∨ j = 20 ∨ j = 21 ∨ j = 22 ∨ j = 23 ∨ j = 24 ∨ j = 25 ∨ j = 26 ∨ j = 27 ∨ j = 28 ∨ j = 29 by omega) with rfl | rfl | rfl | rfl | rfl | rfl | rfl | rfl | rfl | rfl | rfl | rfl | rfl | rfl | rfl | rfl | rfl | rfl | rfl | rfl | rfl | rfl | rfl | rfl | rfl | rfl | rfl | rfl | rfl | rfl <;> rfl
theorem wm_RX12_1_o : Cond.methodLink RX12 1 objectInit ∈ BIG := bm 1321 (by decide +kernel) (by decide +kernel)
theorem wc_X3_init : Cond.code yX3_init cX3_init 6 none ∈ BIG := bm 198 (by decide +kernel) (by decide +kernel)
theorem hd_X3_init : yX3_init.cls = RX3 ∧ yX3_init.cls ≠ "java/lang/invoke/MethodHandle" ∧ yX3_init.cls ≠ "java/lang/invoke/VarHandle" ∧ (parseMethodDescriptor yX3_init.desc).map (fun d => d.parameters.length) = some 5 := by decide +kernel
def dfX3 : List Value := [.int 0, .null, .null, .null, .null, .null]
theorem dfX3_ok : ∀ j, j < 6 → defaultValue (tyX3 j) = vp_V dfX3 j := by
  intro j hj
  rcases (show j = 0 ∨ j = 1 ∨ j = 2 ∨ j = 3 ∨ j = 4 ∨ j = 5 by omega) with rfl | rfl | rfl | rfl | rfl | rfl <;> rfl
theorem wm_RX3_3_o : Cond.methodLink RX3 3 objectInit ∈ BIG := bm 199 (by decide +kernel) (by decide +kernel)
theorem wc_X10_init : Cond.code yX10_init cX10_init 1 none ∈ BIG := bm 47 (by decide +kernel) (by decide +kernel)
theorem hd_X10_init : yX10_init.cls = RX10 ∧ yX10_init.cls ≠ "java/lang/invoke/MethodHandle" ∧ yX10_init.cls ≠ "java/lang/invoke/VarHandle" ∧ (parseMethodDescriptor yX10_init.desc).map (fun d => d.parameters.length) = some 0 := by decide +kernel
def dfX10 : List Value := [.null, .null, .null, .null, .int 0, .int 0, .null]
theorem dfX10_ok : ∀ j, j < 7 → defaultValue (tyX10 j) = vp_V dfX10 j := by
  intro j hj
  rcases (show j = 0 ∨ j = 1 ∨ j = 2 ∨ j = 3 ∨ j = 4 ∨ j = 5 ∨ j = 6 by omega) with rfl | rfl | rfl | rfl | rfl | rfl | rfl <;> rfl
theorem wm_RX10_3_o : Cond.methodLink RX10 3 objectInit ∈ BIG := bm 48 (by decide +kernel) (by decide +kernel)
theorem wcn_RX10_9 : Cond.classLink RX10 9 ("[" ++ (FieldType.array .int).toString) ∈ BIG := bm 49 (by decide +kernel) (by decide +kernel)
theorem wc_X9_init : Cond.code yX9_init cX9_init 1 none ∈ BIG := bm 41 (by decide +kernel) (by decide +kernel)
theorem hd_X9_init : yX9_init.cls = RX9 ∧ yX9_init.cls ≠ "java/lang/invoke/MethodHandle" ∧ yX9_init.cls ≠ "java/lang/invoke/VarHandle" ∧ (parseMethodDescriptor yX9_init.desc).map (fun d => d.parameters.length) = some 0 := by decide +kernel
def dfX9 : List Value := [.null, .null]
theorem dfX9_ok : ∀ j, j < 2 → defaultValue (tyX9 j) = vp_V dfX9 j := by
  intro j hj
  rcases (show j = 0 ∨ j = 1 by omega) with rfl | rfl <;> rfl
theorem wm_RX9_3_o : Cond.methodLink RX9 3 objectInit ∈ BIG := bm 42 (by decide +kernel) (by decide +kernel)
theorem wcn_RX9_9 : Cond.classLink RX9 9 RX10 ∈ BIG := bm 43 (by decide +kernel) (by decide +kernel)
theorem wit_X10 : Cond.instantiable RX10 7 ∈ BIG := bm 44 (by decide +kernel) (by decide +kernel)
theorem wi_X10_init : Cond.instanceMethod yX10_init ∈ BIG := bm 46 (by decide +kernel) (by decide +kernel)
theorem wc_X7_init : Cond.code yX7_init cX7_init 3 none ∈ BIG := bm 224 (by decide +kernel) (by decide +kernel)
theorem hd_X7_init : yX7_init.cls = RX7 ∧ yX7_init.cls ≠ "java/lang/invoke/MethodHandle" ∧ yX7_init.cls ≠ "java/lang/invoke/VarHandle" ∧ (parseMethodDescriptor yX7_init.desc).map (fun d => d.parameters.length) = some 1 := by decide +kernel
def dfX7 : List Value := [.null, .null, .int 0, .int 0, .int 0, .int 0, .int 0, .int 0, .int 0, .int 0, .null]
theorem dfX7_ok : ∀ j, j < 11 → defaultValue (tyX7 j) = vp_V dfX7 j := by
  intro j hj
  rcases (show j = 0 ∨ j = 1 ∨ j = 2 ∨ j = 3 ∨ j = 4 ∨ j = 5 ∨ j = 6 ∨ j = 7 ∨ j = 8 ∨ j = 9 ∨ j = 10 by omega) with rfl | rfl | rfl | rfl | rfl | rfl | rfl | rfl | rfl | rfl | rfl <;> rfl
theorem wm_RX7_3_o : Cond.methodLink RX7 3 objectInit ∈ BIG := bm 225 (by decide +kernel) (by decide +kernel)
theorem wcn_RX7_9 : Cond.classLink RX7 9 RX5 ∈ BIG := bm 226 (by decide +kernel) (by decide +kernel)
theorem wi_X5_init : Cond.instanceMethod yX5_init ∈ BIG := bm 230 (by decide +kernel) (by decide +kernel)
theorem wit_X5 : Cond.instantiable RX5 11 ∈ BIG := bm 228 (by decide +kernel) (by decide +kernel)
theorem wc_X6_init : Cond.code yX6_init cX6_init 3 none ∈ BIG := bm 376 (by decide +kernel) (by decide +kernel)
theorem hd_X6_init : yX6_init.cls = RX6 ∧ yX6_init.cls ≠ "java/lang/invoke/MethodHandle" ∧ yX6_init.cls ≠ "java/lang/invoke/VarHandle" ∧ (parseMethodDescriptor yX6_init.desc).map (fun d => d.parameters.length) = some 1 := by decide +kernel
def dfX6 : List Value := [.null, .int 0, .int 0]
theorem dfX6_ok : ∀ j, j < 3 → defaultValue (tyX6 j) = vp_V dfX6 j := by
  intro j hj
  rcases (show j = 0 ∨ j = 1 ∨ j = 2 by omega) with rfl | rfl | rfl <;> rfl
theorem wm_RX6_3_o : Cond.methodLink RX6 3 objectInit ∈ BIG := bm 377 (by decide +kernel) (by decide +kernel)
theorem wcn_RX6_9 : Cond.classLink RX6 9 RX7 ∈ BIG := bm 378 (by decide +kernel) (by decide +kernel)
theorem wi_X7_init : Cond.instanceMethod yX7_init ∈ BIG := bm 223 (by decide +kernel) (by decide +kernel)
theorem wm_RX6_17 : Cond.methodLink RX6 17 yX7_init ∈ BIG := bm 380 (by decide +kernel) (by decide +kernel)
theorem wit_X7 : Cond.instantiable RX7 11 ∈ BIG := bm 221 (by decide +kernel) (by decide +kernel)
theorem wc_X11_init : Cond.code yX11_init cX11_init 2 none ∈ BIG := bm 33 (by decide +kernel) (by decide +kernel)
theorem hd_X11_init : yX11_init.cls = RX11 ∧ yX11_init.cls ≠ "java/lang/invoke/MethodHandle" ∧ yX11_init.cls ≠ "java/lang/invoke/VarHandle" ∧ (parseMethodDescriptor yX11_init.desc).map (fun d => d.parameters.length) = some 0 := by decide +kernel
def dfX11 : List Value := [.null, .int 0, .int 0, .null, .null, .null, .int 0, .null, .null, .null, .null, .null, .null, .null, .null, .null]
theorem dfX11_ok : ∀ j, j < 16 → defaultValue (tyX11 j) = vp_V dfX11 j := by
  intro j hj
  rcases (show j = 0 ∨ j = 1 ∨ j = 2 ∨ j = 3 ∨ j = 4 ∨ j = 5 ∨ j = 6 ∨ j = 7 ∨ j = 8 ∨ j = 9 ∨ j = 10 ∨ j = 11 ∨ j = 12 ∨ j = 13 ∨ j = 14 ∨ j = 15 by omega) with rfl | rfl | rfl | rfl | rfl | rfl | rfl | rfl | rfl | rfl | rfl | rfl | rfl | rfl | rfl | rfl <;> rfl
theorem wm_RX11_3_o : Cond.methodLink RX11 3 objectInit ∈ BIG := bm 34 (by decide +kernel) (by decide +kernel)
theorem wcn_RX11_17 : Cond.classLink RX11 17 RX9 ∈ BIG := bm 37 (by decide +kernel) (by decide +kernel)
theorem wit_X9 : Cond.instantiable RX9 2 ∈ BIG := bm 38 (by decide +kernel) (by decide +kernel)
theorem wi_X9_init : Cond.instanceMethod yX9_init ∈ BIG := bm 40 (by decide +kernel) (by decide +kernel)
theorem wcn_RX11_24 : Cond.classLink RX11 24 RX1 ∈ BIG := bm 95 (by decide +kernel) (by decide +kernel)
theorem wit_X1 : Cond.instantiable RX1 5 ∈ BIG := bm 96 (by decide +kernel) (by decide +kernel)
theorem wi_X1_init : Cond.instanceMethod yX1_init ∈ BIG := bm 98 (by decide +kernel) (by decide +kernel)
theorem wcn_RX11_31 : Cond.classLink RX11 31 RX2 ∈ BIG := bm 117 (by decide +kernel) (by decide +kernel)
theorem wit_X2 : Cond.instantiable RX2 3 ∈ BIG := bm 118 (by decide +kernel) (by decide +kernel)
theorem wi_X2_init : Cond.instanceMethod yX2_init ∈ BIG := bm 120 (by decide +kernel) (by decide +kernel)
theorem wcn_RX11_38 : Cond.classLink RX11 38 RX8 ∈ BIG := bm 133 (by decide +kernel) (by decide +kernel)
theorem wit_X8 : Cond.instantiable RX8 5 ∈ BIG := bm 134 (by decide +kernel) (by decide +kernel)
theorem wi_X8_init : Cond.instanceMethod yX8_init ∈ BIG := bm 136 (by decide +kernel) (by decide +kernel)
theorem wcn_RX11_45 : Cond.classLink RX11 45 RX0 ∈ BIG := bm 156 (by decide +kernel) (by decide +kernel)
theorem wit_X0 : Cond.instantiable RX0 1 ∈ BIG := bm 157 (by decide +kernel) (by decide +kernel)
theorem wi_X0_init : Cond.instanceMethod yX0_init ∈ BIG := bm 159 (by decide +kernel) (by decide +kernel)
theorem wm_RX11_47 : Cond.methodLink RX11 47 yX0_init ∈ BIG := bm 158 (by decide +kernel) (by decide +kernel)
theorem wcn_RX11_54 : Cond.classLink RX11 54 RX4 ∈ BIG := bm 166 (by decide +kernel) (by decide +kernel)
theorem wit_X4 : Cond.instantiable RX4 7 ∈ BIG := bm 167 (by decide +kernel) (by decide +kernel)
theorem wi_X4_init : Cond.instanceMethod yX4_init ∈ BIG := bm 169 (by decide +kernel) (by decide +kernel)
theorem wm_RX11_56 : Cond.methodLink RX11 56 yX4_init ∈ BIG := bm 168 (by decide +kernel) (by decide +kernel)
theorem wcn_RX11_67 : Cond.classLink RX11 67 RX3 ∈ BIG := bm 194 (by decide +kernel) (by decide +kernel)
theorem wit_X3 : Cond.instantiable RX3 6 ∈ BIG := bm 195 (by decide +kernel) (by decide +kernel)
theorem wi_X3_init : Cond.instanceMethod yX3_init ∈ BIG := bm 197 (by decide +kernel) (by decide +kernel)
theorem wm_RX11_69 : Cond.methodLink RX11 69 yX3_init ∈ BIG := bm 196 (by decide +kernel) (by decide +kernel)
theorem wcn_RX11_72 : Cond.classLink RX11 72 RX7 ∈ BIG := bm 220 (by decide +kernel) (by decide +kernel)
theorem wm_RX11_74 : Cond.methodLink RX11 74 yX7_init ∈ BIG := bm 222 (by decide +kernel) (by decide +kernel)
theorem wcn_RX11_87 : Cond.classLink RX11 87 RX6 ∈ BIG := bm 372 (by decide +kernel) (by decide +kernel)
theorem wit_X6 : Cond.instantiable RX6 3 ∈ BIG := bm 373 (by decide +kernel) (by decide +kernel)
theorem wi_X6_init : Cond.instanceMethod yX6_init ∈ BIG := bm 375 (by decide +kernel) (by decide +kernel)
theorem wm_RX11_89 : Cond.methodLink RX11 89 yX6_init ∈ BIG := bm 374 (by decide +kernel) (by decide +kernel)
