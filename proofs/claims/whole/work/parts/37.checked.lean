/-! ===== more methods checked ===== -/
theorem ko192 : ai_okm 192 = true := by decide +kernel
theorem kd192 : ai_wat (7, 71) = some (Cond.code (ai_km 192).1 (ai_km 192).2.1 (ai_km 192).2.2.1 (ai_km 192).2.2.2.1) := by rfl
theorem ke192 : goodWord (Cond.code (ai_km 192).1 (ai_km 192).2.1 (ai_km 192).2.2.1 (ai_km 192).2.2.2.1) = true ∧ plainName (ai_km 192).1.cls = true ∧ ((ai_km 192).1.cls ≠ "java/lang/invoke/MethodHandle" ∧ (ai_km 192).1.cls ≠ "java/lang/invoke/VarHandle" ∧ (parseMethodDescriptor (ai_km 192).1.desc).map (fun d => d.parameters.length) = some (ai_km 192).2.2.2.2.1) ∧ (ai_km 192).2.2.1 ≤ 60 := by decide +kernel
theorem kf192 : ai_mok 192 := ⟨ko192, GW_of (ai_wat_in kd192) ke192.1, ke192.2.1, ke192.2.2.1, ke192.2.2.2⟩
theorem kg192 : ∀ a, a < 193 → ai_mok a := lt_s kg191 kf192
theorem ko193 : ai_okm 193 = true := by decide +kernel
theorem kd193 : ai_wat (7, 79) = some (Cond.code (ai_km 193).1 (ai_km 193).2.1 (ai_km 193).2.2.1 (ai_km 193).2.2.2.1) := by rfl
theorem ke193 : goodWord (Cond.code (ai_km 193).1 (ai_km 193).2.1 (ai_km 193).2.2.1 (ai_km 193).2.2.2.1) = true ∧ plainName (ai_km 193).1.cls = true ∧ ((ai_km 193).1.cls ≠ "java/lang/invoke/MethodHandle" ∧ (ai_km 193).1.cls ≠ "java/lang/invoke/VarHandle" ∧ (parseMethodDescriptor (ai_km 193).1.desc).map (fun d => d.parameters.length) = some (ai_km 193).2.2.2.2.1) ∧ (ai_km 193).2.2.1 ≤ 60 := by decide +kernel
theorem kf193 : ai_mok 193 := ⟨ko193, GW_of (ai_wat_in kd193) ke193.1, ke193.2.1, ke193.2.2.1, ke193.2.2.2⟩
theorem kg193 : ∀ a, a < 194 → ai_mok a := lt_s kg192 kf193
theorem ko194 : ai_okm 194 = true := by decide +kernel
theorem kd194 : ai_wat (7, 75) = some (Cond.code (ai_km 194).1 (ai_km 194).2.1 (ai_km 194).2.2.1 (ai_km 194).2.2.2.1) := by rfl
theorem ke194 : goodWord (Cond.code (ai_km 194).1 (ai_km 194).2.1 (ai_km 194).2.2.1 (ai_km 194).2.2.2.1) = true ∧ plainName (ai_km 194).1.cls = true ∧ ((ai_km 194).1.cls ≠ "java/lang/invoke/MethodHandle" ∧ (ai_km 194).1.cls ≠ "java/lang/invoke/VarHandle" ∧ (parseMethodDescriptor (ai_km 194).1.desc).map (fun d => d.parameters.length) = some (ai_km 194).2.2.2.2.1) ∧ (ai_km 194).2.2.1 ≤ 60 := by decide +kernel
theorem kf194 : ai_mok 194 := ⟨ko194, GW_of (ai_wat_in kd194) ke194.1, ke194.2.1, ke194.2.2.1, ke194.2.2.2⟩
theorem kg194 : ∀ a, a < 195 → ai_mok a := lt_s kg193 kf194
theorem ko195 : ai_okm 195 = true := by decide +kernel
theorem kd195 : ai_wat (7, 67) = some (Cond.code (ai_km 195).1 (ai_km 195).2.1 (ai_km 195).2.2.1 (ai_km 195).2.2.2.1) := by rfl
theorem ke195 : goodWord (Cond.code (ai_km 195).1 (ai_km 195).2.1 (ai_km 195).2.2.1 (ai_km 195).2.2.2.1) = true ∧ plainName (ai_km 195).1.cls = true ∧ ((ai_km 195).1.cls ≠ "java/lang/invoke/MethodHandle" ∧ (ai_km 195).1.cls ≠ "java/lang/invoke/VarHandle" ∧ (parseMethodDescriptor (ai_km 195).1.desc).map (fun d => d.parameters.length) = some (ai_km 195).2.2.2.2.1) ∧ (ai_km 195).2.2.1 ≤ 60 := by decide +kernel
theorem kf195 : ai_mok 195 := ⟨ko195, GW_of (ai_wat_in kd195) ke195.1, ke195.2.1, ke195.2.2.1, ke195.2.2.2⟩
theorem kg195 : ∀ a, a < 196 → ai_mok a := lt_s kg194 kf195
theorem ko196 : ai_okm 196 = true := by decide +kernel
theorem kd196 : ai_wat (7, 56) = some (Cond.code (ai_km 196).1 (ai_km 196).2.1 (ai_km 196).2.2.1 (ai_km 196).2.2.2.1) := by rfl
theorem ke196 : goodWord (Cond.code (ai_km 196).1 (ai_km 196).2.1 (ai_km 196).2.2.1 (ai_km 196).2.2.2.1) = true ∧ plainName (ai_km 196).1.cls = true ∧ ((ai_km 196).1.cls ≠ "java/lang/invoke/MethodHandle" ∧ (ai_km 196).1.cls ≠ "java/lang/invoke/VarHandle" ∧ (parseMethodDescriptor (ai_km 196).1.desc).map (fun d => d.parameters.length) = some (ai_km 196).2.2.2.2.1) ∧ (ai_km 196).2.2.1 ≤ 60 := by decide +kernel
theorem kf196 : ai_mok 196 := ⟨ko196, GW_of (ai_wat_in kd196) ke196.1, ke196.2.1, ke196.2.2.1, ke196.2.2.2⟩
theorem kg196 : ∀ a, a < 197 → ai_mok a := lt_s kg195 kf196
theorem ko197 : ai_okm 197 = true := by decide +kernel
theorem kd197 : ai_wat (7, 95) = some (Cond.code (ai_km 197).1 (ai_km 197).2.1 (ai_km 197).2.2.1 (ai_km 197).2.2.2.1) := by rfl
theorem ke197 : goodWord (Cond.code (ai_km 197).1 (ai_km 197).2.1 (ai_km 197).2.2.1 (ai_km 197).2.2.2.1) = true ∧ plainName (ai_km 197).1.cls = true ∧ ((ai_km 197).1.cls ≠ "java/lang/invoke/MethodHandle" ∧ (ai_km 197).1.cls ≠ "java/lang/invoke/VarHandle" ∧ (parseMethodDescriptor (ai_km 197).1.desc).map (fun d => d.parameters.length) = some (ai_km 197).2.2.2.2.1) ∧ (ai_km 197).2.2.1 ≤ 60 := by decide +kernel
theorem kf197 : ai_mok 197 := ⟨ko197, GW_of (ai_wat_in kd197) ke197.1, ke197.2.1, ke197.2.2.1, ke197.2.2.2⟩
theorem kg197 : ∀ a, a < 198 → ai_mok a := lt_s kg196 kf197
theorem ko198 : ai_okm 198 = true := by decide +kernel
theorem kd198 : ai_wat (7, 91) = some (Cond.code (ai_km 198).1 (ai_km 198).2.1 (ai_km 198).2.2.1 (ai_km 198).2.2.2.1) := by rfl
theorem ke198 : goodWord (Cond.code (ai_km 198).1 (ai_km 198).2.1 (ai_km 198).2.2.1 (ai_km 198).2.2.2.1) = true ∧ plainName (ai_km 198).1.cls = true ∧ ((ai_km 198).1.cls ≠ "java/lang/invoke/MethodHandle" ∧ (ai_km 198).1.cls ≠ "java/lang/invoke/VarHandle" ∧ (parseMethodDescriptor (ai_km 198).1.desc).map (fun d => d.parameters.length) = some (ai_km 198).2.2.2.2.1) ∧ (ai_km 198).2.2.1 ≤ 60 := by decide +kernel
theorem kf198 : ai_mok 198 := ⟨ko198, GW_of (ai_wat_in kd198) ke198.1, ke198.2.1, ke198.2.2.1, ke198.2.2.2⟩
theorem kg198 : ∀ a, a < 199 → ai_mok a := lt_s kg197 kf198
theorem ko199 : ai_okm 199 = true := by decide +kernel
theorem kd199 : ai_wat (7, 87) = some (Cond.code (ai_km 199).1 (ai_km 199).2.1 (ai_km 199).2.2.1 (ai_km 199).2.2.2.1) := by rfl
theorem ke199 : goodWord (Cond.code (ai_km 199).1 (ai_km 199).2.1 (ai_km 199).2.2.1 (ai_km 199).2.2.2.1) = true ∧ plainName (ai_km 199).1.cls = true ∧ ((ai_km 199).1.cls ≠ "java/lang/invoke/MethodHandle" ∧ (ai_km 199).1.cls ≠ "java/lang/invoke/VarHandle" ∧ (parseMethodDescriptor (ai_km 199).1.desc).map (fun d => d.parameters.length) = some (ai_km 199).2.2.2.2.1) ∧ (ai_km 199).2.2.1 ≤ 60 := by decide +kernel
theorem kf199 : ai_mok 199 := ⟨ko199, GW_of (ai_wat_in kd199) ke199.1, ke199.2.1, ke199.2.2.1, ke199.2.2.2⟩
theorem kg199 : ∀ a, a < 200 → ai_mok a := lt_s kg198 kf199
theorem ko200 : ai_okm 200 = true := by decide +kernel
theorem kd200 : ai_wat (7, 103) = some (Cond.code (ai_km 200).1 (ai_km 200).2.1 (ai_km 200).2.2.1 (ai_km 200).2.2.2.1) := by rfl
theorem ke200 : goodWord (Cond.code (ai_km 200).1 (ai_km 200).2.1 (ai_km 200).2.2.1 (ai_km 200).2.2.2.1) = true ∧ plainName (ai_km 200).1.cls = true ∧ ((ai_km 200).1.cls ≠ "java/lang/invoke/MethodHandle" ∧ (ai_km 200).1.cls ≠ "java/lang/invoke/VarHandle" ∧ (parseMethodDescriptor (ai_km 200).1.desc).map (fun d => d.parameters.length) = some (ai_km 200).2.2.2.2.1) ∧ (ai_km 200).2.2.1 ≤ 60 := by decide +kernel
theorem kf200 : ai_mok 200 := ⟨ko200, GW_of (ai_wat_in kd200) ke200.1, ke200.2.1, ke200.2.2.1, ke200.2.2.2⟩
theorem kg200 : ∀ a, a < 201 → ai_mok a := lt_s kg199 kf200
theorem ko201 : ai_okm 201 = true := by decide +kernel
theorem kd201 : ai_wat (7, 99) = some (Cond.code (ai_km 201).1 (ai_km 201).2.1 (ai_km 201).2.2.1 (ai_km 201).2.2.2.1) := by rfl
theorem ke201 : goodWord (Cond.code (ai_km 201).1 (ai_km 201).2.1 (ai_km 201).2.2.1 (ai_km 201).2.2.2.1) = true ∧ plainName (ai_km 201).1.cls = true ∧ ((ai_km 201).1.cls ≠ "java/lang/invoke/MethodHandle" ∧ (ai_km 201).1.cls ≠ "java/lang/invoke/VarHandle" ∧ (parseMethodDescriptor (ai_km 201).1.desc).map (fun d => d.parameters.length) = some (ai_km 201).2.2.2.2.1) ∧ (ai_km 201).2.2.1 ≤ 60 := by decide +kernel
theorem kf201 : ai_mok 201 := ⟨ko201, GW_of (ai_wat_in kd201) ke201.1, ke201.2.1, ke201.2.2.1, ke201.2.2.2⟩
theorem kg201 : ∀ a, a < 202 → ai_mok a := lt_s kg200 kf201
theorem ko202 : ai_okm 202 = true := by decide +kernel
theorem kd202 : ai_wat (7, 83) = some (Cond.code (ai_km 202).1 (ai_km 202).2.1 (ai_km 202).2.2.1 (ai_km 202).2.2.2.1) := by rfl
theorem ke202 : goodWord (Cond.code (ai_km 202).1 (ai_km 202).2.1 (ai_km 202).2.2.1 (ai_km 202).2.2.2.1) = true ∧ plainName (ai_km 202).1.cls = true ∧ ((ai_km 202).1.cls ≠ "java/lang/invoke/MethodHandle" ∧ (ai_km 202).1.cls ≠ "java/lang/invoke/VarHandle" ∧ (parseMethodDescriptor (ai_km 202).1.desc).map (fun d => d.parameters.length) = some (ai_km 202).2.2.2.2.1) ∧ (ai_km 202).2.2.1 ≤ 60 := by decide +kernel
theorem kf202 : ai_mok 202 := ⟨ko202, GW_of (ai_wat_in kd202) ke202.1, ke202.2.1, ke202.2.2.1, ke202.2.2.2⟩
theorem kg202 : ∀ a, a < 203 → ai_mok a := lt_s kg201 kf202
theorem ko203 : ai_okm 203 = true := by decide +kernel
theorem kd203 : ai_wat (7, 107) = some (Cond.code (ai_km 203).1 (ai_km 203).2.1 (ai_km 203).2.2.1 (ai_km 203).2.2.2.1) := by rfl
theorem ke203 : goodWord (Cond.code (ai_km 203).1 (ai_km 203).2.1 (ai_km 203).2.2.1 (ai_km 203).2.2.2.1) = true ∧ plainName (ai_km 203).1.cls = true ∧ ((ai_km 203).1.cls ≠ "java/lang/invoke/MethodHandle" ∧ (ai_km 203).1.cls ≠ "java/lang/invoke/VarHandle" ∧ (parseMethodDescriptor (ai_km 203).1.desc).map (fun d => d.parameters.length) = some (ai_km 203).2.2.2.2.1) ∧ (ai_km 203).2.2.1 ≤ 60 := by decide +kernel
theorem kf203 : ai_mok 203 := ⟨ko203, GW_of (ai_wat_in kd203) ke203.1, ke203.2.1, ke203.2.2.1, ke203.2.2.2⟩
theorem kg203 : ∀ a, a < 204 → ai_mok a := lt_s kg202 kf203
theorem ko204 : ai_okm 204 = true := by decide +kernel
theorem kd204 : ai_wat (7, 111) = some (Cond.code (ai_km 204).1 (ai_km 204).2.1 (ai_km 204).2.2.1 (ai_km 204).2.2.2.1) := by rfl
theorem ke204 : goodWord (Cond.code (ai_km 204).1 (ai_km 204).2.1 (ai_km 204).2.2.1 (ai_km 204).2.2.2.1) = true ∧ plainName (ai_km 204).1.cls = true ∧ ((ai_km 204).1.cls ≠ "java/lang/invoke/MethodHandle" ∧ (ai_km 204).1.cls ≠ "java/lang/invoke/VarHandle" ∧ (parseMethodDescriptor (ai_km 204).1.desc).map (fun d => d.parameters.length) = some (ai_km 204).2.2.2.2.1) ∧ (ai_km 204).2.2.1 ≤ 60 := by decide +kernel
theorem kf204 : ai_mok 204 := ⟨ko204, GW_of (ai_wat_in kd204) ke204.1, ke204.2.1, ke204.2.2.1, ke204.2.2.2⟩
theorem kg204 : ∀ a, a < 205 → ai_mok a := lt_s kg203 kf204
theorem ko205 : ai_okm 205 = true := by decide +kernel
theorem kd205 : ai_wat (7, 123) = some (Cond.code (ai_km 205).1 (ai_km 205).2.1 (ai_km 205).2.2.1 (ai_km 205).2.2.2.1) := by rfl
theorem ke205 : goodWord (Cond.code (ai_km 205).1 (ai_km 205).2.1 (ai_km 205).2.2.1 (ai_km 205).2.2.2.1) = true ∧ plainName (ai_km 205).1.cls = true ∧ ((ai_km 205).1.cls ≠ "java/lang/invoke/MethodHandle" ∧ (ai_km 205).1.cls ≠ "java/lang/invoke/VarHandle" ∧ (parseMethodDescriptor (ai_km 205).1.desc).map (fun d => d.parameters.length) = some (ai_km 205).2.2.2.2.1) ∧ (ai_km 205).2.2.1 ≤ 60 := by decide +kernel
theorem kf205 : ai_mok 205 := ⟨ko205, GW_of (ai_wat_in kd205) ke205.1, ke205.2.1, ke205.2.2.1, ke205.2.2.2⟩
theorem kg205 : ∀ a, a < 206 → ai_mok a := lt_s kg204 kf205
theorem ko206 : ai_okm 206 = true := by decide +kernel
theorem kd206 : ai_wat (7, 119) = some (Cond.code (ai_km 206).1 (ai_km 206).2.1 (ai_km 206).2.2.1 (ai_km 206).2.2.2.1) := by rfl
theorem ke206 : goodWord (Cond.code (ai_km 206).1 (ai_km 206).2.1 (ai_km 206).2.2.1 (ai_km 206).2.2.2.1) = true ∧ plainName (ai_km 206).1.cls = true ∧ ((ai_km 206).1.cls ≠ "java/lang/invoke/MethodHandle" ∧ (ai_km 206).1.cls ≠ "java/lang/invoke/VarHandle" ∧ (parseMethodDescriptor (ai_km 206).1.desc).map (fun d => d.parameters.length) = some (ai_km 206).2.2.2.2.1) ∧ (ai_km 206).2.2.1 ≤ 60 := by decide +kernel
theorem kf206 : ai_mok 206 := ⟨ko206, GW_of (ai_wat_in kd206) ke206.1, ke206.2.1, ke206.2.2.1, ke206.2.2.2⟩
theorem kg206 : ∀ a, a < 207 → ai_mok a := lt_s kg205 kf206
theorem ko207 : ai_okm 207 = true := by decide +kernel
theorem kd207 : ai_wat (7, 128) = some (Cond.code (ai_km 207).1 (ai_km 207).2.1 (ai_km 207).2.2.1 (ai_km 207).2.2.2.1) := by rfl
theorem ke207 : goodWord (Cond.code (ai_km 207).1 (ai_km 207).2.1 (ai_km 207).2.2.1 (ai_km 207).2.2.2.1) = true ∧ plainName (ai_km 207).1.cls = true ∧ ((ai_km 207).1.cls ≠ "java/lang/invoke/MethodHandle" ∧ (ai_km 207).1.cls ≠ "java/lang/invoke/VarHandle" ∧ (parseMethodDescriptor (ai_km 207).1.desc).map (fun d => d.parameters.length) = some (ai_km 207).2.2.2.2.1) ∧ (ai_km 207).2.2.1 ≤ 60 := by decide +kernel
theorem kf207 : ai_mok 207 := ⟨ko207, GW_of (ai_wat_in kd207) ke207.1, ke207.2.1, ke207.2.2.1, ke207.2.2.2⟩
theorem kg207 : ∀ a, a < 208 → ai_mok a := lt_s kg206 kf207
theorem ko208 : ai_okm 208 = true := by decide +kernel
theorem kd208 : ai_wat (7, 115) = some (Cond.code (ai_km 208).1 (ai_km 208).2.1 (ai_km 208).2.2.1 (ai_km 208).2.2.2.1) := by rfl
theorem ke208 : goodWord (Cond.code (ai_km 208).1 (ai_km 208).2.1 (ai_km 208).2.2.1 (ai_km 208).2.2.2.1) = true ∧ plainName (ai_km 208).1.cls = true ∧ ((ai_km 208).1.cls ≠ "java/lang/invoke/MethodHandle" ∧ (ai_km 208).1.cls ≠ "java/lang/invoke/VarHandle" ∧ (parseMethodDescriptor (ai_km 208).1.desc).map (fun d => d.parameters.length) = some (ai_km 208).2.2.2.2.1) ∧ (ai_km 208).2.2.1 ≤ 60 := by decide +kernel
theorem kf208 : ai_mok 208 := ⟨ko208, GW_of (ai_wat_in kd208) ke208.1, ke208.2.1, ke208.2.2.1, ke208.2.2.2⟩
theorem kg208 : ∀ a, a < 209 → ai_mok a := lt_s kg207 kf208
theorem ko209 : ai_okm 209 = true := by decide +kernel
theorem kd209 : ai_wat (7, 132) = some (Cond.code (ai_km 209).1 (ai_km 209).2.1 (ai_km 209).2.2.1 (ai_km 209).2.2.2.1) := by rfl
theorem ke209 : goodWord (Cond.code (ai_km 209).1 (ai_km 209).2.1 (ai_km 209).2.2.1 (ai_km 209).2.2.2.1) = true ∧ plainName (ai_km 209).1.cls = true ∧ ((ai_km 209).1.cls ≠ "java/lang/invoke/MethodHandle" ∧ (ai_km 209).1.cls ≠ "java/lang/invoke/VarHandle" ∧ (parseMethodDescriptor (ai_km 209).1.desc).map (fun d => d.parameters.length) = some (ai_km 209).2.2.2.2.1) ∧ (ai_km 209).2.2.1 ≤ 60 := by decide +kernel
theorem kf209 : ai_mok 209 := ⟨ko209, GW_of (ai_wat_in kd209) ke209.1, ke209.2.1, ke209.2.2.1, ke209.2.2.2⟩
theorem kg209 : ∀ a, a < 210 → ai_mok a := lt_s kg208 kf209
theorem ko210 : ai_okm 210 = true := by decide +kernel
theorem kd210 : ai_wat (7, 140) = some (Cond.code (ai_km 210).1 (ai_km 210).2.1 (ai_km 210).2.2.1 (ai_km 210).2.2.2.1) := by rfl
theorem ke210 : goodWord (Cond.code (ai_km 210).1 (ai_km 210).2.1 (ai_km 210).2.2.1 (ai_km 210).2.2.2.1) = true ∧ plainName (ai_km 210).1.cls = true ∧ ((ai_km 210).1.cls ≠ "java/lang/invoke/MethodHandle" ∧ (ai_km 210).1.cls ≠ "java/lang/invoke/VarHandle" ∧ (parseMethodDescriptor (ai_km 210).1.desc).map (fun d => d.parameters.length) = some (ai_km 210).2.2.2.2.1) ∧ (ai_km 210).2.2.1 ≤ 60 := by decide +kernel
theorem kf210 : ai_mok 210 := ⟨ko210, GW_of (ai_wat_in kd210) ke210.1, ke210.2.1, ke210.2.2.1, ke210.2.2.2⟩
theorem kg210 : ∀ a, a < 211 → ai_mok a := lt_s kg209 kf210
theorem ko211 : ai_okm 211 = true := by decide +kernel
theorem kd211 : ai_wat (7, 136) = some (Cond.code (ai_km 211).1 (ai_km 211).2.1 (ai_km 211).2.2.1 (ai_km 211).2.2.2.1) := by rfl
theorem ke211 : goodWord (Cond.code (ai_km 211).1 (ai_km 211).2.1 (ai_km 211).2.2.1 (ai_km 211).2.2.2.1) = true ∧ plainName (ai_km 211).1.cls = true ∧ ((ai_km 211).1.cls ≠ "java/lang/invoke/MethodHandle" ∧ (ai_km 211).1.cls ≠ "java/lang/invoke/VarHandle" ∧ (parseMethodDescriptor (ai_km 211).1.desc).map (fun d => d.parameters.length) = some (ai_km 211).2.2.2.2.1) ∧ (ai_km 211).2.2.1 ≤ 60 := by decide +kernel
theorem kf211 : ai_mok 211 := ⟨ko211, GW_of (ai_wat_in kd211) ke211.1, ke211.2.1, ke211.2.2.1, ke211.2.2.2⟩
theorem kg211 : ∀ a, a < 212 → ai_mok a := lt_s kg210 kf211
theorem ko212 : ai_okm 212 = true := by decide +kernel
theorem kd212 : ai_wat (7, 148) = some (Cond.code (ai_km 212).1 (ai_km 212).2.1 (ai_km 212).2.2.1 (ai_km 212).2.2.2.1) := by rfl
theorem ke212 : goodWord (Cond.code (ai_km 212).1 (ai_km 212).2.1 (ai_km 212).2.2.1 (ai_km 212).2.2.2.1) = true ∧ plainName (ai_km 212).1.cls = true ∧ ((ai_km 212).1.cls ≠ "java/lang/invoke/MethodHandle" ∧ (ai_km 212).1.cls ≠ "java/lang/invoke/VarHandle" ∧ (parseMethodDescriptor (ai_km 212).1.desc).map (fun d => d.parameters.length) = some (ai_km 212).2.2.2.2.1) ∧ (ai_km 212).2.2.1 ≤ 60 := by decide +kernel
theorem kf212 : ai_mok 212 := ⟨ko212, GW_of (ai_wat_in kd212) ke212.1, ke212.2.1, ke212.2.2.1, ke212.2.2.2⟩
theorem kg212 : ∀ a, a < 213 → ai_mok a := lt_s kg211 kf212
theorem ko213 : ai_okm 213 = true := by decide +kernel
theorem kd213 : ai_wat (7, 144) = some (Cond.code (ai_km 213).1 (ai_km 213).2.1 (ai_km 213).2.2.1 (ai_km 213).2.2.2.1) := by rfl
theorem ke213 : goodWord (Cond.code (ai_km 213).1 (ai_km 213).2.1 (ai_km 213).2.2.1 (ai_km 213).2.2.2.1) = true ∧ plainName (ai_km 213).1.cls = true ∧ ((ai_km 213).1.cls ≠ "java/lang/invoke/MethodHandle" ∧ (ai_km 213).1.cls ≠ "java/lang/invoke/VarHandle" ∧ (parseMethodDescriptor (ai_km 213).1.desc).map (fun d => d.parameters.length) = some (ai_km 213).2.2.2.2.1) ∧ (ai_km 213).2.2.1 ≤ 60 := by decide +kernel
theorem kf213 : ai_mok 213 := ⟨ko213, GW_of (ai_wat_in kd213) ke213.1, ke213.2.1, ke213.2.2.1, ke213.2.2.2⟩
theorem kg213 : ∀ a, a < 214 → ai_mok a := lt_s kg212 kf213
theorem ko214 : ai_okm 214 = true := by decide +kernel
theorem kd214 : ai_wat (7, 155) = some (Cond.code (ai_km 214).1 (ai_km 214).2.1 (ai_km 214).2.2.1 (ai_km 214).2.2.2.1) := by rfl
theorem ke214 : goodWord (Cond.code (ai_km 214).1 (ai_km 214).2.1 (ai_km 214).2.2.1 (ai_km 214).2.2.2.1) = true ∧ plainName (ai_km 214).1.cls = true ∧ ((ai_km 214).1.cls ≠ "java/lang/invoke/MethodHandle" ∧ (ai_km 214).1.cls ≠ "java/lang/invoke/VarHandle" ∧ (parseMethodDescriptor (ai_km 214).1.desc).map (fun d => d.parameters.length) = some (ai_km 214).2.2.2.2.1) ∧ (ai_km 214).2.2.1 ≤ 60 := by decide +kernel
theorem kf214 : ai_mok 214 := ⟨ko214, GW_of (ai_wat_in kd214) ke214.1, ke214.2.1, ke214.2.2.1, ke214.2.2.2⟩
theorem kg214 : ∀ a, a < 215 → ai_mok a := lt_s kg213 kf214
theorem ko215 : ai_okm 215 = true := by decide +kernel
theorem kd215 : ai_wat (7, 159) = some (Cond.code (ai_km 215).1 (ai_km 215).2.1 (ai_km 215).2.2.1 (ai_km 215).2.2.2.1) := by rfl
theorem ke215 : goodWord (Cond.code (ai_km 215).1 (ai_km 215).2.1 (ai_km 215).2.2.1 (ai_km 215).2.2.2.1) = true ∧ plainName (ai_km 215).1.cls = true ∧ ((ai_km 215).1.cls ≠ "java/lang/invoke/MethodHandle" ∧ (ai_km 215).1.cls ≠ "java/lang/invoke/VarHandle" ∧ (parseMethodDescriptor (ai_km 215).1.desc).map (fun d => d.parameters.length) = some (ai_km 215).2.2.2.2.1) ∧ (ai_km 215).2.2.1 ≤ 60 := by decide +kernel
theorem kf215 : ai_mok 215 := ⟨ko215, GW_of (ai_wat_in kd215) ke215.1, ke215.2.1, ke215.2.2.1, ke215.2.2.2⟩
theorem kg215 : ∀ a, a < 216 → ai_mok a := lt_s kg214 kf215
theorem ko216 : ai_okm 216 = true := by decide +kernel
theorem kd216 : ai_wat (7, 152) = some (Cond.code (ai_km 216).1 (ai_km 216).2.1 (ai_km 216).2.2.1 (ai_km 216).2.2.2.1) := by rfl
theorem ke216 : goodWord (Cond.code (ai_km 216).1 (ai_km 216).2.1 (ai_km 216).2.2.1 (ai_km 216).2.2.2.1) = true ∧ plainName (ai_km 216).1.cls = true ∧ ((ai_km 216).1.cls ≠ "java/lang/invoke/MethodHandle" ∧ (ai_km 216).1.cls ≠ "java/lang/invoke/VarHandle" ∧ (parseMethodDescriptor (ai_km 216).1.desc).map (fun d => d.parameters.length) = some (ai_km 216).2.2.2.2.1) ∧ (ai_km 216).2.2.1 ≤ 60 := by decide +kernel
theorem kf216 : ai_mok 216 := ⟨ko216, GW_of (ai_wat_in kd216) ke216.1, ke216.2.1, ke216.2.2.1, ke216.2.2.2⟩
theorem kg216 : ∀ a, a < 217 → ai_mok a := lt_s kg215 kf216
theorem ko217 : ai_okm 217 = true := by decide +kernel
theorem kd217 : ai_wat (7, 167) = some (Cond.code (ai_km 217).1 (ai_km 217).2.1 (ai_km 217).2.2.1 (ai_km 217).2.2.2.1) := by rfl
theorem ke217 : goodWord (Cond.code (ai_km 217).1 (ai_km 217).2.1 (ai_km 217).2.2.1 (ai_km 217).2.2.2.1) = true ∧ plainName (ai_km 217).1.cls = true ∧ ((ai_km 217).1.cls ≠ "java/lang/invoke/MethodHandle" ∧ (ai_km 217).1.cls ≠ "java/lang/invoke/VarHandle" ∧ (parseMethodDescriptor (ai_km 217).1.desc).map (fun d => d.parameters.length) = some (ai_km 217).2.2.2.2.1) ∧ (ai_km 217).2.2.1 ≤ 60 := by decide +kernel
theorem kf217 : ai_mok 217 := ⟨ko217, GW_of (ai_wat_in kd217) ke217.1, ke217.2.1, ke217.2.2.1, ke217.2.2.2⟩
theorem kg217 : ∀ a, a < 218 → ai_mok a := lt_s kg216 kf217
theorem ko218 : ai_okm 218 = true := by decide +kernel
theorem kd218 : ai_wat (7, 163) = some (Cond.code (ai_km 218).1 (ai_km 218).2.1 (ai_km 218).2.2.1 (ai_km 218).2.2.2.1) := by rfl
theorem ke218 : goodWord (Cond.code (ai_km 218).1 (ai_km 218).2.1 (ai_km 218).2.2.1 (ai_km 218).2.2.2.1) = true ∧ plainName (ai_km 218).1.cls = true ∧ ((ai_km 218).1.cls ≠ "java/lang/invoke/MethodHandle" ∧ (ai_km 218).1.cls ≠ "java/lang/invoke/VarHandle" ∧ (parseMethodDescriptor (ai_km 218).1.desc).map (fun d => d.parameters.length) = some (ai_km 218).2.2.2.2.1) ∧ (ai_km 218).2.2.1 ≤ 60 := by decide +kernel
theorem kf218 : ai_mok 218 := ⟨ko218, GW_of (ai_wat_in kd218) ke218.1, ke218.2.1, ke218.2.2.1, ke218.2.2.2⟩
theorem kg218 : ∀ a, a < 219 → ai_mok a := lt_s kg217 kf218
theorem ko219 : ai_okm 219 = true := by decide +kernel
theorem kd219 : ai_wat (7, 175) = some (Cond.code (ai_km 219).1 (ai_km 219).2.1 (ai_km 219).2.2.1 (ai_km 219).2.2.2.1) := by rfl
theorem ke219 : goodWord (Cond.code (ai_km 219).1 (ai_km 219).2.1 (ai_km 219).2.2.1 (ai_km 219).2.2.2.1) = true ∧ plainName (ai_km 219).1.cls = true ∧ ((ai_km 219).1.cls ≠ "java/lang/invoke/MethodHandle" ∧ (ai_km 219).1.cls ≠ "java/lang/invoke/VarHandle" ∧ (parseMethodDescriptor (ai_km 219).1.desc).map (fun d => d.parameters.length) = some (ai_km 219).2.2.2.2.1) ∧ (ai_km 219).2.2.1 ≤ 60 := by decide +kernel
theorem kf219 : ai_mok 219 := ⟨ko219, GW_of (ai_wat_in kd219) ke219.1, ke219.2.1, ke219.2.2.1, ke219.2.2.2⟩
theorem kg219 : ∀ a, a < 220 → ai_mok a := lt_s kg218 kf219
theorem ko220 : ai_okm 220 = true := by decide +kernel
theorem kd220 : ai_wat (7, 171) = some (Cond.code (ai_km 220).1 (ai_km 220).2.1 (ai_km 220).2.2.1 (ai_km 220).2.2.2.1) := by rfl
theorem ke220 : goodWord (Cond.code (ai_km 220).1 (ai_km 220).2.1 (ai_km 220).2.2.1 (ai_km 220).2.2.2.1) = true ∧ plainName (ai_km 220).1.cls = true ∧ ((ai_km 220).1.cls ≠ "java/lang/invoke/MethodHandle" ∧ (ai_km 220).1.cls ≠ "java/lang/invoke/VarHandle" ∧ (parseMethodDescriptor (ai_km 220).1.desc).map (fun d => d.parameters.length) = some (ai_km 220).2.2.2.2.1) ∧ (ai_km 220).2.2.1 ≤ 60 := by decide +kernel
theorem kf220 : ai_mok 220 := ⟨ko220, GW_of (ai_wat_in kd220) ke220.1, ke220.2.1, ke220.2.2.1, ke220.2.2.2⟩
theorem kg220 : ∀ a, a < 221 → ai_mok a := lt_s kg219 kf220
theorem ko221 : ai_okm 221 = true := by decide +kernel
theorem kd221 : ai_wat (7, 179) = some (Cond.code (ai_km 221).1 (ai_km 221).2.1 (ai_km 221).2.2.1 (ai_km 221).2.2.2.1) := by rfl
theorem ke221 : goodWord (Cond.code (ai_km 221).1 (ai_km 221).2.1 (ai_km 221).2.2.1 (ai_km 221).2.2.2.1) = true ∧ plainName (ai_km 221).1.cls = true ∧ ((ai_km 221).1.cls ≠ "java/lang/invoke/MethodHandle" ∧ (ai_km 221).1.cls ≠ "java/lang/invoke/VarHandle" ∧ (parseMethodDescriptor (ai_km 221).1.desc).map (fun d => d.parameters.length) = some (ai_km 221).2.2.2.2.1) ∧ (ai_km 221).2.2.1 ≤ 60 := by decide +kernel
theorem kf221 : ai_mok 221 := ⟨ko221, GW_of (ai_wat_in kd221) ke221.1, ke221.2.1, ke221.2.2.1, ke221.2.2.2⟩
theorem kg221 : ∀ a, a < 222 → ai_mok a := lt_s kg220 kf221
theorem ko222 : ai_okm 222 = true := by decide +kernel
theorem kd222 : ai_wat (7, 187) = some (Cond.code (ai_km 222).1 (ai_km 222).2.1 (ai_km 222).2.2.1 (ai_km 222).2.2.2.1) := by rfl
theorem ke222 : goodWord (Cond.code (ai_km 222).1 (ai_km 222).2.1 (ai_km 222).2.2.1 (ai_km 222).2.2.2.1) = true ∧ plainName (ai_km 222).1.cls = true ∧ ((ai_km 222).1.cls ≠ "java/lang/invoke/MethodHandle" ∧ (ai_km 222).1.cls ≠ "java/lang/invoke/VarHandle" ∧ (parseMethodDescriptor (ai_km 222).1.desc).map (fun d => d.parameters.length) = some (ai_km 222).2.2.2.2.1) ∧ (ai_km 222).2.2.1 ≤ 60 := by decide +kernel
theorem kf222 : ai_mok 222 := ⟨ko222, GW_of (ai_wat_in kd222) ke222.1, ke222.2.1, ke222.2.2.1, ke222.2.2.2⟩
theorem kg222 : ∀ a, a < 223 → ai_mok a := lt_s kg221 kf222
theorem ko223 : ai_okm 223 = true := by decide +kernel
theorem kd223 : ai_wat (7, 191) = some (Cond.code (ai_km 223).1 (ai_km 223).2.1 (ai_km 223).2.2.1 (ai_km 223).2.2.2.1) := by rfl
theorem ke223 : goodWord (Cond.code (ai_km 223).1 (ai_km 223).2.1 (ai_km 223).2.2.1 (ai_km 223).2.2.2.1) = true ∧ plainName (ai_km 223).1.cls = true ∧ ((ai_km 223).1.cls ≠ "java/lang/invoke/MethodHandle" ∧ (ai_km 223).1.cls ≠ "java/lang/invoke/VarHandle" ∧ (parseMethodDescriptor (ai_km 223).1.desc).map (fun d => d.parameters.length) = some (ai_km 223).2.2.2.2.1) ∧ (ai_km 223).2.2.1 ≤ 60 := by decide +kernel
theorem kf223 : ai_mok 223 := ⟨ko223, GW_of (ai_wat_in kd223) ke223.1, ke223.2.1, ke223.2.2.1, ke223.2.2.2⟩
theorem kg223 : ∀ a, a < 224 → ai_mok a := lt_s kg222 kf223
theorem ko224 : ai_okm 224 = true := by decide +kernel
theorem kd224 : ai_wat (7, 183) = some (Cond.code (ai_km 224).1 (ai_km 224).2.1 (ai_km 224).2.2.1 (ai_km 224).2.2.2.1) := by rfl
theorem ke224 : goodWord (Cond.code (ai_km 224).1 (ai_km 224).2.1 (ai_km 224).2.2.1 (ai_km 224).2.2.2.1) = true ∧ plainName (ai_km 224).1.cls = true ∧ ((ai_km 224).1.cls ≠ "java/lang/invoke/MethodHandle" ∧ (ai_km 224).1.cls ≠ "java/lang/invoke/VarHandle" ∧ (parseMethodDescriptor (ai_km 224).1.desc).map (fun d => d.parameters.length) = some (ai_km 224).2.2.2.2.1) ∧ (ai_km 224).2.2.1 ≤ 60 := by decide +kernel
theorem kf224 : ai_mok 224 := ⟨ko224, GW_of (ai_wat_in kd224) ke224.1, ke224.2.1, ke224.2.2.1, ke224.2.2.2⟩
theorem kg224 : ∀ a, a < 225 → ai_mok a := lt_s kg223 kf224
theorem ko225 : ai_okm 225 = true := by decide +kernel
theorem kd225 : ai_wat (7, 195) = some (Cond.code (ai_km 225).1 (ai_km 225).2.1 (ai_km 225).2.2.1 (ai_km 225).2.2.2.1) := by rfl
theorem ke225 : goodWord (Cond.code (ai_km 225).1 (ai_km 225).2.1 (ai_km 225).2.2.1 (ai_km 225).2.2.2.1) = true ∧ plainName (ai_km 225).1.cls = true ∧ ((ai_km 225).1.cls ≠ "java/lang/invoke/MethodHandle" ∧ (ai_km 225).1.cls ≠ "java/lang/invoke/VarHandle" ∧ (parseMethodDescriptor (ai_km 225).1.desc).map (fun d => d.parameters.length) = some (ai_km 225).2.2.2.2.1) ∧ (ai_km 225).2.2.1 ≤ 60 := by decide +kernel
theorem kf225 : ai_mok 225 := ⟨ko225, GW_of (ai_wat_in kd225) ke225.1, ke225.2.1, ke225.2.2.1, ke225.2.2.2⟩
theorem kg225 : ∀ a, a < 226 → ai_mok a := lt_s kg224 kf225
theorem ko226 : ai_okm 226 = true := by decide +kernel
theorem kd226 : ai_wat (7, 199) = some (Cond.code (ai_km 226).1 (ai_km 226).2.1 (ai_km 226).2.2.1 (ai_km 226).2.2.2.1) := by rfl
theorem ke226 : goodWord (Cond.code (ai_km 226).1 (ai_km 226).2.1 (ai_km 226).2.2.1 (ai_km 226).2.2.2.1) = true ∧ plainName (ai_km 226).1.cls = true ∧ ((ai_km 226).1.cls ≠ "java/lang/invoke/MethodHandle" ∧ (ai_km 226).1.cls ≠ "java/lang/invoke/VarHandle" ∧ (parseMethodDescriptor (ai_km 226).1.desc).map (fun d => d.parameters.length) = some (ai_km 226).2.2.2.2.1) ∧ (ai_km 226).2.2.1 ≤ 60 := by decide +kernel
theorem kf226 : ai_mok 226 := ⟨ko226, GW_of (ai_wat_in kd226) ke226.1, ke226.2.1, ke226.2.2.1, ke226.2.2.2⟩
theorem kg226 : ∀ a, a < 227 → ai_mok a := lt_s kg225 kf226
theorem ko227 : ai_okm 227 = true := by decide +kernel
theorem kd227 : ai_wat (7, 203) = some (Cond.code (ai_km 227).1 (ai_km 227).2.1 (ai_km 227).2.2.1 (ai_km 227).2.2.2.1) := by rfl
theorem ke227 : goodWord (Cond.code (ai_km 227).1 (ai_km 227).2.1 (ai_km 227).2.2.1 (ai_km 227).2.2.2.1) = true ∧ plainName (ai_km 227).1.cls = true ∧ ((ai_km 227).1.cls ≠ "java/lang/invoke/MethodHandle" ∧ (ai_km 227).1.cls ≠ "java/lang/invoke/VarHandle" ∧ (parseMethodDescriptor (ai_km 227).1.desc).map (fun d => d.parameters.length) = some (ai_km 227).2.2.2.2.1) ∧ (ai_km 227).2.2.1 ≤ 60 := by decide +kernel
theorem kf227 : ai_mok 227 := ⟨ko227, GW_of (ai_wat_in kd227) ke227.1, ke227.2.1, ke227.2.2.1, ke227.2.2.2⟩
theorem kg227 : ∀ a, a < 228 → ai_mok a := lt_s kg226 kf227
theorem ko228 : ai_okm 228 = true := by decide +kernel
theorem kd228 : ai_wat (7, 207) = some (Cond.code (ai_km 228).1 (ai_km 228).2.1 (ai_km 228).2.2.1 (ai_km 228).2.2.2.1) := by rfl
theorem ke228 : goodWord (Cond.code (ai_km 228).1 (ai_km 228).2.1 (ai_km 228).2.2.1 (ai_km 228).2.2.2.1) = true ∧ plainName (ai_km 228).1.cls = true ∧ ((ai_km 228).1.cls ≠ "java/lang/invoke/MethodHandle" ∧ (ai_km 228).1.cls ≠ "java/lang/invoke/VarHandle" ∧ (parseMethodDescriptor (ai_km 228).1.desc).map (fun d => d.parameters.length) = some (ai_km 228).2.2.2.2.1) ∧ (ai_km 228).2.2.1 ≤ 60 := by decide +kernel
theorem kf228 : ai_mok 228 := ⟨ko228, GW_of (ai_wat_in kd228) ke228.1, ke228.2.1, ke228.2.2.1, ke228.2.2.2⟩
theorem kg228 : ∀ a, a < 229 → ai_mok a := lt_s kg227 kf228
theorem ko229 : ai_okm 229 = true := by decide +kernel
theorem kd229 : ai_wat (7, 215) = some (Cond.code (ai_km 229).1 (ai_km 229).2.1 (ai_km 229).2.2.1 (ai_km 229).2.2.2.1) := by rfl
theorem ke229 : goodWord (Cond.code (ai_km 229).1 (ai_km 229).2.1 (ai_km 229).2.2.1 (ai_km 229).2.2.2.1) = true ∧ plainName (ai_km 229).1.cls = true ∧ ((ai_km 229).1.cls ≠ "java/lang/invoke/MethodHandle" ∧ (ai_km 229).1.cls ≠ "java/lang/invoke/VarHandle" ∧ (parseMethodDescriptor (ai_km 229).1.desc).map (fun d => d.parameters.length) = some (ai_km 229).2.2.2.2.1) ∧ (ai_km 229).2.2.1 ≤ 60 := by decide +kernel
theorem kf229 : ai_mok 229 := ⟨ko229, GW_of (ai_wat_in kd229) ke229.1, ke229.2.1, ke229.2.2.1, ke229.2.2.2⟩
theorem kg229 : ∀ a, a < 230 → ai_mok a := lt_s kg228 kf229
theorem ko230 : ai_okm 230 = true := by decide +kernel
theorem kd230 : ai_wat (7, 211) = some (Cond.code (ai_km 230).1 (ai_km 230).2.1 (ai_km 230).2.2.1 (ai_km 230).2.2.2.1) := by rfl
theorem ke230 : goodWord (Cond.code (ai_km 230).1 (ai_km 230).2.1 (ai_km 230).2.2.1 (ai_km 230).2.2.2.1) = true ∧ plainName (ai_km 230).1.cls = true ∧ ((ai_km 230).1.cls ≠ "java/lang/invoke/MethodHandle" ∧ (ai_km 230).1.cls ≠ "java/lang/invoke/VarHandle" ∧ (parseMethodDescriptor (ai_km 230).1.desc).map (fun d => d.parameters.length) = some (ai_km 230).2.2.2.2.1) ∧ (ai_km 230).2.2.1 ≤ 60 := by decide +kernel
theorem kf230 : ai_mok 230 := ⟨ko230, GW_of (ai_wat_in kd230) ke230.1, ke230.2.1, ke230.2.2.1, ke230.2.2.2⟩
theorem kg230 : ∀ a, a < 231 → ai_mok a := lt_s kg229 kf230
theorem ko231 : ai_okm 231 = true := by decide +kernel
theorem kd231 : ai_wat (7, 219) = some (Cond.code (ai_km 231).1 (ai_km 231).2.1 (ai_km 231).2.2.1 (ai_km 231).2.2.2.1) := by rfl
theorem ke231 : goodWord (Cond.code (ai_km 231).1 (ai_km 231).2.1 (ai_km 231).2.2.1 (ai_km 231).2.2.2.1) = true ∧ plainName (ai_km 231).1.cls = true ∧ ((ai_km 231).1.cls ≠ "java/lang/invoke/MethodHandle" ∧ (ai_km 231).1.cls ≠ "java/lang/invoke/VarHandle" ∧ (parseMethodDescriptor (ai_km 231).1.desc).map (fun d => d.parameters.length) = some (ai_km 231).2.2.2.2.1) ∧ (ai_km 231).2.2.1 ≤ 60 := by decide +kernel
theorem kf231 : ai_mok 231 := ⟨ko231, GW_of (ai_wat_in kd231) ke231.1, ke231.2.1, ke231.2.2.1, ke231.2.2.2⟩
theorem kg231 : ∀ a, a < 232 → ai_mok a := lt_s kg230 kf231
theorem ko232 : ai_okm 232 = true := by decide +kernel
theorem kd232 : ai_wat (7, 223) = some (Cond.code (ai_km 232).1 (ai_km 232).2.1 (ai_km 232).2.2.1 (ai_km 232).2.2.2.1) := by rfl
theorem ke232 : goodWord (Cond.code (ai_km 232).1 (ai_km 232).2.1 (ai_km 232).2.2.1 (ai_km 232).2.2.2.1) = true ∧ plainName (ai_km 232).1.cls = true ∧ ((ai_km 232).1.cls ≠ "java/lang/invoke/MethodHandle" ∧ (ai_km 232).1.cls ≠ "java/lang/invoke/VarHandle" ∧ (parseMethodDescriptor (ai_km 232).1.desc).map (fun d => d.parameters.length) = some (ai_km 232).2.2.2.2.1) ∧ (ai_km 232).2.2.1 ≤ 60 := by decide +kernel
theorem kf232 : ai_mok 232 := ⟨ko232, GW_of (ai_wat_in kd232) ke232.1, ke232.2.1, ke232.2.2.1, ke232.2.2.2⟩
theorem kg232 : ∀ a, a < 233 → ai_mok a := lt_s kg231 kf232
theorem ko233 : ai_okm 233 = true := by decide +kernel
theorem kd233 : ai_wat (7, 227) = some (Cond.code (ai_km 233).1 (ai_km 233).2.1 (ai_km 233).2.2.1 (ai_km 233).2.2.2.1) := by rfl
theorem ke233 : goodWord (Cond.code (ai_km 233).1 (ai_km 233).2.1 (ai_km 233).2.2.1 (ai_km 233).2.2.2.1) = true ∧ plainName (ai_km 233).1.cls = true ∧ ((ai_km 233).1.cls ≠ "java/lang/invoke/MethodHandle" ∧ (ai_km 233).1.cls ≠ "java/lang/invoke/VarHandle" ∧ (parseMethodDescriptor (ai_km 233).1.desc).map (fun d => d.parameters.length) = some (ai_km 233).2.2.2.2.1) ∧ (ai_km 233).2.2.1 ≤ 60 := by decide +kernel
theorem kf233 : ai_mok 233 := ⟨ko233, GW_of (ai_wat_in kd233) ke233.1, ke233.2.1, ke233.2.2.1, ke233.2.2.2⟩
theorem kg233 : ∀ a, a < 234 → ai_mok a := lt_s kg232 kf233
theorem ko234 : ai_okm 234 = true := by decide +kernel
theorem kd234 : ai_wat (7, 235) = some (Cond.code (ai_km 234).1 (ai_km 234).2.1 (ai_km 234).2.2.1 (ai_km 234).2.2.2.1) := by rfl
theorem ke234 : goodWord (Cond.code (ai_km 234).1 (ai_km 234).2.1 (ai_km 234).2.2.1 (ai_km 234).2.2.2.1) = true ∧ plainName (ai_km 234).1.cls = true ∧ ((ai_km 234).1.cls ≠ "java/lang/invoke/MethodHandle" ∧ (ai_km 234).1.cls ≠ "java/lang/invoke/VarHandle" ∧ (parseMethodDescriptor (ai_km 234).1.desc).map (fun d => d.parameters.length) = some (ai_km 234).2.2.2.2.1) ∧ (ai_km 234).2.2.1 ≤ 60 := by decide +kernel
theorem kf234 : ai_mok 234 := ⟨ko234, GW_of (ai_wat_in kd234) ke234.1, ke234.2.1, ke234.2.2.1, ke234.2.2.2⟩
theorem kg234 : ∀ a, a < 235 → ai_mok a := lt_s kg233 kf234
theorem ko235 : ai_okm 235 = true := by decide +kernel
theorem kd235 : ai_wat (7, 231) = some (Cond.code (ai_km 235).1 (ai_km 235).2.1 (ai_km 235).2.2.1 (ai_km 235).2.2.2.1) := by rfl
theorem ke235 : goodWord (Cond.code (ai_km 235).1 (ai_km 235).2.1 (ai_km 235).2.2.1 (ai_km 235).2.2.2.1) = true ∧ plainName (ai_km 235).1.cls = true ∧ ((ai_km 235).1.cls ≠ "java/lang/invoke/MethodHandle" ∧ (ai_km 235).1.cls ≠ "java/lang/invoke/VarHandle" ∧ (parseMethodDescriptor (ai_km 235).1.desc).map (fun d => d.parameters.length) = some (ai_km 235).2.2.2.2.1) ∧ (ai_km 235).2.2.1 ≤ 60 := by decide +kernel
theorem kf235 : ai_mok 235 := ⟨ko235, GW_of (ai_wat_in kd235) ke235.1, ke235.2.1, ke235.2.2.1, ke235.2.2.2⟩
theorem kg235 : ∀ a, a < 236 → ai_mok a := lt_s kg234 kf235
theorem ko236 : ai_okm 236 = true := by decide +kernel
theorem kd236 : ai_wat (8, 7) = some (Cond.code (ai_km 236).1 (ai_km 236).2.1 (ai_km 236).2.2.1 (ai_km 236).2.2.2.1) := by rfl
theorem ke236 : goodWord (Cond.code (ai_km 236).1 (ai_km 236).2.1 (ai_km 236).2.2.1 (ai_km 236).2.2.2.1) = true ∧ plainName (ai_km 236).1.cls = true ∧ ((ai_km 236).1.cls ≠ "java/lang/invoke/MethodHandle" ∧ (ai_km 236).1.cls ≠ "java/lang/invoke/VarHandle" ∧ (parseMethodDescriptor (ai_km 236).1.desc).map (fun d => d.parameters.length) = some (ai_km 236).2.2.2.2.1) ∧ (ai_km 236).2.2.1 ≤ 60 := by decide +kernel
theorem kf236 : ai_mok 236 := ⟨ko236, GW_of (ai_wat_in kd236) ke236.1, ke236.2.1, ke236.2.2.1, ke236.2.2.2⟩
theorem kg236 : ∀ a, a < 237 → ai_mok a := lt_s kg235 kf236
theorem ko237 : ai_okm 237 = true := by decide +kernel
theorem kd237 : ai_wat (8, 3) = some (Cond.code (ai_km 237).1 (ai_km 237).2.1 (ai_km 237).2.2.1 (ai_km 237).2.2.2.1) := by rfl
theorem ke237 : goodWord (Cond.code (ai_km 237).1 (ai_km 237).2.1 (ai_km 237).2.2.1 (ai_km 237).2.2.2.1) = true ∧ plainName (ai_km 237).1.cls = true ∧ ((ai_km 237).1.cls ≠ "java/lang/invoke/MethodHandle" ∧ (ai_km 237).1.cls ≠ "java/lang/invoke/VarHandle" ∧ (parseMethodDescriptor (ai_km 237).1.desc).map (fun d => d.parameters.length) = some (ai_km 237).2.2.2.2.1) ∧ (ai_km 237).2.2.1 ≤ 60 := by decide +kernel
theorem kf237 : ai_mok 237 := ⟨ko237, GW_of (ai_wat_in kd237) ke237.1, ke237.2.1, ke237.2.2.1, ke237.2.2.2⟩
theorem kg237 : ∀ a, a < 238 → ai_mok a := lt_s kg236 kf237
theorem ko238 : ai_okm 238 = true := by decide +kernel
theorem kd238 : ai_wat (7, 239) = some (Cond.code (ai_km 238).1 (ai_km 238).2.1 (ai_km 238).2.2.1 (ai_km 238).2.2.2.1) := by rfl
theorem ke238 : goodWord (Cond.code (ai_km 238).1 (ai_km 238).2.1 (ai_km 238).2.2.1 (ai_km 238).2.2.2.1) = true ∧ plainName (ai_km 238).1.cls = true ∧ ((ai_km 238).1.cls ≠ "java/lang/invoke/MethodHandle" ∧ (ai_km 238).1.cls ≠ "java/lang/invoke/VarHandle" ∧ (parseMethodDescriptor (ai_km 238).1.desc).map (fun d => d.parameters.length) = some (ai_km 238).2.2.2.2.1) ∧ (ai_km 238).2.2.1 ≤ 60 := by decide +kernel
theorem kf238 : ai_mok 238 := ⟨ko238, GW_of (ai_wat_in kd238) ke238.1, ke238.2.1, ke238.2.2.1, ke238.2.2.2⟩
theorem kg238 : ∀ a, a < 239 → ai_mok a := lt_s kg237 kf238
theorem ko239 : ai_okm 239 = true := by decide +kernel
theorem kd239 : ai_wat (8, 11) = some (Cond.code (ai_km 239).1 (ai_km 239).2.1 (ai_km 239).2.2.1 (ai_km 239).2.2.2.1) := by rfl
theorem ke239 : goodWord (Cond.code (ai_km 239).1 (ai_km 239).2.1 (ai_km 239).2.2.1 (ai_km 239).2.2.2.1) = true ∧ plainName (ai_km 239).1.cls = true ∧ ((ai_km 239).1.cls ≠ "java/lang/invoke/MethodHandle" ∧ (ai_km 239).1.cls ≠ "java/lang/invoke/VarHandle" ∧ (parseMethodDescriptor (ai_km 239).1.desc).map (fun d => d.parameters.length) = some (ai_km 239).2.2.2.2.1) ∧ (ai_km 239).2.2.1 ≤ 60 := by decide +kernel
theorem kf239 : ai_mok 239 := ⟨ko239, GW_of (ai_wat_in kd239) ke239.1, ke239.2.1, ke239.2.2.1, ke239.2.2.2⟩
theorem kg239 : ∀ a, a < 240 → ai_mok a := lt_s kg238 kf239
theorem ko240 : ai_okm 240 = true := by decide +kernel
theorem kd240 : ai_wat (8, 19) = some (Cond.code (ai_km 240).1 (ai_km 240).2.1 (ai_km 240).2.2.1 (ai_km 240).2.2.2.1) := by rfl
theorem ke240 : goodWord (Cond.code (ai_km 240).1 (ai_km 240).2.1 (ai_km 240).2.2.1 (ai_km 240).2.2.2.1) = true ∧ plainName (ai_km 240).1.cls = true ∧ ((ai_km 240).1.cls ≠ "java/lang/invoke/MethodHandle" ∧ (ai_km 240).1.cls ≠ "java/lang/invoke/VarHandle" ∧ (parseMethodDescriptor (ai_km 240).1.desc).map (fun d => d.parameters.length) = some (ai_km 240).2.2.2.2.1) ∧ (ai_km 240).2.2.1 ≤ 60 := by decide +kernel
theorem kf240 : ai_mok 240 := ⟨ko240, GW_of (ai_wat_in kd240) ke240.1, ke240.2.1, ke240.2.2.1, ke240.2.2.2⟩
theorem kg240 : ∀ a, a < 241 → ai_mok a := lt_s kg239 kf240
theorem ko241 : ai_okm 241 = true := by decide +kernel
theorem kd241 : ai_wat (8, 23) = some (Cond.code (ai_km 241).1 (ai_km 241).2.1 (ai_km 241).2.2.1 (ai_km 241).2.2.2.1) := by rfl
theorem ke241 : goodWord (Cond.code (ai_km 241).1 (ai_km 241).2.1 (ai_km 241).2.2.1 (ai_km 241).2.2.2.1) = true ∧ plainName (ai_km 241).1.cls = true ∧ ((ai_km 241).1.cls ≠ "java/lang/invoke/MethodHandle" ∧ (ai_km 241).1.cls ≠ "java/lang/invoke/VarHandle" ∧ (parseMethodDescriptor (ai_km 241).1.desc).map (fun d => d.parameters.length) = some (ai_km 241).2.2.2.2.1) ∧ (ai_km 241).2.2.1 ≤ 60 := by decide +kernel
theorem kf241 : ai_mok 241 := ⟨ko241, GW_of (ai_wat_in kd241) ke241.1, ke241.2.1, ke241.2.2.1, ke241.2.2.2⟩
theorem kg241 : ∀ a, a < 242 → ai_mok a := lt_s kg240 kf241
theorem ko242 : ai_okm 242 = true := by decide +kernel
theorem kd242 : ai_wat (8, 31) = some (Cond.code (ai_km 242).1 (ai_km 242).2.1 (ai_km 242).2.2.1 (ai_km 242).2.2.2.1) := by rfl
theorem ke242 : goodWord (Cond.code (ai_km 242).1 (ai_km 242).2.1 (ai_km 242).2.2.1 (ai_km 242).2.2.2.1) = true ∧ plainName (ai_km 242).1.cls = true ∧ ((ai_km 242).1.cls ≠ "java/lang/invoke/MethodHandle" ∧ (ai_km 242).1.cls ≠ "java/lang/invoke/VarHandle" ∧ (parseMethodDescriptor (ai_km 242).1.desc).map (fun d => d.parameters.length) = some (ai_km 242).2.2.2.2.1) ∧ (ai_km 242).2.2.1 ≤ 60 := by decide +kernel
theorem kf242 : ai_mok 242 := ⟨ko242, GW_of (ai_wat_in kd242) ke242.1, ke242.2.1, ke242.2.2.1, ke242.2.2.2⟩
theorem kg242 : ∀ a, a < 243 → ai_mok a := lt_s kg241 kf242
theorem ko243 : ai_okm 243 = true := by decide +kernel
theorem kd243 : ai_wat (8, 27) = some (Cond.code (ai_km 243).1 (ai_km 243).2.1 (ai_km 243).2.2.1 (ai_km 243).2.2.2.1) := by rfl
theorem ke243 : goodWord (Cond.code (ai_km 243).1 (ai_km 243).2.1 (ai_km 243).2.2.1 (ai_km 243).2.2.2.1) = true ∧ plainName (ai_km 243).1.cls = true ∧ ((ai_km 243).1.cls ≠ "java/lang/invoke/MethodHandle" ∧ (ai_km 243).1.cls ≠ "java/lang/invoke/VarHandle" ∧ (parseMethodDescriptor (ai_km 243).1.desc).map (fun d => d.parameters.length) = some (ai_km 243).2.2.2.2.1) ∧ (ai_km 243).2.2.1 ≤ 60 := by decide +kernel
theorem kf243 : ai_mok 243 := ⟨ko243, GW_of (ai_wat_in kd243) ke243.1, ke243.2.1, ke243.2.2.1, ke243.2.2.2⟩
theorem kg243 : ∀ a, a < 244 → ai_mok a := lt_s kg242 kf243
theorem ko244 : ai_okm 244 = true := by decide +kernel
theorem kd244 : ai_wat (8, 39) = some (Cond.code (ai_km 244).1 (ai_km 244).2.1 (ai_km 244).2.2.1 (ai_km 244).2.2.2.1) := by rfl
theorem ke244 : goodWord (Cond.code (ai_km 244).1 (ai_km 244).2.1 (ai_km 244).2.2.1 (ai_km 244).2.2.2.1) = true ∧ plainName (ai_km 244).1.cls = true ∧ ((ai_km 244).1.cls ≠ "java/lang/invoke/MethodHandle" ∧ (ai_km 244).1.cls ≠ "java/lang/invoke/VarHandle" ∧ (parseMethodDescriptor (ai_km 244).1.desc).map (fun d => d.parameters.length) = some (ai_km 244).2.2.2.2.1) ∧ (ai_km 244).2.2.1 ≤ 60 := by decide +kernel
theorem kf244 : ai_mok 244 := ⟨ko244, GW_of (ai_wat_in kd244) ke244.1, ke244.2.1, ke244.2.2.1, ke244.2.2.2⟩
theorem kg244 : ∀ a, a < 245 → ai_mok a := lt_s kg243 kf244
theorem ko245 : ai_okm 245 = true := by decide +kernel
theorem kd245 : ai_wat (8, 43) = some (Cond.code (ai_km 245).1 (ai_km 245).2.1 (ai_km 245).2.2.1 (ai_km 245).2.2.2.1) := by rfl
theorem ke245 : goodWord (Cond.code (ai_km 245).1 (ai_km 245).2.1 (ai_km 245).2.2.1 (ai_km 245).2.2.2.1) = true ∧ plainName (ai_km 245).1.cls = true ∧ ((ai_km 245).1.cls ≠ "java/lang/invoke/MethodHandle" ∧ (ai_km 245).1.cls ≠ "java/lang/invoke/VarHandle" ∧ (parseMethodDescriptor (ai_km 245).1.desc).map (fun d => d.parameters.length) = some (ai_km 245).2.2.2.2.1) ∧ (ai_km 245).2.2.1 ≤ 60 := by decide +kernel
theorem kf245 : ai_mok 245 := ⟨ko245, GW_of (ai_wat_in kd245) ke245.1, ke245.2.1, ke245.2.2.1, ke245.2.2.2⟩
theorem kg245 : ∀ a, a < 246 → ai_mok a := lt_s kg244 kf245
theorem ko246 : ai_okm 246 = true := by decide +kernel
theorem kd246 : ai_wat (8, 51) = some (Cond.code (ai_km 246).1 (ai_km 246).2.1 (ai_km 246).2.2.1 (ai_km 246).2.2.2.1) := by rfl
theorem ke246 : goodWord (Cond.code (ai_km 246).1 (ai_km 246).2.1 (ai_km 246).2.2.1 (ai_km 246).2.2.2.1) = true ∧ plainName (ai_km 246).1.cls = true ∧ ((ai_km 246).1.cls ≠ "java/lang/invoke/MethodHandle" ∧ (ai_km 246).1.cls ≠ "java/lang/invoke/VarHandle" ∧ (parseMethodDescriptor (ai_km 246).1.desc).map (fun d => d.parameters.length) = some (ai_km 246).2.2.2.2.1) ∧ (ai_km 246).2.2.1 ≤ 60 := by decide +kernel
theorem kf246 : ai_mok 246 := ⟨ko246, GW_of (ai_wat_in kd246) ke246.1, ke246.2.1, ke246.2.2.1, ke246.2.2.2⟩
theorem kg246 : ∀ a, a < 247 → ai_mok a := lt_s kg245 kf246
theorem ko247 : ai_okm 247 = true := by decide +kernel
theorem kd247 : ai_wat (8, 59) = some (Cond.code (ai_km 247).1 (ai_km 247).2.1 (ai_km 247).2.2.1 (ai_km 247).2.2.2.1) := by rfl
theorem ke247 : goodWord (Cond.code (ai_km 247).1 (ai_km 247).2.1 (ai_km 247).2.2.1 (ai_km 247).2.2.2.1) = true ∧ plainName (ai_km 247).1.cls = true ∧ ((ai_km 247).1.cls ≠ "java/lang/invoke/MethodHandle" ∧ (ai_km 247).1.cls ≠ "java/lang/invoke/VarHandle" ∧ (parseMethodDescriptor (ai_km 247).1.desc).map (fun d => d.parameters.length) = some (ai_km 247).2.2.2.2.1) ∧ (ai_km 247).2.2.1 ≤ 60 := by decide +kernel
theorem kf247 : ai_mok 247 := ⟨ko247, GW_of (ai_wat_in kd247) ke247.1, ke247.2.1, ke247.2.2.1, ke247.2.2.2⟩
theorem kg247 : ∀ a, a < 248 → ai_mok a := lt_s kg246 kf247
theorem ko248 : ai_okm 248 = true := by decide +kernel
theorem kd248 : ai_wat (8, 55) = some (Cond.code (ai_km 248).1 (ai_km 248).2.1 (ai_km 248).2.2.1 (ai_km 248).2.2.2.1) := by rfl
theorem ke248 : goodWord (Cond.code (ai_km 248).1 (ai_km 248).2.1 (ai_km 248).2.2.1 (ai_km 248).2.2.2.1) = true ∧ plainName (ai_km 248).1.cls = true ∧ ((ai_km 248).1.cls ≠ "java/lang/invoke/MethodHandle" ∧ (ai_km 248).1.cls ≠ "java/lang/invoke/VarHandle" ∧ (parseMethodDescriptor (ai_km 248).1.desc).map (fun d => d.parameters.length) = some (ai_km 248).2.2.2.2.1) ∧ (ai_km 248).2.2.1 ≤ 60 := by decide +kernel
theorem kf248 : ai_mok 248 := ⟨ko248, GW_of (ai_wat_in kd248) ke248.1, ke248.2.1, ke248.2.2.1, ke248.2.2.2⟩
theorem kg248 : ∀ a, a < 249 → ai_mok a := lt_s kg247 kf248
theorem ko249 : ai_okm 249 = true := by decide +kernel
theorem kd249 : ai_wat (8, 47) = some (Cond.code (ai_km 249).1 (ai_km 249).2.1 (ai_km 249).2.2.1 (ai_km 249).2.2.2.1) := by rfl
theorem ke249 : goodWord (Cond.code (ai_km 249).1 (ai_km 249).2.1 (ai_km 249).2.2.1 (ai_km 249).2.2.2.1) = true ∧ plainName (ai_km 249).1.cls = true ∧ ((ai_km 249).1.cls ≠ "java/lang/invoke/MethodHandle" ∧ (ai_km 249).1.cls ≠ "java/lang/invoke/VarHandle" ∧ (parseMethodDescriptor (ai_km 249).1.desc).map (fun d => d.parameters.length) = some (ai_km 249).2.2.2.2.1) ∧ (ai_km 249).2.2.1 ≤ 60 := by decide +kernel
theorem kf249 : ai_mok 249 := ⟨ko249, GW_of (ai_wat_in kd249) ke249.1, ke249.2.1, ke249.2.2.1, ke249.2.2.2⟩
theorem kg249 : ∀ a, a < 250 → ai_mok a := lt_s kg248 kf249
theorem ko250 : ai_okm 250 = true := by decide +kernel
theorem kd250 : ai_wat (8, 63) = some (Cond.code (ai_km 250).1 (ai_km 250).2.1 (ai_km 250).2.2.1 (ai_km 250).2.2.2.1) := by rfl
theorem ke250 : goodWord (Cond.code (ai_km 250).1 (ai_km 250).2.1 (ai_km 250).2.2.1 (ai_km 250).2.2.2.1) = true ∧ plainName (ai_km 250).1.cls = true ∧ ((ai_km 250).1.cls ≠ "java/lang/invoke/MethodHandle" ∧ (ai_km 250).1.cls ≠ "java/lang/invoke/VarHandle" ∧ (parseMethodDescriptor (ai_km 250).1.desc).map (fun d => d.parameters.length) = some (ai_km 250).2.2.2.2.1) ∧ (ai_km 250).2.2.1 ≤ 60 := by decide +kernel
theorem kf250 : ai_mok 250 := ⟨ko250, GW_of (ai_wat_in kd250) ke250.1, ke250.2.1, ke250.2.2.1, ke250.2.2.2⟩
theorem kg250 : ∀ a, a < 251 → ai_mok a := lt_s kg249 kf250
theorem ko251 : ai_okm 251 = true := by decide +kernel
theorem kd251 : ai_wat (8, 70) = some (Cond.code (ai_km 251).1 (ai_km 251).2.1 (ai_km 251).2.2.1 (ai_km 251).2.2.2.1) := by rfl
theorem ke251 : goodWord (Cond.code (ai_km 251).1 (ai_km 251).2.1 (ai_km 251).2.2.1 (ai_km 251).2.2.2.1) = true ∧ plainName (ai_km 251).1.cls = true ∧ ((ai_km 251).1.cls ≠ "java/lang/invoke/MethodHandle" ∧ (ai_km 251).1.cls ≠ "java/lang/invoke/VarHandle" ∧ (parseMethodDescriptor (ai_km 251).1.desc).map (fun d => d.parameters.length) = some (ai_km 251).2.2.2.2.1) ∧ (ai_km 251).2.2.1 ≤ 60 := by decide +kernel
theorem kf251 : ai_mok 251 := ⟨ko251, GW_of (ai_wat_in kd251) ke251.1, ke251.2.1, ke251.2.2.1, ke251.2.2.2⟩
theorem kg251 : ∀ a, a < 252 → ai_mok a := lt_s kg250 kf251
theorem ko252 : ai_okm 252 = true := by decide +kernel
theorem kd252 : ai_wat (8, 75) = some (Cond.code (ai_km 252).1 (ai_km 252).2.1 (ai_km 252).2.2.1 (ai_km 252).2.2.2.1) := by rfl
theorem ke252 : goodWord (Cond.code (ai_km 252).1 (ai_km 252).2.1 (ai_km 252).2.2.1 (ai_km 252).2.2.2.1) = true ∧ plainName (ai_km 252).1.cls = true ∧ ((ai_km 252).1.cls ≠ "java/lang/invoke/MethodHandle" ∧ (ai_km 252).1.cls ≠ "java/lang/invoke/VarHandle" ∧ (parseMethodDescriptor (ai_km 252).1.desc).map (fun d => d.parameters.length) = some (ai_km 252).2.2.2.2.1) ∧ (ai_km 252).2.2.1 ≤ 60 := by decide +kernel
theorem kf252 : ai_mok 252 := ⟨ko252, GW_of (ai_wat_in kd252) ke252.1, ke252.2.1, ke252.2.2.1, ke252.2.2.2⟩
theorem kg252 : ∀ a, a < 253 → ai_mok a := lt_s kg251 kf252
theorem ko253 : ai_okm 253 = true := by decide +kernel
theorem kd253 : ai_wat (8, 79) = some (Cond.code (ai_km 253).1 (ai_km 253).2.1 (ai_km 253).2.2.1 (ai_km 253).2.2.2.1) := by rfl
theorem ke253 : goodWord (Cond.code (ai_km 253).1 (ai_km 253).2.1 (ai_km 253).2.2.1 (ai_km 253).2.2.2.1) = true ∧ plainName (ai_km 253).1.cls = true ∧ ((ai_km 253).1.cls ≠ "java/lang/invoke/MethodHandle" ∧ (ai_km 253).1.cls ≠ "java/lang/invoke/VarHandle" ∧ (parseMethodDescriptor (ai_km 253).1.desc).map (fun d => d.parameters.length) = some (ai_km 253).2.2.2.2.1) ∧ (ai_km 253).2.2.1 ≤ 60 := by decide +kernel
theorem kf253 : ai_mok 253 := ⟨ko253, GW_of (ai_wat_in kd253) ke253.1, ke253.2.1, ke253.2.2.1, ke253.2.2.2⟩
theorem kg253 : ∀ a, a < 254 → ai_mok a := lt_s kg252 kf253
theorem ko254 : ai_okm 254 = true := by decide +kernel
theorem kd254 : ai_wat (8, 83) = some (Cond.code (ai_km 254).1 (ai_km 254).2.1 (ai_km 254).2.2.1 (ai_km 254).2.2.2.1) := by rfl
theorem ke254 : goodWord (Cond.code (ai_km 254).1 (ai_km 254).2.1 (ai_km 254).2.2.1 (ai_km 254).2.2.2.1) = true ∧ plainName (ai_km 254).1.cls = true ∧ ((ai_km 254).1.cls ≠ "java/lang/invoke/MethodHandle" ∧ (ai_km 254).1.cls ≠ "java/lang/invoke/VarHandle" ∧ (parseMethodDescriptor (ai_km 254).1.desc).map (fun d => d.parameters.length) = some (ai_km 254).2.2.2.2.1) ∧ (ai_km 254).2.2.1 ≤ 60 := by decide +kernel
theorem kf254 : ai_mok 254 := ⟨ko254, GW_of (ai_wat_in kd254) ke254.1, ke254.2.1, ke254.2.2.1, ke254.2.2.2⟩
theorem kg254 : ∀ a, a < 255 → ai_mok a := lt_s kg253 kf254
theorem ko255 : ai_okm 255 = true := by decide +kernel
theorem kd255 : ai_wat (8, 87) = some (Cond.code (ai_km 255).1 (ai_km 255).2.1 (ai_km 255).2.2.1 (ai_km 255).2.2.2.1) := by rfl
theorem ke255 : goodWord (Cond.code (ai_km 255).1 (ai_km 255).2.1 (ai_km 255).2.2.1 (ai_km 255).2.2.2.1) = true ∧ plainName (ai_km 255).1.cls = true ∧ ((ai_km 255).1.cls ≠ "java/lang/invoke/MethodHandle" ∧ (ai_km 255).1.cls ≠ "java/lang/invoke/VarHandle" ∧ (parseMethodDescriptor (ai_km 255).1.desc).map (fun d => d.parameters.length) = some (ai_km 255).2.2.2.2.1) ∧ (ai_km 255).2.2.1 ≤ 60 := by decide +kernel
theorem kf255 : ai_mok 255 := ⟨ko255, GW_of (ai_wat_in kd255) ke255.1, ke255.2.1, ke255.2.2.1, ke255.2.2.2⟩
theorem kg255 : ∀ a, a < 256 → ai_mok a := lt_s kg254 kf255
