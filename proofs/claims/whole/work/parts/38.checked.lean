/-! ===== more methods checked ===== -/
theorem ko256 : ai_okm 256 = true := by decide +kernel
theorem kd256 : ai_wat (5, 119) = some (Cond.code (ai_km 256).1 (ai_km 256).2.1 (ai_km 256).2.2.1 (ai_km 256).2.2.2.1) := by rfl
theorem ke256 : goodWord (Cond.code (ai_km 256).1 (ai_km 256).2.1 (ai_km 256).2.2.1 (ai_km 256).2.2.2.1) = true ∧ plainName (ai_km 256).1.cls = true ∧ ((ai_km 256).1.cls ≠ "java/lang/invoke/MethodHandle" ∧ (ai_km 256).1.cls ≠ "java/lang/invoke/VarHandle" ∧ (parseMethodDescriptor (ai_km 256).1.desc).map (fun d => d.parameters.length) = some (ai_km 256).2.2.2.2.1) ∧ (ai_km 256).2.2.1 ≤ 60 := by decide +kernel
theorem kf256 : ai_mok 256 := ⟨ko256, GW_of (ai_wat_in kd256) ke256.1, ke256.2.1, ke256.2.2.1, ke256.2.2.2⟩
theorem kg256 : ∀ a, a < 257 → ai_mok a := lt_s kg255 kf256
theorem ko257 : ai_okm 257 = true := by decide +kernel
theorem kd257 : ai_wat (5, 197) = some (Cond.code (ai_km 257).1 (ai_km 257).2.1 (ai_km 257).2.2.1 (ai_km 257).2.2.2.1) := by rfl
theorem ke257 : goodWord (Cond.code (ai_km 257).1 (ai_km 257).2.1 (ai_km 257).2.2.1 (ai_km 257).2.2.2.1) = true ∧ plainName (ai_km 257).1.cls = true ∧ ((ai_km 257).1.cls ≠ "java/lang/invoke/MethodHandle" ∧ (ai_km 257).1.cls ≠ "java/lang/invoke/VarHandle" ∧ (parseMethodDescriptor (ai_km 257).1.desc).map (fun d => d.parameters.length) = some (ai_km 257).2.2.2.2.1) ∧ (ai_km 257).2.2.1 ≤ 60 := by decide +kernel
theorem kf257 : ai_mok 257 := ⟨ko257, GW_of (ai_wat_in kd257) ke257.1, ke257.2.1, ke257.2.2.1, ke257.2.2.2⟩
theorem kg257 : ∀ a, a < 258 → ai_mok a := lt_s kg256 kf257
theorem ko258 : ai_okm 258 = true := by decide +kernel
theorem kd258 : ai_wat (5, 204) = some (Cond.code (ai_km 258).1 (ai_km 258).2.1 (ai_km 258).2.2.1 (ai_km 258).2.2.2.1) := by rfl
theorem ke258 : goodWord (Cond.code (ai_km 258).1 (ai_km 258).2.1 (ai_km 258).2.2.1 (ai_km 258).2.2.2.1) = true ∧ plainName (ai_km 258).1.cls = true ∧ ((ai_km 258).1.cls ≠ "java/lang/invoke/MethodHandle" ∧ (ai_km 258).1.cls ≠ "java/lang/invoke/VarHandle" ∧ (parseMethodDescriptor (ai_km 258).1.desc).map (fun d => d.parameters.length) = some (ai_km 258).2.2.2.2.1) ∧ (ai_km 258).2.2.1 ≤ 60 := by decide +kernel
theorem kf258 : ai_mok 258 := ⟨ko258, GW_of (ai_wat_in kd258) ke258.1, ke258.2.1, ke258.2.2.1, ke258.2.2.2⟩
theorem kg258 : ∀ a, a < 259 → ai_mok a := lt_s kg257 kf258
