/-! ===== every method of the table is what it must be ===== -/
theorem ko0 : ai_okm 0 = true := by decide +kernel
theorem kd0 : ai_wat (1, 117) = some (Cond.code (ai_km 0).1 (ai_km 0).2.1 (ai_km 0).2.2.1 (ai_km 0).2.2.2.1) := by rfl
theorem ke0 : goodWord (Cond.code (ai_km 0).1 (ai_km 0).2.1 (ai_km 0).2.2.1 (ai_km 0).2.2.2.1) = true ∧ plainName (ai_km 0).1.cls = true ∧ ((ai_km 0).1.cls ≠ "java/lang/invoke/MethodHandle" ∧ (ai_km 0).1.cls ≠ "java/lang/invoke/VarHandle" ∧ (parseMethodDescriptor (ai_km 0).1.desc).map (fun d => d.parameters.length) = some (ai_km 0).2.2.2.2.1) ∧ (ai_km 0).2.2.1 ≤ 60 := by decide +kernel
theorem kf0 : ai_mok 0 := ⟨ko0, GW_of (ai_wat_in kd0) ke0.1, ke0.2.1, ke0.2.2.1, ke0.2.2.2⟩
theorem kg0 : ∀ a, a < 1 → ai_mok a := lt_s lt_0 kf0
theorem ko1 : ai_okm 1 = true := by decide +kernel
theorem kd1 : ai_wat (1, 113) = some (Cond.code (ai_km 1).1 (ai_km 1).2.1 (ai_km 1).2.2.1 (ai_km 1).2.2.2.1) := by rfl
theorem ke1 : goodWord (Cond.code (ai_km 1).1 (ai_km 1).2.1 (ai_km 1).2.2.1 (ai_km 1).2.2.2.1) = true ∧ plainName (ai_km 1).1.cls = true ∧ ((ai_km 1).1.cls ≠ "java/lang/invoke/MethodHandle" ∧ (ai_km 1).1.cls ≠ "java/lang/invoke/VarHandle" ∧ (parseMethodDescriptor (ai_km 1).1.desc).map (fun d => d.parameters.length) = some (ai_km 1).2.2.2.2.1) ∧ (ai_km 1).2.2.1 ≤ 60 := by decide +kernel
theorem kf1 : ai_mok 1 := ⟨ko1, GW_of (ai_wat_in kd1) ke1.1, ke1.2.1, ke1.2.2.1, ke1.2.2.2⟩
theorem kg1 : ∀ a, a < 2 → ai_mok a := lt_s kg0 kf1
theorem ko2 : ai_okm 2 = true := by decide +kernel
theorem kd2 : ai_wat (3, 41) = some (Cond.code (ai_km 2).1 (ai_km 2).2.1 (ai_km 2).2.2.1 (ai_km 2).2.2.2.1) := by rfl
theorem ke2 : goodWord (Cond.code (ai_km 2).1 (ai_km 2).2.1 (ai_km 2).2.2.1 (ai_km 2).2.2.2.1) = true ∧ plainName (ai_km 2).1.cls = true ∧ ((ai_km 2).1.cls ≠ "java/lang/invoke/MethodHandle" ∧ (ai_km 2).1.cls ≠ "java/lang/invoke/VarHandle" ∧ (parseMethodDescriptor (ai_km 2).1.desc).map (fun d => d.parameters.length) = some (ai_km 2).2.2.2.2.1) ∧ (ai_km 2).2.2.1 ≤ 60 := by decide +kernel
theorem kf2 : ai_mok 2 := ⟨ko2, GW_of (ai_wat_in kd2) ke2.1, ke2.2.1, ke2.2.2.1, ke2.2.2.2⟩
theorem kg2 : ∀ a, a < 3 → ai_mok a := lt_s kg1 kf2
theorem ko3 : ai_okm 3 = true := by decide +kernel
theorem kd3 : ai_wat (3, 48) = some (Cond.code (ai_km 3).1 (ai_km 3).2.1 (ai_km 3).2.2.1 (ai_km 3).2.2.2.1) := by rfl
theorem ke3 : goodWord (Cond.code (ai_km 3).1 (ai_km 3).2.1 (ai_km 3).2.2.1 (ai_km 3).2.2.2.1) = true ∧ plainName (ai_km 3).1.cls = true ∧ ((ai_km 3).1.cls ≠ "java/lang/invoke/MethodHandle" ∧ (ai_km 3).1.cls ≠ "java/lang/invoke/VarHandle" ∧ (parseMethodDescriptor (ai_km 3).1.desc).map (fun d => d.parameters.length) = some (ai_km 3).2.2.2.2.1) ∧ (ai_km 3).2.2.1 ≤ 60 := by decide +kernel
theorem kf3 : ai_mok 3 := ⟨ko3, GW_of (ai_wat_in kd3) ke3.1, ke3.2.1, ke3.2.2.1, ke3.2.2.2⟩
theorem kg3 : ∀ a, a < 4 → ai_mok a := lt_s kg2 kf3
theorem ko4 : ai_okm 4 = true := by decide +kernel
theorem kd4 : ai_wat (3, 55) = some (Cond.code (ai_km 4).1 (ai_km 4).2.1 (ai_km 4).2.2.1 (ai_km 4).2.2.2.1) := by rfl
theorem ke4 : goodWord (Cond.code (ai_km 4).1 (ai_km 4).2.1 (ai_km 4).2.2.1 (ai_km 4).2.2.2.1) = true ∧ plainName (ai_km 4).1.cls = true ∧ ((ai_km 4).1.cls ≠ "java/lang/invoke/MethodHandle" ∧ (ai_km 4).1.cls ≠ "java/lang/invoke/VarHandle" ∧ (parseMethodDescriptor (ai_km 4).1.desc).map (fun d => d.parameters.length) = some (ai_km 4).2.2.2.2.1) ∧ (ai_km 4).2.2.1 ≤ 60 := by decide +kernel
theorem kf4 : ai_mok 4 := ⟨ko4, GW_of (ai_wat_in kd4) ke4.1, ke4.2.1, ke4.2.2.1, ke4.2.2.2⟩
theorem kg4 : ∀ a, a < 5 → ai_mok a := lt_s kg3 kf4
theorem ko5 : ai_okm 5 = true := by decide +kernel
theorem kd5 : ai_wat (3, 45) = some (Cond.code (ai_km 5).1 (ai_km 5).2.1 (ai_km 5).2.2.1 (ai_km 5).2.2.2.1) := by rfl
theorem ke5 : goodWord (Cond.code (ai_km 5).1 (ai_km 5).2.1 (ai_km 5).2.2.1 (ai_km 5).2.2.2.1) = true ∧ plainName (ai_km 5).1.cls = true ∧ ((ai_km 5).1.cls ≠ "java/lang/invoke/MethodHandle" ∧ (ai_km 5).1.cls ≠ "java/lang/invoke/VarHandle" ∧ (parseMethodDescriptor (ai_km 5).1.desc).map (fun d => d.parameters.length) = some (ai_km 5).2.2.2.2.1) ∧ (ai_km 5).2.2.1 ≤ 60 := by decide +kernel
theorem kf5 : ai_mok 5 := ⟨ko5, GW_of (ai_wat_in kd5) ke5.1, ke5.2.1, ke5.2.2.1, ke5.2.2.2⟩
theorem kg5 : ∀ a, a < 6 → ai_mok a := lt_s kg4 kf5
theorem ko6 : ai_okm 6 = true := by decide +kernel
theorem kd6 : ai_wat (3, 37) = some (Cond.code (ai_km 6).1 (ai_km 6).2.1 (ai_km 6).2.2.1 (ai_km 6).2.2.2.1) := by rfl
theorem ke6 : goodWord (Cond.code (ai_km 6).1 (ai_km 6).2.1 (ai_km 6).2.2.1 (ai_km 6).2.2.2.1) = true ∧ plainName (ai_km 6).1.cls = true ∧ ((ai_km 6).1.cls ≠ "java/lang/invoke/MethodHandle" ∧ (ai_km 6).1.cls ≠ "java/lang/invoke/VarHandle" ∧ (parseMethodDescriptor (ai_km 6).1.desc).map (fun d => d.parameters.length) = some (ai_km 6).2.2.2.2.1) ∧ (ai_km 6).2.2.1 ≤ 60 := by decide +kernel
theorem kf6 : ai_mok 6 := ⟨ko6, GW_of (ai_wat_in kd6) ke6.1, ke6.2.1, ke6.2.2.1, ke6.2.2.2⟩
theorem kg6 : ∀ a, a < 7 → ai_mok a := lt_s kg5 kf6
theorem ko7 : ai_okm 7 = true := by decide +kernel
theorem kd7 : ai_wat (3, 33) = some (Cond.code (ai_km 7).1 (ai_km 7).2.1 (ai_km 7).2.2.1 (ai_km 7).2.2.2.1) := by rfl
theorem ke7 : goodWord (Cond.code (ai_km 7).1 (ai_km 7).2.1 (ai_km 7).2.2.1 (ai_km 7).2.2.2.1) = true ∧ plainName (ai_km 7).1.cls = true ∧ ((ai_km 7).1.cls ≠ "java/lang/invoke/MethodHandle" ∧ (ai_km 7).1.cls ≠ "java/lang/invoke/VarHandle" ∧ (parseMethodDescriptor (ai_km 7).1.desc).map (fun d => d.parameters.length) = some (ai_km 7).2.2.2.2.1) ∧ (ai_km 7).2.2.1 ≤ 60 := by decide +kernel
theorem kf7 : ai_mok 7 := ⟨ko7, GW_of (ai_wat_in kd7) ke7.1, ke7.2.1, ke7.2.2.1, ke7.2.2.2⟩
theorem kg7 : ∀ a, a < 8 → ai_mok a := lt_s kg6 kf7
theorem ko8 : ai_okm 8 = true := by decide +kernel
theorem kd8 : ai_wat (4, 160) = some (Cond.code (ai_km 8).1 (ai_km 8).2.1 (ai_km 8).2.2.1 (ai_km 8).2.2.2.1) := by rfl
theorem ke8 : goodWord (Cond.code (ai_km 8).1 (ai_km 8).2.1 (ai_km 8).2.2.1 (ai_km 8).2.2.2.1) = true ∧ plainName (ai_km 8).1.cls = true ∧ ((ai_km 8).1.cls ≠ "java/lang/invoke/MethodHandle" ∧ (ai_km 8).1.cls ≠ "java/lang/invoke/VarHandle" ∧ (parseMethodDescriptor (ai_km 8).1.desc).map (fun d => d.parameters.length) = some (ai_km 8).2.2.2.2.1) ∧ (ai_km 8).2.2.1 ≤ 60 := by decide +kernel
theorem kf8 : ai_mok 8 := ⟨ko8, GW_of (ai_wat_in kd8) ke8.1, ke8.2.1, ke8.2.2.1, ke8.2.2.2⟩
theorem kg8 : ∀ a, a < 9 → ai_mok a := lt_s kg7 kf8
theorem ko9 : ai_okm 9 = true := by decide +kernel
theorem kd9 : ai_wat (4, 172) = some (Cond.code (ai_km 9).1 (ai_km 9).2.1 (ai_km 9).2.2.1 (ai_km 9).2.2.2.1) := by rfl
theorem ke9 : goodWord (Cond.code (ai_km 9).1 (ai_km 9).2.1 (ai_km 9).2.2.1 (ai_km 9).2.2.2.1) = true ∧ plainName (ai_km 9).1.cls = true ∧ ((ai_km 9).1.cls ≠ "java/lang/invoke/MethodHandle" ∧ (ai_km 9).1.cls ≠ "java/lang/invoke/VarHandle" ∧ (parseMethodDescriptor (ai_km 9).1.desc).map (fun d => d.parameters.length) = some (ai_km 9).2.2.2.2.1) ∧ (ai_km 9).2.2.1 ≤ 60 := by decide +kernel
theorem kf9 : ai_mok 9 := ⟨ko9, GW_of (ai_wat_in kd9) ke9.1, ke9.2.1, ke9.2.2.1, ke9.2.2.2⟩
theorem kg9 : ∀ a, a < 10 → ai_mok a := lt_s kg8 kf9
theorem ko10 : ai_okm 10 = true := by decide +kernel
theorem kd10 : ai_wat (8, 14) = some (Cond.code (ai_km 10).1 (ai_km 10).2.1 (ai_km 10).2.2.1 (ai_km 10).2.2.2.1) := by rfl
theorem ke10 : goodWord (Cond.code (ai_km 10).1 (ai_km 10).2.1 (ai_km 10).2.2.1 (ai_km 10).2.2.2.1) = true ∧ plainName (ai_km 10).1.cls = true ∧ ((ai_km 10).1.cls ≠ "java/lang/invoke/MethodHandle" ∧ (ai_km 10).1.cls ≠ "java/lang/invoke/VarHandle" ∧ (parseMethodDescriptor (ai_km 10).1.desc).map (fun d => d.parameters.length) = some (ai_km 10).2.2.2.2.1) ∧ (ai_km 10).2.2.1 ≤ 60 := by decide +kernel
theorem kf10 : ai_mok 10 := ⟨ko10, GW_of (ai_wat_in kd10) ke10.1, ke10.2.1, ke10.2.2.1, ke10.2.2.2⟩
theorem kg10 : ∀ a, a < 11 → ai_mok a := lt_s kg9 kf10
theorem ko11 : ai_okm 11 = true := by decide +kernel
theorem kd11 : ai_wat (1, 57) = some (Cond.code (ai_km 11).1 (ai_km 11).2.1 (ai_km 11).2.2.1 (ai_km 11).2.2.2.1) := by rfl
theorem ke11 : goodWord (Cond.code (ai_km 11).1 (ai_km 11).2.1 (ai_km 11).2.2.1 (ai_km 11).2.2.2.1) = true ∧ plainName (ai_km 11).1.cls = true ∧ ((ai_km 11).1.cls ≠ "java/lang/invoke/MethodHandle" ∧ (ai_km 11).1.cls ≠ "java/lang/invoke/VarHandle" ∧ (parseMethodDescriptor (ai_km 11).1.desc).map (fun d => d.parameters.length) = some (ai_km 11).2.2.2.2.1) ∧ (ai_km 11).2.2.1 ≤ 60 := by decide +kernel
theorem kf11 : ai_mok 11 := ⟨ko11, GW_of (ai_wat_in kd11) ke11.1, ke11.2.1, ke11.2.2.1, ke11.2.2.2⟩
theorem kg11 : ∀ a, a < 12 → ai_mok a := lt_s kg10 kf11
theorem ko12 : ai_okm 12 = true := by decide +kernel
theorem kd12 : ai_wat (2, 201) = some (Cond.code (ai_km 12).1 (ai_km 12).2.1 (ai_km 12).2.2.1 (ai_km 12).2.2.2.1) := by rfl
theorem ke12 : goodWord (Cond.code (ai_km 12).1 (ai_km 12).2.1 (ai_km 12).2.2.1 (ai_km 12).2.2.2.1) = true ∧ plainName (ai_km 12).1.cls = true ∧ ((ai_km 12).1.cls ≠ "java/lang/invoke/MethodHandle" ∧ (ai_km 12).1.cls ≠ "java/lang/invoke/VarHandle" ∧ (parseMethodDescriptor (ai_km 12).1.desc).map (fun d => d.parameters.length) = some (ai_km 12).2.2.2.2.1) ∧ (ai_km 12).2.2.1 ≤ 60 := by decide +kernel
theorem kf12 : ai_mok 12 := ⟨ko12, GW_of (ai_wat_in kd12) ke12.1, ke12.2.1, ke12.2.2.1, ke12.2.2.2⟩
theorem kg12 : ∀ a, a < 13 → ai_mok a := lt_s kg11 kf12
theorem ko13 : ai_okm 13 = true := by decide +kernel
theorem kd13 : ai_wat (2, 207) = some (Cond.code (ai_km 13).1 (ai_km 13).2.1 (ai_km 13).2.2.1 (ai_km 13).2.2.2.1) := by rfl
theorem ke13 : goodWord (Cond.code (ai_km 13).1 (ai_km 13).2.1 (ai_km 13).2.2.1 (ai_km 13).2.2.2.1) = true ∧ plainName (ai_km 13).1.cls = true ∧ ((ai_km 13).1.cls ≠ "java/lang/invoke/MethodHandle" ∧ (ai_km 13).1.cls ≠ "java/lang/invoke/VarHandle" ∧ (parseMethodDescriptor (ai_km 13).1.desc).map (fun d => d.parameters.length) = some (ai_km 13).2.2.2.2.1) ∧ (ai_km 13).2.2.1 ≤ 60 := by decide +kernel
theorem kf13 : ai_mok 13 := ⟨ko13, GW_of (ai_wat_in kd13) ke13.1, ke13.2.1, ke13.2.2.1, ke13.2.2.2⟩
theorem kg13 : ∀ a, a < 14 → ai_mok a := lt_s kg12 kf13
theorem ko14 : ai_okm 14 = true := by decide +kernel
theorem kd14 : ai_wat (2, 204) = some (Cond.code (ai_km 14).1 (ai_km 14).2.1 (ai_km 14).2.2.1 (ai_km 14).2.2.2.1) := by rfl
theorem ke14 : goodWord (Cond.code (ai_km 14).1 (ai_km 14).2.1 (ai_km 14).2.2.1 (ai_km 14).2.2.2.1) = true ∧ plainName (ai_km 14).1.cls = true ∧ ((ai_km 14).1.cls ≠ "java/lang/invoke/MethodHandle" ∧ (ai_km 14).1.cls ≠ "java/lang/invoke/VarHandle" ∧ (parseMethodDescriptor (ai_km 14).1.desc).map (fun d => d.parameters.length) = some (ai_km 14).2.2.2.2.1) ∧ (ai_km 14).2.2.1 ≤ 60 := by decide +kernel
theorem kf14 : ai_mok 14 := ⟨ko14, GW_of (ai_wat_in kd14) ke14.1, ke14.2.1, ke14.2.2.1, ke14.2.2.2⟩
theorem kg14 : ∀ a, a < 15 → ai_mok a := lt_s kg13 kf14
theorem ko15 : ai_okm 15 = true := by decide +kernel
theorem kd15 : ai_wat (2, 194) = some (Cond.code (ai_km 15).1 (ai_km 15).2.1 (ai_km 15).2.2.1 (ai_km 15).2.2.2.1) := by rfl
theorem ke15 : goodWord (Cond.code (ai_km 15).1 (ai_km 15).2.1 (ai_km 15).2.2.1 (ai_km 15).2.2.2.1) = true ∧ plainName (ai_km 15).1.cls = true ∧ ((ai_km 15).1.cls ≠ "java/lang/invoke/MethodHandle" ∧ (ai_km 15).1.cls ≠ "java/lang/invoke/VarHandle" ∧ (parseMethodDescriptor (ai_km 15).1.desc).map (fun d => d.parameters.length) = some (ai_km 15).2.2.2.2.1) ∧ (ai_km 15).2.2.1 ≤ 60 := by decide +kernel
theorem kf15 : ai_mok 15 := ⟨ko15, GW_of (ai_wat_in kd15) ke15.1, ke15.2.1, ke15.2.2.1, ke15.2.2.2⟩
theorem kg15 : ∀ a, a < 16 → ai_mok a := lt_s kg14 kf15
theorem ko16 : ai_okm 16 = true := by decide +kernel
theorem kd16 : ai_wat (2, 215) = some (Cond.code (ai_km 16).1 (ai_km 16).2.1 (ai_km 16).2.2.1 (ai_km 16).2.2.2.1) := by rfl
theorem ke16 : goodWord (Cond.code (ai_km 16).1 (ai_km 16).2.1 (ai_km 16).2.2.1 (ai_km 16).2.2.2.1) = true ∧ plainName (ai_km 16).1.cls = true ∧ ((ai_km 16).1.cls ≠ "java/lang/invoke/MethodHandle" ∧ (ai_km 16).1.cls ≠ "java/lang/invoke/VarHandle" ∧ (parseMethodDescriptor (ai_km 16).1.desc).map (fun d => d.parameters.length) = some (ai_km 16).2.2.2.2.1) ∧ (ai_km 16).2.2.1 ≤ 60 := by decide +kernel
theorem kf16 : ai_mok 16 := ⟨ko16, GW_of (ai_wat_in kd16) ke16.1, ke16.2.1, ke16.2.2.1, ke16.2.2.2⟩
theorem kg16 : ∀ a, a < 17 → ai_mok a := lt_s kg15 kf16
theorem ko17 : ai_okm 17 = true := by decide +kernel
theorem kd17 : ai_wat (2, 219) = some (Cond.code (ai_km 17).1 (ai_km 17).2.1 (ai_km 17).2.2.1 (ai_km 17).2.2.2.1) := by rfl
theorem ke17 : goodWord (Cond.code (ai_km 17).1 (ai_km 17).2.1 (ai_km 17).2.2.1 (ai_km 17).2.2.2.1) = true ∧ plainName (ai_km 17).1.cls = true ∧ ((ai_km 17).1.cls ≠ "java/lang/invoke/MethodHandle" ∧ (ai_km 17).1.cls ≠ "java/lang/invoke/VarHandle" ∧ (parseMethodDescriptor (ai_km 17).1.desc).map (fun d => d.parameters.length) = some (ai_km 17).2.2.2.2.1) ∧ (ai_km 17).2.2.1 ≤ 60 := by decide +kernel
theorem kf17 : ai_mok 17 := ⟨ko17, GW_of (ai_wat_in kd17) ke17.1, ke17.2.1, ke17.2.2.1, ke17.2.2.2⟩
theorem kg17 : ∀ a, a < 18 → ai_mok a := lt_s kg16 kf17
theorem ko18 : ai_okm 18 = true := by decide +kernel
theorem kd18 : ai_wat (2, 211) = some (Cond.code (ai_km 18).1 (ai_km 18).2.1 (ai_km 18).2.2.1 (ai_km 18).2.2.2.1) := by rfl
theorem ke18 : goodWord (Cond.code (ai_km 18).1 (ai_km 18).2.1 (ai_km 18).2.2.1 (ai_km 18).2.2.2.1) = true ∧ plainName (ai_km 18).1.cls = true ∧ ((ai_km 18).1.cls ≠ "java/lang/invoke/MethodHandle" ∧ (ai_km 18).1.cls ≠ "java/lang/invoke/VarHandle" ∧ (parseMethodDescriptor (ai_km 18).1.desc).map (fun d => d.parameters.length) = some (ai_km 18).2.2.2.2.1) ∧ (ai_km 18).2.2.1 ≤ 60 := by decide +kernel
theorem kf18 : ai_mok 18 := ⟨ko18, GW_of (ai_wat_in kd18) ke18.1, ke18.2.1, ke18.2.2.1, ke18.2.2.2⟩
theorem kg18 : ∀ a, a < 19 → ai_mok a := lt_s kg17 kf18
theorem ko19 : ai_okm 19 = true := by decide +kernel
theorem kd19 : ai_wat (3, 120) = some (Cond.code (ai_km 19).1 (ai_km 19).2.1 (ai_km 19).2.2.1 (ai_km 19).2.2.2.1) := by rfl
theorem ke19 : goodWord (Cond.code (ai_km 19).1 (ai_km 19).2.1 (ai_km 19).2.2.1 (ai_km 19).2.2.2.1) = true ∧ plainName (ai_km 19).1.cls = true ∧ ((ai_km 19).1.cls ≠ "java/lang/invoke/MethodHandle" ∧ (ai_km 19).1.cls ≠ "java/lang/invoke/VarHandle" ∧ (parseMethodDescriptor (ai_km 19).1.desc).map (fun d => d.parameters.length) = some (ai_km 19).2.2.2.2.1) ∧ (ai_km 19).2.2.1 ≤ 60 := by decide +kernel
theorem kf19 : ai_mok 19 := ⟨ko19, GW_of (ai_wat_in kd19) ke19.1, ke19.2.1, ke19.2.2.1, ke19.2.2.2⟩
theorem kg19 : ∀ a, a < 20 → ai_mok a := lt_s kg18 kf19
theorem ko20 : ai_okm 20 = true := by decide +kernel
theorem kd20 : ai_wat (3, 116) = some (Cond.code (ai_km 20).1 (ai_km 20).2.1 (ai_km 20).2.2.1 (ai_km 20).2.2.2.1) := by rfl
theorem ke20 : goodWord (Cond.code (ai_km 20).1 (ai_km 20).2.1 (ai_km 20).2.2.1 (ai_km 20).2.2.2.1) = true ∧ plainName (ai_km 20).1.cls = true ∧ ((ai_km 20).1.cls ≠ "java/lang/invoke/MethodHandle" ∧ (ai_km 20).1.cls ≠ "java/lang/invoke/VarHandle" ∧ (parseMethodDescriptor (ai_km 20).1.desc).map (fun d => d.parameters.length) = some (ai_km 20).2.2.2.2.1) ∧ (ai_km 20).2.2.1 ≤ 60 := by decide +kernel
theorem kf20 : ai_mok 20 := ⟨ko20, GW_of (ai_wat_in kd20) ke20.1, ke20.2.1, ke20.2.2.1, ke20.2.2.2⟩
theorem kg20 : ∀ a, a < 21 → ai_mok a := lt_s kg19 kf20
theorem ko21 : ai_okm 21 = true := by decide +kernel
theorem kd21 : ai_wat (3, 124) = some (Cond.code (ai_km 21).1 (ai_km 21).2.1 (ai_km 21).2.2.1 (ai_km 21).2.2.2.1) := by rfl
theorem ke21 : goodWord (Cond.code (ai_km 21).1 (ai_km 21).2.1 (ai_km 21).2.2.1 (ai_km 21).2.2.2.1) = true ∧ plainName (ai_km 21).1.cls = true ∧ ((ai_km 21).1.cls ≠ "java/lang/invoke/MethodHandle" ∧ (ai_km 21).1.cls ≠ "java/lang/invoke/VarHandle" ∧ (parseMethodDescriptor (ai_km 21).1.desc).map (fun d => d.parameters.length) = some (ai_km 21).2.2.2.2.1) ∧ (ai_km 21).2.2.1 ≤ 60 := by decide +kernel
theorem kf21 : ai_mok 21 := ⟨ko21, GW_of (ai_wat_in kd21) ke21.1, ke21.2.1, ke21.2.2.1, ke21.2.2.2⟩
theorem kg21 : ∀ a, a < 22 → ai_mok a := lt_s kg20 kf21
theorem ko22 : ai_okm 22 = true := by decide +kernel
theorem kd22 : ai_wat (3, 219) = some (Cond.code (ai_km 22).1 (ai_km 22).2.1 (ai_km 22).2.2.1 (ai_km 22).2.2.2.1) := by rfl
theorem ke22 : goodWord (Cond.code (ai_km 22).1 (ai_km 22).2.1 (ai_km 22).2.2.1 (ai_km 22).2.2.2.1) = true ∧ plainName (ai_km 22).1.cls = true ∧ ((ai_km 22).1.cls ≠ "java/lang/invoke/MethodHandle" ∧ (ai_km 22).1.cls ≠ "java/lang/invoke/VarHandle" ∧ (parseMethodDescriptor (ai_km 22).1.desc).map (fun d => d.parameters.length) = some (ai_km 22).2.2.2.2.1) ∧ (ai_km 22).2.2.1 ≤ 60 := by decide +kernel
theorem kf22 : ai_mok 22 := ⟨ko22, GW_of (ai_wat_in kd22) ke22.1, ke22.2.1, ke22.2.2.1, ke22.2.2.2⟩
theorem kg22 : ∀ a, a < 23 → ai_mok a := lt_s kg21 kf22
theorem ko23 : ai_okm 23 = true := by decide +kernel
theorem kd23 : ai_wat (3, 223) = some (Cond.code (ai_km 23).1 (ai_km 23).2.1 (ai_km 23).2.2.1 (ai_km 23).2.2.2.1) := by rfl
theorem ke23 : goodWord (Cond.code (ai_km 23).1 (ai_km 23).2.1 (ai_km 23).2.2.1 (ai_km 23).2.2.2.1) = true ∧ plainName (ai_km 23).1.cls = true ∧ ((ai_km 23).1.cls ≠ "java/lang/invoke/MethodHandle" ∧ (ai_km 23).1.cls ≠ "java/lang/invoke/VarHandle" ∧ (parseMethodDescriptor (ai_km 23).1.desc).map (fun d => d.parameters.length) = some (ai_km 23).2.2.2.2.1) ∧ (ai_km 23).2.2.1 ≤ 60 := by decide +kernel
theorem kf23 : ai_mok 23 := ⟨ko23, GW_of (ai_wat_in kd23) ke23.1, ke23.2.1, ke23.2.2.1, ke23.2.2.2⟩
theorem kg23 : ∀ a, a < 24 → ai_mok a := lt_s kg22 kf23
theorem ko24 : ai_okm 24 = true := by decide +kernel
theorem kd24 : ai_wat (4, 30) = some (Cond.code (ai_km 24).1 (ai_km 24).2.1 (ai_km 24).2.2.1 (ai_km 24).2.2.2.1) := by rfl
theorem ke24 : goodWord (Cond.code (ai_km 24).1 (ai_km 24).2.1 (ai_km 24).2.2.1 (ai_km 24).2.2.2.1) = true ∧ plainName (ai_km 24).1.cls = true ∧ ((ai_km 24).1.cls ≠ "java/lang/invoke/MethodHandle" ∧ (ai_km 24).1.cls ≠ "java/lang/invoke/VarHandle" ∧ (parseMethodDescriptor (ai_km 24).1.desc).map (fun d => d.parameters.length) = some (ai_km 24).2.2.2.2.1) ∧ (ai_km 24).2.2.1 ≤ 60 := by decide +kernel
theorem kf24 : ai_mok 24 := ⟨ko24, GW_of (ai_wat_in kd24) ke24.1, ke24.2.1, ke24.2.2.1, ke24.2.2.2⟩
theorem kg24 : ∀ a, a < 25 → ai_mok a := lt_s kg23 kf24
theorem ko25 : ai_okm 25 = true := by decide +kernel
theorem kd25 : ai_wat (4, 76) = some (Cond.code (ai_km 25).1 (ai_km 25).2.1 (ai_km 25).2.2.1 (ai_km 25).2.2.2.1) := by rfl
theorem ke25 : goodWord (Cond.code (ai_km 25).1 (ai_km 25).2.1 (ai_km 25).2.2.1 (ai_km 25).2.2.2.1) = true ∧ plainName (ai_km 25).1.cls = true ∧ ((ai_km 25).1.cls ≠ "java/lang/invoke/MethodHandle" ∧ (ai_km 25).1.cls ≠ "java/lang/invoke/VarHandle" ∧ (parseMethodDescriptor (ai_km 25).1.desc).map (fun d => d.parameters.length) = some (ai_km 25).2.2.2.2.1) ∧ (ai_km 25).2.2.1 ≤ 60 := by decide +kernel
theorem kf25 : ai_mok 25 := ⟨ko25, GW_of (ai_wat_in kd25) ke25.1, ke25.2.1, ke25.2.2.1, ke25.2.2.2⟩
theorem kg25 : ∀ a, a < 26 → ai_mok a := lt_s kg24 kf25
theorem ko26 : ai_okm 26 = true := by decide +kernel
theorem kd26 : ai_wat (4, 73) = some (Cond.code (ai_km 26).1 (ai_km 26).2.1 (ai_km 26).2.2.1 (ai_km 26).2.2.2.1) := by rfl
theorem ke26 : goodWord (Cond.code (ai_km 26).1 (ai_km 26).2.1 (ai_km 26).2.2.1 (ai_km 26).2.2.2.1) = true ∧ plainName (ai_km 26).1.cls = true ∧ ((ai_km 26).1.cls ≠ "java/lang/invoke/MethodHandle" ∧ (ai_km 26).1.cls ≠ "java/lang/invoke/VarHandle" ∧ (parseMethodDescriptor (ai_km 26).1.desc).map (fun d => d.parameters.length) = some (ai_km 26).2.2.2.2.1) ∧ (ai_km 26).2.2.1 ≤ 60 := by decide +kernel
theorem kf26 : ai_mok 26 := ⟨ko26, GW_of (ai_wat_in kd26) ke26.1, ke26.2.1, ke26.2.2.1, ke26.2.2.2⟩
theorem kg26 : ∀ a, a < 27 → ai_mok a := lt_s kg25 kf26
theorem ko27 : ai_okm 27 = true := by decide +kernel
theorem kd27 : ai_wat (4, 104) = some (Cond.code (ai_km 27).1 (ai_km 27).2.1 (ai_km 27).2.2.1 (ai_km 27).2.2.2.1) := by rfl
theorem ke27 : goodWord (Cond.code (ai_km 27).1 (ai_km 27).2.1 (ai_km 27).2.2.1 (ai_km 27).2.2.2.1) = true ∧ plainName (ai_km 27).1.cls = true ∧ ((ai_km 27).1.cls ≠ "java/lang/invoke/MethodHandle" ∧ (ai_km 27).1.cls ≠ "java/lang/invoke/VarHandle" ∧ (parseMethodDescriptor (ai_km 27).1.desc).map (fun d => d.parameters.length) = some (ai_km 27).2.2.2.2.1) ∧ (ai_km 27).2.2.1 ≤ 60 := by decide +kernel
theorem kf27 : ai_mok 27 := ⟨ko27, GW_of (ai_wat_in kd27) ke27.1, ke27.2.1, ke27.2.2.1, ke27.2.2.2⟩
theorem kg27 : ∀ a, a < 28 → ai_mok a := lt_s kg26 kf27
theorem ko28 : ai_okm 28 = true := by decide +kernel
theorem kd28 : ai_wat (4, 112) = some (Cond.code (ai_km 28).1 (ai_km 28).2.1 (ai_km 28).2.2.1 (ai_km 28).2.2.2.1) := by rfl
theorem ke28 : goodWord (Cond.code (ai_km 28).1 (ai_km 28).2.1 (ai_km 28).2.2.1 (ai_km 28).2.2.2.1) = true ∧ plainName (ai_km 28).1.cls = true ∧ ((ai_km 28).1.cls ≠ "java/lang/invoke/MethodHandle" ∧ (ai_km 28).1.cls ≠ "java/lang/invoke/VarHandle" ∧ (parseMethodDescriptor (ai_km 28).1.desc).map (fun d => d.parameters.length) = some (ai_km 28).2.2.2.2.1) ∧ (ai_km 28).2.2.1 ≤ 60 := by decide +kernel
theorem kf28 : ai_mok 28 := ⟨ko28, GW_of (ai_wat_in kd28) ke28.1, ke28.2.1, ke28.2.2.1, ke28.2.2.2⟩
theorem kg28 : ∀ a, a < 29 → ai_mok a := lt_s kg27 kf28
theorem ko29 : ai_okm 29 = true := by decide +kernel
theorem kd29 : ai_wat (4, 125) = some (Cond.code (ai_km 29).1 (ai_km 29).2.1 (ai_km 29).2.2.1 (ai_km 29).2.2.2.1) := by rfl
theorem ke29 : goodWord (Cond.code (ai_km 29).1 (ai_km 29).2.1 (ai_km 29).2.2.1 (ai_km 29).2.2.2.1) = true ∧ plainName (ai_km 29).1.cls = true ∧ ((ai_km 29).1.cls ≠ "java/lang/invoke/MethodHandle" ∧ (ai_km 29).1.cls ≠ "java/lang/invoke/VarHandle" ∧ (parseMethodDescriptor (ai_km 29).1.desc).map (fun d => d.parameters.length) = some (ai_km 29).2.2.2.2.1) ∧ (ai_km 29).2.2.1 ≤ 60 := by decide +kernel
theorem kf29 : ai_mok 29 := ⟨ko29, GW_of (ai_wat_in kd29) ke29.1, ke29.2.1, ke29.2.2.1, ke29.2.2.2⟩
theorem kg29 : ∀ a, a < 30 → ai_mok a := lt_s kg28 kf29
theorem ko30 : ai_okm 30 = true := by decide +kernel
theorem kd30 : ai_wat (4, 168) = some (Cond.code (ai_km 30).1 (ai_km 30).2.1 (ai_km 30).2.2.1 (ai_km 30).2.2.2.1) := by rfl
theorem ke30 : goodWord (Cond.code (ai_km 30).1 (ai_km 30).2.1 (ai_km 30).2.2.1 (ai_km 30).2.2.2.1) = true ∧ plainName (ai_km 30).1.cls = true ∧ ((ai_km 30).1.cls ≠ "java/lang/invoke/MethodHandle" ∧ (ai_km 30).1.cls ≠ "java/lang/invoke/VarHandle" ∧ (parseMethodDescriptor (ai_km 30).1.desc).map (fun d => d.parameters.length) = some (ai_km 30).2.2.2.2.1) ∧ (ai_km 30).2.2.1 ≤ 60 := by decide +kernel
theorem kf30 : ai_mok 30 := ⟨ko30, GW_of (ai_wat_in kd30) ke30.1, ke30.2.1, ke30.2.2.1, ke30.2.2.2⟩
theorem kg30 : ∀ a, a < 31 → ai_mok a := lt_s kg29 kf30
theorem ko31 : ai_okm 31 = true := by decide +kernel
theorem kd31 : ai_wat (5, 189) = some (Cond.code (ai_km 31).1 (ai_km 31).2.1 (ai_km 31).2.2.1 (ai_km 31).2.2.2.1) := by rfl
theorem ke31 : goodWord (Cond.code (ai_km 31).1 (ai_km 31).2.1 (ai_km 31).2.2.1 (ai_km 31).2.2.2.1) = true ∧ plainName (ai_km 31).1.cls = true ∧ ((ai_km 31).1.cls ≠ "java/lang/invoke/MethodHandle" ∧ (ai_km 31).1.cls ≠ "java/lang/invoke/VarHandle" ∧ (parseMethodDescriptor (ai_km 31).1.desc).map (fun d => d.parameters.length) = some (ai_km 31).2.2.2.2.1) ∧ (ai_km 31).2.2.1 ≤ 60 := by decide +kernel
theorem kf31 : ai_mok 31 := ⟨ko31, GW_of (ai_wat_in kd31) ke31.1, ke31.2.1, ke31.2.2.1, ke31.2.2.2⟩
theorem kg31 : ∀ a, a < 32 → ai_mok a := lt_s kg30 kf31
theorem ko32 : ai_okm 32 = true := by decide +kernel
theorem kd32 : ai_wat (2, 43) = some (Cond.code (ai_km 32).1 (ai_km 32).2.1 (ai_km 32).2.2.1 (ai_km 32).2.2.2.1) := by rfl
theorem ke32 : goodWord (Cond.code (ai_km 32).1 (ai_km 32).2.1 (ai_km 32).2.2.1 (ai_km 32).2.2.2.1) = true ∧ plainName (ai_km 32).1.cls = true ∧ ((ai_km 32).1.cls ≠ "java/lang/invoke/MethodHandle" ∧ (ai_km 32).1.cls ≠ "java/lang/invoke/VarHandle" ∧ (parseMethodDescriptor (ai_km 32).1.desc).map (fun d => d.parameters.length) = some (ai_km 32).2.2.2.2.1) ∧ (ai_km 32).2.2.1 ≤ 60 := by decide +kernel
theorem kf32 : ai_mok 32 := ⟨ko32, GW_of (ai_wat_in kd32) ke32.1, ke32.2.1, ke32.2.2.1, ke32.2.2.2⟩
theorem kg32 : ∀ a, a < 33 → ai_mok a := lt_s kg31 kf32
theorem ko33 : ai_okm 33 = true := by decide +kernel
theorem kd33 : ai_wat (3, 132) = some (Cond.code (ai_km 33).1 (ai_km 33).2.1 (ai_km 33).2.2.1 (ai_km 33).2.2.2.1) := by rfl
theorem ke33 : goodWord (Cond.code (ai_km 33).1 (ai_km 33).2.1 (ai_km 33).2.2.1 (ai_km 33).2.2.2.1) = true ∧ plainName (ai_km 33).1.cls = true ∧ ((ai_km 33).1.cls ≠ "java/lang/invoke/MethodHandle" ∧ (ai_km 33).1.cls ≠ "java/lang/invoke/VarHandle" ∧ (parseMethodDescriptor (ai_km 33).1.desc).map (fun d => d.parameters.length) = some (ai_km 33).2.2.2.2.1) ∧ (ai_km 33).2.2.1 ≤ 60 := by decide +kernel
theorem kf33 : ai_mok 33 := ⟨ko33, GW_of (ai_wat_in kd33) ke33.1, ke33.2.1, ke33.2.2.1, ke33.2.2.2⟩
theorem kg33 : ∀ a, a < 34 → ai_mok a := lt_s kg32 kf33
theorem ko34 : ai_okm 34 = true := by decide +kernel
theorem kd34 : ai_wat (3, 145) = some (Cond.code (ai_km 34).1 (ai_km 34).2.1 (ai_km 34).2.2.1 (ai_km 34).2.2.2.1) := by rfl
theorem ke34 : goodWord (Cond.code (ai_km 34).1 (ai_km 34).2.1 (ai_km 34).2.2.1 (ai_km 34).2.2.2.1) = true ∧ plainName (ai_km 34).1.cls = true ∧ ((ai_km 34).1.cls ≠ "java/lang/invoke/MethodHandle" ∧ (ai_km 34).1.cls ≠ "java/lang/invoke/VarHandle" ∧ (parseMethodDescriptor (ai_km 34).1.desc).map (fun d => d.parameters.length) = some (ai_km 34).2.2.2.2.1) ∧ (ai_km 34).2.2.1 ≤ 60 := by decide +kernel
theorem kf34 : ai_mok 34 := ⟨ko34, GW_of (ai_wat_in kd34) ke34.1, ke34.2.1, ke34.2.2.1, ke34.2.2.2⟩
theorem kg34 : ∀ a, a < 35 → ai_mok a := lt_s kg33 kf34
theorem ko35 : ai_okm 35 = true := by decide +kernel
theorem kd35 : ai_wat (3, 142) = some (Cond.code (ai_km 35).1 (ai_km 35).2.1 (ai_km 35).2.2.1 (ai_km 35).2.2.2.1) := by rfl
theorem ke35 : goodWord (Cond.code (ai_km 35).1 (ai_km 35).2.1 (ai_km 35).2.2.1 (ai_km 35).2.2.2.1) = true ∧ plainName (ai_km 35).1.cls = true ∧ ((ai_km 35).1.cls ≠ "java/lang/invoke/MethodHandle" ∧ (ai_km 35).1.cls ≠ "java/lang/invoke/VarHandle" ∧ (parseMethodDescriptor (ai_km 35).1.desc).map (fun d => d.parameters.length) = some (ai_km 35).2.2.2.2.1) ∧ (ai_km 35).2.2.1 ≤ 60 := by decide +kernel
theorem kf35 : ai_mok 35 := ⟨ko35, GW_of (ai_wat_in kd35) ke35.1, ke35.2.1, ke35.2.2.1, ke35.2.2.2⟩
theorem kg35 : ∀ a, a < 36 → ai_mok a := lt_s kg34 kf35
theorem ko36 : ai_okm 36 = true := by decide +kernel
theorem kd36 : ai_wat (3, 136) = some (Cond.code (ai_km 36).1 (ai_km 36).2.1 (ai_km 36).2.2.1 (ai_km 36).2.2.2.1) := by rfl
theorem ke36 : goodWord (Cond.code (ai_km 36).1 (ai_km 36).2.1 (ai_km 36).2.2.1 (ai_km 36).2.2.2.1) = true ∧ plainName (ai_km 36).1.cls = true ∧ ((ai_km 36).1.cls ≠ "java/lang/invoke/MethodHandle" ∧ (ai_km 36).1.cls ≠ "java/lang/invoke/VarHandle" ∧ (parseMethodDescriptor (ai_km 36).1.desc).map (fun d => d.parameters.length) = some (ai_km 36).2.2.2.2.1) ∧ (ai_km 36).2.2.1 ≤ 60 := by decide +kernel
theorem kf36 : ai_mok 36 := ⟨ko36, GW_of (ai_wat_in kd36) ke36.1, ke36.2.1, ke36.2.2.1, ke36.2.2.2⟩
theorem kg36 : ∀ a, a < 37 → ai_mok a := lt_s kg35 kf36
theorem ko37 : ai_okm 37 = true := by decide +kernel
theorem kd37 : ai_wat (3, 128) = some (Cond.code (ai_km 37).1 (ai_km 37).2.1 (ai_km 37).2.2.1 (ai_km 37).2.2.2.1) := by rfl
theorem ke37 : goodWord (Cond.code (ai_km 37).1 (ai_km 37).2.1 (ai_km 37).2.2.1 (ai_km 37).2.2.2.1) = true ∧ plainName (ai_km 37).1.cls = true ∧ ((ai_km 37).1.cls ≠ "java/lang/invoke/MethodHandle" ∧ (ai_km 37).1.cls ≠ "java/lang/invoke/VarHandle" ∧ (parseMethodDescriptor (ai_km 37).1.desc).map (fun d => d.parameters.length) = some (ai_km 37).2.2.2.2.1) ∧ (ai_km 37).2.2.1 ≤ 60 := by decide +kernel
theorem kf37 : ai_mok 37 := ⟨ko37, GW_of (ai_wat_in kd37) ke37.1, ke37.2.1, ke37.2.2.1, ke37.2.2.2⟩
theorem kg37 : ∀ a, a < 38 → ai_mok a := lt_s kg36 kf37
theorem ko38 : ai_okm 38 = true := by decide +kernel
theorem kd38 : ai_wat (4, 179) = some (Cond.code (ai_km 38).1 (ai_km 38).2.1 (ai_km 38).2.2.1 (ai_km 38).2.2.2.1) := by rfl
theorem ke38 : goodWord (Cond.code (ai_km 38).1 (ai_km 38).2.1 (ai_km 38).2.2.1 (ai_km 38).2.2.2.1) = true ∧ plainName (ai_km 38).1.cls = true ∧ ((ai_km 38).1.cls ≠ "java/lang/invoke/MethodHandle" ∧ (ai_km 38).1.cls ≠ "java/lang/invoke/VarHandle" ∧ (parseMethodDescriptor (ai_km 38).1.desc).map (fun d => d.parameters.length) = some (ai_km 38).2.2.2.2.1) ∧ (ai_km 38).2.2.1 ≤ 60 := by decide +kernel
theorem kf38 : ai_mok 38 := ⟨ko38, GW_of (ai_wat_in kd38) ke38.1, ke38.2.1, ke38.2.2.1, ke38.2.2.2⟩
theorem kg38 : ∀ a, a < 39 → ai_mok a := lt_s kg37 kf38
theorem ko39 : ai_okm 39 = true := by decide +kernel
theorem kd39 : ai_wat (4, 164) = some (Cond.code (ai_km 39).1 (ai_km 39).2.1 (ai_km 39).2.2.1 (ai_km 39).2.2.2.1) := by rfl
theorem ke39 : goodWord (Cond.code (ai_km 39).1 (ai_km 39).2.1 (ai_km 39).2.2.1 (ai_km 39).2.2.2.1) = true ∧ plainName (ai_km 39).1.cls = true ∧ ((ai_km 39).1.cls ≠ "java/lang/invoke/MethodHandle" ∧ (ai_km 39).1.cls ≠ "java/lang/invoke/VarHandle" ∧ (parseMethodDescriptor (ai_km 39).1.desc).map (fun d => d.parameters.length) = some (ai_km 39).2.2.2.2.1) ∧ (ai_km 39).2.2.1 ≤ 60 := by decide +kernel
theorem kf39 : ai_mok 39 := ⟨ko39, GW_of (ai_wat_in kd39) ke39.1, ke39.2.1, ke39.2.2.1, ke39.2.2.2⟩
theorem kg39 : ∀ a, a < 40 → ai_mok a := lt_s kg38 kf39
theorem ko40 : ai_okm 40 = true := by decide +kernel
theorem kd40 : ai_wat (4, 157) = some (Cond.code (ai_km 40).1 (ai_km 40).2.1 (ai_km 40).2.2.1 (ai_km 40).2.2.2.1) := by rfl
theorem ke40 : goodWord (Cond.code (ai_km 40).1 (ai_km 40).2.1 (ai_km 40).2.2.1 (ai_km 40).2.2.2.1) = true ∧ plainName (ai_km 40).1.cls = true ∧ ((ai_km 40).1.cls ≠ "java/lang/invoke/MethodHandle" ∧ (ai_km 40).1.cls ≠ "java/lang/invoke/VarHandle" ∧ (parseMethodDescriptor (ai_km 40).1.desc).map (fun d => d.parameters.length) = some (ai_km 40).2.2.2.2.1) ∧ (ai_km 40).2.2.1 ≤ 60 := by decide +kernel
theorem kf40 : ai_mok 40 := ⟨ko40, GW_of (ai_wat_in kd40) ke40.1, ke40.2.1, ke40.2.2.1, ke40.2.2.2⟩
theorem kg40 : ∀ a, a < 41 → ai_mok a := lt_s kg39 kf40
theorem ko41 : ai_okm 41 = true := by decide +kernel
theorem kd41 : ai_wat (1, 182) = some (Cond.code (ai_km 41).1 (ai_km 41).2.1 (ai_km 41).2.2.1 (ai_km 41).2.2.2.1) := by rfl
theorem ke41 : goodWord (Cond.code (ai_km 41).1 (ai_km 41).2.1 (ai_km 41).2.2.1 (ai_km 41).2.2.2.1) = true ∧ plainName (ai_km 41).1.cls = true ∧ ((ai_km 41).1.cls ≠ "java/lang/invoke/MethodHandle" ∧ (ai_km 41).1.cls ≠ "java/lang/invoke/VarHandle" ∧ (parseMethodDescriptor (ai_km 41).1.desc).map (fun d => d.parameters.length) = some (ai_km 41).2.2.2.2.1) ∧ (ai_km 41).2.2.1 ≤ 60 := by decide +kernel
theorem kf41 : ai_mok 41 := ⟨ko41, GW_of (ai_wat_in kd41) ke41.1, ke41.2.1, ke41.2.2.1, ke41.2.2.2⟩
theorem kg41 : ∀ a, a < 42 → ai_mok a := lt_s kg40 kf41
theorem ko42 : ai_okm 42 = true := by decide +kernel
theorem kd42 : ai_wat (1, 233) = some (Cond.code (ai_km 42).1 (ai_km 42).2.1 (ai_km 42).2.2.1 (ai_km 42).2.2.2.1) := by rfl
theorem ke42 : goodWord (Cond.code (ai_km 42).1 (ai_km 42).2.1 (ai_km 42).2.2.1 (ai_km 42).2.2.2.1) = true ∧ plainName (ai_km 42).1.cls = true ∧ ((ai_km 42).1.cls ≠ "java/lang/invoke/MethodHandle" ∧ (ai_km 42).1.cls ≠ "java/lang/invoke/VarHandle" ∧ (parseMethodDescriptor (ai_km 42).1.desc).map (fun d => d.parameters.length) = some (ai_km 42).2.2.2.2.1) ∧ (ai_km 42).2.2.1 ≤ 60 := by decide +kernel
theorem kf42 : ai_mok 42 := ⟨ko42, GW_of (ai_wat_in kd42) ke42.1, ke42.2.1, ke42.2.2.1, ke42.2.2.2⟩
theorem kg42 : ∀ a, a < 43 → ai_mok a := lt_s kg41 kf42
theorem ko43 : ai_okm 43 = true := by decide +kernel
theorem kd43 : ai_wat (2, 223) = some (Cond.code (ai_km 43).1 (ai_km 43).2.1 (ai_km 43).2.2.1 (ai_km 43).2.2.2.1) := by rfl
theorem ke43 : goodWord (Cond.code (ai_km 43).1 (ai_km 43).2.1 (ai_km 43).2.2.1 (ai_km 43).2.2.2.1) = true ∧ plainName (ai_km 43).1.cls = true ∧ ((ai_km 43).1.cls ≠ "java/lang/invoke/MethodHandle" ∧ (ai_km 43).1.cls ≠ "java/lang/invoke/VarHandle" ∧ (parseMethodDescriptor (ai_km 43).1.desc).map (fun d => d.parameters.length) = some (ai_km 43).2.2.2.2.1) ∧ (ai_km 43).2.2.1 ≤ 60 := by decide +kernel
theorem kf43 : ai_mok 43 := ⟨ko43, GW_of (ai_wat_in kd43) ke43.1, ke43.2.1, ke43.2.2.1, ke43.2.2.2⟩
theorem kg43 : ∀ a, a < 44 → ai_mok a := lt_s kg42 kf43
theorem ko44 : ai_okm 44 = true := by decide +kernel
theorem kd44 : ai_wat (3, 204) = some (Cond.code (ai_km 44).1 (ai_km 44).2.1 (ai_km 44).2.2.1 (ai_km 44).2.2.2.1) := by rfl
theorem ke44 : goodWord (Cond.code (ai_km 44).1 (ai_km 44).2.1 (ai_km 44).2.2.1 (ai_km 44).2.2.2.1) = true ∧ plainName (ai_km 44).1.cls = true ∧ ((ai_km 44).1.cls ≠ "java/lang/invoke/MethodHandle" ∧ (ai_km 44).1.cls ≠ "java/lang/invoke/VarHandle" ∧ (parseMethodDescriptor (ai_km 44).1.desc).map (fun d => d.parameters.length) = some (ai_km 44).2.2.2.2.1) ∧ (ai_km 44).2.2.1 ≤ 60 := by decide +kernel
theorem kf44 : ai_mok 44 := ⟨ko44, GW_of (ai_wat_in kd44) ke44.1, ke44.2.1, ke44.2.2.1, ke44.2.2.2⟩
theorem kg44 : ∀ a, a < 45 → ai_mok a := lt_s kg43 kf44
theorem ko45 : ai_okm 45 = true := by decide +kernel
theorem kd45 : ai_wat (3, 200) = some (Cond.code (ai_km 45).1 (ai_km 45).2.1 (ai_km 45).2.2.1 (ai_km 45).2.2.2.1) := by rfl
theorem ke45 : goodWord (Cond.code (ai_km 45).1 (ai_km 45).2.1 (ai_km 45).2.2.1 (ai_km 45).2.2.2.1) = true ∧ plainName (ai_km 45).1.cls = true ∧ ((ai_km 45).1.cls ≠ "java/lang/invoke/MethodHandle" ∧ (ai_km 45).1.cls ≠ "java/lang/invoke/VarHandle" ∧ (parseMethodDescriptor (ai_km 45).1.desc).map (fun d => d.parameters.length) = some (ai_km 45).2.2.2.2.1) ∧ (ai_km 45).2.2.1 ≤ 60 := by decide +kernel
theorem kf45 : ai_mok 45 := ⟨ko45, GW_of (ai_wat_in kd45) ke45.1, ke45.2.1, ke45.2.2.1, ke45.2.2.2⟩
theorem kg45 : ∀ a, a < 46 → ai_mok a := lt_s kg44 kf45
theorem ko46 : ai_okm 46 = true := by decide +kernel
theorem kd46 : ai_wat (4, 22) = some (Cond.code (ai_km 46).1 (ai_km 46).2.1 (ai_km 46).2.2.1 (ai_km 46).2.2.2.1) := by rfl
theorem ke46 : goodWord (Cond.code (ai_km 46).1 (ai_km 46).2.1 (ai_km 46).2.2.1 (ai_km 46).2.2.2.1) = true ∧ plainName (ai_km 46).1.cls = true ∧ ((ai_km 46).1.cls ≠ "java/lang/invoke/MethodHandle" ∧ (ai_km 46).1.cls ≠ "java/lang/invoke/VarHandle" ∧ (parseMethodDescriptor (ai_km 46).1.desc).map (fun d => d.parameters.length) = some (ai_km 46).2.2.2.2.1) ∧ (ai_km 46).2.2.1 ≤ 60 := by decide +kernel
theorem kf46 : ai_mok 46 := ⟨ko46, GW_of (ai_wat_in kd46) ke46.1, ke46.2.1, ke46.2.2.1, ke46.2.2.2⟩
theorem kg46 : ∀ a, a < 47 → ai_mok a := lt_s kg45 kf46
theorem ko47 : ai_okm 47 = true := by decide +kernel
theorem kd47 : ai_wat (2, 102) = some (Cond.code (ai_km 47).1 (ai_km 47).2.1 (ai_km 47).2.2.1 (ai_km 47).2.2.2.1) := by rfl
theorem ke47 : goodWord (Cond.code (ai_km 47).1 (ai_km 47).2.1 (ai_km 47).2.2.1 (ai_km 47).2.2.2.1) = true ∧ plainName (ai_km 47).1.cls = true ∧ ((ai_km 47).1.cls ≠ "java/lang/invoke/MethodHandle" ∧ (ai_km 47).1.cls ≠ "java/lang/invoke/VarHandle" ∧ (parseMethodDescriptor (ai_km 47).1.desc).map (fun d => d.parameters.length) = some (ai_km 47).2.2.2.2.1) ∧ (ai_km 47).2.2.1 ≤ 60 := by decide +kernel
theorem kf47 : ai_mok 47 := ⟨ko47, GW_of (ai_wat_in kd47) ke47.1, ke47.2.1, ke47.2.2.1, ke47.2.2.2⟩
theorem kg47 : ∀ a, a < 48 → ai_mok a := lt_s kg46 kf47
theorem ko48 : ai_okm 48 = true := by decide +kernel
theorem kd48 : ai_wat (5, 23) = some (Cond.code (ai_km 48).1 (ai_km 48).2.1 (ai_km 48).2.2.1 (ai_km 48).2.2.2.1) := by rfl
theorem ke48 : goodWord (Cond.code (ai_km 48).1 (ai_km 48).2.1 (ai_km 48).2.2.1 (ai_km 48).2.2.2.1) = true ∧ plainName (ai_km 48).1.cls = true ∧ ((ai_km 48).1.cls ≠ "java/lang/invoke/MethodHandle" ∧ (ai_km 48).1.cls ≠ "java/lang/invoke/VarHandle" ∧ (parseMethodDescriptor (ai_km 48).1.desc).map (fun d => d.parameters.length) = some (ai_km 48).2.2.2.2.1) ∧ (ai_km 48).2.2.1 ≤ 60 := by decide +kernel
theorem kf48 : ai_mok 48 := ⟨ko48, GW_of (ai_wat_in kd48) ke48.1, ke48.2.1, ke48.2.2.1, ke48.2.2.2⟩
theorem kg48 : ∀ a, a < 49 → ai_mok a := lt_s kg47 kf48
theorem ko49 : ai_okm 49 = true := by decide +kernel
theorem kd49 : ai_wat (5, 40) = some (Cond.code (ai_km 49).1 (ai_km 49).2.1 (ai_km 49).2.2.1 (ai_km 49).2.2.2.1) := by rfl
theorem ke49 : goodWord (Cond.code (ai_km 49).1 (ai_km 49).2.1 (ai_km 49).2.2.1 (ai_km 49).2.2.2.1) = true ∧ plainName (ai_km 49).1.cls = true ∧ ((ai_km 49).1.cls ≠ "java/lang/invoke/MethodHandle" ∧ (ai_km 49).1.cls ≠ "java/lang/invoke/VarHandle" ∧ (parseMethodDescriptor (ai_km 49).1.desc).map (fun d => d.parameters.length) = some (ai_km 49).2.2.2.2.1) ∧ (ai_km 49).2.2.1 ≤ 60 := by decide +kernel
theorem kf49 : ai_mok 49 := ⟨ko49, GW_of (ai_wat_in kd49) ke49.1, ke49.2.1, ke49.2.2.1, ke49.2.2.2⟩
theorem kg49 : ∀ a, a < 50 → ai_mok a := lt_s kg48 kf49
theorem ko50 : ai_okm 50 = true := by decide +kernel
theorem kd50 : ai_wat (5, 35) = some (Cond.code (ai_km 50).1 (ai_km 50).2.1 (ai_km 50).2.2.1 (ai_km 50).2.2.2.1) := by rfl
theorem ke50 : goodWord (Cond.code (ai_km 50).1 (ai_km 50).2.1 (ai_km 50).2.2.1 (ai_km 50).2.2.2.1) = true ∧ plainName (ai_km 50).1.cls = true ∧ ((ai_km 50).1.cls ≠ "java/lang/invoke/MethodHandle" ∧ (ai_km 50).1.cls ≠ "java/lang/invoke/VarHandle" ∧ (parseMethodDescriptor (ai_km 50).1.desc).map (fun d => d.parameters.length) = some (ai_km 50).2.2.2.2.1) ∧ (ai_km 50).2.2.1 ≤ 60 := by decide +kernel
theorem kf50 : ai_mok 50 := ⟨ko50, GW_of (ai_wat_in kd50) ke50.1, ke50.2.1, ke50.2.2.1, ke50.2.2.2⟩
theorem kg50 : ∀ a, a < 51 → ai_mok a := lt_s kg49 kf50
theorem ko51 : ai_okm 51 = true := by decide +kernel
theorem kd51 : ai_wat (5, 45) = some (Cond.code (ai_km 51).1 (ai_km 51).2.1 (ai_km 51).2.2.1 (ai_km 51).2.2.2.1) := by rfl
theorem ke51 : goodWord (Cond.code (ai_km 51).1 (ai_km 51).2.1 (ai_km 51).2.2.1 (ai_km 51).2.2.2.1) = true ∧ plainName (ai_km 51).1.cls = true ∧ ((ai_km 51).1.cls ≠ "java/lang/invoke/MethodHandle" ∧ (ai_km 51).1.cls ≠ "java/lang/invoke/VarHandle" ∧ (parseMethodDescriptor (ai_km 51).1.desc).map (fun d => d.parameters.length) = some (ai_km 51).2.2.2.2.1) ∧ (ai_km 51).2.2.1 ≤ 60 := by decide +kernel
theorem kf51 : ai_mok 51 := ⟨ko51, GW_of (ai_wat_in kd51) ke51.1, ke51.2.1, ke51.2.2.1, ke51.2.2.2⟩
theorem kg51 : ∀ a, a < 52 → ai_mok a := lt_s kg50 kf51
theorem ko52 : ai_okm 52 = true := by decide +kernel
theorem kd52 : ai_wat (5, 49) = some (Cond.code (ai_km 52).1 (ai_km 52).2.1 (ai_km 52).2.2.1 (ai_km 52).2.2.2.1) := by rfl
theorem ke52 : goodWord (Cond.code (ai_km 52).1 (ai_km 52).2.1 (ai_km 52).2.2.1 (ai_km 52).2.2.2.1) = true ∧ plainName (ai_km 52).1.cls = true ∧ ((ai_km 52).1.cls ≠ "java/lang/invoke/MethodHandle" ∧ (ai_km 52).1.cls ≠ "java/lang/invoke/VarHandle" ∧ (parseMethodDescriptor (ai_km 52).1.desc).map (fun d => d.parameters.length) = some (ai_km 52).2.2.2.2.1) ∧ (ai_km 52).2.2.1 ≤ 60 := by decide +kernel
theorem kf52 : ai_mok 52 := ⟨ko52, GW_of (ai_wat_in kd52) ke52.1, ke52.2.1, ke52.2.2.1, ke52.2.2.2⟩
theorem kg52 : ∀ a, a < 53 → ai_mok a := lt_s kg51 kf52
theorem ko53 : ai_okm 53 = true := by decide +kernel
theorem kd53 : ai_wat (2, 13) = some (Cond.code (ai_km 53).1 (ai_km 53).2.1 (ai_km 53).2.2.1 (ai_km 53).2.2.2.1) := by rfl
theorem ke53 : goodWord (Cond.code (ai_km 53).1 (ai_km 53).2.1 (ai_km 53).2.2.1 (ai_km 53).2.2.2.1) = true ∧ plainName (ai_km 53).1.cls = true ∧ ((ai_km 53).1.cls ≠ "java/lang/invoke/MethodHandle" ∧ (ai_km 53).1.cls ≠ "java/lang/invoke/VarHandle" ∧ (parseMethodDescriptor (ai_km 53).1.desc).map (fun d => d.parameters.length) = some (ai_km 53).2.2.2.2.1) ∧ (ai_km 53).2.2.1 ≤ 60 := by decide +kernel
theorem kf53 : ai_mok 53 := ⟨ko53, GW_of (ai_wat_in kd53) ke53.1, ke53.2.1, ke53.2.2.1, ke53.2.2.2⟩
theorem kg53 : ∀ a, a < 54 → ai_mok a := lt_s kg52 kf53
theorem ko54 : ai_okm 54 = true := by decide +kernel
theorem kd54 : ai_wat (3, 215) = some (Cond.code (ai_km 54).1 (ai_km 54).2.1 (ai_km 54).2.2.1 (ai_km 54).2.2.2.1) := by rfl
theorem ke54 : goodWord (Cond.code (ai_km 54).1 (ai_km 54).2.1 (ai_km 54).2.2.1 (ai_km 54).2.2.2.1) = true ∧ plainName (ai_km 54).1.cls = true ∧ ((ai_km 54).1.cls ≠ "java/lang/invoke/MethodHandle" ∧ (ai_km 54).1.cls ≠ "java/lang/invoke/VarHandle" ∧ (parseMethodDescriptor (ai_km 54).1.desc).map (fun d => d.parameters.length) = some (ai_km 54).2.2.2.2.1) ∧ (ai_km 54).2.2.1 ≤ 60 := by decide +kernel
theorem kf54 : ai_mok 54 := ⟨ko54, GW_of (ai_wat_in kd54) ke54.1, ke54.2.1, ke54.2.2.1, ke54.2.2.2⟩
theorem kg54 : ∀ a, a < 55 → ai_mok a := lt_s kg53 kf54
theorem ko55 : ai_okm 55 = true := by decide +kernel
theorem kd55 : ai_wat (3, 210) = some (Cond.code (ai_km 55).1 (ai_km 55).2.1 (ai_km 55).2.2.1 (ai_km 55).2.2.2.1) := by rfl
theorem ke55 : goodWord (Cond.code (ai_km 55).1 (ai_km 55).2.1 (ai_km 55).2.2.1 (ai_km 55).2.2.2.1) = true ∧ plainName (ai_km 55).1.cls = true ∧ ((ai_km 55).1.cls ≠ "java/lang/invoke/MethodHandle" ∧ (ai_km 55).1.cls ≠ "java/lang/invoke/VarHandle" ∧ (parseMethodDescriptor (ai_km 55).1.desc).map (fun d => d.parameters.length) = some (ai_km 55).2.2.2.2.1) ∧ (ai_km 55).2.2.1 ≤ 60 := by decide +kernel
theorem kf55 : ai_mok 55 := ⟨ko55, GW_of (ai_wat_in kd55) ke55.1, ke55.2.1, ke55.2.2.1, ke55.2.2.2⟩
theorem kg55 : ∀ a, a < 56 → ai_mok a := lt_s kg54 kf55
theorem ko56 : ai_okm 56 = true := by decide +kernel
theorem kd56 : ai_wat (4, 43) = some (Cond.code (ai_km 56).1 (ai_km 56).2.1 (ai_km 56).2.2.1 (ai_km 56).2.2.2.1) := by rfl
theorem ke56 : goodWord (Cond.code (ai_km 56).1 (ai_km 56).2.1 (ai_km 56).2.2.1 (ai_km 56).2.2.2.1) = true ∧ plainName (ai_km 56).1.cls = true ∧ ((ai_km 56).1.cls ≠ "java/lang/invoke/MethodHandle" ∧ (ai_km 56).1.cls ≠ "java/lang/invoke/VarHandle" ∧ (parseMethodDescriptor (ai_km 56).1.desc).map (fun d => d.parameters.length) = some (ai_km 56).2.2.2.2.1) ∧ (ai_km 56).2.2.1 ≤ 60 := by decide +kernel
theorem kf56 : ai_mok 56 := ⟨ko56, GW_of (ai_wat_in kd56) ke56.1, ke56.2.1, ke56.2.2.1, ke56.2.2.2⟩
theorem kg56 : ∀ a, a < 57 → ai_mok a := lt_s kg55 kf56
theorem ko57 : ai_okm 57 = true := by decide +kernel
theorem kd57 : ai_wat (4, 38) = some (Cond.code (ai_km 57).1 (ai_km 57).2.1 (ai_km 57).2.2.1 (ai_km 57).2.2.2.1) := by rfl
theorem ke57 : goodWord (Cond.code (ai_km 57).1 (ai_km 57).2.1 (ai_km 57).2.2.1 (ai_km 57).2.2.2.1) = true ∧ plainName (ai_km 57).1.cls = true ∧ ((ai_km 57).1.cls ≠ "java/lang/invoke/MethodHandle" ∧ (ai_km 57).1.cls ≠ "java/lang/invoke/VarHandle" ∧ (parseMethodDescriptor (ai_km 57).1.desc).map (fun d => d.parameters.length) = some (ai_km 57).2.2.2.2.1) ∧ (ai_km 57).2.2.1 ≤ 60 := by decide +kernel
theorem kf57 : ai_mok 57 := ⟨ko57, GW_of (ai_wat_in kd57) ke57.1, ke57.2.1, ke57.2.2.1, ke57.2.2.2⟩
theorem kg57 : ∀ a, a < 58 → ai_mok a := lt_s kg56 kf57
theorem ko58 : ai_okm 58 = true := by decide +kernel
theorem kd58 : ai_wat (4, 34) = some (Cond.code (ai_km 58).1 (ai_km 58).2.1 (ai_km 58).2.2.1 (ai_km 58).2.2.2.1) := by rfl
theorem ke58 : goodWord (Cond.code (ai_km 58).1 (ai_km 58).2.1 (ai_km 58).2.2.1 (ai_km 58).2.2.2.1) = true ∧ plainName (ai_km 58).1.cls = true ∧ ((ai_km 58).1.cls ≠ "java/lang/invoke/MethodHandle" ∧ (ai_km 58).1.cls ≠ "java/lang/invoke/VarHandle" ∧ (parseMethodDescriptor (ai_km 58).1.desc).map (fun d => d.parameters.length) = some (ai_km 58).2.2.2.2.1) ∧ (ai_km 58).2.2.1 ≤ 60 := by decide +kernel
theorem kf58 : ai_mok 58 := ⟨ko58, GW_of (ai_wat_in kd58) ke58.1, ke58.2.1, ke58.2.2.1, ke58.2.2.2⟩
theorem kg58 : ∀ a, a < 59 → ai_mok a := lt_s kg57 kf58
theorem ko59 : ai_okm 59 = true := by decide +kernel
theorem kd59 : ai_wat (3, 158) = some (Cond.code (ai_km 59).1 (ai_km 59).2.1 (ai_km 59).2.2.1 (ai_km 59).2.2.2.1) := by rfl
theorem ke59 : goodWord (Cond.code (ai_km 59).1 (ai_km 59).2.1 (ai_km 59).2.2.1 (ai_km 59).2.2.2.1) = true ∧ plainName (ai_km 59).1.cls = true ∧ ((ai_km 59).1.cls ≠ "java/lang/invoke/MethodHandle" ∧ (ai_km 59).1.cls ≠ "java/lang/invoke/VarHandle" ∧ (parseMethodDescriptor (ai_km 59).1.desc).map (fun d => d.parameters.length) = some (ai_km 59).2.2.2.2.1) ∧ (ai_km 59).2.2.1 ≤ 60 := by decide +kernel
theorem kf59 : ai_mok 59 := ⟨ko59, GW_of (ai_wat_in kd59) ke59.1, ke59.2.1, ke59.2.2.1, ke59.2.2.2⟩
theorem kg59 : ∀ a, a < 60 → ai_mok a := lt_s kg58 kf59
theorem ko60 : ai_okm 60 = true := by decide +kernel
theorem kd60 : ai_wat (3, 162) = some (Cond.code (ai_km 60).1 (ai_km 60).2.1 (ai_km 60).2.2.1 (ai_km 60).2.2.2.1) := by rfl
theorem ke60 : goodWord (Cond.code (ai_km 60).1 (ai_km 60).2.1 (ai_km 60).2.2.1 (ai_km 60).2.2.2.1) = true ∧ plainName (ai_km 60).1.cls = true ∧ ((ai_km 60).1.cls ≠ "java/lang/invoke/MethodHandle" ∧ (ai_km 60).1.cls ≠ "java/lang/invoke/VarHandle" ∧ (parseMethodDescriptor (ai_km 60).1.desc).map (fun d => d.parameters.length) = some (ai_km 60).2.2.2.2.1) ∧ (ai_km 60).2.2.1 ≤ 60 := by decide +kernel
theorem kf60 : ai_mok 60 := ⟨ko60, GW_of (ai_wat_in kd60) ke60.1, ke60.2.1, ke60.2.2.1, ke60.2.2.2⟩
theorem kg60 : ∀ a, a < 61 → ai_mok a := lt_s kg59 kf60
theorem ko61 : ai_okm 61 = true := by decide +kernel
theorem kd61 : ai_wat (4, 56) = some (Cond.code (ai_km 61).1 (ai_km 61).2.1 (ai_km 61).2.2.1 (ai_km 61).2.2.2.1) := by rfl
theorem ke61 : goodWord (Cond.code (ai_km 61).1 (ai_km 61).2.1 (ai_km 61).2.2.1 (ai_km 61).2.2.2.1) = true ∧ plainName (ai_km 61).1.cls = true ∧ ((ai_km 61).1.cls ≠ "java/lang/invoke/MethodHandle" ∧ (ai_km 61).1.cls ≠ "java/lang/invoke/VarHandle" ∧ (parseMethodDescriptor (ai_km 61).1.desc).map (fun d => d.parameters.length) = some (ai_km 61).2.2.2.2.1) ∧ (ai_km 61).2.2.1 ≤ 60 := by decide +kernel
theorem kf61 : ai_mok 61 := ⟨ko61, GW_of (ai_wat_in kd61) ke61.1, ke61.2.1, ke61.2.2.1, ke61.2.2.2⟩
theorem kg61 : ∀ a, a < 62 → ai_mok a := lt_s kg60 kf61
theorem ko62 : ai_okm 62 = true := by decide +kernel
theorem kd62 : ai_wat (4, 50) = some (Cond.code (ai_km 62).1 (ai_km 62).2.1 (ai_km 62).2.2.1 (ai_km 62).2.2.2.1) := by rfl
theorem ke62 : goodWord (Cond.code (ai_km 62).1 (ai_km 62).2.1 (ai_km 62).2.2.1 (ai_km 62).2.2.2.1) = true ∧ plainName (ai_km 62).1.cls = true ∧ ((ai_km 62).1.cls ≠ "java/lang/invoke/MethodHandle" ∧ (ai_km 62).1.cls ≠ "java/lang/invoke/VarHandle" ∧ (parseMethodDescriptor (ai_km 62).1.desc).map (fun d => d.parameters.length) = some (ai_km 62).2.2.2.2.1) ∧ (ai_km 62).2.2.1 ≤ 60 := by decide +kernel
theorem kf62 : ai_mok 62 := ⟨ko62, GW_of (ai_wat_in kd62) ke62.1, ke62.2.1, ke62.2.2.1, ke62.2.2.2⟩
theorem kg62 : ∀ a, a < 63 → ai_mok a := lt_s kg61 kf62
theorem ko63 : ai_okm 63 = true := by decide +kernel
theorem kd63 : ai_wat (1, 217) = some (Cond.code (ai_km 63).1 (ai_km 63).2.1 (ai_km 63).2.2.1 (ai_km 63).2.2.2.1) := by rfl
theorem ke63 : goodWord (Cond.code (ai_km 63).1 (ai_km 63).2.1 (ai_km 63).2.2.1 (ai_km 63).2.2.2.1) = true ∧ plainName (ai_km 63).1.cls = true ∧ ((ai_km 63).1.cls ≠ "java/lang/invoke/MethodHandle" ∧ (ai_km 63).1.cls ≠ "java/lang/invoke/VarHandle" ∧ (parseMethodDescriptor (ai_km 63).1.desc).map (fun d => d.parameters.length) = some (ai_km 63).2.2.2.2.1) ∧ (ai_km 63).2.2.1 ≤ 60 := by decide +kernel
theorem kf63 : ai_mok 63 := ⟨ko63, GW_of (ai_wat_in kd63) ke63.1, ke63.2.1, ke63.2.2.1, ke63.2.2.2⟩
theorem kg63 : ∀ a, a < 64 → ai_mok a := lt_s kg62 kf63
