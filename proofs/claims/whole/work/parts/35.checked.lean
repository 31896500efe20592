/-! ===== more methods checked ===== -/
theorem ko64 : ai_okm 64 = true := by decide +kernel
theorem kd64 : ai_wat (3, 154) = some (Cond.code (ai_km 64).1 (ai_km 64).2.1 (ai_km 64).2.2.1 (ai_km 64).2.2.2.1) := by rfl
theorem ke64 : goodWord (Cond.code (ai_km 64).1 (ai_km 64).2.1 (ai_km 64).2.2.1 (ai_km 64).2.2.2.1) = true ∧ plainName (ai_km 64).1.cls = true ∧ ((ai_km 64).1.cls ≠ "java/lang/invoke/MethodHandle" ∧ (ai_km 64).1.cls ≠ "java/lang/invoke/VarHandle" ∧ (parseMethodDescriptor (ai_km 64).1.desc).map (fun d => d.parameters.length) = some (ai_km 64).2.2.2.2.1) ∧ (ai_km 64).2.2.1 ≤ 60 := by decide +kernel
theorem kf64 : ai_mok 64 := ⟨ko64, GW_of (ai_wat_in kd64) ke64.1, ke64.2.1, ke64.2.2.1, ke64.2.2.2⟩
theorem kg64 : ∀ a, a < 65 → ai_mok a := lt_s kg63 kf64
theorem ko65 : ai_okm 65 = true := by decide +kernel
theorem kd65 : ai_wat (3, 150) = some (Cond.code (ai_km 65).1 (ai_km 65).2.1 (ai_km 65).2.2.1 (ai_km 65).2.2.2.1) := by rfl
theorem ke65 : goodWord (Cond.code (ai_km 65).1 (ai_km 65).2.1 (ai_km 65).2.2.1 (ai_km 65).2.2.2.1) = true ∧ plainName (ai_km 65).1.cls = true ∧ ((ai_km 65).1.cls ≠ "java/lang/invoke/MethodHandle" ∧ (ai_km 65).1.cls ≠ "java/lang/invoke/VarHandle" ∧ (parseMethodDescriptor (ai_km 65).1.desc).map (fun d => d.parameters.length) = some (ai_km 65).2.2.2.2.1) ∧ (ai_km 65).2.2.1 ≤ 60 := by decide +kernel
theorem kf65 : ai_mok 65 := ⟨ko65, GW_of (ai_wat_in kd65) ke65.1, ke65.2.1, ke65.2.2.1, ke65.2.2.2⟩
theorem kg65 : ∀ a, a < 66 → ai_mok a := lt_s kg64 kf65
theorem ko66 : ai_okm 66 = true := by decide +kernel
theorem kd66 : ai_wat (3, 227) = some (Cond.code (ai_km 66).1 (ai_km 66).2.1 (ai_km 66).2.2.1 (ai_km 66).2.2.2.1) := by rfl
theorem ke66 : goodWord (Cond.code (ai_km 66).1 (ai_km 66).2.1 (ai_km 66).2.2.1 (ai_km 66).2.2.2.1) = true ∧ plainName (ai_km 66).1.cls = true ∧ ((ai_km 66).1.cls ≠ "java/lang/invoke/MethodHandle" ∧ (ai_km 66).1.cls ≠ "java/lang/invoke/VarHandle" ∧ (parseMethodDescriptor (ai_km 66).1.desc).map (fun d => d.parameters.length) = some (ai_km 66).2.2.2.2.1) ∧ (ai_km 66).2.2.1 ≤ 60 := by decide +kernel
theorem kf66 : ai_mok 66 := ⟨ko66, GW_of (ai_wat_in kd66) ke66.1, ke66.2.1, ke66.2.2.1, ke66.2.2.2⟩
theorem kg66 : ∀ a, a < 67 → ai_mok a := lt_s kg65 kf66
theorem ko67 : ai_okm 67 = true := by decide +kernel
theorem kd67 : ai_wat (1, 107) = some (Cond.code (ai_km 67).1 (ai_km 67).2.1 (ai_km 67).2.2.1 (ai_km 67).2.2.2.1) := by rfl
theorem ke67 : goodWord (Cond.code (ai_km 67).1 (ai_km 67).2.1 (ai_km 67).2.2.1 (ai_km 67).2.2.2.1) = true ∧ plainName (ai_km 67).1.cls = true ∧ ((ai_km 67).1.cls ≠ "java/lang/invoke/MethodHandle" ∧ (ai_km 67).1.cls ≠ "java/lang/invoke/VarHandle" ∧ (parseMethodDescriptor (ai_km 67).1.desc).map (fun d => d.parameters.length) = some (ai_km 67).2.2.2.2.1) ∧ (ai_km 67).2.2.1 ≤ 60 := by decide +kernel
theorem kf67 : ai_mok 67 := ⟨ko67, GW_of (ai_wat_in kd67) ke67.1, ke67.2.1, ke67.2.2.1, ke67.2.2.2⟩
theorem kg67 : ∀ a, a < 68 → ai_mok a := lt_s kg66 kf67
theorem ko68 : ai_okm 68 = true := by decide +kernel
theorem kd68 : ai_wat (3, 15) = some (Cond.code (ai_km 68).1 (ai_km 68).2.1 (ai_km 68).2.2.1 (ai_km 68).2.2.2.1) := by rfl
theorem ke68 : goodWord (Cond.code (ai_km 68).1 (ai_km 68).2.1 (ai_km 68).2.2.1 (ai_km 68).2.2.2.1) = true ∧ plainName (ai_km 68).1.cls = true ∧ ((ai_km 68).1.cls ≠ "java/lang/invoke/MethodHandle" ∧ (ai_km 68).1.cls ≠ "java/lang/invoke/VarHandle" ∧ (parseMethodDescriptor (ai_km 68).1.desc).map (fun d => d.parameters.length) = some (ai_km 68).2.2.2.2.1) ∧ (ai_km 68).2.2.1 ≤ 60 := by decide +kernel
theorem kf68 : ai_mok 68 := ⟨ko68, GW_of (ai_wat_in kd68) ke68.1, ke68.2.1, ke68.2.2.1, ke68.2.2.2⟩
theorem kg68 : ∀ a, a < 69 → ai_mok a := lt_s kg67 kf68
theorem ko69 : ai_okm 69 = true := by decide +kernel
theorem kd69 : ai_wat (3, 29) = some (Cond.code (ai_km 69).1 (ai_km 69).2.1 (ai_km 69).2.2.1 (ai_km 69).2.2.2.1) := by rfl
theorem ke69 : goodWord (Cond.code (ai_km 69).1 (ai_km 69).2.1 (ai_km 69).2.2.1 (ai_km 69).2.2.2.1) = true ∧ plainName (ai_km 69).1.cls = true ∧ ((ai_km 69).1.cls ≠ "java/lang/invoke/MethodHandle" ∧ (ai_km 69).1.cls ≠ "java/lang/invoke/VarHandle" ∧ (parseMethodDescriptor (ai_km 69).1.desc).map (fun d => d.parameters.length) = some (ai_km 69).2.2.2.2.1) ∧ (ai_km 69).2.2.1 ≤ 60 := by decide +kernel
theorem kf69 : ai_mok 69 := ⟨ko69, GW_of (ai_wat_in kd69) ke69.1, ke69.2.1, ke69.2.2.1, ke69.2.2.2⟩
theorem kg69 : ∀ a, a < 70 → ai_mok a := lt_s kg68 kf69
theorem ko70 : ai_okm 70 = true := by decide +kernel
theorem kd70 : ai_wat (3, 25) = some (Cond.code (ai_km 70).1 (ai_km 70).2.1 (ai_km 70).2.2.1 (ai_km 70).2.2.2.1) := by rfl
theorem ke70 : goodWord (Cond.code (ai_km 70).1 (ai_km 70).2.1 (ai_km 70).2.2.1 (ai_km 70).2.2.2.1) = true ∧ plainName (ai_km 70).1.cls = true ∧ ((ai_km 70).1.cls ≠ "java/lang/invoke/MethodHandle" ∧ (ai_km 70).1.cls ≠ "java/lang/invoke/VarHandle" ∧ (parseMethodDescriptor (ai_km 70).1.desc).map (fun d => d.parameters.length) = some (ai_km 70).2.2.2.2.1) ∧ (ai_km 70).2.2.1 ≤ 60 := by decide +kernel
theorem kf70 : ai_mok 70 := ⟨ko70, GW_of (ai_wat_in kd70) ke70.1, ke70.2.1, ke70.2.2.1, ke70.2.2.2⟩
theorem kg70 : ∀ a, a < 71 → ai_mok a := lt_s kg69 kf70
theorem ko71 : ai_okm 71 = true := by decide +kernel
theorem kd71 : ai_wat (3, 20) = some (Cond.code (ai_km 71).1 (ai_km 71).2.1 (ai_km 71).2.2.1 (ai_km 71).2.2.2.1) := by rfl
theorem ke71 : goodWord (Cond.code (ai_km 71).1 (ai_km 71).2.1 (ai_km 71).2.2.1 (ai_km 71).2.2.2.1) = true ∧ plainName (ai_km 71).1.cls = true ∧ ((ai_km 71).1.cls ≠ "java/lang/invoke/MethodHandle" ∧ (ai_km 71).1.cls ≠ "java/lang/invoke/VarHandle" ∧ (parseMethodDescriptor (ai_km 71).1.desc).map (fun d => d.parameters.length) = some (ai_km 71).2.2.2.2.1) ∧ (ai_km 71).2.2.1 ≤ 60 := by decide +kernel
theorem kf71 : ai_mok 71 := ⟨ko71, GW_of (ai_wat_in kd71) ke71.1, ke71.2.1, ke71.2.2.1, ke71.2.2.2⟩
theorem kg71 : ∀ a, a < 72 → ai_mok a := lt_s kg70 kf71
theorem ko72 : ai_okm 72 = true := by decide +kernel
theorem kd72 : ai_wat (3, 11) = some (Cond.code (ai_km 72).1 (ai_km 72).2.1 (ai_km 72).2.2.1 (ai_km 72).2.2.2.1) := by rfl
theorem ke72 : goodWord (Cond.code (ai_km 72).1 (ai_km 72).2.1 (ai_km 72).2.2.1 (ai_km 72).2.2.2.1) = true ∧ plainName (ai_km 72).1.cls = true ∧ ((ai_km 72).1.cls ≠ "java/lang/invoke/MethodHandle" ∧ (ai_km 72).1.cls ≠ "java/lang/invoke/VarHandle" ∧ (parseMethodDescriptor (ai_km 72).1.desc).map (fun d => d.parameters.length) = some (ai_km 72).2.2.2.2.1) ∧ (ai_km 72).2.2.1 ≤ 60 := by decide +kernel
theorem kf72 : ai_mok 72 := ⟨ko72, GW_of (ai_wat_in kd72) ke72.1, ke72.2.1, ke72.2.2.1, ke72.2.2.2⟩
theorem kg72 : ∀ a, a < 73 → ai_mok a := lt_s kg71 kf72
theorem ko73 : ai_okm 73 = true := by decide +kernel
theorem kd73 : ai_wat (3, 7) = some (Cond.code (ai_km 73).1 (ai_km 73).2.1 (ai_km 73).2.2.1 (ai_km 73).2.2.2.1) := by rfl
theorem ke73 : goodWord (Cond.code (ai_km 73).1 (ai_km 73).2.1 (ai_km 73).2.2.1 (ai_km 73).2.2.2.1) = true ∧ plainName (ai_km 73).1.cls = true ∧ ((ai_km 73).1.cls ≠ "java/lang/invoke/MethodHandle" ∧ (ai_km 73).1.cls ≠ "java/lang/invoke/VarHandle" ∧ (parseMethodDescriptor (ai_km 73).1.desc).map (fun d => d.parameters.length) = some (ai_km 73).2.2.2.2.1) ∧ (ai_km 73).2.2.1 ≤ 60 := by decide +kernel
theorem kf73 : ai_mok 73 := ⟨ko73, GW_of (ai_wat_in kd73) ke73.1, ke73.2.1, ke73.2.2.1, ke73.2.2.2⟩
theorem kg73 : ∀ a, a < 74 → ai_mok a := lt_s kg72 kf73
theorem ko74 : ai_okm 74 = true := by decide +kernel
theorem kd74 : ai_wat (3, 3) = some (Cond.code (ai_km 74).1 (ai_km 74).2.1 (ai_km 74).2.2.1 (ai_km 74).2.2.2.1) := by rfl
theorem ke74 : goodWord (Cond.code (ai_km 74).1 (ai_km 74).2.1 (ai_km 74).2.2.1 (ai_km 74).2.2.2.1) = true ∧ plainName (ai_km 74).1.cls = true ∧ ((ai_km 74).1.cls ≠ "java/lang/invoke/MethodHandle" ∧ (ai_km 74).1.cls ≠ "java/lang/invoke/VarHandle" ∧ (parseMethodDescriptor (ai_km 74).1.desc).map (fun d => d.parameters.length) = some (ai_km 74).2.2.2.2.1) ∧ (ai_km 74).2.2.1 ≤ 60 := by decide +kernel
theorem kf74 : ai_mok 74 := ⟨ko74, GW_of (ai_wat_in kd74) ke74.1, ke74.2.1, ke74.2.2.1, ke74.2.2.2⟩
theorem kg74 : ∀ a, a < 75 → ai_mok a := lt_s kg73 kf74
theorem ko75 : ai_okm 75 = true := by decide +kernel
theorem kd75 : ai_wat (2, 239) = some (Cond.code (ai_km 75).1 (ai_km 75).2.1 (ai_km 75).2.2.1 (ai_km 75).2.2.2.1) := by rfl
theorem ke75 : goodWord (Cond.code (ai_km 75).1 (ai_km 75).2.1 (ai_km 75).2.2.1 (ai_km 75).2.2.2.1) = true ∧ plainName (ai_km 75).1.cls = true ∧ ((ai_km 75).1.cls ≠ "java/lang/invoke/MethodHandle" ∧ (ai_km 75).1.cls ≠ "java/lang/invoke/VarHandle" ∧ (parseMethodDescriptor (ai_km 75).1.desc).map (fun d => d.parameters.length) = some (ai_km 75).2.2.2.2.1) ∧ (ai_km 75).2.2.1 ≤ 60 := by decide +kernel
theorem kf75 : ai_mok 75 := ⟨ko75, GW_of (ai_wat_in kd75) ke75.1, ke75.2.1, ke75.2.2.1, ke75.2.2.2⟩
theorem kg75 : ∀ a, a < 76 → ai_mok a := lt_s kg74 kf75
theorem ko76 : ai_okm 76 = true := by decide +kernel
theorem kd76 : ai_wat (2, 235) = some (Cond.code (ai_km 76).1 (ai_km 76).2.1 (ai_km 76).2.2.1 (ai_km 76).2.2.2.1) := by rfl
theorem ke76 : goodWord (Cond.code (ai_km 76).1 (ai_km 76).2.1 (ai_km 76).2.2.1 (ai_km 76).2.2.2.1) = true ∧ plainName (ai_km 76).1.cls = true ∧ ((ai_km 76).1.cls ≠ "java/lang/invoke/MethodHandle" ∧ (ai_km 76).1.cls ≠ "java/lang/invoke/VarHandle" ∧ (parseMethodDescriptor (ai_km 76).1.desc).map (fun d => d.parameters.length) = some (ai_km 76).2.2.2.2.1) ∧ (ai_km 76).2.2.1 ≤ 60 := by decide +kernel
theorem kf76 : ai_mok 76 := ⟨ko76, GW_of (ai_wat_in kd76) ke76.1, ke76.2.1, ke76.2.2.1, ke76.2.2.2⟩
theorem kg76 : ∀ a, a < 77 → ai_mok a := lt_s kg75 kf76
theorem ko77 : ai_okm 77 = true := by decide +kernel
theorem kd77 : ai_wat (5, 111) = some (Cond.code (ai_km 77).1 (ai_km 77).2.1 (ai_km 77).2.2.1 (ai_km 77).2.2.2.1) := by rfl
theorem ke77 : goodWord (Cond.code (ai_km 77).1 (ai_km 77).2.1 (ai_km 77).2.2.1 (ai_km 77).2.2.2.1) = true ∧ plainName (ai_km 77).1.cls = true ∧ ((ai_km 77).1.cls ≠ "java/lang/invoke/MethodHandle" ∧ (ai_km 77).1.cls ≠ "java/lang/invoke/VarHandle" ∧ (parseMethodDescriptor (ai_km 77).1.desc).map (fun d => d.parameters.length) = some (ai_km 77).2.2.2.2.1) ∧ (ai_km 77).2.2.1 ≤ 60 := by decide +kernel
theorem kf77 : ai_mok 77 := ⟨ko77, GW_of (ai_wat_in kd77) ke77.1, ke77.2.1, ke77.2.2.1, ke77.2.2.2⟩
theorem kg77 : ∀ a, a < 78 → ai_mok a := lt_s kg76 kf77
theorem ko78 : ai_okm 78 = true := by decide +kernel
theorem kd78 : ai_wat (1, 39) = some (Cond.code (ai_km 78).1 (ai_km 78).2.1 (ai_km 78).2.2.1 (ai_km 78).2.2.2.1) := by rfl
theorem ke78 : goodWord (Cond.code (ai_km 78).1 (ai_km 78).2.1 (ai_km 78).2.2.1 (ai_km 78).2.2.2.1) = true ∧ plainName (ai_km 78).1.cls = true ∧ ((ai_km 78).1.cls ≠ "java/lang/invoke/MethodHandle" ∧ (ai_km 78).1.cls ≠ "java/lang/invoke/VarHandle" ∧ (parseMethodDescriptor (ai_km 78).1.desc).map (fun d => d.parameters.length) = some (ai_km 78).2.2.2.2.1) ∧ (ai_km 78).2.2.1 ≤ 60 := by decide +kernel
theorem kf78 : ai_mok 78 := ⟨ko78, GW_of (ai_wat_in kd78) ke78.1, ke78.2.1, ke78.2.2.1, ke78.2.2.2⟩
theorem kg78 : ∀ a, a < 79 → ai_mok a := lt_s kg77 kf78
theorem ko79 : ai_okm 79 = true := by decide +kernel
theorem kd79 : ai_wat (2, 178) = some (Cond.code (ai_km 79).1 (ai_km 79).2.1 (ai_km 79).2.2.1 (ai_km 79).2.2.2.1) := by rfl
theorem ke79 : goodWord (Cond.code (ai_km 79).1 (ai_km 79).2.1 (ai_km 79).2.2.1 (ai_km 79).2.2.2.1) = true ∧ plainName (ai_km 79).1.cls = true ∧ ((ai_km 79).1.cls ≠ "java/lang/invoke/MethodHandle" ∧ (ai_km 79).1.cls ≠ "java/lang/invoke/VarHandle" ∧ (parseMethodDescriptor (ai_km 79).1.desc).map (fun d => d.parameters.length) = some (ai_km 79).2.2.2.2.1) ∧ (ai_km 79).2.2.1 ≤ 60 := by decide +kernel
theorem kf79 : ai_mok 79 := ⟨ko79, GW_of (ai_wat_in kd79) ke79.1, ke79.2.1, ke79.2.2.1, ke79.2.2.2⟩
theorem kg79 : ∀ a, a < 80 → ai_mok a := lt_s kg78 kf79
theorem ko80 : ai_okm 80 = true := by decide +kernel
theorem kd80 : ai_wat (2, 186) = some (Cond.code (ai_km 80).1 (ai_km 80).2.1 (ai_km 80).2.2.1 (ai_km 80).2.2.2.1) := by rfl
theorem ke80 : goodWord (Cond.code (ai_km 80).1 (ai_km 80).2.1 (ai_km 80).2.2.1 (ai_km 80).2.2.2.1) = true ∧ plainName (ai_km 80).1.cls = true ∧ ((ai_km 80).1.cls ≠ "java/lang/invoke/MethodHandle" ∧ (ai_km 80).1.cls ≠ "java/lang/invoke/VarHandle" ∧ (parseMethodDescriptor (ai_km 80).1.desc).map (fun d => d.parameters.length) = some (ai_km 80).2.2.2.2.1) ∧ (ai_km 80).2.2.1 ≤ 60 := by decide +kernel
theorem kf80 : ai_mok 80 := ⟨ko80, GW_of (ai_wat_in kd80) ke80.1, ke80.2.1, ke80.2.2.1, ke80.2.2.2⟩
theorem kg80 : ∀ a, a < 81 → ai_mok a := lt_s kg79 kf80
theorem ko81 : ai_okm 81 = true := by decide +kernel
theorem kd81 : ai_wat (2, 227) = some (Cond.code (ai_km 81).1 (ai_km 81).2.1 (ai_km 81).2.2.1 (ai_km 81).2.2.2.1) := by rfl
theorem ke81 : goodWord (Cond.code (ai_km 81).1 (ai_km 81).2.1 (ai_km 81).2.2.1 (ai_km 81).2.2.2.1) = true ∧ plainName (ai_km 81).1.cls = true ∧ ((ai_km 81).1.cls ≠ "java/lang/invoke/MethodHandle" ∧ (ai_km 81).1.cls ≠ "java/lang/invoke/VarHandle" ∧ (parseMethodDescriptor (ai_km 81).1.desc).map (fun d => d.parameters.length) = some (ai_km 81).2.2.2.2.1) ∧ (ai_km 81).2.2.1 ≤ 60 := by decide +kernel
theorem kf81 : ai_mok 81 := ⟨ko81, GW_of (ai_wat_in kd81) ke81.1, ke81.2.1, ke81.2.2.1, ke81.2.2.2⟩
theorem kg81 : ∀ a, a < 82 → ai_mok a := lt_s kg80 kf81
theorem ko82 : ai_okm 82 = true := by decide +kernel
theorem kd82 : ai_wat (1, 151) = some (Cond.code (ai_km 82).1 (ai_km 82).2.1 (ai_km 82).2.2.1 (ai_km 82).2.2.2.1) := by rfl
theorem ke82 : goodWord (Cond.code (ai_km 82).1 (ai_km 82).2.1 (ai_km 82).2.2.1 (ai_km 82).2.2.2.1) = true ∧ plainName (ai_km 82).1.cls = true ∧ ((ai_km 82).1.cls ≠ "java/lang/invoke/MethodHandle" ∧ (ai_km 82).1.cls ≠ "java/lang/invoke/VarHandle" ∧ (parseMethodDescriptor (ai_km 82).1.desc).map (fun d => d.parameters.length) = some (ai_km 82).2.2.2.2.1) ∧ (ai_km 82).2.2.1 ≤ 60 := by decide +kernel
theorem kf82 : ai_mok 82 := ⟨ko82, GW_of (ai_wat_in kd82) ke82.1, ke82.2.1, ke82.2.2.1, ke82.2.2.2⟩
theorem kg82 : ∀ a, a < 83 → ai_mok a := lt_s kg81 kf82
theorem ko83 : ai_okm 83 = true := by decide +kernel
theorem kd83 : ai_wat (2, 67) = some (Cond.code (ai_km 83).1 (ai_km 83).2.1 (ai_km 83).2.2.1 (ai_km 83).2.2.2.1) := by rfl
theorem ke83 : goodWord (Cond.code (ai_km 83).1 (ai_km 83).2.1 (ai_km 83).2.2.1 (ai_km 83).2.2.2.1) = true ∧ plainName (ai_km 83).1.cls = true ∧ ((ai_km 83).1.cls ≠ "java/lang/invoke/MethodHandle" ∧ (ai_km 83).1.cls ≠ "java/lang/invoke/VarHandle" ∧ (parseMethodDescriptor (ai_km 83).1.desc).map (fun d => d.parameters.length) = some (ai_km 83).2.2.2.2.1) ∧ (ai_km 83).2.2.1 ≤ 60 := by decide +kernel
theorem kf83 : ai_mok 83 := ⟨ko83, GW_of (ai_wat_in kd83) ke83.1, ke83.2.1, ke83.2.2.1, ke83.2.2.2⟩
theorem kg83 : ∀ a, a < 84 → ai_mok a := lt_s kg82 kf83
theorem ko84 : ai_okm 84 = true := by decide +kernel
theorem kd84 : ai_wat (4, 197) = some (Cond.code (ai_km 84).1 (ai_km 84).2.1 (ai_km 84).2.2.1 (ai_km 84).2.2.2.1) := by rfl
theorem ke84 : goodWord (Cond.code (ai_km 84).1 (ai_km 84).2.1 (ai_km 84).2.2.1 (ai_km 84).2.2.2.1) = true ∧ plainName (ai_km 84).1.cls = true ∧ ((ai_km 84).1.cls ≠ "java/lang/invoke/MethodHandle" ∧ (ai_km 84).1.cls ≠ "java/lang/invoke/VarHandle" ∧ (parseMethodDescriptor (ai_km 84).1.desc).map (fun d => d.parameters.length) = some (ai_km 84).2.2.2.2.1) ∧ (ai_km 84).2.2.1 ≤ 60 := by decide +kernel
theorem kf84 : ai_mok 84 := ⟨ko84, GW_of (ai_wat_in kd84) ke84.1, ke84.2.1, ke84.2.2.1, ke84.2.2.2⟩
theorem kg84 : ∀ a, a < 85 → ai_mok a := lt_s kg83 kf84
theorem ko85 : ai_okm 85 = true := by decide +kernel
theorem kd85 : ai_wat (4, 203) = some (Cond.code (ai_km 85).1 (ai_km 85).2.1 (ai_km 85).2.2.1 (ai_km 85).2.2.2.1) := by rfl
theorem ke85 : goodWord (Cond.code (ai_km 85).1 (ai_km 85).2.1 (ai_km 85).2.2.1 (ai_km 85).2.2.2.1) = true ∧ plainName (ai_km 85).1.cls = true ∧ ((ai_km 85).1.cls ≠ "java/lang/invoke/MethodHandle" ∧ (ai_km 85).1.cls ≠ "java/lang/invoke/VarHandle" ∧ (parseMethodDescriptor (ai_km 85).1.desc).map (fun d => d.parameters.length) = some (ai_km 85).2.2.2.2.1) ∧ (ai_km 85).2.2.1 ≤ 60 := by decide +kernel
theorem kf85 : ai_mok 85 := ⟨ko85, GW_of (ai_wat_in kd85) ke85.1, ke85.2.1, ke85.2.2.1, ke85.2.2.2⟩
theorem kg85 : ∀ a, a < 86 → ai_mok a := lt_s kg84 kf85
theorem ko86 : ai_okm 86 = true := by decide +kernel
theorem kd86 : ai_wat (4, 220) = some (Cond.code (ai_km 86).1 (ai_km 86).2.1 (ai_km 86).2.2.1 (ai_km 86).2.2.2.1) := by rfl
theorem ke86 : goodWord (Cond.code (ai_km 86).1 (ai_km 86).2.1 (ai_km 86).2.2.1 (ai_km 86).2.2.2.1) = true ∧ plainName (ai_km 86).1.cls = true ∧ ((ai_km 86).1.cls ≠ "java/lang/invoke/MethodHandle" ∧ (ai_km 86).1.cls ≠ "java/lang/invoke/VarHandle" ∧ (parseMethodDescriptor (ai_km 86).1.desc).map (fun d => d.parameters.length) = some (ai_km 86).2.2.2.2.1) ∧ (ai_km 86).2.2.1 ≤ 60 := by decide +kernel
theorem kf86 : ai_mok 86 := ⟨ko86, GW_of (ai_wat_in kd86) ke86.1, ke86.2.1, ke86.2.2.1, ke86.2.2.2⟩
theorem kg86 : ∀ a, a < 87 → ai_mok a := lt_s kg85 kf86
theorem ko87 : ai_okm 87 = true := by decide +kernel
theorem kd87 : ai_wat (4, 215) = some (Cond.code (ai_km 87).1 (ai_km 87).2.1 (ai_km 87).2.2.1 (ai_km 87).2.2.2.1) := by rfl
theorem ke87 : goodWord (Cond.code (ai_km 87).1 (ai_km 87).2.1 (ai_km 87).2.2.1 (ai_km 87).2.2.2.1) = true ∧ plainName (ai_km 87).1.cls = true ∧ ((ai_km 87).1.cls ≠ "java/lang/invoke/MethodHandle" ∧ (ai_km 87).1.cls ≠ "java/lang/invoke/VarHandle" ∧ (parseMethodDescriptor (ai_km 87).1.desc).map (fun d => d.parameters.length) = some (ai_km 87).2.2.2.2.1) ∧ (ai_km 87).2.2.1 ≤ 60 := by decide +kernel
theorem kf87 : ai_mok 87 := ⟨ko87, GW_of (ai_wat_in kd87) ke87.1, ke87.2.1, ke87.2.2.1, ke87.2.2.2⟩
theorem kg87 : ∀ a, a < 88 → ai_mok a := lt_s kg86 kf87
theorem ko88 : ai_okm 88 = true := by decide +kernel
theorem kd88 : ai_wat (4, 211) = some (Cond.code (ai_km 88).1 (ai_km 88).2.1 (ai_km 88).2.2.1 (ai_km 88).2.2.2.1) := by rfl
theorem ke88 : goodWord (Cond.code (ai_km 88).1 (ai_km 88).2.1 (ai_km 88).2.2.1 (ai_km 88).2.2.2.1) = true ∧ plainName (ai_km 88).1.cls = true ∧ ((ai_km 88).1.cls ≠ "java/lang/invoke/MethodHandle" ∧ (ai_km 88).1.cls ≠ "java/lang/invoke/VarHandle" ∧ (parseMethodDescriptor (ai_km 88).1.desc).map (fun d => d.parameters.length) = some (ai_km 88).2.2.2.2.1) ∧ (ai_km 88).2.2.1 ≤ 60 := by decide +kernel
theorem kf88 : ai_mok 88 := ⟨ko88, GW_of (ai_wat_in kd88) ke88.1, ke88.2.1, ke88.2.2.1, ke88.2.2.2⟩
theorem kg88 : ∀ a, a < 89 → ai_mok a := lt_s kg87 kf88
theorem ko89 : ai_okm 89 = true := by decide +kernel
theorem kd89 : ai_wat (4, 224) = some (Cond.code (ai_km 89).1 (ai_km 89).2.1 (ai_km 89).2.2.1 (ai_km 89).2.2.2.1) := by rfl
theorem ke89 : goodWord (Cond.code (ai_km 89).1 (ai_km 89).2.1 (ai_km 89).2.2.1 (ai_km 89).2.2.2.1) = true ∧ plainName (ai_km 89).1.cls = true ∧ ((ai_km 89).1.cls ≠ "java/lang/invoke/MethodHandle" ∧ (ai_km 89).1.cls ≠ "java/lang/invoke/VarHandle" ∧ (parseMethodDescriptor (ai_km 89).1.desc).map (fun d => d.parameters.length) = some (ai_km 89).2.2.2.2.1) ∧ (ai_km 89).2.2.1 ≤ 60 := by decide +kernel
theorem kf89 : ai_mok 89 := ⟨ko89, GW_of (ai_wat_in kd89) ke89.1, ke89.2.1, ke89.2.2.1, ke89.2.2.2⟩
theorem kg89 : ∀ a, a < 90 → ai_mok a := lt_s kg88 kf89
theorem ko90 : ai_okm 90 = true := by decide +kernel
theorem kd90 : ai_wat (5, 3) = some (Cond.code (ai_km 90).1 (ai_km 90).2.1 (ai_km 90).2.2.1 (ai_km 90).2.2.2.1) := by rfl
theorem ke90 : goodWord (Cond.code (ai_km 90).1 (ai_km 90).2.1 (ai_km 90).2.2.1 (ai_km 90).2.2.2.1) = true ∧ plainName (ai_km 90).1.cls = true ∧ ((ai_km 90).1.cls ≠ "java/lang/invoke/MethodHandle" ∧ (ai_km 90).1.cls ≠ "java/lang/invoke/VarHandle" ∧ (parseMethodDescriptor (ai_km 90).1.desc).map (fun d => d.parameters.length) = some (ai_km 90).2.2.2.2.1) ∧ (ai_km 90).2.2.1 ≤ 60 := by decide +kernel
theorem kf90 : ai_mok 90 := ⟨ko90, GW_of (ai_wat_in kd90) ke90.1, ke90.2.1, ke90.2.2.1, ke90.2.2.2⟩
theorem kg90 : ∀ a, a < 91 → ai_mok a := lt_s kg89 kf90
theorem ko91 : ai_okm 91 = true := by decide +kernel
theorem kd91 : ai_wat (4, 239) = some (Cond.code (ai_km 91).1 (ai_km 91).2.1 (ai_km 91).2.2.1 (ai_km 91).2.2.2.1) := by rfl
theorem ke91 : goodWord (Cond.code (ai_km 91).1 (ai_km 91).2.1 (ai_km 91).2.2.1 (ai_km 91).2.2.2.1) = true ∧ plainName (ai_km 91).1.cls = true ∧ ((ai_km 91).1.cls ≠ "java/lang/invoke/MethodHandle" ∧ (ai_km 91).1.cls ≠ "java/lang/invoke/VarHandle" ∧ (parseMethodDescriptor (ai_km 91).1.desc).map (fun d => d.parameters.length) = some (ai_km 91).2.2.2.2.1) ∧ (ai_km 91).2.2.1 ≤ 60 := by decide +kernel
theorem kf91 : ai_mok 91 := ⟨ko91, GW_of (ai_wat_in kd91) ke91.1, ke91.2.1, ke91.2.2.1, ke91.2.2.2⟩
theorem kg91 : ∀ a, a < 92 → ai_mok a := lt_s kg90 kf91
theorem ko92 : ai_okm 92 = true := by decide +kernel
theorem kd92 : ai_wat (4, 234) = some (Cond.code (ai_km 92).1 (ai_km 92).2.1 (ai_km 92).2.2.1 (ai_km 92).2.2.2.1) := by rfl
theorem ke92 : goodWord (Cond.code (ai_km 92).1 (ai_km 92).2.1 (ai_km 92).2.2.1 (ai_km 92).2.2.2.1) = true ∧ plainName (ai_km 92).1.cls = true ∧ ((ai_km 92).1.cls ≠ "java/lang/invoke/MethodHandle" ∧ (ai_km 92).1.cls ≠ "java/lang/invoke/VarHandle" ∧ (parseMethodDescriptor (ai_km 92).1.desc).map (fun d => d.parameters.length) = some (ai_km 92).2.2.2.2.1) ∧ (ai_km 92).2.2.1 ≤ 60 := by decide +kernel
theorem kf92 : ai_mok 92 := ⟨ko92, GW_of (ai_wat_in kd92) ke92.1, ke92.2.1, ke92.2.2.1, ke92.2.2.2⟩
theorem kg92 : ∀ a, a < 93 → ai_mok a := lt_s kg91 kf92
theorem ko93 : ai_okm 93 = true := by decide +kernel
theorem kd93 : ai_wat (1, 31) = some (Cond.code (ai_km 93).1 (ai_km 93).2.1 (ai_km 93).2.2.1 (ai_km 93).2.2.2.1) := by rfl
theorem ke93 : goodWord (Cond.code (ai_km 93).1 (ai_km 93).2.1 (ai_km 93).2.2.1 (ai_km 93).2.2.2.1) = true ∧ plainName (ai_km 93).1.cls = true ∧ ((ai_km 93).1.cls ≠ "java/lang/invoke/MethodHandle" ∧ (ai_km 93).1.cls ≠ "java/lang/invoke/VarHandle" ∧ (parseMethodDescriptor (ai_km 93).1.desc).map (fun d => d.parameters.length) = some (ai_km 93).2.2.2.2.1) ∧ (ai_km 93).2.2.1 ≤ 60 := by decide +kernel
theorem kf93 : ai_mok 93 := ⟨ko93, GW_of (ai_wat_in kd93) ke93.1, ke93.2.1, ke93.2.2.1, ke93.2.2.2⟩
theorem kg93 : ∀ a, a < 94 → ai_mok a := lt_s kg92 kf93
theorem ko94 : ai_okm 94 = true := by decide +kernel
theorem kd94 : ai_wat (2, 174) = some (Cond.code (ai_km 94).1 (ai_km 94).2.1 (ai_km 94).2.2.1 (ai_km 94).2.2.2.1) := by rfl
theorem ke94 : goodWord (Cond.code (ai_km 94).1 (ai_km 94).2.1 (ai_km 94).2.2.1 (ai_km 94).2.2.2.1) = true ∧ plainName (ai_km 94).1.cls = true ∧ ((ai_km 94).1.cls ≠ "java/lang/invoke/MethodHandle" ∧ (ai_km 94).1.cls ≠ "java/lang/invoke/VarHandle" ∧ (parseMethodDescriptor (ai_km 94).1.desc).map (fun d => d.parameters.length) = some (ai_km 94).2.2.2.2.1) ∧ (ai_km 94).2.2.1 ≤ 60 := by decide +kernel
theorem kf94 : ai_mok 94 := ⟨ko94, GW_of (ai_wat_in kd94) ke94.1, ke94.2.1, ke94.2.2.1, ke94.2.2.2⟩
theorem kg94 : ∀ a, a < 95 → ai_mok a := lt_s kg93 kf94
theorem ko95 : ai_okm 95 = true := by decide +kernel
theorem kd95 : ai_wat (2, 182) = some (Cond.code (ai_km 95).1 (ai_km 95).2.1 (ai_km 95).2.2.1 (ai_km 95).2.2.2.1) := by rfl
theorem ke95 : goodWord (Cond.code (ai_km 95).1 (ai_km 95).2.1 (ai_km 95).2.2.1 (ai_km 95).2.2.2.1) = true ∧ plainName (ai_km 95).1.cls = true ∧ ((ai_km 95).1.cls ≠ "java/lang/invoke/MethodHandle" ∧ (ai_km 95).1.cls ≠ "java/lang/invoke/VarHandle" ∧ (parseMethodDescriptor (ai_km 95).1.desc).map (fun d => d.parameters.length) = some (ai_km 95).2.2.2.2.1) ∧ (ai_km 95).2.2.1 ≤ 60 := by decide +kernel
theorem kf95 : ai_mok 95 := ⟨ko95, GW_of (ai_wat_in kd95) ke95.1, ke95.2.1, ke95.2.2.1, ke95.2.2.2⟩
theorem kg95 : ∀ a, a < 96 → ai_mok a := lt_s kg94 kf95
theorem ko96 : ai_okm 96 = true := by decide +kernel
theorem kd96 : ai_wat (2, 190) = some (Cond.code (ai_km 96).1 (ai_km 96).2.1 (ai_km 96).2.2.1 (ai_km 96).2.2.2.1) := by rfl
theorem ke96 : goodWord (Cond.code (ai_km 96).1 (ai_km 96).2.1 (ai_km 96).2.2.1 (ai_km 96).2.2.2.1) = true ∧ plainName (ai_km 96).1.cls = true ∧ ((ai_km 96).1.cls ≠ "java/lang/invoke/MethodHandle" ∧ (ai_km 96).1.cls ≠ "java/lang/invoke/VarHandle" ∧ (parseMethodDescriptor (ai_km 96).1.desc).map (fun d => d.parameters.length) = some (ai_km 96).2.2.2.2.1) ∧ (ai_km 96).2.2.1 ≤ 60 := by decide +kernel
theorem kf96 : ai_mok 96 := ⟨ko96, GW_of (ai_wat_in kd96) ke96.1, ke96.2.1, ke96.2.2.1, ke96.2.2.2⟩
theorem kg96 : ∀ a, a < 97 → ai_mok a := lt_s kg95 kf96
theorem ko97 : ai_okm 97 = true := by decide +kernel
theorem kd97 : ai_wat (2, 231) = some (Cond.code (ai_km 97).1 (ai_km 97).2.1 (ai_km 97).2.2.1 (ai_km 97).2.2.2.1) := by rfl
theorem ke97 : goodWord (Cond.code (ai_km 97).1 (ai_km 97).2.1 (ai_km 97).2.2.1 (ai_km 97).2.2.2.1) = true ∧ plainName (ai_km 97).1.cls = true ∧ ((ai_km 97).1.cls ≠ "java/lang/invoke/MethodHandle" ∧ (ai_km 97).1.cls ≠ "java/lang/invoke/VarHandle" ∧ (parseMethodDescriptor (ai_km 97).1.desc).map (fun d => d.parameters.length) = some (ai_km 97).2.2.2.2.1) ∧ (ai_km 97).2.2.1 ≤ 60 := by decide +kernel
theorem kf97 : ai_mok 97 := ⟨ko97, GW_of (ai_wat_in kd97) ke97.1, ke97.2.1, ke97.2.2.1, ke97.2.2.2⟩
theorem kg97 : ∀ a, a < 98 → ai_mok a := lt_s kg96 kf97
theorem ko98 : ai_okm 98 = true := by decide +kernel
theorem kd98 : ai_wat (3, 112) = some (Cond.code (ai_km 98).1 (ai_km 98).2.1 (ai_km 98).2.2.1 (ai_km 98).2.2.2.1) := by rfl
theorem ke98 : goodWord (Cond.code (ai_km 98).1 (ai_km 98).2.1 (ai_km 98).2.2.1 (ai_km 98).2.2.2.1) = true ∧ plainName (ai_km 98).1.cls = true ∧ ((ai_km 98).1.cls ≠ "java/lang/invoke/MethodHandle" ∧ (ai_km 98).1.cls ≠ "java/lang/invoke/VarHandle" ∧ (parseMethodDescriptor (ai_km 98).1.desc).map (fun d => d.parameters.length) = some (ai_km 98).2.2.2.2.1) ∧ (ai_km 98).2.2.1 ≤ 60 := by decide +kernel
theorem kf98 : ai_mok 98 := ⟨ko98, GW_of (ai_wat_in kd98) ke98.1, ke98.2.1, ke98.2.2.1, ke98.2.2.2⟩
theorem kg98 : ∀ a, a < 99 → ai_mok a := lt_s kg97 kf98
theorem ko99 : ai_okm 99 = true := by decide +kernel
theorem kd99 : ai_wat (3, 170) = some (Cond.code (ai_km 99).1 (ai_km 99).2.1 (ai_km 99).2.2.1 (ai_km 99).2.2.2.1) := by rfl
theorem ke99 : goodWord (Cond.code (ai_km 99).1 (ai_km 99).2.1 (ai_km 99).2.2.1 (ai_km 99).2.2.2.1) = true ∧ plainName (ai_km 99).1.cls = true ∧ ((ai_km 99).1.cls ≠ "java/lang/invoke/MethodHandle" ∧ (ai_km 99).1.cls ≠ "java/lang/invoke/VarHandle" ∧ (parseMethodDescriptor (ai_km 99).1.desc).map (fun d => d.parameters.length) = some (ai_km 99).2.2.2.2.1) ∧ (ai_km 99).2.2.1 ≤ 60 := by decide +kernel
theorem kf99 : ai_mok 99 := ⟨ko99, GW_of (ai_wat_in kd99) ke99.1, ke99.2.1, ke99.2.2.1, ke99.2.2.2⟩
theorem kg99 : ∀ a, a < 100 → ai_mok a := lt_s kg98 kf99
theorem ko100 : ai_okm 100 = true := by decide +kernel
theorem kd100 : ai_wat (3, 175) = some (Cond.code (ai_km 100).1 (ai_km 100).2.1 (ai_km 100).2.2.1 (ai_km 100).2.2.2.1) := by rfl
theorem ke100 : goodWord (Cond.code (ai_km 100).1 (ai_km 100).2.1 (ai_km 100).2.2.1 (ai_km 100).2.2.2.1) = true ∧ plainName (ai_km 100).1.cls = true ∧ ((ai_km 100).1.cls ≠ "java/lang/invoke/MethodHandle" ∧ (ai_km 100).1.cls ≠ "java/lang/invoke/VarHandle" ∧ (parseMethodDescriptor (ai_km 100).1.desc).map (fun d => d.parameters.length) = some (ai_km 100).2.2.2.2.1) ∧ (ai_km 100).2.2.1 ≤ 60 := by decide +kernel
theorem kf100 : ai_mok 100 := ⟨ko100, GW_of (ai_wat_in kd100) ke100.1, ke100.2.1, ke100.2.2.1, ke100.2.2.2⟩
theorem kg100 : ∀ a, a < 101 → ai_mok a := lt_s kg99 kf100
theorem ko101 : ai_okm 101 = true := by decide +kernel
theorem kd101 : ai_wat (3, 179) = some (Cond.code (ai_km 101).1 (ai_km 101).2.1 (ai_km 101).2.2.1 (ai_km 101).2.2.2.1) := by rfl
theorem ke101 : goodWord (Cond.code (ai_km 101).1 (ai_km 101).2.1 (ai_km 101).2.2.1 (ai_km 101).2.2.2.1) = true ∧ plainName (ai_km 101).1.cls = true ∧ ((ai_km 101).1.cls ≠ "java/lang/invoke/MethodHandle" ∧ (ai_km 101).1.cls ≠ "java/lang/invoke/VarHandle" ∧ (parseMethodDescriptor (ai_km 101).1.desc).map (fun d => d.parameters.length) = some (ai_km 101).2.2.2.2.1) ∧ (ai_km 101).2.2.1 ≤ 60 := by decide +kernel
theorem kf101 : ai_mok 101 := ⟨ko101, GW_of (ai_wat_in kd101) ke101.1, ke101.2.1, ke101.2.2.1, ke101.2.2.2⟩
theorem kg101 : ∀ a, a < 102 → ai_mok a := lt_s kg100 kf101
theorem ko102 : ai_okm 102 = true := by decide +kernel
theorem kd102 : ai_wat (3, 166) = some (Cond.code (ai_km 102).1 (ai_km 102).2.1 (ai_km 102).2.2.1 (ai_km 102).2.2.2.1) := by rfl
theorem ke102 : goodWord (Cond.code (ai_km 102).1 (ai_km 102).2.1 (ai_km 102).2.2.1 (ai_km 102).2.2.2.1) = true ∧ plainName (ai_km 102).1.cls = true ∧ ((ai_km 102).1.cls ≠ "java/lang/invoke/MethodHandle" ∧ (ai_km 102).1.cls ≠ "java/lang/invoke/VarHandle" ∧ (parseMethodDescriptor (ai_km 102).1.desc).map (fun d => d.parameters.length) = some (ai_km 102).2.2.2.2.1) ∧ (ai_km 102).2.2.1 ≤ 60 := by decide +kernel
theorem kf102 : ai_mok 102 := ⟨ko102, GW_of (ai_wat_in kd102) ke102.1, ke102.2.1, ke102.2.2.1, ke102.2.2.2⟩
theorem kg102 : ∀ a, a < 103 → ai_mok a := lt_s kg101 kf102
theorem ko103 : ai_okm 103 = true := by decide +kernel
theorem kd103 : ai_wat (3, 183) = some (Cond.code (ai_km 103).1 (ai_km 103).2.1 (ai_km 103).2.2.1 (ai_km 103).2.2.2.1) := by rfl
theorem ke103 : goodWord (Cond.code (ai_km 103).1 (ai_km 103).2.1 (ai_km 103).2.2.1 (ai_km 103).2.2.2.1) = true ∧ plainName (ai_km 103).1.cls = true ∧ ((ai_km 103).1.cls ≠ "java/lang/invoke/MethodHandle" ∧ (ai_km 103).1.cls ≠ "java/lang/invoke/VarHandle" ∧ (parseMethodDescriptor (ai_km 103).1.desc).map (fun d => d.parameters.length) = some (ai_km 103).2.2.2.2.1) ∧ (ai_km 103).2.2.1 ≤ 60 := by decide +kernel
theorem kf103 : ai_mok 103 := ⟨ko103, GW_of (ai_wat_in kd103) ke103.1, ke103.2.1, ke103.2.2.1, ke103.2.2.2⟩
theorem kg103 : ∀ a, a < 104 → ai_mok a := lt_s kg102 kf103
theorem ko104 : ai_okm 104 = true := by decide +kernel
theorem kd104 : ai_wat (3, 191) = some (Cond.code (ai_km 104).1 (ai_km 104).2.1 (ai_km 104).2.2.1 (ai_km 104).2.2.2.1) := by rfl
theorem ke104 : goodWord (Cond.code (ai_km 104).1 (ai_km 104).2.1 (ai_km 104).2.2.1 (ai_km 104).2.2.2.1) = true ∧ plainName (ai_km 104).1.cls = true ∧ ((ai_km 104).1.cls ≠ "java/lang/invoke/MethodHandle" ∧ (ai_km 104).1.cls ≠ "java/lang/invoke/VarHandle" ∧ (parseMethodDescriptor (ai_km 104).1.desc).map (fun d => d.parameters.length) = some (ai_km 104).2.2.2.2.1) ∧ (ai_km 104).2.2.1 ≤ 60 := by decide +kernel
theorem kf104 : ai_mok 104 := ⟨ko104, GW_of (ai_wat_in kd104) ke104.1, ke104.2.1, ke104.2.2.1, ke104.2.2.2⟩
theorem kg104 : ∀ a, a < 105 → ai_mok a := lt_s kg103 kf104
theorem ko105 : ai_okm 105 = true := by decide +kernel
theorem kd105 : ai_wat (3, 188) = some (Cond.code (ai_km 105).1 (ai_km 105).2.1 (ai_km 105).2.2.1 (ai_km 105).2.2.2.1) := by rfl
theorem ke105 : goodWord (Cond.code (ai_km 105).1 (ai_km 105).2.1 (ai_km 105).2.2.1 (ai_km 105).2.2.2.1) = true ∧ plainName (ai_km 105).1.cls = true ∧ ((ai_km 105).1.cls ≠ "java/lang/invoke/MethodHandle" ∧ (ai_km 105).1.cls ≠ "java/lang/invoke/VarHandle" ∧ (parseMethodDescriptor (ai_km 105).1.desc).map (fun d => d.parameters.length) = some (ai_km 105).2.2.2.2.1) ∧ (ai_km 105).2.2.1 ≤ 60 := by decide +kernel
theorem kf105 : ai_mok 105 := ⟨ko105, GW_of (ai_wat_in kd105) ke105.1, ke105.2.1, ke105.2.2.1, ke105.2.2.2⟩
theorem kg105 : ∀ a, a < 106 → ai_mok a := lt_s kg104 kf105
theorem ko106 : ai_okm 106 = true := by decide +kernel
theorem kd106 : ai_wat (3, 196) = some (Cond.code (ai_km 106).1 (ai_km 106).2.1 (ai_km 106).2.2.1 (ai_km 106).2.2.2.1) := by rfl
theorem ke106 : goodWord (Cond.code (ai_km 106).1 (ai_km 106).2.1 (ai_km 106).2.2.1 (ai_km 106).2.2.2.1) = true ∧ plainName (ai_km 106).1.cls = true ∧ ((ai_km 106).1.cls ≠ "java/lang/invoke/MethodHandle" ∧ (ai_km 106).1.cls ≠ "java/lang/invoke/VarHandle" ∧ (parseMethodDescriptor (ai_km 106).1.desc).map (fun d => d.parameters.length) = some (ai_km 106).2.2.2.2.1) ∧ (ai_km 106).2.2.1 ≤ 60 := by decide +kernel
theorem kf106 : ai_mok 106 := ⟨ko106, GW_of (ai_wat_in kd106) ke106.1, ke106.2.1, ke106.2.2.1, ke106.2.2.2⟩
theorem kg106 : ∀ a, a < 107 → ai_mok a := lt_s kg105 kf106
theorem ko107 : ai_okm 107 = true := by decide +kernel
theorem kd107 : ai_wat (4, 0) = some (Cond.code (ai_km 107).1 (ai_km 107).2.1 (ai_km 107).2.2.1 (ai_km 107).2.2.2.1) := by rfl
theorem ke107 : goodWord (Cond.code (ai_km 107).1 (ai_km 107).2.1 (ai_km 107).2.2.1 (ai_km 107).2.2.2.1) = true ∧ plainName (ai_km 107).1.cls = true ∧ ((ai_km 107).1.cls ≠ "java/lang/invoke/MethodHandle" ∧ (ai_km 107).1.cls ≠ "java/lang/invoke/VarHandle" ∧ (parseMethodDescriptor (ai_km 107).1.desc).map (fun d => d.parameters.length) = some (ai_km 107).2.2.2.2.1) ∧ (ai_km 107).2.2.1 ≤ 60 := by decide +kernel
theorem kf107 : ai_mok 107 := ⟨ko107, GW_of (ai_wat_in kd107) ke107.1, ke107.2.1, ke107.2.2.1, ke107.2.2.2⟩
theorem kg107 : ∀ a, a < 108 → ai_mok a := lt_s kg106 kf107
theorem ko108 : ai_okm 108 = true := by decide +kernel
theorem kd108 : ai_wat (4, 5) = some (Cond.code (ai_km 108).1 (ai_km 108).2.1 (ai_km 108).2.2.1 (ai_km 108).2.2.2.1) := by rfl
theorem ke108 : goodWord (Cond.code (ai_km 108).1 (ai_km 108).2.1 (ai_km 108).2.2.1 (ai_km 108).2.2.2.1) = true ∧ plainName (ai_km 108).1.cls = true ∧ ((ai_km 108).1.cls ≠ "java/lang/invoke/MethodHandle" ∧ (ai_km 108).1.cls ≠ "java/lang/invoke/VarHandle" ∧ (parseMethodDescriptor (ai_km 108).1.desc).map (fun d => d.parameters.length) = some (ai_km 108).2.2.2.2.1) ∧ (ai_km 108).2.2.1 ≤ 60 := by decide +kernel
theorem kf108 : ai_mok 108 := ⟨ko108, GW_of (ai_wat_in kd108) ke108.1, ke108.2.1, ke108.2.2.1, ke108.2.2.2⟩
theorem kg108 : ∀ a, a < 109 → ai_mok a := lt_s kg107 kf108
theorem ko109 : ai_okm 109 = true := by decide +kernel
theorem kd109 : ai_wat (3, 236) = some (Cond.code (ai_km 109).1 (ai_km 109).2.1 (ai_km 109).2.2.1 (ai_km 109).2.2.2.1) := by rfl
theorem ke109 : goodWord (Cond.code (ai_km 109).1 (ai_km 109).2.1 (ai_km 109).2.2.1 (ai_km 109).2.2.2.1) = true ∧ plainName (ai_km 109).1.cls = true ∧ ((ai_km 109).1.cls ≠ "java/lang/invoke/MethodHandle" ∧ (ai_km 109).1.cls ≠ "java/lang/invoke/VarHandle" ∧ (parseMethodDescriptor (ai_km 109).1.desc).map (fun d => d.parameters.length) = some (ai_km 109).2.2.2.2.1) ∧ (ai_km 109).2.2.1 ≤ 60 := by decide +kernel
theorem kf109 : ai_mok 109 := ⟨ko109, GW_of (ai_wat_in kd109) ke109.1, ke109.2.1, ke109.2.2.1, ke109.2.2.2⟩
theorem kg109 : ∀ a, a < 110 → ai_mok a := lt_s kg108 kf109
theorem ko110 : ai_okm 110 = true := by decide +kernel
theorem kd110 : ai_wat (3, 232) = some (Cond.code (ai_km 110).1 (ai_km 110).2.1 (ai_km 110).2.2.1 (ai_km 110).2.2.2.1) := by rfl
theorem ke110 : goodWord (Cond.code (ai_km 110).1 (ai_km 110).2.1 (ai_km 110).2.2.1 (ai_km 110).2.2.2.1) = true ∧ plainName (ai_km 110).1.cls = true ∧ ((ai_km 110).1.cls ≠ "java/lang/invoke/MethodHandle" ∧ (ai_km 110).1.cls ≠ "java/lang/invoke/VarHandle" ∧ (parseMethodDescriptor (ai_km 110).1.desc).map (fun d => d.parameters.length) = some (ai_km 110).2.2.2.2.1) ∧ (ai_km 110).2.2.1 ≤ 60 := by decide +kernel
theorem kf110 : ai_mok 110 := ⟨ko110, GW_of (ai_wat_in kd110) ke110.1, ke110.2.1, ke110.2.2.1, ke110.2.2.2⟩
theorem kg110 : ∀ a, a < 111 → ai_mok a := lt_s kg109 kf110
theorem ko111 : ai_okm 111 = true := by decide +kernel
theorem kd111 : ai_wat (4, 13) = some (Cond.code (ai_km 111).1 (ai_km 111).2.1 (ai_km 111).2.2.1 (ai_km 111).2.2.2.1) := by rfl
theorem ke111 : goodWord (Cond.code (ai_km 111).1 (ai_km 111).2.1 (ai_km 111).2.2.1 (ai_km 111).2.2.2.1) = true ∧ plainName (ai_km 111).1.cls = true ∧ ((ai_km 111).1.cls ≠ "java/lang/invoke/MethodHandle" ∧ (ai_km 111).1.cls ≠ "java/lang/invoke/VarHandle" ∧ (parseMethodDescriptor (ai_km 111).1.desc).map (fun d => d.parameters.length) = some (ai_km 111).2.2.2.2.1) ∧ (ai_km 111).2.2.1 ≤ 60 := by decide +kernel
theorem kf111 : ai_mok 111 := ⟨ko111, GW_of (ai_wat_in kd111) ke111.1, ke111.2.1, ke111.2.2.1, ke111.2.2.2⟩
theorem kg111 : ∀ a, a < 112 → ai_mok a := lt_s kg110 kf111
theorem ko112 : ai_okm 112 = true := by decide +kernel
theorem kd112 : ai_wat (4, 9) = some (Cond.code (ai_km 112).1 (ai_km 112).2.1 (ai_km 112).2.2.1 (ai_km 112).2.2.2.1) := by rfl
theorem ke112 : goodWord (Cond.code (ai_km 112).1 (ai_km 112).2.1 (ai_km 112).2.2.1 (ai_km 112).2.2.2.1) = true ∧ plainName (ai_km 112).1.cls = true ∧ ((ai_km 112).1.cls ≠ "java/lang/invoke/MethodHandle" ∧ (ai_km 112).1.cls ≠ "java/lang/invoke/VarHandle" ∧ (parseMethodDescriptor (ai_km 112).1.desc).map (fun d => d.parameters.length) = some (ai_km 112).2.2.2.2.1) ∧ (ai_km 112).2.2.1 ≤ 60 := by decide +kernel
theorem kf112 : ai_mok 112 := ⟨ko112, GW_of (ai_wat_in kd112) ke112.1, ke112.2.1, ke112.2.2.1, ke112.2.2.2⟩
theorem kg112 : ∀ a, a < 113 → ai_mok a := lt_s kg111 kf112
theorem ko113 : ai_okm 113 = true := by decide +kernel
theorem kd113 : ai_wat (4, 18) = some (Cond.code (ai_km 113).1 (ai_km 113).2.1 (ai_km 113).2.2.1 (ai_km 113).2.2.2.1) := by rfl
theorem ke113 : goodWord (Cond.code (ai_km 113).1 (ai_km 113).2.1 (ai_km 113).2.2.1 (ai_km 113).2.2.2.1) = true ∧ plainName (ai_km 113).1.cls = true ∧ ((ai_km 113).1.cls ≠ "java/lang/invoke/MethodHandle" ∧ (ai_km 113).1.cls ≠ "java/lang/invoke/VarHandle" ∧ (parseMethodDescriptor (ai_km 113).1.desc).map (fun d => d.parameters.length) = some (ai_km 113).2.2.2.2.1) ∧ (ai_km 113).2.2.1 ≤ 60 := by decide +kernel
theorem kf113 : ai_mok 113 := ⟨ko113, GW_of (ai_wat_in kd113) ke113.1, ke113.2.1, ke113.2.2.1, ke113.2.2.2⟩
theorem kg113 : ∀ a, a < 114 → ai_mok a := lt_s kg112 kf113
theorem ko114 : ai_okm 114 = true := by decide +kernel
theorem kd114 : ai_wat (4, 26) = some (Cond.code (ai_km 114).1 (ai_km 114).2.1 (ai_km 114).2.2.1 (ai_km 114).2.2.2.1) := by rfl
theorem ke114 : goodWord (Cond.code (ai_km 114).1 (ai_km 114).2.1 (ai_km 114).2.2.1 (ai_km 114).2.2.2.1) = true ∧ plainName (ai_km 114).1.cls = true ∧ ((ai_km 114).1.cls ≠ "java/lang/invoke/MethodHandle" ∧ (ai_km 114).1.cls ≠ "java/lang/invoke/VarHandle" ∧ (parseMethodDescriptor (ai_km 114).1.desc).map (fun d => d.parameters.length) = some (ai_km 114).2.2.2.2.1) ∧ (ai_km 114).2.2.1 ≤ 60 := by decide +kernel
theorem kf114 : ai_mok 114 := ⟨ko114, GW_of (ai_wat_in kd114) ke114.1, ke114.2.1, ke114.2.2.1, ke114.2.2.2⟩
theorem kg114 : ∀ a, a < 115 → ai_mok a := lt_s kg113 kf114
theorem ko115 : ai_okm 115 = true := by decide +kernel
theorem kd115 : ai_wat (4, 60) = some (Cond.code (ai_km 115).1 (ai_km 115).2.1 (ai_km 115).2.2.1 (ai_km 115).2.2.2.1) := by rfl
theorem ke115 : goodWord (Cond.code (ai_km 115).1 (ai_km 115).2.1 (ai_km 115).2.2.1 (ai_km 115).2.2.2.1) = true ∧ plainName (ai_km 115).1.cls = true ∧ ((ai_km 115).1.cls ≠ "java/lang/invoke/MethodHandle" ∧ (ai_km 115).1.cls ≠ "java/lang/invoke/VarHandle" ∧ (parseMethodDescriptor (ai_km 115).1.desc).map (fun d => d.parameters.length) = some (ai_km 115).2.2.2.2.1) ∧ (ai_km 115).2.2.1 ≤ 60 := by decide +kernel
theorem kf115 : ai_mok 115 := ⟨ko115, GW_of (ai_wat_in kd115) ke115.1, ke115.2.1, ke115.2.2.1, ke115.2.2.2⟩
theorem kg115 : ∀ a, a < 116 → ai_mok a := lt_s kg114 kf115
theorem ko116 : ai_okm 116 = true := by decide +kernel
theorem kd116 : ai_wat (4, 68) = some (Cond.code (ai_km 116).1 (ai_km 116).2.1 (ai_km 116).2.2.1 (ai_km 116).2.2.2.1) := by rfl
theorem ke116 : goodWord (Cond.code (ai_km 116).1 (ai_km 116).2.1 (ai_km 116).2.2.1 (ai_km 116).2.2.2.1) = true ∧ plainName (ai_km 116).1.cls = true ∧ ((ai_km 116).1.cls ≠ "java/lang/invoke/MethodHandle" ∧ (ai_km 116).1.cls ≠ "java/lang/invoke/VarHandle" ∧ (parseMethodDescriptor (ai_km 116).1.desc).map (fun d => d.parameters.length) = some (ai_km 116).2.2.2.2.1) ∧ (ai_km 116).2.2.1 ≤ 60 := by decide +kernel
theorem kf116 : ai_mok 116 := ⟨ko116, GW_of (ai_wat_in kd116) ke116.1, ke116.2.1, ke116.2.2.1, ke116.2.2.2⟩
theorem kg116 : ∀ a, a < 117 → ai_mok a := lt_s kg115 kf116
theorem ko117 : ai_okm 117 = true := by decide +kernel
theorem kd117 : ai_wat (4, 80) = some (Cond.code (ai_km 117).1 (ai_km 117).2.1 (ai_km 117).2.2.1 (ai_km 117).2.2.2.1) := by rfl
theorem ke117 : goodWord (Cond.code (ai_km 117).1 (ai_km 117).2.1 (ai_km 117).2.2.1 (ai_km 117).2.2.2.1) = true ∧ plainName (ai_km 117).1.cls = true ∧ ((ai_km 117).1.cls ≠ "java/lang/invoke/MethodHandle" ∧ (ai_km 117).1.cls ≠ "java/lang/invoke/VarHandle" ∧ (parseMethodDescriptor (ai_km 117).1.desc).map (fun d => d.parameters.length) = some (ai_km 117).2.2.2.2.1) ∧ (ai_km 117).2.2.1 ≤ 60 := by decide +kernel
theorem kf117 : ai_mok 117 := ⟨ko117, GW_of (ai_wat_in kd117) ke117.1, ke117.2.1, ke117.2.2.1, ke117.2.2.2⟩
theorem kg117 : ∀ a, a < 118 → ai_mok a := lt_s kg116 kf117
theorem ko118 : ai_okm 118 = true := by decide +kernel
theorem kd118 : ai_wat (4, 64) = some (Cond.code (ai_km 118).1 (ai_km 118).2.1 (ai_km 118).2.2.1 (ai_km 118).2.2.2.1) := by rfl
theorem ke118 : goodWord (Cond.code (ai_km 118).1 (ai_km 118).2.1 (ai_km 118).2.2.1 (ai_km 118).2.2.2.1) = true ∧ plainName (ai_km 118).1.cls = true ∧ ((ai_km 118).1.cls ≠ "java/lang/invoke/MethodHandle" ∧ (ai_km 118).1.cls ≠ "java/lang/invoke/VarHandle" ∧ (parseMethodDescriptor (ai_km 118).1.desc).map (fun d => d.parameters.length) = some (ai_km 118).2.2.2.2.1) ∧ (ai_km 118).2.2.1 ≤ 60 := by decide +kernel
theorem kf118 : ai_mok 118 := ⟨ko118, GW_of (ai_wat_in kd118) ke118.1, ke118.2.1, ke118.2.2.1, ke118.2.2.2⟩
theorem kg118 : ∀ a, a < 119 → ai_mok a := lt_s kg117 kf118
theorem ko119 : ai_okm 119 = true := by decide +kernel
theorem kd119 : ai_wat (4, 86) = some (Cond.code (ai_km 119).1 (ai_km 119).2.1 (ai_km 119).2.2.1 (ai_km 119).2.2.2.1) := by rfl
theorem ke119 : goodWord (Cond.code (ai_km 119).1 (ai_km 119).2.1 (ai_km 119).2.2.1 (ai_km 119).2.2.2.1) = true ∧ plainName (ai_km 119).1.cls = true ∧ ((ai_km 119).1.cls ≠ "java/lang/invoke/MethodHandle" ∧ (ai_km 119).1.cls ≠ "java/lang/invoke/VarHandle" ∧ (parseMethodDescriptor (ai_km 119).1.desc).map (fun d => d.parameters.length) = some (ai_km 119).2.2.2.2.1) ∧ (ai_km 119).2.2.1 ≤ 60 := by decide +kernel
theorem kf119 : ai_mok 119 := ⟨ko119, GW_of (ai_wat_in kd119) ke119.1, ke119.2.1, ke119.2.2.1, ke119.2.2.2⟩
theorem kg119 : ∀ a, a < 120 → ai_mok a := lt_s kg118 kf119
theorem ko120 : ai_okm 120 = true := by decide +kernel
theorem kd120 : ai_wat (4, 96) = some (Cond.code (ai_km 120).1 (ai_km 120).2.1 (ai_km 120).2.2.1 (ai_km 120).2.2.2.1) := by rfl
theorem ke120 : goodWord (Cond.code (ai_km 120).1 (ai_km 120).2.1 (ai_km 120).2.2.1 (ai_km 120).2.2.2.1) = true ∧ plainName (ai_km 120).1.cls = true ∧ ((ai_km 120).1.cls ≠ "java/lang/invoke/MethodHandle" ∧ (ai_km 120).1.cls ≠ "java/lang/invoke/VarHandle" ∧ (parseMethodDescriptor (ai_km 120).1.desc).map (fun d => d.parameters.length) = some (ai_km 120).2.2.2.2.1) ∧ (ai_km 120).2.2.1 ≤ 60 := by decide +kernel
theorem kf120 : ai_mok 120 := ⟨ko120, GW_of (ai_wat_in kd120) ke120.1, ke120.2.1, ke120.2.2.1, ke120.2.2.2⟩
theorem kg120 : ∀ a, a < 121 → ai_mok a := lt_s kg119 kf120
theorem ko121 : ai_okm 121 = true := by decide +kernel
theorem kd121 : ai_wat (4, 91) = some (Cond.code (ai_km 121).1 (ai_km 121).2.1 (ai_km 121).2.2.1 (ai_km 121).2.2.2.1) := by rfl
theorem ke121 : goodWord (Cond.code (ai_km 121).1 (ai_km 121).2.1 (ai_km 121).2.2.1 (ai_km 121).2.2.2.1) = true ∧ plainName (ai_km 121).1.cls = true ∧ ((ai_km 121).1.cls ≠ "java/lang/invoke/MethodHandle" ∧ (ai_km 121).1.cls ≠ "java/lang/invoke/VarHandle" ∧ (parseMethodDescriptor (ai_km 121).1.desc).map (fun d => d.parameters.length) = some (ai_km 121).2.2.2.2.1) ∧ (ai_km 121).2.2.1 ≤ 60 := by decide +kernel
theorem kf121 : ai_mok 121 := ⟨ko121, GW_of (ai_wat_in kd121) ke121.1, ke121.2.1, ke121.2.2.1, ke121.2.2.2⟩
theorem kg121 : ∀ a, a < 122 → ai_mok a := lt_s kg120 kf121
theorem ko122 : ai_okm 122 = true := by decide +kernel
theorem kd122 : ai_wat (4, 100) = some (Cond.code (ai_km 122).1 (ai_km 122).2.1 (ai_km 122).2.2.1 (ai_km 122).2.2.2.1) := by rfl
theorem ke122 : goodWord (Cond.code (ai_km 122).1 (ai_km 122).2.1 (ai_km 122).2.2.1 (ai_km 122).2.2.2.1) = true ∧ plainName (ai_km 122).1.cls = true ∧ ((ai_km 122).1.cls ≠ "java/lang/invoke/MethodHandle" ∧ (ai_km 122).1.cls ≠ "java/lang/invoke/VarHandle" ∧ (parseMethodDescriptor (ai_km 122).1.desc).map (fun d => d.parameters.length) = some (ai_km 122).2.2.2.2.1) ∧ (ai_km 122).2.2.1 ≤ 60 := by decide +kernel
theorem kf122 : ai_mok 122 := ⟨ko122, GW_of (ai_wat_in kd122) ke122.1, ke122.2.1, ke122.2.2.1, ke122.2.2.2⟩
theorem kg122 : ∀ a, a < 123 → ai_mok a := lt_s kg121 kf122
theorem ko123 : ai_okm 123 = true := by decide +kernel
theorem kd123 : ai_wat (4, 108) = some (Cond.code (ai_km 123).1 (ai_km 123).2.1 (ai_km 123).2.2.1 (ai_km 123).2.2.2.1) := by rfl
theorem ke123 : goodWord (Cond.code (ai_km 123).1 (ai_km 123).2.1 (ai_km 123).2.2.1 (ai_km 123).2.2.2.1) = true ∧ plainName (ai_km 123).1.cls = true ∧ ((ai_km 123).1.cls ≠ "java/lang/invoke/MethodHandle" ∧ (ai_km 123).1.cls ≠ "java/lang/invoke/VarHandle" ∧ (parseMethodDescriptor (ai_km 123).1.desc).map (fun d => d.parameters.length) = some (ai_km 123).2.2.2.2.1) ∧ (ai_km 123).2.2.1 ≤ 60 := by decide +kernel
theorem kf123 : ai_mok 123 := ⟨ko123, GW_of (ai_wat_in kd123) ke123.1, ke123.2.1, ke123.2.2.1, ke123.2.2.2⟩
theorem kg123 : ∀ a, a < 124 → ai_mok a := lt_s kg122 kf123
theorem ko124 : ai_okm 124 = true := by decide +kernel
theorem kd124 : ai_wat (4, 117) = some (Cond.code (ai_km 124).1 (ai_km 124).2.1 (ai_km 124).2.2.1 (ai_km 124).2.2.2.1) := by rfl
theorem ke124 : goodWord (Cond.code (ai_km 124).1 (ai_km 124).2.1 (ai_km 124).2.2.1 (ai_km 124).2.2.2.1) = true ∧ plainName (ai_km 124).1.cls = true ∧ ((ai_km 124).1.cls ≠ "java/lang/invoke/MethodHandle" ∧ (ai_km 124).1.cls ≠ "java/lang/invoke/VarHandle" ∧ (parseMethodDescriptor (ai_km 124).1.desc).map (fun d => d.parameters.length) = some (ai_km 124).2.2.2.2.1) ∧ (ai_km 124).2.2.1 ≤ 60 := by decide +kernel
theorem kf124 : ai_mok 124 := ⟨ko124, GW_of (ai_wat_in kd124) ke124.1, ke124.2.1, ke124.2.2.1, ke124.2.2.2⟩
theorem kg124 : ∀ a, a < 125 → ai_mok a := lt_s kg123 kf124
theorem ko125 : ai_okm 125 = true := by decide +kernel
theorem kd125 : ai_wat (4, 121) = some (Cond.code (ai_km 125).1 (ai_km 125).2.1 (ai_km 125).2.2.1 (ai_km 125).2.2.2.1) := by rfl
theorem ke125 : goodWord (Cond.code (ai_km 125).1 (ai_km 125).2.1 (ai_km 125).2.2.1 (ai_km 125).2.2.2.1) = true ∧ plainName (ai_km 125).1.cls = true ∧ ((ai_km 125).1.cls ≠ "java/lang/invoke/MethodHandle" ∧ (ai_km 125).1.cls ≠ "java/lang/invoke/VarHandle" ∧ (parseMethodDescriptor (ai_km 125).1.desc).map (fun d => d.parameters.length) = some (ai_km 125).2.2.2.2.1) ∧ (ai_km 125).2.2.1 ≤ 60 := by decide +kernel
theorem kf125 : ai_mok 125 := ⟨ko125, GW_of (ai_wat_in kd125) ke125.1, ke125.2.1, ke125.2.2.1, ke125.2.2.2⟩
theorem kg125 : ∀ a, a < 126 → ai_mok a := lt_s kg124 kf125
theorem ko126 : ai_okm 126 = true := by decide +kernel
theorem kd126 : ai_wat (4, 131) = some (Cond.code (ai_km 126).1 (ai_km 126).2.1 (ai_km 126).2.2.1 (ai_km 126).2.2.2.1) := by rfl
theorem ke126 : goodWord (Cond.code (ai_km 126).1 (ai_km 126).2.1 (ai_km 126).2.2.1 (ai_km 126).2.2.2.1) = true ∧ plainName (ai_km 126).1.cls = true ∧ ((ai_km 126).1.cls ≠ "java/lang/invoke/MethodHandle" ∧ (ai_km 126).1.cls ≠ "java/lang/invoke/VarHandle" ∧ (parseMethodDescriptor (ai_km 126).1.desc).map (fun d => d.parameters.length) = some (ai_km 126).2.2.2.2.1) ∧ (ai_km 126).2.2.1 ≤ 60 := by decide +kernel
theorem kf126 : ai_mok 126 := ⟨ko126, GW_of (ai_wat_in kd126) ke126.1, ke126.2.1, ke126.2.2.1, ke126.2.2.2⟩
theorem kg126 : ∀ a, a < 127 → ai_mok a := lt_s kg125 kf126
theorem ko127 : ai_okm 127 = true := by decide +kernel
theorem kd127 : ai_wat (4, 135) = some (Cond.code (ai_km 127).1 (ai_km 127).2.1 (ai_km 127).2.2.1 (ai_km 127).2.2.2.1) := by rfl
theorem ke127 : goodWord (Cond.code (ai_km 127).1 (ai_km 127).2.1 (ai_km 127).2.2.1 (ai_km 127).2.2.2.1) = true ∧ plainName (ai_km 127).1.cls = true ∧ ((ai_km 127).1.cls ≠ "java/lang/invoke/MethodHandle" ∧ (ai_km 127).1.cls ≠ "java/lang/invoke/VarHandle" ∧ (parseMethodDescriptor (ai_km 127).1.desc).map (fun d => d.parameters.length) = some (ai_km 127).2.2.2.2.1) ∧ (ai_km 127).2.2.1 ≤ 60 := by decide +kernel
theorem kf127 : ai_mok 127 := ⟨ko127, GW_of (ai_wat_in kd127) ke127.1, ke127.2.1, ke127.2.2.1, ke127.2.2.2⟩
theorem kg127 : ∀ a, a < 128 → ai_mok a := lt_s kg126 kf127
