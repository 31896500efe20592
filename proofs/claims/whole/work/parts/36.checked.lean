/-! ===== more methods checked ===== -/
theorem ko128 : ai_okm 128 = true := by decide +kernel
theorem kd128 : ai_wat (4, 143) = some (Cond.code (ai_km 128).1 (ai_km 128).2.1 (ai_km 128).2.2.1 (ai_km 128).2.2.2.1) := by rfl
theorem ke128 : goodWord (Cond.code (ai_km 128).1 (ai_km 128).2.1 (ai_km 128).2.2.1 (ai_km 128).2.2.2.1) = true ∧ plainName (ai_km 128).1.cls = true ∧ ((ai_km 128).1.cls ≠ "java/lang/invoke/MethodHandle" ∧ (ai_km 128).1.cls ≠ "java/lang/invoke/VarHandle" ∧ (parseMethodDescriptor (ai_km 128).1.desc).map (fun d => d.parameters.length) = some (ai_km 128).2.2.2.2.1) ∧ (ai_km 128).2.2.1 ≤ 60 := by decide +kernel
theorem kf128 : ai_mok 128 := ⟨ko128, GW_of (ai_wat_in kd128) ke128.1, ke128.2.1, ke128.2.2.1, ke128.2.2.2⟩
theorem kg128 : ∀ a, a < 129 → ai_mok a := lt_s kg127 kf128
theorem ko129 : ai_okm 129 = true := by decide +kernel
theorem kd129 : ai_wat (4, 139) = some (Cond.code (ai_km 129).1 (ai_km 129).2.1 (ai_km 129).2.2.1 (ai_km 129).2.2.2.1) := by rfl
theorem ke129 : goodWord (Cond.code (ai_km 129).1 (ai_km 129).2.1 (ai_km 129).2.2.1 (ai_km 129).2.2.2.1) = true ∧ plainName (ai_km 129).1.cls = true ∧ ((ai_km 129).1.cls ≠ "java/lang/invoke/MethodHandle" ∧ (ai_km 129).1.cls ≠ "java/lang/invoke/VarHandle" ∧ (parseMethodDescriptor (ai_km 129).1.desc).map (fun d => d.parameters.length) = some (ai_km 129).2.2.2.2.1) ∧ (ai_km 129).2.2.1 ≤ 60 := by decide +kernel
theorem kf129 : ai_mok 129 := ⟨ko129, GW_of (ai_wat_in kd129) ke129.1, ke129.2.1, ke129.2.2.1, ke129.2.2.2⟩
theorem kg129 : ∀ a, a < 130 → ai_mok a := lt_s kg128 kf129
theorem ko130 : ai_okm 130 = true := by decide +kernel
theorem kd130 : ai_wat (4, 149) = some (Cond.code (ai_km 130).1 (ai_km 130).2.1 (ai_km 130).2.2.1 (ai_km 130).2.2.2.1) := by rfl
theorem ke130 : goodWord (Cond.code (ai_km 130).1 (ai_km 130).2.1 (ai_km 130).2.2.1 (ai_km 130).2.2.2.1) = true ∧ plainName (ai_km 130).1.cls = true ∧ ((ai_km 130).1.cls ≠ "java/lang/invoke/MethodHandle" ∧ (ai_km 130).1.cls ≠ "java/lang/invoke/VarHandle" ∧ (parseMethodDescriptor (ai_km 130).1.desc).map (fun d => d.parameters.length) = some (ai_km 130).2.2.2.2.1) ∧ (ai_km 130).2.2.1 ≤ 60 := by decide +kernel
theorem kf130 : ai_mok 130 := ⟨ko130, GW_of (ai_wat_in kd130) ke130.1, ke130.2.1, ke130.2.2.1, ke130.2.2.2⟩
theorem kg130 : ∀ a, a < 131 → ai_mok a := lt_s kg129 kf130
theorem ko131 : ai_okm 131 = true := by decide +kernel
theorem kd131 : ai_wat (4, 153) = some (Cond.code (ai_km 131).1 (ai_km 131).2.1 (ai_km 131).2.2.1 (ai_km 131).2.2.2.1) := by rfl
theorem ke131 : goodWord (Cond.code (ai_km 131).1 (ai_km 131).2.1 (ai_km 131).2.2.1 (ai_km 131).2.2.2.1) = true ∧ plainName (ai_km 131).1.cls = true ∧ ((ai_km 131).1.cls ≠ "java/lang/invoke/MethodHandle" ∧ (ai_km 131).1.cls ≠ "java/lang/invoke/VarHandle" ∧ (parseMethodDescriptor (ai_km 131).1.desc).map (fun d => d.parameters.length) = some (ai_km 131).2.2.2.2.1) ∧ (ai_km 131).2.2.1 ≤ 60 := by decide +kernel
theorem kf131 : ai_mok 131 := ⟨ko131, GW_of (ai_wat_in kd131) ke131.1, ke131.2.1, ke131.2.2.1, ke131.2.2.2⟩
theorem kg131 : ∀ a, a < 132 → ai_mok a := lt_s kg130 kf131
theorem ko132 : ai_okm 132 = true := by decide +kernel
theorem kd132 : ai_wat (4, 184) = some (Cond.code (ai_km 132).1 (ai_km 132).2.1 (ai_km 132).2.2.1 (ai_km 132).2.2.2.1) := by rfl
theorem ke132 : goodWord (Cond.code (ai_km 132).1 (ai_km 132).2.1 (ai_km 132).2.2.1 (ai_km 132).2.2.2.1) = true ∧ plainName (ai_km 132).1.cls = true ∧ ((ai_km 132).1.cls ≠ "java/lang/invoke/MethodHandle" ∧ (ai_km 132).1.cls ≠ "java/lang/invoke/VarHandle" ∧ (parseMethodDescriptor (ai_km 132).1.desc).map (fun d => d.parameters.length) = some (ai_km 132).2.2.2.2.1) ∧ (ai_km 132).2.2.1 ≤ 60 := by decide +kernel
theorem kf132 : ai_mok 132 := ⟨ko132, GW_of (ai_wat_in kd132) ke132.1, ke132.2.1, ke132.2.2.1, ke132.2.2.2⟩
theorem kg132 : ∀ a, a < 133 → ai_mok a := lt_s kg131 kf132
theorem ko133 : ai_okm 133 = true := by decide +kernel
theorem kd133 : ai_wat (4, 189) = some (Cond.code (ai_km 133).1 (ai_km 133).2.1 (ai_km 133).2.2.1 (ai_km 133).2.2.2.1) := by rfl
theorem ke133 : goodWord (Cond.code (ai_km 133).1 (ai_km 133).2.1 (ai_km 133).2.2.1 (ai_km 133).2.2.2.1) = true ∧ plainName (ai_km 133).1.cls = true ∧ ((ai_km 133).1.cls ≠ "java/lang/invoke/MethodHandle" ∧ (ai_km 133).1.cls ≠ "java/lang/invoke/VarHandle" ∧ (parseMethodDescriptor (ai_km 133).1.desc).map (fun d => d.parameters.length) = some (ai_km 133).2.2.2.2.1) ∧ (ai_km 133).2.2.1 ≤ 60 := by decide +kernel
theorem kf133 : ai_mok 133 := ⟨ko133, GW_of (ai_wat_in kd133) ke133.1, ke133.2.1, ke133.2.2.1, ke133.2.2.2⟩
theorem kg133 : ∀ a, a < 134 → ai_mok a := lt_s kg132 kf133
theorem ko134 : ai_okm 134 = true := by decide +kernel
theorem kd134 : ai_wat (4, 193) = some (Cond.code (ai_km 134).1 (ai_km 134).2.1 (ai_km 134).2.2.1 (ai_km 134).2.2.2.1) := by rfl
theorem ke134 : goodWord (Cond.code (ai_km 134).1 (ai_km 134).2.1 (ai_km 134).2.2.1 (ai_km 134).2.2.2.1) = true ∧ plainName (ai_km 134).1.cls = true ∧ ((ai_km 134).1.cls ≠ "java/lang/invoke/MethodHandle" ∧ (ai_km 134).1.cls ≠ "java/lang/invoke/VarHandle" ∧ (parseMethodDescriptor (ai_km 134).1.desc).map (fun d => d.parameters.length) = some (ai_km 134).2.2.2.2.1) ∧ (ai_km 134).2.2.1 ≤ 60 := by decide +kernel
theorem kf134 : ai_mok 134 := ⟨ko134, GW_of (ai_wat_in kd134) ke134.1, ke134.2.1, ke134.2.2.1, ke134.2.2.2⟩
theorem kg134 : ∀ a, a < 135 → ai_mok a := lt_s kg133 kf134
theorem ko135 : ai_okm 135 = true := by decide +kernel
theorem kd135 : ai_wat (4, 207) = some (Cond.code (ai_km 135).1 (ai_km 135).2.1 (ai_km 135).2.2.1 (ai_km 135).2.2.2.1) := by rfl
theorem ke135 : goodWord (Cond.code (ai_km 135).1 (ai_km 135).2.1 (ai_km 135).2.2.1 (ai_km 135).2.2.2.1) = true ∧ plainName (ai_km 135).1.cls = true ∧ ((ai_km 135).1.cls ≠ "java/lang/invoke/MethodHandle" ∧ (ai_km 135).1.cls ≠ "java/lang/invoke/VarHandle" ∧ (parseMethodDescriptor (ai_km 135).1.desc).map (fun d => d.parameters.length) = some (ai_km 135).2.2.2.2.1) ∧ (ai_km 135).2.2.1 ≤ 60 := by decide +kernel
theorem kf135 : ai_mok 135 := ⟨ko135, GW_of (ai_wat_in kd135) ke135.1, ke135.2.1, ke135.2.2.1, ke135.2.2.2⟩
theorem kg135 : ∀ a, a < 136 → ai_mok a := lt_s kg134 kf135
theorem ko136 : ai_okm 136 = true := by decide +kernel
theorem kd136 : ai_wat (4, 230) = some (Cond.code (ai_km 136).1 (ai_km 136).2.1 (ai_km 136).2.2.1 (ai_km 136).2.2.2.1) := by rfl
theorem ke136 : goodWord (Cond.code (ai_km 136).1 (ai_km 136).2.1 (ai_km 136).2.2.1 (ai_km 136).2.2.2.1) = true ∧ plainName (ai_km 136).1.cls = true ∧ ((ai_km 136).1.cls ≠ "java/lang/invoke/MethodHandle" ∧ (ai_km 136).1.cls ≠ "java/lang/invoke/VarHandle" ∧ (parseMethodDescriptor (ai_km 136).1.desc).map (fun d => d.parameters.length) = some (ai_km 136).2.2.2.2.1) ∧ (ai_km 136).2.2.1 ≤ 60 := by decide +kernel
theorem kf136 : ai_mok 136 := ⟨ko136, GW_of (ai_wat_in kd136) ke136.1, ke136.2.1, ke136.2.2.1, ke136.2.2.2⟩
theorem kg136 : ∀ a, a < 137 → ai_mok a := lt_s kg135 kf136
theorem ko137 : ai_okm 137 = true := by decide +kernel
theorem kd137 : ai_wat (5, 12) = some (Cond.code (ai_km 137).1 (ai_km 137).2.1 (ai_km 137).2.2.1 (ai_km 137).2.2.2.1) := by rfl
theorem ke137 : goodWord (Cond.code (ai_km 137).1 (ai_km 137).2.1 (ai_km 137).2.2.1 (ai_km 137).2.2.2.1) = true ∧ plainName (ai_km 137).1.cls = true ∧ ((ai_km 137).1.cls ≠ "java/lang/invoke/MethodHandle" ∧ (ai_km 137).1.cls ≠ "java/lang/invoke/VarHandle" ∧ (parseMethodDescriptor (ai_km 137).1.desc).map (fun d => d.parameters.length) = some (ai_km 137).2.2.2.2.1) ∧ (ai_km 137).2.2.1 ≤ 60 := by decide +kernel
theorem kf137 : ai_mok 137 := ⟨ko137, GW_of (ai_wat_in kd137) ke137.1, ke137.2.1, ke137.2.2.1, ke137.2.2.2⟩
theorem kg137 : ∀ a, a < 138 → ai_mok a := lt_s kg136 kf137
theorem ko138 : ai_okm 138 = true := by decide +kernel
theorem kd138 : ai_wat (5, 15) = some (Cond.code (ai_km 138).1 (ai_km 138).2.1 (ai_km 138).2.2.1 (ai_km 138).2.2.2.1) := by rfl
theorem ke138 : goodWord (Cond.code (ai_km 138).1 (ai_km 138).2.1 (ai_km 138).2.2.1 (ai_km 138).2.2.2.1) = true ∧ plainName (ai_km 138).1.cls = true ∧ ((ai_km 138).1.cls ≠ "java/lang/invoke/MethodHandle" ∧ (ai_km 138).1.cls ≠ "java/lang/invoke/VarHandle" ∧ (parseMethodDescriptor (ai_km 138).1.desc).map (fun d => d.parameters.length) = some (ai_km 138).2.2.2.2.1) ∧ (ai_km 138).2.2.1 ≤ 60 := by decide +kernel
theorem kf138 : ai_mok 138 := ⟨ko138, GW_of (ai_wat_in kd138) ke138.1, ke138.2.1, ke138.2.2.1, ke138.2.2.2⟩
theorem kg138 : ∀ a, a < 139 → ai_mok a := lt_s kg137 kf138
theorem ko139 : ai_okm 139 = true := by decide +kernel
theorem kd139 : ai_wat (5, 8) = some (Cond.code (ai_km 139).1 (ai_km 139).2.1 (ai_km 139).2.2.1 (ai_km 139).2.2.2.1) := by rfl
theorem ke139 : goodWord (Cond.code (ai_km 139).1 (ai_km 139).2.1 (ai_km 139).2.2.1 (ai_km 139).2.2.2.1) = true ∧ plainName (ai_km 139).1.cls = true ∧ ((ai_km 139).1.cls ≠ "java/lang/invoke/MethodHandle" ∧ (ai_km 139).1.cls ≠ "java/lang/invoke/VarHandle" ∧ (parseMethodDescriptor (ai_km 139).1.desc).map (fun d => d.parameters.length) = some (ai_km 139).2.2.2.2.1) ∧ (ai_km 139).2.2.1 ≤ 60 := by decide +kernel
theorem kf139 : ai_mok 139 := ⟨ko139, GW_of (ai_wat_in kd139) ke139.1, ke139.2.1, ke139.2.2.1, ke139.2.2.2⟩
theorem kg139 : ∀ a, a < 140 → ai_mok a := lt_s kg138 kf139
theorem ko140 : ai_okm 140 = true := by decide +kernel
theorem kd140 : ai_wat (5, 19) = some (Cond.code (ai_km 140).1 (ai_km 140).2.1 (ai_km 140).2.2.1 (ai_km 140).2.2.2.1) := by rfl
theorem ke140 : goodWord (Cond.code (ai_km 140).1 (ai_km 140).2.1 (ai_km 140).2.2.1 (ai_km 140).2.2.2.1) = true ∧ plainName (ai_km 140).1.cls = true ∧ ((ai_km 140).1.cls ≠ "java/lang/invoke/MethodHandle" ∧ (ai_km 140).1.cls ≠ "java/lang/invoke/VarHandle" ∧ (parseMethodDescriptor (ai_km 140).1.desc).map (fun d => d.parameters.length) = some (ai_km 140).2.2.2.2.1) ∧ (ai_km 140).2.2.1 ≤ 60 := by decide +kernel
theorem kf140 : ai_mok 140 := ⟨ko140, GW_of (ai_wat_in kd140) ke140.1, ke140.2.1, ke140.2.2.1, ke140.2.2.2⟩
theorem kg140 : ∀ a, a < 141 → ai_mok a := lt_s kg139 kf140
theorem ko141 : ai_okm 141 = true := by decide +kernel
theorem kd141 : ai_wat (5, 27) = some (Cond.code (ai_km 141).1 (ai_km 141).2.1 (ai_km 141).2.2.1 (ai_km 141).2.2.2.1) := by rfl
theorem ke141 : goodWord (Cond.code (ai_km 141).1 (ai_km 141).2.1 (ai_km 141).2.2.1 (ai_km 141).2.2.2.1) = true ∧ plainName (ai_km 141).1.cls = true ∧ ((ai_km 141).1.cls ≠ "java/lang/invoke/MethodHandle" ∧ (ai_km 141).1.cls ≠ "java/lang/invoke/VarHandle" ∧ (parseMethodDescriptor (ai_km 141).1.desc).map (fun d => d.parameters.length) = some (ai_km 141).2.2.2.2.1) ∧ (ai_km 141).2.2.1 ≤ 60 := by decide +kernel
theorem kf141 : ai_mok 141 := ⟨ko141, GW_of (ai_wat_in kd141) ke141.1, ke141.2.1, ke141.2.2.1, ke141.2.2.2⟩
theorem kg141 : ∀ a, a < 142 → ai_mok a := lt_s kg140 kf141
theorem ko142 : ai_okm 142 = true := by decide +kernel
theorem kd142 : ai_wat (5, 31) = some (Cond.code (ai_km 142).1 (ai_km 142).2.1 (ai_km 142).2.2.1 (ai_km 142).2.2.2.1) := by rfl
theorem ke142 : goodWord (Cond.code (ai_km 142).1 (ai_km 142).2.1 (ai_km 142).2.2.1 (ai_km 142).2.2.2.1) = true ∧ plainName (ai_km 142).1.cls = true ∧ ((ai_km 142).1.cls ≠ "java/lang/invoke/MethodHandle" ∧ (ai_km 142).1.cls ≠ "java/lang/invoke/VarHandle" ∧ (parseMethodDescriptor (ai_km 142).1.desc).map (fun d => d.parameters.length) = some (ai_km 142).2.2.2.2.1) ∧ (ai_km 142).2.2.1 ≤ 60 := by decide +kernel
theorem kf142 : ai_mok 142 := ⟨ko142, GW_of (ai_wat_in kd142) ke142.1, ke142.2.1, ke142.2.2.1, ke142.2.2.2⟩
theorem kg142 : ∀ a, a < 143 → ai_mok a := lt_s kg141 kf142
theorem ko143 : ai_okm 143 = true := by decide +kernel
theorem kd143 : ai_wat (5, 53) = some (Cond.code (ai_km 143).1 (ai_km 143).2.1 (ai_km 143).2.2.1 (ai_km 143).2.2.2.1) := by rfl
theorem ke143 : goodWord (Cond.code (ai_km 143).1 (ai_km 143).2.1 (ai_km 143).2.2.1 (ai_km 143).2.2.2.1) = true ∧ plainName (ai_km 143).1.cls = true ∧ ((ai_km 143).1.cls ≠ "java/lang/invoke/MethodHandle" ∧ (ai_km 143).1.cls ≠ "java/lang/invoke/VarHandle" ∧ (parseMethodDescriptor (ai_km 143).1.desc).map (fun d => d.parameters.length) = some (ai_km 143).2.2.2.2.1) ∧ (ai_km 143).2.2.1 ≤ 60 := by decide +kernel
theorem kf143 : ai_mok 143 := ⟨ko143, GW_of (ai_wat_in kd143) ke143.1, ke143.2.1, ke143.2.2.1, ke143.2.2.2⟩
theorem kg143 : ∀ a, a < 144 → ai_mok a := lt_s kg142 kf143
theorem ko144 : ai_okm 144 = true := by decide +kernel
theorem kd144 : ai_wat (5, 63) = some (Cond.code (ai_km 144).1 (ai_km 144).2.1 (ai_km 144).2.2.1 (ai_km 144).2.2.2.1) := by rfl
theorem ke144 : goodWord (Cond.code (ai_km 144).1 (ai_km 144).2.1 (ai_km 144).2.2.1 (ai_km 144).2.2.2.1) = true ∧ plainName (ai_km 144).1.cls = true ∧ ((ai_km 144).1.cls ≠ "java/lang/invoke/MethodHandle" ∧ (ai_km 144).1.cls ≠ "java/lang/invoke/VarHandle" ∧ (parseMethodDescriptor (ai_km 144).1.desc).map (fun d => d.parameters.length) = some (ai_km 144).2.2.2.2.1) ∧ (ai_km 144).2.2.1 ≤ 60 := by decide +kernel
theorem kf144 : ai_mok 144 := ⟨ko144, GW_of (ai_wat_in kd144) ke144.1, ke144.2.1, ke144.2.2.1, ke144.2.2.2⟩
theorem kg144 : ∀ a, a < 145 → ai_mok a := lt_s kg143 kf144
theorem ko145 : ai_okm 145 = true := by decide +kernel
theorem kd145 : ai_wat (5, 57) = some (Cond.code (ai_km 145).1 (ai_km 145).2.1 (ai_km 145).2.2.1 (ai_km 145).2.2.2.1) := by rfl
theorem ke145 : goodWord (Cond.code (ai_km 145).1 (ai_km 145).2.1 (ai_km 145).2.2.1 (ai_km 145).2.2.2.1) = true ∧ plainName (ai_km 145).1.cls = true ∧ ((ai_km 145).1.cls ≠ "java/lang/invoke/MethodHandle" ∧ (ai_km 145).1.cls ≠ "java/lang/invoke/VarHandle" ∧ (parseMethodDescriptor (ai_km 145).1.desc).map (fun d => d.parameters.length) = some (ai_km 145).2.2.2.2.1) ∧ (ai_km 145).2.2.1 ≤ 60 := by decide +kernel
theorem kf145 : ai_mok 145 := ⟨ko145, GW_of (ai_wat_in kd145) ke145.1, ke145.2.1, ke145.2.2.1, ke145.2.2.2⟩
theorem kg145 : ∀ a, a < 146 → ai_mok a := lt_s kg144 kf145
theorem ko146 : ai_okm 146 = true := by decide +kernel
theorem kd146 : ai_wat (5, 73) = some (Cond.code (ai_km 146).1 (ai_km 146).2.1 (ai_km 146).2.2.1 (ai_km 146).2.2.2.1) := by rfl
theorem ke146 : goodWord (Cond.code (ai_km 146).1 (ai_km 146).2.1 (ai_km 146).2.2.1 (ai_km 146).2.2.2.1) = true ∧ plainName (ai_km 146).1.cls = true ∧ ((ai_km 146).1.cls ≠ "java/lang/invoke/MethodHandle" ∧ (ai_km 146).1.cls ≠ "java/lang/invoke/VarHandle" ∧ (parseMethodDescriptor (ai_km 146).1.desc).map (fun d => d.parameters.length) = some (ai_km 146).2.2.2.2.1) ∧ (ai_km 146).2.2.1 ≤ 60 := by decide +kernel
theorem kf146 : ai_mok 146 := ⟨ko146, GW_of (ai_wat_in kd146) ke146.1, ke146.2.1, ke146.2.2.1, ke146.2.2.2⟩
theorem kg146 : ∀ a, a < 147 → ai_mok a := lt_s kg145 kf146
theorem ko147 : ai_okm 147 = true := by decide +kernel
theorem kd147 : ai_wat (5, 77) = some (Cond.code (ai_km 147).1 (ai_km 147).2.1 (ai_km 147).2.2.1 (ai_km 147).2.2.2.1) := by rfl
theorem ke147 : goodWord (Cond.code (ai_km 147).1 (ai_km 147).2.1 (ai_km 147).2.2.1 (ai_km 147).2.2.2.1) = true ∧ plainName (ai_km 147).1.cls = true ∧ ((ai_km 147).1.cls ≠ "java/lang/invoke/MethodHandle" ∧ (ai_km 147).1.cls ≠ "java/lang/invoke/VarHandle" ∧ (parseMethodDescriptor (ai_km 147).1.desc).map (fun d => d.parameters.length) = some (ai_km 147).2.2.2.2.1) ∧ (ai_km 147).2.2.1 ≤ 60 := by decide +kernel
theorem kf147 : ai_mok 147 := ⟨ko147, GW_of (ai_wat_in kd147) ke147.1, ke147.2.1, ke147.2.2.1, ke147.2.2.2⟩
theorem kg147 : ∀ a, a < 148 → ai_mok a := lt_s kg146 kf147
theorem ko148 : ai_okm 148 = true := by decide +kernel
theorem kd148 : ai_wat (5, 81) = some (Cond.code (ai_km 148).1 (ai_km 148).2.1 (ai_km 148).2.2.1 (ai_km 148).2.2.2.1) := by rfl
theorem ke148 : goodWord (Cond.code (ai_km 148).1 (ai_km 148).2.1 (ai_km 148).2.2.1 (ai_km 148).2.2.2.1) = true ∧ plainName (ai_km 148).1.cls = true ∧ ((ai_km 148).1.cls ≠ "java/lang/invoke/MethodHandle" ∧ (ai_km 148).1.cls ≠ "java/lang/invoke/VarHandle" ∧ (parseMethodDescriptor (ai_km 148).1.desc).map (fun d => d.parameters.length) = some (ai_km 148).2.2.2.2.1) ∧ (ai_km 148).2.2.1 ≤ 60 := by decide +kernel
theorem kf148 : ai_mok 148 := ⟨ko148, GW_of (ai_wat_in kd148) ke148.1, ke148.2.1, ke148.2.2.1, ke148.2.2.2⟩
theorem kg148 : ∀ a, a < 149 → ai_mok a := lt_s kg147 kf148
theorem ko149 : ai_okm 149 = true := by decide +kernel
theorem kd149 : ai_wat (5, 84) = some (Cond.code (ai_km 149).1 (ai_km 149).2.1 (ai_km 149).2.2.1 (ai_km 149).2.2.2.1) := by rfl
theorem ke149 : goodWord (Cond.code (ai_km 149).1 (ai_km 149).2.1 (ai_km 149).2.2.1 (ai_km 149).2.2.2.1) = true ∧ plainName (ai_km 149).1.cls = true ∧ ((ai_km 149).1.cls ≠ "java/lang/invoke/MethodHandle" ∧ (ai_km 149).1.cls ≠ "java/lang/invoke/VarHandle" ∧ (parseMethodDescriptor (ai_km 149).1.desc).map (fun d => d.parameters.length) = some (ai_km 149).2.2.2.2.1) ∧ (ai_km 149).2.2.1 ≤ 60 := by decide +kernel
theorem kf149 : ai_mok 149 := ⟨ko149, GW_of (ai_wat_in kd149) ke149.1, ke149.2.1, ke149.2.2.1, ke149.2.2.2⟩
theorem kg149 : ∀ a, a < 150 → ai_mok a := lt_s kg148 kf149
theorem ko150 : ai_okm 150 = true := by decide +kernel
theorem kd150 : ai_wat (5, 69) = some (Cond.code (ai_km 150).1 (ai_km 150).2.1 (ai_km 150).2.2.1 (ai_km 150).2.2.2.1) := by rfl
theorem ke150 : goodWord (Cond.code (ai_km 150).1 (ai_km 150).2.1 (ai_km 150).2.2.1 (ai_km 150).2.2.2.1) = true ∧ plainName (ai_km 150).1.cls = true ∧ ((ai_km 150).1.cls ≠ "java/lang/invoke/MethodHandle" ∧ (ai_km 150).1.cls ≠ "java/lang/invoke/VarHandle" ∧ (parseMethodDescriptor (ai_km 150).1.desc).map (fun d => d.parameters.length) = some (ai_km 150).2.2.2.2.1) ∧ (ai_km 150).2.2.1 ≤ 60 := by decide +kernel
theorem kf150 : ai_mok 150 := ⟨ko150, GW_of (ai_wat_in kd150) ke150.1, ke150.2.1, ke150.2.2.1, ke150.2.2.2⟩
theorem kg150 : ∀ a, a < 151 → ai_mok a := lt_s kg149 kf150
theorem ko151 : ai_okm 151 = true := by decide +kernel
theorem kd151 : ai_wat (5, 88) = some (Cond.code (ai_km 151).1 (ai_km 151).2.1 (ai_km 151).2.2.1 (ai_km 151).2.2.2.1) := by rfl
theorem ke151 : goodWord (Cond.code (ai_km 151).1 (ai_km 151).2.1 (ai_km 151).2.2.1 (ai_km 151).2.2.2.1) = true ∧ plainName (ai_km 151).1.cls = true ∧ ((ai_km 151).1.cls ≠ "java/lang/invoke/MethodHandle" ∧ (ai_km 151).1.cls ≠ "java/lang/invoke/VarHandle" ∧ (parseMethodDescriptor (ai_km 151).1.desc).map (fun d => d.parameters.length) = some (ai_km 151).2.2.2.2.1) ∧ (ai_km 151).2.2.1 ≤ 60 := by decide +kernel
theorem kf151 : ai_mok 151 := ⟨ko151, GW_of (ai_wat_in kd151) ke151.1, ke151.2.1, ke151.2.2.1, ke151.2.2.2⟩
theorem kg151 : ∀ a, a < 152 → ai_mok a := lt_s kg150 kf151
theorem ko152 : ai_okm 152 = true := by decide +kernel
theorem kd152 : ai_wat (5, 93) = some (Cond.code (ai_km 152).1 (ai_km 152).2.1 (ai_km 152).2.2.1 (ai_km 152).2.2.2.1) := by rfl
theorem ke152 : goodWord (Cond.code (ai_km 152).1 (ai_km 152).2.1 (ai_km 152).2.2.1 (ai_km 152).2.2.2.1) = true ∧ plainName (ai_km 152).1.cls = true ∧ ((ai_km 152).1.cls ≠ "java/lang/invoke/MethodHandle" ∧ (ai_km 152).1.cls ≠ "java/lang/invoke/VarHandle" ∧ (parseMethodDescriptor (ai_km 152).1.desc).map (fun d => d.parameters.length) = some (ai_km 152).2.2.2.2.1) ∧ (ai_km 152).2.2.1 ≤ 60 := by decide +kernel
theorem kf152 : ai_mok 152 := ⟨ko152, GW_of (ai_wat_in kd152) ke152.1, ke152.2.1, ke152.2.2.1, ke152.2.2.2⟩
theorem kg152 : ∀ a, a < 153 → ai_mok a := lt_s kg151 kf152
theorem ko153 : ai_okm 153 = true := by decide +kernel
theorem kd153 : ai_wat (5, 99) = some (Cond.code (ai_km 153).1 (ai_km 153).2.1 (ai_km 153).2.2.1 (ai_km 153).2.2.2.1) := by rfl
theorem ke153 : goodWord (Cond.code (ai_km 153).1 (ai_km 153).2.1 (ai_km 153).2.2.1 (ai_km 153).2.2.2.1) = true ∧ plainName (ai_km 153).1.cls = true ∧ ((ai_km 153).1.cls ≠ "java/lang/invoke/MethodHandle" ∧ (ai_km 153).1.cls ≠ "java/lang/invoke/VarHandle" ∧ (parseMethodDescriptor (ai_km 153).1.desc).map (fun d => d.parameters.length) = some (ai_km 153).2.2.2.2.1) ∧ (ai_km 153).2.2.1 ≤ 60 := by decide +kernel
theorem kf153 : ai_mok 153 := ⟨ko153, GW_of (ai_wat_in kd153) ke153.1, ke153.2.1, ke153.2.2.1, ke153.2.2.2⟩
theorem kg153 : ∀ a, a < 154 → ai_mok a := lt_s kg152 kf153
theorem ko154 : ai_okm 154 = true := by decide +kernel
theorem kd154 : ai_wat (5, 103) = some (Cond.code (ai_km 154).1 (ai_km 154).2.1 (ai_km 154).2.2.1 (ai_km 154).2.2.2.1) := by rfl
theorem ke154 : goodWord (Cond.code (ai_km 154).1 (ai_km 154).2.1 (ai_km 154).2.2.1 (ai_km 154).2.2.2.1) = true ∧ plainName (ai_km 154).1.cls = true ∧ ((ai_km 154).1.cls ≠ "java/lang/invoke/MethodHandle" ∧ (ai_km 154).1.cls ≠ "java/lang/invoke/VarHandle" ∧ (parseMethodDescriptor (ai_km 154).1.desc).map (fun d => d.parameters.length) = some (ai_km 154).2.2.2.2.1) ∧ (ai_km 154).2.2.1 ≤ 60 := by decide +kernel
theorem kf154 : ai_mok 154 := ⟨ko154, GW_of (ai_wat_in kd154) ke154.1, ke154.2.1, ke154.2.2.1, ke154.2.2.2⟩
theorem kg154 : ∀ a, a < 155 → ai_mok a := lt_s kg153 kf154
theorem ko155 : ai_okm 155 = true := by decide +kernel
theorem kd155 : ai_wat (5, 107) = some (Cond.code (ai_km 155).1 (ai_km 155).2.1 (ai_km 155).2.2.1 (ai_km 155).2.2.2.1) := by rfl
theorem ke155 : goodWord (Cond.code (ai_km 155).1 (ai_km 155).2.1 (ai_km 155).2.2.1 (ai_km 155).2.2.2.1) = true ∧ plainName (ai_km 155).1.cls = true ∧ ((ai_km 155).1.cls ≠ "java/lang/invoke/MethodHandle" ∧ (ai_km 155).1.cls ≠ "java/lang/invoke/VarHandle" ∧ (parseMethodDescriptor (ai_km 155).1.desc).map (fun d => d.parameters.length) = some (ai_km 155).2.2.2.2.1) ∧ (ai_km 155).2.2.1 ≤ 60 := by decide +kernel
theorem kf155 : ai_mok 155 := ⟨ko155, GW_of (ai_wat_in kd155) ke155.1, ke155.2.1, ke155.2.2.1, ke155.2.2.2⟩
theorem kg155 : ∀ a, a < 156 → ai_mok a := lt_s kg154 kf155
theorem ko156 : ai_okm 156 = true := by decide +kernel
theorem kd156 : ai_wat (5, 210) = some (Cond.code (ai_km 156).1 (ai_km 156).2.1 (ai_km 156).2.2.1 (ai_km 156).2.2.2.1) := by rfl
theorem ke156 : goodWord (Cond.code (ai_km 156).1 (ai_km 156).2.1 (ai_km 156).2.2.1 (ai_km 156).2.2.2.1) = true ∧ plainName (ai_km 156).1.cls = true ∧ ((ai_km 156).1.cls ≠ "java/lang/invoke/MethodHandle" ∧ (ai_km 156).1.cls ≠ "java/lang/invoke/VarHandle" ∧ (parseMethodDescriptor (ai_km 156).1.desc).map (fun d => d.parameters.length) = some (ai_km 156).2.2.2.2.1) ∧ (ai_km 156).2.2.1 ≤ 60 := by decide +kernel
theorem kf156 : ai_mok 156 := ⟨ko156, GW_of (ai_wat_in kd156) ke156.1, ke156.2.1, ke156.2.2.1, ke156.2.2.2⟩
theorem kg156 : ∀ a, a < 157 → ai_mok a := lt_s kg155 kf156
theorem ko157 : ai_okm 157 = true := by decide +kernel
theorem kd157 : ai_wat (6, 163) = some (Cond.code (ai_km 157).1 (ai_km 157).2.1 (ai_km 157).2.2.1 (ai_km 157).2.2.2.1) := by rfl
theorem ke157 : goodWord (Cond.code (ai_km 157).1 (ai_km 157).2.1 (ai_km 157).2.2.1 (ai_km 157).2.2.2.1) = true ∧ plainName (ai_km 157).1.cls = true ∧ ((ai_km 157).1.cls ≠ "java/lang/invoke/MethodHandle" ∧ (ai_km 157).1.cls ≠ "java/lang/invoke/VarHandle" ∧ (parseMethodDescriptor (ai_km 157).1.desc).map (fun d => d.parameters.length) = some (ai_km 157).2.2.2.2.1) ∧ (ai_km 157).2.2.1 ≤ 60 := by decide +kernel
theorem kf157 : ai_mok 157 := ⟨ko157, GW_of (ai_wat_in kd157) ke157.1, ke157.2.1, ke157.2.2.1, ke157.2.2.2⟩
theorem kg157 : ∀ a, a < 158 → ai_mok a := lt_s kg156 kf157
theorem ko158 : ai_okm 158 = true := by decide +kernel
theorem kd158 : ai_wat (6, 167) = some (Cond.code (ai_km 158).1 (ai_km 158).2.1 (ai_km 158).2.2.1 (ai_km 158).2.2.2.1) := by rfl
theorem ke158 : goodWord (Cond.code (ai_km 158).1 (ai_km 158).2.1 (ai_km 158).2.2.1 (ai_km 158).2.2.2.1) = true ∧ plainName (ai_km 158).1.cls = true ∧ ((ai_km 158).1.cls ≠ "java/lang/invoke/MethodHandle" ∧ (ai_km 158).1.cls ≠ "java/lang/invoke/VarHandle" ∧ (parseMethodDescriptor (ai_km 158).1.desc).map (fun d => d.parameters.length) = some (ai_km 158).2.2.2.2.1) ∧ (ai_km 158).2.2.1 ≤ 60 := by decide +kernel
theorem kf158 : ai_mok 158 := ⟨ko158, GW_of (ai_wat_in kd158) ke158.1, ke158.2.1, ke158.2.2.1, ke158.2.2.2⟩
theorem kg158 : ∀ a, a < 159 → ai_mok a := lt_s kg157 kf158
theorem ko159 : ai_okm 159 = true := by decide +kernel
theorem kd159 : ai_wat (6, 174) = some (Cond.code (ai_km 159).1 (ai_km 159).2.1 (ai_km 159).2.2.1 (ai_km 159).2.2.2.1) := by rfl
theorem ke159 : goodWord (Cond.code (ai_km 159).1 (ai_km 159).2.1 (ai_km 159).2.2.1 (ai_km 159).2.2.2.1) = true ∧ plainName (ai_km 159).1.cls = true ∧ ((ai_km 159).1.cls ≠ "java/lang/invoke/MethodHandle" ∧ (ai_km 159).1.cls ≠ "java/lang/invoke/VarHandle" ∧ (parseMethodDescriptor (ai_km 159).1.desc).map (fun d => d.parameters.length) = some (ai_km 159).2.2.2.2.1) ∧ (ai_km 159).2.2.1 ≤ 60 := by decide +kernel
theorem kf159 : ai_mok 159 := ⟨ko159, GW_of (ai_wat_in kd159) ke159.1, ke159.2.1, ke159.2.2.1, ke159.2.2.2⟩
theorem kg159 : ∀ a, a < 160 → ai_mok a := lt_s kg158 kf159
theorem ko160 : ai_okm 160 = true := by decide +kernel
theorem kd160 : ai_wat (6, 171) = some (Cond.code (ai_km 160).1 (ai_km 160).2.1 (ai_km 160).2.2.1 (ai_km 160).2.2.2.1) := by rfl
theorem ke160 : goodWord (Cond.code (ai_km 160).1 (ai_km 160).2.1 (ai_km 160).2.2.1 (ai_km 160).2.2.2.1) = true ∧ plainName (ai_km 160).1.cls = true ∧ ((ai_km 160).1.cls ≠ "java/lang/invoke/MethodHandle" ∧ (ai_km 160).1.cls ≠ "java/lang/invoke/VarHandle" ∧ (parseMethodDescriptor (ai_km 160).1.desc).map (fun d => d.parameters.length) = some (ai_km 160).2.2.2.2.1) ∧ (ai_km 160).2.2.1 ≤ 60 := by decide +kernel
theorem kf160 : ai_mok 160 := ⟨ko160, GW_of (ai_wat_in kd160) ke160.1, ke160.2.1, ke160.2.2.1, ke160.2.2.2⟩
theorem kg160 : ∀ a, a < 161 → ai_mok a := lt_s kg159 kf160
theorem ko161 : ai_okm 161 = true := by decide +kernel
theorem kd161 : ai_wat (6, 182) = some (Cond.code (ai_km 161).1 (ai_km 161).2.1 (ai_km 161).2.2.1 (ai_km 161).2.2.2.1) := by rfl
theorem ke161 : goodWord (Cond.code (ai_km 161).1 (ai_km 161).2.1 (ai_km 161).2.2.1 (ai_km 161).2.2.2.1) = true ∧ plainName (ai_km 161).1.cls = true ∧ ((ai_km 161).1.cls ≠ "java/lang/invoke/MethodHandle" ∧ (ai_km 161).1.cls ≠ "java/lang/invoke/VarHandle" ∧ (parseMethodDescriptor (ai_km 161).1.desc).map (fun d => d.parameters.length) = some (ai_km 161).2.2.2.2.1) ∧ (ai_km 161).2.2.1 ≤ 60 := by decide +kernel
theorem kf161 : ai_mok 161 := ⟨ko161, GW_of (ai_wat_in kd161) ke161.1, ke161.2.1, ke161.2.2.1, ke161.2.2.2⟩
theorem kg161 : ∀ a, a < 162 → ai_mok a := lt_s kg160 kf161
theorem ko162 : ai_okm 162 = true := by decide +kernel
theorem kd162 : ai_wat (6, 186) = some (Cond.code (ai_km 162).1 (ai_km 162).2.1 (ai_km 162).2.2.1 (ai_km 162).2.2.2.1) := by rfl
theorem ke162 : goodWord (Cond.code (ai_km 162).1 (ai_km 162).2.1 (ai_km 162).2.2.1 (ai_km 162).2.2.2.1) = true ∧ plainName (ai_km 162).1.cls = true ∧ ((ai_km 162).1.cls ≠ "java/lang/invoke/MethodHandle" ∧ (ai_km 162).1.cls ≠ "java/lang/invoke/VarHandle" ∧ (parseMethodDescriptor (ai_km 162).1.desc).map (fun d => d.parameters.length) = some (ai_km 162).2.2.2.2.1) ∧ (ai_km 162).2.2.1 ≤ 60 := by decide +kernel
theorem kf162 : ai_mok 162 := ⟨ko162, GW_of (ai_wat_in kd162) ke162.1, ke162.2.1, ke162.2.2.1, ke162.2.2.2⟩
theorem kg162 : ∀ a, a < 163 → ai_mok a := lt_s kg161 kf162
theorem ko163 : ai_okm 163 = true := by decide +kernel
theorem kd163 : ai_wat (6, 190) = some (Cond.code (ai_km 163).1 (ai_km 163).2.1 (ai_km 163).2.2.1 (ai_km 163).2.2.2.1) := by rfl
theorem ke163 : goodWord (Cond.code (ai_km 163).1 (ai_km 163).2.1 (ai_km 163).2.2.1 (ai_km 163).2.2.2.1) = true ∧ plainName (ai_km 163).1.cls = true ∧ ((ai_km 163).1.cls ≠ "java/lang/invoke/MethodHandle" ∧ (ai_km 163).1.cls ≠ "java/lang/invoke/VarHandle" ∧ (parseMethodDescriptor (ai_km 163).1.desc).map (fun d => d.parameters.length) = some (ai_km 163).2.2.2.2.1) ∧ (ai_km 163).2.2.1 ≤ 60 := by decide +kernel
theorem kf163 : ai_mok 163 := ⟨ko163, GW_of (ai_wat_in kd163) ke163.1, ke163.2.1, ke163.2.2.1, ke163.2.2.2⟩
theorem kg163 : ∀ a, a < 164 → ai_mok a := lt_s kg162 kf163
theorem ko164 : ai_okm 164 = true := by decide +kernel
theorem kd164 : ai_wat (6, 202) = some (Cond.code (ai_km 164).1 (ai_km 164).2.1 (ai_km 164).2.2.1 (ai_km 164).2.2.2.1) := by rfl
theorem ke164 : goodWord (Cond.code (ai_km 164).1 (ai_km 164).2.1 (ai_km 164).2.2.1 (ai_km 164).2.2.2.1) = true ∧ plainName (ai_km 164).1.cls = true ∧ ((ai_km 164).1.cls ≠ "java/lang/invoke/MethodHandle" ∧ (ai_km 164).1.cls ≠ "java/lang/invoke/VarHandle" ∧ (parseMethodDescriptor (ai_km 164).1.desc).map (fun d => d.parameters.length) = some (ai_km 164).2.2.2.2.1) ∧ (ai_km 164).2.2.1 ≤ 60 := by decide +kernel
theorem kf164 : ai_mok 164 := ⟨ko164, GW_of (ai_wat_in kd164) ke164.1, ke164.2.1, ke164.2.2.1, ke164.2.2.2⟩
theorem kg164 : ∀ a, a < 165 → ai_mok a := lt_s kg163 kf164
theorem ko165 : ai_okm 165 = true := by decide +kernel
theorem kd165 : ai_wat (6, 198) = some (Cond.code (ai_km 165).1 (ai_km 165).2.1 (ai_km 165).2.2.1 (ai_km 165).2.2.2.1) := by rfl
theorem ke165 : goodWord (Cond.code (ai_km 165).1 (ai_km 165).2.1 (ai_km 165).2.2.1 (ai_km 165).2.2.2.1) = true ∧ plainName (ai_km 165).1.cls = true ∧ ((ai_km 165).1.cls ≠ "java/lang/invoke/MethodHandle" ∧ (ai_km 165).1.cls ≠ "java/lang/invoke/VarHandle" ∧ (parseMethodDescriptor (ai_km 165).1.desc).map (fun d => d.parameters.length) = some (ai_km 165).2.2.2.2.1) ∧ (ai_km 165).2.2.1 ≤ 60 := by decide +kernel
theorem kf165 : ai_mok 165 := ⟨ko165, GW_of (ai_wat_in kd165) ke165.1, ke165.2.1, ke165.2.2.1, ke165.2.2.2⟩
theorem kg165 : ∀ a, a < 166 → ai_mok a := lt_s kg164 kf165
theorem ko166 : ai_okm 166 = true := by decide +kernel
theorem kd166 : ai_wat (6, 210) = some (Cond.code (ai_km 166).1 (ai_km 166).2.1 (ai_km 166).2.2.1 (ai_km 166).2.2.2.1) := by rfl
theorem ke166 : goodWord (Cond.code (ai_km 166).1 (ai_km 166).2.1 (ai_km 166).2.2.1 (ai_km 166).2.2.2.1) = true ∧ plainName (ai_km 166).1.cls = true ∧ ((ai_km 166).1.cls ≠ "java/lang/invoke/MethodHandle" ∧ (ai_km 166).1.cls ≠ "java/lang/invoke/VarHandle" ∧ (parseMethodDescriptor (ai_km 166).1.desc).map (fun d => d.parameters.length) = some (ai_km 166).2.2.2.2.1) ∧ (ai_km 166).2.2.1 ≤ 60 := by decide +kernel
theorem kf166 : ai_mok 166 := ⟨ko166, GW_of (ai_wat_in kd166) ke166.1, ke166.2.1, ke166.2.2.1, ke166.2.2.2⟩
theorem kg166 : ∀ a, a < 167 → ai_mok a := lt_s kg165 kf166
theorem ko167 : ai_okm 167 = true := by decide +kernel
theorem kd167 : ai_wat (6, 206) = some (Cond.code (ai_km 167).1 (ai_km 167).2.1 (ai_km 167).2.2.1 (ai_km 167).2.2.2.1) := by rfl
theorem ke167 : goodWord (Cond.code (ai_km 167).1 (ai_km 167).2.1 (ai_km 167).2.2.1 (ai_km 167).2.2.2.1) = true ∧ plainName (ai_km 167).1.cls = true ∧ ((ai_km 167).1.cls ≠ "java/lang/invoke/MethodHandle" ∧ (ai_km 167).1.cls ≠ "java/lang/invoke/VarHandle" ∧ (parseMethodDescriptor (ai_km 167).1.desc).map (fun d => d.parameters.length) = some (ai_km 167).2.2.2.2.1) ∧ (ai_km 167).2.2.1 ≤ 60 := by decide +kernel
theorem kf167 : ai_mok 167 := ⟨ko167, GW_of (ai_wat_in kd167) ke167.1, ke167.2.1, ke167.2.2.1, ke167.2.2.2⟩
theorem kg167 : ∀ a, a < 168 → ai_mok a := lt_s kg166 kf167
theorem ko168 : ai_okm 168 = true := by decide +kernel
theorem kd168 : ai_wat (6, 194) = some (Cond.code (ai_km 168).1 (ai_km 168).2.1 (ai_km 168).2.2.1 (ai_km 168).2.2.2.1) := by rfl
theorem ke168 : goodWord (Cond.code (ai_km 168).1 (ai_km 168).2.1 (ai_km 168).2.2.1 (ai_km 168).2.2.2.1) = true ∧ plainName (ai_km 168).1.cls = true ∧ ((ai_km 168).1.cls ≠ "java/lang/invoke/MethodHandle" ∧ (ai_km 168).1.cls ≠ "java/lang/invoke/VarHandle" ∧ (parseMethodDescriptor (ai_km 168).1.desc).map (fun d => d.parameters.length) = some (ai_km 168).2.2.2.2.1) ∧ (ai_km 168).2.2.1 ≤ 60 := by decide +kernel
theorem kf168 : ai_mok 168 := ⟨ko168, GW_of (ai_wat_in kd168) ke168.1, ke168.2.1, ke168.2.2.1, ke168.2.2.2⟩
theorem kg168 : ∀ a, a < 169 → ai_mok a := lt_s kg167 kf168
theorem ko169 : ai_okm 169 = true := by decide +kernel
theorem kd169 : ai_wat (6, 178) = some (Cond.code (ai_km 169).1 (ai_km 169).2.1 (ai_km 169).2.2.1 (ai_km 169).2.2.2.1) := by rfl
theorem ke169 : goodWord (Cond.code (ai_km 169).1 (ai_km 169).2.1 (ai_km 169).2.2.1 (ai_km 169).2.2.2.1) = true ∧ plainName (ai_km 169).1.cls = true ∧ ((ai_km 169).1.cls ≠ "java/lang/invoke/MethodHandle" ∧ (ai_km 169).1.cls ≠ "java/lang/invoke/VarHandle" ∧ (parseMethodDescriptor (ai_km 169).1.desc).map (fun d => d.parameters.length) = some (ai_km 169).2.2.2.2.1) ∧ (ai_km 169).2.2.1 ≤ 60 := by decide +kernel
theorem kf169 : ai_mok 169 := ⟨ko169, GW_of (ai_wat_in kd169) ke169.1, ke169.2.1, ke169.2.2.1, ke169.2.2.2⟩
theorem kg169 : ∀ a, a < 170 → ai_mok a := lt_s kg168 kf169
theorem ko170 : ai_okm 170 = true := by decide +kernel
theorem kd170 : ai_wat (6, 234) = some (Cond.code (ai_km 170).1 (ai_km 170).2.1 (ai_km 170).2.2.1 (ai_km 170).2.2.2.1) := by rfl
theorem ke170 : goodWord (Cond.code (ai_km 170).1 (ai_km 170).2.1 (ai_km 170).2.2.1 (ai_km 170).2.2.2.1) = true ∧ plainName (ai_km 170).1.cls = true ∧ ((ai_km 170).1.cls ≠ "java/lang/invoke/MethodHandle" ∧ (ai_km 170).1.cls ≠ "java/lang/invoke/VarHandle" ∧ (parseMethodDescriptor (ai_km 170).1.desc).map (fun d => d.parameters.length) = some (ai_km 170).2.2.2.2.1) ∧ (ai_km 170).2.2.1 ≤ 60 := by decide +kernel
theorem kf170 : ai_mok 170 := ⟨ko170, GW_of (ai_wat_in kd170) ke170.1, ke170.2.1, ke170.2.2.1, ke170.2.2.2⟩
theorem kg170 : ∀ a, a < 171 → ai_mok a := lt_s kg169 kf170
theorem ko171 : ai_okm 171 = true := by decide +kernel
theorem kd171 : ai_wat (6, 230) = some (Cond.code (ai_km 171).1 (ai_km 171).2.1 (ai_km 171).2.2.1 (ai_km 171).2.2.2.1) := by rfl
theorem ke171 : goodWord (Cond.code (ai_km 171).1 (ai_km 171).2.1 (ai_km 171).2.2.1 (ai_km 171).2.2.2.1) = true ∧ plainName (ai_km 171).1.cls = true ∧ ((ai_km 171).1.cls ≠ "java/lang/invoke/MethodHandle" ∧ (ai_km 171).1.cls ≠ "java/lang/invoke/VarHandle" ∧ (parseMethodDescriptor (ai_km 171).1.desc).map (fun d => d.parameters.length) = some (ai_km 171).2.2.2.2.1) ∧ (ai_km 171).2.2.1 ≤ 60 := by decide +kernel
theorem kf171 : ai_mok 171 := ⟨ko171, GW_of (ai_wat_in kd171) ke171.1, ke171.2.1, ke171.2.2.1, ke171.2.2.2⟩
theorem kg171 : ∀ a, a < 172 → ai_mok a := lt_s kg170 kf171
theorem ko172 : ai_okm 172 = true := by decide +kernel
theorem kd172 : ai_wat (6, 226) = some (Cond.code (ai_km 172).1 (ai_km 172).2.1 (ai_km 172).2.2.1 (ai_km 172).2.2.2.1) := by rfl
theorem ke172 : goodWord (Cond.code (ai_km 172).1 (ai_km 172).2.1 (ai_km 172).2.2.1 (ai_km 172).2.2.2.1) = true ∧ plainName (ai_km 172).1.cls = true ∧ ((ai_km 172).1.cls ≠ "java/lang/invoke/MethodHandle" ∧ (ai_km 172).1.cls ≠ "java/lang/invoke/VarHandle" ∧ (parseMethodDescriptor (ai_km 172).1.desc).map (fun d => d.parameters.length) = some (ai_km 172).2.2.2.2.1) ∧ (ai_km 172).2.2.1 ≤ 60 := by decide +kernel
theorem kf172 : ai_mok 172 := ⟨ko172, GW_of (ai_wat_in kd172) ke172.1, ke172.2.1, ke172.2.2.1, ke172.2.2.2⟩
theorem kg172 : ∀ a, a < 173 → ai_mok a := lt_s kg171 kf172
theorem ko173 : ai_okm 173 = true := by decide +kernel
theorem kd173 : ai_wat (6, 222) = some (Cond.code (ai_km 173).1 (ai_km 173).2.1 (ai_km 173).2.2.1 (ai_km 173).2.2.2.1) := by rfl
theorem ke173 : goodWord (Cond.code (ai_km 173).1 (ai_km 173).2.1 (ai_km 173).2.2.1 (ai_km 173).2.2.2.1) = true ∧ plainName (ai_km 173).1.cls = true ∧ ((ai_km 173).1.cls ≠ "java/lang/invoke/MethodHandle" ∧ (ai_km 173).1.cls ≠ "java/lang/invoke/VarHandle" ∧ (parseMethodDescriptor (ai_km 173).1.desc).map (fun d => d.parameters.length) = some (ai_km 173).2.2.2.2.1) ∧ (ai_km 173).2.2.1 ≤ 60 := by decide +kernel
theorem kf173 : ai_mok 173 := ⟨ko173, GW_of (ai_wat_in kd173) ke173.1, ke173.2.1, ke173.2.2.1, ke173.2.2.2⟩
theorem kg173 : ∀ a, a < 174 → ai_mok a := lt_s kg172 kf173
theorem ko174 : ai_okm 174 = true := by decide +kernel
theorem kd174 : ai_wat (6, 218) = some (Cond.code (ai_km 174).1 (ai_km 174).2.1 (ai_km 174).2.2.1 (ai_km 174).2.2.2.1) := by rfl
theorem ke174 : goodWord (Cond.code (ai_km 174).1 (ai_km 174).2.1 (ai_km 174).2.2.1 (ai_km 174).2.2.2.1) = true ∧ plainName (ai_km 174).1.cls = true ∧ ((ai_km 174).1.cls ≠ "java/lang/invoke/MethodHandle" ∧ (ai_km 174).1.cls ≠ "java/lang/invoke/VarHandle" ∧ (parseMethodDescriptor (ai_km 174).1.desc).map (fun d => d.parameters.length) = some (ai_km 174).2.2.2.2.1) ∧ (ai_km 174).2.2.1 ≤ 60 := by decide +kernel
theorem kf174 : ai_mok 174 := ⟨ko174, GW_of (ai_wat_in kd174) ke174.1, ke174.2.1, ke174.2.2.1, ke174.2.2.2⟩
theorem kg174 : ∀ a, a < 175 → ai_mok a := lt_s kg173 kf174
theorem ko175 : ai_okm 175 = true := by decide +kernel
theorem kd175 : ai_wat (6, 214) = some (Cond.code (ai_km 175).1 (ai_km 175).2.1 (ai_km 175).2.2.1 (ai_km 175).2.2.2.1) := by rfl
theorem ke175 : goodWord (Cond.code (ai_km 175).1 (ai_km 175).2.1 (ai_km 175).2.2.1 (ai_km 175).2.2.2.1) = true ∧ plainName (ai_km 175).1.cls = true ∧ ((ai_km 175).1.cls ≠ "java/lang/invoke/MethodHandle" ∧ (ai_km 175).1.cls ≠ "java/lang/invoke/VarHandle" ∧ (parseMethodDescriptor (ai_km 175).1.desc).map (fun d => d.parameters.length) = some (ai_km 175).2.2.2.2.1) ∧ (ai_km 175).2.2.1 ≤ 60 := by decide +kernel
theorem kf175 : ai_mok 175 := ⟨ko175, GW_of (ai_wat_in kd175) ke175.1, ke175.2.1, ke175.2.2.1, ke175.2.2.2⟩
theorem kg175 : ∀ a, a < 176 → ai_mok a := lt_s kg174 kf175
theorem ko176 : ai_okm 176 = true := by decide +kernel
theorem kd176 : ai_wat (7, 2) = some (Cond.code (ai_km 176).1 (ai_km 176).2.1 (ai_km 176).2.2.1 (ai_km 176).2.2.2.1) := by rfl
theorem ke176 : goodWord (Cond.code (ai_km 176).1 (ai_km 176).2.1 (ai_km 176).2.2.1 (ai_km 176).2.2.2.1) = true ∧ plainName (ai_km 176).1.cls = true ∧ ((ai_km 176).1.cls ≠ "java/lang/invoke/MethodHandle" ∧ (ai_km 176).1.cls ≠ "java/lang/invoke/VarHandle" ∧ (parseMethodDescriptor (ai_km 176).1.desc).map (fun d => d.parameters.length) = some (ai_km 176).2.2.2.2.1) ∧ (ai_km 176).2.2.1 ≤ 60 := by decide +kernel
theorem kf176 : ai_mok 176 := ⟨ko176, GW_of (ai_wat_in kd176) ke176.1, ke176.2.1, ke176.2.2.1, ke176.2.2.2⟩
theorem kg176 : ∀ a, a < 177 → ai_mok a := lt_s kg175 kf176
theorem ko177 : ai_okm 177 = true := by decide +kernel
theorem kd177 : ai_wat (7, 6) = some (Cond.code (ai_km 177).1 (ai_km 177).2.1 (ai_km 177).2.2.1 (ai_km 177).2.2.2.1) := by rfl
theorem ke177 : goodWord (Cond.code (ai_km 177).1 (ai_km 177).2.1 (ai_km 177).2.2.1 (ai_km 177).2.2.2.1) = true ∧ plainName (ai_km 177).1.cls = true ∧ ((ai_km 177).1.cls ≠ "java/lang/invoke/MethodHandle" ∧ (ai_km 177).1.cls ≠ "java/lang/invoke/VarHandle" ∧ (parseMethodDescriptor (ai_km 177).1.desc).map (fun d => d.parameters.length) = some (ai_km 177).2.2.2.2.1) ∧ (ai_km 177).2.2.1 ≤ 60 := by decide +kernel
theorem kf177 : ai_mok 177 := ⟨ko177, GW_of (ai_wat_in kd177) ke177.1, ke177.2.1, ke177.2.2.1, ke177.2.2.2⟩
theorem kg177 : ∀ a, a < 178 → ai_mok a := lt_s kg176 kf177
theorem ko178 : ai_okm 178 = true := by decide +kernel
theorem kd178 : ai_wat (7, 10) = some (Cond.code (ai_km 178).1 (ai_km 178).2.1 (ai_km 178).2.2.1 (ai_km 178).2.2.2.1) := by rfl
theorem ke178 : goodWord (Cond.code (ai_km 178).1 (ai_km 178).2.1 (ai_km 178).2.2.1 (ai_km 178).2.2.2.1) = true ∧ plainName (ai_km 178).1.cls = true ∧ ((ai_km 178).1.cls ≠ "java/lang/invoke/MethodHandle" ∧ (ai_km 178).1.cls ≠ "java/lang/invoke/VarHandle" ∧ (parseMethodDescriptor (ai_km 178).1.desc).map (fun d => d.parameters.length) = some (ai_km 178).2.2.2.2.1) ∧ (ai_km 178).2.2.1 ≤ 60 := by decide +kernel
theorem kf178 : ai_mok 178 := ⟨ko178, GW_of (ai_wat_in kd178) ke178.1, ke178.2.1, ke178.2.2.1, ke178.2.2.2⟩
theorem kg178 : ∀ a, a < 179 → ai_mok a := lt_s kg177 kf178
theorem ko179 : ai_okm 179 = true := by decide +kernel
theorem kd179 : ai_wat (6, 238) = some (Cond.code (ai_km 179).1 (ai_km 179).2.1 (ai_km 179).2.2.1 (ai_km 179).2.2.2.1) := by rfl
theorem ke179 : goodWord (Cond.code (ai_km 179).1 (ai_km 179).2.1 (ai_km 179).2.2.1 (ai_km 179).2.2.2.1) = true ∧ plainName (ai_km 179).1.cls = true ∧ ((ai_km 179).1.cls ≠ "java/lang/invoke/MethodHandle" ∧ (ai_km 179).1.cls ≠ "java/lang/invoke/VarHandle" ∧ (parseMethodDescriptor (ai_km 179).1.desc).map (fun d => d.parameters.length) = some (ai_km 179).2.2.2.2.1) ∧ (ai_km 179).2.2.1 ≤ 60 := by decide +kernel
theorem kf179 : ai_mok 179 := ⟨ko179, GW_of (ai_wat_in kd179) ke179.1, ke179.2.1, ke179.2.2.1, ke179.2.2.2⟩
theorem kg179 : ∀ a, a < 180 → ai_mok a := lt_s kg178 kf179
theorem ko180 : ai_okm 180 = true := by decide +kernel
theorem kd180 : ai_wat (7, 14) = some (Cond.code (ai_km 180).1 (ai_km 180).2.1 (ai_km 180).2.2.1 (ai_km 180).2.2.2.1) := by rfl
theorem ke180 : goodWord (Cond.code (ai_km 180).1 (ai_km 180).2.1 (ai_km 180).2.2.1 (ai_km 180).2.2.2.1) = true ∧ plainName (ai_km 180).1.cls = true ∧ ((ai_km 180).1.cls ≠ "java/lang/invoke/MethodHandle" ∧ (ai_km 180).1.cls ≠ "java/lang/invoke/VarHandle" ∧ (parseMethodDescriptor (ai_km 180).1.desc).map (fun d => d.parameters.length) = some (ai_km 180).2.2.2.2.1) ∧ (ai_km 180).2.2.1 ≤ 60 := by decide +kernel
theorem kf180 : ai_mok 180 := ⟨ko180, GW_of (ai_wat_in kd180) ke180.1, ke180.2.1, ke180.2.2.1, ke180.2.2.2⟩
theorem kg180 : ∀ a, a < 181 → ai_mok a := lt_s kg179 kf180
theorem ko181 : ai_okm 181 = true := by decide +kernel
theorem kd181 : ai_wat (7, 22) = some (Cond.code (ai_km 181).1 (ai_km 181).2.1 (ai_km 181).2.2.1 (ai_km 181).2.2.2.1) := by rfl
theorem ke181 : goodWord (Cond.code (ai_km 181).1 (ai_km 181).2.1 (ai_km 181).2.2.1 (ai_km 181).2.2.2.1) = true ∧ plainName (ai_km 181).1.cls = true ∧ ((ai_km 181).1.cls ≠ "java/lang/invoke/MethodHandle" ∧ (ai_km 181).1.cls ≠ "java/lang/invoke/VarHandle" ∧ (parseMethodDescriptor (ai_km 181).1.desc).map (fun d => d.parameters.length) = some (ai_km 181).2.2.2.2.1) ∧ (ai_km 181).2.2.1 ≤ 60 := by decide +kernel
theorem kf181 : ai_mok 181 := ⟨ko181, GW_of (ai_wat_in kd181) ke181.1, ke181.2.1, ke181.2.2.1, ke181.2.2.2⟩
theorem kg181 : ∀ a, a < 182 → ai_mok a := lt_s kg180 kf181
theorem ko182 : ai_okm 182 = true := by decide +kernel
theorem kd182 : ai_wat (7, 29) = some (Cond.code (ai_km 182).1 (ai_km 182).2.1 (ai_km 182).2.2.1 (ai_km 182).2.2.2.1) := by rfl
theorem ke182 : goodWord (Cond.code (ai_km 182).1 (ai_km 182).2.1 (ai_km 182).2.2.1 (ai_km 182).2.2.2.1) = true ∧ plainName (ai_km 182).1.cls = true ∧ ((ai_km 182).1.cls ≠ "java/lang/invoke/MethodHandle" ∧ (ai_km 182).1.cls ≠ "java/lang/invoke/VarHandle" ∧ (parseMethodDescriptor (ai_km 182).1.desc).map (fun d => d.parameters.length) = some (ai_km 182).2.2.2.2.1) ∧ (ai_km 182).2.2.1 ≤ 60 := by decide +kernel
theorem kf182 : ai_mok 182 := ⟨ko182, GW_of (ai_wat_in kd182) ke182.1, ke182.2.1, ke182.2.2.1, ke182.2.2.2⟩
theorem kg182 : ∀ a, a < 183 → ai_mok a := lt_s kg181 kf182
theorem ko183 : ai_okm 183 = true := by decide +kernel
theorem kd183 : ai_wat (7, 26) = some (Cond.code (ai_km 183).1 (ai_km 183).2.1 (ai_km 183).2.2.1 (ai_km 183).2.2.2.1) := by rfl
theorem ke183 : goodWord (Cond.code (ai_km 183).1 (ai_km 183).2.1 (ai_km 183).2.2.1 (ai_km 183).2.2.2.1) = true ∧ plainName (ai_km 183).1.cls = true ∧ ((ai_km 183).1.cls ≠ "java/lang/invoke/MethodHandle" ∧ (ai_km 183).1.cls ≠ "java/lang/invoke/VarHandle" ∧ (parseMethodDescriptor (ai_km 183).1.desc).map (fun d => d.parameters.length) = some (ai_km 183).2.2.2.2.1) ∧ (ai_km 183).2.2.1 ≤ 60 := by decide +kernel
theorem kf183 : ai_mok 183 := ⟨ko183, GW_of (ai_wat_in kd183) ke183.1, ke183.2.1, ke183.2.2.1, ke183.2.2.2⟩
theorem kg183 : ∀ a, a < 184 → ai_mok a := lt_s kg182 kf183
theorem ko184 : ai_okm 184 = true := by decide +kernel
theorem kd184 : ai_wat (7, 34) = some (Cond.code (ai_km 184).1 (ai_km 184).2.1 (ai_km 184).2.2.1 (ai_km 184).2.2.2.1) := by rfl
theorem ke184 : goodWord (Cond.code (ai_km 184).1 (ai_km 184).2.1 (ai_km 184).2.2.1 (ai_km 184).2.2.2.1) = true ∧ plainName (ai_km 184).1.cls = true ∧ ((ai_km 184).1.cls ≠ "java/lang/invoke/MethodHandle" ∧ (ai_km 184).1.cls ≠ "java/lang/invoke/VarHandle" ∧ (parseMethodDescriptor (ai_km 184).1.desc).map (fun d => d.parameters.length) = some (ai_km 184).2.2.2.2.1) ∧ (ai_km 184).2.2.1 ≤ 60 := by decide +kernel
theorem kf184 : ai_mok 184 := ⟨ko184, GW_of (ai_wat_in kd184) ke184.1, ke184.2.1, ke184.2.2.1, ke184.2.2.2⟩
theorem kg184 : ∀ a, a < 185 → ai_mok a := lt_s kg183 kf184
theorem ko185 : ai_okm 185 = true := by decide +kernel
theorem kd185 : ai_wat (7, 38) = some (Cond.code (ai_km 185).1 (ai_km 185).2.1 (ai_km 185).2.2.1 (ai_km 185).2.2.2.1) := by rfl
theorem ke185 : goodWord (Cond.code (ai_km 185).1 (ai_km 185).2.1 (ai_km 185).2.2.1 (ai_km 185).2.2.2.1) = true ∧ plainName (ai_km 185).1.cls = true ∧ ((ai_km 185).1.cls ≠ "java/lang/invoke/MethodHandle" ∧ (ai_km 185).1.cls ≠ "java/lang/invoke/VarHandle" ∧ (parseMethodDescriptor (ai_km 185).1.desc).map (fun d => d.parameters.length) = some (ai_km 185).2.2.2.2.1) ∧ (ai_km 185).2.2.1 ≤ 60 := by decide +kernel
theorem kf185 : ai_mok 185 := ⟨ko185, GW_of (ai_wat_in kd185) ke185.1, ke185.2.1, ke185.2.2.1, ke185.2.2.2⟩
theorem kg185 : ∀ a, a < 186 → ai_mok a := lt_s kg184 kf185
theorem ko186 : ai_okm 186 = true := by decide +kernel
theorem kd186 : ai_wat (7, 18) = some (Cond.code (ai_km 186).1 (ai_km 186).2.1 (ai_km 186).2.2.1 (ai_km 186).2.2.2.1) := by rfl
theorem ke186 : goodWord (Cond.code (ai_km 186).1 (ai_km 186).2.1 (ai_km 186).2.2.1 (ai_km 186).2.2.2.1) = true ∧ plainName (ai_km 186).1.cls = true ∧ ((ai_km 186).1.cls ≠ "java/lang/invoke/MethodHandle" ∧ (ai_km 186).1.cls ≠ "java/lang/invoke/VarHandle" ∧ (parseMethodDescriptor (ai_km 186).1.desc).map (fun d => d.parameters.length) = some (ai_km 186).2.2.2.2.1) ∧ (ai_km 186).2.2.1 ≤ 60 := by decide +kernel
theorem kf186 : ai_mok 186 := ⟨ko186, GW_of (ai_wat_in kd186) ke186.1, ke186.2.1, ke186.2.2.1, ke186.2.2.2⟩
theorem kg186 : ∀ a, a < 187 → ai_mok a := lt_s kg185 kf186
theorem ko187 : ai_okm 187 = true := by decide +kernel
theorem kd187 : ai_wat (7, 44) = some (Cond.code (ai_km 187).1 (ai_km 187).2.1 (ai_km 187).2.2.1 (ai_km 187).2.2.2.1) := by rfl
theorem ke187 : goodWord (Cond.code (ai_km 187).1 (ai_km 187).2.1 (ai_km 187).2.2.1 (ai_km 187).2.2.2.1) = true ∧ plainName (ai_km 187).1.cls = true ∧ ((ai_km 187).1.cls ≠ "java/lang/invoke/MethodHandle" ∧ (ai_km 187).1.cls ≠ "java/lang/invoke/VarHandle" ∧ (parseMethodDescriptor (ai_km 187).1.desc).map (fun d => d.parameters.length) = some (ai_km 187).2.2.2.2.1) ∧ (ai_km 187).2.2.1 ≤ 60 := by decide +kernel
theorem kf187 : ai_mok 187 := ⟨ko187, GW_of (ai_wat_in kd187) ke187.1, ke187.2.1, ke187.2.2.1, ke187.2.2.2⟩
theorem kg187 : ∀ a, a < 188 → ai_mok a := lt_s kg186 kf187
theorem ko188 : ai_okm 188 = true := by decide +kernel
theorem kd188 : ai_wat (7, 48) = some (Cond.code (ai_km 188).1 (ai_km 188).2.1 (ai_km 188).2.2.1 (ai_km 188).2.2.2.1) := by rfl
theorem ke188 : goodWord (Cond.code (ai_km 188).1 (ai_km 188).2.1 (ai_km 188).2.2.1 (ai_km 188).2.2.2.1) = true ∧ plainName (ai_km 188).1.cls = true ∧ ((ai_km 188).1.cls ≠ "java/lang/invoke/MethodHandle" ∧ (ai_km 188).1.cls ≠ "java/lang/invoke/VarHandle" ∧ (parseMethodDescriptor (ai_km 188).1.desc).map (fun d => d.parameters.length) = some (ai_km 188).2.2.2.2.1) ∧ (ai_km 188).2.2.1 ≤ 60 := by decide +kernel
theorem kf188 : ai_mok 188 := ⟨ko188, GW_of (ai_wat_in kd188) ke188.1, ke188.2.1, ke188.2.2.1, ke188.2.2.2⟩
theorem kg188 : ∀ a, a < 189 → ai_mok a := lt_s kg187 kf188
theorem ko189 : ai_okm 189 = true := by decide +kernel
theorem kd189 : ai_wat (7, 52) = some (Cond.code (ai_km 189).1 (ai_km 189).2.1 (ai_km 189).2.2.1 (ai_km 189).2.2.2.1) := by rfl
theorem ke189 : goodWord (Cond.code (ai_km 189).1 (ai_km 189).2.1 (ai_km 189).2.2.1 (ai_km 189).2.2.2.1) = true ∧ plainName (ai_km 189).1.cls = true ∧ ((ai_km 189).1.cls ≠ "java/lang/invoke/MethodHandle" ∧ (ai_km 189).1.cls ≠ "java/lang/invoke/VarHandle" ∧ (parseMethodDescriptor (ai_km 189).1.desc).map (fun d => d.parameters.length) = some (ai_km 189).2.2.2.2.1) ∧ (ai_km 189).2.2.1 ≤ 60 := by decide +kernel
theorem kf189 : ai_mok 189 := ⟨ko189, GW_of (ai_wat_in kd189) ke189.1, ke189.2.1, ke189.2.2.1, ke189.2.2.2⟩
theorem kg189 : ∀ a, a < 190 → ai_mok a := lt_s kg188 kf189
theorem ko190 : ai_okm 190 = true := by decide +kernel
theorem kd190 : ai_wat (7, 63) = some (Cond.code (ai_km 190).1 (ai_km 190).2.1 (ai_km 190).2.2.1 (ai_km 190).2.2.2.1) := by rfl
theorem ke190 : goodWord (Cond.code (ai_km 190).1 (ai_km 190).2.1 (ai_km 190).2.2.1 (ai_km 190).2.2.2.1) = true ∧ plainName (ai_km 190).1.cls = true ∧ ((ai_km 190).1.cls ≠ "java/lang/invoke/MethodHandle" ∧ (ai_km 190).1.cls ≠ "java/lang/invoke/VarHandle" ∧ (parseMethodDescriptor (ai_km 190).1.desc).map (fun d => d.parameters.length) = some (ai_km 190).2.2.2.2.1) ∧ (ai_km 190).2.2.1 ≤ 60 := by decide +kernel
theorem kf190 : ai_mok 190 := ⟨ko190, GW_of (ai_wat_in kd190) ke190.1, ke190.2.1, ke190.2.2.1, ke190.2.2.2⟩
theorem kg190 : ∀ a, a < 191 → ai_mok a := lt_s kg189 kf190
theorem ko191 : ai_okm 191 = true := by decide +kernel
theorem kd191 : ai_wat (7, 60) = some (Cond.code (ai_km 191).1 (ai_km 191).2.1 (ai_km 191).2.2.1 (ai_km 191).2.2.2.1) := by rfl
theorem ke191 : goodWord (Cond.code (ai_km 191).1 (ai_km 191).2.1 (ai_km 191).2.2.1 (ai_km 191).2.2.2.1) = true ∧ plainName (ai_km 191).1.cls = true ∧ ((ai_km 191).1.cls ≠ "java/lang/invoke/MethodHandle" ∧ (ai_km 191).1.cls ≠ "java/lang/invoke/VarHandle" ∧ (parseMethodDescriptor (ai_km 191).1.desc).map (fun d => d.parameters.length) = some (ai_km 191).2.2.2.2.1) ∧ (ai_km 191).2.2.1 ≤ 60 := by decide +kernel
theorem kf191 : ai_mok 191 := ⟨ko191, GW_of (ai_wat_in kd191) ke191.1, ke191.2.1, ke191.2.2.1, ke191.2.2.2⟩
theorem kg191 : ∀ a, a < 192 → ai_mok a := lt_s kg190 kf191
