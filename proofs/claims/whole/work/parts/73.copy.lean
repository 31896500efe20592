/-! ===== printed by wip/gen/tmpl.py: states copied ===== -/
theorem bec_59_16 {V : ai_V} {z : Ss} {rm : Int32} (hz : cS z V 16) (hr : gi V 59 2 = rm) : ∃ V', d_State_becomes V = some V' ∧ cS (z.1, ai_min z.2.1 rm, z.2.2.1, z.2.2.2) V' 59 ∧ Fr ([(59, 0), (59, 1)], [60, 61]) V V' := by
  obtain ⟨z1, z2, z3⟩ := hz
  rw [d_State_becomes]
  simp only [gi_si]
  simp only [z1, z2, hr]
  refine loop_n (fun n (_ : Unit) x V => d_State_becomes_25 n x V) (fun c : ai_V => some c)
    (fun i _ V1 => gi V1 59 0 = z.1 ∧ gi V1 59 1 = ai_min z.2.1 rm ∧ (∀ k, k < i → ga V1 60 k = z.2.2.1 k ∧ ga V1 61 k = z.2.2.2 k) ∧ Fr ([(59, 0), (59, 1)], [60, 61]) V V1)
    (fun V' => cS (z.1, ai_min z.2.1 rm, z.2.2.1, z.2.2.2) V' 59 ∧ Fr ([(59, 0), (59, 1)], [60, 61]) V V') 6 ?_ ?_ 6 0 ai_N () _ (by omega) (N_gt (by omega)) ⟨?_, ?_, fun k hk => absurd hk (by omega), Fr.si (Fr.si Fr.rf rfl) rfl⟩
  · rintro n _ i V1 hi ⟨a1, a2, a3, hF⟩
    have hin : ai_in (on i) 6 := by rw [on_in (by omega)]; omega
    show ∃ a' V', d_State_becomes_25 (n + 1) (on i) V1 = _ ∧ _
    rw [d_State_becomes_25, if_neg (by rw [show (6 : Int32) = on 6 from rfl, on_le (by omega) (by omega)]; omega), if_pos hin, if_pos hin, if_pos hin, if_pos hin, on_s, on_nn (by omega)]
    refine ⟨(), _, rfl, a1, a2, fun k hk => ⟨?_, ?_⟩, Fr.sa (Fr.sa hF rfl) rfl⟩
    · rw [ga_sa_ne (by decide), ga_sa, hF.ga 17 rfl]
      by_cases e : k = i
      · rw [if_pos ⟨rfl, e⟩, e]; exact (z3 i hi).1
      · rw [if_neg (fun hc => e hc.2)]; exact (a3 k (by omega)).1
    · rw [ga_sa, ga_sa_ne (by decide), hF.ga 18 rfl, ga_sa_ne (by decide)]
      by_cases e : k = i
      · rw [if_pos ⟨rfl, e⟩, e]; exact (z3 i hi).2
      · rw [if_neg (fun hc => e hc.2)]; exact (a3 k (by omega)).2
  · rintro n _ V1 ⟨a1, a2, a3, hF⟩
    show ∃ c, d_State_becomes_25 (n + 1) (on 6) V1 = _ ∧ _
    rw [d_State_becomes_25, if_pos (by decide)]
    exact ⟨V1, rfl, ⟨a1, a2, a3⟩, hF⟩
  · simp only [gi_si]; simp
  · simp only [gi_si]; simp

theorem bec_26_16 {V : ai_V} {z : Ss} {rm : Int32} (hz : cS z V 16) (hr : gi V 26 2 = rm) : ∃ V', d_State_becomes_26_16 V = some V' ∧ cS (z.1, ai_min z.2.1 rm, z.2.2.1, z.2.2.2) V' 26 ∧ Fr ([(26, 0), (26, 1)], [27, 28]) V V' := by
  obtain ⟨z1, z2, z3⟩ := hz
  rw [d_State_becomes_26_16]
  simp only [gi_si]
  simp only [z1, z2, hr]
  refine loop_n (fun n (_ : Unit) x V => d_State_becomes_26_16_25 n x V) (fun c : ai_V => some c)
    (fun i _ V1 => gi V1 26 0 = z.1 ∧ gi V1 26 1 = ai_min z.2.1 rm ∧ (∀ k, k < i → ga V1 27 k = z.2.2.1 k ∧ ga V1 28 k = z.2.2.2 k) ∧ Fr ([(26, 0), (26, 1)], [27, 28]) V V1)
    (fun V' => cS (z.1, ai_min z.2.1 rm, z.2.2.1, z.2.2.2) V' 26 ∧ Fr ([(26, 0), (26, 1)], [27, 28]) V V') 6 ?_ ?_ 6 0 ai_N () _ (by omega) (N_gt (by omega)) ⟨?_, ?_, fun k hk => absurd hk (by omega), Fr.si (Fr.si Fr.rf rfl) rfl⟩
  · rintro n _ i V1 hi ⟨a1, a2, a3, hF⟩
    have hin : ai_in (on i) 6 := by rw [on_in (by omega)]; omega
    show ∃ a' V', d_State_becomes_26_16_25 (n + 1) (on i) V1 = _ ∧ _
    rw [d_State_becomes_26_16_25, if_neg (by rw [show (6 : Int32) = on 6 from rfl, on_le (by omega) (by omega)]; omega), if_pos hin, if_pos hin, if_pos hin, if_pos hin, on_s, on_nn (by omega)]
    refine ⟨(), _, rfl, a1, a2, fun k hk => ⟨?_, ?_⟩, Fr.sa (Fr.sa hF rfl) rfl⟩
    · rw [ga_sa_ne (by decide), ga_sa, hF.ga 17 rfl]
      by_cases e : k = i
      · rw [if_pos ⟨rfl, e⟩, e]; exact (z3 i hi).1
      · rw [if_neg (fun hc => e hc.2)]; exact (a3 k (by omega)).1
    · rw [ga_sa, ga_sa_ne (by decide), hF.ga 18 rfl, ga_sa_ne (by decide)]
      by_cases e : k = i
      · rw [if_pos ⟨rfl, e⟩, e]; exact (z3 i hi).2
      · rw [if_neg (fun hc => e hc.2)]; exact (a3 k (by omega)).2
  · rintro n _ V1 ⟨a1, a2, a3, hF⟩
    show ∃ c, d_State_becomes_26_16_25 (n + 1) (on 6) V1 = _ ∧ _
    rw [d_State_becomes_26_16_25, if_pos (by decide)]
    exact ⟨V1, rfl, ⟨a1, a2, a3⟩, hF⟩
  · simp only [gi_si]; simp
  · simp only [gi_si]; simp

theorem bec_29_16 {V : ai_V} {z : Ss} {rm : Int32} (hz : cS z V 16) (hr : gi V 29 2 = rm) : ∃ V', d_State_becomes_29_16 V = some V' ∧ cS (z.1, ai_min z.2.1 rm, z.2.2.1, z.2.2.2) V' 29 ∧ Fr ([(29, 0), (29, 1)], [30, 31]) V V' := by
  obtain ⟨z1, z2, z3⟩ := hz
  rw [d_State_becomes_29_16]
  simp only [gi_si]
  simp only [z1, z2, hr]
  refine loop_n (fun n (_ : Unit) x V => d_State_becomes_29_16_25 n x V) (fun c : ai_V => some c)
    (fun i _ V1 => gi V1 29 0 = z.1 ∧ gi V1 29 1 = ai_min z.2.1 rm ∧ (∀ k, k < i → ga V1 30 k = z.2.2.1 k ∧ ga V1 31 k = z.2.2.2 k) ∧ Fr ([(29, 0), (29, 1)], [30, 31]) V V1)
    (fun V' => cS (z.1, ai_min z.2.1 rm, z.2.2.1, z.2.2.2) V' 29 ∧ Fr ([(29, 0), (29, 1)], [30, 31]) V V') 6 ?_ ?_ 6 0 ai_N () _ (by omega) (N_gt (by omega)) ⟨?_, ?_, fun k hk => absurd hk (by omega), Fr.si (Fr.si Fr.rf rfl) rfl⟩
  · rintro n _ i V1 hi ⟨a1, a2, a3, hF⟩
    have hin : ai_in (on i) 6 := by rw [on_in (by omega)]; omega
    show ∃ a' V', d_State_becomes_29_16_25 (n + 1) (on i) V1 = _ ∧ _
    rw [d_State_becomes_29_16_25, if_neg (by rw [show (6 : Int32) = on 6 from rfl, on_le (by omega) (by omega)]; omega), if_pos hin, if_pos hin, if_pos hin, if_pos hin, on_s, on_nn (by omega)]
    refine ⟨(), _, rfl, a1, a2, fun k hk => ⟨?_, ?_⟩, Fr.sa (Fr.sa hF rfl) rfl⟩
    · rw [ga_sa_ne (by decide), ga_sa, hF.ga 17 rfl]
      by_cases e : k = i
      · rw [if_pos ⟨rfl, e⟩, e]; exact (z3 i hi).1
      · rw [if_neg (fun hc => e hc.2)]; exact (a3 k (by omega)).1
    · rw [ga_sa, ga_sa_ne (by decide), hF.ga 18 rfl, ga_sa_ne (by decide)]
      by_cases e : k = i
      · rw [if_pos ⟨rfl, e⟩, e]; exact (z3 i hi).2
      · rw [if_neg (fun hc => e hc.2)]; exact (a3 k (by omega)).2
  · rintro n _ V1 ⟨a1, a2, a3, hF⟩
    show ∃ c, d_State_becomes_29_16_25 (n + 1) (on 6) V1 = _ ∧ _
    rw [d_State_becomes_29_16_25, if_pos (by decide)]
    exact ⟨V1, rfl, ⟨a1, a2, a3⟩, hF⟩
  · simp only [gi_si]; simp
  · simp only [gi_si]; simp

theorem bec_32_16 {V : ai_V} {z : Ss} {rm : Int32} (hz : cS z V 16) (hr : gi V 32 2 = rm) : ∃ V', d_State_becomes_32_16 V = some V' ∧ cS (z.1, ai_min z.2.1 rm, z.2.2.1, z.2.2.2) V' 32 ∧ Fr ([(32, 0), (32, 1)], [33, 34]) V V' := by
  obtain ⟨z1, z2, z3⟩ := hz
  rw [d_State_becomes_32_16]
  simp only [gi_si]
  simp only [z1, z2, hr]
  refine loop_n (fun n (_ : Unit) x V => d_State_becomes_32_16_25 n x V) (fun c : ai_V => some c)
    (fun i _ V1 => gi V1 32 0 = z.1 ∧ gi V1 32 1 = ai_min z.2.1 rm ∧ (∀ k, k < i → ga V1 33 k = z.2.2.1 k ∧ ga V1 34 k = z.2.2.2 k) ∧ Fr ([(32, 0), (32, 1)], [33, 34]) V V1)
    (fun V' => cS (z.1, ai_min z.2.1 rm, z.2.2.1, z.2.2.2) V' 32 ∧ Fr ([(32, 0), (32, 1)], [33, 34]) V V') 6 ?_ ?_ 6 0 ai_N () _ (by omega) (N_gt (by omega)) ⟨?_, ?_, fun k hk => absurd hk (by omega), Fr.si (Fr.si Fr.rf rfl) rfl⟩
  · rintro n _ i V1 hi ⟨a1, a2, a3, hF⟩
    have hin : ai_in (on i) 6 := by rw [on_in (by omega)]; omega
    show ∃ a' V', d_State_becomes_32_16_25 (n + 1) (on i) V1 = _ ∧ _
    rw [d_State_becomes_32_16_25, if_neg (by rw [show (6 : Int32) = on 6 from rfl, on_le (by omega) (by omega)]; omega), if_pos hin, if_pos hin, if_pos hin, if_pos hin, on_s, on_nn (by omega)]
    refine ⟨(), _, rfl, a1, a2, fun k hk => ⟨?_, ?_⟩, Fr.sa (Fr.sa hF rfl) rfl⟩
    · rw [ga_sa_ne (by decide), ga_sa, hF.ga 17 rfl]
      by_cases e : k = i
      · rw [if_pos ⟨rfl, e⟩, e]; exact (z3 i hi).1
      · rw [if_neg (fun hc => e hc.2)]; exact (a3 k (by omega)).1
    · rw [ga_sa, ga_sa_ne (by decide), hF.ga 18 rfl, ga_sa_ne (by decide)]
      by_cases e : k = i
      · rw [if_pos ⟨rfl, e⟩, e]; exact (z3 i hi).2
      · rw [if_neg (fun hc => e hc.2)]; exact (a3 k (by omega)).2
  · rintro n _ V1 ⟨a1, a2, a3, hF⟩
    show ∃ c, d_State_becomes_32_16_25 (n + 1) (on 6) V1 = _ ∧ _
    rw [d_State_becomes_32_16_25, if_pos (by decide)]
    exact ⟨V1, rfl, ⟨a1, a2, a3⟩, hF⟩
  · simp only [gi_si]; simp
  · simp only [gi_si]; simp

theorem bec_35_16 {V : ai_V} {z : Ss} {rm : Int32} (hz : cS z V 16) (hr : gi V 35 2 = rm) : ∃ V', d_State_becomes_35_16 V = some V' ∧ cS (z.1, ai_min z.2.1 rm, z.2.2.1, z.2.2.2) V' 35 ∧ Fr ([(35, 0), (35, 1)], [36, 37]) V V' := by
  obtain ⟨z1, z2, z3⟩ := hz
  rw [d_State_becomes_35_16]
  simp only [gi_si]
  simp only [z1, z2, hr]
  refine loop_n (fun n (_ : Unit) x V => d_State_becomes_35_16_25 n x V) (fun c : ai_V => some c)
    (fun i _ V1 => gi V1 35 0 = z.1 ∧ gi V1 35 1 = ai_min z.2.1 rm ∧ (∀ k, k < i → ga V1 36 k = z.2.2.1 k ∧ ga V1 37 k = z.2.2.2 k) ∧ Fr ([(35, 0), (35, 1)], [36, 37]) V V1)
    (fun V' => cS (z.1, ai_min z.2.1 rm, z.2.2.1, z.2.2.2) V' 35 ∧ Fr ([(35, 0), (35, 1)], [36, 37]) V V') 6 ?_ ?_ 6 0 ai_N () _ (by omega) (N_gt (by omega)) ⟨?_, ?_, fun k hk => absurd hk (by omega), Fr.si (Fr.si Fr.rf rfl) rfl⟩
  · rintro n _ i V1 hi ⟨a1, a2, a3, hF⟩
    have hin : ai_in (on i) 6 := by rw [on_in (by omega)]; omega
    show ∃ a' V', d_State_becomes_35_16_25 (n + 1) (on i) V1 = _ ∧ _
    rw [d_State_becomes_35_16_25, if_neg (by rw [show (6 : Int32) = on 6 from rfl, on_le (by omega) (by omega)]; omega), if_pos hin, if_pos hin, if_pos hin, if_pos hin, on_s, on_nn (by omega)]
    refine ⟨(), _, rfl, a1, a2, fun k hk => ⟨?_, ?_⟩, Fr.sa (Fr.sa hF rfl) rfl⟩
    · rw [ga_sa_ne (by decide), ga_sa, hF.ga 17 rfl]
      by_cases e : k = i
      · rw [if_pos ⟨rfl, e⟩, e]; exact (z3 i hi).1
      · rw [if_neg (fun hc => e hc.2)]; exact (a3 k (by omega)).1
    · rw [ga_sa, ga_sa_ne (by decide), hF.ga 18 rfl, ga_sa_ne (by decide)]
      by_cases e : k = i
      · rw [if_pos ⟨rfl, e⟩, e]; exact (z3 i hi).2
      · rw [if_neg (fun hc => e hc.2)]; exact (a3 k (by omega)).2
  · rintro n _ V1 ⟨a1, a2, a3, hF⟩
    show ∃ c, d_State_becomes_35_16_25 (n + 1) (on 6) V1 = _ ∧ _
    rw [d_State_becomes_35_16_25, if_pos (by decide)]
    exact ⟨V1, rfl, ⟨a1, a2, a3⟩, hF⟩
  · simp only [gi_si]; simp
  · simp only [gi_si]; simp

theorem bec_38_16 {V : ai_V} {z : Ss} {rm : Int32} (hz : cS z V 16) (hr : gi V 38 2 = rm) : ∃ V', d_State_becomes_38_16 V = some V' ∧ cS (z.1, ai_min z.2.1 rm, z.2.2.1, z.2.2.2) V' 38 ∧ Fr ([(38, 0), (38, 1)], [39, 40]) V V' := by
  obtain ⟨z1, z2, z3⟩ := hz
  rw [d_State_becomes_38_16]
  simp only [gi_si]
  simp only [z1, z2, hr]
  refine loop_n (fun n (_ : Unit) x V => d_State_becomes_38_16_25 n x V) (fun c : ai_V => some c)
    (fun i _ V1 => gi V1 38 0 = z.1 ∧ gi V1 38 1 = ai_min z.2.1 rm ∧ (∀ k, k < i → ga V1 39 k = z.2.2.1 k ∧ ga V1 40 k = z.2.2.2 k) ∧ Fr ([(38, 0), (38, 1)], [39, 40]) V V1)
    (fun V' => cS (z.1, ai_min z.2.1 rm, z.2.2.1, z.2.2.2) V' 38 ∧ Fr ([(38, 0), (38, 1)], [39, 40]) V V') 6 ?_ ?_ 6 0 ai_N () _ (by omega) (N_gt (by omega)) ⟨?_, ?_, fun k hk => absurd hk (by omega), Fr.si (Fr.si Fr.rf rfl) rfl⟩
  · rintro n _ i V1 hi ⟨a1, a2, a3, hF⟩
    have hin : ai_in (on i) 6 := by rw [on_in (by omega)]; omega
    show ∃ a' V', d_State_becomes_38_16_25 (n + 1) (on i) V1 = _ ∧ _
    rw [d_State_becomes_38_16_25, if_neg (by rw [show (6 : Int32) = on 6 from rfl, on_le (by omega) (by omega)]; omega), if_pos hin, if_pos hin, if_pos hin, if_pos hin, on_s, on_nn (by omega)]
    refine ⟨(), _, rfl, a1, a2, fun k hk => ⟨?_, ?_⟩, Fr.sa (Fr.sa hF rfl) rfl⟩
    · rw [ga_sa_ne (by decide), ga_sa, hF.ga 17 rfl]
      by_cases e : k = i
      · rw [if_pos ⟨rfl, e⟩, e]; exact (z3 i hi).1
      · rw [if_neg (fun hc => e hc.2)]; exact (a3 k (by omega)).1
    · rw [ga_sa, ga_sa_ne (by decide), hF.ga 18 rfl, ga_sa_ne (by decide)]
      by_cases e : k = i
      · rw [if_pos ⟨rfl, e⟩, e]; exact (z3 i hi).2
      · rw [if_neg (fun hc => e hc.2)]; exact (a3 k (by omega)).2
  · rintro n _ V1 ⟨a1, a2, a3, hF⟩
    show ∃ c, d_State_becomes_38_16_25 (n + 1) (on 6) V1 = _ ∧ _
    rw [d_State_becomes_38_16_25, if_pos (by decide)]
    exact ⟨V1, rfl, ⟨a1, a2, a3⟩, hF⟩
  · simp only [gi_si]; simp
  · simp only [gi_si]; simp

theorem bec_41_16 {V : ai_V} {z : Ss} {rm : Int32} (hz : cS z V 16) (hr : gi V 41 2 = rm) : ∃ V', d_State_becomes_41_16 V = some V' ∧ cS (z.1, ai_min z.2.1 rm, z.2.2.1, z.2.2.2) V' 41 ∧ Fr ([(41, 0), (41, 1)], [42, 43]) V V' := by
  obtain ⟨z1, z2, z3⟩ := hz
  rw [d_State_becomes_41_16]
  simp only [gi_si]
  simp only [z1, z2, hr]
  refine loop_n (fun n (_ : Unit) x V => d_State_becomes_41_16_25 n x V) (fun c : ai_V => some c)
    (fun i _ V1 => gi V1 41 0 = z.1 ∧ gi V1 41 1 = ai_min z.2.1 rm ∧ (∀ k, k < i → ga V1 42 k = z.2.2.1 k ∧ ga V1 43 k = z.2.2.2 k) ∧ Fr ([(41, 0), (41, 1)], [42, 43]) V V1)
    (fun V' => cS (z.1, ai_min z.2.1 rm, z.2.2.1, z.2.2.2) V' 41 ∧ Fr ([(41, 0), (41, 1)], [42, 43]) V V') 6 ?_ ?_ 6 0 ai_N () _ (by omega) (N_gt (by omega)) ⟨?_, ?_, fun k hk => absurd hk (by omega), Fr.si (Fr.si Fr.rf rfl) rfl⟩
  · rintro n _ i V1 hi ⟨a1, a2, a3, hF⟩
    have hin : ai_in (on i) 6 := by rw [on_in (by omega)]; omega
    show ∃ a' V', d_State_becomes_41_16_25 (n + 1) (on i) V1 = _ ∧ _
    rw [d_State_becomes_41_16_25, if_neg (by rw [show (6 : Int32) = on 6 from rfl, on_le (by omega) (by omega)]; omega), if_pos hin, if_pos hin, if_pos hin, if_pos hin, on_s, on_nn (by omega)]
    refine ⟨(), _, rfl, a1, a2, fun k hk => ⟨?_, ?_⟩, Fr.sa (Fr.sa hF rfl) rfl⟩
    · rw [ga_sa_ne (by decide), ga_sa, hF.ga 17 rfl]
      by_cases e : k = i
      · rw [if_pos ⟨rfl, e⟩, e]; exact (z3 i hi).1
      · rw [if_neg (fun hc => e hc.2)]; exact (a3 k (by omega)).1
    · rw [ga_sa, ga_sa_ne (by decide), hF.ga 18 rfl, ga_sa_ne (by decide)]
      by_cases e : k = i
      · rw [if_pos ⟨rfl, e⟩, e]; exact (z3 i hi).2
      · rw [if_neg (fun hc => e hc.2)]; exact (a3 k (by omega)).2
  · rintro n _ V1 ⟨a1, a2, a3, hF⟩
    show ∃ c, d_State_becomes_41_16_25 (n + 1) (on 6) V1 = _ ∧ _
    rw [d_State_becomes_41_16_25, if_pos (by decide)]
    exact ⟨V1, rfl, ⟨a1, a2, a3⟩, hF⟩
  · simp only [gi_si]; simp
  · simp only [gi_si]; simp

theorem bec_44_16 {V : ai_V} {z : Ss} {rm : Int32} (hz : cS z V 16) (hr : gi V 44 2 = rm) : ∃ V', d_State_becomes_44_16 V = some V' ∧ cS (z.1, ai_min z.2.1 rm, z.2.2.1, z.2.2.2) V' 44 ∧ Fr ([(44, 0), (44, 1)], [45, 46]) V V' := by
  obtain ⟨z1, z2, z3⟩ := hz
  rw [d_State_becomes_44_16]
  simp only [gi_si]
  simp only [z1, z2, hr]
  refine loop_n (fun n (_ : Unit) x V => d_State_becomes_44_16_25 n x V) (fun c : ai_V => some c)
    (fun i _ V1 => gi V1 44 0 = z.1 ∧ gi V1 44 1 = ai_min z.2.1 rm ∧ (∀ k, k < i → ga V1 45 k = z.2.2.1 k ∧ ga V1 46 k = z.2.2.2 k) ∧ Fr ([(44, 0), (44, 1)], [45, 46]) V V1)
    (fun V' => cS (z.1, ai_min z.2.1 rm, z.2.2.1, z.2.2.2) V' 44 ∧ Fr ([(44, 0), (44, 1)], [45, 46]) V V') 6 ?_ ?_ 6 0 ai_N () _ (by omega) (N_gt (by omega)) ⟨?_, ?_, fun k hk => absurd hk (by omega), Fr.si (Fr.si Fr.rf rfl) rfl⟩
  · rintro n _ i V1 hi ⟨a1, a2, a3, hF⟩
    have hin : ai_in (on i) 6 := by rw [on_in (by omega)]; omega
    show ∃ a' V', d_State_becomes_44_16_25 (n + 1) (on i) V1 = _ ∧ _
    rw [d_State_becomes_44_16_25, if_neg (by rw [show (6 : Int32) = on 6 from rfl, on_le (by omega) (by omega)]; omega), if_pos hin, if_pos hin, if_pos hin, if_pos hin, on_s, on_nn (by omega)]
    refine ⟨(), _, rfl, a1, a2, fun k hk => ⟨?_, ?_⟩, Fr.sa (Fr.sa hF rfl) rfl⟩
    · rw [ga_sa_ne (by decide), ga_sa, hF.ga 17 rfl]
      by_cases e : k = i
      · rw [if_pos ⟨rfl, e⟩, e]; exact (z3 i hi).1
      · rw [if_neg (fun hc => e hc.2)]; exact (a3 k (by omega)).1
    · rw [ga_sa, ga_sa_ne (by decide), hF.ga 18 rfl, ga_sa_ne (by decide)]
      by_cases e : k = i
      · rw [if_pos ⟨rfl, e⟩, e]; exact (z3 i hi).2
      · rw [if_neg (fun hc => e hc.2)]; exact (a3 k (by omega)).2
  · rintro n _ V1 ⟨a1, a2, a3, hF⟩
    show ∃ c, d_State_becomes_44_16_25 (n + 1) (on 6) V1 = _ ∧ _
    rw [d_State_becomes_44_16_25, if_pos (by decide)]
    exact ⟨V1, rfl, ⟨a1, a2, a3⟩, hF⟩
  · simp only [gi_si]; simp
  · simp only [gi_si]; simp

theorem bec_47_16 {V : ai_V} {z : Ss} {rm : Int32} (hz : cS z V 16) (hr : gi V 47 2 = rm) : ∃ V', d_State_becomes_47_16 V = some V' ∧ cS (z.1, ai_min z.2.1 rm, z.2.2.1, z.2.2.2) V' 47 ∧ Fr ([(47, 0), (47, 1)], [48, 49]) V V' := by
  obtain ⟨z1, z2, z3⟩ := hz
  rw [d_State_becomes_47_16]
  simp only [gi_si]
  simp only [z1, z2, hr]
  refine loop_n (fun n (_ : Unit) x V => d_State_becomes_47_16_25 n x V) (fun c : ai_V => some c)
    (fun i _ V1 => gi V1 47 0 = z.1 ∧ gi V1 47 1 = ai_min z.2.1 rm ∧ (∀ k, k < i → ga V1 48 k = z.2.2.1 k ∧ ga V1 49 k = z.2.2.2 k) ∧ Fr ([(47, 0), (47, 1)], [48, 49]) V V1)
    (fun V' => cS (z.1, ai_min z.2.1 rm, z.2.2.1, z.2.2.2) V' 47 ∧ Fr ([(47, 0), (47, 1)], [48, 49]) V V') 6 ?_ ?_ 6 0 ai_N () _ (by omega) (N_gt (by omega)) ⟨?_, ?_, fun k hk => absurd hk (by omega), Fr.si (Fr.si Fr.rf rfl) rfl⟩
  · rintro n _ i V1 hi ⟨a1, a2, a3, hF⟩
    have hin : ai_in (on i) 6 := by rw [on_in (by omega)]; omega
    show ∃ a' V', d_State_becomes_47_16_25 (n + 1) (on i) V1 = _ ∧ _
    rw [d_State_becomes_47_16_25, if_neg (by rw [show (6 : Int32) = on 6 from rfl, on_le (by omega) (by omega)]; omega), if_pos hin, if_pos hin, if_pos hin, if_pos hin, on_s, on_nn (by omega)]
    refine ⟨(), _, rfl, a1, a2, fun k hk => ⟨?_, ?_⟩, Fr.sa (Fr.sa hF rfl) rfl⟩
    · rw [ga_sa_ne (by decide), ga_sa, hF.ga 17 rfl]
      by_cases e : k = i
      · rw [if_pos ⟨rfl, e⟩, e]; exact (z3 i hi).1
      · rw [if_neg (fun hc => e hc.2)]; exact (a3 k (by omega)).1
    · rw [ga_sa, ga_sa_ne (by decide), hF.ga 18 rfl, ga_sa_ne (by decide)]
      by_cases e : k = i
      · rw [if_pos ⟨rfl, e⟩, e]; exact (z3 i hi).2
      · rw [if_neg (fun hc => e hc.2)]; exact (a3 k (by omega)).2
  · rintro n _ V1 ⟨a1, a2, a3, hF⟩
    show ∃ c, d_State_becomes_47_16_25 (n + 1) (on 6) V1 = _ ∧ _
    rw [d_State_becomes_47_16_25, if_pos (by decide)]
    exact ⟨V1, rfl, ⟨a1, a2, a3⟩, hF⟩
  · simp only [gi_si]; simp
  · simp only [gi_si]; simp

theorem bec_50_16 {V : ai_V} {z : Ss} {rm : Int32} (hz : cS z V 16) (hr : gi V 50 2 = rm) : ∃ V', d_State_becomes_50_16 V = some V' ∧ cS (z.1, ai_min z.2.1 rm, z.2.2.1, z.2.2.2) V' 50 ∧ Fr ([(50, 0), (50, 1)], [51, 52]) V V' := by
  obtain ⟨z1, z2, z3⟩ := hz
  rw [d_State_becomes_50_16]
  simp only [gi_si]
  simp only [z1, z2, hr]
  refine loop_n (fun n (_ : Unit) x V => d_State_becomes_50_16_25 n x V) (fun c : ai_V => some c)
    (fun i _ V1 => gi V1 50 0 = z.1 ∧ gi V1 50 1 = ai_min z.2.1 rm ∧ (∀ k, k < i → ga V1 51 k = z.2.2.1 k ∧ ga V1 52 k = z.2.2.2 k) ∧ Fr ([(50, 0), (50, 1)], [51, 52]) V V1)
    (fun V' => cS (z.1, ai_min z.2.1 rm, z.2.2.1, z.2.2.2) V' 50 ∧ Fr ([(50, 0), (50, 1)], [51, 52]) V V') 6 ?_ ?_ 6 0 ai_N () _ (by omega) (N_gt (by omega)) ⟨?_, ?_, fun k hk => absurd hk (by omega), Fr.si (Fr.si Fr.rf rfl) rfl⟩
  · rintro n _ i V1 hi ⟨a1, a2, a3, hF⟩
    have hin : ai_in (on i) 6 := by rw [on_in (by omega)]; omega
    show ∃ a' V', d_State_becomes_50_16_25 (n + 1) (on i) V1 = _ ∧ _
    rw [d_State_becomes_50_16_25, if_neg (by rw [show (6 : Int32) = on 6 from rfl, on_le (by omega) (by omega)]; omega), if_pos hin, if_pos hin, if_pos hin, if_pos hin, on_s, on_nn (by omega)]
    refine ⟨(), _, rfl, a1, a2, fun k hk => ⟨?_, ?_⟩, Fr.sa (Fr.sa hF rfl) rfl⟩
    · rw [ga_sa_ne (by decide), ga_sa, hF.ga 17 rfl]
      by_cases e : k = i
      · rw [if_pos ⟨rfl, e⟩, e]; exact (z3 i hi).1
      · rw [if_neg (fun hc => e hc.2)]; exact (a3 k (by omega)).1
    · rw [ga_sa, ga_sa_ne (by decide), hF.ga 18 rfl, ga_sa_ne (by decide)]
      by_cases e : k = i
      · rw [if_pos ⟨rfl, e⟩, e]; exact (z3 i hi).2
      · rw [if_neg (fun hc => e hc.2)]; exact (a3 k (by omega)).2
  · rintro n _ V1 ⟨a1, a2, a3, hF⟩
    show ∃ c, d_State_becomes_50_16_25 (n + 1) (on 6) V1 = _ ∧ _
    rw [d_State_becomes_50_16_25, if_pos (by decide)]
    exact ⟨V1, rfl, ⟨a1, a2, a3⟩, hF⟩
  · simp only [gi_si]; simp
  · simp only [gi_si]; simp

theorem bec_53_16 {V : ai_V} {z : Ss} {rm : Int32} (hz : cS z V 16) (hr : gi V 53 2 = rm) : ∃ V', d_State_becomes_53_16 V = some V' ∧ cS (z.1, ai_min z.2.1 rm, z.2.2.1, z.2.2.2) V' 53 ∧ Fr ([(53, 0), (53, 1)], [54, 55]) V V' := by
  obtain ⟨z1, z2, z3⟩ := hz
  rw [d_State_becomes_53_16]
  simp only [gi_si]
  simp only [z1, z2, hr]
  refine loop_n (fun n (_ : Unit) x V => d_State_becomes_53_16_25 n x V) (fun c : ai_V => some c)
    (fun i _ V1 => gi V1 53 0 = z.1 ∧ gi V1 53 1 = ai_min z.2.1 rm ∧ (∀ k, k < i → ga V1 54 k = z.2.2.1 k ∧ ga V1 55 k = z.2.2.2 k) ∧ Fr ([(53, 0), (53, 1)], [54, 55]) V V1)
    (fun V' => cS (z.1, ai_min z.2.1 rm, z.2.2.1, z.2.2.2) V' 53 ∧ Fr ([(53, 0), (53, 1)], [54, 55]) V V') 6 ?_ ?_ 6 0 ai_N () _ (by omega) (N_gt (by omega)) ⟨?_, ?_, fun k hk => absurd hk (by omega), Fr.si (Fr.si Fr.rf rfl) rfl⟩
  · rintro n _ i V1 hi ⟨a1, a2, a3, hF⟩
    have hin : ai_in (on i) 6 := by rw [on_in (by omega)]; omega
    show ∃ a' V', d_State_becomes_53_16_25 (n + 1) (on i) V1 = _ ∧ _
    rw [d_State_becomes_53_16_25, if_neg (by rw [show (6 : Int32) = on 6 from rfl, on_le (by omega) (by omega)]; omega), if_pos hin, if_pos hin, if_pos hin, if_pos hin, on_s, on_nn (by omega)]
    refine ⟨(), _, rfl, a1, a2, fun k hk => ⟨?_, ?_⟩, Fr.sa (Fr.sa hF rfl) rfl⟩
    · rw [ga_sa_ne (by decide), ga_sa, hF.ga 17 rfl]
      by_cases e : k = i
      · rw [if_pos ⟨rfl, e⟩, e]; exact (z3 i hi).1
      · rw [if_neg (fun hc => e hc.2)]; exact (a3 k (by omega)).1
    · rw [ga_sa, ga_sa_ne (by decide), hF.ga 18 rfl, ga_sa_ne (by decide)]
      by_cases e : k = i
      · rw [if_pos ⟨rfl, e⟩, e]; exact (z3 i hi).2
      · rw [if_neg (fun hc => e hc.2)]; exact (a3 k (by omega)).2
  · rintro n _ V1 ⟨a1, a2, a3, hF⟩
    show ∃ c, d_State_becomes_53_16_25 (n + 1) (on 6) V1 = _ ∧ _
    rw [d_State_becomes_53_16_25, if_pos (by decide)]
    exact ⟨V1, rfl, ⟨a1, a2, a3⟩, hF⟩
  · simp only [gi_si]; simp
  · simp only [gi_si]; simp

theorem bec_56_16 {V : ai_V} {z : Ss} {rm : Int32} (hz : cS z V 16) (hr : gi V 56 2 = rm) : ∃ V', d_State_becomes_56_16 V = some V' ∧ cS (z.1, ai_min z.2.1 rm, z.2.2.1, z.2.2.2) V' 56 ∧ Fr ([(56, 0), (56, 1)], [57, 58]) V V' := by
  obtain ⟨z1, z2, z3⟩ := hz
  rw [d_State_becomes_56_16]
  simp only [gi_si]
  simp only [z1, z2, hr]
  refine loop_n (fun n (_ : Unit) x V => d_State_becomes_56_16_25 n x V) (fun c : ai_V => some c)
    (fun i _ V1 => gi V1 56 0 = z.1 ∧ gi V1 56 1 = ai_min z.2.1 rm ∧ (∀ k, k < i → ga V1 57 k = z.2.2.1 k ∧ ga V1 58 k = z.2.2.2 k) ∧ Fr ([(56, 0), (56, 1)], [57, 58]) V V1)
    (fun V' => cS (z.1, ai_min z.2.1 rm, z.2.2.1, z.2.2.2) V' 56 ∧ Fr ([(56, 0), (56, 1)], [57, 58]) V V') 6 ?_ ?_ 6 0 ai_N () _ (by omega) (N_gt (by omega)) ⟨?_, ?_, fun k hk => absurd hk (by omega), Fr.si (Fr.si Fr.rf rfl) rfl⟩
  · rintro n _ i V1 hi ⟨a1, a2, a3, hF⟩
    have hin : ai_in (on i) 6 := by rw [on_in (by omega)]; omega
    show ∃ a' V', d_State_becomes_56_16_25 (n + 1) (on i) V1 = _ ∧ _
    rw [d_State_becomes_56_16_25, if_neg (by rw [show (6 : Int32) = on 6 from rfl, on_le (by omega) (by omega)]; omega), if_pos hin, if_pos hin, if_pos hin, if_pos hin, on_s, on_nn (by omega)]
    refine ⟨(), _, rfl, a1, a2, fun k hk => ⟨?_, ?_⟩, Fr.sa (Fr.sa hF rfl) rfl⟩
    · rw [ga_sa_ne (by decide), ga_sa, hF.ga 17 rfl]
      by_cases e : k = i
      · rw [if_pos ⟨rfl, e⟩, e]; exact (z3 i hi).1
      · rw [if_neg (fun hc => e hc.2)]; exact (a3 k (by omega)).1
    · rw [ga_sa, ga_sa_ne (by decide), hF.ga 18 rfl, ga_sa_ne (by decide)]
      by_cases e : k = i
      · rw [if_pos ⟨rfl, e⟩, e]; exact (z3 i hi).2
      · rw [if_neg (fun hc => e hc.2)]; exact (a3 k (by omega)).2
  · rintro n _ V1 ⟨a1, a2, a3, hF⟩
    show ∃ c, d_State_becomes_56_16_25 (n + 1) (on 6) V1 = _ ∧ _
    rw [d_State_becomes_56_16_25, if_pos (by decide)]
    exact ⟨V1, rfl, ⟨a1, a2, a3⟩, hF⟩
  · simp only [gi_si]; simp
  · simp only [gi_si]; simp

theorem bec_16_26 {V : ai_V} {z : Ss} {rm : Int32} (hz : cS z V 26) (hr : gi V 16 2 = rm) : ∃ V', d_State_becomes_16_26 V = some V' ∧ cS (z.1, ai_min z.2.1 rm, z.2.2.1, z.2.2.2) V' 16 ∧ Fr ([(16, 0), (16, 1)], [17, 18]) V V' := by
  obtain ⟨z1, z2, z3⟩ := hz
  rw [d_State_becomes_16_26]
  simp only [gi_si]
  simp only [z1, z2, hr]
  refine loop_n (fun n (_ : Unit) x V => d_State_becomes_16_26_25 n x V) (fun c : ai_V => some c)
    (fun i _ V1 => gi V1 16 0 = z.1 ∧ gi V1 16 1 = ai_min z.2.1 rm ∧ (∀ k, k < i → ga V1 17 k = z.2.2.1 k ∧ ga V1 18 k = z.2.2.2 k) ∧ Fr ([(16, 0), (16, 1)], [17, 18]) V V1)
    (fun V' => cS (z.1, ai_min z.2.1 rm, z.2.2.1, z.2.2.2) V' 16 ∧ Fr ([(16, 0), (16, 1)], [17, 18]) V V') 6 ?_ ?_ 6 0 ai_N () _ (by omega) (N_gt (by omega)) ⟨?_, ?_, fun k hk => absurd hk (by omega), Fr.si (Fr.si Fr.rf rfl) rfl⟩
  · rintro n _ i V1 hi ⟨a1, a2, a3, hF⟩
    have hin : ai_in (on i) 6 := by rw [on_in (by omega)]; omega
    show ∃ a' V', d_State_becomes_16_26_25 (n + 1) (on i) V1 = _ ∧ _
    rw [d_State_becomes_16_26_25, if_neg (by rw [show (6 : Int32) = on 6 from rfl, on_le (by omega) (by omega)]; omega), if_pos hin, if_pos hin, if_pos hin, if_pos hin, on_s, on_nn (by omega)]
    refine ⟨(), _, rfl, a1, a2, fun k hk => ⟨?_, ?_⟩, Fr.sa (Fr.sa hF rfl) rfl⟩
    · rw [ga_sa_ne (by decide), ga_sa, hF.ga 27 rfl]
      by_cases e : k = i
      · rw [if_pos ⟨rfl, e⟩, e]; exact (z3 i hi).1
      · rw [if_neg (fun hc => e hc.2)]; exact (a3 k (by omega)).1
    · rw [ga_sa, ga_sa_ne (by decide), hF.ga 28 rfl, ga_sa_ne (by decide)]
      by_cases e : k = i
      · rw [if_pos ⟨rfl, e⟩, e]; exact (z3 i hi).2
      · rw [if_neg (fun hc => e hc.2)]; exact (a3 k (by omega)).2
  · rintro n _ V1 ⟨a1, a2, a3, hF⟩
    show ∃ c, d_State_becomes_16_26_25 (n + 1) (on 6) V1 = _ ∧ _
    rw [d_State_becomes_16_26_25, if_pos (by decide)]
    exact ⟨V1, rfl, ⟨a1, a2, a3⟩, hF⟩
  · simp only [gi_si]; simp
  · simp only [gi_si]; simp

theorem bec_16_29 {V : ai_V} {z : Ss} {rm : Int32} (hz : cS z V 29) (hr : gi V 16 2 = rm) : ∃ V', d_State_becomes_16_29 V = some V' ∧ cS (z.1, ai_min z.2.1 rm, z.2.2.1, z.2.2.2) V' 16 ∧ Fr ([(16, 0), (16, 1)], [17, 18]) V V' := by
  obtain ⟨z1, z2, z3⟩ := hz
  rw [d_State_becomes_16_29]
  simp only [gi_si]
  simp only [z1, z2, hr]
  refine loop_n (fun n (_ : Unit) x V => d_State_becomes_16_29_25 n x V) (fun c : ai_V => some c)
    (fun i _ V1 => gi V1 16 0 = z.1 ∧ gi V1 16 1 = ai_min z.2.1 rm ∧ (∀ k, k < i → ga V1 17 k = z.2.2.1 k ∧ ga V1 18 k = z.2.2.2 k) ∧ Fr ([(16, 0), (16, 1)], [17, 18]) V V1)
    (fun V' => cS (z.1, ai_min z.2.1 rm, z.2.2.1, z.2.2.2) V' 16 ∧ Fr ([(16, 0), (16, 1)], [17, 18]) V V') 6 ?_ ?_ 6 0 ai_N () _ (by omega) (N_gt (by omega)) ⟨?_, ?_, fun k hk => absurd hk (by omega), Fr.si (Fr.si Fr.rf rfl) rfl⟩
  · rintro n _ i V1 hi ⟨a1, a2, a3, hF⟩
    have hin : ai_in (on i) 6 := by rw [on_in (by omega)]; omega
    show ∃ a' V', d_State_becomes_16_29_25 (n + 1) (on i) V1 = _ ∧ _
    rw [d_State_becomes_16_29_25, if_neg (by rw [show (6 : Int32) = on 6 from rfl, on_le (by omega) (by omega)]; omega), if_pos hin, if_pos hin, if_pos hin, if_pos hin, on_s, on_nn (by omega)]
    refine ⟨(), _, rfl, a1, a2, fun k hk => ⟨?_, ?_⟩, Fr.sa (Fr.sa hF rfl) rfl⟩
    · rw [ga_sa_ne (by decide), ga_sa, hF.ga 30 rfl]
      by_cases e : k = i
      · rw [if_pos ⟨rfl, e⟩, e]; exact (z3 i hi).1
      · rw [if_neg (fun hc => e hc.2)]; exact (a3 k (by omega)).1
    · rw [ga_sa, ga_sa_ne (by decide), hF.ga 31 rfl, ga_sa_ne (by decide)]
      by_cases e : k = i
      · rw [if_pos ⟨rfl, e⟩, e]; exact (z3 i hi).2
      · rw [if_neg (fun hc => e hc.2)]; exact (a3 k (by omega)).2
  · rintro n _ V1 ⟨a1, a2, a3, hF⟩
    show ∃ c, d_State_becomes_16_29_25 (n + 1) (on 6) V1 = _ ∧ _
    rw [d_State_becomes_16_29_25, if_pos (by decide)]
    exact ⟨V1, rfl, ⟨a1, a2, a3⟩, hF⟩
  · simp only [gi_si]; simp
  · simp only [gi_si]; simp

theorem bec_16_32 {V : ai_V} {z : Ss} {rm : Int32} (hz : cS z V 32) (hr : gi V 16 2 = rm) : ∃ V', d_State_becomes_16_32 V = some V' ∧ cS (z.1, ai_min z.2.1 rm, z.2.2.1, z.2.2.2) V' 16 ∧ Fr ([(16, 0), (16, 1)], [17, 18]) V V' := by
  obtain ⟨z1, z2, z3⟩ := hz
  rw [d_State_becomes_16_32]
  simp only [gi_si]
  simp only [z1, z2, hr]
  refine loop_n (fun n (_ : Unit) x V => d_State_becomes_16_32_25 n x V) (fun c : ai_V => some c)
    (fun i _ V1 => gi V1 16 0 = z.1 ∧ gi V1 16 1 = ai_min z.2.1 rm ∧ (∀ k, k < i → ga V1 17 k = z.2.2.1 k ∧ ga V1 18 k = z.2.2.2 k) ∧ Fr ([(16, 0), (16, 1)], [17, 18]) V V1)
    (fun V' => cS (z.1, ai_min z.2.1 rm, z.2.2.1, z.2.2.2) V' 16 ∧ Fr ([(16, 0), (16, 1)], [17, 18]) V V') 6 ?_ ?_ 6 0 ai_N () _ (by omega) (N_gt (by omega)) ⟨?_, ?_, fun k hk => absurd hk (by omega), Fr.si (Fr.si Fr.rf rfl) rfl⟩
  · rintro n _ i V1 hi ⟨a1, a2, a3, hF⟩
    have hin : ai_in (on i) 6 := by rw [on_in (by omega)]; omega
    show ∃ a' V', d_State_becomes_16_32_25 (n + 1) (on i) V1 = _ ∧ _
    rw [d_State_becomes_16_32_25, if_neg (by rw [show (6 : Int32) = on 6 from rfl, on_le (by omega) (by omega)]; omega), if_pos hin, if_pos hin, if_pos hin, if_pos hin, on_s, on_nn (by omega)]
    refine ⟨(), _, rfl, a1, a2, fun k hk => ⟨?_, ?_⟩, Fr.sa (Fr.sa hF rfl) rfl⟩
    · rw [ga_sa_ne (by decide), ga_sa, hF.ga 33 rfl]
      by_cases e : k = i
      · rw [if_pos ⟨rfl, e⟩, e]; exact (z3 i hi).1
      · rw [if_neg (fun hc => e hc.2)]; exact (a3 k (by omega)).1
    · rw [ga_sa, ga_sa_ne (by decide), hF.ga 34 rfl, ga_sa_ne (by decide)]
      by_cases e : k = i
      · rw [if_pos ⟨rfl, e⟩, e]; exact (z3 i hi).2
      · rw [if_neg (fun hc => e hc.2)]; exact (a3 k (by omega)).2
  · rintro n _ V1 ⟨a1, a2, a3, hF⟩
    show ∃ c, d_State_becomes_16_32_25 (n + 1) (on 6) V1 = _ ∧ _
    rw [d_State_becomes_16_32_25, if_pos (by decide)]
    exact ⟨V1, rfl, ⟨a1, a2, a3⟩, hF⟩
  · simp only [gi_si]; simp
  · simp only [gi_si]; simp

theorem bec_16_35 {V : ai_V} {z : Ss} {rm : Int32} (hz : cS z V 35) (hr : gi V 16 2 = rm) : ∃ V', d_State_becomes_16_35 V = some V' ∧ cS (z.1, ai_min z.2.1 rm, z.2.2.1, z.2.2.2) V' 16 ∧ Fr ([(16, 0), (16, 1)], [17, 18]) V V' := by
  obtain ⟨z1, z2, z3⟩ := hz
  rw [d_State_becomes_16_35]
  simp only [gi_si]
  simp only [z1, z2, hr]
  refine loop_n (fun n (_ : Unit) x V => d_State_becomes_16_35_25 n x V) (fun c : ai_V => some c)
    (fun i _ V1 => gi V1 16 0 = z.1 ∧ gi V1 16 1 = ai_min z.2.1 rm ∧ (∀ k, k < i → ga V1 17 k = z.2.2.1 k ∧ ga V1 18 k = z.2.2.2 k) ∧ Fr ([(16, 0), (16, 1)], [17, 18]) V V1)
    (fun V' => cS (z.1, ai_min z.2.1 rm, z.2.2.1, z.2.2.2) V' 16 ∧ Fr ([(16, 0), (16, 1)], [17, 18]) V V') 6 ?_ ?_ 6 0 ai_N () _ (by omega) (N_gt (by omega)) ⟨?_, ?_, fun k hk => absurd hk (by omega), Fr.si (Fr.si Fr.rf rfl) rfl⟩
  · rintro n _ i V1 hi ⟨a1, a2, a3, hF⟩
    have hin : ai_in (on i) 6 := by rw [on_in (by omega)]; omega
    show ∃ a' V', d_State_becomes_16_35_25 (n + 1) (on i) V1 = _ ∧ _
    rw [d_State_becomes_16_35_25, if_neg (by rw [show (6 : Int32) = on 6 from rfl, on_le (by omega) (by omega)]; omega), if_pos hin, if_pos hin, if_pos hin, if_pos hin, on_s, on_nn (by omega)]
    refine ⟨(), _, rfl, a1, a2, fun k hk => ⟨?_, ?_⟩, Fr.sa (Fr.sa hF rfl) rfl⟩
    · rw [ga_sa_ne (by decide), ga_sa, hF.ga 36 rfl]
      by_cases e : k = i
      · rw [if_pos ⟨rfl, e⟩, e]; exact (z3 i hi).1
      · rw [if_neg (fun hc => e hc.2)]; exact (a3 k (by omega)).1
    · rw [ga_sa, ga_sa_ne (by decide), hF.ga 37 rfl, ga_sa_ne (by decide)]
      by_cases e : k = i
      · rw [if_pos ⟨rfl, e⟩, e]; exact (z3 i hi).2
      · rw [if_neg (fun hc => e hc.2)]; exact (a3 k (by omega)).2
  · rintro n _ V1 ⟨a1, a2, a3, hF⟩
    show ∃ c, d_State_becomes_16_35_25 (n + 1) (on 6) V1 = _ ∧ _
    rw [d_State_becomes_16_35_25, if_pos (by decide)]
    exact ⟨V1, rfl, ⟨a1, a2, a3⟩, hF⟩
  · simp only [gi_si]; simp
  · simp only [gi_si]; simp

theorem bec_16_38 {V : ai_V} {z : Ss} {rm : Int32} (hz : cS z V 38) (hr : gi V 16 2 = rm) : ∃ V', d_State_becomes_16_38 V = some V' ∧ cS (z.1, ai_min z.2.1 rm, z.2.2.1, z.2.2.2) V' 16 ∧ Fr ([(16, 0), (16, 1)], [17, 18]) V V' := by
  obtain ⟨z1, z2, z3⟩ := hz
  rw [d_State_becomes_16_38]
  simp only [gi_si]
  simp only [z1, z2, hr]
  refine loop_n (fun n (_ : Unit) x V => d_State_becomes_16_38_25 n x V) (fun c : ai_V => some c)
    (fun i _ V1 => gi V1 16 0 = z.1 ∧ gi V1 16 1 = ai_min z.2.1 rm ∧ (∀ k, k < i → ga V1 17 k = z.2.2.1 k ∧ ga V1 18 k = z.2.2.2 k) ∧ Fr ([(16, 0), (16, 1)], [17, 18]) V V1)
    (fun V' => cS (z.1, ai_min z.2.1 rm, z.2.2.1, z.2.2.2) V' 16 ∧ Fr ([(16, 0), (16, 1)], [17, 18]) V V') 6 ?_ ?_ 6 0 ai_N () _ (by omega) (N_gt (by omega)) ⟨?_, ?_, fun k hk => absurd hk (by omega), Fr.si (Fr.si Fr.rf rfl) rfl⟩
  · rintro n _ i V1 hi ⟨a1, a2, a3, hF⟩
    have hin : ai_in (on i) 6 := by rw [on_in (by omega)]; omega
    show ∃ a' V', d_State_becomes_16_38_25 (n + 1) (on i) V1 = _ ∧ _
    rw [d_State_becomes_16_38_25, if_neg (by rw [show (6 : Int32) = on 6 from rfl, on_le (by omega) (by omega)]; omega), if_pos hin, if_pos hin, if_pos hin, if_pos hin, on_s, on_nn (by omega)]
    refine ⟨(), _, rfl, a1, a2, fun k hk => ⟨?_, ?_⟩, Fr.sa (Fr.sa hF rfl) rfl⟩
    · rw [ga_sa_ne (by decide), ga_sa, hF.ga 39 rfl]
      by_cases e : k = i
      · rw [if_pos ⟨rfl, e⟩, e]; exact (z3 i hi).1
      · rw [if_neg (fun hc => e hc.2)]; exact (a3 k (by omega)).1
    · rw [ga_sa, ga_sa_ne (by decide), hF.ga 40 rfl, ga_sa_ne (by decide)]
      by_cases e : k = i
      · rw [if_pos ⟨rfl, e⟩, e]; exact (z3 i hi).2
      · rw [if_neg (fun hc => e hc.2)]; exact (a3 k (by omega)).2
  · rintro n _ V1 ⟨a1, a2, a3, hF⟩
    show ∃ c, d_State_becomes_16_38_25 (n + 1) (on 6) V1 = _ ∧ _
    rw [d_State_becomes_16_38_25, if_pos (by decide)]
    exact ⟨V1, rfl, ⟨a1, a2, a3⟩, hF⟩
  · simp only [gi_si]; simp
  · simp only [gi_si]; simp

theorem bec_16_41 {V : ai_V} {z : Ss} {rm : Int32} (hz : cS z V 41) (hr : gi V 16 2 = rm) : ∃ V', d_State_becomes_16_41 V = some V' ∧ cS (z.1, ai_min z.2.1 rm, z.2.2.1, z.2.2.2) V' 16 ∧ Fr ([(16, 0), (16, 1)], [17, 18]) V V' := by
  obtain ⟨z1, z2, z3⟩ := hz
  rw [d_State_becomes_16_41]
  simp only [gi_si]
  simp only [z1, z2, hr]
  refine loop_n (fun n (_ : Unit) x V => d_State_becomes_16_41_25 n x V) (fun c : ai_V => some c)
    (fun i _ V1 => gi V1 16 0 = z.1 ∧ gi V1 16 1 = ai_min z.2.1 rm ∧ (∀ k, k < i → ga V1 17 k = z.2.2.1 k ∧ ga V1 18 k = z.2.2.2 k) ∧ Fr ([(16, 0), (16, 1)], [17, 18]) V V1)
    (fun V' => cS (z.1, ai_min z.2.1 rm, z.2.2.1, z.2.2.2) V' 16 ∧ Fr ([(16, 0), (16, 1)], [17, 18]) V V') 6 ?_ ?_ 6 0 ai_N () _ (by omega) (N_gt (by omega)) ⟨?_, ?_, fun k hk => absurd hk (by omega), Fr.si (Fr.si Fr.rf rfl) rfl⟩
  · rintro n _ i V1 hi ⟨a1, a2, a3, hF⟩
    have hin : ai_in (on i) 6 := by rw [on_in (by omega)]; omega
    show ∃ a' V', d_State_becomes_16_41_25 (n + 1) (on i) V1 = _ ∧ _
    rw [d_State_becomes_16_41_25, if_neg (by rw [show (6 : Int32) = on 6 from rfl, on_le (by omega) (by omega)]; omega), if_pos hin, if_pos hin, if_pos hin, if_pos hin, on_s, on_nn (by omega)]
    refine ⟨(), _, rfl, a1, a2, fun k hk => ⟨?_, ?_⟩, Fr.sa (Fr.sa hF rfl) rfl⟩
    · rw [ga_sa_ne (by decide), ga_sa, hF.ga 42 rfl]
      by_cases e : k = i
      · rw [if_pos ⟨rfl, e⟩, e]; exact (z3 i hi).1
      · rw [if_neg (fun hc => e hc.2)]; exact (a3 k (by omega)).1
    · rw [ga_sa, ga_sa_ne (by decide), hF.ga 43 rfl, ga_sa_ne (by decide)]
      by_cases e : k = i
      · rw [if_pos ⟨rfl, e⟩, e]; exact (z3 i hi).2
      · rw [if_neg (fun hc => e hc.2)]; exact (a3 k (by omega)).2
  · rintro n _ V1 ⟨a1, a2, a3, hF⟩
    show ∃ c, d_State_becomes_16_41_25 (n + 1) (on 6) V1 = _ ∧ _
    rw [d_State_becomes_16_41_25, if_pos (by decide)]
    exact ⟨V1, rfl, ⟨a1, a2, a3⟩, hF⟩
  · simp only [gi_si]; simp
  · simp only [gi_si]; simp

theorem bec_16_44 {V : ai_V} {z : Ss} {rm : Int32} (hz : cS z V 44) (hr : gi V 16 2 = rm) : ∃ V', d_State_becomes_16_44 V = some V' ∧ cS (z.1, ai_min z.2.1 rm, z.2.2.1, z.2.2.2) V' 16 ∧ Fr ([(16, 0), (16, 1)], [17, 18]) V V' := by
  obtain ⟨z1, z2, z3⟩ := hz
  rw [d_State_becomes_16_44]
  simp only [gi_si]
  simp only [z1, z2, hr]
  refine loop_n (fun n (_ : Unit) x V => d_State_becomes_16_44_25 n x V) (fun c : ai_V => some c)
    (fun i _ V1 => gi V1 16 0 = z.1 ∧ gi V1 16 1 = ai_min z.2.1 rm ∧ (∀ k, k < i → ga V1 17 k = z.2.2.1 k ∧ ga V1 18 k = z.2.2.2 k) ∧ Fr ([(16, 0), (16, 1)], [17, 18]) V V1)
    (fun V' => cS (z.1, ai_min z.2.1 rm, z.2.2.1, z.2.2.2) V' 16 ∧ Fr ([(16, 0), (16, 1)], [17, 18]) V V') 6 ?_ ?_ 6 0 ai_N () _ (by omega) (N_gt (by omega)) ⟨?_, ?_, fun k hk => absurd hk (by omega), Fr.si (Fr.si Fr.rf rfl) rfl⟩
  · rintro n _ i V1 hi ⟨a1, a2, a3, hF⟩
    have hin : ai_in (on i) 6 := by rw [on_in (by omega)]; omega
    show ∃ a' V', d_State_becomes_16_44_25 (n + 1) (on i) V1 = _ ∧ _
    rw [d_State_becomes_16_44_25, if_neg (by rw [show (6 : Int32) = on 6 from rfl, on_le (by omega) (by omega)]; omega), if_pos hin, if_pos hin, if_pos hin, if_pos hin, on_s, on_nn (by omega)]
    refine ⟨(), _, rfl, a1, a2, fun k hk => ⟨?_, ?_⟩, Fr.sa (Fr.sa hF rfl) rfl⟩
    · rw [ga_sa_ne (by decide), ga_sa, hF.ga 45 rfl]
      by_cases e : k = i
      · rw [if_pos ⟨rfl, e⟩, e]; exact (z3 i hi).1
      · rw [if_neg (fun hc => e hc.2)]; exact (a3 k (by omega)).1
    · rw [ga_sa, ga_sa_ne (by decide), hF.ga 46 rfl, ga_sa_ne (by decide)]
      by_cases e : k = i
      · rw [if_pos ⟨rfl, e⟩, e]; exact (z3 i hi).2
      · rw [if_neg (fun hc => e hc.2)]; exact (a3 k (by omega)).2
  · rintro n _ V1 ⟨a1, a2, a3, hF⟩
    show ∃ c, d_State_becomes_16_44_25 (n + 1) (on 6) V1 = _ ∧ _
    rw [d_State_becomes_16_44_25, if_pos (by decide)]
    exact ⟨V1, rfl, ⟨a1, a2, a3⟩, hF⟩
  · simp only [gi_si]; simp
  · simp only [gi_si]; simp

theorem bec_16_47 {V : ai_V} {z : Ss} {rm : Int32} (hz : cS z V 47) (hr : gi V 16 2 = rm) : ∃ V', d_State_becomes_16_47 V = some V' ∧ cS (z.1, ai_min z.2.1 rm, z.2.2.1, z.2.2.2) V' 16 ∧ Fr ([(16, 0), (16, 1)], [17, 18]) V V' := by
  obtain ⟨z1, z2, z3⟩ := hz
  rw [d_State_becomes_16_47]
  simp only [gi_si]
  simp only [z1, z2, hr]
  refine loop_n (fun n (_ : Unit) x V => d_State_becomes_16_47_25 n x V) (fun c : ai_V => some c)
    (fun i _ V1 => gi V1 16 0 = z.1 ∧ gi V1 16 1 = ai_min z.2.1 rm ∧ (∀ k, k < i → ga V1 17 k = z.2.2.1 k ∧ ga V1 18 k = z.2.2.2 k) ∧ Fr ([(16, 0), (16, 1)], [17, 18]) V V1)
    (fun V' => cS (z.1, ai_min z.2.1 rm, z.2.2.1, z.2.2.2) V' 16 ∧ Fr ([(16, 0), (16, 1)], [17, 18]) V V') 6 ?_ ?_ 6 0 ai_N () _ (by omega) (N_gt (by omega)) ⟨?_, ?_, fun k hk => absurd hk (by omega), Fr.si (Fr.si Fr.rf rfl) rfl⟩
  · rintro n _ i V1 hi ⟨a1, a2, a3, hF⟩
    have hin : ai_in (on i) 6 := by rw [on_in (by omega)]; omega
    show ∃ a' V', d_State_becomes_16_47_25 (n + 1) (on i) V1 = _ ∧ _
    rw [d_State_becomes_16_47_25, if_neg (by rw [show (6 : Int32) = on 6 from rfl, on_le (by omega) (by omega)]; omega), if_pos hin, if_pos hin, if_pos hin, if_pos hin, on_s, on_nn (by omega)]
    refine ⟨(), _, rfl, a1, a2, fun k hk => ⟨?_, ?_⟩, Fr.sa (Fr.sa hF rfl) rfl⟩
    · rw [ga_sa_ne (by decide), ga_sa, hF.ga 48 rfl]
      by_cases e : k = i
      · rw [if_pos ⟨rfl, e⟩, e]; exact (z3 i hi).1
      · rw [if_neg (fun hc => e hc.2)]; exact (a3 k (by omega)).1
    · rw [ga_sa, ga_sa_ne (by decide), hF.ga 49 rfl, ga_sa_ne (by decide)]
      by_cases e : k = i
      · rw [if_pos ⟨rfl, e⟩, e]; exact (z3 i hi).2
      · rw [if_neg (fun hc => e hc.2)]; exact (a3 k (by omega)).2
  · rintro n _ V1 ⟨a1, a2, a3, hF⟩
    show ∃ c, d_State_becomes_16_47_25 (n + 1) (on 6) V1 = _ ∧ _
    rw [d_State_becomes_16_47_25, if_pos (by decide)]
    exact ⟨V1, rfl, ⟨a1, a2, a3⟩, hF⟩
  · simp only [gi_si]; simp
  · simp only [gi_si]; simp

theorem bec_16_50 {V : ai_V} {z : Ss} {rm : Int32} (hz : cS z V 50) (hr : gi V 16 2 = rm) : ∃ V', d_State_becomes_16_50 V = some V' ∧ cS (z.1, ai_min z.2.1 rm, z.2.2.1, z.2.2.2) V' 16 ∧ Fr ([(16, 0), (16, 1)], [17, 18]) V V' := by
  obtain ⟨z1, z2, z3⟩ := hz
  rw [d_State_becomes_16_50]
  simp only [gi_si]
  simp only [z1, z2, hr]
  refine loop_n (fun n (_ : Unit) x V => d_State_becomes_16_50_25 n x V) (fun c : ai_V => some c)
    (fun i _ V1 => gi V1 16 0 = z.1 ∧ gi V1 16 1 = ai_min z.2.1 rm ∧ (∀ k, k < i → ga V1 17 k = z.2.2.1 k ∧ ga V1 18 k = z.2.2.2 k) ∧ Fr ([(16, 0), (16, 1)], [17, 18]) V V1)
    (fun V' => cS (z.1, ai_min z.2.1 rm, z.2.2.1, z.2.2.2) V' 16 ∧ Fr ([(16, 0), (16, 1)], [17, 18]) V V') 6 ?_ ?_ 6 0 ai_N () _ (by omega) (N_gt (by omega)) ⟨?_, ?_, fun k hk => absurd hk (by omega), Fr.si (Fr.si Fr.rf rfl) rfl⟩
  · rintro n _ i V1 hi ⟨a1, a2, a3, hF⟩
    have hin : ai_in (on i) 6 := by rw [on_in (by omega)]; omega
    show ∃ a' V', d_State_becomes_16_50_25 (n + 1) (on i) V1 = _ ∧ _
    rw [d_State_becomes_16_50_25, if_neg (by rw [show (6 : Int32) = on 6 from rfl, on_le (by omega) (by omega)]; omega), if_pos hin, if_pos hin, if_pos hin, if_pos hin, on_s, on_nn (by omega)]
    refine ⟨(), _, rfl, a1, a2, fun k hk => ⟨?_, ?_⟩, Fr.sa (Fr.sa hF rfl) rfl⟩
    · rw [ga_sa_ne (by decide), ga_sa, hF.ga 51 rfl]
      by_cases e : k = i
      · rw [if_pos ⟨rfl, e⟩, e]; exact (z3 i hi).1
      · rw [if_neg (fun hc => e hc.2)]; exact (a3 k (by omega)).1
    · rw [ga_sa, ga_sa_ne (by decide), hF.ga 52 rfl, ga_sa_ne (by decide)]
      by_cases e : k = i
      · rw [if_pos ⟨rfl, e⟩, e]; exact (z3 i hi).2
      · rw [if_neg (fun hc => e hc.2)]; exact (a3 k (by omega)).2
  · rintro n _ V1 ⟨a1, a2, a3, hF⟩
    show ∃ c, d_State_becomes_16_50_25 (n + 1) (on 6) V1 = _ ∧ _
    rw [d_State_becomes_16_50_25, if_pos (by decide)]
    exact ⟨V1, rfl, ⟨a1, a2, a3⟩, hF⟩
  · simp only [gi_si]; simp
  · simp only [gi_si]; simp

theorem bec_16_53 {V : ai_V} {z : Ss} {rm : Int32} (hz : cS z V 53) (hr : gi V 16 2 = rm) : ∃ V', d_State_becomes_16_53 V = some V' ∧ cS (z.1, ai_min z.2.1 rm, z.2.2.1, z.2.2.2) V' 16 ∧ Fr ([(16, 0), (16, 1)], [17, 18]) V V' := by
  obtain ⟨z1, z2, z3⟩ := hz
  rw [d_State_becomes_16_53]
  simp only [gi_si]
  simp only [z1, z2, hr]
  refine loop_n (fun n (_ : Unit) x V => d_State_becomes_16_53_25 n x V) (fun c : ai_V => some c)
    (fun i _ V1 => gi V1 16 0 = z.1 ∧ gi V1 16 1 = ai_min z.2.1 rm ∧ (∀ k, k < i → ga V1 17 k = z.2.2.1 k ∧ ga V1 18 k = z.2.2.2 k) ∧ Fr ([(16, 0), (16, 1)], [17, 18]) V V1)
    (fun V' => cS (z.1, ai_min z.2.1 rm, z.2.2.1, z.2.2.2) V' 16 ∧ Fr ([(16, 0), (16, 1)], [17, 18]) V V') 6 ?_ ?_ 6 0 ai_N () _ (by omega) (N_gt (by omega)) ⟨?_, ?_, fun k hk => absurd hk (by omega), Fr.si (Fr.si Fr.rf rfl) rfl⟩
  · rintro n _ i V1 hi ⟨a1, a2, a3, hF⟩
    have hin : ai_in (on i) 6 := by rw [on_in (by omega)]; omega
    show ∃ a' V', d_State_becomes_16_53_25 (n + 1) (on i) V1 = _ ∧ _
    rw [d_State_becomes_16_53_25, if_neg (by rw [show (6 : Int32) = on 6 from rfl, on_le (by omega) (by omega)]; omega), if_pos hin, if_pos hin, if_pos hin, if_pos hin, on_s, on_nn (by omega)]
    refine ⟨(), _, rfl, a1, a2, fun k hk => ⟨?_, ?_⟩, Fr.sa (Fr.sa hF rfl) rfl⟩
    · rw [ga_sa_ne (by decide), ga_sa, hF.ga 54 rfl]
      by_cases e : k = i
      · rw [if_pos ⟨rfl, e⟩, e]; exact (z3 i hi).1
      · rw [if_neg (fun hc => e hc.2)]; exact (a3 k (by omega)).1
    · rw [ga_sa, ga_sa_ne (by decide), hF.ga 55 rfl, ga_sa_ne (by decide)]
      by_cases e : k = i
      · rw [if_pos ⟨rfl, e⟩, e]; exact (z3 i hi).2
      · rw [if_neg (fun hc => e hc.2)]; exact (a3 k (by omega)).2
  · rintro n _ V1 ⟨a1, a2, a3, hF⟩
    show ∃ c, d_State_becomes_16_53_25 (n + 1) (on 6) V1 = _ ∧ _
    rw [d_State_becomes_16_53_25, if_pos (by decide)]
    exact ⟨V1, rfl, ⟨a1, a2, a3⟩, hF⟩
  · simp only [gi_si]; simp
  · simp only [gi_si]; simp

theorem bec_16_56 {V : ai_V} {z : Ss} {rm : Int32} (hz : cS z V 56) (hr : gi V 16 2 = rm) : ∃ V', d_State_becomes_16_56 V = some V' ∧ cS (z.1, ai_min z.2.1 rm, z.2.2.1, z.2.2.2) V' 16 ∧ Fr ([(16, 0), (16, 1)], [17, 18]) V V' := by
  obtain ⟨z1, z2, z3⟩ := hz
  rw [d_State_becomes_16_56]
  simp only [gi_si]
  simp only [z1, z2, hr]
  refine loop_n (fun n (_ : Unit) x V => d_State_becomes_16_56_25 n x V) (fun c : ai_V => some c)
    (fun i _ V1 => gi V1 16 0 = z.1 ∧ gi V1 16 1 = ai_min z.2.1 rm ∧ (∀ k, k < i → ga V1 17 k = z.2.2.1 k ∧ ga V1 18 k = z.2.2.2 k) ∧ Fr ([(16, 0), (16, 1)], [17, 18]) V V1)
    (fun V' => cS (z.1, ai_min z.2.1 rm, z.2.2.1, z.2.2.2) V' 16 ∧ Fr ([(16, 0), (16, 1)], [17, 18]) V V') 6 ?_ ?_ 6 0 ai_N () _ (by omega) (N_gt (by omega)) ⟨?_, ?_, fun k hk => absurd hk (by omega), Fr.si (Fr.si Fr.rf rfl) rfl⟩
  · rintro n _ i V1 hi ⟨a1, a2, a3, hF⟩
    have hin : ai_in (on i) 6 := by rw [on_in (by omega)]; omega
    show ∃ a' V', d_State_becomes_16_56_25 (n + 1) (on i) V1 = _ ∧ _
    rw [d_State_becomes_16_56_25, if_neg (by rw [show (6 : Int32) = on 6 from rfl, on_le (by omega) (by omega)]; omega), if_pos hin, if_pos hin, if_pos hin, if_pos hin, on_s, on_nn (by omega)]
    refine ⟨(), _, rfl, a1, a2, fun k hk => ⟨?_, ?_⟩, Fr.sa (Fr.sa hF rfl) rfl⟩
    · rw [ga_sa_ne (by decide), ga_sa, hF.ga 57 rfl]
      by_cases e : k = i
      · rw [if_pos ⟨rfl, e⟩, e]; exact (z3 i hi).1
      · rw [if_neg (fun hc => e hc.2)]; exact (a3 k (by omega)).1
    · rw [ga_sa, ga_sa_ne (by decide), hF.ga 58 rfl, ga_sa_ne (by decide)]
      by_cases e : k = i
      · rw [if_pos ⟨rfl, e⟩, e]; exact (z3 i hi).2
      · rw [if_neg (fun hc => e hc.2)]; exact (a3 k (by omega)).2
  · rintro n _ V1 ⟨a1, a2, a3, hF⟩
    show ∃ c, d_State_becomes_16_56_25 (n + 1) (on 6) V1 = _ ∧ _
    rw [d_State_becomes_16_56_25, if_pos (by decide)]
    exact ⟨V1, rfl, ⟨a1, a2, a3⟩, hF⟩
  · simp only [gi_si]; simp
  · simp only [gi_si]; simp

theorem bec_16_59 {V : ai_V} {z : Ss} {rm : Int32} (hz : cS z V 59) (hr : gi V 16 2 = rm) : ∃ V', d_State_becomes_16_59 V = some V' ∧ cS (z.1, ai_min z.2.1 rm, z.2.2.1, z.2.2.2) V' 16 ∧ Fr ([(16, 0), (16, 1)], [17, 18]) V V' := by
  obtain ⟨z1, z2, z3⟩ := hz
  rw [d_State_becomes_16_59]
  simp only [gi_si]
  simp only [z1, z2, hr]
  refine loop_n (fun n (_ : Unit) x V => d_State_becomes_16_59_25 n x V) (fun c : ai_V => some c)
    (fun i _ V1 => gi V1 16 0 = z.1 ∧ gi V1 16 1 = ai_min z.2.1 rm ∧ (∀ k, k < i → ga V1 17 k = z.2.2.1 k ∧ ga V1 18 k = z.2.2.2 k) ∧ Fr ([(16, 0), (16, 1)], [17, 18]) V V1)
    (fun V' => cS (z.1, ai_min z.2.1 rm, z.2.2.1, z.2.2.2) V' 16 ∧ Fr ([(16, 0), (16, 1)], [17, 18]) V V') 6 ?_ ?_ 6 0 ai_N () _ (by omega) (N_gt (by omega)) ⟨?_, ?_, fun k hk => absurd hk (by omega), Fr.si (Fr.si Fr.rf rfl) rfl⟩
  · rintro n _ i V1 hi ⟨a1, a2, a3, hF⟩
    have hin : ai_in (on i) 6 := by rw [on_in (by omega)]; omega
    show ∃ a' V', d_State_becomes_16_59_25 (n + 1) (on i) V1 = _ ∧ _
    rw [d_State_becomes_16_59_25, if_neg (by rw [show (6 : Int32) = on 6 from rfl, on_le (by omega) (by omega)]; omega), if_pos hin, if_pos hin, if_pos hin, if_pos hin, on_s, on_nn (by omega)]
    refine ⟨(), _, rfl, a1, a2, fun k hk => ⟨?_, ?_⟩, Fr.sa (Fr.sa hF rfl) rfl⟩
    · rw [ga_sa_ne (by decide), ga_sa, hF.ga 60 rfl]
      by_cases e : k = i
      · rw [if_pos ⟨rfl, e⟩, e]; exact (z3 i hi).1
      · rw [if_neg (fun hc => e hc.2)]; exact (a3 k (by omega)).1
    · rw [ga_sa, ga_sa_ne (by decide), hF.ga 61 rfl, ga_sa_ne (by decide)]
      by_cases e : k = i
      · rw [if_pos ⟨rfl, e⟩, e]; exact (z3 i hi).2
      · rw [if_neg (fun hc => e hc.2)]; exact (a3 k (by omega)).2
  · rintro n _ V1 ⟨a1, a2, a3, hF⟩
    show ∃ c, d_State_becomes_16_59_25 (n + 1) (on 6) V1 = _ ∧ _
    rw [d_State_becomes_16_59_25, if_pos (by decide)]
    exact ⟨V1, rfl, ⟨a1, a2, a3⟩, hF⟩
  · simp only [gi_si]; simp
  · simp only [gi_si]; simp

theorem bec_19_16 {V : ai_V} {z : Ss} {rm : Int32} (hz : cS z V 16) (hr : gi V 19 2 = rm) : ∃ V', d_State_becomes_19_16 V = some V' ∧ cS (z.1, ai_min z.2.1 rm, z.2.2.1, z.2.2.2) V' 19 ∧ Fr ([(19, 0), (19, 1)], [20, 21]) V V' := by
  obtain ⟨z1, z2, z3⟩ := hz
  rw [d_State_becomes_19_16]
  simp only [gi_si]
  simp only [z1, z2, hr]
  refine loop_n (fun n (_ : Unit) x V => d_State_becomes_19_16_25 n x V) (fun c : ai_V => some c)
    (fun i _ V1 => gi V1 19 0 = z.1 ∧ gi V1 19 1 = ai_min z.2.1 rm ∧ (∀ k, k < i → ga V1 20 k = z.2.2.1 k ∧ ga V1 21 k = z.2.2.2 k) ∧ Fr ([(19, 0), (19, 1)], [20, 21]) V V1)
    (fun V' => cS (z.1, ai_min z.2.1 rm, z.2.2.1, z.2.2.2) V' 19 ∧ Fr ([(19, 0), (19, 1)], [20, 21]) V V') 6 ?_ ?_ 6 0 ai_N () _ (by omega) (N_gt (by omega)) ⟨?_, ?_, fun k hk => absurd hk (by omega), Fr.si (Fr.si Fr.rf rfl) rfl⟩
  · rintro n _ i V1 hi ⟨a1, a2, a3, hF⟩
    have hin : ai_in (on i) 6 := by rw [on_in (by omega)]; omega
    show ∃ a' V', d_State_becomes_19_16_25 (n + 1) (on i) V1 = _ ∧ _
    rw [d_State_becomes_19_16_25, if_neg (by rw [show (6 : Int32) = on 6 from rfl, on_le (by omega) (by omega)]; omega), if_pos hin, if_pos hin, if_pos hin, if_pos hin, on_s, on_nn (by omega)]
    refine ⟨(), _, rfl, a1, a2, fun k hk => ⟨?_, ?_⟩, Fr.sa (Fr.sa hF rfl) rfl⟩
    · rw [ga_sa_ne (by decide), ga_sa, hF.ga 17 rfl]
      by_cases e : k = i
      · rw [if_pos ⟨rfl, e⟩, e]; exact (z3 i hi).1
      · rw [if_neg (fun hc => e hc.2)]; exact (a3 k (by omega)).1
    · rw [ga_sa, ga_sa_ne (by decide), hF.ga 18 rfl, ga_sa_ne (by decide)]
      by_cases e : k = i
      · rw [if_pos ⟨rfl, e⟩, e]; exact (z3 i hi).2
      · rw [if_neg (fun hc => e hc.2)]; exact (a3 k (by omega)).2
  · rintro n _ V1 ⟨a1, a2, a3, hF⟩
    show ∃ c, d_State_becomes_19_16_25 (n + 1) (on 6) V1 = _ ∧ _
    rw [d_State_becomes_19_16_25, if_pos (by decide)]
    exact ⟨V1, rfl, ⟨a1, a2, a3⟩, hF⟩
  · simp only [gi_si]; simp
  · simp only [gi_si]; simp

theorem bec_83_16 {V : ai_V} {z : Ss} {rm : Int32} (hz : cS z V 16) (hr : gi V 83 2 = rm) : ∃ V', d_State_becomes_83_16 V = some V' ∧ cS (z.1, ai_min z.2.1 rm, z.2.2.1, z.2.2.2) V' 83 ∧ Fr ([(83, 0), (83, 1)], [84, 85]) V V' := by
  obtain ⟨z1, z2, z3⟩ := hz
  rw [d_State_becomes_83_16]
  simp only [gi_si]
  simp only [z1, z2, hr]
  refine loop_n (fun n (_ : Unit) x V => d_State_becomes_83_16_25 n x V) (fun c : ai_V => some c)
    (fun i _ V1 => gi V1 83 0 = z.1 ∧ gi V1 83 1 = ai_min z.2.1 rm ∧ (∀ k, k < i → ga V1 84 k = z.2.2.1 k ∧ ga V1 85 k = z.2.2.2 k) ∧ Fr ([(83, 0), (83, 1)], [84, 85]) V V1)
    (fun V' => cS (z.1, ai_min z.2.1 rm, z.2.2.1, z.2.2.2) V' 83 ∧ Fr ([(83, 0), (83, 1)], [84, 85]) V V') 6 ?_ ?_ 6 0 ai_N () _ (by omega) (N_gt (by omega)) ⟨?_, ?_, fun k hk => absurd hk (by omega), Fr.si (Fr.si Fr.rf rfl) rfl⟩
  · rintro n _ i V1 hi ⟨a1, a2, a3, hF⟩
    have hin : ai_in (on i) 6 := by rw [on_in (by omega)]; omega
    show ∃ a' V', d_State_becomes_83_16_25 (n + 1) (on i) V1 = _ ∧ _
    rw [d_State_becomes_83_16_25, if_neg (by rw [show (6 : Int32) = on 6 from rfl, on_le (by omega) (by omega)]; omega), if_pos hin, if_pos hin, if_pos hin, if_pos hin, on_s, on_nn (by omega)]
    refine ⟨(), _, rfl, a1, a2, fun k hk => ⟨?_, ?_⟩, Fr.sa (Fr.sa hF rfl) rfl⟩
    · rw [ga_sa_ne (by decide), ga_sa, hF.ga 17 rfl]
      by_cases e : k = i
      · rw [if_pos ⟨rfl, e⟩, e]; exact (z3 i hi).1
      · rw [if_neg (fun hc => e hc.2)]; exact (a3 k (by omega)).1
    · rw [ga_sa, ga_sa_ne (by decide), hF.ga 18 rfl, ga_sa_ne (by decide)]
      by_cases e : k = i
      · rw [if_pos ⟨rfl, e⟩, e]; exact (z3 i hi).2
      · rw [if_neg (fun hc => e hc.2)]; exact (a3 k (by omega)).2
  · rintro n _ V1 ⟨a1, a2, a3, hF⟩
    show ∃ c, d_State_becomes_83_16_25 (n + 1) (on 6) V1 = _ ∧ _
    rw [d_State_becomes_83_16_25, if_pos (by decide)]
    exact ⟨V1, rfl, ⟨a1, a2, a3⟩, hF⟩
  · simp only [gi_si]; simp
  · simp only [gi_si]; simp

theorem bec_86_16 {V : ai_V} {z : Ss} {rm : Int32} (hz : cS z V 16) (hr : gi V 86 2 = rm) : ∃ V', d_State_becomes_86_16 V = some V' ∧ cS (z.1, ai_min z.2.1 rm, z.2.2.1, z.2.2.2) V' 86 ∧ Fr ([(86, 0), (86, 1)], [87, 88]) V V' := by
  obtain ⟨z1, z2, z3⟩ := hz
  rw [d_State_becomes_86_16]
  simp only [gi_si]
  simp only [z1, z2, hr]
  refine loop_n (fun n (_ : Unit) x V => d_State_becomes_86_16_25 n x V) (fun c : ai_V => some c)
    (fun i _ V1 => gi V1 86 0 = z.1 ∧ gi V1 86 1 = ai_min z.2.1 rm ∧ (∀ k, k < i → ga V1 87 k = z.2.2.1 k ∧ ga V1 88 k = z.2.2.2 k) ∧ Fr ([(86, 0), (86, 1)], [87, 88]) V V1)
    (fun V' => cS (z.1, ai_min z.2.1 rm, z.2.2.1, z.2.2.2) V' 86 ∧ Fr ([(86, 0), (86, 1)], [87, 88]) V V') 6 ?_ ?_ 6 0 ai_N () _ (by omega) (N_gt (by omega)) ⟨?_, ?_, fun k hk => absurd hk (by omega), Fr.si (Fr.si Fr.rf rfl) rfl⟩
  · rintro n _ i V1 hi ⟨a1, a2, a3, hF⟩
    have hin : ai_in (on i) 6 := by rw [on_in (by omega)]; omega
    show ∃ a' V', d_State_becomes_86_16_25 (n + 1) (on i) V1 = _ ∧ _
    rw [d_State_becomes_86_16_25, if_neg (by rw [show (6 : Int32) = on 6 from rfl, on_le (by omega) (by omega)]; omega), if_pos hin, if_pos hin, if_pos hin, if_pos hin, on_s, on_nn (by omega)]
    refine ⟨(), _, rfl, a1, a2, fun k hk => ⟨?_, ?_⟩, Fr.sa (Fr.sa hF rfl) rfl⟩
    · rw [ga_sa_ne (by decide), ga_sa, hF.ga 17 rfl]
      by_cases e : k = i
      · rw [if_pos ⟨rfl, e⟩, e]; exact (z3 i hi).1
      · rw [if_neg (fun hc => e hc.2)]; exact (a3 k (by omega)).1
    · rw [ga_sa, ga_sa_ne (by decide), hF.ga 18 rfl, ga_sa_ne (by decide)]
      by_cases e : k = i
      · rw [if_pos ⟨rfl, e⟩, e]; exact (z3 i hi).2
      · rw [if_neg (fun hc => e hc.2)]; exact (a3 k (by omega)).2
  · rintro n _ V1 ⟨a1, a2, a3, hF⟩
    show ∃ c, d_State_becomes_86_16_25 (n + 1) (on 6) V1 = _ ∧ _
    rw [d_State_becomes_86_16_25, if_pos (by decide)]
    exact ⟨V1, rfl, ⟨a1, a2, a3⟩, hF⟩
  · simp only [gi_si]; simp
  · simp only [gi_si]; simp

theorem bec_16_83 {V : ai_V} {z : Ss} {rm : Int32} (hz : cS z V 83) (hr : gi V 16 2 = rm) : ∃ V', d_State_becomes_16_83 V = some V' ∧ cS (z.1, ai_min z.2.1 rm, z.2.2.1, z.2.2.2) V' 16 ∧ Fr ([(16, 0), (16, 1)], [17, 18]) V V' := by
  obtain ⟨z1, z2, z3⟩ := hz
  rw [d_State_becomes_16_83]
  simp only [gi_si]
  simp only [z1, z2, hr]
  refine loop_n (fun n (_ : Unit) x V => d_State_becomes_16_83_25 n x V) (fun c : ai_V => some c)
    (fun i _ V1 => gi V1 16 0 = z.1 ∧ gi V1 16 1 = ai_min z.2.1 rm ∧ (∀ k, k < i → ga V1 17 k = z.2.2.1 k ∧ ga V1 18 k = z.2.2.2 k) ∧ Fr ([(16, 0), (16, 1)], [17, 18]) V V1)
    (fun V' => cS (z.1, ai_min z.2.1 rm, z.2.2.1, z.2.2.2) V' 16 ∧ Fr ([(16, 0), (16, 1)], [17, 18]) V V') 6 ?_ ?_ 6 0 ai_N () _ (by omega) (N_gt (by omega)) ⟨?_, ?_, fun k hk => absurd hk (by omega), Fr.si (Fr.si Fr.rf rfl) rfl⟩
  · rintro n _ i V1 hi ⟨a1, a2, a3, hF⟩
    have hin : ai_in (on i) 6 := by rw [on_in (by omega)]; omega
    show ∃ a' V', d_State_becomes_16_83_25 (n + 1) (on i) V1 = _ ∧ _
    rw [d_State_becomes_16_83_25, if_neg (by rw [show (6 : Int32) = on 6 from rfl, on_le (by omega) (by omega)]; omega), if_pos hin, if_pos hin, if_pos hin, if_pos hin, on_s, on_nn (by omega)]
    refine ⟨(), _, rfl, a1, a2, fun k hk => ⟨?_, ?_⟩, Fr.sa (Fr.sa hF rfl) rfl⟩
    · rw [ga_sa_ne (by decide), ga_sa, hF.ga 84 rfl]
      by_cases e : k = i
      · rw [if_pos ⟨rfl, e⟩, e]; exact (z3 i hi).1
      · rw [if_neg (fun hc => e hc.2)]; exact (a3 k (by omega)).1
    · rw [ga_sa, ga_sa_ne (by decide), hF.ga 85 rfl, ga_sa_ne (by decide)]
      by_cases e : k = i
      · rw [if_pos ⟨rfl, e⟩, e]; exact (z3 i hi).2
      · rw [if_neg (fun hc => e hc.2)]; exact (a3 k (by omega)).2
  · rintro n _ V1 ⟨a1, a2, a3, hF⟩
    show ∃ c, d_State_becomes_16_83_25 (n + 1) (on 6) V1 = _ ∧ _
    rw [d_State_becomes_16_83_25, if_pos (by decide)]
    exact ⟨V1, rfl, ⟨a1, a2, a3⟩, hF⟩
  · simp only [gi_si]; simp
  · simp only [gi_si]; simp

theorem bec_16_86 {V : ai_V} {z : Ss} {rm : Int32} (hz : cS z V 86) (hr : gi V 16 2 = rm) : ∃ V', d_State_becomes_16_86 V = some V' ∧ cS (z.1, ai_min z.2.1 rm, z.2.2.1, z.2.2.2) V' 16 ∧ Fr ([(16, 0), (16, 1)], [17, 18]) V V' := by
  obtain ⟨z1, z2, z3⟩ := hz
  rw [d_State_becomes_16_86]
  simp only [gi_si]
  simp only [z1, z2, hr]
  refine loop_n (fun n (_ : Unit) x V => d_State_becomes_16_86_25 n x V) (fun c : ai_V => some c)
    (fun i _ V1 => gi V1 16 0 = z.1 ∧ gi V1 16 1 = ai_min z.2.1 rm ∧ (∀ k, k < i → ga V1 17 k = z.2.2.1 k ∧ ga V1 18 k = z.2.2.2 k) ∧ Fr ([(16, 0), (16, 1)], [17, 18]) V V1)
    (fun V' => cS (z.1, ai_min z.2.1 rm, z.2.2.1, z.2.2.2) V' 16 ∧ Fr ([(16, 0), (16, 1)], [17, 18]) V V') 6 ?_ ?_ 6 0 ai_N () _ (by omega) (N_gt (by omega)) ⟨?_, ?_, fun k hk => absurd hk (by omega), Fr.si (Fr.si Fr.rf rfl) rfl⟩
  · rintro n _ i V1 hi ⟨a1, a2, a3, hF⟩
    have hin : ai_in (on i) 6 := by rw [on_in (by omega)]; omega
    show ∃ a' V', d_State_becomes_16_86_25 (n + 1) (on i) V1 = _ ∧ _
    rw [d_State_becomes_16_86_25, if_neg (by rw [show (6 : Int32) = on 6 from rfl, on_le (by omega) (by omega)]; omega), if_pos hin, if_pos hin, if_pos hin, if_pos hin, on_s, on_nn (by omega)]
    refine ⟨(), _, rfl, a1, a2, fun k hk => ⟨?_, ?_⟩, Fr.sa (Fr.sa hF rfl) rfl⟩
    · rw [ga_sa_ne (by decide), ga_sa, hF.ga 87 rfl]
      by_cases e : k = i
      · rw [if_pos ⟨rfl, e⟩, e]; exact (z3 i hi).1
      · rw [if_neg (fun hc => e hc.2)]; exact (a3 k (by omega)).1
    · rw [ga_sa, ga_sa_ne (by decide), hF.ga 88 rfl, ga_sa_ne (by decide)]
      by_cases e : k = i
      · rw [if_pos ⟨rfl, e⟩, e]; exact (z3 i hi).2
      · rw [if_neg (fun hc => e hc.2)]; exact (a3 k (by omega)).2
  · rintro n _ V1 ⟨a1, a2, a3, hF⟩
    show ∃ c, d_State_becomes_16_86_25 (n + 1) (on 6) V1 = _ ∧ _
    rw [d_State_becomes_16_86_25, if_pos (by decide)]
    exact ⟨V1, rfl, ⟨a1, a2, a3⟩, hF⟩
  · simp only [gi_si]; simp
  · simp only [gi_si]; simp

theorem lay_90_100 {V : ai_V} {k : Nat} (hk : k + 14 ≤ 168) : ∃ V', d_M_lay (on k) V = some V' ∧ (∀ j, j < 14 → ga V' 100 (k + j) = ga V 90 j) ∧ (∀ j, j < k ∨ k + 14 ≤ j → ga V' 100 j = ga V 100 j) ∧ Fr ([], [100]) V V' := by
  rw [d_M_lay]
  refine loop_n (fun n (_ : Unit) x V => d_M_lay_2 n (on k) x V) (fun c : ai_V => some c)
    (fun i _ V1 => (∀ j, j < i → ga V1 100 (k + j) = ga V 90 j) ∧ (∀ j, j < k ∨ k + 14 ≤ j → ga V1 100 j = ga V 100 j) ∧ Fr ([], [100]) V V1)
    (fun V' => (∀ j, j < 14 → ga V' 100 (k + j) = ga V 90 j) ∧ (∀ j, j < k ∨ k + 14 ≤ j → ga V' 100 j = ga V 100 j) ∧ Fr ([], [100]) V V') 14 ?_ ?_ 14 0 ai_N () V (by omega) (N_gt (by omega)) ⟨fun j hj => absurd hj (by omega), fun j hj => rfl, Fr.rf⟩
  · rintro n _ i V1 hi ⟨a1, a2, hF⟩
    show ∃ a' V', d_M_lay_2 (n + 1) (on k) (on i) V1 = _ ∧ _
    rw [d_M_lay_2, if_neg (by rw [show (14 : Int32) = on 14 from rfl, on_le (by omega) (by omega)]; omega), if_pos (by rw [on_in (by omega)]; omega), on_add, if_pos (by rw [on_in (by omega)]; omega), on_s, on_nn (by omega), on_nn (by omega)]
    refine ⟨(), _, rfl, fun j hj => ?_, fun j hj => ?_, Fr.sa hF rfl⟩
    · rw [ga_sa, hF.ga 90 rfl]
      by_cases e : j = i
      · rw [if_pos ⟨rfl, by omega⟩, e]
      · rw [if_neg (fun hc => e (by omega))]; exact a1 j (by omega)
    · rw [ga_sa, if_neg (by omega)]; exact a2 j hj
  · rintro n _ V1 ⟨a1, a2, hF⟩
    show ∃ c, d_M_lay_2 (n + 1) (on k) (on 14) V1 = _ ∧ _
    rw [d_M_lay_2, if_pos (by decide)]
    exact ⟨V1, rfl, a1, a2, hF⟩

theorem lay_90_101 {V : ai_V} {k : Nat} (hk : k + 14 ≤ 14) : ∃ V', d_M_lay_90_101 (on k) V = some V' ∧ (∀ j, j < 14 → ga V' 101 (k + j) = ga V 90 j) ∧ (∀ j, j < k ∨ k + 14 ≤ j → ga V' 101 j = ga V 101 j) ∧ Fr ([], [101]) V V' := by
  rw [d_M_lay_90_101]
  refine loop_n (fun n (_ : Unit) x V => d_M_lay_90_101_2 n (on k) x V) (fun c : ai_V => some c)
    (fun i _ V1 => (∀ j, j < i → ga V1 101 (k + j) = ga V 90 j) ∧ (∀ j, j < k ∨ k + 14 ≤ j → ga V1 101 j = ga V 101 j) ∧ Fr ([], [101]) V V1)
    (fun V' => (∀ j, j < 14 → ga V' 101 (k + j) = ga V 90 j) ∧ (∀ j, j < k ∨ k + 14 ≤ j → ga V' 101 j = ga V 101 j) ∧ Fr ([], [101]) V V') 14 ?_ ?_ 14 0 ai_N () V (by omega) (N_gt (by omega)) ⟨fun j hj => absurd hj (by omega), fun j hj => rfl, Fr.rf⟩
  · rintro n _ i V1 hi ⟨a1, a2, hF⟩
    show ∃ a' V', d_M_lay_90_101_2 (n + 1) (on k) (on i) V1 = _ ∧ _
    rw [d_M_lay_90_101_2, if_neg (by rw [show (14 : Int32) = on 14 from rfl, on_le (by omega) (by omega)]; omega), if_pos (by rw [on_in (by omega)]; omega), on_add, if_pos (by rw [on_in (by omega)]; omega), on_s, on_nn (by omega), on_nn (by omega)]
    refine ⟨(), _, rfl, fun j hj => ?_, fun j hj => ?_, Fr.sa hF rfl⟩
    · rw [ga_sa, hF.ga 90 rfl]
      by_cases e : j = i
      · rw [if_pos ⟨rfl, by omega⟩, e]
      · rw [if_neg (fun hc => e (by omega))]; exact a1 j (by omega)
    · rw [ga_sa, if_neg (by omega)]; exact a2 j hj
  · rintro n _ V1 ⟨a1, a2, hF⟩
    show ∃ c, d_M_lay_90_101_2 (n + 1) (on k) (on 14) V1 = _ ∧ _
    rw [d_M_lay_90_101_2, if_pos (by decide)]
    exact ⟨V1, rfl, a1, a2, hF⟩

theorem lay_101_100 {V : ai_V} {k : Nat} (hk : k + 14 ≤ 168) : ∃ V', d_M_lay_101_100 (on k) V = some V' ∧ (∀ j, j < 14 → ga V' 100 (k + j) = ga V 101 j) ∧ (∀ j, j < k ∨ k + 14 ≤ j → ga V' 100 j = ga V 100 j) ∧ Fr ([], [100]) V V' := by
  rw [d_M_lay_101_100]
  refine loop_n (fun n (_ : Unit) x V => d_M_lay_101_100_2 n (on k) x V) (fun c : ai_V => some c)
    (fun i _ V1 => (∀ j, j < i → ga V1 100 (k + j) = ga V 101 j) ∧ (∀ j, j < k ∨ k + 14 ≤ j → ga V1 100 j = ga V 100 j) ∧ Fr ([], [100]) V V1)
    (fun V' => (∀ j, j < 14 → ga V' 100 (k + j) = ga V 101 j) ∧ (∀ j, j < k ∨ k + 14 ≤ j → ga V' 100 j = ga V 100 j) ∧ Fr ([], [100]) V V') 14 ?_ ?_ 14 0 ai_N () V (by omega) (N_gt (by omega)) ⟨fun j hj => absurd hj (by omega), fun j hj => rfl, Fr.rf⟩
  · rintro n _ i V1 hi ⟨a1, a2, hF⟩
    show ∃ a' V', d_M_lay_101_100_2 (n + 1) (on k) (on i) V1 = _ ∧ _
    rw [d_M_lay_101_100_2, if_neg (by rw [show (14 : Int32) = on 14 from rfl, on_le (by omega) (by omega)]; omega), if_pos (by rw [on_in (by omega)]; omega), on_add, if_pos (by rw [on_in (by omega)]; omega), on_s, on_nn (by omega), on_nn (by omega)]
    refine ⟨(), _, rfl, fun j hj => ?_, fun j hj => ?_, Fr.sa hF rfl⟩
    · rw [ga_sa, hF.ga 101 rfl]
      by_cases e : j = i
      · rw [if_pos ⟨rfl, by omega⟩, e]
      · rw [if_neg (fun hc => e (by omega))]; exact a1 j (by omega)
    · rw [ga_sa, if_neg (by omega)]; exact a2 j hj
  · rintro n _ V1 ⟨a1, a2, hF⟩
    show ∃ c, d_M_lay_101_100_2 (n + 1) (on k) (on 14) V1 = _ ∧ _
    rw [d_M_lay_101_100_2, if_pos (by decide)]
    exact ⟨V1, rfl, a1, a2, hF⟩

theorem lay_90_103 {V : ai_V} {k : Nat} (hk : k + 14 ≤ 14) : ∃ V', d_M_lay_90_103 (on k) V = some V' ∧ (∀ j, j < 14 → ga V' 103 (k + j) = ga V 90 j) ∧ (∀ j, j < k ∨ k + 14 ≤ j → ga V' 103 j = ga V 103 j) ∧ Fr ([], [103]) V V' := by
  rw [d_M_lay_90_103]
  refine loop_n (fun n (_ : Unit) x V => d_M_lay_90_103_2 n (on k) x V) (fun c : ai_V => some c)
    (fun i _ V1 => (∀ j, j < i → ga V1 103 (k + j) = ga V 90 j) ∧ (∀ j, j < k ∨ k + 14 ≤ j → ga V1 103 j = ga V 103 j) ∧ Fr ([], [103]) V V1)
    (fun V' => (∀ j, j < 14 → ga V' 103 (k + j) = ga V 90 j) ∧ (∀ j, j < k ∨ k + 14 ≤ j → ga V' 103 j = ga V 103 j) ∧ Fr ([], [103]) V V') 14 ?_ ?_ 14 0 ai_N () V (by omega) (N_gt (by omega)) ⟨fun j hj => absurd hj (by omega), fun j hj => rfl, Fr.rf⟩
  · rintro n _ i V1 hi ⟨a1, a2, hF⟩
    show ∃ a' V', d_M_lay_90_103_2 (n + 1) (on k) (on i) V1 = _ ∧ _
    rw [d_M_lay_90_103_2, if_neg (by rw [show (14 : Int32) = on 14 from rfl, on_le (by omega) (by omega)]; omega), if_pos (by rw [on_in (by omega)]; omega), on_add, if_pos (by rw [on_in (by omega)]; omega), on_s, on_nn (by omega), on_nn (by omega)]
    refine ⟨(), _, rfl, fun j hj => ?_, fun j hj => ?_, Fr.sa hF rfl⟩
    · rw [ga_sa, hF.ga 90 rfl]
      by_cases e : j = i
      · rw [if_pos ⟨rfl, by omega⟩, e]
      · rw [if_neg (fun hc => e (by omega))]; exact a1 j (by omega)
    · rw [ga_sa, if_neg (by omega)]; exact a2 j hj
  · rintro n _ V1 ⟨a1, a2, hF⟩
    show ∃ c, d_M_lay_90_103_2 (n + 1) (on k) (on 14) V1 = _ ∧ _
    rw [d_M_lay_90_103_2, if_pos (by decide)]
    exact ⟨V1, rfl, a1, a2, hF⟩

theorem lay_90_115 {V : ai_V} {k : Nat} (hk : k + 14 ≤ 28) : ∃ V', d_M_lay_90_115 (on k) V = some V' ∧ (∀ j, j < 14 → ga V' 115 (k + j) = ga V 90 j) ∧ (∀ j, j < k ∨ k + 14 ≤ j → ga V' 115 j = ga V 115 j) ∧ Fr ([], [115]) V V' := by
  rw [d_M_lay_90_115]
  refine loop_n (fun n (_ : Unit) x V => d_M_lay_90_115_2 n (on k) x V) (fun c : ai_V => some c)
    (fun i _ V1 => (∀ j, j < i → ga V1 115 (k + j) = ga V 90 j) ∧ (∀ j, j < k ∨ k + 14 ≤ j → ga V1 115 j = ga V 115 j) ∧ Fr ([], [115]) V V1)
    (fun V' => (∀ j, j < 14 → ga V' 115 (k + j) = ga V 90 j) ∧ (∀ j, j < k ∨ k + 14 ≤ j → ga V' 115 j = ga V 115 j) ∧ Fr ([], [115]) V V') 14 ?_ ?_ 14 0 ai_N () V (by omega) (N_gt (by omega)) ⟨fun j hj => absurd hj (by omega), fun j hj => rfl, Fr.rf⟩
  · rintro n _ i V1 hi ⟨a1, a2, hF⟩
    show ∃ a' V', d_M_lay_90_115_2 (n + 1) (on k) (on i) V1 = _ ∧ _
    rw [d_M_lay_90_115_2, if_neg (by rw [show (14 : Int32) = on 14 from rfl, on_le (by omega) (by omega)]; omega), if_pos (by rw [on_in (by omega)]; omega), on_add, if_pos (by rw [on_in (by omega)]; omega), on_s, on_nn (by omega), on_nn (by omega)]
    refine ⟨(), _, rfl, fun j hj => ?_, fun j hj => ?_, Fr.sa hF rfl⟩
    · rw [ga_sa, hF.ga 90 rfl]
      by_cases e : j = i
      · rw [if_pos ⟨rfl, by omega⟩, e]
      · rw [if_neg (fun hc => e (by omega))]; exact a1 j (by omega)
    · rw [ga_sa, if_neg (by omega)]; exact a2 j hj
  · rintro n _ V1 ⟨a1, a2, hF⟩
    show ∃ c, d_M_lay_90_115_2 (n + 1) (on k) (on 14) V1 = _ ∧ _
    rw [d_M_lay_90_115_2, if_pos (by decide)]
    exact ⟨V1, rfl, a1, a2, hF⟩

theorem mS_of {V V' : ai_V} {z : Ss} {F T k : Nat} (hz : mS z V F 0) (h : ∀ j, j < 14 → ga V' T (k + j) = ga V F j) : mS z V' T k := by
  obtain ⟨z1, z2, z3⟩ := hz
  simp only [Nat.zero_add] at z1 z2 z3
  refine ⟨by rw [h 13 (by omega), z1], by rw [h 12 (by omega), z2], fun j hj => ⟨by rw [h j (by omega), (z3 j hj).1], by rw [h (6 + j) (by omega), (z3 j hj).2]⟩⟩
/-- a question's own state -/
theorem asked_eq {N : Nat} {V : ai_V} {h : Hs} {z : Ss} {rm : Int32} (hS : IS N V h z rm) : ∃ V', d_X_asked V = some V' ∧ cS z V' 19 ∧ gi V' 19 2 = rm ∧ Fr ([(19, 0), (19, 1), (19, 2)], [20, 21]) V V' := by
  obtain ⟨s1, s2, s3, s4, s5, s6, s7, s8⟩ := hS
  have F0 : Fr ([(19, 0), (19, 1), (19, 2)], [20, 21]) V (si V 19 2 rm) := Fr.si Fr.rf rfl
  have Z0 : cS z (si V 19 2 rm) 16 := by
    unfold cS at *
    rw [F0.gi 16 0 rfl, F0.gi 16 1 rfl, F0.ga 17 rfl, F0.ga 18 rfl]; exact s2
  obtain ⟨V1, e1, Z1, F1⟩ := bec_19_16 Z0 (rm := rm) (by rw [gi_si, if_pos ⟨rfl, rfl⟩])
  refine ⟨V1, ?_, ?_, ?_, Fr.tr F0 F1 rfl⟩
  · rw [d_X_asked, s4, e1]; rfl
  · have : ai_min z.2.1 rm = z.2.1 := by
      unfold ai_min
      rw [if_neg (by rw [ti_lt]; omega)]
    rw [this] at Z1; exact Z1
  · rw [F1.gi 19 2 rfl, gi_si, if_pos ⟨rfl, rfl⟩]
theorem laid_eq {V : ai_V} {z : Ss} (hz : mS z V 90 0) : ∃ V', d_M_lay_90_103 (0 : Int32) V = some V' ∧ mS z V' 103 0 ∧ Fr ([], [103]) V V' := by
  obtain ⟨V1, e1, a1, a2, F1⟩ := lay_90_103 (V := V) (k := 0) (by omega)
  exact ⟨V1, e1, mS_of hz a1, F1⟩
/-- the first that has the most -/
def dp (m : Nat) (a : Nat → Int32) : Nat := fo (fun i o => if a i ≤ a o then o else i) (m - 1) 1 0
theorem dp_lt {m : Nat} (hm : 0 < m) (a : Nat → Int32) : dp m a < m := by
  have := fo_ind (g := fun i o => if a i ≤ a o then o else i) (fun i o => o < i) m (fun i o hi ho => by
    show (if a i ≤ a o then o else i) < i + 1
    split <;> omega) (m - 1) 1 0 (by omega) (by omega)
  rw [dp]; omega
theorem dp_congr {m : Nat} (h6 : m ≤ 6) {a a' : Nat → Int32} (h : ∀ k, k < 6 → a k = a' k) : dp m a = dp m a' := by
  have key := fo_rel (g := fun i o => if a i ≤ a o then o else i) (g' := fun i o => if a' i ≤ a' o then o else i) (fun x y => x = y ∧ x < 6) 6 ?_ (m - 1) 1 0 0 (by omega) ⟨rfl, by omega⟩
  · exact key.1
  · rintro i x y hi ⟨rfl, hx⟩
    show (if a i ≤ a x then x else i) = (if a' i ≤ a' x then x else i) ∧ (if a i ≤ a x then x else i) < 6
    rw [h i hi, h x hx]
    refine ⟨rfl, ?_⟩
    by_cases q : a' i ≤ a' x
    · rw [if_pos q]; exact hx
    · rw [if_neg q]; exact hi
theorem deepM_eq {V : ai_V} {h : Hs} (hO : HO h) (hM : MH V h) (h0 : 0 < hm h) : d_M_deepest V = some (on (dp (hm h) (ga V 103))) := by
  have h6 := hO.1
  have := loop_fo (fun n (a : Nat) x => d_M_deepest_4 n (on a) x V) (fun i o => if ga V 103 i ≤ ga V 103 o then o else i) (fun a => some (on a)) (fun _ a => a < 6) (hm h) ?_ ?_ (hm h - 1) 1 ai_N 0 (by omega) (N_gt (by omega)) (by omega)
  · exact this.1
  · intro n a i hi ha
    show d_M_deepest_4 (n + 1) (on a) (on i) V = d_M_deepest_4 n (on (if ga V 103 i ≤ ga V 103 a then a else i)) (on (i + 1)) V ∧ (if ga V 103 i ≤ ga V 103 a then a else i) < 6
    rw [d_M_deepest_4, hM.1, if_neg (by rw [on_le (by omega) (by omega)]; omega), if_pos (by rw [on_in (by omega)]; omega), if_pos (by rw [on_in (by omega)]; omega), on_nn (by omega), on_nn (by omega)]
    by_cases e : ga V 103 i ≤ ga V 103 a
    · rw [if_pos e, if_pos e, d_M_deepest_23, on_s]; exact ⟨rfl, ha⟩
    · rw [if_neg e, if_neg e, d_M_deepest_23, on_s]; exact ⟨rfl, by omega⟩
  · intro n a _
    show d_M_deepest_4 (n + 1) (on a) (on (hm h)) V = _
    rw [d_M_deepest_4, hM.1, if_pos (Int32.le_refl _)]

theorem fg_20 {V : ai_V} {h : Hs} (hO : HO h) (hC : CH V h) (h0 : 0 < hm h) : d_House_firstGreatest V = some (on (dp (hm h) (ga V 20))) := by
  have h6 := hO.1
  have := loop_fo (fun n (a : Nat) x => d_House_firstGreatest_4 n (on a) x V) (fun i o => if ga V 20 i ≤ ga V 20 o then o else i) (fun a => some (on a)) (fun _ a => a < 6) (hm h) ?_ ?_ (hm h - 1) 1 ai_N 0 (by omega) (N_gt (by omega)) (by omega)
  · exact this.1
  · intro n a i hi ha
    show d_House_firstGreatest_4 (n + 1) (on a) (on i) V = d_House_firstGreatest_4 n (on (if ga V 20 i ≤ ga V 20 a then a else i)) (on (i + 1)) V ∧ (if ga V 20 i ≤ ga V 20 a then a else i) < 6
    rw [d_House_firstGreatest_4, hC.1, if_neg (by rw [on_le (by omega) (by omega)]; omega), if_pos (by rw [on_in (by omega)]; omega), if_pos (by rw [on_in (by omega)]; omega), on_nn (by omega), on_nn (by omega)]
    by_cases e : ga V 20 i ≤ ga V 20 a
    · rw [if_pos e, if_pos e, d_House_firstGreatest_23, on_s]; exact ⟨rfl, ha⟩
    · rw [if_neg e, if_neg e, d_House_firstGreatest_23, on_s]; exact ⟨rfl, by omega⟩
  · intro n a _
    show d_House_firstGreatest_4 (n + 1) (on a) (on (hm h)) V = _
    rw [d_House_firstGreatest_4, hC.1, if_pos (Int32.le_refl _)]

theorem fg_21 {V : ai_V} {h : Hs} (hO : HO h) (hC : CH V h) (h0 : 0 < hm h) : d_House_firstGreatest_3_21 V = some (on (dp (hm h) (ga V 21))) := by
  have h6 := hO.1
  have := loop_fo (fun n (a : Nat) x => d_House_firstGreatest_3_21_4 n (on a) x V) (fun i o => if ga V 21 i ≤ ga V 21 o then o else i) (fun a => some (on a)) (fun _ a => a < 6) (hm h) ?_ ?_ (hm h - 1) 1 ai_N 0 (by omega) (N_gt (by omega)) (by omega)
  · exact this.1
  · intro n a i hi ha
    show d_House_firstGreatest_3_21_4 (n + 1) (on a) (on i) V = d_House_firstGreatest_3_21_4 n (on (if ga V 21 i ≤ ga V 21 a then a else i)) (on (i + 1)) V ∧ (if ga V 21 i ≤ ga V 21 a then a else i) < 6
    rw [d_House_firstGreatest_3_21_4, hC.1, if_neg (by rw [on_le (by omega) (by omega)]; omega), if_pos (by rw [on_in (by omega)]; omega), if_pos (by rw [on_in (by omega)]; omega), on_nn (by omega), on_nn (by omega)]
    by_cases e : ga V 21 i ≤ ga V 21 a
    · rw [if_pos e, if_pos e, d_House_firstGreatest_3_21_23, on_s]; exact ⟨rfl, ha⟩
    · rw [if_neg e, if_neg e, d_House_firstGreatest_3_21_23, on_s]; exact ⟨rfl, by omega⟩
  · intro n a _
    show d_House_firstGreatest_3_21_4 (n + 1) (on a) (on (hm h)) V = _
    rw [d_House_firstGreatest_3_21_4, hC.1, if_pos (Int32.le_refl _)]

