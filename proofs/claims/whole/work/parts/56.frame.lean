/-! ===== printed by wip/gen/frames.py: what a method's function may write ===== -/
theorem fr_M_pays : ∀ (x1 : Int32) (V : ai_V) (r : (Int32 × ai_V)), d_M_pays x1 V = some r → Fr w_M_pays V r.2 := by
  intro x1 V r h
  rw [d_M_pays] at h
  obtain ⟨q6, hq6, h⟩ := ai_bd h
  rcases ai_if h with ⟨-, h⟩ | ⟨-, h⟩
  · exact Fr.tr (Fr.si Fr.rf rfl) (fr_M_pays_17 _ _ _ _ _ h) rfl
  · obtain rfl := Option.some.inj h
    exact (Fr.si Fr.rf rfl)
def w_M_liftNow : Fw := ([(89, 15), (89, 16), (89, 17), (89, 18), (89, 19), (89, 23), (89, 24), (89, 25), (89, 26), (89, 27), (89, 28)], [])
theorem fr_M_liftNow : ∀ (x1 : Int32) (V : ai_V) (r : (Int32 × ai_V)), d_M_liftNow x1 V = some r → Fr w_M_liftNow V r.2 := by
  intro x1 V r h
  rw [d_M_liftNow] at h
  obtain ⟨q1, hq1, h⟩ := ai_bd h
  have gq1 : Fr w_M_liftNow V q1.2 := (Fr.tr Fr.rf (fr_M_liftOfAll _ _ _ _ _ hq1) rfl)
  obtain rfl := Option.some.inj h
  exact gq1
def w_M_strongest : Fw := ([(89, 13), (89, 14), (89, 15), (89, 16), (89, 17), (89, 18), (89, 19), (89, 23), (89, 24), (89, 25), (89, 26), (89, 27), (89, 28)], [97])
theorem fr_M_strongest_63 {F23 : Int32 → Int32 → Int32 → ai_V → Option (Int32 × ai_V)} (hF23 : ∀ y0 y1 y2 V r, F23 y0 y1 y2 V = some r → Fr w_M_strongest V r.2) : ∀ (x1 : Int32) (x2 : Int32) (x3 : Int32) (V : ai_V) (r : (Int32 × ai_V)), d_M_strongest_63 F23 x1 x2 x3 V = some r → Fr w_M_strongest V r.2 := by
  intro x1 x2 x3 V r h
  rw [d_M_strongest_63] at h
  exact Fr.tr Fr.rf (hF23 _ _ _ _ _ h) rfl
theorem fr_M_strongest_61 {F23 : Int32 → Int32 → Int32 → ai_V → Option (Int32 × ai_V)} (hF23 : ∀ y0 y1 y2 V r, F23 y0 y1 y2 V = some r → Fr w_M_strongest V r.2) : ∀ (x1 : Int32) (x3 : Int32) (V : ai_V) (r : (Int32 × ai_V)), d_M_strongest_61 F23 x1 x3 V = some r → Fr w_M_strongest V r.2 := by
  intro x1 x3 V r h
  rw [d_M_strongest_61] at h
  exact Fr.tr Fr.rf (fr_M_strongest_63 hF23 _ _ _ _ _ h) rfl
theorem fr_M_strongest_23 : ∀ (n : Nat) (x1 : Int32) (x2 : Int32) (x3 : Int32) (V : ai_V) (r : (Int32 × ai_V)), d_M_strongest_23 n x1 x2 x3 V = some r → Fr w_M_strongest V r.2 := by
  intro n
  induction n with
  | zero =>
    intro x1 x2 x3 V r h
    cases h
  | succ n ih =>
    intro x1 x2 x3 V r h
    rw [d_M_strongest_23] at h
    rcases ai_if h with ⟨-, h⟩ | ⟨-, h⟩
    · obtain ⟨q1, hq1, h⟩ := ai_bd h
      have gq1 : Fr w_M_strongest V q1.2 := (Fr.tr (Fr.si Fr.rf rfl) (fr_M_liftNow _ _ _ hq1) rfl)
      obtain ⟨q2, hq2, h⟩ := ai_bd h
      have gq2 : Fr w_M_strongest V q2 := (Fr.tr gq1 (fr_M_tell _ _ _ hq2) rfl)
      obtain rfl := Option.some.inj h
      exact gq2
    · obtain ⟨q3, hq3, h⟩ := ai_bd h
      rcases ai_if h with ⟨-, h⟩ | ⟨-, h⟩
      · exact Fr.tr Fr.rf (fr_M_strongest_63 ih _ _ _ _ _ h) rfl
      · rcases ai_if h with ⟨-, h⟩ | ⟨-, h⟩
        · exact Fr.tr Fr.rf (fr_M_strongest_61 ih _ _ _ _ h) rfl
        · obtain ⟨q4, hq4, h⟩ := ai_bd h
          have gq4 : Fr w_M_strongest V q4.2 := (Fr.tr Fr.rf (fr_M_liftNow _ _ _ hq4) rfl)
          obtain ⟨q5, hq5, h⟩ := ai_bd h
          have gq5 : Fr w_M_strongest V q5.2 := (Fr.tr gq4 (fr_M_liftNow _ _ _ hq5) rfl)
          rcases ai_if h with ⟨-, h⟩ | ⟨-, h⟩
          · exact Fr.tr gq5 (fr_M_strongest_63 ih _ _ _ _ _ h) rfl
          · exact Fr.tr gq5 (fr_M_strongest_61 ih _ _ _ _ h) rfl
theorem fr_M_strongest : ∀ (x1 : Int32) (V : ai_V) (r : (Int32 × ai_V)), d_M_strongest x1 V = some r → Fr w_M_strongest V r.2 := by
  intro x1 V r h
  rw [d_M_strongest] at h
  obtain ⟨q6, hq6, h⟩ := ai_bd h
  rcases ai_if h with ⟨-, h⟩ | ⟨-, h⟩
  · obtain rfl := Option.some.inj h
    exact (Fr.si Fr.rf rfl)
  · rcases ai_if h with ⟨-, h⟩ | ⟨-, h⟩
    · exact Fr.tr (Fr.si Fr.rf rfl) (fr_M_strongest_23 _ _ _ _ _ _ h) rfl
    · obtain rfl := Option.some.inj h
      exact (Fr.si Fr.rf rfl)
def w_M_dryBy : Fw := ([(89, 15), (89, 16), (89, 17), (89, 18), (89, 19), (89, 23), (89, 24), (89, 25), (89, 26), (89, 27), (89, 28), (89, 29), (89, 32), (89, 33)], [103])
theorem fr_M_dryBy_59 {F36 : Int32 → Int32 → Int32 → Int32 → Int32 → ai_V → Option (Int32 × ai_V)} (hF36 : ∀ y0 y1 y2 y3 y4 V r, F36 y0 y1 y2 y3 y4 V = some r → Fr w_M_dryBy V r.2) : ∀ (x1 : Int32) (x2 : Int32) (x3 : Int32) (x4 : Int32) (x5 : Int32) (s0 : Int32) (V : ai_V) (r : (Int32 × ai_V)), d_M_dryBy_59 F36 x1 x2 x3 x4 x5 s0 V = some r → Fr w_M_dryBy V r.2 := by
  intro x1 x2 x3 x4 x5 s0 V r h
  rw [d_M_dryBy_59] at h
  obtain ⟨q1, hq1, h⟩ := ai_bd h
  have gq1 : Fr w_M_dryBy V q1 := (Fr.tr Fr.rf (fr_M_goQuarter_89_103 _ _ _ _ hq1) rfl)
  obtain ⟨q2, hq2, h⟩ := ai_bd h
  exact Fr.tr gq1 (hF36 _ _ _ _ _ _ _ h) rfl
theorem fr_M_dryBy_36 : ∀ (n : Nat) (x1 : Int32) (x2 : Int32) (x3 : Int32) (x4 : Int32) (x5 : Int32) (V : ai_V) (r : (Int32 × ai_V)), d_M_dryBy_36 n x1 x2 x3 x4 x5 V = some r → Fr w_M_dryBy V r.2 := by
  intro n
  induction n with
  | zero =>
    intro x1 x2 x3 x4 x5 V r h
    cases h
  | succ n ih =>
    intro x1 x2 x3 x4 x5 V r h
    rw [d_M_dryBy_36] at h
    rcases ai_if h with ⟨-, h⟩ | ⟨-, h⟩
    · obtain rfl := Option.some.inj h
      exact Fr.rf
    · rcases ai_if h with ⟨-, h⟩ | ⟨-, h⟩
      · exact Fr.tr Fr.rf (fr_M_dryBy_59 ih _ _ _ _ _ _ _ _ h) rfl
      · exact Fr.tr Fr.rf (fr_M_dryBy_59 ih _ _ _ _ _ _ _ _ h) rfl
theorem fr_M_dryBy : ∀ (x1 : Int32) (x2 : Int32) (x3 : Int32) (V : ai_V) (r : (Int32 × ai_V)), d_M_dryBy x1 x2 x3 V = some r → Fr w_M_dryBy V r.2 := by
  intro x1 x2 x3 V r h
  rw [d_M_dryBy] at h
  obtain ⟨q3, hq3, h⟩ := ai_bd h
  have gq3 : Fr w_M_dryBy V q3 := (Fr.tr Fr.rf (fr_M_lay_90_103 _ _ _ hq3) rfl)
  exact Fr.tr (Fr.sa gq3 rfl) (fr_M_dryBy_36 _ _ _ _ _ _ _ _ h) rfl
def w_M_roomy : Fw := ([(89, 13), (89, 14), (89, 15), (89, 16), (89, 17), (89, 18), (89, 19), (89, 23), (89, 24), (89, 25), (89, 26), (89, 27), (89, 28), (89, 29), (89, 32), (89, 33)], [97, 103])
theorem fr_M_roomy_35 : ∀ (n : Nat) (x1 : Int32) (x2 : Int32) (x3 : Int32) (x4 : Int32) (V : ai_V) (r : (Int32 × ai_V)), d_M_roomy_35 n x1 x2 x3 x4 V = some r → Fr w_M_roomy V r.2 := by
  intro n
  induction n with
  | zero =>
    intro x1 x2 x3 x4 V r h
    cases h
  | succ n ih =>
    intro x1 x2 x3 x4 V r h
    rw [d_M_roomy_35] at h
    obtain ⟨q1, hq1, h⟩ := ai_bd h
    have gq1 : Fr w_M_roomy V q1.2 := (Fr.tr Fr.rf (fr_M_dryBy _ _ _ _ _ hq1) rfl)
    rcases ai_if h with ⟨-, h⟩ | ⟨-, h⟩
    · obtain ⟨q2, hq2, h⟩ := ai_bd h
      have gq2 : Fr w_M_roomy V q2.2 := (Fr.tr (Fr.si gq1 rfl) (fr_M_dryBy _ _ _ _ _ hq2) rfl)
      obtain ⟨q3, hq3, h⟩ := ai_bd h
      have gq3 : Fr w_M_roomy V q3 := (Fr.tr gq2 (fr_M_tell _ _ _ hq3) rfl)
      obtain rfl := Option.some.inj h
      exact gq3
    · exact Fr.tr gq1 (ih _ _ _ _ _ _ h) rfl
theorem fr_M_roomy : ∀ (x1 : Int32) (x2 : Int32) (V : ai_V) (r : (Int32 × ai_V)), d_M_roomy x1 x2 V = some r → Fr w_M_roomy V r.2 := by
  intro x1 x2 V r h
  rw [d_M_roomy] at h
  obtain ⟨q4, hq4, h⟩ := ai_bd h
  rcases ai_if h with ⟨-, h⟩ | ⟨-, h⟩
  · obtain rfl := Option.some.inj h
    exact (Fr.si Fr.rf rfl)
  · obtain ⟨q5, hq5, h⟩ := ai_bd h
    rcases ai_if h with ⟨-, h⟩ | ⟨-, h⟩
    · obtain ⟨q6, hq6, h⟩ := ai_bd h
      have gq6 : Fr w_M_roomy V q6.2 := (Fr.tr (Fr.si Fr.rf rfl) (fr_M_dryBy _ _ _ _ _ hq6) rfl)
      exact Fr.tr gq6 (fr_M_roomy_35 _ _ _ _ _ _ _ h) rfl
    · obtain rfl := Option.some.inj h
      exact (Fr.si Fr.rf rfl)
def w_M_even : Fw := ([(89, 13), (89, 14), (89, 15), (89, 16), (89, 17), (89, 18), (89, 19), (89, 23), (89, 24), (89, 25), (89, 26), (89, 27), (89, 28), (89, 29), (89, 32), (89, 33)], [97, 103])
theorem fr_M_even_122 {F43 : Int32 → Int32 → Int32 → Int32 → ai_V → Option (Int32 × ai_V)} (hF43 : ∀ y0 y1 y2 y3 V r, F43 y0 y1 y2 y3 V = some r → Fr w_M_even V r.2) : ∀ (x1 : Int32) (x2 : Int32) (x4 : Int32) (s0 : Int32) (s1 : Int32) (V : ai_V) (r : (Int32 × ai_V)), d_M_even_122 F43 x1 x2 x4 s0 s1 V = some r → Fr w_M_even V r.2 := by
  intro x1 x2 x4 s0 s1 V r h
  rw [d_M_even_122] at h
  exact Fr.tr Fr.rf (hF43 _ _ _ _ _ _ h) rfl
theorem fr_M_even_94 {F43 : Int32 → Int32 → Int32 → Int32 → ai_V → Option (Int32 × ai_V)} (hF43 : ∀ y0 y1 y2 y3 V r, F43 y0 y1 y2 y3 V = some r → Fr w_M_even V r.2) : ∀ (x1 : Int32) (x2 : Int32) (x3 : Int32) (x4 : Int32) (x6 : Int32) (s0 : Int32) (V : ai_V) (r : (Int32 × ai_V)), d_M_even_94 F43 x1 x2 x3 x4 x6 s0 V = some r → Fr w_M_even V r.2 := by
  intro x1 x2 x3 x4 x6 s0 V r h
  rw [d_M_even_94] at h
  obtain ⟨q1, hq1, h⟩ := ai_bd h
  have gq1 : Fr w_M_even V q1 := (Fr.tr Fr.rf (fr_M_goQuarter_89_103 _ _ _ _ hq1) rfl)
  obtain ⟨q2, hq2, h⟩ := ai_bd h
  rcases ai_if h with ⟨-, h⟩ | ⟨-, h⟩
  · exact Fr.tr gq1 (fr_M_even_122 hF43 _ _ _ _ _ _ _ h) rfl
  · exact Fr.tr gq1 (fr_M_even_122 hF43 _ _ _ _ _ _ _ h) rfl
theorem fr_M_even_74 {F43 : Int32 → Int32 → Int32 → Int32 → ai_V → Option (Int32 × ai_V)} (hF43 : ∀ y0 y1 y2 y3 V r, F43 y0 y1 y2 y3 V = some r → Fr w_M_even V r.2) : ∀ (x1 : Int32) (x2 : Int32) (x3 : Int32) (x4 : Int32) (x5 : Int32) (s0 : Int32) (V : ai_V) (r : (Int32 × ai_V)), d_M_even_74 F43 x1 x2 x3 x4 x5 s0 V = some r → Fr w_M_even V r.2 := by
  intro x1 x2 x3 x4 x5 s0 V r h
  rw [d_M_even_74] at h
  rcases ai_if h with ⟨-, h⟩ | ⟨-, h⟩
  · exact Fr.tr Fr.rf (fr_M_even_94 hF43 _ _ _ _ _ _ _ _ h) rfl
  · exact Fr.tr Fr.rf (fr_M_even_94 hF43 _ _ _ _ _ _ _ _ h) rfl
theorem fr_M_even_43 : ∀ (n : Nat) (x1 : Int32) (x2 : Int32) (x3 : Int32) (x4 : Int32) (V : ai_V) (r : (Int32 × ai_V)), d_M_even_43 n x1 x2 x3 x4 V = some r → Fr w_M_even V r.2 := by
  intro n
  induction n with
  | zero =>
    intro x1 x2 x3 x4 V r h
    cases h
  | succ n ih =>
    intro x1 x2 x3 x4 V r h
    rw [d_M_even_43] at h
    rcases ai_if h with ⟨-, h⟩ | ⟨-, h⟩
    · obtain ⟨q3, hq3, h⟩ := ai_bd h
      have gq3 : Fr w_M_even V q3 := (Fr.tr (Fr.si Fr.rf rfl) (fr_M_tell _ _ _ hq3) rfl)
      obtain ⟨q4, hq4, h⟩ := ai_bd h
      rcases ai_if h with ⟨-, h⟩ | ⟨-, h⟩
      · obtain ⟨q5, hq5, h⟩ := ai_bd h
        have gq5 : Fr w_M_even V q5 := (Fr.tr gq3 (fr_M_tell _ _ _ hq5) rfl)
        obtain ⟨q6, hq6, h⟩ := ai_bd h
        have gq6 : Fr w_M_even V q6 := (Fr.tr gq5 (fr_M_tell _ _ _ hq6) rfl)
        obtain rfl := Option.some.inj h
        exact gq6
      · cases h
    · obtain ⟨q7, hq7, h⟩ := ai_bd h
      rcases ai_if h with ⟨-, h⟩ | ⟨-, h⟩
      · rcases ai_if h with ⟨-, h⟩ | ⟨-, h⟩
        · exact Fr.tr Fr.rf (fr_M_even_74 ih _ _ _ _ _ _ _ _ h) rfl
        · exact Fr.tr Fr.rf (fr_M_even_74 ih _ _ _ _ _ _ _ _ h) rfl
      · cases h
theorem fr_M_even : ∀ (x1 : Int32) (V : ai_V) (r : (Int32 × ai_V)), d_M_even x1 V = some r → Fr w_M_even V r.2 := by
  intro x1 V r h
  rw [d_M_even] at h
  obtain ⟨q8, hq8, h⟩ := ai_bd h
  rcases ai_if h with ⟨-, h⟩ | ⟨-, h⟩
  · rcases ai_if h with ⟨-, h⟩ | ⟨-, h⟩
    · obtain ⟨q9, hq9, h⟩ := ai_bd h
      have gq9 : Fr w_M_even V q9 := (Fr.tr (Fr.si Fr.rf rfl) (fr_M_lay_90_103 _ _ _ hq9) rfl)
      exact Fr.tr gq9 (fr_M_even_43 _ _ _ _ _ _ _ h) rfl
    · obtain rfl := Option.some.inj h
      exact (Fr.si Fr.rf rfl)
  · obtain rfl := Option.some.inj h
    exact (Fr.si Fr.rf rfl)
def w_M_thirst : Fw := ([(89, 13), (89, 14)], [97])
theorem fr_M_thirst_67 {F24 : Int32 → Int32 → Int32 → Int32 → Int32 → ai_V → Option (Int32 × ai_V)} (hF24 : ∀ y0 y1 y2 y3 y4 V r, F24 y0 y1 y2 y3 y4 V = some r → Fr w_M_thirst V r.2) : ∀ (x1 : Int32) (x2 : Int32) (x3 : Int32) (x4 : Int32) (x5 : Int32) (V : ai_V) (r : (Int32 × ai_V)), d_M_thirst_67 F24 x1 x2 x3 x4 x5 V = some r → Fr w_M_thirst V r.2 := by
  intro x1 x2 x3 x4 x5 V r h
  rw [d_M_thirst_67] at h
  exact Fr.tr Fr.rf (hF24 _ _ _ _ _ _ _ h) rfl
theorem fr_M_thirst_24 : ∀ (n : Nat) (x1 : Int32) (x2 : Int32) (x3 : Int32) (x4 : Int32) (x5 : Int32) (V : ai_V) (r : (Int32 × ai_V)), d_M_thirst_24 n x1 x2 x3 x4 x5 V = some r → Fr w_M_thirst V r.2 := by
  intro n
  induction n with
  | zero =>
    intro x1 x2 x3 x4 x5 V r h
    cases h
  | succ n ih =>
    intro x1 x2 x3 x4 x5 V r h
    rw [d_M_thirst_24] at h
    rcases ai_if h with ⟨-, h⟩ | ⟨-, h⟩
    · obtain ⟨q1, hq1, h⟩ := ai_bd h
      have gq1 : Fr w_M_thirst V q1 := (Fr.tr (Fr.si Fr.rf rfl) (fr_M_tell _ _ _ hq1) rfl)
      obtain ⟨q2, hq2, h⟩ := ai_bd h
      have gq2 : Fr w_M_thirst V q2 := (Fr.tr gq1 (fr_M_tell _ _ _ hq2) rfl)
      obtain rfl := Option.some.inj h
      exact gq2
    · obtain ⟨q3, hq3, h⟩ := ai_bd h
      rcases ai_if h with ⟨-, h⟩ | ⟨-, h⟩
      · exact Fr.tr Fr.rf (fr_M_thirst_67 ih _ _ _ _ _ _ _ h) rfl
      · exact Fr.tr Fr.rf (fr_M_thirst_67 ih _ _ _ _ _ _ _ h) rfl
theorem fr_M_thirst : ∀ (x1 : Int32) (V : ai_V) (r : (Int32 × ai_V)), d_M_thirst x1 V = some r → Fr w_M_thirst V r.2 := by
  intro x1 V r h
  rw [d_M_thirst] at h
  obtain ⟨q4, hq4, h⟩ := ai_bd h
  rcases ai_if h with ⟨-, h⟩ | ⟨-, h⟩
  · exact Fr.tr (Fr.si Fr.rf rfl) (fr_M_thirst_24 _ _ _ _ _ _ _ _ h) rfl
  · obtain rfl := Option.some.inj h
    exact (Fr.si Fr.rf rfl)
def w_M_bath : Fw := ([(89, 13), (89, 14), (89, 15), (89, 16), (89, 17), (89, 18), (89, 19), (89, 23), (89, 24), (89, 25), (89, 26), (89, 27), (89, 28), (89, 29), (89, 32), (89, 33)], [97, 103])
theorem fr_M_bath_43 : ∀ (n : Nat) (x1 : Int32) (x2 : Int32) (x3 : Int32) (x4 : Int32) (V : ai_V) (r : (Int32 × ai_V)), d_M_bath_43 n x1 x2 x3 x4 V = some r → Fr w_M_bath V r.2 := by
  intro n
  induction n with
  | zero =>
    intro x1 x2 x3 x4 V r h
    cases h
  | succ n ih =>
    intro x1 x2 x3 x4 V r h
    rw [d_M_bath_43] at h
    rcases ai_if h with ⟨-, h⟩ | ⟨-, h⟩
    · obtain rfl := Option.some.inj h
      exact Fr.rf
    · obtain ⟨q1, hq1, h⟩ := ai_bd h
      have gq1 : Fr w_M_bath V q1 := (Fr.tr Fr.rf (fr_M_goQuarter_89_103 _ _ _ _ hq1) rfl)
      obtain ⟨q2, hq2, h⟩ := ai_bd h
      rcases ai_if h with ⟨-, h⟩ | ⟨-, h⟩
      · obtain ⟨q3, hq3, h⟩ := ai_bd h
        have gq3 : Fr w_M_bath V q3 := (Fr.tr (Fr.si gq1 rfl) (fr_M_tell _ _ _ hq3) rfl)
        obtain rfl := Option.some.inj h
        exact gq3
      · exact Fr.tr gq1 (ih _ _ _ _ _ _ h) rfl
theorem fr_M_bath : ∀ (x1 : Int32) (x2 : Int32) (V : ai_V) (r : (Int32 × ai_V)), d_M_bath x1 x2 V = some r → Fr w_M_bath V r.2 := by
  intro x1 x2 V r h
  rw [d_M_bath] at h
  obtain ⟨q4, hq4, h⟩ := ai_bd h
  rcases ai_if h with ⟨-, h⟩ | ⟨-, h⟩
  · obtain rfl := Option.some.inj h
    exact (Fr.si Fr.rf rfl)
  · obtain ⟨q5, hq5, h⟩ := ai_bd h
    rcases ai_if h with ⟨-, h⟩ | ⟨-, h⟩
    · obtain ⟨q6, hq6, h⟩ := ai_bd h
      have gq6 : Fr w_M_bath V q6 := (Fr.tr (Fr.si Fr.rf rfl) (fr_M_lay_90_103 _ _ _ hq6) rfl)
      exact Fr.tr gq6 (fr_M_bath_43 _ _ _ _ _ _ _ h) rfl
    · obtain rfl := Option.some.inj h
      exact (Fr.si Fr.rf rfl)
def w_M_shares : Fw := ([(89, 13), (89, 14)], [97])
theorem fr_M_shares_58 {F14 : Int32 → Int32 → ai_V → Option (Int32 × ai_V)} (hF14 : ∀ y0 y1 V r, F14 y0 y1 V = some r → Fr w_M_shares V r.2) : ∀ (x2 : Int32) (s0 : Int32) (s1 : Int32) (V : ai_V) (r : (Int32 × ai_V)), d_M_shares_58 F14 x2 s0 s1 V = some r → Fr w_M_shares V r.2 := by
  intro x2 s0 s1 V r h
  rw [d_M_shares_58] at h
  exact Fr.tr Fr.rf (hF14 _ _ _ _ h) rfl
theorem fr_M_shares_14 : ∀ (n : Nat) (x1 : Int32) (x2 : Int32) (V : ai_V) (r : (Int32 × ai_V)), d_M_shares_14 n x1 x2 V = some r → Fr w_M_shares V r.2 := by
  intro n
  induction n with
  | zero =>
    intro x1 x2 V r h
    cases h
  | succ n ih =>
    intro x1 x2 V r h
    rw [d_M_shares_14] at h
    rcases ai_if h with ⟨-, h⟩ | ⟨-, h⟩
    · obtain ⟨q1, hq1, h⟩ := ai_bd h
      have gq1 : Fr w_M_shares V q1 := (Fr.tr Fr.rf (fr_M_tell _ _ _ hq1) rfl)
      obtain ⟨q2, hq2, h⟩ := ai_bd h
      obtain rfl := Option.some.inj h
      exact gq1
    · obtain ⟨q3, hq3, h⟩ := ai_bd h
      obtain ⟨q4, hq4, h⟩ := ai_bd h
      have gq4 : Fr w_M_shares V q4 := (Fr.tr Fr.rf (fr_M_tell _ _ _ hq4) rfl)
      obtain ⟨q5, hq5, h⟩ := ai_bd h
      rcases ai_if h with ⟨-, h⟩ | ⟨-, h⟩
      · exact Fr.tr gq4 (fr_M_shares_58 ih _ _ _ _ _ h) rfl
      · exact Fr.tr gq4 (fr_M_shares_58 ih _ _ _ _ _ h) rfl
theorem fr_M_shares : ∀ (V : ai_V) (r : (Int32 × ai_V)), d_M_shares V = some r → Fr w_M_shares V r.2 := by
  intro V r h
  rw [d_M_shares] at h
  exact Fr.tr (Fr.si (Fr.si Fr.rf rfl) rfl) (fr_M_shares_14 _ _ _ _ _ h) rfl
def w_M_fairdue : Fw := ([(89, 13), (89, 14)], [97])
theorem fr_M_fairdue_8 : ∀ (n : Nat) (x1 : Int32) (V : ai_V) (r : (Int32 × ai_V)), d_M_fairdue_8 n x1 V = some r → Fr w_M_fairdue V r.2 := by
  intro n
  induction n with
  | zero =>
    intro x1 V r h
    cases h
  | succ n ih =>
    intro x1 V r h
    rw [d_M_fairdue_8] at h
    obtain ⟨q1, hq1, h⟩ := ai_bd h
    rcases ai_if h with ⟨-, h⟩ | ⟨-, h⟩
    · obtain ⟨q2, hq2, h⟩ := ai_bd h
      obtain ⟨q3, hq3, h⟩ := ai_bd h
      have gq3 : Fr w_M_fairdue V q3 := (Fr.tr (Fr.si Fr.rf rfl) (fr_M_tell _ _ _ hq3) rfl)
      obtain rfl := Option.some.inj h
      exact gq3
    · exact Fr.tr Fr.rf (ih _ _ _ h) rfl
theorem fr_M_fairdue : ∀ (V : ai_V) (r : (Int32 × ai_V)), d_M_fairdue V = some r → Fr w_M_fairdue V r.2 := by
  intro V r h
  rw [d_M_fairdue] at h
  exact Fr.tr (Fr.si Fr.rf rfl) (fr_M_fairdue_8 _ _ _ _ h) rfl
def w_M_ahead : Fw := ([(89, 14)], [])
theorem fr_M_ahead_17 : ∀ (n : Nat) (x1 : Int32) (x2 : Int32) (V : ai_V) (r : (Int32 × ai_V)), d_M_ahead_17 n x1 x2 V = some r → Fr w_M_ahead V r.2 := by
  intro n
  induction n with
  | zero =>
    intro x1 x2 V r h
    cases h
  | succ n ih =>
    intro x1 x2 V r h
    rw [d_M_ahead_17] at h
    rcases ai_if h with ⟨-, h⟩ | ⟨-, h⟩
    · rcases ai_if h with ⟨-, h⟩ | ⟨-, h⟩
      · obtain rfl := Option.some.inj h
        exact Fr.rf
      · rcases ai_if h with ⟨-, h⟩ | ⟨-, h⟩
        · obtain rfl := Option.some.inj h
          exact Fr.rf
        · rcases ai_if h with ⟨-, h⟩ | ⟨-, h⟩
          · rcases ai_if h with ⟨-, h⟩ | ⟨-, h⟩
            · rcases ai_if h with ⟨-, h⟩ | ⟨-, h⟩
              · obtain rfl := Option.some.inj h
                exact Fr.rf
              · exact Fr.tr Fr.rf (ih _ _ _ _ h) rfl
            · cases h
          · cases h
    · cases h
theorem fr_M_ahead : ∀ (x1 : Int32) (V : ai_V) (r : (Int32 × ai_V)), d_M_ahead x1 V = some r → Fr w_M_ahead V r.2 := by
  intro x1 V r h
  rw [d_M_ahead] at h
  obtain ⟨q1, hq1, h⟩ := ai_bd h
  rcases ai_if h with ⟨-, h⟩ | ⟨-, h⟩
  · exact Fr.tr (Fr.si Fr.rf rfl) (fr_M_ahead_17 _ _ _ _ _ h) rfl
  · obtain rfl := Option.some.inj h
    exact (Fr.si Fr.rf rfl)
def w_M_changed : Fw := ([(89, 13), (89, 14), (89, 15), (89, 16), (89, 17), (89, 18), (89, 19), (89, 23), (89, 24), (89, 25), (89, 26), (89, 27), (89, 28), (89, 29), (89, 30), (89, 31), (89, 32), (89, 33)], [97, 103])
theorem fr_M_changed_21 : ∀ (V : ai_V) (r : (Int32 × ai_V)), d_M_changed_21 V = some r → Fr w_M_changed V r.2 := by
  intro V r h
  rw [d_M_changed_21] at h
  obtain rfl := Option.some.inj h
  exact Fr.rf
theorem fr_M_changed : ∀ (x1 : Int32) (x2 : Int32) (x3 : Int32) (V : ai_V) (r : (Int32 × ai_V)), d_M_changed x1 x2 x3 V = some r → Fr w_M_changed V r.2 := by
  intro x1 x2 x3 V r h
  rw [d_M_changed] at h
  obtain ⟨q1, hq1, h⟩ := ai_bd h
  rcases ai_if h with ⟨-, h⟩ | ⟨-, h⟩
  · exact Fr.tr (Fr.si Fr.rf rfl) (fr_M_changed_21 _ _ h) rfl
  · obtain ⟨q2, hq2, h⟩ := ai_bd h
    rcases ai_if h with ⟨-, h⟩ | ⟨-, h⟩
    · obtain ⟨q3, hq3, h⟩ := ai_bd h
      have gq3 : Fr w_M_changed V q3.2 := (Fr.tr (Fr.si Fr.rf rfl) (fr_M_dryBy _ _ _ _ _ hq3) rfl)
      obtain ⟨q4, hq4, h⟩ := ai_bd h
      have gq4 : Fr w_M_changed V q4.2 := (Fr.tr (Fr.si (Fr.si gq3 rfl) rfl) (fr_M_dryBy _ _ _ _ _ hq4) rfl)
      obtain ⟨q5, hq5, h⟩ := ai_bd h
      have gq5 : Fr w_M_changed V q5 := (Fr.tr (Fr.si (Fr.si (Fr.si gq4 rfl) rfl) rfl) (fr_M_tell _ _ _ hq5) rfl)
      obtain ⟨q6, hq6, h⟩ := ai_bd h
      have gq6 : Fr w_M_changed V q6 := (Fr.tr gq5 (fr_M_tell _ _ _ hq6) rfl)
      obtain rfl := Option.some.inj h
      exact gq6
    · exact Fr.tr (Fr.si Fr.rf rfl) (fr_M_changed_21 _ _ h) rfl
def w_M_lasts : Fw := ([(89, 13), (89, 14), (89, 15), (89, 16), (89, 17), (89, 18), (89, 19), (89, 23), (89, 24), (89, 25), (89, 26), (89, 27), (89, 28), (89, 29), (89, 32), (89, 33)], [97, 103])
theorem fr_M_lasts_19 : ∀ (n : Nat) (x1 : Int32) (V : ai_V) (r : (Int32 × ai_V)), d_M_lasts_19 n x1 V = some r → Fr w_M_lasts V r.2 := by
  intro n
  induction n with
  | zero =>
    intro x1 V r h
    cases h
  | succ n ih =>
    intro x1 V r h
    rw [d_M_lasts_19] at h
    rcases ai_if h with ⟨-, h⟩ | ⟨-, h⟩
    · obtain rfl := Option.some.inj h
      exact Fr.rf
    · obtain ⟨q1, hq1, h⟩ := ai_bd h
      have gq1 : Fr w_M_lasts V q1 := (Fr.tr Fr.rf (fr_M_goQuarter_89_103 _ _ _ _ hq1) rfl)
      rcases ai_if h with ⟨-, h⟩ | ⟨-, h⟩
      · obtain ⟨q2, hq2, h⟩ := ai_bd h
        have gq2 : Fr w_M_lasts V q2 := (Fr.tr (Fr.si gq1 rfl) (fr_M_tell _ _ _ hq2) rfl)
        obtain rfl := Option.some.inj h
        exact gq2
      · exact Fr.tr gq1 (ih _ _ _ h) rfl
theorem fr_M_lasts : ∀ (V : ai_V) (r : (Int32 × ai_V)), d_M_lasts V = some r → Fr w_M_lasts V r.2 := by
  intro V r h
  rw [d_M_lasts] at h
  obtain ⟨q3, hq3, h⟩ := ai_bd h
  have gq3 : Fr w_M_lasts V q3 := (Fr.tr (Fr.si Fr.rf rfl) (fr_M_lay_90_103 _ _ _ hq3) rfl)
  exact Fr.tr gq3 (fr_M_lasts_19 _ _ _ _ h) rfl
def w_M_goPairs : Fw := ([(89, 15), (89, 16), (89, 17), (89, 18), (89, 19), (89, 23), (89, 24), (89, 25), (89, 26), (89, 27), (89, 28), (89, 43)], [105, 106])
theorem fr_M_goPairs_27 {T : Int32 → Int32 → Int32 → Int32 → ai_V → Option ai_V} (hT : ∀ y0 y1 y2 y3 V r, T y0 y1 y2 y3 V = some r → Fr w_M_goPairs V r) : ∀ (n : Nat) (x5 : Int32) (V : ai_V) (r : ai_V), d_M_goPairs_27 T n x5 V = some r → Fr w_M_goPairs V r := by
  intro n
  induction n with
  | zero =>
    intro x5 V r h
    cases h
  | succ n ih =>
    intro x5 V r h
    rw [d_M_goPairs_27] at h
    rcases ai_if h with ⟨-, h⟩ | ⟨-, h⟩
    · obtain rfl := Option.some.inj h
      exact Fr.rf
    · rcases ai_if h with ⟨-, h⟩ | ⟨-, h⟩
      · rcases ai_if h with ⟨-, h⟩ | ⟨-, h⟩
        · exact Fr.tr (Fr.sa Fr.rf rfl) (ih _ _ _ h) rfl
        · cases h
      · cases h
theorem fr_M_goPairs_192 {T : Int32 → Int32 → Int32 → Int32 → ai_V → Option ai_V} {F105 : Int32 → Int32 → Int32 → Int32 → Int32 → ai_V → Option ai_V} (hT : ∀ y0 y1 y2 y3 V r, T y0 y1 y2 y3 V = some r → Fr w_M_goPairs V r) (hF105 : ∀ y0 y1 y2 y3 y4 V r, F105 y0 y1 y2 y3 y4 V = some r → Fr w_M_goPairs V r) : ∀ (x1 : Int32) (x2 : Int32) (x3 : Int32) (x4 : Int32) (x5 : Int32) (V : ai_V) (r : ai_V), d_M_goPairs_192 T F105 x1 x2 x3 x4 x5 V = some r → Fr w_M_goPairs V r := by
  intro x1 x2 x3 x4 x5 V r h
  rw [d_M_goPairs_192] at h
  exact Fr.tr Fr.rf (hF105 _ _ _ _ _ _ _ h) rfl
theorem fr_M_goPairs_105 {T : Int32 → Int32 → Int32 → Int32 → ai_V → Option ai_V} (hT : ∀ y0 y1 y2 y3 V r, T y0 y1 y2 y3 V = some r → Fr w_M_goPairs V r) : ∀ (n : Nat) (x1 : Int32) (x2 : Int32) (x3 : Int32) (x4 : Int32) (x5 : Int32) (V : ai_V) (r : ai_V), d_M_goPairs_105 T n x1 x2 x3 x4 x5 V = some r → Fr w_M_goPairs V r := by
  intro n
  induction n with
  | zero =>
    intro x1 x2 x3 x4 x5 V r h
    cases h
  | succ n ih =>
    intro x1 x2 x3 x4 x5 V r h
    rw [d_M_goPairs_105] at h
    rcases ai_if h with ⟨-, h⟩ | ⟨-, h⟩
    · obtain rfl := Option.some.inj h
      exact Fr.rf
    · obtain ⟨q1, hq1, h⟩ := ai_bd h
      rcases ai_if h with ⟨-, h⟩ | ⟨-, h⟩
      · rcases ai_if h with ⟨-, h⟩ | ⟨-, h⟩
        · rcases ai_if h with ⟨-, h⟩ | ⟨-, h⟩
          · obtain ⟨q2, hq2, h⟩ := ai_bd h
            have gq2 : Fr w_M_goPairs V q2.2 := (Fr.tr (Fr.sa (Fr.sa Fr.rf rfl) rfl) (fr_M_liftNow _ _ _ hq2) rfl)
            obtain ⟨q3, hq3, h⟩ := ai_bd h
            have gq3 : Fr w_M_goPairs V q3 := (Fr.tr gq2 (hT _ _ _ _ _ _ hq3) rfl)
            rcases ai_if h with ⟨-, h⟩ | ⟨-, h⟩
            · rcases ai_if h with ⟨-, h⟩ | ⟨-, h⟩
              · exact Fr.tr (Fr.sa (Fr.sa gq3 rfl) rfl) (fr_M_goPairs_192 hT ih _ _ _ _ _ _ _ h) rfl
              · cases h
            · cases h
          · cases h
        · cases h
      · exact Fr.tr Fr.rf (fr_M_goPairs_192 hT ih _ _ _ _ _ _ _ h) rfl
theorem fr_M_goPairs_100 {T : Int32 → Int32 → Int32 → Int32 → ai_V → Option ai_V} (hT : ∀ y0 y1 y2 y3 V r, T y0 y1 y2 y3 V = some r → Fr w_M_goPairs V r) : ∀ (x1 : Int32) (x2 : Int32) (x3 : Int32) (x4 : Int32) (V : ai_V) (r : ai_V), d_M_goPairs_100 T x1 x2 x3 x4 V = some r → Fr w_M_goPairs V r := by
  intro x1 x2 x3 x4 V r h
  rw [d_M_goPairs_100] at h
  exact Fr.tr Fr.rf (fr_M_goPairs_105 hT _ _ _ _ _ _ _ _ h) rfl
theorem fr_M_goPairs_B {T : Int32 → Int32 → Int32 → Int32 → ai_V → Option ai_V} (hT : ∀ y0 y1 y2 y3 V r, T y0 y1 y2 y3 V = some r → Fr w_M_goPairs V r) : ∀ (x1 : Int32) (x2 : Int32) (x3 : Int32) (x4 : Int32) (V : ai_V) (r : ai_V), d_M_goPairs_B T x1 x2 x3 x4 V = some r → Fr w_M_goPairs V r := by
  intro x1 x2 x3 x4 V r h
  rw [d_M_goPairs_B] at h
  rcases ai_if h with ⟨-, h⟩ | ⟨-, h⟩
  · obtain ⟨q4, hq4, h⟩ := ai_bd h
    rcases ai_if h with ⟨-, h⟩ | ⟨-, h⟩
    · rcases ai_if h with ⟨-, h⟩ | ⟨-, h⟩
      · exact Fr.tr Fr.rf (fr_M_goPairs_100 hT _ _ _ _ _ _ h) rfl
      · obtain ⟨q5, hq5, h⟩ := ai_bd h
        have gq5 : Fr w_M_goPairs V q5 := (Fr.tr Fr.rf (hT _ _ _ _ _ _ hq5) rfl)
        exact Fr.tr gq5 (fr_M_goPairs_100 hT _ _ _ _ _ _ h) rfl
    · obtain ⟨q6, hq6, h⟩ := ai_bd h
      have gq6 : Fr w_M_goPairs V q6 := (Fr.tr Fr.rf (hT _ _ _ _ _ _ hq6) rfl)
      obtain rfl := Option.some.inj h
      exact gq6
  · rcases ai_if h with ⟨-, h⟩ | ⟨-, h⟩
    · exact Fr.tr (Fr.si Fr.rf rfl) (fr_M_goPairs_27 hT _ _ _ _ h) rfl
    · obtain rfl := Option.some.inj h
      exact Fr.rf
theorem fr_M_goPairs_R : ∀ (n : Nat) (x1 : Int32) (x2 : Int32) (x3 : Int32) (x4 : Int32) (V : ai_V) (r : ai_V), d_M_goPairs_R n x1 x2 x3 x4 V = some r → Fr w_M_goPairs V r := by
  intro n
  induction n with
  | zero =>
    intro x1 x2 x3 x4 V r h
    cases h
  | succ n ih =>
    intro x1 x2 x3 x4 V r h
    rw [d_M_goPairs_R] at h
    exact Fr.tr Fr.rf (fr_M_goPairs_B ih _ _ _ _ _ _ h) rfl
theorem fr_M_goPairs : ∀ (x0 : Int32) (x1 : Int32) (x2 : Int32) (x3 : Int32) (V : ai_V) (r : ai_V), d_M_goPairs x0 x1 x2 x3 V = some r → Fr w_M_goPairs V r := by
  intro x0 x1 x2 x3 V r h
  rw [d_M_goPairs] at h
  exact Fr.tr Fr.rf (fr_M_goPairs_R _ _ _ _ _ _ _ h) rfl
def w_M_pairs : Fw := ([(89, 13), (89, 14), (89, 15), (89, 16), (89, 17), (89, 18), (89, 19), (89, 23), (89, 24), (89, 25), (89, 26), (89, 27), (89, 28), (89, 43)], [97, 105, 106])
theorem fr_M_pairs_61 : ∀ (n : Nat) (x2 : Int32) (V : ai_V) (r : (Int32 × ai_V)), d_M_pairs_61 n x2 V = some r → Fr w_M_pairs V r.2 := by
  intro n
  induction n with
  | zero =>
    intro x2 V r h
    cases h
  | succ n ih =>
    intro x2 V r h
    rw [d_M_pairs_61] at h
    rcases ai_if h with ⟨-, h⟩ | ⟨-, h⟩
    · obtain rfl := Option.some.inj h
      exact Fr.rf
    · rcases ai_if h with ⟨-, h⟩ | ⟨-, h⟩
      · obtain ⟨q1, hq1, h⟩ := ai_bd h
        have gq1 : Fr w_M_pairs V q1 := (Fr.tr Fr.rf (fr_M_tell _ _ _ hq1) rfl)
        exact Fr.tr gq1 (ih _ _ _ h) rfl
      · cases h
theorem fr_M_pairs_17 : ∀ (n : Nat) (x1 : Int32) (x2 : Int32) (V : ai_V) (r : (Int32 × ai_V)), d_M_pairs_17 n x1 x2 V = some r → Fr w_M_pairs V r.2 := by
  intro n
  induction n with
  | zero =>
    intro x1 x2 V r h
    cases h
  | succ n ih =>
    intro x1 x2 V r h
    rw [d_M_pairs_17] at h
    rcases ai_if h with ⟨-, h⟩ | ⟨-, h⟩
    · obtain ⟨q2, hq2, h⟩ := ai_bd h
      obtain ⟨q3, hq3, h⟩ := ai_bd h
      have gq3 : Fr w_M_pairs V q3 := (Fr.tr (Fr.si Fr.rf rfl) (fr_M_goPairs _ _ _ _ _ _ hq3) rfl)
      exact Fr.tr (Fr.si gq3 rfl) (fr_M_pairs_61 _ _ _ _ h) rfl
    · rcases ai_if h with ⟨-, h⟩ | ⟨-, h⟩
      · exact Fr.tr (Fr.sa Fr.rf rfl) (ih _ _ _ _ h) rfl
      · cases h
theorem fr_M_pairs : ∀ (x1 : Int32) (V : ai_V) (r : (Int32 × ai_V)), d_M_pairs x1 V = some r → Fr w_M_pairs V r.2 := by
  intro x1 V r h
  rw [d_M_pairs] at h
  obtain ⟨q4, hq4, h⟩ := ai_bd h
  rcases ai_if h with ⟨-, h⟩ | ⟨-, h⟩
  · exact Fr.tr (Fr.si Fr.rf rfl) (fr_M_pairs_17 _ _ _ _ _ h) rfl
  · obtain rfl := Option.some.inj h
    exact (Fr.si Fr.rf rfl)
def w_M_enough : Fw := ([(89, 13), (89, 14), (89, 15), (89, 16), (89, 17), (89, 18), (89, 19), (89, 23), (89, 24), (89, 25), (89, 26), (89, 27), (89, 28)], [97])
theorem fr_M_enough_136 : ∀ (x2 : Int32) (x5 : Int32) (V : ai_V) (r : (Int32 × ai_V)), d_M_enough_136 x2 x5 V = some r → Fr w_M_enough V r.2 := by
  intro x2 x5 V r h
  rw [d_M_enough_136] at h
  obtain ⟨q1, hq1, h⟩ := ai_bd h
  have gq1 : Fr w_M_enough V q1 := (Fr.tr Fr.rf (fr_M_tell _ _ _ hq1) rfl)
  obtain rfl := Option.some.inj h
  exact gq1
theorem fr_M_enough_102 {F31 : Int32 → Int32 → Int32 → Int32 → Int32 → Int32 → ai_V → Option (Int32 × ai_V)} {F46 : Int32 → Int32 → Int32 → Int32 → Int32 → Int32 → Int32 → ai_V → Option (Int32 × ai_V)} (hF31 : ∀ y0 y1 y2 y3 y4 y5 V r, F31 y0 y1 y2 y3 y4 y5 V = some r → Fr w_M_enough V r.2) (hF46 : ∀ y0 y1 y2 y3 y4 y5 y6 V r, F46 y0 y1 y2 y3 y4 y5 y6 V = some r → Fr w_M_enough V r.2) : ∀ (x1 : Int32) (x2 : Int32) (x3 : Int32) (x4 : Int32) (x5 : Int32) (x6 : Int32) (x7 : Int32) (V : ai_V) (r : (Int32 × ai_V)), d_M_enough_102 F31 F46 x1 x2 x3 x4 x5 x6 x7 V = some r → Fr w_M_enough V r.2 := by
  intro x1 x2 x3 x4 x5 x6 x7 V r h
  rw [d_M_enough_102] at h
  exact Fr.tr Fr.rf (hF46 _ _ _ _ _ _ _ _ _ h) rfl
theorem fr_M_enough_99 {F31 : Int32 → Int32 → Int32 → Int32 → Int32 → Int32 → ai_V → Option (Int32 × ai_V)} {F46 : Int32 → Int32 → Int32 → Int32 → Int32 → Int32 → Int32 → ai_V → Option (Int32 × ai_V)} (hF31 : ∀ y0 y1 y2 y3 y4 y5 V r, F31 y0 y1 y2 y3 y4 y5 V = some r → Fr w_M_enough V r.2) (hF46 : ∀ y0 y1 y2 y3 y4 y5 y6 V r, F46 y0 y1 y2 y3 y4 y5 y6 V = some r → Fr w_M_enough V r.2) : ∀ (x1 : Int32) (x2 : Int32) (x3 : Int32) (x4 : Int32) (x5 : Int32) (x6 : Int32) (x7 : Int32) (V : ai_V) (r : (Int32 × ai_V)), d_M_enough_99 F31 F46 x1 x2 x3 x4 x5 x6 x7 V = some r → Fr w_M_enough V r.2 := by
  intro x1 x2 x3 x4 x5 x6 x7 V r h
  rw [d_M_enough_99] at h
  exact Fr.tr Fr.rf (fr_M_enough_102 hF31 hF46 _ _ _ _ _ _ _ _ _ h) rfl
theorem fr_M_enough_46 {F31 : Int32 → Int32 → Int32 → Int32 → Int32 → Int32 → ai_V → Option (Int32 × ai_V)} (hF31 : ∀ y0 y1 y2 y3 y4 y5 V r, F31 y0 y1 y2 y3 y4 y5 V = some r → Fr w_M_enough V r.2) : ∀ (n : Nat) (x1 : Int32) (x2 : Int32) (x3 : Int32) (x4 : Int32) (x5 : Int32) (x6 : Int32) (x7 : Int32) (V : ai_V) (r : (Int32 × ai_V)), d_M_enough_46 F31 n x1 x2 x3 x4 x5 x6 x7 V = some r → Fr w_M_enough V r.2 := by
  intro n
  induction n with
  | zero =>
    intro x1 x2 x3 x4 x5 x6 x7 V r h
    cases h
  | succ n ih =>
    intro x1 x2 x3 x4 x5 x6 x7 V r h
    rw [d_M_enough_46] at h
    rcases ai_if h with ⟨-, h⟩ | ⟨-, h⟩
    · exact Fr.tr Fr.rf (hF31 _ _ _ _ _ _ _ _ h) rfl
    · obtain ⟨q2, hq2, h⟩ := ai_bd h
      have gq2 : Fr w_M_enough V q2.2 := (Fr.tr Fr.rf (fr_M_liftNow _ _ _ hq2) rfl)
      rcases ai_if h with ⟨-, h⟩ | ⟨-, h⟩
      · rcases ai_if h with ⟨-, h⟩ | ⟨-, h⟩
        · exact Fr.tr gq2 (fr_M_enough_99 hF31 ih _ _ _ _ _ _ _ _ _ h) rfl
        · exact Fr.tr gq2 (fr_M_enough_99 hF31 ih _ _ _ _ _ _ _ _ _ h) rfl
      · exact Fr.tr gq2 (fr_M_enough_102 hF31 ih _ _ _ _ _ _ _ _ _ h) rfl
theorem fr_M_enough_31 : ∀ (n : Nat) (x1 : Int32) (x2 : Int32) (x3 : Int32) (x4 : Int32) (x5 : Int32) (x6 : Int32) (V : ai_V) (r : (Int32 × ai_V)), d_M_enough_31 n x1 x2 x3 x4 x5 x6 V = some r → Fr w_M_enough V r.2 := by
  intro n
  induction n with
  | zero =>
    intro x1 x2 x3 x4 x5 x6 V r h
    cases h
  | succ n ih =>
    intro x1 x2 x3 x4 x5 x6 V r h
    rw [d_M_enough_31] at h
    rcases ai_if h with ⟨-, h⟩ | ⟨-, h⟩
    · rcases ai_if h with ⟨-, h⟩ | ⟨-, h⟩
      · exact Fr.tr (Fr.si Fr.rf rfl) (fr_M_enough_136 _ _ _ _ h) rfl
      · obtain ⟨q3, hq3, h⟩ := ai_bd h
        have gq3 : Fr w_M_enough V q3 := (Fr.tr (Fr.si Fr.rf rfl) (fr_M_tell _ _ _ hq3) rfl)
        obtain ⟨q4, hq4, h⟩ := ai_bd h
        have gq4 : Fr w_M_enough V q4 := (Fr.tr gq3 (fr_M_tell _ _ _ hq4) rfl)
        exact Fr.tr gq4 (fr_M_enough_136 _ _ _ _ h) rfl
    · exact Fr.tr Fr.rf (fr_M_enough_46 ih _ _ _ _ _ _ _ _ _ _ h) rfl
theorem fr_M_enough : ∀ (x1 : Int32) (V : ai_V) (r : (Int32 × ai_V)), d_M_enough x1 V = some r → Fr w_M_enough V r.2 := by
  intro x1 V r h
  rw [d_M_enough] at h
  obtain ⟨q5, hq5, h⟩ := ai_bd h
  rcases ai_if h with ⟨-, h⟩ | ⟨-, h⟩
  · exact Fr.tr (Fr.si Fr.rf rfl) (fr_M_enough_31 _ _ _ _ _ _ _ _ _ h) rfl
  · obtain rfl := Option.some.inj h
    exact (Fr.si Fr.rf rfl)
def w_M_step : Fw := ([(89, 13), (89, 14), (89, 15), (89, 16), (89, 17), (89, 18), (89, 19), (89, 23), (89, 24), (89, 25), (89, 26), (89, 27), (89, 28)], [97])
theorem fr_M_step_64 {F20 : Int32 → Int32 → Int32 → ai_V → Option (Int32 × ai_V)} (hF20 : ∀ y0 y1 y2 V r, F20 y0 y1 y2 V = some r → Fr w_M_step V r.2) : ∀ (x1 : Int32) (x2 : Int32) (x3 : Int32) (V : ai_V) (r : (Int32 × ai_V)), d_M_step_64 F20 x1 x2 x3 V = some r → Fr w_M_step V r.2 := by
  intro x1 x2 x3 V r h
  rw [d_M_step_64] at h
  exact Fr.tr Fr.rf (hF20 _ _ _ _ _ h) rfl
theorem fr_M_step_62 {F20 : Int32 → Int32 → Int32 → ai_V → Option (Int32 × ai_V)} (hF20 : ∀ y0 y1 y2 V r, F20 y0 y1 y2 V = some r → Fr w_M_step V r.2) : ∀ (x1 : Int32) (x3 : Int32) (V : ai_V) (r : (Int32 × ai_V)), d_M_step_62 F20 x1 x3 V = some r → Fr w_M_step V r.2 := by
  intro x1 x3 V r h
  rw [d_M_step_62] at h
  exact Fr.tr Fr.rf (fr_M_step_64 hF20 _ _ _ _ _ h) rfl
theorem fr_M_step_20 : ∀ (n : Nat) (x1 : Int32) (x2 : Int32) (x3 : Int32) (V : ai_V) (r : (Int32 × ai_V)), d_M_step_20 n x1 x2 x3 V = some r → Fr w_M_step V r.2 := by
  intro n
  induction n with
  | zero =>
    intro x1 x2 x3 V r h
    cases h
  | succ n ih =>
    intro x1 x2 x3 V r h
    rw [d_M_step_20] at h
    rcases ai_if h with ⟨-, h⟩ | ⟨-, h⟩
    · rcases ai_if h with ⟨-, h⟩ | ⟨-, h⟩
      · obtain ⟨q1, hq1, h⟩ := ai_bd h
        have gq1 : Fr w_M_step V q1.2 := (Fr.tr Fr.rf (fr_M_liftNow _ _ _ hq1) rfl)
        obtain ⟨q2, hq2, h⟩ := ai_bd h
        have gq2 : Fr w_M_step V q2 := (Fr.tr (Fr.si gq1 rfl) (fr_M_tell _ _ _ hq2) rfl)
        obtain ⟨q3, hq3, h⟩ := ai_bd h
        have gq3 : Fr w_M_step V q3.2 := (Fr.tr gq2 (fr_M_liftNow _ _ _ hq3) rfl)
        obtain ⟨q4, hq4, h⟩ := ai_bd h
        have gq4 : Fr w_M_step V q4.2 := (Fr.tr gq3 (fr_M_liftNow _ _ _ hq4) rfl)
        obtain ⟨q5, hq5, h⟩ := ai_bd h
        have gq5 : Fr w_M_step V q5 := (Fr.tr gq4 (fr_M_tell _ _ _ hq5) rfl)
        obtain rfl := Option.some.inj h
        exact gq5
      · obtain rfl := Option.some.inj h
        exact Fr.rf
    · rcases ai_if h with ⟨-, h⟩ | ⟨-, h⟩
      · exact Fr.tr Fr.rf (fr_M_step_64 ih _ _ _ _ _ h) rfl
      · rcases ai_if h with ⟨-, h⟩ | ⟨-, h⟩
        · exact Fr.tr Fr.rf (fr_M_step_62 ih _ _ _ _ h) rfl
        · obtain ⟨q6, hq6, h⟩ := ai_bd h
          have gq6 : Fr w_M_step V q6.2 := (Fr.tr Fr.rf (fr_M_liftNow _ _ _ hq6) rfl)
          obtain ⟨q7, hq7, h⟩ := ai_bd h
          have gq7 : Fr w_M_step V q7.2 := (Fr.tr gq6 (fr_M_liftNow _ _ _ hq7) rfl)
          rcases ai_if h with ⟨-, h⟩ | ⟨-, h⟩
          · exact Fr.tr gq7 (fr_M_step_64 ih _ _ _ _ _ h) rfl
          · exact Fr.tr gq7 (fr_M_step_62 ih _ _ _ _ h) rfl
theorem fr_M_step : ∀ (x1 : Int32) (V : ai_V) (r : (Int32 × ai_V)), d_M_step x1 V = some r → Fr w_M_step V r.2 := by
  intro x1 V r h
  rw [d_M_step] at h
  obtain ⟨q8, hq8, h⟩ := ai_bd h
  rcases ai_if h with ⟨-, h⟩ | ⟨-, h⟩
  · exact Fr.tr (Fr.si Fr.rf rfl) (fr_M_step_20 _ _ _ _ _ _ h) rfl
  · obtain rfl := Option.some.inj h
    exact (Fr.si Fr.rf rfl)
def w_M_values : Fw := ([(89, 11), (89, 14), (89, 15), (89, 16), (89, 17), (89, 18), (89, 19), (89, 46)], [107, 108])
theorem fr_M_values_179 : ∀ (n : Nat) (x1 : Int32) (x2 : Int32) (V : ai_V) (r : (Int32 × ai_V)), d_M_values_179 n x1 x2 V = some r → Fr w_M_values V r.2 := by
  intro n
  induction n with
  | zero =>
    intro x1 x2 V r h
    cases h
  | succ n ih =>
    intro x1 x2 V r h
    rw [d_M_values_179] at h
    rcases ai_if h with ⟨-, h⟩ | ⟨-, h⟩
    · obtain rfl := Option.some.inj h
      exact (Fr.si Fr.rf rfl)
    · rcases ai_if h with ⟨-, h⟩ | ⟨-, h⟩
      · rcases ai_if h with ⟨-, h⟩ | ⟨-, h⟩
        · exact Fr.tr (Fr.sa Fr.rf rfl) (ih _ _ _ _ h) rfl
        · cases h
      · cases h
theorem fr_M_values_152 : ∀ (x1 : Int32) (V : ai_V) (r : (Int32 × ai_V)), d_M_values_152 x1 V = some r → Fr w_M_values V r.2 := by
  intro x1 V r h
  rw [d_M_values_152] at h
  obtain ⟨q1, hq1, h⟩ := ai_bd h
  rcases ai_if h with ⟨-, h⟩ | ⟨-, h⟩
  · rcases ai_if h with ⟨-, h⟩ | ⟨-, h⟩
    · exact Fr.tr Fr.rf (fr_M_values_179 _ _ _ _ _ h) rfl
    · obtain rfl := Option.some.inj h
      exact Fr.rf
  · obtain rfl := Option.some.inj h
    exact Fr.rf
theorem fr_M_values_99 {F86 : Int32 → Int32 → ai_V → Option (Int32 × ai_V)} (hF86 : ∀ y0 y1 V r, F86 y0 y1 V = some r → Fr w_M_values V r.2) : ∀ (n : Nat) (x1 : Int32) (x2 : Int32) (x3 : Int32) (V : ai_V) (r : (Int32 × ai_V)), d_M_values_99 F86 n x1 x2 x3 V = some r → Fr w_M_values V r.2 := by
  intro n
  induction n with
  | zero =>
    intro x1 x2 x3 V r h
    cases h
  | succ n ih =>
    intro x1 x2 x3 V r h
    rw [d_M_values_99] at h
    rcases ai_if h with ⟨-, h⟩ | ⟨-, h⟩
    · exact Fr.tr Fr.rf (hF86 _ _ _ _ h) rfl
    · obtain ⟨q2, hq2, h⟩ := ai_bd h
      have gq2 : Fr w_M_values V q2.2 := (Fr.tr Fr.rf (fr_M_digit _ _ _ _ hq2) rfl)
      rcases ai_if h with ⟨-, h⟩ | ⟨-, h⟩
      · exact Fr.tr (Fr.sa gq2 rfl) (ih _ _ _ _ _ h) rfl
      · cases h
theorem fr_M_values_86 : ∀ (n : Nat) (x1 : Int32) (x2 : Int32) (V : ai_V) (r : (Int32 × ai_V)), d_M_values_86 n x1 x2 V = some r → Fr w_M_values V r.2 := by
  intro n
  induction n with
  | zero =>
    intro x1 x2 V r h
    cases h
  | succ n ih =>
    intro x1 x2 V r h
    rw [d_M_values_86] at h
    rcases ai_if h with ⟨-, h⟩ | ⟨-, h⟩
    · rcases ai_if h with ⟨-, h⟩ | ⟨-, h⟩
      · exact Fr.tr Fr.rf (fr_M_values_152 _ _ _ h) rfl
      · obtain ⟨q3, hq3, h⟩ := ai_bd h
        have gq3 : Fr w_M_values V q3 := (Fr.tr Fr.rf (fr_M_fault _ _ _ hq3) rfl)
        exact Fr.tr gq3 (fr_M_values_152 _ _ _ h) rfl
    · obtain ⟨q4, hq4, h⟩ := ai_bd h
      have gq4 : Fr w_M_values V q4 := (Fr.tr Fr.rf (fr_M_need _ _ _ hq4) rfl)
      exact Fr.tr gq4 (fr_M_values_99 ih _ _ _ _ _ _ h) rfl
theorem fr_M_values_84 : ∀ (x1 : Int32) (V : ai_V) (r : (Int32 × ai_V)), d_M_values_84 x1 V = some r → Fr w_M_values V r.2 := by
  intro x1 V r h
  rw [d_M_values_84] at h
  exact Fr.tr Fr.rf (fr_M_values_86 _ _ _ _ _ h) rfl
theorem fr_M_values_71 : ∀ (x1 : Int32) (V : ai_V) (r : (Int32 × ai_V)), d_M_values_71 x1 V = some r → Fr w_M_values V r.2 := by
  intro x1 V r h
  rw [d_M_values_71] at h
  rcases ai_if h with ⟨-, h⟩ | ⟨-, h⟩
  · exact Fr.tr Fr.rf (fr_M_values_84 _ _ _ h) rfl
  · obtain ⟨q5, hq5, h⟩ := ai_bd h
    have gq5 : Fr w_M_values V q5 := (Fr.tr Fr.rf (fr_M_fault _ _ _ hq5) rfl)
    exact Fr.tr gq5 (fr_M_values_84 _ _ _ h) rfl
theorem fr_M_values_26 : ∀ (n : Nat) (x1 : Int32) (V : ai_V) (r : (Int32 × ai_V)), d_M_values_26 n x1 V = some r → Fr w_M_values V r.2 := by
  intro n
  induction n with
  | zero =>
    intro x1 V r h
    cases h
  | succ n ih =>
    intro x1 V r h
    rw [d_M_values_26] at h
    obtain ⟨q6, hq6, h⟩ := ai_bd h
    rcases ai_if h with ⟨-, h⟩ | ⟨-, h⟩
    · exact Fr.tr Fr.rf (fr_M_values_71 _ _ _ h) rfl
    · obtain ⟨q7, hq7, h⟩ := ai_bd h
      obtain ⟨q8, hq8, h⟩ := ai_bd h
      rcases ai_if h with ⟨-, h⟩ | ⟨-, h⟩
      · exact Fr.tr Fr.rf (fr_M_values_71 _ _ _ h) rfl
      · rcases ai_if h with ⟨-, h⟩ | ⟨-, h⟩
        · exact Fr.tr Fr.rf (fr_M_values_71 _ _ _ h) rfl
        · obtain ⟨q9, hq9, h⟩ := ai_bd h
          have gq9 : Fr w_M_values V q9.2 := (Fr.tr Fr.rf (fr_M_digit _ _ _ _ hq9) rfl)
          rcases ai_if h with ⟨-, h⟩ | ⟨-, h⟩
          · exact Fr.tr (Fr.sa gq9 rfl) (ih _ _ _ h) rfl
          · cases h
theorem fr_M_values : ∀ (V : ai_V) (r : (Int32 × ai_V)), d_M_values V = some r → Fr w_M_values V r.2 := by
  intro V r h
  rw [d_M_values] at h
  obtain ⟨q10, hq10, h⟩ := ai_bd h
  have gq10 : Fr w_M_values V q10 := (Fr.tr (Fr.si Fr.rf rfl) (fr_M_begin _ _ _ _ hq10) rfl)
  exact Fr.tr (Fr.si gq10 rfl) (fr_M_values_26 _ _ _ _ h) rfl
def w_M_goAllot : Fw := ([(89, 49)], [109, 110])
theorem fr_M_goAllot_25 {T : Int32 → Int32 → Int32 → ai_V → Option ai_V} (hT : ∀ y0 y1 y2 V r, T y0 y1 y2 V = some r → Fr w_M_goAllot V r) : ∀ (n : Nat) (x4 : Int32) (V : ai_V) (r : ai_V), d_M_goAllot_25 T n x4 V = some r → Fr w_M_goAllot V r := by
  intro n
  induction n with
  | zero =>
    intro x4 V r h
    cases h
  | succ n ih =>
    intro x4 V r h
    rw [d_M_goAllot_25] at h
    rcases ai_if h with ⟨-, h⟩ | ⟨-, h⟩
    · obtain rfl := Option.some.inj h
      exact Fr.rf
    · rcases ai_if h with ⟨-, h⟩ | ⟨-, h⟩
      · rcases ai_if h with ⟨-, h⟩ | ⟨-, h⟩
        · exact Fr.tr (Fr.sa Fr.rf rfl) (ih _ _ _ h) rfl
        · cases h
      · cases h
theorem fr_M_goAllot_113 {T : Int32 → Int32 → Int32 → ai_V → Option ai_V} {F58 : Int32 → Int32 → Int32 → Int32 → ai_V → Option ai_V} (hT : ∀ y0 y1 y2 V r, T y0 y1 y2 V = some r → Fr w_M_goAllot V r) (hF58 : ∀ y0 y1 y2 y3 V r, F58 y0 y1 y2 y3 V = some r → Fr w_M_goAllot V r) : ∀ (x1 : Int32) (x2 : Int32) (x3 : Int32) (x4 : Int32) (V : ai_V) (r : ai_V), d_M_goAllot_113 T F58 x1 x2 x3 x4 V = some r → Fr w_M_goAllot V r := by
  intro x1 x2 x3 x4 V r h
  rw [d_M_goAllot_113] at h
  exact Fr.tr Fr.rf (hF58 _ _ _ _ _ _ h) rfl
theorem fr_M_goAllot_58 {T : Int32 → Int32 → Int32 → ai_V → Option ai_V} (hT : ∀ y0 y1 y2 V r, T y0 y1 y2 V = some r → Fr w_M_goAllot V r) : ∀ (n : Nat) (x1 : Int32) (x2 : Int32) (x3 : Int32) (x4 : Int32) (V : ai_V) (r : ai_V), d_M_goAllot_58 T n x1 x2 x3 x4 V = some r → Fr w_M_goAllot V r := by
  intro n
  induction n with
  | zero =>
    intro x1 x2 x3 x4 V r h
    cases h
  | succ n ih =>
    intro x1 x2 x3 x4 V r h
    rw [d_M_goAllot_58] at h
    rcases ai_if h with ⟨-, h⟩ | ⟨-, h⟩
    · obtain rfl := Option.some.inj h
      exact Fr.rf
    · obtain ⟨q1, hq1, h⟩ := ai_bd h
      rcases ai_if h with ⟨-, h⟩ | ⟨-, h⟩
      · rcases ai_if h with ⟨-, h⟩ | ⟨-, h⟩
        · rcases ai_if h with ⟨-, h⟩ | ⟨-, h⟩
          · obtain ⟨q2, hq2, h⟩ := ai_bd h
            have gq2 : Fr w_M_goAllot V q2 := (Fr.tr (Fr.sa Fr.rf rfl) (hT _ _ _ _ _ hq2) rfl)
            exact Fr.tr gq2 (fr_M_goAllot_113 hT ih _ _ _ _ _ _ h) rfl
          · cases h
        · cases h
      · exact Fr.tr Fr.rf (fr_M_goAllot_113 hT ih _ _ _ _ _ _ h) rfl
theorem fr_M_goAllot_B {T : Int32 → Int32 → Int32 → ai_V → Option ai_V} (hT : ∀ y0 y1 y2 V r, T y0 y1 y2 V = some r → Fr w_M_goAllot V r) : ∀ (x1 : Int32) (x2 : Int32) (x3 : Int32) (V : ai_V) (r : ai_V), d_M_goAllot_B T x1 x2 x3 V = some r → Fr w_M_goAllot V r := by
  intro x1 x2 x3 V r h
  rw [d_M_goAllot_B] at h
  rcases ai_if h with ⟨-, h⟩ | ⟨-, h⟩
  · exact Fr.tr Fr.rf (fr_M_goAllot_58 hT _ _ _ _ _ _ _ h) rfl
  · rcases ai_if h with ⟨-, h⟩ | ⟨-, h⟩
    · exact Fr.tr (Fr.si Fr.rf rfl) (fr_M_goAllot_25 hT _ _ _ _ h) rfl
    · obtain rfl := Option.some.inj h
      exact Fr.rf
theorem fr_M_goAllot_R : ∀ (n : Nat) (x1 : Int32) (x2 : Int32) (x3 : Int32) (V : ai_V) (r : ai_V), d_M_goAllot_R n x1 x2 x3 V = some r → Fr w_M_goAllot V r := by
  intro n
  induction n with
  | zero =>
    intro x1 x2 x3 V r h
    cases h
  | succ n ih =>
    intro x1 x2 x3 V r h
    rw [d_M_goAllot_R] at h
    exact Fr.tr Fr.rf (fr_M_goAllot_B ih _ _ _ _ _ h) rfl
theorem fr_M_goAllot : ∀ (x0 : Int32) (x1 : Int32) (x2 : Int32) (V : ai_V) (r : ai_V), d_M_goAllot x0 x1 x2 V = some r → Fr w_M_goAllot V r := by
  intro x0 x1 x2 V r h
  rw [d_M_goAllot] at h
  exact Fr.tr Fr.rf (fr_M_goAllot_R _ _ _ _ _ _ h) rfl
def w_M_allot : Fw := ([(89, 13), (89, 14), (89, 49)], [97, 109, 110])
theorem fr_M_allot_34 : ∀ (n : Nat) (x1 : Int32) (V : ai_V) (r : (Int32 × ai_V)), d_M_allot_34 n x1 V = some r → Fr w_M_allot V r.2 := by
  intro n
  induction n with
  | zero =>
    intro x1 V r h
    cases h
  | succ n ih =>
    intro x1 V r h
    rw [d_M_allot_34] at h
    rcases ai_if h with ⟨-, h⟩ | ⟨-, h⟩
    · obtain rfl := Option.some.inj h
      exact Fr.rf
    · rcases ai_if h with ⟨-, h⟩ | ⟨-, h⟩
      · obtain ⟨q1, hq1, h⟩ := ai_bd h
        have gq1 : Fr w_M_allot V q1 := (Fr.tr Fr.rf (fr_M_tell _ _ _ hq1) rfl)
        exact Fr.tr gq1 (ih _ _ _ h) rfl
      · cases h
theorem fr_M_allot : ∀ (V : ai_V) (r : (Int32 × ai_V)), d_M_allot V = some r → Fr w_M_allot V r.2 := by
  intro V r h
  rw [d_M_allot] at h
  rcases ai_if h with ⟨-, h⟩ | ⟨-, h⟩
  · obtain ⟨q2, hq2, h⟩ := ai_bd h
    have gq2 : Fr w_M_allot V q2 := (Fr.tr (Fr.si (Fr.si Fr.rf rfl) rfl) (fr_M_goAllot _ _ _ _ _ hq2) rfl)
    exact Fr.tr (Fr.si gq2 rfl) (fr_M_allot_34 _ _ _ _ h) rfl
  · obtain rfl := Option.some.inj h
    exact (Fr.si Fr.rf rfl)
def w_M_goRents : Fw := ([(89, 52)], [111, 112])
theorem fr_M_goRents_55 {T : Int32 → Int32 → ai_V → Option ai_V} (hT : ∀ y0 y1 V r, T y0 y1 V = some r → Fr w_M_goRents V r) : ∀ (V : ai_V) (r : ai_V), d_M_goRents_55 T V = some r → Fr w_M_goRents V r := by
  intro V r h
  rw [d_M_goRents_55] at h
  obtain rfl := Option.some.inj h
  exact (Fr.si Fr.rf rfl)
theorem fr_M_goRents_29 {T : Int32 → Int32 → ai_V → Option ai_V} (hT : ∀ y0 y1 V r, T y0 y1 V = some r → Fr w_M_goRents V r) : ∀ (n : Nat) (x3 : Int32) (V : ai_V) (r : ai_V), d_M_goRents_29 T n x3 V = some r → Fr w_M_goRents V r := by
  intro n
  induction n with
  | zero =>
    intro x3 V r h
    cases h
  | succ n ih =>
    intro x3 V r h
    rw [d_M_goRents_29] at h
    rcases ai_if h with ⟨-, h⟩ | ⟨-, h⟩
    · exact Fr.tr Fr.rf (fr_M_goRents_55 hT _ _ h) rfl
    · rcases ai_if h with ⟨-, h⟩ | ⟨-, h⟩
      · rcases ai_if h with ⟨-, h⟩ | ⟨-, h⟩
        · exact Fr.tr (Fr.sa Fr.rf rfl) (ih _ _ _ h) rfl
        · cases h
      · cases h
theorem fr_M_goRents_68 {T : Int32 → Int32 → ai_V → Option ai_V} (hT : ∀ y0 y1 V r, T y0 y1 V = some r → Fr w_M_goRents V r) : ∀ (n : Nat) (x1 : Int32) (x2 : Int32) (x3 : Int32) (V : ai_V) (r : ai_V), d_M_goRents_68 T n x1 x2 x3 V = some r → Fr w_M_goRents V r := by
  intro n
  induction n with
  | zero =>
    intro x1 x2 x3 V r h
    cases h
  | succ n ih =>
    intro x1 x2 x3 V r h
    rw [d_M_goRents_68] at h
    rcases ai_if h with ⟨-, h⟩ | ⟨-, h⟩
    · obtain rfl := Option.some.inj h
      exact Fr.rf
    · rcases ai_if h with ⟨-, h⟩ | ⟨-, h⟩
      · obtain rfl := Option.some.inj h
        exact Fr.rf
      · rcases ai_if h with ⟨-, h⟩ | ⟨-, h⟩
        · obtain ⟨q1, hq1, h⟩ := ai_bd h
          have gq1 : Fr w_M_goRents V q1 := (Fr.tr (Fr.sa Fr.rf rfl) (hT _ _ _ _ hq1) rfl)
          exact Fr.tr gq1 (ih _ _ _ _ _ h) rfl
        · cases h
theorem fr_M_goRents_B {T : Int32 → Int32 → ai_V → Option ai_V} (hT : ∀ y0 y1 V r, T y0 y1 V = some r → Fr w_M_goRents V r) : ∀ (x1 : Int32) (x2 : Int32) (V : ai_V) (r : ai_V), d_M_goRents_B T x1 x2 V = some r → Fr w_M_goRents V r := by
  intro x1 x2 V r h
  rw [d_M_goRents_B] at h
  rcases ai_if h with ⟨-, h⟩ | ⟨-, h⟩
  · exact Fr.tr Fr.rf (fr_M_goRents_68 hT _ _ _ _ _ _ h) rfl
  · rcases ai_if h with ⟨-, h⟩ | ⟨-, h⟩
    · obtain rfl := Option.some.inj h
      exact Fr.rf
    · obtain ⟨q2, hq2, h⟩ := ai_bd h
      rcases ai_if h with ⟨-, h⟩ | ⟨-, h⟩
      · rcases ai_if h with ⟨-, h⟩ | ⟨-, h⟩
        · exact Fr.tr Fr.rf (fr_M_goRents_55 hT _ _ h) rfl
        · exact Fr.tr Fr.rf (fr_M_goRents_29 hT _ _ _ _ h) rfl
      · obtain rfl := Option.some.inj h
        exact Fr.rf
theorem fr_M_goRents_R : ∀ (n : Nat) (x1 : Int32) (x2 : Int32) (V : ai_V) (r : ai_V), d_M_goRents_R n x1 x2 V = some r → Fr w_M_goRents V r := by
  intro n
  induction n with
  | zero =>
    intro x1 x2 V r h
    cases h
  | succ n ih =>
    intro x1 x2 V r h
    rw [d_M_goRents_R] at h
    exact Fr.tr Fr.rf (fr_M_goRents_B ih _ _ _ _ h) rfl
theorem fr_M_goRents : ∀ (x0 : Int32) (x1 : Int32) (V : ai_V) (r : ai_V), d_M_goRents x0 x1 V = some r → Fr w_M_goRents V r := by
  intro x0 x1 V r h
  rw [d_M_goRents] at h
  exact Fr.tr Fr.rf (fr_M_goRents_R _ _ _ _ _ h) rfl
def w_M_rents : Fw := ([(89, 13), (89, 14), (89, 49), (89, 52)], [97, 109, 110, 111, 112])
theorem fr_M_rents_89 : ∀ (V : ai_V) (r : (Int32 × ai_V)), d_M_rents_89 V = some r → Fr w_M_rents V r.2 := by
  intro V r h
  rw [d_M_rents_89] at h
  obtain rfl := Option.some.inj h
  exact Fr.rf
theorem fr_M_rents_57 : ∀ (n : Nat) (x2 : Int32) (V : ai_V) (r : (Int32 × ai_V)), d_M_rents_57 n x2 V = some r → Fr w_M_rents V r.2 := by
  intro n
  induction n with
  | zero =>
    intro x2 V r h
    cases h
  | succ n ih =>
    intro x2 V r h
    rw [d_M_rents_57] at h
    rcases ai_if h with ⟨-, h⟩ | ⟨-, h⟩
    · exact Fr.tr Fr.rf (fr_M_rents_89 _ _ h) rfl
    · rcases ai_if h with ⟨-, h⟩ | ⟨-, h⟩
      · exact Fr.tr Fr.rf (fr_M_rents_89 _ _ h) rfl
      · rcases ai_if h with ⟨-, h⟩ | ⟨-, h⟩
        · obtain ⟨q1, hq1, h⟩ := ai_bd h
          have gq1 : Fr w_M_rents V q1 := (Fr.tr Fr.rf (fr_M_tell _ _ _ hq1) rfl)
          exact Fr.tr gq1 (ih _ _ _ h) rfl
        · cases h
theorem fr_M_rents : ∀ (x1 : Int32) (V : ai_V) (r : (Int32 × ai_V)), d_M_rents x1 V = some r → Fr w_M_rents V r.2 := by
  intro x1 V r h
  rw [d_M_rents] at h
  obtain ⟨q2, hq2, h⟩ := ai_bd h
  rcases ai_if h with ⟨-, h⟩ | ⟨-, h⟩
  · rcases ai_if h with ⟨-, h⟩ | ⟨-, h⟩
    · obtain ⟨q3, hq3, h⟩ := ai_bd h
      have gq3 : Fr w_M_rents V q3 := (Fr.tr (Fr.si (Fr.si Fr.rf rfl) rfl) (fr_M_goAllot _ _ _ _ _ hq3) rfl)
      obtain ⟨q4, hq4, h⟩ := ai_bd h
      have gq4 : Fr w_M_rents V q4 := (Fr.tr (Fr.si gq3 rfl) (fr_M_goRents _ _ _ _ hq4) rfl)
      exact Fr.tr (Fr.si gq4 rfl) (fr_M_rents_57 _ _ _ _ h) rfl
    · obtain rfl := Option.some.inj h
      exact (Fr.si Fr.rf rfl)
  · obtain rfl := Option.some.inj h
    exact (Fr.si Fr.rf rfl)
def w_M_rests : Fw := ([(89, 13), (89, 14), (89, 15), (89, 16), (89, 17), (89, 18), (89, 19), (89, 23), (89, 24), (89, 25), (89, 26), (89, 27), (89, 28)], [97, 113])
theorem fr_M_rests_223 {F158 : Int32 → Int32 → ai_V → Option (Int32 × ai_V)} (hF158 : ∀ y0 y1 V r, F158 y0 y1 V = some r → Fr w_M_rests V r.2) : ∀ (x4 : Int32) (x5 : Int32) (V : ai_V) (r : (Int32 × ai_V)), d_M_rests_223 F158 x4 x5 V = some r → Fr w_M_rests V r.2 := by
  intro x4 x5 V r h
  rw [d_M_rests_223] at h
  exact Fr.tr Fr.rf (hF158 _ _ _ _ h) rfl
theorem fr_M_rests_158 : ∀ (n : Nat) (x4 : Int32) (x5 : Int32) (V : ai_V) (r : (Int32 × ai_V)), d_M_rests_158 n x4 x5 V = some r → Fr w_M_rests V r.2 := by
  intro n
  induction n with
  | zero =>
    intro x4 x5 V r h
    cases h
  | succ n ih =>
    intro x4 x5 V r h
    rw [d_M_rests_158] at h
    rcases ai_if h with ⟨-, h⟩ | ⟨-, h⟩
    · rcases ai_if h with ⟨-, h⟩ | ⟨-, h⟩
      · obtain rfl := Option.some.inj h
        exact (Fr.si Fr.rf rfl)
      · obtain ⟨q1, hq1, h⟩ := ai_bd h
        rcases ai_if h with ⟨-, h⟩ | ⟨-, h⟩
        · obtain ⟨q2, hq2, h⟩ := ai_bd h
          have gq2 : Fr w_M_rests V q2 := (Fr.tr (Fr.si Fr.rf rfl) (fr_M_tell _ _ _ hq2) rfl)
          rcases ai_if h with ⟨-, h⟩ | ⟨-, h⟩
          · obtain ⟨q3, hq3, h⟩ := ai_bd h
            have gq3 : Fr w_M_rests V q3 := (Fr.tr gq2 (fr_M_tell _ _ _ hq3) rfl)
            obtain rfl := Option.some.inj h
            exact gq3
          · cases h
        · cases h
    · rcases ai_if h with ⟨-, h⟩ | ⟨-, h⟩
      · rcases ai_if h with ⟨-, h⟩ | ⟨-, h⟩
        · rcases ai_if h with ⟨-, h⟩ | ⟨-, h⟩
          · exact Fr.tr Fr.rf (fr_M_rests_223 ih _ _ _ _ h) rfl
          · rcases ai_if h with ⟨-, h⟩ | ⟨-, h⟩
            · rcases ai_if h with ⟨-, h⟩ | ⟨-, h⟩
              · rcases ai_if h with ⟨-, h⟩ | ⟨-, h⟩
                · exact Fr.tr Fr.rf (fr_M_rests_223 ih _ _ _ _ h) rfl
                · exact Fr.tr Fr.rf (fr_M_rests_223 ih _ _ _ _ h) rfl
              · cases h
            · cases h
        · cases h
      · cases h
theorem fr_M_rests_144 {F29 : Int32 → Int32 → Int32 → Int32 → ai_V → Option (Int32 × ai_V)} (hF29 : ∀ y0 y1 y2 y3 V r, F29 y0 y1 y2 y3 V = some r → Fr w_M_rests V r.2) : ∀ (x1 : Int32) (x2 : Int32) (x3 : Int32) (x4 : Int32) (s0 : Int32) (s1 : Int32) (s2 : Int32) (V : ai_V) (r : (Int32 × ai_V)), d_M_rests_144 F29 x1 x2 x3 x4 s0 s1 s2 V = some r → Fr w_M_rests V r.2 := by
  intro x1 x2 x3 x4 s0 s1 s2 V r h
  rw [d_M_rests_144] at h
  rcases ai_if h with ⟨-, h⟩ | ⟨-, h⟩
  · exact Fr.tr (Fr.sa Fr.rf rfl) (hF29 _ _ _ _ _ _ h) rfl
  · cases h
theorem fr_M_rests_111 {F29 : Int32 → Int32 → Int32 → Int32 → ai_V → Option (Int32 × ai_V)} (hF29 : ∀ y0 y1 y2 y3 V r, F29 y0 y1 y2 y3 V = some r → Fr w_M_rests V r.2) : ∀ (x1 : Int32) (x2 : Int32) (x3 : Int32) (x4 : Int32) (x5 : Int32) (x6 : Int32) (s0 : Int32) (s1 : Int32) (s2 : Int32) (V : ai_V) (r : (Int32 × ai_V)), d_M_rests_111 F29 x1 x2 x3 x4 x5 x6 s0 s1 s2 V = some r → Fr w_M_rests V r.2 := by
  intro x1 x2 x3 x4 x5 x6 s0 s1 s2 V r h
  rw [d_M_rests_111] at h
  rcases ai_if h with ⟨-, h⟩ | ⟨-, h⟩
  · obtain ⟨q4, hq4, h⟩ := ai_bd h
    rcases ai_if h with ⟨-, h⟩ | ⟨-, h⟩
    · exact Fr.tr (Fr.sa Fr.rf rfl) (fr_M_rests_144 hF29 _ _ _ _ _ _ _ _ _ h) rfl
    · obtain ⟨q5, hq5, h⟩ := ai_bd h
      exact Fr.tr (Fr.sa Fr.rf rfl) (fr_M_rests_144 hF29 _ _ _ _ _ _ _ _ _ h) rfl
  · cases h
theorem fr_M_rests_67 {F29 : Int32 → Int32 → Int32 → Int32 → ai_V → Option (Int32 × ai_V)} (hF29 : ∀ y0 y1 y2 y3 V r, F29 y0 y1 y2 y3 V = some r → Fr w_M_rests V r.2) : ∀ (x1 : Int32) (x2 : Int32) (x3 : Int32) (x4 : Int32) (s0 : Int32) (s1 : Int32) (V : ai_V) (r : (Int32 × ai_V)), d_M_rests_67 F29 x1 x2 x3 x4 s0 s1 V = some r → Fr w_M_rests V r.2 := by
  intro x1 x2 x3 x4 s0 s1 V r h
  rw [d_M_rests_67] at h
  obtain ⟨q6, hq6, h⟩ := ai_bd h
  have gq6 : Fr w_M_rests V q6.2 := (Fr.tr Fr.rf (fr_M_liftNow _ _ _ hq6) rfl)
  obtain ⟨q7, hq7, h⟩ := ai_bd h
  rcases ai_if h with ⟨-, h⟩ | ⟨-, h⟩
  · exact Fr.tr gq6 (fr_M_rests_111 hF29 _ _ _ _ _ _ _ _ _ _ _ h) rfl
  · obtain ⟨q8, hq8, h⟩ := ai_bd h
    exact Fr.tr gq6 (fr_M_rests_111 hF29 _ _ _ _ _ _ _ _ _ _ _ h) rfl
theorem fr_M_rests_51 {F29 : Int32 → Int32 → Int32 → Int32 → ai_V → Option (Int32 × ai_V)} (hF29 : ∀ y0 y1 y2 y3 V r, F29 y0 y1 y2 y3 V = some r → Fr w_M_rests V r.2) : ∀ (x1 : Int32) (x2 : Int32) (x3 : Int32) (x4 : Int32) (s0 : Int32) (V : ai_V) (r : (Int32 × ai_V)), d_M_rests_51 F29 x1 x2 x3 x4 s0 V = some r → Fr w_M_rests V r.2 := by
  intro x1 x2 x3 x4 s0 V r h
  rw [d_M_rests_51] at h
  obtain ⟨q9, hq9, h⟩ := ai_bd h
  rcases ai_if h with ⟨-, h⟩ | ⟨-, h⟩
  · exact Fr.tr Fr.rf (fr_M_rests_67 hF29 _ _ _ _ _ _ _ _ h) rfl
  · exact Fr.tr Fr.rf (fr_M_rests_67 hF29 _ _ _ _ _ _ _ _ h) rfl
theorem fr_M_rests_29 : ∀ (n : Nat) (x1 : Int32) (x2 : Int32) (x3 : Int32) (x4 : Int32) (V : ai_V) (r : (Int32 × ai_V)), d_M_rests_29 n x1 x2 x3 x4 V = some r → Fr w_M_rests V r.2 := by
  intro n
  induction n with
  | zero =>
    intro x1 x2 x3 x4 V r h
    cases h
  | succ n ih =>
    intro x1 x2 x3 x4 V r h
    rw [d_M_rests_29] at h
    rcases ai_if h with ⟨-, h⟩ | ⟨-, h⟩
    · exact Fr.tr Fr.rf (fr_M_rests_158 _ _ _ _ _ h) rfl
    · obtain ⟨q10, hq10, h⟩ := ai_bd h
      rcases ai_if h with ⟨-, h⟩ | ⟨-, h⟩
      · exact Fr.tr Fr.rf (fr_M_rests_51 ih _ _ _ _ _ _ _ h) rfl
      · exact Fr.tr Fr.rf (fr_M_rests_51 ih _ _ _ _ _ _ _ h) rfl
theorem fr_M_rests : ∀ (x1 : Int32) (x2 : Int32) (x3 : Int32) (V : ai_V) (r : (Int32 × ai_V)), d_M_rests x1 x2 x3 V = some r → Fr w_M_rests V r.2 := by
  intro x1 x2 x3 V r h
  rw [d_M_rests] at h
  obtain ⟨q11, hq11, h⟩ := ai_bd h
  rcases ai_if h with ⟨-, h⟩ | ⟨-, h⟩
  · obtain rfl := Option.some.inj h
    exact (Fr.si Fr.rf rfl)
  · obtain ⟨q12, hq12, h⟩ := ai_bd h
    rcases ai_if h with ⟨-, h⟩ | ⟨-, h⟩
    · exact Fr.tr (Fr.si Fr.rf rfl) (fr_M_rests_29 _ _ _ _ _ _ _ h) rfl
    · obtain rfl := Option.some.inj h
      exact (Fr.si Fr.rf rfl)
def w_M_peg : Fw := ([(89, 14), (89, 55)], [114])
theorem fr_M_peg : ∀ (x1 : Int32) (x2 : Int32) (V : ai_V) (r : (Int32 × ai_V)), d_M_peg x1 x2 V = some r → Fr w_M_peg V r.2 := by
  intro x1 x2 V r h
  rw [d_M_peg] at h
  obtain ⟨q1, hq1, h⟩ := ai_bd h
  rcases ai_if h with ⟨-, h⟩ | ⟨-, h⟩
  · obtain rfl := Option.some.inj h
    exact (Fr.si Fr.rf rfl)
  · obtain ⟨q2, hq2, h⟩ := ai_bd h
    rcases ai_if h with ⟨-, h⟩ | ⟨-, h⟩
    · rcases ai_if h with ⟨-, h⟩ | ⟨-, h⟩
      · rcases ai_if h with ⟨-, h⟩ | ⟨-, h⟩
        · rcases ai_if h with ⟨-, h⟩ | ⟨-, h⟩
          · obtain rfl := Option.some.inj h
            exact (Fr.si (Fr.sa (Fr.sa (Fr.si Fr.rf rfl) rfl) rfl) rfl)
          · cases h
        · cases h
      · obtain rfl := Option.some.inj h
        exact (Fr.si Fr.rf rfl)
    · obtain rfl := Option.some.inj h
      exact (Fr.si Fr.rf rfl)
def w_M_forget : Fw := ([(89, 14), (89, 55)], [])
theorem fr_M_forget : ∀ (V : ai_V) (r : (Int32 × ai_V)), d_M_forget V = some r → Fr w_M_forget V r.2 := by
  intro V r h
  rw [d_M_forget] at h
  obtain rfl := Option.some.inj h
  exact (Fr.si (Fr.si Fr.rf rfl) rfl)
def w_M_trod : Fw := ([(89, 13), (89, 14)], [97])
theorem fr_M_trod_151 : ∀ (x1 : Int64) (s0 : Int64) (V : ai_V) (r : (Int32 × ai_V)), d_M_trod_151 x1 s0 V = some r → Fr w_M_trod V r.2 := by
  intro x1 s0 V r h
  rw [d_M_trod_151] at h
  obtain ⟨q1, hq1, h⟩ := ai_bd h
  have gq1 : Fr w_M_trod V q1 := (Fr.tr Fr.rf (fr_M_tell _ _ _ hq1) rfl)
  obtain rfl := Option.some.inj h
  exact gq1
theorem fr_M_trod_134 : ∀ (x1 : Int64) (x4 : Int32) (s0 : Int64) (V : ai_V) (r : (Int32 × ai_V)), d_M_trod_134 x1 x4 s0 V = some r → Fr w_M_trod V r.2 := by
  intro x1 x4 s0 V r h
  rw [d_M_trod_134] at h
  obtain ⟨q2, hq2, h⟩ := ai_bd h
  have gq2 : Fr w_M_trod V q2 := (Fr.tr Fr.rf (fr_M_tell _ _ _ hq2) rfl)
  rcases ai_if h with ⟨-, h⟩ | ⟨-, h⟩
  · exact Fr.tr gq2 (fr_M_trod_151 _ _ _ _ h) rfl
  · exact Fr.tr gq2 (fr_M_trod_151 _ _ _ _ h) rfl
theorem fr_M_trod_98 {F15 : Int64 → Int32 → Int32 → Int32 → ai_V → Option (Int32 × ai_V)} (hF15 : ∀ y0 y1 y2 y3 V r, F15 y0 y1 y2 y3 V = some r → Fr w_M_trod V r.2) : ∀ (x1 : Int64) (x3 : Int32) (x4 : Int32) (x5 : Int32) (x6 : Int32) (V : ai_V) (r : (Int32 × ai_V)), d_M_trod_98 F15 x1 x3 x4 x5 x6 V = some r → Fr w_M_trod V r.2 := by
  intro x1 x3 x4 x5 x6 V r h
  rw [d_M_trod_98] at h
  exact Fr.tr Fr.rf (hF15 _ _ _ _ _ _ h) rfl
theorem fr_M_trod_80 {F15 : Int64 → Int32 → Int32 → Int32 → ai_V → Option (Int32 × ai_V)} {F40 : Int64 → Int32 → Int32 → Int32 → Int32 → Int32 → Int32 → ai_V → Option (Int32 × ai_V)} (hF15 : ∀ y0 y1 y2 y3 V r, F15 y0 y1 y2 y3 V = some r → Fr w_M_trod V r.2) (hF40 : ∀ y0 y1 y2 y3 y4 y5 y6 V r, F40 y0 y1 y2 y3 y4 y5 y6 V = some r → Fr w_M_trod V r.2) : ∀ (x1 : Int64) (x3 : Int32) (x4 : Int32) (x5 : Int32) (x6 : Int32) (x7 : Int32) (x8 : Int32) (V : ai_V) (r : (Int32 × ai_V)), d_M_trod_80 F15 F40 x1 x3 x4 x5 x6 x7 x8 V = some r → Fr w_M_trod V r.2 := by
  intro x1 x3 x4 x5 x6 x7 x8 V r h
  rw [d_M_trod_80] at h
  exact Fr.tr Fr.rf (hF40 _ _ _ _ _ _ _ _ _ h) rfl
theorem fr_M_trod_40 {F15 : Int64 → Int32 → Int32 → Int32 → ai_V → Option (Int32 × ai_V)} (hF15 : ∀ y0 y1 y2 y3 V r, F15 y0 y1 y2 y3 V = some r → Fr w_M_trod V r.2) : ∀ (n : Nat) (x1 : Int64) (x3 : Int32) (x4 : Int32) (x5 : Int32) (x6 : Int32) (x7 : Int32) (x8 : Int32) (V : ai_V) (r : (Int32 × ai_V)), d_M_trod_40 F15 n x1 x3 x4 x5 x6 x7 x8 V = some r → Fr w_M_trod V r.2 := by
  intro n
  induction n with
  | zero =>
    intro x1 x3 x4 x5 x6 x7 x8 V r h
    cases h
  | succ n ih =>
    intro x1 x3 x4 x5 x6 x7 x8 V r h
    rw [d_M_trod_40] at h
    rcases ai_if h with ⟨-, h⟩ | ⟨-, h⟩
    · rcases ai_if h with ⟨-, h⟩ | ⟨-, h⟩
      · exact Fr.tr Fr.rf (fr_M_trod_98 hF15 _ _ _ _ _ _ _ h) rfl
      · exact Fr.tr Fr.rf (fr_M_trod_98 hF15 _ _ _ _ _ _ _ h) rfl
    · obtain ⟨q3, hq3, h⟩ := ai_bd h
      rcases ai_if h with ⟨-, h⟩ | ⟨-, h⟩
      · exact Fr.tr Fr.rf (fr_M_trod_80 hF15 ih _ _ _ _ _ _ _ _ _ h) rfl
      · exact Fr.tr Fr.rf (fr_M_trod_80 hF15 ih _ _ _ _ _ _ _ _ _ h) rfl
theorem fr_M_trod_15 : ∀ (n : Nat) (x1 : Int64) (x3 : Int32) (x4 : Int32) (x5 : Int32) (V : ai_V) (r : (Int32 × ai_V)), d_M_trod_15 n x1 x3 x4 x5 V = some r → Fr w_M_trod V r.2 := by
  intro n
  induction n with
  | zero =>
    intro x1 x3 x4 x5 V r h
    cases h
  | succ n ih =>
    intro x1 x3 x4 x5 V r h
    rw [d_M_trod_15] at h
    rcases ai_if h with ⟨-, h⟩ | ⟨-, h⟩
    · rcases ai_if h with ⟨-, h⟩ | ⟨-, h⟩
      · exact Fr.tr (Fr.si Fr.rf rfl) (fr_M_trod_134 _ _ _ _ _ h) rfl
      · exact Fr.tr (Fr.si Fr.rf rfl) (fr_M_trod_134 _ _ _ _ _ h) rfl
    · exact Fr.tr Fr.rf (fr_M_trod_40 ih _ _ _ _ _ _ _ _ _ _ h) rfl
theorem fr_M_trod : ∀ (V : ai_V) (r : (Int32 × ai_V)), d_M_trod V = some r → Fr w_M_trod V r.2 := by
  intro V r h
  rw [d_M_trod] at h
  exact Fr.tr (Fr.si Fr.rf rfl) (fr_M_trod_15 _ _ _ _ _ _ _ h) rfl
def w_M_ways : Fw := ([(89, 13), (89, 14)], [97])
theorem fr_M_ways_67 {F30 : Int32 → Int32 → Int32 → ai_V → Option (Int32 × ai_V)} (hF30 : ∀ y0 y1 y2 V r, F30 y0 y1 y2 V = some r → Fr w_M_ways V r.2) : ∀ (x1 : Int32) (x2 : Int32) (x3 : Int32) (V : ai_V) (r : (Int32 × ai_V)), d_M_ways_67 F30 x1 x2 x3 V = some r → Fr w_M_ways V r.2 := by
  intro x1 x2 x3 V r h
  rw [d_M_ways_67] at h
  exact Fr.tr Fr.rf (hF30 _ _ _ _ _ h) rfl
theorem fr_M_ways_64 {F30 : Int32 → Int32 → Int32 → ai_V → Option (Int32 × ai_V)} (hF30 : ∀ y0 y1 y2 V r, F30 y0 y1 y2 V = some r → Fr w_M_ways V r.2) : ∀ (x1 : Int32) (x2 : Int32) (x3 : Int32) (V : ai_V) (r : (Int32 × ai_V)), d_M_ways_64 F30 x1 x2 x3 V = some r → Fr w_M_ways V r.2 := by
  intro x1 x2 x3 V r h
  rw [d_M_ways_64] at h
  exact Fr.tr Fr.rf (fr_M_ways_67 hF30 _ _ _ _ _ h) rfl
theorem fr_M_ways_30 : ∀ (n : Nat) (x1 : Int32) (x2 : Int32) (x3 : Int32) (V : ai_V) (r : (Int32 × ai_V)), d_M_ways_30 n x1 x2 x3 V = some r → Fr w_M_ways V r.2 := by
  intro n
  induction n with
  | zero =>
    intro x1 x2 x3 V r h
    cases h
  | succ n ih =>
    intro x1 x2 x3 V r h
    rw [d_M_ways_30] at h
    rcases ai_if h with ⟨-, h⟩ | ⟨-, h⟩
    · obtain rfl := Option.some.inj h
      exact Fr.rf
    · obtain ⟨q1, hq1, h⟩ := ai_bd h
      rcases ai_if h with ⟨-, h⟩ | ⟨-, h⟩
      · rcases ai_if h with ⟨-, h⟩ | ⟨-, h⟩
        · exact Fr.tr Fr.rf (fr_M_ways_64 ih _ _ _ _ _ h) rfl
        · obtain ⟨q2, hq2, h⟩ := ai_bd h
          have gq2 : Fr w_M_ways V q2 := (Fr.tr Fr.rf (fr_M_tell _ _ _ hq2) rfl)
          exact Fr.tr gq2 (fr_M_ways_64 ih _ _ _ _ _ h) rfl
      · exact Fr.tr Fr.rf (fr_M_ways_67 ih _ _ _ _ _ h) rfl
theorem fr_M_ways : ∀ (x1 : Int32) (V : ai_V) (r : (Int32 × ai_V)), d_M_ways x1 V = some r → Fr w_M_ways V r.2 := by
  intro x1 V r h
  rw [d_M_ways] at h
  obtain ⟨q3, hq3, h⟩ := ai_bd h
  rcases ai_if h with ⟨-, h⟩ | ⟨-, h⟩
  · exact Fr.tr (Fr.si (Fr.si Fr.rf rfl) rfl) (fr_M_ways_30 _ _ _ _ _ _ h) rfl
  · obtain rfl := Option.some.inj h
    exact (Fr.si Fr.rf rfl)
def w_M_braked : Fw := ([(89, 13), (89, 14), (89, 15), (89, 16), (89, 17), (89, 18), (89, 19), (89, 23), (89, 24), (89, 25), (89, 26), (89, 27), (89, 28)], [97])
theorem fr_M_braked_187 : ∀ (x3 : Int32) (s0 : Int64) (V : ai_V) (r : (Int32 × ai_V)), d_M_braked_187 x3 s0 V = some r → Fr w_M_braked V r.2 := by
  intro x3 s0 V r h
  rw [d_M_braked_187] at h
  obtain ⟨q1, hq1, h⟩ := ai_bd h
  have gq1 : Fr w_M_braked V q1 := (Fr.tr Fr.rf (fr_M_tell _ _ _ hq1) rfl)
  obtain rfl := Option.some.inj h
  exact gq1
theorem fr_M_braked_157 {F49 : Int32 → Int32 → Int32 → Int32 → Int32 → Int32 → ai_V → Option (Int32 × ai_V)} (hF49 : ∀ y0 y1 y2 y3 y4 y5 V r, F49 y0 y1 y2 y3 y4 y5 V = some r → Fr w_M_braked V r.2) : ∀ (x1 : Int32) (x2 : Int32) (x3 : Int32) (x4 : Int32) (x5 : Int32) (x6 : Int32) (V : ai_V) (r : (Int32 × ai_V)), d_M_braked_157 F49 x1 x2 x3 x4 x5 x6 V = some r → Fr w_M_braked V r.2 := by
  intro x1 x2 x3 x4 x5 x6 V r h
  rw [d_M_braked_157] at h
  exact Fr.tr Fr.rf (hF49 _ _ _ _ _ _ _ _ h) rfl
theorem fr_M_braked_147 {F49 : Int32 → Int32 → Int32 → Int32 → Int32 → Int32 → ai_V → Option (Int32 × ai_V)} (hF49 : ∀ y0 y1 y2 y3 y4 y5 V r, F49 y0 y1 y2 y3 y4 y5 V = some r → Fr w_M_braked V r.2) : ∀ (x1 : Int32) (x2 : Int32) (x3 : Int32) (x4 : Int32) (x5 : Int32) (x6 : Int32) (V : ai_V) (r : (Int32 × ai_V)), d_M_braked_147 F49 x1 x2 x3 x4 x5 x6 V = some r → Fr w_M_braked V r.2 := by
  intro x1 x2 x3 x4 x5 x6 V r h
  rw [d_M_braked_147] at h
  exact Fr.tr Fr.rf (fr_M_braked_157 hF49 _ _ _ _ _ _ _ _ h) rfl
theorem fr_M_braked_114 {F49 : Int32 → Int32 → Int32 → Int32 → Int32 → Int32 → ai_V → Option (Int32 × ai_V)} {F73 : Int32 → Int32 → Int32 → Int32 → Int32 → Int32 → Int32 → Int32 → ai_V → Option (Int32 × ai_V)} (hF49 : ∀ y0 y1 y2 y3 y4 y5 V r, F49 y0 y1 y2 y3 y4 y5 V = some r → Fr w_M_braked V r.2) (hF73 : ∀ y0 y1 y2 y3 y4 y5 y6 y7 V r, F73 y0 y1 y2 y3 y4 y5 y6 y7 V = some r → Fr w_M_braked V r.2) : ∀ (x1 : Int32) (x2 : Int32) (x3 : Int32) (x4 : Int32) (x5 : Int32) (x6 : Int32) (x8 : Int32) (s0 : Int32) (s1 : Int32) (V : ai_V) (r : (Int32 × ai_V)), d_M_braked_114 F49 F73 x1 x2 x3 x4 x5 x6 x8 s0 s1 V = some r → Fr w_M_braked V r.2 := by
  intro x1 x2 x3 x4 x5 x6 x8 s0 s1 V r h
  rw [d_M_braked_114] at h
  exact Fr.tr Fr.rf (hF73 _ _ _ _ _ _ _ _ _ _ h) rfl
theorem fr_M_braked_73 {F49 : Int32 → Int32 → Int32 → Int32 → Int32 → Int32 → ai_V → Option (Int32 × ai_V)} (hF49 : ∀ y0 y1 y2 y3 y4 y5 V r, F49 y0 y1 y2 y3 y4 y5 V = some r → Fr w_M_braked V r.2) : ∀ (n : Nat) (x1 : Int32) (x2 : Int32) (x3 : Int32) (x4 : Int32) (x5 : Int32) (x6 : Int32) (x7 : Int32) (x8 : Int32) (V : ai_V) (r : (Int32 × ai_V)), d_M_braked_73 F49 n x1 x2 x3 x4 x5 x6 x7 x8 V = some r → Fr w_M_braked V r.2 := by
  intro n
  induction n with
  | zero =>
    intro x1 x2 x3 x4 x5 x6 x7 x8 V r h
    cases h
  | succ n ih =>
    intro x1 x2 x3 x4 x5 x6 x7 x8 V r h
    rw [d_M_braked_73] at h
    rcases ai_if h with ⟨-, h⟩ | ⟨-, h⟩
    · rcases ai_if h with ⟨-, h⟩ | ⟨-, h⟩
      · rcases ai_if h with ⟨-, h⟩ | ⟨-, h⟩
        · exact Fr.tr Fr.rf (fr_M_braked_147 hF49 _ _ _ _ _ _ _ _ h) rfl
        · exact Fr.tr Fr.rf (fr_M_braked_147 hF49 _ _ _ _ _ _ _ _ h) rfl
      · exact Fr.tr Fr.rf (fr_M_braked_157 hF49 _ _ _ _ _ _ _ _ h) rfl
    · obtain ⟨q2, hq2, h⟩ := ai_bd h
      rcases ai_if h with ⟨-, h⟩ | ⟨-, h⟩
      · exact Fr.tr Fr.rf (fr_M_braked_114 hF49 ih _ _ _ _ _ _ _ _ _ _ _ h) rfl
      · obtain ⟨q3, hq3, h⟩ := ai_bd h
        have gq3 : Fr w_M_braked V q3.2 := (Fr.tr Fr.rf (fr_M_liftOf _ _ _ _ _ _ _ hq3) rfl)
        exact Fr.tr gq3 (fr_M_braked_114 hF49 ih _ _ _ _ _ _ _ _ _ _ _ h) rfl
theorem fr_M_braked_49 : ∀ (n : Nat) (x1 : Int32) (x2 : Int32) (x3 : Int32) (x4 : Int32) (x5 : Int32) (x6 : Int32) (V : ai_V) (r : (Int32 × ai_V)), d_M_braked_49 n x1 x2 x3 x4 x5 x6 V = some r → Fr w_M_braked V r.2 := by
  intro n
  induction n with
  | zero =>
    intro x1 x2 x3 x4 x5 x6 V r h
    cases h
  | succ n ih =>
    intro x1 x2 x3 x4 x5 x6 V r h
    rw [d_M_braked_49] at h
    rcases ai_if h with ⟨-, h⟩ | ⟨-, h⟩
    · obtain ⟨q4, hq4, h⟩ := ai_bd h
      have gq4 : Fr w_M_braked V q4 := (Fr.tr (Fr.si Fr.rf rfl) (fr_M_tell _ _ _ hq4) rfl)
      rcases ai_if h with ⟨-, h⟩ | ⟨-, h⟩
      · exact Fr.tr gq4 (fr_M_braked_187 _ _ _ _ h) rfl
      · exact Fr.tr gq4 (fr_M_braked_187 _ _ _ _ h) rfl
    · rcases ai_if h with ⟨-, h⟩ | ⟨-, h⟩
      · exact Fr.tr Fr.rf (fr_M_braked_73 ih _ _ _ _ _ _ _ _ _ _ _ h) rfl
      · exact Fr.tr Fr.rf (fr_M_braked_157 ih _ _ _ _ _ _ _ _ h) rfl
theorem fr_M_braked : ∀ (x1 : Int32) (x2 : Int32) (V : ai_V) (r : (Int32 × ai_V)), d_M_braked x1 x2 V = some r → Fr w_M_braked V r.2 := by
  intro x1 x2 V r h
  rw [d_M_braked] at h
  obtain ⟨q5, hq5, h⟩ := ai_bd h
  rcases ai_if h with ⟨-, h⟩ | ⟨-, h⟩
  · obtain rfl := Option.some.inj h
    exact (Fr.si Fr.rf rfl)
  · obtain ⟨q6, hq6, h⟩ := ai_bd h
    obtain ⟨q7, hq7, h⟩ := ai_bd h
    rcases ai_if h with ⟨-, h⟩ | ⟨-, h⟩
    · obtain rfl := Option.some.inj h
      exact (Fr.si Fr.rf rfl)
    · obtain ⟨q8, hq8, h⟩ := ai_bd h
      rcases ai_if h with ⟨-, h⟩ | ⟨-, h⟩
      · exact Fr.tr (Fr.si Fr.rf rfl) (fr_M_braked_49 _ _ _ _ _ _ _ _ _ h) rfl
      · obtain rfl := Option.some.inj h
        exact (Fr.si Fr.rf rfl)
def w_M_findOwed : Fw := ([(89, 56), (89, 57)], [])
theorem fr_M_findOwed_46 {F12 : Int32 → Int32 → Int32 → Int64 → Int64 → Int64 → Int32 → ai_V → Option ai_V} (hF12 : ∀ y0 y1 y2 y3 y4 y5 y6 V r, F12 y0 y1 y2 y3 y4 y5 y6 V = some r → Fr w_M_findOwed V r) : ∀ (x1 : Int32) (x2 : Int32) (x3 : Int32) (x4 : Int64) (x6 : Int64) (x8 : Int64) (x10 : Int32) (V : ai_V) (r : ai_V), d_M_findOwed_46 F12 x1 x2 x3 x4 x6 x8 x10 V = some r → Fr w_M_findOwed V r := by
  intro x1 x2 x3 x4 x6 x8 x10 V r h
  rw [d_M_findOwed_46] at h
  exact Fr.tr Fr.rf (hF12 _ _ _ _ _ _ _ _ _ h) rfl
theorem fr_M_findOwed_12 : ∀ (n : Nat) (x1 : Int32) (x2 : Int32) (x3 : Int32) (x4 : Int64) (x6 : Int64) (x8 : Int64) (x10 : Int32) (V : ai_V) (r : ai_V), d_M_findOwed_12 n x1 x2 x3 x4 x6 x8 x10 V = some r → Fr w_M_findOwed V r := by
  intro n
  induction n with
  | zero =>
    intro x1 x2 x3 x4 x6 x8 x10 V r h
    cases h
  | succ n ih =>
    intro x1 x2 x3 x4 x6 x8 x10 V r h
    rw [d_M_findOwed_12] at h
    rcases ai_if h with ⟨-, h⟩ | ⟨-, h⟩
    · rcases ai_if h with ⟨-, h⟩ | ⟨-, h⟩
      · obtain ⟨q1, hq1, h⟩ := ai_bd h
        rcases ai_if h with ⟨-, h⟩ | ⟨-, h⟩
        · cases h
        · rcases ai_if h with ⟨-, h⟩ | ⟨-, h⟩
          · cases h
          · obtain rfl := Option.some.inj h
            exact (Fr.sj (Fr.sj Fr.rf rfl) rfl)
      · cases h
    · rcases ai_if h with ⟨-, h⟩ | ⟨-, h⟩
      · exact Fr.tr Fr.rf (fr_M_findOwed_46 ih _ _ _ _ _ _ _ _ _ h) rfl
      · exact Fr.tr Fr.rf (fr_M_findOwed_46 ih _ _ _ _ _ _ _ _ _ h) rfl
theorem fr_M_findOwed : ∀ (x1 : Int32) (x2 : Int32) (x3 : Int32) (V : ai_V) (r : ai_V), d_M_findOwed x1 x2 x3 V = some r → Fr w_M_findOwed V r := by
  intro x1 x2 x3 V r h
  rw [d_M_findOwed] at h
  exact Fr.tr Fr.rf (fr_M_findOwed_12 _ _ _ _ _ _ _ _ _ _ h) rfl
def w_M_owes : Fw := ([(89, 13), (89, 14), (89, 56), (89, 57)], [97])
theorem fr_M_owes : ∀ (x1 : Int32) (x2 : Int32) (x3 : Int32) (V : ai_V) (r : (Int32 × ai_V)), d_M_owes x1 x2 x3 V = some r → Fr w_M_owes V r.2 := by
  intro x1 x2 x3 V r h
  rw [d_M_owes] at h
  obtain ⟨q1, hq1, h⟩ := ai_bd h
  rcases ai_if h with ⟨-, h⟩ | ⟨-, h⟩
  · obtain ⟨q2, hq2, h⟩ := ai_bd h
    have gq2 : Fr w_M_owes V q2 := (Fr.tr (Fr.si Fr.rf rfl) (fr_M_findOwed _ _ _ _ _ hq2) rfl)
    obtain ⟨q3, hq3, h⟩ := ai_bd h
    have gq3 : Fr w_M_owes V q3 := (Fr.tr (Fr.si gq2 rfl) (fr_M_tell _ _ _ hq3) rfl)
    obtain ⟨q4, hq4, h⟩ := ai_bd h
    have gq4 : Fr w_M_owes V q4 := (Fr.tr gq3 (fr_M_tell _ _ _ hq4) rfl)
    obtain rfl := Option.some.inj h
    exact gq4
  · obtain rfl := Option.some.inj h
    exact (Fr.si Fr.rf rfl)
def w_M_fund : Fw := ([(89, 13), (89, 14), (89, 56), (89, 57)], [97])
theorem fr_M_fund : ∀ (x1 : Int32) (x2 : Int32) (x3 : Int32) (V : ai_V) (r : (Int32 × ai_V)), d_M_fund x1 x2 x3 V = some r → Fr w_M_fund V r.2 := by
  intro x1 x2 x3 V r h
  rw [d_M_fund] at h
  obtain ⟨q1, hq1, h⟩ := ai_bd h
  rcases ai_if h with ⟨-, h⟩ | ⟨-, h⟩
  · obtain ⟨q2, hq2, h⟩ := ai_bd h
    have gq2 : Fr w_M_fund V q2 := (Fr.tr (Fr.si Fr.rf rfl) (fr_M_findOwed _ _ _ _ _ hq2) rfl)
    rcases ai_if h with ⟨-, h⟩ | ⟨-, h⟩
    · cases h
    · rcases ai_if h with ⟨-, h⟩ | ⟨-, h⟩
      · rcases ai_if h with ⟨-, h⟩ | ⟨-, h⟩
        · rcases ai_if h with ⟨-, h⟩ | ⟨-, h⟩
          · rcases ai_if h with ⟨-, h⟩ | ⟨-, h⟩
            · cases h
            · obtain ⟨q3, hq3, h⟩ := ai_bd h
              have gq3 : Fr w_M_fund V q3 := (Fr.tr (Fr.si gq2 rfl) (fr_M_tell _ _ _ hq3) rfl)
              obtain rfl := Option.some.inj h
              exact gq3
          · cases h
        · cases h
      · cases h
  · obtain rfl := Option.some.inj h
    exact (Fr.si Fr.rf rfl)
def w_M_years : Fw := ([(89, 13), (89, 14), (89, 15), (89, 16), (89, 17), (89, 18), (89, 19), (89, 23), (89, 24), (89, 25), (89, 26), (89, 27), (89, 28), (89, 29), (89, 32), (89, 33)], [97, 103])
theorem fr_M_years_175 {F125 : Int32 → Int32 → Int32 → Int32 → ai_V → Option (Int32 × ai_V)} (hF125 : ∀ y0 y1 y2 y3 V r, F125 y0 y1 y2 y3 V = some r → Fr w_M_years V r.2) : ∀ (x4 : Int32) (x5 : Int32) (x6 : Int32) (x7 : Int32) (V : ai_V) (r : (Int32 × ai_V)), d_M_years_175 F125 x4 x5 x6 x7 V = some r → Fr w_M_years V r.2 := by
  intro x4 x5 x6 x7 V r h
  rw [d_M_years_175] at h
  exact Fr.tr Fr.rf (hF125 _ _ _ _ _ _ h) rfl
theorem fr_M_years_125 : ∀ (n : Nat) (x4 : Int32) (x5 : Int32) (x6 : Int32) (x7 : Int32) (V : ai_V) (r : (Int32 × ai_V)), d_M_years_125 n x4 x5 x6 x7 V = some r → Fr w_M_years V r.2 := by
  intro n
  induction n with
  | zero =>
    intro x4 x5 x6 x7 V r h
    cases h
  | succ n ih =>
    intro x4 x5 x6 x7 V r h
    rw [d_M_years_125] at h
    rcases ai_if h with ⟨-, h⟩ | ⟨-, h⟩
    · obtain ⟨q1, hq1, h⟩ := ai_bd h
      have gq1 : Fr w_M_years V q1 := (Fr.tr (Fr.si Fr.rf rfl) (fr_M_tell _ _ _ hq1) rfl)
      obtain ⟨q2, hq2, h⟩ := ai_bd h
      have gq2 : Fr w_M_years V q2 := (Fr.tr gq1 (fr_M_tell _ _ _ hq2) rfl)
      obtain ⟨q3, hq3, h⟩ := ai_bd h
      have gq3 : Fr w_M_years V q3 := (Fr.tr gq2 (fr_M_tell _ _ _ hq3) rfl)
      obtain rfl := Option.some.inj h
      exact gq3
    · rcases ai_if h with ⟨-, h⟩ | ⟨-, h⟩
      · rcases ai_if h with ⟨-, h⟩ | ⟨-, h⟩
        · rcases ai_if h with ⟨-, h⟩ | ⟨-, h⟩
          · exact Fr.tr Fr.rf (fr_M_years_175 ih _ _ _ _ _ _ h) rfl
          · exact Fr.tr Fr.rf (fr_M_years_175 ih _ _ _ _ _ _ h) rfl
        · cases h
      · cases h
theorem fr_M_years_91 {F37 : Int32 → Int32 → Int32 → Int32 → ai_V → Option (Int32 × ai_V)} (hF37 : ∀ y0 y1 y2 y3 V r, F37 y0 y1 y2 y3 V = some r → Fr w_M_years V r.2) : ∀ (x2 : Int32) (x3 : Int32) (x4 : Int32) (x5 : Int32) (s0 : Int32) (V : ai_V) (r : (Int32 × ai_V)), d_M_years_91 F37 x2 x3 x4 x5 s0 V = some r → Fr w_M_years V r.2 := by
  intro x2 x3 x4 x5 s0 V r h
  rw [d_M_years_91] at h
  obtain ⟨q4, hq4, h⟩ := ai_bd h
  have gq4 : Fr w_M_years V q4 := (Fr.tr Fr.rf (fr_M_goQuarter_89_103 _ _ _ _ hq4) rfl)
  obtain ⟨q5, hq5, h⟩ := ai_bd h
  exact Fr.tr gq4 (hF37 _ _ _ _ _ _ h) rfl
theorem fr_M_years_37 : ∀ (n : Nat) (x2 : Int32) (x3 : Int32) (x4 : Int32) (x5 : Int32) (V : ai_V) (r : (Int32 × ai_V)), d_M_years_37 n x2 x3 x4 x5 V = some r → Fr w_M_years V r.2 := by
  intro n
  induction n with
  | zero =>
    intro x2 x3 x4 x5 V r h
    cases h
  | succ n ih =>
    intro x2 x3 x4 x5 V r h
    rw [d_M_years_37] at h
    rcases ai_if h with ⟨-, h⟩ | ⟨-, h⟩
    · exact Fr.tr Fr.rf (fr_M_years_125 _ _ _ _ _ _ _ h) rfl
    · rcases ai_if h with ⟨-, h⟩ | ⟨-, h⟩
      · cases h
      · rcases ai_if h with ⟨-, h⟩ | ⟨-, h⟩
        · exact Fr.tr Fr.rf (fr_M_years_91 ih _ _ _ _ _ _ _ h) rfl
        · exact Fr.tr Fr.rf (fr_M_years_91 ih _ _ _ _ _ _ _ h) rfl
theorem fr_M_years : ∀ (x1 : Int32) (x2 : Int32) (V : ai_V) (r : (Int32 × ai_V)), d_M_years x1 x2 V = some r → Fr w_M_years V r.2 := by
  intro x1 x2 V r h
  rw [d_M_years] at h
  obtain ⟨q6, hq6, h⟩ := ai_bd h
  rcases ai_if h with ⟨-, h⟩ | ⟨-, h⟩
  · obtain ⟨q7, hq7, h⟩ := ai_bd h
    have gq7 : Fr w_M_years V q7 := (Fr.tr (Fr.si Fr.rf rfl) (fr_M_lay_90_103 _ _ _ hq7) rfl)
    exact Fr.tr gq7 (fr_M_years_37 _ _ _ _ _ _ _ h) rfl
  · obtain rfl := Option.some.inj h
    exact (Fr.si Fr.rf rfl)
def w_M_lay_90_115 : Fw := ([], [115])
theorem fr_M_lay_90_115_2 : ∀ (n : Nat) (x2 : Int32) (x3 : Int32) (V : ai_V) (r : ai_V), d_M_lay_90_115_2 n x2 x3 V = some r → Fr w_M_lay_90_115 V r := by
  intro n
  induction n with
  | zero =>
    intro x2 x3 V r h
    cases h
  | succ n ih =>
    intro x2 x3 V r h
    rw [d_M_lay_90_115_2] at h
    rcases ai_if h with ⟨-, h⟩ | ⟨-, h⟩
    · obtain rfl := Option.some.inj h
      exact Fr.rf
    · rcases ai_if h with ⟨-, h⟩ | ⟨-, h⟩
      · rcases ai_if h with ⟨-, h⟩ | ⟨-, h⟩
        · exact Fr.tr (Fr.sa Fr.rf rfl) (ih _ _ _ _ h) rfl
        · cases h
      · cases h
theorem fr_M_lay_90_115 : ∀ (x2 : Int32) (V : ai_V) (r : ai_V), d_M_lay_90_115 x2 V = some r → Fr w_M_lay_90_115 V r := by
  intro x2 V r h
  rw [d_M_lay_90_115] at h
  exact Fr.tr Fr.rf (fr_M_lay_90_115_2 _ _ _ _ _ h) rfl
def w_M_keep : Fw := ([(89, 14)], [115, 116, 117])
theorem fr_M_keep : ∀ (x1 : Int32) (V : ai_V) (r : (Int32 × ai_V)), d_M_keep x1 V = some r → Fr w_M_keep V r.2 := by
  intro x1 V r h
  rw [d_M_keep] at h
  obtain ⟨q1, hq1, h⟩ := ai_bd h
  rcases ai_if h with ⟨-, h⟩ | ⟨-, h⟩
  · rcases ai_if h with ⟨-, h⟩ | ⟨-, h⟩
    · rcases ai_if h with ⟨-, h⟩ | ⟨-, h⟩
      · obtain ⟨q2, hq2, h⟩ := ai_bd h
        have gq2 : Fr w_M_keep V q2 := (Fr.tr (Fr.sa (Fr.sa (Fr.si Fr.rf rfl) rfl) rfl) (fr_M_lay_90_115 _ _ _ hq2) rfl)
        obtain rfl := Option.some.inj h
        exact gq2
      · cases h
    · cases h
  · obtain rfl := Option.some.inj h
    exact (Fr.si Fr.rf rfl)
def w_M_again : Fw := ([(89, 14), (89, 35)], [90])
theorem fr_M_again_40 : ∀ (n : Nat) (x1 : Int32) (x2 : Int32) (V : ai_V) (r : (Int32 × ai_V)), d_M_again_40 n x1 x2 V = some r → Fr w_M_again V r.2 := by
  intro n
  induction n with
  | zero =>
    intro x1 x2 V r h
    cases h
  | succ n ih =>
    intro x1 x2 V r h
    rw [d_M_again_40] at h
    rcases ai_if h with ⟨-, h⟩ | ⟨-, h⟩
    · obtain rfl := Option.some.inj h
      exact (Fr.si (Fr.sa Fr.rf rfl) rfl)
    · rcases ai_if h with ⟨-, h⟩ | ⟨-, h⟩
      · rcases ai_if h with ⟨-, h⟩ | ⟨-, h⟩
        · exact Fr.tr (Fr.sa Fr.rf rfl) (ih _ _ _ _ h) rfl
        · cases h
      · cases h
theorem fr_M_again : ∀ (x1 : Int32) (V : ai_V) (r : (Int32 × ai_V)), d_M_again x1 V = some r → Fr w_M_again V r.2 := by
  intro x1 V r h
  rw [d_M_again] at h
  obtain ⟨q1, hq1, h⟩ := ai_bd h
  rcases ai_if h with ⟨-, h⟩ | ⟨-, h⟩
  · obtain rfl := Option.some.inj h
    exact (Fr.si Fr.rf rfl)
  · rcases ai_if h with ⟨-, h⟩ | ⟨-, h⟩
    · rcases ai_if h with ⟨-, h⟩ | ⟨-, h⟩
      · obtain rfl := Option.some.inj h
        exact (Fr.si Fr.rf rfl)
      · rcases ai_if h with ⟨-, h⟩ | ⟨-, h⟩
        · rcases ai_if h with ⟨-, h⟩ | ⟨-, h⟩
          · exact Fr.tr (Fr.si Fr.rf rfl) (fr_M_again_40 _ _ _ _ _ h) rfl
          · obtain rfl := Option.some.inj h
            exact (Fr.si Fr.rf rfl)
        · cases h
    · cases h
def w_M_count : Fw := ([(89, 14)], [])
theorem fr_M_count_143 : ∀ (n : Nat) (x2 : Int32) (x3 : Int32) (V : ai_V) (r : (Int32 × ai_V)), d_M_count_143 n x2 x3 V = some r → Fr w_M_count V r.2 := by
  intro n
  induction n with
  | zero =>
    intro x2 x3 V r h
    cases h
  | succ n ih =>
    intro x2 x3 V r h
    rw [d_M_count_143] at h
    rcases ai_if h with ⟨-, h⟩ | ⟨-, h⟩
    · obtain rfl := Option.some.inj h
      exact Fr.rf
    · rcases ai_if h with ⟨-, h⟩ | ⟨-, h⟩
      · exact Fr.tr Fr.rf (ih _ _ _ _ h) rfl
      · cases h
theorem fr_M_count : ∀ (x1 : Int32) (V : ai_V) (r : (Int32 × ai_V)), d_M_count x1 V = some r → Fr w_M_count V r.2 := by
  intro x1 V r h
  rw [d_M_count] at h
  rcases ai_if h with ⟨-, h⟩ | ⟨-, h⟩
  · obtain rfl := Option.some.inj h
    exact (Fr.si Fr.rf rfl)
  · rcases ai_if h with ⟨-, h⟩ | ⟨-, h⟩
    · obtain rfl := Option.some.inj h
      exact (Fr.si Fr.rf rfl)
    · rcases ai_if h with ⟨-, h⟩ | ⟨-, h⟩
      · obtain rfl := Option.some.inj h
        exact (Fr.si Fr.rf rfl)
      · rcases ai_if h with ⟨-, h⟩ | ⟨-, h⟩
        · obtain rfl := Option.some.inj h
          exact (Fr.si Fr.rf rfl)
        · rcases ai_if h with ⟨-, h⟩ | ⟨-, h⟩
          · obtain rfl := Option.some.inj h
            exact (Fr.si Fr.rf rfl)
          · rcases ai_if h with ⟨-, h⟩ | ⟨-, h⟩
            · obtain rfl := Option.some.inj h
              exact (Fr.si Fr.rf rfl)
            · rcases ai_if h with ⟨-, h⟩ | ⟨-, h⟩
              · obtain rfl := Option.some.inj h
                exact (Fr.si Fr.rf rfl)
              · rcases ai_if h with ⟨-, h⟩ | ⟨-, h⟩
                · obtain ⟨q1, hq1, h⟩ := ai_bd h
                  obtain rfl := Option.some.inj h
                  exact (Fr.si Fr.rf rfl)
                · rcases ai_if h with ⟨-, h⟩ | ⟨-, h⟩
                  · exact Fr.tr (Fr.si Fr.rf rfl) (fr_M_count_143 _ _ _ _ _ h) rfl
                  · rcases ai_if h with ⟨-, h⟩ | ⟨-, h⟩
                    · obtain rfl := Option.some.inj h
                      exact (Fr.si Fr.rf rfl)
                    · rcases ai_if h with ⟨-, h⟩ | ⟨-, h⟩
                      · obtain rfl := Option.some.inj h
                        exact (Fr.si Fr.rf rfl)
                      · rcases ai_if h with ⟨-, h⟩ | ⟨-, h⟩
                        · obtain rfl := Option.some.inj h
                          exact (Fr.si Fr.rf rfl)
                        · rcases ai_if h with ⟨-, h⟩ | ⟨-, h⟩
                          · obtain rfl := Option.some.inj h
                            exact (Fr.si Fr.rf rfl)
                          · obtain rfl := Option.some.inj h
                            exact (Fr.si Fr.rf rfl)
def w_M_row : Fw := ([(89, 14)], [])
theorem fr_M_row : ∀ (x1 : Int32) (V : ai_V) (r : (Int64 × ai_V)), d_M_row x1 V = some r → Fr w_M_row V r.2 := by
  intro x1 V r h
  rw [d_M_row] at h
  obtain ⟨q1, hq1, h⟩ := ai_bd h
  rcases ai_if h with ⟨-, h⟩ | ⟨-, h⟩
  · obtain ⟨q2, hq2, h⟩ := ai_bd h
    have gq2 : Fr w_M_row V q2.2 := (Fr.tr (Fr.si Fr.rf rfl) (fr_M_lost _ _ hq2) rfl)
    obtain rfl := Option.some.inj h
    exact gq2
  · rcases ai_if h with ⟨-, h⟩ | ⟨-, h⟩
    · obtain rfl := Option.some.inj h
      exact (Fr.si Fr.rf rfl)
    · cases h
def w_Text_add : Fw := ([(1, 1)], [2])
theorem fr_Text_add_16 : ∀ (n : Nat) (x1 : Int32) (x2 : Int32) (V : ai_V) (r : (Int32 × ai_V)), d_Text_add_16 n x1 x2 V = some r → Fr w_Text_add V r.2 := by
  intro n
  induction n with
  | zero =>
    intro x1 x2 V r h
    cases h
  | succ n ih =>
    intro x1 x2 V r h
    rw [d_Text_add_16] at h
    rcases ai_if h with ⟨-, h⟩ | ⟨-, h⟩
    · obtain rfl := Option.some.inj h
      exact Fr.rf
    · rcases ai_if h with ⟨-, h⟩ | ⟨-, h⟩
      · exact Fr.tr (Fr.si (Fr.sa Fr.rf rfl) rfl) (ih _ _ _ _ h) rfl
      · cases h
theorem fr_Text_add : ∀ (x1 : Int32) (V : ai_V) (r : (Int32 × ai_V)), d_Text_add x1 V = some r → Fr w_Text_add V r.2 := by
  intro x1 V r h
  rw [d_Text_add] at h
  rcases ai_if h with ⟨-, h⟩ | ⟨-, h⟩
  · exact Fr.tr Fr.rf (fr_Text_add_16 _ _ _ _ _ h) rfl
  · obtain rfl := Option.some.inj h
    exact Fr.rf
def w_X_sign : Fw := ([(1, 1)], [2])
theorem fr_X_sign : ∀ (x1 : Int32) (V : ai_V) (r : (Int32 × ai_V)), d_X_sign x1 V = some r → Fr w_X_sign V r.2 := by
  intro x1 V r h
  rw [d_X_sign] at h
  obtain ⟨q1, hq1, h⟩ := ai_bd h
  have gq1 : Fr w_X_sign V q1.2 := (Fr.tr Fr.rf (fr_Text_add _ _ _ hq1) rfl)
  obtain rfl := Option.some.inj h
  exact gq1
def w_Text_cut : Fw := ([(1, 1)], [])
theorem fr_Text_cut : ∀ (x1 : Int32) (V : ai_V) (r : (Int32 × ai_V)), d_Text_cut x1 V = some r → Fr w_Text_cut V r.2 := by
  intro x1 V r h
  rw [d_Text_cut] at h
  rcases ai_if h with ⟨-, h⟩ | ⟨-, h⟩
  · obtain rfl := Option.some.inj h
    exact Fr.rf
  · rcases ai_if h with ⟨-, h⟩ | ⟨-, h⟩
    · obtain rfl := Option.some.inj h
      exact (Fr.si Fr.rf rfl)
    · obtain rfl := Option.some.inj h
      exact Fr.rf
def w_X_end : Fw := ([(1, 1)], [])
theorem fr_X_end : ∀ (x1 : Int32) (V : ai_V) (r : (Int32 × ai_V)), d_X_end x1 V = some r → Fr w_X_end V r.2 := by
  intro x1 V r h
  rw [d_X_end] at h
  obtain ⟨q1, hq1, h⟩ := ai_bd h
  have gq1 : Fr w_X_end V q1.2 := (Fr.tr Fr.rf (fr_Text_cut _ _ _ hq1) rfl)
  rcases ai_if h with ⟨-, h⟩ | ⟨-, h⟩
  · obtain rfl := Option.some.inj h
    exact gq1
  · cases h
def w_Text_clear : Fw := ([(1, 1)], [])
theorem fr_Text_clear : ∀ (V : ai_V) (r : ai_V), d_Text_clear V = some r → Fr w_Text_clear V r := by
  intro V r h
  rw [d_Text_clear] at h
  obtain rfl := Option.some.inj h
  exact (Fr.si Fr.rf rfl)
def w_House_orderInto : Fw := ([], [9])
theorem fr_House_orderInto_77 {F6 : Int32 → Int32 → Int32 → Int32 → ai_V → Option ai_V} {F16 : Int32 → Int32 → Int32 → Int32 → Int32 → ai_V → Option ai_V} (hF6 : ∀ y0 y1 y2 y3 V r, F6 y0 y1 y2 y3 V = some r → Fr w_House_orderInto V r) (hF16 : ∀ y0 y1 y2 y3 y4 V r, F16 y0 y1 y2 y3 y4 V = some r → Fr w_House_orderInto V r) : ∀ (x2 : Int32) (x3 : Int32) (x4 : Int32) (x5 : Int32) (x6 : Int32) (V : ai_V) (r : ai_V), d_House_orderInto_77 F6 F16 x2 x3 x4 x5 x6 V = some r → Fr w_House_orderInto V r := by
  intro x2 x3 x4 x5 x6 V r h
  rw [d_House_orderInto_77] at h
  exact Fr.tr Fr.rf (hF16 _ _ _ _ _ _ _ h) rfl
theorem fr_House_orderInto_47 {F6 : Int32 → Int32 → Int32 → Int32 → ai_V → Option ai_V} {F16 : Int32 → Int32 → Int32 → Int32 → Int32 → ai_V → Option ai_V} (hF6 : ∀ y0 y1 y2 y3 V r, F6 y0 y1 y2 y3 V = some r → Fr w_House_orderInto V r) (hF16 : ∀ y0 y1 y2 y3 y4 V r, F16 y0 y1 y2 y3 y4 V = some r → Fr w_House_orderInto V r) : ∀ (x2 : Int32) (x3 : Int32) (x4 : Int32) (x5 : Int32) (x6 : Int32) (s0 : Int32) (V : ai_V) (r : ai_V), d_House_orderInto_47 F6 F16 x2 x3 x4 x5 x6 s0 V = some r → Fr w_House_orderInto V r := by
  intro x2 x3 x4 x5 x6 s0 V r h
  rw [d_House_orderInto_47] at h
  rcases ai_if h with ⟨-, h⟩ | ⟨-, h⟩
  · rcases ai_if h with ⟨-, h⟩ | ⟨-, h⟩
    · exact Fr.tr Fr.rf (fr_House_orderInto_77 hF6 hF16 _ _ _ _ _ _ _ h) rfl
    · rcases ai_if h with ⟨-, h⟩ | ⟨-, h⟩
      · exact Fr.tr Fr.rf (fr_House_orderInto_77 hF6 hF16 _ _ _ _ _ _ _ h) rfl
      · rcases ai_if h with ⟨-, h⟩ | ⟨-, h⟩
        · exact Fr.tr (Fr.sa Fr.rf rfl) (fr_House_orderInto_77 hF6 hF16 _ _ _ _ _ _ _ h) rfl
        · cases h
  · cases h
theorem fr_House_orderInto_16 {F6 : Int32 → Int32 → Int32 → Int32 → ai_V → Option ai_V} (hF6 : ∀ y0 y1 y2 y3 V r, F6 y0 y1 y2 y3 V = some r → Fr w_House_orderInto V r) : ∀ (n : Nat) (x2 : Int32) (x3 : Int32) (x4 : Int32) (x5 : Int32) (x6 : Int32) (V : ai_V) (r : ai_V), d_House_orderInto_16 F6 n x2 x3 x4 x5 x6 V = some r → Fr w_House_orderInto V r := by
  intro n
  induction n with
  | zero =>
    intro x2 x3 x4 x5 x6 V r h
    cases h
  | succ n ih =>
    intro x2 x3 x4 x5 x6 V r h
    rw [d_House_orderInto_16] at h
    rcases ai_if h with ⟨-, h⟩ | ⟨-, h⟩
    · exact Fr.tr Fr.rf (hF6 _ _ _ _ _ _ h) rfl
    · rcases ai_if h with ⟨-, h⟩ | ⟨-, h⟩
      · rcases ai_if h with ⟨-, h⟩ | ⟨-, h⟩
        · exact Fr.tr Fr.rf (fr_House_orderInto_47 hF6 ih _ _ _ _ _ _ _ _ h) rfl
        · exact Fr.tr Fr.rf (fr_House_orderInto_47 hF6 ih _ _ _ _ _ _ _ _ h) rfl
      · exact Fr.tr Fr.rf (fr_House_orderInto_47 hF6 ih _ _ _ _ _ _ _ _ h) rfl
theorem fr_House_orderInto_6 : ∀ (n : Nat) (x2 : Int32) (x3 : Int32) (x4 : Int32) (x5 : Int32) (V : ai_V) (r : ai_V), d_House_orderInto_6 n x2 x3 x4 x5 V = some r → Fr w_House_orderInto V r := by
  intro n
  induction n with
  | zero =>
    intro x2 x3 x4 x5 V r h
    cases h
  | succ n ih =>
    intro x2 x3 x4 x5 V r h
    rw [d_House_orderInto_6] at h
    rcases ai_if h with ⟨-, h⟩ | ⟨-, h⟩
    · obtain rfl := Option.some.inj h
      exact Fr.rf
    · exact Fr.tr Fr.rf (fr_House_orderInto_16 ih _ _ _ _ _ _ _ _ h) rfl
theorem fr_House_orderInto : ∀ (x2 : Int32) (x3 : Int32) (V : ai_V) (r : ai_V), d_House_orderInto x2 x3 V = some r → Fr w_House_orderInto V r := by
  intro x2 x3 V r h
  rw [d_House_orderInto] at h
  exact Fr.tr Fr.rf (fr_House_orderInto_6 _ _ _ _ _ _ _ h) rfl
def w_House_takeDigit : Fw := ([], [4, 5, 6, 7, 8])
theorem fr_House_takeDigit : ∀ (x1 : Int32) (x2 : Int32) (V : ai_V) (r : ai_V), d_House_takeDigit x1 x2 V = some r → Fr w_House_takeDigit V r := by
  intro x1 x2 V r h
  rw [d_House_takeDigit] at h
  rcases ai_if h with ⟨-, h⟩ | ⟨-, h⟩
  · rcases ai_if h with ⟨-, h⟩ | ⟨-, h⟩
    · rcases ai_if h with ⟨-, h⟩ | ⟨-, h⟩
      · rcases ai_if h with ⟨-, h⟩ | ⟨-, h⟩
        · obtain rfl := Option.some.inj h
          exact Fr.rf
        · rcases ai_if h with ⟨-, h⟩ | ⟨-, h⟩
          · obtain rfl := Option.some.inj h
            exact Fr.rf
          · rcases ai_if h with ⟨-, h⟩ | ⟨-, h⟩
            · rcases ai_if h with ⟨-, h⟩ | ⟨-, h⟩
              · obtain rfl := Option.some.inj h
                exact (Fr.sa (Fr.sa Fr.rf rfl) rfl)
              · cases h
            · cases h
      · rcases ai_if h with ⟨-, h⟩ | ⟨-, h⟩
        · obtain rfl := Option.some.inj h
          exact (Fr.sa Fr.rf rfl)
        · cases h
    · rcases ai_if h with ⟨-, h⟩ | ⟨-, h⟩
      · obtain rfl := Option.some.inj h
        exact (Fr.sa Fr.rf rfl)
      · cases h
  · rcases ai_if h with ⟨-, h⟩ | ⟨-, h⟩
    · obtain rfl := Option.some.inj h
      exact (Fr.sa Fr.rf rfl)
    · cases h
def w_House_takeLines : Fw := ([(3, 0)], [4, 5, 6, 7, 8, 9])
theorem fr_House_takeLines_69 : ∀ (V : ai_V) (r : ai_V), d_House_takeLines_69 V = some r → Fr w_House_takeLines V r := by
  intro V r h
  rw [d_House_takeLines_69] at h
  obtain ⟨q1, hq1, h⟩ := ai_bd h
  have gq1 : Fr w_House_takeLines V q1 := (Fr.tr (Fr.si Fr.rf rfl) (fr_House_orderInto _ _ _ _ hq1) rfl)
  obtain rfl := Option.some.inj h
  exact gq1
theorem fr_House_takeLines_63 {F4 : Int32 → Int32 → ai_V → Option ai_V} (hF4 : ∀ y0 y1 V r, F4 y0 y1 V = some r → Fr w_House_takeLines V r) : ∀ (x2 : Int32) (x3 : Int32) (V : ai_V) (r : ai_V), d_House_takeLines_63 F4 x2 x3 V = some r → Fr w_House_takeLines V r := by
  intro x2 x3 V r h
  rw [d_House_takeLines_63] at h
  exact Fr.tr Fr.rf (hF4 _ _ _ _ h) rfl
theorem fr_House_takeLines_4 : ∀ (n : Nat) (x2 : Int32) (x3 : Int32) (V : ai_V) (r : ai_V), d_House_takeLines_4 n x2 x3 V = some r → Fr w_House_takeLines V r := by
  intro n
  induction n with
  | zero =>
    intro x2 x3 V r h
    cases h
  | succ n ih =>
    intro x2 x3 V r h
    rw [d_House_takeLines_4] at h
    rcases ai_if h with ⟨-, h⟩ | ⟨-, h⟩
    · exact Fr.tr Fr.rf (fr_House_takeLines_69 _ _ h) rfl
    · rcases ai_if h with ⟨-, h⟩ | ⟨-, h⟩
      · exact Fr.tr Fr.rf (fr_House_takeLines_69 _ _ h) rfl
      · obtain ⟨q2, hq2, h⟩ := ai_bd h
        rcases ai_if h with ⟨-, h⟩ | ⟨-, h⟩
        · obtain ⟨q3, hq3, h⟩ := ai_bd h
          have gq3 : Fr w_House_takeLines V q3 := (Fr.tr Fr.rf (fr_House_takeDigit _ _ _ _ hq3) rfl)
          exact Fr.tr gq3 (fr_House_takeLines_63 ih _ _ _ _ h) rfl
        · exact Fr.tr (Fr.si Fr.rf rfl) (fr_House_takeLines_63 ih _ _ _ _ h) rfl
theorem fr_House_takeLines : ∀ (V : ai_V) (r : ai_V), d_House_takeLines V = some r → Fr w_House_takeLines V r := by
  intro V r h
  rw [d_House_takeLines] at h
  exact Fr.tr Fr.rf (fr_House_takeLines_4 _ _ _ _ _ h) rfl
def w_Past_clear : Fw := ([(24, 1)], [])
theorem fr_Past_clear : ∀ (V : ai_V) (r : ai_V), d_Past_clear V = some r → Fr w_Past_clear V r := by
  intro V r h
  rw [d_Past_clear] at h
  obtain rfl := Option.some.inj h
  exact (Fr.si Fr.rf rfl)
def w_X_house : Fw := ([(1, 1), (3, 0), (24, 1)], [4, 5, 6, 7, 8, 9])
theorem fr_X_house_46 : ∀ (x1 : Int32) (V : ai_V) (r : (Int32 × ai_V)), d_X_house_46 x1 V = some r → Fr w_X_house V r.2 := by
  intro x1 V r h
  rw [d_X_house_46] at h
  obtain ⟨q1, hq1, h⟩ := ai_bd h
  have gq1 : Fr w_X_house V q1 := (Fr.tr Fr.rf (fr_Text_clear _ _ hq1) rfl)
  obtain rfl := Option.some.inj h
  exact gq1
theorem fr_X_house : ∀ (V : ai_V) (r : (Int32 × ai_V)), d_X_house V = some r → Fr w_X_house V r.2 := by
  intro V r h
  rw [d_X_house] at h
  rcases ai_if h with ⟨-, h⟩ | ⟨-, h⟩
  · obtain ⟨q2, hq2, h⟩ := ai_bd h
    rcases ai_if h with ⟨-, h⟩ | ⟨-, h⟩
    · exact Fr.tr Fr.rf (fr_X_house_46 _ _ _ h) rfl
    · obtain ⟨q3, hq3, h⟩ := ai_bd h
      have gq3 : Fr w_X_house V q3 := (Fr.tr Fr.rf (fr_House_takeLines _ _ hq3) rfl)
      obtain ⟨q4, hq4, h⟩ := ai_bd h
      have gq4 : Fr w_X_house V q4 := (Fr.tr gq3 (fr_Past_clear _ _ hq4) rfl)
      exact Fr.tr gq4 (fr_X_house_46 _ _ _ h) rfl
  · obtain rfl := Option.some.inj h
    exact Fr.rf
