/-! ===== printed by wip/gen/frames.py: what a method's function may write ===== -/
def w_X_undo : Fw := ([(16, 0), (16, 1), (24, 1), (24, 2)], [17, 18])
theorem fr_X_undo : ∀ (V : ai_V) (r : (Int32 × ai_V)), d_X_undo V = some r → Fr w_X_undo V r.2 := by
  intro V r h
  rw [d_X_undo] at h
  obtain ⟨q1, hq1, h⟩ := ai_bd h
  have gq1 : Fr w_X_undo V q1.2 := (Fr.tr Fr.rf (fr_Past_takeBack _ _ hq1) rfl)
  rcases ai_if h with ⟨-, h⟩ | ⟨-, h⟩
  · obtain rfl := Option.some.inj h
    exact gq1
  · obtain rfl := Option.some.inj h
    exact gq1
def w_X_tellPayers : Fw := ([(22, 1)], [23])
theorem fr_X_tellPayers_43 {F9 : Int32 → Int32 → Int32 → ai_V → Option ai_V} (hF9 : ∀ y0 y1 y2 V r, F9 y0 y1 y2 V = some r → Fr w_X_tellPayers V r) : ∀ (x1 : Int32) (x2 : Int32) (x3 : Int32) (V : ai_V) (r : ai_V), d_X_tellPayers_43 F9 x1 x2 x3 V = some r → Fr w_X_tellPayers V r := by
  intro x1 x2 x3 V r h
  rw [d_X_tellPayers_43] at h
  exact Fr.tr Fr.rf (hF9 _ _ _ _ _ h) rfl
theorem fr_X_tellPayers_9 : ∀ (n : Nat) (x1 : Int32) (x2 : Int32) (x3 : Int32) (V : ai_V) (r : ai_V), d_X_tellPayers_9 n x1 x2 x3 V = some r → Fr w_X_tellPayers V r := by
  intro n
  induction n with
  | zero =>
    intro x1 x2 x3 V r h
    cases h
  | succ n ih =>
    intro x1 x2 x3 V r h
    rw [d_X_tellPayers_9] at h
    rcases ai_if h with ⟨-, h⟩ | ⟨-, h⟩
    · obtain rfl := Option.some.inj h
      exact Fr.rf
    · rcases ai_if h with ⟨-, h⟩ | ⟨-, h⟩
      · exact Fr.tr Fr.rf (fr_X_tellPayers_43 ih _ _ _ _ _ h) rfl
      · obtain ⟨q1, hq1, h⟩ := ai_bd h
        obtain ⟨q2, hq2, h⟩ := ai_bd h
        have gq2 : Fr w_X_tellPayers V q2 := (Fr.tr Fr.rf (fr_Row_add _ _ _ hq2) rfl)
        exact Fr.tr gq2 (fr_X_tellPayers_43 ih _ _ _ _ _ h) rfl
theorem fr_X_tellPayers : ∀ (x1 : Int32) (x2 : Int32) (V : ai_V) (r : ai_V), d_X_tellPayers x1 x2 V = some r → Fr w_X_tellPayers V r := by
  intro x1 x2 V r h
  rw [d_X_tellPayers] at h
  obtain ⟨q3, hq3, h⟩ := ai_bd h
  have gq3 : Fr w_X_tellPayers V q3 := (Fr.tr Fr.rf (fr_Row_clear _ _ hq3) rfl)
  exact Fr.tr gq3 (fr_X_tellPayers_9 _ _ _ _ _ _ h) rfl
def w_X_pays : Fw := ([(22, 1)], [23])
theorem fr_X_pays_59 {F15 : Int32 → Int32 → ai_V → Option (Int32 × ai_V)} {F26 : Int32 → Int32 → Int32 → Int32 → ai_V → Option (Int32 × ai_V)} (hF15 : ∀ y0 y1 V r, F15 y0 y1 V = some r → Fr w_X_pays V r.2) (hF26 : ∀ y0 y1 y2 y3 V r, F26 y0 y1 y2 y3 V = some r → Fr w_X_pays V r.2) : ∀ (x1 : Int32) (x2 : Int32) (x4 : Int32) (s0 : Int32) (s1 : Int32) (V : ai_V) (r : (Int32 × ai_V)), d_X_pays_59 F15 F26 x1 x2 x4 s0 s1 V = some r → Fr w_X_pays V r.2 := by
  intro x1 x2 x4 s0 s1 V r h
  rw [d_X_pays_59] at h
  exact Fr.tr Fr.rf (hF26 _ _ _ _ _ _ h) rfl
theorem fr_X_pays_26 {F15 : Int32 → Int32 → ai_V → Option (Int32 × ai_V)} (hF15 : ∀ y0 y1 V r, F15 y0 y1 V = some r → Fr w_X_pays V r.2) : ∀ (n : Nat) (x1 : Int32) (x2 : Int32) (x3 : Int32) (x4 : Int32) (V : ai_V) (r : (Int32 × ai_V)), d_X_pays_26 F15 n x1 x2 x3 x4 V = some r → Fr w_X_pays V r.2 := by
  intro n
  induction n with
  | zero =>
    intro x1 x2 x3 x4 V r h
    cases h
  | succ n ih =>
    intro x1 x2 x3 x4 V r h
    rw [d_X_pays_26] at h
    rcases ai_if h with ⟨-, h⟩ | ⟨-, h⟩
    · rcases ai_if h with ⟨-, h⟩ | ⟨-, h⟩
      · exact Fr.tr Fr.rf (hF15 _ _ _ _ h) rfl
      · obtain ⟨q1, hq1, h⟩ := ai_bd h
        have gq1 : Fr w_X_pays V q1 := (Fr.tr Fr.rf (fr_X_tellPayers _ _ _ _ hq1) rfl)
        obtain rfl := Option.some.inj h
        exact gq1
    · rcases ai_if h with ⟨-, h⟩ | ⟨-, h⟩
      · obtain ⟨q2, hq2, h⟩ := ai_bd h
        exact Fr.tr Fr.rf (fr_X_pays_59 hF15 ih _ _ _ _ _ _ _ h) rfl
      · exact Fr.tr Fr.rf (fr_X_pays_59 hF15 ih _ _ _ _ _ _ _ h) rfl
theorem fr_X_pays_15 : ∀ (n : Nat) (x1 : Int32) (x2 : Int32) (V : ai_V) (r : (Int32 × ai_V)), d_X_pays_15 n x1 x2 V = some r → Fr w_X_pays V r.2 := by
  intro n
  induction n with
  | zero =>
    intro x1 x2 V r h
    cases h
  | succ n ih =>
    intro x1 x2 V r h
    rw [d_X_pays_15] at h
    rcases ai_if h with ⟨-, h⟩ | ⟨-, h⟩
    · obtain rfl := Option.some.inj h
      exact Fr.rf
    · exact Fr.tr Fr.rf (fr_X_pays_26 ih _ _ _ _ _ _ _ h) rfl
theorem fr_X_pays : ∀ (x1 : Int32) (V : ai_V) (r : (Int32 × ai_V)), d_X_pays x1 V = some r → Fr w_X_pays V r.2 := by
  intro x1 V r h
  rw [d_X_pays] at h
  obtain ⟨q3, hq3, h⟩ := ai_bd h
  rcases ai_if h with ⟨-, h⟩ | ⟨-, h⟩
  · exact Fr.tr Fr.rf (fr_X_pays_15 _ _ _ _ _ h) rfl
  · obtain rfl := Option.some.inj h
    exact Fr.rf
def w_X_strongest : Fw := ([(22, 1)], [12, 13, 23])
theorem fr_X_strongest_77 {F24 : Int32 → Int32 → Int32 → Int32 → ai_V → Option (Int32 × ai_V)} (hF24 : ∀ y0 y1 y2 y3 V r, F24 y0 y1 y2 y3 V = some r → Fr w_X_strongest V r.2) : ∀ (x1 : Int32) (x2 : Int32) (x3 : Int32) (x4 : Int32) (V : ai_V) (r : (Int32 × ai_V)), d_X_strongest_77 F24 x1 x2 x3 x4 V = some r → Fr w_X_strongest V r.2 := by
  intro x1 x2 x3 x4 V r h
  rw [d_X_strongest_77] at h
  exact Fr.tr Fr.rf (hF24 _ _ _ _ _ _ h) rfl
theorem fr_X_strongest_63 {F24 : Int32 → Int32 → Int32 → Int32 → ai_V → Option (Int32 × ai_V)} (hF24 : ∀ y0 y1 y2 y3 V r, F24 y0 y1 y2 y3 V = some r → Fr w_X_strongest V r.2) : ∀ (x1 : Int32) (x2 : Int32) (x3 : Int32) (x4 : Int32) (s0 : Int32) (V : ai_V) (r : (Int32 × ai_V)), d_X_strongest_63 F24 x1 x2 x3 x4 s0 V = some r → Fr w_X_strongest V r.2 := by
  intro x1 x2 x3 x4 s0 V r h
  rw [d_X_strongest_63] at h
  rcases ai_if h with ⟨-, h⟩ | ⟨-, h⟩
  · exact Fr.tr Fr.rf (fr_X_strongest_77 hF24 _ _ _ _ _ _ h) rfl
  · exact Fr.tr Fr.rf (fr_X_strongest_77 hF24 _ _ _ _ _ _ h) rfl
theorem fr_X_strongest_24 : ∀ (n : Nat) (x1 : Int32) (x2 : Int32) (x3 : Int32) (x4 : Int32) (V : ai_V) (r : (Int32 × ai_V)), d_X_strongest_24 n x1 x2 x3 x4 V = some r → Fr w_X_strongest V r.2 := by
  intro n
  induction n with
  | zero =>
    intro x1 x2 x3 x4 V r h
    cases h
  | succ n ih =>
    intro x1 x2 x3 x4 V r h
    rw [d_X_strongest_24] at h
    rcases ai_if h with ⟨-, h⟩ | ⟨-, h⟩
    · obtain ⟨q1, hq1, h⟩ := ai_bd h
      have gq1 : Fr w_X_strongest V q1 := (Fr.tr Fr.rf (fr_Row_tellOne _ _ _ hq1) rfl)
      obtain rfl := Option.some.inj h
      exact gq1
    · rcases ai_if h with ⟨-, h⟩ | ⟨-, h⟩
      · obtain ⟨q2, hq2, h⟩ := ai_bd h
        have gq2 : Fr w_X_strongest V q2.2 := (Fr.tr Fr.rf (fr_Wheel_pailsNow _ _ _ _ hq2) rfl)
        exact Fr.tr gq2 (fr_X_strongest_63 ih _ _ _ _ _ _ _ h) rfl
      · exact Fr.tr Fr.rf (fr_X_strongest_63 ih _ _ _ _ _ _ _ h) rfl
theorem fr_X_strongest : ∀ (x1 : Int32) (V : ai_V) (r : (Int32 × ai_V)), d_X_strongest x1 V = some r → Fr w_X_strongest V r.2 := by
  intro x1 V r h
  rw [d_X_strongest] at h
  obtain ⟨q3, hq3, h⟩ := ai_bd h
  rcases ai_if h with ⟨-, h⟩ | ⟨-, h⟩
  · obtain rfl := Option.some.inj h
    exact Fr.rf
  · rcases ai_if h with ⟨-, h⟩ | ⟨-, h⟩
    · exact Fr.tr Fr.rf (fr_X_strongest_24 _ _ _ _ _ _ _ h) rfl
    · obtain rfl := Option.some.inj h
      exact Fr.rf
def w_X_dryWithRoom : Fw := ([(15, 2), (15, 3), (15, 4), (15, 5), (19, 0), (19, 1), (19, 2)], [12, 13, 20, 21])
theorem fr_X_dryWithRoom_25 : ∀ (n : Nat) (x2 : Int32) (x3 : Int32) (x4 : Int32) (x5 : Int32) (x6 : Int32) (V : ai_V) (r : (Int32 × ai_V)), d_X_dryWithRoom_25 n x2 x3 x4 x5 x6 V = some r → Fr w_X_dryWithRoom V r.2 := by
  intro n
  induction n with
  | zero =>
    intro x2 x3 x4 x5 x6 V r h
    cases h
  | succ n ih =>
    intro x2 x3 x4 x5 x6 V r h
    rw [d_X_dryWithRoom_25] at h
    rcases ai_if h with ⟨-, h⟩ | ⟨-, h⟩
    · obtain rfl := Option.some.inj h
      exact Fr.rf
    · rcases ai_if h with ⟨-, h⟩ | ⟨-, h⟩
      · obtain rfl := Option.some.inj h
        exact Fr.rf
      · obtain ⟨q1, hq1, h⟩ := ai_bd h
        have gq1 : Fr w_X_dryWithRoom V q1 := (Fr.tr Fr.rf (fr_Wheel_pass_15_19 _ _ _ _ hq1) rfl)
        exact Fr.tr gq1 (ih _ _ _ _ _ _ _ h) rfl
theorem fr_X_dryWithRoom : ∀ (x1 : Int32) (x2 : Int32) (x3 : Int32) (x4 : Int32) (V : ai_V) (r : (Int32 × ai_V)), d_X_dryWithRoom x1 x2 x3 x4 V = some r → Fr w_X_dryWithRoom V r.2 := by
  intro x1 x2 x3 x4 V r h
  rw [d_X_dryWithRoom] at h
  obtain ⟨q2, hq2, h⟩ := ai_bd h
  have gq2 : Fr w_X_dryWithRoom V q2 := (Fr.tr (Fr.si Fr.rf rfl) (fr_State_becomes_19_16 _ _ hq2) rfl)
  exact Fr.tr gq2 (fr_X_dryWithRoom_25 _ _ _ _ _ _ _ _ h) rfl
def w_X_roomy : Fw := ([(15, 2), (15, 3), (15, 4), (15, 5), (19, 0), (19, 1), (19, 2), (22, 1)], [12, 13, 20, 21, 23])
theorem fr_X_roomy_82 : ∀ (x4 : Int32) (x5 : Int32) (V : ai_V) (r : (Int32 × ai_V)), d_X_roomy_82 x4 x5 V = some r → Fr w_X_roomy V r.2 := by
  intro x4 x5 V r h
  rw [d_X_roomy_82] at h
  obtain ⟨q1, hq1, h⟩ := ai_bd h
  have gq1 : Fr w_X_roomy V q1 := (Fr.tr Fr.rf (fr_Row_tellOne _ _ _ hq1) rfl)
  obtain rfl := Option.some.inj h
  exact gq1
theorem fr_X_roomy_51 : ∀ (n : Nat) (x1 : Int32) (x2 : Int32) (x3 : Int32) (x4 : Int32) (x5 : Int32) (V : ai_V) (r : (Int32 × ai_V)), d_X_roomy_51 n x1 x2 x3 x4 x5 V = some r → Fr w_X_roomy V r.2 := by
  intro n
  induction n with
  | zero =>
    intro x1 x2 x3 x4 x5 V r h
    cases h
  | succ n ih =>
    intro x1 x2 x3 x4 x5 V r h
    rw [d_X_roomy_51] at h
    rcases ai_if h with ⟨-, h⟩ | ⟨-, h⟩
    · exact Fr.tr Fr.rf (fr_X_roomy_82 _ _ _ _ h) rfl
    · rcases ai_if h with ⟨-, h⟩ | ⟨-, h⟩
      · exact Fr.tr Fr.rf (fr_X_roomy_82 _ _ _ _ h) rfl
      · obtain ⟨q2, hq2, h⟩ := ai_bd h
        have gq2 : Fr w_X_roomy V q2.2 := (Fr.tr Fr.rf (fr_X_dryWithRoom _ _ _ _ _ _ hq2) rfl)
        exact Fr.tr gq2 (ih _ _ _ _ _ _ _ h) rfl
theorem fr_X_roomy : ∀ (x1 : Int32) (x2 : Int32) (V : ai_V) (r : (Int32 × ai_V)), d_X_roomy x1 x2 V = some r → Fr w_X_roomy V r.2 := by
  intro x1 x2 V r h
  rw [d_X_roomy] at h
  obtain ⟨q3, hq3, h⟩ := ai_bd h
  rcases ai_if h with ⟨-, h⟩ | ⟨-, h⟩
  · obtain rfl := Option.some.inj h
    exact Fr.rf
  · rcases ai_if h with ⟨-, h⟩ | ⟨-, h⟩
    · obtain rfl := Option.some.inj h
      exact Fr.rf
    · rcases ai_if h with ⟨-, h⟩ | ⟨-, h⟩
      · obtain ⟨q4, hq4, h⟩ := ai_bd h
        have gq4 : Fr w_X_roomy V q4.2 := (Fr.tr Fr.rf (fr_X_dryWithRoom _ _ _ _ _ _ hq4) rfl)
        obtain ⟨q5, hq5, h⟩ := ai_bd h
        have gq5 : Fr w_X_roomy V q5.2 := (Fr.tr gq4 (fr_X_dryWithRoom _ _ _ _ _ _ hq5) rfl)
        exact Fr.tr gq5 (fr_X_roomy_51 _ _ _ _ _ _ _ _ h) rfl
      · obtain rfl := Option.some.inj h
        exact Fr.rf
def w_X_even : Fw := ([(15, 2), (15, 3), (15, 4), (15, 5), (19, 0), (19, 1), (19, 2), (22, 1)], [12, 13, 20, 21, 23])
theorem fr_X_even_74 {F39 : Int32 → Int32 → Int32 → Int32 → ai_V → Option (Int32 × ai_V)} (hF39 : ∀ y0 y1 y2 y3 V r, F39 y0 y1 y2 y3 V = some r → Fr w_X_even V r.2) : ∀ (x1 : Int32) (x3 : Int32) (x4 : Int32) (x5 : Int32) (x6 : Int32) (V : ai_V) (r : (Int32 × ai_V)), d_X_even_74 F39 x1 x3 x4 x5 x6 V = some r → Fr w_X_even V r.2 := by
  intro x1 x3 x4 x5 x6 V r h
  rw [d_X_even_74] at h
  obtain ⟨q1, hq1, h⟩ := ai_bd h
  have gq1 : Fr w_X_even V q1 := (Fr.tr Fr.rf (fr_Wheel_pass_15_19 _ _ _ _ hq1) rfl)
  exact Fr.tr gq1 (hF39 _ _ _ _ _ _ h) rfl
theorem fr_X_even_39 : ∀ (n : Nat) (x1 : Int32) (x3 : Int32) (x4 : Int32) (x5 : Int32) (V : ai_V) (r : (Int32 × ai_V)), d_X_even_39 n x1 x3 x4 x5 V = some r → Fr w_X_even V r.2 := by
  intro n
  induction n with
  | zero =>
    intro x1 x3 x4 x5 V r h
    cases h
  | succ n ih =>
    intro x1 x3 x4 x5 V r h
    rw [d_X_even_39] at h
    rcases ai_if h with ⟨-, h⟩ | ⟨-, h⟩
    · obtain ⟨q2, hq2, h⟩ := ai_bd h
      rcases ai_if h with ⟨-, h⟩ | ⟨-, h⟩
      · obtain ⟨q3, hq3, h⟩ := ai_bd h
        have gq3 : Fr w_X_even V q3 := (Fr.tr Fr.rf (fr_Row_tellThree _ _ _ _ _ hq3) rfl)
        obtain rfl := Option.some.inj h
        exact gq3
      · cases h
    · obtain ⟨q4, hq4, h⟩ := ai_bd h
      rcases ai_if h with ⟨-, h⟩ | ⟨-, h⟩
      · rcases ai_if h with ⟨-, h⟩ | ⟨-, h⟩
        · exact Fr.tr Fr.rf (fr_X_even_74 ih _ _ _ _ _ _ _ h) rfl
        · exact Fr.tr Fr.rf (fr_X_even_74 ih _ _ _ _ _ _ _ h) rfl
      · cases h
theorem fr_X_even : ∀ (x1 : Int32) (V : ai_V) (r : (Int32 × ai_V)), d_X_even x1 V = some r → Fr w_X_even V r.2 := by
  intro x1 V r h
  rw [d_X_even] at h
  rcases ai_if h with ⟨-, h⟩ | ⟨-, h⟩
  · obtain rfl := Option.some.inj h
    exact Fr.rf
  · rcases ai_if h with ⟨-, h⟩ | ⟨-, h⟩
    · rcases ai_if h with ⟨-, h⟩ | ⟨-, h⟩
      · obtain ⟨q5, hq5, h⟩ := ai_bd h
        have gq5 : Fr w_X_even V q5 := (Fr.tr Fr.rf (fr_X_asked _ _ hq5) rfl)
        exact Fr.tr gq5 (fr_X_even_39 _ _ _ _ _ _ _ h) rfl
      · obtain rfl := Option.some.inj h
        exact Fr.rf
    · obtain rfl := Option.some.inj h
      exact Fr.rf
def w_X_thirst : Fw := ([(22, 1)], [23])
theorem fr_X_thirst_69 {F23 : Int32 → Int32 → Int32 → Int32 → Int32 → ai_V → Option (Int32 × ai_V)} (hF23 : ∀ y0 y1 y2 y3 y4 V r, F23 y0 y1 y2 y3 y4 V = some r → Fr w_X_thirst V r.2) : ∀ (x1 : Int32) (x2 : Int32) (x3 : Int32) (x4 : Int32) (x5 : Int32) (V : ai_V) (r : (Int32 × ai_V)), d_X_thirst_69 F23 x1 x2 x3 x4 x5 V = some r → Fr w_X_thirst V r.2 := by
  intro x1 x2 x3 x4 x5 V r h
  rw [d_X_thirst_69] at h
  exact Fr.tr Fr.rf (hF23 _ _ _ _ _ _ _ h) rfl
theorem fr_X_thirst_23 : ∀ (n : Nat) (x1 : Int32) (x2 : Int32) (x3 : Int32) (x4 : Int32) (x5 : Int32) (V : ai_V) (r : (Int32 × ai_V)), d_X_thirst_23 n x1 x2 x3 x4 x5 V = some r → Fr w_X_thirst V r.2 := by
  intro n
  induction n with
  | zero =>
    intro x1 x2 x3 x4 x5 V r h
    cases h
  | succ n ih =>
    intro x1 x2 x3 x4 x5 V r h
    rw [d_X_thirst_23] at h
    rcases ai_if h with ⟨-, h⟩ | ⟨-, h⟩
    · obtain ⟨q1, hq1, h⟩ := ai_bd h
      have gq1 : Fr w_X_thirst V q1 := (Fr.tr Fr.rf (fr_Row_tellTwo _ _ _ _ hq1) rfl)
      obtain rfl := Option.some.inj h
      exact gq1
    · obtain ⟨q2, hq2, h⟩ := ai_bd h
      rcases ai_if h with ⟨-, h⟩ | ⟨-, h⟩
      · exact Fr.tr Fr.rf (fr_X_thirst_69 ih _ _ _ _ _ _ _ h) rfl
      · exact Fr.tr Fr.rf (fr_X_thirst_69 ih _ _ _ _ _ _ _ h) rfl
theorem fr_X_thirst : ∀ (x1 : Int32) (V : ai_V) (r : (Int32 × ai_V)), d_X_thirst x1 V = some r → Fr w_X_thirst V r.2 := by
  intro x1 V r h
  rw [d_X_thirst] at h
  rcases ai_if h with ⟨-, h⟩ | ⟨-, h⟩
  · obtain rfl := Option.some.inj h
    exact Fr.rf
  · rcases ai_if h with ⟨-, h⟩ | ⟨-, h⟩
    · exact Fr.tr Fr.rf (fr_X_thirst_23 _ _ _ _ _ _ _ _ h) rfl
    · obtain rfl := Option.some.inj h
      exact Fr.rf
def w_X_bath : Fw := ([(15, 2), (15, 3), (15, 4), (15, 5), (19, 0), (19, 1), (19, 2), (22, 1)], [12, 13, 20, 21, 23])
theorem fr_X_bath_36 : ∀ (n : Nat) (x1 : Int32) (x2 : Int32) (x4 : Int32) (x5 : Int32) (V : ai_V) (r : (Int32 × ai_V)), d_X_bath_36 n x1 x2 x4 x5 V = some r → Fr w_X_bath V r.2 := by
  intro n
  induction n with
  | zero =>
    intro x1 x2 x4 x5 V r h
    cases h
  | succ n ih =>
    intro x1 x2 x4 x5 V r h
    rw [d_X_bath_36] at h
    rcases ai_if h with ⟨-, h⟩ | ⟨-, h⟩
    · obtain rfl := Option.some.inj h
      exact Fr.rf
    · obtain ⟨q1, hq1, h⟩ := ai_bd h
      have gq1 : Fr w_X_bath V q1 := (Fr.tr Fr.rf (fr_Wheel_pass_15_19 _ _ _ _ hq1) rfl)
      rcases ai_if h with ⟨-, h⟩ | ⟨-, h⟩
      · exact Fr.tr gq1 (ih _ _ _ _ _ _ h) rfl
      · obtain ⟨q2, hq2, h⟩ := ai_bd h
        have gq2 : Fr w_X_bath V q2 := (Fr.tr gq1 (fr_Row_tellOne _ _ _ hq2) rfl)
        obtain rfl := Option.some.inj h
        exact gq2
theorem fr_X_bath : ∀ (x1 : Int32) (x2 : Int32) (V : ai_V) (r : (Int32 × ai_V)), d_X_bath x1 x2 V = some r → Fr w_X_bath V r.2 := by
  intro x1 x2 V r h
  rw [d_X_bath] at h
  obtain ⟨q3, hq3, h⟩ := ai_bd h
  rcases ai_if h with ⟨-, h⟩ | ⟨-, h⟩
  · obtain rfl := Option.some.inj h
    exact Fr.rf
  · rcases ai_if h with ⟨-, h⟩ | ⟨-, h⟩
    · obtain rfl := Option.some.inj h
      exact Fr.rf
    · rcases ai_if h with ⟨-, h⟩ | ⟨-, h⟩
      · obtain ⟨q4, hq4, h⟩ := ai_bd h
        have gq4 : Fr w_X_bath V q4 := (Fr.tr Fr.rf (fr_X_asked _ _ hq4) rfl)
        exact Fr.tr gq4 (fr_X_bath_36 _ _ _ _ _ _ _ h) rfl
      · obtain rfl := Option.some.inj h
        exact Fr.rf
def w_X_shares : Fw := ([(22, 1)], [23])
theorem fr_X_shares_69 {F11 : Int32 → Int32 → ai_V → Option (Int32 × ai_V)} (hF11 : ∀ y0 y1 V r, F11 y0 y1 V = some r → Fr w_X_shares V r.2) : ∀ (x2 : Int32) (s0 : Int32) (s1 : Int32) (V : ai_V) (r : (Int32 × ai_V)), d_X_shares_69 F11 x2 s0 s1 V = some r → Fr w_X_shares V r.2 := by
  intro x2 s0 s1 V r h
  rw [d_X_shares_69] at h
  exact Fr.tr Fr.rf (hF11 _ _ _ _ h) rfl
theorem fr_X_shares_11 : ∀ (n : Nat) (x1 : Int32) (x2 : Int32) (V : ai_V) (r : (Int32 × ai_V)), d_X_shares_11 n x1 x2 V = some r → Fr w_X_shares V r.2 := by
  intro n
  induction n with
  | zero =>
    intro x1 x2 V r h
    cases h
  | succ n ih =>
    intro x1 x2 V r h
    rw [d_X_shares_11] at h
    rcases ai_if h with ⟨-, h⟩ | ⟨-, h⟩
    · obtain ⟨q1, hq1, h⟩ := ai_bd h
      have gq1 : Fr w_X_shares V q1 := (Fr.tr Fr.rf (fr_Row_add _ _ _ hq1) rfl)
      obtain ⟨q2, hq2, h⟩ := ai_bd h
      obtain rfl := Option.some.inj h
      exact gq1
    · obtain ⟨q3, hq3, h⟩ := ai_bd h
      obtain ⟨q4, hq4, h⟩ := ai_bd h
      obtain ⟨q5, hq5, h⟩ := ai_bd h
      have gq5 : Fr w_X_shares V q5 := (Fr.tr Fr.rf (fr_Row_add _ _ _ hq5) rfl)
      rcases ai_if h with ⟨-, h⟩ | ⟨-, h⟩
      · exact Fr.tr gq5 (fr_X_shares_69 ih _ _ _ _ _ h) rfl
      · exact Fr.tr gq5 (fr_X_shares_69 ih _ _ _ _ _ h) rfl
theorem fr_X_shares : ∀ (V : ai_V) (r : (Int32 × ai_V)), d_X_shares V = some r → Fr w_X_shares V r.2 := by
  intro V r h
  rw [d_X_shares] at h
  obtain ⟨q6, hq6, h⟩ := ai_bd h
  have gq6 : Fr w_X_shares V q6 := (Fr.tr Fr.rf (fr_Row_clear _ _ hq6) rfl)
  exact Fr.tr gq6 (fr_X_shares_11 _ _ _ _ _ h) rfl
def w_X_fairdue : Fw := ([(22, 1)], [23])
theorem fr_X_fairdue_3 : ∀ (n : Nat) (x1 : Int32) (V : ai_V) (r : (Int32 × ai_V)), d_X_fairdue_3 n x1 V = some r → Fr w_X_fairdue V r.2 := by
  intro n
  induction n with
  | zero =>
    intro x1 V r h
    cases h
  | succ n ih =>
    intro x1 V r h
    rw [d_X_fairdue_3] at h
    rcases ai_if h with ⟨-, h⟩ | ⟨-, h⟩
    · obtain ⟨q1, hq1, h⟩ := ai_bd h
      have gq1 : Fr w_X_fairdue V q1 := (Fr.tr Fr.rf (fr_Row_tellOne _ _ _ hq1) rfl)
      obtain rfl := Option.some.inj h
      exact gq1
    · obtain ⟨q2, hq2, h⟩ := ai_bd h
      rcases ai_if h with ⟨-, h⟩ | ⟨-, h⟩
      · exact Fr.tr Fr.rf (ih _ _ _ h) rfl
      · obtain ⟨q3, hq3, h⟩ := ai_bd h
        have gq3 : Fr w_X_fairdue V q3 := (Fr.tr Fr.rf (fr_Row_tellOne _ _ _ hq3) rfl)
        obtain rfl := Option.some.inj h
        exact gq3
theorem fr_X_fairdue : ∀ (V : ai_V) (r : (Int32 × ai_V)), d_X_fairdue V = some r → Fr w_X_fairdue V r.2 := by
  intro V r h
  rw [d_X_fairdue] at h
  exact Fr.tr Fr.rf (fr_X_fairdue_3 _ _ _ _ h) rfl
def w_X_dryByOrder : Fw := ([(15, 4), (15, 5), (19, 0), (19, 1), (19, 2)], [20, 21])
theorem fr_X_dryByOrder_11 : ∀ (n : Nat) (x2 : Int32) (x4 : Int32) (x5 : Int32) (V : ai_V) (r : (Int32 × ai_V)), d_X_dryByOrder_11 n x2 x4 x5 V = some r → Fr w_X_dryByOrder V r.2 := by
  intro n
  induction n with
  | zero =>
    intro x2 x4 x5 V r h
    cases h
  | succ n ih =>
    intro x2 x4 x5 V r h
    rw [d_X_dryByOrder_11] at h
    rcases ai_if h with ⟨-, h⟩ | ⟨-, h⟩
    · obtain rfl := Option.some.inj h
      exact Fr.rf
    · obtain ⟨q1, hq1, h⟩ := ai_bd h
      have gq1 : Fr w_X_dryByOrder V q1 := (Fr.tr Fr.rf (fr_Wheel_take_15_19_9 _ _ hq1) rfl)
      exact Fr.tr (Fr.si gq1 rfl) (ih _ _ _ _ _ h) rfl
theorem fr_X_dryByOrder : ∀ (x2 : Int32) (V : ai_V) (r : (Int32 × ai_V)), d_X_dryByOrder x2 V = some r → Fr w_X_dryByOrder V r.2 := by
  intro x2 V r h
  rw [d_X_dryByOrder] at h
  obtain ⟨q2, hq2, h⟩ := ai_bd h
  have gq2 : Fr w_X_dryByOrder V q2 := (Fr.tr Fr.rf (fr_X_asked _ _ hq2) rfl)
  exact Fr.tr gq2 (fr_X_dryByOrder_11 _ _ _ _ _ _ h) rfl
def w_House_orderInto_3_82 : Fw := ([], [82])
theorem fr_House_orderInto_3_82_77 {F6 : Int32 → Int32 → Int32 → Int32 → ai_V → Option ai_V} {F16 : Int32 → Int32 → Int32 → Int32 → Int32 → ai_V → Option ai_V} (hF6 : ∀ y0 y1 y2 y3 V r, F6 y0 y1 y2 y3 V = some r → Fr w_House_orderInto_3_82 V r) (hF16 : ∀ y0 y1 y2 y3 y4 V r, F16 y0 y1 y2 y3 y4 V = some r → Fr w_House_orderInto_3_82 V r) : ∀ (x2 : Int32) (x3 : Int32) (x4 : Int32) (x5 : Int32) (x6 : Int32) (V : ai_V) (r : ai_V), d_House_orderInto_3_82_77 F6 F16 x2 x3 x4 x5 x6 V = some r → Fr w_House_orderInto_3_82 V r := by
  intro x2 x3 x4 x5 x6 V r h
  rw [d_House_orderInto_3_82_77] at h
  exact Fr.tr Fr.rf (hF16 _ _ _ _ _ _ _ h) rfl
theorem fr_House_orderInto_3_82_47 {F6 : Int32 → Int32 → Int32 → Int32 → ai_V → Option ai_V} {F16 : Int32 → Int32 → Int32 → Int32 → Int32 → ai_V → Option ai_V} (hF6 : ∀ y0 y1 y2 y3 V r, F6 y0 y1 y2 y3 V = some r → Fr w_House_orderInto_3_82 V r) (hF16 : ∀ y0 y1 y2 y3 y4 V r, F16 y0 y1 y2 y3 y4 V = some r → Fr w_House_orderInto_3_82 V r) : ∀ (x2 : Int32) (x3 : Int32) (x4 : Int32) (x5 : Int32) (x6 : Int32) (s0 : Int32) (V : ai_V) (r : ai_V), d_House_orderInto_3_82_47 F6 F16 x2 x3 x4 x5 x6 s0 V = some r → Fr w_House_orderInto_3_82 V r := by
  intro x2 x3 x4 x5 x6 s0 V r h
  rw [d_House_orderInto_3_82_47] at h
  rcases ai_if h with ⟨-, h⟩ | ⟨-, h⟩
  · rcases ai_if h with ⟨-, h⟩ | ⟨-, h⟩
    · exact Fr.tr Fr.rf (fr_House_orderInto_3_82_77 hF6 hF16 _ _ _ _ _ _ _ h) rfl
    · rcases ai_if h with ⟨-, h⟩ | ⟨-, h⟩
      · exact Fr.tr Fr.rf (fr_House_orderInto_3_82_77 hF6 hF16 _ _ _ _ _ _ _ h) rfl
      · rcases ai_if h with ⟨-, h⟩ | ⟨-, h⟩
        · exact Fr.tr (Fr.sa Fr.rf rfl) (fr_House_orderInto_3_82_77 hF6 hF16 _ _ _ _ _ _ _ h) rfl
        · cases h
  · cases h
theorem fr_House_orderInto_3_82_16 {F6 : Int32 → Int32 → Int32 → Int32 → ai_V → Option ai_V} (hF6 : ∀ y0 y1 y2 y3 V r, F6 y0 y1 y2 y3 V = some r → Fr w_House_orderInto_3_82 V r) : ∀ (n : Nat) (x2 : Int32) (x3 : Int32) (x4 : Int32) (x5 : Int32) (x6 : Int32) (V : ai_V) (r : ai_V), d_House_orderInto_3_82_16 F6 n x2 x3 x4 x5 x6 V = some r → Fr w_House_orderInto_3_82 V r := by
  intro n
  induction n with
  | zero =>
    intro x2 x3 x4 x5 x6 V r h
    cases h
  | succ n ih =>
    intro x2 x3 x4 x5 x6 V r h
    rw [d_House_orderInto_3_82_16] at h
    rcases ai_if h with ⟨-, h⟩ | ⟨-, h⟩
    · exact Fr.tr Fr.rf (hF6 _ _ _ _ _ _ h) rfl
    · rcases ai_if h with ⟨-, h⟩ | ⟨-, h⟩
      · rcases ai_if h with ⟨-, h⟩ | ⟨-, h⟩
        · exact Fr.tr Fr.rf (fr_House_orderInto_3_82_47 hF6 ih _ _ _ _ _ _ _ _ h) rfl
        · exact Fr.tr Fr.rf (fr_House_orderInto_3_82_47 hF6 ih _ _ _ _ _ _ _ _ h) rfl
      · exact Fr.tr Fr.rf (fr_House_orderInto_3_82_47 hF6 ih _ _ _ _ _ _ _ _ h) rfl
theorem fr_House_orderInto_3_82_6 : ∀ (n : Nat) (x2 : Int32) (x3 : Int32) (x4 : Int32) (x5 : Int32) (V : ai_V) (r : ai_V), d_House_orderInto_3_82_6 n x2 x3 x4 x5 V = some r → Fr w_House_orderInto_3_82 V r := by
  intro n
  induction n with
  | zero =>
    intro x2 x3 x4 x5 V r h
    cases h
  | succ n ih =>
    intro x2 x3 x4 x5 V r h
    rw [d_House_orderInto_3_82_6] at h
    rcases ai_if h with ⟨-, h⟩ | ⟨-, h⟩
    · obtain rfl := Option.some.inj h
      exact Fr.rf
    · exact Fr.tr Fr.rf (fr_House_orderInto_3_82_16 ih _ _ _ _ _ _ _ _ h) rfl
theorem fr_House_orderInto_3_82 : ∀ (x2 : Int32) (x3 : Int32) (V : ai_V) (r : ai_V), d_House_orderInto_3_82 x2 x3 V = some r → Fr w_House_orderInto_3_82 V r := by
  intro x2 x3 V r h
  rw [d_House_orderInto_3_82] at h
  exact Fr.tr Fr.rf (fr_House_orderInto_3_82_6 _ _ _ _ _ _ _ h) rfl
def w_Wheel_take_15_19_82 : Fw := ([(15, 4), (15, 5), (19, 1)], [21])
theorem fr_Wheel_take_15_19_82_105 {F18 : Int32 → Int32 → ai_V → Option ai_V} (hF18 : ∀ y0 y1 V r, F18 y0 y1 V = some r → Fr w_Wheel_take_15_19_82 V r) : ∀ (x3 : Int32) (x4 : Int32) (V : ai_V) (r : ai_V), d_Wheel_take_15_19_82_105 F18 x3 x4 V = some r → Fr w_Wheel_take_15_19_82 V r := by
  intro x3 x4 V r h
  rw [d_Wheel_take_15_19_82_105] at h
  exact Fr.tr Fr.rf (hF18 _ _ _ _ h) rfl
theorem fr_Wheel_take_15_19_82_18 : ∀ (n : Nat) (x3 : Int32) (x4 : Int32) (V : ai_V) (r : ai_V), d_Wheel_take_15_19_82_18 n x3 x4 V = some r → Fr w_Wheel_take_15_19_82 V r := by
  intro n
  induction n with
  | zero =>
    intro x3 x4 V r h
    cases h
  | succ n ih =>
    intro x3 x4 V r h
    rw [d_Wheel_take_15_19_82_18] at h
    rcases ai_if h with ⟨-, h⟩ | ⟨-, h⟩
    · obtain rfl := Option.some.inj h
      exact Fr.rf
    · rcases ai_if h with ⟨-, h⟩ | ⟨-, h⟩
      · obtain ⟨q1, hq1, h⟩ := ai_bd h
        rcases ai_if h with ⟨-, h⟩ | ⟨-, h⟩
        · rcases ai_if h with ⟨-, h⟩ | ⟨-, h⟩
          · rcases ai_if h with ⟨-, h⟩ | ⟨-, h⟩
            · exact Fr.tr (Fr.si (Fr.si (Fr.sa Fr.rf rfl) rfl) rfl) (fr_Wheel_take_15_19_82_105 ih _ _ _ _ h) rfl
            · cases h
          · cases h
        · exact Fr.tr (Fr.si Fr.rf rfl) (fr_Wheel_take_15_19_82_105 ih _ _ _ _ h) rfl
      · cases h
theorem fr_Wheel_take_15_19_82 : ∀ (V : ai_V) (r : ai_V), d_Wheel_take_15_19_82 V = some r → Fr w_Wheel_take_15_19_82 V r := by
  intro V r h
  rw [d_Wheel_take_15_19_82] at h
  obtain ⟨q2, hq2, h⟩ := ai_bd h
  exact Fr.tr (Fr.si (Fr.si Fr.rf rfl) rfl) (fr_Wheel_take_15_19_82_18 _ _ _ _ _ h) rfl
def w_X_dryByOrder_0_82 : Fw := ([(15, 4), (15, 5), (19, 0), (19, 1), (19, 2)], [20, 21])
theorem fr_X_dryByOrder_0_82_11 : ∀ (n : Nat) (x2 : Int32) (x4 : Int32) (x5 : Int32) (V : ai_V) (r : (Int32 × ai_V)), d_X_dryByOrder_0_82_11 n x2 x4 x5 V = some r → Fr w_X_dryByOrder_0_82 V r.2 := by
  intro n
  induction n with
  | zero =>
    intro x2 x4 x5 V r h
    cases h
  | succ n ih =>
    intro x2 x4 x5 V r h
    rw [d_X_dryByOrder_0_82_11] at h
    rcases ai_if h with ⟨-, h⟩ | ⟨-, h⟩
    · obtain rfl := Option.some.inj h
      exact Fr.rf
    · obtain ⟨q1, hq1, h⟩ := ai_bd h
      have gq1 : Fr w_X_dryByOrder_0_82 V q1 := (Fr.tr Fr.rf (fr_Wheel_take_15_19_82 _ _ hq1) rfl)
      exact Fr.tr (Fr.si gq1 rfl) (ih _ _ _ _ _ h) rfl
theorem fr_X_dryByOrder_0_82 : ∀ (x2 : Int32) (V : ai_V) (r : (Int32 × ai_V)), d_X_dryByOrder_0_82 x2 V = some r → Fr w_X_dryByOrder_0_82 V r.2 := by
  intro x2 V r h
  rw [d_X_dryByOrder_0_82] at h
  obtain ⟨q2, hq2, h⟩ := ai_bd h
  have gq2 : Fr w_X_dryByOrder_0_82 V q2 := (Fr.tr Fr.rf (fr_X_asked _ _ hq2) rfl)
  exact Fr.tr gq2 (fr_X_dryByOrder_0_82_11 _ _ _ _ _ _ h) rfl
def w_X_changed : Fw := ([(15, 4), (15, 5), (19, 0), (19, 1), (19, 2), (22, 1)], [20, 21, 23, 82])
theorem fr_X_changed_38 : ∀ (V : ai_V) (r : (Int32 × ai_V)), d_X_changed_38 V = some r → Fr w_X_changed V r.2 := by
  intro V r h
  rw [d_X_changed_38] at h
  obtain rfl := Option.some.inj h
  exact Fr.rf
theorem fr_X_changed : ∀ (x1 : Int32) (x2 : Int32) (x3 : Int32) (V : ai_V) (r : (Int32 × ai_V)), d_X_changed x1 x2 x3 V = some r → Fr w_X_changed V r.2 := by
  intro x1 x2 x3 V r h
  rw [d_X_changed] at h
  obtain ⟨q1, hq1, h⟩ := ai_bd h
  rcases ai_if h with ⟨-, h⟩ | ⟨-, h⟩
  · exact Fr.tr Fr.rf (fr_X_changed_38 _ _ h) rfl
  · obtain ⟨q2, hq2, h⟩ := ai_bd h
    rcases ai_if h with ⟨-, h⟩ | ⟨-, h⟩
    · exact Fr.tr Fr.rf (fr_X_changed_38 _ _ h) rfl
    · rcases ai_if h with ⟨-, h⟩ | ⟨-, h⟩
      · exact Fr.tr Fr.rf (fr_X_changed_38 _ _ h) rfl
      · rcases ai_if h with ⟨-, h⟩ | ⟨-, h⟩
        · exact Fr.tr Fr.rf (fr_X_changed_38 _ _ h) rfl
        · rcases ai_if h with ⟨-, h⟩ | ⟨-, h⟩
          · obtain ⟨q3, hq3, h⟩ := ai_bd h
            have gq3 : Fr w_X_changed V q3.2 := (Fr.tr Fr.rf (fr_X_dryByOrder _ _ _ hq3) rfl)
            obtain ⟨q4, hq4, h⟩ := ai_bd h
            have gq4 : Fr w_X_changed V q4 := (Fr.tr gq3 (fr_House_orderInto_3_82 _ _ _ _ hq4) rfl)
            obtain ⟨q5, hq5, h⟩ := ai_bd h
            have gq5 : Fr w_X_changed V q5.2 := (Fr.tr gq4 (fr_X_dryByOrder_0_82 _ _ _ hq5) rfl)
            obtain ⟨q6, hq6, h⟩ := ai_bd h
            have gq6 : Fr w_X_changed V q6 := (Fr.tr gq5 (fr_Row_tellTwo _ _ _ _ hq6) rfl)
            obtain rfl := Option.some.inj h
            exact gq6
          · exact Fr.tr Fr.rf (fr_X_changed_38 _ _ h) rfl
def w_X_lasts : Fw := ([(15, 2), (15, 3), (15, 4), (15, 5), (19, 0), (19, 1), (19, 2), (22, 1)], [12, 13, 20, 21, 23])
theorem fr_X_lasts_7 : ∀ (n : Nat) (x2 : Int32) (V : ai_V) (r : (Int32 × ai_V)), d_X_lasts_7 n x2 V = some r → Fr w_X_lasts V r.2 := by
  intro n
  induction n with
  | zero =>
    intro x2 V r h
    cases h
  | succ n ih =>
    intro x2 V r h
    rw [d_X_lasts_7] at h
    rcases ai_if h with ⟨-, h⟩ | ⟨-, h⟩
    · obtain rfl := Option.some.inj h
      exact Fr.rf
    · obtain ⟨q1, hq1, h⟩ := ai_bd h
      have gq1 : Fr w_X_lasts V q1 := (Fr.tr Fr.rf (fr_Wheel_pass_15_19 _ _ _ _ hq1) rfl)
      rcases ai_if h with ⟨-, h⟩ | ⟨-, h⟩
      · exact Fr.tr gq1 (ih _ _ _ h) rfl
      · obtain ⟨q2, hq2, h⟩ := ai_bd h
        have gq2 : Fr w_X_lasts V q2 := (Fr.tr gq1 (fr_Row_tellOne _ _ _ hq2) rfl)
        obtain rfl := Option.some.inj h
        exact gq2
theorem fr_X_lasts : ∀ (V : ai_V) (r : (Int32 × ai_V)), d_X_lasts V = some r → Fr w_X_lasts V r.2 := by
  intro V r h
  rw [d_X_lasts] at h
  obtain ⟨q3, hq3, h⟩ := ai_bd h
  have gq3 : Fr w_X_lasts V q3 := (Fr.tr Fr.rf (fr_X_asked _ _ hq3) rfl)
  exact Fr.tr gq3 (fr_X_lasts_7 _ _ _ _ h) rfl
def w_Arr_fill : Fw := ([], [71])
theorem fr_Arr_fill_5 : ∀ (n : Nat) (x1 : Int32) (x2 : Int32) (x3 : Int32) (V : ai_V) (r : ai_V), d_Arr_fill_5 n x1 x2 x3 V = some r → Fr w_Arr_fill V r := by
  intro n
  induction n with
  | zero =>
    intro x1 x2 x3 V r h
    cases h
  | succ n ih =>
    intro x1 x2 x3 V r h
    rw [d_Arr_fill_5] at h
    rcases ai_if h with ⟨-, h⟩ | ⟨-, h⟩
    · obtain rfl := Option.some.inj h
      exact Fr.rf
    · rcases ai_if h with ⟨-, h⟩ | ⟨-, h⟩
      · exact Fr.tr (Fr.sa Fr.rf rfl) (ih _ _ _ _ _ h) rfl
      · cases h
theorem fr_Arr_fill : ∀ (x1 : Int32) (V : ai_V) (r : ai_V), d_Arr_fill x1 V = some r → Fr w_Arr_fill V r := by
  intro x1 V r h
  rw [d_Arr_fill] at h
  exact Fr.tr Fr.rf (fr_Arr_fill_5 _ _ _ _ _ _ h) rfl
def w_Arr_fill_70 : Fw := ([], [70])
theorem fr_Arr_fill_70_5 : ∀ (n : Nat) (x1 : Int32) (x2 : Int32) (x3 : Int32) (V : ai_V) (r : ai_V), d_Arr_fill_70_5 n x1 x2 x3 V = some r → Fr w_Arr_fill_70 V r := by
  intro n
  induction n with
  | zero =>
    intro x1 x2 x3 V r h
    cases h
  | succ n ih =>
    intro x1 x2 x3 V r h
    rw [d_Arr_fill_70_5] at h
    rcases ai_if h with ⟨-, h⟩ | ⟨-, h⟩
    · obtain rfl := Option.some.inj h
      exact Fr.rf
    · rcases ai_if h with ⟨-, h⟩ | ⟨-, h⟩
      · exact Fr.tr (Fr.sa Fr.rf rfl) (ih _ _ _ _ _ h) rfl
      · cases h
theorem fr_Arr_fill_70 : ∀ (x1 : Int32) (V : ai_V) (r : ai_V), d_Arr_fill_70 x1 V = some r → Fr w_Arr_fill_70 V r := by
  intro x1 V r h
  rw [d_Arr_fill_70] at h
  exact Fr.tr Fr.rf (fr_Arr_fill_70_5 _ _ _ _ _ _ h) rfl
def w_Wheel_together : Fw := ([], [12, 13])
theorem fr_Wheel_together : ∀ (x1 : Int32) (x2 : Int32) (V : ai_V) (r : (Int32 × ai_V)), d_Wheel_together x1 x2 V = some r → Fr w_Wheel_together V r.2 := by
  intro x1 x2 V r h
  rw [d_Wheel_together] at h
  obtain ⟨q1, hq1, h⟩ := ai_bd h
  have gq1 : Fr w_Wheel_together V q1.2 := (Fr.tr Fr.rf (fr_Wheel_pailsNow _ _ _ _ hq1) rfl)
  obtain ⟨q2, hq2, h⟩ := ai_bd h
  have gq2 : Fr w_Wheel_together V q2.2 := (Fr.tr gq1 (fr_Wheel_pailsNow _ _ _ _ hq2) rfl)
  obtain rfl := Option.some.inj h
  exact gq2
def w_Pairing_part : Fw := ([(69, 2)], [12, 13, 70, 71])
theorem fr_Pairing_part_25 {T : Int32 → Int32 → Int32 → ai_V → Option ai_V} (hT : ∀ y0 y1 y2 V r, T y0 y1 y2 V = some r → Fr w_Pairing_part V r) : ∀ (x2 : Int32) (V : ai_V) (r : ai_V), d_Pairing_part_25 T x2 V = some r → Fr w_Pairing_part V r := by
  intro x2 V r h
  rw [d_Pairing_part_25] at h
  rcases ai_if h with ⟨-, h⟩ | ⟨-, h⟩
  · obtain rfl := Option.some.inj h
    exact Fr.rf
  · obtain rfl := Option.some.inj h
    exact (Fr.cp (Fr.si Fr.rf rfl) rfl)
theorem fr_Pairing_part_171 {T : Int32 → Int32 → Int32 → ai_V → Option ai_V} {F88 : Int32 → Int32 → Int32 → Int32 → Int32 → ai_V → Option ai_V} (hT : ∀ y0 y1 y2 V r, T y0 y1 y2 V = some r → Fr w_Pairing_part V r) (hF88 : ∀ y0 y1 y2 y3 y4 V r, F88 y0 y1 y2 y3 y4 V = some r → Fr w_Pairing_part V r) : ∀ (x2 : Int32) (x3 : Int32) (x4 : Int32) (x5 : Int32) (x6 : Int32) (V : ai_V) (r : ai_V), d_Pairing_part_171 T F88 x2 x3 x4 x5 x6 V = some r → Fr w_Pairing_part V r := by
  intro x2 x3 x4 x5 x6 V r h
  rw [d_Pairing_part_171] at h
  exact Fr.tr Fr.rf (hF88 _ _ _ _ _ _ _ h) rfl
theorem fr_Pairing_part_88 {T : Int32 → Int32 → Int32 → ai_V → Option ai_V} (hT : ∀ y0 y1 y2 V r, T y0 y1 y2 V = some r → Fr w_Pairing_part V r) : ∀ (n : Nat) (x2 : Int32) (x3 : Int32) (x4 : Int32) (x5 : Int32) (x6 : Int32) (V : ai_V) (r : ai_V), d_Pairing_part_88 T n x2 x3 x4 x5 x6 V = some r → Fr w_Pairing_part V r := by
  intro n
  induction n with
  | zero =>
    intro x2 x3 x4 x5 x6 V r h
    cases h
  | succ n ih =>
    intro x2 x3 x4 x5 x6 V r h
    rw [d_Pairing_part_88] at h
    rcases ai_if h with ⟨-, h⟩ | ⟨-, h⟩
    · obtain rfl := Option.some.inj h
      exact Fr.rf
    · rcases ai_if h with ⟨-, h⟩ | ⟨-, h⟩
      · exact Fr.tr Fr.rf (fr_Pairing_part_171 hT ih _ _ _ _ _ _ _ h) rfl
      · rcases ai_if h with ⟨-, h⟩ | ⟨-, h⟩
        · rcases ai_if h with ⟨-, h⟩ | ⟨-, h⟩
          · obtain ⟨q1, hq1, h⟩ := ai_bd h
            have gq1 : Fr w_Pairing_part V q1.2 := (Fr.tr (Fr.sa (Fr.sa Fr.rf rfl) rfl) (fr_Wheel_together _ _ _ _ hq1) rfl)
            obtain ⟨q2, hq2, h⟩ := ai_bd h
            have gq2 : Fr w_Pairing_part V q2 := (Fr.tr gq1 (hT _ _ _ _ _ hq2) rfl)
            rcases ai_if h with ⟨-, h⟩ | ⟨-, h⟩
            · rcases ai_if h with ⟨-, h⟩ | ⟨-, h⟩
              · exact Fr.tr (Fr.sa (Fr.sa gq2 rfl) rfl) (fr_Pairing_part_171 hT ih _ _ _ _ _ _ _ h) rfl
              · cases h
            · cases h
          · cases h
        · cases h
theorem fr_Pairing_part_82 {T : Int32 → Int32 → Int32 → ai_V → Option ai_V} (hT : ∀ y0 y1 y2 V r, T y0 y1 y2 V = some r → Fr w_Pairing_part V r) : ∀ (x2 : Int32) (x3 : Int32) (x4 : Int32) (x5 : Int32) (V : ai_V) (r : ai_V), d_Pairing_part_82 T x2 x3 x4 x5 V = some r → Fr w_Pairing_part V r := by
  intro x2 x3 x4 x5 V r h
  rw [d_Pairing_part_82] at h
  exact Fr.tr Fr.rf (fr_Pairing_part_88 hT _ _ _ _ _ _ _ _ h) rfl
theorem fr_Pairing_part_B {T : Int32 → Int32 → Int32 → ai_V → Option ai_V} (hT : ∀ y0 y1 y2 V r, T y0 y1 y2 V = some r → Fr w_Pairing_part V r) : ∀ (x1 : Int32) (x2 : Int32) (x3 : Int32) (V : ai_V) (r : ai_V), d_Pairing_part_B T x1 x2 x3 V = some r → Fr w_Pairing_part V r := by
  intro x1 x2 x3 V r h
  rw [d_Pairing_part_B] at h
  obtain ⟨q3, hq3, h⟩ := ai_bd h
  rcases ai_if h with ⟨-, h⟩ | ⟨-, h⟩
  · exact Fr.tr Fr.rf (fr_Pairing_part_25 hT _ _ _ h) rfl
  · rcases ai_if h with ⟨-, h⟩ | ⟨-, h⟩
    · obtain ⟨q4, hq4, h⟩ := ai_bd h
      rcases ai_if h with ⟨-, h⟩ | ⟨-, h⟩
      · exact Fr.tr Fr.rf (fr_Pairing_part_82 hT _ _ _ _ _ _ h) rfl
      · obtain ⟨q5, hq5, h⟩ := ai_bd h
        have gq5 : Fr w_Pairing_part V q5 := (Fr.tr Fr.rf (hT _ _ _ _ _ hq5) rfl)
        exact Fr.tr gq5 (fr_Pairing_part_82 hT _ _ _ _ _ _ h) rfl
    · exact Fr.tr Fr.rf (fr_Pairing_part_25 hT _ _ _ h) rfl
theorem fr_Pairing_part_R : ∀ (n : Nat) (x1 : Int32) (x2 : Int32) (x3 : Int32) (V : ai_V) (r : ai_V), d_Pairing_part_R n x1 x2 x3 V = some r → Fr w_Pairing_part V r := by
  intro n
  induction n with
  | zero =>
    intro x1 x2 x3 V r h
    cases h
  | succ n ih =>
    intro x1 x2 x3 V r h
    rw [d_Pairing_part_R] at h
    exact Fr.tr Fr.rf (fr_Pairing_part_B ih _ _ _ _ _ h) rfl
theorem fr_Pairing_part : ∀ (x0 : Int32) (x1 : Int32) (x2 : Int32) (V : ai_V) (r : ai_V), d_Pairing_part x0 x1 x2 V = some r → Fr w_Pairing_part V r := by
  intro x0 x1 x2 V r h
  rw [d_Pairing_part] at h
  exact Fr.tr Fr.rf (fr_Pairing_part_R _ _ _ _ _ _ h) rfl
def w_Pairing_partAll : Fw := ([(69, 2)], [12, 13, 70, 71])
theorem fr_Pairing_partAll : ∀ (x1 : Int32) (V : ai_V) (r : ai_V), d_Pairing_partAll x1 V = some r → Fr w_Pairing_partAll V r := by
  intro x1 V r h
  rw [d_Pairing_partAll] at h
  obtain ⟨q1, hq1, h⟩ := ai_bd h
  have gq1 : Fr w_Pairing_partAll V q1 := (Fr.tr (Fr.si Fr.rf rfl) (fr_Arr_fill _ _ _ hq1) rfl)
  obtain ⟨q2, hq2, h⟩ := ai_bd h
  have gq2 : Fr w_Pairing_partAll V q2 := (Fr.tr gq1 (fr_Arr_fill_70 _ _ _ hq2) rfl)
  obtain ⟨q3, hq3, h⟩ := ai_bd h
  have gq3 : Fr w_Pairing_partAll V q3 := (Fr.tr gq2 (fr_Pairing_part _ _ _ _ _ hq3) rfl)
  obtain rfl := Option.some.inj h
  exact gq3
def w_X_pairs : Fw := ([(22, 1), (69, 2)], [12, 13, 23, 70, 71])
theorem fr_X_pairs_30 : ∀ (n : Nat) (x2 : Int32) (V : ai_V) (r : (Int32 × ai_V)), d_X_pairs_30 n x2 V = some r → Fr w_X_pairs V r.2 := by
  intro n
  induction n with
  | zero =>
    intro x2 V r h
    cases h
  | succ n ih =>
    intro x2 V r h
    rw [d_X_pairs_30] at h
    rcases ai_if h with ⟨-, h⟩ | ⟨-, h⟩
    · obtain rfl := Option.some.inj h
      exact Fr.rf
    · rcases ai_if h with ⟨-, h⟩ | ⟨-, h⟩
      · obtain ⟨q1, hq1, h⟩ := ai_bd h
        have gq1 : Fr w_X_pairs V q1 := (Fr.tr Fr.rf (fr_Row_add _ _ _ hq1) rfl)
        exact Fr.tr gq1 (ih _ _ _ h) rfl
      · cases h
theorem fr_X_pairs : ∀ (x1 : Int32) (V : ai_V) (r : (Int32 × ai_V)), d_X_pairs x1 V = some r → Fr w_X_pairs V r.2 := by
  intro x1 V r h
  rw [d_X_pairs] at h
  obtain ⟨q2, hq2, h⟩ := ai_bd h
  rcases ai_if h with ⟨-, h⟩ | ⟨-, h⟩
  · obtain ⟨q3, hq3, h⟩ := ai_bd h
    have gq3 : Fr w_X_pairs V q3 := (Fr.tr Fr.rf (fr_Pairing_partAll _ _ _ hq3) rfl)
    obtain ⟨q4, hq4, h⟩ := ai_bd h
    have gq4 : Fr w_X_pairs V q4 := (Fr.tr gq3 (fr_Row_clear _ _ hq4) rfl)
    exact Fr.tr gq4 (fr_X_pairs_30 _ _ _ _ h) rfl
  · obtain rfl := Option.some.inj h
    exact Fr.rf
def w_X_enough : Fw := ([(22, 1)], [12, 13, 23])
theorem fr_X_enough_108 {F27 : Int32 → Int32 → Int32 → Int32 → ai_V → Option (Int32 × ai_V)} {F45 : Int32 → Int32 → Int32 → Int32 → Int32 → ai_V → Option (Int32 × ai_V)} (hF27 : ∀ y0 y1 y2 y3 V r, F27 y0 y1 y2 y3 V = some r → Fr w_X_enough V r.2) (hF45 : ∀ y0 y1 y2 y3 y4 V r, F45 y0 y1 y2 y3 y4 V = some r → Fr w_X_enough V r.2) : ∀ (x1 : Int32) (x2 : Int32) (x3 : Int32) (x4 : Int32) (x5 : Int32) (V : ai_V) (r : (Int32 × ai_V)), d_X_enough_108 F27 F45 x1 x2 x3 x4 x5 V = some r → Fr w_X_enough V r.2 := by
  intro x1 x2 x3 x4 x5 V r h
  rw [d_X_enough_108] at h
  exact Fr.tr Fr.rf (hF45 _ _ _ _ _ _ _ h) rfl
theorem fr_X_enough_45 {F27 : Int32 → Int32 → Int32 → Int32 → ai_V → Option (Int32 × ai_V)} (hF27 : ∀ y0 y1 y2 y3 V r, F27 y0 y1 y2 y3 V = some r → Fr w_X_enough V r.2) : ∀ (n : Nat) (x1 : Int32) (x2 : Int32) (x3 : Int32) (x4 : Int32) (x5 : Int32) (V : ai_V) (r : (Int32 × ai_V)), d_X_enough_45 F27 n x1 x2 x3 x4 x5 V = some r → Fr w_X_enough V r.2 := by
  intro n
  induction n with
  | zero =>
    intro x1 x2 x3 x4 x5 V r h
    cases h
  | succ n ih =>
    intro x1 x2 x3 x4 x5 V r h
    rw [d_X_enough_45] at h
    rcases ai_if h with ⟨-, h⟩ | ⟨-, h⟩
    · exact Fr.tr Fr.rf (hF27 _ _ _ _ _ _ h) rfl
    · obtain ⟨q1, hq1, h⟩ := ai_bd h
      have gq1 : Fr w_X_enough V q1.2 := (Fr.tr Fr.rf (fr_Wheel_together _ _ _ _ hq1) rfl)
      rcases ai_if h with ⟨-, h⟩ | ⟨-, h⟩
      · exact Fr.tr gq1 (fr_X_enough_108 hF27 ih _ _ _ _ _ _ _ h) rfl
      · rcases ai_if h with ⟨-, h⟩ | ⟨-, h⟩
        · exact Fr.tr gq1 (fr_X_enough_108 hF27 ih _ _ _ _ _ _ _ h) rfl
        · obtain ⟨q2, hq2, h⟩ := ai_bd h
          have gq2 : Fr w_X_enough V q2 := (Fr.tr gq1 (fr_Row_tellTwo _ _ _ _ hq2) rfl)
          exact Fr.tr gq2 (fr_X_enough_108 hF27 ih _ _ _ _ _ _ _ h) rfl
theorem fr_X_enough_27 : ∀ (n : Nat) (x1 : Int32) (x2 : Int32) (x3 : Int32) (x4 : Int32) (V : ai_V) (r : (Int32 × ai_V)), d_X_enough_27 n x1 x2 x3 x4 V = some r → Fr w_X_enough V r.2 := by
  intro n
  induction n with
  | zero =>
    intro x1 x2 x3 x4 V r h
    cases h
  | succ n ih =>
    intro x1 x2 x3 x4 V r h
    rw [d_X_enough_27] at h
    rcases ai_if h with ⟨-, h⟩ | ⟨-, h⟩
    · obtain ⟨q3, hq3, h⟩ := ai_bd h
      have gq3 : Fr w_X_enough V q3 := (Fr.tr Fr.rf (fr_Row_add _ _ _ hq3) rfl)
      obtain rfl := Option.some.inj h
      exact gq3
    · exact Fr.tr Fr.rf (fr_X_enough_45 ih _ _ _ _ _ _ _ _ h) rfl
theorem fr_X_enough : ∀ (x1 : Int32) (V : ai_V) (r : (Int32 × ai_V)), d_X_enough x1 V = some r → Fr w_X_enough V r.2 := by
  intro x1 V r h
  rw [d_X_enough] at h
  rcases ai_if h with ⟨-, h⟩ | ⟨-, h⟩
  · obtain rfl := Option.some.inj h
    exact Fr.rf
  · rcases ai_if h with ⟨-, h⟩ | ⟨-, h⟩
    · obtain ⟨q4, hq4, h⟩ := ai_bd h
      have gq4 : Fr w_X_enough V q4 := (Fr.tr Fr.rf (fr_Row_clear _ _ hq4) rfl)
      exact Fr.tr gq4 (fr_X_enough_27 _ _ _ _ _ _ _ h) rfl
    · obtain rfl := Option.some.inj h
      exact Fr.rf
def w_X_step : Fw := ([(22, 1)], [12, 13, 23])
theorem fr_X_step_70 {F20 : Int32 → Int32 → Int32 → Int32 → ai_V → Option (Int32 × ai_V)} (hF20 : ∀ y0 y1 y2 y3 V r, F20 y0 y1 y2 y3 V = some r → Fr w_X_step V r.2) : ∀ (x1 : Int32) (x2 : Int32) (x3 : Int32) (x4 : Int32) (V : ai_V) (r : (Int32 × ai_V)), d_X_step_70 F20 x1 x2 x3 x4 V = some r → Fr w_X_step V r.2 := by
  intro x1 x2 x3 x4 V r h
  rw [d_X_step_70] at h
  exact Fr.tr Fr.rf (hF20 _ _ _ _ _ _ h) rfl
theorem fr_X_step_56 {F20 : Int32 → Int32 → Int32 → Int32 → ai_V → Option (Int32 × ai_V)} (hF20 : ∀ y0 y1 y2 y3 V r, F20 y0 y1 y2 y3 V = some r → Fr w_X_step V r.2) : ∀ (x1 : Int32) (x2 : Int32) (x3 : Int32) (x4 : Int32) (s0 : Int32) (V : ai_V) (r : (Int32 × ai_V)), d_X_step_56 F20 x1 x2 x3 x4 s0 V = some r → Fr w_X_step V r.2 := by
  intro x1 x2 x3 x4 s0 V r h
  rw [d_X_step_56] at h
  rcases ai_if h with ⟨-, h⟩ | ⟨-, h⟩
  · exact Fr.tr Fr.rf (fr_X_step_70 hF20 _ _ _ _ _ _ h) rfl
  · exact Fr.tr Fr.rf (fr_X_step_70 hF20 _ _ _ _ _ _ h) rfl
theorem fr_X_step_20 : ∀ (n : Nat) (x1 : Int32) (x2 : Int32) (x3 : Int32) (x4 : Int32) (V : ai_V) (r : (Int32 × ai_V)), d_X_step_20 n x1 x2 x3 x4 V = some r → Fr w_X_step V r.2 := by
  intro n
  induction n with
  | zero =>
    intro x1 x2 x3 x4 V r h
    cases h
  | succ n ih =>
    intro x1 x2 x3 x4 V r h
    rw [d_X_step_20] at h
    rcases ai_if h with ⟨-, h⟩ | ⟨-, h⟩
    · rcases ai_if h with ⟨-, h⟩ | ⟨-, h⟩
      · obtain ⟨q1, hq1, h⟩ := ai_bd h
        have gq1 : Fr w_X_step V q1.2 := (Fr.tr Fr.rf (fr_Wheel_pailsNow _ _ _ _ hq1) rfl)
        obtain ⟨q2, hq2, h⟩ := ai_bd h
        have gq2 : Fr w_X_step V q2.2 := (Fr.tr gq1 (fr_Wheel_pailsNow _ _ _ _ hq2) rfl)
        obtain ⟨q3, hq3, h⟩ := ai_bd h
        have gq3 : Fr w_X_step V q3 := (Fr.tr gq2 (fr_Row_tellTwo _ _ _ _ hq3) rfl)
        obtain rfl := Option.some.inj h
        exact gq3
      · obtain rfl := Option.some.inj h
        exact Fr.rf
    · rcases ai_if h with ⟨-, h⟩ | ⟨-, h⟩
      · obtain ⟨q4, hq4, h⟩ := ai_bd h
        have gq4 : Fr w_X_step V q4.2 := (Fr.tr Fr.rf (fr_Wheel_together _ _ _ _ hq4) rfl)
        exact Fr.tr gq4 (fr_X_step_56 ih _ _ _ _ _ _ _ h) rfl
      · exact Fr.tr Fr.rf (fr_X_step_56 ih _ _ _ _ _ _ _ h) rfl
theorem fr_X_step : ∀ (x1 : Int32) (V : ai_V) (r : (Int32 × ai_V)), d_X_step x1 V = some r → Fr w_X_step V r.2 := by
  intro x1 V r h
  rw [d_X_step] at h
  obtain ⟨q5, hq5, h⟩ := ai_bd h
  rcases ai_if h with ⟨-, h⟩ | ⟨-, h⟩
  · exact Fr.tr Fr.rf (fr_X_step_20 _ _ _ _ _ _ _ h) rfl
  · obtain rfl := Option.some.inj h
    exact Fr.rf
def w_Worths_takeDigits : Fw := ([(72, 0)], [75])
theorem fr_Worths_takeDigits_58 {F10 : Int32 → Int32 → ai_V → Option ai_V} (hF10 : ∀ y0 y1 V r, F10 y0 y1 V = some r → Fr w_Worths_takeDigits V r) : ∀ (x3 : Int32) (x4 : Int32) (V : ai_V) (r : ai_V), d_Worths_takeDigits_58 F10 x3 x4 V = some r → Fr w_Worths_takeDigits V r := by
  intro x3 x4 V r h
  rw [d_Worths_takeDigits_58] at h
  exact Fr.tr Fr.rf (hF10 _ _ _ _ h) rfl
theorem fr_Worths_takeDigits_10 : ∀ (n : Nat) (x3 : Int32) (x4 : Int32) (V : ai_V) (r : ai_V), d_Worths_takeDigits_10 n x3 x4 V = some r → Fr w_Worths_takeDigits V r := by
  intro n
  induction n with
  | zero =>
    intro x3 x4 V r h
    cases h
  | succ n ih =>
    intro x3 x4 V r h
    rw [d_Worths_takeDigits_10] at h
    rcases ai_if h with ⟨-, h⟩ | ⟨-, h⟩
    · obtain rfl := Option.some.inj h
      exact Fr.rf
    · obtain ⟨q1, hq1, h⟩ := ai_bd h
      obtain ⟨q2, hq2, h⟩ := ai_bd h
      rcases ai_if h with ⟨-, h⟩ | ⟨-, h⟩
      · exact Fr.tr Fr.rf (fr_Worths_takeDigits_58 ih _ _ _ _ h) rfl
      · rcases ai_if h with ⟨-, h⟩ | ⟨-, h⟩
        · exact Fr.tr Fr.rf (fr_Worths_takeDigits_58 ih _ _ _ _ h) rfl
        · obtain ⟨q3, hq3, h⟩ := ai_bd h
          rcases ai_if h with ⟨-, h⟩ | ⟨-, h⟩
          · exact Fr.tr (Fr.sa Fr.rf rfl) (fr_Worths_takeDigits_58 ih _ _ _ _ h) rfl
          · cases h
theorem fr_Worths_takeDigits : ∀ (x2 : Int32) (V : ai_V) (r : ai_V), d_Worths_takeDigits x2 V = some r → Fr w_Worths_takeDigits V r := by
  intro x2 V r h
  rw [d_Worths_takeDigits] at h
  exact Fr.tr (Fr.si Fr.rf rfl) (fr_Worths_takeDigits_10 _ _ _ _ _ h) rfl
def w_X_values : Fw := ([(1, 1), (72, 0)], [75])
theorem fr_X_values_47 : ∀ (x2 : Int32) (V : ai_V) (r : (Int32 × ai_V)), d_X_values_47 x2 V = some r → Fr w_X_values V r.2 := by
  intro x2 V r h
  rw [d_X_values_47] at h
  obtain ⟨q1, hq1, h⟩ := ai_bd h
  have gq1 : Fr w_X_values V q1 := (Fr.tr Fr.rf (fr_Text_clear _ _ hq1) rfl)
  obtain rfl := Option.some.inj h
  exact gq1
theorem fr_X_values : ∀ (V : ai_V) (r : (Int32 × ai_V)), d_X_values V = some r → Fr w_X_values V r.2 := by
  intro V r h
  rw [d_X_values] at h
  obtain ⟨q2, hq2, h⟩ := ai_bd h
  rcases ai_if h with ⟨-, h⟩ | ⟨-, h⟩
  · rcases ai_if h with ⟨-, h⟩ | ⟨-, h⟩
    · exact Fr.tr Fr.rf (fr_X_values_47 _ _ _ h) rfl
    · obtain ⟨q3, hq3, h⟩ := ai_bd h
      have gq3 : Fr w_X_values V q3 := (Fr.tr Fr.rf (fr_Worths_takeDigits _ _ _ hq3) rfl)
      exact Fr.tr gq3 (fr_X_values_47 _ _ _ h) rfl
  · exact Fr.tr Fr.rf (fr_X_values_47 _ _ _ h) rfl
def w_Worths_place : Fw := ([(72, 1)], [73, 76])
theorem fr_Worths_place_90 {T : Int32 → Int32 → Int32 → ai_V → Option ai_V} {F42 : Int32 → Int32 → Int32 → Int32 → ai_V → Option ai_V} (hT : ∀ y0 y1 y2 V r, T y0 y1 y2 V = some r → Fr w_Worths_place V r) (hF42 : ∀ y0 y1 y2 y3 V r, F42 y0 y1 y2 y3 V = some r → Fr w_Worths_place V r) : ∀ (x1 : Int32) (x2 : Int32) (x3 : Int32) (x4 : Int32) (V : ai_V) (r : ai_V), d_Worths_place_90 T F42 x1 x2 x3 x4 V = some r → Fr w_Worths_place V r := by
  intro x1 x2 x3 x4 V r h
  rw [d_Worths_place_90] at h
  exact Fr.tr Fr.rf (hF42 _ _ _ _ _ _ h) rfl
theorem fr_Worths_place_42 {T : Int32 → Int32 → Int32 → ai_V → Option ai_V} (hT : ∀ y0 y1 y2 V r, T y0 y1 y2 V = some r → Fr w_Worths_place V r) : ∀ (n : Nat) (x1 : Int32) (x2 : Int32) (x3 : Int32) (x4 : Int32) (V : ai_V) (r : ai_V), d_Worths_place_42 T n x1 x2 x3 x4 V = some r → Fr w_Worths_place V r := by
  intro n
  induction n with
  | zero =>
    intro x1 x2 x3 x4 V r h
    cases h
  | succ n ih =>
    intro x1 x2 x3 x4 V r h
    rw [d_Worths_place_42] at h
    rcases ai_if h with ⟨-, h⟩ | ⟨-, h⟩
    · obtain rfl := Option.some.inj h
      exact Fr.rf
    · rcases ai_if h with ⟨-, h⟩ | ⟨-, h⟩
      · exact Fr.tr Fr.rf (fr_Worths_place_90 hT ih _ _ _ _ _ _ h) rfl
      · rcases ai_if h with ⟨-, h⟩ | ⟨-, h⟩
        · obtain ⟨q1, hq1, h⟩ := ai_bd h
          obtain ⟨q2, hq2, h⟩ := ai_bd h
          have gq2 : Fr w_Worths_place V q2 := (Fr.tr (Fr.sa Fr.rf rfl) (hT _ _ _ _ _ hq2) rfl)
          exact Fr.tr gq2 (fr_Worths_place_90 hT ih _ _ _ _ _ _ h) rfl
        · cases h
theorem fr_Worths_place_B {T : Int32 → Int32 → Int32 → ai_V → Option ai_V} (hT : ∀ y0 y1 y2 V r, T y0 y1 y2 V = some r → Fr w_Worths_place V r) : ∀ (x1 : Int32) (x2 : Int32) (x3 : Int32) (V : ai_V) (r : ai_V), d_Worths_place_B T x1 x2 x3 V = some r → Fr w_Worths_place V r := by
  intro x1 x2 x3 V r h
  rw [d_Worths_place_B] at h
  rcases ai_if h with ⟨-, h⟩ | ⟨-, h⟩
  · exact Fr.tr Fr.rf (fr_Worths_place_42 hT _ _ _ _ _ _ _ h) rfl
  · rcases ai_if h with ⟨-, h⟩ | ⟨-, h⟩
    · obtain rfl := Option.some.inj h
      exact Fr.rf
    · rcases ai_if h with ⟨-, h⟩ | ⟨-, h⟩
      · obtain rfl := Option.some.inj h
        exact (Fr.cp (Fr.si Fr.rf rfl) rfl)
      · cases h
theorem fr_Worths_place_R : ∀ (n : Nat) (x1 : Int32) (x2 : Int32) (x3 : Int32) (V : ai_V) (r : ai_V), d_Worths_place_R n x1 x2 x3 V = some r → Fr w_Worths_place V r := by
  intro n
  induction n with
  | zero =>
    intro x1 x2 x3 V r h
    cases h
  | succ n ih =>
    intro x1 x2 x3 V r h
    rw [d_Worths_place_R] at h
    exact Fr.tr Fr.rf (fr_Worths_place_B ih _ _ _ _ _ h) rfl
theorem fr_Worths_place : ∀ (x0 : Int32) (x1 : Int32) (x2 : Int32) (V : ai_V) (r : ai_V), d_Worths_place x0 x1 x2 V = some r → Fr w_Worths_place V r := by
  intro x0 x1 x2 V r h
  rw [d_Worths_place] at h
  exact Fr.tr Fr.rf (fr_Worths_place_R _ _ _ _ _ _ h) rfl
def w_Worths_allotAll : Fw := ([(72, 1)], [73, 76])
theorem fr_Worths_allotAll : ∀ (V : ai_V) (r : ai_V), d_Worths_allotAll V = some r → Fr w_Worths_allotAll V r := by
  intro V r h
  rw [d_Worths_allotAll] at h
  obtain ⟨q1, hq1, h⟩ := ai_bd h
  have gq1 : Fr w_Worths_allotAll V q1 := (Fr.tr (Fr.si Fr.rf rfl) (fr_Worths_place _ _ _ _ _ hq1) rfl)
  obtain rfl := Option.some.inj h
  exact gq1
def w_Worths_tellInto : Fw := ([(22, 1)], [23])
theorem fr_Worths_tellInto_6 : ∀ (n : Nat) (x3 : Int32) (V : ai_V) (r : ai_V), d_Worths_tellInto_6 n x3 V = some r → Fr w_Worths_tellInto V r := by
  intro n
  induction n with
  | zero =>
    intro x3 V r h
    cases h
  | succ n ih =>
    intro x3 V r h
    rw [d_Worths_tellInto_6] at h
    rcases ai_if h with ⟨-, h⟩ | ⟨-, h⟩
    · obtain rfl := Option.some.inj h
      exact Fr.rf
    · rcases ai_if h with ⟨-, h⟩ | ⟨-, h⟩
      · obtain ⟨q1, hq1, h⟩ := ai_bd h
        have gq1 : Fr w_Worths_tellInto V q1 := (Fr.tr Fr.rf (fr_Row_add _ _ _ hq1) rfl)
        exact Fr.tr gq1 (ih _ _ _ h) rfl
      · cases h
theorem fr_Worths_tellInto : ∀ (V : ai_V) (r : ai_V), d_Worths_tellInto V = some r → Fr w_Worths_tellInto V r := by
  intro V r h
  rw [d_Worths_tellInto] at h
  obtain ⟨q2, hq2, h⟩ := ai_bd h
  have gq2 : Fr w_Worths_tellInto V q2 := (Fr.tr Fr.rf (fr_Row_clear _ _ hq2) rfl)
  exact Fr.tr gq2 (fr_Worths_tellInto_6 _ _ _ _ h) rfl
def w_X_allot : Fw := ([(22, 1), (72, 1)], [23, 73, 76])
theorem fr_X_allot : ∀ (V : ai_V) (r : (Int32 × ai_V)), d_X_allot V = some r → Fr w_X_allot V r.2 := by
  intro V r h
  rw [d_X_allot] at h
  rcases ai_if h with ⟨-, h⟩ | ⟨-, h⟩
  · obtain ⟨q1, hq1, h⟩ := ai_bd h
    have gq1 : Fr w_X_allot V q1 := (Fr.tr Fr.rf (fr_Worths_allotAll _ _ hq1) rfl)
    obtain ⟨q2, hq2, h⟩ := ai_bd h
    have gq2 : Fr w_X_allot V q2 := (Fr.tr gq1 (fr_Worths_tellInto _ _ hq2) rfl)
    obtain rfl := Option.some.inj h
    exact gq2
  · obtain rfl := Option.some.inj h
    exact Fr.rf
def w_Worths_share : Fw := ([(72, 7)], [74, 77])
theorem fr_Worths_share_43 {T : Int32 → Int32 → ai_V → Option ai_V} (hT : ∀ y0 y1 V r, T y0 y1 V = some r → Fr w_Worths_share V r) : ∀ (V : ai_V) (r : ai_V), d_Worths_share_43 T V = some r → Fr w_Worths_share V r := by
  intro V r h
  rw [d_Worths_share_43] at h
  obtain rfl := Option.some.inj h
  exact (Fr.si Fr.rf rfl)
theorem fr_Worths_share_75 {T : Int32 → Int32 → ai_V → Option ai_V} (hT : ∀ y0 y1 V r, T y0 y1 V = some r → Fr w_Worths_share V r) : ∀ (n : Nat) (x1 : Int32) (x2 : Int32) (x4 : Int32) (V : ai_V) (r : ai_V), d_Worths_share_75 T n x1 x2 x4 V = some r → Fr w_Worths_share V r := by
  intro n
  induction n with
  | zero =>
    intro x1 x2 x4 V r h
    cases h
  | succ n ih =>
    intro x1 x2 x4 V r h
    rw [d_Worths_share_75] at h
    rcases ai_if h with ⟨-, h⟩ | ⟨-, h⟩
    · obtain rfl := Option.some.inj h
      exact Fr.rf
    · rcases ai_if h with ⟨-, h⟩ | ⟨-, h⟩
      · obtain rfl := Option.some.inj h
        exact Fr.rf
      · rcases ai_if h with ⟨-, h⟩ | ⟨-, h⟩
        · obtain ⟨q1, hq1, h⟩ := ai_bd h
          have gq1 : Fr w_Worths_share V q1 := (Fr.tr (Fr.sa Fr.rf rfl) (hT _ _ _ _ hq1) rfl)
          exact Fr.tr gq1 (ih _ _ _ _ _ h) rfl
        · cases h
theorem fr_Worths_share_B {T : Int32 → Int32 → ai_V → Option ai_V} (hT : ∀ y0 y1 V r, T y0 y1 V = some r → Fr w_Worths_share V r) : ∀ (x1 : Int32) (x2 : Int32) (V : ai_V) (r : ai_V), d_Worths_share_B T x1 x2 V = some r → Fr w_Worths_share V r := by
  intro x1 x2 V r h
  rw [d_Worths_share_B] at h
  rcases ai_if h with ⟨-, h⟩ | ⟨-, h⟩
  · exact Fr.tr Fr.rf (fr_Worths_share_75 hT _ _ _ _ _ _ h) rfl
  · rcases ai_if h with ⟨-, h⟩ | ⟨-, h⟩
    · obtain rfl := Option.some.inj h
      exact Fr.rf
    · obtain ⟨q2, hq2, h⟩ := ai_bd h
      rcases ai_if h with ⟨-, h⟩ | ⟨-, h⟩
      · obtain rfl := Option.some.inj h
        exact Fr.rf
      · rcases ai_if h with ⟨-, h⟩ | ⟨-, h⟩
        · exact Fr.tr Fr.rf (fr_Worths_share_43 hT _ _ h) rfl
        · rcases ai_if h with ⟨-, h⟩ | ⟨-, h⟩
          · exact Fr.tr (Fr.cp Fr.rf rfl) (fr_Worths_share_43 hT _ _ h) rfl
          · cases h
theorem fr_Worths_share_R : ∀ (n : Nat) (x1 : Int32) (x2 : Int32) (V : ai_V) (r : ai_V), d_Worths_share_R n x1 x2 V = some r → Fr w_Worths_share V r := by
  intro n
  induction n with
  | zero =>
    intro x1 x2 V r h
    cases h
  | succ n ih =>
    intro x1 x2 V r h
    rw [d_Worths_share_R] at h
    exact Fr.tr Fr.rf (fr_Worths_share_B ih _ _ _ _ h) rfl
theorem fr_Worths_share : ∀ (x0 : Int32) (x1 : Int32) (V : ai_V) (r : ai_V), d_Worths_share x0 x1 V = some r → Fr w_Worths_share V r := by
  intro x0 x1 V r h
  rw [d_Worths_share] at h
  exact Fr.tr Fr.rf (fr_Worths_share_R _ _ _ _ _ h) rfl
def w_Worths_countRents : Fw := ([(72, 1), (72, 7)], [73, 74, 76, 77])
theorem fr_Worths_countRents : ∀ (x1 : Int32) (V : ai_V) (r : (Int32 × ai_V)), d_Worths_countRents x1 V = some r → Fr w_Worths_countRents V r.2 := by
  intro x1 V r h
  rw [d_Worths_countRents] at h
  obtain ⟨q1, hq1, h⟩ := ai_bd h
  have gq1 : Fr w_Worths_countRents V q1 := (Fr.tr Fr.rf (fr_Worths_allotAll _ _ hq1) rfl)
  obtain ⟨q2, hq2, h⟩ := ai_bd h
  have gq2 : Fr w_Worths_countRents V q2 := (Fr.tr (Fr.si gq1 rfl) (fr_Worths_share _ _ _ _ hq2) rfl)
  obtain rfl := Option.some.inj h
  exact gq2
def w_Worths_tellInto_72_22_74 : Fw := ([(22, 1)], [23])
theorem fr_Worths_tellInto_72_22_74_6 : ∀ (n : Nat) (x3 : Int32) (V : ai_V) (r : ai_V), d_Worths_tellInto_72_22_74_6 n x3 V = some r → Fr w_Worths_tellInto_72_22_74 V r := by
  intro n
  induction n with
  | zero =>
    intro x3 V r h
    cases h
  | succ n ih =>
    intro x3 V r h
    rw [d_Worths_tellInto_72_22_74_6] at h
    rcases ai_if h with ⟨-, h⟩ | ⟨-, h⟩
    · obtain rfl := Option.some.inj h
      exact Fr.rf
    · rcases ai_if h with ⟨-, h⟩ | ⟨-, h⟩
      · obtain ⟨q1, hq1, h⟩ := ai_bd h
        have gq1 : Fr w_Worths_tellInto_72_22_74 V q1 := (Fr.tr Fr.rf (fr_Row_add _ _ _ hq1) rfl)
        exact Fr.tr gq1 (ih _ _ _ h) rfl
      · cases h
theorem fr_Worths_tellInto_72_22_74 : ∀ (V : ai_V) (r : ai_V), d_Worths_tellInto_72_22_74 V = some r → Fr w_Worths_tellInto_72_22_74 V r := by
  intro V r h
  rw [d_Worths_tellInto_72_22_74] at h
  obtain ⟨q2, hq2, h⟩ := ai_bd h
  have gq2 : Fr w_Worths_tellInto_72_22_74 V q2 := (Fr.tr Fr.rf (fr_Row_clear _ _ hq2) rfl)
  exact Fr.tr gq2 (fr_Worths_tellInto_72_22_74_6 _ _ _ _ h) rfl
def w_X_rents : Fw := ([(22, 1), (72, 1), (72, 7)], [23, 73, 74, 76, 77])
theorem fr_X_rents : ∀ (x1 : Int32) (V : ai_V) (r : (Int32 × ai_V)), d_X_rents x1 V = some r → Fr w_X_rents V r.2 := by
  intro x1 V r h
  rw [d_X_rents] at h
  rcases ai_if h with ⟨-, h⟩ | ⟨-, h⟩
  · obtain rfl := Option.some.inj h
    exact Fr.rf
  · rcases ai_if h with ⟨-, h⟩ | ⟨-, h⟩
    · rcases ai_if h with ⟨-, h⟩ | ⟨-, h⟩
      · obtain ⟨q1, hq1, h⟩ := ai_bd h
        have gq1 : Fr w_X_rents V q1.2 := (Fr.tr Fr.rf (fr_Worths_countRents _ _ _ hq1) rfl)
        obtain ⟨q2, hq2, h⟩ := ai_bd h
        have gq2 : Fr w_X_rents V q2 := (Fr.tr gq1 (fr_Row_clear _ _ hq2) rfl)
        rcases ai_if h with ⟨-, h⟩ | ⟨-, h⟩
        · obtain rfl := Option.some.inj h
          exact gq2
        · obtain ⟨q3, hq3, h⟩ := ai_bd h
          have gq3 : Fr w_X_rents V q3 := (Fr.tr gq2 (fr_Worths_tellInto_72_22_74 _ _ hq3) rfl)
          obtain rfl := Option.some.inj h
          exact gq3
      · obtain rfl := Option.some.inj h
        exact Fr.rf
    · obtain rfl := Option.some.inj h
      exact Fr.rf
def w_X_gain : Fw := ([], [12, 13])
theorem fr_X_gain_73 : ∀ (s0 : Int32) (s1 : Int32) (V : ai_V) (r : (Int32 × ai_V)), d_X_gain_73 s0 s1 V = some r → Fr w_X_gain V r.2 := by
  intro s0 s1 V r h
  rw [d_X_gain_73] at h
  obtain rfl := Option.some.inj h
  exact Fr.rf
theorem fr_X_gain_26 : ∀ (x4 : Int32) (x5 : Int32) (s0 : Int32) (V : ai_V) (r : (Int32 × ai_V)), d_X_gain_26 x4 x5 s0 V = some r → Fr w_X_gain V r.2 := by
  intro x4 x5 s0 V r h
  rw [d_X_gain_26] at h
  obtain ⟨q1, hq1, h⟩ := ai_bd h
  have gq1 : Fr w_X_gain V q1.2 := (Fr.tr Fr.rf (fr_Wheel_together _ _ _ _ hq1) rfl)
  rcases ai_if h with ⟨-, h⟩ | ⟨-, h⟩
  · obtain ⟨q2, hq2, h⟩ := ai_bd h
    exact Fr.tr gq1 (fr_X_gain_73 _ _ _ _ h) rfl
  · exact Fr.tr gq1 (fr_X_gain_73 _ _ _ _ h) rfl
theorem fr_X_gain_12 : ∀ (x2 : Int32) (x3 : Int32) (x4 : Int32) (s0 : Int32) (V : ai_V) (r : (Int32 × ai_V)), d_X_gain_12 x2 x3 x4 s0 V = some r → Fr w_X_gain V r.2 := by
  intro x2 x3 x4 s0 V r h
  rw [d_X_gain_12] at h
  rcases ai_if h with ⟨-, h⟩ | ⟨-, h⟩
  · exact Fr.tr Fr.rf (fr_X_gain_26 _ _ _ _ _ h) rfl
  · exact Fr.tr Fr.rf (fr_X_gain_26 _ _ _ _ _ h) rfl
theorem fr_X_gain : ∀ (x1 : Int32) (x2 : Int32) (x3 : Int32) (x4 : Int32) (V : ai_V) (r : (Int32 × ai_V)), d_X_gain x1 x2 x3 x4 V = some r → Fr w_X_gain V r.2 := by
  intro x1 x2 x3 x4 V r h
  rw [d_X_gain] at h
  rcases ai_if h with ⟨-, h⟩ | ⟨-, h⟩
  · exact Fr.tr Fr.rf (fr_X_gain_12 _ _ _ _ _ _ h) rfl
  · exact Fr.tr Fr.rf (fr_X_gain_12 _ _ _ _ _ _ h) rfl
def w_X_rests : Fw := ([(22, 1)], [12, 13, 23])
theorem fr_X_rests_153 {F48 : Int32 → Int32 → Int32 → Int32 → Int32 → ai_V → Option (Int32 × ai_V)} (hF48 : ∀ y0 y1 y2 y3 y4 V r, F48 y0 y1 y2 y3 y4 V = some r → Fr w_X_rests V r.2) : ∀ (x1 : Int32) (x2 : Int32) (x3 : Int32) (x4 : Int32) (x5 : Int32) (V : ai_V) (r : (Int32 × ai_V)), d_X_rests_153 F48 x1 x2 x3 x4 x5 V = some r → Fr w_X_rests V r.2 := by
  intro x1 x2 x3 x4 x5 V r h
  rw [d_X_rests_153] at h
  exact Fr.tr Fr.rf (hF48 _ _ _ _ _ _ _ h) rfl
theorem fr_X_rests_144 {F48 : Int32 → Int32 → Int32 → Int32 → Int32 → ai_V → Option (Int32 × ai_V)} (hF48 : ∀ y0 y1 y2 y3 y4 V r, F48 y0 y1 y2 y3 y4 V = some r → Fr w_X_rests V r.2) : ∀ (x1 : Int32) (x2 : Int32) (x3 : Int32) (x4 : Int32) (x5 : Int32) (V : ai_V) (r : (Int32 × ai_V)), d_X_rests_144 F48 x1 x2 x3 x4 x5 V = some r → Fr w_X_rests V r.2 := by
  intro x1 x2 x3 x4 x5 V r h
  rw [d_X_rests_144] at h
  exact Fr.tr Fr.rf (fr_X_rests_153 hF48 _ _ _ _ _ _ _ h) rfl
theorem fr_X_rests_119 {F48 : Int32 → Int32 → Int32 → Int32 → Int32 → ai_V → Option (Int32 × ai_V)} (hF48 : ∀ y0 y1 y2 y3 y4 V r, F48 y0 y1 y2 y3 y4 V = some r → Fr w_X_rests V r.2) : ∀ (x1 : Int32) (x2 : Int32) (x3 : Int32) (x4 : Int32) (x5 : Int32) (x6 : Int32) (x7 : Int32) (s0 : Int32) (V : ai_V) (r : (Int32 × ai_V)), d_X_rests_119 F48 x1 x2 x3 x4 x5 x6 x7 s0 V = some r → Fr w_X_rests V r.2 := by
  intro x1 x2 x3 x4 x5 x6 x7 s0 V r h
  rw [d_X_rests_119] at h
  rcases ai_if h with ⟨-, h⟩ | ⟨-, h⟩
  · exact Fr.tr Fr.rf (fr_X_rests_153 hF48 _ _ _ _ _ _ _ h) rfl
  · rcases ai_if h with ⟨-, h⟩ | ⟨-, h⟩
    · exact Fr.tr Fr.rf (fr_X_rests_144 hF48 _ _ _ _ _ _ _ h) rfl
    · obtain ⟨q1, hq1, h⟩ := ai_bd h
      have gq1 : Fr w_X_rests V q1 := (Fr.tr Fr.rf (fr_Row_tellTwo _ _ _ _ hq1) rfl)
      exact Fr.tr gq1 (fr_X_rests_144 hF48 _ _ _ _ _ _ _ h) rfl
theorem fr_X_rests_118 {F48 : Int32 → Int32 → Int32 → Int32 → Int32 → ai_V → Option (Int32 × ai_V)} (hF48 : ∀ y0 y1 y2 y3 y4 V r, F48 y0 y1 y2 y3 y4 V = some r → Fr w_X_rests V r.2) : ∀ (x1 : Int32) (x2 : Int32) (x3 : Int32) (x4 : Int32) (x5 : Int32) (x6 : Int32) (x7 : Int32) (V : ai_V) (r : (Int32 × ai_V)), d_X_rests_118 F48 x1 x2 x3 x4 x5 x6 x7 V = some r → Fr w_X_rests V r.2 := by
  intro x1 x2 x3 x4 x5 x6 x7 V r h
  rw [d_X_rests_118] at h
  exact Fr.tr Fr.rf (fr_X_rests_119 hF48 _ _ _ _ _ _ _ _ _ _ h) rfl
theorem fr_X_rests_48 : ∀ (n : Nat) (x1 : Int32) (x2 : Int32) (x3 : Int32) (x4 : Int32) (x5 : Int32) (V : ai_V) (r : (Int32 × ai_V)), d_X_rests_48 n x1 x2 x3 x4 x5 V = some r → Fr w_X_rests V r.2 := by
  intro n
  induction n with
  | zero =>
    intro x1 x2 x3 x4 x5 V r h
    cases h
  | succ n ih =>
    intro x1 x2 x3 x4 x5 V r h
    rw [d_X_rests_48] at h
    rcases ai_if h with ⟨-, h⟩ | ⟨-, h⟩
    · obtain rfl := Option.some.inj h
      exact Fr.rf
    · obtain ⟨q2, hq2, h⟩ := ai_bd h
      have gq2 : Fr w_X_rests V q2.2 := (Fr.tr Fr.rf (fr_X_gain _ _ _ _ _ _ hq2) rfl)
      obtain ⟨q3, hq3, h⟩ := ai_bd h
      obtain ⟨q4, hq4, h⟩ := ai_bd h
      have gq4 : Fr w_X_rests V q4.2 := (Fr.tr gq2 (fr_X_gain _ _ _ _ _ _ hq4) rfl)
      obtain ⟨q5, hq5, h⟩ := ai_bd h
      have gq5 : Fr w_X_rests V q5.2 := (Fr.tr gq4 (fr_X_gain _ _ _ _ _ _ hq5) rfl)
      rcases ai_if h with ⟨-, h⟩ | ⟨-, h⟩
      · exact Fr.tr gq5 (fr_X_rests_118 ih _ _ _ _ _ _ _ _ _ h) rfl
      · obtain ⟨q6, hq6, h⟩ := ai_bd h
        obtain ⟨q7, hq7, h⟩ := ai_bd h
        have gq7 : Fr w_X_rests V q7.2 := (Fr.tr gq5 (fr_X_gain _ _ _ _ _ _ hq7) rfl)
        rcases ai_if h with ⟨-, h⟩ | ⟨-, h⟩
        · exact Fr.tr gq7 (fr_X_rests_118 ih _ _ _ _ _ _ _ _ _ h) rfl
        · exact Fr.tr gq7 (fr_X_rests_119 ih _ _ _ _ _ _ _ _ _ _ h) rfl
theorem fr_X_rests : ∀ (x1 : Int32) (x2 : Int32) (x3 : Int32) (V : ai_V) (r : (Int32 × ai_V)), d_X_rests x1 x2 x3 V = some r → Fr w_X_rests V r.2 := by
  intro x1 x2 x3 V r h
  rw [d_X_rests] at h
  rcases ai_if h with ⟨-, h⟩ | ⟨-, h⟩
  · obtain rfl := Option.some.inj h
    exact Fr.rf
  · rcases ai_if h with ⟨-, h⟩ | ⟨-, h⟩
    · obtain rfl := Option.some.inj h
      exact Fr.rf
    · obtain ⟨q8, hq8, h⟩ := ai_bd h
      rcases ai_if h with ⟨-, h⟩ | ⟨-, h⟩
      · obtain rfl := Option.some.inj h
        exact Fr.rf
      · rcases ai_if h with ⟨-, h⟩ | ⟨-, h⟩
        · obtain rfl := Option.some.inj h
          exact Fr.rf
        · rcases ai_if h with ⟨-, h⟩ | ⟨-, h⟩
          · obtain ⟨q9, hq9, h⟩ := ai_bd h
            have gq9 : Fr w_X_rests V q9 := (Fr.tr Fr.rf (fr_Row_clear _ _ hq9) rfl)
            exact Fr.tr gq9 (fr_X_rests_48 _ _ _ _ _ _ _ _ h) rfl
          · obtain rfl := Option.some.inj h
            exact Fr.rf
def w_Pegs_add : Fw := ([(78, 1)], [80, 81])
theorem fr_Pegs_add : ∀ (x1 : Int32) (x2 : Int32) (V : ai_V) (r : (Int32 × ai_V)), d_Pegs_add x1 x2 V = some r → Fr w_Pegs_add V r.2 := by
  intro x1 x2 V r h
  rw [d_Pegs_add] at h
  rcases ai_if h with ⟨-, h⟩ | ⟨-, h⟩
  · rcases ai_if h with ⟨-, h⟩ | ⟨-, h⟩
    · rcases ai_if h with ⟨-, h⟩ | ⟨-, h⟩
      · obtain rfl := Option.some.inj h
        exact (Fr.si (Fr.sa (Fr.sa Fr.rf rfl) rfl) rfl)
      · cases h
    · cases h
  · obtain rfl := Option.some.inj h
    exact Fr.rf
def w_X_peg : Fw := ([(78, 1)], [80, 81])
theorem fr_X_peg : ∀ (x1 : Int32) (x2 : Int32) (V : ai_V) (r : (Int32 × ai_V)), d_X_peg x1 x2 V = some r → Fr w_X_peg V r.2 := by
  intro x1 x2 V r h
  rw [d_X_peg] at h
  rcases ai_if h with ⟨-, h⟩ | ⟨-, h⟩
  · obtain rfl := Option.some.inj h
    exact Fr.rf
  · rcases ai_if h with ⟨-, h⟩ | ⟨-, h⟩
    · obtain rfl := Option.some.inj h
      exact Fr.rf
    · rcases ai_if h with ⟨-, h⟩ | ⟨-, h⟩
      · obtain rfl := Option.some.inj h
        exact Fr.rf
      · rcases ai_if h with ⟨-, h⟩ | ⟨-, h⟩
        · obtain ⟨q1, hq1, h⟩ := ai_bd h
          have gq1 : Fr w_X_peg V q1.2 := (Fr.tr Fr.rf (fr_Pegs_add _ _ _ _ hq1) rfl)
          rcases ai_if h with ⟨-, h⟩ | ⟨-, h⟩
          · obtain rfl := Option.some.inj h
            exact gq1
          · obtain rfl := Option.some.inj h
            exact gq1
        · obtain rfl := Option.some.inj h
          exact Fr.rf
def w_X_forget : Fw := ([(78, 1)], [])
theorem fr_X_forget : ∀ (V : ai_V) (r : (Int32 × ai_V)), d_X_forget V = some r → Fr w_X_forget V r.2 := by
  intro V r h
  rw [d_X_forget] at h
  obtain rfl := Option.some.inj h
  exact (Fr.si Fr.rf rfl)
def w_Pegs_findSets : Fw := ([(78, 3)], [79])
theorem fr_Pegs_findSets_66 {F7 : Int32 → Int32 → ai_V → Option (Int32 × ai_V)} (hF7 : ∀ y0 y1 V r, F7 y0 y1 V = some r → Fr w_Pegs_findSets V r.2) : ∀ (x1 : Int32) (x2 : Int32) (V : ai_V) (r : (Int32 × ai_V)), d_Pegs_findSets_66 F7 x1 x2 V = some r → Fr w_Pegs_findSets V r.2 := by
  intro x1 x2 V r h
  rw [d_Pegs_findSets_66] at h
  exact Fr.tr Fr.rf (hF7 _ _ _ _ h) rfl
theorem fr_Pegs_findSets_7 : ∀ (n : Nat) (x1 : Int32) (x2 : Int32) (V : ai_V) (r : (Int32 × ai_V)), d_Pegs_findSets_7 n x1 x2 V = some r → Fr w_Pegs_findSets V r.2 := by
  intro n
  induction n with
  | zero =>
    intro x1 x2 V r h
    cases h
  | succ n ih =>
    intro x1 x2 V r h
    rw [d_Pegs_findSets_7] at h
    rcases ai_if h with ⟨-, h⟩ | ⟨-, h⟩
    · obtain rfl := Option.some.inj h
      exact Fr.rf
    · obtain ⟨q1, hq1, h⟩ := ai_bd h
      rcases ai_if h with ⟨-, h⟩ | ⟨-, h⟩
      · exact Fr.tr Fr.rf (fr_Pegs_findSets_66 ih _ _ _ _ h) rfl
      · rcases ai_if h with ⟨-, h⟩ | ⟨-, h⟩
        · exact Fr.tr Fr.rf (fr_Pegs_findSets_66 ih _ _ _ _ h) rfl
        · obtain ⟨q2, hq2, h⟩ := ai_bd h
          rcases ai_if h with ⟨-, h⟩ | ⟨-, h⟩
          · exact Fr.tr Fr.rf (fr_Pegs_findSets_66 ih _ _ _ _ h) rfl
          · rcases ai_if h with ⟨-, h⟩ | ⟨-, h⟩
            · exact Fr.tr (Fr.si (Fr.sa Fr.rf rfl) rfl) (fr_Pegs_findSets_66 ih _ _ _ _ h) rfl
            · cases h
theorem fr_Pegs_findSets : ∀ (x1 : Int32) (V : ai_V) (r : (Int32 × ai_V)), d_Pegs_findSets x1 V = some r → Fr w_Pegs_findSets V r.2 := by
  intro x1 V r h
  rw [d_Pegs_findSets] at h
  exact Fr.tr (Fr.si Fr.rf rfl) (fr_Pegs_findSets_7 _ _ _ _ _ h) rfl
def w_X_trod : Fw := ([(22, 1), (78, 3)], [23, 79])
theorem fr_X_trod_93 : ∀ (x1 : Int32) (s0 : Int64) (s1 : Int64) (V : ai_V) (r : (Int32 × ai_V)), d_X_trod_93 x1 s0 s1 V = some r → Fr w_X_trod V r.2 := by
  intro x1 s0 s1 V r h
  rw [d_X_trod_93] at h
  obtain ⟨q1, hq1, h⟩ := ai_bd h
  have gq1 : Fr w_X_trod V q1 := (Fr.tr Fr.rf (fr_Row_tellTwo _ _ _ _ hq1) rfl)
  obtain rfl := Option.some.inj h
  exact gq1
theorem fr_X_trod_83 : ∀ (x1 : Int32) (x3 : Int32) (s0 : Int64) (V : ai_V) (r : (Int32 × ai_V)), d_X_trod_83 x1 x3 s0 V = some r → Fr w_X_trod V r.2 := by
  intro x1 x3 s0 V r h
  rw [d_X_trod_83] at h
  rcases ai_if h with ⟨-, h⟩ | ⟨-, h⟩
  · exact Fr.tr Fr.rf (fr_X_trod_93 _ _ _ _ _ h) rfl
  · exact Fr.tr Fr.rf (fr_X_trod_93 _ _ _ _ _ h) rfl
theorem fr_X_trod_9 : ∀ (n : Nat) (x1 : Int32) (x2 : Int32) (x3 : Int32) (x4 : Int32) (V : ai_V) (r : (Int32 × ai_V)), d_X_trod_9 n x1 x2 x3 x4 V = some r → Fr w_X_trod V r.2 := by
  intro n
  induction n with
  | zero =>
    intro x1 x2 x3 x4 V r h
    cases h
  | succ n ih =>
    intro x1 x2 x3 x4 V r h
    rw [d_X_trod_9] at h
    rcases ai_if h with ⟨-, h⟩ | ⟨-, h⟩
    · rcases ai_if h with ⟨-, h⟩ | ⟨-, h⟩
      · exact Fr.tr Fr.rf (fr_X_trod_83 _ _ _ _ _ h) rfl
      · exact Fr.tr Fr.rf (fr_X_trod_83 _ _ _ _ _ h) rfl
    · obtain ⟨q2, hq2, h⟩ := ai_bd h
      have gq2 : Fr w_X_trod V q2.2 := (Fr.tr Fr.rf (fr_Pegs_findSets _ _ _ hq2) rfl)
      obtain ⟨q3, hq3, h⟩ := ai_bd h
      obtain ⟨q4, hq4, h⟩ := ai_bd h
      exact Fr.tr gq2 (ih _ _ _ _ _ _ h) rfl
theorem fr_X_trod : ∀ (V : ai_V) (r : (Int32 × ai_V)), d_X_trod V = some r → Fr w_X_trod V r.2 := by
  intro V r h
  rw [d_X_trod] at h
  exact Fr.tr Fr.rf (fr_X_trod_9 _ _ _ _ _ _ _ h) rfl
def w_X_ways : Fw := ([(22, 1), (78, 3)], [23, 79])
theorem fr_X_ways_35 : ∀ (n : Nat) (x2 : Int32) (x3 : Int32) (V : ai_V) (r : (Int32 × ai_V)), d_X_ways_35 n x2 x3 V = some r → Fr w_X_ways V r.2 := by
  intro n
  induction n with
  | zero =>
    intro x2 x3 V r h
    cases h
  | succ n ih =>
    intro x2 x3 V r h
    rw [d_X_ways_35] at h
    rcases ai_if h with ⟨-, h⟩ | ⟨-, h⟩
    · obtain rfl := Option.some.inj h
      exact Fr.rf
    · rcases ai_if h with ⟨-, h⟩ | ⟨-, h⟩
      · obtain rfl := Option.some.inj h
        exact Fr.rf
      · rcases ai_if h with ⟨-, h⟩ | ⟨-, h⟩
        · obtain ⟨q1, hq1, h⟩ := ai_bd h
          have gq1 : Fr w_X_ways V q1 := (Fr.tr Fr.rf (fr_Row_add _ _ _ hq1) rfl)
          exact Fr.tr gq1 (ih _ _ _ _ h) rfl
        · cases h
theorem fr_X_ways : ∀ (x1 : Int32) (V : ai_V) (r : (Int32 × ai_V)), d_X_ways x1 V = some r → Fr w_X_ways V r.2 := by
  intro x1 V r h
  rw [d_X_ways] at h
  rcases ai_if h with ⟨-, h⟩ | ⟨-, h⟩
  · obtain rfl := Option.some.inj h
    exact Fr.rf
  · rcases ai_if h with ⟨-, h⟩ | ⟨-, h⟩
    · obtain ⟨q2, hq2, h⟩ := ai_bd h
      have gq2 : Fr w_X_ways V q2.2 := (Fr.tr Fr.rf (fr_Pegs_findSets _ _ _ hq2) rfl)
      obtain ⟨q3, hq3, h⟩ := ai_bd h
      have gq3 : Fr w_X_ways V q3 := (Fr.tr gq2 (fr_Row_clear _ _ hq3) rfl)
      exact Fr.tr gq3 (fr_X_ways_35 _ _ _ _ _ h) rfl
    · obtain rfl := Option.some.inj h
      exact Fr.rf
def w_X_levelWithout : Fw := ([], [12, 13])
theorem fr_X_levelWithout : ∀ (x1 : Int32) (x2 : Int32) (x3 : Int32) (V : ai_V) (r : (Int32 × ai_V)), d_X_levelWithout x1 x2 x3 V = some r → Fr w_X_levelWithout V r.2 := by
  intro x1 x2 x3 V r h
  rw [d_X_levelWithout] at h
  obtain ⟨q1, hq1, h⟩ := ai_bd h
  obtain ⟨q2, hq2, h⟩ := ai_bd h
  have gq2 : Fr w_X_levelWithout V q2.2 := (Fr.tr Fr.rf (fr_Wheel_pails _ _ _ _ _ _ _ hq2) rfl)
  obtain ⟨q3, hq3, h⟩ := ai_bd h
  have gq3 : Fr w_X_levelWithout V q3.2 := (Fr.tr gq2 (fr_Wheel_pails _ _ _ _ _ _ _ hq3) rfl)
  obtain rfl := Option.some.inj h
  exact gq3
def w_X_braked : Fw := ([(22, 1)], [12, 13, 23])
theorem fr_X_braked_158 : ∀ (x6 : Int32) (s0 : Int64) (s1 : Int64) (V : ai_V) (r : (Int32 × ai_V)), d_X_braked_158 x6 s0 s1 V = some r → Fr w_X_braked V r.2 := by
  intro x6 s0 s1 V r h
  rw [d_X_braked_158] at h
  obtain ⟨q1, hq1, h⟩ := ai_bd h
  have gq1 : Fr w_X_braked V q1 := (Fr.tr Fr.rf (fr_Row_tellTwo _ _ _ _ hq1) rfl)
  obtain rfl := Option.some.inj h
  exact gq1
theorem fr_X_braked_133 {F80 : Int32 → Int32 → Int32 → Int32 → Int32 → Int32 → Int32 → Int32 → ai_V → Option (Int32 × ai_V)} (hF80 : ∀ y0 y1 y2 y3 y4 y5 y6 y7 V r, F80 y0 y1 y2 y3 y4 y5 y6 y7 V = some r → Fr w_X_braked V r.2) : ∀ (x1 : Int32) (x2 : Int32) (x4 : Int32) (x5 : Int32) (x6 : Int32) (x7 : Int32) (x8 : Int32) (x9 : Int32) (V : ai_V) (r : (Int32 × ai_V)), d_X_braked_133 F80 x1 x2 x4 x5 x6 x7 x8 x9 V = some r → Fr w_X_braked V r.2 := by
  intro x1 x2 x4 x5 x6 x7 x8 x9 V r h
  rw [d_X_braked_133] at h
  exact Fr.tr Fr.rf (hF80 _ _ _ _ _ _ _ _ _ _ h) rfl
theorem fr_X_braked_121 {F80 : Int32 → Int32 → Int32 → Int32 → Int32 → Int32 → Int32 → Int32 → ai_V → Option (Int32 × ai_V)} (hF80 : ∀ y0 y1 y2 y3 y4 y5 y6 y7 V r, F80 y0 y1 y2 y3 y4 y5 y6 y7 V = some r → Fr w_X_braked V r.2) : ∀ (x1 : Int32) (x2 : Int32) (x4 : Int32) (x5 : Int32) (x6 : Int32) (x8 : Int32) (x9 : Int32) (s0 : Int32) (V : ai_V) (r : (Int32 × ai_V)), d_X_braked_121 F80 x1 x2 x4 x5 x6 x8 x9 s0 V = some r → Fr w_X_braked V r.2 := by
  intro x1 x2 x4 x5 x6 x8 x9 s0 V r h
  rw [d_X_braked_121] at h
  exact Fr.tr Fr.rf (fr_X_braked_133 hF80 _ _ _ _ _ _ _ _ _ _ h) rfl
theorem fr_X_braked_80 : ∀ (n : Nat) (x1 : Int32) (x2 : Int32) (x4 : Int32) (x5 : Int32) (x6 : Int32) (x7 : Int32) (x8 : Int32) (x9 : Int32) (V : ai_V) (r : (Int32 × ai_V)), d_X_braked_80 n x1 x2 x4 x5 x6 x7 x8 x9 V = some r → Fr w_X_braked V r.2 := by
  intro n
  induction n with
  | zero =>
    intro x1 x2 x4 x5 x6 x7 x8 x9 V r h
    cases h
  | succ n ih =>
    intro x1 x2 x4 x5 x6 x7 x8 x9 V r h
    rw [d_X_braked_80] at h
    rcases ai_if h with ⟨-, h⟩ | ⟨-, h⟩
    · rcases ai_if h with ⟨-, h⟩ | ⟨-, h⟩
      · exact Fr.tr Fr.rf (fr_X_braked_158 _ _ _ _ _ h) rfl
      · exact Fr.tr Fr.rf (fr_X_braked_158 _ _ _ _ _ h) rfl
    · rcases ai_if h with ⟨-, h⟩ | ⟨-, h⟩
      · exact Fr.tr Fr.rf (fr_X_braked_133 ih _ _ _ _ _ _ _ _ _ _ h) rfl
      · obtain ⟨q2, hq2, h⟩ := ai_bd h
        have gq2 : Fr w_X_braked V q2.2 := (Fr.tr Fr.rf (fr_X_levelWithout _ _ _ _ _ hq2) rfl)
        rcases ai_if h with ⟨-, h⟩ | ⟨-, h⟩
        · exact Fr.tr gq2 (fr_X_braked_133 ih _ _ _ _ _ _ _ _ _ _ h) rfl
        · rcases ai_if h with ⟨-, h⟩ | ⟨-, h⟩
          · exact Fr.tr gq2 (fr_X_braked_121 ih _ _ _ _ _ _ _ _ _ _ h) rfl
          · exact Fr.tr gq2 (fr_X_braked_121 ih _ _ _ _ _ _ _ _ _ _ h) rfl
theorem fr_X_braked_19 : ∀ (x1 : Int32) (x2 : Int32) (s0 : Int32) (V : ai_V) (r : (Int32 × ai_V)), d_X_braked_19 x1 x2 s0 V = some r → Fr w_X_braked V r.2 := by
  intro x1 x2 s0 V r h
  rw [d_X_braked_19] at h
  rcases ai_if h with ⟨-, h⟩ | ⟨-, h⟩
  · obtain rfl := Option.some.inj h
    exact Fr.rf
  · rcases ai_if h with ⟨-, h⟩ | ⟨-, h⟩
    · obtain rfl := Option.some.inj h
      exact Fr.rf
    · rcases ai_if h with ⟨-, h⟩ | ⟨-, h⟩
      · obtain rfl := Option.some.inj h
        exact Fr.rf
      · rcases ai_if h with ⟨-, h⟩ | ⟨-, h⟩
        · obtain ⟨q3, hq3, h⟩ := ai_bd h
          obtain ⟨q4, hq4, h⟩ := ai_bd h
          exact Fr.tr Fr.rf (fr_X_braked_80 _ _ _ _ _ _ _ _ _ _ _ h) rfl
        · obtain rfl := Option.some.inj h
          exact Fr.rf
theorem fr_X_braked : ∀ (x1 : Int32) (x2 : Int32) (V : ai_V) (r : (Int32 × ai_V)), d_X_braked x1 x2 V = some r → Fr w_X_braked V r.2 := by
  intro x1 x2 V r h
  rw [d_X_braked] at h
  obtain ⟨q5, hq5, h⟩ := ai_bd h
  rcases ai_if h with ⟨-, h⟩ | ⟨-, h⟩
  · exact Fr.tr Fr.rf (fr_X_braked_19 _ _ _ _ _ h) rfl
  · obtain ⟨q6, hq6, h⟩ := ai_bd h
    exact Fr.tr Fr.rf (fr_X_braked_19 _ _ _ _ _ h) rfl
def w_X_owes : Fw := ([(22, 1)], [23])
theorem fr_X_owes_48 : ∀ (x4 : Int64) (x6 : Int64) (x8 : Int64) (V : ai_V) (r : (Int32 × ai_V)), d_X_owes_48 x4 x6 x8 V = some r → Fr w_X_owes V r.2 := by
  intro x4 x6 x8 V r h
  rw [d_X_owes_48] at h
  rcases ai_if h with ⟨-, h⟩ | ⟨-, h⟩
  · cases h
  · rcases ai_if h with ⟨-, h⟩ | ⟨-, h⟩
    · cases h
    · obtain ⟨q1, hq1, h⟩ := ai_bd h
      have gq1 : Fr w_X_owes V q1 := (Fr.tr Fr.rf (fr_Row_tellTwo _ _ _ _ hq1) rfl)
      obtain rfl := Option.some.inj h
      exact gq1
theorem fr_X_owes : ∀ (x1 : Int32) (x2 : Int32) (x3 : Int32) (V : ai_V) (r : (Int32 × ai_V)), d_X_owes x1 x2 x3 V = some r → Fr w_X_owes V r.2 := by
  intro x1 x2 x3 V r h
  rw [d_X_owes] at h
  obtain ⟨q2, hq2, h⟩ := ai_bd h
  rcases ai_if h with ⟨-, h⟩ | ⟨-, h⟩
  · obtain ⟨q3, hq3, h⟩ := ai_bd h
    obtain ⟨q4, hq4, h⟩ := ai_bd h
    obtain ⟨q5, hq5, h⟩ := ai_bd h
    rcases ai_if h with ⟨-, h⟩ | ⟨-, h⟩
    · exact Fr.tr Fr.rf (fr_X_owes_48 _ _ _ _ _ h) rfl
    · exact Fr.tr Fr.rf (fr_X_owes_48 _ _ _ _ _ h) rfl
  · obtain rfl := Option.some.inj h
    exact Fr.rf
def w_X_fund : Fw := ([(22, 1)], [23])
theorem fr_X_fund : ∀ (x1 : Int32) (x2 : Int32) (x3 : Int32) (V : ai_V) (r : (Int32 × ai_V)), d_X_fund x1 x2 x3 V = some r → Fr w_X_fund V r.2 := by
  intro x1 x2 x3 V r h
  rw [d_X_fund] at h
  obtain ⟨q1, hq1, h⟩ := ai_bd h
  rcases ai_if h with ⟨-, h⟩ | ⟨-, h⟩
  · obtain ⟨q2, hq2, h⟩ := ai_bd h
    obtain ⟨q3, hq3, h⟩ := ai_bd h
    rcases ai_if h with ⟨-, h⟩ | ⟨-, h⟩
    · obtain ⟨q4, hq4, h⟩ := ai_bd h
      obtain ⟨q5, hq5, h⟩ := ai_bd h
      obtain ⟨q6, hq6, h⟩ := ai_bd h
      have gq6 : Fr w_X_fund V q6 := (Fr.tr Fr.rf (fr_Row_tellOne _ _ _ hq6) rfl)
      obtain rfl := Option.some.inj h
      exact gq6
    · cases h
  · obtain rfl := Option.some.inj h
    exact Fr.rf
def w_Arr_fill_21 : Fw := ([], [21])
theorem fr_Arr_fill_21_5 : ∀ (n : Nat) (x1 : Int32) (x2 : Int32) (x3 : Int32) (V : ai_V) (r : ai_V), d_Arr_fill_21_5 n x1 x2 x3 V = some r → Fr w_Arr_fill_21 V r := by
  intro n
  induction n with
  | zero =>
    intro x1 x2 x3 V r h
    cases h
  | succ n ih =>
    intro x1 x2 x3 V r h
    rw [d_Arr_fill_21_5] at h
    rcases ai_if h with ⟨-, h⟩ | ⟨-, h⟩
    · obtain rfl := Option.some.inj h
      exact Fr.rf
    · rcases ai_if h with ⟨-, h⟩ | ⟨-, h⟩
      · exact Fr.tr (Fr.sa Fr.rf rfl) (ih _ _ _ _ _ h) rfl
      · cases h
theorem fr_Arr_fill_21 : ∀ (x1 : Int32) (V : ai_V) (r : ai_V), d_Arr_fill_21 x1 V = some r → Fr w_Arr_fill_21 V r := by
  intro x1 V r h
  rw [d_Arr_fill_21] at h
  exact Fr.tr Fr.rf (fr_Arr_fill_21_5 _ _ _ _ _ _ h) rfl
def w_X_years : Fw := ([(15, 2), (15, 3), (15, 4), (15, 5), (19, 0), (19, 1), (19, 2), (22, 1)], [12, 13, 20, 21, 23])
theorem fr_X_years_190 : ∀ (x6 : Int32) (s0 : Int64) (s1 : Int64) (s2 : Int64) (V : ai_V) (r : (Int32 × ai_V)), d_X_years_190 x6 s0 s1 s2 V = some r → Fr w_X_years V r.2 := by
  intro x6 s0 s1 s2 V r h
  rw [d_X_years_190] at h
  obtain ⟨q1, hq1, h⟩ := ai_bd h
  have gq1 : Fr w_X_years V q1 := (Fr.tr Fr.rf (fr_Row_tellThree _ _ _ _ _ hq1) rfl)
  obtain rfl := Option.some.inj h
  exact gq1
theorem fr_X_years_152 : ∀ (x6 : Int32) (s0 : Int32) (V : ai_V) (r : (Int32 × ai_V)), d_X_years_152 x6 s0 V = some r → Fr w_X_years V r.2 := by
  intro x6 s0 V r h
  rw [d_X_years_152] at h
  obtain ⟨q2, hq2, h⟩ := ai_bd h
  rcases ai_if h with ⟨-, h⟩ | ⟨-, h⟩
  · exact Fr.tr Fr.rf (fr_X_years_190 _ _ _ _ _ _ h) rfl
  · rcases ai_if h with ⟨-, h⟩ | ⟨-, h⟩
    · exact Fr.tr Fr.rf (fr_X_years_190 _ _ _ _ _ _ h) rfl
    · cases h
theorem fr_X_years_110 {F46 : Int32 → Int32 → Int32 → Int32 → Int32 → ai_V → Option (Int32 × ai_V)} (hF46 : ∀ y0 y1 y2 y3 y4 V r, F46 y0 y1 y2 y3 y4 V = some r → Fr w_X_years V r.2) : ∀ (x2 : Int32) (x4 : Int32) (x5 : Int32) (x6 : Int32) (x7 : Int32) (s0 : Int32) (V : ai_V) (r : (Int32 × ai_V)), d_X_years_110 F46 x2 x4 x5 x6 x7 s0 V = some r → Fr w_X_years V r.2 := by
  intro x2 x4 x5 x6 x7 s0 V r h
  rw [d_X_years_110] at h
  obtain ⟨q3, hq3, h⟩ := ai_bd h
  have gq3 : Fr w_X_years V q3 := (Fr.tr Fr.rf (fr_Wheel_pass_15_19 _ _ _ _ hq3) rfl)
  exact Fr.tr gq3 (hF46 _ _ _ _ _ _ _ h) rfl
theorem fr_X_years_85 {F46 : Int32 → Int32 → Int32 → Int32 → Int32 → ai_V → Option (Int32 × ai_V)} (hF46 : ∀ y0 y1 y2 y3 y4 V r, F46 y0 y1 y2 y3 y4 V = some r → Fr w_X_years V r.2) : ∀ (x2 : Int32) (x4 : Int32) (x5 : Int32) (x6 : Int32) (x7 : Int32) (s0 : Int32) (V : ai_V) (r : (Int32 × ai_V)), d_X_years_85 F46 x2 x4 x5 x6 x7 s0 V = some r → Fr w_X_years V r.2 := by
  intro x2 x4 x5 x6 x7 s0 V r h
  rw [d_X_years_85] at h
  rcases ai_if h with ⟨-, h⟩ | ⟨-, h⟩
  · exact Fr.tr Fr.rf (fr_X_years_110 hF46 _ _ _ _ _ _ _ _ h) rfl
  · exact Fr.tr Fr.rf (fr_X_years_110 hF46 _ _ _ _ _ _ _ _ h) rfl
theorem fr_X_years_46 : ∀ (n : Nat) (x2 : Int32) (x4 : Int32) (x5 : Int32) (x6 : Int32) (x7 : Int32) (V : ai_V) (r : (Int32 × ai_V)), d_X_years_46 n x2 x4 x5 x6 x7 V = some r → Fr w_X_years V r.2 := by
  intro n
  induction n with
  | zero =>
    intro x2 x4 x5 x6 x7 V r h
    cases h
  | succ n ih =>
    intro x2 x4 x5 x6 x7 V r h
    rw [d_X_years_46] at h
    rcases ai_if h with ⟨-, h⟩ | ⟨-, h⟩
    · rcases ai_if h with ⟨-, h⟩ | ⟨-, h⟩
      · obtain ⟨q4, hq4, h⟩ := ai_bd h
        exact Fr.tr Fr.rf (fr_X_years_152 _ _ _ _ h) rfl
      · exact Fr.tr Fr.rf (fr_X_years_152 _ _ _ _ h) rfl
    · rcases ai_if h with ⟨-, h⟩ | ⟨-, h⟩
      · rcases ai_if h with ⟨-, h⟩ | ⟨-, h⟩
        · cases h
        · exact Fr.tr Fr.rf (fr_X_years_85 ih _ _ _ _ _ _ _ _ h) rfl
      · exact Fr.tr Fr.rf (fr_X_years_85 ih _ _ _ _ _ _ _ _ h) rfl
theorem fr_X_years : ∀ (x1 : Int32) (x2 : Int32) (V : ai_V) (r : (Int32 × ai_V)), d_X_years x1 x2 V = some r → Fr w_X_years V r.2 := by
  intro x1 x2 V r h
  rw [d_X_years] at h
  rcases ai_if h with ⟨-, h⟩ | ⟨-, h⟩
  · obtain rfl := Option.some.inj h
    exact Fr.rf
  · rcases ai_if h with ⟨-, h⟩ | ⟨-, h⟩
    · obtain ⟨q5, hq5, h⟩ := ai_bd h
      have gq5 : Fr w_X_years V q5 := (Fr.tr Fr.rf (fr_X_asked _ _ hq5) rfl)
      obtain ⟨q6, hq6, h⟩ := ai_bd h
      have gq6 : Fr w_X_years V q6 := (Fr.tr gq5 (fr_Arr_fill_21 _ _ _ hq6) rfl)
      exact Fr.tr gq6 (fr_X_years_46 _ _ _ _ _ _ _ _ h) rfl
    · obtain rfl := Option.some.inj h
      exact Fr.rf
def w_State_becomes_86_16 : Fw := ([(86, 0), (86, 1)], [87, 88])
theorem fr_State_becomes_86_16_25 : ∀ (n : Nat) (x2 : Int32) (V : ai_V) (r : ai_V), d_State_becomes_86_16_25 n x2 V = some r → Fr w_State_becomes_86_16 V r := by
  intro n
  induction n with
  | zero =>
    intro x2 V r h
    cases h
  | succ n ih =>
    intro x2 V r h
    rw [d_State_becomes_86_16_25] at h
    rcases ai_if h with ⟨-, h⟩ | ⟨-, h⟩
    · obtain rfl := Option.some.inj h
      exact Fr.rf
    · rcases ai_if h with ⟨-, h⟩ | ⟨-, h⟩
      · rcases ai_if h with ⟨-, h⟩ | ⟨-, h⟩
        · rcases ai_if h with ⟨-, h⟩ | ⟨-, h⟩
          · rcases ai_if h with ⟨-, h⟩ | ⟨-, h⟩
            · exact Fr.tr (Fr.sa (Fr.sa Fr.rf rfl) rfl) (ih _ _ _ h) rfl
            · cases h
          · cases h
        · cases h
      · cases h
theorem fr_State_becomes_86_16 : ∀ (V : ai_V) (r : ai_V), d_State_becomes_86_16 V = some r → Fr w_State_becomes_86_16 V r := by
  intro V r h
  rw [d_State_becomes_86_16] at h
  exact Fr.tr (Fr.si (Fr.si Fr.rf rfl) rfl) (fr_State_becomes_86_16_25 _ _ _ _ h) rfl
def w_State_becomes_83_16 : Fw := ([(83, 0), (83, 1)], [84, 85])
theorem fr_State_becomes_83_16_25 : ∀ (n : Nat) (x2 : Int32) (V : ai_V) (r : ai_V), d_State_becomes_83_16_25 n x2 V = some r → Fr w_State_becomes_83_16 V r := by
  intro n
  induction n with
  | zero =>
    intro x2 V r h
    cases h
  | succ n ih =>
    intro x2 V r h
    rw [d_State_becomes_83_16_25] at h
    rcases ai_if h with ⟨-, h⟩ | ⟨-, h⟩
    · obtain rfl := Option.some.inj h
      exact Fr.rf
    · rcases ai_if h with ⟨-, h⟩ | ⟨-, h⟩
      · rcases ai_if h with ⟨-, h⟩ | ⟨-, h⟩
        · rcases ai_if h with ⟨-, h⟩ | ⟨-, h⟩
          · rcases ai_if h with ⟨-, h⟩ | ⟨-, h⟩
            · exact Fr.tr (Fr.sa (Fr.sa Fr.rf rfl) rfl) (ih _ _ _ h) rfl
            · cases h
          · cases h
        · cases h
      · cases h
theorem fr_State_becomes_83_16 : ∀ (V : ai_V) (r : ai_V), d_State_becomes_83_16 V = some r → Fr w_State_becomes_83_16 V r := by
  intro V r h
  rw [d_State_becomes_83_16] at h
  exact Fr.tr (Fr.si (Fr.si Fr.rf rfl) rfl) (fr_State_becomes_83_16_25 _ _ _ _ h) rfl
def w_X_keep : Fw := ([(83, 0), (83, 1), (86, 0), (86, 1)], [63, 84, 85, 87, 88])
theorem fr_X_keep : ∀ (x1 : Int32) (V : ai_V) (r : (Int32 × ai_V)), d_X_keep x1 V = some r → Fr w_X_keep V r.2 := by
  intro x1 V r h
  rw [d_X_keep] at h
  rcases ai_if h with ⟨-, h⟩ | ⟨-, h⟩
  · obtain rfl := Option.some.inj h
    exact Fr.rf
  · rcases ai_if h with ⟨-, h⟩ | ⟨-, h⟩
    · rcases ai_if h with ⟨-, h⟩ | ⟨-, h⟩
      · obtain ⟨q2, hq2, h⟩ := ai_bd h
        have gq2 : Fr w_X_keep V q2 := (Fr.tr Fr.rf (fr_State_becomes_83_16 _ _ hq2) rfl)
        rcases ai_if h with ⟨-, h⟩ | ⟨-, h⟩
        · obtain rfl := Option.some.inj h
          exact (Fr.sa gq2 rfl)
        · cases h
      · rcases ai_if h with ⟨-, h⟩ | ⟨-, h⟩
        · obtain ⟨q1, hq1, h⟩ := ai_bd h
          have gq1 : Fr w_X_keep V q1 := (Fr.tr Fr.rf (fr_State_becomes_86_16 _ _ hq1) rfl)
          rcases ai_if h with ⟨-, h⟩ | ⟨-, h⟩
          · obtain rfl := Option.some.inj h
            exact (Fr.sa gq1 rfl)
          · cases h
        · cases h
    · obtain rfl := Option.some.inj h
      exact Fr.rf
def w_State_becomes_16_86 : Fw := ([(16, 0), (16, 1)], [17, 18])
theorem fr_State_becomes_16_86_25 : ∀ (n : Nat) (x2 : Int32) (V : ai_V) (r : ai_V), d_State_becomes_16_86_25 n x2 V = some r → Fr w_State_becomes_16_86 V r := by
  intro n
  induction n with
  | zero =>
    intro x2 V r h
    cases h
  | succ n ih =>
    intro x2 V r h
    rw [d_State_becomes_16_86_25] at h
    rcases ai_if h with ⟨-, h⟩ | ⟨-, h⟩
    · obtain rfl := Option.some.inj h
      exact Fr.rf
    · rcases ai_if h with ⟨-, h⟩ | ⟨-, h⟩
      · rcases ai_if h with ⟨-, h⟩ | ⟨-, h⟩
        · rcases ai_if h with ⟨-, h⟩ | ⟨-, h⟩
          · rcases ai_if h with ⟨-, h⟩ | ⟨-, h⟩
            · exact Fr.tr (Fr.sa (Fr.sa Fr.rf rfl) rfl) (ih _ _ _ h) rfl
            · cases h
          · cases h
        · cases h
      · cases h
theorem fr_State_becomes_16_86 : ∀ (V : ai_V) (r : ai_V), d_State_becomes_16_86 V = some r → Fr w_State_becomes_16_86 V r := by
  intro V r h
  rw [d_State_becomes_16_86] at h
  exact Fr.tr (Fr.si (Fr.si Fr.rf rfl) rfl) (fr_State_becomes_16_86_25 _ _ _ _ h) rfl
def w_State_becomes_16_83 : Fw := ([(16, 0), (16, 1)], [17, 18])
theorem fr_State_becomes_16_83_25 : ∀ (n : Nat) (x2 : Int32) (V : ai_V) (r : ai_V), d_State_becomes_16_83_25 n x2 V = some r → Fr w_State_becomes_16_83 V r := by
  intro n
  induction n with
  | zero =>
    intro x2 V r h
    cases h
  | succ n ih =>
    intro x2 V r h
    rw [d_State_becomes_16_83_25] at h
    rcases ai_if h with ⟨-, h⟩ | ⟨-, h⟩
    · obtain rfl := Option.some.inj h
      exact Fr.rf
    · rcases ai_if h with ⟨-, h⟩ | ⟨-, h⟩
      · rcases ai_if h with ⟨-, h⟩ | ⟨-, h⟩
        · rcases ai_if h with ⟨-, h⟩ | ⟨-, h⟩
          · rcases ai_if h with ⟨-, h⟩ | ⟨-, h⟩
            · exact Fr.tr (Fr.sa (Fr.sa Fr.rf rfl) rfl) (ih _ _ _ h) rfl
            · cases h
          · cases h
        · cases h
      · cases h
theorem fr_State_becomes_16_83 : ∀ (V : ai_V) (r : ai_V), d_State_becomes_16_83 V = some r → Fr w_State_becomes_16_83 V r := by
  intro V r h
  rw [d_State_becomes_16_83] at h
  exact Fr.tr (Fr.si (Fr.si Fr.rf rfl) rfl) (fr_State_becomes_16_83_25 _ _ _ _ h) rfl
def w_X_again : Fw := ([(16, 0), (16, 1), (24, 1)], [17, 18])
theorem fr_X_again : ∀ (x1 : Int32) (V : ai_V) (r : (Int32 × ai_V)), d_X_again x1 V = some r → Fr w_X_again V r.2 := by
  intro x1 V r h
  rw [d_X_again] at h
  rcases ai_if h with ⟨-, h⟩ | ⟨-, h⟩
  · obtain rfl := Option.some.inj h
    exact Fr.rf
  · rcases ai_if h with ⟨-, h⟩ | ⟨-, h⟩
    · obtain rfl := Option.some.inj h
      exact Fr.rf
    · rcases ai_if h with ⟨-, h⟩ | ⟨-, h⟩
      · rcases ai_if h with ⟨-, h⟩ | ⟨-, h⟩
        · rcases ai_if h with ⟨-, h⟩ | ⟨-, h⟩
          · obtain ⟨q3, hq3, h⟩ := ai_bd h
            have gq3 : Fr w_X_again V q3 := (Fr.tr Fr.rf (fr_State_becomes_16_83 _ _ hq3) rfl)
            obtain ⟨q4, hq4, h⟩ := ai_bd h
            have gq4 : Fr w_X_again V q4 := (Fr.tr gq3 (fr_Past_clear _ _ hq4) rfl)
            obtain rfl := Option.some.inj h
            exact gq4
          · rcases ai_if h with ⟨-, h⟩ | ⟨-, h⟩
            · obtain ⟨q1, hq1, h⟩ := ai_bd h
              have gq1 : Fr w_X_again V q1 := (Fr.tr Fr.rf (fr_State_becomes_16_86 _ _ hq1) rfl)
              obtain ⟨q2, hq2, h⟩ := ai_bd h
              have gq2 : Fr w_X_again V q2 := (Fr.tr gq1 (fr_Past_clear _ _ hq2) rfl)
              obtain rfl := Option.some.inj h
              exact gq2
            · cases h
        · obtain rfl := Option.some.inj h
          exact Fr.rf
      · cases h
def w_Wheel_take_15_65_9 : Fw := ([(15, 4), (15, 5), (65, 1)], [67])
theorem fr_Wheel_take_15_65_9_105 {F18 : Int32 → Int32 → ai_V → Option ai_V} (hF18 : ∀ y0 y1 V r, F18 y0 y1 V = some r → Fr w_Wheel_take_15_65_9 V r) : ∀ (x3 : Int32) (x4 : Int32) (V : ai_V) (r : ai_V), d_Wheel_take_15_65_9_105 F18 x3 x4 V = some r → Fr w_Wheel_take_15_65_9 V r := by
  intro x3 x4 V r h
  rw [d_Wheel_take_15_65_9_105] at h
  exact Fr.tr Fr.rf (hF18 _ _ _ _ h) rfl
theorem fr_Wheel_take_15_65_9_18 : ∀ (n : Nat) (x3 : Int32) (x4 : Int32) (V : ai_V) (r : ai_V), d_Wheel_take_15_65_9_18 n x3 x4 V = some r → Fr w_Wheel_take_15_65_9 V r := by
  intro n
  induction n with
  | zero =>
    intro x3 x4 V r h
    cases h
  | succ n ih =>
    intro x3 x4 V r h
    rw [d_Wheel_take_15_65_9_18] at h
    rcases ai_if h with ⟨-, h⟩ | ⟨-, h⟩
    · obtain rfl := Option.some.inj h
      exact Fr.rf
    · rcases ai_if h with ⟨-, h⟩ | ⟨-, h⟩
      · obtain ⟨q1, hq1, h⟩ := ai_bd h
        rcases ai_if h with ⟨-, h⟩ | ⟨-, h⟩
        · rcases ai_if h with ⟨-, h⟩ | ⟨-, h⟩
          · rcases ai_if h with ⟨-, h⟩ | ⟨-, h⟩
            · exact Fr.tr (Fr.si (Fr.si (Fr.sa Fr.rf rfl) rfl) rfl) (fr_Wheel_take_15_65_9_105 ih _ _ _ _ h) rfl
            · cases h
          · cases h
        · exact Fr.tr (Fr.si Fr.rf rfl) (fr_Wheel_take_15_65_9_105 ih _ _ _ _ h) rfl
      · cases h
theorem fr_Wheel_take_15_65_9 : ∀ (V : ai_V) (r : ai_V), d_Wheel_take_15_65_9 V = some r → Fr w_Wheel_take_15_65_9 V r := by
  intro V r h
  rw [d_Wheel_take_15_65_9] at h
  obtain ⟨q2, hq2, h⟩ := ai_bd h
  exact Fr.tr (Fr.si (Fr.si Fr.rf rfl) rfl) (fr_Wheel_take_15_65_9_18 _ _ _ _ _ h) rfl
def w_Wheel_pass_15_65 : Fw := ([(15, 2), (15, 3), (15, 4), (15, 5), (65, 0), (65, 1)], [12, 13, 66, 67])
theorem fr_Wheel_pass_15_65_176 : ∀ (n : Nat) (x6 : Int32) (V : ai_V) (r : ai_V), d_Wheel_pass_15_65_176 n x6 V = some r → Fr w_Wheel_pass_15_65 V r := by
  intro n
  induction n with
  | zero =>
    intro x6 V r h
    cases h
  | succ n ih =>
    intro x6 V r h
    rw [d_Wheel_pass_15_65_176] at h
    rcases ai_if h with ⟨-, h⟩ | ⟨-, h⟩
    · obtain rfl := Option.some.inj h
      exact Fr.rf
    · rcases ai_if h with ⟨-, h⟩ | ⟨-, h⟩
      · obtain ⟨q1, hq1, h⟩ := ai_bd h
        rcases ai_if h with ⟨-, h⟩ | ⟨-, h⟩
        · exact Fr.tr (Fr.sa Fr.rf rfl) (ih _ _ _ h) rfl
        · cases h
      · cases h
theorem fr_Wheel_pass_15_65_144 : ∀ (V : ai_V) (r : ai_V), d_Wheel_pass_15_65_144 V = some r → Fr w_Wheel_pass_15_65 V r := by
  intro V r h
  rw [d_Wheel_pass_15_65_144] at h
  obtain ⟨q2, hq2, h⟩ := ai_bd h
  have gq2 : Fr w_Wheel_pass_15_65 V q2 := (Fr.tr Fr.rf (fr_Wheel_take_15_65_9 _ _ hq2) rfl)
  obtain ⟨q3, hq3, h⟩ := ai_bd h
  rcases ai_if h with ⟨-, h⟩ | ⟨-, h⟩
  · obtain rfl := Option.some.inj h
    exact (Fr.si gq2 rfl)
  · exact Fr.tr (Fr.si gq2 rfl) (fr_Wheel_pass_15_65_176 _ _ _ _ h) rfl
theorem fr_Wheel_pass_15_65_122 : ∀ (x3 : Int32) (x5 : Int32) (V : ai_V) (r : ai_V), d_Wheel_pass_15_65_122 x3 x5 V = some r → Fr w_Wheel_pass_15_65 V r := by
  intro x3 x5 V r h
  rw [d_Wheel_pass_15_65_122] at h
  obtain ⟨q4, hq4, h⟩ := ai_bd h
  rcases ai_if h with ⟨-, h⟩ | ⟨-, h⟩
  · exact Fr.tr Fr.rf (fr_Wheel_pass_15_65_144 _ _ h) rfl
  · rcases ai_if h with ⟨-, h⟩ | ⟨-, h⟩
    · rcases ai_if h with ⟨-, h⟩ | ⟨-, h⟩
      · exact Fr.tr (Fr.sa Fr.rf rfl) (fr_Wheel_pass_15_65_144 _ _ h) rfl
      · cases h
    · cases h
theorem fr_Wheel_pass_15_65 : ∀ (x2 : Int32) (x3 : Int32) (V : ai_V) (r : ai_V), d_Wheel_pass_15_65 x2 x3 V = some r → Fr w_Wheel_pass_15_65 V r := by
  intro x2 x3 V r h
  rw [d_Wheel_pass_15_65] at h
  obtain ⟨q5, hq5, h⟩ := ai_bd h
  obtain ⟨q6, hq6, h⟩ := ai_bd h
  have gq6 : Fr w_Wheel_pass_15_65 V q6.2 := (Fr.tr Fr.rf (fr_Wheel_pails _ _ _ _ _ _ _ hq6) rfl)
  obtain ⟨q7, hq7, h⟩ := ai_bd h
  have gq7 : Fr w_Wheel_pass_15_65 V q7.2 := (Fr.tr gq6 (fr_Wheel_pails _ _ _ _ _ _ _ hq7) rfl)
  obtain ⟨q8, hq8, h⟩ := ai_bd h
  obtain ⟨q9, hq9, h⟩ := ai_bd h
  rcases ai_if h with ⟨-, h⟩ | ⟨-, h⟩
  · exact Fr.tr (Fr.si (Fr.si (Fr.si gq7 rfl) rfl) rfl) (fr_Wheel_pass_15_65_122 _ _ _ _ h) rfl
  · rcases ai_if h with ⟨-, h⟩ | ⟨-, h⟩
    · rcases ai_if h with ⟨-, h⟩ | ⟨-, h⟩
      · exact Fr.tr (Fr.sa (Fr.si (Fr.si (Fr.si gq7 rfl) rfl) rfl) rfl) (fr_Wheel_pass_15_65_122 _ _ _ _ h) rfl
      · cases h
    · cases h
def w_Plan_costOf_114 : Fw := ([(15, 2), (15, 3), (15, 4), (15, 5), (65, 0), (65, 1)], [12, 13, 66, 67, 119])
theorem fr_Plan_costOf_114 {T : Int32 → Int32 → ai_V → Option (Int32 × ai_V)} (hT : ∀ y0 y1 V r, T y0 y1 V = some r → Fr w_Plan_costOf_114 V r.2) : ∀ (x1 : Int32) (s0 : Int32) (V : ai_V) (r : (Int32 × ai_V)), d_Plan_costOf_114 T x1 s0 V = some r → Fr w_Plan_costOf_114 V r.2 := by
  intro x1 s0 V r h
  rw [d_Plan_costOf_114] at h
  obtain ⟨q1, hq1, h⟩ := ai_bd h
  have gq1 : Fr w_Plan_costOf_114 V q1.2 := (Fr.tr Fr.rf (hT _ _ _ _ hq1) rfl)
  obtain rfl := Option.some.inj h
  exact gq1
