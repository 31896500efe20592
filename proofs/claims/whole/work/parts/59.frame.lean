/-! ===== printed by wip/gen/frames.py: what a method's function may write ===== -/
def w_Plan_costOf_83 : Fw := ([(15, 2), (15, 3), (15, 4), (15, 5), (65, 0), (65, 1)], [12, 13, 66, 67, 119])
theorem fr_Plan_costOf_83 {T : Int32 → Int32 → ai_V → Option (Int32 × ai_V)} (hT : ∀ y0 y1 V r, T y0 y1 V = some r → Fr w_Plan_costOf_83 V r.2) : ∀ (x1 : Int32) (s0 : Int32) (V : ai_V) (r : (Int32 × ai_V)), d_Plan_costOf_83 T x1 s0 V = some r → Fr w_Plan_costOf_83 V r.2 := by
  intro x1 s0 V r h
  rw [d_Plan_costOf_83] at h
  rcases ai_if h with ⟨-, h⟩ | ⟨-, h⟩
  · exact Fr.tr Fr.rf (fr_Plan_costOf_114 hT _ _ _ _ h) rfl
  · exact Fr.tr Fr.rf (fr_Plan_costOf_114 hT _ _ _ _ h) rfl
def w_Plan_costOf_73 : Fw := ([(15, 2), (15, 3), (15, 4), (15, 5), (65, 0), (65, 1)], [12, 13, 66, 67, 119])
theorem fr_Plan_costOf_73 {T : Int32 → Int32 → ai_V → Option (Int32 × ai_V)} (hT : ∀ y0 y1 V r, T y0 y1 V = some r → Fr w_Plan_costOf_73 V r.2) : ∀ (x1 : Int32) (x3 : Int32) (V : ai_V) (r : (Int32 × ai_V)), d_Plan_costOf_73 T x1 x3 V = some r → Fr w_Plan_costOf_73 V r.2 := by
  intro x1 x3 V r h
  rw [d_Plan_costOf_73] at h
  rcases ai_if h with ⟨-, h⟩ | ⟨-, h⟩
  · exact Fr.tr Fr.rf (fr_Plan_costOf_83 hT _ _ _ _ h) rfl
  · exact Fr.tr Fr.rf (fr_Plan_costOf_83 hT _ _ _ _ h) rfl
def w_Plan_costOf_19 : Fw := ([(15, 2), (15, 3), (15, 4), (15, 5), (65, 0), (65, 1)], [12, 13, 66, 67, 119])
theorem fr_Plan_costOf_19 {T : Int32 → Int32 → ai_V → Option (Int32 × ai_V)} (hT : ∀ y0 y1 V r, T y0 y1 V = some r → Fr w_Plan_costOf_19 V r.2) : ∀ (x1 : Int32) (x2 : Int32) (x3 : Int32) (V : ai_V) (r : (Int32 × ai_V)), d_Plan_costOf_19 T x1 x2 x3 V = some r → Fr w_Plan_costOf_19 V r.2 := by
  intro x1 x2 x3 V r h
  rw [d_Plan_costOf_19] at h
  obtain ⟨q2, hq2, h⟩ := ai_bd h
  have gq2 : Fr w_Plan_costOf_19 V q2 := (Fr.tr (Fr.si (Fr.si Fr.rf rfl) rfl) (fr_Wheel_pass_15_65 _ _ _ _ hq2) rfl)
  rcases ai_if h with ⟨-, h⟩ | ⟨-, h⟩
  · exact Fr.tr gq2 (fr_Plan_costOf_73 hT _ _ _ _ h) rfl
  · rcases ai_if h with ⟨-, h⟩ | ⟨-, h⟩
    · exact Fr.tr gq2 (fr_Plan_costOf_73 hT _ _ _ _ h) rfl
    · obtain rfl := Option.some.inj h
      exact gq2
def w_Plan_costOf_B : Fw := ([(15, 2), (15, 3), (15, 4), (15, 5), (65, 0), (65, 1)], [12, 13, 66, 67, 119])
theorem fr_Plan_costOf_B {T : Int32 → Int32 → ai_V → Option (Int32 × ai_V)} (hT : ∀ y0 y1 V r, T y0 y1 V = some r → Fr w_Plan_costOf_B V r.2) : ∀ (x1 : Int32) (x2 : Int32) (x3 : Int32) (V : ai_V) (r : (Int32 × ai_V)), d_Plan_costOf_B T x1 x2 x3 V = some r → Fr w_Plan_costOf_B V r.2 := by
  intro x1 x2 x3 V r h
  rw [d_Plan_costOf_B] at h
  rcases ai_if h with ⟨-, h⟩ | ⟨-, h⟩
  · exact Fr.tr Fr.rf (fr_Plan_costOf_19 hT _ _ _ _ _ h) rfl
  · rcases ai_if h with ⟨-, h⟩ | ⟨-, h⟩
    · exact Fr.tr Fr.rf (fr_Plan_costOf_19 hT _ _ _ _ _ h) rfl
    · obtain rfl := Option.some.inj h
      exact Fr.rf
def w_Plan_leastFrom : Fw := ([(15, 2), (15, 3), (15, 4), (15, 5), (65, 0), (65, 1)], [12, 13, 66, 67, 119])
theorem fr_Plan_leastFrom_52 {T : Int32 → Int32 → ai_V → Option (Int32 × ai_V)} (hT : ∀ y0 y1 V r, T y0 y1 V = some r → Fr w_Plan_leastFrom V r.2) : ∀ (V : ai_V) (r : (Int32 × ai_V)), d_Plan_leastFrom_52 T V = some r → Fr w_Plan_leastFrom V r.2 := by
  intro V r h
  rw [d_Plan_leastFrom_52] at h
  obtain rfl := Option.some.inj h
  exact Fr.rf
theorem fr_Plan_leastFrom_136 {T : Int32 → Int32 → ai_V → Option (Int32 × ai_V)} (hT : ∀ y0 y1 V r, T y0 y1 V = some r → Fr w_Plan_leastFrom V r.2) : ∀ (x3 : Int32) (V : ai_V) (r : (Int32 × ai_V)), d_Plan_leastFrom_136 T x3 V = some r → Fr w_Plan_leastFrom V r.2 := by
  intro x3 V r h
  rw [d_Plan_leastFrom_136] at h
  rcases ai_if h with ⟨-, h⟩ | ⟨-, h⟩
  · rcases ai_if h with ⟨-, h⟩ | ⟨-, h⟩
    · obtain rfl := Option.some.inj h
      exact Fr.rf
    · cases h
  · cases h
theorem fr_Plan_leastFrom_128 {T : Int32 → Int32 → ai_V → Option (Int32 × ai_V)} (hT : ∀ y0 y1 V r, T y0 y1 V = some r → Fr w_Plan_leastFrom V r.2) : ∀ (x3 : Int32) (x4 : Int32) (V : ai_V) (r : (Int32 × ai_V)), d_Plan_leastFrom_128 T x3 x4 V = some r → Fr w_Plan_leastFrom V r.2 := by
  intro x3 x4 V r h
  rw [d_Plan_leastFrom_128] at h
  rcases ai_if h with ⟨-, h⟩ | ⟨-, h⟩
  · rcases ai_if h with ⟨-, h⟩ | ⟨-, h⟩
    · exact Fr.tr (Fr.sa Fr.rf rfl) (fr_Plan_leastFrom_136 hT _ _ _ h) rfl
    · cases h
  · cases h
theorem fr_Plan_leastFrom_93 {T : Int32 → Int32 → ai_V → Option (Int32 × ai_V)} (hT : ∀ y0 y1 V r, T y0 y1 V = some r → Fr w_Plan_leastFrom V r.2) : ∀ (n : Nat) (x1 : Int32) (x2 : Int32) (x3 : Int32) (x4 : Int32) (x5 : Int32) (x6 : Int32) (V : ai_V) (r : (Int32 × ai_V)), d_Plan_leastFrom_93 T n x1 x2 x3 x4 x5 x6 V = some r → Fr w_Plan_leastFrom V r.2 := by
  intro n
  induction n with
  | zero =>
    intro x1 x2 x3 x4 x5 x6 V r h
    cases h
  | succ n ih =>
    intro x1 x2 x3 x4 x5 x6 V r h
    rw [d_Plan_leastFrom_93] at h
    rcases ai_if h with ⟨-, h⟩ | ⟨-, h⟩
    · exact Fr.tr Fr.rf (fr_Plan_leastFrom_128 hT _ _ _ _ h) rfl
    · rcases ai_if h with ⟨-, h⟩ | ⟨-, h⟩
      · exact Fr.tr Fr.rf (fr_Plan_leastFrom_128 hT _ _ _ _ h) rfl
      · obtain ⟨q1, hq1, h⟩ := ai_bd h
        have gq1 : Fr w_Plan_leastFrom V q1.2 := (Fr.tr Fr.rf (fr_Plan_costOf_B hT _ _ _ _ _ hq1) rfl)
        exact Fr.tr gq1 (ih _ _ _ _ _ _ _ _ h) rfl
theorem fr_Plan_leastFrom_88 {T : Int32 → Int32 → ai_V → Option (Int32 × ai_V)} (hT : ∀ y0 y1 V r, T y0 y1 V = some r → Fr w_Plan_leastFrom V r.2) : ∀ (x1 : Int32) (x2 : Int32) (x3 : Int32) (x4 : Int32) (s0 : Int32) (V : ai_V) (r : (Int32 × ai_V)), d_Plan_leastFrom_88 T x1 x2 x3 x4 s0 V = some r → Fr w_Plan_leastFrom V r.2 := by
  intro x1 x2 x3 x4 s0 V r h
  rw [d_Plan_leastFrom_88] at h
  exact Fr.tr Fr.rf (fr_Plan_leastFrom_93 hT _ _ _ _ _ _ _ _ _ h) rfl
theorem fr_Plan_leastFrom_B {T : Int32 → Int32 → ai_V → Option (Int32 × ai_V)} (hT : ∀ y0 y1 V r, T y0 y1 V = some r → Fr w_Plan_leastFrom V r.2) : ∀ (x1 : Int32) (x2 : Int32) (V : ai_V) (r : (Int32 × ai_V)), d_Plan_leastFrom_B T x1 x2 V = some r → Fr w_Plan_leastFrom V r.2 := by
  intro x1 x2 V r h
  rw [d_Plan_leastFrom_B] at h
  rcases ai_if h with ⟨-, h⟩ | ⟨-, h⟩
  · rcases ai_if h with ⟨-, h⟩ | ⟨-, h⟩
    · exact Fr.tr Fr.rf (fr_Plan_leastFrom_52 hT _ _ h) rfl
    · rcases ai_if h with ⟨-, h⟩ | ⟨-, h⟩
      · rcases ai_if h with ⟨-, h⟩ | ⟨-, h⟩
        · rcases ai_if h with ⟨-, h⟩ | ⟨-, h⟩
          · rcases ai_if h with ⟨-, h⟩ | ⟨-, h⟩
            · rcases ai_if h with ⟨-, h⟩ | ⟨-, h⟩
              · exact Fr.tr Fr.rf (fr_Plan_leastFrom_136 hT _ _ _ h) rfl
              · obtain ⟨q2, hq2, h⟩ := ai_bd h
                have gq2 : Fr w_Plan_leastFrom V q2.2 := (Fr.tr Fr.rf (fr_Plan_costOf_B hT _ _ _ _ _ hq2) rfl)
                rcases ai_if h with ⟨-, h⟩ | ⟨-, h⟩
                · exact Fr.tr gq2 (fr_Plan_leastFrom_88 hT _ _ _ _ _ _ _ h) rfl
                · exact Fr.tr gq2 (fr_Plan_leastFrom_88 hT _ _ _ _ _ _ _ h) rfl
            · cases h
          · cases h
        · exact Fr.tr Fr.rf (fr_Plan_leastFrom_52 hT _ _ h) rfl
      · cases h
  · rcases ai_if h with ⟨-, h⟩ | ⟨-, h⟩
    · obtain rfl := Option.some.inj h
      exact Fr.rf
    · obtain rfl := Option.some.inj h
      exact Fr.rf
theorem fr_Plan_leastFrom_R : ∀ (n : Nat) (x1 : Int32) (x2 : Int32) (V : ai_V) (r : (Int32 × ai_V)), d_Plan_leastFrom_R n x1 x2 V = some r → Fr w_Plan_leastFrom V r.2 := by
  intro n
  induction n with
  | zero =>
    intro x1 x2 V r h
    cases h
  | succ n ih =>
    intro x1 x2 V r h
    rw [d_Plan_leastFrom_R] at h
    exact Fr.tr Fr.rf (fr_Plan_leastFrom_B ih _ _ _ _ h) rfl
theorem fr_Plan_leastFrom : ∀ (x0 : Int32) (x1 : Int32) (V : ai_V) (r : (Int32 × ai_V)), d_Plan_leastFrom x0 x1 V = some r → Fr w_Plan_leastFrom V r.2 := by
  intro x0 x1 V r h
  rw [d_Plan_leastFrom] at h
  exact Fr.tr Fr.rf (fr_Plan_leastFrom_R _ _ _ _ _ h) rfl
def w_Plan_costOf : Fw := ([(15, 2), (15, 3), (15, 4), (15, 5), (65, 0), (65, 1)], [12, 13, 66, 67, 119])
theorem fr_Plan_costOf : ∀ (x0 : Int32) (x1 : Int32) (x2 : Int32) (V : ai_V) (r : (Int32 × ai_V)), d_Plan_costOf x0 x1 x2 V = some r → Fr w_Plan_costOf V r.2 := by
  intro x0 x1 x2 V r h
  rw [d_Plan_costOf] at h
  exact Fr.tr Fr.rf (fr_Plan_costOf_B fr_Plan_leastFrom _ _ _ _ _ h) rfl
def w_Plan_levelBehind : Fw := ([(15, 2), (15, 3), (15, 4), (15, 5), (65, 0), (65, 1)], [12, 13, 66, 67])
theorem fr_Plan_levelBehind : ∀ (x1 : Int32) (x2 : Int32) (x3 : Int32) (V : ai_V) (r : (Int32 × ai_V)), d_Plan_levelBehind x1 x2 x3 V = some r → Fr w_Plan_levelBehind V r.2 := by
  intro x1 x2 x3 V r h
  rw [d_Plan_levelBehind] at h
  obtain ⟨q1, hq1, h⟩ := ai_bd h
  have gq1 : Fr w_Plan_levelBehind V q1 := (Fr.tr (Fr.si (Fr.si Fr.rf rfl) rfl) (fr_Wheel_pass_15_65 _ _ _ _ hq1) rfl)
  obtain rfl := Option.some.inj h
  exact gq1
def w_Plan_tellInto : Fw := ([(15, 2), (15, 3), (15, 4), (15, 5), (22, 1), (65, 0), (65, 1)], [12, 13, 23, 66, 67, 119])
theorem fr_Plan_tellInto_50 {F6 : Int32 → Int32 → ai_V → Option ai_V} (hF6 : ∀ y0 y1 V r, F6 y0 y1 V = some r → Fr w_Plan_tellInto V r) : ∀ (x2 : Int32) (x3 : Int32) (x5 : Int32) (V : ai_V) (r : ai_V), d_Plan_tellInto_50 F6 x2 x3 x5 V = some r → Fr w_Plan_tellInto V r := by
  intro x2 x3 x5 V r h
  rw [d_Plan_tellInto_50] at h
  obtain ⟨q1, hq1, h⟩ := ai_bd h
  have gq1 : Fr w_Plan_tellInto V q1 := (Fr.tr Fr.rf (fr_Row_add _ _ _ hq1) rfl)
  obtain ⟨q2, hq2, h⟩ := ai_bd h
  have gq2 : Fr w_Plan_tellInto V q2.2 := (Fr.tr gq1 (fr_Plan_levelBehind _ _ _ _ _ hq2) rfl)
  exact Fr.tr gq2 (hF6 _ _ _ _ h) rfl
theorem fr_Plan_tellInto_25 {F6 : Int32 → Int32 → ai_V → Option ai_V} (hF6 : ∀ y0 y1 V r, F6 y0 y1 V = some r → Fr w_Plan_tellInto V r) : ∀ (n : Nat) (x2 : Int32) (x3 : Int32) (x4 : Int32) (x5 : Int32) (V : ai_V) (r : ai_V), d_Plan_tellInto_25 F6 n x2 x3 x4 x5 V = some r → Fr w_Plan_tellInto V r := by
  intro n
  induction n with
  | zero =>
    intro x2 x3 x4 x5 V r h
    cases h
  | succ n ih =>
    intro x2 x3 x4 x5 V r h
    rw [d_Plan_tellInto_25] at h
    rcases ai_if h with ⟨-, h⟩ | ⟨-, h⟩
    · exact Fr.tr Fr.rf (fr_Plan_tellInto_50 hF6 _ _ _ _ _ h) rfl
    · obtain ⟨q3, hq3, h⟩ := ai_bd h
      have gq3 : Fr w_Plan_tellInto V q3.2 := (Fr.tr Fr.rf (fr_Plan_costOf _ _ _ _ _ hq3) rfl)
      rcases ai_if h with ⟨-, h⟩ | ⟨-, h⟩
      · exact Fr.tr gq3 (fr_Plan_tellInto_50 hF6 _ _ _ _ _ h) rfl
      · exact Fr.tr gq3 (ih _ _ _ _ _ _ h) rfl
theorem fr_Plan_tellInto_6 : ∀ (n : Nat) (x2 : Int32) (x3 : Int32) (V : ai_V) (r : ai_V), d_Plan_tellInto_6 n x2 x3 V = some r → Fr w_Plan_tellInto V r := by
  intro n
  induction n with
  | zero =>
    intro x2 x3 V r h
    cases h
  | succ n ih =>
    intro x2 x3 V r h
    rw [d_Plan_tellInto_6] at h
    rcases ai_if h with ⟨-, h⟩ | ⟨-, h⟩
    · obtain rfl := Option.some.inj h
      exact Fr.rf
    · obtain ⟨q4, hq4, h⟩ := ai_bd h
      have gq4 : Fr w_Plan_tellInto V q4.2 := (Fr.tr Fr.rf (fr_Plan_leastFrom _ _ _ _ hq4) rfl)
      exact Fr.tr gq4 (fr_Plan_tellInto_25 ih _ _ _ _ _ _ _ h) rfl
theorem fr_Plan_tellInto : ∀ (x2 : Int32) (V : ai_V) (r : ai_V), d_Plan_tellInto x2 V = some r → Fr w_Plan_tellInto V r := by
  intro x2 V r h
  rw [d_Plan_tellInto] at h
  obtain ⟨q5, hq5, h⟩ := ai_bd h
  have gq5 : Fr w_Plan_tellInto V q5 := (Fr.tr Fr.rf (fr_Row_clear _ _ hq5) rfl)
  exact Fr.tr gq5 (fr_Plan_tellInto_6 _ _ _ _ _ h) rfl
def w_Plan_leastCost : Fw := ([(15, 2), (15, 3), (15, 4), (15, 5), (64, 3), (64, 4), (64, 5), (64, 6), (65, 0), (65, 1), (65, 2)], [12, 13, 66, 67, 119])
theorem fr_Plan_leastCost_95 : ∀ (V : ai_V) (r : (Int32 × ai_V)), d_Plan_leastCost_95 V = some r → Fr w_Plan_leastCost V r.2 := by
  intro V r h
  rw [d_Plan_leastCost_95] at h
  obtain ⟨q1, hq1, h⟩ := ai_bd h
  have gq1 : Fr w_Plan_leastCost V q1.2 := (Fr.tr Fr.rf (fr_Plan_leastFrom _ _ _ _ hq1) rfl)
  obtain rfl := Option.some.inj h
  exact gq1
theorem fr_Plan_leastCost_55 : ∀ (n : Nat) (x5 : Int32) (V : ai_V) (r : (Int32 × ai_V)), d_Plan_leastCost_55 n x5 V = some r → Fr w_Plan_leastCost V r.2 := by
  intro n
  induction n with
  | zero =>
    intro x5 V r h
    cases h
  | succ n ih =>
    intro x5 V r h
    rw [d_Plan_leastCost_55] at h
    rcases ai_if h with ⟨-, h⟩ | ⟨-, h⟩
    · exact Fr.tr Fr.rf (fr_Plan_leastCost_95 _ _ h) rfl
    · rcases ai_if h with ⟨-, h⟩ | ⟨-, h⟩
      · rcases ai_if h with ⟨-, h⟩ | ⟨-, h⟩
        · exact Fr.tr Fr.rf (fr_Plan_leastCost_95 _ _ h) rfl
        · rcases ai_if h with ⟨-, h⟩ | ⟨-, h⟩
          · rcases ai_if h with ⟨-, h⟩ | ⟨-, h⟩
            · exact Fr.tr (Fr.sa Fr.rf rfl) (ih _ _ _ h) rfl
            · cases h
          · cases h
      · cases h
theorem fr_Plan_leastCost_17 : ∀ (x2 : Int32) (x3 : Int32) (x4 : Int32) (V : ai_V) (r : (Int32 × ai_V)), d_Plan_leastCost_17 x2 x3 x4 V = some r → Fr w_Plan_leastCost V r.2 := by
  intro x2 x3 x4 V r h
  rw [d_Plan_leastCost_17] at h
  rcases ai_if h with ⟨-, h⟩ | ⟨-, h⟩
  · exact Fr.tr (Fr.si (Fr.si (Fr.si (Fr.si (Fr.si Fr.rf rfl) rfl) rfl) rfl) rfl) (fr_Plan_leastCost_55 _ _ _ _ h) rfl
  · cases h
theorem fr_Plan_leastCost : ∀ (x2 : Int32) (x3 : Int32) (x4 : Int32) (V : ai_V) (r : (Int32 × ai_V)), d_Plan_leastCost x2 x3 x4 V = some r → Fr w_Plan_leastCost V r.2 := by
  intro x2 x3 x4 V r h
  rw [d_Plan_leastCost] at h
  rcases ai_if h with ⟨-, h⟩ | ⟨-, h⟩
  · exact Fr.tr Fr.rf (fr_Plan_leastCost_17 _ _ _ _ _ h) rfl
  · cases h
def w_X_fewest : Fw := ([(15, 2), (15, 3), (15, 4), (15, 5), (22, 1), (64, 3), (64, 4), (64, 5), (64, 6), (65, 0), (65, 1), (65, 2)], [12, 13, 23, 66, 67, 119])
theorem fr_X_fewest_38 : ∀ (s0 : Int32) (V : ai_V) (r : (Int32 × ai_V)), d_X_fewest_38 s0 V = some r → Fr w_X_fewest V r.2 := by
  intro s0 V r h
  rw [d_X_fewest_38] at h
  rcases ai_if h with ⟨-, h⟩ | ⟨-, h⟩
  · obtain ⟨q1, hq1, h⟩ := ai_bd h
    have gq1 : Fr w_X_fewest V q1 := (Fr.tr Fr.rf (fr_Plan_tellInto _ _ _ hq1) rfl)
    obtain rfl := Option.some.inj h
    exact gq1
  · obtain rfl := Option.some.inj h
    exact Fr.rf
theorem fr_X_fewest : ∀ (x1 : Int32) (x2 : Int32) (V : ai_V) (r : (Int32 × ai_V)), d_X_fewest x1 x2 V = some r → Fr w_X_fewest V r.2 := by
  intro x1 x2 V r h
  rw [d_X_fewest] at h
  obtain ⟨q2, hq2, h⟩ := ai_bd h
  rcases ai_if h with ⟨-, h⟩ | ⟨-, h⟩
  · obtain rfl := Option.some.inj h
    exact Fr.rf
  · rcases ai_if h with ⟨-, h⟩ | ⟨-, h⟩
    · obtain rfl := Option.some.inj h
      exact Fr.rf
    · rcases ai_if h with ⟨-, h⟩ | ⟨-, h⟩
      · obtain ⟨q3, hq3, h⟩ := ai_bd h
        have gq3 : Fr w_X_fewest V q3.2 := (Fr.tr Fr.rf (fr_Plan_leastCost _ _ _ _ _ hq3) rfl)
        exact Fr.tr gq3 (fr_X_fewest_38 _ _ _ h) rfl
      · obtain rfl := Option.some.inj h
        exact Fr.rf
def w_X_driest : Fw := ([(15, 2), (15, 3), (15, 4), (15, 5), (22, 1), (64, 3), (64, 4), (64, 5), (64, 6), (65, 0), (65, 1), (65, 2)], [12, 13, 23, 66, 67, 119])
theorem fr_X_driest_38 : ∀ (s0 : Int32) (V : ai_V) (r : (Int32 × ai_V)), d_X_driest_38 s0 V = some r → Fr w_X_driest V r.2 := by
  intro s0 V r h
  rw [d_X_driest_38] at h
  obtain ⟨q1, hq1, h⟩ := ai_bd h
  have gq1 : Fr w_X_driest V q1 := (Fr.tr Fr.rf (fr_Plan_tellInto _ _ _ hq1) rfl)
  obtain rfl := Option.some.inj h
  exact gq1
theorem fr_X_driest : ∀ (x1 : Int32) (x2 : Int32) (V : ai_V) (r : (Int32 × ai_V)), d_X_driest x1 x2 V = some r → Fr w_X_driest V r.2 := by
  intro x1 x2 V r h
  rw [d_X_driest] at h
  obtain ⟨q2, hq2, h⟩ := ai_bd h
  rcases ai_if h with ⟨-, h⟩ | ⟨-, h⟩
  · obtain rfl := Option.some.inj h
    exact Fr.rf
  · rcases ai_if h with ⟨-, h⟩ | ⟨-, h⟩
    · obtain rfl := Option.some.inj h
      exact Fr.rf
    · rcases ai_if h with ⟨-, h⟩ | ⟨-, h⟩
      · obtain ⟨q3, hq3, h⟩ := ai_bd h
        have gq3 : Fr w_X_driest V q3.2 := (Fr.tr Fr.rf (fr_Plan_leastCost _ _ _ _ _ hq3) rfl)
        exact Fr.tr gq3 (fr_X_driest_38 _ _ _ h) rfl
      · obtain rfl := Option.some.inj h
        exact Fr.rf
def w0_X_fewest : Fw := ([(15, 2), (15, 3), (15, 4), (15, 5), (22, 1), (64, 2), (64, 3), (64, 4), (64, 5), (64, 6), (65, 0), (65, 1), (65, 2)], [12, 13, 23, 66, 67, 119])
theorem fr_0X_fewest : ∀ (x1 : Int32) (x2 : Int32) (V : ai_V) (r : (Int32 × ai_V)), d0_X_fewest x1 x2 V = some r → Fr w0_X_fewest V r.2 := by
  intro x1 x2 V r h
  rw [d0_X_fewest] at h
  obtain ⟨q2, hq2, h⟩ := ai_bd h
  rcases ai_if h with ⟨-, h⟩ | ⟨-, h⟩
  · cases h
  · rcases ai_if h with ⟨-, h⟩ | ⟨-, h⟩
    · cases h
    · rcases ai_if h with ⟨-, h⟩ | ⟨-, h⟩
      · obtain ⟨q3, hq3, h⟩ := ai_bd h
        have gq3 : Fr w0_X_fewest V q3.2 := (Fr.tr (Fr.al0 Fr.rf rfl rfl) (fr_Plan_leastCost_17 _ _ _ _ _ hq3) rfl)
        exact Fr.tr gq3 (fr_X_fewest_38 _ _ _ h) rfl
      · cases h
def w0_X_driest : Fw := ([(15, 2), (15, 3), (15, 4), (15, 5), (22, 1), (64, 2), (64, 3), (64, 4), (64, 5), (64, 6), (65, 0), (65, 1), (65, 2)], [12, 13, 23, 66, 67, 119])
theorem fr_0X_driest : ∀ (x1 : Int32) (x2 : Int32) (V : ai_V) (r : (Int32 × ai_V)), d0_X_driest x1 x2 V = some r → Fr w0_X_driest V r.2 := by
  intro x1 x2 V r h
  rw [d0_X_driest] at h
  obtain ⟨q2, hq2, h⟩ := ai_bd h
  rcases ai_if h with ⟨-, h⟩ | ⟨-, h⟩
  · cases h
  · rcases ai_if h with ⟨-, h⟩ | ⟨-, h⟩
    · cases h
    · rcases ai_if h with ⟨-, h⟩ | ⟨-, h⟩
      · obtain ⟨q3, hq3, h⟩ := ai_bd h
        have gq3 : Fr w0_X_driest V q3.2 := (Fr.tr (Fr.al0 Fr.rf rfl rfl) (fr_Plan_leastCost_17 _ _ _ _ _ hq3) rfl)
        exact Fr.tr gq3 (fr_X_driest_38 _ _ _ h) rfl
      · cases h
