/-! ===== printed by wip/gen/frames.py: what a method's function may write ===== -/
def w_Rule_emit : Fw := ([(10, 6)], [14])
theorem fr_Rule_emit : ∀ (x1 : Int32) (V : ai_V) (r : ai_V), d_Rule_emit x1 V = some r → Fr w_Rule_emit V r := by
  intro x1 V r h
  rw [d_Rule_emit] at h
  rcases ai_if h with ⟨-, h⟩ | ⟨-, h⟩
  · obtain rfl := Option.some.inj h
    exact Fr.rf
  · rcases ai_if h with ⟨-, h⟩ | ⟨-, h⟩
    · obtain rfl := Option.some.inj h
      exact (Fr.si (Fr.sa Fr.rf rfl) rfl)
    · cases h
def w_Rule_negated_45 : Fw := ([(10, 6), (10, 7)], [14])
theorem fr_Rule_negated_45 {T : Int32 → ai_V → Option (Int32 × ai_V)} (hT : ∀ y0 V r, T y0 V = some r → Fr w_Rule_negated_45 V r.2) : ∀ (x1 : Int32) (x2 : Int32) (V : ai_V) (r : (Int32 × ai_V)), d_Rule_negated_45 T x1 x2 V = some r → Fr w_Rule_negated_45 V r.2 := by
  intro x1 x2 V r h
  rw [d_Rule_negated_45] at h
  obtain ⟨q1, hq1, h⟩ := ai_bd h
  have gq1 : Fr w_Rule_negated_45 V q1.2 := (Fr.tr Fr.rf (hT _ _ _ hq1) rfl)
  rcases ai_if h with ⟨-, h⟩ | ⟨-, h⟩
  · rcases ai_if h with ⟨-, h⟩ | ⟨-, h⟩
    · obtain rfl := Option.some.inj h
      exact gq1
    · cases h
  · obtain ⟨q2, hq2, h⟩ := ai_bd h
    have gq2 : Fr w_Rule_negated_45 V q2 := (Fr.tr gq1 (fr_Rule_emit _ _ _ hq2) rfl)
    rcases ai_if h with ⟨-, h⟩ | ⟨-, h⟩
    · obtain rfl := Option.some.inj h
      exact gq2
    · cases h
def w_Rule_negated_38 : Fw := ([(10, 6), (10, 7)], [14])
theorem fr_Rule_negated_38 {T : Int32 → ai_V → Option (Int32 × ai_V)} {F4 : Int32 → Int32 → Int32 → ai_V → Option (Int32 × ai_V)} (hT : ∀ y0 V r, T y0 V = some r → Fr w_Rule_negated_38 V r.2) (hF4 : ∀ y0 y1 y2 V r, F4 y0 y1 y2 V = some r → Fr w_Rule_negated_38 V r.2) : ∀ (x1 : Int32) (x3 : Int32) (s0 : Int32) (V : ai_V) (r : (Int32 × ai_V)), d_Rule_negated_38 T F4 x1 x3 s0 V = some r → Fr w_Rule_negated_38 V r.2 := by
  intro x1 x3 s0 V r h
  rw [d_Rule_negated_38] at h
  exact Fr.tr Fr.rf (hF4 _ _ _ _ _ h) rfl
def w_Rule_negated_4 : Fw := ([(10, 6), (10, 7)], [14])
theorem fr_Rule_negated_4 {T : Int32 → ai_V → Option (Int32 × ai_V)} (hT : ∀ y0 V r, T y0 V = some r → Fr w_Rule_negated_4 V r.2) : ∀ (n : Nat) (x1 : Int32) (x2 : Int32) (x3 : Int32) (V : ai_V) (r : (Int32 × ai_V)), d_Rule_negated_4 T n x1 x2 x3 V = some r → Fr w_Rule_negated_4 V r.2 := by
  intro n
  induction n with
  | zero =>
    intro x1 x2 x3 V r h
    cases h
  | succ n ih =>
    intro x1 x2 x3 V r h
    rw [d_Rule_negated_4] at h
    rcases ai_if h with ⟨-, h⟩ | ⟨-, h⟩
    · exact Fr.tr Fr.rf (fr_Rule_negated_45 hT _ _ _ _ h) rfl
    · obtain ⟨q3, hq3, h⟩ := ai_bd h
      rcases ai_if h with ⟨-, h⟩ | ⟨-, h⟩
      · exact Fr.tr Fr.rf (fr_Rule_negated_45 hT _ _ _ _ h) rfl
      · rcases ai_if h with ⟨-, h⟩ | ⟨-, h⟩
        · exact Fr.tr (Fr.si Fr.rf rfl) (fr_Rule_negated_38 hT ih _ _ _ _ _ h) rfl
        · exact Fr.tr (Fr.si Fr.rf rfl) (fr_Rule_negated_38 hT ih _ _ _ _ _ h) rfl
def w_Rule_negated_B : Fw := ([(10, 6), (10, 7)], [14])
theorem fr_Rule_negated_B {T : Int32 → ai_V → Option (Int32 × ai_V)} (hT : ∀ y0 V r, T y0 V = some r → Fr w_Rule_negated_B V r.2) : ∀ (x1 : Int32) (V : ai_V) (r : (Int32 × ai_V)), d_Rule_negated_B T x1 V = some r → Fr w_Rule_negated_B V r.2 := by
  intro x1 V r h
  rw [d_Rule_negated_B] at h
  exact Fr.tr Fr.rf (fr_Rule_negated_4 hT _ _ _ _ _ _ h) rfl
def w_Rule_product_36 : Fw := ([(10, 6), (10, 7)], [14])
theorem fr_Rule_product_36 {T : Int32 → ai_V → Option (Int32 × ai_V)} {F8 : Int32 → Int32 → Int32 → ai_V → Option (Int32 × ai_V)} (hT : ∀ y0 V r, T y0 V = some r → Fr w_Rule_product_36 V r.2) (hF8 : ∀ y0 y1 y2 V r, F8 y0 y1 y2 V = some r → Fr w_Rule_product_36 V r.2) : ∀ (x1 : Int32) (x3 : Int32) (V : ai_V) (r : (Int32 × ai_V)), d_Rule_product_36 T F8 x1 x3 V = some r → Fr w_Rule_product_36 V r.2 := by
  intro x1 x3 V r h
  rw [d_Rule_product_36] at h
  obtain ⟨q1, hq1, h⟩ := ai_bd h
  obtain ⟨q2, hq2, h⟩ := ai_bd h
  have gq2 : Fr w_Rule_product_36 V q2.2 := (Fr.tr (Fr.si Fr.rf rfl) (fr_Rule_negated_B hT _ _ _ hq2) rfl)
  obtain ⟨q3, hq3, h⟩ := ai_bd h
  have gq3 : Fr w_Rule_product_36 V q3 := (Fr.tr gq2 (fr_Rule_emit _ _ _ hq3) rfl)
  exact Fr.tr gq3 (hF8 _ _ _ _ _ h) rfl
def w_Rule_product_8 : Fw := ([(10, 6), (10, 7)], [14])
theorem fr_Rule_product_8 {T : Int32 → ai_V → Option (Int32 × ai_V)} (hT : ∀ y0 V r, T y0 V = some r → Fr w_Rule_product_8 V r.2) : ∀ (n : Nat) (x1 : Int32) (x2 : Int32) (x3 : Int32) (V : ai_V) (r : (Int32 × ai_V)), d_Rule_product_8 T n x1 x2 x3 V = some r → Fr w_Rule_product_8 V r.2 := by
  intro n
  induction n with
  | zero =>
    intro x1 x2 x3 V r h
    cases h
  | succ n ih =>
    intro x1 x2 x3 V r h
    rw [d_Rule_product_8] at h
    rcases ai_if h with ⟨-, h⟩ | ⟨-, h⟩
    · rcases ai_if h with ⟨-, h⟩ | ⟨-, h⟩
      · obtain rfl := Option.some.inj h
        exact Fr.rf
      · cases h
    · rcases ai_if h with ⟨-, h⟩ | ⟨-, h⟩
      · rcases ai_if h with ⟨-, h⟩ | ⟨-, h⟩
        · obtain rfl := Option.some.inj h
          exact Fr.rf
        · cases h
      · obtain ⟨q4, hq4, h⟩ := ai_bd h
        rcases ai_if h with ⟨-, h⟩ | ⟨-, h⟩
        · exact Fr.tr Fr.rf (fr_Rule_product_36 hT ih _ _ _ _ h) rfl
        · obtain ⟨q5, hq5, h⟩ := ai_bd h
          rcases ai_if h with ⟨-, h⟩ | ⟨-, h⟩
          · rcases ai_if h with ⟨-, h⟩ | ⟨-, h⟩
            · obtain rfl := Option.some.inj h
              exact Fr.rf
            · cases h
          · exact Fr.tr Fr.rf (fr_Rule_product_36 hT ih _ _ _ _ h) rfl
def w_Rule_product_B : Fw := ([(10, 6), (10, 7)], [14])
theorem fr_Rule_product_B {T : Int32 → ai_V → Option (Int32 × ai_V)} (hT : ∀ y0 V r, T y0 V = some r → Fr w_Rule_product_B V r.2) : ∀ (x1 : Int32) (V : ai_V) (r : (Int32 × ai_V)), d_Rule_product_B T x1 V = some r → Fr w_Rule_product_B V r.2 := by
  intro x1 V r h
  rw [d_Rule_product_B] at h
  obtain ⟨q6, hq6, h⟩ := ai_bd h
  have gq6 : Fr w_Rule_product_B V q6.2 := (Fr.tr Fr.rf (fr_Rule_negated_B hT _ _ _ hq6) rfl)
  exact Fr.tr gq6 (fr_Rule_product_8 hT _ _ _ _ _ _ h) rfl
def w_Rule_sum_36 : Fw := ([(10, 6), (10, 7)], [14])
theorem fr_Rule_sum_36 {T : Int32 → ai_V → Option (Int32 × ai_V)} {F8 : Int32 → Int32 → Int32 → ai_V → Option (Int32 × ai_V)} (hT : ∀ y0 V r, T y0 V = some r → Fr w_Rule_sum_36 V r.2) (hF8 : ∀ y0 y1 y2 V r, F8 y0 y1 y2 V = some r → Fr w_Rule_sum_36 V r.2) : ∀ (x1 : Int32) (x3 : Int32) (V : ai_V) (r : (Int32 × ai_V)), d_Rule_sum_36 T F8 x1 x3 V = some r → Fr w_Rule_sum_36 V r.2 := by
  intro x1 x3 V r h
  rw [d_Rule_sum_36] at h
  obtain ⟨q1, hq1, h⟩ := ai_bd h
  obtain ⟨q2, hq2, h⟩ := ai_bd h
  have gq2 : Fr w_Rule_sum_36 V q2.2 := (Fr.tr (Fr.si Fr.rf rfl) (fr_Rule_product_B hT _ _ _ hq2) rfl)
  obtain ⟨q3, hq3, h⟩ := ai_bd h
  have gq3 : Fr w_Rule_sum_36 V q3 := (Fr.tr gq2 (fr_Rule_emit _ _ _ hq3) rfl)
  exact Fr.tr gq3 (hF8 _ _ _ _ _ h) rfl
def w_Rule_sum_8 : Fw := ([(10, 6), (10, 7)], [14])
theorem fr_Rule_sum_8 {T : Int32 → ai_V → Option (Int32 × ai_V)} (hT : ∀ y0 V r, T y0 V = some r → Fr w_Rule_sum_8 V r.2) : ∀ (n : Nat) (x1 : Int32) (x2 : Int32) (x3 : Int32) (V : ai_V) (r : (Int32 × ai_V)), d_Rule_sum_8 T n x1 x2 x3 V = some r → Fr w_Rule_sum_8 V r.2 := by
  intro n
  induction n with
  | zero =>
    intro x1 x2 x3 V r h
    cases h
  | succ n ih =>
    intro x1 x2 x3 V r h
    rw [d_Rule_sum_8] at h
    rcases ai_if h with ⟨-, h⟩ | ⟨-, h⟩
    · rcases ai_if h with ⟨-, h⟩ | ⟨-, h⟩
      · obtain rfl := Option.some.inj h
        exact Fr.rf
      · cases h
    · rcases ai_if h with ⟨-, h⟩ | ⟨-, h⟩
      · rcases ai_if h with ⟨-, h⟩ | ⟨-, h⟩
        · obtain rfl := Option.some.inj h
          exact Fr.rf
        · cases h
      · obtain ⟨q4, hq4, h⟩ := ai_bd h
        rcases ai_if h with ⟨-, h⟩ | ⟨-, h⟩
        · exact Fr.tr Fr.rf (fr_Rule_sum_36 hT ih _ _ _ _ h) rfl
        · obtain ⟨q5, hq5, h⟩ := ai_bd h
          rcases ai_if h with ⟨-, h⟩ | ⟨-, h⟩
          · rcases ai_if h with ⟨-, h⟩ | ⟨-, h⟩
            · obtain rfl := Option.some.inj h
              exact Fr.rf
            · cases h
          · exact Fr.tr Fr.rf (fr_Rule_sum_36 hT ih _ _ _ _ h) rfl
def w_Rule_sum_B : Fw := ([(10, 6), (10, 7)], [14])
theorem fr_Rule_sum_B {T : Int32 → ai_V → Option (Int32 × ai_V)} (hT : ∀ y0 V r, T y0 V = some r → Fr w_Rule_sum_B V r.2) : ∀ (x1 : Int32) (V : ai_V) (r : (Int32 × ai_V)), d_Rule_sum_B T x1 V = some r → Fr w_Rule_sum_B V r.2 := by
  intro x1 V r h
  rw [d_Rule_sum_B] at h
  obtain ⟨q6, hq6, h⟩ := ai_bd h
  have gq6 : Fr w_Rule_sum_B V q6.2 := (Fr.tr Fr.rf (fr_Rule_product_B hT _ _ _ hq6) rfl)
  exact Fr.tr gq6 (fr_Rule_sum_8 hT _ _ _ _ _ _ h) rfl
def w_Rule_expression_35 : Fw := ([(10, 6), (10, 7)], [14])
theorem fr_Rule_expression_35 {T : Int32 → ai_V → Option (Int32 × ai_V)} (hT : ∀ y0 V r, T y0 V = some r → Fr w_Rule_expression_35 V r.2) : ∀ (x1 : Int32) (x2 : Int32) (V : ai_V) (r : (Int32 × ai_V)), d_Rule_expression_35 T x1 x2 V = some r → Fr w_Rule_expression_35 V r.2 := by
  intro x1 x2 V r h
  rw [d_Rule_expression_35] at h
  obtain ⟨q1, hq1, h⟩ := ai_bd h
  have gq1 : Fr w_Rule_expression_35 V q1.2 := (Fr.tr (Fr.si Fr.rf rfl) (fr_Rule_sum_B hT _ _ _ hq1) rfl)
  rcases ai_if h with ⟨-, h⟩ | ⟨-, h⟩
  · obtain ⟨q2, hq2, h⟩ := ai_bd h
    have gq2 : Fr w_Rule_expression_35 V q2 := (Fr.tr gq1 (fr_Rule_emit _ _ _ hq2) rfl)
    obtain rfl := Option.some.inj h
    exact gq2
  · obtain rfl := Option.some.inj h
    exact gq1
def w_Rule_expression_B : Fw := ([(10, 6), (10, 7)], [14])
theorem fr_Rule_expression_B {T : Int32 → ai_V → Option (Int32 × ai_V)} (hT : ∀ y0 V r, T y0 V = some r → Fr w_Rule_expression_B V r.2) : ∀ (x1 : Int32) (V : ai_V) (r : (Int32 × ai_V)), d_Rule_expression_B T x1 V = some r → Fr w_Rule_expression_B V r.2 := by
  intro x1 V r h
  rw [d_Rule_expression_B] at h
  obtain ⟨q3, hq3, h⟩ := ai_bd h
  have gq3 : Fr w_Rule_expression_B V q3.2 := (Fr.tr Fr.rf (fr_Rule_sum_B hT _ _ _ hq3) rfl)
  rcases ai_if h with ⟨-, h⟩ | ⟨-, h⟩
  · obtain ⟨q4, hq4, h⟩ := ai_bd h
    rcases ai_if h with ⟨-, h⟩ | ⟨-, h⟩
    · exact Fr.tr gq3 (fr_Rule_expression_35 hT _ _ _ _ h) rfl
    · rcases ai_if h with ⟨-, h⟩ | ⟨-, h⟩
      · exact Fr.tr gq3 (fr_Rule_expression_35 hT _ _ _ _ h) rfl
      · rcases ai_if h with ⟨-, h⟩ | ⟨-, h⟩
        · exact Fr.tr gq3 (fr_Rule_expression_35 hT _ _ _ _ h) rfl
        · obtain rfl := Option.some.inj h
          exact gq3
  · obtain rfl := Option.some.inj h
    exact gq3
def w_Rule_number : Fw := ([(10, 6), (10, 7)], [14])
theorem fr_Rule_number_48 : ∀ (x1 : Int32) (V : ai_V) (r : ai_V), d_Rule_number_48 x1 V = some r → Fr w_Rule_number V r := by
  intro x1 V r h
  rw [d_Rule_number_48] at h
  obtain ⟨q1, hq1, h⟩ := ai_bd h
  have gq1 : Fr w_Rule_number V q1 := (Fr.tr Fr.rf (fr_Rule_emit _ _ _ hq1) rfl)
  obtain rfl := Option.some.inj h
  exact gq1
theorem fr_Rule_number_4 : ∀ (n : Nat) (x1 : Int32) (x2 : Int32) (V : ai_V) (r : ai_V), d_Rule_number_4 n x1 x2 V = some r → Fr w_Rule_number V r := by
  intro n
  induction n with
  | zero =>
    intro x1 x2 V r h
    cases h
  | succ n ih =>
    intro x1 x2 V r h
    rw [d_Rule_number_4] at h
    rcases ai_if h with ⟨-, h⟩ | ⟨-, h⟩
    · exact Fr.tr Fr.rf (fr_Rule_number_48 _ _ _ h) rfl
    · obtain ⟨q2, hq2, h⟩ := ai_bd h
      obtain ⟨q3, hq3, h⟩ := ai_bd h
      rcases ai_if h with ⟨-, h⟩ | ⟨-, h⟩
      · exact Fr.tr Fr.rf (fr_Rule_number_48 _ _ _ h) rfl
      · obtain ⟨q4, hq4, h⟩ := ai_bd h
        exact Fr.tr (Fr.si Fr.rf rfl) (ih _ _ _ _ h) rfl
theorem fr_Rule_number : ∀ (V : ai_V) (r : ai_V), d_Rule_number V = some r → Fr w_Rule_number V r := by
  intro V r h
  rw [d_Rule_number] at h
  exact Fr.tr Fr.rf (fr_Rule_number_4 _ _ _ _ _ h) rfl
def w_Rule_thing : Fw := ([(10, 6), (10, 7)], [14])
theorem fr_Rule_thing_87 {T : Int32 → ai_V → Option (Int32 × ai_V)} (hT : ∀ y0 V r, T y0 V = some r → Fr w_Rule_thing V r.2) : ∀ (s0 : Int32) (V : ai_V) (r : (Int32 × ai_V)), d_Rule_thing_87 T s0 V = some r → Fr w_Rule_thing V r.2 := by
  intro s0 V r h
  rw [d_Rule_thing_87] at h
  rcases ai_if h with ⟨-, h⟩ | ⟨-, h⟩
  · obtain ⟨q1, hq1, h⟩ := ai_bd h
    have gq1 : Fr w_Rule_thing V q1 := (Fr.tr Fr.rf (fr_Rule_emit _ _ _ hq1) rfl)
    obtain rfl := Option.some.inj h
    exact (Fr.si gq1 rfl)
  · obtain rfl := Option.some.inj h
    exact Fr.rf
theorem fr_Rule_thing_72 {T : Int32 → ai_V → Option (Int32 × ai_V)} (hT : ∀ y0 V r, T y0 V = some r → Fr w_Rule_thing V r.2) : ∀ (x2 : Int32) (V : ai_V) (r : (Int32 × ai_V)), d_Rule_thing_72 T x2 V = some r → Fr w_Rule_thing V r.2 := by
  intro x2 V r h
  rw [d_Rule_thing_72] at h
  rcases ai_if h with ⟨-, h⟩ | ⟨-, h⟩
  · obtain ⟨q2, hq2, h⟩ := ai_bd h
    exact Fr.tr Fr.rf (fr_Rule_thing_87 hT _ _ _ h) rfl
  · exact Fr.tr Fr.rf (fr_Rule_thing_87 hT _ _ _ h) rfl
theorem fr_Rule_thing_B {T : Int32 → ai_V → Option (Int32 × ai_V)} (hT : ∀ y0 V r, T y0 V = some r → Fr w_Rule_thing V r.2) : ∀ (x1 : Int32) (V : ai_V) (r : (Int32 × ai_V)), d_Rule_thing_B T x1 V = some r → Fr w_Rule_thing V r.2 := by
  intro x1 V r h
  rw [d_Rule_thing_B] at h
  obtain ⟨q3, hq3, h⟩ := ai_bd h
  obtain ⟨q4, hq4, h⟩ := ai_bd h
  rcases ai_if h with ⟨-, h⟩ | ⟨-, h⟩
  · rcases ai_if h with ⟨-, h⟩ | ⟨-, h⟩
    · exact Fr.tr Fr.rf (fr_Rule_thing_72 hT _ _ _ h) rfl
    · rcases ai_if h with ⟨-, h⟩ | ⟨-, h⟩
      · exact Fr.tr Fr.rf (fr_Rule_thing_72 hT _ _ _ h) rfl
      · obtain ⟨q5, hq5, h⟩ := ai_bd h
        have gq5 : Fr w_Rule_thing V q5.2 := (Fr.tr (Fr.si Fr.rf rfl) (fr_Rule_expression_B hT _ _ _ hq5) rfl)
        rcases ai_if h with ⟨-, h⟩ | ⟨-, h⟩
        · obtain rfl := Option.some.inj h
          exact gq5
        · obtain ⟨q6, hq6, h⟩ := ai_bd h
          rcases ai_if h with ⟨-, h⟩ | ⟨-, h⟩
          · obtain rfl := Option.some.inj h
            exact (Fr.si gq5 rfl)
          · obtain rfl := Option.some.inj h
            exact gq5
  · obtain ⟨q7, hq7, h⟩ := ai_bd h
    have gq7 : Fr w_Rule_thing V q7 := (Fr.tr Fr.rf (fr_Rule_number _ _ hq7) rfl)
    obtain rfl := Option.some.inj h
    exact gq7
theorem fr_Rule_thing_R : ∀ (n : Nat) (x1 : Int32) (V : ai_V) (r : (Int32 × ai_V)), d_Rule_thing_R n x1 V = some r → Fr w_Rule_thing V r.2 := by
  intro n
  induction n with
  | zero =>
    intro x1 V r h
    cases h
  | succ n ih =>
    intro x1 V r h
    rw [d_Rule_thing_R] at h
    exact Fr.tr Fr.rf (fr_Rule_thing_B ih _ _ _ h) rfl
theorem fr_Rule_thing : ∀ (x0 : Int32) (V : ai_V) (r : (Int32 × ai_V)), d_Rule_thing x0 V = some r → Fr w_Rule_thing V r.2 := by
  intro x0 V r h
  rw [d_Rule_thing] at h
  exact Fr.tr Fr.rf (fr_Rule_thing_R _ _ _ _ h) rfl
def w_Rule_negated : Fw := ([(10, 6), (10, 7)], [14])
theorem fr_Rule_negated : ∀ (x0 : Int32) (V : ai_V) (r : (Int32 × ai_V)), d_Rule_negated x0 V = some r → Fr w_Rule_negated V r.2 := by
  intro x0 V r h
  rw [d_Rule_negated] at h
  exact Fr.tr Fr.rf (fr_Rule_negated_B fr_Rule_thing _ _ _ h) rfl
def w_Rule_product : Fw := ([(10, 6), (10, 7)], [14])
theorem fr_Rule_product : ∀ (x0 : Int32) (V : ai_V) (r : (Int32 × ai_V)), d_Rule_product x0 V = some r → Fr w_Rule_product V r.2 := by
  intro x0 V r h
  rw [d_Rule_product] at h
  exact Fr.tr Fr.rf (fr_Rule_product_B fr_Rule_thing _ _ _ h) rfl
def w_Rule_sum : Fw := ([(10, 6), (10, 7)], [14])
theorem fr_Rule_sum : ∀ (x0 : Int32) (V : ai_V) (r : (Int32 × ai_V)), d_Rule_sum x0 V = some r → Fr w_Rule_sum V r.2 := by
  intro x0 V r h
  rw [d_Rule_sum] at h
  exact Fr.tr Fr.rf (fr_Rule_sum_B fr_Rule_thing _ _ _ h) rfl
def w_Rule_expression : Fw := ([(10, 6), (10, 7)], [14])
theorem fr_Rule_expression : ∀ (x0 : Int32) (V : ai_V) (r : (Int32 × ai_V)), d_Rule_expression x0 V = some r → Fr w_Rule_expression V r.2 := by
  intro x0 V r h
  rw [d_Rule_expression] at h
  exact Fr.tr Fr.rf (fr_Rule_expression_B fr_Rule_thing _ _ _ h) rfl
def w_Rule_read : Fw := ([(10, 1), (10, 6), (10, 7)], [11, 14])
theorem fr_Rule_read_69 : ∀ (V : ai_V) (r : (Int32 × ai_V)), d_Rule_read_69 V = some r → Fr w_Rule_read V r.2 := by
  intro V r h
  rw [d_Rule_read_69] at h
  obtain rfl := Option.some.inj h
  exact Fr.rf
theorem fr_Rule_read_52 : ∀ (s0 : Int32) (V : ai_V) (r : (Int32 × ai_V)), d_Rule_read_52 s0 V = some r → Fr w_Rule_read V r.2 := by
  intro s0 V r h
  rw [d_Rule_read_52] at h
  rcases ai_if h with ⟨-, h⟩ | ⟨-, h⟩
  · exact Fr.tr Fr.rf (fr_Rule_read_69 _ _ h) rfl
  · rcases ai_if h with ⟨-, h⟩ | ⟨-, h⟩
    · rcases ai_if h with ⟨-, h⟩ | ⟨-, h⟩
      · obtain rfl := Option.some.inj h
        exact (Fr.si (Fr.cp Fr.rf rfl) rfl)
      · cases h
    · exact Fr.tr Fr.rf (fr_Rule_read_69 _ _ h) rfl
theorem fr_Rule_read_47 : ∀ (V : ai_V) (r : (Int32 × ai_V)), d_Rule_read_47 V = some r → Fr w_Rule_read V r.2 := by
  intro V r h
  rw [d_Rule_read_47] at h
  exact Fr.tr Fr.rf (fr_Rule_read_52 _ _ _ h) rfl
theorem fr_Rule_read_51 : ∀ (V : ai_V) (r : (Int32 × ai_V)), d_Rule_read_51 V = some r → Fr w_Rule_read V r.2 := by
  intro V r h
  rw [d_Rule_read_51] at h
  exact Fr.tr Fr.rf (fr_Rule_read_52 _ _ _ h) rfl
theorem fr_Rule_read : ∀ (V : ai_V) (r : (Int32 × ai_V)), d_Rule_read V = some r → Fr w_Rule_read V r.2 := by
  intro V r h
  rw [d_Rule_read] at h
  rcases ai_if h with ⟨-, h⟩ | ⟨-, h⟩
  · exact Fr.tr (Fr.si (Fr.si Fr.rf rfl) rfl) (fr_Rule_read_47 _ _ h) rfl
  · obtain ⟨q1, hq1, h⟩ := ai_bd h
    have gq1 : Fr w_Rule_read V q1.2 := (Fr.tr (Fr.si (Fr.si Fr.rf rfl) rfl) (fr_Rule_expression _ _ _ hq1) rfl)
    rcases ai_if h with ⟨-, h⟩ | ⟨-, h⟩
    · exact Fr.tr gq1 (fr_Rule_read_51 _ _ h) rfl
    · rcases ai_if h with ⟨-, h⟩ | ⟨-, h⟩
      · exact Fr.tr gq1 (fr_Rule_read_51 _ _ h) rfl
      · exact Fr.tr gq1 (fr_Rule_read_47 _ _ h) rfl
def w_X_rule : Fw := ([(1, 1), (10, 1), (10, 6), (10, 7)], [11, 14])
theorem fr_X_rule : ∀ (V : ai_V) (r : (Int32 × ai_V)), d_X_rule V = some r → Fr w_X_rule V r.2 := by
  intro V r h
  rw [d_X_rule] at h
  obtain ⟨q1, hq1, h⟩ := ai_bd h
  have gq1 : Fr w_X_rule V q1.2 := (Fr.tr Fr.rf (fr_Rule_read _ _ hq1) rfl)
  obtain ⟨q2, hq2, h⟩ := ai_bd h
  have gq2 : Fr w_X_rule V q2 := (Fr.tr gq1 (fr_Text_clear _ _ hq2) rfl)
  obtain rfl := Option.some.inj h
  exact gq2
def w_Rule_reckoned : Fw := ([], [13])
theorem fr_Rule_reckoned_196 : ∀ (s0 : Int32) (V : ai_V) (r : (Int32 × ai_V)), d_Rule_reckoned_196 s0 V = some r → Fr w_Rule_reckoned V r.2 := by
  intro s0 V r h
  rw [d_Rule_reckoned_196] at h
  obtain rfl := Option.some.inj h
  exact Fr.rf
theorem fr_Rule_reckoned_157 {F4 : Int32 → Int32 → ai_V → Option (Int32 × ai_V)} (hF4 : ∀ y0 y1 V r, F4 y0 y1 V = some r → Fr w_Rule_reckoned V r.2) : ∀ (x1 : Int32) (x2 : Int32) (V : ai_V) (r : (Int32 × ai_V)), d_Rule_reckoned_157 F4 x1 x2 V = some r → Fr w_Rule_reckoned V r.2 := by
  intro x1 x2 V r h
  rw [d_Rule_reckoned_157] at h
  exact Fr.tr Fr.rf (hF4 _ _ _ _ h) rfl
theorem fr_Rule_reckoned_74 {F4 : Int32 → Int32 → ai_V → Option (Int32 × ai_V)} (hF4 : ∀ y0 y1 V r, F4 y0 y1 V = some r → Fr w_Rule_reckoned V r.2) : ∀ (x1 : Int32) (x2 : Int32) (s0 : Int32) (s1 : Int32) (V : ai_V) (r : (Int32 × ai_V)), d_Rule_reckoned_74 F4 x1 x2 s0 s1 V = some r → Fr w_Rule_reckoned V r.2 := by
  intro x1 x2 s0 s1 V r h
  rw [d_Rule_reckoned_74] at h
  rcases ai_if h with ⟨-, h⟩ | ⟨-, h⟩
  · exact Fr.tr (Fr.sa Fr.rf rfl) (fr_Rule_reckoned_157 hF4 _ _ _ _ h) rfl
  · cases h
theorem fr_Rule_reckoned_60 {F4 : Int32 → Int32 → ai_V → Option (Int32 × ai_V)} (hF4 : ∀ y0 y1 V r, F4 y0 y1 V = some r → Fr w_Rule_reckoned V r.2) : ∀ (x1 : Int32) (x2 : Int32) (x3 : Int32) (s0 : Int32) (V : ai_V) (r : (Int32 × ai_V)), d_Rule_reckoned_60 F4 x1 x2 x3 s0 V = some r → Fr w_Rule_reckoned V r.2 := by
  intro x1 x2 x3 s0 V r h
  rw [d_Rule_reckoned_60] at h
  exact Fr.tr Fr.rf (fr_Rule_reckoned_74 hF4 _ _ _ _ _ _ h) rfl
theorem fr_Rule_reckoned_112 {F4 : Int32 → Int32 → ai_V → Option (Int32 × ai_V)} (hF4 : ∀ y0 y1 V r, F4 y0 y1 V = some r → Fr w_Rule_reckoned V r.2) : ∀ (x1 : Int32) (x2 : Int32) (x3 : Int32) (V : ai_V) (r : (Int32 × ai_V)), d_Rule_reckoned_112 F4 x1 x2 x3 V = some r → Fr w_Rule_reckoned V r.2 := by
  intro x1 x2 x3 V r h
  rw [d_Rule_reckoned_112] at h
  rcases ai_if h with ⟨-, h⟩ | ⟨-, h⟩
  · exact Fr.tr Fr.rf (fr_Rule_reckoned_157 hF4 _ _ _ _ h) rfl
  · rcases ai_if h with ⟨-, h⟩ | ⟨-, h⟩
    · exact Fr.tr Fr.rf (fr_Rule_reckoned_157 hF4 _ _ _ _ h) rfl
    · rcases ai_if h with ⟨-, h⟩ | ⟨-, h⟩
      · rcases ai_if h with ⟨-, h⟩ | ⟨-, h⟩
        · obtain ⟨q1, hq1, h⟩ := ai_bd h
          rcases ai_if h with ⟨-, h⟩ | ⟨-, h⟩
          · exact Fr.tr (Fr.sa Fr.rf rfl) (fr_Rule_reckoned_157 hF4 _ _ _ _ h) rfl
          · cases h
        · cases h
      · cases h
theorem fr_Rule_reckoned_81 {F4 : Int32 → Int32 → ai_V → Option (Int32 × ai_V)} (hF4 : ∀ y0 y1 V r, F4 y0 y1 V = some r → Fr w_Rule_reckoned V r.2) : ∀ (x1 : Int32) (x2 : Int32) (x3 : Int32) (V : ai_V) (r : (Int32 × ai_V)), d_Rule_reckoned_81 F4 x1 x2 x3 V = some r → Fr w_Rule_reckoned V r.2 := by
  intro x1 x2 x3 V r h
  rw [d_Rule_reckoned_81] at h
  rcases ai_if h with ⟨-, h⟩ | ⟨-, h⟩
  · exact Fr.tr Fr.rf (fr_Rule_reckoned_112 hF4 _ _ _ _ _ h) rfl
  · rcases ai_if h with ⟨-, h⟩ | ⟨-, h⟩
    · exact Fr.tr Fr.rf (fr_Rule_reckoned_112 hF4 _ _ _ _ _ h) rfl
    · rcases ai_if h with ⟨-, h⟩ | ⟨-, h⟩
      · rcases ai_if h with ⟨-, h⟩ | ⟨-, h⟩
        · exact Fr.tr (Fr.sa Fr.rf rfl) (fr_Rule_reckoned_157 hF4 _ _ _ _ h) rfl
        · cases h
      · cases h
theorem fr_Rule_reckoned_4 : ∀ (n : Nat) (x1 : Int32) (x2 : Int32) (V : ai_V) (r : (Int32 × ai_V)), d_Rule_reckoned_4 n x1 x2 V = some r → Fr w_Rule_reckoned V r.2 := by
  intro n
  induction n with
  | zero =>
    intro x1 x2 V r h
    cases h
  | succ n ih =>
    intro x1 x2 V r h
    rw [d_Rule_reckoned_4] at h
    rcases ai_if h with ⟨-, h⟩ | ⟨-, h⟩
    · rcases ai_if h with ⟨-, h⟩ | ⟨-, h⟩
      · exact Fr.tr Fr.rf (fr_Rule_reckoned_196 _ _ _ h) rfl
      · exact Fr.tr Fr.rf (fr_Rule_reckoned_196 _ _ _ h) rfl
    · rcases ai_if h with ⟨-, h⟩ | ⟨-, h⟩
      · rcases ai_if h with ⟨-, h⟩ | ⟨-, h⟩
        · exact Fr.tr Fr.rf (fr_Rule_reckoned_81 ih _ _ _ _ _ h) rfl
        · rcases ai_if h with ⟨-, h⟩ | ⟨-, h⟩
          · exact Fr.tr Fr.rf (fr_Rule_reckoned_81 ih _ _ _ _ _ h) rfl
          · rcases ai_if h with ⟨-, h⟩ | ⟨-, h⟩
            · exact Fr.tr Fr.rf (fr_Rule_reckoned_60 ih _ _ _ _ _ _ h) rfl
            · rcases ai_if h with ⟨-, h⟩ | ⟨-, h⟩
              · rcases ai_if h with ⟨-, h⟩ | ⟨-, h⟩
                · exact Fr.tr Fr.rf (fr_Rule_reckoned_74 ih _ _ _ _ _ _ h) rfl
                · cases h
              · exact Fr.tr Fr.rf (fr_Rule_reckoned_60 ih _ _ _ _ _ _ h) rfl
      · cases h
theorem fr_Rule_reckoned : ∀ (V : ai_V) (r : (Int32 × ai_V)), d_Rule_reckoned V = some r → Fr w_Rule_reckoned V r.2 := by
  intro V r h
  rw [d_Rule_reckoned] at h
  exact Fr.tr Fr.rf (fr_Rule_reckoned_4 _ _ _ _ _ h) rfl
def w_Wheel_pails : Fw := ([], [12, 13])
theorem fr_Wheel_pails_89 : ∀ (x1 : Int32) (x4 : Int32) (s0 : Int32) (s1 : Int32) (V : ai_V) (r : (Int32 × ai_V)), d_Wheel_pails_89 x1 x4 s0 s1 V = some r → Fr w_Wheel_pails V r.2 := by
  intro x1 x4 s0 s1 V r h
  rw [d_Wheel_pails_89] at h
  rcases ai_if h with ⟨-, h⟩ | ⟨-, h⟩
  · rcases ai_if h with ⟨-, h⟩ | ⟨-, h⟩
    · obtain ⟨q1, hq1, h⟩ := ai_bd h
      have gq1 : Fr w_Wheel_pails V q1.2 := (Fr.tr (Fr.sa (Fr.sa (Fr.sa Fr.rf rfl) rfl) rfl) (fr_Rule_reckoned _ _ hq1) rfl)
      obtain rfl := Option.some.inj h
      exact gq1
    · cases h
  · cases h
theorem fr_Wheel_pails : ∀ (x1 : Int32) (x2 : Int32) (x3 : Int32) (x4 : Int32) (x5 : Int32) (V : ai_V) (r : (Int32 × ai_V)), d_Wheel_pails x1 x2 x3 x4 x5 V = some r → Fr w_Wheel_pails V r.2 := by
  intro x1 x2 x3 x4 x5 V r h
  rw [d_Wheel_pails] at h
  obtain ⟨q2, hq2, h⟩ := ai_bd h
  rcases ai_if h with ⟨-, h⟩ | ⟨-, h⟩
  · obtain rfl := Option.some.inj h
    exact Fr.rf
  · rcases ai_if h with ⟨-, h⟩ | ⟨-, h⟩
    · obtain ⟨q3, hq3, h⟩ := ai_bd h
      rcases ai_if h with ⟨-, h⟩ | ⟨-, h⟩
      · rcases ai_if h with ⟨-, h⟩ | ⟨-, h⟩
        · rcases ai_if h with ⟨-, h⟩ | ⟨-, h⟩
          · exact Fr.tr (Fr.sa (Fr.sa (Fr.sa (Fr.sa Fr.rf rfl) rfl) rfl) rfl) (fr_Wheel_pails_89 _ _ _ _ _ _ h) rfl
          · exact Fr.tr (Fr.sa (Fr.sa (Fr.sa (Fr.sa Fr.rf rfl) rfl) rfl) rfl) (fr_Wheel_pails_89 _ _ _ _ _ _ h) rfl
        · cases h
      · cases h
    · obtain rfl := Option.some.inj h
      exact Fr.rf
def w_Wheel_pailsNow : Fw := ([], [12, 13])
theorem fr_Wheel_pailsNow : ∀ (x1 : Int32) (x2 : Int32) (V : ai_V) (r : (Int32 × ai_V)), d_Wheel_pailsNow x1 x2 V = some r → Fr w_Wheel_pailsNow V r.2 := by
  intro x1 x2 V r h
  rw [d_Wheel_pailsNow] at h
  obtain ⟨q1, hq1, h⟩ := ai_bd h
  obtain ⟨q2, hq2, h⟩ := ai_bd h
  have gq2 : Fr w_Wheel_pailsNow V q2.2 := (Fr.tr Fr.rf (fr_Wheel_pails _ _ _ _ _ _ _ hq2) rfl)
  obtain rfl := Option.some.inj h
  exact gq2
def w_Row_clear : Fw := ([(22, 1)], [])
theorem fr_Row_clear : ∀ (V : ai_V) (r : ai_V), d_Row_clear V = some r → Fr w_Row_clear V r := by
  intro V r h
  rw [d_Row_clear] at h
  obtain rfl := Option.some.inj h
  exact (Fr.si Fr.rf rfl)
def w_Row_add : Fw := ([(22, 1)], [23])
theorem fr_Row_add : ∀ (x1 : Int64) (V : ai_V) (r : ai_V), d_Row_add x1 V = some r → Fr w_Row_add V r := by
  intro x1 V r h
  rw [d_Row_add] at h
  rcases ai_if h with ⟨-, h⟩ | ⟨-, h⟩
  · obtain rfl := Option.some.inj h
    exact Fr.rf
  · rcases ai_if h with ⟨-, h⟩ | ⟨-, h⟩
    · obtain rfl := Option.some.inj h
      exact (Fr.si (Fr.sl Fr.rf rfl) rfl)
    · cases h
def w_Row_tellOne : Fw := ([(22, 1)], [23])
theorem fr_Row_tellOne : ∀ (x1 : Int64) (V : ai_V) (r : ai_V), d_Row_tellOne x1 V = some r → Fr w_Row_tellOne V r := by
  intro x1 V r h
  rw [d_Row_tellOne] at h
  obtain ⟨q1, hq1, h⟩ := ai_bd h
  have gq1 : Fr w_Row_tellOne V q1 := (Fr.tr Fr.rf (fr_Row_clear _ _ hq1) rfl)
  obtain ⟨q2, hq2, h⟩ := ai_bd h
  have gq2 : Fr w_Row_tellOne V q2 := (Fr.tr gq1 (fr_Row_add _ _ _ hq2) rfl)
  obtain rfl := Option.some.inj h
  exact gq2
def w_Row_tellTwo : Fw := ([(22, 1)], [23])
theorem fr_Row_tellTwo : ∀ (x1 : Int64) (x3 : Int64) (V : ai_V) (r : ai_V), d_Row_tellTwo x1 x3 V = some r → Fr w_Row_tellTwo V r := by
  intro x1 x3 V r h
  rw [d_Row_tellTwo] at h
  obtain ⟨q1, hq1, h⟩ := ai_bd h
  have gq1 : Fr w_Row_tellTwo V q1 := (Fr.tr Fr.rf (fr_Row_tellOne _ _ _ hq1) rfl)
  obtain ⟨q2, hq2, h⟩ := ai_bd h
  have gq2 : Fr w_Row_tellTwo V q2 := (Fr.tr gq1 (fr_Row_add _ _ _ hq2) rfl)
  obtain rfl := Option.some.inj h
  exact gq2
def w_X_lifts : Fw := ([(22, 1)], [12, 13, 23])
theorem fr_X_lifts : ∀ (x1 : Int32) (x2 : Int32) (V : ai_V) (r : (Int32 × ai_V)), d_X_lifts x1 x2 V = some r → Fr w_X_lifts V r.2 := by
  intro x1 x2 V r h
  rw [d_X_lifts] at h
  rcases ai_if h with ⟨-, h⟩ | ⟨-, h⟩
  · obtain rfl := Option.some.inj h
    exact Fr.rf
  · obtain ⟨q1, hq1, h⟩ := ai_bd h
    rcases ai_if h with ⟨-, h⟩ | ⟨-, h⟩
    · obtain ⟨q2, hq2, h⟩ := ai_bd h
      obtain ⟨q3, hq3, h⟩ := ai_bd h
      have gq3 : Fr w_X_lifts V q3.2 := (Fr.tr Fr.rf (fr_Wheel_pailsNow _ _ _ _ hq3) rfl)
      obtain ⟨q4, hq4, h⟩ := ai_bd h
      have gq4 : Fr w_X_lifts V q4 := (Fr.tr gq3 (fr_Row_tellTwo _ _ _ _ hq4) rfl)
      obtain ⟨q5, hq5, h⟩ := ai_bd h
      have gq5 : Fr w_X_lifts V q5.2 := (Fr.tr gq4 (fr_Wheel_pailsNow _ _ _ _ hq5) rfl)
      obtain rfl := Option.some.inj h
      exact gq5
    · obtain rfl := Option.some.inj h
      exact Fr.rf
def w_X_changeRoom : Fw := ([(16, 1), (16, 2)], [])
theorem fr_X_changeRoom : ∀ (x1 : Int32) (V : ai_V) (r : (Int32 × ai_V)), d_X_changeRoom x1 V = some r → Fr w_X_changeRoom V r.2 := by
  intro x1 V r h
  rw [d_X_changeRoom] at h
  rcases ai_if h with ⟨-, h⟩ | ⟨-, h⟩
  · obtain rfl := Option.some.inj h
    exact Fr.rf
  · rcases ai_if h with ⟨-, h⟩ | ⟨-, h⟩
    · obtain rfl := Option.some.inj h
      exact (Fr.si (Fr.si Fr.rf rfl) rfl)
    · obtain rfl := Option.some.inj h
      exact Fr.rf
def w_X_changeDue : Fw := ([(3, 1)], [])
theorem fr_X_changeDue : ∀ (x1 : Int32) (V : ai_V) (r : (Int32 × ai_V)), d_X_changeDue x1 V = some r → Fr w_X_changeDue V r.2 := by
  intro x1 V r h
  rw [d_X_changeDue] at h
  rcases ai_if h with ⟨-, h⟩ | ⟨-, h⟩
  · obtain rfl := Option.some.inj h
    exact Fr.rf
  · rcases ai_if h with ⟨-, h⟩ | ⟨-, h⟩
    · obtain rfl := Option.some.inj h
      exact (Fr.si Fr.rf rfl)
    · obtain rfl := Option.some.inj h
      exact Fr.rf
def w_X_changeLevel : Fw := ([(16, 1)], [])
theorem fr_X_changeLevel : ∀ (x1 : Int32) (V : ai_V) (r : (Int32 × ai_V)), d_X_changeLevel x1 V = some r → Fr w_X_changeLevel V r.2 := by
  intro x1 V r h
  rw [d_X_changeLevel] at h
  rcases ai_if h with ⟨-, h⟩ | ⟨-, h⟩
  · obtain rfl := Option.some.inj h
    exact Fr.rf
  · rcases ai_if h with ⟨-, h⟩ | ⟨-, h⟩
    · obtain rfl := Option.some.inj h
      exact (Fr.si Fr.rf rfl)
    · obtain rfl := Option.some.inj h
      exact Fr.rf
def w_X_set : Fw := ([(3, 1), (16, 1), (16, 2)], [])
theorem fr_X_set : ∀ (x1 : Int32) (x2 : Int32) (V : ai_V) (r : (Int32 × ai_V)), d_X_set x1 x2 V = some r → Fr w_X_set V r.2 := by
  intro x1 x2 V r h
  rw [d_X_set] at h
  rcases ai_if h with ⟨-, h⟩ | ⟨-, h⟩
  · obtain ⟨q3, hq3, h⟩ := ai_bd h
    have gq3 : Fr w_X_set V q3.2 := (Fr.tr Fr.rf (fr_X_changeRoom _ _ _ hq3) rfl)
    obtain rfl := Option.some.inj h
    exact gq3
  · rcases ai_if h with ⟨-, h⟩ | ⟨-, h⟩
    · obtain ⟨q2, hq2, h⟩ := ai_bd h
      have gq2 : Fr w_X_set V q2.2 := (Fr.tr Fr.rf (fr_X_changeDue _ _ _ hq2) rfl)
      obtain rfl := Option.some.inj h
      exact gq2
    · rcases ai_if h with ⟨-, h⟩ | ⟨-, h⟩
      · obtain ⟨q1, hq1, h⟩ := ai_bd h
        have gq1 : Fr w_X_set V q1.2 := (Fr.tr Fr.rf (fr_X_changeLevel _ _ _ hq1) rfl)
        obtain rfl := Option.some.inj h
        exact gq1
      · obtain rfl := Option.some.inj h
        exact Fr.rf
def w_X_brake : Fw := ([(3, 2)], [])
theorem fr_X_brake : ∀ (x1 : Int32) (x2 : Int32) (V : ai_V) (r : (Int32 × ai_V)), d_X_brake x1 x2 V = some r → Fr w_X_brake V r.2 := by
  intro x1 x2 V r h
  rw [d_X_brake] at h
  obtain ⟨q1, hq1, h⟩ := ai_bd h
  rcases ai_if h with ⟨-, h⟩ | ⟨-, h⟩
  · obtain rfl := Option.some.inj h
    exact Fr.rf
  · rcases ai_if h with ⟨-, h⟩ | ⟨-, h⟩
    · obtain rfl := Option.some.inj h
      exact Fr.rf
    · rcases ai_if h with ⟨-, h⟩ | ⟨-, h⟩
      · obtain rfl := Option.some.inj h
        exact (Fr.si Fr.rf rfl)
      · obtain rfl := Option.some.inj h
        exact Fr.rf
def w_X_sheet : Fw := ([], [5])
theorem fr_X_sheet_82 {F35 : Int32 → Int32 → Int32 → Int32 → Int32 → Int32 → ai_V → Option (Int32 × ai_V)} (hF35 : ∀ y0 y1 y2 y3 y4 y5 V r, F35 y0 y1 y2 y3 y4 y5 V = some r → Fr w_X_sheet V r.2) : ∀ (x1 : Int32) (x2 : Int32) (x3 : Int32) (x4 : Int32) (x5 : Int32) (x6 : Int32) (s0 : Int32) (s1 : Int32) (V : ai_V) (r : (Int32 × ai_V)), d_X_sheet_82 F35 x1 x2 x3 x4 x5 x6 s0 s1 V = some r → Fr w_X_sheet V r.2 := by
  intro x1 x2 x3 x4 x5 x6 s0 s1 V r h
  rw [d_X_sheet_82] at h
  rcases ai_if h with ⟨-, h⟩ | ⟨-, h⟩
  · rcases ai_if h with ⟨-, h⟩ | ⟨-, h⟩
    · exact Fr.tr (Fr.sa Fr.rf rfl) (hF35 _ _ _ _ _ _ _ _ h) rfl
    · cases h
  · cases h
theorem fr_X_sheet_81 {F35 : Int32 → Int32 → Int32 → Int32 → Int32 → Int32 → ai_V → Option (Int32 × ai_V)} (hF35 : ∀ y0 y1 y2 y3 y4 y5 V r, F35 y0 y1 y2 y3 y4 y5 V = some r → Fr w_X_sheet V r.2) : ∀ (x1 : Int32) (x2 : Int32) (x3 : Int32) (x4 : Int32) (x5 : Int32) (x6 : Int32) (s0 : Int32) (V : ai_V) (r : (Int32 × ai_V)), d_X_sheet_81 F35 x1 x2 x3 x4 x5 x6 s0 V = some r → Fr w_X_sheet V r.2 := by
  intro x1 x2 x3 x4 x5 x6 s0 V r h
  rw [d_X_sheet_81] at h
  exact Fr.tr Fr.rf (fr_X_sheet_82 hF35 _ _ _ _ _ _ _ _ _ _ h) rfl
theorem fr_X_sheet_35 : ∀ (n : Nat) (x1 : Int32) (x2 : Int32) (x3 : Int32) (x4 : Int32) (x5 : Int32) (x6 : Int32) (V : ai_V) (r : (Int32 × ai_V)), d_X_sheet_35 n x1 x2 x3 x4 x5 x6 V = some r → Fr w_X_sheet V r.2 := by
  intro n
  induction n with
  | zero =>
    intro x1 x2 x3 x4 x5 x6 V r h
    cases h
  | succ n ih =>
    intro x1 x2 x3 x4 x5 x6 V r h
    rw [d_X_sheet_35] at h
    rcases ai_if h with ⟨-, h⟩ | ⟨-, h⟩
    · rcases ai_if h with ⟨-, h⟩ | ⟨-, h⟩
      · obtain rfl := Option.some.inj h
        exact Fr.rf
      · obtain rfl := Option.some.inj h
        exact Fr.rf
    · rcases ai_if h with ⟨-, h⟩ | ⟨-, h⟩
      · exact Fr.tr Fr.rf (fr_X_sheet_81 ih _ _ _ _ _ _ _ _ _ h) rfl
      · rcases ai_if h with ⟨-, h⟩ | ⟨-, h⟩
        · exact Fr.tr Fr.rf (fr_X_sheet_81 ih _ _ _ _ _ _ _ _ _ h) rfl
        · obtain ⟨q1, hq1, h⟩ := ai_bd h
          exact Fr.tr Fr.rf (fr_X_sheet_82 ih _ _ _ _ _ _ _ _ _ _ h) rfl
theorem fr_X_sheet_29 : ∀ (x1 : Int32) (x2 : Int32) (x3 : Int32) (x4 : Int32) (V : ai_V) (r : (Int32 × ai_V)), d_X_sheet_29 x1 x2 x3 x4 V = some r → Fr w_X_sheet V r.2 := by
  intro x1 x2 x3 x4 V r h
  rw [d_X_sheet_29] at h
  exact Fr.tr Fr.rf (fr_X_sheet_35 _ _ _ _ _ _ _ _ _ h) rfl
theorem fr_X_sheet : ∀ (x1 : Int32) (x2 : Int32) (x3 : Int32) (x4 : Int32) (V : ai_V) (r : (Int32 × ai_V)), d_X_sheet x1 x2 x3 x4 V = some r → Fr w_X_sheet V r.2 := by
  intro x1 x2 x3 x4 V r h
  rw [d_X_sheet] at h
  rcases ai_if h with ⟨-, h⟩ | ⟨-, h⟩
  · obtain rfl := Option.some.inj h
    exact Fr.rf
  · rcases ai_if h with ⟨-, h⟩ | ⟨-, h⟩
    · obtain rfl := Option.some.inj h
      exact Fr.rf
    · rcases ai_if h with ⟨-, h⟩ | ⟨-, h⟩
      · rcases ai_if h with ⟨-, h⟩ | ⟨-, h⟩
        · exact Fr.tr Fr.rf (fr_X_sheet_29 _ _ _ _ _ _ h) rfl
        · rcases ai_if h with ⟨-, h⟩ | ⟨-, h⟩
          · exact Fr.tr Fr.rf (fr_X_sheet_29 _ _ _ _ _ _ h) rfl
          · obtain rfl := Option.some.inj h
            exact Fr.rf
      · obtain rfl := Option.some.inj h
        exact Fr.rf
def w_State_becomes : Fw := ([(59, 0), (59, 1)], [60, 61])
theorem fr_State_becomes_25 : ∀ (n : Nat) (x2 : Int32) (V : ai_V) (r : ai_V), d_State_becomes_25 n x2 V = some r → Fr w_State_becomes V r := by
  intro n
  induction n with
  | zero =>
    intro x2 V r h
    cases h
  | succ n ih =>
    intro x2 V r h
    rw [d_State_becomes_25] at h
    rcases ai_if h with ⟨-, h⟩ | ⟨-, h⟩
    · obtain rfl := Option.some.inj h
      exact Fr.rf
    · rcases ai_if h with ⟨-, h⟩ | ⟨-, h⟩
      · rcases ai_if h with ⟨-, h⟩ | ⟨-, h⟩
        · rcases ai_if h with ⟨-, h⟩ | ⟨-, h⟩
          · rcases ai_if h with ⟨-, h⟩ | ⟨-, h⟩
            · exact Fr.tr (Fr.sa (Fr.sa Fr.rf rfl) rfl) (ih _ _ _ h) rfl
            · cases h
          · cases h
        · cases h
      · cases h
theorem fr_State_becomes : ∀ (V : ai_V) (r : ai_V), d_State_becomes V = some r → Fr w_State_becomes V r := by
  intro V r h
  rw [d_State_becomes] at h
  exact Fr.tr (Fr.si (Fr.si Fr.rf rfl) rfl) (fr_State_becomes_25 _ _ _ _ h) rfl
def w_State_becomes_56_16 : Fw := ([(56, 0), (56, 1)], [57, 58])
theorem fr_State_becomes_56_16_25 : ∀ (n : Nat) (x2 : Int32) (V : ai_V) (r : ai_V), d_State_becomes_56_16_25 n x2 V = some r → Fr w_State_becomes_56_16 V r := by
  intro n
  induction n with
  | zero =>
    intro x2 V r h
    cases h
  | succ n ih =>
    intro x2 V r h
    rw [d_State_becomes_56_16_25] at h
    rcases ai_if h with ⟨-, h⟩ | ⟨-, h⟩
    · obtain rfl := Option.some.inj h
      exact Fr.rf
    · rcases ai_if h with ⟨-, h⟩ | ⟨-, h⟩
      · rcases ai_if h with ⟨-, h⟩ | ⟨-, h⟩
        · rcases ai_if h with ⟨-, h⟩ | ⟨-, h⟩
          · rcases ai_if h with ⟨-, h⟩ | ⟨-, h⟩
            · exact Fr.tr (Fr.sa (Fr.sa Fr.rf rfl) rfl) (ih _ _ _ h) rfl
            · cases h
          · cases h
        · cases h
      · cases h
theorem fr_State_becomes_56_16 : ∀ (V : ai_V) (r : ai_V), d_State_becomes_56_16 V = some r → Fr w_State_becomes_56_16 V r := by
  intro V r h
  rw [d_State_becomes_56_16] at h
  exact Fr.tr (Fr.si (Fr.si Fr.rf rfl) rfl) (fr_State_becomes_56_16_25 _ _ _ _ h) rfl
def w_State_becomes_53_16 : Fw := ([(53, 0), (53, 1)], [54, 55])
theorem fr_State_becomes_53_16_25 : ∀ (n : Nat) (x2 : Int32) (V : ai_V) (r : ai_V), d_State_becomes_53_16_25 n x2 V = some r → Fr w_State_becomes_53_16 V r := by
  intro n
  induction n with
  | zero =>
    intro x2 V r h
    cases h
  | succ n ih =>
    intro x2 V r h
    rw [d_State_becomes_53_16_25] at h
    rcases ai_if h with ⟨-, h⟩ | ⟨-, h⟩
    · obtain rfl := Option.some.inj h
      exact Fr.rf
    · rcases ai_if h with ⟨-, h⟩ | ⟨-, h⟩
      · rcases ai_if h with ⟨-, h⟩ | ⟨-, h⟩
        · rcases ai_if h with ⟨-, h⟩ | ⟨-, h⟩
          · rcases ai_if h with ⟨-, h⟩ | ⟨-, h⟩
            · exact Fr.tr (Fr.sa (Fr.sa Fr.rf rfl) rfl) (ih _ _ _ h) rfl
            · cases h
          · cases h
        · cases h
      · cases h
theorem fr_State_becomes_53_16 : ∀ (V : ai_V) (r : ai_V), d_State_becomes_53_16 V = some r → Fr w_State_becomes_53_16 V r := by
  intro V r h
  rw [d_State_becomes_53_16] at h
  exact Fr.tr (Fr.si (Fr.si Fr.rf rfl) rfl) (fr_State_becomes_53_16_25 _ _ _ _ h) rfl
def w_State_becomes_50_16 : Fw := ([(50, 0), (50, 1)], [51, 52])
theorem fr_State_becomes_50_16_25 : ∀ (n : Nat) (x2 : Int32) (V : ai_V) (r : ai_V), d_State_becomes_50_16_25 n x2 V = some r → Fr w_State_becomes_50_16 V r := by
  intro n
  induction n with
  | zero =>
    intro x2 V r h
    cases h
  | succ n ih =>
    intro x2 V r h
    rw [d_State_becomes_50_16_25] at h
    rcases ai_if h with ⟨-, h⟩ | ⟨-, h⟩
    · obtain rfl := Option.some.inj h
      exact Fr.rf
    · rcases ai_if h with ⟨-, h⟩ | ⟨-, h⟩
      · rcases ai_if h with ⟨-, h⟩ | ⟨-, h⟩
        · rcases ai_if h with ⟨-, h⟩ | ⟨-, h⟩
          · rcases ai_if h with ⟨-, h⟩ | ⟨-, h⟩
            · exact Fr.tr (Fr.sa (Fr.sa Fr.rf rfl) rfl) (ih _ _ _ h) rfl
            · cases h
          · cases h
        · cases h
      · cases h
theorem fr_State_becomes_50_16 : ∀ (V : ai_V) (r : ai_V), d_State_becomes_50_16 V = some r → Fr w_State_becomes_50_16 V r := by
  intro V r h
  rw [d_State_becomes_50_16] at h
  exact Fr.tr (Fr.si (Fr.si Fr.rf rfl) rfl) (fr_State_becomes_50_16_25 _ _ _ _ h) rfl
def w_State_becomes_47_16 : Fw := ([(47, 0), (47, 1)], [48, 49])
theorem fr_State_becomes_47_16_25 : ∀ (n : Nat) (x2 : Int32) (V : ai_V) (r : ai_V), d_State_becomes_47_16_25 n x2 V = some r → Fr w_State_becomes_47_16 V r := by
  intro n
  induction n with
  | zero =>
    intro x2 V r h
    cases h
  | succ n ih =>
    intro x2 V r h
    rw [d_State_becomes_47_16_25] at h
    rcases ai_if h with ⟨-, h⟩ | ⟨-, h⟩
    · obtain rfl := Option.some.inj h
      exact Fr.rf
    · rcases ai_if h with ⟨-, h⟩ | ⟨-, h⟩
      · rcases ai_if h with ⟨-, h⟩ | ⟨-, h⟩
        · rcases ai_if h with ⟨-, h⟩ | ⟨-, h⟩
          · rcases ai_if h with ⟨-, h⟩ | ⟨-, h⟩
            · exact Fr.tr (Fr.sa (Fr.sa Fr.rf rfl) rfl) (ih _ _ _ h) rfl
            · cases h
          · cases h
        · cases h
      · cases h
theorem fr_State_becomes_47_16 : ∀ (V : ai_V) (r : ai_V), d_State_becomes_47_16 V = some r → Fr w_State_becomes_47_16 V r := by
  intro V r h
  rw [d_State_becomes_47_16] at h
  exact Fr.tr (Fr.si (Fr.si Fr.rf rfl) rfl) (fr_State_becomes_47_16_25 _ _ _ _ h) rfl
def w_State_becomes_44_16 : Fw := ([(44, 0), (44, 1)], [45, 46])
theorem fr_State_becomes_44_16_25 : ∀ (n : Nat) (x2 : Int32) (V : ai_V) (r : ai_V), d_State_becomes_44_16_25 n x2 V = some r → Fr w_State_becomes_44_16 V r := by
  intro n
  induction n with
  | zero =>
    intro x2 V r h
    cases h
  | succ n ih =>
    intro x2 V r h
    rw [d_State_becomes_44_16_25] at h
    rcases ai_if h with ⟨-, h⟩ | ⟨-, h⟩
    · obtain rfl := Option.some.inj h
      exact Fr.rf
    · rcases ai_if h with ⟨-, h⟩ | ⟨-, h⟩
      · rcases ai_if h with ⟨-, h⟩ | ⟨-, h⟩
        · rcases ai_if h with ⟨-, h⟩ | ⟨-, h⟩
          · rcases ai_if h with ⟨-, h⟩ | ⟨-, h⟩
            · exact Fr.tr (Fr.sa (Fr.sa Fr.rf rfl) rfl) (ih _ _ _ h) rfl
            · cases h
          · cases h
        · cases h
      · cases h
theorem fr_State_becomes_44_16 : ∀ (V : ai_V) (r : ai_V), d_State_becomes_44_16 V = some r → Fr w_State_becomes_44_16 V r := by
  intro V r h
  rw [d_State_becomes_44_16] at h
  exact Fr.tr (Fr.si (Fr.si Fr.rf rfl) rfl) (fr_State_becomes_44_16_25 _ _ _ _ h) rfl
def w_State_becomes_41_16 : Fw := ([(41, 0), (41, 1)], [42, 43])
theorem fr_State_becomes_41_16_25 : ∀ (n : Nat) (x2 : Int32) (V : ai_V) (r : ai_V), d_State_becomes_41_16_25 n x2 V = some r → Fr w_State_becomes_41_16 V r := by
  intro n
  induction n with
  | zero =>
    intro x2 V r h
    cases h
  | succ n ih =>
    intro x2 V r h
    rw [d_State_becomes_41_16_25] at h
    rcases ai_if h with ⟨-, h⟩ | ⟨-, h⟩
    · obtain rfl := Option.some.inj h
      exact Fr.rf
    · rcases ai_if h with ⟨-, h⟩ | ⟨-, h⟩
      · rcases ai_if h with ⟨-, h⟩ | ⟨-, h⟩
        · rcases ai_if h with ⟨-, h⟩ | ⟨-, h⟩
          · rcases ai_if h with ⟨-, h⟩ | ⟨-, h⟩
            · exact Fr.tr (Fr.sa (Fr.sa Fr.rf rfl) rfl) (ih _ _ _ h) rfl
            · cases h
          · cases h
        · cases h
      · cases h
theorem fr_State_becomes_41_16 : ∀ (V : ai_V) (r : ai_V), d_State_becomes_41_16 V = some r → Fr w_State_becomes_41_16 V r := by
  intro V r h
  rw [d_State_becomes_41_16] at h
  exact Fr.tr (Fr.si (Fr.si Fr.rf rfl) rfl) (fr_State_becomes_41_16_25 _ _ _ _ h) rfl
def w_State_becomes_38_16 : Fw := ([(38, 0), (38, 1)], [39, 40])
theorem fr_State_becomes_38_16_25 : ∀ (n : Nat) (x2 : Int32) (V : ai_V) (r : ai_V), d_State_becomes_38_16_25 n x2 V = some r → Fr w_State_becomes_38_16 V r := by
  intro n
  induction n with
  | zero =>
    intro x2 V r h
    cases h
  | succ n ih =>
    intro x2 V r h
    rw [d_State_becomes_38_16_25] at h
    rcases ai_if h with ⟨-, h⟩ | ⟨-, h⟩
    · obtain rfl := Option.some.inj h
      exact Fr.rf
    · rcases ai_if h with ⟨-, h⟩ | ⟨-, h⟩
      · rcases ai_if h with ⟨-, h⟩ | ⟨-, h⟩
        · rcases ai_if h with ⟨-, h⟩ | ⟨-, h⟩
          · rcases ai_if h with ⟨-, h⟩ | ⟨-, h⟩
            · exact Fr.tr (Fr.sa (Fr.sa Fr.rf rfl) rfl) (ih _ _ _ h) rfl
            · cases h
          · cases h
        · cases h
      · cases h
theorem fr_State_becomes_38_16 : ∀ (V : ai_V) (r : ai_V), d_State_becomes_38_16 V = some r → Fr w_State_becomes_38_16 V r := by
  intro V r h
  rw [d_State_becomes_38_16] at h
  exact Fr.tr (Fr.si (Fr.si Fr.rf rfl) rfl) (fr_State_becomes_38_16_25 _ _ _ _ h) rfl
def w_State_becomes_35_16 : Fw := ([(35, 0), (35, 1)], [36, 37])
theorem fr_State_becomes_35_16_25 : ∀ (n : Nat) (x2 : Int32) (V : ai_V) (r : ai_V), d_State_becomes_35_16_25 n x2 V = some r → Fr w_State_becomes_35_16 V r := by
  intro n
  induction n with
  | zero =>
    intro x2 V r h
    cases h
  | succ n ih =>
    intro x2 V r h
    rw [d_State_becomes_35_16_25] at h
    rcases ai_if h with ⟨-, h⟩ | ⟨-, h⟩
    · obtain rfl := Option.some.inj h
      exact Fr.rf
    · rcases ai_if h with ⟨-, h⟩ | ⟨-, h⟩
      · rcases ai_if h with ⟨-, h⟩ | ⟨-, h⟩
        · rcases ai_if h with ⟨-, h⟩ | ⟨-, h⟩
          · rcases ai_if h with ⟨-, h⟩ | ⟨-, h⟩
            · exact Fr.tr (Fr.sa (Fr.sa Fr.rf rfl) rfl) (ih _ _ _ h) rfl
            · cases h
          · cases h
        · cases h
      · cases h
theorem fr_State_becomes_35_16 : ∀ (V : ai_V) (r : ai_V), d_State_becomes_35_16 V = some r → Fr w_State_becomes_35_16 V r := by
  intro V r h
  rw [d_State_becomes_35_16] at h
  exact Fr.tr (Fr.si (Fr.si Fr.rf rfl) rfl) (fr_State_becomes_35_16_25 _ _ _ _ h) rfl
def w_State_becomes_32_16 : Fw := ([(32, 0), (32, 1)], [33, 34])
theorem fr_State_becomes_32_16_25 : ∀ (n : Nat) (x2 : Int32) (V : ai_V) (r : ai_V), d_State_becomes_32_16_25 n x2 V = some r → Fr w_State_becomes_32_16 V r := by
  intro n
  induction n with
  | zero =>
    intro x2 V r h
    cases h
  | succ n ih =>
    intro x2 V r h
    rw [d_State_becomes_32_16_25] at h
    rcases ai_if h with ⟨-, h⟩ | ⟨-, h⟩
    · obtain rfl := Option.some.inj h
      exact Fr.rf
    · rcases ai_if h with ⟨-, h⟩ | ⟨-, h⟩
      · rcases ai_if h with ⟨-, h⟩ | ⟨-, h⟩
        · rcases ai_if h with ⟨-, h⟩ | ⟨-, h⟩
          · rcases ai_if h with ⟨-, h⟩ | ⟨-, h⟩
            · exact Fr.tr (Fr.sa (Fr.sa Fr.rf rfl) rfl) (ih _ _ _ h) rfl
            · cases h
          · cases h
        · cases h
      · cases h
theorem fr_State_becomes_32_16 : ∀ (V : ai_V) (r : ai_V), d_State_becomes_32_16 V = some r → Fr w_State_becomes_32_16 V r := by
  intro V r h
  rw [d_State_becomes_32_16] at h
  exact Fr.tr (Fr.si (Fr.si Fr.rf rfl) rfl) (fr_State_becomes_32_16_25 _ _ _ _ h) rfl
def w_State_becomes_29_16 : Fw := ([(29, 0), (29, 1)], [30, 31])
theorem fr_State_becomes_29_16_25 : ∀ (n : Nat) (x2 : Int32) (V : ai_V) (r : ai_V), d_State_becomes_29_16_25 n x2 V = some r → Fr w_State_becomes_29_16 V r := by
  intro n
  induction n with
  | zero =>
    intro x2 V r h
    cases h
  | succ n ih =>
    intro x2 V r h
    rw [d_State_becomes_29_16_25] at h
    rcases ai_if h with ⟨-, h⟩ | ⟨-, h⟩
    · obtain rfl := Option.some.inj h
      exact Fr.rf
    · rcases ai_if h with ⟨-, h⟩ | ⟨-, h⟩
      · rcases ai_if h with ⟨-, h⟩ | ⟨-, h⟩
        · rcases ai_if h with ⟨-, h⟩ | ⟨-, h⟩
          · rcases ai_if h with ⟨-, h⟩ | ⟨-, h⟩
            · exact Fr.tr (Fr.sa (Fr.sa Fr.rf rfl) rfl) (ih _ _ _ h) rfl
            · cases h
          · cases h
        · cases h
      · cases h
theorem fr_State_becomes_29_16 : ∀ (V : ai_V) (r : ai_V), d_State_becomes_29_16 V = some r → Fr w_State_becomes_29_16 V r := by
  intro V r h
  rw [d_State_becomes_29_16] at h
  exact Fr.tr (Fr.si (Fr.si Fr.rf rfl) rfl) (fr_State_becomes_29_16_25 _ _ _ _ h) rfl
def w_State_becomes_26_16 : Fw := ([(26, 0), (26, 1)], [27, 28])
theorem fr_State_becomes_26_16_25 : ∀ (n : Nat) (x2 : Int32) (V : ai_V) (r : ai_V), d_State_becomes_26_16_25 n x2 V = some r → Fr w_State_becomes_26_16 V r := by
  intro n
  induction n with
  | zero =>
    intro x2 V r h
    cases h
  | succ n ih =>
    intro x2 V r h
    rw [d_State_becomes_26_16_25] at h
    rcases ai_if h with ⟨-, h⟩ | ⟨-, h⟩
    · obtain rfl := Option.some.inj h
      exact Fr.rf
    · rcases ai_if h with ⟨-, h⟩ | ⟨-, h⟩
      · rcases ai_if h with ⟨-, h⟩ | ⟨-, h⟩
        · rcases ai_if h with ⟨-, h⟩ | ⟨-, h⟩
          · rcases ai_if h with ⟨-, h⟩ | ⟨-, h⟩
            · exact Fr.tr (Fr.sa (Fr.sa Fr.rf rfl) rfl) (ih _ _ _ h) rfl
            · cases h
          · cases h
        · cases h
      · cases h
theorem fr_State_becomes_26_16 : ∀ (V : ai_V) (r : ai_V), d_State_becomes_26_16 V = some r → Fr w_State_becomes_26_16 V r := by
  intro V r h
  rw [d_State_becomes_26_16] at h
  exact Fr.tr (Fr.si (Fr.si Fr.rf rfl) rfl) (fr_State_becomes_26_16_25 _ _ _ _ h) rfl
def w_Past_save : Fw := ([(24, 1), (24, 2), (26, 0), (26, 1), (29, 0), (29, 1), (32, 0), (32, 1), (35, 0), (35, 1), (38, 0), (38, 1), (41, 0), (41, 1), (44, 0), (44, 1), (47, 0), (47, 1), (50, 0), (50, 1), (53, 0), (53, 1), (56, 0), (56, 1), (59, 0), (59, 1)], [27, 28, 30, 31, 33, 34, 36, 37, 39, 40, 42, 43, 45, 46, 48, 49, 51, 52, 54, 55, 57, 58, 60, 61])
theorem fr_Past_save : ∀ (V : ai_V) (r : ai_V), d_Past_save V = some r → Fr w_Past_save V r := by
  intro V r h
  rw [d_Past_save] at h
  rcases ai_if h with ⟨-, h⟩ | ⟨-, h⟩
  · obtain ⟨q12, hq12, h⟩ := ai_bd h
    have gq12 : Fr w_Past_save V q12 := (Fr.tr Fr.rf (fr_State_becomes_26_16 _ _ hq12) rfl)
    obtain rfl := Option.some.inj h
    exact (Fr.si (Fr.si gq12 rfl) rfl)
  · rcases ai_if h with ⟨-, h⟩ | ⟨-, h⟩
    · obtain ⟨q11, hq11, h⟩ := ai_bd h
      have gq11 : Fr w_Past_save V q11 := (Fr.tr Fr.rf (fr_State_becomes_29_16 _ _ hq11) rfl)
      obtain rfl := Option.some.inj h
      exact (Fr.si (Fr.si gq11 rfl) rfl)
    · rcases ai_if h with ⟨-, h⟩ | ⟨-, h⟩
      · obtain ⟨q10, hq10, h⟩ := ai_bd h
        have gq10 : Fr w_Past_save V q10 := (Fr.tr Fr.rf (fr_State_becomes_32_16 _ _ hq10) rfl)
        obtain rfl := Option.some.inj h
        exact (Fr.si (Fr.si gq10 rfl) rfl)
      · rcases ai_if h with ⟨-, h⟩ | ⟨-, h⟩
        · obtain ⟨q9, hq9, h⟩ := ai_bd h
          have gq9 : Fr w_Past_save V q9 := (Fr.tr Fr.rf (fr_State_becomes_35_16 _ _ hq9) rfl)
          obtain rfl := Option.some.inj h
          exact (Fr.si (Fr.si gq9 rfl) rfl)
        · rcases ai_if h with ⟨-, h⟩ | ⟨-, h⟩
          · obtain ⟨q8, hq8, h⟩ := ai_bd h
            have gq8 : Fr w_Past_save V q8 := (Fr.tr Fr.rf (fr_State_becomes_38_16 _ _ hq8) rfl)
            obtain rfl := Option.some.inj h
            exact (Fr.si (Fr.si gq8 rfl) rfl)
          · rcases ai_if h with ⟨-, h⟩ | ⟨-, h⟩
            · obtain ⟨q7, hq7, h⟩ := ai_bd h
              have gq7 : Fr w_Past_save V q7 := (Fr.tr Fr.rf (fr_State_becomes_41_16 _ _ hq7) rfl)
              obtain rfl := Option.some.inj h
              exact (Fr.si (Fr.si gq7 rfl) rfl)
            · rcases ai_if h with ⟨-, h⟩ | ⟨-, h⟩
              · obtain ⟨q6, hq6, h⟩ := ai_bd h
                have gq6 : Fr w_Past_save V q6 := (Fr.tr Fr.rf (fr_State_becomes_44_16 _ _ hq6) rfl)
                obtain rfl := Option.some.inj h
                exact (Fr.si (Fr.si gq6 rfl) rfl)
              · rcases ai_if h with ⟨-, h⟩ | ⟨-, h⟩
                · obtain ⟨q5, hq5, h⟩ := ai_bd h
                  have gq5 : Fr w_Past_save V q5 := (Fr.tr Fr.rf (fr_State_becomes_47_16 _ _ hq5) rfl)
                  obtain rfl := Option.some.inj h
                  exact (Fr.si (Fr.si gq5 rfl) rfl)
                · rcases ai_if h with ⟨-, h⟩ | ⟨-, h⟩
                  · obtain ⟨q4, hq4, h⟩ := ai_bd h
                    have gq4 : Fr w_Past_save V q4 := (Fr.tr Fr.rf (fr_State_becomes_50_16 _ _ hq4) rfl)
                    obtain rfl := Option.some.inj h
                    exact (Fr.si (Fr.si gq4 rfl) rfl)
                  · rcases ai_if h with ⟨-, h⟩ | ⟨-, h⟩
                    · obtain ⟨q3, hq3, h⟩ := ai_bd h
                      have gq3 : Fr w_Past_save V q3 := (Fr.tr Fr.rf (fr_State_becomes_53_16 _ _ hq3) rfl)
                      obtain rfl := Option.some.inj h
                      exact (Fr.si (Fr.si gq3 rfl) rfl)
                    · rcases ai_if h with ⟨-, h⟩ | ⟨-, h⟩
                      · obtain ⟨q2, hq2, h⟩ := ai_bd h
                        have gq2 : Fr w_Past_save V q2 := (Fr.tr Fr.rf (fr_State_becomes_56_16 _ _ hq2) rfl)
                        obtain rfl := Option.some.inj h
                        exact (Fr.si (Fr.si gq2 rfl) rfl)
                      · rcases ai_if h with ⟨-, h⟩ | ⟨-, h⟩
                        · obtain ⟨q1, hq1, h⟩ := ai_bd h
                          have gq1 : Fr w_Past_save V q1 := (Fr.tr Fr.rf (fr_State_becomes _ _ hq1) rfl)
                          obtain rfl := Option.some.inj h
                          exact (Fr.si (Fr.si gq1 rfl) rfl)
                        · cases h
def w_Wheel_take : Fw := ([(15, 4), (15, 5), (16, 1)], [18])
theorem fr_Wheel_take_105 {F18 : Int32 → Int32 → ai_V → Option ai_V} (hF18 : ∀ y0 y1 V r, F18 y0 y1 V = some r → Fr w_Wheel_take V r) : ∀ (x3 : Int32) (x4 : Int32) (V : ai_V) (r : ai_V), d_Wheel_take_105 F18 x3 x4 V = some r → Fr w_Wheel_take V r := by
  intro x3 x4 V r h
  rw [d_Wheel_take_105] at h
  exact Fr.tr Fr.rf (hF18 _ _ _ _ h) rfl
theorem fr_Wheel_take_18 : ∀ (n : Nat) (x3 : Int32) (x4 : Int32) (V : ai_V) (r : ai_V), d_Wheel_take_18 n x3 x4 V = some r → Fr w_Wheel_take V r := by
  intro n
  induction n with
  | zero =>
    intro x3 x4 V r h
    cases h
  | succ n ih =>
    intro x3 x4 V r h
    rw [d_Wheel_take_18] at h
    rcases ai_if h with ⟨-, h⟩ | ⟨-, h⟩
    · obtain rfl := Option.some.inj h
      exact Fr.rf
    · rcases ai_if h with ⟨-, h⟩ | ⟨-, h⟩
      · obtain ⟨q1, hq1, h⟩ := ai_bd h
        rcases ai_if h with ⟨-, h⟩ | ⟨-, h⟩
        · rcases ai_if h with ⟨-, h⟩ | ⟨-, h⟩
          · rcases ai_if h with ⟨-, h⟩ | ⟨-, h⟩
            · exact Fr.tr (Fr.si (Fr.si (Fr.sa Fr.rf rfl) rfl) rfl) (fr_Wheel_take_105 ih _ _ _ _ h) rfl
            · cases h
          · cases h
        · exact Fr.tr (Fr.si Fr.rf rfl) (fr_Wheel_take_105 ih _ _ _ _ h) rfl
      · cases h
theorem fr_Wheel_take : ∀ (V : ai_V) (r : ai_V), d_Wheel_take V = some r → Fr w_Wheel_take V r := by
  intro V r h
  rw [d_Wheel_take] at h
  obtain ⟨q2, hq2, h⟩ := ai_bd h
  exact Fr.tr (Fr.si (Fr.si Fr.rf rfl) rfl) (fr_Wheel_take_18 _ _ _ _ _ h) rfl
def w_Wheel_pass : Fw := ([(15, 2), (15, 3), (15, 4), (15, 5), (16, 0), (16, 1)], [12, 13, 17, 18])
theorem fr_Wheel_pass_176 : ∀ (n : Nat) (x6 : Int32) (V : ai_V) (r : ai_V), d_Wheel_pass_176 n x6 V = some r → Fr w_Wheel_pass V r := by
  intro n
  induction n with
  | zero =>
    intro x6 V r h
    cases h
  | succ n ih =>
    intro x6 V r h
    rw [d_Wheel_pass_176] at h
    rcases ai_if h with ⟨-, h⟩ | ⟨-, h⟩
    · obtain rfl := Option.some.inj h
      exact Fr.rf
    · rcases ai_if h with ⟨-, h⟩ | ⟨-, h⟩
      · obtain ⟨q1, hq1, h⟩ := ai_bd h
        rcases ai_if h with ⟨-, h⟩ | ⟨-, h⟩
        · exact Fr.tr (Fr.sa Fr.rf rfl) (ih _ _ _ h) rfl
        · cases h
      · cases h
theorem fr_Wheel_pass_144 : ∀ (V : ai_V) (r : ai_V), d_Wheel_pass_144 V = some r → Fr w_Wheel_pass V r := by
  intro V r h
  rw [d_Wheel_pass_144] at h
  obtain ⟨q2, hq2, h⟩ := ai_bd h
  have gq2 : Fr w_Wheel_pass V q2 := (Fr.tr Fr.rf (fr_Wheel_take _ _ hq2) rfl)
  obtain ⟨q3, hq3, h⟩ := ai_bd h
  rcases ai_if h with ⟨-, h⟩ | ⟨-, h⟩
  · obtain rfl := Option.some.inj h
    exact (Fr.si gq2 rfl)
  · exact Fr.tr (Fr.si gq2 rfl) (fr_Wheel_pass_176 _ _ _ _ h) rfl
theorem fr_Wheel_pass_122 : ∀ (x3 : Int32) (x5 : Int32) (V : ai_V) (r : ai_V), d_Wheel_pass_122 x3 x5 V = some r → Fr w_Wheel_pass V r := by
  intro x3 x5 V r h
  rw [d_Wheel_pass_122] at h
  obtain ⟨q4, hq4, h⟩ := ai_bd h
  rcases ai_if h with ⟨-, h⟩ | ⟨-, h⟩
  · exact Fr.tr Fr.rf (fr_Wheel_pass_144 _ _ h) rfl
  · rcases ai_if h with ⟨-, h⟩ | ⟨-, h⟩
    · rcases ai_if h with ⟨-, h⟩ | ⟨-, h⟩
      · exact Fr.tr (Fr.sa Fr.rf rfl) (fr_Wheel_pass_144 _ _ h) rfl
      · cases h
    · cases h
theorem fr_Wheel_pass : ∀ (x2 : Int32) (x3 : Int32) (V : ai_V) (r : ai_V), d_Wheel_pass x2 x3 V = some r → Fr w_Wheel_pass V r := by
  intro x2 x3 V r h
  rw [d_Wheel_pass] at h
  obtain ⟨q5, hq5, h⟩ := ai_bd h
  obtain ⟨q6, hq6, h⟩ := ai_bd h
  have gq6 : Fr w_Wheel_pass V q6.2 := (Fr.tr Fr.rf (fr_Wheel_pails _ _ _ _ _ _ _ hq6) rfl)
  obtain ⟨q7, hq7, h⟩ := ai_bd h
  have gq7 : Fr w_Wheel_pass V q7.2 := (Fr.tr gq6 (fr_Wheel_pails _ _ _ _ _ _ _ hq7) rfl)
  obtain ⟨q8, hq8, h⟩ := ai_bd h
  obtain ⟨q9, hq9, h⟩ := ai_bd h
  rcases ai_if h with ⟨-, h⟩ | ⟨-, h⟩
  · exact Fr.tr (Fr.si (Fr.si (Fr.si gq7 rfl) rfl) rfl) (fr_Wheel_pass_122 _ _ _ _ h) rfl
  · rcases ai_if h with ⟨-, h⟩ | ⟨-, h⟩
    · rcases ai_if h with ⟨-, h⟩ | ⟨-, h⟩
      · exact Fr.tr (Fr.sa (Fr.si (Fr.si (Fr.si gq7 rfl) rfl) rfl) rfl) (fr_Wheel_pass_122 _ _ _ _ h) rfl
      · cases h
    · cases h
def w_Row_tellThree : Fw := ([(22, 1)], [23])
theorem fr_Row_tellThree : ∀ (x1 : Int64) (x3 : Int64) (x5 : Int64) (V : ai_V) (r : ai_V), d_Row_tellThree x1 x3 x5 V = some r → Fr w_Row_tellThree V r := by
  intro x1 x3 x5 V r h
  rw [d_Row_tellThree] at h
  obtain ⟨q1, hq1, h⟩ := ai_bd h
  have gq1 : Fr w_Row_tellThree V q1 := (Fr.tr Fr.rf (fr_Row_tellTwo _ _ _ _ hq1) rfl)
  obtain ⟨q2, hq2, h⟩ := ai_bd h
  have gq2 : Fr w_Row_tellThree V q2 := (Fr.tr gq1 (fr_Row_add _ _ _ hq2) rfl)
  obtain rfl := Option.some.inj h
  exact gq2
def w_X_quarter : Fw := ([(15, 2), (15, 3), (15, 4), (15, 5), (16, 0), (16, 1), (22, 1), (24, 1), (24, 2), (26, 0), (26, 1), (29, 0), (29, 1), (32, 0), (32, 1), (35, 0), (35, 1), (38, 0), (38, 1), (41, 0), (41, 1), (44, 0), (44, 1), (47, 0), (47, 1), (50, 0), (50, 1), (53, 0), (53, 1), (56, 0), (56, 1), (59, 0), (59, 1)], [12, 13, 17, 18, 23, 27, 28, 30, 31, 33, 34, 36, 37, 39, 40, 42, 43, 45, 46, 48, 49, 51, 52, 54, 55, 57, 58, 60, 61])
theorem fr_X_quarter : ∀ (x1 : Int32) (x2 : Int32) (V : ai_V) (r : (Int32 × ai_V)), d_X_quarter x1 x2 V = some r → Fr w_X_quarter V r.2 := by
  intro x1 x2 V r h
  rw [d_X_quarter] at h
  obtain ⟨q1, hq1, h⟩ := ai_bd h
  rcases ai_if h with ⟨-, h⟩ | ⟨-, h⟩
  · obtain ⟨q2, hq2, h⟩ := ai_bd h
    have gq2 : Fr w_X_quarter V q2 := (Fr.tr Fr.rf (fr_Past_save _ _ hq2) rfl)
    obtain ⟨q3, hq3, h⟩ := ai_bd h
    have gq3 : Fr w_X_quarter V q3 := (Fr.tr gq2 (fr_Wheel_pass _ _ _ _ hq3) rfl)
    obtain ⟨q4, hq4, h⟩ := ai_bd h
    have gq4 : Fr w_X_quarter V q4 := (Fr.tr gq3 (fr_Row_tellThree _ _ _ _ _ hq4) rfl)
    obtain rfl := Option.some.inj h
    exact gq4
  · obtain rfl := Option.some.inj h
    exact Fr.rf
def w_X_treadDay : Fw := ([(15, 2), (15, 3), (15, 4), (15, 5), (16, 0), (16, 1), (22, 1), (24, 1), (24, 2), (26, 0), (26, 1), (29, 0), (29, 1), (32, 0), (32, 1), (35, 0), (35, 1), (38, 0), (38, 1), (41, 0), (41, 1), (44, 0), (44, 1), (47, 0), (47, 1), (50, 0), (50, 1), (53, 0), (53, 1), (56, 0), (56, 1), (59, 0), (59, 1)], [12, 13, 17, 18, 23, 27, 28, 30, 31, 33, 34, 36, 37, 39, 40, 42, 43, 45, 46, 48, 49, 51, 52, 54, 55, 57, 58, 60, 61])
theorem fr_X_treadDay_214 : ∀ (x2 : Int32) (x3 : Int32) (x4 : Int32) (V : ai_V) (r : (Int32 × ai_V)), d_X_treadDay_214 x2 x3 x4 V = some r → Fr w_X_treadDay V r.2 := by
  intro x2 x3 x4 V r h
  rw [d_X_treadDay_214] at h
  obtain ⟨q1, hq1, h⟩ := ai_bd h
  have gq1 : Fr w_X_treadDay V q1 := (Fr.tr Fr.rf (fr_Row_tellThree _ _ _ _ _ hq1) rfl)
  obtain rfl := Option.some.inj h
  exact gq1
theorem fr_X_treadDay_174 {F10 : Int32 → Int32 → Int32 → Int32 → ai_V → Option (Int32 × ai_V)} (hF10 : ∀ y0 y1 y2 y3 V r, F10 y0 y1 y2 y3 V = some r → Fr w_X_treadDay V r.2) : ∀ (x2 : Int32) (x3 : Int32) (x4 : Int32) (x5 : Int32) (x7 : Int32) (x8 : Int32) (V : ai_V) (r : (Int32 × ai_V)), d_X_treadDay_174 F10 x2 x3 x4 x5 x7 x8 V = some r → Fr w_X_treadDay V r.2 := by
  intro x2 x3 x4 x5 x7 x8 V r h
  rw [d_X_treadDay_174] at h
  obtain ⟨q2, hq2, h⟩ := ai_bd h
  have gq2 : Fr w_X_treadDay V q2 := (Fr.tr Fr.rf (fr_Wheel_pass _ _ _ _ hq2) rfl)
  exact Fr.tr gq2 (hF10 _ _ _ _ _ _ h) rfl
theorem fr_X_treadDay_134 {F10 : Int32 → Int32 → Int32 → Int32 → ai_V → Option (Int32 × ai_V)} (hF10 : ∀ y0 y1 y2 y3 V r, F10 y0 y1 y2 y3 V = some r → Fr w_X_treadDay V r.2) : ∀ (x2 : Int32) (x3 : Int32) (x4 : Int32) (x7 : Int32) (x8 : Int32) (s0 : Int32) (s1 : Int32) (V : ai_V) (r : (Int32 × ai_V)), d_X_treadDay_134 F10 x2 x3 x4 x7 x8 s0 s1 V = some r → Fr w_X_treadDay V r.2 := by
  intro x2 x3 x4 x7 x8 s0 s1 V r h
  rw [d_X_treadDay_134] at h
  obtain ⟨q3, hq3, h⟩ := ai_bd h
  rcases ai_if h with ⟨-, h⟩ | ⟨-, h⟩
  · rcases ai_if h with ⟨-, h⟩ | ⟨-, h⟩
    · exact Fr.tr Fr.rf (fr_X_treadDay_174 hF10 _ _ _ _ _ _ _ _ h) rfl
    · obtain ⟨q4, hq4, h⟩ := ai_bd h
      have gq4 : Fr w_X_treadDay V q4 := (Fr.tr Fr.rf (fr_Past_save _ _ hq4) rfl)
      exact Fr.tr gq4 (fr_X_treadDay_174 hF10 _ _ _ _ _ _ _ _ h) rfl
  · exact Fr.tr Fr.rf (fr_X_treadDay_214 _ _ _ _ _ h) rfl
theorem fr_X_treadDay_120 {F10 : Int32 → Int32 → Int32 → Int32 → ai_V → Option (Int32 × ai_V)} (hF10 : ∀ y0 y1 y2 y3 V r, F10 y0 y1 y2 y3 V = some r → Fr w_X_treadDay V r.2) : ∀ (x2 : Int32) (x3 : Int32) (x4 : Int32) (x5 : Int32) (x6 : Int32) (x7 : Int32) (s0 : Int32) (V : ai_V) (r : (Int32 × ai_V)), d_X_treadDay_120 F10 x2 x3 x4 x5 x6 x7 s0 V = some r → Fr w_X_treadDay V r.2 := by
  intro x2 x3 x4 x5 x6 x7 s0 V r h
  rw [d_X_treadDay_120] at h
  rcases ai_if h with ⟨-, h⟩ | ⟨-, h⟩
  · exact Fr.tr Fr.rf (fr_X_treadDay_134 hF10 _ _ _ _ _ _ _ _ _ h) rfl
  · exact Fr.tr Fr.rf (fr_X_treadDay_134 hF10 _ _ _ _ _ _ _ _ _ h) rfl
theorem fr_X_treadDay_95 {F10 : Int32 → Int32 → Int32 → Int32 → ai_V → Option (Int32 × ai_V)} (hF10 : ∀ y0 y1 y2 y3 V r, F10 y0 y1 y2 y3 V = some r → Fr w_X_treadDay V r.2) : ∀ (x2 : Int32) (x3 : Int32) (x4 : Int32) (x5 : Int32) (x6 : Int32) (s0 : Int32) (V : ai_V) (r : (Int32 × ai_V)), d_X_treadDay_95 F10 x2 x3 x4 x5 x6 s0 V = some r → Fr w_X_treadDay V r.2 := by
  intro x2 x3 x4 x5 x6 s0 V r h
  rw [d_X_treadDay_95] at h
  rcases ai_if h with ⟨-, h⟩ | ⟨-, h⟩
  · exact Fr.tr Fr.rf (fr_X_treadDay_120 hF10 _ _ _ _ _ _ _ _ _ h) rfl
  · obtain ⟨q5, hq5, h⟩ := ai_bd h
    exact Fr.tr Fr.rf (fr_X_treadDay_120 hF10 _ _ _ _ _ _ _ _ _ h) rfl
theorem fr_X_treadDay_41 {F10 : Int32 → Int32 → Int32 → Int32 → ai_V → Option (Int32 × ai_V)} (hF10 : ∀ y0 y1 y2 y3 V r, F10 y0 y1 y2 y3 V = some r → Fr w_X_treadDay V r.2) : ∀ (x2 : Int32) (x3 : Int32) (x4 : Int32) (x5 : Int32) (s0 : Int32) (V : ai_V) (r : (Int32 × ai_V)), d_X_treadDay_41 F10 x2 x3 x4 x5 s0 V = some r → Fr w_X_treadDay V r.2 := by
  intro x2 x3 x4 x5 s0 V r h
  rw [d_X_treadDay_41] at h
  rcases ai_if h with ⟨-, h⟩ | ⟨-, h⟩
  · obtain ⟨q6, hq6, h⟩ := ai_bd h
    rcases ai_if h with ⟨-, h⟩ | ⟨-, h⟩
    · obtain ⟨q7, hq7, h⟩ := ai_bd h
      exact Fr.tr Fr.rf (fr_X_treadDay_95 hF10 _ _ _ _ _ _ _ _ h) rfl
    · exact Fr.tr Fr.rf (fr_X_treadDay_95 hF10 _ _ _ _ _ _ _ _ h) rfl
  · obtain ⟨q8, hq8, h⟩ := ai_bd h
    exact Fr.tr Fr.rf (fr_X_treadDay_95 hF10 _ _ _ _ _ _ _ _ h) rfl
theorem fr_X_treadDay_10 : ∀ (n : Nat) (x2 : Int32) (x3 : Int32) (x4 : Int32) (x5 : Int32) (V : ai_V) (r : (Int32 × ai_V)), d_X_treadDay_10 n x2 x3 x4 x5 V = some r → Fr w_X_treadDay V r.2 := by
  intro n
  induction n with
  | zero =>
    intro x2 x3 x4 x5 V r h
    cases h
  | succ n ih =>
    intro x2 x3 x4 x5 V r h
    rw [d_X_treadDay_10] at h
    rcases ai_if h with ⟨-, h⟩ | ⟨-, h⟩
    · exact Fr.tr Fr.rf (fr_X_treadDay_214 _ _ _ _ _ h) rfl
    · obtain ⟨q9, hq9, h⟩ := ai_bd h
      rcases ai_if h with ⟨-, h⟩ | ⟨-, h⟩
      · exact Fr.tr Fr.rf (fr_X_treadDay_41 ih _ _ _ _ _ _ _ h) rfl
      · exact Fr.tr Fr.rf (fr_X_treadDay_41 ih _ _ _ _ _ _ _ h) rfl
theorem fr_X_treadDay : ∀ (V : ai_V) (r : (Int32 × ai_V)), d_X_treadDay V = some r → Fr w_X_treadDay V r.2 := by
  intro V r h
  rw [d_X_treadDay] at h
  exact Fr.tr Fr.rf (fr_X_treadDay_10 _ _ _ _ _ _ _ h) rfl
def w_X_readDay : Fw := ([(1, 1), (15, 2), (15, 3), (15, 4), (15, 5), (16, 0), (16, 1), (22, 1), (24, 1), (24, 2), (26, 0), (26, 1), (29, 0), (29, 1), (32, 0), (32, 1), (35, 0), (35, 1), (38, 0), (38, 1), (41, 0), (41, 1), (44, 0), (44, 1), (47, 0), (47, 1), (50, 0), (50, 1), (53, 0), (53, 1), (56, 0), (56, 1), (59, 0), (59, 1)], [12, 13, 17, 18, 23, 27, 28, 30, 31, 33, 34, 36, 37, 39, 40, 42, 43, 45, 46, 48, 49, 51, 52, 54, 55, 57, 58, 60, 61])
theorem fr_X_readDay_21 : ∀ (s0 : Int32) (V : ai_V) (r : (Int32 × ai_V)), d_X_readDay_21 s0 V = some r → Fr w_X_readDay V r.2 := by
  intro s0 V r h
  rw [d_X_readDay_21] at h
  obtain ⟨q1, hq1, h⟩ := ai_bd h
  have gq1 : Fr w_X_readDay V q1 := (Fr.tr Fr.rf (fr_Text_clear _ _ hq1) rfl)
  obtain rfl := Option.some.inj h
  exact gq1
theorem fr_X_readDay : ∀ (V : ai_V) (r : (Int32 × ai_V)), d_X_readDay V = some r → Fr w_X_readDay V r.2 := by
  intro V r h
  rw [d_X_readDay] at h
  obtain ⟨q2, hq2, h⟩ := ai_bd h
  rcases ai_if h with ⟨-, h⟩ | ⟨-, h⟩
  · exact Fr.tr Fr.rf (fr_X_readDay_21 _ _ _ h) rfl
  · obtain ⟨q3, hq3, h⟩ := ai_bd h
    have gq3 : Fr w_X_readDay V q3.2 := (Fr.tr Fr.rf (fr_X_treadDay _ _ hq3) rfl)
    exact Fr.tr gq3 (fr_X_readDay_21 _ _ _ h) rfl
def w_X_day : Fw := ([(1, 1), (15, 2), (15, 3), (15, 4), (15, 5), (16, 0), (16, 1), (22, 1), (24, 1), (24, 2), (26, 0), (26, 1), (29, 0), (29, 1), (32, 0), (32, 1), (35, 0), (35, 1), (38, 0), (38, 1), (41, 0), (41, 1), (44, 0), (44, 1), (47, 0), (47, 1), (50, 0), (50, 1), (53, 0), (53, 1), (56, 0), (56, 1), (59, 0), (59, 1)], [12, 13, 17, 18, 23, 27, 28, 30, 31, 33, 34, 36, 37, 39, 40, 42, 43, 45, 46, 48, 49, 51, 52, 54, 55, 57, 58, 60, 61])
theorem fr_X_day : ∀ (V : ai_V) (r : (Int32 × ai_V)), d_X_day V = some r → Fr w_X_day V r.2 := by
  intro V r h
  rw [d_X_day] at h
  obtain ⟨q1, hq1, h⟩ := ai_bd h
  have gq1 : Fr w_X_day V q1.2 := (Fr.tr Fr.rf (fr_X_readDay _ _ hq1) rfl)
  obtain rfl := Option.some.inj h
  exact gq1
def w_State_becomes_19_16 : Fw := ([(19, 0), (19, 1)], [20, 21])
theorem fr_State_becomes_19_16_25 : ∀ (n : Nat) (x2 : Int32) (V : ai_V) (r : ai_V), d_State_becomes_19_16_25 n x2 V = some r → Fr w_State_becomes_19_16 V r := by
  intro n
  induction n with
  | zero =>
    intro x2 V r h
    cases h
  | succ n ih =>
    intro x2 V r h
    rw [d_State_becomes_19_16_25] at h
    rcases ai_if h with ⟨-, h⟩ | ⟨-, h⟩
    · obtain rfl := Option.some.inj h
      exact Fr.rf
    · rcases ai_if h with ⟨-, h⟩ | ⟨-, h⟩
      · rcases ai_if h with ⟨-, h⟩ | ⟨-, h⟩
        · rcases ai_if h with ⟨-, h⟩ | ⟨-, h⟩
          · rcases ai_if h with ⟨-, h⟩ | ⟨-, h⟩
            · exact Fr.tr (Fr.sa (Fr.sa Fr.rf rfl) rfl) (ih _ _ _ h) rfl
            · cases h
          · cases h
        · cases h
      · cases h
theorem fr_State_becomes_19_16 : ∀ (V : ai_V) (r : ai_V), d_State_becomes_19_16 V = some r → Fr w_State_becomes_19_16 V r := by
  intro V r h
  rw [d_State_becomes_19_16] at h
  exact Fr.tr (Fr.si (Fr.si Fr.rf rfl) rfl) (fr_State_becomes_19_16_25 _ _ _ _ h) rfl
def w_X_asked : Fw := ([(19, 0), (19, 1), (19, 2)], [20, 21])
theorem fr_X_asked : ∀ (V : ai_V) (r : ai_V), d_X_asked V = some r → Fr w_X_asked V r := by
  intro V r h
  rw [d_X_asked] at h
  obtain ⟨q1, hq1, h⟩ := ai_bd h
  have gq1 : Fr w_X_asked V q1 := (Fr.tr (Fr.si Fr.rf rfl) (fr_State_becomes_19_16 _ _ hq1) rfl)
  obtain rfl := Option.some.inj h
  exact gq1
def w_Wheel_take_15_19_9 : Fw := ([(15, 4), (15, 5), (19, 1)], [21])
theorem fr_Wheel_take_15_19_9_105 {F18 : Int32 → Int32 → ai_V → Option ai_V} (hF18 : ∀ y0 y1 V r, F18 y0 y1 V = some r → Fr w_Wheel_take_15_19_9 V r) : ∀ (x3 : Int32) (x4 : Int32) (V : ai_V) (r : ai_V), d_Wheel_take_15_19_9_105 F18 x3 x4 V = some r → Fr w_Wheel_take_15_19_9 V r := by
  intro x3 x4 V r h
  rw [d_Wheel_take_15_19_9_105] at h
  exact Fr.tr Fr.rf (hF18 _ _ _ _ h) rfl
theorem fr_Wheel_take_15_19_9_18 : ∀ (n : Nat) (x3 : Int32) (x4 : Int32) (V : ai_V) (r : ai_V), d_Wheel_take_15_19_9_18 n x3 x4 V = some r → Fr w_Wheel_take_15_19_9 V r := by
  intro n
  induction n with
  | zero =>
    intro x3 x4 V r h
    cases h
  | succ n ih =>
    intro x3 x4 V r h
    rw [d_Wheel_take_15_19_9_18] at h
    rcases ai_if h with ⟨-, h⟩ | ⟨-, h⟩
    · obtain rfl := Option.some.inj h
      exact Fr.rf
    · rcases ai_if h with ⟨-, h⟩ | ⟨-, h⟩
      · obtain ⟨q1, hq1, h⟩ := ai_bd h
        rcases ai_if h with ⟨-, h⟩ | ⟨-, h⟩
        · rcases ai_if h with ⟨-, h⟩ | ⟨-, h⟩
          · rcases ai_if h with ⟨-, h⟩ | ⟨-, h⟩
            · exact Fr.tr (Fr.si (Fr.si (Fr.sa Fr.rf rfl) rfl) rfl) (fr_Wheel_take_15_19_9_105 ih _ _ _ _ h) rfl
            · cases h
          · cases h
        · exact Fr.tr (Fr.si Fr.rf rfl) (fr_Wheel_take_15_19_9_105 ih _ _ _ _ h) rfl
      · cases h
theorem fr_Wheel_take_15_19_9 : ∀ (V : ai_V) (r : ai_V), d_Wheel_take_15_19_9 V = some r → Fr w_Wheel_take_15_19_9 V r := by
  intro V r h
  rw [d_Wheel_take_15_19_9] at h
  obtain ⟨q2, hq2, h⟩ := ai_bd h
  exact Fr.tr (Fr.si (Fr.si Fr.rf rfl) rfl) (fr_Wheel_take_15_19_9_18 _ _ _ _ _ h) rfl
def w_Wheel_pass_15_19 : Fw := ([(15, 2), (15, 3), (15, 4), (15, 5), (19, 0), (19, 1)], [12, 13, 20, 21])
theorem fr_Wheel_pass_15_19_176 : ∀ (n : Nat) (x6 : Int32) (V : ai_V) (r : ai_V), d_Wheel_pass_15_19_176 n x6 V = some r → Fr w_Wheel_pass_15_19 V r := by
  intro n
  induction n with
  | zero =>
    intro x6 V r h
    cases h
  | succ n ih =>
    intro x6 V r h
    rw [d_Wheel_pass_15_19_176] at h
    rcases ai_if h with ⟨-, h⟩ | ⟨-, h⟩
    · obtain rfl := Option.some.inj h
      exact Fr.rf
    · rcases ai_if h with ⟨-, h⟩ | ⟨-, h⟩
      · obtain ⟨q1, hq1, h⟩ := ai_bd h
        rcases ai_if h with ⟨-, h⟩ | ⟨-, h⟩
        · exact Fr.tr (Fr.sa Fr.rf rfl) (ih _ _ _ h) rfl
        · cases h
      · cases h
theorem fr_Wheel_pass_15_19_144 : ∀ (V : ai_V) (r : ai_V), d_Wheel_pass_15_19_144 V = some r → Fr w_Wheel_pass_15_19 V r := by
  intro V r h
  rw [d_Wheel_pass_15_19_144] at h
  obtain ⟨q2, hq2, h⟩ := ai_bd h
  have gq2 : Fr w_Wheel_pass_15_19 V q2 := (Fr.tr Fr.rf (fr_Wheel_take_15_19_9 _ _ hq2) rfl)
  obtain ⟨q3, hq3, h⟩ := ai_bd h
  rcases ai_if h with ⟨-, h⟩ | ⟨-, h⟩
  · obtain rfl := Option.some.inj h
    exact (Fr.si gq2 rfl)
  · exact Fr.tr (Fr.si gq2 rfl) (fr_Wheel_pass_15_19_176 _ _ _ _ h) rfl
theorem fr_Wheel_pass_15_19_122 : ∀ (x3 : Int32) (x5 : Int32) (V : ai_V) (r : ai_V), d_Wheel_pass_15_19_122 x3 x5 V = some r → Fr w_Wheel_pass_15_19 V r := by
  intro x3 x5 V r h
  rw [d_Wheel_pass_15_19_122] at h
  obtain ⟨q4, hq4, h⟩ := ai_bd h
  rcases ai_if h with ⟨-, h⟩ | ⟨-, h⟩
  · exact Fr.tr Fr.rf (fr_Wheel_pass_15_19_144 _ _ h) rfl
  · rcases ai_if h with ⟨-, h⟩ | ⟨-, h⟩
    · rcases ai_if h with ⟨-, h⟩ | ⟨-, h⟩
      · exact Fr.tr (Fr.sa Fr.rf rfl) (fr_Wheel_pass_15_19_144 _ _ h) rfl
      · cases h
    · cases h
theorem fr_Wheel_pass_15_19 : ∀ (x2 : Int32) (x3 : Int32) (V : ai_V) (r : ai_V), d_Wheel_pass_15_19 x2 x3 V = some r → Fr w_Wheel_pass_15_19 V r := by
  intro x2 x3 V r h
  rw [d_Wheel_pass_15_19] at h
  obtain ⟨q5, hq5, h⟩ := ai_bd h
  obtain ⟨q6, hq6, h⟩ := ai_bd h
  have gq6 : Fr w_Wheel_pass_15_19 V q6.2 := (Fr.tr Fr.rf (fr_Wheel_pails _ _ _ _ _ _ _ hq6) rfl)
  obtain ⟨q7, hq7, h⟩ := ai_bd h
  have gq7 : Fr w_Wheel_pass_15_19 V q7.2 := (Fr.tr gq6 (fr_Wheel_pails _ _ _ _ _ _ _ hq7) rfl)
  obtain ⟨q8, hq8, h⟩ := ai_bd h
  obtain ⟨q9, hq9, h⟩ := ai_bd h
  rcases ai_if h with ⟨-, h⟩ | ⟨-, h⟩
  · exact Fr.tr (Fr.si (Fr.si (Fr.si gq7 rfl) rfl) rfl) (fr_Wheel_pass_15_19_122 _ _ _ _ h) rfl
  · rcases ai_if h with ⟨-, h⟩ | ⟨-, h⟩
    · rcases ai_if h with ⟨-, h⟩ | ⟨-, h⟩
      · exact Fr.tr (Fr.sa (Fr.si (Fr.si (Fr.si gq7 rfl) rfl) rfl) rfl) (fr_Wheel_pass_15_19_122 _ _ _ _ h) rfl
      · cases h
    · cases h
def w_X_treadDay_0_19 : Fw := ([(15, 2), (15, 3), (15, 4), (15, 5), (19, 0), (19, 1), (22, 1)], [12, 13, 20, 21, 23])
theorem fr_X_treadDay_0_19_214 : ∀ (x2 : Int32) (x3 : Int32) (x4 : Int32) (V : ai_V) (r : (Int32 × ai_V)), d_X_treadDay_0_19_214 x2 x3 x4 V = some r → Fr w_X_treadDay_0_19 V r.2 := by
  intro x2 x3 x4 V r h
  rw [d_X_treadDay_0_19_214] at h
  obtain ⟨q1, hq1, h⟩ := ai_bd h
  have gq1 : Fr w_X_treadDay_0_19 V q1 := (Fr.tr Fr.rf (fr_Row_tellThree _ _ _ _ _ hq1) rfl)
  obtain rfl := Option.some.inj h
  exact gq1
theorem fr_X_treadDay_0_19_174 {F10 : Int32 → Int32 → Int32 → Int32 → ai_V → Option (Int32 × ai_V)} (hF10 : ∀ y0 y1 y2 y3 V r, F10 y0 y1 y2 y3 V = some r → Fr w_X_treadDay_0_19 V r.2) : ∀ (x2 : Int32) (x3 : Int32) (x4 : Int32) (x5 : Int32) (x7 : Int32) (x8 : Int32) (V : ai_V) (r : (Int32 × ai_V)), d_X_treadDay_0_19_174 F10 x2 x3 x4 x5 x7 x8 V = some r → Fr w_X_treadDay_0_19 V r.2 := by
  intro x2 x3 x4 x5 x7 x8 V r h
  rw [d_X_treadDay_0_19_174] at h
  obtain ⟨q2, hq2, h⟩ := ai_bd h
  have gq2 : Fr w_X_treadDay_0_19 V q2 := (Fr.tr Fr.rf (fr_Wheel_pass_15_19 _ _ _ _ hq2) rfl)
  exact Fr.tr gq2 (hF10 _ _ _ _ _ _ h) rfl
theorem fr_X_treadDay_0_19_134 {F10 : Int32 → Int32 → Int32 → Int32 → ai_V → Option (Int32 × ai_V)} (hF10 : ∀ y0 y1 y2 y3 V r, F10 y0 y1 y2 y3 V = some r → Fr w_X_treadDay_0_19 V r.2) : ∀ (x2 : Int32) (x3 : Int32) (x4 : Int32) (x7 : Int32) (x8 : Int32) (s0 : Int32) (s1 : Int32) (V : ai_V) (r : (Int32 × ai_V)), d_X_treadDay_0_19_134 F10 x2 x3 x4 x7 x8 s0 s1 V = some r → Fr w_X_treadDay_0_19 V r.2 := by
  intro x2 x3 x4 x7 x8 s0 s1 V r h
  rw [d_X_treadDay_0_19_134] at h
  obtain ⟨q3, hq3, h⟩ := ai_bd h
  rcases ai_if h with ⟨-, h⟩ | ⟨-, h⟩
  · rcases ai_if h with ⟨-, h⟩ | ⟨-, h⟩
    · exact Fr.tr Fr.rf (fr_X_treadDay_0_19_174 hF10 _ _ _ _ _ _ _ _ h) rfl
    · exact Fr.tr Fr.rf (fr_X_treadDay_0_19_174 hF10 _ _ _ _ _ _ _ _ h) rfl
  · exact Fr.tr Fr.rf (fr_X_treadDay_0_19_214 _ _ _ _ _ h) rfl
theorem fr_X_treadDay_0_19_120 {F10 : Int32 → Int32 → Int32 → Int32 → ai_V → Option (Int32 × ai_V)} (hF10 : ∀ y0 y1 y2 y3 V r, F10 y0 y1 y2 y3 V = some r → Fr w_X_treadDay_0_19 V r.2) : ∀ (x2 : Int32) (x3 : Int32) (x4 : Int32) (x5 : Int32) (x6 : Int32) (x7 : Int32) (s0 : Int32) (V : ai_V) (r : (Int32 × ai_V)), d_X_treadDay_0_19_120 F10 x2 x3 x4 x5 x6 x7 s0 V = some r → Fr w_X_treadDay_0_19 V r.2 := by
  intro x2 x3 x4 x5 x6 x7 s0 V r h
  rw [d_X_treadDay_0_19_120] at h
  rcases ai_if h with ⟨-, h⟩ | ⟨-, h⟩
  · exact Fr.tr Fr.rf (fr_X_treadDay_0_19_134 hF10 _ _ _ _ _ _ _ _ _ h) rfl
  · exact Fr.tr Fr.rf (fr_X_treadDay_0_19_134 hF10 _ _ _ _ _ _ _ _ _ h) rfl
theorem fr_X_treadDay_0_19_95 {F10 : Int32 → Int32 → Int32 → Int32 → ai_V → Option (Int32 × ai_V)} (hF10 : ∀ y0 y1 y2 y3 V r, F10 y0 y1 y2 y3 V = some r → Fr w_X_treadDay_0_19 V r.2) : ∀ (x2 : Int32) (x3 : Int32) (x4 : Int32) (x5 : Int32) (x6 : Int32) (s0 : Int32) (V : ai_V) (r : (Int32 × ai_V)), d_X_treadDay_0_19_95 F10 x2 x3 x4 x5 x6 s0 V = some r → Fr w_X_treadDay_0_19 V r.2 := by
  intro x2 x3 x4 x5 x6 s0 V r h
  rw [d_X_treadDay_0_19_95] at h
  rcases ai_if h with ⟨-, h⟩ | ⟨-, h⟩
  · exact Fr.tr Fr.rf (fr_X_treadDay_0_19_120 hF10 _ _ _ _ _ _ _ _ _ h) rfl
  · obtain ⟨q4, hq4, h⟩ := ai_bd h
    exact Fr.tr Fr.rf (fr_X_treadDay_0_19_120 hF10 _ _ _ _ _ _ _ _ _ h) rfl
theorem fr_X_treadDay_0_19_41 {F10 : Int32 → Int32 → Int32 → Int32 → ai_V → Option (Int32 × ai_V)} (hF10 : ∀ y0 y1 y2 y3 V r, F10 y0 y1 y2 y3 V = some r → Fr w_X_treadDay_0_19 V r.2) : ∀ (x2 : Int32) (x3 : Int32) (x4 : Int32) (x5 : Int32) (s0 : Int32) (V : ai_V) (r : (Int32 × ai_V)), d_X_treadDay_0_19_41 F10 x2 x3 x4 x5 s0 V = some r → Fr w_X_treadDay_0_19 V r.2 := by
  intro x2 x3 x4 x5 s0 V r h
  rw [d_X_treadDay_0_19_41] at h
  rcases ai_if h with ⟨-, h⟩ | ⟨-, h⟩
  · obtain ⟨q5, hq5, h⟩ := ai_bd h
    rcases ai_if h with ⟨-, h⟩ | ⟨-, h⟩
    · obtain ⟨q6, hq6, h⟩ := ai_bd h
      exact Fr.tr Fr.rf (fr_X_treadDay_0_19_95 hF10 _ _ _ _ _ _ _ _ h) rfl
    · exact Fr.tr Fr.rf (fr_X_treadDay_0_19_95 hF10 _ _ _ _ _ _ _ _ h) rfl
  · obtain ⟨q7, hq7, h⟩ := ai_bd h
    exact Fr.tr Fr.rf (fr_X_treadDay_0_19_95 hF10 _ _ _ _ _ _ _ _ h) rfl
theorem fr_X_treadDay_0_19_10 : ∀ (n : Nat) (x2 : Int32) (x3 : Int32) (x4 : Int32) (x5 : Int32) (V : ai_V) (r : (Int32 × ai_V)), d_X_treadDay_0_19_10 n x2 x3 x4 x5 V = some r → Fr w_X_treadDay_0_19 V r.2 := by
  intro n
  induction n with
  | zero =>
    intro x2 x3 x4 x5 V r h
    cases h
  | succ n ih =>
    intro x2 x3 x4 x5 V r h
    rw [d_X_treadDay_0_19_10] at h
    rcases ai_if h with ⟨-, h⟩ | ⟨-, h⟩
    · exact Fr.tr Fr.rf (fr_X_treadDay_0_19_214 _ _ _ _ _ h) rfl
    · obtain ⟨q8, hq8, h⟩ := ai_bd h
      rcases ai_if h with ⟨-, h⟩ | ⟨-, h⟩
      · exact Fr.tr Fr.rf (fr_X_treadDay_0_19_41 ih _ _ _ _ _ _ _ h) rfl
      · exact Fr.tr Fr.rf (fr_X_treadDay_0_19_41 ih _ _ _ _ _ _ _ h) rfl
theorem fr_X_treadDay_0_19 : ∀ (V : ai_V) (r : (Int32 × ai_V)), d_X_treadDay_0_19 V = some r → Fr w_X_treadDay_0_19 V r.2 := by
  intro V r h
  rw [d_X_treadDay_0_19] at h
  exact Fr.tr Fr.rf (fr_X_treadDay_0_19_10 _ _ _ _ _ _ _ h) rfl
def w_X_readDay_0_19 : Fw := ([(1, 1), (15, 2), (15, 3), (15, 4), (15, 5), (19, 0), (19, 1), (22, 1)], [12, 13, 20, 21, 23])
theorem fr_X_readDay_0_19_21 : ∀ (s0 : Int32) (V : ai_V) (r : (Int32 × ai_V)), d_X_readDay_0_19_21 s0 V = some r → Fr w_X_readDay_0_19 V r.2 := by
  intro s0 V r h
  rw [d_X_readDay_0_19_21] at h
  obtain ⟨q1, hq1, h⟩ := ai_bd h
  have gq1 : Fr w_X_readDay_0_19 V q1 := (Fr.tr Fr.rf (fr_Text_clear _ _ hq1) rfl)
  obtain rfl := Option.some.inj h
  exact gq1
theorem fr_X_readDay_0_19 : ∀ (V : ai_V) (r : (Int32 × ai_V)), d_X_readDay_0_19 V = some r → Fr w_X_readDay_0_19 V r.2 := by
  intro V r h
  rw [d_X_readDay_0_19] at h
  obtain ⟨q2, hq2, h⟩ := ai_bd h
  rcases ai_if h with ⟨-, h⟩ | ⟨-, h⟩
  · exact Fr.tr Fr.rf (fr_X_readDay_0_19_21 _ _ _ h) rfl
  · obtain ⟨q3, hq3, h⟩ := ai_bd h
    have gq3 : Fr w_X_readDay_0_19 V q3.2 := (Fr.tr Fr.rf (fr_X_treadDay_0_19 _ _ hq3) rfl)
    exact Fr.tr gq3 (fr_X_readDay_0_19_21 _ _ _ h) rfl
def w_X_look : Fw := ([(1, 1), (15, 2), (15, 3), (15, 4), (15, 5), (19, 0), (19, 1), (19, 2), (22, 1)], [12, 13, 20, 21, 23])
theorem fr_X_look : ∀ (V : ai_V) (r : (Int32 × ai_V)), d_X_look V = some r → Fr w_X_look V r.2 := by
  intro V r h
  rw [d_X_look] at h
  obtain ⟨q1, hq1, h⟩ := ai_bd h
  have gq1 : Fr w_X_look V q1 := (Fr.tr Fr.rf (fr_X_asked _ _ hq1) rfl)
  obtain ⟨q2, hq2, h⟩ := ai_bd h
  have gq2 : Fr w_X_look V q2.2 := (Fr.tr gq1 (fr_X_readDay_0_19 _ _ hq2) rfl)
  obtain rfl := Option.some.inj h
  exact gq2
def w_State_becomes_16_59 : Fw := ([(16, 0), (16, 1)], [17, 18])
theorem fr_State_becomes_16_59_25 : ∀ (n : Nat) (x2 : Int32) (V : ai_V) (r : ai_V), d_State_becomes_16_59_25 n x2 V = some r → Fr w_State_becomes_16_59 V r := by
  intro n
  induction n with
  | zero =>
    intro x2 V r h
    cases h
  | succ n ih =>
    intro x2 V r h
    rw [d_State_becomes_16_59_25] at h
    rcases ai_if h with ⟨-, h⟩ | ⟨-, h⟩
    · obtain rfl := Option.some.inj h
      exact Fr.rf
    · rcases ai_if h with ⟨-, h⟩ | ⟨-, h⟩
      · rcases ai_if h with ⟨-, h⟩ | ⟨-, h⟩
        · rcases ai_if h with ⟨-, h⟩ | ⟨-, h⟩
          · rcases ai_if h with ⟨-, h⟩ | ⟨-, h⟩
            · exact Fr.tr (Fr.sa (Fr.sa Fr.rf rfl) rfl) (ih _ _ _ h) rfl
            · cases h
          · cases h
        · cases h
      · cases h
theorem fr_State_becomes_16_59 : ∀ (V : ai_V) (r : ai_V), d_State_becomes_16_59 V = some r → Fr w_State_becomes_16_59 V r := by
  intro V r h
  rw [d_State_becomes_16_59] at h
  exact Fr.tr (Fr.si (Fr.si Fr.rf rfl) rfl) (fr_State_becomes_16_59_25 _ _ _ _ h) rfl
def w_State_becomes_16_56 : Fw := ([(16, 0), (16, 1)], [17, 18])
theorem fr_State_becomes_16_56_25 : ∀ (n : Nat) (x2 : Int32) (V : ai_V) (r : ai_V), d_State_becomes_16_56_25 n x2 V = some r → Fr w_State_becomes_16_56 V r := by
  intro n
  induction n with
  | zero =>
    intro x2 V r h
    cases h
  | succ n ih =>
    intro x2 V r h
    rw [d_State_becomes_16_56_25] at h
    rcases ai_if h with ⟨-, h⟩ | ⟨-, h⟩
    · obtain rfl := Option.some.inj h
      exact Fr.rf
    · rcases ai_if h with ⟨-, h⟩ | ⟨-, h⟩
      · rcases ai_if h with ⟨-, h⟩ | ⟨-, h⟩
        · rcases ai_if h with ⟨-, h⟩ | ⟨-, h⟩
          · rcases ai_if h with ⟨-, h⟩ | ⟨-, h⟩
            · exact Fr.tr (Fr.sa (Fr.sa Fr.rf rfl) rfl) (ih _ _ _ h) rfl
            · cases h
          · cases h
        · cases h
      · cases h
theorem fr_State_becomes_16_56 : ∀ (V : ai_V) (r : ai_V), d_State_becomes_16_56 V = some r → Fr w_State_becomes_16_56 V r := by
  intro V r h
  rw [d_State_becomes_16_56] at h
  exact Fr.tr (Fr.si (Fr.si Fr.rf rfl) rfl) (fr_State_becomes_16_56_25 _ _ _ _ h) rfl
def w_State_becomes_16_53 : Fw := ([(16, 0), (16, 1)], [17, 18])
theorem fr_State_becomes_16_53_25 : ∀ (n : Nat) (x2 : Int32) (V : ai_V) (r : ai_V), d_State_becomes_16_53_25 n x2 V = some r → Fr w_State_becomes_16_53 V r := by
  intro n
  induction n with
  | zero =>
    intro x2 V r h
    cases h
  | succ n ih =>
    intro x2 V r h
    rw [d_State_becomes_16_53_25] at h
    rcases ai_if h with ⟨-, h⟩ | ⟨-, h⟩
    · obtain rfl := Option.some.inj h
      exact Fr.rf
    · rcases ai_if h with ⟨-, h⟩ | ⟨-, h⟩
      · rcases ai_if h with ⟨-, h⟩ | ⟨-, h⟩
        · rcases ai_if h with ⟨-, h⟩ | ⟨-, h⟩
          · rcases ai_if h with ⟨-, h⟩ | ⟨-, h⟩
            · exact Fr.tr (Fr.sa (Fr.sa Fr.rf rfl) rfl) (ih _ _ _ h) rfl
            · cases h
          · cases h
        · cases h
      · cases h
theorem fr_State_becomes_16_53 : ∀ (V : ai_V) (r : ai_V), d_State_becomes_16_53 V = some r → Fr w_State_becomes_16_53 V r := by
  intro V r h
  rw [d_State_becomes_16_53] at h
  exact Fr.tr (Fr.si (Fr.si Fr.rf rfl) rfl) (fr_State_becomes_16_53_25 _ _ _ _ h) rfl
def w_State_becomes_16_50 : Fw := ([(16, 0), (16, 1)], [17, 18])
theorem fr_State_becomes_16_50_25 : ∀ (n : Nat) (x2 : Int32) (V : ai_V) (r : ai_V), d_State_becomes_16_50_25 n x2 V = some r → Fr w_State_becomes_16_50 V r := by
  intro n
  induction n with
  | zero =>
    intro x2 V r h
    cases h
  | succ n ih =>
    intro x2 V r h
    rw [d_State_becomes_16_50_25] at h
    rcases ai_if h with ⟨-, h⟩ | ⟨-, h⟩
    · obtain rfl := Option.some.inj h
      exact Fr.rf
    · rcases ai_if h with ⟨-, h⟩ | ⟨-, h⟩
      · rcases ai_if h with ⟨-, h⟩ | ⟨-, h⟩
        · rcases ai_if h with ⟨-, h⟩ | ⟨-, h⟩
          · rcases ai_if h with ⟨-, h⟩ | ⟨-, h⟩
            · exact Fr.tr (Fr.sa (Fr.sa Fr.rf rfl) rfl) (ih _ _ _ h) rfl
            · cases h
          · cases h
        · cases h
      · cases h
theorem fr_State_becomes_16_50 : ∀ (V : ai_V) (r : ai_V), d_State_becomes_16_50 V = some r → Fr w_State_becomes_16_50 V r := by
  intro V r h
  rw [d_State_becomes_16_50] at h
  exact Fr.tr (Fr.si (Fr.si Fr.rf rfl) rfl) (fr_State_becomes_16_50_25 _ _ _ _ h) rfl
def w_State_becomes_16_47 : Fw := ([(16, 0), (16, 1)], [17, 18])
theorem fr_State_becomes_16_47_25 : ∀ (n : Nat) (x2 : Int32) (V : ai_V) (r : ai_V), d_State_becomes_16_47_25 n x2 V = some r → Fr w_State_becomes_16_47 V r := by
  intro n
  induction n with
  | zero =>
    intro x2 V r h
    cases h
  | succ n ih =>
    intro x2 V r h
    rw [d_State_becomes_16_47_25] at h
    rcases ai_if h with ⟨-, h⟩ | ⟨-, h⟩
    · obtain rfl := Option.some.inj h
      exact Fr.rf
    · rcases ai_if h with ⟨-, h⟩ | ⟨-, h⟩
      · rcases ai_if h with ⟨-, h⟩ | ⟨-, h⟩
        · rcases ai_if h with ⟨-, h⟩ | ⟨-, h⟩
          · rcases ai_if h with ⟨-, h⟩ | ⟨-, h⟩
            · exact Fr.tr (Fr.sa (Fr.sa Fr.rf rfl) rfl) (ih _ _ _ h) rfl
            · cases h
          · cases h
        · cases h
      · cases h
theorem fr_State_becomes_16_47 : ∀ (V : ai_V) (r : ai_V), d_State_becomes_16_47 V = some r → Fr w_State_becomes_16_47 V r := by
  intro V r h
  rw [d_State_becomes_16_47] at h
  exact Fr.tr (Fr.si (Fr.si Fr.rf rfl) rfl) (fr_State_becomes_16_47_25 _ _ _ _ h) rfl
def w_State_becomes_16_44 : Fw := ([(16, 0), (16, 1)], [17, 18])
theorem fr_State_becomes_16_44_25 : ∀ (n : Nat) (x2 : Int32) (V : ai_V) (r : ai_V), d_State_becomes_16_44_25 n x2 V = some r → Fr w_State_becomes_16_44 V r := by
  intro n
  induction n with
  | zero =>
    intro x2 V r h
    cases h
  | succ n ih =>
    intro x2 V r h
    rw [d_State_becomes_16_44_25] at h
    rcases ai_if h with ⟨-, h⟩ | ⟨-, h⟩
    · obtain rfl := Option.some.inj h
      exact Fr.rf
    · rcases ai_if h with ⟨-, h⟩ | ⟨-, h⟩
      · rcases ai_if h with ⟨-, h⟩ | ⟨-, h⟩
        · rcases ai_if h with ⟨-, h⟩ | ⟨-, h⟩
          · rcases ai_if h with ⟨-, h⟩ | ⟨-, h⟩
            · exact Fr.tr (Fr.sa (Fr.sa Fr.rf rfl) rfl) (ih _ _ _ h) rfl
            · cases h
          · cases h
        · cases h
      · cases h
theorem fr_State_becomes_16_44 : ∀ (V : ai_V) (r : ai_V), d_State_becomes_16_44 V = some r → Fr w_State_becomes_16_44 V r := by
  intro V r h
  rw [d_State_becomes_16_44] at h
  exact Fr.tr (Fr.si (Fr.si Fr.rf rfl) rfl) (fr_State_becomes_16_44_25 _ _ _ _ h) rfl
def w_State_becomes_16_41 : Fw := ([(16, 0), (16, 1)], [17, 18])
theorem fr_State_becomes_16_41_25 : ∀ (n : Nat) (x2 : Int32) (V : ai_V) (r : ai_V), d_State_becomes_16_41_25 n x2 V = some r → Fr w_State_becomes_16_41 V r := by
  intro n
  induction n with
  | zero =>
    intro x2 V r h
    cases h
  | succ n ih =>
    intro x2 V r h
    rw [d_State_becomes_16_41_25] at h
    rcases ai_if h with ⟨-, h⟩ | ⟨-, h⟩
    · obtain rfl := Option.some.inj h
      exact Fr.rf
    · rcases ai_if h with ⟨-, h⟩ | ⟨-, h⟩
      · rcases ai_if h with ⟨-, h⟩ | ⟨-, h⟩
        · rcases ai_if h with ⟨-, h⟩ | ⟨-, h⟩
          · rcases ai_if h with ⟨-, h⟩ | ⟨-, h⟩
            · exact Fr.tr (Fr.sa (Fr.sa Fr.rf rfl) rfl) (ih _ _ _ h) rfl
            · cases h
          · cases h
        · cases h
      · cases h
theorem fr_State_becomes_16_41 : ∀ (V : ai_V) (r : ai_V), d_State_becomes_16_41 V = some r → Fr w_State_becomes_16_41 V r := by
  intro V r h
  rw [d_State_becomes_16_41] at h
  exact Fr.tr (Fr.si (Fr.si Fr.rf rfl) rfl) (fr_State_becomes_16_41_25 _ _ _ _ h) rfl
def w_State_becomes_16_38 : Fw := ([(16, 0), (16, 1)], [17, 18])
theorem fr_State_becomes_16_38_25 : ∀ (n : Nat) (x2 : Int32) (V : ai_V) (r : ai_V), d_State_becomes_16_38_25 n x2 V = some r → Fr w_State_becomes_16_38 V r := by
  intro n
  induction n with
  | zero =>
    intro x2 V r h
    cases h
  | succ n ih =>
    intro x2 V r h
    rw [d_State_becomes_16_38_25] at h
    rcases ai_if h with ⟨-, h⟩ | ⟨-, h⟩
    · obtain rfl := Option.some.inj h
      exact Fr.rf
    · rcases ai_if h with ⟨-, h⟩ | ⟨-, h⟩
      · rcases ai_if h with ⟨-, h⟩ | ⟨-, h⟩
        · rcases ai_if h with ⟨-, h⟩ | ⟨-, h⟩
          · rcases ai_if h with ⟨-, h⟩ | ⟨-, h⟩
            · exact Fr.tr (Fr.sa (Fr.sa Fr.rf rfl) rfl) (ih _ _ _ h) rfl
            · cases h
          · cases h
        · cases h
      · cases h
theorem fr_State_becomes_16_38 : ∀ (V : ai_V) (r : ai_V), d_State_becomes_16_38 V = some r → Fr w_State_becomes_16_38 V r := by
  intro V r h
  rw [d_State_becomes_16_38] at h
  exact Fr.tr (Fr.si (Fr.si Fr.rf rfl) rfl) (fr_State_becomes_16_38_25 _ _ _ _ h) rfl
def w_State_becomes_16_35 : Fw := ([(16, 0), (16, 1)], [17, 18])
theorem fr_State_becomes_16_35_25 : ∀ (n : Nat) (x2 : Int32) (V : ai_V) (r : ai_V), d_State_becomes_16_35_25 n x2 V = some r → Fr w_State_becomes_16_35 V r := by
  intro n
  induction n with
  | zero =>
    intro x2 V r h
    cases h
  | succ n ih =>
    intro x2 V r h
    rw [d_State_becomes_16_35_25] at h
    rcases ai_if h with ⟨-, h⟩ | ⟨-, h⟩
    · obtain rfl := Option.some.inj h
      exact Fr.rf
    · rcases ai_if h with ⟨-, h⟩ | ⟨-, h⟩
      · rcases ai_if h with ⟨-, h⟩ | ⟨-, h⟩
        · rcases ai_if h with ⟨-, h⟩ | ⟨-, h⟩
          · rcases ai_if h with ⟨-, h⟩ | ⟨-, h⟩
            · exact Fr.tr (Fr.sa (Fr.sa Fr.rf rfl) rfl) (ih _ _ _ h) rfl
            · cases h
          · cases h
        · cases h
      · cases h
theorem fr_State_becomes_16_35 : ∀ (V : ai_V) (r : ai_V), d_State_becomes_16_35 V = some r → Fr w_State_becomes_16_35 V r := by
  intro V r h
  rw [d_State_becomes_16_35] at h
  exact Fr.tr (Fr.si (Fr.si Fr.rf rfl) rfl) (fr_State_becomes_16_35_25 _ _ _ _ h) rfl
def w_State_becomes_16_32 : Fw := ([(16, 0), (16, 1)], [17, 18])
theorem fr_State_becomes_16_32_25 : ∀ (n : Nat) (x2 : Int32) (V : ai_V) (r : ai_V), d_State_becomes_16_32_25 n x2 V = some r → Fr w_State_becomes_16_32 V r := by
  intro n
  induction n with
  | zero =>
    intro x2 V r h
    cases h
  | succ n ih =>
    intro x2 V r h
    rw [d_State_becomes_16_32_25] at h
    rcases ai_if h with ⟨-, h⟩ | ⟨-, h⟩
    · obtain rfl := Option.some.inj h
      exact Fr.rf
    · rcases ai_if h with ⟨-, h⟩ | ⟨-, h⟩
      · rcases ai_if h with ⟨-, h⟩ | ⟨-, h⟩
        · rcases ai_if h with ⟨-, h⟩ | ⟨-, h⟩
          · rcases ai_if h with ⟨-, h⟩ | ⟨-, h⟩
            · exact Fr.tr (Fr.sa (Fr.sa Fr.rf rfl) rfl) (ih _ _ _ h) rfl
            · cases h
          · cases h
        · cases h
      · cases h
theorem fr_State_becomes_16_32 : ∀ (V : ai_V) (r : ai_V), d_State_becomes_16_32 V = some r → Fr w_State_becomes_16_32 V r := by
  intro V r h
  rw [d_State_becomes_16_32] at h
  exact Fr.tr (Fr.si (Fr.si Fr.rf rfl) rfl) (fr_State_becomes_16_32_25 _ _ _ _ h) rfl
def w_State_becomes_16_29 : Fw := ([(16, 0), (16, 1)], [17, 18])
theorem fr_State_becomes_16_29_25 : ∀ (n : Nat) (x2 : Int32) (V : ai_V) (r : ai_V), d_State_becomes_16_29_25 n x2 V = some r → Fr w_State_becomes_16_29 V r := by
  intro n
  induction n with
  | zero =>
    intro x2 V r h
    cases h
  | succ n ih =>
    intro x2 V r h
    rw [d_State_becomes_16_29_25] at h
    rcases ai_if h with ⟨-, h⟩ | ⟨-, h⟩
    · obtain rfl := Option.some.inj h
      exact Fr.rf
    · rcases ai_if h with ⟨-, h⟩ | ⟨-, h⟩
      · rcases ai_if h with ⟨-, h⟩ | ⟨-, h⟩
        · rcases ai_if h with ⟨-, h⟩ | ⟨-, h⟩
          · rcases ai_if h with ⟨-, h⟩ | ⟨-, h⟩
            · exact Fr.tr (Fr.sa (Fr.sa Fr.rf rfl) rfl) (ih _ _ _ h) rfl
            · cases h
          · cases h
        · cases h
      · cases h
theorem fr_State_becomes_16_29 : ∀ (V : ai_V) (r : ai_V), d_State_becomes_16_29 V = some r → Fr w_State_becomes_16_29 V r := by
  intro V r h
  rw [d_State_becomes_16_29] at h
  exact Fr.tr (Fr.si (Fr.si Fr.rf rfl) rfl) (fr_State_becomes_16_29_25 _ _ _ _ h) rfl
def w_State_becomes_16_26 : Fw := ([(16, 0), (16, 1)], [17, 18])
theorem fr_State_becomes_16_26_25 : ∀ (n : Nat) (x2 : Int32) (V : ai_V) (r : ai_V), d_State_becomes_16_26_25 n x2 V = some r → Fr w_State_becomes_16_26 V r := by
  intro n
  induction n with
  | zero =>
    intro x2 V r h
    cases h
  | succ n ih =>
    intro x2 V r h
    rw [d_State_becomes_16_26_25] at h
    rcases ai_if h with ⟨-, h⟩ | ⟨-, h⟩
    · obtain rfl := Option.some.inj h
      exact Fr.rf
    · rcases ai_if h with ⟨-, h⟩ | ⟨-, h⟩
      · rcases ai_if h with ⟨-, h⟩ | ⟨-, h⟩
        · rcases ai_if h with ⟨-, h⟩ | ⟨-, h⟩
          · rcases ai_if h with ⟨-, h⟩ | ⟨-, h⟩
            · exact Fr.tr (Fr.sa (Fr.sa Fr.rf rfl) rfl) (ih _ _ _ h) rfl
            · cases h
          · cases h
        · cases h
      · cases h
theorem fr_State_becomes_16_26 : ∀ (V : ai_V) (r : ai_V), d_State_becomes_16_26 V = some r → Fr w_State_becomes_16_26 V r := by
  intro V r h
  rw [d_State_becomes_16_26] at h
  exact Fr.tr (Fr.si (Fr.si Fr.rf rfl) rfl) (fr_State_becomes_16_26_25 _ _ _ _ h) rfl
def w_Past_takeBack : Fw := ([(16, 0), (16, 1), (24, 1), (24, 2)], [17, 18])
theorem fr_Past_takeBack : ∀ (V : ai_V) (r : (Int32 × ai_V)), d_Past_takeBack V = some r → Fr w_Past_takeBack V r.2 := by
  intro V r h
  rw [d_Past_takeBack] at h
  rcases ai_if h with ⟨-, h⟩ | ⟨-, h⟩
  · rcases ai_if h with ⟨-, h⟩ | ⟨-, h⟩
    · obtain ⟨q12, hq12, h⟩ := ai_bd h
      have gq12 : Fr w_Past_takeBack V q12 := (Fr.tr (Fr.si (Fr.si Fr.rf rfl) rfl) (fr_State_becomes_16_26 _ _ hq12) rfl)
      obtain rfl := Option.some.inj h
      exact gq12
    · rcases ai_if h with ⟨-, h⟩ | ⟨-, h⟩
      · obtain ⟨q11, hq11, h⟩ := ai_bd h
        have gq11 : Fr w_Past_takeBack V q11 := (Fr.tr (Fr.si (Fr.si Fr.rf rfl) rfl) (fr_State_becomes_16_29 _ _ hq11) rfl)
        obtain rfl := Option.some.inj h
        exact gq11
      · rcases ai_if h with ⟨-, h⟩ | ⟨-, h⟩
        · obtain ⟨q10, hq10, h⟩ := ai_bd h
          have gq10 : Fr w_Past_takeBack V q10 := (Fr.tr (Fr.si (Fr.si Fr.rf rfl) rfl) (fr_State_becomes_16_32 _ _ hq10) rfl)
          obtain rfl := Option.some.inj h
          exact gq10
        · rcases ai_if h with ⟨-, h⟩ | ⟨-, h⟩
          · obtain ⟨q9, hq9, h⟩ := ai_bd h
            have gq9 : Fr w_Past_takeBack V q9 := (Fr.tr (Fr.si (Fr.si Fr.rf rfl) rfl) (fr_State_becomes_16_35 _ _ hq9) rfl)
            obtain rfl := Option.some.inj h
            exact gq9
          · rcases ai_if h with ⟨-, h⟩ | ⟨-, h⟩
            · obtain ⟨q8, hq8, h⟩ := ai_bd h
              have gq8 : Fr w_Past_takeBack V q8 := (Fr.tr (Fr.si (Fr.si Fr.rf rfl) rfl) (fr_State_becomes_16_38 _ _ hq8) rfl)
              obtain rfl := Option.some.inj h
              exact gq8
            · rcases ai_if h with ⟨-, h⟩ | ⟨-, h⟩
              · obtain ⟨q7, hq7, h⟩ := ai_bd h
                have gq7 : Fr w_Past_takeBack V q7 := (Fr.tr (Fr.si (Fr.si Fr.rf rfl) rfl) (fr_State_becomes_16_41 _ _ hq7) rfl)
                obtain rfl := Option.some.inj h
                exact gq7
              · rcases ai_if h with ⟨-, h⟩ | ⟨-, h⟩
                · obtain ⟨q6, hq6, h⟩ := ai_bd h
                  have gq6 : Fr w_Past_takeBack V q6 := (Fr.tr (Fr.si (Fr.si Fr.rf rfl) rfl) (fr_State_becomes_16_44 _ _ hq6) rfl)
                  obtain rfl := Option.some.inj h
                  exact gq6
                · rcases ai_if h with ⟨-, h⟩ | ⟨-, h⟩
                  · obtain ⟨q5, hq5, h⟩ := ai_bd h
                    have gq5 : Fr w_Past_takeBack V q5 := (Fr.tr (Fr.si (Fr.si Fr.rf rfl) rfl) (fr_State_becomes_16_47 _ _ hq5) rfl)
                    obtain rfl := Option.some.inj h
                    exact gq5
                  · rcases ai_if h with ⟨-, h⟩ | ⟨-, h⟩
                    · obtain ⟨q4, hq4, h⟩ := ai_bd h
                      have gq4 : Fr w_Past_takeBack V q4 := (Fr.tr (Fr.si (Fr.si Fr.rf rfl) rfl) (fr_State_becomes_16_50 _ _ hq4) rfl)
                      obtain rfl := Option.some.inj h
                      exact gq4
                    · rcases ai_if h with ⟨-, h⟩ | ⟨-, h⟩
                      · obtain ⟨q3, hq3, h⟩ := ai_bd h
                        have gq3 : Fr w_Past_takeBack V q3 := (Fr.tr (Fr.si (Fr.si Fr.rf rfl) rfl) (fr_State_becomes_16_53 _ _ hq3) rfl)
                        obtain rfl := Option.some.inj h
                        exact gq3
                      · rcases ai_if h with ⟨-, h⟩ | ⟨-, h⟩
                        · obtain ⟨q2, hq2, h⟩ := ai_bd h
                          have gq2 : Fr w_Past_takeBack V q2 := (Fr.tr (Fr.si (Fr.si Fr.rf rfl) rfl) (fr_State_becomes_16_56 _ _ hq2) rfl)
                          obtain rfl := Option.some.inj h
                          exact gq2
                        · rcases ai_if h with ⟨-, h⟩ | ⟨-, h⟩
                          · obtain ⟨q1, hq1, h⟩ := ai_bd h
                            have gq1 : Fr w_Past_takeBack V q1 := (Fr.tr (Fr.si (Fr.si Fr.rf rfl) rfl) (fr_State_becomes_16_59 _ _ hq1) rfl)
                            obtain rfl := Option.some.inj h
                            exact gq1
                          · cases h
  · obtain rfl := Option.some.inj h
    exact Fr.rf
