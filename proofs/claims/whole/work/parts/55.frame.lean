/-! ===== printed by wip/gen/frames.py: what a method's function may write ===== -/
def w_M_sign : Fw := ([(89, 11), (89, 14)], [96])
theorem fr_M_sign_20 : ∀ (n : Nat) (x1 : Int32) (x2 : Int32) (V : ai_V) (r : (Int32 × ai_V)), d_M_sign_20 n x1 x2 V = some r → Fr w_M_sign V r.2 := by
  intro n
  induction n with
  | zero =>
    intro x1 x2 V r h
    cases h
  | succ n ih =>
    intro x1 x2 V r h
    rw [d_M_sign_20] at h
    rcases ai_if h with ⟨-, h⟩ | ⟨-, h⟩
    · obtain rfl := Option.some.inj h
      exact Fr.rf
    · rcases ai_if h with ⟨-, h⟩ | ⟨-, h⟩
      · exact Fr.tr (Fr.sa (Fr.si Fr.rf rfl) rfl) (ih _ _ _ _ h) rfl
      · cases h
theorem fr_M_sign : ∀ (x1 : Int32) (V : ai_V) (r : (Int32 × ai_V)), d_M_sign x1 V = some r → Fr w_M_sign V r.2 := by
  intro x1 V r h
  rw [d_M_sign] at h
  rcases ai_if h with ⟨-, h⟩ | ⟨-, h⟩
  · exact Fr.tr (Fr.si Fr.rf rfl) (fr_M_sign_20 _ _ _ _ _ h) rfl
  · obtain rfl := Option.some.inj h
    exact (Fr.si Fr.rf rfl)
def w_M_end : Fw := ([(89, 11), (89, 14)], [])
theorem fr_M_end : ∀ (x1 : Int32) (V : ai_V) (r : (Int32 × ai_V)), d_M_end x1 V = some r → Fr w_M_end V r.2 := by
  intro x1 V r h
  rw [d_M_end] at h
  obtain ⟨q1, hq1, h⟩ := ai_bd h
  rcases ai_if h with ⟨-, h⟩ | ⟨-, h⟩
  · obtain rfl := Option.some.inj h
    exact (Fr.si (Fr.si Fr.rf rfl) rfl)
  · obtain rfl := Option.some.inj h
    exact (Fr.si Fr.rf rfl)
def w_M_fault : Fw := ([(89, 19)], [])
theorem fr_M_fault : ∀ (x1 : Int32) (V : ai_V) (r : ai_V), d_M_fault x1 V = some r → Fr w_M_fault V r := by
  intro x1 V r h
  rw [d_M_fault] at h
  obtain ⟨q1, hq1, h⟩ := ai_bd h
  rcases ai_if h with ⟨-, h⟩ | ⟨-, h⟩
  · obtain rfl := Option.some.inj h
    exact Fr.rf
  · obtain rfl := Option.some.inj h
    exact (Fr.si Fr.rf rfl)
def w_M_digit : Fw := ([(89, 18), (89, 19)], [])
theorem fr_M_digit : ∀ (x1 : Int32) (x2 : Int32) (V : ai_V) (r : (Int32 × ai_V)), d_M_digit x1 x2 V = some r → Fr w_M_digit V r.2 := by
  intro x1 x2 V r h
  rw [d_M_digit] at h
  obtain ⟨q1, hq1, h⟩ := ai_bd h
  rcases ai_if h with ⟨-, h⟩ | ⟨-, h⟩
  · obtain ⟨q2, hq2, h⟩ := ai_bd h
    obtain ⟨q3, hq3, h⟩ := ai_bd h
    rcases ai_if h with ⟨-, h⟩ | ⟨-, h⟩
    · rcases ai_if h with ⟨-, h⟩ | ⟨-, h⟩
      · rcases ai_if h with ⟨-, h⟩ | ⟨-, h⟩
        · obtain rfl := Option.some.inj h
          exact (Fr.si Fr.rf rfl)
        · cases h
      · rcases ai_if h with ⟨-, h⟩ | ⟨-, h⟩
        · rcases ai_if h with ⟨-, h⟩ | ⟨-, h⟩
          · obtain rfl := Option.some.inj h
            exact (Fr.si Fr.rf rfl)
          · cases h
        · cases h
    · obtain ⟨q4, hq4, h⟩ := ai_bd h
      have gq4 : Fr w_M_digit V q4 := (Fr.tr Fr.rf (fr_M_fault _ _ _ hq4) rfl)
      obtain rfl := Option.some.inj h
      exact gq4
  · obtain rfl := Option.some.inj h
    exact Fr.rf
def w_M_passes : Fw := ([(89, 18)], [])
theorem fr_M_passes : ∀ (x1 : Int32) (V : ai_V) (r : (Int32 × ai_V)), d_M_passes x1 V = some r → Fr w_M_passes V r.2 := by
  intro x1 V r h
  rw [d_M_passes] at h
  obtain ⟨q1, hq1, h⟩ := ai_bd h
  rcases ai_if h with ⟨-, h⟩ | ⟨-, h⟩
  · obtain rfl := Option.some.inj h
    exact Fr.rf
  · obtain ⟨q2, hq2, h⟩ := ai_bd h
    rcases ai_if h with ⟨-, h⟩ | ⟨-, h⟩
    · obtain rfl := Option.some.inj h
      exact (Fr.si Fr.rf rfl)
    · obtain rfl := Option.some.inj h
      exact Fr.rf
def w_M_need : Fw := ([(89, 18), (89, 19)], [])
theorem fr_M_need : ∀ (x1 : Int32) (V : ai_V) (r : ai_V), d_M_need x1 V = some r → Fr w_M_need V r := by
  intro x1 V r h
  rw [d_M_need] at h
  obtain ⟨q1, hq1, h⟩ := ai_bd h
  have gq1 : Fr w_M_need V q1.2 := (Fr.tr Fr.rf (fr_M_passes _ _ _ hq1) rfl)
  rcases ai_if h with ⟨-, h⟩ | ⟨-, h⟩
  · obtain rfl := Option.some.inj h
    exact gq1
  · obtain ⟨q2, hq2, h⟩ := ai_bd h
    have gq2 : Fr w_M_need V q2 := (Fr.tr gq1 (fr_M_fault _ _ _ hq2) rfl)
    obtain rfl := Option.some.inj h
    exact gq2
def w_M_readOne : Fw := ([(89, 18), (89, 19)], [98])
theorem fr_M_readOne_133 : ∀ (x1 : Int32) (x2 : Int32) (V : ai_V) (r : ai_V), d_M_readOne_133 x1 x2 V = some r → Fr w_M_readOne V r := by
  intro x1 x2 V r h
  rw [d_M_readOne_133] at h
  rcases ai_if h with ⟨-, h⟩ | ⟨-, h⟩
  · obtain rfl := Option.some.inj h
    exact (Fr.sa Fr.rf rfl)
  · cases h
theorem fr_M_readOne_121 : ∀ (x1 : Int32) (x2 : Int32) (V : ai_V) (r : ai_V), d_M_readOne_121 x1 x2 V = some r → Fr w_M_readOne V r := by
  intro x1 x2 V r h
  rw [d_M_readOne_121] at h
  rcases ai_if h with ⟨-, h⟩ | ⟨-, h⟩
  · exact Fr.tr Fr.rf (fr_M_readOne_133 _ _ _ _ h) rfl
  · obtain ⟨q1, hq1, h⟩ := ai_bd h
    have gq1 : Fr w_M_readOne V q1 := (Fr.tr Fr.rf (fr_M_fault _ _ _ hq1) rfl)
    exact Fr.tr gq1 (fr_M_readOne_133 _ _ _ _ h) rfl
theorem fr_M_readOne_50 : ∀ (n : Nat) (x1 : Int32) (x2 : Int32) (V : ai_V) (r : ai_V), d_M_readOne_50 n x1 x2 V = some r → Fr w_M_readOne V r := by
  intro n
  induction n with
  | zero =>
    intro x1 x2 V r h
    cases h
  | succ n ih =>
    intro x1 x2 V r h
    rw [d_M_readOne_50] at h
    obtain ⟨q2, hq2, h⟩ := ai_bd h
    rcases ai_if h with ⟨-, h⟩ | ⟨-, h⟩
    · exact Fr.tr Fr.rf (fr_M_readOne_121 _ _ _ _ h) rfl
    · obtain ⟨q3, hq3, h⟩ := ai_bd h
      obtain ⟨q4, hq4, h⟩ := ai_bd h
      rcases ai_if h with ⟨-, h⟩ | ⟨-, h⟩
      · exact Fr.tr Fr.rf (fr_M_readOne_121 _ _ _ _ h) rfl
      · rcases ai_if h with ⟨-, h⟩ | ⟨-, h⟩
        · obtain ⟨q5, hq5, h⟩ := ai_bd h
          rcases ai_if h with ⟨-, h⟩ | ⟨-, h⟩
          · exact Fr.tr (Fr.si (Fr.sa Fr.rf rfl) rfl) (ih _ _ _ _ h) rfl
          · cases h
        · obtain ⟨q6, hq6, h⟩ := ai_bd h
          have gq6 : Fr w_M_readOne V q6 := (Fr.tr Fr.rf (fr_M_fault _ _ _ hq6) rfl)
          exact Fr.tr gq6 (ih _ _ _ _ h) rfl
theorem fr_M_readOne : ∀ (x1 : Int32) (V : ai_V) (r : ai_V), d_M_readOne x1 V = some r → Fr w_M_readOne V r := by
  intro x1 V r h
  rw [d_M_readOne] at h
  obtain ⟨q7, hq7, h⟩ := ai_bd h
  have gq7 : Fr w_M_readOne V q7.2 := (Fr.tr Fr.rf (fr_M_digit _ _ _ _ hq7) rfl)
  rcases ai_if h with ⟨-, h⟩ | ⟨-, h⟩
  · obtain ⟨q8, hq8, h⟩ := ai_bd h
    have gq8 : Fr w_M_readOne V q8.2 := (Fr.tr (Fr.sa gq7 rfl) (fr_M_digit _ _ _ _ hq8) rfl)
    rcases ai_if h with ⟨-, h⟩ | ⟨-, h⟩
    · obtain ⟨q9, hq9, h⟩ := ai_bd h
      have gq9 : Fr w_M_readOne V q9.2 := (Fr.tr (Fr.sa gq8 rfl) (fr_M_digit _ _ _ _ hq9) rfl)
      rcases ai_if h with ⟨-, h⟩ | ⟨-, h⟩
      · obtain ⟨q10, hq10, h⟩ := ai_bd h
        have gq10 : Fr w_M_readOne V q10 := (Fr.tr (Fr.sa gq9 rfl) (fr_M_need _ _ _ hq10) rfl)
        exact Fr.tr gq10 (fr_M_readOne_50 _ _ _ _ _ h) rfl
      · cases h
    · cases h
  · cases h
def w_M_begin : Fw := ([(89, 15), (89, 16), (89, 17), (89, 18), (89, 19)], [])
theorem fr_M_begin : ∀ (x2 : Int32) (x3 : Int32) (V : ai_V) (r : ai_V), d_M_begin x2 x3 V = some r → Fr w_M_begin V r := by
  intro x2 x3 V r h
  rw [d_M_begin] at h
  obtain rfl := Option.some.inj h
  exact (Fr.si (Fr.si (Fr.si (Fr.si (Fr.sr Fr.rf rfl (by decide)) rfl) rfl) rfl) rfl)
def w_M_house : Fw := ([(89, 1), (89, 11), (89, 14), (89, 15), (89, 16), (89, 17), (89, 18), (89, 19), (89, 35), (89, 58)], [90, 91, 92, 93, 94, 95, 98])
theorem fr_M_house_210 {F126 : Int32 → Int32 → ai_V → Option (Int32 × ai_V)} (hF126 : ∀ y0 y1 V r, F126 y0 y1 V = some r → Fr w_M_house V r.2) : ∀ (n : Nat) (x1 : Int32) (x3 : Int32) (x4 : Int32) (x5 : Int32) (V : ai_V) (r : (Int32 × ai_V)), d_M_house_210 F126 n x1 x3 x4 x5 V = some r → Fr w_M_house V r.2 := by
  intro n
  induction n with
  | zero =>
    intro x1 x3 x4 x5 V r h
    cases h
  | succ n ih =>
    intro x1 x3 x4 x5 V r h
    rw [d_M_house_210] at h
    rcases ai_if h with ⟨-, h⟩ | ⟨-, h⟩
    · rcases ai_if h with ⟨-, h⟩ | ⟨-, h⟩
      · rcases ai_if h with ⟨-, h⟩ | ⟨-, h⟩
        · rcases ai_if h with ⟨-, h⟩ | ⟨-, h⟩
          · exact Fr.tr (Fr.si (Fr.sa (Fr.sa Fr.rf rfl) rfl) rfl) (hF126 _ _ _ _ h) rfl
          · cases h
        · cases h
      · rcases ai_if h with ⟨-, h⟩ | ⟨-, h⟩
        · rcases ai_if h with ⟨-, h⟩ | ⟨-, h⟩
          · exact Fr.tr (Fr.sa Fr.rf rfl) (ih _ _ _ _ _ _ h) rfl
          · cases h
        · cases h
    · cases h
theorem fr_M_house_126 : ∀ (n : Nat) (x1 : Int32) (x3 : Int32) (V : ai_V) (r : (Int32 × ai_V)), d_M_house_126 n x1 x3 V = some r → Fr w_M_house V r.2 := by
  intro n
  induction n with
  | zero =>
    intro x1 x3 V r h
    cases h
  | succ n ih =>
    intro x1 x3 V r h
    rw [d_M_house_126] at h
    rcases ai_if h with ⟨-, h⟩ | ⟨-, h⟩
    · obtain rfl := Option.some.inj h
      exact (Fr.si (Fr.si Fr.rf rfl) rfl)
    · rcases ai_if h with ⟨-, h⟩ | ⟨-, h⟩
      · rcases ai_if h with ⟨-, h⟩ | ⟨-, h⟩
        · rcases ai_if h with ⟨-, h⟩ | ⟨-, h⟩
          · rcases ai_if h with ⟨-, h⟩ | ⟨-, h⟩
            · rcases ai_if h with ⟨-, h⟩ | ⟨-, h⟩
              · rcases ai_if h with ⟨-, h⟩ | ⟨-, h⟩
                · rcases ai_if h with ⟨-, h⟩ | ⟨-, h⟩
                  · rcases ai_if h with ⟨-, h⟩ | ⟨-, h⟩
                    · exact Fr.tr (Fr.sa (Fr.sa (Fr.sa (Fr.sa Fr.rf rfl) rfl) rfl) rfl) (fr_M_house_210 ih _ _ _ _ _ _ _ h) rfl
                    · cases h
                  · cases h
                · cases h
              · cases h
            · cases h
          · cases h
        · cases h
      · cases h
theorem fr_M_house_110 : ∀ (x1 : Int32) (V : ai_V) (r : (Int32 × ai_V)), d_M_house_110 x1 V = some r → Fr w_M_house V r.2 := by
  intro x1 V r h
  rw [d_M_house_110] at h
  obtain ⟨q1, hq1, h⟩ := ai_bd h
  rcases ai_if h with ⟨-, h⟩ | ⟨-, h⟩
  · exact Fr.tr Fr.rf (fr_M_house_126 _ _ _ _ _ h) rfl
  · obtain rfl := Option.some.inj h
    exact Fr.rf
theorem fr_M_house_91 : ∀ (x1 : Int32) (V : ai_V) (r : (Int32 × ai_V)), d_M_house_91 x1 V = some r → Fr w_M_house V r.2 := by
  intro x1 V r h
  rw [d_M_house_91] at h
  rcases ai_if h with ⟨-, h⟩ | ⟨-, h⟩
  · exact Fr.tr Fr.rf (fr_M_house_110 _ _ _ h) rfl
  · obtain ⟨q2, hq2, h⟩ := ai_bd h
    have gq2 : Fr w_M_house V q2 := (Fr.tr Fr.rf (fr_M_fault _ _ _ hq2) rfl)
    exact Fr.tr gq2 (fr_M_house_110 _ _ _ h) rfl
theorem fr_M_house_78 {F37 : Int32 → Int32 → ai_V → Option (Int32 × ai_V)} (hF37 : ∀ y0 y1 V r, F37 y0 y1 V = some r → Fr w_M_house V r.2) : ∀ (x1 : Int32) (V : ai_V) (r : (Int32 × ai_V)), d_M_house_78 F37 x1 V = some r → Fr w_M_house V r.2 := by
  intro x1 V r h
  rw [d_M_house_78] at h
  obtain ⟨q3, hq3, h⟩ := ai_bd h
  have gq3 : Fr w_M_house V q3.2 := (Fr.tr Fr.rf (fr_M_passes _ _ _ hq3) rfl)
  exact Fr.tr gq3 (hF37 _ _ _ _ h) rfl
theorem fr_M_house_37 : ∀ (n : Nat) (x1 : Int32) (x2 : Int32) (V : ai_V) (r : (Int32 × ai_V)), d_M_house_37 n x1 x2 V = some r → Fr w_M_house V r.2 := by
  intro n
  induction n with
  | zero =>
    intro x1 x2 V r h
    cases h
  | succ n ih =>
    intro x1 x2 V r h
    rw [d_M_house_37] at h
    rcases ai_if h with ⟨-, h⟩ | ⟨-, h⟩
    · exact Fr.tr Fr.rf (fr_M_house_91 _ _ _ h) rfl
    · obtain ⟨q4, hq4, h⟩ := ai_bd h
      rcases ai_if h with ⟨-, h⟩ | ⟨-, h⟩
      · exact Fr.tr Fr.rf (fr_M_house_91 _ _ _ h) rfl
      · rcases ai_if h with ⟨-, h⟩ | ⟨-, h⟩
        · obtain ⟨q5, hq5, h⟩ := ai_bd h
          have gq5 : Fr w_M_house V q5 := (Fr.tr Fr.rf (fr_M_readOne _ _ _ hq5) rfl)
          exact Fr.tr gq5 (fr_M_house_78 ih _ _ _ h) rfl
        · obtain ⟨q6, hq6, h⟩ := ai_bd h
          have gq6 : Fr w_M_house V q6 := (Fr.tr Fr.rf (fr_M_fault _ _ _ hq6) rfl)
          exact Fr.tr gq6 (fr_M_house_78 ih _ _ _ h) rfl
theorem fr_M_house : ∀ (V : ai_V) (r : (Int32 × ai_V)), d_M_house V = some r → Fr w_M_house V r.2 := by
  intro V r h
  rw [d_M_house] at h
  obtain ⟨q7, hq7, h⟩ := ai_bd h
  have gq7 : Fr w_M_house V q7 := (Fr.tr (Fr.si Fr.rf rfl) (fr_M_begin _ _ _ _ hq7) rfl)
  rcases ai_if h with ⟨-, h⟩ | ⟨-, h⟩
  · exact Fr.tr (Fr.si gq7 rfl) (fr_M_house_37 _ _ _ _ _ h) rfl
  · obtain rfl := Option.some.inj h
    exact (Fr.si gq7 rfl)
def w_M_product_87 : Fw := ([(89, 18), (89, 19)], [])
theorem fr_M_product_87 {T : Int32 → ai_V → Option (Int32 × ai_V)} {F6 : Int32 → Int32 → ai_V → Option (Int32 × ai_V)} (hT : ∀ y0 V r, T y0 V = some r → Fr w_M_product_87 V r.2) (hF6 : ∀ y0 y1 V r, F6 y0 y1 V = some r → Fr w_M_product_87 V r.2) : ∀ (x1 : Int32) (s0 : Int32) (V : ai_V) (r : (Int32 × ai_V)), d_M_product_87 T F6 x1 s0 V = some r → Fr w_M_product_87 V r.2 := by
  intro x1 s0 V r h
  rw [d_M_product_87] at h
  exact Fr.tr Fr.rf (hF6 _ _ _ _ h) rfl
def w_M_product_45 : Fw := ([(89, 18), (89, 19)], [])
theorem fr_M_product_45 {T : Int32 → ai_V → Option (Int32 × ai_V)} {F6 : Int32 → Int32 → ai_V → Option (Int32 × ai_V)} (hT : ∀ y0 V r, T y0 V = some r → Fr w_M_product_45 V r.2) (hF6 : ∀ y0 y1 V r, F6 y0 y1 V = some r → Fr w_M_product_45 V r.2) : ∀ (x1 : Int32) (x2 : Int32) (s0 : Int32) (V : ai_V) (r : (Int32 × ai_V)), d_M_product_45 T F6 x1 x2 s0 V = some r → Fr w_M_product_45 V r.2 := by
  intro x1 x2 s0 V r h
  rw [d_M_product_45] at h
  obtain ⟨q1, hq1, h⟩ := ai_bd h
  have gq1 : Fr w_M_product_45 V q1.2 := (Fr.tr (Fr.si Fr.rf rfl) (hT _ _ _ hq1) rfl)
  rcases ai_if h with ⟨-, h⟩ | ⟨-, h⟩
  · rcases ai_if h with ⟨-, h⟩ | ⟨-, h⟩
    · rcases ai_if h with ⟨-, h⟩ | ⟨-, h⟩
      · cases h
      · exact Fr.tr gq1 (fr_M_product_87 hT hF6 _ _ _ _ h) rfl
    · exact Fr.tr gq1 (fr_M_product_87 hT hF6 _ _ _ _ h) rfl
  · exact Fr.tr gq1 (fr_M_product_87 hT hF6 _ _ _ _ h) rfl
def w_M_product_31 : Fw := ([(89, 18), (89, 19)], [])
theorem fr_M_product_31 {T : Int32 → ai_V → Option (Int32 × ai_V)} {F6 : Int32 → Int32 → ai_V → Option (Int32 × ai_V)} (hT : ∀ y0 V r, T y0 V = some r → Fr w_M_product_31 V r.2) (hF6 : ∀ y0 y1 V r, F6 y0 y1 V = some r → Fr w_M_product_31 V r.2) : ∀ (x1 : Int32) (x2 : Int32) (V : ai_V) (r : (Int32 × ai_V)), d_M_product_31 T F6 x1 x2 V = some r → Fr w_M_product_31 V r.2 := by
  intro x1 x2 V r h
  rw [d_M_product_31] at h
  obtain ⟨q2, hq2, h⟩ := ai_bd h
  rcases ai_if h with ⟨-, h⟩ | ⟨-, h⟩
  · exact Fr.tr Fr.rf (fr_M_product_45 hT hF6 _ _ _ _ _ h) rfl
  · exact Fr.tr Fr.rf (fr_M_product_45 hT hF6 _ _ _ _ _ h) rfl
def w_M_product_6 : Fw := ([(89, 18), (89, 19)], [])
theorem fr_M_product_6 {T : Int32 → ai_V → Option (Int32 × ai_V)} (hT : ∀ y0 V r, T y0 V = some r → Fr w_M_product_6 V r.2) : ∀ (n : Nat) (x1 : Int32) (x2 : Int32) (V : ai_V) (r : (Int32 × ai_V)), d_M_product_6 T n x1 x2 V = some r → Fr w_M_product_6 V r.2 := by
  intro n
  induction n with
  | zero =>
    intro x1 x2 V r h
    cases h
  | succ n ih =>
    intro x1 x2 V r h
    rw [d_M_product_6] at h
    obtain ⟨q3, hq3, h⟩ := ai_bd h
    rcases ai_if h with ⟨-, h⟩ | ⟨-, h⟩
    · obtain rfl := Option.some.inj h
      exact Fr.rf
    · obtain ⟨q4, hq4, h⟩ := ai_bd h
      rcases ai_if h with ⟨-, h⟩ | ⟨-, h⟩
      · exact Fr.tr Fr.rf (fr_M_product_31 hT ih _ _ _ _ h) rfl
      · obtain ⟨q5, hq5, h⟩ := ai_bd h
        rcases ai_if h with ⟨-, h⟩ | ⟨-, h⟩
        · obtain rfl := Option.some.inj h
          exact Fr.rf
        · exact Fr.tr Fr.rf (fr_M_product_31 hT ih _ _ _ _ h) rfl
def w_M_product_B : Fw := ([(89, 18), (89, 19)], [])
theorem fr_M_product_B {T : Int32 → ai_V → Option (Int32 × ai_V)} (hT : ∀ y0 V r, T y0 V = some r → Fr w_M_product_B V r.2) : ∀ (x1 : Int32) (V : ai_V) (r : (Int32 × ai_V)), d_M_product_B T x1 V = some r → Fr w_M_product_B V r.2 := by
  intro x1 V r h
  rw [d_M_product_B] at h
  obtain ⟨q6, hq6, h⟩ := ai_bd h
  have gq6 : Fr w_M_product_B V q6.2 := (Fr.tr Fr.rf (hT _ _ _ hq6) rfl)
  exact Fr.tr gq6 (fr_M_product_6 hT _ _ _ _ _ h) rfl
def w_M_sum_78 : Fw := ([(89, 18), (89, 19)], [])
theorem fr_M_sum_78 {T : Int32 → ai_V → Option (Int32 × ai_V)} {F6 : Int32 → Int32 → ai_V → Option (Int32 × ai_V)} (hT : ∀ y0 V r, T y0 V = some r → Fr w_M_sum_78 V r.2) (hF6 : ∀ y0 y1 V r, F6 y0 y1 V = some r → Fr w_M_sum_78 V r.2) : ∀ (x1 : Int32) (s0 : Int32) (V : ai_V) (r : (Int32 × ai_V)), d_M_sum_78 T F6 x1 s0 V = some r → Fr w_M_sum_78 V r.2 := by
  intro x1 s0 V r h
  rw [d_M_sum_78] at h
  exact Fr.tr Fr.rf (hF6 _ _ _ _ h) rfl
def w_M_sum_45 : Fw := ([(89, 18), (89, 19)], [])
theorem fr_M_sum_45 {T : Int32 → ai_V → Option (Int32 × ai_V)} {F6 : Int32 → Int32 → ai_V → Option (Int32 × ai_V)} (hT : ∀ y0 V r, T y0 V = some r → Fr w_M_sum_45 V r.2) (hF6 : ∀ y0 y1 V r, F6 y0 y1 V = some r → Fr w_M_sum_45 V r.2) : ∀ (x1 : Int32) (x2 : Int32) (s0 : Int32) (V : ai_V) (r : (Int32 × ai_V)), d_M_sum_45 T F6 x1 x2 s0 V = some r → Fr w_M_sum_45 V r.2 := by
  intro x1 x2 s0 V r h
  rw [d_M_sum_45] at h
  obtain ⟨q1, hq1, h⟩ := ai_bd h
  have gq1 : Fr w_M_sum_45 V q1.2 := (Fr.tr (Fr.si Fr.rf rfl) (fr_M_product_B hT _ _ _ hq1) rfl)
  rcases ai_if h with ⟨-, h⟩ | ⟨-, h⟩
  · exact Fr.tr gq1 (fr_M_sum_78 hT hF6 _ _ _ _ h) rfl
  · exact Fr.tr gq1 (fr_M_sum_78 hT hF6 _ _ _ _ h) rfl
def w_M_sum_31 : Fw := ([(89, 18), (89, 19)], [])
theorem fr_M_sum_31 {T : Int32 → ai_V → Option (Int32 × ai_V)} {F6 : Int32 → Int32 → ai_V → Option (Int32 × ai_V)} (hT : ∀ y0 V r, T y0 V = some r → Fr w_M_sum_31 V r.2) (hF6 : ∀ y0 y1 V r, F6 y0 y1 V = some r → Fr w_M_sum_31 V r.2) : ∀ (x1 : Int32) (x2 : Int32) (V : ai_V) (r : (Int32 × ai_V)), d_M_sum_31 T F6 x1 x2 V = some r → Fr w_M_sum_31 V r.2 := by
  intro x1 x2 V r h
  rw [d_M_sum_31] at h
  obtain ⟨q2, hq2, h⟩ := ai_bd h
  rcases ai_if h with ⟨-, h⟩ | ⟨-, h⟩
  · exact Fr.tr Fr.rf (fr_M_sum_45 hT hF6 _ _ _ _ _ h) rfl
  · exact Fr.tr Fr.rf (fr_M_sum_45 hT hF6 _ _ _ _ _ h) rfl
def w_M_sum_6 : Fw := ([(89, 18), (89, 19)], [])
theorem fr_M_sum_6 {T : Int32 → ai_V → Option (Int32 × ai_V)} (hT : ∀ y0 V r, T y0 V = some r → Fr w_M_sum_6 V r.2) : ∀ (n : Nat) (x1 : Int32) (x2 : Int32) (V : ai_V) (r : (Int32 × ai_V)), d_M_sum_6 T n x1 x2 V = some r → Fr w_M_sum_6 V r.2 := by
  intro n
  induction n with
  | zero =>
    intro x1 x2 V r h
    cases h
  | succ n ih =>
    intro x1 x2 V r h
    rw [d_M_sum_6] at h
    obtain ⟨q3, hq3, h⟩ := ai_bd h
    rcases ai_if h with ⟨-, h⟩ | ⟨-, h⟩
    · obtain rfl := Option.some.inj h
      exact Fr.rf
    · obtain ⟨q4, hq4, h⟩ := ai_bd h
      rcases ai_if h with ⟨-, h⟩ | ⟨-, h⟩
      · exact Fr.tr Fr.rf (fr_M_sum_31 hT ih _ _ _ _ h) rfl
      · obtain ⟨q5, hq5, h⟩ := ai_bd h
        rcases ai_if h with ⟨-, h⟩ | ⟨-, h⟩
        · obtain rfl := Option.some.inj h
          exact Fr.rf
        · exact Fr.tr Fr.rf (fr_M_sum_31 hT ih _ _ _ _ h) rfl
def w_M_sum_B : Fw := ([(89, 18), (89, 19)], [])
theorem fr_M_sum_B {T : Int32 → ai_V → Option (Int32 × ai_V)} (hT : ∀ y0 V r, T y0 V = some r → Fr w_M_sum_B V r.2) : ∀ (x1 : Int32) (V : ai_V) (r : (Int32 × ai_V)), d_M_sum_B T x1 V = some r → Fr w_M_sum_B V r.2 := by
  intro x1 V r h
  rw [d_M_sum_B] at h
  obtain ⟨q6, hq6, h⟩ := ai_bd h
  have gq6 : Fr w_M_sum_B V q6.2 := (Fr.tr Fr.rf (fr_M_product_B hT _ _ _ hq6) rfl)
  exact Fr.tr gq6 (fr_M_sum_6 hT _ _ _ _ _ h) rfl
def w_M_held_B : Fw := ([(89, 18), (89, 19)], [])
theorem fr_M_held_B {T : Int32 → ai_V → Option (Int32 × ai_V)} (hT : ∀ y0 V r, T y0 V = some r → Fr w_M_held_B V r.2) : ∀ (x1 : Int32) (V : ai_V) (r : (Int32 × ai_V)), d_M_held_B T x1 V = some r → Fr w_M_held_B V r.2 := by
  intro x1 V r h
  rw [d_M_held_B] at h
  obtain ⟨q1, hq1, h⟩ := ai_bd h
  have gq1 : Fr w_M_held_B V q1.2 := (Fr.tr Fr.rf (fr_M_sum_B hT _ _ _ hq1) rfl)
  obtain ⟨q2, hq2, h⟩ := ai_bd h
  have gq2 : Fr w_M_held_B V q2.2 := (Fr.tr gq1 (fr_M_passes _ _ _ hq2) rfl)
  rcases ai_if h with ⟨-, h⟩ | ⟨-, h⟩
  · obtain ⟨q3, hq3, h⟩ := ai_bd h
    have gq3 : Fr w_M_held_B V q3.2 := (Fr.tr gq2 (fr_M_passes _ _ _ hq3) rfl)
    rcases ai_if h with ⟨-, h⟩ | ⟨-, h⟩
    · obtain ⟨q4, hq4, h⟩ := ai_bd h
      have gq4 : Fr w_M_held_B V q4.2 := (Fr.tr gq3 (fr_M_passes _ _ _ hq4) rfl)
      rcases ai_if h with ⟨-, h⟩ | ⟨-, h⟩
      · obtain rfl := Option.some.inj h
        exact gq4
      · obtain ⟨q5, hq5, h⟩ := ai_bd h
        have gq5 : Fr w_M_held_B V q5.2 := (Fr.tr gq4 (fr_M_sum_B hT _ _ _ hq5) rfl)
        rcases ai_if h with ⟨-, h⟩ | ⟨-, h⟩
        · obtain rfl := Option.some.inj h
          exact gq5
        · obtain rfl := Option.some.inj h
          exact gq5
    · obtain ⟨q6, hq6, h⟩ := ai_bd h
      have gq6 : Fr w_M_held_B V q6.2 := (Fr.tr gq3 (fr_M_sum_B hT _ _ _ hq6) rfl)
      rcases ai_if h with ⟨-, h⟩ | ⟨-, h⟩
      · obtain rfl := Option.some.inj h
        exact gq6
      · obtain rfl := Option.some.inj h
        exact gq6
  · obtain ⟨q7, hq7, h⟩ := ai_bd h
    have gq7 : Fr w_M_held_B V q7.2 := (Fr.tr gq2 (fr_M_sum_B hT _ _ _ hq7) rfl)
    rcases ai_if h with ⟨-, h⟩ | ⟨-, h⟩
    · obtain rfl := Option.some.inj h
      exact gq7
    · obtain rfl := Option.some.inj h
      exact gq7
def w_M_thing : Fw := ([(89, 18), (89, 19)], [])
theorem fr_M_thing_176 {T : Int32 → ai_V → Option (Int32 × ai_V)} (hT : ∀ y0 V r, T y0 V = some r → Fr w_M_thing V r.2) : ∀ (x2 : Int32) (V : ai_V) (r : (Int32 × ai_V)), d_M_thing_176 T x2 V = some r → Fr w_M_thing V r.2 := by
  intro x2 V r h
  rw [d_M_thing_176] at h
  rcases ai_if h with ⟨-, h⟩ | ⟨-, h⟩
  · obtain rfl := Option.some.inj h
    exact (Fr.si Fr.rf rfl)
  · obtain ⟨q1, hq1, h⟩ := ai_bd h
    obtain rfl := Option.some.inj h
    exact (Fr.si Fr.rf rfl)
theorem fr_M_thing_83 {T : Int32 → ai_V → Option (Int32 × ai_V)} (hT : ∀ y0 V r, T y0 V = some r → Fr w_M_thing V r.2) : ∀ (n : Nat) (x3 : Int32) (x4 : Int32) (V : ai_V) (r : (Int32 × ai_V)), d_M_thing_83 T n x3 x4 V = some r → Fr w_M_thing V r.2 := by
  intro n
  induction n with
  | zero =>
    intro x3 x4 V r h
    cases h
  | succ n ih =>
    intro x3 x4 V r h
    rw [d_M_thing_83] at h
    rcases ai_if h with ⟨-, h⟩ | ⟨-, h⟩
    · obtain rfl := Option.some.inj h
      exact Fr.rf
    · obtain ⟨q2, hq2, h⟩ := ai_bd h
      obtain ⟨q3, hq3, h⟩ := ai_bd h
      rcases ai_if h with ⟨-, h⟩ | ⟨-, h⟩
      · obtain rfl := Option.some.inj h
        exact Fr.rf
      · obtain ⟨q4, hq4, h⟩ := ai_bd h
        have gq4 : Fr w_M_thing V q4.2 := (Fr.tr Fr.rf (fr_M_digit _ _ _ _ hq4) rfl)
        exact Fr.tr gq4 (ih _ _ _ _ h) rfl
theorem fr_M_thing_67 {T : Int32 → ai_V → Option (Int32 × ai_V)} (hT : ∀ y0 V r, T y0 V = some r → Fr w_M_thing V r.2) : ∀ (x2 : Int32) (V : ai_V) (r : (Int32 × ai_V)), d_M_thing_67 T x2 V = some r → Fr w_M_thing V r.2 := by
  intro x2 V r h
  rw [d_M_thing_67] at h
  obtain ⟨q5, hq5, h⟩ := ai_bd h
  rcases ai_if h with ⟨-, h⟩ | ⟨-, h⟩
  · rcases ai_if h with ⟨-, h⟩ | ⟨-, h⟩
    · exact Fr.tr Fr.rf (fr_M_thing_176 hT _ _ _ h) rfl
    · rcases ai_if h with ⟨-, h⟩ | ⟨-, h⟩
      · exact Fr.tr Fr.rf (fr_M_thing_176 hT _ _ _ h) rfl
      · rcases ai_if h with ⟨-, h⟩ | ⟨-, h⟩
        · exact Fr.tr Fr.rf (fr_M_thing_176 hT _ _ _ h) rfl
        · rcases ai_if h with ⟨-, h⟩ | ⟨-, h⟩
          · exact Fr.tr Fr.rf (fr_M_thing_176 hT _ _ _ h) rfl
          · rcases ai_if h with ⟨-, h⟩ | ⟨-, h⟩
            · exact Fr.tr Fr.rf (fr_M_thing_176 hT _ _ _ h) rfl
            · rcases ai_if h with ⟨-, h⟩ | ⟨-, h⟩
              · exact Fr.tr Fr.rf (fr_M_thing_176 hT _ _ _ h) rfl
              · rcases ai_if h with ⟨-, h⟩ | ⟨-, h⟩
                · exact Fr.tr Fr.rf (fr_M_thing_176 hT _ _ _ h) rfl
                · obtain ⟨q6, hq6, h⟩ := ai_bd h
                  have gq6 : Fr w_M_thing V q6 := (Fr.tr Fr.rf (fr_M_fault _ _ _ hq6) rfl)
                  obtain rfl := Option.some.inj h
                  exact gq6
  · exact Fr.tr Fr.rf (fr_M_thing_83 hT _ _ _ _ _ h) rfl
theorem fr_M_thing_B {T : Int32 → ai_V → Option (Int32 × ai_V)} (hT : ∀ y0 V r, T y0 V = some r → Fr w_M_thing V r.2) : ∀ (x1 : Int32) (V : ai_V) (r : (Int32 × ai_V)), d_M_thing_B T x1 V = some r → Fr w_M_thing V r.2 := by
  intro x1 V r h
  rw [d_M_thing_B] at h
  obtain ⟨q7, hq7, h⟩ := ai_bd h
  have gq7 : Fr w_M_thing V q7.2 := (Fr.tr Fr.rf (fr_M_passes _ _ _ hq7) rfl)
  rcases ai_if h with ⟨-, h⟩ | ⟨-, h⟩
  · obtain ⟨q8, hq8, h⟩ := ai_bd h
    rcases ai_if h with ⟨-, h⟩ | ⟨-, h⟩
    · obtain ⟨q9, hq9, h⟩ := ai_bd h
      rcases ai_if h with ⟨-, h⟩ | ⟨-, h⟩
      · exact Fr.tr gq7 (fr_M_thing_67 hT _ _ _ h) rfl
      · rcases ai_if h with ⟨-, h⟩ | ⟨-, h⟩
        · exact Fr.tr gq7 (fr_M_thing_67 hT _ _ _ h) rfl
        · obtain ⟨q10, hq10, h⟩ := ai_bd h
          have gq10 : Fr w_M_thing V q10.2 := (Fr.tr (Fr.si gq7 rfl) (fr_M_held_B hT _ _ _ hq10) rfl)
          obtain ⟨q11, hq11, h⟩ := ai_bd h
          have gq11 : Fr w_M_thing V q11 := (Fr.tr gq10 (fr_M_need _ _ _ hq11) rfl)
          obtain rfl := Option.some.inj h
          exact gq11
    · obtain rfl := Option.some.inj h
      exact gq7
  · obtain ⟨q12, hq12, h⟩ := ai_bd h
    have gq12 : Fr w_M_thing V q12.2 := (Fr.tr gq7 (hT _ _ _ hq12) rfl)
    obtain rfl := Option.some.inj h
    exact gq12
theorem fr_M_thing_R : ∀ (n : Nat) (x1 : Int32) (V : ai_V) (r : (Int32 × ai_V)), d_M_thing_R n x1 V = some r → Fr w_M_thing V r.2 := by
  intro n
  induction n with
  | zero =>
    intro x1 V r h
    cases h
  | succ n ih =>
    intro x1 V r h
    rw [d_M_thing_R] at h
    exact Fr.tr Fr.rf (fr_M_thing_B ih _ _ _ h) rfl
theorem fr_M_thing : ∀ (x0 : Int32) (V : ai_V) (r : (Int32 × ai_V)), d_M_thing x0 V = some r → Fr w_M_thing V r.2 := by
  intro x0 V r h
  rw [d_M_thing] at h
  exact Fr.tr Fr.rf (fr_M_thing_R _ _ _ _ h) rfl
def w_M_product : Fw := ([(89, 18), (89, 19)], [])
theorem fr_M_product : ∀ (x0 : Int32) (V : ai_V) (r : (Int32 × ai_V)), d_M_product x0 V = some r → Fr w_M_product V r.2 := by
  intro x0 V r h
  rw [d_M_product] at h
  exact Fr.tr Fr.rf (fr_M_product_B fr_M_thing _ _ _ h) rfl
def w_M_sum : Fw := ([(89, 18), (89, 19)], [])
theorem fr_M_sum : ∀ (x0 : Int32) (V : ai_V) (r : (Int32 × ai_V)), d_M_sum x0 V = some r → Fr w_M_sum V r.2 := by
  intro x0 V r h
  rw [d_M_sum] at h
  exact Fr.tr Fr.rf (fr_M_sum_B fr_M_thing _ _ _ h) rfl
def w_M_held : Fw := ([(89, 18), (89, 19)], [])
theorem fr_M_held : ∀ (x0 : Int32) (V : ai_V) (r : (Int32 × ai_V)), d_M_held x0 V = some r → Fr w_M_held V r.2 := by
  intro x0 V r h
  rw [d_M_held] at h
  exact Fr.tr Fr.rf (fr_M_held_B fr_M_thing _ _ _ h) rfl
def w_M_rule : Fw := ([(89, 11), (89, 14), (89, 15), (89, 16), (89, 17), (89, 18), (89, 19), (89, 22), (89, 23)], [99])
theorem fr_M_rule_73 : ∀ (n : Nat) (x1 : Int32) (x2 : Int32) (V : ai_V) (r : (Int32 × ai_V)), d_M_rule_73 n x1 x2 V = some r → Fr w_M_rule V r.2 := by
  intro n
  induction n with
  | zero =>
    intro x1 x2 V r h
    cases h
  | succ n ih =>
    intro x1 x2 V r h
    rw [d_M_rule_73] at h
    rcases ai_if h with ⟨-, h⟩ | ⟨-, h⟩
    · obtain rfl := Option.some.inj h
      exact (Fr.si Fr.rf rfl)
    · rcases ai_if h with ⟨-, h⟩ | ⟨-, h⟩
      · rcases ai_if h with ⟨-, h⟩ | ⟨-, h⟩
        · exact Fr.tr (Fr.sa Fr.rf rfl) (ih _ _ _ _ h) rfl
        · cases h
      · cases h
theorem fr_M_rule_71 : ∀ (x1 : Int32) (V : ai_V) (r : (Int32 × ai_V)), d_M_rule_71 x1 V = some r → Fr w_M_rule V r.2 := by
  intro x1 V r h
  rw [d_M_rule_71] at h
  exact Fr.tr Fr.rf (fr_M_rule_73 _ _ _ _ _ h) rfl
theorem fr_M_rule_57 : ∀ (x1 : Int32) (V : ai_V) (r : (Int32 × ai_V)), d_M_rule_57 x1 V = some r → Fr w_M_rule V r.2 := by
  intro x1 V r h
  rw [d_M_rule_57] at h
  obtain ⟨q1, hq1, h⟩ := ai_bd h
  rcases ai_if h with ⟨-, h⟩ | ⟨-, h⟩
  · exact Fr.tr Fr.rf (fr_M_rule_71 _ _ _ h) rfl
  · obtain rfl := Option.some.inj h
    exact Fr.rf
theorem fr_M_rule : ∀ (V : ai_V) (r : (Int32 × ai_V)), d_M_rule V = some r → Fr w_M_rule V r.2 := by
  intro V r h
  rw [d_M_rule] at h
  obtain ⟨q2, hq2, h⟩ := ai_bd h
  have gq2 : Fr w_M_rule V q2 := (Fr.tr (Fr.si Fr.rf rfl) (fr_M_begin _ _ _ _ hq2) rfl)
  rcases ai_if h with ⟨-, h⟩ | ⟨-, h⟩
  · exact Fr.tr (Fr.si (Fr.si gq2 rfl) rfl) (fr_M_rule_71 _ _ _ h) rfl
  · obtain ⟨q3, hq3, h⟩ := ai_bd h
    have gq3 : Fr w_M_rule V q3.2 := (Fr.tr (Fr.si (Fr.si gq2 rfl) rfl) (fr_M_held _ _ _ hq3) rfl)
    rcases ai_if h with ⟨-, h⟩ | ⟨-, h⟩
    · exact Fr.tr gq3 (fr_M_rule_57 _ _ _ h) rfl
    · obtain ⟨q4, hq4, h⟩ := ai_bd h
      have gq4 : Fr w_M_rule V q4 := (Fr.tr gq3 (fr_M_fault _ _ _ hq4) rfl)
      exact Fr.tr gq4 (fr_M_rule_57 _ _ _ h) rfl
def w_M_lost : Fw := ([(89, 14)], [])
theorem fr_M_lost : ∀ (V : ai_V) (r : (Int32 × ai_V)), d_M_lost V = some r → Fr w_M_lost V r.2 := by
  intro V r h
  rw [d_M_lost] at h
  obtain rfl := Option.some.inj h
  exact (Fr.si Fr.rf rfl)
def w_M_lodger : Fw := ([(89, 14)], [])
theorem fr_M_lodger_23 : ∀ (V : ai_V) (r : (Int32 × ai_V)), d_M_lodger_23 V = some r → Fr w_M_lodger V r.2 := by
  intro V r h
  rw [d_M_lodger_23] at h
  obtain ⟨q1, hq1, h⟩ := ai_bd h
  have gq1 : Fr w_M_lodger V q1.2 := (Fr.tr Fr.rf (fr_M_lost _ _ hq1) rfl)
  obtain rfl := Option.some.inj h
  exact gq1
theorem fr_M_lodger_126 : ∀ (n : Nat) (x1 : Int32) (x3 : Int32) (x4 : Int32) (V : ai_V) (r : (Int32 × ai_V)), d_M_lodger_126 n x1 x3 x4 V = some r → Fr w_M_lodger V r.2 := by
  intro n
  induction n with
  | zero =>
    intro x1 x3 x4 V r h
    cases h
  | succ n ih =>
    intro x1 x3 x4 V r h
    rw [d_M_lodger_126] at h
    rcases ai_if h with ⟨-, h⟩ | ⟨-, h⟩
    · obtain rfl := Option.some.inj h
      exact Fr.rf
    · obtain ⟨q2, hq2, h⟩ := ai_bd h
      exact Fr.tr Fr.rf (ih _ _ _ _ _ h) rfl
theorem fr_M_lodger : ∀ (x1 : Int32) (x2 : Int32) (V : ai_V) (r : (Int32 × ai_V)), d_M_lodger x1 x2 V = some r → Fr w_M_lodger V r.2 := by
  intro x1 x2 V r h
  rw [d_M_lodger] at h
  obtain ⟨q3, hq3, h⟩ := ai_bd h
  rcases ai_if h with ⟨-, h⟩ | ⟨-, h⟩
  · exact Fr.tr (Fr.si Fr.rf rfl) (fr_M_lodger_23 _ _ h) rfl
  · obtain ⟨q4, hq4, h⟩ := ai_bd h
    rcases ai_if h with ⟨-, h⟩ | ⟨-, h⟩
    · rcases ai_if h with ⟨-, h⟩ | ⟨-, h⟩
      · rcases ai_if h with ⟨-, h⟩ | ⟨-, h⟩
        · obtain rfl := Option.some.inj h
          exact (Fr.si Fr.rf rfl)
        · cases h
      · rcases ai_if h with ⟨-, h⟩ | ⟨-, h⟩
        · rcases ai_if h with ⟨-, h⟩ | ⟨-, h⟩
          · obtain rfl := Option.some.inj h
            exact (Fr.si Fr.rf rfl)
          · cases h
        · rcases ai_if h with ⟨-, h⟩ | ⟨-, h⟩
          · rcases ai_if h with ⟨-, h⟩ | ⟨-, h⟩
            · obtain rfl := Option.some.inj h
              exact (Fr.si Fr.rf rfl)
            · cases h
          · rcases ai_if h with ⟨-, h⟩ | ⟨-, h⟩
            · obtain ⟨q5, hq5, h⟩ := ai_bd h
              obtain rfl := Option.some.inj h
              exact (Fr.si Fr.rf rfl)
            · rcases ai_if h with ⟨-, h⟩ | ⟨-, h⟩
              · rcases ai_if h with ⟨-, h⟩ | ⟨-, h⟩
                · obtain rfl := Option.some.inj h
                  exact (Fr.si Fr.rf rfl)
                · cases h
              · rcases ai_if h with ⟨-, h⟩ | ⟨-, h⟩
                · obtain rfl := Option.some.inj h
                  exact (Fr.si Fr.rf rfl)
                · exact Fr.tr (Fr.si Fr.rf rfl) (fr_M_lodger_126 _ _ _ _ _ _ h) rfl
    · exact Fr.tr (Fr.si Fr.rf rfl) (fr_M_lodger_23 _ _ h) rfl
def w_M_debt : Fw := ([(89, 14)], [])
theorem fr_M_debt : ∀ (x1 : Int32) (V : ai_V) (r : (Int32 × ai_V)), d_M_debt x1 V = some r → Fr w_M_debt V r.2 := by
  intro x1 V r h
  rw [d_M_debt] at h
  obtain ⟨q1, hq1, h⟩ := ai_bd h
  rcases ai_if h with ⟨-, h⟩ | ⟨-, h⟩
  · obtain ⟨q2, hq2, h⟩ := ai_bd h
    have gq2 : Fr w_M_debt V q2.2 := (Fr.tr (Fr.si Fr.rf rfl) (fr_M_lost _ _ hq2) rfl)
    obtain rfl := Option.some.inj h
    exact gq2
  · rcases ai_if h with ⟨-, h⟩ | ⟨-, h⟩
    · obtain rfl := Option.some.inj h
      exact (Fr.si Fr.rf rfl)
    · cases h
def w_M_tell : Fw := ([(89, 13)], [97])
theorem fr_M_tell : ∀ (x1 : Int64) (V : ai_V) (r : ai_V), d_M_tell x1 V = some r → Fr w_M_tell V r := by
  intro x1 V r h
  rw [d_M_tell] at h
  rcases ai_if h with ⟨-, h⟩ | ⟨-, h⟩
  · obtain rfl := Option.some.inj h
    exact (Fr.si (Fr.sl Fr.rf rfl) rfl)
  · cases h
def w_M_begin_89_99 : Fw := ([(89, 15), (89, 16), (89, 17), (89, 18), (89, 19)], [])
theorem fr_M_begin_89_99 : ∀ (x2 : Int32) (x3 : Int32) (V : ai_V) (r : ai_V), d_M_begin_89_99 x2 x3 V = some r → Fr w_M_begin_89_99 V r := by
  intro x2 x3 V r h
  rw [d_M_begin_89_99] at h
  obtain rfl := Option.some.inj h
  exact (Fr.si (Fr.si (Fr.si (Fr.si (Fr.sr Fr.rf rfl (by decide)) rfl) rfl) rfl) rfl)
def w_M_liftOf : Fw := ([(89, 15), (89, 16), (89, 17), (89, 18), (89, 19), (89, 23), (89, 24), (89, 25), (89, 26), (89, 27), (89, 28)], [])
theorem fr_M_liftOf_103 : ∀ (x6 : Int32) (V : ai_V) (r : (Int32 × ai_V)), d_M_liftOf_103 x6 V = some r → Fr w_M_liftOf V r.2 := by
  intro x6 V r h
  rw [d_M_liftOf_103] at h
  obtain rfl := Option.some.inj h
  exact Fr.rf
theorem fr_M_liftOf : ∀ (x1 : Int32) (x2 : Int32) (x3 : Int32) (x4 : Int32) (x5 : Int32) (V : ai_V) (r : (Int32 × ai_V)), d_M_liftOf x1 x2 x3 x4 x5 V = some r → Fr w_M_liftOf V r.2 := by
  intro x1 x2 x3 x4 x5 V r h
  rw [d_M_liftOf] at h
  obtain ⟨q1, hq1, h⟩ := ai_bd h
  rcases ai_if h with ⟨-, h⟩ | ⟨-, h⟩
  · obtain ⟨q2, hq2, h⟩ := ai_bd h
    rcases ai_if h with ⟨-, h⟩ | ⟨-, h⟩
    · rcases ai_if h with ⟨-, h⟩ | ⟨-, h⟩
      · exact Fr.tr Fr.rf (fr_M_liftOf_103 _ _ _ h) rfl
      · obtain ⟨q3, hq3, h⟩ := ai_bd h
        have gq3 : Fr w_M_liftOf V q3 := (Fr.tr Fr.rf (fr_M_begin_89_99 _ _ _ _ hq3) rfl)
        obtain ⟨q4, hq4, h⟩ := ai_bd h
        obtain ⟨q5, hq5, h⟩ := ai_bd h
        obtain ⟨q6, hq6, h⟩ := ai_bd h
        have gq6 : Fr w_M_liftOf V q6.2 := (Fr.tr (Fr.si (Fr.si (Fr.si (Fr.si (Fr.si (Fr.si gq3 rfl) rfl) rfl) rfl) rfl) rfl) (fr_M_held _ _ _ hq6) rfl)
        exact Fr.tr (Fr.si gq6 rfl) (fr_M_liftOf_103 _ _ _ h) rfl
    · cases h
  · obtain rfl := Option.some.inj h
    exact Fr.rf
def w_M_lifts : Fw := ([(89, 13), (89, 14), (89, 15), (89, 16), (89, 17), (89, 18), (89, 19), (89, 23), (89, 24), (89, 25), (89, 26), (89, 27), (89, 28)], [97])
theorem fr_M_lifts_96 : ∀ (x1 : Int32) (x3 : Int32) (s0 : Int64) (V : ai_V) (r : (Int32 × ai_V)), d_M_lifts_96 x1 x3 s0 V = some r → Fr w_M_lifts V r.2 := by
  intro x1 x3 s0 V r h
  rw [d_M_lifts_96] at h
  obtain ⟨q1, hq1, h⟩ := ai_bd h
  have gq1 : Fr w_M_lifts V q1 := (Fr.tr Fr.rf (fr_M_tell _ _ _ hq1) rfl)
  obtain ⟨q2, hq2, h⟩ := ai_bd h
  have gq2 : Fr w_M_lifts V q2.2 := (Fr.tr gq1 (fr_M_liftOf _ _ _ _ _ _ _ hq2) rfl)
  obtain rfl := Option.some.inj h
  exact gq2
theorem fr_M_lifts_44 : ∀ (x1 : Int32) (x2 : Int32) (s0 : Int32) (s1 : Int32) (V : ai_V) (r : (Int32 × ai_V)), d_M_lifts_44 x1 x2 s0 s1 V = some r → Fr w_M_lifts V r.2 := by
  intro x1 x2 s0 s1 V r h
  rw [d_M_lifts_44] at h
  obtain ⟨q3, hq3, h⟩ := ai_bd h
  obtain ⟨q4, hq4, h⟩ := ai_bd h
  have gq4 : Fr w_M_lifts V q4 := (Fr.tr (Fr.si Fr.rf rfl) (fr_M_tell _ _ _ hq4) rfl)
  rcases ai_if h with ⟨-, h⟩ | ⟨-, h⟩
  · obtain ⟨q5, hq5, h⟩ := ai_bd h
    have gq5 : Fr w_M_lifts V q5.2 := (Fr.tr gq4 (fr_M_liftOf _ _ _ _ _ _ _ hq5) rfl)
    exact Fr.tr gq5 (fr_M_lifts_96 _ _ _ _ _ h) rfl
  · exact Fr.tr gq4 (fr_M_lifts_96 _ _ _ _ _ h) rfl
theorem fr_M_lifts_29 : ∀ (x1 : Int32) (x2 : Int32) (V : ai_V) (r : (Int32 × ai_V)), d_M_lifts_29 x1 x2 V = some r → Fr w_M_lifts V r.2 := by
  intro x1 x2 V r h
  rw [d_M_lifts_29] at h
  rcases ai_if h with ⟨-, h⟩ | ⟨-, h⟩
  · exact Fr.tr Fr.rf (fr_M_lifts_44 _ _ _ _ _ _ h) rfl
  · exact Fr.tr Fr.rf (fr_M_lifts_44 _ _ _ _ _ _ h) rfl
theorem fr_M_lifts : ∀ (x1 : Int32) (x2 : Int32) (V : ai_V) (r : (Int32 × ai_V)), d_M_lifts x1 x2 V = some r → Fr w_M_lifts V r.2 := by
  intro x1 x2 V r h
  rw [d_M_lifts] at h
  obtain ⟨q6, hq6, h⟩ := ai_bd h
  rcases ai_if h with ⟨-, h⟩ | ⟨-, h⟩
  · obtain rfl := Option.some.inj h
    exact (Fr.si Fr.rf rfl)
  · rcases ai_if h with ⟨-, h⟩ | ⟨-, h⟩
    · exact Fr.tr (Fr.si Fr.rf rfl) (fr_M_lifts_29 _ _ _ _ h) rfl
    · obtain ⟨q7, hq7, h⟩ := ai_bd h
      rcases ai_if h with ⟨-, h⟩ | ⟨-, h⟩
      · exact Fr.tr (Fr.si Fr.rf rfl) (fr_M_lifts_29 _ _ _ _ h) rfl
      · obtain rfl := Option.some.inj h
        exact (Fr.si Fr.rf rfl)
def w_M_set : Fw := ([(89, 8), (89, 9), (89, 14)], [90])
theorem fr_M_set_80 : ∀ (x1 : Int32) (x2 : Int32) (V : ai_V) (r : (Int32 × ai_V)), d_M_set_80 x1 x2 V = some r → Fr w_M_set V r.2 := by
  intro x1 x2 V r h
  rw [d_M_set_80] at h
  rcases ai_if h with ⟨-, h⟩ | ⟨-, h⟩
  · obtain rfl := Option.some.inj h
    exact Fr.rf
  · obtain ⟨q1, hq1, h⟩ := ai_bd h
    rcases ai_if h with ⟨-, h⟩ | ⟨-, h⟩
    · obtain rfl := Option.some.inj h
      exact Fr.rf
    · obtain rfl := Option.some.inj h
      exact (Fr.sa Fr.rf rfl)
theorem fr_M_set_53 : ∀ (x1 : Int32) (x2 : Int32) (V : ai_V) (r : (Int32 × ai_V)), d_M_set_53 x1 x2 V = some r → Fr w_M_set V r.2 := by
  intro x1 x2 V r h
  rw [d_M_set_53] at h
  rcases ai_if h with ⟨-, h⟩ | ⟨-, h⟩
  · exact Fr.tr Fr.rf (fr_M_set_80 _ _ _ _ h) rfl
  · obtain ⟨q2, hq2, h⟩ := ai_bd h
    rcases ai_if h with ⟨-, h⟩ | ⟨-, h⟩
    · exact Fr.tr Fr.rf (fr_M_set_80 _ _ _ _ h) rfl
    · obtain rfl := Option.some.inj h
      exact (Fr.si Fr.rf rfl)
theorem fr_M_set : ∀ (x1 : Int32) (x2 : Int32) (V : ai_V) (r : (Int32 × ai_V)), d_M_set x1 x2 V = some r → Fr w_M_set V r.2 := by
  intro x1 x2 V r h
  rw [d_M_set] at h
  rcases ai_if h with ⟨-, h⟩ | ⟨-, h⟩
  · exact Fr.tr (Fr.si Fr.rf rfl) (fr_M_set_53 _ _ _ _ h) rfl
  · obtain ⟨q3, hq3, h⟩ := ai_bd h
    rcases ai_if h with ⟨-, h⟩ | ⟨-, h⟩
    · exact Fr.tr (Fr.si Fr.rf rfl) (fr_M_set_53 _ _ _ _ h) rfl
    · obtain rfl := Option.some.inj h
      exact (Fr.sa (Fr.si (Fr.si Fr.rf rfl) rfl) rfl)
def w_M_brake : Fw := ([(89, 7), (89, 14)], [])
theorem fr_M_brake : ∀ (x1 : Int32) (x2 : Int32) (V : ai_V) (r : (Int32 × ai_V)), d_M_brake x1 x2 V = some r → Fr w_M_brake V r.2 := by
  intro x1 x2 V r h
  rw [d_M_brake] at h
  obtain ⟨q1, hq1, h⟩ := ai_bd h
  rcases ai_if h with ⟨-, h⟩ | ⟨-, h⟩
  · obtain rfl := Option.some.inj h
    exact (Fr.si Fr.rf rfl)
  · obtain ⟨q2, hq2, h⟩ := ai_bd h
    rcases ai_if h with ⟨-, h⟩ | ⟨-, h⟩
    · obtain rfl := Option.some.inj h
      exact (Fr.si (Fr.si Fr.rf rfl) rfl)
    · obtain rfl := Option.some.inj h
      exact (Fr.si Fr.rf rfl)
def w_M_sheet : Fw := ([(89, 14)], [92])
theorem fr_M_sheet_109 {F43 : Int32 → Int32 → Int32 → Int32 → Int32 → Int32 → ai_V → Option (Int32 × ai_V)} (hF43 : ∀ y0 y1 y2 y3 y4 y5 V r, F43 y0 y1 y2 y3 y4 y5 V = some r → Fr w_M_sheet V r.2) : ∀ (x1 : Int32) (x2 : Int32) (x4 : Int32) (x5 : Int32) (x6 : Int32) (x7 : Int32) (s0 : Int32) (s1 : Int32) (V : ai_V) (r : (Int32 × ai_V)), d_M_sheet_109 F43 x1 x2 x4 x5 x6 x7 s0 s1 V = some r → Fr w_M_sheet V r.2 := by
  intro x1 x2 x4 x5 x6 x7 s0 s1 V r h
  rw [d_M_sheet_109] at h
  rcases ai_if h with ⟨-, h⟩ | ⟨-, h⟩
  · rcases ai_if h with ⟨-, h⟩ | ⟨-, h⟩
    · exact Fr.tr (Fr.sa Fr.rf rfl) (hF43 _ _ _ _ _ _ _ _ h) rfl
    · cases h
  · cases h
theorem fr_M_sheet_94 {F43 : Int32 → Int32 → Int32 → Int32 → Int32 → Int32 → ai_V → Option (Int32 × ai_V)} (hF43 : ∀ y0 y1 y2 y3 y4 y5 V r, F43 y0 y1 y2 y3 y4 y5 V = some r → Fr w_M_sheet V r.2) : ∀ (x1 : Int32) (x2 : Int32) (x4 : Int32) (x5 : Int32) (x6 : Int32) (x7 : Int32) (s0 : Int32) (V : ai_V) (r : (Int32 × ai_V)), d_M_sheet_94 F43 x1 x2 x4 x5 x6 x7 s0 V = some r → Fr w_M_sheet V r.2 := by
  intro x1 x2 x4 x5 x6 x7 s0 V r h
  rw [d_M_sheet_94] at h
  exact Fr.tr Fr.rf (fr_M_sheet_109 hF43 _ _ _ _ _ _ _ _ _ _ h) rfl
theorem fr_M_sheet_75 {F43 : Int32 → Int32 → Int32 → Int32 → Int32 → Int32 → ai_V → Option (Int32 × ai_V)} (hF43 : ∀ y0 y1 y2 y3 y4 y5 V r, F43 y0 y1 y2 y3 y4 y5 V = some r → Fr w_M_sheet V r.2) : ∀ (x1 : Int32) (x2 : Int32) (x4 : Int32) (x5 : Int32) (x6 : Int32) (x7 : Int32) (s0 : Int32) (V : ai_V) (r : (Int32 × ai_V)), d_M_sheet_75 F43 x1 x2 x4 x5 x6 x7 s0 V = some r → Fr w_M_sheet V r.2 := by
  intro x1 x2 x4 x5 x6 x7 s0 V r h
  rw [d_M_sheet_75] at h
  rcases ai_if h with ⟨-, h⟩ | ⟨-, h⟩
  · exact Fr.tr Fr.rf (fr_M_sheet_94 hF43 _ _ _ _ _ _ _ _ _ h) rfl
  · rcases ai_if h with ⟨-, h⟩ | ⟨-, h⟩
    · exact Fr.tr Fr.rf (fr_M_sheet_109 hF43 _ _ _ _ _ _ _ _ _ _ h) rfl
    · exact Fr.tr Fr.rf (fr_M_sheet_94 hF43 _ _ _ _ _ _ _ _ _ h) rfl
theorem fr_M_sheet_43 : ∀ (n : Nat) (x1 : Int32) (x2 : Int32) (x4 : Int32) (x5 : Int32) (x6 : Int32) (x7 : Int32) (V : ai_V) (r : (Int32 × ai_V)), d_M_sheet_43 n x1 x2 x4 x5 x6 x7 V = some r → Fr w_M_sheet V r.2 := by
  intro n
  induction n with
  | zero =>
    intro x1 x2 x4 x5 x6 x7 V r h
    cases h
  | succ n ih =>
    intro x1 x2 x4 x5 x6 x7 V r h
    rw [d_M_sheet_43] at h
    rcases ai_if h with ⟨-, h⟩ | ⟨-, h⟩
    · rcases ai_if h with ⟨-, h⟩ | ⟨-, h⟩
      · obtain rfl := Option.some.inj h
        exact Fr.rf
      · obtain rfl := Option.some.inj h
        exact Fr.rf
    · rcases ai_if h with ⟨-, h⟩ | ⟨-, h⟩
      · rcases ai_if h with ⟨-, h⟩ | ⟨-, h⟩
        · exact Fr.tr Fr.rf (fr_M_sheet_75 ih _ _ _ _ _ _ _ _ _ h) rfl
        · exact Fr.tr Fr.rf (fr_M_sheet_75 ih _ _ _ _ _ _ _ _ _ h) rfl
      · exact Fr.tr Fr.rf (fr_M_sheet_75 ih _ _ _ _ _ _ _ _ _ h) rfl
theorem fr_M_sheet_34 : ∀ (x1 : Int32) (x2 : Int32) (x3 : Int32) (x4 : Int32) (V : ai_V) (r : (Int32 × ai_V)), d_M_sheet_34 x1 x2 x3 x4 V = some r → Fr w_M_sheet V r.2 := by
  intro x1 x2 x3 x4 V r h
  rw [d_M_sheet_34] at h
  exact Fr.tr Fr.rf (fr_M_sheet_43 _ _ _ _ _ _ _ _ _ h) rfl
theorem fr_M_sheet : ∀ (x1 : Int32) (x2 : Int32) (x3 : Int32) (x4 : Int32) (V : ai_V) (r : (Int32 × ai_V)), d_M_sheet x1 x2 x3 x4 V = some r → Fr w_M_sheet V r.2 := by
  intro x1 x2 x3 x4 V r h
  rw [d_M_sheet] at h
  obtain ⟨q1, hq1, h⟩ := ai_bd h
  rcases ai_if h with ⟨-, h⟩ | ⟨-, h⟩
  · obtain rfl := Option.some.inj h
    exact (Fr.si Fr.rf rfl)
  · rcases ai_if h with ⟨-, h⟩ | ⟨-, h⟩
    · rcases ai_if h with ⟨-, h⟩ | ⟨-, h⟩
      · exact Fr.tr (Fr.si Fr.rf rfl) (fr_M_sheet_34 _ _ _ _ _ _ h) rfl
      · rcases ai_if h with ⟨-, h⟩ | ⟨-, h⟩
        · exact Fr.tr (Fr.si Fr.rf rfl) (fr_M_sheet_34 _ _ _ _ _ _ h) rfl
        · obtain rfl := Option.some.inj h
          exact (Fr.si Fr.rf rfl)
    · obtain rfl := Option.some.inj h
      exact (Fr.si Fr.rf rfl)
def w_M_liftOfAll : Fw := ([(89, 15), (89, 16), (89, 17), (89, 18), (89, 19), (89, 23), (89, 24), (89, 25), (89, 26), (89, 27), (89, 28)], [])
theorem fr_M_liftOfAll_43 {F6 : Int32 → Int32 → Int32 → Int32 → Int32 → ai_V → Option (Int32 × ai_V)} (hF6 : ∀ y0 y1 y2 y3 y4 V r, F6 y0 y1 y2 y3 y4 V = some r → Fr w_M_liftOfAll V r.2) : ∀ (x1 : Int32) (x2 : Int32) (x3 : Int32) (x5 : Int32) (s0 : Int32) (s1 : Int32) (V : ai_V) (r : (Int32 × ai_V)), d_M_liftOfAll_43 F6 x1 x2 x3 x5 s0 s1 V = some r → Fr w_M_liftOfAll V r.2 := by
  intro x1 x2 x3 x5 s0 s1 V r h
  rw [d_M_liftOfAll_43] at h
  exact Fr.tr Fr.rf (hF6 _ _ _ _ _ _ _ h) rfl
theorem fr_M_liftOfAll_6 : ∀ (n : Nat) (x1 : Int32) (x2 : Int32) (x3 : Int32) (x4 : Int32) (x5 : Int32) (V : ai_V) (r : (Int32 × ai_V)), d_M_liftOfAll_6 n x1 x2 x3 x4 x5 V = some r → Fr w_M_liftOfAll V r.2 := by
  intro n
  induction n with
  | zero =>
    intro x1 x2 x3 x4 x5 V r h
    cases h
  | succ n ih =>
    intro x1 x2 x3 x4 x5 V r h
    rw [d_M_liftOfAll_6] at h
    rcases ai_if h with ⟨-, h⟩ | ⟨-, h⟩
    · obtain rfl := Option.some.inj h
      exact Fr.rf
    · obtain ⟨q1, hq1, h⟩ := ai_bd h
      rcases ai_if h with ⟨-, h⟩ | ⟨-, h⟩
      · exact Fr.tr Fr.rf (fr_M_liftOfAll_43 ih _ _ _ _ _ _ _ _ h) rfl
      · obtain ⟨q2, hq2, h⟩ := ai_bd h
        have gq2 : Fr w_M_liftOfAll V q2.2 := (Fr.tr Fr.rf (fr_M_liftOf _ _ _ _ _ _ _ hq2) rfl)
        exact Fr.tr gq2 (fr_M_liftOfAll_43 ih _ _ _ _ _ _ _ _ h) rfl
theorem fr_M_liftOfAll : ∀ (x1 : Int32) (x2 : Int32) (x3 : Int32) (V : ai_V) (r : (Int32 × ai_V)), d_M_liftOfAll x1 x2 x3 V = some r → Fr w_M_liftOfAll V r.2 := by
  intro x1 x2 x3 V r h
  rw [d_M_liftOfAll] at h
  exact Fr.tr Fr.rf (fr_M_liftOfAll_6 _ _ _ _ _ _ _ _ h) rfl
def w_M_takes : Fw := ([(89, 29)], [])
theorem fr_M_takes_78 {F10 : Int32 → Int32 → Int32 → ai_V → Option (Int32 × ai_V)} {F19 : Int32 → Int32 → Int32 → Int32 → ai_V → Option (Int32 × ai_V)} (hF10 : ∀ y0 y1 y2 V r, F10 y0 y1 y2 V = some r → Fr w_M_takes V r.2) (hF19 : ∀ y0 y1 y2 y3 V r, F19 y0 y1 y2 y3 V = some r → Fr w_M_takes V r.2) : ∀ (x2 : Int32) (x3 : Int32) (x4 : Int32) (x5 : Int32) (V : ai_V) (r : (Int32 × ai_V)), d_M_takes_78 F10 F19 x2 x3 x4 x5 V = some r → Fr w_M_takes V r.2 := by
  intro x2 x3 x4 x5 V r h
  rw [d_M_takes_78] at h
  exact Fr.tr Fr.rf (hF19 _ _ _ _ _ _ h) rfl
theorem fr_M_takes_19 {F10 : Int32 → Int32 → Int32 → ai_V → Option (Int32 × ai_V)} (hF10 : ∀ y0 y1 y2 V r, F10 y0 y1 y2 V = some r → Fr w_M_takes V r.2) : ∀ (n : Nat) (x2 : Int32) (x3 : Int32) (x4 : Int32) (x5 : Int32) (V : ai_V) (r : (Int32 × ai_V)), d_M_takes_19 F10 n x2 x3 x4 x5 V = some r → Fr w_M_takes V r.2 := by
  intro n
  induction n with
  | zero =>
    intro x2 x3 x4 x5 V r h
    cases h
  | succ n ih =>
    intro x2 x3 x4 x5 V r h
    rw [d_M_takes_19] at h
    rcases ai_if h with ⟨-, h⟩ | ⟨-, h⟩
    · exact Fr.tr Fr.rf (hF10 _ _ _ _ _ h) rfl
    · obtain ⟨q1, hq1, h⟩ := ai_bd h
      rcases ai_if h with ⟨-, h⟩ | ⟨-, h⟩
      · obtain ⟨q2, hq2, h⟩ := ai_bd h
        rcases ai_if h with ⟨-, h⟩ | ⟨-, h⟩
        · exact Fr.tr (Fr.si Fr.rf rfl) (fr_M_takes_78 hF10 ih _ _ _ _ _ _ h) rfl
        · exact Fr.tr Fr.rf (fr_M_takes_78 hF10 ih _ _ _ _ _ _ h) rfl
      · exact Fr.tr Fr.rf (fr_M_takes_78 hF10 ih _ _ _ _ _ _ h) rfl
theorem fr_M_takes_10 : ∀ (n : Nat) (x2 : Int32) (x3 : Int32) (x4 : Int32) (V : ai_V) (r : (Int32 × ai_V)), d_M_takes_10 n x2 x3 x4 V = some r → Fr w_M_takes V r.2 := by
  intro n
  induction n with
  | zero =>
    intro x2 x3 x4 V r h
    cases h
  | succ n ih =>
    intro x2 x3 x4 V r h
    rw [d_M_takes_10] at h
    rcases ai_if h with ⟨-, h⟩ | ⟨-, h⟩
    · obtain rfl := Option.some.inj h
      exact Fr.rf
    · exact Fr.tr Fr.rf (fr_M_takes_19 ih _ _ _ _ _ _ _ h) rfl
theorem fr_M_takes : ∀ (x1 : Int32) (x2 : Int32) (V : ai_V) (r : (Int32 × ai_V)), d_M_takes x1 x2 V = some r → Fr w_M_takes V r.2 := by
  intro x1 x2 V r h
  rw [d_M_takes] at h
  exact Fr.tr (Fr.si Fr.rf rfl) (fr_M_takes_10 _ _ _ _ _ _ h) rfl
def w_M_goQuarter : Fw := ([(89, 15), (89, 16), (89, 17), (89, 18), (89, 19), (89, 23), (89, 24), (89, 25), (89, 26), (89, 27), (89, 28), (89, 29), (89, 32), (89, 33)], [90])
theorem fr_M_goQuarter_163 : ∀ (n : Nat) (x4 : Int32) (V : ai_V) (r : ai_V), d_M_goQuarter_163 n x4 V = some r → Fr w_M_goQuarter V r := by
  intro n
  induction n with
  | zero =>
    intro x4 V r h
    cases h
  | succ n ih =>
    intro x4 V r h
    rw [d_M_goQuarter_163] at h
    rcases ai_if h with ⟨-, h⟩ | ⟨-, h⟩
    · obtain rfl := Option.some.inj h
      exact Fr.rf
    · rcases ai_if h with ⟨-, h⟩ | ⟨-, h⟩
      · rcases ai_if h with ⟨-, h⟩ | ⟨-, h⟩
        · rcases ai_if h with ⟨-, h⟩ | ⟨-, h⟩
          · exact Fr.tr (Fr.sa Fr.rf rfl) (ih _ _ _ h) rfl
          · cases h
        · cases h
      · cases h
theorem fr_M_goQuarter_136 {F104 : Int32 → ai_V → Option ai_V} (hF104 : ∀ y0 V r, F104 y0 V = some r → Fr w_M_goQuarter V r) : ∀ (x4 : Int32) (V : ai_V) (r : ai_V), d_M_goQuarter_136 F104 x4 V = some r → Fr w_M_goQuarter V r := by
  intro x4 V r h
  rw [d_M_goQuarter_136] at h
  exact Fr.tr Fr.rf (hF104 _ _ _ h) rfl
theorem fr_M_goQuarter_104 : ∀ (n : Nat) (x4 : Int32) (V : ai_V) (r : ai_V), d_M_goQuarter_104 n x4 V = some r → Fr w_M_goQuarter V r := by
  intro n
  induction n with
  | zero =>
    intro x4 V r h
    cases h
  | succ n ih =>
    intro x4 V r h
    rw [d_M_goQuarter_104] at h
    rcases ai_if h with ⟨-, h⟩ | ⟨-, h⟩
    · rcases ai_if h with ⟨-, h⟩ | ⟨-, h⟩
      · obtain rfl := Option.some.inj h
        exact (Fr.sa Fr.rf rfl)
      · exact Fr.tr (Fr.sa Fr.rf rfl) (fr_M_goQuarter_163 _ _ _ _ h) rfl
    · obtain ⟨q1, hq1, h⟩ := ai_bd h
      rcases ai_if h with ⟨-, h⟩ | ⟨-, h⟩
      · exact Fr.tr Fr.rf (fr_M_goQuarter_136 ih _ _ _ h) rfl
      · rcases ai_if h with ⟨-, h⟩ | ⟨-, h⟩
        · rcases ai_if h with ⟨-, h⟩ | ⟨-, h⟩
          · exact Fr.tr (Fr.sa Fr.rf rfl) (fr_M_goQuarter_136 ih _ _ _ h) rfl
          · cases h
        · cases h
theorem fr_M_goQuarter_69 {F39 : Int32 → Int32 → ai_V → Option ai_V} (hF39 : ∀ y0 y1 V r, F39 y0 y1 V = some r → Fr w_M_goQuarter V r) : ∀ (x2 : Int32) (x4 : Int32) (V : ai_V) (r : ai_V), d_M_goQuarter_69 F39 x2 x4 V = some r → Fr w_M_goQuarter V r := by
  intro x2 x4 V r h
  rw [d_M_goQuarter_69] at h
  exact Fr.tr Fr.rf (hF39 _ _ _ _ h) rfl
theorem fr_M_goQuarter_39 : ∀ (n : Nat) (x2 : Int32) (x4 : Int32) (V : ai_V) (r : ai_V), d_M_goQuarter_39 n x2 x4 V = some r → Fr w_M_goQuarter V r := by
  intro n
  induction n with
  | zero =>
    intro x2 x4 V r h
    cases h
  | succ n ih =>
    intro x2 x4 V r h
    rw [d_M_goQuarter_39] at h
    rcases ai_if h with ⟨-, h⟩ | ⟨-, h⟩
    · obtain ⟨q2, hq2, h⟩ := ai_bd h
      have gq2 : Fr w_M_goQuarter V q2.2 := (Fr.tr Fr.rf (fr_M_takes _ _ _ _ hq2) rfl)
      exact Fr.tr (Fr.sa gq2 rfl) (fr_M_goQuarter_104 _ _ _ _ h) rfl
    · obtain ⟨q3, hq3, h⟩ := ai_bd h
      rcases ai_if h with ⟨-, h⟩ | ⟨-, h⟩
      · exact Fr.tr Fr.rf (fr_M_goQuarter_69 ih _ _ _ _ h) rfl
      · rcases ai_if h with ⟨-, h⟩ | ⟨-, h⟩
        · obtain ⟨q4, hq4, h⟩ := ai_bd h
          rcases ai_if h with ⟨-, h⟩ | ⟨-, h⟩
          · exact Fr.tr (Fr.sa Fr.rf rfl) (fr_M_goQuarter_69 ih _ _ _ _ h) rfl
          · cases h
        · cases h
theorem fr_M_goQuarter : ∀ (x2 : Int32) (x3 : Int32) (V : ai_V) (r : ai_V), d_M_goQuarter x2 x3 V = some r → Fr w_M_goQuarter V r := by
  intro x2 x3 V r h
  rw [d_M_goQuarter] at h
  obtain ⟨q5, hq5, h⟩ := ai_bd h
  have gq5 : Fr w_M_goQuarter V q5.2 := (Fr.tr Fr.rf (fr_M_liftOfAll _ _ _ _ _ hq5) rfl)
  exact Fr.tr (Fr.si (Fr.si gq5 rfl) rfl) (fr_M_goQuarter_39 _ _ _ _ _ h) rfl
def w_M_lay : Fw := ([], [100])
theorem fr_M_lay_2 : ∀ (n : Nat) (x2 : Int32) (x3 : Int32) (V : ai_V) (r : ai_V), d_M_lay_2 n x2 x3 V = some r → Fr w_M_lay V r := by
  intro n
  induction n with
  | zero =>
    intro x2 x3 V r h
    cases h
  | succ n ih =>
    intro x2 x3 V r h
    rw [d_M_lay_2] at h
    rcases ai_if h with ⟨-, h⟩ | ⟨-, h⟩
    · obtain rfl := Option.some.inj h
      exact Fr.rf
    · rcases ai_if h with ⟨-, h⟩ | ⟨-, h⟩
      · rcases ai_if h with ⟨-, h⟩ | ⟨-, h⟩
        · exact Fr.tr (Fr.sa Fr.rf rfl) (ih _ _ _ _ h) rfl
        · cases h
      · cases h
theorem fr_M_lay : ∀ (x2 : Int32) (V : ai_V) (r : ai_V), d_M_lay x2 V = some r → Fr w_M_lay V r := by
  intro x2 V r h
  rw [d_M_lay] at h
  exact Fr.tr Fr.rf (fr_M_lay_2 _ _ _ _ _ h) rfl
def w_M_remember : Fw := ([(89, 35)], [100])
theorem fr_M_remember_49 : ∀ (V : ai_V) (r : ai_V), d_M_remember_49 V = some r → Fr w_M_remember V r := by
  intro V r h
  rw [d_M_remember_49] at h
  obtain ⟨q1, hq1, h⟩ := ai_bd h
  have gq1 : Fr w_M_remember V q1 := (Fr.tr Fr.rf (fr_M_lay _ _ _ hq1) rfl)
  obtain rfl := Option.some.inj h
  exact (Fr.si gq1 rfl)
theorem fr_M_remember_11 : ∀ (n : Nat) (x2 : Int32) (V : ai_V) (r : ai_V), d_M_remember_11 n x2 V = some r → Fr w_M_remember V r := by
  intro n
  induction n with
  | zero =>
    intro x2 V r h
    cases h
  | succ n ih =>
    intro x2 V r h
    rw [d_M_remember_11] at h
    rcases ai_if h with ⟨-, h⟩ | ⟨-, h⟩
    · exact Fr.tr (Fr.si Fr.rf rfl) (fr_M_remember_49 _ _ h) rfl
    · rcases ai_if h with ⟨-, h⟩ | ⟨-, h⟩
      · rcases ai_if h with ⟨-, h⟩ | ⟨-, h⟩
        · exact Fr.tr (Fr.sa Fr.rf rfl) (ih _ _ _ h) rfl
        · cases h
      · cases h
theorem fr_M_remember : ∀ (V : ai_V) (r : ai_V), d_M_remember V = some r → Fr w_M_remember V r := by
  intro V r h
  rw [d_M_remember] at h
  rcases ai_if h with ⟨-, h⟩ | ⟨-, h⟩
  · exact Fr.tr Fr.rf (fr_M_remember_49 _ _ h) rfl
  · exact Fr.tr Fr.rf (fr_M_remember_11 _ _ _ _ h) rfl
def w_M_quarter : Fw := ([(89, 13), (89, 14), (89, 15), (89, 16), (89, 17), (89, 18), (89, 19), (89, 23), (89, 24), (89, 25), (89, 26), (89, 27), (89, 28), (89, 29), (89, 32), (89, 33), (89, 35)], [90, 97, 100])
theorem fr_M_quarter_95 : ∀ (s0 : Int32) (s1 : Int32) (V : ai_V) (r : (Int32 × ai_V)), d_M_quarter_95 s0 s1 V = some r → Fr w_M_quarter V r.2 := by
  intro s0 s1 V r h
  rw [d_M_quarter_95] at h
  obtain ⟨q1, hq1, h⟩ := ai_bd h
  have gq1 : Fr w_M_quarter V q1 := (Fr.tr Fr.rf (fr_M_goQuarter _ _ _ _ hq1) rfl)
  obtain ⟨q2, hq2, h⟩ := ai_bd h
  have gq2 : Fr w_M_quarter V q2 := (Fr.tr (Fr.si gq1 rfl) (fr_M_tell _ _ _ hq2) rfl)
  obtain ⟨q3, hq3, h⟩ := ai_bd h
  have gq3 : Fr w_M_quarter V q3 := (Fr.tr gq2 (fr_M_tell _ _ _ hq3) rfl)
  obtain ⟨q4, hq4, h⟩ := ai_bd h
  have gq4 : Fr w_M_quarter V q4 := (Fr.tr gq3 (fr_M_tell _ _ _ hq4) rfl)
  obtain rfl := Option.some.inj h
  exact gq4
theorem fr_M_quarter_83 : ∀ (x2 : Int32) (s0 : Int32) (V : ai_V) (r : (Int32 × ai_V)), d_M_quarter_83 x2 s0 V = some r → Fr w_M_quarter V r.2 := by
  intro x2 s0 V r h
  rw [d_M_quarter_83] at h
  rcases ai_if h with ⟨-, h⟩ | ⟨-, h⟩
  · exact Fr.tr Fr.rf (fr_M_quarter_95 _ _ _ _ h) rfl
  · exact Fr.tr Fr.rf (fr_M_quarter_95 _ _ _ _ h) rfl
theorem fr_M_quarter_50 : ∀ (x1 : Int32) (x2 : Int32) (s0 : Int32) (V : ai_V) (r : (Int32 × ai_V)), d_M_quarter_50 x1 x2 s0 V = some r → Fr w_M_quarter V r.2 := by
  intro x1 x2 s0 V r h
  rw [d_M_quarter_50] at h
  rcases ai_if h with ⟨-, h⟩ | ⟨-, h⟩
  · obtain ⟨q5, hq5, h⟩ := ai_bd h
    have gq5 : Fr w_M_quarter V q5 := (Fr.tr Fr.rf (fr_M_remember _ _ hq5) rfl)
    rcases ai_if h with ⟨-, h⟩ | ⟨-, h⟩
    · exact Fr.tr gq5 (fr_M_quarter_83 _ _ _ _ h) rfl
    · exact Fr.tr gq5 (fr_M_quarter_83 _ _ _ _ h) rfl
  · obtain rfl := Option.some.inj h
    exact Fr.rf
theorem fr_M_quarter_45 : ∀ (x1 : Int32) (x2 : Int32) (V : ai_V) (r : (Int32 × ai_V)), d_M_quarter_45 x1 x2 V = some r → Fr w_M_quarter V r.2 := by
  intro x1 x2 V r h
  rw [d_M_quarter_45] at h
  exact Fr.tr Fr.rf (fr_M_quarter_50 _ _ _ _ _ h) rfl
theorem fr_M_quarter_49 : ∀ (x1 : Int32) (x2 : Int32) (V : ai_V) (r : (Int32 × ai_V)), d_M_quarter_49 x1 x2 V = some r → Fr w_M_quarter V r.2 := by
  intro x1 x2 V r h
  rw [d_M_quarter_49] at h
  exact Fr.tr Fr.rf (fr_M_quarter_50 _ _ _ _ _ h) rfl
theorem fr_M_quarter : ∀ (x1 : Int32) (x2 : Int32) (V : ai_V) (r : (Int32 × ai_V)), d_M_quarter x1 x2 V = some r → Fr w_M_quarter V r.2 := by
  intro x1 x2 V r h
  rw [d_M_quarter] at h
  rcases ai_if h with ⟨-, h⟩ | ⟨-, h⟩
  · obtain ⟨q6, hq6, h⟩ := ai_bd h
    rcases ai_if h with ⟨-, h⟩ | ⟨-, h⟩
    · exact Fr.tr (Fr.si Fr.rf rfl) (fr_M_quarter_49 _ _ _ _ h) rfl
    · rcases ai_if h with ⟨-, h⟩ | ⟨-, h⟩
      · exact Fr.tr (Fr.si Fr.rf rfl) (fr_M_quarter_45 _ _ _ _ h) rfl
      · obtain ⟨q7, hq7, h⟩ := ai_bd h
        rcases ai_if h with ⟨-, h⟩ | ⟨-, h⟩
        · exact Fr.tr (Fr.si Fr.rf rfl) (fr_M_quarter_49 _ _ _ _ h) rfl
        · exact Fr.tr (Fr.si Fr.rf rfl) (fr_M_quarter_45 _ _ _ _ h) rfl
  · rcases ai_if h with ⟨-, h⟩ | ⟨-, h⟩
    · exact Fr.tr (Fr.si Fr.rf rfl) (fr_M_quarter_50 _ _ _ _ _ h) rfl
    · exact Fr.tr (Fr.si Fr.rf rfl) (fr_M_quarter_50 _ _ _ _ _ h) rfl
def w_M_letter : Fw := ([(89, 18), (89, 19)], [])
theorem fr_M_letter : ∀ (V : ai_V) (r : (Int32 × ai_V)), d_M_letter V = some r → Fr w_M_letter V r.2 := by
  intro V r h
  rw [d_M_letter] at h
  obtain ⟨q1, hq1, h⟩ := ai_bd h
  rcases ai_if h with ⟨-, h⟩ | ⟨-, h⟩
  · obtain ⟨q2, hq2, h⟩ := ai_bd h
    obtain ⟨q3, hq3, h⟩ := ai_bd h
    rcases ai_if h with ⟨-, h⟩ | ⟨-, h⟩
    · rcases ai_if h with ⟨-, h⟩ | ⟨-, h⟩
      · rcases ai_if h with ⟨-, h⟩ | ⟨-, h⟩
        · obtain rfl := Option.some.inj h
          exact (Fr.si Fr.rf rfl)
        · cases h
      · rcases ai_if h with ⟨-, h⟩ | ⟨-, h⟩
        · rcases ai_if h with ⟨-, h⟩ | ⟨-, h⟩
          · obtain rfl := Option.some.inj h
            exact (Fr.si Fr.rf rfl)
          · cases h
        · cases h
    · obtain ⟨q4, hq4, h⟩ := ai_bd h
      have gq4 : Fr w_M_letter V q4 := (Fr.tr Fr.rf (fr_M_fault _ _ _ hq4) rfl)
      obtain rfl := Option.some.inj h
      exact gq4
  · obtain rfl := Option.some.inj h
    exact Fr.rf
def w_M_readTurn : Fw := ([(89, 18), (89, 19), (89, 38)], [102])
theorem fr_M_readTurn_107 : ∀ (V : ai_V) (r : ai_V), d_M_readTurn_107 V = some r → Fr w_M_readTurn V r := by
  intro V r h
  rw [d_M_readTurn_107] at h
  obtain rfl := Option.some.inj h
  exact (Fr.si Fr.rf rfl)
theorem fr_M_readTurn_62 : ∀ (x1 : Int32) (V : ai_V) (r : ai_V), d_M_readTurn_62 x1 V = some r → Fr w_M_readTurn V r := by
  intro x1 V r h
  rw [d_M_readTurn_62] at h
  obtain ⟨q1, hq1, h⟩ := ai_bd h
  have gq1 : Fr w_M_readTurn V q1.2 := (Fr.tr Fr.rf (fr_M_letter _ _ hq1) rfl)
  obtain ⟨q2, hq2, h⟩ := ai_bd h
  have gq2 : Fr w_M_readTurn V q2 := (Fr.tr gq1 (fr_M_need _ _ _ hq2) rfl)
  rcases ai_if h with ⟨-, h⟩ | ⟨-, h⟩
  · exact Fr.tr (Fr.sa gq2 rfl) (fr_M_readTurn_107 _ _ h) rfl
  · cases h
theorem fr_M_readTurn : ∀ (V : ai_V) (r : ai_V), d_M_readTurn V = some r → Fr w_M_readTurn V r := by
  intro V r h
  rw [d_M_readTurn] at h
  obtain ⟨q3, hq3, h⟩ := ai_bd h
  have gq3 : Fr w_M_readTurn V q3.2 := (Fr.tr Fr.rf (fr_M_passes _ _ _ hq3) rfl)
  rcases ai_if h with ⟨-, h⟩ | ⟨-, h⟩
  · obtain ⟨q4, hq4, h⟩ := ai_bd h
    have gq4 : Fr w_M_readTurn V q4.2 := (Fr.tr gq3 (fr_M_passes _ _ _ hq4) rfl)
    rcases ai_if h with ⟨-, h⟩ | ⟨-, h⟩
    · obtain ⟨q5, hq5, h⟩ := ai_bd h
      have gq5 : Fr w_M_readTurn V q5.2 := (Fr.tr gq4 (fr_M_letter _ _ hq5) rfl)
      rcases ai_if h with ⟨-, h⟩ | ⟨-, h⟩
      · exact Fr.tr (Fr.sa gq5 rfl) (fr_M_readTurn_107 _ _ h) rfl
      · cases h
    · obtain ⟨q6, hq6, h⟩ := ai_bd h
      have gq6 : Fr w_M_readTurn V q6.2 := (Fr.tr gq4 (fr_M_letter _ _ hq6) rfl)
      obtain ⟨q7, hq7, h⟩ := ai_bd h
      rcases ai_if h with ⟨-, h⟩ | ⟨-, h⟩
      · exact Fr.tr gq6 (fr_M_readTurn_62 _ _ _ h) rfl
      · obtain ⟨q8, hq8, h⟩ := ai_bd h
        rcases ai_if h with ⟨-, h⟩ | ⟨-, h⟩
        · exact Fr.tr gq6 (fr_M_readTurn_62 _ _ _ h) rfl
        · obtain ⟨q9, hq9, h⟩ := ai_bd h
          have gq9 : Fr w_M_readTurn V q9 := (Fr.tr gq6 (fr_M_fault _ _ _ hq9) rfl)
          exact Fr.tr gq9 (fr_M_readTurn_62 _ _ _ h) rfl
  · rcases ai_if h with ⟨-, h⟩ | ⟨-, h⟩
    · exact Fr.tr (Fr.sa gq3 rfl) (fr_M_readTurn_107 _ _ h) rfl
    · cases h
def w_M_readDay : Fw := ([(89, 11), (89, 15), (89, 16), (89, 17), (89, 18), (89, 19), (89, 38)], [102])
theorem fr_M_readDay_79 : ∀ (V : ai_V) (r : (Int32 × ai_V)), d_M_readDay_79 V = some r → Fr w_M_readDay V r.2 := by
  intro V r h
  rw [d_M_readDay_79] at h
  obtain ⟨q1, hq1, h⟩ := ai_bd h
  rcases ai_if h with ⟨-, h⟩ | ⟨-, h⟩
  · obtain rfl := Option.some.inj h
    exact Fr.rf
  · obtain rfl := Option.some.inj h
    exact Fr.rf
theorem fr_M_readDay_60 : ∀ (V : ai_V) (r : (Int32 × ai_V)), d_M_readDay_60 V = some r → Fr w_M_readDay V r.2 := by
  intro V r h
  rw [d_M_readDay_60] at h
  rcases ai_if h with ⟨-, h⟩ | ⟨-, h⟩
  · exact Fr.tr Fr.rf (fr_M_readDay_79 _ _ h) rfl
  · obtain ⟨q2, hq2, h⟩ := ai_bd h
    have gq2 : Fr w_M_readDay V q2 := (Fr.tr Fr.rf (fr_M_fault _ _ _ hq2) rfl)
    exact Fr.tr gq2 (fr_M_readDay_79 _ _ h) rfl
theorem fr_M_readDay_24 : ∀ (n : Nat) (V : ai_V) (r : (Int32 × ai_V)), d_M_readDay_24 n V = some r → Fr w_M_readDay V r.2 := by
  intro n
  induction n with
  | zero =>
    intro V r h
    cases h
  | succ n ih =>
    intro V r h
    rw [d_M_readDay_24] at h
    obtain ⟨q3, hq3, h⟩ := ai_bd h
    rcases ai_if h with ⟨-, h⟩ | ⟨-, h⟩
    · exact Fr.tr Fr.rf (fr_M_readDay_60 _ _ h) rfl
    · rcases ai_if h with ⟨-, h⟩ | ⟨-, h⟩
      · exact Fr.tr Fr.rf (fr_M_readDay_60 _ _ h) rfl
      · rcases ai_if h with ⟨-, h⟩ | ⟨-, h⟩
        · exact Fr.tr Fr.rf (fr_M_readDay_60 _ _ h) rfl
        · obtain ⟨q4, hq4, h⟩ := ai_bd h
          have gq4 : Fr w_M_readDay V q4 := (Fr.tr Fr.rf (fr_M_readTurn _ _ hq4) rfl)
          exact Fr.tr gq4 (ih _ _ h) rfl
theorem fr_M_readDay : ∀ (V : ai_V) (r : (Int32 × ai_V)), d_M_readDay V = some r → Fr w_M_readDay V r.2 := by
  intro V r h
  rw [d_M_readDay] at h
  obtain ⟨q5, hq5, h⟩ := ai_bd h
  have gq5 : Fr w_M_readDay V q5 := (Fr.tr Fr.rf (fr_M_begin _ _ _ _ hq5) rfl)
  exact Fr.tr (Fr.si (Fr.si gq5 rfl) rfl) (fr_M_readDay_24 _ _ _ h) rfl
def w_M_lay_90_101 : Fw := ([], [101])
theorem fr_M_lay_90_101_2 : ∀ (n : Nat) (x2 : Int32) (x3 : Int32) (V : ai_V) (r : ai_V), d_M_lay_90_101_2 n x2 x3 V = some r → Fr w_M_lay_90_101 V r := by
  intro n
  induction n with
  | zero =>
    intro x2 x3 V r h
    cases h
  | succ n ih =>
    intro x2 x3 V r h
    rw [d_M_lay_90_101_2] at h
    rcases ai_if h with ⟨-, h⟩ | ⟨-, h⟩
    · obtain rfl := Option.some.inj h
      exact Fr.rf
    · rcases ai_if h with ⟨-, h⟩ | ⟨-, h⟩
      · rcases ai_if h with ⟨-, h⟩ | ⟨-, h⟩
        · exact Fr.tr (Fr.sa Fr.rf rfl) (ih _ _ _ _ h) rfl
        · cases h
      · cases h
theorem fr_M_lay_90_101 : ∀ (x2 : Int32) (V : ai_V) (r : ai_V), d_M_lay_90_101 x2 V = some r → Fr w_M_lay_90_101 V r := by
  intro x2 V r h
  rw [d_M_lay_90_101] at h
  exact Fr.tr Fr.rf (fr_M_lay_90_101_2 _ _ _ _ _ h) rfl
def w_M_goDay : Fw := ([(89, 13), (89, 15), (89, 16), (89, 17), (89, 18), (89, 19), (89, 23), (89, 24), (89, 25), (89, 26), (89, 27), (89, 28), (89, 29), (89, 32), (89, 33)], [90, 97])
theorem fr_M_goDay_68 : ∀ (x2 : Int32) (x3 : Int32) (x4 : Int32) (V : ai_V) (r : (Int32 × ai_V)), d_M_goDay_68 x2 x3 x4 V = some r → Fr w_M_goDay V r.2 := by
  intro x2 x3 x4 V r h
  rw [d_M_goDay_68] at h
  obtain ⟨q1, hq1, h⟩ := ai_bd h
  have gq1 : Fr w_M_goDay V q1 := (Fr.tr (Fr.si Fr.rf rfl) (fr_M_tell _ _ _ hq1) rfl)
  obtain ⟨q2, hq2, h⟩ := ai_bd h
  have gq2 : Fr w_M_goDay V q2 := (Fr.tr gq1 (fr_M_tell _ _ _ hq2) rfl)
  obtain ⟨q3, hq3, h⟩ := ai_bd h
  have gq3 : Fr w_M_goDay V q3 := (Fr.tr gq2 (fr_M_tell _ _ _ hq3) rfl)
  obtain rfl := Option.some.inj h
  exact gq3
theorem fr_M_goDay_7 : ∀ (n : Nat) (x2 : Int32) (x3 : Int32) (x4 : Int32) (V : ai_V) (r : (Int32 × ai_V)), d_M_goDay_7 n x2 x3 x4 V = some r → Fr w_M_goDay V r.2 := by
  intro n
  induction n with
  | zero =>
    intro x2 x3 x4 V r h
    cases h
  | succ n ih =>
    intro x2 x3 x4 V r h
    rw [d_M_goDay_7] at h
    rcases ai_if h with ⟨-, h⟩ | ⟨-, h⟩
    · exact Fr.tr Fr.rf (fr_M_goDay_68 _ _ _ _ _ h) rfl
    · rcases ai_if h with ⟨-, h⟩ | ⟨-, h⟩
      · obtain ⟨q4, hq4, h⟩ := ai_bd h
        rcases ai_if h with ⟨-, h⟩ | ⟨-, h⟩
        · exact Fr.tr Fr.rf (fr_M_goDay_68 _ _ _ _ _ h) rfl
        · rcases ai_if h with ⟨-, h⟩ | ⟨-, h⟩
          · obtain ⟨q5, hq5, h⟩ := ai_bd h
            have gq5 : Fr w_M_goDay V q5 := (Fr.tr Fr.rf (fr_M_goQuarter _ _ _ _ hq5) rfl)
            obtain ⟨q6, hq6, h⟩ := ai_bd h
            exact Fr.tr gq5 (ih _ _ _ _ _ h) rfl
          · cases h
      · cases h
theorem fr_M_goDay : ∀ (V : ai_V) (r : (Int32 × ai_V)), d_M_goDay V = some r → Fr w_M_goDay V r.2 := by
  intro V r h
  rw [d_M_goDay] at h
  exact Fr.tr Fr.rf (fr_M_goDay_7 _ _ _ _ _ _ h) rfl
def w_M_lay_101_100 : Fw := ([], [100])
theorem fr_M_lay_101_100_2 : ∀ (n : Nat) (x2 : Int32) (x3 : Int32) (V : ai_V) (r : ai_V), d_M_lay_101_100_2 n x2 x3 V = some r → Fr w_M_lay_101_100 V r := by
  intro n
  induction n with
  | zero =>
    intro x2 x3 V r h
    cases h
  | succ n ih =>
    intro x2 x3 V r h
    rw [d_M_lay_101_100_2] at h
    rcases ai_if h with ⟨-, h⟩ | ⟨-, h⟩
    · obtain rfl := Option.some.inj h
      exact Fr.rf
    · rcases ai_if h with ⟨-, h⟩ | ⟨-, h⟩
      · rcases ai_if h with ⟨-, h⟩ | ⟨-, h⟩
        · exact Fr.tr (Fr.sa Fr.rf rfl) (ih _ _ _ _ h) rfl
        · cases h
      · cases h
theorem fr_M_lay_101_100 : ∀ (x2 : Int32) (V : ai_V) (r : ai_V), d_M_lay_101_100 x2 V = some r → Fr w_M_lay_101_100 V r := by
  intro x2 V r h
  rw [d_M_lay_101_100] at h
  exact Fr.tr Fr.rf (fr_M_lay_101_100_2 _ _ _ _ _ h) rfl
def w_M_remember_89_101 : Fw := ([(89, 35)], [100])
theorem fr_M_remember_89_101_49 : ∀ (V : ai_V) (r : ai_V), d_M_remember_89_101_49 V = some r → Fr w_M_remember_89_101 V r := by
  intro V r h
  rw [d_M_remember_89_101_49] at h
  obtain ⟨q1, hq1, h⟩ := ai_bd h
  have gq1 : Fr w_M_remember_89_101 V q1 := (Fr.tr Fr.rf (fr_M_lay_101_100 _ _ _ hq1) rfl)
  obtain rfl := Option.some.inj h
  exact (Fr.si gq1 rfl)
theorem fr_M_remember_89_101_11 : ∀ (n : Nat) (x2 : Int32) (V : ai_V) (r : ai_V), d_M_remember_89_101_11 n x2 V = some r → Fr w_M_remember_89_101 V r := by
  intro n
  induction n with
  | zero =>
    intro x2 V r h
    cases h
  | succ n ih =>
    intro x2 V r h
    rw [d_M_remember_89_101_11] at h
    rcases ai_if h with ⟨-, h⟩ | ⟨-, h⟩
    · exact Fr.tr (Fr.si Fr.rf rfl) (fr_M_remember_89_101_49 _ _ h) rfl
    · rcases ai_if h with ⟨-, h⟩ | ⟨-, h⟩
      · rcases ai_if h with ⟨-, h⟩ | ⟨-, h⟩
        · exact Fr.tr (Fr.sa Fr.rf rfl) (ih _ _ _ h) rfl
        · cases h
      · cases h
theorem fr_M_remember_89_101 : ∀ (V : ai_V) (r : ai_V), d_M_remember_89_101 V = some r → Fr w_M_remember_89_101 V r := by
  intro V r h
  rw [d_M_remember_89_101] at h
  rcases ai_if h with ⟨-, h⟩ | ⟨-, h⟩
  · exact Fr.tr Fr.rf (fr_M_remember_89_101_49 _ _ h) rfl
  · exact Fr.tr Fr.rf (fr_M_remember_89_101_11 _ _ _ _ h) rfl
def w_M_day : Fw := ([(89, 11), (89, 13), (89, 14), (89, 15), (89, 16), (89, 17), (89, 18), (89, 19), (89, 23), (89, 24), (89, 25), (89, 26), (89, 27), (89, 28), (89, 29), (89, 32), (89, 33), (89, 35), (89, 38)], [90, 97, 100, 101, 102])
theorem fr_M_day : ∀ (V : ai_V) (r : (Int32 × ai_V)), d_M_day V = some r → Fr w_M_day V r.2 := by
  intro V r h
  rw [d_M_day] at h
  obtain ⟨q1, hq1, h⟩ := ai_bd h
  have gq1 : Fr w_M_day V q1.2 := (Fr.tr (Fr.si Fr.rf rfl) (fr_M_readDay _ _ hq1) rfl)
  rcases ai_if h with ⟨-, h⟩ | ⟨-, h⟩
  · obtain ⟨q2, hq2, h⟩ := ai_bd h
    have gq2 : Fr w_M_day V q2 := (Fr.tr gq1 (fr_M_lay_90_101 _ _ _ hq2) rfl)
    obtain ⟨q3, hq3, h⟩ := ai_bd h
    have gq3 : Fr w_M_day V q3.2 := (Fr.tr gq2 (fr_M_goDay _ _ hq3) rfl)
    rcases ai_if h with ⟨-, h⟩ | ⟨-, h⟩
    · obtain rfl := Option.some.inj h
      exact gq3
    · obtain ⟨q4, hq4, h⟩ := ai_bd h
      have gq4 : Fr w_M_day V q4 := (Fr.tr gq3 (fr_M_remember_89_101 _ _ hq4) rfl)
      obtain rfl := Option.some.inj h
      exact gq4
  · obtain rfl := Option.some.inj h
    exact gq1
def w_M_lay_90_103 : Fw := ([], [103])
theorem fr_M_lay_90_103_2 : ∀ (n : Nat) (x2 : Int32) (x3 : Int32) (V : ai_V) (r : ai_V), d_M_lay_90_103_2 n x2 x3 V = some r → Fr w_M_lay_90_103 V r := by
  intro n
  induction n with
  | zero =>
    intro x2 x3 V r h
    cases h
  | succ n ih =>
    intro x2 x3 V r h
    rw [d_M_lay_90_103_2] at h
    rcases ai_if h with ⟨-, h⟩ | ⟨-, h⟩
    · obtain rfl := Option.some.inj h
      exact Fr.rf
    · rcases ai_if h with ⟨-, h⟩ | ⟨-, h⟩
      · rcases ai_if h with ⟨-, h⟩ | ⟨-, h⟩
        · exact Fr.tr (Fr.sa Fr.rf rfl) (ih _ _ _ _ h) rfl
        · cases h
      · cases h
theorem fr_M_lay_90_103 : ∀ (x2 : Int32) (V : ai_V) (r : ai_V), d_M_lay_90_103 x2 V = some r → Fr w_M_lay_90_103 V r := by
  intro x2 V r h
  rw [d_M_lay_90_103] at h
  exact Fr.tr Fr.rf (fr_M_lay_90_103_2 _ _ _ _ _ h) rfl
def w_M_goQuarter_89_103 : Fw := ([(89, 15), (89, 16), (89, 17), (89, 18), (89, 19), (89, 23), (89, 24), (89, 25), (89, 26), (89, 27), (89, 28), (89, 29), (89, 32), (89, 33)], [103])
theorem fr_M_goQuarter_89_103_163 : ∀ (n : Nat) (x4 : Int32) (V : ai_V) (r : ai_V), d_M_goQuarter_89_103_163 n x4 V = some r → Fr w_M_goQuarter_89_103 V r := by
  intro n
  induction n with
  | zero =>
    intro x4 V r h
    cases h
  | succ n ih =>
    intro x4 V r h
    rw [d_M_goQuarter_89_103_163] at h
    rcases ai_if h with ⟨-, h⟩ | ⟨-, h⟩
    · obtain rfl := Option.some.inj h
      exact Fr.rf
    · rcases ai_if h with ⟨-, h⟩ | ⟨-, h⟩
      · rcases ai_if h with ⟨-, h⟩ | ⟨-, h⟩
        · rcases ai_if h with ⟨-, h⟩ | ⟨-, h⟩
          · exact Fr.tr (Fr.sa Fr.rf rfl) (ih _ _ _ h) rfl
          · cases h
        · cases h
      · cases h
theorem fr_M_goQuarter_89_103_136 {F104 : Int32 → ai_V → Option ai_V} (hF104 : ∀ y0 V r, F104 y0 V = some r → Fr w_M_goQuarter_89_103 V r) : ∀ (x4 : Int32) (V : ai_V) (r : ai_V), d_M_goQuarter_89_103_136 F104 x4 V = some r → Fr w_M_goQuarter_89_103 V r := by
  intro x4 V r h
  rw [d_M_goQuarter_89_103_136] at h
  exact Fr.tr Fr.rf (hF104 _ _ _ h) rfl
theorem fr_M_goQuarter_89_103_104 : ∀ (n : Nat) (x4 : Int32) (V : ai_V) (r : ai_V), d_M_goQuarter_89_103_104 n x4 V = some r → Fr w_M_goQuarter_89_103 V r := by
  intro n
  induction n with
  | zero =>
    intro x4 V r h
    cases h
  | succ n ih =>
    intro x4 V r h
    rw [d_M_goQuarter_89_103_104] at h
    rcases ai_if h with ⟨-, h⟩ | ⟨-, h⟩
    · rcases ai_if h with ⟨-, h⟩ | ⟨-, h⟩
      · obtain rfl := Option.some.inj h
        exact (Fr.sa Fr.rf rfl)
      · exact Fr.tr (Fr.sa Fr.rf rfl) (fr_M_goQuarter_89_103_163 _ _ _ _ h) rfl
    · obtain ⟨q1, hq1, h⟩ := ai_bd h
      rcases ai_if h with ⟨-, h⟩ | ⟨-, h⟩
      · exact Fr.tr Fr.rf (fr_M_goQuarter_89_103_136 ih _ _ _ h) rfl
      · rcases ai_if h with ⟨-, h⟩ | ⟨-, h⟩
        · rcases ai_if h with ⟨-, h⟩ | ⟨-, h⟩
          · exact Fr.tr (Fr.sa Fr.rf rfl) (fr_M_goQuarter_89_103_136 ih _ _ _ h) rfl
          · cases h
        · cases h
theorem fr_M_goQuarter_89_103_69 {F39 : Int32 → Int32 → ai_V → Option ai_V} (hF39 : ∀ y0 y1 V r, F39 y0 y1 V = some r → Fr w_M_goQuarter_89_103 V r) : ∀ (x2 : Int32) (x4 : Int32) (V : ai_V) (r : ai_V), d_M_goQuarter_89_103_69 F39 x2 x4 V = some r → Fr w_M_goQuarter_89_103 V r := by
  intro x2 x4 V r h
  rw [d_M_goQuarter_89_103_69] at h
  exact Fr.tr Fr.rf (hF39 _ _ _ _ h) rfl
theorem fr_M_goQuarter_89_103_39 : ∀ (n : Nat) (x2 : Int32) (x4 : Int32) (V : ai_V) (r : ai_V), d_M_goQuarter_89_103_39 n x2 x4 V = some r → Fr w_M_goQuarter_89_103 V r := by
  intro n
  induction n with
  | zero =>
    intro x2 x4 V r h
    cases h
  | succ n ih =>
    intro x2 x4 V r h
    rw [d_M_goQuarter_89_103_39] at h
    rcases ai_if h with ⟨-, h⟩ | ⟨-, h⟩
    · obtain ⟨q2, hq2, h⟩ := ai_bd h
      have gq2 : Fr w_M_goQuarter_89_103 V q2.2 := (Fr.tr Fr.rf (fr_M_takes _ _ _ _ hq2) rfl)
      exact Fr.tr (Fr.sa gq2 rfl) (fr_M_goQuarter_89_103_104 _ _ _ _ h) rfl
    · obtain ⟨q3, hq3, h⟩ := ai_bd h
      rcases ai_if h with ⟨-, h⟩ | ⟨-, h⟩
      · exact Fr.tr Fr.rf (fr_M_goQuarter_89_103_69 ih _ _ _ _ h) rfl
      · rcases ai_if h with ⟨-, h⟩ | ⟨-, h⟩
        · obtain ⟨q4, hq4, h⟩ := ai_bd h
          rcases ai_if h with ⟨-, h⟩ | ⟨-, h⟩
          · exact Fr.tr (Fr.sa Fr.rf rfl) (fr_M_goQuarter_89_103_69 ih _ _ _ _ h) rfl
          · cases h
        · cases h
theorem fr_M_goQuarter_89_103 : ∀ (x2 : Int32) (x3 : Int32) (V : ai_V) (r : ai_V), d_M_goQuarter_89_103 x2 x3 V = some r → Fr w_M_goQuarter_89_103 V r := by
  intro x2 x3 V r h
  rw [d_M_goQuarter_89_103] at h
  obtain ⟨q5, hq5, h⟩ := ai_bd h
  have gq5 : Fr w_M_goQuarter_89_103 V q5.2 := (Fr.tr Fr.rf (fr_M_liftOfAll _ _ _ _ _ hq5) rfl)
  exact Fr.tr (Fr.si (Fr.si gq5 rfl) rfl) (fr_M_goQuarter_89_103_39 _ _ _ _ _ h) rfl
def w_M_goDay_89_103 : Fw := ([(89, 13), (89, 15), (89, 16), (89, 17), (89, 18), (89, 19), (89, 23), (89, 24), (89, 25), (89, 26), (89, 27), (89, 28), (89, 29), (89, 32), (89, 33)], [97, 103])
theorem fr_M_goDay_89_103_68 : ∀ (x2 : Int32) (x3 : Int32) (x4 : Int32) (V : ai_V) (r : (Int32 × ai_V)), d_M_goDay_89_103_68 x2 x3 x4 V = some r → Fr w_M_goDay_89_103 V r.2 := by
  intro x2 x3 x4 V r h
  rw [d_M_goDay_89_103_68] at h
  obtain ⟨q1, hq1, h⟩ := ai_bd h
  have gq1 : Fr w_M_goDay_89_103 V q1 := (Fr.tr (Fr.si Fr.rf rfl) (fr_M_tell _ _ _ hq1) rfl)
  obtain ⟨q2, hq2, h⟩ := ai_bd h
  have gq2 : Fr w_M_goDay_89_103 V q2 := (Fr.tr gq1 (fr_M_tell _ _ _ hq2) rfl)
  obtain ⟨q3, hq3, h⟩ := ai_bd h
  have gq3 : Fr w_M_goDay_89_103 V q3 := (Fr.tr gq2 (fr_M_tell _ _ _ hq3) rfl)
  obtain rfl := Option.some.inj h
  exact gq3
theorem fr_M_goDay_89_103_7 : ∀ (n : Nat) (x2 : Int32) (x3 : Int32) (x4 : Int32) (V : ai_V) (r : (Int32 × ai_V)), d_M_goDay_89_103_7 n x2 x3 x4 V = some r → Fr w_M_goDay_89_103 V r.2 := by
  intro n
  induction n with
  | zero =>
    intro x2 x3 x4 V r h
    cases h
  | succ n ih =>
    intro x2 x3 x4 V r h
    rw [d_M_goDay_89_103_7] at h
    rcases ai_if h with ⟨-, h⟩ | ⟨-, h⟩
    · exact Fr.tr Fr.rf (fr_M_goDay_89_103_68 _ _ _ _ _ h) rfl
    · rcases ai_if h with ⟨-, h⟩ | ⟨-, h⟩
      · obtain ⟨q4, hq4, h⟩ := ai_bd h
        rcases ai_if h with ⟨-, h⟩ | ⟨-, h⟩
        · exact Fr.tr Fr.rf (fr_M_goDay_89_103_68 _ _ _ _ _ h) rfl
        · rcases ai_if h with ⟨-, h⟩ | ⟨-, h⟩
          · obtain ⟨q5, hq5, h⟩ := ai_bd h
            have gq5 : Fr w_M_goDay_89_103 V q5 := (Fr.tr Fr.rf (fr_M_goQuarter_89_103 _ _ _ _ hq5) rfl)
            obtain ⟨q6, hq6, h⟩ := ai_bd h
            exact Fr.tr gq5 (ih _ _ _ _ _ h) rfl
          · cases h
      · cases h
theorem fr_M_goDay_89_103 : ∀ (V : ai_V) (r : (Int32 × ai_V)), d_M_goDay_89_103 V = some r → Fr w_M_goDay_89_103 V r.2 := by
  intro V r h
  rw [d_M_goDay_89_103] at h
  exact Fr.tr Fr.rf (fr_M_goDay_89_103_7 _ _ _ _ _ _ h) rfl
def w_M_look : Fw := ([(89, 11), (89, 13), (89, 14), (89, 15), (89, 16), (89, 17), (89, 18), (89, 19), (89, 23), (89, 24), (89, 25), (89, 26), (89, 27), (89, 28), (89, 29), (89, 32), (89, 33), (89, 38)], [97, 102, 103])
theorem fr_M_look : ∀ (V : ai_V) (r : (Int32 × ai_V)), d_M_look V = some r → Fr w_M_look V r.2 := by
  intro V r h
  rw [d_M_look] at h
  obtain ⟨q1, hq1, h⟩ := ai_bd h
  have gq1 : Fr w_M_look V q1.2 := (Fr.tr (Fr.si Fr.rf rfl) (fr_M_readDay _ _ hq1) rfl)
  rcases ai_if h with ⟨-, h⟩ | ⟨-, h⟩
  · obtain ⟨q2, hq2, h⟩ := ai_bd h
    have gq2 : Fr w_M_look V q2 := (Fr.tr gq1 (fr_M_lay_90_103 _ _ _ hq2) rfl)
    obtain ⟨q3, hq3, h⟩ := ai_bd h
    have gq3 : Fr w_M_look V q3.2 := (Fr.tr gq2 (fr_M_goDay_89_103 _ _ hq3) rfl)
    obtain rfl := Option.some.inj h
    exact gq3
  · obtain rfl := Option.some.inj h
    exact gq1
def w_M_undo : Fw := ([(89, 14), (89, 35)], [90])
theorem fr_M_undo_26 : ∀ (n : Nat) (x1 : Int32) (V : ai_V) (r : (Int32 × ai_V)), d_M_undo_26 n x1 V = some r → Fr w_M_undo V r.2 := by
  intro n
  induction n with
  | zero =>
    intro x1 V r h
    cases h
  | succ n ih =>
    intro x1 V r h
    rw [d_M_undo_26] at h
    rcases ai_if h with ⟨-, h⟩ | ⟨-, h⟩
    · obtain rfl := Option.some.inj h
      exact (Fr.sa Fr.rf rfl)
    · rcases ai_if h with ⟨-, h⟩ | ⟨-, h⟩
      · rcases ai_if h with ⟨-, h⟩ | ⟨-, h⟩
        · exact Fr.tr (Fr.sa Fr.rf rfl) (ih _ _ _ h) rfl
        · cases h
      · cases h
theorem fr_M_undo : ∀ (V : ai_V) (r : (Int32 × ai_V)), d_M_undo V = some r → Fr w_M_undo V r.2 := by
  intro V r h
  rw [d_M_undo] at h
  rcases ai_if h with ⟨-, h⟩ | ⟨-, h⟩
  · exact Fr.tr (Fr.si (Fr.si Fr.rf rfl) rfl) (fr_M_undo_26 _ _ _ _ h) rfl
  · obtain rfl := Option.some.inj h
    exact (Fr.si Fr.rf rfl)
def w_M_leftBy : Fw := ([(89, 15), (89, 16), (89, 17), (89, 18), (89, 19), (89, 23), (89, 24), (89, 25), (89, 26), (89, 27), (89, 28), (89, 29)], [])
theorem fr_M_leftBy_144 : ∀ (s0 : Int32) (s1 : Int32) (V : ai_V) (r : (Int32 × ai_V)), d_M_leftBy_144 s0 s1 V = some r → Fr w_M_leftBy V r.2 := by
  intro s0 s1 V r h
  rw [d_M_leftBy_144] at h
  obtain rfl := Option.some.inj h
  exact Fr.rf
theorem fr_M_leftBy_113 : ∀ (x4 : Int32) (x8 : Int32) (s0 : Int32) (V : ai_V) (r : (Int32 × ai_V)), d_M_leftBy_113 x4 x8 s0 V = some r → Fr w_M_leftBy V r.2 := by
  intro x4 x8 s0 V r h
  rw [d_M_leftBy_113] at h
  rcases ai_if h with ⟨-, h⟩ | ⟨-, h⟩
  · exact Fr.tr Fr.rf (fr_M_leftBy_144 _ _ _ _ h) rfl
  · obtain ⟨q1, hq1, h⟩ := ai_bd h
    exact Fr.tr Fr.rf (fr_M_leftBy_144 _ _ _ _ h) rfl
theorem fr_M_leftBy_74 : ∀ (x1 : Int32) (x3 : Int32) (x4 : Int32) (x7 : Int32) (V : ai_V) (r : (Int32 × ai_V)), d_M_leftBy_74 x1 x3 x4 x7 V = some r → Fr w_M_leftBy V r.2 := by
  intro x1 x3 x4 x7 V r h
  rw [d_M_leftBy_74] at h
  rcases ai_if h with ⟨-, h⟩ | ⟨-, h⟩
  · rcases ai_if h with ⟨-, h⟩ | ⟨-, h⟩
    · rcases ai_if h with ⟨-, h⟩ | ⟨-, h⟩
      · exact Fr.tr Fr.rf (fr_M_leftBy_113 _ _ _ _ _ h) rfl
      · exact Fr.tr Fr.rf (fr_M_leftBy_113 _ _ _ _ _ h) rfl
    · obtain rfl := Option.some.inj h
      exact Fr.rf
  · cases h
theorem fr_M_leftBy_12 : ∀ (x1 : Int32) (x2 : Int32) (x3 : Int32) (x4 : Int32) (s0 : Int32) (V : ai_V) (r : (Int32 × ai_V)), d_M_leftBy_12 x1 x2 x3 x4 s0 V = some r → Fr w_M_leftBy V r.2 := by
  intro x1 x2 x3 x4 s0 V r h
  rw [d_M_leftBy_12] at h
  obtain ⟨q2, hq2, h⟩ := ai_bd h
  have gq2 : Fr w_M_leftBy V q2.2 := (Fr.tr Fr.rf (fr_M_liftOfAll _ _ _ _ _ hq2) rfl)
  obtain ⟨q3, hq3, h⟩ := ai_bd h
  have gq3 : Fr w_M_leftBy V q3.2 := (Fr.tr gq2 (fr_M_takes _ _ _ _ hq3) rfl)
  rcases ai_if h with ⟨-, h⟩ | ⟨-, h⟩
  · exact Fr.tr gq3 (fr_M_leftBy_74 _ _ _ _ _ _ h) rfl
  · rcases ai_if h with ⟨-, h⟩ | ⟨-, h⟩
    · exact Fr.tr gq3 (fr_M_leftBy_74 _ _ _ _ _ _ h) rfl
    · obtain rfl := Option.some.inj h
      exact gq3
theorem fr_M_leftBy : ∀ (x1 : Int32) (x2 : Int32) (x3 : Int32) (x4 : Int32) (V : ai_V) (r : (Int32 × ai_V)), d_M_leftBy x1 x2 x3 x4 V = some r → Fr w_M_leftBy V r.2 := by
  intro x1 x2 x3 x4 V r h
  rw [d_M_leftBy] at h
  rcases ai_if h with ⟨-, h⟩ | ⟨-, h⟩
  · exact Fr.tr Fr.rf (fr_M_leftBy_12 _ _ _ _ _ _ _ h) rfl
  · exact Fr.tr Fr.rf (fr_M_leftBy_12 _ _ _ _ _ _ _ h) rfl
def w_M_layRows : Fw := ([(89, 15), (89, 16), (89, 17), (89, 18), (89, 19), (89, 23), (89, 24), (89, 25), (89, 26), (89, 27), (89, 28), (89, 29)], [104])
theorem fr_M_layRows_118 {F50 : Int32 → Int32 → Int32 → ai_V → Option ai_V} {F58 : Int32 → Int32 → Int32 → Int32 → ai_V → Option ai_V} {F82 : Int32 → Int32 → Int32 → Int32 → Int32 → Int32 → ai_V → Option ai_V} (hF50 : ∀ y0 y1 y2 V r, F50 y0 y1 y2 V = some r → Fr w_M_layRows V r) (hF58 : ∀ y0 y1 y2 y3 V r, F58 y0 y1 y2 y3 V = some r → Fr w_M_layRows V r) (hF82 : ∀ y0 y1 y2 y3 y4 y5 V r, F82 y0 y1 y2 y3 y4 y5 V = some r → Fr w_M_layRows V r) : ∀ (x1 : Int32) (x3 : Int32) (x4 : Int32) (x5 : Int32) (x6 : Int32) (x7 : Int32) (V : ai_V) (r : ai_V), d_M_layRows_118 F50 F58 F82 x1 x3 x4 x5 x6 x7 V = some r → Fr w_M_layRows V r := by
  intro x1 x3 x4 x5 x6 x7 V r h
  rw [d_M_layRows_118] at h
  exact Fr.tr Fr.rf (hF82 _ _ _ _ _ _ _ _ h) rfl
theorem fr_M_layRows_82 {F50 : Int32 → Int32 → Int32 → ai_V → Option ai_V} {F58 : Int32 → Int32 → Int32 → Int32 → ai_V → Option ai_V} (hF50 : ∀ y0 y1 y2 V r, F50 y0 y1 y2 V = some r → Fr w_M_layRows V r) (hF58 : ∀ y0 y1 y2 y3 V r, F58 y0 y1 y2 y3 V = some r → Fr w_M_layRows V r) : ∀ (n : Nat) (x1 : Int32) (x3 : Int32) (x4 : Int32) (x5 : Int32) (x6 : Int32) (x7 : Int32) (V : ai_V) (r : ai_V), d_M_layRows_82 F50 F58 n x1 x3 x4 x5 x6 x7 V = some r → Fr w_M_layRows V r := by
  intro n
  induction n with
  | zero =>
    intro x1 x3 x4 x5 x6 x7 V r h
    cases h
  | succ n ih =>
    intro x1 x3 x4 x5 x6 x7 V r h
    rw [d_M_layRows_82] at h
    rcases ai_if h with ⟨-, h⟩ | ⟨-, h⟩
    · rcases ai_if h with ⟨-, h⟩ | ⟨-, h⟩
      · exact Fr.tr (Fr.sa Fr.rf rfl) (hF58 _ _ _ _ _ _ h) rfl
      · cases h
    · obtain ⟨q1, hq1, h⟩ := ai_bd h
      rcases ai_if h with ⟨-, h⟩ | ⟨-, h⟩
      · exact Fr.tr Fr.rf (fr_M_layRows_118 hF50 hF58 ih _ _ _ _ _ _ _ _ h) rfl
      · obtain ⟨q2, hq2, h⟩ := ai_bd h
        have gq2 : Fr w_M_layRows V q2.2 := (Fr.tr Fr.rf (fr_M_leftBy _ _ _ _ _ _ hq2) rfl)
        exact Fr.tr gq2 (fr_M_layRows_118 hF50 hF58 ih _ _ _ _ _ _ _ _ h) rfl
theorem fr_M_layRows_58 {F50 : Int32 → Int32 → Int32 → ai_V → Option ai_V} (hF50 : ∀ y0 y1 y2 V r, F50 y0 y1 y2 V = some r → Fr w_M_layRows V r) : ∀ (n : Nat) (x1 : Int32) (x3 : Int32) (x4 : Int32) (x5 : Int32) (V : ai_V) (r : ai_V), d_M_layRows_58 F50 n x1 x3 x4 x5 V = some r → Fr w_M_layRows V r := by
  intro n
  induction n with
  | zero =>
    intro x1 x3 x4 x5 V r h
    cases h
  | succ n ih =>
    intro x1 x3 x4 x5 V r h
    rw [d_M_layRows_58] at h
    rcases ai_if h with ⟨-, h⟩ | ⟨-, h⟩
    · exact Fr.tr Fr.rf (hF50 _ _ _ _ _ h) rfl
    · obtain ⟨q3, hq3, h⟩ := ai_bd h
      have gq3 : Fr w_M_layRows V q3.2 := (Fr.tr Fr.rf (fr_M_leftBy _ _ _ _ _ _ hq3) rfl)
      exact Fr.tr gq3 (fr_M_layRows_82 hF50 ih _ _ _ _ _ _ _ _ _ h) rfl
theorem fr_M_layRows_50 : ∀ (n : Nat) (x1 : Int32) (x3 : Int32) (x4 : Int32) (V : ai_V) (r : ai_V), d_M_layRows_50 n x1 x3 x4 V = some r → Fr w_M_layRows V r := by
  intro n
  induction n with
  | zero =>
    intro x1 x3 x4 V r h
    cases h
  | succ n ih =>
    intro x1 x3 x4 V r h
    rw [d_M_layRows_50] at h
    rcases ai_if h with ⟨-, h⟩ | ⟨-, h⟩
    · obtain rfl := Option.some.inj h
      exact Fr.rf
    · exact Fr.tr Fr.rf (fr_M_layRows_58 ih _ _ _ _ _ _ _ h) rfl
theorem fr_M_layRows_38 {F3 : Int32 → Int32 → Int32 → Int32 → ai_V → Option ai_V} (hF3 : ∀ y0 y1 y2 y3 V r, F3 y0 y1 y2 y3 V = some r → Fr w_M_layRows V r) : ∀ (x1 : Int32) (x2 : Int32) (x3 : Int32) (x4 : Int32) (s0 : Int32) (s1 : Int32) (V : ai_V) (r : ai_V), d_M_layRows_38 F3 x1 x2 x3 x4 s0 s1 V = some r → Fr w_M_layRows V r := by
  intro x1 x2 x3 x4 s0 s1 V r h
  rw [d_M_layRows_38] at h
  rcases ai_if h with ⟨-, h⟩ | ⟨-, h⟩
  · exact Fr.tr (Fr.sa Fr.rf rfl) (hF3 _ _ _ _ _ _ h) rfl
  · cases h
theorem fr_M_layRows_3 : ∀ (n : Nat) (x1 : Int32) (x2 : Int32) (x3 : Int32) (x4 : Int32) (V : ai_V) (r : ai_V), d_M_layRows_3 n x1 x2 x3 x4 V = some r → Fr w_M_layRows V r := by
  intro n
  induction n with
  | zero =>
    intro x1 x2 x3 x4 V r h
    cases h
  | succ n ih =>
    intro x1 x2 x3 x4 V r h
    rw [d_M_layRows_3] at h
    rcases ai_if h with ⟨-, h⟩ | ⟨-, h⟩
    · exact Fr.tr Fr.rf (fr_M_layRows_50 _ _ _ _ _ _ h) rfl
    · rcases ai_if h with ⟨-, h⟩ | ⟨-, h⟩
      · exact Fr.tr Fr.rf (fr_M_layRows_38 ih _ _ _ _ _ _ _ _ h) rfl
      · exact Fr.tr Fr.rf (fr_M_layRows_38 ih _ _ _ _ _ _ _ _ h) rfl
theorem fr_M_layRows : ∀ (x1 : Int32) (x2 : Int32) (x3 : Int32) (V : ai_V) (r : ai_V), d_M_layRows x1 x2 x3 V = some r → Fr w_M_layRows V r := by
  intro x1 x2 x3 V r h
  rw [d_M_layRows] at h
  exact Fr.tr Fr.rf (fr_M_layRows_3 _ _ _ _ _ _ _ h) rfl
def w_M_tellRow : Fw := ([(89, 13), (89, 15), (89, 16), (89, 17), (89, 18), (89, 19), (89, 23), (89, 24), (89, 25), (89, 26), (89, 27), (89, 28), (89, 29)], [97])
theorem fr_M_tellRow_104 {F17 : Int32 → Int32 → Int32 → Int32 → Int32 → ai_V → Option ai_V} (hF17 : ∀ y0 y1 y2 y3 y4 V r, F17 y0 y1 y2 y3 y4 V = some r → Fr w_M_tellRow V r) : ∀ (x1 : Int32) (x2 : Int32) (x3 : Int32) (x4 : Int32) (x5 : Int32) (s0 : Int32) (s2 : Int32) (s3 : Int32) (V : ai_V) (r : ai_V), d_M_tellRow_104 F17 x1 x2 x3 x4 x5 s0 s2 s3 V = some r → Fr w_M_tellRow V r := by
  intro x1 x2 x3 x4 x5 s0 s2 s3 V r h
  rw [d_M_tellRow_104] at h
  obtain ⟨q1, hq1, h⟩ := ai_bd h
  have gq1 : Fr w_M_tellRow V q1.2 := (Fr.tr Fr.rf (fr_M_liftOfAll _ _ _ _ _ hq1) rfl)
  obtain ⟨q2, hq2, h⟩ := ai_bd h
  have gq2 : Fr w_M_tellRow V q2.2 := (Fr.tr gq1 (fr_M_takes _ _ _ _ hq2) rfl)
  exact Fr.tr gq2 (hF17 _ _ _ _ _ _ _ h) rfl
theorem fr_M_tellRow_69 {F17 : Int32 → Int32 → Int32 → Int32 → Int32 → ai_V → Option ai_V} {F26 : Int32 → Int32 → Int32 → Int32 → Int32 → Int32 → ai_V → Option ai_V} (hF17 : ∀ y0 y1 y2 y3 y4 V r, F17 y0 y1 y2 y3 y4 V = some r → Fr w_M_tellRow V r) (hF26 : ∀ y0 y1 y2 y3 y4 y5 V r, F26 y0 y1 y2 y3 y4 y5 V = some r → Fr w_M_tellRow V r) : ∀ (x1 : Int32) (x2 : Int32) (x3 : Int32) (x4 : Int32) (x5 : Int32) (x6 : Int32) (V : ai_V) (r : ai_V), d_M_tellRow_69 F17 F26 x1 x2 x3 x4 x5 x6 V = some r → Fr w_M_tellRow V r := by
  intro x1 x2 x3 x4 x5 x6 V r h
  rw [d_M_tellRow_69] at h
  exact Fr.tr Fr.rf (hF26 _ _ _ _ _ _ _ _ h) rfl
theorem fr_M_tellRow_41 {F17 : Int32 → Int32 → Int32 → Int32 → Int32 → ai_V → Option ai_V} {F26 : Int32 → Int32 → Int32 → Int32 → Int32 → Int32 → ai_V → Option ai_V} (hF17 : ∀ y0 y1 y2 y3 y4 V r, F17 y0 y1 y2 y3 y4 V = some r → Fr w_M_tellRow V r) (hF26 : ∀ y0 y1 y2 y3 y4 y5 V r, F26 y0 y1 y2 y3 y4 y5 V = some r → Fr w_M_tellRow V r) : ∀ (x1 : Int32) (x2 : Int32) (x3 : Int32) (x4 : Int32) (x5 : Int32) (x6 : Int32) (V : ai_V) (r : ai_V), d_M_tellRow_41 F17 F26 x1 x2 x3 x4 x5 x6 V = some r → Fr w_M_tellRow V r := by
  intro x1 x2 x3 x4 x5 x6 V r h
  rw [d_M_tellRow_41] at h
  obtain ⟨q3, hq3, h⟩ := ai_bd h
  have gq3 : Fr w_M_tellRow V q3.2 := (Fr.tr Fr.rf (fr_M_leftBy _ _ _ _ _ _ hq3) rfl)
  rcases ai_if h with ⟨-, h⟩ | ⟨-, h⟩
  · rcases ai_if h with ⟨-, h⟩ | ⟨-, h⟩
    · obtain ⟨q4, hq4, h⟩ := ai_bd h
      have gq4 : Fr w_M_tellRow V q4 := (Fr.tr gq3 (fr_M_tell _ _ _ hq4) rfl)
      rcases ai_if h with ⟨-, h⟩ | ⟨-, h⟩
      · exact Fr.tr gq4 (fr_M_tellRow_104 hF17 _ _ _ _ _ _ _ _ _ _ h) rfl
      · exact Fr.tr gq4 (fr_M_tellRow_104 hF17 _ _ _ _ _ _ _ _ _ _ h) rfl
    · exact Fr.tr gq3 (fr_M_tellRow_69 hF17 hF26 _ _ _ _ _ _ _ _ h) rfl
  · cases h
theorem fr_M_tellRow_26 {F17 : Int32 → Int32 → Int32 → Int32 → Int32 → ai_V → Option ai_V} (hF17 : ∀ y0 y1 y2 y3 y4 V r, F17 y0 y1 y2 y3 y4 V = some r → Fr w_M_tellRow V r) : ∀ (n : Nat) (x1 : Int32) (x2 : Int32) (x3 : Int32) (x4 : Int32) (x5 : Int32) (x6 : Int32) (V : ai_V) (r : ai_V), d_M_tellRow_26 F17 n x1 x2 x3 x4 x5 x6 V = some r → Fr w_M_tellRow V r := by
  intro n
  induction n with
  | zero =>
    intro x1 x2 x3 x4 x5 x6 V r h
    cases h
  | succ n ih =>
    intro x1 x2 x3 x4 x5 x6 V r h
    rw [d_M_tellRow_26] at h
    rcases ai_if h with ⟨-, h⟩ | ⟨-, h⟩
    · exact Fr.tr Fr.rf (fr_M_tellRow_41 hF17 ih _ _ _ _ _ _ _ _ h) rfl
    · obtain ⟨q5, hq5, h⟩ := ai_bd h
      rcases ai_if h with ⟨-, h⟩ | ⟨-, h⟩
      · exact Fr.tr Fr.rf (fr_M_tellRow_69 hF17 ih _ _ _ _ _ _ _ _ h) rfl
      · exact Fr.tr Fr.rf (fr_M_tellRow_41 hF17 ih _ _ _ _ _ _ _ _ h) rfl
theorem fr_M_tellRow_17 : ∀ (n : Nat) (x1 : Int32) (x2 : Int32) (x3 : Int32) (x4 : Int32) (x5 : Int32) (V : ai_V) (r : ai_V), d_M_tellRow_17 n x1 x2 x3 x4 x5 V = some r → Fr w_M_tellRow V r := by
  intro n
  induction n with
  | zero =>
    intro x1 x2 x3 x4 x5 V r h
    cases h
  | succ n ih =>
    intro x1 x2 x3 x4 x5 V r h
    rw [d_M_tellRow_17] at h
    rcases ai_if h with ⟨-, h⟩ | ⟨-, h⟩
    · obtain rfl := Option.some.inj h
      exact Fr.rf
    · exact Fr.tr Fr.rf (fr_M_tellRow_26 ih _ _ _ _ _ _ _ _ _ h) rfl
theorem fr_M_tellRow : ∀ (x1 : Int32) (x2 : Int32) (x3 : Int32) (V : ai_V) (r : ai_V), d_M_tellRow x1 x2 x3 V = some r → Fr w_M_tellRow V r := by
  intro x1 x2 x3 V r h
  rw [d_M_tellRow] at h
  exact Fr.tr (Fr.si Fr.rf rfl) (fr_M_tellRow_17 _ _ _ _ _ _ _ _ h) rfl
def w_M_fewest : Fw := ([(89, 13), (89, 14), (89, 15), (89, 16), (89, 17), (89, 18), (89, 19), (89, 23), (89, 24), (89, 25), (89, 26), (89, 27), (89, 28), (89, 29)], [97, 104])
theorem fr_M_fewest : ∀ (x1 : Int32) (x2 : Int32) (V : ai_V) (r : (Int32 × ai_V)), d_M_fewest x1 x2 V = some r → Fr w_M_fewest V r.2 := by
  intro x1 x2 V r h
  rw [d_M_fewest] at h
  obtain ⟨q1, hq1, h⟩ := ai_bd h
  rcases ai_if h with ⟨-, h⟩ | ⟨-, h⟩
  · obtain rfl := Option.some.inj h
    exact (Fr.si Fr.rf rfl)
  · obtain ⟨q2, hq2, h⟩ := ai_bd h
    rcases ai_if h with ⟨-, h⟩ | ⟨-, h⟩
    · obtain ⟨q3, hq3, h⟩ := ai_bd h
      have gq3 : Fr w_M_fewest V q3 := (Fr.tr (Fr.si Fr.rf rfl) (fr_M_layRows _ _ _ _ _ hq3) rfl)
      rcases ai_if h with ⟨-, h⟩ | ⟨-, h⟩
      · rcases ai_if h with ⟨-, h⟩ | ⟨-, h⟩
        · obtain ⟨q4, hq4, h⟩ := ai_bd h
          have gq4 : Fr w_M_fewest V q4 := (Fr.tr gq3 (fr_M_tellRow _ _ _ _ _ hq4) rfl)
          obtain rfl := Option.some.inj h
          exact gq4
        · obtain rfl := Option.some.inj h
          exact gq3
      · cases h
    · obtain rfl := Option.some.inj h
      exact (Fr.si Fr.rf rfl)
def w_M_driest : Fw := ([(89, 13), (89, 14), (89, 15), (89, 16), (89, 17), (89, 18), (89, 19), (89, 23), (89, 24), (89, 25), (89, 26), (89, 27), (89, 28), (89, 29)], [97, 104])
theorem fr_M_driest : ∀ (x1 : Int32) (x2 : Int32) (V : ai_V) (r : (Int32 × ai_V)), d_M_driest x1 x2 V = some r → Fr w_M_driest V r.2 := by
  intro x1 x2 V r h
  rw [d_M_driest] at h
  obtain ⟨q1, hq1, h⟩ := ai_bd h
  rcases ai_if h with ⟨-, h⟩ | ⟨-, h⟩
  · obtain rfl := Option.some.inj h
    exact (Fr.si Fr.rf rfl)
  · obtain ⟨q2, hq2, h⟩ := ai_bd h
    rcases ai_if h with ⟨-, h⟩ | ⟨-, h⟩
    · obtain ⟨q3, hq3, h⟩ := ai_bd h
      have gq3 : Fr w_M_driest V q3 := (Fr.tr (Fr.si Fr.rf rfl) (fr_M_layRows _ _ _ _ _ hq3) rfl)
      rcases ai_if h with ⟨-, h⟩ | ⟨-, h⟩
      · obtain ⟨q4, hq4, h⟩ := ai_bd h
        have gq4 : Fr w_M_driest V q4 := (Fr.tr gq3 (fr_M_tellRow _ _ _ _ _ hq4) rfl)
        obtain rfl := Option.some.inj h
        exact gq4
      · cases h
    · obtain rfl := Option.some.inj h
      exact (Fr.si Fr.rf rfl)
def w_M_pays : Fw := ([(89, 13), (89, 14)], [97])
theorem fr_M_pays_140 {F110 : Int32 → Int32 → Int32 → Int32 → ai_V → Option (Int32 × ai_V)} (hF110 : ∀ y0 y1 y2 y3 V r, F110 y0 y1 y2 y3 V = some r → Fr w_M_pays V r.2) : ∀ (x1 : Int32) (x2 : Int32) (x3 : Int32) (x5 : Int32) (V : ai_V) (r : (Int32 × ai_V)), d_M_pays_140 F110 x1 x2 x3 x5 V = some r → Fr w_M_pays V r.2 := by
  intro x1 x2 x3 x5 V r h
  rw [d_M_pays_140] at h
  exact Fr.tr Fr.rf (hF110 _ _ _ _ _ _ h) rfl
theorem fr_M_pays_110 : ∀ (n : Nat) (x1 : Int32) (x2 : Int32) (x3 : Int32) (x5 : Int32) (V : ai_V) (r : (Int32 × ai_V)), d_M_pays_110 n x1 x2 x3 x5 V = some r → Fr w_M_pays V r.2 := by
  intro n
  induction n with
  | zero =>
    intro x1 x2 x3 x5 V r h
    cases h
  | succ n ih =>
    intro x1 x2 x3 x5 V r h
    rw [d_M_pays_110] at h
    rcases ai_if h with ⟨-, h⟩ | ⟨-, h⟩
    · obtain rfl := Option.some.inj h
      exact Fr.rf
    · obtain ⟨q1, hq1, h⟩ := ai_bd h
      rcases ai_if h with ⟨-, h⟩ | ⟨-, h⟩
      · exact Fr.tr Fr.rf (fr_M_pays_140 ih _ _ _ _ _ _ h) rfl
      · obtain ⟨q2, hq2, h⟩ := ai_bd h
        obtain ⟨q3, hq3, h⟩ := ai_bd h
        have gq3 : Fr w_M_pays V q3 := (Fr.tr Fr.rf (fr_M_tell _ _ _ hq3) rfl)
        exact Fr.tr gq3 (fr_M_pays_140 ih _ _ _ _ _ _ h) rfl
theorem fr_M_pays_84 {F17 : Int32 → Int32 → ai_V → Option (Int32 × ai_V)} {F53 : Int32 → Int32 → Int32 → Int32 → Int32 → ai_V → Option (Int32 × ai_V)} (hF17 : ∀ y0 y1 V r, F17 y0 y1 V = some r → Fr w_M_pays V r.2) (hF53 : ∀ y0 y1 y2 y3 y4 V r, F53 y0 y1 y2 y3 y4 V = some r → Fr w_M_pays V r.2) : ∀ (x1 : Int32) (x2 : Int32) (x3 : Int32) (x5 : Int32) (s0 : Int32) (s1 : Int32) (V : ai_V) (r : (Int32 × ai_V)), d_M_pays_84 F17 F53 x1 x2 x3 x5 s0 s1 V = some r → Fr w_M_pays V r.2 := by
  intro x1 x2 x3 x5 s0 s1 V r h
  rw [d_M_pays_84] at h
  exact Fr.tr Fr.rf (hF53 _ _ _ _ _ _ _ h) rfl
theorem fr_M_pays_53 {F17 : Int32 → Int32 → ai_V → Option (Int32 × ai_V)} (hF17 : ∀ y0 y1 V r, F17 y0 y1 V = some r → Fr w_M_pays V r.2) : ∀ (n : Nat) (x1 : Int32) (x2 : Int32) (x3 : Int32) (x4 : Int32) (x5 : Int32) (V : ai_V) (r : (Int32 × ai_V)), d_M_pays_53 F17 n x1 x2 x3 x4 x5 V = some r → Fr w_M_pays V r.2 := by
  intro n
  induction n with
  | zero =>
    intro x1 x2 x3 x4 x5 V r h
    cases h
  | succ n ih =>
    intro x1 x2 x3 x4 x5 V r h
    rw [d_M_pays_53] at h
    rcases ai_if h with ⟨-, h⟩ | ⟨-, h⟩
    · rcases ai_if h with ⟨-, h⟩ | ⟨-, h⟩
      · exact Fr.tr (Fr.si Fr.rf rfl) (fr_M_pays_110 _ _ _ _ _ _ _ h) rfl
      · exact Fr.tr Fr.rf (hF17 _ _ _ _ h) rfl
    · obtain ⟨q4, hq4, h⟩ := ai_bd h
      rcases ai_if h with ⟨-, h⟩ | ⟨-, h⟩
      · exact Fr.tr Fr.rf (fr_M_pays_84 hF17 ih _ _ _ _ _ _ _ _ h) rfl
      · obtain ⟨q5, hq5, h⟩ := ai_bd h
        exact Fr.tr Fr.rf (fr_M_pays_84 hF17 ih _ _ _ _ _ _ _ _ h) rfl
theorem fr_M_pays_17 : ∀ (n : Nat) (x1 : Int32) (x2 : Int32) (V : ai_V) (r : (Int32 × ai_V)), d_M_pays_17 n x1 x2 V = some r → Fr w_M_pays V r.2 := by
  intro n
  induction n with
  | zero =>
    intro x1 x2 V r h
    cases h
  | succ n ih =>
    intro x1 x2 V r h
    rw [d_M_pays_17] at h
    rcases ai_if h with ⟨-, h⟩ | ⟨-, h⟩
    · obtain rfl := Option.some.inj h
      exact Fr.rf
    · exact Fr.tr Fr.rf (fr_M_pays_53 ih _ _ _ _ _ _ _ _ h) rfl
