/-! ===== printed by wip/gen/gen.py: methods as functions, and that the machine runs so ===== -/
-- RentByTheWheel.treadDay(LRentByTheWheel$State;)I (0, 16)
def d_X_treadDay_214  (x2 : Int32) (x3 : Int32) (x4 : Int32) (V : ai_V) : Option (Int32 × ai_V) :=
  (d_Row_tellThree (((gi V 16 1)).toInt64) (x3).toInt64 (x4).toInt64 V).bind fun q1 => (some (x2, q1))
set_option maxRecDepth 20000 in
theorem t_X_treadDay_214 {X : ai_S} {e : Nat} (hd : 4 ≤ e)  (x2 : Int32) (x3 : Int32) (x4 : Int32) (V : ai_V) (r : (Int32 × ai_V)) (h : d_X_treadDay_214  x2 x3 x4 V = some r) : Rn e 108 214 [(0, .ref 0), (1, .ref 16), (2, .int x2), (3, .int x3), (4, .int x4)] [] (SH ++ X) V (some (.int r.1)) (SH ++ X) r.2 := by
  rw [d_X_treadDay_214] at h
  refine rn_go 9 (pc' := 228) (l' := [(0, .ref 0), (1, .ref 16), (2, .int x2), (3, .int x3), (4, .int x4)]) (st' := [.long (x4).toInt64, .long (x3).toInt64, .long ((gi V 16 1)).toInt64, .ref 22]) (S1 := (SH ++ X)) (V1 := V) rfl ?_
  obtain ⟨q1, hq1, h⟩ := ai_bd h
  refine rn_call rfl rfl rfl rfl rfl rfl (by omega) (t_Row_tellThree (by omega) hq1) ?_
  refine rn_go 1 (pc' := 232) (l' := [(0, .ref 0), (1, .ref 16), (2, .int x2), (3, .int x3), (4, .int x4)]) (st' := [.int x2]) (S1 := (SH ++ X)) (V1 := q1) rfl ?_
  obtain rfl := Option.some.inj h
  exact rn_ret rfl rfl rfl
def d_X_treadDay_174 (F10 : Int32 → Int32 → Int32 → Int32 → ai_V → Option (Int32 × ai_V)) (x2 : Int32) (x3 : Int32) (x4 : Int32) (x5 : Int32) (x7 : Int32) (x8 : Int32) (V : ai_V) : Option (Int32 × ai_V) :=
  (d_Wheel_pass x7 x8 V).bind fun q2 => (F10 (x2 + (1 : Int32)) (x3 + (gi q2 15 5)) (x4 + (gi q2 15 3)) x5 q2)
set_option maxRecDepth 20000 in
theorem t_X_treadDay_174 {X : ai_S} {e : Nat} (hd : 4 ≤ e) (F10 : Int32 → Int32 → Int32 → Int32 → ai_V → Option (Int32 × ai_V)) (hF10 : ∀ (x2 : Int32) (x3 : Int32) (x4 : Int32) (x5 : Int32) (V : ai_V) (r : (Int32 × ai_V)), F10 x2 x3 x4 x5 V = some r → Rn e 108 10 [(0, .ref 0), (1, .ref 16), (2, .int x2), (3, .int x3), (4, .int x4), (5, .int x5)] [] (SH ++ X) V (some (.int r.1)) (SH ++ X) r.2) (x2 : Int32) (x3 : Int32) (x4 : Int32) (x5 : Int32) (x7 : Int32) (x8 : Int32) (V : ai_V) (r : (Int32 × ai_V)) (h : d_X_treadDay_174 F10 x2 x3 x4 x5 x7 x8 V = some r) : Rn e 108 174 [(0, .ref 0), (1, .ref 16), (2, .int x2), (3, .int x3), (4, .int x4), (5, .int x5), (7, .int x7), (8, .int x8)] [] (SH ++ X) V (some (.int r.1)) (SH ++ X) r.2 := by
  rw [d_X_treadDay_174] at h
  refine rn_go 5 (pc' := 183) (l' := [(0, .ref 0), (1, .ref 16), (2, .int x2), (3, .int x3), (4, .int x4), (5, .int x5), (7, .int x7), (8, .int x8)]) (st' := [.int x8, .int x7, .ref 16, .ref 15]) (S1 := (SH ++ X)) (V1 := V) rfl ?_
  obtain ⟨q2, hq2, h⟩ := ai_bd h
  refine rn_call rfl rfl rfl rfl rfl rfl (by omega) (t_Wheel_pass (by omega) hq2) ?_
  refine rn_go 14 (pc' := 10) (l' := [(4, .int (x4 + (gi q2 15 3))), (3, .int (x3 + (gi q2 15 5))), (2, .int (x2 + (1 : Int32))), (0, .ref 0), (1, .ref 16), (5, .int x5), (7, .int x7), (8, .int x8)]) (st' := []) (S1 := (SH ++ X)) (V1 := q2) rfl ?_
  exact rn_sub [3, 4, 2, 1, 0, 5] rfl rfl (hF10 (x2 + (1 : Int32)) (x3 + (gi q2 15 5)) (x4 + (gi q2 15 3)) x5 q2 _ h)
def d_X_treadDay_134 (F10 : Int32 → Int32 → Int32 → Int32 → ai_V → Option (Int32 × ai_V)) (x2 : Int32) (x3 : Int32) (x4 : Int32) (x7 : Int32) (x8 : Int32) (s0 : Int32) (s1 : Int32) (V : ai_V) : Option (Int32 × ai_V) :=
  (d_House_canTread x7 x8 V).bind fun q3 => (if ¬ q3 = 0 then (if ¬ x2 = 0 then (d_X_treadDay_174 F10 x2 x3 x4 (s1 + s0) x7 x8 V) else ((d_Past_save  V).bind fun q4 => (d_X_treadDay_174 F10 x2 x3 x4 (s1 + s0) x7 x8 q4))) else (d_X_treadDay_214 x2 x3 x4 V))
set_option maxRecDepth 20000 in
theorem t_X_treadDay_134 {X : ai_S} {e : Nat} (hd : 4 ≤ e) (F10 : Int32 → Int32 → Int32 → Int32 → ai_V → Option (Int32 × ai_V)) (hF10 : ∀ (x2 : Int32) (x3 : Int32) (x4 : Int32) (x5 : Int32) (V : ai_V) (r : (Int32 × ai_V)), F10 x2 x3 x4 x5 V = some r → Rn e 108 10 [(0, .ref 0), (1, .ref 16), (2, .int x2), (3, .int x3), (4, .int x4), (5, .int x5)] [] (SH ++ X) V (some (.int r.1)) (SH ++ X) r.2) (x2 : Int32) (x3 : Int32) (x4 : Int32) (x7 : Int32) (x8 : Int32) (s0 : Int32) (s1 : Int32) (V : ai_V) (r : (Int32 × ai_V)) (h : d_X_treadDay_134 F10 x2 x3 x4 x7 x8 s0 s1 V = some r) : Rn e 108 134 [(0, .ref 0), (1, .ref 16), (2, .int x2), (3, .int x3), (4, .int x4), (7, .int x7), (8, .int x8)] [.int s0, .int s1] (SH ++ X) V (some (.int r.1)) (SH ++ X) r.2 := by
  rw [d_X_treadDay_134] at h
  refine rn_go 6 (pc' := 145) (l' := [(5, .int (s1 + s0)), (0, .ref 0), (1, .ref 16), (2, .int x2), (3, .int x3), (4, .int x4), (7, .int x7), (8, .int x8)]) (st' := [.int x8, .int x7, .ref 3]) (S1 := (SH ++ X)) (V1 := V) rfl ?_
  obtain ⟨q3, hq3, h⟩ := ai_bd h
  refine rn_call rfl rfl rfl rfl rfl rfl (by omega) (t_House_canTread (by omega) hq3) ?_
  rcases ai_if h with ⟨hc, h⟩ | ⟨hc, h⟩
  · refine rn_brT rfl rfl rfl rfl hc ?_
    refine rn_go 1 (pc' := 155) (l' := [(5, .int (s1 + s0)), (0, .ref 0), (1, .ref 16), (2, .int x2), (3, .int x3), (4, .int x4), (7, .int x7), (8, .int x8)]) (st' := [.int x2]) (S1 := (SH ++ X)) (V1 := V) rfl ?_
    rcases ai_if h with ⟨hc, h⟩ | ⟨hc, h⟩
    · refine rn_brT rfl rfl rfl rfl hc ?_
      exact rn_sub [1, 2, 3, 4, 5, 0, 6, 7] rfl rfl (t_X_treadDay_174 (X := X) hd F10 hF10 x2 x3 x4 (s1 + s0) x7 x8 V _ h)
    · refine rn_brF rfl rfl rfl rfl hc ?_
      refine rn_go 3 (pc' := 163) (l' := [(5, .int (s1 + s0)), (0, .ref 0), (1, .ref 16), (2, .int x2), (3, .int x3), (4, .int x4), (7, .int x7), (8, .int x8)]) (st' := [.ref 16, .ref 16]) (S1 := (SH ++ X)) (V1 := V) rfl ?_
      refine rn_brF rfl rfl rfl rfl (by decide) ?_
      refine rn_go 3 (pc' := 171) (l' := [(5, .int (s1 + s0)), (0, .ref 0), (1, .ref 16), (2, .int x2), (3, .int x3), (4, .int x4), (7, .int x7), (8, .int x8)]) (st' := [.ref 16, .ref 24]) (S1 := (SH ++ X)) (V1 := V) rfl ?_
      obtain ⟨q4, hq4, h⟩ := ai_bd h
      refine rn_call rfl rfl rfl rfl rfl rfl (by omega) (t_Past_save (by omega) hq4) ?_
      exact rn_sub [1, 2, 3, 4, 5, 0, 6, 7] rfl rfl (t_X_treadDay_174 (X := X) hd F10 hF10 x2 x3 x4 (s1 + s0) x7 x8 q4 _ h)
  · refine rn_brF rfl rfl rfl rfl hc ?_
    refine rn_go 1 (pc' := 214) (l' := [(5, .int (s1 + s0)), (0, .ref 0), (1, .ref 16), (2, .int x2), (3, .int x3), (4, .int x4), (7, .int x7), (8, .int x8)]) (st' := []) (S1 := (SH ++ X)) (V1 := V) rfl ?_
    exact rn_sub [1, 2, 3, 4, 5] rfl rfl (t_X_treadDay_214 (X := X) hd x2 x3 x4 V _ h)
def d_X_treadDay_120 (F10 : Int32 → Int32 → Int32 → Int32 → ai_V → Option (Int32 × ai_V)) (x2 : Int32) (x3 : Int32) (x4 : Int32) (x5 : Int32) (x6 : Int32) (x7 : Int32) (s0 : Int32) (V : ai_V) : Option (Int32 × ai_V) :=
  if x6 = 0 then (d_X_treadDay_134 F10 x2 x3 x4 x7 s0 (1 : Int32) x5 V) else (d_X_treadDay_134 F10 x2 x3 x4 x7 s0 (4 : Int32) x5 V)
set_option maxRecDepth 20000 in
theorem t_X_treadDay_120 {X : ai_S} {e : Nat} (hd : 4 ≤ e) (F10 : Int32 → Int32 → Int32 → Int32 → ai_V → Option (Int32 × ai_V)) (hF10 : ∀ (x2 : Int32) (x3 : Int32) (x4 : Int32) (x5 : Int32) (V : ai_V) (r : (Int32 × ai_V)), F10 x2 x3 x4 x5 V = some r → Rn e 108 10 [(0, .ref 0), (1, .ref 16), (2, .int x2), (3, .int x3), (4, .int x4), (5, .int x5)] [] (SH ++ X) V (some (.int r.1)) (SH ++ X) r.2) (x2 : Int32) (x3 : Int32) (x4 : Int32) (x5 : Int32) (x6 : Int32) (x7 : Int32) (s0 : Int32) (V : ai_V) (r : (Int32 × ai_V)) (h : d_X_treadDay_120 F10 x2 x3 x4 x5 x6 x7 s0 V = some r) : Rn e 108 120 [(0, .ref 0), (1, .ref 16), (2, .int x2), (3, .int x3), (4, .int x4), (5, .int x5), (6, .int x6), (7, .int x7)] [.int s0] (SH ++ X) V (some (.int r.1)) (SH ++ X) r.2 := by
  rw [d_X_treadDay_120] at h
  refine rn_go 3 (pc' := 126) (l' := [(8, .int s0), (0, .ref 0), (1, .ref 16), (2, .int x2), (3, .int x3), (4, .int x4), (5, .int x5), (6, .int x6), (7, .int x7)]) (st' := [.int x6, .int x5]) (S1 := (SH ++ X)) (V1 := V) rfl ?_
  rcases ai_if h with ⟨hc, h⟩ | ⟨hc, h⟩
  · refine rn_brT rfl rfl rfl rfl hc ?_
    refine rn_go 1 (pc' := 134) (l' := [(8, .int s0), (0, .ref 0), (1, .ref 16), (2, .int x2), (3, .int x3), (4, .int x4), (5, .int x5), (6, .int x6), (7, .int x7)]) (st' := [.int (1 : Int32), .int x5]) (S1 := (SH ++ X)) (V1 := V) rfl ?_
    exact rn_sub [1, 2, 3, 4, 5, 8, 0] rfl rfl (t_X_treadDay_134 (X := X) hd F10 hF10 x2 x3 x4 x7 s0 (1 : Int32) x5 V _ h)
  · refine rn_brF rfl rfl rfl rfl hc ?_
    refine rn_go 2 (pc' := 134) (l' := [(8, .int s0), (0, .ref 0), (1, .ref 16), (2, .int x2), (3, .int x3), (4, .int x4), (5, .int x5), (6, .int x6), (7, .int x7)]) (st' := [.int (4 : Int32), .int x5]) (S1 := (SH ++ X)) (V1 := V) rfl ?_
    exact rn_sub [1, 2, 3, 4, 5, 8, 0] rfl rfl (t_X_treadDay_134 (X := X) hd F10 hF10 x2 x3 x4 x7 s0 (4 : Int32) x5 V _ h)
def d_X_treadDay_95 (F10 : Int32 → Int32 → Int32 → Int32 → ai_V → Option (Int32 × ai_V)) (x2 : Int32) (x3 : Int32) (x4 : Int32) (x5 : Int32) (x6 : Int32) (s0 : Int32) (V : ai_V) : Option (Int32 × ai_V) :=
  if x6 = 0 then (d_X_treadDay_120 F10 x2 x3 x4 x5 x6 s0 (-1 : Int32) V) else ((d_Text_at (x5 + (2 : Int32)) V).bind fun q5 => (d_X_treadDay_120 F10 x2 x3 x4 x5 x6 s0 (q5 - (97 : Int32)) V))
set_option maxRecDepth 20000 in
theorem t_X_treadDay_95 {X : ai_S} {e : Nat} (hd : 4 ≤ e) (F10 : Int32 → Int32 → Int32 → Int32 → ai_V → Option (Int32 × ai_V)) (hF10 : ∀ (x2 : Int32) (x3 : Int32) (x4 : Int32) (x5 : Int32) (V : ai_V) (r : (Int32 × ai_V)), F10 x2 x3 x4 x5 V = some r → Rn e 108 10 [(0, .ref 0), (1, .ref 16), (2, .int x2), (3, .int x3), (4, .int x4), (5, .int x5)] [] (SH ++ X) V (some (.int r.1)) (SH ++ X) r.2) (x2 : Int32) (x3 : Int32) (x4 : Int32) (x5 : Int32) (x6 : Int32) (s0 : Int32) (V : ai_V) (r : (Int32 × ai_V)) (h : d_X_treadDay_95 F10 x2 x3 x4 x5 x6 s0 V = some r) : Rn e 108 95 [(0, .ref 0), (1, .ref 16), (2, .int x2), (3, .int x3), (4, .int x4), (5, .int x5), (6, .int x6)] [.int s0] (SH ++ X) V (some (.int r.1)) (SH ++ X) r.2 := by
  rw [d_X_treadDay_95] at h
  refine rn_go 2 (pc' := 99) (l' := [(7, .int s0), (0, .ref 0), (1, .ref 16), (2, .int x2), (3, .int x3), (4, .int x4), (5, .int x5), (6, .int x6)]) (st' := [.int x6]) (S1 := (SH ++ X)) (V1 := V) rfl ?_
  rcases ai_if h with ⟨hc, h⟩ | ⟨hc, h⟩
  · refine rn_brT rfl rfl rfl rfl hc ?_
    refine rn_go 1 (pc' := 120) (l' := [(7, .int s0), (0, .ref 0), (1, .ref 16), (2, .int x2), (3, .int x3), (4, .int x4), (5, .int x5), (6, .int x6)]) (st' := [.int (-1 : Int32)]) (S1 := (SH ++ X)) (V1 := V) rfl ?_
    exact rn_sub [1, 2, 3, 4, 5, 6, 7, 0] rfl rfl (t_X_treadDay_120 (X := X) hd F10 hF10 x2 x3 x4 x5 x6 s0 (-1 : Int32) V _ h)
  · refine rn_brF rfl rfl rfl rfl hc ?_
    refine rn_go 5 (pc' := 110) (l' := [(7, .int s0), (0, .ref 0), (1, .ref 16), (2, .int x2), (3, .int x3), (4, .int x4), (5, .int x5), (6, .int x6)]) (st' := [.int (x5 + (2 : Int32)), .ref 1]) (S1 := (SH ++ X)) (V1 := V) rfl ?_
    obtain ⟨q5, hq5, h⟩ := ai_bd h
    refine rn_call rfl rfl rfl rfl rfl rfl (by omega) (t_Text_at (by omega) hq5) ?_
    refine rn_go 3 (pc' := 120) (l' := [(7, .int s0), (0, .ref 0), (1, .ref 16), (2, .int x2), (3, .int x3), (4, .int x4), (5, .int x5), (6, .int x6)]) (st' := [.int (q5 - (97 : Int32))]) (S1 := (SH ++ X)) (V1 := V) rfl ?_
    exact rn_sub [1, 2, 3, 4, 5, 6, 7, 0] rfl rfl (t_X_treadDay_120 (X := X) hd F10 hF10 x2 x3 x4 x5 x6 s0 (q5 - (97 : Int32)) V _ h)
def d_X_treadDay_41 (F10 : Int32 → Int32 → Int32 → Int32 → ai_V → Option (Int32 × ai_V)) (x2 : Int32) (x3 : Int32) (x4 : Int32) (x5 : Int32) (s0 : Int32) (V : ai_V) : Option (Int32 × ai_V) :=
  if s0 = 0 then ((d_Text_at x5 V).bind fun q6 => (if ¬ q6 = (46 : Int32) then ((d_Text_at x5 V).bind fun q7 => (d_X_treadDay_95 F10 x2 x3 x4 x5 s0 (q7 - (97 : Int32)) V)) else (d_X_treadDay_95 F10 x2 x3 x4 x5 s0 (-1 : Int32) V))) else ((d_Text_at (x5 + (1 : Int32)) V).bind fun q8 => (d_X_treadDay_95 F10 x2 x3 x4 x5 s0 (q8 - (97 : Int32)) V))
set_option maxRecDepth 20000 in
theorem t_X_treadDay_41 {X : ai_S} {e : Nat} (hd : 4 ≤ e) (F10 : Int32 → Int32 → Int32 → Int32 → ai_V → Option (Int32 × ai_V)) (hF10 : ∀ (x2 : Int32) (x3 : Int32) (x4 : Int32) (x5 : Int32) (V : ai_V) (r : (Int32 × ai_V)), F10 x2 x3 x4 x5 V = some r → Rn e 108 10 [(0, .ref 0), (1, .ref 16), (2, .int x2), (3, .int x3), (4, .int x4), (5, .int x5)] [] (SH ++ X) V (some (.int r.1)) (SH ++ X) r.2) (x2 : Int32) (x3 : Int32) (x4 : Int32) (x5 : Int32) (s0 : Int32) (V : ai_V) (r : (Int32 × ai_V)) (h : d_X_treadDay_41 F10 x2 x3 x4 x5 s0 V = some r) : Rn e 108 41 [(0, .ref 0), (1, .ref 16), (2, .int x2), (3, .int x3), (4, .int x4), (5, .int x5)] [.int s0] (SH ++ X) V (some (.int r.1)) (SH ++ X) r.2 := by
  rw [d_X_treadDay_41] at h
  refine rn_go 2 (pc' := 45) (l' := [(6, .int s0), (0, .ref 0), (1, .ref 16), (2, .int x2), (3, .int x3), (4, .int x4), (5, .int x5)]) (st' := [.int s0]) (S1 := (SH ++ X)) (V1 := V) rfl ?_
  rcases ai_if h with ⟨hc, h⟩ | ⟨hc, h⟩
  · refine rn_brT rfl rfl rfl rfl hc ?_
    refine rn_go 3 (pc' := 71) (l' := [(6, .int s0), (0, .ref 0), (1, .ref 16), (2, .int x2), (3, .int x3), (4, .int x4), (5, .int x5)]) (st' := [.int x5, .ref 1]) (S1 := (SH ++ X)) (V1 := V) rfl ?_
    obtain ⟨q6, hq6, h⟩ := ai_bd h
    refine rn_call rfl rfl rfl rfl rfl rfl (by omega) (t_Text_at (by omega) hq6) ?_
    refine rn_go 1 (pc' := 76) (l' := [(6, .int s0), (0, .ref 0), (1, .ref 16), (2, .int x2), (3, .int x3), (4, .int x4), (5, .int x5)]) (st' := [.int (46 : Int32), .int q6]) (S1 := (SH ++ X)) (V1 := V) rfl ?_
    rcases ai_if h with ⟨hc, h⟩ | ⟨hc, h⟩
    · refine rn_brT rfl rfl rfl rfl hc ?_
      refine rn_go 3 (pc' := 89) (l' := [(6, .int s0), (0, .ref 0), (1, .ref 16), (2, .int x2), (3, .int x3), (4, .int x4), (5, .int x5)]) (st' := [.int x5, .ref 1]) (S1 := (SH ++ X)) (V1 := V) rfl ?_
      obtain ⟨q7, hq7, h⟩ := ai_bd h
      refine rn_call rfl rfl rfl rfl rfl rfl (by omega) (t_Text_at (by omega) hq7) ?_
      refine rn_go 2 (pc' := 95) (l' := [(6, .int s0), (0, .ref 0), (1, .ref 16), (2, .int x2), (3, .int x3), (4, .int x4), (5, .int x5)]) (st' := [.int (q7 - (97 : Int32))]) (S1 := (SH ++ X)) (V1 := V) rfl ?_
      exact rn_sub [1, 2, 3, 4, 5, 6, 0] rfl rfl (t_X_treadDay_95 (X := X) hd F10 hF10 x2 x3 x4 x5 s0 (q7 - (97 : Int32)) V _ h)
    · refine rn_brF rfl rfl rfl rfl hc ?_
      refine rn_go 2 (pc' := 95) (l' := [(6, .int s0), (0, .ref 0), (1, .ref 16), (2, .int x2), (3, .int x3), (4, .int x4), (5, .int x5)]) (st' := [.int (-1 : Int32)]) (S1 := (SH ++ X)) (V1 := V) rfl ?_
      exact rn_sub [1, 2, 3, 4, 5, 6, 0] rfl rfl (t_X_treadDay_95 (X := X) hd F10 hF10 x2 x3 x4 x5 s0 (-1 : Int32) V _ h)
  · refine rn_brF rfl rfl rfl rfl hc ?_
    refine rn_go 5 (pc' := 56) (l' := [(6, .int s0), (0, .ref 0), (1, .ref 16), (2, .int x2), (3, .int x3), (4, .int x4), (5, .int x5)]) (st' := [.int (x5 + (1 : Int32)), .ref 1]) (S1 := (SH ++ X)) (V1 := V) rfl ?_
    obtain ⟨q8, hq8, h⟩ := ai_bd h
    refine rn_call rfl rfl rfl rfl rfl rfl (by omega) (t_Text_at (by omega) hq8) ?_
    refine rn_go 3 (pc' := 95) (l' := [(6, .int s0), (0, .ref 0), (1, .ref 16), (2, .int x2), (3, .int x3), (4, .int x4), (5, .int x5)]) (st' := [.int (q8 - (97 : Int32))]) (S1 := (SH ++ X)) (V1 := V) rfl ?_
    exact rn_sub [1, 2, 3, 4, 5, 6, 0] rfl rfl (t_X_treadDay_95 (X := X) hd F10 hF10 x2 x3 x4 x5 s0 (q8 - (97 : Int32)) V _ h)
def d_X_treadDay_10  : Nat → Int32 → Int32 → Int32 → Int32 → ai_V → Option (Int32 × ai_V)
  | 0, _, _, _, _, _ => none
  | n + 1, x2, x3, x4, x5, V => if (gi V 1 1) ≤ x5 then (d_X_treadDay_214 x2 x3 x4 V) else ((d_Text_at x5 V).bind fun q9 => (if ¬ q9 = (91 : Int32) then (d_X_treadDay_41 (d_X_treadDay_10 n) x2 x3 x4 x5 (0 : Int32) V) else (d_X_treadDay_41 (d_X_treadDay_10 n) x2 x3 x4 x5 (1 : Int32) V)))
set_option maxRecDepth 20000 in
theorem t_X_treadDay_10 {X : ai_S} {e : Nat} (hd : 4 ≤ e)  : ∀ (n : Nat) (x2 : Int32) (x3 : Int32) (x4 : Int32) (x5 : Int32) (V : ai_V) (r : (Int32 × ai_V)), d_X_treadDay_10  n x2 x3 x4 x5 V = some r → Rn e 108 10 [(0, .ref 0), (1, .ref 16), (2, .int x2), (3, .int x3), (4, .int x4), (5, .int x5)] [] (SH ++ X) V (some (.int r.1)) (SH ++ X) r.2 := by
  intro n
  induction n with
  | zero =>
    intro x2 x3 x4 x5 V r h
    cases h
  | succ n ih =>
    intro x2 x3 x4 x5 V r h
    rw [d_X_treadDay_10] at h
    refine rn_go 4 (pc' := 19) (l' := [(0, .ref 0), (1, .ref 16), (2, .int x2), (3, .int x3), (4, .int x4), (5, .int x5)]) (st' := [.int (gi V 1 1), .int x5]) (S1 := (SH ++ X)) (V1 := V) rfl ?_
    rcases ai_if h with ⟨hc, h⟩ | ⟨hc, h⟩
    · refine rn_brT rfl rfl rfl rfl hc ?_
      exact rn_sub [0, 1, 2, 3, 4] rfl rfl (t_X_treadDay_214 (X := X) hd x2 x3 x4 V _ h)
    · refine rn_brF rfl rfl rfl rfl hc ?_
      refine rn_go 3 (pc' := 28) (l' := [(0, .ref 0), (1, .ref 16), (2, .int x2), (3, .int x3), (4, .int x4), (5, .int x5)]) (st' := [.int x5, .ref 1]) (S1 := (SH ++ X)) (V1 := V) rfl ?_
      obtain ⟨q9, hq9, h⟩ := ai_bd h
      refine rn_call rfl rfl rfl rfl rfl rfl (by omega) (t_Text_at (by omega) hq9) ?_
      refine rn_go 1 (pc' := 33) (l' := [(0, .ref 0), (1, .ref 16), (2, .int x2), (3, .int x3), (4, .int x4), (5, .int x5)]) (st' := [.int (91 : Int32), .int q9]) (S1 := (SH ++ X)) (V1 := V) rfl ?_
      rcases ai_if h with ⟨hc, h⟩ | ⟨hc, h⟩
      · refine rn_brT rfl rfl rfl rfl hc ?_
        refine rn_go 1 (pc' := 41) (l' := [(0, .ref 0), (1, .ref 16), (2, .int x2), (3, .int x3), (4, .int x4), (5, .int x5)]) (st' := [.int (0 : Int32)]) (S1 := (SH ++ X)) (V1 := V) rfl ?_
        exact rn_sub [0, 1, 2, 3, 4, 5] rfl rfl (t_X_treadDay_41 (X := X) hd (d_X_treadDay_10 n) (ih) x2 x3 x4 x5 (0 : Int32) V _ h)
      · refine rn_brF rfl rfl rfl rfl hc ?_
        refine rn_go 2 (pc' := 41) (l' := [(0, .ref 0), (1, .ref 16), (2, .int x2), (3, .int x3), (4, .int x4), (5, .int x5)]) (st' := [.int (1 : Int32)]) (S1 := (SH ++ X)) (V1 := V) rfl ?_
        exact rn_sub [0, 1, 2, 3, 4, 5] rfl rfl (t_X_treadDay_41 (X := X) hd (d_X_treadDay_10 n) (ih) x2 x3 x4 x5 (1 : Int32) V _ h)
def d_X_treadDay  (V : ai_V) : Option (Int32 × ai_V) :=
  d_X_treadDay_10 ai_N (0 : Int32) (0 : Int32) (0 : Int32) (0 : Int32) V
set_option maxRecDepth 20000 in
theorem t_X_treadDay {X : ai_S} {e : Nat} (hd : 4 ≤ e)  {V : ai_V} {r : (Int32 × ai_V)} (h : d_X_treadDay  V = some r) : Rn e 108 0 (lv_args 0 [.ref 0, .ref 16]) [] (SH ++ X) V (some (.int r.1)) (SH ++ X) r.2 := by
  rw [d_X_treadDay] at h
  refine rn_go 8 (pc' := 10) (l' := [(5, .int (0 : Int32)), (4, .int (0 : Int32)), (3, .int (0 : Int32)), (2, .int (0 : Int32)), (0, .ref 0), (1, .ref 16)]) (st' := []) (S1 := (SH ++ X)) (V1 := V) rfl ?_
  exact rn_sub [4, 5, 3, 2, 1, 0] rfl rfl (t_X_treadDay_10 (X := X) hd ai_N (0 : Int32) (0 : Int32) (0 : Int32) (0 : Int32) V _ h)
-- RentByTheWheel.readDay(LRentByTheWheel$State;)I (0, 16)
def d_X_readDay_21  (s0 : Int32) (V : ai_V) : Option (Int32 × ai_V) :=
  (d_Text_clear  V).bind fun q1 => (some (s0, q1))
set_option maxRecDepth 20000 in
theorem t_X_readDay_21 {X : ai_S} {e : Nat} (hd : 5 ≤ e)  (s0 : Int32) (V : ai_V) (r : (Int32 × ai_V)) (h : d_X_readDay_21  s0 V = some r) : Rn e 109 21 [(0, .ref 0)] [.int s0] (SH ++ X) V (some (.int r.1)) (SH ++ X) r.2 := by
  rw [d_X_readDay_21] at h
  refine rn_go 3 (pc' := 26) (l' := [(3, .int s0), (0, .ref 0)]) (st' := [.ref 1]) (S1 := (SH ++ X)) (V1 := V) rfl ?_
  obtain ⟨q1, hq1, h⟩ := ai_bd h
  refine rn_call rfl rfl rfl rfl rfl rfl (by omega) (t_Text_clear (by omega) hq1) ?_
  refine rn_go 1 (pc' := 30) (l' := [(3, .int s0), (0, .ref 0)]) (st' := [.int s0]) (S1 := (SH ++ X)) (V1 := q1) rfl ?_
  obtain rfl := Option.some.inj h
  exact rn_ret rfl rfl rfl
def d_X_readDay  (V : ai_V) : Option (Int32 × ai_V) :=
  (d_X_faultOfDay  V).bind fun q2 => (if ¬ q2 = (-1 : Int32) then (d_X_readDay_21 ((-1 : Int32) - q2) V) else ((d_X_treadDay  V).bind fun q3 => (d_X_readDay_21 q3.1 q3.2)))
set_option maxRecDepth 20000 in
theorem t_X_readDay {X : ai_S} {e : Nat} (hd : 5 ≤ e)  {V : ai_V} {r : (Int32 × ai_V)} (h : d_X_readDay  V = some r) : Rn e 109 0 (lv_args 0 [.ref 0, .ref 16]) [] (SH ++ X) V (some (.int r.1)) (SH ++ X) r.2 := by
  rw [d_X_readDay] at h
  refine rn_go 1 (pc' := 1) (l' := [(0, .ref 0), (1, .ref 16)]) (st' := [.ref 0]) (S1 := (SH ++ X)) (V1 := V) rfl ?_
  obtain ⟨q2, hq2, h⟩ := ai_bd h
  refine rn_call rfl rfl rfl rfl rfl rfl (by omega) (t_X_faultOfDay (by omega) hq2) ?_
  refine rn_go 3 (pc' := 7) (l' := [(2, .int q2), (0, .ref 0), (1, .ref 16)]) (st' := [.int (-1 : Int32), .int q2]) (S1 := (SH ++ X)) (V1 := V) rfl ?_
  rcases ai_if h with ⟨hc, h⟩ | ⟨hc, h⟩
  · refine rn_brT rfl rfl rfl rfl hc ?_
    refine rn_go 3 (pc' := 21) (l' := [(2, .int q2), (0, .ref 0), (1, .ref 16)]) (st' := [.int ((-1 : Int32) - q2)]) (S1 := (SH ++ X)) (V1 := V) rfl ?_
    exact rn_sub [1] rfl rfl (t_X_readDay_21 (X := X) hd ((-1 : Int32) - q2) V _ h)
  · refine rn_brF rfl rfl rfl rfl hc ?_
    refine rn_go 2 (pc' := 12) (l' := [(2, .int q2), (0, .ref 0), (1, .ref 16)]) (st' := [.ref 16, .ref 0]) (S1 := (SH ++ X)) (V1 := V) rfl ?_
    obtain ⟨q3, hq3, h⟩ := ai_bd h
    refine rn_call rfl rfl rfl rfl rfl rfl (by omega) (t_X_treadDay (by omega) hq3) ?_
    refine rn_go 1 (pc' := 21) (l' := [(2, .int q2), (0, .ref 0), (1, .ref 16)]) (st' := [.int q3.1]) (S1 := (SH ++ X)) (V1 := q3.2) rfl ?_
    exact rn_sub [1] rfl rfl (t_X_readDay_21 (X := X) hd q3.1 q3.2 _ h)
-- RentByTheWheel.day()I (0,)
def d_X_day  (V : ai_V) : Option (Int32 × ai_V) :=
  (d_X_readDay  V).bind fun q1 => (some (q1.1, q1.2))
set_option maxRecDepth 20000 in
theorem t_X_day {X : ai_S} {e : Nat} (hd : 6 ≤ e)  {V : ai_V} {r : (Int32 × ai_V)} (h : d_X_day  V = some r) : Rn e 110 0 (lv_args 0 [.ref 0]) [] (SH ++ X) V (some (.int r.1)) (SH ++ X) r.2 := by
  rw [d_X_day] at h
  refine rn_go 3 (pc' := 5) (l' := [(0, .ref 0)]) (st' := [.ref 16, .ref 0]) (S1 := (SH ++ X)) (V1 := V) rfl ?_
  obtain ⟨q1, hq1, h⟩ := ai_bd h
  refine rn_call rfl rfl rfl rfl rfl rfl (by omega) (t_X_readDay (by omega) hq1) ?_
  obtain rfl := Option.some.inj h
  exact rn_ret rfl rfl rfl
-- RentByTheWheel$State.becomes(LRentByTheWheel$State;)V (19, 16)
def d_State_becomes_19_16_25  : Nat → Int32 → ai_V → Option ai_V
  | 0, _, _ => none
  | n + 1, x2, V => if (6 : Int32) ≤ x2 then (some V) else (if ai_in x2 6 then (if ai_in x2 6 then (if ai_in x2 6 then (if ai_in x2 6 then (d_State_becomes_19_16_25 n (x2 + (1 : Int32)) (sa (sa V 20 (x2).toNatClampNeg (ga V 17 (x2).toNatClampNeg)) 21 (x2).toNatClampNeg (ga (sa V 20 (x2).toNatClampNeg (ga V 17 (x2).toNatClampNeg)) 18 (x2).toNatClampNeg))) else none) else none) else none) else none)
set_option maxRecDepth 20000 in
theorem t_State_becomes_19_16_25 {X : ai_S} {e : Nat} (hd : 0 ≤ e)  : ∀ (n : Nat) (x2 : Int32) (V : ai_V) (r : ai_V), d_State_becomes_19_16_25  n x2 V = some r → Rn e 44 25 [(0, .ref 19), (1, .ref 16), (2, .int x2)] [] (SH ++ X) V none (SH ++ X) r := by
  intro n
  induction n with
  | zero =>
    intro x2 V r h
    cases h
  | succ n ih =>
    intro x2 V r h
    rw [d_State_becomes_19_16_25] at h
    refine rn_go 2 (pc' := 28) (l' := [(0, .ref 19), (1, .ref 16), (2, .int x2)]) (st' := [.int (6 : Int32), .int x2]) (S1 := (SH ++ X)) (V1 := V) rfl ?_
    rcases ai_if h with ⟨hc, h⟩ | ⟨hc, h⟩
    · refine rn_brT rfl rfl rfl rfl hc ?_
      obtain rfl := Option.some.inj h
      exact rn_ret rfl rfl rfl
    · refine rn_brF rfl rfl rfl rfl hc ?_
      refine rn_go 6 (pc' := 41) (l' := [(0, .ref 19), (1, .ref 16), (2, .int x2)]) (st' := [.int x2, .ref 17, .int x2, .ref 20]) (S1 := (SH ++ X)) (V1 := V) rfl ?_
      obtain ⟨hg, h⟩ := ai_gd h
      refine rg_iald (n := 6) rfl rfl hg ?_
      obtain ⟨hg, h⟩ := ai_gd h
      refine rg_iast (n := 6) rfl rfl hg ?_
      refine rn_go 6 (pc' := 53) (l' := [(0, .ref 19), (1, .ref 16), (2, .int x2)]) (st' := [.int x2, .ref 18, .int x2, .ref 21]) (S1 := (SH ++ X)) (V1 := (sa V 20 (x2).toNatClampNeg (ga V 17 (x2).toNatClampNeg))) rfl ?_
      obtain ⟨hg, h⟩ := ai_gd h
      refine rg_iald (n := 6) rfl rfl hg ?_
      obtain ⟨hg, h⟩ := ai_gd h
      refine rg_iast (n := 6) rfl rfl hg ?_
      refine rn_go 2 (pc' := 25) (l' := [(2, .int (x2 + (1 : Int32))), (0, .ref 19), (1, .ref 16)]) (st' := []) (S1 := (SH ++ X)) (V1 := (sa (sa V 20 (x2).toNatClampNeg (ga V 17 (x2).toNatClampNeg)) 21 (x2).toNatClampNeg (ga (sa V 20 (x2).toNatClampNeg (ga V 17 (x2).toNatClampNeg)) 18 (x2).toNatClampNeg))) rfl ?_
      exact rn_sub [1, 2, 0] rfl rfl (ih (x2 + (1 : Int32)) (sa (sa V 20 (x2).toNatClampNeg (ga V 17 (x2).toNatClampNeg)) 21 (x2).toNatClampNeg (ga (sa V 20 (x2).toNatClampNeg (ga V 17 (x2).toNatClampNeg)) 18 (x2).toNatClampNeg)) _ h)
def d_State_becomes_19_16  (V : ai_V) : Option ai_V :=
  d_State_becomes_19_16_25 ai_N (0 : Int32) (si (si V 19 0 (gi V 16 0)) 19 1 (ai_min (gi (si V 19 0 (gi V 16 0)) 16 1) (gi (si V 19 0 (gi V 16 0)) 19 2)))
set_option maxRecDepth 20000 in
theorem t_State_becomes_19_16 {X : ai_S} {e : Nat} (hd : 0 ≤ e)  {V : ai_V} {r : ai_V} (h : d_State_becomes_19_16  V = some r) : Rn e 44 0 (lv_args 0 [.ref 19, .ref 16]) [] (SH ++ X) V none (SH ++ X) r := by
  rw [d_State_becomes_19_16] at h
  refine rn_go 13 (pc' := 25) (l' := [(2, .int (0 : Int32)), (0, .ref 19), (1, .ref 16)]) (st' := []) (S1 := (SH ++ X)) (V1 := (si (si V 19 0 (gi V 16 0)) 19 1 (ai_min (gi (si V 19 0 (gi V 16 0)) 16 1) (gi (si V 19 0 (gi V 16 0)) 19 2)))) rfl ?_
  exact rn_sub [1, 2, 0] rfl rfl (t_State_becomes_19_16_25 (X := X) hd ai_N (0 : Int32) (si (si V 19 0 (gi V 16 0)) 19 1 (ai_min (gi (si V 19 0 (gi V 16 0)) 16 1) (gi (si V 19 0 (gi V 16 0)) 19 2))) _ h)
-- RentByTheWheel.asked()LRentByTheWheel$State; (0,)
def d_X_asked  (V : ai_V) : Option ai_V :=
  (d_State_becomes_19_16  (si V 19 2 (gi V 16 2))).bind fun q1 => (some q1)
set_option maxRecDepth 20000 in
theorem t_X_asked {X : ai_S} {e : Nat} (hd : 1 ≤ e)  {V : ai_V} {r : ai_V} (h : d_X_asked  V = some r) : Rn e 111 0 (lv_args 0 [.ref 0]) [] (SH ++ X) V (some (.ref 19)) (SH ++ X) r := by
  rw [d_X_asked] at h
  refine rn_go 10 (pc' := 22) (l' := [(0, .ref 0)]) (st' := [.ref 16, .ref 19]) (S1 := (SH ++ X)) (V1 := (si V 19 2 (gi V 16 2))) rfl ?_
  obtain ⟨q1, hq1, h⟩ := ai_bd h
  refine rn_call rfl rfl rfl rfl rfl rfl (by omega) (t_State_becomes_19_16 (by omega) hq1) ?_
  refine rn_go 2 (pc' := 29) (l' := [(0, .ref 0)]) (st' := [.ref 19]) (S1 := (SH ++ X)) (V1 := q1) rfl ?_
  obtain rfl := Option.some.inj h
  exact rn_ret rfl rfl rfl
-- RentByTheWheel$State.quarterNow()I (19,)
def d_State_quarterNow_19  (V : ai_V) : Option Int32 :=
  some ((gi V 19 0) - (gi V 19 0) / (12 : Int32) * (12 : Int32))
set_option maxRecDepth 20000 in
theorem t_State_quarterNow_19 {X : ai_S} {e : Nat} (hd : 0 ≤ e)  {V : ai_V} {r : Int32} (h : d_State_quarterNow_19  V = some r) : Rn e 33 0 (lv_args 0 [.ref 19]) [] (SH ++ X) V (some (.int r)) (SH ++ X) V := by
  rw [d_State_quarterNow_19] at h
  refine rn_go 3 (pc' := 6) (l' := [(0, .ref 19)]) (st' := [.int (12 : Int32), .int (gi V 19 0)]) (S1 := (SH ++ X)) (V1 := V) rfl ?_
  refine rg_irem rfl (by decide) ?_
  obtain rfl := Option.some.inj h
  exact rn_ret rfl rfl rfl
-- RentByTheWheel$Wheel.take(LRentByTheWheel$State;[I)V (15, 19, 9)
def d_Wheel_take_15_19_9_105 (F18 : Int32 → Int32 → ai_V → Option ai_V) (x3 : Int32) (x4 : Int32) (V : ai_V) : Option ai_V :=
  F18 x3 (x4 + (1 : Int32)) V
set_option maxRecDepth 20000 in
theorem t_Wheel_take_15_19_9_105 {X : ai_S} {e : Nat} (hd : 2 ≤ e) (F18 : Int32 → Int32 → ai_V → Option ai_V) (hF18 : ∀ (x3 : Int32) (x4 : Int32) (V : ai_V) (r : ai_V), F18 x3 x4 V = some r → Rn e 54 18 [(0, .ref 15), (1, .ref 19), (2, .ref 9), (3, .int x3), (4, .int x4)] [] (SH ++ X) V none (SH ++ X) r) (x3 : Int32) (x4 : Int32) (V : ai_V) (r : ai_V) (h : d_Wheel_take_15_19_9_105 F18 x3 x4 V = some r) : Rn e 54 105 [(0, .ref 15), (1, .ref 19), (2, .ref 9), (3, .int x3), (4, .int x4)] [] (SH ++ X) V none (SH ++ X) r := by
  rw [d_Wheel_take_15_19_9_105] at h
  refine rn_go 2 (pc' := 18) (l' := [(4, .int (x4 + (1 : Int32))), (0, .ref 15), (1, .ref 19), (2, .ref 9), (3, .int x3)]) (st' := []) (S1 := (SH ++ X)) (V1 := V) rfl ?_
  exact rn_sub [1, 2, 3, 4, 0] rfl rfl (hF18 x3 (x4 + (1 : Int32)) V _ h)
def d_Wheel_take_15_19_9_18  : Nat → Int32 → Int32 → ai_V → Option ai_V
  | 0, _, _, _ => none
  | n + 1, x3, x4, V => if (gi V 3 0) ≤ x4 then (some V) else (if ai_in x4 6 then ((d_House_wantOf (ga V 9 (x4).toNatClampNeg) x3 V).bind fun q1 => (if (gi V 19 1) < q1 then (if ai_in (ga V 9 (x4).toNatClampNeg) 6 then (if ai_in (ga V 9 (x4).toNatClampNeg) 6 then (d_Wheel_take_15_19_9_105 (d_Wheel_take_15_19_9_18 n) x3 x4 (si (si (sa V 21 ((ga V 9 (x4).toNatClampNeg)).toNatClampNeg ((ga V 21 ((ga V 9 (x4).toNatClampNeg)).toNatClampNeg) + (1 : Int32))) 15 4 ((gi (sa V 21 ((ga V 9 (x4).toNatClampNeg)).toNatClampNeg ((ga V 21 ((ga V 9 (x4).toNatClampNeg)).toNatClampNeg) + (1 : Int32))) 15 4) ||| ((1 : Int32) <<< ((ga V 9 (x4).toNatClampNeg) &&& 31)))) 15 5 ((gi (si (sa V 21 ((ga V 9 (x4).toNatClampNeg)).toNatClampNeg ((ga V 21 ((ga V 9 (x4).toNatClampNeg)).toNatClampNeg) + (1 : Int32))) 15 4 ((gi (sa V 21 ((ga V 9 (x4).toNatClampNeg)).toNatClampNeg ((ga V 21 ((ga V 9 (x4).toNatClampNeg)).toNatClampNeg) + (1 : Int32))) 15 4) ||| ((1 : Int32) <<< ((ga V 9 (x4).toNatClampNeg) &&& 31)))) 15 5) + (1 : Int32)))) else none) else none) else (d_Wheel_take_15_19_9_105 (d_Wheel_take_15_19_9_18 n) x3 x4 (si V 19 1 ((gi V 19 1) - q1))))) else none)
set_option maxRecDepth 20000 in
theorem t_Wheel_take_15_19_9_18 {X : ai_S} {e : Nat} (hd : 2 ≤ e)  : ∀ (n : Nat) (x3 : Int32) (x4 : Int32) (V : ai_V) (r : ai_V), d_Wheel_take_15_19_9_18  n x3 x4 V = some r → Rn e 54 18 [(0, .ref 15), (1, .ref 19), (2, .ref 9), (3, .int x3), (4, .int x4)] [] (SH ++ X) V none (SH ++ X) r := by
  intro n
  induction n with
  | zero =>
    intro x3 x4 V r h
    cases h
  | succ n ih =>
    intro x3 x4 V r h
    rw [d_Wheel_take_15_19_9_18] at h
    refine rn_go 4 (pc' := 27) (l' := [(0, .ref 15), (1, .ref 19), (2, .ref 9), (3, .int x3), (4, .int x4)]) (st' := [.int (gi V 3 0), .int x4]) (S1 := (SH ++ X)) (V1 := V) rfl ?_
    rcases ai_if h with ⟨hc, h⟩ | ⟨hc, h⟩
    · refine rn_brT rfl rfl rfl rfl hc ?_
      obtain rfl := Option.some.inj h
      exact rn_ret rfl rfl rfl
    · refine rn_brF rfl rfl rfl rfl hc ?_
      refine rn_go 2 (pc' := 33) (l' := [(0, .ref 15), (1, .ref 19), (2, .ref 9), (3, .int x3), (4, .int x4)]) (st' := [.int x4, .ref 9]) (S1 := (SH ++ X)) (V1 := V) rfl ?_
      obtain ⟨hg, h⟩ := ai_gd h
      refine rg_iald (n := 6) rfl rfl hg ?_
      refine rn_go 5 (pc' := 43) (l' := [(5, .int (ga V 9 (x4).toNatClampNeg)), (0, .ref 15), (1, .ref 19), (2, .ref 9), (3, .int x3), (4, .int x4)]) (st' := [.int x3, .int (ga V 9 (x4).toNatClampNeg), .ref 3]) (S1 := (SH ++ X)) (V1 := V) rfl ?_
      obtain ⟨q1, hq1, h⟩ := ai_bd h
      refine rn_call rfl rfl rfl rfl rfl rfl (by omega) (t_House_wantOf (by omega) hq1) ?_
      refine rn_go 4 (pc' := 54) (l' := [(6, .int q1), (5, .int (ga V 9 (x4).toNatClampNeg)), (0, .ref 15), (1, .ref 19), (2, .ref 9), (3, .int x3), (4, .int x4)]) (st' := [.int q1, .int (gi V 19 1)]) (S1 := (SH ++ X)) (V1 := V) rfl ?_
      rcases ai_if h with ⟨hc, h⟩ | ⟨hc, h⟩
      · refine rn_brT rfl rfl rfl rfl hc ?_
        refine rn_go 4 (pc' := 78) (l' := [(6, .int q1), (5, .int (ga V 9 (x4).toNatClampNeg)), (0, .ref 15), (1, .ref 19), (2, .ref 9), (3, .int x3), (4, .int x4)]) (st' := [.int (ga V 9 (x4).toNatClampNeg), .ref 21, .int (ga V 9 (x4).toNatClampNeg), .ref 21]) (S1 := (SH ++ X)) (V1 := V) rfl ?_
        obtain ⟨hg, h⟩ := ai_gd h
        refine rg_iald (n := 6) rfl rfl hg ?_
        refine rn_go 2 (pc' := 81) (l' := [(6, .int q1), (5, .int (ga V 9 (x4).toNatClampNeg)), (0, .ref 15), (1, .ref 19), (2, .ref 9), (3, .int x3), (4, .int x4)]) (st' := [.int ((ga V 21 ((ga V 9 (x4).toNatClampNeg)).toNatClampNeg) + (1 : Int32)), .int (ga V 9 (x4).toNatClampNeg), .ref 21]) (S1 := (SH ++ X)) (V1 := V) rfl ?_
        obtain ⟨hg, h⟩ := ai_gd h
        refine rg_iast (n := 6) rfl rfl hg ?_
        refine rn_go 14 (pc' := 105) (l' := [(6, .int q1), (5, .int (ga V 9 (x4).toNatClampNeg)), (0, .ref 15), (1, .ref 19), (2, .ref 9), (3, .int x3), (4, .int x4)]) (st' := []) (S1 := (SH ++ X)) (V1 := (si (si (sa V 21 ((ga V 9 (x4).toNatClampNeg)).toNatClampNeg ((ga V 21 ((ga V 9 (x4).toNatClampNeg)).toNatClampNeg) + (1 : Int32))) 15 4 ((gi (sa V 21 ((ga V 9 (x4).toNatClampNeg)).toNatClampNeg ((ga V 21 ((ga V 9 (x4).toNatClampNeg)).toNatClampNeg) + (1 : Int32))) 15 4) ||| ((1 : Int32) <<< ((ga V 9 (x4).toNatClampNeg) &&& 31)))) 15 5 ((gi (si (sa V 21 ((ga V 9 (x4).toNatClampNeg)).toNatClampNeg ((ga V 21 ((ga V 9 (x4).toNatClampNeg)).toNatClampNeg) + (1 : Int32))) 15 4 ((gi (sa V 21 ((ga V 9 (x4).toNatClampNeg)).toNatClampNeg ((ga V 21 ((ga V 9 (x4).toNatClampNeg)).toNatClampNeg) + (1 : Int32))) 15 4) ||| ((1 : Int32) <<< ((ga V 9 (x4).toNatClampNeg) &&& 31)))) 15 5) + (1 : Int32)))) rfl ?_
        exact rn_sub [2, 3, 4, 5, 6] rfl rfl (t_Wheel_take_15_19_9_105 (X := X) hd (d_Wheel_take_15_19_9_18 n) (ih) x3 x4 (si (si (sa V 21 ((ga V 9 (x4).toNatClampNeg)).toNatClampNeg ((ga V 21 ((ga V 9 (x4).toNatClampNeg)).toNatClampNeg) + (1 : Int32))) 15 4 ((gi (sa V 21 ((ga V 9 (x4).toNatClampNeg)).toNatClampNeg ((ga V 21 ((ga V 9 (x4).toNatClampNeg)).toNatClampNeg) + (1 : Int32))) 15 4) ||| ((1 : Int32) <<< ((ga V 9 (x4).toNatClampNeg) &&& 31)))) 15 5 ((gi (si (sa V 21 ((ga V 9 (x4).toNatClampNeg)).toNatClampNeg ((ga V 21 ((ga V 9 (x4).toNatClampNeg)).toNatClampNeg) + (1 : Int32))) 15 4 ((gi (sa V 21 ((ga V 9 (x4).toNatClampNeg)).toNatClampNeg ((ga V 21 ((ga V 9 (x4).toNatClampNeg)).toNatClampNeg) + (1 : Int32))) 15 4) ||| ((1 : Int32) <<< ((ga V 9 (x4).toNatClampNeg) &&& 31)))) 15 5) + (1 : Int32))) _ h)
      · refine rn_brF rfl rfl rfl rfl hc ?_
        refine rn_go 7 (pc' := 105) (l' := [(6, .int q1), (5, .int (ga V 9 (x4).toNatClampNeg)), (0, .ref 15), (1, .ref 19), (2, .ref 9), (3, .int x3), (4, .int x4)]) (st' := []) (S1 := (SH ++ X)) (V1 := (si V 19 1 ((gi V 19 1) - q1))) rfl ?_
        exact rn_sub [2, 3, 4, 5, 6] rfl rfl (t_Wheel_take_15_19_9_105 (X := X) hd (d_Wheel_take_15_19_9_18 n) (ih) x3 x4 (si V 19 1 ((gi V 19 1) - q1)) _ h)
def d_Wheel_take_15_19_9  (V : ai_V) : Option ai_V :=
  (d_State_quarterNow_19  V).bind fun q2 => (d_Wheel_take_15_19_9_18 ai_N q2 (0 : Int32) (si (si V 15 4 (0 : Int32)) 15 5 (0 : Int32)))
set_option maxRecDepth 20000 in
theorem t_Wheel_take_15_19_9 {X : ai_S} {e : Nat} (hd : 2 ≤ e)  {V : ai_V} {r : ai_V} (h : d_Wheel_take_15_19_9  V = some r) : Rn e 54 0 (lv_args 0 [.ref 15, .ref 19, .ref 9]) [] (SH ++ X) V none (SH ++ X) r := by
  rw [d_Wheel_take_15_19_9] at h
  refine rn_go 1 (pc' := 1) (l' := [(0, .ref 15), (1, .ref 19), (2, .ref 9)]) (st' := [.ref 19]) (S1 := (SH ++ X)) (V1 := V) rfl ?_
  obtain ⟨q2, hq2, h⟩ := ai_bd h
  refine rn_call rfl rfl rfl rfl rfl rfl (by omega) (t_State_quarterNow_19 (by omega) hq2) ?_
  refine rn_go 9 (pc' := 18) (l' := [(4, .int (0 : Int32)), (3, .int q2), (0, .ref 15), (1, .ref 19), (2, .ref 9)]) (st' := []) (S1 := (SH ++ X)) (V1 := (si (si V 15 4 (0 : Int32)) 15 5 (0 : Int32))) rfl ?_
  exact rn_sub [2, 3, 4, 1, 0] rfl rfl (t_Wheel_take_15_19_9_18 (X := X) hd ai_N q2 (0 : Int32) (si (si V 15 4 (0 : Int32)) 15 5 (0 : Int32)) _ h)
-- RentByTheWheel$Wheel.pass(LRentByTheWheel$State;II)V (15, 19, None, None)
def d_Wheel_pass_15_19_176  : Nat → Int32 → ai_V → Option ai_V
  | 0, _, _ => none
  | n + 1, x6, V => if (gi V 3 0) ≤ x6 then (some V) else (if ai_in x6 6 then ((d_House_chargeOf x6 (gi V 3 1) V).bind fun q1 => (if ai_in x6 6 then (d_Wheel_pass_15_19_176 n (x6 + (1 : Int32)) (sa V 20 (x6).toNatClampNeg ((ga V 20 (x6).toNatClampNeg) + q1))) else none)) else none)
set_option maxRecDepth 20000 in
theorem t_Wheel_pass_15_19_176 {X : ai_S} {e : Nat} (hd : 3 ≤ e)  : ∀ (n : Nat) (x6 : Int32) (V : ai_V) (r : ai_V), d_Wheel_pass_15_19_176  n x6 V = some r → Rn e 55 176 [(0, .ref 15), (1, .ref 19), (6, .int x6)] [] (SH ++ X) V none (SH ++ X) r := by
  intro n
  induction n with
  | zero =>
    intro x6 V r h
    cases h
  | succ n ih =>
    intro x6 V r h
    rw [d_Wheel_pass_15_19_176] at h
    refine rn_go 4 (pc' := 185) (l' := [(0, .ref 15), (1, .ref 19), (6, .int x6)]) (st' := [.int (gi V 3 0), .int x6]) (S1 := (SH ++ X)) (V1 := V) rfl ?_
    rcases ai_if h with ⟨hc, h⟩ | ⟨hc, h⟩
    · refine rn_brT rfl rfl rfl rfl hc ?_
      obtain rfl := Option.some.inj h
      exact rn_ret rfl rfl rfl
    · refine rn_brF rfl rfl rfl rfl hc ?_
      refine rn_go 4 (pc' := 195) (l' := [(0, .ref 15), (1, .ref 19), (6, .int x6)]) (st' := [.int x6, .ref 20, .int x6, .ref 20]) (S1 := (SH ++ X)) (V1 := V) rfl ?_
      obtain ⟨hg, h⟩ := ai_gd h
      refine rg_iald (n := 6) rfl rfl hg ?_
      refine rn_go 6 (pc' := 209) (l' := [(0, .ref 15), (1, .ref 19), (6, .int x6)]) (st' := [.int (gi V 3 1), .int x6, .ref 3, .int (ga V 20 (x6).toNatClampNeg), .int x6, .ref 20]) (S1 := (SH ++ X)) (V1 := V) rfl ?_
      obtain ⟨q1, hq1, h⟩ := ai_bd h
      refine rn_call rfl rfl rfl rfl rfl rfl (by omega) (t_House_chargeOf (by omega) hq1) ?_
      refine rn_go 1 (pc' := 213) (l' := [(0, .ref 15), (1, .ref 19), (6, .int x6)]) (st' := [.int ((ga V 20 (x6).toNatClampNeg) + q1), .int x6, .ref 20]) (S1 := (SH ++ X)) (V1 := V) rfl ?_
      obtain ⟨hg, h⟩ := ai_gd h
      refine rg_iast (n := 6) rfl rfl hg ?_
      refine rn_go 2 (pc' := 176) (l' := [(6, .int (x6 + (1 : Int32))), (0, .ref 15), (1, .ref 19)]) (st' := []) (S1 := (SH ++ X)) (V1 := (sa V 20 (x6).toNatClampNeg ((ga V 20 (x6).toNatClampNeg) + q1))) rfl ?_
      exact rn_sub [1, 2, 0] rfl rfl (ih (x6 + (1 : Int32)) (sa V 20 (x6).toNatClampNeg ((ga V 20 (x6).toNatClampNeg) + q1)) _ h)
def d_Wheel_pass_15_19_144   (V : ai_V) : Option ai_V :=
  (d_Wheel_take_15_19_9  V).bind fun q2 => ((d_State_quarterNow_19  (si q2 19 0 ((gi q2 19 0) + (1 : Int32)))).bind fun q3 => (if ¬ q3 = 0 then (some (si q2 19 0 ((gi q2 19 0) + (1 : Int32)))) else (d_Wheel_pass_15_19_176 ai_N (0 : Int32) (si q2 19 0 ((gi q2 19 0) + (1 : Int32))))))
set_option maxRecDepth 20000 in
theorem t_Wheel_pass_15_19_144 {X : ai_S} {e : Nat} (hd : 3 ≤ e)   (V : ai_V) (r : ai_V) (h : d_Wheel_pass_15_19_144   V = some r) : Rn e 55 144 [(0, .ref 15), (1, .ref 19)] [] (SH ++ X) V none (SH ++ X) r := by
  rw [d_Wheel_pass_15_19_144] at h
  refine rn_go 5 (pc' := 153) (l' := [(0, .ref 15), (1, .ref 19)]) (st' := [.ref 9, .ref 19, .ref 15]) (S1 := (SH ++ X)) (V1 := V) rfl ?_
  obtain ⟨q2, hq2, h⟩ := ai_bd h
  refine rn_call rfl rfl rfl rfl rfl rfl (by omega) (t_Wheel_take_15_19_9 (by omega) hq2) ?_
  refine rn_go 7 (pc' := 167) (l' := [(0, .ref 15), (1, .ref 19)]) (st' := [.ref 19]) (S1 := (SH ++ X)) (V1 := (si q2 19 0 ((gi q2 19 0) + (1 : Int32)))) rfl ?_
  obtain ⟨q3, hq3, h⟩ := ai_bd h
  refine rn_call rfl rfl rfl rfl rfl rfl (by omega) (t_State_quarterNow_19 (by omega) hq3) ?_
  rcases ai_if h with ⟨hc, h⟩ | ⟨hc, h⟩
  · refine rn_brT rfl rfl rfl rfl hc ?_
    obtain rfl := Option.some.inj h
    exact rn_ret rfl rfl rfl
  · refine rn_brF rfl rfl rfl rfl hc ?_
    refine rn_go 2 (pc' := 176) (l' := [(6, .int (0 : Int32)), (0, .ref 15), (1, .ref 19)]) (st' := []) (S1 := (SH ++ X)) (V1 := (si q2 19 0 ((gi q2 19 0) + (1 : Int32)))) rfl ?_
    exact rn_sub [1, 2, 0] rfl rfl (t_Wheel_pass_15_19_176 (X := X) hd ai_N (0 : Int32) (si q2 19 0 ((gi q2 19 0) + (1 : Int32))) _ h)
def d_Wheel_pass_15_19_122  (x3 : Int32) (x5 : Int32) (V : ai_V) : Option ai_V :=
  (d_House_has x3 V).bind fun q4 => (if q4 = 0 then (d_Wheel_pass_15_19_144 V) else (if ai_in x3 6 then (if ai_in x3 6 then (d_Wheel_pass_15_19_144 (sa V 20 (x3).toNatClampNeg ((ga V 20 (x3).toNatClampNeg) - x5))) else none) else none))
set_option maxRecDepth 20000 in
theorem t_Wheel_pass_15_19_122 {X : ai_S} {e : Nat} (hd : 3 ≤ e)  (x3 : Int32) (x5 : Int32) (V : ai_V) (r : ai_V) (h : d_Wheel_pass_15_19_122  x3 x5 V = some r) : Rn e 55 122 [(0, .ref 15), (1, .ref 19), (3, .int x3), (5, .int x5)] [] (SH ++ X) V none (SH ++ X) r := by
  rw [d_Wheel_pass_15_19_122] at h
  refine rn_go 3 (pc' := 127) (l' := [(0, .ref 15), (1, .ref 19), (3, .int x3), (5, .int x5)]) (st' := [.int x3, .ref 3]) (S1 := (SH ++ X)) (V1 := V) rfl ?_
  obtain ⟨q4, hq4, h⟩ := ai_bd h
  refine rn_call rfl rfl rfl rfl rfl rfl (by omega) (t_House_has (by omega) hq4) ?_
  rcases ai_if h with ⟨hc, h⟩ | ⟨hc, h⟩
  · refine rn_brT rfl rfl rfl rfl hc ?_
    exact rn_sub [0, 1] rfl rfl (t_Wheel_pass_15_19_144 (X := X) hd V _ h)
  · refine rn_brF rfl rfl rfl rfl hc ?_
    refine rn_go 4 (pc' := 139) (l' := [(0, .ref 15), (1, .ref 19), (3, .int x3), (5, .int x5)]) (st' := [.int x3, .ref 20, .int x3, .ref 20]) (S1 := (SH ++ X)) (V1 := V) rfl ?_
    obtain ⟨hg, h⟩ := ai_gd h
    refine rg_iald (n := 6) rfl rfl hg ?_
    refine rn_go 2 (pc' := 143) (l' := [(0, .ref 15), (1, .ref 19), (3, .int x3), (5, .int x5)]) (st' := [.int ((ga V 20 (x3).toNatClampNeg) - x5), .int x3, .ref 20]) (S1 := (SH ++ X)) (V1 := V) rfl ?_
    obtain ⟨hg, h⟩ := ai_gd h
    refine rg_iast (n := 6) rfl rfl hg ?_
    exact rn_sub [0, 1] rfl rfl (t_Wheel_pass_15_19_144 (X := X) hd (sa V 20 (x3).toNatClampNeg ((ga V 20 (x3).toNatClampNeg) - x5)) _ h)
def d_Wheel_pass_15_19 (x2 : Int32) (x3 : Int32) (V : ai_V) : Option ai_V :=
  (d_State_quarterNow_19  V).bind fun q5 => ((d_Wheel_pails x2 x3 (gi V 19 1) q5 (gi V 3 2) V).bind fun q6 => ((d_Wheel_pails x3 x2 (gi q6.2 19 1) q5 (gi q6.2 3 2) q6.2).bind fun q7 => ((d_House_turnsOf x2 x3 (si (si (si q7.2 15 2 (q6.1 + q7.1)) 15 3 (ai_max (0 : Int32) (((gi (si q7.2 15 2 (q6.1 + q7.1)) 19 1) + (gi (si q7.2 15 2 (q6.1 + q7.1)) 15 2)) - (gi (si q7.2 15 2 (q6.1 + q7.1)) 19 2)))) 19 1 ((gi (si (si q7.2 15 2 (q6.1 + q7.1)) 15 3 (ai_max (0 : Int32) (((gi (si q7.2 15 2 (q6.1 + q7.1)) 19 1) + (gi (si q7.2 15 2 (q6.1 + q7.1)) 15 2)) - (gi (si q7.2 15 2 (q6.1 + q7.1)) 19 2)))) 19 1) + ((gi (si (si q7.2 15 2 (q6.1 + q7.1)) 15 3 (ai_max (0 : Int32) (((gi (si q7.2 15 2 (q6.1 + q7.1)) 19 1) + (gi (si q7.2 15 2 (q6.1 + q7.1)) 15 2)) - (gi (si q7.2 15 2 (q6.1 + q7.1)) 19 2)))) 15 2) - (gi (si (si q7.2 15 2 (q6.1 + q7.1)) 15 3 (ai_max (0 : Int32) (((gi (si q7.2 15 2 (q6.1 + q7.1)) 19 1) + (gi (si q7.2 15 2 (q6.1 + q7.1)) 15 2)) - (gi (si q7.2 15 2 (q6.1 + q7.1)) 19 2)))) 15 3))))).bind fun q8 => ((d_House_has x2 (si (si (si q7.2 15 2 (q6.1 + q7.1)) 15 3 (ai_max (0 : Int32) (((gi (si q7.2 15 2 (q6.1 + q7.1)) 19 1) + (gi (si q7.2 15 2 (q6.1 + q7.1)) 15 2)) - (gi (si q7.2 15 2 (q6.1 + q7.1)) 19 2)))) 19 1 ((gi (si (si q7.2 15 2 (q6.1 + q7.1)) 15 3 (ai_max (0 : Int32) (((gi (si q7.2 15 2 (q6.1 + q7.1)) 19 1) + (gi (si q7.2 15 2 (q6.1 + q7.1)) 15 2)) - (gi (si q7.2 15 2 (q6.1 + q7.1)) 19 2)))) 19 1) + ((gi (si (si q7.2 15 2 (q6.1 + q7.1)) 15 3 (ai_max (0 : Int32) (((gi (si q7.2 15 2 (q6.1 + q7.1)) 19 1) + (gi (si q7.2 15 2 (q6.1 + q7.1)) 15 2)) - (gi (si q7.2 15 2 (q6.1 + q7.1)) 19 2)))) 15 2) - (gi (si (si q7.2 15 2 (q6.1 + q7.1)) 15 3 (ai_max (0 : Int32) (((gi (si q7.2 15 2 (q6.1 + q7.1)) 19 1) + (gi (si q7.2 15 2 (q6.1 + q7.1)) 15 2)) - (gi (si q7.2 15 2 (q6.1 + q7.1)) 19 2)))) 15 3))))).bind fun q9 => (if q9 = 0 then (d_Wheel_pass_15_19_122 x3 q8 (si (si (si q7.2 15 2 (q6.1 + q7.1)) 15 3 (ai_max (0 : Int32) (((gi (si q7.2 15 2 (q6.1 + q7.1)) 19 1) + (gi (si q7.2 15 2 (q6.1 + q7.1)) 15 2)) - (gi (si q7.2 15 2 (q6.1 + q7.1)) 19 2)))) 19 1 ((gi (si (si q7.2 15 2 (q6.1 + q7.1)) 15 3 (ai_max (0 : Int32) (((gi (si q7.2 15 2 (q6.1 + q7.1)) 19 1) + (gi (si q7.2 15 2 (q6.1 + q7.1)) 15 2)) - (gi (si q7.2 15 2 (q6.1 + q7.1)) 19 2)))) 19 1) + ((gi (si (si q7.2 15 2 (q6.1 + q7.1)) 15 3 (ai_max (0 : Int32) (((gi (si q7.2 15 2 (q6.1 + q7.1)) 19 1) + (gi (si q7.2 15 2 (q6.1 + q7.1)) 15 2)) - (gi (si q7.2 15 2 (q6.1 + q7.1)) 19 2)))) 15 2) - (gi (si (si q7.2 15 2 (q6.1 + q7.1)) 15 3 (ai_max (0 : Int32) (((gi (si q7.2 15 2 (q6.1 + q7.1)) 19 1) + (gi (si q7.2 15 2 (q6.1 + q7.1)) 15 2)) - (gi (si q7.2 15 2 (q6.1 + q7.1)) 19 2)))) 15 3))))) else (if ai_in x2 6 then (if ai_in x2 6 then (d_Wheel_pass_15_19_122 x3 q8 (sa (si (si (si q7.2 15 2 (q6.1 + q7.1)) 15 3 (ai_max (0 : Int32) (((gi (si q7.2 15 2 (q6.1 + q7.1)) 19 1) + (gi (si q7.2 15 2 (q6.1 + q7.1)) 15 2)) - (gi (si q7.2 15 2 (q6.1 + q7.1)) 19 2)))) 19 1 ((gi (si (si q7.2 15 2 (q6.1 + q7.1)) 15 3 (ai_max (0 : Int32) (((gi (si q7.2 15 2 (q6.1 + q7.1)) 19 1) + (gi (si q7.2 15 2 (q6.1 + q7.1)) 15 2)) - (gi (si q7.2 15 2 (q6.1 + q7.1)) 19 2)))) 19 1) + ((gi (si (si q7.2 15 2 (q6.1 + q7.1)) 15 3 (ai_max (0 : Int32) (((gi (si q7.2 15 2 (q6.1 + q7.1)) 19 1) + (gi (si q7.2 15 2 (q6.1 + q7.1)) 15 2)) - (gi (si q7.2 15 2 (q6.1 + q7.1)) 19 2)))) 15 2) - (gi (si (si q7.2 15 2 (q6.1 + q7.1)) 15 3 (ai_max (0 : Int32) (((gi (si q7.2 15 2 (q6.1 + q7.1)) 19 1) + (gi (si q7.2 15 2 (q6.1 + q7.1)) 15 2)) - (gi (si q7.2 15 2 (q6.1 + q7.1)) 19 2)))) 15 3)))) 20 (x2).toNatClampNeg ((ga (si (si (si q7.2 15 2 (q6.1 + q7.1)) 15 3 (ai_max (0 : Int32) (((gi (si q7.2 15 2 (q6.1 + q7.1)) 19 1) + (gi (si q7.2 15 2 (q6.1 + q7.1)) 15 2)) - (gi (si q7.2 15 2 (q6.1 + q7.1)) 19 2)))) 19 1 ((gi (si (si q7.2 15 2 (q6.1 + q7.1)) 15 3 (ai_max (0 : Int32) (((gi (si q7.2 15 2 (q6.1 + q7.1)) 19 1) + (gi (si q7.2 15 2 (q6.1 + q7.1)) 15 2)) - (gi (si q7.2 15 2 (q6.1 + q7.1)) 19 2)))) 19 1) + ((gi (si (si q7.2 15 2 (q6.1 + q7.1)) 15 3 (ai_max (0 : Int32) (((gi (si q7.2 15 2 (q6.1 + q7.1)) 19 1) + (gi (si q7.2 15 2 (q6.1 + q7.1)) 15 2)) - (gi (si q7.2 15 2 (q6.1 + q7.1)) 19 2)))) 15 2) - (gi (si (si q7.2 15 2 (q6.1 + q7.1)) 15 3 (ai_max (0 : Int32) (((gi (si q7.2 15 2 (q6.1 + q7.1)) 19 1) + (gi (si q7.2 15 2 (q6.1 + q7.1)) 15 2)) - (gi (si q7.2 15 2 (q6.1 + q7.1)) 19 2)))) 15 3)))) 20 (x2).toNatClampNeg) - q8))) else none) else none))))))
set_option maxRecDepth 20000 in
theorem t_Wheel_pass_15_19 {X : ai_S} {e : Nat} (hd : 3 ≤ e) {x2 : Int32} {x3 : Int32} {V : ai_V} {r : ai_V} (h : d_Wheel_pass_15_19 x2 x3 V = some r) : Rn e 55 0 (lv_args 0 [.ref 15, .ref 19, .int x2, .int x3]) [] (SH ++ X) V none (SH ++ X) r := by
  rw [d_Wheel_pass_15_19] at h
  refine rn_go 1 (pc' := 1) (l' := [(0, .ref 15), (1, .ref 19), (2, .int x2), (3, .int x3)]) (st' := [.ref 19]) (S1 := (SH ++ X)) (V1 := V) rfl ?_
  obtain ⟨q5, hq5, h⟩ := ai_bd h
  refine rn_call rfl rfl rfl rfl rfl rfl (by omega) (t_State_quarterNow_19 (by omega) hq5) ?_
  refine rn_go 11 (pc' := 23) (l' := [(4, .int q5), (0, .ref 15), (1, .ref 19), (2, .int x2), (3, .int x3)]) (st' := [.int (gi V 3 2), .int q5, .int (gi V 19 1), .int x3, .int x2, .ref 15, .ref 15]) (S1 := (SH ++ X)) (V1 := V) rfl ?_
  obtain ⟨q6, hq6, h⟩ := ai_bd h
  refine rn_call rfl rfl rfl rfl rfl rfl (by omega) (t_Wheel_pails (by omega) hq6) ?_
  refine rn_go 9 (pc' := 42) (l' := [(4, .int q5), (0, .ref 15), (1, .ref 19), (2, .int x2), (3, .int x3)]) (st' := [.int (gi q6.2 3 2), .int q5, .int (gi q6.2 19 1), .int x2, .int x3, .ref 15, .int q6.1, .ref 15]) (S1 := (SH ++ X)) (V1 := q6.2) rfl ?_
  obtain ⟨q7, hq7, h⟩ := ai_bd h
  refine rn_call rfl rfl rfl rfl rfl rfl (by omega) (t_Wheel_pails (by omega) hq7) ?_
  refine rn_go 28 (pc' := 95) (l' := [(4, .int q5), (0, .ref 15), (1, .ref 19), (2, .int x2), (3, .int x3)]) (st' := [.int x3, .int x2, .ref 3]) (S1 := (SH ++ X)) (V1 := (si (si (si q7.2 15 2 (q6.1 + q7.1)) 15 3 (ai_max (0 : Int32) (((gi (si q7.2 15 2 (q6.1 + q7.1)) 19 1) + (gi (si q7.2 15 2 (q6.1 + q7.1)) 15 2)) - (gi (si q7.2 15 2 (q6.1 + q7.1)) 19 2)))) 19 1 ((gi (si (si q7.2 15 2 (q6.1 + q7.1)) 15 3 (ai_max (0 : Int32) (((gi (si q7.2 15 2 (q6.1 + q7.1)) 19 1) + (gi (si q7.2 15 2 (q6.1 + q7.1)) 15 2)) - (gi (si q7.2 15 2 (q6.1 + q7.1)) 19 2)))) 19 1) + ((gi (si (si q7.2 15 2 (q6.1 + q7.1)) 15 3 (ai_max (0 : Int32) (((gi (si q7.2 15 2 (q6.1 + q7.1)) 19 1) + (gi (si q7.2 15 2 (q6.1 + q7.1)) 15 2)) - (gi (si q7.2 15 2 (q6.1 + q7.1)) 19 2)))) 15 2) - (gi (si (si q7.2 15 2 (q6.1 + q7.1)) 15 3 (ai_max (0 : Int32) (((gi (si q7.2 15 2 (q6.1 + q7.1)) 19 1) + (gi (si q7.2 15 2 (q6.1 + q7.1)) 15 2)) - (gi (si q7.2 15 2 (q6.1 + q7.1)) 19 2)))) 15 3))))) rfl ?_
  obtain ⟨q8, hq8, h⟩ := ai_bd h
  refine rn_call rfl rfl rfl rfl rfl rfl (by omega) (t_House_turnsOf (by omega) hq8) ?_
  refine rn_go 4 (pc' := 105) (l' := [(5, .int q8), (4, .int q5), (0, .ref 15), (1, .ref 19), (2, .int x2), (3, .int x3)]) (st' := [.int x2, .ref 3]) (S1 := (SH ++ X)) (V1 := (si (si (si q7.2 15 2 (q6.1 + q7.1)) 15 3 (ai_max (0 : Int32) (((gi (si q7.2 15 2 (q6.1 + q7.1)) 19 1) + (gi (si q7.2 15 2 (q6.1 + q7.1)) 15 2)) - (gi (si q7.2 15 2 (q6.1 + q7.1)) 19 2)))) 19 1 ((gi (si (si q7.2 15 2 (q6.1 + q7.1)) 15 3 (ai_max (0 : Int32) (((gi (si q7.2 15 2 (q6.1 + q7.1)) 19 1) + (gi (si q7.2 15 2 (q6.1 + q7.1)) 15 2)) - (gi (si q7.2 15 2 (q6.1 + q7.1)) 19 2)))) 19 1) + ((gi (si (si q7.2 15 2 (q6.1 + q7.1)) 15 3 (ai_max (0 : Int32) (((gi (si q7.2 15 2 (q6.1 + q7.1)) 19 1) + (gi (si q7.2 15 2 (q6.1 + q7.1)) 15 2)) - (gi (si q7.2 15 2 (q6.1 + q7.1)) 19 2)))) 15 2) - (gi (si (si q7.2 15 2 (q6.1 + q7.1)) 15 3 (ai_max (0 : Int32) (((gi (si q7.2 15 2 (q6.1 + q7.1)) 19 1) + (gi (si q7.2 15 2 (q6.1 + q7.1)) 15 2)) - (gi (si q7.2 15 2 (q6.1 + q7.1)) 19 2)))) 15 3))))) rfl ?_
  obtain ⟨q9, hq9, h⟩ := ai_bd h
  refine rn_call rfl rfl rfl rfl rfl rfl (by omega) (t_House_has (by omega) hq9) ?_
  rcases ai_if h with ⟨hc, h⟩ | ⟨hc, h⟩
  · refine rn_brT rfl rfl rfl rfl hc ?_
    exact rn_sub [2, 3, 5, 0] rfl rfl (t_Wheel_pass_15_19_122 (X := X) hd x3 q8 (si (si (si q7.2 15 2 (q6.1 + q7.1)) 15 3 (ai_max (0 : Int32) (((gi (si q7.2 15 2 (q6.1 + q7.1)) 19 1) + (gi (si q7.2 15 2 (q6.1 + q7.1)) 15 2)) - (gi (si q7.2 15 2 (q6.1 + q7.1)) 19 2)))) 19 1 ((gi (si (si q7.2 15 2 (q6.1 + q7.1)) 15 3 (ai_max (0 : Int32) (((gi (si q7.2 15 2 (q6.1 + q7.1)) 19 1) + (gi (si q7.2 15 2 (q6.1 + q7.1)) 15 2)) - (gi (si q7.2 15 2 (q6.1 + q7.1)) 19 2)))) 19 1) + ((gi (si (si q7.2 15 2 (q6.1 + q7.1)) 15 3 (ai_max (0 : Int32) (((gi (si q7.2 15 2 (q6.1 + q7.1)) 19 1) + (gi (si q7.2 15 2 (q6.1 + q7.1)) 15 2)) - (gi (si q7.2 15 2 (q6.1 + q7.1)) 19 2)))) 15 2) - (gi (si (si q7.2 15 2 (q6.1 + q7.1)) 15 3 (ai_max (0 : Int32) (((gi (si q7.2 15 2 (q6.1 + q7.1)) 19 1) + (gi (si q7.2 15 2 (q6.1 + q7.1)) 15 2)) - (gi (si q7.2 15 2 (q6.1 + q7.1)) 19 2)))) 15 3)))) _ h)
  · refine rn_brF rfl rfl rfl rfl hc ?_
    refine rn_go 4 (pc' := 117) (l' := [(5, .int q8), (4, .int q5), (0, .ref 15), (1, .ref 19), (2, .int x2), (3, .int x3)]) (st' := [.int x2, .ref 20, .int x2, .ref 20]) (S1 := (SH ++ X)) (V1 := (si (si (si q7.2 15 2 (q6.1 + q7.1)) 15 3 (ai_max (0 : Int32) (((gi (si q7.2 15 2 (q6.1 + q7.1)) 19 1) + (gi (si q7.2 15 2 (q6.1 + q7.1)) 15 2)) - (gi (si q7.2 15 2 (q6.1 + q7.1)) 19 2)))) 19 1 ((gi (si (si q7.2 15 2 (q6.1 + q7.1)) 15 3 (ai_max (0 : Int32) (((gi (si q7.2 15 2 (q6.1 + q7.1)) 19 1) + (gi (si q7.2 15 2 (q6.1 + q7.1)) 15 2)) - (gi (si q7.2 15 2 (q6.1 + q7.1)) 19 2)))) 19 1) + ((gi (si (si q7.2 15 2 (q6.1 + q7.1)) 15 3 (ai_max (0 : Int32) (((gi (si q7.2 15 2 (q6.1 + q7.1)) 19 1) + (gi (si q7.2 15 2 (q6.1 + q7.1)) 15 2)) - (gi (si q7.2 15 2 (q6.1 + q7.1)) 19 2)))) 15 2) - (gi (si (si q7.2 15 2 (q6.1 + q7.1)) 15 3 (ai_max (0 : Int32) (((gi (si q7.2 15 2 (q6.1 + q7.1)) 19 1) + (gi (si q7.2 15 2 (q6.1 + q7.1)) 15 2)) - (gi (si q7.2 15 2 (q6.1 + q7.1)) 19 2)))) 15 3))))) rfl ?_
    obtain ⟨hg, h⟩ := ai_gd h
    refine rg_iald (n := 6) rfl rfl hg ?_
    refine rn_go 2 (pc' := 121) (l' := [(5, .int q8), (4, .int q5), (0, .ref 15), (1, .ref 19), (2, .int x2), (3, .int x3)]) (st' := [.int ((ga (si (si (si q7.2 15 2 (q6.1 + q7.1)) 15 3 (ai_max (0 : Int32) (((gi (si q7.2 15 2 (q6.1 + q7.1)) 19 1) + (gi (si q7.2 15 2 (q6.1 + q7.1)) 15 2)) - (gi (si q7.2 15 2 (q6.1 + q7.1)) 19 2)))) 19 1 ((gi (si (si q7.2 15 2 (q6.1 + q7.1)) 15 3 (ai_max (0 : Int32) (((gi (si q7.2 15 2 (q6.1 + q7.1)) 19 1) + (gi (si q7.2 15 2 (q6.1 + q7.1)) 15 2)) - (gi (si q7.2 15 2 (q6.1 + q7.1)) 19 2)))) 19 1) + ((gi (si (si q7.2 15 2 (q6.1 + q7.1)) 15 3 (ai_max (0 : Int32) (((gi (si q7.2 15 2 (q6.1 + q7.1)) 19 1) + (gi (si q7.2 15 2 (q6.1 + q7.1)) 15 2)) - (gi (si q7.2 15 2 (q6.1 + q7.1)) 19 2)))) 15 2) - (gi (si (si q7.2 15 2 (q6.1 + q7.1)) 15 3 (ai_max (0 : Int32) (((gi (si q7.2 15 2 (q6.1 + q7.1)) 19 1) + (gi (si q7.2 15 2 (q6.1 + q7.1)) 15 2)) - (gi (si q7.2 15 2 (q6.1 + q7.1)) 19 2)))) 15 3)))) 20 (x2).toNatClampNeg) - q8), .int x2, .ref 20]) (S1 := (SH ++ X)) (V1 := (si (si (si q7.2 15 2 (q6.1 + q7.1)) 15 3 (ai_max (0 : Int32) (((gi (si q7.2 15 2 (q6.1 + q7.1)) 19 1) + (gi (si q7.2 15 2 (q6.1 + q7.1)) 15 2)) - (gi (si q7.2 15 2 (q6.1 + q7.1)) 19 2)))) 19 1 ((gi (si (si q7.2 15 2 (q6.1 + q7.1)) 15 3 (ai_max (0 : Int32) (((gi (si q7.2 15 2 (q6.1 + q7.1)) 19 1) + (gi (si q7.2 15 2 (q6.1 + q7.1)) 15 2)) - (gi (si q7.2 15 2 (q6.1 + q7.1)) 19 2)))) 19 1) + ((gi (si (si q7.2 15 2 (q6.1 + q7.1)) 15 3 (ai_max (0 : Int32) (((gi (si q7.2 15 2 (q6.1 + q7.1)) 19 1) + (gi (si q7.2 15 2 (q6.1 + q7.1)) 15 2)) - (gi (si q7.2 15 2 (q6.1 + q7.1)) 19 2)))) 15 2) - (gi (si (si q7.2 15 2 (q6.1 + q7.1)) 15 3 (ai_max (0 : Int32) (((gi (si q7.2 15 2 (q6.1 + q7.1)) 19 1) + (gi (si q7.2 15 2 (q6.1 + q7.1)) 15 2)) - (gi (si q7.2 15 2 (q6.1 + q7.1)) 19 2)))) 15 3))))) rfl ?_
    obtain ⟨hg, h⟩ := ai_gd h
    refine rg_iast (n := 6) rfl rfl hg ?_
    exact rn_sub [2, 3, 5, 0] rfl rfl (t_Wheel_pass_15_19_122 (X := X) hd x3 q8 (sa (si (si (si q7.2 15 2 (q6.1 + q7.1)) 15 3 (ai_max (0 : Int32) (((gi (si q7.2 15 2 (q6.1 + q7.1)) 19 1) + (gi (si q7.2 15 2 (q6.1 + q7.1)) 15 2)) - (gi (si q7.2 15 2 (q6.1 + q7.1)) 19 2)))) 19 1 ((gi (si (si q7.2 15 2 (q6.1 + q7.1)) 15 3 (ai_max (0 : Int32) (((gi (si q7.2 15 2 (q6.1 + q7.1)) 19 1) + (gi (si q7.2 15 2 (q6.1 + q7.1)) 15 2)) - (gi (si q7.2 15 2 (q6.1 + q7.1)) 19 2)))) 19 1) + ((gi (si (si q7.2 15 2 (q6.1 + q7.1)) 15 3 (ai_max (0 : Int32) (((gi (si q7.2 15 2 (q6.1 + q7.1)) 19 1) + (gi (si q7.2 15 2 (q6.1 + q7.1)) 15 2)) - (gi (si q7.2 15 2 (q6.1 + q7.1)) 19 2)))) 15 2) - (gi (si (si q7.2 15 2 (q6.1 + q7.1)) 15 3 (ai_max (0 : Int32) (((gi (si q7.2 15 2 (q6.1 + q7.1)) 19 1) + (gi (si q7.2 15 2 (q6.1 + q7.1)) 15 2)) - (gi (si q7.2 15 2 (q6.1 + q7.1)) 19 2)))) 15 3)))) 20 (x2).toNatClampNeg ((ga (si (si (si q7.2 15 2 (q6.1 + q7.1)) 15 3 (ai_max (0 : Int32) (((gi (si q7.2 15 2 (q6.1 + q7.1)) 19 1) + (gi (si q7.2 15 2 (q6.1 + q7.1)) 15 2)) - (gi (si q7.2 15 2 (q6.1 + q7.1)) 19 2)))) 19 1 ((gi (si (si q7.2 15 2 (q6.1 + q7.1)) 15 3 (ai_max (0 : Int32) (((gi (si q7.2 15 2 (q6.1 + q7.1)) 19 1) + (gi (si q7.2 15 2 (q6.1 + q7.1)) 15 2)) - (gi (si q7.2 15 2 (q6.1 + q7.1)) 19 2)))) 19 1) + ((gi (si (si q7.2 15 2 (q6.1 + q7.1)) 15 3 (ai_max (0 : Int32) (((gi (si q7.2 15 2 (q6.1 + q7.1)) 19 1) + (gi (si q7.2 15 2 (q6.1 + q7.1)) 15 2)) - (gi (si q7.2 15 2 (q6.1 + q7.1)) 19 2)))) 15 2) - (gi (si (si q7.2 15 2 (q6.1 + q7.1)) 15 3 (ai_max (0 : Int32) (((gi (si q7.2 15 2 (q6.1 + q7.1)) 19 1) + (gi (si q7.2 15 2 (q6.1 + q7.1)) 15 2)) - (gi (si q7.2 15 2 (q6.1 + q7.1)) 19 2)))) 15 3)))) 20 (x2).toNatClampNeg) - q8)) _ h)
-- RentByTheWheel.treadDay(LRentByTheWheel$State;)I (0, 19)
def d_X_treadDay_0_19_214  (x2 : Int32) (x3 : Int32) (x4 : Int32) (V : ai_V) : Option (Int32 × ai_V) :=
  (d_Row_tellThree (((gi V 19 1)).toInt64) (x3).toInt64 (x4).toInt64 V).bind fun q1 => (some (x2, q1))
set_option maxRecDepth 20000 in
theorem t_X_treadDay_0_19_214 {X : ai_S} {e : Nat} (hd : 4 ≤ e)  (x2 : Int32) (x3 : Int32) (x4 : Int32) (V : ai_V) (r : (Int32 × ai_V)) (h : d_X_treadDay_0_19_214  x2 x3 x4 V = some r) : Rn e 108 214 [(0, .ref 0), (1, .ref 19), (2, .int x2), (3, .int x3), (4, .int x4)] [] (SH ++ X) V (some (.int r.1)) (SH ++ X) r.2 := by
  rw [d_X_treadDay_0_19_214] at h
  refine rn_go 9 (pc' := 228) (l' := [(0, .ref 0), (1, .ref 19), (2, .int x2), (3, .int x3), (4, .int x4)]) (st' := [.long (x4).toInt64, .long (x3).toInt64, .long ((gi V 19 1)).toInt64, .ref 22]) (S1 := (SH ++ X)) (V1 := V) rfl ?_
  obtain ⟨q1, hq1, h⟩ := ai_bd h
  refine rn_call rfl rfl rfl rfl rfl rfl (by omega) (t_Row_tellThree (by omega) hq1) ?_
  refine rn_go 1 (pc' := 232) (l' := [(0, .ref 0), (1, .ref 19), (2, .int x2), (3, .int x3), (4, .int x4)]) (st' := [.int x2]) (S1 := (SH ++ X)) (V1 := q1) rfl ?_
  obtain rfl := Option.some.inj h
  exact rn_ret rfl rfl rfl
def d_X_treadDay_0_19_174 (F10 : Int32 → Int32 → Int32 → Int32 → ai_V → Option (Int32 × ai_V)) (x2 : Int32) (x3 : Int32) (x4 : Int32) (x5 : Int32) (x7 : Int32) (x8 : Int32) (V : ai_V) : Option (Int32 × ai_V) :=
  (d_Wheel_pass_15_19 x7 x8 V).bind fun q2 => (F10 (x2 + (1 : Int32)) (x3 + (gi q2 15 5)) (x4 + (gi q2 15 3)) x5 q2)
set_option maxRecDepth 20000 in
theorem t_X_treadDay_0_19_174 {X : ai_S} {e : Nat} (hd : 4 ≤ e) (F10 : Int32 → Int32 → Int32 → Int32 → ai_V → Option (Int32 × ai_V)) (hF10 : ∀ (x2 : Int32) (x3 : Int32) (x4 : Int32) (x5 : Int32) (V : ai_V) (r : (Int32 × ai_V)), F10 x2 x3 x4 x5 V = some r → Rn e 108 10 [(0, .ref 0), (1, .ref 19), (2, .int x2), (3, .int x3), (4, .int x4), (5, .int x5)] [] (SH ++ X) V (some (.int r.1)) (SH ++ X) r.2) (x2 : Int32) (x3 : Int32) (x4 : Int32) (x5 : Int32) (x7 : Int32) (x8 : Int32) (V : ai_V) (r : (Int32 × ai_V)) (h : d_X_treadDay_0_19_174 F10 x2 x3 x4 x5 x7 x8 V = some r) : Rn e 108 174 [(0, .ref 0), (1, .ref 19), (2, .int x2), (3, .int x3), (4, .int x4), (5, .int x5), (7, .int x7), (8, .int x8)] [] (SH ++ X) V (some (.int r.1)) (SH ++ X) r.2 := by
  rw [d_X_treadDay_0_19_174] at h
  refine rn_go 5 (pc' := 183) (l' := [(0, .ref 0), (1, .ref 19), (2, .int x2), (3, .int x3), (4, .int x4), (5, .int x5), (7, .int x7), (8, .int x8)]) (st' := [.int x8, .int x7, .ref 19, .ref 15]) (S1 := (SH ++ X)) (V1 := V) rfl ?_
  obtain ⟨q2, hq2, h⟩ := ai_bd h
  refine rn_call rfl rfl rfl rfl rfl rfl (by omega) (t_Wheel_pass_15_19 (by omega) hq2) ?_
  refine rn_go 14 (pc' := 10) (l' := [(4, .int (x4 + (gi q2 15 3))), (3, .int (x3 + (gi q2 15 5))), (2, .int (x2 + (1 : Int32))), (0, .ref 0), (1, .ref 19), (5, .int x5), (7, .int x7), (8, .int x8)]) (st' := []) (S1 := (SH ++ X)) (V1 := q2) rfl ?_
  exact rn_sub [3, 4, 2, 1, 0, 5] rfl rfl (hF10 (x2 + (1 : Int32)) (x3 + (gi q2 15 5)) (x4 + (gi q2 15 3)) x5 q2 _ h)
def d_X_treadDay_0_19_134 (F10 : Int32 → Int32 → Int32 → Int32 → ai_V → Option (Int32 × ai_V)) (x2 : Int32) (x3 : Int32) (x4 : Int32) (x7 : Int32) (x8 : Int32) (s0 : Int32) (s1 : Int32) (V : ai_V) : Option (Int32 × ai_V) :=
  (d_House_canTread x7 x8 V).bind fun q3 => (if ¬ q3 = 0 then (if ¬ x2 = 0 then (d_X_treadDay_0_19_174 F10 x2 x3 x4 (s1 + s0) x7 x8 V) else (d_X_treadDay_0_19_174 F10 x2 x3 x4 (s1 + s0) x7 x8 V)) else (d_X_treadDay_0_19_214 x2 x3 x4 V))
set_option maxRecDepth 20000 in
theorem t_X_treadDay_0_19_134 {X : ai_S} {e : Nat} (hd : 4 ≤ e) (F10 : Int32 → Int32 → Int32 → Int32 → ai_V → Option (Int32 × ai_V)) (hF10 : ∀ (x2 : Int32) (x3 : Int32) (x4 : Int32) (x5 : Int32) (V : ai_V) (r : (Int32 × ai_V)), F10 x2 x3 x4 x5 V = some r → Rn e 108 10 [(0, .ref 0), (1, .ref 19), (2, .int x2), (3, .int x3), (4, .int x4), (5, .int x5)] [] (SH ++ X) V (some (.int r.1)) (SH ++ X) r.2) (x2 : Int32) (x3 : Int32) (x4 : Int32) (x7 : Int32) (x8 : Int32) (s0 : Int32) (s1 : Int32) (V : ai_V) (r : (Int32 × ai_V)) (h : d_X_treadDay_0_19_134 F10 x2 x3 x4 x7 x8 s0 s1 V = some r) : Rn e 108 134 [(0, .ref 0), (1, .ref 19), (2, .int x2), (3, .int x3), (4, .int x4), (7, .int x7), (8, .int x8)] [.int s0, .int s1] (SH ++ X) V (some (.int r.1)) (SH ++ X) r.2 := by
  rw [d_X_treadDay_0_19_134] at h
  refine rn_go 6 (pc' := 145) (l' := [(5, .int (s1 + s0)), (0, .ref 0), (1, .ref 19), (2, .int x2), (3, .int x3), (4, .int x4), (7, .int x7), (8, .int x8)]) (st' := [.int x8, .int x7, .ref 3]) (S1 := (SH ++ X)) (V1 := V) rfl ?_
  obtain ⟨q3, hq3, h⟩ := ai_bd h
  refine rn_call rfl rfl rfl rfl rfl rfl (by omega) (t_House_canTread (by omega) hq3) ?_
  rcases ai_if h with ⟨hc, h⟩ | ⟨hc, h⟩
  · refine rn_brT rfl rfl rfl rfl hc ?_
    refine rn_go 1 (pc' := 155) (l' := [(5, .int (s1 + s0)), (0, .ref 0), (1, .ref 19), (2, .int x2), (3, .int x3), (4, .int x4), (7, .int x7), (8, .int x8)]) (st' := [.int x2]) (S1 := (SH ++ X)) (V1 := V) rfl ?_
    rcases ai_if h with ⟨hc, h⟩ | ⟨hc, h⟩
    · refine rn_brT rfl rfl rfl rfl hc ?_
      exact rn_sub [1, 2, 3, 4, 5, 0, 6, 7] rfl rfl (t_X_treadDay_0_19_174 (X := X) hd F10 hF10 x2 x3 x4 (s1 + s0) x7 x8 V _ h)
    · refine rn_brF rfl rfl rfl rfl hc ?_
      refine rn_go 3 (pc' := 163) (l' := [(5, .int (s1 + s0)), (0, .ref 0), (1, .ref 19), (2, .int x2), (3, .int x3), (4, .int x4), (7, .int x7), (8, .int x8)]) (st' := [.ref 16, .ref 19]) (S1 := (SH ++ X)) (V1 := V) rfl ?_
      refine rn_brT rfl rfl rfl rfl (by decide) ?_
      exact rn_sub [1, 2, 3, 4, 5, 0, 6, 7] rfl rfl (t_X_treadDay_0_19_174 (X := X) hd F10 hF10 x2 x3 x4 (s1 + s0) x7 x8 V _ h)
  · refine rn_brF rfl rfl rfl rfl hc ?_
    refine rn_go 1 (pc' := 214) (l' := [(5, .int (s1 + s0)), (0, .ref 0), (1, .ref 19), (2, .int x2), (3, .int x3), (4, .int x4), (7, .int x7), (8, .int x8)]) (st' := []) (S1 := (SH ++ X)) (V1 := V) rfl ?_
    exact rn_sub [1, 2, 3, 4, 5] rfl rfl (t_X_treadDay_0_19_214 (X := X) hd x2 x3 x4 V _ h)
def d_X_treadDay_0_19_120 (F10 : Int32 → Int32 → Int32 → Int32 → ai_V → Option (Int32 × ai_V)) (x2 : Int32) (x3 : Int32) (x4 : Int32) (x5 : Int32) (x6 : Int32) (x7 : Int32) (s0 : Int32) (V : ai_V) : Option (Int32 × ai_V) :=
  if x6 = 0 then (d_X_treadDay_0_19_134 F10 x2 x3 x4 x7 s0 (1 : Int32) x5 V) else (d_X_treadDay_0_19_134 F10 x2 x3 x4 x7 s0 (4 : Int32) x5 V)
set_option maxRecDepth 20000 in
theorem t_X_treadDay_0_19_120 {X : ai_S} {e : Nat} (hd : 4 ≤ e) (F10 : Int32 → Int32 → Int32 → Int32 → ai_V → Option (Int32 × ai_V)) (hF10 : ∀ (x2 : Int32) (x3 : Int32) (x4 : Int32) (x5 : Int32) (V : ai_V) (r : (Int32 × ai_V)), F10 x2 x3 x4 x5 V = some r → Rn e 108 10 [(0, .ref 0), (1, .ref 19), (2, .int x2), (3, .int x3), (4, .int x4), (5, .int x5)] [] (SH ++ X) V (some (.int r.1)) (SH ++ X) r.2) (x2 : Int32) (x3 : Int32) (x4 : Int32) (x5 : Int32) (x6 : Int32) (x7 : Int32) (s0 : Int32) (V : ai_V) (r : (Int32 × ai_V)) (h : d_X_treadDay_0_19_120 F10 x2 x3 x4 x5 x6 x7 s0 V = some r) : Rn e 108 120 [(0, .ref 0), (1, .ref 19), (2, .int x2), (3, .int x3), (4, .int x4), (5, .int x5), (6, .int x6), (7, .int x7)] [.int s0] (SH ++ X) V (some (.int r.1)) (SH ++ X) r.2 := by
  rw [d_X_treadDay_0_19_120] at h
  refine rn_go 3 (pc' := 126) (l' := [(8, .int s0), (0, .ref 0), (1, .ref 19), (2, .int x2), (3, .int x3), (4, .int x4), (5, .int x5), (6, .int x6), (7, .int x7)]) (st' := [.int x6, .int x5]) (S1 := (SH ++ X)) (V1 := V) rfl ?_
  rcases ai_if h with ⟨hc, h⟩ | ⟨hc, h⟩
  · refine rn_brT rfl rfl rfl rfl hc ?_
    refine rn_go 1 (pc' := 134) (l' := [(8, .int s0), (0, .ref 0), (1, .ref 19), (2, .int x2), (3, .int x3), (4, .int x4), (5, .int x5), (6, .int x6), (7, .int x7)]) (st' := [.int (1 : Int32), .int x5]) (S1 := (SH ++ X)) (V1 := V) rfl ?_
    exact rn_sub [1, 2, 3, 4, 5, 8, 0] rfl rfl (t_X_treadDay_0_19_134 (X := X) hd F10 hF10 x2 x3 x4 x7 s0 (1 : Int32) x5 V _ h)
  · refine rn_brF rfl rfl rfl rfl hc ?_
    refine rn_go 2 (pc' := 134) (l' := [(8, .int s0), (0, .ref 0), (1, .ref 19), (2, .int x2), (3, .int x3), (4, .int x4), (5, .int x5), (6, .int x6), (7, .int x7)]) (st' := [.int (4 : Int32), .int x5]) (S1 := (SH ++ X)) (V1 := V) rfl ?_
    exact rn_sub [1, 2, 3, 4, 5, 8, 0] rfl rfl (t_X_treadDay_0_19_134 (X := X) hd F10 hF10 x2 x3 x4 x7 s0 (4 : Int32) x5 V _ h)
def d_X_treadDay_0_19_95 (F10 : Int32 → Int32 → Int32 → Int32 → ai_V → Option (Int32 × ai_V)) (x2 : Int32) (x3 : Int32) (x4 : Int32) (x5 : Int32) (x6 : Int32) (s0 : Int32) (V : ai_V) : Option (Int32 × ai_V) :=
  if x6 = 0 then (d_X_treadDay_0_19_120 F10 x2 x3 x4 x5 x6 s0 (-1 : Int32) V) else ((d_Text_at (x5 + (2 : Int32)) V).bind fun q4 => (d_X_treadDay_0_19_120 F10 x2 x3 x4 x5 x6 s0 (q4 - (97 : Int32)) V))
set_option maxRecDepth 20000 in
theorem t_X_treadDay_0_19_95 {X : ai_S} {e : Nat} (hd : 4 ≤ e) (F10 : Int32 → Int32 → Int32 → Int32 → ai_V → Option (Int32 × ai_V)) (hF10 : ∀ (x2 : Int32) (x3 : Int32) (x4 : Int32) (x5 : Int32) (V : ai_V) (r : (Int32 × ai_V)), F10 x2 x3 x4 x5 V = some r → Rn e 108 10 [(0, .ref 0), (1, .ref 19), (2, .int x2), (3, .int x3), (4, .int x4), (5, .int x5)] [] (SH ++ X) V (some (.int r.1)) (SH ++ X) r.2) (x2 : Int32) (x3 : Int32) (x4 : Int32) (x5 : Int32) (x6 : Int32) (s0 : Int32) (V : ai_V) (r : (Int32 × ai_V)) (h : d_X_treadDay_0_19_95 F10 x2 x3 x4 x5 x6 s0 V = some r) : Rn e 108 95 [(0, .ref 0), (1, .ref 19), (2, .int x2), (3, .int x3), (4, .int x4), (5, .int x5), (6, .int x6)] [.int s0] (SH ++ X) V (some (.int r.1)) (SH ++ X) r.2 := by
  rw [d_X_treadDay_0_19_95] at h
  refine rn_go 2 (pc' := 99) (l' := [(7, .int s0), (0, .ref 0), (1, .ref 19), (2, .int x2), (3, .int x3), (4, .int x4), (5, .int x5), (6, .int x6)]) (st' := [.int x6]) (S1 := (SH ++ X)) (V1 := V) rfl ?_
  rcases ai_if h with ⟨hc, h⟩ | ⟨hc, h⟩
  · refine rn_brT rfl rfl rfl rfl hc ?_
    refine rn_go 1 (pc' := 120) (l' := [(7, .int s0), (0, .ref 0), (1, .ref 19), (2, .int x2), (3, .int x3), (4, .int x4), (5, .int x5), (6, .int x6)]) (st' := [.int (-1 : Int32)]) (S1 := (SH ++ X)) (V1 := V) rfl ?_
    exact rn_sub [1, 2, 3, 4, 5, 6, 7, 0] rfl rfl (t_X_treadDay_0_19_120 (X := X) hd F10 hF10 x2 x3 x4 x5 x6 s0 (-1 : Int32) V _ h)
  · refine rn_brF rfl rfl rfl rfl hc ?_
    refine rn_go 5 (pc' := 110) (l' := [(7, .int s0), (0, .ref 0), (1, .ref 19), (2, .int x2), (3, .int x3), (4, .int x4), (5, .int x5), (6, .int x6)]) (st' := [.int (x5 + (2 : Int32)), .ref 1]) (S1 := (SH ++ X)) (V1 := V) rfl ?_
    obtain ⟨q4, hq4, h⟩ := ai_bd h
    refine rn_call rfl rfl rfl rfl rfl rfl (by omega) (t_Text_at (by omega) hq4) ?_
    refine rn_go 3 (pc' := 120) (l' := [(7, .int s0), (0, .ref 0), (1, .ref 19), (2, .int x2), (3, .int x3), (4, .int x4), (5, .int x5), (6, .int x6)]) (st' := [.int (q4 - (97 : Int32))]) (S1 := (SH ++ X)) (V1 := V) rfl ?_
    exact rn_sub [1, 2, 3, 4, 5, 6, 7, 0] rfl rfl (t_X_treadDay_0_19_120 (X := X) hd F10 hF10 x2 x3 x4 x5 x6 s0 (q4 - (97 : Int32)) V _ h)
def d_X_treadDay_0_19_41 (F10 : Int32 → Int32 → Int32 → Int32 → ai_V → Option (Int32 × ai_V)) (x2 : Int32) (x3 : Int32) (x4 : Int32) (x5 : Int32) (s0 : Int32) (V : ai_V) : Option (Int32 × ai_V) :=
  if s0 = 0 then ((d_Text_at x5 V).bind fun q5 => (if ¬ q5 = (46 : Int32) then ((d_Text_at x5 V).bind fun q6 => (d_X_treadDay_0_19_95 F10 x2 x3 x4 x5 s0 (q6 - (97 : Int32)) V)) else (d_X_treadDay_0_19_95 F10 x2 x3 x4 x5 s0 (-1 : Int32) V))) else ((d_Text_at (x5 + (1 : Int32)) V).bind fun q7 => (d_X_treadDay_0_19_95 F10 x2 x3 x4 x5 s0 (q7 - (97 : Int32)) V))
set_option maxRecDepth 20000 in
theorem t_X_treadDay_0_19_41 {X : ai_S} {e : Nat} (hd : 4 ≤ e) (F10 : Int32 → Int32 → Int32 → Int32 → ai_V → Option (Int32 × ai_V)) (hF10 : ∀ (x2 : Int32) (x3 : Int32) (x4 : Int32) (x5 : Int32) (V : ai_V) (r : (Int32 × ai_V)), F10 x2 x3 x4 x5 V = some r → Rn e 108 10 [(0, .ref 0), (1, .ref 19), (2, .int x2), (3, .int x3), (4, .int x4), (5, .int x5)] [] (SH ++ X) V (some (.int r.1)) (SH ++ X) r.2) (x2 : Int32) (x3 : Int32) (x4 : Int32) (x5 : Int32) (s0 : Int32) (V : ai_V) (r : (Int32 × ai_V)) (h : d_X_treadDay_0_19_41 F10 x2 x3 x4 x5 s0 V = some r) : Rn e 108 41 [(0, .ref 0), (1, .ref 19), (2, .int x2), (3, .int x3), (4, .int x4), (5, .int x5)] [.int s0] (SH ++ X) V (some (.int r.1)) (SH ++ X) r.2 := by
  rw [d_X_treadDay_0_19_41] at h
  refine rn_go 2 (pc' := 45) (l' := [(6, .int s0), (0, .ref 0), (1, .ref 19), (2, .int x2), (3, .int x3), (4, .int x4), (5, .int x5)]) (st' := [.int s0]) (S1 := (SH ++ X)) (V1 := V) rfl ?_
  rcases ai_if h with ⟨hc, h⟩ | ⟨hc, h⟩
  · refine rn_brT rfl rfl rfl rfl hc ?_
    refine rn_go 3 (pc' := 71) (l' := [(6, .int s0), (0, .ref 0), (1, .ref 19), (2, .int x2), (3, .int x3), (4, .int x4), (5, .int x5)]) (st' := [.int x5, .ref 1]) (S1 := (SH ++ X)) (V1 := V) rfl ?_
    obtain ⟨q5, hq5, h⟩ := ai_bd h
    refine rn_call rfl rfl rfl rfl rfl rfl (by omega) (t_Text_at (by omega) hq5) ?_
    refine rn_go 1 (pc' := 76) (l' := [(6, .int s0), (0, .ref 0), (1, .ref 19), (2, .int x2), (3, .int x3), (4, .int x4), (5, .int x5)]) (st' := [.int (46 : Int32), .int q5]) (S1 := (SH ++ X)) (V1 := V) rfl ?_
    rcases ai_if h with ⟨hc, h⟩ | ⟨hc, h⟩
    · refine rn_brT rfl rfl rfl rfl hc ?_
      refine rn_go 3 (pc' := 89) (l' := [(6, .int s0), (0, .ref 0), (1, .ref 19), (2, .int x2), (3, .int x3), (4, .int x4), (5, .int x5)]) (st' := [.int x5, .ref 1]) (S1 := (SH ++ X)) (V1 := V) rfl ?_
      obtain ⟨q6, hq6, h⟩ := ai_bd h
      refine rn_call rfl rfl rfl rfl rfl rfl (by omega) (t_Text_at (by omega) hq6) ?_
      refine rn_go 2 (pc' := 95) (l' := [(6, .int s0), (0, .ref 0), (1, .ref 19), (2, .int x2), (3, .int x3), (4, .int x4), (5, .int x5)]) (st' := [.int (q6 - (97 : Int32))]) (S1 := (SH ++ X)) (V1 := V) rfl ?_
      exact rn_sub [1, 2, 3, 4, 5, 6, 0] rfl rfl (t_X_treadDay_0_19_95 (X := X) hd F10 hF10 x2 x3 x4 x5 s0 (q6 - (97 : Int32)) V _ h)
    · refine rn_brF rfl rfl rfl rfl hc ?_
      refine rn_go 2 (pc' := 95) (l' := [(6, .int s0), (0, .ref 0), (1, .ref 19), (2, .int x2), (3, .int x3), (4, .int x4), (5, .int x5)]) (st' := [.int (-1 : Int32)]) (S1 := (SH ++ X)) (V1 := V) rfl ?_
      exact rn_sub [1, 2, 3, 4, 5, 6, 0] rfl rfl (t_X_treadDay_0_19_95 (X := X) hd F10 hF10 x2 x3 x4 x5 s0 (-1 : Int32) V _ h)
  · refine rn_brF rfl rfl rfl rfl hc ?_
    refine rn_go 5 (pc' := 56) (l' := [(6, .int s0), (0, .ref 0), (1, .ref 19), (2, .int x2), (3, .int x3), (4, .int x4), (5, .int x5)]) (st' := [.int (x5 + (1 : Int32)), .ref 1]) (S1 := (SH ++ X)) (V1 := V) rfl ?_
    obtain ⟨q7, hq7, h⟩ := ai_bd h
    refine rn_call rfl rfl rfl rfl rfl rfl (by omega) (t_Text_at (by omega) hq7) ?_
    refine rn_go 3 (pc' := 95) (l' := [(6, .int s0), (0, .ref 0), (1, .ref 19), (2, .int x2), (3, .int x3), (4, .int x4), (5, .int x5)]) (st' := [.int (q7 - (97 : Int32))]) (S1 := (SH ++ X)) (V1 := V) rfl ?_
    exact rn_sub [1, 2, 3, 4, 5, 6, 0] rfl rfl (t_X_treadDay_0_19_95 (X := X) hd F10 hF10 x2 x3 x4 x5 s0 (q7 - (97 : Int32)) V _ h)
def d_X_treadDay_0_19_10  : Nat → Int32 → Int32 → Int32 → Int32 → ai_V → Option (Int32 × ai_V)
  | 0, _, _, _, _, _ => none
  | n + 1, x2, x3, x4, x5, V => if (gi V 1 1) ≤ x5 then (d_X_treadDay_0_19_214 x2 x3 x4 V) else ((d_Text_at x5 V).bind fun q8 => (if ¬ q8 = (91 : Int32) then (d_X_treadDay_0_19_41 (d_X_treadDay_0_19_10 n) x2 x3 x4 x5 (0 : Int32) V) else (d_X_treadDay_0_19_41 (d_X_treadDay_0_19_10 n) x2 x3 x4 x5 (1 : Int32) V)))
set_option maxRecDepth 20000 in
theorem t_X_treadDay_0_19_10 {X : ai_S} {e : Nat} (hd : 4 ≤ e)  : ∀ (n : Nat) (x2 : Int32) (x3 : Int32) (x4 : Int32) (x5 : Int32) (V : ai_V) (r : (Int32 × ai_V)), d_X_treadDay_0_19_10  n x2 x3 x4 x5 V = some r → Rn e 108 10 [(0, .ref 0), (1, .ref 19), (2, .int x2), (3, .int x3), (4, .int x4), (5, .int x5)] [] (SH ++ X) V (some (.int r.1)) (SH ++ X) r.2 := by
  intro n
  induction n with
  | zero =>
    intro x2 x3 x4 x5 V r h
    cases h
  | succ n ih =>
    intro x2 x3 x4 x5 V r h
    rw [d_X_treadDay_0_19_10] at h
    refine rn_go 4 (pc' := 19) (l' := [(0, .ref 0), (1, .ref 19), (2, .int x2), (3, .int x3), (4, .int x4), (5, .int x5)]) (st' := [.int (gi V 1 1), .int x5]) (S1 := (SH ++ X)) (V1 := V) rfl ?_
    rcases ai_if h with ⟨hc, h⟩ | ⟨hc, h⟩
    · refine rn_brT rfl rfl rfl rfl hc ?_
      exact rn_sub [0, 1, 2, 3, 4] rfl rfl (t_X_treadDay_0_19_214 (X := X) hd x2 x3 x4 V _ h)
    · refine rn_brF rfl rfl rfl rfl hc ?_
      refine rn_go 3 (pc' := 28) (l' := [(0, .ref 0), (1, .ref 19), (2, .int x2), (3, .int x3), (4, .int x4), (5, .int x5)]) (st' := [.int x5, .ref 1]) (S1 := (SH ++ X)) (V1 := V) rfl ?_
      obtain ⟨q8, hq8, h⟩ := ai_bd h
      refine rn_call rfl rfl rfl rfl rfl rfl (by omega) (t_Text_at (by omega) hq8) ?_
      refine rn_go 1 (pc' := 33) (l' := [(0, .ref 0), (1, .ref 19), (2, .int x2), (3, .int x3), (4, .int x4), (5, .int x5)]) (st' := [.int (91 : Int32), .int q8]) (S1 := (SH ++ X)) (V1 := V) rfl ?_
      rcases ai_if h with ⟨hc, h⟩ | ⟨hc, h⟩
      · refine rn_brT rfl rfl rfl rfl hc ?_
        refine rn_go 1 (pc' := 41) (l' := [(0, .ref 0), (1, .ref 19), (2, .int x2), (3, .int x3), (4, .int x4), (5, .int x5)]) (st' := [.int (0 : Int32)]) (S1 := (SH ++ X)) (V1 := V) rfl ?_
        exact rn_sub [0, 1, 2, 3, 4, 5] rfl rfl (t_X_treadDay_0_19_41 (X := X) hd (d_X_treadDay_0_19_10 n) (ih) x2 x3 x4 x5 (0 : Int32) V _ h)
      · refine rn_brF rfl rfl rfl rfl hc ?_
        refine rn_go 2 (pc' := 41) (l' := [(0, .ref 0), (1, .ref 19), (2, .int x2), (3, .int x3), (4, .int x4), (5, .int x5)]) (st' := [.int (1 : Int32)]) (S1 := (SH ++ X)) (V1 := V) rfl ?_
        exact rn_sub [0, 1, 2, 3, 4, 5] rfl rfl (t_X_treadDay_0_19_41 (X := X) hd (d_X_treadDay_0_19_10 n) (ih) x2 x3 x4 x5 (1 : Int32) V _ h)
def d_X_treadDay_0_19  (V : ai_V) : Option (Int32 × ai_V) :=
  d_X_treadDay_0_19_10 ai_N (0 : Int32) (0 : Int32) (0 : Int32) (0 : Int32) V
set_option maxRecDepth 20000 in
theorem t_X_treadDay_0_19 {X : ai_S} {e : Nat} (hd : 4 ≤ e)  {V : ai_V} {r : (Int32 × ai_V)} (h : d_X_treadDay_0_19  V = some r) : Rn e 108 0 (lv_args 0 [.ref 0, .ref 19]) [] (SH ++ X) V (some (.int r.1)) (SH ++ X) r.2 := by
  rw [d_X_treadDay_0_19] at h
  refine rn_go 8 (pc' := 10) (l' := [(5, .int (0 : Int32)), (4, .int (0 : Int32)), (3, .int (0 : Int32)), (2, .int (0 : Int32)), (0, .ref 0), (1, .ref 19)]) (st' := []) (S1 := (SH ++ X)) (V1 := V) rfl ?_
  exact rn_sub [4, 5, 3, 2, 1, 0] rfl rfl (t_X_treadDay_0_19_10 (X := X) hd ai_N (0 : Int32) (0 : Int32) (0 : Int32) (0 : Int32) V _ h)
-- RentByTheWheel.readDay(LRentByTheWheel$State;)I (0, 19)
def d_X_readDay_0_19_21  (s0 : Int32) (V : ai_V) : Option (Int32 × ai_V) :=
  (d_Text_clear  V).bind fun q1 => (some (s0, q1))
set_option maxRecDepth 20000 in
theorem t_X_readDay_0_19_21 {X : ai_S} {e : Nat} (hd : 5 ≤ e)  (s0 : Int32) (V : ai_V) (r : (Int32 × ai_V)) (h : d_X_readDay_0_19_21  s0 V = some r) : Rn e 109 21 [(0, .ref 0)] [.int s0] (SH ++ X) V (some (.int r.1)) (SH ++ X) r.2 := by
  rw [d_X_readDay_0_19_21] at h
  refine rn_go 3 (pc' := 26) (l' := [(3, .int s0), (0, .ref 0)]) (st' := [.ref 1]) (S1 := (SH ++ X)) (V1 := V) rfl ?_
  obtain ⟨q1, hq1, h⟩ := ai_bd h
  refine rn_call rfl rfl rfl rfl rfl rfl (by omega) (t_Text_clear (by omega) hq1) ?_
  refine rn_go 1 (pc' := 30) (l' := [(3, .int s0), (0, .ref 0)]) (st' := [.int s0]) (S1 := (SH ++ X)) (V1 := q1) rfl ?_
  obtain rfl := Option.some.inj h
  exact rn_ret rfl rfl rfl
def d_X_readDay_0_19  (V : ai_V) : Option (Int32 × ai_V) :=
  (d_X_faultOfDay  V).bind fun q2 => (if ¬ q2 = (-1 : Int32) then (d_X_readDay_0_19_21 ((-1 : Int32) - q2) V) else ((d_X_treadDay_0_19  V).bind fun q3 => (d_X_readDay_0_19_21 q3.1 q3.2)))
set_option maxRecDepth 20000 in
theorem t_X_readDay_0_19 {X : ai_S} {e : Nat} (hd : 5 ≤ e)  {V : ai_V} {r : (Int32 × ai_V)} (h : d_X_readDay_0_19  V = some r) : Rn e 109 0 (lv_args 0 [.ref 0, .ref 19]) [] (SH ++ X) V (some (.int r.1)) (SH ++ X) r.2 := by
  rw [d_X_readDay_0_19] at h
  refine rn_go 1 (pc' := 1) (l' := [(0, .ref 0), (1, .ref 19)]) (st' := [.ref 0]) (S1 := (SH ++ X)) (V1 := V) rfl ?_
  obtain ⟨q2, hq2, h⟩ := ai_bd h
  refine rn_call rfl rfl rfl rfl rfl rfl (by omega) (t_X_faultOfDay (by omega) hq2) ?_
  refine rn_go 3 (pc' := 7) (l' := [(2, .int q2), (0, .ref 0), (1, .ref 19)]) (st' := [.int (-1 : Int32), .int q2]) (S1 := (SH ++ X)) (V1 := V) rfl ?_
  rcases ai_if h with ⟨hc, h⟩ | ⟨hc, h⟩
  · refine rn_brT rfl rfl rfl rfl hc ?_
    refine rn_go 3 (pc' := 21) (l' := [(2, .int q2), (0, .ref 0), (1, .ref 19)]) (st' := [.int ((-1 : Int32) - q2)]) (S1 := (SH ++ X)) (V1 := V) rfl ?_
    exact rn_sub [1] rfl rfl (t_X_readDay_0_19_21 (X := X) hd ((-1 : Int32) - q2) V _ h)
  · refine rn_brF rfl rfl rfl rfl hc ?_
    refine rn_go 2 (pc' := 12) (l' := [(2, .int q2), (0, .ref 0), (1, .ref 19)]) (st' := [.ref 19, .ref 0]) (S1 := (SH ++ X)) (V1 := V) rfl ?_
    obtain ⟨q3, hq3, h⟩ := ai_bd h
    refine rn_call rfl rfl rfl rfl rfl rfl (by omega) (t_X_treadDay_0_19 (by omega) hq3) ?_
    refine rn_go 1 (pc' := 21) (l' := [(2, .int q2), (0, .ref 0), (1, .ref 19)]) (st' := [.int q3.1]) (S1 := (SH ++ X)) (V1 := q3.2) rfl ?_
    exact rn_sub [1] rfl rfl (t_X_readDay_0_19_21 (X := X) hd q3.1 q3.2 _ h)
-- RentByTheWheel.look()I (0,)
def d_X_look  (V : ai_V) : Option (Int32 × ai_V) :=
  (d_X_asked  V).bind fun q1 => ((d_X_readDay_0_19  q1).bind fun q2 => (some (q2.1, q2.2)))
set_option maxRecDepth 20000 in
theorem t_X_look {X : ai_S} {e : Nat} (hd : 6 ≤ e)  {V : ai_V} {r : (Int32 × ai_V)} (h : d_X_look  V = some r) : Rn e 112 0 (lv_args 0 [.ref 0]) [] (SH ++ X) V (some (.int r.1)) (SH ++ X) r.2 := by
  rw [d_X_look] at h
  refine rn_go 2 (pc' := 2) (l' := [(0, .ref 0)]) (st' := [.ref 0, .ref 0]) (S1 := (SH ++ X)) (V1 := V) rfl ?_
  obtain ⟨q1, hq1, h⟩ := ai_bd h
  refine rn_call rfl rfl rfl rfl rfl rfl (by omega) (t_X_asked (by omega) hq1) ?_
  obtain ⟨q2, hq2, h⟩ := ai_bd h
  refine rn_call rfl rfl rfl rfl rfl rfl (by omega) (t_X_readDay_0_19 (by omega) hq2) ?_
  obtain rfl := Option.some.inj h
  exact rn_ret rfl rfl rfl
-- RentByTheWheel$State.becomes(LRentByTheWheel$State;)V (16, 59)
def d_State_becomes_16_59_25  : Nat → Int32 → ai_V → Option ai_V
  | 0, _, _ => none
  | n + 1, x2, V => if (6 : Int32) ≤ x2 then (some V) else (if ai_in x2 6 then (if ai_in x2 6 then (if ai_in x2 6 then (if ai_in x2 6 then (d_State_becomes_16_59_25 n (x2 + (1 : Int32)) (sa (sa V 17 (x2).toNatClampNeg (ga V 60 (x2).toNatClampNeg)) 18 (x2).toNatClampNeg (ga (sa V 17 (x2).toNatClampNeg (ga V 60 (x2).toNatClampNeg)) 61 (x2).toNatClampNeg))) else none) else none) else none) else none)
set_option maxRecDepth 20000 in
theorem t_State_becomes_16_59_25 {X : ai_S} {e : Nat} (hd : 0 ≤ e)  : ∀ (n : Nat) (x2 : Int32) (V : ai_V) (r : ai_V), d_State_becomes_16_59_25  n x2 V = some r → Rn e 44 25 [(0, .ref 16), (1, .ref 59), (2, .int x2)] [] (SH ++ X) V none (SH ++ X) r := by
  intro n
  induction n with
  | zero =>
    intro x2 V r h
    cases h
  | succ n ih =>
    intro x2 V r h
    rw [d_State_becomes_16_59_25] at h
    refine rn_go 2 (pc' := 28) (l' := [(0, .ref 16), (1, .ref 59), (2, .int x2)]) (st' := [.int (6 : Int32), .int x2]) (S1 := (SH ++ X)) (V1 := V) rfl ?_
    rcases ai_if h with ⟨hc, h⟩ | ⟨hc, h⟩
    · refine rn_brT rfl rfl rfl rfl hc ?_
      obtain rfl := Option.some.inj h
      exact rn_ret rfl rfl rfl
    · refine rn_brF rfl rfl rfl rfl hc ?_
      refine rn_go 6 (pc' := 41) (l' := [(0, .ref 16), (1, .ref 59), (2, .int x2)]) (st' := [.int x2, .ref 60, .int x2, .ref 17]) (S1 := (SH ++ X)) (V1 := V) rfl ?_
      obtain ⟨hg, h⟩ := ai_gd h
      refine rg_iald (n := 6) rfl rfl hg ?_
      obtain ⟨hg, h⟩ := ai_gd h
      refine rg_iast (n := 6) rfl rfl hg ?_
      refine rn_go 6 (pc' := 53) (l' := [(0, .ref 16), (1, .ref 59), (2, .int x2)]) (st' := [.int x2, .ref 61, .int x2, .ref 18]) (S1 := (SH ++ X)) (V1 := (sa V 17 (x2).toNatClampNeg (ga V 60 (x2).toNatClampNeg))) rfl ?_
      obtain ⟨hg, h⟩ := ai_gd h
      refine rg_iald (n := 6) rfl rfl hg ?_
      obtain ⟨hg, h⟩ := ai_gd h
      refine rg_iast (n := 6) rfl rfl hg ?_
      refine rn_go 2 (pc' := 25) (l' := [(2, .int (x2 + (1 : Int32))), (0, .ref 16), (1, .ref 59)]) (st' := []) (S1 := (SH ++ X)) (V1 := (sa (sa V 17 (x2).toNatClampNeg (ga V 60 (x2).toNatClampNeg)) 18 (x2).toNatClampNeg (ga (sa V 17 (x2).toNatClampNeg (ga V 60 (x2).toNatClampNeg)) 61 (x2).toNatClampNeg))) rfl ?_
      exact rn_sub [1, 2, 0] rfl rfl (ih (x2 + (1 : Int32)) (sa (sa V 17 (x2).toNatClampNeg (ga V 60 (x2).toNatClampNeg)) 18 (x2).toNatClampNeg (ga (sa V 17 (x2).toNatClampNeg (ga V 60 (x2).toNatClampNeg)) 61 (x2).toNatClampNeg)) _ h)
def d_State_becomes_16_59  (V : ai_V) : Option ai_V :=
  d_State_becomes_16_59_25 ai_N (0 : Int32) (si (si V 16 0 (gi V 59 0)) 16 1 (ai_min (gi (si V 16 0 (gi V 59 0)) 59 1) (gi (si V 16 0 (gi V 59 0)) 16 2)))
set_option maxRecDepth 20000 in
theorem t_State_becomes_16_59 {X : ai_S} {e : Nat} (hd : 0 ≤ e)  {V : ai_V} {r : ai_V} (h : d_State_becomes_16_59  V = some r) : Rn e 44 0 (lv_args 0 [.ref 16, .ref 59]) [] (SH ++ X) V none (SH ++ X) r := by
  rw [d_State_becomes_16_59] at h
  refine rn_go 13 (pc' := 25) (l' := [(2, .int (0 : Int32)), (0, .ref 16), (1, .ref 59)]) (st' := []) (S1 := (SH ++ X)) (V1 := (si (si V 16 0 (gi V 59 0)) 16 1 (ai_min (gi (si V 16 0 (gi V 59 0)) 59 1) (gi (si V 16 0 (gi V 59 0)) 16 2)))) rfl ?_
  exact rn_sub [1, 2, 0] rfl rfl (t_State_becomes_16_59_25 (X := X) hd ai_N (0 : Int32) (si (si V 16 0 (gi V 59 0)) 16 1 (ai_min (gi (si V 16 0 (gi V 59 0)) 59 1) (gi (si V 16 0 (gi V 59 0)) 16 2))) _ h)
-- RentByTheWheel$State.becomes(LRentByTheWheel$State;)V (16, 56)
def d_State_becomes_16_56_25  : Nat → Int32 → ai_V → Option ai_V
  | 0, _, _ => none
  | n + 1, x2, V => if (6 : Int32) ≤ x2 then (some V) else (if ai_in x2 6 then (if ai_in x2 6 then (if ai_in x2 6 then (if ai_in x2 6 then (d_State_becomes_16_56_25 n (x2 + (1 : Int32)) (sa (sa V 17 (x2).toNatClampNeg (ga V 57 (x2).toNatClampNeg)) 18 (x2).toNatClampNeg (ga (sa V 17 (x2).toNatClampNeg (ga V 57 (x2).toNatClampNeg)) 58 (x2).toNatClampNeg))) else none) else none) else none) else none)
set_option maxRecDepth 20000 in
theorem t_State_becomes_16_56_25 {X : ai_S} {e : Nat} (hd : 0 ≤ e)  : ∀ (n : Nat) (x2 : Int32) (V : ai_V) (r : ai_V), d_State_becomes_16_56_25  n x2 V = some r → Rn e 44 25 [(0, .ref 16), (1, .ref 56), (2, .int x2)] [] (SH ++ X) V none (SH ++ X) r := by
  intro n
  induction n with
  | zero =>
    intro x2 V r h
    cases h
  | succ n ih =>
    intro x2 V r h
    rw [d_State_becomes_16_56_25] at h
    refine rn_go 2 (pc' := 28) (l' := [(0, .ref 16), (1, .ref 56), (2, .int x2)]) (st' := [.int (6 : Int32), .int x2]) (S1 := (SH ++ X)) (V1 := V) rfl ?_
    rcases ai_if h with ⟨hc, h⟩ | ⟨hc, h⟩
    · refine rn_brT rfl rfl rfl rfl hc ?_
      obtain rfl := Option.some.inj h
      exact rn_ret rfl rfl rfl
    · refine rn_brF rfl rfl rfl rfl hc ?_
      refine rn_go 6 (pc' := 41) (l' := [(0, .ref 16), (1, .ref 56), (2, .int x2)]) (st' := [.int x2, .ref 57, .int x2, .ref 17]) (S1 := (SH ++ X)) (V1 := V) rfl ?_
      obtain ⟨hg, h⟩ := ai_gd h
      refine rg_iald (n := 6) rfl rfl hg ?_
      obtain ⟨hg, h⟩ := ai_gd h
      refine rg_iast (n := 6) rfl rfl hg ?_
      refine rn_go 6 (pc' := 53) (l' := [(0, .ref 16), (1, .ref 56), (2, .int x2)]) (st' := [.int x2, .ref 58, .int x2, .ref 18]) (S1 := (SH ++ X)) (V1 := (sa V 17 (x2).toNatClampNeg (ga V 57 (x2).toNatClampNeg))) rfl ?_
      obtain ⟨hg, h⟩ := ai_gd h
      refine rg_iald (n := 6) rfl rfl hg ?_
      obtain ⟨hg, h⟩ := ai_gd h
      refine rg_iast (n := 6) rfl rfl hg ?_
      refine rn_go 2 (pc' := 25) (l' := [(2, .int (x2 + (1 : Int32))), (0, .ref 16), (1, .ref 56)]) (st' := []) (S1 := (SH ++ X)) (V1 := (sa (sa V 17 (x2).toNatClampNeg (ga V 57 (x2).toNatClampNeg)) 18 (x2).toNatClampNeg (ga (sa V 17 (x2).toNatClampNeg (ga V 57 (x2).toNatClampNeg)) 58 (x2).toNatClampNeg))) rfl ?_
      exact rn_sub [1, 2, 0] rfl rfl (ih (x2 + (1 : Int32)) (sa (sa V 17 (x2).toNatClampNeg (ga V 57 (x2).toNatClampNeg)) 18 (x2).toNatClampNeg (ga (sa V 17 (x2).toNatClampNeg (ga V 57 (x2).toNatClampNeg)) 58 (x2).toNatClampNeg)) _ h)
def d_State_becomes_16_56  (V : ai_V) : Option ai_V :=
  d_State_becomes_16_56_25 ai_N (0 : Int32) (si (si V 16 0 (gi V 56 0)) 16 1 (ai_min (gi (si V 16 0 (gi V 56 0)) 56 1) (gi (si V 16 0 (gi V 56 0)) 16 2)))
set_option maxRecDepth 20000 in
theorem t_State_becomes_16_56 {X : ai_S} {e : Nat} (hd : 0 ≤ e)  {V : ai_V} {r : ai_V} (h : d_State_becomes_16_56  V = some r) : Rn e 44 0 (lv_args 0 [.ref 16, .ref 56]) [] (SH ++ X) V none (SH ++ X) r := by
  rw [d_State_becomes_16_56] at h
  refine rn_go 13 (pc' := 25) (l' := [(2, .int (0 : Int32)), (0, .ref 16), (1, .ref 56)]) (st' := []) (S1 := (SH ++ X)) (V1 := (si (si V 16 0 (gi V 56 0)) 16 1 (ai_min (gi (si V 16 0 (gi V 56 0)) 56 1) (gi (si V 16 0 (gi V 56 0)) 16 2)))) rfl ?_
  exact rn_sub [1, 2, 0] rfl rfl (t_State_becomes_16_56_25 (X := X) hd ai_N (0 : Int32) (si (si V 16 0 (gi V 56 0)) 16 1 (ai_min (gi (si V 16 0 (gi V 56 0)) 56 1) (gi (si V 16 0 (gi V 56 0)) 16 2))) _ h)
-- RentByTheWheel$State.becomes(LRentByTheWheel$State;)V (16, 53)
def d_State_becomes_16_53_25  : Nat → Int32 → ai_V → Option ai_V
  | 0, _, _ => none
  | n + 1, x2, V => if (6 : Int32) ≤ x2 then (some V) else (if ai_in x2 6 then (if ai_in x2 6 then (if ai_in x2 6 then (if ai_in x2 6 then (d_State_becomes_16_53_25 n (x2 + (1 : Int32)) (sa (sa V 17 (x2).toNatClampNeg (ga V 54 (x2).toNatClampNeg)) 18 (x2).toNatClampNeg (ga (sa V 17 (x2).toNatClampNeg (ga V 54 (x2).toNatClampNeg)) 55 (x2).toNatClampNeg))) else none) else none) else none) else none)
set_option maxRecDepth 20000 in
theorem t_State_becomes_16_53_25 {X : ai_S} {e : Nat} (hd : 0 ≤ e)  : ∀ (n : Nat) (x2 : Int32) (V : ai_V) (r : ai_V), d_State_becomes_16_53_25  n x2 V = some r → Rn e 44 25 [(0, .ref 16), (1, .ref 53), (2, .int x2)] [] (SH ++ X) V none (SH ++ X) r := by
  intro n
  induction n with
  | zero =>
    intro x2 V r h
    cases h
  | succ n ih =>
    intro x2 V r h
    rw [d_State_becomes_16_53_25] at h
    refine rn_go 2 (pc' := 28) (l' := [(0, .ref 16), (1, .ref 53), (2, .int x2)]) (st' := [.int (6 : Int32), .int x2]) (S1 := (SH ++ X)) (V1 := V) rfl ?_
    rcases ai_if h with ⟨hc, h⟩ | ⟨hc, h⟩
    · refine rn_brT rfl rfl rfl rfl hc ?_
      obtain rfl := Option.some.inj h
      exact rn_ret rfl rfl rfl
    · refine rn_brF rfl rfl rfl rfl hc ?_
      refine rn_go 6 (pc' := 41) (l' := [(0, .ref 16), (1, .ref 53), (2, .int x2)]) (st' := [.int x2, .ref 54, .int x2, .ref 17]) (S1 := (SH ++ X)) (V1 := V) rfl ?_
      obtain ⟨hg, h⟩ := ai_gd h
      refine rg_iald (n := 6) rfl rfl hg ?_
      obtain ⟨hg, h⟩ := ai_gd h
      refine rg_iast (n := 6) rfl rfl hg ?_
      refine rn_go 6 (pc' := 53) (l' := [(0, .ref 16), (1, .ref 53), (2, .int x2)]) (st' := [.int x2, .ref 55, .int x2, .ref 18]) (S1 := (SH ++ X)) (V1 := (sa V 17 (x2).toNatClampNeg (ga V 54 (x2).toNatClampNeg))) rfl ?_
      obtain ⟨hg, h⟩ := ai_gd h
      refine rg_iald (n := 6) rfl rfl hg ?_
      obtain ⟨hg, h⟩ := ai_gd h
      refine rg_iast (n := 6) rfl rfl hg ?_
      refine rn_go 2 (pc' := 25) (l' := [(2, .int (x2 + (1 : Int32))), (0, .ref 16), (1, .ref 53)]) (st' := []) (S1 := (SH ++ X)) (V1 := (sa (sa V 17 (x2).toNatClampNeg (ga V 54 (x2).toNatClampNeg)) 18 (x2).toNatClampNeg (ga (sa V 17 (x2).toNatClampNeg (ga V 54 (x2).toNatClampNeg)) 55 (x2).toNatClampNeg))) rfl ?_
      exact rn_sub [1, 2, 0] rfl rfl (ih (x2 + (1 : Int32)) (sa (sa V 17 (x2).toNatClampNeg (ga V 54 (x2).toNatClampNeg)) 18 (x2).toNatClampNeg (ga (sa V 17 (x2).toNatClampNeg (ga V 54 (x2).toNatClampNeg)) 55 (x2).toNatClampNeg)) _ h)
def d_State_becomes_16_53  (V : ai_V) : Option ai_V :=
  d_State_becomes_16_53_25 ai_N (0 : Int32) (si (si V 16 0 (gi V 53 0)) 16 1 (ai_min (gi (si V 16 0 (gi V 53 0)) 53 1) (gi (si V 16 0 (gi V 53 0)) 16 2)))
set_option maxRecDepth 20000 in
theorem t_State_becomes_16_53 {X : ai_S} {e : Nat} (hd : 0 ≤ e)  {V : ai_V} {r : ai_V} (h : d_State_becomes_16_53  V = some r) : Rn e 44 0 (lv_args 0 [.ref 16, .ref 53]) [] (SH ++ X) V none (SH ++ X) r := by
  rw [d_State_becomes_16_53] at h
  refine rn_go 13 (pc' := 25) (l' := [(2, .int (0 : Int32)), (0, .ref 16), (1, .ref 53)]) (st' := []) (S1 := (SH ++ X)) (V1 := (si (si V 16 0 (gi V 53 0)) 16 1 (ai_min (gi (si V 16 0 (gi V 53 0)) 53 1) (gi (si V 16 0 (gi V 53 0)) 16 2)))) rfl ?_
  exact rn_sub [1, 2, 0] rfl rfl (t_State_becomes_16_53_25 (X := X) hd ai_N (0 : Int32) (si (si V 16 0 (gi V 53 0)) 16 1 (ai_min (gi (si V 16 0 (gi V 53 0)) 53 1) (gi (si V 16 0 (gi V 53 0)) 16 2))) _ h)
-- RentByTheWheel$State.becomes(LRentByTheWheel$State;)V (16, 50)
def d_State_becomes_16_50_25  : Nat → Int32 → ai_V → Option ai_V
  | 0, _, _ => none
  | n + 1, x2, V => if (6 : Int32) ≤ x2 then (some V) else (if ai_in x2 6 then (if ai_in x2 6 then (if ai_in x2 6 then (if ai_in x2 6 then (d_State_becomes_16_50_25 n (x2 + (1 : Int32)) (sa (sa V 17 (x2).toNatClampNeg (ga V 51 (x2).toNatClampNeg)) 18 (x2).toNatClampNeg (ga (sa V 17 (x2).toNatClampNeg (ga V 51 (x2).toNatClampNeg)) 52 (x2).toNatClampNeg))) else none) else none) else none) else none)
set_option maxRecDepth 20000 in
theorem t_State_becomes_16_50_25 {X : ai_S} {e : Nat} (hd : 0 ≤ e)  : ∀ (n : Nat) (x2 : Int32) (V : ai_V) (r : ai_V), d_State_becomes_16_50_25  n x2 V = some r → Rn e 44 25 [(0, .ref 16), (1, .ref 50), (2, .int x2)] [] (SH ++ X) V none (SH ++ X) r := by
  intro n
  induction n with
  | zero =>
    intro x2 V r h
    cases h
  | succ n ih =>
    intro x2 V r h
    rw [d_State_becomes_16_50_25] at h
    refine rn_go 2 (pc' := 28) (l' := [(0, .ref 16), (1, .ref 50), (2, .int x2)]) (st' := [.int (6 : Int32), .int x2]) (S1 := (SH ++ X)) (V1 := V) rfl ?_
    rcases ai_if h with ⟨hc, h⟩ | ⟨hc, h⟩
    · refine rn_brT rfl rfl rfl rfl hc ?_
      obtain rfl := Option.some.inj h
      exact rn_ret rfl rfl rfl
    · refine rn_brF rfl rfl rfl rfl hc ?_
      refine rn_go 6 (pc' := 41) (l' := [(0, .ref 16), (1, .ref 50), (2, .int x2)]) (st' := [.int x2, .ref 51, .int x2, .ref 17]) (S1 := (SH ++ X)) (V1 := V) rfl ?_
      obtain ⟨hg, h⟩ := ai_gd h
      refine rg_iald (n := 6) rfl rfl hg ?_
      obtain ⟨hg, h⟩ := ai_gd h
      refine rg_iast (n := 6) rfl rfl hg ?_
      refine rn_go 6 (pc' := 53) (l' := [(0, .ref 16), (1, .ref 50), (2, .int x2)]) (st' := [.int x2, .ref 52, .int x2, .ref 18]) (S1 := (SH ++ X)) (V1 := (sa V 17 (x2).toNatClampNeg (ga V 51 (x2).toNatClampNeg))) rfl ?_
      obtain ⟨hg, h⟩ := ai_gd h
      refine rg_iald (n := 6) rfl rfl hg ?_
      obtain ⟨hg, h⟩ := ai_gd h
      refine rg_iast (n := 6) rfl rfl hg ?_
      refine rn_go 2 (pc' := 25) (l' := [(2, .int (x2 + (1 : Int32))), (0, .ref 16), (1, .ref 50)]) (st' := []) (S1 := (SH ++ X)) (V1 := (sa (sa V 17 (x2).toNatClampNeg (ga V 51 (x2).toNatClampNeg)) 18 (x2).toNatClampNeg (ga (sa V 17 (x2).toNatClampNeg (ga V 51 (x2).toNatClampNeg)) 52 (x2).toNatClampNeg))) rfl ?_
      exact rn_sub [1, 2, 0] rfl rfl (ih (x2 + (1 : Int32)) (sa (sa V 17 (x2).toNatClampNeg (ga V 51 (x2).toNatClampNeg)) 18 (x2).toNatClampNeg (ga (sa V 17 (x2).toNatClampNeg (ga V 51 (x2).toNatClampNeg)) 52 (x2).toNatClampNeg)) _ h)
def d_State_becomes_16_50  (V : ai_V) : Option ai_V :=
  d_State_becomes_16_50_25 ai_N (0 : Int32) (si (si V 16 0 (gi V 50 0)) 16 1 (ai_min (gi (si V 16 0 (gi V 50 0)) 50 1) (gi (si V 16 0 (gi V 50 0)) 16 2)))
set_option maxRecDepth 20000 in
theorem t_State_becomes_16_50 {X : ai_S} {e : Nat} (hd : 0 ≤ e)  {V : ai_V} {r : ai_V} (h : d_State_becomes_16_50  V = some r) : Rn e 44 0 (lv_args 0 [.ref 16, .ref 50]) [] (SH ++ X) V none (SH ++ X) r := by
  rw [d_State_becomes_16_50] at h
  refine rn_go 13 (pc' := 25) (l' := [(2, .int (0 : Int32)), (0, .ref 16), (1, .ref 50)]) (st' := []) (S1 := (SH ++ X)) (V1 := (si (si V 16 0 (gi V 50 0)) 16 1 (ai_min (gi (si V 16 0 (gi V 50 0)) 50 1) (gi (si V 16 0 (gi V 50 0)) 16 2)))) rfl ?_
  exact rn_sub [1, 2, 0] rfl rfl (t_State_becomes_16_50_25 (X := X) hd ai_N (0 : Int32) (si (si V 16 0 (gi V 50 0)) 16 1 (ai_min (gi (si V 16 0 (gi V 50 0)) 50 1) (gi (si V 16 0 (gi V 50 0)) 16 2))) _ h)
-- RentByTheWheel$State.becomes(LRentByTheWheel$State;)V (16, 47)
def d_State_becomes_16_47_25  : Nat → Int32 → ai_V → Option ai_V
  | 0, _, _ => none
  | n + 1, x2, V => if (6 : Int32) ≤ x2 then (some V) else (if ai_in x2 6 then (if ai_in x2 6 then (if ai_in x2 6 then (if ai_in x2 6 then (d_State_becomes_16_47_25 n (x2 + (1 : Int32)) (sa (sa V 17 (x2).toNatClampNeg (ga V 48 (x2).toNatClampNeg)) 18 (x2).toNatClampNeg (ga (sa V 17 (x2).toNatClampNeg (ga V 48 (x2).toNatClampNeg)) 49 (x2).toNatClampNeg))) else none) else none) else none) else none)
set_option maxRecDepth 20000 in
theorem t_State_becomes_16_47_25 {X : ai_S} {e : Nat} (hd : 0 ≤ e)  : ∀ (n : Nat) (x2 : Int32) (V : ai_V) (r : ai_V), d_State_becomes_16_47_25  n x2 V = some r → Rn e 44 25 [(0, .ref 16), (1, .ref 47), (2, .int x2)] [] (SH ++ X) V none (SH ++ X) r := by
  intro n
  induction n with
  | zero =>
    intro x2 V r h
    cases h
  | succ n ih =>
    intro x2 V r h
    rw [d_State_becomes_16_47_25] at h
    refine rn_go 2 (pc' := 28) (l' := [(0, .ref 16), (1, .ref 47), (2, .int x2)]) (st' := [.int (6 : Int32), .int x2]) (S1 := (SH ++ X)) (V1 := V) rfl ?_
    rcases ai_if h with ⟨hc, h⟩ | ⟨hc, h⟩
    · refine rn_brT rfl rfl rfl rfl hc ?_
      obtain rfl := Option.some.inj h
      exact rn_ret rfl rfl rfl
    · refine rn_brF rfl rfl rfl rfl hc ?_
      refine rn_go 6 (pc' := 41) (l' := [(0, .ref 16), (1, .ref 47), (2, .int x2)]) (st' := [.int x2, .ref 48, .int x2, .ref 17]) (S1 := (SH ++ X)) (V1 := V) rfl ?_
      obtain ⟨hg, h⟩ := ai_gd h
      refine rg_iald (n := 6) rfl rfl hg ?_
      obtain ⟨hg, h⟩ := ai_gd h
      refine rg_iast (n := 6) rfl rfl hg ?_
      refine rn_go 6 (pc' := 53) (l' := [(0, .ref 16), (1, .ref 47), (2, .int x2)]) (st' := [.int x2, .ref 49, .int x2, .ref 18]) (S1 := (SH ++ X)) (V1 := (sa V 17 (x2).toNatClampNeg (ga V 48 (x2).toNatClampNeg))) rfl ?_
      obtain ⟨hg, h⟩ := ai_gd h
      refine rg_iald (n := 6) rfl rfl hg ?_
      obtain ⟨hg, h⟩ := ai_gd h
      refine rg_iast (n := 6) rfl rfl hg ?_
      refine rn_go 2 (pc' := 25) (l' := [(2, .int (x2 + (1 : Int32))), (0, .ref 16), (1, .ref 47)]) (st' := []) (S1 := (SH ++ X)) (V1 := (sa (sa V 17 (x2).toNatClampNeg (ga V 48 (x2).toNatClampNeg)) 18 (x2).toNatClampNeg (ga (sa V 17 (x2).toNatClampNeg (ga V 48 (x2).toNatClampNeg)) 49 (x2).toNatClampNeg))) rfl ?_
      exact rn_sub [1, 2, 0] rfl rfl (ih (x2 + (1 : Int32)) (sa (sa V 17 (x2).toNatClampNeg (ga V 48 (x2).toNatClampNeg)) 18 (x2).toNatClampNeg (ga (sa V 17 (x2).toNatClampNeg (ga V 48 (x2).toNatClampNeg)) 49 (x2).toNatClampNeg)) _ h)
def d_State_becomes_16_47  (V : ai_V) : Option ai_V :=
  d_State_becomes_16_47_25 ai_N (0 : Int32) (si (si V 16 0 (gi V 47 0)) 16 1 (ai_min (gi (si V 16 0 (gi V 47 0)) 47 1) (gi (si V 16 0 (gi V 47 0)) 16 2)))
set_option maxRecDepth 20000 in
theorem t_State_becomes_16_47 {X : ai_S} {e : Nat} (hd : 0 ≤ e)  {V : ai_V} {r : ai_V} (h : d_State_becomes_16_47  V = some r) : Rn e 44 0 (lv_args 0 [.ref 16, .ref 47]) [] (SH ++ X) V none (SH ++ X) r := by
  rw [d_State_becomes_16_47] at h
  refine rn_go 13 (pc' := 25) (l' := [(2, .int (0 : Int32)), (0, .ref 16), (1, .ref 47)]) (st' := []) (S1 := (SH ++ X)) (V1 := (si (si V 16 0 (gi V 47 0)) 16 1 (ai_min (gi (si V 16 0 (gi V 47 0)) 47 1) (gi (si V 16 0 (gi V 47 0)) 16 2)))) rfl ?_
  exact rn_sub [1, 2, 0] rfl rfl (t_State_becomes_16_47_25 (X := X) hd ai_N (0 : Int32) (si (si V 16 0 (gi V 47 0)) 16 1 (ai_min (gi (si V 16 0 (gi V 47 0)) 47 1) (gi (si V 16 0 (gi V 47 0)) 16 2))) _ h)
-- RentByTheWheel$State.becomes(LRentByTheWheel$State;)V (16, 44)
def d_State_becomes_16_44_25  : Nat → Int32 → ai_V → Option ai_V
  | 0, _, _ => none
  | n + 1, x2, V => if (6 : Int32) ≤ x2 then (some V) else (if ai_in x2 6 then (if ai_in x2 6 then (if ai_in x2 6 then (if ai_in x2 6 then (d_State_becomes_16_44_25 n (x2 + (1 : Int32)) (sa (sa V 17 (x2).toNatClampNeg (ga V 45 (x2).toNatClampNeg)) 18 (x2).toNatClampNeg (ga (sa V 17 (x2).toNatClampNeg (ga V 45 (x2).toNatClampNeg)) 46 (x2).toNatClampNeg))) else none) else none) else none) else none)
set_option maxRecDepth 20000 in
theorem t_State_becomes_16_44_25 {X : ai_S} {e : Nat} (hd : 0 ≤ e)  : ∀ (n : Nat) (x2 : Int32) (V : ai_V) (r : ai_V), d_State_becomes_16_44_25  n x2 V = some r → Rn e 44 25 [(0, .ref 16), (1, .ref 44), (2, .int x2)] [] (SH ++ X) V none (SH ++ X) r := by
  intro n
  induction n with
  | zero =>
    intro x2 V r h
    cases h
  | succ n ih =>
    intro x2 V r h
    rw [d_State_becomes_16_44_25] at h
    refine rn_go 2 (pc' := 28) (l' := [(0, .ref 16), (1, .ref 44), (2, .int x2)]) (st' := [.int (6 : Int32), .int x2]) (S1 := (SH ++ X)) (V1 := V) rfl ?_
    rcases ai_if h with ⟨hc, h⟩ | ⟨hc, h⟩
    · refine rn_brT rfl rfl rfl rfl hc ?_
      obtain rfl := Option.some.inj h
      exact rn_ret rfl rfl rfl
    · refine rn_brF rfl rfl rfl rfl hc ?_
      refine rn_go 6 (pc' := 41) (l' := [(0, .ref 16), (1, .ref 44), (2, .int x2)]) (st' := [.int x2, .ref 45, .int x2, .ref 17]) (S1 := (SH ++ X)) (V1 := V) rfl ?_
      obtain ⟨hg, h⟩ := ai_gd h
      refine rg_iald (n := 6) rfl rfl hg ?_
      obtain ⟨hg, h⟩ := ai_gd h
      refine rg_iast (n := 6) rfl rfl hg ?_
      refine rn_go 6 (pc' := 53) (l' := [(0, .ref 16), (1, .ref 44), (2, .int x2)]) (st' := [.int x2, .ref 46, .int x2, .ref 18]) (S1 := (SH ++ X)) (V1 := (sa V 17 (x2).toNatClampNeg (ga V 45 (x2).toNatClampNeg))) rfl ?_
      obtain ⟨hg, h⟩ := ai_gd h
      refine rg_iald (n := 6) rfl rfl hg ?_
      obtain ⟨hg, h⟩ := ai_gd h
      refine rg_iast (n := 6) rfl rfl hg ?_
      refine rn_go 2 (pc' := 25) (l' := [(2, .int (x2 + (1 : Int32))), (0, .ref 16), (1, .ref 44)]) (st' := []) (S1 := (SH ++ X)) (V1 := (sa (sa V 17 (x2).toNatClampNeg (ga V 45 (x2).toNatClampNeg)) 18 (x2).toNatClampNeg (ga (sa V 17 (x2).toNatClampNeg (ga V 45 (x2).toNatClampNeg)) 46 (x2).toNatClampNeg))) rfl ?_
      exact rn_sub [1, 2, 0] rfl rfl (ih (x2 + (1 : Int32)) (sa (sa V 17 (x2).toNatClampNeg (ga V 45 (x2).toNatClampNeg)) 18 (x2).toNatClampNeg (ga (sa V 17 (x2).toNatClampNeg (ga V 45 (x2).toNatClampNeg)) 46 (x2).toNatClampNeg)) _ h)
def d_State_becomes_16_44  (V : ai_V) : Option ai_V :=
  d_State_becomes_16_44_25 ai_N (0 : Int32) (si (si V 16 0 (gi V 44 0)) 16 1 (ai_min (gi (si V 16 0 (gi V 44 0)) 44 1) (gi (si V 16 0 (gi V 44 0)) 16 2)))
set_option maxRecDepth 20000 in
theorem t_State_becomes_16_44 {X : ai_S} {e : Nat} (hd : 0 ≤ e)  {V : ai_V} {r : ai_V} (h : d_State_becomes_16_44  V = some r) : Rn e 44 0 (lv_args 0 [.ref 16, .ref 44]) [] (SH ++ X) V none (SH ++ X) r := by
  rw [d_State_becomes_16_44] at h
  refine rn_go 13 (pc' := 25) (l' := [(2, .int (0 : Int32)), (0, .ref 16), (1, .ref 44)]) (st' := []) (S1 := (SH ++ X)) (V1 := (si (si V 16 0 (gi V 44 0)) 16 1 (ai_min (gi (si V 16 0 (gi V 44 0)) 44 1) (gi (si V 16 0 (gi V 44 0)) 16 2)))) rfl ?_
  exact rn_sub [1, 2, 0] rfl rfl (t_State_becomes_16_44_25 (X := X) hd ai_N (0 : Int32) (si (si V 16 0 (gi V 44 0)) 16 1 (ai_min (gi (si V 16 0 (gi V 44 0)) 44 1) (gi (si V 16 0 (gi V 44 0)) 16 2))) _ h)
-- RentByTheWheel$State.becomes(LRentByTheWheel$State;)V (16, 41)
def d_State_becomes_16_41_25  : Nat → Int32 → ai_V → Option ai_V
  | 0, _, _ => none
  | n + 1, x2, V => if (6 : Int32) ≤ x2 then (some V) else (if ai_in x2 6 then (if ai_in x2 6 then (if ai_in x2 6 then (if ai_in x2 6 then (d_State_becomes_16_41_25 n (x2 + (1 : Int32)) (sa (sa V 17 (x2).toNatClampNeg (ga V 42 (x2).toNatClampNeg)) 18 (x2).toNatClampNeg (ga (sa V 17 (x2).toNatClampNeg (ga V 42 (x2).toNatClampNeg)) 43 (x2).toNatClampNeg))) else none) else none) else none) else none)
set_option maxRecDepth 20000 in
theorem t_State_becomes_16_41_25 {X : ai_S} {e : Nat} (hd : 0 ≤ e)  : ∀ (n : Nat) (x2 : Int32) (V : ai_V) (r : ai_V), d_State_becomes_16_41_25  n x2 V = some r → Rn e 44 25 [(0, .ref 16), (1, .ref 41), (2, .int x2)] [] (SH ++ X) V none (SH ++ X) r := by
  intro n
  induction n with
  | zero =>
    intro x2 V r h
    cases h
  | succ n ih =>
    intro x2 V r h
    rw [d_State_becomes_16_41_25] at h
    refine rn_go 2 (pc' := 28) (l' := [(0, .ref 16), (1, .ref 41), (2, .int x2)]) (st' := [.int (6 : Int32), .int x2]) (S1 := (SH ++ X)) (V1 := V) rfl ?_
    rcases ai_if h with ⟨hc, h⟩ | ⟨hc, h⟩
    · refine rn_brT rfl rfl rfl rfl hc ?_
      obtain rfl := Option.some.inj h
      exact rn_ret rfl rfl rfl
    · refine rn_brF rfl rfl rfl rfl hc ?_
      refine rn_go 6 (pc' := 41) (l' := [(0, .ref 16), (1, .ref 41), (2, .int x2)]) (st' := [.int x2, .ref 42, .int x2, .ref 17]) (S1 := (SH ++ X)) (V1 := V) rfl ?_
      obtain ⟨hg, h⟩ := ai_gd h
      refine rg_iald (n := 6) rfl rfl hg ?_
      obtain ⟨hg, h⟩ := ai_gd h
      refine rg_iast (n := 6) rfl rfl hg ?_
      refine rn_go 6 (pc' := 53) (l' := [(0, .ref 16), (1, .ref 41), (2, .int x2)]) (st' := [.int x2, .ref 43, .int x2, .ref 18]) (S1 := (SH ++ X)) (V1 := (sa V 17 (x2).toNatClampNeg (ga V 42 (x2).toNatClampNeg))) rfl ?_
      obtain ⟨hg, h⟩ := ai_gd h
      refine rg_iald (n := 6) rfl rfl hg ?_
      obtain ⟨hg, h⟩ := ai_gd h
      refine rg_iast (n := 6) rfl rfl hg ?_
      refine rn_go 2 (pc' := 25) (l' := [(2, .int (x2 + (1 : Int32))), (0, .ref 16), (1, .ref 41)]) (st' := []) (S1 := (SH ++ X)) (V1 := (sa (sa V 17 (x2).toNatClampNeg (ga V 42 (x2).toNatClampNeg)) 18 (x2).toNatClampNeg (ga (sa V 17 (x2).toNatClampNeg (ga V 42 (x2).toNatClampNeg)) 43 (x2).toNatClampNeg))) rfl ?_
      exact rn_sub [1, 2, 0] rfl rfl (ih (x2 + (1 : Int32)) (sa (sa V 17 (x2).toNatClampNeg (ga V 42 (x2).toNatClampNeg)) 18 (x2).toNatClampNeg (ga (sa V 17 (x2).toNatClampNeg (ga V 42 (x2).toNatClampNeg)) 43 (x2).toNatClampNeg)) _ h)
def d_State_becomes_16_41  (V : ai_V) : Option ai_V :=
  d_State_becomes_16_41_25 ai_N (0 : Int32) (si (si V 16 0 (gi V 41 0)) 16 1 (ai_min (gi (si V 16 0 (gi V 41 0)) 41 1) (gi (si V 16 0 (gi V 41 0)) 16 2)))
set_option maxRecDepth 20000 in
theorem t_State_becomes_16_41 {X : ai_S} {e : Nat} (hd : 0 ≤ e)  {V : ai_V} {r : ai_V} (h : d_State_becomes_16_41  V = some r) : Rn e 44 0 (lv_args 0 [.ref 16, .ref 41]) [] (SH ++ X) V none (SH ++ X) r := by
  rw [d_State_becomes_16_41] at h
  refine rn_go 13 (pc' := 25) (l' := [(2, .int (0 : Int32)), (0, .ref 16), (1, .ref 41)]) (st' := []) (S1 := (SH ++ X)) (V1 := (si (si V 16 0 (gi V 41 0)) 16 1 (ai_min (gi (si V 16 0 (gi V 41 0)) 41 1) (gi (si V 16 0 (gi V 41 0)) 16 2)))) rfl ?_
  exact rn_sub [1, 2, 0] rfl rfl (t_State_becomes_16_41_25 (X := X) hd ai_N (0 : Int32) (si (si V 16 0 (gi V 41 0)) 16 1 (ai_min (gi (si V 16 0 (gi V 41 0)) 41 1) (gi (si V 16 0 (gi V 41 0)) 16 2))) _ h)
-- RentByTheWheel$State.becomes(LRentByTheWheel$State;)V (16, 38)
def d_State_becomes_16_38_25  : Nat → Int32 → ai_V → Option ai_V
  | 0, _, _ => none
  | n + 1, x2, V => if (6 : Int32) ≤ x2 then (some V) else (if ai_in x2 6 then (if ai_in x2 6 then (if ai_in x2 6 then (if ai_in x2 6 then (d_State_becomes_16_38_25 n (x2 + (1 : Int32)) (sa (sa V 17 (x2).toNatClampNeg (ga V 39 (x2).toNatClampNeg)) 18 (x2).toNatClampNeg (ga (sa V 17 (x2).toNatClampNeg (ga V 39 (x2).toNatClampNeg)) 40 (x2).toNatClampNeg))) else none) else none) else none) else none)
set_option maxRecDepth 20000 in
theorem t_State_becomes_16_38_25 {X : ai_S} {e : Nat} (hd : 0 ≤ e)  : ∀ (n : Nat) (x2 : Int32) (V : ai_V) (r : ai_V), d_State_becomes_16_38_25  n x2 V = some r → Rn e 44 25 [(0, .ref 16), (1, .ref 38), (2, .int x2)] [] (SH ++ X) V none (SH ++ X) r := by
  intro n
  induction n with
  | zero =>
    intro x2 V r h
    cases h
  | succ n ih =>
    intro x2 V r h
    rw [d_State_becomes_16_38_25] at h
    refine rn_go 2 (pc' := 28) (l' := [(0, .ref 16), (1, .ref 38), (2, .int x2)]) (st' := [.int (6 : Int32), .int x2]) (S1 := (SH ++ X)) (V1 := V) rfl ?_
    rcases ai_if h with ⟨hc, h⟩ | ⟨hc, h⟩
    · refine rn_brT rfl rfl rfl rfl hc ?_
      obtain rfl := Option.some.inj h
      exact rn_ret rfl rfl rfl
    · refine rn_brF rfl rfl rfl rfl hc ?_
      refine rn_go 6 (pc' := 41) (l' := [(0, .ref 16), (1, .ref 38), (2, .int x2)]) (st' := [.int x2, .ref 39, .int x2, .ref 17]) (S1 := (SH ++ X)) (V1 := V) rfl ?_
      obtain ⟨hg, h⟩ := ai_gd h
      refine rg_iald (n := 6) rfl rfl hg ?_
      obtain ⟨hg, h⟩ := ai_gd h
      refine rg_iast (n := 6) rfl rfl hg ?_
      refine rn_go 6 (pc' := 53) (l' := [(0, .ref 16), (1, .ref 38), (2, .int x2)]) (st' := [.int x2, .ref 40, .int x2, .ref 18]) (S1 := (SH ++ X)) (V1 := (sa V 17 (x2).toNatClampNeg (ga V 39 (x2).toNatClampNeg))) rfl ?_
      obtain ⟨hg, h⟩ := ai_gd h
      refine rg_iald (n := 6) rfl rfl hg ?_
      obtain ⟨hg, h⟩ := ai_gd h
      refine rg_iast (n := 6) rfl rfl hg ?_
      refine rn_go 2 (pc' := 25) (l' := [(2, .int (x2 + (1 : Int32))), (0, .ref 16), (1, .ref 38)]) (st' := []) (S1 := (SH ++ X)) (V1 := (sa (sa V 17 (x2).toNatClampNeg (ga V 39 (x2).toNatClampNeg)) 18 (x2).toNatClampNeg (ga (sa V 17 (x2).toNatClampNeg (ga V 39 (x2).toNatClampNeg)) 40 (x2).toNatClampNeg))) rfl ?_
      exact rn_sub [1, 2, 0] rfl rfl (ih (x2 + (1 : Int32)) (sa (sa V 17 (x2).toNatClampNeg (ga V 39 (x2).toNatClampNeg)) 18 (x2).toNatClampNeg (ga (sa V 17 (x2).toNatClampNeg (ga V 39 (x2).toNatClampNeg)) 40 (x2).toNatClampNeg)) _ h)
def d_State_becomes_16_38  (V : ai_V) : Option ai_V :=
  d_State_becomes_16_38_25 ai_N (0 : Int32) (si (si V 16 0 (gi V 38 0)) 16 1 (ai_min (gi (si V 16 0 (gi V 38 0)) 38 1) (gi (si V 16 0 (gi V 38 0)) 16 2)))
set_option maxRecDepth 20000 in
theorem t_State_becomes_16_38 {X : ai_S} {e : Nat} (hd : 0 ≤ e)  {V : ai_V} {r : ai_V} (h : d_State_becomes_16_38  V = some r) : Rn e 44 0 (lv_args 0 [.ref 16, .ref 38]) [] (SH ++ X) V none (SH ++ X) r := by
  rw [d_State_becomes_16_38] at h
  refine rn_go 13 (pc' := 25) (l' := [(2, .int (0 : Int32)), (0, .ref 16), (1, .ref 38)]) (st' := []) (S1 := (SH ++ X)) (V1 := (si (si V 16 0 (gi V 38 0)) 16 1 (ai_min (gi (si V 16 0 (gi V 38 0)) 38 1) (gi (si V 16 0 (gi V 38 0)) 16 2)))) rfl ?_
  exact rn_sub [1, 2, 0] rfl rfl (t_State_becomes_16_38_25 (X := X) hd ai_N (0 : Int32) (si (si V 16 0 (gi V 38 0)) 16 1 (ai_min (gi (si V 16 0 (gi V 38 0)) 38 1) (gi (si V 16 0 (gi V 38 0)) 16 2))) _ h)
-- RentByTheWheel$State.becomes(LRentByTheWheel$State;)V (16, 35)
def d_State_becomes_16_35_25  : Nat → Int32 → ai_V → Option ai_V
  | 0, _, _ => none
  | n + 1, x2, V => if (6 : Int32) ≤ x2 then (some V) else (if ai_in x2 6 then (if ai_in x2 6 then (if ai_in x2 6 then (if ai_in x2 6 then (d_State_becomes_16_35_25 n (x2 + (1 : Int32)) (sa (sa V 17 (x2).toNatClampNeg (ga V 36 (x2).toNatClampNeg)) 18 (x2).toNatClampNeg (ga (sa V 17 (x2).toNatClampNeg (ga V 36 (x2).toNatClampNeg)) 37 (x2).toNatClampNeg))) else none) else none) else none) else none)
set_option maxRecDepth 20000 in
theorem t_State_becomes_16_35_25 {X : ai_S} {e : Nat} (hd : 0 ≤ e)  : ∀ (n : Nat) (x2 : Int32) (V : ai_V) (r : ai_V), d_State_becomes_16_35_25  n x2 V = some r → Rn e 44 25 [(0, .ref 16), (1, .ref 35), (2, .int x2)] [] (SH ++ X) V none (SH ++ X) r := by
  intro n
  induction n with
  | zero =>
    intro x2 V r h
    cases h
  | succ n ih =>
    intro x2 V r h
    rw [d_State_becomes_16_35_25] at h
    refine rn_go 2 (pc' := 28) (l' := [(0, .ref 16), (1, .ref 35), (2, .int x2)]) (st' := [.int (6 : Int32), .int x2]) (S1 := (SH ++ X)) (V1 := V) rfl ?_
    rcases ai_if h with ⟨hc, h⟩ | ⟨hc, h⟩
    · refine rn_brT rfl rfl rfl rfl hc ?_
      obtain rfl := Option.some.inj h
      exact rn_ret rfl rfl rfl
    · refine rn_brF rfl rfl rfl rfl hc ?_
      refine rn_go 6 (pc' := 41) (l' := [(0, .ref 16), (1, .ref 35), (2, .int x2)]) (st' := [.int x2, .ref 36, .int x2, .ref 17]) (S1 := (SH ++ X)) (V1 := V) rfl ?_
      obtain ⟨hg, h⟩ := ai_gd h
      refine rg_iald (n := 6) rfl rfl hg ?_
      obtain ⟨hg, h⟩ := ai_gd h
      refine rg_iast (n := 6) rfl rfl hg ?_
      refine rn_go 6 (pc' := 53) (l' := [(0, .ref 16), (1, .ref 35), (2, .int x2)]) (st' := [.int x2, .ref 37, .int x2, .ref 18]) (S1 := (SH ++ X)) (V1 := (sa V 17 (x2).toNatClampNeg (ga V 36 (x2).toNatClampNeg))) rfl ?_
      obtain ⟨hg, h⟩ := ai_gd h
      refine rg_iald (n := 6) rfl rfl hg ?_
      obtain ⟨hg, h⟩ := ai_gd h
      refine rg_iast (n := 6) rfl rfl hg ?_
      refine rn_go 2 (pc' := 25) (l' := [(2, .int (x2 + (1 : Int32))), (0, .ref 16), (1, .ref 35)]) (st' := []) (S1 := (SH ++ X)) (V1 := (sa (sa V 17 (x2).toNatClampNeg (ga V 36 (x2).toNatClampNeg)) 18 (x2).toNatClampNeg (ga (sa V 17 (x2).toNatClampNeg (ga V 36 (x2).toNatClampNeg)) 37 (x2).toNatClampNeg))) rfl ?_
      exact rn_sub [1, 2, 0] rfl rfl (ih (x2 + (1 : Int32)) (sa (sa V 17 (x2).toNatClampNeg (ga V 36 (x2).toNatClampNeg)) 18 (x2).toNatClampNeg (ga (sa V 17 (x2).toNatClampNeg (ga V 36 (x2).toNatClampNeg)) 37 (x2).toNatClampNeg)) _ h)
def d_State_becomes_16_35  (V : ai_V) : Option ai_V :=
  d_State_becomes_16_35_25 ai_N (0 : Int32) (si (si V 16 0 (gi V 35 0)) 16 1 (ai_min (gi (si V 16 0 (gi V 35 0)) 35 1) (gi (si V 16 0 (gi V 35 0)) 16 2)))
set_option maxRecDepth 20000 in
theorem t_State_becomes_16_35 {X : ai_S} {e : Nat} (hd : 0 ≤ e)  {V : ai_V} {r : ai_V} (h : d_State_becomes_16_35  V = some r) : Rn e 44 0 (lv_args 0 [.ref 16, .ref 35]) [] (SH ++ X) V none (SH ++ X) r := by
  rw [d_State_becomes_16_35] at h
  refine rn_go 13 (pc' := 25) (l' := [(2, .int (0 : Int32)), (0, .ref 16), (1, .ref 35)]) (st' := []) (S1 := (SH ++ X)) (V1 := (si (si V 16 0 (gi V 35 0)) 16 1 (ai_min (gi (si V 16 0 (gi V 35 0)) 35 1) (gi (si V 16 0 (gi V 35 0)) 16 2)))) rfl ?_
  exact rn_sub [1, 2, 0] rfl rfl (t_State_becomes_16_35_25 (X := X) hd ai_N (0 : Int32) (si (si V 16 0 (gi V 35 0)) 16 1 (ai_min (gi (si V 16 0 (gi V 35 0)) 35 1) (gi (si V 16 0 (gi V 35 0)) 16 2))) _ h)
-- RentByTheWheel$State.becomes(LRentByTheWheel$State;)V (16, 32)
def d_State_becomes_16_32_25  : Nat → Int32 → ai_V → Option ai_V
  | 0, _, _ => none
  | n + 1, x2, V => if (6 : Int32) ≤ x2 then (some V) else (if ai_in x2 6 then (if ai_in x2 6 then (if ai_in x2 6 then (if ai_in x2 6 then (d_State_becomes_16_32_25 n (x2 + (1 : Int32)) (sa (sa V 17 (x2).toNatClampNeg (ga V 33 (x2).toNatClampNeg)) 18 (x2).toNatClampNeg (ga (sa V 17 (x2).toNatClampNeg (ga V 33 (x2).toNatClampNeg)) 34 (x2).toNatClampNeg))) else none) else none) else none) else none)
set_option maxRecDepth 20000 in
theorem t_State_becomes_16_32_25 {X : ai_S} {e : Nat} (hd : 0 ≤ e)  : ∀ (n : Nat) (x2 : Int32) (V : ai_V) (r : ai_V), d_State_becomes_16_32_25  n x2 V = some r → Rn e 44 25 [(0, .ref 16), (1, .ref 32), (2, .int x2)] [] (SH ++ X) V none (SH ++ X) r := by
  intro n
  induction n with
  | zero =>
    intro x2 V r h
    cases h
  | succ n ih =>
    intro x2 V r h
    rw [d_State_becomes_16_32_25] at h
    refine rn_go 2 (pc' := 28) (l' := [(0, .ref 16), (1, .ref 32), (2, .int x2)]) (st' := [.int (6 : Int32), .int x2]) (S1 := (SH ++ X)) (V1 := V) rfl ?_
    rcases ai_if h with ⟨hc, h⟩ | ⟨hc, h⟩
    · refine rn_brT rfl rfl rfl rfl hc ?_
      obtain rfl := Option.some.inj h
      exact rn_ret rfl rfl rfl
    · refine rn_brF rfl rfl rfl rfl hc ?_
      refine rn_go 6 (pc' := 41) (l' := [(0, .ref 16), (1, .ref 32), (2, .int x2)]) (st' := [.int x2, .ref 33, .int x2, .ref 17]) (S1 := (SH ++ X)) (V1 := V) rfl ?_
      obtain ⟨hg, h⟩ := ai_gd h
      refine rg_iald (n := 6) rfl rfl hg ?_
      obtain ⟨hg, h⟩ := ai_gd h
      refine rg_iast (n := 6) rfl rfl hg ?_
      refine rn_go 6 (pc' := 53) (l' := [(0, .ref 16), (1, .ref 32), (2, .int x2)]) (st' := [.int x2, .ref 34, .int x2, .ref 18]) (S1 := (SH ++ X)) (V1 := (sa V 17 (x2).toNatClampNeg (ga V 33 (x2).toNatClampNeg))) rfl ?_
      obtain ⟨hg, h⟩ := ai_gd h
      refine rg_iald (n := 6) rfl rfl hg ?_
      obtain ⟨hg, h⟩ := ai_gd h
      refine rg_iast (n := 6) rfl rfl hg ?_
      refine rn_go 2 (pc' := 25) (l' := [(2, .int (x2 + (1 : Int32))), (0, .ref 16), (1, .ref 32)]) (st' := []) (S1 := (SH ++ X)) (V1 := (sa (sa V 17 (x2).toNatClampNeg (ga V 33 (x2).toNatClampNeg)) 18 (x2).toNatClampNeg (ga (sa V 17 (x2).toNatClampNeg (ga V 33 (x2).toNatClampNeg)) 34 (x2).toNatClampNeg))) rfl ?_
      exact rn_sub [1, 2, 0] rfl rfl (ih (x2 + (1 : Int32)) (sa (sa V 17 (x2).toNatClampNeg (ga V 33 (x2).toNatClampNeg)) 18 (x2).toNatClampNeg (ga (sa V 17 (x2).toNatClampNeg (ga V 33 (x2).toNatClampNeg)) 34 (x2).toNatClampNeg)) _ h)
def d_State_becomes_16_32  (V : ai_V) : Option ai_V :=
  d_State_becomes_16_32_25 ai_N (0 : Int32) (si (si V 16 0 (gi V 32 0)) 16 1 (ai_min (gi (si V 16 0 (gi V 32 0)) 32 1) (gi (si V 16 0 (gi V 32 0)) 16 2)))
set_option maxRecDepth 20000 in
theorem t_State_becomes_16_32 {X : ai_S} {e : Nat} (hd : 0 ≤ e)  {V : ai_V} {r : ai_V} (h : d_State_becomes_16_32  V = some r) : Rn e 44 0 (lv_args 0 [.ref 16, .ref 32]) [] (SH ++ X) V none (SH ++ X) r := by
  rw [d_State_becomes_16_32] at h
  refine rn_go 13 (pc' := 25) (l' := [(2, .int (0 : Int32)), (0, .ref 16), (1, .ref 32)]) (st' := []) (S1 := (SH ++ X)) (V1 := (si (si V 16 0 (gi V 32 0)) 16 1 (ai_min (gi (si V 16 0 (gi V 32 0)) 32 1) (gi (si V 16 0 (gi V 32 0)) 16 2)))) rfl ?_
  exact rn_sub [1, 2, 0] rfl rfl (t_State_becomes_16_32_25 (X := X) hd ai_N (0 : Int32) (si (si V 16 0 (gi V 32 0)) 16 1 (ai_min (gi (si V 16 0 (gi V 32 0)) 32 1) (gi (si V 16 0 (gi V 32 0)) 16 2))) _ h)
-- RentByTheWheel$State.becomes(LRentByTheWheel$State;)V (16, 29)
def d_State_becomes_16_29_25  : Nat → Int32 → ai_V → Option ai_V
  | 0, _, _ => none
  | n + 1, x2, V => if (6 : Int32) ≤ x2 then (some V) else (if ai_in x2 6 then (if ai_in x2 6 then (if ai_in x2 6 then (if ai_in x2 6 then (d_State_becomes_16_29_25 n (x2 + (1 : Int32)) (sa (sa V 17 (x2).toNatClampNeg (ga V 30 (x2).toNatClampNeg)) 18 (x2).toNatClampNeg (ga (sa V 17 (x2).toNatClampNeg (ga V 30 (x2).toNatClampNeg)) 31 (x2).toNatClampNeg))) else none) else none) else none) else none)
set_option maxRecDepth 20000 in
theorem t_State_becomes_16_29_25 {X : ai_S} {e : Nat} (hd : 0 ≤ e)  : ∀ (n : Nat) (x2 : Int32) (V : ai_V) (r : ai_V), d_State_becomes_16_29_25  n x2 V = some r → Rn e 44 25 [(0, .ref 16), (1, .ref 29), (2, .int x2)] [] (SH ++ X) V none (SH ++ X) r := by
  intro n
  induction n with
  | zero =>
    intro x2 V r h
    cases h
  | succ n ih =>
    intro x2 V r h
    rw [d_State_becomes_16_29_25] at h
    refine rn_go 2 (pc' := 28) (l' := [(0, .ref 16), (1, .ref 29), (2, .int x2)]) (st' := [.int (6 : Int32), .int x2]) (S1 := (SH ++ X)) (V1 := V) rfl ?_
    rcases ai_if h with ⟨hc, h⟩ | ⟨hc, h⟩
    · refine rn_brT rfl rfl rfl rfl hc ?_
      obtain rfl := Option.some.inj h
      exact rn_ret rfl rfl rfl
    · refine rn_brF rfl rfl rfl rfl hc ?_
      refine rn_go 6 (pc' := 41) (l' := [(0, .ref 16), (1, .ref 29), (2, .int x2)]) (st' := [.int x2, .ref 30, .int x2, .ref 17]) (S1 := (SH ++ X)) (V1 := V) rfl ?_
      obtain ⟨hg, h⟩ := ai_gd h
      refine rg_iald (n := 6) rfl rfl hg ?_
      obtain ⟨hg, h⟩ := ai_gd h
      refine rg_iast (n := 6) rfl rfl hg ?_
      refine rn_go 6 (pc' := 53) (l' := [(0, .ref 16), (1, .ref 29), (2, .int x2)]) (st' := [.int x2, .ref 31, .int x2, .ref 18]) (S1 := (SH ++ X)) (V1 := (sa V 17 (x2).toNatClampNeg (ga V 30 (x2).toNatClampNeg))) rfl ?_
      obtain ⟨hg, h⟩ := ai_gd h
      refine rg_iald (n := 6) rfl rfl hg ?_
      obtain ⟨hg, h⟩ := ai_gd h
      refine rg_iast (n := 6) rfl rfl hg ?_
      refine rn_go 2 (pc' := 25) (l' := [(2, .int (x2 + (1 : Int32))), (0, .ref 16), (1, .ref 29)]) (st' := []) (S1 := (SH ++ X)) (V1 := (sa (sa V 17 (x2).toNatClampNeg (ga V 30 (x2).toNatClampNeg)) 18 (x2).toNatClampNeg (ga (sa V 17 (x2).toNatClampNeg (ga V 30 (x2).toNatClampNeg)) 31 (x2).toNatClampNeg))) rfl ?_
      exact rn_sub [1, 2, 0] rfl rfl (ih (x2 + (1 : Int32)) (sa (sa V 17 (x2).toNatClampNeg (ga V 30 (x2).toNatClampNeg)) 18 (x2).toNatClampNeg (ga (sa V 17 (x2).toNatClampNeg (ga V 30 (x2).toNatClampNeg)) 31 (x2).toNatClampNeg)) _ h)
def d_State_becomes_16_29  (V : ai_V) : Option ai_V :=
  d_State_becomes_16_29_25 ai_N (0 : Int32) (si (si V 16 0 (gi V 29 0)) 16 1 (ai_min (gi (si V 16 0 (gi V 29 0)) 29 1) (gi (si V 16 0 (gi V 29 0)) 16 2)))
set_option maxRecDepth 20000 in
theorem t_State_becomes_16_29 {X : ai_S} {e : Nat} (hd : 0 ≤ e)  {V : ai_V} {r : ai_V} (h : d_State_becomes_16_29  V = some r) : Rn e 44 0 (lv_args 0 [.ref 16, .ref 29]) [] (SH ++ X) V none (SH ++ X) r := by
  rw [d_State_becomes_16_29] at h
  refine rn_go 13 (pc' := 25) (l' := [(2, .int (0 : Int32)), (0, .ref 16), (1, .ref 29)]) (st' := []) (S1 := (SH ++ X)) (V1 := (si (si V 16 0 (gi V 29 0)) 16 1 (ai_min (gi (si V 16 0 (gi V 29 0)) 29 1) (gi (si V 16 0 (gi V 29 0)) 16 2)))) rfl ?_
  exact rn_sub [1, 2, 0] rfl rfl (t_State_becomes_16_29_25 (X := X) hd ai_N (0 : Int32) (si (si V 16 0 (gi V 29 0)) 16 1 (ai_min (gi (si V 16 0 (gi V 29 0)) 29 1) (gi (si V 16 0 (gi V 29 0)) 16 2))) _ h)
-- RentByTheWheel$State.becomes(LRentByTheWheel$State;)V (16, 26)
def d_State_becomes_16_26_25  : Nat → Int32 → ai_V → Option ai_V
  | 0, _, _ => none
  | n + 1, x2, V => if (6 : Int32) ≤ x2 then (some V) else (if ai_in x2 6 then (if ai_in x2 6 then (if ai_in x2 6 then (if ai_in x2 6 then (d_State_becomes_16_26_25 n (x2 + (1 : Int32)) (sa (sa V 17 (x2).toNatClampNeg (ga V 27 (x2).toNatClampNeg)) 18 (x2).toNatClampNeg (ga (sa V 17 (x2).toNatClampNeg (ga V 27 (x2).toNatClampNeg)) 28 (x2).toNatClampNeg))) else none) else none) else none) else none)
set_option maxRecDepth 20000 in
theorem t_State_becomes_16_26_25 {X : ai_S} {e : Nat} (hd : 0 ≤ e)  : ∀ (n : Nat) (x2 : Int32) (V : ai_V) (r : ai_V), d_State_becomes_16_26_25  n x2 V = some r → Rn e 44 25 [(0, .ref 16), (1, .ref 26), (2, .int x2)] [] (SH ++ X) V none (SH ++ X) r := by
  intro n
  induction n with
  | zero =>
    intro x2 V r h
    cases h
  | succ n ih =>
    intro x2 V r h
    rw [d_State_becomes_16_26_25] at h
    refine rn_go 2 (pc' := 28) (l' := [(0, .ref 16), (1, .ref 26), (2, .int x2)]) (st' := [.int (6 : Int32), .int x2]) (S1 := (SH ++ X)) (V1 := V) rfl ?_
    rcases ai_if h with ⟨hc, h⟩ | ⟨hc, h⟩
    · refine rn_brT rfl rfl rfl rfl hc ?_
      obtain rfl := Option.some.inj h
      exact rn_ret rfl rfl rfl
    · refine rn_brF rfl rfl rfl rfl hc ?_
      refine rn_go 6 (pc' := 41) (l' := [(0, .ref 16), (1, .ref 26), (2, .int x2)]) (st' := [.int x2, .ref 27, .int x2, .ref 17]) (S1 := (SH ++ X)) (V1 := V) rfl ?_
      obtain ⟨hg, h⟩ := ai_gd h
      refine rg_iald (n := 6) rfl rfl hg ?_
      obtain ⟨hg, h⟩ := ai_gd h
      refine rg_iast (n := 6) rfl rfl hg ?_
      refine rn_go 6 (pc' := 53) (l' := [(0, .ref 16), (1, .ref 26), (2, .int x2)]) (st' := [.int x2, .ref 28, .int x2, .ref 18]) (S1 := (SH ++ X)) (V1 := (sa V 17 (x2).toNatClampNeg (ga V 27 (x2).toNatClampNeg))) rfl ?_
      obtain ⟨hg, h⟩ := ai_gd h
      refine rg_iald (n := 6) rfl rfl hg ?_
      obtain ⟨hg, h⟩ := ai_gd h
      refine rg_iast (n := 6) rfl rfl hg ?_
      refine rn_go 2 (pc' := 25) (l' := [(2, .int (x2 + (1 : Int32))), (0, .ref 16), (1, .ref 26)]) (st' := []) (S1 := (SH ++ X)) (V1 := (sa (sa V 17 (x2).toNatClampNeg (ga V 27 (x2).toNatClampNeg)) 18 (x2).toNatClampNeg (ga (sa V 17 (x2).toNatClampNeg (ga V 27 (x2).toNatClampNeg)) 28 (x2).toNatClampNeg))) rfl ?_
      exact rn_sub [1, 2, 0] rfl rfl (ih (x2 + (1 : Int32)) (sa (sa V 17 (x2).toNatClampNeg (ga V 27 (x2).toNatClampNeg)) 18 (x2).toNatClampNeg (ga (sa V 17 (x2).toNatClampNeg (ga V 27 (x2).toNatClampNeg)) 28 (x2).toNatClampNeg)) _ h)
def d_State_becomes_16_26  (V : ai_V) : Option ai_V :=
  d_State_becomes_16_26_25 ai_N (0 : Int32) (si (si V 16 0 (gi V 26 0)) 16 1 (ai_min (gi (si V 16 0 (gi V 26 0)) 26 1) (gi (si V 16 0 (gi V 26 0)) 16 2)))
set_option maxRecDepth 20000 in
theorem t_State_becomes_16_26 {X : ai_S} {e : Nat} (hd : 0 ≤ e)  {V : ai_V} {r : ai_V} (h : d_State_becomes_16_26  V = some r) : Rn e 44 0 (lv_args 0 [.ref 16, .ref 26]) [] (SH ++ X) V none (SH ++ X) r := by
  rw [d_State_becomes_16_26] at h
  refine rn_go 13 (pc' := 25) (l' := [(2, .int (0 : Int32)), (0, .ref 16), (1, .ref 26)]) (st' := []) (S1 := (SH ++ X)) (V1 := (si (si V 16 0 (gi V 26 0)) 16 1 (ai_min (gi (si V 16 0 (gi V 26 0)) 26 1) (gi (si V 16 0 (gi V 26 0)) 16 2)))) rfl ?_
  exact rn_sub [1, 2, 0] rfl rfl (t_State_becomes_16_26_25 (X := X) hd ai_N (0 : Int32) (si (si V 16 0 (gi V 26 0)) 16 1 (ai_min (gi (si V 16 0 (gi V 26 0)) 26 1) (gi (si V 16 0 (gi V 26 0)) 16 2))) _ h)
-- RentByTheWheel$Past.takeBack(LRentByTheWheel$State;)Z (24, 16)
def d_Past_takeBack  (V : ai_V) : Option (Int32 × ai_V) :=
  if ¬ (gi V 24 1) = 0 then (if (gi (si (si V 24 2 ((((gi V 24 2) + (12 : Int32)) - (1 : Int32)) - (((gi V 24 2) + (12 : Int32)) - (1 : Int32)) / (12 : Int32) * (12 : Int32))) 24 1 ((gi (si V 24 2 ((((gi V 24 2) + (12 : Int32)) - (1 : Int32)) - (((gi V 24 2) + (12 : Int32)) - (1 : Int32)) / (12 : Int32) * (12 : Int32))) 24 1) - (1 : Int32))) 24 2) = (0 : Int32) then ((d_State_becomes_16_26  (si (si V 24 2 ((((gi V 24 2) + (12 : Int32)) - (1 : Int32)) - (((gi V 24 2) + (12 : Int32)) - (1 : Int32)) / (12 : Int32) * (12 : Int32))) 24 1 ((gi (si V 24 2 ((((gi V 24 2) + (12 : Int32)) - (1 : Int32)) - (((gi V 24 2) + (12 : Int32)) - (1 : Int32)) / (12 : Int32) * (12 : Int32))) 24 1) - (1 : Int32)))).bind fun q12 => (some ((1 : Int32), q12))) else (if (gi (si (si V 24 2 ((((gi V 24 2) + (12 : Int32)) - (1 : Int32)) - (((gi V 24 2) + (12 : Int32)) - (1 : Int32)) / (12 : Int32) * (12 : Int32))) 24 1 ((gi (si V 24 2 ((((gi V 24 2) + (12 : Int32)) - (1 : Int32)) - (((gi V 24 2) + (12 : Int32)) - (1 : Int32)) / (12 : Int32) * (12 : Int32))) 24 1) - (1 : Int32))) 24 2) = (1 : Int32) then ((d_State_becomes_16_29  (si (si V 24 2 ((((gi V 24 2) + (12 : Int32)) - (1 : Int32)) - (((gi V 24 2) + (12 : Int32)) - (1 : Int32)) / (12 : Int32) * (12 : Int32))) 24 1 ((gi (si V 24 2 ((((gi V 24 2) + (12 : Int32)) - (1 : Int32)) - (((gi V 24 2) + (12 : Int32)) - (1 : Int32)) / (12 : Int32) * (12 : Int32))) 24 1) - (1 : Int32)))).bind fun q11 => (some ((1 : Int32), q11))) else (if (gi (si (si V 24 2 ((((gi V 24 2) + (12 : Int32)) - (1 : Int32)) - (((gi V 24 2) + (12 : Int32)) - (1 : Int32)) / (12 : Int32) * (12 : Int32))) 24 1 ((gi (si V 24 2 ((((gi V 24 2) + (12 : Int32)) - (1 : Int32)) - (((gi V 24 2) + (12 : Int32)) - (1 : Int32)) / (12 : Int32) * (12 : Int32))) 24 1) - (1 : Int32))) 24 2) = (2 : Int32) then ((d_State_becomes_16_32  (si (si V 24 2 ((((gi V 24 2) + (12 : Int32)) - (1 : Int32)) - (((gi V 24 2) + (12 : Int32)) - (1 : Int32)) / (12 : Int32) * (12 : Int32))) 24 1 ((gi (si V 24 2 ((((gi V 24 2) + (12 : Int32)) - (1 : Int32)) - (((gi V 24 2) + (12 : Int32)) - (1 : Int32)) / (12 : Int32) * (12 : Int32))) 24 1) - (1 : Int32)))).bind fun q10 => (some ((1 : Int32), q10))) else (if (gi (si (si V 24 2 ((((gi V 24 2) + (12 : Int32)) - (1 : Int32)) - (((gi V 24 2) + (12 : Int32)) - (1 : Int32)) / (12 : Int32) * (12 : Int32))) 24 1 ((gi (si V 24 2 ((((gi V 24 2) + (12 : Int32)) - (1 : Int32)) - (((gi V 24 2) + (12 : Int32)) - (1 : Int32)) / (12 : Int32) * (12 : Int32))) 24 1) - (1 : Int32))) 24 2) = (3 : Int32) then ((d_State_becomes_16_35  (si (si V 24 2 ((((gi V 24 2) + (12 : Int32)) - (1 : Int32)) - (((gi V 24 2) + (12 : Int32)) - (1 : Int32)) / (12 : Int32) * (12 : Int32))) 24 1 ((gi (si V 24 2 ((((gi V 24 2) + (12 : Int32)) - (1 : Int32)) - (((gi V 24 2) + (12 : Int32)) - (1 : Int32)) / (12 : Int32) * (12 : Int32))) 24 1) - (1 : Int32)))).bind fun q9 => (some ((1 : Int32), q9))) else (if (gi (si (si V 24 2 ((((gi V 24 2) + (12 : Int32)) - (1 : Int32)) - (((gi V 24 2) + (12 : Int32)) - (1 : Int32)) / (12 : Int32) * (12 : Int32))) 24 1 ((gi (si V 24 2 ((((gi V 24 2) + (12 : Int32)) - (1 : Int32)) - (((gi V 24 2) + (12 : Int32)) - (1 : Int32)) / (12 : Int32) * (12 : Int32))) 24 1) - (1 : Int32))) 24 2) = (4 : Int32) then ((d_State_becomes_16_38  (si (si V 24 2 ((((gi V 24 2) + (12 : Int32)) - (1 : Int32)) - (((gi V 24 2) + (12 : Int32)) - (1 : Int32)) / (12 : Int32) * (12 : Int32))) 24 1 ((gi (si V 24 2 ((((gi V 24 2) + (12 : Int32)) - (1 : Int32)) - (((gi V 24 2) + (12 : Int32)) - (1 : Int32)) / (12 : Int32) * (12 : Int32))) 24 1) - (1 : Int32)))).bind fun q8 => (some ((1 : Int32), q8))) else (if (gi (si (si V 24 2 ((((gi V 24 2) + (12 : Int32)) - (1 : Int32)) - (((gi V 24 2) + (12 : Int32)) - (1 : Int32)) / (12 : Int32) * (12 : Int32))) 24 1 ((gi (si V 24 2 ((((gi V 24 2) + (12 : Int32)) - (1 : Int32)) - (((gi V 24 2) + (12 : Int32)) - (1 : Int32)) / (12 : Int32) * (12 : Int32))) 24 1) - (1 : Int32))) 24 2) = (5 : Int32) then ((d_State_becomes_16_41  (si (si V 24 2 ((((gi V 24 2) + (12 : Int32)) - (1 : Int32)) - (((gi V 24 2) + (12 : Int32)) - (1 : Int32)) / (12 : Int32) * (12 : Int32))) 24 1 ((gi (si V 24 2 ((((gi V 24 2) + (12 : Int32)) - (1 : Int32)) - (((gi V 24 2) + (12 : Int32)) - (1 : Int32)) / (12 : Int32) * (12 : Int32))) 24 1) - (1 : Int32)))).bind fun q7 => (some ((1 : Int32), q7))) else (if (gi (si (si V 24 2 ((((gi V 24 2) + (12 : Int32)) - (1 : Int32)) - (((gi V 24 2) + (12 : Int32)) - (1 : Int32)) / (12 : Int32) * (12 : Int32))) 24 1 ((gi (si V 24 2 ((((gi V 24 2) + (12 : Int32)) - (1 : Int32)) - (((gi V 24 2) + (12 : Int32)) - (1 : Int32)) / (12 : Int32) * (12 : Int32))) 24 1) - (1 : Int32))) 24 2) = (6 : Int32) then ((d_State_becomes_16_44  (si (si V 24 2 ((((gi V 24 2) + (12 : Int32)) - (1 : Int32)) - (((gi V 24 2) + (12 : Int32)) - (1 : Int32)) / (12 : Int32) * (12 : Int32))) 24 1 ((gi (si V 24 2 ((((gi V 24 2) + (12 : Int32)) - (1 : Int32)) - (((gi V 24 2) + (12 : Int32)) - (1 : Int32)) / (12 : Int32) * (12 : Int32))) 24 1) - (1 : Int32)))).bind fun q6 => (some ((1 : Int32), q6))) else (if (gi (si (si V 24 2 ((((gi V 24 2) + (12 : Int32)) - (1 : Int32)) - (((gi V 24 2) + (12 : Int32)) - (1 : Int32)) / (12 : Int32) * (12 : Int32))) 24 1 ((gi (si V 24 2 ((((gi V 24 2) + (12 : Int32)) - (1 : Int32)) - (((gi V 24 2) + (12 : Int32)) - (1 : Int32)) / (12 : Int32) * (12 : Int32))) 24 1) - (1 : Int32))) 24 2) = (7 : Int32) then ((d_State_becomes_16_47  (si (si V 24 2 ((((gi V 24 2) + (12 : Int32)) - (1 : Int32)) - (((gi V 24 2) + (12 : Int32)) - (1 : Int32)) / (12 : Int32) * (12 : Int32))) 24 1 ((gi (si V 24 2 ((((gi V 24 2) + (12 : Int32)) - (1 : Int32)) - (((gi V 24 2) + (12 : Int32)) - (1 : Int32)) / (12 : Int32) * (12 : Int32))) 24 1) - (1 : Int32)))).bind fun q5 => (some ((1 : Int32), q5))) else (if (gi (si (si V 24 2 ((((gi V 24 2) + (12 : Int32)) - (1 : Int32)) - (((gi V 24 2) + (12 : Int32)) - (1 : Int32)) / (12 : Int32) * (12 : Int32))) 24 1 ((gi (si V 24 2 ((((gi V 24 2) + (12 : Int32)) - (1 : Int32)) - (((gi V 24 2) + (12 : Int32)) - (1 : Int32)) / (12 : Int32) * (12 : Int32))) 24 1) - (1 : Int32))) 24 2) = (8 : Int32) then ((d_State_becomes_16_50  (si (si V 24 2 ((((gi V 24 2) + (12 : Int32)) - (1 : Int32)) - (((gi V 24 2) + (12 : Int32)) - (1 : Int32)) / (12 : Int32) * (12 : Int32))) 24 1 ((gi (si V 24 2 ((((gi V 24 2) + (12 : Int32)) - (1 : Int32)) - (((gi V 24 2) + (12 : Int32)) - (1 : Int32)) / (12 : Int32) * (12 : Int32))) 24 1) - (1 : Int32)))).bind fun q4 => (some ((1 : Int32), q4))) else (if (gi (si (si V 24 2 ((((gi V 24 2) + (12 : Int32)) - (1 : Int32)) - (((gi V 24 2) + (12 : Int32)) - (1 : Int32)) / (12 : Int32) * (12 : Int32))) 24 1 ((gi (si V 24 2 ((((gi V 24 2) + (12 : Int32)) - (1 : Int32)) - (((gi V 24 2) + (12 : Int32)) - (1 : Int32)) / (12 : Int32) * (12 : Int32))) 24 1) - (1 : Int32))) 24 2) = (9 : Int32) then ((d_State_becomes_16_53  (si (si V 24 2 ((((gi V 24 2) + (12 : Int32)) - (1 : Int32)) - (((gi V 24 2) + (12 : Int32)) - (1 : Int32)) / (12 : Int32) * (12 : Int32))) 24 1 ((gi (si V 24 2 ((((gi V 24 2) + (12 : Int32)) - (1 : Int32)) - (((gi V 24 2) + (12 : Int32)) - (1 : Int32)) / (12 : Int32) * (12 : Int32))) 24 1) - (1 : Int32)))).bind fun q3 => (some ((1 : Int32), q3))) else (if (gi (si (si V 24 2 ((((gi V 24 2) + (12 : Int32)) - (1 : Int32)) - (((gi V 24 2) + (12 : Int32)) - (1 : Int32)) / (12 : Int32) * (12 : Int32))) 24 1 ((gi (si V 24 2 ((((gi V 24 2) + (12 : Int32)) - (1 : Int32)) - (((gi V 24 2) + (12 : Int32)) - (1 : Int32)) / (12 : Int32) * (12 : Int32))) 24 1) - (1 : Int32))) 24 2) = (10 : Int32) then ((d_State_becomes_16_56  (si (si V 24 2 ((((gi V 24 2) + (12 : Int32)) - (1 : Int32)) - (((gi V 24 2) + (12 : Int32)) - (1 : Int32)) / (12 : Int32) * (12 : Int32))) 24 1 ((gi (si V 24 2 ((((gi V 24 2) + (12 : Int32)) - (1 : Int32)) - (((gi V 24 2) + (12 : Int32)) - (1 : Int32)) / (12 : Int32) * (12 : Int32))) 24 1) - (1 : Int32)))).bind fun q2 => (some ((1 : Int32), q2))) else (if (gi (si (si V 24 2 ((((gi V 24 2) + (12 : Int32)) - (1 : Int32)) - (((gi V 24 2) + (12 : Int32)) - (1 : Int32)) / (12 : Int32) * (12 : Int32))) 24 1 ((gi (si V 24 2 ((((gi V 24 2) + (12 : Int32)) - (1 : Int32)) - (((gi V 24 2) + (12 : Int32)) - (1 : Int32)) / (12 : Int32) * (12 : Int32))) 24 1) - (1 : Int32))) 24 2) = (11 : Int32) then ((d_State_becomes_16_59  (si (si V 24 2 ((((gi V 24 2) + (12 : Int32)) - (1 : Int32)) - (((gi V 24 2) + (12 : Int32)) - (1 : Int32)) / (12 : Int32) * (12 : Int32))) 24 1 ((gi (si V 24 2 ((((gi V 24 2) + (12 : Int32)) - (1 : Int32)) - (((gi V 24 2) + (12 : Int32)) - (1 : Int32)) / (12 : Int32) * (12 : Int32))) 24 1) - (1 : Int32)))).bind fun q1 => (some ((1 : Int32), q1))) else (none))))))))))))) else (some ((0 : Int32), V))
set_option maxRecDepth 20000 in
theorem t_Past_takeBack {X : ai_S} {e : Nat} (hd : 1 ≤ e)  {V : ai_V} {r : (Int32 × ai_V)} (h : d_Past_takeBack  V = some r) : Rn e 46 0 (lv_args 0 [.ref 24, .ref 16]) [] (SH ++ X) V (some (.int r.1)) (SH ++ X) r.2 := by
  rw [d_Past_takeBack] at h
  refine rn_go 2 (pc' := 4) (l' := [(0, .ref 24), (1, .ref 16)]) (st' := [.int (gi V 24 1)]) (S1 := (SH ++ X)) (V1 := V) rfl ?_
  rcases ai_if h with ⟨hc, h⟩ | ⟨hc, h⟩
  · refine rn_brT rfl rfl rfl rfl hc ?_
    refine rn_go 8 (pc' := 21) (l' := [(0, .ref 24), (1, .ref 16)]) (st' := [.int (12 : Int32), .int (((gi V 24 2) + (12 : Int32)) - (1 : Int32)), .ref 24]) (S1 := (SH ++ X)) (V1 := V) rfl ?_
    refine rg_irem rfl (by decide) ?_
    refine rn_go 12 (pc' := 44) (l' := [(0, .ref 24), (1, .ref 16)]) (st' := [.int (gi (si (si V 24 2 ((((gi V 24 2) + (12 : Int32)) - (1 : Int32)) - (((gi V 24 2) + (12 : Int32)) - (1 : Int32)) / (12 : Int32) * (12 : Int32))) 24 1 ((gi (si V 24 2 ((((gi V 24 2) + (12 : Int32)) - (1 : Int32)) - (((gi V 24 2) + (12 : Int32)) - (1 : Int32)) / (12 : Int32) * (12 : Int32))) 24 1) - (1 : Int32))) 24 2), .ref 25, .ref 16]) (S1 := (SH ++ X)) (V1 := (si (si V 24 2 ((((gi V 24 2) + (12 : Int32)) - (1 : Int32)) - (((gi V 24 2) + (12 : Int32)) - (1 : Int32)) / (12 : Int32) * (12 : Int32))) 24 1 ((gi (si V 24 2 ((((gi V 24 2) + (12 : Int32)) - (1 : Int32)) - (((gi V 24 2) + (12 : Int32)) - (1 : Int32)) / (12 : Int32) * (12 : Int32))) 24 1) - (1 : Int32)))) rfl ?_
    rcases ai_if h with ⟨hc, h⟩ | ⟨hc, h⟩
    · refine rg_aald (n := 12) (q := 26) rfl rfl (by rw [hc]; decide) (by rw [hc]; rfl) ?_
      obtain ⟨q12, hq12, h⟩ := ai_bd h
      refine rn_call rfl rfl rfl rfl rfl rfl (by omega) (t_State_becomes_16_26 (by omega) hq12) ?_
      refine rn_go 1 (pc' := 49) (l' := [(0, .ref 24), (1, .ref 16)]) (st' := [.int (1 : Int32)]) (S1 := (SH ++ X)) (V1 := q12) rfl ?_
      obtain rfl := Option.some.inj h
      exact rg_zret rfl (by decide)
    · rcases ai_if h with ⟨hc, h⟩ | ⟨hc, h⟩
      · refine rg_aald (n := 12) (q := 29) rfl rfl (by rw [hc]; decide) (by rw [hc]; rfl) ?_
        obtain ⟨q11, hq11, h⟩ := ai_bd h
        refine rn_call rfl rfl rfl rfl rfl rfl (by omega) (t_State_becomes_16_29 (by omega) hq11) ?_
        refine rn_go 1 (pc' := 49) (l' := [(0, .ref 24), (1, .ref 16)]) (st' := [.int (1 : Int32)]) (S1 := (SH ++ X)) (V1 := q11) rfl ?_
        obtain rfl := Option.some.inj h
        exact rg_zret rfl (by decide)
      · rcases ai_if h with ⟨hc, h⟩ | ⟨hc, h⟩
        · refine rg_aald (n := 12) (q := 32) rfl rfl (by rw [hc]; decide) (by rw [hc]; rfl) ?_
          obtain ⟨q10, hq10, h⟩ := ai_bd h
          refine rn_call rfl rfl rfl rfl rfl rfl (by omega) (t_State_becomes_16_32 (by omega) hq10) ?_
          refine rn_go 1 (pc' := 49) (l' := [(0, .ref 24), (1, .ref 16)]) (st' := [.int (1 : Int32)]) (S1 := (SH ++ X)) (V1 := q10) rfl ?_
          obtain rfl := Option.some.inj h
          exact rg_zret rfl (by decide)
        · rcases ai_if h with ⟨hc, h⟩ | ⟨hc, h⟩
          · refine rg_aald (n := 12) (q := 35) rfl rfl (by rw [hc]; decide) (by rw [hc]; rfl) ?_
            obtain ⟨q9, hq9, h⟩ := ai_bd h
            refine rn_call rfl rfl rfl rfl rfl rfl (by omega) (t_State_becomes_16_35 (by omega) hq9) ?_
            refine rn_go 1 (pc' := 49) (l' := [(0, .ref 24), (1, .ref 16)]) (st' := [.int (1 : Int32)]) (S1 := (SH ++ X)) (V1 := q9) rfl ?_
            obtain rfl := Option.some.inj h
            exact rg_zret rfl (by decide)
          · rcases ai_if h with ⟨hc, h⟩ | ⟨hc, h⟩
            · refine rg_aald (n := 12) (q := 38) rfl rfl (by rw [hc]; decide) (by rw [hc]; rfl) ?_
              obtain ⟨q8, hq8, h⟩ := ai_bd h
              refine rn_call rfl rfl rfl rfl rfl rfl (by omega) (t_State_becomes_16_38 (by omega) hq8) ?_
              refine rn_go 1 (pc' := 49) (l' := [(0, .ref 24), (1, .ref 16)]) (st' := [.int (1 : Int32)]) (S1 := (SH ++ X)) (V1 := q8) rfl ?_
              obtain rfl := Option.some.inj h
              exact rg_zret rfl (by decide)
            · rcases ai_if h with ⟨hc, h⟩ | ⟨hc, h⟩
              · refine rg_aald (n := 12) (q := 41) rfl rfl (by rw [hc]; decide) (by rw [hc]; rfl) ?_
                obtain ⟨q7, hq7, h⟩ := ai_bd h
                refine rn_call rfl rfl rfl rfl rfl rfl (by omega) (t_State_becomes_16_41 (by omega) hq7) ?_
                refine rn_go 1 (pc' := 49) (l' := [(0, .ref 24), (1, .ref 16)]) (st' := [.int (1 : Int32)]) (S1 := (SH ++ X)) (V1 := q7) rfl ?_
                obtain rfl := Option.some.inj h
                exact rg_zret rfl (by decide)
              · rcases ai_if h with ⟨hc, h⟩ | ⟨hc, h⟩
                · refine rg_aald (n := 12) (q := 44) rfl rfl (by rw [hc]; decide) (by rw [hc]; rfl) ?_
                  obtain ⟨q6, hq6, h⟩ := ai_bd h
                  refine rn_call rfl rfl rfl rfl rfl rfl (by omega) (t_State_becomes_16_44 (by omega) hq6) ?_
                  refine rn_go 1 (pc' := 49) (l' := [(0, .ref 24), (1, .ref 16)]) (st' := [.int (1 : Int32)]) (S1 := (SH ++ X)) (V1 := q6) rfl ?_
                  obtain rfl := Option.some.inj h
                  exact rg_zret rfl (by decide)
                · rcases ai_if h with ⟨hc, h⟩ | ⟨hc, h⟩
                  · refine rg_aald (n := 12) (q := 47) rfl rfl (by rw [hc]; decide) (by rw [hc]; rfl) ?_
                    obtain ⟨q5, hq5, h⟩ := ai_bd h
                    refine rn_call rfl rfl rfl rfl rfl rfl (by omega) (t_State_becomes_16_47 (by omega) hq5) ?_
                    refine rn_go 1 (pc' := 49) (l' := [(0, .ref 24), (1, .ref 16)]) (st' := [.int (1 : Int32)]) (S1 := (SH ++ X)) (V1 := q5) rfl ?_
                    obtain rfl := Option.some.inj h
                    exact rg_zret rfl (by decide)
                  · rcases ai_if h with ⟨hc, h⟩ | ⟨hc, h⟩
                    · refine rg_aald (n := 12) (q := 50) rfl rfl (by rw [hc]; decide) (by rw [hc]; rfl) ?_
                      obtain ⟨q4, hq4, h⟩ := ai_bd h
                      refine rn_call rfl rfl rfl rfl rfl rfl (by omega) (t_State_becomes_16_50 (by omega) hq4) ?_
                      refine rn_go 1 (pc' := 49) (l' := [(0, .ref 24), (1, .ref 16)]) (st' := [.int (1 : Int32)]) (S1 := (SH ++ X)) (V1 := q4) rfl ?_
                      obtain rfl := Option.some.inj h
                      exact rg_zret rfl (by decide)
                    · rcases ai_if h with ⟨hc, h⟩ | ⟨hc, h⟩
                      · refine rg_aald (n := 12) (q := 53) rfl rfl (by rw [hc]; decide) (by rw [hc]; rfl) ?_
                        obtain ⟨q3, hq3, h⟩ := ai_bd h
                        refine rn_call rfl rfl rfl rfl rfl rfl (by omega) (t_State_becomes_16_53 (by omega) hq3) ?_
                        refine rn_go 1 (pc' := 49) (l' := [(0, .ref 24), (1, .ref 16)]) (st' := [.int (1 : Int32)]) (S1 := (SH ++ X)) (V1 := q3) rfl ?_
                        obtain rfl := Option.some.inj h
                        exact rg_zret rfl (by decide)
                      · rcases ai_if h with ⟨hc, h⟩ | ⟨hc, h⟩
                        · refine rg_aald (n := 12) (q := 56) rfl rfl (by rw [hc]; decide) (by rw [hc]; rfl) ?_
                          obtain ⟨q2, hq2, h⟩ := ai_bd h
                          refine rn_call rfl rfl rfl rfl rfl rfl (by omega) (t_State_becomes_16_56 (by omega) hq2) ?_
                          refine rn_go 1 (pc' := 49) (l' := [(0, .ref 24), (1, .ref 16)]) (st' := [.int (1 : Int32)]) (S1 := (SH ++ X)) (V1 := q2) rfl ?_
                          obtain rfl := Option.some.inj h
                          exact rg_zret rfl (by decide)
                        · rcases ai_if h with ⟨hc, h⟩ | ⟨hc, h⟩
                          · refine rg_aald (n := 12) (q := 59) rfl rfl (by rw [hc]; decide) (by rw [hc]; rfl) ?_
                            obtain ⟨q1, hq1, h⟩ := ai_bd h
                            refine rn_call rfl rfl rfl rfl rfl rfl (by omega) (t_State_becomes_16_59 (by omega) hq1) ?_
                            refine rn_go 1 (pc' := 49) (l' := [(0, .ref 24), (1, .ref 16)]) (st' := [.int (1 : Int32)]) (S1 := (SH ++ X)) (V1 := q1) rfl ?_
                            obtain rfl := Option.some.inj h
                            exact rg_zret rfl (by decide)
                          · cases h
  · refine rn_brF rfl rfl rfl rfl hc ?_
    refine rn_go 1 (pc' := 8) (l' := [(0, .ref 24), (1, .ref 16)]) (st' := [.int (0 : Int32)]) (S1 := (SH ++ X)) (V1 := V) rfl ?_
    obtain rfl := Option.some.inj h
    exact rg_zret rfl (by decide)
