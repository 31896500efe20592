/-! ===== printed by wip/gen/gen.py: methods as functions, and that the machine runs so ===== -/
-- RentByTheWheelModel.liftNow(I)I (89, None)
def d_M_liftNow (x1 : Int32) (V : ai_V) : Option (Int32 × ai_V) :=
  (d_M_liftOfAll x1 (ga V 90 ((12 : Int32)).toNatClampNeg) (ga V 90 ((13 : Int32)).toNatClampNeg) V).bind fun q1 => (some (q1.1, q1.2))
set_option maxRecDepth 20000 in
theorem t_M_liftNow {X : ai_S} {e : Nat} (hd : 330 ≤ e) {x1 : Int32} {V : ai_V} {r : (Int32 × ai_V)} (h : d_M_liftNow x1 V = some r) : Rn e 212 0 (lv_args 0 [.ref 89, .int x1]) [] (SH ++ X) V (some (.int r.1)) (SH ++ X) r.2 := by
  rw [d_M_liftNow] at h
  refine rn_go 5 (pc' := 8) (l' := [(0, .ref 89), (1, .int x1)]) (st' := [.int (12 : Int32), .ref 90, .int x1, .ref 89]) (S1 := (SH ++ X)) (V1 := V) rfl ?_
  refine rg_iald (n := 14) rfl rfl (by decide) ?_
  refine rn_go 3 (pc' := 15) (l' := [(0, .ref 89), (1, .int x1)]) (st' := [.int (13 : Int32), .ref 90, .int (ga V 90 ((12 : Int32)).toNatClampNeg), .int x1, .ref 89]) (S1 := (SH ++ X)) (V1 := V) rfl ?_
  refine rg_iald (n := 14) rfl rfl (by decide) ?_
  obtain ⟨q1, hq1, h⟩ := ai_bd h
  refine rn_call rfl rfl rfl rfl rfl rfl (by omega) (t_M_liftOfAll (by omega) hq1) ?_
  obtain rfl := Option.some.inj h
  exact rn_ret rfl rfl rfl
-- RentByTheWheelModel.strongest(I)I (89, None)
def d_M_strongest_63 (F23 : Int32 → Int32 → Int32 → ai_V → Option (Int32 × ai_V)) (x1 : Int32) (x2 : Int32) (x3 : Int32) (V : ai_V) : Option (Int32 × ai_V) :=
  F23 x1 x2 (x3 + (1 : Int32)) V
set_option maxRecDepth 20000 in
theorem t_M_strongest_63 {X : ai_S} {e : Nat} (hd : 331 ≤ e) (F23 : Int32 → Int32 → Int32 → ai_V → Option (Int32 × ai_V)) (hF23 : ∀ (x1 : Int32) (x2 : Int32) (x3 : Int32) (V : ai_V) (r : (Int32 × ai_V)), F23 x1 x2 x3 V = some r → Rn e 213 23 [(0, .ref 89), (1, .int x1), (2, .int x2), (3, .int x3)] [] (SH ++ X) V (some (.int r.1)) (SH ++ X) r.2) (x1 : Int32) (x2 : Int32) (x3 : Int32) (V : ai_V) (r : (Int32 × ai_V)) (h : d_M_strongest_63 F23 x1 x2 x3 V = some r) : Rn e 213 63 [(0, .ref 89), (1, .int x1), (2, .int x2), (3, .int x3)] [] (SH ++ X) V (some (.int r.1)) (SH ++ X) r.2 := by
  rw [d_M_strongest_63] at h
  refine rn_go 2 (pc' := 23) (l' := [(3, .int (x3 + (1 : Int32))), (0, .ref 89), (1, .int x1), (2, .int x2)]) (st' := []) (S1 := (SH ++ X)) (V1 := V) rfl ?_
  exact rn_sub [1, 2, 3, 0] rfl rfl (hF23 x1 x2 (x3 + (1 : Int32)) V _ h)
def d_M_strongest_61 (F23 : Int32 → Int32 → Int32 → ai_V → Option (Int32 × ai_V)) (x1 : Int32) (x3 : Int32) (V : ai_V) : Option (Int32 × ai_V) :=
  d_M_strongest_63 F23 x1 x3 x3 V
set_option maxRecDepth 20000 in
theorem t_M_strongest_61 {X : ai_S} {e : Nat} (hd : 331 ≤ e) (F23 : Int32 → Int32 → Int32 → ai_V → Option (Int32 × ai_V)) (hF23 : ∀ (x1 : Int32) (x2 : Int32) (x3 : Int32) (V : ai_V) (r : (Int32 × ai_V)), F23 x1 x2 x3 V = some r → Rn e 213 23 [(0, .ref 89), (1, .int x1), (2, .int x2), (3, .int x3)] [] (SH ++ X) V (some (.int r.1)) (SH ++ X) r.2) (x1 : Int32) (x3 : Int32) (V : ai_V) (r : (Int32 × ai_V)) (h : d_M_strongest_61 F23 x1 x3 V = some r) : Rn e 213 61 [(0, .ref 89), (1, .int x1), (3, .int x3)] [] (SH ++ X) V (some (.int r.1)) (SH ++ X) r.2 := by
  rw [d_M_strongest_61] at h
  refine rn_go 2 (pc' := 63) (l' := [(2, .int x3), (0, .ref 89), (1, .int x1), (3, .int x3)]) (st' := []) (S1 := (SH ++ X)) (V1 := V) rfl ?_
  exact rn_sub [1, 2, 0, 3] rfl rfl (t_M_strongest_63 (X := X) hd F23 hF23 x1 x3 x3 V _ h)
def d_M_strongest_23  : Nat → Int32 → Int32 → Int32 → ai_V → Option (Int32 × ai_V)
  | 0, _, _, _, _ => none
  | n + 1, x1, x2, x3, V => if (gi V 89 1) ≤ x3 then ((d_M_liftNow ((1 : Int32) <<< (x2 &&& 31)) (si V 89 13 (0 : Int32))).bind fun q1 => ((d_M_tell (q1.1).toInt64 q1.2).bind fun q2 => (some (x2, q2)))) else ((d_M_has x1 x3 V).bind fun q3 => (if q3 = 0 then (d_M_strongest_63 (d_M_strongest_23 n) x1 x2 x3 V) else (if x2 = (-1 : Int32) then (d_M_strongest_61 (d_M_strongest_23 n) x1 x3 V) else ((d_M_liftNow ((1 : Int32) <<< (x3 &&& 31)) V).bind fun q4 => ((d_M_liftNow ((1 : Int32) <<< (x2 &&& 31)) q4.2).bind fun q5 => (if q4.1 ≤ q5.1 then (d_M_strongest_63 (d_M_strongest_23 n) x1 x2 x3 q5.2) else (d_M_strongest_61 (d_M_strongest_23 n) x1 x3 q5.2)))))))
set_option maxRecDepth 20000 in
theorem t_M_strongest_23 {X : ai_S} {e : Nat} (hd : 331 ≤ e)  : ∀ (n : Nat) (x1 : Int32) (x2 : Int32) (x3 : Int32) (V : ai_V) (r : (Int32 × ai_V)), d_M_strongest_23  n x1 x2 x3 V = some r → Rn e 213 23 [(0, .ref 89), (1, .int x1), (2, .int x2), (3, .int x3)] [] (SH ++ X) V (some (.int r.1)) (SH ++ X) r.2 := by
  intro n
  induction n with
  | zero =>
    intro x1 x2 x3 V r h
    cases h
  | succ n ih =>
    intro x1 x2 x3 V r h
    rw [d_M_strongest_23] at h
    refine rn_go 3 (pc' := 28) (l' := [(0, .ref 89), (1, .int x1), (2, .int x2), (3, .int x3)]) (st' := [.int (gi V 89 1), .int x3]) (S1 := (SH ++ X)) (V1 := V) rfl ?_
    rcases ai_if h with ⟨hc, h⟩ | ⟨hc, h⟩
    · refine rn_brT rfl rfl rfl rfl hc ?_
      refine rn_go 8 (pc' := 79) (l' := [(0, .ref 89), (1, .int x1), (2, .int x2), (3, .int x3)]) (st' := [.int ((1 : Int32) <<< (x2 &&& 31)), .ref 89, .ref 89]) (S1 := (SH ++ X)) (V1 := (si V 89 13 (0 : Int32))) rfl ?_
      obtain ⟨q1, hq1, h⟩ := ai_bd h
      refine rn_call rfl rfl rfl rfl rfl rfl (by omega) (t_M_liftNow (by omega) hq1) ?_
      refine rn_go 1 (pc' := 83) (l' := [(0, .ref 89), (1, .int x1), (2, .int x2), (3, .int x3)]) (st' := [.long (q1.1).toInt64, .ref 89]) (S1 := (SH ++ X)) (V1 := q1.2) rfl ?_
      obtain ⟨q2, hq2, h⟩ := ai_bd h
      refine rn_call rfl rfl rfl rfl rfl rfl (by omega) (t_M_tell (by omega) hq2) ?_
      refine rn_go 1 (pc' := 87) (l' := [(0, .ref 89), (1, .int x1), (2, .int x2), (3, .int x3)]) (st' := [.int x2]) (S1 := (SH ++ X)) (V1 := q2) rfl ?_
      obtain rfl := Option.some.inj h
      exact rn_ret rfl rfl rfl
    · refine rn_brF rfl rfl rfl rfl hc ?_
      refine rn_go 2 (pc' := 33) (l' := [(0, .ref 89), (1, .int x1), (2, .int x2), (3, .int x3)]) (st' := [.int x3, .int x1]) (S1 := (SH ++ X)) (V1 := V) rfl ?_
      obtain ⟨q3, hq3, h⟩ := ai_bd h
      refine rn_call rfl rfl rfl rfl rfl rfl (by omega) (t_M_has (by omega) hq3) ?_
      rcases ai_if h with ⟨hc, h⟩ | ⟨hc, h⟩
      · refine rn_brT rfl rfl rfl rfl hc ?_
        exact rn_sub [0, 1, 2, 3] rfl rfl (t_M_strongest_63 (X := X) hd (d_M_strongest_23 n) (ih) x1 x2 x3 V _ h)
      · refine rn_brF rfl rfl rfl rfl hc ?_
        refine rn_go 2 (pc' := 41) (l' := [(0, .ref 89), (1, .int x1), (2, .int x2), (3, .int x3)]) (st' := [.int (-1 : Int32), .int x2]) (S1 := (SH ++ X)) (V1 := V) rfl ?_
        rcases ai_if h with ⟨hc, h⟩ | ⟨hc, h⟩
        · refine rn_brT rfl rfl rfl rfl hc ?_
          exact rn_sub [0, 1, 3] rfl rfl (t_M_strongest_61 (X := X) hd (d_M_strongest_23 n) (ih) x1 x3 V _ h)
        · refine rn_brF rfl rfl rfl rfl hc ?_
          refine rn_go 4 (pc' := 48) (l' := [(0, .ref 89), (1, .int x1), (2, .int x2), (3, .int x3)]) (st' := [.int ((1 : Int32) <<< (x3 &&& 31)), .ref 89]) (S1 := (SH ++ X)) (V1 := V) rfl ?_
          obtain ⟨q4, hq4, h⟩ := ai_bd h
          refine rn_call rfl rfl rfl rfl rfl rfl (by omega) (t_M_liftNow (by omega) hq4) ?_
          refine rn_go 4 (pc' := 55) (l' := [(0, .ref 89), (1, .int x1), (2, .int x2), (3, .int x3)]) (st' := [.int ((1 : Int32) <<< (x2 &&& 31)), .ref 89, .int q4.1]) (S1 := (SH ++ X)) (V1 := q4.2) rfl ?_
          obtain ⟨q5, hq5, h⟩ := ai_bd h
          refine rn_call rfl rfl rfl rfl rfl rfl (by omega) (t_M_liftNow (by omega) hq5) ?_
          rcases ai_if h with ⟨hc, h⟩ | ⟨hc, h⟩
          · refine rn_brT rfl rfl rfl rfl hc ?_
            exact rn_sub [0, 1, 2, 3] rfl rfl (t_M_strongest_63 (X := X) hd (d_M_strongest_23 n) (ih) x1 x2 x3 q5.2 _ h)
          · refine rn_brF rfl rfl rfl rfl hc ?_
            exact rn_sub [0, 1, 3] rfl rfl (t_M_strongest_61 (X := X) hd (d_M_strongest_23 n) (ih) x1 x3 q5.2 _ h)
def d_M_strongest (x1 : Int32) (V : ai_V) : Option (Int32 × ai_V) :=
  (d_M_areThose x1 (si V 89 14 (0 : Int32))).bind fun q6 => (if q6 = 0 then (some ((-1 : Int32), (si V 89 14 (0 : Int32)))) else (if ¬ x1 = 0 then (d_M_strongest_23 ai_N x1 (-1 : Int32) (0 : Int32) (si V 89 14 (0 : Int32))) else (some ((-1 : Int32), (si V 89 14 (0 : Int32))))))
set_option maxRecDepth 20000 in
theorem t_M_strongest {X : ai_S} {e : Nat} (hd : 331 ≤ e) {x1 : Int32} {V : ai_V} {r : (Int32 × ai_V)} (h : d_M_strongest x1 V = some r) : Rn e 213 0 (lv_args 0 [.ref 89, .int x1]) [] (SH ++ X) V (some (.int r.1)) (SH ++ X) r.2 := by
  rw [d_M_strongest] at h
  refine rn_go 5 (pc' := 7) (l' := [(0, .ref 89), (1, .int x1)]) (st' := [.int x1, .ref 89]) (S1 := (SH ++ X)) (V1 := (si V 89 14 (0 : Int32))) rfl ?_
  obtain ⟨q6, hq6, h⟩ := ai_bd h
  refine rn_call rfl rfl rfl rfl rfl rfl (by omega) (t_M_areThose (by omega) hq6) ?_
  rcases ai_if h with ⟨hc, h⟩ | ⟨hc, h⟩
  · refine rn_brT rfl rfl rfl rfl hc ?_
    refine rn_go 1 (pc' := 18) (l' := [(0, .ref 89), (1, .int x1)]) (st' := [.int (-1 : Int32)]) (S1 := (SH ++ X)) (V1 := (si V 89 14 (0 : Int32))) rfl ?_
    obtain rfl := Option.some.inj h
    exact rn_ret rfl rfl rfl
  · refine rn_brF rfl rfl rfl rfl hc ?_
    refine rn_go 1 (pc' := 14) (l' := [(0, .ref 89), (1, .int x1)]) (st' := [.int x1]) (S1 := (SH ++ X)) (V1 := (si V 89 14 (0 : Int32))) rfl ?_
    rcases ai_if h with ⟨hc, h⟩ | ⟨hc, h⟩
    · refine rn_brT rfl rfl rfl rfl hc ?_
      refine rn_go 4 (pc' := 23) (l' := [(3, .int (0 : Int32)), (2, .int (-1 : Int32)), (0, .ref 89), (1, .int x1)]) (st' := []) (S1 := (SH ++ X)) (V1 := (si V 89 14 (0 : Int32))) rfl ?_
      exact rn_sub [2, 3, 1, 0] rfl rfl (t_M_strongest_23 (X := X) hd ai_N x1 (-1 : Int32) (0 : Int32) (si V 89 14 (0 : Int32)) _ h)
    · refine rn_brF rfl rfl rfl rfl hc ?_
      refine rn_go 1 (pc' := 18) (l' := [(0, .ref 89), (1, .int x1)]) (st' := [.int (-1 : Int32)]) (S1 := (SH ++ X)) (V1 := (si V 89 14 (0 : Int32))) rfl ?_
      obtain rfl := Option.some.inj h
      exact rn_ret rfl rfl rfl
-- RentByTheWheelModel.dryBy(III)I (89, None, None, None)
def d_M_dryBy_59 (F36 : Int32 → Int32 → Int32 → Int32 → Int32 → ai_V → Option (Int32 × ai_V)) (x1 : Int32) (x2 : Int32) (x3 : Int32) (x4 : Int32) (x5 : Int32) (s0 : Int32) (V : ai_V) : Option (Int32 × ai_V) :=
  (d_M_goQuarter_89_103 s0 x3 V).bind fun q1 => ((d_Int_bitCount (gi q1 89 29) q1).bind fun q2 => (F36 x1 x2 x3 (x4 + q2) (x5 + (1 : Int32)) q1))
set_option maxRecDepth 20000 in
theorem t_M_dryBy_59 {X : ai_S} {e : Nat} (hd : 331 ≤ e) (F36 : Int32 → Int32 → Int32 → Int32 → Int32 → ai_V → Option (Int32 × ai_V)) (hF36 : ∀ (x1 : Int32) (x2 : Int32) (x3 : Int32) (x4 : Int32) (x5 : Int32) (V : ai_V) (r : (Int32 × ai_V)), F36 x1 x2 x3 x4 x5 V = some r → Rn e 215 36 [(0, .ref 89), (1, .int x1), (2, .int x2), (3, .int x3), (4, .int x4), (5, .int x5)] [] (SH ++ X) V (some (.int r.1)) (SH ++ X) r.2) (x1 : Int32) (x2 : Int32) (x3 : Int32) (x4 : Int32) (x5 : Int32) (s0 : Int32) (V : ai_V) (r : (Int32 × ai_V)) (h : d_M_dryBy_59 F36 x1 x2 x3 x4 x5 s0 V = some r) : Rn e 215 59 [(0, .ref 89), (1, .int x1), (2, .int x2), (3, .int x3), (4, .int x4), (5, .int x5)] [.int s0, .ref 103, .ref 89] (SH ++ X) V (some (.int r.1)) (SH ++ X) r.2 := by
  rw [d_M_dryBy_59] at h
  refine rn_go 1 (pc' := 60) (l' := [(0, .ref 89), (1, .int x1), (2, .int x2), (3, .int x3), (4, .int x4), (5, .int x5)]) (st' := [.int x3, .int s0, .ref 103, .ref 89]) (S1 := (SH ++ X)) (V1 := V) rfl ?_
  obtain ⟨q1, hq1, h⟩ := ai_bd h
  refine rn_call rfl rfl rfl rfl rfl rfl (by omega) (t_M_goQuarter_89_103 (by omega) hq1) ?_
  refine rn_go 3 (pc' := 69) (l' := [(0, .ref 89), (1, .int x1), (2, .int x2), (3, .int x3), (4, .int x4), (5, .int x5)]) (st' := [.int (gi q1 89 29), .int x4]) (S1 := (SH ++ X)) (V1 := q1) rfl ?_
  obtain ⟨q2, hq2, h⟩ := ai_bd h
  refine rn_call rfl rfl rfl rfl rfl rfl (by omega) (t_Int_bitCount (by omega) hq2) ?_
  refine rn_go 4 (pc' := 36) (l' := [(5, .int (x5 + (1 : Int32))), (4, .int (x4 + q2)), (0, .ref 89), (1, .int x1), (2, .int x2), (3, .int x3)]) (st' := []) (S1 := (SH ++ X)) (V1 := q1) rfl ?_
  exact rn_sub [2, 3, 4, 5, 1, 0] rfl rfl (hF36 x1 x2 x3 (x4 + q2) (x5 + (1 : Int32)) q1 _ h)
def d_M_dryBy_36  : Nat → Int32 → Int32 → Int32 → Int32 → Int32 → ai_V → Option (Int32 × ai_V)
  | 0, _, _, _, _, _, _ => none
  | n + 1, x1, x2, x3, x4, x5, V => if x2 ≤ x5 then (some (x4, V)) else (if ¬ x1 = (-1 : Int32) then (d_M_dryBy_59 (d_M_dryBy_36 n) x1 x2 x3 x4 x5 ((1 : Int32) <<< (x1 &&& 31)) V) else (d_M_dryBy_59 (d_M_dryBy_36 n) x1 x2 x3 x4 x5 (0 : Int32) V))
set_option maxRecDepth 20000 in
theorem t_M_dryBy_36 {X : ai_S} {e : Nat} (hd : 331 ≤ e)  : ∀ (n : Nat) (x1 : Int32) (x2 : Int32) (x3 : Int32) (x4 : Int32) (x5 : Int32) (V : ai_V) (r : (Int32 × ai_V)), d_M_dryBy_36  n x1 x2 x3 x4 x5 V = some r → Rn e 215 36 [(0, .ref 89), (1, .int x1), (2, .int x2), (3, .int x3), (4, .int x4), (5, .int x5)] [] (SH ++ X) V (some (.int r.1)) (SH ++ X) r.2 := by
  intro n
  induction n with
  | zero =>
    intro x1 x2 x3 x4 x5 V r h
    cases h
  | succ n ih =>
    intro x1 x2 x3 x4 x5 V r h
    rw [d_M_dryBy_36] at h
    refine rn_go 2 (pc' := 39) (l' := [(0, .ref 89), (1, .int x1), (2, .int x2), (3, .int x3), (4, .int x4), (5, .int x5)]) (st' := [.int x2, .int x5]) (S1 := (SH ++ X)) (V1 := V) rfl ?_
    rcases ai_if h with ⟨hc, h⟩ | ⟨hc, h⟩
    · refine rn_brT rfl rfl rfl rfl hc ?_
      refine rn_go 1 (pc' := 83) (l' := [(0, .ref 89), (1, .int x1), (2, .int x2), (3, .int x3), (4, .int x4), (5, .int x5)]) (st' := [.int x4]) (S1 := (SH ++ X)) (V1 := V) rfl ?_
      obtain rfl := Option.some.inj h
      exact rn_ret rfl rfl rfl
    · refine rn_brF rfl rfl rfl rfl hc ?_
      refine rn_go 5 (pc' := 49) (l' := [(0, .ref 89), (1, .int x1), (2, .int x2), (3, .int x3), (4, .int x4), (5, .int x5)]) (st' := [.int (-1 : Int32), .int x1, .ref 103, .ref 89]) (S1 := (SH ++ X)) (V1 := V) rfl ?_
      rcases ai_if h with ⟨hc, h⟩ | ⟨hc, h⟩
      · refine rn_brT rfl rfl rfl rfl hc ?_
        refine rn_go 3 (pc' := 59) (l' := [(0, .ref 89), (1, .int x1), (2, .int x2), (3, .int x3), (4, .int x4), (5, .int x5)]) (st' := [.int ((1 : Int32) <<< (x1 &&& 31)), .ref 103, .ref 89]) (S1 := (SH ++ X)) (V1 := V) rfl ?_
        exact rn_sub [0, 1, 2, 3, 4, 5] rfl rfl (t_M_dryBy_59 (X := X) hd (d_M_dryBy_36 n) (ih) x1 x2 x3 x4 x5 ((1 : Int32) <<< (x1 &&& 31)) V _ h)
      · refine rn_brF rfl rfl rfl rfl hc ?_
        refine rn_go 2 (pc' := 59) (l' := [(0, .ref 89), (1, .int x1), (2, .int x2), (3, .int x3), (4, .int x4), (5, .int x5)]) (st' := [.int (0 : Int32), .ref 103, .ref 89]) (S1 := (SH ++ X)) (V1 := V) rfl ?_
        exact rn_sub [0, 1, 2, 3, 4, 5] rfl rfl (t_M_dryBy_59 (X := X) hd (d_M_dryBy_36 n) (ih) x1 x2 x3 x4 x5 (0 : Int32) V _ h)
def d_M_dryBy (x1 : Int32) (x2 : Int32) (x3 : Int32) (V : ai_V) : Option (Int32 × ai_V) :=
  (d_M_lay_90_103 (0 : Int32) V).bind fun q3 => (d_M_dryBy_36 ai_N x1 x2 x3 (0 : Int32) (0 : Int32) (sa q3 103 ((12 : Int32)).toNatClampNeg (ai_min (ga q3 103 ((12 : Int32)).toNatClampNeg) x3)))
set_option maxRecDepth 20000 in
theorem t_M_dryBy {X : ai_S} {e : Nat} (hd : 331 ≤ e) {x1 : Int32} {x2 : Int32} {x3 : Int32} {V : ai_V} {r : (Int32 × ai_V)} (h : d_M_dryBy x1 x2 x3 V = some r) : Rn e 215 0 (lv_args 0 [.ref 89, .int x1, .int x2, .int x3]) [] (SH ++ X) V (some (.int r.1)) (SH ++ X) r.2 := by
  rw [d_M_dryBy] at h
  refine rn_go 5 (pc' := 9) (l' := [(0, .ref 89), (1, .int x1), (2, .int x2), (3, .int x3)]) (st' := [.int (0 : Int32), .ref 103, .ref 90]) (S1 := (SH ++ X)) (V1 := V) rfl ?_
  obtain ⟨q3, hq3, h⟩ := ai_bd h
  refine rn_call rfl rfl rfl rfl rfl rfl (by omega) (t_M_lay_90_103 (by omega) hq3) ?_
  refine rn_go 6 (pc' := 24) (l' := [(0, .ref 89), (1, .int x1), (2, .int x2), (3, .int x3)]) (st' := [.int (12 : Int32), .ref 103, .int (12 : Int32), .ref 103]) (S1 := (SH ++ X)) (V1 := q3) rfl ?_
  refine rg_iald (n := 14) rfl rfl (by decide) ?_
  refine rn_go 2 (pc' := 29) (l' := [(0, .ref 89), (1, .int x1), (2, .int x2), (3, .int x3)]) (st' := [.int (ai_min (ga q3 103 ((12 : Int32)).toNatClampNeg) x3), .int (12 : Int32), .ref 103]) (S1 := (SH ++ X)) (V1 := q3) rfl ?_
  refine rg_iast (n := 14) rfl rfl (by decide) ?_
  refine rn_go 4 (pc' := 36) (l' := [(5, .int (0 : Int32)), (4, .int (0 : Int32)), (0, .ref 89), (1, .int x1), (2, .int x2), (3, .int x3)]) (st' := []) (S1 := (SH ++ X)) (V1 := (sa q3 103 ((12 : Int32)).toNatClampNeg (ai_min (ga q3 103 ((12 : Int32)).toNatClampNeg) x3))) rfl ?_
  exact rn_sub [2, 3, 4, 5, 1, 0] rfl rfl (t_M_dryBy_36 (X := X) hd ai_N x1 x2 x3 (0 : Int32) (0 : Int32) (sa q3 103 ((12 : Int32)).toNatClampNeg (ai_min (ga q3 103 ((12 : Int32)).toNatClampNeg) x3)) _ h)
-- RentByTheWheelModel.isMore(I)Z (None,)
def d_M_isMore (x0 : Int32) (V : ai_V) : Option Int32 :=
  (d_M_in x0 (1 : Int32) (60 : Int32) V).bind fun q1 => (if q1 = 0 ∨ q1 = 1 then some q1 else none)
set_option maxRecDepth 20000 in
theorem t_M_isMore {X : ai_S} {e : Nat} (hd : 1 ≤ e) {x0 : Int32} {V : ai_V} {r : Int32} (h : d_M_isMore x0 V = some r) : Rn e 214 0 (lv_args 0 [.int x0]) [] (SH ++ X) V (some (.int r)) (SH ++ X) V := by
  rw [d_M_isMore] at h
  refine rn_go 3 (pc' := 4) (l' := [(0, .int x0)]) (st' := [.int (60 : Int32), .int (1 : Int32), .int x0]) (S1 := (SH ++ X)) (V1 := V) rfl ?_
  obtain ⟨q1, hq1, h⟩ := ai_bd h
  refine rn_call rfl rfl rfl rfl rfl rfl (by omega) (t_M_in (by omega) hq1) ?_
  obtain ⟨hg, h⟩ := ai_gd h
  obtain rfl := Option.some.inj h
  exact rg_zret rfl hg
-- RentByTheWheelModel.roomy(II)I (89, None, None)
def d_M_roomy_35  : Nat → Int32 → Int32 → Int32 → Int32 → ai_V → Option (Int32 × ai_V)
  | 0, _, _, _, _, _ => none
  | n + 1, x1, x2, x3, x4, V => (d_M_dryBy x1 x2 x4 V).bind fun q1 => (if q1.1 ≤ x3 then ((d_M_dryBy x1 x2 x4 (si q1.2 89 13 (0 : Int32))).bind fun q2 => ((d_M_tell (q2.1).toInt64 q2.2).bind fun q3 => (some (x4, q3)))) else (d_M_roomy_35 n x1 x2 x3 (x4 + (1 : Int32)) q1.2))
set_option maxRecDepth 20000 in
theorem t_M_roomy_35 {X : ai_S} {e : Nat} (hd : 332 ≤ e)  : ∀ (n : Nat) (x1 : Int32) (x2 : Int32) (x3 : Int32) (x4 : Int32) (V : ai_V) (r : (Int32 × ai_V)), d_M_roomy_35  n x1 x2 x3 x4 V = some r → Rn e 216 35 [(0, .ref 89), (1, .int x1), (2, .int x2), (3, .int x3), (4, .int x4)] [] (SH ++ X) V (some (.int r.1)) (SH ++ X) r.2 := by
  intro n
  induction n with
  | zero =>
    intro x1 x2 x3 x4 V r h
    cases h
  | succ n ih =>
    intro x1 x2 x3 x4 V r h
    rw [d_M_roomy_35] at h
    refine rn_go 4 (pc' := 40) (l' := [(0, .ref 89), (1, .int x1), (2, .int x2), (3, .int x3), (4, .int x4)]) (st' := [.int x4, .int x2, .int x1, .ref 89]) (S1 := (SH ++ X)) (V1 := V) rfl ?_
    obtain ⟨q1, hq1, h⟩ := ai_bd h
    refine rn_call rfl rfl rfl rfl rfl rfl (by omega) (t_M_dryBy (by omega) hq1) ?_
    refine rn_go 1 (pc' := 44) (l' := [(0, .ref 89), (1, .int x1), (2, .int x2), (3, .int x3), (4, .int x4)]) (st' := [.int x3, .int q1.1]) (S1 := (SH ++ X)) (V1 := q1.2) rfl ?_
    rcases ai_if h with ⟨hc, h⟩ | ⟨hc, h⟩
    · refine rn_brT rfl rfl rfl rfl hc ?_
      refine rn_go 8 (pc' := 64) (l' := [(0, .ref 89), (1, .int x1), (2, .int x2), (3, .int x3), (4, .int x4)]) (st' := [.int x4, .int x2, .int x1, .ref 89, .ref 89]) (S1 := (SH ++ X)) (V1 := (si q1.2 89 13 (0 : Int32))) rfl ?_
      obtain ⟨q2, hq2, h⟩ := ai_bd h
      refine rn_call rfl rfl rfl rfl rfl rfl (by omega) (t_M_dryBy (by omega) hq2) ?_
      refine rn_go 1 (pc' := 68) (l' := [(0, .ref 89), (1, .int x1), (2, .int x2), (3, .int x3), (4, .int x4)]) (st' := [.long (q2.1).toInt64, .ref 89]) (S1 := (SH ++ X)) (V1 := q2.2) rfl ?_
      obtain ⟨q3, hq3, h⟩ := ai_bd h
      refine rn_call rfl rfl rfl rfl rfl rfl (by omega) (t_M_tell (by omega) hq3) ?_
      refine rn_go 1 (pc' := 73) (l' := [(0, .ref 89), (1, .int x1), (2, .int x2), (3, .int x3), (4, .int x4)]) (st' := [.int x4]) (S1 := (SH ++ X)) (V1 := q3) rfl ?_
      obtain rfl := Option.some.inj h
      exact rn_ret rfl rfl rfl
    · refine rn_brF rfl rfl rfl rfl hc ?_
      refine rn_go 2 (pc' := 35) (l' := [(4, .int (x4 + (1 : Int32))), (0, .ref 89), (1, .int x1), (2, .int x2), (3, .int x3)]) (st' := []) (S1 := (SH ++ X)) (V1 := q1.2) rfl ?_
      exact rn_sub [1, 2, 3, 4, 0] rfl rfl (ih x1 x2 x3 (x4 + (1 : Int32)) q1.2 _ h)
def d_M_roomy (x1 : Int32) (x2 : Int32) (V : ai_V) : Option (Int32 × ai_V) :=
  (d_M_isOne x1 (si V 89 14 (0 : Int32))).bind fun q4 => (if q4 = 0 then (some ((-1 : Int32), (si V 89 14 (0 : Int32)))) else ((d_M_isMore x2 (si V 89 14 (0 : Int32))).bind fun q5 => (if ¬ q5 = 0 then ((d_M_dryBy x1 x2 (999 : Int32) (si V 89 14 (0 : Int32))).bind fun q6 => (d_M_roomy_35 ai_N x1 x2 q6.1 (1 : Int32) q6.2)) else (some ((-1 : Int32), (si V 89 14 (0 : Int32)))))))
set_option maxRecDepth 20000 in
theorem t_M_roomy {X : ai_S} {e : Nat} (hd : 332 ≤ e) {x1 : Int32} {x2 : Int32} {V : ai_V} {r : (Int32 × ai_V)} (h : d_M_roomy x1 x2 V = some r) : Rn e 216 0 (lv_args 0 [.ref 89, .int x1, .int x2]) [] (SH ++ X) V (some (.int r.1)) (SH ++ X) r.2 := by
  rw [d_M_roomy] at h
  refine rn_go 5 (pc' := 7) (l' := [(0, .ref 89), (1, .int x1), (2, .int x2)]) (st' := [.int x1, .ref 89]) (S1 := (SH ++ X)) (V1 := (si V 89 14 (0 : Int32))) rfl ?_
  obtain ⟨q4, hq4, h⟩ := ai_bd h
  refine rn_call rfl rfl rfl rfl rfl rfl (by omega) (t_M_isOne (by omega) hq4) ?_
  rcases ai_if h with ⟨hc, h⟩ | ⟨hc, h⟩
  · refine rn_brT rfl rfl rfl rfl hc ?_
    refine rn_go 1 (pc' := 21) (l' := [(0, .ref 89), (1, .int x1), (2, .int x2)]) (st' := [.int (-1 : Int32)]) (S1 := (SH ++ X)) (V1 := (si V 89 14 (0 : Int32))) rfl ?_
    obtain rfl := Option.some.inj h
    exact rn_ret rfl rfl rfl
  · refine rn_brF rfl rfl rfl rfl hc ?_
    refine rn_go 1 (pc' := 14) (l' := [(0, .ref 89), (1, .int x1), (2, .int x2)]) (st' := [.int x2]) (S1 := (SH ++ X)) (V1 := (si V 89 14 (0 : Int32))) rfl ?_
    obtain ⟨q5, hq5, h⟩ := ai_bd h
    refine rn_call rfl rfl rfl rfl rfl rfl (by omega) (t_M_isMore (by omega) hq5) ?_
    rcases ai_if h with ⟨hc, h⟩ | ⟨hc, h⟩
    · refine rn_brT rfl rfl rfl rfl hc ?_
      refine rn_go 4 (pc' := 28) (l' := [(0, .ref 89), (1, .int x1), (2, .int x2)]) (st' := [.int (999 : Int32), .int x2, .int x1, .ref 89]) (S1 := (SH ++ X)) (V1 := (si V 89 14 (0 : Int32))) rfl ?_
      obtain ⟨q6, hq6, h⟩ := ai_bd h
      refine rn_call rfl rfl rfl rfl rfl rfl (by omega) (t_M_dryBy (by omega) hq6) ?_
      refine rn_go 3 (pc' := 35) (l' := [(4, .int (1 : Int32)), (3, .int q6.1), (0, .ref 89), (1, .int x1), (2, .int x2)]) (st' := []) (S1 := (SH ++ X)) (V1 := q6.2) rfl ?_
      exact rn_sub [2, 3, 4, 1, 0] rfl rfl (t_M_roomy_35 (X := X) hd ai_N x1 x2 q6.1 (1 : Int32) q6.2 _ h)
    · refine rn_brF rfl rfl rfl rfl hc ?_
      refine rn_go 1 (pc' := 21) (l' := [(0, .ref 89), (1, .int x1), (2, .int x2)]) (st' := [.int (-1 : Int32)]) (S1 := (SH ++ X)) (V1 := (si V 89 14 (0 : Int32))) rfl ?_
      obtain rfl := Option.some.inj h
      exact rn_ret rfl rfl rfl
-- RentByTheWheelModel.deepest([I)I (89, 103)
def d_M_deepest_23 (F4 : Int32 → Int32 → ai_V → Option Int32) (x2 : Int32) (x3 : Int32) (V : ai_V) : Option Int32 :=
  F4 x2 (x3 + (1 : Int32)) V
set_option maxRecDepth 20000 in
theorem t_M_deepest_23 {X : ai_S} {e : Nat} (hd : 0 ≤ e) (F4 : Int32 → Int32 → ai_V → Option Int32) (hF4 : ∀ (x2 : Int32) (x3 : Int32) (V : ai_V) (r : Int32), F4 x2 x3 V = some r → Rn e 217 4 [(0, .ref 89), (1, .ref 103), (2, .int x2), (3, .int x3)] [] (SH ++ X) V (some (.int r)) (SH ++ X) V) (x2 : Int32) (x3 : Int32) (V : ai_V) (r : Int32) (h : d_M_deepest_23 F4 x2 x3 V = some r) : Rn e 217 23 [(0, .ref 89), (1, .ref 103), (2, .int x2), (3, .int x3)] [] (SH ++ X) V (some (.int r)) (SH ++ X) V := by
  rw [d_M_deepest_23] at h
  refine rn_go 2 (pc' := 4) (l' := [(3, .int (x3 + (1 : Int32))), (0, .ref 89), (1, .ref 103), (2, .int x2)]) (st' := []) (S1 := (SH ++ X)) (V1 := V) rfl ?_
  exact rn_sub [1, 2, 3, 0] rfl rfl (hF4 x2 (x3 + (1 : Int32)) V _ h)
def d_M_deepest_4  : Nat → Int32 → Int32 → ai_V → Option Int32
  | 0, _, _, _ => none
  | n + 1, x2, x3, V => if (gi V 89 1) ≤ x3 then (some x2) else (if ai_in x3 14 then (if ai_in x2 14 then (if (ga V 103 (x3).toNatClampNeg) ≤ (ga V 103 (x2).toNatClampNeg) then (d_M_deepest_23 (d_M_deepest_4 n) x2 x3 V) else (d_M_deepest_23 (d_M_deepest_4 n) x3 x3 V)) else none) else none)
set_option maxRecDepth 20000 in
theorem t_M_deepest_4 {X : ai_S} {e : Nat} (hd : 0 ≤ e)  : ∀ (n : Nat) (x2 : Int32) (x3 : Int32) (V : ai_V) (r : Int32), d_M_deepest_4  n x2 x3 V = some r → Rn e 217 4 [(0, .ref 89), (1, .ref 103), (2, .int x2), (3, .int x3)] [] (SH ++ X) V (some (.int r)) (SH ++ X) V := by
  intro n
  induction n with
  | zero =>
    intro x2 x3 V r h
    cases h
  | succ n ih =>
    intro x2 x3 V r h
    rw [d_M_deepest_4] at h
    refine rn_go 3 (pc' := 9) (l' := [(0, .ref 89), (1, .ref 103), (2, .int x2), (3, .int x3)]) (st' := [.int (gi V 89 1), .int x3]) (S1 := (SH ++ X)) (V1 := V) rfl ?_
    rcases ai_if h with ⟨hc, h⟩ | ⟨hc, h⟩
    · refine rn_brT rfl rfl rfl rfl hc ?_
      refine rn_go 1 (pc' := 30) (l' := [(0, .ref 89), (1, .ref 103), (2, .int x2), (3, .int x3)]) (st' := [.int x2]) (S1 := (SH ++ X)) (V1 := V) rfl ?_
      obtain rfl := Option.some.inj h
      exact rn_ret rfl rfl rfl
    · refine rn_brF rfl rfl rfl rfl hc ?_
      refine rn_go 2 (pc' := 14) (l' := [(0, .ref 89), (1, .ref 103), (2, .int x2), (3, .int x3)]) (st' := [.int x3, .ref 103]) (S1 := (SH ++ X)) (V1 := V) rfl ?_
      obtain ⟨hg, h⟩ := ai_gd h
      refine rg_iald (n := 14) rfl rfl hg ?_
      refine rn_go 2 (pc' := 17) (l' := [(0, .ref 89), (1, .ref 103), (2, .int x2), (3, .int x3)]) (st' := [.int x2, .ref 103, .int (ga V 103 (x3).toNatClampNeg)]) (S1 := (SH ++ X)) (V1 := V) rfl ?_
      obtain ⟨hg, h⟩ := ai_gd h
      refine rg_iald (n := 14) rfl rfl hg ?_
      rcases ai_if h with ⟨hc, h⟩ | ⟨hc, h⟩
      · refine rn_brT rfl rfl rfl rfl hc ?_
        exact rn_sub [0, 1, 2, 3] rfl rfl (t_M_deepest_23 (X := X) hd (d_M_deepest_4 n) (ih) x2 x3 V _ h)
      · refine rn_brF rfl rfl rfl rfl hc ?_
        refine rn_go 2 (pc' := 23) (l' := [(2, .int x3), (0, .ref 89), (1, .ref 103), (3, .int x3)]) (st' := []) (S1 := (SH ++ X)) (V1 := V) rfl ?_
        exact rn_sub [1, 2, 0, 3] rfl rfl (t_M_deepest_23 (X := X) hd (d_M_deepest_4 n) (ih) x3 x3 V _ h)
def d_M_deepest  (V : ai_V) : Option Int32 :=
  d_M_deepest_4 ai_N (0 : Int32) (1 : Int32) V
set_option maxRecDepth 20000 in
theorem t_M_deepest {X : ai_S} {e : Nat} (hd : 0 ≤ e)  {V : ai_V} {r : Int32} (h : d_M_deepest  V = some r) : Rn e 217 0 (lv_args 0 [.ref 89, .ref 103]) [] (SH ++ X) V (some (.int r)) (SH ++ X) V := by
  rw [d_M_deepest] at h
  refine rn_go 4 (pc' := 4) (l' := [(3, .int (1 : Int32)), (2, .int (0 : Int32)), (0, .ref 89), (1, .ref 103)]) (st' := []) (S1 := (SH ++ X)) (V1 := V) rfl ?_
  exact rn_sub [2, 3, 1, 0] rfl rfl (t_M_deepest_4 (X := X) hd ai_N (0 : Int32) (1 : Int32) V _ h)
-- RentByTheWheelModel.even(I)I (89, None)
def d_M_even_122 (F43 : Int32 → Int32 → Int32 → Int32 → ai_V → Option (Int32 × ai_V)) (x1 : Int32) (x2 : Int32) (x4 : Int32) (s0 : Int32) (s1 : Int32) (V : ai_V) : Option (Int32 × ai_V) :=
  F43 x1 x2 (s1 + s0) (x4 + (1 : Int32)) V
set_option maxRecDepth 20000 in
theorem t_M_even_122 {X : ai_S} {e : Nat} (hd : 331 ≤ e) (F43 : Int32 → Int32 → Int32 → Int32 → ai_V → Option (Int32 × ai_V)) (hF43 : ∀ (x1 : Int32) (x2 : Int32) (x3 : Int32) (x4 : Int32) (V : ai_V) (r : (Int32 × ai_V)), F43 x1 x2 x3 x4 V = some r → Rn e 218 43 [(0, .ref 89), (1, .int x1), (2, .int x2), (3, .int x3), (4, .int x4)] [] (SH ++ X) V (some (.int r.1)) (SH ++ X) r.2) (x1 : Int32) (x2 : Int32) (x4 : Int32) (s0 : Int32) (s1 : Int32) (V : ai_V) (r : (Int32 × ai_V)) (h : d_M_even_122 F43 x1 x2 x4 s0 s1 V = some r) : Rn e 218 122 [(0, .ref 89), (1, .int x1), (2, .int x2), (4, .int x4)] [.int s0, .int s1] (SH ++ X) V (some (.int r.1)) (SH ++ X) r.2 := by
  rw [d_M_even_122] at h
  refine rn_go 4 (pc' := 43) (l' := [(4, .int (x4 + (1 : Int32))), (3, .int (s1 + s0)), (0, .ref 89), (1, .int x1), (2, .int x2)]) (st' := []) (S1 := (SH ++ X)) (V1 := V) rfl ?_
  exact rn_sub [2, 3, 4, 1, 0] rfl rfl (hF43 x1 x2 (s1 + s0) (x4 + (1 : Int32)) V _ h)
def d_M_even_94 (F43 : Int32 → Int32 → Int32 → Int32 → ai_V → Option (Int32 × ai_V)) (x1 : Int32) (x2 : Int32) (x3 : Int32) (x4 : Int32) (x6 : Int32) (s0 : Int32) (V : ai_V) : Option (Int32 × ai_V) :=
  (d_M_goQuarter_89_103 s0 (gi V 89 8) V).bind fun q1 => ((d_Int_bitCount (gi q1 89 29) q1).bind fun q2 => (if x6 = 0 then (d_M_even_122 F43 x1 (x2 + q2) x4 (1 : Int32) x3 q1) else (d_M_even_122 F43 x1 (x2 + q2) x4 (0 : Int32) x3 q1)))
set_option maxRecDepth 20000 in
theorem t_M_even_94 {X : ai_S} {e : Nat} (hd : 331 ≤ e) (F43 : Int32 → Int32 → Int32 → Int32 → ai_V → Option (Int32 × ai_V)) (hF43 : ∀ (x1 : Int32) (x2 : Int32) (x3 : Int32) (x4 : Int32) (V : ai_V) (r : (Int32 × ai_V)), F43 x1 x2 x3 x4 V = some r → Rn e 218 43 [(0, .ref 89), (1, .int x1), (2, .int x2), (3, .int x3), (4, .int x4)] [] (SH ++ X) V (some (.int r.1)) (SH ++ X) r.2) (x1 : Int32) (x2 : Int32) (x3 : Int32) (x4 : Int32) (x6 : Int32) (s0 : Int32) (V : ai_V) (r : (Int32 × ai_V)) (h : d_M_even_94 F43 x1 x2 x3 x4 x6 s0 V = some r) : Rn e 218 94 [(0, .ref 89), (1, .int x1), (2, .int x2), (3, .int x3), (4, .int x4), (6, .int x6)] [.int s0, .ref 103, .ref 89] (SH ++ X) V (some (.int r.1)) (SH ++ X) r.2 := by
  rw [d_M_even_94] at h
  refine rn_go 2 (pc' := 98) (l' := [(0, .ref 89), (1, .int x1), (2, .int x2), (3, .int x3), (4, .int x4), (6, .int x6)]) (st' := [.int (gi V 89 8), .int s0, .ref 103, .ref 89]) (S1 := (SH ++ X)) (V1 := V) rfl ?_
  obtain ⟨q1, hq1, h⟩ := ai_bd h
  refine rn_call rfl rfl rfl rfl rfl rfl (by omega) (t_M_goQuarter_89_103 (by omega) hq1) ?_
  refine rn_go 3 (pc' := 106) (l' := [(0, .ref 89), (1, .int x1), (2, .int x2), (3, .int x3), (4, .int x4), (6, .int x6)]) (st' := [.int (gi q1 89 29), .int x2]) (S1 := (SH ++ X)) (V1 := q1) rfl ?_
  obtain ⟨q2, hq2, h⟩ := ai_bd h
  refine rn_call rfl rfl rfl rfl rfl rfl (by omega) (t_Int_bitCount (by omega) hq2) ?_
  refine rn_go 4 (pc' := 114) (l' := [(2, .int (x2 + q2)), (0, .ref 89), (1, .int x1), (3, .int x3), (4, .int x4), (6, .int x6)]) (st' := [.int x6, .int x3]) (S1 := (SH ++ X)) (V1 := q1) rfl ?_
  rcases ai_if h with ⟨hc, h⟩ | ⟨hc, h⟩
  · refine rn_brT rfl rfl rfl rfl hc ?_
    refine rn_go 1 (pc' := 122) (l' := [(2, .int (x2 + q2)), (0, .ref 89), (1, .int x1), (3, .int x3), (4, .int x4), (6, .int x6)]) (st' := [.int (1 : Int32), .int x3]) (S1 := (SH ++ X)) (V1 := q1) rfl ?_
    exact rn_sub [1, 2, 0, 4] rfl rfl (t_M_even_122 (X := X) hd F43 hF43 x1 (x2 + q2) x4 (1 : Int32) x3 q1 _ h)
  · refine rn_brF rfl rfl rfl rfl hc ?_
    refine rn_go 2 (pc' := 122) (l' := [(2, .int (x2 + q2)), (0, .ref 89), (1, .int x1), (3, .int x3), (4, .int x4), (6, .int x6)]) (st' := [.int (0 : Int32), .int x3]) (S1 := (SH ++ X)) (V1 := q1) rfl ?_
    exact rn_sub [1, 2, 0, 4] rfl rfl (t_M_even_122 (X := X) hd F43 hF43 x1 (x2 + q2) x4 (0 : Int32) x3 q1 _ h)
def d_M_even_74 (F43 : Int32 → Int32 → Int32 → Int32 → ai_V → Option (Int32 × ai_V)) (x1 : Int32) (x2 : Int32) (x3 : Int32) (x4 : Int32) (x5 : Int32) (s0 : Int32) (V : ai_V) : Option (Int32 × ai_V) :=
  if s0 = 0 then (d_M_even_94 F43 x1 x2 x3 x4 s0 (0 : Int32) V) else (d_M_even_94 F43 x1 x2 x3 x4 s0 ((1 : Int32) <<< (x5 &&& 31)) V)
set_option maxRecDepth 20000 in
theorem t_M_even_74 {X : ai_S} {e : Nat} (hd : 331 ≤ e) (F43 : Int32 → Int32 → Int32 → Int32 → ai_V → Option (Int32 × ai_V)) (hF43 : ∀ (x1 : Int32) (x2 : Int32) (x3 : Int32) (x4 : Int32) (V : ai_V) (r : (Int32 × ai_V)), F43 x1 x2 x3 x4 V = some r → Rn e 218 43 [(0, .ref 89), (1, .int x1), (2, .int x2), (3, .int x3), (4, .int x4)] [] (SH ++ X) V (some (.int r.1)) (SH ++ X) r.2) (x1 : Int32) (x2 : Int32) (x3 : Int32) (x4 : Int32) (x5 : Int32) (s0 : Int32) (V : ai_V) (r : (Int32 × ai_V)) (h : d_M_even_74 F43 x1 x2 x3 x4 x5 s0 V = some r) : Rn e 218 74 [(0, .ref 89), (1, .int x1), (2, .int x2), (3, .int x3), (4, .int x4), (5, .int x5)] [.int s0] (SH ++ X) V (some (.int r.1)) (SH ++ X) r.2 := by
  rw [d_M_even_74] at h
  refine rn_go 5 (pc' := 83) (l' := [(6, .int s0), (0, .ref 89), (1, .int x1), (2, .int x2), (3, .int x3), (4, .int x4), (5, .int x5)]) (st' := [.int s0, .ref 103, .ref 89]) (S1 := (SH ++ X)) (V1 := V) rfl ?_
  rcases ai_if h with ⟨hc, h⟩ | ⟨hc, h⟩
  · refine rn_brT rfl rfl rfl rfl hc ?_
    refine rn_go 1 (pc' := 94) (l' := [(6, .int s0), (0, .ref 89), (1, .int x1), (2, .int x2), (3, .int x3), (4, .int x4), (5, .int x5)]) (st' := [.int (0 : Int32), .ref 103, .ref 89]) (S1 := (SH ++ X)) (V1 := V) rfl ?_
    exact rn_sub [1, 2, 3, 4, 5, 0] rfl rfl (t_M_even_94 (X := X) hd F43 hF43 x1 x2 x3 x4 s0 (0 : Int32) V _ h)
  · refine rn_brF rfl rfl rfl rfl hc ?_
    refine rn_go 4 (pc' := 94) (l' := [(6, .int s0), (0, .ref 89), (1, .int x1), (2, .int x2), (3, .int x3), (4, .int x4), (5, .int x5)]) (st' := [.int ((1 : Int32) <<< (x5 &&& 31)), .ref 103, .ref 89]) (S1 := (SH ++ X)) (V1 := V) rfl ?_
    exact rn_sub [1, 2, 3, 4, 5, 0] rfl rfl (t_M_even_94 (X := X) hd F43 hF43 x1 x2 x3 x4 s0 ((1 : Int32) <<< (x5 &&& 31)) V _ h)
def d_M_even_43  : Nat → Int32 → Int32 → Int32 → Int32 → ai_V → Option (Int32 × ai_V)
  | 0, _, _, _, _, _ => none
  | n + 1, x1, x2, x3, x4, V => if x1 ≤ x4 then ((d_M_tell (((ga (si V 89 13 (0 : Int32)) 103 ((12 : Int32)).toNatClampNeg)).toInt64) (si V 89 13 (0 : Int32))).bind fun q3 => ((d_M_deepest  q3).bind fun q4 => (if ai_in q4 14 then ((d_M_tell (((ga q3 103 (q4).toNatClampNeg)).toInt64) q3).bind fun q5 => ((d_M_tell (x3).toInt64 q5).bind fun q6 => (some (x2, q6)))) else none))) else ((d_M_deepest  V).bind fun q7 => (if ai_in q7 14 then (if (ga V 103 (q7).toNatClampNeg) ≤ 0 then (d_M_even_74 (d_M_even_43 n) x1 x2 x3 x4 q7 (0 : Int32) V) else (d_M_even_74 (d_M_even_43 n) x1 x2 x3 x4 q7 (1 : Int32) V)) else none))
set_option maxRecDepth 20000 in
theorem t_M_even_43 {X : ai_S} {e : Nat} (hd : 331 ≤ e)  : ∀ (n : Nat) (x1 : Int32) (x2 : Int32) (x3 : Int32) (x4 : Int32) (V : ai_V) (r : (Int32 × ai_V)), d_M_even_43  n x1 x2 x3 x4 V = some r → Rn e 218 43 [(0, .ref 89), (1, .int x1), (2, .int x2), (3, .int x3), (4, .int x4)] [] (SH ++ X) V (some (.int r.1)) (SH ++ X) r.2 := by
  intro n
  induction n with
  | zero =>
    intro x1 x2 x3 x4 V r h
    cases h
  | succ n ih =>
    intro x1 x2 x3 x4 V r h
    rw [d_M_even_43] at h
    refine rn_go 2 (pc' := 46) (l' := [(0, .ref 89), (1, .int x1), (2, .int x2), (3, .int x3), (4, .int x4)]) (st' := [.int x1, .int x4]) (S1 := (SH ++ X)) (V1 := V) rfl ?_
    rcases ai_if h with ⟨hc, h⟩ | ⟨hc, h⟩
    · refine rn_brT rfl rfl rfl rfl hc ?_
      refine rn_go 7 (pc' := 142) (l' := [(0, .ref 89), (1, .int x1), (2, .int x2), (3, .int x3), (4, .int x4)]) (st' := [.int (12 : Int32), .ref 103, .ref 89]) (S1 := (SH ++ X)) (V1 := (si V 89 13 (0 : Int32))) rfl ?_
      refine rg_iald (n := 14) rfl rfl (by decide) ?_
      refine rn_go 1 (pc' := 144) (l' := [(0, .ref 89), (1, .int x1), (2, .int x2), (3, .int x3), (4, .int x4)]) (st' := [.long ((ga (si V 89 13 (0 : Int32)) 103 ((12 : Int32)).toNatClampNeg)).toInt64, .ref 89]) (S1 := (SH ++ X)) (V1 := (si V 89 13 (0 : Int32))) rfl ?_
      obtain ⟨q3, hq3, h⟩ := ai_bd h
      refine rn_call rfl rfl rfl rfl rfl rfl (by omega) (t_M_tell (by omega) hq3) ?_
      refine rn_go 6 (pc' := 157) (l' := [(0, .ref 89), (1, .int x1), (2, .int x2), (3, .int x3), (4, .int x4)]) (st' := [.ref 103, .ref 89, .ref 103, .ref 89]) (S1 := (SH ++ X)) (V1 := q3) rfl ?_
      obtain ⟨q4, hq4, h⟩ := ai_bd h
      refine rn_call rfl rfl rfl rfl rfl rfl (by omega) (t_M_deepest (by omega) hq4) ?_
      obtain ⟨hg, h⟩ := ai_gd h
      refine rg_iald (n := 14) rfl rfl hg ?_
      refine rn_go 1 (pc' := 162) (l' := [(0, .ref 89), (1, .int x1), (2, .int x2), (3, .int x3), (4, .int x4)]) (st' := [.long ((ga q3 103 (q4).toNatClampNeg)).toInt64, .ref 89]) (S1 := (SH ++ X)) (V1 := q3) rfl ?_
      obtain ⟨q5, hq5, h⟩ := ai_bd h
      refine rn_call rfl rfl rfl rfl rfl rfl (by omega) (t_M_tell (by omega) hq5) ?_
      refine rn_go 3 (pc' := 168) (l' := [(0, .ref 89), (1, .int x1), (2, .int x2), (3, .int x3), (4, .int x4)]) (st' := [.long (x3).toInt64, .ref 89]) (S1 := (SH ++ X)) (V1 := q5) rfl ?_
      obtain ⟨q6, hq6, h⟩ := ai_bd h
      refine rn_call rfl rfl rfl rfl rfl rfl (by omega) (t_M_tell (by omega) hq6) ?_
      refine rn_go 1 (pc' := 172) (l' := [(0, .ref 89), (1, .int x1), (2, .int x2), (3, .int x3), (4, .int x4)]) (st' := [.int x2]) (S1 := (SH ++ X)) (V1 := q6) rfl ?_
      obtain rfl := Option.some.inj h
      exact rn_ret rfl rfl rfl
    · refine rn_brF rfl rfl rfl rfl hc ?_
      refine rn_go 3 (pc' := 54) (l' := [(0, .ref 89), (1, .int x1), (2, .int x2), (3, .int x3), (4, .int x4)]) (st' := [.ref 103, .ref 89]) (S1 := (SH ++ X)) (V1 := V) rfl ?_
      obtain ⟨q7, hq7, h⟩ := ai_bd h
      refine rn_call rfl rfl rfl rfl rfl rfl (by omega) (t_M_deepest (by omega) hq7) ?_
      refine rn_go 4 (pc' := 65) (l' := [(5, .int q7), (0, .ref 89), (1, .int x1), (2, .int x2), (3, .int x3), (4, .int x4)]) (st' := [.int q7, .ref 103]) (S1 := (SH ++ X)) (V1 := V) rfl ?_
      obtain ⟨hg, h⟩ := ai_gd h
      refine rg_iald (n := 14) rfl rfl hg ?_
      rcases ai_if h with ⟨hc, h⟩ | ⟨hc, h⟩
      · refine rn_brT rfl rfl rfl rfl hc ?_
        refine rn_go 1 (pc' := 74) (l' := [(5, .int q7), (0, .ref 89), (1, .int x1), (2, .int x2), (3, .int x3), (4, .int x4)]) (st' := [.int (0 : Int32)]) (S1 := (SH ++ X)) (V1 := V) rfl ?_
        exact rn_sub [1, 2, 3, 4, 5, 0] rfl rfl (t_M_even_74 (X := X) hd (d_M_even_43 n) (ih) x1 x2 x3 x4 q7 (0 : Int32) V _ h)
      · refine rn_brF rfl rfl rfl rfl hc ?_
        refine rn_go 2 (pc' := 74) (l' := [(5, .int q7), (0, .ref 89), (1, .int x1), (2, .int x2), (3, .int x3), (4, .int x4)]) (st' := [.int (1 : Int32)]) (S1 := (SH ++ X)) (V1 := V) rfl ?_
        exact rn_sub [1, 2, 3, 4, 5, 0] rfl rfl (t_M_even_74 (X := X) hd (d_M_even_43 n) (ih) x1 x2 x3 x4 q7 (1 : Int32) V _ h)
def d_M_even (x1 : Int32) (V : ai_V) : Option (Int32 × ai_V) :=
  (d_M_isMore x1 (si V 89 14 (0 : Int32))).bind fun q8 => (if ¬ q8 = 0 then (if ¬ (gi (si V 89 14 (0 : Int32)) 89 1) = 0 then ((d_M_lay_90_103 (0 : Int32) (si V 89 14 (0 : Int32))).bind fun q9 => (d_M_even_43 ai_N x1 (0 : Int32) (0 : Int32) (0 : Int32) q9)) else (some ((-2 : Int32), (si V 89 14 (0 : Int32))))) else (some ((-1 : Int32), (si V 89 14 (0 : Int32)))))
set_option maxRecDepth 20000 in
theorem t_M_even {X : ai_S} {e : Nat} (hd : 331 ≤ e) {x1 : Int32} {V : ai_V} {r : (Int32 × ai_V)} (h : d_M_even x1 V = some r) : Rn e 218 0 (lv_args 0 [.ref 89, .int x1]) [] (SH ++ X) V (some (.int r.1)) (SH ++ X) r.2 := by
  rw [d_M_even] at h
  refine rn_go 4 (pc' := 6) (l' := [(0, .ref 89), (1, .int x1)]) (st' := [.int x1]) (S1 := (SH ++ X)) (V1 := (si V 89 14 (0 : Int32))) rfl ?_
  obtain ⟨q8, hq8, h⟩ := ai_bd h
  refine rn_call rfl rfl rfl rfl rfl rfl (by omega) (t_M_isMore (by omega) hq8) ?_
  rcases ai_if h with ⟨hc, h⟩ | ⟨hc, h⟩
  · refine rn_brT rfl rfl rfl rfl hc ?_
    refine rn_go 2 (pc' := 18) (l' := [(0, .ref 89), (1, .int x1)]) (st' := [.int (gi (si V 89 14 (0 : Int32)) 89 1)]) (S1 := (SH ++ X)) (V1 := (si V 89 14 (0 : Int32))) rfl ?_
    rcases ai_if h with ⟨hc, h⟩ | ⟨hc, h⟩
    · refine rn_brT rfl rfl rfl rfl hc ?_
      refine rn_go 5 (pc' := 33) (l' := [(0, .ref 89), (1, .int x1)]) (st' := [.int (0 : Int32), .ref 103, .ref 90]) (S1 := (SH ++ X)) (V1 := (si V 89 14 (0 : Int32))) rfl ?_
      obtain ⟨q9, hq9, h⟩ := ai_bd h
      refine rn_call rfl rfl rfl rfl rfl rfl (by omega) (t_M_lay_90_103 (by omega) hq9) ?_
      refine rn_go 6 (pc' := 43) (l' := [(4, .int (0 : Int32)), (3, .int (0 : Int32)), (2, .int (0 : Int32)), (0, .ref 89), (1, .int x1)]) (st' := []) (S1 := (SH ++ X)) (V1 := q9) rfl ?_
      exact rn_sub [3, 4, 2, 1, 0] rfl rfl (t_M_even_43 (X := X) hd ai_N x1 (0 : Int32) (0 : Int32) (0 : Int32) q9 _ h)
    · refine rn_brF rfl rfl rfl rfl hc ?_
      refine rn_go 1 (pc' := 23) (l' := [(0, .ref 89), (1, .int x1)]) (st' := [.int (-2 : Int32)]) (S1 := (SH ++ X)) (V1 := (si V 89 14 (0 : Int32))) rfl ?_
      obtain rfl := Option.some.inj h
      exact rn_ret rfl rfl rfl
  · refine rn_brF rfl rfl rfl rfl hc ?_
    refine rn_go 1 (pc' := 13) (l' := [(0, .ref 89), (1, .int x1)]) (st' := [.int (-1 : Int32)]) (S1 := (SH ++ X)) (V1 := (si V 89 14 (0 : Int32))) rfl ?_
    obtain rfl := Option.some.inj h
    exact rn_ret rfl rfl rfl
-- RentByTheWheelModel.wantsOfAll(I)I (89, None)
def d_M_wantsOfAll_4  : Nat → Int32 → Int32 → Int32 → ai_V → Option Int32
  | 0, _, _, _, _ => none
  | n + 1, x1, x2, x3, V => if (gi V 89 1) ≤ x3 then (some x2) else ((d_M_wantOf x3 x1 V).bind fun q1 => (d_M_wantsOfAll_4 n x1 (x2 + q1) (x3 + (1 : Int32)) V))
set_option maxRecDepth 20000 in
theorem t_M_wantsOfAll_4 {X : ai_S} {e : Nat} (hd : 1 ≤ e)  : ∀ (n : Nat) (x1 : Int32) (x2 : Int32) (x3 : Int32) (V : ai_V) (r : Int32), d_M_wantsOfAll_4  n x1 x2 x3 V = some r → Rn e 219 4 [(0, .ref 89), (1, .int x1), (2, .int x2), (3, .int x3)] [] (SH ++ X) V (some (.int r)) (SH ++ X) V := by
  intro n
  induction n with
  | zero =>
    intro x1 x2 x3 V r h
    cases h
  | succ n ih =>
    intro x1 x2 x3 V r h
    rw [d_M_wantsOfAll_4] at h
    refine rn_go 3 (pc' := 9) (l' := [(0, .ref 89), (1, .int x1), (2, .int x2), (3, .int x3)]) (st' := [.int (gi V 89 1), .int x3]) (S1 := (SH ++ X)) (V1 := V) rfl ?_
    rcases ai_if h with ⟨hc, h⟩ | ⟨hc, h⟩
    · refine rn_brT rfl rfl rfl rfl hc ?_
      refine rn_go 1 (pc' := 28) (l' := [(0, .ref 89), (1, .int x1), (2, .int x2), (3, .int x3)]) (st' := [.int x2]) (S1 := (SH ++ X)) (V1 := V) rfl ?_
      obtain rfl := Option.some.inj h
      exact rn_ret rfl rfl rfl
    · refine rn_brF rfl rfl rfl rfl hc ?_
      refine rn_go 4 (pc' := 16) (l' := [(0, .ref 89), (1, .int x1), (2, .int x2), (3, .int x3)]) (st' := [.int x1, .int x3, .ref 89, .int x2]) (S1 := (SH ++ X)) (V1 := V) rfl ?_
      obtain ⟨q1, hq1, h⟩ := ai_bd h
      refine rn_call rfl rfl rfl rfl rfl rfl (by omega) (t_M_wantOf (by omega) hq1) ?_
      refine rn_go 4 (pc' := 4) (l' := [(3, .int (x3 + (1 : Int32))), (2, .int (x2 + q1)), (0, .ref 89), (1, .int x1)]) (st' := []) (S1 := (SH ++ X)) (V1 := V) rfl ?_
      exact rn_sub [2, 3, 1, 0] rfl rfl (ih x1 (x2 + q1) (x3 + (1 : Int32)) V _ h)
def d_M_wantsOfAll (x1 : Int32) (V : ai_V) : Option Int32 :=
  d_M_wantsOfAll_4 ai_N x1 (0 : Int32) (0 : Int32) V
set_option maxRecDepth 20000 in
theorem t_M_wantsOfAll {X : ai_S} {e : Nat} (hd : 1 ≤ e) {x1 : Int32} {V : ai_V} {r : Int32} (h : d_M_wantsOfAll x1 V = some r) : Rn e 219 0 (lv_args 0 [.ref 89, .int x1]) [] (SH ++ X) V (some (.int r)) (SH ++ X) V := by
  rw [d_M_wantsOfAll] at h
  refine rn_go 4 (pc' := 4) (l' := [(3, .int (0 : Int32)), (2, .int (0 : Int32)), (0, .ref 89), (1, .int x1)]) (st' := []) (S1 := (SH ++ X)) (V1 := V) rfl ?_
  exact rn_sub [2, 3, 1, 0] rfl rfl (t_M_wantsOfAll_4 (X := X) hd ai_N x1 (0 : Int32) (0 : Int32) V _ h)
-- RentByTheWheelModel.thirst(I)I (89, None)
def d_M_thirst_67 (F24 : Int32 → Int32 → Int32 → Int32 → Int32 → ai_V → Option (Int32 × ai_V)) (x1 : Int32) (x2 : Int32) (x3 : Int32) (x4 : Int32) (x5 : Int32) (V : ai_V) : Option (Int32 × ai_V) :=
  F24 x1 x2 x3 x4 (x5 + (1 : Int32)) V
set_option maxRecDepth 20000 in
theorem t_M_thirst_67 {X : ai_S} {e : Nat} (hd : 2 ≤ e) (F24 : Int32 → Int32 → Int32 → Int32 → Int32 → ai_V → Option (Int32 × ai_V)) (hF24 : ∀ (x1 : Int32) (x2 : Int32) (x3 : Int32) (x4 : Int32) (x5 : Int32) (V : ai_V) (r : (Int32 × ai_V)), F24 x1 x2 x3 x4 x5 V = some r → Rn e 220 24 [(0, .ref 89), (1, .int x1), (2, .int x2), (3, .int x3), (4, .int x4), (5, .int x5)] [] (SH ++ X) V (some (.int r.1)) (SH ++ X) r.2) (x1 : Int32) (x2 : Int32) (x3 : Int32) (x4 : Int32) (x5 : Int32) (V : ai_V) (r : (Int32 × ai_V)) (h : d_M_thirst_67 F24 x1 x2 x3 x4 x5 V = some r) : Rn e 220 67 [(0, .ref 89), (1, .int x1), (2, .int x2), (3, .int x3), (4, .int x4), (5, .int x5)] [] (SH ++ X) V (some (.int r.1)) (SH ++ X) r.2 := by
  rw [d_M_thirst_67] at h
  refine rn_go 2 (pc' := 24) (l' := [(5, .int (x5 + (1 : Int32))), (0, .ref 89), (1, .int x1), (2, .int x2), (3, .int x3), (4, .int x4)]) (st' := []) (S1 := (SH ++ X)) (V1 := V) rfl ?_
  exact rn_sub [1, 2, 3, 4, 5, 0] rfl rfl (hF24 x1 x2 x3 x4 (x5 + (1 : Int32)) V _ h)
def d_M_thirst_24  : Nat → Int32 → Int32 → Int32 → Int32 → Int32 → ai_V → Option (Int32 × ai_V)
  | 0, _, _, _, _, _, _ => none
  | n + 1, x1, x2, x3, x4, x5, V => if x1 ≤ x5 then ((d_M_tell (x4).toInt64 (si V 89 13 (0 : Int32))).bind fun q1 => ((d_M_tell (x3).toInt64 q1).bind fun q2 => (some (x2, q2)))) else ((d_M_wantsOfAll ((ga V 90 ((13 : Int32)).toNatClampNeg) + x5) V).bind fun q3 => (if x3 < q3 then (d_M_thirst_67 (d_M_thirst_24 n) x1 (x2 + q3) q3 x5 x5 V) else (d_M_thirst_67 (d_M_thirst_24 n) x1 (x2 + q3) x3 x4 x5 V)))
set_option maxRecDepth 20000 in
theorem t_M_thirst_24 {X : ai_S} {e : Nat} (hd : 2 ≤ e)  : ∀ (n : Nat) (x1 : Int32) (x2 : Int32) (x3 : Int32) (x4 : Int32) (x5 : Int32) (V : ai_V) (r : (Int32 × ai_V)), d_M_thirst_24  n x1 x2 x3 x4 x5 V = some r → Rn e 220 24 [(0, .ref 89), (1, .int x1), (2, .int x2), (3, .int x3), (4, .int x4), (5, .int x5)] [] (SH ++ X) V (some (.int r.1)) (SH ++ X) r.2 := by
  intro n
  induction n with
  | zero =>
    intro x1 x2 x3 x4 x5 V r h
    cases h
  | succ n ih =>
    intro x1 x2 x3 x4 x5 V r h
    rw [d_M_thirst_24] at h
    refine rn_go 2 (pc' := 27) (l' := [(0, .ref 89), (1, .int x1), (2, .int x2), (3, .int x3), (4, .int x4), (5, .int x5)]) (st' := [.int x1, .int x5]) (S1 := (SH ++ X)) (V1 := V) rfl ?_
    rcases ai_if h with ⟨hc, h⟩ | ⟨hc, h⟩
    · refine rn_brT rfl rfl rfl rfl hc ?_
      refine rn_go 6 (pc' := 82) (l' := [(0, .ref 89), (1, .int x1), (2, .int x2), (3, .int x3), (4, .int x4), (5, .int x5)]) (st' := [.long (x4).toInt64, .ref 89]) (S1 := (SH ++ X)) (V1 := (si V 89 13 (0 : Int32))) rfl ?_
      obtain ⟨q1, hq1, h⟩ := ai_bd h
      refine rn_call rfl rfl rfl rfl rfl rfl (by omega) (t_M_tell (by omega) hq1) ?_
      refine rn_go 3 (pc' := 88) (l' := [(0, .ref 89), (1, .int x1), (2, .int x2), (3, .int x3), (4, .int x4), (5, .int x5)]) (st' := [.long (x3).toInt64, .ref 89]) (S1 := (SH ++ X)) (V1 := q1) rfl ?_
      obtain ⟨q2, hq2, h⟩ := ai_bd h
      refine rn_call rfl rfl rfl rfl rfl rfl (by omega) (t_M_tell (by omega) hq2) ?_
      refine rn_go 1 (pc' := 92) (l' := [(0, .ref 89), (1, .int x1), (2, .int x2), (3, .int x3), (4, .int x4), (5, .int x5)]) (st' := [.int x2]) (S1 := (SH ++ X)) (V1 := q2) rfl ?_
      obtain rfl := Option.some.inj h
      exact rn_ret rfl rfl rfl
    · refine rn_brF rfl rfl rfl rfl hc ?_
      refine rn_go 4 (pc' := 37) (l' := [(0, .ref 89), (1, .int x1), (2, .int x2), (3, .int x3), (4, .int x4), (5, .int x5)]) (st' := [.int (13 : Int32), .ref 90, .ref 89]) (S1 := (SH ++ X)) (V1 := V) rfl ?_
      refine rg_iald (n := 14) rfl rfl (by decide) ?_
      refine rn_go 2 (pc' := 41) (l' := [(0, .ref 89), (1, .int x1), (2, .int x2), (3, .int x3), (4, .int x4), (5, .int x5)]) (st' := [.int ((ga V 90 ((13 : Int32)).toNatClampNeg) + x5), .ref 89]) (S1 := (SH ++ X)) (V1 := V) rfl ?_
      obtain ⟨q3, hq3, h⟩ := ai_bd h
      refine rn_call rfl rfl rfl rfl rfl rfl (by omega) (t_M_wantsOfAll (by omega) hq3) ?_
      refine rn_go 7 (pc' := 54) (l' := [(2, .int (x2 + q3)), (6, .int q3), (0, .ref 89), (1, .int x1), (3, .int x3), (4, .int x4), (5, .int x5)]) (st' := [.int x3, .int q3]) (S1 := (SH ++ X)) (V1 := V) rfl ?_
      rcases ai_if h with ⟨hc, h⟩ | ⟨hc, h⟩
      · refine rn_brT rfl rfl rfl rfl hc ?_
        refine rn_go 4 (pc' := 67) (l' := [(4, .int x5), (3, .int q3), (2, .int (x2 + q3)), (6, .int q3), (0, .ref 89), (1, .int x1), (5, .int x5)]) (st' := []) (S1 := (SH ++ X)) (V1 := V) rfl ?_
        exact rn_sub [4, 5, 2, 1, 0, 6] rfl rfl (t_M_thirst_67 (X := X) hd (d_M_thirst_24 n) (ih) x1 (x2 + q3) q3 x5 x5 V _ h)
      · refine rn_brF rfl rfl rfl rfl hc ?_
        refine rn_go 1 (pc' := 67) (l' := [(2, .int (x2 + q3)), (6, .int q3), (0, .ref 89), (1, .int x1), (3, .int x3), (4, .int x4), (5, .int x5)]) (st' := []) (S1 := (SH ++ X)) (V1 := V) rfl ?_
        exact rn_sub [2, 3, 0, 4, 5, 6] rfl rfl (t_M_thirst_67 (X := X) hd (d_M_thirst_24 n) (ih) x1 (x2 + q3) x3 x4 x5 V _ h)
def d_M_thirst (x1 : Int32) (V : ai_V) : Option (Int32 × ai_V) :=
  (d_M_isMore x1 (si V 89 14 (0 : Int32))).bind fun q4 => (if ¬ q4 = 0 then (d_M_thirst_24 ai_N x1 (0 : Int32) (-1 : Int32) (0 : Int32) (0 : Int32) (si V 89 14 (0 : Int32))) else (some ((-1 : Int32), (si V 89 14 (0 : Int32)))))
set_option maxRecDepth 20000 in
theorem t_M_thirst {X : ai_S} {e : Nat} (hd : 2 ≤ e) {x1 : Int32} {V : ai_V} {r : (Int32 × ai_V)} (h : d_M_thirst x1 V = some r) : Rn e 220 0 (lv_args 0 [.ref 89, .int x1]) [] (SH ++ X) V (some (.int r.1)) (SH ++ X) r.2 := by
  rw [d_M_thirst] at h
  refine rn_go 4 (pc' := 6) (l' := [(0, .ref 89), (1, .int x1)]) (st' := [.int x1]) (S1 := (SH ++ X)) (V1 := (si V 89 14 (0 : Int32))) rfl ?_
  obtain ⟨q4, hq4, h⟩ := ai_bd h
  refine rn_call rfl rfl rfl rfl rfl rfl (by omega) (t_M_isMore (by omega) hq4) ?_
  rcases ai_if h with ⟨hc, h⟩ | ⟨hc, h⟩
  · refine rn_brT rfl rfl rfl rfl hc ?_
    refine rn_go 8 (pc' := 24) (l' := [(5, .int (0 : Int32)), (4, .int (0 : Int32)), (3, .int (-1 : Int32)), (2, .int (0 : Int32)), (0, .ref 89), (1, .int x1)]) (st' := []) (S1 := (SH ++ X)) (V1 := (si V 89 14 (0 : Int32))) rfl ?_
    exact rn_sub [4, 5, 3, 2, 1, 0] rfl rfl (t_M_thirst_24 (X := X) hd ai_N x1 (0 : Int32) (-1 : Int32) (0 : Int32) (0 : Int32) (si V 89 14 (0 : Int32)) _ h)
  · refine rn_brF rfl rfl rfl rfl hc ?_
    refine rn_go 1 (pc' := 13) (l' := [(0, .ref 89), (1, .int x1)]) (st' := [.int (-1 : Int32)]) (S1 := (SH ++ X)) (V1 := (si V 89 14 (0 : Int32))) rfl ?_
    obtain rfl := Option.some.inj h
    exact rn_ret rfl rfl rfl
-- RentByTheWheelModel.bath(II)I (89, None, None)
def d_M_bath_43  : Nat → Int32 → Int32 → Int32 → Int32 → ai_V → Option (Int32 × ai_V)
  | 0, _, _, _, _, _ => none
  | n + 1, x1, x2, x3, x4, V => if (60 : Int32) < x4 then (some ((-2 : Int32), V)) else ((d_M_goQuarter_89_103 ((1 : Int32) <<< (x1 &&& 31)) (gi V 89 8) V).bind fun q1 => ((d_Int_bitCount (gi q1 89 29) q1).bind fun q2 => (if x2 ≤ (ga q1 103 ((12 : Int32)).toNatClampNeg) then ((d_M_tell (((x3 + q2)).toInt64) (si q1 89 13 (0 : Int32))).bind fun q3 => (some (x4, q3))) else (d_M_bath_43 n x1 x2 (x3 + q2) (x4 + (1 : Int32)) q1))))
set_option maxRecDepth 20000 in
theorem t_M_bath_43 {X : ai_S} {e : Nat} (hd : 331 ≤ e)  : ∀ (n : Nat) (x1 : Int32) (x2 : Int32) (x3 : Int32) (x4 : Int32) (V : ai_V) (r : (Int32 × ai_V)), d_M_bath_43  n x1 x2 x3 x4 V = some r → Rn e 221 43 [(0, .ref 89), (1, .int x1), (2, .int x2), (3, .int x3), (4, .int x4)] [] (SH ++ X) V (some (.int r.1)) (SH ++ X) r.2 := by
  intro n
  induction n with
  | zero =>
    intro x1 x2 x3 x4 V r h
    cases h
  | succ n ih =>
    intro x1 x2 x3 x4 V r h
    rw [d_M_bath_43] at h
    refine rn_go 2 (pc' := 47) (l' := [(0, .ref 89), (1, .int x1), (2, .int x2), (3, .int x3), (4, .int x4)]) (st' := [.int (60 : Int32), .int x4]) (S1 := (SH ++ X)) (V1 := V) rfl ?_
    rcases ai_if h with ⟨hc, h⟩ | ⟨hc, h⟩
    · refine rn_brT rfl rfl rfl rfl hc ?_
      refine rn_go 1 (pc' := 111) (l' := [(0, .ref 89), (1, .int x1), (2, .int x2), (3, .int x3), (4, .int x4)]) (st' := [.int (-2 : Int32)]) (S1 := (SH ++ X)) (V1 := V) rfl ?_
      obtain rfl := Option.some.inj h
      exact rn_ret rfl rfl rfl
    · refine rn_brF rfl rfl rfl rfl hc ?_
      refine rn_go 8 (pc' := 62) (l' := [(0, .ref 89), (1, .int x1), (2, .int x2), (3, .int x3), (4, .int x4)]) (st' := [.int (gi V 89 8), .int ((1 : Int32) <<< (x1 &&& 31)), .ref 103, .ref 89]) (S1 := (SH ++ X)) (V1 := V) rfl ?_
      obtain ⟨q1, hq1, h⟩ := ai_bd h
      refine rn_call rfl rfl rfl rfl rfl rfl (by omega) (t_M_goQuarter_89_103 (by omega) hq1) ?_
      refine rn_go 3 (pc' := 70) (l' := [(0, .ref 89), (1, .int x1), (2, .int x2), (3, .int x3), (4, .int x4)]) (st' := [.int (gi q1 89 29), .int x3]) (S1 := (SH ++ X)) (V1 := q1) rfl ?_
      obtain ⟨q2, hq2, h⟩ := ai_bd h
      refine rn_call rfl rfl rfl rfl rfl rfl (by omega) (t_Int_bitCount (by omega) hq2) ?_
      refine rn_go 5 (pc' := 81) (l' := [(3, .int (x3 + q2)), (0, .ref 89), (1, .int x1), (2, .int x2), (4, .int x4)]) (st' := [.int (12 : Int32), .ref 103]) (S1 := (SH ++ X)) (V1 := q1) rfl ?_
      refine rg_iald (n := 14) rfl rfl (by decide) ?_
      refine rn_go 1 (pc' := 83) (l' := [(3, .int (x3 + q2)), (0, .ref 89), (1, .int x1), (2, .int x2), (4, .int x4)]) (st' := [.int x2, .int (ga q1 103 ((12 : Int32)).toNatClampNeg)]) (S1 := (SH ++ X)) (V1 := q1) rfl ?_
      rcases ai_if h with ⟨hc, h⟩ | ⟨hc, h⟩
      · refine rn_brT rfl rfl rfl rfl hc ?_
        refine rn_go 6 (pc' := 97) (l' := [(3, .int (x3 + q2)), (0, .ref 89), (1, .int x1), (2, .int x2), (4, .int x4)]) (st' := [.long ((x3 + q2)).toInt64, .ref 89]) (S1 := (SH ++ X)) (V1 := (si q1 89 13 (0 : Int32))) rfl ?_
        obtain ⟨q3, hq3, h⟩ := ai_bd h
        refine rn_call rfl rfl rfl rfl rfl rfl (by omega) (t_M_tell (by omega) hq3) ?_
        refine rn_go 1 (pc' := 102) (l' := [(3, .int (x3 + q2)), (0, .ref 89), (1, .int x1), (2, .int x2), (4, .int x4)]) (st' := [.int x4]) (S1 := (SH ++ X)) (V1 := q3) rfl ?_
        obtain rfl := Option.some.inj h
        exact rn_ret rfl rfl rfl
      · refine rn_brF rfl rfl rfl rfl hc ?_
        refine rn_go 3 (pc' := 43) (l' := [(4, .int (x4 + (1 : Int32))), (3, .int (x3 + q2)), (0, .ref 89), (1, .int x1), (2, .int x2)]) (st' := []) (S1 := (SH ++ X)) (V1 := q1) rfl ?_
        exact rn_sub [2, 3, 4, 1, 0] rfl rfl (ih x1 x2 (x3 + q2) (x4 + (1 : Int32)) q1 _ h)
def d_M_bath (x1 : Int32) (x2 : Int32) (V : ai_V) : Option (Int32 × ai_V) :=
  (d_M_isOne x1 (si V 89 14 (0 : Int32))).bind fun q4 => (if q4 = 0 then (some ((-1 : Int32), (si V 89 14 (0 : Int32)))) else ((d_M_in x2 (1 : Int32) (999 : Int32) (si V 89 14 (0 : Int32))).bind fun q5 => (if ¬ q5 = 0 then ((d_M_lay_90_103 (0 : Int32) (si V 89 14 (0 : Int32))).bind fun q6 => (d_M_bath_43 ai_N x1 x2 (0 : Int32) (1 : Int32) q6)) else (some ((-1 : Int32), (si V 89 14 (0 : Int32)))))))
set_option maxRecDepth 20000 in
theorem t_M_bath {X : ai_S} {e : Nat} (hd : 331 ≤ e) {x1 : Int32} {x2 : Int32} {V : ai_V} {r : (Int32 × ai_V)} (h : d_M_bath x1 x2 V = some r) : Rn e 221 0 (lv_args 0 [.ref 89, .int x1, .int x2]) [] (SH ++ X) V (some (.int r.1)) (SH ++ X) r.2 := by
  rw [d_M_bath] at h
  refine rn_go 5 (pc' := 7) (l' := [(0, .ref 89), (1, .int x1), (2, .int x2)]) (st' := [.int x1, .ref 89]) (S1 := (SH ++ X)) (V1 := (si V 89 14 (0 : Int32))) rfl ?_
  obtain ⟨q4, hq4, h⟩ := ai_bd h
  refine rn_call rfl rfl rfl rfl rfl rfl (by omega) (t_M_isOne (by omega) hq4) ?_
  rcases ai_if h with ⟨hc, h⟩ | ⟨hc, h⟩
  · refine rn_brT rfl rfl rfl rfl hc ?_
    refine rn_go 1 (pc' := 25) (l' := [(0, .ref 89), (1, .int x1), (2, .int x2)]) (st' := [.int (-1 : Int32)]) (S1 := (SH ++ X)) (V1 := (si V 89 14 (0 : Int32))) rfl ?_
    obtain rfl := Option.some.inj h
    exact rn_ret rfl rfl rfl
  · refine rn_brF rfl rfl rfl rfl hc ?_
    refine rn_go 3 (pc' := 18) (l' := [(0, .ref 89), (1, .int x1), (2, .int x2)]) (st' := [.int (999 : Int32), .int (1 : Int32), .int x2]) (S1 := (SH ++ X)) (V1 := (si V 89 14 (0 : Int32))) rfl ?_
    obtain ⟨q5, hq5, h⟩ := ai_bd h
    refine rn_call rfl rfl rfl rfl rfl rfl (by omega) (t_M_in (by omega) hq5) ?_
    rcases ai_if h with ⟨hc, h⟩ | ⟨hc, h⟩
    · refine rn_brT rfl rfl rfl rfl hc ?_
      refine rn_go 5 (pc' := 35) (l' := [(0, .ref 89), (1, .int x1), (2, .int x2)]) (st' := [.int (0 : Int32), .ref 103, .ref 90]) (S1 := (SH ++ X)) (V1 := (si V 89 14 (0 : Int32))) rfl ?_
      obtain ⟨q6, hq6, h⟩ := ai_bd h
      refine rn_call rfl rfl rfl rfl rfl rfl (by omega) (t_M_lay_90_103 (by omega) hq6) ?_
      refine rn_go 4 (pc' := 43) (l' := [(4, .int (1 : Int32)), (3, .int (0 : Int32)), (0, .ref 89), (1, .int x1), (2, .int x2)]) (st' := []) (S1 := (SH ++ X)) (V1 := q6) rfl ?_
      exact rn_sub [2, 3, 4, 1, 0] rfl rfl (t_M_bath_43 (X := X) hd ai_N x1 x2 (0 : Int32) (1 : Int32) q6 _ h)
    · refine rn_brF rfl rfl rfl rfl hc ?_
      refine rn_go 1 (pc' := 25) (l' := [(0, .ref 89), (1, .int x1), (2, .int x2)]) (st' := [.int (-1 : Int32)]) (S1 := (SH ++ X)) (V1 := (si V 89 14 (0 : Int32))) rfl ?_
      obtain rfl := Option.some.inj h
      exact rn_ret rfl rfl rfl
-- RentByTheWheelModel.shareOf(II)I (89, None, None)
def d_M_shareOf (x1 : Int32) (x2 : Int32) (V : ai_V) : Option Int32 :=
  if ai_in x1 6 then (if ai_in x1 6 then (if ai_in x1 6 then (if (ga V 92 (x1).toNatClampNeg) = 0 then none else (some ((((x2 * ((ga V 91 (x1).toNatClampNeg) + (1 : Int32))) + (ga V 92 (x1).toNatClampNeg)) - (1 : Int32)) / (ga V 92 (x1).toNatClampNeg)))) else none) else none) else none
set_option maxRecDepth 20000 in
theorem t_M_shareOf {X : ai_S} {e : Nat} (hd : 0 ≤ e) {x1 : Int32} {x2 : Int32} {V : ai_V} {r : Int32} (h : d_M_shareOf x1 x2 V = some r) : Rn e 222 0 (lv_args 0 [.ref 89, .int x1, .int x2]) [] (SH ++ X) V (some (.int r)) (SH ++ X) V := by
  rw [d_M_shareOf] at h
  refine rn_go 4 (pc' := 6) (l' := [(0, .ref 89), (1, .int x1), (2, .int x2)]) (st' := [.int x1, .ref 91, .int x2]) (S1 := (SH ++ X)) (V1 := V) rfl ?_
  obtain ⟨hg, h⟩ := ai_gd h
  refine rg_iald (n := 6) rfl rfl hg ?_
  refine rn_go 6 (pc' := 15) (l' := [(0, .ref 89), (1, .int x1), (2, .int x2)]) (st' := [.int x1, .ref 92, .int (x2 * ((ga V 91 (x1).toNatClampNeg) + (1 : Int32)))]) (S1 := (SH ++ X)) (V1 := V) rfl ?_
  obtain ⟨hg, h⟩ := ai_gd h
  refine rg_iald (n := 6) rfl rfl hg ?_
  refine rn_go 6 (pc' := 24) (l' := [(0, .ref 89), (1, .int x1), (2, .int x2)]) (st' := [.int x1, .ref 92, .int (((x2 * ((ga V 91 (x1).toNatClampNeg) + (1 : Int32))) + (ga V 92 (x1).toNatClampNeg)) - (1 : Int32))]) (S1 := (SH ++ X)) (V1 := V) rfl ?_
  obtain ⟨hg, h⟩ := ai_gd h
  refine rg_iald (n := 6) rfl rfl hg ?_
  obtain ⟨hg, h⟩ := ai_gn h
  refine rg_idiv rfl hg ?_
  obtain rfl := Option.some.inj h
  exact rn_ret rfl rfl rfl
-- RentByTheWheelModel.sharesBy(I)I (89, None)
def d_M_sharesBy_4  : Nat → Int32 → Int32 → Int32 → ai_V → Option Int32
  | 0, _, _, _, _ => none
  | n + 1, x1, x2, x3, V => if (gi V 89 1) ≤ x3 then (some x2) else ((d_M_shareOf x3 x1 V).bind fun q1 => (d_M_sharesBy_4 n x1 (x2 + q1) (x3 + (1 : Int32)) V))
set_option maxRecDepth 20000 in
theorem t_M_sharesBy_4 {X : ai_S} {e : Nat} (hd : 1 ≤ e)  : ∀ (n : Nat) (x1 : Int32) (x2 : Int32) (x3 : Int32) (V : ai_V) (r : Int32), d_M_sharesBy_4  n x1 x2 x3 V = some r → Rn e 223 4 [(0, .ref 89), (1, .int x1), (2, .int x2), (3, .int x3)] [] (SH ++ X) V (some (.int r)) (SH ++ X) V := by
  intro n
  induction n with
  | zero =>
    intro x1 x2 x3 V r h
    cases h
  | succ n ih =>
    intro x1 x2 x3 V r h
    rw [d_M_sharesBy_4] at h
    refine rn_go 3 (pc' := 9) (l' := [(0, .ref 89), (1, .int x1), (2, .int x2), (3, .int x3)]) (st' := [.int (gi V 89 1), .int x3]) (S1 := (SH ++ X)) (V1 := V) rfl ?_
    rcases ai_if h with ⟨hc, h⟩ | ⟨hc, h⟩
    · refine rn_brT rfl rfl rfl rfl hc ?_
      refine rn_go 1 (pc' := 28) (l' := [(0, .ref 89), (1, .int x1), (2, .int x2), (3, .int x3)]) (st' := [.int x2]) (S1 := (SH ++ X)) (V1 := V) rfl ?_
      obtain rfl := Option.some.inj h
      exact rn_ret rfl rfl rfl
    · refine rn_brF rfl rfl rfl rfl hc ?_
      refine rn_go 4 (pc' := 16) (l' := [(0, .ref 89), (1, .int x1), (2, .int x2), (3, .int x3)]) (st' := [.int x1, .int x3, .ref 89, .int x2]) (S1 := (SH ++ X)) (V1 := V) rfl ?_
      obtain ⟨q1, hq1, h⟩ := ai_bd h
      refine rn_call rfl rfl rfl rfl rfl rfl (by omega) (t_M_shareOf (by omega) hq1) ?_
      refine rn_go 4 (pc' := 4) (l' := [(3, .int (x3 + (1 : Int32))), (2, .int (x2 + q1)), (0, .ref 89), (1, .int x1)]) (st' := []) (S1 := (SH ++ X)) (V1 := V) rfl ?_
      exact rn_sub [2, 3, 1, 0] rfl rfl (ih x1 (x2 + q1) (x3 + (1 : Int32)) V _ h)
def d_M_sharesBy (x1 : Int32) (V : ai_V) : Option Int32 :=
  d_M_sharesBy_4 ai_N x1 (0 : Int32) (0 : Int32) V
set_option maxRecDepth 20000 in
theorem t_M_sharesBy {X : ai_S} {e : Nat} (hd : 1 ≤ e) {x1 : Int32} {V : ai_V} {r : Int32} (h : d_M_sharesBy x1 V = some r) : Rn e 223 0 (lv_args 0 [.ref 89, .int x1]) [] (SH ++ X) V (some (.int r)) (SH ++ X) V := by
  rw [d_M_sharesBy] at h
  refine rn_go 4 (pc' := 4) (l' := [(3, .int (0 : Int32)), (2, .int (0 : Int32)), (0, .ref 89), (1, .int x1)]) (st' := []) (S1 := (SH ++ X)) (V1 := V) rfl ?_
  exact rn_sub [2, 3, 1, 0] rfl rfl (t_M_sharesBy_4 (X := X) hd ai_N x1 (0 : Int32) (0 : Int32) V _ h)
-- RentByTheWheelModel.shares()I (89,)
def d_M_shares_58 (F14 : Int32 → Int32 → ai_V → Option (Int32 × ai_V)) (x2 : Int32) (s0 : Int32) (s1 : Int32) (V : ai_V) : Option (Int32 × ai_V) :=
  F14 (s1 ||| s0) (x2 + (1 : Int32)) V
set_option maxRecDepth 20000 in
theorem t_M_shares_58 {X : ai_S} {e : Nat} (hd : 2 ≤ e) (F14 : Int32 → Int32 → ai_V → Option (Int32 × ai_V)) (hF14 : ∀ (x1 : Int32) (x2 : Int32) (V : ai_V) (r : (Int32 × ai_V)), F14 x1 x2 V = some r → Rn e 224 14 [(0, .ref 89), (1, .int x1), (2, .int x2)] [] (SH ++ X) V (some (.int r.1)) (SH ++ X) r.2) (x2 : Int32) (s0 : Int32) (s1 : Int32) (V : ai_V) (r : (Int32 × ai_V)) (h : d_M_shares_58 F14 x2 s0 s1 V = some r) : Rn e 224 58 [(0, .ref 89), (2, .int x2)] [.int s0, .int s1] (SH ++ X) V (some (.int r.1)) (SH ++ X) r.2 := by
  rw [d_M_shares_58] at h
  refine rn_go 4 (pc' := 14) (l' := [(2, .int (x2 + (1 : Int32))), (1, .int (s1 ||| s0)), (0, .ref 89)]) (st' := []) (S1 := (SH ++ X)) (V1 := V) rfl ?_
  exact rn_sub [2, 1, 0] rfl rfl (hF14 (s1 ||| s0) (x2 + (1 : Int32)) V _ h)
def d_M_shares_14  : Nat → Int32 → Int32 → ai_V → Option (Int32 × ai_V)
  | 0, _, _, _ => none
  | n + 1, x1, x2, V => if (gi V 89 1) ≤ x2 then ((d_M_tell (x1).toInt64 V).bind fun q1 => ((d_M_sharesBy (gi q1 89 9) q1).bind fun q2 => (some (q2, q1)))) else ((d_M_shareOf x2 (gi V 89 9) V).bind fun q3 => ((d_M_tell (q3).toInt64 V).bind fun q4 => ((d_M_shareOf x2 (gi q4 89 9) q4).bind fun q5 => (if q5 ≤ (12 : Int32) then (d_M_shares_58 (d_M_shares_14 n) x2 (0 : Int32) x1 q4) else (d_M_shares_58 (d_M_shares_14 n) x2 ((1 : Int32) <<< (x2 &&& 31)) x1 q4)))))
set_option maxRecDepth 20000 in
theorem t_M_shares_14 {X : ai_S} {e : Nat} (hd : 2 ≤ e)  : ∀ (n : Nat) (x1 : Int32) (x2 : Int32) (V : ai_V) (r : (Int32 × ai_V)), d_M_shares_14  n x1 x2 V = some r → Rn e 224 14 [(0, .ref 89), (1, .int x1), (2, .int x2)] [] (SH ++ X) V (some (.int r.1)) (SH ++ X) r.2 := by
  intro n
  induction n with
  | zero =>
    intro x1 x2 V r h
    cases h
  | succ n ih =>
    intro x1 x2 V r h
    rw [d_M_shares_14] at h
    refine rn_go 3 (pc' := 19) (l' := [(0, .ref 89), (1, .int x1), (2, .int x2)]) (st' := [.int (gi V 89 1), .int x2]) (S1 := (SH ++ X)) (V1 := V) rfl ?_
    rcases ai_if h with ⟨hc, h⟩ | ⟨hc, h⟩
    · refine rn_brT rfl rfl rfl rfl hc ?_
      refine rn_go 3 (pc' := 69) (l' := [(0, .ref 89), (1, .int x1), (2, .int x2)]) (st' := [.long (x1).toInt64, .ref 89]) (S1 := (SH ++ X)) (V1 := V) rfl ?_
      obtain ⟨q1, hq1, h⟩ := ai_bd h
      refine rn_call rfl rfl rfl rfl rfl rfl (by omega) (t_M_tell (by omega) hq1) ?_
      refine rn_go 3 (pc' := 77) (l' := [(0, .ref 89), (1, .int x1), (2, .int x2)]) (st' := [.int (gi q1 89 9), .ref 89]) (S1 := (SH ++ X)) (V1 := q1) rfl ?_
      obtain ⟨q2, hq2, h⟩ := ai_bd h
      refine rn_call rfl rfl rfl rfl rfl rfl (by omega) (t_M_sharesBy (by omega) hq2) ?_
      obtain rfl := Option.some.inj h
      exact rn_ret rfl rfl rfl
    · refine rn_brF rfl rfl rfl rfl hc ?_
      refine rn_go 5 (pc' := 29) (l' := [(0, .ref 89), (1, .int x1), (2, .int x2)]) (st' := [.int (gi V 89 9), .int x2, .ref 89, .ref 89]) (S1 := (SH ++ X)) (V1 := V) rfl ?_
      obtain ⟨q3, hq3, h⟩ := ai_bd h
      refine rn_call rfl rfl rfl rfl rfl rfl (by omega) (t_M_shareOf (by omega) hq3) ?_
      refine rn_go 1 (pc' := 33) (l' := [(0, .ref 89), (1, .int x1), (2, .int x2)]) (st' := [.long (q3).toInt64, .ref 89]) (S1 := (SH ++ X)) (V1 := V) rfl ?_
      obtain ⟨q4, hq4, h⟩ := ai_bd h
      refine rn_call rfl rfl rfl rfl rfl rfl (by omega) (t_M_tell (by omega) hq4) ?_
      refine rn_go 5 (pc' := 43) (l' := [(0, .ref 89), (1, .int x1), (2, .int x2)]) (st' := [.int (gi q4 89 9), .int x2, .ref 89, .int x1]) (S1 := (SH ++ X)) (V1 := q4) rfl ?_
      obtain ⟨q5, hq5, h⟩ := ai_bd h
      refine rn_call rfl rfl rfl rfl rfl rfl (by omega) (t_M_shareOf (by omega) hq5) ?_
      refine rn_go 1 (pc' := 48) (l' := [(0, .ref 89), (1, .int x1), (2, .int x2)]) (st' := [.int (12 : Int32), .int q5, .int x1]) (S1 := (SH ++ X)) (V1 := q4) rfl ?_
      rcases ai_if h with ⟨hc, h⟩ | ⟨hc, h⟩
      · refine rn_brT rfl rfl rfl rfl hc ?_
        refine rn_go 1 (pc' := 58) (l' := [(0, .ref 89), (1, .int x1), (2, .int x2)]) (st' := [.int (0 : Int32), .int x1]) (S1 := (SH ++ X)) (V1 := q4) rfl ?_
        exact rn_sub [0, 2] rfl rfl (t_M_shares_58 (X := X) hd (d_M_shares_14 n) (ih) x2 (0 : Int32) x1 q4 _ h)
      · refine rn_brF rfl rfl rfl rfl hc ?_
        refine rn_go 4 (pc' := 58) (l' := [(0, .ref 89), (1, .int x1), (2, .int x2)]) (st' := [.int ((1 : Int32) <<< (x2 &&& 31)), .int x1]) (S1 := (SH ++ X)) (V1 := q4) rfl ?_
        exact rn_sub [0, 2] rfl rfl (t_M_shares_58 (X := X) hd (d_M_shares_14 n) (ih) x2 ((1 : Int32) <<< (x2 &&& 31)) x1 q4 _ h)
def d_M_shares  (V : ai_V) : Option (Int32 × ai_V) :=
  d_M_shares_14 ai_N (0 : Int32) (0 : Int32) (si (si V 89 14 (0 : Int32)) 89 13 (0 : Int32))
set_option maxRecDepth 20000 in
theorem t_M_shares {X : ai_S} {e : Nat} (hd : 2 ≤ e)  {V : ai_V} {r : (Int32 × ai_V)} (h : d_M_shares  V = some r) : Rn e 224 0 (lv_args 0 [.ref 89]) [] (SH ++ X) V (some (.int r.1)) (SH ++ X) r.2 := by
  rw [d_M_shares] at h
  refine rn_go 10 (pc' := 14) (l' := [(2, .int (0 : Int32)), (1, .int (0 : Int32)), (0, .ref 89)]) (st' := []) (S1 := (SH ++ X)) (V1 := (si (si V 89 14 (0 : Int32)) 89 13 (0 : Int32))) rfl ?_
  exact rn_sub [2, 1, 0] rfl rfl (t_M_shares_14 (X := X) hd ai_N (0 : Int32) (0 : Int32) (si (si V 89 14 (0 : Int32)) 89 13 (0 : Int32)) _ h)
-- RentByTheWheelModel.fairdue()I (89,)
def d_M_fairdue_8  : Nat → Int32 → ai_V → Option (Int32 × ai_V)
  | 0, _, _ => none
  | n + 1, x1, V => (d_M_sharesBy x1 V).bind fun q1 => (if q1 ≤ (12 : Int32) then ((d_M_sharesBy x1 (si V 89 13 (0 : Int32))).bind fun q2 => ((d_M_tell (q2).toInt64 (si V 89 13 (0 : Int32))).bind fun q3 => (some (x1, q3)))) else (d_M_fairdue_8 n (x1 + (-1 : Int32)) V))
set_option maxRecDepth 20000 in
theorem t_M_fairdue_8 {X : ai_S} {e : Nat} (hd : 2 ≤ e)  : ∀ (n : Nat) (x1 : Int32) (V : ai_V) (r : (Int32 × ai_V)), d_M_fairdue_8  n x1 V = some r → Rn e 225 8 [(0, .ref 89), (1, .int x1)] [] (SH ++ X) V (some (.int r.1)) (SH ++ X) r.2 := by
  intro n
  induction n with
  | zero =>
    intro x1 V r h
    cases h
  | succ n ih =>
    intro x1 V r h
    rw [d_M_fairdue_8] at h
    refine rn_go 2 (pc' := 10) (l' := [(0, .ref 89), (1, .int x1)]) (st' := [.int x1, .ref 89]) (S1 := (SH ++ X)) (V1 := V) rfl ?_
    obtain ⟨q1, hq1, h⟩ := ai_bd h
    refine rn_call rfl rfl rfl rfl rfl rfl (by omega) (t_M_sharesBy (by omega) hq1) ?_
    refine rn_go 1 (pc' := 15) (l' := [(0, .ref 89), (1, .int x1)]) (st' := [.int (12 : Int32), .int q1]) (S1 := (SH ++ X)) (V1 := V) rfl ?_
    rcases ai_if h with ⟨hc, h⟩ | ⟨hc, h⟩
    · refine rn_brT rfl rfl rfl rfl hc ?_
      refine rn_go 6 (pc' := 32) (l' := [(0, .ref 89), (1, .int x1)]) (st' := [.int x1, .ref 89, .ref 89]) (S1 := (SH ++ X)) (V1 := (si V 89 13 (0 : Int32))) rfl ?_
      obtain ⟨q2, hq2, h⟩ := ai_bd h
      refine rn_call rfl rfl rfl rfl rfl rfl (by omega) (t_M_sharesBy (by omega) hq2) ?_
      refine rn_go 1 (pc' := 36) (l' := [(0, .ref 89), (1, .int x1)]) (st' := [.long (q2).toInt64, .ref 89]) (S1 := (SH ++ X)) (V1 := (si V 89 13 (0 : Int32))) rfl ?_
      obtain ⟨q3, hq3, h⟩ := ai_bd h
      refine rn_call rfl rfl rfl rfl rfl rfl (by omega) (t_M_tell (by omega) hq3) ?_
      refine rn_go 1 (pc' := 40) (l' := [(0, .ref 89), (1, .int x1)]) (st' := [.int x1]) (S1 := (SH ++ X)) (V1 := q3) rfl ?_
      obtain rfl := Option.some.inj h
      exact rn_ret rfl rfl rfl
    · refine rn_brF rfl rfl rfl rfl hc ?_
      refine rn_go 2 (pc' := 8) (l' := [(1, .int (x1 + (-1 : Int32))), (0, .ref 89)]) (st' := []) (S1 := (SH ++ X)) (V1 := V) rfl ?_
      exact rn_sub [1, 0] rfl rfl (ih (x1 + (-1 : Int32)) V _ h)
def d_M_fairdue  (V : ai_V) : Option (Int32 × ai_V) :=
  d_M_fairdue_8 ai_N (9 : Int32) (si V 89 14 (0 : Int32))
set_option maxRecDepth 20000 in
theorem t_M_fairdue {X : ai_S} {e : Nat} (hd : 2 ≤ e)  {V : ai_V} {r : (Int32 × ai_V)} (h : d_M_fairdue  V = some r) : Rn e 225 0 (lv_args 0 [.ref 89]) [] (SH ++ X) V (some (.int r.1)) (SH ++ X) r.2 := by
  rw [d_M_fairdue] at h
  refine rn_go 5 (pc' := 8) (l' := [(1, .int (9 : Int32)), (0, .ref 89)]) (st' := []) (S1 := (SH ++ X)) (V1 := (si V 89 14 (0 : Int32))) rfl ?_
  exact rn_sub [1, 0] rfl rfl (t_M_fairdue_8 (X := X) hd ai_N (9 : Int32) (si V 89 14 (0 : Int32)) _ h)
-- RentByTheWheelModel.ahead(I)I (89, None)
def d_M_ahead_17  : Nat → Int32 → Int32 → ai_V → Option (Int32 × ai_V)
  | 0, _, _, _ => none
  | n + 1, x1, x2, V => if ai_in x1 14 then (if 0 < (ga V 90 (x1).toNatClampNeg) then (some (x2, V)) else (if (99 : Int32) ≤ x2 then (some (x2, V)) else (if ai_in x1 14 then (if ai_in x1 6 then (if 0 < ((ga V 90 (x1).toNatClampNeg) + (((x2 + (1 : Int32)) * (gi V 89 9)) * ((ga V 91 (x1).toNatClampNeg) + (1 : Int32)))) then (some (x2, V)) else (d_M_ahead_17 n x1 (x2 + (1 : Int32)) V)) else none) else none))) else none
set_option maxRecDepth 20000 in
theorem t_M_ahead_17 {X : ai_S} {e : Nat} (hd : 2 ≤ e)  : ∀ (n : Nat) (x1 : Int32) (x2 : Int32) (V : ai_V) (r : (Int32 × ai_V)), d_M_ahead_17  n x1 x2 V = some r → Rn e 226 17 [(0, .ref 89), (1, .int x1), (2, .int x2)] [] (SH ++ X) V (some (.int r.1)) (SH ++ X) r.2 := by
  intro n
  induction n with
  | zero =>
    intro x1 x2 V r h
    cases h
  | succ n ih =>
    intro x1 x2 V r h
    rw [d_M_ahead_17] at h
    refine rn_go 3 (pc' := 22) (l' := [(0, .ref 89), (1, .int x1), (2, .int x2)]) (st' := [.int x1, .ref 90]) (S1 := (SH ++ X)) (V1 := V) rfl ?_
    obtain ⟨hg, h⟩ := ai_gd h
    refine rg_iald (n := 14) rfl rfl hg ?_
    rcases ai_if h with ⟨hc, h⟩ | ⟨hc, h⟩
    · refine rn_brT rfl rfl rfl rfl hc ?_
      refine rn_go 1 (pc' := 66) (l' := [(0, .ref 89), (1, .int x1), (2, .int x2)]) (st' := [.int x2]) (S1 := (SH ++ X)) (V1 := V) rfl ?_
      obtain rfl := Option.some.inj h
      exact rn_ret rfl rfl rfl
    · refine rn_brF rfl rfl rfl rfl hc ?_
      refine rn_go 2 (pc' := 29) (l' := [(0, .ref 89), (1, .int x1), (2, .int x2)]) (st' := [.int (99 : Int32), .int x2]) (S1 := (SH ++ X)) (V1 := V) rfl ?_
      rcases ai_if h with ⟨hc, h⟩ | ⟨hc, h⟩
      · refine rn_brT rfl rfl rfl rfl hc ?_
        refine rn_go 1 (pc' := 66) (l' := [(0, .ref 89), (1, .int x1), (2, .int x2)]) (st' := [.int x2]) (S1 := (SH ++ X)) (V1 := V) rfl ?_
        obtain rfl := Option.some.inj h
        exact rn_ret rfl rfl rfl
      · refine rn_brF rfl rfl rfl rfl hc ?_
        refine rn_go 3 (pc' := 37) (l' := [(0, .ref 89), (1, .int x1), (2, .int x2)]) (st' := [.int x1, .ref 90]) (S1 := (SH ++ X)) (V1 := V) rfl ?_
        obtain ⟨hg, h⟩ := ai_gd h
        refine rg_iald (n := 14) rfl rfl hg ?_
        refine rn_go 9 (pc' := 51) (l' := [(0, .ref 89), (1, .int x1), (2, .int x2)]) (st' := [.int x1, .ref 91, .int ((x2 + (1 : Int32)) * (gi V 89 9)), .int (ga V 90 (x1).toNatClampNeg)]) (S1 := (SH ++ X)) (V1 := V) rfl ?_
        obtain ⟨hg, h⟩ := ai_gd h
        refine rg_iald (n := 6) rfl rfl hg ?_
        refine rn_go 4 (pc' := 56) (l' := [(0, .ref 89), (1, .int x1), (2, .int x2)]) (st' := [.int ((ga V 90 (x1).toNatClampNeg) + (((x2 + (1 : Int32)) * (gi V 89 9)) * ((ga V 91 (x1).toNatClampNeg) + (1 : Int32))))]) (S1 := (SH ++ X)) (V1 := V) rfl ?_
        rcases ai_if h with ⟨hc, h⟩ | ⟨hc, h⟩
        · refine rn_brT rfl rfl rfl rfl hc ?_
          refine rn_go 1 (pc' := 66) (l' := [(0, .ref 89), (1, .int x1), (2, .int x2)]) (st' := [.int x2]) (S1 := (SH ++ X)) (V1 := V) rfl ?_
          obtain rfl := Option.some.inj h
          exact rn_ret rfl rfl rfl
        · refine rn_brF rfl rfl rfl rfl hc ?_
          refine rn_go 2 (pc' := 17) (l' := [(2, .int (x2 + (1 : Int32))), (0, .ref 89), (1, .int x1)]) (st' := []) (S1 := (SH ++ X)) (V1 := V) rfl ?_
          exact rn_sub [1, 2, 0] rfl rfl (ih x1 (x2 + (1 : Int32)) V _ h)
def d_M_ahead (x1 : Int32) (V : ai_V) : Option (Int32 × ai_V) :=
  (d_M_isOne x1 (si V 89 14 (0 : Int32))).bind fun q1 => (if ¬ q1 = 0 then (d_M_ahead_17 ai_N x1 (0 : Int32) (si V 89 14 (0 : Int32))) else (some ((-1 : Int32), (si V 89 14 (0 : Int32)))))
set_option maxRecDepth 20000 in
theorem t_M_ahead {X : ai_S} {e : Nat} (hd : 2 ≤ e) {x1 : Int32} {V : ai_V} {r : (Int32 × ai_V)} (h : d_M_ahead x1 V = some r) : Rn e 226 0 (lv_args 0 [.ref 89, .int x1]) [] (SH ++ X) V (some (.int r.1)) (SH ++ X) r.2 := by
  rw [d_M_ahead] at h
  refine rn_go 5 (pc' := 7) (l' := [(0, .ref 89), (1, .int x1)]) (st' := [.int x1, .ref 89]) (S1 := (SH ++ X)) (V1 := (si V 89 14 (0 : Int32))) rfl ?_
  obtain ⟨q1, hq1, h⟩ := ai_bd h
  refine rn_call rfl rfl rfl rfl rfl rfl (by omega) (t_M_isOne (by omega) hq1) ?_
  rcases ai_if h with ⟨hc, h⟩ | ⟨hc, h⟩
  · refine rn_brT rfl rfl rfl rfl hc ?_
    refine rn_go 2 (pc' := 17) (l' := [(2, .int (0 : Int32)), (0, .ref 89), (1, .int x1)]) (st' := []) (S1 := (SH ++ X)) (V1 := (si V 89 14 (0 : Int32))) rfl ?_
    exact rn_sub [1, 2, 0] rfl rfl (t_M_ahead_17 (X := X) hd ai_N x1 (0 : Int32) (si V 89 14 (0 : Int32)) _ h)
  · refine rn_brF rfl rfl rfl rfl hc ?_
    refine rn_go 1 (pc' := 14) (l' := [(0, .ref 89), (1, .int x1)]) (st' := [.int (-1 : Int32)]) (S1 := (SH ++ X)) (V1 := (si V 89 14 (0 : Int32))) rfl ?_
    obtain rfl := Option.some.inj h
    exact rn_ret rfl rfl rfl
-- RentByTheWheelModel.changed(III)I (89, None, None, None)
def d_M_changed_21   (V : ai_V) : Option (Int32 × ai_V) :=
  some ((-1000 : Int32), V)
set_option maxRecDepth 20000 in
theorem t_M_changed_21 {X : ai_S} {e : Nat} (hd : 332 ≤ e)   (V : ai_V) (r : (Int32 × ai_V)) (h : d_M_changed_21   V = some r) : Rn e 227 21 [] [] (SH ++ X) V (some (.int r.1)) (SH ++ X) r.2 := by
  rw [d_M_changed_21] at h
  refine rn_go 1 (pc' := 24) (l' := []) (st' := [.int (-1000 : Int32)]) (S1 := (SH ++ X)) (V1 := V) rfl ?_
  obtain rfl := Option.some.inj h
  exact rn_ret rfl rfl rfl
def d_M_changed (x1 : Int32) (x2 : Int32) (x3 : Int32) (V : ai_V) : Option (Int32 × ai_V) :=
  (d_M_areTwo x1 x2 (si V 89 14 (0 : Int32))).bind fun q1 => (if q1 = 0 then (d_M_changed_21 (si V 89 14 (0 : Int32))) else ((d_M_isMore x3 (si V 89 14 (0 : Int32))).bind fun q2 => (if ¬ q2 = 0 then ((d_M_dryBy (-1 : Int32) x3 (gi (si V 89 14 (0 : Int32)) 89 8) (si V 89 14 (0 : Int32))).bind fun q3 => ((d_M_dryBy (-1 : Int32) x3 (gi (si (si q3.2 89 30 x1) 89 31 x2) 89 8) (si (si q3.2 89 30 x1) 89 31 x2)).bind fun q4 => ((d_M_tell (q3.1).toInt64 (si (si (si q4.2 89 30 (-1 : Int32)) 89 31 (-1 : Int32)) 89 13 (0 : Int32))).bind fun q5 => ((d_M_tell (q4.1).toInt64 q5).bind fun q6 => (some ((q4.1 - q3.1), q6)))))) else (d_M_changed_21 (si V 89 14 (0 : Int32))))))
set_option maxRecDepth 20000 in
theorem t_M_changed {X : ai_S} {e : Nat} (hd : 332 ≤ e) {x1 : Int32} {x2 : Int32} {x3 : Int32} {V : ai_V} {r : (Int32 × ai_V)} (h : d_M_changed x1 x2 x3 V = some r) : Rn e 227 0 (lv_args 0 [.ref 89, .int x1, .int x2, .int x3]) [] (SH ++ X) V (some (.int r.1)) (SH ++ X) r.2 := by
  rw [d_M_changed] at h
  refine rn_go 6 (pc' := 8) (l' := [(0, .ref 89), (1, .int x1), (2, .int x2), (3, .int x3)]) (st' := [.int x2, .int x1, .ref 89]) (S1 := (SH ++ X)) (V1 := (si V 89 14 (0 : Int32))) rfl ?_
  obtain ⟨q1, hq1, h⟩ := ai_bd h
  refine rn_call rfl rfl rfl rfl rfl rfl (by omega) (t_M_areTwo (by omega) hq1) ?_
  rcases ai_if h with ⟨hc, h⟩ | ⟨hc, h⟩
  · refine rn_brT rfl rfl rfl rfl hc ?_
    exact rn_sub [] rfl rfl (t_M_changed_21 (X := X) hd (si V 89 14 (0 : Int32)) _ h)
  · refine rn_brF rfl rfl rfl rfl hc ?_
    refine rn_go 1 (pc' := 15) (l' := [(0, .ref 89), (1, .int x1), (2, .int x2), (3, .int x3)]) (st' := [.int x3]) (S1 := (SH ++ X)) (V1 := (si V 89 14 (0 : Int32))) rfl ?_
    obtain ⟨q2, hq2, h⟩ := ai_bd h
    refine rn_call rfl rfl rfl rfl rfl rfl (by omega) (t_M_isMore (by omega) hq2) ?_
    rcases ai_if h with ⟨hc, h⟩ | ⟨hc, h⟩
    · refine rn_brT rfl rfl rfl rfl hc ?_
      refine rn_go 5 (pc' := 32) (l' := [(0, .ref 89), (1, .int x1), (2, .int x2), (3, .int x3)]) (st' := [.int (gi (si V 89 14 (0 : Int32)) 89 8), .int x3, .int (-1 : Int32), .ref 89]) (S1 := (SH ++ X)) (V1 := (si V 89 14 (0 : Int32))) rfl ?_
      obtain ⟨q3, hq3, h⟩ := ai_bd h
      refine rn_call rfl rfl rfl rfl rfl rfl (by omega) (t_M_dryBy (by omega) hq3) ?_
      refine rn_go 12 (pc' := 54) (l' := [(4, .int q3.1), (0, .ref 89), (1, .int x1), (2, .int x2), (3, .int x3)]) (st' := [.int (gi (si (si q3.2 89 30 x1) 89 31 x2) 89 8), .int x3, .int (-1 : Int32), .ref 89]) (S1 := (SH ++ X)) (V1 := (si (si q3.2 89 30 x1) 89 31 x2)) rfl ?_
      obtain ⟨q4, hq4, h⟩ := ai_bd h
      refine rn_call rfl rfl rfl rfl rfl rfl (by omega) (t_M_dryBy (by omega) hq4) ?_
      refine rn_go 13 (pc' := 78) (l' := [(5, .int q4.1), (4, .int q3.1), (0, .ref 89), (1, .int x1), (2, .int x2), (3, .int x3)]) (st' := [.long (q3.1).toInt64, .ref 89]) (S1 := (SH ++ X)) (V1 := (si (si (si q4.2 89 30 (-1 : Int32)) 89 31 (-1 : Int32)) 89 13 (0 : Int32))) rfl ?_
      obtain ⟨q5, hq5, h⟩ := ai_bd h
      refine rn_call rfl rfl rfl rfl rfl rfl (by omega) (t_M_tell (by omega) hq5) ?_
      refine rn_go 3 (pc' := 85) (l' := [(5, .int q4.1), (4, .int q3.1), (0, .ref 89), (1, .int x1), (2, .int x2), (3, .int x3)]) (st' := [.long (q4.1).toInt64, .ref 89]) (S1 := (SH ++ X)) (V1 := q5) rfl ?_
      obtain ⟨q6, hq6, h⟩ := ai_bd h
      refine rn_call rfl rfl rfl rfl rfl rfl (by omega) (t_M_tell (by omega) hq6) ?_
      refine rn_go 3 (pc' := 93) (l' := [(5, .int q4.1), (4, .int q3.1), (0, .ref 89), (1, .int x1), (2, .int x2), (3, .int x3)]) (st' := [.int (q4.1 - q3.1)]) (S1 := (SH ++ X)) (V1 := q6) rfl ?_
      obtain rfl := Option.some.inj h
      exact rn_ret rfl rfl rfl
    · refine rn_brF rfl rfl rfl rfl hc ?_
      exact rn_sub [] rfl rfl (t_M_changed_21 (X := X) hd (si V 89 14 (0 : Int32)) _ h)
-- RentByTheWheelModel.lasts()I (89,)
def d_M_lasts_19  : Nat → Int32 → ai_V → Option (Int32 × ai_V)
  | 0, _, _ => none
  | n + 1, x1, V => if (99 : Int32) ≤ x1 then (some ((-2 : Int32), V)) else ((d_M_goQuarter_89_103 (0 : Int32) (gi V 89 8) V).bind fun q1 => (if ¬ (gi q1 89 29) = 0 then ((d_M_tell (((gi (si q1 89 13 (0 : Int32)) 89 29)).toInt64) (si q1 89 13 (0 : Int32))).bind fun q2 => (some (x1, q2))) else (d_M_lasts_19 n (x1 + (1 : Int32)) q1)))
set_option maxRecDepth 20000 in
theorem t_M_lasts_19 {X : ai_S} {e : Nat} (hd : 331 ≤ e)  : ∀ (n : Nat) (x1 : Int32) (V : ai_V) (r : (Int32 × ai_V)), d_M_lasts_19  n x1 V = some r → Rn e 228 19 [(0, .ref 89), (1, .int x1)] [] (SH ++ X) V (some (.int r.1)) (SH ++ X) r.2 := by
  intro n
  induction n with
  | zero =>
    intro x1 V r h
    cases h
  | succ n ih =>
    intro x1 V r h
    rw [d_M_lasts_19] at h
    refine rn_go 2 (pc' := 22) (l' := [(0, .ref 89), (1, .int x1)]) (st' := [.int (99 : Int32), .int x1]) (S1 := (SH ++ X)) (V1 := V) rfl ?_
    rcases ai_if h with ⟨hc, h⟩ | ⟨hc, h⟩
    · refine rn_brT rfl rfl rfl rfl hc ?_
      refine rn_go 1 (pc' := 72) (l' := [(0, .ref 89), (1, .int x1)]) (st' := [.int (-2 : Int32)]) (S1 := (SH ++ X)) (V1 := V) rfl ?_
      obtain rfl := Option.some.inj h
      exact rn_ret rfl rfl rfl
    · refine rn_brF rfl rfl rfl rfl hc ?_
      refine rn_go 6 (pc' := 35) (l' := [(0, .ref 89), (1, .int x1)]) (st' := [.int (gi V 89 8), .int (0 : Int32), .ref 103, .ref 89]) (S1 := (SH ++ X)) (V1 := V) rfl ?_
      obtain ⟨q1, hq1, h⟩ := ai_bd h
      refine rn_call rfl rfl rfl rfl rfl rfl (by omega) (t_M_goQuarter_89_103 (by omega) hq1) ?_
      refine rn_go 2 (pc' := 42) (l' := [(0, .ref 89), (1, .int x1)]) (st' := [.int (gi q1 89 29)]) (S1 := (SH ++ X)) (V1 := q1) rfl ?_
      rcases ai_if h with ⟨hc, h⟩ | ⟨hc, h⟩
      · refine rn_brT rfl rfl rfl rfl hc ?_
        refine rn_go 7 (pc' := 59) (l' := [(0, .ref 89), (1, .int x1)]) (st' := [.long ((gi (si q1 89 13 (0 : Int32)) 89 29)).toInt64, .ref 89]) (S1 := (SH ++ X)) (V1 := (si q1 89 13 (0 : Int32))) rfl ?_
        obtain ⟨q2, hq2, h⟩ := ai_bd h
        refine rn_call rfl rfl rfl rfl rfl rfl (by omega) (t_M_tell (by omega) hq2) ?_
        refine rn_go 1 (pc' := 63) (l' := [(0, .ref 89), (1, .int x1)]) (st' := [.int x1]) (S1 := (SH ++ X)) (V1 := q2) rfl ?_
        obtain rfl := Option.some.inj h
        exact rn_ret rfl rfl rfl
      · refine rn_brF rfl rfl rfl rfl hc ?_
        refine rn_go 3 (pc' := 19) (l' := [(1, .int (x1 + (1 : Int32))), (0, .ref 89)]) (st' := []) (S1 := (SH ++ X)) (V1 := q1) rfl ?_
        exact rn_sub [1, 0] rfl rfl (ih (x1 + (1 : Int32)) q1 _ h)
def d_M_lasts  (V : ai_V) : Option (Int32 × ai_V) :=
  (d_M_lay_90_103 (0 : Int32) (si V 89 14 (0 : Int32))).bind fun q3 => (d_M_lasts_19 ai_N (0 : Int32) q3)
set_option maxRecDepth 20000 in
theorem t_M_lasts {X : ai_S} {e : Nat} (hd : 331 ≤ e)  {V : ai_V} {r : (Int32 × ai_V)} (h : d_M_lasts  V = some r) : Rn e 228 0 (lv_args 0 [.ref 89]) [] (SH ++ X) V (some (.int r.1)) (SH ++ X) r.2 := by
  rw [d_M_lasts] at h
  refine rn_go 8 (pc' := 14) (l' := [(0, .ref 89)]) (st' := [.int (0 : Int32), .ref 103, .ref 90]) (S1 := (SH ++ X)) (V1 := (si V 89 14 (0 : Int32))) rfl ?_
  obtain ⟨q3, hq3, h⟩ := ai_bd h
  refine rn_call rfl rfl rfl rfl rfl rfl (by omega) (t_M_lay_90_103 (by omega) hq3) ?_
  refine rn_go 2 (pc' := 19) (l' := [(1, .int (0 : Int32)), (0, .ref 89)]) (st' := []) (S1 := (SH ++ X)) (V1 := q3) rfl ?_
  exact rn_sub [1, 0] rfl rfl (t_M_lasts_19 (X := X) hd ai_N (0 : Int32) q3 _ h)
-- RentByTheWheelModel.goPairs(IIII)V (89, None, None, None, None)
def d_M_goPairs_27 (T : Int32 → Int32 → Int32 → Int32 → ai_V → Option ai_V)  : Nat → Int32 → ai_V → Option ai_V
  | 0, _, _ => none
  | n + 1, x5, V => if (gi V 89 1) ≤ x5 then (some V) else (if ai_in x5 6 then (if ai_in x5 6 then (d_M_goPairs_27 T n (x5 + (1 : Int32)) (sa V 106 (x5).toNatClampNeg (ga V 105 (x5).toNatClampNeg))) else none) else none)
set_option maxRecDepth 20000 in
theorem t_M_goPairs_27 (T : Int32 → Int32 → Int32 → Int32 → ai_V → Option ai_V) (DT : Nat) (hT : ∀ {X : ai_S} {e : Nat}, DT ≤ e → ∀ (x1 : Int32) (x2 : Int32) (x3 : Int32) (x4 : Int32) (V : ai_V) (r : ai_V), T x1 x2 x3 x4 V = some r → Rn e 229 0 (lv_args 0 [.ref 89, .int x1, .int x2, .int x3, .int x4]) [] (SH ++ X) V none (SH ++ X) r) {X : ai_S} {e : Nat} (hd : DT + 1 ≤ e ∧ 331 ≤ e)  : ∀ (n : Nat) (x5 : Int32) (V : ai_V) (r : ai_V), d_M_goPairs_27 T  n x5 V = some r → Rn e 229 27 [(0, .ref 89), (5, .int x5)] [] (SH ++ X) V none (SH ++ X) r := by
  intro n
  induction n with
  | zero =>
    intro x5 V r h
    cases h
  | succ n ih =>
    intro x5 V r h
    rw [d_M_goPairs_27] at h
    refine rn_go 3 (pc' := 33) (l' := [(0, .ref 89), (5, .int x5)]) (st' := [.int (gi V 89 1), .int x5]) (S1 := (SH ++ X)) (V1 := V) rfl ?_
    rcases ai_if h with ⟨hc, h⟩ | ⟨hc, h⟩
    · refine rn_brT rfl rfl rfl rfl hc ?_
      obtain rfl := Option.some.inj h
      exact rn_ret rfl rfl rfl
    · refine rn_brF rfl rfl rfl rfl hc ?_
      refine rn_go 6 (pc' := 48) (l' := [(0, .ref 89), (5, .int x5)]) (st' := [.int x5, .ref 105, .int x5, .ref 106]) (S1 := (SH ++ X)) (V1 := V) rfl ?_
      obtain ⟨hg, h⟩ := ai_gd h
      refine rg_iald (n := 6) rfl rfl hg ?_
      obtain ⟨hg, h⟩ := ai_gd h
      refine rg_iast (n := 6) rfl rfl hg ?_
      refine rn_go 2 (pc' := 27) (l' := [(5, .int (x5 + (1 : Int32))), (0, .ref 89)]) (st' := []) (S1 := (SH ++ X)) (V1 := (sa V 106 (x5).toNatClampNeg (ga V 105 (x5).toNatClampNeg))) rfl ?_
      exact rn_sub [1, 0] rfl rfl (ih (x5 + (1 : Int32)) (sa V 106 (x5).toNatClampNeg (ga V 105 (x5).toNatClampNeg)) _ h)
def d_M_goPairs_192 (T : Int32 → Int32 → Int32 → Int32 → ai_V → Option ai_V) (F105 : Int32 → Int32 → Int32 → Int32 → Int32 → ai_V → Option ai_V) (x1 : Int32) (x2 : Int32) (x3 : Int32) (x4 : Int32) (x5 : Int32) (V : ai_V) : Option ai_V :=
  F105 x1 x2 x3 x4 (x5 + (1 : Int32)) V
set_option maxRecDepth 20000 in
theorem t_M_goPairs_192 (T : Int32 → Int32 → Int32 → Int32 → ai_V → Option ai_V) (DT : Nat) (hT : ∀ {X : ai_S} {e : Nat}, DT ≤ e → ∀ (x1 : Int32) (x2 : Int32) (x3 : Int32) (x4 : Int32) (V : ai_V) (r : ai_V), T x1 x2 x3 x4 V = some r → Rn e 229 0 (lv_args 0 [.ref 89, .int x1, .int x2, .int x3, .int x4]) [] (SH ++ X) V none (SH ++ X) r) {X : ai_S} {e : Nat} (hd : DT + 1 ≤ e ∧ 331 ≤ e) (F105 : Int32 → Int32 → Int32 → Int32 → Int32 → ai_V → Option ai_V) (hF105 : ∀ (x1 : Int32) (x2 : Int32) (x3 : Int32) (x4 : Int32) (x5 : Int32) (V : ai_V) (r : ai_V), F105 x1 x2 x3 x4 x5 V = some r → Rn e 229 105 [(0, .ref 89), (1, .int x1), (2, .int x2), (3, .int x3), (4, .int x4), (5, .int x5)] [] (SH ++ X) V none (SH ++ X) r) (x1 : Int32) (x2 : Int32) (x3 : Int32) (x4 : Int32) (x5 : Int32) (V : ai_V) (r : ai_V) (h : d_M_goPairs_192 T F105 x1 x2 x3 x4 x5 V = some r) : Rn e 229 192 [(0, .ref 89), (1, .int x1), (2, .int x2), (3, .int x3), (4, .int x4), (5, .int x5)] [] (SH ++ X) V none (SH ++ X) r := by
  rw [d_M_goPairs_192] at h
  refine rn_go 2 (pc' := 105) (l' := [(5, .int (x5 + (1 : Int32))), (0, .ref 89), (1, .int x1), (2, .int x2), (3, .int x3), (4, .int x4)]) (st' := []) (S1 := (SH ++ X)) (V1 := V) rfl ?_
  exact rn_sub [1, 2, 3, 4, 5, 0] rfl rfl (hF105 x1 x2 x3 x4 (x5 + (1 : Int32)) V _ h)
def d_M_goPairs_105 (T : Int32 → Int32 → Int32 → Int32 → ai_V → Option ai_V)  : Nat → Int32 → Int32 → Int32 → Int32 → Int32 → ai_V → Option ai_V
  | 0, _, _, _, _, _, _ => none
  | n + 1, x1, x2, x3, x4, x5, V => if (gi V 89 1) ≤ x5 then (some V) else ((d_M_has x2 x5 V).bind fun q1 => (if ¬ q1 = 0 then (if ai_in x1 6 then (if ai_in x5 6 then ((d_M_liftNow (((1 : Int32) <<< (x1 &&& 31)) ||| ((1 : Int32) <<< (x5 &&& 31))) (sa (sa V 105 (x1).toNatClampNeg x5) 105 (x5).toNatClampNeg x1)).bind fun q2 => ((T (x1 + (1 : Int32)) (x2 &&& ((((1 : Int32) <<< (x1 &&& 31)) ||| ((1 : Int32) <<< (x5 &&& 31))) ^^^ (-1 : Int32))) x3 (x4 + q2.1) q2.2).bind fun q3 => (if ai_in x1 6 then (if ai_in x5 6 then (d_M_goPairs_192 T (d_M_goPairs_105 T n) x1 x2 x3 x4 x5 (sa (sa q3 105 (x1).toNatClampNeg (-1 : Int32)) 105 (x5).toNatClampNeg (-1 : Int32))) else none) else none))) else none) else none) else (d_M_goPairs_192 T (d_M_goPairs_105 T n) x1 x2 x3 x4 x5 V)))
set_option maxRecDepth 20000 in
theorem t_M_goPairs_105 (T : Int32 → Int32 → Int32 → Int32 → ai_V → Option ai_V) (DT : Nat) (hT : ∀ {X : ai_S} {e : Nat}, DT ≤ e → ∀ (x1 : Int32) (x2 : Int32) (x3 : Int32) (x4 : Int32) (V : ai_V) (r : ai_V), T x1 x2 x3 x4 V = some r → Rn e 229 0 (lv_args 0 [.ref 89, .int x1, .int x2, .int x3, .int x4]) [] (SH ++ X) V none (SH ++ X) r) {X : ai_S} {e : Nat} (hd : DT + 1 ≤ e ∧ 331 ≤ e)  : ∀ (n : Nat) (x1 : Int32) (x2 : Int32) (x3 : Int32) (x4 : Int32) (x5 : Int32) (V : ai_V) (r : ai_V), d_M_goPairs_105 T  n x1 x2 x3 x4 x5 V = some r → Rn e 229 105 [(0, .ref 89), (1, .int x1), (2, .int x2), (3, .int x3), (4, .int x4), (5, .int x5)] [] (SH ++ X) V none (SH ++ X) r := by
  intro n
  induction n with
  | zero =>
    intro x1 x2 x3 x4 x5 V r h
    cases h
  | succ n ih =>
    intro x1 x2 x3 x4 x5 V r h
    rw [d_M_goPairs_105] at h
    refine rn_go 3 (pc' := 111) (l' := [(0, .ref 89), (1, .int x1), (2, .int x2), (3, .int x3), (4, .int x4), (5, .int x5)]) (st' := [.int (gi V 89 1), .int x5]) (S1 := (SH ++ X)) (V1 := V) rfl ?_
    rcases ai_if h with ⟨hc, h⟩ | ⟨hc, h⟩
    · refine rn_brT rfl rfl rfl rfl hc ?_
      obtain rfl := Option.some.inj h
      exact rn_ret rfl rfl rfl
    · refine rn_brF rfl rfl rfl rfl hc ?_
      refine rn_go 2 (pc' := 117) (l' := [(0, .ref 89), (1, .int x1), (2, .int x2), (3, .int x3), (4, .int x4), (5, .int x5)]) (st' := [.int x5, .int x2]) (S1 := (SH ++ X)) (V1 := V) rfl ?_
      obtain ⟨q1, hq1, h⟩ := ai_bd h
      refine rn_call rfl rfl rfl rfl rfl rfl (by omega) (t_M_has (by omega) hq1) ?_
      rcases ai_if h with ⟨hc, h⟩ | ⟨hc, h⟩
      · refine rn_brT rfl rfl rfl rfl hc ?_
        refine rn_go 4 (pc' := 133) (l' := [(0, .ref 89), (1, .int x1), (2, .int x2), (3, .int x3), (4, .int x4), (5, .int x5)]) (st' := [.int x5, .int x1, .ref 105]) (S1 := (SH ++ X)) (V1 := V) rfl ?_
        obtain ⟨hg, h⟩ := ai_gd h
        refine rg_iast (n := 6) rfl rfl hg ?_
        refine rn_go 4 (pc' := 141) (l' := [(0, .ref 89), (1, .int x1), (2, .int x2), (3, .int x3), (4, .int x4), (5, .int x5)]) (st' := [.int x1, .int x5, .ref 105]) (S1 := (SH ++ X)) (V1 := (sa V 105 (x1).toNatClampNeg x5)) rfl ?_
        obtain ⟨hg, h⟩ := ai_gd h
        refine rg_iast (n := 6) rfl rfl hg ?_
        refine rn_go 25 (pc' := 170) (l' := [(0, .ref 89), (1, .int x1), (2, .int x2), (3, .int x3), (4, .int x4), (5, .int x5)]) (st' := [.int (((1 : Int32) <<< (x1 &&& 31)) ||| ((1 : Int32) <<< (x5 &&& 31))), .ref 89, .int x4, .int x3, .int (x2 &&& ((((1 : Int32) <<< (x1 &&& 31)) ||| ((1 : Int32) <<< (x5 &&& 31))) ^^^ (-1 : Int32))), .int (x1 + (1 : Int32)), .ref 89]) (S1 := (SH ++ X)) (V1 := (sa (sa V 105 (x1).toNatClampNeg x5) 105 (x5).toNatClampNeg x1)) rfl ?_
        obtain ⟨q2, hq2, h⟩ := ai_bd h
        refine rn_call rfl rfl rfl rfl rfl rfl (by omega) (t_M_liftNow (by omega) hq2) ?_
        refine rn_go 1 (pc' := 174) (l' := [(0, .ref 89), (1, .int x1), (2, .int x2), (3, .int x3), (4, .int x4), (5, .int x5)]) (st' := [.int (x4 + q2.1), .int x3, .int (x2 &&& ((((1 : Int32) <<< (x1 &&& 31)) ||| ((1 : Int32) <<< (x5 &&& 31))) ^^^ (-1 : Int32))), .int (x1 + (1 : Int32)), .ref 89]) (S1 := (SH ++ X)) (V1 := q2.2) rfl ?_
        obtain ⟨q3, hq3, h⟩ := ai_bd h
        refine rn_call rfl rfl rfl rfl rfl rfl (by omega) (hT (by omega) (x1 + (1 : Int32)) (x2 &&& ((((1 : Int32) <<< (x1 &&& 31)) ||| ((1 : Int32) <<< (x5 &&& 31))) ^^^ (-1 : Int32))) x3 (x4 + q2.1) q2.2 _ hq3) ?_
        refine rn_go 4 (pc' := 183) (l' := [(0, .ref 89), (1, .int x1), (2, .int x2), (3, .int x3), (4, .int x4), (5, .int x5)]) (st' := [.int (-1 : Int32), .int x1, .ref 105]) (S1 := (SH ++ X)) (V1 := q3) rfl ?_
        obtain ⟨hg, h⟩ := ai_gd h
        refine rg_iast (n := 6) rfl rfl hg ?_
        refine rn_go 4 (pc' := 191) (l' := [(0, .ref 89), (1, .int x1), (2, .int x2), (3, .int x3), (4, .int x4), (5, .int x5)]) (st' := [.int (-1 : Int32), .int x5, .ref 105]) (S1 := (SH ++ X)) (V1 := (sa q3 105 (x1).toNatClampNeg (-1 : Int32))) rfl ?_
        obtain ⟨hg, h⟩ := ai_gd h
        refine rg_iast (n := 6) rfl rfl hg ?_
        exact rn_sub [0, 1, 2, 3, 4, 5] rfl rfl (t_M_goPairs_192 T DT hT (X := X) hd (d_M_goPairs_105 T n) (ih) x1 x2 x3 x4 x5 (sa (sa q3 105 (x1).toNatClampNeg (-1 : Int32)) 105 (x5).toNatClampNeg (-1 : Int32)) _ h)
      · refine rn_brF rfl rfl rfl rfl hc ?_
        refine rn_go 1 (pc' := 192) (l' := [(0, .ref 89), (1, .int x1), (2, .int x2), (3, .int x3), (4, .int x4), (5, .int x5)]) (st' := []) (S1 := (SH ++ X)) (V1 := V) rfl ?_
        exact rn_sub [0, 1, 2, 3, 4, 5] rfl rfl (t_M_goPairs_192 T DT hT (X := X) hd (d_M_goPairs_105 T n) (ih) x1 x2 x3 x4 x5 V _ h)
def d_M_goPairs_100 (T : Int32 → Int32 → Int32 → Int32 → ai_V → Option ai_V)  (x1 : Int32) (x2 : Int32) (x3 : Int32) (x4 : Int32) (V : ai_V) : Option ai_V :=
  d_M_goPairs_105 T ai_N x1 x2 x3 x4 (x1 + (1 : Int32)) V
set_option maxRecDepth 20000 in
theorem t_M_goPairs_100 (T : Int32 → Int32 → Int32 → Int32 → ai_V → Option ai_V) (DT : Nat) (hT : ∀ {X : ai_S} {e : Nat}, DT ≤ e → ∀ (x1 : Int32) (x2 : Int32) (x3 : Int32) (x4 : Int32) (V : ai_V) (r : ai_V), T x1 x2 x3 x4 V = some r → Rn e 229 0 (lv_args 0 [.ref 89, .int x1, .int x2, .int x3, .int x4]) [] (SH ++ X) V none (SH ++ X) r) {X : ai_S} {e : Nat} (hd : DT + 1 ≤ e ∧ 331 ≤ e)  (x1 : Int32) (x2 : Int32) (x3 : Int32) (x4 : Int32) (V : ai_V) (r : ai_V) (h : d_M_goPairs_100 T  x1 x2 x3 x4 V = some r) : Rn e 229 100 [(0, .ref 89), (1, .int x1), (2, .int x2), (3, .int x3), (4, .int x4)] [] (SH ++ X) V none (SH ++ X) r := by
  rw [d_M_goPairs_100] at h
  refine rn_go 4 (pc' := 105) (l' := [(5, .int (x1 + (1 : Int32))), (0, .ref 89), (1, .int x1), (2, .int x2), (3, .int x3), (4, .int x4)]) (st' := []) (S1 := (SH ++ X)) (V1 := V) rfl ?_
  exact rn_sub [1, 2, 3, 4, 5, 0] rfl rfl (t_M_goPairs_105 T DT hT (X := X) hd ai_N x1 x2 x3 x4 (x1 + (1 : Int32)) V _ h)
def d_M_goPairs_B (T : Int32 → Int32 → Int32 → Int32 → ai_V → Option ai_V) (x1 : Int32) (x2 : Int32) (x3 : Int32) (x4 : Int32) (V : ai_V) : Option ai_V :=
  if ¬ x1 = (gi V 89 1) then ((d_M_has x2 x1 V).bind fun q4 => (if ¬ q4 = 0 then (if x3 ≤ 0 then (d_M_goPairs_100 T x1 x2 x3 x4 V) else ((T (x1 + (1 : Int32)) (x2 &&& (((1 : Int32) <<< (x1 &&& 31)) ^^^ (-1 : Int32))) (x3 - (1 : Int32)) x4 V).bind fun q5 => (d_M_goPairs_100 T x1 x2 x3 x4 q5))) else ((T (x1 + (1 : Int32)) x2 x3 x4 V).bind fun q6 => (some q6)))) else (if (gi V 89 43) < x4 then (d_M_goPairs_27 T ai_N (0 : Int32) (si V 89 43 x4)) else (some V))
set_option maxRecDepth 20000 in
theorem t_M_goPairs_B (T : Int32 → Int32 → Int32 → Int32 → ai_V → Option ai_V) (DT : Nat) (hT : ∀ {X : ai_S} {e : Nat}, DT ≤ e → ∀ (x1 : Int32) (x2 : Int32) (x3 : Int32) (x4 : Int32) (V : ai_V) (r : ai_V), T x1 x2 x3 x4 V = some r → Rn e 229 0 (lv_args 0 [.ref 89, .int x1, .int x2, .int x3, .int x4]) [] (SH ++ X) V none (SH ++ X) r) {X : ai_S} {e : Nat} (hd : DT + 1 ≤ e ∧ 331 ≤ e) {x1 : Int32} {x2 : Int32} {x3 : Int32} {x4 : Int32} {V : ai_V} {r : ai_V} (h : d_M_goPairs_B T x1 x2 x3 x4 V = some r) : Rn e 229 0 (lv_args 0 [.ref 89, .int x1, .int x2, .int x3, .int x4]) [] (SH ++ X) V none (SH ++ X) r := by
  rw [d_M_goPairs_B] at h
  refine rn_go 3 (pc' := 5) (l' := [(0, .ref 89), (1, .int x1), (2, .int x2), (3, .int x3), (4, .int x4)]) (st' := [.int (gi V 89 1), .int x1]) (S1 := (SH ++ X)) (V1 := V) rfl ?_
  rcases ai_if h with ⟨hc, h⟩ | ⟨hc, h⟩
  · refine rn_brT rfl rfl rfl rfl hc ?_
    refine rn_go 2 (pc' := 59) (l' := [(0, .ref 89), (1, .int x1), (2, .int x2), (3, .int x3), (4, .int x4)]) (st' := [.int x1, .int x2]) (S1 := (SH ++ X)) (V1 := V) rfl ?_
    obtain ⟨q4, hq4, h⟩ := ai_bd h
    refine rn_call rfl rfl rfl rfl rfl rfl (by omega) (t_M_has (by omega) hq4) ?_
    rcases ai_if h with ⟨hc, h⟩ | ⟨hc, h⟩
    · refine rn_brT rfl rfl rfl rfl hc ?_
      refine rn_go 1 (pc' := 78) (l' := [(0, .ref 89), (1, .int x1), (2, .int x2), (3, .int x3), (4, .int x4)]) (st' := [.int x3]) (S1 := (SH ++ X)) (V1 := V) rfl ?_
      rcases ai_if h with ⟨hc, h⟩ | ⟨hc, h⟩
      · refine rn_brT rfl rfl rfl rfl hc ?_
        exact rn_sub [0, 1, 2, 3, 4] rfl rfl (t_M_goPairs_100 T DT hT (X := X) hd x1 x2 x3 x4 V _ h)
      · refine rn_brF rfl rfl rfl rfl hc ?_
        refine rn_go 15 (pc' := 97) (l' := [(0, .ref 89), (1, .int x1), (2, .int x2), (3, .int x3), (4, .int x4)]) (st' := [.int x4, .int (x3 - (1 : Int32)), .int (x2 &&& (((1 : Int32) <<< (x1 &&& 31)) ^^^ (-1 : Int32))), .int (x1 + (1 : Int32)), .ref 89]) (S1 := (SH ++ X)) (V1 := V) rfl ?_
        obtain ⟨q5, hq5, h⟩ := ai_bd h
        refine rn_call rfl rfl rfl rfl rfl rfl (by omega) (hT (by omega) (x1 + (1 : Int32)) (x2 &&& (((1 : Int32) <<< (x1 &&& 31)) ^^^ (-1 : Int32))) (x3 - (1 : Int32)) x4 V _ hq5) ?_
        exact rn_sub [0, 1, 2, 3, 4] rfl rfl (t_M_goPairs_100 T DT hT (X := X) hd x1 x2 x3 x4 q5 _ h)
    · refine rn_brF rfl rfl rfl rfl hc ?_
      refine rn_go 7 (pc' := 73) (l' := [(0, .ref 89), (1, .int x1), (2, .int x2), (3, .int x3), (4, .int x4)]) (st' := [.int x4, .int x3, .int x2, .int (x1 + (1 : Int32)), .ref 89]) (S1 := (SH ++ X)) (V1 := V) rfl ?_
      obtain ⟨q6, hq6, h⟩ := ai_bd h
      refine rn_call rfl rfl rfl rfl rfl rfl (by omega) (hT (by omega) (x1 + (1 : Int32)) x2 x3 x4 V _ hq6) ?_
      obtain rfl := Option.some.inj h
      exact rn_ret rfl rfl rfl
  · refine rn_brF rfl rfl rfl rfl hc ?_
    refine rn_go 3 (pc' := 14) (l' := [(0, .ref 89), (1, .int x1), (2, .int x2), (3, .int x3), (4, .int x4)]) (st' := [.int (gi V 89 43), .int x4]) (S1 := (SH ++ X)) (V1 := V) rfl ?_
    rcases ai_if h with ⟨hc, h⟩ | ⟨hc, h⟩
    · refine rn_brT rfl rfl rfl rfl hc ?_
      refine rn_go 5 (pc' := 27) (l' := [(5, .int (0 : Int32)), (0, .ref 89), (1, .int x1), (2, .int x2), (3, .int x3), (4, .int x4)]) (st' := []) (S1 := (SH ++ X)) (V1 := (si V 89 43 x4)) rfl ?_
      exact rn_sub [1, 0] rfl rfl (t_M_goPairs_27 T DT hT (X := X) hd ai_N (0 : Int32) (si V 89 43 x4) _ h)
    · refine rn_brF rfl rfl rfl rfl hc ?_
      obtain rfl := Option.some.inj h
      exact rn_ret rfl rfl rfl
def d_M_goPairs_R : Nat → Int32 → Int32 → Int32 → Int32 → ai_V → Option ai_V
  | 0, _, _, _, _, _ => none
  | n + 1, x1, x2, x3, x4, V => d_M_goPairs_B (d_M_goPairs_R n) x1 x2 x3 x4 V
theorem t_M_goPairs_R : ∀ (n : Nat) {X : ai_S} {e : Nat} (hd : n * 1 + 331 ≤ e) (x1 : Int32) (x2 : Int32) (x3 : Int32) (x4 : Int32) (V : ai_V) (r : ai_V), d_M_goPairs_R n x1 x2 x3 x4 V = some r → Rn e 229 0 (lv_args 0 [.ref 89, .int x1, .int x2, .int x3, .int x4]) [] (SH ++ X) V none (SH ++ X) r := by
  intro n
  induction n with
  | zero =>
    intro X e hd x1 x2 x3 x4 V r h
    cases h
  | succ n ih =>
    intro X e hd x1 x2 x3 x4 V r h
    exact t_M_goPairs_B (d_M_goPairs_R n) (n * 1 + 331) (fun hd2 => ih hd2) (by omega) (show d_M_goPairs_B (d_M_goPairs_R n) x1 x2 x3 x4 V = some r from h)
def d_M_goPairs : Int32 → Int32 → Int32 → Int32 → ai_V → Option ai_V := d_M_goPairs_R 80
theorem t_M_goPairs {X : ai_S} {e : Nat} (hd : 411 ≤ e) {x1 : Int32} {x2 : Int32} {x3 : Int32} {x4 : Int32} {V : ai_V} {r : ai_V} (h : d_M_goPairs x1 x2 x3 x4 V = some r) : Rn e 229 0 (lv_args 0 [.ref 89, .int x1, .int x2, .int x3, .int x4]) [] (SH ++ X) V none (SH ++ X) r := t_M_goPairs_R 80 (by omega) x1 x2 x3 x4 V r h
-- RentByTheWheelModel.pairs(I)I (89, None)
def d_M_pairs_61  : Nat → Int32 → ai_V → Option (Int32 × ai_V)
  | 0, _, _ => none
  | n + 1, x2, V => if (gi V 89 1) ≤ x2 then (some ((gi V 89 43), V)) else (if ai_in x2 6 then ((d_M_tell (((ga V 106 (x2).toNatClampNeg)).toInt64) V).bind fun q1 => (d_M_pairs_61 n (x2 + (1 : Int32)) q1)) else none)
set_option maxRecDepth 20000 in
theorem t_M_pairs_61 {X : ai_S} {e : Nat} (hd : 412 ≤ e)  : ∀ (n : Nat) (x2 : Int32) (V : ai_V) (r : (Int32 × ai_V)), d_M_pairs_61  n x2 V = some r → Rn e 230 61 [(0, .ref 89), (2, .int x2)] [] (SH ++ X) V (some (.int r.1)) (SH ++ X) r.2 := by
  intro n
  induction n with
  | zero =>
    intro x2 V r h
    cases h
  | succ n ih =>
    intro x2 V r h
    rw [d_M_pairs_61] at h
    refine rn_go 3 (pc' := 66) (l' := [(0, .ref 89), (2, .int x2)]) (st' := [.int (gi V 89 1), .int x2]) (S1 := (SH ++ X)) (V1 := V) rfl ?_
    rcases ai_if h with ⟨hc, h⟩ | ⟨hc, h⟩
    · refine rn_brT rfl rfl rfl rfl hc ?_
      refine rn_go 2 (pc' := 90) (l' := [(0, .ref 89), (2, .int x2)]) (st' := [.int (gi V 89 43)]) (S1 := (SH ++ X)) (V1 := V) rfl ?_
      obtain rfl := Option.some.inj h
      exact rn_ret rfl rfl rfl
    · refine rn_brF rfl rfl rfl rfl hc ?_
      refine rn_go 4 (pc' := 75) (l' := [(0, .ref 89), (2, .int x2)]) (st' := [.int x2, .ref 106, .ref 89]) (S1 := (SH ++ X)) (V1 := V) rfl ?_
      obtain ⟨hg, h⟩ := ai_gd h
      refine rg_iald (n := 6) rfl rfl hg ?_
      refine rn_go 1 (pc' := 77) (l' := [(0, .ref 89), (2, .int x2)]) (st' := [.long ((ga V 106 (x2).toNatClampNeg)).toInt64, .ref 89]) (S1 := (SH ++ X)) (V1 := V) rfl ?_
      obtain ⟨q1, hq1, h⟩ := ai_bd h
      refine rn_call rfl rfl rfl rfl rfl rfl (by omega) (t_M_tell (by omega) hq1) ?_
      refine rn_go 2 (pc' := 61) (l' := [(2, .int (x2 + (1 : Int32))), (0, .ref 89)]) (st' := []) (S1 := (SH ++ X)) (V1 := q1) rfl ?_
      exact rn_sub [1, 0] rfl rfl (ih (x2 + (1 : Int32)) q1 _ h)
def d_M_pairs_17  : Nat → Int32 → Int32 → ai_V → Option (Int32 × ai_V)
  | 0, _, _, _ => none
  | n + 1, x1, x2, V => if (6 : Int32) ≤ x2 then ((d_Int_bitCount x1 (si V 89 43 (-1 : Int32))).bind fun q2 => ((d_M_goPairs (0 : Int32) x1 (q2 - q2 / (2 : Int32) * (2 : Int32)) (0 : Int32) (si V 89 43 (-1 : Int32))).bind fun q3 => (d_M_pairs_61 ai_N (0 : Int32) (si q3 89 13 (0 : Int32))))) else (if ai_in x2 6 then (d_M_pairs_17 n x1 (x2 + (1 : Int32)) (sa V 105 (x2).toNatClampNeg (-1 : Int32))) else none)
set_option maxRecDepth 20000 in
theorem t_M_pairs_17 {X : ai_S} {e : Nat} (hd : 412 ≤ e)  : ∀ (n : Nat) (x1 : Int32) (x2 : Int32) (V : ai_V) (r : (Int32 × ai_V)), d_M_pairs_17  n x1 x2 V = some r → Rn e 230 17 [(0, .ref 89), (1, .int x1), (2, .int x2)] [] (SH ++ X) V (some (.int r.1)) (SH ++ X) r.2 := by
  intro n
  induction n with
  | zero =>
    intro x1 x2 V r h
    cases h
  | succ n ih =>
    intro x1 x2 V r h
    rw [d_M_pairs_17] at h
    refine rn_go 2 (pc' := 20) (l' := [(0, .ref 89), (1, .int x1), (2, .int x2)]) (st' := [.int (6 : Int32), .int x2]) (S1 := (SH ++ X)) (V1 := V) rfl ?_
    rcases ai_if h with ⟨hc, h⟩ | ⟨hc, h⟩
    · refine rn_brT rfl rfl rfl rfl hc ?_
      refine rn_go 7 (pc' := 45) (l' := [(0, .ref 89), (1, .int x1), (2, .int x2)]) (st' := [.int x1, .int x1, .int (0 : Int32), .ref 89]) (S1 := (SH ++ X)) (V1 := (si V 89 43 (-1 : Int32))) rfl ?_
      obtain ⟨q2, hq2, h⟩ := ai_bd h
      refine rn_call rfl rfl rfl rfl rfl rfl (by omega) (t_Int_bitCount (by omega) hq2) ?_
      refine rn_go 1 (pc' := 49) (l' := [(0, .ref 89), (1, .int x1), (2, .int x2)]) (st' := [.int (2 : Int32), .int q2, .int x1, .int (0 : Int32), .ref 89]) (S1 := (SH ++ X)) (V1 := (si V 89 43 (-1 : Int32))) rfl ?_
      refine rg_irem rfl (by decide) ?_
      refine rn_go 1 (pc' := 51) (l' := [(0, .ref 89), (1, .int x1), (2, .int x2)]) (st' := [.int (0 : Int32), .int (q2 - q2 / (2 : Int32) * (2 : Int32)), .int x1, .int (0 : Int32), .ref 89]) (S1 := (SH ++ X)) (V1 := (si V 89 43 (-1 : Int32))) rfl ?_
      obtain ⟨q3, hq3, h⟩ := ai_bd h
      refine rn_call rfl rfl rfl rfl rfl rfl (by omega) (t_M_goPairs (by omega) hq3) ?_
      refine rn_go 5 (pc' := 61) (l' := [(2, .int (0 : Int32)), (0, .ref 89), (1, .int x1)]) (st' := []) (S1 := (SH ++ X)) (V1 := (si q3 89 13 (0 : Int32))) rfl ?_
      exact rn_sub [1, 0] rfl rfl (t_M_pairs_61 (X := X) hd ai_N (0 : Int32) (si q3 89 13 (0 : Int32)) _ h)
    · refine rn_brF rfl rfl rfl rfl hc ?_
      refine rn_go 4 (pc' := 29) (l' := [(0, .ref 89), (1, .int x1), (2, .int x2)]) (st' := [.int (-1 : Int32), .int x2, .ref 105]) (S1 := (SH ++ X)) (V1 := V) rfl ?_
      obtain ⟨hg, h⟩ := ai_gd h
      refine rg_iast (n := 6) rfl rfl hg ?_
      refine rn_go 2 (pc' := 17) (l' := [(2, .int (x2 + (1 : Int32))), (0, .ref 89), (1, .int x1)]) (st' := []) (S1 := (SH ++ X)) (V1 := (sa V 105 (x2).toNatClampNeg (-1 : Int32))) rfl ?_
      exact rn_sub [1, 2, 0] rfl rfl (ih x1 (x2 + (1 : Int32)) (sa V 105 (x2).toNatClampNeg (-1 : Int32)) _ h)
def d_M_pairs (x1 : Int32) (V : ai_V) : Option (Int32 × ai_V) :=
  (d_M_areThose x1 (si V 89 14 (0 : Int32))).bind fun q4 => (if ¬ q4 = 0 then (d_M_pairs_17 ai_N x1 (0 : Int32) (si V 89 14 (0 : Int32))) else (some ((-1 : Int32), (si V 89 14 (0 : Int32)))))
set_option maxRecDepth 20000 in
theorem t_M_pairs {X : ai_S} {e : Nat} (hd : 412 ≤ e) {x1 : Int32} {V : ai_V} {r : (Int32 × ai_V)} (h : d_M_pairs x1 V = some r) : Rn e 230 0 (lv_args 0 [.ref 89, .int x1]) [] (SH ++ X) V (some (.int r.1)) (SH ++ X) r.2 := by
  rw [d_M_pairs] at h
  refine rn_go 5 (pc' := 7) (l' := [(0, .ref 89), (1, .int x1)]) (st' := [.int x1, .ref 89]) (S1 := (SH ++ X)) (V1 := (si V 89 14 (0 : Int32))) rfl ?_
  obtain ⟨q4, hq4, h⟩ := ai_bd h
  refine rn_call rfl rfl rfl rfl rfl rfl (by omega) (t_M_areThose (by omega) hq4) ?_
  rcases ai_if h with ⟨hc, h⟩ | ⟨hc, h⟩
  · refine rn_brT rfl rfl rfl rfl hc ?_
    refine rn_go 2 (pc' := 17) (l' := [(2, .int (0 : Int32)), (0, .ref 89), (1, .int x1)]) (st' := []) (S1 := (SH ++ X)) (V1 := (si V 89 14 (0 : Int32))) rfl ?_
    exact rn_sub [1, 2, 0] rfl rfl (t_M_pairs_17 (X := X) hd ai_N x1 (0 : Int32) (si V 89 14 (0 : Int32)) _ h)
  · refine rn_brF rfl rfl rfl rfl hc ?_
    refine rn_go 1 (pc' := 14) (l' := [(0, .ref 89), (1, .int x1)]) (st' := [.int (-1 : Int32)]) (S1 := (SH ++ X)) (V1 := (si V 89 14 (0 : Int32))) rfl ?_
    obtain rfl := Option.some.inj h
    exact rn_ret rfl rfl rfl
-- RentByTheWheelModel.enough(I)I (89, None)
def d_M_enough_136  (x2 : Int32) (x5 : Int32) (V : ai_V) : Option (Int32 × ai_V) :=
  (d_M_tell (x5).toInt64 V).bind fun q1 => (some (x2, q1))
set_option maxRecDepth 20000 in
theorem t_M_enough_136 {X : ai_S} {e : Nat} (hd : 331 ≤ e)  (x2 : Int32) (x5 : Int32) (V : ai_V) (r : (Int32 × ai_V)) (h : d_M_enough_136  x2 x5 V = some r) : Rn e 231 136 [(0, .ref 89), (2, .int x2), (5, .int x5)] [] (SH ++ X) V (some (.int r.1)) (SH ++ X) r.2 := by
  rw [d_M_enough_136] at h
  refine rn_go 3 (pc' := 140) (l' := [(0, .ref 89), (2, .int x2), (5, .int x5)]) (st' := [.long (x5).toInt64, .ref 89]) (S1 := (SH ++ X)) (V1 := V) rfl ?_
  obtain ⟨q1, hq1, h⟩ := ai_bd h
  refine rn_call rfl rfl rfl rfl rfl rfl (by omega) (t_M_tell (by omega) hq1) ?_
  refine rn_go 1 (pc' := 144) (l' := [(0, .ref 89), (2, .int x2), (5, .int x5)]) (st' := [.int x2]) (S1 := (SH ++ X)) (V1 := q1) rfl ?_
  obtain rfl := Option.some.inj h
  exact rn_ret rfl rfl rfl
def d_M_enough_102 (F31 : Int32 → Int32 → Int32 → Int32 → Int32 → Int32 → ai_V → Option (Int32 × ai_V)) (F46 : Int32 → Int32 → Int32 → Int32 → Int32 → Int32 → Int32 → ai_V → Option (Int32 × ai_V)) (x1 : Int32) (x2 : Int32) (x3 : Int32) (x4 : Int32) (x5 : Int32) (x6 : Int32) (x7 : Int32) (V : ai_V) : Option (Int32 × ai_V) :=
  F46 x1 x2 x3 x4 x5 x6 (x7 + (1 : Int32)) V
set_option maxRecDepth 20000 in
theorem t_M_enough_102 {X : ai_S} {e : Nat} (hd : 331 ≤ e) (F31 : Int32 → Int32 → Int32 → Int32 → Int32 → Int32 → ai_V → Option (Int32 × ai_V)) (hF31 : ∀ (x1 : Int32) (x2 : Int32) (x3 : Int32) (x4 : Int32) (x5 : Int32) (x6 : Int32) (V : ai_V) (r : (Int32 × ai_V)), F31 x1 x2 x3 x4 x5 x6 V = some r → Rn e 231 31 [(0, .ref 89), (1, .int x1), (2, .int x2), (3, .int x3), (4, .int x4), (5, .int x5), (6, .int x6)] [] (SH ++ X) V (some (.int r.1)) (SH ++ X) r.2) (F46 : Int32 → Int32 → Int32 → Int32 → Int32 → Int32 → Int32 → ai_V → Option (Int32 × ai_V)) (hF46 : ∀ (x1 : Int32) (x2 : Int32) (x3 : Int32) (x4 : Int32) (x5 : Int32) (x6 : Int32) (x7 : Int32) (V : ai_V) (r : (Int32 × ai_V)), F46 x1 x2 x3 x4 x5 x6 x7 V = some r → Rn e 231 46 [(0, .ref 89), (1, .int x1), (2, .int x2), (3, .int x3), (4, .int x4), (5, .int x5), (6, .int x6), (7, .int x7)] [] (SH ++ X) V (some (.int r.1)) (SH ++ X) r.2) (x1 : Int32) (x2 : Int32) (x3 : Int32) (x4 : Int32) (x5 : Int32) (x6 : Int32) (x7 : Int32) (V : ai_V) (r : (Int32 × ai_V)) (h : d_M_enough_102 F31 F46 x1 x2 x3 x4 x5 x6 x7 V = some r) : Rn e 231 102 [(0, .ref 89), (1, .int x1), (2, .int x2), (3, .int x3), (4, .int x4), (5, .int x5), (6, .int x6), (7, .int x7)] [] (SH ++ X) V (some (.int r.1)) (SH ++ X) r.2 := by
  rw [d_M_enough_102] at h
  refine rn_go 2 (pc' := 46) (l' := [(7, .int (x7 + (1 : Int32))), (0, .ref 89), (1, .int x1), (2, .int x2), (3, .int x3), (4, .int x4), (5, .int x5), (6, .int x6)]) (st' := []) (S1 := (SH ++ X)) (V1 := V) rfl ?_
  exact rn_sub [1, 2, 3, 4, 5, 6, 7, 0] rfl rfl (hF46 x1 x2 x3 x4 x5 x6 (x7 + (1 : Int32)) V _ h)
def d_M_enough_99 (F31 : Int32 → Int32 → Int32 → Int32 → Int32 → Int32 → ai_V → Option (Int32 × ai_V)) (F46 : Int32 → Int32 → Int32 → Int32 → Int32 → Int32 → Int32 → ai_V → Option (Int32 × ai_V)) (x1 : Int32) (x2 : Int32) (x3 : Int32) (x4 : Int32) (x5 : Int32) (x6 : Int32) (x7 : Int32) (V : ai_V) : Option (Int32 × ai_V) :=
  d_M_enough_102 F31 F46 x1 (x2 + (1 : Int32)) x3 x4 x5 x6 x7 V
set_option maxRecDepth 20000 in
theorem t_M_enough_99 {X : ai_S} {e : Nat} (hd : 331 ≤ e) (F31 : Int32 → Int32 → Int32 → Int32 → Int32 → Int32 → ai_V → Option (Int32 × ai_V)) (hF31 : ∀ (x1 : Int32) (x2 : Int32) (x3 : Int32) (x4 : Int32) (x5 : Int32) (x6 : Int32) (V : ai_V) (r : (Int32 × ai_V)), F31 x1 x2 x3 x4 x5 x6 V = some r → Rn e 231 31 [(0, .ref 89), (1, .int x1), (2, .int x2), (3, .int x3), (4, .int x4), (5, .int x5), (6, .int x6)] [] (SH ++ X) V (some (.int r.1)) (SH ++ X) r.2) (F46 : Int32 → Int32 → Int32 → Int32 → Int32 → Int32 → Int32 → ai_V → Option (Int32 × ai_V)) (hF46 : ∀ (x1 : Int32) (x2 : Int32) (x3 : Int32) (x4 : Int32) (x5 : Int32) (x6 : Int32) (x7 : Int32) (V : ai_V) (r : (Int32 × ai_V)), F46 x1 x2 x3 x4 x5 x6 x7 V = some r → Rn e 231 46 [(0, .ref 89), (1, .int x1), (2, .int x2), (3, .int x3), (4, .int x4), (5, .int x5), (6, .int x6), (7, .int x7)] [] (SH ++ X) V (some (.int r.1)) (SH ++ X) r.2) (x1 : Int32) (x2 : Int32) (x3 : Int32) (x4 : Int32) (x5 : Int32) (x6 : Int32) (x7 : Int32) (V : ai_V) (r : (Int32 × ai_V)) (h : d_M_enough_99 F31 F46 x1 x2 x3 x4 x5 x6 x7 V = some r) : Rn e 231 99 [(0, .ref 89), (1, .int x1), (2, .int x2), (3, .int x3), (4, .int x4), (5, .int x5), (6, .int x6), (7, .int x7)] [] (SH ++ X) V (some (.int r.1)) (SH ++ X) r.2 := by
  rw [d_M_enough_99] at h
  refine rn_go 1 (pc' := 102) (l' := [(2, .int (x2 + (1 : Int32))), (0, .ref 89), (1, .int x1), (3, .int x3), (4, .int x4), (5, .int x5), (6, .int x6), (7, .int x7)]) (st' := []) (S1 := (SH ++ X)) (V1 := V) rfl ?_
  exact rn_sub [1, 2, 0, 3, 4, 5, 6, 7] rfl rfl (t_M_enough_102 (X := X) hd F31 hF31 F46 hF46 x1 (x2 + (1 : Int32)) x3 x4 x5 x6 x7 V _ h)
def d_M_enough_46 (F31 : Int32 → Int32 → Int32 → Int32 → Int32 → Int32 → ai_V → Option (Int32 × ai_V)) : Nat → Int32 → Int32 → Int32 → Int32 → Int32 → Int32 → Int32 → ai_V → Option (Int32 × ai_V)
  | 0, _, _, _, _, _, _, _, _ => none
  | n + 1, x1, x2, x3, x4, x5, x6, x7, V => if (gi V 89 1) ≤ x7 then (F31 x1 x2 x3 x4 x5 (x6 + (1 : Int32)) V) else ((d_M_liftNow (((1 : Int32) <<< (x6 &&& 31)) ||| ((1 : Int32) <<< (x7 &&& 31))) V).bind fun q2 => (if x1 ≤ q2.1 then (if ¬ x2 = 0 then (d_M_enough_99 F31 (d_M_enough_46 F31 n) x1 x2 x3 x4 (ai_max x5 q2.1) x6 x7 q2.2) else (d_M_enough_99 F31 (d_M_enough_46 F31 n) x1 x2 x6 x7 (ai_max x5 q2.1) x6 x7 q2.2)) else (d_M_enough_102 F31 (d_M_enough_46 F31 n) x1 x2 x3 x4 (ai_max x5 q2.1) x6 x7 q2.2)))
set_option maxRecDepth 20000 in
theorem t_M_enough_46 {X : ai_S} {e : Nat} (hd : 331 ≤ e) (F31 : Int32 → Int32 → Int32 → Int32 → Int32 → Int32 → ai_V → Option (Int32 × ai_V)) (hF31 : ∀ (x1 : Int32) (x2 : Int32) (x3 : Int32) (x4 : Int32) (x5 : Int32) (x6 : Int32) (V : ai_V) (r : (Int32 × ai_V)), F31 x1 x2 x3 x4 x5 x6 V = some r → Rn e 231 31 [(0, .ref 89), (1, .int x1), (2, .int x2), (3, .int x3), (4, .int x4), (5, .int x5), (6, .int x6)] [] (SH ++ X) V (some (.int r.1)) (SH ++ X) r.2) : ∀ (n : Nat) (x1 : Int32) (x2 : Int32) (x3 : Int32) (x4 : Int32) (x5 : Int32) (x6 : Int32) (x7 : Int32) (V : ai_V) (r : (Int32 × ai_V)), d_M_enough_46 F31 n x1 x2 x3 x4 x5 x6 x7 V = some r → Rn e 231 46 [(0, .ref 89), (1, .int x1), (2, .int x2), (3, .int x3), (4, .int x4), (5, .int x5), (6, .int x6), (7, .int x7)] [] (SH ++ X) V (some (.int r.1)) (SH ++ X) r.2 := by
  intro n
  induction n with
  | zero =>
    intro x1 x2 x3 x4 x5 x6 x7 V r h
    cases h
  | succ n ih =>
    intro x1 x2 x3 x4 x5 x6 x7 V r h
    rw [d_M_enough_46] at h
    refine rn_go 3 (pc' := 52) (l' := [(0, .ref 89), (1, .int x1), (2, .int x2), (3, .int x3), (4, .int x4), (5, .int x5), (6, .int x6), (7, .int x7)]) (st' := [.int (gi V 89 1), .int x7]) (S1 := (SH ++ X)) (V1 := V) rfl ?_
    rcases ai_if h with ⟨hc, h⟩ | ⟨hc, h⟩
    · refine rn_brT rfl rfl rfl rfl hc ?_
      refine rn_go 2 (pc' := 31) (l' := [(6, .int (x6 + (1 : Int32))), (0, .ref 89), (1, .int x1), (2, .int x2), (3, .int x3), (4, .int x4), (5, .int x5), (7, .int x7)]) (st' := []) (S1 := (SH ++ X)) (V1 := V) rfl ?_
      exact rn_sub [1, 2, 3, 4, 5, 6, 0] rfl rfl (hF31 x1 x2 x3 x4 x5 (x6 + (1 : Int32)) V _ h)
    · refine rn_brF rfl rfl rfl rfl hc ?_
      refine rn_go 8 (pc' := 65) (l' := [(0, .ref 89), (1, .int x1), (2, .int x2), (3, .int x3), (4, .int x4), (5, .int x5), (6, .int x6), (7, .int x7)]) (st' := [.int (((1 : Int32) <<< (x6 &&& 31)) ||| ((1 : Int32) <<< (x7 &&& 31))), .ref 89]) (S1 := (SH ++ X)) (V1 := V) rfl ?_
      obtain ⟨q2, hq2, h⟩ := ai_bd h
      refine rn_call rfl rfl rfl rfl rfl rfl (by omega) (t_M_liftNow (by omega) hq2) ?_
      refine rn_go 7 (pc' := 82) (l' := [(5, .int (ai_max x5 q2.1)), (8, .int q2.1), (0, .ref 89), (1, .int x1), (2, .int x2), (3, .int x3), (4, .int x4), (6, .int x6), (7, .int x7)]) (st' := [.int x1, .int q2.1]) (S1 := (SH ++ X)) (V1 := q2.2) rfl ?_
      rcases ai_if h with ⟨hc, h⟩ | ⟨hc, h⟩
      · refine rn_brT rfl rfl rfl rfl hc ?_
        refine rn_go 1 (pc' := 89) (l' := [(5, .int (ai_max x5 q2.1)), (8, .int q2.1), (0, .ref 89), (1, .int x1), (2, .int x2), (3, .int x3), (4, .int x4), (6, .int x6), (7, .int x7)]) (st' := [.int x2]) (S1 := (SH ++ X)) (V1 := q2.2) rfl ?_
        rcases ai_if h with ⟨hc, h⟩ | ⟨hc, h⟩
        · refine rn_brT rfl rfl rfl rfl hc ?_
          exact rn_sub [2, 3, 4, 5, 6, 0, 7, 8] rfl rfl (t_M_enough_99 (X := X) hd F31 hF31 (d_M_enough_46 F31 n) (ih) x1 x2 x3 x4 (ai_max x5 q2.1) x6 x7 q2.2 _ h)
        · refine rn_brF rfl rfl rfl rfl hc ?_
          refine rn_go 4 (pc' := 99) (l' := [(4, .int x7), (3, .int x6), (5, .int (ai_max x5 q2.1)), (8, .int q2.1), (0, .ref 89), (1, .int x1), (2, .int x2), (6, .int x6), (7, .int x7)]) (st' := []) (S1 := (SH ++ X)) (V1 := q2.2) rfl ?_
          exact rn_sub [4, 5, 6, 1, 0, 2, 7, 8] rfl rfl (t_M_enough_99 (X := X) hd F31 hF31 (d_M_enough_46 F31 n) (ih) x1 x2 x6 x7 (ai_max x5 q2.1) x6 x7 q2.2 _ h)
      · refine rn_brF rfl rfl rfl rfl hc ?_
        refine rn_go 1 (pc' := 102) (l' := [(5, .int (ai_max x5 q2.1)), (8, .int q2.1), (0, .ref 89), (1, .int x1), (2, .int x2), (3, .int x3), (4, .int x4), (6, .int x6), (7, .int x7)]) (st' := []) (S1 := (SH ++ X)) (V1 := q2.2) rfl ?_
        exact rn_sub [2, 3, 4, 5, 6, 0, 7, 8] rfl rfl (t_M_enough_102 (X := X) hd F31 hF31 (d_M_enough_46 F31 n) (ih) x1 x2 x3 x4 (ai_max x5 q2.1) x6 x7 q2.2 _ h)
def d_M_enough_31  : Nat → Int32 → Int32 → Int32 → Int32 → Int32 → Int32 → ai_V → Option (Int32 × ai_V)
  | 0, _, _, _, _, _, _, _ => none
  | n + 1, x1, x2, x3, x4, x5, x6, V => if (gi V 89 1) ≤ x6 then (if x2 ≤ 0 then (d_M_enough_136 x2 x5 (si V 89 13 (0 : Int32))) else ((d_M_tell (x3).toInt64 (si V 89 13 (0 : Int32))).bind fun q3 => ((d_M_tell (x4).toInt64 q3).bind fun q4 => (d_M_enough_136 x2 x5 q4)))) else (d_M_enough_46 (d_M_enough_31 n) ai_N x1 x2 x3 x4 x5 x6 (x6 + (1 : Int32)) V)
set_option maxRecDepth 20000 in
theorem t_M_enough_31 {X : ai_S} {e : Nat} (hd : 331 ≤ e)  : ∀ (n : Nat) (x1 : Int32) (x2 : Int32) (x3 : Int32) (x4 : Int32) (x5 : Int32) (x6 : Int32) (V : ai_V) (r : (Int32 × ai_V)), d_M_enough_31  n x1 x2 x3 x4 x5 x6 V = some r → Rn e 231 31 [(0, .ref 89), (1, .int x1), (2, .int x2), (3, .int x3), (4, .int x4), (5, .int x5), (6, .int x6)] [] (SH ++ X) V (some (.int r.1)) (SH ++ X) r.2 := by
  intro n
  induction n with
  | zero =>
    intro x1 x2 x3 x4 x5 x6 V r h
    cases h
  | succ n ih =>
    intro x1 x2 x3 x4 x5 x6 V r h
    rw [d_M_enough_31] at h
    refine rn_go 3 (pc' := 37) (l' := [(0, .ref 89), (1, .int x1), (2, .int x2), (3, .int x3), (4, .int x4), (5, .int x5), (6, .int x6)]) (st' := [.int (gi V 89 1), .int x6]) (S1 := (SH ++ X)) (V1 := V) rfl ?_
    rcases ai_if h with ⟨hc, h⟩ | ⟨hc, h⟩
    · refine rn_brT rfl rfl rfl rfl hc ?_
      refine rn_go 4 (pc' := 120) (l' := [(0, .ref 89), (1, .int x1), (2, .int x2), (3, .int x3), (4, .int x4), (5, .int x5), (6, .int x6)]) (st' := [.int x2]) (S1 := (SH ++ X)) (V1 := (si V 89 13 (0 : Int32))) rfl ?_
      rcases ai_if h with ⟨hc, h⟩ | ⟨hc, h⟩
      · refine rn_brT rfl rfl rfl rfl hc ?_
        exact rn_sub [0, 2, 5] rfl rfl (t_M_enough_136 (X := X) hd x2 x5 (si V 89 13 (0 : Int32)) _ h)
      · refine rn_brF rfl rfl rfl rfl hc ?_
        refine rn_go 3 (pc' := 126) (l' := [(0, .ref 89), (1, .int x1), (2, .int x2), (3, .int x3), (4, .int x4), (5, .int x5), (6, .int x6)]) (st' := [.long (x3).toInt64, .ref 89]) (S1 := (SH ++ X)) (V1 := (si V 89 13 (0 : Int32))) rfl ?_
        obtain ⟨q3, hq3, h⟩ := ai_bd h
        refine rn_call rfl rfl rfl rfl rfl rfl (by omega) (t_M_tell (by omega) hq3) ?_
        refine rn_go 3 (pc' := 133) (l' := [(0, .ref 89), (1, .int x1), (2, .int x2), (3, .int x3), (4, .int x4), (5, .int x5), (6, .int x6)]) (st' := [.long (x4).toInt64, .ref 89]) (S1 := (SH ++ X)) (V1 := q3) rfl ?_
        obtain ⟨q4, hq4, h⟩ := ai_bd h
        refine rn_call rfl rfl rfl rfl rfl rfl (by omega) (t_M_tell (by omega) hq4) ?_
        exact rn_sub [0, 2, 5] rfl rfl (t_M_enough_136 (X := X) hd x2 x5 q4 _ h)
    · refine rn_brF rfl rfl rfl rfl hc ?_
      refine rn_go 4 (pc' := 46) (l' := [(7, .int (x6 + (1 : Int32))), (0, .ref 89), (1, .int x1), (2, .int x2), (3, .int x3), (4, .int x4), (5, .int x5), (6, .int x6)]) (st' := []) (S1 := (SH ++ X)) (V1 := V) rfl ?_
      exact rn_sub [1, 2, 3, 4, 5, 6, 7, 0] rfl rfl (t_M_enough_46 (X := X) hd (d_M_enough_31 n) (ih) ai_N x1 x2 x3 x4 x5 x6 (x6 + (1 : Int32)) V _ h)
def d_M_enough (x1 : Int32) (V : ai_V) : Option (Int32 × ai_V) :=
  (d_M_in x1 (0 : Int32) (198 : Int32) (si V 89 14 (0 : Int32))).bind fun q5 => (if ¬ q5 = 0 then (d_M_enough_31 ai_N x1 (0 : Int32) (-1 : Int32) (-1 : Int32) (-1 : Int32) (0 : Int32) (si V 89 14 (0 : Int32))) else (some ((-1 : Int32), (si V 89 14 (0 : Int32)))))
set_option maxRecDepth 20000 in
theorem t_M_enough {X : ai_S} {e : Nat} (hd : 331 ≤ e) {x1 : Int32} {V : ai_V} {r : (Int32 × ai_V)} (h : d_M_enough x1 V = some r) : Rn e 231 0 (lv_args 0 [.ref 89, .int x1]) [] (SH ++ X) V (some (.int r.1)) (SH ++ X) r.2 := by
  rw [d_M_enough] at h
  refine rn_go 6 (pc' := 10) (l' := [(0, .ref 89), (1, .int x1)]) (st' := [.int (198 : Int32), .int (0 : Int32), .int x1]) (S1 := (SH ++ X)) (V1 := (si V 89 14 (0 : Int32))) rfl ?_
  obtain ⟨q5, hq5, h⟩ := ai_bd h
  refine rn_call rfl rfl rfl rfl rfl rfl (by omega) (t_M_in (by omega) hq5) ?_
  rcases ai_if h with ⟨hc, h⟩ | ⟨hc, h⟩
  · refine rn_brT rfl rfl rfl rfl hc ?_
    refine rn_go 10 (pc' := 31) (l' := [(6, .int (0 : Int32)), (5, .int (-1 : Int32)), (4, .int (-1 : Int32)), (3, .int (-1 : Int32)), (2, .int (0 : Int32)), (0, .ref 89), (1, .int x1)]) (st' := []) (S1 := (SH ++ X)) (V1 := (si V 89 14 (0 : Int32))) rfl ?_
    exact rn_sub [5, 6, 4, 3, 2, 1, 0] rfl rfl (t_M_enough_31 (X := X) hd ai_N x1 (0 : Int32) (-1 : Int32) (-1 : Int32) (-1 : Int32) (0 : Int32) (si V 89 14 (0 : Int32)) _ h)
  · refine rn_brF rfl rfl rfl rfl hc ?_
    refine rn_go 1 (pc' := 17) (l' := [(0, .ref 89), (1, .int x1)]) (st' := [.int (-1 : Int32)]) (S1 := (SH ++ X)) (V1 := (si V 89 14 (0 : Int32))) rfl ?_
    obtain rfl := Option.some.inj h
    exact rn_ret rfl rfl rfl
-- RentByTheWheelModel.step(I)I (89, None)
def d_M_step_64 (F20 : Int32 → Int32 → Int32 → ai_V → Option (Int32 × ai_V)) (x1 : Int32) (x2 : Int32) (x3 : Int32) (V : ai_V) : Option (Int32 × ai_V) :=
  F20 x1 x2 (x3 + (1 : Int32)) V
set_option maxRecDepth 20000 in
theorem t_M_step_64 {X : ai_S} {e : Nat} (hd : 331 ≤ e) (F20 : Int32 → Int32 → Int32 → ai_V → Option (Int32 × ai_V)) (hF20 : ∀ (x1 : Int32) (x2 : Int32) (x3 : Int32) (V : ai_V) (r : (Int32 × ai_V)), F20 x1 x2 x3 V = some r → Rn e 232 20 [(0, .ref 89), (1, .int x1), (2, .int x2), (3, .int x3)] [] (SH ++ X) V (some (.int r.1)) (SH ++ X) r.2) (x1 : Int32) (x2 : Int32) (x3 : Int32) (V : ai_V) (r : (Int32 × ai_V)) (h : d_M_step_64 F20 x1 x2 x3 V = some r) : Rn e 232 64 [(0, .ref 89), (1, .int x1), (2, .int x2), (3, .int x3)] [] (SH ++ X) V (some (.int r.1)) (SH ++ X) r.2 := by
  rw [d_M_step_64] at h
  refine rn_go 2 (pc' := 20) (l' := [(3, .int (x3 + (1 : Int32))), (0, .ref 89), (1, .int x1), (2, .int x2)]) (st' := []) (S1 := (SH ++ X)) (V1 := V) rfl ?_
  exact rn_sub [1, 2, 3, 0] rfl rfl (hF20 x1 x2 (x3 + (1 : Int32)) V _ h)
def d_M_step_62 (F20 : Int32 → Int32 → Int32 → ai_V → Option (Int32 × ai_V)) (x1 : Int32) (x3 : Int32) (V : ai_V) : Option (Int32 × ai_V) :=
  d_M_step_64 F20 x1 x3 x3 V
set_option maxRecDepth 20000 in
theorem t_M_step_62 {X : ai_S} {e : Nat} (hd : 331 ≤ e) (F20 : Int32 → Int32 → Int32 → ai_V → Option (Int32 × ai_V)) (hF20 : ∀ (x1 : Int32) (x2 : Int32) (x3 : Int32) (V : ai_V) (r : (Int32 × ai_V)), F20 x1 x2 x3 V = some r → Rn e 232 20 [(0, .ref 89), (1, .int x1), (2, .int x2), (3, .int x3)] [] (SH ++ X) V (some (.int r.1)) (SH ++ X) r.2) (x1 : Int32) (x3 : Int32) (V : ai_V) (r : (Int32 × ai_V)) (h : d_M_step_62 F20 x1 x3 V = some r) : Rn e 232 62 [(0, .ref 89), (1, .int x1), (3, .int x3)] [] (SH ++ X) V (some (.int r.1)) (SH ++ X) r.2 := by
  rw [d_M_step_62] at h
  refine rn_go 2 (pc' := 64) (l' := [(2, .int x3), (0, .ref 89), (1, .int x1), (3, .int x3)]) (st' := []) (S1 := (SH ++ X)) (V1 := V) rfl ?_
  exact rn_sub [1, 2, 0, 3] rfl rfl (t_M_step_64 (X := X) hd F20 hF20 x1 x3 x3 V _ h)
def d_M_step_20  : Nat → Int32 → Int32 → Int32 → ai_V → Option (Int32 × ai_V)
  | 0, _, _, _, _ => none
  | n + 1, x1, x2, x3, V => if (gi V 89 1) ≤ x3 then (if 0 ≤ x2 then ((d_M_liftNow (((1 : Int32) <<< (x1 &&& 31)) ||| ((1 : Int32) <<< (x2 &&& 31))) V).bind fun q1 => ((d_M_tell (q1.1).toInt64 (si q1.2 89 13 (0 : Int32))).bind fun q2 => ((d_M_liftNow ((1 : Int32) <<< (x1 &&& 31)) q2).bind fun q3 => ((d_M_liftNow ((1 : Int32) <<< (x2 &&& 31)) q3.2).bind fun q4 => ((d_M_tell ((((q3.1 + q4.1) - q1.1)).toInt64) q4.2).bind fun q5 => (some (x2, q5))))))) else (some ((-2 : Int32), V))) else (if x3 = x1 then (d_M_step_64 (d_M_step_20 n) x1 x2 x3 V) else (if x2 < 0 then (d_M_step_62 (d_M_step_20 n) x1 x3 V) else ((d_M_liftNow (((1 : Int32) <<< (x1 &&& 31)) ||| ((1 : Int32) <<< (x3 &&& 31))) V).bind fun q6 => ((d_M_liftNow (((1 : Int32) <<< (x1 &&& 31)) ||| ((1 : Int32) <<< (x2 &&& 31))) q6.2).bind fun q7 => (if q6.1 ≤ q7.1 then (d_M_step_64 (d_M_step_20 n) x1 x2 x3 q7.2) else (d_M_step_62 (d_M_step_20 n) x1 x3 q7.2))))))
set_option maxRecDepth 20000 in
theorem t_M_step_20 {X : ai_S} {e : Nat} (hd : 331 ≤ e)  : ∀ (n : Nat) (x1 : Int32) (x2 : Int32) (x3 : Int32) (V : ai_V) (r : (Int32 × ai_V)), d_M_step_20  n x1 x2 x3 V = some r → Rn e 232 20 [(0, .ref 89), (1, .int x1), (2, .int x2), (3, .int x3)] [] (SH ++ X) V (some (.int r.1)) (SH ++ X) r.2 := by
  intro n
  induction n with
  | zero =>
    intro x1 x2 x3 V r h
    cases h
  | succ n ih =>
    intro x1 x2 x3 V r h
    rw [d_M_step_20] at h
    refine rn_go 3 (pc' := 25) (l' := [(0, .ref 89), (1, .int x1), (2, .int x2), (3, .int x3)]) (st' := [.int (gi V 89 1), .int x3]) (S1 := (SH ++ X)) (V1 := V) rfl ?_
    rcases ai_if h with ⟨hc, h⟩ | ⟨hc, h⟩
    · refine rn_brT rfl rfl rfl rfl hc ?_
      refine rn_go 1 (pc' := 71) (l' := [(0, .ref 89), (1, .int x1), (2, .int x2), (3, .int x3)]) (st' := [.int x2]) (S1 := (SH ++ X)) (V1 := V) rfl ?_
      rcases ai_if h with ⟨hc, h⟩ | ⟨hc, h⟩
      · refine rn_brT rfl rfl rfl rfl hc ?_
        refine rn_go 8 (pc' := 85) (l' := [(0, .ref 89), (1, .int x1), (2, .int x2), (3, .int x3)]) (st' := [.int (((1 : Int32) <<< (x1 &&& 31)) ||| ((1 : Int32) <<< (x2 &&& 31))), .ref 89]) (S1 := (SH ++ X)) (V1 := V) rfl ?_
        obtain ⟨q1, hq1, h⟩ := ai_bd h
        refine rn_call rfl rfl rfl rfl rfl rfl (by omega) (t_M_liftNow (by omega) hq1) ?_
        refine rn_go 7 (pc' := 97) (l' := [(3, .int q1.1), (0, .ref 89), (1, .int x1), (2, .int x2)]) (st' := [.long (q1.1).toInt64, .ref 89]) (S1 := (SH ++ X)) (V1 := (si q1.2 89 13 (0 : Int32))) rfl ?_
        obtain ⟨q2, hq2, h⟩ := ai_bd h
        refine rn_call rfl rfl rfl rfl rfl rfl (by omega) (t_M_tell (by omega) hq2) ?_
        refine rn_go 5 (pc' := 105) (l' := [(3, .int q1.1), (0, .ref 89), (1, .int x1), (2, .int x2)]) (st' := [.int ((1 : Int32) <<< (x1 &&& 31)), .ref 89, .ref 89]) (S1 := (SH ++ X)) (V1 := q2) rfl ?_
        obtain ⟨q3, hq3, h⟩ := ai_bd h
        refine rn_call rfl rfl rfl rfl rfl rfl (by omega) (t_M_liftNow (by omega) hq3) ?_
        refine rn_go 4 (pc' := 112) (l' := [(3, .int q1.1), (0, .ref 89), (1, .int x1), (2, .int x2)]) (st' := [.int ((1 : Int32) <<< (x2 &&& 31)), .ref 89, .int q3.1, .ref 89]) (S1 := (SH ++ X)) (V1 := q3.2) rfl ?_
        obtain ⟨q4, hq4, h⟩ := ai_bd h
        refine rn_call rfl rfl rfl rfl rfl rfl (by omega) (t_M_liftNow (by omega) hq4) ?_
        refine rn_go 4 (pc' := 119) (l' := [(3, .int q1.1), (0, .ref 89), (1, .int x1), (2, .int x2)]) (st' := [.long (((q3.1 + q4.1) - q1.1)).toInt64, .ref 89]) (S1 := (SH ++ X)) (V1 := q4.2) rfl ?_
        obtain ⟨q5, hq5, h⟩ := ai_bd h
        refine rn_call rfl rfl rfl rfl rfl rfl (by omega) (t_M_tell (by omega) hq5) ?_
        refine rn_go 1 (pc' := 123) (l' := [(3, .int q1.1), (0, .ref 89), (1, .int x1), (2, .int x2)]) (st' := [.int x2]) (S1 := (SH ++ X)) (V1 := q5) rfl ?_
        obtain rfl := Option.some.inj h
        exact rn_ret rfl rfl rfl
      · refine rn_brF rfl rfl rfl rfl hc ?_
        refine rn_go 1 (pc' := 76) (l' := [(0, .ref 89), (1, .int x1), (2, .int x2), (3, .int x3)]) (st' := [.int (-2 : Int32)]) (S1 := (SH ++ X)) (V1 := V) rfl ?_
        obtain rfl := Option.some.inj h
        exact rn_ret rfl rfl rfl
    · refine rn_brF rfl rfl rfl rfl hc ?_
      refine rn_go 2 (pc' := 30) (l' := [(0, .ref 89), (1, .int x1), (2, .int x2), (3, .int x3)]) (st' := [.int x1, .int x3]) (S1 := (SH ++ X)) (V1 := V) rfl ?_
      rcases ai_if h with ⟨hc, h⟩ | ⟨hc, h⟩
      · refine rn_brT rfl rfl rfl rfl hc ?_
        exact rn_sub [0, 1, 2, 3] rfl rfl (t_M_step_64 (X := X) hd (d_M_step_20 n) (ih) x1 x2 x3 V _ h)
      · refine rn_brF rfl rfl rfl rfl hc ?_
        refine rn_go 1 (pc' := 34) (l' := [(0, .ref 89), (1, .int x1), (2, .int x2), (3, .int x3)]) (st' := [.int x2]) (S1 := (SH ++ X)) (V1 := V) rfl ?_
        rcases ai_if h with ⟨hc, h⟩ | ⟨hc, h⟩
        · refine rn_brT rfl rfl rfl rfl hc ?_
          exact rn_sub [0, 1, 3] rfl rfl (t_M_step_62 (X := X) hd (d_M_step_20 n) (ih) x1 x3 V _ h)
        · refine rn_brF rfl rfl rfl rfl hc ?_
          refine rn_go 8 (pc' := 45) (l' := [(0, .ref 89), (1, .int x1), (2, .int x2), (3, .int x3)]) (st' := [.int (((1 : Int32) <<< (x1 &&& 31)) ||| ((1 : Int32) <<< (x3 &&& 31))), .ref 89]) (S1 := (SH ++ X)) (V1 := V) rfl ?_
          obtain ⟨q6, hq6, h⟩ := ai_bd h
          refine rn_call rfl rfl rfl rfl rfl rfl (by omega) (t_M_liftNow (by omega) hq6) ?_
          refine rn_go 8 (pc' := 56) (l' := [(0, .ref 89), (1, .int x1), (2, .int x2), (3, .int x3)]) (st' := [.int (((1 : Int32) <<< (x1 &&& 31)) ||| ((1 : Int32) <<< (x2 &&& 31))), .ref 89, .int q6.1]) (S1 := (SH ++ X)) (V1 := q6.2) rfl ?_
          obtain ⟨q7, hq7, h⟩ := ai_bd h
          refine rn_call rfl rfl rfl rfl rfl rfl (by omega) (t_M_liftNow (by omega) hq7) ?_
          rcases ai_if h with ⟨hc, h⟩ | ⟨hc, h⟩
          · refine rn_brT rfl rfl rfl rfl hc ?_
            exact rn_sub [0, 1, 2, 3] rfl rfl (t_M_step_64 (X := X) hd (d_M_step_20 n) (ih) x1 x2 x3 q7.2 _ h)
          · refine rn_brF rfl rfl rfl rfl hc ?_
            exact rn_sub [0, 1, 3] rfl rfl (t_M_step_62 (X := X) hd (d_M_step_20 n) (ih) x1 x3 q7.2 _ h)
def d_M_step (x1 : Int32) (V : ai_V) : Option (Int32 × ai_V) :=
  (d_M_isOne x1 (si V 89 14 (0 : Int32))).bind fun q8 => (if ¬ q8 = 0 then (d_M_step_20 ai_N x1 (-2 : Int32) (0 : Int32) (si V 89 14 (0 : Int32))) else (some ((-1 : Int32), (si V 89 14 (0 : Int32)))))
set_option maxRecDepth 20000 in
theorem t_M_step {X : ai_S} {e : Nat} (hd : 331 ≤ e) {x1 : Int32} {V : ai_V} {r : (Int32 × ai_V)} (h : d_M_step x1 V = some r) : Rn e 232 0 (lv_args 0 [.ref 89, .int x1]) [] (SH ++ X) V (some (.int r.1)) (SH ++ X) r.2 := by
  rw [d_M_step] at h
  refine rn_go 5 (pc' := 7) (l' := [(0, .ref 89), (1, .int x1)]) (st' := [.int x1, .ref 89]) (S1 := (SH ++ X)) (V1 := (si V 89 14 (0 : Int32))) rfl ?_
  obtain ⟨q8, hq8, h⟩ := ai_bd h
  refine rn_call rfl rfl rfl rfl rfl rfl (by omega) (t_M_isOne (by omega) hq8) ?_
  rcases ai_if h with ⟨hc, h⟩ | ⟨hc, h⟩
  · refine rn_brT rfl rfl rfl rfl hc ?_
    refine rn_go 4 (pc' := 20) (l' := [(3, .int (0 : Int32)), (2, .int (-2 : Int32)), (0, .ref 89), (1, .int x1)]) (st' := []) (S1 := (SH ++ X)) (V1 := (si V 89 14 (0 : Int32))) rfl ?_
    exact rn_sub [2, 3, 1, 0] rfl rfl (t_M_step_20 (X := X) hd ai_N x1 (-2 : Int32) (0 : Int32) (si V 89 14 (0 : Int32)) _ h)
  · refine rn_brF rfl rfl rfl rfl hc ?_
    refine rn_go 1 (pc' := 14) (l' := [(0, .ref 89), (1, .int x1)]) (st' := [.int (-1 : Int32)]) (S1 := (SH ++ X)) (V1 := (si V 89 14 (0 : Int32))) rfl ?_
    obtain rfl := Option.some.inj h
    exact rn_ret rfl rfl rfl
