/-! ===== printed by wip/gen/gen.py: methods as functions, and that the machine runs so ===== -/
-- RentByTheWheel.set(II)I (0, None, None)
def d_X_set (x1 : Int32) (x2 : Int32) (V : ai_V) : Option (Int32 × ai_V) :=
  if x1 = (0 : Int32) then ((d_X_changeRoom x2 V).bind fun q3 => (some (q3.1, q3.2))) else (if x1 = (1 : Int32) then ((d_X_changeDue x2 V).bind fun q2 => (some (q2.1, q2.2))) else (if x1 = (2 : Int32) then ((d_X_changeLevel x2 V).bind fun q1 => (some (q1.1, q1.2))) else (some ((-1 : Int32), V))))
set_option maxRecDepth 20000 in
theorem t_X_set {X : ai_S} {e : Nat} (hd : 1 ≤ e) {x1 : Int32} {x2 : Int32} {V : ai_V} {r : (Int32 × ai_V)} (h : d_X_set x1 x2 V = some r) : Rn e 102 0 (lv_args 0 [.ref 0, .int x1, .int x2]) [] (SH ++ X) V (some (.int r.1)) (SH ++ X) r.2 := by
  rw [d_X_set] at h
  refine rn_go 1 (pc' := 1) (l' := [(0, .ref 0), (1, .int x1), (2, .int x2)]) (st' := [.int x1]) (S1 := (SH ++ X)) (V1 := V) rfl ?_
  rcases ai_if h with ⟨hs0, h⟩ | ⟨hs0, h⟩
  · refine rn_sw rfl rfl rfl rfl (ai_sel_t hs0) ?_
    refine rn_go 2 (pc' := 30) (l' := [(0, .ref 0), (1, .int x1), (2, .int x2)]) (st' := [.int x2, .ref 0]) (S1 := (SH ++ X)) (V1 := V) rfl ?_
    obtain ⟨q3, hq3, h⟩ := ai_bd h
    refine rn_call rfl rfl rfl rfl rfl rfl (by omega) (t_X_changeRoom (by omega) hq3) ?_
    obtain rfl := Option.some.inj h
    exact rn_ret rfl rfl rfl
  · rcases ai_if h with ⟨hs1, h⟩ | ⟨hs1, h⟩
    · refine rn_sw rfl rfl rfl rfl (ai_sel_f hs0 (ai_sel_t hs1)) ?_
      refine rn_go 2 (pc' := 36) (l' := [(0, .ref 0), (1, .int x1), (2, .int x2)]) (st' := [.int x2, .ref 0]) (S1 := (SH ++ X)) (V1 := V) rfl ?_
      obtain ⟨q2, hq2, h⟩ := ai_bd h
      refine rn_call rfl rfl rfl rfl rfl rfl (by omega) (t_X_changeDue (by omega) hq2) ?_
      obtain rfl := Option.some.inj h
      exact rn_ret rfl rfl rfl
    · rcases ai_if h with ⟨hs2, h⟩ | ⟨hs2, h⟩
      · refine rn_sw rfl rfl rfl rfl (ai_sel_f hs0 (ai_sel_f hs1 (ai_sel_t hs2))) ?_
        refine rn_go 2 (pc' := 42) (l' := [(0, .ref 0), (1, .int x1), (2, .int x2)]) (st' := [.int x2, .ref 0]) (S1 := (SH ++ X)) (V1 := V) rfl ?_
        obtain ⟨q1, hq1, h⟩ := ai_bd h
        refine rn_call rfl rfl rfl rfl rfl rfl (by omega) (t_X_changeLevel (by omega) hq1) ?_
        obtain rfl := Option.some.inj h
        exact rn_ret rfl rfl rfl
      · refine rn_sw rfl rfl rfl rfl (ai_sel_f hs0 (ai_sel_f hs1 (ai_sel_f hs2 rfl))) ?_
        refine rn_go 1 (pc' := 47) (l' := [(0, .ref 0), (1, .int x1), (2, .int x2)]) (st' := [.int (-1 : Int32)]) (S1 := (SH ++ X)) (V1 := V) rfl ?_
        obtain rfl := Option.some.inj h
        exact rn_ret rfl rfl rfl
-- RentByTheWheel.brake(II)I (0, None, None)
def d_X_brake (x1 : Int32) (x2 : Int32) (V : ai_V) : Option (Int32 × ai_V) :=
  (d_House_has x1 V).bind fun q1 => (if q1 = 0 then (some ((-1 : Int32), V)) else (if x2 < 0 then (some ((-1 : Int32), V)) else (if x2 ≤ (1 : Int32) then (some ((((gi V 3 2) >>> (x1 &&& 31)) &&& (1 : Int32)), (si V 3 2 ((gi V 3 2) ^^^ (((((gi V 3 2) >>> (x1 &&& 31)) &&& (1 : Int32)) ^^^ x2) <<< (x1 &&& 31)))))) else (some ((-1 : Int32), V)))))
set_option maxRecDepth 20000 in
theorem t_X_brake {X : ai_S} {e : Nat} (hd : 1 ≤ e) {x1 : Int32} {x2 : Int32} {V : ai_V} {r : (Int32 × ai_V)} (h : d_X_brake x1 x2 V = some r) : Rn e 103 0 (lv_args 0 [.ref 0, .int x1, .int x2]) [] (SH ++ X) V (some (.int r.1)) (SH ++ X) r.2 := by
  rw [d_X_brake] at h
  refine rn_go 3 (pc' := 5) (l' := [(0, .ref 0), (1, .int x1), (2, .int x2)]) (st' := [.int x1, .ref 3]) (S1 := (SH ++ X)) (V1 := V) rfl ?_
  obtain ⟨q1, hq1, h⟩ := ai_bd h
  refine rn_call rfl rfl rfl rfl rfl rfl (by omega) (t_House_has (by omega) hq1) ?_
  rcases ai_if h with ⟨hc, h⟩ | ⟨hc, h⟩
  · refine rn_brT rfl rfl rfl rfl hc ?_
    refine rn_go 1 (pc' := 21) (l' := [(0, .ref 0), (1, .int x1), (2, .int x2)]) (st' := [.int (-1 : Int32)]) (S1 := (SH ++ X)) (V1 := V) rfl ?_
    obtain rfl := Option.some.inj h
    exact rn_ret rfl rfl rfl
  · refine rn_brF rfl rfl rfl rfl hc ?_
    refine rn_go 1 (pc' := 12) (l' := [(0, .ref 0), (1, .int x1), (2, .int x2)]) (st' := [.int x2]) (S1 := (SH ++ X)) (V1 := V) rfl ?_
    rcases ai_if h with ⟨hc, h⟩ | ⟨hc, h⟩
    · refine rn_brT rfl rfl rfl rfl hc ?_
      refine rn_go 1 (pc' := 21) (l' := [(0, .ref 0), (1, .int x1), (2, .int x2)]) (st' := [.int (-1 : Int32)]) (S1 := (SH ++ X)) (V1 := V) rfl ?_
      obtain rfl := Option.some.inj h
      exact rn_ret rfl rfl rfl
    · refine rn_brF rfl rfl rfl rfl hc ?_
      refine rn_go 2 (pc' := 17) (l' := [(0, .ref 0), (1, .int x1), (2, .int x2)]) (st' := [.int (1 : Int32), .int x2]) (S1 := (SH ++ X)) (V1 := V) rfl ?_
      rcases ai_if h with ⟨hc, h⟩ | ⟨hc, h⟩
      · refine rn_brT rfl rfl rfl rfl hc ?_
        refine rn_go 20 (pc' := 52) (l' := [(3, .int (((gi V 3 2) >>> (x1 &&& 31)) &&& (1 : Int32))), (0, .ref 0), (1, .int x1), (2, .int x2)]) (st' := [.int (((gi V 3 2) >>> (x1 &&& 31)) &&& (1 : Int32))]) (S1 := (SH ++ X)) (V1 := (si V 3 2 ((gi V 3 2) ^^^ (((((gi V 3 2) >>> (x1 &&& 31)) &&& (1 : Int32)) ^^^ x2) <<< (x1 &&& 31))))) rfl ?_
        obtain rfl := Option.some.inj h
        exact rn_ret rfl rfl rfl
      · refine rn_brF rfl rfl rfl rfl hc ?_
        refine rn_go 1 (pc' := 21) (l' := [(0, .ref 0), (1, .int x1), (2, .int x2)]) (st' := [.int (-1 : Int32)]) (S1 := (SH ++ X)) (V1 := V) rfl ?_
        obtain rfl := Option.some.inj h
        exact rn_ret rfl rfl rfl
-- RentByTheWheel.paceTold(II)I (None, None)
def d_X_paceTold_20  (s0 : Int32) (V : ai_V) : Option Int32 :=
  some (ai_max (1 : Int32) (ai_min (9 : Int32) s0))
set_option maxRecDepth 20000 in
theorem t_X_paceTold_20 {X : ai_S} {e : Nat} (hd : 0 ≤ e)  (s0 : Int32) (V : ai_V) (r : Int32) (h : d_X_paceTold_20  s0 V = some r) : Rn e 104 20 [] [.int s0] (SH ++ X) V (some (.int r)) (SH ++ X) V := by
  rw [d_X_paceTold_20] at h
  refine rn_go 6 (pc' := 31) (l' := [(2, .int s0)]) (st' := [.int (ai_max (1 : Int32) (ai_min (9 : Int32) s0))]) (S1 := (SH ++ X)) (V1 := V) rfl ?_
  obtain rfl := Option.some.inj h
  exact rn_ret rfl rfl rfl
def d_X_paceTold (x0 : Int32) (x1 : Int32) (V : ai_V) : Option Int32 :=
  if ¬ x0 = 0 then (if ¬ x0 = (1 : Int32) then (d_X_paceTold_20 x1 V) else (d_X_paceTold_20 (x1).toInt16.toInt32 V)) else (d_X_paceTold_20 (x1).toInt8.toInt32 V)
set_option maxRecDepth 20000 in
theorem t_X_paceTold {X : ai_S} {e : Nat} (hd : 0 ≤ e) {x0 : Int32} {x1 : Int32} {V : ai_V} {r : Int32} (h : d_X_paceTold x0 x1 V = some r) : Rn e 104 0 (lv_args 0 [.int x0, .int x1]) [] (SH ++ X) V (some (.int r)) (SH ++ X) V := by
  rw [d_X_paceTold] at h
  refine rn_go 1 (pc' := 1) (l' := [(0, .int x0), (1, .int x1)]) (st' := [.int x0]) (S1 := (SH ++ X)) (V1 := V) rfl ?_
  rcases ai_if h with ⟨hc, h⟩ | ⟨hc, h⟩
  · refine rn_brT rfl rfl rfl rfl hc ?_
    refine rn_go 2 (pc' := 11) (l' := [(0, .int x0), (1, .int x1)]) (st' := [.int (1 : Int32), .int x0]) (S1 := (SH ++ X)) (V1 := V) rfl ?_
    rcases ai_if h with ⟨hc, h⟩ | ⟨hc, h⟩
    · refine rn_brT rfl rfl rfl rfl hc ?_
      refine rn_go 1 (pc' := 20) (l' := [(0, .int x0), (1, .int x1)]) (st' := [.int x1]) (S1 := (SH ++ X)) (V1 := V) rfl ?_
      exact rn_sub [] rfl rfl (t_X_paceTold_20 (X := X) hd x1 V _ h)
    · refine rn_brF rfl rfl rfl rfl hc ?_
      refine rn_go 3 (pc' := 20) (l' := [(0, .int x0), (1, .int x1)]) (st' := [.int (x1).toInt16.toInt32]) (S1 := (SH ++ X)) (V1 := V) rfl ?_
      exact rn_sub [] rfl rfl (t_X_paceTold_20 (X := X) hd (x1).toInt16.toInt32 V _ h)
  · refine rn_brF rfl rfl rfl rfl hc ?_
    refine rn_go 3 (pc' := 20) (l' := [(0, .int x0), (1, .int x1)]) (st' := [.int (x1).toInt8.toInt32]) (S1 := (SH ++ X)) (V1 := V) rfl ?_
    exact rn_sub [] rfl rfl (t_X_paceTold_20 (X := X) hd (x1).toInt8.toInt32 V _ h)
-- RentByTheWheel.sheet(IIII)I (0, None, None, None, None)
def d_X_sheet_82 (F35 : Int32 → Int32 → Int32 → Int32 → Int32 → Int32 → ai_V → Option (Int32 × ai_V)) (x1 : Int32) (x2 : Int32) (x3 : Int32) (x4 : Int32) (x5 : Int32) (x6 : Int32) (s0 : Int32) (s1 : Int32) (V : ai_V) : Option (Int32 × ai_V) :=
  if ai_in s1 6 then (if ai_in x6 6 then (F35 x1 x2 x3 x4 (x5 + (ga (sa V 5 (s1).toNatClampNeg s0) 5 (x6).toNatClampNeg)) (x6 + (1 : Int32)) (sa V 5 (s1).toNatClampNeg s0)) else none) else none
set_option maxRecDepth 20000 in
theorem t_X_sheet_82 {X : ai_S} {e : Nat} (hd : 1 ≤ e) (F35 : Int32 → Int32 → Int32 → Int32 → Int32 → Int32 → ai_V → Option (Int32 × ai_V)) (hF35 : ∀ (x1 : Int32) (x2 : Int32) (x3 : Int32) (x4 : Int32) (x5 : Int32) (x6 : Int32) (V : ai_V) (r : (Int32 × ai_V)), F35 x1 x2 x3 x4 x5 x6 V = some r → Rn e 105 35 [(0, .ref 0), (1, .int x1), (2, .int x2), (3, .int x3), (4, .int x4), (5, .int x5), (6, .int x6)] [] (SH ++ X) V (some (.int r.1)) (SH ++ X) r.2) (x1 : Int32) (x2 : Int32) (x3 : Int32) (x4 : Int32) (x5 : Int32) (x6 : Int32) (s0 : Int32) (s1 : Int32) (V : ai_V) (r : (Int32 × ai_V)) (h : d_X_sheet_82 F35 x1 x2 x3 x4 x5 x6 s0 s1 V = some r) : Rn e 105 82 [(0, .ref 0), (1, .int x1), (2, .int x2), (3, .int x3), (4, .int x4), (5, .int x5), (6, .int x6)] [.int s0, .int s1, .ref 5] (SH ++ X) V (some (.int r.1)) (SH ++ X) r.2 := by
  rw [d_X_sheet_82] at h
  obtain ⟨hg, h⟩ := ai_gd h
  refine rg_iast (n := 6) rfl rfl hg ?_
  refine rn_go 5 (pc' := 94) (l' := [(0, .ref 0), (1, .int x1), (2, .int x2), (3, .int x3), (4, .int x4), (5, .int x5), (6, .int x6)]) (st' := [.int x6, .ref 5, .int x5]) (S1 := (SH ++ X)) (V1 := (sa V 5 (s1).toNatClampNeg s0)) rfl ?_
  obtain ⟨hg, h⟩ := ai_gd h
  refine rg_iald (n := 6) rfl rfl hg ?_
  refine rn_go 4 (pc' := 35) (l' := [(6, .int (x6 + (1 : Int32))), (5, .int (x5 + (ga (sa V 5 (s1).toNatClampNeg s0) 5 (x6).toNatClampNeg))), (0, .ref 0), (1, .int x1), (2, .int x2), (3, .int x3), (4, .int x4)]) (st' := []) (S1 := (SH ++ X)) (V1 := (sa V 5 (s1).toNatClampNeg s0)) rfl ?_
  exact rn_sub [2, 3, 4, 5, 6, 1, 0] rfl rfl (hF35 x1 x2 x3 x4 (x5 + (ga (sa V 5 (s1).toNatClampNeg s0) 5 (x6).toNatClampNeg)) (x6 + (1 : Int32)) (sa V 5 (s1).toNatClampNeg s0) _ h)
def d_X_sheet_81 (F35 : Int32 → Int32 → Int32 → Int32 → Int32 → Int32 → ai_V → Option (Int32 × ai_V)) (x1 : Int32) (x2 : Int32) (x3 : Int32) (x4 : Int32) (x5 : Int32) (x6 : Int32) (s0 : Int32) (V : ai_V) : Option (Int32 × ai_V) :=
  d_X_sheet_82 F35 x1 x2 x3 x4 x5 x6 (1 : Int32) s0 V
set_option maxRecDepth 20000 in
theorem t_X_sheet_81 {X : ai_S} {e : Nat} (hd : 1 ≤ e) (F35 : Int32 → Int32 → Int32 → Int32 → Int32 → Int32 → ai_V → Option (Int32 × ai_V)) (hF35 : ∀ (x1 : Int32) (x2 : Int32) (x3 : Int32) (x4 : Int32) (x5 : Int32) (x6 : Int32) (V : ai_V) (r : (Int32 × ai_V)), F35 x1 x2 x3 x4 x5 x6 V = some r → Rn e 105 35 [(0, .ref 0), (1, .int x1), (2, .int x2), (3, .int x3), (4, .int x4), (5, .int x5), (6, .int x6)] [] (SH ++ X) V (some (.int r.1)) (SH ++ X) r.2) (x1 : Int32) (x2 : Int32) (x3 : Int32) (x4 : Int32) (x5 : Int32) (x6 : Int32) (s0 : Int32) (V : ai_V) (r : (Int32 × ai_V)) (h : d_X_sheet_81 F35 x1 x2 x3 x4 x5 x6 s0 V = some r) : Rn e 105 81 [(0, .ref 0), (1, .int x1), (2, .int x2), (3, .int x3), (4, .int x4), (5, .int x5), (6, .int x6)] [.int s0, .ref 5] (SH ++ X) V (some (.int r.1)) (SH ++ X) r.2 := by
  rw [d_X_sheet_81] at h
  refine rn_go 1 (pc' := 82) (l' := [(0, .ref 0), (1, .int x1), (2, .int x2), (3, .int x3), (4, .int x4), (5, .int x5), (6, .int x6)]) (st' := [.int (1 : Int32), .int s0, .ref 5]) (S1 := (SH ++ X)) (V1 := V) rfl ?_
  exact rn_sub [0, 1, 2, 3, 4, 5, 6] rfl rfl (t_X_sheet_82 (X := X) hd F35 hF35 x1 x2 x3 x4 x5 x6 (1 : Int32) s0 V _ h)
def d_X_sheet_35  : Nat → Int32 → Int32 → Int32 → Int32 → Int32 → Int32 → ai_V → Option (Int32 × ai_V)
  | 0, _, _, _, _, _, _, _ => none
  | n + 1, x1, x2, x3, x4, x5, x6, V => if (gi V 3 0) ≤ x6 then (if ¬ x1 = (3 : Int32) then (some (x5, V)) else (some ((-3 : Int32), V))) else (if (3 : Int32) ≤ x1 then (d_X_sheet_81 (d_X_sheet_35 n) x1 x2 x3 x4 x5 x6 x6 V) else (if x2 ≤ x6 then (d_X_sheet_81 (d_X_sheet_35 n) x1 x2 x3 x4 x5 x6 x6 V) else ((d_X_paceTold x1 (x3 + (x6 * x4)) V).bind fun q1 => (d_X_sheet_82 (d_X_sheet_35 n) x1 x2 x3 x4 x5 x6 q1 x6 V))))
set_option maxRecDepth 20000 in
theorem t_X_sheet_35 {X : ai_S} {e : Nat} (hd : 1 ≤ e)  : ∀ (n : Nat) (x1 : Int32) (x2 : Int32) (x3 : Int32) (x4 : Int32) (x5 : Int32) (x6 : Int32) (V : ai_V) (r : (Int32 × ai_V)), d_X_sheet_35  n x1 x2 x3 x4 x5 x6 V = some r → Rn e 105 35 [(0, .ref 0), (1, .int x1), (2, .int x2), (3, .int x3), (4, .int x4), (5, .int x5), (6, .int x6)] [] (SH ++ X) V (some (.int r.1)) (SH ++ X) r.2 := by
  intro n
  induction n with
  | zero =>
    intro x1 x2 x3 x4 x5 x6 V r h
    cases h
  | succ n ih =>
    intro x1 x2 x3 x4 x5 x6 V r h
    rw [d_X_sheet_35] at h
    refine rn_go 4 (pc' := 44) (l' := [(0, .ref 0), (1, .int x1), (2, .int x2), (3, .int x3), (4, .int x4), (5, .int x5), (6, .int x6)]) (st' := [.int (gi V 3 0), .int x6]) (S1 := (SH ++ X)) (V1 := V) rfl ?_
    rcases ai_if h with ⟨hc, h⟩ | ⟨hc, h⟩
    · refine rn_brT rfl rfl rfl rfl hc ?_
      refine rn_go 2 (pc' := 106) (l' := [(0, .ref 0), (1, .int x1), (2, .int x2), (3, .int x3), (4, .int x4), (5, .int x5), (6, .int x6)]) (st' := [.int (3 : Int32), .int x1]) (S1 := (SH ++ X)) (V1 := V) rfl ?_
      rcases ai_if h with ⟨hc, h⟩ | ⟨hc, h⟩
      · refine rn_brT rfl rfl rfl rfl hc ?_
        refine rn_go 1 (pc' := 116) (l' := [(0, .ref 0), (1, .int x1), (2, .int x2), (3, .int x3), (4, .int x4), (5, .int x5), (6, .int x6)]) (st' := [.int x5]) (S1 := (SH ++ X)) (V1 := V) rfl ?_
        obtain rfl := Option.some.inj h
        exact rn_ret rfl rfl rfl
      · refine rn_brF rfl rfl rfl rfl hc ?_
        refine rn_go 2 (pc' := 116) (l' := [(0, .ref 0), (1, .int x1), (2, .int x2), (3, .int x3), (4, .int x4), (5, .int x5), (6, .int x6)]) (st' := [.int (-3 : Int32)]) (S1 := (SH ++ X)) (V1 := V) rfl ?_
        obtain rfl := Option.some.inj h
        exact rn_ret rfl rfl rfl
    · refine rn_brF rfl rfl rfl rfl hc ?_
      refine rn_go 6 (pc' := 58) (l' := [(0, .ref 0), (1, .int x1), (2, .int x2), (3, .int x3), (4, .int x4), (5, .int x5), (6, .int x6)]) (st' := [.int (3 : Int32), .int x1, .int x6, .ref 5]) (S1 := (SH ++ X)) (V1 := V) rfl ?_
      rcases ai_if h with ⟨hc, h⟩ | ⟨hc, h⟩
      · refine rn_brT rfl rfl rfl rfl hc ?_
        exact rn_sub [0, 1, 2, 3, 4, 5, 6] rfl rfl (t_X_sheet_81 (X := X) hd (d_X_sheet_35 n) (ih) x1 x2 x3 x4 x5 x6 x6 V _ h)
      · refine rn_brF rfl rfl rfl rfl hc ?_
        refine rn_go 2 (pc' := 64) (l' := [(0, .ref 0), (1, .int x1), (2, .int x2), (3, .int x3), (4, .int x4), (5, .int x5), (6, .int x6)]) (st' := [.int x2, .int x6, .int x6, .ref 5]) (S1 := (SH ++ X)) (V1 := V) rfl ?_
        rcases ai_if h with ⟨hc, h⟩ | ⟨hc, h⟩
        · refine rn_brT rfl rfl rfl rfl hc ?_
          exact rn_sub [0, 1, 2, 3, 4, 5, 6] rfl rfl (t_X_sheet_81 (X := X) hd (d_X_sheet_35 n) (ih) x1 x2 x3 x4 x5 x6 x6 V _ h)
        · refine rn_brF rfl rfl rfl rfl hc ?_
          refine rn_go 6 (pc' := 75) (l' := [(0, .ref 0), (1, .int x1), (2, .int x2), (3, .int x3), (4, .int x4), (5, .int x5), (6, .int x6)]) (st' := [.int (x3 + (x6 * x4)), .int x1, .int x6, .ref 5]) (S1 := (SH ++ X)) (V1 := V) rfl ?_
          obtain ⟨q1, hq1, h⟩ := ai_bd h
          refine rn_call rfl rfl rfl rfl rfl rfl (by omega) (t_X_paceTold (by omega) hq1) ?_
          refine rn_go 1 (pc' := 82) (l' := [(0, .ref 0), (1, .int x1), (2, .int x2), (3, .int x3), (4, .int x4), (5, .int x5), (6, .int x6)]) (st' := [.int q1, .int x6, .ref 5]) (S1 := (SH ++ X)) (V1 := V) rfl ?_
          exact rn_sub [0, 1, 2, 3, 4, 5, 6] rfl rfl (t_X_sheet_82 (X := X) hd (d_X_sheet_35 n) (ih) x1 x2 x3 x4 x5 x6 q1 x6 V _ h)
def d_X_sheet_29  (x1 : Int32) (x2 : Int32) (x3 : Int32) (x4 : Int32) (V : ai_V) : Option (Int32 × ai_V) :=
  d_X_sheet_35 ai_N x1 x2 x3 x4 (0 : Int32) (0 : Int32) V
set_option maxRecDepth 20000 in
theorem t_X_sheet_29 {X : ai_S} {e : Nat} (hd : 1 ≤ e)  (x1 : Int32) (x2 : Int32) (x3 : Int32) (x4 : Int32) (V : ai_V) (r : (Int32 × ai_V)) (h : d_X_sheet_29  x1 x2 x3 x4 V = some r) : Rn e 105 29 [(0, .ref 0), (1, .int x1), (2, .int x2), (3, .int x3), (4, .int x4)] [] (SH ++ X) V (some (.int r.1)) (SH ++ X) r.2 := by
  rw [d_X_sheet_29] at h
  refine rn_go 4 (pc' := 35) (l' := [(6, .int (0 : Int32)), (5, .int (0 : Int32)), (0, .ref 0), (1, .int x1), (2, .int x2), (3, .int x3), (4, .int x4)]) (st' := []) (S1 := (SH ++ X)) (V1 := V) rfl ?_
  exact rn_sub [2, 3, 4, 5, 6, 1, 0] rfl rfl (t_X_sheet_35 (X := X) hd ai_N x1 x2 x3 x4 (0 : Int32) (0 : Int32) V _ h)
def d_X_sheet (x1 : Int32) (x2 : Int32) (x3 : Int32) (x4 : Int32) (V : ai_V) : Option (Int32 × ai_V) :=
  if x1 < 0 then (some ((-1 : Int32), V)) else (if (3 : Int32) < x1 then (some ((-1 : Int32), V)) else (if x2 ≤ (6 : Int32) then (if (3 : Int32) ≤ x1 then (d_X_sheet_29 x1 x2 x3 x4 V) else (if 0 ≤ x2 then (d_X_sheet_29 x1 x2 x3 x4 V) else (some ((-2 : Int32), V)))) else (some ((-1 : Int32), V))))
set_option maxRecDepth 20000 in
theorem t_X_sheet {X : ai_S} {e : Nat} (hd : 1 ≤ e) {x1 : Int32} {x2 : Int32} {x3 : Int32} {x4 : Int32} {V : ai_V} {r : (Int32 × ai_V)} (h : d_X_sheet x1 x2 x3 x4 V = some r) : Rn e 105 0 (lv_args 0 [.ref 0, .int x1, .int x2, .int x3, .int x4]) [] (SH ++ X) V (some (.int r.1)) (SH ++ X) r.2 := by
  rw [d_X_sheet] at h
  refine rn_go 1 (pc' := 1) (l' := [(0, .ref 0), (1, .int x1), (2, .int x2), (3, .int x3), (4, .int x4)]) (st' := [.int x1]) (S1 := (SH ++ X)) (V1 := V) rfl ?_
  rcases ai_if h with ⟨hc, h⟩ | ⟨hc, h⟩
  · refine rn_brT rfl rfl rfl rfl hc ?_
    refine rn_go 1 (pc' := 16) (l' := [(0, .ref 0), (1, .int x1), (2, .int x2), (3, .int x3), (4, .int x4)]) (st' := [.int (-1 : Int32)]) (S1 := (SH ++ X)) (V1 := V) rfl ?_
    obtain rfl := Option.some.inj h
    exact rn_ret rfl rfl rfl
  · refine rn_brF rfl rfl rfl rfl hc ?_
    refine rn_go 2 (pc' := 6) (l' := [(0, .ref 0), (1, .int x1), (2, .int x2), (3, .int x3), (4, .int x4)]) (st' := [.int (3 : Int32), .int x1]) (S1 := (SH ++ X)) (V1 := V) rfl ?_
    rcases ai_if h with ⟨hc, h⟩ | ⟨hc, h⟩
    · refine rn_brT rfl rfl rfl rfl hc ?_
      refine rn_go 1 (pc' := 16) (l' := [(0, .ref 0), (1, .int x1), (2, .int x2), (3, .int x3), (4, .int x4)]) (st' := [.int (-1 : Int32)]) (S1 := (SH ++ X)) (V1 := V) rfl ?_
      obtain rfl := Option.some.inj h
      exact rn_ret rfl rfl rfl
    · refine rn_brF rfl rfl rfl rfl hc ?_
      refine rn_go 2 (pc' := 12) (l' := [(0, .ref 0), (1, .int x1), (2, .int x2), (3, .int x3), (4, .int x4)]) (st' := [.int (6 : Int32), .int x2]) (S1 := (SH ++ X)) (V1 := V) rfl ?_
      rcases ai_if h with ⟨hc, h⟩ | ⟨hc, h⟩
      · refine rn_brT rfl rfl rfl rfl hc ?_
        refine rn_go 2 (pc' := 19) (l' := [(0, .ref 0), (1, .int x1), (2, .int x2), (3, .int x3), (4, .int x4)]) (st' := [.int (3 : Int32), .int x1]) (S1 := (SH ++ X)) (V1 := V) rfl ?_
        rcases ai_if h with ⟨hc, h⟩ | ⟨hc, h⟩
        · refine rn_brT rfl rfl rfl rfl hc ?_
          exact rn_sub [0, 1, 2, 3, 4] rfl rfl (t_X_sheet_29 (X := X) hd x1 x2 x3 x4 V _ h)
        · refine rn_brF rfl rfl rfl rfl hc ?_
          refine rn_go 1 (pc' := 23) (l' := [(0, .ref 0), (1, .int x1), (2, .int x2), (3, .int x3), (4, .int x4)]) (st' := [.int x2]) (S1 := (SH ++ X)) (V1 := V) rfl ?_
          rcases ai_if h with ⟨hc, h⟩ | ⟨hc, h⟩
          · refine rn_brT rfl rfl rfl rfl hc ?_
            exact rn_sub [0, 1, 2, 3, 4] rfl rfl (t_X_sheet_29 (X := X) hd x1 x2 x3 x4 V _ h)
          · refine rn_brF rfl rfl rfl rfl hc ?_
            refine rn_go 1 (pc' := 28) (l' := [(0, .ref 0), (1, .int x1), (2, .int x2), (3, .int x3), (4, .int x4)]) (st' := [.int (-2 : Int32)]) (S1 := (SH ++ X)) (V1 := V) rfl ?_
            obtain rfl := Option.some.inj h
            exact rn_ret rfl rfl rfl
      · refine rn_brF rfl rfl rfl rfl hc ?_
        refine rn_go 1 (pc' := 16) (l' := [(0, .ref 0), (1, .int x1), (2, .int x2), (3, .int x3), (4, .int x4)]) (st' := [.int (-1 : Int32)]) (S1 := (SH ++ X)) (V1 := V) rfl ?_
        obtain rfl := Option.some.inj h
        exact rn_ret rfl rfl rfl
-- RentByTheWheel$State.becomes(LRentByTheWheel$State;)V (59, 16)
def d_State_becomes_25  : Nat → Int32 → ai_V → Option ai_V
  | 0, _, _ => none
  | n + 1, x2, V => if (6 : Int32) ≤ x2 then (some V) else (if ai_in x2 6 then (if ai_in x2 6 then (if ai_in x2 6 then (if ai_in x2 6 then (d_State_becomes_25 n (x2 + (1 : Int32)) (sa (sa V 60 (x2).toNatClampNeg (ga V 17 (x2).toNatClampNeg)) 61 (x2).toNatClampNeg (ga (sa V 60 (x2).toNatClampNeg (ga V 17 (x2).toNatClampNeg)) 18 (x2).toNatClampNeg))) else none) else none) else none) else none)
set_option maxRecDepth 20000 in
theorem t_State_becomes_25 {X : ai_S} {e : Nat} (hd : 0 ≤ e)  : ∀ (n : Nat) (x2 : Int32) (V : ai_V) (r : ai_V), d_State_becomes_25  n x2 V = some r → Rn e 44 25 [(0, .ref 59), (1, .ref 16), (2, .int x2)] [] (SH ++ X) V none (SH ++ X) r := by
  intro n
  induction n with
  | zero =>
    intro x2 V r h
    cases h
  | succ n ih =>
    intro x2 V r h
    rw [d_State_becomes_25] at h
    refine rn_go 2 (pc' := 28) (l' := [(0, .ref 59), (1, .ref 16), (2, .int x2)]) (st' := [.int (6 : Int32), .int x2]) (S1 := (SH ++ X)) (V1 := V) rfl ?_
    rcases ai_if h with ⟨hc, h⟩ | ⟨hc, h⟩
    · refine rn_brT rfl rfl rfl rfl hc ?_
      obtain rfl := Option.some.inj h
      exact rn_ret rfl rfl rfl
    · refine rn_brF rfl rfl rfl rfl hc ?_
      refine rn_go 6 (pc' := 41) (l' := [(0, .ref 59), (1, .ref 16), (2, .int x2)]) (st' := [.int x2, .ref 17, .int x2, .ref 60]) (S1 := (SH ++ X)) (V1 := V) rfl ?_
      obtain ⟨hg, h⟩ := ai_gd h
      refine rg_iald (n := 6) rfl rfl hg ?_
      obtain ⟨hg, h⟩ := ai_gd h
      refine rg_iast (n := 6) rfl rfl hg ?_
      refine rn_go 6 (pc' := 53) (l' := [(0, .ref 59), (1, .ref 16), (2, .int x2)]) (st' := [.int x2, .ref 18, .int x2, .ref 61]) (S1 := (SH ++ X)) (V1 := (sa V 60 (x2).toNatClampNeg (ga V 17 (x2).toNatClampNeg))) rfl ?_
      obtain ⟨hg, h⟩ := ai_gd h
      refine rg_iald (n := 6) rfl rfl hg ?_
      obtain ⟨hg, h⟩ := ai_gd h
      refine rg_iast (n := 6) rfl rfl hg ?_
      refine rn_go 2 (pc' := 25) (l' := [(2, .int (x2 + (1 : Int32))), (0, .ref 59), (1, .ref 16)]) (st' := []) (S1 := (SH ++ X)) (V1 := (sa (sa V 60 (x2).toNatClampNeg (ga V 17 (x2).toNatClampNeg)) 61 (x2).toNatClampNeg (ga (sa V 60 (x2).toNatClampNeg (ga V 17 (x2).toNatClampNeg)) 18 (x2).toNatClampNeg))) rfl ?_
      exact rn_sub [1, 2, 0] rfl rfl (ih (x2 + (1 : Int32)) (sa (sa V 60 (x2).toNatClampNeg (ga V 17 (x2).toNatClampNeg)) 61 (x2).toNatClampNeg (ga (sa V 60 (x2).toNatClampNeg (ga V 17 (x2).toNatClampNeg)) 18 (x2).toNatClampNeg)) _ h)
def d_State_becomes  (V : ai_V) : Option ai_V :=
  d_State_becomes_25 ai_N (0 : Int32) (si (si V 59 0 (gi V 16 0)) 59 1 (ai_min (gi (si V 59 0 (gi V 16 0)) 16 1) (gi (si V 59 0 (gi V 16 0)) 59 2)))
set_option maxRecDepth 20000 in
theorem t_State_becomes {X : ai_S} {e : Nat} (hd : 0 ≤ e)  {V : ai_V} {r : ai_V} (h : d_State_becomes  V = some r) : Rn e 44 0 (lv_args 0 [.ref 59, .ref 16]) [] (SH ++ X) V none (SH ++ X) r := by
  rw [d_State_becomes] at h
  refine rn_go 13 (pc' := 25) (l' := [(2, .int (0 : Int32)), (0, .ref 59), (1, .ref 16)]) (st' := []) (S1 := (SH ++ X)) (V1 := (si (si V 59 0 (gi V 16 0)) 59 1 (ai_min (gi (si V 59 0 (gi V 16 0)) 16 1) (gi (si V 59 0 (gi V 16 0)) 59 2)))) rfl ?_
  exact rn_sub [1, 2, 0] rfl rfl (t_State_becomes_25 (X := X) hd ai_N (0 : Int32) (si (si V 59 0 (gi V 16 0)) 59 1 (ai_min (gi (si V 59 0 (gi V 16 0)) 16 1) (gi (si V 59 0 (gi V 16 0)) 59 2))) _ h)
-- RentByTheWheel$State.becomes(LRentByTheWheel$State;)V (56, 16)
def d_State_becomes_56_16_25  : Nat → Int32 → ai_V → Option ai_V
  | 0, _, _ => none
  | n + 1, x2, V => if (6 : Int32) ≤ x2 then (some V) else (if ai_in x2 6 then (if ai_in x2 6 then (if ai_in x2 6 then (if ai_in x2 6 then (d_State_becomes_56_16_25 n (x2 + (1 : Int32)) (sa (sa V 57 (x2).toNatClampNeg (ga V 17 (x2).toNatClampNeg)) 58 (x2).toNatClampNeg (ga (sa V 57 (x2).toNatClampNeg (ga V 17 (x2).toNatClampNeg)) 18 (x2).toNatClampNeg))) else none) else none) else none) else none)
set_option maxRecDepth 20000 in
theorem t_State_becomes_56_16_25 {X : ai_S} {e : Nat} (hd : 0 ≤ e)  : ∀ (n : Nat) (x2 : Int32) (V : ai_V) (r : ai_V), d_State_becomes_56_16_25  n x2 V = some r → Rn e 44 25 [(0, .ref 56), (1, .ref 16), (2, .int x2)] [] (SH ++ X) V none (SH ++ X) r := by
  intro n
  induction n with
  | zero =>
    intro x2 V r h
    cases h
  | succ n ih =>
    intro x2 V r h
    rw [d_State_becomes_56_16_25] at h
    refine rn_go 2 (pc' := 28) (l' := [(0, .ref 56), (1, .ref 16), (2, .int x2)]) (st' := [.int (6 : Int32), .int x2]) (S1 := (SH ++ X)) (V1 := V) rfl ?_
    rcases ai_if h with ⟨hc, h⟩ | ⟨hc, h⟩
    · refine rn_brT rfl rfl rfl rfl hc ?_
      obtain rfl := Option.some.inj h
      exact rn_ret rfl rfl rfl
    · refine rn_brF rfl rfl rfl rfl hc ?_
      refine rn_go 6 (pc' := 41) (l' := [(0, .ref 56), (1, .ref 16), (2, .int x2)]) (st' := [.int x2, .ref 17, .int x2, .ref 57]) (S1 := (SH ++ X)) (V1 := V) rfl ?_
      obtain ⟨hg, h⟩ := ai_gd h
      refine rg_iald (n := 6) rfl rfl hg ?_
      obtain ⟨hg, h⟩ := ai_gd h
      refine rg_iast (n := 6) rfl rfl hg ?_
      refine rn_go 6 (pc' := 53) (l' := [(0, .ref 56), (1, .ref 16), (2, .int x2)]) (st' := [.int x2, .ref 18, .int x2, .ref 58]) (S1 := (SH ++ X)) (V1 := (sa V 57 (x2).toNatClampNeg (ga V 17 (x2).toNatClampNeg))) rfl ?_
      obtain ⟨hg, h⟩ := ai_gd h
      refine rg_iald (n := 6) rfl rfl hg ?_
      obtain ⟨hg, h⟩ := ai_gd h
      refine rg_iast (n := 6) rfl rfl hg ?_
      refine rn_go 2 (pc' := 25) (l' := [(2, .int (x2 + (1 : Int32))), (0, .ref 56), (1, .ref 16)]) (st' := []) (S1 := (SH ++ X)) (V1 := (sa (sa V 57 (x2).toNatClampNeg (ga V 17 (x2).toNatClampNeg)) 58 (x2).toNatClampNeg (ga (sa V 57 (x2).toNatClampNeg (ga V 17 (x2).toNatClampNeg)) 18 (x2).toNatClampNeg))) rfl ?_
      exact rn_sub [1, 2, 0] rfl rfl (ih (x2 + (1 : Int32)) (sa (sa V 57 (x2).toNatClampNeg (ga V 17 (x2).toNatClampNeg)) 58 (x2).toNatClampNeg (ga (sa V 57 (x2).toNatClampNeg (ga V 17 (x2).toNatClampNeg)) 18 (x2).toNatClampNeg)) _ h)
def d_State_becomes_56_16  (V : ai_V) : Option ai_V :=
  d_State_becomes_56_16_25 ai_N (0 : Int32) (si (si V 56 0 (gi V 16 0)) 56 1 (ai_min (gi (si V 56 0 (gi V 16 0)) 16 1) (gi (si V 56 0 (gi V 16 0)) 56 2)))
set_option maxRecDepth 20000 in
theorem t_State_becomes_56_16 {X : ai_S} {e : Nat} (hd : 0 ≤ e)  {V : ai_V} {r : ai_V} (h : d_State_becomes_56_16  V = some r) : Rn e 44 0 (lv_args 0 [.ref 56, .ref 16]) [] (SH ++ X) V none (SH ++ X) r := by
  rw [d_State_becomes_56_16] at h
  refine rn_go 13 (pc' := 25) (l' := [(2, .int (0 : Int32)), (0, .ref 56), (1, .ref 16)]) (st' := []) (S1 := (SH ++ X)) (V1 := (si (si V 56 0 (gi V 16 0)) 56 1 (ai_min (gi (si V 56 0 (gi V 16 0)) 16 1) (gi (si V 56 0 (gi V 16 0)) 56 2)))) rfl ?_
  exact rn_sub [1, 2, 0] rfl rfl (t_State_becomes_56_16_25 (X := X) hd ai_N (0 : Int32) (si (si V 56 0 (gi V 16 0)) 56 1 (ai_min (gi (si V 56 0 (gi V 16 0)) 16 1) (gi (si V 56 0 (gi V 16 0)) 56 2))) _ h)
-- RentByTheWheel$State.becomes(LRentByTheWheel$State;)V (53, 16)
def d_State_becomes_53_16_25  : Nat → Int32 → ai_V → Option ai_V
  | 0, _, _ => none
  | n + 1, x2, V => if (6 : Int32) ≤ x2 then (some V) else (if ai_in x2 6 then (if ai_in x2 6 then (if ai_in x2 6 then (if ai_in x2 6 then (d_State_becomes_53_16_25 n (x2 + (1 : Int32)) (sa (sa V 54 (x2).toNatClampNeg (ga V 17 (x2).toNatClampNeg)) 55 (x2).toNatClampNeg (ga (sa V 54 (x2).toNatClampNeg (ga V 17 (x2).toNatClampNeg)) 18 (x2).toNatClampNeg))) else none) else none) else none) else none)
set_option maxRecDepth 20000 in
theorem t_State_becomes_53_16_25 {X : ai_S} {e : Nat} (hd : 0 ≤ e)  : ∀ (n : Nat) (x2 : Int32) (V : ai_V) (r : ai_V), d_State_becomes_53_16_25  n x2 V = some r → Rn e 44 25 [(0, .ref 53), (1, .ref 16), (2, .int x2)] [] (SH ++ X) V none (SH ++ X) r := by
  intro n
  induction n with
  | zero =>
    intro x2 V r h
    cases h
  | succ n ih =>
    intro x2 V r h
    rw [d_State_becomes_53_16_25] at h
    refine rn_go 2 (pc' := 28) (l' := [(0, .ref 53), (1, .ref 16), (2, .int x2)]) (st' := [.int (6 : Int32), .int x2]) (S1 := (SH ++ X)) (V1 := V) rfl ?_
    rcases ai_if h with ⟨hc, h⟩ | ⟨hc, h⟩
    · refine rn_brT rfl rfl rfl rfl hc ?_
      obtain rfl := Option.some.inj h
      exact rn_ret rfl rfl rfl
    · refine rn_brF rfl rfl rfl rfl hc ?_
      refine rn_go 6 (pc' := 41) (l' := [(0, .ref 53), (1, .ref 16), (2, .int x2)]) (st' := [.int x2, .ref 17, .int x2, .ref 54]) (S1 := (SH ++ X)) (V1 := V) rfl ?_
      obtain ⟨hg, h⟩ := ai_gd h
      refine rg_iald (n := 6) rfl rfl hg ?_
      obtain ⟨hg, h⟩ := ai_gd h
      refine rg_iast (n := 6) rfl rfl hg ?_
      refine rn_go 6 (pc' := 53) (l' := [(0, .ref 53), (1, .ref 16), (2, .int x2)]) (st' := [.int x2, .ref 18, .int x2, .ref 55]) (S1 := (SH ++ X)) (V1 := (sa V 54 (x2).toNatClampNeg (ga V 17 (x2).toNatClampNeg))) rfl ?_
      obtain ⟨hg, h⟩ := ai_gd h
      refine rg_iald (n := 6) rfl rfl hg ?_
      obtain ⟨hg, h⟩ := ai_gd h
      refine rg_iast (n := 6) rfl rfl hg ?_
      refine rn_go 2 (pc' := 25) (l' := [(2, .int (x2 + (1 : Int32))), (0, .ref 53), (1, .ref 16)]) (st' := []) (S1 := (SH ++ X)) (V1 := (sa (sa V 54 (x2).toNatClampNeg (ga V 17 (x2).toNatClampNeg)) 55 (x2).toNatClampNeg (ga (sa V 54 (x2).toNatClampNeg (ga V 17 (x2).toNatClampNeg)) 18 (x2).toNatClampNeg))) rfl ?_
      exact rn_sub [1, 2, 0] rfl rfl (ih (x2 + (1 : Int32)) (sa (sa V 54 (x2).toNatClampNeg (ga V 17 (x2).toNatClampNeg)) 55 (x2).toNatClampNeg (ga (sa V 54 (x2).toNatClampNeg (ga V 17 (x2).toNatClampNeg)) 18 (x2).toNatClampNeg)) _ h)
def d_State_becomes_53_16  (V : ai_V) : Option ai_V :=
  d_State_becomes_53_16_25 ai_N (0 : Int32) (si (si V 53 0 (gi V 16 0)) 53 1 (ai_min (gi (si V 53 0 (gi V 16 0)) 16 1) (gi (si V 53 0 (gi V 16 0)) 53 2)))
set_option maxRecDepth 20000 in
theorem t_State_becomes_53_16 {X : ai_S} {e : Nat} (hd : 0 ≤ e)  {V : ai_V} {r : ai_V} (h : d_State_becomes_53_16  V = some r) : Rn e 44 0 (lv_args 0 [.ref 53, .ref 16]) [] (SH ++ X) V none (SH ++ X) r := by
  rw [d_State_becomes_53_16] at h
  refine rn_go 13 (pc' := 25) (l' := [(2, .int (0 : Int32)), (0, .ref 53), (1, .ref 16)]) (st' := []) (S1 := (SH ++ X)) (V1 := (si (si V 53 0 (gi V 16 0)) 53 1 (ai_min (gi (si V 53 0 (gi V 16 0)) 16 1) (gi (si V 53 0 (gi V 16 0)) 53 2)))) rfl ?_
  exact rn_sub [1, 2, 0] rfl rfl (t_State_becomes_53_16_25 (X := X) hd ai_N (0 : Int32) (si (si V 53 0 (gi V 16 0)) 53 1 (ai_min (gi (si V 53 0 (gi V 16 0)) 16 1) (gi (si V 53 0 (gi V 16 0)) 53 2))) _ h)
-- RentByTheWheel$State.becomes(LRentByTheWheel$State;)V (50, 16)
def d_State_becomes_50_16_25  : Nat → Int32 → ai_V → Option ai_V
  | 0, _, _ => none
  | n + 1, x2, V => if (6 : Int32) ≤ x2 then (some V) else (if ai_in x2 6 then (if ai_in x2 6 then (if ai_in x2 6 then (if ai_in x2 6 then (d_State_becomes_50_16_25 n (x2 + (1 : Int32)) (sa (sa V 51 (x2).toNatClampNeg (ga V 17 (x2).toNatClampNeg)) 52 (x2).toNatClampNeg (ga (sa V 51 (x2).toNatClampNeg (ga V 17 (x2).toNatClampNeg)) 18 (x2).toNatClampNeg))) else none) else none) else none) else none)
set_option maxRecDepth 20000 in
theorem t_State_becomes_50_16_25 {X : ai_S} {e : Nat} (hd : 0 ≤ e)  : ∀ (n : Nat) (x2 : Int32) (V : ai_V) (r : ai_V), d_State_becomes_50_16_25  n x2 V = some r → Rn e 44 25 [(0, .ref 50), (1, .ref 16), (2, .int x2)] [] (SH ++ X) V none (SH ++ X) r := by
  intro n
  induction n with
  | zero =>
    intro x2 V r h
    cases h
  | succ n ih =>
    intro x2 V r h
    rw [d_State_becomes_50_16_25] at h
    refine rn_go 2 (pc' := 28) (l' := [(0, .ref 50), (1, .ref 16), (2, .int x2)]) (st' := [.int (6 : Int32), .int x2]) (S1 := (SH ++ X)) (V1 := V) rfl ?_
    rcases ai_if h with ⟨hc, h⟩ | ⟨hc, h⟩
    · refine rn_brT rfl rfl rfl rfl hc ?_
      obtain rfl := Option.some.inj h
      exact rn_ret rfl rfl rfl
    · refine rn_brF rfl rfl rfl rfl hc ?_
      refine rn_go 6 (pc' := 41) (l' := [(0, .ref 50), (1, .ref 16), (2, .int x2)]) (st' := [.int x2, .ref 17, .int x2, .ref 51]) (S1 := (SH ++ X)) (V1 := V) rfl ?_
      obtain ⟨hg, h⟩ := ai_gd h
      refine rg_iald (n := 6) rfl rfl hg ?_
      obtain ⟨hg, h⟩ := ai_gd h
      refine rg_iast (n := 6) rfl rfl hg ?_
      refine rn_go 6 (pc' := 53) (l' := [(0, .ref 50), (1, .ref 16), (2, .int x2)]) (st' := [.int x2, .ref 18, .int x2, .ref 52]) (S1 := (SH ++ X)) (V1 := (sa V 51 (x2).toNatClampNeg (ga V 17 (x2).toNatClampNeg))) rfl ?_
      obtain ⟨hg, h⟩ := ai_gd h
      refine rg_iald (n := 6) rfl rfl hg ?_
      obtain ⟨hg, h⟩ := ai_gd h
      refine rg_iast (n := 6) rfl rfl hg ?_
      refine rn_go 2 (pc' := 25) (l' := [(2, .int (x2 + (1 : Int32))), (0, .ref 50), (1, .ref 16)]) (st' := []) (S1 := (SH ++ X)) (V1 := (sa (sa V 51 (x2).toNatClampNeg (ga V 17 (x2).toNatClampNeg)) 52 (x2).toNatClampNeg (ga (sa V 51 (x2).toNatClampNeg (ga V 17 (x2).toNatClampNeg)) 18 (x2).toNatClampNeg))) rfl ?_
      exact rn_sub [1, 2, 0] rfl rfl (ih (x2 + (1 : Int32)) (sa (sa V 51 (x2).toNatClampNeg (ga V 17 (x2).toNatClampNeg)) 52 (x2).toNatClampNeg (ga (sa V 51 (x2).toNatClampNeg (ga V 17 (x2).toNatClampNeg)) 18 (x2).toNatClampNeg)) _ h)
def d_State_becomes_50_16  (V : ai_V) : Option ai_V :=
  d_State_becomes_50_16_25 ai_N (0 : Int32) (si (si V 50 0 (gi V 16 0)) 50 1 (ai_min (gi (si V 50 0 (gi V 16 0)) 16 1) (gi (si V 50 0 (gi V 16 0)) 50 2)))
set_option maxRecDepth 20000 in
theorem t_State_becomes_50_16 {X : ai_S} {e : Nat} (hd : 0 ≤ e)  {V : ai_V} {r : ai_V} (h : d_State_becomes_50_16  V = some r) : Rn e 44 0 (lv_args 0 [.ref 50, .ref 16]) [] (SH ++ X) V none (SH ++ X) r := by
  rw [d_State_becomes_50_16] at h
  refine rn_go 13 (pc' := 25) (l' := [(2, .int (0 : Int32)), (0, .ref 50), (1, .ref 16)]) (st' := []) (S1 := (SH ++ X)) (V1 := (si (si V 50 0 (gi V 16 0)) 50 1 (ai_min (gi (si V 50 0 (gi V 16 0)) 16 1) (gi (si V 50 0 (gi V 16 0)) 50 2)))) rfl ?_
  exact rn_sub [1, 2, 0] rfl rfl (t_State_becomes_50_16_25 (X := X) hd ai_N (0 : Int32) (si (si V 50 0 (gi V 16 0)) 50 1 (ai_min (gi (si V 50 0 (gi V 16 0)) 16 1) (gi (si V 50 0 (gi V 16 0)) 50 2))) _ h)
-- RentByTheWheel$State.becomes(LRentByTheWheel$State;)V (47, 16)
def d_State_becomes_47_16_25  : Nat → Int32 → ai_V → Option ai_V
  | 0, _, _ => none
  | n + 1, x2, V => if (6 : Int32) ≤ x2 then (some V) else (if ai_in x2 6 then (if ai_in x2 6 then (if ai_in x2 6 then (if ai_in x2 6 then (d_State_becomes_47_16_25 n (x2 + (1 : Int32)) (sa (sa V 48 (x2).toNatClampNeg (ga V 17 (x2).toNatClampNeg)) 49 (x2).toNatClampNeg (ga (sa V 48 (x2).toNatClampNeg (ga V 17 (x2).toNatClampNeg)) 18 (x2).toNatClampNeg))) else none) else none) else none) else none)
set_option maxRecDepth 20000 in
theorem t_State_becomes_47_16_25 {X : ai_S} {e : Nat} (hd : 0 ≤ e)  : ∀ (n : Nat) (x2 : Int32) (V : ai_V) (r : ai_V), d_State_becomes_47_16_25  n x2 V = some r → Rn e 44 25 [(0, .ref 47), (1, .ref 16), (2, .int x2)] [] (SH ++ X) V none (SH ++ X) r := by
  intro n
  induction n with
  | zero =>
    intro x2 V r h
    cases h
  | succ n ih =>
    intro x2 V r h
    rw [d_State_becomes_47_16_25] at h
    refine rn_go 2 (pc' := 28) (l' := [(0, .ref 47), (1, .ref 16), (2, .int x2)]) (st' := [.int (6 : Int32), .int x2]) (S1 := (SH ++ X)) (V1 := V) rfl ?_
    rcases ai_if h with ⟨hc, h⟩ | ⟨hc, h⟩
    · refine rn_brT rfl rfl rfl rfl hc ?_
      obtain rfl := Option.some.inj h
      exact rn_ret rfl rfl rfl
    · refine rn_brF rfl rfl rfl rfl hc ?_
      refine rn_go 6 (pc' := 41) (l' := [(0, .ref 47), (1, .ref 16), (2, .int x2)]) (st' := [.int x2, .ref 17, .int x2, .ref 48]) (S1 := (SH ++ X)) (V1 := V) rfl ?_
      obtain ⟨hg, h⟩ := ai_gd h
      refine rg_iald (n := 6) rfl rfl hg ?_
      obtain ⟨hg, h⟩ := ai_gd h
      refine rg_iast (n := 6) rfl rfl hg ?_
      refine rn_go 6 (pc' := 53) (l' := [(0, .ref 47), (1, .ref 16), (2, .int x2)]) (st' := [.int x2, .ref 18, .int x2, .ref 49]) (S1 := (SH ++ X)) (V1 := (sa V 48 (x2).toNatClampNeg (ga V 17 (x2).toNatClampNeg))) rfl ?_
      obtain ⟨hg, h⟩ := ai_gd h
      refine rg_iald (n := 6) rfl rfl hg ?_
      obtain ⟨hg, h⟩ := ai_gd h
      refine rg_iast (n := 6) rfl rfl hg ?_
      refine rn_go 2 (pc' := 25) (l' := [(2, .int (x2 + (1 : Int32))), (0, .ref 47), (1, .ref 16)]) (st' := []) (S1 := (SH ++ X)) (V1 := (sa (sa V 48 (x2).toNatClampNeg (ga V 17 (x2).toNatClampNeg)) 49 (x2).toNatClampNeg (ga (sa V 48 (x2).toNatClampNeg (ga V 17 (x2).toNatClampNeg)) 18 (x2).toNatClampNeg))) rfl ?_
      exact rn_sub [1, 2, 0] rfl rfl (ih (x2 + (1 : Int32)) (sa (sa V 48 (x2).toNatClampNeg (ga V 17 (x2).toNatClampNeg)) 49 (x2).toNatClampNeg (ga (sa V 48 (x2).toNatClampNeg (ga V 17 (x2).toNatClampNeg)) 18 (x2).toNatClampNeg)) _ h)
def d_State_becomes_47_16  (V : ai_V) : Option ai_V :=
  d_State_becomes_47_16_25 ai_N (0 : Int32) (si (si V 47 0 (gi V 16 0)) 47 1 (ai_min (gi (si V 47 0 (gi V 16 0)) 16 1) (gi (si V 47 0 (gi V 16 0)) 47 2)))
set_option maxRecDepth 20000 in
theorem t_State_becomes_47_16 {X : ai_S} {e : Nat} (hd : 0 ≤ e)  {V : ai_V} {r : ai_V} (h : d_State_becomes_47_16  V = some r) : Rn e 44 0 (lv_args 0 [.ref 47, .ref 16]) [] (SH ++ X) V none (SH ++ X) r := by
  rw [d_State_becomes_47_16] at h
  refine rn_go 13 (pc' := 25) (l' := [(2, .int (0 : Int32)), (0, .ref 47), (1, .ref 16)]) (st' := []) (S1 := (SH ++ X)) (V1 := (si (si V 47 0 (gi V 16 0)) 47 1 (ai_min (gi (si V 47 0 (gi V 16 0)) 16 1) (gi (si V 47 0 (gi V 16 0)) 47 2)))) rfl ?_
  exact rn_sub [1, 2, 0] rfl rfl (t_State_becomes_47_16_25 (X := X) hd ai_N (0 : Int32) (si (si V 47 0 (gi V 16 0)) 47 1 (ai_min (gi (si V 47 0 (gi V 16 0)) 16 1) (gi (si V 47 0 (gi V 16 0)) 47 2))) _ h)
-- RentByTheWheel$State.becomes(LRentByTheWheel$State;)V (44, 16)
def d_State_becomes_44_16_25  : Nat → Int32 → ai_V → Option ai_V
  | 0, _, _ => none
  | n + 1, x2, V => if (6 : Int32) ≤ x2 then (some V) else (if ai_in x2 6 then (if ai_in x2 6 then (if ai_in x2 6 then (if ai_in x2 6 then (d_State_becomes_44_16_25 n (x2 + (1 : Int32)) (sa (sa V 45 (x2).toNatClampNeg (ga V 17 (x2).toNatClampNeg)) 46 (x2).toNatClampNeg (ga (sa V 45 (x2).toNatClampNeg (ga V 17 (x2).toNatClampNeg)) 18 (x2).toNatClampNeg))) else none) else none) else none) else none)
set_option maxRecDepth 20000 in
theorem t_State_becomes_44_16_25 {X : ai_S} {e : Nat} (hd : 0 ≤ e)  : ∀ (n : Nat) (x2 : Int32) (V : ai_V) (r : ai_V), d_State_becomes_44_16_25  n x2 V = some r → Rn e 44 25 [(0, .ref 44), (1, .ref 16), (2, .int x2)] [] (SH ++ X) V none (SH ++ X) r := by
  intro n
  induction n with
  | zero =>
    intro x2 V r h
    cases h
  | succ n ih =>
    intro x2 V r h
    rw [d_State_becomes_44_16_25] at h
    refine rn_go 2 (pc' := 28) (l' := [(0, .ref 44), (1, .ref 16), (2, .int x2)]) (st' := [.int (6 : Int32), .int x2]) (S1 := (SH ++ X)) (V1 := V) rfl ?_
    rcases ai_if h with ⟨hc, h⟩ | ⟨hc, h⟩
    · refine rn_brT rfl rfl rfl rfl hc ?_
      obtain rfl := Option.some.inj h
      exact rn_ret rfl rfl rfl
    · refine rn_brF rfl rfl rfl rfl hc ?_
      refine rn_go 6 (pc' := 41) (l' := [(0, .ref 44), (1, .ref 16), (2, .int x2)]) (st' := [.int x2, .ref 17, .int x2, .ref 45]) (S1 := (SH ++ X)) (V1 := V) rfl ?_
      obtain ⟨hg, h⟩ := ai_gd h
      refine rg_iald (n := 6) rfl rfl hg ?_
      obtain ⟨hg, h⟩ := ai_gd h
      refine rg_iast (n := 6) rfl rfl hg ?_
      refine rn_go 6 (pc' := 53) (l' := [(0, .ref 44), (1, .ref 16), (2, .int x2)]) (st' := [.int x2, .ref 18, .int x2, .ref 46]) (S1 := (SH ++ X)) (V1 := (sa V 45 (x2).toNatClampNeg (ga V 17 (x2).toNatClampNeg))) rfl ?_
      obtain ⟨hg, h⟩ := ai_gd h
      refine rg_iald (n := 6) rfl rfl hg ?_
      obtain ⟨hg, h⟩ := ai_gd h
      refine rg_iast (n := 6) rfl rfl hg ?_
      refine rn_go 2 (pc' := 25) (l' := [(2, .int (x2 + (1 : Int32))), (0, .ref 44), (1, .ref 16)]) (st' := []) (S1 := (SH ++ X)) (V1 := (sa (sa V 45 (x2).toNatClampNeg (ga V 17 (x2).toNatClampNeg)) 46 (x2).toNatClampNeg (ga (sa V 45 (x2).toNatClampNeg (ga V 17 (x2).toNatClampNeg)) 18 (x2).toNatClampNeg))) rfl ?_
      exact rn_sub [1, 2, 0] rfl rfl (ih (x2 + (1 : Int32)) (sa (sa V 45 (x2).toNatClampNeg (ga V 17 (x2).toNatClampNeg)) 46 (x2).toNatClampNeg (ga (sa V 45 (x2).toNatClampNeg (ga V 17 (x2).toNatClampNeg)) 18 (x2).toNatClampNeg)) _ h)
def d_State_becomes_44_16  (V : ai_V) : Option ai_V :=
  d_State_becomes_44_16_25 ai_N (0 : Int32) (si (si V 44 0 (gi V 16 0)) 44 1 (ai_min (gi (si V 44 0 (gi V 16 0)) 16 1) (gi (si V 44 0 (gi V 16 0)) 44 2)))
set_option maxRecDepth 20000 in
theorem t_State_becomes_44_16 {X : ai_S} {e : Nat} (hd : 0 ≤ e)  {V : ai_V} {r : ai_V} (h : d_State_becomes_44_16  V = some r) : Rn e 44 0 (lv_args 0 [.ref 44, .ref 16]) [] (SH ++ X) V none (SH ++ X) r := by
  rw [d_State_becomes_44_16] at h
  refine rn_go 13 (pc' := 25) (l' := [(2, .int (0 : Int32)), (0, .ref 44), (1, .ref 16)]) (st' := []) (S1 := (SH ++ X)) (V1 := (si (si V 44 0 (gi V 16 0)) 44 1 (ai_min (gi (si V 44 0 (gi V 16 0)) 16 1) (gi (si V 44 0 (gi V 16 0)) 44 2)))) rfl ?_
  exact rn_sub [1, 2, 0] rfl rfl (t_State_becomes_44_16_25 (X := X) hd ai_N (0 : Int32) (si (si V 44 0 (gi V 16 0)) 44 1 (ai_min (gi (si V 44 0 (gi V 16 0)) 16 1) (gi (si V 44 0 (gi V 16 0)) 44 2))) _ h)
-- RentByTheWheel$State.becomes(LRentByTheWheel$State;)V (41, 16)
def d_State_becomes_41_16_25  : Nat → Int32 → ai_V → Option ai_V
  | 0, _, _ => none
  | n + 1, x2, V => if (6 : Int32) ≤ x2 then (some V) else (if ai_in x2 6 then (if ai_in x2 6 then (if ai_in x2 6 then (if ai_in x2 6 then (d_State_becomes_41_16_25 n (x2 + (1 : Int32)) (sa (sa V 42 (x2).toNatClampNeg (ga V 17 (x2).toNatClampNeg)) 43 (x2).toNatClampNeg (ga (sa V 42 (x2).toNatClampNeg (ga V 17 (x2).toNatClampNeg)) 18 (x2).toNatClampNeg))) else none) else none) else none) else none)
set_option maxRecDepth 20000 in
theorem t_State_becomes_41_16_25 {X : ai_S} {e : Nat} (hd : 0 ≤ e)  : ∀ (n : Nat) (x2 : Int32) (V : ai_V) (r : ai_V), d_State_becomes_41_16_25  n x2 V = some r → Rn e 44 25 [(0, .ref 41), (1, .ref 16), (2, .int x2)] [] (SH ++ X) V none (SH ++ X) r := by
  intro n
  induction n with
  | zero =>
    intro x2 V r h
    cases h
  | succ n ih =>
    intro x2 V r h
    rw [d_State_becomes_41_16_25] at h
    refine rn_go 2 (pc' := 28) (l' := [(0, .ref 41), (1, .ref 16), (2, .int x2)]) (st' := [.int (6 : Int32), .int x2]) (S1 := (SH ++ X)) (V1 := V) rfl ?_
    rcases ai_if h with ⟨hc, h⟩ | ⟨hc, h⟩
    · refine rn_brT rfl rfl rfl rfl hc ?_
      obtain rfl := Option.some.inj h
      exact rn_ret rfl rfl rfl
    · refine rn_brF rfl rfl rfl rfl hc ?_
      refine rn_go 6 (pc' := 41) (l' := [(0, .ref 41), (1, .ref 16), (2, .int x2)]) (st' := [.int x2, .ref 17, .int x2, .ref 42]) (S1 := (SH ++ X)) (V1 := V) rfl ?_
      obtain ⟨hg, h⟩ := ai_gd h
      refine rg_iald (n := 6) rfl rfl hg ?_
      obtain ⟨hg, h⟩ := ai_gd h
      refine rg_iast (n := 6) rfl rfl hg ?_
      refine rn_go 6 (pc' := 53) (l' := [(0, .ref 41), (1, .ref 16), (2, .int x2)]) (st' := [.int x2, .ref 18, .int x2, .ref 43]) (S1 := (SH ++ X)) (V1 := (sa V 42 (x2).toNatClampNeg (ga V 17 (x2).toNatClampNeg))) rfl ?_
      obtain ⟨hg, h⟩ := ai_gd h
      refine rg_iald (n := 6) rfl rfl hg ?_
      obtain ⟨hg, h⟩ := ai_gd h
      refine rg_iast (n := 6) rfl rfl hg ?_
      refine rn_go 2 (pc' := 25) (l' := [(2, .int (x2 + (1 : Int32))), (0, .ref 41), (1, .ref 16)]) (st' := []) (S1 := (SH ++ X)) (V1 := (sa (sa V 42 (x2).toNatClampNeg (ga V 17 (x2).toNatClampNeg)) 43 (x2).toNatClampNeg (ga (sa V 42 (x2).toNatClampNeg (ga V 17 (x2).toNatClampNeg)) 18 (x2).toNatClampNeg))) rfl ?_
      exact rn_sub [1, 2, 0] rfl rfl (ih (x2 + (1 : Int32)) (sa (sa V 42 (x2).toNatClampNeg (ga V 17 (x2).toNatClampNeg)) 43 (x2).toNatClampNeg (ga (sa V 42 (x2).toNatClampNeg (ga V 17 (x2).toNatClampNeg)) 18 (x2).toNatClampNeg)) _ h)
def d_State_becomes_41_16  (V : ai_V) : Option ai_V :=
  d_State_becomes_41_16_25 ai_N (0 : Int32) (si (si V 41 0 (gi V 16 0)) 41 1 (ai_min (gi (si V 41 0 (gi V 16 0)) 16 1) (gi (si V 41 0 (gi V 16 0)) 41 2)))
set_option maxRecDepth 20000 in
theorem t_State_becomes_41_16 {X : ai_S} {e : Nat} (hd : 0 ≤ e)  {V : ai_V} {r : ai_V} (h : d_State_becomes_41_16  V = some r) : Rn e 44 0 (lv_args 0 [.ref 41, .ref 16]) [] (SH ++ X) V none (SH ++ X) r := by
  rw [d_State_becomes_41_16] at h
  refine rn_go 13 (pc' := 25) (l' := [(2, .int (0 : Int32)), (0, .ref 41), (1, .ref 16)]) (st' := []) (S1 := (SH ++ X)) (V1 := (si (si V 41 0 (gi V 16 0)) 41 1 (ai_min (gi (si V 41 0 (gi V 16 0)) 16 1) (gi (si V 41 0 (gi V 16 0)) 41 2)))) rfl ?_
  exact rn_sub [1, 2, 0] rfl rfl (t_State_becomes_41_16_25 (X := X) hd ai_N (0 : Int32) (si (si V 41 0 (gi V 16 0)) 41 1 (ai_min (gi (si V 41 0 (gi V 16 0)) 16 1) (gi (si V 41 0 (gi V 16 0)) 41 2))) _ h)
-- RentByTheWheel$State.becomes(LRentByTheWheel$State;)V (38, 16)
def d_State_becomes_38_16_25  : Nat → Int32 → ai_V → Option ai_V
  | 0, _, _ => none
  | n + 1, x2, V => if (6 : Int32) ≤ x2 then (some V) else (if ai_in x2 6 then (if ai_in x2 6 then (if ai_in x2 6 then (if ai_in x2 6 then (d_State_becomes_38_16_25 n (x2 + (1 : Int32)) (sa (sa V 39 (x2).toNatClampNeg (ga V 17 (x2).toNatClampNeg)) 40 (x2).toNatClampNeg (ga (sa V 39 (x2).toNatClampNeg (ga V 17 (x2).toNatClampNeg)) 18 (x2).toNatClampNeg))) else none) else none) else none) else none)
set_option maxRecDepth 20000 in
theorem t_State_becomes_38_16_25 {X : ai_S} {e : Nat} (hd : 0 ≤ e)  : ∀ (n : Nat) (x2 : Int32) (V : ai_V) (r : ai_V), d_State_becomes_38_16_25  n x2 V = some r → Rn e 44 25 [(0, .ref 38), (1, .ref 16), (2, .int x2)] [] (SH ++ X) V none (SH ++ X) r := by
  intro n
  induction n with
  | zero =>
    intro x2 V r h
    cases h
  | succ n ih =>
    intro x2 V r h
    rw [d_State_becomes_38_16_25] at h
    refine rn_go 2 (pc' := 28) (l' := [(0, .ref 38), (1, .ref 16), (2, .int x2)]) (st' := [.int (6 : Int32), .int x2]) (S1 := (SH ++ X)) (V1 := V) rfl ?_
    rcases ai_if h with ⟨hc, h⟩ | ⟨hc, h⟩
    · refine rn_brT rfl rfl rfl rfl hc ?_
      obtain rfl := Option.some.inj h
      exact rn_ret rfl rfl rfl
    · refine rn_brF rfl rfl rfl rfl hc ?_
      refine rn_go 6 (pc' := 41) (l' := [(0, .ref 38), (1, .ref 16), (2, .int x2)]) (st' := [.int x2, .ref 17, .int x2, .ref 39]) (S1 := (SH ++ X)) (V1 := V) rfl ?_
      obtain ⟨hg, h⟩ := ai_gd h
      refine rg_iald (n := 6) rfl rfl hg ?_
      obtain ⟨hg, h⟩ := ai_gd h
      refine rg_iast (n := 6) rfl rfl hg ?_
      refine rn_go 6 (pc' := 53) (l' := [(0, .ref 38), (1, .ref 16), (2, .int x2)]) (st' := [.int x2, .ref 18, .int x2, .ref 40]) (S1 := (SH ++ X)) (V1 := (sa V 39 (x2).toNatClampNeg (ga V 17 (x2).toNatClampNeg))) rfl ?_
      obtain ⟨hg, h⟩ := ai_gd h
      refine rg_iald (n := 6) rfl rfl hg ?_
      obtain ⟨hg, h⟩ := ai_gd h
      refine rg_iast (n := 6) rfl rfl hg ?_
      refine rn_go 2 (pc' := 25) (l' := [(2, .int (x2 + (1 : Int32))), (0, .ref 38), (1, .ref 16)]) (st' := []) (S1 := (SH ++ X)) (V1 := (sa (sa V 39 (x2).toNatClampNeg (ga V 17 (x2).toNatClampNeg)) 40 (x2).toNatClampNeg (ga (sa V 39 (x2).toNatClampNeg (ga V 17 (x2).toNatClampNeg)) 18 (x2).toNatClampNeg))) rfl ?_
      exact rn_sub [1, 2, 0] rfl rfl (ih (x2 + (1 : Int32)) (sa (sa V 39 (x2).toNatClampNeg (ga V 17 (x2).toNatClampNeg)) 40 (x2).toNatClampNeg (ga (sa V 39 (x2).toNatClampNeg (ga V 17 (x2).toNatClampNeg)) 18 (x2).toNatClampNeg)) _ h)
def d_State_becomes_38_16  (V : ai_V) : Option ai_V :=
  d_State_becomes_38_16_25 ai_N (0 : Int32) (si (si V 38 0 (gi V 16 0)) 38 1 (ai_min (gi (si V 38 0 (gi V 16 0)) 16 1) (gi (si V 38 0 (gi V 16 0)) 38 2)))
set_option maxRecDepth 20000 in
theorem t_State_becomes_38_16 {X : ai_S} {e : Nat} (hd : 0 ≤ e)  {V : ai_V} {r : ai_V} (h : d_State_becomes_38_16  V = some r) : Rn e 44 0 (lv_args 0 [.ref 38, .ref 16]) [] (SH ++ X) V none (SH ++ X) r := by
  rw [d_State_becomes_38_16] at h
  refine rn_go 13 (pc' := 25) (l' := [(2, .int (0 : Int32)), (0, .ref 38), (1, .ref 16)]) (st' := []) (S1 := (SH ++ X)) (V1 := (si (si V 38 0 (gi V 16 0)) 38 1 (ai_min (gi (si V 38 0 (gi V 16 0)) 16 1) (gi (si V 38 0 (gi V 16 0)) 38 2)))) rfl ?_
  exact rn_sub [1, 2, 0] rfl rfl (t_State_becomes_38_16_25 (X := X) hd ai_N (0 : Int32) (si (si V 38 0 (gi V 16 0)) 38 1 (ai_min (gi (si V 38 0 (gi V 16 0)) 16 1) (gi (si V 38 0 (gi V 16 0)) 38 2))) _ h)
-- RentByTheWheel$State.becomes(LRentByTheWheel$State;)V (35, 16)
def d_State_becomes_35_16_25  : Nat → Int32 → ai_V → Option ai_V
  | 0, _, _ => none
  | n + 1, x2, V => if (6 : Int32) ≤ x2 then (some V) else (if ai_in x2 6 then (if ai_in x2 6 then (if ai_in x2 6 then (if ai_in x2 6 then (d_State_becomes_35_16_25 n (x2 + (1 : Int32)) (sa (sa V 36 (x2).toNatClampNeg (ga V 17 (x2).toNatClampNeg)) 37 (x2).toNatClampNeg (ga (sa V 36 (x2).toNatClampNeg (ga V 17 (x2).toNatClampNeg)) 18 (x2).toNatClampNeg))) else none) else none) else none) else none)
set_option maxRecDepth 20000 in
theorem t_State_becomes_35_16_25 {X : ai_S} {e : Nat} (hd : 0 ≤ e)  : ∀ (n : Nat) (x2 : Int32) (V : ai_V) (r : ai_V), d_State_becomes_35_16_25  n x2 V = some r → Rn e 44 25 [(0, .ref 35), (1, .ref 16), (2, .int x2)] [] (SH ++ X) V none (SH ++ X) r := by
  intro n
  induction n with
  | zero =>
    intro x2 V r h
    cases h
  | succ n ih =>
    intro x2 V r h
    rw [d_State_becomes_35_16_25] at h
    refine rn_go 2 (pc' := 28) (l' := [(0, .ref 35), (1, .ref 16), (2, .int x2)]) (st' := [.int (6 : Int32), .int x2]) (S1 := (SH ++ X)) (V1 := V) rfl ?_
    rcases ai_if h with ⟨hc, h⟩ | ⟨hc, h⟩
    · refine rn_brT rfl rfl rfl rfl hc ?_
      obtain rfl := Option.some.inj h
      exact rn_ret rfl rfl rfl
    · refine rn_brF rfl rfl rfl rfl hc ?_
      refine rn_go 6 (pc' := 41) (l' := [(0, .ref 35), (1, .ref 16), (2, .int x2)]) (st' := [.int x2, .ref 17, .int x2, .ref 36]) (S1 := (SH ++ X)) (V1 := V) rfl ?_
      obtain ⟨hg, h⟩ := ai_gd h
      refine rg_iald (n := 6) rfl rfl hg ?_
      obtain ⟨hg, h⟩ := ai_gd h
      refine rg_iast (n := 6) rfl rfl hg ?_
      refine rn_go 6 (pc' := 53) (l' := [(0, .ref 35), (1, .ref 16), (2, .int x2)]) (st' := [.int x2, .ref 18, .int x2, .ref 37]) (S1 := (SH ++ X)) (V1 := (sa V 36 (x2).toNatClampNeg (ga V 17 (x2).toNatClampNeg))) rfl ?_
      obtain ⟨hg, h⟩ := ai_gd h
      refine rg_iald (n := 6) rfl rfl hg ?_
      obtain ⟨hg, h⟩ := ai_gd h
      refine rg_iast (n := 6) rfl rfl hg ?_
      refine rn_go 2 (pc' := 25) (l' := [(2, .int (x2 + (1 : Int32))), (0, .ref 35), (1, .ref 16)]) (st' := []) (S1 := (SH ++ X)) (V1 := (sa (sa V 36 (x2).toNatClampNeg (ga V 17 (x2).toNatClampNeg)) 37 (x2).toNatClampNeg (ga (sa V 36 (x2).toNatClampNeg (ga V 17 (x2).toNatClampNeg)) 18 (x2).toNatClampNeg))) rfl ?_
      exact rn_sub [1, 2, 0] rfl rfl (ih (x2 + (1 : Int32)) (sa (sa V 36 (x2).toNatClampNeg (ga V 17 (x2).toNatClampNeg)) 37 (x2).toNatClampNeg (ga (sa V 36 (x2).toNatClampNeg (ga V 17 (x2).toNatClampNeg)) 18 (x2).toNatClampNeg)) _ h)
def d_State_becomes_35_16  (V : ai_V) : Option ai_V :=
  d_State_becomes_35_16_25 ai_N (0 : Int32) (si (si V 35 0 (gi V 16 0)) 35 1 (ai_min (gi (si V 35 0 (gi V 16 0)) 16 1) (gi (si V 35 0 (gi V 16 0)) 35 2)))
set_option maxRecDepth 20000 in
theorem t_State_becomes_35_16 {X : ai_S} {e : Nat} (hd : 0 ≤ e)  {V : ai_V} {r : ai_V} (h : d_State_becomes_35_16  V = some r) : Rn e 44 0 (lv_args 0 [.ref 35, .ref 16]) [] (SH ++ X) V none (SH ++ X) r := by
  rw [d_State_becomes_35_16] at h
  refine rn_go 13 (pc' := 25) (l' := [(2, .int (0 : Int32)), (0, .ref 35), (1, .ref 16)]) (st' := []) (S1 := (SH ++ X)) (V1 := (si (si V 35 0 (gi V 16 0)) 35 1 (ai_min (gi (si V 35 0 (gi V 16 0)) 16 1) (gi (si V 35 0 (gi V 16 0)) 35 2)))) rfl ?_
  exact rn_sub [1, 2, 0] rfl rfl (t_State_becomes_35_16_25 (X := X) hd ai_N (0 : Int32) (si (si V 35 0 (gi V 16 0)) 35 1 (ai_min (gi (si V 35 0 (gi V 16 0)) 16 1) (gi (si V 35 0 (gi V 16 0)) 35 2))) _ h)
-- RentByTheWheel$State.becomes(LRentByTheWheel$State;)V (32, 16)
def d_State_becomes_32_16_25  : Nat → Int32 → ai_V → Option ai_V
  | 0, _, _ => none
  | n + 1, x2, V => if (6 : Int32) ≤ x2 then (some V) else (if ai_in x2 6 then (if ai_in x2 6 then (if ai_in x2 6 then (if ai_in x2 6 then (d_State_becomes_32_16_25 n (x2 + (1 : Int32)) (sa (sa V 33 (x2).toNatClampNeg (ga V 17 (x2).toNatClampNeg)) 34 (x2).toNatClampNeg (ga (sa V 33 (x2).toNatClampNeg (ga V 17 (x2).toNatClampNeg)) 18 (x2).toNatClampNeg))) else none) else none) else none) else none)
set_option maxRecDepth 20000 in
theorem t_State_becomes_32_16_25 {X : ai_S} {e : Nat} (hd : 0 ≤ e)  : ∀ (n : Nat) (x2 : Int32) (V : ai_V) (r : ai_V), d_State_becomes_32_16_25  n x2 V = some r → Rn e 44 25 [(0, .ref 32), (1, .ref 16), (2, .int x2)] [] (SH ++ X) V none (SH ++ X) r := by
  intro n
  induction n with
  | zero =>
    intro x2 V r h
    cases h
  | succ n ih =>
    intro x2 V r h
    rw [d_State_becomes_32_16_25] at h
    refine rn_go 2 (pc' := 28) (l' := [(0, .ref 32), (1, .ref 16), (2, .int x2)]) (st' := [.int (6 : Int32), .int x2]) (S1 := (SH ++ X)) (V1 := V) rfl ?_
    rcases ai_if h with ⟨hc, h⟩ | ⟨hc, h⟩
    · refine rn_brT rfl rfl rfl rfl hc ?_
      obtain rfl := Option.some.inj h
      exact rn_ret rfl rfl rfl
    · refine rn_brF rfl rfl rfl rfl hc ?_
      refine rn_go 6 (pc' := 41) (l' := [(0, .ref 32), (1, .ref 16), (2, .int x2)]) (st' := [.int x2, .ref 17, .int x2, .ref 33]) (S1 := (SH ++ X)) (V1 := V) rfl ?_
      obtain ⟨hg, h⟩ := ai_gd h
      refine rg_iald (n := 6) rfl rfl hg ?_
      obtain ⟨hg, h⟩ := ai_gd h
      refine rg_iast (n := 6) rfl rfl hg ?_
      refine rn_go 6 (pc' := 53) (l' := [(0, .ref 32), (1, .ref 16), (2, .int x2)]) (st' := [.int x2, .ref 18, .int x2, .ref 34]) (S1 := (SH ++ X)) (V1 := (sa V 33 (x2).toNatClampNeg (ga V 17 (x2).toNatClampNeg))) rfl ?_
      obtain ⟨hg, h⟩ := ai_gd h
      refine rg_iald (n := 6) rfl rfl hg ?_
      obtain ⟨hg, h⟩ := ai_gd h
      refine rg_iast (n := 6) rfl rfl hg ?_
      refine rn_go 2 (pc' := 25) (l' := [(2, .int (x2 + (1 : Int32))), (0, .ref 32), (1, .ref 16)]) (st' := []) (S1 := (SH ++ X)) (V1 := (sa (sa V 33 (x2).toNatClampNeg (ga V 17 (x2).toNatClampNeg)) 34 (x2).toNatClampNeg (ga (sa V 33 (x2).toNatClampNeg (ga V 17 (x2).toNatClampNeg)) 18 (x2).toNatClampNeg))) rfl ?_
      exact rn_sub [1, 2, 0] rfl rfl (ih (x2 + (1 : Int32)) (sa (sa V 33 (x2).toNatClampNeg (ga V 17 (x2).toNatClampNeg)) 34 (x2).toNatClampNeg (ga (sa V 33 (x2).toNatClampNeg (ga V 17 (x2).toNatClampNeg)) 18 (x2).toNatClampNeg)) _ h)
def d_State_becomes_32_16  (V : ai_V) : Option ai_V :=
  d_State_becomes_32_16_25 ai_N (0 : Int32) (si (si V 32 0 (gi V 16 0)) 32 1 (ai_min (gi (si V 32 0 (gi V 16 0)) 16 1) (gi (si V 32 0 (gi V 16 0)) 32 2)))
set_option maxRecDepth 20000 in
theorem t_State_becomes_32_16 {X : ai_S} {e : Nat} (hd : 0 ≤ e)  {V : ai_V} {r : ai_V} (h : d_State_becomes_32_16  V = some r) : Rn e 44 0 (lv_args 0 [.ref 32, .ref 16]) [] (SH ++ X) V none (SH ++ X) r := by
  rw [d_State_becomes_32_16] at h
  refine rn_go 13 (pc' := 25) (l' := [(2, .int (0 : Int32)), (0, .ref 32), (1, .ref 16)]) (st' := []) (S1 := (SH ++ X)) (V1 := (si (si V 32 0 (gi V 16 0)) 32 1 (ai_min (gi (si V 32 0 (gi V 16 0)) 16 1) (gi (si V 32 0 (gi V 16 0)) 32 2)))) rfl ?_
  exact rn_sub [1, 2, 0] rfl rfl (t_State_becomes_32_16_25 (X := X) hd ai_N (0 : Int32) (si (si V 32 0 (gi V 16 0)) 32 1 (ai_min (gi (si V 32 0 (gi V 16 0)) 16 1) (gi (si V 32 0 (gi V 16 0)) 32 2))) _ h)
-- RentByTheWheel$State.becomes(LRentByTheWheel$State;)V (29, 16)
def d_State_becomes_29_16_25  : Nat → Int32 → ai_V → Option ai_V
  | 0, _, _ => none
  | n + 1, x2, V => if (6 : Int32) ≤ x2 then (some V) else (if ai_in x2 6 then (if ai_in x2 6 then (if ai_in x2 6 then (if ai_in x2 6 then (d_State_becomes_29_16_25 n (x2 + (1 : Int32)) (sa (sa V 30 (x2).toNatClampNeg (ga V 17 (x2).toNatClampNeg)) 31 (x2).toNatClampNeg (ga (sa V 30 (x2).toNatClampNeg (ga V 17 (x2).toNatClampNeg)) 18 (x2).toNatClampNeg))) else none) else none) else none) else none)
set_option maxRecDepth 20000 in
theorem t_State_becomes_29_16_25 {X : ai_S} {e : Nat} (hd : 0 ≤ e)  : ∀ (n : Nat) (x2 : Int32) (V : ai_V) (r : ai_V), d_State_becomes_29_16_25  n x2 V = some r → Rn e 44 25 [(0, .ref 29), (1, .ref 16), (2, .int x2)] [] (SH ++ X) V none (SH ++ X) r := by
  intro n
  induction n with
  | zero =>
    intro x2 V r h
    cases h
  | succ n ih =>
    intro x2 V r h
    rw [d_State_becomes_29_16_25] at h
    refine rn_go 2 (pc' := 28) (l' := [(0, .ref 29), (1, .ref 16), (2, .int x2)]) (st' := [.int (6 : Int32), .int x2]) (S1 := (SH ++ X)) (V1 := V) rfl ?_
    rcases ai_if h with ⟨hc, h⟩ | ⟨hc, h⟩
    · refine rn_brT rfl rfl rfl rfl hc ?_
      obtain rfl := Option.some.inj h
      exact rn_ret rfl rfl rfl
    · refine rn_brF rfl rfl rfl rfl hc ?_
      refine rn_go 6 (pc' := 41) (l' := [(0, .ref 29), (1, .ref 16), (2, .int x2)]) (st' := [.int x2, .ref 17, .int x2, .ref 30]) (S1 := (SH ++ X)) (V1 := V) rfl ?_
      obtain ⟨hg, h⟩ := ai_gd h
      refine rg_iald (n := 6) rfl rfl hg ?_
      obtain ⟨hg, h⟩ := ai_gd h
      refine rg_iast (n := 6) rfl rfl hg ?_
      refine rn_go 6 (pc' := 53) (l' := [(0, .ref 29), (1, .ref 16), (2, .int x2)]) (st' := [.int x2, .ref 18, .int x2, .ref 31]) (S1 := (SH ++ X)) (V1 := (sa V 30 (x2).toNatClampNeg (ga V 17 (x2).toNatClampNeg))) rfl ?_
      obtain ⟨hg, h⟩ := ai_gd h
      refine rg_iald (n := 6) rfl rfl hg ?_
      obtain ⟨hg, h⟩ := ai_gd h
      refine rg_iast (n := 6) rfl rfl hg ?_
      refine rn_go 2 (pc' := 25) (l' := [(2, .int (x2 + (1 : Int32))), (0, .ref 29), (1, .ref 16)]) (st' := []) (S1 := (SH ++ X)) (V1 := (sa (sa V 30 (x2).toNatClampNeg (ga V 17 (x2).toNatClampNeg)) 31 (x2).toNatClampNeg (ga (sa V 30 (x2).toNatClampNeg (ga V 17 (x2).toNatClampNeg)) 18 (x2).toNatClampNeg))) rfl ?_
      exact rn_sub [1, 2, 0] rfl rfl (ih (x2 + (1 : Int32)) (sa (sa V 30 (x2).toNatClampNeg (ga V 17 (x2).toNatClampNeg)) 31 (x2).toNatClampNeg (ga (sa V 30 (x2).toNatClampNeg (ga V 17 (x2).toNatClampNeg)) 18 (x2).toNatClampNeg)) _ h)
def d_State_becomes_29_16  (V : ai_V) : Option ai_V :=
  d_State_becomes_29_16_25 ai_N (0 : Int32) (si (si V 29 0 (gi V 16 0)) 29 1 (ai_min (gi (si V 29 0 (gi V 16 0)) 16 1) (gi (si V 29 0 (gi V 16 0)) 29 2)))
set_option maxRecDepth 20000 in
theorem t_State_becomes_29_16 {X : ai_S} {e : Nat} (hd : 0 ≤ e)  {V : ai_V} {r : ai_V} (h : d_State_becomes_29_16  V = some r) : Rn e 44 0 (lv_args 0 [.ref 29, .ref 16]) [] (SH ++ X) V none (SH ++ X) r := by
  rw [d_State_becomes_29_16] at h
  refine rn_go 13 (pc' := 25) (l' := [(2, .int (0 : Int32)), (0, .ref 29), (1, .ref 16)]) (st' := []) (S1 := (SH ++ X)) (V1 := (si (si V 29 0 (gi V 16 0)) 29 1 (ai_min (gi (si V 29 0 (gi V 16 0)) 16 1) (gi (si V 29 0 (gi V 16 0)) 29 2)))) rfl ?_
  exact rn_sub [1, 2, 0] rfl rfl (t_State_becomes_29_16_25 (X := X) hd ai_N (0 : Int32) (si (si V 29 0 (gi V 16 0)) 29 1 (ai_min (gi (si V 29 0 (gi V 16 0)) 16 1) (gi (si V 29 0 (gi V 16 0)) 29 2))) _ h)
-- RentByTheWheel$State.becomes(LRentByTheWheel$State;)V (26, 16)
def d_State_becomes_26_16_25  : Nat → Int32 → ai_V → Option ai_V
  | 0, _, _ => none
  | n + 1, x2, V => if (6 : Int32) ≤ x2 then (some V) else (if ai_in x2 6 then (if ai_in x2 6 then (if ai_in x2 6 then (if ai_in x2 6 then (d_State_becomes_26_16_25 n (x2 + (1 : Int32)) (sa (sa V 27 (x2).toNatClampNeg (ga V 17 (x2).toNatClampNeg)) 28 (x2).toNatClampNeg (ga (sa V 27 (x2).toNatClampNeg (ga V 17 (x2).toNatClampNeg)) 18 (x2).toNatClampNeg))) else none) else none) else none) else none)
set_option maxRecDepth 20000 in
theorem t_State_becomes_26_16_25 {X : ai_S} {e : Nat} (hd : 0 ≤ e)  : ∀ (n : Nat) (x2 : Int32) (V : ai_V) (r : ai_V), d_State_becomes_26_16_25  n x2 V = some r → Rn e 44 25 [(0, .ref 26), (1, .ref 16), (2, .int x2)] [] (SH ++ X) V none (SH ++ X) r := by
  intro n
  induction n with
  | zero =>
    intro x2 V r h
    cases h
  | succ n ih =>
    intro x2 V r h
    rw [d_State_becomes_26_16_25] at h
    refine rn_go 2 (pc' := 28) (l' := [(0, .ref 26), (1, .ref 16), (2, .int x2)]) (st' := [.int (6 : Int32), .int x2]) (S1 := (SH ++ X)) (V1 := V) rfl ?_
    rcases ai_if h with ⟨hc, h⟩ | ⟨hc, h⟩
    · refine rn_brT rfl rfl rfl rfl hc ?_
      obtain rfl := Option.some.inj h
      exact rn_ret rfl rfl rfl
    · refine rn_brF rfl rfl rfl rfl hc ?_
      refine rn_go 6 (pc' := 41) (l' := [(0, .ref 26), (1, .ref 16), (2, .int x2)]) (st' := [.int x2, .ref 17, .int x2, .ref 27]) (S1 := (SH ++ X)) (V1 := V) rfl ?_
      obtain ⟨hg, h⟩ := ai_gd h
      refine rg_iald (n := 6) rfl rfl hg ?_
      obtain ⟨hg, h⟩ := ai_gd h
      refine rg_iast (n := 6) rfl rfl hg ?_
      refine rn_go 6 (pc' := 53) (l' := [(0, .ref 26), (1, .ref 16), (2, .int x2)]) (st' := [.int x2, .ref 18, .int x2, .ref 28]) (S1 := (SH ++ X)) (V1 := (sa V 27 (x2).toNatClampNeg (ga V 17 (x2).toNatClampNeg))) rfl ?_
      obtain ⟨hg, h⟩ := ai_gd h
      refine rg_iald (n := 6) rfl rfl hg ?_
      obtain ⟨hg, h⟩ := ai_gd h
      refine rg_iast (n := 6) rfl rfl hg ?_
      refine rn_go 2 (pc' := 25) (l' := [(2, .int (x2 + (1 : Int32))), (0, .ref 26), (1, .ref 16)]) (st' := []) (S1 := (SH ++ X)) (V1 := (sa (sa V 27 (x2).toNatClampNeg (ga V 17 (x2).toNatClampNeg)) 28 (x2).toNatClampNeg (ga (sa V 27 (x2).toNatClampNeg (ga V 17 (x2).toNatClampNeg)) 18 (x2).toNatClampNeg))) rfl ?_
      exact rn_sub [1, 2, 0] rfl rfl (ih (x2 + (1 : Int32)) (sa (sa V 27 (x2).toNatClampNeg (ga V 17 (x2).toNatClampNeg)) 28 (x2).toNatClampNeg (ga (sa V 27 (x2).toNatClampNeg (ga V 17 (x2).toNatClampNeg)) 18 (x2).toNatClampNeg)) _ h)
def d_State_becomes_26_16  (V : ai_V) : Option ai_V :=
  d_State_becomes_26_16_25 ai_N (0 : Int32) (si (si V 26 0 (gi V 16 0)) 26 1 (ai_min (gi (si V 26 0 (gi V 16 0)) 16 1) (gi (si V 26 0 (gi V 16 0)) 26 2)))
set_option maxRecDepth 20000 in
theorem t_State_becomes_26_16 {X : ai_S} {e : Nat} (hd : 0 ≤ e)  {V : ai_V} {r : ai_V} (h : d_State_becomes_26_16  V = some r) : Rn e 44 0 (lv_args 0 [.ref 26, .ref 16]) [] (SH ++ X) V none (SH ++ X) r := by
  rw [d_State_becomes_26_16] at h
  refine rn_go 13 (pc' := 25) (l' := [(2, .int (0 : Int32)), (0, .ref 26), (1, .ref 16)]) (st' := []) (S1 := (SH ++ X)) (V1 := (si (si V 26 0 (gi V 16 0)) 26 1 (ai_min (gi (si V 26 0 (gi V 16 0)) 16 1) (gi (si V 26 0 (gi V 16 0)) 26 2)))) rfl ?_
  exact rn_sub [1, 2, 0] rfl rfl (t_State_becomes_26_16_25 (X := X) hd ai_N (0 : Int32) (si (si V 26 0 (gi V 16 0)) 26 1 (ai_min (gi (si V 26 0 (gi V 16 0)) 16 1) (gi (si V 26 0 (gi V 16 0)) 26 2))) _ h)
-- RentByTheWheel$Past.save(LRentByTheWheel$State;)V (24, 16)
def d_Past_save  (V : ai_V) : Option ai_V :=
  if (gi V 24 2) = (0 : Int32) then ((d_State_becomes_26_16  V).bind fun q12 => (some (si (si q12 24 2 (((gi q12 24 2) + (1 : Int32)) - ((gi q12 24 2) + (1 : Int32)) / (12 : Int32) * (12 : Int32))) 24 1 (ai_min ((gi (si q12 24 2 (((gi q12 24 2) + (1 : Int32)) - ((gi q12 24 2) + (1 : Int32)) / (12 : Int32) * (12 : Int32))) 24 1) + (1 : Int32)) (12 : Int32))))) else (if (gi V 24 2) = (1 : Int32) then ((d_State_becomes_29_16  V).bind fun q11 => (some (si (si q11 24 2 (((gi q11 24 2) + (1 : Int32)) - ((gi q11 24 2) + (1 : Int32)) / (12 : Int32) * (12 : Int32))) 24 1 (ai_min ((gi (si q11 24 2 (((gi q11 24 2) + (1 : Int32)) - ((gi q11 24 2) + (1 : Int32)) / (12 : Int32) * (12 : Int32))) 24 1) + (1 : Int32)) (12 : Int32))))) else (if (gi V 24 2) = (2 : Int32) then ((d_State_becomes_32_16  V).bind fun q10 => (some (si (si q10 24 2 (((gi q10 24 2) + (1 : Int32)) - ((gi q10 24 2) + (1 : Int32)) / (12 : Int32) * (12 : Int32))) 24 1 (ai_min ((gi (si q10 24 2 (((gi q10 24 2) + (1 : Int32)) - ((gi q10 24 2) + (1 : Int32)) / (12 : Int32) * (12 : Int32))) 24 1) + (1 : Int32)) (12 : Int32))))) else (if (gi V 24 2) = (3 : Int32) then ((d_State_becomes_35_16  V).bind fun q9 => (some (si (si q9 24 2 (((gi q9 24 2) + (1 : Int32)) - ((gi q9 24 2) + (1 : Int32)) / (12 : Int32) * (12 : Int32))) 24 1 (ai_min ((gi (si q9 24 2 (((gi q9 24 2) + (1 : Int32)) - ((gi q9 24 2) + (1 : Int32)) / (12 : Int32) * (12 : Int32))) 24 1) + (1 : Int32)) (12 : Int32))))) else (if (gi V 24 2) = (4 : Int32) then ((d_State_becomes_38_16  V).bind fun q8 => (some (si (si q8 24 2 (((gi q8 24 2) + (1 : Int32)) - ((gi q8 24 2) + (1 : Int32)) / (12 : Int32) * (12 : Int32))) 24 1 (ai_min ((gi (si q8 24 2 (((gi q8 24 2) + (1 : Int32)) - ((gi q8 24 2) + (1 : Int32)) / (12 : Int32) * (12 : Int32))) 24 1) + (1 : Int32)) (12 : Int32))))) else (if (gi V 24 2) = (5 : Int32) then ((d_State_becomes_41_16  V).bind fun q7 => (some (si (si q7 24 2 (((gi q7 24 2) + (1 : Int32)) - ((gi q7 24 2) + (1 : Int32)) / (12 : Int32) * (12 : Int32))) 24 1 (ai_min ((gi (si q7 24 2 (((gi q7 24 2) + (1 : Int32)) - ((gi q7 24 2) + (1 : Int32)) / (12 : Int32) * (12 : Int32))) 24 1) + (1 : Int32)) (12 : Int32))))) else (if (gi V 24 2) = (6 : Int32) then ((d_State_becomes_44_16  V).bind fun q6 => (some (si (si q6 24 2 (((gi q6 24 2) + (1 : Int32)) - ((gi q6 24 2) + (1 : Int32)) / (12 : Int32) * (12 : Int32))) 24 1 (ai_min ((gi (si q6 24 2 (((gi q6 24 2) + (1 : Int32)) - ((gi q6 24 2) + (1 : Int32)) / (12 : Int32) * (12 : Int32))) 24 1) + (1 : Int32)) (12 : Int32))))) else (if (gi V 24 2) = (7 : Int32) then ((d_State_becomes_47_16  V).bind fun q5 => (some (si (si q5 24 2 (((gi q5 24 2) + (1 : Int32)) - ((gi q5 24 2) + (1 : Int32)) / (12 : Int32) * (12 : Int32))) 24 1 (ai_min ((gi (si q5 24 2 (((gi q5 24 2) + (1 : Int32)) - ((gi q5 24 2) + (1 : Int32)) / (12 : Int32) * (12 : Int32))) 24 1) + (1 : Int32)) (12 : Int32))))) else (if (gi V 24 2) = (8 : Int32) then ((d_State_becomes_50_16  V).bind fun q4 => (some (si (si q4 24 2 (((gi q4 24 2) + (1 : Int32)) - ((gi q4 24 2) + (1 : Int32)) / (12 : Int32) * (12 : Int32))) 24 1 (ai_min ((gi (si q4 24 2 (((gi q4 24 2) + (1 : Int32)) - ((gi q4 24 2) + (1 : Int32)) / (12 : Int32) * (12 : Int32))) 24 1) + (1 : Int32)) (12 : Int32))))) else (if (gi V 24 2) = (9 : Int32) then ((d_State_becomes_53_16  V).bind fun q3 => (some (si (si q3 24 2 (((gi q3 24 2) + (1 : Int32)) - ((gi q3 24 2) + (1 : Int32)) / (12 : Int32) * (12 : Int32))) 24 1 (ai_min ((gi (si q3 24 2 (((gi q3 24 2) + (1 : Int32)) - ((gi q3 24 2) + (1 : Int32)) / (12 : Int32) * (12 : Int32))) 24 1) + (1 : Int32)) (12 : Int32))))) else (if (gi V 24 2) = (10 : Int32) then ((d_State_becomes_56_16  V).bind fun q2 => (some (si (si q2 24 2 (((gi q2 24 2) + (1 : Int32)) - ((gi q2 24 2) + (1 : Int32)) / (12 : Int32) * (12 : Int32))) 24 1 (ai_min ((gi (si q2 24 2 (((gi q2 24 2) + (1 : Int32)) - ((gi q2 24 2) + (1 : Int32)) / (12 : Int32) * (12 : Int32))) 24 1) + (1 : Int32)) (12 : Int32))))) else (if (gi V 24 2) = (11 : Int32) then ((d_State_becomes  V).bind fun q1 => (some (si (si q1 24 2 (((gi q1 24 2) + (1 : Int32)) - ((gi q1 24 2) + (1 : Int32)) / (12 : Int32) * (12 : Int32))) 24 1 (ai_min ((gi (si q1 24 2 (((gi q1 24 2) + (1 : Int32)) - ((gi q1 24 2) + (1 : Int32)) / (12 : Int32) * (12 : Int32))) 24 1) + (1 : Int32)) (12 : Int32))))) else (none))))))))))))
set_option maxRecDepth 20000 in
theorem t_Past_save {X : ai_S} {e : Nat} (hd : 1 ≤ e)  {V : ai_V} {r : ai_V} (h : d_Past_save  V = some r) : Rn e 45 0 (lv_args 0 [.ref 24, .ref 16]) [] (SH ++ X) V none (SH ++ X) r := by
  rw [d_Past_save] at h
  refine rn_go 4 (pc' := 8) (l' := [(0, .ref 24), (1, .ref 16)]) (st' := [.int (gi V 24 2), .ref 25]) (S1 := (SH ++ X)) (V1 := V) rfl ?_
  rcases ai_if h with ⟨hc, h⟩ | ⟨hc, h⟩
  · refine rg_aald (n := 12) (q := 26) rfl rfl (by rw [hc]; decide) (by rw [hc]; rfl) ?_
    refine rn_go 1 (pc' := 10) (l' := [(0, .ref 24), (1, .ref 16)]) (st' := [.ref 16, .ref 26]) (S1 := (SH ++ X)) (V1 := V) rfl ?_
    obtain ⟨q12, hq12, h⟩ := ai_bd h
    refine rn_call rfl rfl rfl rfl rfl rfl (by omega) (t_State_becomes_26_16 (by omega) hq12) ?_
    refine rn_go 6 (pc' := 22) (l' := [(0, .ref 24), (1, .ref 16)]) (st' := [.int (12 : Int32), .int ((gi q12 24 2) + (1 : Int32)), .ref 24]) (S1 := (SH ++ X)) (V1 := q12) rfl ?_
    refine rg_irem rfl (by decide) ?_
    refine rn_go 9 (pc' := 41) (l' := [(0, .ref 24), (1, .ref 16)]) (st' := []) (S1 := (SH ++ X)) (V1 := (si (si q12 24 2 (((gi q12 24 2) + (1 : Int32)) - ((gi q12 24 2) + (1 : Int32)) / (12 : Int32) * (12 : Int32))) 24 1 (ai_min ((gi (si q12 24 2 (((gi q12 24 2) + (1 : Int32)) - ((gi q12 24 2) + (1 : Int32)) / (12 : Int32) * (12 : Int32))) 24 1) + (1 : Int32)) (12 : Int32)))) rfl ?_
    obtain rfl := Option.some.inj h
    exact rn_ret rfl rfl rfl
  · rcases ai_if h with ⟨hc, h⟩ | ⟨hc, h⟩
    · refine rg_aald (n := 12) (q := 29) rfl rfl (by rw [hc]; decide) (by rw [hc]; rfl) ?_
      refine rn_go 1 (pc' := 10) (l' := [(0, .ref 24), (1, .ref 16)]) (st' := [.ref 16, .ref 29]) (S1 := (SH ++ X)) (V1 := V) rfl ?_
      obtain ⟨q11, hq11, h⟩ := ai_bd h
      refine rn_call rfl rfl rfl rfl rfl rfl (by omega) (t_State_becomes_29_16 (by omega) hq11) ?_
      refine rn_go 6 (pc' := 22) (l' := [(0, .ref 24), (1, .ref 16)]) (st' := [.int (12 : Int32), .int ((gi q11 24 2) + (1 : Int32)), .ref 24]) (S1 := (SH ++ X)) (V1 := q11) rfl ?_
      refine rg_irem rfl (by decide) ?_
      refine rn_go 9 (pc' := 41) (l' := [(0, .ref 24), (1, .ref 16)]) (st' := []) (S1 := (SH ++ X)) (V1 := (si (si q11 24 2 (((gi q11 24 2) + (1 : Int32)) - ((gi q11 24 2) + (1 : Int32)) / (12 : Int32) * (12 : Int32))) 24 1 (ai_min ((gi (si q11 24 2 (((gi q11 24 2) + (1 : Int32)) - ((gi q11 24 2) + (1 : Int32)) / (12 : Int32) * (12 : Int32))) 24 1) + (1 : Int32)) (12 : Int32)))) rfl ?_
      obtain rfl := Option.some.inj h
      exact rn_ret rfl rfl rfl
    · rcases ai_if h with ⟨hc, h⟩ | ⟨hc, h⟩
      · refine rg_aald (n := 12) (q := 32) rfl rfl (by rw [hc]; decide) (by rw [hc]; rfl) ?_
        refine rn_go 1 (pc' := 10) (l' := [(0, .ref 24), (1, .ref 16)]) (st' := [.ref 16, .ref 32]) (S1 := (SH ++ X)) (V1 := V) rfl ?_
        obtain ⟨q10, hq10, h⟩ := ai_bd h
        refine rn_call rfl rfl rfl rfl rfl rfl (by omega) (t_State_becomes_32_16 (by omega) hq10) ?_
        refine rn_go 6 (pc' := 22) (l' := [(0, .ref 24), (1, .ref 16)]) (st' := [.int (12 : Int32), .int ((gi q10 24 2) + (1 : Int32)), .ref 24]) (S1 := (SH ++ X)) (V1 := q10) rfl ?_
        refine rg_irem rfl (by decide) ?_
        refine rn_go 9 (pc' := 41) (l' := [(0, .ref 24), (1, .ref 16)]) (st' := []) (S1 := (SH ++ X)) (V1 := (si (si q10 24 2 (((gi q10 24 2) + (1 : Int32)) - ((gi q10 24 2) + (1 : Int32)) / (12 : Int32) * (12 : Int32))) 24 1 (ai_min ((gi (si q10 24 2 (((gi q10 24 2) + (1 : Int32)) - ((gi q10 24 2) + (1 : Int32)) / (12 : Int32) * (12 : Int32))) 24 1) + (1 : Int32)) (12 : Int32)))) rfl ?_
        obtain rfl := Option.some.inj h
        exact rn_ret rfl rfl rfl
      · rcases ai_if h with ⟨hc, h⟩ | ⟨hc, h⟩
        · refine rg_aald (n := 12) (q := 35) rfl rfl (by rw [hc]; decide) (by rw [hc]; rfl) ?_
          refine rn_go 1 (pc' := 10) (l' := [(0, .ref 24), (1, .ref 16)]) (st' := [.ref 16, .ref 35]) (S1 := (SH ++ X)) (V1 := V) rfl ?_
          obtain ⟨q9, hq9, h⟩ := ai_bd h
          refine rn_call rfl rfl rfl rfl rfl rfl (by omega) (t_State_becomes_35_16 (by omega) hq9) ?_
          refine rn_go 6 (pc' := 22) (l' := [(0, .ref 24), (1, .ref 16)]) (st' := [.int (12 : Int32), .int ((gi q9 24 2) + (1 : Int32)), .ref 24]) (S1 := (SH ++ X)) (V1 := q9) rfl ?_
          refine rg_irem rfl (by decide) ?_
          refine rn_go 9 (pc' := 41) (l' := [(0, .ref 24), (1, .ref 16)]) (st' := []) (S1 := (SH ++ X)) (V1 := (si (si q9 24 2 (((gi q9 24 2) + (1 : Int32)) - ((gi q9 24 2) + (1 : Int32)) / (12 : Int32) * (12 : Int32))) 24 1 (ai_min ((gi (si q9 24 2 (((gi q9 24 2) + (1 : Int32)) - ((gi q9 24 2) + (1 : Int32)) / (12 : Int32) * (12 : Int32))) 24 1) + (1 : Int32)) (12 : Int32)))) rfl ?_
          obtain rfl := Option.some.inj h
          exact rn_ret rfl rfl rfl
        · rcases ai_if h with ⟨hc, h⟩ | ⟨hc, h⟩
          · refine rg_aald (n := 12) (q := 38) rfl rfl (by rw [hc]; decide) (by rw [hc]; rfl) ?_
            refine rn_go 1 (pc' := 10) (l' := [(0, .ref 24), (1, .ref 16)]) (st' := [.ref 16, .ref 38]) (S1 := (SH ++ X)) (V1 := V) rfl ?_
            obtain ⟨q8, hq8, h⟩ := ai_bd h
            refine rn_call rfl rfl rfl rfl rfl rfl (by omega) (t_State_becomes_38_16 (by omega) hq8) ?_
            refine rn_go 6 (pc' := 22) (l' := [(0, .ref 24), (1, .ref 16)]) (st' := [.int (12 : Int32), .int ((gi q8 24 2) + (1 : Int32)), .ref 24]) (S1 := (SH ++ X)) (V1 := q8) rfl ?_
            refine rg_irem rfl (by decide) ?_
            refine rn_go 9 (pc' := 41) (l' := [(0, .ref 24), (1, .ref 16)]) (st' := []) (S1 := (SH ++ X)) (V1 := (si (si q8 24 2 (((gi q8 24 2) + (1 : Int32)) - ((gi q8 24 2) + (1 : Int32)) / (12 : Int32) * (12 : Int32))) 24 1 (ai_min ((gi (si q8 24 2 (((gi q8 24 2) + (1 : Int32)) - ((gi q8 24 2) + (1 : Int32)) / (12 : Int32) * (12 : Int32))) 24 1) + (1 : Int32)) (12 : Int32)))) rfl ?_
            obtain rfl := Option.some.inj h
            exact rn_ret rfl rfl rfl
          · rcases ai_if h with ⟨hc, h⟩ | ⟨hc, h⟩
            · refine rg_aald (n := 12) (q := 41) rfl rfl (by rw [hc]; decide) (by rw [hc]; rfl) ?_
              refine rn_go 1 (pc' := 10) (l' := [(0, .ref 24), (1, .ref 16)]) (st' := [.ref 16, .ref 41]) (S1 := (SH ++ X)) (V1 := V) rfl ?_
              obtain ⟨q7, hq7, h⟩ := ai_bd h
              refine rn_call rfl rfl rfl rfl rfl rfl (by omega) (t_State_becomes_41_16 (by omega) hq7) ?_
              refine rn_go 6 (pc' := 22) (l' := [(0, .ref 24), (1, .ref 16)]) (st' := [.int (12 : Int32), .int ((gi q7 24 2) + (1 : Int32)), .ref 24]) (S1 := (SH ++ X)) (V1 := q7) rfl ?_
              refine rg_irem rfl (by decide) ?_
              refine rn_go 9 (pc' := 41) (l' := [(0, .ref 24), (1, .ref 16)]) (st' := []) (S1 := (SH ++ X)) (V1 := (si (si q7 24 2 (((gi q7 24 2) + (1 : Int32)) - ((gi q7 24 2) + (1 : Int32)) / (12 : Int32) * (12 : Int32))) 24 1 (ai_min ((gi (si q7 24 2 (((gi q7 24 2) + (1 : Int32)) - ((gi q7 24 2) + (1 : Int32)) / (12 : Int32) * (12 : Int32))) 24 1) + (1 : Int32)) (12 : Int32)))) rfl ?_
              obtain rfl := Option.some.inj h
              exact rn_ret rfl rfl rfl
            · rcases ai_if h with ⟨hc, h⟩ | ⟨hc, h⟩
              · refine rg_aald (n := 12) (q := 44) rfl rfl (by rw [hc]; decide) (by rw [hc]; rfl) ?_
                refine rn_go 1 (pc' := 10) (l' := [(0, .ref 24), (1, .ref 16)]) (st' := [.ref 16, .ref 44]) (S1 := (SH ++ X)) (V1 := V) rfl ?_
                obtain ⟨q6, hq6, h⟩ := ai_bd h
                refine rn_call rfl rfl rfl rfl rfl rfl (by omega) (t_State_becomes_44_16 (by omega) hq6) ?_
                refine rn_go 6 (pc' := 22) (l' := [(0, .ref 24), (1, .ref 16)]) (st' := [.int (12 : Int32), .int ((gi q6 24 2) + (1 : Int32)), .ref 24]) (S1 := (SH ++ X)) (V1 := q6) rfl ?_
                refine rg_irem rfl (by decide) ?_
                refine rn_go 9 (pc' := 41) (l' := [(0, .ref 24), (1, .ref 16)]) (st' := []) (S1 := (SH ++ X)) (V1 := (si (si q6 24 2 (((gi q6 24 2) + (1 : Int32)) - ((gi q6 24 2) + (1 : Int32)) / (12 : Int32) * (12 : Int32))) 24 1 (ai_min ((gi (si q6 24 2 (((gi q6 24 2) + (1 : Int32)) - ((gi q6 24 2) + (1 : Int32)) / (12 : Int32) * (12 : Int32))) 24 1) + (1 : Int32)) (12 : Int32)))) rfl ?_
                obtain rfl := Option.some.inj h
                exact rn_ret rfl rfl rfl
              · rcases ai_if h with ⟨hc, h⟩ | ⟨hc, h⟩
                · refine rg_aald (n := 12) (q := 47) rfl rfl (by rw [hc]; decide) (by rw [hc]; rfl) ?_
                  refine rn_go 1 (pc' := 10) (l' := [(0, .ref 24), (1, .ref 16)]) (st' := [.ref 16, .ref 47]) (S1 := (SH ++ X)) (V1 := V) rfl ?_
                  obtain ⟨q5, hq5, h⟩ := ai_bd h
                  refine rn_call rfl rfl rfl rfl rfl rfl (by omega) (t_State_becomes_47_16 (by omega) hq5) ?_
                  refine rn_go 6 (pc' := 22) (l' := [(0, .ref 24), (1, .ref 16)]) (st' := [.int (12 : Int32), .int ((gi q5 24 2) + (1 : Int32)), .ref 24]) (S1 := (SH ++ X)) (V1 := q5) rfl ?_
                  refine rg_irem rfl (by decide) ?_
                  refine rn_go 9 (pc' := 41) (l' := [(0, .ref 24), (1, .ref 16)]) (st' := []) (S1 := (SH ++ X)) (V1 := (si (si q5 24 2 (((gi q5 24 2) + (1 : Int32)) - ((gi q5 24 2) + (1 : Int32)) / (12 : Int32) * (12 : Int32))) 24 1 (ai_min ((gi (si q5 24 2 (((gi q5 24 2) + (1 : Int32)) - ((gi q5 24 2) + (1 : Int32)) / (12 : Int32) * (12 : Int32))) 24 1) + (1 : Int32)) (12 : Int32)))) rfl ?_
                  obtain rfl := Option.some.inj h
                  exact rn_ret rfl rfl rfl
                · rcases ai_if h with ⟨hc, h⟩ | ⟨hc, h⟩
                  · refine rg_aald (n := 12) (q := 50) rfl rfl (by rw [hc]; decide) (by rw [hc]; rfl) ?_
                    refine rn_go 1 (pc' := 10) (l' := [(0, .ref 24), (1, .ref 16)]) (st' := [.ref 16, .ref 50]) (S1 := (SH ++ X)) (V1 := V) rfl ?_
                    obtain ⟨q4, hq4, h⟩ := ai_bd h
                    refine rn_call rfl rfl rfl rfl rfl rfl (by omega) (t_State_becomes_50_16 (by omega) hq4) ?_
                    refine rn_go 6 (pc' := 22) (l' := [(0, .ref 24), (1, .ref 16)]) (st' := [.int (12 : Int32), .int ((gi q4 24 2) + (1 : Int32)), .ref 24]) (S1 := (SH ++ X)) (V1 := q4) rfl ?_
                    refine rg_irem rfl (by decide) ?_
                    refine rn_go 9 (pc' := 41) (l' := [(0, .ref 24), (1, .ref 16)]) (st' := []) (S1 := (SH ++ X)) (V1 := (si (si q4 24 2 (((gi q4 24 2) + (1 : Int32)) - ((gi q4 24 2) + (1 : Int32)) / (12 : Int32) * (12 : Int32))) 24 1 (ai_min ((gi (si q4 24 2 (((gi q4 24 2) + (1 : Int32)) - ((gi q4 24 2) + (1 : Int32)) / (12 : Int32) * (12 : Int32))) 24 1) + (1 : Int32)) (12 : Int32)))) rfl ?_
                    obtain rfl := Option.some.inj h
                    exact rn_ret rfl rfl rfl
                  · rcases ai_if h with ⟨hc, h⟩ | ⟨hc, h⟩
                    · refine rg_aald (n := 12) (q := 53) rfl rfl (by rw [hc]; decide) (by rw [hc]; rfl) ?_
                      refine rn_go 1 (pc' := 10) (l' := [(0, .ref 24), (1, .ref 16)]) (st' := [.ref 16, .ref 53]) (S1 := (SH ++ X)) (V1 := V) rfl ?_
                      obtain ⟨q3, hq3, h⟩ := ai_bd h
                      refine rn_call rfl rfl rfl rfl rfl rfl (by omega) (t_State_becomes_53_16 (by omega) hq3) ?_
                      refine rn_go 6 (pc' := 22) (l' := [(0, .ref 24), (1, .ref 16)]) (st' := [.int (12 : Int32), .int ((gi q3 24 2) + (1 : Int32)), .ref 24]) (S1 := (SH ++ X)) (V1 := q3) rfl ?_
                      refine rg_irem rfl (by decide) ?_
                      refine rn_go 9 (pc' := 41) (l' := [(0, .ref 24), (1, .ref 16)]) (st' := []) (S1 := (SH ++ X)) (V1 := (si (si q3 24 2 (((gi q3 24 2) + (1 : Int32)) - ((gi q3 24 2) + (1 : Int32)) / (12 : Int32) * (12 : Int32))) 24 1 (ai_min ((gi (si q3 24 2 (((gi q3 24 2) + (1 : Int32)) - ((gi q3 24 2) + (1 : Int32)) / (12 : Int32) * (12 : Int32))) 24 1) + (1 : Int32)) (12 : Int32)))) rfl ?_
                      obtain rfl := Option.some.inj h
                      exact rn_ret rfl rfl rfl
                    · rcases ai_if h with ⟨hc, h⟩ | ⟨hc, h⟩
                      · refine rg_aald (n := 12) (q := 56) rfl rfl (by rw [hc]; decide) (by rw [hc]; rfl) ?_
                        refine rn_go 1 (pc' := 10) (l' := [(0, .ref 24), (1, .ref 16)]) (st' := [.ref 16, .ref 56]) (S1 := (SH ++ X)) (V1 := V) rfl ?_
                        obtain ⟨q2, hq2, h⟩ := ai_bd h
                        refine rn_call rfl rfl rfl rfl rfl rfl (by omega) (t_State_becomes_56_16 (by omega) hq2) ?_
                        refine rn_go 6 (pc' := 22) (l' := [(0, .ref 24), (1, .ref 16)]) (st' := [.int (12 : Int32), .int ((gi q2 24 2) + (1 : Int32)), .ref 24]) (S1 := (SH ++ X)) (V1 := q2) rfl ?_
                        refine rg_irem rfl (by decide) ?_
                        refine rn_go 9 (pc' := 41) (l' := [(0, .ref 24), (1, .ref 16)]) (st' := []) (S1 := (SH ++ X)) (V1 := (si (si q2 24 2 (((gi q2 24 2) + (1 : Int32)) - ((gi q2 24 2) + (1 : Int32)) / (12 : Int32) * (12 : Int32))) 24 1 (ai_min ((gi (si q2 24 2 (((gi q2 24 2) + (1 : Int32)) - ((gi q2 24 2) + (1 : Int32)) / (12 : Int32) * (12 : Int32))) 24 1) + (1 : Int32)) (12 : Int32)))) rfl ?_
                        obtain rfl := Option.some.inj h
                        exact rn_ret rfl rfl rfl
                      · rcases ai_if h with ⟨hc, h⟩ | ⟨hc, h⟩
                        · refine rg_aald (n := 12) (q := 59) rfl rfl (by rw [hc]; decide) (by rw [hc]; rfl) ?_
                          refine rn_go 1 (pc' := 10) (l' := [(0, .ref 24), (1, .ref 16)]) (st' := [.ref 16, .ref 59]) (S1 := (SH ++ X)) (V1 := V) rfl ?_
                          obtain ⟨q1, hq1, h⟩ := ai_bd h
                          refine rn_call rfl rfl rfl rfl rfl rfl (by omega) (t_State_becomes (by omega) hq1) ?_
                          refine rn_go 6 (pc' := 22) (l' := [(0, .ref 24), (1, .ref 16)]) (st' := [.int (12 : Int32), .int ((gi q1 24 2) + (1 : Int32)), .ref 24]) (S1 := (SH ++ X)) (V1 := q1) rfl ?_
                          refine rg_irem rfl (by decide) ?_
                          refine rn_go 9 (pc' := 41) (l' := [(0, .ref 24), (1, .ref 16)]) (st' := []) (S1 := (SH ++ X)) (V1 := (si (si q1 24 2 (((gi q1 24 2) + (1 : Int32)) - ((gi q1 24 2) + (1 : Int32)) / (12 : Int32) * (12 : Int32))) 24 1 (ai_min ((gi (si q1 24 2 (((gi q1 24 2) + (1 : Int32)) - ((gi q1 24 2) + (1 : Int32)) / (12 : Int32) * (12 : Int32))) 24 1) + (1 : Int32)) (12 : Int32)))) rfl ?_
                          obtain rfl := Option.some.inj h
                          exact rn_ret rfl rfl rfl
                        · cases h
-- RentByTheWheel$House.chargeOf(II)I (3, None, None)
def d_House_chargeOf (x1 : Int32) (x2 : Int32) (V : ai_V) : Option Int32 :=
  if ai_in x1 6 then (some (x2 * ((ga V 4 (x1).toNatClampNeg) + (1 : Int32)))) else none
set_option maxRecDepth 20000 in
theorem t_House_chargeOf {X : ai_S} {e : Nat} (hd : 0 ≤ e) {x1 : Int32} {x2 : Int32} {V : ai_V} {r : Int32} (h : d_House_chargeOf x1 x2 V = some r) : Rn e 23 0 (lv_args 0 [.ref 3, .int x1, .int x2]) [] (SH ++ X) V (some (.int r)) (SH ++ X) V := by
  rw [d_House_chargeOf] at h
  refine rn_go 4 (pc' := 6) (l' := [(0, .ref 3), (1, .int x1), (2, .int x2)]) (st' := [.int x1, .ref 4, .int x2]) (S1 := (SH ++ X)) (V1 := V) rfl ?_
  obtain ⟨hg, h⟩ := ai_gd h
  refine rg_iald (n := 6) rfl rfl hg ?_
  refine rn_go 3 (pc' := 10) (l' := [(0, .ref 3), (1, .int x1), (2, .int x2)]) (st' := [.int (x2 * ((ga V 4 (x1).toNatClampNeg) + (1 : Int32)))]) (S1 := (SH ++ X)) (V1 := V) rfl ?_
  obtain rfl := Option.some.inj h
  exact rn_ret rfl rfl rfl
-- RentByTheWheel$House.wantOf(II)I (3, None, None)
def d_House_wantOf_28   (V : ai_V) : Option Int32 :=
  some (0 : Int32)
set_option maxRecDepth 20000 in
theorem t_House_wantOf_28 {X : ai_S} {e : Nat} (hd : 1 ≤ e)   (V : ai_V) (r : Int32) (h : d_House_wantOf_28   V = some r) : Rn e 22 28 [] [] (SH ++ X) V (some (.int r)) (SH ++ X) V := by
  rw [d_House_wantOf_28] at h
  refine rn_go 2 (pc' := 45) (l' := []) (st' := [.int (0 : Int32)]) (S1 := (SH ++ X)) (V1 := V) rfl ?_
  obtain rfl := Option.some.inj h
  exact rn_ret rfl rfl rfl
def d_House_wantOf_18  (x1 : Int32) (x2 : Int32) (s0 : Int32) (V : ai_V) : Option Int32 :=
  if s0 < (1 : Int32) then (d_House_wantOf_28 V) else (if 0 ≤ x2 then (if s0 = 0 then none else (if ai_in ((x1 * (12 : Int32)) + (x2 - x2 / s0 * s0)) 72 then (some (ga V 7 (((x1 * (12 : Int32)) + (x2 - x2 / s0 * s0))).toNatClampNeg)) else none)) else (d_House_wantOf_28 V))
set_option maxRecDepth 20000 in
theorem t_House_wantOf_18 {X : ai_S} {e : Nat} (hd : 1 ≤ e)  (x1 : Int32) (x2 : Int32) (s0 : Int32) (V : ai_V) (r : Int32) (h : d_House_wantOf_18  x1 x2 s0 V = some r) : Rn e 22 18 [(0, .ref 3), (1, .int x1), (2, .int x2)] [.int s0] (SH ++ X) V (some (.int r)) (SH ++ X) V := by
  rw [d_House_wantOf_18] at h
  refine rn_go 3 (pc' := 21) (l' := [(3, .int s0), (0, .ref 3), (1, .int x1), (2, .int x2)]) (st' := [.int (1 : Int32), .int s0]) (S1 := (SH ++ X)) (V1 := V) rfl ?_
  rcases ai_if h with ⟨hc, h⟩ | ⟨hc, h⟩
  · refine rn_brT rfl rfl rfl rfl hc ?_
    exact rn_sub [] rfl rfl (t_House_wantOf_28 (X := X) hd V _ h)
  · refine rn_brF rfl rfl rfl rfl hc ?_
    refine rn_go 1 (pc' := 25) (l' := [(3, .int s0), (0, .ref 3), (1, .int x1), (2, .int x2)]) (st' := [.int x2]) (S1 := (SH ++ X)) (V1 := V) rfl ?_
    rcases ai_if h with ⟨hc, h⟩ | ⟨hc, h⟩
    · refine rn_brT rfl rfl rfl rfl hc ?_
      refine rn_go 7 (pc' := 42) (l' := [(3, .int s0), (0, .ref 3), (1, .int x1), (2, .int x2)]) (st' := [.int s0, .int x2, .int (x1 * (12 : Int32)), .ref 7]) (S1 := (SH ++ X)) (V1 := V) rfl ?_
      obtain ⟨hg, h⟩ := ai_gn h
      refine rg_irem rfl hg ?_
      refine rn_go 1 (pc' := 44) (l' := [(3, .int s0), (0, .ref 3), (1, .int x1), (2, .int x2)]) (st' := [.int ((x1 * (12 : Int32)) + (x2 - x2 / s0 * s0)), .ref 7]) (S1 := (SH ++ X)) (V1 := V) rfl ?_
      obtain ⟨hg, h⟩ := ai_gd h
      refine rg_iald (n := 72) rfl rfl hg ?_
      obtain rfl := Option.some.inj h
      exact rn_ret rfl rfl rfl
    · refine rn_brF rfl rfl rfl rfl hc ?_
      exact rn_sub [] rfl rfl (t_House_wantOf_28 (X := X) hd V _ h)
def d_House_wantOf (x1 : Int32) (x2 : Int32) (V : ai_V) : Option Int32 :=
  (d_House_has x1 V).bind fun q1 => (if q1 = 0 then (d_House_wantOf_18 x1 x2 (0 : Int32) V) else (if ai_in x1 6 then (d_House_wantOf_18 x1 x2 (ga V 8 (x1).toNatClampNeg) V) else none))
set_option maxRecDepth 20000 in
theorem t_House_wantOf {X : ai_S} {e : Nat} (hd : 1 ≤ e) {x1 : Int32} {x2 : Int32} {V : ai_V} {r : Int32} (h : d_House_wantOf x1 x2 V = some r) : Rn e 22 0 (lv_args 0 [.ref 3, .int x1, .int x2]) [] (SH ++ X) V (some (.int r)) (SH ++ X) V := by
  rw [d_House_wantOf] at h
  refine rn_go 2 (pc' := 2) (l' := [(0, .ref 3), (1, .int x1), (2, .int x2)]) (st' := [.int x1, .ref 3]) (S1 := (SH ++ X)) (V1 := V) rfl ?_
  obtain ⟨q1, hq1, h⟩ := ai_bd h
  refine rn_call rfl rfl rfl rfl rfl rfl (by omega) (t_House_has (by omega) hq1) ?_
  rcases ai_if h with ⟨hc, h⟩ | ⟨hc, h⟩
  · refine rn_brT rfl rfl rfl rfl hc ?_
    refine rn_go 1 (pc' := 18) (l' := [(0, .ref 3), (1, .int x1), (2, .int x2)]) (st' := [.int (0 : Int32)]) (S1 := (SH ++ X)) (V1 := V) rfl ?_
    exact rn_sub [0, 1, 2] rfl rfl (t_House_wantOf_18 (X := X) hd x1 x2 (0 : Int32) V _ h)
  · refine rn_brF rfl rfl rfl rfl hc ?_
    refine rn_go 3 (pc' := 13) (l' := [(0, .ref 3), (1, .int x1), (2, .int x2)]) (st' := [.int x1, .ref 8]) (S1 := (SH ++ X)) (V1 := V) rfl ?_
    obtain ⟨hg, h⟩ := ai_gd h
    refine rg_iald (n := 6) rfl rfl hg ?_
    refine rn_go 1 (pc' := 18) (l' := [(0, .ref 3), (1, .int x1), (2, .int x2)]) (st' := [.int (ga V 8 (x1).toNatClampNeg)]) (S1 := (SH ++ X)) (V1 := V) rfl ?_
    exact rn_sub [0, 1, 2] rfl rfl (t_House_wantOf_18 (X := X) hd x1 x2 (ga V 8 (x1).toNatClampNeg) V _ h)
-- RentByTheWheel$Wheel.take(LRentByTheWheel$State;[I)V (15, 16, 9)
def d_Wheel_take_105 (F18 : Int32 → Int32 → ai_V → Option ai_V) (x3 : Int32) (x4 : Int32) (V : ai_V) : Option ai_V :=
  F18 x3 (x4 + (1 : Int32)) V
set_option maxRecDepth 20000 in
theorem t_Wheel_take_105 {X : ai_S} {e : Nat} (hd : 2 ≤ e) (F18 : Int32 → Int32 → ai_V → Option ai_V) (hF18 : ∀ (x3 : Int32) (x4 : Int32) (V : ai_V) (r : ai_V), F18 x3 x4 V = some r → Rn e 54 18 [(0, .ref 15), (1, .ref 16), (2, .ref 9), (3, .int x3), (4, .int x4)] [] (SH ++ X) V none (SH ++ X) r) (x3 : Int32) (x4 : Int32) (V : ai_V) (r : ai_V) (h : d_Wheel_take_105 F18 x3 x4 V = some r) : Rn e 54 105 [(0, .ref 15), (1, .ref 16), (2, .ref 9), (3, .int x3), (4, .int x4)] [] (SH ++ X) V none (SH ++ X) r := by
  rw [d_Wheel_take_105] at h
  refine rn_go 2 (pc' := 18) (l' := [(4, .int (x4 + (1 : Int32))), (0, .ref 15), (1, .ref 16), (2, .ref 9), (3, .int x3)]) (st' := []) (S1 := (SH ++ X)) (V1 := V) rfl ?_
  exact rn_sub [1, 2, 3, 4, 0] rfl rfl (hF18 x3 (x4 + (1 : Int32)) V _ h)
def d_Wheel_take_18  : Nat → Int32 → Int32 → ai_V → Option ai_V
  | 0, _, _, _ => none
  | n + 1, x3, x4, V => if (gi V 3 0) ≤ x4 then (some V) else (if ai_in x4 6 then ((d_House_wantOf (ga V 9 (x4).toNatClampNeg) x3 V).bind fun q1 => (if (gi V 16 1) < q1 then (if ai_in (ga V 9 (x4).toNatClampNeg) 6 then (if ai_in (ga V 9 (x4).toNatClampNeg) 6 then (d_Wheel_take_105 (d_Wheel_take_18 n) x3 x4 (si (si (sa V 18 ((ga V 9 (x4).toNatClampNeg)).toNatClampNeg ((ga V 18 ((ga V 9 (x4).toNatClampNeg)).toNatClampNeg) + (1 : Int32))) 15 4 ((gi (sa V 18 ((ga V 9 (x4).toNatClampNeg)).toNatClampNeg ((ga V 18 ((ga V 9 (x4).toNatClampNeg)).toNatClampNeg) + (1 : Int32))) 15 4) ||| ((1 : Int32) <<< ((ga V 9 (x4).toNatClampNeg) &&& 31)))) 15 5 ((gi (si (sa V 18 ((ga V 9 (x4).toNatClampNeg)).toNatClampNeg ((ga V 18 ((ga V 9 (x4).toNatClampNeg)).toNatClampNeg) + (1 : Int32))) 15 4 ((gi (sa V 18 ((ga V 9 (x4).toNatClampNeg)).toNatClampNeg ((ga V 18 ((ga V 9 (x4).toNatClampNeg)).toNatClampNeg) + (1 : Int32))) 15 4) ||| ((1 : Int32) <<< ((ga V 9 (x4).toNatClampNeg) &&& 31)))) 15 5) + (1 : Int32)))) else none) else none) else (d_Wheel_take_105 (d_Wheel_take_18 n) x3 x4 (si V 16 1 ((gi V 16 1) - q1))))) else none)
set_option maxRecDepth 20000 in
theorem t_Wheel_take_18 {X : ai_S} {e : Nat} (hd : 2 ≤ e)  : ∀ (n : Nat) (x3 : Int32) (x4 : Int32) (V : ai_V) (r : ai_V), d_Wheel_take_18  n x3 x4 V = some r → Rn e 54 18 [(0, .ref 15), (1, .ref 16), (2, .ref 9), (3, .int x3), (4, .int x4)] [] (SH ++ X) V none (SH ++ X) r := by
  intro n
  induction n with
  | zero =>
    intro x3 x4 V r h
    cases h
  | succ n ih =>
    intro x3 x4 V r h
    rw [d_Wheel_take_18] at h
    refine rn_go 4 (pc' := 27) (l' := [(0, .ref 15), (1, .ref 16), (2, .ref 9), (3, .int x3), (4, .int x4)]) (st' := [.int (gi V 3 0), .int x4]) (S1 := (SH ++ X)) (V1 := V) rfl ?_
    rcases ai_if h with ⟨hc, h⟩ | ⟨hc, h⟩
    · refine rn_brT rfl rfl rfl rfl hc ?_
      obtain rfl := Option.some.inj h
      exact rn_ret rfl rfl rfl
    · refine rn_brF rfl rfl rfl rfl hc ?_
      refine rn_go 2 (pc' := 33) (l' := [(0, .ref 15), (1, .ref 16), (2, .ref 9), (3, .int x3), (4, .int x4)]) (st' := [.int x4, .ref 9]) (S1 := (SH ++ X)) (V1 := V) rfl ?_
      obtain ⟨hg, h⟩ := ai_gd h
      refine rg_iald (n := 6) rfl rfl hg ?_
      refine rn_go 5 (pc' := 43) (l' := [(5, .int (ga V 9 (x4).toNatClampNeg)), (0, .ref 15), (1, .ref 16), (2, .ref 9), (3, .int x3), (4, .int x4)]) (st' := [.int x3, .int (ga V 9 (x4).toNatClampNeg), .ref 3]) (S1 := (SH ++ X)) (V1 := V) rfl ?_
      obtain ⟨q1, hq1, h⟩ := ai_bd h
      refine rn_call rfl rfl rfl rfl rfl rfl (by omega) (t_House_wantOf (by omega) hq1) ?_
      refine rn_go 4 (pc' := 54) (l' := [(6, .int q1), (5, .int (ga V 9 (x4).toNatClampNeg)), (0, .ref 15), (1, .ref 16), (2, .ref 9), (3, .int x3), (4, .int x4)]) (st' := [.int q1, .int (gi V 16 1)]) (S1 := (SH ++ X)) (V1 := V) rfl ?_
      rcases ai_if h with ⟨hc, h⟩ | ⟨hc, h⟩
      · refine rn_brT rfl rfl rfl rfl hc ?_
        refine rn_go 4 (pc' := 78) (l' := [(6, .int q1), (5, .int (ga V 9 (x4).toNatClampNeg)), (0, .ref 15), (1, .ref 16), (2, .ref 9), (3, .int x3), (4, .int x4)]) (st' := [.int (ga V 9 (x4).toNatClampNeg), .ref 18, .int (ga V 9 (x4).toNatClampNeg), .ref 18]) (S1 := (SH ++ X)) (V1 := V) rfl ?_
        obtain ⟨hg, h⟩ := ai_gd h
        refine rg_iald (n := 6) rfl rfl hg ?_
        refine rn_go 2 (pc' := 81) (l' := [(6, .int q1), (5, .int (ga V 9 (x4).toNatClampNeg)), (0, .ref 15), (1, .ref 16), (2, .ref 9), (3, .int x3), (4, .int x4)]) (st' := [.int ((ga V 18 ((ga V 9 (x4).toNatClampNeg)).toNatClampNeg) + (1 : Int32)), .int (ga V 9 (x4).toNatClampNeg), .ref 18]) (S1 := (SH ++ X)) (V1 := V) rfl ?_
        obtain ⟨hg, h⟩ := ai_gd h
        refine rg_iast (n := 6) rfl rfl hg ?_
        refine rn_go 14 (pc' := 105) (l' := [(6, .int q1), (5, .int (ga V 9 (x4).toNatClampNeg)), (0, .ref 15), (1, .ref 16), (2, .ref 9), (3, .int x3), (4, .int x4)]) (st' := []) (S1 := (SH ++ X)) (V1 := (si (si (sa V 18 ((ga V 9 (x4).toNatClampNeg)).toNatClampNeg ((ga V 18 ((ga V 9 (x4).toNatClampNeg)).toNatClampNeg) + (1 : Int32))) 15 4 ((gi (sa V 18 ((ga V 9 (x4).toNatClampNeg)).toNatClampNeg ((ga V 18 ((ga V 9 (x4).toNatClampNeg)).toNatClampNeg) + (1 : Int32))) 15 4) ||| ((1 : Int32) <<< ((ga V 9 (x4).toNatClampNeg) &&& 31)))) 15 5 ((gi (si (sa V 18 ((ga V 9 (x4).toNatClampNeg)).toNatClampNeg ((ga V 18 ((ga V 9 (x4).toNatClampNeg)).toNatClampNeg) + (1 : Int32))) 15 4 ((gi (sa V 18 ((ga V 9 (x4).toNatClampNeg)).toNatClampNeg ((ga V 18 ((ga V 9 (x4).toNatClampNeg)).toNatClampNeg) + (1 : Int32))) 15 4) ||| ((1 : Int32) <<< ((ga V 9 (x4).toNatClampNeg) &&& 31)))) 15 5) + (1 : Int32)))) rfl ?_
        exact rn_sub [2, 3, 4, 5, 6] rfl rfl (t_Wheel_take_105 (X := X) hd (d_Wheel_take_18 n) (ih) x3 x4 (si (si (sa V 18 ((ga V 9 (x4).toNatClampNeg)).toNatClampNeg ((ga V 18 ((ga V 9 (x4).toNatClampNeg)).toNatClampNeg) + (1 : Int32))) 15 4 ((gi (sa V 18 ((ga V 9 (x4).toNatClampNeg)).toNatClampNeg ((ga V 18 ((ga V 9 (x4).toNatClampNeg)).toNatClampNeg) + (1 : Int32))) 15 4) ||| ((1 : Int32) <<< ((ga V 9 (x4).toNatClampNeg) &&& 31)))) 15 5 ((gi (si (sa V 18 ((ga V 9 (x4).toNatClampNeg)).toNatClampNeg ((ga V 18 ((ga V 9 (x4).toNatClampNeg)).toNatClampNeg) + (1 : Int32))) 15 4 ((gi (sa V 18 ((ga V 9 (x4).toNatClampNeg)).toNatClampNeg ((ga V 18 ((ga V 9 (x4).toNatClampNeg)).toNatClampNeg) + (1 : Int32))) 15 4) ||| ((1 : Int32) <<< ((ga V 9 (x4).toNatClampNeg) &&& 31)))) 15 5) + (1 : Int32))) _ h)
      · refine rn_brF rfl rfl rfl rfl hc ?_
        refine rn_go 7 (pc' := 105) (l' := [(6, .int q1), (5, .int (ga V 9 (x4).toNatClampNeg)), (0, .ref 15), (1, .ref 16), (2, .ref 9), (3, .int x3), (4, .int x4)]) (st' := []) (S1 := (SH ++ X)) (V1 := (si V 16 1 ((gi V 16 1) - q1))) rfl ?_
        exact rn_sub [2, 3, 4, 5, 6] rfl rfl (t_Wheel_take_105 (X := X) hd (d_Wheel_take_18 n) (ih) x3 x4 (si V 16 1 ((gi V 16 1) - q1)) _ h)
def d_Wheel_take  (V : ai_V) : Option ai_V :=
  (d_State_quarterNow  V).bind fun q2 => (d_Wheel_take_18 ai_N q2 (0 : Int32) (si (si V 15 4 (0 : Int32)) 15 5 (0 : Int32)))
set_option maxRecDepth 20000 in
theorem t_Wheel_take {X : ai_S} {e : Nat} (hd : 2 ≤ e)  {V : ai_V} {r : ai_V} (h : d_Wheel_take  V = some r) : Rn e 54 0 (lv_args 0 [.ref 15, .ref 16, .ref 9]) [] (SH ++ X) V none (SH ++ X) r := by
  rw [d_Wheel_take] at h
  refine rn_go 1 (pc' := 1) (l' := [(0, .ref 15), (1, .ref 16), (2, .ref 9)]) (st' := [.ref 16]) (S1 := (SH ++ X)) (V1 := V) rfl ?_
  obtain ⟨q2, hq2, h⟩ := ai_bd h
  refine rn_call rfl rfl rfl rfl rfl rfl (by omega) (t_State_quarterNow (by omega) hq2) ?_
  refine rn_go 9 (pc' := 18) (l' := [(4, .int (0 : Int32)), (3, .int q2), (0, .ref 15), (1, .ref 16), (2, .ref 9)]) (st' := []) (S1 := (SH ++ X)) (V1 := (si (si V 15 4 (0 : Int32)) 15 5 (0 : Int32))) rfl ?_
  exact rn_sub [2, 3, 4, 1, 0] rfl rfl (t_Wheel_take_18 (X := X) hd ai_N q2 (0 : Int32) (si (si V 15 4 (0 : Int32)) 15 5 (0 : Int32)) _ h)
-- RentByTheWheel$Wheel.pass(LRentByTheWheel$State;II)V (15, 16, None, None)
def d_Wheel_pass_176  : Nat → Int32 → ai_V → Option ai_V
  | 0, _, _ => none
  | n + 1, x6, V => if (gi V 3 0) ≤ x6 then (some V) else (if ai_in x6 6 then ((d_House_chargeOf x6 (gi V 3 1) V).bind fun q1 => (if ai_in x6 6 then (d_Wheel_pass_176 n (x6 + (1 : Int32)) (sa V 17 (x6).toNatClampNeg ((ga V 17 (x6).toNatClampNeg) + q1))) else none)) else none)
set_option maxRecDepth 20000 in
theorem t_Wheel_pass_176 {X : ai_S} {e : Nat} (hd : 3 ≤ e)  : ∀ (n : Nat) (x6 : Int32) (V : ai_V) (r : ai_V), d_Wheel_pass_176  n x6 V = some r → Rn e 55 176 [(0, .ref 15), (1, .ref 16), (6, .int x6)] [] (SH ++ X) V none (SH ++ X) r := by
  intro n
  induction n with
  | zero =>
    intro x6 V r h
    cases h
  | succ n ih =>
    intro x6 V r h
    rw [d_Wheel_pass_176] at h
    refine rn_go 4 (pc' := 185) (l' := [(0, .ref 15), (1, .ref 16), (6, .int x6)]) (st' := [.int (gi V 3 0), .int x6]) (S1 := (SH ++ X)) (V1 := V) rfl ?_
    rcases ai_if h with ⟨hc, h⟩ | ⟨hc, h⟩
    · refine rn_brT rfl rfl rfl rfl hc ?_
      obtain rfl := Option.some.inj h
      exact rn_ret rfl rfl rfl
    · refine rn_brF rfl rfl rfl rfl hc ?_
      refine rn_go 4 (pc' := 195) (l' := [(0, .ref 15), (1, .ref 16), (6, .int x6)]) (st' := [.int x6, .ref 17, .int x6, .ref 17]) (S1 := (SH ++ X)) (V1 := V) rfl ?_
      obtain ⟨hg, h⟩ := ai_gd h
      refine rg_iald (n := 6) rfl rfl hg ?_
      refine rn_go 6 (pc' := 209) (l' := [(0, .ref 15), (1, .ref 16), (6, .int x6)]) (st' := [.int (gi V 3 1), .int x6, .ref 3, .int (ga V 17 (x6).toNatClampNeg), .int x6, .ref 17]) (S1 := (SH ++ X)) (V1 := V) rfl ?_
      obtain ⟨q1, hq1, h⟩ := ai_bd h
      refine rn_call rfl rfl rfl rfl rfl rfl (by omega) (t_House_chargeOf (by omega) hq1) ?_
      refine rn_go 1 (pc' := 213) (l' := [(0, .ref 15), (1, .ref 16), (6, .int x6)]) (st' := [.int ((ga V 17 (x6).toNatClampNeg) + q1), .int x6, .ref 17]) (S1 := (SH ++ X)) (V1 := V) rfl ?_
      obtain ⟨hg, h⟩ := ai_gd h
      refine rg_iast (n := 6) rfl rfl hg ?_
      refine rn_go 2 (pc' := 176) (l' := [(6, .int (x6 + (1 : Int32))), (0, .ref 15), (1, .ref 16)]) (st' := []) (S1 := (SH ++ X)) (V1 := (sa V 17 (x6).toNatClampNeg ((ga V 17 (x6).toNatClampNeg) + q1))) rfl ?_
      exact rn_sub [1, 2, 0] rfl rfl (ih (x6 + (1 : Int32)) (sa V 17 (x6).toNatClampNeg ((ga V 17 (x6).toNatClampNeg) + q1)) _ h)
def d_Wheel_pass_144   (V : ai_V) : Option ai_V :=
  (d_Wheel_take  V).bind fun q2 => ((d_State_quarterNow  (si q2 16 0 ((gi q2 16 0) + (1 : Int32)))).bind fun q3 => (if ¬ q3 = 0 then (some (si q2 16 0 ((gi q2 16 0) + (1 : Int32)))) else (d_Wheel_pass_176 ai_N (0 : Int32) (si q2 16 0 ((gi q2 16 0) + (1 : Int32))))))
set_option maxRecDepth 20000 in
theorem t_Wheel_pass_144 {X : ai_S} {e : Nat} (hd : 3 ≤ e)   (V : ai_V) (r : ai_V) (h : d_Wheel_pass_144   V = some r) : Rn e 55 144 [(0, .ref 15), (1, .ref 16)] [] (SH ++ X) V none (SH ++ X) r := by
  rw [d_Wheel_pass_144] at h
  refine rn_go 5 (pc' := 153) (l' := [(0, .ref 15), (1, .ref 16)]) (st' := [.ref 9, .ref 16, .ref 15]) (S1 := (SH ++ X)) (V1 := V) rfl ?_
  obtain ⟨q2, hq2, h⟩ := ai_bd h
  refine rn_call rfl rfl rfl rfl rfl rfl (by omega) (t_Wheel_take (by omega) hq2) ?_
  refine rn_go 7 (pc' := 167) (l' := [(0, .ref 15), (1, .ref 16)]) (st' := [.ref 16]) (S1 := (SH ++ X)) (V1 := (si q2 16 0 ((gi q2 16 0) + (1 : Int32)))) rfl ?_
  obtain ⟨q3, hq3, h⟩ := ai_bd h
  refine rn_call rfl rfl rfl rfl rfl rfl (by omega) (t_State_quarterNow (by omega) hq3) ?_
  rcases ai_if h with ⟨hc, h⟩ | ⟨hc, h⟩
  · refine rn_brT rfl rfl rfl rfl hc ?_
    obtain rfl := Option.some.inj h
    exact rn_ret rfl rfl rfl
  · refine rn_brF rfl rfl rfl rfl hc ?_
    refine rn_go 2 (pc' := 176) (l' := [(6, .int (0 : Int32)), (0, .ref 15), (1, .ref 16)]) (st' := []) (S1 := (SH ++ X)) (V1 := (si q2 16 0 ((gi q2 16 0) + (1 : Int32)))) rfl ?_
    exact rn_sub [1, 2, 0] rfl rfl (t_Wheel_pass_176 (X := X) hd ai_N (0 : Int32) (si q2 16 0 ((gi q2 16 0) + (1 : Int32))) _ h)
def d_Wheel_pass_122  (x3 : Int32) (x5 : Int32) (V : ai_V) : Option ai_V :=
  (d_House_has x3 V).bind fun q4 => (if q4 = 0 then (d_Wheel_pass_144 V) else (if ai_in x3 6 then (if ai_in x3 6 then (d_Wheel_pass_144 (sa V 17 (x3).toNatClampNeg ((ga V 17 (x3).toNatClampNeg) - x5))) else none) else none))
set_option maxRecDepth 20000 in
theorem t_Wheel_pass_122 {X : ai_S} {e : Nat} (hd : 3 ≤ e)  (x3 : Int32) (x5 : Int32) (V : ai_V) (r : ai_V) (h : d_Wheel_pass_122  x3 x5 V = some r) : Rn e 55 122 [(0, .ref 15), (1, .ref 16), (3, .int x3), (5, .int x5)] [] (SH ++ X) V none (SH ++ X) r := by
  rw [d_Wheel_pass_122] at h
  refine rn_go 3 (pc' := 127) (l' := [(0, .ref 15), (1, .ref 16), (3, .int x3), (5, .int x5)]) (st' := [.int x3, .ref 3]) (S1 := (SH ++ X)) (V1 := V) rfl ?_
  obtain ⟨q4, hq4, h⟩ := ai_bd h
  refine rn_call rfl rfl rfl rfl rfl rfl (by omega) (t_House_has (by omega) hq4) ?_
  rcases ai_if h with ⟨hc, h⟩ | ⟨hc, h⟩
  · refine rn_brT rfl rfl rfl rfl hc ?_
    exact rn_sub [0, 1] rfl rfl (t_Wheel_pass_144 (X := X) hd V _ h)
  · refine rn_brF rfl rfl rfl rfl hc ?_
    refine rn_go 4 (pc' := 139) (l' := [(0, .ref 15), (1, .ref 16), (3, .int x3), (5, .int x5)]) (st' := [.int x3, .ref 17, .int x3, .ref 17]) (S1 := (SH ++ X)) (V1 := V) rfl ?_
    obtain ⟨hg, h⟩ := ai_gd h
    refine rg_iald (n := 6) rfl rfl hg ?_
    refine rn_go 2 (pc' := 143) (l' := [(0, .ref 15), (1, .ref 16), (3, .int x3), (5, .int x5)]) (st' := [.int ((ga V 17 (x3).toNatClampNeg) - x5), .int x3, .ref 17]) (S1 := (SH ++ X)) (V1 := V) rfl ?_
    obtain ⟨hg, h⟩ := ai_gd h
    refine rg_iast (n := 6) rfl rfl hg ?_
    exact rn_sub [0, 1] rfl rfl (t_Wheel_pass_144 (X := X) hd (sa V 17 (x3).toNatClampNeg ((ga V 17 (x3).toNatClampNeg) - x5)) _ h)
def d_Wheel_pass (x2 : Int32) (x3 : Int32) (V : ai_V) : Option ai_V :=
  (d_State_quarterNow  V).bind fun q5 => ((d_Wheel_pails x2 x3 (gi V 16 1) q5 (gi V 3 2) V).bind fun q6 => ((d_Wheel_pails x3 x2 (gi q6.2 16 1) q5 (gi q6.2 3 2) q6.2).bind fun q7 => ((d_House_turnsOf x2 x3 (si (si (si q7.2 15 2 (q6.1 + q7.1)) 15 3 (ai_max (0 : Int32) (((gi (si q7.2 15 2 (q6.1 + q7.1)) 16 1) + (gi (si q7.2 15 2 (q6.1 + q7.1)) 15 2)) - (gi (si q7.2 15 2 (q6.1 + q7.1)) 16 2)))) 16 1 ((gi (si (si q7.2 15 2 (q6.1 + q7.1)) 15 3 (ai_max (0 : Int32) (((gi (si q7.2 15 2 (q6.1 + q7.1)) 16 1) + (gi (si q7.2 15 2 (q6.1 + q7.1)) 15 2)) - (gi (si q7.2 15 2 (q6.1 + q7.1)) 16 2)))) 16 1) + ((gi (si (si q7.2 15 2 (q6.1 + q7.1)) 15 3 (ai_max (0 : Int32) (((gi (si q7.2 15 2 (q6.1 + q7.1)) 16 1) + (gi (si q7.2 15 2 (q6.1 + q7.1)) 15 2)) - (gi (si q7.2 15 2 (q6.1 + q7.1)) 16 2)))) 15 2) - (gi (si (si q7.2 15 2 (q6.1 + q7.1)) 15 3 (ai_max (0 : Int32) (((gi (si q7.2 15 2 (q6.1 + q7.1)) 16 1) + (gi (si q7.2 15 2 (q6.1 + q7.1)) 15 2)) - (gi (si q7.2 15 2 (q6.1 + q7.1)) 16 2)))) 15 3))))).bind fun q8 => ((d_House_has x2 (si (si (si q7.2 15 2 (q6.1 + q7.1)) 15 3 (ai_max (0 : Int32) (((gi (si q7.2 15 2 (q6.1 + q7.1)) 16 1) + (gi (si q7.2 15 2 (q6.1 + q7.1)) 15 2)) - (gi (si q7.2 15 2 (q6.1 + q7.1)) 16 2)))) 16 1 ((gi (si (si q7.2 15 2 (q6.1 + q7.1)) 15 3 (ai_max (0 : Int32) (((gi (si q7.2 15 2 (q6.1 + q7.1)) 16 1) + (gi (si q7.2 15 2 (q6.1 + q7.1)) 15 2)) - (gi (si q7.2 15 2 (q6.1 + q7.1)) 16 2)))) 16 1) + ((gi (si (si q7.2 15 2 (q6.1 + q7.1)) 15 3 (ai_max (0 : Int32) (((gi (si q7.2 15 2 (q6.1 + q7.1)) 16 1) + (gi (si q7.2 15 2 (q6.1 + q7.1)) 15 2)) - (gi (si q7.2 15 2 (q6.1 + q7.1)) 16 2)))) 15 2) - (gi (si (si q7.2 15 2 (q6.1 + q7.1)) 15 3 (ai_max (0 : Int32) (((gi (si q7.2 15 2 (q6.1 + q7.1)) 16 1) + (gi (si q7.2 15 2 (q6.1 + q7.1)) 15 2)) - (gi (si q7.2 15 2 (q6.1 + q7.1)) 16 2)))) 15 3))))).bind fun q9 => (if q9 = 0 then (d_Wheel_pass_122 x3 q8 (si (si (si q7.2 15 2 (q6.1 + q7.1)) 15 3 (ai_max (0 : Int32) (((gi (si q7.2 15 2 (q6.1 + q7.1)) 16 1) + (gi (si q7.2 15 2 (q6.1 + q7.1)) 15 2)) - (gi (si q7.2 15 2 (q6.1 + q7.1)) 16 2)))) 16 1 ((gi (si (si q7.2 15 2 (q6.1 + q7.1)) 15 3 (ai_max (0 : Int32) (((gi (si q7.2 15 2 (q6.1 + q7.1)) 16 1) + (gi (si q7.2 15 2 (q6.1 + q7.1)) 15 2)) - (gi (si q7.2 15 2 (q6.1 + q7.1)) 16 2)))) 16 1) + ((gi (si (si q7.2 15 2 (q6.1 + q7.1)) 15 3 (ai_max (0 : Int32) (((gi (si q7.2 15 2 (q6.1 + q7.1)) 16 1) + (gi (si q7.2 15 2 (q6.1 + q7.1)) 15 2)) - (gi (si q7.2 15 2 (q6.1 + q7.1)) 16 2)))) 15 2) - (gi (si (si q7.2 15 2 (q6.1 + q7.1)) 15 3 (ai_max (0 : Int32) (((gi (si q7.2 15 2 (q6.1 + q7.1)) 16 1) + (gi (si q7.2 15 2 (q6.1 + q7.1)) 15 2)) - (gi (si q7.2 15 2 (q6.1 + q7.1)) 16 2)))) 15 3))))) else (if ai_in x2 6 then (if ai_in x2 6 then (d_Wheel_pass_122 x3 q8 (sa (si (si (si q7.2 15 2 (q6.1 + q7.1)) 15 3 (ai_max (0 : Int32) (((gi (si q7.2 15 2 (q6.1 + q7.1)) 16 1) + (gi (si q7.2 15 2 (q6.1 + q7.1)) 15 2)) - (gi (si q7.2 15 2 (q6.1 + q7.1)) 16 2)))) 16 1 ((gi (si (si q7.2 15 2 (q6.1 + q7.1)) 15 3 (ai_max (0 : Int32) (((gi (si q7.2 15 2 (q6.1 + q7.1)) 16 1) + (gi (si q7.2 15 2 (q6.1 + q7.1)) 15 2)) - (gi (si q7.2 15 2 (q6.1 + q7.1)) 16 2)))) 16 1) + ((gi (si (si q7.2 15 2 (q6.1 + q7.1)) 15 3 (ai_max (0 : Int32) (((gi (si q7.2 15 2 (q6.1 + q7.1)) 16 1) + (gi (si q7.2 15 2 (q6.1 + q7.1)) 15 2)) - (gi (si q7.2 15 2 (q6.1 + q7.1)) 16 2)))) 15 2) - (gi (si (si q7.2 15 2 (q6.1 + q7.1)) 15 3 (ai_max (0 : Int32) (((gi (si q7.2 15 2 (q6.1 + q7.1)) 16 1) + (gi (si q7.2 15 2 (q6.1 + q7.1)) 15 2)) - (gi (si q7.2 15 2 (q6.1 + q7.1)) 16 2)))) 15 3)))) 17 (x2).toNatClampNeg ((ga (si (si (si q7.2 15 2 (q6.1 + q7.1)) 15 3 (ai_max (0 : Int32) (((gi (si q7.2 15 2 (q6.1 + q7.1)) 16 1) + (gi (si q7.2 15 2 (q6.1 + q7.1)) 15 2)) - (gi (si q7.2 15 2 (q6.1 + q7.1)) 16 2)))) 16 1 ((gi (si (si q7.2 15 2 (q6.1 + q7.1)) 15 3 (ai_max (0 : Int32) (((gi (si q7.2 15 2 (q6.1 + q7.1)) 16 1) + (gi (si q7.2 15 2 (q6.1 + q7.1)) 15 2)) - (gi (si q7.2 15 2 (q6.1 + q7.1)) 16 2)))) 16 1) + ((gi (si (si q7.2 15 2 (q6.1 + q7.1)) 15 3 (ai_max (0 : Int32) (((gi (si q7.2 15 2 (q6.1 + q7.1)) 16 1) + (gi (si q7.2 15 2 (q6.1 + q7.1)) 15 2)) - (gi (si q7.2 15 2 (q6.1 + q7.1)) 16 2)))) 15 2) - (gi (si (si q7.2 15 2 (q6.1 + q7.1)) 15 3 (ai_max (0 : Int32) (((gi (si q7.2 15 2 (q6.1 + q7.1)) 16 1) + (gi (si q7.2 15 2 (q6.1 + q7.1)) 15 2)) - (gi (si q7.2 15 2 (q6.1 + q7.1)) 16 2)))) 15 3)))) 17 (x2).toNatClampNeg) - q8))) else none) else none))))))
set_option maxRecDepth 20000 in
theorem t_Wheel_pass {X : ai_S} {e : Nat} (hd : 3 ≤ e) {x2 : Int32} {x3 : Int32} {V : ai_V} {r : ai_V} (h : d_Wheel_pass x2 x3 V = some r) : Rn e 55 0 (lv_args 0 [.ref 15, .ref 16, .int x2, .int x3]) [] (SH ++ X) V none (SH ++ X) r := by
  rw [d_Wheel_pass] at h
  refine rn_go 1 (pc' := 1) (l' := [(0, .ref 15), (1, .ref 16), (2, .int x2), (3, .int x3)]) (st' := [.ref 16]) (S1 := (SH ++ X)) (V1 := V) rfl ?_
  obtain ⟨q5, hq5, h⟩ := ai_bd h
  refine rn_call rfl rfl rfl rfl rfl rfl (by omega) (t_State_quarterNow (by omega) hq5) ?_
  refine rn_go 11 (pc' := 23) (l' := [(4, .int q5), (0, .ref 15), (1, .ref 16), (2, .int x2), (3, .int x3)]) (st' := [.int (gi V 3 2), .int q5, .int (gi V 16 1), .int x3, .int x2, .ref 15, .ref 15]) (S1 := (SH ++ X)) (V1 := V) rfl ?_
  obtain ⟨q6, hq6, h⟩ := ai_bd h
  refine rn_call rfl rfl rfl rfl rfl rfl (by omega) (t_Wheel_pails (by omega) hq6) ?_
  refine rn_go 9 (pc' := 42) (l' := [(4, .int q5), (0, .ref 15), (1, .ref 16), (2, .int x2), (3, .int x3)]) (st' := [.int (gi q6.2 3 2), .int q5, .int (gi q6.2 16 1), .int x2, .int x3, .ref 15, .int q6.1, .ref 15]) (S1 := (SH ++ X)) (V1 := q6.2) rfl ?_
  obtain ⟨q7, hq7, h⟩ := ai_bd h
  refine rn_call rfl rfl rfl rfl rfl rfl (by omega) (t_Wheel_pails (by omega) hq7) ?_
  refine rn_go 28 (pc' := 95) (l' := [(4, .int q5), (0, .ref 15), (1, .ref 16), (2, .int x2), (3, .int x3)]) (st' := [.int x3, .int x2, .ref 3]) (S1 := (SH ++ X)) (V1 := (si (si (si q7.2 15 2 (q6.1 + q7.1)) 15 3 (ai_max (0 : Int32) (((gi (si q7.2 15 2 (q6.1 + q7.1)) 16 1) + (gi (si q7.2 15 2 (q6.1 + q7.1)) 15 2)) - (gi (si q7.2 15 2 (q6.1 + q7.1)) 16 2)))) 16 1 ((gi (si (si q7.2 15 2 (q6.1 + q7.1)) 15 3 (ai_max (0 : Int32) (((gi (si q7.2 15 2 (q6.1 + q7.1)) 16 1) + (gi (si q7.2 15 2 (q6.1 + q7.1)) 15 2)) - (gi (si q7.2 15 2 (q6.1 + q7.1)) 16 2)))) 16 1) + ((gi (si (si q7.2 15 2 (q6.1 + q7.1)) 15 3 (ai_max (0 : Int32) (((gi (si q7.2 15 2 (q6.1 + q7.1)) 16 1) + (gi (si q7.2 15 2 (q6.1 + q7.1)) 15 2)) - (gi (si q7.2 15 2 (q6.1 + q7.1)) 16 2)))) 15 2) - (gi (si (si q7.2 15 2 (q6.1 + q7.1)) 15 3 (ai_max (0 : Int32) (((gi (si q7.2 15 2 (q6.1 + q7.1)) 16 1) + (gi (si q7.2 15 2 (q6.1 + q7.1)) 15 2)) - (gi (si q7.2 15 2 (q6.1 + q7.1)) 16 2)))) 15 3))))) rfl ?_
  obtain ⟨q8, hq8, h⟩ := ai_bd h
  refine rn_call rfl rfl rfl rfl rfl rfl (by omega) (t_House_turnsOf (by omega) hq8) ?_
  refine rn_go 4 (pc' := 105) (l' := [(5, .int q8), (4, .int q5), (0, .ref 15), (1, .ref 16), (2, .int x2), (3, .int x3)]) (st' := [.int x2, .ref 3]) (S1 := (SH ++ X)) (V1 := (si (si (si q7.2 15 2 (q6.1 + q7.1)) 15 3 (ai_max (0 : Int32) (((gi (si q7.2 15 2 (q6.1 + q7.1)) 16 1) + (gi (si q7.2 15 2 (q6.1 + q7.1)) 15 2)) - (gi (si q7.2 15 2 (q6.1 + q7.1)) 16 2)))) 16 1 ((gi (si (si q7.2 15 2 (q6.1 + q7.1)) 15 3 (ai_max (0 : Int32) (((gi (si q7.2 15 2 (q6.1 + q7.1)) 16 1) + (gi (si q7.2 15 2 (q6.1 + q7.1)) 15 2)) - (gi (si q7.2 15 2 (q6.1 + q7.1)) 16 2)))) 16 1) + ((gi (si (si q7.2 15 2 (q6.1 + q7.1)) 15 3 (ai_max (0 : Int32) (((gi (si q7.2 15 2 (q6.1 + q7.1)) 16 1) + (gi (si q7.2 15 2 (q6.1 + q7.1)) 15 2)) - (gi (si q7.2 15 2 (q6.1 + q7.1)) 16 2)))) 15 2) - (gi (si (si q7.2 15 2 (q6.1 + q7.1)) 15 3 (ai_max (0 : Int32) (((gi (si q7.2 15 2 (q6.1 + q7.1)) 16 1) + (gi (si q7.2 15 2 (q6.1 + q7.1)) 15 2)) - (gi (si q7.2 15 2 (q6.1 + q7.1)) 16 2)))) 15 3))))) rfl ?_
  obtain ⟨q9, hq9, h⟩ := ai_bd h
  refine rn_call rfl rfl rfl rfl rfl rfl (by omega) (t_House_has (by omega) hq9) ?_
  rcases ai_if h with ⟨hc, h⟩ | ⟨hc, h⟩
  · refine rn_brT rfl rfl rfl rfl hc ?_
    exact rn_sub [2, 3, 5, 0] rfl rfl (t_Wheel_pass_122 (X := X) hd x3 q8 (si (si (si q7.2 15 2 (q6.1 + q7.1)) 15 3 (ai_max (0 : Int32) (((gi (si q7.2 15 2 (q6.1 + q7.1)) 16 1) + (gi (si q7.2 15 2 (q6.1 + q7.1)) 15 2)) - (gi (si q7.2 15 2 (q6.1 + q7.1)) 16 2)))) 16 1 ((gi (si (si q7.2 15 2 (q6.1 + q7.1)) 15 3 (ai_max (0 : Int32) (((gi (si q7.2 15 2 (q6.1 + q7.1)) 16 1) + (gi (si q7.2 15 2 (q6.1 + q7.1)) 15 2)) - (gi (si q7.2 15 2 (q6.1 + q7.1)) 16 2)))) 16 1) + ((gi (si (si q7.2 15 2 (q6.1 + q7.1)) 15 3 (ai_max (0 : Int32) (((gi (si q7.2 15 2 (q6.1 + q7.1)) 16 1) + (gi (si q7.2 15 2 (q6.1 + q7.1)) 15 2)) - (gi (si q7.2 15 2 (q6.1 + q7.1)) 16 2)))) 15 2) - (gi (si (si q7.2 15 2 (q6.1 + q7.1)) 15 3 (ai_max (0 : Int32) (((gi (si q7.2 15 2 (q6.1 + q7.1)) 16 1) + (gi (si q7.2 15 2 (q6.1 + q7.1)) 15 2)) - (gi (si q7.2 15 2 (q6.1 + q7.1)) 16 2)))) 15 3)))) _ h)
  · refine rn_brF rfl rfl rfl rfl hc ?_
    refine rn_go 4 (pc' := 117) (l' := [(5, .int q8), (4, .int q5), (0, .ref 15), (1, .ref 16), (2, .int x2), (3, .int x3)]) (st' := [.int x2, .ref 17, .int x2, .ref 17]) (S1 := (SH ++ X)) (V1 := (si (si (si q7.2 15 2 (q6.1 + q7.1)) 15 3 (ai_max (0 : Int32) (((gi (si q7.2 15 2 (q6.1 + q7.1)) 16 1) + (gi (si q7.2 15 2 (q6.1 + q7.1)) 15 2)) - (gi (si q7.2 15 2 (q6.1 + q7.1)) 16 2)))) 16 1 ((gi (si (si q7.2 15 2 (q6.1 + q7.1)) 15 3 (ai_max (0 : Int32) (((gi (si q7.2 15 2 (q6.1 + q7.1)) 16 1) + (gi (si q7.2 15 2 (q6.1 + q7.1)) 15 2)) - (gi (si q7.2 15 2 (q6.1 + q7.1)) 16 2)))) 16 1) + ((gi (si (si q7.2 15 2 (q6.1 + q7.1)) 15 3 (ai_max (0 : Int32) (((gi (si q7.2 15 2 (q6.1 + q7.1)) 16 1) + (gi (si q7.2 15 2 (q6.1 + q7.1)) 15 2)) - (gi (si q7.2 15 2 (q6.1 + q7.1)) 16 2)))) 15 2) - (gi (si (si q7.2 15 2 (q6.1 + q7.1)) 15 3 (ai_max (0 : Int32) (((gi (si q7.2 15 2 (q6.1 + q7.1)) 16 1) + (gi (si q7.2 15 2 (q6.1 + q7.1)) 15 2)) - (gi (si q7.2 15 2 (q6.1 + q7.1)) 16 2)))) 15 3))))) rfl ?_
    obtain ⟨hg, h⟩ := ai_gd h
    refine rg_iald (n := 6) rfl rfl hg ?_
    refine rn_go 2 (pc' := 121) (l' := [(5, .int q8), (4, .int q5), (0, .ref 15), (1, .ref 16), (2, .int x2), (3, .int x3)]) (st' := [.int ((ga (si (si (si q7.2 15 2 (q6.1 + q7.1)) 15 3 (ai_max (0 : Int32) (((gi (si q7.2 15 2 (q6.1 + q7.1)) 16 1) + (gi (si q7.2 15 2 (q6.1 + q7.1)) 15 2)) - (gi (si q7.2 15 2 (q6.1 + q7.1)) 16 2)))) 16 1 ((gi (si (si q7.2 15 2 (q6.1 + q7.1)) 15 3 (ai_max (0 : Int32) (((gi (si q7.2 15 2 (q6.1 + q7.1)) 16 1) + (gi (si q7.2 15 2 (q6.1 + q7.1)) 15 2)) - (gi (si q7.2 15 2 (q6.1 + q7.1)) 16 2)))) 16 1) + ((gi (si (si q7.2 15 2 (q6.1 + q7.1)) 15 3 (ai_max (0 : Int32) (((gi (si q7.2 15 2 (q6.1 + q7.1)) 16 1) + (gi (si q7.2 15 2 (q6.1 + q7.1)) 15 2)) - (gi (si q7.2 15 2 (q6.1 + q7.1)) 16 2)))) 15 2) - (gi (si (si q7.2 15 2 (q6.1 + q7.1)) 15 3 (ai_max (0 : Int32) (((gi (si q7.2 15 2 (q6.1 + q7.1)) 16 1) + (gi (si q7.2 15 2 (q6.1 + q7.1)) 15 2)) - (gi (si q7.2 15 2 (q6.1 + q7.1)) 16 2)))) 15 3)))) 17 (x2).toNatClampNeg) - q8), .int x2, .ref 17]) (S1 := (SH ++ X)) (V1 := (si (si (si q7.2 15 2 (q6.1 + q7.1)) 15 3 (ai_max (0 : Int32) (((gi (si q7.2 15 2 (q6.1 + q7.1)) 16 1) + (gi (si q7.2 15 2 (q6.1 + q7.1)) 15 2)) - (gi (si q7.2 15 2 (q6.1 + q7.1)) 16 2)))) 16 1 ((gi (si (si q7.2 15 2 (q6.1 + q7.1)) 15 3 (ai_max (0 : Int32) (((gi (si q7.2 15 2 (q6.1 + q7.1)) 16 1) + (gi (si q7.2 15 2 (q6.1 + q7.1)) 15 2)) - (gi (si q7.2 15 2 (q6.1 + q7.1)) 16 2)))) 16 1) + ((gi (si (si q7.2 15 2 (q6.1 + q7.1)) 15 3 (ai_max (0 : Int32) (((gi (si q7.2 15 2 (q6.1 + q7.1)) 16 1) + (gi (si q7.2 15 2 (q6.1 + q7.1)) 15 2)) - (gi (si q7.2 15 2 (q6.1 + q7.1)) 16 2)))) 15 2) - (gi (si (si q7.2 15 2 (q6.1 + q7.1)) 15 3 (ai_max (0 : Int32) (((gi (si q7.2 15 2 (q6.1 + q7.1)) 16 1) + (gi (si q7.2 15 2 (q6.1 + q7.1)) 15 2)) - (gi (si q7.2 15 2 (q6.1 + q7.1)) 16 2)))) 15 3))))) rfl ?_
    obtain ⟨hg, h⟩ := ai_gd h
    refine rg_iast (n := 6) rfl rfl hg ?_
    exact rn_sub [2, 3, 5, 0] rfl rfl (t_Wheel_pass_122 (X := X) hd x3 q8 (sa (si (si (si q7.2 15 2 (q6.1 + q7.1)) 15 3 (ai_max (0 : Int32) (((gi (si q7.2 15 2 (q6.1 + q7.1)) 16 1) + (gi (si q7.2 15 2 (q6.1 + q7.1)) 15 2)) - (gi (si q7.2 15 2 (q6.1 + q7.1)) 16 2)))) 16 1 ((gi (si (si q7.2 15 2 (q6.1 + q7.1)) 15 3 (ai_max (0 : Int32) (((gi (si q7.2 15 2 (q6.1 + q7.1)) 16 1) + (gi (si q7.2 15 2 (q6.1 + q7.1)) 15 2)) - (gi (si q7.2 15 2 (q6.1 + q7.1)) 16 2)))) 16 1) + ((gi (si (si q7.2 15 2 (q6.1 + q7.1)) 15 3 (ai_max (0 : Int32) (((gi (si q7.2 15 2 (q6.1 + q7.1)) 16 1) + (gi (si q7.2 15 2 (q6.1 + q7.1)) 15 2)) - (gi (si q7.2 15 2 (q6.1 + q7.1)) 16 2)))) 15 2) - (gi (si (si q7.2 15 2 (q6.1 + q7.1)) 15 3 (ai_max (0 : Int32) (((gi (si q7.2 15 2 (q6.1 + q7.1)) 16 1) + (gi (si q7.2 15 2 (q6.1 + q7.1)) 15 2)) - (gi (si q7.2 15 2 (q6.1 + q7.1)) 16 2)))) 15 3)))) 17 (x2).toNatClampNeg ((ga (si (si (si q7.2 15 2 (q6.1 + q7.1)) 15 3 (ai_max (0 : Int32) (((gi (si q7.2 15 2 (q6.1 + q7.1)) 16 1) + (gi (si q7.2 15 2 (q6.1 + q7.1)) 15 2)) - (gi (si q7.2 15 2 (q6.1 + q7.1)) 16 2)))) 16 1 ((gi (si (si q7.2 15 2 (q6.1 + q7.1)) 15 3 (ai_max (0 : Int32) (((gi (si q7.2 15 2 (q6.1 + q7.1)) 16 1) + (gi (si q7.2 15 2 (q6.1 + q7.1)) 15 2)) - (gi (si q7.2 15 2 (q6.1 + q7.1)) 16 2)))) 16 1) + ((gi (si (si q7.2 15 2 (q6.1 + q7.1)) 15 3 (ai_max (0 : Int32) (((gi (si q7.2 15 2 (q6.1 + q7.1)) 16 1) + (gi (si q7.2 15 2 (q6.1 + q7.1)) 15 2)) - (gi (si q7.2 15 2 (q6.1 + q7.1)) 16 2)))) 15 2) - (gi (si (si q7.2 15 2 (q6.1 + q7.1)) 15 3 (ai_max (0 : Int32) (((gi (si q7.2 15 2 (q6.1 + q7.1)) 16 1) + (gi (si q7.2 15 2 (q6.1 + q7.1)) 15 2)) - (gi (si q7.2 15 2 (q6.1 + q7.1)) 16 2)))) 15 3)))) 17 (x2).toNatClampNeg) - q8)) _ h)
-- RentByTheWheel$Row.tellThree(JJJ)V (22, None, None, None)
def d_Row_tellThree (x1 : Int64) (x3 : Int64) (x5 : Int64) (V : ai_V) : Option ai_V :=
  (d_Row_tellTwo x1 x3 V).bind fun q1 => ((d_Row_add x5 q1).bind fun q2 => (some q2))
set_option maxRecDepth 20000 in
theorem t_Row_tellThree {X : ai_S} {e : Nat} (hd : 3 ≤ e) {x1 : Int64} {x3 : Int64} {x5 : Int64} {V : ai_V} {r : ai_V} (h : d_Row_tellThree x1 x3 x5 V = some r) : Rn e 66 0 (lv_args 0 [.ref 22, .long x1, .long x3, .long x5]) [] (SH ++ X) V none (SH ++ X) r := by
  rw [d_Row_tellThree] at h
  refine rn_go 3 (pc' := 3) (l' := [(0, .ref 22), (1, .long x1), (3, .long x3), (5, .long x5)]) (st' := [.long x3, .long x1, .ref 22]) (S1 := (SH ++ X)) (V1 := V) rfl ?_
  obtain ⟨q1, hq1, h⟩ := ai_bd h
  refine rn_call rfl rfl rfl rfl rfl rfl (by omega) (t_Row_tellTwo (by omega) hq1) ?_
  refine rn_go 2 (pc' := 9) (l' := [(0, .ref 22), (1, .long x1), (3, .long x3), (5, .long x5)]) (st' := [.long x5, .ref 22]) (S1 := (SH ++ X)) (V1 := q1) rfl ?_
  obtain ⟨q2, hq2, h⟩ := ai_bd h
  refine rn_call rfl rfl rfl rfl rfl rfl (by omega) (t_Row_add (by omega) hq2) ?_
  obtain rfl := Option.some.inj h
  exact rn_ret rfl rfl rfl
-- RentByTheWheel.quarter(II)I (0, None, None)
def d_X_quarter (x1 : Int32) (x2 : Int32) (V : ai_V) : Option (Int32 × ai_V) :=
  (d_House_canTread x1 x2 V).bind fun q1 => (if ¬ q1 = 0 then ((d_Past_save  V).bind fun q2 => ((d_Wheel_pass x1 x2 q2).bind fun q3 => ((d_Row_tellThree (((gi q3 15 2)).toInt64) (((gi q3 15 3)).toInt64) (((gi q3 15 4)).toInt64) q3).bind fun q4 => (some ((gi q4 16 1), q4))))) else (some ((-2 : Int32), V)))
set_option maxRecDepth 20000 in
theorem t_X_quarter {X : ai_S} {e : Nat} (hd : 4 ≤ e) {x1 : Int32} {x2 : Int32} {V : ai_V} {r : (Int32 × ai_V)} (h : d_X_quarter x1 x2 V = some r) : Rn e 106 0 (lv_args 0 [.ref 0, .int x1, .int x2]) [] (SH ++ X) V (some (.int r.1)) (SH ++ X) r.2 := by
  rw [d_X_quarter] at h
  refine rn_go 4 (pc' := 6) (l' := [(0, .ref 0), (1, .int x1), (2, .int x2)]) (st' := [.int x2, .int x1, .ref 3]) (S1 := (SH ++ X)) (V1 := V) rfl ?_
  obtain ⟨q1, hq1, h⟩ := ai_bd h
  refine rn_call rfl rfl rfl rfl rfl rfl (by omega) (t_House_canTread (by omega) hq1) ?_
  rcases ai_if h with ⟨hc, h⟩ | ⟨hc, h⟩
  · refine rn_brT rfl rfl rfl rfl hc ?_
    refine rn_go 4 (pc' := 23) (l' := [(0, .ref 0), (1, .int x1), (2, .int x2)]) (st' := [.ref 16, .ref 24]) (S1 := (SH ++ X)) (V1 := V) rfl ?_
    obtain ⟨q2, hq2, h⟩ := ai_bd h
    refine rn_call rfl rfl rfl rfl rfl rfl (by omega) (t_Past_save (by omega) hq2) ?_
    refine rn_go 6 (pc' := 36) (l' := [(0, .ref 0), (1, .int x1), (2, .int x2)]) (st' := [.int x2, .int x1, .ref 16, .ref 15]) (S1 := (SH ++ X)) (V1 := q2) rfl ?_
    obtain ⟨q3, hq3, h⟩ := ai_bd h
    refine rn_call rfl rfl rfl rfl rfl rfl (by omega) (t_Wheel_pass (by omega) hq3) ?_
    refine rn_go 14 (pc' := 67) (l' := [(0, .ref 0), (1, .int x1), (2, .int x2)]) (st' := [.long ((gi q3 15 4)).toInt64, .long ((gi q3 15 3)).toInt64, .long ((gi q3 15 2)).toInt64, .ref 22]) (S1 := (SH ++ X)) (V1 := q3) rfl ?_
    obtain ⟨q4, hq4, h⟩ := ai_bd h
    refine rn_call rfl rfl rfl rfl rfl rfl (by omega) (t_Row_tellThree (by omega) hq4) ?_
    refine rn_go 3 (pc' := 77) (l' := [(0, .ref 0), (1, .int x1), (2, .int x2)]) (st' := [.int (gi q4 16 1)]) (S1 := (SH ++ X)) (V1 := q4) rfl ?_
    obtain rfl := Option.some.inj h
    exact rn_ret rfl rfl rfl
  · refine rn_brF rfl rfl rfl rfl hc ?_
    refine rn_go 1 (pc' := 14) (l' := [(0, .ref 0), (1, .int x1), (2, .int x2)]) (st' := [.int (-2 : Int32)]) (S1 := (SH ++ X)) (V1 := V) rfl ?_
    obtain rfl := Option.some.inj h
    exact rn_ret rfl rfl rfl
-- RentByTheWheel.faultOfDay()I (0,)
def d_X_faultOfDay_165 (F17 : Int32 → Int32 → Int32 → ai_V → Option Int32) (x1 : Int32) (x2 : Int32) (x3 : Int32) (V : ai_V) : Option Int32 :=
  F17 x1 x2 (x3 + (1 : Int32)) V
set_option maxRecDepth 20000 in
theorem t_X_faultOfDay_165 {X : ai_S} {e : Nat} (hd : 1 ≤ e) (F17 : Int32 → Int32 → Int32 → ai_V → Option Int32) (hF17 : ∀ (x1 : Int32) (x2 : Int32) (x3 : Int32) (V : ai_V) (r : Int32), F17 x1 x2 x3 V = some r → Rn e 107 17 [(0, .ref 0), (1, .int x1), (2, .int x2), (3, .int x3)] [] (SH ++ X) V (some (.int r)) (SH ++ X) V) (x1 : Int32) (x2 : Int32) (x3 : Int32) (V : ai_V) (r : Int32) (h : d_X_faultOfDay_165 F17 x1 x2 x3 V = some r) : Rn e 107 165 [(0, .ref 0), (1, .int x1), (2, .int x2), (3, .int x3)] [] (SH ++ X) V (some (.int r)) (SH ++ X) V := by
  rw [d_X_faultOfDay_165] at h
  refine rn_go 2 (pc' := 17) (l' := [(3, .int (x3 + (1 : Int32))), (0, .ref 0), (1, .int x1), (2, .int x2)]) (st' := []) (S1 := (SH ++ X)) (V1 := V) rfl ?_
  exact rn_sub [1, 2, 3, 0] rfl rfl (hF17 x1 x2 (x3 + (1 : Int32)) V _ h)
def d_X_faultOfDay_159 (F17 : Int32 → Int32 → Int32 → ai_V → Option Int32) (x1 : Int32) (x2 : Int32) (x3 : Int32) (V : ai_V) : Option Int32 :=
  d_X_faultOfDay_165 F17 x1 ((x2 + (1 : Int32)) - (x2 + (1 : Int32)) / (4 : Int32) * (4 : Int32)) x3 V
set_option maxRecDepth 20000 in
theorem t_X_faultOfDay_159 {X : ai_S} {e : Nat} (hd : 1 ≤ e) (F17 : Int32 → Int32 → Int32 → ai_V → Option Int32) (hF17 : ∀ (x1 : Int32) (x2 : Int32) (x3 : Int32) (V : ai_V) (r : Int32), F17 x1 x2 x3 V = some r → Rn e 107 17 [(0, .ref 0), (1, .int x1), (2, .int x2), (3, .int x3)] [] (SH ++ X) V (some (.int r)) (SH ++ X) V) (x1 : Int32) (x2 : Int32) (x3 : Int32) (V : ai_V) (r : Int32) (h : d_X_faultOfDay_159 F17 x1 x2 x3 V = some r) : Rn e 107 159 [(0, .ref 0), (1, .int x1), (2, .int x2), (3, .int x3)] [] (SH ++ X) V (some (.int r)) (SH ++ X) V := by
  rw [d_X_faultOfDay_159] at h
  refine rn_go 4 (pc' := 163) (l' := [(0, .ref 0), (1, .int x1), (2, .int x2), (3, .int x3)]) (st' := [.int (4 : Int32), .int (x2 + (1 : Int32))]) (S1 := (SH ++ X)) (V1 := V) rfl ?_
  refine rg_irem rfl (by decide) ?_
  refine rn_go 1 (pc' := 165) (l' := [(2, .int ((x2 + (1 : Int32)) - (x2 + (1 : Int32)) / (4 : Int32) * (4 : Int32))), (0, .ref 0), (1, .int x1), (3, .int x3)]) (st' := []) (S1 := (SH ++ X)) (V1 := V) rfl ?_
  exact rn_sub [1, 2, 0, 3] rfl rfl (t_X_faultOfDay_165 (X := X) hd F17 hF17 x1 ((x2 + (1 : Int32)) - (x2 + (1 : Int32)) / (4 : Int32) * (4 : Int32)) x3 V _ h)
def d_X_faultOfDay_139 (F17 : Int32 → Int32 → Int32 → ai_V → Option Int32) (x1 : Int32) (x2 : Int32) (x3 : Int32) (x4 : Int32) (s0 : Int32) (V : ai_V) : Option Int32 :=
  if ¬ s0 = 0 then (if 0 < x2 then (d_X_faultOfDay_159 F17 x1 x2 x3 V) else (if ¬ x4 = (91 : Int32) then (d_X_faultOfDay_165 F17 x1 x2 x3 V) else (d_X_faultOfDay_159 F17 x1 x2 x3 V))) else (some x3)
set_option maxRecDepth 20000 in
theorem t_X_faultOfDay_139 {X : ai_S} {e : Nat} (hd : 1 ≤ e) (F17 : Int32 → Int32 → Int32 → ai_V → Option Int32) (hF17 : ∀ (x1 : Int32) (x2 : Int32) (x3 : Int32) (V : ai_V) (r : Int32), F17 x1 x2 x3 V = some r → Rn e 107 17 [(0, .ref 0), (1, .int x1), (2, .int x2), (3, .int x3)] [] (SH ++ X) V (some (.int r)) (SH ++ X) V) (x1 : Int32) (x2 : Int32) (x3 : Int32) (x4 : Int32) (s0 : Int32) (V : ai_V) (r : Int32) (h : d_X_faultOfDay_139 F17 x1 x2 x3 x4 s0 V = some r) : Rn e 107 139 [(0, .ref 0), (1, .int x1), (2, .int x2), (3, .int x3), (4, .int x4)] [.int s0] (SH ++ X) V (some (.int r)) (SH ++ X) V := by
  rw [d_X_faultOfDay_139] at h
  refine rn_go 2 (pc' := 143) (l' := [(6, .int s0), (0, .ref 0), (1, .int x1), (2, .int x2), (3, .int x3), (4, .int x4)]) (st' := [.int s0]) (S1 := (SH ++ X)) (V1 := V) rfl ?_
  rcases ai_if h with ⟨hc, h⟩ | ⟨hc, h⟩
  · refine rn_brT rfl rfl rfl rfl hc ?_
    refine rn_go 1 (pc' := 149) (l' := [(6, .int s0), (0, .ref 0), (1, .int x1), (2, .int x2), (3, .int x3), (4, .int x4)]) (st' := [.int x2]) (S1 := (SH ++ X)) (V1 := V) rfl ?_
    rcases ai_if h with ⟨hc, h⟩ | ⟨hc, h⟩
    · refine rn_brT rfl rfl rfl rfl hc ?_
      exact rn_sub [1, 2, 3, 4] rfl rfl (t_X_faultOfDay_159 (X := X) hd F17 hF17 x1 x2 x3 V _ h)
    · refine rn_brF rfl rfl rfl rfl hc ?_
      refine rn_go 2 (pc' := 156) (l' := [(6, .int s0), (0, .ref 0), (1, .int x1), (2, .int x2), (3, .int x3), (4, .int x4)]) (st' := [.int (91 : Int32), .int x4]) (S1 := (SH ++ X)) (V1 := V) rfl ?_
      rcases ai_if h with ⟨hc, h⟩ | ⟨hc, h⟩
      · refine rn_brT rfl rfl rfl rfl hc ?_
        exact rn_sub [1, 2, 3, 4] rfl rfl (t_X_faultOfDay_165 (X := X) hd F17 hF17 x1 x2 x3 V _ h)
      · refine rn_brF rfl rfl rfl rfl hc ?_
        exact rn_sub [1, 2, 3, 4] rfl rfl (t_X_faultOfDay_159 (X := X) hd F17 hF17 x1 x2 x3 V _ h)
  · refine rn_brF rfl rfl rfl rfl hc ?_
    refine rn_go 1 (pc' := 147) (l' := [(6, .int s0), (0, .ref 0), (1, .int x1), (2, .int x2), (3, .int x3), (4, .int x4)]) (st' := [.int x3]) (S1 := (SH ++ X)) (V1 := V) rfl ?_
    obtain rfl := Option.some.inj h
    exact rn_ret rfl rfl rfl
def d_X_faultOfDay_123 (F17 : Int32 → Int32 → Int32 → ai_V → Option Int32) (x1 : Int32) (x2 : Int32) (x3 : Int32) (x4 : Int32) (V : ai_V) : Option Int32 :=
  d_X_faultOfDay_139 F17 x1 x2 x3 x4 (0 : Int32) V
set_option maxRecDepth 20000 in
theorem t_X_faultOfDay_123 {X : ai_S} {e : Nat} (hd : 1 ≤ e) (F17 : Int32 → Int32 → Int32 → ai_V → Option Int32) (hF17 : ∀ (x1 : Int32) (x2 : Int32) (x3 : Int32) (V : ai_V) (r : Int32), F17 x1 x2 x3 V = some r → Rn e 107 17 [(0, .ref 0), (1, .int x1), (2, .int x2), (3, .int x3)] [] (SH ++ X) V (some (.int r)) (SH ++ X) V) (x1 : Int32) (x2 : Int32) (x3 : Int32) (x4 : Int32) (V : ai_V) (r : Int32) (h : d_X_faultOfDay_123 F17 x1 x2 x3 x4 V = some r) : Rn e 107 123 [(0, .ref 0), (1, .int x1), (2, .int x2), (3, .int x3), (4, .int x4)] [] (SH ++ X) V (some (.int r)) (SH ++ X) V := by
  rw [d_X_faultOfDay_123] at h
  refine rn_go 2 (pc' := 139) (l' := [(0, .ref 0), (1, .int x1), (2, .int x2), (3, .int x3), (4, .int x4)]) (st' := [.int (0 : Int32)]) (S1 := (SH ++ X)) (V1 := V) rfl ?_
  exact rn_sub [0, 1, 2, 3, 4] rfl rfl (t_X_faultOfDay_139 (X := X) hd F17 hF17 x1 x2 x3 x4 (0 : Int32) V _ h)
def d_X_faultOfDay_76 (F17 : Int32 → Int32 → Int32 → ai_V → Option Int32) (x1 : Int32) (x2 : Int32) (x3 : Int32) (x4 : Int32) (V : ai_V) : Option Int32 :=
  d_X_faultOfDay_139 F17 x1 x2 x3 x4 (1 : Int32) V
set_option maxRecDepth 20000 in
theorem t_X_faultOfDay_76 {X : ai_S} {e : Nat} (hd : 1 ≤ e) (F17 : Int32 → Int32 → Int32 → ai_V → Option Int32) (hF17 : ∀ (x1 : Int32) (x2 : Int32) (x3 : Int32) (V : ai_V) (r : Int32), F17 x1 x2 x3 V = some r → Rn e 107 17 [(0, .ref 0), (1, .int x1), (2, .int x2), (3, .int x3)] [] (SH ++ X) V (some (.int r)) (SH ++ X) V) (x1 : Int32) (x2 : Int32) (x3 : Int32) (x4 : Int32) (V : ai_V) (r : Int32) (h : d_X_faultOfDay_76 F17 x1 x2 x3 x4 V = some r) : Rn e 107 76 [(0, .ref 0), (1, .int x1), (2, .int x2), (3, .int x3), (4, .int x4)] [] (SH ++ X) V (some (.int r)) (SH ++ X) V := by
  rw [d_X_faultOfDay_76] at h
  refine rn_go 2 (pc' := 139) (l' := [(0, .ref 0), (1, .int x1), (2, .int x2), (3, .int x3), (4, .int x4)]) (st' := [.int (1 : Int32)]) (S1 := (SH ++ X)) (V1 := V) rfl ?_
  exact rn_sub [0, 1, 2, 3, 4] rfl rfl (t_X_faultOfDay_139 (X := X) hd F17 hF17 x1 x2 x3 x4 (1 : Int32) V _ h)
def d_X_faultOfDay_51 (F17 : Int32 → Int32 → Int32 → ai_V → Option Int32) (x1 : Int32) (x2 : Int32) (x3 : Int32) (x4 : Int32) (s0 : Int32) (V : ai_V) : Option Int32 :=
  if ¬ x2 = 0 then (if ¬ x2 = (1 : Int32) then (if ¬ x2 = (2 : Int32) then (if ¬ x4 = (93 : Int32) then (d_X_faultOfDay_139 F17 x1 x2 x3 x4 (0 : Int32) V) else (d_X_faultOfDay_139 F17 x1 x2 x3 x4 (1 : Int32) V)) else (if s0 = 0 then (d_X_faultOfDay_123 F17 x1 x2 x3 x4 V) else ((d_Text_at (x3 - (1 : Int32)) V).bind fun q1 => (if x4 = q1 then (d_X_faultOfDay_123 F17 x1 x2 x3 x4 V) else (d_X_faultOfDay_139 F17 x1 x2 x3 x4 (1 : Int32) V))))) else (d_X_faultOfDay_139 F17 x1 x2 x3 x4 s0 V)) else (if ¬ s0 = 0 then (d_X_faultOfDay_76 F17 x1 x2 x3 x4 V) else (if x4 = (46 : Int32) then (d_X_faultOfDay_76 F17 x1 x2 x3 x4 V) else (if ¬ x4 = (91 : Int32) then (d_X_faultOfDay_139 F17 x1 x2 x3 x4 (0 : Int32) V) else (d_X_faultOfDay_76 F17 x1 x2 x3 x4 V))))
set_option maxRecDepth 20000 in
theorem t_X_faultOfDay_51 {X : ai_S} {e : Nat} (hd : 1 ≤ e) (F17 : Int32 → Int32 → Int32 → ai_V → Option Int32) (hF17 : ∀ (x1 : Int32) (x2 : Int32) (x3 : Int32) (V : ai_V) (r : Int32), F17 x1 x2 x3 V = some r → Rn e 107 17 [(0, .ref 0), (1, .int x1), (2, .int x2), (3, .int x3)] [] (SH ++ X) V (some (.int r)) (SH ++ X) V) (x1 : Int32) (x2 : Int32) (x3 : Int32) (x4 : Int32) (s0 : Int32) (V : ai_V) (r : Int32) (h : d_X_faultOfDay_51 F17 x1 x2 x3 x4 s0 V = some r) : Rn e 107 51 [(0, .ref 0), (1, .int x1), (2, .int x2), (3, .int x3), (4, .int x4)] [.int s0] (SH ++ X) V (some (.int r)) (SH ++ X) V := by
  rw [d_X_faultOfDay_51] at h
  refine rn_go 2 (pc' := 54) (l' := [(5, .int s0), (0, .ref 0), (1, .int x1), (2, .int x2), (3, .int x3), (4, .int x4)]) (st' := [.int x2]) (S1 := (SH ++ X)) (V1 := V) rfl ?_
  rcases ai_if h with ⟨hc, h⟩ | ⟨hc, h⟩
  · refine rn_brT rfl rfl rfl rfl hc ?_
    refine rn_go 2 (pc' := 86) (l' := [(5, .int s0), (0, .ref 0), (1, .int x1), (2, .int x2), (3, .int x3), (4, .int x4)]) (st' := [.int (1 : Int32), .int x2]) (S1 := (SH ++ X)) (V1 := V) rfl ?_
    rcases ai_if h with ⟨hc, h⟩ | ⟨hc, h⟩
    · refine rn_brT rfl rfl rfl rfl hc ?_
      refine rn_go 2 (pc' := 96) (l' := [(5, .int s0), (0, .ref 0), (1, .int x1), (2, .int x2), (3, .int x3), (4, .int x4)]) (st' := [.int (2 : Int32), .int x2]) (S1 := (SH ++ X)) (V1 := V) rfl ?_
      rcases ai_if h with ⟨hc, h⟩ | ⟨hc, h⟩
      · refine rn_brT rfl rfl rfl rfl hc ?_
        refine rn_go 2 (pc' := 131) (l' := [(5, .int s0), (0, .ref 0), (1, .int x1), (2, .int x2), (3, .int x3), (4, .int x4)]) (st' := [.int (93 : Int32), .int x4]) (S1 := (SH ++ X)) (V1 := V) rfl ?_
        rcases ai_if h with ⟨hc, h⟩ | ⟨hc, h⟩
        · refine rn_brT rfl rfl rfl rfl hc ?_
          refine rn_go 1 (pc' := 139) (l' := [(5, .int s0), (0, .ref 0), (1, .int x1), (2, .int x2), (3, .int x3), (4, .int x4)]) (st' := [.int (0 : Int32)]) (S1 := (SH ++ X)) (V1 := V) rfl ?_
          exact rn_sub [1, 2, 3, 4, 5] rfl rfl (t_X_faultOfDay_139 (X := X) hd F17 hF17 x1 x2 x3 x4 (0 : Int32) V _ h)
        · refine rn_brF rfl rfl rfl rfl hc ?_
          refine rn_go 2 (pc' := 139) (l' := [(5, .int s0), (0, .ref 0), (1, .int x1), (2, .int x2), (3, .int x3), (4, .int x4)]) (st' := [.int (1 : Int32)]) (S1 := (SH ++ X)) (V1 := V) rfl ?_
          exact rn_sub [1, 2, 3, 4, 5] rfl rfl (t_X_faultOfDay_139 (X := X) hd F17 hF17 x1 x2 x3 x4 (1 : Int32) V _ h)
      · refine rn_brF rfl rfl rfl rfl hc ?_
        refine rn_go 1 (pc' := 101) (l' := [(5, .int s0), (0, .ref 0), (1, .int x1), (2, .int x2), (3, .int x3), (4, .int x4)]) (st' := [.int s0]) (S1 := (SH ++ X)) (V1 := V) rfl ?_
        rcases ai_if h with ⟨hc, h⟩ | ⟨hc, h⟩
        · refine rn_brT rfl rfl rfl rfl hc ?_
          exact rn_sub [1, 2, 3, 4, 5] rfl rfl (t_X_faultOfDay_123 (X := X) hd F17 hF17 x1 x2 x3 x4 V _ h)
        · refine rn_brF rfl rfl rfl rfl hc ?_
          refine rn_go 6 (pc' := 113) (l' := [(5, .int s0), (0, .ref 0), (1, .int x1), (2, .int x2), (3, .int x3), (4, .int x4)]) (st' := [.int (x3 - (1 : Int32)), .ref 1, .int x4]) (S1 := (SH ++ X)) (V1 := V) rfl ?_
          obtain ⟨q1, hq1, h⟩ := ai_bd h
          refine rn_call rfl rfl rfl rfl rfl rfl (by omega) (t_Text_at (by omega) hq1) ?_
          rcases ai_if h with ⟨hc, h⟩ | ⟨hc, h⟩
          · refine rn_brT rfl rfl rfl rfl hc ?_
            exact rn_sub [1, 2, 3, 4, 5] rfl rfl (t_X_faultOfDay_123 (X := X) hd F17 hF17 x1 x2 x3 x4 V _ h)
          · refine rn_brF rfl rfl rfl rfl hc ?_
            refine rn_go 2 (pc' := 139) (l' := [(5, .int s0), (0, .ref 0), (1, .int x1), (2, .int x2), (3, .int x3), (4, .int x4)]) (st' := [.int (1 : Int32)]) (S1 := (SH ++ X)) (V1 := V) rfl ?_
            exact rn_sub [1, 2, 3, 4, 5] rfl rfl (t_X_faultOfDay_139 (X := X) hd F17 hF17 x1 x2 x3 x4 (1 : Int32) V _ h)
    · refine rn_brF rfl rfl rfl rfl hc ?_
      refine rn_go 2 (pc' := 139) (l' := [(5, .int s0), (0, .ref 0), (1, .int x1), (2, .int x2), (3, .int x3), (4, .int x4)]) (st' := [.int s0]) (S1 := (SH ++ X)) (V1 := V) rfl ?_
      exact rn_sub [1, 2, 3, 4, 5] rfl rfl (t_X_faultOfDay_139 (X := X) hd F17 hF17 x1 x2 x3 x4 s0 V _ h)
  · refine rn_brF rfl rfl rfl rfl hc ?_
    refine rn_go 1 (pc' := 59) (l' := [(5, .int s0), (0, .ref 0), (1, .int x1), (2, .int x2), (3, .int x3), (4, .int x4)]) (st' := [.int s0]) (S1 := (SH ++ X)) (V1 := V) rfl ?_
    rcases ai_if h with ⟨hc, h⟩ | ⟨hc, h⟩
    · refine rn_brT rfl rfl rfl rfl hc ?_
      exact rn_sub [1, 2, 3, 4, 5] rfl rfl (t_X_faultOfDay_76 (X := X) hd F17 hF17 x1 x2 x3 x4 V _ h)
    · refine rn_brF rfl rfl rfl rfl hc ?_
      refine rn_go 2 (pc' := 66) (l' := [(5, .int s0), (0, .ref 0), (1, .int x1), (2, .int x2), (3, .int x3), (4, .int x4)]) (st' := [.int (46 : Int32), .int x4]) (S1 := (SH ++ X)) (V1 := V) rfl ?_
      rcases ai_if h with ⟨hc, h⟩ | ⟨hc, h⟩
      · refine rn_brT rfl rfl rfl rfl hc ?_
        exact rn_sub [1, 2, 3, 4, 5] rfl rfl (t_X_faultOfDay_76 (X := X) hd F17 hF17 x1 x2 x3 x4 V _ h)
      · refine rn_brF rfl rfl rfl rfl hc ?_
        refine rn_go 2 (pc' := 73) (l' := [(5, .int s0), (0, .ref 0), (1, .int x1), (2, .int x2), (3, .int x3), (4, .int x4)]) (st' := [.int (91 : Int32), .int x4]) (S1 := (SH ++ X)) (V1 := V) rfl ?_
        rcases ai_if h with ⟨hc, h⟩ | ⟨hc, h⟩
        · refine rn_brT rfl rfl rfl rfl hc ?_
          refine rn_go 2 (pc' := 139) (l' := [(5, .int s0), (0, .ref 0), (1, .int x1), (2, .int x2), (3, .int x3), (4, .int x4)]) (st' := [.int (0 : Int32)]) (S1 := (SH ++ X)) (V1 := V) rfl ?_
          exact rn_sub [1, 2, 3, 4, 5] rfl rfl (t_X_faultOfDay_139 (X := X) hd F17 hF17 x1 x2 x3 x4 (0 : Int32) V _ h)
        · refine rn_brF rfl rfl rfl rfl hc ?_
          exact rn_sub [1, 2, 3, 4, 5] rfl rfl (t_X_faultOfDay_76 (X := X) hd F17 hF17 x1 x2 x3 x4 V _ h)
def d_X_faultOfDay_50 (F17 : Int32 → Int32 → Int32 → ai_V → Option Int32) (x1 : Int32) (x2 : Int32) (x3 : Int32) (x4 : Int32) (V : ai_V) : Option Int32 :=
  d_X_faultOfDay_51 F17 x1 x2 x3 x4 (0 : Int32) V
set_option maxRecDepth 20000 in
theorem t_X_faultOfDay_50 {X : ai_S} {e : Nat} (hd : 1 ≤ e) (F17 : Int32 → Int32 → Int32 → ai_V → Option Int32) (hF17 : ∀ (x1 : Int32) (x2 : Int32) (x3 : Int32) (V : ai_V) (r : Int32), F17 x1 x2 x3 V = some r → Rn e 107 17 [(0, .ref 0), (1, .int x1), (2, .int x2), (3, .int x3)] [] (SH ++ X) V (some (.int r)) (SH ++ X) V) (x1 : Int32) (x2 : Int32) (x3 : Int32) (x4 : Int32) (V : ai_V) (r : Int32) (h : d_X_faultOfDay_50 F17 x1 x2 x3 x4 V = some r) : Rn e 107 50 [(0, .ref 0), (1, .int x1), (2, .int x2), (3, .int x3), (4, .int x4)] [] (SH ++ X) V (some (.int r)) (SH ++ X) V := by
  rw [d_X_faultOfDay_50] at h
  refine rn_go 1 (pc' := 51) (l' := [(0, .ref 0), (1, .int x1), (2, .int x2), (3, .int x3), (4, .int x4)]) (st' := [.int (0 : Int32)]) (S1 := (SH ++ X)) (V1 := V) rfl ?_
  exact rn_sub [0, 1, 2, 3, 4] rfl rfl (t_X_faultOfDay_51 (X := X) hd F17 hF17 x1 x2 x3 x4 (0 : Int32) V _ h)
def d_X_faultOfDay_17  : Nat → Int32 → Int32 → Int32 → ai_V → Option Int32
  | 0, _, _, _, _ => none
  | n + 1, x1, x2, x3, V => if x1 ≤ x3 then (if (gi V 1 1) ≤ (48 : Int32) then (if ¬ x2 = 0 then (some x1) else (some (-1 : Int32))) else (some (48 : Int32))) else ((d_Text_at x3 V).bind fun q2 => (if q2 < (97 : Int32) then (d_X_faultOfDay_50 (d_X_faultOfDay_17 n) x1 x2 x3 q2 V) else (if (102 : Int32) < q2 then (d_X_faultOfDay_50 (d_X_faultOfDay_17 n) x1 x2 x3 q2 V) else (d_X_faultOfDay_51 (d_X_faultOfDay_17 n) x1 x2 x3 q2 (1 : Int32) V))))
set_option maxRecDepth 20000 in
theorem t_X_faultOfDay_17 {X : ai_S} {e : Nat} (hd : 1 ≤ e)  : ∀ (n : Nat) (x1 : Int32) (x2 : Int32) (x3 : Int32) (V : ai_V) (r : Int32), d_X_faultOfDay_17  n x1 x2 x3 V = some r → Rn e 107 17 [(0, .ref 0), (1, .int x1), (2, .int x2), (3, .int x3)] [] (SH ++ X) V (some (.int r)) (SH ++ X) V := by
  intro n
  induction n with
  | zero =>
    intro x1 x2 x3 V r h
    cases h
  | succ n ih =>
    intro x1 x2 x3 V r h
    rw [d_X_faultOfDay_17] at h
    refine rn_go 2 (pc' := 19) (l' := [(0, .ref 0), (1, .int x1), (2, .int x2), (3, .int x3)]) (st' := [.int x1, .int x3]) (S1 := (SH ++ X)) (V1 := V) rfl ?_
    rcases ai_if h with ⟨hc, h⟩ | ⟨hc, h⟩
    · refine rn_brT rfl rfl rfl rfl hc ?_
      refine rn_go 4 (pc' := 180) (l' := [(0, .ref 0), (1, .int x1), (2, .int x2), (3, .int x3)]) (st' := [.int (48 : Int32), .int (gi V 1 1)]) (S1 := (SH ++ X)) (V1 := V) rfl ?_
      rcases ai_if h with ⟨hc, h⟩ | ⟨hc, h⟩
      · refine rn_brT rfl rfl rfl rfl hc ?_
        refine rn_go 1 (pc' := 187) (l' := [(0, .ref 0), (1, .int x1), (2, .int x2), (3, .int x3)]) (st' := [.int x2]) (S1 := (SH ++ X)) (V1 := V) rfl ?_
        rcases ai_if h with ⟨hc, h⟩ | ⟨hc, h⟩
        · refine rn_brT rfl rfl rfl rfl hc ?_
          refine rn_go 1 (pc' := 195) (l' := [(0, .ref 0), (1, .int x1), (2, .int x2), (3, .int x3)]) (st' := [.int x1]) (S1 := (SH ++ X)) (V1 := V) rfl ?_
          obtain rfl := Option.some.inj h
          exact rn_ret rfl rfl rfl
        · refine rn_brF rfl rfl rfl rfl hc ?_
          refine rn_go 2 (pc' := 195) (l' := [(0, .ref 0), (1, .int x1), (2, .int x2), (3, .int x3)]) (st' := [.int (-1 : Int32)]) (S1 := (SH ++ X)) (V1 := V) rfl ?_
          obtain rfl := Option.some.inj h
          exact rn_ret rfl rfl rfl
      · refine rn_brF rfl rfl rfl rfl hc ?_
        refine rn_go 1 (pc' := 185) (l' := [(0, .ref 0), (1, .int x1), (2, .int x2), (3, .int x3)]) (st' := [.int (48 : Int32)]) (S1 := (SH ++ X)) (V1 := V) rfl ?_
        obtain rfl := Option.some.inj h
        exact rn_ret rfl rfl rfl
    · refine rn_brF rfl rfl rfl rfl hc ?_
      refine rn_go 3 (pc' := 27) (l' := [(0, .ref 0), (1, .int x1), (2, .int x2), (3, .int x3)]) (st' := [.int x3, .ref 1]) (S1 := (SH ++ X)) (V1 := V) rfl ?_
      obtain ⟨q2, hq2, h⟩ := ai_bd h
      refine rn_call rfl rfl rfl rfl rfl rfl (by omega) (t_Text_at (by omega) hq2) ?_
      refine rn_go 3 (pc' := 36) (l' := [(4, .int q2), (0, .ref 0), (1, .int x1), (2, .int x2), (3, .int x3)]) (st' := [.int (97 : Int32), .int q2]) (S1 := (SH ++ X)) (V1 := V) rfl ?_
      rcases ai_if h with ⟨hc, h⟩ | ⟨hc, h⟩
      · refine rn_brT rfl rfl rfl rfl hc ?_
        exact rn_sub [1, 2, 3, 4, 0] rfl rfl (t_X_faultOfDay_50 (X := X) hd (d_X_faultOfDay_17 n) (ih) x1 x2 x3 q2 V _ h)
      · refine rn_brF rfl rfl rfl rfl hc ?_
        refine rn_go 2 (pc' := 43) (l' := [(4, .int q2), (0, .ref 0), (1, .int x1), (2, .int x2), (3, .int x3)]) (st' := [.int (102 : Int32), .int q2]) (S1 := (SH ++ X)) (V1 := V) rfl ?_
        rcases ai_if h with ⟨hc, h⟩ | ⟨hc, h⟩
        · refine rn_brT rfl rfl rfl rfl hc ?_
          exact rn_sub [1, 2, 3, 4, 0] rfl rfl (t_X_faultOfDay_50 (X := X) hd (d_X_faultOfDay_17 n) (ih) x1 x2 x3 q2 V _ h)
        · refine rn_brF rfl rfl rfl rfl hc ?_
          refine rn_go 2 (pc' := 51) (l' := [(4, .int q2), (0, .ref 0), (1, .int x1), (2, .int x2), (3, .int x3)]) (st' := [.int (1 : Int32)]) (S1 := (SH ++ X)) (V1 := V) rfl ?_
          exact rn_sub [1, 2, 3, 4, 0] rfl rfl (t_X_faultOfDay_51 (X := X) hd (d_X_faultOfDay_17 n) (ih) x1 x2 x3 q2 (1 : Int32) V _ h)
def d_X_faultOfDay  (V : ai_V) : Option Int32 :=
  d_X_faultOfDay_17 ai_N (ai_min (gi V 1 1) (48 : Int32)) (0 : Int32) (0 : Int32) V
set_option maxRecDepth 20000 in
theorem t_X_faultOfDay {X : ai_S} {e : Nat} (hd : 1 ≤ e)  {V : ai_V} {r : Int32} (h : d_X_faultOfDay  V = some r) : Rn e 107 0 (lv_args 0 [.ref 0]) [] (SH ++ X) V (some (.int r)) (SH ++ X) V := by
  rw [d_X_faultOfDay] at h
  refine rn_go 10 (pc' := 17) (l' := [(3, .int (0 : Int32)), (2, .int (0 : Int32)), (1, .int (ai_min (gi V 1 1) (48 : Int32))), (0, .ref 0)]) (st' := []) (S1 := (SH ++ X)) (V1 := V) rfl ?_
  exact rn_sub [3, 2, 1, 0] rfl rfl (t_X_faultOfDay_17 (X := X) hd ai_N (ai_min (gi V 1 1) (48 : Int32)) (0 : Int32) (0 : Int32) V _ h)
