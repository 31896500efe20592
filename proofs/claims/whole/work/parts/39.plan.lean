/-! ===== printed by wip/gen/gen.py: the calls that want the table of costs, where it is made ===== -/
-- RentByTheWheel$Plan.leastCost(LRentByTheWheel$State;IIZ)I (64, 16, None, None, None)
def d_Plan_leastCost_95   (V : ai_V) : Option (Int32 × ai_V) :=
  (d_Plan_leastFrom (0 : Int32) (gi V 16 1) V).bind fun q1 => (some (q1.1, q1.2))
set_option maxRecDepth 20000 in
theorem t_Plan_leastCost_95 {X : ai_S} {e : Nat} (hd : 166 ≤ e)   (V : ai_V) (r : (Int32 × ai_V)) (h : d_Plan_leastCost_95   V = some r) : Rn e 58 95 [(0, .ref 64), (1, .ref 16)] [] (SH ++ (kcost :: X)) V (some (.int r.1)) (SH ++ (kcost :: X)) r.2 := by
  rw [d_Plan_leastCost_95] at h
  refine rn_go 4 (pc' := 101) (l' := [(0, .ref 64), (1, .ref 16)]) (st' := [.int (gi V 16 1), .int (0 : Int32), .ref 64]) (S1 := (SH ++ (kcost :: X))) (V1 := V) rfl ?_
  obtain ⟨q1, hq1, h⟩ := ai_bd h
  refine rn_call rfl rfl rfl rfl rfl rfl (by omega) (t_Plan_leastFrom (by omega) hq1) ?_
  obtain rfl := Option.some.inj h
  exact rn_ret rfl rfl rfl
def d_Plan_leastCost_55  : Nat → Int32 → ai_V → Option (Int32 × ai_V)
  | 0, _, _ => none
  | n + 1, x5, V => if ((gi V 64 5) * ((gi V 16 2) + (1 : Int32))) ≤ x5 then (d_Plan_leastCost_95 V) else (if gr V 64 2 = some 119 then (if (Int32.ofNat 12000) ≤ x5 then (d_Plan_leastCost_95 V) else (if gr V 64 2 = some 119 then (if ai_in x5 12000 then (d_Plan_leastCost_55 n (x5 + (1 : Int32)) (sa V 119 (x5).toNatClampNeg (-1 : Int32))) else none) else (none))) else (none))
set_option maxRecDepth 20000 in
theorem t_Plan_leastCost_55 {X : ai_S} {e : Nat} (hd : 166 ≤ e)  : ∀ (n : Nat) (x5 : Int32) (V : ai_V) (r : (Int32 × ai_V)), d_Plan_leastCost_55  n x5 V = some r → Rn e 58 55 [(0, .ref 64), (1, .ref 16), (5, .int x5)] [] (SH ++ (kcost :: X)) V (some (.int r.1)) (SH ++ (kcost :: X)) r.2 := by
  intro n
  induction n with
  | zero =>
    intro x5 V r h
    cases h
  | succ n ih =>
    intro x5 V r h
    rw [d_Plan_leastCost_55] at h
    refine rn_go 8 (pc' := 68) (l' := [(0, .ref 64), (1, .ref 16), (5, .int x5)]) (st' := [.int ((gi V 64 5) * ((gi V 16 2) + (1 : Int32))), .int x5]) (S1 := (SH ++ (kcost :: X))) (V1 := V) rfl ?_
    rcases ai_if h with ⟨hc, h⟩ | ⟨hc, h⟩
    · refine rn_brT rfl rfl rfl rfl hc ?_
      exact rn_sub [0, 1] rfl rfl (t_Plan_leastCost_95 (X := X) hd V _ h)
    · refine rn_brF rfl rfl rfl rfl hc ?_
      refine rn_go 2 (pc' := 74) (l' := [(0, .ref 64), (1, .ref 16), (5, .int x5)]) (st' := [.ref 64, .int x5]) (S1 := (SH ++ (kcost :: X))) (V1 := V) rfl ?_
      rcases ai_if h with ⟨hc, h⟩ | ⟨hc, h⟩
      · refine rg_gfr (z := 0) rfl rfl rfl hc ?_
        refine rn_go 1 (pc' := 78) (l' := [(0, .ref 64), (1, .ref 16), (5, .int x5)]) (st' := [.int (Int32.ofNat 12000), .int x5]) (S1 := (SH ++ (kcost :: X))) (V1 := V) rfl ?_
        rcases ai_if h with ⟨hc, h⟩ | ⟨hc, h⟩
        · refine rn_brT rfl rfl rfl rfl hc ?_
          exact rn_sub [0, 1] rfl rfl (t_Plan_leastCost_95 (X := X) hd V _ h)
        · refine rn_brF rfl rfl rfl rfl hc ?_
          refine rn_go 1 (pc' := 82) (l' := [(0, .ref 64), (1, .ref 16), (5, .int x5)]) (st' := [.ref 64]) (S1 := (SH ++ (kcost :: X))) (V1 := V) rfl ?_
          rcases ai_if h with ⟨hc, h⟩ | ⟨hc, h⟩
          · refine rg_gfr (z := 0) rfl rfl rfl hc ?_
            refine rn_go 2 (pc' := 88) (l' := [(0, .ref 64), (1, .ref 16), (5, .int x5)]) (st' := [.int (-1 : Int32), .int x5, .ref 119]) (S1 := (SH ++ (kcost :: X))) (V1 := V) rfl ?_
            obtain ⟨hg, h⟩ := ai_gd h
            refine rg_iast (n := 12000) rfl rfl hg ?_
            refine rn_go 2 (pc' := 55) (l' := [(5, .int (x5 + (1 : Int32))), (0, .ref 64), (1, .ref 16)]) (st' := []) (S1 := (SH ++ (kcost :: X))) (V1 := (sa V 119 (x5).toNatClampNeg (-1 : Int32))) rfl ?_
            exact rn_sub [1, 2, 0] rfl rfl (ih (x5 + (1 : Int32)) (sa V 119 (x5).toNatClampNeg (-1 : Int32)) _ h)
          · cases h
      · cases h
def d_Plan_leastCost_17  (x2 : Int32) (x3 : Int32) (x4 : Int32) (V : ai_V) : Option (Int32 × ai_V) :=
  if x4 = 0 ∨ x4 = 1 then (d_Plan_leastCost_55 ai_N (0 : Int32) (si (si (si (si (si V 64 3 (gi V 16 0)) 64 4 x2) 64 5 x3) 64 6 x4) 65 2 (gi (si (si (si (si V 64 3 (gi V 16 0)) 64 4 x2) 64 5 x3) 64 6 x4) 16 2))) else none
set_option maxRecDepth 20000 in
theorem t_Plan_leastCost_17 {X : ai_S} {e : Nat} (hd : 166 ≤ e)  (x2 : Int32) (x3 : Int32) (x4 : Int32) (V : ai_V) (r : (Int32 × ai_V)) (h : d_Plan_leastCost_17  x2 x3 x4 V = some r) : Rn e 58 17 [(0, .ref 64), (1, .ref 16), (2, .int x2), (3, .int x3), (4, .int x4)] [] (SH ++ (kcost :: X)) V (some (.int r.1)) (SH ++ (kcost :: X)) r.2 := by
  rw [d_Plan_leastCost_17] at h
  refine rn_go 12 (pc' := 38) (l' := [(0, .ref 64), (1, .ref 16), (2, .int x2), (3, .int x3), (4, .int x4)]) (st' := [.int x4, .ref 64]) (S1 := (SH ++ (kcost :: X))) (V1 := (si (si (si V 64 3 (gi V 16 0)) 64 4 x2) 64 5 x3)) rfl ?_
  obtain ⟨hg, h⟩ := ai_gd h
  refine rg_pZ (z := 0) rfl rfl rfl hg ?_
  refine rn_go 7 (pc' := 55) (l' := [(5, .int (0 : Int32)), (0, .ref 64), (1, .ref 16), (2, .int x2), (3, .int x3), (4, .int x4)]) (st' := []) (S1 := (SH ++ (kcost :: X))) (V1 := (si (si (si (si (si V 64 3 (gi V 16 0)) 64 4 x2) 64 5 x3) 64 6 x4) 65 2 (gi (si (si (si (si V 64 3 (gi V 16 0)) 64 4 x2) 64 5 x3) 64 6 x4) 16 2))) rfl ?_
  exact rn_sub [1, 2, 0] rfl rfl (t_Plan_leastCost_55 (X := X) hd ai_N (0 : Int32) (si (si (si (si (si V 64 3 (gi V 16 0)) 64 4 x2) 64 5 x3) 64 6 x4) 65 2 (gi (si (si (si (si V 64 3 (gi V 16 0)) 64 4 x2) 64 5 x3) 64 6 x4) 16 2)) _ h)
def d_Plan_leastCost (x2 : Int32) (x3 : Int32) (x4 : Int32) (V : ai_V) : Option (Int32 × ai_V) :=
  if gr V 64 2 = some 119 then (d_Plan_leastCost_17 x2 x3 x4 V) else (none)
set_option maxRecDepth 20000 in
theorem t_Plan_leastCost {X : ai_S} {e : Nat} (hd : 166 ≤ e) {x2 : Int32} {x3 : Int32} {x4 : Int32} {V : ai_V} {r : (Int32 × ai_V)} (h : d_Plan_leastCost x2 x3 x4 V = some r) : Rn e 58 0 (lv_args 0 [.ref 64, .ref 16, .int x2, .int x3, .int x4]) [] (SH ++ (kcost :: X)) V (some (.int r.1)) (SH ++ (kcost :: X)) r.2 := by
  rw [d_Plan_leastCost] at h
  refine rn_go 1 (pc' := 1) (l' := [(0, .ref 64), (1, .ref 16), (2, .int x2), (3, .int x3), (4, .int x4)]) (st' := [.ref 64]) (S1 := (SH ++ (kcost :: X))) (V1 := V) rfl ?_
  rcases ai_if h with ⟨hc, h⟩ | ⟨hc, h⟩
  · refine rg_gfr (z := 0) rfl rfl rfl hc ?_
    refine rn_go 1 (pc' := 5) (l' := [(0, .ref 64), (1, .ref 16), (2, .int x2), (3, .int x3), (4, .int x4)]) (st' := [.int (Int32.ofNat 12000)]) (S1 := (SH ++ (kcost :: X))) (V1 := V) rfl ?_
    refine rn_brT rfl rfl rfl rfl (by decide) ?_
    exact rn_sub [0, 1, 2, 3, 4] rfl rfl (t_Plan_leastCost_17 (X := X) hd x2 x3 x4 V _ h)
  · cases h
-- RentByTheWheel.fewest(II)I (0, None, None)
def d_X_fewest_38  (s0 : Int32) (V : ai_V) : Option (Int32 × ai_V) :=
  if s0 < (1000000 : Int32) then ((d_Plan_tellInto (gi V 16 1) V).bind fun q1 => (some ((s0 / (1000 : Int32)), q1))) else (some ((-2 : Int32), V))
set_option maxRecDepth 20000 in
theorem t_X_fewest_38 {X : ai_S} {e : Nat} (hd : 168 ≤ e)  (s0 : Int32) (V : ai_V) (r : (Int32 × ai_V)) (h : d_X_fewest_38  s0 V = some r) : Rn e 114 38 [(0, .ref 0)] [.int s0] (SH ++ (kcost :: X)) V (some (.int r.1)) (SH ++ (kcost :: X)) r.2 := by
  rw [d_X_fewest_38] at h
  refine rn_go 3 (pc' := 43) (l' := [(3, .int s0), (0, .ref 0)]) (st' := [.int (1000000 : Int32), .int s0]) (S1 := (SH ++ (kcost :: X))) (V1 := V) rfl ?_
  rcases ai_if h with ⟨hc, h⟩ | ⟨hc, h⟩
  · refine rn_brT rfl rfl rfl rfl hc ?_
    refine rn_go 7 (pc' := 64) (l' := [(3, .int s0), (0, .ref 0)]) (st' := [.int (gi V 16 1), .ref 22, .ref 64]) (S1 := (SH ++ (kcost :: X))) (V1 := V) rfl ?_
    obtain ⟨q1, hq1, h⟩ := ai_bd h
    refine rn_call rfl rfl rfl rfl rfl rfl (by omega) (t_Plan_tellInto (by omega) hq1) ?_
    refine rn_go 2 (pc' := 71) (l' := [(3, .int s0), (0, .ref 0)]) (st' := [.int (1000 : Int32), .int s0]) (S1 := (SH ++ (kcost :: X))) (V1 := q1) rfl ?_
    refine rg_idiv rfl (by decide) ?_
    obtain rfl := Option.some.inj h
    exact rn_ret rfl rfl rfl
  · refine rn_brF rfl rfl rfl rfl hc ?_
    refine rn_go 1 (pc' := 48) (l' := [(3, .int s0), (0, .ref 0)]) (st' := [.int (-2 : Int32)]) (S1 := (SH ++ (kcost :: X))) (V1 := V) rfl ?_
    obtain rfl := Option.some.inj h
    exact rn_ret rfl rfl rfl
def d_X_fewest (x1 : Int32) (x2 : Int32) (V : ai_V) : Option (Int32 × ai_V) :=
  (d_House_hasAll x1 V).bind fun q2 => (if q2 = 0 then (some ((-1 : Int32), V)) else (if x2 < (1 : Int32) then (some ((-1 : Int32), V)) else (if x2 ≤ (12 : Int32) then ((d_Plan_leastCost x1 x2 (1 : Int32) V).bind fun q3 => (d_X_fewest_38 q3.1 q3.2)) else (some ((-1 : Int32), V)))))
set_option maxRecDepth 20000 in
theorem t_X_fewest {X : ai_S} {e : Nat} (hd : 168 ≤ e) {x1 : Int32} {x2 : Int32} {V : ai_V} {r : (Int32 × ai_V)} (h : d_X_fewest x1 x2 V = some r) : Rn e 114 0 (lv_args 0 [.ref 0, .int x1, .int x2]) [] (SH ++ (kcost :: X)) V (some (.int r.1)) (SH ++ (kcost :: X)) r.2 := by
  rw [d_X_fewest] at h
  refine rn_go 3 (pc' := 5) (l' := [(0, .ref 0), (1, .int x1), (2, .int x2)]) (st' := [.int x1, .ref 3]) (S1 := (SH ++ (kcost :: X))) (V1 := V) rfl ?_
  obtain ⟨q2, hq2, h⟩ := ai_bd h
  refine rn_call rfl rfl rfl rfl rfl rfl (by omega) (t_House_hasAll (by omega) hq2) ?_
  rcases ai_if h with ⟨hc, h⟩ | ⟨hc, h⟩
  · refine rn_brT rfl rfl rfl rfl hc ?_
    refine rn_go 1 (pc' := 23) (l' := [(0, .ref 0), (1, .int x1), (2, .int x2)]) (st' := [.int (-1 : Int32)]) (S1 := (SH ++ (kcost :: X))) (V1 := V) rfl ?_
    obtain rfl := Option.some.inj h
    exact rn_ret rfl rfl rfl
  · refine rn_brF rfl rfl rfl rfl hc ?_
    refine rn_go 2 (pc' := 13) (l' := [(0, .ref 0), (1, .int x1), (2, .int x2)]) (st' := [.int (1 : Int32), .int x2]) (S1 := (SH ++ (kcost :: X))) (V1 := V) rfl ?_
    rcases ai_if h with ⟨hc, h⟩ | ⟨hc, h⟩
    · refine rn_brT rfl rfl rfl rfl hc ?_
      refine rn_go 1 (pc' := 23) (l' := [(0, .ref 0), (1, .int x1), (2, .int x2)]) (st' := [.int (-1 : Int32)]) (S1 := (SH ++ (kcost :: X))) (V1 := V) rfl ?_
      obtain rfl := Option.some.inj h
      exact rn_ret rfl rfl rfl
    · refine rn_brF rfl rfl rfl rfl hc ?_
      refine rn_go 2 (pc' := 19) (l' := [(0, .ref 0), (1, .int x1), (2, .int x2)]) (st' := [.int (12 : Int32), .int x2]) (S1 := (SH ++ (kcost :: X))) (V1 := V) rfl ?_
      rcases ai_if h with ⟨hc, h⟩ | ⟨hc, h⟩
      · refine rn_brT rfl rfl rfl rfl hc ?_
        refine rn_go 7 (pc' := 35) (l' := [(0, .ref 0), (1, .int x1), (2, .int x2)]) (st' := [.int (1 : Int32), .int x2, .int x1, .ref 16, .ref 64]) (S1 := (SH ++ (kcost :: X))) (V1 := V) rfl ?_
        obtain ⟨q3, hq3, h⟩ := ai_bd h
        refine rn_call rfl rfl rfl rfl rfl rfl (by omega) (t_Plan_leastCost (by omega) hq3) ?_
        exact rn_sub [0] rfl rfl (t_X_fewest_38 (X := X) hd q3.1 q3.2 _ h)
      · refine rn_brF rfl rfl rfl rfl hc ?_
        refine rn_go 1 (pc' := 23) (l' := [(0, .ref 0), (1, .int x1), (2, .int x2)]) (st' := [.int (-1 : Int32)]) (S1 := (SH ++ (kcost :: X))) (V1 := V) rfl ?_
        obtain rfl := Option.some.inj h
        exact rn_ret rfl rfl rfl
-- RentByTheWheel.driest(II)I (0, None, None)
def d_X_driest_38  (s0 : Int32) (V : ai_V) : Option (Int32 × ai_V) :=
  (d_Plan_tellInto (gi V 16 1) V).bind fun q1 => (some ((s0 / (13 : Int32)), q1))
set_option maxRecDepth 20000 in
theorem t_X_driest_38 {X : ai_S} {e : Nat} (hd : 168 ≤ e)  (s0 : Int32) (V : ai_V) (r : (Int32 × ai_V)) (h : d_X_driest_38  s0 V = some r) : Rn e 115 38 [(0, .ref 0)] [.int s0] (SH ++ (kcost :: X)) V (some (.int r.1)) (SH ++ (kcost :: X)) r.2 := by
  rw [d_X_driest_38] at h
  refine rn_go 8 (pc' := 54) (l' := [(3, .int s0), (0, .ref 0)]) (st' := [.int (gi V 16 1), .ref 22, .ref 64]) (S1 := (SH ++ (kcost :: X))) (V1 := V) rfl ?_
  obtain ⟨q1, hq1, h⟩ := ai_bd h
  refine rn_call rfl rfl rfl rfl rfl rfl (by omega) (t_Plan_tellInto (by omega) hq1) ?_
  refine rn_go 2 (pc' := 60) (l' := [(3, .int s0), (0, .ref 0)]) (st' := [.int (13 : Int32), .int s0]) (S1 := (SH ++ (kcost :: X))) (V1 := q1) rfl ?_
  refine rg_idiv rfl (by decide) ?_
  obtain rfl := Option.some.inj h
  exact rn_ret rfl rfl rfl
def d_X_driest (x1 : Int32) (x2 : Int32) (V : ai_V) : Option (Int32 × ai_V) :=
  (d_House_hasAll x1 V).bind fun q2 => (if q2 = 0 then (some ((-1 : Int32), V)) else (if x2 < (1 : Int32) then (some ((-1 : Int32), V)) else (if x2 ≤ (12 : Int32) then ((d_Plan_leastCost x1 x2 (0 : Int32) V).bind fun q3 => (d_X_driest_38 q3.1 q3.2)) else (some ((-1 : Int32), V)))))
set_option maxRecDepth 20000 in
theorem t_X_driest {X : ai_S} {e : Nat} (hd : 168 ≤ e) {x1 : Int32} {x2 : Int32} {V : ai_V} {r : (Int32 × ai_V)} (h : d_X_driest x1 x2 V = some r) : Rn e 115 0 (lv_args 0 [.ref 0, .int x1, .int x2]) [] (SH ++ (kcost :: X)) V (some (.int r.1)) (SH ++ (kcost :: X)) r.2 := by
  rw [d_X_driest] at h
  refine rn_go 3 (pc' := 5) (l' := [(0, .ref 0), (1, .int x1), (2, .int x2)]) (st' := [.int x1, .ref 3]) (S1 := (SH ++ (kcost :: X))) (V1 := V) rfl ?_
  obtain ⟨q2, hq2, h⟩ := ai_bd h
  refine rn_call rfl rfl rfl rfl rfl rfl (by omega) (t_House_hasAll (by omega) hq2) ?_
  rcases ai_if h with ⟨hc, h⟩ | ⟨hc, h⟩
  · refine rn_brT rfl rfl rfl rfl hc ?_
    refine rn_go 1 (pc' := 23) (l' := [(0, .ref 0), (1, .int x1), (2, .int x2)]) (st' := [.int (-1 : Int32)]) (S1 := (SH ++ (kcost :: X))) (V1 := V) rfl ?_
    obtain rfl := Option.some.inj h
    exact rn_ret rfl rfl rfl
  · refine rn_brF rfl rfl rfl rfl hc ?_
    refine rn_go 2 (pc' := 13) (l' := [(0, .ref 0), (1, .int x1), (2, .int x2)]) (st' := [.int (1 : Int32), .int x2]) (S1 := (SH ++ (kcost :: X))) (V1 := V) rfl ?_
    rcases ai_if h with ⟨hc, h⟩ | ⟨hc, h⟩
    · refine rn_brT rfl rfl rfl rfl hc ?_
      refine rn_go 1 (pc' := 23) (l' := [(0, .ref 0), (1, .int x1), (2, .int x2)]) (st' := [.int (-1 : Int32)]) (S1 := (SH ++ (kcost :: X))) (V1 := V) rfl ?_
      obtain rfl := Option.some.inj h
      exact rn_ret rfl rfl rfl
    · refine rn_brF rfl rfl rfl rfl hc ?_
      refine rn_go 2 (pc' := 19) (l' := [(0, .ref 0), (1, .int x1), (2, .int x2)]) (st' := [.int (12 : Int32), .int x2]) (S1 := (SH ++ (kcost :: X))) (V1 := V) rfl ?_
      rcases ai_if h with ⟨hc, h⟩ | ⟨hc, h⟩
      · refine rn_brT rfl rfl rfl rfl hc ?_
        refine rn_go 7 (pc' := 35) (l' := [(0, .ref 0), (1, .int x1), (2, .int x2)]) (st' := [.int (0 : Int32), .int x2, .int x1, .ref 16, .ref 64]) (S1 := (SH ++ (kcost :: X))) (V1 := V) rfl ?_
        obtain ⟨q3, hq3, h⟩ := ai_bd h
        refine rn_call rfl rfl rfl rfl rfl rfl (by omega) (t_Plan_leastCost (by omega) hq3) ?_
        exact rn_sub [0] rfl rfl (t_X_driest_38 (X := X) hd q3.1 q3.2 _ h)
      · refine rn_brF rfl rfl rfl rfl hc ?_
        refine rn_go 1 (pc' := 23) (l' := [(0, .ref 0), (1, .int x1), (2, .int x2)]) (st' := [.int (-1 : Int32)]) (S1 := (SH ++ (kcost :: X))) (V1 := V) rfl ?_
        obtain rfl := Option.some.inj h
        exact rn_ret rfl rfl rfl
