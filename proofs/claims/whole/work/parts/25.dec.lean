/-! ===== printed by wip/gen/gen.py: methods as functions, and that the machine runs so ===== -/
-- RentByTheWheelModel.values()I (89,)
def d_M_values_179  : Nat → Int32 → Int32 → ai_V → Option (Int32 × ai_V)
  | 0, _, _, _ => none
  | n + 1, x1, x2, V => if (16 : Int32) ≤ x2 then (some (x1, (si V 89 46 x1))) else (if ai_in x2 16 then (if ai_in x2 16 then (d_M_values_179 n x1 (x2 + (1 : Int32)) (sa V 107 (x2).toNatClampNeg (ga V 108 (x2).toNatClampNeg))) else none) else none)
set_option maxRecDepth 20000 in
theorem t_M_values_179 {X : ai_S} {e : Nat} (hd : 3 ≤ e)  : ∀ (n : Nat) (x1 : Int32) (x2 : Int32) (V : ai_V) (r : (Int32 × ai_V)), d_M_values_179  n x1 x2 V = some r → Rn e 233 179 [(0, .ref 89), (1, .int x1), (2, .int x2)] [] (SH ++ X) V (some (.int r.1)) (SH ++ X) r.2 := by
  intro n
  induction n with
  | zero =>
    intro x1 x2 V r h
    cases h
  | succ n ih =>
    intro x1 x2 V r h
    rw [d_M_values_179] at h
    refine rn_go 2 (pc' := 182) (l' := [(0, .ref 89), (1, .int x1), (2, .int x2)]) (st' := [.int (16 : Int32), .int x2]) (S1 := (SH ++ X)) (V1 := V) rfl ?_
    rcases ai_if h with ⟨hc, h⟩ | ⟨hc, h⟩
    · refine rn_brT rfl rfl rfl rfl hc ?_
      refine rn_go 4 (pc' := 209) (l' := [(0, .ref 89), (1, .int x1), (2, .int x2)]) (st' := [.int x1]) (S1 := (SH ++ X)) (V1 := (si V 89 46 x1)) rfl ?_
      obtain rfl := Option.some.inj h
      exact rn_ret rfl rfl rfl
    · refine rn_brF rfl rfl rfl rfl hc ?_
      refine rn_go 6 (pc' := 195) (l' := [(0, .ref 89), (1, .int x1), (2, .int x2)]) (st' := [.int x2, .ref 108, .int x2, .ref 107]) (S1 := (SH ++ X)) (V1 := V) rfl ?_
      obtain ⟨hg, h⟩ := ai_gd h
      refine rg_iald (n := 16) rfl rfl hg ?_
      obtain ⟨hg, h⟩ := ai_gd h
      refine rg_iast (n := 16) rfl rfl hg ?_
      refine rn_go 2 (pc' := 179) (l' := [(2, .int (x2 + (1 : Int32))), (0, .ref 89), (1, .int x1)]) (st' := []) (S1 := (SH ++ X)) (V1 := (sa V 107 (x2).toNatClampNeg (ga V 108 (x2).toNatClampNeg))) rfl ?_
      exact rn_sub [1, 2, 0] rfl rfl (ih x1 (x2 + (1 : Int32)) (sa V 107 (x2).toNatClampNeg (ga V 108 (x2).toNatClampNeg)) _ h)
def d_M_values_152  (x1 : Int32) (V : ai_V) : Option (Int32 × ai_V) :=
  (d_M_fine  V).bind fun q1 => (if ¬ q1 = 0 then (if x1 ≤ (gi V 89 1) then (d_M_values_179 ai_N x1 (0 : Int32) V) else (some ((-100 : Int32), V))) else (some (((-1 : Int32) - (gi V 89 19)), V)))
set_option maxRecDepth 20000 in
theorem t_M_values_152 {X : ai_S} {e : Nat} (hd : 3 ≤ e)  (x1 : Int32) (V : ai_V) (r : (Int32 × ai_V)) (h : d_M_values_152  x1 V = some r) : Rn e 233 152 [(0, .ref 89), (1, .int x1)] [] (SH ++ X) V (some (.int r.1)) (SH ++ X) r.2 := by
  rw [d_M_values_152] at h
  refine rn_go 1 (pc' := 153) (l' := [(0, .ref 89), (1, .int x1)]) (st' := [.ref 89]) (S1 := (SH ++ X)) (V1 := V) rfl ?_
  obtain ⟨q1, hq1, h⟩ := ai_bd h
  refine rn_call rfl rfl rfl rfl rfl rfl (by omega) (t_M_fine (by omega) hq1) ?_
  rcases ai_if h with ⟨hc, h⟩ | ⟨hc, h⟩
  · refine rn_brT rfl rfl rfl rfl hc ?_
    refine rn_go 3 (pc' := 171) (l' := [(0, .ref 89), (1, .int x1)]) (st' := [.int (gi V 89 1), .int x1]) (S1 := (SH ++ X)) (V1 := V) rfl ?_
    rcases ai_if h with ⟨hc, h⟩ | ⟨hc, h⟩
    · refine rn_brT rfl rfl rfl rfl hc ?_
      refine rn_go 2 (pc' := 179) (l' := [(2, .int (0 : Int32)), (0, .ref 89), (1, .int x1)]) (st' := []) (S1 := (SH ++ X)) (V1 := V) rfl ?_
      exact rn_sub [1, 2, 0] rfl rfl (t_M_values_179 (X := X) hd ai_N x1 (0 : Int32) V _ h)
    · refine rn_brF rfl rfl rfl rfl hc ?_
      refine rn_go 1 (pc' := 176) (l' := [(0, .ref 89), (1, .int x1)]) (st' := [.int (-100 : Int32)]) (S1 := (SH ++ X)) (V1 := V) rfl ?_
      obtain rfl := Option.some.inj h
      exact rn_ret rfl rfl rfl
  · refine rn_brF rfl rfl rfl rfl hc ?_
    refine rn_go 4 (pc' := 165) (l' := [(0, .ref 89), (1, .int x1)]) (st' := [.int ((-1 : Int32) - (gi V 89 19))]) (S1 := (SH ++ X)) (V1 := V) rfl ?_
    obtain rfl := Option.some.inj h
    exact rn_ret rfl rfl rfl
def d_M_values_99 (F86 : Int32 → Int32 → ai_V → Option (Int32 × ai_V)) : Nat → Int32 → Int32 → Int32 → ai_V → Option (Int32 × ai_V)
  | 0, _, _, _, _ => none
  | n + 1, x1, x2, x3, V => if x1 ≤ x3 then (F86 x1 (x2 + (1 : Int32)) V) else ((d_M_digit (0 : Int32) (9 : Int32) V).bind fun q2 => (if ai_in (((4 : Int32) * x2) + x3) 16 then (d_M_values_99 F86 n x1 x2 (x3 + (1 : Int32)) (sa q2.2 108 ((((4 : Int32) * x2) + x3)).toNatClampNeg q2.1)) else none))
set_option maxRecDepth 20000 in
theorem t_M_values_99 {X : ai_S} {e : Nat} (hd : 3 ≤ e) (F86 : Int32 → Int32 → ai_V → Option (Int32 × ai_V)) (hF86 : ∀ (x1 : Int32) (x2 : Int32) (V : ai_V) (r : (Int32 × ai_V)), F86 x1 x2 V = some r → Rn e 233 86 [(0, .ref 89), (1, .int x1), (2, .int x2)] [] (SH ++ X) V (some (.int r.1)) (SH ++ X) r.2) : ∀ (n : Nat) (x1 : Int32) (x2 : Int32) (x3 : Int32) (V : ai_V) (r : (Int32 × ai_V)), d_M_values_99 F86 n x1 x2 x3 V = some r → Rn e 233 99 [(0, .ref 89), (1, .int x1), (2, .int x2), (3, .int x3)] [] (SH ++ X) V (some (.int r.1)) (SH ++ X) r.2 := by
  intro n
  induction n with
  | zero =>
    intro x1 x2 x3 V r h
    cases h
  | succ n ih =>
    intro x1 x2 x3 V r h
    rw [d_M_values_99] at h
    refine rn_go 2 (pc' := 101) (l' := [(0, .ref 89), (1, .int x1), (2, .int x2), (3, .int x3)]) (st' := [.int x1, .int x3]) (S1 := (SH ++ X)) (V1 := V) rfl ?_
    rcases ai_if h with ⟨hc, h⟩ | ⟨hc, h⟩
    · refine rn_brT rfl rfl rfl rfl hc ?_
      refine rn_go 2 (pc' := 86) (l' := [(2, .int (x2 + (1 : Int32))), (0, .ref 89), (1, .int x1), (3, .int x3)]) (st' := []) (S1 := (SH ++ X)) (V1 := V) rfl ?_
      exact rn_sub [1, 2, 0] rfl rfl (hF86 x1 (x2 + (1 : Int32)) V _ h)
    · refine rn_brF rfl rfl rfl rfl hc ?_
      refine rn_go 10 (pc' := 117) (l' := [(0, .ref 89), (1, .int x1), (2, .int x2), (3, .int x3)]) (st' := [.int (9 : Int32), .int (0 : Int32), .ref 89, .int (((4 : Int32) * x2) + x3), .ref 108]) (S1 := (SH ++ X)) (V1 := V) rfl ?_
      obtain ⟨q2, hq2, h⟩ := ai_bd h
      refine rn_call rfl rfl rfl rfl rfl rfl (by omega) (t_M_digit (by omega) hq2) ?_
      obtain ⟨hg, h⟩ := ai_gd h
      refine rg_iast (n := 16) rfl rfl hg ?_
      refine rn_go 2 (pc' := 99) (l' := [(3, .int (x3 + (1 : Int32))), (0, .ref 89), (1, .int x1), (2, .int x2)]) (st' := []) (S1 := (SH ++ X)) (V1 := (sa q2.2 108 ((((4 : Int32) * x2) + x3)).toNatClampNeg q2.1)) rfl ?_
      exact rn_sub [1, 2, 3, 0] rfl rfl (ih x1 x2 (x3 + (1 : Int32)) (sa q2.2 108 ((((4 : Int32) * x2) + x3)).toNatClampNeg q2.1) _ h)
def d_M_values_86  : Nat → Int32 → Int32 → ai_V → Option (Int32 × ai_V)
  | 0, _, _, _ => none
  | n + 1, x1, x2, V => if x1 ≤ x2 then (if (gi V 89 16) ≤ (gi V 89 18) then (d_M_values_152 x1 V) else ((d_M_fault (gi V 89 18) V).bind fun q3 => (d_M_values_152 x1 q3))) else ((d_M_need (47 : Int32) V).bind fun q4 => (d_M_values_99 (d_M_values_86 n) ai_N x1 x2 (0 : Int32) q4))
set_option maxRecDepth 20000 in
theorem t_M_values_86 {X : ai_S} {e : Nat} (hd : 3 ≤ e)  : ∀ (n : Nat) (x1 : Int32) (x2 : Int32) (V : ai_V) (r : (Int32 × ai_V)), d_M_values_86  n x1 x2 V = some r → Rn e 233 86 [(0, .ref 89), (1, .int x1), (2, .int x2)] [] (SH ++ X) V (some (.int r.1)) (SH ++ X) r.2 := by
  intro n
  induction n with
  | zero =>
    intro x1 x2 V r h
    cases h
  | succ n ih =>
    intro x1 x2 V r h
    rw [d_M_values_86] at h
    refine rn_go 2 (pc' := 88) (l' := [(0, .ref 89), (1, .int x1), (2, .int x2)]) (st' := [.int x1, .int x2]) (S1 := (SH ++ X)) (V1 := V) rfl ?_
    rcases ai_if h with ⟨hc, h⟩ | ⟨hc, h⟩
    · refine rn_brT rfl rfl rfl rfl hc ?_
      refine rn_go 4 (pc' := 141) (l' := [(0, .ref 89), (1, .int x1), (2, .int x2)]) (st' := [.int (gi V 89 16), .int (gi V 89 18)]) (S1 := (SH ++ X)) (V1 := V) rfl ?_
      rcases ai_if h with ⟨hc, h⟩ | ⟨hc, h⟩
      · refine rn_brT rfl rfl rfl rfl hc ?_
        exact rn_sub [0, 1] rfl rfl (t_M_values_152 (X := X) hd x1 V _ h)
      · refine rn_brF rfl rfl rfl rfl hc ?_
        refine rn_go 3 (pc' := 149) (l' := [(0, .ref 89), (1, .int x1), (2, .int x2)]) (st' := [.int (gi V 89 18), .ref 89]) (S1 := (SH ++ X)) (V1 := V) rfl ?_
        obtain ⟨q3, hq3, h⟩ := ai_bd h
        refine rn_call rfl rfl rfl rfl rfl rfl (by omega) (t_M_fault (by omega) hq3) ?_
        exact rn_sub [0, 1] rfl rfl (t_M_values_152 (X := X) hd x1 q3 _ h)
    · refine rn_brF rfl rfl rfl rfl hc ?_
      refine rn_go 2 (pc' := 94) (l' := [(0, .ref 89), (1, .int x1), (2, .int x2)]) (st' := [.int (47 : Int32), .ref 89]) (S1 := (SH ++ X)) (V1 := V) rfl ?_
      obtain ⟨q4, hq4, h⟩ := ai_bd h
      refine rn_call rfl rfl rfl rfl rfl rfl (by omega) (t_M_need (by omega) hq4) ?_
      refine rn_go 2 (pc' := 99) (l' := [(3, .int (0 : Int32)), (0, .ref 89), (1, .int x1), (2, .int x2)]) (st' := []) (S1 := (SH ++ X)) (V1 := q4) rfl ?_
      exact rn_sub [1, 2, 3, 0] rfl rfl (t_M_values_99 (X := X) hd (d_M_values_86 n) (ih) ai_N x1 x2 (0 : Int32) q4 _ h)
def d_M_values_84  (x1 : Int32) (V : ai_V) : Option (Int32 × ai_V) :=
  d_M_values_86 ai_N x1 (1 : Int32) V
set_option maxRecDepth 20000 in
theorem t_M_values_84 {X : ai_S} {e : Nat} (hd : 3 ≤ e)  (x1 : Int32) (V : ai_V) (r : (Int32 × ai_V)) (h : d_M_values_84  x1 V = some r) : Rn e 233 84 [(0, .ref 89), (1, .int x1)] [] (SH ++ X) V (some (.int r.1)) (SH ++ X) r.2 := by
  rw [d_M_values_84] at h
  refine rn_go 2 (pc' := 86) (l' := [(2, .int (1 : Int32)), (0, .ref 89), (1, .int x1)]) (st' := []) (S1 := (SH ++ X)) (V1 := V) rfl ?_
  exact rn_sub [1, 2, 0] rfl rfl (t_M_values_86 (X := X) hd ai_N x1 (1 : Int32) V _ h)
def d_M_values_71  (x1 : Int32) (V : ai_V) : Option (Int32 × ai_V) :=
  if (2 : Int32) ≤ x1 then (d_M_values_84 x1 V) else ((d_M_fault (gi V 89 18) V).bind fun q5 => (d_M_values_84 x1 q5))
set_option maxRecDepth 20000 in
theorem t_M_values_71 {X : ai_S} {e : Nat} (hd : 3 ≤ e)  (x1 : Int32) (V : ai_V) (r : (Int32 × ai_V)) (h : d_M_values_71  x1 V = some r) : Rn e 233 71 [(0, .ref 89), (1, .int x1)] [] (SH ++ X) V (some (.int r.1)) (SH ++ X) r.2 := by
  rw [d_M_values_71] at h
  refine rn_go 2 (pc' := 73) (l' := [(0, .ref 89), (1, .int x1)]) (st' := [.int (2 : Int32), .int x1]) (S1 := (SH ++ X)) (V1 := V) rfl ?_
  rcases ai_if h with ⟨hc, h⟩ | ⟨hc, h⟩
  · refine rn_brT rfl rfl rfl rfl hc ?_
    exact rn_sub [0, 1] rfl rfl (t_M_values_84 (X := X) hd x1 V _ h)
  · refine rn_brF rfl rfl rfl rfl hc ?_
    refine rn_go 3 (pc' := 81) (l' := [(0, .ref 89), (1, .int x1)]) (st' := [.int (gi V 89 18), .ref 89]) (S1 := (SH ++ X)) (V1 := V) rfl ?_
    obtain ⟨q5, hq5, h⟩ := ai_bd h
    refine rn_call rfl rfl rfl rfl rfl rfl (by omega) (t_M_fault (by omega) hq5) ?_
    exact rn_sub [0, 1] rfl rfl (t_M_values_84 (X := X) hd x1 q5 _ h)
def d_M_values_26  : Nat → Int32 → ai_V → Option (Int32 × ai_V)
  | 0, _, _ => none
  | n + 1, x1, V => (d_M_fine  V).bind fun q6 => (if q6 = 0 then (d_M_values_71 x1 V) else ((d_M_here  V).bind fun q7 => ((d_M_in q7 (48 : Int32) (57 : Int32) V).bind fun q8 => (if q8 = 0 then (d_M_values_71 x1 V) else (if (4 : Int32) ≤ x1 then (d_M_values_71 x1 V) else ((d_M_digit (0 : Int32) (9 : Int32) V).bind fun q9 => (if ai_in x1 16 then (d_M_values_26 n (x1 + (1 : Int32)) (sa q9.2 108 (x1).toNatClampNeg q9.1)) else none)))))))
set_option maxRecDepth 20000 in
theorem t_M_values_26 {X : ai_S} {e : Nat} (hd : 3 ≤ e)  : ∀ (n : Nat) (x1 : Int32) (V : ai_V) (r : (Int32 × ai_V)), d_M_values_26  n x1 V = some r → Rn e 233 26 [(0, .ref 89), (1, .int x1)] [] (SH ++ X) V (some (.int r.1)) (SH ++ X) r.2 := by
  intro n
  induction n with
  | zero =>
    intro x1 V r h
    cases h
  | succ n ih =>
    intro x1 V r h
    rw [d_M_values_26] at h
    refine rn_go 1 (pc' := 27) (l' := [(0, .ref 89), (1, .int x1)]) (st' := [.ref 89]) (S1 := (SH ++ X)) (V1 := V) rfl ?_
    obtain ⟨q6, hq6, h⟩ := ai_bd h
    refine rn_call rfl rfl rfl rfl rfl rfl (by omega) (t_M_fine (by omega) hq6) ?_
    rcases ai_if h with ⟨hc, h⟩ | ⟨hc, h⟩
    · refine rn_brT rfl rfl rfl rfl hc ?_
      exact rn_sub [0, 1] rfl rfl (t_M_values_71 (X := X) hd x1 V _ h)
    · refine rn_brF rfl rfl rfl rfl hc ?_
      refine rn_go 1 (pc' := 34) (l' := [(0, .ref 89), (1, .int x1)]) (st' := [.ref 89]) (S1 := (SH ++ X)) (V1 := V) rfl ?_
      obtain ⟨q7, hq7, h⟩ := ai_bd h
      refine rn_call rfl rfl rfl rfl rfl rfl (by omega) (t_M_here (by omega) hq7) ?_
      refine rn_go 2 (pc' := 41) (l' := [(0, .ref 89), (1, .int x1)]) (st' := [.int (57 : Int32), .int (48 : Int32), .int q7]) (S1 := (SH ++ X)) (V1 := V) rfl ?_
      obtain ⟨q8, hq8, h⟩ := ai_bd h
      refine rn_call rfl rfl rfl rfl rfl rfl (by omega) (t_M_in (by omega) hq8) ?_
      rcases ai_if h with ⟨hc, h⟩ | ⟨hc, h⟩
      · refine rn_brT rfl rfl rfl rfl hc ?_
        exact rn_sub [0, 1] rfl rfl (t_M_values_71 (X := X) hd x1 V _ h)
      · refine rn_brF rfl rfl rfl rfl hc ?_
        refine rn_go 2 (pc' := 49) (l' := [(0, .ref 89), (1, .int x1)]) (st' := [.int (4 : Int32), .int x1]) (S1 := (SH ++ X)) (V1 := V) rfl ?_
        rcases ai_if h with ⟨hc, h⟩ | ⟨hc, h⟩
        · refine rn_brT rfl rfl rfl rfl hc ?_
          exact rn_sub [0, 1] rfl rfl (t_M_values_71 (X := X) hd x1 V _ h)
        · refine rn_brF rfl rfl rfl rfl hc ?_
          refine rn_go 6 (pc' := 61) (l' := [(0, .ref 89), (1, .int x1)]) (st' := [.int (9 : Int32), .int (0 : Int32), .ref 89, .int x1, .ref 108]) (S1 := (SH ++ X)) (V1 := V) rfl ?_
          obtain ⟨q9, hq9, h⟩ := ai_bd h
          refine rn_call rfl rfl rfl rfl rfl rfl (by omega) (t_M_digit (by omega) hq9) ?_
          obtain ⟨hg, h⟩ := ai_gd h
          refine rg_iast (n := 16) rfl rfl hg ?_
          refine rn_go 2 (pc' := 26) (l' := [(1, .int (x1 + (1 : Int32))), (0, .ref 89)]) (st' := []) (S1 := (SH ++ X)) (V1 := (sa q9.2 108 (x1).toNatClampNeg q9.1)) rfl ?_
          exact rn_sub [1, 0] rfl rfl (ih (x1 + (1 : Int32)) (sa q9.2 108 (x1).toNatClampNeg q9.1) _ h)
def d_M_values  (V : ai_V) : Option (Int32 × ai_V) :=
  (d_M_begin (gi (si V 89 14 (0 : Int32)) 89 11) (80 : Int32) (si V 89 14 (0 : Int32))).bind fun q10 => (d_M_values_26 ai_N (0 : Int32) (si q10 89 11 (0 : Int32)))
set_option maxRecDepth 20000 in
theorem t_M_values {X : ai_S} {e : Nat} (hd : 3 ≤ e)  {V : ai_V} {r : (Int32 × ai_V)} (h : d_M_values  V = some r) : Rn e 233 0 (lv_args 0 [.ref 89]) [] (SH ++ X) V (some (.int r.1)) (SH ++ X) r.2 := by
  rw [d_M_values] at h
  refine rn_go 9 (pc' := 16) (l' := [(0, .ref 89)]) (st' := [.int (80 : Int32), .int (gi (si V 89 14 (0 : Int32)) 89 11), .ref 96, .ref 89]) (S1 := (SH ++ X)) (V1 := (si V 89 14 (0 : Int32))) rfl ?_
  obtain ⟨q10, hq10, h⟩ := ai_bd h
  refine rn_call rfl rfl rfl rfl rfl rfl (by omega) (t_M_begin (by omega) hq10) ?_
  refine rn_go 5 (pc' := 26) (l' := [(1, .int (0 : Int32)), (0, .ref 89)]) (st' := []) (S1 := (SH ++ X)) (V1 := (si q10 89 11 (0 : Int32))) rfl ?_
  exact rn_sub [1, 0] rfl rfl (t_M_values_26 (X := X) hd ai_N (0 : Int32) (si q10 89 11 (0 : Int32)) _ h)
-- RentByTheWheelModel.goAllot(III)V (89, None, None, None)
def d_M_goAllot_25 (T : Int32 → Int32 → Int32 → ai_V → Option ai_V)  : Nat → Int32 → ai_V → Option ai_V
  | 0, _, _ => none
  | n + 1, x4, V => if (gi V 89 46) ≤ x4 then (some V) else (if ai_in x4 4 then (if ai_in x4 4 then (d_M_goAllot_25 T n (x4 + (1 : Int32)) (sa V 110 (x4).toNatClampNeg (ga V 109 (x4).toNatClampNeg))) else none) else none)
set_option maxRecDepth 20000 in
theorem t_M_goAllot_25 (T : Int32 → Int32 → Int32 → ai_V → Option ai_V) (DT : Nat) (hT : ∀ {X : ai_S} {e : Nat}, DT ≤ e → ∀ (x1 : Int32) (x2 : Int32) (x3 : Int32) (V : ai_V) (r : ai_V), T x1 x2 x3 V = some r → Rn e 234 0 (lv_args 0 [.ref 89, .int x1, .int x2, .int x3]) [] (SH ++ X) V none (SH ++ X) r) {X : ai_S} {e : Nat} (hd : DT + 1 ≤ e ∧ 1 ≤ e)  : ∀ (n : Nat) (x4 : Int32) (V : ai_V) (r : ai_V), d_M_goAllot_25 T  n x4 V = some r → Rn e 234 25 [(0, .ref 89), (4, .int x4)] [] (SH ++ X) V none (SH ++ X) r := by
  intro n
  induction n with
  | zero =>
    intro x4 V r h
    cases h
  | succ n ih =>
    intro x4 V r h
    rw [d_M_goAllot_25] at h
    refine rn_go 3 (pc' := 31) (l' := [(0, .ref 89), (4, .int x4)]) (st' := [.int (gi V 89 46), .int x4]) (S1 := (SH ++ X)) (V1 := V) rfl ?_
    rcases ai_if h with ⟨hc, h⟩ | ⟨hc, h⟩
    · refine rn_brT rfl rfl rfl rfl hc ?_
      obtain rfl := Option.some.inj h
      exact rn_ret rfl rfl rfl
    · refine rn_brF rfl rfl rfl rfl hc ?_
      refine rn_go 6 (pc' := 46) (l' := [(0, .ref 89), (4, .int x4)]) (st' := [.int x4, .ref 109, .int x4, .ref 110]) (S1 := (SH ++ X)) (V1 := V) rfl ?_
      obtain ⟨hg, h⟩ := ai_gd h
      refine rg_iald (n := 4) rfl rfl hg ?_
      obtain ⟨hg, h⟩ := ai_gd h
      refine rg_iast (n := 4) rfl rfl hg ?_
      refine rn_go 2 (pc' := 25) (l' := [(4, .int (x4 + (1 : Int32))), (0, .ref 89)]) (st' := []) (S1 := (SH ++ X)) (V1 := (sa V 110 (x4).toNatClampNeg (ga V 109 (x4).toNatClampNeg))) rfl ?_
      exact rn_sub [1, 0] rfl rfl (ih (x4 + (1 : Int32)) (sa V 110 (x4).toNatClampNeg (ga V 109 (x4).toNatClampNeg)) _ h)
def d_M_goAllot_113 (T : Int32 → Int32 → Int32 → ai_V → Option ai_V) (F58 : Int32 → Int32 → Int32 → Int32 → ai_V → Option ai_V) (x1 : Int32) (x2 : Int32) (x3 : Int32) (x4 : Int32) (V : ai_V) : Option ai_V :=
  F58 x1 x2 x3 (x4 + (1 : Int32)) V
set_option maxRecDepth 20000 in
theorem t_M_goAllot_113 (T : Int32 → Int32 → Int32 → ai_V → Option ai_V) (DT : Nat) (hT : ∀ {X : ai_S} {e : Nat}, DT ≤ e → ∀ (x1 : Int32) (x2 : Int32) (x3 : Int32) (V : ai_V) (r : ai_V), T x1 x2 x3 V = some r → Rn e 234 0 (lv_args 0 [.ref 89, .int x1, .int x2, .int x3]) [] (SH ++ X) V none (SH ++ X) r) {X : ai_S} {e : Nat} (hd : DT + 1 ≤ e ∧ 1 ≤ e) (F58 : Int32 → Int32 → Int32 → Int32 → ai_V → Option ai_V) (hF58 : ∀ (x1 : Int32) (x2 : Int32) (x3 : Int32) (x4 : Int32) (V : ai_V) (r : ai_V), F58 x1 x2 x3 x4 V = some r → Rn e 234 58 [(0, .ref 89), (1, .int x1), (2, .int x2), (3, .int x3), (4, .int x4)] [] (SH ++ X) V none (SH ++ X) r) (x1 : Int32) (x2 : Int32) (x3 : Int32) (x4 : Int32) (V : ai_V) (r : ai_V) (h : d_M_goAllot_113 T F58 x1 x2 x3 x4 V = some r) : Rn e 234 113 [(0, .ref 89), (1, .int x1), (2, .int x2), (3, .int x3), (4, .int x4)] [] (SH ++ X) V none (SH ++ X) r := by
  rw [d_M_goAllot_113] at h
  refine rn_go 2 (pc' := 58) (l' := [(4, .int (x4 + (1 : Int32))), (0, .ref 89), (1, .int x1), (2, .int x2), (3, .int x3)]) (st' := []) (S1 := (SH ++ X)) (V1 := V) rfl ?_
  exact rn_sub [1, 2, 3, 4, 0] rfl rfl (hF58 x1 x2 x3 (x4 + (1 : Int32)) V _ h)
def d_M_goAllot_58 (T : Int32 → Int32 → Int32 → ai_V → Option ai_V)  : Nat → Int32 → Int32 → Int32 → Int32 → ai_V → Option ai_V
  | 0, _, _, _, _, _ => none
  | n + 1, x1, x2, x3, x4, V => if (gi V 89 46) ≤ x4 then (some V) else ((d_M_has x2 x4 V).bind fun q1 => (if q1 = 0 then (if ai_in x1 4 then (if ai_in (((4 : Int32) * x1) + x4) 16 then ((T (x1 + (1 : Int32)) (x2 ||| ((1 : Int32) <<< (x4 &&& 31))) (x3 + (ga (sa V 109 (x1).toNatClampNeg x4) 107 ((((4 : Int32) * x1) + x4)).toNatClampNeg)) (sa V 109 (x1).toNatClampNeg x4)).bind fun q2 => (d_M_goAllot_113 T (d_M_goAllot_58 T n) x1 x2 x3 x4 q2)) else none) else none) else (d_M_goAllot_113 T (d_M_goAllot_58 T n) x1 x2 x3 x4 V)))
set_option maxRecDepth 20000 in
theorem t_M_goAllot_58 (T : Int32 → Int32 → Int32 → ai_V → Option ai_V) (DT : Nat) (hT : ∀ {X : ai_S} {e : Nat}, DT ≤ e → ∀ (x1 : Int32) (x2 : Int32) (x3 : Int32) (V : ai_V) (r : ai_V), T x1 x2 x3 V = some r → Rn e 234 0 (lv_args 0 [.ref 89, .int x1, .int x2, .int x3]) [] (SH ++ X) V none (SH ++ X) r) {X : ai_S} {e : Nat} (hd : DT + 1 ≤ e ∧ 1 ≤ e)  : ∀ (n : Nat) (x1 : Int32) (x2 : Int32) (x3 : Int32) (x4 : Int32) (V : ai_V) (r : ai_V), d_M_goAllot_58 T  n x1 x2 x3 x4 V = some r → Rn e 234 58 [(0, .ref 89), (1, .int x1), (2, .int x2), (3, .int x3), (4, .int x4)] [] (SH ++ X) V none (SH ++ X) r := by
  intro n
  induction n with
  | zero =>
    intro x1 x2 x3 x4 V r h
    cases h
  | succ n ih =>
    intro x1 x2 x3 x4 V r h
    rw [d_M_goAllot_58] at h
    refine rn_go 3 (pc' := 64) (l' := [(0, .ref 89), (1, .int x1), (2, .int x2), (3, .int x3), (4, .int x4)]) (st' := [.int (gi V 89 46), .int x4]) (S1 := (SH ++ X)) (V1 := V) rfl ?_
    rcases ai_if h with ⟨hc, h⟩ | ⟨hc, h⟩
    · refine rn_brT rfl rfl rfl rfl hc ?_
      obtain rfl := Option.some.inj h
      exact rn_ret rfl rfl rfl
    · refine rn_brF rfl rfl rfl rfl hc ?_
      refine rn_go 2 (pc' := 70) (l' := [(0, .ref 89), (1, .int x1), (2, .int x2), (3, .int x3), (4, .int x4)]) (st' := [.int x4, .int x2]) (S1 := (SH ++ X)) (V1 := V) rfl ?_
      obtain ⟨q1, hq1, h⟩ := ai_bd h
      refine rn_call rfl rfl rfl rfl rfl rfl (by omega) (t_M_has (by omega) hq1) ?_
      rcases ai_if h with ⟨hc, h⟩ | ⟨hc, h⟩
      · refine rn_brT rfl rfl rfl rfl hc ?_
        refine rn_go 4 (pc' := 86) (l' := [(0, .ref 89), (1, .int x1), (2, .int x2), (3, .int x3), (4, .int x4)]) (st' := [.int x4, .int x1, .ref 109]) (S1 := (SH ++ X)) (V1 := V) rfl ?_
        obtain ⟨hg, h⟩ := ai_gd h
        refine rg_iast (n := 4) rfl rfl hg ?_
        refine rn_go 17 (pc' := 108) (l' := [(0, .ref 89), (1, .int x1), (2, .int x2), (3, .int x3), (4, .int x4)]) (st' := [.int (((4 : Int32) * x1) + x4), .ref 107, .int x3, .int (x2 ||| ((1 : Int32) <<< (x4 &&& 31))), .int (x1 + (1 : Int32)), .ref 89]) (S1 := (SH ++ X)) (V1 := (sa V 109 (x1).toNatClampNeg x4)) rfl ?_
        obtain ⟨hg, h⟩ := ai_gd h
        refine rg_iald (n := 16) rfl rfl hg ?_
        refine rn_go 1 (pc' := 110) (l' := [(0, .ref 89), (1, .int x1), (2, .int x2), (3, .int x3), (4, .int x4)]) (st' := [.int (x3 + (ga (sa V 109 (x1).toNatClampNeg x4) 107 ((((4 : Int32) * x1) + x4)).toNatClampNeg)), .int (x2 ||| ((1 : Int32) <<< (x4 &&& 31))), .int (x1 + (1 : Int32)), .ref 89]) (S1 := (SH ++ X)) (V1 := (sa V 109 (x1).toNatClampNeg x4)) rfl ?_
        obtain ⟨q2, hq2, h⟩ := ai_bd h
        refine rn_call rfl rfl rfl rfl rfl rfl (by omega) (hT (by omega) (x1 + (1 : Int32)) (x2 ||| ((1 : Int32) <<< (x4 &&& 31))) (x3 + (ga (sa V 109 (x1).toNatClampNeg x4) 107 ((((4 : Int32) * x1) + x4)).toNatClampNeg)) (sa V 109 (x1).toNatClampNeg x4) _ hq2) ?_
        exact rn_sub [0, 1, 2, 3, 4] rfl rfl (t_M_goAllot_113 T DT hT (X := X) hd (d_M_goAllot_58 T n) (ih) x1 x2 x3 x4 q2 _ h)
      · refine rn_brF rfl rfl rfl rfl hc ?_
        refine rn_go 1 (pc' := 113) (l' := [(0, .ref 89), (1, .int x1), (2, .int x2), (3, .int x3), (4, .int x4)]) (st' := []) (S1 := (SH ++ X)) (V1 := V) rfl ?_
        exact rn_sub [0, 1, 2, 3, 4] rfl rfl (t_M_goAllot_113 T DT hT (X := X) hd (d_M_goAllot_58 T n) (ih) x1 x2 x3 x4 V _ h)
def d_M_goAllot_B (T : Int32 → Int32 → Int32 → ai_V → Option ai_V) (x1 : Int32) (x2 : Int32) (x3 : Int32) (V : ai_V) : Option ai_V :=
  if ¬ x1 = (gi V 89 46) then (d_M_goAllot_58 T ai_N x1 x2 x3 (0 : Int32) V) else (if (gi V 89 49) < x3 then (d_M_goAllot_25 T ai_N (0 : Int32) (si V 89 49 x3)) else (some V))
set_option maxRecDepth 20000 in
theorem t_M_goAllot_B (T : Int32 → Int32 → Int32 → ai_V → Option ai_V) (DT : Nat) (hT : ∀ {X : ai_S} {e : Nat}, DT ≤ e → ∀ (x1 : Int32) (x2 : Int32) (x3 : Int32) (V : ai_V) (r : ai_V), T x1 x2 x3 V = some r → Rn e 234 0 (lv_args 0 [.ref 89, .int x1, .int x2, .int x3]) [] (SH ++ X) V none (SH ++ X) r) {X : ai_S} {e : Nat} (hd : DT + 1 ≤ e ∧ 1 ≤ e) {x1 : Int32} {x2 : Int32} {x3 : Int32} {V : ai_V} {r : ai_V} (h : d_M_goAllot_B T x1 x2 x3 V = some r) : Rn e 234 0 (lv_args 0 [.ref 89, .int x1, .int x2, .int x3]) [] (SH ++ X) V none (SH ++ X) r := by
  rw [d_M_goAllot_B] at h
  refine rn_go 3 (pc' := 5) (l' := [(0, .ref 89), (1, .int x1), (2, .int x2), (3, .int x3)]) (st' := [.int (gi V 89 46), .int x1]) (S1 := (SH ++ X)) (V1 := V) rfl ?_
  rcases ai_if h with ⟨hc, h⟩ | ⟨hc, h⟩
  · refine rn_brT rfl rfl rfl rfl hc ?_
    refine rn_go 2 (pc' := 58) (l' := [(4, .int (0 : Int32)), (0, .ref 89), (1, .int x1), (2, .int x2), (3, .int x3)]) (st' := []) (S1 := (SH ++ X)) (V1 := V) rfl ?_
    exact rn_sub [1, 2, 3, 4, 0] rfl rfl (t_M_goAllot_58 T DT hT (X := X) hd ai_N x1 x2 x3 (0 : Int32) V _ h)
  · refine rn_brF rfl rfl rfl rfl hc ?_
    refine rn_go 3 (pc' := 13) (l' := [(0, .ref 89), (1, .int x1), (2, .int x2), (3, .int x3)]) (st' := [.int (gi V 89 49), .int x3]) (S1 := (SH ++ X)) (V1 := V) rfl ?_
    rcases ai_if h with ⟨hc, h⟩ | ⟨hc, h⟩
    · refine rn_brT rfl rfl rfl rfl hc ?_
      refine rn_go 5 (pc' := 25) (l' := [(4, .int (0 : Int32)), (0, .ref 89), (1, .int x1), (2, .int x2), (3, .int x3)]) (st' := []) (S1 := (SH ++ X)) (V1 := (si V 89 49 x3)) rfl ?_
      exact rn_sub [1, 0] rfl rfl (t_M_goAllot_25 T DT hT (X := X) hd ai_N (0 : Int32) (si V 89 49 x3) _ h)
    · refine rn_brF rfl rfl rfl rfl hc ?_
      obtain rfl := Option.some.inj h
      exact rn_ret rfl rfl rfl
def d_M_goAllot_R : Nat → Int32 → Int32 → Int32 → ai_V → Option ai_V
  | 0, _, _, _, _ => none
  | n + 1, x1, x2, x3, V => d_M_goAllot_B (d_M_goAllot_R n) x1 x2 x3 V
theorem t_M_goAllot_R : ∀ (n : Nat) {X : ai_S} {e : Nat} (hd : n * 1 + 1 ≤ e) (x1 : Int32) (x2 : Int32) (x3 : Int32) (V : ai_V) (r : ai_V), d_M_goAllot_R n x1 x2 x3 V = some r → Rn e 234 0 (lv_args 0 [.ref 89, .int x1, .int x2, .int x3]) [] (SH ++ X) V none (SH ++ X) r := by
  intro n
  induction n with
  | zero =>
    intro X e hd x1 x2 x3 V r h
    cases h
  | succ n ih =>
    intro X e hd x1 x2 x3 V r h
    exact t_M_goAllot_B (d_M_goAllot_R n) (n * 1 + 1) (fun hd2 => ih hd2) (by omega) (show d_M_goAllot_B (d_M_goAllot_R n) x1 x2 x3 V = some r from h)
def d_M_goAllot : Int32 → Int32 → Int32 → ai_V → Option ai_V := d_M_goAllot_R 80
theorem t_M_goAllot {X : ai_S} {e : Nat} (hd : 81 ≤ e) {x1 : Int32} {x2 : Int32} {x3 : Int32} {V : ai_V} {r : ai_V} (h : d_M_goAllot x1 x2 x3 V = some r) : Rn e 234 0 (lv_args 0 [.ref 89, .int x1, .int x2, .int x3]) [] (SH ++ X) V none (SH ++ X) r := t_M_goAllot_R 80 (by omega) x1 x2 x3 V r h
-- RentByTheWheelModel.allot()I (89,)
def d_M_allot_34  : Nat → Int32 → ai_V → Option (Int32 × ai_V)
  | 0, _, _ => none
  | n + 1, x1, V => if (gi V 89 46) ≤ x1 then (some ((gi V 89 49), V)) else (if ai_in x1 4 then ((d_M_tell (((ga V 110 (x1).toNatClampNeg)).toInt64) V).bind fun q1 => (d_M_allot_34 n (x1 + (1 : Int32)) q1)) else none)
set_option maxRecDepth 20000 in
theorem t_M_allot_34 {X : ai_S} {e : Nat} (hd : 82 ≤ e)  : ∀ (n : Nat) (x1 : Int32) (V : ai_V) (r : (Int32 × ai_V)), d_M_allot_34  n x1 V = some r → Rn e 235 34 [(0, .ref 89), (1, .int x1)] [] (SH ++ X) V (some (.int r.1)) (SH ++ X) r.2 := by
  intro n
  induction n with
  | zero =>
    intro x1 V r h
    cases h
  | succ n ih =>
    intro x1 V r h
    rw [d_M_allot_34] at h
    refine rn_go 3 (pc' := 39) (l' := [(0, .ref 89), (1, .int x1)]) (st' := [.int (gi V 89 46), .int x1]) (S1 := (SH ++ X)) (V1 := V) rfl ?_
    rcases ai_if h with ⟨hc, h⟩ | ⟨hc, h⟩
    · refine rn_brT rfl rfl rfl rfl hc ?_
      refine rn_go 2 (pc' := 63) (l' := [(0, .ref 89), (1, .int x1)]) (st' := [.int (gi V 89 49)]) (S1 := (SH ++ X)) (V1 := V) rfl ?_
      obtain rfl := Option.some.inj h
      exact rn_ret rfl rfl rfl
    · refine rn_brF rfl rfl rfl rfl hc ?_
      refine rn_go 4 (pc' := 48) (l' := [(0, .ref 89), (1, .int x1)]) (st' := [.int x1, .ref 110, .ref 89]) (S1 := (SH ++ X)) (V1 := V) rfl ?_
      obtain ⟨hg, h⟩ := ai_gd h
      refine rg_iald (n := 4) rfl rfl hg ?_
      refine rn_go 1 (pc' := 50) (l' := [(0, .ref 89), (1, .int x1)]) (st' := [.long ((ga V 110 (x1).toNatClampNeg)).toInt64, .ref 89]) (S1 := (SH ++ X)) (V1 := V) rfl ?_
      obtain ⟨q1, hq1, h⟩ := ai_bd h
      refine rn_call rfl rfl rfl rfl rfl rfl (by omega) (t_M_tell (by omega) hq1) ?_
      refine rn_go 2 (pc' := 34) (l' := [(1, .int (x1 + (1 : Int32))), (0, .ref 89)]) (st' := []) (S1 := (SH ++ X)) (V1 := q1) rfl ?_
      exact rn_sub [1, 0] rfl rfl (ih (x1 + (1 : Int32)) q1 _ h)
def d_M_allot  (V : ai_V) : Option (Int32 × ai_V) :=
  if ¬ (gi (si V 89 14 (0 : Int32)) 89 46) = 0 then ((d_M_goAllot (0 : Int32) (0 : Int32) (0 : Int32) (si (si V 89 14 (0 : Int32)) 89 49 (-1 : Int32))).bind fun q2 => (d_M_allot_34 ai_N (0 : Int32) (si q2 89 13 (0 : Int32)))) else (some ((-2 : Int32), (si V 89 14 (0 : Int32))))
set_option maxRecDepth 20000 in
theorem t_M_allot {X : ai_S} {e : Nat} (hd : 82 ≤ e)  {V : ai_V} {r : (Int32 × ai_V)} (h : d_M_allot  V = some r) : Rn e 235 0 (lv_args 0 [.ref 89]) [] (SH ++ X) V (some (.int r.1)) (SH ++ X) r.2 := by
  rw [d_M_allot] at h
  refine rn_go 5 (pc' := 9) (l' := [(0, .ref 89)]) (st' := [.int (gi (si V 89 14 (0 : Int32)) 89 46)]) (S1 := (SH ++ X)) (V1 := (si V 89 14 (0 : Int32))) rfl ?_
  rcases ai_if h with ⟨hc, h⟩ | ⟨hc, h⟩
  · refine rn_brT rfl rfl rfl rfl hc ?_
    refine rn_go 7 (pc' := 24) (l' := [(0, .ref 89)]) (st' := [.int (0 : Int32), .int (0 : Int32), .int (0 : Int32), .ref 89]) (S1 := (SH ++ X)) (V1 := (si (si V 89 14 (0 : Int32)) 89 49 (-1 : Int32))) rfl ?_
    obtain ⟨q2, hq2, h⟩ := ai_bd h
    refine rn_call rfl rfl rfl rfl rfl rfl (by omega) (t_M_goAllot (by omega) hq2) ?_
    refine rn_go 5 (pc' := 34) (l' := [(1, .int (0 : Int32)), (0, .ref 89)]) (st' := []) (S1 := (SH ++ X)) (V1 := (si q2 89 13 (0 : Int32))) rfl ?_
    exact rn_sub [1, 0] rfl rfl (t_M_allot_34 (X := X) hd ai_N (0 : Int32) (si q2 89 13 (0 : Int32)) _ h)
  · refine rn_brF rfl rfl rfl rfl hc ?_
    refine rn_go 1 (pc' := 14) (l' := [(0, .ref 89)]) (st' := [.int (-2 : Int32)]) (S1 := (SH ++ X)) (V1 := (si V 89 14 (0 : Int32))) rfl ?_
    obtain rfl := Option.some.inj h
    exact rn_ret rfl rfl rfl
-- RentByTheWheelModel.isFair()Z (89,)
def d_M_isFair_40 (F2 : Int32 → ai_V → Option Int32) : Nat → Int32 → Int32 → Int32 → ai_V → Option Int32
  | 0, _, _, _, _ => none
  | n + 1, x1, x2, x3, V => if (gi V 89 46) ≤ x3 then (F2 (x1 + (1 : Int32)) V) else (if ai_in (((4 : Int32) * x1) + x3) 16 then (if ai_in x3 4 then (if ((ga V 107 ((((4 : Int32) * x1) + x3)).toNatClampNeg) - (ga V 111 (x3).toNatClampNeg)) ≤ x2 then (d_M_isFair_40 F2 n x1 x2 (x3 + (1 : Int32)) V) else (some (0 : Int32))) else none) else none)
set_option maxRecDepth 20000 in
theorem t_M_isFair_40 {X : ai_S} {e : Nat} (hd : 0 ≤ e) (F2 : Int32 → ai_V → Option Int32) (hF2 : ∀ (x1 : Int32) (V : ai_V) (r : Int32), F2 x1 V = some r → Rn e 236 2 [(0, .ref 89), (1, .int x1)] [] (SH ++ X) V (some (.int r)) (SH ++ X) V) : ∀ (n : Nat) (x1 : Int32) (x2 : Int32) (x3 : Int32) (V : ai_V) (r : Int32), d_M_isFair_40 F2 n x1 x2 x3 V = some r → Rn e 236 40 [(0, .ref 89), (1, .int x1), (2, .int x2), (3, .int x3)] [] (SH ++ X) V (some (.int r)) (SH ++ X) V := by
  intro n
  induction n with
  | zero =>
    intro x1 x2 x3 V r h
    cases h
  | succ n ih =>
    intro x1 x2 x3 V r h
    rw [d_M_isFair_40] at h
    refine rn_go 3 (pc' := 45) (l' := [(0, .ref 89), (1, .int x1), (2, .int x2), (3, .int x3)]) (st' := [.int (gi V 89 46), .int x3]) (S1 := (SH ++ X)) (V1 := V) rfl ?_
    rcases ai_if h with ⟨hc, h⟩ | ⟨hc, h⟩
    · refine rn_brT rfl rfl rfl rfl hc ?_
      refine rn_go 2 (pc' := 2) (l' := [(1, .int (x1 + (1 : Int32))), (0, .ref 89), (2, .int x2), (3, .int x3)]) (st' := []) (S1 := (SH ++ X)) (V1 := V) rfl ?_
      exact rn_sub [1, 0] rfl rfl (hF2 (x1 + (1 : Int32)) V _ h)
    · refine rn_brF rfl rfl rfl rfl hc ?_
      refine rn_go 7 (pc' := 57) (l' := [(0, .ref 89), (1, .int x1), (2, .int x2), (3, .int x3)]) (st' := [.int (((4 : Int32) * x1) + x3), .ref 107]) (S1 := (SH ++ X)) (V1 := V) rfl ?_
      obtain ⟨hg, h⟩ := ai_gd h
      refine rg_iald (n := 16) rfl rfl hg ?_
      refine rn_go 3 (pc' := 63) (l' := [(0, .ref 89), (1, .int x1), (2, .int x2), (3, .int x3)]) (st' := [.int x3, .ref 111, .int (ga V 107 ((((4 : Int32) * x1) + x3)).toNatClampNeg)]) (S1 := (SH ++ X)) (V1 := V) rfl ?_
      obtain ⟨hg, h⟩ := ai_gd h
      refine rg_iald (n := 4) rfl rfl hg ?_
      refine rn_go 2 (pc' := 66) (l' := [(0, .ref 89), (1, .int x1), (2, .int x2), (3, .int x3)]) (st' := [.int x2, .int ((ga V 107 ((((4 : Int32) * x1) + x3)).toNatClampNeg) - (ga V 111 (x3).toNatClampNeg))]) (S1 := (SH ++ X)) (V1 := V) rfl ?_
      rcases ai_if h with ⟨hc, h⟩ | ⟨hc, h⟩
      · refine rn_brT rfl rfl rfl rfl hc ?_
        refine rn_go 2 (pc' := 40) (l' := [(3, .int (x3 + (1 : Int32))), (0, .ref 89), (1, .int x1), (2, .int x2)]) (st' := []) (S1 := (SH ++ X)) (V1 := V) rfl ?_
        exact rn_sub [1, 2, 3, 0] rfl rfl (ih x1 x2 (x3 + (1 : Int32)) V _ h)
      · refine rn_brF rfl rfl rfl rfl hc ?_
        refine rn_go 1 (pc' := 70) (l' := [(0, .ref 89), (1, .int x1), (2, .int x2), (3, .int x3)]) (st' := [.int (0 : Int32)]) (S1 := (SH ++ X)) (V1 := V) rfl ?_
        obtain rfl := Option.some.inj h
        exact rg_zret rfl (by decide)
def d_M_isFair_2  : Nat → Int32 → ai_V → Option Int32
  | 0, _, _ => none
  | n + 1, x1, V => if (gi V 89 46) ≤ x1 then (some (1 : Int32)) else (if ai_in x1 4 then (if ai_in (((4 : Int32) * x1) + (ga V 110 (x1).toNatClampNeg)) 16 then (if ai_in x1 4 then (if ai_in (ga V 110 (x1).toNatClampNeg) 4 then (d_M_isFair_40 (d_M_isFair_2 n) ai_N x1 ((ga V 107 ((((4 : Int32) * x1) + (ga V 110 (x1).toNatClampNeg))).toNatClampNeg) - (ga V 111 ((ga V 110 (x1).toNatClampNeg)).toNatClampNeg)) (0 : Int32) V) else none) else none) else none) else none)
set_option maxRecDepth 20000 in
theorem t_M_isFair_2 {X : ai_S} {e : Nat} (hd : 0 ≤ e)  : ∀ (n : Nat) (x1 : Int32) (V : ai_V) (r : Int32), d_M_isFair_2  n x1 V = some r → Rn e 236 2 [(0, .ref 89), (1, .int x1)] [] (SH ++ X) V (some (.int r)) (SH ++ X) V := by
  intro n
  induction n with
  | zero =>
    intro x1 V r h
    cases h
  | succ n ih =>
    intro x1 V r h
    rw [d_M_isFair_2] at h
    refine rn_go 3 (pc' := 7) (l' := [(0, .ref 89), (1, .int x1)]) (st' := [.int (gi V 89 46), .int x1]) (S1 := (SH ++ X)) (V1 := V) rfl ?_
    rcases ai_if h with ⟨hc, h⟩ | ⟨hc, h⟩
    · refine rn_brT rfl rfl rfl rfl hc ?_
      refine rn_go 1 (pc' := 84) (l' := [(0, .ref 89), (1, .int x1)]) (st' := [.int (1 : Int32)]) (S1 := (SH ++ X)) (V1 := V) rfl ?_
      obtain rfl := Option.some.inj h
      exact rg_zret rfl (by decide)
    · refine rn_brF rfl rfl rfl rfl hc ?_
      refine rn_go 8 (pc' := 22) (l' := [(0, .ref 89), (1, .int x1)]) (st' := [.int x1, .ref 110, .int ((4 : Int32) * x1), .ref 107]) (S1 := (SH ++ X)) (V1 := V) rfl ?_
      obtain ⟨hg, h⟩ := ai_gd h
      refine rg_iald (n := 4) rfl rfl hg ?_
      refine rn_go 1 (pc' := 24) (l' := [(0, .ref 89), (1, .int x1)]) (st' := [.int (((4 : Int32) * x1) + (ga V 110 (x1).toNatClampNeg)), .ref 107]) (S1 := (SH ++ X)) (V1 := V) rfl ?_
      obtain ⟨hg, h⟩ := ai_gd h
      refine rg_iald (n := 16) rfl rfl hg ?_
      refine rn_go 5 (pc' := 34) (l' := [(0, .ref 89), (1, .int x1)]) (st' := [.int x1, .ref 110, .ref 111, .int (ga V 107 ((((4 : Int32) * x1) + (ga V 110 (x1).toNatClampNeg))).toNatClampNeg)]) (S1 := (SH ++ X)) (V1 := V) rfl ?_
      obtain ⟨hg, h⟩ := ai_gd h
      refine rg_iald (n := 4) rfl rfl hg ?_
      obtain ⟨hg, h⟩ := ai_gd h
      refine rg_iald (n := 4) rfl rfl hg ?_
      refine rn_go 4 (pc' := 40) (l' := [(3, .int (0 : Int32)), (2, .int ((ga V 107 ((((4 : Int32) * x1) + (ga V 110 (x1).toNatClampNeg))).toNatClampNeg) - (ga V 111 ((ga V 110 (x1).toNatClampNeg)).toNatClampNeg))), (0, .ref 89), (1, .int x1)]) (st' := []) (S1 := (SH ++ X)) (V1 := V) rfl ?_
      exact rn_sub [2, 3, 1, 0] rfl rfl (t_M_isFair_40 (X := X) hd (d_M_isFair_2 n) (ih) ai_N x1 ((ga V 107 ((((4 : Int32) * x1) + (ga V 110 (x1).toNatClampNeg))).toNatClampNeg) - (ga V 111 ((ga V 110 (x1).toNatClampNeg)).toNatClampNeg)) (0 : Int32) V _ h)
def d_M_isFair  (V : ai_V) : Option Int32 :=
  d_M_isFair_2 ai_N (0 : Int32) V
set_option maxRecDepth 20000 in
theorem t_M_isFair {X : ai_S} {e : Nat} (hd : 0 ≤ e)  {V : ai_V} {r : Int32} (h : d_M_isFair  V = some r) : Rn e 236 0 (lv_args 0 [.ref 89]) [] (SH ++ X) V (some (.int r)) (SH ++ X) V := by
  rw [d_M_isFair] at h
  refine rn_go 2 (pc' := 2) (l' := [(1, .int (0 : Int32)), (0, .ref 89)]) (st' := []) (S1 := (SH ++ X)) (V1 := V) rfl ?_
  exact rn_sub [1, 0] rfl rfl (t_M_isFair_2 (X := X) hd ai_N (0 : Int32) V _ h)
-- RentByTheWheelModel.goRents(II)V (89, None, None)
def d_M_goRents_55 (T : Int32 → Int32 → ai_V → Option ai_V)   (V : ai_V) : Option ai_V :=
  some (si V 89 52 ((gi V 89 52) + (1 : Int32)))
set_option maxRecDepth 20000 in
theorem t_M_goRents_55 (T : Int32 → Int32 → ai_V → Option ai_V) (DT : Nat) (hT : ∀ {X : ai_S} {e : Nat}, DT ≤ e → ∀ (x1 : Int32) (x2 : Int32) (V : ai_V) (r : ai_V), T x1 x2 V = some r → Rn e 237 0 (lv_args 0 [.ref 89, .int x1, .int x2]) [] (SH ++ X) V none (SH ++ X) r) {X : ai_S} {e : Nat} (hd : DT + 1 ≤ e ∧ 1 ≤ e)   (V : ai_V) (r : ai_V) (h : d_M_goRents_55 T   V = some r) : Rn e 237 55 [(0, .ref 89)] [] (SH ++ X) V none (SH ++ X) r := by
  rw [d_M_goRents_55] at h
  refine rn_go 6 (pc' := 65) (l' := [(0, .ref 89)]) (st' := []) (S1 := (SH ++ X)) (V1 := (si V 89 52 ((gi V 89 52) + (1 : Int32)))) rfl ?_
  obtain rfl := Option.some.inj h
  exact rn_ret rfl rfl rfl
def d_M_goRents_29 (T : Int32 → Int32 → ai_V → Option ai_V)  : Nat → Int32 → ai_V → Option ai_V
  | 0, _, _ => none
  | n + 1, x3, V => if (gi V 89 46) ≤ x3 then (d_M_goRents_55 T V) else (if ai_in x3 4 then (if ai_in x3 4 then (d_M_goRents_29 T n (x3 + (1 : Int32)) (sa V 112 (x3).toNatClampNeg (ga V 111 (x3).toNatClampNeg))) else none) else none)
set_option maxRecDepth 20000 in
theorem t_M_goRents_29 (T : Int32 → Int32 → ai_V → Option ai_V) (DT : Nat) (hT : ∀ {X : ai_S} {e : Nat}, DT ≤ e → ∀ (x1 : Int32) (x2 : Int32) (V : ai_V) (r : ai_V), T x1 x2 V = some r → Rn e 237 0 (lv_args 0 [.ref 89, .int x1, .int x2]) [] (SH ++ X) V none (SH ++ X) r) {X : ai_S} {e : Nat} (hd : DT + 1 ≤ e ∧ 1 ≤ e)  : ∀ (n : Nat) (x3 : Int32) (V : ai_V) (r : ai_V), d_M_goRents_29 T  n x3 V = some r → Rn e 237 29 [(0, .ref 89), (3, .int x3)] [] (SH ++ X) V none (SH ++ X) r := by
  intro n
  induction n with
  | zero =>
    intro x3 V r h
    cases h
  | succ n ih =>
    intro x3 V r h
    rw [d_M_goRents_29] at h
    refine rn_go 3 (pc' := 34) (l' := [(0, .ref 89), (3, .int x3)]) (st' := [.int (gi V 89 46), .int x3]) (S1 := (SH ++ X)) (V1 := V) rfl ?_
    rcases ai_if h with ⟨hc, h⟩ | ⟨hc, h⟩
    · refine rn_brT rfl rfl rfl rfl hc ?_
      exact rn_sub [0] rfl rfl (t_M_goRents_55 T DT hT (X := X) hd V _ h)
    · refine rn_brF rfl rfl rfl rfl hc ?_
      refine rn_go 6 (pc' := 47) (l' := [(0, .ref 89), (3, .int x3)]) (st' := [.int x3, .ref 111, .int x3, .ref 112]) (S1 := (SH ++ X)) (V1 := V) rfl ?_
      obtain ⟨hg, h⟩ := ai_gd h
      refine rg_iald (n := 4) rfl rfl hg ?_
      obtain ⟨hg, h⟩ := ai_gd h
      refine rg_iast (n := 4) rfl rfl hg ?_
      refine rn_go 2 (pc' := 29) (l' := [(3, .int (x3 + (1 : Int32))), (0, .ref 89)]) (st' := []) (S1 := (SH ++ X)) (V1 := (sa V 112 (x3).toNatClampNeg (ga V 111 (x3).toNatClampNeg))) rfl ?_
      exact rn_sub [1, 0] rfl rfl (ih (x3 + (1 : Int32)) (sa V 112 (x3).toNatClampNeg (ga V 111 (x3).toNatClampNeg)) _ h)
def d_M_goRents_68 (T : Int32 → Int32 → ai_V → Option ai_V)  : Nat → Int32 → Int32 → Int32 → ai_V → Option ai_V
  | 0, _, _, _, _ => none
  | n + 1, x1, x2, x3, V => if (12 : Int32) < x3 then (some V) else (if x2 < x3 then (some V) else (if ai_in x1 4 then ((T (x1 + (1 : Int32)) (x2 - x3) (sa V 111 (x1).toNatClampNeg x3)).bind fun q1 => (d_M_goRents_68 T n x1 x2 (x3 + (1 : Int32)) q1)) else none))
set_option maxRecDepth 20000 in
theorem t_M_goRents_68 (T : Int32 → Int32 → ai_V → Option ai_V) (DT : Nat) (hT : ∀ {X : ai_S} {e : Nat}, DT ≤ e → ∀ (x1 : Int32) (x2 : Int32) (V : ai_V) (r : ai_V), T x1 x2 V = some r → Rn e 237 0 (lv_args 0 [.ref 89, .int x1, .int x2]) [] (SH ++ X) V none (SH ++ X) r) {X : ai_S} {e : Nat} (hd : DT + 1 ≤ e ∧ 1 ≤ e)  : ∀ (n : Nat) (x1 : Int32) (x2 : Int32) (x3 : Int32) (V : ai_V) (r : ai_V), d_M_goRents_68 T  n x1 x2 x3 V = some r → Rn e 237 68 [(0, .ref 89), (1, .int x1), (2, .int x2), (3, .int x3)] [] (SH ++ X) V none (SH ++ X) r := by
  intro n
  induction n with
  | zero =>
    intro x1 x2 x3 V r h
    cases h
  | succ n ih =>
    intro x1 x2 x3 V r h
    rw [d_M_goRents_68] at h
    refine rn_go 2 (pc' := 71) (l' := [(0, .ref 89), (1, .int x1), (2, .int x2), (3, .int x3)]) (st' := [.int (12 : Int32), .int x3]) (S1 := (SH ++ X)) (V1 := V) rfl ?_
    rcases ai_if h with ⟨hc, h⟩ | ⟨hc, h⟩
    · refine rn_brT rfl rfl rfl rfl hc ?_
      obtain rfl := Option.some.inj h
      exact rn_ret rfl rfl rfl
    · refine rn_brF rfl rfl rfl rfl hc ?_
      refine rn_go 2 (pc' := 76) (l' := [(0, .ref 89), (1, .int x1), (2, .int x2), (3, .int x3)]) (st' := [.int x2, .int x3]) (S1 := (SH ++ X)) (V1 := V) rfl ?_
      rcases ai_if h with ⟨hc, h⟩ | ⟨hc, h⟩
      · refine rn_brT rfl rfl rfl rfl hc ?_
        obtain rfl := Option.some.inj h
        exact rn_ret rfl rfl rfl
      · refine rn_brF rfl rfl rfl rfl hc ?_
        refine rn_go 4 (pc' := 85) (l' := [(0, .ref 89), (1, .int x1), (2, .int x2), (3, .int x3)]) (st' := [.int x3, .int x1, .ref 111]) (S1 := (SH ++ X)) (V1 := V) rfl ?_
        obtain ⟨hg, h⟩ := ai_gd h
        refine rg_iast (n := 4) rfl rfl hg ?_
        refine rn_go 7 (pc' := 93) (l' := [(0, .ref 89), (1, .int x1), (2, .int x2), (3, .int x3)]) (st' := [.int (x2 - x3), .int (x1 + (1 : Int32)), .ref 89]) (S1 := (SH ++ X)) (V1 := (sa V 111 (x1).toNatClampNeg x3)) rfl ?_
        obtain ⟨q1, hq1, h⟩ := ai_bd h
        refine rn_call rfl rfl rfl rfl rfl rfl (by omega) (hT (by omega) (x1 + (1 : Int32)) (x2 - x3) (sa V 111 (x1).toNatClampNeg x3) _ hq1) ?_
        refine rn_go 2 (pc' := 68) (l' := [(3, .int (x3 + (1 : Int32))), (0, .ref 89), (1, .int x1), (2, .int x2)]) (st' := []) (S1 := (SH ++ X)) (V1 := q1) rfl ?_
        exact rn_sub [1, 2, 3, 0] rfl rfl (ih x1 x2 (x3 + (1 : Int32)) q1 _ h)
def d_M_goRents_B (T : Int32 → Int32 → ai_V → Option ai_V) (x1 : Int32) (x2 : Int32) (V : ai_V) : Option ai_V :=
  if ¬ x1 = (gi V 89 46) then (d_M_goRents_68 T ai_N x1 x2 (0 : Int32) V) else (if ¬ x2 = 0 then (some V) else ((d_M_isFair  V).bind fun q2 => (if ¬ q2 = 0 then (if ¬ (gi V 89 52) = 0 then (d_M_goRents_55 T V) else (d_M_goRents_29 T ai_N (0 : Int32) V)) else (some V))))
set_option maxRecDepth 20000 in
theorem t_M_goRents_B (T : Int32 → Int32 → ai_V → Option ai_V) (DT : Nat) (hT : ∀ {X : ai_S} {e : Nat}, DT ≤ e → ∀ (x1 : Int32) (x2 : Int32) (V : ai_V) (r : ai_V), T x1 x2 V = some r → Rn e 237 0 (lv_args 0 [.ref 89, .int x1, .int x2]) [] (SH ++ X) V none (SH ++ X) r) {X : ai_S} {e : Nat} (hd : DT + 1 ≤ e ∧ 1 ≤ e) {x1 : Int32} {x2 : Int32} {V : ai_V} {r : ai_V} (h : d_M_goRents_B T x1 x2 V = some r) : Rn e 237 0 (lv_args 0 [.ref 89, .int x1, .int x2]) [] (SH ++ X) V none (SH ++ X) r := by
  rw [d_M_goRents_B] at h
  refine rn_go 3 (pc' := 5) (l' := [(0, .ref 89), (1, .int x1), (2, .int x2)]) (st' := [.int (gi V 89 46), .int x1]) (S1 := (SH ++ X)) (V1 := V) rfl ?_
  rcases ai_if h with ⟨hc, h⟩ | ⟨hc, h⟩
  · refine rn_brT rfl rfl rfl rfl hc ?_
    refine rn_go 2 (pc' := 68) (l' := [(3, .int (0 : Int32)), (0, .ref 89), (1, .int x1), (2, .int x2)]) (st' := []) (S1 := (SH ++ X)) (V1 := V) rfl ?_
    exact rn_sub [1, 2, 3, 0] rfl rfl (t_M_goRents_68 T DT hT (X := X) hd ai_N x1 x2 (0 : Int32) V _ h)
  · refine rn_brF rfl rfl rfl rfl hc ?_
    refine rn_go 1 (pc' := 9) (l' := [(0, .ref 89), (1, .int x1), (2, .int x2)]) (st' := [.int x2]) (S1 := (SH ++ X)) (V1 := V) rfl ?_
    rcases ai_if h with ⟨hc, h⟩ | ⟨hc, h⟩
    · refine rn_brT rfl rfl rfl rfl hc ?_
      obtain rfl := Option.some.inj h
      exact rn_ret rfl rfl rfl
    · refine rn_brF rfl rfl rfl rfl hc ?_
      refine rn_go 1 (pc' := 13) (l' := [(0, .ref 89), (1, .int x1), (2, .int x2)]) (st' := [.ref 89]) (S1 := (SH ++ X)) (V1 := V) rfl ?_
      obtain ⟨q2, hq2, h⟩ := ai_bd h
      refine rn_call rfl rfl rfl rfl rfl rfl (by omega) (t_M_isFair (by omega) hq2) ?_
      rcases ai_if h with ⟨hc, h⟩ | ⟨hc, h⟩
      · refine rn_brT rfl rfl rfl rfl hc ?_
        refine rn_go 2 (pc' := 24) (l' := [(0, .ref 89), (1, .int x1), (2, .int x2)]) (st' := [.int (gi V 89 52)]) (S1 := (SH ++ X)) (V1 := V) rfl ?_
        rcases ai_if h with ⟨hc, h⟩ | ⟨hc, h⟩
        · refine rn_brT rfl rfl rfl rfl hc ?_
          exact rn_sub [0] rfl rfl (t_M_goRents_55 T DT hT (X := X) hd V _ h)
        · refine rn_brF rfl rfl rfl rfl hc ?_
          refine rn_go 2 (pc' := 29) (l' := [(3, .int (0 : Int32)), (0, .ref 89), (1, .int x1), (2, .int x2)]) (st' := []) (S1 := (SH ++ X)) (V1 := V) rfl ?_
          exact rn_sub [1, 0] rfl rfl (t_M_goRents_29 T DT hT (X := X) hd ai_N (0 : Int32) V _ h)
      · refine rn_brF rfl rfl rfl rfl hc ?_
        obtain rfl := Option.some.inj h
        exact rn_ret rfl rfl rfl
def d_M_goRents_R : Nat → Int32 → Int32 → ai_V → Option ai_V
  | 0, _, _, _ => none
  | n + 1, x1, x2, V => d_M_goRents_B (d_M_goRents_R n) x1 x2 V
theorem t_M_goRents_R : ∀ (n : Nat) {X : ai_S} {e : Nat} (hd : n * 1 + 1 ≤ e) (x1 : Int32) (x2 : Int32) (V : ai_V) (r : ai_V), d_M_goRents_R n x1 x2 V = some r → Rn e 237 0 (lv_args 0 [.ref 89, .int x1, .int x2]) [] (SH ++ X) V none (SH ++ X) r := by
  intro n
  induction n with
  | zero =>
    intro X e hd x1 x2 V r h
    cases h
  | succ n ih =>
    intro X e hd x1 x2 V r h
    exact t_M_goRents_B (d_M_goRents_R n) (n * 1 + 1) (fun hd2 => ih hd2) (by omega) (show d_M_goRents_B (d_M_goRents_R n) x1 x2 V = some r from h)
def d_M_goRents : Int32 → Int32 → ai_V → Option ai_V := d_M_goRents_R 80
theorem t_M_goRents {X : ai_S} {e : Nat} (hd : 81 ≤ e) {x1 : Int32} {x2 : Int32} {V : ai_V} {r : ai_V} (h : d_M_goRents x1 x2 V = some r) : Rn e 237 0 (lv_args 0 [.ref 89, .int x1, .int x2]) [] (SH ++ X) V none (SH ++ X) r := t_M_goRents_R 80 (by omega) x1 x2 V r h
-- RentByTheWheelModel.rents(I)I (89, None)
def d_M_rents_89   (V : ai_V) : Option (Int32 × ai_V) :=
  some ((gi V 89 52), V)
set_option maxRecDepth 20000 in
theorem t_M_rents_89 {X : ai_S} {e : Nat} (hd : 82 ≤ e)   (V : ai_V) (r : (Int32 × ai_V)) (h : d_M_rents_89   V = some r) : Rn e 238 89 [(0, .ref 89)] [] (SH ++ X) V (some (.int r.1)) (SH ++ X) r.2 := by
  rw [d_M_rents_89] at h
  refine rn_go 2 (pc' := 93) (l' := [(0, .ref 89)]) (st' := [.int (gi V 89 52)]) (S1 := (SH ++ X)) (V1 := V) rfl ?_
  obtain rfl := Option.some.inj h
  exact rn_ret rfl rfl rfl
def d_M_rents_57  : Nat → Int32 → ai_V → Option (Int32 × ai_V)
  | 0, _, _ => none
  | n + 1, x2, V => if (gi V 89 46) ≤ x2 then (d_M_rents_89 V) else (if (gi V 89 52) ≤ 0 then (d_M_rents_89 V) else (if ai_in x2 4 then ((d_M_tell (((ga V 112 (x2).toNatClampNeg)).toInt64) V).bind fun q1 => (d_M_rents_57 n (x2 + (1 : Int32)) q1)) else none))
set_option maxRecDepth 20000 in
theorem t_M_rents_57 {X : ai_S} {e : Nat} (hd : 82 ≤ e)  : ∀ (n : Nat) (x2 : Int32) (V : ai_V) (r : (Int32 × ai_V)), d_M_rents_57  n x2 V = some r → Rn e 238 57 [(0, .ref 89), (2, .int x2)] [] (SH ++ X) V (some (.int r.1)) (SH ++ X) r.2 := by
  intro n
  induction n with
  | zero =>
    intro x2 V r h
    cases h
  | succ n ih =>
    intro x2 V r h
    rw [d_M_rents_57] at h
    refine rn_go 3 (pc' := 62) (l' := [(0, .ref 89), (2, .int x2)]) (st' := [.int (gi V 89 46), .int x2]) (S1 := (SH ++ X)) (V1 := V) rfl ?_
    rcases ai_if h with ⟨hc, h⟩ | ⟨hc, h⟩
    · refine rn_brT rfl rfl rfl rfl hc ?_
      exact rn_sub [0] rfl rfl (t_M_rents_89 (X := X) hd V _ h)
    · refine rn_brF rfl rfl rfl rfl hc ?_
      refine rn_go 2 (pc' := 69) (l' := [(0, .ref 89), (2, .int x2)]) (st' := [.int (gi V 89 52)]) (S1 := (SH ++ X)) (V1 := V) rfl ?_
      rcases ai_if h with ⟨hc, h⟩ | ⟨hc, h⟩
      · refine rn_brT rfl rfl rfl rfl hc ?_
        exact rn_sub [0] rfl rfl (t_M_rents_89 (X := X) hd V _ h)
      · refine rn_brF rfl rfl rfl rfl hc ?_
        refine rn_go 4 (pc' := 78) (l' := [(0, .ref 89), (2, .int x2)]) (st' := [.int x2, .ref 112, .ref 89]) (S1 := (SH ++ X)) (V1 := V) rfl ?_
        obtain ⟨hg, h⟩ := ai_gd h
        refine rg_iald (n := 4) rfl rfl hg ?_
        refine rn_go 1 (pc' := 80) (l' := [(0, .ref 89), (2, .int x2)]) (st' := [.long ((ga V 112 (x2).toNatClampNeg)).toInt64, .ref 89]) (S1 := (SH ++ X)) (V1 := V) rfl ?_
        obtain ⟨q1, hq1, h⟩ := ai_bd h
        refine rn_call rfl rfl rfl rfl rfl rfl (by omega) (t_M_tell (by omega) hq1) ?_
        refine rn_go 2 (pc' := 57) (l' := [(2, .int (x2 + (1 : Int32))), (0, .ref 89)]) (st' := []) (S1 := (SH ++ X)) (V1 := q1) rfl ?_
        exact rn_sub [1, 0] rfl rfl (ih (x2 + (1 : Int32)) q1 _ h)
def d_M_rents (x1 : Int32) (V : ai_V) : Option (Int32 × ai_V) :=
  (d_M_in x1 (0 : Int32) (48 : Int32) (si V 89 14 (0 : Int32))).bind fun q2 => (if ¬ q2 = 0 then (if ¬ (gi (si V 89 14 (0 : Int32)) 89 46) = 0 then ((d_M_goAllot (0 : Int32) (0 : Int32) (0 : Int32) (si (si V 89 14 (0 : Int32)) 89 49 (-1 : Int32))).bind fun q3 => ((d_M_goRents (0 : Int32) x1 (si q3 89 52 (0 : Int32))).bind fun q4 => (d_M_rents_57 ai_N (0 : Int32) (si q4 89 13 (0 : Int32))))) else (some ((-2 : Int32), (si V 89 14 (0 : Int32))))) else (some ((-1 : Int32), (si V 89 14 (0 : Int32)))))
set_option maxRecDepth 20000 in
theorem t_M_rents {X : ai_S} {e : Nat} (hd : 82 ≤ e) {x1 : Int32} {V : ai_V} {r : (Int32 × ai_V)} (h : d_M_rents x1 V = some r) : Rn e 238 0 (lv_args 0 [.ref 89, .int x1]) [] (SH ++ X) V (some (.int r.1)) (SH ++ X) r.2 := by
  rw [d_M_rents] at h
  refine rn_go 6 (pc' := 9) (l' := [(0, .ref 89), (1, .int x1)]) (st' := [.int (48 : Int32), .int (0 : Int32), .int x1]) (S1 := (SH ++ X)) (V1 := (si V 89 14 (0 : Int32))) rfl ?_
  obtain ⟨q2, hq2, h⟩ := ai_bd h
  refine rn_call rfl rfl rfl rfl rfl rfl (by omega) (t_M_in (by omega) hq2) ?_
  rcases ai_if h with ⟨hc, h⟩ | ⟨hc, h⟩
  · refine rn_brT rfl rfl rfl rfl hc ?_
    refine rn_go 2 (pc' := 21) (l' := [(0, .ref 89), (1, .int x1)]) (st' := [.int (gi (si V 89 14 (0 : Int32)) 89 46)]) (S1 := (SH ++ X)) (V1 := (si V 89 14 (0 : Int32))) rfl ?_
    rcases ai_if h with ⟨hc, h⟩ | ⟨hc, h⟩
    · refine rn_brT rfl rfl rfl rfl hc ?_
      refine rn_go 7 (pc' := 36) (l' := [(0, .ref 89), (1, .int x1)]) (st' := [.int (0 : Int32), .int (0 : Int32), .int (0 : Int32), .ref 89]) (S1 := (SH ++ X)) (V1 := (si (si V 89 14 (0 : Int32)) 89 49 (-1 : Int32))) rfl ?_
      obtain ⟨q3, hq3, h⟩ := ai_bd h
      refine rn_call rfl rfl rfl rfl rfl rfl (by omega) (t_M_goAllot (by omega) hq3) ?_
      refine rn_go 6 (pc' := 47) (l' := [(0, .ref 89), (1, .int x1)]) (st' := [.int x1, .int (0 : Int32), .ref 89]) (S1 := (SH ++ X)) (V1 := (si q3 89 52 (0 : Int32))) rfl ?_
      obtain ⟨q4, hq4, h⟩ := ai_bd h
      refine rn_call rfl rfl rfl rfl rfl rfl (by omega) (t_M_goRents (by omega) hq4) ?_
      refine rn_go 5 (pc' := 57) (l' := [(2, .int (0 : Int32)), (0, .ref 89), (1, .int x1)]) (st' := []) (S1 := (SH ++ X)) (V1 := (si q4 89 13 (0 : Int32))) rfl ?_
      exact rn_sub [1, 0] rfl rfl (t_M_rents_57 (X := X) hd ai_N (0 : Int32) (si q4 89 13 (0 : Int32)) _ h)
    · refine rn_brF rfl rfl rfl rfl hc ?_
      refine rn_go 1 (pc' := 26) (l' := [(0, .ref 89), (1, .int x1)]) (st' := [.int (-2 : Int32)]) (S1 := (SH ++ X)) (V1 := (si V 89 14 (0 : Int32))) rfl ?_
      obtain rfl := Option.some.inj h
      exact rn_ret rfl rfl rfl
  · refine rn_brF rfl rfl rfl rfl hc ?_
    refine rn_go 1 (pc' := 16) (l' := [(0, .ref 89), (1, .int x1)]) (st' := [.int (-1 : Int32)]) (S1 := (SH ++ X)) (V1 := (si V 89 14 (0 : Int32))) rfl ?_
    obtain rfl := Option.some.inj h
    exact rn_ret rfl rfl rfl
-- java/lang/Integer.numberOfTrailingZeros(I)I (None,)
def d_Int_numberOfTrailingZeros_74  (x0 : Int32) (x1 : Int32) (V : ai_V) : Option Int32 :=
  some (x1 + ((x0).toUInt32 >>> (((1 : Int32)).toUInt32 &&& Int32.toUInt32 31)).toInt32)
set_option maxRecDepth 20000 in
theorem t_Int_numberOfTrailingZeros_74 {X : ai_S} {e : Nat} (hd : 0 ≤ e)  (x0 : Int32) (x1 : Int32) (V : ai_V) (r : Int32) (h : d_Int_numberOfTrailingZeros_74  x0 x1 V = some r) : Rn e 10 74 [(0, .int x0), (1, .int x1)] [] (SH ++ X) V (some (.int r)) (SH ++ X) V := by
  rw [d_Int_numberOfTrailingZeros_74] at h
  refine rn_go 5 (pc' := 79) (l' := [(0, .int x0), (1, .int x1)]) (st' := [.int (x1 + ((x0).toUInt32 >>> (((1 : Int32)).toUInt32 &&& Int32.toUInt32 31)).toInt32)]) (S1 := (SH ++ X)) (V1 := V) rfl ?_
  obtain rfl := Option.some.inj h
  exact rn_ret rfl rfl rfl
def d_Int_numberOfTrailingZeros_62  (x0 : Int32) (x1 : Int32) (V : ai_V) : Option Int32 :=
  if x0 ≤ (4 : Int32) then (d_Int_numberOfTrailingZeros_74 x0 x1 V) else (d_Int_numberOfTrailingZeros_74 (((x0).toUInt32 >>> (((2 : Int32)).toUInt32 &&& Int32.toUInt32 31)).toInt32) (x1 + (2 : Int32)) V)
set_option maxRecDepth 20000 in
theorem t_Int_numberOfTrailingZeros_62 {X : ai_S} {e : Nat} (hd : 0 ≤ e)  (x0 : Int32) (x1 : Int32) (V : ai_V) (r : Int32) (h : d_Int_numberOfTrailingZeros_62  x0 x1 V = some r) : Rn e 10 62 [(0, .int x0), (1, .int x1)] [] (SH ++ X) V (some (.int r)) (SH ++ X) V := by
  rw [d_Int_numberOfTrailingZeros_62] at h
  refine rn_go 2 (pc' := 64) (l' := [(0, .int x0), (1, .int x1)]) (st' := [.int (4 : Int32), .int x0]) (S1 := (SH ++ X)) (V1 := V) rfl ?_
  rcases ai_if h with ⟨hc, h⟩ | ⟨hc, h⟩
  · refine rn_brT rfl rfl rfl rfl hc ?_
    exact rn_sub [0, 1] rfl rfl (t_Int_numberOfTrailingZeros_74 (X := X) hd x0 x1 V _ h)
  · refine rn_brF rfl rfl rfl rfl hc ?_
    refine rn_go 5 (pc' := 74) (l' := [(0, .int ((x0).toUInt32 >>> (((2 : Int32)).toUInt32 &&& Int32.toUInt32 31)).toInt32), (1, .int (x1 + (2 : Int32)))]) (st' := []) (S1 := (SH ++ X)) (V1 := V) rfl ?_
    exact rn_sub [0, 1] rfl rfl (t_Int_numberOfTrailingZeros_74 (X := X) hd (((x0).toUInt32 >>> (((2 : Int32)).toUInt32 &&& Int32.toUInt32 31)).toInt32) (x1 + (2 : Int32)) V _ h)
def d_Int_numberOfTrailingZeros_49  (x0 : Int32) (x1 : Int32) (V : ai_V) : Option Int32 :=
  if x0 ≤ (16 : Int32) then (d_Int_numberOfTrailingZeros_62 x0 x1 V) else (d_Int_numberOfTrailingZeros_62 (((x0).toUInt32 >>> (((4 : Int32)).toUInt32 &&& Int32.toUInt32 31)).toInt32) (x1 + (4 : Int32)) V)
set_option maxRecDepth 20000 in
theorem t_Int_numberOfTrailingZeros_49 {X : ai_S} {e : Nat} (hd : 0 ≤ e)  (x0 : Int32) (x1 : Int32) (V : ai_V) (r : Int32) (h : d_Int_numberOfTrailingZeros_49  x0 x1 V = some r) : Rn e 10 49 [(0, .int x0), (1, .int x1)] [] (SH ++ X) V (some (.int r)) (SH ++ X) V := by
  rw [d_Int_numberOfTrailingZeros_49] at h
  refine rn_go 2 (pc' := 52) (l' := [(0, .int x0), (1, .int x1)]) (st' := [.int (16 : Int32), .int x0]) (S1 := (SH ++ X)) (V1 := V) rfl ?_
  rcases ai_if h with ⟨hc, h⟩ | ⟨hc, h⟩
  · refine rn_brT rfl rfl rfl rfl hc ?_
    exact rn_sub [0, 1] rfl rfl (t_Int_numberOfTrailingZeros_62 (X := X) hd x0 x1 V _ h)
  · refine rn_brF rfl rfl rfl rfl hc ?_
    refine rn_go 5 (pc' := 62) (l' := [(0, .int ((x0).toUInt32 >>> (((4 : Int32)).toUInt32 &&& Int32.toUInt32 31)).toInt32), (1, .int (x1 + (4 : Int32)))]) (st' := []) (S1 := (SH ++ X)) (V1 := V) rfl ?_
    exact rn_sub [0, 1] rfl rfl (t_Int_numberOfTrailingZeros_62 (X := X) hd (((x0).toUInt32 >>> (((4 : Int32)).toUInt32 &&& Int32.toUInt32 31)).toInt32) (x1 + (4 : Int32)) V _ h)
def d_Int_numberOfTrailingZeros_34  (x0 : Int32) (x1 : Int32) (V : ai_V) : Option Int32 :=
  if x0 ≤ (256 : Int32) then (d_Int_numberOfTrailingZeros_49 x0 x1 V) else (d_Int_numberOfTrailingZeros_49 (((x0).toUInt32 >>> (((8 : Int32)).toUInt32 &&& Int32.toUInt32 31)).toInt32) (x1 + (8 : Int32)) V)
set_option maxRecDepth 20000 in
theorem t_Int_numberOfTrailingZeros_34 {X : ai_S} {e : Nat} (hd : 0 ≤ e)  (x0 : Int32) (x1 : Int32) (V : ai_V) (r : Int32) (h : d_Int_numberOfTrailingZeros_34  x0 x1 V = some r) : Rn e 10 34 [(0, .int x0), (1, .int x1)] [] (SH ++ X) V (some (.int r)) (SH ++ X) V := by
  rw [d_Int_numberOfTrailingZeros_34] at h
  refine rn_go 2 (pc' := 38) (l' := [(0, .int x0), (1, .int x1)]) (st' := [.int (256 : Int32), .int x0]) (S1 := (SH ++ X)) (V1 := V) rfl ?_
  rcases ai_if h with ⟨hc, h⟩ | ⟨hc, h⟩
  · refine rn_brT rfl rfl rfl rfl hc ?_
    exact rn_sub [0, 1] rfl rfl (t_Int_numberOfTrailingZeros_49 (X := X) hd x0 x1 V _ h)
  · refine rn_brF rfl rfl rfl rfl hc ?_
    refine rn_go 5 (pc' := 49) (l' := [(0, .int ((x0).toUInt32 >>> (((8 : Int32)).toUInt32 &&& Int32.toUInt32 31)).toInt32), (1, .int (x1 + (8 : Int32)))]) (st' := []) (S1 := (SH ++ X)) (V1 := V) rfl ?_
    exact rn_sub [0, 1] rfl rfl (t_Int_numberOfTrailingZeros_49 (X := X) hd (((x0).toUInt32 >>> (((8 : Int32)).toUInt32 &&& Int32.toUInt32 31)).toInt32) (x1 + (8 : Int32)) V _ h)
def d_Int_numberOfTrailingZeros (x0 : Int32) (V : ai_V) : Option Int32 :=
  if 0 < ((x0 ^^^ (-1 : Int32)) &&& (x0 - (1 : Int32))) then (if ((x0 ^^^ (-1 : Int32)) &&& (x0 - (1 : Int32))) ≤ (65536 : Int32) then (d_Int_numberOfTrailingZeros_34 ((x0 ^^^ (-1 : Int32)) &&& (x0 - (1 : Int32))) (1 : Int32) V) else (d_Int_numberOfTrailingZeros_34 (((((x0 ^^^ (-1 : Int32)) &&& (x0 - (1 : Int32)))).toUInt32 >>> (((16 : Int32)).toUInt32 &&& Int32.toUInt32 31)).toInt32) ((1 : Int32) + (16 : Int32)) V)) else (some (((x0 ^^^ (-1 : Int32)) &&& (x0 - (1 : Int32))) &&& (32 : Int32)))
set_option maxRecDepth 20000 in
theorem t_Int_numberOfTrailingZeros {X : ai_S} {e : Nat} (hd : 0 ≤ e) {x0 : Int32} {V : ai_V} {r : Int32} (h : d_Int_numberOfTrailingZeros x0 V = some r) : Rn e 10 0 (lv_args 0 [.int x0]) [] (SH ++ X) V (some (.int r)) (SH ++ X) V := by
  rw [d_Int_numberOfTrailingZeros] at h
  refine rn_go 9 (pc' := 9) (l' := [(0, .int ((x0 ^^^ (-1 : Int32)) &&& (x0 - (1 : Int32))))]) (st' := [.int ((x0 ^^^ (-1 : Int32)) &&& (x0 - (1 : Int32)))]) (S1 := (SH ++ X)) (V1 := V) rfl ?_
  rcases ai_if h with ⟨hc, h⟩ | ⟨hc, h⟩
  · refine rn_brT rfl rfl rfl rfl hc ?_
    refine rn_go 4 (pc' := 23) (l' := [(1, .int (1 : Int32)), (0, .int ((x0 ^^^ (-1 : Int32)) &&& (x0 - (1 : Int32))))]) (st' := [.int (65536 : Int32), .int ((x0 ^^^ (-1 : Int32)) &&& (x0 - (1 : Int32)))]) (S1 := (SH ++ X)) (V1 := V) rfl ?_
    rcases ai_if h with ⟨hc, h⟩ | ⟨hc, h⟩
    · refine rn_brT rfl rfl rfl rfl hc ?_
      exact rn_sub [1, 0] rfl rfl (t_Int_numberOfTrailingZeros_34 (X := X) hd ((x0 ^^^ (-1 : Int32)) &&& (x0 - (1 : Int32))) (1 : Int32) V _ h)
    · refine rn_brF rfl rfl rfl rfl hc ?_
      refine rn_go 5 (pc' := 34) (l' := [(0, .int ((((x0 ^^^ (-1 : Int32)) &&& (x0 - (1 : Int32)))).toUInt32 >>> (((16 : Int32)).toUInt32 &&& Int32.toUInt32 31)).toInt32), (1, .int ((1 : Int32) + (16 : Int32)))]) (st' := []) (S1 := (SH ++ X)) (V1 := V) rfl ?_
      exact rn_sub [0, 1] rfl rfl (t_Int_numberOfTrailingZeros_34 (X := X) hd (((((x0 ^^^ (-1 : Int32)) &&& (x0 - (1 : Int32)))).toUInt32 >>> (((16 : Int32)).toUInt32 &&& Int32.toUInt32 31)).toInt32) ((1 : Int32) + (16 : Int32)) V _ h)
  · refine rn_brF rfl rfl rfl rfl hc ?_
    refine rn_go 3 (pc' := 16) (l' := [(0, .int ((x0 ^^^ (-1 : Int32)) &&& (x0 - (1 : Int32))))]) (st' := [.int (((x0 ^^^ (-1 : Int32)) &&& (x0 - (1 : Int32))) &&& (32 : Int32))]) (S1 := (SH ++ X)) (V1 := V) rfl ?_
    obtain rfl := Option.some.inj h
    exact rn_ret rfl rfl rfl
-- RentByTheWheelModel.rests(III)I (89, None, None, None)
def d_M_rests_223 (F158 : Int32 → Int32 → ai_V → Option (Int32 × ai_V)) (x4 : Int32) (x5 : Int32) (V : ai_V) : Option (Int32 × ai_V) :=
  F158 x4 (x5 + (1 : Int32)) V
set_option maxRecDepth 20000 in
theorem t_M_rests_223 {X : ai_S} {e : Nat} (hd : 331 ≤ e) (F158 : Int32 → Int32 → ai_V → Option (Int32 × ai_V)) (hF158 : ∀ (x4 : Int32) (x5 : Int32) (V : ai_V) (r : (Int32 × ai_V)), F158 x4 x5 V = some r → Rn e 239 158 [(0, .ref 89), (4, .int x4), (5, .int x5)] [] (SH ++ X) V (some (.int r.1)) (SH ++ X) r.2) (x4 : Int32) (x5 : Int32) (V : ai_V) (r : (Int32 × ai_V)) (h : d_M_rests_223 F158 x4 x5 V = some r) : Rn e 239 223 [(0, .ref 89), (4, .int x4), (5, .int x5)] [] (SH ++ X) V (some (.int r.1)) (SH ++ X) r.2 := by
  rw [d_M_rests_223] at h
  refine rn_go 2 (pc' := 158) (l' := [(5, .int (x5 + (1 : Int32))), (0, .ref 89), (4, .int x4)]) (st' := []) (S1 := (SH ++ X)) (V1 := V) rfl ?_
  exact rn_sub [1, 2, 0] rfl rfl (hF158 x4 (x5 + (1 : Int32)) V _ h)
def d_M_rests_158  : Nat → Int32 → Int32 → ai_V → Option (Int32 × ai_V)
  | 0, _, _, _ => none
  | n + 1, x4, x5, V => if (4 : Int32) ≤ x5 then (if x4 = 0 then (some (x4, (si V 89 13 (0 : Int32)))) else ((d_Int_numberOfTrailingZeros x4 (si V 89 13 (0 : Int32))).bind fun q1 => (if ai_in ((2 : Int32) * q1) 8 then ((d_M_tell (((ga (si V 89 13 (0 : Int32)) 113 (((2 : Int32) * q1)).toNatClampNeg)).toInt64) (si V 89 13 (0 : Int32))).bind fun q2 => (if ai_in (((2 : Int32) * q1) + (1 : Int32)) 8 then ((d_M_tell (((ga q2 113 ((((2 : Int32) * q1) + (1 : Int32))).toNatClampNeg)).toInt64) q2).bind fun q3 => (some (x4, q3))) else none)) else none))) else (if ai_in ((2 : Int32) * (x5 ^^^ (1 : Int32))) 8 then (if ai_in ((2 : Int32) * x5) 8 then (if (ga V 113 (((2 : Int32) * x5)).toNatClampNeg) < (ga V 113 (((2 : Int32) * (x5 ^^^ (1 : Int32)))).toNatClampNeg) then (d_M_rests_223 (d_M_rests_158 n) x4 x5 V) else (if ai_in (((2 : Int32) * (x5 ^^^ (2 : Int32))) + (1 : Int32)) 8 then (if ai_in (((2 : Int32) * x5) + (1 : Int32)) 8 then (if (ga V 113 ((((2 : Int32) * x5) + (1 : Int32))).toNatClampNeg) < (ga V 113 ((((2 : Int32) * (x5 ^^^ (2 : Int32))) + (1 : Int32))).toNatClampNeg) then (d_M_rests_223 (d_M_rests_158 n) x4 x5 V) else (d_M_rests_223 (d_M_rests_158 n) (x4 ||| ((1 : Int32) <<< (x5 &&& 31))) x5 V)) else none) else none)) else none) else none)
set_option maxRecDepth 20000 in
theorem t_M_rests_158 {X : ai_S} {e : Nat} (hd : 331 ≤ e)  : ∀ (n : Nat) (x4 : Int32) (x5 : Int32) (V : ai_V) (r : (Int32 × ai_V)), d_M_rests_158  n x4 x5 V = some r → Rn e 239 158 [(0, .ref 89), (4, .int x4), (5, .int x5)] [] (SH ++ X) V (some (.int r.1)) (SH ++ X) r.2 := by
  intro n
  induction n with
  | zero =>
    intro x4 x5 V r h
    cases h
  | succ n ih =>
    intro x4 x5 V r h
    rw [d_M_rests_158] at h
    refine rn_go 2 (pc' := 161) (l' := [(0, .ref 89), (4, .int x4), (5, .int x5)]) (st' := [.int (4 : Int32), .int x5]) (S1 := (SH ++ X)) (V1 := V) rfl ?_
    rcases ai_if h with ⟨hc, h⟩ | ⟨hc, h⟩
    · refine rn_brT rfl rfl rfl rfl hc ?_
      refine rn_go 4 (pc' := 236) (l' := [(0, .ref 89), (4, .int x4), (5, .int x5)]) (st' := [.int x4]) (S1 := (SH ++ X)) (V1 := (si V 89 13 (0 : Int32))) rfl ?_
      rcases ai_if h with ⟨hc, h⟩ | ⟨hc, h⟩
      · refine rn_brT rfl rfl rfl rfl hc ?_
        refine rn_go 1 (pc' := 278) (l' := [(0, .ref 89), (4, .int x4), (5, .int x5)]) (st' := [.int x4]) (S1 := (SH ++ X)) (V1 := (si V 89 13 (0 : Int32))) rfl ?_
        obtain rfl := Option.some.inj h
        exact rn_ret rfl rfl rfl
      · refine rn_brF rfl rfl rfl rfl hc ?_
        refine rn_go 1 (pc' := 241) (l' := [(0, .ref 89), (4, .int x4), (5, .int x5)]) (st' := [.int x4]) (S1 := (SH ++ X)) (V1 := (si V 89 13 (0 : Int32))) rfl ?_
        obtain ⟨q1, hq1, h⟩ := ai_bd h
        refine rn_call rfl rfl rfl rfl rfl rfl (by omega) (t_Int_numberOfTrailingZeros (by omega) hq1) ?_
        refine rn_go 7 (pc' := 255) (l' := [(5, .int q1), (0, .ref 89), (4, .int x4)]) (st' := [.int ((2 : Int32) * q1), .ref 113, .ref 89]) (S1 := (SH ++ X)) (V1 := (si V 89 13 (0 : Int32))) rfl ?_
        obtain ⟨hg, h⟩ := ai_gd h
        refine rg_iald (n := 8) rfl rfl hg ?_
        refine rn_go 1 (pc' := 257) (l' := [(5, .int q1), (0, .ref 89), (4, .int x4)]) (st' := [.long ((ga (si V 89 13 (0 : Int32)) 113 (((2 : Int32) * q1)).toNatClampNeg)).toInt64, .ref 89]) (S1 := (SH ++ X)) (V1 := (si V 89 13 (0 : Int32))) rfl ?_
        obtain ⟨q2, hq2, h⟩ := ai_bd h
        refine rn_call rfl rfl rfl rfl rfl rfl (by omega) (t_M_tell (by omega) hq2) ?_
        refine rn_go 8 (pc' := 271) (l' := [(5, .int q1), (0, .ref 89), (4, .int x4)]) (st' := [.int (((2 : Int32) * q1) + (1 : Int32)), .ref 113, .ref 89]) (S1 := (SH ++ X)) (V1 := q2) rfl ?_
        obtain ⟨hg, h⟩ := ai_gd h
        refine rg_iald (n := 8) rfl rfl hg ?_
        refine rn_go 1 (pc' := 273) (l' := [(5, .int q1), (0, .ref 89), (4, .int x4)]) (st' := [.long ((ga q2 113 ((((2 : Int32) * q1) + (1 : Int32))).toNatClampNeg)).toInt64, .ref 89]) (S1 := (SH ++ X)) (V1 := q2) rfl ?_
        obtain ⟨q3, hq3, h⟩ := ai_bd h
        refine rn_call rfl rfl rfl rfl rfl rfl (by omega) (t_M_tell (by omega) hq3) ?_
        refine rn_go 1 (pc' := 278) (l' := [(5, .int q1), (0, .ref 89), (4, .int x4)]) (st' := [.int x4]) (S1 := (SH ++ X)) (V1 := q3) rfl ?_
        obtain rfl := Option.some.inj h
        exact rn_ret rfl rfl rfl
    · refine rn_brF rfl rfl rfl rfl hc ?_
      refine rn_go 7 (pc' := 174) (l' := [(0, .ref 89), (4, .int x4), (5, .int x5)]) (st' := [.int ((2 : Int32) * (x5 ^^^ (1 : Int32))), .ref 113]) (S1 := (SH ++ X)) (V1 := V) rfl ?_
      obtain ⟨hg, h⟩ := ai_gd h
      refine rg_iald (n := 8) rfl rfl hg ?_
      refine rn_go 5 (pc' := 183) (l' := [(0, .ref 89), (4, .int x4), (5, .int x5)]) (st' := [.int ((2 : Int32) * x5), .ref 113, .int (ga V 113 (((2 : Int32) * (x5 ^^^ (1 : Int32)))).toNatClampNeg)]) (S1 := (SH ++ X)) (V1 := V) rfl ?_
      obtain ⟨hg, h⟩ := ai_gd h
      refine rg_iald (n := 8) rfl rfl hg ?_
      rcases ai_if h with ⟨hc, h⟩ | ⟨hc, h⟩
      · refine rn_brT rfl rfl rfl rfl hc ?_
        exact rn_sub [0, 1, 2] rfl rfl (t_M_rests_223 (X := X) hd (d_M_rests_158 n) (ih) x4 x5 V _ h)
      · refine rn_brF rfl rfl rfl rfl hc ?_
        refine rn_go 9 (pc' := 199) (l' := [(0, .ref 89), (4, .int x4), (5, .int x5)]) (st' := [.int (((2 : Int32) * (x5 ^^^ (2 : Int32))) + (1 : Int32)), .ref 113]) (S1 := (SH ++ X)) (V1 := V) rfl ?_
        obtain ⟨hg, h⟩ := ai_gd h
        refine rg_iald (n := 8) rfl rfl hg ?_
        refine rn_go 7 (pc' := 210) (l' := [(0, .ref 89), (4, .int x4), (5, .int x5)]) (st' := [.int (((2 : Int32) * x5) + (1 : Int32)), .ref 113, .int (ga V 113 ((((2 : Int32) * (x5 ^^^ (2 : Int32))) + (1 : Int32))).toNatClampNeg)]) (S1 := (SH ++ X)) (V1 := V) rfl ?_
        obtain ⟨hg, h⟩ := ai_gd h
        refine rg_iald (n := 8) rfl rfl hg ?_
        rcases ai_if h with ⟨hc, h⟩ | ⟨hc, h⟩
        · refine rn_brT rfl rfl rfl rfl hc ?_
          exact rn_sub [0, 1, 2] rfl rfl (t_M_rests_223 (X := X) hd (d_M_rests_158 n) (ih) x4 x5 V _ h)
        · refine rn_brF rfl rfl rfl rfl hc ?_
          refine rn_go 6 (pc' := 223) (l' := [(4, .int (x4 ||| ((1 : Int32) <<< (x5 &&& 31)))), (0, .ref 89), (5, .int x5)]) (st' := []) (S1 := (SH ++ X)) (V1 := V) rfl ?_
          exact rn_sub [1, 0, 2] rfl rfl (t_M_rests_223 (X := X) hd (d_M_rests_158 n) (ih) (x4 ||| ((1 : Int32) <<< (x5 &&& 31))) x5 V _ h)
def d_M_rests_144 (F29 : Int32 → Int32 → Int32 → Int32 → ai_V → Option (Int32 × ai_V)) (x1 : Int32) (x2 : Int32) (x3 : Int32) (x4 : Int32) (s0 : Int32) (s1 : Int32) (s2 : Int32) (V : ai_V) : Option (Int32 × ai_V) :=
  if ai_in s2 8 then (F29 x1 x2 x3 (x4 + (1 : Int32)) (sa V 113 (s2).toNatClampNeg (s1 - s0))) else none
set_option maxRecDepth 20000 in
theorem t_M_rests_144 {X : ai_S} {e : Nat} (hd : 331 ≤ e) (F29 : Int32 → Int32 → Int32 → Int32 → ai_V → Option (Int32 × ai_V)) (hF29 : ∀ (x1 : Int32) (x2 : Int32) (x3 : Int32) (x4 : Int32) (V : ai_V) (r : (Int32 × ai_V)), F29 x1 x2 x3 x4 V = some r → Rn e 239 29 [(0, .ref 89), (1, .int x1), (2, .int x2), (3, .int x3), (4, .int x4)] [] (SH ++ X) V (some (.int r.1)) (SH ++ X) r.2) (x1 : Int32) (x2 : Int32) (x3 : Int32) (x4 : Int32) (s0 : Int32) (s1 : Int32) (s2 : Int32) (V : ai_V) (r : (Int32 × ai_V)) (h : d_M_rests_144 F29 x1 x2 x3 x4 s0 s1 s2 V = some r) : Rn e 239 144 [(0, .ref 89), (1, .int x1), (2, .int x2), (3, .int x3), (4, .int x4)] [.int s0, .int s1, .int s2, .ref 113] (SH ++ X) V (some (.int r.1)) (SH ++ X) r.2 := by
  rw [d_M_rests_144] at h
  refine rn_go 1 (pc' := 145) (l' := [(0, .ref 89), (1, .int x1), (2, .int x2), (3, .int x3), (4, .int x4)]) (st' := [.int (s1 - s0), .int s2, .ref 113]) (S1 := (SH ++ X)) (V1 := V) rfl ?_
  obtain ⟨hg, h⟩ := ai_gd h
  refine rg_iast (n := 8) rfl rfl hg ?_
  refine rn_go 2 (pc' := 29) (l' := [(4, .int (x4 + (1 : Int32))), (0, .ref 89), (1, .int x1), (2, .int x2), (3, .int x3)]) (st' := []) (S1 := (SH ++ X)) (V1 := (sa V 113 (s2).toNatClampNeg (s1 - s0))) rfl ?_
  exact rn_sub [1, 2, 3, 4, 0] rfl rfl (hF29 x1 x2 x3 (x4 + (1 : Int32)) (sa V 113 (s2).toNatClampNeg (s1 - s0)) _ h)
def d_M_rests_111 (F29 : Int32 → Int32 → Int32 → Int32 → ai_V → Option (Int32 × ai_V)) (x1 : Int32) (x2 : Int32) (x3 : Int32) (x4 : Int32) (x5 : Int32) (x6 : Int32) (s0 : Int32) (s1 : Int32) (s2 : Int32) (V : ai_V) : Option (Int32 × ai_V) :=
  if ai_in s2 8 then ((d_M_has x4 (1 : Int32) (sa V 113 (s2).toNatClampNeg (s1 - s0))).bind fun q4 => (if q4 = 0 then (d_M_rests_144 F29 x1 x2 x3 x4 (0 : Int32) x6 (((2 : Int32) * x4) + (1 : Int32)) (sa V 113 (s2).toNatClampNeg (s1 - s0))) else ((d_M_turnsOf x5 (sa V 113 (s2).toNatClampNeg (s1 - s0))).bind fun q5 => (d_M_rests_144 F29 x1 x2 x3 x4 q5 x6 (((2 : Int32) * x4) + (1 : Int32)) (sa V 113 (s2).toNatClampNeg (s1 - s0)))))) else none
set_option maxRecDepth 20000 in
theorem t_M_rests_111 {X : ai_S} {e : Nat} (hd : 331 ≤ e) (F29 : Int32 → Int32 → Int32 → Int32 → ai_V → Option (Int32 × ai_V)) (hF29 : ∀ (x1 : Int32) (x2 : Int32) (x3 : Int32) (x4 : Int32) (V : ai_V) (r : (Int32 × ai_V)), F29 x1 x2 x3 x4 V = some r → Rn e 239 29 [(0, .ref 89), (1, .int x1), (2, .int x2), (3, .int x3), (4, .int x4)] [] (SH ++ X) V (some (.int r.1)) (SH ++ X) r.2) (x1 : Int32) (x2 : Int32) (x3 : Int32) (x4 : Int32) (x5 : Int32) (x6 : Int32) (s0 : Int32) (s1 : Int32) (s2 : Int32) (V : ai_V) (r : (Int32 × ai_V)) (h : d_M_rests_111 F29 x1 x2 x3 x4 x5 x6 s0 s1 s2 V = some r) : Rn e 239 111 [(0, .ref 89), (1, .int x1), (2, .int x2), (3, .int x3), (4, .int x4), (5, .int x5), (6, .int x6)] [.int s0, .int s1, .int s2, .ref 113] (SH ++ X) V (some (.int r.1)) (SH ++ X) r.2 := by
  rw [d_M_rests_111] at h
  refine rn_go 1 (pc' := 112) (l' := [(0, .ref 89), (1, .int x1), (2, .int x2), (3, .int x3), (4, .int x4), (5, .int x5), (6, .int x6)]) (st' := [.int (s1 - s0), .int s2, .ref 113]) (S1 := (SH ++ X)) (V1 := V) rfl ?_
  obtain ⟨hg, h⟩ := ai_gd h
  refine rg_iast (n := 8) rfl rfl hg ?_
  refine rn_go 10 (pc' := 128) (l' := [(0, .ref 89), (1, .int x1), (2, .int x2), (3, .int x3), (4, .int x4), (5, .int x5), (6, .int x6)]) (st' := [.int (1 : Int32), .int x4, .int x6, .int (((2 : Int32) * x4) + (1 : Int32)), .ref 113]) (S1 := (SH ++ X)) (V1 := (sa V 113 (s2).toNatClampNeg (s1 - s0))) rfl ?_
  obtain ⟨q4, hq4, h⟩ := ai_bd h
  refine rn_call rfl rfl rfl rfl rfl rfl (by omega) (t_M_has (by omega) hq4) ?_
  rcases ai_if h with ⟨hc, h⟩ | ⟨hc, h⟩
  · refine rn_brT rfl rfl rfl rfl hc ?_
    refine rn_go 1 (pc' := 144) (l' := [(0, .ref 89), (1, .int x1), (2, .int x2), (3, .int x3), (4, .int x4), (5, .int x5), (6, .int x6)]) (st' := [.int (0 : Int32), .int x6, .int (((2 : Int32) * x4) + (1 : Int32)), .ref 113]) (S1 := (SH ++ X)) (V1 := (sa V 113 (s2).toNatClampNeg (s1 - s0))) rfl ?_
    exact rn_sub [0, 1, 2, 3, 4] rfl rfl (t_M_rests_144 (X := X) hd F29 hF29 x1 x2 x3 x4 (0 : Int32) x6 (((2 : Int32) * x4) + (1 : Int32)) (sa V 113 (s2).toNatClampNeg (s1 - s0)) _ h)
  · refine rn_brF rfl rfl rfl rfl hc ?_
    refine rn_go 2 (pc' := 137) (l' := [(0, .ref 89), (1, .int x1), (2, .int x2), (3, .int x3), (4, .int x4), (5, .int x5), (6, .int x6)]) (st' := [.int x5, .ref 89, .int x6, .int (((2 : Int32) * x4) + (1 : Int32)), .ref 113]) (S1 := (SH ++ X)) (V1 := (sa V 113 (s2).toNatClampNeg (s1 - s0))) rfl ?_
    obtain ⟨q5, hq5, h⟩ := ai_bd h
    refine rn_call rfl rfl rfl rfl rfl rfl (by omega) (t_M_turnsOf (by omega) hq5) ?_
    refine rn_go 1 (pc' := 144) (l' := [(0, .ref 89), (1, .int x1), (2, .int x2), (3, .int x3), (4, .int x4), (5, .int x5), (6, .int x6)]) (st' := [.int q5, .int x6, .int (((2 : Int32) * x4) + (1 : Int32)), .ref 113]) (S1 := (SH ++ X)) (V1 := (sa V 113 (s2).toNatClampNeg (s1 - s0))) rfl ?_
    exact rn_sub [0, 1, 2, 3, 4] rfl rfl (t_M_rests_144 (X := X) hd F29 hF29 x1 x2 x3 x4 q5 x6 (((2 : Int32) * x4) + (1 : Int32)) (sa V 113 (s2).toNatClampNeg (s1 - s0)) _ h)
def d_M_rests_67 (F29 : Int32 → Int32 → Int32 → Int32 → ai_V → Option (Int32 × ai_V)) (x1 : Int32) (x2 : Int32) (x3 : Int32) (x4 : Int32) (s0 : Int32) (s1 : Int32) (V : ai_V) : Option (Int32 × ai_V) :=
  (d_M_liftNow (s1 ||| s0) V).bind fun q6 => ((d_M_has x4 (0 : Int32) q6.2).bind fun q7 => (if q7 = 0 then (d_M_rests_111 F29 x1 x2 x3 x4 (s1 ||| s0) ((q6.1 / (2 : Int32)) * x3) (0 : Int32) ((q6.1 / (2 : Int32)) * x3) ((2 : Int32) * x4) q6.2) else ((d_M_turnsOf (s1 ||| s0) q6.2).bind fun q8 => (d_M_rests_111 F29 x1 x2 x3 x4 (s1 ||| s0) ((q6.1 / (2 : Int32)) * x3) q8 ((q6.1 / (2 : Int32)) * x3) ((2 : Int32) * x4) q6.2))))
set_option maxRecDepth 20000 in
theorem t_M_rests_67 {X : ai_S} {e : Nat} (hd : 331 ≤ e) (F29 : Int32 → Int32 → Int32 → Int32 → ai_V → Option (Int32 × ai_V)) (hF29 : ∀ (x1 : Int32) (x2 : Int32) (x3 : Int32) (x4 : Int32) (V : ai_V) (r : (Int32 × ai_V)), F29 x1 x2 x3 x4 V = some r → Rn e 239 29 [(0, .ref 89), (1, .int x1), (2, .int x2), (3, .int x3), (4, .int x4)] [] (SH ++ X) V (some (.int r.1)) (SH ++ X) r.2) (x1 : Int32) (x2 : Int32) (x3 : Int32) (x4 : Int32) (s0 : Int32) (s1 : Int32) (V : ai_V) (r : (Int32 × ai_V)) (h : d_M_rests_67 F29 x1 x2 x3 x4 s0 s1 V = some r) : Rn e 239 67 [(0, .ref 89), (1, .int x1), (2, .int x2), (3, .int x3), (4, .int x4)] [.int s0, .int s1] (SH ++ X) V (some (.int r.1)) (SH ++ X) r.2 := by
  rw [d_M_rests_67] at h
  refine rn_go 4 (pc' := 73) (l' := [(5, .int (s1 ||| s0)), (0, .ref 89), (1, .int x1), (2, .int x2), (3, .int x3), (4, .int x4)]) (st' := [.int (s1 ||| s0), .ref 89]) (S1 := (SH ++ X)) (V1 := V) rfl ?_
  obtain ⟨q6, hq6, h⟩ := ai_bd h
  refine rn_call rfl rfl rfl rfl rfl rfl (by omega) (t_M_liftNow (by omega) hq6) ?_
  refine rn_go 1 (pc' := 77) (l' := [(5, .int (s1 ||| s0)), (0, .ref 89), (1, .int x1), (2, .int x2), (3, .int x3), (4, .int x4)]) (st' := [.int (2 : Int32), .int q6.1]) (S1 := (SH ++ X)) (V1 := q6.2) rfl ?_
  refine rg_idiv rfl (by decide) ?_
  refine rn_go 11 (pc' := 95) (l' := [(6, .int ((q6.1 / (2 : Int32)) * x3)), (5, .int (s1 ||| s0)), (0, .ref 89), (1, .int x1), (2, .int x2), (3, .int x3), (4, .int x4)]) (st' := [.int (0 : Int32), .int x4, .int ((q6.1 / (2 : Int32)) * x3), .int ((2 : Int32) * x4), .ref 113]) (S1 := (SH ++ X)) (V1 := q6.2) rfl ?_
  obtain ⟨q7, hq7, h⟩ := ai_bd h
  refine rn_call rfl rfl rfl rfl rfl rfl (by omega) (t_M_has (by omega) hq7) ?_
  rcases ai_if h with ⟨hc, h⟩ | ⟨hc, h⟩
  · refine rn_brT rfl rfl rfl rfl hc ?_
    refine rn_go 1 (pc' := 111) (l' := [(6, .int ((q6.1 / (2 : Int32)) * x3)), (5, .int (s1 ||| s0)), (0, .ref 89), (1, .int x1), (2, .int x2), (3, .int x3), (4, .int x4)]) (st' := [.int (0 : Int32), .int ((q6.1 / (2 : Int32)) * x3), .int ((2 : Int32) * x4), .ref 113]) (S1 := (SH ++ X)) (V1 := q6.2) rfl ?_
    exact rn_sub [2, 3, 4, 5, 6, 1, 0] rfl rfl (t_M_rests_111 (X := X) hd F29 hF29 x1 x2 x3 x4 (s1 ||| s0) ((q6.1 / (2 : Int32)) * x3) (0 : Int32) ((q6.1 / (2 : Int32)) * x3) ((2 : Int32) * x4) q6.2 _ h)
  · refine rn_brF rfl rfl rfl rfl hc ?_
    refine rn_go 2 (pc' := 104) (l' := [(6, .int ((q6.1 / (2 : Int32)) * x3)), (5, .int (s1 ||| s0)), (0, .ref 89), (1, .int x1), (2, .int x2), (3, .int x3), (4, .int x4)]) (st' := [.int (s1 ||| s0), .ref 89, .int ((q6.1 / (2 : Int32)) * x3), .int ((2 : Int32) * x4), .ref 113]) (S1 := (SH ++ X)) (V1 := q6.2) rfl ?_
    obtain ⟨q8, hq8, h⟩ := ai_bd h
    refine rn_call rfl rfl rfl rfl rfl rfl (by omega) (t_M_turnsOf (by omega) hq8) ?_
    refine rn_go 1 (pc' := 111) (l' := [(6, .int ((q6.1 / (2 : Int32)) * x3)), (5, .int (s1 ||| s0)), (0, .ref 89), (1, .int x1), (2, .int x2), (3, .int x3), (4, .int x4)]) (st' := [.int q8, .int ((q6.1 / (2 : Int32)) * x3), .int ((2 : Int32) * x4), .ref 113]) (S1 := (SH ++ X)) (V1 := q6.2) rfl ?_
    exact rn_sub [2, 3, 4, 5, 6, 1, 0] rfl rfl (t_M_rests_111 (X := X) hd F29 hF29 x1 x2 x3 x4 (s1 ||| s0) ((q6.1 / (2 : Int32)) * x3) q8 ((q6.1 / (2 : Int32)) * x3) ((2 : Int32) * x4) q6.2 _ h)
def d_M_rests_51 (F29 : Int32 → Int32 → Int32 → Int32 → ai_V → Option (Int32 × ai_V)) (x1 : Int32) (x2 : Int32) (x3 : Int32) (x4 : Int32) (s0 : Int32) (V : ai_V) : Option (Int32 × ai_V) :=
  (d_M_has x4 (1 : Int32) V).bind fun q9 => (if q9 = 0 then (d_M_rests_67 F29 x1 x2 x3 x4 (0 : Int32) s0 V) else (d_M_rests_67 F29 x1 x2 x3 x4 ((1 : Int32) <<< (x2 &&& 31)) s0 V))
set_option maxRecDepth 20000 in
theorem t_M_rests_51 {X : ai_S} {e : Nat} (hd : 331 ≤ e) (F29 : Int32 → Int32 → Int32 → Int32 → ai_V → Option (Int32 × ai_V)) (hF29 : ∀ (x1 : Int32) (x2 : Int32) (x3 : Int32) (x4 : Int32) (V : ai_V) (r : (Int32 × ai_V)), F29 x1 x2 x3 x4 V = some r → Rn e 239 29 [(0, .ref 89), (1, .int x1), (2, .int x2), (3, .int x3), (4, .int x4)] [] (SH ++ X) V (some (.int r.1)) (SH ++ X) r.2) (x1 : Int32) (x2 : Int32) (x3 : Int32) (x4 : Int32) (s0 : Int32) (V : ai_V) (r : (Int32 × ai_V)) (h : d_M_rests_51 F29 x1 x2 x3 x4 s0 V = some r) : Rn e 239 51 [(0, .ref 89), (1, .int x1), (2, .int x2), (3, .int x3), (4, .int x4)] [.int s0] (SH ++ X) V (some (.int r.1)) (SH ++ X) r.2 := by
  rw [d_M_rests_51] at h
  refine rn_go 2 (pc' := 54) (l' := [(0, .ref 89), (1, .int x1), (2, .int x2), (3, .int x3), (4, .int x4)]) (st' := [.int (1 : Int32), .int x4, .int s0]) (S1 := (SH ++ X)) (V1 := V) rfl ?_
  obtain ⟨q9, hq9, h⟩ := ai_bd h
  refine rn_call rfl rfl rfl rfl rfl rfl (by omega) (t_M_has (by omega) hq9) ?_
  rcases ai_if h with ⟨hc, h⟩ | ⟨hc, h⟩
  · refine rn_brT rfl rfl rfl rfl hc ?_
    refine rn_go 1 (pc' := 67) (l' := [(0, .ref 89), (1, .int x1), (2, .int x2), (3, .int x3), (4, .int x4)]) (st' := [.int (0 : Int32), .int s0]) (S1 := (SH ++ X)) (V1 := V) rfl ?_
    exact rn_sub [0, 1, 2, 3, 4] rfl rfl (t_M_rests_67 (X := X) hd F29 hF29 x1 x2 x3 x4 (0 : Int32) s0 V _ h)
  · refine rn_brF rfl rfl rfl rfl hc ?_
    refine rn_go 4 (pc' := 67) (l' := [(0, .ref 89), (1, .int x1), (2, .int x2), (3, .int x3), (4, .int x4)]) (st' := [.int ((1 : Int32) <<< (x2 &&& 31)), .int s0]) (S1 := (SH ++ X)) (V1 := V) rfl ?_
    exact rn_sub [0, 1, 2, 3, 4] rfl rfl (t_M_rests_67 (X := X) hd F29 hF29 x1 x2 x3 x4 ((1 : Int32) <<< (x2 &&& 31)) s0 V _ h)
def d_M_rests_29  : Nat → Int32 → Int32 → Int32 → Int32 → ai_V → Option (Int32 × ai_V)
  | 0, _, _, _, _, _ => none
  | n + 1, x1, x2, x3, x4, V => if (4 : Int32) ≤ x4 then (d_M_rests_158 ai_N (0 : Int32) (0 : Int32) V) else ((d_M_has x4 (0 : Int32) V).bind fun q10 => (if q10 = 0 then (d_M_rests_51 (d_M_rests_29 n) x1 x2 x3 x4 (0 : Int32) V) else (d_M_rests_51 (d_M_rests_29 n) x1 x2 x3 x4 ((1 : Int32) <<< (x1 &&& 31)) V)))
set_option maxRecDepth 20000 in
theorem t_M_rests_29 {X : ai_S} {e : Nat} (hd : 331 ≤ e)  : ∀ (n : Nat) (x1 : Int32) (x2 : Int32) (x3 : Int32) (x4 : Int32) (V : ai_V) (r : (Int32 × ai_V)), d_M_rests_29  n x1 x2 x3 x4 V = some r → Rn e 239 29 [(0, .ref 89), (1, .int x1), (2, .int x2), (3, .int x3), (4, .int x4)] [] (SH ++ X) V (some (.int r.1)) (SH ++ X) r.2 := by
  intro n
  induction n with
  | zero =>
    intro x1 x2 x3 x4 V r h
    cases h
  | succ n ih =>
    intro x1 x2 x3 x4 V r h
    rw [d_M_rests_29] at h
    refine rn_go 2 (pc' := 32) (l' := [(0, .ref 89), (1, .int x1), (2, .int x2), (3, .int x3), (4, .int x4)]) (st' := [.int (4 : Int32), .int x4]) (S1 := (SH ++ X)) (V1 := V) rfl ?_
    rcases ai_if h with ⟨hc, h⟩ | ⟨hc, h⟩
    · refine rn_brT rfl rfl rfl rfl hc ?_
      refine rn_go 4 (pc' := 158) (l' := [(5, .int (0 : Int32)), (4, .int (0 : Int32)), (0, .ref 89), (1, .int x1), (2, .int x2), (3, .int x3)]) (st' := []) (S1 := (SH ++ X)) (V1 := V) rfl ?_
      exact rn_sub [2, 1, 0] rfl rfl (t_M_rests_158 (X := X) hd ai_N (0 : Int32) (0 : Int32) V _ h)
    · refine rn_brF rfl rfl rfl rfl hc ?_
      refine rn_go 2 (pc' := 38) (l' := [(0, .ref 89), (1, .int x1), (2, .int x2), (3, .int x3), (4, .int x4)]) (st' := [.int (0 : Int32), .int x4]) (S1 := (SH ++ X)) (V1 := V) rfl ?_
      obtain ⟨q10, hq10, h⟩ := ai_bd h
      refine rn_call rfl rfl rfl rfl rfl rfl (by omega) (t_M_has (by omega) hq10) ?_
      rcases ai_if h with ⟨hc, h⟩ | ⟨hc, h⟩
      · refine rn_brT rfl rfl rfl rfl hc ?_
        refine rn_go 1 (pc' := 51) (l' := [(0, .ref 89), (1, .int x1), (2, .int x2), (3, .int x3), (4, .int x4)]) (st' := [.int (0 : Int32)]) (S1 := (SH ++ X)) (V1 := V) rfl ?_
        exact rn_sub [0, 1, 2, 3, 4] rfl rfl (t_M_rests_51 (X := X) hd (d_M_rests_29 n) (ih) x1 x2 x3 x4 (0 : Int32) V _ h)
      · refine rn_brF rfl rfl rfl rfl hc ?_
        refine rn_go 4 (pc' := 51) (l' := [(0, .ref 89), (1, .int x1), (2, .int x2), (3, .int x3), (4, .int x4)]) (st' := [.int ((1 : Int32) <<< (x1 &&& 31))]) (S1 := (SH ++ X)) (V1 := V) rfl ?_
        exact rn_sub [0, 1, 2, 3, 4] rfl rfl (t_M_rests_51 (X := X) hd (d_M_rests_29 n) (ih) x1 x2 x3 x4 ((1 : Int32) <<< (x1 &&& 31)) V _ h)
def d_M_rests (x1 : Int32) (x2 : Int32) (x3 : Int32) (V : ai_V) : Option (Int32 × ai_V) :=
  (d_M_areTwo x1 x2 (si V 89 14 (0 : Int32))).bind fun q11 => (if q11 = 0 then (some ((-1 : Int32), (si V 89 14 (0 : Int32)))) else ((d_M_in x3 (1 : Int32) (9 : Int32) (si V 89 14 (0 : Int32))).bind fun q12 => (if ¬ q12 = 0 then (d_M_rests_29 ai_N x1 x2 x3 (0 : Int32) (si V 89 14 (0 : Int32))) else (some ((-1 : Int32), (si V 89 14 (0 : Int32)))))))
set_option maxRecDepth 20000 in
theorem t_M_rests {X : ai_S} {e : Nat} (hd : 331 ≤ e) {x1 : Int32} {x2 : Int32} {x3 : Int32} {V : ai_V} {r : (Int32 × ai_V)} (h : d_M_rests x1 x2 x3 V = some r) : Rn e 239 0 (lv_args 0 [.ref 89, .int x1, .int x2, .int x3]) [] (SH ++ X) V (some (.int r.1)) (SH ++ X) r.2 := by
  rw [d_M_rests] at h
  refine rn_go 6 (pc' := 8) (l' := [(0, .ref 89), (1, .int x1), (2, .int x2), (3, .int x3)]) (st' := [.int x2, .int x1, .ref 89]) (S1 := (SH ++ X)) (V1 := (si V 89 14 (0 : Int32))) rfl ?_
  obtain ⟨q11, hq11, h⟩ := ai_bd h
  refine rn_call rfl rfl rfl rfl rfl rfl (by omega) (t_M_areTwo (by omega) hq11) ?_
  rcases ai_if h with ⟨hc, h⟩ | ⟨hc, h⟩
  · refine rn_brT rfl rfl rfl rfl hc ?_
    refine rn_go 1 (pc' := 25) (l' := [(0, .ref 89), (1, .int x1), (2, .int x2), (3, .int x3)]) (st' := [.int (-1 : Int32)]) (S1 := (SH ++ X)) (V1 := (si V 89 14 (0 : Int32))) rfl ?_
    obtain rfl := Option.some.inj h
    exact rn_ret rfl rfl rfl
  · refine rn_brF rfl rfl rfl rfl hc ?_
    refine rn_go 3 (pc' := 18) (l' := [(0, .ref 89), (1, .int x1), (2, .int x2), (3, .int x3)]) (st' := [.int (9 : Int32), .int (1 : Int32), .int x3]) (S1 := (SH ++ X)) (V1 := (si V 89 14 (0 : Int32))) rfl ?_
    obtain ⟨q12, hq12, h⟩ := ai_bd h
    refine rn_call rfl rfl rfl rfl rfl rfl (by omega) (t_M_in (by omega) hq12) ?_
    rcases ai_if h with ⟨hc, h⟩ | ⟨hc, h⟩
    · refine rn_brT rfl rfl rfl rfl hc ?_
      refine rn_go 2 (pc' := 29) (l' := [(4, .int (0 : Int32)), (0, .ref 89), (1, .int x1), (2, .int x2), (3, .int x3)]) (st' := []) (S1 := (SH ++ X)) (V1 := (si V 89 14 (0 : Int32))) rfl ?_
      exact rn_sub [1, 2, 3, 4, 0] rfl rfl (t_M_rests_29 (X := X) hd ai_N x1 x2 x3 (0 : Int32) (si V 89 14 (0 : Int32)) _ h)
    · refine rn_brF rfl rfl rfl rfl hc ?_
      refine rn_go 1 (pc' := 25) (l' := [(0, .ref 89), (1, .int x1), (2, .int x2), (3, .int x3)]) (st' := [.int (-1 : Int32)]) (S1 := (SH ++ X)) (V1 := (si V 89 14 (0 : Int32))) rfl ?_
      obtain rfl := Option.some.inj h
      exact rn_ret rfl rfl rfl
-- RentByTheWheelModel.peg(II)I (89, None, None)
def d_M_peg (x1 : Int32) (x2 : Int32) (V : ai_V) : Option (Int32 × ai_V) :=
  (d_M_in x1 (0 : Int32) (9 : Int32) (si V 89 14 (0 : Int32))).bind fun q1 => (if q1 = 0 then (some ((-1 : Int32), (si V 89 14 (0 : Int32)))) else ((d_M_in x2 (-1 : Int32) (18 : Int32) (si V 89 14 (0 : Int32))).bind fun q2 => (if ¬ q2 = 0 then (if ¬ (gi (si V 89 14 (0 : Int32)) 89 55) = (12 : Int32) then (if ai_in ((2 : Int32) * (gi (si V 89 14 (0 : Int32)) 89 55)) 24 then (if ai_in (((2 : Int32) * (gi (sa (si V 89 14 (0 : Int32)) 114 (((2 : Int32) * (gi (si V 89 14 (0 : Int32)) 89 55))).toNatClampNeg x1) 89 55)) + (1 : Int32)) 24 then (some ((gi (si (sa (sa (si V 89 14 (0 : Int32)) 114 (((2 : Int32) * (gi (si V 89 14 (0 : Int32)) 89 55))).toNatClampNeg x1) 114 ((((2 : Int32) * (gi (sa (si V 89 14 (0 : Int32)) 114 (((2 : Int32) * (gi (si V 89 14 (0 : Int32)) 89 55))).toNatClampNeg x1) 89 55)) + (1 : Int32))).toNatClampNeg x2) 89 55 ((gi (sa (sa (si V 89 14 (0 : Int32)) 114 (((2 : Int32) * (gi (si V 89 14 (0 : Int32)) 89 55))).toNatClampNeg x1) 114 ((((2 : Int32) * (gi (sa (si V 89 14 (0 : Int32)) 114 (((2 : Int32) * (gi (si V 89 14 (0 : Int32)) 89 55))).toNatClampNeg x1) 89 55)) + (1 : Int32))).toNatClampNeg x2) 89 55) + (1 : Int32))) 89 55), (si (sa (sa (si V 89 14 (0 : Int32)) 114 (((2 : Int32) * (gi (si V 89 14 (0 : Int32)) 89 55))).toNatClampNeg x1) 114 ((((2 : Int32) * (gi (sa (si V 89 14 (0 : Int32)) 114 (((2 : Int32) * (gi (si V 89 14 (0 : Int32)) 89 55))).toNatClampNeg x1) 89 55)) + (1 : Int32))).toNatClampNeg x2) 89 55 ((gi (sa (sa (si V 89 14 (0 : Int32)) 114 (((2 : Int32) * (gi (si V 89 14 (0 : Int32)) 89 55))).toNatClampNeg x1) 114 ((((2 : Int32) * (gi (sa (si V 89 14 (0 : Int32)) 114 (((2 : Int32) * (gi (si V 89 14 (0 : Int32)) 89 55))).toNatClampNeg x1) 89 55)) + (1 : Int32))).toNatClampNeg x2) 89 55) + (1 : Int32))))) else none) else none) else (some ((-2 : Int32), (si V 89 14 (0 : Int32))))) else (some ((-1 : Int32), (si V 89 14 (0 : Int32)))))))
set_option maxRecDepth 20000 in
theorem t_M_peg {X : ai_S} {e : Nat} (hd : 1 ≤ e) {x1 : Int32} {x2 : Int32} {V : ai_V} {r : (Int32 × ai_V)} (h : d_M_peg x1 x2 V = some r) : Rn e 240 0 (lv_args 0 [.ref 89, .int x1, .int x2]) [] (SH ++ X) V (some (.int r.1)) (SH ++ X) r.2 := by
  rw [d_M_peg] at h
  refine rn_go 6 (pc' := 9) (l' := [(0, .ref 89), (1, .int x1), (2, .int x2)]) (st' := [.int (9 : Int32), .int (0 : Int32), .int x1]) (S1 := (SH ++ X)) (V1 := (si V 89 14 (0 : Int32))) rfl ?_
  obtain ⟨q1, hq1, h⟩ := ai_bd h
  refine rn_call rfl rfl rfl rfl rfl rfl (by omega) (t_M_in (by omega) hq1) ?_
  rcases ai_if h with ⟨hc, h⟩ | ⟨hc, h⟩
  · refine rn_brT rfl rfl rfl rfl hc ?_
    refine rn_go 1 (pc' := 26) (l' := [(0, .ref 89), (1, .int x1), (2, .int x2)]) (st' := [.int (-1 : Int32)]) (S1 := (SH ++ X)) (V1 := (si V 89 14 (0 : Int32))) rfl ?_
    obtain rfl := Option.some.inj h
    exact rn_ret rfl rfl rfl
  · refine rn_brF rfl rfl rfl rfl hc ?_
    refine rn_go 3 (pc' := 19) (l' := [(0, .ref 89), (1, .int x1), (2, .int x2)]) (st' := [.int (18 : Int32), .int (-1 : Int32), .int x2]) (S1 := (SH ++ X)) (V1 := (si V 89 14 (0 : Int32))) rfl ?_
    obtain ⟨q2, hq2, h⟩ := ai_bd h
    refine rn_call rfl rfl rfl rfl rfl rfl (by omega) (t_M_in (by omega) hq2) ?_
    rcases ai_if h with ⟨hc, h⟩ | ⟨hc, h⟩
    · refine rn_brT rfl rfl rfl rfl hc ?_
      refine rn_go 3 (pc' := 33) (l' := [(0, .ref 89), (1, .int x1), (2, .int x2)]) (st' := [.int (12 : Int32), .int (gi (si V 89 14 (0 : Int32)) 89 55)]) (S1 := (SH ++ X)) (V1 := (si V 89 14 (0 : Int32))) rfl ?_
      rcases ai_if h with ⟨hc, h⟩ | ⟨hc, h⟩
      · refine rn_brT rfl rfl rfl rfl hc ?_
        refine rn_go 7 (pc' := 50) (l' := [(0, .ref 89), (1, .int x1), (2, .int x2)]) (st' := [.int x1, .int ((2 : Int32) * (gi (si V 89 14 (0 : Int32)) 89 55)), .ref 114]) (S1 := (SH ++ X)) (V1 := (si V 89 14 (0 : Int32))) rfl ?_
        obtain ⟨hg, h⟩ := ai_gd h
        refine rg_iast (n := 24) rfl rfl hg ?_
        refine rn_go 9 (pc' := 64) (l' := [(0, .ref 89), (1, .int x1), (2, .int x2)]) (st' := [.int x2, .int (((2 : Int32) * (gi (sa (si V 89 14 (0 : Int32)) 114 (((2 : Int32) * (gi (si V 89 14 (0 : Int32)) 89 55))).toNatClampNeg x1) 89 55)) + (1 : Int32)), .ref 114]) (S1 := (SH ++ X)) (V1 := (sa (si V 89 14 (0 : Int32)) 114 (((2 : Int32) * (gi (si V 89 14 (0 : Int32)) 89 55))).toNatClampNeg x1)) rfl ?_
        obtain ⟨hg, h⟩ := ai_gd h
        refine rg_iast (n := 24) rfl rfl hg ?_
        refine rn_go 8 (pc' := 79) (l' := [(0, .ref 89), (1, .int x1), (2, .int x2)]) (st' := [.int (gi (si (sa (sa (si V 89 14 (0 : Int32)) 114 (((2 : Int32) * (gi (si V 89 14 (0 : Int32)) 89 55))).toNatClampNeg x1) 114 ((((2 : Int32) * (gi (sa (si V 89 14 (0 : Int32)) 114 (((2 : Int32) * (gi (si V 89 14 (0 : Int32)) 89 55))).toNatClampNeg x1) 89 55)) + (1 : Int32))).toNatClampNeg x2) 89 55 ((gi (sa (sa (si V 89 14 (0 : Int32)) 114 (((2 : Int32) * (gi (si V 89 14 (0 : Int32)) 89 55))).toNatClampNeg x1) 114 ((((2 : Int32) * (gi (sa (si V 89 14 (0 : Int32)) 114 (((2 : Int32) * (gi (si V 89 14 (0 : Int32)) 89 55))).toNatClampNeg x1) 89 55)) + (1 : Int32))).toNatClampNeg x2) 89 55) + (1 : Int32))) 89 55)]) (S1 := (SH ++ X)) (V1 := (si (sa (sa (si V 89 14 (0 : Int32)) 114 (((2 : Int32) * (gi (si V 89 14 (0 : Int32)) 89 55))).toNatClampNeg x1) 114 ((((2 : Int32) * (gi (sa (si V 89 14 (0 : Int32)) 114 (((2 : Int32) * (gi (si V 89 14 (0 : Int32)) 89 55))).toNatClampNeg x1) 89 55)) + (1 : Int32))).toNatClampNeg x2) 89 55 ((gi (sa (sa (si V 89 14 (0 : Int32)) 114 (((2 : Int32) * (gi (si V 89 14 (0 : Int32)) 89 55))).toNatClampNeg x1) 114 ((((2 : Int32) * (gi (sa (si V 89 14 (0 : Int32)) 114 (((2 : Int32) * (gi (si V 89 14 (0 : Int32)) 89 55))).toNatClampNeg x1) 89 55)) + (1 : Int32))).toNatClampNeg x2) 89 55) + (1 : Int32)))) rfl ?_
        obtain rfl := Option.some.inj h
        exact rn_ret rfl rfl rfl
      · refine rn_brF rfl rfl rfl rfl hc ?_
        refine rn_go 1 (pc' := 38) (l' := [(0, .ref 89), (1, .int x1), (2, .int x2)]) (st' := [.int (-2 : Int32)]) (S1 := (SH ++ X)) (V1 := (si V 89 14 (0 : Int32))) rfl ?_
        obtain rfl := Option.some.inj h
        exact rn_ret rfl rfl rfl
    · refine rn_brF rfl rfl rfl rfl hc ?_
      refine rn_go 1 (pc' := 26) (l' := [(0, .ref 89), (1, .int x1), (2, .int x2)]) (st' := [.int (-1 : Int32)]) (S1 := (SH ++ X)) (V1 := (si V 89 14 (0 : Int32))) rfl ?_
      obtain rfl := Option.some.inj h
      exact rn_ret rfl rfl rfl
-- RentByTheWheelModel.forget()I (89,)
def d_M_forget  (V : ai_V) : Option (Int32 × ai_V) :=
  some ((gi (si V 89 14 (0 : Int32)) 89 55), (si (si V 89 14 (0 : Int32)) 89 55 (0 : Int32)))
set_option maxRecDepth 20000 in
theorem t_M_forget {X : ai_S} {e : Nat} (hd : 0 ≤ e)  {V : ai_V} {r : (Int32 × ai_V)} (h : d_M_forget  V = some r) : Rn e 241 0 (lv_args 0 [.ref 89]) [] (SH ++ X) V (some (.int r.1)) (SH ++ X) r.2 := by
  rw [d_M_forget] at h
  refine rn_go 10 (pc' := 16) (l' := [(1, .int (gi (si V 89 14 (0 : Int32)) 89 55)), (0, .ref 89)]) (st' := [.int (gi (si V 89 14 (0 : Int32)) 89 55)]) (S1 := (SH ++ X)) (V1 := (si (si V 89 14 (0 : Int32)) 89 55 (0 : Int32))) rfl ?_
  obtain rfl := Option.some.inj h
  exact rn_ret rfl rfl rfl
-- RentByTheWheelModel.canBe(II)Z (89, None, None)
def d_M_canBe_97   (V : ai_V) : Option Int32 :=
  some (1 : Int32)
set_option maxRecDepth 20000 in
theorem t_M_canBe_97 {X : ai_S} {e : Nat} (hd : 2 ≤ e)   (V : ai_V) (r : Int32) (h : d_M_canBe_97   V = some r) : Rn e 242 97 [] [] (SH ++ X) V (some (.int r)) (SH ++ X) V := by
  rw [d_M_canBe_97] at h
  refine rn_go 2 (pc' := 102) (l' := []) (st' := [.int (1 : Int32)]) (S1 := (SH ++ X)) (V1 := V) rfl ?_
  obtain rfl := Option.some.inj h
  exact rg_zret rfl (by decide)
def d_M_canBe_61 (F31 : Int32 → Int32 → Int32 → Int32 → ai_V → Option Int32) (x1 : Int32) (x2 : Int32) (x4 : Int32) (s0 : Int32) (s1 : Int32) (V : ai_V) : Option Int32 :=
  F31 x1 x2 (s1 + s0) (x4 + (1 : Int32)) V
set_option maxRecDepth 20000 in
theorem t_M_canBe_61 {X : ai_S} {e : Nat} (hd : 2 ≤ e) (F31 : Int32 → Int32 → Int32 → Int32 → ai_V → Option Int32) (hF31 : ∀ (x1 : Int32) (x2 : Int32) (x3 : Int32) (x4 : Int32) (V : ai_V) (r : Int32), F31 x1 x2 x3 x4 V = some r → Rn e 242 31 [(0, .ref 89), (1, .int x1), (2, .int x2), (3, .int x3), (4, .int x4)] [] (SH ++ X) V (some (.int r)) (SH ++ X) V) (x1 : Int32) (x2 : Int32) (x4 : Int32) (s0 : Int32) (s1 : Int32) (V : ai_V) (r : Int32) (h : d_M_canBe_61 F31 x1 x2 x4 s0 s1 V = some r) : Rn e 242 61 [(0, .ref 89), (1, .int x1), (2, .int x2), (4, .int x4)] [.int s0, .int s1] (SH ++ X) V (some (.int r)) (SH ++ X) V := by
  rw [d_M_canBe_61] at h
  refine rn_go 4 (pc' := 31) (l' := [(4, .int (x4 + (1 : Int32))), (3, .int (s1 + s0)), (0, .ref 89), (1, .int x1), (2, .int x2)]) (st' := []) (S1 := (SH ++ X)) (V1 := V) rfl ?_
  exact rn_sub [2, 3, 4, 1, 0] rfl rfl (hF31 x1 x2 (s1 + s0) (x4 + (1 : Int32)) V _ h)
def d_M_canBe_31  : Nat → Int32 → Int32 → Int32 → Int32 → ai_V → Option Int32
  | 0, _, _, _, _, _ => none
  | n + 1, x1, x2, x3, x4, V => if (gi V 89 1) ≤ x4 then (if ai_in (((2 : Int32) * x1) + (1 : Int32)) 24 then (if (ga V 114 ((((2 : Int32) * x1) + (1 : Int32))).toNatClampNeg) = (-1 : Int32) then (d_M_canBe_97 V) else (if ai_in (((2 : Int32) * x1) + (1 : Int32)) 24 then (if ¬ x3 = (ga V 114 ((((2 : Int32) * x1) + (1 : Int32))).toNatClampNeg) then (some (0 : Int32)) else (d_M_canBe_97 V)) else none)) else none) else ((d_M_has x2 x4 V).bind fun q1 => (if q1 = 0 then (d_M_canBe_61 (d_M_canBe_31 n) x1 x2 x4 (0 : Int32) x3 V) else (if ai_in x4 6 then (d_M_canBe_61 (d_M_canBe_31 n) x1 x2 x4 (ga V 93 (x4).toNatClampNeg) x3 V) else none)))
set_option maxRecDepth 20000 in
theorem t_M_canBe_31 {X : ai_S} {e : Nat} (hd : 2 ≤ e)  : ∀ (n : Nat) (x1 : Int32) (x2 : Int32) (x3 : Int32) (x4 : Int32) (V : ai_V) (r : Int32), d_M_canBe_31  n x1 x2 x3 x4 V = some r → Rn e 242 31 [(0, .ref 89), (1, .int x1), (2, .int x2), (3, .int x3), (4, .int x4)] [] (SH ++ X) V (some (.int r)) (SH ++ X) V := by
  intro n
  induction n with
  | zero =>
    intro x1 x2 x3 x4 V r h
    cases h
  | succ n ih =>
    intro x1 x2 x3 x4 V r h
    rw [d_M_canBe_31] at h
    refine rn_go 3 (pc' := 37) (l' := [(0, .ref 89), (1, .int x1), (2, .int x2), (3, .int x3), (4, .int x4)]) (st' := [.int (gi V 89 1), .int x4]) (S1 := (SH ++ X)) (V1 := V) rfl ?_
    rcases ai_if h with ⟨hc, h⟩ | ⟨hc, h⟩
    · refine rn_brT rfl rfl rfl rfl hc ?_
      refine rn_go 7 (pc' := 78) (l' := [(0, .ref 89), (1, .int x1), (2, .int x2), (3, .int x3), (4, .int x4)]) (st' := [.int (((2 : Int32) * x1) + (1 : Int32)), .ref 114]) (S1 := (SH ++ X)) (V1 := V) rfl ?_
      obtain ⟨hg, h⟩ := ai_gd h
      refine rg_iald (n := 24) rfl rfl hg ?_
      refine rn_go 1 (pc' := 80) (l' := [(0, .ref 89), (1, .int x1), (2, .int x2), (3, .int x3), (4, .int x4)]) (st' := [.int (-1 : Int32), .int (ga V 114 ((((2 : Int32) * x1) + (1 : Int32))).toNatClampNeg)]) (S1 := (SH ++ X)) (V1 := V) rfl ?_
      rcases ai_if h with ⟨hc, h⟩ | ⟨hc, h⟩
      · refine rn_brT rfl rfl rfl rfl hc ?_
        exact rn_sub [] rfl rfl (t_M_canBe_97 (X := X) hd V _ h)
      · refine rn_brF rfl rfl rfl rfl hc ?_
        refine rn_go 8 (pc' := 93) (l' := [(0, .ref 89), (1, .int x1), (2, .int x2), (3, .int x3), (4, .int x4)]) (st' := [.int (((2 : Int32) * x1) + (1 : Int32)), .ref 114, .int x3]) (S1 := (SH ++ X)) (V1 := V) rfl ?_
        obtain ⟨hg, h⟩ := ai_gd h
        refine rg_iald (n := 24) rfl rfl hg ?_
        rcases ai_if h with ⟨hc, h⟩ | ⟨hc, h⟩
        · refine rn_brT rfl rfl rfl rfl hc ?_
          refine rn_go 1 (pc' := 102) (l' := [(0, .ref 89), (1, .int x1), (2, .int x2), (3, .int x3), (4, .int x4)]) (st' := [.int (0 : Int32)]) (S1 := (SH ++ X)) (V1 := V) rfl ?_
          obtain rfl := Option.some.inj h
          exact rg_zret rfl (by decide)
        · refine rn_brF rfl rfl rfl rfl hc ?_
          exact rn_sub [] rfl rfl (t_M_canBe_97 (X := X) hd V _ h)
    · refine rn_brF rfl rfl rfl rfl hc ?_
      refine rn_go 3 (pc' := 44) (l' := [(0, .ref 89), (1, .int x1), (2, .int x2), (3, .int x3), (4, .int x4)]) (st' := [.int x4, .int x2, .int x3]) (S1 := (SH ++ X)) (V1 := V) rfl ?_
      obtain ⟨q1, hq1, h⟩ := ai_bd h
      refine rn_call rfl rfl rfl rfl rfl rfl (by omega) (t_M_has (by omega) hq1) ?_
      rcases ai_if h with ⟨hc, h⟩ | ⟨hc, h⟩
      · refine rn_brT rfl rfl rfl rfl hc ?_
        refine rn_go 1 (pc' := 61) (l' := [(0, .ref 89), (1, .int x1), (2, .int x2), (3, .int x3), (4, .int x4)]) (st' := [.int (0 : Int32), .int x3]) (S1 := (SH ++ X)) (V1 := V) rfl ?_
        exact rn_sub [0, 1, 2, 4] rfl rfl (t_M_canBe_61 (X := X) hd (d_M_canBe_31 n) (ih) x1 x2 x4 (0 : Int32) x3 V _ h)
      · refine rn_brF rfl rfl rfl rfl hc ?_
        refine rn_go 3 (pc' := 56) (l' := [(0, .ref 89), (1, .int x1), (2, .int x2), (3, .int x3), (4, .int x4)]) (st' := [.int x4, .ref 93, .int x3]) (S1 := (SH ++ X)) (V1 := V) rfl ?_
        obtain ⟨hg, h⟩ := ai_gd h
        refine rg_iald (n := 6) rfl rfl hg ?_
        refine rn_go 1 (pc' := 61) (l' := [(0, .ref 89), (1, .int x1), (2, .int x2), (3, .int x3), (4, .int x4)]) (st' := [.int (ga V 93 (x4).toNatClampNeg), .int x3]) (S1 := (SH ++ X)) (V1 := V) rfl ?_
        exact rn_sub [0, 1, 2, 4] rfl rfl (t_M_canBe_61 (X := X) hd (d_M_canBe_31 n) (ih) x1 x2 x4 (ga V 93 (x4).toNatClampNeg) x3 V _ h)
def d_M_canBe (x1 : Int32) (x2 : Int32) (V : ai_V) : Option Int32 :=
  (d_Int_bitCount x2 V).bind fun q2 => (if (2 : Int32) < q2 then (some (0 : Int32)) else ((d_M_turnsOf x2 V).bind fun q3 => (if ai_in ((2 : Int32) * x1) 24 then (if q3 = (ga V 114 (((2 : Int32) * x1)).toNatClampNeg) then (d_M_canBe_31 ai_N x1 x2 (0 : Int32) (0 : Int32) V) else (some (0 : Int32))) else none)))
set_option maxRecDepth 20000 in
theorem t_M_canBe {X : ai_S} {e : Nat} (hd : 2 ≤ e) {x1 : Int32} {x2 : Int32} {V : ai_V} {r : Int32} (h : d_M_canBe x1 x2 V = some r) : Rn e 242 0 (lv_args 0 [.ref 89, .int x1, .int x2]) [] (SH ++ X) V (some (.int r)) (SH ++ X) V := by
  rw [d_M_canBe] at h
  refine rn_go 1 (pc' := 1) (l' := [(0, .ref 89), (1, .int x1), (2, .int x2)]) (st' := [.int x2]) (S1 := (SH ++ X)) (V1 := V) rfl ?_
  obtain ⟨q2, hq2, h⟩ := ai_bd h
  refine rn_call rfl rfl rfl rfl rfl rfl (by omega) (t_Int_bitCount (by omega) hq2) ?_
  refine rn_go 1 (pc' := 5) (l' := [(0, .ref 89), (1, .int x1), (2, .int x2)]) (st' := [.int (2 : Int32), .int q2]) (S1 := (SH ++ X)) (V1 := V) rfl ?_
  rcases ai_if h with ⟨hc, h⟩ | ⟨hc, h⟩
  · refine rn_brT rfl rfl rfl rfl hc ?_
    refine rn_go 1 (pc' := 25) (l' := [(0, .ref 89), (1, .int x1), (2, .int x2)]) (st' := [.int (0 : Int32)]) (S1 := (SH ++ X)) (V1 := V) rfl ?_
    obtain rfl := Option.some.inj h
    exact rg_zret rfl (by decide)
  · refine rn_brF rfl rfl rfl rfl hc ?_
    refine rn_go 2 (pc' := 10) (l' := [(0, .ref 89), (1, .int x1), (2, .int x2)]) (st' := [.int x2, .ref 89]) (S1 := (SH ++ X)) (V1 := V) rfl ?_
    obtain ⟨q3, hq3, h⟩ := ai_bd h
    refine rn_call rfl rfl rfl rfl rfl rfl (by omega) (t_M_turnsOf (by omega) hq3) ?_
    refine rn_go 5 (pc' := 20) (l' := [(0, .ref 89), (1, .int x1), (2, .int x2)]) (st' := [.int ((2 : Int32) * x1), .ref 114, .int q3]) (S1 := (SH ++ X)) (V1 := V) rfl ?_
    obtain ⟨hg, h⟩ := ai_gd h
    refine rg_iald (n := 24) rfl rfl hg ?_
    rcases ai_if h with ⟨hc, h⟩ | ⟨hc, h⟩
    · refine rn_brT rfl rfl rfl rfl hc ?_
      refine rn_go 4 (pc' := 31) (l' := [(4, .int (0 : Int32)), (3, .int (0 : Int32)), (0, .ref 89), (1, .int x1), (2, .int x2)]) (st' := []) (S1 := (SH ++ X)) (V1 := V) rfl ?_
      exact rn_sub [2, 3, 4, 1, 0] rfl rfl (t_M_canBe_31 (X := X) hd ai_N x1 x2 (0 : Int32) (0 : Int32) V _ h)
    · refine rn_brF rfl rfl rfl rfl hc ?_
      refine rn_go 1 (pc' := 25) (l' := [(0, .ref 89), (1, .int x1), (2, .int x2)]) (st' := [.int (0 : Int32)]) (S1 := (SH ++ X)) (V1 := V) rfl ?_
      obtain rfl := Option.some.inj h
      exact rg_zret rfl (by decide)
-- RentByTheWheelModel.trod()I (89,)
def d_M_trod_151  (x1 : Int64) (s0 : Int64) (V : ai_V) : Option (Int32 × ai_V) :=
  (d_M_tell s0 V).bind fun q1 => (some ((x1).toInt32, q1))
set_option maxRecDepth 20000 in
theorem t_M_trod_151 {X : ai_S} {e : Nat} (hd : 3 ≤ e)  (x1 : Int64) (s0 : Int64) (V : ai_V) (r : (Int32 × ai_V)) (h : d_M_trod_151  x1 s0 V = some r) : Rn e 243 151 [(1, .long x1)] [.long s0, .ref 89] (SH ++ X) V (some (.int r.1)) (SH ++ X) r.2 := by
  rw [d_M_trod_151] at h
  obtain ⟨q1, hq1, h⟩ := ai_bd h
  refine rn_call rfl rfl rfl rfl rfl rfl (by omega) (t_M_tell (by omega) hq1) ?_
  refine rn_go 2 (pc' := 156) (l' := [(1, .long x1)]) (st' := [.int (x1).toInt32]) (S1 := (SH ++ X)) (V1 := q1) rfl ?_
  obtain rfl := Option.some.inj h
  exact rn_ret rfl rfl rfl
def d_M_trod_134  (x1 : Int64) (x4 : Int32) (s0 : Int64) (V : ai_V) : Option (Int32 × ai_V) :=
  (d_M_tell s0 V).bind fun q2 => (if ¬ (lg_cmp x1 (Int64.ofNat 0)) = 0 then (d_M_trod_151 x1 (x4).toInt64 q2) else (d_M_trod_151 x1 (Int64.ofNat 0) q2))
set_option maxRecDepth 20000 in
theorem t_M_trod_134 {X : ai_S} {e : Nat} (hd : 3 ≤ e)  (x1 : Int64) (x4 : Int32) (s0 : Int64) (V : ai_V) (r : (Int32 × ai_V)) (h : d_M_trod_134  x1 x4 s0 V = some r) : Rn e 243 134 [(0, .ref 89), (1, .long x1), (4, .int x4)] [.long s0, .ref 89] (SH ++ X) V (some (.int r.1)) (SH ++ X) r.2 := by
  rw [d_M_trod_134] at h
  obtain ⟨q2, hq2, h⟩ := ai_bd h
  refine rn_call rfl rfl rfl rfl rfl rfl (by omega) (t_M_tell (by omega) hq2) ?_
  refine rn_go 4 (pc' := 141) (l' := [(0, .ref 89), (1, .long x1), (4, .int x4)]) (st' := [.int (lg_cmp x1 (Int64.ofNat 0)), .ref 89]) (S1 := (SH ++ X)) (V1 := q2) rfl ?_
  rcases ai_if h with ⟨hc, h⟩ | ⟨hc, h⟩
  · refine rn_brT rfl rfl rfl rfl hc ?_
    refine rn_go 2 (pc' := 151) (l' := [(0, .ref 89), (1, .long x1), (4, .int x4)]) (st' := [.long (x4).toInt64, .ref 89]) (S1 := (SH ++ X)) (V1 := q2) rfl ?_
    exact rn_sub [1] rfl rfl (t_M_trod_151 (X := X) hd x1 (x4).toInt64 q2 _ h)
  · refine rn_brF rfl rfl rfl rfl hc ?_
    refine rn_go 2 (pc' := 151) (l' := [(0, .ref 89), (1, .long x1), (4, .int x4)]) (st' := [.long (Int64.ofNat 0), .ref 89]) (S1 := (SH ++ X)) (V1 := q2) rfl ?_
    exact rn_sub [1] rfl rfl (t_M_trod_151 (X := X) hd x1 (Int64.ofNat 0) q2 _ h)
def d_M_trod_98 (F15 : Int64 → Int32 → Int32 → Int32 → ai_V → Option (Int32 × ai_V)) (x1 : Int64) (x3 : Int32) (x4 : Int32) (x5 : Int32) (x6 : Int32) (V : ai_V) : Option (Int32 × ai_V) :=
  F15 (ai_minL (Int64.ofNat 1000000) (x1 * (x6).toInt64)) x3 x4 (x5 + (1 : Int32)) V
set_option maxRecDepth 20000 in
theorem t_M_trod_98 {X : ai_S} {e : Nat} (hd : 3 ≤ e) (F15 : Int64 → Int32 → Int32 → Int32 → ai_V → Option (Int32 × ai_V)) (hF15 : ∀ (x1 : Int64) (x3 : Int32) (x4 : Int32) (x5 : Int32) (V : ai_V) (r : (Int32 × ai_V)), F15 x1 x3 x4 x5 V = some r → Rn e 243 15 [(0, .ref 89), (1, .long x1), (3, .int x3), (4, .int x4), (5, .int x5)] [] (SH ++ X) V (some (.int r.1)) (SH ++ X) r.2) (x1 : Int64) (x3 : Int32) (x4 : Int32) (x5 : Int32) (x6 : Int32) (V : ai_V) (r : (Int32 × ai_V)) (h : d_M_trod_98 F15 x1 x3 x4 x5 x6 V = some r) : Rn e 243 98 [(0, .ref 89), (1, .long x1), (3, .int x3), (4, .int x4), (5, .int x5), (6, .int x6)] [] (SH ++ X) V (some (.int r.1)) (SH ++ X) r.2 := by
  rw [d_M_trod_98] at h
  refine rn_go 9 (pc' := 15) (l' := [(5, .int (x5 + (1 : Int32))), (1, .long (ai_minL (Int64.ofNat 1000000) (x1 * (x6).toInt64))), (0, .ref 89), (3, .int x3), (4, .int x4), (6, .int x6)]) (st' := []) (S1 := (SH ++ X)) (V1 := V) rfl ?_
  exact rn_sub [2, 1, 3, 4, 0] rfl rfl (hF15 (ai_minL (Int64.ofNat 1000000) (x1 * (x6).toInt64)) x3 x4 (x5 + (1 : Int32)) V _ h)
def d_M_trod_80 (F15 : Int64 → Int32 → Int32 → Int32 → ai_V → Option (Int32 × ai_V)) (F40 : Int64 → Int32 → Int32 → Int32 → Int32 → Int32 → Int32 → ai_V → Option (Int32 × ai_V)) (x1 : Int64) (x3 : Int32) (x4 : Int32) (x5 : Int32) (x6 : Int32) (x7 : Int32) (x8 : Int32) (V : ai_V) : Option (Int32 × ai_V) :=
  F40 x1 x3 x4 x5 x6 x7 (x8 + (1 : Int32)) V
set_option maxRecDepth 20000 in
theorem t_M_trod_80 {X : ai_S} {e : Nat} (hd : 3 ≤ e) (F15 : Int64 → Int32 → Int32 → Int32 → ai_V → Option (Int32 × ai_V)) (hF15 : ∀ (x1 : Int64) (x3 : Int32) (x4 : Int32) (x5 : Int32) (V : ai_V) (r : (Int32 × ai_V)), F15 x1 x3 x4 x5 V = some r → Rn e 243 15 [(0, .ref 89), (1, .long x1), (3, .int x3), (4, .int x4), (5, .int x5)] [] (SH ++ X) V (some (.int r.1)) (SH ++ X) r.2) (F40 : Int64 → Int32 → Int32 → Int32 → Int32 → Int32 → Int32 → ai_V → Option (Int32 × ai_V)) (hF40 : ∀ (x1 : Int64) (x3 : Int32) (x4 : Int32) (x5 : Int32) (x6 : Int32) (x7 : Int32) (x8 : Int32) (V : ai_V) (r : (Int32 × ai_V)), F40 x1 x3 x4 x5 x6 x7 x8 V = some r → Rn e 243 40 [(0, .ref 89), (1, .long x1), (3, .int x3), (4, .int x4), (5, .int x5), (6, .int x6), (7, .int x7), (8, .int x8)] [] (SH ++ X) V (some (.int r.1)) (SH ++ X) r.2) (x1 : Int64) (x3 : Int32) (x4 : Int32) (x5 : Int32) (x6 : Int32) (x7 : Int32) (x8 : Int32) (V : ai_V) (r : (Int32 × ai_V)) (h : d_M_trod_80 F15 F40 x1 x3 x4 x5 x6 x7 x8 V = some r) : Rn e 243 80 [(0, .ref 89), (1, .long x1), (3, .int x3), (4, .int x4), (5, .int x5), (6, .int x6), (7, .int x7), (8, .int x8)] [] (SH ++ X) V (some (.int r.1)) (SH ++ X) r.2 := by
  rw [d_M_trod_80] at h
  refine rn_go 2 (pc' := 40) (l' := [(8, .int (x8 + (1 : Int32))), (0, .ref 89), (1, .long x1), (3, .int x3), (4, .int x4), (5, .int x5), (6, .int x6), (7, .int x7)]) (st' := []) (S1 := (SH ++ X)) (V1 := V) rfl ?_
  exact rn_sub [1, 2, 3, 4, 5, 6, 7, 0] rfl rfl (hF40 x1 x3 x4 x5 x6 x7 (x8 + (1 : Int32)) V _ h)
def d_M_trod_40 (F15 : Int64 → Int32 → Int32 → Int32 → ai_V → Option (Int32 × ai_V)) : Nat → Int64 → Int32 → Int32 → Int32 → Int32 → Int32 → Int32 → ai_V → Option (Int32 × ai_V)
  | 0, _, _, _, _, _, _, _, _ => none
  | n + 1, x1, x3, x4, x5, x6, x7, x8, V => if ((1 : Int32) <<< ((gi V 89 1) &&& 31)) ≤ x8 then (if x6 ≤ 0 then (d_M_trod_98 F15 x1 x3 x4 x5 x6 V) else (d_M_trod_98 F15 x1 x3 (x4 ||| x7) x5 x6 V)) else ((d_M_canBe x5 x8 V).bind fun q3 => (if ¬ q3 = 0 then (d_M_trod_80 F15 (d_M_trod_40 F15 n) x1 (x3 ||| x8) x4 x5 (x6 + (1 : Int32)) (x7 &&& x8) x8 V) else (d_M_trod_80 F15 (d_M_trod_40 F15 n) x1 x3 x4 x5 x6 x7 x8 V)))
set_option maxRecDepth 20000 in
theorem t_M_trod_40 {X : ai_S} {e : Nat} (hd : 3 ≤ e) (F15 : Int64 → Int32 → Int32 → Int32 → ai_V → Option (Int32 × ai_V)) (hF15 : ∀ (x1 : Int64) (x3 : Int32) (x4 : Int32) (x5 : Int32) (V : ai_V) (r : (Int32 × ai_V)), F15 x1 x3 x4 x5 V = some r → Rn e 243 15 [(0, .ref 89), (1, .long x1), (3, .int x3), (4, .int x4), (5, .int x5)] [] (SH ++ X) V (some (.int r.1)) (SH ++ X) r.2) : ∀ (n : Nat) (x1 : Int64) (x3 : Int32) (x4 : Int32) (x5 : Int32) (x6 : Int32) (x7 : Int32) (x8 : Int32) (V : ai_V) (r : (Int32 × ai_V)), d_M_trod_40 F15 n x1 x3 x4 x5 x6 x7 x8 V = some r → Rn e 243 40 [(0, .ref 89), (1, .long x1), (3, .int x3), (4, .int x4), (5, .int x5), (6, .int x6), (7, .int x7), (8, .int x8)] [] (SH ++ X) V (some (.int r.1)) (SH ++ X) r.2 := by
  intro n
  induction n with
  | zero =>
    intro x1 x3 x4 x5 x6 x7 x8 V r h
    cases h
  | succ n ih =>
    intro x1 x3 x4 x5 x6 x7 x8 V r h
    rw [d_M_trod_40] at h
    refine rn_go 5 (pc' := 48) (l' := [(0, .ref 89), (1, .long x1), (3, .int x3), (4, .int x4), (5, .int x5), (6, .int x6), (7, .int x7), (8, .int x8)]) (st' := [.int ((1 : Int32) <<< ((gi V 89 1) &&& 31)), .int x8]) (S1 := (SH ++ X)) (V1 := V) rfl ?_
    rcases ai_if h with ⟨hc, h⟩ | ⟨hc, h⟩
    · refine rn_brT rfl rfl rfl rfl hc ?_
      refine rn_go 1 (pc' := 88) (l' := [(0, .ref 89), (1, .long x1), (3, .int x3), (4, .int x4), (5, .int x5), (6, .int x6), (7, .int x7), (8, .int x8)]) (st' := [.int x6]) (S1 := (SH ++ X)) (V1 := V) rfl ?_
      rcases ai_if h with ⟨hc, h⟩ | ⟨hc, h⟩
      · refine rn_brT rfl rfl rfl rfl hc ?_
        exact rn_sub [0, 1, 2, 3, 4, 5] rfl rfl (t_M_trod_98 (X := X) hd F15 hF15 x1 x3 x4 x5 x6 V _ h)
      · refine rn_brF rfl rfl rfl rfl hc ?_
        refine rn_go 4 (pc' := 98) (l' := [(4, .int (x4 ||| x7)), (0, .ref 89), (1, .long x1), (3, .int x3), (5, .int x5), (6, .int x6), (7, .int x7), (8, .int x8)]) (st' := []) (S1 := (SH ++ X)) (V1 := V) rfl ?_
        exact rn_sub [1, 2, 3, 0, 4, 5] rfl rfl (t_M_trod_98 (X := X) hd F15 hF15 x1 x3 (x4 ||| x7) x5 x6 V _ h)
    · refine rn_brF rfl rfl rfl rfl hc ?_
      refine rn_go 3 (pc' := 56) (l' := [(0, .ref 89), (1, .long x1), (3, .int x3), (4, .int x4), (5, .int x5), (6, .int x6), (7, .int x7), (8, .int x8)]) (st' := [.int x8, .int x5, .ref 89]) (S1 := (SH ++ X)) (V1 := V) rfl ?_
      obtain ⟨q3, hq3, h⟩ := ai_bd h
      refine rn_call rfl rfl rfl rfl rfl rfl (by omega) (t_M_canBe (by omega) hq3) ?_
      rcases ai_if h with ⟨hc, h⟩ | ⟨hc, h⟩
      · refine rn_brT rfl rfl rfl rfl hc ?_
        refine rn_go 9 (pc' := 80) (l' := [(7, .int (x7 &&& x8)), (3, .int (x3 ||| x8)), (6, .int (x6 + (1 : Int32))), (0, .ref 89), (1, .long x1), (4, .int x4), (5, .int x5), (8, .int x8)]) (st' := []) (S1 := (SH ++ X)) (V1 := V) rfl ?_
        exact rn_sub [3, 4, 1, 5, 6, 2, 0, 7] rfl rfl (t_M_trod_80 (X := X) hd F15 hF15 (d_M_trod_40 F15 n) (ih) x1 (x3 ||| x8) x4 x5 (x6 + (1 : Int32)) (x7 &&& x8) x8 V _ h)
      · refine rn_brF rfl rfl rfl rfl hc ?_
        refine rn_go 1 (pc' := 80) (l' := [(0, .ref 89), (1, .long x1), (3, .int x3), (4, .int x4), (5, .int x5), (6, .int x6), (7, .int x7), (8, .int x8)]) (st' := []) (S1 := (SH ++ X)) (V1 := V) rfl ?_
        exact rn_sub [0, 1, 2, 3, 4, 5, 6, 7] rfl rfl (t_M_trod_80 (X := X) hd F15 hF15 (d_M_trod_40 F15 n) (ih) x1 x3 x4 x5 x6 x7 x8 V _ h)
def d_M_trod_15  : Nat → Int64 → Int32 → Int32 → Int32 → ai_V → Option (Int32 × ai_V)
  | 0, _, _, _, _, _ => none
  | n + 1, x1, x3, x4, x5, V => if (gi V 89 55) ≤ x5 then (if ¬ (lg_cmp x1 (Int64.ofNat 0)) = 0 then (d_M_trod_134 x1 x4 (x3).toInt64 (si V 89 13 (0 : Int32))) else (d_M_trod_134 x1 x4 (Int64.ofNat 0) (si V 89 13 (0 : Int32)))) else (d_M_trod_40 (d_M_trod_15 n) ai_N x1 x3 x4 x5 (0 : Int32) (((1 : Int32) <<< ((gi V 89 1) &&& 31)) - (1 : Int32)) (0 : Int32) V)
set_option maxRecDepth 20000 in
theorem t_M_trod_15 {X : ai_S} {e : Nat} (hd : 3 ≤ e)  : ∀ (n : Nat) (x1 : Int64) (x3 : Int32) (x4 : Int32) (x5 : Int32) (V : ai_V) (r : (Int32 × ai_V)), d_M_trod_15  n x1 x3 x4 x5 V = some r → Rn e 243 15 [(0, .ref 89), (1, .long x1), (3, .int x3), (4, .int x4), (5, .int x5)] [] (SH ++ X) V (some (.int r.1)) (SH ++ X) r.2 := by
  intro n
  induction n with
  | zero =>
    intro x1 x3 x4 x5 V r h
    cases h
  | succ n ih =>
    intro x1 x3 x4 x5 V r h
    rw [d_M_trod_15] at h
    refine rn_go 3 (pc' := 21) (l' := [(0, .ref 89), (1, .long x1), (3, .int x3), (4, .int x4), (5, .int x5)]) (st' := [.int (gi V 89 55), .int x5]) (S1 := (SH ++ X)) (V1 := V) rfl ?_
    rcases ai_if h with ⟨hc, h⟩ | ⟨hc, h⟩
    · refine rn_brT rfl rfl rfl rfl hc ?_
      refine rn_go 7 (pc' := 125) (l' := [(0, .ref 89), (1, .long x1), (3, .int x3), (4, .int x4), (5, .int x5)]) (st' := [.int (lg_cmp x1 (Int64.ofNat 0)), .ref 89]) (S1 := (SH ++ X)) (V1 := (si V 89 13 (0 : Int32))) rfl ?_
      rcases ai_if h with ⟨hc, h⟩ | ⟨hc, h⟩
      · refine rn_brT rfl rfl rfl rfl hc ?_
        refine rn_go 2 (pc' := 134) (l' := [(0, .ref 89), (1, .long x1), (3, .int x3), (4, .int x4), (5, .int x5)]) (st' := [.long (x3).toInt64, .ref 89]) (S1 := (SH ++ X)) (V1 := (si V 89 13 (0 : Int32))) rfl ?_
        exact rn_sub [0, 1, 3] rfl rfl (t_M_trod_134 (X := X) hd x1 x4 (x3).toInt64 (si V 89 13 (0 : Int32)) _ h)
      · refine rn_brF rfl rfl rfl rfl hc ?_
        refine rn_go 2 (pc' := 134) (l' := [(0, .ref 89), (1, .long x1), (3, .int x3), (4, .int x4), (5, .int x5)]) (st' := [.long (Int64.ofNat 0), .ref 89]) (S1 := (SH ++ X)) (V1 := (si V 89 13 (0 : Int32))) rfl ?_
        exact rn_sub [0, 1, 3] rfl rfl (t_M_trod_134 (X := X) hd x1 x4 (Int64.ofNat 0) (si V 89 13 (0 : Int32)) _ h)
    · refine rn_brF rfl rfl rfl rfl hc ?_
      refine rn_go 11 (pc' := 40) (l' := [(8, .int (0 : Int32)), (7, .int (((1 : Int32) <<< ((gi V 89 1) &&& 31)) - (1 : Int32))), (6, .int (0 : Int32)), (0, .ref 89), (1, .long x1), (3, .int x3), (4, .int x4), (5, .int x5)]) (st' := []) (S1 := (SH ++ X)) (V1 := V) rfl ?_
      exact rn_sub [3, 4, 5, 6, 7, 2, 1, 0] rfl rfl (t_M_trod_40 (X := X) hd (d_M_trod_15 n) (ih) ai_N x1 x3 x4 x5 (0 : Int32) (((1 : Int32) <<< ((gi V 89 1) &&& 31)) - (1 : Int32)) (0 : Int32) V _ h)
def d_M_trod  (V : ai_V) : Option (Int32 × ai_V) :=
  d_M_trod_15 ai_N (Int64.ofNat 1) (0 : Int32) (0 : Int32) (0 : Int32) (si V 89 14 (0 : Int32))
set_option maxRecDepth 20000 in
theorem t_M_trod {X : ai_S} {e : Nat} (hd : 3 ≤ e)  {V : ai_V} {r : (Int32 × ai_V)} (h : d_M_trod  V = some r) : Rn e 243 0 (lv_args 0 [.ref 89]) [] (SH ++ X) V (some (.int r.1)) (SH ++ X) r.2 := by
  rw [d_M_trod] at h
  refine rn_go 11 (pc' := 15) (l' := [(5, .int (0 : Int32)), (4, .int (0 : Int32)), (3, .int (0 : Int32)), (1, .long (Int64.ofNat 1)), (0, .ref 89)]) (st' := []) (S1 := (SH ++ X)) (V1 := (si V 89 14 (0 : Int32))) rfl ?_
  exact rn_sub [4, 3, 2, 1, 0] rfl rfl (t_M_trod_15 (X := X) hd ai_N (Int64.ofNat 1) (0 : Int32) (0 : Int32) (0 : Int32) (si V 89 14 (0 : Int32)) _ h)
-- RentByTheWheelModel.ways(I)I (89, None)
def d_M_ways_67 (F30 : Int32 → Int32 → Int32 → ai_V → Option (Int32 × ai_V)) (x1 : Int32) (x2 : Int32) (x3 : Int32) (V : ai_V) : Option (Int32 × ai_V) :=
  F30 x1 x2 (x3 + (1 : Int32)) V
set_option maxRecDepth 20000 in
theorem t_M_ways_67 {X : ai_S} {e : Nat} (hd : 3 ≤ e) (F30 : Int32 → Int32 → Int32 → ai_V → Option (Int32 × ai_V)) (hF30 : ∀ (x1 : Int32) (x2 : Int32) (x3 : Int32) (V : ai_V) (r : (Int32 × ai_V)), F30 x1 x2 x3 V = some r → Rn e 244 30 [(0, .ref 89), (1, .int x1), (2, .int x2), (3, .int x3)] [] (SH ++ X) V (some (.int r.1)) (SH ++ X) r.2) (x1 : Int32) (x2 : Int32) (x3 : Int32) (V : ai_V) (r : (Int32 × ai_V)) (h : d_M_ways_67 F30 x1 x2 x3 V = some r) : Rn e 244 67 [(0, .ref 89), (1, .int x1), (2, .int x2), (3, .int x3)] [] (SH ++ X) V (some (.int r.1)) (SH ++ X) r.2 := by
  rw [d_M_ways_67] at h
  refine rn_go 2 (pc' := 30) (l' := [(3, .int (x3 + (1 : Int32))), (0, .ref 89), (1, .int x1), (2, .int x2)]) (st' := []) (S1 := (SH ++ X)) (V1 := V) rfl ?_
  exact rn_sub [1, 2, 3, 0] rfl rfl (hF30 x1 x2 (x3 + (1 : Int32)) V _ h)
def d_M_ways_64 (F30 : Int32 → Int32 → Int32 → ai_V → Option (Int32 × ai_V)) (x1 : Int32) (x2 : Int32) (x3 : Int32) (V : ai_V) : Option (Int32 × ai_V) :=
  d_M_ways_67 F30 x1 (x2 + (1 : Int32)) x3 V
set_option maxRecDepth 20000 in
theorem t_M_ways_64 {X : ai_S} {e : Nat} (hd : 3 ≤ e) (F30 : Int32 → Int32 → Int32 → ai_V → Option (Int32 × ai_V)) (hF30 : ∀ (x1 : Int32) (x2 : Int32) (x3 : Int32) (V : ai_V) (r : (Int32 × ai_V)), F30 x1 x2 x3 V = some r → Rn e 244 30 [(0, .ref 89), (1, .int x1), (2, .int x2), (3, .int x3)] [] (SH ++ X) V (some (.int r.1)) (SH ++ X) r.2) (x1 : Int32) (x2 : Int32) (x3 : Int32) (V : ai_V) (r : (Int32 × ai_V)) (h : d_M_ways_64 F30 x1 x2 x3 V = some r) : Rn e 244 64 [(0, .ref 89), (1, .int x1), (2, .int x2), (3, .int x3)] [] (SH ++ X) V (some (.int r.1)) (SH ++ X) r.2 := by
  rw [d_M_ways_64] at h
  refine rn_go 1 (pc' := 67) (l' := [(2, .int (x2 + (1 : Int32))), (0, .ref 89), (1, .int x1), (3, .int x3)]) (st' := []) (S1 := (SH ++ X)) (V1 := V) rfl ?_
  exact rn_sub [1, 2, 0, 3] rfl rfl (t_M_ways_67 (X := X) hd F30 hF30 x1 (x2 + (1 : Int32)) x3 V _ h)
def d_M_ways_30  : Nat → Int32 → Int32 → Int32 → ai_V → Option (Int32 × ai_V)
  | 0, _, _, _, _ => none
  | n + 1, x1, x2, x3, V => if ((1 : Int32) <<< ((gi V 89 1) &&& 31)) ≤ x3 then (some (x2, V)) else ((d_M_canBe x1 x3 V).bind fun q1 => (if ¬ q1 = 0 then (if (10 : Int32) ≤ x2 then (d_M_ways_64 (d_M_ways_30 n) x1 x2 x3 V) else ((d_M_tell (x3).toInt64 V).bind fun q2 => (d_M_ways_64 (d_M_ways_30 n) x1 x2 x3 q2))) else (d_M_ways_67 (d_M_ways_30 n) x1 x2 x3 V)))
set_option maxRecDepth 20000 in
theorem t_M_ways_30 {X : ai_S} {e : Nat} (hd : 3 ≤ e)  : ∀ (n : Nat) (x1 : Int32) (x2 : Int32) (x3 : Int32) (V : ai_V) (r : (Int32 × ai_V)), d_M_ways_30  n x1 x2 x3 V = some r → Rn e 244 30 [(0, .ref 89), (1, .int x1), (2, .int x2), (3, .int x3)] [] (SH ++ X) V (some (.int r.1)) (SH ++ X) r.2 := by
  intro n
  induction n with
  | zero =>
    intro x1 x2 x3 V r h
    cases h
  | succ n ih =>
    intro x1 x2 x3 V r h
    rw [d_M_ways_30] at h
    refine rn_go 5 (pc' := 37) (l' := [(0, .ref 89), (1, .int x1), (2, .int x2), (3, .int x3)]) (st' := [.int ((1 : Int32) <<< ((gi V 89 1) &&& 31)), .int x3]) (S1 := (SH ++ X)) (V1 := V) rfl ?_
    rcases ai_if h with ⟨hc, h⟩ | ⟨hc, h⟩
    · refine rn_brT rfl rfl rfl rfl hc ?_
      refine rn_go 1 (pc' := 74) (l' := [(0, .ref 89), (1, .int x1), (2, .int x2), (3, .int x3)]) (st' := [.int x2]) (S1 := (SH ++ X)) (V1 := V) rfl ?_
      obtain rfl := Option.some.inj h
      exact rn_ret rfl rfl rfl
    · refine rn_brF rfl rfl rfl rfl hc ?_
      refine rn_go 3 (pc' := 43) (l' := [(0, .ref 89), (1, .int x1), (2, .int x2), (3, .int x3)]) (st' := [.int x3, .int x1, .ref 89]) (S1 := (SH ++ X)) (V1 := V) rfl ?_
      obtain ⟨q1, hq1, h⟩ := ai_bd h
      refine rn_call rfl rfl rfl rfl rfl rfl (by omega) (t_M_canBe (by omega) hq1) ?_
      rcases ai_if h with ⟨hc, h⟩ | ⟨hc, h⟩
      · refine rn_brT rfl rfl rfl rfl hc ?_
        refine rn_go 2 (pc' := 55) (l' := [(0, .ref 89), (1, .int x1), (2, .int x2), (3, .int x3)]) (st' := [.int (10 : Int32), .int x2]) (S1 := (SH ++ X)) (V1 := V) rfl ?_
        rcases ai_if h with ⟨hc, h⟩ | ⟨hc, h⟩
        · refine rn_brT rfl rfl rfl rfl hc ?_
          exact rn_sub [0, 1, 2, 3] rfl rfl (t_M_ways_64 (X := X) hd (d_M_ways_30 n) (ih) x1 x2 x3 V _ h)
        · refine rn_brF rfl rfl rfl rfl hc ?_
          refine rn_go 3 (pc' := 61) (l' := [(0, .ref 89), (1, .int x1), (2, .int x2), (3, .int x3)]) (st' := [.long (x3).toInt64, .ref 89]) (S1 := (SH ++ X)) (V1 := V) rfl ?_
          obtain ⟨q2, hq2, h⟩ := ai_bd h
          refine rn_call rfl rfl rfl rfl rfl rfl (by omega) (t_M_tell (by omega) hq2) ?_
          exact rn_sub [0, 1, 2, 3] rfl rfl (t_M_ways_64 (X := X) hd (d_M_ways_30 n) (ih) x1 x2 x3 q2 _ h)
      · refine rn_brF rfl rfl rfl rfl hc ?_
        refine rn_go 1 (pc' := 67) (l' := [(0, .ref 89), (1, .int x1), (2, .int x2), (3, .int x3)]) (st' := []) (S1 := (SH ++ X)) (V1 := V) rfl ?_
        exact rn_sub [0, 1, 2, 3] rfl rfl (t_M_ways_67 (X := X) hd (d_M_ways_30 n) (ih) x1 x2 x3 V _ h)
def d_M_ways (x1 : Int32) (V : ai_V) : Option (Int32 × ai_V) :=
  (d_M_in x1 (0 : Int32) ((gi (si V 89 14 (0 : Int32)) 89 55) - (1 : Int32)) (si V 89 14 (0 : Int32))).bind fun q3 => (if ¬ q3 = 0 then (d_M_ways_30 ai_N x1 (0 : Int32) (0 : Int32) (si (si V 89 14 (0 : Int32)) 89 13 (0 : Int32))) else (some ((-1 : Int32), (si V 89 14 (0 : Int32)))))
set_option maxRecDepth 20000 in
theorem t_M_ways {X : ai_S} {e : Nat} (hd : 3 ≤ e) {x1 : Int32} {V : ai_V} {r : (Int32 × ai_V)} (h : d_M_ways x1 V = some r) : Rn e 244 0 (lv_args 0 [.ref 89, .int x1]) [] (SH ++ X) V (some (.int r.1)) (SH ++ X) r.2 := by
  rw [d_M_ways] at h
  refine rn_go 9 (pc' := 13) (l' := [(0, .ref 89), (1, .int x1)]) (st' := [.int ((gi (si V 89 14 (0 : Int32)) 89 55) - (1 : Int32)), .int (0 : Int32), .int x1]) (S1 := (SH ++ X)) (V1 := (si V 89 14 (0 : Int32))) rfl ?_
  obtain ⟨q3, hq3, h⟩ := ai_bd h
  refine rn_call rfl rfl rfl rfl rfl rfl (by omega) (t_M_in (by omega) hq3) ?_
  rcases ai_if h with ⟨hc, h⟩ | ⟨hc, h⟩
  · refine rn_brT rfl rfl rfl rfl hc ?_
    refine rn_go 7 (pc' := 30) (l' := [(3, .int (0 : Int32)), (2, .int (0 : Int32)), (0, .ref 89), (1, .int x1)]) (st' := []) (S1 := (SH ++ X)) (V1 := (si (si V 89 14 (0 : Int32)) 89 13 (0 : Int32))) rfl ?_
    exact rn_sub [2, 3, 1, 0] rfl rfl (t_M_ways_30 (X := X) hd ai_N x1 (0 : Int32) (0 : Int32) (si (si V 89 14 (0 : Int32)) 89 13 (0 : Int32)) _ h)
  · refine rn_brF rfl rfl rfl rfl hc ?_
    refine rn_go 1 (pc' := 20) (l' := [(0, .ref 89), (1, .int x1)]) (st' := [.int (-1 : Int32)]) (S1 := (SH ++ X)) (V1 := (si V 89 14 (0 : Int32))) rfl ?_
    obtain rfl := Option.some.inj h
    exact rn_ret rfl rfl rfl
-- RentByTheWheelModel.braked(II)I (89, None, None)
def d_M_braked_187  (x3 : Int32) (s0 : Int64) (V : ai_V) : Option (Int32 × ai_V) :=
  (d_M_tell s0 V).bind fun q1 => (some (x3, q1))
set_option maxRecDepth 20000 in
theorem t_M_braked_187 {X : ai_S} {e : Nat} (hd : 329 ≤ e)  (x3 : Int32) (s0 : Int64) (V : ai_V) (r : (Int32 × ai_V)) (h : d_M_braked_187  x3 s0 V = some r) : Rn e 245 187 [(3, .int x3)] [.long s0, .ref 89] (SH ++ X) V (some (.int r.1)) (SH ++ X) r.2 := by
  rw [d_M_braked_187] at h
  obtain ⟨q1, hq1, h⟩ := ai_bd h
  refine rn_call rfl rfl rfl rfl rfl rfl (by omega) (t_M_tell (by omega) hq1) ?_
  refine rn_go 1 (pc' := 191) (l' := [(3, .int x3)]) (st' := [.int x3]) (S1 := (SH ++ X)) (V1 := q1) rfl ?_
  obtain rfl := Option.some.inj h
  exact rn_ret rfl rfl rfl
def d_M_braked_157 (F49 : Int32 → Int32 → Int32 → Int32 → Int32 → Int32 → ai_V → Option (Int32 × ai_V)) (x1 : Int32) (x2 : Int32) (x3 : Int32) (x4 : Int32) (x5 : Int32) (x6 : Int32) (V : ai_V) : Option (Int32 × ai_V) :=
  F49 x1 x2 x3 x4 x5 (x6 + (1 : Int32)) V
set_option maxRecDepth 20000 in
theorem t_M_braked_157 {X : ai_S} {e : Nat} (hd : 329 ≤ e) (F49 : Int32 → Int32 → Int32 → Int32 → Int32 → Int32 → ai_V → Option (Int32 × ai_V)) (hF49 : ∀ (x1 : Int32) (x2 : Int32) (x3 : Int32) (x4 : Int32) (x5 : Int32) (x6 : Int32) (V : ai_V) (r : (Int32 × ai_V)), F49 x1 x2 x3 x4 x5 x6 V = some r → Rn e 245 49 [(0, .ref 89), (1, .int x1), (2, .int x2), (3, .int x3), (4, .int x4), (5, .int x5), (6, .int x6)] [] (SH ++ X) V (some (.int r.1)) (SH ++ X) r.2) (x1 : Int32) (x2 : Int32) (x3 : Int32) (x4 : Int32) (x5 : Int32) (x6 : Int32) (V : ai_V) (r : (Int32 × ai_V)) (h : d_M_braked_157 F49 x1 x2 x3 x4 x5 x6 V = some r) : Rn e 245 157 [(0, .ref 89), (1, .int x1), (2, .int x2), (3, .int x3), (4, .int x4), (5, .int x5), (6, .int x6)] [] (SH ++ X) V (some (.int r.1)) (SH ++ X) r.2 := by
  rw [d_M_braked_157] at h
  refine rn_go 2 (pc' := 49) (l' := [(6, .int (x6 + (1 : Int32))), (0, .ref 89), (1, .int x1), (2, .int x2), (3, .int x3), (4, .int x4), (5, .int x5)]) (st' := []) (S1 := (SH ++ X)) (V1 := V) rfl ?_
  exact rn_sub [1, 2, 3, 4, 5, 6, 0] rfl rfl (hF49 x1 x2 x3 x4 x5 (x6 + (1 : Int32)) V _ h)
def d_M_braked_147 (F49 : Int32 → Int32 → Int32 → Int32 → Int32 → Int32 → ai_V → Option (Int32 × ai_V)) (x1 : Int32) (x2 : Int32) (x3 : Int32) (x4 : Int32) (x5 : Int32) (x6 : Int32) (V : ai_V) : Option (Int32 × ai_V) :=
  d_M_braked_157 F49 x1 x2 (x3 + (1 : Int32)) x4 (x5 &&& x6) x6 V
set_option maxRecDepth 20000 in
theorem t_M_braked_147 {X : ai_S} {e : Nat} (hd : 329 ≤ e) (F49 : Int32 → Int32 → Int32 → Int32 → Int32 → Int32 → ai_V → Option (Int32 × ai_V)) (hF49 : ∀ (x1 : Int32) (x2 : Int32) (x3 : Int32) (x4 : Int32) (x5 : Int32) (x6 : Int32) (V : ai_V) (r : (Int32 × ai_V)), F49 x1 x2 x3 x4 x5 x6 V = some r → Rn e 245 49 [(0, .ref 89), (1, .int x1), (2, .int x2), (3, .int x3), (4, .int x4), (5, .int x5), (6, .int x6)] [] (SH ++ X) V (some (.int r.1)) (SH ++ X) r.2) (x1 : Int32) (x2 : Int32) (x3 : Int32) (x4 : Int32) (x5 : Int32) (x6 : Int32) (V : ai_V) (r : (Int32 × ai_V)) (h : d_M_braked_147 F49 x1 x2 x3 x4 x5 x6 V = some r) : Rn e 245 147 [(0, .ref 89), (1, .int x1), (2, .int x2), (3, .int x3), (4, .int x4), (5, .int x5), (6, .int x6)] [] (SH ++ X) V (some (.int r.1)) (SH ++ X) r.2 := by
  rw [d_M_braked_147] at h
  refine rn_go 5 (pc' := 157) (l' := [(3, .int (x3 + (1 : Int32))), (5, .int (x5 &&& x6)), (0, .ref 89), (1, .int x1), (2, .int x2), (4, .int x4), (6, .int x6)]) (st' := []) (S1 := (SH ++ X)) (V1 := V) rfl ?_
  exact rn_sub [2, 3, 4, 0, 5, 1, 6] rfl rfl (t_M_braked_157 (X := X) hd F49 hF49 x1 x2 (x3 + (1 : Int32)) x4 (x5 &&& x6) x6 V _ h)
def d_M_braked_114 (F49 : Int32 → Int32 → Int32 → Int32 → Int32 → Int32 → ai_V → Option (Int32 × ai_V)) (F73 : Int32 → Int32 → Int32 → Int32 → Int32 → Int32 → Int32 → Int32 → ai_V → Option (Int32 × ai_V)) (x1 : Int32) (x2 : Int32) (x3 : Int32) (x4 : Int32) (x5 : Int32) (x6 : Int32) (x8 : Int32) (s0 : Int32) (s1 : Int32) (V : ai_V) : Option (Int32 × ai_V) :=
  F73 x1 x2 x3 x4 x5 x6 (s1 + s0) (x8 + (1 : Int32)) V
set_option maxRecDepth 20000 in
theorem t_M_braked_114 {X : ai_S} {e : Nat} (hd : 329 ≤ e) (F49 : Int32 → Int32 → Int32 → Int32 → Int32 → Int32 → ai_V → Option (Int32 × ai_V)) (hF49 : ∀ (x1 : Int32) (x2 : Int32) (x3 : Int32) (x4 : Int32) (x5 : Int32) (x6 : Int32) (V : ai_V) (r : (Int32 × ai_V)), F49 x1 x2 x3 x4 x5 x6 V = some r → Rn e 245 49 [(0, .ref 89), (1, .int x1), (2, .int x2), (3, .int x3), (4, .int x4), (5, .int x5), (6, .int x6)] [] (SH ++ X) V (some (.int r.1)) (SH ++ X) r.2) (F73 : Int32 → Int32 → Int32 → Int32 → Int32 → Int32 → Int32 → Int32 → ai_V → Option (Int32 × ai_V)) (hF73 : ∀ (x1 : Int32) (x2 : Int32) (x3 : Int32) (x4 : Int32) (x5 : Int32) (x6 : Int32) (x7 : Int32) (x8 : Int32) (V : ai_V) (r : (Int32 × ai_V)), F73 x1 x2 x3 x4 x5 x6 x7 x8 V = some r → Rn e 245 73 [(0, .ref 89), (1, .int x1), (2, .int x2), (3, .int x3), (4, .int x4), (5, .int x5), (6, .int x6), (7, .int x7), (8, .int x8)] [] (SH ++ X) V (some (.int r.1)) (SH ++ X) r.2) (x1 : Int32) (x2 : Int32) (x3 : Int32) (x4 : Int32) (x5 : Int32) (x6 : Int32) (x8 : Int32) (s0 : Int32) (s1 : Int32) (V : ai_V) (r : (Int32 × ai_V)) (h : d_M_braked_114 F49 F73 x1 x2 x3 x4 x5 x6 x8 s0 s1 V = some r) : Rn e 245 114 [(0, .ref 89), (1, .int x1), (2, .int x2), (3, .int x3), (4, .int x4), (5, .int x5), (6, .int x6), (8, .int x8)] [.int s0, .int s1] (SH ++ X) V (some (.int r.1)) (SH ++ X) r.2 := by
  rw [d_M_braked_114] at h
  refine rn_go 4 (pc' := 73) (l' := [(8, .int (x8 + (1 : Int32))), (7, .int (s1 + s0)), (0, .ref 89), (1, .int x1), (2, .int x2), (3, .int x3), (4, .int x4), (5, .int x5), (6, .int x6)]) (st' := []) (S1 := (SH ++ X)) (V1 := V) rfl ?_
  exact rn_sub [2, 3, 4, 5, 6, 7, 8, 1, 0] rfl rfl (hF73 x1 x2 x3 x4 x5 x6 (s1 + s0) (x8 + (1 : Int32)) V _ h)
def d_M_braked_73 (F49 : Int32 → Int32 → Int32 → Int32 → Int32 → Int32 → ai_V → Option (Int32 × ai_V)) : Nat → Int32 → Int32 → Int32 → Int32 → Int32 → Int32 → Int32 → Int32 → ai_V → Option (Int32 × ai_V)
  | 0, _, _, _, _, _, _, _, _, _ => none
  | n + 1, x1, x2, x3, x4, x5, x6, x7, x8, V => if (gi V 89 1) ≤ x8 then (if (ai_min (gi V 89 8) x7) = x2 then (if ¬ x3 = 0 then (d_M_braked_147 F49 x1 x2 x3 x4 x5 x6 V) else (d_M_braked_147 F49 x1 x2 x3 x6 x5 x6 V)) else (d_M_braked_157 F49 x1 x2 x3 x4 x5 x6 V)) else ((d_M_has x1 x8 V).bind fun q2 => (if q2 = 0 then (d_M_braked_114 F49 (d_M_braked_73 F49 n) x1 x2 x3 x4 x5 x6 x8 (0 : Int32) x7 V) else ((d_M_liftOf x8 x1 (0 : Int32) (ga V 90 ((13 : Int32)).toNatClampNeg) x6 V).bind fun q3 => (d_M_braked_114 F49 (d_M_braked_73 F49 n) x1 x2 x3 x4 x5 x6 x8 q3.1 x7 q3.2))))
set_option maxRecDepth 20000 in
theorem t_M_braked_73 {X : ai_S} {e : Nat} (hd : 329 ≤ e) (F49 : Int32 → Int32 → Int32 → Int32 → Int32 → Int32 → ai_V → Option (Int32 × ai_V)) (hF49 : ∀ (x1 : Int32) (x2 : Int32) (x3 : Int32) (x4 : Int32) (x5 : Int32) (x6 : Int32) (V : ai_V) (r : (Int32 × ai_V)), F49 x1 x2 x3 x4 x5 x6 V = some r → Rn e 245 49 [(0, .ref 89), (1, .int x1), (2, .int x2), (3, .int x3), (4, .int x4), (5, .int x5), (6, .int x6)] [] (SH ++ X) V (some (.int r.1)) (SH ++ X) r.2) : ∀ (n : Nat) (x1 : Int32) (x2 : Int32) (x3 : Int32) (x4 : Int32) (x5 : Int32) (x6 : Int32) (x7 : Int32) (x8 : Int32) (V : ai_V) (r : (Int32 × ai_V)), d_M_braked_73 F49 n x1 x2 x3 x4 x5 x6 x7 x8 V = some r → Rn e 245 73 [(0, .ref 89), (1, .int x1), (2, .int x2), (3, .int x3), (4, .int x4), (5, .int x5), (6, .int x6), (7, .int x7), (8, .int x8)] [] (SH ++ X) V (some (.int r.1)) (SH ++ X) r.2 := by
  intro n
  induction n with
  | zero =>
    intro x1 x2 x3 x4 x5 x6 x7 x8 V r h
    cases h
  | succ n ih =>
    intro x1 x2 x3 x4 x5 x6 x7 x8 V r h
    rw [d_M_braked_73] at h
    refine rn_go 3 (pc' := 79) (l' := [(0, .ref 89), (1, .int x1), (2, .int x2), (3, .int x3), (4, .int x4), (5, .int x5), (6, .int x6), (7, .int x7), (8, .int x8)]) (st' := [.int (gi V 89 1), .int x8]) (S1 := (SH ++ X)) (V1 := V) rfl ?_
    rcases ai_if h with ⟨hc, h⟩ | ⟨hc, h⟩
    · refine rn_brT rfl rfl rfl rfl hc ?_
      refine rn_go 5 (pc' := 133) (l' := [(0, .ref 89), (1, .int x1), (2, .int x2), (3, .int x3), (4, .int x4), (5, .int x5), (6, .int x6), (7, .int x7), (8, .int x8)]) (st' := [.int x2, .int (ai_min (gi V 89 8) x7)]) (S1 := (SH ++ X)) (V1 := V) rfl ?_
      rcases ai_if h with ⟨hc, h⟩ | ⟨hc, h⟩
      · refine rn_brT rfl rfl rfl rfl hc ?_
        refine rn_go 1 (pc' := 140) (l' := [(0, .ref 89), (1, .int x1), (2, .int x2), (3, .int x3), (4, .int x4), (5, .int x5), (6, .int x6), (7, .int x7), (8, .int x8)]) (st' := [.int x3]) (S1 := (SH ++ X)) (V1 := V) rfl ?_
        rcases ai_if h with ⟨hc, h⟩ | ⟨hc, h⟩
        · refine rn_brT rfl rfl rfl rfl hc ?_
          exact rn_sub [0, 1, 2, 3, 4, 5, 6] rfl rfl (t_M_braked_147 (X := X) hd F49 hF49 x1 x2 x3 x4 x5 x6 V _ h)
        · refine rn_brF rfl rfl rfl rfl hc ?_
          refine rn_go 2 (pc' := 147) (l' := [(4, .int x6), (0, .ref 89), (1, .int x1), (2, .int x2), (3, .int x3), (5, .int x5), (6, .int x6), (7, .int x7), (8, .int x8)]) (st' := []) (S1 := (SH ++ X)) (V1 := V) rfl ?_
          exact rn_sub [1, 2, 3, 4, 0, 5, 6] rfl rfl (t_M_braked_147 (X := X) hd F49 hF49 x1 x2 x3 x6 x5 x6 V _ h)
      · refine rn_brF rfl rfl rfl rfl hc ?_
        refine rn_go 1 (pc' := 157) (l' := [(0, .ref 89), (1, .int x1), (2, .int x2), (3, .int x3), (4, .int x4), (5, .int x5), (6, .int x6), (7, .int x7), (8, .int x8)]) (st' := []) (S1 := (SH ++ X)) (V1 := V) rfl ?_
        exact rn_sub [0, 1, 2, 3, 4, 5, 6] rfl rfl (t_M_braked_157 (X := X) hd F49 hF49 x1 x2 x3 x4 x5 x6 V _ h)
    · refine rn_brF rfl rfl rfl rfl hc ?_
      refine rn_go 3 (pc' := 87) (l' := [(0, .ref 89), (1, .int x1), (2, .int x2), (3, .int x3), (4, .int x4), (5, .int x5), (6, .int x6), (7, .int x7), (8, .int x8)]) (st' := [.int x8, .int x1, .int x7]) (S1 := (SH ++ X)) (V1 := V) rfl ?_
      obtain ⟨q2, hq2, h⟩ := ai_bd h
      refine rn_call rfl rfl rfl rfl rfl rfl (by omega) (t_M_has (by omega) hq2) ?_
      rcases ai_if h with ⟨hc, h⟩ | ⟨hc, h⟩
      · refine rn_brT rfl rfl rfl rfl hc ?_
        refine rn_go 1 (pc' := 114) (l' := [(0, .ref 89), (1, .int x1), (2, .int x2), (3, .int x3), (4, .int x4), (5, .int x5), (6, .int x6), (7, .int x7), (8, .int x8)]) (st' := [.int (0 : Int32), .int x7]) (S1 := (SH ++ X)) (V1 := V) rfl ?_
        exact rn_sub [0, 1, 2, 3, 4, 5, 6, 8] rfl rfl (t_M_braked_114 (X := X) hd F49 hF49 (d_M_braked_73 F49 n) (ih) x1 x2 x3 x4 x5 x6 x8 (0 : Int32) x7 V _ h)
      · refine rn_brF rfl rfl rfl rfl hc ?_
        refine rn_go 7 (pc' := 104) (l' := [(0, .ref 89), (1, .int x1), (2, .int x2), (3, .int x3), (4, .int x4), (5, .int x5), (6, .int x6), (7, .int x7), (8, .int x8)]) (st' := [.int (13 : Int32), .ref 90, .int (0 : Int32), .int x1, .int x8, .ref 89, .int x7]) (S1 := (SH ++ X)) (V1 := V) rfl ?_
        refine rg_iald (n := 14) rfl rfl (by decide) ?_
        refine rn_go 1 (pc' := 107) (l' := [(0, .ref 89), (1, .int x1), (2, .int x2), (3, .int x3), (4, .int x4), (5, .int x5), (6, .int x6), (7, .int x7), (8, .int x8)]) (st' := [.int x6, .int (ga V 90 ((13 : Int32)).toNatClampNeg), .int (0 : Int32), .int x1, .int x8, .ref 89, .int x7]) (S1 := (SH ++ X)) (V1 := V) rfl ?_
        obtain ⟨q3, hq3, h⟩ := ai_bd h
        refine rn_call rfl rfl rfl rfl rfl rfl (by omega) (t_M_liftOf (by omega) hq3) ?_
        refine rn_go 1 (pc' := 114) (l' := [(0, .ref 89), (1, .int x1), (2, .int x2), (3, .int x3), (4, .int x4), (5, .int x5), (6, .int x6), (7, .int x7), (8, .int x8)]) (st' := [.int q3.1, .int x7]) (S1 := (SH ++ X)) (V1 := q3.2) rfl ?_
        exact rn_sub [0, 1, 2, 3, 4, 5, 6, 8] rfl rfl (t_M_braked_114 (X := X) hd F49 hF49 (d_M_braked_73 F49 n) (ih) x1 x2 x3 x4 x5 x6 x8 q3.1 x7 q3.2 _ h)
def d_M_braked_49  : Nat → Int32 → Int32 → Int32 → Int32 → Int32 → Int32 → ai_V → Option (Int32 × ai_V)
  | 0, _, _, _, _, _, _, _ => none
  | n + 1, x1, x2, x3, x4, x5, x6, V => if x1 < x6 then ((d_M_tell (x4).toInt64 (si V 89 13 (0 : Int32))).bind fun q4 => (if ¬ x3 = 0 then (d_M_braked_187 x3 (x5).toInt64 q4) else (d_M_braked_187 x3 (Int64.ofNat 0) q4))) else (if (x6 &&& (x1 ^^^ (-1 : Int32))) = 0 then (d_M_braked_73 (d_M_braked_49 n) ai_N x1 x2 x3 x4 x5 x6 (0 : Int32) (0 : Int32) V) else (d_M_braked_157 (d_M_braked_49 n) x1 x2 x3 x4 x5 x6 V))
set_option maxRecDepth 20000 in
theorem t_M_braked_49 {X : ai_S} {e : Nat} (hd : 329 ≤ e)  : ∀ (n : Nat) (x1 : Int32) (x2 : Int32) (x3 : Int32) (x4 : Int32) (x5 : Int32) (x6 : Int32) (V : ai_V) (r : (Int32 × ai_V)), d_M_braked_49  n x1 x2 x3 x4 x5 x6 V = some r → Rn e 245 49 [(0, .ref 89), (1, .int x1), (2, .int x2), (3, .int x3), (4, .int x4), (5, .int x5), (6, .int x6)] [] (SH ++ X) V (some (.int r.1)) (SH ++ X) r.2 := by
  intro n
  induction n with
  | zero =>
    intro x1 x2 x3 x4 x5 x6 V r h
    cases h
  | succ n ih =>
    intro x1 x2 x3 x4 x5 x6 V r h
    rw [d_M_braked_49] at h
    refine rn_go 2 (pc' := 52) (l' := [(0, .ref 89), (1, .int x1), (2, .int x2), (3, .int x3), (4, .int x4), (5, .int x5), (6, .int x6)]) (st' := [.int x1, .int x6]) (S1 := (SH ++ X)) (V1 := V) rfl ?_
    rcases ai_if h with ⟨hc, h⟩ | ⟨hc, h⟩
    · refine rn_brT rfl rfl rfl rfl hc ?_
      refine rn_go 6 (pc' := 172) (l' := [(0, .ref 89), (1, .int x1), (2, .int x2), (3, .int x3), (4, .int x4), (5, .int x5), (6, .int x6)]) (st' := [.long (x4).toInt64, .ref 89]) (S1 := (SH ++ X)) (V1 := (si V 89 13 (0 : Int32))) rfl ?_
      obtain ⟨q4, hq4, h⟩ := ai_bd h
      refine rn_call rfl rfl rfl rfl rfl rfl (by omega) (t_M_tell (by omega) hq4) ?_
      refine rn_go 2 (pc' := 177) (l' := [(0, .ref 89), (1, .int x1), (2, .int x2), (3, .int x3), (4, .int x4), (5, .int x5), (6, .int x6)]) (st' := [.int x3, .ref 89]) (S1 := (SH ++ X)) (V1 := q4) rfl ?_
      rcases ai_if h with ⟨hc, h⟩ | ⟨hc, h⟩
      · refine rn_brT rfl rfl rfl rfl hc ?_
        refine rn_go 2 (pc' := 187) (l' := [(0, .ref 89), (1, .int x1), (2, .int x2), (3, .int x3), (4, .int x4), (5, .int x5), (6, .int x6)]) (st' := [.long (x5).toInt64, .ref 89]) (S1 := (SH ++ X)) (V1 := q4) rfl ?_
        exact rn_sub [3] rfl rfl (t_M_braked_187 (X := X) hd x3 (x5).toInt64 q4 _ h)
      · refine rn_brF rfl rfl rfl rfl hc ?_
        refine rn_go 2 (pc' := 187) (l' := [(0, .ref 89), (1, .int x1), (2, .int x2), (3, .int x3), (4, .int x4), (5, .int x5), (6, .int x6)]) (st' := [.long (Int64.ofNat 0), .ref 89]) (S1 := (SH ++ X)) (V1 := q4) rfl ?_
        exact rn_sub [3] rfl rfl (t_M_braked_187 (X := X) hd x3 (Int64.ofNat 0) q4 _ h)
    · refine rn_brF rfl rfl rfl rfl hc ?_
      refine rn_go 5 (pc' := 61) (l' := [(0, .ref 89), (1, .int x1), (2, .int x2), (3, .int x3), (4, .int x4), (5, .int x5), (6, .int x6)]) (st' := [.int (x6 &&& (x1 ^^^ (-1 : Int32)))]) (S1 := (SH ++ X)) (V1 := V) rfl ?_
      rcases ai_if h with ⟨hc, h⟩ | ⟨hc, h⟩
      · refine rn_brT rfl rfl rfl rfl hc ?_
        refine rn_go 4 (pc' := 73) (l' := [(8, .int (0 : Int32)), (7, .int (0 : Int32)), (0, .ref 89), (1, .int x1), (2, .int x2), (3, .int x3), (4, .int x4), (5, .int x5), (6, .int x6)]) (st' := []) (S1 := (SH ++ X)) (V1 := V) rfl ?_
        exact rn_sub [2, 3, 4, 5, 6, 7, 8, 1, 0] rfl rfl (t_M_braked_73 (X := X) hd (d_M_braked_49 n) (ih) ai_N x1 x2 x3 x4 x5 x6 (0 : Int32) (0 : Int32) V _ h)
      · refine rn_brF rfl rfl rfl rfl hc ?_
        refine rn_go 1 (pc' := 157) (l' := [(0, .ref 89), (1, .int x1), (2, .int x2), (3, .int x3), (4, .int x4), (5, .int x5), (6, .int x6)]) (st' := []) (S1 := (SH ++ X)) (V1 := V) rfl ?_
        exact rn_sub [0, 1, 2, 3, 4, 5, 6] rfl rfl (t_M_braked_157 (X := X) hd (d_M_braked_49 n) (ih) x1 x2 x3 x4 x5 x6 V _ h)
def d_M_braked (x1 : Int32) (x2 : Int32) (V : ai_V) : Option (Int32 × ai_V) :=
  (d_M_areThose x1 (si V 89 14 (0 : Int32))).bind fun q5 => (if q5 = 0 then (some ((-1 : Int32), (si V 89 14 (0 : Int32)))) else ((d_Int_bitCount x1 (si V 89 14 (0 : Int32))).bind fun q6 => ((d_M_in q6 (1 : Int32) (2 : Int32) (si V 89 14 (0 : Int32))).bind fun q7 => (if q7 = 0 then (some ((-1 : Int32), (si V 89 14 (0 : Int32)))) else ((d_M_in x2 (0 : Int32) (999 : Int32) (si V 89 14 (0 : Int32))).bind fun q8 => (if ¬ q8 = 0 then (d_M_braked_49 ai_N x1 x2 (0 : Int32) (-1 : Int32) x1 (0 : Int32) (si V 89 14 (0 : Int32))) else (some ((-1 : Int32), (si V 89 14 (0 : Int32))))))))))
set_option maxRecDepth 20000 in
theorem t_M_braked {X : ai_S} {e : Nat} (hd : 329 ≤ e) {x1 : Int32} {x2 : Int32} {V : ai_V} {r : (Int32 × ai_V)} (h : d_M_braked x1 x2 V = some r) : Rn e 245 0 (lv_args 0 [.ref 89, .int x1, .int x2]) [] (SH ++ X) V (some (.int r.1)) (SH ++ X) r.2 := by
  rw [d_M_braked] at h
  refine rn_go 5 (pc' := 7) (l' := [(0, .ref 89), (1, .int x1), (2, .int x2)]) (st' := [.int x1, .ref 89]) (S1 := (SH ++ X)) (V1 := (si V 89 14 (0 : Int32))) rfl ?_
  obtain ⟨q5, hq5, h⟩ := ai_bd h
  refine rn_call rfl rfl rfl rfl rfl rfl (by omega) (t_M_areThose (by omega) hq5) ?_
  rcases ai_if h with ⟨hc, h⟩ | ⟨hc, h⟩
  · refine rn_brT rfl rfl rfl rfl hc ?_
    refine rn_go 1 (pc' := 37) (l' := [(0, .ref 89), (1, .int x1), (2, .int x2)]) (st' := [.int (-1 : Int32)]) (S1 := (SH ++ X)) (V1 := (si V 89 14 (0 : Int32))) rfl ?_
    obtain rfl := Option.some.inj h
    exact rn_ret rfl rfl rfl
  · refine rn_brF rfl rfl rfl rfl hc ?_
    refine rn_go 1 (pc' := 14) (l' := [(0, .ref 89), (1, .int x1), (2, .int x2)]) (st' := [.int x1]) (S1 := (SH ++ X)) (V1 := (si V 89 14 (0 : Int32))) rfl ?_
    obtain ⟨q6, hq6, h⟩ := ai_bd h
    refine rn_call rfl rfl rfl rfl rfl rfl (by omega) (t_Int_bitCount (by omega) hq6) ?_
    refine rn_go 2 (pc' := 19) (l' := [(0, .ref 89), (1, .int x1), (2, .int x2)]) (st' := [.int (2 : Int32), .int (1 : Int32), .int q6]) (S1 := (SH ++ X)) (V1 := (si V 89 14 (0 : Int32))) rfl ?_
    obtain ⟨q7, hq7, h⟩ := ai_bd h
    refine rn_call rfl rfl rfl rfl rfl rfl (by omega) (t_M_in (by omega) hq7) ?_
    rcases ai_if h with ⟨hc, h⟩ | ⟨hc, h⟩
    · refine rn_brT rfl rfl rfl rfl hc ?_
      refine rn_go 1 (pc' := 37) (l' := [(0, .ref 89), (1, .int x1), (2, .int x2)]) (st' := [.int (-1 : Int32)]) (S1 := (SH ++ X)) (V1 := (si V 89 14 (0 : Int32))) rfl ?_
      obtain rfl := Option.some.inj h
      exact rn_ret rfl rfl rfl
    · refine rn_brF rfl rfl rfl rfl hc ?_
      refine rn_go 3 (pc' := 30) (l' := [(0, .ref 89), (1, .int x1), (2, .int x2)]) (st' := [.int (999 : Int32), .int (0 : Int32), .int x2]) (S1 := (SH ++ X)) (V1 := (si V 89 14 (0 : Int32))) rfl ?_
      obtain ⟨q8, hq8, h⟩ := ai_bd h
      refine rn_call rfl rfl rfl rfl rfl rfl (by omega) (t_M_in (by omega) hq8) ?_
      rcases ai_if h with ⟨hc, h⟩ | ⟨hc, h⟩
      · refine rn_brT rfl rfl rfl rfl hc ?_
        refine rn_go 8 (pc' := 49) (l' := [(6, .int (0 : Int32)), (5, .int x1), (4, .int (-1 : Int32)), (3, .int (0 : Int32)), (0, .ref 89), (1, .int x1), (2, .int x2)]) (st' := []) (S1 := (SH ++ X)) (V1 := (si V 89 14 (0 : Int32))) rfl ?_
        exact rn_sub [4, 5, 6, 3, 2, 1, 0] rfl rfl (t_M_braked_49 (X := X) hd ai_N x1 x2 (0 : Int32) (-1 : Int32) x1 (0 : Int32) (si V 89 14 (0 : Int32)) _ h)
      · refine rn_brF rfl rfl rfl rfl hc ?_
        refine rn_go 1 (pc' := 37) (l' := [(0, .ref 89), (1, .int x1), (2, .int x2)]) (st' := [.int (-1 : Int32)]) (S1 := (SH ++ X)) (V1 := (si V 89 14 (0 : Int32))) rfl ?_
        obtain rfl := Option.some.inj h
        exact rn_ret rfl rfl rfl
