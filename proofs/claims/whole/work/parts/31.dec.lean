/-! ===== printed by wip/gen/gen.py: methods as functions, and that the machine runs so ===== -/
-- java/util/Arrays.fill([II)V (70, None)
def d_Arr_fill_70_5  : Nat → Int32 → Int32 → Int32 → ai_V → Option ai_V
  | 0, _, _, _, _ => none
  | n + 1, x1, x2, x3, V => if x3 ≤ x2 then (some V) else (if ai_in x2 6 then (d_Arr_fill_70_5 n x1 (x2 + (1 : Int32)) x3 (sa V 70 (x2).toNatClampNeg x1)) else none)
set_option maxRecDepth 20000 in
theorem t_Arr_fill_70_5 {X : ai_S} {e : Nat} (hd : 0 ≤ e)  : ∀ (n : Nat) (x1 : Int32) (x2 : Int32) (x3 : Int32) (V : ai_V) (r : ai_V), d_Arr_fill_70_5  n x1 x2 x3 V = some r → Rn e 8 5 [(0, .ref 70), (1, .int x1), (2, .int x2), (3, .int x3)] [] (SH ++ X) V none (SH ++ X) r := by
  intro n
  induction n with
  | zero =>
    intro x1 x2 x3 V r h
    cases h
  | succ n ih =>
    intro x1 x2 x3 V r h
    rw [d_Arr_fill_70_5] at h
    refine rn_go 2 (pc' := 7) (l' := [(0, .ref 70), (1, .int x1), (2, .int x2), (3, .int x3)]) (st' := [.int x3, .int x2]) (S1 := (SH ++ X)) (V1 := V) rfl ?_
    rcases ai_if h with ⟨hc, h⟩ | ⟨hc, h⟩
    · refine rn_brT rfl rfl rfl rfl hc ?_
      obtain rfl := Option.some.inj h
      exact rn_ret rfl rfl rfl
    · refine rn_brF rfl rfl rfl rfl hc ?_
      refine rn_go 3 (pc' := 13) (l' := [(0, .ref 70), (1, .int x1), (2, .int x2), (3, .int x3)]) (st' := [.int x1, .int x2, .ref 70]) (S1 := (SH ++ X)) (V1 := V) rfl ?_
      obtain ⟨hg, h⟩ := ai_gd h
      refine rg_iast (n := 6) rfl rfl hg ?_
      refine rn_go 2 (pc' := 5) (l' := [(2, .int (x2 + (1 : Int32))), (0, .ref 70), (1, .int x1), (3, .int x3)]) (st' := []) (S1 := (SH ++ X)) (V1 := (sa V 70 (x2).toNatClampNeg x1)) rfl ?_
      exact rn_sub [1, 2, 0, 3] rfl rfl (ih x1 (x2 + (1 : Int32)) x3 (sa V 70 (x2).toNatClampNeg x1) _ h)
def d_Arr_fill_70 (x1 : Int32) (V : ai_V) : Option ai_V :=
  d_Arr_fill_70_5 ai_N x1 (0 : Int32) (Int32.ofNat 6) V
set_option maxRecDepth 20000 in
theorem t_Arr_fill_70 {X : ai_S} {e : Nat} (hd : 0 ≤ e) {x1 : Int32} {V : ai_V} {r : ai_V} (h : d_Arr_fill_70 x1 V = some r) : Rn e 8 0 (lv_args 0 [.ref 70, .int x1]) [] (SH ++ X) V none (SH ++ X) r := by
  rw [d_Arr_fill_70] at h
  refine rn_go 5 (pc' := 5) (l' := [(3, .int (Int32.ofNat 6)), (2, .int (0 : Int32)), (0, .ref 70), (1, .int x1)]) (st' := []) (S1 := (SH ++ X)) (V1 := V) rfl ?_
  exact rn_sub [2, 3, 1, 0] rfl rfl (t_Arr_fill_70_5 (X := X) hd ai_N x1 (0 : Int32) (Int32.ofNat 6) V _ h)
-- RentByTheWheel$Wheel.together(IILRentByTheWheel$State;)I (15, None, None, 16)
def d_Wheel_together (x1 : Int32) (x2 : Int32) (V : ai_V) : Option (Int32 × ai_V) :=
  (d_Wheel_pailsNow x1 x2 V).bind fun q1 => ((d_Wheel_pailsNow x2 x1 q1.2).bind fun q2 => (some ((q1.1 + q2.1), q2.2)))
set_option maxRecDepth 20000 in
theorem t_Wheel_together {X : ai_S} {e : Nat} (hd : 4 ≤ e) {x1 : Int32} {x2 : Int32} {V : ai_V} {r : (Int32 × ai_V)} (h : d_Wheel_together x1 x2 V = some r) : Rn e 38 0 (lv_args 0 [.ref 15, .int x1, .int x2, .ref 16]) [] (SH ++ X) V (some (.int r.1)) (SH ++ X) r.2 := by
  rw [d_Wheel_together] at h
  refine rn_go 4 (pc' := 4) (l' := [(0, .ref 15), (1, .int x1), (2, .int x2), (3, .ref 16)]) (st' := [.ref 16, .int x2, .int x1, .ref 15]) (S1 := (SH ++ X)) (V1 := V) rfl ?_
  obtain ⟨q1, hq1, h⟩ := ai_bd h
  refine rn_call rfl rfl rfl rfl rfl rfl (by omega) (t_Wheel_pailsNow (by omega) hq1) ?_
  refine rn_go 4 (pc' := 11) (l' := [(0, .ref 15), (1, .int x1), (2, .int x2), (3, .ref 16)]) (st' := [.ref 16, .int x1, .int x2, .ref 15, .int q1.1]) (S1 := (SH ++ X)) (V1 := q1.2) rfl ?_
  obtain ⟨q2, hq2, h⟩ := ai_bd h
  refine rn_call rfl rfl rfl rfl rfl rfl (by omega) (t_Wheel_pailsNow (by omega) hq2) ?_
  refine rn_go 1 (pc' := 15) (l' := [(0, .ref 15), (1, .int x1), (2, .int x2), (3, .ref 16)]) (st' := [.int (q1.1 + q2.1)]) (S1 := (SH ++ X)) (V1 := q2.2) rfl ?_
  obtain rfl := Option.some.inj h
  exact rn_ret rfl rfl rfl
-- RentByTheWheel$House.firstOf(I)I (3, None)
def d_House_firstOf_2  : Nat → Int32 → Int32 → ai_V → Option Int32
  | 0, _, _, _ => none
  | n + 1, x1, x2, V => if (gi V 3 0) ≤ x2 then (some (-1 : Int32)) else (if ¬ ((x1 >>> (x2 &&& 31)) &&& (1 : Int32)) = (1 : Int32) then (d_House_firstOf_2 n x1 (x2 + (1 : Int32)) V) else (some x2))
set_option maxRecDepth 20000 in
theorem t_House_firstOf_2 {X : ai_S} {e : Nat} (hd : 0 ≤ e)  : ∀ (n : Nat) (x1 : Int32) (x2 : Int32) (V : ai_V) (r : Int32), d_House_firstOf_2  n x1 x2 V = some r → Rn e 30 2 [(0, .ref 3), (1, .int x1), (2, .int x2)] [] (SH ++ X) V (some (.int r)) (SH ++ X) V := by
  intro n
  induction n with
  | zero =>
    intro x1 x2 V r h
    cases h
  | succ n ih =>
    intro x1 x2 V r h
    rw [d_House_firstOf_2] at h
    refine rn_go 3 (pc' := 7) (l' := [(0, .ref 3), (1, .int x1), (2, .int x2)]) (st' := [.int (gi V 3 0), .int x2]) (S1 := (SH ++ X)) (V1 := V) rfl ?_
    rcases ai_if h with ⟨hc, h⟩ | ⟨hc, h⟩
    · refine rn_brT rfl rfl rfl rfl hc ?_
      refine rn_go 1 (pc' := 28) (l' := [(0, .ref 3), (1, .int x1), (2, .int x2)]) (st' := [.int (-1 : Int32)]) (S1 := (SH ++ X)) (V1 := V) rfl ?_
      obtain rfl := Option.some.inj h
      exact rn_ret rfl rfl rfl
    · refine rn_brF rfl rfl rfl rfl hc ?_
      refine rn_go 6 (pc' := 16) (l' := [(0, .ref 3), (1, .int x1), (2, .int x2)]) (st' := [.int (1 : Int32), .int ((x1 >>> (x2 &&& 31)) &&& (1 : Int32))]) (S1 := (SH ++ X)) (V1 := V) rfl ?_
      rcases ai_if h with ⟨hc, h⟩ | ⟨hc, h⟩
      · refine rn_brT rfl rfl rfl rfl hc ?_
        refine rn_go 2 (pc' := 2) (l' := [(2, .int (x2 + (1 : Int32))), (0, .ref 3), (1, .int x1)]) (st' := []) (S1 := (SH ++ X)) (V1 := V) rfl ?_
        exact rn_sub [1, 2, 0] rfl rfl (ih x1 (x2 + (1 : Int32)) V _ h)
      · refine rn_brF rfl rfl rfl rfl hc ?_
        refine rn_go 1 (pc' := 20) (l' := [(0, .ref 3), (1, .int x1), (2, .int x2)]) (st' := [.int x2]) (S1 := (SH ++ X)) (V1 := V) rfl ?_
        obtain rfl := Option.some.inj h
        exact rn_ret rfl rfl rfl
def d_House_firstOf (x1 : Int32) (V : ai_V) : Option Int32 :=
  d_House_firstOf_2 ai_N x1 (0 : Int32) V
set_option maxRecDepth 20000 in
theorem t_House_firstOf {X : ai_S} {e : Nat} (hd : 0 ≤ e) {x1 : Int32} {V : ai_V} {r : Int32} (h : d_House_firstOf x1 V = some r) : Rn e 30 0 (lv_args 0 [.ref 3, .int x1]) [] (SH ++ X) V (some (.int r)) (SH ++ X) V := by
  rw [d_House_firstOf] at h
  refine rn_go 2 (pc' := 2) (l' := [(2, .int (0 : Int32)), (0, .ref 3), (1, .int x1)]) (st' := []) (S1 := (SH ++ X)) (V1 := V) rfl ?_
  exact rn_sub [1, 2, 0] rfl rfl (t_House_firstOf_2 (X := X) hd ai_N x1 (0 : Int32) V _ h)
-- RentByTheWheel$Pairing.part(III)V (69, None, None, None)
def d_Pairing_part_25 (T : Int32 → Int32 → Int32 → ai_V → Option ai_V)  (x2 : Int32) (V : ai_V) : Option ai_V :=
  if x2 ≤ (gi V 69 2) then (some V) else (some (ai_cpy (si V 69 2 x2) 71 70 ((0 : Int32)).toNatClampNeg ((0 : Int32)).toNatClampNeg ((6 : Int32)).toNatClampNeg))
set_option maxRecDepth 20000 in
theorem t_Pairing_part_25 (T : Int32 → Int32 → Int32 → ai_V → Option ai_V) (DT : Nat) (hT : ∀ {X : ai_S} {e : Nat}, DT ≤ e → ∀ (x1 : Int32) (x2 : Int32) (x3 : Int32) (V : ai_V) (r : ai_V), T x1 x2 x3 V = some r → Rn e 39 0 (lv_args 0 [.ref 69, .int x1, .int x2, .int x3]) [] (SH ++ X) V none (SH ++ X) r) {X : ai_S} {e : Nat} (hd : DT + 1 ≤ e ∧ 5 ≤ e)  (x2 : Int32) (V : ai_V) (r : ai_V) (h : d_Pairing_part_25 T  x2 V = some r) : Rn e 39 25 [(0, .ref 69), (2, .int x2)] [] (SH ++ X) V none (SH ++ X) r := by
  rw [d_Pairing_part_25] at h
  refine rn_go 3 (pc' := 30) (l' := [(0, .ref 69), (2, .int x2)]) (st' := [.int (gi V 69 2), .int x2]) (S1 := (SH ++ X)) (V1 := V) rfl ?_
  rcases ai_if h with ⟨hc, h⟩ | ⟨hc, h⟩
  · refine rn_brT rfl rfl rfl rfl hc ?_
    obtain rfl := Option.some.inj h
    exact rn_ret rfl rfl rfl
  · refine rn_brF rfl rfl rfl rfl hc ?_
    refine rn_go 10 (pc' := 50) (l' := [(0, .ref 69), (2, .int x2)]) (st' := [.int (6 : Int32), .int (0 : Int32), .ref 70, .int (0 : Int32), .ref 71]) (S1 := (SH ++ X)) (V1 := (si V 69 2 x2)) rfl ?_
    refine rg_acp (n := 6) (n1 := 6) rfl rfl rfl (by decide) (by decide) ?_
    obtain rfl := Option.some.inj h
    exact rn_ret rfl rfl rfl
def d_Pairing_part_171 (T : Int32 → Int32 → Int32 → ai_V → Option ai_V) (F88 : Int32 → Int32 → Int32 → Int32 → Int32 → ai_V → Option ai_V) (x2 : Int32) (x3 : Int32) (x4 : Int32) (x5 : Int32) (x6 : Int32) (V : ai_V) : Option ai_V :=
  F88 x2 x3 x4 x5 (x6 + (1 : Int32)) V
set_option maxRecDepth 20000 in
theorem t_Pairing_part_171 (T : Int32 → Int32 → Int32 → ai_V → Option ai_V) (DT : Nat) (hT : ∀ {X : ai_S} {e : Nat}, DT ≤ e → ∀ (x1 : Int32) (x2 : Int32) (x3 : Int32) (V : ai_V) (r : ai_V), T x1 x2 x3 V = some r → Rn e 39 0 (lv_args 0 [.ref 69, .int x1, .int x2, .int x3]) [] (SH ++ X) V none (SH ++ X) r) {X : ai_S} {e : Nat} (hd : DT + 1 ≤ e ∧ 5 ≤ e) (F88 : Int32 → Int32 → Int32 → Int32 → Int32 → ai_V → Option ai_V) (hF88 : ∀ (x2 : Int32) (x3 : Int32) (x4 : Int32) (x5 : Int32) (x6 : Int32) (V : ai_V) (r : ai_V), F88 x2 x3 x4 x5 x6 V = some r → Rn e 39 88 [(0, .ref 69), (2, .int x2), (3, .int x3), (4, .int x4), (5, .int x5), (6, .int x6)] [] (SH ++ X) V none (SH ++ X) r) (x2 : Int32) (x3 : Int32) (x4 : Int32) (x5 : Int32) (x6 : Int32) (V : ai_V) (r : ai_V) (h : d_Pairing_part_171 T F88 x2 x3 x4 x5 x6 V = some r) : Rn e 39 171 [(0, .ref 69), (2, .int x2), (3, .int x3), (4, .int x4), (5, .int x5), (6, .int x6)] [] (SH ++ X) V none (SH ++ X) r := by
  rw [d_Pairing_part_171] at h
  refine rn_go 2 (pc' := 88) (l' := [(6, .int (x6 + (1 : Int32))), (0, .ref 69), (2, .int x2), (3, .int x3), (4, .int x4), (5, .int x5)]) (st' := []) (S1 := (SH ++ X)) (V1 := V) rfl ?_
  exact rn_sub [1, 2, 3, 4, 5, 0] rfl rfl (hF88 x2 x3 x4 x5 (x6 + (1 : Int32)) V _ h)
def d_Pairing_part_88 (T : Int32 → Int32 → Int32 → ai_V → Option ai_V)  : Nat → Int32 → Int32 → Int32 → Int32 → Int32 → ai_V → Option ai_V
  | 0, _, _, _, _, _, _ => none
  | n + 1, x2, x3, x4, x5, x6, V => if (6 : Int32) ≤ x6 then (some V) else (if ¬ ((x5 >>> (x6 &&& 31)) &&& (1 : Int32)) = (1 : Int32) then (d_Pairing_part_171 T (d_Pairing_part_88 T n) x2 x3 x4 x5 x6 V) else (if ai_in x4 6 then (if ai_in x6 6 then ((d_Wheel_together x4 x6 (sa (sa V 71 (x4).toNatClampNeg x6) 71 (x6).toNatClampNeg x4)).bind fun q1 => ((T (x5 ^^^ ((1 : Int32) <<< (x6 &&& 31))) (x2 + q1.1) (x3 + (1 : Int32)) q1.2).bind fun q2 => (if ai_in x4 6 then (if ai_in x6 6 then (d_Pairing_part_171 T (d_Pairing_part_88 T n) x2 x3 x4 x5 x6 (sa (sa q2 71 (x4).toNatClampNeg (-1 : Int32)) 71 (x6).toNatClampNeg (-1 : Int32))) else none) else none))) else none) else none))
set_option maxRecDepth 20000 in
theorem t_Pairing_part_88 (T : Int32 → Int32 → Int32 → ai_V → Option ai_V) (DT : Nat) (hT : ∀ {X : ai_S} {e : Nat}, DT ≤ e → ∀ (x1 : Int32) (x2 : Int32) (x3 : Int32) (V : ai_V) (r : ai_V), T x1 x2 x3 V = some r → Rn e 39 0 (lv_args 0 [.ref 69, .int x1, .int x2, .int x3]) [] (SH ++ X) V none (SH ++ X) r) {X : ai_S} {e : Nat} (hd : DT + 1 ≤ e ∧ 5 ≤ e)  : ∀ (n : Nat) (x2 : Int32) (x3 : Int32) (x4 : Int32) (x5 : Int32) (x6 : Int32) (V : ai_V) (r : ai_V), d_Pairing_part_88 T  n x2 x3 x4 x5 x6 V = some r → Rn e 39 88 [(0, .ref 69), (2, .int x2), (3, .int x3), (4, .int x4), (5, .int x5), (6, .int x6)] [] (SH ++ X) V none (SH ++ X) r := by
  intro n
  induction n with
  | zero =>
    intro x2 x3 x4 x5 x6 V r h
    cases h
  | succ n ih =>
    intro x2 x3 x4 x5 x6 V r h
    rw [d_Pairing_part_88] at h
    refine rn_go 2 (pc' := 92) (l' := [(0, .ref 69), (2, .int x2), (3, .int x3), (4, .int x4), (5, .int x5), (6, .int x6)]) (st' := [.int (6 : Int32), .int x6]) (S1 := (SH ++ X)) (V1 := V) rfl ?_
    rcases ai_if h with ⟨hc, h⟩ | ⟨hc, h⟩
    · refine rn_brT rfl rfl rfl rfl hc ?_
      obtain rfl := Option.some.inj h
      exact rn_ret rfl rfl rfl
    · refine rn_brF rfl rfl rfl rfl hc ?_
      refine rn_go 6 (pc' := 103) (l' := [(0, .ref 69), (2, .int x2), (3, .int x3), (4, .int x4), (5, .int x5), (6, .int x6)]) (st' := [.int (1 : Int32), .int ((x5 >>> (x6 &&& 31)) &&& (1 : Int32))]) (S1 := (SH ++ X)) (V1 := V) rfl ?_
      rcases ai_if h with ⟨hc, h⟩ | ⟨hc, h⟩
      · refine rn_brT rfl rfl rfl rfl hc ?_
        exact rn_sub [0, 1, 2, 3, 4, 5] rfl rfl (t_Pairing_part_171 T DT hT (X := X) hd (d_Pairing_part_88 T n) (ih) x2 x3 x4 x5 x6 V _ h)
      · refine rn_brF rfl rfl rfl rfl hc ?_
        refine rn_go 4 (pc' := 114) (l' := [(0, .ref 69), (2, .int x2), (3, .int x3), (4, .int x4), (5, .int x5), (6, .int x6)]) (st' := [.int x6, .int x4, .ref 71]) (S1 := (SH ++ X)) (V1 := V) rfl ?_
        obtain ⟨hg, h⟩ := ai_gd h
        refine rg_iast (n := 6) rfl rfl hg ?_
        refine rn_go 4 (pc' := 123) (l' := [(0, .ref 69), (2, .int x2), (3, .int x3), (4, .int x4), (5, .int x5), (6, .int x6)]) (st' := [.int x4, .int x6, .ref 71]) (S1 := (SH ++ X)) (V1 := (sa V 71 (x4).toNatClampNeg x6)) rfl ?_
        obtain ⟨hg, h⟩ := ai_gd h
        refine rg_iast (n := 6) rfl rfl hg ?_
        refine rn_go 13 (pc' := 145) (l' := [(0, .ref 69), (2, .int x2), (3, .int x3), (4, .int x4), (5, .int x5), (6, .int x6)]) (st' := [.ref 16, .int x6, .int x4, .ref 15, .int x2, .int (x5 ^^^ ((1 : Int32) <<< (x6 &&& 31))), .ref 69]) (S1 := (SH ++ X)) (V1 := (sa (sa V 71 (x4).toNatClampNeg x6) 71 (x6).toNatClampNeg x4)) rfl ?_
        obtain ⟨q1, hq1, h⟩ := ai_bd h
        refine rn_call rfl rfl rfl rfl rfl rfl (by omega) (t_Wheel_together (by omega) hq1) ?_
        refine rn_go 4 (pc' := 152) (l' := [(0, .ref 69), (2, .int x2), (3, .int x3), (4, .int x4), (5, .int x5), (6, .int x6)]) (st' := [.int (x3 + (1 : Int32)), .int (x2 + q1.1), .int (x5 ^^^ ((1 : Int32) <<< (x6 &&& 31))), .ref 69]) (S1 := (SH ++ X)) (V1 := q1.2) rfl ?_
        obtain ⟨q2, hq2, h⟩ := ai_bd h
        refine rn_call rfl rfl rfl rfl rfl rfl (by omega) (hT (by omega) (x5 ^^^ ((1 : Int32) <<< (x6 &&& 31))) (x2 + q1.1) (x3 + (1 : Int32)) q1.2 _ hq2) ?_
        refine rn_go 4 (pc' := 162) (l' := [(0, .ref 69), (2, .int x2), (3, .int x3), (4, .int x4), (5, .int x5), (6, .int x6)]) (st' := [.int (-1 : Int32), .int x4, .ref 71]) (S1 := (SH ++ X)) (V1 := q2) rfl ?_
        obtain ⟨hg, h⟩ := ai_gd h
        refine rg_iast (n := 6) rfl rfl hg ?_
        refine rn_go 4 (pc' := 170) (l' := [(0, .ref 69), (2, .int x2), (3, .int x3), (4, .int x4), (5, .int x5), (6, .int x6)]) (st' := [.int (-1 : Int32), .int x6, .ref 71]) (S1 := (SH ++ X)) (V1 := (sa q2 71 (x4).toNatClampNeg (-1 : Int32))) rfl ?_
        obtain ⟨hg, h⟩ := ai_gd h
        refine rg_iast (n := 6) rfl rfl hg ?_
        exact rn_sub [0, 1, 2, 3, 4, 5] rfl rfl (t_Pairing_part_171 T DT hT (X := X) hd (d_Pairing_part_88 T n) (ih) x2 x3 x4 x5 x6 (sa (sa q2 71 (x4).toNatClampNeg (-1 : Int32)) 71 (x6).toNatClampNeg (-1 : Int32)) _ h)
def d_Pairing_part_82 (T : Int32 → Int32 → Int32 → ai_V → Option ai_V)  (x2 : Int32) (x3 : Int32) (x4 : Int32) (x5 : Int32) (V : ai_V) : Option ai_V :=
  d_Pairing_part_88 T ai_N x2 x3 x4 x5 (x4 + (1 : Int32)) V
set_option maxRecDepth 20000 in
theorem t_Pairing_part_82 (T : Int32 → Int32 → Int32 → ai_V → Option ai_V) (DT : Nat) (hT : ∀ {X : ai_S} {e : Nat}, DT ≤ e → ∀ (x1 : Int32) (x2 : Int32) (x3 : Int32) (V : ai_V) (r : ai_V), T x1 x2 x3 V = some r → Rn e 39 0 (lv_args 0 [.ref 69, .int x1, .int x2, .int x3]) [] (SH ++ X) V none (SH ++ X) r) {X : ai_S} {e : Nat} (hd : DT + 1 ≤ e ∧ 5 ≤ e)  (x2 : Int32) (x3 : Int32) (x4 : Int32) (x5 : Int32) (V : ai_V) (r : ai_V) (h : d_Pairing_part_82 T  x2 x3 x4 x5 V = some r) : Rn e 39 82 [(0, .ref 69), (2, .int x2), (3, .int x3), (4, .int x4), (5, .int x5)] [] (SH ++ X) V none (SH ++ X) r := by
  rw [d_Pairing_part_82] at h
  refine rn_go 4 (pc' := 88) (l' := [(6, .int (x4 + (1 : Int32))), (0, .ref 69), (2, .int x2), (3, .int x3), (4, .int x4), (5, .int x5)]) (st' := []) (S1 := (SH ++ X)) (V1 := V) rfl ?_
  exact rn_sub [1, 2, 3, 4, 5, 0] rfl rfl (t_Pairing_part_88 T DT hT (X := X) hd ai_N x2 x3 x4 x5 (x4 + (1 : Int32)) V _ h)
def d_Pairing_part_B (T : Int32 → Int32 → Int32 → ai_V → Option ai_V) (x1 : Int32) (x2 : Int32) (x3 : Int32) (V : ai_V) : Option ai_V :=
  (d_House_firstOf x1 V).bind fun q3 => (if q3 = (-1 : Int32) then (d_Pairing_part_25 T x2 V) else (if x3 < (6 : Int32) then ((d_Int_bitCount x1 V).bind fun q4 => (if ¬ (q4 &&& (1 : Int32)) = (1 : Int32) then (d_Pairing_part_82 T x2 x3 q3 (x1 ^^^ ((1 : Int32) <<< (q3 &&& 31))) V) else ((T (x1 ^^^ ((1 : Int32) <<< (q3 &&& 31))) x2 (x3 + (1 : Int32)) V).bind fun q5 => (d_Pairing_part_82 T x2 x3 q3 (x1 ^^^ ((1 : Int32) <<< (q3 &&& 31))) q5)))) else (d_Pairing_part_25 T x2 V)))
set_option maxRecDepth 20000 in
theorem t_Pairing_part_B (T : Int32 → Int32 → Int32 → ai_V → Option ai_V) (DT : Nat) (hT : ∀ {X : ai_S} {e : Nat}, DT ≤ e → ∀ (x1 : Int32) (x2 : Int32) (x3 : Int32) (V : ai_V) (r : ai_V), T x1 x2 x3 V = some r → Rn e 39 0 (lv_args 0 [.ref 69, .int x1, .int x2, .int x3]) [] (SH ++ X) V none (SH ++ X) r) {X : ai_S} {e : Nat} (hd : DT + 1 ≤ e ∧ 5 ≤ e) {x1 : Int32} {x2 : Int32} {x3 : Int32} {V : ai_V} {r : ai_V} (h : d_Pairing_part_B T x1 x2 x3 V = some r) : Rn e 39 0 (lv_args 0 [.ref 69, .int x1, .int x2, .int x3]) [] (SH ++ X) V none (SH ++ X) r := by
  rw [d_Pairing_part_B] at h
  refine rn_go 4 (pc' := 8) (l' := [(0, .ref 69), (1, .int x1), (2, .int x2), (3, .int x3)]) (st' := [.int x1, .ref 3]) (S1 := (SH ++ X)) (V1 := V) rfl ?_
  obtain ⟨q3, hq3, h⟩ := ai_bd h
  refine rn_call rfl rfl rfl rfl rfl rfl (by omega) (t_House_firstOf (by omega) hq3) ?_
  refine rn_go 3 (pc' := 16) (l' := [(4, .int q3), (0, .ref 69), (1, .int x1), (2, .int x2), (3, .int x3)]) (st' := [.int (-1 : Int32), .int q3]) (S1 := (SH ++ X)) (V1 := V) rfl ?_
  rcases ai_if h with ⟨hc, h⟩ | ⟨hc, h⟩
  · refine rn_brT rfl rfl rfl rfl hc ?_
    exact rn_sub [1, 3] rfl rfl (t_Pairing_part_25 T DT hT (X := X) hd x2 V _ h)
  · refine rn_brF rfl rfl rfl rfl hc ?_
    refine rn_go 2 (pc' := 22) (l' := [(4, .int q3), (0, .ref 69), (1, .int x1), (2, .int x2), (3, .int x3)]) (st' := [.int (6 : Int32), .int x3]) (S1 := (SH ++ X)) (V1 := V) rfl ?_
    rcases ai_if h with ⟨hc, h⟩ | ⟨hc, h⟩
    · refine rn_brT rfl rfl rfl rfl hc ?_
      refine rn_go 7 (pc' := 63) (l' := [(5, .int (x1 ^^^ ((1 : Int32) <<< (q3 &&& 31)))), (4, .int q3), (0, .ref 69), (1, .int x1), (2, .int x2), (3, .int x3)]) (st' := [.int x1]) (S1 := (SH ++ X)) (V1 := V) rfl ?_
      obtain ⟨q4, hq4, h⟩ := ai_bd h
      refine rn_call rfl rfl rfl rfl rfl rfl (by omega) (t_Int_bitCount (by omega) hq4) ?_
      refine rn_go 3 (pc' := 69) (l' := [(5, .int (x1 ^^^ ((1 : Int32) <<< (q3 &&& 31)))), (4, .int q3), (0, .ref 69), (1, .int x1), (2, .int x2), (3, .int x3)]) (st' := [.int (1 : Int32), .int (q4 &&& (1 : Int32))]) (S1 := (SH ++ X)) (V1 := V) rfl ?_
      rcases ai_if h with ⟨hc, h⟩ | ⟨hc, h⟩
      · refine rn_brT rfl rfl rfl rfl hc ?_
        exact rn_sub [2, 4, 5, 1, 0] rfl rfl (t_Pairing_part_82 T DT hT (X := X) hd x2 x3 q3 (x1 ^^^ ((1 : Int32) <<< (q3 &&& 31))) V _ h)
      · refine rn_brF rfl rfl rfl rfl hc ?_
        refine rn_go 6 (pc' := 79) (l' := [(5, .int (x1 ^^^ ((1 : Int32) <<< (q3 &&& 31)))), (4, .int q3), (0, .ref 69), (1, .int x1), (2, .int x2), (3, .int x3)]) (st' := [.int (x3 + (1 : Int32)), .int x2, .int (x1 ^^^ ((1 : Int32) <<< (q3 &&& 31))), .ref 69]) (S1 := (SH ++ X)) (V1 := V) rfl ?_
        obtain ⟨q5, hq5, h⟩ := ai_bd h
        refine rn_call rfl rfl rfl rfl rfl rfl (by omega) (hT (by omega) (x1 ^^^ ((1 : Int32) <<< (q3 &&& 31))) x2 (x3 + (1 : Int32)) V _ hq5) ?_
        exact rn_sub [2, 4, 5, 1, 0] rfl rfl (t_Pairing_part_82 T DT hT (X := X) hd x2 x3 q3 (x1 ^^^ ((1 : Int32) <<< (q3 &&& 31))) q5 _ h)
    · refine rn_brF rfl rfl rfl rfl hc ?_
      exact rn_sub [1, 3] rfl rfl (t_Pairing_part_25 T DT hT (X := X) hd x2 V _ h)
def d_Pairing_part_R : Nat → Int32 → Int32 → Int32 → ai_V → Option ai_V
  | 0, _, _, _, _ => none
  | n + 1, x1, x2, x3, V => d_Pairing_part_B (d_Pairing_part_R n) x1 x2 x3 V
theorem t_Pairing_part_R : ∀ (n : Nat) {X : ai_S} {e : Nat} (hd : n * 1 + 5 ≤ e) (x1 : Int32) (x2 : Int32) (x3 : Int32) (V : ai_V) (r : ai_V), d_Pairing_part_R n x1 x2 x3 V = some r → Rn e 39 0 (lv_args 0 [.ref 69, .int x1, .int x2, .int x3]) [] (SH ++ X) V none (SH ++ X) r := by
  intro n
  induction n with
  | zero =>
    intro X e hd x1 x2 x3 V r h
    cases h
  | succ n ih =>
    intro X e hd x1 x2 x3 V r h
    exact t_Pairing_part_B (d_Pairing_part_R n) (n * 1 + 5) (fun hd2 => ih hd2) (by omega) (show d_Pairing_part_B (d_Pairing_part_R n) x1 x2 x3 V = some r from h)
def d_Pairing_part : Int32 → Int32 → Int32 → ai_V → Option ai_V := d_Pairing_part_R 80
theorem t_Pairing_part {X : ai_S} {e : Nat} (hd : 85 ≤ e) {x1 : Int32} {x2 : Int32} {x3 : Int32} {V : ai_V} {r : ai_V} (h : d_Pairing_part x1 x2 x3 V = some r) : Rn e 39 0 (lv_args 0 [.ref 69, .int x1, .int x2, .int x3]) [] (SH ++ X) V none (SH ++ X) r := t_Pairing_part_R 80 (by omega) x1 x2 x3 V r h
-- RentByTheWheel$Pairing.partAll(I)V (69, None)
def d_Pairing_partAll (x1 : Int32) (V : ai_V) : Option ai_V :=
  (d_Arr_fill (-1 : Int32) (si V 69 2 (-1 : Int32))).bind fun q1 => ((d_Arr_fill_70 (-1 : Int32) q1).bind fun q2 => ((d_Pairing_part x1 (0 : Int32) (0 : Int32) q2).bind fun q3 => (some q3)))
set_option maxRecDepth 20000 in
theorem t_Pairing_partAll {X : ai_S} {e : Nat} (hd : 86 ≤ e) {x1 : Int32} {V : ai_V} {r : ai_V} (h : d_Pairing_partAll x1 V = some r) : Rn e 40 0 (lv_args 0 [.ref 69, .int x1]) [] (SH ++ X) V none (SH ++ X) r := by
  rw [d_Pairing_partAll] at h
  refine rn_go 6 (pc' := 10) (l' := [(0, .ref 69), (1, .int x1)]) (st' := [.int (-1 : Int32), .ref 71]) (S1 := (SH ++ X)) (V1 := (si V 69 2 (-1 : Int32))) rfl ?_
  obtain ⟨q1, hq1, h⟩ := ai_bd h
  refine rn_call rfl rfl rfl rfl rfl rfl (by omega) (t_Arr_fill (by omega) hq1) ?_
  refine rn_go 3 (pc' := 18) (l' := [(0, .ref 69), (1, .int x1)]) (st' := [.int (-1 : Int32), .ref 70]) (S1 := (SH ++ X)) (V1 := q1) rfl ?_
  obtain ⟨q2, hq2, h⟩ := ai_bd h
  refine rn_call rfl rfl rfl rfl rfl rfl (by omega) (t_Arr_fill_70 (by omega) hq2) ?_
  refine rn_go 4 (pc' := 25) (l' := [(0, .ref 69), (1, .int x1)]) (st' := [.int (0 : Int32), .int (0 : Int32), .int x1, .ref 69]) (S1 := (SH ++ X)) (V1 := q2) rfl ?_
  obtain ⟨q3, hq3, h⟩ := ai_bd h
  refine rn_call rfl rfl rfl rfl rfl rfl (by omega) (t_Pairing_part (by omega) hq3) ?_
  obtain rfl := Option.some.inj h
  exact rn_ret rfl rfl rfl
-- RentByTheWheel.pairs(I)I (0, None)
def d_X_pairs_30  : Nat → Int32 → ai_V → Option (Int32 × ai_V)
  | 0, _, _ => none
  | n + 1, x2, V => if (gi V 3 0) ≤ x2 then (some ((gi V 69 2), V)) else (if ai_in x2 6 then ((d_Row_add (((ga V 70 (x2).toNatClampNeg)).toInt64) V).bind fun q1 => (d_X_pairs_30 n (x2 + (1 : Int32)) q1)) else none)
set_option maxRecDepth 20000 in
theorem t_X_pairs_30 {X : ai_S} {e : Nat} (hd : 87 ≤ e)  : ∀ (n : Nat) (x2 : Int32) (V : ai_V) (r : (Int32 × ai_V)), d_X_pairs_30  n x2 V = some r → Rn e 131 30 [(0, .ref 0), (2, .int x2)] [] (SH ++ X) V (some (.int r.1)) (SH ++ X) r.2 := by
  intro n
  induction n with
  | zero =>
    intro x2 V r h
    cases h
  | succ n ih =>
    intro x2 V r h
    rw [d_X_pairs_30] at h
    refine rn_go 4 (pc' := 38) (l' := [(0, .ref 0), (2, .int x2)]) (st' := [.int (gi V 3 0), .int x2]) (S1 := (SH ++ X)) (V1 := V) rfl ?_
    rcases ai_if h with ⟨hc, h⟩ | ⟨hc, h⟩
    · refine rn_brT rfl rfl rfl rfl hc ?_
      refine rn_go 3 (pc' := 71) (l' := [(0, .ref 0), (2, .int x2)]) (st' := [.int (gi V 69 2)]) (S1 := (SH ++ X)) (V1 := V) rfl ?_
      obtain rfl := Option.some.inj h
      exact rn_ret rfl rfl rfl
    · refine rn_brF rfl rfl rfl rfl hc ?_
      refine rn_go 6 (pc' := 53) (l' := [(0, .ref 0), (2, .int x2)]) (st' := [.int x2, .ref 70, .ref 22]) (S1 := (SH ++ X)) (V1 := V) rfl ?_
      obtain ⟨hg, h⟩ := ai_gd h
      refine rg_iald (n := 6) rfl rfl hg ?_
      refine rn_go 1 (pc' := 55) (l' := [(0, .ref 0), (2, .int x2)]) (st' := [.long ((ga V 70 (x2).toNatClampNeg)).toInt64, .ref 22]) (S1 := (SH ++ X)) (V1 := V) rfl ?_
      obtain ⟨q1, hq1, h⟩ := ai_bd h
      refine rn_call rfl rfl rfl rfl rfl rfl (by omega) (t_Row_add (by omega) hq1) ?_
      refine rn_go 2 (pc' := 30) (l' := [(2, .int (x2 + (1 : Int32))), (0, .ref 0)]) (st' := []) (S1 := (SH ++ X)) (V1 := q1) rfl ?_
      exact rn_sub [1, 0] rfl rfl (ih (x2 + (1 : Int32)) q1 _ h)
def d_X_pairs (x1 : Int32) (V : ai_V) : Option (Int32 × ai_V) :=
  (d_House_hasAll x1 V).bind fun q2 => (if ¬ q2 = 0 then ((d_Pairing_partAll x1 V).bind fun q3 => ((d_Row_clear  q3).bind fun q4 => (d_X_pairs_30 ai_N (0 : Int32) q4))) else (some ((-1 : Int32), V)))
set_option maxRecDepth 20000 in
theorem t_X_pairs {X : ai_S} {e : Nat} (hd : 87 ≤ e) {x1 : Int32} {V : ai_V} {r : (Int32 × ai_V)} (h : d_X_pairs x1 V = some r) : Rn e 131 0 (lv_args 0 [.ref 0, .int x1]) [] (SH ++ X) V (some (.int r.1)) (SH ++ X) r.2 := by
  rw [d_X_pairs] at h
  refine rn_go 3 (pc' := 5) (l' := [(0, .ref 0), (1, .int x1)]) (st' := [.int x1, .ref 3]) (S1 := (SH ++ X)) (V1 := V) rfl ?_
  obtain ⟨q2, hq2, h⟩ := ai_bd h
  refine rn_call rfl rfl rfl rfl rfl rfl (by omega) (t_House_hasAll (by omega) hq2) ?_
  rcases ai_if h with ⟨hc, h⟩ | ⟨hc, h⟩
  · refine rn_brT rfl rfl rfl rfl hc ?_
    refine rn_go 3 (pc' := 18) (l' := [(0, .ref 0), (1, .int x1)]) (st' := [.int x1, .ref 69]) (S1 := (SH ++ X)) (V1 := V) rfl ?_
    obtain ⟨q3, hq3, h⟩ := ai_bd h
    refine rn_call rfl rfl rfl rfl rfl rfl (by omega) (t_Pairing_partAll (by omega) hq3) ?_
    refine rn_go 2 (pc' := 25) (l' := [(0, .ref 0), (1, .int x1)]) (st' := [.ref 22]) (S1 := (SH ++ X)) (V1 := q3) rfl ?_
    obtain ⟨q4, hq4, h⟩ := ai_bd h
    refine rn_call rfl rfl rfl rfl rfl rfl (by omega) (t_Row_clear (by omega) hq4) ?_
    refine rn_go 2 (pc' := 30) (l' := [(2, .int (0 : Int32)), (0, .ref 0), (1, .int x1)]) (st' := []) (S1 := (SH ++ X)) (V1 := q4) rfl ?_
    exact rn_sub [1, 0] rfl rfl (t_X_pairs_30 (X := X) hd ai_N (0 : Int32) q4 _ h)
  · refine rn_brF rfl rfl rfl rfl hc ?_
    refine rn_go 1 (pc' := 12) (l' := [(0, .ref 0), (1, .int x1)]) (st' := [.int (-1 : Int32)]) (S1 := (SH ++ X)) (V1 := V) rfl ?_
    obtain rfl := Option.some.inj h
    exact rn_ret rfl rfl rfl
-- RentByTheWheel.enough(I)I (0, None)
def d_X_enough_108 (F27 : Int32 → Int32 → Int32 → Int32 → ai_V → Option (Int32 × ai_V)) (F45 : Int32 → Int32 → Int32 → Int32 → Int32 → ai_V → Option (Int32 × ai_V)) (x1 : Int32) (x2 : Int32) (x3 : Int32) (x4 : Int32) (x5 : Int32) (V : ai_V) : Option (Int32 × ai_V) :=
  F45 x1 x2 x3 x4 (x5 + (1 : Int32)) V
set_option maxRecDepth 20000 in
theorem t_X_enough_108 {X : ai_S} {e : Nat} (hd : 5 ≤ e) (F27 : Int32 → Int32 → Int32 → Int32 → ai_V → Option (Int32 × ai_V)) (hF27 : ∀ (x1 : Int32) (x2 : Int32) (x3 : Int32) (x4 : Int32) (V : ai_V) (r : (Int32 × ai_V)), F27 x1 x2 x3 x4 V = some r → Rn e 132 27 [(0, .ref 0), (1, .int x1), (2, .int x2), (3, .int x3), (4, .int x4)] [] (SH ++ X) V (some (.int r.1)) (SH ++ X) r.2) (F45 : Int32 → Int32 → Int32 → Int32 → Int32 → ai_V → Option (Int32 × ai_V)) (hF45 : ∀ (x1 : Int32) (x2 : Int32) (x3 : Int32) (x4 : Int32) (x5 : Int32) (V : ai_V) (r : (Int32 × ai_V)), F45 x1 x2 x3 x4 x5 V = some r → Rn e 132 45 [(0, .ref 0), (1, .int x1), (2, .int x2), (3, .int x3), (4, .int x4), (5, .int x5)] [] (SH ++ X) V (some (.int r.1)) (SH ++ X) r.2) (x1 : Int32) (x2 : Int32) (x3 : Int32) (x4 : Int32) (x5 : Int32) (V : ai_V) (r : (Int32 × ai_V)) (h : d_X_enough_108 F27 F45 x1 x2 x3 x4 x5 V = some r) : Rn e 132 108 [(0, .ref 0), (1, .int x1), (2, .int x2), (3, .int x3), (4, .int x4), (5, .int x5)] [] (SH ++ X) V (some (.int r.1)) (SH ++ X) r.2 := by
  rw [d_X_enough_108] at h
  refine rn_go 2 (pc' := 45) (l' := [(5, .int (x5 + (1 : Int32))), (0, .ref 0), (1, .int x1), (2, .int x2), (3, .int x3), (4, .int x4)]) (st' := []) (S1 := (SH ++ X)) (V1 := V) rfl ?_
  exact rn_sub [1, 2, 3, 4, 5, 0] rfl rfl (hF45 x1 x2 x3 x4 (x5 + (1 : Int32)) V _ h)
def d_X_enough_45 (F27 : Int32 → Int32 → Int32 → Int32 → ai_V → Option (Int32 × ai_V)) : Nat → Int32 → Int32 → Int32 → Int32 → Int32 → ai_V → Option (Int32 × ai_V)
  | 0, _, _, _, _, _, _ => none
  | n + 1, x1, x2, x3, x4, x5, V => if (gi V 3 0) ≤ x5 then (F27 x1 x2 x3 (x4 + (1 : Int32)) V) else ((d_Wheel_together x4 x5 V).bind fun q1 => (if q1.1 < x1 then (d_X_enough_108 F27 (d_X_enough_45 F27 n) x1 x2 (ai_max x3 q1.1) x4 x5 q1.2) else (if ¬ (x2 + (1 : Int32)) = (1 : Int32) then (d_X_enough_108 F27 (d_X_enough_45 F27 n) x1 (x2 + (1 : Int32)) (ai_max x3 q1.1) x4 x5 q1.2) else ((d_Row_tellTwo (x4).toInt64 (x5).toInt64 q1.2).bind fun q2 => (d_X_enough_108 F27 (d_X_enough_45 F27 n) x1 (x2 + (1 : Int32)) (ai_max x3 q1.1) x4 x5 q2)))))
set_option maxRecDepth 20000 in
theorem t_X_enough_45 {X : ai_S} {e : Nat} (hd : 5 ≤ e) (F27 : Int32 → Int32 → Int32 → Int32 → ai_V → Option (Int32 × ai_V)) (hF27 : ∀ (x1 : Int32) (x2 : Int32) (x3 : Int32) (x4 : Int32) (V : ai_V) (r : (Int32 × ai_V)), F27 x1 x2 x3 x4 V = some r → Rn e 132 27 [(0, .ref 0), (1, .int x1), (2, .int x2), (3, .int x3), (4, .int x4)] [] (SH ++ X) V (some (.int r.1)) (SH ++ X) r.2) : ∀ (n : Nat) (x1 : Int32) (x2 : Int32) (x3 : Int32) (x4 : Int32) (x5 : Int32) (V : ai_V) (r : (Int32 × ai_V)), d_X_enough_45 F27 n x1 x2 x3 x4 x5 V = some r → Rn e 132 45 [(0, .ref 0), (1, .int x1), (2, .int x2), (3, .int x3), (4, .int x4), (5, .int x5)] [] (SH ++ X) V (some (.int r.1)) (SH ++ X) r.2 := by
  intro n
  induction n with
  | zero =>
    intro x1 x2 x3 x4 x5 V r h
    cases h
  | succ n ih =>
    intro x1 x2 x3 x4 x5 V r h
    rw [d_X_enough_45] at h
    refine rn_go 4 (pc' := 54) (l' := [(0, .ref 0), (1, .int x1), (2, .int x2), (3, .int x3), (4, .int x4), (5, .int x5)]) (st' := [.int (gi V 3 0), .int x5]) (S1 := (SH ++ X)) (V1 := V) rfl ?_
    rcases ai_if h with ⟨hc, h⟩ | ⟨hc, h⟩
    · refine rn_brT rfl rfl rfl rfl hc ?_
      refine rn_go 2 (pc' := 27) (l' := [(4, .int (x4 + (1 : Int32))), (0, .ref 0), (1, .int x1), (2, .int x2), (3, .int x3), (5, .int x5)]) (st' := []) (S1 := (SH ++ X)) (V1 := V) rfl ?_
      exact rn_sub [1, 2, 3, 4, 0] rfl rfl (hF27 x1 x2 x3 (x4 + (1 : Int32)) V _ h)
    · refine rn_brF rfl rfl rfl rfl hc ?_
      refine rn_go 6 (pc' := 69) (l' := [(0, .ref 0), (1, .int x1), (2, .int x2), (3, .int x3), (4, .int x4), (5, .int x5)]) (st' := [.ref 16, .int x5, .int x4, .ref 15]) (S1 := (SH ++ X)) (V1 := V) rfl ?_
      obtain ⟨q1, hq1, h⟩ := ai_bd h
      refine rn_call rfl rfl rfl rfl rfl rfl (by omega) (t_Wheel_together (by omega) hq1) ?_
      refine rn_go 7 (pc' := 84) (l' := [(3, .int (ai_max x3 q1.1)), (6, .int q1.1), (0, .ref 0), (1, .int x1), (2, .int x2), (4, .int x4), (5, .int x5)]) (st' := [.int x1, .int q1.1]) (S1 := (SH ++ X)) (V1 := q1.2) rfl ?_
      rcases ai_if h with ⟨hc, h⟩ | ⟨hc, h⟩
      · refine rn_brT rfl rfl rfl rfl hc ?_
        exact rn_sub [2, 3, 4, 0, 5, 6] rfl rfl (t_X_enough_108 (X := X) hd F27 hF27 (d_X_enough_45 F27 n) (ih) x1 x2 (ai_max x3 q1.1) x4 x5 q1.2 _ h)
      · refine rn_brF rfl rfl rfl rfl hc ?_
        refine rn_go 3 (pc' := 92) (l' := [(2, .int (x2 + (1 : Int32))), (3, .int (ai_max x3 q1.1)), (6, .int q1.1), (0, .ref 0), (1, .int x1), (4, .int x4), (5, .int x5)]) (st' := [.int (1 : Int32), .int (x2 + (1 : Int32))]) (S1 := (SH ++ X)) (V1 := q1.2) rfl ?_
        rcases ai_if h with ⟨hc, h⟩ | ⟨hc, h⟩
        · refine rn_brT rfl rfl rfl rfl hc ?_
          exact rn_sub [3, 4, 0, 1, 5, 6] rfl rfl (t_X_enough_108 (X := X) hd F27 hF27 (d_X_enough_45 F27 n) (ih) x1 (x2 + (1 : Int32)) (ai_max x3 q1.1) x4 x5 q1.2 _ h)
        · refine rn_brF rfl rfl rfl rfl hc ?_
          refine rn_go 6 (pc' := 105) (l' := [(2, .int (x2 + (1 : Int32))), (3, .int (ai_max x3 q1.1)), (6, .int q1.1), (0, .ref 0), (1, .int x1), (4, .int x4), (5, .int x5)]) (st' := [.long (x5).toInt64, .long (x4).toInt64, .ref 22]) (S1 := (SH ++ X)) (V1 := q1.2) rfl ?_
          obtain ⟨q2, hq2, h⟩ := ai_bd h
          refine rn_call rfl rfl rfl rfl rfl rfl (by omega) (t_Row_tellTwo (by omega) hq2) ?_
          exact rn_sub [3, 4, 0, 1, 5, 6] rfl rfl (t_X_enough_108 (X := X) hd F27 hF27 (d_X_enough_45 F27 n) (ih) x1 (x2 + (1 : Int32)) (ai_max x3 q1.1) x4 x5 q2 _ h)
def d_X_enough_27  : Nat → Int32 → Int32 → Int32 → Int32 → ai_V → Option (Int32 × ai_V)
  | 0, _, _, _, _, _ => none
  | n + 1, x1, x2, x3, x4, V => if (gi V 3 0) ≤ x4 then ((d_Row_add (x3).toInt64 V).bind fun q3 => (some (x2, q3))) else (d_X_enough_45 (d_X_enough_27 n) ai_N x1 x2 x3 x4 (x4 + (1 : Int32)) V)
set_option maxRecDepth 20000 in
theorem t_X_enough_27 {X : ai_S} {e : Nat} (hd : 5 ≤ e)  : ∀ (n : Nat) (x1 : Int32) (x2 : Int32) (x3 : Int32) (x4 : Int32) (V : ai_V) (r : (Int32 × ai_V)), d_X_enough_27  n x1 x2 x3 x4 V = some r → Rn e 132 27 [(0, .ref 0), (1, .int x1), (2, .int x2), (3, .int x3), (4, .int x4)] [] (SH ++ X) V (some (.int r.1)) (SH ++ X) r.2 := by
  intro n
  induction n with
  | zero =>
    intro x1 x2 x3 x4 V r h
    cases h
  | succ n ih =>
    intro x1 x2 x3 x4 V r h
    rw [d_X_enough_27] at h
    refine rn_go 4 (pc' := 36) (l' := [(0, .ref 0), (1, .int x1), (2, .int x2), (3, .int x3), (4, .int x4)]) (st' := [.int (gi V 3 0), .int x4]) (S1 := (SH ++ X)) (V1 := V) rfl ?_
    rcases ai_if h with ⟨hc, h⟩ | ⟨hc, h⟩
    · refine rn_brT rfl rfl rfl rfl hc ?_
      refine rn_go 4 (pc' := 126) (l' := [(0, .ref 0), (1, .int x1), (2, .int x2), (3, .int x3), (4, .int x4)]) (st' := [.long (x3).toInt64, .ref 22]) (S1 := (SH ++ X)) (V1 := V) rfl ?_
      obtain ⟨q3, hq3, h⟩ := ai_bd h
      refine rn_call rfl rfl rfl rfl rfl rfl (by omega) (t_Row_add (by omega) hq3) ?_
      refine rn_go 1 (pc' := 130) (l' := [(0, .ref 0), (1, .int x1), (2, .int x2), (3, .int x3), (4, .int x4)]) (st' := [.int x2]) (S1 := (SH ++ X)) (V1 := q3) rfl ?_
      obtain rfl := Option.some.inj h
      exact rn_ret rfl rfl rfl
    · refine rn_brF rfl rfl rfl rfl hc ?_
      refine rn_go 4 (pc' := 45) (l' := [(5, .int (x4 + (1 : Int32))), (0, .ref 0), (1, .int x1), (2, .int x2), (3, .int x3), (4, .int x4)]) (st' := []) (S1 := (SH ++ X)) (V1 := V) rfl ?_
      exact rn_sub [1, 2, 3, 4, 5, 0] rfl rfl (t_X_enough_45 (X := X) hd (d_X_enough_27 n) (ih) ai_N x1 x2 x3 x4 (x4 + (1 : Int32)) V _ h)
def d_X_enough (x1 : Int32) (V : ai_V) : Option (Int32 × ai_V) :=
  if x1 < 0 then (some ((-1 : Int32), V)) else (if x1 ≤ (198 : Int32) then ((d_Row_clear  V).bind fun q4 => (d_X_enough_27 ai_N x1 (0 : Int32) (-1 : Int32) (0 : Int32) q4)) else (some ((-1 : Int32), V)))
set_option maxRecDepth 20000 in
theorem t_X_enough {X : ai_S} {e : Nat} (hd : 5 ≤ e) {x1 : Int32} {V : ai_V} {r : (Int32 × ai_V)} (h : d_X_enough x1 V = some r) : Rn e 132 0 (lv_args 0 [.ref 0, .int x1]) [] (SH ++ X) V (some (.int r.1)) (SH ++ X) r.2 := by
  rw [d_X_enough] at h
  refine rn_go 1 (pc' := 1) (l' := [(0, .ref 0), (1, .int x1)]) (st' := [.int x1]) (S1 := (SH ++ X)) (V1 := V) rfl ?_
  rcases ai_if h with ⟨hc, h⟩ | ⟨hc, h⟩
  · refine rn_brT rfl rfl rfl rfl hc ?_
    refine rn_go 1 (pc' := 12) (l' := [(0, .ref 0), (1, .int x1)]) (st' := [.int (-1 : Int32)]) (S1 := (SH ++ X)) (V1 := V) rfl ?_
    obtain rfl := Option.some.inj h
    exact rn_ret rfl rfl rfl
  · refine rn_brF rfl rfl rfl rfl hc ?_
    refine rn_go 2 (pc' := 8) (l' := [(0, .ref 0), (1, .int x1)]) (st' := [.int (198 : Int32), .int x1]) (S1 := (SH ++ X)) (V1 := V) rfl ?_
    rcases ai_if h with ⟨hc, h⟩ | ⟨hc, h⟩
    · refine rn_brT rfl rfl rfl rfl hc ?_
      refine rn_go 6 (pc' := 21) (l' := [(3, .int (-1 : Int32)), (2, .int (0 : Int32)), (0, .ref 0), (1, .int x1)]) (st' := [.ref 22]) (S1 := (SH ++ X)) (V1 := V) rfl ?_
      obtain ⟨q4, hq4, h⟩ := ai_bd h
      refine rn_call rfl rfl rfl rfl rfl rfl (by omega) (t_Row_clear (by omega) hq4) ?_
      refine rn_go 2 (pc' := 27) (l' := [(4, .int (0 : Int32)), (3, .int (-1 : Int32)), (2, .int (0 : Int32)), (0, .ref 0), (1, .int x1)]) (st' := []) (S1 := (SH ++ X)) (V1 := q4) rfl ?_
      exact rn_sub [3, 4, 2, 1, 0] rfl rfl (t_X_enough_27 (X := X) hd ai_N x1 (0 : Int32) (-1 : Int32) (0 : Int32) q4 _ h)
    · refine rn_brF rfl rfl rfl rfl hc ?_
      refine rn_go 1 (pc' := 12) (l' := [(0, .ref 0), (1, .int x1)]) (st' := [.int (-1 : Int32)]) (S1 := (SH ++ X)) (V1 := V) rfl ?_
      obtain rfl := Option.some.inj h
      exact rn_ret rfl rfl rfl
-- RentByTheWheel.step(I)I (0, None)
def d_X_step_70 (F20 : Int32 → Int32 → Int32 → Int32 → ai_V → Option (Int32 × ai_V)) (x1 : Int32) (x2 : Int32) (x3 : Int32) (x4 : Int32) (V : ai_V) : Option (Int32 × ai_V) :=
  F20 x1 x2 x3 (x4 + (1 : Int32)) V
set_option maxRecDepth 20000 in
theorem t_X_step_70 {X : ai_S} {e : Nat} (hd : 5 ≤ e) (F20 : Int32 → Int32 → Int32 → Int32 → ai_V → Option (Int32 × ai_V)) (hF20 : ∀ (x1 : Int32) (x2 : Int32) (x3 : Int32) (x4 : Int32) (V : ai_V) (r : (Int32 × ai_V)), F20 x1 x2 x3 x4 V = some r → Rn e 133 20 [(0, .ref 0), (1, .int x1), (2, .int x2), (3, .int x3), (4, .int x4)] [] (SH ++ X) V (some (.int r.1)) (SH ++ X) r.2) (x1 : Int32) (x2 : Int32) (x3 : Int32) (x4 : Int32) (V : ai_V) (r : (Int32 × ai_V)) (h : d_X_step_70 F20 x1 x2 x3 x4 V = some r) : Rn e 133 70 [(0, .ref 0), (1, .int x1), (2, .int x2), (3, .int x3), (4, .int x4)] [] (SH ++ X) V (some (.int r.1)) (SH ++ X) r.2 := by
  rw [d_X_step_70] at h
  refine rn_go 2 (pc' := 20) (l' := [(4, .int (x4 + (1 : Int32))), (0, .ref 0), (1, .int x1), (2, .int x2), (3, .int x3)]) (st' := []) (S1 := (SH ++ X)) (V1 := V) rfl ?_
  exact rn_sub [1, 2, 3, 4, 0] rfl rfl (hF20 x1 x2 x3 (x4 + (1 : Int32)) V _ h)
def d_X_step_56 (F20 : Int32 → Int32 → Int32 → Int32 → ai_V → Option (Int32 × ai_V)) (x1 : Int32) (x2 : Int32) (x3 : Int32) (x4 : Int32) (s0 : Int32) (V : ai_V) : Option (Int32 × ai_V) :=
  if s0 ≤ x3 then (d_X_step_70 F20 x1 x2 x3 x4 V) else (d_X_step_70 F20 x1 x4 s0 x4 V)
set_option maxRecDepth 20000 in
theorem t_X_step_56 {X : ai_S} {e : Nat} (hd : 5 ≤ e) (F20 : Int32 → Int32 → Int32 → Int32 → ai_V → Option (Int32 × ai_V)) (hF20 : ∀ (x1 : Int32) (x2 : Int32) (x3 : Int32) (x4 : Int32) (V : ai_V) (r : (Int32 × ai_V)), F20 x1 x2 x3 x4 V = some r → Rn e 133 20 [(0, .ref 0), (1, .int x1), (2, .int x2), (3, .int x3), (4, .int x4)] [] (SH ++ X) V (some (.int r.1)) (SH ++ X) r.2) (x1 : Int32) (x2 : Int32) (x3 : Int32) (x4 : Int32) (s0 : Int32) (V : ai_V) (r : (Int32 × ai_V)) (h : d_X_step_56 F20 x1 x2 x3 x4 s0 V = some r) : Rn e 133 56 [(0, .ref 0), (1, .int x1), (2, .int x2), (3, .int x3), (4, .int x4)] [.int s0] (SH ++ X) V (some (.int r.1)) (SH ++ X) r.2 := by
  rw [d_X_step_56] at h
  refine rn_go 3 (pc' := 61) (l' := [(5, .int s0), (0, .ref 0), (1, .int x1), (2, .int x2), (3, .int x3), (4, .int x4)]) (st' := [.int x3, .int s0]) (S1 := (SH ++ X)) (V1 := V) rfl ?_
  rcases ai_if h with ⟨hc, h⟩ | ⟨hc, h⟩
  · refine rn_brT rfl rfl rfl rfl hc ?_
    exact rn_sub [1, 2, 3, 4, 5] rfl rfl (t_X_step_70 (X := X) hd F20 hF20 x1 x2 x3 x4 V _ h)
  · refine rn_brF rfl rfl rfl rfl hc ?_
    refine rn_go 4 (pc' := 70) (l' := [(2, .int x4), (3, .int s0), (5, .int s0), (0, .ref 0), (1, .int x1), (4, .int x4)]) (st' := []) (S1 := (SH ++ X)) (V1 := V) rfl ?_
    exact rn_sub [3, 4, 0, 1, 5] rfl rfl (t_X_step_70 (X := X) hd F20 hF20 x1 x4 s0 x4 V _ h)
def d_X_step_20  : Nat → Int32 → Int32 → Int32 → Int32 → ai_V → Option (Int32 × ai_V)
  | 0, _, _, _, _, _ => none
  | n + 1, x1, x2, x3, x4, V => if (gi V 3 0) ≤ x4 then (if ¬ x2 = (-1 : Int32) then ((d_Wheel_pailsNow x1 (-1 : Int32) V).bind fun q1 => ((d_Wheel_pailsNow x2 (-1 : Int32) q1.2).bind fun q2 => ((d_Row_tellTwo (x3).toInt64 ((((q1.1 + q2.1) - x3)).toInt64) q2.2).bind fun q3 => (some (x2, q3))))) else (some ((-2 : Int32), V))) else (if ¬ x4 = x1 then ((d_Wheel_together x1 x4 V).bind fun q4 => (d_X_step_56 (d_X_step_20 n) x1 x2 x3 x4 q4.1 q4.2)) else (d_X_step_56 (d_X_step_20 n) x1 x2 x3 x4 (-1 : Int32) V))
set_option maxRecDepth 20000 in
theorem t_X_step_20 {X : ai_S} {e : Nat} (hd : 5 ≤ e)  : ∀ (n : Nat) (x1 : Int32) (x2 : Int32) (x3 : Int32) (x4 : Int32) (V : ai_V) (r : (Int32 × ai_V)), d_X_step_20  n x1 x2 x3 x4 V = some r → Rn e 133 20 [(0, .ref 0), (1, .int x1), (2, .int x2), (3, .int x3), (4, .int x4)] [] (SH ++ X) V (some (.int r.1)) (SH ++ X) r.2 := by
  intro n
  induction n with
  | zero =>
    intro x1 x2 x3 x4 V r h
    cases h
  | succ n ih =>
    intro x1 x2 x3 x4 V r h
    rw [d_X_step_20] at h
    refine rn_go 4 (pc' := 29) (l' := [(0, .ref 0), (1, .int x1), (2, .int x2), (3, .int x3), (4, .int x4)]) (st' := [.int (gi V 3 0), .int x4]) (S1 := (SH ++ X)) (V1 := V) rfl ?_
    rcases ai_if h with ⟨hc, h⟩ | ⟨hc, h⟩
    · refine rn_brT rfl rfl rfl rfl hc ?_
      refine rn_go 2 (pc' := 78) (l' := [(0, .ref 0), (1, .int x1), (2, .int x2), (3, .int x3), (4, .int x4)]) (st' := [.int (-1 : Int32), .int x2]) (S1 := (SH ++ X)) (V1 := V) rfl ?_
      rcases ai_if h with ⟨hc, h⟩ | ⟨hc, h⟩
      · refine rn_brT rfl rfl rfl rfl hc ?_
        refine rn_go 6 (pc' := 94) (l' := [(0, .ref 0), (1, .int x1), (2, .int x2), (3, .int x3), (4, .int x4)]) (st' := [.ref 16, .int (-1 : Int32), .int x1, .ref 15]) (S1 := (SH ++ X)) (V1 := V) rfl ?_
        obtain ⟨q1, hq1, h⟩ := ai_bd h
        refine rn_call rfl rfl rfl rfl rfl rfl (by omega) (t_Wheel_pailsNow (by omega) hq1) ?_
        refine rn_go 6 (pc' := 107) (l' := [(0, .ref 0), (1, .int x1), (2, .int x2), (3, .int x3), (4, .int x4)]) (st' := [.ref 16, .int (-1 : Int32), .int x2, .ref 15, .int q1.1]) (S1 := (SH ++ X)) (V1 := q1.2) rfl ?_
        obtain ⟨q2, hq2, h⟩ := ai_bd h
        refine rn_call rfl rfl rfl rfl rfl rfl (by omega) (t_Wheel_pailsNow (by omega) hq2) ?_
        refine rn_go 10 (pc' := 124) (l' := [(4, .int (q1.1 + q2.1)), (0, .ref 0), (1, .int x1), (2, .int x2), (3, .int x3)]) (st' := [.long (((q1.1 + q2.1) - x3)).toInt64, .long (x3).toInt64, .ref 22]) (S1 := (SH ++ X)) (V1 := q2.2) rfl ?_
        obtain ⟨q3, hq3, h⟩ := ai_bd h
        refine rn_call rfl rfl rfl rfl rfl rfl (by omega) (t_Row_tellTwo (by omega) hq3) ?_
        refine rn_go 1 (pc' := 128) (l' := [(4, .int (q1.1 + q2.1)), (0, .ref 0), (1, .int x1), (2, .int x2), (3, .int x3)]) (st' := [.int x2]) (S1 := (SH ++ X)) (V1 := q3) rfl ?_
        obtain rfl := Option.some.inj h
        exact rn_ret rfl rfl rfl
      · refine rn_brF rfl rfl rfl rfl hc ?_
        refine rn_go 1 (pc' := 83) (l' := [(0, .ref 0), (1, .int x1), (2, .int x2), (3, .int x3), (4, .int x4)]) (st' := [.int (-2 : Int32)]) (S1 := (SH ++ X)) (V1 := V) rfl ?_
        obtain rfl := Option.some.inj h
        exact rn_ret rfl rfl rfl
    · refine rn_brF rfl rfl rfl rfl hc ?_
      refine rn_go 2 (pc' := 35) (l' := [(0, .ref 0), (1, .int x1), (2, .int x2), (3, .int x3), (4, .int x4)]) (st' := [.int x1, .int x4]) (S1 := (SH ++ X)) (V1 := V) rfl ?_
      rcases ai_if h with ⟨hc, h⟩ | ⟨hc, h⟩
      · refine rn_brT rfl rfl rfl rfl hc ?_
        refine rn_go 6 (pc' := 53) (l' := [(0, .ref 0), (1, .int x1), (2, .int x2), (3, .int x3), (4, .int x4)]) (st' := [.ref 16, .int x4, .int x1, .ref 15]) (S1 := (SH ++ X)) (V1 := V) rfl ?_
        obtain ⟨q4, hq4, h⟩ := ai_bd h
        refine rn_call rfl rfl rfl rfl rfl rfl (by omega) (t_Wheel_together (by omega) hq4) ?_
        exact rn_sub [0, 1, 2, 3, 4] rfl rfl (t_X_step_56 (X := X) hd (d_X_step_20 n) (ih) x1 x2 x3 x4 q4.1 q4.2 _ h)
      · refine rn_brF rfl rfl rfl rfl hc ?_
        refine rn_go 2 (pc' := 56) (l' := [(0, .ref 0), (1, .int x1), (2, .int x2), (3, .int x3), (4, .int x4)]) (st' := [.int (-1 : Int32)]) (S1 := (SH ++ X)) (V1 := V) rfl ?_
        exact rn_sub [0, 1, 2, 3, 4] rfl rfl (t_X_step_56 (X := X) hd (d_X_step_20 n) (ih) x1 x2 x3 x4 (-1 : Int32) V _ h)
def d_X_step (x1 : Int32) (V : ai_V) : Option (Int32 × ai_V) :=
  (d_House_has x1 V).bind fun q5 => (if ¬ q5 = 0 then (d_X_step_20 ai_N x1 (-1 : Int32) (-1 : Int32) (0 : Int32) V) else (some ((-1 : Int32), V)))
set_option maxRecDepth 20000 in
theorem t_X_step {X : ai_S} {e : Nat} (hd : 5 ≤ e) {x1 : Int32} {V : ai_V} {r : (Int32 × ai_V)} (h : d_X_step x1 V = some r) : Rn e 133 0 (lv_args 0 [.ref 0, .int x1]) [] (SH ++ X) V (some (.int r.1)) (SH ++ X) r.2 := by
  rw [d_X_step] at h
  refine rn_go 3 (pc' := 5) (l' := [(0, .ref 0), (1, .int x1)]) (st' := [.int x1, .ref 3]) (S1 := (SH ++ X)) (V1 := V) rfl ?_
  obtain ⟨q5, hq5, h⟩ := ai_bd h
  refine rn_call rfl rfl rfl rfl rfl rfl (by omega) (t_House_has (by omega) hq5) ?_
  rcases ai_if h with ⟨hc, h⟩ | ⟨hc, h⟩
  · refine rn_brT rfl rfl rfl rfl hc ?_
    refine rn_go 6 (pc' := 20) (l' := [(4, .int (0 : Int32)), (3, .int (-1 : Int32)), (2, .int (-1 : Int32)), (0, .ref 0), (1, .int x1)]) (st' := []) (S1 := (SH ++ X)) (V1 := V) rfl ?_
    exact rn_sub [3, 4, 2, 1, 0] rfl rfl (t_X_step_20 (X := X) hd ai_N x1 (-1 : Int32) (-1 : Int32) (0 : Int32) V _ h)
  · refine rn_brF rfl rfl rfl rfl hc ?_
    refine rn_go 1 (pc' := 12) (l' := [(0, .ref 0), (1, .int x1)]) (st' := [.int (-1 : Int32)]) (S1 := (SH ++ X)) (V1 := V) rfl ?_
    obtain rfl := Option.some.inj h
    exact rn_ret rfl rfl rfl
-- RentByTheWheel$Worths.sizeOf(LRentByTheWheel$Text;)I (72, 1)
def d_Worths_sizeOf_136   (V : ai_V) : Option Int32 :=
  some ((-1 : Int32) - (gi V 1 1))
set_option maxRecDepth 20000 in
theorem t_Worths_sizeOf_136 {X : ai_S} {e : Nat} (hd : 1 ≤ e)   (V : ai_V) (r : Int32) (h : d_Worths_sizeOf_136   V = some r) : Rn e 84 136 [(1, .ref 1)] [] (SH ++ X) V (some (.int r)) (SH ++ X) V := by
  rw [d_Worths_sizeOf_136] at h
  refine rn_go 4 (pc' := 142) (l' := [(1, .ref 1)]) (st' := [.int ((-1 : Int32) - (gi V 1 1))]) (S1 := (SH ++ X)) (V1 := V) rfl ?_
  obtain rfl := Option.some.inj h
  exact rn_ret rfl rfl rfl
def d_Worths_sizeOf_104  (x5 : Int32) (V : ai_V) : Option Int32 :=
  some ((-1 : Int32) - x5)
set_option maxRecDepth 20000 in
theorem t_Worths_sizeOf_104 {X : ai_S} {e : Nat} (hd : 1 ≤ e)  (x5 : Int32) (V : ai_V) (r : Int32) (h : d_Worths_sizeOf_104  x5 V = some r) : Rn e 84 104 [(5, .int x5)] [] (SH ++ X) V (some (.int r)) (SH ++ X) V := by
  rw [d_Worths_sizeOf_104] at h
  refine rn_go 3 (pc' := 108) (l' := [(5, .int x5)]) (st' := [.int ((-1 : Int32) - x5)]) (S1 := (SH ++ X)) (V1 := V) rfl ?_
  obtain rfl := Option.some.inj h
  exact rn_ret rfl rfl rfl
def d_Worths_sizeOf_109 (F10 : Int32 → Int32 → Int32 → Int32 → ai_V → Option Int32) (x2 : Int32) (x3 : Int32) (x4 : Int32) (x5 : Int32) (V : ai_V) : Option Int32 :=
  F10 x2 x3 x4 (x5 + (1 : Int32)) V
set_option maxRecDepth 20000 in
theorem t_Worths_sizeOf_109 {X : ai_S} {e : Nat} (hd : 1 ≤ e) (F10 : Int32 → Int32 → Int32 → Int32 → ai_V → Option Int32) (hF10 : ∀ (x2 : Int32) (x3 : Int32) (x4 : Int32) (x5 : Int32) (V : ai_V) (r : Int32), F10 x2 x3 x4 x5 V = some r → Rn e 84 10 [(1, .ref 1), (2, .int x2), (3, .int x3), (4, .int x4), (5, .int x5)] [] (SH ++ X) V (some (.int r)) (SH ++ X) V) (x2 : Int32) (x3 : Int32) (x4 : Int32) (x5 : Int32) (V : ai_V) (r : Int32) (h : d_Worths_sizeOf_109 F10 x2 x3 x4 x5 V = some r) : Rn e 84 109 [(1, .ref 1), (2, .int x2), (3, .int x3), (4, .int x4), (5, .int x5)] [] (SH ++ X) V (some (.int r)) (SH ++ X) V := by
  rw [d_Worths_sizeOf_109] at h
  refine rn_go 2 (pc' := 10) (l' := [(5, .int (x5 + (1 : Int32))), (1, .ref 1), (2, .int x2), (3, .int x3), (4, .int x4)]) (st' := []) (S1 := (SH ++ X)) (V1 := V) rfl ?_
  exact rn_sub [1, 2, 3, 4, 0] rfl rfl (hF10 x2 x3 x4 (x5 + (1 : Int32)) V _ h)
def d_Worths_sizeOf_92 (F10 : Int32 → Int32 → Int32 → Int32 → ai_V → Option Int32) (x3 : Int32) (x4 : Int32) (x5 : Int32) (V : ai_V) : Option Int32 :=
  d_Worths_sizeOf_109 F10 x4 (x3 + (1 : Int32)) (0 : Int32) x5 V
set_option maxRecDepth 20000 in
theorem t_Worths_sizeOf_92 {X : ai_S} {e : Nat} (hd : 1 ≤ e) (F10 : Int32 → Int32 → Int32 → Int32 → ai_V → Option Int32) (hF10 : ∀ (x2 : Int32) (x3 : Int32) (x4 : Int32) (x5 : Int32) (V : ai_V) (r : Int32), F10 x2 x3 x4 x5 V = some r → Rn e 84 10 [(1, .ref 1), (2, .int x2), (3, .int x3), (4, .int x4), (5, .int x5)] [] (SH ++ X) V (some (.int r)) (SH ++ X) V) (x3 : Int32) (x4 : Int32) (x5 : Int32) (V : ai_V) (r : Int32) (h : d_Worths_sizeOf_92 F10 x3 x4 x5 V = some r) : Rn e 84 92 [(1, .ref 1), (3, .int x3), (4, .int x4), (5, .int x5)] [] (SH ++ X) V (some (.int r)) (SH ++ X) V := by
  rw [d_Worths_sizeOf_92] at h
  refine rn_go 6 (pc' := 109) (l' := [(4, .int (0 : Int32)), (3, .int (x3 + (1 : Int32))), (2, .int x4), (1, .ref 1), (5, .int x5)]) (st' := []) (S1 := (SH ++ X)) (V1 := V) rfl ?_
  exact rn_sub [3, 2, 1, 0, 4] rfl rfl (t_Worths_sizeOf_109 (X := X) hd F10 hF10 x4 (x3 + (1 : Int32)) (0 : Int32) x5 V _ h)
def d_Worths_sizeOf_59 (F10 : Int32 → Int32 → Int32 → Int32 → ai_V → Option Int32) (x2 : Int32) (x3 : Int32) (x4 : Int32) (x5 : Int32) (x6 : Int32) (V : ai_V) : Option Int32 :=
  if ¬ x6 = (47 : Int32) then (d_Worths_sizeOf_104 x5 V) else (if ¬ x2 = 0 then (if ¬ x4 = x2 then (d_Worths_sizeOf_104 x5 V) else (if (x2 - (1 : Int32)) ≤ x3 then (d_Worths_sizeOf_104 x5 V) else (d_Worths_sizeOf_92 F10 x3 x4 x5 V))) else (if x4 < (2 : Int32) then (d_Worths_sizeOf_104 x5 V) else (d_Worths_sizeOf_92 F10 x3 x4 x5 V)))
set_option maxRecDepth 20000 in
theorem t_Worths_sizeOf_59 {X : ai_S} {e : Nat} (hd : 1 ≤ e) (F10 : Int32 → Int32 → Int32 → Int32 → ai_V → Option Int32) (hF10 : ∀ (x2 : Int32) (x3 : Int32) (x4 : Int32) (x5 : Int32) (V : ai_V) (r : Int32), F10 x2 x3 x4 x5 V = some r → Rn e 84 10 [(1, .ref 1), (2, .int x2), (3, .int x3), (4, .int x4), (5, .int x5)] [] (SH ++ X) V (some (.int r)) (SH ++ X) V) (x2 : Int32) (x3 : Int32) (x4 : Int32) (x5 : Int32) (x6 : Int32) (V : ai_V) (r : Int32) (h : d_Worths_sizeOf_59 F10 x2 x3 x4 x5 x6 V = some r) : Rn e 84 59 [(1, .ref 1), (2, .int x2), (3, .int x3), (4, .int x4), (5, .int x5), (6, .int x6)] [] (SH ++ X) V (some (.int r)) (SH ++ X) V := by
  rw [d_Worths_sizeOf_59] at h
  refine rn_go 2 (pc' := 63) (l' := [(1, .ref 1), (2, .int x2), (3, .int x3), (4, .int x4), (5, .int x5), (6, .int x6)]) (st' := [.int (47 : Int32), .int x6]) (S1 := (SH ++ X)) (V1 := V) rfl ?_
  rcases ai_if h with ⟨hc, h⟩ | ⟨hc, h⟩
  · refine rn_brT rfl rfl rfl rfl hc ?_
    exact rn_sub [4] rfl rfl (t_Worths_sizeOf_104 (X := X) hd x5 V _ h)
  · refine rn_brF rfl rfl rfl rfl hc ?_
    refine rn_go 1 (pc' := 67) (l' := [(1, .ref 1), (2, .int x2), (3, .int x3), (4, .int x4), (5, .int x5), (6, .int x6)]) (st' := [.int x2]) (S1 := (SH ++ X)) (V1 := V) rfl ?_
    rcases ai_if h with ⟨hc, h⟩ | ⟨hc, h⟩
    · refine rn_brT rfl rfl rfl rfl hc ?_
      refine rn_go 2 (pc' := 82) (l' := [(1, .ref 1), (2, .int x2), (3, .int x3), (4, .int x4), (5, .int x5), (6, .int x6)]) (st' := [.int x2, .int x4]) (S1 := (SH ++ X)) (V1 := V) rfl ?_
      rcases ai_if h with ⟨hc, h⟩ | ⟨hc, h⟩
      · refine rn_brT rfl rfl rfl rfl hc ?_
        exact rn_sub [4] rfl rfl (t_Worths_sizeOf_104 (X := X) hd x5 V _ h)
      · refine rn_brF rfl rfl rfl rfl hc ?_
        refine rn_go 4 (pc' := 89) (l' := [(1, .ref 1), (2, .int x2), (3, .int x3), (4, .int x4), (5, .int x5), (6, .int x6)]) (st' := [.int (x2 - (1 : Int32)), .int x3]) (S1 := (SH ++ X)) (V1 := V) rfl ?_
        rcases ai_if h with ⟨hc, h⟩ | ⟨hc, h⟩
        · refine rn_brT rfl rfl rfl rfl hc ?_
          exact rn_sub [4] rfl rfl (t_Worths_sizeOf_104 (X := X) hd x5 V _ h)
        · refine rn_brF rfl rfl rfl rfl hc ?_
          exact rn_sub [0, 2, 3, 4] rfl rfl (t_Worths_sizeOf_92 (X := X) hd F10 hF10 x3 x4 x5 V _ h)
    · refine rn_brF rfl rfl rfl rfl hc ?_
      refine rn_go 2 (pc' := 73) (l' := [(1, .ref 1), (2, .int x2), (3, .int x3), (4, .int x4), (5, .int x5), (6, .int x6)]) (st' := [.int (2 : Int32), .int x4]) (S1 := (SH ++ X)) (V1 := V) rfl ?_
      rcases ai_if h with ⟨hc, h⟩ | ⟨hc, h⟩
      · refine rn_brT rfl rfl rfl rfl hc ?_
        exact rn_sub [4] rfl rfl (t_Worths_sizeOf_104 (X := X) hd x5 V _ h)
      · refine rn_brF rfl rfl rfl rfl hc ?_
        refine rn_go 1 (pc' := 92) (l' := [(1, .ref 1), (2, .int x2), (3, .int x3), (4, .int x4), (5, .int x5), (6, .int x6)]) (st' := []) (S1 := (SH ++ X)) (V1 := V) rfl ?_
        exact rn_sub [0, 2, 3, 4] rfl rfl (t_Worths_sizeOf_92 (X := X) hd F10 hF10 x3 x4 x5 V _ h)
def d_Worths_sizeOf_36 (F10 : Int32 → Int32 → Int32 → Int32 → ai_V → Option Int32) (x2 : Int32) (x3 : Int32) (x4 : Int32) (x5 : Int32) (x6 : Int32) (s0 : Int32) (V : ai_V) : Option Int32 :=
  (d_Text_isDigit x6 V).bind fun q1 => (if q1 = 0 then (d_Worths_sizeOf_59 F10 x2 x3 x4 x5 x6 V) else (if s0 ≤ x4 then (d_Worths_sizeOf_59 F10 x2 x3 x4 x5 x6 V) else (d_Worths_sizeOf_109 F10 x2 x3 (x4 + (1 : Int32)) x5 V)))
set_option maxRecDepth 20000 in
theorem t_Worths_sizeOf_36 {X : ai_S} {e : Nat} (hd : 1 ≤ e) (F10 : Int32 → Int32 → Int32 → Int32 → ai_V → Option Int32) (hF10 : ∀ (x2 : Int32) (x3 : Int32) (x4 : Int32) (x5 : Int32) (V : ai_V) (r : Int32), F10 x2 x3 x4 x5 V = some r → Rn e 84 10 [(1, .ref 1), (2, .int x2), (3, .int x3), (4, .int x4), (5, .int x5)] [] (SH ++ X) V (some (.int r)) (SH ++ X) V) (x2 : Int32) (x3 : Int32) (x4 : Int32) (x5 : Int32) (x6 : Int32) (s0 : Int32) (V : ai_V) (r : Int32) (h : d_Worths_sizeOf_36 F10 x2 x3 x4 x5 x6 s0 V = some r) : Rn e 84 36 [(1, .ref 1), (2, .int x2), (3, .int x3), (4, .int x4), (5, .int x5), (6, .int x6)] [.int s0] (SH ++ X) V (some (.int r)) (SH ++ X) V := by
  rw [d_Worths_sizeOf_36] at h
  refine rn_go 2 (pc' := 40) (l' := [(7, .int s0), (1, .ref 1), (2, .int x2), (3, .int x3), (4, .int x4), (5, .int x5), (6, .int x6)]) (st' := [.int x6]) (S1 := (SH ++ X)) (V1 := V) rfl ?_
  obtain ⟨q1, hq1, h⟩ := ai_bd h
  refine rn_call rfl rfl rfl rfl rfl rfl (by omega) (t_Text_isDigit (by omega) hq1) ?_
  rcases ai_if h with ⟨hc, h⟩ | ⟨hc, h⟩
  · refine rn_brT rfl rfl rfl rfl hc ?_
    exact rn_sub [1, 2, 3, 4, 5, 6] rfl rfl (t_Worths_sizeOf_59 (X := X) hd F10 hF10 x2 x3 x4 x5 x6 V _ h)
  · refine rn_brF rfl rfl rfl rfl hc ?_
    refine rn_go 2 (pc' := 50) (l' := [(7, .int s0), (1, .ref 1), (2, .int x2), (3, .int x3), (4, .int x4), (5, .int x5), (6, .int x6)]) (st' := [.int s0, .int x4]) (S1 := (SH ++ X)) (V1 := V) rfl ?_
    rcases ai_if h with ⟨hc, h⟩ | ⟨hc, h⟩
    · refine rn_brT rfl rfl rfl rfl hc ?_
      exact rn_sub [1, 2, 3, 4, 5, 6] rfl rfl (t_Worths_sizeOf_59 (X := X) hd F10 hF10 x2 x3 x4 x5 x6 V _ h)
    · refine rn_brF rfl rfl rfl rfl hc ?_
      refine rn_go 2 (pc' := 109) (l' := [(4, .int (x4 + (1 : Int32))), (7, .int s0), (1, .ref 1), (2, .int x2), (3, .int x3), (5, .int x5), (6, .int x6)]) (st' := []) (S1 := (SH ++ X)) (V1 := V) rfl ?_
      exact rn_sub [2, 3, 4, 0, 5] rfl rfl (t_Worths_sizeOf_109 (X := X) hd F10 hF10 x2 x3 (x4 + (1 : Int32)) x5 V _ h)
def d_Worths_sizeOf_10  : Nat → Int32 → Int32 → Int32 → Int32 → ai_V → Option Int32
  | 0, _, _, _, _, _ => none
  | n + 1, x2, x3, x4, x5, V => if (gi V 1 1) ≤ x5 then (if x2 ≤ 0 then (d_Worths_sizeOf_136 V) else (if ¬ x3 = (x2 - (1 : Int32)) then (d_Worths_sizeOf_136 V) else (if ¬ x4 = x2 then (d_Worths_sizeOf_136 V) else (some x2)))) else ((d_Text_at x5 V).bind fun q2 => (if ¬ x2 = 0 then (d_Worths_sizeOf_36 (d_Worths_sizeOf_10 n) x2 x3 x4 x5 q2 x2 V) else (d_Worths_sizeOf_36 (d_Worths_sizeOf_10 n) x2 x3 x4 x5 q2 (4 : Int32) V)))
set_option maxRecDepth 20000 in
theorem t_Worths_sizeOf_10 {X : ai_S} {e : Nat} (hd : 1 ≤ e)  : ∀ (n : Nat) (x2 : Int32) (x3 : Int32) (x4 : Int32) (x5 : Int32) (V : ai_V) (r : Int32), d_Worths_sizeOf_10  n x2 x3 x4 x5 V = some r → Rn e 84 10 [(1, .ref 1), (2, .int x2), (3, .int x3), (4, .int x4), (5, .int x5)] [] (SH ++ X) V (some (.int r)) (SH ++ X) V := by
  intro n
  induction n with
  | zero =>
    intro x2 x3 x4 x5 V r h
    cases h
  | succ n ih =>
    intro x2 x3 x4 x5 V r h
    rw [d_Worths_sizeOf_10] at h
    refine rn_go 3 (pc' := 16) (l' := [(1, .ref 1), (2, .int x2), (3, .int x3), (4, .int x4), (5, .int x5)]) (st' := [.int (gi V 1 1), .int x5]) (S1 := (SH ++ X)) (V1 := V) rfl ?_
    rcases ai_if h with ⟨hc, h⟩ | ⟨hc, h⟩
    · refine rn_brT rfl rfl rfl rfl hc ?_
      refine rn_go 1 (pc' := 116) (l' := [(1, .ref 1), (2, .int x2), (3, .int x3), (4, .int x4), (5, .int x5)]) (st' := [.int x2]) (S1 := (SH ++ X)) (V1 := V) rfl ?_
      rcases ai_if h with ⟨hc, h⟩ | ⟨hc, h⟩
      · refine rn_brT rfl rfl rfl rfl hc ?_
        exact rn_sub [0] rfl rfl (t_Worths_sizeOf_136 (X := X) hd V _ h)
      · refine rn_brF rfl rfl rfl rfl hc ?_
        refine rn_go 4 (pc' := 123) (l' := [(1, .ref 1), (2, .int x2), (3, .int x3), (4, .int x4), (5, .int x5)]) (st' := [.int (x2 - (1 : Int32)), .int x3]) (S1 := (SH ++ X)) (V1 := V) rfl ?_
        rcases ai_if h with ⟨hc, h⟩ | ⟨hc, h⟩
        · refine rn_brT rfl rfl rfl rfl hc ?_
          exact rn_sub [0] rfl rfl (t_Worths_sizeOf_136 (X := X) hd V _ h)
        · refine rn_brF rfl rfl rfl rfl hc ?_
          refine rn_go 2 (pc' := 129) (l' := [(1, .ref 1), (2, .int x2), (3, .int x3), (4, .int x4), (5, .int x5)]) (st' := [.int x2, .int x4]) (S1 := (SH ++ X)) (V1 := V) rfl ?_
          rcases ai_if h with ⟨hc, h⟩ | ⟨hc, h⟩
          · refine rn_brT rfl rfl rfl rfl hc ?_
            exact rn_sub [0] rfl rfl (t_Worths_sizeOf_136 (X := X) hd V _ h)
          · refine rn_brF rfl rfl rfl rfl hc ?_
            refine rn_go 2 (pc' := 142) (l' := [(1, .ref 1), (2, .int x2), (3, .int x3), (4, .int x4), (5, .int x5)]) (st' := [.int x2]) (S1 := (SH ++ X)) (V1 := V) rfl ?_
            obtain rfl := Option.some.inj h
            exact rn_ret rfl rfl rfl
    · refine rn_brF rfl rfl rfl rfl hc ?_
      refine rn_go 2 (pc' := 22) (l' := [(1, .ref 1), (2, .int x2), (3, .int x3), (4, .int x4), (5, .int x5)]) (st' := [.int x5, .ref 1]) (S1 := (SH ++ X)) (V1 := V) rfl ?_
      obtain ⟨q2, hq2, h⟩ := ai_bd h
      refine rn_call rfl rfl rfl rfl rfl rfl (by omega) (t_Text_at (by omega) hq2) ?_
      refine rn_go 2 (pc' := 28) (l' := [(6, .int q2), (1, .ref 1), (2, .int x2), (3, .int x3), (4, .int x4), (5, .int x5)]) (st' := [.int x2]) (S1 := (SH ++ X)) (V1 := V) rfl ?_
      rcases ai_if h with ⟨hc, h⟩ | ⟨hc, h⟩
      · refine rn_brT rfl rfl rfl rfl hc ?_
        refine rn_go 1 (pc' := 36) (l' := [(6, .int q2), (1, .ref 1), (2, .int x2), (3, .int x3), (4, .int x4), (5, .int x5)]) (st' := [.int x2]) (S1 := (SH ++ X)) (V1 := V) rfl ?_
        exact rn_sub [1, 2, 3, 4, 5, 0] rfl rfl (t_Worths_sizeOf_36 (X := X) hd (d_Worths_sizeOf_10 n) (ih) x2 x3 x4 x5 q2 x2 V _ h)
      · refine rn_brF rfl rfl rfl rfl hc ?_
        refine rn_go 2 (pc' := 36) (l' := [(6, .int q2), (1, .ref 1), (2, .int x2), (3, .int x3), (4, .int x4), (5, .int x5)]) (st' := [.int (4 : Int32)]) (S1 := (SH ++ X)) (V1 := V) rfl ?_
        exact rn_sub [1, 2, 3, 4, 5, 0] rfl rfl (t_Worths_sizeOf_36 (X := X) hd (d_Worths_sizeOf_10 n) (ih) x2 x3 x4 x5 q2 (4 : Int32) V _ h)
def d_Worths_sizeOf  (V : ai_V) : Option Int32 :=
  d_Worths_sizeOf_10 ai_N (0 : Int32) (0 : Int32) (0 : Int32) (0 : Int32) V
set_option maxRecDepth 20000 in
theorem t_Worths_sizeOf {X : ai_S} {e : Nat} (hd : 1 ≤ e)  {V : ai_V} {r : Int32} (h : d_Worths_sizeOf  V = some r) : Rn e 84 0 (lv_args 0 [.ref 72, .ref 1]) [] (SH ++ X) V (some (.int r)) (SH ++ X) V := by
  rw [d_Worths_sizeOf] at h
  refine rn_go 8 (pc' := 10) (l' := [(5, .int (0 : Int32)), (4, .int (0 : Int32)), (3, .int (0 : Int32)), (2, .int (0 : Int32)), (0, .ref 72), (1, .ref 1)]) (st' := []) (S1 := (SH ++ X)) (V1 := V) rfl ?_
  exact rn_sub [5, 3, 2, 1, 0] rfl rfl (t_Worths_sizeOf_10 (X := X) hd ai_N (0 : Int32) (0 : Int32) (0 : Int32) (0 : Int32) V _ h)
-- RentByTheWheel$Worths.takeDigits(LRentByTheWheel$Text;I)V (72, 1, None)
def d_Worths_takeDigits_58 (F10 : Int32 → Int32 → ai_V → Option ai_V) (x3 : Int32) (x4 : Int32) (V : ai_V) : Option ai_V :=
  F10 x3 (x4 + (1 : Int32)) V
set_option maxRecDepth 20000 in
theorem t_Worths_takeDigits_58 {X : ai_S} {e : Nat} (hd : 1 ≤ e) (F10 : Int32 → Int32 → ai_V → Option ai_V) (hF10 : ∀ (x3 : Int32) (x4 : Int32) (V : ai_V) (r : ai_V), F10 x3 x4 V = some r → Rn e 85 10 [(0, .ref 72), (1, .ref 1), (3, .int x3), (4, .int x4)] [] (SH ++ X) V none (SH ++ X) r) (x3 : Int32) (x4 : Int32) (V : ai_V) (r : ai_V) (h : d_Worths_takeDigits_58 F10 x3 x4 V = some r) : Rn e 85 58 [(0, .ref 72), (1, .ref 1), (3, .int x3), (4, .int x4)] [] (SH ++ X) V none (SH ++ X) r := by
  rw [d_Worths_takeDigits_58] at h
  refine rn_go 2 (pc' := 10) (l' := [(4, .int (x4 + (1 : Int32))), (0, .ref 72), (1, .ref 1), (3, .int x3)]) (st' := []) (S1 := (SH ++ X)) (V1 := V) rfl ?_
  exact rn_sub [1, 2, 3, 0] rfl rfl (hF10 x3 (x4 + (1 : Int32)) V _ h)
def d_Worths_takeDigits_10  : Nat → Int32 → Int32 → ai_V → Option ai_V
  | 0, _, _, _ => none
  | n + 1, x3, x4, V => if (gi V 1 1) ≤ x4 then (some V) else ((d_Text_at x4 V).bind fun q1 => ((d_Text_isDigit q1 V).bind fun q2 => (if q2 = 0 then (d_Worths_takeDigits_58 (d_Worths_takeDigits_10 n) x3 x4 V) else (if (Int32.ofNat 16) ≤ x3 then (d_Worths_takeDigits_58 (d_Worths_takeDigits_10 n) x3 x4 V) else ((d_Text_at x4 V).bind fun q3 => (if ai_in x3 16 then (d_Worths_takeDigits_58 (d_Worths_takeDigits_10 n) (x3 + (1 : Int32)) x4 (sa V 75 (x3).toNatClampNeg (q3 - (48 : Int32)))) else none))))))
set_option maxRecDepth 20000 in
theorem t_Worths_takeDigits_10 {X : ai_S} {e : Nat} (hd : 1 ≤ e)  : ∀ (n : Nat) (x3 : Int32) (x4 : Int32) (V : ai_V) (r : ai_V), d_Worths_takeDigits_10  n x3 x4 V = some r → Rn e 85 10 [(0, .ref 72), (1, .ref 1), (3, .int x3), (4, .int x4)] [] (SH ++ X) V none (SH ++ X) r := by
  intro n
  induction n with
  | zero =>
    intro x3 x4 V r h
    cases h
  | succ n ih =>
    intro x3 x4 V r h
    rw [d_Worths_takeDigits_10] at h
    refine rn_go 3 (pc' := 16) (l' := [(0, .ref 72), (1, .ref 1), (3, .int x3), (4, .int x4)]) (st' := [.int (gi V 1 1), .int x4]) (S1 := (SH ++ X)) (V1 := V) rfl ?_
    rcases ai_if h with ⟨hc, h⟩ | ⟨hc, h⟩
    · refine rn_brT rfl rfl rfl rfl hc ?_
      obtain rfl := Option.some.inj h
      exact rn_ret rfl rfl rfl
    · refine rn_brF rfl rfl rfl rfl hc ?_
      refine rn_go 2 (pc' := 22) (l' := [(0, .ref 72), (1, .ref 1), (3, .int x3), (4, .int x4)]) (st' := [.int x4, .ref 1]) (S1 := (SH ++ X)) (V1 := V) rfl ?_
      obtain ⟨q1, hq1, h⟩ := ai_bd h
      refine rn_call rfl rfl rfl rfl rfl rfl (by omega) (t_Text_at (by omega) hq1) ?_
      obtain ⟨q2, hq2, h⟩ := ai_bd h
      refine rn_call rfl rfl rfl rfl rfl rfl (by omega) (t_Text_isDigit (by omega) hq2) ?_
      rcases ai_if h with ⟨hc, h⟩ | ⟨hc, h⟩
      · refine rn_brT rfl rfl rfl rfl hc ?_
        exact rn_sub [0, 1, 2, 3] rfl rfl (t_Worths_takeDigits_58 (X := X) hd (d_Worths_takeDigits_10 n) (ih) x3 x4 V _ h)
      · refine rn_brF rfl rfl rfl rfl hc ?_
        refine rn_go 4 (pc' := 37) (l' := [(0, .ref 72), (1, .ref 1), (3, .int x3), (4, .int x4)]) (st' := [.int (Int32.ofNat 16), .int x3]) (S1 := (SH ++ X)) (V1 := V) rfl ?_
        rcases ai_if h with ⟨hc, h⟩ | ⟨hc, h⟩
        · refine rn_brT rfl rfl rfl rfl hc ?_
          exact rn_sub [0, 1, 2, 3] rfl rfl (t_Worths_takeDigits_58 (X := X) hd (d_Worths_takeDigits_10 n) (ih) x3 x4 V _ h)
        · refine rn_brF rfl rfl rfl rfl hc ?_
          refine rn_go 5 (pc' := 48) (l' := [(0, .ref 72), (1, .ref 1), (3, .int x3), (4, .int x4)]) (st' := [.int x4, .ref 1, .int x3, .ref 75]) (S1 := (SH ++ X)) (V1 := V) rfl ?_
          obtain ⟨q3, hq3, h⟩ := ai_bd h
          refine rn_call rfl rfl rfl rfl rfl rfl (by omega) (t_Text_at (by omega) hq3) ?_
          refine rn_go 2 (pc' := 54) (l' := [(0, .ref 72), (1, .ref 1), (3, .int x3), (4, .int x4)]) (st' := [.int (q3 - (48 : Int32)), .int x3, .ref 75]) (S1 := (SH ++ X)) (V1 := V) rfl ?_
          obtain ⟨hg, h⟩ := ai_gd h
          refine rg_iast (n := 16) rfl rfl hg ?_
          refine rn_go 1 (pc' := 58) (l' := [(3, .int (x3 + (1 : Int32))), (0, .ref 72), (1, .ref 1), (4, .int x4)]) (st' := []) (S1 := (SH ++ X)) (V1 := (sa V 75 (x3).toNatClampNeg (q3 - (48 : Int32)))) rfl ?_
          exact rn_sub [1, 2, 0, 3] rfl rfl (t_Worths_takeDigits_58 (X := X) hd (d_Worths_takeDigits_10 n) (ih) (x3 + (1 : Int32)) x4 (sa V 75 (x3).toNatClampNeg (q3 - (48 : Int32))) _ h)
def d_Worths_takeDigits (x2 : Int32) (V : ai_V) : Option ai_V :=
  d_Worths_takeDigits_10 ai_N (0 : Int32) (0 : Int32) (si V 72 0 x2)
set_option maxRecDepth 20000 in
theorem t_Worths_takeDigits {X : ai_S} {e : Nat} (hd : 1 ≤ e) {x2 : Int32} {V : ai_V} {r : ai_V} (h : d_Worths_takeDigits x2 V = some r) : Rn e 85 0 (lv_args 0 [.ref 72, .ref 1, .int x2]) [] (SH ++ X) V none (SH ++ X) r := by
  rw [d_Worths_takeDigits] at h
  refine rn_go 7 (pc' := 10) (l' := [(4, .int (0 : Int32)), (3, .int (0 : Int32)), (0, .ref 72), (1, .ref 1), (2, .int x2)]) (st' := []) (S1 := (SH ++ X)) (V1 := (si V 72 0 x2)) rfl ?_
  exact rn_sub [2, 3, 1, 0] rfl rfl (t_Worths_takeDigits_10 (X := X) hd ai_N (0 : Int32) (0 : Int32) (si V 72 0 x2) _ h)
-- RentByTheWheel.values()I (0,)
def d_X_values_47  (x2 : Int32) (V : ai_V) : Option (Int32 × ai_V) :=
  (d_Text_clear  V).bind fun q1 => (some (x2, q1))
set_option maxRecDepth 20000 in
theorem t_X_values_47 {X : ai_S} {e : Nat} (hd : 2 ≤ e)  (x2 : Int32) (V : ai_V) (r : (Int32 × ai_V)) (h : d_X_values_47  x2 V = some r) : Rn e 134 47 [(0, .ref 0), (2, .int x2)] [] (SH ++ X) V (some (.int r.1)) (SH ++ X) r.2 := by
  rw [d_X_values_47] at h
  refine rn_go 2 (pc' := 51) (l' := [(0, .ref 0), (2, .int x2)]) (st' := [.ref 1]) (S1 := (SH ++ X)) (V1 := V) rfl ?_
  obtain ⟨q1, hq1, h⟩ := ai_bd h
  refine rn_call rfl rfl rfl rfl rfl rfl (by omega) (t_Text_clear (by omega) hq1) ?_
  refine rn_go 1 (pc' := 55) (l' := [(0, .ref 0), (2, .int x2)]) (st' := [.int x2]) (S1 := (SH ++ X)) (V1 := q1) rfl ?_
  obtain rfl := Option.some.inj h
  exact rn_ret rfl rfl rfl
def d_X_values  (V : ai_V) : Option (Int32 × ai_V) :=
  (d_Worths_sizeOf  V).bind fun q2 => (if q2 ≤ (gi V 3 0) then (if q2 ≤ 0 then (d_X_values_47 q2 V) else ((d_Worths_takeDigits q2 V).bind fun q3 => (d_X_values_47 q2 q3))) else (d_X_values_47 (-100 : Int32) V))
set_option maxRecDepth 20000 in
theorem t_X_values {X : ai_S} {e : Nat} (hd : 2 ≤ e)  {V : ai_V} {r : (Int32 × ai_V)} (h : d_X_values  V = some r) : Rn e 134 0 (lv_args 0 [.ref 0]) [] (SH ++ X) V (some (.int r.1)) (SH ++ X) r.2 := by
  rw [d_X_values] at h
  refine rn_go 4 (pc' := 8) (l' := [(0, .ref 0)]) (st' := [.ref 1, .ref 72]) (S1 := (SH ++ X)) (V1 := V) rfl ?_
  obtain ⟨q2, hq2, h⟩ := ai_bd h
  refine rn_call rfl rfl rfl rfl rfl rfl (by omega) (t_Worths_sizeOf (by omega) hq2) ?_
  refine rn_go 7 (pc' := 22) (l' := [(2, .int q2), (1, .int q2), (0, .ref 0)]) (st' := [.int (gi V 3 0), .int q2]) (S1 := (SH ++ X)) (V1 := V) rfl ?_
  rcases ai_if h with ⟨hc, h⟩ | ⟨hc, h⟩
  · refine rn_brT rfl rfl rfl rfl hc ?_
    refine rn_go 1 (pc' := 32) (l' := [(2, .int q2), (1, .int q2), (0, .ref 0)]) (st' := [.int q2]) (S1 := (SH ++ X)) (V1 := V) rfl ?_
    rcases ai_if h with ⟨hc, h⟩ | ⟨hc, h⟩
    · refine rn_brT rfl rfl rfl rfl hc ?_
      exact rn_sub [2, 0] rfl rfl (t_X_values_47 (X := X) hd q2 V _ h)
    · refine rn_brF rfl rfl rfl rfl hc ?_
      refine rn_go 5 (pc' := 44) (l' := [(2, .int q2), (1, .int q2), (0, .ref 0)]) (st' := [.int q2, .ref 1, .ref 72]) (S1 := (SH ++ X)) (V1 := V) rfl ?_
      obtain ⟨q3, hq3, h⟩ := ai_bd h
      refine rn_call rfl rfl rfl rfl rfl rfl (by omega) (t_Worths_takeDigits (by omega) hq3) ?_
      exact rn_sub [2, 0] rfl rfl (t_X_values_47 (X := X) hd q2 q3 _ h)
  · refine rn_brF rfl rfl rfl rfl hc ?_
    refine rn_go 3 (pc' := 47) (l' := [(2, .int (-100 : Int32)), (1, .int q2), (0, .ref 0)]) (st' := []) (S1 := (SH ++ X)) (V1 := V) rfl ?_
    exact rn_sub [2, 0] rfl rfl (t_X_values_47 (X := X) hd (-100 : Int32) V _ h)
-- RentByTheWheel$Worths.worth(II)I (72, None, None)
def d_Worths_worth (x1 : Int32) (x2 : Int32) (V : ai_V) : Option Int32 :=
  if ((x1 * (gi V 72 0)) + x2) < 0 then (some (0 : Int32)) else (if (Int32.ofNat 16) ≤ ((x1 * (gi V 72 0)) + x2) then (some (0 : Int32)) else (if ai_in ((x1 * (gi V 72 0)) + x2) 16 then (some (ga V 75 (((x1 * (gi V 72 0)) + x2)).toNatClampNeg)) else none))
set_option maxRecDepth 20000 in
theorem t_Worths_worth {X : ai_S} {e : Nat} (hd : 0 ≤ e) {x1 : Int32} {x2 : Int32} {V : ai_V} {r : Int32} (h : d_Worths_worth x1 x2 V = some r) : Rn e 86 0 (lv_args 0 [.ref 72, .int x1, .int x2]) [] (SH ++ X) V (some (.int r)) (SH ++ X) V := by
  rw [d_Worths_worth] at h
  refine rn_go 8 (pc' := 10) (l' := [(3, .int ((x1 * (gi V 72 0)) + x2)), (0, .ref 72), (1, .int x1), (2, .int x2)]) (st' := [.int ((x1 * (gi V 72 0)) + x2)]) (S1 := (SH ++ X)) (V1 := V) rfl ?_
  rcases ai_if h with ⟨hc, h⟩ | ⟨hc, h⟩
  · refine rn_brT rfl rfl rfl rfl hc ?_
    refine rn_go 1 (pc' := 32) (l' := [(3, .int ((x1 * (gi V 72 0)) + x2)), (0, .ref 72), (1, .int x1), (2, .int x2)]) (st' := [.int (0 : Int32)]) (S1 := (SH ++ X)) (V1 := V) rfl ?_
    obtain rfl := Option.some.inj h
    exact rn_ret rfl rfl rfl
  · refine rn_brF rfl rfl rfl rfl hc ?_
    refine rn_go 4 (pc' := 19) (l' := [(3, .int ((x1 * (gi V 72 0)) + x2)), (0, .ref 72), (1, .int x1), (2, .int x2)]) (st' := [.int (Int32.ofNat 16), .int ((x1 * (gi V 72 0)) + x2)]) (S1 := (SH ++ X)) (V1 := V) rfl ?_
    rcases ai_if h with ⟨hc, h⟩ | ⟨hc, h⟩
    · refine rn_brT rfl rfl rfl rfl hc ?_
      refine rn_go 1 (pc' := 32) (l' := [(3, .int ((x1 * (gi V 72 0)) + x2)), (0, .ref 72), (1, .int x1), (2, .int x2)]) (st' := [.int (0 : Int32)]) (S1 := (SH ++ X)) (V1 := V) rfl ?_
      obtain rfl := Option.some.inj h
      exact rn_ret rfl rfl rfl
    · refine rn_brF rfl rfl rfl rfl hc ?_
      refine rn_go 3 (pc' := 27) (l' := [(3, .int ((x1 * (gi V 72 0)) + x2)), (0, .ref 72), (1, .int x1), (2, .int x2)]) (st' := [.int ((x1 * (gi V 72 0)) + x2), .ref 75]) (S1 := (SH ++ X)) (V1 := V) rfl ?_
      obtain ⟨hg, h⟩ := ai_gd h
      refine rg_iald (n := 16) rfl rfl hg ?_
      refine rn_go 1 (pc' := 32) (l' := [(3, .int ((x1 * (gi V 72 0)) + x2)), (0, .ref 72), (1, .int x1), (2, .int x2)]) (st' := [.int (ga V 75 (((x1 * (gi V 72 0)) + x2)).toNatClampNeg)]) (S1 := (SH ++ X)) (V1 := V) rfl ?_
      obtain rfl := Option.some.inj h
      exact rn_ret rfl rfl rfl
-- RentByTheWheel$Worths.place(III)V (72, None, None, None)
def d_Worths_place_90 (T : Int32 → Int32 → Int32 → ai_V → Option ai_V) (F42 : Int32 → Int32 → Int32 → Int32 → ai_V → Option ai_V) (x1 : Int32) (x2 : Int32) (x3 : Int32) (x4 : Int32) (V : ai_V) : Option ai_V :=
  F42 x1 x2 x3 (x4 + (1 : Int32)) V
set_option maxRecDepth 20000 in
theorem t_Worths_place_90 (T : Int32 → Int32 → Int32 → ai_V → Option ai_V) (DT : Nat) (hT : ∀ {X : ai_S} {e : Nat}, DT ≤ e → ∀ (x1 : Int32) (x2 : Int32) (x3 : Int32) (V : ai_V) (r : ai_V), T x1 x2 x3 V = some r → Rn e 87 0 (lv_args 0 [.ref 72, .int x1, .int x2, .int x3]) [] (SH ++ X) V none (SH ++ X) r) {X : ai_S} {e : Nat} (hd : DT + 1 ≤ e ∧ 1 ≤ e) (F42 : Int32 → Int32 → Int32 → Int32 → ai_V → Option ai_V) (hF42 : ∀ (x1 : Int32) (x2 : Int32) (x3 : Int32) (x4 : Int32) (V : ai_V) (r : ai_V), F42 x1 x2 x3 x4 V = some r → Rn e 87 42 [(0, .ref 72), (1, .int x1), (2, .int x2), (3, .int x3), (4, .int x4)] [] (SH ++ X) V none (SH ++ X) r) (x1 : Int32) (x2 : Int32) (x3 : Int32) (x4 : Int32) (V : ai_V) (r : ai_V) (h : d_Worths_place_90 T F42 x1 x2 x3 x4 V = some r) : Rn e 87 90 [(0, .ref 72), (1, .int x1), (2, .int x2), (3, .int x3), (4, .int x4)] [] (SH ++ X) V none (SH ++ X) r := by
  rw [d_Worths_place_90] at h
  refine rn_go 2 (pc' := 42) (l' := [(4, .int (x4 + (1 : Int32))), (0, .ref 72), (1, .int x1), (2, .int x2), (3, .int x3)]) (st' := []) (S1 := (SH ++ X)) (V1 := V) rfl ?_
  exact rn_sub [1, 2, 3, 4, 0] rfl rfl (hF42 x1 x2 x3 (x4 + (1 : Int32)) V _ h)
def d_Worths_place_42 (T : Int32 → Int32 → Int32 → ai_V → Option ai_V)  : Nat → Int32 → Int32 → Int32 → Int32 → ai_V → Option ai_V
  | 0, _, _, _, _, _ => none
  | n + 1, x1, x2, x3, x4, V => if (gi V 72 0) ≤ x4 then (some V) else (if ¬ ((x2 >>> (x4 &&& 31)) &&& (1 : Int32)) = 0 then (d_Worths_place_90 T (d_Worths_place_42 T n) x1 x2 x3 x4 V) else (if ai_in x1 4 then ((d_Worths_worth x1 x4 (sa V 76 (x1).toNatClampNeg x4)).bind fun q1 => ((T (x1 + (1 : Int32)) (x2 ||| ((1 : Int32) <<< (x4 &&& 31))) (x3 + q1) (sa V 76 (x1).toNatClampNeg x4)).bind fun q2 => (d_Worths_place_90 T (d_Worths_place_42 T n) x1 x2 x3 x4 q2))) else none))
set_option maxRecDepth 20000 in
theorem t_Worths_place_42 (T : Int32 → Int32 → Int32 → ai_V → Option ai_V) (DT : Nat) (hT : ∀ {X : ai_S} {e : Nat}, DT ≤ e → ∀ (x1 : Int32) (x2 : Int32) (x3 : Int32) (V : ai_V) (r : ai_V), T x1 x2 x3 V = some r → Rn e 87 0 (lv_args 0 [.ref 72, .int x1, .int x2, .int x3]) [] (SH ++ X) V none (SH ++ X) r) {X : ai_S} {e : Nat} (hd : DT + 1 ≤ e ∧ 1 ≤ e)  : ∀ (n : Nat) (x1 : Int32) (x2 : Int32) (x3 : Int32) (x4 : Int32) (V : ai_V) (r : ai_V), d_Worths_place_42 T  n x1 x2 x3 x4 V = some r → Rn e 87 42 [(0, .ref 72), (1, .int x1), (2, .int x2), (3, .int x3), (4, .int x4)] [] (SH ++ X) V none (SH ++ X) r := by
  intro n
  induction n with
  | zero =>
    intro x1 x2 x3 x4 V r h
    cases h
  | succ n ih =>
    intro x1 x2 x3 x4 V r h
    rw [d_Worths_place_42] at h
    refine rn_go 3 (pc' := 48) (l' := [(0, .ref 72), (1, .int x1), (2, .int x2), (3, .int x3), (4, .int x4)]) (st' := [.int (gi V 72 0), .int x4]) (S1 := (SH ++ X)) (V1 := V) rfl ?_
    rcases ai_if h with ⟨hc, h⟩ | ⟨hc, h⟩
    · refine rn_brT rfl rfl rfl rfl hc ?_
      obtain rfl := Option.some.inj h
      exact rn_ret rfl rfl rfl
    · refine rn_brF rfl rfl rfl rfl hc ?_
      refine rn_go 5 (pc' := 57) (l' := [(0, .ref 72), (1, .int x1), (2, .int x2), (3, .int x3), (4, .int x4)]) (st' := [.int ((x2 >>> (x4 &&& 31)) &&& (1 : Int32))]) (S1 := (SH ++ X)) (V1 := V) rfl ?_
      rcases ai_if h with ⟨hc, h⟩ | ⟨hc, h⟩
      · refine rn_brT rfl rfl rfl rfl hc ?_
        exact rn_sub [0, 1, 2, 3, 4] rfl rfl (t_Worths_place_90 T DT hT (X := X) hd (d_Worths_place_42 T n) (ih) x1 x2 x3 x4 V _ h)
      · refine rn_brF rfl rfl rfl rfl hc ?_
        refine rn_go 4 (pc' := 67) (l' := [(0, .ref 72), (1, .int x1), (2, .int x2), (3, .int x3), (4, .int x4)]) (st' := [.int x4, .int x1, .ref 76]) (S1 := (SH ++ X)) (V1 := V) rfl ?_
        obtain ⟨hg, h⟩ := ai_gd h
        refine rg_iast (n := 4) rfl rfl hg ?_
        refine rn_go 13 (pc' := 83) (l' := [(0, .ref 72), (1, .int x1), (2, .int x2), (3, .int x3), (4, .int x4)]) (st' := [.int x4, .int x1, .ref 72, .int x3, .int (x2 ||| ((1 : Int32) <<< (x4 &&& 31))), .int (x1 + (1 : Int32)), .ref 72]) (S1 := (SH ++ X)) (V1 := (sa V 76 (x1).toNatClampNeg x4)) rfl ?_
        obtain ⟨q1, hq1, h⟩ := ai_bd h
        refine rn_call rfl rfl rfl rfl rfl rfl (by omega) (t_Worths_worth (by omega) hq1) ?_
        refine rn_go 1 (pc' := 87) (l' := [(0, .ref 72), (1, .int x1), (2, .int x2), (3, .int x3), (4, .int x4)]) (st' := [.int (x3 + q1), .int (x2 ||| ((1 : Int32) <<< (x4 &&& 31))), .int (x1 + (1 : Int32)), .ref 72]) (S1 := (SH ++ X)) (V1 := (sa V 76 (x1).toNatClampNeg x4)) rfl ?_
        obtain ⟨q2, hq2, h⟩ := ai_bd h
        refine rn_call rfl rfl rfl rfl rfl rfl (by omega) (hT (by omega) (x1 + (1 : Int32)) (x2 ||| ((1 : Int32) <<< (x4 &&& 31))) (x3 + q1) (sa V 76 (x1).toNatClampNeg x4) _ hq2) ?_
        exact rn_sub [0, 1, 2, 3, 4] rfl rfl (t_Worths_place_90 T DT hT (X := X) hd (d_Worths_place_42 T n) (ih) x1 x2 x3 x4 q2 _ h)
def d_Worths_place_B (T : Int32 → Int32 → Int32 → ai_V → Option ai_V) (x1 : Int32) (x2 : Int32) (x3 : Int32) (V : ai_V) : Option ai_V :=
  if x1 < (gi V 72 0) then (d_Worths_place_42 T ai_N x1 x2 x3 (0 : Int32) V) else (if x3 ≤ (gi V 72 1) then (some V) else (if 0 ≤ (0 : Int32) ∧ 0 ≤ (0 : Int32) ∧ 0 ≤ (gi (si V 72 1 x3) 72 0) ∧ ((0 : Int32)).toNatClampNeg + ((gi (si V 72 1 x3) 72 0)).toNatClampNeg ≤ 4 ∧ ((0 : Int32)).toNatClampNeg + ((gi (si V 72 1 x3) 72 0)).toNatClampNeg ≤ 4 then (some (ai_cpy (si V 72 1 x3) 76 73 ((0 : Int32)).toNatClampNeg ((0 : Int32)).toNatClampNeg ((gi (si V 72 1 x3) 72 0)).toNatClampNeg)) else none))
set_option maxRecDepth 20000 in
theorem t_Worths_place_B (T : Int32 → Int32 → Int32 → ai_V → Option ai_V) (DT : Nat) (hT : ∀ {X : ai_S} {e : Nat}, DT ≤ e → ∀ (x1 : Int32) (x2 : Int32) (x3 : Int32) (V : ai_V) (r : ai_V), T x1 x2 x3 V = some r → Rn e 87 0 (lv_args 0 [.ref 72, .int x1, .int x2, .int x3]) [] (SH ++ X) V none (SH ++ X) r) {X : ai_S} {e : Nat} (hd : DT + 1 ≤ e ∧ 1 ≤ e) {x1 : Int32} {x2 : Int32} {x3 : Int32} {V : ai_V} {r : ai_V} (h : d_Worths_place_B T x1 x2 x3 V = some r) : Rn e 87 0 (lv_args 0 [.ref 72, .int x1, .int x2, .int x3]) [] (SH ++ X) V none (SH ++ X) r := by
  rw [d_Worths_place_B] at h
  refine rn_go 3 (pc' := 5) (l' := [(0, .ref 72), (1, .int x1), (2, .int x2), (3, .int x3)]) (st' := [.int (gi V 72 0), .int x1]) (S1 := (SH ++ X)) (V1 := V) rfl ?_
  rcases ai_if h with ⟨hc, h⟩ | ⟨hc, h⟩
  · refine rn_brT rfl rfl rfl rfl hc ?_
    refine rn_go 2 (pc' := 42) (l' := [(4, .int (0 : Int32)), (0, .ref 72), (1, .int x1), (2, .int x2), (3, .int x3)]) (st' := []) (S1 := (SH ++ X)) (V1 := V) rfl ?_
    exact rn_sub [1, 2, 3, 4, 0] rfl rfl (t_Worths_place_42 T DT hT (X := X) hd ai_N x1 x2 x3 (0 : Int32) V _ h)
  · refine rn_brF rfl rfl rfl rfl hc ?_
    refine rn_go 3 (pc' := 13) (l' := [(0, .ref 72), (1, .int x1), (2, .int x2), (3, .int x3)]) (st' := [.int (gi V 72 1), .int x3]) (S1 := (SH ++ X)) (V1 := V) rfl ?_
    rcases ai_if h with ⟨hc, h⟩ | ⟨hc, h⟩
    · refine rn_brT rfl rfl rfl rfl hc ?_
      obtain rfl := Option.some.inj h
      exact rn_ret rfl rfl rfl
    · refine rn_brF rfl rfl rfl rfl hc ?_
      refine rn_go 11 (pc' := 35) (l' := [(0, .ref 72), (1, .int x1), (2, .int x2), (3, .int x3)]) (st' := [.int (gi (si V 72 1 x3) 72 0), .int (0 : Int32), .ref 73, .int (0 : Int32), .ref 76]) (S1 := (SH ++ X)) (V1 := (si V 72 1 x3)) rfl ?_
      obtain ⟨hg, h⟩ := ai_gd h
      refine rg_acp (n := 4) (n1 := 4) rfl rfl rfl (by decide) hg ?_
      obtain rfl := Option.some.inj h
      exact rn_ret rfl rfl rfl
def d_Worths_place_R : Nat → Int32 → Int32 → Int32 → ai_V → Option ai_V
  | 0, _, _, _, _ => none
  | n + 1, x1, x2, x3, V => d_Worths_place_B (d_Worths_place_R n) x1 x2 x3 V
theorem t_Worths_place_R : ∀ (n : Nat) {X : ai_S} {e : Nat} (hd : n * 1 + 1 ≤ e) (x1 : Int32) (x2 : Int32) (x3 : Int32) (V : ai_V) (r : ai_V), d_Worths_place_R n x1 x2 x3 V = some r → Rn e 87 0 (lv_args 0 [.ref 72, .int x1, .int x2, .int x3]) [] (SH ++ X) V none (SH ++ X) r := by
  intro n
  induction n with
  | zero =>
    intro X e hd x1 x2 x3 V r h
    cases h
  | succ n ih =>
    intro X e hd x1 x2 x3 V r h
    exact t_Worths_place_B (d_Worths_place_R n) (n * 1 + 1) (fun hd2 => ih hd2) (by omega) (show d_Worths_place_B (d_Worths_place_R n) x1 x2 x3 V = some r from h)
def d_Worths_place : Int32 → Int32 → Int32 → ai_V → Option ai_V := d_Worths_place_R 80
theorem t_Worths_place {X : ai_S} {e : Nat} (hd : 81 ≤ e) {x1 : Int32} {x2 : Int32} {x3 : Int32} {V : ai_V} {r : ai_V} (h : d_Worths_place x1 x2 x3 V = some r) : Rn e 87 0 (lv_args 0 [.ref 72, .int x1, .int x2, .int x3]) [] (SH ++ X) V none (SH ++ X) r := t_Worths_place_R 80 (by omega) x1 x2 x3 V r h
-- RentByTheWheel$Worths.allotAll()V (72,)
def d_Worths_allotAll  (V : ai_V) : Option ai_V :=
  (d_Worths_place (0 : Int32) (0 : Int32) (0 : Int32) (si V 72 1 (-1 : Int32))).bind fun q1 => (some q1)
set_option maxRecDepth 20000 in
theorem t_Worths_allotAll {X : ai_S} {e : Nat} (hd : 82 ≤ e)  {V : ai_V} {r : ai_V} (h : d_Worths_allotAll  V = some r) : Rn e 88 0 (lv_args 0 [.ref 72]) [] (SH ++ X) V none (SH ++ X) r := by
  rw [d_Worths_allotAll] at h
  refine rn_go 7 (pc' := 9) (l' := [(0, .ref 72)]) (st' := [.int (0 : Int32), .int (0 : Int32), .int (0 : Int32), .ref 72]) (S1 := (SH ++ X)) (V1 := (si V 72 1 (-1 : Int32))) rfl ?_
  obtain ⟨q1, hq1, h⟩ := ai_bd h
  refine rn_call rfl rfl rfl rfl rfl rfl (by omega) (t_Worths_place (by omega) hq1) ?_
  obtain rfl := Option.some.inj h
  exact rn_ret rfl rfl rfl
-- RentByTheWheel$Worths.tellInto(LRentByTheWheel$Row;[I)V (72, 22, 73)
def d_Worths_tellInto_6  : Nat → Int32 → ai_V → Option ai_V
  | 0, _, _ => none
  | n + 1, x3, V => if (gi V 72 0) ≤ x3 then (some V) else (if ai_in x3 4 then ((d_Row_add (((ga V 73 (x3).toNatClampNeg)).toInt64) V).bind fun q1 => (d_Worths_tellInto_6 n (x3 + (1 : Int32)) q1)) else none)
set_option maxRecDepth 20000 in
theorem t_Worths_tellInto_6 {X : ai_S} {e : Nat} (hd : 1 ≤ e)  : ∀ (n : Nat) (x3 : Int32) (V : ai_V) (r : ai_V), d_Worths_tellInto_6  n x3 V = some r → Rn e 89 6 [(0, .ref 72), (1, .ref 22), (2, .ref 73), (3, .int x3)] [] (SH ++ X) V none (SH ++ X) r := by
  intro n
  induction n with
  | zero =>
    intro x3 V r h
    cases h
  | succ n ih =>
    intro x3 V r h
    rw [d_Worths_tellInto_6] at h
    refine rn_go 3 (pc' := 11) (l' := [(0, .ref 72), (1, .ref 22), (2, .ref 73), (3, .int x3)]) (st' := [.int (gi V 72 0), .int x3]) (S1 := (SH ++ X)) (V1 := V) rfl ?_
    rcases ai_if h with ⟨hc, h⟩ | ⟨hc, h⟩
    · refine rn_brT rfl rfl rfl rfl hc ?_
      obtain rfl := Option.some.inj h
      exact rn_ret rfl rfl rfl
    · refine rn_brF rfl rfl rfl rfl hc ?_
      refine rn_go 3 (pc' := 17) (l' := [(0, .ref 72), (1, .ref 22), (2, .ref 73), (3, .int x3)]) (st' := [.int x3, .ref 73, .ref 22]) (S1 := (SH ++ X)) (V1 := V) rfl ?_
      obtain ⟨hg, h⟩ := ai_gd h
      refine rg_iald (n := 4) rfl rfl hg ?_
      refine rn_go 1 (pc' := 19) (l' := [(0, .ref 72), (1, .ref 22), (2, .ref 73), (3, .int x3)]) (st' := [.long ((ga V 73 (x3).toNatClampNeg)).toInt64, .ref 22]) (S1 := (SH ++ X)) (V1 := V) rfl ?_
      obtain ⟨q1, hq1, h⟩ := ai_bd h
      refine rn_call rfl rfl rfl rfl rfl rfl (by omega) (t_Row_add (by omega) hq1) ?_
      refine rn_go 2 (pc' := 6) (l' := [(3, .int (x3 + (1 : Int32))), (0, .ref 72), (1, .ref 22), (2, .ref 73)]) (st' := []) (S1 := (SH ++ X)) (V1 := q1) rfl ?_
      exact rn_sub [1, 2, 3, 0] rfl rfl (ih (x3 + (1 : Int32)) q1 _ h)
def d_Worths_tellInto  (V : ai_V) : Option ai_V :=
  (d_Row_clear  V).bind fun q2 => (d_Worths_tellInto_6 ai_N (0 : Int32) q2)
set_option maxRecDepth 20000 in
theorem t_Worths_tellInto {X : ai_S} {e : Nat} (hd : 1 ≤ e)  {V : ai_V} {r : ai_V} (h : d_Worths_tellInto  V = some r) : Rn e 89 0 (lv_args 0 [.ref 72, .ref 22, .ref 73]) [] (SH ++ X) V none (SH ++ X) r := by
  rw [d_Worths_tellInto] at h
  refine rn_go 1 (pc' := 1) (l' := [(0, .ref 72), (1, .ref 22), (2, .ref 73)]) (st' := [.ref 22]) (S1 := (SH ++ X)) (V1 := V) rfl ?_
  obtain ⟨q2, hq2, h⟩ := ai_bd h
  refine rn_call rfl rfl rfl rfl rfl rfl (by omega) (t_Row_clear (by omega) hq2) ?_
  refine rn_go 2 (pc' := 6) (l' := [(3, .int (0 : Int32)), (0, .ref 72), (1, .ref 22), (2, .ref 73)]) (st' := []) (S1 := (SH ++ X)) (V1 := q2) rfl ?_
  exact rn_sub [1, 2, 3, 0] rfl rfl (t_Worths_tellInto_6 (X := X) hd ai_N (0 : Int32) q2 _ h)
-- RentByTheWheel.allot()I (0,)
def d_X_allot  (V : ai_V) : Option (Int32 × ai_V) :=
  if ¬ (gi V 72 0) = 0 then ((d_Worths_allotAll  V).bind fun q1 => ((d_Worths_tellInto  q1).bind fun q2 => (some ((gi q2 72 1), q2)))) else (some ((-2 : Int32), V))
set_option maxRecDepth 20000 in
theorem t_X_allot {X : ai_S} {e : Nat} (hd : 83 ≤ e)  {V : ai_V} {r : (Int32 × ai_V)} (h : d_X_allot  V = some r) : Rn e 135 0 (lv_args 0 [.ref 0]) [] (SH ++ X) V (some (.int r.1)) (SH ++ X) r.2 := by
  rw [d_X_allot] at h
  refine rn_go 3 (pc' := 7) (l' := [(0, .ref 0)]) (st' := [.int (gi V 72 0)]) (S1 := (SH ++ X)) (V1 := V) rfl ?_
  rcases ai_if h with ⟨hc, h⟩ | ⟨hc, h⟩
  · refine rn_brT rfl rfl rfl rfl hc ?_
    refine rn_go 2 (pc' := 17) (l' := [(0, .ref 0)]) (st' := [.ref 72]) (S1 := (SH ++ X)) (V1 := V) rfl ?_
    obtain ⟨q1, hq1, h⟩ := ai_bd h
    refine rn_call rfl rfl rfl rfl rfl rfl (by omega) (t_Worths_allotAll (by omega) hq1) ?_
    refine rn_go 7 (pc' := 35) (l' := [(0, .ref 0)]) (st' := [.ref 73, .ref 22, .ref 72]) (S1 := (SH ++ X)) (V1 := q1) rfl ?_
    obtain ⟨q2, hq2, h⟩ := ai_bd h
    refine rn_call rfl rfl rfl rfl rfl rfl (by omega) (t_Worths_tellInto (by omega) hq2) ?_
    refine rn_go 3 (pc' := 45) (l' := [(0, .ref 0)]) (st' := [.int (gi q2 72 1)]) (S1 := (SH ++ X)) (V1 := q2) rfl ?_
    obtain rfl := Option.some.inj h
    exact rn_ret rfl rfl rfl
  · refine rn_brF rfl rfl rfl rfl hc ?_
    refine rn_go 1 (pc' := 12) (l' := [(0, .ref 0)]) (st' := [.int (-2 : Int32)]) (S1 := (SH ++ X)) (V1 := V) rfl ?_
    obtain rfl := Option.some.inj h
    exact rn_ret rfl rfl rfl
-- RentByTheWheel$Worths.nobodyEnvies()Z (72,)
def d_Worths_nobodyEnvies_36 (F2 : Int32 → ai_V → Option Int32) : Nat → Int32 → Int32 → Int32 → ai_V → Option Int32
  | 0, _, _, _, _ => none
  | n + 1, x1, x2, x3, V => if (gi V 72 0) ≤ x3 then (F2 (x1 + (1 : Int32)) V) else ((d_Worths_worth x1 x3 V).bind fun q1 => (if ai_in x3 4 then (if (q1 - (ga V 77 (x3).toNatClampNeg)) ≤ x2 then (d_Worths_nobodyEnvies_36 F2 n x1 x2 (x3 + (1 : Int32)) V) else (some (0 : Int32))) else none))
set_option maxRecDepth 20000 in
theorem t_Worths_nobodyEnvies_36 {X : ai_S} {e : Nat} (hd : 1 ≤ e) (F2 : Int32 → ai_V → Option Int32) (hF2 : ∀ (x1 : Int32) (V : ai_V) (r : Int32), F2 x1 V = some r → Rn e 90 2 [(0, .ref 72), (1, .int x1)] [] (SH ++ X) V (some (.int r)) (SH ++ X) V) : ∀ (n : Nat) (x1 : Int32) (x2 : Int32) (x3 : Int32) (V : ai_V) (r : Int32), d_Worths_nobodyEnvies_36 F2 n x1 x2 x3 V = some r → Rn e 90 36 [(0, .ref 72), (1, .int x1), (2, .int x2), (3, .int x3)] [] (SH ++ X) V (some (.int r)) (SH ++ X) V := by
  intro n
  induction n with
  | zero =>
    intro x1 x2 x3 V r h
    cases h
  | succ n ih =>
    intro x1 x2 x3 V r h
    rw [d_Worths_nobodyEnvies_36] at h
    refine rn_go 3 (pc' := 41) (l' := [(0, .ref 72), (1, .int x1), (2, .int x2), (3, .int x3)]) (st' := [.int (gi V 72 0), .int x3]) (S1 := (SH ++ X)) (V1 := V) rfl ?_
    rcases ai_if h with ⟨hc, h⟩ | ⟨hc, h⟩
    · refine rn_brT rfl rfl rfl rfl hc ?_
      refine rn_go 2 (pc' := 2) (l' := [(1, .int (x1 + (1 : Int32))), (0, .ref 72), (2, .int x2), (3, .int x3)]) (st' := []) (S1 := (SH ++ X)) (V1 := V) rfl ?_
      exact rn_sub [1, 0] rfl rfl (hF2 (x1 + (1 : Int32)) V _ h)
    · refine rn_brF rfl rfl rfl rfl hc ?_
      refine rn_go 3 (pc' := 47) (l' := [(0, .ref 72), (1, .int x1), (2, .int x2), (3, .int x3)]) (st' := [.int x3, .int x1, .ref 72]) (S1 := (SH ++ X)) (V1 := V) rfl ?_
      obtain ⟨q1, hq1, h⟩ := ai_bd h
      refine rn_call rfl rfl rfl rfl rfl rfl (by omega) (t_Worths_worth (by omega) hq1) ?_
      refine rn_go 3 (pc' := 55) (l' := [(0, .ref 72), (1, .int x1), (2, .int x2), (3, .int x3)]) (st' := [.int x3, .ref 77, .int q1]) (S1 := (SH ++ X)) (V1 := V) rfl ?_
      obtain ⟨hg, h⟩ := ai_gd h
      refine rg_iald (n := 4) rfl rfl hg ?_
      refine rn_go 2 (pc' := 58) (l' := [(0, .ref 72), (1, .int x1), (2, .int x2), (3, .int x3)]) (st' := [.int x2, .int (q1 - (ga V 77 (x3).toNatClampNeg))]) (S1 := (SH ++ X)) (V1 := V) rfl ?_
      rcases ai_if h with ⟨hc, h⟩ | ⟨hc, h⟩
      · refine rn_brT rfl rfl rfl rfl hc ?_
        refine rn_go 2 (pc' := 36) (l' := [(3, .int (x3 + (1 : Int32))), (0, .ref 72), (1, .int x1), (2, .int x2)]) (st' := []) (S1 := (SH ++ X)) (V1 := V) rfl ?_
        exact rn_sub [1, 2, 3, 0] rfl rfl (ih x1 x2 (x3 + (1 : Int32)) V _ h)
      · refine rn_brF rfl rfl rfl rfl hc ?_
        refine rn_go 1 (pc' := 62) (l' := [(0, .ref 72), (1, .int x1), (2, .int x2), (3, .int x3)]) (st' := [.int (0 : Int32)]) (S1 := (SH ++ X)) (V1 := V) rfl ?_
        obtain rfl := Option.some.inj h
        exact rg_zret rfl (by decide)
def d_Worths_nobodyEnvies_2  : Nat → Int32 → ai_V → Option Int32
  | 0, _, _ => none
  | n + 1, x1, V => if (gi V 72 0) ≤ x1 then (some (1 : Int32)) else (if ai_in x1 4 then ((d_Worths_worth x1 (ga V 73 (x1).toNatClampNeg) V).bind fun q2 => (if ai_in x1 4 then (if ai_in (ga V 73 (x1).toNatClampNeg) 4 then (d_Worths_nobodyEnvies_36 (d_Worths_nobodyEnvies_2 n) ai_N x1 (q2 - (ga V 77 ((ga V 73 (x1).toNatClampNeg)).toNatClampNeg)) (0 : Int32) V) else none) else none)) else none)
set_option maxRecDepth 20000 in
theorem t_Worths_nobodyEnvies_2 {X : ai_S} {e : Nat} (hd : 1 ≤ e)  : ∀ (n : Nat) (x1 : Int32) (V : ai_V) (r : Int32), d_Worths_nobodyEnvies_2  n x1 V = some r → Rn e 90 2 [(0, .ref 72), (1, .int x1)] [] (SH ++ X) V (some (.int r)) (SH ++ X) V := by
  intro n
  induction n with
  | zero =>
    intro x1 V r h
    cases h
  | succ n ih =>
    intro x1 V r h
    rw [d_Worths_nobodyEnvies_2] at h
    refine rn_go 3 (pc' := 7) (l' := [(0, .ref 72), (1, .int x1)]) (st' := [.int (gi V 72 0), .int x1]) (S1 := (SH ++ X)) (V1 := V) rfl ?_
    rcases ai_if h with ⟨hc, h⟩ | ⟨hc, h⟩
    · refine rn_brT rfl rfl rfl rfl hc ?_
      refine rn_go 1 (pc' := 76) (l' := [(0, .ref 72), (1, .int x1)]) (st' := [.int (1 : Int32)]) (S1 := (SH ++ X)) (V1 := V) rfl ?_
      obtain rfl := Option.some.inj h
      exact rg_zret rfl (by decide)
    · refine rn_brF rfl rfl rfl rfl hc ?_
      refine rn_go 5 (pc' := 17) (l' := [(0, .ref 72), (1, .int x1)]) (st' := [.int x1, .ref 73, .int x1, .ref 72]) (S1 := (SH ++ X)) (V1 := V) rfl ?_
      obtain ⟨hg, h⟩ := ai_gd h
      refine rg_iald (n := 4) rfl rfl hg ?_
      obtain ⟨q2, hq2, h⟩ := ai_bd h
      refine rn_call rfl rfl rfl rfl rfl rfl (by omega) (t_Worths_worth (by omega) hq2) ?_
      refine rn_go 5 (pc' := 30) (l' := [(0, .ref 72), (1, .int x1)]) (st' := [.int x1, .ref 73, .ref 77, .int q2]) (S1 := (SH ++ X)) (V1 := V) rfl ?_
      obtain ⟨hg, h⟩ := ai_gd h
      refine rg_iald (n := 4) rfl rfl hg ?_
      obtain ⟨hg, h⟩ := ai_gd h
      refine rg_iald (n := 4) rfl rfl hg ?_
      refine rn_go 4 (pc' := 36) (l' := [(3, .int (0 : Int32)), (2, .int (q2 - (ga V 77 ((ga V 73 (x1).toNatClampNeg)).toNatClampNeg))), (0, .ref 72), (1, .int x1)]) (st' := []) (S1 := (SH ++ X)) (V1 := V) rfl ?_
      exact rn_sub [2, 3, 1, 0] rfl rfl (t_Worths_nobodyEnvies_36 (X := X) hd (d_Worths_nobodyEnvies_2 n) (ih) ai_N x1 (q2 - (ga V 77 ((ga V 73 (x1).toNatClampNeg)).toNatClampNeg)) (0 : Int32) V _ h)
def d_Worths_nobodyEnvies  (V : ai_V) : Option Int32 :=
  d_Worths_nobodyEnvies_2 ai_N (0 : Int32) V
set_option maxRecDepth 20000 in
theorem t_Worths_nobodyEnvies {X : ai_S} {e : Nat} (hd : 1 ≤ e)  {V : ai_V} {r : Int32} (h : d_Worths_nobodyEnvies  V = some r) : Rn e 90 0 (lv_args 0 [.ref 72]) [] (SH ++ X) V (some (.int r)) (SH ++ X) V := by
  rw [d_Worths_nobodyEnvies] at h
  refine rn_go 2 (pc' := 2) (l' := [(1, .int (0 : Int32)), (0, .ref 72)]) (st' := []) (S1 := (SH ++ X)) (V1 := V) rfl ?_
  exact rn_sub [1, 0] rfl rfl (t_Worths_nobodyEnvies_2 (X := X) hd ai_N (0 : Int32) V _ h)
-- RentByTheWheel$Worths.share(II)V (72, None, None)
def d_Worths_share_43 (T : Int32 → Int32 → ai_V → Option ai_V)   (V : ai_V) : Option ai_V :=
  some (si V 72 7 ((gi V 72 7) + (1 : Int32)))
set_option maxRecDepth 20000 in
theorem t_Worths_share_43 (T : Int32 → Int32 → ai_V → Option ai_V) (DT : Nat) (hT : ∀ {X : ai_S} {e : Nat}, DT ≤ e → ∀ (x1 : Int32) (x2 : Int32) (V : ai_V) (r : ai_V), T x1 x2 V = some r → Rn e 91 0 (lv_args 0 [.ref 72, .int x1, .int x2]) [] (SH ++ X) V none (SH ++ X) r) {X : ai_S} {e : Nat} (hd : DT + 1 ≤ e ∧ 2 ≤ e)   (V : ai_V) (r : ai_V) (h : d_Worths_share_43 T   V = some r) : Rn e 91 43 [(0, .ref 72)] [] (SH ++ X) V none (SH ++ X) r := by
  rw [d_Worths_share_43] at h
  refine rn_go 6 (pc' := 53) (l' := [(0, .ref 72)]) (st' := []) (S1 := (SH ++ X)) (V1 := (si V 72 7 ((gi V 72 7) + (1 : Int32)))) rfl ?_
  obtain rfl := Option.some.inj h
  exact rn_ret rfl rfl rfl
def d_Worths_share_75 (T : Int32 → Int32 → ai_V → Option ai_V)  : Nat → Int32 → Int32 → Int32 → ai_V → Option ai_V
  | 0, _, _, _, _ => none
  | n + 1, x1, x2, x4, V => if (12 : Int32) < x4 then (some V) else (if x2 < x4 then (some V) else (if ai_in x1 4 then ((T (x1 + (1 : Int32)) (x2 - x4) (sa V 77 (x1).toNatClampNeg x4)).bind fun q1 => (d_Worths_share_75 T n x1 x2 (x4 + (1 : Int32)) q1)) else none))
set_option maxRecDepth 20000 in
theorem t_Worths_share_75 (T : Int32 → Int32 → ai_V → Option ai_V) (DT : Nat) (hT : ∀ {X : ai_S} {e : Nat}, DT ≤ e → ∀ (x1 : Int32) (x2 : Int32) (V : ai_V) (r : ai_V), T x1 x2 V = some r → Rn e 91 0 (lv_args 0 [.ref 72, .int x1, .int x2]) [] (SH ++ X) V none (SH ++ X) r) {X : ai_S} {e : Nat} (hd : DT + 1 ≤ e ∧ 2 ≤ e)  : ∀ (n : Nat) (x1 : Int32) (x2 : Int32) (x4 : Int32) (V : ai_V) (r : ai_V), d_Worths_share_75 T  n x1 x2 x4 V = some r → Rn e 91 75 [(0, .ref 72), (1, .int x1), (2, .int x2), (4, .int x4)] [] (SH ++ X) V none (SH ++ X) r := by
  intro n
  induction n with
  | zero =>
    intro x1 x2 x4 V r h
    cases h
  | succ n ih =>
    intro x1 x2 x4 V r h
    rw [d_Worths_share_75] at h
    refine rn_go 2 (pc' := 79) (l' := [(0, .ref 72), (1, .int x1), (2, .int x2), (4, .int x4)]) (st' := [.int (12 : Int32), .int x4]) (S1 := (SH ++ X)) (V1 := V) rfl ?_
    rcases ai_if h with ⟨hc, h⟩ | ⟨hc, h⟩
    · refine rn_brT rfl rfl rfl rfl hc ?_
      obtain rfl := Option.some.inj h
      exact rn_ret rfl rfl rfl
    · refine rn_brF rfl rfl rfl rfl hc ?_
      refine rn_go 2 (pc' := 85) (l' := [(0, .ref 72), (1, .int x1), (2, .int x2), (4, .int x4)]) (st' := [.int x2, .int x4]) (S1 := (SH ++ X)) (V1 := V) rfl ?_
      rcases ai_if h with ⟨hc, h⟩ | ⟨hc, h⟩
      · refine rn_brT rfl rfl rfl rfl hc ?_
        obtain rfl := Option.some.inj h
        exact rn_ret rfl rfl rfl
      · refine rn_brF rfl rfl rfl rfl hc ?_
        refine rn_go 4 (pc' := 95) (l' := [(0, .ref 72), (1, .int x1), (2, .int x2), (4, .int x4)]) (st' := [.int x4, .int x1, .ref 77]) (S1 := (SH ++ X)) (V1 := V) rfl ?_
        obtain ⟨hg, h⟩ := ai_gd h
        refine rg_iast (n := 4) rfl rfl hg ?_
        refine rn_go 7 (pc' := 104) (l' := [(0, .ref 72), (1, .int x1), (2, .int x2), (4, .int x4)]) (st' := [.int (x2 - x4), .int (x1 + (1 : Int32)), .ref 72]) (S1 := (SH ++ X)) (V1 := (sa V 77 (x1).toNatClampNeg x4)) rfl ?_
        obtain ⟨q1, hq1, h⟩ := ai_bd h
        refine rn_call rfl rfl rfl rfl rfl rfl (by omega) (hT (by omega) (x1 + (1 : Int32)) (x2 - x4) (sa V 77 (x1).toNatClampNeg x4) _ hq1) ?_
        refine rn_go 2 (pc' := 75) (l' := [(4, .int (x4 + (1 : Int32))), (0, .ref 72), (1, .int x1), (2, .int x2)]) (st' := []) (S1 := (SH ++ X)) (V1 := q1) rfl ?_
        exact rn_sub [1, 2, 3, 0] rfl rfl (ih x1 x2 (x4 + (1 : Int32)) q1 _ h)
def d_Worths_share_B (T : Int32 → Int32 → ai_V → Option ai_V) (x1 : Int32) (x2 : Int32) (V : ai_V) : Option ai_V :=
  if x1 < (gi V 72 0) then (d_Worths_share_75 T ai_N x1 x2 (ai_max (0 : Int32) (x2 - ((12 : Int32) * (((gi V 72 0) - (1 : Int32)) - x1)))) V) else (if ¬ x2 = 0 then (some V) else ((d_Worths_nobodyEnvies  V).bind fun q2 => (if q2 = 0 then (some V) else (if ¬ (gi V 72 7) = 0 then (d_Worths_share_43 T V) else (if 0 ≤ (0 : Int32) ∧ 0 ≤ (0 : Int32) ∧ 0 ≤ (gi V 72 0) ∧ ((0 : Int32)).toNatClampNeg + ((gi V 72 0)).toNatClampNeg ≤ 4 ∧ ((0 : Int32)).toNatClampNeg + ((gi V 72 0)).toNatClampNeg ≤ 4 then (d_Worths_share_43 T (ai_cpy V 77 74 ((0 : Int32)).toNatClampNeg ((0 : Int32)).toNatClampNeg ((gi V 72 0)).toNatClampNeg)) else none)))))
set_option maxRecDepth 20000 in
theorem t_Worths_share_B (T : Int32 → Int32 → ai_V → Option ai_V) (DT : Nat) (hT : ∀ {X : ai_S} {e : Nat}, DT ≤ e → ∀ (x1 : Int32) (x2 : Int32) (V : ai_V) (r : ai_V), T x1 x2 V = some r → Rn e 91 0 (lv_args 0 [.ref 72, .int x1, .int x2]) [] (SH ++ X) V none (SH ++ X) r) {X : ai_S} {e : Nat} (hd : DT + 1 ≤ e ∧ 2 ≤ e) {x1 : Int32} {x2 : Int32} {V : ai_V} {r : ai_V} (h : d_Worths_share_B T x1 x2 V = some r) : Rn e 91 0 (lv_args 0 [.ref 72, .int x1, .int x2]) [] (SH ++ X) V none (SH ++ X) r := by
  rw [d_Worths_share_B] at h
  refine rn_go 3 (pc' := 5) (l' := [(0, .ref 72), (1, .int x1), (2, .int x2)]) (st' := [.int (gi V 72 0), .int x1]) (S1 := (SH ++ X)) (V1 := V) rfl ?_
  rcases ai_if h with ⟨hc, h⟩ | ⟨hc, h⟩
  · refine rn_brT rfl rfl rfl rfl hc ?_
    refine rn_go 15 (pc' := 75) (l' := [(4, .int (ai_max (0 : Int32) (x2 - ((12 : Int32) * (((gi V 72 0) - (1 : Int32)) - x1))))), (3, .int (ai_max (0 : Int32) (x2 - ((12 : Int32) * (((gi V 72 0) - (1 : Int32)) - x1))))), (0, .ref 72), (1, .int x1), (2, .int x2)]) (st' := []) (S1 := (SH ++ X)) (V1 := V) rfl ?_
    exact rn_sub [2, 3, 4, 0] rfl rfl (t_Worths_share_75 T DT hT (X := X) hd ai_N x1 x2 (ai_max (0 : Int32) (x2 - ((12 : Int32) * (((gi V 72 0) - (1 : Int32)) - x1)))) V _ h)
  · refine rn_brF rfl rfl rfl rfl hc ?_
    refine rn_go 1 (pc' := 9) (l' := [(0, .ref 72), (1, .int x1), (2, .int x2)]) (st' := [.int x2]) (S1 := (SH ++ X)) (V1 := V) rfl ?_
    rcases ai_if h with ⟨hc, h⟩ | ⟨hc, h⟩
    · refine rn_brT rfl rfl rfl rfl hc ?_
      obtain rfl := Option.some.inj h
      exact rn_ret rfl rfl rfl
    · refine rn_brF rfl rfl rfl rfl hc ?_
      refine rn_go 1 (pc' := 13) (l' := [(0, .ref 72), (1, .int x1), (2, .int x2)]) (st' := [.ref 72]) (S1 := (SH ++ X)) (V1 := V) rfl ?_
      obtain ⟨q2, hq2, h⟩ := ai_bd h
      refine rn_call rfl rfl rfl rfl rfl rfl (by omega) (t_Worths_nobodyEnvies (by omega) hq2) ?_
      rcases ai_if h with ⟨hc, h⟩ | ⟨hc, h⟩
      · refine rn_brT rfl rfl rfl rfl hc ?_
        obtain rfl := Option.some.inj h
        exact rn_ret rfl rfl rfl
      · refine rn_brF rfl rfl rfl rfl hc ?_
        refine rn_go 2 (pc' := 23) (l' := [(0, .ref 72), (1, .int x1), (2, .int x2)]) (st' := [.int (gi V 72 7)]) (S1 := (SH ++ X)) (V1 := V) rfl ?_
        rcases ai_if h with ⟨hc, h⟩ | ⟨hc, h⟩
        · refine rn_brT rfl rfl rfl rfl hc ?_
          exact rn_sub [0] rfl rfl (t_Worths_share_43 T DT hT (X := X) hd V _ h)
        · refine rn_brF rfl rfl rfl rfl hc ?_
          refine rn_go 8 (pc' := 40) (l' := [(0, .ref 72), (1, .int x1), (2, .int x2)]) (st' := [.int (gi V 72 0), .int (0 : Int32), .ref 74, .int (0 : Int32), .ref 77]) (S1 := (SH ++ X)) (V1 := V) rfl ?_
          obtain ⟨hg, h⟩ := ai_gd h
          refine rg_acp (n := 4) (n1 := 4) rfl rfl rfl (by decide) hg ?_
          exact rn_sub [0] rfl rfl (t_Worths_share_43 T DT hT (X := X) hd (ai_cpy V 77 74 ((0 : Int32)).toNatClampNeg ((0 : Int32)).toNatClampNeg ((gi V 72 0)).toNatClampNeg) _ h)
def d_Worths_share_R : Nat → Int32 → Int32 → ai_V → Option ai_V
  | 0, _, _, _ => none
  | n + 1, x1, x2, V => d_Worths_share_B (d_Worths_share_R n) x1 x2 V
theorem t_Worths_share_R : ∀ (n : Nat) {X : ai_S} {e : Nat} (hd : n * 1 + 2 ≤ e) (x1 : Int32) (x2 : Int32) (V : ai_V) (r : ai_V), d_Worths_share_R n x1 x2 V = some r → Rn e 91 0 (lv_args 0 [.ref 72, .int x1, .int x2]) [] (SH ++ X) V none (SH ++ X) r := by
  intro n
  induction n with
  | zero =>
    intro X e hd x1 x2 V r h
    cases h
  | succ n ih =>
    intro X e hd x1 x2 V r h
    exact t_Worths_share_B (d_Worths_share_R n) (n * 1 + 2) (fun hd2 => ih hd2) (by omega) (show d_Worths_share_B (d_Worths_share_R n) x1 x2 V = some r from h)
def d_Worths_share : Int32 → Int32 → ai_V → Option ai_V := d_Worths_share_R 80
theorem t_Worths_share {X : ai_S} {e : Nat} (hd : 82 ≤ e) {x1 : Int32} {x2 : Int32} {V : ai_V} {r : ai_V} (h : d_Worths_share x1 x2 V = some r) : Rn e 91 0 (lv_args 0 [.ref 72, .int x1, .int x2]) [] (SH ++ X) V none (SH ++ X) r := t_Worths_share_R 80 (by omega) x1 x2 V r h
-- RentByTheWheel$Worths.countRents(I)I (72, None)
def d_Worths_countRents (x1 : Int32) (V : ai_V) : Option (Int32 × ai_V) :=
  (d_Worths_allotAll  V).bind fun q1 => ((d_Worths_share (0 : Int32) x1 (si q1 72 7 (0 : Int32))).bind fun q2 => (some ((gi q2 72 7), q2)))
set_option maxRecDepth 20000 in
theorem t_Worths_countRents {X : ai_S} {e : Nat} (hd : 83 ≤ e) {x1 : Int32} {V : ai_V} {r : (Int32 × ai_V)} (h : d_Worths_countRents x1 V = some r) : Rn e 92 0 (lv_args 0 [.ref 72, .int x1]) [] (SH ++ X) V (some (.int r.1)) (SH ++ X) r.2 := by
  rw [d_Worths_countRents] at h
  refine rn_go 1 (pc' := 1) (l' := [(0, .ref 72), (1, .int x1)]) (st' := [.ref 72]) (S1 := (SH ++ X)) (V1 := V) rfl ?_
  obtain ⟨q1, hq1, h⟩ := ai_bd h
  refine rn_call rfl rfl rfl rfl rfl rfl (by omega) (t_Worths_allotAll (by omega) hq1) ?_
  refine rn_go 6 (pc' := 12) (l' := [(0, .ref 72), (1, .int x1)]) (st' := [.int x1, .int (0 : Int32), .ref 72]) (S1 := (SH ++ X)) (V1 := (si q1 72 7 (0 : Int32))) rfl ?_
  obtain ⟨q2, hq2, h⟩ := ai_bd h
  refine rn_call rfl rfl rfl rfl rfl rfl (by omega) (t_Worths_share (by omega) hq2) ?_
  refine rn_go 2 (pc' := 19) (l' := [(0, .ref 72), (1, .int x1)]) (st' := [.int (gi q2 72 7)]) (S1 := (SH ++ X)) (V1 := q2) rfl ?_
  obtain rfl := Option.some.inj h
  exact rn_ret rfl rfl rfl
-- RentByTheWheel$Worths.tellInto(LRentByTheWheel$Row;[I)V (72, 22, 74)
def d_Worths_tellInto_72_22_74_6  : Nat → Int32 → ai_V → Option ai_V
  | 0, _, _ => none
  | n + 1, x3, V => if (gi V 72 0) ≤ x3 then (some V) else (if ai_in x3 4 then ((d_Row_add (((ga V 74 (x3).toNatClampNeg)).toInt64) V).bind fun q1 => (d_Worths_tellInto_72_22_74_6 n (x3 + (1 : Int32)) q1)) else none)
set_option maxRecDepth 20000 in
theorem t_Worths_tellInto_72_22_74_6 {X : ai_S} {e : Nat} (hd : 1 ≤ e)  : ∀ (n : Nat) (x3 : Int32) (V : ai_V) (r : ai_V), d_Worths_tellInto_72_22_74_6  n x3 V = some r → Rn e 89 6 [(0, .ref 72), (1, .ref 22), (2, .ref 74), (3, .int x3)] [] (SH ++ X) V none (SH ++ X) r := by
  intro n
  induction n with
  | zero =>
    intro x3 V r h
    cases h
  | succ n ih =>
    intro x3 V r h
    rw [d_Worths_tellInto_72_22_74_6] at h
    refine rn_go 3 (pc' := 11) (l' := [(0, .ref 72), (1, .ref 22), (2, .ref 74), (3, .int x3)]) (st' := [.int (gi V 72 0), .int x3]) (S1 := (SH ++ X)) (V1 := V) rfl ?_
    rcases ai_if h with ⟨hc, h⟩ | ⟨hc, h⟩
    · refine rn_brT rfl rfl rfl rfl hc ?_
      obtain rfl := Option.some.inj h
      exact rn_ret rfl rfl rfl
    · refine rn_brF rfl rfl rfl rfl hc ?_
      refine rn_go 3 (pc' := 17) (l' := [(0, .ref 72), (1, .ref 22), (2, .ref 74), (3, .int x3)]) (st' := [.int x3, .ref 74, .ref 22]) (S1 := (SH ++ X)) (V1 := V) rfl ?_
      obtain ⟨hg, h⟩ := ai_gd h
      refine rg_iald (n := 4) rfl rfl hg ?_
      refine rn_go 1 (pc' := 19) (l' := [(0, .ref 72), (1, .ref 22), (2, .ref 74), (3, .int x3)]) (st' := [.long ((ga V 74 (x3).toNatClampNeg)).toInt64, .ref 22]) (S1 := (SH ++ X)) (V1 := V) rfl ?_
      obtain ⟨q1, hq1, h⟩ := ai_bd h
      refine rn_call rfl rfl rfl rfl rfl rfl (by omega) (t_Row_add (by omega) hq1) ?_
      refine rn_go 2 (pc' := 6) (l' := [(3, .int (x3 + (1 : Int32))), (0, .ref 72), (1, .ref 22), (2, .ref 74)]) (st' := []) (S1 := (SH ++ X)) (V1 := q1) rfl ?_
      exact rn_sub [1, 2, 3, 0] rfl rfl (ih (x3 + (1 : Int32)) q1 _ h)
def d_Worths_tellInto_72_22_74  (V : ai_V) : Option ai_V :=
  (d_Row_clear  V).bind fun q2 => (d_Worths_tellInto_72_22_74_6 ai_N (0 : Int32) q2)
set_option maxRecDepth 20000 in
theorem t_Worths_tellInto_72_22_74 {X : ai_S} {e : Nat} (hd : 1 ≤ e)  {V : ai_V} {r : ai_V} (h : d_Worths_tellInto_72_22_74  V = some r) : Rn e 89 0 (lv_args 0 [.ref 72, .ref 22, .ref 74]) [] (SH ++ X) V none (SH ++ X) r := by
  rw [d_Worths_tellInto_72_22_74] at h
  refine rn_go 1 (pc' := 1) (l' := [(0, .ref 72), (1, .ref 22), (2, .ref 74)]) (st' := [.ref 22]) (S1 := (SH ++ X)) (V1 := V) rfl ?_
  obtain ⟨q2, hq2, h⟩ := ai_bd h
  refine rn_call rfl rfl rfl rfl rfl rfl (by omega) (t_Row_clear (by omega) hq2) ?_
  refine rn_go 2 (pc' := 6) (l' := [(3, .int (0 : Int32)), (0, .ref 72), (1, .ref 22), (2, .ref 74)]) (st' := []) (S1 := (SH ++ X)) (V1 := q2) rfl ?_
  exact rn_sub [1, 2, 3, 0] rfl rfl (t_Worths_tellInto_72_22_74_6 (X := X) hd ai_N (0 : Int32) q2 _ h)
-- RentByTheWheel.rents(I)I (0, None)
def d_X_rents (x1 : Int32) (V : ai_V) : Option (Int32 × ai_V) :=
  if x1 < 0 then (some ((-1 : Int32), V)) else (if x1 ≤ (48 : Int32) then (if ¬ (gi V 72 0) = 0 then ((d_Worths_countRents x1 V).bind fun q1 => ((d_Row_clear  q1.2).bind fun q2 => (if q1.1 ≤ 0 then (some (q1.1, q2)) else ((d_Worths_tellInto_72_22_74  q2).bind fun q3 => (some (q1.1, q3)))))) else (some ((-2 : Int32), V))) else (some ((-1 : Int32), V)))
set_option maxRecDepth 20000 in
theorem t_X_rents {X : ai_S} {e : Nat} (hd : 84 ≤ e) {x1 : Int32} {V : ai_V} {r : (Int32 × ai_V)} (h : d_X_rents x1 V = some r) : Rn e 136 0 (lv_args 0 [.ref 0, .int x1]) [] (SH ++ X) V (some (.int r.1)) (SH ++ X) r.2 := by
  rw [d_X_rents] at h
  refine rn_go 1 (pc' := 1) (l' := [(0, .ref 0), (1, .int x1)]) (st' := [.int x1]) (S1 := (SH ++ X)) (V1 := V) rfl ?_
  rcases ai_if h with ⟨hc, h⟩ | ⟨hc, h⟩
  · refine rn_brT rfl rfl rfl rfl hc ?_
    refine rn_go 1 (pc' := 11) (l' := [(0, .ref 0), (1, .int x1)]) (st' := [.int (-1 : Int32)]) (S1 := (SH ++ X)) (V1 := V) rfl ?_
    obtain rfl := Option.some.inj h
    exact rn_ret rfl rfl rfl
  · refine rn_brF rfl rfl rfl rfl hc ?_
    refine rn_go 2 (pc' := 7) (l' := [(0, .ref 0), (1, .int x1)]) (st' := [.int (48 : Int32), .int x1]) (S1 := (SH ++ X)) (V1 := V) rfl ?_
    rcases ai_if h with ⟨hc, h⟩ | ⟨hc, h⟩
    · refine rn_brT rfl rfl rfl rfl hc ?_
      refine rn_go 3 (pc' := 19) (l' := [(0, .ref 0), (1, .int x1)]) (st' := [.int (gi V 72 0)]) (S1 := (SH ++ X)) (V1 := V) rfl ?_
      rcases ai_if h with ⟨hc, h⟩ | ⟨hc, h⟩
      · refine rn_brT rfl rfl rfl rfl hc ?_
        refine rn_go 3 (pc' := 30) (l' := [(0, .ref 0), (1, .int x1)]) (st' := [.int x1, .ref 72]) (S1 := (SH ++ X)) (V1 := V) rfl ?_
        obtain ⟨q1, hq1, h⟩ := ai_bd h
        refine rn_call rfl rfl rfl rfl rfl rfl (by omega) (t_Worths_countRents (by omega) hq1) ?_
        refine rn_go 3 (pc' := 38) (l' := [(2, .int q1.1), (0, .ref 0), (1, .int x1)]) (st' := [.ref 22]) (S1 := (SH ++ X)) (V1 := q1.2) rfl ?_
        obtain ⟨q2, hq2, h⟩ := ai_bd h
        refine rn_call rfl rfl rfl rfl rfl rfl (by omega) (t_Row_clear (by omega) hq2) ?_
        refine rn_go 1 (pc' := 42) (l' := [(2, .int q1.1), (0, .ref 0), (1, .int x1)]) (st' := [.int q1.1]) (S1 := (SH ++ X)) (V1 := q2) rfl ?_
        rcases ai_if h with ⟨hc, h⟩ | ⟨hc, h⟩
        · refine rn_brT rfl rfl rfl rfl hc ?_
          refine rn_go 1 (pc' := 64) (l' := [(2, .int q1.1), (0, .ref 0), (1, .int x1)]) (st' := [.int q1.1]) (S1 := (SH ++ X)) (V1 := q2) rfl ?_
          obtain rfl := Option.some.inj h
          exact rn_ret rfl rfl rfl
        · refine rn_brF rfl rfl rfl rfl hc ?_
          refine rn_go 7 (pc' := 60) (l' := [(2, .int q1.1), (0, .ref 0), (1, .int x1)]) (st' := [.ref 74, .ref 22, .ref 72]) (S1 := (SH ++ X)) (V1 := q2) rfl ?_
          obtain ⟨q3, hq3, h⟩ := ai_bd h
          refine rn_call rfl rfl rfl rfl rfl rfl (by omega) (t_Worths_tellInto_72_22_74 (by omega) hq3) ?_
          refine rn_go 1 (pc' := 64) (l' := [(2, .int q1.1), (0, .ref 0), (1, .int x1)]) (st' := [.int q1.1]) (S1 := (SH ++ X)) (V1 := q3) rfl ?_
          obtain rfl := Option.some.inj h
          exact rn_ret rfl rfl rfl
      · refine rn_brF rfl rfl rfl rfl hc ?_
        refine rn_go 1 (pc' := 24) (l' := [(0, .ref 0), (1, .int x1)]) (st' := [.int (-2 : Int32)]) (S1 := (SH ++ X)) (V1 := V) rfl ?_
        obtain rfl := Option.some.inj h
        exact rn_ret rfl rfl rfl
    · refine rn_brF rfl rfl rfl rfl hc ?_
      refine rn_go 1 (pc' := 11) (l' := [(0, .ref 0), (1, .int x1)]) (st' := [.int (-1 : Int32)]) (S1 := (SH ++ X)) (V1 := V) rfl ?_
      obtain rfl := Option.some.inj h
      exact rn_ret rfl rfl rfl
-- RentByTheWheel.gain(IIII)I (0, None, None, None, None)
def d_X_gain_73  (s0 : Int32) (s1 : Int32) (V : ai_V) : Option (Int32 × ai_V) :=
  some ((s1 - s0), V)
set_option maxRecDepth 20000 in
theorem t_X_gain_73 {X : ai_S} {e : Nat} (hd : 5 ≤ e)  (s0 : Int32) (s1 : Int32) (V : ai_V) (r : (Int32 × ai_V)) (h : d_X_gain_73  s0 s1 V = some r) : Rn e 137 73 [] [.int s0, .int s1] (SH ++ X) V (some (.int r.1)) (SH ++ X) r.2 := by
  rw [d_X_gain_73] at h
  refine rn_go 1 (pc' := 74) (l' := []) (st' := [.int (s1 - s0)]) (S1 := (SH ++ X)) (V1 := V) rfl ?_
  obtain rfl := Option.some.inj h
  exact rn_ret rfl rfl rfl
def d_X_gain_26  (x4 : Int32) (x5 : Int32) (s0 : Int32) (V : ai_V) : Option (Int32 × ai_V) :=
  (d_Wheel_together x5 s0 V).bind fun q1 => (if ¬ x5 = (-1 : Int32) then ((d_House_turnsOf x5 s0 q1.2).bind fun q2 => (d_X_gain_73 q2 ((q1.1 / (2 : Int32)) * x4) q1.2)) else (d_X_gain_73 (0 : Int32) ((q1.1 / (2 : Int32)) * x4) q1.2))
set_option maxRecDepth 20000 in
theorem t_X_gain_26 {X : ai_S} {e : Nat} (hd : 5 ≤ e)  (x4 : Int32) (x5 : Int32) (s0 : Int32) (V : ai_V) (r : (Int32 × ai_V)) (h : d_X_gain_26  x4 x5 s0 V = some r) : Rn e 137 26 [(0, .ref 0), (4, .int x4), (5, .int x5)] [.int s0] (SH ++ X) V (some (.int r.1)) (SH ++ X) r.2 := by
  rw [d_X_gain_26] at h
  refine rn_go 7 (pc' := 40) (l' := [(6, .int s0), (0, .ref 0), (4, .int x4), (5, .int x5)]) (st' := [.ref 16, .int s0, .int x5, .ref 15]) (S1 := (SH ++ X)) (V1 := V) rfl ?_
  obtain ⟨q1, hq1, h⟩ := ai_bd h
  refine rn_call rfl rfl rfl rfl rfl rfl (by omega) (t_Wheel_together (by omega) hq1) ?_
  refine rn_go 1 (pc' := 44) (l' := [(6, .int s0), (0, .ref 0), (4, .int x4), (5, .int x5)]) (st' := [.int (2 : Int32), .int q1.1]) (S1 := (SH ++ X)) (V1 := q1.2) rfl ?_
  refine rg_idiv rfl (by decide) ?_
  refine rn_go 6 (pc' := 55) (l' := [(7, .int (q1.1 / (2 : Int32))), (6, .int s0), (0, .ref 0), (4, .int x4), (5, .int x5)]) (st' := [.int (-1 : Int32), .int x5, .int ((q1.1 / (2 : Int32)) * x4)]) (S1 := (SH ++ X)) (V1 := q1.2) rfl ?_
  rcases ai_if h with ⟨hc, h⟩ | ⟨hc, h⟩
  · refine rn_brT rfl rfl rfl rfl hc ?_
    refine rn_go 4 (pc' := 70) (l' := [(7, .int (q1.1 / (2 : Int32))), (6, .int s0), (0, .ref 0), (4, .int x4), (5, .int x5)]) (st' := [.int s0, .int x5, .ref 3, .int ((q1.1 / (2 : Int32)) * x4)]) (S1 := (SH ++ X)) (V1 := q1.2) rfl ?_
    obtain ⟨q2, hq2, h⟩ := ai_bd h
    refine rn_call rfl rfl rfl rfl rfl rfl (by omega) (t_House_turnsOf (by omega) hq2) ?_
    exact rn_sub [] rfl rfl (t_X_gain_73 (X := X) hd q2 ((q1.1 / (2 : Int32)) * x4) q1.2 _ h)
  · refine rn_brF rfl rfl rfl rfl hc ?_
    refine rn_go 2 (pc' := 73) (l' := [(7, .int (q1.1 / (2 : Int32))), (6, .int s0), (0, .ref 0), (4, .int x4), (5, .int x5)]) (st' := [.int (0 : Int32), .int ((q1.1 / (2 : Int32)) * x4)]) (S1 := (SH ++ X)) (V1 := q1.2) rfl ?_
    exact rn_sub [] rfl rfl (t_X_gain_73 (X := X) hd (0 : Int32) ((q1.1 / (2 : Int32)) * x4) q1.2 _ h)
def d_X_gain_12  (x2 : Int32) (x3 : Int32) (x4 : Int32) (s0 : Int32) (V : ai_V) : Option (Int32 × ai_V) :=
  if ¬ (x3 &&& (2 : Int32)) = (2 : Int32) then (d_X_gain_26 x4 s0 (-1 : Int32) V) else (d_X_gain_26 x4 s0 x2 V)
set_option maxRecDepth 20000 in
theorem t_X_gain_12 {X : ai_S} {e : Nat} (hd : 5 ≤ e)  (x2 : Int32) (x3 : Int32) (x4 : Int32) (s0 : Int32) (V : ai_V) (r : (Int32 × ai_V)) (h : d_X_gain_12  x2 x3 x4 s0 V = some r) : Rn e 137 12 [(0, .ref 0), (2, .int x2), (3, .int x3), (4, .int x4)] [.int s0] (SH ++ X) V (some (.int r.1)) (SH ++ X) r.2 := by
  rw [d_X_gain_12] at h
  refine rn_go 5 (pc' := 18) (l' := [(5, .int s0), (0, .ref 0), (2, .int x2), (3, .int x3), (4, .int x4)]) (st' := [.int (2 : Int32), .int (x3 &&& (2 : Int32))]) (S1 := (SH ++ X)) (V1 := V) rfl ?_
  rcases ai_if h with ⟨hc, h⟩ | ⟨hc, h⟩
  · refine rn_brT rfl rfl rfl rfl hc ?_
    refine rn_go 1 (pc' := 26) (l' := [(5, .int s0), (0, .ref 0), (2, .int x2), (3, .int x3), (4, .int x4)]) (st' := [.int (-1 : Int32)]) (S1 := (SH ++ X)) (V1 := V) rfl ?_
    exact rn_sub [1, 4, 0] rfl rfl (t_X_gain_26 (X := X) hd x4 s0 (-1 : Int32) V _ h)
  · refine rn_brF rfl rfl rfl rfl hc ?_
    refine rn_go 2 (pc' := 26) (l' := [(5, .int s0), (0, .ref 0), (2, .int x2), (3, .int x3), (4, .int x4)]) (st' := [.int x2]) (S1 := (SH ++ X)) (V1 := V) rfl ?_
    exact rn_sub [1, 4, 0] rfl rfl (t_X_gain_26 (X := X) hd x4 s0 x2 V _ h)
def d_X_gain (x1 : Int32) (x2 : Int32) (x3 : Int32) (x4 : Int32) (V : ai_V) : Option (Int32 × ai_V) :=
  if ¬ (x3 &&& (1 : Int32)) = (1 : Int32) then (d_X_gain_12 x2 x3 x4 (-1 : Int32) V) else (d_X_gain_12 x2 x3 x4 x1 V)
set_option maxRecDepth 20000 in
theorem t_X_gain {X : ai_S} {e : Nat} (hd : 5 ≤ e) {x1 : Int32} {x2 : Int32} {x3 : Int32} {x4 : Int32} {V : ai_V} {r : (Int32 × ai_V)} (h : d_X_gain x1 x2 x3 x4 V = some r) : Rn e 137 0 (lv_args 0 [.ref 0, .int x1, .int x2, .int x3, .int x4]) [] (SH ++ X) V (some (.int r.1)) (SH ++ X) r.2 := by
  rw [d_X_gain] at h
  refine rn_go 4 (pc' := 4) (l' := [(0, .ref 0), (1, .int x1), (2, .int x2), (3, .int x3), (4, .int x4)]) (st' := [.int (1 : Int32), .int (x3 &&& (1 : Int32))]) (S1 := (SH ++ X)) (V1 := V) rfl ?_
  rcases ai_if h with ⟨hc, h⟩ | ⟨hc, h⟩
  · refine rn_brT rfl rfl rfl rfl hc ?_
    refine rn_go 1 (pc' := 12) (l' := [(0, .ref 0), (1, .int x1), (2, .int x2), (3, .int x3), (4, .int x4)]) (st' := [.int (-1 : Int32)]) (S1 := (SH ++ X)) (V1 := V) rfl ?_
    exact rn_sub [0, 2, 3, 4] rfl rfl (t_X_gain_12 (X := X) hd x2 x3 x4 (-1 : Int32) V _ h)
  · refine rn_brF rfl rfl rfl rfl hc ?_
    refine rn_go 2 (pc' := 12) (l' := [(0, .ref 0), (1, .int x1), (2, .int x2), (3, .int x3), (4, .int x4)]) (st' := [.int x1]) (S1 := (SH ++ X)) (V1 := V) rfl ?_
    exact rn_sub [0, 2, 3, 4] rfl rfl (t_X_gain_12 (X := X) hd x2 x3 x4 x1 V _ h)
-- RentByTheWheel.mirrored(I)I (None,)
def d_X_mirrored (x0 : Int32) (V : ai_V) : Option Int32 :=
  some (((x0 &&& (1 : Int32)) <<< ((1 : Int32) &&& 31)) ||| (x0 >>> ((1 : Int32) &&& 31)))
set_option maxRecDepth 20000 in
theorem t_X_mirrored {X : ai_S} {e : Nat} (hd : 0 ≤ e) {x0 : Int32} {V : ai_V} {r : Int32} (h : d_X_mirrored x0 V = some r) : Rn e 138 0 (lv_args 0 [.int x0]) [] (SH ++ X) V (some (.int r)) (SH ++ X) V := by
  rw [d_X_mirrored] at h
  refine rn_go 9 (pc' := 9) (l' := [(0, .int x0)]) (st' := [.int (((x0 &&& (1 : Int32)) <<< ((1 : Int32) &&& 31)) ||| (x0 >>> ((1 : Int32) &&& 31)))]) (S1 := (SH ++ X)) (V1 := V) rfl ?_
  obtain rfl := Option.some.inj h
  exact rn_ret rfl rfl rfl
-- RentByTheWheel.rests(III)I (0, None, None, None)
def d_X_rests_153 (F48 : Int32 → Int32 → Int32 → Int32 → Int32 → ai_V → Option (Int32 × ai_V)) (x1 : Int32) (x2 : Int32) (x3 : Int32) (x4 : Int32) (x5 : Int32) (V : ai_V) : Option (Int32 × ai_V) :=
  F48 x1 x2 x3 x4 (x5 + (1 : Int32)) V
set_option maxRecDepth 20000 in
theorem t_X_rests_153 {X : ai_S} {e : Nat} (hd : 6 ≤ e) (F48 : Int32 → Int32 → Int32 → Int32 → Int32 → ai_V → Option (Int32 × ai_V)) (hF48 : ∀ (x1 : Int32) (x2 : Int32) (x3 : Int32) (x4 : Int32) (x5 : Int32) (V : ai_V) (r : (Int32 × ai_V)), F48 x1 x2 x3 x4 x5 V = some r → Rn e 139 48 [(0, .ref 0), (1, .int x1), (2, .int x2), (3, .int x3), (4, .int x4), (5, .int x5)] [] (SH ++ X) V (some (.int r.1)) (SH ++ X) r.2) (x1 : Int32) (x2 : Int32) (x3 : Int32) (x4 : Int32) (x5 : Int32) (V : ai_V) (r : (Int32 × ai_V)) (h : d_X_rests_153 F48 x1 x2 x3 x4 x5 V = some r) : Rn e 139 153 [(0, .ref 0), (1, .int x1), (2, .int x2), (3, .int x3), (4, .int x4), (5, .int x5)] [] (SH ++ X) V (some (.int r.1)) (SH ++ X) r.2 := by
  rw [d_X_rests_153] at h
  refine rn_go 2 (pc' := 48) (l' := [(5, .int (x5 + (1 : Int32))), (0, .ref 0), (1, .int x1), (2, .int x2), (3, .int x3), (4, .int x4)]) (st' := []) (S1 := (SH ++ X)) (V1 := V) rfl ?_
  exact rn_sub [1, 2, 3, 4, 5, 0] rfl rfl (hF48 x1 x2 x3 x4 (x5 + (1 : Int32)) V _ h)
def d_X_rests_144 (F48 : Int32 → Int32 → Int32 → Int32 → Int32 → ai_V → Option (Int32 × ai_V)) (x1 : Int32) (x2 : Int32) (x3 : Int32) (x4 : Int32) (x5 : Int32) (V : ai_V) : Option (Int32 × ai_V) :=
  d_X_rests_153 F48 x1 x2 x3 (x4 ||| ((1 : Int32) <<< (x5 &&& 31))) x5 V
set_option maxRecDepth 20000 in
theorem t_X_rests_144 {X : ai_S} {e : Nat} (hd : 6 ≤ e) (F48 : Int32 → Int32 → Int32 → Int32 → Int32 → ai_V → Option (Int32 × ai_V)) (hF48 : ∀ (x1 : Int32) (x2 : Int32) (x3 : Int32) (x4 : Int32) (x5 : Int32) (V : ai_V) (r : (Int32 × ai_V)), F48 x1 x2 x3 x4 x5 V = some r → Rn e 139 48 [(0, .ref 0), (1, .int x1), (2, .int x2), (3, .int x3), (4, .int x4), (5, .int x5)] [] (SH ++ X) V (some (.int r.1)) (SH ++ X) r.2) (x1 : Int32) (x2 : Int32) (x3 : Int32) (x4 : Int32) (x5 : Int32) (V : ai_V) (r : (Int32 × ai_V)) (h : d_X_rests_144 F48 x1 x2 x3 x4 x5 V = some r) : Rn e 139 144 [(0, .ref 0), (1, .int x1), (2, .int x2), (3, .int x3), (4, .int x4), (5, .int x5)] [] (SH ++ X) V (some (.int r.1)) (SH ++ X) r.2 := by
  rw [d_X_rests_144] at h
  refine rn_go 6 (pc' := 153) (l' := [(4, .int (x4 ||| ((1 : Int32) <<< (x5 &&& 31)))), (0, .ref 0), (1, .int x1), (2, .int x2), (3, .int x3), (5, .int x5)]) (st' := []) (S1 := (SH ++ X)) (V1 := V) rfl ?_
  exact rn_sub [1, 2, 3, 4, 0, 5] rfl rfl (t_X_rests_153 (X := X) hd F48 hF48 x1 x2 x3 (x4 ||| ((1 : Int32) <<< (x5 &&& 31))) x5 V _ h)
def d_X_rests_119 (F48 : Int32 → Int32 → Int32 → Int32 → Int32 → ai_V → Option (Int32 × ai_V)) (x1 : Int32) (x2 : Int32) (x3 : Int32) (x4 : Int32) (x5 : Int32) (x6 : Int32) (x7 : Int32) (s0 : Int32) (V : ai_V) : Option (Int32 × ai_V) :=
  if s0 = 0 then (d_X_rests_153 F48 x1 x2 x3 x4 x5 V) else (if ¬ x4 = 0 then (d_X_rests_144 F48 x1 x2 x3 x4 x5 V) else ((d_Row_tellTwo (x6).toInt64 (x7).toInt64 V).bind fun q1 => (d_X_rests_144 F48 x1 x2 x3 x4 x5 q1)))
set_option maxRecDepth 20000 in
theorem t_X_rests_119 {X : ai_S} {e : Nat} (hd : 6 ≤ e) (F48 : Int32 → Int32 → Int32 → Int32 → Int32 → ai_V → Option (Int32 × ai_V)) (hF48 : ∀ (x1 : Int32) (x2 : Int32) (x3 : Int32) (x4 : Int32) (x5 : Int32) (V : ai_V) (r : (Int32 × ai_V)), F48 x1 x2 x3 x4 x5 V = some r → Rn e 139 48 [(0, .ref 0), (1, .int x1), (2, .int x2), (3, .int x3), (4, .int x4), (5, .int x5)] [] (SH ++ X) V (some (.int r.1)) (SH ++ X) r.2) (x1 : Int32) (x2 : Int32) (x3 : Int32) (x4 : Int32) (x5 : Int32) (x6 : Int32) (x7 : Int32) (s0 : Int32) (V : ai_V) (r : (Int32 × ai_V)) (h : d_X_rests_119 F48 x1 x2 x3 x4 x5 x6 x7 s0 V = some r) : Rn e 139 119 [(0, .ref 0), (1, .int x1), (2, .int x2), (3, .int x3), (4, .int x4), (5, .int x5), (6, .int x6), (7, .int x7)] [.int s0] (SH ++ X) V (some (.int r.1)) (SH ++ X) r.2 := by
  rw [d_X_rests_119] at h
  refine rn_go 2 (pc' := 123) (l' := [(8, .int s0), (0, .ref 0), (1, .int x1), (2, .int x2), (3, .int x3), (4, .int x4), (5, .int x5), (6, .int x6), (7, .int x7)]) (st' := [.int s0]) (S1 := (SH ++ X)) (V1 := V) rfl ?_
  rcases ai_if h with ⟨hc, h⟩ | ⟨hc, h⟩
  · refine rn_brT rfl rfl rfl rfl hc ?_
    exact rn_sub [1, 2, 3, 4, 5, 6] rfl rfl (t_X_rests_153 (X := X) hd F48 hF48 x1 x2 x3 x4 x5 V _ h)
  · refine rn_brF rfl rfl rfl rfl hc ?_
    refine rn_go 1 (pc' := 128) (l' := [(8, .int s0), (0, .ref 0), (1, .int x1), (2, .int x2), (3, .int x3), (4, .int x4), (5, .int x5), (6, .int x6), (7, .int x7)]) (st' := [.int x4]) (S1 := (SH ++ X)) (V1 := V) rfl ?_
    rcases ai_if h with ⟨hc, h⟩ | ⟨hc, h⟩
    · refine rn_brT rfl rfl rfl rfl hc ?_
      exact rn_sub [1, 2, 3, 4, 5, 6] rfl rfl (t_X_rests_144 (X := X) hd F48 hF48 x1 x2 x3 x4 x5 V _ h)
    · refine rn_brF rfl rfl rfl rfl hc ?_
      refine rn_go 6 (pc' := 141) (l' := [(8, .int s0), (0, .ref 0), (1, .int x1), (2, .int x2), (3, .int x3), (4, .int x4), (5, .int x5), (6, .int x6), (7, .int x7)]) (st' := [.long (x7).toInt64, .long (x6).toInt64, .ref 22]) (S1 := (SH ++ X)) (V1 := V) rfl ?_
      obtain ⟨q1, hq1, h⟩ := ai_bd h
      refine rn_call rfl rfl rfl rfl rfl rfl (by omega) (t_Row_tellTwo (by omega) hq1) ?_
      exact rn_sub [1, 2, 3, 4, 5, 6] rfl rfl (t_X_rests_144 (X := X) hd F48 hF48 x1 x2 x3 x4 x5 q1 _ h)
def d_X_rests_118 (F48 : Int32 → Int32 → Int32 → Int32 → Int32 → ai_V → Option (Int32 × ai_V)) (x1 : Int32) (x2 : Int32) (x3 : Int32) (x4 : Int32) (x5 : Int32) (x6 : Int32) (x7 : Int32) (V : ai_V) : Option (Int32 × ai_V) :=
  d_X_rests_119 F48 x1 x2 x3 x4 x5 x6 x7 (0 : Int32) V
set_option maxRecDepth 20000 in
theorem t_X_rests_118 {X : ai_S} {e : Nat} (hd : 6 ≤ e) (F48 : Int32 → Int32 → Int32 → Int32 → Int32 → ai_V → Option (Int32 × ai_V)) (hF48 : ∀ (x1 : Int32) (x2 : Int32) (x3 : Int32) (x4 : Int32) (x5 : Int32) (V : ai_V) (r : (Int32 × ai_V)), F48 x1 x2 x3 x4 x5 V = some r → Rn e 139 48 [(0, .ref 0), (1, .int x1), (2, .int x2), (3, .int x3), (4, .int x4), (5, .int x5)] [] (SH ++ X) V (some (.int r.1)) (SH ++ X) r.2) (x1 : Int32) (x2 : Int32) (x3 : Int32) (x4 : Int32) (x5 : Int32) (x6 : Int32) (x7 : Int32) (V : ai_V) (r : (Int32 × ai_V)) (h : d_X_rests_118 F48 x1 x2 x3 x4 x5 x6 x7 V = some r) : Rn e 139 118 [(0, .ref 0), (1, .int x1), (2, .int x2), (3, .int x3), (4, .int x4), (5, .int x5), (6, .int x6), (7, .int x7)] [] (SH ++ X) V (some (.int r.1)) (SH ++ X) r.2 := by
  rw [d_X_rests_118] at h
  refine rn_go 1 (pc' := 119) (l' := [(0, .ref 0), (1, .int x1), (2, .int x2), (3, .int x3), (4, .int x4), (5, .int x5), (6, .int x6), (7, .int x7)]) (st' := [.int (0 : Int32)]) (S1 := (SH ++ X)) (V1 := V) rfl ?_
  exact rn_sub [0, 1, 2, 3, 4, 5, 6, 7] rfl rfl (t_X_rests_119 (X := X) hd F48 hF48 x1 x2 x3 x4 x5 x6 x7 (0 : Int32) V _ h)
def d_X_rests_48  : Nat → Int32 → Int32 → Int32 → Int32 → Int32 → ai_V → Option (Int32 × ai_V)
  | 0, _, _, _, _, _, _ => none
  | n + 1, x1, x2, x3, x4, x5, V => if (4 : Int32) ≤ x5 then (some (x4, V)) else ((d_X_gain x1 x2 x5 x3 V).bind fun q2 => ((d_X_mirrored x5 q2.2).bind fun q3 => ((d_X_gain x2 x1 q3 x3 q2.2).bind fun q4 => ((d_X_gain x1 x2 (x5 ^^^ (1 : Int32)) x3 q4.2).bind fun q5 => (if q2.1 < q5.1 then (d_X_rests_118 (d_X_rests_48 n) x1 x2 x3 x4 x5 q2.1 q4.1 q5.2) else ((d_X_mirrored x5 q5.2).bind fun q6 => ((d_X_gain x2 x1 (q6 ^^^ (1 : Int32)) x3 q5.2).bind fun q7 => (if q4.1 < q7.1 then (d_X_rests_118 (d_X_rests_48 n) x1 x2 x3 x4 x5 q2.1 q4.1 q7.2) else (d_X_rests_119 (d_X_rests_48 n) x1 x2 x3 x4 x5 q2.1 q4.1 (1 : Int32) q7.2)))))))))
set_option maxRecDepth 20000 in
theorem t_X_rests_48 {X : ai_S} {e : Nat} (hd : 6 ≤ e)  : ∀ (n : Nat) (x1 : Int32) (x2 : Int32) (x3 : Int32) (x4 : Int32) (x5 : Int32) (V : ai_V) (r : (Int32 × ai_V)), d_X_rests_48  n x1 x2 x3 x4 x5 V = some r → Rn e 139 48 [(0, .ref 0), (1, .int x1), (2, .int x2), (3, .int x3), (4, .int x4), (5, .int x5)] [] (SH ++ X) V (some (.int r.1)) (SH ++ X) r.2 := by
  intro n
  induction n with
  | zero =>
    intro x1 x2 x3 x4 x5 V r h
    cases h
  | succ n ih =>
    intro x1 x2 x3 x4 x5 V r h
    rw [d_X_rests_48] at h
    refine rn_go 2 (pc' := 51) (l' := [(0, .ref 0), (1, .int x1), (2, .int x2), (3, .int x3), (4, .int x4), (5, .int x5)]) (st' := [.int (4 : Int32), .int x5]) (S1 := (SH ++ X)) (V1 := V) rfl ?_
    rcases ai_if h with ⟨hc, h⟩ | ⟨hc, h⟩
    · refine rn_brT rfl rfl rfl rfl hc ?_
      refine rn_go 1 (pc' := 161) (l' := [(0, .ref 0), (1, .int x1), (2, .int x2), (3, .int x3), (4, .int x4), (5, .int x5)]) (st' := [.int x4]) (S1 := (SH ++ X)) (V1 := V) rfl ?_
      obtain rfl := Option.some.inj h
      exact rn_ret rfl rfl rfl
    · refine rn_brF rfl rfl rfl rfl hc ?_
      refine rn_go 5 (pc' := 60) (l' := [(0, .ref 0), (1, .int x1), (2, .int x2), (3, .int x3), (4, .int x4), (5, .int x5)]) (st' := [.int x3, .int x5, .int x2, .int x1, .ref 0]) (S1 := (SH ++ X)) (V1 := V) rfl ?_
      obtain ⟨q2, hq2, h⟩ := ai_bd h
      refine rn_call rfl rfl rfl rfl rfl rfl (by omega) (t_X_gain (by omega) hq2) ?_
      refine rn_go 5 (pc' := 70) (l' := [(6, .int q2.1), (0, .ref 0), (1, .int x1), (2, .int x2), (3, .int x3), (4, .int x4), (5, .int x5)]) (st' := [.int x5, .int x1, .int x2, .ref 0]) (S1 := (SH ++ X)) (V1 := q2.2) rfl ?_
      obtain ⟨q3, hq3, h⟩ := ai_bd h
      refine rn_call rfl rfl rfl rfl rfl rfl (by omega) (t_X_mirrored (by omega) hq3) ?_
      refine rn_go 1 (pc' := 74) (l' := [(6, .int q2.1), (0, .ref 0), (1, .int x1), (2, .int x2), (3, .int x3), (4, .int x4), (5, .int x5)]) (st' := [.int x3, .int q3, .int x1, .int x2, .ref 0]) (S1 := (SH ++ X)) (V1 := q2.2) rfl ?_
      obtain ⟨q4, hq4, h⟩ := ai_bd h
      refine rn_call rfl rfl rfl rfl rfl rfl (by omega) (t_X_gain (by omega) hq4) ?_
      refine rn_go 8 (pc' := 87) (l' := [(7, .int q4.1), (6, .int q2.1), (0, .ref 0), (1, .int x1), (2, .int x2), (3, .int x3), (4, .int x4), (5, .int x5)]) (st' := [.int x3, .int (x5 ^^^ (1 : Int32)), .int x2, .int x1, .ref 0]) (S1 := (SH ++ X)) (V1 := q4.2) rfl ?_
      obtain ⟨q5, hq5, h⟩ := ai_bd h
      refine rn_call rfl rfl rfl rfl rfl rfl (by omega) (t_X_gain (by omega) hq5) ?_
      refine rn_go 1 (pc' := 92) (l' := [(7, .int q4.1), (6, .int q2.1), (0, .ref 0), (1, .int x1), (2, .int x2), (3, .int x3), (4, .int x4), (5, .int x5)]) (st' := [.int q2.1, .int q5.1]) (S1 := (SH ++ X)) (V1 := q5.2) rfl ?_
      rcases ai_if h with ⟨hc, h⟩ | ⟨hc, h⟩
      · refine rn_brT rfl rfl rfl rfl hc ?_
        exact rn_sub [2, 3, 4, 5, 6, 7, 1, 0] rfl rfl (t_X_rests_118 (X := X) hd (d_X_rests_48 n) (ih) x1 x2 x3 x4 x5 q2.1 q4.1 q5.2 _ h)
      · refine rn_brF rfl rfl rfl rfl hc ?_
        refine rn_go 4 (pc' := 100) (l' := [(7, .int q4.1), (6, .int q2.1), (0, .ref 0), (1, .int x1), (2, .int x2), (3, .int x3), (4, .int x4), (5, .int x5)]) (st' := [.int x5, .int x1, .int x2, .ref 0]) (S1 := (SH ++ X)) (V1 := q5.2) rfl ?_
        obtain ⟨q6, hq6, h⟩ := ai_bd h
        refine rn_call rfl rfl rfl rfl rfl rfl (by omega) (t_X_mirrored (by omega) hq6) ?_
        refine rn_go 3 (pc' := 106) (l' := [(7, .int q4.1), (6, .int q2.1), (0, .ref 0), (1, .int x1), (2, .int x2), (3, .int x3), (4, .int x4), (5, .int x5)]) (st' := [.int x3, .int (q6 ^^^ (1 : Int32)), .int x1, .int x2, .ref 0]) (S1 := (SH ++ X)) (V1 := q5.2) rfl ?_
        obtain ⟨q7, hq7, h⟩ := ai_bd h
        refine rn_call rfl rfl rfl rfl rfl rfl (by omega) (t_X_gain (by omega) hq7) ?_
        refine rn_go 1 (pc' := 111) (l' := [(7, .int q4.1), (6, .int q2.1), (0, .ref 0), (1, .int x1), (2, .int x2), (3, .int x3), (4, .int x4), (5, .int x5)]) (st' := [.int q4.1, .int q7.1]) (S1 := (SH ++ X)) (V1 := q7.2) rfl ?_
        rcases ai_if h with ⟨hc, h⟩ | ⟨hc, h⟩
        · refine rn_brT rfl rfl rfl rfl hc ?_
          exact rn_sub [2, 3, 4, 5, 6, 7, 1, 0] rfl rfl (t_X_rests_118 (X := X) hd (d_X_rests_48 n) (ih) x1 x2 x3 x4 x5 q2.1 q4.1 q7.2 _ h)
        · refine rn_brF rfl rfl rfl rfl hc ?_
          refine rn_go 2 (pc' := 119) (l' := [(7, .int q4.1), (6, .int q2.1), (0, .ref 0), (1, .int x1), (2, .int x2), (3, .int x3), (4, .int x4), (5, .int x5)]) (st' := [.int (1 : Int32)]) (S1 := (SH ++ X)) (V1 := q7.2) rfl ?_
          exact rn_sub [2, 3, 4, 5, 6, 7, 1, 0] rfl rfl (t_X_rests_119 (X := X) hd (d_X_rests_48 n) (ih) x1 x2 x3 x4 x5 q2.1 q4.1 (1 : Int32) q7.2 _ h)
def d_X_rests (x1 : Int32) (x2 : Int32) (x3 : Int32) (V : ai_V) : Option (Int32 × ai_V) :=
  if x2 = (-1 : Int32) then (some ((-1 : Int32), V)) else (if x1 = (-1 : Int32) then (some ((-1 : Int32), V)) else ((d_House_canTread x1 x2 V).bind fun q8 => (if q8 = 0 then (some ((-1 : Int32), V)) else (if x3 < (1 : Int32) then (some ((-1 : Int32), V)) else (if x3 ≤ (9 : Int32) then ((d_Row_clear  V).bind fun q9 => (d_X_rests_48 ai_N x1 x2 x3 (0 : Int32) (0 : Int32) q9)) else (some ((-1 : Int32), V)))))))
set_option maxRecDepth 20000 in
theorem t_X_rests {X : ai_S} {e : Nat} (hd : 6 ≤ e) {x1 : Int32} {x2 : Int32} {x3 : Int32} {V : ai_V} {r : (Int32 × ai_V)} (h : d_X_rests x1 x2 x3 V = some r) : Rn e 139 0 (lv_args 0 [.ref 0, .int x1, .int x2, .int x3]) [] (SH ++ X) V (some (.int r.1)) (SH ++ X) r.2 := by
  rw [d_X_rests] at h
  refine rn_go 2 (pc' := 2) (l' := [(0, .ref 0), (1, .int x1), (2, .int x2), (3, .int x3)]) (st' := [.int (-1 : Int32), .int x2]) (S1 := (SH ++ X)) (V1 := V) rfl ?_
  rcases ai_if h with ⟨hc, h⟩ | ⟨hc, h⟩
  · refine rn_brT rfl rfl rfl rfl hc ?_
    refine rn_go 1 (pc' := 34) (l' := [(0, .ref 0), (1, .int x1), (2, .int x2), (3, .int x3)]) (st' := [.int (-1 : Int32)]) (S1 := (SH ++ X)) (V1 := V) rfl ?_
    obtain rfl := Option.some.inj h
    exact rn_ret rfl rfl rfl
  · refine rn_brF rfl rfl rfl rfl hc ?_
    refine rn_go 2 (pc' := 7) (l' := [(0, .ref 0), (1, .int x1), (2, .int x2), (3, .int x3)]) (st' := [.int (-1 : Int32), .int x1]) (S1 := (SH ++ X)) (V1 := V) rfl ?_
    rcases ai_if h with ⟨hc, h⟩ | ⟨hc, h⟩
    · refine rn_brT rfl rfl rfl rfl hc ?_
      refine rn_go 1 (pc' := 34) (l' := [(0, .ref 0), (1, .int x1), (2, .int x2), (3, .int x3)]) (st' := [.int (-1 : Int32)]) (S1 := (SH ++ X)) (V1 := V) rfl ?_
      obtain rfl := Option.some.inj h
      exact rn_ret rfl rfl rfl
    · refine rn_brF rfl rfl rfl rfl hc ?_
      refine rn_go 4 (pc' := 16) (l' := [(0, .ref 0), (1, .int x1), (2, .int x2), (3, .int x3)]) (st' := [.int x2, .int x1, .ref 3]) (S1 := (SH ++ X)) (V1 := V) rfl ?_
      obtain ⟨q8, hq8, h⟩ := ai_bd h
      refine rn_call rfl rfl rfl rfl rfl rfl (by omega) (t_House_canTread (by omega) hq8) ?_
      rcases ai_if h with ⟨hc, h⟩ | ⟨hc, h⟩
      · refine rn_brT rfl rfl rfl rfl hc ?_
        refine rn_go 1 (pc' := 34) (l' := [(0, .ref 0), (1, .int x1), (2, .int x2), (3, .int x3)]) (st' := [.int (-1 : Int32)]) (S1 := (SH ++ X)) (V1 := V) rfl ?_
        obtain rfl := Option.some.inj h
        exact rn_ret rfl rfl rfl
      · refine rn_brF rfl rfl rfl rfl hc ?_
        refine rn_go 2 (pc' := 24) (l' := [(0, .ref 0), (1, .int x1), (2, .int x2), (3, .int x3)]) (st' := [.int (1 : Int32), .int x3]) (S1 := (SH ++ X)) (V1 := V) rfl ?_
        rcases ai_if h with ⟨hc, h⟩ | ⟨hc, h⟩
        · refine rn_brT rfl rfl rfl rfl hc ?_
          refine rn_go 1 (pc' := 34) (l' := [(0, .ref 0), (1, .int x1), (2, .int x2), (3, .int x3)]) (st' := [.int (-1 : Int32)]) (S1 := (SH ++ X)) (V1 := V) rfl ?_
          obtain rfl := Option.some.inj h
          exact rn_ret rfl rfl rfl
        · refine rn_brF rfl rfl rfl rfl hc ?_
          refine rn_go 2 (pc' := 30) (l' := [(0, .ref 0), (1, .int x1), (2, .int x2), (3, .int x3)]) (st' := [.int (9 : Int32), .int x3]) (S1 := (SH ++ X)) (V1 := V) rfl ?_
          rcases ai_if h with ⟨hc, h⟩ | ⟨hc, h⟩
          · refine rn_brT rfl rfl rfl rfl hc ?_
            refine rn_go 4 (pc' := 42) (l' := [(4, .int (0 : Int32)), (0, .ref 0), (1, .int x1), (2, .int x2), (3, .int x3)]) (st' := [.ref 22]) (S1 := (SH ++ X)) (V1 := V) rfl ?_
            obtain ⟨q9, hq9, h⟩ := ai_bd h
            refine rn_call rfl rfl rfl rfl rfl rfl (by omega) (t_Row_clear (by omega) hq9) ?_
            refine rn_go 2 (pc' := 48) (l' := [(5, .int (0 : Int32)), (4, .int (0 : Int32)), (0, .ref 0), (1, .int x1), (2, .int x2), (3, .int x3)]) (st' := []) (S1 := (SH ++ X)) (V1 := q9) rfl ?_
            exact rn_sub [2, 3, 4, 5, 1, 0] rfl rfl (t_X_rests_48 (X := X) hd ai_N x1 x2 x3 (0 : Int32) (0 : Int32) q9 _ h)
          · refine rn_brF rfl rfl rfl rfl hc ?_
            refine rn_go 1 (pc' := 34) (l' := [(0, .ref 0), (1, .int x1), (2, .int x2), (3, .int x3)]) (st' := [.int (-1 : Int32)]) (S1 := (SH ++ X)) (V1 := V) rfl ?_
            obtain rfl := Option.some.inj h
            exact rn_ret rfl rfl rfl
