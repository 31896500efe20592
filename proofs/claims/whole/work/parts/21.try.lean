-- RentByTheWheel$House.has(I)Z
def d_House_has (x1 : Int32) (V : ai_V) : Option Int32 :=
  if x1 < 0 then (some (0 : Int32)) else (if (gi V 3 0) ≤ x1 then (some (0 : Int32)) else (some (1 : Int32)))
theorem t_House_has {X : ai_S} {e : Nat} (hd : 0 ≤ e) {x1 : Int32} {V : ai_V} {r : Int32} (h : d_House_has x1 V = some r) : Rn e 15 0 (lv_args 0 [.ref 3, .int x1]) [] (SH ++ X) V (some (.int r)) (SH ++ X) V := by
  rw [d_House_has] at h
  refine rn_go 1 (pc' := 1) (l' := [(0, .ref 3), (1, .int x1)]) (st' := [.int x1]) (S1 := (SH ++ X)) (V1 := V) rfl ?_
  rcases ai_if h with ⟨hc, h⟩ | ⟨hc, h⟩
  · refine rn_brT rfl rfl rfl rfl hc ?_
    refine rn_go 1 (pc' := 17) (l' := [(0, .ref 3), (1, .int x1)]) (st' := [.int (0 : Int32)]) (S1 := (SH ++ X)) (V1 := V) rfl ?_
    cases h
    exact rg_zret rfl (by decide)
  · refine rn_brF rfl rfl rfl rfl hc ?_
    refine rn_go 3 (pc' := 9) (l' := [(0, .ref 3), (1, .int x1)]) (st' := [.int (gi V 3 0), .int x1]) (S1 := (SH ++ X)) (V1 := V) rfl ?_
    rcases ai_if h with ⟨hc, h⟩ | ⟨hc, h⟩
    · refine rn_brT rfl rfl rfl rfl hc ?_
      refine rn_go 1 (pc' := 17) (l' := [(0, .ref 3), (1, .int x1)]) (st' := [.int (0 : Int32)]) (S1 := (SH ++ X)) (V1 := V) rfl ?_
      cases h
      exact rg_zret rfl (by decide)
    · refine rn_brF rfl rfl rfl rfl hc ?_
      refine rn_go 2 (pc' := 17) (l' := [(0, .ref 3), (1, .int x1)]) (st' := [.int (1 : Int32)]) (S1 := (SH ++ X)) (V1 := V) rfl ?_
      cases h
      exact rg_zret rfl (by decide)
-- java/lang/Math.min(II)I
def d_Math_min (x0 : Int32) (x1 : Int32) (V : ai_V) : Option Int32 :=
  if x1 < x0 then (some x1) else (some x0)
theorem t_Math_min {X : ai_S} {e : Nat} (hd : 0 ≤ e) {x0 : Int32} {x1 : Int32} {V : ai_V} {r : Int32} (h : d_Math_min x0 x1 V = some r) : Rn e 0 0 (lv_args 0 [.int x0, .int x1]) [] (SH ++ X) V (some (.int r)) (SH ++ X) V := by
  rw [d_Math_min] at h
  refine rn_go 2 (pc' := 2) (l' := [(0, .int x0), (1, .int x1)]) (st' := [.int x1, .int x0]) (S1 := (SH ++ X)) (V1 := V) rfl ?_
  rcases ai_if h with ⟨hc, h⟩ | ⟨hc, h⟩
  · refine rn_brT rfl rfl rfl rfl hc ?_
    refine rn_go 1 (pc' := 10) (l' := [(0, .int x0), (1, .int x1)]) (st' := [.int x1]) (S1 := (SH ++ X)) (V1 := V) rfl ?_
    cases h
    exact rn_ret rfl rfl rfl
  · refine rn_brF rfl rfl rfl rfl hc ?_
    refine rn_go 2 (pc' := 10) (l' := [(0, .int x0), (1, .int x1)]) (st' := [.int x0]) (S1 := (SH ++ X)) (V1 := V) rfl ?_
    cases h
    exact rn_ret rfl rfl rfl
-- RentByTheWheel$House.turnsOf(II)I
def d_House_turnsOf_18  (x2 : Int32) (s0 : Int32) (V : ai_V) : Option Int32 :=
  (d_House_has x2 V).bind fun q1 => (if q1 = 0 then (some s0) else (if ai_in x2 6 then ((d_Math_min s0 (ga V 5 (x2).toNatClampNeg) V).bind fun q2 => (some q2)) else none))
theorem t_House_turnsOf_18 {X : ai_S} {e : Nat} (hd : 1 ≤ e)  (x2 : Int32) (s0 : Int32) (V : ai_V) (r : Int32) (h : d_House_turnsOf_18  x2 s0 V = some r) : Rn e 17 18 [(0, .ref 3), (2, .int x2)] [.int s0] (SH ++ X) V (some (.int r)) (SH ++ X) V := by
  rw [d_House_turnsOf_18] at h
  refine rn_go 3 (pc' := 21) (l' := [(3, .int s0), (0, .ref 3), (2, .int x2)]) (st' := [.int x2, .ref 3]) (S1 := (SH ++ X)) (V1 := V) rfl ?_
  obtain ⟨q1, hq1, h⟩ := ai_bd h
  refine rn_call rfl rfl rfl rfl rfl rfl (by omega) (t_House_has (by omega) hq1) ?_
  rcases ai_if h with ⟨hc, h⟩ | ⟨hc, h⟩
  · refine rn_brT rfl rfl rfl rfl hc ?_
    refine rn_go 1 (pc' := 41) (l' := [(3, .int s0), (0, .ref 3), (2, .int x2)]) (st' := [.int s0]) (S1 := (SH ++ X)) (V1 := V) rfl ?_
    cases h
    exact rn_ret rfl rfl rfl
  · refine rn_brF rfl rfl rfl rfl hc ?_
    refine rn_go 4 (pc' := 33) (l' := [(3, .int s0), (0, .ref 3), (2, .int x2)]) (st' := [.int x2, .ref 5, .int s0]) (S1 := (SH ++ X)) (V1 := V) rfl ?_
    obtain ⟨hg, h⟩ := ai_gd h
    refine rg_iald (n := 6) rfl rfl hg ?_
    obtain ⟨q2, hq2, h⟩ := ai_bd h
    refine rn_call rfl rfl rfl rfl rfl rfl (by omega) (t_Math_min (by omega) hq2) ?_
    refine rn_go 1 (pc' := 41) (l' := [(3, .int s0), (0, .ref 3), (2, .int x2)]) (st' := [.int q2]) (S1 := (SH ++ X)) (V1 := V) rfl ?_
    cases h
    exact rn_ret rfl rfl rfl
def d_House_turnsOf (x1 : Int32) (x2 : Int32) (V : ai_V) : Option Int32 :=
  (d_House_has x1 V).bind fun q3 => (if q3 = 0 then (d_House_turnsOf_18 x2 (0 : Int32) V) else (if ai_in x1 6 then (d_House_turnsOf_18 x2 (ga V 5 (x1).toNatClampNeg) V) else none))
theorem t_House_turnsOf {X : ai_S} {e : Nat} (hd : 1 ≤ e) {x1 : Int32} {x2 : Int32} {V : ai_V} {r : Int32} (h : d_House_turnsOf x1 x2 V = some r) : Rn e 17 0 (lv_args 0 [.ref 3, .int x1, .int x2]) [] (SH ++ X) V (some (.int r)) (SH ++ X) V := by
  rw [d_House_turnsOf] at h
  refine rn_go 2 (pc' := 2) (l' := [(0, .ref 3), (1, .int x1), (2, .int x2)]) (st' := [.int x1, .ref 3]) (S1 := (SH ++ X)) (V1 := V) rfl ?_
  obtain ⟨q3, hq3, h⟩ := ai_bd h
  refine rn_call rfl rfl rfl rfl rfl rfl (by omega) (t_House_has (by omega) hq3) ?_
  rcases ai_if h with ⟨hc, h⟩ | ⟨hc, h⟩
  · refine rn_brT rfl rfl rfl rfl hc ?_
    refine rn_go 1 (pc' := 18) (l' := [(0, .ref 3), (1, .int x1), (2, .int x2)]) (st' := [.int (0 : Int32)]) (S1 := (SH ++ X)) (V1 := V) rfl ?_
    exact rn_sub [0, 2] rfl rfl (t_House_turnsOf_18 (X := X) hd x2 (0 : Int32) V _ h)
  · refine rn_brF rfl rfl rfl rfl hc ?_
    refine rn_go 3 (pc' := 13) (l' := [(0, .ref 3), (1, .int x1), (2, .int x2)]) (st' := [.int x1, .ref 5]) (S1 := (SH ++ X)) (V1 := V) rfl ?_
    obtain ⟨hg, h⟩ := ai_gd h
    refine rg_iald (n := 6) rfl rfl hg ?_
    refine rn_go 1 (pc' := 18) (l' := [(0, .ref 3), (1, .int x1), (2, .int x2)]) (st' := [.int (ga V 5 (x1).toNatClampNeg)]) (S1 := (SH ++ X)) (V1 := V) rfl ?_
    exact rn_sub [0, 2] rfl rfl (t_House_turnsOf_18 (X := X) hd x2 (ga V 5 (x1).toNatClampNeg) V _ h)
-- RentByTheWheel$House.wantOf(II)I
def d_House_wantOf_16   (V : ai_V) : Option Int32 :=
  some (0 : Int32)
theorem t_House_wantOf_16 {X : ai_S} {e : Nat} (hd : 0 ≤ e)   (V : ai_V) (r : Int32) (h : d_House_wantOf_16   V = some r) : Rn e 18 16 [] [] (SH ++ X) V (some (.int r)) (SH ++ X) V := by
  rw [d_House_wantOf_16] at h
  refine rn_go 2 (pc' := 33) (l' := []) (st' := [.int (0 : Int32)]) (S1 := (SH ++ X)) (V1 := V) rfl ?_
  cases h
  exact rn_ret rfl rfl rfl
def d_House_wantOf (x1 : Int32) (x2 : Int32) (V : ai_V) : Option Int32 :=
  if ai_in x1 6 then (if (ga V 8 (x1).toNatClampNeg) < (1 : Int32) then (d_House_wantOf_16 V) else (if 0 ≤ x2 then (if (ga V 8 (x1).toNatClampNeg) = 0 then none else (if ai_in ((x1 * (12 : Int32)) + (x2 - x2 / (ga V 8 (x1).toNatClampNeg) * (ga V 8 (x1).toNatClampNeg))) 72 then (some (ga V 7 (((x1 * (12 : Int32)) + (x2 - x2 / (ga V 8 (x1).toNatClampNeg) * (ga V 8 (x1).toNatClampNeg)))).toNatClampNeg)) else none)) else (d_House_wantOf_16 V))) else none
theorem t_House_wantOf {X : ai_S} {e : Nat} (hd : 0 ≤ e) {x1 : Int32} {x2 : Int32} {V : ai_V} {r : Int32} (h : d_House_wantOf x1 x2 V = some r) : Rn e 18 0 (lv_args 0 [.ref 3, .int x1, .int x2]) [] (SH ++ X) V (some (.int r)) (SH ++ X) V := by
  rw [d_House_wantOf] at h
  refine rn_go 3 (pc' := 5) (l' := [(0, .ref 3), (1, .int x1), (2, .int x2)]) (st' := [.int x1, .ref 8]) (S1 := (SH ++ X)) (V1 := V) rfl ?_
  obtain ⟨hg, h⟩ := ai_gd h
  refine rg_iald (n := 6) rfl rfl hg ?_
  refine rn_go 3 (pc' := 9) (l' := [(3, .int (ga V 8 (x1).toNatClampNeg)), (0, .ref 3), (1, .int x1), (2, .int x2)]) (st' := [.int (1 : Int32), .int (ga V 8 (x1).toNatClampNeg)]) (S1 := (SH ++ X)) (V1 := V) rfl ?_
  rcases ai_if h with ⟨hc, h⟩ | ⟨hc, h⟩
  · refine rn_brT rfl rfl rfl rfl hc ?_
    exact rn_sub [] rfl rfl (t_House_wantOf_16 (X := X) hd V _ h)
  · refine rn_brF rfl rfl rfl rfl hc ?_
    refine rn_go 1 (pc' := 13) (l' := [(3, .int (ga V 8 (x1).toNatClampNeg)), (0, .ref 3), (1, .int x1), (2, .int x2)]) (st' := [.int x2]) (S1 := (SH ++ X)) (V1 := V) rfl ?_
    rcases ai_if h with ⟨hc, h⟩ | ⟨hc, h⟩
    · refine rn_brT rfl rfl rfl rfl hc ?_
      refine rn_go 7 (pc' := 30) (l' := [(3, .int (ga V 8 (x1).toNatClampNeg)), (0, .ref 3), (1, .int x1), (2, .int x2)]) (st' := [.int (ga V 8 (x1).toNatClampNeg), .int x2, .int (x1 * (12 : Int32)), .ref 7]) (S1 := (SH ++ X)) (V1 := V) rfl ?_
      obtain ⟨hg, h⟩ := ai_gn h
      refine rg_irem rfl hg ?_
      refine rn_go 1 (pc' := 32) (l' := [(3, .int (ga V 8 (x1).toNatClampNeg)), (0, .ref 3), (1, .int x1), (2, .int x2)]) (st' := [.int ((x1 * (12 : Int32)) + (x2 - x2 / (ga V 8 (x1).toNatClampNeg) * (ga V 8 (x1).toNatClampNeg))), .ref 7]) (S1 := (SH ++ X)) (V1 := V) rfl ?_
      obtain ⟨hg, h⟩ := ai_gd h
      refine rg_iald (n := 72) rfl rfl hg ?_
      cases h
      exact rn_ret rfl rfl rfl
    · refine rn_brF rfl rfl rfl rfl hc ?_
      exact rn_sub [] rfl rfl (t_House_wantOf_16 (X := X) hd V _ h)
-- RentByTheWheel$House.wantsIn(I)I
def d_House_wantsIn_4  : Nat → Int32 → Int32 → Int32 → ai_V → Option Int32
  | 0, _, _, _, _ => none
  | n + 1, x1, x2, x3, V => if (gi V 3 0) ≤ x3 then (some x2) else ((d_House_wantOf x3 x1 V).bind fun q1 => (d_House_wantsIn_4 n x1 (x2 + q1) (x3 + (1 : Int32)) V))
theorem t_House_wantsIn_4 {X : ai_S} {e : Nat} (hd : 1 ≤ e)  : ∀ (n : Nat) (x1 : Int32) (x2 : Int32) (x3 : Int32) (V : ai_V) (r : Int32), d_House_wantsIn_4  n x1 x2 x3 V = some r → Rn e 24 4 [(0, .ref 3), (1, .int x1), (2, .int x2), (3, .int x3)] [] (SH ++ X) V (some (.int r)) (SH ++ X) V := by
  intro n
  induction n with
  | zero =>
    intro x1 x2 x3 V r h
    cases h
  | succ n ih =>
    intro x1 x2 x3 V r h
    rw [d_House_wantsIn_4] at h
    refine rn_go 3 (pc' := 9) (l' := [(0, .ref 3), (1, .int x1), (2, .int x2), (3, .int x3)]) (st' := [.int (gi V 3 0), .int x3]) (S1 := (SH ++ X)) (V1 := V) rfl ?_
    rcases ai_if h with ⟨hc, h⟩ | ⟨hc, h⟩
    · refine rn_brT rfl rfl rfl rfl hc ?_
      refine rn_go 1 (pc' := 28) (l' := [(0, .ref 3), (1, .int x1), (2, .int x2), (3, .int x3)]) (st' := [.int x2]) (S1 := (SH ++ X)) (V1 := V) rfl ?_
      cases h
      exact rn_ret rfl rfl rfl
    · refine rn_brF rfl rfl rfl rfl hc ?_
      refine rn_go 4 (pc' := 16) (l' := [(0, .ref 3), (1, .int x1), (2, .int x2), (3, .int x3)]) (st' := [.int x1, .int x3, .ref 3, .int x2]) (S1 := (SH ++ X)) (V1 := V) rfl ?_
      obtain ⟨q1, hq1, h⟩ := ai_bd h
      refine rn_call rfl rfl rfl rfl rfl rfl (by omega) (t_House_wantOf (by omega) hq1) ?_
      refine rn_go 4 (pc' := 4) (l' := [(3, .int (x3 + (1 : Int32))), (2, .int (x2 + q1)), (0, .ref 3), (1, .int x1)]) (st' := []) (S1 := (SH ++ X)) (V1 := V) rfl ?_
      exact rn_sub [2, 3, 1, 0] rfl rfl (ih x1 (x2 + q1) (x3 + (1 : Int32)) V _ h)
def d_House_wantsIn (x1 : Int32) (V : ai_V) : Option Int32 :=
  d_House_wantsIn_4 ai_N x1 (0 : Int32) (0 : Int32) V
theorem t_House_wantsIn {X : ai_S} {e : Nat} (hd : 1 ≤ e) {x1 : Int32} {V : ai_V} {r : Int32} (h : d_House_wantsIn x1 V = some r) : Rn e 24 0 (lv_args 0 [.ref 3, .int x1]) [] (SH ++ X) V (some (.int r)) (SH ++ X) V := by
  rw [d_House_wantsIn] at h
  refine rn_go 4 (pc' := 4) (l' := [(3, .int (0 : Int32)), (2, .int (0 : Int32)), (0, .ref 3), (1, .int x1)]) (st' := []) (S1 := (SH ++ X)) (V1 := V) rfl ?_
  exact rn_sub [2, 3, 1, 0] rfl rfl (t_House_wantsIn_4 (X := X) hd ai_N x1 (0 : Int32) (0 : Int32) V _ h)
-- RentByTheWheelModel.has(II)Z
def d_M_has (x0 : Int32) (x1 : Int32) (V : ai_V) : Option Int32 :=
  if ¬ ((x0 >>> (x1 &&& 31)) &&& (1 : Int32)) = (1 : Int32) then (some (0 : Int32)) else (some (1 : Int32))
theorem t_M_has {X : ai_S} {e : Nat} (hd : 0 ≤ e) {x0 : Int32} {x1 : Int32} {V : ai_V} {r : Int32} (h : d_M_has x0 x1 V = some r) : Rn e 178 0 (lv_args 0 [.int x0, .int x1]) [] (SH ++ X) V (some (.int r)) (SH ++ X) V := by
  rw [d_M_has] at h
  refine rn_go 6 (pc' := 6) (l' := [(0, .int x0), (1, .int x1)]) (st' := [.int (1 : Int32), .int ((x0 >>> (x1 &&& 31)) &&& (1 : Int32))]) (S1 := (SH ++ X)) (V1 := V) rfl ?_
  rcases ai_if h with ⟨hc, h⟩ | ⟨hc, h⟩
  · refine rn_brT rfl rfl rfl rfl hc ?_
    refine rn_go 1 (pc' := 14) (l' := [(0, .int x0), (1, .int x1)]) (st' := [.int (0 : Int32)]) (S1 := (SH ++ X)) (V1 := V) rfl ?_
    cases h
    exact rg_zret rfl (by decide)
  · refine rn_brF rfl rfl rfl rfl hc ?_
    refine rn_go 2 (pc' := 14) (l' := [(0, .int x0), (1, .int x1)]) (st' := [.int (1 : Int32)]) (S1 := (SH ++ X)) (V1 := V) rfl ?_
    cases h
    exact rg_zret rfl (by decide)
-- RentByTheWheelModel.turnsOf(I)I
def d_M_turnsOf_40 (F13 : Int32 → Int32 → Int32 → ai_V → Option Int32) (x1 : Int32) (x2 : Int32) (x3 : Int32) (V : ai_V) : Option Int32 :=
  F13 x1 x2 (x3 + (1 : Int32)) V
theorem t_M_turnsOf_40 {X : ai_S} {e : Nat} (hd : 1 ≤ e) (F13 : Int32 → Int32 → Int32 → ai_V → Option Int32) (hF13 : ∀ (x1 : Int32) (x2 : Int32) (x3 : Int32) (V : ai_V) (r : Int32), F13 x1 x2 x3 V = some r → Rn e 179 13 [(0, .ref 89), (1, .int x1), (2, .int x2), (3, .int x3)] [] (SH ++ X) V (some (.int r)) (SH ++ X) V) (x1 : Int32) (x2 : Int32) (x3 : Int32) (V : ai_V) (r : Int32) (h : d_M_turnsOf_40 F13 x1 x2 x3 V = some r) : Rn e 179 40 [(0, .ref 89), (1, .int x1), (2, .int x2), (3, .int x3)] [] (SH ++ X) V (some (.int r)) (SH ++ X) V := by
  rw [d_M_turnsOf_40] at h
  refine rn_go 2 (pc' := 13) (l' := [(3, .int (x3 + (1 : Int32))), (0, .ref 89), (1, .int x1), (2, .int x2)]) (st' := []) (S1 := (SH ++ X)) (V1 := V) rfl ?_
  exact rn_sub [1, 2, 3, 0] rfl rfl (hF13 x1 x2 (x3 + (1 : Int32)) V _ h)
def d_M_turnsOf_13  : Nat → Int32 → Int32 → Int32 → ai_V → Option Int32
  | 0, _, _, _, _ => none
  | n + 1, x1, x2, x3, V => if (gi V 89 1) ≤ x3 then (some x2) else ((d_M_has x1 x3 V).bind fun q1 => (if q1 = 0 then (d_M_turnsOf_40 (d_M_turnsOf_13 n) x1 x2 x3 V) else (if ai_in x3 6 then ((d_Math_min x2 (ga V 92 (x3).toNatClampNeg) V).bind fun q2 => (d_M_turnsOf_40 (d_M_turnsOf_13 n) x1 q2 x3 V)) else none)))
theorem t_M_turnsOf_13 {X : ai_S} {e : Nat} (hd : 1 ≤ e)  : ∀ (n : Nat) (x1 : Int32) (x2 : Int32) (x3 : Int32) (V : ai_V) (r : Int32), d_M_turnsOf_13  n x1 x2 x3 V = some r → Rn e 179 13 [(0, .ref 89), (1, .int x1), (2, .int x2), (3, .int x3)] [] (SH ++ X) V (some (.int r)) (SH ++ X) V := by
  intro n
  induction n with
  | zero =>
    intro x1 x2 x3 V r h
    cases h
  | succ n ih =>
    intro x1 x2 x3 V r h
    rw [d_M_turnsOf_13] at h
    refine rn_go 3 (pc' := 18) (l' := [(0, .ref 89), (1, .int x1), (2, .int x2), (3, .int x3)]) (st' := [.int (gi V 89 1), .int x3]) (S1 := (SH ++ X)) (V1 := V) rfl ?_
    rcases ai_if h with ⟨hc, h⟩ | ⟨hc, h⟩
    · refine rn_brT rfl rfl rfl rfl hc ?_
      refine rn_go 1 (pc' := 47) (l' := [(0, .ref 89), (1, .int x1), (2, .int x2), (3, .int x3)]) (st' := [.int x2]) (S1 := (SH ++ X)) (V1 := V) rfl ?_
      cases h
      exact rn_ret rfl rfl rfl
    · refine rn_brF rfl rfl rfl rfl hc ?_
      refine rn_go 2 (pc' := 23) (l' := [(0, .ref 89), (1, .int x1), (2, .int x2), (3, .int x3)]) (st' := [.int x3, .int x1]) (S1 := (SH ++ X)) (V1 := V) rfl ?_
      obtain ⟨q1, hq1, h⟩ := ai_bd h
      refine rn_call rfl rfl rfl rfl rfl rfl (by omega) (t_M_has (by omega) hq1) ?_
      rcases ai_if h with ⟨hc, h⟩ | ⟨hc, h⟩
      · refine rn_brT rfl rfl rfl rfl hc ?_
        exact rn_sub [0, 1, 2, 3] rfl rfl (t_M_turnsOf_40 (X := X) hd (d_M_turnsOf_13 n) (ih) x1 x2 x3 V _ h)
      · refine rn_brF rfl rfl rfl rfl hc ?_
        refine rn_go 4 (pc' := 35) (l' := [(0, .ref 89), (1, .int x1), (2, .int x2), (3, .int x3)]) (st' := [.int x3, .ref 92, .int x2]) (S1 := (SH ++ X)) (V1 := V) rfl ?_
        obtain ⟨hg, h⟩ := ai_gd h
        refine rg_iald (n := 6) rfl rfl hg ?_
        obtain ⟨q2, hq2, h⟩ := ai_bd h
        refine rn_call rfl rfl rfl rfl rfl rfl (by omega) (t_Math_min (by omega) hq2) ?_
        refine rn_go 1 (pc' := 40) (l' := [(2, .int q2), (0, .ref 89), (1, .int x1), (3, .int x3)]) (st' := []) (S1 := (SH ++ X)) (V1 := V) rfl ?_
        exact rn_sub [1, 2, 0, 3] rfl rfl (t_M_turnsOf_40 (X := X) hd (d_M_turnsOf_13 n) (ih) x1 q2 x3 V _ h)
def d_M_turnsOf_10  (x1 : Int32) (s0 : Int32) (V : ai_V) : Option Int32 :=
  d_M_turnsOf_13 ai_N x1 s0 (0 : Int32) V
theorem t_M_turnsOf_10 {X : ai_S} {e : Nat} (hd : 1 ≤ e)  (x1 : Int32) (s0 : Int32) (V : ai_V) (r : Int32) (h : d_M_turnsOf_10  x1 s0 V = some r) : Rn e 179 10 [(0, .ref 89), (1, .int x1)] [.int s0] (SH ++ X) V (some (.int r)) (SH ++ X) V := by
  rw [d_M_turnsOf_10] at h
  refine rn_go 3 (pc' := 13) (l' := [(3, .int (0 : Int32)), (2, .int s0), (0, .ref 89), (1, .int x1)]) (st' := []) (S1 := (SH ++ X)) (V1 := V) rfl ?_
  exact rn_sub [2, 3, 1, 0] rfl rfl (t_M_turnsOf_13 (X := X) hd ai_N x1 s0 (0 : Int32) V _ h)
def d_M_turnsOf (x1 : Int32) (V : ai_V) : Option Int32 :=
  if ¬ x1 = 0 then (d_M_turnsOf_10 x1 (9 : Int32) V) else (d_M_turnsOf_10 x1 (0 : Int32) V)
theorem t_M_turnsOf {X : ai_S} {e : Nat} (hd : 1 ≤ e) {x1 : Int32} {V : ai_V} {r : Int32} (h : d_M_turnsOf x1 V = some r) : Rn e 179 0 (lv_args 0 [.ref 89, .int x1]) [] (SH ++ X) V (some (.int r)) (SH ++ X) V := by
  rw [d_M_turnsOf] at h
  refine rn_go 1 (pc' := 1) (l' := [(0, .ref 89), (1, .int x1)]) (st' := [.int x1]) (S1 := (SH ++ X)) (V1 := V) rfl ?_
  rcases ai_if h with ⟨hc, h⟩ | ⟨hc, h⟩
  · refine rn_brT rfl rfl rfl rfl hc ?_
    refine rn_go 1 (pc' := 10) (l' := [(0, .ref 89), (1, .int x1)]) (st' := [.int (9 : Int32)]) (S1 := (SH ++ X)) (V1 := V) rfl ?_
    exact rn_sub [0, 1] rfl rfl (t_M_turnsOf_10 (X := X) hd x1 (9 : Int32) V _ h)
  · refine rn_brF rfl rfl rfl rfl hc ?_
    refine rn_go 2 (pc' := 10) (l' := [(0, .ref 89), (1, .int x1)]) (st' := [.int (0 : Int32)]) (S1 := (SH ++ X)) (V1 := V) rfl ?_
    exact rn_sub [0, 1] rfl rfl (t_M_turnsOf_10 (X := X) hd x1 (0 : Int32) V _ h)
-- RentByTheWheel$Text.add(I)I
def d_Text_add_16  : Nat → Int32 → Int32 → ai_V → Option (Int32 × ai_V)
  | 0, _, _, _ => none
  | n + 1, x1, x2, V => if x2 < 0 then (some ((gi V 1 1), V)) else (if ai_in (gi V 1 1) 80 then (d_Text_add_16 n x1 (x2 + (-8 : Int32)) (si (sa V 2 ((gi V 1 1)).toNatClampNeg (((x1).toUInt32 >>> ((x2).toUInt32 &&& Int32.toUInt32 31)).toInt32 &&& (255 : Int32))) 1 1 ((gi (sa V 2 ((gi V 1 1)).toNatClampNeg (((x1).toUInt32 >>> ((x2).toUInt32 &&& Int32.toUInt32 31)).toInt32 &&& (255 : Int32))) 1 1) + (1 : Int32)))) else none)
theorem t_Text_add_16 {X : ai_S} {e : Nat} (hd : 0 ≤ e)  : ∀ (n : Nat) (x1 : Int32) (x2 : Int32) (V : ai_V) (r : (Int32 × ai_V)), d_Text_add_16  n x1 x2 V = some r → Rn e 75 16 [(0, .ref 1), (1, .int x1), (2, .int x2)] [] (SH ++ X) V (some (.int r.1)) (SH ++ X) r.2 := by
  intro n
  induction n with
  | zero =>
    intro x1 x2 V r h
    cases h
  | succ n ih =>
    intro x1 x2 V r h
    rw [d_Text_add_16] at h
    refine rn_go 1 (pc' := 17) (l' := [(0, .ref 1), (1, .int x1), (2, .int x2)]) (st' := [.int x2]) (S1 := (SH ++ X)) (V1 := V) rfl ?_
    rcases ai_if h with ⟨hc, h⟩ | ⟨hc, h⟩
    · refine rn_brT rfl rfl rfl rfl hc ?_
      refine rn_go 2 (pc' := 56) (l' := [(0, .ref 1), (1, .int x1), (2, .int x2)]) (st' := [.int (gi V 1 1)]) (S1 := (SH ++ X)) (V1 := V) rfl ?_
      cases h
      exact rn_ret rfl rfl rfl
    · refine rn_brF rfl rfl rfl rfl hc ?_
      refine rn_go 9 (pc' := 35) (l' := [(0, .ref 1), (1, .int x1), (2, .int x2)]) (st' := [.int (((x1).toUInt32 >>> ((x2).toUInt32 &&& Int32.toUInt32 31)).toInt32 &&& (255 : Int32)), .int (gi V 1 1), .ref 2]) (S1 := (SH ++ X)) (V1 := V) rfl ?_
      obtain ⟨hg, h⟩ := ai_gd h
      refine rg_iast (n := 80) rfl rfl hg ?_
      refine rn_go 8 (pc' := 16) (l' := [(2, .int (x2 + (-8 : Int32))), (0, .ref 1), (1, .int x1)]) (st' := []) (S1 := (SH ++ X)) (V1 := (si (sa V 2 ((gi V 1 1)).toNatClampNeg (((x1).toUInt32 >>> ((x2).toUInt32 &&& Int32.toUInt32 31)).toInt32 &&& (255 : Int32))) 1 1 ((gi (sa V 2 ((gi V 1 1)).toNatClampNeg (((x1).toUInt32 >>> ((x2).toUInt32 &&& Int32.toUInt32 31)).toInt32 &&& (255 : Int32))) 1 1) + (1 : Int32)))) rfl ?_
      exact rn_sub [1, 2, 0] rfl rfl (ih x1 (x2 + (-8 : Int32)) (si (sa V 2 ((gi V 1 1)).toNatClampNeg (((x1).toUInt32 >>> ((x2).toUInt32 &&& Int32.toUInt32 31)).toInt32 &&& (255 : Int32))) 1 1 ((gi (sa V 2 ((gi V 1 1)).toNatClampNeg (((x1).toUInt32 >>> ((x2).toUInt32 &&& Int32.toUInt32 31)).toInt32 &&& (255 : Int32))) 1 1) + (1 : Int32))) _ h)
def d_Text_add (x1 : Int32) (V : ai_V) : Option (Int32 × ai_V) :=
  if ((gi V 1 1) + (4 : Int32)) ≤ (80 : Int32) then (d_Text_add_16 ai_N x1 (24 : Int32) V) else (some ((-1 : Int32), V))
theorem t_Text_add {X : ai_S} {e : Nat} (hd : 0 ≤ e) {x1 : Int32} {V : ai_V} {r : (Int32 × ai_V)} (h : d_Text_add x1 V = some r) : Rn e 75 0 (lv_args 0 [.ref 1, .int x1]) [] (SH ++ X) V (some (.int r.1)) (SH ++ X) r.2 := by
  rw [d_Text_add] at h
  refine rn_go 5 (pc' := 8) (l' := [(0, .ref 1), (1, .int x1)]) (st' := [.int (80 : Int32), .int ((gi V 1 1) + (4 : Int32))]) (S1 := (SH ++ X)) (V1 := V) rfl ?_
  rcases ai_if h with ⟨hc, h⟩ | ⟨hc, h⟩
  · refine rn_brT rfl rfl rfl rfl hc ?_
    refine rn_go 2 (pc' := 16) (l' := [(2, .int (24 : Int32)), (0, .ref 1), (1, .int x1)]) (st' := []) (S1 := (SH ++ X)) (V1 := V) rfl ?_
    exact rn_sub [1, 2, 0] rfl rfl (t_Text_add_16 (X := X) hd ai_N x1 (24 : Int32) V _ h)
  · refine rn_brF rfl rfl rfl rfl hc ?_
    refine rn_go 1 (pc' := 12) (l' := [(0, .ref 1), (1, .int x1)]) (st' := [.int (-1 : Int32)]) (S1 := (SH ++ X)) (V1 := V) rfl ?_
    cases h
    exact rn_ret rfl rfl rfl
