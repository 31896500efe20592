/-! ===== printed by wip/gen/gen.py: methods as functions, and that the machine runs so ===== -/
-- RentByTheWheelModel.canOwe(III)Z (89, None, None, None)
def d_M_canOwe (x1 : Int32) (x2 : Int32) (x3 : Int32) (V : ai_V) : Option Int32 :=
  (d_M_isOne x1 V).bind fun q1 => (if q1 = 0 then (some (0 : Int32)) else ((d_M_in x2 (1 : Int32) (12 : Int32) V).bind fun q2 => (if q2 = 0 then (some (0 : Int32)) else ((d_M_in x3 (0 : Int32) (10 : Int32) V).bind fun q3 => (if q3 = 0 then (some (0 : Int32)) else (some (1 : Int32)))))))
set_option maxRecDepth 20000 in
theorem t_M_canOwe {X : ai_S} {e : Nat} (hd : 2 ≤ e) {x1 : Int32} {x2 : Int32} {x3 : Int32} {V : ai_V} {r : Int32} (h : d_M_canOwe x1 x2 x3 V = some r) : Rn e 246 0 (lv_args 0 [.ref 89, .int x1, .int x2, .int x3]) [] (SH ++ X) V (some (.int r)) (SH ++ X) V := by
  rw [d_M_canOwe] at h
  refine rn_go 2 (pc' := 2) (l' := [(0, .ref 89), (1, .int x1), (2, .int x2), (3, .int x3)]) (st' := [.int x1, .ref 89]) (S1 := (SH ++ X)) (V1 := V) rfl ?_
  obtain ⟨q1, hq1, h⟩ := ai_bd h
  refine rn_call rfl rfl rfl rfl rfl rfl (by omega) (t_M_isOne (by omega) hq1) ?_
  rcases ai_if h with ⟨hc, h⟩ | ⟨hc, h⟩
  · refine rn_brT rfl rfl rfl rfl hc ?_
    refine rn_go 1 (pc' := 33) (l' := [(0, .ref 89), (1, .int x1), (2, .int x2), (3, .int x3)]) (st' := [.int (0 : Int32)]) (S1 := (SH ++ X)) (V1 := V) rfl ?_
    obtain rfl := Option.some.inj h
    exact rg_zret rfl (by decide)
  · refine rn_brF rfl rfl rfl rfl hc ?_
    refine rn_go 3 (pc' := 12) (l' := [(0, .ref 89), (1, .int x1), (2, .int x2), (3, .int x3)]) (st' := [.int (12 : Int32), .int (1 : Int32), .int x2]) (S1 := (SH ++ X)) (V1 := V) rfl ?_
    obtain ⟨q2, hq2, h⟩ := ai_bd h
    refine rn_call rfl rfl rfl rfl rfl rfl (by omega) (t_M_in (by omega) hq2) ?_
    rcases ai_if h with ⟨hc, h⟩ | ⟨hc, h⟩
    · refine rn_brT rfl rfl rfl rfl hc ?_
      refine rn_go 1 (pc' := 33) (l' := [(0, .ref 89), (1, .int x1), (2, .int x2), (3, .int x3)]) (st' := [.int (0 : Int32)]) (S1 := (SH ++ X)) (V1 := V) rfl ?_
      obtain rfl := Option.some.inj h
      exact rg_zret rfl (by decide)
    · refine rn_brF rfl rfl rfl rfl hc ?_
      refine rn_go 3 (pc' := 22) (l' := [(0, .ref 89), (1, .int x1), (2, .int x2), (3, .int x3)]) (st' := [.int (10 : Int32), .int (0 : Int32), .int x3]) (S1 := (SH ++ X)) (V1 := V) rfl ?_
      obtain ⟨q3, hq3, h⟩ := ai_bd h
      refine rn_call rfl rfl rfl rfl rfl rfl (by omega) (t_M_in (by omega) hq3) ?_
      rcases ai_if h with ⟨hc, h⟩ | ⟨hc, h⟩
      · refine rn_brT rfl rfl rfl rfl hc ?_
        refine rn_go 1 (pc' := 33) (l' := [(0, .ref 89), (1, .int x1), (2, .int x2), (3, .int x3)]) (st' := [.int (0 : Int32)]) (S1 := (SH ++ X)) (V1 := V) rfl ?_
        obtain rfl := Option.some.inj h
        exact rg_zret rfl (by decide)
      · refine rn_brF rfl rfl rfl rfl hc ?_
        refine rn_go 2 (pc' := 33) (l' := [(0, .ref 89), (1, .int x1), (2, .int x2), (3, .int x3)]) (st' := [.int (1 : Int32)]) (S1 := (SH ++ X)) (V1 := V) rfl ?_
        obtain rfl := Option.some.inj h
        exact rg_zret rfl (by decide)
-- RentByTheWheelModel.common(JJ)J (None, None)
def d_M_common_B (T : Int64 → Int64 → ai_V → Option Int64) (x0 : Int64) (x2 : Int64) (V : ai_V) : Option Int64 :=
  if ¬ (lg_cmp x2 (Int64.ofNat 0)) = 0 then (if x2 = 0 then none else ((T x2 (x0 - x0 / x2 * x2) V).bind fun q1 => (some q1))) else (some x0)
set_option maxRecDepth 20000 in
theorem t_M_common_B (T : Int64 → Int64 → ai_V → Option Int64) (DT : Nat) (hT : ∀ {X : ai_S} {e : Nat}, DT ≤ e → ∀ (x0 : Int64) (x2 : Int64) (V : ai_V) (r : Int64), T x0 x2 V = some r → Rn e 247 0 (lv_args 0 [.long x0, .long x2]) [] (SH ++ X) V (some (.long r)) (SH ++ X) V) {X : ai_S} {e : Nat} (hd : DT + 1 ≤ e ∧ 0 ≤ e) {x0 : Int64} {x2 : Int64} {V : ai_V} {r : Int64} (h : d_M_common_B T x0 x2 V = some r) : Rn e 247 0 (lv_args 0 [.long x0, .long x2]) [] (SH ++ X) V (some (.long r)) (SH ++ X) V := by
  rw [d_M_common_B] at h
  refine rn_go 3 (pc' := 3) (l' := [(0, .long x0), (2, .long x2)]) (st' := [.int (lg_cmp x2 (Int64.ofNat 0))]) (S1 := (SH ++ X)) (V1 := V) rfl ?_
  rcases ai_if h with ⟨hc, h⟩ | ⟨hc, h⟩
  · refine rn_brT rfl rfl rfl rfl hc ?_
    refine rn_go 3 (pc' := 13) (l' := [(0, .long x0), (2, .long x2)]) (st' := [.long x2, .long x0, .long x2]) (S1 := (SH ++ X)) (V1 := V) rfl ?_
    obtain ⟨hg, h⟩ := ai_gn h
    refine rg_lrem rfl hg ?_
    obtain ⟨q1, hq1, h⟩ := ai_bd h
    refine rn_call rfl rfl rfl rfl rfl rfl (by omega) (hT (by omega) x2 (x0 - x0 / x2 * x2) V _ hq1) ?_
    obtain rfl := Option.some.inj h
    exact rn_ret rfl rfl rfl
  · refine rn_brF rfl rfl rfl rfl hc ?_
    refine rn_go 2 (pc' := 17) (l' := [(0, .long x0), (2, .long x2)]) (st' := [.long x0]) (S1 := (SH ++ X)) (V1 := V) rfl ?_
    obtain rfl := Option.some.inj h
    exact rn_ret rfl rfl rfl
def d_M_common_R : Nat → Int64 → Int64 → ai_V → Option Int64
  | 0, _, _, _ => none
  | n + 1, x0, x2, V => d_M_common_B (d_M_common_R n) x0 x2 V
theorem t_M_common_R : ∀ (n : Nat) {X : ai_S} {e : Nat} (hd : n * 1 + 0 ≤ e) (x0 : Int64) (x2 : Int64) (V : ai_V) (r : Int64), d_M_common_R n x0 x2 V = some r → Rn e 247 0 (lv_args 0 [.long x0, .long x2]) [] (SH ++ X) V (some (.long r)) (SH ++ X) V := by
  intro n
  induction n with
  | zero =>
    intro X e hd x0 x2 V r h
    cases h
  | succ n ih =>
    intro X e hd x0 x2 V r h
    exact t_M_common_B (d_M_common_R n) (n * 1 + 0) (fun hd2 => ih hd2) (by omega) (show d_M_common_B (d_M_common_R n) x0 x2 V = some r from h)
def d_M_common : Int64 → Int64 → ai_V → Option Int64 := d_M_common_R 80
theorem t_M_common {X : ai_S} {e : Nat} (hd : 80 ≤ e) {x0 : Int64} {x2 : Int64} {V : ai_V} {r : Int64} (h : d_M_common x0 x2 V = some r) : Rn e 247 0 (lv_args 0 [.long x0, .long x2]) [] (SH ++ X) V (some (.long r)) (SH ++ X) V := t_M_common_R 80 (by omega) x0 x2 V r h
-- RentByTheWheelModel.findOwed(III)V (89, None, None, None)
def d_M_findOwed_46 (F12 : Int32 → Int32 → Int32 → Int64 → Int64 → Int64 → Int32 → ai_V → Option ai_V) (x1 : Int32) (x2 : Int32) (x3 : Int32) (x4 : Int64) (x6 : Int64) (x8 : Int64) (x10 : Int32) (V : ai_V) : Option ai_V :=
  F12 x1 x2 x3 (x4 + x8) x6 x8 (x10 + (1 : Int32)) V
set_option maxRecDepth 20000 in
theorem t_M_findOwed_46 {X : ai_S} {e : Nat} (hd : 81 ≤ e) (F12 : Int32 → Int32 → Int32 → Int64 → Int64 → Int64 → Int32 → ai_V → Option ai_V) (hF12 : ∀ (x1 : Int32) (x2 : Int32) (x3 : Int32) (x4 : Int64) (x6 : Int64) (x8 : Int64) (x10 : Int32) (V : ai_V) (r : ai_V), F12 x1 x2 x3 x4 x6 x8 x10 V = some r → Rn e 248 12 [(0, .ref 89), (1, .int x1), (2, .int x2), (3, .int x3), (4, .long x4), (6, .long x6), (8, .long x8), (10, .int x10)] [] (SH ++ X) V none (SH ++ X) r) (x1 : Int32) (x2 : Int32) (x3 : Int32) (x4 : Int64) (x6 : Int64) (x8 : Int64) (x10 : Int32) (V : ai_V) (r : ai_V) (h : d_M_findOwed_46 F12 x1 x2 x3 x4 x6 x8 x10 V = some r) : Rn e 248 46 [(0, .ref 89), (1, .int x1), (2, .int x2), (3, .int x3), (4, .long x4), (6, .long x6), (8, .long x8), (10, .int x10)] [] (SH ++ X) V none (SH ++ X) r := by
  rw [d_M_findOwed_46] at h
  refine rn_go 6 (pc' := 12) (l' := [(10, .int (x10 + (1 : Int32))), (4, .long (x4 + x8)), (0, .ref 89), (1, .int x1), (2, .int x2), (3, .int x3), (6, .long x6), (8, .long x8)]) (st' := []) (S1 := (SH ++ X)) (V1 := V) rfl ?_
  exact rn_sub [2, 3, 4, 5, 1, 6, 7, 0] rfl rfl (hF12 x1 x2 x3 (x4 + x8) x6 x8 (x10 + (1 : Int32)) V _ h)
def d_M_findOwed_12  : Nat → Int32 → Int32 → Int32 → Int64 → Int64 → Int64 → Int32 → ai_V → Option ai_V
  | 0, _, _, _, _, _, _, _, _ => none
  | n + 1, x1, x2, x3, x4, x6, x8, x10, V => if x2 ≤ x10 then (if ai_in x1 6 then ((d_M_common (x4 * (((gi V 89 9)).toInt64 * (((ga V 91 (x1).toNatClampNeg) + (1 : Int32))).toInt64)) x6 V).bind fun q1 => (if q1 = 0 then none else (if q1 = 0 then none else (some (sj (sj V 89 56 ((x4 * (((gi V 89 9)).toInt64 * (((ga V 91 (x1).toNatClampNeg) + (1 : Int32))).toInt64)) / q1)) 89 57 (x6 / q1)))))) else none) else (if x10 ≤ 0 then (d_M_findOwed_46 (d_M_findOwed_12 n) x1 x2 x3 x4 x6 x8 x10 V) else (d_M_findOwed_46 (d_M_findOwed_12 n) x1 x2 x3 (x4 * (Int64.ofNat 10)) (x6 * (Int64.ofNat 10)) (x8 * (x3).toInt64) x10 V))
set_option maxRecDepth 20000 in
theorem t_M_findOwed_12 {X : ai_S} {e : Nat} (hd : 81 ≤ e)  : ∀ (n : Nat) (x1 : Int32) (x2 : Int32) (x3 : Int32) (x4 : Int64) (x6 : Int64) (x8 : Int64) (x10 : Int32) (V : ai_V) (r : ai_V), d_M_findOwed_12  n x1 x2 x3 x4 x6 x8 x10 V = some r → Rn e 248 12 [(0, .ref 89), (1, .int x1), (2, .int x2), (3, .int x3), (4, .long x4), (6, .long x6), (8, .long x8), (10, .int x10)] [] (SH ++ X) V none (SH ++ X) r := by
  intro n
  induction n with
  | zero =>
    intro x1 x2 x3 x4 x6 x8 x10 V r h
    cases h
  | succ n ih =>
    intro x1 x2 x3 x4 x6 x8 x10 V r h
    rw [d_M_findOwed_12] at h
    refine rn_go 2 (pc' := 15) (l' := [(0, .ref 89), (1, .int x1), (2, .int x2), (3, .int x3), (4, .long x4), (6, .long x6), (8, .long x8), (10, .int x10)]) (st' := [.int x2, .int x10]) (S1 := (SH ++ X)) (V1 := V) rfl ?_
    rcases ai_if h with ⟨hc, h⟩ | ⟨hc, h⟩
    · refine rn_brT rfl rfl rfl rfl hc ?_
      refine rn_go 7 (pc' := 71) (l' := [(0, .ref 89), (1, .int x1), (2, .int x2), (3, .int x3), (4, .long x4), (6, .long x6), (8, .long x8), (10, .int x10)]) (st' := [.int x1, .ref 91, .long ((gi V 89 9)).toInt64, .long x4]) (S1 := (SH ++ X)) (V1 := V) rfl ?_
      obtain ⟨hg, h⟩ := ai_gd h
      refine rg_iald (n := 6) rfl rfl hg ?_
      refine rn_go 8 (pc' := 83) (l' := [(4, .long (x4 * (((gi V 89 9)).toInt64 * (((ga V 91 (x1).toNatClampNeg) + (1 : Int32))).toInt64))), (0, .ref 89), (1, .int x1), (2, .int x2), (3, .int x3), (6, .long x6), (8, .long x8), (10, .int x10)]) (st' := [.long x6, .long (x4 * (((gi V 89 9)).toInt64 * (((ga V 91 (x1).toNatClampNeg) + (1 : Int32))).toInt64))]) (S1 := (SH ++ X)) (V1 := V) rfl ?_
      obtain ⟨q1, hq1, h⟩ := ai_bd h
      refine rn_call rfl rfl rfl rfl rfl rfl (by omega) (t_M_common (by omega) hq1) ?_
      refine rn_go 4 (pc' := 93) (l' := [(10, .long q1), (4, .long (x4 * (((gi V 89 9)).toInt64 * (((ga V 91 (x1).toNatClampNeg) + (1 : Int32))).toInt64))), (0, .ref 89), (1, .int x1), (2, .int x2), (3, .int x3), (6, .long x6), (8, .long x8)]) (st' := [.long q1, .long (x4 * (((gi V 89 9)).toInt64 * (((ga V 91 (x1).toNatClampNeg) + (1 : Int32))).toInt64)), .ref 89]) (S1 := (SH ++ X)) (V1 := V) rfl ?_
      obtain ⟨hg, h⟩ := ai_gn h
      refine rg_ldiv rfl hg ?_
      refine rn_go 4 (pc' := 102) (l' := [(10, .long q1), (4, .long (x4 * (((gi V 89 9)).toInt64 * (((ga V 91 (x1).toNatClampNeg) + (1 : Int32))).toInt64))), (0, .ref 89), (1, .int x1), (2, .int x2), (3, .int x3), (6, .long x6), (8, .long x8)]) (st' := [.long q1, .long x6, .ref 89]) (S1 := (SH ++ X)) (V1 := (sj V 89 56 ((x4 * (((gi V 89 9)).toInt64 * (((ga V 91 (x1).toNatClampNeg) + (1 : Int32))).toInt64)) / q1))) rfl ?_
      obtain ⟨hg, h⟩ := ai_gn h
      refine rg_ldiv rfl hg ?_
      refine rn_go 1 (pc' := 106) (l' := [(10, .long q1), (4, .long (x4 * (((gi V 89 9)).toInt64 * (((ga V 91 (x1).toNatClampNeg) + (1 : Int32))).toInt64))), (0, .ref 89), (1, .int x1), (2, .int x2), (3, .int x3), (6, .long x6), (8, .long x8)]) (st' := []) (S1 := (SH ++ X)) (V1 := (sj (sj V 89 56 ((x4 * (((gi V 89 9)).toInt64 * (((ga V 91 (x1).toNatClampNeg) + (1 : Int32))).toInt64)) / q1)) 89 57 (x6 / q1))) rfl ?_
      obtain rfl := Option.some.inj h
      exact rn_ret rfl rfl rfl
    · refine rn_brF rfl rfl rfl rfl hc ?_
      refine rn_go 1 (pc' := 20) (l' := [(0, .ref 89), (1, .int x1), (2, .int x2), (3, .int x3), (4, .long x4), (6, .long x6), (8, .long x8), (10, .int x10)]) (st' := [.int x10]) (S1 := (SH ++ X)) (V1 := V) rfl ?_
      rcases ai_if h with ⟨hc, h⟩ | ⟨hc, h⟩
      · refine rn_brT rfl rfl rfl rfl hc ?_
        exact rn_sub [0, 1, 2, 3, 4, 5, 6, 7] rfl rfl (t_M_findOwed_46 (X := X) hd (d_M_findOwed_12 n) (ih) x1 x2 x3 x4 x6 x8 x10 V _ h)
      · refine rn_brF rfl rfl rfl rfl hc ?_
        refine rn_go 13 (pc' := 46) (l' := [(8, .long (x8 * (x3).toInt64)), (6, .long (x6 * (Int64.ofNat 10))), (4, .long (x4 * (Int64.ofNat 10))), (0, .ref 89), (1, .int x1), (2, .int x2), (3, .int x3), (10, .int x10)]) (st' := []) (S1 := (SH ++ X)) (V1 := V) rfl ?_
        exact rn_sub [3, 4, 5, 6, 2, 1, 0, 7] rfl rfl (t_M_findOwed_46 (X := X) hd (d_M_findOwed_12 n) (ih) x1 x2 x3 (x4 * (Int64.ofNat 10)) (x6 * (Int64.ofNat 10)) (x8 * (x3).toInt64) x10 V _ h)
def d_M_findOwed (x1 : Int32) (x2 : Int32) (x3 : Int32) (V : ai_V) : Option ai_V :=
  d_M_findOwed_12 ai_N x1 x2 x3 (Int64.ofNat 0) (Int64.ofNat 1) (Int64.ofNat 1) (0 : Int32) V
set_option maxRecDepth 20000 in
theorem t_M_findOwed {X : ai_S} {e : Nat} (hd : 81 ≤ e) {x1 : Int32} {x2 : Int32} {x3 : Int32} {V : ai_V} {r : ai_V} (h : d_M_findOwed x1 x2 x3 V = some r) : Rn e 248 0 (lv_args 0 [.ref 89, .int x1, .int x2, .int x3]) [] (SH ++ X) V none (SH ++ X) r := by
  rw [d_M_findOwed] at h
  refine rn_go 8 (pc' := 12) (l' := [(10, .int (0 : Int32)), (8, .long (Int64.ofNat 1)), (6, .long (Int64.ofNat 1)), (4, .long (Int64.ofNat 0)), (0, .ref 89), (1, .int x1), (2, .int x2), (3, .int x3)]) (st' := []) (S1 := (SH ++ X)) (V1 := V) rfl ?_
  exact rn_sub [4, 5, 6, 7, 3, 2, 1, 0] rfl rfl (t_M_findOwed_12 (X := X) hd ai_N x1 x2 x3 (Int64.ofNat 0) (Int64.ofNat 1) (Int64.ofNat 1) (0 : Int32) V _ h)
-- RentByTheWheelModel.owes(III)I (89, None, None, None)
def d_M_owes (x1 : Int32) (x2 : Int32) (x3 : Int32) (V : ai_V) : Option (Int32 × ai_V) :=
  (d_M_canOwe x1 x2 x3 (si V 89 14 (0 : Int32))).bind fun q1 => (if ¬ q1 = 0 then ((d_M_findOwed x1 x2 x3 (si V 89 14 (0 : Int32))).bind fun q2 => ((d_M_tell (gj (si q2 89 13 (0 : Int32)) 89 56) (si q2 89 13 (0 : Int32))).bind fun q3 => ((d_M_tell (gj q3 89 57) q3).bind fun q4 => (some ((0 : Int32), q4))))) else (some ((-1 : Int32), (si V 89 14 (0 : Int32)))))
set_option maxRecDepth 20000 in
theorem t_M_owes {X : ai_S} {e : Nat} (hd : 82 ≤ e) {x1 : Int32} {x2 : Int32} {x3 : Int32} {V : ai_V} {r : (Int32 × ai_V)} (h : d_M_owes x1 x2 x3 V = some r) : Rn e 249 0 (lv_args 0 [.ref 89, .int x1, .int x2, .int x3]) [] (SH ++ X) V (some (.int r.1)) (SH ++ X) r.2 := by
  rw [d_M_owes] at h
  refine rn_go 7 (pc' := 9) (l' := [(0, .ref 89), (1, .int x1), (2, .int x2), (3, .int x3)]) (st' := [.int x3, .int x2, .int x1, .ref 89]) (S1 := (SH ++ X)) (V1 := (si V 89 14 (0 : Int32))) rfl ?_
  obtain ⟨q1, hq1, h⟩ := ai_bd h
  refine rn_call rfl rfl rfl rfl rfl rfl (by omega) (t_M_canOwe (by omega) hq1) ?_
  rcases ai_if h with ⟨hc, h⟩ | ⟨hc, h⟩
  · refine rn_brT rfl rfl rfl rfl hc ?_
    refine rn_go 4 (pc' := 21) (l' := [(0, .ref 89), (1, .int x1), (2, .int x2), (3, .int x3)]) (st' := [.int x3, .int x2, .int x1, .ref 89]) (S1 := (SH ++ X)) (V1 := (si V 89 14 (0 : Int32))) rfl ?_
    obtain ⟨q2, hq2, h⟩ := ai_bd h
    refine rn_call rfl rfl rfl rfl rfl rfl (by omega) (t_M_findOwed (by omega) hq2) ?_
    refine rn_go 6 (pc' := 34) (l' := [(0, .ref 89), (1, .int x1), (2, .int x2), (3, .int x3)]) (st' := [.long (gj (si q2 89 13 (0 : Int32)) 89 56), .ref 89]) (S1 := (SH ++ X)) (V1 := (si q2 89 13 (0 : Int32))) rfl ?_
    obtain ⟨q3, hq3, h⟩ := ai_bd h
    refine rn_call rfl rfl rfl rfl rfl rfl (by omega) (t_M_tell (by omega) hq3) ?_
    refine rn_go 3 (pc' := 42) (l' := [(0, .ref 89), (1, .int x1), (2, .int x2), (3, .int x3)]) (st' := [.long (gj q3 89 57), .ref 89]) (S1 := (SH ++ X)) (V1 := q3) rfl ?_
    obtain ⟨q4, hq4, h⟩ := ai_bd h
    refine rn_call rfl rfl rfl rfl rfl rfl (by omega) (t_M_tell (by omega) hq4) ?_
    refine rn_go 1 (pc' := 46) (l' := [(0, .ref 89), (1, .int x1), (2, .int x2), (3, .int x3)]) (st' := [.int (0 : Int32)]) (S1 := (SH ++ X)) (V1 := q4) rfl ?_
    obtain rfl := Option.some.inj h
    exact rn_ret rfl rfl rfl
  · refine rn_brF rfl rfl rfl rfl hc ?_
    refine rn_go 1 (pc' := 16) (l' := [(0, .ref 89), (1, .int x1), (2, .int x2), (3, .int x3)]) (st' := [.int (-1 : Int32)]) (S1 := (SH ++ X)) (V1 := (si V 89 14 (0 : Int32))) rfl ?_
    obtain rfl := Option.some.inj h
    exact rn_ret rfl rfl rfl
-- RentByTheWheelModel.fund(III)I (89, None, None, None)
def d_M_fund (x1 : Int32) (x2 : Int32) (x3 : Int32) (V : ai_V) : Option (Int32 × ai_V) :=
  (d_M_canOwe x1 x2 x3 (si V 89 14 (0 : Int32))).bind fun q1 => (if ¬ q1 = 0 then ((d_M_findOwed x1 x2 x3 (si V 89 14 (0 : Int32))).bind fun q2 => (if (gj q2 89 57) = 0 then none else (if ai_in x1 14 then (if ai_in x1 6 then (if ai_in x1 6 then (if (ga (si q2 89 13 (0 : Int32)) 92 (x1).toNatClampNeg) = 0 then none else ((d_M_tell (((((((ai_maxL (Int64.ofNat 0) (((((gj q2 89 56) + (gj q2 89 57)) - (Int64.ofNat 1)) / (gj q2 89 57)) + ((ga q2 90 (x1).toNatClampNeg)).toInt64))).toInt32 + (ga (si q2 89 13 (0 : Int32)) 92 (x1).toNatClampNeg)) - (1 : Int32)) / (ga (si q2 89 13 (0 : Int32)) 92 (x1).toNatClampNeg))).toInt64) (si q2 89 13 (0 : Int32))).bind fun q3 => (some (((ai_maxL (Int64.ofNat 0) (((((gj q2 89 56) + (gj q2 89 57)) - (Int64.ofNat 1)) / (gj q2 89 57)) + ((ga q2 90 (x1).toNatClampNeg)).toInt64))).toInt32, q3)))) else none) else none) else none))) else (some ((-1 : Int32), (si V 89 14 (0 : Int32)))))
set_option maxRecDepth 20000 in
theorem t_M_fund {X : ai_S} {e : Nat} (hd : 82 ≤ e) {x1 : Int32} {x2 : Int32} {x3 : Int32} {V : ai_V} {r : (Int32 × ai_V)} (h : d_M_fund x1 x2 x3 V = some r) : Rn e 250 0 (lv_args 0 [.ref 89, .int x1, .int x2, .int x3]) [] (SH ++ X) V (some (.int r.1)) (SH ++ X) r.2 := by
  rw [d_M_fund] at h
  refine rn_go 7 (pc' := 9) (l' := [(0, .ref 89), (1, .int x1), (2, .int x2), (3, .int x3)]) (st' := [.int x3, .int x2, .int x1, .ref 89]) (S1 := (SH ++ X)) (V1 := (si V 89 14 (0 : Int32))) rfl ?_
  obtain ⟨q1, hq1, h⟩ := ai_bd h
  refine rn_call rfl rfl rfl rfl rfl rfl (by omega) (t_M_canOwe (by omega) hq1) ?_
  rcases ai_if h with ⟨hc, h⟩ | ⟨hc, h⟩
  · refine rn_brT rfl rfl rfl rfl hc ?_
    refine rn_go 4 (pc' := 21) (l' := [(0, .ref 89), (1, .int x1), (2, .int x2), (3, .int x3)]) (st' := [.int x3, .int x2, .int x1, .ref 89]) (S1 := (SH ++ X)) (V1 := (si V 89 14 (0 : Int32))) rfl ?_
    obtain ⟨q2, hq2, h⟩ := ai_bd h
    refine rn_call rfl rfl rfl rfl rfl rfl (by omega) (t_M_findOwed (by omega) hq2) ?_
    refine rn_go 10 (pc' := 40) (l' := [(0, .ref 89), (1, .int x1), (2, .int x2), (3, .int x3)]) (st' := [.long (gj q2 89 57), .long (((gj q2 89 56) + (gj q2 89 57)) - (Int64.ofNat 1)), .long (Int64.ofNat 0)]) (S1 := (SH ++ X)) (V1 := q2) rfl ?_
    obtain ⟨hg, h⟩ := ai_gn h
    refine rg_ldiv rfl hg ?_
    refine rn_go 3 (pc' := 46) (l' := [(0, .ref 89), (1, .int x1), (2, .int x2), (3, .int x3)]) (st' := [.int x1, .ref 90, .long ((((gj q2 89 56) + (gj q2 89 57)) - (Int64.ofNat 1)) / (gj q2 89 57)), .long (Int64.ofNat 0)]) (S1 := (SH ++ X)) (V1 := q2) rfl ?_
    obtain ⟨hg, h⟩ := ai_gd h
    refine rg_iald (n := 14) rfl rfl hg ?_
    refine rn_go 13 (pc' := 68) (l' := [(4, .int ((ai_maxL (Int64.ofNat 0) (((((gj q2 89 56) + (gj q2 89 57)) - (Int64.ofNat 1)) / (gj q2 89 57)) + ((ga q2 90 (x1).toNatClampNeg)).toInt64))).toInt32), (0, .ref 89), (1, .int x1), (2, .int x2), (3, .int x3)]) (st' := [.int x1, .ref 92, .int ((ai_maxL (Int64.ofNat 0) (((((gj q2 89 56) + (gj q2 89 57)) - (Int64.ofNat 1)) / (gj q2 89 57)) + ((ga q2 90 (x1).toNatClampNeg)).toInt64))).toInt32, .ref 89]) (S1 := (SH ++ X)) (V1 := (si q2 89 13 (0 : Int32))) rfl ?_
    obtain ⟨hg, h⟩ := ai_gd h
    refine rg_iald (n := 6) rfl rfl hg ?_
    refine rn_go 6 (pc' := 77) (l' := [(4, .int ((ai_maxL (Int64.ofNat 0) (((((gj q2 89 56) + (gj q2 89 57)) - (Int64.ofNat 1)) / (gj q2 89 57)) + ((ga q2 90 (x1).toNatClampNeg)).toInt64))).toInt32), (0, .ref 89), (1, .int x1), (2, .int x2), (3, .int x3)]) (st' := [.int x1, .ref 92, .int ((((ai_maxL (Int64.ofNat 0) (((((gj q2 89 56) + (gj q2 89 57)) - (Int64.ofNat 1)) / (gj q2 89 57)) + ((ga q2 90 (x1).toNatClampNeg)).toInt64))).toInt32 + (ga (si q2 89 13 (0 : Int32)) 92 (x1).toNatClampNeg)) - (1 : Int32)), .ref 89]) (S1 := (SH ++ X)) (V1 := (si q2 89 13 (0 : Int32))) rfl ?_
    obtain ⟨hg, h⟩ := ai_gd h
    refine rg_iald (n := 6) rfl rfl hg ?_
    obtain ⟨hg, h⟩ := ai_gn h
    refine rg_idiv rfl hg ?_
    refine rn_go 1 (pc' := 80) (l' := [(4, .int ((ai_maxL (Int64.ofNat 0) (((((gj q2 89 56) + (gj q2 89 57)) - (Int64.ofNat 1)) / (gj q2 89 57)) + ((ga q2 90 (x1).toNatClampNeg)).toInt64))).toInt32), (0, .ref 89), (1, .int x1), (2, .int x2), (3, .int x3)]) (st' := [.long ((((((ai_maxL (Int64.ofNat 0) (((((gj q2 89 56) + (gj q2 89 57)) - (Int64.ofNat 1)) / (gj q2 89 57)) + ((ga q2 90 (x1).toNatClampNeg)).toInt64))).toInt32 + (ga (si q2 89 13 (0 : Int32)) 92 (x1).toNatClampNeg)) - (1 : Int32)) / (ga (si q2 89 13 (0 : Int32)) 92 (x1).toNatClampNeg))).toInt64, .ref 89]) (S1 := (SH ++ X)) (V1 := (si q2 89 13 (0 : Int32))) rfl ?_
    obtain ⟨q3, hq3, h⟩ := ai_bd h
    refine rn_call rfl rfl rfl rfl rfl rfl (by omega) (t_M_tell (by omega) hq3) ?_
    refine rn_go 1 (pc' := 85) (l' := [(4, .int ((ai_maxL (Int64.ofNat 0) (((((gj q2 89 56) + (gj q2 89 57)) - (Int64.ofNat 1)) / (gj q2 89 57)) + ((ga q2 90 (x1).toNatClampNeg)).toInt64))).toInt32), (0, .ref 89), (1, .int x1), (2, .int x2), (3, .int x3)]) (st' := [.int ((ai_maxL (Int64.ofNat 0) (((((gj q2 89 56) + (gj q2 89 57)) - (Int64.ofNat 1)) / (gj q2 89 57)) + ((ga q2 90 (x1).toNatClampNeg)).toInt64))).toInt32]) (S1 := (SH ++ X)) (V1 := q3) rfl ?_
    obtain rfl := Option.some.inj h
    exact rn_ret rfl rfl rfl
  · refine rn_brF rfl rfl rfl rfl hc ?_
    refine rn_go 1 (pc' := 16) (l' := [(0, .ref 89), (1, .int x1), (2, .int x2), (3, .int x3)]) (st' := [.int (-1 : Int32)]) (S1 := (SH ++ X)) (V1 := (si V 89 14 (0 : Int32))) rfl ?_
    obtain rfl := Option.some.inj h
    exact rn_ret rfl rfl rfl
-- RentByTheWheelModel.years(II)I (89, None, None)
def d_M_years_175 (F125 : Int32 → Int32 → Int32 → Int32 → ai_V → Option (Int32 × ai_V)) (x4 : Int32) (x5 : Int32) (x6 : Int32) (x7 : Int32) (V : ai_V) : Option (Int32 × ai_V) :=
  F125 x4 x5 x6 (x7 + (1 : Int32)) V
set_option maxRecDepth 20000 in
theorem t_M_years_175 {X : ai_S} {e : Nat} (hd : 331 ≤ e) (F125 : Int32 → Int32 → Int32 → Int32 → ai_V → Option (Int32 × ai_V)) (hF125 : ∀ (x4 : Int32) (x5 : Int32) (x6 : Int32) (x7 : Int32) (V : ai_V) (r : (Int32 × ai_V)), F125 x4 x5 x6 x7 V = some r → Rn e 251 125 [(0, .ref 89), (4, .int x4), (5, .int x5), (6, .int x6), (7, .int x7)] [] (SH ++ X) V (some (.int r.1)) (SH ++ X) r.2) (x4 : Int32) (x5 : Int32) (x6 : Int32) (x7 : Int32) (V : ai_V) (r : (Int32 × ai_V)) (h : d_M_years_175 F125 x4 x5 x6 x7 V = some r) : Rn e 251 175 [(0, .ref 89), (4, .int x4), (5, .int x5), (6, .int x6), (7, .int x7)] [] (SH ++ X) V (some (.int r.1)) (SH ++ X) r.2 := by
  rw [d_M_years_175] at h
  refine rn_go 2 (pc' := 125) (l' := [(7, .int (x7 + (1 : Int32))), (0, .ref 89), (4, .int x4), (5, .int x5), (6, .int x6)]) (st' := []) (S1 := (SH ++ X)) (V1 := V) rfl ?_
  exact rn_sub [1, 2, 3, 4, 0] rfl rfl (hF125 x4 x5 x6 (x7 + (1 : Int32)) V _ h)
def d_M_years_125  : Nat → Int32 → Int32 → Int32 → Int32 → ai_V → Option (Int32 × ai_V)
  | 0, _, _, _, _, _ => none
  | n + 1, x4, x5, x6, x7, V => if (gi V 89 1) ≤ x7 then ((d_M_tell (((ga (si V 89 13 (0 : Int32)) 103 ((12 : Int32)).toNatClampNeg)).toInt64) (si V 89 13 (0 : Int32))).bind fun q1 => ((d_M_tell (x5).toInt64 q1).bind fun q2 => ((d_M_tell (x6).toInt64 q2).bind fun q3 => (some (x4, q3))))) else (if ai_in ((6 : Int32) + x7) 14 then (if ai_in ((6 : Int32) + x7) 14 then (if x6 < ((ga V 103 (((6 : Int32) + x7)).toNatClampNeg) - (ga V 90 (((6 : Int32) + x7)).toNatClampNeg)) then (d_M_years_175 (d_M_years_125 n) x4 x7 ((ga V 103 (((6 : Int32) + x7)).toNatClampNeg) - (ga V 90 (((6 : Int32) + x7)).toNatClampNeg)) x7 V) else (d_M_years_175 (d_M_years_125 n) x4 x5 x6 x7 V)) else none) else none)
set_option maxRecDepth 20000 in
theorem t_M_years_125 {X : ai_S} {e : Nat} (hd : 331 ≤ e)  : ∀ (n : Nat) (x4 : Int32) (x5 : Int32) (x6 : Int32) (x7 : Int32) (V : ai_V) (r : (Int32 × ai_V)), d_M_years_125  n x4 x5 x6 x7 V = some r → Rn e 251 125 [(0, .ref 89), (4, .int x4), (5, .int x5), (6, .int x6), (7, .int x7)] [] (SH ++ X) V (some (.int r.1)) (SH ++ X) r.2 := by
  intro n
  induction n with
  | zero =>
    intro x4 x5 x6 x7 V r h
    cases h
  | succ n ih =>
    intro x4 x5 x6 x7 V r h
    rw [d_M_years_125] at h
    refine rn_go 3 (pc' := 131) (l' := [(0, .ref 89), (4, .int x4), (5, .int x5), (6, .int x6), (7, .int x7)]) (st' := [.int (gi V 89 1), .int x7]) (S1 := (SH ++ X)) (V1 := V) rfl ?_
    rcases ai_if h with ⟨hc, h⟩ | ⟨hc, h⟩
    · refine rn_brT rfl rfl rfl rfl hc ?_
      refine rn_go 7 (pc' := 193) (l' := [(0, .ref 89), (4, .int x4), (5, .int x5), (6, .int x6), (7, .int x7)]) (st' := [.int (12 : Int32), .ref 103, .ref 89]) (S1 := (SH ++ X)) (V1 := (si V 89 13 (0 : Int32))) rfl ?_
      refine rg_iald (n := 14) rfl rfl (by decide) ?_
      refine rn_go 1 (pc' := 195) (l' := [(0, .ref 89), (4, .int x4), (5, .int x5), (6, .int x6), (7, .int x7)]) (st' := [.long ((ga (si V 89 13 (0 : Int32)) 103 ((12 : Int32)).toNatClampNeg)).toInt64, .ref 89]) (S1 := (SH ++ X)) (V1 := (si V 89 13 (0 : Int32))) rfl ?_
      obtain ⟨q1, hq1, h⟩ := ai_bd h
      refine rn_call rfl rfl rfl rfl rfl rfl (by omega) (t_M_tell (by omega) hq1) ?_
      refine rn_go 3 (pc' := 202) (l' := [(0, .ref 89), (4, .int x4), (5, .int x5), (6, .int x6), (7, .int x7)]) (st' := [.long (x5).toInt64, .ref 89]) (S1 := (SH ++ X)) (V1 := q1) rfl ?_
      obtain ⟨q2, hq2, h⟩ := ai_bd h
      refine rn_call rfl rfl rfl rfl rfl rfl (by omega) (t_M_tell (by omega) hq2) ?_
      refine rn_go 3 (pc' := 209) (l' := [(0, .ref 89), (4, .int x4), (5, .int x5), (6, .int x6), (7, .int x7)]) (st' := [.long (x6).toInt64, .ref 89]) (S1 := (SH ++ X)) (V1 := q2) rfl ?_
      obtain ⟨q3, hq3, h⟩ := ai_bd h
      refine rn_call rfl rfl rfl rfl rfl rfl (by omega) (t_M_tell (by omega) hq3) ?_
      refine rn_go 1 (pc' := 214) (l' := [(0, .ref 89), (4, .int x4), (5, .int x5), (6, .int x6), (7, .int x7)]) (st' := [.int x4]) (S1 := (SH ++ X)) (V1 := q3) rfl ?_
      obtain rfl := Option.some.inj h
      exact rn_ret rfl rfl rfl
    · refine rn_brF rfl rfl rfl rfl hc ?_
      refine rn_go 5 (pc' := 143) (l' := [(0, .ref 89), (4, .int x4), (5, .int x5), (6, .int x6), (7, .int x7)]) (st' := [.int ((6 : Int32) + x7), .ref 103]) (S1 := (SH ++ X)) (V1 := V) rfl ?_
      obtain ⟨hg, h⟩ := ai_gd h
      refine rg_iald (n := 14) rfl rfl hg ?_
      refine rn_go 5 (pc' := 153) (l' := [(0, .ref 89), (4, .int x4), (5, .int x5), (6, .int x6), (7, .int x7)]) (st' := [.int ((6 : Int32) + x7), .ref 90, .int (ga V 103 (((6 : Int32) + x7)).toNatClampNeg)]) (S1 := (SH ++ X)) (V1 := V) rfl ?_
      obtain ⟨hg, h⟩ := ai_gd h
      refine rg_iald (n := 14) rfl rfl hg ?_
      refine rn_go 4 (pc' := 161) (l' := [(8, .int ((ga V 103 (((6 : Int32) + x7)).toNatClampNeg) - (ga V 90 (((6 : Int32) + x7)).toNatClampNeg))), (0, .ref 89), (4, .int x4), (5, .int x5), (6, .int x6), (7, .int x7)]) (st' := [.int x6, .int ((ga V 103 (((6 : Int32) + x7)).toNatClampNeg) - (ga V 90 (((6 : Int32) + x7)).toNatClampNeg))]) (S1 := (SH ++ X)) (V1 := V) rfl ?_
      rcases ai_if h with ⟨hc, h⟩ | ⟨hc, h⟩
      · refine rn_brT rfl rfl rfl rfl hc ?_
        refine rn_go 4 (pc' := 175) (l' := [(6, .int ((ga V 103 (((6 : Int32) + x7)).toNatClampNeg) - (ga V 90 (((6 : Int32) + x7)).toNatClampNeg))), (5, .int x7), (8, .int ((ga V 103 (((6 : Int32) + x7)).toNatClampNeg) - (ga V 90 (((6 : Int32) + x7)).toNatClampNeg))), (0, .ref 89), (4, .int x4), (7, .int x7)]) (st' := []) (S1 := (SH ++ X)) (V1 := V) rfl ?_
        exact rn_sub [3, 4, 1, 0, 5] rfl rfl (t_M_years_175 (X := X) hd (d_M_years_125 n) (ih) x4 x7 ((ga V 103 (((6 : Int32) + x7)).toNatClampNeg) - (ga V 90 (((6 : Int32) + x7)).toNatClampNeg)) x7 V _ h)
      · refine rn_brF rfl rfl rfl rfl hc ?_
        refine rn_go 1 (pc' := 175) (l' := [(8, .int ((ga V 103 (((6 : Int32) + x7)).toNatClampNeg) - (ga V 90 (((6 : Int32) + x7)).toNatClampNeg))), (0, .ref 89), (4, .int x4), (5, .int x5), (6, .int x6), (7, .int x7)]) (st' := []) (S1 := (SH ++ X)) (V1 := V) rfl ?_
        exact rn_sub [1, 2, 3, 4, 5] rfl rfl (t_M_years_175 (X := X) hd (d_M_years_125 n) (ih) x4 x5 x6 x7 V _ h)
def d_M_years_91 (F37 : Int32 → Int32 → Int32 → Int32 → ai_V → Option (Int32 × ai_V)) (x2 : Int32) (x3 : Int32) (x4 : Int32) (x5 : Int32) (s0 : Int32) (V : ai_V) : Option (Int32 × ai_V) :=
  (d_M_goQuarter_89_103 s0 (gi V 89 8) V).bind fun q4 => ((d_Int_bitCount (gi q4 89 29) q4).bind fun q5 => (F37 x2 x3 (x4 + q5) (x5 + (1 : Int32)) q4))
set_option maxRecDepth 20000 in
theorem t_M_years_91 {X : ai_S} {e : Nat} (hd : 331 ≤ e) (F37 : Int32 → Int32 → Int32 → Int32 → ai_V → Option (Int32 × ai_V)) (hF37 : ∀ (x2 : Int32) (x3 : Int32) (x4 : Int32) (x5 : Int32) (V : ai_V) (r : (Int32 × ai_V)), F37 x2 x3 x4 x5 V = some r → Rn e 251 37 [(0, .ref 89), (2, .int x2), (3, .int x3), (4, .int x4), (5, .int x5)] [] (SH ++ X) V (some (.int r.1)) (SH ++ X) r.2) (x2 : Int32) (x3 : Int32) (x4 : Int32) (x5 : Int32) (s0 : Int32) (V : ai_V) (r : (Int32 × ai_V)) (h : d_M_years_91 F37 x2 x3 x4 x5 s0 V = some r) : Rn e 251 91 [(0, .ref 89), (2, .int x2), (3, .int x3), (4, .int x4), (5, .int x5)] [.int s0, .ref 103, .ref 89] (SH ++ X) V (some (.int r.1)) (SH ++ X) r.2 := by
  rw [d_M_years_91] at h
  refine rn_go 2 (pc' := 95) (l' := [(0, .ref 89), (2, .int x2), (3, .int x3), (4, .int x4), (5, .int x5)]) (st' := [.int (gi V 89 8), .int s0, .ref 103, .ref 89]) (S1 := (SH ++ X)) (V1 := V) rfl ?_
  obtain ⟨q4, hq4, h⟩ := ai_bd h
  refine rn_call rfl rfl rfl rfl rfl rfl (by omega) (t_M_goQuarter_89_103 (by omega) hq4) ?_
  refine rn_go 3 (pc' := 104) (l' := [(0, .ref 89), (2, .int x2), (3, .int x3), (4, .int x4), (5, .int x5)]) (st' := [.int (gi q4 89 29), .int x4]) (S1 := (SH ++ X)) (V1 := q4) rfl ?_
  obtain ⟨q5, hq5, h⟩ := ai_bd h
  refine rn_call rfl rfl rfl rfl rfl rfl (by omega) (t_Int_bitCount (by omega) hq5) ?_
  refine rn_go 4 (pc' := 37) (l' := [(5, .int (x5 + (1 : Int32))), (4, .int (x4 + q5)), (0, .ref 89), (2, .int x2), (3, .int x3)]) (st' := []) (S1 := (SH ++ X)) (V1 := q4) rfl ?_
  exact rn_sub [2, 3, 4, 1, 0] rfl rfl (hF37 x2 x3 (x4 + q5) (x5 + (1 : Int32)) q4 _ h)
def d_M_years_37  : Nat → Int32 → Int32 → Int32 → Int32 → ai_V → Option (Int32 × ai_V)
  | 0, _, _, _, _, _ => none
  | n + 1, x2, x3, x4, x5, V => if ((12 : Int32) * x2) ≤ x5 then (d_M_years_125 ai_N x4 (-1 : Int32) (0 : Int32) (0 : Int32) V) else (if ((gi V 89 1) + (1 : Int32)) = 0 then none else (if ¬ (((((x3 * (1103515245 : Int32)) + (12345 : Int32))).toUInt32 >>> (((16 : Int32)).toUInt32 &&& Int32.toUInt32 31)).toInt32 - ((((x3 * (1103515245 : Int32)) + (12345 : Int32))).toUInt32 >>> (((16 : Int32)).toUInt32 &&& Int32.toUInt32 31)).toInt32 / ((gi V 89 1) + (1 : Int32)) * ((gi V 89 1) + (1 : Int32))) = (gi V 89 1) then (d_M_years_91 (d_M_years_37 n) x2 ((x3 * (1103515245 : Int32)) + (12345 : Int32)) x4 x5 ((1 : Int32) <<< ((((((x3 * (1103515245 : Int32)) + (12345 : Int32))).toUInt32 >>> (((16 : Int32)).toUInt32 &&& Int32.toUInt32 31)).toInt32 - ((((x3 * (1103515245 : Int32)) + (12345 : Int32))).toUInt32 >>> (((16 : Int32)).toUInt32 &&& Int32.toUInt32 31)).toInt32 / ((gi V 89 1) + (1 : Int32)) * ((gi V 89 1) + (1 : Int32))) &&& 31)) V) else (d_M_years_91 (d_M_years_37 n) x2 ((x3 * (1103515245 : Int32)) + (12345 : Int32)) x4 x5 (0 : Int32) V)))
set_option maxRecDepth 20000 in
theorem t_M_years_37 {X : ai_S} {e : Nat} (hd : 331 ≤ e)  : ∀ (n : Nat) (x2 : Int32) (x3 : Int32) (x4 : Int32) (x5 : Int32) (V : ai_V) (r : (Int32 × ai_V)), d_M_years_37  n x2 x3 x4 x5 V = some r → Rn e 251 37 [(0, .ref 89), (2, .int x2), (3, .int x3), (4, .int x4), (5, .int x5)] [] (SH ++ X) V (some (.int r.1)) (SH ++ X) r.2 := by
  intro n
  induction n with
  | zero =>
    intro x2 x3 x4 x5 V r h
    cases h
  | succ n ih =>
    intro x2 x3 x4 x5 V r h
    rw [d_M_years_37] at h
    refine rn_go 4 (pc' := 43) (l' := [(0, .ref 89), (2, .int x2), (3, .int x3), (4, .int x4), (5, .int x5)]) (st' := [.int ((12 : Int32) * x2), .int x5]) (S1 := (SH ++ X)) (V1 := V) rfl ?_
    rcases ai_if h with ⟨hc, h⟩ | ⟨hc, h⟩
    · refine rn_brT rfl rfl rfl rfl hc ?_
      refine rn_go 6 (pc' := 125) (l' := [(7, .int (0 : Int32)), (6, .int (0 : Int32)), (5, .int (-1 : Int32)), (0, .ref 89), (2, .int x2), (3, .int x3), (4, .int x4)]) (st' := []) (S1 := (SH ++ X)) (V1 := V) rfl ?_
      exact rn_sub [3, 6, 2, 1, 0] rfl rfl (t_M_years_125 (X := X) hd ai_N x4 (-1 : Int32) (0 : Int32) (0 : Int32) V _ h)
    · refine rn_brF rfl rfl rfl rfl hc ?_
      refine rn_go 13 (pc' := 66) (l' := [(3, .int ((x3 * (1103515245 : Int32)) + (12345 : Int32))), (0, .ref 89), (2, .int x2), (4, .int x4), (5, .int x5)]) (st' := [.int ((gi V 89 1) + (1 : Int32)), .int ((((x3 * (1103515245 : Int32)) + (12345 : Int32))).toUInt32 >>> (((16 : Int32)).toUInt32 &&& Int32.toUInt32 31)).toInt32]) (S1 := (SH ++ X)) (V1 := V) rfl ?_
      obtain ⟨hg, h⟩ := ai_gn h
      refine rg_irem rfl hg ?_
      refine rn_go 7 (pc' := 80) (l' := [(6, .int (((((x3 * (1103515245 : Int32)) + (12345 : Int32))).toUInt32 >>> (((16 : Int32)).toUInt32 &&& Int32.toUInt32 31)).toInt32 - ((((x3 * (1103515245 : Int32)) + (12345 : Int32))).toUInt32 >>> (((16 : Int32)).toUInt32 &&& Int32.toUInt32 31)).toInt32 / ((gi V 89 1) + (1 : Int32)) * ((gi V 89 1) + (1 : Int32)))), (3, .int ((x3 * (1103515245 : Int32)) + (12345 : Int32))), (0, .ref 89), (2, .int x2), (4, .int x4), (5, .int x5)]) (st' := [.int (gi V 89 1), .int (((((x3 * (1103515245 : Int32)) + (12345 : Int32))).toUInt32 >>> (((16 : Int32)).toUInt32 &&& Int32.toUInt32 31)).toInt32 - ((((x3 * (1103515245 : Int32)) + (12345 : Int32))).toUInt32 >>> (((16 : Int32)).toUInt32 &&& Int32.toUInt32 31)).toInt32 / ((gi V 89 1) + (1 : Int32)) * ((gi V 89 1) + (1 : Int32))), .ref 103, .ref 89]) (S1 := (SH ++ X)) (V1 := V) rfl ?_
      rcases ai_if h with ⟨hc, h⟩ | ⟨hc, h⟩
      · refine rn_brT rfl rfl rfl rfl hc ?_
        refine rn_go 3 (pc' := 91) (l' := [(6, .int (((((x3 * (1103515245 : Int32)) + (12345 : Int32))).toUInt32 >>> (((16 : Int32)).toUInt32 &&& Int32.toUInt32 31)).toInt32 - ((((x3 * (1103515245 : Int32)) + (12345 : Int32))).toUInt32 >>> (((16 : Int32)).toUInt32 &&& Int32.toUInt32 31)).toInt32 / ((gi V 89 1) + (1 : Int32)) * ((gi V 89 1) + (1 : Int32)))), (3, .int ((x3 * (1103515245 : Int32)) + (12345 : Int32))), (0, .ref 89), (2, .int x2), (4, .int x4), (5, .int x5)]) (st' := [.int ((1 : Int32) <<< ((((((x3 * (1103515245 : Int32)) + (12345 : Int32))).toUInt32 >>> (((16 : Int32)).toUInt32 &&& Int32.toUInt32 31)).toInt32 - ((((x3 * (1103515245 : Int32)) + (12345 : Int32))).toUInt32 >>> (((16 : Int32)).toUInt32 &&& Int32.toUInt32 31)).toInt32 / ((gi V 89 1) + (1 : Int32)) * ((gi V 89 1) + (1 : Int32))) &&& 31)), .ref 103, .ref 89]) (S1 := (SH ++ X)) (V1 := V) rfl ?_
        exact rn_sub [2, 3, 1, 4, 5] rfl rfl (t_M_years_91 (X := X) hd (d_M_years_37 n) (ih) x2 ((x3 * (1103515245 : Int32)) + (12345 : Int32)) x4 x5 ((1 : Int32) <<< ((((((x3 * (1103515245 : Int32)) + (12345 : Int32))).toUInt32 >>> (((16 : Int32)).toUInt32 &&& Int32.toUInt32 31)).toInt32 - ((((x3 * (1103515245 : Int32)) + (12345 : Int32))).toUInt32 >>> (((16 : Int32)).toUInt32 &&& Int32.toUInt32 31)).toInt32 / ((gi V 89 1) + (1 : Int32)) * ((gi V 89 1) + (1 : Int32))) &&& 31)) V _ h)
      · refine rn_brF rfl rfl rfl rfl hc ?_
        refine rn_go 2 (pc' := 91) (l' := [(6, .int (((((x3 * (1103515245 : Int32)) + (12345 : Int32))).toUInt32 >>> (((16 : Int32)).toUInt32 &&& Int32.toUInt32 31)).toInt32 - ((((x3 * (1103515245 : Int32)) + (12345 : Int32))).toUInt32 >>> (((16 : Int32)).toUInt32 &&& Int32.toUInt32 31)).toInt32 / ((gi V 89 1) + (1 : Int32)) * ((gi V 89 1) + (1 : Int32)))), (3, .int ((x3 * (1103515245 : Int32)) + (12345 : Int32))), (0, .ref 89), (2, .int x2), (4, .int x4), (5, .int x5)]) (st' := [.int (0 : Int32), .ref 103, .ref 89]) (S1 := (SH ++ X)) (V1 := V) rfl ?_
        exact rn_sub [2, 3, 1, 4, 5] rfl rfl (t_M_years_91 (X := X) hd (d_M_years_37 n) (ih) x2 ((x3 * (1103515245 : Int32)) + (12345 : Int32)) x4 x5 (0 : Int32) V _ h)
def d_M_years (x1 : Int32) (x2 : Int32) (V : ai_V) : Option (Int32 × ai_V) :=
  (d_M_in x2 (1 : Int32) (20 : Int32) (si V 89 14 (0 : Int32))).bind fun q6 => (if ¬ q6 = 0 then ((d_M_lay_90_103 (0 : Int32) (si V 89 14 (0 : Int32))).bind fun q7 => (d_M_years_37 ai_N x2 x1 (0 : Int32) (0 : Int32) q7)) else (some ((-1 : Int32), (si V 89 14 (0 : Int32)))))
set_option maxRecDepth 20000 in
theorem t_M_years {X : ai_S} {e : Nat} (hd : 331 ≤ e) {x1 : Int32} {x2 : Int32} {V : ai_V} {r : (Int32 × ai_V)} (h : d_M_years x1 x2 V = some r) : Rn e 251 0 (lv_args 0 [.ref 89, .int x1, .int x2]) [] (SH ++ X) V (some (.int r.1)) (SH ++ X) r.2 := by
  rw [d_M_years] at h
  refine rn_go 6 (pc' := 9) (l' := [(0, .ref 89), (1, .int x1), (2, .int x2)]) (st' := [.int (20 : Int32), .int (1 : Int32), .int x2]) (S1 := (SH ++ X)) (V1 := (si V 89 14 (0 : Int32))) rfl ?_
  obtain ⟨q6, hq6, h⟩ := ai_bd h
  refine rn_call rfl rfl rfl rfl rfl rfl (by omega) (t_M_in (by omega) hq6) ?_
  rcases ai_if h with ⟨hc, h⟩ | ⟨hc, h⟩
  · refine rn_brT rfl rfl rfl rfl hc ?_
    refine rn_go 9 (pc' := 31) (l' := [(4, .int (0 : Int32)), (3, .int x1), (0, .ref 89), (1, .int x1), (2, .int x2)]) (st' := [.int (0 : Int32), .ref 103, .ref 90]) (S1 := (SH ++ X)) (V1 := (si V 89 14 (0 : Int32))) rfl ?_
    obtain ⟨q7, hq7, h⟩ := ai_bd h
    refine rn_call rfl rfl rfl rfl rfl rfl (by omega) (t_M_lay_90_103 (by omega) hq7) ?_
    refine rn_go 2 (pc' := 37) (l' := [(5, .int (0 : Int32)), (4, .int (0 : Int32)), (3, .int x1), (0, .ref 89), (1, .int x1), (2, .int x2)]) (st' := []) (S1 := (SH ++ X)) (V1 := q7) rfl ?_
    exact rn_sub [3, 5, 2, 1, 0] rfl rfl (t_M_years_37 (X := X) hd ai_N x2 x1 (0 : Int32) (0 : Int32) q7 _ h)
  · refine rn_brF rfl rfl rfl rfl hc ?_
    refine rn_go 1 (pc' := 16) (l' := [(0, .ref 89), (1, .int x1), (2, .int x2)]) (st' := [.int (-1 : Int32)]) (S1 := (SH ++ X)) (V1 := (si V 89 14 (0 : Int32))) rfl ?_
    obtain rfl := Option.some.inj h
    exact rn_ret rfl rfl rfl
-- RentByTheWheelModel.lay([I[II)V (90, 115, None)
def d_M_lay_90_115_2  : Nat → Int32 → Int32 → ai_V → Option ai_V
  | 0, _, _, _ => none
  | n + 1, x2, x3, V => if (14 : Int32) ≤ x3 then (some V) else (if ai_in x3 14 then (if ai_in (x2 + x3) 28 then (d_M_lay_90_115_2 n x2 (x3 + (1 : Int32)) (sa V 115 ((x2 + x3)).toNatClampNeg (ga V 90 (x3).toNatClampNeg))) else none) else none)
set_option maxRecDepth 20000 in
theorem t_M_lay_90_115_2 {X : ai_S} {e : Nat} (hd : 0 ≤ e)  : ∀ (n : Nat) (x2 : Int32) (x3 : Int32) (V : ai_V) (r : ai_V), d_M_lay_90_115_2  n x2 x3 V = some r → Rn e 190 2 [(0, .ref 90), (1, .ref 115), (2, .int x2), (3, .int x3)] [] (SH ++ X) V none (SH ++ X) r := by
  intro n
  induction n with
  | zero =>
    intro x2 x3 V r h
    cases h
  | succ n ih =>
    intro x2 x3 V r h
    rw [d_M_lay_90_115_2] at h
    refine rn_go 2 (pc' := 5) (l' := [(0, .ref 90), (1, .ref 115), (2, .int x2), (3, .int x3)]) (st' := [.int (14 : Int32), .int x3]) (S1 := (SH ++ X)) (V1 := V) rfl ?_
    rcases ai_if h with ⟨hc, h⟩ | ⟨hc, h⟩
    · refine rn_brT rfl rfl rfl rfl hc ?_
      obtain rfl := Option.some.inj h
      exact rn_ret rfl rfl rfl
    · refine rn_brF rfl rfl rfl rfl hc ?_
      refine rn_go 6 (pc' := 14) (l' := [(0, .ref 90), (1, .ref 115), (2, .int x2), (3, .int x3)]) (st' := [.int x3, .ref 90, .int (x2 + x3), .ref 115]) (S1 := (SH ++ X)) (V1 := V) rfl ?_
      obtain ⟨hg, h⟩ := ai_gd h
      refine rg_iald (n := 14) rfl rfl hg ?_
      obtain ⟨hg, h⟩ := ai_gd h
      refine rg_iast (n := 28) rfl rfl hg ?_
      refine rn_go 2 (pc' := 2) (l' := [(3, .int (x3 + (1 : Int32))), (0, .ref 90), (1, .ref 115), (2, .int x2)]) (st' := []) (S1 := (SH ++ X)) (V1 := (sa V 115 ((x2 + x3)).toNatClampNeg (ga V 90 (x3).toNatClampNeg))) rfl ?_
      exact rn_sub [1, 2, 3, 0] rfl rfl (ih x2 (x3 + (1 : Int32)) (sa V 115 ((x2 + x3)).toNatClampNeg (ga V 90 (x3).toNatClampNeg)) _ h)
def d_M_lay_90_115 (x2 : Int32) (V : ai_V) : Option ai_V :=
  d_M_lay_90_115_2 ai_N x2 (0 : Int32) V
set_option maxRecDepth 20000 in
theorem t_M_lay_90_115 {X : ai_S} {e : Nat} (hd : 0 ≤ e) {x2 : Int32} {V : ai_V} {r : ai_V} (h : d_M_lay_90_115 x2 V = some r) : Rn e 190 0 (lv_args 0 [.ref 90, .ref 115, .int x2]) [] (SH ++ X) V none (SH ++ X) r := by
  rw [d_M_lay_90_115] at h
  refine rn_go 2 (pc' := 2) (l' := [(3, .int (0 : Int32)), (0, .ref 90), (1, .ref 115), (2, .int x2)]) (st' := []) (S1 := (SH ++ X)) (V1 := V) rfl ?_
  exact rn_sub [1, 2, 3, 0] rfl rfl (t_M_lay_90_115_2 (X := X) hd ai_N x2 (0 : Int32) V _ h)
-- RentByTheWheelModel.keep(I)Z (89, None)
def d_M_keep (x1 : Int32) (V : ai_V) : Option (Int32 × ai_V) :=
  (d_M_in x1 (0 : Int32) (1 : Int32) (si V 89 14 (0 : Int32))).bind fun q1 => (if ¬ q1 = 0 then (if ai_in x1 2 then (if ai_in x1 2 then ((d_M_lay_90_115 ((14 : Int32) * x1) (sa (sa (si V 89 14 (0 : Int32)) 116 (x1).toNatClampNeg (vp_nar .boolean (1 : Int32))) 117 (x1).toNatClampNeg (gi (sa (si V 89 14 (0 : Int32)) 116 (x1).toNatClampNeg (vp_nar .boolean (1 : Int32))) 89 58))).bind fun q2 => (some ((1 : Int32), q2))) else none) else none) else (some ((0 : Int32), (si V 89 14 (0 : Int32)))))
set_option maxRecDepth 20000 in
theorem t_M_keep {X : ai_S} {e : Nat} (hd : 1 ≤ e) {x1 : Int32} {V : ai_V} {r : (Int32 × ai_V)} (h : d_M_keep x1 V = some r) : Rn e 252 0 (lv_args 0 [.ref 89, .int x1]) [] (SH ++ X) V (some (.int r.1)) (SH ++ X) r.2 := by
  rw [d_M_keep] at h
  refine rn_go 6 (pc' := 8) (l' := [(0, .ref 89), (1, .int x1)]) (st' := [.int (1 : Int32), .int (0 : Int32), .int x1]) (S1 := (SH ++ X)) (V1 := (si V 89 14 (0 : Int32))) rfl ?_
  obtain ⟨q1, hq1, h⟩ := ai_bd h
  refine rn_call rfl rfl rfl rfl rfl rfl (by omega) (t_M_in (by omega) hq1) ?_
  rcases ai_if h with ⟨hc, h⟩ | ⟨hc, h⟩
  · refine rn_brT rfl rfl rfl rfl hc ?_
    refine rn_go 4 (pc' := 22) (l' := [(0, .ref 89), (1, .int x1)]) (st' := [.int (1 : Int32), .int x1, .ref 116]) (S1 := (SH ++ X)) (V1 := (si V 89 14 (0 : Int32))) rfl ?_
    obtain ⟨hg, h⟩ := ai_gd h
    refine rg_zast (n := 2) rfl rfl hg ?_
    refine rn_go 5 (pc' := 32) (l' := [(0, .ref 89), (1, .int x1)]) (st' := [.int (gi (sa (si V 89 14 (0 : Int32)) 116 (x1).toNatClampNeg (vp_nar .boolean (1 : Int32))) 89 58), .int x1, .ref 117]) (S1 := (SH ++ X)) (V1 := (sa (si V 89 14 (0 : Int32)) 116 (x1).toNatClampNeg (vp_nar .boolean (1 : Int32)))) rfl ?_
    obtain ⟨hg, h⟩ := ai_gd h
    refine rg_iast (n := 2) rfl rfl hg ?_
    refine rn_go 7 (pc' := 45) (l' := [(0, .ref 89), (1, .int x1)]) (st' := [.int ((14 : Int32) * x1), .ref 115, .ref 90]) (S1 := (SH ++ X)) (V1 := (sa (sa (si V 89 14 (0 : Int32)) 116 (x1).toNatClampNeg (vp_nar .boolean (1 : Int32))) 117 (x1).toNatClampNeg (gi (sa (si V 89 14 (0 : Int32)) 116 (x1).toNatClampNeg (vp_nar .boolean (1 : Int32))) 89 58))) rfl ?_
    obtain ⟨q2, hq2, h⟩ := ai_bd h
    refine rn_call rfl rfl rfl rfl rfl rfl (by omega) (t_M_lay_90_115 (by omega) hq2) ?_
    refine rn_go 1 (pc' := 49) (l' := [(0, .ref 89), (1, .int x1)]) (st' := [.int (1 : Int32)]) (S1 := (SH ++ X)) (V1 := q2) rfl ?_
    obtain rfl := Option.some.inj h
    exact rg_zret rfl (by decide)
  · refine rn_brF rfl rfl rfl rfl hc ?_
    refine rn_go 1 (pc' := 15) (l' := [(0, .ref 89), (1, .int x1)]) (st' := [.int (0 : Int32)]) (S1 := (SH ++ X)) (V1 := (si V 89 14 (0 : Int32))) rfl ?_
    obtain rfl := Option.some.inj h
    exact rg_zret rfl (by decide)
-- RentByTheWheelModel.again(I)Z (89, None)
def d_M_again_40  : Nat → Int32 → Int32 → ai_V → Option (Int32 × ai_V)
  | 0, _, _, _ => none
  | n + 1, x1, x2, V => if (14 : Int32) ≤ x2 then (some ((1 : Int32), (si (sa V 90 ((12 : Int32)).toNatClampNeg (ai_min (ga V 90 ((12 : Int32)).toNatClampNeg) (gi V 89 8))) 89 35 (0 : Int32)))) else (if ai_in (((14 : Int32) * x1) + x2) 28 then (if ai_in x2 14 then (d_M_again_40 n x1 (x2 + (1 : Int32)) (sa V 90 (x2).toNatClampNeg (ga V 115 ((((14 : Int32) * x1) + x2)).toNatClampNeg))) else none) else none)
set_option maxRecDepth 20000 in
theorem t_M_again_40 {X : ai_S} {e : Nat} (hd : 1 ≤ e)  : ∀ (n : Nat) (x1 : Int32) (x2 : Int32) (V : ai_V) (r : (Int32 × ai_V)), d_M_again_40  n x1 x2 V = some r → Rn e 253 40 [(0, .ref 89), (1, .int x1), (2, .int x2)] [] (SH ++ X) V (some (.int r.1)) (SH ++ X) r.2 := by
  intro n
  induction n with
  | zero =>
    intro x1 x2 V r h
    cases h
  | succ n ih =>
    intro x1 x2 V r h
    rw [d_M_again_40] at h
    refine rn_go 2 (pc' := 43) (l' := [(0, .ref 89), (1, .int x1), (2, .int x2)]) (st' := [.int (14 : Int32), .int x2]) (S1 := (SH ++ X)) (V1 := V) rfl ?_
    rcases ai_if h with ⟨hc, h⟩ | ⟨hc, h⟩
    · refine rn_brT rfl rfl rfl rfl hc ?_
      refine rn_go 6 (pc' := 81) (l' := [(0, .ref 89), (1, .int x1), (2, .int x2)]) (st' := [.int (12 : Int32), .ref 90, .int (12 : Int32), .ref 90]) (S1 := (SH ++ X)) (V1 := V) rfl ?_
      refine rg_iald (n := 14) rfl rfl (by decide) ?_
      refine rn_go 3 (pc' := 89) (l' := [(0, .ref 89), (1, .int x1), (2, .int x2)]) (st' := [.int (ai_min (ga V 90 ((12 : Int32)).toNatClampNeg) (gi V 89 8)), .int (12 : Int32), .ref 90]) (S1 := (SH ++ X)) (V1 := V) rfl ?_
      refine rg_iast (n := 14) rfl rfl (by decide) ?_
      refine rn_go 4 (pc' := 96) (l' := [(0, .ref 89), (1, .int x1), (2, .int x2)]) (st' := [.int (1 : Int32)]) (S1 := (SH ++ X)) (V1 := (si (sa V 90 ((12 : Int32)).toNatClampNeg (ai_min (ga V 90 ((12 : Int32)).toNatClampNeg) (gi V 89 8))) 89 35 (0 : Int32))) rfl ?_
      obtain rfl := Option.some.inj h
      exact rg_zret rfl (by decide)
    · refine rn_brF rfl rfl rfl rfl hc ?_
      refine rn_go 10 (pc' := 61) (l' := [(0, .ref 89), (1, .int x1), (2, .int x2)]) (st' := [.int (((14 : Int32) * x1) + x2), .ref 115, .int x2, .ref 90]) (S1 := (SH ++ X)) (V1 := V) rfl ?_
      obtain ⟨hg, h⟩ := ai_gd h
      refine rg_iald (n := 28) rfl rfl hg ?_
      obtain ⟨hg, h⟩ := ai_gd h
      refine rg_iast (n := 14) rfl rfl hg ?_
      refine rn_go 2 (pc' := 40) (l' := [(2, .int (x2 + (1 : Int32))), (0, .ref 89), (1, .int x1)]) (st' := []) (S1 := (SH ++ X)) (V1 := (sa V 90 (x2).toNatClampNeg (ga V 115 ((((14 : Int32) * x1) + x2)).toNatClampNeg))) rfl ?_
      exact rn_sub [1, 2, 0] rfl rfl (ih x1 (x2 + (1 : Int32)) (sa V 90 (x2).toNatClampNeg (ga V 115 ((((14 : Int32) * x1) + x2)).toNatClampNeg)) _ h)
def d_M_again (x1 : Int32) (V : ai_V) : Option (Int32 × ai_V) :=
  (d_M_in x1 (0 : Int32) (1 : Int32) (si V 89 14 (0 : Int32))).bind fun q1 => (if q1 = 0 then (some ((0 : Int32), (si V 89 14 (0 : Int32)))) else (if ai_in x1 2 then (if (ga (si V 89 14 (0 : Int32)) 116 (x1).toNatClampNeg) = 0 then (some ((0 : Int32), (si V 89 14 (0 : Int32)))) else (if ai_in x1 2 then (if (ga (si V 89 14 (0 : Int32)) 117 (x1).toNatClampNeg) = (gi (si V 89 14 (0 : Int32)) 89 58) then (d_M_again_40 ai_N x1 (0 : Int32) (si V 89 14 (0 : Int32))) else (some ((0 : Int32), (si V 89 14 (0 : Int32))))) else none)) else none))
set_option maxRecDepth 20000 in
theorem t_M_again {X : ai_S} {e : Nat} (hd : 1 ≤ e) {x1 : Int32} {V : ai_V} {r : (Int32 × ai_V)} (h : d_M_again x1 V = some r) : Rn e 253 0 (lv_args 0 [.ref 89, .int x1]) [] (SH ++ X) V (some (.int r.1)) (SH ++ X) r.2 := by
  rw [d_M_again] at h
  refine rn_go 6 (pc' := 8) (l' := [(0, .ref 89), (1, .int x1)]) (st' := [.int (1 : Int32), .int (0 : Int32), .int x1]) (S1 := (SH ++ X)) (V1 := (si V 89 14 (0 : Int32))) rfl ?_
  obtain ⟨q1, hq1, h⟩ := ai_bd h
  refine rn_call rfl rfl rfl rfl rfl rfl (by omega) (t_M_in (by omega) hq1) ?_
  rcases ai_if h with ⟨hc, h⟩ | ⟨hc, h⟩
  · refine rn_brT rfl rfl rfl rfl hc ?_
    refine rn_go 1 (pc' := 37) (l' := [(0, .ref 89), (1, .int x1)]) (st' := [.int (0 : Int32)]) (S1 := (SH ++ X)) (V1 := (si V 89 14 (0 : Int32))) rfl ?_
    obtain rfl := Option.some.inj h
    exact rg_zret rfl (by decide)
  · refine rn_brF rfl rfl rfl rfl hc ?_
    refine rn_go 3 (pc' := 19) (l' := [(0, .ref 89), (1, .int x1)]) (st' := [.int x1, .ref 116]) (S1 := (SH ++ X)) (V1 := (si V 89 14 (0 : Int32))) rfl ?_
    obtain ⟨hg, h⟩ := ai_gd h
    refine rg_zald (n := 2) rfl rfl hg ?_
    rcases ai_if h with ⟨hc, h⟩ | ⟨hc, h⟩
    · refine rn_brT rfl rfl rfl rfl hc ?_
      refine rn_go 1 (pc' := 37) (l' := [(0, .ref 89), (1, .int x1)]) (st' := [.int (0 : Int32)]) (S1 := (SH ++ X)) (V1 := (si V 89 14 (0 : Int32))) rfl ?_
      obtain rfl := Option.some.inj h
      exact rg_zret rfl (by decide)
    · refine rn_brF rfl rfl rfl rfl hc ?_
      refine rn_go 3 (pc' := 28) (l' := [(0, .ref 89), (1, .int x1)]) (st' := [.int x1, .ref 117]) (S1 := (SH ++ X)) (V1 := (si V 89 14 (0 : Int32))) rfl ?_
      obtain ⟨hg, h⟩ := ai_gd h
      refine rg_iald (n := 2) rfl rfl hg ?_
      refine rn_go 2 (pc' := 33) (l' := [(0, .ref 89), (1, .int x1)]) (st' := [.int (gi (si V 89 14 (0 : Int32)) 89 58), .int (ga (si V 89 14 (0 : Int32)) 117 (x1).toNatClampNeg)]) (S1 := (SH ++ X)) (V1 := (si V 89 14 (0 : Int32))) rfl ?_
      rcases ai_if h with ⟨hc, h⟩ | ⟨hc, h⟩
      · refine rn_brT rfl rfl rfl rfl hc ?_
        refine rn_go 2 (pc' := 40) (l' := [(2, .int (0 : Int32)), (0, .ref 89), (1, .int x1)]) (st' := []) (S1 := (SH ++ X)) (V1 := (si V 89 14 (0 : Int32))) rfl ?_
        exact rn_sub [1, 2, 0] rfl rfl (t_M_again_40 (X := X) hd ai_N x1 (0 : Int32) (si V 89 14 (0 : Int32)) _ h)
      · refine rn_brF rfl rfl rfl rfl hc ?_
        refine rn_go 1 (pc' := 37) (l' := [(0, .ref 89), (1, .int x1)]) (st' := [.int (0 : Int32)]) (S1 := (SH ++ X)) (V1 := (si V 89 14 (0 : Int32))) rfl ?_
        obtain rfl := Option.some.inj h
        exact rg_zret rfl (by decide)
-- RentByTheWheelModel.count(I)I (89, None)
def d_M_count_143  : Nat → Int32 → Int32 → ai_V → Option (Int32 × ai_V)
  | 0, _, _, _ => none
  | n + 1, x2, x3, V => if (gi V 89 1) ≤ x3 then (some (x2, V)) else (if ai_in ((6 : Int32) + x3) 14 then (d_M_count_143 n (x2 + (ga V 90 (((6 : Int32) + x3)).toNatClampNeg)) (x3 + (1 : Int32)) V) else none)
set_option maxRecDepth 20000 in
theorem t_M_count_143 {X : ai_S} {e : Nat} (hd : 2 ≤ e)  : ∀ (n : Nat) (x2 : Int32) (x3 : Int32) (V : ai_V) (r : (Int32 × ai_V)), d_M_count_143  n x2 x3 V = some r → Rn e 254 143 [(0, .ref 89), (2, .int x2), (3, .int x3)] [] (SH ++ X) V (some (.int r.1)) (SH ++ X) r.2 := by
  intro n
  induction n with
  | zero =>
    intro x2 x3 V r h
    cases h
  | succ n ih =>
    intro x2 x3 V r h
    rw [d_M_count_143] at h
    refine rn_go 3 (pc' := 148) (l' := [(0, .ref 89), (2, .int x2), (3, .int x3)]) (st' := [.int (gi V 89 1), .int x3]) (S1 := (SH ++ X)) (V1 := V) rfl ?_
    rcases ai_if h with ⟨hc, h⟩ | ⟨hc, h⟩
    · refine rn_brT rfl rfl rfl rfl hc ?_
      refine rn_go 1 (pc' := 170) (l' := [(0, .ref 89), (2, .int x2), (3, .int x3)]) (st' := [.int x2]) (S1 := (SH ++ X)) (V1 := V) rfl ?_
      obtain rfl := Option.some.inj h
      exact rn_ret rfl rfl rfl
    · refine rn_brF rfl rfl rfl rfl hc ?_
      refine rn_go 6 (pc' := 160) (l' := [(0, .ref 89), (2, .int x2), (3, .int x3)]) (st' := [.int ((6 : Int32) + x3), .ref 90, .int x2]) (S1 := (SH ++ X)) (V1 := V) rfl ?_
      obtain ⟨hg, h⟩ := ai_gd h
      refine rg_iald (n := 14) rfl rfl hg ?_
      refine rn_go 4 (pc' := 143) (l' := [(3, .int (x3 + (1 : Int32))), (2, .int (x2 + (ga V 90 (((6 : Int32) + x3)).toNatClampNeg))), (0, .ref 89)]) (st' := []) (S1 := (SH ++ X)) (V1 := V) rfl ?_
      exact rn_sub [2, 1, 0] rfl rfl (ih (x2 + (ga V 90 (((6 : Int32) + x3)).toNatClampNeg)) (x3 + (1 : Int32)) V _ h)
def d_M_count (x1 : Int32) (V : ai_V) : Option (Int32 × ai_V) :=
  if x1 = (0 : Int32) then (some ((gi (si V 89 14 (0 : Int32)) 89 1), (si V 89 14 (0 : Int32)))) else (if x1 = (1 : Int32) then (some ((ga (si V 89 14 (0 : Int32)) 90 ((13 : Int32)).toNatClampNeg), (si V 89 14 (0 : Int32)))) else (if x1 = (2 : Int32) then (some (((ga (si V 89 14 (0 : Int32)) 90 ((13 : Int32)).toNatClampNeg) - (ga (si V 89 14 (0 : Int32)) 90 ((13 : Int32)).toNatClampNeg) / (12 : Int32) * (12 : Int32)), (si V 89 14 (0 : Int32)))) else (if x1 = (3 : Int32) then (some (((ga (si V 89 14 (0 : Int32)) 90 ((13 : Int32)).toNatClampNeg) / (12 : Int32)), (si V 89 14 (0 : Int32)))) else (if x1 = (4 : Int32) then (some ((ga (si V 89 14 (0 : Int32)) 90 ((12 : Int32)).toNatClampNeg), (si V 89 14 (0 : Int32)))) else (if x1 = (5 : Int32) then (some ((gi (si V 89 14 (0 : Int32)) 89 8), (si V 89 14 (0 : Int32)))) else (if x1 = (6 : Int32) then (some ((gi (si V 89 14 (0 : Int32)) 89 9), (si V 89 14 (0 : Int32)))) else (if x1 = (7 : Int32) then ((d_M_wantsOfAll (ga (si V 89 14 (0 : Int32)) 90 ((13 : Int32)).toNatClampNeg) (si V 89 14 (0 : Int32))).bind fun q1 => (some (q1, (si V 89 14 (0 : Int32))))) else (if x1 = (8 : Int32) then (d_M_count_143 ai_N (0 : Int32) (0 : Int32) (si V 89 14 (0 : Int32))) else (if x1 = (9 : Int32) then (some ((gi (si V 89 14 (0 : Int32)) 89 55), (si V 89 14 (0 : Int32)))) else (if x1 = (10 : Int32) then (some ((gi (si V 89 14 (0 : Int32)) 89 35), (si V 89 14 (0 : Int32)))) else (if x1 = (11 : Int32) then (some ((gi (si V 89 14 (0 : Int32)) 89 13), (si V 89 14 (0 : Int32)))) else (if x1 = (12 : Int32) then (some ((gi (si V 89 14 (0 : Int32)) 89 11), (si V 89 14 (0 : Int32)))) else (some ((-1 : Int32), (si V 89 14 (0 : Int32))))))))))))))))
set_option maxRecDepth 20000 in
theorem t_M_count {X : ai_S} {e : Nat} (hd : 2 ≤ e) {x1 : Int32} {V : ai_V} {r : (Int32 × ai_V)} (h : d_M_count x1 V = some r) : Rn e 254 0 (lv_args 0 [.ref 89, .int x1]) [] (SH ++ X) V (some (.int r.1)) (SH ++ X) r.2 := by
  rw [d_M_count] at h
  refine rn_go 6 (pc' := 8) (l' := [(2, .int (0 : Int32)), (0, .ref 89), (1, .int x1)]) (st' := [.int x1]) (S1 := (SH ++ X)) (V1 := (si V 89 14 (0 : Int32))) rfl ?_
  rcases ai_if h with ⟨hs0, h⟩ | ⟨hs0, h⟩
  · refine rn_sw rfl rfl rfl rfl (ai_sel_t hs0) ?_
    refine rn_go 2 (pc' := 80) (l' := [(2, .int (0 : Int32)), (0, .ref 89), (1, .int x1)]) (st' := [.int (gi (si V 89 14 (0 : Int32)) 89 1)]) (S1 := (SH ++ X)) (V1 := (si V 89 14 (0 : Int32))) rfl ?_
    obtain rfl := Option.some.inj h
    exact rn_ret rfl rfl rfl
  · rcases ai_if h with ⟨hs1, h⟩ | ⟨hs1, h⟩
    · refine rn_sw rfl rfl rfl rfl (ai_sel_f hs0 (ai_sel_t hs1)) ?_
      refine rn_go 3 (pc' := 87) (l' := [(2, .int (0 : Int32)), (0, .ref 89), (1, .int x1)]) (st' := [.int (13 : Int32), .ref 90]) (S1 := (SH ++ X)) (V1 := (si V 89 14 (0 : Int32))) rfl ?_
      refine rg_iald (n := 14) rfl rfl (by decide) ?_
      obtain rfl := Option.some.inj h
      exact rn_ret rfl rfl rfl
    · rcases ai_if h with ⟨hs2, h⟩ | ⟨hs2, h⟩
      · refine rn_sw rfl rfl rfl rfl (ai_sel_f hs0 (ai_sel_f hs1 (ai_sel_t hs2))) ?_
        refine rn_go 3 (pc' := 95) (l' := [(2, .int (0 : Int32)), (0, .ref 89), (1, .int x1)]) (st' := [.int (13 : Int32), .ref 90]) (S1 := (SH ++ X)) (V1 := (si V 89 14 (0 : Int32))) rfl ?_
        refine rg_iald (n := 14) rfl rfl (by decide) ?_
        refine rn_go 1 (pc' := 98) (l' := [(2, .int (0 : Int32)), (0, .ref 89), (1, .int x1)]) (st' := [.int (12 : Int32), .int (ga (si V 89 14 (0 : Int32)) 90 ((13 : Int32)).toNatClampNeg)]) (S1 := (SH ++ X)) (V1 := (si V 89 14 (0 : Int32))) rfl ?_
        refine rg_irem rfl (by decide) ?_
        obtain rfl := Option.some.inj h
        exact rn_ret rfl rfl rfl
      · rcases ai_if h with ⟨hs3, h⟩ | ⟨hs3, h⟩
        · refine rn_sw rfl rfl rfl rfl (ai_sel_f hs0 (ai_sel_f hs1 (ai_sel_f hs2 (ai_sel_t hs3)))) ?_
          refine rn_go 3 (pc' := 106) (l' := [(2, .int (0 : Int32)), (0, .ref 89), (1, .int x1)]) (st' := [.int (13 : Int32), .ref 90]) (S1 := (SH ++ X)) (V1 := (si V 89 14 (0 : Int32))) rfl ?_
          refine rg_iald (n := 14) rfl rfl (by decide) ?_
          refine rn_go 1 (pc' := 109) (l' := [(2, .int (0 : Int32)), (0, .ref 89), (1, .int x1)]) (st' := [.int (12 : Int32), .int (ga (si V 89 14 (0 : Int32)) 90 ((13 : Int32)).toNatClampNeg)]) (S1 := (SH ++ X)) (V1 := (si V 89 14 (0 : Int32))) rfl ?_
          refine rg_idiv rfl (by decide) ?_
          obtain rfl := Option.some.inj h
          exact rn_ret rfl rfl rfl
        · rcases ai_if h with ⟨hs4, h⟩ | ⟨hs4, h⟩
          · refine rn_sw rfl rfl rfl rfl (ai_sel_f hs0 (ai_sel_f hs1 (ai_sel_f hs2 (ai_sel_f hs3 (ai_sel_t hs4))))) ?_
            refine rn_go 3 (pc' := 117) (l' := [(2, .int (0 : Int32)), (0, .ref 89), (1, .int x1)]) (st' := [.int (12 : Int32), .ref 90]) (S1 := (SH ++ X)) (V1 := (si V 89 14 (0 : Int32))) rfl ?_
            refine rg_iald (n := 14) rfl rfl (by decide) ?_
            obtain rfl := Option.some.inj h
            exact rn_ret rfl rfl rfl
          · rcases ai_if h with ⟨hs5, h⟩ | ⟨hs5, h⟩
            · refine rn_sw rfl rfl rfl rfl (ai_sel_f hs0 (ai_sel_f hs1 (ai_sel_f hs2 (ai_sel_f hs3 (ai_sel_f hs4 (ai_sel_t hs5)))))) ?_
              refine rn_go 2 (pc' := 123) (l' := [(2, .int (0 : Int32)), (0, .ref 89), (1, .int x1)]) (st' := [.int (gi (si V 89 14 (0 : Int32)) 89 8)]) (S1 := (SH ++ X)) (V1 := (si V 89 14 (0 : Int32))) rfl ?_
              obtain rfl := Option.some.inj h
              exact rn_ret rfl rfl rfl
            · rcases ai_if h with ⟨hs6, h⟩ | ⟨hs6, h⟩
              · refine rn_sw rfl rfl rfl rfl (ai_sel_f hs0 (ai_sel_f hs1 (ai_sel_f hs2 (ai_sel_f hs3 (ai_sel_f hs4 (ai_sel_f hs5 (ai_sel_t hs6))))))) ?_
                refine rn_go 2 (pc' := 128) (l' := [(2, .int (0 : Int32)), (0, .ref 89), (1, .int x1)]) (st' := [.int (gi (si V 89 14 (0 : Int32)) 89 9)]) (S1 := (SH ++ X)) (V1 := (si V 89 14 (0 : Int32))) rfl ?_
                obtain rfl := Option.some.inj h
                exact rn_ret rfl rfl rfl
              · rcases ai_if h with ⟨hs7, h⟩ | ⟨hs7, h⟩
                · refine rn_sw rfl rfl rfl rfl (ai_sel_f hs0 (ai_sel_f hs1 (ai_sel_f hs2 (ai_sel_f hs3 (ai_sel_f hs4 (ai_sel_f hs5 (ai_sel_f hs6 (ai_sel_t hs7)))))))) ?_
                  refine rn_go 4 (pc' := 136) (l' := [(2, .int (0 : Int32)), (0, .ref 89), (1, .int x1)]) (st' := [.int (13 : Int32), .ref 90, .ref 89]) (S1 := (SH ++ X)) (V1 := (si V 89 14 (0 : Int32))) rfl ?_
                  refine rg_iald (n := 14) rfl rfl (by decide) ?_
                  obtain ⟨q1, hq1, h⟩ := ai_bd h
                  refine rn_call rfl rfl rfl rfl rfl rfl (by omega) (t_M_wantsOfAll (by omega) hq1) ?_
                  obtain rfl := Option.some.inj h
                  exact rn_ret rfl rfl rfl
                · rcases ai_if h with ⟨hs8, h⟩ | ⟨hs8, h⟩
                  · refine rn_sw rfl rfl rfl rfl (ai_sel_f hs0 (ai_sel_f hs1 (ai_sel_f hs2 (ai_sel_f hs3 (ai_sel_f hs4 (ai_sel_f hs5 (ai_sel_f hs6 (ai_sel_f hs7 (ai_sel_t hs8))))))))) ?_
                    refine rn_go 2 (pc' := 143) (l' := [(3, .int (0 : Int32)), (2, .int (0 : Int32)), (0, .ref 89), (1, .int x1)]) (st' := []) (S1 := (SH ++ X)) (V1 := (si V 89 14 (0 : Int32))) rfl ?_
                    exact rn_sub [2, 1, 0] rfl rfl (t_M_count_143 (X := X) hd ai_N (0 : Int32) (0 : Int32) (si V 89 14 (0 : Int32)) _ h)
                  · rcases ai_if h with ⟨hs9, h⟩ | ⟨hs9, h⟩
                    · refine rn_sw rfl rfl rfl rfl (ai_sel_f hs0 (ai_sel_f hs1 (ai_sel_f hs2 (ai_sel_f hs3 (ai_sel_f hs4 (ai_sel_f hs5 (ai_sel_f hs6 (ai_sel_f hs7 (ai_sel_f hs8 (ai_sel_t hs9)))))))))) ?_
                      refine rn_go 2 (pc' := 175) (l' := [(2, .int (0 : Int32)), (0, .ref 89), (1, .int x1)]) (st' := [.int (gi (si V 89 14 (0 : Int32)) 89 55)]) (S1 := (SH ++ X)) (V1 := (si V 89 14 (0 : Int32))) rfl ?_
                      obtain rfl := Option.some.inj h
                      exact rn_ret rfl rfl rfl
                    · rcases ai_if h with ⟨hs10, h⟩ | ⟨hs10, h⟩
                      · refine rn_sw rfl rfl rfl rfl (ai_sel_f hs0 (ai_sel_f hs1 (ai_sel_f hs2 (ai_sel_f hs3 (ai_sel_f hs4 (ai_sel_f hs5 (ai_sel_f hs6 (ai_sel_f hs7 (ai_sel_f hs8 (ai_sel_f hs9 (ai_sel_t hs10))))))))))) ?_
                        refine rn_go 2 (pc' := 180) (l' := [(2, .int (0 : Int32)), (0, .ref 89), (1, .int x1)]) (st' := [.int (gi (si V 89 14 (0 : Int32)) 89 35)]) (S1 := (SH ++ X)) (V1 := (si V 89 14 (0 : Int32))) rfl ?_
                        obtain rfl := Option.some.inj h
                        exact rn_ret rfl rfl rfl
                      · rcases ai_if h with ⟨hs11, h⟩ | ⟨hs11, h⟩
                        · refine rn_sw rfl rfl rfl rfl (ai_sel_f hs0 (ai_sel_f hs1 (ai_sel_f hs2 (ai_sel_f hs3 (ai_sel_f hs4 (ai_sel_f hs5 (ai_sel_f hs6 (ai_sel_f hs7 (ai_sel_f hs8 (ai_sel_f hs9 (ai_sel_f hs10 (ai_sel_t hs11)))))))))))) ?_
                          refine rn_go 2 (pc' := 185) (l' := [(2, .int (0 : Int32)), (0, .ref 89), (1, .int x1)]) (st' := [.int (gi (si V 89 14 (0 : Int32)) 89 13)]) (S1 := (SH ++ X)) (V1 := (si V 89 14 (0 : Int32))) rfl ?_
                          obtain rfl := Option.some.inj h
                          exact rn_ret rfl rfl rfl
                        · rcases ai_if h with ⟨hs12, h⟩ | ⟨hs12, h⟩
                          · refine rn_sw rfl rfl rfl rfl (ai_sel_f hs0 (ai_sel_f hs1 (ai_sel_f hs2 (ai_sel_f hs3 (ai_sel_f hs4 (ai_sel_f hs5 (ai_sel_f hs6 (ai_sel_f hs7 (ai_sel_f hs8 (ai_sel_f hs9 (ai_sel_f hs10 (ai_sel_f hs11 (ai_sel_t hs12))))))))))))) ?_
                            refine rn_go 2 (pc' := 190) (l' := [(2, .int (0 : Int32)), (0, .ref 89), (1, .int x1)]) (st' := [.int (gi (si V 89 14 (0 : Int32)) 89 11)]) (S1 := (SH ++ X)) (V1 := (si V 89 14 (0 : Int32))) rfl ?_
                            obtain rfl := Option.some.inj h
                            exact rn_ret rfl rfl rfl
                          · refine rn_sw rfl rfl rfl rfl (ai_sel_f hs0 (ai_sel_f hs1 (ai_sel_f hs2 (ai_sel_f hs3 (ai_sel_f hs4 (ai_sel_f hs5 (ai_sel_f hs6 (ai_sel_f hs7 (ai_sel_f hs8 (ai_sel_f hs9 (ai_sel_f hs10 (ai_sel_f hs11 (ai_sel_f hs12 rfl))))))))))))) ?_
                            refine rn_go 1 (pc' := 192) (l' := [(2, .int (0 : Int32)), (0, .ref 89), (1, .int x1)]) (st' := [.int (-1 : Int32)]) (S1 := (SH ++ X)) (V1 := (si V 89 14 (0 : Int32))) rfl ?_
                            obtain rfl := Option.some.inj h
                            exact rn_ret rfl rfl rfl
-- RentByTheWheelModel.row(I)J (89, None)
def d_M_row (x1 : Int32) (V : ai_V) : Option (Int64 × ai_V) :=
  (d_M_in x1 (0 : Int32) ((gi (si V 89 14 (0 : Int32)) 89 13) - (1 : Int32)) (si V 89 14 (0 : Int32))).bind fun q1 => (if q1 = 0 then ((d_M_lost  (si V 89 14 (0 : Int32))).bind fun q2 => (some ((q2.1).toInt64, q2.2))) else (if ai_in x1 16 then (some ((gl (si V 89 14 (0 : Int32)) 97 (x1).toNatClampNeg), (si V 89 14 (0 : Int32)))) else none))
set_option maxRecDepth 20000 in
theorem t_M_row {X : ai_S} {e : Nat} (hd : 1 ≤ e) {x1 : Int32} {V : ai_V} {r : (Int64 × ai_V)} (h : d_M_row x1 V = some r) : Rn e 255 0 (lv_args 0 [.ref 89, .int x1]) [] (SH ++ X) V (some (.long r.1)) (SH ++ X) r.2 := by
  rw [d_M_row] at h
  refine rn_go 9 (pc' := 13) (l' := [(0, .ref 89), (1, .int x1)]) (st' := [.int ((gi (si V 89 14 (0 : Int32)) 89 13) - (1 : Int32)), .int (0 : Int32), .int x1]) (S1 := (SH ++ X)) (V1 := (si V 89 14 (0 : Int32))) rfl ?_
  obtain ⟨q1, hq1, h⟩ := ai_bd h
  refine rn_call rfl rfl rfl rfl rfl rfl (by omega) (t_M_in (by omega) hq1) ?_
  rcases ai_if h with ⟨hc, h⟩ | ⟨hc, h⟩
  · refine rn_brT rfl rfl rfl rfl hc ?_
    refine rn_go 1 (pc' := 29) (l' := [(0, .ref 89), (1, .int x1)]) (st' := [.ref 89]) (S1 := (SH ++ X)) (V1 := (si V 89 14 (0 : Int32))) rfl ?_
    obtain ⟨q2, hq2, h⟩ := ai_bd h
    refine rn_call rfl rfl rfl rfl rfl rfl (by omega) (t_M_lost (by omega) hq2) ?_
    refine rn_go 1 (pc' := 33) (l' := [(0, .ref 89), (1, .int x1)]) (st' := [.long (q2.1).toInt64]) (S1 := (SH ++ X)) (V1 := q2.2) rfl ?_
    obtain rfl := Option.some.inj h
    exact rn_ret rfl rfl rfl
  · refine rn_brF rfl rfl rfl rfl hc ?_
    refine rn_go 3 (pc' := 24) (l' := [(0, .ref 89), (1, .int x1)]) (st' := [.int x1, .ref 97]) (S1 := (SH ++ X)) (V1 := (si V 89 14 (0 : Int32))) rfl ?_
    obtain ⟨hg, h⟩ := ai_gd h
    refine rg_lald (n := 16) rfl rfl hg ?_
    refine rn_go 1 (pc' := 33) (l' := [(0, .ref 89), (1, .int x1)]) (st' := [.long (gl (si V 89 14 (0 : Int32)) 97 (x1).toNatClampNeg)]) (S1 := (SH ++ X)) (V1 := (si V 89 14 (0 : Int32))) rfl ?_
    obtain rfl := Option.some.inj h
    exact rn_ret rfl rfl rfl
-- RentByTheWheel$Text.add(I)I (1, None)
def d_Text_add_16  : Nat → Int32 → Int32 → ai_V → Option (Int32 × ai_V)
  | 0, _, _, _ => none
  | n + 1, x1, x2, V => if x2 < 0 then (some ((gi V 1 1), V)) else (if ai_in (gi V 1 1) 80 then (d_Text_add_16 n x1 (x2 + (-8 : Int32)) (si (sa V 2 ((gi V 1 1)).toNatClampNeg (((x1).toUInt32 >>> ((x2).toUInt32 &&& Int32.toUInt32 31)).toInt32 &&& (255 : Int32))) 1 1 ((gi (sa V 2 ((gi V 1 1)).toNatClampNeg (((x1).toUInt32 >>> ((x2).toUInt32 &&& Int32.toUInt32 31)).toInt32 &&& (255 : Int32))) 1 1) + (1 : Int32)))) else none)
set_option maxRecDepth 20000 in
theorem t_Text_add_16 {X : ai_S} {e : Nat} (hd : 0 ≤ e)  : ∀ (n : Nat) (x1 : Int32) (x2 : Int32) (V : ai_V) (r : (Int32 × ai_V)), d_Text_add_16  n x1 x2 V = some r → Rn e 79 16 [(0, .ref 1), (1, .int x1), (2, .int x2)] [] (SH ++ X) V (some (.int r.1)) (SH ++ X) r.2 := by
  intro n
  induction n with
  | zero =>
    intro x1 x2 V r h
    cases h
  | succ n ih =>
    intro x1 x2 V r h
    rw [d_Text_add_16] at h
    refine rn_go 1 (pc' := 17) (l' := [(0, .ref 1), (1, .int x1), (2, .int x2)]) (st' := [.int x2]) (S1 := (SH ++ X)) (V1 := V) rfl ?_
    rcases ai_if h with ⟨hc, h⟩ | ⟨hc, h⟩
    · refine rn_brT rfl rfl rfl rfl hc ?_
      refine rn_go 2 (pc' := 56) (l' := [(0, .ref 1), (1, .int x1), (2, .int x2)]) (st' := [.int (gi V 1 1)]) (S1 := (SH ++ X)) (V1 := V) rfl ?_
      obtain rfl := Option.some.inj h
      exact rn_ret rfl rfl rfl
    · refine rn_brF rfl rfl rfl rfl hc ?_
      refine rn_go 9 (pc' := 35) (l' := [(0, .ref 1), (1, .int x1), (2, .int x2)]) (st' := [.int (((x1).toUInt32 >>> ((x2).toUInt32 &&& Int32.toUInt32 31)).toInt32 &&& (255 : Int32)), .int (gi V 1 1), .ref 2]) (S1 := (SH ++ X)) (V1 := V) rfl ?_
      obtain ⟨hg, h⟩ := ai_gd h
      refine rg_iast (n := 80) rfl rfl hg ?_
      refine rn_go 8 (pc' := 16) (l' := [(2, .int (x2 + (-8 : Int32))), (0, .ref 1), (1, .int x1)]) (st' := []) (S1 := (SH ++ X)) (V1 := (si (sa V 2 ((gi V 1 1)).toNatClampNeg (((x1).toUInt32 >>> ((x2).toUInt32 &&& Int32.toUInt32 31)).toInt32 &&& (255 : Int32))) 1 1 ((gi (sa V 2 ((gi V 1 1)).toNatClampNeg (((x1).toUInt32 >>> ((x2).toUInt32 &&& Int32.toUInt32 31)).toInt32 &&& (255 : Int32))) 1 1) + (1 : Int32)))) rfl ?_
      exact rn_sub [1, 2, 0] rfl rfl (ih x1 (x2 + (-8 : Int32)) (si (sa V 2 ((gi V 1 1)).toNatClampNeg (((x1).toUInt32 >>> ((x2).toUInt32 &&& Int32.toUInt32 31)).toInt32 &&& (255 : Int32))) 1 1 ((gi (sa V 2 ((gi V 1 1)).toNatClampNeg (((x1).toUInt32 >>> ((x2).toUInt32 &&& Int32.toUInt32 31)).toInt32 &&& (255 : Int32))) 1 1) + (1 : Int32))) _ h)
def d_Text_add (x1 : Int32) (V : ai_V) : Option (Int32 × ai_V) :=
  if ((gi V 1 1) + (4 : Int32)) ≤ (80 : Int32) then (d_Text_add_16 ai_N x1 (24 : Int32) V) else (some ((-1 : Int32), V))
set_option maxRecDepth 20000 in
theorem t_Text_add {X : ai_S} {e : Nat} (hd : 0 ≤ e) {x1 : Int32} {V : ai_V} {r : (Int32 × ai_V)} (h : d_Text_add x1 V = some r) : Rn e 79 0 (lv_args 0 [.ref 1, .int x1]) [] (SH ++ X) V (some (.int r.1)) (SH ++ X) r.2 := by
  rw [d_Text_add] at h
  refine rn_go 5 (pc' := 8) (l' := [(0, .ref 1), (1, .int x1)]) (st' := [.int (80 : Int32), .int ((gi V 1 1) + (4 : Int32))]) (S1 := (SH ++ X)) (V1 := V) rfl ?_
  rcases ai_if h with ⟨hc, h⟩ | ⟨hc, h⟩
  · refine rn_brT rfl rfl rfl rfl hc ?_
    refine rn_go 2 (pc' := 16) (l' := [(2, .int (24 : Int32)), (0, .ref 1), (1, .int x1)]) (st' := []) (S1 := (SH ++ X)) (V1 := V) rfl ?_
    exact rn_sub [1, 2, 0] rfl rfl (t_Text_add_16 (X := X) hd ai_N x1 (24 : Int32) V _ h)
  · refine rn_brF rfl rfl rfl rfl hc ?_
    refine rn_go 1 (pc' := 12) (l' := [(0, .ref 1), (1, .int x1)]) (st' := [.int (-1 : Int32)]) (S1 := (SH ++ X)) (V1 := V) rfl ?_
    obtain rfl := Option.some.inj h
    exact rn_ret rfl rfl rfl
-- RentByTheWheel.sign(I)I (0, None)
def d_X_sign (x1 : Int32) (V : ai_V) : Option (Int32 × ai_V) :=
  (d_Text_add x1 V).bind fun q1 => (some (q1.1, q1.2))
set_option maxRecDepth 20000 in
theorem t_X_sign {X : ai_S} {e : Nat} (hd : 1 ≤ e) {x1 : Int32} {V : ai_V} {r : (Int32 × ai_V)} (h : d_X_sign x1 V = some r) : Rn e 94 0 (lv_args 0 [.ref 0, .int x1]) [] (SH ++ X) V (some (.int r.1)) (SH ++ X) r.2 := by
  rw [d_X_sign] at h
  refine rn_go 3 (pc' := 5) (l' := [(0, .ref 0), (1, .int x1)]) (st' := [.int x1, .ref 1]) (S1 := (SH ++ X)) (V1 := V) rfl ?_
  obtain ⟨q1, hq1, h⟩ := ai_bd h
  refine rn_call rfl rfl rfl rfl rfl rfl (by omega) (t_Text_add (by omega) hq1) ?_
  obtain rfl := Option.some.inj h
  exact rn_ret rfl rfl rfl
-- RentByTheWheel$Text.cut(I)Z (1, None)
def d_Text_cut (x1 : Int32) (V : ai_V) : Option (Int32 × ai_V) :=
  if x1 < 0 then (some ((0 : Int32), V)) else (if x1 ≤ (gi V 1 1) then (some ((1 : Int32), (si V 1 1 x1))) else (some ((0 : Int32), V)))
set_option maxRecDepth 20000 in
theorem t_Text_cut {X : ai_S} {e : Nat} (hd : 0 ≤ e) {x1 : Int32} {V : ai_V} {r : (Int32 × ai_V)} (h : d_Text_cut x1 V = some r) : Rn e 80 0 (lv_args 0 [.ref 1, .int x1]) [] (SH ++ X) V (some (.int r.1)) (SH ++ X) r.2 := by
  rw [d_Text_cut] at h
  refine rn_go 1 (pc' := 1) (l' := [(0, .ref 1), (1, .int x1)]) (st' := [.int x1]) (S1 := (SH ++ X)) (V1 := V) rfl ?_
  rcases ai_if h with ⟨hc, h⟩ | ⟨hc, h⟩
  · refine rn_brT rfl rfl rfl rfl hc ?_
    refine rn_go 1 (pc' := 13) (l' := [(0, .ref 1), (1, .int x1)]) (st' := [.int (0 : Int32)]) (S1 := (SH ++ X)) (V1 := V) rfl ?_
    obtain rfl := Option.some.inj h
    exact rg_zret rfl (by decide)
  · refine rn_brF rfl rfl rfl rfl hc ?_
    refine rn_go 3 (pc' := 9) (l' := [(0, .ref 1), (1, .int x1)]) (st' := [.int (gi V 1 1), .int x1]) (S1 := (SH ++ X)) (V1 := V) rfl ?_
    rcases ai_if h with ⟨hc, h⟩ | ⟨hc, h⟩
    · refine rn_brT rfl rfl rfl rfl hc ?_
      refine rn_go 4 (pc' := 20) (l' := [(0, .ref 1), (1, .int x1)]) (st' := [.int (1 : Int32)]) (S1 := (SH ++ X)) (V1 := (si V 1 1 x1)) rfl ?_
      obtain rfl := Option.some.inj h
      exact rg_zret rfl (by decide)
    · refine rn_brF rfl rfl rfl rfl hc ?_
      refine rn_go 1 (pc' := 13) (l' := [(0, .ref 1), (1, .int x1)]) (st' := [.int (0 : Int32)]) (S1 := (SH ++ X)) (V1 := V) rfl ?_
      obtain rfl := Option.some.inj h
      exact rg_zret rfl (by decide)
-- RentByTheWheel.end(I)Z (0, None)
def d_X_end (x1 : Int32) (V : ai_V) : Option (Int32 × ai_V) :=
  (d_Text_cut x1 V).bind fun q1 => (if q1.1 = 0 ∨ q1.1 = 1 then some (q1.1, q1.2) else none)
set_option maxRecDepth 20000 in
theorem t_X_end {X : ai_S} {e : Nat} (hd : 1 ≤ e) {x1 : Int32} {V : ai_V} {r : (Int32 × ai_V)} (h : d_X_end x1 V = some r) : Rn e 95 0 (lv_args 0 [.ref 0, .int x1]) [] (SH ++ X) V (some (.int r.1)) (SH ++ X) r.2 := by
  rw [d_X_end] at h
  refine rn_go 3 (pc' := 5) (l' := [(0, .ref 0), (1, .int x1)]) (st' := [.int x1, .ref 1]) (S1 := (SH ++ X)) (V1 := V) rfl ?_
  obtain ⟨q1, hq1, h⟩ := ai_bd h
  refine rn_call rfl rfl rfl rfl rfl rfl (by omega) (t_Text_cut (by omega) hq1) ?_
  obtain ⟨hg, h⟩ := ai_gd h
  obtain rfl := Option.some.inj h
  exact rg_zret rfl hg
-- RentByTheWheel$Text.clear()V (1,)
def d_Text_clear  (V : ai_V) : Option ai_V :=
  some (si V 1 1 (0 : Int32))
set_option maxRecDepth 20000 in
theorem t_Text_clear {X : ai_S} {e : Nat} (hd : 0 ≤ e)  {V : ai_V} {r : ai_V} (h : d_Text_clear  V = some r) : Rn e 81 0 (lv_args 0 [.ref 1]) [] (SH ++ X) V none (SH ++ X) r := by
  rw [d_Text_clear] at h
  refine rn_go 3 (pc' := 5) (l' := [(0, .ref 1)]) (st' := []) (S1 := (SH ++ X)) (V1 := (si V 1 1 (0 : Int32))) rfl ?_
  obtain rfl := Option.some.inj h
  exact rn_ret rfl rfl rfl
-- RentByTheWheel$Text.at(I)I (1, None)
def d_Text_at (x1 : Int32) (V : ai_V) : Option Int32 :=
  if x1 < 0 then (some (-1 : Int32)) else (if (gi V 1 1) ≤ x1 then (some (-1 : Int32)) else (if ai_in x1 80 then (some (ga V 2 (x1).toNatClampNeg)) else none))
set_option maxRecDepth 20000 in
theorem t_Text_at {X : ai_S} {e : Nat} (hd : 0 ≤ e) {x1 : Int32} {V : ai_V} {r : Int32} (h : d_Text_at x1 V = some r) : Rn e 12 0 (lv_args 0 [.ref 1, .int x1]) [] (SH ++ X) V (some (.int r)) (SH ++ X) V := by
  rw [d_Text_at] at h
  refine rn_go 1 (pc' := 1) (l' := [(0, .ref 1), (1, .int x1)]) (st' := [.int x1]) (S1 := (SH ++ X)) (V1 := V) rfl ?_
  rcases ai_if h with ⟨hc, h⟩ | ⟨hc, h⟩
  · refine rn_brT rfl rfl rfl rfl hc ?_
    refine rn_go 1 (pc' := 22) (l' := [(0, .ref 1), (1, .int x1)]) (st' := [.int (-1 : Int32)]) (S1 := (SH ++ X)) (V1 := V) rfl ?_
    obtain rfl := Option.some.inj h
    exact rn_ret rfl rfl rfl
  · refine rn_brF rfl rfl rfl rfl hc ?_
    refine rn_go 3 (pc' := 9) (l' := [(0, .ref 1), (1, .int x1)]) (st' := [.int (gi V 1 1), .int x1]) (S1 := (SH ++ X)) (V1 := V) rfl ?_
    rcases ai_if h with ⟨hc, h⟩ | ⟨hc, h⟩
    · refine rn_brT rfl rfl rfl rfl hc ?_
      refine rn_go 1 (pc' := 22) (l' := [(0, .ref 1), (1, .int x1)]) (st' := [.int (-1 : Int32)]) (S1 := (SH ++ X)) (V1 := V) rfl ?_
      obtain rfl := Option.some.inj h
      exact rn_ret rfl rfl rfl
    · refine rn_brF rfl rfl rfl rfl hc ?_
      refine rn_go 3 (pc' := 17) (l' := [(0, .ref 1), (1, .int x1)]) (st' := [.int x1, .ref 2]) (S1 := (SH ++ X)) (V1 := V) rfl ?_
      obtain ⟨hg, h⟩ := ai_gd h
      refine rg_iald (n := 80) rfl rfl hg ?_
      refine rn_go 1 (pc' := 22) (l' := [(0, .ref 1), (1, .int x1)]) (st' := [.int (ga V 2 (x1).toNatClampNeg)]) (S1 := (SH ++ X)) (V1 := V) rfl ?_
      obtain rfl := Option.some.inj h
      exact rn_ret rfl rfl rfl
-- RentByTheWheel$Text.isDigit(I)Z (None,)
def d_Text_isDigit (x0 : Int32) (V : ai_V) : Option Int32 :=
  if x0 < (48 : Int32) then (some (0 : Int32)) else (if (57 : Int32) < x0 then (some (0 : Int32)) else (some (1 : Int32)))
set_option maxRecDepth 20000 in
theorem t_Text_isDigit {X : ai_S} {e : Nat} (hd : 0 ≤ e) {x0 : Int32} {V : ai_V} {r : Int32} (h : d_Text_isDigit x0 V = some r) : Rn e 13 0 (lv_args 0 [.int x0]) [] (SH ++ X) V (some (.int r)) (SH ++ X) V := by
  rw [d_Text_isDigit] at h
  refine rn_go 2 (pc' := 3) (l' := [(0, .int x0)]) (st' := [.int (48 : Int32), .int x0]) (S1 := (SH ++ X)) (V1 := V) rfl ?_
  rcases ai_if h with ⟨hc, h⟩ | ⟨hc, h⟩
  · refine rn_brT rfl rfl rfl rfl hc ?_
    refine rn_go 1 (pc' := 17) (l' := [(0, .int x0)]) (st' := [.int (0 : Int32)]) (S1 := (SH ++ X)) (V1 := V) rfl ?_
    obtain rfl := Option.some.inj h
    exact rg_zret rfl (by decide)
  · refine rn_brF rfl rfl rfl rfl hc ?_
    refine rn_go 2 (pc' := 9) (l' := [(0, .int x0)]) (st' := [.int (57 : Int32), .int x0]) (S1 := (SH ++ X)) (V1 := V) rfl ?_
    rcases ai_if h with ⟨hc, h⟩ | ⟨hc, h⟩
    · refine rn_brT rfl rfl rfl rfl hc ?_
      refine rn_go 1 (pc' := 17) (l' := [(0, .int x0)]) (st' := [.int (0 : Int32)]) (S1 := (SH ++ X)) (V1 := V) rfl ?_
      obtain rfl := Option.some.inj h
      exact rg_zret rfl (by decide)
    · refine rn_brF rfl rfl rfl rfl hc ?_
      refine rn_go 2 (pc' := 17) (l' := [(0, .int x0)]) (st' := [.int (1 : Int32)]) (S1 := (SH ++ X)) (V1 := V) rfl ?_
      obtain rfl := Option.some.inj h
      exact rg_zret rfl (by decide)
-- RentByTheWheel$House.fits(II)Z (None, None)
def d_House_fits_126   (V : ai_V) : Option Int32 :=
  some (1 : Int32)
set_option maxRecDepth 20000 in
theorem t_House_fits_126 {X : ai_S} {e : Nat} (hd : 1 ≤ e)   (V : ai_V) (r : Int32) (h : d_House_fits_126   V = some r) : Rn e 14 126 [] [] (SH ++ X) V (some (.int r)) (SH ++ X) V := by
  rw [d_House_fits_126] at h
  refine rn_go 2 (pc' := 131) (l' := []) (st' := [.int (1 : Int32)]) (S1 := (SH ++ X)) (V1 := V) rfl ?_
  obtain rfl := Option.some.inj h
  exact rg_zret rfl (by decide)
def d_House_fits (x0 : Int32) (x1 : Int32) (V : ai_V) : Option Int32 :=
  if x0 = (0 : Int32) then (if x1 < (48 : Int32) then (some (0 : Int32)) else (if (54 : Int32) ≤ x1 then (some (0 : Int32)) else (some (1 : Int32)))) else (if x0 = (1 : Int32) then (if x1 < (49 : Int32) then (some (0 : Int32)) else (if (57 : Int32) < x1 then (some (0 : Int32)) else (some (1 : Int32)))) else (if x0 = (2 : Int32) then (if x1 < (49 : Int32) then (some (0 : Int32)) else (if (57 : Int32) < x1 then (some (0 : Int32)) else (some (1 : Int32)))) else (if x0 = (3 : Int32) then (if ¬ x1 = (58 : Int32) then (some (0 : Int32)) else (some (1 : Int32))) else (if x0 = (4 : Int32) then ((d_Text_isDigit x1 V).bind fun q2 => (if q2 = 0 ∨ q2 = 1 then some q2 else none)) else (if x1 = (59 : Int32) then (d_House_fits_126 V) else (if (16 : Int32) ≤ x0 then (some (0 : Int32)) else ((d_Text_isDigit x1 V).bind fun q1 => (if q1 = 0 then (some (0 : Int32)) else (d_House_fits_126 V)))))))))
set_option maxRecDepth 20000 in
theorem t_House_fits {X : ai_S} {e : Nat} (hd : 1 ≤ e) {x0 : Int32} {x1 : Int32} {V : ai_V} {r : Int32} (h : d_House_fits x0 x1 V = some r) : Rn e 14 0 (lv_args 0 [.int x0, .int x1]) [] (SH ++ X) V (some (.int r)) (SH ++ X) V := by
  rw [d_House_fits] at h
  refine rn_go 1 (pc' := 1) (l' := [(0, .int x0), (1, .int x1)]) (st' := [.int x0]) (S1 := (SH ++ X)) (V1 := V) rfl ?_
  rcases ai_if h with ⟨hs0, h⟩ | ⟨hs0, h⟩
  · refine rn_sw rfl rfl rfl rfl (ai_sel_t hs0) ?_
    refine rn_go 2 (pc' := 39) (l' := [(0, .int x0), (1, .int x1)]) (st' := [.int (48 : Int32), .int x1]) (S1 := (SH ++ X)) (V1 := V) rfl ?_
    rcases ai_if h with ⟨hc, h⟩ | ⟨hc, h⟩
    · refine rn_brT rfl rfl rfl rfl hc ?_
      refine rn_go 1 (pc' := 53) (l' := [(0, .int x0), (1, .int x1)]) (st' := [.int (0 : Int32)]) (S1 := (SH ++ X)) (V1 := V) rfl ?_
      obtain rfl := Option.some.inj h
      exact rg_zret rfl (by decide)
    · refine rn_brF rfl rfl rfl rfl hc ?_
      refine rn_go 2 (pc' := 45) (l' := [(0, .int x0), (1, .int x1)]) (st' := [.int (54 : Int32), .int x1]) (S1 := (SH ++ X)) (V1 := V) rfl ?_
      rcases ai_if h with ⟨hc, h⟩ | ⟨hc, h⟩
      · refine rn_brT rfl rfl rfl rfl hc ?_
        refine rn_go 1 (pc' := 53) (l' := [(0, .int x0), (1, .int x1)]) (st' := [.int (0 : Int32)]) (S1 := (SH ++ X)) (V1 := V) rfl ?_
        obtain rfl := Option.some.inj h
        exact rg_zret rfl (by decide)
      · refine rn_brF rfl rfl rfl rfl hc ?_
        refine rn_go 2 (pc' := 53) (l' := [(0, .int x0), (1, .int x1)]) (st' := [.int (1 : Int32)]) (S1 := (SH ++ X)) (V1 := V) rfl ?_
        obtain rfl := Option.some.inj h
        exact rg_zret rfl (by decide)
  · rcases ai_if h with ⟨hs1, h⟩ | ⟨hs1, h⟩
    · refine rn_sw rfl rfl rfl rfl (ai_sel_f hs0 (ai_sel_t hs1)) ?_
      refine rn_go 2 (pc' := 57) (l' := [(0, .int x0), (1, .int x1)]) (st' := [.int (49 : Int32), .int x1]) (S1 := (SH ++ X)) (V1 := V) rfl ?_
      rcases ai_if h with ⟨hc, h⟩ | ⟨hc, h⟩
      · refine rn_brT rfl rfl rfl rfl hc ?_
        refine rn_go 1 (pc' := 71) (l' := [(0, .int x0), (1, .int x1)]) (st' := [.int (0 : Int32)]) (S1 := (SH ++ X)) (V1 := V) rfl ?_
        obtain rfl := Option.some.inj h
        exact rg_zret rfl (by decide)
      · refine rn_brF rfl rfl rfl rfl hc ?_
        refine rn_go 2 (pc' := 63) (l' := [(0, .int x0), (1, .int x1)]) (st' := [.int (57 : Int32), .int x1]) (S1 := (SH ++ X)) (V1 := V) rfl ?_
        rcases ai_if h with ⟨hc, h⟩ | ⟨hc, h⟩
        · refine rn_brT rfl rfl rfl rfl hc ?_
          refine rn_go 1 (pc' := 71) (l' := [(0, .int x0), (1, .int x1)]) (st' := [.int (0 : Int32)]) (S1 := (SH ++ X)) (V1 := V) rfl ?_
          obtain rfl := Option.some.inj h
          exact rg_zret rfl (by decide)
        · refine rn_brF rfl rfl rfl rfl hc ?_
          refine rn_go 2 (pc' := 71) (l' := [(0, .int x0), (1, .int x1)]) (st' := [.int (1 : Int32)]) (S1 := (SH ++ X)) (V1 := V) rfl ?_
          obtain rfl := Option.some.inj h
          exact rg_zret rfl (by decide)
    · rcases ai_if h with ⟨hs2, h⟩ | ⟨hs2, h⟩
      · refine rn_sw rfl rfl rfl rfl (ai_sel_f hs0 (ai_sel_f hs1 (ai_sel_t hs2))) ?_
        refine rn_go 2 (pc' := 75) (l' := [(0, .int x0), (1, .int x1)]) (st' := [.int (49 : Int32), .int x1]) (S1 := (SH ++ X)) (V1 := V) rfl ?_
        rcases ai_if h with ⟨hc, h⟩ | ⟨hc, h⟩
        · refine rn_brT rfl rfl rfl rfl hc ?_
          refine rn_go 1 (pc' := 89) (l' := [(0, .int x0), (1, .int x1)]) (st' := [.int (0 : Int32)]) (S1 := (SH ++ X)) (V1 := V) rfl ?_
          obtain rfl := Option.some.inj h
          exact rg_zret rfl (by decide)
        · refine rn_brF rfl rfl rfl rfl hc ?_
          refine rn_go 2 (pc' := 81) (l' := [(0, .int x0), (1, .int x1)]) (st' := [.int (57 : Int32), .int x1]) (S1 := (SH ++ X)) (V1 := V) rfl ?_
          rcases ai_if h with ⟨hc, h⟩ | ⟨hc, h⟩
          · refine rn_brT rfl rfl rfl rfl hc ?_
            refine rn_go 1 (pc' := 89) (l' := [(0, .int x0), (1, .int x1)]) (st' := [.int (0 : Int32)]) (S1 := (SH ++ X)) (V1 := V) rfl ?_
            obtain rfl := Option.some.inj h
            exact rg_zret rfl (by decide)
          · refine rn_brF rfl rfl rfl rfl hc ?_
            refine rn_go 2 (pc' := 89) (l' := [(0, .int x0), (1, .int x1)]) (st' := [.int (1 : Int32)]) (S1 := (SH ++ X)) (V1 := V) rfl ?_
            obtain rfl := Option.some.inj h
            exact rg_zret rfl (by decide)
      · rcases ai_if h with ⟨hs3, h⟩ | ⟨hs3, h⟩
        · refine rn_sw rfl rfl rfl rfl (ai_sel_f hs0 (ai_sel_f hs1 (ai_sel_f hs2 (ai_sel_t hs3)))) ?_
          refine rn_go 2 (pc' := 93) (l' := [(0, .int x0), (1, .int x1)]) (st' := [.int (58 : Int32), .int x1]) (S1 := (SH ++ X)) (V1 := V) rfl ?_
          rcases ai_if h with ⟨hc, h⟩ | ⟨hc, h⟩
          · refine rn_brT rfl rfl rfl rfl hc ?_
            refine rn_go 1 (pc' := 101) (l' := [(0, .int x0), (1, .int x1)]) (st' := [.int (0 : Int32)]) (S1 := (SH ++ X)) (V1 := V) rfl ?_
            obtain rfl := Option.some.inj h
            exact rg_zret rfl (by decide)
          · refine rn_brF rfl rfl rfl rfl hc ?_
            refine rn_go 2 (pc' := 101) (l' := [(0, .int x0), (1, .int x1)]) (st' := [.int (1 : Int32)]) (S1 := (SH ++ X)) (V1 := V) rfl ?_
            obtain rfl := Option.some.inj h
            exact rg_zret rfl (by decide)
        · rcases ai_if h with ⟨hs4, h⟩ | ⟨hs4, h⟩
          · refine rn_sw rfl rfl rfl rfl (ai_sel_f hs0 (ai_sel_f hs1 (ai_sel_f hs2 (ai_sel_f hs3 (ai_sel_t hs4))))) ?_
            refine rn_go 1 (pc' := 103) (l' := [(0, .int x0), (1, .int x1)]) (st' := [.int x1]) (S1 := (SH ++ X)) (V1 := V) rfl ?_
            obtain ⟨q2, hq2, h⟩ := ai_bd h
            refine rn_call rfl rfl rfl rfl rfl rfl (by omega) (t_Text_isDigit (by omega) hq2) ?_
            obtain ⟨hg, h⟩ := ai_gd h
            obtain rfl := Option.some.inj h
            exact rg_zret rfl hg
          · refine rn_sw rfl rfl rfl rfl (ai_sel_f hs0 (ai_sel_f hs1 (ai_sel_f hs2 (ai_sel_f hs3 (ai_sel_f hs4 rfl))))) ?_
            refine rn_go 2 (pc' := 110) (l' := [(0, .int x0), (1, .int x1)]) (st' := [.int (59 : Int32), .int x1]) (S1 := (SH ++ X)) (V1 := V) rfl ?_
            rcases ai_if h with ⟨hc, h⟩ | ⟨hc, h⟩
            · refine rn_brT rfl rfl rfl rfl hc ?_
              exact rn_sub [] rfl rfl (t_House_fits_126 (X := X) hd V _ h)
            · refine rn_brF rfl rfl rfl rfl hc ?_
              refine rn_go 2 (pc' := 116) (l' := [(0, .int x0), (1, .int x1)]) (st' := [.int (16 : Int32), .int x0]) (S1 := (SH ++ X)) (V1 := V) rfl ?_
              rcases ai_if h with ⟨hc, h⟩ | ⟨hc, h⟩
              · refine rn_brT rfl rfl rfl rfl hc ?_
                refine rn_go 1 (pc' := 131) (l' := [(0, .int x0), (1, .int x1)]) (st' := [.int (0 : Int32)]) (S1 := (SH ++ X)) (V1 := V) rfl ?_
                obtain rfl := Option.some.inj h
                exact rg_zret rfl (by decide)
              · refine rn_brF rfl rfl rfl rfl hc ?_
                refine rn_go 1 (pc' := 120) (l' := [(0, .int x0), (1, .int x1)]) (st' := [.int x1]) (S1 := (SH ++ X)) (V1 := V) rfl ?_
                obtain ⟨q1, hq1, h⟩ := ai_bd h
                refine rn_call rfl rfl rfl rfl rfl rfl (by omega) (t_Text_isDigit (by omega) hq1) ?_
                rcases ai_if h with ⟨hc, h⟩ | ⟨hc, h⟩
                · refine rn_brT rfl rfl rfl rfl hc ?_
                  refine rn_go 1 (pc' := 131) (l' := [(0, .int x0), (1, .int x1)]) (st' := [.int (0 : Int32)]) (S1 := (SH ++ X)) (V1 := V) rfl ?_
                  obtain rfl := Option.some.inj h
                  exact rg_zret rfl (by decide)
                · refine rn_brF rfl rfl rfl rfl hc ?_
                  exact rn_sub [] rfl rfl (t_House_fits_126 (X := X) hd V _ h)
-- RentByTheWheel$House.linesOf(LRentByTheWheel$Text;)I (3, 1)
def d_House_linesOf_53  (x5 : Int32) (V : ai_V) : Option Int32 :=
  some ((-1 : Int32) - x5)
set_option maxRecDepth 20000 in
theorem t_House_linesOf_53 {X : ai_S} {e : Nat} (hd : 2 ≤ e)  (x5 : Int32) (V : ai_V) (r : Int32) (h : d_House_linesOf_53  x5 V = some r) : Rn e 15 53 [(5, .int x5)] [] (SH ++ X) V (some (.int r)) (SH ++ X) V := by
  rw [d_House_linesOf_53] at h
  refine rn_go 3 (pc' := 57) (l' := [(5, .int x5)]) (st' := [.int ((-1 : Int32) - x5)]) (S1 := (SH ++ X)) (V1 := V) rfl ?_
  obtain rfl := Option.some.inj h
  exact rn_ret rfl rfl rfl
def d_House_linesOf_73 (F18 : Int32 → Int32 → Int32 → Int32 → ai_V → Option Int32) (x2 : Int32) (x3 : Int32) (x4 : Int32) (x5 : Int32) (V : ai_V) : Option Int32 :=
  F18 x2 x3 x4 (x5 + (1 : Int32)) V
set_option maxRecDepth 20000 in
theorem t_House_linesOf_73 {X : ai_S} {e : Nat} (hd : 2 ≤ e) (F18 : Int32 → Int32 → Int32 → Int32 → ai_V → Option Int32) (hF18 : ∀ (x2 : Int32) (x3 : Int32) (x4 : Int32) (x5 : Int32) (V : ai_V) (r : Int32), F18 x2 x3 x4 x5 V = some r → Rn e 15 18 [(0, .ref 3), (1, .ref 1), (2, .int x2), (3, .int x3), (4, .int x4), (5, .int x5)] [] (SH ++ X) V (some (.int r)) (SH ++ X) V) (x2 : Int32) (x3 : Int32) (x4 : Int32) (x5 : Int32) (V : ai_V) (r : Int32) (h : d_House_linesOf_73 F18 x2 x3 x4 x5 V = some r) : Rn e 15 73 [(0, .ref 3), (1, .ref 1), (2, .int x2), (3, .int x3), (4, .int x4), (5, .int x5)] [] (SH ++ X) V (some (.int r)) (SH ++ X) V := by
  rw [d_House_linesOf_73] at h
  refine rn_go 2 (pc' := 18) (l' := [(5, .int (x5 + (1 : Int32))), (0, .ref 3), (1, .ref 1), (2, .int x2), (3, .int x3), (4, .int x4)]) (st' := []) (S1 := (SH ++ X)) (V1 := V) rfl ?_
  exact rn_sub [1, 2, 3, 4, 5, 0] rfl rfl (hF18 x2 x3 x4 (x5 + (1 : Int32)) V _ h)
def d_House_linesOf_18  : Nat → Int32 → Int32 → Int32 → Int32 → ai_V → Option Int32
  | 0, _, _, _, _, _ => none
  | n + 1, x2, x3, x4, x5, V => if x2 ≤ x5 then (if (gi V 1 1) ≤ (76 : Int32) then (if x3 ≤ (4 : Int32) then (some ((-1 : Int32) - x2)) else (some x4)) else (some (-77 : Int32))) else ((d_Text_at x5 V).bind fun q1 => ((d_House_fits x3 q1 V).bind fun q2 => (if q2 = 0 then (d_House_linesOf_53 x5 V) else (if ((gi V 3 0) + x4) ≤ (6 : Int32) then (if ¬ q1 = (59 : Int32) then (d_House_linesOf_73 (d_House_linesOf_18 n) x2 (x3 + (1 : Int32)) x4 x5 V) else (d_House_linesOf_73 (d_House_linesOf_18 n) x2 (0 : Int32) (x4 + (1 : Int32)) x5 V)) else (d_House_linesOf_53 x5 V)))))
set_option maxRecDepth 20000 in
theorem t_House_linesOf_18 {X : ai_S} {e : Nat} (hd : 2 ≤ e)  : ∀ (n : Nat) (x2 : Int32) (x3 : Int32) (x4 : Int32) (x5 : Int32) (V : ai_V) (r : Int32), d_House_linesOf_18  n x2 x3 x4 x5 V = some r → Rn e 15 18 [(0, .ref 3), (1, .ref 1), (2, .int x2), (3, .int x3), (4, .int x4), (5, .int x5)] [] (SH ++ X) V (some (.int r)) (SH ++ X) V := by
  intro n
  induction n with
  | zero =>
    intro x2 x3 x4 x5 V r h
    cases h
  | succ n ih =>
    intro x2 x3 x4 x5 V r h
    rw [d_House_linesOf_18] at h
    refine rn_go 2 (pc' := 21) (l' := [(0, .ref 3), (1, .ref 1), (2, .int x2), (3, .int x3), (4, .int x4), (5, .int x5)]) (st' := [.int x2, .int x5]) (S1 := (SH ++ X)) (V1 := V) rfl ?_
    rcases ai_if h with ⟨hc, h⟩ | ⟨hc, h⟩
    · refine rn_brT rfl rfl rfl rfl hc ?_
      refine rn_go 3 (pc' := 85) (l' := [(0, .ref 3), (1, .ref 1), (2, .int x2), (3, .int x3), (4, .int x4), (5, .int x5)]) (st' := [.int (76 : Int32), .int (gi V 1 1)]) (S1 := (SH ++ X)) (V1 := V) rfl ?_
      rcases ai_if h with ⟨hc, h⟩ | ⟨hc, h⟩
      · refine rn_brT rfl rfl rfl rfl hc ?_
        refine rn_go 2 (pc' := 93) (l' := [(0, .ref 3), (1, .ref 1), (2, .int x2), (3, .int x3), (4, .int x4), (5, .int x5)]) (st' := [.int (4 : Int32), .int x3]) (S1 := (SH ++ X)) (V1 := V) rfl ?_
        rcases ai_if h with ⟨hc, h⟩ | ⟨hc, h⟩
        · refine rn_brT rfl rfl rfl rfl hc ?_
          refine rn_go 3 (pc' := 104) (l' := [(0, .ref 3), (1, .ref 1), (2, .int x2), (3, .int x3), (4, .int x4), (5, .int x5)]) (st' := [.int ((-1 : Int32) - x2)]) (S1 := (SH ++ X)) (V1 := V) rfl ?_
          obtain rfl := Option.some.inj h
          exact rn_ret rfl rfl rfl
        · refine rn_brF rfl rfl rfl rfl hc ?_
          refine rn_go 2 (pc' := 104) (l' := [(0, .ref 3), (1, .ref 1), (2, .int x2), (3, .int x3), (4, .int x4), (5, .int x5)]) (st' := [.int x4]) (S1 := (SH ++ X)) (V1 := V) rfl ?_
          obtain rfl := Option.some.inj h
          exact rn_ret rfl rfl rfl
      · refine rn_brF rfl rfl rfl rfl hc ?_
        refine rn_go 1 (pc' := 90) (l' := [(0, .ref 3), (1, .ref 1), (2, .int x2), (3, .int x3), (4, .int x4), (5, .int x5)]) (st' := [.int (-77 : Int32)]) (S1 := (SH ++ X)) (V1 := V) rfl ?_
        obtain rfl := Option.some.inj h
        exact rn_ret rfl rfl rfl
    · refine rn_brF rfl rfl rfl rfl hc ?_
      refine rn_go 2 (pc' := 27) (l' := [(0, .ref 3), (1, .ref 1), (2, .int x2), (3, .int x3), (4, .int x4), (5, .int x5)]) (st' := [.int x5, .ref 1]) (S1 := (SH ++ X)) (V1 := V) rfl ?_
      obtain ⟨q1, hq1, h⟩ := ai_bd h
      refine rn_call rfl rfl rfl rfl rfl rfl (by omega) (t_Text_at (by omega) hq1) ?_
      refine rn_go 3 (pc' := 35) (l' := [(6, .int q1), (0, .ref 3), (1, .ref 1), (2, .int x2), (3, .int x3), (4, .int x4), (5, .int x5)]) (st' := [.int q1, .int x3]) (S1 := (SH ++ X)) (V1 := V) rfl ?_
      obtain ⟨q2, hq2, h⟩ := ai_bd h
      refine rn_call rfl rfl rfl rfl rfl rfl (by omega) (t_House_fits (by omega) hq2) ?_
      rcases ai_if h with ⟨hc, h⟩ | ⟨hc, h⟩
      · refine rn_brT rfl rfl rfl rfl hc ?_
        exact rn_sub [6] rfl rfl (t_House_linesOf_53 (X := X) hd x5 V _ h)
      · refine rn_brF rfl rfl rfl rfl hc ?_
        refine rn_go 5 (pc' := 50) (l' := [(6, .int q1), (0, .ref 3), (1, .ref 1), (2, .int x2), (3, .int x3), (4, .int x4), (5, .int x5)]) (st' := [.int (6 : Int32), .int ((gi V 3 0) + x4)]) (S1 := (SH ++ X)) (V1 := V) rfl ?_
        rcases ai_if h with ⟨hc, h⟩ | ⟨hc, h⟩
        · refine rn_brT rfl rfl rfl rfl hc ?_
          refine rn_go 3 (pc' := 65) (l' := [(3, .int (x3 + (1 : Int32))), (6, .int q1), (0, .ref 3), (1, .ref 1), (2, .int x2), (4, .int x4), (5, .int x5)]) (st' := [.int (59 : Int32), .int q1]) (S1 := (SH ++ X)) (V1 := V) rfl ?_
          rcases ai_if h with ⟨hc, h⟩ | ⟨hc, h⟩
          · refine rn_brT rfl rfl rfl rfl hc ?_
            exact rn_sub [2, 3, 4, 0, 5, 6] rfl rfl (t_House_linesOf_73 (X := X) hd (d_House_linesOf_18 n) (ih) x2 (x3 + (1 : Int32)) x4 x5 V _ h)
          · refine rn_brF rfl rfl rfl rfl hc ?_
            refine rn_go 3 (pc' := 73) (l' := [(4, .int (x4 + (1 : Int32))), (3, .int (0 : Int32)), (6, .int q1), (0, .ref 3), (1, .ref 1), (2, .int x2), (5, .int x5)]) (st' := []) (S1 := (SH ++ X)) (V1 := V) rfl ?_
            exact rn_sub [3, 4, 5, 1, 0, 6] rfl rfl (t_House_linesOf_73 (X := X) hd (d_House_linesOf_18 n) (ih) x2 (0 : Int32) (x4 + (1 : Int32)) x5 V _ h)
        · refine rn_brF rfl rfl rfl rfl hc ?_
          exact rn_sub [6] rfl rfl (t_House_linesOf_53 (X := X) hd x5 V _ h)
def d_House_linesOf  (V : ai_V) : Option Int32 :=
  d_House_linesOf_18 ai_N (ai_min (gi V 1 1) (76 : Int32)) (0 : Int32) (1 : Int32) (0 : Int32) V
set_option maxRecDepth 20000 in
theorem t_House_linesOf {X : ai_S} {e : Nat} (hd : 2 ≤ e)  {V : ai_V} {r : Int32} (h : d_House_linesOf  V = some r) : Rn e 15 0 (lv_args 0 [.ref 3, .ref 1]) [] (SH ++ X) V (some (.int r)) (SH ++ X) V := by
  rw [d_House_linesOf] at h
  refine rn_go 11 (pc' := 18) (l' := [(5, .int (0 : Int32)), (4, .int (1 : Int32)), (3, .int (0 : Int32)), (2, .int (ai_min (gi V 1 1) (76 : Int32))), (0, .ref 3), (1, .ref 1)]) (st' := []) (S1 := (SH ++ X)) (V1 := V) rfl ?_
  exact rn_sub [4, 5, 3, 2, 1, 0] rfl rfl (t_House_linesOf_18 (X := X) hd ai_N (ai_min (gi V 1 1) (76 : Int32)) (0 : Int32) (1 : Int32) (0 : Int32) V _ h)
-- RentByTheWheel$House.orderInto([III)V (3, 9, None, None)
def d_House_orderInto_77 (F6 : Int32 → Int32 → Int32 → Int32 → ai_V → Option ai_V) (F16 : Int32 → Int32 → Int32 → Int32 → Int32 → ai_V → Option ai_V) (x2 : Int32) (x3 : Int32) (x4 : Int32) (x5 : Int32) (x6 : Int32) (V : ai_V) : Option ai_V :=
  F16 x2 x3 x4 x5 (x6 + (1 : Int32)) V
set_option maxRecDepth 20000 in
theorem t_House_orderInto_77 {X : ai_S} {e : Nat} (hd : 0 ≤ e) (F6 : Int32 → Int32 → Int32 → Int32 → ai_V → Option ai_V) (hF6 : ∀ (x2 : Int32) (x3 : Int32) (x4 : Int32) (x5 : Int32) (V : ai_V) (r : ai_V), F6 x2 x3 x4 x5 V = some r → Rn e 17 6 [(0, .ref 3), (1, .ref 9), (2, .int x2), (3, .int x3), (4, .int x4), (5, .int x5)] [] (SH ++ X) V none (SH ++ X) r) (F16 : Int32 → Int32 → Int32 → Int32 → Int32 → ai_V → Option ai_V) (hF16 : ∀ (x2 : Int32) (x3 : Int32) (x4 : Int32) (x5 : Int32) (x6 : Int32) (V : ai_V) (r : ai_V), F16 x2 x3 x4 x5 x6 V = some r → Rn e 17 16 [(0, .ref 3), (1, .ref 9), (2, .int x2), (3, .int x3), (4, .int x4), (5, .int x5), (6, .int x6)] [] (SH ++ X) V none (SH ++ X) r) (x2 : Int32) (x3 : Int32) (x4 : Int32) (x5 : Int32) (x6 : Int32) (V : ai_V) (r : ai_V) (h : d_House_orderInto_77 F6 F16 x2 x3 x4 x5 x6 V = some r) : Rn e 17 77 [(0, .ref 3), (1, .ref 9), (2, .int x2), (3, .int x3), (4, .int x4), (5, .int x5), (6, .int x6)] [] (SH ++ X) V none (SH ++ X) r := by
  rw [d_House_orderInto_77] at h
  refine rn_go 2 (pc' := 16) (l' := [(6, .int (x6 + (1 : Int32))), (0, .ref 3), (1, .ref 9), (2, .int x2), (3, .int x3), (4, .int x4), (5, .int x5)]) (st' := []) (S1 := (SH ++ X)) (V1 := V) rfl ?_
  exact rn_sub [1, 2, 3, 4, 5, 6, 0] rfl rfl (hF16 x2 x3 x4 x5 (x6 + (1 : Int32)) V _ h)
def d_House_orderInto_47 (F6 : Int32 → Int32 → Int32 → Int32 → ai_V → Option ai_V) (F16 : Int32 → Int32 → Int32 → Int32 → Int32 → ai_V → Option ai_V) (x2 : Int32) (x3 : Int32) (x4 : Int32) (x5 : Int32) (x6 : Int32) (s0 : Int32) (V : ai_V) : Option ai_V :=
  if ai_in s0 6 then (if ¬ (ga V 4 (s0).toNatClampNeg) = x5 then (d_House_orderInto_77 F6 F16 x2 x3 x4 x5 x6 V) else (if (Int32.ofNat 6) ≤ x4 then (d_House_orderInto_77 F6 F16 x2 x3 x4 x5 x6 V) else (if ai_in x4 6 then (d_House_orderInto_77 F6 F16 x2 x3 (x4 + (1 : Int32)) x5 x6 (sa V 9 (x4).toNatClampNeg x6)) else none))) else none
set_option maxRecDepth 20000 in
theorem t_House_orderInto_47 {X : ai_S} {e : Nat} (hd : 0 ≤ e) (F6 : Int32 → Int32 → Int32 → Int32 → ai_V → Option ai_V) (hF6 : ∀ (x2 : Int32) (x3 : Int32) (x4 : Int32) (x5 : Int32) (V : ai_V) (r : ai_V), F6 x2 x3 x4 x5 V = some r → Rn e 17 6 [(0, .ref 3), (1, .ref 9), (2, .int x2), (3, .int x3), (4, .int x4), (5, .int x5)] [] (SH ++ X) V none (SH ++ X) r) (F16 : Int32 → Int32 → Int32 → Int32 → Int32 → ai_V → Option ai_V) (hF16 : ∀ (x2 : Int32) (x3 : Int32) (x4 : Int32) (x5 : Int32) (x6 : Int32) (V : ai_V) (r : ai_V), F16 x2 x3 x4 x5 x6 V = some r → Rn e 17 16 [(0, .ref 3), (1, .ref 9), (2, .int x2), (3, .int x3), (4, .int x4), (5, .int x5), (6, .int x6)] [] (SH ++ X) V none (SH ++ X) r) (x2 : Int32) (x3 : Int32) (x4 : Int32) (x5 : Int32) (x6 : Int32) (s0 : Int32) (V : ai_V) (r : ai_V) (h : d_House_orderInto_47 F6 F16 x2 x3 x4 x5 x6 s0 V = some r) : Rn e 17 47 [(0, .ref 3), (1, .ref 9), (2, .int x2), (3, .int x3), (4, .int x4), (5, .int x5), (6, .int x6)] [.int s0] (SH ++ X) V none (SH ++ X) r := by
  rw [d_House_orderInto_47] at h
  refine rn_go 4 (pc' := 55) (l' := [(7, .int s0), (0, .ref 3), (1, .ref 9), (2, .int x2), (3, .int x3), (4, .int x4), (5, .int x5), (6, .int x6)]) (st' := [.int s0, .ref 4]) (S1 := (SH ++ X)) (V1 := V) rfl ?_
  obtain ⟨hg, h⟩ := ai_gd h
  refine rg_iald (n := 6) rfl rfl hg ?_
  refine rn_go 1 (pc' := 58) (l' := [(7, .int s0), (0, .ref 3), (1, .ref 9), (2, .int x2), (3, .int x3), (4, .int x4), (5, .int x5), (6, .int x6)]) (st' := [.int x5, .int (ga V 4 (s0).toNatClampNeg)]) (S1 := (SH ++ X)) (V1 := V) rfl ?_
  rcases ai_if h with ⟨hc, h⟩ | ⟨hc, h⟩
  · refine rn_brT rfl rfl rfl rfl hc ?_
    exact rn_sub [1, 2, 3, 4, 5, 6, 7] rfl rfl (t_House_orderInto_77 (X := X) hd F6 hF6 F16 hF16 x2 x3 x4 x5 x6 V _ h)
  · refine rn_brF rfl rfl rfl rfl hc ?_
    refine rn_go 3 (pc' := 65) (l' := [(7, .int s0), (0, .ref 3), (1, .ref 9), (2, .int x2), (3, .int x3), (4, .int x4), (5, .int x5), (6, .int x6)]) (st' := [.int (Int32.ofNat 6), .int x4]) (S1 := (SH ++ X)) (V1 := V) rfl ?_
    rcases ai_if h with ⟨hc, h⟩ | ⟨hc, h⟩
    · refine rn_brT rfl rfl rfl rfl hc ?_
      exact rn_sub [1, 2, 3, 4, 5, 6, 7] rfl rfl (t_House_orderInto_77 (X := X) hd F6 hF6 F16 hF16 x2 x3 x4 x5 x6 V _ h)
    · refine rn_brF rfl rfl rfl rfl hc ?_
      refine rn_go 3 (pc' := 73) (l' := [(7, .int s0), (0, .ref 3), (1, .ref 9), (2, .int x2), (3, .int x3), (4, .int x4), (5, .int x5), (6, .int x6)]) (st' := [.int x6, .int x4, .ref 9]) (S1 := (SH ++ X)) (V1 := V) rfl ?_
      obtain ⟨hg, h⟩ := ai_gd h
      refine rg_iast (n := 6) rfl rfl hg ?_
      refine rn_go 1 (pc' := 77) (l' := [(4, .int (x4 + (1 : Int32))), (7, .int s0), (0, .ref 3), (1, .ref 9), (2, .int x2), (3, .int x3), (5, .int x5), (6, .int x6)]) (st' := []) (S1 := (SH ++ X)) (V1 := (sa V 9 (x4).toNatClampNeg x6)) rfl ?_
      exact rn_sub [2, 3, 4, 5, 0, 6, 7] rfl rfl (t_House_orderInto_77 (X := X) hd F6 hF6 F16 hF16 x2 x3 (x4 + (1 : Int32)) x5 x6 (sa V 9 (x4).toNatClampNeg x6) _ h)
def d_House_orderInto_16 (F6 : Int32 → Int32 → Int32 → Int32 → ai_V → Option ai_V) : Nat → Int32 → Int32 → Int32 → Int32 → Int32 → ai_V → Option ai_V
  | 0, _, _, _, _, _, _ => none
  | n + 1, x2, x3, x4, x5, x6, V => if (gi V 3 0) ≤ x6 then (F6 x2 x3 x4 (x5 + (1 : Int32)) V) else (if ¬ x6 = x2 then (if ¬ x6 = x3 then (d_House_orderInto_47 F6 (d_House_orderInto_16 F6 n) x2 x3 x4 x5 x6 x6 V) else (d_House_orderInto_47 F6 (d_House_orderInto_16 F6 n) x2 x3 x4 x5 x6 x2 V)) else (d_House_orderInto_47 F6 (d_House_orderInto_16 F6 n) x2 x3 x4 x5 x6 x3 V))
set_option maxRecDepth 20000 in
theorem t_House_orderInto_16 {X : ai_S} {e : Nat} (hd : 0 ≤ e) (F6 : Int32 → Int32 → Int32 → Int32 → ai_V → Option ai_V) (hF6 : ∀ (x2 : Int32) (x3 : Int32) (x4 : Int32) (x5 : Int32) (V : ai_V) (r : ai_V), F6 x2 x3 x4 x5 V = some r → Rn e 17 6 [(0, .ref 3), (1, .ref 9), (2, .int x2), (3, .int x3), (4, .int x4), (5, .int x5)] [] (SH ++ X) V none (SH ++ X) r) : ∀ (n : Nat) (x2 : Int32) (x3 : Int32) (x4 : Int32) (x5 : Int32) (x6 : Int32) (V : ai_V) (r : ai_V), d_House_orderInto_16 F6 n x2 x3 x4 x5 x6 V = some r → Rn e 17 16 [(0, .ref 3), (1, .ref 9), (2, .int x2), (3, .int x3), (4, .int x4), (5, .int x5), (6, .int x6)] [] (SH ++ X) V none (SH ++ X) r := by
  intro n
  induction n with
  | zero =>
    intro x2 x3 x4 x5 x6 V r h
    cases h
  | succ n ih =>
    intro x2 x3 x4 x5 x6 V r h
    rw [d_House_orderInto_16] at h
    refine rn_go 3 (pc' := 22) (l' := [(0, .ref 3), (1, .ref 9), (2, .int x2), (3, .int x3), (4, .int x4), (5, .int x5), (6, .int x6)]) (st' := [.int (gi V 3 0), .int x6]) (S1 := (SH ++ X)) (V1 := V) rfl ?_
    rcases ai_if h with ⟨hc, h⟩ | ⟨hc, h⟩
    · refine rn_brT rfl rfl rfl rfl hc ?_
      refine rn_go 2 (pc' := 6) (l' := [(5, .int (x5 + (1 : Int32))), (0, .ref 3), (1, .ref 9), (2, .int x2), (3, .int x3), (4, .int x4), (6, .int x6)]) (st' := []) (S1 := (SH ++ X)) (V1 := V) rfl ?_
      exact rn_sub [1, 2, 3, 4, 5, 0] rfl rfl (hF6 x2 x3 x4 (x5 + (1 : Int32)) V _ h)
    · refine rn_brF rfl rfl rfl rfl hc ?_
      refine rn_go 2 (pc' := 28) (l' := [(0, .ref 3), (1, .ref 9), (2, .int x2), (3, .int x3), (4, .int x4), (5, .int x5), (6, .int x6)]) (st' := [.int x2, .int x6]) (S1 := (SH ++ X)) (V1 := V) rfl ?_
      rcases ai_if h with ⟨hc, h⟩ | ⟨hc, h⟩
      · refine rn_brT rfl rfl rfl rfl hc ?_
        refine rn_go 2 (pc' := 38) (l' := [(0, .ref 3), (1, .ref 9), (2, .int x2), (3, .int x3), (4, .int x4), (5, .int x5), (6, .int x6)]) (st' := [.int x3, .int x6]) (S1 := (SH ++ X)) (V1 := V) rfl ?_
        rcases ai_if h with ⟨hc, h⟩ | ⟨hc, h⟩
        · refine rn_brT rfl rfl rfl rfl hc ?_
          refine rn_go 1 (pc' := 47) (l' := [(0, .ref 3), (1, .ref 9), (2, .int x2), (3, .int x3), (4, .int x4), (5, .int x5), (6, .int x6)]) (st' := [.int x6]) (S1 := (SH ++ X)) (V1 := V) rfl ?_
          exact rn_sub [0, 1, 2, 3, 4, 5, 6] rfl rfl (t_House_orderInto_47 (X := X) hd F6 hF6 (d_House_orderInto_16 F6 n) (ih) x2 x3 x4 x5 x6 x6 V _ h)
        · refine rn_brF rfl rfl rfl rfl hc ?_
          refine rn_go 2 (pc' := 47) (l' := [(0, .ref 3), (1, .ref 9), (2, .int x2), (3, .int x3), (4, .int x4), (5, .int x5), (6, .int x6)]) (st' := [.int x2]) (S1 := (SH ++ X)) (V1 := V) rfl ?_
          exact rn_sub [0, 1, 2, 3, 4, 5, 6] rfl rfl (t_House_orderInto_47 (X := X) hd F6 hF6 (d_House_orderInto_16 F6 n) (ih) x2 x3 x4 x5 x6 x2 V _ h)
      · refine rn_brF rfl rfl rfl rfl hc ?_
        refine rn_go 2 (pc' := 47) (l' := [(0, .ref 3), (1, .ref 9), (2, .int x2), (3, .int x3), (4, .int x4), (5, .int x5), (6, .int x6)]) (st' := [.int x3]) (S1 := (SH ++ X)) (V1 := V) rfl ?_
        exact rn_sub [0, 1, 2, 3, 4, 5, 6] rfl rfl (t_House_orderInto_47 (X := X) hd F6 hF6 (d_House_orderInto_16 F6 n) (ih) x2 x3 x4 x5 x6 x3 V _ h)
def d_House_orderInto_6  : Nat → Int32 → Int32 → Int32 → Int32 → ai_V → Option ai_V
  | 0, _, _, _, _, _ => none
  | n + 1, x2, x3, x4, x5, V => if (6 : Int32) ≤ x5 then (some V) else (d_House_orderInto_16 (d_House_orderInto_6 n) ai_N x2 x3 x4 x5 (0 : Int32) V)
set_option maxRecDepth 20000 in
theorem t_House_orderInto_6 {X : ai_S} {e : Nat} (hd : 0 ≤ e)  : ∀ (n : Nat) (x2 : Int32) (x3 : Int32) (x4 : Int32) (x5 : Int32) (V : ai_V) (r : ai_V), d_House_orderInto_6  n x2 x3 x4 x5 V = some r → Rn e 17 6 [(0, .ref 3), (1, .ref 9), (2, .int x2), (3, .int x3), (4, .int x4), (5, .int x5)] [] (SH ++ X) V none (SH ++ X) r := by
  intro n
  induction n with
  | zero =>
    intro x2 x3 x4 x5 V r h
    cases h
  | succ n ih =>
    intro x2 x3 x4 x5 V r h
    rw [d_House_orderInto_6] at h
    refine rn_go 2 (pc' := 10) (l' := [(0, .ref 3), (1, .ref 9), (2, .int x2), (3, .int x3), (4, .int x4), (5, .int x5)]) (st' := [.int (6 : Int32), .int x5]) (S1 := (SH ++ X)) (V1 := V) rfl ?_
    rcases ai_if h with ⟨hc, h⟩ | ⟨hc, h⟩
    · refine rn_brT rfl rfl rfl rfl hc ?_
      obtain rfl := Option.some.inj h
      exact rn_ret rfl rfl rfl
    · refine rn_brF rfl rfl rfl rfl hc ?_
      refine rn_go 2 (pc' := 16) (l' := [(6, .int (0 : Int32)), (0, .ref 3), (1, .ref 9), (2, .int x2), (3, .int x3), (4, .int x4), (5, .int x5)]) (st' := []) (S1 := (SH ++ X)) (V1 := V) rfl ?_
      exact rn_sub [1, 2, 3, 4, 5, 6, 0] rfl rfl (t_House_orderInto_16 (X := X) hd (d_House_orderInto_6 n) (ih) ai_N x2 x3 x4 x5 (0 : Int32) V _ h)
def d_House_orderInto (x2 : Int32) (x3 : Int32) (V : ai_V) : Option ai_V :=
  d_House_orderInto_6 ai_N x2 x3 (0 : Int32) (0 : Int32) V
set_option maxRecDepth 20000 in
theorem t_House_orderInto {X : ai_S} {e : Nat} (hd : 0 ≤ e) {x2 : Int32} {x3 : Int32} {V : ai_V} {r : ai_V} (h : d_House_orderInto x2 x3 V = some r) : Rn e 17 0 (lv_args 0 [.ref 3, .ref 9, .int x2, .int x3]) [] (SH ++ X) V none (SH ++ X) r := by
  rw [d_House_orderInto] at h
  refine rn_go 4 (pc' := 6) (l' := [(5, .int (0 : Int32)), (4, .int (0 : Int32)), (0, .ref 3), (1, .ref 9), (2, .int x2), (3, .int x3)]) (st' := []) (S1 := (SH ++ X)) (V1 := V) rfl ?_
  exact rn_sub [2, 3, 4, 5, 1, 0] rfl rfl (t_House_orderInto_6 (X := X) hd ai_N x2 x3 (0 : Int32) (0 : Int32) V _ h)
-- RentByTheWheel$House.takeDigit(II)V (3, None, None)
def d_House_takeDigit (x1 : Int32) (x2 : Int32) (V : ai_V) : Option ai_V :=
  if ¬ x1 = 0 then (if ¬ x1 = (1 : Int32) then (if ¬ x1 = (2 : Int32) then (if (x1 - (4 : Int32)) < 0 then (some V) else (if (12 : Int32) ≤ (x1 - (4 : Int32)) then (some V) else (if ai_in (((gi V 3 0) * (12 : Int32)) + (x1 - (4 : Int32))) 72 then (if ai_in (gi (sa V 7 ((((gi V 3 0) * (12 : Int32)) + (x1 - (4 : Int32)))).toNatClampNeg x2) 3 0) 6 then (some (sa (sa V 7 ((((gi V 3 0) * (12 : Int32)) + (x1 - (4 : Int32)))).toNatClampNeg x2) 8 ((gi (sa V 7 ((((gi V 3 0) * (12 : Int32)) + (x1 - (4 : Int32)))).toNatClampNeg x2) 3 0)).toNatClampNeg ((x1 - (4 : Int32)) + (1 : Int32)))) else none) else none))) else (if ai_in (gi V 3 0) 6 then (some (sa V 6 ((gi V 3 0)).toNatClampNeg x2)) else none)) else (if ai_in (gi V 3 0) 6 then (some (sa V 5 ((gi V 3 0)).toNatClampNeg x2)) else none)) else (if ai_in (gi V 3 0) 6 then (some (sa V 4 ((gi V 3 0)).toNatClampNeg x2)) else none)
set_option maxRecDepth 20000 in
theorem t_House_takeDigit {X : ai_S} {e : Nat} (hd : 0 ≤ e) {x1 : Int32} {x2 : Int32} {V : ai_V} {r : ai_V} (h : d_House_takeDigit x1 x2 V = some r) : Rn e 16 0 (lv_args 0 [.ref 3, .int x1, .int x2]) [] (SH ++ X) V none (SH ++ X) r := by
  rw [d_House_takeDigit] at h
  refine rn_go 5 (pc' := 5) (l' := [(3, .int (x1 - (4 : Int32))), (0, .ref 3), (1, .int x1), (2, .int x2)]) (st' := [.int x1]) (S1 := (SH ++ X)) (V1 := V) rfl ?_
  rcases ai_if h with ⟨hc, h⟩ | ⟨hc, h⟩
  · refine rn_brT rfl rfl rfl rfl hc ?_
    refine rn_go 2 (pc' := 23) (l' := [(3, .int (x1 - (4 : Int32))), (0, .ref 3), (1, .int x1), (2, .int x2)]) (st' := [.int (1 : Int32), .int x1]) (S1 := (SH ++ X)) (V1 := V) rfl ?_
    rcases ai_if h with ⟨hc, h⟩ | ⟨hc, h⟩
    · refine rn_brT rfl rfl rfl rfl hc ?_
      refine rn_go 2 (pc' := 41) (l' := [(3, .int (x1 - (4 : Int32))), (0, .ref 3), (1, .int x1), (2, .int x2)]) (st' := [.int (2 : Int32), .int x1]) (S1 := (SH ++ X)) (V1 := V) rfl ?_
      rcases ai_if h with ⟨hc, h⟩ | ⟨hc, h⟩
      · refine rn_brT rfl rfl rfl rfl hc ?_
        refine rn_go 1 (pc' := 58) (l' := [(3, .int (x1 - (4 : Int32))), (0, .ref 3), (1, .int x1), (2, .int x2)]) (st' := [.int (x1 - (4 : Int32))]) (S1 := (SH ++ X)) (V1 := V) rfl ?_
        rcases ai_if h with ⟨hc, h⟩ | ⟨hc, h⟩
        · refine rn_brT rfl rfl rfl rfl hc ?_
          obtain rfl := Option.some.inj h
          exact rn_ret rfl rfl rfl
        · refine rn_brF rfl rfl rfl rfl hc ?_
          refine rn_go 2 (pc' := 64) (l' := [(3, .int (x1 - (4 : Int32))), (0, .ref 3), (1, .int x1), (2, .int x2)]) (st' := [.int (12 : Int32), .int (x1 - (4 : Int32))]) (S1 := (SH ++ X)) (V1 := V) rfl ?_
          rcases ai_if h with ⟨hc, h⟩ | ⟨hc, h⟩
          · refine rn_brT rfl rfl rfl rfl hc ?_
            obtain rfl := Option.some.inj h
            exact rn_ret rfl rfl rfl
          · refine rn_brF rfl rfl rfl rfl hc ?_
            refine rn_go 9 (pc' := 81) (l' := [(3, .int (x1 - (4 : Int32))), (0, .ref 3), (1, .int x1), (2, .int x2)]) (st' := [.int x2, .int (((gi V 3 0) * (12 : Int32)) + (x1 - (4 : Int32))), .ref 7]) (S1 := (SH ++ X)) (V1 := V) rfl ?_
            obtain ⟨hg, h⟩ := ai_gd h
            refine rg_iast (n := 72) rfl rfl hg ?_
            refine rn_go 7 (pc' := 93) (l' := [(3, .int (x1 - (4 : Int32))), (0, .ref 3), (1, .int x1), (2, .int x2)]) (st' := [.int ((x1 - (4 : Int32)) + (1 : Int32)), .int (gi (sa V 7 ((((gi V 3 0) * (12 : Int32)) + (x1 - (4 : Int32)))).toNatClampNeg x2) 3 0), .ref 8]) (S1 := (SH ++ X)) (V1 := (sa V 7 ((((gi V 3 0) * (12 : Int32)) + (x1 - (4 : Int32)))).toNatClampNeg x2)) rfl ?_
            obtain ⟨hg, h⟩ := ai_gd h
            refine rg_iast (n := 6) rfl rfl hg ?_
            obtain rfl := Option.some.inj h
            exact rn_ret rfl rfl rfl
      · refine rn_brF rfl rfl rfl rfl hc ?_
        refine rn_go 5 (pc' := 53) (l' := [(3, .int (x1 - (4 : Int32))), (0, .ref 3), (1, .int x1), (2, .int x2)]) (st' := [.int x2, .int (gi V 3 0), .ref 6]) (S1 := (SH ++ X)) (V1 := V) rfl ?_
        obtain ⟨hg, h⟩ := ai_gd h
        refine rg_iast (n := 6) rfl rfl hg ?_
        refine rn_go 1 (pc' := 94) (l' := [(3, .int (x1 - (4 : Int32))), (0, .ref 3), (1, .int x1), (2, .int x2)]) (st' := []) (S1 := (SH ++ X)) (V1 := (sa V 6 ((gi V 3 0)).toNatClampNeg x2)) rfl ?_
        obtain rfl := Option.some.inj h
        exact rn_ret rfl rfl rfl
    · refine rn_brF rfl rfl rfl rfl hc ?_
      refine rn_go 5 (pc' := 35) (l' := [(3, .int (x1 - (4 : Int32))), (0, .ref 3), (1, .int x1), (2, .int x2)]) (st' := [.int x2, .int (gi V 3 0), .ref 5]) (S1 := (SH ++ X)) (V1 := V) rfl ?_
      obtain ⟨hg, h⟩ := ai_gd h
      refine rg_iast (n := 6) rfl rfl hg ?_
      refine rn_go 1 (pc' := 94) (l' := [(3, .int (x1 - (4 : Int32))), (0, .ref 3), (1, .int x1), (2, .int x2)]) (st' := []) (S1 := (SH ++ X)) (V1 := (sa V 5 ((gi V 3 0)).toNatClampNeg x2)) rfl ?_
      obtain rfl := Option.some.inj h
      exact rn_ret rfl rfl rfl
  · refine rn_brF rfl rfl rfl rfl hc ?_
    refine rn_go 5 (pc' := 17) (l' := [(3, .int (x1 - (4 : Int32))), (0, .ref 3), (1, .int x1), (2, .int x2)]) (st' := [.int x2, .int (gi V 3 0), .ref 4]) (S1 := (SH ++ X)) (V1 := V) rfl ?_
    obtain ⟨hg, h⟩ := ai_gd h
    refine rg_iast (n := 6) rfl rfl hg ?_
    refine rn_go 1 (pc' := 94) (l' := [(3, .int (x1 - (4 : Int32))), (0, .ref 3), (1, .int x1), (2, .int x2)]) (st' := []) (S1 := (SH ++ X)) (V1 := (sa V 4 ((gi V 3 0)).toNatClampNeg x2)) rfl ?_
    obtain rfl := Option.some.inj h
    exact rn_ret rfl rfl rfl
-- RentByTheWheel$House.takeLines(LRentByTheWheel$Text;)V (3, 1)
def d_House_takeLines_69   (V : ai_V) : Option ai_V :=
  (d_House_orderInto (-1 : Int32) (-1 : Int32) (si V 3 0 (ai_min ((gi V 3 0) + (1 : Int32)) (6 : Int32)))).bind fun q1 => (some q1)
set_option maxRecDepth 20000 in
theorem t_House_takeLines_69 {X : ai_S} {e : Nat} (hd : 1 ≤ e)   (V : ai_V) (r : ai_V) (h : d_House_takeLines_69   V = some r) : Rn e 18 69 [(0, .ref 3)] [] (SH ++ X) V none (SH ++ X) r := by
  rw [d_House_takeLines_69] at h
  refine rn_go 13 (pc' := 91) (l' := [(0, .ref 3)]) (st' := [.int (-1 : Int32), .int (-1 : Int32), .ref 9, .ref 3]) (S1 := (SH ++ X)) (V1 := (si V 3 0 (ai_min ((gi V 3 0) + (1 : Int32)) (6 : Int32)))) rfl ?_
  obtain ⟨q1, hq1, h⟩ := ai_bd h
  refine rn_call rfl rfl rfl rfl rfl rfl (by omega) (t_House_orderInto (by omega) hq1) ?_
  obtain rfl := Option.some.inj h
  exact rn_ret rfl rfl rfl
def d_House_takeLines_63 (F4 : Int32 → Int32 → ai_V → Option ai_V) (x2 : Int32) (x3 : Int32) (V : ai_V) : Option ai_V :=
  F4 x2 (x3 + (1 : Int32)) V
set_option maxRecDepth 20000 in
theorem t_House_takeLines_63 {X : ai_S} {e : Nat} (hd : 1 ≤ e) (F4 : Int32 → Int32 → ai_V → Option ai_V) (hF4 : ∀ (x2 : Int32) (x3 : Int32) (V : ai_V) (r : ai_V), F4 x2 x3 V = some r → Rn e 18 4 [(0, .ref 3), (1, .ref 1), (2, .int x2), (3, .int x3)] [] (SH ++ X) V none (SH ++ X) r) (x2 : Int32) (x3 : Int32) (V : ai_V) (r : ai_V) (h : d_House_takeLines_63 F4 x2 x3 V = some r) : Rn e 18 63 [(0, .ref 3), (1, .ref 1), (2, .int x2), (3, .int x3)] [] (SH ++ X) V none (SH ++ X) r := by
  rw [d_House_takeLines_63] at h
  refine rn_go 2 (pc' := 4) (l' := [(3, .int (x3 + (1 : Int32))), (0, .ref 3), (1, .ref 1), (2, .int x2)]) (st' := []) (S1 := (SH ++ X)) (V1 := V) rfl ?_
  exact rn_sub [1, 2, 3, 0] rfl rfl (hF4 x2 (x3 + (1 : Int32)) V _ h)
def d_House_takeLines_4  : Nat → Int32 → Int32 → ai_V → Option ai_V
  | 0, _, _, _ => none
  | n + 1, x2, x3, V => if (gi V 1 1) ≤ x3 then (d_House_takeLines_69 V) else (if (6 : Int32) ≤ (gi V 3 0) then (d_House_takeLines_69 V) else ((d_Text_at x3 V).bind fun q2 => (if ¬ q2 = (59 : Int32) then ((d_House_takeDigit x2 (q2 - (48 : Int32)) V).bind fun q3 => (d_House_takeLines_63 (d_House_takeLines_4 n) (x2 + (1 : Int32)) x3 q3)) else (d_House_takeLines_63 (d_House_takeLines_4 n) (0 : Int32) x3 (si V 3 0 ((gi V 3 0) + (1 : Int32)))))))
set_option maxRecDepth 20000 in
theorem t_House_takeLines_4 {X : ai_S} {e : Nat} (hd : 1 ≤ e)  : ∀ (n : Nat) (x2 : Int32) (x3 : Int32) (V : ai_V) (r : ai_V), d_House_takeLines_4  n x2 x3 V = some r → Rn e 18 4 [(0, .ref 3), (1, .ref 1), (2, .int x2), (3, .int x3)] [] (SH ++ X) V none (SH ++ X) r := by
  intro n
  induction n with
  | zero =>
    intro x2 x3 V r h
    cases h
  | succ n ih =>
    intro x2 x3 V r h
    rw [d_House_takeLines_4] at h
    refine rn_go 3 (pc' := 9) (l' := [(0, .ref 3), (1, .ref 1), (2, .int x2), (3, .int x3)]) (st' := [.int (gi V 1 1), .int x3]) (S1 := (SH ++ X)) (V1 := V) rfl ?_
    rcases ai_if h with ⟨hc, h⟩ | ⟨hc, h⟩
    · refine rn_brT rfl rfl rfl rfl hc ?_
      exact rn_sub [0] rfl rfl (t_House_takeLines_69 (X := X) hd V _ h)
    · refine rn_brF rfl rfl rfl rfl hc ?_
      refine rn_go 3 (pc' := 18) (l' := [(0, .ref 3), (1, .ref 1), (2, .int x2), (3, .int x3)]) (st' := [.int (6 : Int32), .int (gi V 3 0)]) (S1 := (SH ++ X)) (V1 := V) rfl ?_
      rcases ai_if h with ⟨hc, h⟩ | ⟨hc, h⟩
      · refine rn_brT rfl rfl rfl rfl hc ?_
        exact rn_sub [0] rfl rfl (t_House_takeLines_69 (X := X) hd V _ h)
      · refine rn_brF rfl rfl rfl rfl hc ?_
        refine rn_go 2 (pc' := 23) (l' := [(0, .ref 3), (1, .ref 1), (2, .int x2), (3, .int x3)]) (st' := [.int x3, .ref 1]) (S1 := (SH ++ X)) (V1 := V) rfl ?_
        obtain ⟨q2, hq2, h⟩ := ai_bd h
        refine rn_call rfl rfl rfl rfl rfl rfl (by omega) (t_Text_at (by omega) hq2) ?_
        refine rn_go 3 (pc' := 32) (l' := [(4, .int q2), (0, .ref 3), (1, .ref 1), (2, .int x2), (3, .int x3)]) (st' := [.int (59 : Int32), .int q2]) (S1 := (SH ++ X)) (V1 := V) rfl ?_
        rcases ai_if h with ⟨hc, h⟩ | ⟨hc, h⟩
        · refine rn_brT rfl rfl rfl rfl hc ?_
          refine rn_go 5 (pc' := 57) (l' := [(4, .int q2), (0, .ref 3), (1, .ref 1), (2, .int x2), (3, .int x3)]) (st' := [.int (q2 - (48 : Int32)), .int x2, .ref 3]) (S1 := (SH ++ X)) (V1 := V) rfl ?_
          obtain ⟨q3, hq3, h⟩ := ai_bd h
          refine rn_call rfl rfl rfl rfl rfl rfl (by omega) (t_House_takeDigit (by omega) hq3) ?_
          refine rn_go 1 (pc' := 63) (l' := [(2, .int (x2 + (1 : Int32))), (4, .int q2), (0, .ref 3), (1, .ref 1), (3, .int x3)]) (st' := []) (S1 := (SH ++ X)) (V1 := q3) rfl ?_
          exact rn_sub [2, 3, 0, 4] rfl rfl (t_House_takeLines_63 (X := X) hd (d_House_takeLines_4 n) (ih) (x2 + (1 : Int32)) x3 q3 _ h)
        · refine rn_brF rfl rfl rfl rfl hc ?_
          refine rn_go 9 (pc' := 63) (l' := [(2, .int (0 : Int32)), (4, .int q2), (0, .ref 3), (1, .ref 1), (3, .int x3)]) (st' := []) (S1 := (SH ++ X)) (V1 := (si V 3 0 ((gi V 3 0) + (1 : Int32)))) rfl ?_
          exact rn_sub [2, 3, 0, 4] rfl rfl (t_House_takeLines_63 (X := X) hd (d_House_takeLines_4 n) (ih) (0 : Int32) x3 (si V 3 0 ((gi V 3 0) + (1 : Int32))) _ h)
def d_House_takeLines  (V : ai_V) : Option ai_V :=
  d_House_takeLines_4 ai_N (0 : Int32) (0 : Int32) V
set_option maxRecDepth 20000 in
theorem t_House_takeLines {X : ai_S} {e : Nat} (hd : 1 ≤ e)  {V : ai_V} {r : ai_V} (h : d_House_takeLines  V = some r) : Rn e 18 0 (lv_args 0 [.ref 3, .ref 1]) [] (SH ++ X) V none (SH ++ X) r := by
  rw [d_House_takeLines] at h
  refine rn_go 4 (pc' := 4) (l' := [(3, .int (0 : Int32)), (2, .int (0 : Int32)), (0, .ref 3), (1, .ref 1)]) (st' := []) (S1 := (SH ++ X)) (V1 := V) rfl ?_
  exact rn_sub [2, 3, 1, 0] rfl rfl (t_House_takeLines_4 (X := X) hd ai_N (0 : Int32) (0 : Int32) V _ h)
-- RentByTheWheel$Past.clear()V (24,)
def d_Past_clear  (V : ai_V) : Option ai_V :=
  some (si V 24 1 (0 : Int32))
set_option maxRecDepth 20000 in
theorem t_Past_clear {X : ai_S} {e : Nat} (hd : 0 ≤ e)  {V : ai_V} {r : ai_V} (h : d_Past_clear  V = some r) : Rn e 43 0 (lv_args 0 [.ref 24]) [] (SH ++ X) V none (SH ++ X) r := by
  rw [d_Past_clear] at h
  refine rn_go 3 (pc' := 5) (l' := [(0, .ref 24)]) (st' := []) (S1 := (SH ++ X)) (V1 := (si V 24 1 (0 : Int32))) rfl ?_
  obtain rfl := Option.some.inj h
  exact rn_ret rfl rfl rfl
-- RentByTheWheel.house()I (0,)
def d_X_house_46  (x1 : Int32) (V : ai_V) : Option (Int32 × ai_V) :=
  (d_Text_clear  V).bind fun q1 => (some (x1, q1))
set_option maxRecDepth 20000 in
theorem t_X_house_46 {X : ai_S} {e : Nat} (hd : 3 ≤ e)  (x1 : Int32) (V : ai_V) (r : (Int32 × ai_V)) (h : d_X_house_46  x1 V = some r) : Rn e 96 46 [(0, .ref 0), (1, .int x1)] [] (SH ++ X) V (some (.int r.1)) (SH ++ X) r.2 := by
  rw [d_X_house_46] at h
  refine rn_go 2 (pc' := 50) (l' := [(0, .ref 0), (1, .int x1)]) (st' := [.ref 1]) (S1 := (SH ++ X)) (V1 := V) rfl ?_
  obtain ⟨q1, hq1, h⟩ := ai_bd h
  refine rn_call rfl rfl rfl rfl rfl rfl (by omega) (t_Text_clear (by omega) hq1) ?_
  refine rn_go 1 (pc' := 54) (l' := [(0, .ref 0), (1, .int x1)]) (st' := [.int x1]) (S1 := (SH ++ X)) (V1 := q1) rfl ?_
  obtain rfl := Option.some.inj h
  exact rn_ret rfl rfl rfl
def d_X_house  (V : ai_V) : Option (Int32 × ai_V) :=
  if ¬ (gi V 1 1) = 0 then ((d_House_linesOf  V).bind fun q2 => (if q2 ≤ 0 then (d_X_house_46 q2 V) else ((d_House_takeLines  V).bind fun q3 => ((d_Past_clear  q3).bind fun q4 => (d_X_house_46 q2 q4))))) else (some ((0 : Int32), V))
set_option maxRecDepth 20000 in
theorem t_X_house {X : ai_S} {e : Nat} (hd : 3 ≤ e)  {V : ai_V} {r : (Int32 × ai_V)} (h : d_X_house  V = some r) : Rn e 96 0 (lv_args 0 [.ref 0]) [] (SH ++ X) V (some (.int r.1)) (SH ++ X) r.2 := by
  rw [d_X_house] at h
  refine rn_go 3 (pc' := 7) (l' := [(0, .ref 0)]) (st' := [.int (gi V 1 1)]) (S1 := (SH ++ X)) (V1 := V) rfl ?_
  rcases ai_if h with ⟨hc, h⟩ | ⟨hc, h⟩
  · refine rn_brT rfl rfl rfl rfl hc ?_
    refine rn_go 4 (pc' := 20) (l' := [(0, .ref 0)]) (st' := [.ref 1, .ref 3]) (S1 := (SH ++ X)) (V1 := V) rfl ?_
    obtain ⟨q2, hq2, h⟩ := ai_bd h
    refine rn_call rfl rfl rfl rfl rfl rfl (by omega) (t_House_linesOf (by omega) hq2) ?_
    refine rn_go 2 (pc' := 25) (l' := [(1, .int q2), (0, .ref 0)]) (st' := [.int q2]) (S1 := (SH ++ X)) (V1 := V) rfl ?_
    rcases ai_if h with ⟨hc, h⟩ | ⟨hc, h⟩
    · refine rn_brT rfl rfl rfl rfl hc ?_
      exact rn_sub [1, 0] rfl rfl (t_X_house_46 (X := X) hd q2 V _ h)
    · refine rn_brF rfl rfl rfl rfl hc ?_
      refine rn_go 4 (pc' := 36) (l' := [(1, .int q2), (0, .ref 0)]) (st' := [.ref 1, .ref 3]) (S1 := (SH ++ X)) (V1 := V) rfl ?_
      obtain ⟨q3, hq3, h⟩ := ai_bd h
      refine rn_call rfl rfl rfl rfl rfl rfl (by omega) (t_House_takeLines (by omega) hq3) ?_
      refine rn_go 2 (pc' := 43) (l' := [(1, .int q2), (0, .ref 0)]) (st' := [.ref 24]) (S1 := (SH ++ X)) (V1 := q3) rfl ?_
      obtain ⟨q4, hq4, h⟩ := ai_bd h
      refine rn_call rfl rfl rfl rfl rfl rfl (by omega) (t_Past_clear (by omega) hq4) ?_
      exact rn_sub [1, 0] rfl rfl (t_X_house_46 (X := X) hd q2 q4 _ h)
  · refine rn_brF rfl rfl rfl rfl hc ?_
    refine rn_go 1 (pc' := 11) (l' := [(0, .ref 0)]) (st' := [.int (0 : Int32)]) (S1 := (SH ++ X)) (V1 := V) rfl ?_
    obtain rfl := Option.some.inj h
    exact rn_ret rfl rfl rfl
-- RentByTheWheel$Rule.emit(I)V (10, None)
def d_Rule_emit (x1 : Int32) (V : ai_V) : Option ai_V :=
  if (Int32.ofNat 40) ≤ (gi V 10 6) then (some V) else (if ai_in (gi V 10 6) 40 then (some (si (sa V 14 ((gi V 10 6)).toNatClampNeg x1) 10 6 ((gi (sa V 14 ((gi V 10 6)).toNatClampNeg x1) 10 6) + (1 : Int32)))) else none)
set_option maxRecDepth 20000 in
theorem t_Rule_emit {X : ai_S} {e : Nat} (hd : 0 ≤ e) {x1 : Int32} {V : ai_V} {r : ai_V} (h : d_Rule_emit x1 V = some r) : Rn e 69 0 (lv_args 0 [.ref 10, .int x1]) [] (SH ++ X) V none (SH ++ X) r := by
  rw [d_Rule_emit] at h
  refine rn_go 5 (pc' := 9) (l' := [(0, .ref 10), (1, .int x1)]) (st' := [.int (Int32.ofNat 40), .int (gi V 10 6)]) (S1 := (SH ++ X)) (V1 := V) rfl ?_
  rcases ai_if h with ⟨hc, h⟩ | ⟨hc, h⟩
  · refine rn_brT rfl rfl rfl rfl hc ?_
    obtain rfl := Option.some.inj h
    exact rn_ret rfl rfl rfl
  · refine rn_brF rfl rfl rfl rfl hc ?_
    refine rn_go 5 (pc' := 21) (l' := [(0, .ref 10), (1, .int x1)]) (st' := [.int x1, .int (gi V 10 6), .ref 14]) (S1 := (SH ++ X)) (V1 := V) rfl ?_
    obtain ⟨hg, h⟩ := ai_gd h
    refine rg_iast (n := 40) rfl rfl hg ?_
    refine rn_go 6 (pc' := 32) (l' := [(0, .ref 10), (1, .int x1)]) (st' := []) (S1 := (SH ++ X)) (V1 := (si (sa V 14 ((gi V 10 6)).toNatClampNeg x1) 10 6 ((gi (sa V 14 ((gi V 10 6)).toNatClampNeg x1) 10 6) + (1 : Int32)))) rfl ?_
    obtain rfl := Option.some.inj h
    exact rn_ret rfl rfl rfl
-- java/lang/String.isLatin1()Z (999999,)
def d_Str_isLatin1  (V : ai_V) : Option Int32 :=
  some (1 : Int32)
set_option maxRecDepth 20000 in
theorem t_Str_isLatin1 {X : ai_S} {e : Nat} (hd : 0 ≤ e)  {V : ai_V} {r : Int32} (h : d_Str_isLatin1  V = some r) : Rn e 2 0 (lv_args 0 [.ref 999999]) [] (SH ++ X) V (some (.int r)) (SH ++ X) V := by
  rw [d_Str_isLatin1] at h
  refine rn_go 1 (pc' := 3) (l' := [(0, .ref 999999)]) (st' := [.int (1 : Int32)]) (S1 := (SH ++ X)) (V1 := V) rfl ?_
  refine rn_brF rfl rfl rfl rfl (by decide) ?_
  refine rn_go 2 (pc' := 10) (l' := [(0, .ref 999999)]) (st' := [.int (0 : Int32)]) (S1 := (SH ++ X)) (V1 := V) rfl ?_
  refine rn_brF rfl rfl rfl rfl (by decide) ?_
  refine rn_go 2 (pc' := 18) (l' := [(0, .ref 999999)]) (st' := [.int (1 : Int32)]) (S1 := (SH ++ X)) (V1 := V) rfl ?_
  obtain rfl := Option.some.inj h
  exact rg_zret rfl (by decide)
-- java/lang/String.coder()B (999999,)
def d_Str_coder  (V : ai_V) : Option Int32 :=
  some (0 : Int32)
set_option maxRecDepth 20000 in
theorem t_Str_coder {X : ai_S} {e : Nat} (hd : 0 ≤ e)  {V : ai_V} {r : Int32} (h : d_Str_coder  V = some r) : Rn e 0 0 (lv_args 0 [.ref 999999]) [] (SH ++ X) V (some (.int r)) (SH ++ X) V := by
  rw [d_Str_coder] at h
  refine rn_go 1 (pc' := 3) (l' := [(0, .ref 999999)]) (st' := [.int (1 : Int32)]) (S1 := (SH ++ X)) (V1 := V) rfl ?_
  refine rn_brF rfl rfl rfl rfl (by decide) ?_
  refine rn_go 3 (pc' := 14) (l' := [(0, .ref 999999)]) (st' := [.int (0 : Int32)]) (S1 := (SH ++ X)) (V1 := V) rfl ?_
  obtain rfl := Option.some.inj h
  exact rg_bret rfl rfl
