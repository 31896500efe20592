/-! ===== printed by wip/gen/gen.py: methods as functions, and that the machine runs so ===== -/
-- RentByTheWheelModel.thrown()I (89,)
def d_M_thrown  (V : ai_V) : Option Int32 :=
  some (gi V 89 14)
set_option maxRecDepth 20000 in
theorem t_M_thrown {X : ai_S} {e : Nat} (hd : 0 ≤ e)  {V : ai_V} {r : Int32} (h : d_M_thrown  V = some r) : Rn e 157 0 (lv_args 0 [.ref 89]) [] (SH ++ X) V (some (.int r)) (SH ++ X) V := by
  rw [d_M_thrown] at h
  refine rn_go 2 (pc' := 4) (l' := [(0, .ref 89)]) (st' := [.int (gi V 89 14)]) (S1 := (SH ++ X)) (V1 := V) rfl ?_
  obtain rfl := Option.some.inj h
  exact rn_ret rfl rfl rfl
-- RentByTheWheelModel.sign(I)I (89, None)
def d_M_sign_20  : Nat → Int32 → Int32 → ai_V → Option (Int32 × ai_V)
  | 0, _, _, _ => none
  | n + 1, x1, x2, V => if x2 < 0 then (some ((gi V 89 11), V)) else (if ai_in (gi V 89 11) 80 then (d_M_sign_20 n x1 (x2 + (-1 : Int32)) (sa (si V 89 11 ((gi V 89 11) + (1 : Int32))) 96 ((gi V 89 11)).toNatClampNeg (vp_nar .byte (((x1 >>> (((8 : Int32) * x2) &&& 31))).toInt8.toInt32)))) else none)
set_option maxRecDepth 20000 in
theorem t_M_sign_20 {X : ai_S} {e : Nat} (hd : 0 ≤ e)  : ∀ (n : Nat) (x1 : Int32) (x2 : Int32) (V : ai_V) (r : (Int32 × ai_V)), d_M_sign_20  n x1 x2 V = some r → Rn e 158 20 [(0, .ref 89), (1, .int x1), (2, .int x2)] [] (SH ++ X) V (some (.int r.1)) (SH ++ X) r.2 := by
  intro n
  induction n with
  | zero =>
    intro x1 x2 V r h
    cases h
  | succ n ih =>
    intro x1 x2 V r h
    rw [d_M_sign_20] at h
    refine rn_go 1 (pc' := 21) (l' := [(0, .ref 89), (1, .int x1), (2, .int x2)]) (st' := [.int x2]) (S1 := (SH ++ X)) (V1 := V) rfl ?_
    rcases ai_if h with ⟨hc, h⟩ | ⟨hc, h⟩
    · refine rn_brT rfl rfl rfl rfl hc ?_
      refine rn_go 2 (pc' := 57) (l' := [(0, .ref 89), (1, .int x1), (2, .int x2)]) (st' := [.int (gi V 89 11)]) (S1 := (SH ++ X)) (V1 := V) rfl ?_
      obtain rfl := Option.some.inj h
      exact rn_ret rfl rfl rfl
    · refine rn_brF rfl rfl rfl rfl hc ?_
      refine rn_go 15 (pc' := 46) (l' := [(0, .ref 89), (1, .int x1), (2, .int x2)]) (st' := [.int ((x1 >>> (((8 : Int32) * x2) &&& 31))).toInt8.toInt32, .int (gi V 89 11), .ref 96]) (S1 := (SH ++ X)) (V1 := (si V 89 11 ((gi V 89 11) + (1 : Int32)))) rfl ?_
      obtain ⟨hg, h⟩ := ai_gd h
      refine rg_bast (n := 80) rfl rfl hg ?_
      refine rn_go 2 (pc' := 20) (l' := [(2, .int (x2 + (-1 : Int32))), (0, .ref 89), (1, .int x1)]) (st' := []) (S1 := (SH ++ X)) (V1 := (sa (si V 89 11 ((gi V 89 11) + (1 : Int32))) 96 ((gi V 89 11)).toNatClampNeg (vp_nar .byte (((x1 >>> (((8 : Int32) * x2) &&& 31))).toInt8.toInt32)))) rfl ?_
      exact rn_sub [1, 2, 0] rfl rfl (ih x1 (x2 + (-1 : Int32)) (sa (si V 89 11 ((gi V 89 11) + (1 : Int32))) 96 ((gi V 89 11)).toNatClampNeg (vp_nar .byte (((x1 >>> (((8 : Int32) * x2) &&& 31))).toInt8.toInt32))) _ h)
def d_M_sign (x1 : Int32) (V : ai_V) : Option (Int32 × ai_V) :=
  if ((gi (si V 89 14 (0 : Int32)) 89 11) + (4 : Int32)) ≤ (80 : Int32) then (d_M_sign_20 ai_N x1 (3 : Int32) (si V 89 14 (0 : Int32))) else (some ((-1 : Int32), (si V 89 14 (0 : Int32))))
set_option maxRecDepth 20000 in
theorem t_M_sign {X : ai_S} {e : Nat} (hd : 0 ≤ e) {x1 : Int32} {V : ai_V} {r : (Int32 × ai_V)} (h : d_M_sign x1 V = some r) : Rn e 158 0 (lv_args 0 [.ref 89, .int x1]) [] (SH ++ X) V (some (.int r.1)) (SH ++ X) r.2 := by
  rw [d_M_sign] at h
  refine rn_go 8 (pc' := 13) (l' := [(0, .ref 89), (1, .int x1)]) (st' := [.int (80 : Int32), .int ((gi (si V 89 14 (0 : Int32)) 89 11) + (4 : Int32))]) (S1 := (SH ++ X)) (V1 := (si V 89 14 (0 : Int32))) rfl ?_
  rcases ai_if h with ⟨hc, h⟩ | ⟨hc, h⟩
  · refine rn_brT rfl rfl rfl rfl hc ?_
    refine rn_go 2 (pc' := 20) (l' := [(2, .int (3 : Int32)), (0, .ref 89), (1, .int x1)]) (st' := []) (S1 := (SH ++ X)) (V1 := (si V 89 14 (0 : Int32))) rfl ?_
    exact rn_sub [1, 2, 0] rfl rfl (t_M_sign_20 (X := X) hd ai_N x1 (3 : Int32) (si V 89 14 (0 : Int32)) _ h)
  · refine rn_brF rfl rfl rfl rfl hc ?_
    refine rn_go 1 (pc' := 17) (l' := [(0, .ref 89), (1, .int x1)]) (st' := [.int (-1 : Int32)]) (S1 := (SH ++ X)) (V1 := (si V 89 14 (0 : Int32))) rfl ?_
    obtain rfl := Option.some.inj h
    exact rn_ret rfl rfl rfl
-- RentByTheWheelModel.in(III)Z (None, None, None)
def d_M_in (x0 : Int32) (x1 : Int32) (x2 : Int32) (V : ai_V) : Option Int32 :=
  if x0 < x1 then (some (0 : Int32)) else (if x2 < x0 then (some (0 : Int32)) else (some (1 : Int32)))
set_option maxRecDepth 20000 in
theorem t_M_in {X : ai_S} {e : Nat} (hd : 0 ≤ e) {x0 : Int32} {x1 : Int32} {x2 : Int32} {V : ai_V} {r : Int32} (h : d_M_in x0 x1 x2 V = some r) : Rn e 159 0 (lv_args 0 [.int x0, .int x1, .int x2]) [] (SH ++ X) V (some (.int r)) (SH ++ X) V := by
  rw [d_M_in] at h
  refine rn_go 2 (pc' := 2) (l' := [(0, .int x0), (1, .int x1), (2, .int x2)]) (st' := [.int x1, .int x0]) (S1 := (SH ++ X)) (V1 := V) rfl ?_
  rcases ai_if h with ⟨hc, h⟩ | ⟨hc, h⟩
  · refine rn_brT rfl rfl rfl rfl hc ?_
    refine rn_go 1 (pc' := 15) (l' := [(0, .int x0), (1, .int x1), (2, .int x2)]) (st' := [.int (0 : Int32)]) (S1 := (SH ++ X)) (V1 := V) rfl ?_
    obtain rfl := Option.some.inj h
    exact rg_zret rfl (by decide)
  · refine rn_brF rfl rfl rfl rfl hc ?_
    refine rn_go 2 (pc' := 7) (l' := [(0, .int x0), (1, .int x1), (2, .int x2)]) (st' := [.int x2, .int x0]) (S1 := (SH ++ X)) (V1 := V) rfl ?_
    rcases ai_if h with ⟨hc, h⟩ | ⟨hc, h⟩
    · refine rn_brT rfl rfl rfl rfl hc ?_
      refine rn_go 1 (pc' := 15) (l' := [(0, .int x0), (1, .int x1), (2, .int x2)]) (st' := [.int (0 : Int32)]) (S1 := (SH ++ X)) (V1 := V) rfl ?_
      obtain rfl := Option.some.inj h
      exact rg_zret rfl (by decide)
    · refine rn_brF rfl rfl rfl rfl hc ?_
      refine rn_go 2 (pc' := 15) (l' := [(0, .int x0), (1, .int x1), (2, .int x2)]) (st' := [.int (1 : Int32)]) (S1 := (SH ++ X)) (V1 := V) rfl ?_
      obtain rfl := Option.some.inj h
      exact rg_zret rfl (by decide)
-- RentByTheWheelModel.end(I)Z (89, None)
def d_M_end (x1 : Int32) (V : ai_V) : Option (Int32 × ai_V) :=
  (d_M_in x1 (0 : Int32) (gi (si V 89 14 (0 : Int32)) 89 11) (si V 89 14 (0 : Int32))).bind fun q1 => (if ¬ q1 = 0 then (some ((1 : Int32), (si (si V 89 14 (0 : Int32)) 89 11 x1))) else (some ((0 : Int32), (si V 89 14 (0 : Int32)))))
set_option maxRecDepth 20000 in
theorem t_M_end {X : ai_S} {e : Nat} (hd : 1 ≤ e) {x1 : Int32} {V : ai_V} {r : (Int32 × ai_V)} (h : d_M_end x1 V = some r) : Rn e 160 0 (lv_args 0 [.ref 89, .int x1]) [] (SH ++ X) V (some (.int r.1)) (SH ++ X) r.2 := by
  rw [d_M_end] at h
  refine rn_go 7 (pc' := 11) (l' := [(0, .ref 89), (1, .int x1)]) (st' := [.int (gi (si V 89 14 (0 : Int32)) 89 11), .int (0 : Int32), .int x1]) (S1 := (SH ++ X)) (V1 := (si V 89 14 (0 : Int32))) rfl ?_
  obtain ⟨q1, hq1, h⟩ := ai_bd h
  refine rn_call rfl rfl rfl rfl rfl rfl (by omega) (t_M_in (by omega) hq1) ?_
  rcases ai_if h with ⟨hc, h⟩ | ⟨hc, h⟩
  · refine rn_brT rfl rfl rfl rfl hc ?_
    refine rn_go 4 (pc' := 25) (l' := [(0, .ref 89), (1, .int x1)]) (st' := [.int (1 : Int32)]) (S1 := (SH ++ X)) (V1 := (si (si V 89 14 (0 : Int32)) 89 11 x1)) rfl ?_
    obtain rfl := Option.some.inj h
    exact rg_zret rfl (by decide)
  · refine rn_brF rfl rfl rfl rfl hc ?_
    refine rn_go 1 (pc' := 18) (l' := [(0, .ref 89), (1, .int x1)]) (st' := [.int (0 : Int32)]) (S1 := (SH ++ X)) (V1 := (si V 89 14 (0 : Int32))) rfl ?_
    obtain rfl := Option.some.inj h
    exact rg_zret rfl (by decide)
-- RentByTheWheelModel.fine()Z (89,)
def d_M_fine  (V : ai_V) : Option Int32 :=
  if ¬ (gi V 89 19) = (-1 : Int32) then (some (0 : Int32)) else (some (1 : Int32))
set_option maxRecDepth 20000 in
theorem t_M_fine {X : ai_S} {e : Nat} (hd : 0 ≤ e)  {V : ai_V} {r : Int32} (h : d_M_fine  V = some r) : Rn e 162 0 (lv_args 0 [.ref 89]) [] (SH ++ X) V (some (.int r)) (SH ++ X) V := by
  rw [d_M_fine] at h
  refine rn_go 3 (pc' := 5) (l' := [(0, .ref 89)]) (st' := [.int (-1 : Int32), .int (gi V 89 19)]) (S1 := (SH ++ X)) (V1 := V) rfl ?_
  rcases ai_if h with ⟨hc, h⟩ | ⟨hc, h⟩
  · refine rn_brT rfl rfl rfl rfl hc ?_
    refine rn_go 1 (pc' := 13) (l' := [(0, .ref 89)]) (st' := [.int (0 : Int32)]) (S1 := (SH ++ X)) (V1 := V) rfl ?_
    obtain rfl := Option.some.inj h
    exact rg_zret rfl (by decide)
  · refine rn_brF rfl rfl rfl rfl hc ?_
    refine rn_go 2 (pc' := 13) (l' := [(0, .ref 89)]) (st' := [.int (1 : Int32)]) (S1 := (SH ++ X)) (V1 := V) rfl ?_
    obtain rfl := Option.some.inj h
    exact rg_zret rfl (by decide)
-- RentByTheWheelModel.fault(I)V (89, None)
def d_M_fault (x1 : Int32) (V : ai_V) : Option ai_V :=
  (d_M_fine  V).bind fun q1 => (if q1 = 0 then (some V) else (some (si V 89 19 x1)))
set_option maxRecDepth 20000 in
theorem t_M_fault {X : ai_S} {e : Nat} (hd : 1 ≤ e) {x1 : Int32} {V : ai_V} {r : ai_V} (h : d_M_fault x1 V = some r) : Rn e 163 0 (lv_args 0 [.ref 89, .int x1]) [] (SH ++ X) V none (SH ++ X) r := by
  rw [d_M_fault] at h
  refine rn_go 1 (pc' := 1) (l' := [(0, .ref 89), (1, .int x1)]) (st' := [.ref 89]) (S1 := (SH ++ X)) (V1 := V) rfl ?_
  obtain ⟨q1, hq1, h⟩ := ai_bd h
  refine rn_call rfl rfl rfl rfl rfl rfl (by omega) (t_M_fine (by omega) hq1) ?_
  rcases ai_if h with ⟨hc, h⟩ | ⟨hc, h⟩
  · refine rn_brT rfl rfl rfl rfl hc ?_
    obtain rfl := Option.some.inj h
    exact rn_ret rfl rfl rfl
  · refine rn_brF rfl rfl rfl rfl hc ?_
    refine rn_go 3 (pc' := 12) (l' := [(0, .ref 89), (1, .int x1)]) (st' := []) (S1 := (SH ++ X)) (V1 := (si V 89 19 x1)) rfl ?_
    obtain rfl := Option.some.inj h
    exact rn_ret rfl rfl rfl
-- RentByTheWheelModel.here()I (89,)
def d_M_here  (V : ai_V) : Option Int32 :=
  if (gi V 89 16) ≤ (gi V 89 18) then (some (-1 : Int32)) else (if (gi V 89 17) ≤ (gi V 89 18) then (some (-1 : Int32)) else (if gr V 89 15 = some 96 then (if ai_in (gi V 89 18) 80 then (some ((ga V 96 ((gi V 89 18)).toNatClampNeg) &&& (255 : Int32))) else none) else (if gr V 89 15 = some 99 then (if ai_in (gi V 89 18) 40 then (some ((ga V 99 ((gi V 89 18)).toNatClampNeg) &&& (255 : Int32))) else none) else (none))))
set_option maxRecDepth 20000 in
theorem t_M_here {X : ai_S} {e : Nat} (hd : 0 ≤ e)  {V : ai_V} {r : Int32} (h : d_M_here  V = some r) : Rn e 164 0 (lv_args 0 [.ref 89]) [] (SH ++ X) V (some (.int r)) (SH ++ X) V := by
  rw [d_M_here] at h
  refine rn_go 4 (pc' := 8) (l' := [(0, .ref 89)]) (st' := [.int (gi V 89 16), .int (gi V 89 18)]) (S1 := (SH ++ X)) (V1 := V) rfl ?_
  rcases ai_if h with ⟨hc, h⟩ | ⟨hc, h⟩
  · refine rn_brT rfl rfl rfl rfl hc ?_
    refine rn_go 1 (pc' := 39) (l' := [(0, .ref 89)]) (st' := [.int (-1 : Int32)]) (S1 := (SH ++ X)) (V1 := V) rfl ?_
    obtain rfl := Option.some.inj h
    exact rn_ret rfl rfl rfl
  · refine rn_brF rfl rfl rfl rfl hc ?_
    refine rn_go 4 (pc' := 19) (l' := [(0, .ref 89)]) (st' := [.int (gi V 89 17), .int (gi V 89 18)]) (S1 := (SH ++ X)) (V1 := V) rfl ?_
    rcases ai_if h with ⟨hc, h⟩ | ⟨hc, h⟩
    · refine rn_brT rfl rfl rfl rfl hc ?_
      refine rn_go 1 (pc' := 39) (l' := [(0, .ref 89)]) (st' := [.int (-1 : Int32)]) (S1 := (SH ++ X)) (V1 := V) rfl ?_
      obtain rfl := Option.some.inj h
      exact rn_ret rfl rfl rfl
    · refine rn_brF rfl rfl rfl rfl hc ?_
      refine rn_go 1 (pc' := 23) (l' := [(0, .ref 89)]) (st' := [.ref 89]) (S1 := (SH ++ X)) (V1 := V) rfl ?_
      rcases ai_if h with ⟨hc, h⟩ | ⟨hc, h⟩
      · refine rg_gfr (z := 0) rfl rfl rfl hc ?_
        refine rn_go 2 (pc' := 30) (l' := [(0, .ref 89)]) (st' := [.int (gi V 89 18), .ref 96]) (S1 := (SH ++ X)) (V1 := V) rfl ?_
        obtain ⟨hg, h⟩ := ai_gd h
        refine rg_bald (n := 80) rfl rfl hg ?_
        refine rn_go 3 (pc' := 39) (l' := [(0, .ref 89)]) (st' := [.int ((ga V 96 ((gi V 89 18)).toNatClampNeg) &&& (255 : Int32))]) (S1 := (SH ++ X)) (V1 := V) rfl ?_
        obtain rfl := Option.some.inj h
        exact rn_ret rfl rfl rfl
      · rcases ai_if h with ⟨hc, h⟩ | ⟨hc, h⟩
        · refine rg_gfr (z := 0) rfl rfl rfl hc ?_
          refine rn_go 2 (pc' := 30) (l' := [(0, .ref 89)]) (st' := [.int (gi V 89 18), .ref 99]) (S1 := (SH ++ X)) (V1 := V) rfl ?_
          obtain ⟨hg, h⟩ := ai_gd h
          refine rg_bald (n := 40) rfl rfl hg ?_
          refine rn_go 3 (pc' := 39) (l' := [(0, .ref 89)]) (st' := [.int ((ga V 99 ((gi V 89 18)).toNatClampNeg) &&& (255 : Int32))]) (S1 := (SH ++ X)) (V1 := V) rfl ?_
          obtain rfl := Option.some.inj h
          exact rn_ret rfl rfl rfl
        · cases h
-- RentByTheWheelModel.digit(II)I (89, None, None)
def d_M_digit (x1 : Int32) (x2 : Int32) (V : ai_V) : Option (Int32 × ai_V) :=
  (d_M_fine  V).bind fun q1 => (if ¬ q1 = 0 then ((d_M_here  V).bind fun q2 => ((d_M_in q2 ((48 : Int32) + x1) ((48 : Int32) + x2) V).bind fun q3 => (if ¬ q3 = 0 then (if gr (si V 89 18 ((gi V 89 18) + (1 : Int32))) 89 15 = some 96 then (if ai_in ((gi (si V 89 18 ((gi V 89 18) + (1 : Int32))) 89 18) - (1 : Int32)) 80 then (some (((ga (si V 89 18 ((gi V 89 18) + (1 : Int32))) 96 (((gi (si V 89 18 ((gi V 89 18) + (1 : Int32))) 89 18) - (1 : Int32))).toNatClampNeg) - (48 : Int32)), (si V 89 18 ((gi V 89 18) + (1 : Int32))))) else none) else (if gr (si V 89 18 ((gi V 89 18) + (1 : Int32))) 89 15 = some 99 then (if ai_in ((gi (si V 89 18 ((gi V 89 18) + (1 : Int32))) 89 18) - (1 : Int32)) 40 then (some (((ga (si V 89 18 ((gi V 89 18) + (1 : Int32))) 99 (((gi (si V 89 18 ((gi V 89 18) + (1 : Int32))) 89 18) - (1 : Int32))).toNatClampNeg) - (48 : Int32)), (si V 89 18 ((gi V 89 18) + (1 : Int32))))) else none) else (none))) else ((d_M_fault (gi V 89 18) V).bind fun q4 => (some ((0 : Int32), q4)))))) else (some ((0 : Int32), V)))
set_option maxRecDepth 20000 in
theorem t_M_digit {X : ai_S} {e : Nat} (hd : 2 ≤ e) {x1 : Int32} {x2 : Int32} {V : ai_V} {r : (Int32 × ai_V)} (h : d_M_digit x1 x2 V = some r) : Rn e 165 0 (lv_args 0 [.ref 89, .int x1, .int x2]) [] (SH ++ X) V (some (.int r.1)) (SH ++ X) r.2 := by
  rw [d_M_digit] at h
  refine rn_go 1 (pc' := 1) (l' := [(0, .ref 89), (1, .int x1), (2, .int x2)]) (st' := [.ref 89]) (S1 := (SH ++ X)) (V1 := V) rfl ?_
  obtain ⟨q1, hq1, h⟩ := ai_bd h
  refine rn_call rfl rfl rfl rfl rfl rfl (by omega) (t_M_fine (by omega) hq1) ?_
  rcases ai_if h with ⟨hc, h⟩ | ⟨hc, h⟩
  · refine rn_brT rfl rfl rfl rfl hc ?_
    refine rn_go 1 (pc' := 10) (l' := [(0, .ref 89), (1, .int x1), (2, .int x2)]) (st' := [.ref 89]) (S1 := (SH ++ X)) (V1 := V) rfl ?_
    obtain ⟨q2, hq2, h⟩ := ai_bd h
    refine rn_call rfl rfl rfl rfl rfl rfl (by omega) (t_M_here (by omega) hq2) ?_
    refine rn_go 6 (pc' := 21) (l' := [(0, .ref 89), (1, .int x1), (2, .int x2)]) (st' := [.int ((48 : Int32) + x2), .int ((48 : Int32) + x1), .int q2]) (S1 := (SH ++ X)) (V1 := V) rfl ?_
    obtain ⟨q3, hq3, h⟩ := ai_bd h
    refine rn_call rfl rfl rfl rfl rfl rfl (by omega) (t_M_in (by omega) hq3) ?_
    rcases ai_if h with ⟨hc, h⟩ | ⟨hc, h⟩
    · refine rn_brT rfl rfl rfl rfl hc ?_
      refine rn_go 7 (pc' := 48) (l' := [(0, .ref 89), (1, .int x1), (2, .int x2)]) (st' := [.ref 89]) (S1 := (SH ++ X)) (V1 := (si V 89 18 ((gi V 89 18) + (1 : Int32)))) rfl ?_
      rcases ai_if h with ⟨hc, h⟩ | ⟨hc, h⟩
      · refine rg_gfr (z := 0) rfl rfl rfl hc ?_
        refine rn_go 4 (pc' := 57) (l' := [(0, .ref 89), (1, .int x1), (2, .int x2)]) (st' := [.int ((gi (si V 89 18 ((gi V 89 18) + (1 : Int32))) 89 18) - (1 : Int32)), .ref 96]) (S1 := (SH ++ X)) (V1 := (si V 89 18 ((gi V 89 18) + (1 : Int32)))) rfl ?_
        obtain ⟨hg, h⟩ := ai_gd h
        refine rg_bald (n := 80) rfl rfl hg ?_
        refine rn_go 2 (pc' := 61) (l' := [(0, .ref 89), (1, .int x1), (2, .int x2)]) (st' := [.int ((ga (si V 89 18 ((gi V 89 18) + (1 : Int32))) 96 (((gi (si V 89 18 ((gi V 89 18) + (1 : Int32))) 89 18) - (1 : Int32))).toNatClampNeg) - (48 : Int32))]) (S1 := (SH ++ X)) (V1 := (si V 89 18 ((gi V 89 18) + (1 : Int32)))) rfl ?_
        obtain rfl := Option.some.inj h
        exact rn_ret rfl rfl rfl
      · rcases ai_if h with ⟨hc, h⟩ | ⟨hc, h⟩
        · refine rg_gfr (z := 0) rfl rfl rfl hc ?_
          refine rn_go 4 (pc' := 57) (l' := [(0, .ref 89), (1, .int x1), (2, .int x2)]) (st' := [.int ((gi (si V 89 18 ((gi V 89 18) + (1 : Int32))) 89 18) - (1 : Int32)), .ref 99]) (S1 := (SH ++ X)) (V1 := (si V 89 18 ((gi V 89 18) + (1 : Int32)))) rfl ?_
          obtain ⟨hg, h⟩ := ai_gd h
          refine rg_bald (n := 40) rfl rfl hg ?_
          refine rn_go 2 (pc' := 61) (l' := [(0, .ref 89), (1, .int x1), (2, .int x2)]) (st' := [.int ((ga (si V 89 18 ((gi V 89 18) + (1 : Int32))) 99 (((gi (si V 89 18 ((gi V 89 18) + (1 : Int32))) 89 18) - (1 : Int32))).toNatClampNeg) - (48 : Int32))]) (S1 := (SH ++ X)) (V1 := (si V 89 18 ((gi V 89 18) + (1 : Int32)))) rfl ?_
          obtain rfl := Option.some.inj h
          exact rn_ret rfl rfl rfl
        · cases h
    · refine rn_brF rfl rfl rfl rfl hc ?_
      refine rn_go 3 (pc' := 32) (l' := [(0, .ref 89), (1, .int x1), (2, .int x2)]) (st' := [.int (gi V 89 18), .ref 89]) (S1 := (SH ++ X)) (V1 := V) rfl ?_
      obtain ⟨q4, hq4, h⟩ := ai_bd h
      refine rn_call rfl rfl rfl rfl rfl rfl (by omega) (t_M_fault (by omega) hq4) ?_
      refine rn_go 1 (pc' := 36) (l' := [(0, .ref 89), (1, .int x1), (2, .int x2)]) (st' := [.int (0 : Int32)]) (S1 := (SH ++ X)) (V1 := q4) rfl ?_
      obtain rfl := Option.some.inj h
      exact rn_ret rfl rfl rfl
  · refine rn_brF rfl rfl rfl rfl hc ?_
    refine rn_go 1 (pc' := 8) (l' := [(0, .ref 89), (1, .int x1), (2, .int x2)]) (st' := [.int (0 : Int32)]) (S1 := (SH ++ X)) (V1 := V) rfl ?_
    obtain rfl := Option.some.inj h
    exact rn_ret rfl rfl rfl
-- RentByTheWheelModel.passes(C)Z (89, None)
def d_M_passes (x1 : Int32) (V : ai_V) : Option (Int32 × ai_V) :=
  (d_M_fine  V).bind fun q1 => (if q1 = 0 then (some ((0 : Int32), V)) else ((d_M_here  V).bind fun q2 => (if q2 = x1 then (some ((1 : Int32), (si V 89 18 ((gi V 89 18) + (1 : Int32))))) else (some ((0 : Int32), V)))))
set_option maxRecDepth 20000 in
theorem t_M_passes {X : ai_S} {e : Nat} (hd : 1 ≤ e) {x1 : Int32} {V : ai_V} {r : (Int32 × ai_V)} (h : d_M_passes x1 V = some r) : Rn e 166 0 (lv_args 0 [.ref 89, .int x1]) [] (SH ++ X) V (some (.int r.1)) (SH ++ X) r.2 := by
  rw [d_M_passes] at h
  refine rn_go 1 (pc' := 1) (l' := [(0, .ref 89), (1, .int x1)]) (st' := [.ref 89]) (S1 := (SH ++ X)) (V1 := V) rfl ?_
  obtain ⟨q1, hq1, h⟩ := ai_bd h
  refine rn_call rfl rfl rfl rfl rfl rfl (by omega) (t_M_fine (by omega) hq1) ?_
  rcases ai_if h with ⟨hc, h⟩ | ⟨hc, h⟩
  · refine rn_brT rfl rfl rfl rfl hc ?_
    refine rn_go 1 (pc' := 16) (l' := [(0, .ref 89), (1, .int x1)]) (st' := [.int (0 : Int32)]) (S1 := (SH ++ X)) (V1 := V) rfl ?_
    obtain rfl := Option.some.inj h
    exact rg_zret rfl (by decide)
  · refine rn_brF rfl rfl rfl rfl hc ?_
    refine rn_go 1 (pc' := 8) (l' := [(0, .ref 89), (1, .int x1)]) (st' := [.ref 89]) (S1 := (SH ++ X)) (V1 := V) rfl ?_
    obtain ⟨q2, hq2, h⟩ := ai_bd h
    refine rn_call rfl rfl rfl rfl rfl rfl (by omega) (t_M_here (by omega) hq2) ?_
    refine rn_go 1 (pc' := 12) (l' := [(0, .ref 89), (1, .int x1)]) (st' := [.int x1, .int q2]) (S1 := (SH ++ X)) (V1 := V) rfl ?_
    rcases ai_if h with ⟨hc, h⟩ | ⟨hc, h⟩
    · refine rn_brT rfl rfl rfl rfl hc ?_
      refine rn_go 7 (pc' := 28) (l' := [(0, .ref 89), (1, .int x1)]) (st' := [.int (1 : Int32)]) (S1 := (SH ++ X)) (V1 := (si V 89 18 ((gi V 89 18) + (1 : Int32)))) rfl ?_
      obtain rfl := Option.some.inj h
      exact rg_zret rfl (by decide)
    · refine rn_brF rfl rfl rfl rfl hc ?_
      refine rn_go 1 (pc' := 16) (l' := [(0, .ref 89), (1, .int x1)]) (st' := [.int (0 : Int32)]) (S1 := (SH ++ X)) (V1 := V) rfl ?_
      obtain rfl := Option.some.inj h
      exact rg_zret rfl (by decide)
-- RentByTheWheelModel.need(C)V (89, None)
def d_M_need (x1 : Int32) (V : ai_V) : Option ai_V :=
  (d_M_passes x1 V).bind fun q1 => (if ¬ q1.1 = 0 then (some q1.2) else ((d_M_fault (gi q1.2 89 18) q1.2).bind fun q2 => (some q2)))
set_option maxRecDepth 20000 in
theorem t_M_need {X : ai_S} {e : Nat} (hd : 2 ≤ e) {x1 : Int32} {V : ai_V} {r : ai_V} (h : d_M_need x1 V = some r) : Rn e 167 0 (lv_args 0 [.ref 89, .int x1]) [] (SH ++ X) V none (SH ++ X) r := by
  rw [d_M_need] at h
  refine rn_go 2 (pc' := 2) (l' := [(0, .ref 89), (1, .int x1)]) (st' := [.int x1, .ref 89]) (S1 := (SH ++ X)) (V1 := V) rfl ?_
  obtain ⟨q1, hq1, h⟩ := ai_bd h
  refine rn_call rfl rfl rfl rfl rfl rfl (by omega) (t_M_passes (by omega) hq1) ?_
  rcases ai_if h with ⟨hc, h⟩ | ⟨hc, h⟩
  · refine rn_brT rfl rfl rfl rfl hc ?_
    obtain rfl := Option.some.inj h
    exact rn_ret rfl rfl rfl
  · refine rn_brF rfl rfl rfl rfl hc ?_
    refine rn_go 3 (pc' := 13) (l' := [(0, .ref 89), (1, .int x1)]) (st' := [.int (gi q1.2 89 18), .ref 89]) (S1 := (SH ++ X)) (V1 := q1.2) rfl ?_
    obtain ⟨q2, hq2, h⟩ := ai_bd h
    refine rn_call rfl rfl rfl rfl rfl rfl (by omega) (t_M_fault (by omega) hq2) ?_
    obtain rfl := Option.some.inj h
    exact rn_ret rfl rfl rfl
-- RentByTheWheelModel.readOne(I)V (89, None)
def d_M_readOne_133  (x1 : Int32) (x2 : Int32) (V : ai_V) : Option ai_V :=
  if ai_in (x1 + (3 : Int32)) 96 then (some (sa V 98 ((x1 + (3 : Int32))).toNatClampNeg x2)) else none
set_option maxRecDepth 20000 in
theorem t_M_readOne_133 {X : ai_S} {e : Nat} (hd : 3 ≤ e)  (x1 : Int32) (x2 : Int32) (V : ai_V) (r : ai_V) (h : d_M_readOne_133  x1 x2 V = some r) : Rn e 168 133 [(0, .ref 89), (1, .int x1), (2, .int x2)] [] (SH ++ X) V none (SH ++ X) r := by
  rw [d_M_readOne_133] at h
  refine rn_go 6 (pc' := 141) (l' := [(0, .ref 89), (1, .int x1), (2, .int x2)]) (st' := [.int x2, .int (x1 + (3 : Int32)), .ref 98]) (S1 := (SH ++ X)) (V1 := V) rfl ?_
  obtain ⟨hg, h⟩ := ai_gd h
  refine rg_iast (n := 96) rfl rfl hg ?_
  obtain rfl := Option.some.inj h
  exact rn_ret rfl rfl rfl
def d_M_readOne_121  (x1 : Int32) (x2 : Int32) (V : ai_V) : Option ai_V :=
  if ¬ x2 = 0 then (d_M_readOne_133 x1 x2 V) else ((d_M_fault (gi V 89 18) V).bind fun q1 => (d_M_readOne_133 x1 x2 q1))
set_option maxRecDepth 20000 in
theorem t_M_readOne_121 {X : ai_S} {e : Nat} (hd : 3 ≤ e)  (x1 : Int32) (x2 : Int32) (V : ai_V) (r : ai_V) (h : d_M_readOne_121  x1 x2 V = some r) : Rn e 168 121 [(0, .ref 89), (1, .int x1), (2, .int x2)] [] (SH ++ X) V none (SH ++ X) r := by
  rw [d_M_readOne_121] at h
  refine rn_go 1 (pc' := 122) (l' := [(0, .ref 89), (1, .int x1), (2, .int x2)]) (st' := [.int x2]) (S1 := (SH ++ X)) (V1 := V) rfl ?_
  rcases ai_if h with ⟨hc, h⟩ | ⟨hc, h⟩
  · refine rn_brT rfl rfl rfl rfl hc ?_
    exact rn_sub [0, 1, 2] rfl rfl (t_M_readOne_133 (X := X) hd x1 x2 V _ h)
  · refine rn_brF rfl rfl rfl rfl hc ?_
    refine rn_go 3 (pc' := 130) (l' := [(0, .ref 89), (1, .int x1), (2, .int x2)]) (st' := [.int (gi V 89 18), .ref 89]) (S1 := (SH ++ X)) (V1 := V) rfl ?_
    obtain ⟨q1, hq1, h⟩ := ai_bd h
    refine rn_call rfl rfl rfl rfl rfl rfl (by omega) (t_M_fault (by omega) hq1) ?_
    exact rn_sub [0, 1, 2] rfl rfl (t_M_readOne_133 (X := X) hd x1 x2 q1 _ h)
def d_M_readOne_50  : Nat → Int32 → Int32 → ai_V → Option ai_V
  | 0, _, _, _ => none
  | n + 1, x1, x2, V => (d_M_fine  V).bind fun q2 => (if q2 = 0 then (d_M_readOne_121 x1 x2 V) else ((d_M_here  V).bind fun q3 => ((d_M_in q3 (48 : Int32) (57 : Int32) V).bind fun q4 => (if q4 = 0 then (d_M_readOne_121 x1 x2 V) else (if ¬ x2 = (12 : Int32) then ((d_M_here  V).bind fun q5 => (if ai_in ((x1 + (4 : Int32)) + x2) 96 then (d_M_readOne_50 n x1 (x2 + (1 : Int32)) (si (sa V 98 (((x1 + (4 : Int32)) + x2)).toNatClampNeg (q5 - (48 : Int32))) 89 18 ((gi (sa V 98 (((x1 + (4 : Int32)) + x2)).toNatClampNeg (q5 - (48 : Int32))) 89 18) + (1 : Int32)))) else none)) else ((d_M_fault (gi V 89 18) V).bind fun q6 => (d_M_readOne_50 n x1 x2 q6)))))))
set_option maxRecDepth 20000 in
theorem t_M_readOne_50 {X : ai_S} {e : Nat} (hd : 3 ≤ e)  : ∀ (n : Nat) (x1 : Int32) (x2 : Int32) (V : ai_V) (r : ai_V), d_M_readOne_50  n x1 x2 V = some r → Rn e 168 50 [(0, .ref 89), (1, .int x1), (2, .int x2)] [] (SH ++ X) V none (SH ++ X) r := by
  intro n
  induction n with
  | zero =>
    intro x1 x2 V r h
    cases h
  | succ n ih =>
    intro x1 x2 V r h
    rw [d_M_readOne_50] at h
    refine rn_go 1 (pc' := 51) (l' := [(0, .ref 89), (1, .int x1), (2, .int x2)]) (st' := [.ref 89]) (S1 := (SH ++ X)) (V1 := V) rfl ?_
    obtain ⟨q2, hq2, h⟩ := ai_bd h
    refine rn_call rfl rfl rfl rfl rfl rfl (by omega) (t_M_fine (by omega) hq2) ?_
    rcases ai_if h with ⟨hc, h⟩ | ⟨hc, h⟩
    · refine rn_brT rfl rfl rfl rfl hc ?_
      exact rn_sub [0, 1, 2] rfl rfl (t_M_readOne_121 (X := X) hd x1 x2 V _ h)
    · refine rn_brF rfl rfl rfl rfl hc ?_
      refine rn_go 1 (pc' := 58) (l' := [(0, .ref 89), (1, .int x1), (2, .int x2)]) (st' := [.ref 89]) (S1 := (SH ++ X)) (V1 := V) rfl ?_
      obtain ⟨q3, hq3, h⟩ := ai_bd h
      refine rn_call rfl rfl rfl rfl rfl rfl (by omega) (t_M_here (by omega) hq3) ?_
      refine rn_go 2 (pc' := 65) (l' := [(0, .ref 89), (1, .int x1), (2, .int x2)]) (st' := [.int (57 : Int32), .int (48 : Int32), .int q3]) (S1 := (SH ++ X)) (V1 := V) rfl ?_
      obtain ⟨q4, hq4, h⟩ := ai_bd h
      refine rn_call rfl rfl rfl rfl rfl rfl (by omega) (t_M_in (by omega) hq4) ?_
      rcases ai_if h with ⟨hc, h⟩ | ⟨hc, h⟩
      · refine rn_brT rfl rfl rfl rfl hc ?_
        exact rn_sub [0, 1, 2] rfl rfl (t_M_readOne_121 (X := X) hd x1 x2 V _ h)
      · refine rn_brF rfl rfl rfl rfl hc ?_
        refine rn_go 2 (pc' := 74) (l' := [(0, .ref 89), (1, .int x1), (2, .int x2)]) (st' := [.int (12 : Int32), .int x2]) (S1 := (SH ++ X)) (V1 := V) rfl ?_
        rcases ai_if h with ⟨hc, h⟩ | ⟨hc, h⟩
        · refine rn_brT rfl rfl rfl rfl hc ?_
          refine rn_go 8 (pc' := 98) (l' := [(0, .ref 89), (1, .int x1), (2, .int x2)]) (st' := [.ref 89, .int ((x1 + (4 : Int32)) + x2), .ref 98]) (S1 := (SH ++ X)) (V1 := V) rfl ?_
          obtain ⟨q5, hq5, h⟩ := ai_bd h
          refine rn_call rfl rfl rfl rfl rfl rfl (by omega) (t_M_here (by omega) hq5) ?_
          refine rn_go 2 (pc' := 104) (l' := [(0, .ref 89), (1, .int x1), (2, .int x2)]) (st' := [.int (q5 - (48 : Int32)), .int ((x1 + (4 : Int32)) + x2), .ref 98]) (S1 := (SH ++ X)) (V1 := V) rfl ?_
          obtain ⟨hg, h⟩ := ai_gd h
          refine rg_iast (n := 96) rfl rfl hg ?_
          refine rn_go 8 (pc' := 50) (l' := [(2, .int (x2 + (1 : Int32))), (0, .ref 89), (1, .int x1)]) (st' := []) (S1 := (SH ++ X)) (V1 := (si (sa V 98 (((x1 + (4 : Int32)) + x2)).toNatClampNeg (q5 - (48 : Int32))) 89 18 ((gi (sa V 98 (((x1 + (4 : Int32)) + x2)).toNatClampNeg (q5 - (48 : Int32))) 89 18) + (1 : Int32)))) rfl ?_
          exact rn_sub [1, 2, 0] rfl rfl (ih x1 (x2 + (1 : Int32)) (si (sa V 98 (((x1 + (4 : Int32)) + x2)).toNatClampNeg (q5 - (48 : Int32))) 89 18 ((gi (sa V 98 (((x1 + (4 : Int32)) + x2)).toNatClampNeg (q5 - (48 : Int32))) 89 18) + (1 : Int32))) _ h)
        · refine rn_brF rfl rfl rfl rfl hc ?_
          refine rn_go 3 (pc' := 82) (l' := [(0, .ref 89), (1, .int x1), (2, .int x2)]) (st' := [.int (gi V 89 18), .ref 89]) (S1 := (SH ++ X)) (V1 := V) rfl ?_
          obtain ⟨q6, hq6, h⟩ := ai_bd h
          refine rn_call rfl rfl rfl rfl rfl rfl (by omega) (t_M_fault (by omega) hq6) ?_
          refine rn_go 1 (pc' := 50) (l' := [(0, .ref 89), (1, .int x1), (2, .int x2)]) (st' := []) (S1 := (SH ++ X)) (V1 := q6) rfl ?_
          exact rn_sub [0, 1, 2] rfl rfl (ih x1 x2 q6 _ h)
def d_M_readOne (x1 : Int32) (V : ai_V) : Option ai_V :=
  (d_M_digit (0 : Int32) (5 : Int32) V).bind fun q7 => (if ai_in x1 96 then ((d_M_digit (1 : Int32) (9 : Int32) (sa q7.2 98 (x1).toNatClampNeg q7.1)).bind fun q8 => (if ai_in (x1 + (1 : Int32)) 96 then ((d_M_digit (1 : Int32) (9 : Int32) (sa q8.2 98 ((x1 + (1 : Int32))).toNatClampNeg q8.1)).bind fun q9 => (if ai_in (x1 + (2 : Int32)) 96 then ((d_M_need (58 : Int32) (sa q9.2 98 ((x1 + (2 : Int32))).toNatClampNeg q9.1)).bind fun q10 => (d_M_readOne_50 ai_N x1 (0 : Int32) q10)) else none)) else none)) else none)
set_option maxRecDepth 20000 in
theorem t_M_readOne {X : ai_S} {e : Nat} (hd : 3 ≤ e) {x1 : Int32} {V : ai_V} {r : ai_V} (h : d_M_readOne x1 V = some r) : Rn e 168 0 (lv_args 0 [.ref 89, .int x1]) [] (SH ++ X) V none (SH ++ X) r := by
  rw [d_M_readOne] at h
  refine rn_go 6 (pc' := 8) (l' := [(0, .ref 89), (1, .int x1)]) (st' := [.int (5 : Int32), .int (0 : Int32), .ref 89, .int x1, .ref 98]) (S1 := (SH ++ X)) (V1 := V) rfl ?_
  obtain ⟨q7, hq7, h⟩ := ai_bd h
  refine rn_call rfl rfl rfl rfl rfl rfl (by omega) (t_M_digit (by omega) hq7) ?_
  obtain ⟨hg, h⟩ := ai_gd h
  refine rg_iast (n := 96) rfl rfl hg ?_
  refine rn_go 8 (pc' := 23) (l' := [(0, .ref 89), (1, .int x1)]) (st' := [.int (9 : Int32), .int (1 : Int32), .ref 89, .int (x1 + (1 : Int32)), .ref 98]) (S1 := (SH ++ X)) (V1 := (sa q7.2 98 (x1).toNatClampNeg q7.1)) rfl ?_
  obtain ⟨q8, hq8, h⟩ := ai_bd h
  refine rn_call rfl rfl rfl rfl rfl rfl (by omega) (t_M_digit (by omega) hq8) ?_
  obtain ⟨hg, h⟩ := ai_gd h
  refine rg_iast (n := 96) rfl rfl hg ?_
  refine rn_go 8 (pc' := 38) (l' := [(0, .ref 89), (1, .int x1)]) (st' := [.int (9 : Int32), .int (1 : Int32), .ref 89, .int (x1 + (2 : Int32)), .ref 98]) (S1 := (SH ++ X)) (V1 := (sa q8.2 98 ((x1 + (1 : Int32))).toNatClampNeg q8.1)) rfl ?_
  obtain ⟨q9, hq9, h⟩ := ai_bd h
  refine rn_call rfl rfl rfl rfl rfl rfl (by omega) (t_M_digit (by omega) hq9) ?_
  obtain ⟨hg, h⟩ := ai_gd h
  refine rg_iast (n := 96) rfl rfl hg ?_
  refine rn_go 2 (pc' := 45) (l' := [(0, .ref 89), (1, .int x1)]) (st' := [.int (58 : Int32), .ref 89]) (S1 := (SH ++ X)) (V1 := (sa q9.2 98 ((x1 + (2 : Int32))).toNatClampNeg q9.1)) rfl ?_
  obtain ⟨q10, hq10, h⟩ := ai_bd h
  refine rn_call rfl rfl rfl rfl rfl rfl (by omega) (t_M_need (by omega) hq10) ?_
  refine rn_go 2 (pc' := 50) (l' := [(2, .int (0 : Int32)), (0, .ref 89), (1, .int x1)]) (st' := []) (S1 := (SH ++ X)) (V1 := q10) rfl ?_
  exact rn_sub [1, 2, 0] rfl rfl (t_M_readOne_50 (X := X) hd ai_N x1 (0 : Int32) q10 _ h)
-- RentByTheWheelModel.begin([BII)V (89, 96, None, None)
def d_M_begin (x2 : Int32) (x3 : Int32) (V : ai_V) : Option ai_V :=
  some (si (si (si (si (sr V 89 15 (some 96)) 89 16 x2) 89 17 x3) 89 18 (0 : Int32)) 89 19 (-1 : Int32))
set_option maxRecDepth 20000 in
theorem t_M_begin {X : ai_S} {e : Nat} (hd : 0 ≤ e) {x2 : Int32} {x3 : Int32} {V : ai_V} {r : ai_V} (h : d_M_begin x2 x3 V = some r) : Rn e 161 0 (lv_args 0 [.ref 89, .ref 96, .int x2, .int x3]) [] (SH ++ X) V none (SH ++ X) r := by
  rw [d_M_begin] at h
  refine rn_go 15 (pc' := 25) (l' := [(0, .ref 89), (1, .ref 96), (2, .int x2), (3, .int x3)]) (st' := []) (S1 := (SH ++ X)) (V1 := (si (si (si (si (sr V 89 15 (some 96)) 89 16 x2) 89 17 x3) 89 18 (0 : Int32)) 89 19 (-1 : Int32))) rfl ?_
  obtain rfl := Option.some.inj h
  exact rn_ret rfl rfl rfl
-- RentByTheWheelModel.house()I (89,)
def d_M_house_210 (F126 : Int32 → Int32 → ai_V → Option (Int32 × ai_V)) : Nat → Int32 → Int32 → Int32 → Int32 → ai_V → Option (Int32 × ai_V)
  | 0, _, _, _, _, _ => none
  | n + 1, x1, x3, x4, x5, V => if ai_in (x4 + (3 : Int32)) 96 then (if (ga V 98 ((x4 + (3 : Int32))).toNatClampNeg) ≤ x5 then (if ai_in (gi V 89 1) 14 then (if ai_in ((6 : Int32) + (gi (sa V 90 ((gi V 89 1)).toNatClampNeg (0 : Int32)) 89 1)) 14 then (F126 x1 (x3 + (1 : Int32)) (si (sa (sa V 90 ((gi V 89 1)).toNatClampNeg (0 : Int32)) 90 (((6 : Int32) + (gi (sa V 90 ((gi V 89 1)).toNatClampNeg (0 : Int32)) 89 1))).toNatClampNeg (0 : Int32)) 89 1 ((gi (sa (sa V 90 ((gi V 89 1)).toNatClampNeg (0 : Int32)) 90 (((6 : Int32) + (gi (sa V 90 ((gi V 89 1)).toNatClampNeg (0 : Int32)) 89 1))).toNatClampNeg (0 : Int32)) 89 1) + (1 : Int32)))) else none) else none) else (if ai_in ((x4 + (4 : Int32)) + x5) 96 then (if ai_in (((12 : Int32) * (gi V 89 1)) + x5) 72 then (d_M_house_210 F126 n x1 x3 x4 (x5 + (1 : Int32)) (sa V 94 ((((12 : Int32) * (gi V 89 1)) + x5)).toNatClampNeg (ga V 98 (((x4 + (4 : Int32)) + x5)).toNatClampNeg))) else none) else none)) else none
set_option maxRecDepth 20000 in
theorem t_M_house_210 {X : ai_S} {e : Nat} (hd : 4 ≤ e) (F126 : Int32 → Int32 → ai_V → Option (Int32 × ai_V)) (hF126 : ∀ (x1 : Int32) (x3 : Int32) (V : ai_V) (r : (Int32 × ai_V)), F126 x1 x3 V = some r → Rn e 169 126 [(0, .ref 89), (1, .int x1), (3, .int x3)] [] (SH ++ X) V (some (.int r.1)) (SH ++ X) r.2) : ∀ (n : Nat) (x1 : Int32) (x3 : Int32) (x4 : Int32) (x5 : Int32) (V : ai_V) (r : (Int32 × ai_V)), d_M_house_210 F126 n x1 x3 x4 x5 V = some r → Rn e 169 210 [(0, .ref 89), (1, .int x1), (3, .int x3), (4, .int x4), (5, .int x5)] [] (SH ++ X) V (some (.int r.1)) (SH ++ X) r.2 := by
  intro n
  induction n with
  | zero =>
    intro x1 x3 x4 x5 V r h
    cases h
  | succ n ih =>
    intro x1 x3 x4 x5 V r h
    rw [d_M_house_210] at h
    refine rn_go 6 (pc' := 220) (l' := [(0, .ref 89), (1, .int x1), (3, .int x3), (4, .int x4), (5, .int x5)]) (st' := [.int (x4 + (3 : Int32)), .ref 98, .int x5]) (S1 := (SH ++ X)) (V1 := V) rfl ?_
    obtain ⟨hg, h⟩ := ai_gd h
    refine rg_iald (n := 96) rfl rfl hg ?_
    rcases ai_if h with ⟨hc, h⟩ | ⟨hc, h⟩
    · refine rn_brT rfl rfl rfl rfl hc ?_
      refine rn_go 5 (pc' := 266) (l' := [(0, .ref 89), (1, .int x1), (3, .int x3), (4, .int x4), (5, .int x5)]) (st' := [.int (0 : Int32), .int (gi V 89 1), .ref 90]) (S1 := (SH ++ X)) (V1 := V) rfl ?_
      obtain ⟨hg, h⟩ := ai_gd h
      refine rg_iast (n := 14) rfl rfl hg ?_
      refine rn_go 7 (pc' := 279) (l' := [(0, .ref 89), (1, .int x1), (3, .int x3), (4, .int x4), (5, .int x5)]) (st' := [.int (0 : Int32), .int ((6 : Int32) + (gi (sa V 90 ((gi V 89 1)).toNatClampNeg (0 : Int32)) 89 1)), .ref 90]) (S1 := (SH ++ X)) (V1 := (sa V 90 ((gi V 89 1)).toNatClampNeg (0 : Int32))) rfl ?_
      obtain ⟨hg, h⟩ := ai_gd h
      refine rg_iast (n := 14) rfl rfl hg ?_
      refine rn_go 8 (pc' := 126) (l' := [(3, .int (x3 + (1 : Int32))), (0, .ref 89), (1, .int x1), (4, .int x4), (5, .int x5)]) (st' := []) (S1 := (SH ++ X)) (V1 := (si (sa (sa V 90 ((gi V 89 1)).toNatClampNeg (0 : Int32)) 90 (((6 : Int32) + (gi (sa V 90 ((gi V 89 1)).toNatClampNeg (0 : Int32)) 89 1))).toNatClampNeg (0 : Int32)) 89 1 ((gi (sa (sa V 90 ((gi V 89 1)).toNatClampNeg (0 : Int32)) 90 (((6 : Int32) + (gi (sa V 90 ((gi V 89 1)).toNatClampNeg (0 : Int32)) 89 1))).toNatClampNeg (0 : Int32)) 89 1) + (1 : Int32)))) rfl ?_
      exact rn_sub [1, 2, 0] rfl rfl (hF126 x1 (x3 + (1 : Int32)) (si (sa (sa V 90 ((gi V 89 1)).toNatClampNeg (0 : Int32)) 90 (((6 : Int32) + (gi (sa V 90 ((gi V 89 1)).toNatClampNeg (0 : Int32)) 89 1))).toNatClampNeg (0 : Int32)) 89 1 ((gi (sa (sa V 90 ((gi V 89 1)).toNatClampNeg (0 : Int32)) 90 (((6 : Int32) + (gi (sa V 90 ((gi V 89 1)).toNatClampNeg (0 : Int32)) 89 1))).toNatClampNeg (0 : Int32)) 89 1) + (1 : Int32))) _ h)
    · refine rn_brF rfl rfl rfl rfl hc ?_
      refine rn_go 15 (pc' := 249) (l' := [(0, .ref 89), (1, .int x1), (3, .int x3), (4, .int x4), (5, .int x5)]) (st' := [.int ((x4 + (4 : Int32)) + x5), .ref 98, .int (((12 : Int32) * (gi V 89 1)) + x5), .ref 94]) (S1 := (SH ++ X)) (V1 := V) rfl ?_
      obtain ⟨hg, h⟩ := ai_gd h
      refine rg_iald (n := 96) rfl rfl hg ?_
      obtain ⟨hg, h⟩ := ai_gd h
      refine rg_iast (n := 72) rfl rfl hg ?_
      refine rn_go 2 (pc' := 210) (l' := [(5, .int (x5 + (1 : Int32))), (0, .ref 89), (1, .int x1), (3, .int x3), (4, .int x4)]) (st' := []) (S1 := (SH ++ X)) (V1 := (sa V 94 ((((12 : Int32) * (gi V 89 1)) + x5)).toNatClampNeg (ga V 98 (((x4 + (4 : Int32)) + x5)).toNatClampNeg))) rfl ?_
      exact rn_sub [1, 2, 3, 4, 0] rfl rfl (ih x1 x3 x4 (x5 + (1 : Int32)) (sa V 94 ((((12 : Int32) * (gi V 89 1)) + x5)).toNatClampNeg (ga V 98 (((x4 + (4 : Int32)) + x5)).toNatClampNeg)) _ h)
def d_M_house_126  : Nat → Int32 → Int32 → ai_V → Option (Int32 × ai_V)
  | 0, _, _, _ => none
  | n + 1, x1, x3, V => if x1 ≤ x3 then (some (x1, (si (si V 89 35 (0 : Int32)) 89 58 ((gi (si V 89 35 (0 : Int32)) 89 58) + (1 : Int32))))) else (if ai_in ((16 : Int32) * x3) 96 then (if ai_in (gi V 89 1) 6 then (if ai_in (((16 : Int32) * x3) + (1 : Int32)) 96 then (if ai_in (gi (sa V 91 ((gi V 89 1)).toNatClampNeg (ga V 98 (((16 : Int32) * x3)).toNatClampNeg)) 89 1) 6 then (if ai_in (((16 : Int32) * x3) + (2 : Int32)) 96 then (if ai_in (gi (sa (sa V 91 ((gi V 89 1)).toNatClampNeg (ga V 98 (((16 : Int32) * x3)).toNatClampNeg)) 92 ((gi (sa V 91 ((gi V 89 1)).toNatClampNeg (ga V 98 (((16 : Int32) * x3)).toNatClampNeg)) 89 1)).toNatClampNeg (ga (sa V 91 ((gi V 89 1)).toNatClampNeg (ga V 98 (((16 : Int32) * x3)).toNatClampNeg)) 98 ((((16 : Int32) * x3) + (1 : Int32))).toNatClampNeg)) 89 1) 6 then (if ai_in (((16 : Int32) * x3) + (3 : Int32)) 96 then (if ai_in (gi (sa (sa (sa V 91 ((gi V 89 1)).toNatClampNeg (ga V 98 (((16 : Int32) * x3)).toNatClampNeg)) 92 ((gi (sa V 91 ((gi V 89 1)).toNatClampNeg (ga V 98 (((16 : Int32) * x3)).toNatClampNeg)) 89 1)).toNatClampNeg (ga (sa V 91 ((gi V 89 1)).toNatClampNeg (ga V 98 (((16 : Int32) * x3)).toNatClampNeg)) 98 ((((16 : Int32) * x3) + (1 : Int32))).toNatClampNeg)) 93 ((gi (sa (sa V 91 ((gi V 89 1)).toNatClampNeg (ga V 98 (((16 : Int32) * x3)).toNatClampNeg)) 92 ((gi (sa V 91 ((gi V 89 1)).toNatClampNeg (ga V 98 (((16 : Int32) * x3)).toNatClampNeg)) 89 1)).toNatClampNeg (ga (sa V 91 ((gi V 89 1)).toNatClampNeg (ga V 98 (((16 : Int32) * x3)).toNatClampNeg)) 98 ((((16 : Int32) * x3) + (1 : Int32))).toNatClampNeg)) 89 1)).toNatClampNeg (ga (sa (sa V 91 ((gi V 89 1)).toNatClampNeg (ga V 98 (((16 : Int32) * x3)).toNatClampNeg)) 92 ((gi (sa V 91 ((gi V 89 1)).toNatClampNeg (ga V 98 (((16 : Int32) * x3)).toNatClampNeg)) 89 1)).toNatClampNeg (ga (sa V 91 ((gi V 89 1)).toNatClampNeg (ga V 98 (((16 : Int32) * x3)).toNatClampNeg)) 98 ((((16 : Int32) * x3) + (1 : Int32))).toNatClampNeg)) 98 ((((16 : Int32) * x3) + (2 : Int32))).toNatClampNeg)) 89 1) 6 then (d_M_house_210 (d_M_house_126 n) ai_N x1 x3 ((16 : Int32) * x3) (0 : Int32) (sa (sa (sa (sa V 91 ((gi V 89 1)).toNatClampNeg (ga V 98 (((16 : Int32) * x3)).toNatClampNeg)) 92 ((gi (sa V 91 ((gi V 89 1)).toNatClampNeg (ga V 98 (((16 : Int32) * x3)).toNatClampNeg)) 89 1)).toNatClampNeg (ga (sa V 91 ((gi V 89 1)).toNatClampNeg (ga V 98 (((16 : Int32) * x3)).toNatClampNeg)) 98 ((((16 : Int32) * x3) + (1 : Int32))).toNatClampNeg)) 93 ((gi (sa (sa V 91 ((gi V 89 1)).toNatClampNeg (ga V 98 (((16 : Int32) * x3)).toNatClampNeg)) 92 ((gi (sa V 91 ((gi V 89 1)).toNatClampNeg (ga V 98 (((16 : Int32) * x3)).toNatClampNeg)) 89 1)).toNatClampNeg (ga (sa V 91 ((gi V 89 1)).toNatClampNeg (ga V 98 (((16 : Int32) * x3)).toNatClampNeg)) 98 ((((16 : Int32) * x3) + (1 : Int32))).toNatClampNeg)) 89 1)).toNatClampNeg (ga (sa (sa V 91 ((gi V 89 1)).toNatClampNeg (ga V 98 (((16 : Int32) * x3)).toNatClampNeg)) 92 ((gi (sa V 91 ((gi V 89 1)).toNatClampNeg (ga V 98 (((16 : Int32) * x3)).toNatClampNeg)) 89 1)).toNatClampNeg (ga (sa V 91 ((gi V 89 1)).toNatClampNeg (ga V 98 (((16 : Int32) * x3)).toNatClampNeg)) 98 ((((16 : Int32) * x3) + (1 : Int32))).toNatClampNeg)) 98 ((((16 : Int32) * x3) + (2 : Int32))).toNatClampNeg)) 95 ((gi (sa (sa (sa V 91 ((gi V 89 1)).toNatClampNeg (ga V 98 (((16 : Int32) * x3)).toNatClampNeg)) 92 ((gi (sa V 91 ((gi V 89 1)).toNatClampNeg (ga V 98 (((16 : Int32) * x3)).toNatClampNeg)) 89 1)).toNatClampNeg (ga (sa V 91 ((gi V 89 1)).toNatClampNeg (ga V 98 (((16 : Int32) * x3)).toNatClampNeg)) 98 ((((16 : Int32) * x3) + (1 : Int32))).toNatClampNeg)) 93 ((gi (sa (sa V 91 ((gi V 89 1)).toNatClampNeg (ga V 98 (((16 : Int32) * x3)).toNatClampNeg)) 92 ((gi (sa V 91 ((gi V 89 1)).toNatClampNeg (ga V 98 (((16 : Int32) * x3)).toNatClampNeg)) 89 1)).toNatClampNeg (ga (sa V 91 ((gi V 89 1)).toNatClampNeg (ga V 98 (((16 : Int32) * x3)).toNatClampNeg)) 98 ((((16 : Int32) * x3) + (1 : Int32))).toNatClampNeg)) 89 1)).toNatClampNeg (ga (sa (sa V 91 ((gi V 89 1)).toNatClampNeg (ga V 98 (((16 : Int32) * x3)).toNatClampNeg)) 92 ((gi (sa V 91 ((gi V 89 1)).toNatClampNeg (ga V 98 (((16 : Int32) * x3)).toNatClampNeg)) 89 1)).toNatClampNeg (ga (sa V 91 ((gi V 89 1)).toNatClampNeg (ga V 98 (((16 : Int32) * x3)).toNatClampNeg)) 98 ((((16 : Int32) * x3) + (1 : Int32))).toNatClampNeg)) 98 ((((16 : Int32) * x3) + (2 : Int32))).toNatClampNeg)) 89 1)).toNatClampNeg (ga (sa (sa (sa V 91 ((gi V 89 1)).toNatClampNeg (ga V 98 (((16 : Int32) * x3)).toNatClampNeg)) 92 ((gi (sa V 91 ((gi V 89 1)).toNatClampNeg (ga V 98 (((16 : Int32) * x3)).toNatClampNeg)) 89 1)).toNatClampNeg (ga (sa V 91 ((gi V 89 1)).toNatClampNeg (ga V 98 (((16 : Int32) * x3)).toNatClampNeg)) 98 ((((16 : Int32) * x3) + (1 : Int32))).toNatClampNeg)) 93 ((gi (sa (sa V 91 ((gi V 89 1)).toNatClampNeg (ga V 98 (((16 : Int32) * x3)).toNatClampNeg)) 92 ((gi (sa V 91 ((gi V 89 1)).toNatClampNeg (ga V 98 (((16 : Int32) * x3)).toNatClampNeg)) 89 1)).toNatClampNeg (ga (sa V 91 ((gi V 89 1)).toNatClampNeg (ga V 98 (((16 : Int32) * x3)).toNatClampNeg)) 98 ((((16 : Int32) * x3) + (1 : Int32))).toNatClampNeg)) 89 1)).toNatClampNeg (ga (sa (sa V 91 ((gi V 89 1)).toNatClampNeg (ga V 98 (((16 : Int32) * x3)).toNatClampNeg)) 92 ((gi (sa V 91 ((gi V 89 1)).toNatClampNeg (ga V 98 (((16 : Int32) * x3)).toNatClampNeg)) 89 1)).toNatClampNeg (ga (sa V 91 ((gi V 89 1)).toNatClampNeg (ga V 98 (((16 : Int32) * x3)).toNatClampNeg)) 98 ((((16 : Int32) * x3) + (1 : Int32))).toNatClampNeg)) 98 ((((16 : Int32) * x3) + (2 : Int32))).toNatClampNeg)) 98 ((((16 : Int32) * x3) + (3 : Int32))).toNatClampNeg))) else none) else none) else none) else none) else none) else none) else none) else none)
set_option maxRecDepth 20000 in
theorem t_M_house_126 {X : ai_S} {e : Nat} (hd : 4 ≤ e)  : ∀ (n : Nat) (x1 : Int32) (x3 : Int32) (V : ai_V) (r : (Int32 × ai_V)), d_M_house_126  n x1 x3 V = some r → Rn e 169 126 [(0, .ref 89), (1, .int x1), (3, .int x3)] [] (SH ++ X) V (some (.int r.1)) (SH ++ X) r.2 := by
  intro n
  induction n with
  | zero =>
    intro x1 x3 V r h
    cases h
  | succ n ih =>
    intro x1 x3 V r h
    rw [d_M_house_126] at h
    refine rn_go 2 (pc' := 128) (l' := [(0, .ref 89), (1, .int x1), (3, .int x3)]) (st' := [.int x1, .int x3]) (S1 := (SH ++ X)) (V1 := V) rfl ?_
    rcases ai_if h with ⟨hc, h⟩ | ⟨hc, h⟩
    · refine rn_brT rfl rfl rfl rfl hc ?_
      refine rn_go 10 (pc' := 312) (l' := [(0, .ref 89), (1, .int x1), (3, .int x3)]) (st' := [.int x1]) (S1 := (SH ++ X)) (V1 := (si (si V 89 35 (0 : Int32)) 89 58 ((gi (si V 89 35 (0 : Int32)) 89 58) + (1 : Int32)))) rfl ?_
      obtain rfl := Option.some.inj h
      exact rn_ret rfl rfl rfl
    · refine rn_brF rfl rfl rfl rfl hc ?_
      refine rn_go 11 (pc' := 151) (l' := [(4, .int ((16 : Int32) * x3)), (0, .ref 89), (1, .int x1), (3, .int x3)]) (st' := [.int ((16 : Int32) * x3), .ref 98, .int (gi V 89 1), .ref 91]) (S1 := (SH ++ X)) (V1 := V) rfl ?_
      obtain ⟨hg, h⟩ := ai_gd h
      refine rg_iald (n := 96) rfl rfl hg ?_
      obtain ⟨hg, h⟩ := ai_gd h
      refine rg_iast (n := 6) rfl rfl hg ?_
      refine rn_go 9 (pc' := 169) (l' := [(4, .int ((16 : Int32) * x3)), (0, .ref 89), (1, .int x1), (3, .int x3)]) (st' := [.int (((16 : Int32) * x3) + (1 : Int32)), .ref 98, .int (gi (sa V 91 ((gi V 89 1)).toNatClampNeg (ga V 98 (((16 : Int32) * x3)).toNatClampNeg)) 89 1), .ref 92]) (S1 := (SH ++ X)) (V1 := (sa V 91 ((gi V 89 1)).toNatClampNeg (ga V 98 (((16 : Int32) * x3)).toNatClampNeg))) rfl ?_
      obtain ⟨hg, h⟩ := ai_gd h
      refine rg_iald (n := 96) rfl rfl hg ?_
      obtain ⟨hg, h⟩ := ai_gd h
      refine rg_iast (n := 6) rfl rfl hg ?_
      refine rn_go 9 (pc' := 187) (l' := [(4, .int ((16 : Int32) * x3)), (0, .ref 89), (1, .int x1), (3, .int x3)]) (st' := [.int (((16 : Int32) * x3) + (2 : Int32)), .ref 98, .int (gi (sa (sa V 91 ((gi V 89 1)).toNatClampNeg (ga V 98 (((16 : Int32) * x3)).toNatClampNeg)) 92 ((gi (sa V 91 ((gi V 89 1)).toNatClampNeg (ga V 98 (((16 : Int32) * x3)).toNatClampNeg)) 89 1)).toNatClampNeg (ga (sa V 91 ((gi V 89 1)).toNatClampNeg (ga V 98 (((16 : Int32) * x3)).toNatClampNeg)) 98 ((((16 : Int32) * x3) + (1 : Int32))).toNatClampNeg)) 89 1), .ref 93]) (S1 := (SH ++ X)) (V1 := (sa (sa V 91 ((gi V 89 1)).toNatClampNeg (ga V 98 (((16 : Int32) * x3)).toNatClampNeg)) 92 ((gi (sa V 91 ((gi V 89 1)).toNatClampNeg (ga V 98 (((16 : Int32) * x3)).toNatClampNeg)) 89 1)).toNatClampNeg (ga (sa V 91 ((gi V 89 1)).toNatClampNeg (ga V 98 (((16 : Int32) * x3)).toNatClampNeg)) 98 ((((16 : Int32) * x3) + (1 : Int32))).toNatClampNeg))) rfl ?_
      obtain ⟨hg, h⟩ := ai_gd h
      refine rg_iald (n := 96) rfl rfl hg ?_
      obtain ⟨hg, h⟩ := ai_gd h
      refine rg_iast (n := 6) rfl rfl hg ?_
      refine rn_go 9 (pc' := 205) (l' := [(4, .int ((16 : Int32) * x3)), (0, .ref 89), (1, .int x1), (3, .int x3)]) (st' := [.int (((16 : Int32) * x3) + (3 : Int32)), .ref 98, .int (gi (sa (sa (sa V 91 ((gi V 89 1)).toNatClampNeg (ga V 98 (((16 : Int32) * x3)).toNatClampNeg)) 92 ((gi (sa V 91 ((gi V 89 1)).toNatClampNeg (ga V 98 (((16 : Int32) * x3)).toNatClampNeg)) 89 1)).toNatClampNeg (ga (sa V 91 ((gi V 89 1)).toNatClampNeg (ga V 98 (((16 : Int32) * x3)).toNatClampNeg)) 98 ((((16 : Int32) * x3) + (1 : Int32))).toNatClampNeg)) 93 ((gi (sa (sa V 91 ((gi V 89 1)).toNatClampNeg (ga V 98 (((16 : Int32) * x3)).toNatClampNeg)) 92 ((gi (sa V 91 ((gi V 89 1)).toNatClampNeg (ga V 98 (((16 : Int32) * x3)).toNatClampNeg)) 89 1)).toNatClampNeg (ga (sa V 91 ((gi V 89 1)).toNatClampNeg (ga V 98 (((16 : Int32) * x3)).toNatClampNeg)) 98 ((((16 : Int32) * x3) + (1 : Int32))).toNatClampNeg)) 89 1)).toNatClampNeg (ga (sa (sa V 91 ((gi V 89 1)).toNatClampNeg (ga V 98 (((16 : Int32) * x3)).toNatClampNeg)) 92 ((gi (sa V 91 ((gi V 89 1)).toNatClampNeg (ga V 98 (((16 : Int32) * x3)).toNatClampNeg)) 89 1)).toNatClampNeg (ga (sa V 91 ((gi V 89 1)).toNatClampNeg (ga V 98 (((16 : Int32) * x3)).toNatClampNeg)) 98 ((((16 : Int32) * x3) + (1 : Int32))).toNatClampNeg)) 98 ((((16 : Int32) * x3) + (2 : Int32))).toNatClampNeg)) 89 1), .ref 95]) (S1 := (SH ++ X)) (V1 := (sa (sa (sa V 91 ((gi V 89 1)).toNatClampNeg (ga V 98 (((16 : Int32) * x3)).toNatClampNeg)) 92 ((gi (sa V 91 ((gi V 89 1)).toNatClampNeg (ga V 98 (((16 : Int32) * x3)).toNatClampNeg)) 89 1)).toNatClampNeg (ga (sa V 91 ((gi V 89 1)).toNatClampNeg (ga V 98 (((16 : Int32) * x3)).toNatClampNeg)) 98 ((((16 : Int32) * x3) + (1 : Int32))).toNatClampNeg)) 93 ((gi (sa (sa V 91 ((gi V 89 1)).toNatClampNeg (ga V 98 (((16 : Int32) * x3)).toNatClampNeg)) 92 ((gi (sa V 91 ((gi V 89 1)).toNatClampNeg (ga V 98 (((16 : Int32) * x3)).toNatClampNeg)) 89 1)).toNatClampNeg (ga (sa V 91 ((gi V 89 1)).toNatClampNeg (ga V 98 (((16 : Int32) * x3)).toNatClampNeg)) 98 ((((16 : Int32) * x3) + (1 : Int32))).toNatClampNeg)) 89 1)).toNatClampNeg (ga (sa (sa V 91 ((gi V 89 1)).toNatClampNeg (ga V 98 (((16 : Int32) * x3)).toNatClampNeg)) 92 ((gi (sa V 91 ((gi V 89 1)).toNatClampNeg (ga V 98 (((16 : Int32) * x3)).toNatClampNeg)) 89 1)).toNatClampNeg (ga (sa V 91 ((gi V 89 1)).toNatClampNeg (ga V 98 (((16 : Int32) * x3)).toNatClampNeg)) 98 ((((16 : Int32) * x3) + (1 : Int32))).toNatClampNeg)) 98 ((((16 : Int32) * x3) + (2 : Int32))).toNatClampNeg))) rfl ?_
      obtain ⟨hg, h⟩ := ai_gd h
      refine rg_iald (n := 96) rfl rfl hg ?_
      obtain ⟨hg, h⟩ := ai_gd h
      refine rg_iast (n := 6) rfl rfl hg ?_
      refine rn_go 2 (pc' := 210) (l' := [(5, .int (0 : Int32)), (4, .int ((16 : Int32) * x3)), (0, .ref 89), (1, .int x1), (3, .int x3)]) (st' := []) (S1 := (SH ++ X)) (V1 := (sa (sa (sa (sa V 91 ((gi V 89 1)).toNatClampNeg (ga V 98 (((16 : Int32) * x3)).toNatClampNeg)) 92 ((gi (sa V 91 ((gi V 89 1)).toNatClampNeg (ga V 98 (((16 : Int32) * x3)).toNatClampNeg)) 89 1)).toNatClampNeg (ga (sa V 91 ((gi V 89 1)).toNatClampNeg (ga V 98 (((16 : Int32) * x3)).toNatClampNeg)) 98 ((((16 : Int32) * x3) + (1 : Int32))).toNatClampNeg)) 93 ((gi (sa (sa V 91 ((gi V 89 1)).toNatClampNeg (ga V 98 (((16 : Int32) * x3)).toNatClampNeg)) 92 ((gi (sa V 91 ((gi V 89 1)).toNatClampNeg (ga V 98 (((16 : Int32) * x3)).toNatClampNeg)) 89 1)).toNatClampNeg (ga (sa V 91 ((gi V 89 1)).toNatClampNeg (ga V 98 (((16 : Int32) * x3)).toNatClampNeg)) 98 ((((16 : Int32) * x3) + (1 : Int32))).toNatClampNeg)) 89 1)).toNatClampNeg (ga (sa (sa V 91 ((gi V 89 1)).toNatClampNeg (ga V 98 (((16 : Int32) * x3)).toNatClampNeg)) 92 ((gi (sa V 91 ((gi V 89 1)).toNatClampNeg (ga V 98 (((16 : Int32) * x3)).toNatClampNeg)) 89 1)).toNatClampNeg (ga (sa V 91 ((gi V 89 1)).toNatClampNeg (ga V 98 (((16 : Int32) * x3)).toNatClampNeg)) 98 ((((16 : Int32) * x3) + (1 : Int32))).toNatClampNeg)) 98 ((((16 : Int32) * x3) + (2 : Int32))).toNatClampNeg)) 95 ((gi (sa (sa (sa V 91 ((gi V 89 1)).toNatClampNeg (ga V 98 (((16 : Int32) * x3)).toNatClampNeg)) 92 ((gi (sa V 91 ((gi V 89 1)).toNatClampNeg (ga V 98 (((16 : Int32) * x3)).toNatClampNeg)) 89 1)).toNatClampNeg (ga (sa V 91 ((gi V 89 1)).toNatClampNeg (ga V 98 (((16 : Int32) * x3)).toNatClampNeg)) 98 ((((16 : Int32) * x3) + (1 : Int32))).toNatClampNeg)) 93 ((gi (sa (sa V 91 ((gi V 89 1)).toNatClampNeg (ga V 98 (((16 : Int32) * x3)).toNatClampNeg)) 92 ((gi (sa V 91 ((gi V 89 1)).toNatClampNeg (ga V 98 (((16 : Int32) * x3)).toNatClampNeg)) 89 1)).toNatClampNeg (ga (sa V 91 ((gi V 89 1)).toNatClampNeg (ga V 98 (((16 : Int32) * x3)).toNatClampNeg)) 98 ((((16 : Int32) * x3) + (1 : Int32))).toNatClampNeg)) 89 1)).toNatClampNeg (ga (sa (sa V 91 ((gi V 89 1)).toNatClampNeg (ga V 98 (((16 : Int32) * x3)).toNatClampNeg)) 92 ((gi (sa V 91 ((gi V 89 1)).toNatClampNeg (ga V 98 (((16 : Int32) * x3)).toNatClampNeg)) 89 1)).toNatClampNeg (ga (sa V 91 ((gi V 89 1)).toNatClampNeg (ga V 98 (((16 : Int32) * x3)).toNatClampNeg)) 98 ((((16 : Int32) * x3) + (1 : Int32))).toNatClampNeg)) 98 ((((16 : Int32) * x3) + (2 : Int32))).toNatClampNeg)) 89 1)).toNatClampNeg (ga (sa (sa (sa V 91 ((gi V 89 1)).toNatClampNeg (ga V 98 (((16 : Int32) * x3)).toNatClampNeg)) 92 ((gi (sa V 91 ((gi V 89 1)).toNatClampNeg (ga V 98 (((16 : Int32) * x3)).toNatClampNeg)) 89 1)).toNatClampNeg (ga (sa V 91 ((gi V 89 1)).toNatClampNeg (ga V 98 (((16 : Int32) * x3)).toNatClampNeg)) 98 ((((16 : Int32) * x3) + (1 : Int32))).toNatClampNeg)) 93 ((gi (sa (sa V 91 ((gi V 89 1)).toNatClampNeg (ga V 98 (((16 : Int32) * x3)).toNatClampNeg)) 92 ((gi (sa V 91 ((gi V 89 1)).toNatClampNeg (ga V 98 (((16 : Int32) * x3)).toNatClampNeg)) 89 1)).toNatClampNeg (ga (sa V 91 ((gi V 89 1)).toNatClampNeg (ga V 98 (((16 : Int32) * x3)).toNatClampNeg)) 98 ((((16 : Int32) * x3) + (1 : Int32))).toNatClampNeg)) 89 1)).toNatClampNeg (ga (sa (sa V 91 ((gi V 89 1)).toNatClampNeg (ga V 98 (((16 : Int32) * x3)).toNatClampNeg)) 92 ((gi (sa V 91 ((gi V 89 1)).toNatClampNeg (ga V 98 (((16 : Int32) * x3)).toNatClampNeg)) 89 1)).toNatClampNeg (ga (sa V 91 ((gi V 89 1)).toNatClampNeg (ga V 98 (((16 : Int32) * x3)).toNatClampNeg)) 98 ((((16 : Int32) * x3) + (1 : Int32))).toNatClampNeg)) 98 ((((16 : Int32) * x3) + (2 : Int32))).toNatClampNeg)) 98 ((((16 : Int32) * x3) + (3 : Int32))).toNatClampNeg))) rfl ?_
      exact rn_sub [2, 3, 4, 1, 0] rfl rfl (t_M_house_210 (X := X) hd (d_M_house_126 n) (ih) ai_N x1 x3 ((16 : Int32) * x3) (0 : Int32) (sa (sa (sa (sa V 91 ((gi V 89 1)).toNatClampNeg (ga V 98 (((16 : Int32) * x3)).toNatClampNeg)) 92 ((gi (sa V 91 ((gi V 89 1)).toNatClampNeg (ga V 98 (((16 : Int32) * x3)).toNatClampNeg)) 89 1)).toNatClampNeg (ga (sa V 91 ((gi V 89 1)).toNatClampNeg (ga V 98 (((16 : Int32) * x3)).toNatClampNeg)) 98 ((((16 : Int32) * x3) + (1 : Int32))).toNatClampNeg)) 93 ((gi (sa (sa V 91 ((gi V 89 1)).toNatClampNeg (ga V 98 (((16 : Int32) * x3)).toNatClampNeg)) 92 ((gi (sa V 91 ((gi V 89 1)).toNatClampNeg (ga V 98 (((16 : Int32) * x3)).toNatClampNeg)) 89 1)).toNatClampNeg (ga (sa V 91 ((gi V 89 1)).toNatClampNeg (ga V 98 (((16 : Int32) * x3)).toNatClampNeg)) 98 ((((16 : Int32) * x3) + (1 : Int32))).toNatClampNeg)) 89 1)).toNatClampNeg (ga (sa (sa V 91 ((gi V 89 1)).toNatClampNeg (ga V 98 (((16 : Int32) * x3)).toNatClampNeg)) 92 ((gi (sa V 91 ((gi V 89 1)).toNatClampNeg (ga V 98 (((16 : Int32) * x3)).toNatClampNeg)) 89 1)).toNatClampNeg (ga (sa V 91 ((gi V 89 1)).toNatClampNeg (ga V 98 (((16 : Int32) * x3)).toNatClampNeg)) 98 ((((16 : Int32) * x3) + (1 : Int32))).toNatClampNeg)) 98 ((((16 : Int32) * x3) + (2 : Int32))).toNatClampNeg)) 95 ((gi (sa (sa (sa V 91 ((gi V 89 1)).toNatClampNeg (ga V 98 (((16 : Int32) * x3)).toNatClampNeg)) 92 ((gi (sa V 91 ((gi V 89 1)).toNatClampNeg (ga V 98 (((16 : Int32) * x3)).toNatClampNeg)) 89 1)).toNatClampNeg (ga (sa V 91 ((gi V 89 1)).toNatClampNeg (ga V 98 (((16 : Int32) * x3)).toNatClampNeg)) 98 ((((16 : Int32) * x3) + (1 : Int32))).toNatClampNeg)) 93 ((gi (sa (sa V 91 ((gi V 89 1)).toNatClampNeg (ga V 98 (((16 : Int32) * x3)).toNatClampNeg)) 92 ((gi (sa V 91 ((gi V 89 1)).toNatClampNeg (ga V 98 (((16 : Int32) * x3)).toNatClampNeg)) 89 1)).toNatClampNeg (ga (sa V 91 ((gi V 89 1)).toNatClampNeg (ga V 98 (((16 : Int32) * x3)).toNatClampNeg)) 98 ((((16 : Int32) * x3) + (1 : Int32))).toNatClampNeg)) 89 1)).toNatClampNeg (ga (sa (sa V 91 ((gi V 89 1)).toNatClampNeg (ga V 98 (((16 : Int32) * x3)).toNatClampNeg)) 92 ((gi (sa V 91 ((gi V 89 1)).toNatClampNeg (ga V 98 (((16 : Int32) * x3)).toNatClampNeg)) 89 1)).toNatClampNeg (ga (sa V 91 ((gi V 89 1)).toNatClampNeg (ga V 98 (((16 : Int32) * x3)).toNatClampNeg)) 98 ((((16 : Int32) * x3) + (1 : Int32))).toNatClampNeg)) 98 ((((16 : Int32) * x3) + (2 : Int32))).toNatClampNeg)) 89 1)).toNatClampNeg (ga (sa (sa (sa V 91 ((gi V 89 1)).toNatClampNeg (ga V 98 (((16 : Int32) * x3)).toNatClampNeg)) 92 ((gi (sa V 91 ((gi V 89 1)).toNatClampNeg (ga V 98 (((16 : Int32) * x3)).toNatClampNeg)) 89 1)).toNatClampNeg (ga (sa V 91 ((gi V 89 1)).toNatClampNeg (ga V 98 (((16 : Int32) * x3)).toNatClampNeg)) 98 ((((16 : Int32) * x3) + (1 : Int32))).toNatClampNeg)) 93 ((gi (sa (sa V 91 ((gi V 89 1)).toNatClampNeg (ga V 98 (((16 : Int32) * x3)).toNatClampNeg)) 92 ((gi (sa V 91 ((gi V 89 1)).toNatClampNeg (ga V 98 (((16 : Int32) * x3)).toNatClampNeg)) 89 1)).toNatClampNeg (ga (sa V 91 ((gi V 89 1)).toNatClampNeg (ga V 98 (((16 : Int32) * x3)).toNatClampNeg)) 98 ((((16 : Int32) * x3) + (1 : Int32))).toNatClampNeg)) 89 1)).toNatClampNeg (ga (sa (sa V 91 ((gi V 89 1)).toNatClampNeg (ga V 98 (((16 : Int32) * x3)).toNatClampNeg)) 92 ((gi (sa V 91 ((gi V 89 1)).toNatClampNeg (ga V 98 (((16 : Int32) * x3)).toNatClampNeg)) 89 1)).toNatClampNeg (ga (sa V 91 ((gi V 89 1)).toNatClampNeg (ga V 98 (((16 : Int32) * x3)).toNatClampNeg)) 98 ((((16 : Int32) * x3) + (1 : Int32))).toNatClampNeg)) 98 ((((16 : Int32) * x3) + (2 : Int32))).toNatClampNeg)) 98 ((((16 : Int32) * x3) + (3 : Int32))).toNatClampNeg)) _ h)
def d_M_house_110  (x1 : Int32) (V : ai_V) : Option (Int32 × ai_V) :=
  (d_M_fine  V).bind fun q1 => (if ¬ q1 = 0 then (d_M_house_126 ai_N x1 (0 : Int32) V) else (some (((-1 : Int32) - (gi V 89 19)), V)))
set_option maxRecDepth 20000 in
theorem t_M_house_110 {X : ai_S} {e : Nat} (hd : 4 ≤ e)  (x1 : Int32) (V : ai_V) (r : (Int32 × ai_V)) (h : d_M_house_110  x1 V = some r) : Rn e 169 110 [(0, .ref 89), (1, .int x1)] [] (SH ++ X) V (some (.int r.1)) (SH ++ X) r.2 := by
  rw [d_M_house_110] at h
  refine rn_go 1 (pc' := 111) (l' := [(0, .ref 89), (1, .int x1)]) (st' := [.ref 89]) (S1 := (SH ++ X)) (V1 := V) rfl ?_
  obtain ⟨q1, hq1, h⟩ := ai_bd h
  refine rn_call rfl rfl rfl rfl rfl rfl (by omega) (t_M_fine (by omega) hq1) ?_
  rcases ai_if h with ⟨hc, h⟩ | ⟨hc, h⟩
  · refine rn_brT rfl rfl rfl rfl hc ?_
    refine rn_go 2 (pc' := 126) (l' := [(3, .int (0 : Int32)), (0, .ref 89), (1, .int x1)]) (st' := []) (S1 := (SH ++ X)) (V1 := V) rfl ?_
    exact rn_sub [1, 2, 0] rfl rfl (t_M_house_126 (X := X) hd ai_N x1 (0 : Int32) V _ h)
  · refine rn_brF rfl rfl rfl rfl hc ?_
    refine rn_go 4 (pc' := 123) (l' := [(0, .ref 89), (1, .int x1)]) (st' := [.int ((-1 : Int32) - (gi V 89 19))]) (S1 := (SH ++ X)) (V1 := V) rfl ?_
    obtain rfl := Option.some.inj h
    exact rn_ret rfl rfl rfl
def d_M_house_91  (x1 : Int32) (V : ai_V) : Option (Int32 × ai_V) :=
  if (gi V 89 16) ≤ (gi V 89 18) then (d_M_house_110 x1 V) else ((d_M_fault (gi V 89 18) V).bind fun q2 => (d_M_house_110 x1 q2))
set_option maxRecDepth 20000 in
theorem t_M_house_91 {X : ai_S} {e : Nat} (hd : 4 ≤ e)  (x1 : Int32) (V : ai_V) (r : (Int32 × ai_V)) (h : d_M_house_91  x1 V = some r) : Rn e 169 91 [(0, .ref 89), (1, .int x1)] [] (SH ++ X) V (some (.int r.1)) (SH ++ X) r.2 := by
  rw [d_M_house_91] at h
  refine rn_go 4 (pc' := 99) (l' := [(0, .ref 89), (1, .int x1)]) (st' := [.int (gi V 89 16), .int (gi V 89 18)]) (S1 := (SH ++ X)) (V1 := V) rfl ?_
  rcases ai_if h with ⟨hc, h⟩ | ⟨hc, h⟩
  · refine rn_brT rfl rfl rfl rfl hc ?_
    exact rn_sub [0, 1] rfl rfl (t_M_house_110 (X := X) hd x1 V _ h)
  · refine rn_brF rfl rfl rfl rfl hc ?_
    refine rn_go 3 (pc' := 107) (l' := [(0, .ref 89), (1, .int x1)]) (st' := [.int (gi V 89 18), .ref 89]) (S1 := (SH ++ X)) (V1 := V) rfl ?_
    obtain ⟨q2, hq2, h⟩ := ai_bd h
    refine rn_call rfl rfl rfl rfl rfl rfl (by omega) (t_M_fault (by omega) hq2) ?_
    exact rn_sub [0, 1] rfl rfl (t_M_house_110 (X := X) hd x1 q2 _ h)
def d_M_house_78 (F37 : Int32 → Int32 → ai_V → Option (Int32 × ai_V)) (x1 : Int32) (V : ai_V) : Option (Int32 × ai_V) :=
  (d_M_passes (59 : Int32) V).bind fun q3 => (F37 (x1 + (1 : Int32)) q3.1 q3.2)
set_option maxRecDepth 20000 in
theorem t_M_house_78 {X : ai_S} {e : Nat} (hd : 4 ≤ e) (F37 : Int32 → Int32 → ai_V → Option (Int32 × ai_V)) (hF37 : ∀ (x1 : Int32) (x2 : Int32) (V : ai_V) (r : (Int32 × ai_V)), F37 x1 x2 V = some r → Rn e 169 37 [(0, .ref 89), (1, .int x1), (2, .int x2)] [] (SH ++ X) V (some (.int r.1)) (SH ++ X) r.2) (x1 : Int32) (V : ai_V) (r : (Int32 × ai_V)) (h : d_M_house_78 F37 x1 V = some r) : Rn e 169 78 [(0, .ref 89), (1, .int x1)] [] (SH ++ X) V (some (.int r.1)) (SH ++ X) r.2 := by
  rw [d_M_house_78] at h
  refine rn_go 3 (pc' := 84) (l' := [(1, .int (x1 + (1 : Int32))), (0, .ref 89)]) (st' := [.int (59 : Int32), .ref 89]) (S1 := (SH ++ X)) (V1 := V) rfl ?_
  obtain ⟨q3, hq3, h⟩ := ai_bd h
  refine rn_call rfl rfl rfl rfl rfl rfl (by omega) (t_M_passes (by omega) hq3) ?_
  refine rn_go 2 (pc' := 37) (l' := [(2, .int q3.1), (1, .int (x1 + (1 : Int32))), (0, .ref 89)]) (st' := []) (S1 := (SH ++ X)) (V1 := q3.2) rfl ?_
  exact rn_sub [2, 1, 0] rfl rfl (hF37 (x1 + (1 : Int32)) q3.1 q3.2 _ h)
def d_M_house_37  : Nat → Int32 → Int32 → ai_V → Option (Int32 × ai_V)
  | 0, _, _, _ => none
  | n + 1, x1, x2, V => if x2 = 0 then (d_M_house_91 x1 V) else ((d_M_fine  V).bind fun q4 => (if q4 = 0 then (d_M_house_91 x1 V) else (if ¬ ((gi V 89 1) + x1) = (6 : Int32) then ((d_M_readOne ((16 : Int32) * x1) V).bind fun q5 => (d_M_house_78 (d_M_house_37 n) x1 q5)) else ((d_M_fault (gi V 89 18) V).bind fun q6 => (d_M_house_78 (d_M_house_37 n) x1 q6)))))
set_option maxRecDepth 20000 in
theorem t_M_house_37 {X : ai_S} {e : Nat} (hd : 4 ≤ e)  : ∀ (n : Nat) (x1 : Int32) (x2 : Int32) (V : ai_V) (r : (Int32 × ai_V)), d_M_house_37  n x1 x2 V = some r → Rn e 169 37 [(0, .ref 89), (1, .int x1), (2, .int x2)] [] (SH ++ X) V (some (.int r.1)) (SH ++ X) r.2 := by
  intro n
  induction n with
  | zero =>
    intro x1 x2 V r h
    cases h
  | succ n ih =>
    intro x1 x2 V r h
    rw [d_M_house_37] at h
    refine rn_go 1 (pc' := 38) (l' := [(0, .ref 89), (1, .int x1), (2, .int x2)]) (st' := [.int x2]) (S1 := (SH ++ X)) (V1 := V) rfl ?_
    rcases ai_if h with ⟨hc, h⟩ | ⟨hc, h⟩
    · refine rn_brT rfl rfl rfl rfl hc ?_
      exact rn_sub [0, 1] rfl rfl (t_M_house_91 (X := X) hd x1 V _ h)
    · refine rn_brF rfl rfl rfl rfl hc ?_
      refine rn_go 1 (pc' := 42) (l' := [(0, .ref 89), (1, .int x1), (2, .int x2)]) (st' := [.ref 89]) (S1 := (SH ++ X)) (V1 := V) rfl ?_
      obtain ⟨q4, hq4, h⟩ := ai_bd h
      refine rn_call rfl rfl rfl rfl rfl rfl (by omega) (t_M_fine (by omega) hq4) ?_
      rcases ai_if h with ⟨hc, h⟩ | ⟨hc, h⟩
      · refine rn_brT rfl rfl rfl rfl hc ?_
        exact rn_sub [0, 1] rfl rfl (t_M_house_91 (X := X) hd x1 V _ h)
      · refine rn_brF rfl rfl rfl rfl hc ?_
        refine rn_go 5 (pc' := 56) (l' := [(0, .ref 89), (1, .int x1), (2, .int x2)]) (st' := [.int (6 : Int32), .int ((gi V 89 1) + x1)]) (S1 := (SH ++ X)) (V1 := V) rfl ?_
        rcases ai_if h with ⟨hc, h⟩ | ⟨hc, h⟩
        · refine rn_brT rfl rfl rfl rfl hc ?_
          refine rn_go 4 (pc' := 75) (l' := [(0, .ref 89), (1, .int x1), (2, .int x2)]) (st' := [.int ((16 : Int32) * x1), .ref 89]) (S1 := (SH ++ X)) (V1 := V) rfl ?_
          obtain ⟨q5, hq5, h⟩ := ai_bd h
          refine rn_call rfl rfl rfl rfl rfl rfl (by omega) (t_M_readOne (by omega) hq5) ?_
          exact rn_sub [0, 1] rfl rfl (t_M_house_78 (X := X) hd (d_M_house_37 n) (ih) x1 q5 _ h)
        · refine rn_brF rfl rfl rfl rfl hc ?_
          refine rn_go 3 (pc' := 64) (l' := [(0, .ref 89), (1, .int x1), (2, .int x2)]) (st' := [.int (gi V 89 18), .ref 89]) (S1 := (SH ++ X)) (V1 := V) rfl ?_
          obtain ⟨q6, hq6, h⟩ := ai_bd h
          refine rn_call rfl rfl rfl rfl rfl rfl (by omega) (t_M_fault (by omega) hq6) ?_
          refine rn_go 1 (pc' := 78) (l' := [(0, .ref 89), (1, .int x1), (2, .int x2)]) (st' := []) (S1 := (SH ++ X)) (V1 := q6) rfl ?_
          exact rn_sub [0, 1] rfl rfl (t_M_house_78 (X := X) hd (d_M_house_37 n) (ih) x1 q6 _ h)
def d_M_house  (V : ai_V) : Option (Int32 × ai_V) :=
  (d_M_begin (gi (si V 89 14 (0 : Int32)) 89 11) (76 : Int32) (si V 89 14 (0 : Int32))).bind fun q7 => (if ¬ (gi (si q7 89 11 (0 : Int32)) 89 16) = 0 then (d_M_house_37 ai_N (0 : Int32) (1 : Int32) (si q7 89 11 (0 : Int32))) else (some ((0 : Int32), (si q7 89 11 (0 : Int32)))))
set_option maxRecDepth 20000 in
theorem t_M_house {X : ai_S} {e : Nat} (hd : 4 ≤ e)  {V : ai_V} {r : (Int32 × ai_V)} (h : d_M_house  V = some r) : Rn e 169 0 (lv_args 0 [.ref 89]) [] (SH ++ X) V (some (.int r.1)) (SH ++ X) r.2 := by
  rw [d_M_house] at h
  refine rn_go 9 (pc' := 16) (l' := [(0, .ref 89)]) (st' := [.int (76 : Int32), .int (gi (si V 89 14 (0 : Int32)) 89 11), .ref 96, .ref 89]) (S1 := (SH ++ X)) (V1 := (si V 89 14 (0 : Int32))) rfl ?_
  obtain ⟨q7, hq7, h⟩ := ai_bd h
  refine rn_call rfl rfl rfl rfl rfl rfl (by omega) (t_M_begin (by omega) hq7) ?_
  refine rn_go 5 (pc' := 28) (l' := [(0, .ref 89)]) (st' := [.int (gi (si q7 89 11 (0 : Int32)) 89 16)]) (S1 := (SH ++ X)) (V1 := (si q7 89 11 (0 : Int32))) rfl ?_
  rcases ai_if h with ⟨hc, h⟩ | ⟨hc, h⟩
  · refine rn_brT rfl rfl rfl rfl hc ?_
    refine rn_go 4 (pc' := 37) (l' := [(2, .int (1 : Int32)), (1, .int (0 : Int32)), (0, .ref 89)]) (st' := []) (S1 := (SH ++ X)) (V1 := (si q7 89 11 (0 : Int32))) rfl ?_
    exact rn_sub [2, 1, 0] rfl rfl (t_M_house_37 (X := X) hd ai_N (0 : Int32) (1 : Int32) (si q7 89 11 (0 : Int32)) _ h)
  · refine rn_brF rfl rfl rfl rfl hc ?_
    refine rn_go 1 (pc' := 32) (l' := [(0, .ref 89)]) (st' := [.int (0 : Int32)]) (S1 := (SH ++ X)) (V1 := (si q7 89 11 (0 : Int32))) rfl ?_
    obtain rfl := Option.some.inj h
    exact rn_ret rfl rfl rfl
-- RentByTheWheelModel.valueOf(I)I (89, None)
def d_M_valueOf (x1 : Int32) (V : ai_V) : Option Int32 :=
  if x1 = (108 : Int32) then (some (gi V 89 26)) else (if x1 = (109 : Int32) then (if ai_in (gi V 89 24) 6 then (some (ga V 91 ((gi V 89 24)).toNatClampNeg)) else none) else (if x1 = (110 : Int32) then (some (gi V 89 27)) else (if x1 = (111 : Int32) then (if ai_in (gi V 89 24) 6 then (some (ga V 91 ((gi V 89 24)).toNatClampNeg)) else none) else (if x1 = (112 : Int32) then (if ai_in (gi V 89 24) 6 then (some (ga V 92 ((gi V 89 24)).toNatClampNeg)) else none) else (if x1 = (113 : Int32) then (some (gi V 89 28)) else (if x1 = (114 : Int32) then (if ai_in (gi V 89 24) 6 then (some (ga V 91 ((gi V 89 24)).toNatClampNeg)) else none) else (if x1 = (115 : Int32) then (if ai_in (gi V 89 24) 6 then (some (ga V 91 ((gi V 89 24)).toNatClampNeg)) else none) else (if x1 = (116 : Int32) then (some (gi V 89 25)) else (if x1 = (117 : Int32) then (if ai_in (gi V 89 24) 6 then (some (ga V 91 ((gi V 89 24)).toNatClampNeg)) else none) else (if x1 = (118 : Int32) then (if ai_in (gi V 89 24) 6 then (some (ga V 91 ((gi V 89 24)).toNatClampNeg)) else none) else (if x1 = (119 : Int32) then (if ai_in (gi V 89 24) 6 then (some (ga V 93 ((gi V 89 24)).toNatClampNeg)) else none) else (if ai_in (gi V 89 24) 6 then (some (ga V 91 ((gi V 89 24)).toNatClampNeg)) else none))))))))))))
set_option maxRecDepth 20000 in
theorem t_M_valueOf {X : ai_S} {e : Nat} (hd : 0 ≤ e) {x1 : Int32} {V : ai_V} {r : Int32} (h : d_M_valueOf x1 V = some r) : Rn e 170 0 (lv_args 0 [.ref 89, .int x1]) [] (SH ++ X) V (some (.int r)) (SH ++ X) V := by
  rw [d_M_valueOf] at h
  refine rn_go 1 (pc' := 1) (l' := [(0, .ref 89), (1, .int x1)]) (st' := [.int x1]) (S1 := (SH ++ X)) (V1 := V) rfl ?_
  rcases ai_if h with ⟨hs0, h⟩ | ⟨hs0, h⟩
  · refine rn_sw rfl rfl rfl rfl (ai_sel_t hs0) ?_
    refine rn_go 2 (pc' := 93) (l' := [(0, .ref 89), (1, .int x1)]) (st' := [.int (gi V 89 26)]) (S1 := (SH ++ X)) (V1 := V) rfl ?_
    obtain rfl := Option.some.inj h
    exact rn_ret rfl rfl rfl
  · rcases ai_if h with ⟨hs1, h⟩ | ⟨hs1, h⟩
    · refine rn_sw rfl rfl rfl rfl (ai_sel_f hs0 (ai_sel_t hs1)) ?_
      refine rn_go 4 (pc' := 112) (l' := [(0, .ref 89), (1, .int x1)]) (st' := [.int (gi V 89 24), .ref 91]) (S1 := (SH ++ X)) (V1 := V) rfl ?_
      obtain ⟨hg, h⟩ := ai_gd h
      refine rg_iald (n := 6) rfl rfl hg ?_
      obtain rfl := Option.some.inj h
      exact rn_ret rfl rfl rfl
    · rcases ai_if h with ⟨hs2, h⟩ | ⟨hs2, h⟩
      · refine rn_sw rfl rfl rfl rfl (ai_sel_f hs0 (ai_sel_f hs1 (ai_sel_t hs2))) ?_
        refine rn_go 2 (pc' := 98) (l' := [(0, .ref 89), (1, .int x1)]) (st' := [.int (gi V 89 27)]) (S1 := (SH ++ X)) (V1 := V) rfl ?_
        obtain rfl := Option.some.inj h
        exact rn_ret rfl rfl rfl
      · rcases ai_if h with ⟨hs3, h⟩ | ⟨hs3, h⟩
        · refine rn_sw rfl rfl rfl rfl (ai_sel_f hs0 (ai_sel_f hs1 (ai_sel_f hs2 (ai_sel_t hs3)))) ?_
          refine rn_go 4 (pc' := 112) (l' := [(0, .ref 89), (1, .int x1)]) (st' := [.int (gi V 89 24), .ref 91]) (S1 := (SH ++ X)) (V1 := V) rfl ?_
          obtain ⟨hg, h⟩ := ai_gd h
          refine rg_iald (n := 6) rfl rfl hg ?_
          obtain rfl := Option.some.inj h
          exact rn_ret rfl rfl rfl
        · rcases ai_if h with ⟨hs4, h⟩ | ⟨hs4, h⟩
          · refine rn_sw rfl rfl rfl rfl (ai_sel_f hs0 (ai_sel_f hs1 (ai_sel_f hs2 (ai_sel_f hs3 (ai_sel_t hs4))))) ?_
            refine rn_go 4 (pc' := 77) (l' := [(0, .ref 89), (1, .int x1)]) (st' := [.int (gi V 89 24), .ref 92]) (S1 := (SH ++ X)) (V1 := V) rfl ?_
            obtain ⟨hg, h⟩ := ai_gd h
            refine rg_iald (n := 6) rfl rfl hg ?_
            obtain rfl := Option.some.inj h
            exact rn_ret rfl rfl rfl
          · rcases ai_if h with ⟨hs5, h⟩ | ⟨hs5, h⟩
            · refine rn_sw rfl rfl rfl rfl (ai_sel_f hs0 (ai_sel_f hs1 (ai_sel_f hs2 (ai_sel_f hs3 (ai_sel_f hs4 (ai_sel_t hs5)))))) ?_
              refine rn_go 2 (pc' := 103) (l' := [(0, .ref 89), (1, .int x1)]) (st' := [.int (gi V 89 28)]) (S1 := (SH ++ X)) (V1 := V) rfl ?_
              obtain rfl := Option.some.inj h
              exact rn_ret rfl rfl rfl
            · rcases ai_if h with ⟨hs6, h⟩ | ⟨hs6, h⟩
              · refine rn_sw rfl rfl rfl rfl (ai_sel_f hs0 (ai_sel_f hs1 (ai_sel_f hs2 (ai_sel_f hs3 (ai_sel_f hs4 (ai_sel_f hs5 (ai_sel_t hs6))))))) ?_
                refine rn_go 4 (pc' := 112) (l' := [(0, .ref 89), (1, .int x1)]) (st' := [.int (gi V 89 24), .ref 91]) (S1 := (SH ++ X)) (V1 := V) rfl ?_
                obtain ⟨hg, h⟩ := ai_gd h
                refine rg_iald (n := 6) rfl rfl hg ?_
                obtain rfl := Option.some.inj h
                exact rn_ret rfl rfl rfl
              · rcases ai_if h with ⟨hs7, h⟩ | ⟨hs7, h⟩
                · refine rn_sw rfl rfl rfl rfl (ai_sel_f hs0 (ai_sel_f hs1 (ai_sel_f hs2 (ai_sel_f hs3 (ai_sel_f hs4 (ai_sel_f hs5 (ai_sel_f hs6 (ai_sel_t hs7)))))))) ?_
                  refine rn_go 4 (pc' := 112) (l' := [(0, .ref 89), (1, .int x1)]) (st' := [.int (gi V 89 24), .ref 91]) (S1 := (SH ++ X)) (V1 := V) rfl ?_
                  obtain ⟨hg, h⟩ := ai_gd h
                  refine rg_iald (n := 6) rfl rfl hg ?_
                  obtain rfl := Option.some.inj h
                  exact rn_ret rfl rfl rfl
                · rcases ai_if h with ⟨hs8, h⟩ | ⟨hs8, h⟩
                  · refine rn_sw rfl rfl rfl rfl (ai_sel_f hs0 (ai_sel_f hs1 (ai_sel_f hs2 (ai_sel_f hs3 (ai_sel_f hs4 (ai_sel_f hs5 (ai_sel_f hs6 (ai_sel_f hs7 (ai_sel_t hs8))))))))) ?_
                    refine rn_go 2 (pc' := 68) (l' := [(0, .ref 89), (1, .int x1)]) (st' := [.int (gi V 89 25)]) (S1 := (SH ++ X)) (V1 := V) rfl ?_
                    obtain rfl := Option.some.inj h
                    exact rn_ret rfl rfl rfl
                  · rcases ai_if h with ⟨hs9, h⟩ | ⟨hs9, h⟩
                    · refine rn_sw rfl rfl rfl rfl (ai_sel_f hs0 (ai_sel_f hs1 (ai_sel_f hs2 (ai_sel_f hs3 (ai_sel_f hs4 (ai_sel_f hs5 (ai_sel_f hs6 (ai_sel_f hs7 (ai_sel_f hs8 (ai_sel_t hs9)))))))))) ?_
                      refine rn_go 4 (pc' := 112) (l' := [(0, .ref 89), (1, .int x1)]) (st' := [.int (gi V 89 24), .ref 91]) (S1 := (SH ++ X)) (V1 := V) rfl ?_
                      obtain ⟨hg, h⟩ := ai_gd h
                      refine rg_iald (n := 6) rfl rfl hg ?_
                      obtain rfl := Option.some.inj h
                      exact rn_ret rfl rfl rfl
                    · rcases ai_if h with ⟨hs10, h⟩ | ⟨hs10, h⟩
                      · refine rn_sw rfl rfl rfl rfl (ai_sel_f hs0 (ai_sel_f hs1 (ai_sel_f hs2 (ai_sel_f hs3 (ai_sel_f hs4 (ai_sel_f hs5 (ai_sel_f hs6 (ai_sel_f hs7 (ai_sel_f hs8 (ai_sel_f hs9 (ai_sel_t hs10))))))))))) ?_
                        refine rn_go 4 (pc' := 112) (l' := [(0, .ref 89), (1, .int x1)]) (st' := [.int (gi V 89 24), .ref 91]) (S1 := (SH ++ X)) (V1 := V) rfl ?_
                        obtain ⟨hg, h⟩ := ai_gd h
                        refine rg_iald (n := 6) rfl rfl hg ?_
                        obtain rfl := Option.some.inj h
                        exact rn_ret rfl rfl rfl
                      · rcases ai_if h with ⟨hs11, h⟩ | ⟨hs11, h⟩
                        · refine rn_sw rfl rfl rfl rfl (ai_sel_f hs0 (ai_sel_f hs1 (ai_sel_f hs2 (ai_sel_f hs3 (ai_sel_f hs4 (ai_sel_f hs5 (ai_sel_f hs6 (ai_sel_f hs7 (ai_sel_f hs8 (ai_sel_f hs9 (ai_sel_f hs10 (ai_sel_t hs11)))))))))))) ?_
                          refine rn_go 4 (pc' := 87) (l' := [(0, .ref 89), (1, .int x1)]) (st' := [.int (gi V 89 24), .ref 93]) (S1 := (SH ++ X)) (V1 := V) rfl ?_
                          obtain ⟨hg, h⟩ := ai_gd h
                          refine rg_iald (n := 6) rfl rfl hg ?_
                          obtain rfl := Option.some.inj h
                          exact rn_ret rfl rfl rfl
                        · refine rn_sw rfl rfl rfl rfl (ai_sel_f hs0 (ai_sel_f hs1 (ai_sel_f hs2 (ai_sel_f hs3 (ai_sel_f hs4 (ai_sel_f hs5 (ai_sel_f hs6 (ai_sel_f hs7 (ai_sel_f hs8 (ai_sel_f hs9 (ai_sel_f hs10 (ai_sel_f hs11 rfl)))))))))))) ?_
                          refine rn_go 4 (pc' := 112) (l' := [(0, .ref 89), (1, .int x1)]) (st' := [.int (gi V 89 24), .ref 91]) (S1 := (SH ++ X)) (V1 := V) rfl ?_
                          obtain ⟨hg, h⟩ := ai_gd h
                          refine rg_iald (n := 6) rfl rfl hg ?_
                          obtain rfl := Option.some.inj h
                          exact rn_ret rfl rfl rfl
-- RentByTheWheelModel.product(I)I (89, None)
def d_M_product_87 (T : Int32 → ai_V → Option (Int32 × ai_V)) (F6 : Int32 → Int32 → ai_V → Option (Int32 × ai_V)) (x1 : Int32) (s0 : Int32) (V : ai_V) : Option (Int32 × ai_V) :=
  F6 x1 s0 V
set_option maxRecDepth 20000 in
theorem t_M_product_87 (T : Int32 → ai_V → Option (Int32 × ai_V)) (DT : Nat) (hT : ∀ {X : ai_S} {e : Nat}, DT ≤ e → ∀ (x1 : Int32) (V : ai_V) (r : (Int32 × ai_V)), T x1 V = some r → Rn e 171 0 (lv_args 0 [.ref 89, .int x1]) [] (SH ++ X) V (some (.int r.1)) (SH ++ X) r.2) {X : ai_S} {e : Nat} (hd : DT + 1 ≤ e ∧ 1 ≤ e) (F6 : Int32 → Int32 → ai_V → Option (Int32 × ai_V)) (hF6 : ∀ (x1 : Int32) (x2 : Int32) (V : ai_V) (r : (Int32 × ai_V)), F6 x1 x2 V = some r → Rn e 172 6 [(0, .ref 89), (1, .int x1), (2, .int x2)] [] (SH ++ X) V (some (.int r.1)) (SH ++ X) r.2) (x1 : Int32) (s0 : Int32) (V : ai_V) (r : (Int32 × ai_V)) (h : d_M_product_87 T F6 x1 s0 V = some r) : Rn e 172 87 [(0, .ref 89), (1, .int x1)] [.int s0] (SH ++ X) V (some (.int r.1)) (SH ++ X) r.2 := by
  rw [d_M_product_87] at h
  refine rn_go 2 (pc' := 6) (l' := [(2, .int s0), (0, .ref 89), (1, .int x1)]) (st' := []) (S1 := (SH ++ X)) (V1 := V) rfl ?_
  exact rn_sub [1, 2, 0] rfl rfl (hF6 x1 s0 V _ h)
def d_M_product_45 (T : Int32 → ai_V → Option (Int32 × ai_V)) (F6 : Int32 → Int32 → ai_V → Option (Int32 × ai_V)) (x1 : Int32) (x2 : Int32) (s0 : Int32) (V : ai_V) : Option (Int32 × ai_V) :=
  (T x1 (si V 89 18 ((gi V 89 18) + (1 : Int32)))).bind fun q1 => (if s0 = 0 then (if ¬ q1.1 = 0 then (if q1.1 = 0 then none else (d_M_product_87 T F6 x1 (x2 / q1.1) q1.2)) else (d_M_product_87 T F6 x1 (0 : Int32) q1.2)) else (d_M_product_87 T F6 x1 (x2 * q1.1) q1.2))
set_option maxRecDepth 20000 in
theorem t_M_product_45 (T : Int32 → ai_V → Option (Int32 × ai_V)) (DT : Nat) (hT : ∀ {X : ai_S} {e : Nat}, DT ≤ e → ∀ (x1 : Int32) (V : ai_V) (r : (Int32 × ai_V)), T x1 V = some r → Rn e 171 0 (lv_args 0 [.ref 89, .int x1]) [] (SH ++ X) V (some (.int r.1)) (SH ++ X) r.2) {X : ai_S} {e : Nat} (hd : DT + 1 ≤ e ∧ 1 ≤ e) (F6 : Int32 → Int32 → ai_V → Option (Int32 × ai_V)) (hF6 : ∀ (x1 : Int32) (x2 : Int32) (V : ai_V) (r : (Int32 × ai_V)), F6 x1 x2 V = some r → Rn e 172 6 [(0, .ref 89), (1, .int x1), (2, .int x2)] [] (SH ++ X) V (some (.int r.1)) (SH ++ X) r.2) (x1 : Int32) (x2 : Int32) (s0 : Int32) (V : ai_V) (r : (Int32 × ai_V)) (h : d_M_product_45 T F6 x1 x2 s0 V = some r) : Rn e 172 45 [(0, .ref 89), (1, .int x1), (2, .int x2)] [.int s0] (SH ++ X) V (some (.int r.1)) (SH ++ X) r.2 := by
  rw [d_M_product_45] at h
  refine rn_go 9 (pc' := 58) (l' := [(3, .int s0), (0, .ref 89), (1, .int x1), (2, .int x2)]) (st' := [.int x1, .ref 89]) (S1 := (SH ++ X)) (V1 := (si V 89 18 ((gi V 89 18) + (1 : Int32)))) rfl ?_
  obtain ⟨q1, hq1, h⟩ := ai_bd h
  refine rn_call rfl rfl rfl rfl rfl rfl (by omega) (hT (by omega) x1 (si V 89 18 ((gi V 89 18) + (1 : Int32))) _ hq1) ?_
  refine rn_go 2 (pc' := 64) (l' := [(4, .int q1.1), (3, .int s0), (0, .ref 89), (1, .int x1), (2, .int x2)]) (st' := [.int s0]) (S1 := (SH ++ X)) (V1 := q1.2) rfl ?_
  rcases ai_if h with ⟨hc, h⟩ | ⟨hc, h⟩
  · refine rn_brT rfl rfl rfl rfl hc ?_
    refine rn_go 1 (pc' := 76) (l' := [(4, .int q1.1), (3, .int s0), (0, .ref 89), (1, .int x1), (2, .int x2)]) (st' := [.int q1.1]) (S1 := (SH ++ X)) (V1 := q1.2) rfl ?_
    rcases ai_if h with ⟨hc, h⟩ | ⟨hc, h⟩
    · refine rn_brT rfl rfl rfl rfl hc ?_
      refine rn_go 2 (pc' := 86) (l' := [(4, .int q1.1), (3, .int s0), (0, .ref 89), (1, .int x1), (2, .int x2)]) (st' := [.int q1.1, .int x2]) (S1 := (SH ++ X)) (V1 := q1.2) rfl ?_
      obtain ⟨hg, h⟩ := ai_gn h
      refine rg_idiv rfl hg ?_
      exact rn_sub [2, 3] rfl rfl (t_M_product_87 T DT hT (X := X) hd F6 hF6 x1 (x2 / q1.1) q1.2 _ h)
    · refine rn_brF rfl rfl rfl rfl hc ?_
      refine rn_go 2 (pc' := 87) (l' := [(4, .int q1.1), (3, .int s0), (0, .ref 89), (1, .int x1), (2, .int x2)]) (st' := [.int (0 : Int32)]) (S1 := (SH ++ X)) (V1 := q1.2) rfl ?_
      exact rn_sub [2, 3] rfl rfl (t_M_product_87 T DT hT (X := X) hd F6 hF6 x1 (0 : Int32) q1.2 _ h)
  · refine rn_brF rfl rfl rfl rfl hc ?_
    refine rn_go 4 (pc' := 87) (l' := [(4, .int q1.1), (3, .int s0), (0, .ref 89), (1, .int x1), (2, .int x2)]) (st' := [.int (x2 * q1.1)]) (S1 := (SH ++ X)) (V1 := q1.2) rfl ?_
    exact rn_sub [2, 3] rfl rfl (t_M_product_87 T DT hT (X := X) hd F6 hF6 x1 (x2 * q1.1) q1.2 _ h)
def d_M_product_31 (T : Int32 → ai_V → Option (Int32 × ai_V)) (F6 : Int32 → Int32 → ai_V → Option (Int32 × ai_V)) (x1 : Int32) (x2 : Int32) (V : ai_V) : Option (Int32 × ai_V) :=
  (d_M_here  V).bind fun q2 => (if ¬ q2 = (42 : Int32) then (d_M_product_45 T F6 x1 x2 (0 : Int32) V) else (d_M_product_45 T F6 x1 x2 (1 : Int32) V))
set_option maxRecDepth 20000 in
theorem t_M_product_31 (T : Int32 → ai_V → Option (Int32 × ai_V)) (DT : Nat) (hT : ∀ {X : ai_S} {e : Nat}, DT ≤ e → ∀ (x1 : Int32) (V : ai_V) (r : (Int32 × ai_V)), T x1 V = some r → Rn e 171 0 (lv_args 0 [.ref 89, .int x1]) [] (SH ++ X) V (some (.int r.1)) (SH ++ X) r.2) {X : ai_S} {e : Nat} (hd : DT + 1 ≤ e ∧ 1 ≤ e) (F6 : Int32 → Int32 → ai_V → Option (Int32 × ai_V)) (hF6 : ∀ (x1 : Int32) (x2 : Int32) (V : ai_V) (r : (Int32 × ai_V)), F6 x1 x2 V = some r → Rn e 172 6 [(0, .ref 89), (1, .int x1), (2, .int x2)] [] (SH ++ X) V (some (.int r.1)) (SH ++ X) r.2) (x1 : Int32) (x2 : Int32) (V : ai_V) (r : (Int32 × ai_V)) (h : d_M_product_31 T F6 x1 x2 V = some r) : Rn e 172 31 [(0, .ref 89), (1, .int x1), (2, .int x2)] [] (SH ++ X) V (some (.int r.1)) (SH ++ X) r.2 := by
  rw [d_M_product_31] at h
  refine rn_go 1 (pc' := 32) (l' := [(0, .ref 89), (1, .int x1), (2, .int x2)]) (st' := [.ref 89]) (S1 := (SH ++ X)) (V1 := V) rfl ?_
  obtain ⟨q2, hq2, h⟩ := ai_bd h
  refine rn_call rfl rfl rfl rfl rfl rfl (by omega) (t_M_here (by omega) hq2) ?_
  refine rn_go 1 (pc' := 37) (l' := [(0, .ref 89), (1, .int x1), (2, .int x2)]) (st' := [.int (42 : Int32), .int q2]) (S1 := (SH ++ X)) (V1 := V) rfl ?_
  rcases ai_if h with ⟨hc, h⟩ | ⟨hc, h⟩
  · refine rn_brT rfl rfl rfl rfl hc ?_
    refine rn_go 1 (pc' := 45) (l' := [(0, .ref 89), (1, .int x1), (2, .int x2)]) (st' := [.int (0 : Int32)]) (S1 := (SH ++ X)) (V1 := V) rfl ?_
    exact rn_sub [0, 1, 2] rfl rfl (t_M_product_45 T DT hT (X := X) hd F6 hF6 x1 x2 (0 : Int32) V _ h)
  · refine rn_brF rfl rfl rfl rfl hc ?_
    refine rn_go 2 (pc' := 45) (l' := [(0, .ref 89), (1, .int x1), (2, .int x2)]) (st' := [.int (1 : Int32)]) (S1 := (SH ++ X)) (V1 := V) rfl ?_
    exact rn_sub [0, 1, 2] rfl rfl (t_M_product_45 T DT hT (X := X) hd F6 hF6 x1 x2 (1 : Int32) V _ h)
def d_M_product_6 (T : Int32 → ai_V → Option (Int32 × ai_V))  : Nat → Int32 → Int32 → ai_V → Option (Int32 × ai_V)
  | 0, _, _, _ => none
  | n + 1, x1, x2, V => (d_M_fine  V).bind fun q3 => (if q3 = 0 then (some (x2, V)) else ((d_M_here  V).bind fun q4 => (if q4 = (42 : Int32) then (d_M_product_31 T (d_M_product_6 T n) x1 x2 V) else ((d_M_here  V).bind fun q5 => (if ¬ q5 = (47 : Int32) then (some (x2, V)) else (d_M_product_31 T (d_M_product_6 T n) x1 x2 V))))))
set_option maxRecDepth 20000 in
theorem t_M_product_6 (T : Int32 → ai_V → Option (Int32 × ai_V)) (DT : Nat) (hT : ∀ {X : ai_S} {e : Nat}, DT ≤ e → ∀ (x1 : Int32) (V : ai_V) (r : (Int32 × ai_V)), T x1 V = some r → Rn e 171 0 (lv_args 0 [.ref 89, .int x1]) [] (SH ++ X) V (some (.int r.1)) (SH ++ X) r.2) {X : ai_S} {e : Nat} (hd : DT + 1 ≤ e ∧ 1 ≤ e)  : ∀ (n : Nat) (x1 : Int32) (x2 : Int32) (V : ai_V) (r : (Int32 × ai_V)), d_M_product_6 T  n x1 x2 V = some r → Rn e 172 6 [(0, .ref 89), (1, .int x1), (2, .int x2)] [] (SH ++ X) V (some (.int r.1)) (SH ++ X) r.2 := by
  intro n
  induction n with
  | zero =>
    intro x1 x2 V r h
    cases h
  | succ n ih =>
    intro x1 x2 V r h
    rw [d_M_product_6] at h
    refine rn_go 1 (pc' := 7) (l' := [(0, .ref 89), (1, .int x1), (2, .int x2)]) (st' := [.ref 89]) (S1 := (SH ++ X)) (V1 := V) rfl ?_
    obtain ⟨q3, hq3, h⟩ := ai_bd h
    refine rn_call rfl rfl rfl rfl rfl rfl (by omega) (t_M_fine (by omega) hq3) ?_
    rcases ai_if h with ⟨hc, h⟩ | ⟨hc, h⟩
    · refine rn_brT rfl rfl rfl rfl hc ?_
      refine rn_go 1 (pc' := 92) (l' := [(0, .ref 89), (1, .int x1), (2, .int x2)]) (st' := [.int x2]) (S1 := (SH ++ X)) (V1 := V) rfl ?_
      obtain rfl := Option.some.inj h
      exact rn_ret rfl rfl rfl
    · refine rn_brF rfl rfl rfl rfl hc ?_
      refine rn_go 1 (pc' := 14) (l' := [(0, .ref 89), (1, .int x1), (2, .int x2)]) (st' := [.ref 89]) (S1 := (SH ++ X)) (V1 := V) rfl ?_
      obtain ⟨q4, hq4, h⟩ := ai_bd h
      refine rn_call rfl rfl rfl rfl rfl rfl (by omega) (t_M_here (by omega) hq4) ?_
      refine rn_go 1 (pc' := 19) (l' := [(0, .ref 89), (1, .int x1), (2, .int x2)]) (st' := [.int (42 : Int32), .int q4]) (S1 := (SH ++ X)) (V1 := V) rfl ?_
      rcases ai_if h with ⟨hc, h⟩ | ⟨hc, h⟩
      · refine rn_brT rfl rfl rfl rfl hc ?_
        exact rn_sub [0, 1, 2] rfl rfl (t_M_product_31 T DT hT (X := X) hd (d_M_product_6 T n) (ih) x1 x2 V _ h)
      · refine rn_brF rfl rfl rfl rfl hc ?_
        refine rn_go 1 (pc' := 23) (l' := [(0, .ref 89), (1, .int x1), (2, .int x2)]) (st' := [.ref 89]) (S1 := (SH ++ X)) (V1 := V) rfl ?_
        obtain ⟨q5, hq5, h⟩ := ai_bd h
        refine rn_call rfl rfl rfl rfl rfl rfl (by omega) (t_M_here (by omega) hq5) ?_
        refine rn_go 1 (pc' := 28) (l' := [(0, .ref 89), (1, .int x1), (2, .int x2)]) (st' := [.int (47 : Int32), .int q5]) (S1 := (SH ++ X)) (V1 := V) rfl ?_
        rcases ai_if h with ⟨hc, h⟩ | ⟨hc, h⟩
        · refine rn_brT rfl rfl rfl rfl hc ?_
          refine rn_go 1 (pc' := 92) (l' := [(0, .ref 89), (1, .int x1), (2, .int x2)]) (st' := [.int x2]) (S1 := (SH ++ X)) (V1 := V) rfl ?_
          obtain rfl := Option.some.inj h
          exact rn_ret rfl rfl rfl
        · refine rn_brF rfl rfl rfl rfl hc ?_
          exact rn_sub [0, 1, 2] rfl rfl (t_M_product_31 T DT hT (X := X) hd (d_M_product_6 T n) (ih) x1 x2 V _ h)
def d_M_product_B (T : Int32 → ai_V → Option (Int32 × ai_V)) (x1 : Int32) (V : ai_V) : Option (Int32 × ai_V) :=
  (T x1 V).bind fun q6 => (d_M_product_6 T ai_N x1 q6.1 q6.2)
set_option maxRecDepth 20000 in
theorem t_M_product_B (T : Int32 → ai_V → Option (Int32 × ai_V)) (DT : Nat) (hT : ∀ {X : ai_S} {e : Nat}, DT ≤ e → ∀ (x1 : Int32) (V : ai_V) (r : (Int32 × ai_V)), T x1 V = some r → Rn e 171 0 (lv_args 0 [.ref 89, .int x1]) [] (SH ++ X) V (some (.int r.1)) (SH ++ X) r.2) {X : ai_S} {e : Nat} (hd : DT + 1 ≤ e ∧ 1 ≤ e) {x1 : Int32} {V : ai_V} {r : (Int32 × ai_V)} (h : d_M_product_B T x1 V = some r) : Rn e 172 0 (lv_args 0 [.ref 89, .int x1]) [] (SH ++ X) V (some (.int r.1)) (SH ++ X) r.2 := by
  rw [d_M_product_B] at h
  refine rn_go 2 (pc' := 2) (l' := [(0, .ref 89), (1, .int x1)]) (st' := [.int x1, .ref 89]) (S1 := (SH ++ X)) (V1 := V) rfl ?_
  obtain ⟨q6, hq6, h⟩ := ai_bd h
  refine rn_call rfl rfl rfl rfl rfl rfl (by omega) (hT (by omega) x1 V _ hq6) ?_
  refine rn_go 1 (pc' := 6) (l' := [(2, .int q6.1), (0, .ref 89), (1, .int x1)]) (st' := []) (S1 := (SH ++ X)) (V1 := q6.2) rfl ?_
  exact rn_sub [1, 2, 0] rfl rfl (t_M_product_6 T DT hT (X := X) hd ai_N x1 q6.1 q6.2 _ h)
-- RentByTheWheelModel.sum(I)I (89, None)
def d_M_sum_78 (T : Int32 → ai_V → Option (Int32 × ai_V)) (F6 : Int32 → Int32 → ai_V → Option (Int32 × ai_V)) (x1 : Int32) (s0 : Int32) (V : ai_V) : Option (Int32 × ai_V) :=
  F6 x1 s0 V
set_option maxRecDepth 20000 in
theorem t_M_sum_78 (T : Int32 → ai_V → Option (Int32 × ai_V)) (DT : Nat) (hT : ∀ {X : ai_S} {e : Nat}, DT ≤ e → ∀ (x1 : Int32) (V : ai_V) (r : (Int32 × ai_V)), T x1 V = some r → Rn e 171 0 (lv_args 0 [.ref 89, .int x1]) [] (SH ++ X) V (some (.int r.1)) (SH ++ X) r.2) {X : ai_S} {e : Nat} (hd : DT + 2 ≤ e ∧ 2 ≤ e) (F6 : Int32 → Int32 → ai_V → Option (Int32 × ai_V)) (hF6 : ∀ (x1 : Int32) (x2 : Int32) (V : ai_V) (r : (Int32 × ai_V)), F6 x1 x2 V = some r → Rn e 173 6 [(0, .ref 89), (1, .int x1), (2, .int x2)] [] (SH ++ X) V (some (.int r.1)) (SH ++ X) r.2) (x1 : Int32) (s0 : Int32) (V : ai_V) (r : (Int32 × ai_V)) (h : d_M_sum_78 T F6 x1 s0 V = some r) : Rn e 173 78 [(0, .ref 89), (1, .int x1)] [.int s0] (SH ++ X) V (some (.int r.1)) (SH ++ X) r.2 := by
  rw [d_M_sum_78] at h
  refine rn_go 2 (pc' := 6) (l' := [(2, .int s0), (0, .ref 89), (1, .int x1)]) (st' := []) (S1 := (SH ++ X)) (V1 := V) rfl ?_
  exact rn_sub [1, 2, 0] rfl rfl (hF6 x1 s0 V _ h)
def d_M_sum_45 (T : Int32 → ai_V → Option (Int32 × ai_V)) (F6 : Int32 → Int32 → ai_V → Option (Int32 × ai_V)) (x1 : Int32) (x2 : Int32) (s0 : Int32) (V : ai_V) : Option (Int32 × ai_V) :=
  (d_M_product_B T x1 (si V 89 18 ((gi V 89 18) + (1 : Int32)))).bind fun q1 => (if s0 = 0 then (d_M_sum_78 T F6 x1 (x2 - q1.1) q1.2) else (d_M_sum_78 T F6 x1 (x2 + q1.1) q1.2))
set_option maxRecDepth 20000 in
theorem t_M_sum_45 (T : Int32 → ai_V → Option (Int32 × ai_V)) (DT : Nat) (hT : ∀ {X : ai_S} {e : Nat}, DT ≤ e → ∀ (x1 : Int32) (V : ai_V) (r : (Int32 × ai_V)), T x1 V = some r → Rn e 171 0 (lv_args 0 [.ref 89, .int x1]) [] (SH ++ X) V (some (.int r.1)) (SH ++ X) r.2) {X : ai_S} {e : Nat} (hd : DT + 2 ≤ e ∧ 2 ≤ e) (F6 : Int32 → Int32 → ai_V → Option (Int32 × ai_V)) (hF6 : ∀ (x1 : Int32) (x2 : Int32) (V : ai_V) (r : (Int32 × ai_V)), F6 x1 x2 V = some r → Rn e 173 6 [(0, .ref 89), (1, .int x1), (2, .int x2)] [] (SH ++ X) V (some (.int r.1)) (SH ++ X) r.2) (x1 : Int32) (x2 : Int32) (s0 : Int32) (V : ai_V) (r : (Int32 × ai_V)) (h : d_M_sum_45 T F6 x1 x2 s0 V = some r) : Rn e 173 45 [(0, .ref 89), (1, .int x1), (2, .int x2)] [.int s0] (SH ++ X) V (some (.int r.1)) (SH ++ X) r.2 := by
  rw [d_M_sum_45] at h
  refine rn_go 9 (pc' := 58) (l' := [(3, .int s0), (0, .ref 89), (1, .int x1), (2, .int x2)]) (st' := [.int x1, .ref 89]) (S1 := (SH ++ X)) (V1 := (si V 89 18 ((gi V 89 18) + (1 : Int32)))) rfl ?_
  obtain ⟨q1, hq1, h⟩ := ai_bd h
  refine rn_call rfl rfl rfl rfl rfl rfl (by omega) (t_M_product_B T DT hT (by omega) hq1) ?_
  refine rn_go 2 (pc' := 64) (l' := [(4, .int q1.1), (3, .int s0), (0, .ref 89), (1, .int x1), (2, .int x2)]) (st' := [.int s0]) (S1 := (SH ++ X)) (V1 := q1.2) rfl ?_
  rcases ai_if h with ⟨hc, h⟩ | ⟨hc, h⟩
  · refine rn_brT rfl rfl rfl rfl hc ?_
    refine rn_go 3 (pc' := 78) (l' := [(4, .int q1.1), (3, .int s0), (0, .ref 89), (1, .int x1), (2, .int x2)]) (st' := [.int (x2 - q1.1)]) (S1 := (SH ++ X)) (V1 := q1.2) rfl ?_
    exact rn_sub [2, 3] rfl rfl (t_M_sum_78 T DT hT (X := X) hd F6 hF6 x1 (x2 - q1.1) q1.2 _ h)
  · refine rn_brF rfl rfl rfl rfl hc ?_
    refine rn_go 4 (pc' := 78) (l' := [(4, .int q1.1), (3, .int s0), (0, .ref 89), (1, .int x1), (2, .int x2)]) (st' := [.int (x2 + q1.1)]) (S1 := (SH ++ X)) (V1 := q1.2) rfl ?_
    exact rn_sub [2, 3] rfl rfl (t_M_sum_78 T DT hT (X := X) hd F6 hF6 x1 (x2 + q1.1) q1.2 _ h)
def d_M_sum_31 (T : Int32 → ai_V → Option (Int32 × ai_V)) (F6 : Int32 → Int32 → ai_V → Option (Int32 × ai_V)) (x1 : Int32) (x2 : Int32) (V : ai_V) : Option (Int32 × ai_V) :=
  (d_M_here  V).bind fun q2 => (if ¬ q2 = (43 : Int32) then (d_M_sum_45 T F6 x1 x2 (0 : Int32) V) else (d_M_sum_45 T F6 x1 x2 (1 : Int32) V))
set_option maxRecDepth 20000 in
theorem t_M_sum_31 (T : Int32 → ai_V → Option (Int32 × ai_V)) (DT : Nat) (hT : ∀ {X : ai_S} {e : Nat}, DT ≤ e → ∀ (x1 : Int32) (V : ai_V) (r : (Int32 × ai_V)), T x1 V = some r → Rn e 171 0 (lv_args 0 [.ref 89, .int x1]) [] (SH ++ X) V (some (.int r.1)) (SH ++ X) r.2) {X : ai_S} {e : Nat} (hd : DT + 2 ≤ e ∧ 2 ≤ e) (F6 : Int32 → Int32 → ai_V → Option (Int32 × ai_V)) (hF6 : ∀ (x1 : Int32) (x2 : Int32) (V : ai_V) (r : (Int32 × ai_V)), F6 x1 x2 V = some r → Rn e 173 6 [(0, .ref 89), (1, .int x1), (2, .int x2)] [] (SH ++ X) V (some (.int r.1)) (SH ++ X) r.2) (x1 : Int32) (x2 : Int32) (V : ai_V) (r : (Int32 × ai_V)) (h : d_M_sum_31 T F6 x1 x2 V = some r) : Rn e 173 31 [(0, .ref 89), (1, .int x1), (2, .int x2)] [] (SH ++ X) V (some (.int r.1)) (SH ++ X) r.2 := by
  rw [d_M_sum_31] at h
  refine rn_go 1 (pc' := 32) (l' := [(0, .ref 89), (1, .int x1), (2, .int x2)]) (st' := [.ref 89]) (S1 := (SH ++ X)) (V1 := V) rfl ?_
  obtain ⟨q2, hq2, h⟩ := ai_bd h
  refine rn_call rfl rfl rfl rfl rfl rfl (by omega) (t_M_here (by omega) hq2) ?_
  refine rn_go 1 (pc' := 37) (l' := [(0, .ref 89), (1, .int x1), (2, .int x2)]) (st' := [.int (43 : Int32), .int q2]) (S1 := (SH ++ X)) (V1 := V) rfl ?_
  rcases ai_if h with ⟨hc, h⟩ | ⟨hc, h⟩
  · refine rn_brT rfl rfl rfl rfl hc ?_
    refine rn_go 1 (pc' := 45) (l' := [(0, .ref 89), (1, .int x1), (2, .int x2)]) (st' := [.int (0 : Int32)]) (S1 := (SH ++ X)) (V1 := V) rfl ?_
    exact rn_sub [0, 1, 2] rfl rfl (t_M_sum_45 T DT hT (X := X) hd F6 hF6 x1 x2 (0 : Int32) V _ h)
  · refine rn_brF rfl rfl rfl rfl hc ?_
    refine rn_go 2 (pc' := 45) (l' := [(0, .ref 89), (1, .int x1), (2, .int x2)]) (st' := [.int (1 : Int32)]) (S1 := (SH ++ X)) (V1 := V) rfl ?_
    exact rn_sub [0, 1, 2] rfl rfl (t_M_sum_45 T DT hT (X := X) hd F6 hF6 x1 x2 (1 : Int32) V _ h)
def d_M_sum_6 (T : Int32 → ai_V → Option (Int32 × ai_V))  : Nat → Int32 → Int32 → ai_V → Option (Int32 × ai_V)
  | 0, _, _, _ => none
  | n + 1, x1, x2, V => (d_M_fine  V).bind fun q3 => (if q3 = 0 then (some (x2, V)) else ((d_M_here  V).bind fun q4 => (if q4 = (43 : Int32) then (d_M_sum_31 T (d_M_sum_6 T n) x1 x2 V) else ((d_M_here  V).bind fun q5 => (if ¬ q5 = (45 : Int32) then (some (x2, V)) else (d_M_sum_31 T (d_M_sum_6 T n) x1 x2 V))))))
set_option maxRecDepth 20000 in
theorem t_M_sum_6 (T : Int32 → ai_V → Option (Int32 × ai_V)) (DT : Nat) (hT : ∀ {X : ai_S} {e : Nat}, DT ≤ e → ∀ (x1 : Int32) (V : ai_V) (r : (Int32 × ai_V)), T x1 V = some r → Rn e 171 0 (lv_args 0 [.ref 89, .int x1]) [] (SH ++ X) V (some (.int r.1)) (SH ++ X) r.2) {X : ai_S} {e : Nat} (hd : DT + 2 ≤ e ∧ 2 ≤ e)  : ∀ (n : Nat) (x1 : Int32) (x2 : Int32) (V : ai_V) (r : (Int32 × ai_V)), d_M_sum_6 T  n x1 x2 V = some r → Rn e 173 6 [(0, .ref 89), (1, .int x1), (2, .int x2)] [] (SH ++ X) V (some (.int r.1)) (SH ++ X) r.2 := by
  intro n
  induction n with
  | zero =>
    intro x1 x2 V r h
    cases h
  | succ n ih =>
    intro x1 x2 V r h
    rw [d_M_sum_6] at h
    refine rn_go 1 (pc' := 7) (l' := [(0, .ref 89), (1, .int x1), (2, .int x2)]) (st' := [.ref 89]) (S1 := (SH ++ X)) (V1 := V) rfl ?_
    obtain ⟨q3, hq3, h⟩ := ai_bd h
    refine rn_call rfl rfl rfl rfl rfl rfl (by omega) (t_M_fine (by omega) hq3) ?_
    rcases ai_if h with ⟨hc, h⟩ | ⟨hc, h⟩
    · refine rn_brT rfl rfl rfl rfl hc ?_
      refine rn_go 1 (pc' := 83) (l' := [(0, .ref 89), (1, .int x1), (2, .int x2)]) (st' := [.int x2]) (S1 := (SH ++ X)) (V1 := V) rfl ?_
      obtain rfl := Option.some.inj h
      exact rn_ret rfl rfl rfl
    · refine rn_brF rfl rfl rfl rfl hc ?_
      refine rn_go 1 (pc' := 14) (l' := [(0, .ref 89), (1, .int x1), (2, .int x2)]) (st' := [.ref 89]) (S1 := (SH ++ X)) (V1 := V) rfl ?_
      obtain ⟨q4, hq4, h⟩ := ai_bd h
      refine rn_call rfl rfl rfl rfl rfl rfl (by omega) (t_M_here (by omega) hq4) ?_
      refine rn_go 1 (pc' := 19) (l' := [(0, .ref 89), (1, .int x1), (2, .int x2)]) (st' := [.int (43 : Int32), .int q4]) (S1 := (SH ++ X)) (V1 := V) rfl ?_
      rcases ai_if h with ⟨hc, h⟩ | ⟨hc, h⟩
      · refine rn_brT rfl rfl rfl rfl hc ?_
        exact rn_sub [0, 1, 2] rfl rfl (t_M_sum_31 T DT hT (X := X) hd (d_M_sum_6 T n) (ih) x1 x2 V _ h)
      · refine rn_brF rfl rfl rfl rfl hc ?_
        refine rn_go 1 (pc' := 23) (l' := [(0, .ref 89), (1, .int x1), (2, .int x2)]) (st' := [.ref 89]) (S1 := (SH ++ X)) (V1 := V) rfl ?_
        obtain ⟨q5, hq5, h⟩ := ai_bd h
        refine rn_call rfl rfl rfl rfl rfl rfl (by omega) (t_M_here (by omega) hq5) ?_
        refine rn_go 1 (pc' := 28) (l' := [(0, .ref 89), (1, .int x1), (2, .int x2)]) (st' := [.int (45 : Int32), .int q5]) (S1 := (SH ++ X)) (V1 := V) rfl ?_
        rcases ai_if h with ⟨hc, h⟩ | ⟨hc, h⟩
        · refine rn_brT rfl rfl rfl rfl hc ?_
          refine rn_go 1 (pc' := 83) (l' := [(0, .ref 89), (1, .int x1), (2, .int x2)]) (st' := [.int x2]) (S1 := (SH ++ X)) (V1 := V) rfl ?_
          obtain rfl := Option.some.inj h
          exact rn_ret rfl rfl rfl
        · refine rn_brF rfl rfl rfl rfl hc ?_
          exact rn_sub [0, 1, 2] rfl rfl (t_M_sum_31 T DT hT (X := X) hd (d_M_sum_6 T n) (ih) x1 x2 V _ h)
def d_M_sum_B (T : Int32 → ai_V → Option (Int32 × ai_V)) (x1 : Int32) (V : ai_V) : Option (Int32 × ai_V) :=
  (d_M_product_B T x1 V).bind fun q6 => (d_M_sum_6 T ai_N x1 q6.1 q6.2)
set_option maxRecDepth 20000 in
theorem t_M_sum_B (T : Int32 → ai_V → Option (Int32 × ai_V)) (DT : Nat) (hT : ∀ {X : ai_S} {e : Nat}, DT ≤ e → ∀ (x1 : Int32) (V : ai_V) (r : (Int32 × ai_V)), T x1 V = some r → Rn e 171 0 (lv_args 0 [.ref 89, .int x1]) [] (SH ++ X) V (some (.int r.1)) (SH ++ X) r.2) {X : ai_S} {e : Nat} (hd : DT + 2 ≤ e ∧ 2 ≤ e) {x1 : Int32} {V : ai_V} {r : (Int32 × ai_V)} (h : d_M_sum_B T x1 V = some r) : Rn e 173 0 (lv_args 0 [.ref 89, .int x1]) [] (SH ++ X) V (some (.int r.1)) (SH ++ X) r.2 := by
  rw [d_M_sum_B] at h
  refine rn_go 2 (pc' := 2) (l' := [(0, .ref 89), (1, .int x1)]) (st' := [.int x1, .ref 89]) (S1 := (SH ++ X)) (V1 := V) rfl ?_
  obtain ⟨q6, hq6, h⟩ := ai_bd h
  refine rn_call rfl rfl rfl rfl rfl rfl (by omega) (t_M_product_B T DT hT (by omega) hq6) ?_
  refine rn_go 1 (pc' := 6) (l' := [(2, .int q6.1), (0, .ref 89), (1, .int x1)]) (st' := []) (S1 := (SH ++ X)) (V1 := q6.2) rfl ?_
  exact rn_sub [1, 2, 0] rfl rfl (t_M_sum_6 T DT hT (X := X) hd ai_N x1 q6.1 q6.2 _ h)
-- RentByTheWheelModel.held(I)I (89, None)
def d_M_held_B (T : Int32 → ai_V → Option (Int32 × ai_V)) (x1 : Int32) (V : ai_V) : Option (Int32 × ai_V) :=
  (d_M_sum_B T x1 V).bind fun q1 => ((d_M_passes (60 : Int32) q1.2).bind fun q2 => (if q2.1 = 0 then ((d_M_passes (62 : Int32) q2.2).bind fun q3 => (if q3.1 = 0 then ((d_M_passes (61 : Int32) q3.2).bind fun q4 => (if q4.1 = 0 then (some (q1.1, q4.2)) else ((d_M_sum_B T x1 q4.2).bind fun q5 => (if ¬ q1.1 = q5.1 then (some ((0 : Int32), q5.2)) else (some ((1 : Int32), q5.2)))))) else ((d_M_sum_B T x1 q3.2).bind fun q6 => (if q1.1 ≤ q6.1 then (some ((0 : Int32), q6.2)) else (some ((1 : Int32), q6.2)))))) else ((d_M_sum_B T x1 q2.2).bind fun q7 => (if q7.1 ≤ q1.1 then (some ((0 : Int32), q7.2)) else (some ((1 : Int32), q7.2))))))
set_option maxRecDepth 20000 in
theorem t_M_held_B (T : Int32 → ai_V → Option (Int32 × ai_V)) (DT : Nat) (hT : ∀ {X : ai_S} {e : Nat}, DT ≤ e → ∀ (x1 : Int32) (V : ai_V) (r : (Int32 × ai_V)), T x1 V = some r → Rn e 171 0 (lv_args 0 [.ref 89, .int x1]) [] (SH ++ X) V (some (.int r.1)) (SH ++ X) r.2) {X : ai_S} {e : Nat} (hd : DT + 3 ≤ e ∧ 3 ≤ e) {x1 : Int32} {V : ai_V} {r : (Int32 × ai_V)} (h : d_M_held_B T x1 V = some r) : Rn e 174 0 (lv_args 0 [.ref 89, .int x1]) [] (SH ++ X) V (some (.int r.1)) (SH ++ X) r.2 := by
  rw [d_M_held_B] at h
  refine rn_go 2 (pc' := 2) (l' := [(0, .ref 89), (1, .int x1)]) (st' := [.int x1, .ref 89]) (S1 := (SH ++ X)) (V1 := V) rfl ?_
  obtain ⟨q1, hq1, h⟩ := ai_bd h
  refine rn_call rfl rfl rfl rfl rfl rfl (by omega) (t_M_sum_B T DT hT (by omega) hq1) ?_
  refine rn_go 3 (pc' := 9) (l' := [(2, .int q1.1), (0, .ref 89), (1, .int x1)]) (st' := [.int (60 : Int32), .ref 89]) (S1 := (SH ++ X)) (V1 := q1.2) rfl ?_
  obtain ⟨q2, hq2, h⟩ := ai_bd h
  refine rn_call rfl rfl rfl rfl rfl rfl (by omega) (t_M_passes (by omega) hq2) ?_
  rcases ai_if h with ⟨hc, h⟩ | ⟨hc, h⟩
  · refine rn_brT rfl rfl rfl rfl hc ?_
    refine rn_go 2 (pc' := 33) (l' := [(2, .int q1.1), (0, .ref 89), (1, .int x1)]) (st' := [.int (62 : Int32), .ref 89]) (S1 := (SH ++ X)) (V1 := q2.2) rfl ?_
    obtain ⟨q3, hq3, h⟩ := ai_bd h
    refine rn_call rfl rfl rfl rfl rfl rfl (by omega) (t_M_passes (by omega) hq3) ?_
    rcases ai_if h with ⟨hc, h⟩ | ⟨hc, h⟩
    · refine rn_brT rfl rfl rfl rfl hc ?_
      refine rn_go 2 (pc' := 57) (l' := [(2, .int q1.1), (0, .ref 89), (1, .int x1)]) (st' := [.int (61 : Int32), .ref 89]) (S1 := (SH ++ X)) (V1 := q3.2) rfl ?_
      obtain ⟨q4, hq4, h⟩ := ai_bd h
      refine rn_call rfl rfl rfl rfl rfl rfl (by omega) (t_M_passes (by omega) hq4) ?_
      rcases ai_if h with ⟨hc, h⟩ | ⟨hc, h⟩
      · refine rn_brT rfl rfl rfl rfl hc ?_
        refine rn_go 1 (pc' := 79) (l' := [(2, .int q1.1), (0, .ref 89), (1, .int x1)]) (st' := [.int q1.1]) (S1 := (SH ++ X)) (V1 := q4.2) rfl ?_
        obtain rfl := Option.some.inj h
        exact rn_ret rfl rfl rfl
      · refine rn_brF rfl rfl rfl rfl hc ?_
        refine rn_go 3 (pc' := 66) (l' := [(2, .int q1.1), (0, .ref 89), (1, .int x1)]) (st' := [.int x1, .ref 89, .int q1.1]) (S1 := (SH ++ X)) (V1 := q4.2) rfl ?_
        obtain ⟨q5, hq5, h⟩ := ai_bd h
        refine rn_call rfl rfl rfl rfl rfl rfl (by omega) (t_M_sum_B T DT hT (by omega) hq5) ?_
        rcases ai_if h with ⟨hc, h⟩ | ⟨hc, h⟩
        · refine rn_brT rfl rfl rfl rfl hc ?_
          refine rn_go 1 (pc' := 77) (l' := [(2, .int q1.1), (0, .ref 89), (1, .int x1)]) (st' := [.int (0 : Int32)]) (S1 := (SH ++ X)) (V1 := q5.2) rfl ?_
          obtain rfl := Option.some.inj h
          exact rn_ret rfl rfl rfl
        · refine rn_brF rfl rfl rfl rfl hc ?_
          refine rn_go 2 (pc' := 77) (l' := [(2, .int q1.1), (0, .ref 89), (1, .int x1)]) (st' := [.int (1 : Int32)]) (S1 := (SH ++ X)) (V1 := q5.2) rfl ?_
          obtain rfl := Option.some.inj h
          exact rn_ret rfl rfl rfl
    · refine rn_brF rfl rfl rfl rfl hc ?_
      refine rn_go 3 (pc' := 42) (l' := [(2, .int q1.1), (0, .ref 89), (1, .int x1)]) (st' := [.int x1, .ref 89, .int q1.1]) (S1 := (SH ++ X)) (V1 := q3.2) rfl ?_
      obtain ⟨q6, hq6, h⟩ := ai_bd h
      refine rn_call rfl rfl rfl rfl rfl rfl (by omega) (t_M_sum_B T DT hT (by omega) hq6) ?_
      rcases ai_if h with ⟨hc, h⟩ | ⟨hc, h⟩
      · refine rn_brT rfl rfl rfl rfl hc ?_
        refine rn_go 1 (pc' := 53) (l' := [(2, .int q1.1), (0, .ref 89), (1, .int x1)]) (st' := [.int (0 : Int32)]) (S1 := (SH ++ X)) (V1 := q6.2) rfl ?_
        obtain rfl := Option.some.inj h
        exact rn_ret rfl rfl rfl
      · refine rn_brF rfl rfl rfl rfl hc ?_
        refine rn_go 2 (pc' := 53) (l' := [(2, .int q1.1), (0, .ref 89), (1, .int x1)]) (st' := [.int (1 : Int32)]) (S1 := (SH ++ X)) (V1 := q6.2) rfl ?_
        obtain rfl := Option.some.inj h
        exact rn_ret rfl rfl rfl
  · refine rn_brF rfl rfl rfl rfl hc ?_
    refine rn_go 3 (pc' := 18) (l' := [(2, .int q1.1), (0, .ref 89), (1, .int x1)]) (st' := [.int x1, .ref 89, .int q1.1]) (S1 := (SH ++ X)) (V1 := q2.2) rfl ?_
    obtain ⟨q7, hq7, h⟩ := ai_bd h
    refine rn_call rfl rfl rfl rfl rfl rfl (by omega) (t_M_sum_B T DT hT (by omega) hq7) ?_
    rcases ai_if h with ⟨hc, h⟩ | ⟨hc, h⟩
    · refine rn_brT rfl rfl rfl rfl hc ?_
      refine rn_go 1 (pc' := 29) (l' := [(2, .int q1.1), (0, .ref 89), (1, .int x1)]) (st' := [.int (0 : Int32)]) (S1 := (SH ++ X)) (V1 := q7.2) rfl ?_
      obtain rfl := Option.some.inj h
      exact rn_ret rfl rfl rfl
    · refine rn_brF rfl rfl rfl rfl hc ?_
      refine rn_go 2 (pc' := 29) (l' := [(2, .int q1.1), (0, .ref 89), (1, .int x1)]) (st' := [.int (1 : Int32)]) (S1 := (SH ++ X)) (V1 := q7.2) rfl ?_
      obtain rfl := Option.some.inj h
      exact rn_ret rfl rfl rfl
-- RentByTheWheelModel.thing(I)I (89, None)
def d_M_thing_176 (T : Int32 → ai_V → Option (Int32 × ai_V))  (x2 : Int32) (V : ai_V) : Option (Int32 × ai_V) :=
  if (gi (si V 89 18 ((gi V 89 18) + (1 : Int32))) 89 23) = 0 then (some ((0 : Int32), (si V 89 18 ((gi V 89 18) + (1 : Int32))))) else ((d_M_valueOf x2 (si V 89 18 ((gi V 89 18) + (1 : Int32)))).bind fun q1 => (some (q1, (si V 89 18 ((gi V 89 18) + (1 : Int32))))))
set_option maxRecDepth 20000 in
theorem t_M_thing_176 (T : Int32 → ai_V → Option (Int32 × ai_V)) (DT : Nat) (hT : ∀ {X : ai_S} {e : Nat}, DT ≤ e → ∀ (x1 : Int32) (V : ai_V) (r : (Int32 × ai_V)), T x1 V = some r → Rn e 171 0 (lv_args 0 [.ref 89, .int x1]) [] (SH ++ X) V (some (.int r.1)) (SH ++ X) r.2) {X : ai_S} {e : Nat} (hd : DT + 4 ≤ e ∧ 4 ≤ e)  (x2 : Int32) (V : ai_V) (r : (Int32 × ai_V)) (h : d_M_thing_176 T  x2 V = some r) : Rn e 171 176 [(0, .ref 89), (2, .int x2)] [] (SH ++ X) V (some (.int r.1)) (SH ++ X) r.2 := by
  rw [d_M_thing_176] at h
  refine rn_go 8 (pc' := 190) (l' := [(0, .ref 89), (2, .int x2)]) (st' := [.int (gi (si V 89 18 ((gi V 89 18) + (1 : Int32))) 89 23)]) (S1 := (SH ++ X)) (V1 := (si V 89 18 ((gi V 89 18) + (1 : Int32)))) rfl ?_
  rcases ai_if h with ⟨hc, h⟩ | ⟨hc, h⟩
  · refine rn_brT rfl rfl rfl rfl hc ?_
    refine rn_go 1 (pc' := 202) (l' := [(0, .ref 89), (2, .int x2)]) (st' := [.int (0 : Int32)]) (S1 := (SH ++ X)) (V1 := (si V 89 18 ((gi V 89 18) + (1 : Int32)))) rfl ?_
    obtain rfl := Option.some.inj h
    exact rn_ret rfl rfl rfl
  · refine rn_brF rfl rfl rfl rfl hc ?_
    refine rn_go 2 (pc' := 195) (l' := [(0, .ref 89), (2, .int x2)]) (st' := [.int x2, .ref 89]) (S1 := (SH ++ X)) (V1 := (si V 89 18 ((gi V 89 18) + (1 : Int32)))) rfl ?_
    obtain ⟨q1, hq1, h⟩ := ai_bd h
    refine rn_call rfl rfl rfl rfl rfl rfl (by omega) (t_M_valueOf (by omega) hq1) ?_
    refine rn_go 1 (pc' := 202) (l' := [(0, .ref 89), (2, .int x2)]) (st' := [.int q1]) (S1 := (SH ++ X)) (V1 := (si V 89 18 ((gi V 89 18) + (1 : Int32)))) rfl ?_
    obtain rfl := Option.some.inj h
    exact rn_ret rfl rfl rfl
def d_M_thing_83 (T : Int32 → ai_V → Option (Int32 × ai_V))  : Nat → Int32 → Int32 → ai_V → Option (Int32 × ai_V)
  | 0, _, _, _ => none
  | n + 1, x3, x4, V => if (3 : Int32) ≤ x4 then (some (x3, V)) else ((d_M_here  V).bind fun q2 => ((d_M_in q2 (48 : Int32) (57 : Int32) V).bind fun q3 => (if q3 = 0 then (some (x3, V)) else ((d_M_digit (0 : Int32) (9 : Int32) V).bind fun q4 => (d_M_thing_83 T n (((10 : Int32) * x3) + q4.1) (x4 + (1 : Int32)) q4.2)))))
set_option maxRecDepth 20000 in
theorem t_M_thing_83 (T : Int32 → ai_V → Option (Int32 × ai_V)) (DT : Nat) (hT : ∀ {X : ai_S} {e : Nat}, DT ≤ e → ∀ (x1 : Int32) (V : ai_V) (r : (Int32 × ai_V)), T x1 V = some r → Rn e 171 0 (lv_args 0 [.ref 89, .int x1]) [] (SH ++ X) V (some (.int r.1)) (SH ++ X) r.2) {X : ai_S} {e : Nat} (hd : DT + 4 ≤ e ∧ 4 ≤ e)  : ∀ (n : Nat) (x3 : Int32) (x4 : Int32) (V : ai_V) (r : (Int32 × ai_V)), d_M_thing_83 T  n x3 x4 V = some r → Rn e 171 83 [(0, .ref 89), (3, .int x3), (4, .int x4)] [] (SH ++ X) V (some (.int r.1)) (SH ++ X) r.2 := by
  intro n
  induction n with
  | zero =>
    intro x3 x4 V r h
    cases h
  | succ n ih =>
    intro x3 x4 V r h
    rw [d_M_thing_83] at h
    refine rn_go 2 (pc' := 86) (l' := [(0, .ref 89), (3, .int x3), (4, .int x4)]) (st' := [.int (3 : Int32), .int x4]) (S1 := (SH ++ X)) (V1 := V) rfl ?_
    rcases ai_if h with ⟨hc, h⟩ | ⟨hc, h⟩
    · refine rn_brT rfl rfl rfl rfl hc ?_
      refine rn_go 1 (pc' := 123) (l' := [(0, .ref 89), (3, .int x3), (4, .int x4)]) (st' := [.int x3]) (S1 := (SH ++ X)) (V1 := V) rfl ?_
      obtain rfl := Option.some.inj h
      exact rn_ret rfl rfl rfl
    · refine rn_brF rfl rfl rfl rfl hc ?_
      refine rn_go 1 (pc' := 90) (l' := [(0, .ref 89), (3, .int x3), (4, .int x4)]) (st' := [.ref 89]) (S1 := (SH ++ X)) (V1 := V) rfl ?_
      obtain ⟨q2, hq2, h⟩ := ai_bd h
      refine rn_call rfl rfl rfl rfl rfl rfl (by omega) (t_M_here (by omega) hq2) ?_
      refine rn_go 2 (pc' := 97) (l' := [(0, .ref 89), (3, .int x3), (4, .int x4)]) (st' := [.int (57 : Int32), .int (48 : Int32), .int q2]) (S1 := (SH ++ X)) (V1 := V) rfl ?_
      obtain ⟨q3, hq3, h⟩ := ai_bd h
      refine rn_call rfl rfl rfl rfl rfl rfl (by omega) (t_M_in (by omega) hq3) ?_
      rcases ai_if h with ⟨hc, h⟩ | ⟨hc, h⟩
      · refine rn_brT rfl rfl rfl rfl hc ?_
        refine rn_go 1 (pc' := 123) (l' := [(0, .ref 89), (3, .int x3), (4, .int x4)]) (st' := [.int x3]) (S1 := (SH ++ X)) (V1 := V) rfl ?_
        obtain rfl := Option.some.inj h
        exact rn_ret rfl rfl rfl
      · refine rn_brF rfl rfl rfl rfl hc ?_
        refine rn_go 6 (pc' := 111) (l' := [(0, .ref 89), (3, .int x3), (4, .int x4)]) (st' := [.int (9 : Int32), .int (0 : Int32), .ref 89, .int ((10 : Int32) * x3)]) (S1 := (SH ++ X)) (V1 := V) rfl ?_
        obtain ⟨q4, hq4, h⟩ := ai_bd h
        refine rn_call rfl rfl rfl rfl rfl rfl (by omega) (t_M_digit (by omega) hq4) ?_
        refine rn_go 4 (pc' := 83) (l' := [(4, .int (x4 + (1 : Int32))), (3, .int (((10 : Int32) * x3) + q4.1)), (0, .ref 89)]) (st' := []) (S1 := (SH ++ X)) (V1 := q4.2) rfl ?_
        exact rn_sub [2, 1, 0] rfl rfl (ih (((10 : Int32) * x3) + q4.1) (x4 + (1 : Int32)) q4.2 _ h)
def d_M_thing_67 (T : Int32 → ai_V → Option (Int32 × ai_V))  (x2 : Int32) (V : ai_V) : Option (Int32 × ai_V) :=
  (d_M_in x2 (48 : Int32) (57 : Int32) V).bind fun q5 => (if q5 = 0 then (if x2 = (116 : Int32) then (d_M_thing_176 T x2 V) else (if x2 = (112 : Int32) then (d_M_thing_176 T x2 V) else (if x2 = (119 : Int32) then (d_M_thing_176 T x2 V) else (if x2 = (108 : Int32) then (d_M_thing_176 T x2 V) else (if x2 = (110 : Int32) then (d_M_thing_176 T x2 V) else (if x2 = (113 : Int32) then (d_M_thing_176 T x2 V) else (if x2 = (121 : Int32) then (d_M_thing_176 T x2 V) else ((d_M_fault (gi V 89 18) V).bind fun q6 => (some ((0 : Int32), q6)))))))))) else (d_M_thing_83 T ai_N (0 : Int32) (0 : Int32) V))
set_option maxRecDepth 20000 in
theorem t_M_thing_67 (T : Int32 → ai_V → Option (Int32 × ai_V)) (DT : Nat) (hT : ∀ {X : ai_S} {e : Nat}, DT ≤ e → ∀ (x1 : Int32) (V : ai_V) (r : (Int32 × ai_V)), T x1 V = some r → Rn e 171 0 (lv_args 0 [.ref 89, .int x1]) [] (SH ++ X) V (some (.int r.1)) (SH ++ X) r.2) {X : ai_S} {e : Nat} (hd : DT + 4 ≤ e ∧ 4 ≤ e)  (x2 : Int32) (V : ai_V) (r : (Int32 × ai_V)) (h : d_M_thing_67 T  x2 V = some r) : Rn e 171 67 [(0, .ref 89), (2, .int x2)] [] (SH ++ X) V (some (.int r.1)) (SH ++ X) r.2 := by
  rw [d_M_thing_67] at h
  refine rn_go 3 (pc' := 72) (l' := [(0, .ref 89), (2, .int x2)]) (st' := [.int (57 : Int32), .int (48 : Int32), .int x2]) (S1 := (SH ++ X)) (V1 := V) rfl ?_
  obtain ⟨q5, hq5, h⟩ := ai_bd h
  refine rn_call rfl rfl rfl rfl rfl rfl (by omega) (t_M_in (by omega) hq5) ?_
  rcases ai_if h with ⟨hc, h⟩ | ⟨hc, h⟩
  · refine rn_brT rfl rfl rfl rfl hc ?_
    refine rn_go 2 (pc' := 127) (l' := [(0, .ref 89), (2, .int x2)]) (st' := [.int (116 : Int32), .int x2]) (S1 := (SH ++ X)) (V1 := V) rfl ?_
    rcases ai_if h with ⟨hc, h⟩ | ⟨hc, h⟩
    · refine rn_brT rfl rfl rfl rfl hc ?_
      exact rn_sub [0, 1] rfl rfl (t_M_thing_176 T DT hT (X := X) hd x2 V _ h)
    · refine rn_brF rfl rfl rfl rfl hc ?_
      refine rn_go 2 (pc' := 133) (l' := [(0, .ref 89), (2, .int x2)]) (st' := [.int (112 : Int32), .int x2]) (S1 := (SH ++ X)) (V1 := V) rfl ?_
      rcases ai_if h with ⟨hc, h⟩ | ⟨hc, h⟩
      · refine rn_brT rfl rfl rfl rfl hc ?_
        exact rn_sub [0, 1] rfl rfl (t_M_thing_176 T DT hT (X := X) hd x2 V _ h)
      · refine rn_brF rfl rfl rfl rfl hc ?_
        refine rn_go 2 (pc' := 139) (l' := [(0, .ref 89), (2, .int x2)]) (st' := [.int (119 : Int32), .int x2]) (S1 := (SH ++ X)) (V1 := V) rfl ?_
        rcases ai_if h with ⟨hc, h⟩ | ⟨hc, h⟩
        · refine rn_brT rfl rfl rfl rfl hc ?_
          exact rn_sub [0, 1] rfl rfl (t_M_thing_176 T DT hT (X := X) hd x2 V _ h)
        · refine rn_brF rfl rfl rfl rfl hc ?_
          refine rn_go 2 (pc' := 145) (l' := [(0, .ref 89), (2, .int x2)]) (st' := [.int (108 : Int32), .int x2]) (S1 := (SH ++ X)) (V1 := V) rfl ?_
          rcases ai_if h with ⟨hc, h⟩ | ⟨hc, h⟩
          · refine rn_brT rfl rfl rfl rfl hc ?_
            exact rn_sub [0, 1] rfl rfl (t_M_thing_176 T DT hT (X := X) hd x2 V _ h)
          · refine rn_brF rfl rfl rfl rfl hc ?_
            refine rn_go 2 (pc' := 151) (l' := [(0, .ref 89), (2, .int x2)]) (st' := [.int (110 : Int32), .int x2]) (S1 := (SH ++ X)) (V1 := V) rfl ?_
            rcases ai_if h with ⟨hc, h⟩ | ⟨hc, h⟩
            · refine rn_brT rfl rfl rfl rfl hc ?_
              exact rn_sub [0, 1] rfl rfl (t_M_thing_176 T DT hT (X := X) hd x2 V _ h)
            · refine rn_brF rfl rfl rfl rfl hc ?_
              refine rn_go 2 (pc' := 157) (l' := [(0, .ref 89), (2, .int x2)]) (st' := [.int (113 : Int32), .int x2]) (S1 := (SH ++ X)) (V1 := V) rfl ?_
              rcases ai_if h with ⟨hc, h⟩ | ⟨hc, h⟩
              · refine rn_brT rfl rfl rfl rfl hc ?_
                exact rn_sub [0, 1] rfl rfl (t_M_thing_176 T DT hT (X := X) hd x2 V _ h)
              · refine rn_brF rfl rfl rfl rfl hc ?_
                refine rn_go 2 (pc' := 163) (l' := [(0, .ref 89), (2, .int x2)]) (st' := [.int (121 : Int32), .int x2]) (S1 := (SH ++ X)) (V1 := V) rfl ?_
                rcases ai_if h with ⟨hc, h⟩ | ⟨hc, h⟩
                · refine rn_brT rfl rfl rfl rfl hc ?_
                  exact rn_sub [0, 1] rfl rfl (t_M_thing_176 T DT hT (X := X) hd x2 V _ h)
                · refine rn_brF rfl rfl rfl rfl hc ?_
                  refine rn_go 3 (pc' := 171) (l' := [(0, .ref 89), (2, .int x2)]) (st' := [.int (gi V 89 18), .ref 89]) (S1 := (SH ++ X)) (V1 := V) rfl ?_
                  obtain ⟨q6, hq6, h⟩ := ai_bd h
                  refine rn_call rfl rfl rfl rfl rfl rfl (by omega) (t_M_fault (by omega) hq6) ?_
                  refine rn_go 1 (pc' := 175) (l' := [(0, .ref 89), (2, .int x2)]) (st' := [.int (0 : Int32)]) (S1 := (SH ++ X)) (V1 := q6) rfl ?_
                  obtain rfl := Option.some.inj h
                  exact rn_ret rfl rfl rfl
  · refine rn_brF rfl rfl rfl rfl hc ?_
    refine rn_go 4 (pc' := 83) (l' := [(4, .int (0 : Int32)), (3, .int (0 : Int32)), (0, .ref 89), (2, .int x2)]) (st' := []) (S1 := (SH ++ X)) (V1 := V) rfl ?_
    exact rn_sub [2, 1, 0] rfl rfl (t_M_thing_83 T DT hT (X := X) hd ai_N (0 : Int32) (0 : Int32) V _ h)
def d_M_thing_B (T : Int32 → ai_V → Option (Int32 × ai_V)) (x1 : Int32) (V : ai_V) : Option (Int32 × ai_V) :=
  (d_M_passes (45 : Int32) V).bind fun q7 => (if q7.1 = 0 then ((d_M_fine  q7.2).bind fun q8 => (if ¬ q8 = 0 then ((d_M_here  q7.2).bind fun q9 => (if ¬ q9 = (40 : Int32) then (d_M_thing_67 T q9 q7.2) else (if (4 : Int32) ≤ x1 then (d_M_thing_67 T q9 q7.2) else ((d_M_held_B T (x1 + (1 : Int32)) (si q7.2 89 18 ((gi q7.2 89 18) + (1 : Int32)))).bind fun q10 => ((d_M_need (41 : Int32) q10.2).bind fun q11 => (some (q10.1, q11))))))) else (some ((0 : Int32), q7.2)))) else ((T x1 q7.2).bind fun q12 => (some ((-q12.1), q12.2))))
set_option maxRecDepth 20000 in
theorem t_M_thing_B (T : Int32 → ai_V → Option (Int32 × ai_V)) (DT : Nat) (hT : ∀ {X : ai_S} {e : Nat}, DT ≤ e → ∀ (x1 : Int32) (V : ai_V) (r : (Int32 × ai_V)), T x1 V = some r → Rn e 171 0 (lv_args 0 [.ref 89, .int x1]) [] (SH ++ X) V (some (.int r.1)) (SH ++ X) r.2) {X : ai_S} {e : Nat} (hd : DT + 4 ≤ e ∧ 4 ≤ e) {x1 : Int32} {V : ai_V} {r : (Int32 × ai_V)} (h : d_M_thing_B T x1 V = some r) : Rn e 171 0 (lv_args 0 [.ref 89, .int x1]) [] (SH ++ X) V (some (.int r.1)) (SH ++ X) r.2 := by
  rw [d_M_thing_B] at h
  refine rn_go 2 (pc' := 3) (l' := [(0, .ref 89), (1, .int x1)]) (st' := [.int (45 : Int32), .ref 89]) (S1 := (SH ++ X)) (V1 := V) rfl ?_
  obtain ⟨q7, hq7, h⟩ := ai_bd h
  refine rn_call rfl rfl rfl rfl rfl rfl (by omega) (t_M_passes (by omega) hq7) ?_
  rcases ai_if h with ⟨hc, h⟩ | ⟨hc, h⟩
  · refine rn_brT rfl rfl rfl rfl hc ?_
    refine rn_go 1 (pc' := 17) (l' := [(0, .ref 89), (1, .int x1)]) (st' := [.ref 89]) (S1 := (SH ++ X)) (V1 := q7.2) rfl ?_
    obtain ⟨q8, hq8, h⟩ := ai_bd h
    refine rn_call rfl rfl rfl rfl rfl rfl (by omega) (t_M_fine (by omega) hq8) ?_
    rcases ai_if h with ⟨hc, h⟩ | ⟨hc, h⟩
    · refine rn_brT rfl rfl rfl rfl hc ?_
      refine rn_go 1 (pc' := 26) (l' := [(0, .ref 89), (1, .int x1)]) (st' := [.ref 89]) (S1 := (SH ++ X)) (V1 := q7.2) rfl ?_
      obtain ⟨q9, hq9, h⟩ := ai_bd h
      refine rn_call rfl rfl rfl rfl rfl rfl (by omega) (t_M_here (by omega) hq9) ?_
      refine rn_go 3 (pc' := 33) (l' := [(2, .int q9), (0, .ref 89), (1, .int x1)]) (st' := [.int (40 : Int32), .int q9]) (S1 := (SH ++ X)) (V1 := q7.2) rfl ?_
      rcases ai_if h with ⟨hc, h⟩ | ⟨hc, h⟩
      · refine rn_brT rfl rfl rfl rfl hc ?_
        exact rn_sub [1, 0] rfl rfl (t_M_thing_67 T DT hT (X := X) hd q9 q7.2 _ h)
      · refine rn_brF rfl rfl rfl rfl hc ?_
        refine rn_go 2 (pc' := 38) (l' := [(2, .int q9), (0, .ref 89), (1, .int x1)]) (st' := [.int (4 : Int32), .int x1]) (S1 := (SH ++ X)) (V1 := q7.2) rfl ?_
        rcases ai_if h with ⟨hc, h⟩ | ⟨hc, h⟩
        · refine rn_brT rfl rfl rfl rfl hc ?_
          exact rn_sub [1, 0] rfl rfl (t_M_thing_67 T DT hT (X := X) hd q9 q7.2 _ h)
        · refine rn_brF rfl rfl rfl rfl hc ?_
          refine rn_go 10 (pc' := 55) (l' := [(2, .int q9), (0, .ref 89), (1, .int x1)]) (st' := [.int (x1 + (1 : Int32)), .ref 89]) (S1 := (SH ++ X)) (V1 := (si q7.2 89 18 ((gi q7.2 89 18) + (1 : Int32)))) rfl ?_
          obtain ⟨q10, hq10, h⟩ := ai_bd h
          refine rn_call rfl rfl rfl rfl rfl rfl (by omega) (t_M_held_B T DT hT (by omega) hq10) ?_
          refine rn_go 3 (pc' := 62) (l' := [(3, .int q10.1), (2, .int q9), (0, .ref 89), (1, .int x1)]) (st' := [.int (41 : Int32), .ref 89]) (S1 := (SH ++ X)) (V1 := q10.2) rfl ?_
          obtain ⟨q11, hq11, h⟩ := ai_bd h
          refine rn_call rfl rfl rfl rfl rfl rfl (by omega) (t_M_need (by omega) hq11) ?_
          refine rn_go 1 (pc' := 66) (l' := [(3, .int q10.1), (2, .int q9), (0, .ref 89), (1, .int x1)]) (st' := [.int q10.1]) (S1 := (SH ++ X)) (V1 := q11) rfl ?_
          obtain rfl := Option.some.inj h
          exact rn_ret rfl rfl rfl
    · refine rn_brF rfl rfl rfl rfl hc ?_
      refine rn_go 1 (pc' := 24) (l' := [(0, .ref 89), (1, .int x1)]) (st' := [.int (0 : Int32)]) (S1 := (SH ++ X)) (V1 := q7.2) rfl ?_
      obtain rfl := Option.some.inj h
      exact rn_ret rfl rfl rfl
  · refine rn_brF rfl rfl rfl rfl hc ?_
    refine rn_go 2 (pc' := 11) (l' := [(0, .ref 89), (1, .int x1)]) (st' := [.int x1, .ref 89]) (S1 := (SH ++ X)) (V1 := q7.2) rfl ?_
    obtain ⟨q12, hq12, h⟩ := ai_bd h
    refine rn_call rfl rfl rfl rfl rfl rfl (by omega) (hT (by omega) x1 q7.2 _ hq12) ?_
    refine rn_go 1 (pc' := 15) (l' := [(0, .ref 89), (1, .int x1)]) (st' := [.int (-q12.1)]) (S1 := (SH ++ X)) (V1 := q12.2) rfl ?_
    obtain rfl := Option.some.inj h
    exact rn_ret rfl rfl rfl
def d_M_thing_R : Nat → Int32 → ai_V → Option (Int32 × ai_V)
  | 0, _, _ => none
  | n + 1, x1, V => d_M_thing_B (d_M_thing_R n) x1 V
theorem t_M_thing_R : ∀ (n : Nat) {X : ai_S} {e : Nat} (hd : n * 4 + 4 ≤ e) (x1 : Int32) (V : ai_V) (r : (Int32 × ai_V)), d_M_thing_R n x1 V = some r → Rn e 171 0 (lv_args 0 [.ref 89, .int x1]) [] (SH ++ X) V (some (.int r.1)) (SH ++ X) r.2 := by
  intro n
  induction n with
  | zero =>
    intro X e hd x1 V r h
    cases h
  | succ n ih =>
    intro X e hd x1 V r h
    exact t_M_thing_B (d_M_thing_R n) (n * 4 + 4) (fun hd2 => ih hd2) (by omega) (show d_M_thing_B (d_M_thing_R n) x1 V = some r from h)
def d_M_thing : Int32 → ai_V → Option (Int32 × ai_V) := d_M_thing_R 80
theorem t_M_thing {X : ai_S} {e : Nat} (hd : 324 ≤ e) {x1 : Int32} {V : ai_V} {r : (Int32 × ai_V)} (h : d_M_thing x1 V = some r) : Rn e 171 0 (lv_args 0 [.ref 89, .int x1]) [] (SH ++ X) V (some (.int r.1)) (SH ++ X) r.2 := t_M_thing_R 80 (by omega) x1 V r h
def d_M_product : Int32 → ai_V → Option (Int32 × ai_V) := d_M_product_B d_M_thing
theorem t_M_product {X : ai_S} {e : Nat} (hd : 325 ≤ e) {x1 : Int32} {V : ai_V} {r : (Int32 × ai_V)} (h : d_M_product x1 V = some r) : Rn e 172 0 (lv_args 0 [.ref 89, .int x1]) [] (SH ++ X) V (some (.int r.1)) (SH ++ X) r.2 := t_M_product_B d_M_thing 324 (fun hd2 => t_M_thing_R 80 hd2) (by omega) h
def d_M_sum : Int32 → ai_V → Option (Int32 × ai_V) := d_M_sum_B d_M_thing
theorem t_M_sum {X : ai_S} {e : Nat} (hd : 326 ≤ e) {x1 : Int32} {V : ai_V} {r : (Int32 × ai_V)} (h : d_M_sum x1 V = some r) : Rn e 173 0 (lv_args 0 [.ref 89, .int x1]) [] (SH ++ X) V (some (.int r.1)) (SH ++ X) r.2 := t_M_sum_B d_M_thing 324 (fun hd2 => t_M_thing_R 80 hd2) (by omega) h
def d_M_held : Int32 → ai_V → Option (Int32 × ai_V) := d_M_held_B d_M_thing
theorem t_M_held {X : ai_S} {e : Nat} (hd : 327 ≤ e) {x1 : Int32} {V : ai_V} {r : (Int32 × ai_V)} (h : d_M_held x1 V = some r) : Rn e 174 0 (lv_args 0 [.ref 89, .int x1]) [] (SH ++ X) V (some (.int r.1)) (SH ++ X) r.2 := t_M_held_B d_M_thing 324 (fun hd2 => t_M_thing_R 80 hd2) (by omega) h
-- RentByTheWheelModel.rule()I (89,)
def d_M_rule_73  : Nat → Int32 → Int32 → ai_V → Option (Int32 × ai_V)
  | 0, _, _, _ => none
  | n + 1, x1, x2, V => if x1 ≤ x2 then (some ((0 : Int32), (si V 89 22 x1))) else (if ai_in x2 80 then (if ai_in x2 40 then (d_M_rule_73 n x1 (x2 + (1 : Int32)) (sa V 99 (x2).toNatClampNeg (vp_nar .byte (ga V 96 (x2).toNatClampNeg)))) else none) else none)
set_option maxRecDepth 20000 in
theorem t_M_rule_73 {X : ai_S} {e : Nat} (hd : 328 ≤ e)  : ∀ (n : Nat) (x1 : Int32) (x2 : Int32) (V : ai_V) (r : (Int32 × ai_V)), d_M_rule_73  n x1 x2 V = some r → Rn e 175 73 [(0, .ref 89), (1, .int x1), (2, .int x2)] [] (SH ++ X) V (some (.int r.1)) (SH ++ X) r.2 := by
  intro n
  induction n with
  | zero =>
    intro x1 x2 V r h
    cases h
  | succ n ih =>
    intro x1 x2 V r h
    rw [d_M_rule_73] at h
    refine rn_go 2 (pc' := 75) (l' := [(0, .ref 89), (1, .int x1), (2, .int x2)]) (st' := [.int x1, .int x2]) (S1 := (SH ++ X)) (V1 := V) rfl ?_
    rcases ai_if h with ⟨hc, h⟩ | ⟨hc, h⟩
    · refine rn_brT rfl rfl rfl rfl hc ?_
      refine rn_go 4 (pc' := 102) (l' := [(0, .ref 89), (1, .int x1), (2, .int x2)]) (st' := [.int (0 : Int32)]) (S1 := (SH ++ X)) (V1 := (si V 89 22 x1)) rfl ?_
      obtain rfl := Option.some.inj h
      exact rn_ret rfl rfl rfl
    · refine rn_brF rfl rfl rfl rfl hc ?_
      refine rn_go 6 (pc' := 88) (l' := [(0, .ref 89), (1, .int x1), (2, .int x2)]) (st' := [.int x2, .ref 96, .int x2, .ref 99]) (S1 := (SH ++ X)) (V1 := V) rfl ?_
      obtain ⟨hg, h⟩ := ai_gd h
      refine rg_bald (n := 80) rfl rfl hg ?_
      obtain ⟨hg, h⟩ := ai_gd h
      refine rg_bast (n := 40) rfl rfl hg ?_
      refine rn_go 2 (pc' := 73) (l' := [(2, .int (x2 + (1 : Int32))), (0, .ref 89), (1, .int x1)]) (st' := []) (S1 := (SH ++ X)) (V1 := (sa V 99 (x2).toNatClampNeg (vp_nar .byte (ga V 96 (x2).toNatClampNeg)))) rfl ?_
      exact rn_sub [1, 2, 0] rfl rfl (ih x1 (x2 + (1 : Int32)) (sa V 99 (x2).toNatClampNeg (vp_nar .byte (ga V 96 (x2).toNatClampNeg))) _ h)
def d_M_rule_71  (x1 : Int32) (V : ai_V) : Option (Int32 × ai_V) :=
  d_M_rule_73 ai_N x1 (0 : Int32) V
set_option maxRecDepth 20000 in
theorem t_M_rule_71 {X : ai_S} {e : Nat} (hd : 328 ≤ e)  (x1 : Int32) (V : ai_V) (r : (Int32 × ai_V)) (h : d_M_rule_71  x1 V = some r) : Rn e 175 71 [(0, .ref 89), (1, .int x1)] [] (SH ++ X) V (some (.int r.1)) (SH ++ X) r.2 := by
  rw [d_M_rule_71] at h
  refine rn_go 2 (pc' := 73) (l' := [(2, .int (0 : Int32)), (0, .ref 89), (1, .int x1)]) (st' := []) (S1 := (SH ++ X)) (V1 := V) rfl ?_
  exact rn_sub [1, 2, 0] rfl rfl (t_M_rule_73 (X := X) hd ai_N x1 (0 : Int32) V _ h)
def d_M_rule_57  (x1 : Int32) (V : ai_V) : Option (Int32 × ai_V) :=
  (d_M_fine  V).bind fun q1 => (if ¬ q1 = 0 then (d_M_rule_71 x1 V) else (some (((-1 : Int32) - (gi V 89 19)), V)))
set_option maxRecDepth 20000 in
theorem t_M_rule_57 {X : ai_S} {e : Nat} (hd : 328 ≤ e)  (x1 : Int32) (V : ai_V) (r : (Int32 × ai_V)) (h : d_M_rule_57  x1 V = some r) : Rn e 175 57 [(0, .ref 89), (1, .int x1)] [] (SH ++ X) V (some (.int r.1)) (SH ++ X) r.2 := by
  rw [d_M_rule_57] at h
  refine rn_go 1 (pc' := 58) (l' := [(0, .ref 89), (1, .int x1)]) (st' := [.ref 89]) (S1 := (SH ++ X)) (V1 := V) rfl ?_
  obtain ⟨q1, hq1, h⟩ := ai_bd h
  refine rn_call rfl rfl rfl rfl rfl rfl (by omega) (t_M_fine (by omega) hq1) ?_
  rcases ai_if h with ⟨hc, h⟩ | ⟨hc, h⟩
  · refine rn_brT rfl rfl rfl rfl hc ?_
    exact rn_sub [0, 1] rfl rfl (t_M_rule_71 (X := X) hd x1 V _ h)
  · refine rn_brF rfl rfl rfl rfl hc ?_
    refine rn_go 4 (pc' := 70) (l' := [(0, .ref 89), (1, .int x1)]) (st' := [.int ((-1 : Int32) - (gi V 89 19))]) (S1 := (SH ++ X)) (V1 := V) rfl ?_
    obtain rfl := Option.some.inj h
    exact rn_ret rfl rfl rfl
def d_M_rule  (V : ai_V) : Option (Int32 × ai_V) :=
  (d_M_begin (gi (si V 89 14 (0 : Int32)) 89 11) (40 : Int32) (si V 89 14 (0 : Int32))).bind fun q2 => (if (gi (si V 89 14 (0 : Int32)) 89 11) ≤ 0 then (d_M_rule_71 (gi (si V 89 14 (0 : Int32)) 89 11) (si (si q2 89 11 (0 : Int32)) 89 23 (0 : Int32))) else ((d_M_held (0 : Int32) (si (si q2 89 11 (0 : Int32)) 89 23 (0 : Int32))).bind fun q3 => (if (gi (si V 89 14 (0 : Int32)) 89 11) ≤ (gi q3.2 89 18) then (d_M_rule_57 (gi (si V 89 14 (0 : Int32)) 89 11) q3.2) else ((d_M_fault (gi q3.2 89 18) q3.2).bind fun q4 => (d_M_rule_57 (gi (si V 89 14 (0 : Int32)) 89 11) q4)))))
set_option maxRecDepth 20000 in
theorem t_M_rule {X : ai_S} {e : Nat} (hd : 328 ≤ e)  {V : ai_V} {r : (Int32 × ai_V)} (h : d_M_rule  V = some r) : Rn e 175 0 (lv_args 0 [.ref 89]) [] (SH ++ X) V (some (.int r.1)) (SH ++ X) r.2 := by
  rw [d_M_rule] at h
  refine rn_go 11 (pc' := 18) (l' := [(1, .int (gi (si V 89 14 (0 : Int32)) 89 11)), (0, .ref 89)]) (st' := [.int (40 : Int32), .int (gi (si V 89 14 (0 : Int32)) 89 11), .ref 96, .ref 89]) (S1 := (SH ++ X)) (V1 := (si V 89 14 (0 : Int32))) rfl ?_
  obtain ⟨q2, hq2, h⟩ := ai_bd h
  refine rn_call rfl rfl rfl rfl rfl rfl (by omega) (t_M_begin (by omega) hq2) ?_
  refine rn_go 5 (pc' := 28) (l' := [(1, .int (gi (si V 89 14 (0 : Int32)) 89 11)), (0, .ref 89)]) (st' := [.int (0 : Int32), .ref 89]) (S1 := (SH ++ X)) (V1 := (si q2 89 11 (0 : Int32))) rfl ?_
  refine rg_pZ (z := 0) rfl rfl rfl (by decide) ?_
  refine rn_go 1 (pc' := 32) (l' := [(1, .int (gi (si V 89 14 (0 : Int32)) 89 11)), (0, .ref 89)]) (st' := [.int (gi (si V 89 14 (0 : Int32)) 89 11)]) (S1 := (SH ++ X)) (V1 := (si (si q2 89 11 (0 : Int32)) 89 23 (0 : Int32))) rfl ?_
  rcases ai_if h with ⟨hc, h⟩ | ⟨hc, h⟩
  · refine rn_brT rfl rfl rfl rfl hc ?_
    exact rn_sub [1, 0] rfl rfl (t_M_rule_71 (X := X) hd (gi (si V 89 14 (0 : Int32)) 89 11) (si (si q2 89 11 (0 : Int32)) 89 23 (0 : Int32)) _ h)
  · refine rn_brF rfl rfl rfl rfl hc ?_
    refine rn_go 2 (pc' := 37) (l' := [(1, .int (gi (si V 89 14 (0 : Int32)) 89 11)), (0, .ref 89)]) (st' := [.int (0 : Int32), .ref 89]) (S1 := (SH ++ X)) (V1 := (si (si q2 89 11 (0 : Int32)) 89 23 (0 : Int32))) rfl ?_
    obtain ⟨q3, hq3, h⟩ := ai_bd h
    refine rn_call rfl rfl rfl rfl rfl rfl (by omega) (t_M_held (by omega) hq3) ?_
    refine rn_go 4 (pc' := 46) (l' := [(1, .int (gi (si V 89 14 (0 : Int32)) 89 11)), (0, .ref 89)]) (st' := [.int (gi (si V 89 14 (0 : Int32)) 89 11), .int (gi q3.2 89 18)]) (S1 := (SH ++ X)) (V1 := q3.2) rfl ?_
    rcases ai_if h with ⟨hc, h⟩ | ⟨hc, h⟩
    · refine rn_brT rfl rfl rfl rfl hc ?_
      exact rn_sub [1, 0] rfl rfl (t_M_rule_57 (X := X) hd (gi (si V 89 14 (0 : Int32)) 89 11) q3.2 _ h)
    · refine rn_brF rfl rfl rfl rfl hc ?_
      refine rn_go 3 (pc' := 54) (l' := [(1, .int (gi (si V 89 14 (0 : Int32)) 89 11)), (0, .ref 89)]) (st' := [.int (gi q3.2 89 18), .ref 89]) (S1 := (SH ++ X)) (V1 := q3.2) rfl ?_
      obtain ⟨q4, hq4, h⟩ := ai_bd h
      refine rn_call rfl rfl rfl rfl rfl rfl (by omega) (t_M_fault (by omega) hq4) ?_
      exact rn_sub [1, 0] rfl rfl (t_M_rule_57 (X := X) hd (gi (si V 89 14 (0 : Int32)) 89 11) q4 _ h)
