/-! ===== printed by wip/gen/gen.py: methods as functions, and that the machine runs so ===== -/
-- RentByTheWheelModel.isOne(I)Z (89, None)
def d_M_isOne (x1 : Int32) (V : ai_V) : Option Int32 :=
  (d_M_in x1 (0 : Int32) ((gi V 89 1) - (1 : Int32)) V).bind fun q1 => (if q1 = 0 ∨ q1 = 1 then some q1 else none)
set_option maxRecDepth 20000 in
theorem t_M_isOne {X : ai_S} {e : Nat} (hd : 1 ≤ e) {x1 : Int32} {V : ai_V} {r : Int32} (h : d_M_isOne x1 V = some r) : Rn e 176 0 (lv_args 0 [.ref 89, .int x1]) [] (SH ++ X) V (some (.int r)) (SH ++ X) V := by
  rw [d_M_isOne] at h
  refine rn_go 6 (pc' := 8) (l' := [(0, .ref 89), (1, .int x1)]) (st' := [.int ((gi V 89 1) - (1 : Int32)), .int (0 : Int32), .int x1]) (S1 := (SH ++ X)) (V1 := V) rfl ?_
  obtain ⟨q1, hq1, h⟩ := ai_bd h
  refine rn_call rfl rfl rfl rfl rfl rfl (by omega) (t_M_in (by omega) hq1) ?_
  obtain ⟨hg, h⟩ := ai_gd h
  obtain rfl := Option.some.inj h
  exact rg_zret rfl hg
-- RentByTheWheelModel.lost()I (89,)
def d_M_lost  (V : ai_V) : Option (Int32 × ai_V) :=
  some ((0 : Int32), (si V 89 14 (1 : Int32)))
set_option maxRecDepth 20000 in
theorem t_M_lost {X : ai_S} {e : Nat} (hd : 0 ≤ e)  {V : ai_V} {r : (Int32 × ai_V)} (h : d_M_lost  V = some r) : Rn e 177 0 (lv_args 0 [.ref 89]) [] (SH ++ X) V (some (.int r.1)) (SH ++ X) r.2 := by
  rw [d_M_lost] at h
  refine rn_go 4 (pc' := 6) (l' := [(0, .ref 89)]) (st' := [.int (0 : Int32)]) (S1 := (SH ++ X)) (V1 := (si V 89 14 (1 : Int32))) rfl ?_
  obtain rfl := Option.some.inj h
  exact rn_ret rfl rfl rfl
-- RentByTheWheelModel.wantOf(II)I (89, None, None)
def d_M_wantOf (x1 : Int32) (x2 : Int32) (V : ai_V) : Option Int32 :=
  if ai_in x1 6 then (if (ga V 95 (x1).toNatClampNeg) = 0 then none else (if ai_in (((12 : Int32) * x1) + ((x2 - x2 / (12 : Int32) * (12 : Int32)) - (x2 - x2 / (12 : Int32) * (12 : Int32)) / (ga V 95 (x1).toNatClampNeg) * (ga V 95 (x1).toNatClampNeg))) 72 then (some (ga V 94 ((((12 : Int32) * x1) + ((x2 - x2 / (12 : Int32) * (12 : Int32)) - (x2 - x2 / (12 : Int32) * (12 : Int32)) / (ga V 95 (x1).toNatClampNeg) * (ga V 95 (x1).toNatClampNeg)))).toNatClampNeg)) else none)) else none
set_option maxRecDepth 20000 in
theorem t_M_wantOf {X : ai_S} {e : Nat} (hd : 0 ≤ e) {x1 : Int32} {x2 : Int32} {V : ai_V} {r : Int32} (h : d_M_wantOf x1 x2 V = some r) : Rn e 178 0 (lv_args 0 [.ref 89, .int x1, .int x2]) [] (SH ++ X) V (some (.int r)) (SH ++ X) V := by
  rw [d_M_wantOf] at h
  refine rn_go 7 (pc' := 11) (l' := [(0, .ref 89), (1, .int x1), (2, .int x2)]) (st' := [.int (12 : Int32), .int x2, .int ((12 : Int32) * x1), .ref 94]) (S1 := (SH ++ X)) (V1 := V) rfl ?_
  refine rg_irem rfl (by decide) ?_
  refine rn_go 3 (pc' := 17) (l' := [(0, .ref 89), (1, .int x1), (2, .int x2)]) (st' := [.int x1, .ref 95, .int (x2 - x2 / (12 : Int32) * (12 : Int32)), .int ((12 : Int32) * x1), .ref 94]) (S1 := (SH ++ X)) (V1 := V) rfl ?_
  obtain ⟨hg, h⟩ := ai_gd h
  refine rg_iald (n := 6) rfl rfl hg ?_
  obtain ⟨hg, h⟩ := ai_gn h
  refine rg_irem rfl hg ?_
  refine rn_go 1 (pc' := 20) (l' := [(0, .ref 89), (1, .int x1), (2, .int x2)]) (st' := [.int (((12 : Int32) * x1) + ((x2 - x2 / (12 : Int32) * (12 : Int32)) - (x2 - x2 / (12 : Int32) * (12 : Int32)) / (ga V 95 (x1).toNatClampNeg) * (ga V 95 (x1).toNatClampNeg))), .ref 94]) (S1 := (SH ++ X)) (V1 := V) rfl ?_
  obtain ⟨hg, h⟩ := ai_gd h
  refine rg_iald (n := 72) rfl rfl hg ?_
  obtain rfl := Option.some.inj h
  exact rn_ret rfl rfl rfl
-- RentByTheWheelModel.lodger(II)I (89, None, None)
def d_M_lodger_23   (V : ai_V) : Option (Int32 × ai_V) :=
  (d_M_lost  V).bind fun q1 => (some (q1.1, q1.2))
set_option maxRecDepth 20000 in
theorem t_M_lodger_23 {X : ai_S} {e : Nat} (hd : 2 ≤ e)   (V : ai_V) (r : (Int32 × ai_V)) (h : d_M_lodger_23   V = some r) : Rn e 179 23 [(0, .ref 89)] [] (SH ++ X) V (some (.int r.1)) (SH ++ X) r.2 := by
  rw [d_M_lodger_23] at h
  refine rn_go 1 (pc' := 24) (l' := [(0, .ref 89)]) (st' := [.ref 89]) (S1 := (SH ++ X)) (V1 := V) rfl ?_
  obtain ⟨q1, hq1, h⟩ := ai_bd h
  refine rn_call rfl rfl rfl rfl rfl rfl (by omega) (t_M_lost (by omega) hq1) ?_
  obtain rfl := Option.some.inj h
  exact rn_ret rfl rfl rfl
def d_M_lodger_126  : Nat → Int32 → Int32 → Int32 → ai_V → Option (Int32 × ai_V)
  | 0, _, _, _, _ => none
  | n + 1, x1, x3, x4, V => if (12 : Int32) ≤ x4 then (some (x3, V)) else ((d_M_wantOf x1 x4 V).bind fun q2 => (d_M_lodger_126 n x1 (x3 + q2) (x4 + (1 : Int32)) V))
set_option maxRecDepth 20000 in
theorem t_M_lodger_126 {X : ai_S} {e : Nat} (hd : 2 ≤ e)  : ∀ (n : Nat) (x1 : Int32) (x3 : Int32) (x4 : Int32) (V : ai_V) (r : (Int32 × ai_V)), d_M_lodger_126  n x1 x3 x4 V = some r → Rn e 179 126 [(0, .ref 89), (1, .int x1), (3, .int x3), (4, .int x4)] [] (SH ++ X) V (some (.int r.1)) (SH ++ X) r.2 := by
  intro n
  induction n with
  | zero =>
    intro x1 x3 x4 V r h
    cases h
  | succ n ih =>
    intro x1 x3 x4 V r h
    rw [d_M_lodger_126] at h
    refine rn_go 2 (pc' := 130) (l' := [(0, .ref 89), (1, .int x1), (3, .int x3), (4, .int x4)]) (st' := [.int (12 : Int32), .int x4]) (S1 := (SH ++ X)) (V1 := V) rfl ?_
    rcases ai_if h with ⟨hc, h⟩ | ⟨hc, h⟩
    · refine rn_brT rfl rfl rfl rfl hc ?_
      refine rn_go 1 (pc' := 150) (l' := [(0, .ref 89), (1, .int x1), (3, .int x3), (4, .int x4)]) (st' := [.int x3]) (S1 := (SH ++ X)) (V1 := V) rfl ?_
      obtain rfl := Option.some.inj h
      exact rn_ret rfl rfl rfl
    · refine rn_brF rfl rfl rfl rfl hc ?_
      refine rn_go 4 (pc' := 138) (l' := [(0, .ref 89), (1, .int x1), (3, .int x3), (4, .int x4)]) (st' := [.int x4, .int x1, .ref 89, .int x3]) (S1 := (SH ++ X)) (V1 := V) rfl ?_
      obtain ⟨q2, hq2, h⟩ := ai_bd h
      refine rn_call rfl rfl rfl rfl rfl rfl (by omega) (t_M_wantOf (by omega) hq2) ?_
      refine rn_go 4 (pc' := 126) (l' := [(4, .int (x4 + (1 : Int32))), (3, .int (x3 + q2)), (0, .ref 89), (1, .int x1)]) (st' := []) (S1 := (SH ++ X)) (V1 := V) rfl ?_
      exact rn_sub [2, 3, 1, 0] rfl rfl (ih x1 (x3 + q2) (x4 + (1 : Int32)) V _ h)
def d_M_lodger (x1 : Int32) (x2 : Int32) (V : ai_V) : Option (Int32 × ai_V) :=
  (d_M_isOne x1 (si V 89 14 (0 : Int32))).bind fun q3 => (if q3 = 0 then (d_M_lodger_23 (si V 89 14 (0 : Int32))) else ((d_M_in x2 (0 : Int32) (6 : Int32) (si V 89 14 (0 : Int32))).bind fun q4 => (if ¬ q4 = 0 then (if x2 = (0 : Int32) then (if ai_in x1 6 then (some ((ga (si V 89 14 (0 : Int32)) 91 (x1).toNatClampNeg), (si V 89 14 (0 : Int32)))) else none) else (if x2 = (1 : Int32) then (if ai_in x1 6 then (some ((ga (si V 89 14 (0 : Int32)) 92 (x1).toNatClampNeg), (si V 89 14 (0 : Int32)))) else none) else (if x2 = (2 : Int32) then (if ai_in x1 6 then (some ((ga (si V 89 14 (0 : Int32)) 93 (x1).toNatClampNeg), (si V 89 14 (0 : Int32)))) else none) else (if x2 = (3 : Int32) then ((d_M_wantOf x1 (ga (si V 89 14 (0 : Int32)) 90 ((13 : Int32)).toNatClampNeg) (si V 89 14 (0 : Int32))).bind fun q5 => (some (q5, (si V 89 14 (0 : Int32))))) else (if x2 = (4 : Int32) then (if ai_in ((6 : Int32) + x1) 14 then (some ((ga (si V 89 14 (0 : Int32)) 90 (((6 : Int32) + x1)).toNatClampNeg), (si V 89 14 (0 : Int32)))) else none) else (if x2 = (5 : Int32) then (some ((((gi (si V 89 14 (0 : Int32)) 89 7) >>> (x1 &&& 31)) &&& (1 : Int32)), (si V 89 14 (0 : Int32)))) else (d_M_lodger_126 ai_N x1 (0 : Int32) (0 : Int32) (si V 89 14 (0 : Int32))))))))) else (d_M_lodger_23 (si V 89 14 (0 : Int32))))))
set_option maxRecDepth 20000 in
theorem t_M_lodger {X : ai_S} {e : Nat} (hd : 2 ≤ e) {x1 : Int32} {x2 : Int32} {V : ai_V} {r : (Int32 × ai_V)} (h : d_M_lodger x1 x2 V = some r) : Rn e 179 0 (lv_args 0 [.ref 89, .int x1, .int x2]) [] (SH ++ X) V (some (.int r.1)) (SH ++ X) r.2 := by
  rw [d_M_lodger] at h
  refine rn_go 5 (pc' := 7) (l' := [(0, .ref 89), (1, .int x1), (2, .int x2)]) (st' := [.int x1, .ref 89]) (S1 := (SH ++ X)) (V1 := (si V 89 14 (0 : Int32))) rfl ?_
  obtain ⟨q3, hq3, h⟩ := ai_bd h
  refine rn_call rfl rfl rfl rfl rfl rfl (by omega) (t_M_isOne (by omega) hq3) ?_
  rcases ai_if h with ⟨hc, h⟩ | ⟨hc, h⟩
  · refine rn_brT rfl rfl rfl rfl hc ?_
    exact rn_sub [0] rfl rfl (t_M_lodger_23 (X := X) hd (si V 89 14 (0 : Int32)) _ h)
  · refine rn_brF rfl rfl rfl rfl hc ?_
    refine rn_go 3 (pc' := 17) (l' := [(0, .ref 89), (1, .int x1), (2, .int x2)]) (st' := [.int (6 : Int32), .int (0 : Int32), .int x2]) (S1 := (SH ++ X)) (V1 := (si V 89 14 (0 : Int32))) rfl ?_
    obtain ⟨q4, hq4, h⟩ := ai_bd h
    refine rn_call rfl rfl rfl rfl rfl rfl (by omega) (t_M_in (by omega) hq4) ?_
    rcases ai_if h with ⟨hc, h⟩ | ⟨hc, h⟩
    · refine rn_brT rfl rfl rfl rfl hc ?_
      refine rn_go 1 (pc' := 29) (l' := [(0, .ref 89), (1, .int x1), (2, .int x2)]) (st' := [.int x2]) (S1 := (SH ++ X)) (V1 := (si V 89 14 (0 : Int32))) rfl ?_
      rcases ai_if h with ⟨hs0, h⟩ | ⟨hs0, h⟩
      · refine rn_sw rfl rfl rfl rfl (ai_sel_t hs0) ?_
        refine rn_go 3 (pc' := 73) (l' := [(0, .ref 89), (1, .int x1), (2, .int x2)]) (st' := [.int x1, .ref 91]) (S1 := (SH ++ X)) (V1 := (si V 89 14 (0 : Int32))) rfl ?_
        obtain ⟨hg, h⟩ := ai_gd h
        refine rg_iald (n := 6) rfl rfl hg ?_
        obtain rfl := Option.some.inj h
        exact rn_ret rfl rfl rfl
      · rcases ai_if h with ⟨hs1, h⟩ | ⟨hs1, h⟩
        · refine rn_sw rfl rfl rfl rfl (ai_sel_f hs0 (ai_sel_t hs1)) ?_
          refine rn_go 3 (pc' := 80) (l' := [(0, .ref 89), (1, .int x1), (2, .int x2)]) (st' := [.int x1, .ref 92]) (S1 := (SH ++ X)) (V1 := (si V 89 14 (0 : Int32))) rfl ?_
          obtain ⟨hg, h⟩ := ai_gd h
          refine rg_iald (n := 6) rfl rfl hg ?_
          obtain rfl := Option.some.inj h
          exact rn_ret rfl rfl rfl
        · rcases ai_if h with ⟨hs2, h⟩ | ⟨hs2, h⟩
          · refine rn_sw rfl rfl rfl rfl (ai_sel_f hs0 (ai_sel_f hs1 (ai_sel_t hs2))) ?_
            refine rn_go 3 (pc' := 87) (l' := [(0, .ref 89), (1, .int x1), (2, .int x2)]) (st' := [.int x1, .ref 93]) (S1 := (SH ++ X)) (V1 := (si V 89 14 (0 : Int32))) rfl ?_
            obtain ⟨hg, h⟩ := ai_gd h
            refine rg_iald (n := 6) rfl rfl hg ?_
            obtain rfl := Option.some.inj h
            exact rn_ret rfl rfl rfl
          · rcases ai_if h with ⟨hs3, h⟩ | ⟨hs3, h⟩
            · refine rn_sw rfl rfl rfl rfl (ai_sel_f hs0 (ai_sel_f hs1 (ai_sel_f hs2 (ai_sel_t hs3)))) ?_
              refine rn_go 5 (pc' := 97) (l' := [(0, .ref 89), (1, .int x1), (2, .int x2)]) (st' := [.int (13 : Int32), .ref 90, .int x1, .ref 89]) (S1 := (SH ++ X)) (V1 := (si V 89 14 (0 : Int32))) rfl ?_
              refine rg_iald (n := 14) rfl rfl (by decide) ?_
              obtain ⟨q5, hq5, h⟩ := ai_bd h
              refine rn_call rfl rfl rfl rfl rfl rfl (by omega) (t_M_wantOf (by omega) hq5) ?_
              obtain rfl := Option.some.inj h
              exact rn_ret rfl rfl rfl
            · rcases ai_if h with ⟨hs4, h⟩ | ⟨hs4, h⟩
              · refine rn_sw rfl rfl rfl rfl (ai_sel_f hs0 (ai_sel_f hs1 (ai_sel_f hs2 (ai_sel_f hs3 (ai_sel_t hs4))))) ?_
                refine rn_go 5 (pc' := 110) (l' := [(0, .ref 89), (1, .int x1), (2, .int x2)]) (st' := [.int ((6 : Int32) + x1), .ref 90]) (S1 := (SH ++ X)) (V1 := (si V 89 14 (0 : Int32))) rfl ?_
                obtain ⟨hg, h⟩ := ai_gd h
                refine rg_iald (n := 14) rfl rfl hg ?_
                obtain rfl := Option.some.inj h
                exact rn_ret rfl rfl rfl
              · rcases ai_if h with ⟨hs5, h⟩ | ⟨hs5, h⟩
                · refine rn_sw rfl rfl rfl rfl (ai_sel_f hs0 (ai_sel_f hs1 (ai_sel_f hs2 (ai_sel_f hs3 (ai_sel_f hs4 (ai_sel_t hs5)))))) ?_
                  refine rn_go 6 (pc' := 120) (l' := [(0, .ref 89), (1, .int x1), (2, .int x2)]) (st' := [.int (((gi (si V 89 14 (0 : Int32)) 89 7) >>> (x1 &&& 31)) &&& (1 : Int32))]) (S1 := (SH ++ X)) (V1 := (si V 89 14 (0 : Int32))) rfl ?_
                  obtain rfl := Option.some.inj h
                  exact rn_ret rfl rfl rfl
                · refine rn_sw rfl rfl rfl rfl (ai_sel_f hs0 (ai_sel_f hs1 (ai_sel_f hs2 (ai_sel_f hs3 (ai_sel_f hs4 (ai_sel_f hs5 rfl)))))) ?_
                  refine rn_go 4 (pc' := 126) (l' := [(4, .int (0 : Int32)), (3, .int (0 : Int32)), (0, .ref 89), (1, .int x1), (2, .int x2)]) (st' := []) (S1 := (SH ++ X)) (V1 := (si V 89 14 (0 : Int32))) rfl ?_
                  exact rn_sub [2, 3, 1, 0] rfl rfl (t_M_lodger_126 (X := X) hd ai_N x1 (0 : Int32) (0 : Int32) (si V 89 14 (0 : Int32)) _ h)
    · refine rn_brF rfl rfl rfl rfl hc ?_
      exact rn_sub [0] rfl rfl (t_M_lodger_23 (X := X) hd (si V 89 14 (0 : Int32)) _ h)
-- RentByTheWheelModel.debt(I)I (89, None)
def d_M_debt (x1 : Int32) (V : ai_V) : Option (Int32 × ai_V) :=
  (d_M_isOne x1 (si V 89 14 (0 : Int32))).bind fun q1 => (if q1 = 0 then ((d_M_lost  (si V 89 14 (0 : Int32))).bind fun q2 => (some (q2.1, q2.2))) else (if ai_in x1 14 then (some ((ga (si V 89 14 (0 : Int32)) 90 (x1).toNatClampNeg), (si V 89 14 (0 : Int32)))) else none))
set_option maxRecDepth 20000 in
theorem t_M_debt {X : ai_S} {e : Nat} (hd : 2 ≤ e) {x1 : Int32} {V : ai_V} {r : (Int32 × ai_V)} (h : d_M_debt x1 V = some r) : Rn e 180 0 (lv_args 0 [.ref 89, .int x1]) [] (SH ++ X) V (some (.int r.1)) (SH ++ X) r.2 := by
  rw [d_M_debt] at h
  refine rn_go 5 (pc' := 7) (l' := [(0, .ref 89), (1, .int x1)]) (st' := [.int x1, .ref 89]) (S1 := (SH ++ X)) (V1 := (si V 89 14 (0 : Int32))) rfl ?_
  obtain ⟨q1, hq1, h⟩ := ai_bd h
  refine rn_call rfl rfl rfl rfl rfl rfl (by omega) (t_M_isOne (by omega) hq1) ?_
  rcases ai_if h with ⟨hc, h⟩ | ⟨hc, h⟩
  · refine rn_brT rfl rfl rfl rfl hc ?_
    refine rn_go 1 (pc' := 23) (l' := [(0, .ref 89), (1, .int x1)]) (st' := [.ref 89]) (S1 := (SH ++ X)) (V1 := (si V 89 14 (0 : Int32))) rfl ?_
    obtain ⟨q2, hq2, h⟩ := ai_bd h
    refine rn_call rfl rfl rfl rfl rfl rfl (by omega) (t_M_lost (by omega) hq2) ?_
    obtain rfl := Option.some.inj h
    exact rn_ret rfl rfl rfl
  · refine rn_brF rfl rfl rfl rfl hc ?_
    refine rn_go 3 (pc' := 18) (l' := [(0, .ref 89), (1, .int x1)]) (st' := [.int x1, .ref 90]) (S1 := (SH ++ X)) (V1 := (si V 89 14 (0 : Int32))) rfl ?_
    obtain ⟨hg, h⟩ := ai_gd h
    refine rg_iald (n := 14) rfl rfl hg ?_
    refine rn_go 1 (pc' := 26) (l' := [(0, .ref 89), (1, .int x1)]) (st' := [.int (ga (si V 89 14 (0 : Int32)) 90 (x1).toNatClampNeg)]) (S1 := (SH ++ X)) (V1 := (si V 89 14 (0 : Int32))) rfl ?_
    obtain rfl := Option.some.inj h
    exact rn_ret rfl rfl rfl
-- RentByTheWheelModel.areTwo(II)Z (89, None, None)
def d_M_areTwo (x1 : Int32) (x2 : Int32) (V : ai_V) : Option Int32 :=
  (d_M_isOne x1 V).bind fun q1 => (if q1 = 0 then (some (0 : Int32)) else ((d_M_isOne x2 V).bind fun q2 => (if q2 = 0 then (some (0 : Int32)) else (if x1 = x2 then (some (0 : Int32)) else (some (1 : Int32))))))
set_option maxRecDepth 20000 in
theorem t_M_areTwo {X : ai_S} {e : Nat} (hd : 2 ≤ e) {x1 : Int32} {x2 : Int32} {V : ai_V} {r : Int32} (h : d_M_areTwo x1 x2 V = some r) : Rn e 181 0 (lv_args 0 [.ref 89, .int x1, .int x2]) [] (SH ++ X) V (some (.int r)) (SH ++ X) V := by
  rw [d_M_areTwo] at h
  refine rn_go 2 (pc' := 2) (l' := [(0, .ref 89), (1, .int x1), (2, .int x2)]) (st' := [.int x1, .ref 89]) (S1 := (SH ++ X)) (V1 := V) rfl ?_
  obtain ⟨q1, hq1, h⟩ := ai_bd h
  refine rn_call rfl rfl rfl rfl rfl rfl (by omega) (t_M_isOne (by omega) hq1) ?_
  rcases ai_if h with ⟨hc, h⟩ | ⟨hc, h⟩
  · refine rn_brT rfl rfl rfl rfl hc ?_
    refine rn_go 1 (pc' := 26) (l' := [(0, .ref 89), (1, .int x1), (2, .int x2)]) (st' := [.int (0 : Int32)]) (S1 := (SH ++ X)) (V1 := V) rfl ?_
    obtain rfl := Option.some.inj h
    exact rg_zret rfl (by decide)
  · refine rn_brF rfl rfl rfl rfl hc ?_
    refine rn_go 2 (pc' := 10) (l' := [(0, .ref 89), (1, .int x1), (2, .int x2)]) (st' := [.int x2, .ref 89]) (S1 := (SH ++ X)) (V1 := V) rfl ?_
    obtain ⟨q2, hq2, h⟩ := ai_bd h
    refine rn_call rfl rfl rfl rfl rfl rfl (by omega) (t_M_isOne (by omega) hq2) ?_
    rcases ai_if h with ⟨hc, h⟩ | ⟨hc, h⟩
    · refine rn_brT rfl rfl rfl rfl hc ?_
      refine rn_go 1 (pc' := 26) (l' := [(0, .ref 89), (1, .int x1), (2, .int x2)]) (st' := [.int (0 : Int32)]) (S1 := (SH ++ X)) (V1 := V) rfl ?_
      obtain rfl := Option.some.inj h
      exact rg_zret rfl (by decide)
    · refine rn_brF rfl rfl rfl rfl hc ?_
      refine rn_go 2 (pc' := 18) (l' := [(0, .ref 89), (1, .int x1), (2, .int x2)]) (st' := [.int x2, .int x1]) (S1 := (SH ++ X)) (V1 := V) rfl ?_
      rcases ai_if h with ⟨hc, h⟩ | ⟨hc, h⟩
      · refine rn_brT rfl rfl rfl rfl hc ?_
        refine rn_go 1 (pc' := 26) (l' := [(0, .ref 89), (1, .int x1), (2, .int x2)]) (st' := [.int (0 : Int32)]) (S1 := (SH ++ X)) (V1 := V) rfl ?_
        obtain rfl := Option.some.inj h
        exact rg_zret rfl (by decide)
      · refine rn_brF rfl rfl rfl rfl hc ?_
        refine rn_go 2 (pc' := 26) (l' := [(0, .ref 89), (1, .int x1), (2, .int x2)]) (st' := [.int (1 : Int32)]) (S1 := (SH ++ X)) (V1 := V) rfl ?_
        obtain rfl := Option.some.inj h
        exact rg_zret rfl (by decide)
-- RentByTheWheelModel.has(II)Z (None, None)
def d_M_has (x0 : Int32) (x1 : Int32) (V : ai_V) : Option Int32 :=
  if ¬ ((x0 >>> (x1 &&& 31)) &&& (1 : Int32)) = (1 : Int32) then (some (0 : Int32)) else (some (1 : Int32))
set_option maxRecDepth 20000 in
theorem t_M_has {X : ai_S} {e : Nat} (hd : 0 ≤ e) {x0 : Int32} {x1 : Int32} {V : ai_V} {r : Int32} (h : d_M_has x0 x1 V = some r) : Rn e 182 0 (lv_args 0 [.int x0, .int x1]) [] (SH ++ X) V (some (.int r)) (SH ++ X) V := by
  rw [d_M_has] at h
  refine rn_go 6 (pc' := 6) (l' := [(0, .int x0), (1, .int x1)]) (st' := [.int (1 : Int32), .int ((x0 >>> (x1 &&& 31)) &&& (1 : Int32))]) (S1 := (SH ++ X)) (V1 := V) rfl ?_
  rcases ai_if h with ⟨hc, h⟩ | ⟨hc, h⟩
  · refine rn_brT rfl rfl rfl rfl hc ?_
    refine rn_go 1 (pc' := 14) (l' := [(0, .int x0), (1, .int x1)]) (st' := [.int (0 : Int32)]) (S1 := (SH ++ X)) (V1 := V) rfl ?_
    obtain rfl := Option.some.inj h
    exact rg_zret rfl (by decide)
  · refine rn_brF rfl rfl rfl rfl hc ?_
    refine rn_go 2 (pc' := 14) (l' := [(0, .int x0), (1, .int x1)]) (st' := [.int (1 : Int32)]) (S1 := (SH ++ X)) (V1 := V) rfl ?_
    obtain rfl := Option.some.inj h
    exact rg_zret rfl (by decide)
-- RentByTheWheelModel.turnsOf(I)I (89, None)
def d_M_turnsOf_40 (F13 : Int32 → Int32 → Int32 → ai_V → Option Int32) (x1 : Int32) (x2 : Int32) (x3 : Int32) (V : ai_V) : Option Int32 :=
  F13 x1 x2 (x3 + (1 : Int32)) V
set_option maxRecDepth 20000 in
theorem t_M_turnsOf_40 {X : ai_S} {e : Nat} (hd : 1 ≤ e) (F13 : Int32 → Int32 → Int32 → ai_V → Option Int32) (hF13 : ∀ (x1 : Int32) (x2 : Int32) (x3 : Int32) (V : ai_V) (r : Int32), F13 x1 x2 x3 V = some r → Rn e 183 13 [(0, .ref 89), (1, .int x1), (2, .int x2), (3, .int x3)] [] (SH ++ X) V (some (.int r)) (SH ++ X) V) (x1 : Int32) (x2 : Int32) (x3 : Int32) (V : ai_V) (r : Int32) (h : d_M_turnsOf_40 F13 x1 x2 x3 V = some r) : Rn e 183 40 [(0, .ref 89), (1, .int x1), (2, .int x2), (3, .int x3)] [] (SH ++ X) V (some (.int r)) (SH ++ X) V := by
  rw [d_M_turnsOf_40] at h
  refine rn_go 2 (pc' := 13) (l' := [(3, .int (x3 + (1 : Int32))), (0, .ref 89), (1, .int x1), (2, .int x2)]) (st' := []) (S1 := (SH ++ X)) (V1 := V) rfl ?_
  exact rn_sub [1, 2, 3, 0] rfl rfl (hF13 x1 x2 (x3 + (1 : Int32)) V _ h)
def d_M_turnsOf_13  : Nat → Int32 → Int32 → Int32 → ai_V → Option Int32
  | 0, _, _, _, _ => none
  | n + 1, x1, x2, x3, V => if (gi V 89 1) ≤ x3 then (some x2) else ((d_M_has x1 x3 V).bind fun q1 => (if q1 = 0 then (d_M_turnsOf_40 (d_M_turnsOf_13 n) x1 x2 x3 V) else (if ai_in x3 6 then (d_M_turnsOf_40 (d_M_turnsOf_13 n) x1 (ai_min x2 (ga V 92 (x3).toNatClampNeg)) x3 V) else none)))
set_option maxRecDepth 20000 in
theorem t_M_turnsOf_13 {X : ai_S} {e : Nat} (hd : 1 ≤ e)  : ∀ (n : Nat) (x1 : Int32) (x2 : Int32) (x3 : Int32) (V : ai_V) (r : Int32), d_M_turnsOf_13  n x1 x2 x3 V = some r → Rn e 183 13 [(0, .ref 89), (1, .int x1), (2, .int x2), (3, .int x3)] [] (SH ++ X) V (some (.int r)) (SH ++ X) V := by
  intro n
  induction n with
  | zero =>
    intro x1 x2 x3 V r h
    cases h
  | succ n ih =>
    intro x1 x2 x3 V r h
    rw [d_M_turnsOf_13] at h
    refine rn_go 3 (pc' := 18) (l' := [(0, .ref 89), (1, .int x1), (2, .int x2), (3, .int x3)]) (st' := [.int (gi V 89 1), .int x3]) (S1 := (SH ++ X)) (V1 := V) rfl ?_
    rcases ai_if h with ⟨hc, h⟩ | ⟨hc, h⟩
    · refine rn_brT rfl rfl rfl rfl hc ?_
      refine rn_go 1 (pc' := 47) (l' := [(0, .ref 89), (1, .int x1), (2, .int x2), (3, .int x3)]) (st' := [.int x2]) (S1 := (SH ++ X)) (V1 := V) rfl ?_
      obtain rfl := Option.some.inj h
      exact rn_ret rfl rfl rfl
    · refine rn_brF rfl rfl rfl rfl hc ?_
      refine rn_go 2 (pc' := 23) (l' := [(0, .ref 89), (1, .int x1), (2, .int x2), (3, .int x3)]) (st' := [.int x3, .int x1]) (S1 := (SH ++ X)) (V1 := V) rfl ?_
      obtain ⟨q1, hq1, h⟩ := ai_bd h
      refine rn_call rfl rfl rfl rfl rfl rfl (by omega) (t_M_has (by omega) hq1) ?_
      rcases ai_if h with ⟨hc, h⟩ | ⟨hc, h⟩
      · refine rn_brT rfl rfl rfl rfl hc ?_
        exact rn_sub [0, 1, 2, 3] rfl rfl (t_M_turnsOf_40 (X := X) hd (d_M_turnsOf_13 n) (ih) x1 x2 x3 V _ h)
      · refine rn_brF rfl rfl rfl rfl hc ?_
        refine rn_go 4 (pc' := 35) (l' := [(0, .ref 89), (1, .int x1), (2, .int x2), (3, .int x3)]) (st' := [.int x3, .ref 92, .int x2]) (S1 := (SH ++ X)) (V1 := V) rfl ?_
        obtain ⟨hg, h⟩ := ai_gd h
        refine rg_iald (n := 6) rfl rfl hg ?_
        refine rn_go 2 (pc' := 40) (l' := [(2, .int (ai_min x2 (ga V 92 (x3).toNatClampNeg))), (0, .ref 89), (1, .int x1), (3, .int x3)]) (st' := []) (S1 := (SH ++ X)) (V1 := V) rfl ?_
        exact rn_sub [1, 2, 0, 3] rfl rfl (t_M_turnsOf_40 (X := X) hd (d_M_turnsOf_13 n) (ih) x1 (ai_min x2 (ga V 92 (x3).toNatClampNeg)) x3 V _ h)
def d_M_turnsOf_10  (x1 : Int32) (s0 : Int32) (V : ai_V) : Option Int32 :=
  d_M_turnsOf_13 ai_N x1 s0 (0 : Int32) V
set_option maxRecDepth 20000 in
theorem t_M_turnsOf_10 {X : ai_S} {e : Nat} (hd : 1 ≤ e)  (x1 : Int32) (s0 : Int32) (V : ai_V) (r : Int32) (h : d_M_turnsOf_10  x1 s0 V = some r) : Rn e 183 10 [(0, .ref 89), (1, .int x1)] [.int s0] (SH ++ X) V (some (.int r)) (SH ++ X) V := by
  rw [d_M_turnsOf_10] at h
  refine rn_go 3 (pc' := 13) (l' := [(3, .int (0 : Int32)), (2, .int s0), (0, .ref 89), (1, .int x1)]) (st' := []) (S1 := (SH ++ X)) (V1 := V) rfl ?_
  exact rn_sub [2, 3, 1, 0] rfl rfl (t_M_turnsOf_13 (X := X) hd ai_N x1 s0 (0 : Int32) V _ h)
def d_M_turnsOf (x1 : Int32) (V : ai_V) : Option Int32 :=
  if ¬ x1 = 0 then (d_M_turnsOf_10 x1 (9 : Int32) V) else (d_M_turnsOf_10 x1 (0 : Int32) V)
set_option maxRecDepth 20000 in
theorem t_M_turnsOf {X : ai_S} {e : Nat} (hd : 1 ≤ e) {x1 : Int32} {V : ai_V} {r : Int32} (h : d_M_turnsOf x1 V = some r) : Rn e 183 0 (lv_args 0 [.ref 89, .int x1]) [] (SH ++ X) V (some (.int r)) (SH ++ X) V := by
  rw [d_M_turnsOf] at h
  refine rn_go 1 (pc' := 1) (l' := [(0, .ref 89), (1, .int x1)]) (st' := [.int x1]) (S1 := (SH ++ X)) (V1 := V) rfl ?_
  rcases ai_if h with ⟨hc, h⟩ | ⟨hc, h⟩
  · refine rn_brT rfl rfl rfl rfl hc ?_
    refine rn_go 1 (pc' := 10) (l' := [(0, .ref 89), (1, .int x1)]) (st' := [.int (9 : Int32)]) (S1 := (SH ++ X)) (V1 := V) rfl ?_
    exact rn_sub [0, 1] rfl rfl (t_M_turnsOf_10 (X := X) hd x1 (9 : Int32) V _ h)
  · refine rn_brF rfl rfl rfl rfl hc ?_
    refine rn_go 2 (pc' := 10) (l' := [(0, .ref 89), (1, .int x1)]) (st' := [.int (0 : Int32)]) (S1 := (SH ++ X)) (V1 := V) rfl ?_
    exact rn_sub [0, 1] rfl rfl (t_M_turnsOf_10 (X := X) hd x1 (0 : Int32) V _ h)
-- RentByTheWheelModel.tell(J)V (89, None)
def d_M_tell (x1 : Int64) (V : ai_V) : Option ai_V :=
  if ai_in (gi V 89 13) 16 then (some (si (sl V 97 ((gi V 89 13)).toNatClampNeg x1) 89 13 ((gi (sl V 97 ((gi V 89 13)).toNatClampNeg x1) 89 13) + (1 : Int32)))) else none
set_option maxRecDepth 20000 in
theorem t_M_tell {X : ai_S} {e : Nat} (hd : 0 ≤ e) {x1 : Int64} {V : ai_V} {r : ai_V} (h : d_M_tell x1 V = some r) : Rn e 184 0 (lv_args 0 [.ref 89, .long x1]) [] (SH ++ X) V none (SH ++ X) r := by
  rw [d_M_tell] at h
  refine rn_go 5 (pc' := 9) (l' := [(0, .ref 89), (1, .long x1)]) (st' := [.long x1, .int (gi V 89 13), .ref 97]) (S1 := (SH ++ X)) (V1 := V) rfl ?_
  obtain ⟨hg, h⟩ := ai_gd h
  refine rg_last (n := 16) rfl rfl hg ?_
  refine rn_go 6 (pc' := 20) (l' := [(0, .ref 89), (1, .long x1)]) (st' := []) (S1 := (SH ++ X)) (V1 := (si (sl V 97 ((gi V 89 13)).toNatClampNeg x1) 89 13 ((gi (sl V 97 ((gi V 89 13)).toNatClampNeg x1) 89 13) + (1 : Int32)))) rfl ?_
  obtain rfl := Option.some.inj h
  exact rn_ret rfl rfl rfl
-- RentByTheWheelModel.begin([BII)V (89, 99, None, None)
def d_M_begin_89_99 (x2 : Int32) (x3 : Int32) (V : ai_V) : Option ai_V :=
  some (si (si (si (si (sr V 89 15 (some 99)) 89 16 x2) 89 17 x3) 89 18 (0 : Int32)) 89 19 (-1 : Int32))
set_option maxRecDepth 20000 in
theorem t_M_begin_89_99 {X : ai_S} {e : Nat} (hd : 0 ≤ e) {x2 : Int32} {x3 : Int32} {V : ai_V} {r : ai_V} (h : d_M_begin_89_99 x2 x3 V = some r) : Rn e 161 0 (lv_args 0 [.ref 89, .ref 99, .int x2, .int x3]) [] (SH ++ X) V none (SH ++ X) r := by
  rw [d_M_begin_89_99] at h
  refine rn_go 15 (pc' := 25) (l' := [(0, .ref 89), (1, .ref 99), (2, .int x2), (3, .int x3)]) (st' := []) (S1 := (SH ++ X)) (V1 := (si (si (si (si (sr V 89 15 (some 99)) 89 16 x2) 89 17 x3) 89 18 (0 : Int32)) 89 19 (-1 : Int32))) rfl ?_
  obtain rfl := Option.some.inj h
  exact rn_ret rfl rfl rfl
-- java/lang/Integer.bitCount(I)I (None,)
def d_Int_bitCount (x0 : Int32) (V : ai_V) : Option Int32 :=
  some ((((((((x0 - (((x0).toUInt32 >>> (((1 : Int32)).toUInt32 &&& Int32.toUInt32 31)).toInt32 &&& (1431655765 : Int32))) &&& (858993459 : Int32)) + ((((x0 - (((x0).toUInt32 >>> (((1 : Int32)).toUInt32 &&& Int32.toUInt32 31)).toInt32 &&& (1431655765 : Int32)))).toUInt32 >>> (((2 : Int32)).toUInt32 &&& Int32.toUInt32 31)).toInt32 &&& (858993459 : Int32))) + (((((x0 - (((x0).toUInt32 >>> (((1 : Int32)).toUInt32 &&& Int32.toUInt32 31)).toInt32 &&& (1431655765 : Int32))) &&& (858993459 : Int32)) + ((((x0 - (((x0).toUInt32 >>> (((1 : Int32)).toUInt32 &&& Int32.toUInt32 31)).toInt32 &&& (1431655765 : Int32)))).toUInt32 >>> (((2 : Int32)).toUInt32 &&& Int32.toUInt32 31)).toInt32 &&& (858993459 : Int32)))).toUInt32 >>> (((4 : Int32)).toUInt32 &&& Int32.toUInt32 31)).toInt32) &&& (252645135 : Int32)) + (((((((x0 - (((x0).toUInt32 >>> (((1 : Int32)).toUInt32 &&& Int32.toUInt32 31)).toInt32 &&& (1431655765 : Int32))) &&& (858993459 : Int32)) + ((((x0 - (((x0).toUInt32 >>> (((1 : Int32)).toUInt32 &&& Int32.toUInt32 31)).toInt32 &&& (1431655765 : Int32)))).toUInt32 >>> (((2 : Int32)).toUInt32 &&& Int32.toUInt32 31)).toInt32 &&& (858993459 : Int32))) + (((((x0 - (((x0).toUInt32 >>> (((1 : Int32)).toUInt32 &&& Int32.toUInt32 31)).toInt32 &&& (1431655765 : Int32))) &&& (858993459 : Int32)) + ((((x0 - (((x0).toUInt32 >>> (((1 : Int32)).toUInt32 &&& Int32.toUInt32 31)).toInt32 &&& (1431655765 : Int32)))).toUInt32 >>> (((2 : Int32)).toUInt32 &&& Int32.toUInt32 31)).toInt32 &&& (858993459 : Int32)))).toUInt32 >>> (((4 : Int32)).toUInt32 &&& Int32.toUInt32 31)).toInt32) &&& (252645135 : Int32))).toUInt32 >>> (((8 : Int32)).toUInt32 &&& Int32.toUInt32 31)).toInt32) + ((((((((x0 - (((x0).toUInt32 >>> (((1 : Int32)).toUInt32 &&& Int32.toUInt32 31)).toInt32 &&& (1431655765 : Int32))) &&& (858993459 : Int32)) + ((((x0 - (((x0).toUInt32 >>> (((1 : Int32)).toUInt32 &&& Int32.toUInt32 31)).toInt32 &&& (1431655765 : Int32)))).toUInt32 >>> (((2 : Int32)).toUInt32 &&& Int32.toUInt32 31)).toInt32 &&& (858993459 : Int32))) + (((((x0 - (((x0).toUInt32 >>> (((1 : Int32)).toUInt32 &&& Int32.toUInt32 31)).toInt32 &&& (1431655765 : Int32))) &&& (858993459 : Int32)) + ((((x0 - (((x0).toUInt32 >>> (((1 : Int32)).toUInt32 &&& Int32.toUInt32 31)).toInt32 &&& (1431655765 : Int32)))).toUInt32 >>> (((2 : Int32)).toUInt32 &&& Int32.toUInt32 31)).toInt32 &&& (858993459 : Int32)))).toUInt32 >>> (((4 : Int32)).toUInt32 &&& Int32.toUInt32 31)).toInt32) &&& (252645135 : Int32)) + (((((((x0 - (((x0).toUInt32 >>> (((1 : Int32)).toUInt32 &&& Int32.toUInt32 31)).toInt32 &&& (1431655765 : Int32))) &&& (858993459 : Int32)) + ((((x0 - (((x0).toUInt32 >>> (((1 : Int32)).toUInt32 &&& Int32.toUInt32 31)).toInt32 &&& (1431655765 : Int32)))).toUInt32 >>> (((2 : Int32)).toUInt32 &&& Int32.toUInt32 31)).toInt32 &&& (858993459 : Int32))) + (((((x0 - (((x0).toUInt32 >>> (((1 : Int32)).toUInt32 &&& Int32.toUInt32 31)).toInt32 &&& (1431655765 : Int32))) &&& (858993459 : Int32)) + ((((x0 - (((x0).toUInt32 >>> (((1 : Int32)).toUInt32 &&& Int32.toUInt32 31)).toInt32 &&& (1431655765 : Int32)))).toUInt32 >>> (((2 : Int32)).toUInt32 &&& Int32.toUInt32 31)).toInt32 &&& (858993459 : Int32)))).toUInt32 >>> (((4 : Int32)).toUInt32 &&& Int32.toUInt32 31)).toInt32) &&& (252645135 : Int32))).toUInt32 >>> (((8 : Int32)).toUInt32 &&& Int32.toUInt32 31)).toInt32)).toUInt32 >>> (((16 : Int32)).toUInt32 &&& Int32.toUInt32 31)).toInt32) &&& (63 : Int32))
set_option maxRecDepth 20000 in
theorem t_Int_bitCount {X : ai_S} {e : Nat} (hd : 0 ≤ e) {x0 : Int32} {V : ai_V} {r : Int32} (h : d_Int_bitCount x0 V = some r) : Rn e 9 0 (lv_args 0 [.int x0]) [] (SH ++ X) V (some (.int r)) (SH ++ X) V := by
  rw [d_Int_bitCount] at h
  refine rn_go 41 (pc' := 52) (l' := [(0, .int (((((((x0 - (((x0).toUInt32 >>> (((1 : Int32)).toUInt32 &&& Int32.toUInt32 31)).toInt32 &&& (1431655765 : Int32))) &&& (858993459 : Int32)) + ((((x0 - (((x0).toUInt32 >>> (((1 : Int32)).toUInt32 &&& Int32.toUInt32 31)).toInt32 &&& (1431655765 : Int32)))).toUInt32 >>> (((2 : Int32)).toUInt32 &&& Int32.toUInt32 31)).toInt32 &&& (858993459 : Int32))) + (((((x0 - (((x0).toUInt32 >>> (((1 : Int32)).toUInt32 &&& Int32.toUInt32 31)).toInt32 &&& (1431655765 : Int32))) &&& (858993459 : Int32)) + ((((x0 - (((x0).toUInt32 >>> (((1 : Int32)).toUInt32 &&& Int32.toUInt32 31)).toInt32 &&& (1431655765 : Int32)))).toUInt32 >>> (((2 : Int32)).toUInt32 &&& Int32.toUInt32 31)).toInt32 &&& (858993459 : Int32)))).toUInt32 >>> (((4 : Int32)).toUInt32 &&& Int32.toUInt32 31)).toInt32) &&& (252645135 : Int32)) + (((((((x0 - (((x0).toUInt32 >>> (((1 : Int32)).toUInt32 &&& Int32.toUInt32 31)).toInt32 &&& (1431655765 : Int32))) &&& (858993459 : Int32)) + ((((x0 - (((x0).toUInt32 >>> (((1 : Int32)).toUInt32 &&& Int32.toUInt32 31)).toInt32 &&& (1431655765 : Int32)))).toUInt32 >>> (((2 : Int32)).toUInt32 &&& Int32.toUInt32 31)).toInt32 &&& (858993459 : Int32))) + (((((x0 - (((x0).toUInt32 >>> (((1 : Int32)).toUInt32 &&& Int32.toUInt32 31)).toInt32 &&& (1431655765 : Int32))) &&& (858993459 : Int32)) + ((((x0 - (((x0).toUInt32 >>> (((1 : Int32)).toUInt32 &&& Int32.toUInt32 31)).toInt32 &&& (1431655765 : Int32)))).toUInt32 >>> (((2 : Int32)).toUInt32 &&& Int32.toUInt32 31)).toInt32 &&& (858993459 : Int32)))).toUInt32 >>> (((4 : Int32)).toUInt32 &&& Int32.toUInt32 31)).toInt32) &&& (252645135 : Int32))).toUInt32 >>> (((8 : Int32)).toUInt32 &&& Int32.toUInt32 31)).toInt32) + ((((((((x0 - (((x0).toUInt32 >>> (((1 : Int32)).toUInt32 &&& Int32.toUInt32 31)).toInt32 &&& (1431655765 : Int32))) &&& (858993459 : Int32)) + ((((x0 - (((x0).toUInt32 >>> (((1 : Int32)).toUInt32 &&& Int32.toUInt32 31)).toInt32 &&& (1431655765 : Int32)))).toUInt32 >>> (((2 : Int32)).toUInt32 &&& Int32.toUInt32 31)).toInt32 &&& (858993459 : Int32))) + (((((x0 - (((x0).toUInt32 >>> (((1 : Int32)).toUInt32 &&& Int32.toUInt32 31)).toInt32 &&& (1431655765 : Int32))) &&& (858993459 : Int32)) + ((((x0 - (((x0).toUInt32 >>> (((1 : Int32)).toUInt32 &&& Int32.toUInt32 31)).toInt32 &&& (1431655765 : Int32)))).toUInt32 >>> (((2 : Int32)).toUInt32 &&& Int32.toUInt32 31)).toInt32 &&& (858993459 : Int32)))).toUInt32 >>> (((4 : Int32)).toUInt32 &&& Int32.toUInt32 31)).toInt32) &&& (252645135 : Int32)) + (((((((x0 - (((x0).toUInt32 >>> (((1 : Int32)).toUInt32 &&& Int32.toUInt32 31)).toInt32 &&& (1431655765 : Int32))) &&& (858993459 : Int32)) + ((((x0 - (((x0).toUInt32 >>> (((1 : Int32)).toUInt32 &&& Int32.toUInt32 31)).toInt32 &&& (1431655765 : Int32)))).toUInt32 >>> (((2 : Int32)).toUInt32 &&& Int32.toUInt32 31)).toInt32 &&& (858993459 : Int32))) + (((((x0 - (((x0).toUInt32 >>> (((1 : Int32)).toUInt32 &&& Int32.toUInt32 31)).toInt32 &&& (1431655765 : Int32))) &&& (858993459 : Int32)) + ((((x0 - (((x0).toUInt32 >>> (((1 : Int32)).toUInt32 &&& Int32.toUInt32 31)).toInt32 &&& (1431655765 : Int32)))).toUInt32 >>> (((2 : Int32)).toUInt32 &&& Int32.toUInt32 31)).toInt32 &&& (858993459 : Int32)))).toUInt32 >>> (((4 : Int32)).toUInt32 &&& Int32.toUInt32 31)).toInt32) &&& (252645135 : Int32))).toUInt32 >>> (((8 : Int32)).toUInt32 &&& Int32.toUInt32 31)).toInt32)).toUInt32 >>> (((16 : Int32)).toUInt32 &&& Int32.toUInt32 31)).toInt32))]) (st' := [.int ((((((((x0 - (((x0).toUInt32 >>> (((1 : Int32)).toUInt32 &&& Int32.toUInt32 31)).toInt32 &&& (1431655765 : Int32))) &&& (858993459 : Int32)) + ((((x0 - (((x0).toUInt32 >>> (((1 : Int32)).toUInt32 &&& Int32.toUInt32 31)).toInt32 &&& (1431655765 : Int32)))).toUInt32 >>> (((2 : Int32)).toUInt32 &&& Int32.toUInt32 31)).toInt32 &&& (858993459 : Int32))) + (((((x0 - (((x0).toUInt32 >>> (((1 : Int32)).toUInt32 &&& Int32.toUInt32 31)).toInt32 &&& (1431655765 : Int32))) &&& (858993459 : Int32)) + ((((x0 - (((x0).toUInt32 >>> (((1 : Int32)).toUInt32 &&& Int32.toUInt32 31)).toInt32 &&& (1431655765 : Int32)))).toUInt32 >>> (((2 : Int32)).toUInt32 &&& Int32.toUInt32 31)).toInt32 &&& (858993459 : Int32)))).toUInt32 >>> (((4 : Int32)).toUInt32 &&& Int32.toUInt32 31)).toInt32) &&& (252645135 : Int32)) + (((((((x0 - (((x0).toUInt32 >>> (((1 : Int32)).toUInt32 &&& Int32.toUInt32 31)).toInt32 &&& (1431655765 : Int32))) &&& (858993459 : Int32)) + ((((x0 - (((x0).toUInt32 >>> (((1 : Int32)).toUInt32 &&& Int32.toUInt32 31)).toInt32 &&& (1431655765 : Int32)))).toUInt32 >>> (((2 : Int32)).toUInt32 &&& Int32.toUInt32 31)).toInt32 &&& (858993459 : Int32))) + (((((x0 - (((x0).toUInt32 >>> (((1 : Int32)).toUInt32 &&& Int32.toUInt32 31)).toInt32 &&& (1431655765 : Int32))) &&& (858993459 : Int32)) + ((((x0 - (((x0).toUInt32 >>> (((1 : Int32)).toUInt32 &&& Int32.toUInt32 31)).toInt32 &&& (1431655765 : Int32)))).toUInt32 >>> (((2 : Int32)).toUInt32 &&& Int32.toUInt32 31)).toInt32 &&& (858993459 : Int32)))).toUInt32 >>> (((4 : Int32)).toUInt32 &&& Int32.toUInt32 31)).toInt32) &&& (252645135 : Int32))).toUInt32 >>> (((8 : Int32)).toUInt32 &&& Int32.toUInt32 31)).toInt32) + ((((((((x0 - (((x0).toUInt32 >>> (((1 : Int32)).toUInt32 &&& Int32.toUInt32 31)).toInt32 &&& (1431655765 : Int32))) &&& (858993459 : Int32)) + ((((x0 - (((x0).toUInt32 >>> (((1 : Int32)).toUInt32 &&& Int32.toUInt32 31)).toInt32 &&& (1431655765 : Int32)))).toUInt32 >>> (((2 : Int32)).toUInt32 &&& Int32.toUInt32 31)).toInt32 &&& (858993459 : Int32))) + (((((x0 - (((x0).toUInt32 >>> (((1 : Int32)).toUInt32 &&& Int32.toUInt32 31)).toInt32 &&& (1431655765 : Int32))) &&& (858993459 : Int32)) + ((((x0 - (((x0).toUInt32 >>> (((1 : Int32)).toUInt32 &&& Int32.toUInt32 31)).toInt32 &&& (1431655765 : Int32)))).toUInt32 >>> (((2 : Int32)).toUInt32 &&& Int32.toUInt32 31)).toInt32 &&& (858993459 : Int32)))).toUInt32 >>> (((4 : Int32)).toUInt32 &&& Int32.toUInt32 31)).toInt32) &&& (252645135 : Int32)) + (((((((x0 - (((x0).toUInt32 >>> (((1 : Int32)).toUInt32 &&& Int32.toUInt32 31)).toInt32 &&& (1431655765 : Int32))) &&& (858993459 : Int32)) + ((((x0 - (((x0).toUInt32 >>> (((1 : Int32)).toUInt32 &&& Int32.toUInt32 31)).toInt32 &&& (1431655765 : Int32)))).toUInt32 >>> (((2 : Int32)).toUInt32 &&& Int32.toUInt32 31)).toInt32 &&& (858993459 : Int32))) + (((((x0 - (((x0).toUInt32 >>> (((1 : Int32)).toUInt32 &&& Int32.toUInt32 31)).toInt32 &&& (1431655765 : Int32))) &&& (858993459 : Int32)) + ((((x0 - (((x0).toUInt32 >>> (((1 : Int32)).toUInt32 &&& Int32.toUInt32 31)).toInt32 &&& (1431655765 : Int32)))).toUInt32 >>> (((2 : Int32)).toUInt32 &&& Int32.toUInt32 31)).toInt32 &&& (858993459 : Int32)))).toUInt32 >>> (((4 : Int32)).toUInt32 &&& Int32.toUInt32 31)).toInt32) &&& (252645135 : Int32))).toUInt32 >>> (((8 : Int32)).toUInt32 &&& Int32.toUInt32 31)).toInt32)).toUInt32 >>> (((16 : Int32)).toUInt32 &&& Int32.toUInt32 31)).toInt32) &&& (63 : Int32))]) (S1 := (SH ++ X)) (V1 := V) rfl ?_
  obtain rfl := Option.some.inj h
  exact rn_ret rfl rfl rfl
-- RentByTheWheelModel.liftOf(IIIII)I (89, None, None, None, None, None)
def d_M_liftOf_103  (x6 : Int32) (V : ai_V) : Option (Int32 × ai_V) :=
  some ((ai_max (0 : Int32) (ai_min (99 : Int32) x6)), V)
set_option maxRecDepth 20000 in
theorem t_M_liftOf_103 {X : ai_S} {e : Nat} (hd : 328 ≤ e)  (x6 : Int32) (V : ai_V) (r : (Int32 × ai_V)) (h : d_M_liftOf_103  x6 V = some r) : Rn e 185 103 [(6, .int x6)] [] (SH ++ X) V (some (.int r.1)) (SH ++ X) r.2 := by
  rw [d_M_liftOf_103] at h
  refine rn_go 5 (pc' := 114) (l' := [(6, .int x6)]) (st' := [.int (ai_max (0 : Int32) (ai_min (99 : Int32) x6))]) (S1 := (SH ++ X)) (V1 := V) rfl ?_
  obtain rfl := Option.some.inj h
  exact rn_ret rfl rfl rfl
def d_M_liftOf (x1 : Int32) (x2 : Int32) (x3 : Int32) (x4 : Int32) (x5 : Int32) (V : ai_V) : Option (Int32 × ai_V) :=
  (d_M_has x5 x1 V).bind fun q1 => (if q1 = 0 then ((d_M_turnsOf x2 V).bind fun q2 => (if ai_in x1 6 then (if (gi V 89 22) ≤ 0 then (d_M_liftOf_103 ((q2 * ((ga V 93 (x1).toNatClampNeg) + (1 : Int32))) / (4 : Int32)) V) else ((d_M_begin_89_99 (gi V 89 22) (40 : Int32) V).bind fun q3 => ((d_M_turnsOf x2 (si (si q3 89 23 (1 : Int32)) 89 24 x1)).bind fun q4 => ((d_Int_bitCount x2 (si (si (si (si q3 89 23 (1 : Int32)) 89 24 x1) 89 25 q4) 89 26 x3)).bind fun q5 => ((d_M_held (0 : Int32) (si (si (si (si (si (si q3 89 23 (1 : Int32)) 89 24 x1) 89 25 q4) 89 26 x3) 89 27 q5) 89 28 (x4 - x4 / (12 : Int32) * (12 : Int32)))).bind fun q6 => (d_M_liftOf_103 q6.1 (si q6.2 89 23 (0 : Int32)))))))) else none)) else (some ((0 : Int32), V)))
set_option maxRecDepth 20000 in
theorem t_M_liftOf {X : ai_S} {e : Nat} (hd : 328 ≤ e) {x1 : Int32} {x2 : Int32} {x3 : Int32} {x4 : Int32} {x5 : Int32} {V : ai_V} {r : (Int32 × ai_V)} (h : d_M_liftOf x1 x2 x3 x4 x5 V = some r) : Rn e 185 0 (lv_args 0 [.ref 89, .int x1, .int x2, .int x3, .int x4, .int x5]) [] (SH ++ X) V (some (.int r.1)) (SH ++ X) r.2 := by
  rw [d_M_liftOf] at h
  refine rn_go 2 (pc' := 3) (l' := [(0, .ref 89), (1, .int x1), (2, .int x2), (3, .int x3), (4, .int x4), (5, .int x5)]) (st' := [.int x1, .int x5]) (S1 := (SH ++ X)) (V1 := V) rfl ?_
  obtain ⟨q1, hq1, h⟩ := ai_bd h
  refine rn_call rfl rfl rfl rfl rfl rfl (by omega) (t_M_has (by omega) hq1) ?_
  rcases ai_if h with ⟨hc, h⟩ | ⟨hc, h⟩
  · refine rn_brT rfl rfl rfl rfl hc ?_
    refine rn_go 2 (pc' := 13) (l' := [(0, .ref 89), (1, .int x1), (2, .int x2), (3, .int x3), (4, .int x4), (5, .int x5)]) (st' := [.int x2, .ref 89]) (S1 := (SH ++ X)) (V1 := V) rfl ?_
    obtain ⟨q2, hq2, h⟩ := ai_bd h
    refine rn_call rfl rfl rfl rfl rfl rfl (by omega) (t_M_turnsOf (by omega) hq2) ?_
    refine rn_go 3 (pc' := 21) (l' := [(0, .ref 89), (1, .int x1), (2, .int x2), (3, .int x3), (4, .int x4), (5, .int x5)]) (st' := [.int x1, .ref 93, .int q2]) (S1 := (SH ++ X)) (V1 := V) rfl ?_
    obtain ⟨hg, h⟩ := ai_gd h
    refine rg_iald (n := 6) rfl rfl hg ?_
    refine rn_go 4 (pc' := 26) (l' := [(0, .ref 89), (1, .int x1), (2, .int x2), (3, .int x3), (4, .int x4), (5, .int x5)]) (st' := [.int (4 : Int32), .int (q2 * ((ga V 93 (x1).toNatClampNeg) + (1 : Int32)))]) (S1 := (SH ++ X)) (V1 := V) rfl ?_
    refine rg_idiv rfl (by decide) ?_
    refine rn_go 3 (pc' := 33) (l' := [(6, .int ((q2 * ((ga V 93 (x1).toNatClampNeg) + (1 : Int32))) / (4 : Int32))), (0, .ref 89), (1, .int x1), (2, .int x2), (3, .int x3), (4, .int x4), (5, .int x5)]) (st' := [.int (gi V 89 22)]) (S1 := (SH ++ X)) (V1 := V) rfl ?_
    rcases ai_if h with ⟨hc, h⟩ | ⟨hc, h⟩
    · refine rn_brT rfl rfl rfl rfl hc ?_
      exact rn_sub [0] rfl rfl (t_M_liftOf_103 (X := X) hd ((q2 * ((ga V 93 (x1).toNatClampNeg) + (1 : Int32))) / (4 : Int32)) V _ h)
    · refine rn_brF rfl rfl rfl rfl hc ?_
      refine rn_go 6 (pc' := 47) (l' := [(6, .int ((q2 * ((ga V 93 (x1).toNatClampNeg) + (1 : Int32))) / (4 : Int32))), (0, .ref 89), (1, .int x1), (2, .int x2), (3, .int x3), (4, .int x4), (5, .int x5)]) (st' := [.int (40 : Int32), .int (gi V 89 22), .ref 99, .ref 89]) (S1 := (SH ++ X)) (V1 := V) rfl ?_
      obtain ⟨q3, hq3, h⟩ := ai_bd h
      refine rn_call rfl rfl rfl rfl rfl rfl (by omega) (t_M_begin_89_99 (by omega) hq3) ?_
      refine rn_go 2 (pc' := 52) (l' := [(6, .int ((q2 * ((ga V 93 (x1).toNatClampNeg) + (1 : Int32))) / (4 : Int32))), (0, .ref 89), (1, .int x1), (2, .int x2), (3, .int x3), (4, .int x4), (5, .int x5)]) (st' := [.int (1 : Int32), .ref 89]) (S1 := (SH ++ X)) (V1 := q3) rfl ?_
      refine rg_pZ (z := 0) rfl rfl rfl (by decide) ?_
      refine rn_go 6 (pc' := 63) (l' := [(6, .int ((q2 * ((ga V 93 (x1).toNatClampNeg) + (1 : Int32))) / (4 : Int32))), (0, .ref 89), (1, .int x1), (2, .int x2), (3, .int x3), (4, .int x4), (5, .int x5)]) (st' := [.int x2, .ref 89, .ref 89]) (S1 := (SH ++ X)) (V1 := (si (si q3 89 23 (1 : Int32)) 89 24 x1)) rfl ?_
      obtain ⟨q4, hq4, h⟩ := ai_bd h
      refine rn_call rfl rfl rfl rfl rfl rfl (by omega) (t_M_turnsOf (by omega) hq4) ?_
      refine rn_go 6 (pc' := 76) (l' := [(6, .int ((q2 * ((ga V 93 (x1).toNatClampNeg) + (1 : Int32))) / (4 : Int32))), (0, .ref 89), (1, .int x1), (2, .int x2), (3, .int x3), (4, .int x4), (5, .int x5)]) (st' := [.int x2, .ref 89]) (S1 := (SH ++ X)) (V1 := (si (si (si (si q3 89 23 (1 : Int32)) 89 24 x1) 89 25 q4) 89 26 x3)) rfl ?_
      obtain ⟨q5, hq5, h⟩ := ai_bd h
      refine rn_call rfl rfl rfl rfl rfl rfl (by omega) (t_Int_bitCount (by omega) hq5) ?_
      refine rn_go 4 (pc' := 87) (l' := [(6, .int ((q2 * ((ga V 93 (x1).toNatClampNeg) + (1 : Int32))) / (4 : Int32))), (0, .ref 89), (1, .int x1), (2, .int x2), (3, .int x3), (4, .int x4), (5, .int x5)]) (st' := [.int (12 : Int32), .int x4, .ref 89]) (S1 := (SH ++ X)) (V1 := (si (si (si (si (si q3 89 23 (1 : Int32)) 89 24 x1) 89 25 q4) 89 26 x3) 89 27 q5)) rfl ?_
      refine rg_irem rfl (by decide) ?_
      refine rn_go 3 (pc' := 93) (l' := [(6, .int ((q2 * ((ga V 93 (x1).toNatClampNeg) + (1 : Int32))) / (4 : Int32))), (0, .ref 89), (1, .int x1), (2, .int x2), (3, .int x3), (4, .int x4), (5, .int x5)]) (st' := [.int (0 : Int32), .ref 89]) (S1 := (SH ++ X)) (V1 := (si (si (si (si (si (si q3 89 23 (1 : Int32)) 89 24 x1) 89 25 q4) 89 26 x3) 89 27 q5) 89 28 (x4 - x4 / (12 : Int32) * (12 : Int32)))) rfl ?_
      obtain ⟨q6, hq6, h⟩ := ai_bd h
      refine rn_call rfl rfl rfl rfl rfl rfl (by omega) (t_M_held (by omega) hq6) ?_
      refine rn_go 3 (pc' := 100) (l' := [(6, .int q6.1), (0, .ref 89), (1, .int x1), (2, .int x2), (3, .int x3), (4, .int x4), (5, .int x5)]) (st' := [.int (0 : Int32), .ref 89]) (S1 := (SH ++ X)) (V1 := q6.2) rfl ?_
      refine rg_pZ (z := 0) rfl rfl rfl (by decide) ?_
      exact rn_sub [0] rfl rfl (t_M_liftOf_103 (X := X) hd q6.1 (si q6.2 89 23 (0 : Int32)) _ h)
  · refine rn_brF rfl rfl rfl rfl hc ?_
    refine rn_go 1 (pc' := 10) (l' := [(0, .ref 89), (1, .int x1), (2, .int x2), (3, .int x3), (4, .int x4), (5, .int x5)]) (st' := [.int (0 : Int32)]) (S1 := (SH ++ X)) (V1 := V) rfl ?_
    obtain rfl := Option.some.inj h
    exact rn_ret rfl rfl rfl
-- RentByTheWheelModel.lifts(II)I (89, None, None)
def d_M_lifts_96  (x1 : Int32) (x3 : Int32) (s0 : Int64) (V : ai_V) : Option (Int32 × ai_V) :=
  (d_M_tell s0 V).bind fun q1 => ((d_M_liftOf x1 x3 (ga q1 90 ((12 : Int32)).toNatClampNeg) (ga q1 90 ((13 : Int32)).toNatClampNeg) (gi q1 89 7) q1).bind fun q2 => (some (q2.1, q2.2)))
set_option maxRecDepth 20000 in
theorem t_M_lifts_96 {X : ai_S} {e : Nat} (hd : 329 ≤ e)  (x1 : Int32) (x3 : Int32) (s0 : Int64) (V : ai_V) (r : (Int32 × ai_V)) (h : d_M_lifts_96  x1 x3 s0 V = some r) : Rn e 186 96 [(0, .ref 89), (1, .int x1), (3, .int x3)] [.long s0, .ref 89] (SH ++ X) V (some (.int r.1)) (SH ++ X) r.2 := by
  rw [d_M_lifts_96] at h
  obtain ⟨q1, hq1, h⟩ := ai_bd h
  refine rn_call rfl rfl rfl rfl rfl rfl (by omega) (t_M_tell (by omega) hq1) ?_
  refine rn_go 6 (pc' := 108) (l' := [(0, .ref 89), (1, .int x1), (3, .int x3)]) (st' := [.int (12 : Int32), .ref 90, .int x3, .int x1, .ref 89]) (S1 := (SH ++ X)) (V1 := q1) rfl ?_
  refine rg_iald (n := 14) rfl rfl (by decide) ?_
  refine rn_go 3 (pc' := 115) (l' := [(0, .ref 89), (1, .int x1), (3, .int x3)]) (st' := [.int (13 : Int32), .ref 90, .int (ga q1 90 ((12 : Int32)).toNatClampNeg), .int x3, .int x1, .ref 89]) (S1 := (SH ++ X)) (V1 := q1) rfl ?_
  refine rg_iald (n := 14) rfl rfl (by decide) ?_
  refine rn_go 2 (pc' := 120) (l' := [(0, .ref 89), (1, .int x1), (3, .int x3)]) (st' := [.int (gi q1 89 7), .int (ga q1 90 ((13 : Int32)).toNatClampNeg), .int (ga q1 90 ((12 : Int32)).toNatClampNeg), .int x3, .int x1, .ref 89]) (S1 := (SH ++ X)) (V1 := q1) rfl ?_
  obtain ⟨q2, hq2, h⟩ := ai_bd h
  refine rn_call rfl rfl rfl rfl rfl rfl (by omega) (t_M_liftOf (by omega) hq2) ?_
  obtain rfl := Option.some.inj h
  exact rn_ret rfl rfl rfl
def d_M_lifts_44  (x1 : Int32) (x2 : Int32) (s0 : Int32) (s1 : Int32) (V : ai_V) : Option (Int32 × ai_V) :=
  (d_M_turnsOf (s1 ||| s0) (si V 89 13 (0 : Int32))).bind fun q3 => ((d_M_tell (q3).toInt64 (si V 89 13 (0 : Int32))).bind fun q4 => (if ¬ x2 = (-1 : Int32) then ((d_M_liftOf x2 (s1 ||| s0) (ga q4 90 ((12 : Int32)).toNatClampNeg) (ga q4 90 ((13 : Int32)).toNatClampNeg) (gi q4 89 7) q4).bind fun q5 => (d_M_lifts_96 x1 (s1 ||| s0) (q5.1).toInt64 q5.2)) else (d_M_lifts_96 x1 (s1 ||| s0) (Int64.ofNat 0) q4)))
set_option maxRecDepth 20000 in
theorem t_M_lifts_44 {X : ai_S} {e : Nat} (hd : 329 ≤ e)  (x1 : Int32) (x2 : Int32) (s0 : Int32) (s1 : Int32) (V : ai_V) (r : (Int32 × ai_V)) (h : d_M_lifts_44  x1 x2 s0 s1 V = some r) : Rn e 186 44 [(0, .ref 89), (1, .int x1), (2, .int x2)] [.int s0, .int s1] (SH ++ X) V (some (.int r.1)) (SH ++ X) r.2 := by
  rw [d_M_lifts_44] at h
  refine rn_go 8 (pc' := 54) (l' := [(3, .int (s1 ||| s0)), (0, .ref 89), (1, .int x1), (2, .int x2)]) (st' := [.int (s1 ||| s0), .ref 89, .ref 89]) (S1 := (SH ++ X)) (V1 := (si V 89 13 (0 : Int32))) rfl ?_
  obtain ⟨q3, hq3, h⟩ := ai_bd h
  refine rn_call rfl rfl rfl rfl rfl rfl (by omega) (t_M_turnsOf (by omega) hq3) ?_
  refine rn_go 1 (pc' := 58) (l' := [(3, .int (s1 ||| s0)), (0, .ref 89), (1, .int x1), (2, .int x2)]) (st' := [.long (q3).toInt64, .ref 89]) (S1 := (SH ++ X)) (V1 := (si V 89 13 (0 : Int32))) rfl ?_
  obtain ⟨q4, hq4, h⟩ := ai_bd h
  refine rn_call rfl rfl rfl rfl rfl rfl (by omega) (t_M_tell (by omega) hq4) ?_
  refine rn_go 3 (pc' := 64) (l' := [(3, .int (s1 ||| s0)), (0, .ref 89), (1, .int x1), (2, .int x2)]) (st' := [.int (-1 : Int32), .int x2, .ref 89]) (S1 := (SH ++ X)) (V1 := q4) rfl ?_
  rcases ai_if h with ⟨hc, h⟩ | ⟨hc, h⟩
  · refine rn_brT rfl rfl rfl rfl hc ?_
    refine rn_go 6 (pc' := 80) (l' := [(3, .int (s1 ||| s0)), (0, .ref 89), (1, .int x1), (2, .int x2)]) (st' := [.int (12 : Int32), .ref 90, .int (s1 ||| s0), .int x2, .ref 89, .ref 89]) (S1 := (SH ++ X)) (V1 := q4) rfl ?_
    refine rg_iald (n := 14) rfl rfl (by decide) ?_
    refine rn_go 3 (pc' := 87) (l' := [(3, .int (s1 ||| s0)), (0, .ref 89), (1, .int x1), (2, .int x2)]) (st' := [.int (13 : Int32), .ref 90, .int (ga q4 90 ((12 : Int32)).toNatClampNeg), .int (s1 ||| s0), .int x2, .ref 89, .ref 89]) (S1 := (SH ++ X)) (V1 := q4) rfl ?_
    refine rg_iald (n := 14) rfl rfl (by decide) ?_
    refine rn_go 2 (pc' := 92) (l' := [(3, .int (s1 ||| s0)), (0, .ref 89), (1, .int x1), (2, .int x2)]) (st' := [.int (gi q4 89 7), .int (ga q4 90 ((13 : Int32)).toNatClampNeg), .int (ga q4 90 ((12 : Int32)).toNatClampNeg), .int (s1 ||| s0), .int x2, .ref 89, .ref 89]) (S1 := (SH ++ X)) (V1 := q4) rfl ?_
    obtain ⟨q5, hq5, h⟩ := ai_bd h
    refine rn_call rfl rfl rfl rfl rfl rfl (by omega) (t_M_liftOf (by omega) hq5) ?_
    refine rn_go 1 (pc' := 96) (l' := [(3, .int (s1 ||| s0)), (0, .ref 89), (1, .int x1), (2, .int x2)]) (st' := [.long (q5.1).toInt64, .ref 89]) (S1 := (SH ++ X)) (V1 := q5.2) rfl ?_
    exact rn_sub [1, 2, 0] rfl rfl (t_M_lifts_96 (X := X) hd x1 (s1 ||| s0) (q5.1).toInt64 q5.2 _ h)
  · refine rn_brF rfl rfl rfl rfl hc ?_
    refine rn_go 2 (pc' := 96) (l' := [(3, .int (s1 ||| s0)), (0, .ref 89), (1, .int x1), (2, .int x2)]) (st' := [.long (Int64.ofNat 0), .ref 89]) (S1 := (SH ++ X)) (V1 := q4) rfl ?_
    exact rn_sub [1, 2, 0] rfl rfl (t_M_lifts_96 (X := X) hd x1 (s1 ||| s0) (Int64.ofNat 0) q4 _ h)
def d_M_lifts_29  (x1 : Int32) (x2 : Int32) (V : ai_V) : Option (Int32 × ai_V) :=
  if ¬ x2 = (-1 : Int32) then (d_M_lifts_44 x1 x2 ((1 : Int32) <<< (x2 &&& 31)) ((1 : Int32) <<< (x1 &&& 31)) V) else (d_M_lifts_44 x1 x2 (0 : Int32) ((1 : Int32) <<< (x1 &&& 31)) V)
set_option maxRecDepth 20000 in
theorem t_M_lifts_29 {X : ai_S} {e : Nat} (hd : 329 ≤ e)  (x1 : Int32) (x2 : Int32) (V : ai_V) (r : (Int32 × ai_V)) (h : d_M_lifts_29  x1 x2 V = some r) : Rn e 186 29 [(0, .ref 89), (1, .int x1), (2, .int x2)] [] (SH ++ X) V (some (.int r.1)) (SH ++ X) r.2 := by
  rw [d_M_lifts_29] at h
  refine rn_go 5 (pc' := 34) (l' := [(0, .ref 89), (1, .int x1), (2, .int x2)]) (st' := [.int (-1 : Int32), .int x2, .int ((1 : Int32) <<< (x1 &&& 31))]) (S1 := (SH ++ X)) (V1 := V) rfl ?_
  rcases ai_if h with ⟨hc, h⟩ | ⟨hc, h⟩
  · refine rn_brT rfl rfl rfl rfl hc ?_
    refine rn_go 3 (pc' := 44) (l' := [(0, .ref 89), (1, .int x1), (2, .int x2)]) (st' := [.int ((1 : Int32) <<< (x2 &&& 31)), .int ((1 : Int32) <<< (x1 &&& 31))]) (S1 := (SH ++ X)) (V1 := V) rfl ?_
    exact rn_sub [0, 1, 2] rfl rfl (t_M_lifts_44 (X := X) hd x1 x2 ((1 : Int32) <<< (x2 &&& 31)) ((1 : Int32) <<< (x1 &&& 31)) V _ h)
  · refine rn_brF rfl rfl rfl rfl hc ?_
    refine rn_go 2 (pc' := 44) (l' := [(0, .ref 89), (1, .int x1), (2, .int x2)]) (st' := [.int (0 : Int32), .int ((1 : Int32) <<< (x1 &&& 31))]) (S1 := (SH ++ X)) (V1 := V) rfl ?_
    exact rn_sub [0, 1, 2] rfl rfl (t_M_lifts_44 (X := X) hd x1 x2 (0 : Int32) ((1 : Int32) <<< (x1 &&& 31)) V _ h)
def d_M_lifts (x1 : Int32) (x2 : Int32) (V : ai_V) : Option (Int32 × ai_V) :=
  (d_M_isOne x1 (si V 89 14 (0 : Int32))).bind fun q6 => (if q6 = 0 then (some ((-1 : Int32), (si V 89 14 (0 : Int32)))) else (if x2 = (-1 : Int32) then (d_M_lifts_29 x1 x2 (si V 89 14 (0 : Int32))) else ((d_M_areTwo x1 x2 (si V 89 14 (0 : Int32))).bind fun q7 => (if ¬ q7 = 0 then (d_M_lifts_29 x1 x2 (si V 89 14 (0 : Int32))) else (some ((-1 : Int32), (si V 89 14 (0 : Int32))))))))
set_option maxRecDepth 20000 in
theorem t_M_lifts {X : ai_S} {e : Nat} (hd : 329 ≤ e) {x1 : Int32} {x2 : Int32} {V : ai_V} {r : (Int32 × ai_V)} (h : d_M_lifts x1 x2 V = some r) : Rn e 186 0 (lv_args 0 [.ref 89, .int x1, .int x2]) [] (SH ++ X) V (some (.int r.1)) (SH ++ X) r.2 := by
  rw [d_M_lifts] at h
  refine rn_go 5 (pc' := 7) (l' := [(0, .ref 89), (1, .int x1), (2, .int x2)]) (st' := [.int x1, .ref 89]) (S1 := (SH ++ X)) (V1 := (si V 89 14 (0 : Int32))) rfl ?_
  obtain ⟨q6, hq6, h⟩ := ai_bd h
  refine rn_call rfl rfl rfl rfl rfl rfl (by omega) (t_M_isOne (by omega) hq6) ?_
  rcases ai_if h with ⟨hc, h⟩ | ⟨hc, h⟩
  · refine rn_brT rfl rfl rfl rfl hc ?_
    refine rn_go 1 (pc' := 28) (l' := [(0, .ref 89), (1, .int x1), (2, .int x2)]) (st' := [.int (-1 : Int32)]) (S1 := (SH ++ X)) (V1 := (si V 89 14 (0 : Int32))) rfl ?_
    obtain rfl := Option.some.inj h
    exact rn_ret rfl rfl rfl
  · refine rn_brF rfl rfl rfl rfl hc ?_
    refine rn_go 2 (pc' := 15) (l' := [(0, .ref 89), (1, .int x1), (2, .int x2)]) (st' := [.int (-1 : Int32), .int x2]) (S1 := (SH ++ X)) (V1 := (si V 89 14 (0 : Int32))) rfl ?_
    rcases ai_if h with ⟨hc, h⟩ | ⟨hc, h⟩
    · refine rn_brT rfl rfl rfl rfl hc ?_
      exact rn_sub [0, 1, 2] rfl rfl (t_M_lifts_29 (X := X) hd x1 x2 (si V 89 14 (0 : Int32)) _ h)
    · refine rn_brF rfl rfl rfl rfl hc ?_
      refine rn_go 3 (pc' := 21) (l' := [(0, .ref 89), (1, .int x1), (2, .int x2)]) (st' := [.int x2, .int x1, .ref 89]) (S1 := (SH ++ X)) (V1 := (si V 89 14 (0 : Int32))) rfl ?_
      obtain ⟨q7, hq7, h⟩ := ai_bd h
      refine rn_call rfl rfl rfl rfl rfl rfl (by omega) (t_M_areTwo (by omega) hq7) ?_
      rcases ai_if h with ⟨hc, h⟩ | ⟨hc, h⟩
      · refine rn_brT rfl rfl rfl rfl hc ?_
        exact rn_sub [0, 1, 2] rfl rfl (t_M_lifts_29 (X := X) hd x1 x2 (si V 89 14 (0 : Int32)) _ h)
      · refine rn_brF rfl rfl rfl rfl hc ?_
        refine rn_go 1 (pc' := 28) (l' := [(0, .ref 89), (1, .int x1), (2, .int x2)]) (st' := [.int (-1 : Int32)]) (S1 := (SH ++ X)) (V1 := (si V 89 14 (0 : Int32))) rfl ?_
        obtain rfl := Option.some.inj h
        exact rn_ret rfl rfl rfl
-- RentByTheWheelModel.set(II)I (89, None, None)
def d_M_set_80  (x1 : Int32) (x2 : Int32) (V : ai_V) : Option (Int32 × ai_V) :=
  if ¬ x1 = (2 : Int32) then (some ((-1 : Int32), V)) else ((d_M_in x2 (0 : Int32) (gi V 89 8) V).bind fun q1 => (if q1 = 0 then (some ((-1 : Int32), V)) else (some ((ga V 90 ((12 : Int32)).toNatClampNeg), (sa V 90 ((12 : Int32)).toNatClampNeg x2)))))
set_option maxRecDepth 20000 in
theorem t_M_set_80 {X : ai_S} {e : Nat} (hd : 1 ≤ e)  (x1 : Int32) (x2 : Int32) (V : ai_V) (r : (Int32 × ai_V)) (h : d_M_set_80  x1 x2 V = some r) : Rn e 187 80 [(0, .ref 89), (1, .int x1), (2, .int x2)] [] (SH ++ X) V (some (.int r.1)) (SH ++ X) r.2 := by
  rw [d_M_set_80] at h
  refine rn_go 2 (pc' := 82) (l' := [(0, .ref 89), (1, .int x1), (2, .int x2)]) (st' := [.int (2 : Int32), .int x1]) (S1 := (SH ++ X)) (V1 := V) rfl ?_
  rcases ai_if h with ⟨hc, h⟩ | ⟨hc, h⟩
  · refine rn_brT rfl rfl rfl rfl hc ?_
    refine rn_go 1 (pc' := 116) (l' := [(0, .ref 89), (1, .int x1), (2, .int x2)]) (st' := [.int (-1 : Int32)]) (S1 := (SH ++ X)) (V1 := V) rfl ?_
    obtain rfl := Option.some.inj h
    exact rn_ret rfl rfl rfl
  · refine rn_brF rfl rfl rfl rfl hc ?_
    refine rn_go 4 (pc' := 91) (l' := [(0, .ref 89), (1, .int x1), (2, .int x2)]) (st' := [.int (gi V 89 8), .int (0 : Int32), .int x2]) (S1 := (SH ++ X)) (V1 := V) rfl ?_
    obtain ⟨q1, hq1, h⟩ := ai_bd h
    refine rn_call rfl rfl rfl rfl rfl rfl (by omega) (t_M_in (by omega) hq1) ?_
    rcases ai_if h with ⟨hc, h⟩ | ⟨hc, h⟩
    · refine rn_brT rfl rfl rfl rfl hc ?_
      refine rn_go 1 (pc' := 116) (l' := [(0, .ref 89), (1, .int x1), (2, .int x2)]) (st' := [.int (-1 : Int32)]) (S1 := (SH ++ X)) (V1 := V) rfl ?_
      obtain rfl := Option.some.inj h
      exact rn_ret rfl rfl rfl
    · refine rn_brF rfl rfl rfl rfl hc ?_
      refine rn_go 3 (pc' := 103) (l' := [(0, .ref 89), (1, .int x1), (2, .int x2)]) (st' := [.int (12 : Int32), .ref 90]) (S1 := (SH ++ X)) (V1 := V) rfl ?_
      refine rg_iald (n := 14) rfl rfl (by decide) ?_
      refine rn_go 5 (pc' := 112) (l' := [(3, .int (ga V 90 ((12 : Int32)).toNatClampNeg)), (0, .ref 89), (1, .int x1), (2, .int x2)]) (st' := [.int x2, .int (12 : Int32), .ref 90]) (S1 := (SH ++ X)) (V1 := V) rfl ?_
      refine rg_iast (n := 14) rfl rfl (by decide) ?_
      refine rn_go 1 (pc' := 114) (l' := [(3, .int (ga V 90 ((12 : Int32)).toNatClampNeg)), (0, .ref 89), (1, .int x1), (2, .int x2)]) (st' := [.int (ga V 90 ((12 : Int32)).toNatClampNeg)]) (S1 := (SH ++ X)) (V1 := (sa V 90 ((12 : Int32)).toNatClampNeg x2)) rfl ?_
      obtain rfl := Option.some.inj h
      exact rn_ret rfl rfl rfl
def d_M_set_53  (x1 : Int32) (x2 : Int32) (V : ai_V) : Option (Int32 × ai_V) :=
  if ¬ x1 = (1 : Int32) then (d_M_set_80 x1 x2 V) else ((d_M_in x2 (0 : Int32) (9 : Int32) V).bind fun q2 => (if q2 = 0 then (d_M_set_80 x1 x2 V) else (some ((gi V 89 9), (si V 89 9 x2)))))
set_option maxRecDepth 20000 in
theorem t_M_set_53 {X : ai_S} {e : Nat} (hd : 1 ≤ e)  (x1 : Int32) (x2 : Int32) (V : ai_V) (r : (Int32 × ai_V)) (h : d_M_set_53  x1 x2 V = some r) : Rn e 187 53 [(0, .ref 89), (1, .int x1), (2, .int x2)] [] (SH ++ X) V (some (.int r.1)) (SH ++ X) r.2 := by
  rw [d_M_set_53] at h
  refine rn_go 2 (pc' := 55) (l' := [(0, .ref 89), (1, .int x1), (2, .int x2)]) (st' := [.int (1 : Int32), .int x1]) (S1 := (SH ++ X)) (V1 := V) rfl ?_
  rcases ai_if h with ⟨hc, h⟩ | ⟨hc, h⟩
  · refine rn_brT rfl rfl rfl rfl hc ?_
    exact rn_sub [0, 1, 2] rfl rfl (t_M_set_80 (X := X) hd x1 x2 V _ h)
  · refine rn_brF rfl rfl rfl rfl hc ?_
    refine rn_go 3 (pc' := 62) (l' := [(0, .ref 89), (1, .int x1), (2, .int x2)]) (st' := [.int (9 : Int32), .int (0 : Int32), .int x2]) (S1 := (SH ++ X)) (V1 := V) rfl ?_
    obtain ⟨q2, hq2, h⟩ := ai_bd h
    refine rn_call rfl rfl rfl rfl rfl rfl (by omega) (t_M_in (by omega) hq2) ?_
    rcases ai_if h with ⟨hc, h⟩ | ⟨hc, h⟩
    · refine rn_brT rfl rfl rfl rfl hc ?_
      exact rn_sub [0, 1, 2] rfl rfl (t_M_set_80 (X := X) hd x1 x2 V _ h)
    · refine rn_brF rfl rfl rfl rfl hc ?_
      refine rn_go 7 (pc' := 79) (l' := [(3, .int (gi V 89 9)), (0, .ref 89), (1, .int x1), (2, .int x2)]) (st' := [.int (gi V 89 9)]) (S1 := (SH ++ X)) (V1 := (si V 89 9 x2)) rfl ?_
      obtain rfl := Option.some.inj h
      exact rn_ret rfl rfl rfl
def d_M_set (x1 : Int32) (x2 : Int32) (V : ai_V) : Option (Int32 × ai_V) :=
  if ¬ x1 = 0 then (d_M_set_53 x1 x2 (si V 89 14 (0 : Int32))) else ((d_M_in x2 (1 : Int32) (999 : Int32) (si V 89 14 (0 : Int32))).bind fun q3 => (if q3 = 0 then (d_M_set_53 x1 x2 (si V 89 14 (0 : Int32))) else (some ((gi (si V 89 14 (0 : Int32)) 89 8), (sa (si (si V 89 14 (0 : Int32)) 89 8 x2) 90 ((12 : Int32)).toNatClampNeg (ai_min (ga (si (si V 89 14 (0 : Int32)) 89 8 x2) 90 ((12 : Int32)).toNatClampNeg) (gi (si (si V 89 14 (0 : Int32)) 89 8 x2) 89 8)))))))
set_option maxRecDepth 20000 in
theorem t_M_set {X : ai_S} {e : Nat} (hd : 1 ≤ e) {x1 : Int32} {x2 : Int32} {V : ai_V} {r : (Int32 × ai_V)} (h : d_M_set x1 x2 V = some r) : Rn e 187 0 (lv_args 0 [.ref 89, .int x1, .int x2]) [] (SH ++ X) V (some (.int r.1)) (SH ++ X) r.2 := by
  rw [d_M_set] at h
  refine rn_go 4 (pc' := 6) (l' := [(0, .ref 89), (1, .int x1), (2, .int x2)]) (st' := [.int x1]) (S1 := (SH ++ X)) (V1 := (si V 89 14 (0 : Int32))) rfl ?_
  rcases ai_if h with ⟨hc, h⟩ | ⟨hc, h⟩
  · refine rn_brT rfl rfl rfl rfl hc ?_
    exact rn_sub [0, 1, 2] rfl rfl (t_M_set_53 (X := X) hd x1 x2 (si V 89 14 (0 : Int32)) _ h)
  · refine rn_brF rfl rfl rfl rfl hc ?_
    refine rn_go 3 (pc' := 14) (l' := [(0, .ref 89), (1, .int x1), (2, .int x2)]) (st' := [.int (999 : Int32), .int (1 : Int32), .int x2]) (S1 := (SH ++ X)) (V1 := (si V 89 14 (0 : Int32))) rfl ?_
    obtain ⟨q3, hq3, h⟩ := ai_bd h
    refine rn_call rfl rfl rfl rfl rfl rfl (by omega) (t_M_in (by omega) hq3) ?_
    rcases ai_if h with ⟨hc, h⟩ | ⟨hc, h⟩
    · refine rn_brT rfl rfl rfl rfl hc ?_
      exact rn_sub [0, 1, 2] rfl rfl (t_M_set_53 (X := X) hd x1 x2 (si V 89 14 (0 : Int32)) _ h)
    · refine rn_brF rfl rfl rfl rfl hc ?_
      refine rn_go 12 (pc' := 42) (l' := [(3, .int (gi (si V 89 14 (0 : Int32)) 89 8)), (0, .ref 89), (1, .int x1), (2, .int x2)]) (st' := [.int (12 : Int32), .ref 90, .int (12 : Int32), .ref 90]) (S1 := (SH ++ X)) (V1 := (si (si V 89 14 (0 : Int32)) 89 8 x2)) rfl ?_
      refine rg_iald (n := 14) rfl rfl (by decide) ?_
      refine rn_go 3 (pc' := 50) (l' := [(3, .int (gi (si V 89 14 (0 : Int32)) 89 8)), (0, .ref 89), (1, .int x1), (2, .int x2)]) (st' := [.int (ai_min (ga (si (si V 89 14 (0 : Int32)) 89 8 x2) 90 ((12 : Int32)).toNatClampNeg) (gi (si (si V 89 14 (0 : Int32)) 89 8 x2) 89 8)), .int (12 : Int32), .ref 90]) (S1 := (SH ++ X)) (V1 := (si (si V 89 14 (0 : Int32)) 89 8 x2)) rfl ?_
      refine rg_iast (n := 14) rfl rfl (by decide) ?_
      refine rn_go 1 (pc' := 52) (l' := [(3, .int (gi (si V 89 14 (0 : Int32)) 89 8)), (0, .ref 89), (1, .int x1), (2, .int x2)]) (st' := [.int (gi (si V 89 14 (0 : Int32)) 89 8)]) (S1 := (SH ++ X)) (V1 := (sa (si (si V 89 14 (0 : Int32)) 89 8 x2) 90 ((12 : Int32)).toNatClampNeg (ai_min (ga (si (si V 89 14 (0 : Int32)) 89 8 x2) 90 ((12 : Int32)).toNatClampNeg) (gi (si (si V 89 14 (0 : Int32)) 89 8 x2) 89 8)))) rfl ?_
      obtain rfl := Option.some.inj h
      exact rn_ret rfl rfl rfl
-- RentByTheWheelModel.brake(II)I (89, None, None)
def d_M_brake (x1 : Int32) (x2 : Int32) (V : ai_V) : Option (Int32 × ai_V) :=
  (d_M_isOne x1 (si V 89 14 (0 : Int32))).bind fun q1 => (if q1 = 0 then (some ((-1 : Int32), (si V 89 14 (0 : Int32)))) else ((d_M_in x2 (0 : Int32) (1 : Int32) (si V 89 14 (0 : Int32))).bind fun q2 => (if ¬ q2 = 0 then (some ((((gi (si V 89 14 (0 : Int32)) 89 7) >>> (x1 &&& 31)) &&& (1 : Int32)), (si (si V 89 14 (0 : Int32)) 89 7 (((gi (si V 89 14 (0 : Int32)) 89 7) &&& (((1 : Int32) <<< (x1 &&& 31)) ^^^ (-1 : Int32))) ||| (x2 <<< (x1 &&& 31)))))) else (some ((-1 : Int32), (si V 89 14 (0 : Int32)))))))
set_option maxRecDepth 20000 in
theorem t_M_brake {X : ai_S} {e : Nat} (hd : 2 ≤ e) {x1 : Int32} {x2 : Int32} {V : ai_V} {r : (Int32 × ai_V)} (h : d_M_brake x1 x2 V = some r) : Rn e 188 0 (lv_args 0 [.ref 89, .int x1, .int x2]) [] (SH ++ X) V (some (.int r.1)) (SH ++ X) r.2 := by
  rw [d_M_brake] at h
  refine rn_go 5 (pc' := 7) (l' := [(0, .ref 89), (1, .int x1), (2, .int x2)]) (st' := [.int x1, .ref 89]) (S1 := (SH ++ X)) (V1 := (si V 89 14 (0 : Int32))) rfl ?_
  obtain ⟨q1, hq1, h⟩ := ai_bd h
  refine rn_call rfl rfl rfl rfl rfl rfl (by omega) (t_M_isOne (by omega) hq1) ?_
  rcases ai_if h with ⟨hc, h⟩ | ⟨hc, h⟩
  · refine rn_brT rfl rfl rfl rfl hc ?_
    refine rn_go 1 (pc' := 23) (l' := [(0, .ref 89), (1, .int x1), (2, .int x2)]) (st' := [.int (-1 : Int32)]) (S1 := (SH ++ X)) (V1 := (si V 89 14 (0 : Int32))) rfl ?_
    obtain rfl := Option.some.inj h
    exact rn_ret rfl rfl rfl
  · refine rn_brF rfl rfl rfl rfl hc ?_
    refine rn_go 3 (pc' := 16) (l' := [(0, .ref 89), (1, .int x1), (2, .int x2)]) (st' := [.int (1 : Int32), .int (0 : Int32), .int x2]) (S1 := (SH ++ X)) (V1 := (si V 89 14 (0 : Int32))) rfl ?_
    obtain ⟨q2, hq2, h⟩ := ai_bd h
    refine rn_call rfl rfl rfl rfl rfl rfl (by omega) (t_M_in (by omega) hq2) ?_
    rcases ai_if h with ⟨hc, h⟩ | ⟨hc, h⟩
    · refine rn_brT rfl rfl rfl rfl hc ?_
      refine rn_go 22 (pc' := 52) (l' := [(3, .int (((gi (si V 89 14 (0 : Int32)) 89 7) >>> (x1 &&& 31)) &&& (1 : Int32))), (0, .ref 89), (1, .int x1), (2, .int x2)]) (st' := [.int (((gi (si V 89 14 (0 : Int32)) 89 7) >>> (x1 &&& 31)) &&& (1 : Int32))]) (S1 := (SH ++ X)) (V1 := (si (si V 89 14 (0 : Int32)) 89 7 (((gi (si V 89 14 (0 : Int32)) 89 7) &&& (((1 : Int32) <<< (x1 &&& 31)) ^^^ (-1 : Int32))) ||| (x2 <<< (x1 &&& 31))))) rfl ?_
      obtain rfl := Option.some.inj h
      exact rn_ret rfl rfl rfl
    · refine rn_brF rfl rfl rfl rfl hc ?_
      refine rn_go 1 (pc' := 23) (l' := [(0, .ref 89), (1, .int x1), (2, .int x2)]) (st' := [.int (-1 : Int32)]) (S1 := (SH ++ X)) (V1 := (si V 89 14 (0 : Int32))) rfl ?_
      obtain rfl := Option.some.inj h
      exact rn_ret rfl rfl rfl
-- RentByTheWheelModel.sheet(IIII)I (89, None, None, None, None)
def d_M_sheet_109 (F43 : Int32 → Int32 → Int32 → Int32 → Int32 → Int32 → ai_V → Option (Int32 × ai_V)) (x1 : Int32) (x2 : Int32) (x4 : Int32) (x5 : Int32) (x6 : Int32) (x7 : Int32) (s0 : Int32) (s1 : Int32) (V : ai_V) : Option (Int32 × ai_V) :=
  if ai_in s1 6 then (if ai_in x7 6 then (F43 x1 x2 x4 (x5 + (ga (sa V 92 (s1).toNatClampNeg s0) 92 (x7).toNatClampNeg)) (x6 + x4) (x7 + (1 : Int32)) (sa V 92 (s1).toNatClampNeg s0)) else none) else none
set_option maxRecDepth 20000 in
theorem t_M_sheet_109 {X : ai_S} {e : Nat} (hd : 1 ≤ e) (F43 : Int32 → Int32 → Int32 → Int32 → Int32 → Int32 → ai_V → Option (Int32 × ai_V)) (hF43 : ∀ (x1 : Int32) (x2 : Int32) (x4 : Int32) (x5 : Int32) (x6 : Int32) (x7 : Int32) (V : ai_V) (r : (Int32 × ai_V)), F43 x1 x2 x4 x5 x6 x7 V = some r → Rn e 189 43 [(0, .ref 89), (1, .int x1), (2, .int x2), (4, .int x4), (5, .int x5), (6, .int x6), (7, .int x7)] [] (SH ++ X) V (some (.int r.1)) (SH ++ X) r.2) (x1 : Int32) (x2 : Int32) (x4 : Int32) (x5 : Int32) (x6 : Int32) (x7 : Int32) (s0 : Int32) (s1 : Int32) (V : ai_V) (r : (Int32 × ai_V)) (h : d_M_sheet_109 F43 x1 x2 x4 x5 x6 x7 s0 s1 V = some r) : Rn e 189 109 [(0, .ref 89), (1, .int x1), (2, .int x2), (4, .int x4), (5, .int x5), (6, .int x6), (7, .int x7)] [.int s0, .int s1, .ref 92] (SH ++ X) V (some (.int r.1)) (SH ++ X) r.2 := by
  rw [d_M_sheet_109] at h
  obtain ⟨hg, h⟩ := ai_gd h
  refine rg_iast (n := 6) rfl rfl hg ?_
  refine rn_go 4 (pc' := 118) (l' := [(0, .ref 89), (1, .int x1), (2, .int x2), (4, .int x4), (5, .int x5), (6, .int x6), (7, .int x7)]) (st' := [.int x7, .ref 92, .int x5]) (S1 := (SH ++ X)) (V1 := (sa V 92 (s1).toNatClampNeg s0)) rfl ?_
  obtain ⟨hg, h⟩ := ai_gd h
  refine rg_iald (n := 6) rfl rfl hg ?_
  refine rn_go 8 (pc' := 43) (l' := [(7, .int (x7 + (1 : Int32))), (6, .int (x6 + x4)), (5, .int (x5 + (ga (sa V 92 (s1).toNatClampNeg s0) 92 (x7).toNatClampNeg))), (0, .ref 89), (1, .int x1), (2, .int x2), (4, .int x4)]) (st' := []) (S1 := (SH ++ X)) (V1 := (sa V 92 (s1).toNatClampNeg s0)) rfl ?_
  exact rn_sub [3, 4, 5, 6, 2, 1, 0] rfl rfl (hF43 x1 x2 x4 (x5 + (ga (sa V 92 (s1).toNatClampNeg s0) 92 (x7).toNatClampNeg)) (x6 + x4) (x7 + (1 : Int32)) (sa V 92 (s1).toNatClampNeg s0) _ h)
def d_M_sheet_94 (F43 : Int32 → Int32 → Int32 → Int32 → Int32 → Int32 → ai_V → Option (Int32 × ai_V)) (x1 : Int32) (x2 : Int32) (x4 : Int32) (x5 : Int32) (x6 : Int32) (x7 : Int32) (s0 : Int32) (V : ai_V) : Option (Int32 × ai_V) :=
  d_M_sheet_109 F43 x1 x2 x4 x5 x6 x7 (1 : Int32) s0 V
set_option maxRecDepth 20000 in
theorem t_M_sheet_94 {X : ai_S} {e : Nat} (hd : 1 ≤ e) (F43 : Int32 → Int32 → Int32 → Int32 → Int32 → Int32 → ai_V → Option (Int32 × ai_V)) (hF43 : ∀ (x1 : Int32) (x2 : Int32) (x4 : Int32) (x5 : Int32) (x6 : Int32) (x7 : Int32) (V : ai_V) (r : (Int32 × ai_V)), F43 x1 x2 x4 x5 x6 x7 V = some r → Rn e 189 43 [(0, .ref 89), (1, .int x1), (2, .int x2), (4, .int x4), (5, .int x5), (6, .int x6), (7, .int x7)] [] (SH ++ X) V (some (.int r.1)) (SH ++ X) r.2) (x1 : Int32) (x2 : Int32) (x4 : Int32) (x5 : Int32) (x6 : Int32) (x7 : Int32) (s0 : Int32) (V : ai_V) (r : (Int32 × ai_V)) (h : d_M_sheet_94 F43 x1 x2 x4 x5 x6 x7 s0 V = some r) : Rn e 189 94 [(0, .ref 89), (1, .int x1), (2, .int x2), (4, .int x4), (5, .int x5), (6, .int x6), (7, .int x7)] [.int s0, .ref 92] (SH ++ X) V (some (.int r.1)) (SH ++ X) r.2 := by
  rw [d_M_sheet_94] at h
  refine rn_go 2 (pc' := 109) (l' := [(0, .ref 89), (1, .int x1), (2, .int x2), (4, .int x4), (5, .int x5), (6, .int x6), (7, .int x7)]) (st' := [.int (1 : Int32), .int s0, .ref 92]) (S1 := (SH ++ X)) (V1 := V) rfl ?_
  exact rn_sub [0, 1, 2, 3, 4, 5, 6] rfl rfl (t_M_sheet_109 (X := X) hd F43 hF43 x1 x2 x4 x5 x6 x7 (1 : Int32) s0 V _ h)
def d_M_sheet_75 (F43 : Int32 → Int32 → Int32 → Int32 → Int32 → Int32 → ai_V → Option (Int32 × ai_V)) (x1 : Int32) (x2 : Int32) (x4 : Int32) (x5 : Int32) (x6 : Int32) (x7 : Int32) (s0 : Int32) (V : ai_V) : Option (Int32 × ai_V) :=
  if x1 = (3 : Int32) then (d_M_sheet_94 F43 x1 x2 x4 x5 x6 x7 x7 V) else (if x7 < x2 then (d_M_sheet_109 F43 x1 x2 x4 x5 x6 x7 (ai_max (1 : Int32) (ai_min (9 : Int32) s0)) x7 V) else (d_M_sheet_94 F43 x1 x2 x4 x5 x6 x7 x7 V))
set_option maxRecDepth 20000 in
theorem t_M_sheet_75 {X : ai_S} {e : Nat} (hd : 1 ≤ e) (F43 : Int32 → Int32 → Int32 → Int32 → Int32 → Int32 → ai_V → Option (Int32 × ai_V)) (hF43 : ∀ (x1 : Int32) (x2 : Int32) (x4 : Int32) (x5 : Int32) (x6 : Int32) (x7 : Int32) (V : ai_V) (r : (Int32 × ai_V)), F43 x1 x2 x4 x5 x6 x7 V = some r → Rn e 189 43 [(0, .ref 89), (1, .int x1), (2, .int x2), (4, .int x4), (5, .int x5), (6, .int x6), (7, .int x7)] [] (SH ++ X) V (some (.int r.1)) (SH ++ X) r.2) (x1 : Int32) (x2 : Int32) (x4 : Int32) (x5 : Int32) (x6 : Int32) (x7 : Int32) (s0 : Int32) (V : ai_V) (r : (Int32 × ai_V)) (h : d_M_sheet_75 F43 x1 x2 x4 x5 x6 x7 s0 V = some r) : Rn e 189 75 [(0, .ref 89), (1, .int x1), (2, .int x2), (4, .int x4), (5, .int x5), (6, .int x6), (7, .int x7)] [.int s0] (SH ++ X) V (some (.int r.1)) (SH ++ X) r.2 := by
  rw [d_M_sheet_75] at h
  refine rn_go 6 (pc' := 85) (l' := [(8, .int s0), (0, .ref 89), (1, .int x1), (2, .int x2), (4, .int x4), (5, .int x5), (6, .int x6), (7, .int x7)]) (st' := [.int (3 : Int32), .int x1, .int x7, .ref 92]) (S1 := (SH ++ X)) (V1 := V) rfl ?_
  rcases ai_if h with ⟨hc, h⟩ | ⟨hc, h⟩
  · refine rn_brT rfl rfl rfl rfl hc ?_
    exact rn_sub [1, 2, 3, 4, 5, 6, 7] rfl rfl (t_M_sheet_94 (X := X) hd F43 hF43 x1 x2 x4 x5 x6 x7 x7 V _ h)
  · refine rn_brF rfl rfl rfl rfl hc ?_
    refine rn_go 2 (pc' := 91) (l' := [(8, .int s0), (0, .ref 89), (1, .int x1), (2, .int x2), (4, .int x4), (5, .int x5), (6, .int x6), (7, .int x7)]) (st' := [.int x2, .int x7, .int x7, .ref 92]) (S1 := (SH ++ X)) (V1 := V) rfl ?_
    rcases ai_if h with ⟨hc, h⟩ | ⟨hc, h⟩
    · refine rn_brT rfl rfl rfl rfl hc ?_
      refine rn_go 5 (pc' := 109) (l' := [(8, .int s0), (0, .ref 89), (1, .int x1), (2, .int x2), (4, .int x4), (5, .int x5), (6, .int x6), (7, .int x7)]) (st' := [.int (ai_max (1 : Int32) (ai_min (9 : Int32) s0)), .int x7, .ref 92]) (S1 := (SH ++ X)) (V1 := V) rfl ?_
      exact rn_sub [1, 2, 3, 4, 5, 6, 7] rfl rfl (t_M_sheet_109 (X := X) hd F43 hF43 x1 x2 x4 x5 x6 x7 (ai_max (1 : Int32) (ai_min (9 : Int32) s0)) x7 V _ h)
    · refine rn_brF rfl rfl rfl rfl hc ?_
      exact rn_sub [1, 2, 3, 4, 5, 6, 7] rfl rfl (t_M_sheet_94 (X := X) hd F43 hF43 x1 x2 x4 x5 x6 x7 x7 V _ h)
def d_M_sheet_43  : Nat → Int32 → Int32 → Int32 → Int32 → Int32 → Int32 → ai_V → Option (Int32 × ai_V)
  | 0, _, _, _, _, _, _, _ => none
  | n + 1, x1, x2, x4, x5, x6, x7, V => if (gi V 89 1) ≤ x7 then (if ¬ x1 = (3 : Int32) then (some (x5, V)) else (some ((-3 : Int32), V))) else (if ¬ x1 = 0 then (if ¬ x1 = (1 : Int32) then (d_M_sheet_75 (d_M_sheet_43 n) x1 x2 x4 x5 x6 x7 x6 V) else (d_M_sheet_75 (d_M_sheet_43 n) x1 x2 x4 x5 x6 x7 (x6).toInt16.toInt32 V)) else (d_M_sheet_75 (d_M_sheet_43 n) x1 x2 x4 x5 x6 x7 (x6).toInt8.toInt32 V))
set_option maxRecDepth 20000 in
theorem t_M_sheet_43 {X : ai_S} {e : Nat} (hd : 1 ≤ e)  : ∀ (n : Nat) (x1 : Int32) (x2 : Int32) (x4 : Int32) (x5 : Int32) (x6 : Int32) (x7 : Int32) (V : ai_V) (r : (Int32 × ai_V)), d_M_sheet_43  n x1 x2 x4 x5 x6 x7 V = some r → Rn e 189 43 [(0, .ref 89), (1, .int x1), (2, .int x2), (4, .int x4), (5, .int x5), (6, .int x6), (7, .int x7)] [] (SH ++ X) V (some (.int r.1)) (SH ++ X) r.2 := by
  intro n
  induction n with
  | zero =>
    intro x1 x2 x4 x5 x6 x7 V r h
    cases h
  | succ n ih =>
    intro x1 x2 x4 x5 x6 x7 V r h
    rw [d_M_sheet_43] at h
    refine rn_go 3 (pc' := 49) (l' := [(0, .ref 89), (1, .int x1), (2, .int x2), (4, .int x4), (5, .int x5), (6, .int x6), (7, .int x7)]) (st' := [.int (gi V 89 1), .int x7]) (S1 := (SH ++ X)) (V1 := V) rfl ?_
    rcases ai_if h with ⟨hc, h⟩ | ⟨hc, h⟩
    · refine rn_brT rfl rfl rfl rfl hc ?_
      refine rn_go 2 (pc' := 137) (l' := [(0, .ref 89), (1, .int x1), (2, .int x2), (4, .int x4), (5, .int x5), (6, .int x6), (7, .int x7)]) (st' := [.int (3 : Int32), .int x1]) (S1 := (SH ++ X)) (V1 := V) rfl ?_
      rcases ai_if h with ⟨hc, h⟩ | ⟨hc, h⟩
      · refine rn_brT rfl rfl rfl rfl hc ?_
        refine rn_go 1 (pc' := 147) (l' := [(0, .ref 89), (1, .int x1), (2, .int x2), (4, .int x4), (5, .int x5), (6, .int x6), (7, .int x7)]) (st' := [.int x5]) (S1 := (SH ++ X)) (V1 := V) rfl ?_
        obtain rfl := Option.some.inj h
        exact rn_ret rfl rfl rfl
      · refine rn_brF rfl rfl rfl rfl hc ?_
        refine rn_go 2 (pc' := 147) (l' := [(0, .ref 89), (1, .int x1), (2, .int x2), (4, .int x4), (5, .int x5), (6, .int x6), (7, .int x7)]) (st' := [.int (-3 : Int32)]) (S1 := (SH ++ X)) (V1 := V) rfl ?_
        obtain rfl := Option.some.inj h
        exact rn_ret rfl rfl rfl
    · refine rn_brF rfl rfl rfl rfl hc ?_
      refine rn_go 1 (pc' := 53) (l' := [(0, .ref 89), (1, .int x1), (2, .int x2), (4, .int x4), (5, .int x5), (6, .int x6), (7, .int x7)]) (st' := [.int x1]) (S1 := (SH ++ X)) (V1 := V) rfl ?_
      rcases ai_if h with ⟨hc, h⟩ | ⟨hc, h⟩
      · refine rn_brT rfl rfl rfl rfl hc ?_
        refine rn_go 2 (pc' := 64) (l' := [(0, .ref 89), (1, .int x1), (2, .int x2), (4, .int x4), (5, .int x5), (6, .int x6), (7, .int x7)]) (st' := [.int (1 : Int32), .int x1]) (S1 := (SH ++ X)) (V1 := V) rfl ?_
        rcases ai_if h with ⟨hc, h⟩ | ⟨hc, h⟩
        · refine rn_brT rfl rfl rfl rfl hc ?_
          refine rn_go 1 (pc' := 75) (l' := [(0, .ref 89), (1, .int x1), (2, .int x2), (4, .int x4), (5, .int x5), (6, .int x6), (7, .int x7)]) (st' := [.int x6]) (S1 := (SH ++ X)) (V1 := V) rfl ?_
          exact rn_sub [0, 1, 2, 3, 4, 5, 6] rfl rfl (t_M_sheet_75 (X := X) hd (d_M_sheet_43 n) (ih) x1 x2 x4 x5 x6 x7 x6 V _ h)
        · refine rn_brF rfl rfl rfl rfl hc ?_
          refine rn_go 3 (pc' := 75) (l' := [(0, .ref 89), (1, .int x1), (2, .int x2), (4, .int x4), (5, .int x5), (6, .int x6), (7, .int x7)]) (st' := [.int (x6).toInt16.toInt32]) (S1 := (SH ++ X)) (V1 := V) rfl ?_
          exact rn_sub [0, 1, 2, 3, 4, 5, 6] rfl rfl (t_M_sheet_75 (X := X) hd (d_M_sheet_43 n) (ih) x1 x2 x4 x5 x6 x7 (x6).toInt16.toInt32 V _ h)
      · refine rn_brF rfl rfl rfl rfl hc ?_
        refine rn_go 3 (pc' := 75) (l' := [(0, .ref 89), (1, .int x1), (2, .int x2), (4, .int x4), (5, .int x5), (6, .int x6), (7, .int x7)]) (st' := [.int (x6).toInt8.toInt32]) (S1 := (SH ++ X)) (V1 := V) rfl ?_
        exact rn_sub [0, 1, 2, 3, 4, 5, 6] rfl rfl (t_M_sheet_75 (X := X) hd (d_M_sheet_43 n) (ih) x1 x2 x4 x5 x6 x7 (x6).toInt8.toInt32 V _ h)
def d_M_sheet_34  (x1 : Int32) (x2 : Int32) (x3 : Int32) (x4 : Int32) (V : ai_V) : Option (Int32 × ai_V) :=
  d_M_sheet_43 ai_N x1 x2 x4 (0 : Int32) x3 (0 : Int32) V
set_option maxRecDepth 20000 in
theorem t_M_sheet_34 {X : ai_S} {e : Nat} (hd : 1 ≤ e)  (x1 : Int32) (x2 : Int32) (x3 : Int32) (x4 : Int32) (V : ai_V) (r : (Int32 × ai_V)) (h : d_M_sheet_34  x1 x2 x3 x4 V = some r) : Rn e 189 34 [(0, .ref 89), (1, .int x1), (2, .int x2), (3, .int x3), (4, .int x4)] [] (SH ++ X) V (some (.int r.1)) (SH ++ X) r.2 := by
  rw [d_M_sheet_34] at h
  refine rn_go 6 (pc' := 43) (l' := [(7, .int (0 : Int32)), (6, .int x3), (5, .int (0 : Int32)), (0, .ref 89), (1, .int x1), (2, .int x2), (3, .int x3), (4, .int x4)]) (st' := []) (S1 := (SH ++ X)) (V1 := V) rfl ?_
  exact rn_sub [3, 4, 5, 7, 2, 1, 0] rfl rfl (t_M_sheet_43 (X := X) hd ai_N x1 x2 x4 (0 : Int32) x3 (0 : Int32) V _ h)
def d_M_sheet (x1 : Int32) (x2 : Int32) (x3 : Int32) (x4 : Int32) (V : ai_V) : Option (Int32 × ai_V) :=
  (d_M_in x1 (0 : Int32) (3 : Int32) (si V 89 14 (0 : Int32))).bind fun q1 => (if q1 = 0 then (some ((-1 : Int32), (si V 89 14 (0 : Int32)))) else (if x2 ≤ (6 : Int32) then (if (3 : Int32) ≤ x1 then (d_M_sheet_34 x1 x2 x3 x4 (si V 89 14 (0 : Int32))) else (if 0 ≤ x2 then (d_M_sheet_34 x1 x2 x3 x4 (si V 89 14 (0 : Int32))) else (some ((-2 : Int32), (si V 89 14 (0 : Int32)))))) else (some ((-1 : Int32), (si V 89 14 (0 : Int32))))))
set_option maxRecDepth 20000 in
theorem t_M_sheet {X : ai_S} {e : Nat} (hd : 1 ≤ e) {x1 : Int32} {x2 : Int32} {x3 : Int32} {x4 : Int32} {V : ai_V} {r : (Int32 × ai_V)} (h : d_M_sheet x1 x2 x3 x4 V = some r) : Rn e 189 0 (lv_args 0 [.ref 89, .int x1, .int x2, .int x3, .int x4]) [] (SH ++ X) V (some (.int r.1)) (SH ++ X) r.2 := by
  rw [d_M_sheet] at h
  refine rn_go 6 (pc' := 8) (l' := [(0, .ref 89), (1, .int x1), (2, .int x2), (3, .int x3), (4, .int x4)]) (st' := [.int (3 : Int32), .int (0 : Int32), .int x1]) (S1 := (SH ++ X)) (V1 := (si V 89 14 (0 : Int32))) rfl ?_
  obtain ⟨q1, hq1, h⟩ := ai_bd h
  refine rn_call rfl rfl rfl rfl rfl rfl (by omega) (t_M_in (by omega) hq1) ?_
  rcases ai_if h with ⟨hc, h⟩ | ⟨hc, h⟩
  · refine rn_brT rfl rfl rfl rfl hc ?_
    refine rn_go 1 (pc' := 21) (l' := [(0, .ref 89), (1, .int x1), (2, .int x2), (3, .int x3), (4, .int x4)]) (st' := [.int (-1 : Int32)]) (S1 := (SH ++ X)) (V1 := (si V 89 14 (0 : Int32))) rfl ?_
    obtain rfl := Option.some.inj h
    exact rn_ret rfl rfl rfl
  · refine rn_brF rfl rfl rfl rfl hc ?_
    refine rn_go 2 (pc' := 17) (l' := [(0, .ref 89), (1, .int x1), (2, .int x2), (3, .int x3), (4, .int x4)]) (st' := [.int (6 : Int32), .int x2]) (S1 := (SH ++ X)) (V1 := (si V 89 14 (0 : Int32))) rfl ?_
    rcases ai_if h with ⟨hc, h⟩ | ⟨hc, h⟩
    · refine rn_brT rfl rfl rfl rfl hc ?_
      refine rn_go 2 (pc' := 24) (l' := [(0, .ref 89), (1, .int x1), (2, .int x2), (3, .int x3), (4, .int x4)]) (st' := [.int (3 : Int32), .int x1]) (S1 := (SH ++ X)) (V1 := (si V 89 14 (0 : Int32))) rfl ?_
      rcases ai_if h with ⟨hc, h⟩ | ⟨hc, h⟩
      · refine rn_brT rfl rfl rfl rfl hc ?_
        exact rn_sub [0, 1, 2, 3, 4] rfl rfl (t_M_sheet_34 (X := X) hd x1 x2 x3 x4 (si V 89 14 (0 : Int32)) _ h)
      · refine rn_brF rfl rfl rfl rfl hc ?_
        refine rn_go 1 (pc' := 28) (l' := [(0, .ref 89), (1, .int x1), (2, .int x2), (3, .int x3), (4, .int x4)]) (st' := [.int x2]) (S1 := (SH ++ X)) (V1 := (si V 89 14 (0 : Int32))) rfl ?_
        rcases ai_if h with ⟨hc, h⟩ | ⟨hc, h⟩
        · refine rn_brT rfl rfl rfl rfl hc ?_
          exact rn_sub [0, 1, 2, 3, 4] rfl rfl (t_M_sheet_34 (X := X) hd x1 x2 x3 x4 (si V 89 14 (0 : Int32)) _ h)
        · refine rn_brF rfl rfl rfl rfl hc ?_
          refine rn_go 1 (pc' := 33) (l' := [(0, .ref 89), (1, .int x1), (2, .int x2), (3, .int x3), (4, .int x4)]) (st' := [.int (-2 : Int32)]) (S1 := (SH ++ X)) (V1 := (si V 89 14 (0 : Int32))) rfl ?_
          obtain rfl := Option.some.inj h
          exact rn_ret rfl rfl rfl
    · refine rn_brF rfl rfl rfl rfl hc ?_
      refine rn_go 1 (pc' := 21) (l' := [(0, .ref 89), (1, .int x1), (2, .int x2), (3, .int x3), (4, .int x4)]) (st' := [.int (-1 : Int32)]) (S1 := (SH ++ X)) (V1 := (si V 89 14 (0 : Int32))) rfl ?_
      obtain rfl := Option.some.inj h
      exact rn_ret rfl rfl rfl
-- RentByTheWheelModel.liftOfAll(III)I (89, None, None, None)
def d_M_liftOfAll_43 (F6 : Int32 → Int32 → Int32 → Int32 → Int32 → ai_V → Option (Int32 × ai_V)) (x1 : Int32) (x2 : Int32) (x3 : Int32) (x5 : Int32) (s0 : Int32) (s1 : Int32) (V : ai_V) : Option (Int32 × ai_V) :=
  F6 x1 x2 x3 (s1 + s0) (x5 + (1 : Int32)) V
set_option maxRecDepth 20000 in
theorem t_M_liftOfAll_43 {X : ai_S} {e : Nat} (hd : 329 ≤ e) (F6 : Int32 → Int32 → Int32 → Int32 → Int32 → ai_V → Option (Int32 × ai_V)) (hF6 : ∀ (x1 : Int32) (x2 : Int32) (x3 : Int32) (x4 : Int32) (x5 : Int32) (V : ai_V) (r : (Int32 × ai_V)), F6 x1 x2 x3 x4 x5 V = some r → Rn e 192 6 [(0, .ref 89), (1, .int x1), (2, .int x2), (3, .int x3), (4, .int x4), (5, .int x5)] [] (SH ++ X) V (some (.int r.1)) (SH ++ X) r.2) (x1 : Int32) (x2 : Int32) (x3 : Int32) (x5 : Int32) (s0 : Int32) (s1 : Int32) (V : ai_V) (r : (Int32 × ai_V)) (h : d_M_liftOfAll_43 F6 x1 x2 x3 x5 s0 s1 V = some r) : Rn e 192 43 [(0, .ref 89), (1, .int x1), (2, .int x2), (3, .int x3), (5, .int x5)] [.int s0, .int s1] (SH ++ X) V (some (.int r.1)) (SH ++ X) r.2 := by
  rw [d_M_liftOfAll_43] at h
  refine rn_go 4 (pc' := 6) (l' := [(5, .int (x5 + (1 : Int32))), (4, .int (s1 + s0)), (0, .ref 89), (1, .int x1), (2, .int x2), (3, .int x3)]) (st' := []) (S1 := (SH ++ X)) (V1 := V) rfl ?_
  exact rn_sub [2, 3, 4, 5, 1, 0] rfl rfl (hF6 x1 x2 x3 (s1 + s0) (x5 + (1 : Int32)) V _ h)
def d_M_liftOfAll_6  : Nat → Int32 → Int32 → Int32 → Int32 → Int32 → ai_V → Option (Int32 × ai_V)
  | 0, _, _, _, _, _, _ => none
  | n + 1, x1, x2, x3, x4, x5, V => if (gi V 89 1) ≤ x5 then (some (x4, V)) else ((d_M_has x1 x5 V).bind fun q1 => (if q1 = 0 then (d_M_liftOfAll_43 (d_M_liftOfAll_6 n) x1 x2 x3 x5 (0 : Int32) x4 V) else ((d_M_liftOf x5 x1 x2 x3 (gi V 89 7) V).bind fun q2 => (d_M_liftOfAll_43 (d_M_liftOfAll_6 n) x1 x2 x3 x5 q2.1 x4 q2.2))))
set_option maxRecDepth 20000 in
theorem t_M_liftOfAll_6 {X : ai_S} {e : Nat} (hd : 329 ≤ e)  : ∀ (n : Nat) (x1 : Int32) (x2 : Int32) (x3 : Int32) (x4 : Int32) (x5 : Int32) (V : ai_V) (r : (Int32 × ai_V)), d_M_liftOfAll_6  n x1 x2 x3 x4 x5 V = some r → Rn e 192 6 [(0, .ref 89), (1, .int x1), (2, .int x2), (3, .int x3), (4, .int x4), (5, .int x5)] [] (SH ++ X) V (some (.int r.1)) (SH ++ X) r.2 := by
  intro n
  induction n with
  | zero =>
    intro x1 x2 x3 x4 x5 V r h
    cases h
  | succ n ih =>
    intro x1 x2 x3 x4 x5 V r h
    rw [d_M_liftOfAll_6] at h
    refine rn_go 3 (pc' := 12) (l' := [(0, .ref 89), (1, .int x1), (2, .int x2), (3, .int x3), (4, .int x4), (5, .int x5)]) (st' := [.int (gi V 89 1), .int x5]) (S1 := (SH ++ X)) (V1 := V) rfl ?_
    rcases ai_if h with ⟨hc, h⟩ | ⟨hc, h⟩
    · refine rn_brT rfl rfl rfl rfl hc ?_
      refine rn_go 1 (pc' := 54) (l' := [(0, .ref 89), (1, .int x1), (2, .int x2), (3, .int x3), (4, .int x4), (5, .int x5)]) (st' := [.int x4]) (S1 := (SH ++ X)) (V1 := V) rfl ?_
      obtain rfl := Option.some.inj h
      exact rn_ret rfl rfl rfl
    · refine rn_brF rfl rfl rfl rfl hc ?_
      refine rn_go 3 (pc' := 20) (l' := [(0, .ref 89), (1, .int x1), (2, .int x2), (3, .int x3), (4, .int x4), (5, .int x5)]) (st' := [.int x5, .int x1, .int x4]) (S1 := (SH ++ X)) (V1 := V) rfl ?_
      obtain ⟨q1, hq1, h⟩ := ai_bd h
      refine rn_call rfl rfl rfl rfl rfl rfl (by omega) (t_M_has (by omega) hq1) ?_
      rcases ai_if h with ⟨hc, h⟩ | ⟨hc, h⟩
      · refine rn_brT rfl rfl rfl rfl hc ?_
        refine rn_go 1 (pc' := 43) (l' := [(0, .ref 89), (1, .int x1), (2, .int x2), (3, .int x3), (4, .int x4), (5, .int x5)]) (st' := [.int (0 : Int32), .int x4]) (S1 := (SH ++ X)) (V1 := V) rfl ?_
        exact rn_sub [0, 1, 2, 3, 5] rfl rfl (t_M_liftOfAll_43 (X := X) hd (d_M_liftOfAll_6 n) (ih) x1 x2 x3 x5 (0 : Int32) x4 V _ h)
      · refine rn_brF rfl rfl rfl rfl hc ?_
        refine rn_go 7 (pc' := 36) (l' := [(0, .ref 89), (1, .int x1), (2, .int x2), (3, .int x3), (4, .int x4), (5, .int x5)]) (st' := [.int (gi V 89 7), .int x3, .int x2, .int x1, .int x5, .ref 89, .int x4]) (S1 := (SH ++ X)) (V1 := V) rfl ?_
        obtain ⟨q2, hq2, h⟩ := ai_bd h
        refine rn_call rfl rfl rfl rfl rfl rfl (by omega) (t_M_liftOf (by omega) hq2) ?_
        refine rn_go 1 (pc' := 43) (l' := [(0, .ref 89), (1, .int x1), (2, .int x2), (3, .int x3), (4, .int x4), (5, .int x5)]) (st' := [.int q2.1, .int x4]) (S1 := (SH ++ X)) (V1 := q2.2) rfl ?_
        exact rn_sub [0, 1, 2, 3, 5] rfl rfl (t_M_liftOfAll_43 (X := X) hd (d_M_liftOfAll_6 n) (ih) x1 x2 x3 x5 q2.1 x4 q2.2 _ h)
def d_M_liftOfAll (x1 : Int32) (x2 : Int32) (x3 : Int32) (V : ai_V) : Option (Int32 × ai_V) :=
  d_M_liftOfAll_6 ai_N x1 x2 x3 (0 : Int32) (0 : Int32) V
set_option maxRecDepth 20000 in
theorem t_M_liftOfAll {X : ai_S} {e : Nat} (hd : 329 ≤ e) {x1 : Int32} {x2 : Int32} {x3 : Int32} {V : ai_V} {r : (Int32 × ai_V)} (h : d_M_liftOfAll x1 x2 x3 V = some r) : Rn e 192 0 (lv_args 0 [.ref 89, .int x1, .int x2, .int x3]) [] (SH ++ X) V (some (.int r.1)) (SH ++ X) r.2 := by
  rw [d_M_liftOfAll] at h
  refine rn_go 4 (pc' := 6) (l' := [(5, .int (0 : Int32)), (4, .int (0 : Int32)), (0, .ref 89), (1, .int x1), (2, .int x2), (3, .int x3)]) (st' := []) (S1 := (SH ++ X)) (V1 := V) rfl ?_
  exact rn_sub [2, 3, 4, 5, 1, 0] rfl rfl (t_M_liftOfAll_6 (X := X) hd ai_N x1 x2 x3 (0 : Int32) (0 : Int32) V _ h)
-- RentByTheWheelModel.storeyOf(I)I (89, None)
def d_M_storeyOf (x1 : Int32) (V : ai_V) : Option Int32 :=
  if ¬ x1 = (gi V 89 30) then (if ¬ x1 = (gi V 89 31) then (if ai_in x1 6 then (some (ga V 91 (x1).toNatClampNeg)) else none) else (if ai_in (gi V 89 30) 6 then (some (ga V 91 ((gi V 89 30)).toNatClampNeg)) else none)) else (if ai_in (gi V 89 31) 6 then (some (ga V 91 ((gi V 89 31)).toNatClampNeg)) else none)
set_option maxRecDepth 20000 in
theorem t_M_storeyOf {X : ai_S} {e : Nat} (hd : 0 ≤ e) {x1 : Int32} {V : ai_V} {r : Int32} (h : d_M_storeyOf x1 V = some r) : Rn e 193 0 (lv_args 0 [.ref 89, .int x1]) [] (SH ++ X) V (some (.int r)) (SH ++ X) V := by
  rw [d_M_storeyOf] at h
  refine rn_go 3 (pc' := 5) (l' := [(0, .ref 89), (1, .int x1)]) (st' := [.int (gi V 89 30), .int x1]) (S1 := (SH ++ X)) (V1 := V) rfl ?_
  rcases ai_if h with ⟨hc, h⟩ | ⟨hc, h⟩
  · refine rn_brT rfl rfl rfl rfl hc ?_
    refine rn_go 3 (pc' := 25) (l' := [(0, .ref 89), (1, .int x1)]) (st' := [.int (gi V 89 31), .int x1]) (S1 := (SH ++ X)) (V1 := V) rfl ?_
    rcases ai_if h with ⟨hc, h⟩ | ⟨hc, h⟩
    · refine rn_brT rfl rfl rfl rfl hc ?_
      refine rn_go 3 (pc' := 45) (l' := [(0, .ref 89), (1, .int x1)]) (st' := [.int x1, .ref 91]) (S1 := (SH ++ X)) (V1 := V) rfl ?_
      obtain ⟨hg, h⟩ := ai_gd h
      refine rg_iald (n := 6) rfl rfl hg ?_
      obtain rfl := Option.some.inj h
      exact rn_ret rfl rfl rfl
    · refine rn_brF rfl rfl rfl rfl hc ?_
      refine rn_go 4 (pc' := 36) (l' := [(0, .ref 89), (1, .int x1)]) (st' := [.int (gi V 89 30), .ref 91]) (S1 := (SH ++ X)) (V1 := V) rfl ?_
      obtain ⟨hg, h⟩ := ai_gd h
      refine rg_iald (n := 6) rfl rfl hg ?_
      refine rn_go 1 (pc' := 46) (l' := [(0, .ref 89), (1, .int x1)]) (st' := [.int (ga V 91 ((gi V 89 30)).toNatClampNeg)]) (S1 := (SH ++ X)) (V1 := V) rfl ?_
      obtain rfl := Option.some.inj h
      exact rn_ret rfl rfl rfl
  · refine rn_brF rfl rfl rfl rfl hc ?_
    refine rn_go 4 (pc' := 16) (l' := [(0, .ref 89), (1, .int x1)]) (st' := [.int (gi V 89 31), .ref 91]) (S1 := (SH ++ X)) (V1 := V) rfl ?_
    obtain ⟨hg, h⟩ := ai_gd h
    refine rg_iald (n := 6) rfl rfl hg ?_
    refine rn_go 1 (pc' := 46) (l' := [(0, .ref 89), (1, .int x1)]) (st' := [.int (ga V 91 ((gi V 89 31)).toNatClampNeg)]) (S1 := (SH ++ X)) (V1 := V) rfl ?_
    obtain rfl := Option.some.inj h
    exact rn_ret rfl rfl rfl
-- RentByTheWheelModel.takes(II)I (89, None, None)
def d_M_takes_78 (F10 : Int32 → Int32 → Int32 → ai_V → Option (Int32 × ai_V)) (F19 : Int32 → Int32 → Int32 → Int32 → ai_V → Option (Int32 × ai_V)) (x2 : Int32) (x3 : Int32) (x4 : Int32) (x5 : Int32) (V : ai_V) : Option (Int32 × ai_V) :=
  F19 x2 x3 x4 (x5 + (1 : Int32)) V
set_option maxRecDepth 20000 in
theorem t_M_takes_78 {X : ai_S} {e : Nat} (hd : 1 ≤ e) (F10 : Int32 → Int32 → Int32 → ai_V → Option (Int32 × ai_V)) (hF10 : ∀ (x2 : Int32) (x3 : Int32) (x4 : Int32) (V : ai_V) (r : (Int32 × ai_V)), F10 x2 x3 x4 V = some r → Rn e 194 10 [(0, .ref 89), (2, .int x2), (3, .int x3), (4, .int x4)] [] (SH ++ X) V (some (.int r.1)) (SH ++ X) r.2) (F19 : Int32 → Int32 → Int32 → Int32 → ai_V → Option (Int32 × ai_V)) (hF19 : ∀ (x2 : Int32) (x3 : Int32) (x4 : Int32) (x5 : Int32) (V : ai_V) (r : (Int32 × ai_V)), F19 x2 x3 x4 x5 V = some r → Rn e 194 19 [(0, .ref 89), (2, .int x2), (3, .int x3), (4, .int x4), (5, .int x5)] [] (SH ++ X) V (some (.int r.1)) (SH ++ X) r.2) (x2 : Int32) (x3 : Int32) (x4 : Int32) (x5 : Int32) (V : ai_V) (r : (Int32 × ai_V)) (h : d_M_takes_78 F10 F19 x2 x3 x4 x5 V = some r) : Rn e 194 78 [(0, .ref 89), (2, .int x2), (3, .int x3), (4, .int x4), (5, .int x5)] [] (SH ++ X) V (some (.int r.1)) (SH ++ X) r.2 := by
  rw [d_M_takes_78] at h
  refine rn_go 2 (pc' := 19) (l' := [(5, .int (x5 + (1 : Int32))), (0, .ref 89), (2, .int x2), (3, .int x3), (4, .int x4)]) (st' := []) (S1 := (SH ++ X)) (V1 := V) rfl ?_
  exact rn_sub [1, 2, 3, 4, 0] rfl rfl (hF19 x2 x3 x4 (x5 + (1 : Int32)) V _ h)
def d_M_takes_19 (F10 : Int32 → Int32 → Int32 → ai_V → Option (Int32 × ai_V)) : Nat → Int32 → Int32 → Int32 → Int32 → ai_V → Option (Int32 × ai_V)
  | 0, _, _, _, _, _ => none
  | n + 1, x2, x3, x4, x5, V => if (gi V 89 1) ≤ x5 then (F10 x2 x3 (x4 + (1 : Int32)) V) else ((d_M_storeyOf x5 V).bind fun q1 => (if q1 = x4 then ((d_M_wantOf x5 x2 V).bind fun q2 => (if x3 < q2 then (d_M_takes_78 F10 (d_M_takes_19 F10 n) x2 x3 x4 x5 (si V 89 29 ((gi V 89 29) ||| ((1 : Int32) <<< (x5 &&& 31))))) else (d_M_takes_78 F10 (d_M_takes_19 F10 n) x2 (x3 - q2) x4 x5 V))) else (d_M_takes_78 F10 (d_M_takes_19 F10 n) x2 x3 x4 x5 V)))
set_option maxRecDepth 20000 in
theorem t_M_takes_19 {X : ai_S} {e : Nat} (hd : 1 ≤ e) (F10 : Int32 → Int32 → Int32 → ai_V → Option (Int32 × ai_V)) (hF10 : ∀ (x2 : Int32) (x3 : Int32) (x4 : Int32) (V : ai_V) (r : (Int32 × ai_V)), F10 x2 x3 x4 V = some r → Rn e 194 10 [(0, .ref 89), (2, .int x2), (3, .int x3), (4, .int x4)] [] (SH ++ X) V (some (.int r.1)) (SH ++ X) r.2) : ∀ (n : Nat) (x2 : Int32) (x3 : Int32) (x4 : Int32) (x5 : Int32) (V : ai_V) (r : (Int32 × ai_V)), d_M_takes_19 F10 n x2 x3 x4 x5 V = some r → Rn e 194 19 [(0, .ref 89), (2, .int x2), (3, .int x3), (4, .int x4), (5, .int x5)] [] (SH ++ X) V (some (.int r.1)) (SH ++ X) r.2 := by
  intro n
  induction n with
  | zero =>
    intro x2 x3 x4 x5 V r h
    cases h
  | succ n ih =>
    intro x2 x3 x4 x5 V r h
    rw [d_M_takes_19] at h
    refine rn_go 3 (pc' := 25) (l' := [(0, .ref 89), (2, .int x2), (3, .int x3), (4, .int x4), (5, .int x5)]) (st' := [.int (gi V 89 1), .int x5]) (S1 := (SH ++ X)) (V1 := V) rfl ?_
    rcases ai_if h with ⟨hc, h⟩ | ⟨hc, h⟩
    · refine rn_brT rfl rfl rfl rfl hc ?_
      refine rn_go 2 (pc' := 10) (l' := [(4, .int (x4 + (1 : Int32))), (0, .ref 89), (2, .int x2), (3, .int x3), (5, .int x5)]) (st' := []) (S1 := (SH ++ X)) (V1 := V) rfl ?_
      exact rn_sub [1, 2, 3, 0] rfl rfl (hF10 x2 x3 (x4 + (1 : Int32)) V _ h)
    · refine rn_brF rfl rfl rfl rfl hc ?_
      refine rn_go 2 (pc' := 31) (l' := [(0, .ref 89), (2, .int x2), (3, .int x3), (4, .int x4), (5, .int x5)]) (st' := [.int x5, .ref 89]) (S1 := (SH ++ X)) (V1 := V) rfl ?_
      obtain ⟨q1, hq1, h⟩ := ai_bd h
      refine rn_call rfl rfl rfl rfl rfl rfl (by omega) (t_M_storeyOf (by omega) hq1) ?_
      refine rn_go 1 (pc' := 36) (l' := [(0, .ref 89), (2, .int x2), (3, .int x3), (4, .int x4), (5, .int x5)]) (st' := [.int x4, .int q1]) (S1 := (SH ++ X)) (V1 := V) rfl ?_
      rcases ai_if h with ⟨hc, h⟩ | ⟨hc, h⟩
      · refine rn_brT rfl rfl rfl rfl hc ?_
        refine rn_go 3 (pc' := 46) (l' := [(0, .ref 89), (2, .int x2), (3, .int x3), (4, .int x4), (5, .int x5)]) (st' := [.int x2, .int x5, .ref 89]) (S1 := (SH ++ X)) (V1 := V) rfl ?_
        obtain ⟨q2, hq2, h⟩ := ai_bd h
        refine rn_call rfl rfl rfl rfl rfl rfl (by omega) (t_M_wantOf (by omega) hq2) ?_
        refine rn_go 3 (pc' := 54) (l' := [(6, .int q2), (0, .ref 89), (2, .int x2), (3, .int x3), (4, .int x4), (5, .int x5)]) (st' := [.int q2, .int x3]) (S1 := (SH ++ X)) (V1 := V) rfl ?_
        rcases ai_if h with ⟨hc, h⟩ | ⟨hc, h⟩
        · refine rn_brT rfl rfl rfl rfl hc ?_
          refine rn_go 8 (pc' := 78) (l' := [(6, .int q2), (0, .ref 89), (2, .int x2), (3, .int x3), (4, .int x4), (5, .int x5)]) (st' := []) (S1 := (SH ++ X)) (V1 := (si V 89 29 ((gi V 89 29) ||| ((1 : Int32) <<< (x5 &&& 31))))) rfl ?_
          exact rn_sub [1, 2, 3, 4, 5] rfl rfl (t_M_takes_78 (X := X) hd F10 hF10 (d_M_takes_19 F10 n) (ih) x2 x3 x4 x5 (si V 89 29 ((gi V 89 29) ||| ((1 : Int32) <<< (x5 &&& 31)))) _ h)
        · refine rn_brF rfl rfl rfl rfl hc ?_
          refine rn_go 5 (pc' := 78) (l' := [(3, .int (x3 - q2)), (6, .int q2), (0, .ref 89), (2, .int x2), (4, .int x4), (5, .int x5)]) (st' := []) (S1 := (SH ++ X)) (V1 := V) rfl ?_
          exact rn_sub [2, 3, 0, 4, 5] rfl rfl (t_M_takes_78 (X := X) hd F10 hF10 (d_M_takes_19 F10 n) (ih) x2 (x3 - q2) x4 x5 V _ h)
      · refine rn_brF rfl rfl rfl rfl hc ?_
        refine rn_go 1 (pc' := 78) (l' := [(0, .ref 89), (2, .int x2), (3, .int x3), (4, .int x4), (5, .int x5)]) (st' := []) (S1 := (SH ++ X)) (V1 := V) rfl ?_
        exact rn_sub [0, 1, 2, 3, 4] rfl rfl (t_M_takes_78 (X := X) hd F10 hF10 (d_M_takes_19 F10 n) (ih) x2 x3 x4 x5 V _ h)
def d_M_takes_10  : Nat → Int32 → Int32 → Int32 → ai_V → Option (Int32 × ai_V)
  | 0, _, _, _, _ => none
  | n + 1, x2, x3, x4, V => if (5 : Int32) < x4 then (some (x3, V)) else (d_M_takes_19 (d_M_takes_10 n) ai_N x2 x3 x4 (0 : Int32) V)
set_option maxRecDepth 20000 in
theorem t_M_takes_10 {X : ai_S} {e : Nat} (hd : 1 ≤ e)  : ∀ (n : Nat) (x2 : Int32) (x3 : Int32) (x4 : Int32) (V : ai_V) (r : (Int32 × ai_V)), d_M_takes_10  n x2 x3 x4 V = some r → Rn e 194 10 [(0, .ref 89), (2, .int x2), (3, .int x3), (4, .int x4)] [] (SH ++ X) V (some (.int r.1)) (SH ++ X) r.2 := by
  intro n
  induction n with
  | zero =>
    intro x2 x3 x4 V r h
    cases h
  | succ n ih =>
    intro x2 x3 x4 V r h
    rw [d_M_takes_10] at h
    refine rn_go 2 (pc' := 13) (l' := [(0, .ref 89), (2, .int x2), (3, .int x3), (4, .int x4)]) (st' := [.int (5 : Int32), .int x4]) (S1 := (SH ++ X)) (V1 := V) rfl ?_
    rcases ai_if h with ⟨hc, h⟩ | ⟨hc, h⟩
    · refine rn_brT rfl rfl rfl rfl hc ?_
      refine rn_go 1 (pc' := 91) (l' := [(0, .ref 89), (2, .int x2), (3, .int x3), (4, .int x4)]) (st' := [.int x3]) (S1 := (SH ++ X)) (V1 := V) rfl ?_
      obtain rfl := Option.some.inj h
      exact rn_ret rfl rfl rfl
    · refine rn_brF rfl rfl rfl rfl hc ?_
      refine rn_go 2 (pc' := 19) (l' := [(5, .int (0 : Int32)), (0, .ref 89), (2, .int x2), (3, .int x3), (4, .int x4)]) (st' := []) (S1 := (SH ++ X)) (V1 := V) rfl ?_
      exact rn_sub [1, 2, 3, 4, 0] rfl rfl (t_M_takes_19 (X := X) hd (d_M_takes_10 n) (ih) ai_N x2 x3 x4 (0 : Int32) V _ h)
def d_M_takes (x1 : Int32) (x2 : Int32) (V : ai_V) : Option (Int32 × ai_V) :=
  d_M_takes_10 ai_N x2 x1 (0 : Int32) (si V 89 29 (0 : Int32))
set_option maxRecDepth 20000 in
theorem t_M_takes {X : ai_S} {e : Nat} (hd : 1 ≤ e) {x1 : Int32} {x2 : Int32} {V : ai_V} {r : (Int32 × ai_V)} (h : d_M_takes x1 x2 V = some r) : Rn e 194 0 (lv_args 0 [.ref 89, .int x1, .int x2]) [] (SH ++ X) V (some (.int r.1)) (SH ++ X) r.2 := by
  rw [d_M_takes] at h
  refine rn_go 7 (pc' := 10) (l' := [(4, .int (0 : Int32)), (3, .int x1), (0, .ref 89), (1, .int x1), (2, .int x2)]) (st' := []) (S1 := (SH ++ X)) (V1 := (si V 89 29 (0 : Int32))) rfl ?_
  exact rn_sub [2, 4, 1, 0] rfl rfl (t_M_takes_10 (X := X) hd ai_N x2 x1 (0 : Int32) (si V 89 29 (0 : Int32)) _ h)
-- RentByTheWheelModel.goQuarter([III)V (89, 90, None, None)
def d_M_goQuarter_163  : Nat → Int32 → ai_V → Option ai_V
  | 0, _, _ => none
  | n + 1, x4, V => if (gi V 89 1) ≤ x4 then (some V) else (if ai_in x4 14 then (if ai_in x4 6 then (if ai_in x4 14 then (d_M_goQuarter_163 n (x4 + (1 : Int32)) (sa V 90 (x4).toNatClampNeg ((ga V 90 (x4).toNatClampNeg) + ((gi V 89 9) * ((ga V 91 (x4).toNatClampNeg) + (1 : Int32)))))) else none) else none) else none)
set_option maxRecDepth 20000 in
theorem t_M_goQuarter_163 {X : ai_S} {e : Nat} (hd : 330 ≤ e)  : ∀ (n : Nat) (x4 : Int32) (V : ai_V) (r : ai_V), d_M_goQuarter_163  n x4 V = some r → Rn e 195 163 [(0, .ref 89), (1, .ref 90), (4, .int x4)] [] (SH ++ X) V none (SH ++ X) r := by
  intro n
  induction n with
  | zero =>
    intro x4 V r h
    cases h
  | succ n ih =>
    intro x4 V r h
    rw [d_M_goQuarter_163] at h
    refine rn_go 3 (pc' := 169) (l' := [(0, .ref 89), (1, .ref 90), (4, .int x4)]) (st' := [.int (gi V 89 1), .int x4]) (S1 := (SH ++ X)) (V1 := V) rfl ?_
    rcases ai_if h with ⟨hc, h⟩ | ⟨hc, h⟩
    · refine rn_brT rfl rfl rfl rfl hc ?_
      obtain rfl := Option.some.inj h
      exact rn_ret rfl rfl rfl
    · refine rn_brF rfl rfl rfl rfl hc ?_
      refine rn_go 3 (pc' := 176) (l' := [(0, .ref 89), (1, .ref 90), (4, .int x4)]) (st' := [.int x4, .ref 90, .int x4, .ref 90]) (S1 := (SH ++ X)) (V1 := V) rfl ?_
      obtain ⟨hg, h⟩ := ai_gd h
      refine rg_iald (n := 14) rfl rfl hg ?_
      refine rn_go 5 (pc' := 187) (l' := [(0, .ref 89), (1, .ref 90), (4, .int x4)]) (st' := [.int x4, .ref 91, .int (gi V 89 9), .int (ga V 90 (x4).toNatClampNeg), .int x4, .ref 90]) (S1 := (SH ++ X)) (V1 := V) rfl ?_
      obtain ⟨hg, h⟩ := ai_gd h
      refine rg_iald (n := 6) rfl rfl hg ?_
      refine rn_go 4 (pc' := 192) (l' := [(0, .ref 89), (1, .ref 90), (4, .int x4)]) (st' := [.int ((ga V 90 (x4).toNatClampNeg) + ((gi V 89 9) * ((ga V 91 (x4).toNatClampNeg) + (1 : Int32)))), .int x4, .ref 90]) (S1 := (SH ++ X)) (V1 := V) rfl ?_
      obtain ⟨hg, h⟩ := ai_gd h
      refine rg_iast (n := 14) rfl rfl hg ?_
      refine rn_go 2 (pc' := 163) (l' := [(4, .int (x4 + (1 : Int32))), (0, .ref 89), (1, .ref 90)]) (st' := []) (S1 := (SH ++ X)) (V1 := (sa V 90 (x4).toNatClampNeg ((ga V 90 (x4).toNatClampNeg) + ((gi V 89 9) * ((ga V 91 (x4).toNatClampNeg) + (1 : Int32)))))) rfl ?_
      exact rn_sub [1, 2, 0] rfl rfl (ih (x4 + (1 : Int32)) (sa V 90 (x4).toNatClampNeg ((ga V 90 (x4).toNatClampNeg) + ((gi V 89 9) * ((ga V 91 (x4).toNatClampNeg) + (1 : Int32))))) _ h)
def d_M_goQuarter_136 (F104 : Int32 → ai_V → Option ai_V) (x4 : Int32) (V : ai_V) : Option ai_V :=
  F104 (x4 + (1 : Int32)) V
set_option maxRecDepth 20000 in
theorem t_M_goQuarter_136 {X : ai_S} {e : Nat} (hd : 330 ≤ e) (F104 : Int32 → ai_V → Option ai_V) (hF104 : ∀ (x4 : Int32) (V : ai_V) (r : ai_V), F104 x4 V = some r → Rn e 195 104 [(0, .ref 89), (1, .ref 90), (4, .int x4)] [] (SH ++ X) V none (SH ++ X) r) (x4 : Int32) (V : ai_V) (r : ai_V) (h : d_M_goQuarter_136 F104 x4 V = some r) : Rn e 195 136 [(0, .ref 89), (1, .ref 90), (4, .int x4)] [] (SH ++ X) V none (SH ++ X) r := by
  rw [d_M_goQuarter_136] at h
  refine rn_go 2 (pc' := 104) (l' := [(4, .int (x4 + (1 : Int32))), (0, .ref 89), (1, .ref 90)]) (st' := []) (S1 := (SH ++ X)) (V1 := V) rfl ?_
  exact rn_sub [1, 2, 0] rfl rfl (hF104 (x4 + (1 : Int32)) V _ h)
def d_M_goQuarter_104  : Nat → Int32 → ai_V → Option ai_V
  | 0, _, _ => none
  | n + 1, x4, V => if (gi V 89 1) ≤ x4 then (if ¬ ((ga (sa V 90 ((13 : Int32)).toNatClampNeg ((ga V 90 ((13 : Int32)).toNatClampNeg) + (1 : Int32))) 90 ((13 : Int32)).toNatClampNeg) - (ga (sa V 90 ((13 : Int32)).toNatClampNeg ((ga V 90 ((13 : Int32)).toNatClampNeg) + (1 : Int32))) 90 ((13 : Int32)).toNatClampNeg) / (12 : Int32) * (12 : Int32)) = 0 then (some (sa V 90 ((13 : Int32)).toNatClampNeg ((ga V 90 ((13 : Int32)).toNatClampNeg) + (1 : Int32)))) else (d_M_goQuarter_163 ai_N (0 : Int32) (sa V 90 ((13 : Int32)).toNatClampNeg ((ga V 90 ((13 : Int32)).toNatClampNeg) + (1 : Int32))))) else ((d_M_has (gi V 89 29) x4 V).bind fun q1 => (if q1 = 0 then (d_M_goQuarter_136 (d_M_goQuarter_104 n) x4 V) else (if ai_in ((6 : Int32) + x4) 14 then (if ai_in ((6 : Int32) + x4) 14 then (d_M_goQuarter_136 (d_M_goQuarter_104 n) x4 (sa V 90 (((6 : Int32) + x4)).toNatClampNeg ((ga V 90 (((6 : Int32) + x4)).toNatClampNeg) + (1 : Int32)))) else none) else none)))
set_option maxRecDepth 20000 in
theorem t_M_goQuarter_104 {X : ai_S} {e : Nat} (hd : 330 ≤ e)  : ∀ (n : Nat) (x4 : Int32) (V : ai_V) (r : ai_V), d_M_goQuarter_104  n x4 V = some r → Rn e 195 104 [(0, .ref 89), (1, .ref 90), (4, .int x4)] [] (SH ++ X) V none (SH ++ X) r := by
  intro n
  induction n with
  | zero =>
    intro x4 V r h
    cases h
  | succ n ih =>
    intro x4 V r h
    rw [d_M_goQuarter_104] at h
    refine rn_go 3 (pc' := 110) (l' := [(0, .ref 89), (1, .ref 90), (4, .int x4)]) (st' := [.int (gi V 89 1), .int x4]) (S1 := (SH ++ X)) (V1 := V) rfl ?_
    rcases ai_if h with ⟨hc, h⟩ | ⟨hc, h⟩
    · refine rn_brT rfl rfl rfl rfl hc ?_
      refine rn_go 3 (pc' := 146) (l' := [(0, .ref 89), (1, .ref 90), (4, .int x4)]) (st' := [.int (13 : Int32), .ref 90, .int (13 : Int32), .ref 90]) (S1 := (SH ++ X)) (V1 := V) rfl ?_
      refine rg_iald (n := 14) rfl rfl (by decide) ?_
      refine rn_go 2 (pc' := 149) (l' := [(0, .ref 89), (1, .ref 90), (4, .int x4)]) (st' := [.int ((ga V 90 ((13 : Int32)).toNatClampNeg) + (1 : Int32)), .int (13 : Int32), .ref 90]) (S1 := (SH ++ X)) (V1 := V) rfl ?_
      refine rg_iast (n := 14) rfl rfl (by decide) ?_
      refine rn_go 2 (pc' := 153) (l' := [(0, .ref 89), (1, .ref 90), (4, .int x4)]) (st' := [.int (13 : Int32), .ref 90]) (S1 := (SH ++ X)) (V1 := (sa V 90 ((13 : Int32)).toNatClampNeg ((ga V 90 ((13 : Int32)).toNatClampNeg) + (1 : Int32)))) rfl ?_
      refine rg_iald (n := 14) rfl rfl (by decide) ?_
      refine rn_go 1 (pc' := 156) (l' := [(0, .ref 89), (1, .ref 90), (4, .int x4)]) (st' := [.int (12 : Int32), .int (ga (sa V 90 ((13 : Int32)).toNatClampNeg ((ga V 90 ((13 : Int32)).toNatClampNeg) + (1 : Int32))) 90 ((13 : Int32)).toNatClampNeg)]) (S1 := (SH ++ X)) (V1 := (sa V 90 ((13 : Int32)).toNatClampNeg ((ga V 90 ((13 : Int32)).toNatClampNeg) + (1 : Int32)))) rfl ?_
      refine rg_irem rfl (by decide) ?_
      rcases ai_if h with ⟨hc, h⟩ | ⟨hc, h⟩
      · refine rn_brT rfl rfl rfl rfl hc ?_
        obtain rfl := Option.some.inj h
        exact rn_ret rfl rfl rfl
      · refine rn_brF rfl rfl rfl rfl hc ?_
        refine rn_go 2 (pc' := 163) (l' := [(4, .int (0 : Int32)), (0, .ref 89), (1, .ref 90)]) (st' := []) (S1 := (SH ++ X)) (V1 := (sa V 90 ((13 : Int32)).toNatClampNeg ((ga V 90 ((13 : Int32)).toNatClampNeg) + (1 : Int32)))) rfl ?_
        exact rn_sub [1, 2, 0] rfl rfl (t_M_goQuarter_163 (X := X) hd ai_N (0 : Int32) (sa V 90 ((13 : Int32)).toNatClampNeg ((ga V 90 ((13 : Int32)).toNatClampNeg) + (1 : Int32))) _ h)
    · refine rn_brF rfl rfl rfl rfl hc ?_
      refine rn_go 3 (pc' := 119) (l' := [(0, .ref 89), (1, .ref 90), (4, .int x4)]) (st' := [.int x4, .int (gi V 89 29)]) (S1 := (SH ++ X)) (V1 := V) rfl ?_
      obtain ⟨q1, hq1, h⟩ := ai_bd h
      refine rn_call rfl rfl rfl rfl rfl rfl (by omega) (t_M_has (by omega) hq1) ?_
      rcases ai_if h with ⟨hc, h⟩ | ⟨hc, h⟩
      · refine rn_brT rfl rfl rfl rfl hc ?_
        exact rn_sub [0, 1, 2] rfl rfl (t_M_goQuarter_136 (X := X) hd (d_M_goQuarter_104 n) (ih) x4 V _ h)
      · refine rn_brF rfl rfl rfl rfl hc ?_
        refine rn_go 5 (pc' := 132) (l' := [(0, .ref 89), (1, .ref 90), (4, .int x4)]) (st' := [.int ((6 : Int32) + x4), .ref 90, .int ((6 : Int32) + x4), .ref 90]) (S1 := (SH ++ X)) (V1 := V) rfl ?_
        obtain ⟨hg, h⟩ := ai_gd h
        refine rg_iald (n := 14) rfl rfl hg ?_
        refine rn_go 2 (pc' := 135) (l' := [(0, .ref 89), (1, .ref 90), (4, .int x4)]) (st' := [.int ((ga V 90 (((6 : Int32) + x4)).toNatClampNeg) + (1 : Int32)), .int ((6 : Int32) + x4), .ref 90]) (S1 := (SH ++ X)) (V1 := V) rfl ?_
        obtain ⟨hg, h⟩ := ai_gd h
        refine rg_iast (n := 14) rfl rfl hg ?_
        exact rn_sub [0, 1, 2] rfl rfl (t_M_goQuarter_136 (X := X) hd (d_M_goQuarter_104 n) (ih) x4 (sa V 90 (((6 : Int32) + x4)).toNatClampNeg ((ga V 90 (((6 : Int32) + x4)).toNatClampNeg) + (1 : Int32))) _ h)
def d_M_goQuarter_69 (F39 : Int32 → Int32 → ai_V → Option ai_V) (x2 : Int32) (x4 : Int32) (V : ai_V) : Option ai_V :=
  F39 x2 (x4 + (1 : Int32)) V
set_option maxRecDepth 20000 in
theorem t_M_goQuarter_69 {X : ai_S} {e : Nat} (hd : 330 ≤ e) (F39 : Int32 → Int32 → ai_V → Option ai_V) (hF39 : ∀ (x2 : Int32) (x4 : Int32) (V : ai_V) (r : ai_V), F39 x2 x4 V = some r → Rn e 195 39 [(0, .ref 89), (1, .ref 90), (2, .int x2), (4, .int x4)] [] (SH ++ X) V none (SH ++ X) r) (x2 : Int32) (x4 : Int32) (V : ai_V) (r : ai_V) (h : d_M_goQuarter_69 F39 x2 x4 V = some r) : Rn e 195 69 [(0, .ref 89), (1, .ref 90), (2, .int x2), (4, .int x4)] [] (SH ++ X) V none (SH ++ X) r := by
  rw [d_M_goQuarter_69] at h
  refine rn_go 2 (pc' := 39) (l' := [(4, .int (x4 + (1 : Int32))), (0, .ref 89), (1, .ref 90), (2, .int x2)]) (st' := []) (S1 := (SH ++ X)) (V1 := V) rfl ?_
  exact rn_sub [1, 2, 3, 0] rfl rfl (hF39 x2 (x4 + (1 : Int32)) V _ h)
def d_M_goQuarter_39  : Nat → Int32 → Int32 → ai_V → Option ai_V
  | 0, _, _, _ => none
  | n + 1, x2, x4, V => if (gi V 89 1) ≤ x4 then ((d_M_takes (((ga V 90 ((12 : Int32)).toNatClampNeg) + (gi V 89 32)) - (gi V 89 33)) (ga V 90 ((13 : Int32)).toNatClampNeg) V).bind fun q2 => (d_M_goQuarter_104 ai_N (0 : Int32) (sa q2.2 90 ((12 : Int32)).toNatClampNeg q2.1))) else ((d_M_has x2 x4 V).bind fun q3 => (if q3 = 0 then (d_M_goQuarter_69 (d_M_goQuarter_39 n) x2 x4 V) else (if ai_in x4 14 then ((d_M_turnsOf x2 V).bind fun q4 => (if ai_in x4 14 then (d_M_goQuarter_69 (d_M_goQuarter_39 n) x2 x4 (sa V 90 (x4).toNatClampNeg ((ga V 90 (x4).toNatClampNeg) - q4))) else none)) else none)))
set_option maxRecDepth 20000 in
theorem t_M_goQuarter_39 {X : ai_S} {e : Nat} (hd : 330 ≤ e)  : ∀ (n : Nat) (x2 : Int32) (x4 : Int32) (V : ai_V) (r : ai_V), d_M_goQuarter_39  n x2 x4 V = some r → Rn e 195 39 [(0, .ref 89), (1, .ref 90), (2, .int x2), (4, .int x4)] [] (SH ++ X) V none (SH ++ X) r := by
  intro n
  induction n with
  | zero =>
    intro x2 x4 V r h
    cases h
  | succ n ih =>
    intro x2 x4 V r h
    rw [d_M_goQuarter_39] at h
    refine rn_go 3 (pc' := 45) (l' := [(0, .ref 89), (1, .ref 90), (2, .int x2), (4, .int x4)]) (st' := [.int (gi V 89 1), .int x4]) (S1 := (SH ++ X)) (V1 := V) rfl ?_
    rcases ai_if h with ⟨hc, h⟩ | ⟨hc, h⟩
    · refine rn_brT rfl rfl rfl rfl hc ?_
      refine rn_go 5 (pc' := 82) (l' := [(0, .ref 89), (1, .ref 90), (2, .int x2), (4, .int x4)]) (st' := [.int (12 : Int32), .ref 90, .ref 89, .int (12 : Int32), .ref 90]) (S1 := (SH ++ X)) (V1 := V) rfl ?_
      refine rg_iald (n := 14) rfl rfl (by decide) ?_
      refine rn_go 8 (pc' := 96) (l' := [(0, .ref 89), (1, .ref 90), (2, .int x2), (4, .int x4)]) (st' := [.int (13 : Int32), .ref 90, .int (((ga V 90 ((12 : Int32)).toNatClampNeg) + (gi V 89 32)) - (gi V 89 33)), .ref 89, .int (12 : Int32), .ref 90]) (S1 := (SH ++ X)) (V1 := V) rfl ?_
      refine rg_iald (n := 14) rfl rfl (by decide) ?_
      obtain ⟨q2, hq2, h⟩ := ai_bd h
      refine rn_call rfl rfl rfl rfl rfl rfl (by omega) (t_M_takes (by omega) hq2) ?_
      refine rg_iast (n := 14) rfl rfl (by decide) ?_
      refine rn_go 2 (pc' := 104) (l' := [(4, .int (0 : Int32)), (0, .ref 89), (1, .ref 90), (2, .int x2)]) (st' := []) (S1 := (SH ++ X)) (V1 := (sa q2.2 90 ((12 : Int32)).toNatClampNeg q2.1)) rfl ?_
      exact rn_sub [1, 2, 0] rfl rfl (t_M_goQuarter_104 (X := X) hd ai_N (0 : Int32) (sa q2.2 90 ((12 : Int32)).toNatClampNeg q2.1) _ h)
    · refine rn_brF rfl rfl rfl rfl hc ?_
      refine rn_go 2 (pc' := 51) (l' := [(0, .ref 89), (1, .ref 90), (2, .int x2), (4, .int x4)]) (st' := [.int x4, .int x2]) (S1 := (SH ++ X)) (V1 := V) rfl ?_
      obtain ⟨q3, hq3, h⟩ := ai_bd h
      refine rn_call rfl rfl rfl rfl rfl rfl (by omega) (t_M_has (by omega) hq3) ?_
      rcases ai_if h with ⟨hc, h⟩ | ⟨hc, h⟩
      · refine rn_brT rfl rfl rfl rfl hc ?_
        exact rn_sub [0, 1, 2, 3] rfl rfl (t_M_goQuarter_69 (X := X) hd (d_M_goQuarter_39 n) (ih) x2 x4 V _ h)
      · refine rn_brF rfl rfl rfl rfl hc ?_
        refine rn_go 3 (pc' := 61) (l' := [(0, .ref 89), (1, .ref 90), (2, .int x2), (4, .int x4)]) (st' := [.int x4, .ref 90, .int x4, .ref 90]) (S1 := (SH ++ X)) (V1 := V) rfl ?_
        obtain ⟨hg, h⟩ := ai_gd h
        refine rg_iald (n := 14) rfl rfl hg ?_
        refine rn_go 2 (pc' := 64) (l' := [(0, .ref 89), (1, .ref 90), (2, .int x2), (4, .int x4)]) (st' := [.int x2, .ref 89, .int (ga V 90 (x4).toNatClampNeg), .int x4, .ref 90]) (S1 := (SH ++ X)) (V1 := V) rfl ?_
        obtain ⟨q4, hq4, h⟩ := ai_bd h
        refine rn_call rfl rfl rfl rfl rfl rfl (by omega) (t_M_turnsOf (by omega) hq4) ?_
        refine rn_go 1 (pc' := 68) (l' := [(0, .ref 89), (1, .ref 90), (2, .int x2), (4, .int x4)]) (st' := [.int ((ga V 90 (x4).toNatClampNeg) - q4), .int x4, .ref 90]) (S1 := (SH ++ X)) (V1 := V) rfl ?_
        obtain ⟨hg, h⟩ := ai_gd h
        refine rg_iast (n := 14) rfl rfl hg ?_
        exact rn_sub [0, 1, 2, 3] rfl rfl (t_M_goQuarter_69 (X := X) hd (d_M_goQuarter_39 n) (ih) x2 x4 (sa V 90 (x4).toNatClampNeg ((ga V 90 (x4).toNatClampNeg) - q4)) _ h)
def d_M_goQuarter (x2 : Int32) (x3 : Int32) (V : ai_V) : Option ai_V :=
  (d_M_liftOfAll x2 (ga V 90 ((12 : Int32)).toNatClampNeg) (ga V 90 ((13 : Int32)).toNatClampNeg) V).bind fun q5 => (d_M_goQuarter_39 ai_N x2 (0 : Int32) (si (si q5.2 89 32 q5.1) 89 33 (ai_max (0 : Int32) (((ga (si q5.2 89 32 q5.1) 90 ((12 : Int32)).toNatClampNeg) + (gi (si q5.2 89 32 q5.1) 89 32)) - x3))))
set_option maxRecDepth 20000 in
theorem t_M_goQuarter {X : ai_S} {e : Nat} (hd : 330 ≤ e) {x2 : Int32} {x3 : Int32} {V : ai_V} {r : ai_V} (h : d_M_goQuarter x2 x3 V = some r) : Rn e 195 0 (lv_args 0 [.ref 89, .ref 90, .int x2, .int x3]) [] (SH ++ X) V none (SH ++ X) r := by
  rw [d_M_goQuarter] at h
  refine rn_go 5 (pc' := 6) (l' := [(0, .ref 89), (1, .ref 90), (2, .int x2), (3, .int x3)]) (st' := [.int (12 : Int32), .ref 90, .int x2, .ref 89, .ref 89]) (S1 := (SH ++ X)) (V1 := V) rfl ?_
  refine rg_iald (n := 14) rfl rfl (by decide) ?_
  refine rn_go 2 (pc' := 10) (l' := [(0, .ref 89), (1, .ref 90), (2, .int x2), (3, .int x3)]) (st' := [.int (13 : Int32), .ref 90, .int (ga V 90 ((12 : Int32)).toNatClampNeg), .int x2, .ref 89, .ref 89]) (S1 := (SH ++ X)) (V1 := V) rfl ?_
  refine rg_iald (n := 14) rfl rfl (by decide) ?_
  obtain ⟨q5, hq5, h⟩ := ai_bd h
  refine rn_call rfl rfl rfl rfl rfl rfl (by omega) (t_M_liftOfAll (by omega) hq5) ?_
  refine rn_go 5 (pc' := 22) (l' := [(0, .ref 89), (1, .ref 90), (2, .int x2), (3, .int x3)]) (st' := [.int (12 : Int32), .ref 90, .int (0 : Int32), .ref 89]) (S1 := (SH ++ X)) (V1 := (si q5.2 89 32 q5.1)) rfl ?_
  refine rg_iald (n := 14) rfl rfl (by decide) ?_
  refine rn_go 9 (pc' := 39) (l' := [(4, .int (0 : Int32)), (0, .ref 89), (1, .ref 90), (2, .int x2), (3, .int x3)]) (st' := []) (S1 := (SH ++ X)) (V1 := (si (si q5.2 89 32 q5.1) 89 33 (ai_max (0 : Int32) (((ga (si q5.2 89 32 q5.1) 90 ((12 : Int32)).toNatClampNeg) + (gi (si q5.2 89 32 q5.1) 89 32)) - x3)))) rfl ?_
  exact rn_sub [1, 2, 3, 0] rfl rfl (t_M_goQuarter_39 (X := X) hd ai_N x2 (0 : Int32) (si (si q5.2 89 32 q5.1) 89 33 (ai_max (0 : Int32) (((ga (si q5.2 89 32 q5.1) 90 ((12 : Int32)).toNatClampNeg) + (gi (si q5.2 89 32 q5.1) 89 32)) - x3))) _ h)
-- RentByTheWheelModel.lay([I[II)V (90, 100, None)
def d_M_lay_2  : Nat → Int32 → Int32 → ai_V → Option ai_V
  | 0, _, _, _ => none
  | n + 1, x2, x3, V => if (14 : Int32) ≤ x3 then (some V) else (if ai_in x3 14 then (if ai_in (x2 + x3) 168 then (d_M_lay_2 n x2 (x3 + (1 : Int32)) (sa V 100 ((x2 + x3)).toNatClampNeg (ga V 90 (x3).toNatClampNeg))) else none) else none)
set_option maxRecDepth 20000 in
theorem t_M_lay_2 {X : ai_S} {e : Nat} (hd : 0 ≤ e)  : ∀ (n : Nat) (x2 : Int32) (x3 : Int32) (V : ai_V) (r : ai_V), d_M_lay_2  n x2 x3 V = some r → Rn e 190 2 [(0, .ref 90), (1, .ref 100), (2, .int x2), (3, .int x3)] [] (SH ++ X) V none (SH ++ X) r := by
  intro n
  induction n with
  | zero =>
    intro x2 x3 V r h
    cases h
  | succ n ih =>
    intro x2 x3 V r h
    rw [d_M_lay_2] at h
    refine rn_go 2 (pc' := 5) (l' := [(0, .ref 90), (1, .ref 100), (2, .int x2), (3, .int x3)]) (st' := [.int (14 : Int32), .int x3]) (S1 := (SH ++ X)) (V1 := V) rfl ?_
    rcases ai_if h with ⟨hc, h⟩ | ⟨hc, h⟩
    · refine rn_brT rfl rfl rfl rfl hc ?_
      obtain rfl := Option.some.inj h
      exact rn_ret rfl rfl rfl
    · refine rn_brF rfl rfl rfl rfl hc ?_
      refine rn_go 6 (pc' := 14) (l' := [(0, .ref 90), (1, .ref 100), (2, .int x2), (3, .int x3)]) (st' := [.int x3, .ref 90, .int (x2 + x3), .ref 100]) (S1 := (SH ++ X)) (V1 := V) rfl ?_
      obtain ⟨hg, h⟩ := ai_gd h
      refine rg_iald (n := 14) rfl rfl hg ?_
      obtain ⟨hg, h⟩ := ai_gd h
      refine rg_iast (n := 168) rfl rfl hg ?_
      refine rn_go 2 (pc' := 2) (l' := [(3, .int (x3 + (1 : Int32))), (0, .ref 90), (1, .ref 100), (2, .int x2)]) (st' := []) (S1 := (SH ++ X)) (V1 := (sa V 100 ((x2 + x3)).toNatClampNeg (ga V 90 (x3).toNatClampNeg))) rfl ?_
      exact rn_sub [1, 2, 3, 0] rfl rfl (ih x2 (x3 + (1 : Int32)) (sa V 100 ((x2 + x3)).toNatClampNeg (ga V 90 (x3).toNatClampNeg)) _ h)
def d_M_lay (x2 : Int32) (V : ai_V) : Option ai_V :=
  d_M_lay_2 ai_N x2 (0 : Int32) V
set_option maxRecDepth 20000 in
theorem t_M_lay {X : ai_S} {e : Nat} (hd : 0 ≤ e) {x2 : Int32} {V : ai_V} {r : ai_V} (h : d_M_lay x2 V = some r) : Rn e 190 0 (lv_args 0 [.ref 90, .ref 100, .int x2]) [] (SH ++ X) V none (SH ++ X) r := by
  rw [d_M_lay] at h
  refine rn_go 2 (pc' := 2) (l' := [(3, .int (0 : Int32)), (0, .ref 90), (1, .ref 100), (2, .int x2)]) (st' := []) (S1 := (SH ++ X)) (V1 := V) rfl ?_
  exact rn_sub [1, 2, 3, 0] rfl rfl (t_M_lay_2 (X := X) hd ai_N x2 (0 : Int32) V _ h)
-- RentByTheWheelModel.remember([I)V (89, 90)
def d_M_remember_49   (V : ai_V) : Option ai_V :=
  (d_M_lay ((14 : Int32) * (gi V 89 35)) V).bind fun q1 => (some (si q1 89 35 ((gi q1 89 35) + (1 : Int32))))
set_option maxRecDepth 20000 in
theorem t_M_remember_49 {X : ai_S} {e : Nat} (hd : 1 ≤ e)   (V : ai_V) (r : ai_V) (h : d_M_remember_49   V = some r) : Rn e 191 49 [(0, .ref 89), (1, .ref 90)] [] (SH ++ X) V none (SH ++ X) r := by
  rw [d_M_remember_49] at h
  refine rn_go 7 (pc' := 61) (l' := [(0, .ref 89), (1, .ref 90)]) (st' := [.int ((14 : Int32) * (gi V 89 35)), .ref 100, .ref 90]) (S1 := (SH ++ X)) (V1 := V) rfl ?_
  obtain ⟨q1, hq1, h⟩ := ai_bd h
  refine rn_call rfl rfl rfl rfl rfl rfl (by omega) (t_M_lay (by omega) hq1) ?_
  refine rn_go 6 (pc' := 74) (l' := [(0, .ref 89), (1, .ref 90)]) (st' := []) (S1 := (SH ++ X)) (V1 := (si q1 89 35 ((gi q1 89 35) + (1 : Int32)))) rfl ?_
  obtain rfl := Option.some.inj h
  exact rn_ret rfl rfl rfl
def d_M_remember_11  : Nat → Int32 → ai_V → Option ai_V
  | 0, _, _ => none
  | n + 1, x2, V => if (154 : Int32) ≤ x2 then (d_M_remember_49 (si V 89 35 ((gi V 89 35) - (1 : Int32)))) else (if ai_in (x2 + (14 : Int32)) 168 then (if ai_in x2 168 then (d_M_remember_11 n (x2 + (1 : Int32)) (sa V 100 (x2).toNatClampNeg (ga V 100 ((x2 + (14 : Int32))).toNatClampNeg))) else none) else none)
set_option maxRecDepth 20000 in
theorem t_M_remember_11 {X : ai_S} {e : Nat} (hd : 1 ≤ e)  : ∀ (n : Nat) (x2 : Int32) (V : ai_V) (r : ai_V), d_M_remember_11  n x2 V = some r → Rn e 191 11 [(0, .ref 89), (1, .ref 90), (2, .int x2)] [] (SH ++ X) V none (SH ++ X) r := by
  intro n
  induction n with
  | zero =>
    intro x2 V r h
    cases h
  | succ n ih =>
    intro x2 V r h
    rw [d_M_remember_11] at h
    refine rn_go 2 (pc' := 15) (l' := [(0, .ref 89), (1, .ref 90), (2, .int x2)]) (st' := [.int (154 : Int32), .int x2]) (S1 := (SH ++ X)) (V1 := V) rfl ?_
    rcases ai_if h with ⟨hc, h⟩ | ⟨hc, h⟩
    · refine rn_brT rfl rfl rfl rfl hc ?_
      refine rn_go 6 (pc' := 49) (l' := [(0, .ref 89), (1, .ref 90), (2, .int x2)]) (st' := []) (S1 := (SH ++ X)) (V1 := (si V 89 35 ((gi V 89 35) - (1 : Int32)))) rfl ?_
      exact rn_sub [0, 1] rfl rfl (t_M_remember_49 (X := X) hd (si V 89 35 ((gi V 89 35) - (1 : Int32))) _ h)
    · refine rn_brF rfl rfl rfl rfl hc ?_
      refine rn_go 8 (pc' := 31) (l' := [(0, .ref 89), (1, .ref 90), (2, .int x2)]) (st' := [.int (x2 + (14 : Int32)), .ref 100, .int x2, .ref 100]) (S1 := (SH ++ X)) (V1 := V) rfl ?_
      obtain ⟨hg, h⟩ := ai_gd h
      refine rg_iald (n := 168) rfl rfl hg ?_
      obtain ⟨hg, h⟩ := ai_gd h
      refine rg_iast (n := 168) rfl rfl hg ?_
      refine rn_go 2 (pc' := 11) (l' := [(2, .int (x2 + (1 : Int32))), (0, .ref 89), (1, .ref 90)]) (st' := []) (S1 := (SH ++ X)) (V1 := (sa V 100 (x2).toNatClampNeg (ga V 100 ((x2 + (14 : Int32))).toNatClampNeg))) rfl ?_
      exact rn_sub [1, 2, 0] rfl rfl (ih (x2 + (1 : Int32)) (sa V 100 (x2).toNatClampNeg (ga V 100 ((x2 + (14 : Int32))).toNatClampNeg)) _ h)
def d_M_remember  (V : ai_V) : Option ai_V :=
  if ¬ (gi V 89 35) = (12 : Int32) then (d_M_remember_49 V) else (d_M_remember_11 ai_N (0 : Int32) V)
set_option maxRecDepth 20000 in
theorem t_M_remember {X : ai_S} {e : Nat} (hd : 1 ≤ e)  {V : ai_V} {r : ai_V} (h : d_M_remember  V = some r) : Rn e 191 0 (lv_args 0 [.ref 89, .ref 90]) [] (SH ++ X) V none (SH ++ X) r := by
  rw [d_M_remember] at h
  refine rn_go 3 (pc' := 6) (l' := [(0, .ref 89), (1, .ref 90)]) (st' := [.int (12 : Int32), .int (gi V 89 35)]) (S1 := (SH ++ X)) (V1 := V) rfl ?_
  rcases ai_if h with ⟨hc, h⟩ | ⟨hc, h⟩
  · refine rn_brT rfl rfl rfl rfl hc ?_
    exact rn_sub [0, 1] rfl rfl (t_M_remember_49 (X := X) hd V _ h)
  · refine rn_brF rfl rfl rfl rfl hc ?_
    refine rn_go 2 (pc' := 11) (l' := [(2, .int (0 : Int32)), (0, .ref 89), (1, .ref 90)]) (st' := []) (S1 := (SH ++ X)) (V1 := V) rfl ?_
    exact rn_sub [1, 2, 0] rfl rfl (t_M_remember_11 (X := X) hd ai_N (0 : Int32) V _ h)
-- RentByTheWheelModel.quarter(II)I (89, None, None)
def d_M_quarter_95  (s0 : Int32) (s1 : Int32) (V : ai_V) : Option (Int32 × ai_V) :=
  (d_M_goQuarter (s1 ||| s0) (gi V 89 8) V).bind fun q1 => ((d_M_tell (((gi (si q1 89 13 (0 : Int32)) 89 32)).toInt64) (si q1 89 13 (0 : Int32))).bind fun q2 => ((d_M_tell (((gi q2 89 33)).toInt64) q2).bind fun q3 => ((d_M_tell (((gi q3 89 29)).toInt64) q3).bind fun q4 => (some ((ga q4 90 ((12 : Int32)).toNatClampNeg), q4)))))
set_option maxRecDepth 20000 in
theorem t_M_quarter_95 {X : ai_S} {e : Nat} (hd : 331 ≤ e)  (s0 : Int32) (s1 : Int32) (V : ai_V) (r : (Int32 × ai_V)) (h : d_M_quarter_95  s0 s1 V = some r) : Rn e 196 95 [(0, .ref 89)] [.int s0, .int s1, .ref 90, .ref 89] (SH ++ X) V (some (.int r.1)) (SH ++ X) r.2 := by
  rw [d_M_quarter_95] at h
  refine rn_go 3 (pc' := 100) (l' := [(0, .ref 89)]) (st' := [.int (gi V 89 8), .int (s1 ||| s0), .ref 90, .ref 89]) (S1 := (SH ++ X)) (V1 := V) rfl ?_
  obtain ⟨q1, hq1, h⟩ := ai_bd h
  refine rn_call rfl rfl rfl rfl rfl rfl (by omega) (t_M_goQuarter (by omega) hq1) ?_
  refine rn_go 7 (pc' := 114) (l' := [(0, .ref 89)]) (st' := [.long ((gi (si q1 89 13 (0 : Int32)) 89 32)).toInt64, .ref 89]) (S1 := (SH ++ X)) (V1 := (si q1 89 13 (0 : Int32))) rfl ?_
  obtain ⟨q2, hq2, h⟩ := ai_bd h
  refine rn_call rfl rfl rfl rfl rfl rfl (by omega) (t_M_tell (by omega) hq2) ?_
  refine rn_go 4 (pc' := 123) (l' := [(0, .ref 89)]) (st' := [.long ((gi q2 89 33)).toInt64, .ref 89]) (S1 := (SH ++ X)) (V1 := q2) rfl ?_
  obtain ⟨q3, hq3, h⟩ := ai_bd h
  refine rn_call rfl rfl rfl rfl rfl rfl (by omega) (t_M_tell (by omega) hq3) ?_
  refine rn_go 4 (pc' := 132) (l' := [(0, .ref 89)]) (st' := [.long ((gi q3 89 29)).toInt64, .ref 89]) (S1 := (SH ++ X)) (V1 := q3) rfl ?_
  obtain ⟨q4, hq4, h⟩ := ai_bd h
  refine rn_call rfl rfl rfl rfl rfl rfl (by omega) (t_M_tell (by omega) hq4) ?_
  refine rn_go 3 (pc' := 141) (l' := [(0, .ref 89)]) (st' := [.int (12 : Int32), .ref 90]) (S1 := (SH ++ X)) (V1 := q4) rfl ?_
  refine rg_iald (n := 14) rfl rfl (by decide) ?_
  obtain rfl := Option.some.inj h
  exact rn_ret rfl rfl rfl
def d_M_quarter_83  (x2 : Int32) (s0 : Int32) (V : ai_V) : Option (Int32 × ai_V) :=
  if ¬ x2 = (-1 : Int32) then (d_M_quarter_95 ((1 : Int32) <<< (x2 &&& 31)) s0 V) else (d_M_quarter_95 (0 : Int32) s0 V)
set_option maxRecDepth 20000 in
theorem t_M_quarter_83 {X : ai_S} {e : Nat} (hd : 331 ≤ e)  (x2 : Int32) (s0 : Int32) (V : ai_V) (r : (Int32 × ai_V)) (h : d_M_quarter_83  x2 s0 V = some r) : Rn e 196 83 [(0, .ref 89), (2, .int x2)] [.int s0, .ref 90, .ref 89] (SH ++ X) V (some (.int r.1)) (SH ++ X) r.2 := by
  rw [d_M_quarter_83] at h
  refine rn_go 2 (pc' := 85) (l' := [(0, .ref 89), (2, .int x2)]) (st' := [.int (-1 : Int32), .int x2, .int s0, .ref 90, .ref 89]) (S1 := (SH ++ X)) (V1 := V) rfl ?_
  rcases ai_if h with ⟨hc, h⟩ | ⟨hc, h⟩
  · refine rn_brT rfl rfl rfl rfl hc ?_
    refine rn_go 3 (pc' := 95) (l' := [(0, .ref 89), (2, .int x2)]) (st' := [.int ((1 : Int32) <<< (x2 &&& 31)), .int s0, .ref 90, .ref 89]) (S1 := (SH ++ X)) (V1 := V) rfl ?_
    exact rn_sub [0] rfl rfl (t_M_quarter_95 (X := X) hd ((1 : Int32) <<< (x2 &&& 31)) s0 V _ h)
  · refine rn_brF rfl rfl rfl rfl hc ?_
    refine rn_go 2 (pc' := 95) (l' := [(0, .ref 89), (2, .int x2)]) (st' := [.int (0 : Int32), .int s0, .ref 90, .ref 89]) (S1 := (SH ++ X)) (V1 := V) rfl ?_
    exact rn_sub [0] rfl rfl (t_M_quarter_95 (X := X) hd (0 : Int32) s0 V _ h)
def d_M_quarter_50  (x1 : Int32) (x2 : Int32) (s0 : Int32) (V : ai_V) : Option (Int32 × ai_V) :=
  if ¬ s0 = 0 then ((d_M_remember  V).bind fun q5 => (if ¬ x1 = (-1 : Int32) then (d_M_quarter_83 x2 ((1 : Int32) <<< (x1 &&& 31)) q5) else (d_M_quarter_83 x2 (0 : Int32) q5))) else (some ((-2 : Int32), V))
set_option maxRecDepth 20000 in
theorem t_M_quarter_50 {X : ai_S} {e : Nat} (hd : 331 ≤ e)  (x1 : Int32) (x2 : Int32) (s0 : Int32) (V : ai_V) (r : (Int32 × ai_V)) (h : d_M_quarter_50  x1 x2 s0 V = some r) : Rn e 196 50 [(0, .ref 89), (1, .int x1), (2, .int x2)] [.int s0] (SH ++ X) V (some (.int r.1)) (SH ++ X) r.2 := by
  rw [d_M_quarter_50] at h
  refine rn_go 2 (pc' := 52) (l' := [(3, .int s0), (0, .ref 89), (1, .int x1), (2, .int x2)]) (st' := [.int s0]) (S1 := (SH ++ X)) (V1 := V) rfl ?_
  rcases ai_if h with ⟨hc, h⟩ | ⟨hc, h⟩
  · refine rn_brT rfl rfl rfl rfl hc ?_
    refine rn_go 3 (pc' := 63) (l' := [(3, .int s0), (0, .ref 89), (1, .int x1), (2, .int x2)]) (st' := [.ref 90, .ref 89]) (S1 := (SH ++ X)) (V1 := V) rfl ?_
    obtain ⟨q5, hq5, h⟩ := ai_bd h
    refine rn_call rfl rfl rfl rfl rfl rfl (by omega) (t_M_remember (by omega) hq5) ?_
    refine rn_go 5 (pc' := 73) (l' := [(3, .int s0), (0, .ref 89), (1, .int x1), (2, .int x2)]) (st' := [.int (-1 : Int32), .int x1, .ref 90, .ref 89]) (S1 := (SH ++ X)) (V1 := q5) rfl ?_
    rcases ai_if h with ⟨hc, h⟩ | ⟨hc, h⟩
    · refine rn_brT rfl rfl rfl rfl hc ?_
      refine rn_go 3 (pc' := 83) (l' := [(3, .int s0), (0, .ref 89), (1, .int x1), (2, .int x2)]) (st' := [.int ((1 : Int32) <<< (x1 &&& 31)), .ref 90, .ref 89]) (S1 := (SH ++ X)) (V1 := q5) rfl ?_
      exact rn_sub [1, 3] rfl rfl (t_M_quarter_83 (X := X) hd x2 ((1 : Int32) <<< (x1 &&& 31)) q5 _ h)
    · refine rn_brF rfl rfl rfl rfl hc ?_
      refine rn_go 2 (pc' := 83) (l' := [(3, .int s0), (0, .ref 89), (1, .int x1), (2, .int x2)]) (st' := [.int (0 : Int32), .ref 90, .ref 89]) (S1 := (SH ++ X)) (V1 := q5) rfl ?_
      exact rn_sub [1, 3] rfl rfl (t_M_quarter_83 (X := X) hd x2 (0 : Int32) q5 _ h)
  · refine rn_brF rfl rfl rfl rfl hc ?_
    refine rn_go 1 (pc' := 57) (l' := [(3, .int s0), (0, .ref 89), (1, .int x1), (2, .int x2)]) (st' := [.int (-2 : Int32)]) (S1 := (SH ++ X)) (V1 := V) rfl ?_
    obtain rfl := Option.some.inj h
    exact rn_ret rfl rfl rfl
def d_M_quarter_45  (x1 : Int32) (x2 : Int32) (V : ai_V) : Option (Int32 × ai_V) :=
  d_M_quarter_50 x1 x2 (1 : Int32) V
set_option maxRecDepth 20000 in
theorem t_M_quarter_45 {X : ai_S} {e : Nat} (hd : 331 ≤ e)  (x1 : Int32) (x2 : Int32) (V : ai_V) (r : (Int32 × ai_V)) (h : d_M_quarter_45  x1 x2 V = some r) : Rn e 196 45 [(0, .ref 89), (1, .int x1), (2, .int x2)] [] (SH ++ X) V (some (.int r.1)) (SH ++ X) r.2 := by
  rw [d_M_quarter_45] at h
  refine rn_go 2 (pc' := 50) (l' := [(0, .ref 89), (1, .int x1), (2, .int x2)]) (st' := [.int (1 : Int32)]) (S1 := (SH ++ X)) (V1 := V) rfl ?_
  exact rn_sub [0, 1, 2] rfl rfl (t_M_quarter_50 (X := X) hd x1 x2 (1 : Int32) V _ h)
def d_M_quarter_49  (x1 : Int32) (x2 : Int32) (V : ai_V) : Option (Int32 × ai_V) :=
  d_M_quarter_50 x1 x2 (0 : Int32) V
set_option maxRecDepth 20000 in
theorem t_M_quarter_49 {X : ai_S} {e : Nat} (hd : 331 ≤ e)  (x1 : Int32) (x2 : Int32) (V : ai_V) (r : (Int32 × ai_V)) (h : d_M_quarter_49  x1 x2 V = some r) : Rn e 196 49 [(0, .ref 89), (1, .int x1), (2, .int x2)] [] (SH ++ X) V (some (.int r.1)) (SH ++ X) r.2 := by
  rw [d_M_quarter_49] at h
  refine rn_go 1 (pc' := 50) (l' := [(0, .ref 89), (1, .int x1), (2, .int x2)]) (st' := [.int (0 : Int32)]) (S1 := (SH ++ X)) (V1 := V) rfl ?_
  exact rn_sub [0, 1, 2] rfl rfl (t_M_quarter_50 (X := X) hd x1 x2 (0 : Int32) V _ h)
def d_M_quarter (x1 : Int32) (x2 : Int32) (V : ai_V) : Option (Int32 × ai_V) :=
  if ¬ x1 = (-1 : Int32) then ((d_M_isOne x1 (si V 89 14 (0 : Int32))).bind fun q6 => (if q6 = 0 then (d_M_quarter_49 x1 x2 (si V 89 14 (0 : Int32))) else (if x2 = (-1 : Int32) then (d_M_quarter_45 x1 x2 (si V 89 14 (0 : Int32))) else ((d_M_areTwo x1 x2 (si V 89 14 (0 : Int32))).bind fun q7 => (if q7 = 0 then (d_M_quarter_49 x1 x2 (si V 89 14 (0 : Int32))) else (d_M_quarter_45 x1 x2 (si V 89 14 (0 : Int32)))))))) else (if ¬ x2 = (-1 : Int32) then (d_M_quarter_50 x1 x2 (0 : Int32) (si V 89 14 (0 : Int32))) else (d_M_quarter_50 x1 x2 (1 : Int32) (si V 89 14 (0 : Int32))))
set_option maxRecDepth 20000 in
theorem t_M_quarter {X : ai_S} {e : Nat} (hd : 331 ≤ e) {x1 : Int32} {x2 : Int32} {V : ai_V} {r : (Int32 × ai_V)} (h : d_M_quarter x1 x2 V = some r) : Rn e 196 0 (lv_args 0 [.ref 89, .int x1, .int x2]) [] (SH ++ X) V (some (.int r.1)) (SH ++ X) r.2 := by
  rw [d_M_quarter] at h
  refine rn_go 5 (pc' := 7) (l' := [(0, .ref 89), (1, .int x1), (2, .int x2)]) (st' := [.int (-1 : Int32), .int x1]) (S1 := (SH ++ X)) (V1 := (si V 89 14 (0 : Int32))) rfl ?_
  rcases ai_if h with ⟨hc, h⟩ | ⟨hc, h⟩
  · refine rn_brT rfl rfl rfl rfl hc ?_
    refine rn_go 2 (pc' := 25) (l' := [(0, .ref 89), (1, .int x1), (2, .int x2)]) (st' := [.int x1, .ref 89]) (S1 := (SH ++ X)) (V1 := (si V 89 14 (0 : Int32))) rfl ?_
    obtain ⟨q6, hq6, h⟩ := ai_bd h
    refine rn_call rfl rfl rfl rfl rfl rfl (by omega) (t_M_isOne (by omega) hq6) ?_
    rcases ai_if h with ⟨hc, h⟩ | ⟨hc, h⟩
    · refine rn_brT rfl rfl rfl rfl hc ?_
      exact rn_sub [0, 1, 2] rfl rfl (t_M_quarter_49 (X := X) hd x1 x2 (si V 89 14 (0 : Int32)) _ h)
    · refine rn_brF rfl rfl rfl rfl hc ?_
      refine rn_go 2 (pc' := 33) (l' := [(0, .ref 89), (1, .int x1), (2, .int x2)]) (st' := [.int (-1 : Int32), .int x2]) (S1 := (SH ++ X)) (V1 := (si V 89 14 (0 : Int32))) rfl ?_
      rcases ai_if h with ⟨hc, h⟩ | ⟨hc, h⟩
      · refine rn_brT rfl rfl rfl rfl hc ?_
        exact rn_sub [0, 1, 2] rfl rfl (t_M_quarter_45 (X := X) hd x1 x2 (si V 89 14 (0 : Int32)) _ h)
      · refine rn_brF rfl rfl rfl rfl hc ?_
        refine rn_go 3 (pc' := 39) (l' := [(0, .ref 89), (1, .int x1), (2, .int x2)]) (st' := [.int x2, .int x1, .ref 89]) (S1 := (SH ++ X)) (V1 := (si V 89 14 (0 : Int32))) rfl ?_
        obtain ⟨q7, hq7, h⟩ := ai_bd h
        refine rn_call rfl rfl rfl rfl rfl rfl (by omega) (t_M_areTwo (by omega) hq7) ?_
        rcases ai_if h with ⟨hc, h⟩ | ⟨hc, h⟩
        · refine rn_brT rfl rfl rfl rfl hc ?_
          exact rn_sub [0, 1, 2] rfl rfl (t_M_quarter_49 (X := X) hd x1 x2 (si V 89 14 (0 : Int32)) _ h)
        · refine rn_brF rfl rfl rfl rfl hc ?_
          exact rn_sub [0, 1, 2] rfl rfl (t_M_quarter_45 (X := X) hd x1 x2 (si V 89 14 (0 : Int32)) _ h)
  · refine rn_brF rfl rfl rfl rfl hc ?_
    refine rn_go 2 (pc' := 12) (l' := [(0, .ref 89), (1, .int x1), (2, .int x2)]) (st' := [.int (-1 : Int32), .int x2]) (S1 := (SH ++ X)) (V1 := (si V 89 14 (0 : Int32))) rfl ?_
    rcases ai_if h with ⟨hc, h⟩ | ⟨hc, h⟩
    · refine rn_brT rfl rfl rfl rfl hc ?_
      refine rn_go 2 (pc' := 50) (l' := [(0, .ref 89), (1, .int x1), (2, .int x2)]) (st' := [.int (0 : Int32)]) (S1 := (SH ++ X)) (V1 := (si V 89 14 (0 : Int32))) rfl ?_
      exact rn_sub [0, 1, 2] rfl rfl (t_M_quarter_50 (X := X) hd x1 x2 (0 : Int32) (si V 89 14 (0 : Int32)) _ h)
    · refine rn_brF rfl rfl rfl rfl hc ?_
      refine rn_go 2 (pc' := 50) (l' := [(0, .ref 89), (1, .int x1), (2, .int x2)]) (st' := [.int (1 : Int32)]) (S1 := (SH ++ X)) (V1 := (si V 89 14 (0 : Int32))) rfl ?_
      exact rn_sub [0, 1, 2] rfl rfl (t_M_quarter_50 (X := X) hd x1 x2 (1 : Int32) (si V 89 14 (0 : Int32)) _ h)
