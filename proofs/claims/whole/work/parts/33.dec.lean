/-! ===== printed by wip/gen/gen.py: methods as functions, and that the machine runs so ===== -/
-- RentByTheWheel.count(I)I (0, None)
def d_X_count (x1 : Int32) (V : ai_V) : Option Int32 :=
  if x1 = (0 : Int32) then (some (gi V 3 0)) else (if x1 = (1 : Int32) then (some (gi V 16 0)) else (if x1 = (2 : Int32) then ((d_State_quarterNow  V).bind fun q4 => (some q4)) else (if x1 = (3 : Int32) then (some ((gi V 16 0) / (12 : Int32))) else (if x1 = (4 : Int32) then (some (gi V 16 1)) else (if x1 = (5 : Int32) then (some (gi V 16 2)) else (if x1 = (6 : Int32) then (some (gi V 3 1)) else (if x1 = (7 : Int32) then ((d_State_quarterNow  V).bind fun q2 => ((d_House_wantsIn q2 V).bind fun q3 => (some q3))) else (if x1 = (8 : Int32) then ((d_State_dryInAll  V).bind fun q1 => (some q1)) else (if x1 = (9 : Int32) then (some (gi V 78 1)) else (if x1 = (10 : Int32) then (some (gi V 24 1)) else (if x1 = (11 : Int32) then (some (gi V 22 1)) else (if x1 = (12 : Int32) then (some (gi V 1 1)) else (some (-1 : Int32))))))))))))))
set_option maxRecDepth 20000 in
theorem t_X_count {X : ai_S} {e : Nat} (hd : 3 ≤ e) {x1 : Int32} {V : ai_V} {r : Int32} (h : d_X_count x1 V = some r) : Rn e 155 0 (lv_args 0 [.ref 0, .int x1]) [] (SH ++ X) V (some (.int r)) (SH ++ X) V := by
  rw [d_X_count] at h
  refine rn_go 1 (pc' := 1) (l' := [(0, .ref 0), (1, .int x1)]) (st' := [.int x1]) (S1 := (SH ++ X)) (V1 := V) rfl ?_
  rcases ai_if h with ⟨hs0, h⟩ | ⟨hs0, h⟩
  · refine rn_sw rfl rfl rfl rfl (ai_sel_t hs0) ?_
    refine rn_go 3 (pc' := 75) (l' := [(0, .ref 0), (1, .int x1)]) (st' := [.int (gi V 3 0)]) (S1 := (SH ++ X)) (V1 := V) rfl ?_
    obtain rfl := Option.some.inj h
    exact rn_ret rfl rfl rfl
  · rcases ai_if h with ⟨hs1, h⟩ | ⟨hs1, h⟩
    · refine rn_sw rfl rfl rfl rfl (ai_sel_f hs0 (ai_sel_t hs1)) ?_
      refine rn_go 3 (pc' := 83) (l' := [(0, .ref 0), (1, .int x1)]) (st' := [.int (gi V 16 0)]) (S1 := (SH ++ X)) (V1 := V) rfl ?_
      obtain rfl := Option.some.inj h
      exact rn_ret rfl rfl rfl
    · rcases ai_if h with ⟨hs2, h⟩ | ⟨hs2, h⟩
      · refine rn_sw rfl rfl rfl rfl (ai_sel_f hs0 (ai_sel_f hs1 (ai_sel_t hs2))) ?_
        refine rn_go 2 (pc' := 88) (l' := [(0, .ref 0), (1, .int x1)]) (st' := [.ref 16]) (S1 := (SH ++ X)) (V1 := V) rfl ?_
        obtain ⟨q4, hq4, h⟩ := ai_bd h
        refine rn_call rfl rfl rfl rfl rfl rfl (by omega) (t_State_quarterNow (by omega) hq4) ?_
        obtain rfl := Option.some.inj h
        exact rn_ret rfl rfl rfl
      · rcases ai_if h with ⟨hs3, h⟩ | ⟨hs3, h⟩
        · refine rn_sw rfl rfl rfl rfl (ai_sel_f hs0 (ai_sel_f hs1 (ai_sel_f hs2 (ai_sel_t hs3)))) ?_
          refine rn_go 4 (pc' := 101) (l' := [(0, .ref 0), (1, .int x1)]) (st' := [.int (12 : Int32), .int (gi V 16 0)]) (S1 := (SH ++ X)) (V1 := V) rfl ?_
          refine rg_idiv rfl (by decide) ?_
          obtain rfl := Option.some.inj h
          exact rn_ret rfl rfl rfl
        · rcases ai_if h with ⟨hs4, h⟩ | ⟨hs4, h⟩
          · refine rn_sw rfl rfl rfl rfl (ai_sel_f hs0 (ai_sel_f hs1 (ai_sel_f hs2 (ai_sel_f hs3 (ai_sel_t hs4))))) ?_
            refine rn_go 3 (pc' := 110) (l' := [(0, .ref 0), (1, .int x1)]) (st' := [.int (gi V 16 1)]) (S1 := (SH ++ X)) (V1 := V) rfl ?_
            obtain rfl := Option.some.inj h
            exact rn_ret rfl rfl rfl
          · rcases ai_if h with ⟨hs5, h⟩ | ⟨hs5, h⟩
            · refine rn_sw rfl rfl rfl rfl (ai_sel_f hs0 (ai_sel_f hs1 (ai_sel_f hs2 (ai_sel_f hs3 (ai_sel_f hs4 (ai_sel_t hs5)))))) ?_
              refine rn_go 3 (pc' := 118) (l' := [(0, .ref 0), (1, .int x1)]) (st' := [.int (gi V 16 2)]) (S1 := (SH ++ X)) (V1 := V) rfl ?_
              obtain rfl := Option.some.inj h
              exact rn_ret rfl rfl rfl
            · rcases ai_if h with ⟨hs6, h⟩ | ⟨hs6, h⟩
              · refine rn_sw rfl rfl rfl rfl (ai_sel_f hs0 (ai_sel_f hs1 (ai_sel_f hs2 (ai_sel_f hs3 (ai_sel_f hs4 (ai_sel_f hs5 (ai_sel_t hs6))))))) ?_
                refine rn_go 3 (pc' := 126) (l' := [(0, .ref 0), (1, .int x1)]) (st' := [.int (gi V 3 1)]) (S1 := (SH ++ X)) (V1 := V) rfl ?_
                obtain rfl := Option.some.inj h
                exact rn_ret rfl rfl rfl
              · rcases ai_if h with ⟨hs7, h⟩ | ⟨hs7, h⟩
                · refine rn_sw rfl rfl rfl rfl (ai_sel_f hs0 (ai_sel_f hs1 (ai_sel_f hs2 (ai_sel_f hs3 (ai_sel_f hs4 (ai_sel_f hs5 (ai_sel_f hs6 (ai_sel_t hs7)))))))) ?_
                  refine rn_go 4 (pc' := 135) (l' := [(0, .ref 0), (1, .int x1)]) (st' := [.ref 16, .ref 3]) (S1 := (SH ++ X)) (V1 := V) rfl ?_
                  obtain ⟨q2, hq2, h⟩ := ai_bd h
                  refine rn_call rfl rfl rfl rfl rfl rfl (by omega) (t_State_quarterNow (by omega) hq2) ?_
                  obtain ⟨q3, hq3, h⟩ := ai_bd h
                  refine rn_call rfl rfl rfl rfl rfl rfl (by omega) (t_House_wantsIn (by omega) hq3) ?_
                  obtain rfl := Option.some.inj h
                  exact rn_ret rfl rfl rfl
                · rcases ai_if h with ⟨hs8, h⟩ | ⟨hs8, h⟩
                  · refine rn_sw rfl rfl rfl rfl (ai_sel_f hs0 (ai_sel_f hs1 (ai_sel_f hs2 (ai_sel_f hs3 (ai_sel_f hs4 (ai_sel_f hs5 (ai_sel_f hs6 (ai_sel_f hs7 (ai_sel_t hs8))))))))) ?_
                    refine rn_go 2 (pc' := 146) (l' := [(0, .ref 0), (1, .int x1)]) (st' := [.ref 16]) (S1 := (SH ++ X)) (V1 := V) rfl ?_
                    obtain ⟨q1, hq1, h⟩ := ai_bd h
                    refine rn_call rfl rfl rfl rfl rfl rfl (by omega) (t_State_dryInAll (by omega) hq1) ?_
                    obtain rfl := Option.some.inj h
                    exact rn_ret rfl rfl rfl
                  · rcases ai_if h with ⟨hs9, h⟩ | ⟨hs9, h⟩
                    · refine rn_sw rfl rfl rfl rfl (ai_sel_f hs0 (ai_sel_f hs1 (ai_sel_f hs2 (ai_sel_f hs3 (ai_sel_f hs4 (ai_sel_f hs5 (ai_sel_f hs6 (ai_sel_f hs7 (ai_sel_f hs8 (ai_sel_t hs9)))))))))) ?_
                      refine rn_go 3 (pc' := 157) (l' := [(0, .ref 0), (1, .int x1)]) (st' := [.int (gi V 78 1)]) (S1 := (SH ++ X)) (V1 := V) rfl ?_
                      obtain rfl := Option.some.inj h
                      exact rn_ret rfl rfl rfl
                    · rcases ai_if h with ⟨hs10, h⟩ | ⟨hs10, h⟩
                      · refine rn_sw rfl rfl rfl rfl (ai_sel_f hs0 (ai_sel_f hs1 (ai_sel_f hs2 (ai_sel_f hs3 (ai_sel_f hs4 (ai_sel_f hs5 (ai_sel_f hs6 (ai_sel_f hs7 (ai_sel_f hs8 (ai_sel_f hs9 (ai_sel_t hs10))))))))))) ?_
                        refine rn_go 3 (pc' := 165) (l' := [(0, .ref 0), (1, .int x1)]) (st' := [.int (gi V 24 1)]) (S1 := (SH ++ X)) (V1 := V) rfl ?_
                        obtain rfl := Option.some.inj h
                        exact rn_ret rfl rfl rfl
                      · rcases ai_if h with ⟨hs11, h⟩ | ⟨hs11, h⟩
                        · refine rn_sw rfl rfl rfl rfl (ai_sel_f hs0 (ai_sel_f hs1 (ai_sel_f hs2 (ai_sel_f hs3 (ai_sel_f hs4 (ai_sel_f hs5 (ai_sel_f hs6 (ai_sel_f hs7 (ai_sel_f hs8 (ai_sel_f hs9 (ai_sel_f hs10 (ai_sel_t hs11)))))))))))) ?_
                          refine rn_go 3 (pc' := 173) (l' := [(0, .ref 0), (1, .int x1)]) (st' := [.int (gi V 22 1)]) (S1 := (SH ++ X)) (V1 := V) rfl ?_
                          obtain rfl := Option.some.inj h
                          exact rn_ret rfl rfl rfl
                        · rcases ai_if h with ⟨hs12, h⟩ | ⟨hs12, h⟩
                          · refine rn_sw rfl rfl rfl rfl (ai_sel_f hs0 (ai_sel_f hs1 (ai_sel_f hs2 (ai_sel_f hs3 (ai_sel_f hs4 (ai_sel_f hs5 (ai_sel_f hs6 (ai_sel_f hs7 (ai_sel_f hs8 (ai_sel_f hs9 (ai_sel_f hs10 (ai_sel_f hs11 (ai_sel_t hs12))))))))))))) ?_
                            refine rn_go 3 (pc' := 181) (l' := [(0, .ref 0), (1, .int x1)]) (st' := [.int (gi V 1 1)]) (S1 := (SH ++ X)) (V1 := V) rfl ?_
                            obtain rfl := Option.some.inj h
                            exact rn_ret rfl rfl rfl
                          · refine rn_sw rfl rfl rfl rfl (ai_sel_f hs0 (ai_sel_f hs1 (ai_sel_f hs2 (ai_sel_f hs3 (ai_sel_f hs4 (ai_sel_f hs5 (ai_sel_f hs6 (ai_sel_f hs7 (ai_sel_f hs8 (ai_sel_f hs9 (ai_sel_f hs10 (ai_sel_f hs11 (ai_sel_f hs12 rfl))))))))))))) ?_
                            refine rn_go 1 (pc' := 183) (l' := [(0, .ref 0), (1, .int x1)]) (st' := [.int (-1 : Int32)]) (S1 := (SH ++ X)) (V1 := V) rfl ?_
                            obtain rfl := Option.some.inj h
                            exact rn_ret rfl rfl rfl
-- RentByTheWheel$House.wantsOfDay(I)I (3, None)
def d_House_wantsOfDay_4  : Nat → Int32 → Int32 → Int32 → ai_V → Option Int32
  | 0, _, _, _, _ => none
  | n + 1, x1, x2, x3, V => if (12 : Int32) ≤ x3 then (some x2) else ((d_House_wantOf x1 x3 V).bind fun q1 => (d_House_wantsOfDay_4 n x1 (x2 + q1) (x3 + (1 : Int32)) V))
set_option maxRecDepth 20000 in
theorem t_House_wantsOfDay_4 {X : ai_S} {e : Nat} (hd : 2 ≤ e)  : ∀ (n : Nat) (x1 : Int32) (x2 : Int32) (x3 : Int32) (V : ai_V) (r : Int32), d_House_wantsOfDay_4  n x1 x2 x3 V = some r → Rn e 31 4 [(0, .ref 3), (1, .int x1), (2, .int x2), (3, .int x3)] [] (SH ++ X) V (some (.int r)) (SH ++ X) V := by
  intro n
  induction n with
  | zero =>
    intro x1 x2 x3 V r h
    cases h
  | succ n ih =>
    intro x1 x2 x3 V r h
    rw [d_House_wantsOfDay_4] at h
    refine rn_go 2 (pc' := 7) (l' := [(0, .ref 3), (1, .int x1), (2, .int x2), (3, .int x3)]) (st' := [.int (12 : Int32), .int x3]) (S1 := (SH ++ X)) (V1 := V) rfl ?_
    rcases ai_if h with ⟨hc, h⟩ | ⟨hc, h⟩
    · refine rn_brT rfl rfl rfl rfl hc ?_
      refine rn_go 1 (pc' := 26) (l' := [(0, .ref 3), (1, .int x1), (2, .int x2), (3, .int x3)]) (st' := [.int x2]) (S1 := (SH ++ X)) (V1 := V) rfl ?_
      obtain rfl := Option.some.inj h
      exact rn_ret rfl rfl rfl
    · refine rn_brF rfl rfl rfl rfl hc ?_
      refine rn_go 4 (pc' := 14) (l' := [(0, .ref 3), (1, .int x1), (2, .int x2), (3, .int x3)]) (st' := [.int x3, .int x1, .ref 3, .int x2]) (S1 := (SH ++ X)) (V1 := V) rfl ?_
      obtain ⟨q1, hq1, h⟩ := ai_bd h
      refine rn_call rfl rfl rfl rfl rfl rfl (by omega) (t_House_wantOf (by omega) hq1) ?_
      refine rn_go 4 (pc' := 4) (l' := [(3, .int (x3 + (1 : Int32))), (2, .int (x2 + q1)), (0, .ref 3), (1, .int x1)]) (st' := []) (S1 := (SH ++ X)) (V1 := V) rfl ?_
      exact rn_sub [2, 3, 1, 0] rfl rfl (ih x1 (x2 + q1) (x3 + (1 : Int32)) V _ h)
def d_House_wantsOfDay (x1 : Int32) (V : ai_V) : Option Int32 :=
  d_House_wantsOfDay_4 ai_N x1 (0 : Int32) (0 : Int32) V
set_option maxRecDepth 20000 in
theorem t_House_wantsOfDay {X : ai_S} {e : Nat} (hd : 2 ≤ e) {x1 : Int32} {V : ai_V} {r : Int32} (h : d_House_wantsOfDay x1 V = some r) : Rn e 31 0 (lv_args 0 [.ref 3, .int x1]) [] (SH ++ X) V (some (.int r)) (SH ++ X) V := by
  rw [d_House_wantsOfDay] at h
  refine rn_go 4 (pc' := 4) (l' := [(3, .int (0 : Int32)), (2, .int (0 : Int32)), (0, .ref 3), (1, .int x1)]) (st' := []) (S1 := (SH ++ X)) (V1 := V) rfl ?_
  exact rn_sub [2, 3, 1, 0] rfl rfl (t_House_wantsOfDay_4 (X := X) hd ai_N x1 (0 : Int32) (0 : Int32) V _ h)
-- RentByTheWheel.lodger(II)I (0, None, None)
def d_X_lodger (x1 : Int32) (x2 : Int32) (V : ai_V) : Option Int32 :=
  (d_House_has x1 V).bind fun q1 => (if ¬ q1 = 0 then (if x2 = (0 : Int32) then (if ai_in x1 6 then (some (ga V 4 (x1).toNatClampNeg)) else none) else (if x2 = (1 : Int32) then (if ai_in x1 6 then (some (ga V 5 (x1).toNatClampNeg)) else none) else (if x2 = (2 : Int32) then (if ai_in x1 6 then (some (ga V 6 (x1).toNatClampNeg)) else none) else (if x2 = (3 : Int32) then ((d_State_quarterNow  V).bind fun q3 => ((d_House_wantOf x1 q3 V).bind fun q4 => (some q4))) else (if x2 = (4 : Int32) then (if ai_in x1 6 then (some (ga V 18 (x1).toNatClampNeg)) else none) else (if x2 = (5 : Int32) then (some (((gi V 3 2) >>> (x1 &&& 31)) &&& (1 : Int32))) else (if x2 = (6 : Int32) then ((d_House_wantsOfDay x1 V).bind fun q2 => (some q2)) else (none)))))))) else (none))
set_option maxRecDepth 20000 in
theorem t_X_lodger {X : ai_S} {e : Nat} (hd : 3 ≤ e) {x1 : Int32} {x2 : Int32} {V : ai_V} {r : Int32} (h : d_X_lodger x1 x2 V = some r) : Rn e 256 0 (lv_args 0 [.ref 0, .int x1, .int x2]) [] (SH ++ X) V (some (.int r)) (SH ++ X) V := by
  rw [d_X_lodger] at h
  refine rn_go 3 (pc' := 5) (l' := [(0, .ref 0), (1, .int x1), (2, .int x2)]) (st' := [.int x1, .ref 3]) (S1 := (SH ++ X)) (V1 := V) rfl ?_
  obtain ⟨q1, hq1, h⟩ := ai_bd h
  refine rn_call rfl rfl rfl rfl rfl rfl (by omega) (t_House_has (by omega) hq1) ?_
  rcases ai_if h with ⟨hc, h⟩ | ⟨hc, h⟩
  · refine rn_brT rfl rfl rfl rfl hc ?_
    refine rn_go 1 (pc' := 22) (l' := [(0, .ref 0), (1, .int x1), (2, .int x2)]) (st' := [.int x2]) (S1 := (SH ++ X)) (V1 := V) rfl ?_
    rcases ai_if h with ⟨hs0, h⟩ | ⟨hs0, h⟩
    · refine rn_sw rfl rfl rfl rfl (ai_sel_t hs0) ?_
      refine rn_go 4 (pc' := 72) (l' := [(0, .ref 0), (1, .int x1), (2, .int x2)]) (st' := [.int x1, .ref 4]) (S1 := (SH ++ X)) (V1 := V) rfl ?_
      obtain ⟨hg, h⟩ := ai_gd h
      refine rg_iald (n := 6) rfl rfl hg ?_
      obtain rfl := Option.some.inj h
      exact rn_ret rfl rfl rfl
    · rcases ai_if h with ⟨hs1, h⟩ | ⟨hs1, h⟩
      · refine rn_sw rfl rfl rfl rfl (ai_sel_f hs0 (ai_sel_t hs1)) ?_
        refine rn_go 4 (pc' := 82) (l' := [(0, .ref 0), (1, .int x1), (2, .int x2)]) (st' := [.int x1, .ref 5]) (S1 := (SH ++ X)) (V1 := V) rfl ?_
        obtain ⟨hg, h⟩ := ai_gd h
        refine rg_iald (n := 6) rfl rfl hg ?_
        obtain rfl := Option.some.inj h
        exact rn_ret rfl rfl rfl
      · rcases ai_if h with ⟨hs2, h⟩ | ⟨hs2, h⟩
        · refine rn_sw rfl rfl rfl rfl (ai_sel_f hs0 (ai_sel_f hs1 (ai_sel_t hs2))) ?_
          refine rn_go 4 (pc' := 92) (l' := [(0, .ref 0), (1, .int x1), (2, .int x2)]) (st' := [.int x1, .ref 6]) (S1 := (SH ++ X)) (V1 := V) rfl ?_
          obtain ⟨hg, h⟩ := ai_gd h
          refine rg_iald (n := 6) rfl rfl hg ?_
          obtain rfl := Option.some.inj h
          exact rn_ret rfl rfl rfl
        · rcases ai_if h with ⟨hs3, h⟩ | ⟨hs3, h⟩
          · refine rn_sw rfl rfl rfl rfl (ai_sel_f hs0 (ai_sel_f hs1 (ai_sel_f hs2 (ai_sel_t hs3)))) ?_
            refine rn_go 5 (pc' := 103) (l' := [(0, .ref 0), (1, .int x1), (2, .int x2)]) (st' := [.ref 16, .int x1, .ref 3]) (S1 := (SH ++ X)) (V1 := V) rfl ?_
            obtain ⟨q3, hq3, h⟩ := ai_bd h
            refine rn_call rfl rfl rfl rfl rfl rfl (by omega) (t_State_quarterNow (by omega) hq3) ?_
            obtain ⟨q4, hq4, h⟩ := ai_bd h
            refine rn_call rfl rfl rfl rfl rfl rfl (by omega) (t_House_wantOf (by omega) hq4) ?_
            obtain rfl := Option.some.inj h
            exact rn_ret rfl rfl rfl
          · rcases ai_if h with ⟨hs4, h⟩ | ⟨hs4, h⟩
            · refine rn_sw rfl rfl rfl rfl (ai_sel_f hs0 (ai_sel_f hs1 (ai_sel_f hs2 (ai_sel_f hs3 (ai_sel_t hs4))))) ?_
              refine rn_go 4 (pc' := 118) (l' := [(0, .ref 0), (1, .int x1), (2, .int x2)]) (st' := [.int x1, .ref 18]) (S1 := (SH ++ X)) (V1 := V) rfl ?_
              obtain ⟨hg, h⟩ := ai_gd h
              refine rg_iald (n := 6) rfl rfl hg ?_
              obtain rfl := Option.some.inj h
              exact rn_ret rfl rfl rfl
            · rcases ai_if h with ⟨hs5, h⟩ | ⟨hs5, h⟩
              · refine rn_sw rfl rfl rfl rfl (ai_sel_f hs0 (ai_sel_f hs1 (ai_sel_f hs2 (ai_sel_f hs3 (ai_sel_f hs4 (ai_sel_t hs5)))))) ?_
                refine rn_go 7 (pc' := 131) (l' := [(0, .ref 0), (1, .int x1), (2, .int x2)]) (st' := [.int (((gi V 3 2) >>> (x1 &&& 31)) &&& (1 : Int32))]) (S1 := (SH ++ X)) (V1 := V) rfl ?_
                obtain rfl := Option.some.inj h
                exact rn_ret rfl rfl rfl
              · rcases ai_if h with ⟨hs6, h⟩ | ⟨hs6, h⟩
                · refine rn_sw rfl rfl rfl rfl (ai_sel_f hs0 (ai_sel_f hs1 (ai_sel_f hs2 (ai_sel_f hs3 (ai_sel_f hs4 (ai_sel_f hs5 (ai_sel_t hs6))))))) ?_
                  refine rn_go 3 (pc' := 137) (l' := [(0, .ref 0), (1, .int x1), (2, .int x2)]) (st' := [.int x1, .ref 3]) (S1 := (SH ++ X)) (V1 := V) rfl ?_
                  obtain ⟨q2, hq2, h⟩ := ai_bd h
                  refine rn_call rfl rfl rfl rfl rfl rfl (by omega) (t_House_wantsOfDay (by omega) hq2) ?_
                  obtain rfl := Option.some.inj h
                  exact rn_ret rfl rfl rfl
                · refine rn_sw rfl rfl rfl rfl (ai_sel_f hs0 (ai_sel_f hs1 (ai_sel_f hs2 (ai_sel_f hs3 (ai_sel_f hs4 (ai_sel_f hs5 (ai_sel_f hs6 rfl))))))) ?_
                  cases h
  · refine rn_brF rfl rfl rfl rfl hc ?_
    cases h
-- RentByTheWheel.debt(I)I (0, None)
def d_X_debt (x1 : Int32) (V : ai_V) : Option Int32 :=
  (d_House_has x1 V).bind fun q1 => (if ¬ q1 = 0 then (if ai_in x1 6 then (some (ga V 17 (x1).toNatClampNeg)) else none) else (none))
set_option maxRecDepth 20000 in
theorem t_X_debt {X : ai_S} {e : Nat} (hd : 1 ≤ e) {x1 : Int32} {V : ai_V} {r : Int32} (h : d_X_debt x1 V = some r) : Rn e 257 0 (lv_args 0 [.ref 0, .int x1]) [] (SH ++ X) V (some (.int r)) (SH ++ X) V := by
  rw [d_X_debt] at h
  refine rn_go 3 (pc' := 5) (l' := [(0, .ref 0), (1, .int x1)]) (st' := [.int x1, .ref 3]) (S1 := (SH ++ X)) (V1 := V) rfl ?_
  obtain ⟨q1, hq1, h⟩ := ai_bd h
  refine rn_call rfl rfl rfl rfl rfl rfl (by omega) (t_House_has (by omega) hq1) ?_
  rcases ai_if h with ⟨hc, h⟩ | ⟨hc, h⟩
  · refine rn_brT rfl rfl rfl rfl hc ?_
    refine rn_go 4 (pc' := 29) (l' := [(0, .ref 0), (1, .int x1)]) (st' := [.int x1, .ref 17]) (S1 := (SH ++ X)) (V1 := V) rfl ?_
    obtain ⟨hg, h⟩ := ai_gd h
    refine rg_iald (n := 6) rfl rfl hg ?_
    obtain rfl := Option.some.inj h
    exact rn_ret rfl rfl rfl
  · refine rn_brF rfl rfl rfl rfl hc ?_
    cases h
-- RentByTheWheel.row(I)J (0, None)
def d_X_row_15   (V : ai_V) : Option Int64 :=
  none
set_option maxRecDepth 20000 in
theorem t_X_row_15 {X : ai_S} {e : Nat} (hd : 0 ≤ e)   (V : ai_V) (r : Int64) (h : d_X_row_15   V = some r) : Rn e 258 15 [] [] (SH ++ X) V (some (.long r)) (SH ++ X) V := by
  rw [d_X_row_15] at h
  cases h
def d_X_row (x1 : Int32) (V : ai_V) : Option Int64 :=
  if x1 < 0 then (d_X_row_15 V) else (if x1 < (gi V 22 1) then (if ai_in x1 12 then (some (gl V 23 (x1).toNatClampNeg)) else none) else (d_X_row_15 V))
set_option maxRecDepth 20000 in
theorem t_X_row {X : ai_S} {e : Nat} (hd : 0 ≤ e) {x1 : Int32} {V : ai_V} {r : Int64} (h : d_X_row x1 V = some r) : Rn e 258 0 (lv_args 0 [.ref 0, .int x1]) [] (SH ++ X) V (some (.long r)) (SH ++ X) V := by
  rw [d_X_row] at h
  refine rn_go 1 (pc' := 1) (l' := [(0, .ref 0), (1, .int x1)]) (st' := [.int x1]) (S1 := (SH ++ X)) (V1 := V) rfl ?_
  rcases ai_if h with ⟨hc, h⟩ | ⟨hc, h⟩
  · refine rn_brT rfl rfl rfl rfl hc ?_
    exact rn_sub [] rfl rfl (t_X_row_15 (X := X) hd V _ h)
  · refine rn_brF rfl rfl rfl rfl hc ?_
    refine rn_go 4 (pc' := 12) (l' := [(0, .ref 0), (1, .int x1)]) (st' := [.int (gi V 22 1), .int x1]) (S1 := (SH ++ X)) (V1 := V) rfl ?_
    rcases ai_if h with ⟨hc, h⟩ | ⟨hc, h⟩
    · refine rn_brT rfl rfl rfl rfl hc ?_
      refine rn_go 4 (pc' := 34) (l' := [(0, .ref 0), (1, .int x1)]) (st' := [.int x1, .ref 23]) (S1 := (SH ++ X)) (V1 := V) rfl ?_
      obtain ⟨hg, h⟩ := ai_gd h
      refine rg_lald (n := 12) rfl rfl hg ?_
      obtain rfl := Option.some.inj h
      exact rn_ret rfl rfl rfl
    · refine rn_brF rfl rfl rfl rfl hc ?_
      exact rn_sub [] rfl rfl (t_X_row_15 (X := X) hd V _ h)
-- RentByTheWheel$State.quarterNow()I (65,)
def d_State_quarterNow_65  (V : ai_V) : Option Int32 :=
  some ((gi V 65 0) - (gi V 65 0) / (12 : Int32) * (12 : Int32))
set_option maxRecDepth 20000 in
theorem t_State_quarterNow_65 {X : ai_S} {e : Nat} (hd : 0 ≤ e)  {V : ai_V} {r : Int32} (h : d_State_quarterNow_65  V = some r) : Rn e 33 0 (lv_args 0 [.ref 65]) [] (SH ++ X) V (some (.int r)) (SH ++ X) V := by
  rw [d_State_quarterNow_65] at h
  refine rn_go 3 (pc' := 6) (l' := [(0, .ref 65)]) (st' := [.int (12 : Int32), .int (gi V 65 0)]) (S1 := (SH ++ X)) (V1 := V) rfl ?_
  refine rg_irem rfl (by decide) ?_
  obtain rfl := Option.some.inj h
  exact rn_ret rfl rfl rfl
-- RentByTheWheel$Wheel.take(LRentByTheWheel$State;[I)V (15, 65, 9)
def d_Wheel_take_15_65_9_105 (F18 : Int32 → Int32 → ai_V → Option ai_V) (x3 : Int32) (x4 : Int32) (V : ai_V) : Option ai_V :=
  F18 x3 (x4 + (1 : Int32)) V
set_option maxRecDepth 20000 in
theorem t_Wheel_take_15_65_9_105 {X : ai_S} {e : Nat} (hd : 2 ≤ e) (F18 : Int32 → Int32 → ai_V → Option ai_V) (hF18 : ∀ (x3 : Int32) (x4 : Int32) (V : ai_V) (r : ai_V), F18 x3 x4 V = some r → Rn e 54 18 [(0, .ref 15), (1, .ref 65), (2, .ref 9), (3, .int x3), (4, .int x4)] [] (SH ++ X) V none (SH ++ X) r) (x3 : Int32) (x4 : Int32) (V : ai_V) (r : ai_V) (h : d_Wheel_take_15_65_9_105 F18 x3 x4 V = some r) : Rn e 54 105 [(0, .ref 15), (1, .ref 65), (2, .ref 9), (3, .int x3), (4, .int x4)] [] (SH ++ X) V none (SH ++ X) r := by
  rw [d_Wheel_take_15_65_9_105] at h
  refine rn_go 2 (pc' := 18) (l' := [(4, .int (x4 + (1 : Int32))), (0, .ref 15), (1, .ref 65), (2, .ref 9), (3, .int x3)]) (st' := []) (S1 := (SH ++ X)) (V1 := V) rfl ?_
  exact rn_sub [1, 2, 3, 4, 0] rfl rfl (hF18 x3 (x4 + (1 : Int32)) V _ h)
def d_Wheel_take_15_65_9_18  : Nat → Int32 → Int32 → ai_V → Option ai_V
  | 0, _, _, _ => none
  | n + 1, x3, x4, V => if (gi V 3 0) ≤ x4 then (some V) else (if ai_in x4 6 then ((d_House_wantOf (ga V 9 (x4).toNatClampNeg) x3 V).bind fun q1 => (if (gi V 65 1) < q1 then (if ai_in (ga V 9 (x4).toNatClampNeg) 6 then (if ai_in (ga V 9 (x4).toNatClampNeg) 6 then (d_Wheel_take_15_65_9_105 (d_Wheel_take_15_65_9_18 n) x3 x4 (si (si (sa V 67 ((ga V 9 (x4).toNatClampNeg)).toNatClampNeg ((ga V 67 ((ga V 9 (x4).toNatClampNeg)).toNatClampNeg) + (1 : Int32))) 15 4 ((gi (sa V 67 ((ga V 9 (x4).toNatClampNeg)).toNatClampNeg ((ga V 67 ((ga V 9 (x4).toNatClampNeg)).toNatClampNeg) + (1 : Int32))) 15 4) ||| ((1 : Int32) <<< ((ga V 9 (x4).toNatClampNeg) &&& 31)))) 15 5 ((gi (si (sa V 67 ((ga V 9 (x4).toNatClampNeg)).toNatClampNeg ((ga V 67 ((ga V 9 (x4).toNatClampNeg)).toNatClampNeg) + (1 : Int32))) 15 4 ((gi (sa V 67 ((ga V 9 (x4).toNatClampNeg)).toNatClampNeg ((ga V 67 ((ga V 9 (x4).toNatClampNeg)).toNatClampNeg) + (1 : Int32))) 15 4) ||| ((1 : Int32) <<< ((ga V 9 (x4).toNatClampNeg) &&& 31)))) 15 5) + (1 : Int32)))) else none) else none) else (d_Wheel_take_15_65_9_105 (d_Wheel_take_15_65_9_18 n) x3 x4 (si V 65 1 ((gi V 65 1) - q1))))) else none)
set_option maxRecDepth 20000 in
theorem t_Wheel_take_15_65_9_18 {X : ai_S} {e : Nat} (hd : 2 ≤ e)  : ∀ (n : Nat) (x3 : Int32) (x4 : Int32) (V : ai_V) (r : ai_V), d_Wheel_take_15_65_9_18  n x3 x4 V = some r → Rn e 54 18 [(0, .ref 15), (1, .ref 65), (2, .ref 9), (3, .int x3), (4, .int x4)] [] (SH ++ X) V none (SH ++ X) r := by
  intro n
  induction n with
  | zero =>
    intro x3 x4 V r h
    cases h
  | succ n ih =>
    intro x3 x4 V r h
    rw [d_Wheel_take_15_65_9_18] at h
    refine rn_go 4 (pc' := 27) (l' := [(0, .ref 15), (1, .ref 65), (2, .ref 9), (3, .int x3), (4, .int x4)]) (st' := [.int (gi V 3 0), .int x4]) (S1 := (SH ++ X)) (V1 := V) rfl ?_
    rcases ai_if h with ⟨hc, h⟩ | ⟨hc, h⟩
    · refine rn_brT rfl rfl rfl rfl hc ?_
      obtain rfl := Option.some.inj h
      exact rn_ret rfl rfl rfl
    · refine rn_brF rfl rfl rfl rfl hc ?_
      refine rn_go 2 (pc' := 33) (l' := [(0, .ref 15), (1, .ref 65), (2, .ref 9), (3, .int x3), (4, .int x4)]) (st' := [.int x4, .ref 9]) (S1 := (SH ++ X)) (V1 := V) rfl ?_
      obtain ⟨hg, h⟩ := ai_gd h
      refine rg_iald (n := 6) rfl rfl hg ?_
      refine rn_go 5 (pc' := 43) (l' := [(5, .int (ga V 9 (x4).toNatClampNeg)), (0, .ref 15), (1, .ref 65), (2, .ref 9), (3, .int x3), (4, .int x4)]) (st' := [.int x3, .int (ga V 9 (x4).toNatClampNeg), .ref 3]) (S1 := (SH ++ X)) (V1 := V) rfl ?_
      obtain ⟨q1, hq1, h⟩ := ai_bd h
      refine rn_call rfl rfl rfl rfl rfl rfl (by omega) (t_House_wantOf (by omega) hq1) ?_
      refine rn_go 4 (pc' := 54) (l' := [(6, .int q1), (5, .int (ga V 9 (x4).toNatClampNeg)), (0, .ref 15), (1, .ref 65), (2, .ref 9), (3, .int x3), (4, .int x4)]) (st' := [.int q1, .int (gi V 65 1)]) (S1 := (SH ++ X)) (V1 := V) rfl ?_
      rcases ai_if h with ⟨hc, h⟩ | ⟨hc, h⟩
      · refine rn_brT rfl rfl rfl rfl hc ?_
        refine rn_go 4 (pc' := 78) (l' := [(6, .int q1), (5, .int (ga V 9 (x4).toNatClampNeg)), (0, .ref 15), (1, .ref 65), (2, .ref 9), (3, .int x3), (4, .int x4)]) (st' := [.int (ga V 9 (x4).toNatClampNeg), .ref 67, .int (ga V 9 (x4).toNatClampNeg), .ref 67]) (S1 := (SH ++ X)) (V1 := V) rfl ?_
        obtain ⟨hg, h⟩ := ai_gd h
        refine rg_iald (n := 6) rfl rfl hg ?_
        refine rn_go 2 (pc' := 81) (l' := [(6, .int q1), (5, .int (ga V 9 (x4).toNatClampNeg)), (0, .ref 15), (1, .ref 65), (2, .ref 9), (3, .int x3), (4, .int x4)]) (st' := [.int ((ga V 67 ((ga V 9 (x4).toNatClampNeg)).toNatClampNeg) + (1 : Int32)), .int (ga V 9 (x4).toNatClampNeg), .ref 67]) (S1 := (SH ++ X)) (V1 := V) rfl ?_
        obtain ⟨hg, h⟩ := ai_gd h
        refine rg_iast (n := 6) rfl rfl hg ?_
        refine rn_go 14 (pc' := 105) (l' := [(6, .int q1), (5, .int (ga V 9 (x4).toNatClampNeg)), (0, .ref 15), (1, .ref 65), (2, .ref 9), (3, .int x3), (4, .int x4)]) (st' := []) (S1 := (SH ++ X)) (V1 := (si (si (sa V 67 ((ga V 9 (x4).toNatClampNeg)).toNatClampNeg ((ga V 67 ((ga V 9 (x4).toNatClampNeg)).toNatClampNeg) + (1 : Int32))) 15 4 ((gi (sa V 67 ((ga V 9 (x4).toNatClampNeg)).toNatClampNeg ((ga V 67 ((ga V 9 (x4).toNatClampNeg)).toNatClampNeg) + (1 : Int32))) 15 4) ||| ((1 : Int32) <<< ((ga V 9 (x4).toNatClampNeg) &&& 31)))) 15 5 ((gi (si (sa V 67 ((ga V 9 (x4).toNatClampNeg)).toNatClampNeg ((ga V 67 ((ga V 9 (x4).toNatClampNeg)).toNatClampNeg) + (1 : Int32))) 15 4 ((gi (sa V 67 ((ga V 9 (x4).toNatClampNeg)).toNatClampNeg ((ga V 67 ((ga V 9 (x4).toNatClampNeg)).toNatClampNeg) + (1 : Int32))) 15 4) ||| ((1 : Int32) <<< ((ga V 9 (x4).toNatClampNeg) &&& 31)))) 15 5) + (1 : Int32)))) rfl ?_
        exact rn_sub [2, 3, 4, 5, 6] rfl rfl (t_Wheel_take_15_65_9_105 (X := X) hd (d_Wheel_take_15_65_9_18 n) (ih) x3 x4 (si (si (sa V 67 ((ga V 9 (x4).toNatClampNeg)).toNatClampNeg ((ga V 67 ((ga V 9 (x4).toNatClampNeg)).toNatClampNeg) + (1 : Int32))) 15 4 ((gi (sa V 67 ((ga V 9 (x4).toNatClampNeg)).toNatClampNeg ((ga V 67 ((ga V 9 (x4).toNatClampNeg)).toNatClampNeg) + (1 : Int32))) 15 4) ||| ((1 : Int32) <<< ((ga V 9 (x4).toNatClampNeg) &&& 31)))) 15 5 ((gi (si (sa V 67 ((ga V 9 (x4).toNatClampNeg)).toNatClampNeg ((ga V 67 ((ga V 9 (x4).toNatClampNeg)).toNatClampNeg) + (1 : Int32))) 15 4 ((gi (sa V 67 ((ga V 9 (x4).toNatClampNeg)).toNatClampNeg ((ga V 67 ((ga V 9 (x4).toNatClampNeg)).toNatClampNeg) + (1 : Int32))) 15 4) ||| ((1 : Int32) <<< ((ga V 9 (x4).toNatClampNeg) &&& 31)))) 15 5) + (1 : Int32))) _ h)
      · refine rn_brF rfl rfl rfl rfl hc ?_
        refine rn_go 7 (pc' := 105) (l' := [(6, .int q1), (5, .int (ga V 9 (x4).toNatClampNeg)), (0, .ref 15), (1, .ref 65), (2, .ref 9), (3, .int x3), (4, .int x4)]) (st' := []) (S1 := (SH ++ X)) (V1 := (si V 65 1 ((gi V 65 1) - q1))) rfl ?_
        exact rn_sub [2, 3, 4, 5, 6] rfl rfl (t_Wheel_take_15_65_9_105 (X := X) hd (d_Wheel_take_15_65_9_18 n) (ih) x3 x4 (si V 65 1 ((gi V 65 1) - q1)) _ h)
def d_Wheel_take_15_65_9  (V : ai_V) : Option ai_V :=
  (d_State_quarterNow_65  V).bind fun q2 => (d_Wheel_take_15_65_9_18 ai_N q2 (0 : Int32) (si (si V 15 4 (0 : Int32)) 15 5 (0 : Int32)))
set_option maxRecDepth 20000 in
theorem t_Wheel_take_15_65_9 {X : ai_S} {e : Nat} (hd : 2 ≤ e)  {V : ai_V} {r : ai_V} (h : d_Wheel_take_15_65_9  V = some r) : Rn e 54 0 (lv_args 0 [.ref 15, .ref 65, .ref 9]) [] (SH ++ X) V none (SH ++ X) r := by
  rw [d_Wheel_take_15_65_9] at h
  refine rn_go 1 (pc' := 1) (l' := [(0, .ref 15), (1, .ref 65), (2, .ref 9)]) (st' := [.ref 65]) (S1 := (SH ++ X)) (V1 := V) rfl ?_
  obtain ⟨q2, hq2, h⟩ := ai_bd h
  refine rn_call rfl rfl rfl rfl rfl rfl (by omega) (t_State_quarterNow_65 (by omega) hq2) ?_
  refine rn_go 9 (pc' := 18) (l' := [(4, .int (0 : Int32)), (3, .int q2), (0, .ref 15), (1, .ref 65), (2, .ref 9)]) (st' := []) (S1 := (SH ++ X)) (V1 := (si (si V 15 4 (0 : Int32)) 15 5 (0 : Int32))) rfl ?_
  exact rn_sub [2, 3, 4, 1, 0] rfl rfl (t_Wheel_take_15_65_9_18 (X := X) hd ai_N q2 (0 : Int32) (si (si V 15 4 (0 : Int32)) 15 5 (0 : Int32)) _ h)
-- RentByTheWheel$Wheel.pass(LRentByTheWheel$State;II)V (15, 65, None, None)
def d_Wheel_pass_15_65_176  : Nat → Int32 → ai_V → Option ai_V
  | 0, _, _ => none
  | n + 1, x6, V => if (gi V 3 0) ≤ x6 then (some V) else (if ai_in x6 6 then ((d_House_chargeOf x6 (gi V 3 1) V).bind fun q1 => (if ai_in x6 6 then (d_Wheel_pass_15_65_176 n (x6 + (1 : Int32)) (sa V 66 (x6).toNatClampNeg ((ga V 66 (x6).toNatClampNeg) + q1))) else none)) else none)
set_option maxRecDepth 20000 in
theorem t_Wheel_pass_15_65_176 {X : ai_S} {e : Nat} (hd : 3 ≤ e)  : ∀ (n : Nat) (x6 : Int32) (V : ai_V) (r : ai_V), d_Wheel_pass_15_65_176  n x6 V = some r → Rn e 55 176 [(0, .ref 15), (1, .ref 65), (6, .int x6)] [] (SH ++ X) V none (SH ++ X) r := by
  intro n
  induction n with
  | zero =>
    intro x6 V r h
    cases h
  | succ n ih =>
    intro x6 V r h
    rw [d_Wheel_pass_15_65_176] at h
    refine rn_go 4 (pc' := 185) (l' := [(0, .ref 15), (1, .ref 65), (6, .int x6)]) (st' := [.int (gi V 3 0), .int x6]) (S1 := (SH ++ X)) (V1 := V) rfl ?_
    rcases ai_if h with ⟨hc, h⟩ | ⟨hc, h⟩
    · refine rn_brT rfl rfl rfl rfl hc ?_
      obtain rfl := Option.some.inj h
      exact rn_ret rfl rfl rfl
    · refine rn_brF rfl rfl rfl rfl hc ?_
      refine rn_go 4 (pc' := 195) (l' := [(0, .ref 15), (1, .ref 65), (6, .int x6)]) (st' := [.int x6, .ref 66, .int x6, .ref 66]) (S1 := (SH ++ X)) (V1 := V) rfl ?_
      obtain ⟨hg, h⟩ := ai_gd h
      refine rg_iald (n := 6) rfl rfl hg ?_
      refine rn_go 6 (pc' := 209) (l' := [(0, .ref 15), (1, .ref 65), (6, .int x6)]) (st' := [.int (gi V 3 1), .int x6, .ref 3, .int (ga V 66 (x6).toNatClampNeg), .int x6, .ref 66]) (S1 := (SH ++ X)) (V1 := V) rfl ?_
      obtain ⟨q1, hq1, h⟩ := ai_bd h
      refine rn_call rfl rfl rfl rfl rfl rfl (by omega) (t_House_chargeOf (by omega) hq1) ?_
      refine rn_go 1 (pc' := 213) (l' := [(0, .ref 15), (1, .ref 65), (6, .int x6)]) (st' := [.int ((ga V 66 (x6).toNatClampNeg) + q1), .int x6, .ref 66]) (S1 := (SH ++ X)) (V1 := V) rfl ?_
      obtain ⟨hg, h⟩ := ai_gd h
      refine rg_iast (n := 6) rfl rfl hg ?_
      refine rn_go 2 (pc' := 176) (l' := [(6, .int (x6 + (1 : Int32))), (0, .ref 15), (1, .ref 65)]) (st' := []) (S1 := (SH ++ X)) (V1 := (sa V 66 (x6).toNatClampNeg ((ga V 66 (x6).toNatClampNeg) + q1))) rfl ?_
      exact rn_sub [1, 2, 0] rfl rfl (ih (x6 + (1 : Int32)) (sa V 66 (x6).toNatClampNeg ((ga V 66 (x6).toNatClampNeg) + q1)) _ h)
def d_Wheel_pass_15_65_144   (V : ai_V) : Option ai_V :=
  (d_Wheel_take_15_65_9  V).bind fun q2 => ((d_State_quarterNow_65  (si q2 65 0 ((gi q2 65 0) + (1 : Int32)))).bind fun q3 => (if ¬ q3 = 0 then (some (si q2 65 0 ((gi q2 65 0) + (1 : Int32)))) else (d_Wheel_pass_15_65_176 ai_N (0 : Int32) (si q2 65 0 ((gi q2 65 0) + (1 : Int32))))))
set_option maxRecDepth 20000 in
theorem t_Wheel_pass_15_65_144 {X : ai_S} {e : Nat} (hd : 3 ≤ e)   (V : ai_V) (r : ai_V) (h : d_Wheel_pass_15_65_144   V = some r) : Rn e 55 144 [(0, .ref 15), (1, .ref 65)] [] (SH ++ X) V none (SH ++ X) r := by
  rw [d_Wheel_pass_15_65_144] at h
  refine rn_go 5 (pc' := 153) (l' := [(0, .ref 15), (1, .ref 65)]) (st' := [.ref 9, .ref 65, .ref 15]) (S1 := (SH ++ X)) (V1 := V) rfl ?_
  obtain ⟨q2, hq2, h⟩ := ai_bd h
  refine rn_call rfl rfl rfl rfl rfl rfl (by omega) (t_Wheel_take_15_65_9 (by omega) hq2) ?_
  refine rn_go 7 (pc' := 167) (l' := [(0, .ref 15), (1, .ref 65)]) (st' := [.ref 65]) (S1 := (SH ++ X)) (V1 := (si q2 65 0 ((gi q2 65 0) + (1 : Int32)))) rfl ?_
  obtain ⟨q3, hq3, h⟩ := ai_bd h
  refine rn_call rfl rfl rfl rfl rfl rfl (by omega) (t_State_quarterNow_65 (by omega) hq3) ?_
  rcases ai_if h with ⟨hc, h⟩ | ⟨hc, h⟩
  · refine rn_brT rfl rfl rfl rfl hc ?_
    obtain rfl := Option.some.inj h
    exact rn_ret rfl rfl rfl
  · refine rn_brF rfl rfl rfl rfl hc ?_
    refine rn_go 2 (pc' := 176) (l' := [(6, .int (0 : Int32)), (0, .ref 15), (1, .ref 65)]) (st' := []) (S1 := (SH ++ X)) (V1 := (si q2 65 0 ((gi q2 65 0) + (1 : Int32)))) rfl ?_
    exact rn_sub [1, 2, 0] rfl rfl (t_Wheel_pass_15_65_176 (X := X) hd ai_N (0 : Int32) (si q2 65 0 ((gi q2 65 0) + (1 : Int32))) _ h)
def d_Wheel_pass_15_65_122  (x3 : Int32) (x5 : Int32) (V : ai_V) : Option ai_V :=
  (d_House_has x3 V).bind fun q4 => (if q4 = 0 then (d_Wheel_pass_15_65_144 V) else (if ai_in x3 6 then (if ai_in x3 6 then (d_Wheel_pass_15_65_144 (sa V 66 (x3).toNatClampNeg ((ga V 66 (x3).toNatClampNeg) - x5))) else none) else none))
set_option maxRecDepth 20000 in
theorem t_Wheel_pass_15_65_122 {X : ai_S} {e : Nat} (hd : 3 ≤ e)  (x3 : Int32) (x5 : Int32) (V : ai_V) (r : ai_V) (h : d_Wheel_pass_15_65_122  x3 x5 V = some r) : Rn e 55 122 [(0, .ref 15), (1, .ref 65), (3, .int x3), (5, .int x5)] [] (SH ++ X) V none (SH ++ X) r := by
  rw [d_Wheel_pass_15_65_122] at h
  refine rn_go 3 (pc' := 127) (l' := [(0, .ref 15), (1, .ref 65), (3, .int x3), (5, .int x5)]) (st' := [.int x3, .ref 3]) (S1 := (SH ++ X)) (V1 := V) rfl ?_
  obtain ⟨q4, hq4, h⟩ := ai_bd h
  refine rn_call rfl rfl rfl rfl rfl rfl (by omega) (t_House_has (by omega) hq4) ?_
  rcases ai_if h with ⟨hc, h⟩ | ⟨hc, h⟩
  · refine rn_brT rfl rfl rfl rfl hc ?_
    exact rn_sub [0, 1] rfl rfl (t_Wheel_pass_15_65_144 (X := X) hd V _ h)
  · refine rn_brF rfl rfl rfl rfl hc ?_
    refine rn_go 4 (pc' := 139) (l' := [(0, .ref 15), (1, .ref 65), (3, .int x3), (5, .int x5)]) (st' := [.int x3, .ref 66, .int x3, .ref 66]) (S1 := (SH ++ X)) (V1 := V) rfl ?_
    obtain ⟨hg, h⟩ := ai_gd h
    refine rg_iald (n := 6) rfl rfl hg ?_
    refine rn_go 2 (pc' := 143) (l' := [(0, .ref 15), (1, .ref 65), (3, .int x3), (5, .int x5)]) (st' := [.int ((ga V 66 (x3).toNatClampNeg) - x5), .int x3, .ref 66]) (S1 := (SH ++ X)) (V1 := V) rfl ?_
    obtain ⟨hg, h⟩ := ai_gd h
    refine rg_iast (n := 6) rfl rfl hg ?_
    exact rn_sub [0, 1] rfl rfl (t_Wheel_pass_15_65_144 (X := X) hd (sa V 66 (x3).toNatClampNeg ((ga V 66 (x3).toNatClampNeg) - x5)) _ h)
def d_Wheel_pass_15_65 (x2 : Int32) (x3 : Int32) (V : ai_V) : Option ai_V :=
  (d_State_quarterNow_65  V).bind fun q5 => ((d_Wheel_pails x2 x3 (gi V 65 1) q5 (gi V 3 2) V).bind fun q6 => ((d_Wheel_pails x3 x2 (gi q6.2 65 1) q5 (gi q6.2 3 2) q6.2).bind fun q7 => ((d_House_turnsOf x2 x3 (si (si (si q7.2 15 2 (q6.1 + q7.1)) 15 3 (ai_max (0 : Int32) (((gi (si q7.2 15 2 (q6.1 + q7.1)) 65 1) + (gi (si q7.2 15 2 (q6.1 + q7.1)) 15 2)) - (gi (si q7.2 15 2 (q6.1 + q7.1)) 65 2)))) 65 1 ((gi (si (si q7.2 15 2 (q6.1 + q7.1)) 15 3 (ai_max (0 : Int32) (((gi (si q7.2 15 2 (q6.1 + q7.1)) 65 1) + (gi (si q7.2 15 2 (q6.1 + q7.1)) 15 2)) - (gi (si q7.2 15 2 (q6.1 + q7.1)) 65 2)))) 65 1) + ((gi (si (si q7.2 15 2 (q6.1 + q7.1)) 15 3 (ai_max (0 : Int32) (((gi (si q7.2 15 2 (q6.1 + q7.1)) 65 1) + (gi (si q7.2 15 2 (q6.1 + q7.1)) 15 2)) - (gi (si q7.2 15 2 (q6.1 + q7.1)) 65 2)))) 15 2) - (gi (si (si q7.2 15 2 (q6.1 + q7.1)) 15 3 (ai_max (0 : Int32) (((gi (si q7.2 15 2 (q6.1 + q7.1)) 65 1) + (gi (si q7.2 15 2 (q6.1 + q7.1)) 15 2)) - (gi (si q7.2 15 2 (q6.1 + q7.1)) 65 2)))) 15 3))))).bind fun q8 => ((d_House_has x2 (si (si (si q7.2 15 2 (q6.1 + q7.1)) 15 3 (ai_max (0 : Int32) (((gi (si q7.2 15 2 (q6.1 + q7.1)) 65 1) + (gi (si q7.2 15 2 (q6.1 + q7.1)) 15 2)) - (gi (si q7.2 15 2 (q6.1 + q7.1)) 65 2)))) 65 1 ((gi (si (si q7.2 15 2 (q6.1 + q7.1)) 15 3 (ai_max (0 : Int32) (((gi (si q7.2 15 2 (q6.1 + q7.1)) 65 1) + (gi (si q7.2 15 2 (q6.1 + q7.1)) 15 2)) - (gi (si q7.2 15 2 (q6.1 + q7.1)) 65 2)))) 65 1) + ((gi (si (si q7.2 15 2 (q6.1 + q7.1)) 15 3 (ai_max (0 : Int32) (((gi (si q7.2 15 2 (q6.1 + q7.1)) 65 1) + (gi (si q7.2 15 2 (q6.1 + q7.1)) 15 2)) - (gi (si q7.2 15 2 (q6.1 + q7.1)) 65 2)))) 15 2) - (gi (si (si q7.2 15 2 (q6.1 + q7.1)) 15 3 (ai_max (0 : Int32) (((gi (si q7.2 15 2 (q6.1 + q7.1)) 65 1) + (gi (si q7.2 15 2 (q6.1 + q7.1)) 15 2)) - (gi (si q7.2 15 2 (q6.1 + q7.1)) 65 2)))) 15 3))))).bind fun q9 => (if q9 = 0 then (d_Wheel_pass_15_65_122 x3 q8 (si (si (si q7.2 15 2 (q6.1 + q7.1)) 15 3 (ai_max (0 : Int32) (((gi (si q7.2 15 2 (q6.1 + q7.1)) 65 1) + (gi (si q7.2 15 2 (q6.1 + q7.1)) 15 2)) - (gi (si q7.2 15 2 (q6.1 + q7.1)) 65 2)))) 65 1 ((gi (si (si q7.2 15 2 (q6.1 + q7.1)) 15 3 (ai_max (0 : Int32) (((gi (si q7.2 15 2 (q6.1 + q7.1)) 65 1) + (gi (si q7.2 15 2 (q6.1 + q7.1)) 15 2)) - (gi (si q7.2 15 2 (q6.1 + q7.1)) 65 2)))) 65 1) + ((gi (si (si q7.2 15 2 (q6.1 + q7.1)) 15 3 (ai_max (0 : Int32) (((gi (si q7.2 15 2 (q6.1 + q7.1)) 65 1) + (gi (si q7.2 15 2 (q6.1 + q7.1)) 15 2)) - (gi (si q7.2 15 2 (q6.1 + q7.1)) 65 2)))) 15 2) - (gi (si (si q7.2 15 2 (q6.1 + q7.1)) 15 3 (ai_max (0 : Int32) (((gi (si q7.2 15 2 (q6.1 + q7.1)) 65 1) + (gi (si q7.2 15 2 (q6.1 + q7.1)) 15 2)) - (gi (si q7.2 15 2 (q6.1 + q7.1)) 65 2)))) 15 3))))) else (if ai_in x2 6 then (if ai_in x2 6 then (d_Wheel_pass_15_65_122 x3 q8 (sa (si (si (si q7.2 15 2 (q6.1 + q7.1)) 15 3 (ai_max (0 : Int32) (((gi (si q7.2 15 2 (q6.1 + q7.1)) 65 1) + (gi (si q7.2 15 2 (q6.1 + q7.1)) 15 2)) - (gi (si q7.2 15 2 (q6.1 + q7.1)) 65 2)))) 65 1 ((gi (si (si q7.2 15 2 (q6.1 + q7.1)) 15 3 (ai_max (0 : Int32) (((gi (si q7.2 15 2 (q6.1 + q7.1)) 65 1) + (gi (si q7.2 15 2 (q6.1 + q7.1)) 15 2)) - (gi (si q7.2 15 2 (q6.1 + q7.1)) 65 2)))) 65 1) + ((gi (si (si q7.2 15 2 (q6.1 + q7.1)) 15 3 (ai_max (0 : Int32) (((gi (si q7.2 15 2 (q6.1 + q7.1)) 65 1) + (gi (si q7.2 15 2 (q6.1 + q7.1)) 15 2)) - (gi (si q7.2 15 2 (q6.1 + q7.1)) 65 2)))) 15 2) - (gi (si (si q7.2 15 2 (q6.1 + q7.1)) 15 3 (ai_max (0 : Int32) (((gi (si q7.2 15 2 (q6.1 + q7.1)) 65 1) + (gi (si q7.2 15 2 (q6.1 + q7.1)) 15 2)) - (gi (si q7.2 15 2 (q6.1 + q7.1)) 65 2)))) 15 3)))) 66 (x2).toNatClampNeg ((ga (si (si (si q7.2 15 2 (q6.1 + q7.1)) 15 3 (ai_max (0 : Int32) (((gi (si q7.2 15 2 (q6.1 + q7.1)) 65 1) + (gi (si q7.2 15 2 (q6.1 + q7.1)) 15 2)) - (gi (si q7.2 15 2 (q6.1 + q7.1)) 65 2)))) 65 1 ((gi (si (si q7.2 15 2 (q6.1 + q7.1)) 15 3 (ai_max (0 : Int32) (((gi (si q7.2 15 2 (q6.1 + q7.1)) 65 1) + (gi (si q7.2 15 2 (q6.1 + q7.1)) 15 2)) - (gi (si q7.2 15 2 (q6.1 + q7.1)) 65 2)))) 65 1) + ((gi (si (si q7.2 15 2 (q6.1 + q7.1)) 15 3 (ai_max (0 : Int32) (((gi (si q7.2 15 2 (q6.1 + q7.1)) 65 1) + (gi (si q7.2 15 2 (q6.1 + q7.1)) 15 2)) - (gi (si q7.2 15 2 (q6.1 + q7.1)) 65 2)))) 15 2) - (gi (si (si q7.2 15 2 (q6.1 + q7.1)) 15 3 (ai_max (0 : Int32) (((gi (si q7.2 15 2 (q6.1 + q7.1)) 65 1) + (gi (si q7.2 15 2 (q6.1 + q7.1)) 15 2)) - (gi (si q7.2 15 2 (q6.1 + q7.1)) 65 2)))) 15 3)))) 66 (x2).toNatClampNeg) - q8))) else none) else none))))))
set_option maxRecDepth 20000 in
theorem t_Wheel_pass_15_65 {X : ai_S} {e : Nat} (hd : 3 ≤ e) {x2 : Int32} {x3 : Int32} {V : ai_V} {r : ai_V} (h : d_Wheel_pass_15_65 x2 x3 V = some r) : Rn e 55 0 (lv_args 0 [.ref 15, .ref 65, .int x2, .int x3]) [] (SH ++ X) V none (SH ++ X) r := by
  rw [d_Wheel_pass_15_65] at h
  refine rn_go 1 (pc' := 1) (l' := [(0, .ref 15), (1, .ref 65), (2, .int x2), (3, .int x3)]) (st' := [.ref 65]) (S1 := (SH ++ X)) (V1 := V) rfl ?_
  obtain ⟨q5, hq5, h⟩ := ai_bd h
  refine rn_call rfl rfl rfl rfl rfl rfl (by omega) (t_State_quarterNow_65 (by omega) hq5) ?_
  refine rn_go 11 (pc' := 23) (l' := [(4, .int q5), (0, .ref 15), (1, .ref 65), (2, .int x2), (3, .int x3)]) (st' := [.int (gi V 3 2), .int q5, .int (gi V 65 1), .int x3, .int x2, .ref 15, .ref 15]) (S1 := (SH ++ X)) (V1 := V) rfl ?_
  obtain ⟨q6, hq6, h⟩ := ai_bd h
  refine rn_call rfl rfl rfl rfl rfl rfl (by omega) (t_Wheel_pails (by omega) hq6) ?_
  refine rn_go 9 (pc' := 42) (l' := [(4, .int q5), (0, .ref 15), (1, .ref 65), (2, .int x2), (3, .int x3)]) (st' := [.int (gi q6.2 3 2), .int q5, .int (gi q6.2 65 1), .int x2, .int x3, .ref 15, .int q6.1, .ref 15]) (S1 := (SH ++ X)) (V1 := q6.2) rfl ?_
  obtain ⟨q7, hq7, h⟩ := ai_bd h
  refine rn_call rfl rfl rfl rfl rfl rfl (by omega) (t_Wheel_pails (by omega) hq7) ?_
  refine rn_go 28 (pc' := 95) (l' := [(4, .int q5), (0, .ref 15), (1, .ref 65), (2, .int x2), (3, .int x3)]) (st' := [.int x3, .int x2, .ref 3]) (S1 := (SH ++ X)) (V1 := (si (si (si q7.2 15 2 (q6.1 + q7.1)) 15 3 (ai_max (0 : Int32) (((gi (si q7.2 15 2 (q6.1 + q7.1)) 65 1) + (gi (si q7.2 15 2 (q6.1 + q7.1)) 15 2)) - (gi (si q7.2 15 2 (q6.1 + q7.1)) 65 2)))) 65 1 ((gi (si (si q7.2 15 2 (q6.1 + q7.1)) 15 3 (ai_max (0 : Int32) (((gi (si q7.2 15 2 (q6.1 + q7.1)) 65 1) + (gi (si q7.2 15 2 (q6.1 + q7.1)) 15 2)) - (gi (si q7.2 15 2 (q6.1 + q7.1)) 65 2)))) 65 1) + ((gi (si (si q7.2 15 2 (q6.1 + q7.1)) 15 3 (ai_max (0 : Int32) (((gi (si q7.2 15 2 (q6.1 + q7.1)) 65 1) + (gi (si q7.2 15 2 (q6.1 + q7.1)) 15 2)) - (gi (si q7.2 15 2 (q6.1 + q7.1)) 65 2)))) 15 2) - (gi (si (si q7.2 15 2 (q6.1 + q7.1)) 15 3 (ai_max (0 : Int32) (((gi (si q7.2 15 2 (q6.1 + q7.1)) 65 1) + (gi (si q7.2 15 2 (q6.1 + q7.1)) 15 2)) - (gi (si q7.2 15 2 (q6.1 + q7.1)) 65 2)))) 15 3))))) rfl ?_
  obtain ⟨q8, hq8, h⟩ := ai_bd h
  refine rn_call rfl rfl rfl rfl rfl rfl (by omega) (t_House_turnsOf (by omega) hq8) ?_
  refine rn_go 4 (pc' := 105) (l' := [(5, .int q8), (4, .int q5), (0, .ref 15), (1, .ref 65), (2, .int x2), (3, .int x3)]) (st' := [.int x2, .ref 3]) (S1 := (SH ++ X)) (V1 := (si (si (si q7.2 15 2 (q6.1 + q7.1)) 15 3 (ai_max (0 : Int32) (((gi (si q7.2 15 2 (q6.1 + q7.1)) 65 1) + (gi (si q7.2 15 2 (q6.1 + q7.1)) 15 2)) - (gi (si q7.2 15 2 (q6.1 + q7.1)) 65 2)))) 65 1 ((gi (si (si q7.2 15 2 (q6.1 + q7.1)) 15 3 (ai_max (0 : Int32) (((gi (si q7.2 15 2 (q6.1 + q7.1)) 65 1) + (gi (si q7.2 15 2 (q6.1 + q7.1)) 15 2)) - (gi (si q7.2 15 2 (q6.1 + q7.1)) 65 2)))) 65 1) + ((gi (si (si q7.2 15 2 (q6.1 + q7.1)) 15 3 (ai_max (0 : Int32) (((gi (si q7.2 15 2 (q6.1 + q7.1)) 65 1) + (gi (si q7.2 15 2 (q6.1 + q7.1)) 15 2)) - (gi (si q7.2 15 2 (q6.1 + q7.1)) 65 2)))) 15 2) - (gi (si (si q7.2 15 2 (q6.1 + q7.1)) 15 3 (ai_max (0 : Int32) (((gi (si q7.2 15 2 (q6.1 + q7.1)) 65 1) + (gi (si q7.2 15 2 (q6.1 + q7.1)) 15 2)) - (gi (si q7.2 15 2 (q6.1 + q7.1)) 65 2)))) 15 3))))) rfl ?_
  obtain ⟨q9, hq9, h⟩ := ai_bd h
  refine rn_call rfl rfl rfl rfl rfl rfl (by omega) (t_House_has (by omega) hq9) ?_
  rcases ai_if h with ⟨hc, h⟩ | ⟨hc, h⟩
  · refine rn_brT rfl rfl rfl rfl hc ?_
    exact rn_sub [2, 3, 5, 0] rfl rfl (t_Wheel_pass_15_65_122 (X := X) hd x3 q8 (si (si (si q7.2 15 2 (q6.1 + q7.1)) 15 3 (ai_max (0 : Int32) (((gi (si q7.2 15 2 (q6.1 + q7.1)) 65 1) + (gi (si q7.2 15 2 (q6.1 + q7.1)) 15 2)) - (gi (si q7.2 15 2 (q6.1 + q7.1)) 65 2)))) 65 1 ((gi (si (si q7.2 15 2 (q6.1 + q7.1)) 15 3 (ai_max (0 : Int32) (((gi (si q7.2 15 2 (q6.1 + q7.1)) 65 1) + (gi (si q7.2 15 2 (q6.1 + q7.1)) 15 2)) - (gi (si q7.2 15 2 (q6.1 + q7.1)) 65 2)))) 65 1) + ((gi (si (si q7.2 15 2 (q6.1 + q7.1)) 15 3 (ai_max (0 : Int32) (((gi (si q7.2 15 2 (q6.1 + q7.1)) 65 1) + (gi (si q7.2 15 2 (q6.1 + q7.1)) 15 2)) - (gi (si q7.2 15 2 (q6.1 + q7.1)) 65 2)))) 15 2) - (gi (si (si q7.2 15 2 (q6.1 + q7.1)) 15 3 (ai_max (0 : Int32) (((gi (si q7.2 15 2 (q6.1 + q7.1)) 65 1) + (gi (si q7.2 15 2 (q6.1 + q7.1)) 15 2)) - (gi (si q7.2 15 2 (q6.1 + q7.1)) 65 2)))) 15 3)))) _ h)
  · refine rn_brF rfl rfl rfl rfl hc ?_
    refine rn_go 4 (pc' := 117) (l' := [(5, .int q8), (4, .int q5), (0, .ref 15), (1, .ref 65), (2, .int x2), (3, .int x3)]) (st' := [.int x2, .ref 66, .int x2, .ref 66]) (S1 := (SH ++ X)) (V1 := (si (si (si q7.2 15 2 (q6.1 + q7.1)) 15 3 (ai_max (0 : Int32) (((gi (si q7.2 15 2 (q6.1 + q7.1)) 65 1) + (gi (si q7.2 15 2 (q6.1 + q7.1)) 15 2)) - (gi (si q7.2 15 2 (q6.1 + q7.1)) 65 2)))) 65 1 ((gi (si (si q7.2 15 2 (q6.1 + q7.1)) 15 3 (ai_max (0 : Int32) (((gi (si q7.2 15 2 (q6.1 + q7.1)) 65 1) + (gi (si q7.2 15 2 (q6.1 + q7.1)) 15 2)) - (gi (si q7.2 15 2 (q6.1 + q7.1)) 65 2)))) 65 1) + ((gi (si (si q7.2 15 2 (q6.1 + q7.1)) 15 3 (ai_max (0 : Int32) (((gi (si q7.2 15 2 (q6.1 + q7.1)) 65 1) + (gi (si q7.2 15 2 (q6.1 + q7.1)) 15 2)) - (gi (si q7.2 15 2 (q6.1 + q7.1)) 65 2)))) 15 2) - (gi (si (si q7.2 15 2 (q6.1 + q7.1)) 15 3 (ai_max (0 : Int32) (((gi (si q7.2 15 2 (q6.1 + q7.1)) 65 1) + (gi (si q7.2 15 2 (q6.1 + q7.1)) 15 2)) - (gi (si q7.2 15 2 (q6.1 + q7.1)) 65 2)))) 15 3))))) rfl ?_
    obtain ⟨hg, h⟩ := ai_gd h
    refine rg_iald (n := 6) rfl rfl hg ?_
    refine rn_go 2 (pc' := 121) (l' := [(5, .int q8), (4, .int q5), (0, .ref 15), (1, .ref 65), (2, .int x2), (3, .int x3)]) (st' := [.int ((ga (si (si (si q7.2 15 2 (q6.1 + q7.1)) 15 3 (ai_max (0 : Int32) (((gi (si q7.2 15 2 (q6.1 + q7.1)) 65 1) + (gi (si q7.2 15 2 (q6.1 + q7.1)) 15 2)) - (gi (si q7.2 15 2 (q6.1 + q7.1)) 65 2)))) 65 1 ((gi (si (si q7.2 15 2 (q6.1 + q7.1)) 15 3 (ai_max (0 : Int32) (((gi (si q7.2 15 2 (q6.1 + q7.1)) 65 1) + (gi (si q7.2 15 2 (q6.1 + q7.1)) 15 2)) - (gi (si q7.2 15 2 (q6.1 + q7.1)) 65 2)))) 65 1) + ((gi (si (si q7.2 15 2 (q6.1 + q7.1)) 15 3 (ai_max (0 : Int32) (((gi (si q7.2 15 2 (q6.1 + q7.1)) 65 1) + (gi (si q7.2 15 2 (q6.1 + q7.1)) 15 2)) - (gi (si q7.2 15 2 (q6.1 + q7.1)) 65 2)))) 15 2) - (gi (si (si q7.2 15 2 (q6.1 + q7.1)) 15 3 (ai_max (0 : Int32) (((gi (si q7.2 15 2 (q6.1 + q7.1)) 65 1) + (gi (si q7.2 15 2 (q6.1 + q7.1)) 15 2)) - (gi (si q7.2 15 2 (q6.1 + q7.1)) 65 2)))) 15 3)))) 66 (x2).toNatClampNeg) - q8), .int x2, .ref 66]) (S1 := (SH ++ X)) (V1 := (si (si (si q7.2 15 2 (q6.1 + q7.1)) 15 3 (ai_max (0 : Int32) (((gi (si q7.2 15 2 (q6.1 + q7.1)) 65 1) + (gi (si q7.2 15 2 (q6.1 + q7.1)) 15 2)) - (gi (si q7.2 15 2 (q6.1 + q7.1)) 65 2)))) 65 1 ((gi (si (si q7.2 15 2 (q6.1 + q7.1)) 15 3 (ai_max (0 : Int32) (((gi (si q7.2 15 2 (q6.1 + q7.1)) 65 1) + (gi (si q7.2 15 2 (q6.1 + q7.1)) 15 2)) - (gi (si q7.2 15 2 (q6.1 + q7.1)) 65 2)))) 65 1) + ((gi (si (si q7.2 15 2 (q6.1 + q7.1)) 15 3 (ai_max (0 : Int32) (((gi (si q7.2 15 2 (q6.1 + q7.1)) 65 1) + (gi (si q7.2 15 2 (q6.1 + q7.1)) 15 2)) - (gi (si q7.2 15 2 (q6.1 + q7.1)) 65 2)))) 15 2) - (gi (si (si q7.2 15 2 (q6.1 + q7.1)) 15 3 (ai_max (0 : Int32) (((gi (si q7.2 15 2 (q6.1 + q7.1)) 65 1) + (gi (si q7.2 15 2 (q6.1 + q7.1)) 15 2)) - (gi (si q7.2 15 2 (q6.1 + q7.1)) 65 2)))) 15 3))))) rfl ?_
    obtain ⟨hg, h⟩ := ai_gd h
    refine rg_iast (n := 6) rfl rfl hg ?_
    exact rn_sub [2, 3, 5, 0] rfl rfl (t_Wheel_pass_15_65_122 (X := X) hd x3 q8 (sa (si (si (si q7.2 15 2 (q6.1 + q7.1)) 15 3 (ai_max (0 : Int32) (((gi (si q7.2 15 2 (q6.1 + q7.1)) 65 1) + (gi (si q7.2 15 2 (q6.1 + q7.1)) 15 2)) - (gi (si q7.2 15 2 (q6.1 + q7.1)) 65 2)))) 65 1 ((gi (si (si q7.2 15 2 (q6.1 + q7.1)) 15 3 (ai_max (0 : Int32) (((gi (si q7.2 15 2 (q6.1 + q7.1)) 65 1) + (gi (si q7.2 15 2 (q6.1 + q7.1)) 15 2)) - (gi (si q7.2 15 2 (q6.1 + q7.1)) 65 2)))) 65 1) + ((gi (si (si q7.2 15 2 (q6.1 + q7.1)) 15 3 (ai_max (0 : Int32) (((gi (si q7.2 15 2 (q6.1 + q7.1)) 65 1) + (gi (si q7.2 15 2 (q6.1 + q7.1)) 15 2)) - (gi (si q7.2 15 2 (q6.1 + q7.1)) 65 2)))) 15 2) - (gi (si (si q7.2 15 2 (q6.1 + q7.1)) 15 3 (ai_max (0 : Int32) (((gi (si q7.2 15 2 (q6.1 + q7.1)) 65 1) + (gi (si q7.2 15 2 (q6.1 + q7.1)) 15 2)) - (gi (si q7.2 15 2 (q6.1 + q7.1)) 65 2)))) 15 3)))) 66 (x2).toNatClampNeg ((ga (si (si (si q7.2 15 2 (q6.1 + q7.1)) 15 3 (ai_max (0 : Int32) (((gi (si q7.2 15 2 (q6.1 + q7.1)) 65 1) + (gi (si q7.2 15 2 (q6.1 + q7.1)) 15 2)) - (gi (si q7.2 15 2 (q6.1 + q7.1)) 65 2)))) 65 1 ((gi (si (si q7.2 15 2 (q6.1 + q7.1)) 15 3 (ai_max (0 : Int32) (((gi (si q7.2 15 2 (q6.1 + q7.1)) 65 1) + (gi (si q7.2 15 2 (q6.1 + q7.1)) 15 2)) - (gi (si q7.2 15 2 (q6.1 + q7.1)) 65 2)))) 65 1) + ((gi (si (si q7.2 15 2 (q6.1 + q7.1)) 15 3 (ai_max (0 : Int32) (((gi (si q7.2 15 2 (q6.1 + q7.1)) 65 1) + (gi (si q7.2 15 2 (q6.1 + q7.1)) 15 2)) - (gi (si q7.2 15 2 (q6.1 + q7.1)) 65 2)))) 15 2) - (gi (si (si q7.2 15 2 (q6.1 + q7.1)) 15 3 (ai_max (0 : Int32) (((gi (si q7.2 15 2 (q6.1 + q7.1)) 65 1) + (gi (si q7.2 15 2 (q6.1 + q7.1)) 15 2)) - (gi (si q7.2 15 2 (q6.1 + q7.1)) 65 2)))) 15 3)))) 66 (x2).toNatClampNeg) - q8)) _ h)
-- RentByTheWheel$Plan.costOf(III)I (64, None, None, None)
def d_Plan_costOf_114 (T : Int32 → Int32 → ai_V → Option (Int32 × ai_V))  (x1 : Int32) (s0 : Int32) (V : ai_V) : Option (Int32 × ai_V) :=
  (T (x1 + (1 : Int32)) (gi V 65 1) V).bind fun q1 => (some ((ai_min (1000000 : Int32) (s0 + q1.1)), q1.2))
set_option maxRecDepth 20000 in
theorem t_Plan_costOf_114 (T : Int32 → Int32 → ai_V → Option (Int32 × ai_V)) (DT : Nat) (hT : ∀ {X : ai_S} {e : Nat}, DT ≤ e → ∀ (x1 : Int32) (x2 : Int32) (V : ai_V) (r : (Int32 × ai_V)), T x1 x2 V = some r → Rn e 57 0 (lv_args 0 [.ref 64, .int x1, .int x2]) [] (SH ++ (kcost :: X)) V (some (.int r.1)) (SH ++ (kcost :: X)) r.2) {X : ai_S} {e : Nat} (hd : DT + 1 ≤ e ∧ 4 ≤ e)  (x1 : Int32) (s0 : Int32) (V : ai_V) (r : (Int32 × ai_V)) (h : d_Plan_costOf_114 T  x1 s0 V = some r) : Rn e 56 114 [(0, .ref 64), (1, .int x1)] [.int s0] (SH ++ (kcost :: X)) V (some (.int r.1)) (SH ++ (kcost :: X)) r.2 := by
  rw [d_Plan_costOf_114] at h
  refine rn_go 10 (pc' := 131) (l' := [(5, .int s0), (0, .ref 64), (1, .int x1)]) (st' := [.int (gi V 65 1), .int (x1 + (1 : Int32)), .ref 64, .int s0, .int (1000000 : Int32)]) (S1 := (SH ++ (kcost :: X))) (V1 := V) rfl ?_
  obtain ⟨q1, hq1, h⟩ := ai_bd h
  refine rn_call rfl rfl rfl rfl rfl rfl (by omega) (hT (by omega) (x1 + (1 : Int32)) (gi V 65 1) V _ hq1) ?_
  refine rn_go 2 (pc' := 138) (l' := [(5, .int s0), (0, .ref 64), (1, .int x1)]) (st' := [.int (ai_min (1000000 : Int32) (s0 + q1.1))]) (S1 := (SH ++ (kcost :: X))) (V1 := q1.2) rfl ?_
  obtain rfl := Option.some.inj h
  exact rn_ret rfl rfl rfl
def d_Plan_costOf_83 (T : Int32 → Int32 → ai_V → Option (Int32 × ai_V))  (x1 : Int32) (s0 : Int32) (V : ai_V) : Option (Int32 × ai_V) :=
  if (gi V 64 6) = 0 then (d_Plan_costOf_114 T x1 (((gi V 15 5) * (13 : Int32)) + s0) V) else (d_Plan_costOf_114 T x1 (s0 * (1000 : Int32)) V)
set_option maxRecDepth 20000 in
theorem t_Plan_costOf_83 (T : Int32 → Int32 → ai_V → Option (Int32 × ai_V)) (DT : Nat) (hT : ∀ {X : ai_S} {e : Nat}, DT ≤ e → ∀ (x1 : Int32) (x2 : Int32) (V : ai_V) (r : (Int32 × ai_V)), T x1 x2 V = some r → Rn e 57 0 (lv_args 0 [.ref 64, .int x1, .int x2]) [] (SH ++ (kcost :: X)) V (some (.int r.1)) (SH ++ (kcost :: X)) r.2) {X : ai_S} {e : Nat} (hd : DT + 1 ≤ e ∧ 4 ≤ e)  (x1 : Int32) (s0 : Int32) (V : ai_V) (r : (Int32 × ai_V)) (h : d_Plan_costOf_83 T  x1 s0 V = some r) : Rn e 56 83 [(0, .ref 64), (1, .int x1)] [.int s0] (SH ++ (kcost :: X)) V (some (.int r.1)) (SH ++ (kcost :: X)) r.2 := by
  rw [d_Plan_costOf_83] at h
  refine rn_go 3 (pc' := 89) (l' := [(4, .int s0), (0, .ref 64), (1, .int x1)]) (st' := [.int (gi V 64 6)]) (S1 := (SH ++ (kcost :: X))) (V1 := V) rfl ?_
  rcases ai_if h with ⟨hc, h⟩ | ⟨hc, h⟩
  · refine rn_brT rfl rfl rfl rfl hc ?_
    refine rn_go 7 (pc' := 114) (l' := [(4, .int s0), (0, .ref 64), (1, .int x1)]) (st' := [.int (((gi V 15 5) * (13 : Int32)) + s0)]) (S1 := (SH ++ (kcost :: X))) (V1 := V) rfl ?_
    exact rn_sub [1, 2] rfl rfl (t_Plan_costOf_114 T DT hT (X := X) hd x1 (((gi V 15 5) * (13 : Int32)) + s0) V _ h)
  · refine rn_brF rfl rfl rfl rfl hc ?_
    refine rn_go 4 (pc' := 114) (l' := [(4, .int s0), (0, .ref 64), (1, .int x1)]) (st' := [.int (s0 * (1000 : Int32))]) (S1 := (SH ++ (kcost :: X))) (V1 := V) rfl ?_
    exact rn_sub [1, 2] rfl rfl (t_Plan_costOf_114 T DT hT (X := X) hd x1 (s0 * (1000 : Int32)) V _ h)
def d_Plan_costOf_73 (T : Int32 → Int32 → ai_V → Option (Int32 × ai_V))  (x1 : Int32) (x3 : Int32) (V : ai_V) : Option (Int32 × ai_V) :=
  if ¬ x3 = (-1 : Int32) then (d_Plan_costOf_83 T x1 (1 : Int32) V) else (d_Plan_costOf_83 T x1 (0 : Int32) V)
set_option maxRecDepth 20000 in
theorem t_Plan_costOf_73 (T : Int32 → Int32 → ai_V → Option (Int32 × ai_V)) (DT : Nat) (hT : ∀ {X : ai_S} {e : Nat}, DT ≤ e → ∀ (x1 : Int32) (x2 : Int32) (V : ai_V) (r : (Int32 × ai_V)), T x1 x2 V = some r → Rn e 57 0 (lv_args 0 [.ref 64, .int x1, .int x2]) [] (SH ++ (kcost :: X)) V (some (.int r.1)) (SH ++ (kcost :: X)) r.2) {X : ai_S} {e : Nat} (hd : DT + 1 ≤ e ∧ 4 ≤ e)  (x1 : Int32) (x3 : Int32) (V : ai_V) (r : (Int32 × ai_V)) (h : d_Plan_costOf_73 T  x1 x3 V = some r) : Rn e 56 73 [(0, .ref 64), (1, .int x1), (3, .int x3)] [] (SH ++ (kcost :: X)) V (some (.int r.1)) (SH ++ (kcost :: X)) r.2 := by
  rw [d_Plan_costOf_73] at h
  refine rn_go 2 (pc' := 75) (l' := [(0, .ref 64), (1, .int x1), (3, .int x3)]) (st' := [.int (-1 : Int32), .int x3]) (S1 := (SH ++ (kcost :: X))) (V1 := V) rfl ?_
  rcases ai_if h with ⟨hc, h⟩ | ⟨hc, h⟩
  · refine rn_brT rfl rfl rfl rfl hc ?_
    refine rn_go 1 (pc' := 83) (l' := [(0, .ref 64), (1, .int x1), (3, .int x3)]) (st' := [.int (1 : Int32)]) (S1 := (SH ++ (kcost :: X))) (V1 := V) rfl ?_
    exact rn_sub [0, 1] rfl rfl (t_Plan_costOf_83 T DT hT (X := X) hd x1 (1 : Int32) V _ h)
  · refine rn_brF rfl rfl rfl rfl hc ?_
    refine rn_go 2 (pc' := 83) (l' := [(0, .ref 64), (1, .int x1), (3, .int x3)]) (st' := [.int (0 : Int32)]) (S1 := (SH ++ (kcost :: X))) (V1 := V) rfl ?_
    exact rn_sub [0, 1] rfl rfl (t_Plan_costOf_83 T DT hT (X := X) hd x1 (0 : Int32) V _ h)
def d_Plan_costOf_19 (T : Int32 → Int32 → ai_V → Option (Int32 × ai_V))  (x1 : Int32) (x2 : Int32) (x3 : Int32) (V : ai_V) : Option (Int32 × ai_V) :=
  (d_Wheel_pass_15_65 x3 (-1 : Int32) (si (si V 65 0 ((gi V 64 3) + x1)) 65 1 x2)).bind fun q2 => (if (gi q2 64 6) = 0 then (d_Plan_costOf_73 T x1 x3 q2) else (if (gi q2 15 5) ≤ 0 then (d_Plan_costOf_73 T x1 x3 q2) else (some ((1000000 : Int32), q2))))
set_option maxRecDepth 20000 in
theorem t_Plan_costOf_19 (T : Int32 → Int32 → ai_V → Option (Int32 × ai_V)) (DT : Nat) (hT : ∀ {X : ai_S} {e : Nat}, DT ≤ e → ∀ (x1 : Int32) (x2 : Int32) (V : ai_V) (r : (Int32 × ai_V)), T x1 x2 V = some r → Rn e 57 0 (lv_args 0 [.ref 64, .int x1, .int x2]) [] (SH ++ (kcost :: X)) V (some (.int r.1)) (SH ++ (kcost :: X)) r.2) {X : ai_S} {e : Nat} (hd : DT + 1 ≤ e ∧ 4 ≤ e)  (x1 : Int32) (x2 : Int32) (x3 : Int32) (V : ai_V) (r : (Int32 × ai_V)) (h : d_Plan_costOf_19 T  x1 x2 x3 V = some r) : Rn e 56 19 [(0, .ref 64), (1, .int x1), (2, .int x2), (3, .int x3)] [] (SH ++ (kcost :: X)) V (some (.int r.1)) (SH ++ (kcost :: X)) r.2 := by
  rw [d_Plan_costOf_19] at h
  refine rn_go 17 (pc' := 50) (l' := [(0, .ref 64), (1, .int x1), (2, .int x2), (3, .int x3)]) (st' := [.int (-1 : Int32), .int x3, .ref 65, .ref 15]) (S1 := (SH ++ (kcost :: X))) (V1 := (si (si V 65 0 ((gi V 64 3) + x1)) 65 1 x2)) rfl ?_
  obtain ⟨q2, hq2, h⟩ := ai_bd h
  refine rn_call rfl rfl rfl rfl rfl rfl (by omega) (t_Wheel_pass_15_65 (by omega) hq2) ?_
  refine rn_go 2 (pc' := 57) (l' := [(0, .ref 64), (1, .int x1), (2, .int x2), (3, .int x3)]) (st' := [.int (gi q2 64 6)]) (S1 := (SH ++ (kcost :: X))) (V1 := q2) rfl ?_
  rcases ai_if h with ⟨hc, h⟩ | ⟨hc, h⟩
  · refine rn_brT rfl rfl rfl rfl hc ?_
    exact rn_sub [0, 1, 3] rfl rfl (t_Plan_costOf_73 T DT hT (X := X) hd x1 x3 q2 _ h)
  · refine rn_brF rfl rfl rfl rfl hc ?_
    refine rn_go 3 (pc' := 67) (l' := [(0, .ref 64), (1, .int x1), (2, .int x2), (3, .int x3)]) (st' := [.int (gi q2 15 5)]) (S1 := (SH ++ (kcost :: X))) (V1 := q2) rfl ?_
    rcases ai_if h with ⟨hc, h⟩ | ⟨hc, h⟩
    · refine rn_brT rfl rfl rfl rfl hc ?_
      exact rn_sub [0, 1, 3] rfl rfl (t_Plan_costOf_73 T DT hT (X := X) hd x1 x3 q2 _ h)
    · refine rn_brF rfl rfl rfl rfl hc ?_
      refine rn_go 1 (pc' := 72) (l' := [(0, .ref 64), (1, .int x1), (2, .int x2), (3, .int x3)]) (st' := [.int (1000000 : Int32)]) (S1 := (SH ++ (kcost :: X))) (V1 := q2) rfl ?_
      obtain rfl := Option.some.inj h
      exact rn_ret rfl rfl rfl
def d_Plan_costOf_B (T : Int32 → Int32 → ai_V → Option (Int32 × ai_V)) (x1 : Int32) (x2 : Int32) (x3 : Int32) (V : ai_V) : Option (Int32 × ai_V) :=
  if x3 = (-1 : Int32) then (d_Plan_costOf_19 T x1 x2 x3 V) else (if ¬ (((gi V 64 4) >>> (x3 &&& 31)) &&& (1 : Int32)) = 0 then (d_Plan_costOf_19 T x1 x2 x3 V) else (some ((1000000 : Int32), V)))
set_option maxRecDepth 20000 in
theorem t_Plan_costOf_B (T : Int32 → Int32 → ai_V → Option (Int32 × ai_V)) (DT : Nat) (hT : ∀ {X : ai_S} {e : Nat}, DT ≤ e → ∀ (x1 : Int32) (x2 : Int32) (V : ai_V) (r : (Int32 × ai_V)), T x1 x2 V = some r → Rn e 57 0 (lv_args 0 [.ref 64, .int x1, .int x2]) [] (SH ++ (kcost :: X)) V (some (.int r.1)) (SH ++ (kcost :: X)) r.2) {X : ai_S} {e : Nat} (hd : DT + 1 ≤ e ∧ 4 ≤ e) {x1 : Int32} {x2 : Int32} {x3 : Int32} {V : ai_V} {r : (Int32 × ai_V)} (h : d_Plan_costOf_B T x1 x2 x3 V = some r) : Rn e 56 0 (lv_args 0 [.ref 64, .int x1, .int x2, .int x3]) [] (SH ++ (kcost :: X)) V (some (.int r.1)) (SH ++ (kcost :: X)) r.2 := by
  rw [d_Plan_costOf_B] at h
  refine rn_go 2 (pc' := 2) (l' := [(0, .ref 64), (1, .int x1), (2, .int x2), (3, .int x3)]) (st' := [.int (-1 : Int32), .int x3]) (S1 := (SH ++ (kcost :: X))) (V1 := V) rfl ?_
  rcases ai_if h with ⟨hc, h⟩ | ⟨hc, h⟩
  · refine rn_brT rfl rfl rfl rfl hc ?_
    exact rn_sub [0, 1, 2, 3] rfl rfl (t_Plan_costOf_19 T DT hT (X := X) hd x1 x2 x3 V _ h)
  · refine rn_brF rfl rfl rfl rfl hc ?_
    refine rn_go 6 (pc' := 13) (l' := [(0, .ref 64), (1, .int x1), (2, .int x2), (3, .int x3)]) (st' := [.int (((gi V 64 4) >>> (x3 &&& 31)) &&& (1 : Int32))]) (S1 := (SH ++ (kcost :: X))) (V1 := V) rfl ?_
    rcases ai_if h with ⟨hc, h⟩ | ⟨hc, h⟩
    · refine rn_brT rfl rfl rfl rfl hc ?_
      exact rn_sub [0, 1, 2, 3] rfl rfl (t_Plan_costOf_19 T DT hT (X := X) hd x1 x2 x3 V _ h)
    · refine rn_brF rfl rfl rfl rfl hc ?_
      refine rn_go 1 (pc' := 18) (l' := [(0, .ref 64), (1, .int x1), (2, .int x2), (3, .int x3)]) (st' := [.int (1000000 : Int32)]) (S1 := (SH ++ (kcost :: X))) (V1 := V) rfl ?_
      obtain rfl := Option.some.inj h
      exact rn_ret rfl rfl rfl
-- RentByTheWheel$Plan.leastFrom(II)I (64, None, None)
def d_Plan_leastFrom_52 (T : Int32 → Int32 → ai_V → Option (Int32 × ai_V))   (V : ai_V) : Option (Int32 × ai_V) :=
  some ((1000000 : Int32), V)
set_option maxRecDepth 20000 in
theorem t_Plan_leastFrom_52 (T : Int32 → Int32 → ai_V → Option (Int32 × ai_V)) (DT : Nat) (hT : ∀ {X : ai_S} {e : Nat}, DT ≤ e → ∀ (x1 : Int32) (x2 : Int32) (V : ai_V) (r : (Int32 × ai_V)), T x1 x2 V = some r → Rn e 57 0 (lv_args 0 [.ref 64, .int x1, .int x2]) [] (SH ++ (kcost :: X)) V (some (.int r.1)) (SH ++ (kcost :: X)) r.2) {X : ai_S} {e : Nat} (hd : DT + 2 ≤ e ∧ 5 ≤ e)   (V : ai_V) (r : (Int32 × ai_V)) (h : d_Plan_leastFrom_52 T   V = some r) : Rn e 57 52 [] [] (SH ++ (kcost :: X)) V (some (.int r.1)) (SH ++ (kcost :: X)) r.2 := by
  rw [d_Plan_leastFrom_52] at h
  refine rn_go 1 (pc' := 54) (l' := []) (st' := [.int (1000000 : Int32)]) (S1 := (SH ++ (kcost :: X))) (V1 := V) rfl ?_
  obtain rfl := Option.some.inj h
  exact rn_ret rfl rfl rfl
def d_Plan_leastFrom_136 (T : Int32 → Int32 → ai_V → Option (Int32 × ai_V))  (x3 : Int32) (V : ai_V) : Option (Int32 × ai_V) :=
  if gr V 64 2 = some 119 then (if ai_in x3 12000 then (some ((ga V 119 (x3).toNatClampNeg), V)) else none) else (none)
set_option maxRecDepth 20000 in
theorem t_Plan_leastFrom_136 (T : Int32 → Int32 → ai_V → Option (Int32 × ai_V)) (DT : Nat) (hT : ∀ {X : ai_S} {e : Nat}, DT ≤ e → ∀ (x1 : Int32) (x2 : Int32) (V : ai_V) (r : (Int32 × ai_V)), T x1 x2 V = some r → Rn e 57 0 (lv_args 0 [.ref 64, .int x1, .int x2]) [] (SH ++ (kcost :: X)) V (some (.int r.1)) (SH ++ (kcost :: X)) r.2) {X : ai_S} {e : Nat} (hd : DT + 2 ≤ e ∧ 5 ≤ e)  (x3 : Int32) (V : ai_V) (r : (Int32 × ai_V)) (h : d_Plan_leastFrom_136 T  x3 V = some r) : Rn e 57 136 [(0, .ref 64), (3, .int x3)] [] (SH ++ (kcost :: X)) V (some (.int r.1)) (SH ++ (kcost :: X)) r.2 := by
  rw [d_Plan_leastFrom_136] at h
  refine rn_go 1 (pc' := 137) (l' := [(0, .ref 64), (3, .int x3)]) (st' := [.ref 64]) (S1 := (SH ++ (kcost :: X))) (V1 := V) rfl ?_
  rcases ai_if h with ⟨hc, h⟩ | ⟨hc, h⟩
  · refine rg_gfr (z := 0) rfl rfl rfl hc ?_
    refine rn_go 1 (pc' := 141) (l' := [(0, .ref 64), (3, .int x3)]) (st' := [.int x3, .ref 119]) (S1 := (SH ++ (kcost :: X))) (V1 := V) rfl ?_
    obtain ⟨hg, h⟩ := ai_gd h
    refine rg_iald (n := 12000) rfl rfl hg ?_
    obtain rfl := Option.some.inj h
    exact rn_ret rfl rfl rfl
  · cases h
def d_Plan_leastFrom_128 (T : Int32 → Int32 → ai_V → Option (Int32 × ai_V))  (x3 : Int32) (x4 : Int32) (V : ai_V) : Option (Int32 × ai_V) :=
  if gr V 64 2 = some 119 then (if ai_in x3 12000 then (d_Plan_leastFrom_136 T x3 (sa V 119 (x3).toNatClampNeg x4)) else none) else (none)
set_option maxRecDepth 20000 in
theorem t_Plan_leastFrom_128 (T : Int32 → Int32 → ai_V → Option (Int32 × ai_V)) (DT : Nat) (hT : ∀ {X : ai_S} {e : Nat}, DT ≤ e → ∀ (x1 : Int32) (x2 : Int32) (V : ai_V) (r : (Int32 × ai_V)), T x1 x2 V = some r → Rn e 57 0 (lv_args 0 [.ref 64, .int x1, .int x2]) [] (SH ++ (kcost :: X)) V (some (.int r.1)) (SH ++ (kcost :: X)) r.2) {X : ai_S} {e : Nat} (hd : DT + 2 ≤ e ∧ 5 ≤ e)  (x3 : Int32) (x4 : Int32) (V : ai_V) (r : (Int32 × ai_V)) (h : d_Plan_leastFrom_128 T  x3 x4 V = some r) : Rn e 57 128 [(0, .ref 64), (3, .int x3), (4, .int x4)] [] (SH ++ (kcost :: X)) V (some (.int r.1)) (SH ++ (kcost :: X)) r.2 := by
  rw [d_Plan_leastFrom_128] at h
  refine rn_go 1 (pc' := 129) (l' := [(0, .ref 64), (3, .int x3), (4, .int x4)]) (st' := [.ref 64]) (S1 := (SH ++ (kcost :: X))) (V1 := V) rfl ?_
  rcases ai_if h with ⟨hc, h⟩ | ⟨hc, h⟩
  · refine rg_gfr (z := 0) rfl rfl rfl hc ?_
    refine rn_go 2 (pc' := 135) (l' := [(0, .ref 64), (3, .int x3), (4, .int x4)]) (st' := [.int x4, .int x3, .ref 119]) (S1 := (SH ++ (kcost :: X))) (V1 := V) rfl ?_
    obtain ⟨hg, h⟩ := ai_gd h
    refine rg_iast (n := 12000) rfl rfl hg ?_
    exact rn_sub [0, 1] rfl rfl (t_Plan_leastFrom_136 T DT hT (X := X) hd x3 (sa V 119 (x3).toNatClampNeg x4) _ h)
  · cases h
def d_Plan_leastFrom_93 (T : Int32 → Int32 → ai_V → Option (Int32 × ai_V))  : Nat → Int32 → Int32 → Int32 → Int32 → Int32 → Int32 → ai_V → Option (Int32 × ai_V)
  | 0, _, _, _, _, _, _, _ => none
  | n + 1, x1, x2, x3, x4, x5, x6, V => if (6 : Int32) ≤ x6 then (d_Plan_leastFrom_128 T x3 x4 V) else (if x4 ≤ x5 then (d_Plan_leastFrom_128 T x3 x4 V) else ((d_Plan_costOf_B T x1 x2 x6 V).bind fun q1 => (d_Plan_leastFrom_93 T n x1 x2 x3 (ai_min x4 q1.1) x5 (x6 + (1 : Int32)) q1.2)))
set_option maxRecDepth 20000 in
theorem t_Plan_leastFrom_93 (T : Int32 → Int32 → ai_V → Option (Int32 × ai_V)) (DT : Nat) (hT : ∀ {X : ai_S} {e : Nat}, DT ≤ e → ∀ (x1 : Int32) (x2 : Int32) (V : ai_V) (r : (Int32 × ai_V)), T x1 x2 V = some r → Rn e 57 0 (lv_args 0 [.ref 64, .int x1, .int x2]) [] (SH ++ (kcost :: X)) V (some (.int r.1)) (SH ++ (kcost :: X)) r.2) {X : ai_S} {e : Nat} (hd : DT + 2 ≤ e ∧ 5 ≤ e)  : ∀ (n : Nat) (x1 : Int32) (x2 : Int32) (x3 : Int32) (x4 : Int32) (x5 : Int32) (x6 : Int32) (V : ai_V) (r : (Int32 × ai_V)), d_Plan_leastFrom_93 T  n x1 x2 x3 x4 x5 x6 V = some r → Rn e 57 93 [(0, .ref 64), (1, .int x1), (2, .int x2), (3, .int x3), (4, .int x4), (5, .int x5), (6, .int x6)] [] (SH ++ (kcost :: X)) V (some (.int r.1)) (SH ++ (kcost :: X)) r.2 := by
  intro n
  induction n with
  | zero =>
    intro x1 x2 x3 x4 x5 x6 V r h
    cases h
  | succ n ih =>
    intro x1 x2 x3 x4 x5 x6 V r h
    rw [d_Plan_leastFrom_93] at h
    refine rn_go 2 (pc' := 97) (l' := [(0, .ref 64), (1, .int x1), (2, .int x2), (3, .int x3), (4, .int x4), (5, .int x5), (6, .int x6)]) (st' := [.int (6 : Int32), .int x6]) (S1 := (SH ++ (kcost :: X))) (V1 := V) rfl ?_
    rcases ai_if h with ⟨hc, h⟩ | ⟨hc, h⟩
    · refine rn_brT rfl rfl rfl rfl hc ?_
      exact rn_sub [0, 3, 4] rfl rfl (t_Plan_leastFrom_128 T DT hT (X := X) hd x3 x4 V _ h)
    · refine rn_brF rfl rfl rfl rfl hc ?_
      refine rn_go 2 (pc' := 104) (l' := [(0, .ref 64), (1, .int x1), (2, .int x2), (3, .int x3), (4, .int x4), (5, .int x5), (6, .int x6)]) (st' := [.int x5, .int x4]) (S1 := (SH ++ (kcost :: X))) (V1 := V) rfl ?_
      rcases ai_if h with ⟨hc, h⟩ | ⟨hc, h⟩
      · refine rn_brT rfl rfl rfl rfl hc ?_
        exact rn_sub [0, 3, 4] rfl rfl (t_Plan_leastFrom_128 T DT hT (X := X) hd x3 x4 V _ h)
      · refine rn_brF rfl rfl rfl rfl hc ?_
        refine rn_go 5 (pc' := 114) (l' := [(0, .ref 64), (1, .int x1), (2, .int x2), (3, .int x3), (4, .int x4), (5, .int x5), (6, .int x6)]) (st' := [.int x6, .int x2, .int x1, .ref 64, .int x4]) (S1 := (SH ++ (kcost :: X))) (V1 := V) rfl ?_
        obtain ⟨q1, hq1, h⟩ := ai_bd h
        refine rn_call rfl rfl rfl rfl rfl rfl (by omega) (t_Plan_costOf_B T DT hT (by omega) hq1) ?_
        refine rn_go 4 (pc' := 93) (l' := [(6, .int (x6 + (1 : Int32))), (4, .int (ai_min x4 q1.1)), (0, .ref 64), (1, .int x1), (2, .int x2), (3, .int x3), (5, .int x5)]) (st' := []) (S1 := (SH ++ (kcost :: X))) (V1 := q1.2) rfl ?_
        exact rn_sub [2, 3, 4, 5, 1, 6, 0] rfl rfl (ih x1 x2 x3 (ai_min x4 q1.1) x5 (x6 + (1 : Int32)) q1.2 _ h)
def d_Plan_leastFrom_88 (T : Int32 → Int32 → ai_V → Option (Int32 × ai_V))  (x1 : Int32) (x2 : Int32) (x3 : Int32) (x4 : Int32) (s0 : Int32) (V : ai_V) : Option (Int32 × ai_V) :=
  d_Plan_leastFrom_93 T ai_N x1 x2 x3 x4 s0 (0 : Int32) V
set_option maxRecDepth 20000 in
theorem t_Plan_leastFrom_88 (T : Int32 → Int32 → ai_V → Option (Int32 × ai_V)) (DT : Nat) (hT : ∀ {X : ai_S} {e : Nat}, DT ≤ e → ∀ (x1 : Int32) (x2 : Int32) (V : ai_V) (r : (Int32 × ai_V)), T x1 x2 V = some r → Rn e 57 0 (lv_args 0 [.ref 64, .int x1, .int x2]) [] (SH ++ (kcost :: X)) V (some (.int r.1)) (SH ++ (kcost :: X)) r.2) {X : ai_S} {e : Nat} (hd : DT + 2 ≤ e ∧ 5 ≤ e)  (x1 : Int32) (x2 : Int32) (x3 : Int32) (x4 : Int32) (s0 : Int32) (V : ai_V) (r : (Int32 × ai_V)) (h : d_Plan_leastFrom_88 T  x1 x2 x3 x4 s0 V = some r) : Rn e 57 88 [(0, .ref 64), (1, .int x1), (2, .int x2), (3, .int x3), (4, .int x4)] [.int s0] (SH ++ (kcost :: X)) V (some (.int r.1)) (SH ++ (kcost :: X)) r.2 := by
  rw [d_Plan_leastFrom_88] at h
  refine rn_go 3 (pc' := 93) (l' := [(6, .int (0 : Int32)), (5, .int s0), (0, .ref 64), (1, .int x1), (2, .int x2), (3, .int x3), (4, .int x4)]) (st' := []) (S1 := (SH ++ (kcost :: X))) (V1 := V) rfl ?_
  exact rn_sub [2, 3, 4, 5, 6, 1, 0] rfl rfl (t_Plan_leastFrom_93 T DT hT (X := X) hd ai_N x1 x2 x3 x4 s0 (0 : Int32) V _ h)
def d_Plan_leastFrom_B (T : Int32 → Int32 → ai_V → Option (Int32 × ai_V)) (x1 : Int32) (x2 : Int32) (V : ai_V) : Option (Int32 × ai_V) :=
  if x1 < (gi V 64 5) then (if ((x1 * ((gi V 65 2) + (1 : Int32))) + x2) < 0 then (d_Plan_leastFrom_52 T V) else (if gr V 64 2 = some 119 then (if ((x1 * ((gi V 65 2) + (1 : Int32))) + x2) < (Int32.ofNat 12000) then (if gr V 64 2 = some 119 then (if ai_in ((x1 * ((gi V 65 2) + (1 : Int32))) + x2) 12000 then (if ¬ (ga V 119 (((x1 * ((gi V 65 2) + (1 : Int32))) + x2)).toNatClampNeg) = (-1 : Int32) then (d_Plan_leastFrom_136 T ((x1 * ((gi V 65 2) + (1 : Int32))) + x2) V) else ((d_Plan_costOf_B T x1 x2 (-1 : Int32) V).bind fun q2 => (if (gi q2.2 64 6) = 0 then (d_Plan_leastFrom_88 T x1 x2 ((x1 * ((gi V 65 2) + (1 : Int32))) + x2) q2.1 (1 : Int32) q2.2) else (d_Plan_leastFrom_88 T x1 x2 ((x1 * ((gi V 65 2) + (1 : Int32))) + x2) q2.1 (1000 : Int32) q2.2)))) else none) else (none)) else (d_Plan_leastFrom_52 T V)) else (none))) else (if (gi V 64 6) = 0 then (some ((0 : Int32), V)) else (some (((999 : Int32) - x2), V)))
set_option maxRecDepth 20000 in
theorem t_Plan_leastFrom_B (T : Int32 → Int32 → ai_V → Option (Int32 × ai_V)) (DT : Nat) (hT : ∀ {X : ai_S} {e : Nat}, DT ≤ e → ∀ (x1 : Int32) (x2 : Int32) (V : ai_V) (r : (Int32 × ai_V)), T x1 x2 V = some r → Rn e 57 0 (lv_args 0 [.ref 64, .int x1, .int x2]) [] (SH ++ (kcost :: X)) V (some (.int r.1)) (SH ++ (kcost :: X)) r.2) {X : ai_S} {e : Nat} (hd : DT + 2 ≤ e ∧ 5 ≤ e) {x1 : Int32} {x2 : Int32} {V : ai_V} {r : (Int32 × ai_V)} (h : d_Plan_leastFrom_B T x1 x2 V = some r) : Rn e 57 0 (lv_args 0 [.ref 64, .int x1, .int x2]) [] (SH ++ (kcost :: X)) V (some (.int r.1)) (SH ++ (kcost :: X)) r.2 := by
  rw [d_Plan_leastFrom_B] at h
  refine rn_go 3 (pc' := 5) (l' := [(0, .ref 64), (1, .int x1), (2, .int x2)]) (st' := [.int (gi V 64 5), .int x1]) (S1 := (SH ++ (kcost :: X))) (V1 := V) rfl ?_
  rcases ai_if h with ⟨hc, h⟩ | ⟨hc, h⟩
  · refine rn_brT rfl rfl rfl rfl hc ?_
    refine rn_go 11 (pc' := 40) (l' := [(3, .int ((x1 * ((gi V 65 2) + (1 : Int32))) + x2)), (0, .ref 64), (1, .int x1), (2, .int x2)]) (st' := [.int ((x1 * ((gi V 65 2) + (1 : Int32))) + x2)]) (S1 := (SH ++ (kcost :: X))) (V1 := V) rfl ?_
    rcases ai_if h with ⟨hc, h⟩ | ⟨hc, h⟩
    · refine rn_brT rfl rfl rfl rfl hc ?_
      exact rn_sub [] rfl rfl (t_Plan_leastFrom_52 T DT hT (X := X) hd V _ h)
    · refine rn_brF rfl rfl rfl rfl hc ?_
      refine rn_go 2 (pc' := 45) (l' := [(3, .int ((x1 * ((gi V 65 2) + (1 : Int32))) + x2)), (0, .ref 64), (1, .int x1), (2, .int x2)]) (st' := [.ref 64, .int ((x1 * ((gi V 65 2) + (1 : Int32))) + x2)]) (S1 := (SH ++ (kcost :: X))) (V1 := V) rfl ?_
      rcases ai_if h with ⟨hc, h⟩ | ⟨hc, h⟩
      · refine rg_gfr (z := 0) rfl rfl rfl hc ?_
        refine rn_go 1 (pc' := 49) (l' := [(3, .int ((x1 * ((gi V 65 2) + (1 : Int32))) + x2)), (0, .ref 64), (1, .int x1), (2, .int x2)]) (st' := [.int (Int32.ofNat 12000), .int ((x1 * ((gi V 65 2) + (1 : Int32))) + x2)]) (S1 := (SH ++ (kcost :: X))) (V1 := V) rfl ?_
        rcases ai_if h with ⟨hc, h⟩ | ⟨hc, h⟩
        · refine rn_brT rfl rfl rfl rfl hc ?_
          refine rn_go 1 (pc' := 56) (l' := [(3, .int ((x1 * ((gi V 65 2) + (1 : Int32))) + x2)), (0, .ref 64), (1, .int x1), (2, .int x2)]) (st' := [.ref 64]) (S1 := (SH ++ (kcost :: X))) (V1 := V) rfl ?_
          rcases ai_if h with ⟨hc, h⟩ | ⟨hc, h⟩
          · refine rg_gfr (z := 0) rfl rfl rfl hc ?_
            refine rn_go 1 (pc' := 60) (l' := [(3, .int ((x1 * ((gi V 65 2) + (1 : Int32))) + x2)), (0, .ref 64), (1, .int x1), (2, .int x2)]) (st' := [.int ((x1 * ((gi V 65 2) + (1 : Int32))) + x2), .ref 119]) (S1 := (SH ++ (kcost :: X))) (V1 := V) rfl ?_
            obtain ⟨hg, h⟩ := ai_gd h
            refine rg_iald (n := 12000) rfl rfl hg ?_
            refine rn_go 1 (pc' := 62) (l' := [(3, .int ((x1 * ((gi V 65 2) + (1 : Int32))) + x2)), (0, .ref 64), (1, .int x1), (2, .int x2)]) (st' := [.int (-1 : Int32), .int (ga V 119 (((x1 * ((gi V 65 2) + (1 : Int32))) + x2)).toNatClampNeg)]) (S1 := (SH ++ (kcost :: X))) (V1 := V) rfl ?_
            rcases ai_if h with ⟨hc, h⟩ | ⟨hc, h⟩
            · refine rn_brT rfl rfl rfl rfl hc ?_
              exact rn_sub [1, 0] rfl rfl (t_Plan_leastFrom_136 T DT hT (X := X) hd ((x1 * ((gi V 65 2) + (1 : Int32))) + x2) V _ h)
            · refine rn_brF rfl rfl rfl rfl hc ?_
              refine rn_go 4 (pc' := 69) (l' := [(3, .int ((x1 * ((gi V 65 2) + (1 : Int32))) + x2)), (0, .ref 64), (1, .int x1), (2, .int x2)]) (st' := [.int (-1 : Int32), .int x2, .int x1, .ref 64]) (S1 := (SH ++ (kcost :: X))) (V1 := V) rfl ?_
              obtain ⟨q2, hq2, h⟩ := ai_bd h
              refine rn_call rfl rfl rfl rfl rfl rfl (by omega) (t_Plan_costOf_B T DT hT (by omega) hq2) ?_
              refine rn_go 3 (pc' := 78) (l' := [(4, .int q2.1), (3, .int ((x1 * ((gi V 65 2) + (1 : Int32))) + x2)), (0, .ref 64), (1, .int x1), (2, .int x2)]) (st' := [.int (gi q2.2 64 6)]) (S1 := (SH ++ (kcost :: X))) (V1 := q2.2) rfl ?_
              rcases ai_if h with ⟨hc, h⟩ | ⟨hc, h⟩
              · refine rn_brT rfl rfl rfl rfl hc ?_
                refine rn_go 1 (pc' := 88) (l' := [(4, .int q2.1), (3, .int ((x1 * ((gi V 65 2) + (1 : Int32))) + x2)), (0, .ref 64), (1, .int x1), (2, .int x2)]) (st' := [.int (1 : Int32)]) (S1 := (SH ++ (kcost :: X))) (V1 := q2.2) rfl ?_
                exact rn_sub [2, 3, 4, 1, 0] rfl rfl (t_Plan_leastFrom_88 T DT hT (X := X) hd x1 x2 ((x1 * ((gi V 65 2) + (1 : Int32))) + x2) q2.1 (1 : Int32) q2.2 _ h)
              · refine rn_brF rfl rfl rfl rfl hc ?_
                refine rn_go 2 (pc' := 88) (l' := [(4, .int q2.1), (3, .int ((x1 * ((gi V 65 2) + (1 : Int32))) + x2)), (0, .ref 64), (1, .int x1), (2, .int x2)]) (st' := [.int (1000 : Int32)]) (S1 := (SH ++ (kcost :: X))) (V1 := q2.2) rfl ?_
                exact rn_sub [2, 3, 4, 1, 0] rfl rfl (t_Plan_leastFrom_88 T DT hT (X := X) hd x1 x2 ((x1 * ((gi V 65 2) + (1 : Int32))) + x2) q2.1 (1000 : Int32) q2.2 _ h)
          · cases h
        · refine rn_brF rfl rfl rfl rfl hc ?_
          exact rn_sub [] rfl rfl (t_Plan_leastFrom_52 T DT hT (X := X) hd V _ h)
      · cases h
  · refine rn_brF rfl rfl rfl rfl hc ?_
    refine rn_go 2 (pc' := 12) (l' := [(0, .ref 64), (1, .int x1), (2, .int x2)]) (st' := [.int (gi V 64 6)]) (S1 := (SH ++ (kcost :: X))) (V1 := V) rfl ?_
    rcases ai_if h with ⟨hc, h⟩ | ⟨hc, h⟩
    · refine rn_brT rfl rfl rfl rfl hc ?_
      refine rn_go 1 (pc' := 24) (l' := [(0, .ref 64), (1, .int x1), (2, .int x2)]) (st' := [.int (0 : Int32)]) (S1 := (SH ++ (kcost :: X))) (V1 := V) rfl ?_
      obtain rfl := Option.some.inj h
      exact rn_ret rfl rfl rfl
    · refine rn_brF rfl rfl rfl rfl hc ?_
      refine rn_go 4 (pc' := 24) (l' := [(0, .ref 64), (1, .int x1), (2, .int x2)]) (st' := [.int ((999 : Int32) - x2)]) (S1 := (SH ++ (kcost :: X))) (V1 := V) rfl ?_
      obtain rfl := Option.some.inj h
      exact rn_ret rfl rfl rfl
def d_Plan_leastFrom_R : Nat → Int32 → Int32 → ai_V → Option (Int32 × ai_V)
  | 0, _, _, _ => none
  | n + 1, x1, x2, V => d_Plan_leastFrom_B (d_Plan_leastFrom_R n) x1 x2 V
theorem t_Plan_leastFrom_R : ∀ (n : Nat) {X : ai_S} {e : Nat} (hd : n * 2 + 5 ≤ e) (x1 : Int32) (x2 : Int32) (V : ai_V) (r : (Int32 × ai_V)), d_Plan_leastFrom_R n x1 x2 V = some r → Rn e 57 0 (lv_args 0 [.ref 64, .int x1, .int x2]) [] (SH ++ (kcost :: X)) V (some (.int r.1)) (SH ++ (kcost :: X)) r.2 := by
  intro n
  induction n with
  | zero =>
    intro X e hd x1 x2 V r h
    cases h
  | succ n ih =>
    intro X e hd x1 x2 V r h
    exact t_Plan_leastFrom_B (d_Plan_leastFrom_R n) (n * 2 + 5) (fun hd2 => ih hd2) (by omega) (show d_Plan_leastFrom_B (d_Plan_leastFrom_R n) x1 x2 V = some r from h)
def d_Plan_leastFrom : Int32 → Int32 → ai_V → Option (Int32 × ai_V) := d_Plan_leastFrom_R 80
theorem t_Plan_leastFrom {X : ai_S} {e : Nat} (hd : 165 ≤ e) {x1 : Int32} {x2 : Int32} {V : ai_V} {r : (Int32 × ai_V)} (h : d_Plan_leastFrom x1 x2 V = some r) : Rn e 57 0 (lv_args 0 [.ref 64, .int x1, .int x2]) [] (SH ++ (kcost :: X)) V (some (.int r.1)) (SH ++ (kcost :: X)) r.2 := t_Plan_leastFrom_R 80 (by omega) x1 x2 V r h
def d_Plan_costOf : Int32 → Int32 → Int32 → ai_V → Option (Int32 × ai_V) := d_Plan_costOf_B d_Plan_leastFrom
theorem t_Plan_costOf {X : ai_S} {e : Nat} (hd : 166 ≤ e) {x1 : Int32} {x2 : Int32} {x3 : Int32} {V : ai_V} {r : (Int32 × ai_V)} (h : d_Plan_costOf x1 x2 x3 V = some r) : Rn e 56 0 (lv_args 0 [.ref 64, .int x1, .int x2, .int x3]) [] (SH ++ (kcost :: X)) V (some (.int r.1)) (SH ++ (kcost :: X)) r.2 := t_Plan_costOf_B d_Plan_leastFrom 165 (fun hd2 => t_Plan_leastFrom_R 80 hd2) (by omega) h
-- RentByTheWheel$Plan.levelBehind(III)I (64, None, None, None)
def d_Plan_levelBehind (x1 : Int32) (x2 : Int32) (x3 : Int32) (V : ai_V) : Option (Int32 × ai_V) :=
  (d_Wheel_pass_15_65 x3 (-1 : Int32) (si (si V 65 0 ((gi V 64 3) + x1)) 65 1 x2)).bind fun q1 => (some ((gi q1 65 1), q1))
set_option maxRecDepth 20000 in
theorem t_Plan_levelBehind {X : ai_S} {e : Nat} (hd : 4 ≤ e) {x1 : Int32} {x2 : Int32} {x3 : Int32} {V : ai_V} {r : (Int32 × ai_V)} (h : d_Plan_levelBehind x1 x2 x3 V = some r) : Rn e 61 0 (lv_args 0 [.ref 64, .int x1, .int x2, .int x3]) [] (SH ++ (kcost :: X)) V (some (.int r.1)) (SH ++ (kcost :: X)) r.2 := by
  rw [d_Plan_levelBehind] at h
  refine rn_go 17 (pc' := 31) (l' := [(0, .ref 64), (1, .int x1), (2, .int x2), (3, .int x3)]) (st' := [.int (-1 : Int32), .int x3, .ref 65, .ref 15]) (S1 := (SH ++ (kcost :: X))) (V1 := (si (si V 65 0 ((gi V 64 3) + x1)) 65 1 x2)) rfl ?_
  obtain ⟨q1, hq1, h⟩ := ai_bd h
  refine rn_call rfl rfl rfl rfl rfl rfl (by omega) (t_Wheel_pass_15_65 (by omega) hq1) ?_
  refine rn_go 3 (pc' := 41) (l' := [(0, .ref 64), (1, .int x1), (2, .int x2), (3, .int x3)]) (st' := [.int (gi q1 65 1)]) (S1 := (SH ++ (kcost :: X))) (V1 := q1) rfl ?_
  obtain rfl := Option.some.inj h
  exact rn_ret rfl rfl rfl
-- RentByTheWheel$Plan.tellInto(LRentByTheWheel$Row;I)V (64, 22, None)
def d_Plan_tellInto_50 (F6 : Int32 → Int32 → ai_V → Option ai_V) (x2 : Int32) (x3 : Int32) (x5 : Int32) (V : ai_V) : Option ai_V :=
  (d_Row_add (x5).toInt64 V).bind fun q1 => ((d_Plan_levelBehind x3 x2 x5 q1).bind fun q2 => (F6 q2.1 (x3 + (1 : Int32)) q2.2))
set_option maxRecDepth 20000 in
theorem t_Plan_tellInto_50 {X : ai_S} {e : Nat} (hd : 167 ≤ e) (F6 : Int32 → Int32 → ai_V → Option ai_V) (hF6 : ∀ (x2 : Int32) (x3 : Int32) (V : ai_V) (r : ai_V), F6 x2 x3 V = some r → Rn e 62 6 [(0, .ref 64), (1, .ref 22), (2, .int x2), (3, .int x3)] [] (SH ++ (kcost :: X)) V none (SH ++ (kcost :: X)) r) (x2 : Int32) (x3 : Int32) (x5 : Int32) (V : ai_V) (r : ai_V) (h : d_Plan_tellInto_50 F6 x2 x3 x5 V = some r) : Rn e 62 50 [(0, .ref 64), (1, .ref 22), (2, .int x2), (3, .int x3), (5, .int x5)] [] (SH ++ (kcost :: X)) V none (SH ++ (kcost :: X)) r := by
  rw [d_Plan_tellInto_50] at h
  refine rn_go 3 (pc' := 54) (l' := [(0, .ref 64), (1, .ref 22), (2, .int x2), (3, .int x3), (5, .int x5)]) (st' := [.long (x5).toInt64, .ref 22]) (S1 := (SH ++ (kcost :: X))) (V1 := V) rfl ?_
  obtain ⟨q1, hq1, h⟩ := ai_bd h
  refine rn_call rfl rfl rfl rfl rfl rfl (by omega) (t_Row_add (by omega) hq1) ?_
  refine rn_go 4 (pc' := 62) (l' := [(0, .ref 64), (1, .ref 22), (2, .int x2), (3, .int x3), (5, .int x5)]) (st' := [.int x5, .int x2, .int x3, .ref 64]) (S1 := (SH ++ (kcost :: X))) (V1 := q1) rfl ?_
  obtain ⟨q2, hq2, h⟩ := ai_bd h
  refine rn_call rfl rfl rfl rfl rfl rfl (by omega) (t_Plan_levelBehind (by omega) hq2) ?_
  refine rn_go 3 (pc' := 6) (l' := [(3, .int (x3 + (1 : Int32))), (2, .int q2.1), (0, .ref 64), (1, .ref 22), (5, .int x5)]) (st' := []) (S1 := (SH ++ (kcost :: X))) (V1 := q2.2) rfl ?_
  exact rn_sub [2, 3, 1, 0] rfl rfl (hF6 q2.1 (x3 + (1 : Int32)) q2.2 _ h)
def d_Plan_tellInto_25 (F6 : Int32 → Int32 → ai_V → Option ai_V) : Nat → Int32 → Int32 → Int32 → Int32 → ai_V → Option ai_V
  | 0, _, _, _, _, _ => none
  | n + 1, x2, x3, x4, x5, V => if (5 : Int32) ≤ x5 then (d_Plan_tellInto_50 F6 x2 x3 x5 V) else ((d_Plan_costOf x3 x2 x5 V).bind fun q3 => (if q3.1 = x4 then (d_Plan_tellInto_50 F6 x2 x3 x5 q3.2) else (d_Plan_tellInto_25 F6 n x2 x3 x4 (x5 + (1 : Int32)) q3.2)))
set_option maxRecDepth 20000 in
theorem t_Plan_tellInto_25 {X : ai_S} {e : Nat} (hd : 167 ≤ e) (F6 : Int32 → Int32 → ai_V → Option ai_V) (hF6 : ∀ (x2 : Int32) (x3 : Int32) (V : ai_V) (r : ai_V), F6 x2 x3 V = some r → Rn e 62 6 [(0, .ref 64), (1, .ref 22), (2, .int x2), (3, .int x3)] [] (SH ++ (kcost :: X)) V none (SH ++ (kcost :: X)) r) : ∀ (n : Nat) (x2 : Int32) (x3 : Int32) (x4 : Int32) (x5 : Int32) (V : ai_V) (r : ai_V), d_Plan_tellInto_25 F6 n x2 x3 x4 x5 V = some r → Rn e 62 25 [(0, .ref 64), (1, .ref 22), (2, .int x2), (3, .int x3), (4, .int x4), (5, .int x5)] [] (SH ++ (kcost :: X)) V none (SH ++ (kcost :: X)) r := by
  intro n
  induction n with
  | zero =>
    intro x2 x3 x4 x5 V r h
    cases h
  | succ n ih =>
    intro x2 x3 x4 x5 V r h
    rw [d_Plan_tellInto_25] at h
    refine rn_go 2 (pc' := 28) (l' := [(0, .ref 64), (1, .ref 22), (2, .int x2), (3, .int x3), (4, .int x4), (5, .int x5)]) (st' := [.int (5 : Int32), .int x5]) (S1 := (SH ++ (kcost :: X))) (V1 := V) rfl ?_
    rcases ai_if h with ⟨hc, h⟩ | ⟨hc, h⟩
    · refine rn_brT rfl rfl rfl rfl hc ?_
      exact rn_sub [0, 1, 2, 3, 5] rfl rfl (t_Plan_tellInto_50 (X := X) hd F6 hF6 x2 x3 x5 V _ h)
    · refine rn_brF rfl rfl rfl rfl hc ?_
      refine rn_go 4 (pc' := 36) (l' := [(0, .ref 64), (1, .ref 22), (2, .int x2), (3, .int x3), (4, .int x4), (5, .int x5)]) (st' := [.int x5, .int x2, .int x3, .ref 64]) (S1 := (SH ++ (kcost :: X))) (V1 := V) rfl ?_
      obtain ⟨q3, hq3, h⟩ := ai_bd h
      refine rn_call rfl rfl rfl rfl rfl rfl (by omega) (t_Plan_costOf (by omega) hq3) ?_
      refine rn_go 1 (pc' := 41) (l' := [(0, .ref 64), (1, .ref 22), (2, .int x2), (3, .int x3), (4, .int x4), (5, .int x5)]) (st' := [.int x4, .int q3.1]) (S1 := (SH ++ (kcost :: X))) (V1 := q3.2) rfl ?_
      rcases ai_if h with ⟨hc, h⟩ | ⟨hc, h⟩
      · refine rn_brT rfl rfl rfl rfl hc ?_
        exact rn_sub [0, 1, 2, 3, 5] rfl rfl (t_Plan_tellInto_50 (X := X) hd F6 hF6 x2 x3 x5 q3.2 _ h)
      · refine rn_brF rfl rfl rfl rfl hc ?_
        refine rn_go 2 (pc' := 25) (l' := [(5, .int (x5 + (1 : Int32))), (0, .ref 64), (1, .ref 22), (2, .int x2), (3, .int x3), (4, .int x4)]) (st' := []) (S1 := (SH ++ (kcost :: X))) (V1 := q3.2) rfl ?_
        exact rn_sub [1, 2, 3, 4, 5, 0] rfl rfl (ih x2 x3 x4 (x5 + (1 : Int32)) q3.2 _ h)
def d_Plan_tellInto_6  : Nat → Int32 → Int32 → ai_V → Option ai_V
  | 0, _, _, _ => none
  | n + 1, x2, x3, V => if (gi V 64 5) ≤ x3 then (some V) else ((d_Plan_leastFrom x3 x2 V).bind fun q4 => (d_Plan_tellInto_25 (d_Plan_tellInto_6 n) ai_N x2 x3 q4.1 (-1 : Int32) q4.2))
set_option maxRecDepth 20000 in
theorem t_Plan_tellInto_6 {X : ai_S} {e : Nat} (hd : 167 ≤ e)  : ∀ (n : Nat) (x2 : Int32) (x3 : Int32) (V : ai_V) (r : ai_V), d_Plan_tellInto_6  n x2 x3 V = some r → Rn e 62 6 [(0, .ref 64), (1, .ref 22), (2, .int x2), (3, .int x3)] [] (SH ++ (kcost :: X)) V none (SH ++ (kcost :: X)) r := by
  intro n
  induction n with
  | zero =>
    intro x2 x3 V r h
    cases h
  | succ n ih =>
    intro x2 x3 V r h
    rw [d_Plan_tellInto_6] at h
    refine rn_go 3 (pc' := 11) (l' := [(0, .ref 64), (1, .ref 22), (2, .int x2), (3, .int x3)]) (st' := [.int (gi V 64 5), .int x3]) (S1 := (SH ++ (kcost :: X))) (V1 := V) rfl ?_
    rcases ai_if h with ⟨hc, h⟩ | ⟨hc, h⟩
    · refine rn_brT rfl rfl rfl rfl hc ?_
      obtain rfl := Option.some.inj h
      exact rn_ret rfl rfl rfl
    · refine rn_brF rfl rfl rfl rfl hc ?_
      refine rn_go 3 (pc' := 17) (l' := [(0, .ref 64), (1, .ref 22), (2, .int x2), (3, .int x3)]) (st' := [.int x2, .int x3, .ref 64]) (S1 := (SH ++ (kcost :: X))) (V1 := V) rfl ?_
      obtain ⟨q4, hq4, h⟩ := ai_bd h
      refine rn_call rfl rfl rfl rfl rfl rfl (by omega) (t_Plan_leastFrom (by omega) hq4) ?_
      refine rn_go 3 (pc' := 25) (l' := [(5, .int (-1 : Int32)), (4, .int q4.1), (0, .ref 64), (1, .ref 22), (2, .int x2), (3, .int x3)]) (st' := []) (S1 := (SH ++ (kcost :: X))) (V1 := q4.2) rfl ?_
      exact rn_sub [2, 3, 4, 5, 1, 0] rfl rfl (t_Plan_tellInto_25 (X := X) hd (d_Plan_tellInto_6 n) (ih) ai_N x2 x3 q4.1 (-1 : Int32) q4.2 _ h)
def d_Plan_tellInto (x2 : Int32) (V : ai_V) : Option ai_V :=
  (d_Row_clear  V).bind fun q5 => (d_Plan_tellInto_6 ai_N x2 (0 : Int32) q5)
set_option maxRecDepth 20000 in
theorem t_Plan_tellInto {X : ai_S} {e : Nat} (hd : 167 ≤ e) {x2 : Int32} {V : ai_V} {r : ai_V} (h : d_Plan_tellInto x2 V = some r) : Rn e 62 0 (lv_args 0 [.ref 64, .ref 22, .int x2]) [] (SH ++ (kcost :: X)) V none (SH ++ (kcost :: X)) r := by
  rw [d_Plan_tellInto] at h
  refine rn_go 1 (pc' := 1) (l' := [(0, .ref 64), (1, .ref 22), (2, .int x2)]) (st' := [.ref 22]) (S1 := (SH ++ (kcost :: X))) (V1 := V) rfl ?_
  obtain ⟨q5, hq5, h⟩ := ai_bd h
  refine rn_call rfl rfl rfl rfl rfl rfl (by omega) (t_Row_clear (by omega) hq5) ?_
  refine rn_go 2 (pc' := 6) (l' := [(3, .int (0 : Int32)), (0, .ref 64), (1, .ref 22), (2, .int x2)]) (st' := []) (S1 := (SH ++ (kcost :: X))) (V1 := q5) rfl ?_
  exact rn_sub [1, 2, 3, 0] rfl rfl (t_Plan_tellInto_6 (X := X) hd ai_N x2 (0 : Int32) q5 _ h)
